theorem dL_law_0 : decode cL_law 0 = .ok (.new 8, 3) := by decide +kernel
theorem dL_law_3 : decode cL_law 3 = .ok (.dup, 1) := by decide +kernel
theorem dL_law_4 : decode cL_law 4 = .ok (.invokespecial 122, 3) := by decide +kernel
theorem dL_law_7 : decode cL_law 7 = .ok (.astore_n 1, 1) := by decide +kernel
theorem dL_law_8 : decode cL_law 8 = .ok (.new 123, 3) := by decide +kernel
theorem dL_law_11 : decode cL_law 11 = .ok (.dup, 1) := by decide +kernel
theorem dL_law_12 : decode cL_law 12 = .ok (.invokespecial 125, 3) := by decide +kernel
theorem dL_law_15 : decode cL_law 15 = .ok (.astore_n 2, 1) := by decide +kernel
theorem dL_law_16 : decode cL_law 16 = .ok (.iconst 1, 1) := by decide +kernel
theorem dL_law_17 : decode cL_law 17 = .ok (.newarray .long, 2) := by decide +kernel
theorem dL_law_19 : decode cL_law 19 = .ok (.astore_n 3, 1) := by decide +kernel
theorem dL_law_20 : decode cL_law 20 = .ok (.iconst 0, 1) := by decide +kernel
theorem dL_law_21 : decode cL_law 21 = .ok (.istore 4, 2) := by decide +kernel
theorem dL_law_23 : decode cL_law 23 = .ok (.iload 4, 2) := by decide +kernel
theorem dL_law_25 : decode cL_law 25 = .ok (.aload_n 0, 1) := by decide +kernel
theorem dL_law_26 : decode cL_law 26 = .ok (.arraylength, 1) := by decide +kernel
theorem dL_law_27 : decode cL_law 27 = .ok (.bipush 6, 2) := by decide +kernel
theorem dL_law_29 : decode cL_law 29 = .ok (.isub, 1) := by decide +kernel
theorem dL_law_30 : decode cL_law 30 = .ok (.if_icmp .gt 2610, 3) := by decide +kernel
theorem dL_law_33 : decode cL_law 33 = .ok (.aload_n 0, 1) := by decide +kernel
theorem dL_law_34 : decode cL_law 34 = .ok (.iload 4, 2) := by decide +kernel
theorem dL_law_36 : decode cL_law 36 = .ok (.iaload, 1) := by decide +kernel
theorem dL_law_37 : decode cL_law 37 = .ok (.bipush 63, 2) := by decide +kernel
theorem dL_law_39 : decode cL_law 39 = .ok (.iand, 1) := by decide +kernel
theorem dL_law_40 : decode cL_law 40 = .ok (.tableswitch 2594 0 48 #[212, 285, 310, 354, 367, 403, 483, 551, 619, 699, 767, 823, 836, 904, 955, 1011, 1079, 1135, 1148, 1161, 1174, 1187, 1200, 1213, 1226, 1282, 1326, 1382, 1478, 1534, 1590, 1646, 1702, 1777, 1845, 1901, 1957, 2049, 2090, 2115, 2171, 2212, 2280, 2364, 2377, 2461, 2545, 2556, 2569], 212) := by decide +kernel
theorem dL_law_252 : decode cL_law 252 = .ok (.aload_n 1, 1) := by decide +kernel
theorem dL_law_253 : decode cL_law 253 = .ok (.aload_n 0, 1) := by decide +kernel
theorem dL_law_254 : decode cL_law 254 = .ok (.iload 4, 2) := by decide +kernel
theorem dL_law_256 : decode cL_law 256 = .ok (.iconst 1, 1) := by decide +kernel
theorem dL_law_257 : decode cL_law 257 = .ok (.iadd, 1) := by decide +kernel
theorem dL_law_258 : decode cL_law 258 = .ok (.iaload, 1) := by decide +kernel
theorem dL_law_259 : decode cL_law 259 = .ok (.aload_n 0, 1) := by decide +kernel
theorem dL_law_260 : decode cL_law 260 = .ok (.iload 4, 2) := by decide +kernel
theorem dL_law_262 : decode cL_law 262 = .ok (.iconst 2, 1) := by decide +kernel
theorem dL_law_263 : decode cL_law 263 = .ok (.iadd, 1) := by decide +kernel
theorem dL_law_264 : decode cL_law 264 = .ok (.iaload, 1) := by decide +kernel
theorem dL_law_265 : decode cL_law 265 = .ok (.aload_n 0, 1) := by decide +kernel
theorem dL_law_266 : decode cL_law 266 = .ok (.iload 4, 2) := by decide +kernel
theorem dL_law_268 : decode cL_law 268 = .ok (.iconst 3, 1) := by decide +kernel
theorem dL_law_269 : decode cL_law 269 = .ok (.iadd, 1) := by decide +kernel
theorem dL_law_270 : decode cL_law 270 = .ok (.iaload, 1) := by decide +kernel
theorem dL_law_271 : decode cL_law 271 = .ok (.aload_n 0, 1) := by decide +kernel
theorem dL_law_272 : decode cL_law 272 = .ok (.iload 4, 2) := by decide +kernel
theorem dL_law_274 : decode cL_law 274 = .ok (.iconst 4, 1) := by decide +kernel
theorem dL_law_275 : decode cL_law 275 = .ok (.iadd, 1) := by decide +kernel
theorem dL_law_276 : decode cL_law 276 = .ok (.iaload, 1) := by decide +kernel
theorem dL_law_277 : decode cL_law 277 = .ok (.aload_n 0, 1) := by decide +kernel
theorem dL_law_278 : decode cL_law 278 = .ok (.iload 4, 2) := by decide +kernel
theorem dL_law_280 : decode cL_law 280 = .ok (.iconst 5, 1) := by decide +kernel
theorem dL_law_281 : decode cL_law 281 = .ok (.iadd, 1) := by decide +kernel
theorem dL_law_282 : decode cL_law 282 = .ok (.iaload, 1) := by decide +kernel
theorem dL_law_283 : decode cL_law 283 = .ok (.invokevirtual 126, 3) := by decide +kernel
theorem dL_law_286 : decode cL_law 286 = .ok (.aload_n 2, 1) := by decide +kernel
theorem dL_law_287 : decode cL_law 287 = .ok (.aload_n 0, 1) := by decide +kernel
theorem dL_law_288 : decode cL_law 288 = .ok (.iload 4, 2) := by decide +kernel
theorem dL_law_290 : decode cL_law 290 = .ok (.iconst 1, 1) := by decide +kernel
theorem dL_law_291 : decode cL_law 291 = .ok (.iadd, 1) := by decide +kernel
theorem dL_law_292 : decode cL_law 292 = .ok (.iaload, 1) := by decide +kernel
theorem dL_law_293 : decode cL_law 293 = .ok (.aload_n 0, 1) := by decide +kernel
theorem dL_law_294 : decode cL_law 294 = .ok (.iload 4, 2) := by decide +kernel
theorem dL_law_296 : decode cL_law 296 = .ok (.iconst 2, 1) := by decide +kernel
theorem dL_law_297 : decode cL_law 297 = .ok (.iadd, 1) := by decide +kernel
theorem dL_law_298 : decode cL_law 298 = .ok (.iaload, 1) := by decide +kernel
theorem dL_law_299 : decode cL_law 299 = .ok (.aload_n 0, 1) := by decide +kernel
theorem dL_law_300 : decode cL_law 300 = .ok (.iload 4, 2) := by decide +kernel
theorem dL_law_302 : decode cL_law 302 = .ok (.iconst 3, 1) := by decide +kernel
theorem dL_law_303 : decode cL_law 303 = .ok (.iadd, 1) := by decide +kernel
theorem dL_law_304 : decode cL_law 304 = .ok (.iaload, 1) := by decide +kernel
theorem dL_law_305 : decode cL_law 305 = .ok (.aload_n 0, 1) := by decide +kernel
theorem dL_law_306 : decode cL_law 306 = .ok (.iload 4, 2) := by decide +kernel
theorem dL_law_308 : decode cL_law 308 = .ok (.iconst 4, 1) := by decide +kernel
theorem dL_law_309 : decode cL_law 309 = .ok (.iadd, 1) := by decide +kernel
theorem dL_law_310 : decode cL_law 310 = .ok (.iaload, 1) := by decide +kernel
theorem dL_law_311 : decode cL_law 311 = .ok (.aload_n 0, 1) := by decide +kernel
theorem dL_law_312 : decode cL_law 312 = .ok (.iload 4, 2) := by decide +kernel
theorem dL_law_314 : decode cL_law 314 = .ok (.iconst 5, 1) := by decide +kernel
theorem dL_law_315 : decode cL_law 315 = .ok (.iadd, 1) := by decide +kernel
theorem dL_law_316 : decode cL_law 316 = .ok (.iaload, 1) := by decide +kernel
theorem dL_law_317 : decode cL_law 317 = .ok (.invokevirtual 130, 3) := by decide +kernel
theorem dL_law_320 : decode cL_law 320 = .ok (.if_icmp .eq 2314, 3) := by decide +kernel
theorem dL_law_323 : decode cL_law 323 = .ok (.iconst 0, 1) := by decide +kernel
theorem dL_law_324 : decode cL_law 324 = .ok (.ireturn, 1) := by decide +kernel
theorem dL_law_325 : decode cL_law 325 = .ok (.aload_n 1, 1) := by decide +kernel
theorem dL_law_326 : decode cL_law 326 = .ok (.aload_n 0, 1) := by decide +kernel
theorem dL_law_327 : decode cL_law 327 = .ok (.iload 4, 2) := by decide +kernel
theorem dL_law_329 : decode cL_law 329 = .ok (.iconst 1, 1) := by decide +kernel
theorem dL_law_330 : decode cL_law 330 = .ok (.iadd, 1) := by decide +kernel
theorem dL_law_331 : decode cL_law 331 = .ok (.iaload, 1) := by decide +kernel
theorem dL_law_332 : decode cL_law 332 = .ok (.invokevirtual 131, 3) := by decide +kernel
theorem dL_law_335 : decode cL_law 335 = .ok (.aload_n 2, 1) := by decide +kernel
theorem dL_law_336 : decode cL_law 336 = .ok (.aload_n 0, 1) := by decide +kernel
theorem dL_law_337 : decode cL_law 337 = .ok (.iload 4, 2) := by decide +kernel
theorem dL_law_339 : decode cL_law 339 = .ok (.iconst 1, 1) := by decide +kernel
theorem dL_law_340 : decode cL_law 340 = .ok (.iadd, 1) := by decide +kernel
theorem dL_law_341 : decode cL_law 341 = .ok (.iaload, 1) := by decide +kernel
theorem dL_law_342 : decode cL_law 342 = .ok (.invokevirtual 135, 3) := by decide +kernel
theorem dL_law_345 : decode cL_law 345 = .ok (.if_icmp .eq 2289, 3) := by decide +kernel
theorem dL_law_348 : decode cL_law 348 = .ok (.iconst 0, 1) := by decide +kernel
theorem dL_law_349 : decode cL_law 349 = .ok (.ireturn, 1) := by decide +kernel
theorem dL_law_350 : decode cL_law 350 = .ok (.aload_n 1, 1) := by decide +kernel
theorem dL_law_351 : decode cL_law 351 = .ok (.aload_n 3, 1) := by decide +kernel
theorem dL_law_352 : decode cL_law 352 = .ok (.invokestatic 136, 3) := by decide +kernel
theorem dL_law_355 : decode cL_law 355 = .ok (.istore 5, 2) := by decide +kernel
theorem dL_law_357 : decode cL_law 357 = .ok (.aload_n 2, 1) := by decide +kernel
theorem dL_law_358 : decode cL_law 358 = .ok (.invokevirtual 141, 3) := by decide +kernel
theorem dL_law_361 : decode cL_law 361 = .ok (.istore 6, 2) := by decide +kernel
theorem dL_law_363 : decode cL_law 363 = .ok (.aload_n 2, 1) := by decide +kernel
theorem dL_law_364 : decode cL_law 364 = .ok (.invokevirtual 142, 3) := by decide +kernel
theorem dL_law_367 : decode cL_law 367 = .ok (.iload 5, 2) := by decide +kernel
theorem dL_law_369 : decode cL_law 369 = .ok (.if_icmp .eq 5, 3) := by decide +kernel
theorem dL_law_372 : decode cL_law 372 = .ok (.iconst 0, 1) := by decide +kernel
theorem dL_law_373 : decode cL_law 373 = .ok (.ireturn, 1) := by decide +kernel
theorem dL_law_374 : decode cL_law 374 = .ok (.iload 5, 2) := by decide +kernel
theorem dL_law_376 : decode cL_law 376 = .ok (.ifCond .ne 15, 3) := by decide +kernel
theorem dL_law_379 : decode cL_law 379 = .ok (.aload_n 3, 1) := by decide +kernel
theorem dL_law_380 : decode cL_law 380 = .ok (.iconst 0, 1) := by decide +kernel
theorem dL_law_381 : decode cL_law 381 = .ok (.laload, 1) := by decide +kernel
theorem dL_law_382 : decode cL_law 382 = .ok (.iload 6, 2) := by decide +kernel
theorem dL_law_384 : decode cL_law 384 = .ok (.i2l, 1) := by decide +kernel
theorem dL_law_385 : decode cL_law 385 = .ok (.lcmp, 1) := by decide +kernel
theorem dL_law_386 : decode cL_law 386 = .ok (.ifCond .eq 5, 3) := by decide +kernel
theorem dL_law_389 : decode cL_law 389 = .ok (.iconst 0, 1) := by decide +kernel
theorem dL_law_390 : decode cL_law 390 = .ok (.ireturn, 1) := by decide +kernel
theorem dL_law_391 : decode cL_law 391 = .ok (.goto 2243, 3) := by decide +kernel
theorem dL_law_394 : decode cL_law 394 = .ok (.aload_n 1, 1) := by decide +kernel
theorem dL_law_395 : decode cL_law 395 = .ok (.invokevirtual 145, 3) := by decide +kernel
theorem dL_law_398 : decode cL_law 398 = .ok (.aload_n 2, 1) := by decide +kernel
theorem dL_law_399 : decode cL_law 399 = .ok (.invokevirtual 148, 3) := by decide +kernel
theorem dL_law_402 : decode cL_law 402 = .ok (.if_icmp .eq 2232, 3) := by decide +kernel
theorem dL_law_405 : decode cL_law 405 = .ok (.iconst 0, 1) := by decide +kernel
theorem dL_law_406 : decode cL_law 406 = .ok (.ireturn, 1) := by decide +kernel
theorem dL_law_407 : decode cL_law 407 = .ok (.aload_n 1, 1) := by decide +kernel
theorem dL_law_408 : decode cL_law 408 = .ok (.aload_n 0, 1) := by decide +kernel
theorem dL_law_409 : decode cL_law 409 = .ok (.iload 4, 2) := by decide +kernel
theorem dL_law_411 : decode cL_law 411 = .ok (.iconst 1, 1) := by decide +kernel
theorem dL_law_412 : decode cL_law 412 = .ok (.iadd, 1) := by decide +kernel
theorem dL_law_413 : decode cL_law 413 = .ok (.iaload, 1) := by decide +kernel
theorem dL_law_414 : decode cL_law 414 = .ok (.invokestatic 149, 3) := by decide +kernel
theorem dL_law_417 : decode cL_law 417 = .ok (.istore 5, 2) := by decide +kernel
theorem dL_law_419 : decode cL_law 419 = .ok (.aload_n 2, 1) := by decide +kernel
theorem dL_law_420 : decode cL_law 420 = .ok (.aload_n 0, 1) := by decide +kernel
theorem dL_law_421 : decode cL_law 421 = .ok (.iload 4, 2) := by decide +kernel
theorem dL_law_423 : decode cL_law 423 = .ok (.iconst 1, 1) := by decide +kernel
theorem dL_law_424 : decode cL_law 424 = .ok (.iadd, 1) := by decide +kernel
theorem dL_law_425 : decode cL_law 425 = .ok (.iaload, 1) := by decide +kernel
theorem dL_law_426 : decode cL_law 426 = .ok (.invokevirtual 152, 3) := by decide +kernel
theorem dL_law_429 : decode cL_law 429 = .ok (.aload_n 2, 1) := by decide +kernel
theorem dL_law_430 : decode cL_law 430 = .ok (.invokevirtual 142, 3) := by decide +kernel
theorem dL_law_433 : decode cL_law 433 = .ok (.iload 5, 2) := by decide +kernel
theorem dL_law_435 : decode cL_law 435 = .ok (.if_icmp .eq 5, 3) := by decide +kernel
theorem dL_law_438 : decode cL_law 438 = .ok (.iconst 0, 1) := by decide +kernel
theorem dL_law_439 : decode cL_law 439 = .ok (.ireturn, 1) := by decide +kernel
theorem dL_law_440 : decode cL_law 440 = .ok (.goto 2194, 3) := by decide +kernel
theorem dL_law_443 : decode cL_law 443 = .ok (.aload_n 1, 1) := by decide +kernel
theorem dL_law_444 : decode cL_law 444 = .ok (.aload_n 0, 1) := by decide +kernel
theorem dL_law_445 : decode cL_law 445 = .ok (.iload 4, 2) := by decide +kernel
theorem dL_law_447 : decode cL_law 447 = .ok (.iconst 1, 1) := by decide +kernel
theorem dL_law_448 : decode cL_law 448 = .ok (.iadd, 1) := by decide +kernel
theorem dL_law_449 : decode cL_law 449 = .ok (.iaload, 1) := by decide +kernel
theorem dL_law_450 : decode cL_law 450 = .ok (.aload_n 0, 1) := by decide +kernel
theorem dL_law_451 : decode cL_law 451 = .ok (.iload 4, 2) := by decide +kernel
theorem dL_law_453 : decode cL_law 453 = .ok (.iconst 2, 1) := by decide +kernel
theorem dL_law_454 : decode cL_law 454 = .ok (.iadd, 1) := by decide +kernel
theorem dL_law_455 : decode cL_law 455 = .ok (.iaload, 1) := by decide +kernel
theorem dL_law_456 : decode cL_law 456 = .ok (.aload_n 0, 1) := by decide +kernel
theorem dL_law_457 : decode cL_law 457 = .ok (.iload 4, 2) := by decide +kernel
theorem dL_law_459 : decode cL_law 459 = .ok (.iconst 3, 1) := by decide +kernel
theorem dL_law_460 : decode cL_law 460 = .ok (.iadd, 1) := by decide +kernel
theorem dL_law_461 : decode cL_law 461 = .ok (.iaload, 1) := by decide +kernel
theorem dL_law_462 : decode cL_law 462 = .ok (.aload_n 3, 1) := by decide +kernel
theorem dL_law_463 : decode cL_law 463 = .ok (.invokestatic 153, 3) := by decide +kernel
theorem dL_law_466 : decode cL_law 466 = .ok (.istore 5, 2) := by decide +kernel
theorem dL_law_468 : decode cL_law 468 = .ok (.aload_n 2, 1) := by decide +kernel
theorem dL_law_469 : decode cL_law 469 = .ok (.aload_n 0, 1) := by decide +kernel
theorem dL_law_470 : decode cL_law 470 = .ok (.iload 4, 2) := by decide +kernel
theorem dL_law_472 : decode cL_law 472 = .ok (.iconst 1, 1) := by decide +kernel
theorem dL_law_473 : decode cL_law 473 = .ok (.iadd, 1) := by decide +kernel
theorem dL_law_474 : decode cL_law 474 = .ok (.iaload, 1) := by decide +kernel
theorem dL_law_475 : decode cL_law 475 = .ok (.aload_n 0, 1) := by decide +kernel
theorem dL_law_476 : decode cL_law 476 = .ok (.iload 4, 2) := by decide +kernel
theorem dL_law_478 : decode cL_law 478 = .ok (.iconst 2, 1) := by decide +kernel
theorem dL_law_479 : decode cL_law 479 = .ok (.iadd, 1) := by decide +kernel
theorem dL_law_480 : decode cL_law 480 = .ok (.iaload, 1) := by decide +kernel
theorem dL_law_481 : decode cL_law 481 = .ok (.aload_n 0, 1) := by decide +kernel
theorem dL_law_482 : decode cL_law 482 = .ok (.iload 4, 2) := by decide +kernel
theorem dL_law_484 : decode cL_law 484 = .ok (.iconst 3, 1) := by decide +kernel
theorem dL_law_485 : decode cL_law 485 = .ok (.iadd, 1) := by decide +kernel
theorem dL_law_486 : decode cL_law 486 = .ok (.iaload, 1) := by decide +kernel
theorem dL_law_487 : decode cL_law 487 = .ok (.invokevirtual 156, 3) := by decide +kernel
theorem dL_law_490 : decode cL_law 490 = .ok (.istore 6, 2) := by decide +kernel
theorem dL_law_492 : decode cL_law 492 = .ok (.aload_n 2, 1) := by decide +kernel
theorem dL_law_493 : decode cL_law 493 = .ok (.invokevirtual 142, 3) := by decide +kernel
theorem dL_law_496 : decode cL_law 496 = .ok (.iload 5, 2) := by decide +kernel
theorem dL_law_498 : decode cL_law 498 = .ok (.if_icmp .eq 5, 3) := by decide +kernel
theorem dL_law_501 : decode cL_law 501 = .ok (.iconst 0, 1) := by decide +kernel
theorem dL_law_502 : decode cL_law 502 = .ok (.ireturn, 1) := by decide +kernel
theorem dL_law_503 : decode cL_law 503 = .ok (.iload 5, 2) := by decide +kernel
theorem dL_law_505 : decode cL_law 505 = .ok (.ifCond .ne 15, 3) := by decide +kernel
theorem dL_law_508 : decode cL_law 508 = .ok (.aload_n 3, 1) := by decide +kernel
theorem dL_law_509 : decode cL_law 509 = .ok (.iconst 0, 1) := by decide +kernel
theorem dL_law_510 : decode cL_law 510 = .ok (.laload, 1) := by decide +kernel
theorem dL_law_511 : decode cL_law 511 = .ok (.iload 6, 2) := by decide +kernel
theorem dL_law_513 : decode cL_law 513 = .ok (.i2l, 1) := by decide +kernel
theorem dL_law_514 : decode cL_law 514 = .ok (.lcmp, 1) := by decide +kernel
theorem dL_law_515 : decode cL_law 515 = .ok (.ifCond .eq 5, 3) := by decide +kernel
theorem dL_law_518 : decode cL_law 518 = .ok (.iconst 0, 1) := by decide +kernel
theorem dL_law_519 : decode cL_law 519 = .ok (.ireturn, 1) := by decide +kernel
theorem dL_law_520 : decode cL_law 520 = .ok (.goto 2114, 3) := by decide +kernel
theorem dL_law_523 : decode cL_law 523 = .ok (.aload_n 1, 1) := by decide +kernel
theorem dL_law_524 : decode cL_law 524 = .ok (.aload_n 0, 1) := by decide +kernel
theorem dL_law_525 : decode cL_law 525 = .ok (.iload 4, 2) := by decide +kernel
theorem dL_law_527 : decode cL_law 527 = .ok (.iconst 1, 1) := by decide +kernel
theorem dL_law_528 : decode cL_law 528 = .ok (.iadd, 1) := by decide +kernel
theorem dL_law_529 : decode cL_law 529 = .ok (.iaload, 1) := by decide +kernel
theorem dL_law_530 : decode cL_law 530 = .ok (.aload_n 0, 1) := by decide +kernel
theorem dL_law_531 : decode cL_law 531 = .ok (.iload 4, 2) := by decide +kernel
theorem dL_law_533 : decode cL_law 533 = .ok (.iconst 2, 1) := by decide +kernel
theorem dL_law_534 : decode cL_law 534 = .ok (.iadd, 1) := by decide +kernel
theorem dL_law_535 : decode cL_law 535 = .ok (.iaload, 1) := by decide +kernel
theorem dL_law_536 : decode cL_law 536 = .ok (.aload_n 3, 1) := by decide +kernel
theorem dL_law_537 : decode cL_law 537 = .ok (.invokestatic 157, 3) := by decide +kernel
theorem dL_law_540 : decode cL_law 540 = .ok (.istore 5, 2) := by decide +kernel
theorem dL_law_542 : decode cL_law 542 = .ok (.aload_n 2, 1) := by decide +kernel
theorem dL_law_543 : decode cL_law 543 = .ok (.aload_n 0, 1) := by decide +kernel
theorem dL_law_544 : decode cL_law 544 = .ok (.iload 4, 2) := by decide +kernel
theorem dL_law_546 : decode cL_law 546 = .ok (.iconst 1, 1) := by decide +kernel
theorem dL_law_547 : decode cL_law 547 = .ok (.iadd, 1) := by decide +kernel
theorem dL_law_548 : decode cL_law 548 = .ok (.iaload, 1) := by decide +kernel
theorem dL_law_549 : decode cL_law 549 = .ok (.aload_n 0, 1) := by decide +kernel
theorem dL_law_550 : decode cL_law 550 = .ok (.iload 4, 2) := by decide +kernel
theorem dL_law_552 : decode cL_law 552 = .ok (.iconst 2, 1) := by decide +kernel
theorem dL_law_553 : decode cL_law 553 = .ok (.iadd, 1) := by decide +kernel
theorem dL_law_554 : decode cL_law 554 = .ok (.iaload, 1) := by decide +kernel
theorem dL_law_555 : decode cL_law 555 = .ok (.invokevirtual 160, 3) := by decide +kernel
theorem dL_law_558 : decode cL_law 558 = .ok (.istore 6, 2) := by decide +kernel
theorem dL_law_560 : decode cL_law 560 = .ok (.aload_n 2, 1) := by decide +kernel
theorem dL_law_561 : decode cL_law 561 = .ok (.invokevirtual 142, 3) := by decide +kernel
theorem dL_law_564 : decode cL_law 564 = .ok (.iload 5, 2) := by decide +kernel
theorem dL_law_566 : decode cL_law 566 = .ok (.if_icmp .eq 5, 3) := by decide +kernel
theorem dL_law_569 : decode cL_law 569 = .ok (.iconst 0, 1) := by decide +kernel
theorem dL_law_570 : decode cL_law 570 = .ok (.ireturn, 1) := by decide +kernel
theorem dL_law_571 : decode cL_law 571 = .ok (.iload 5, 2) := by decide +kernel
theorem dL_law_573 : decode cL_law 573 = .ok (.ifCond .ne 15, 3) := by decide +kernel
theorem dL_law_576 : decode cL_law 576 = .ok (.aload_n 3, 1) := by decide +kernel
theorem dL_law_577 : decode cL_law 577 = .ok (.iconst 0, 1) := by decide +kernel
theorem dL_law_578 : decode cL_law 578 = .ok (.laload, 1) := by decide +kernel
theorem dL_law_579 : decode cL_law 579 = .ok (.iload 6, 2) := by decide +kernel
theorem dL_law_581 : decode cL_law 581 = .ok (.i2l, 1) := by decide +kernel
theorem dL_law_582 : decode cL_law 582 = .ok (.lcmp, 1) := by decide +kernel
theorem dL_law_583 : decode cL_law 583 = .ok (.ifCond .eq 5, 3) := by decide +kernel
theorem dL_law_586 : decode cL_law 586 = .ok (.iconst 0, 1) := by decide +kernel
theorem dL_law_587 : decode cL_law 587 = .ok (.ireturn, 1) := by decide +kernel
theorem dL_law_588 : decode cL_law 588 = .ok (.goto 2046, 3) := by decide +kernel
theorem dL_law_591 : decode cL_law 591 = .ok (.aload_n 1, 1) := by decide +kernel
theorem dL_law_592 : decode cL_law 592 = .ok (.aload_n 0, 1) := by decide +kernel
theorem dL_law_593 : decode cL_law 593 = .ok (.iload 4, 2) := by decide +kernel
theorem dL_law_595 : decode cL_law 595 = .ok (.iconst 1, 1) := by decide +kernel
theorem dL_law_596 : decode cL_law 596 = .ok (.iadd, 1) := by decide +kernel
theorem dL_law_597 : decode cL_law 597 = .ok (.iaload, 1) := by decide +kernel
theorem dL_law_598 : decode cL_law 598 = .ok (.aload_n 0, 1) := by decide +kernel
theorem dL_law_599 : decode cL_law 599 = .ok (.iload 4, 2) := by decide +kernel
theorem dL_law_601 : decode cL_law 601 = .ok (.iconst 2, 1) := by decide +kernel
theorem dL_law_602 : decode cL_law 602 = .ok (.iadd, 1) := by decide +kernel
theorem dL_law_603 : decode cL_law 603 = .ok (.iaload, 1) := by decide +kernel
theorem dL_law_604 : decode cL_law 604 = .ok (.aload_n 3, 1) := by decide +kernel
theorem dL_law_605 : decode cL_law 605 = .ok (.invokestatic 161, 3) := by decide +kernel
theorem dL_law_608 : decode cL_law 608 = .ok (.istore 5, 2) := by decide +kernel
theorem dL_law_610 : decode cL_law 610 = .ok (.aload_n 2, 1) := by decide +kernel
theorem dL_law_611 : decode cL_law 611 = .ok (.aload_n 0, 1) := by decide +kernel
theorem dL_law_612 : decode cL_law 612 = .ok (.iload 4, 2) := by decide +kernel
theorem dL_law_614 : decode cL_law 614 = .ok (.iconst 1, 1) := by decide +kernel
theorem dL_law_615 : decode cL_law 615 = .ok (.iadd, 1) := by decide +kernel
theorem dL_law_616 : decode cL_law 616 = .ok (.iaload, 1) := by decide +kernel
theorem dL_law_617 : decode cL_law 617 = .ok (.aload_n 0, 1) := by decide +kernel
theorem dL_law_618 : decode cL_law 618 = .ok (.iload 4, 2) := by decide +kernel
theorem dL_law_620 : decode cL_law 620 = .ok (.iconst 2, 1) := by decide +kernel
theorem dL_law_621 : decode cL_law 621 = .ok (.iadd, 1) := by decide +kernel
theorem dL_law_622 : decode cL_law 622 = .ok (.iaload, 1) := by decide +kernel
theorem dL_law_623 : decode cL_law 623 = .ok (.invokevirtual 163, 3) := by decide +kernel
theorem dL_law_626 : decode cL_law 626 = .ok (.istore 6, 2) := by decide +kernel
theorem dL_law_628 : decode cL_law 628 = .ok (.aload_n 2, 1) := by decide +kernel
theorem dL_law_629 : decode cL_law 629 = .ok (.invokevirtual 142, 3) := by decide +kernel
theorem dL_law_632 : decode cL_law 632 = .ok (.iload 5, 2) := by decide +kernel
theorem dL_law_634 : decode cL_law 634 = .ok (.if_icmp .eq 5, 3) := by decide +kernel
theorem dL_law_637 : decode cL_law 637 = .ok (.iconst 0, 1) := by decide +kernel
theorem dL_law_638 : decode cL_law 638 = .ok (.ireturn, 1) := by decide +kernel
theorem dL_law_639 : decode cL_law 639 = .ok (.iload 5, 2) := by decide +kernel
theorem dL_law_641 : decode cL_law 641 = .ok (.ifCond .ne 15, 3) := by decide +kernel
theorem dL_law_644 : decode cL_law 644 = .ok (.aload_n 3, 1) := by decide +kernel
theorem dL_law_645 : decode cL_law 645 = .ok (.iconst 0, 1) := by decide +kernel
theorem dL_law_646 : decode cL_law 646 = .ok (.laload, 1) := by decide +kernel
theorem dL_law_647 : decode cL_law 647 = .ok (.iload 6, 2) := by decide +kernel
theorem dL_law_649 : decode cL_law 649 = .ok (.i2l, 1) := by decide +kernel
theorem dL_law_650 : decode cL_law 650 = .ok (.lcmp, 1) := by decide +kernel
theorem dL_law_651 : decode cL_law 651 = .ok (.ifCond .eq 5, 3) := by decide +kernel
theorem dL_law_654 : decode cL_law 654 = .ok (.iconst 0, 1) := by decide +kernel
theorem dL_law_655 : decode cL_law 655 = .ok (.ireturn, 1) := by decide +kernel
theorem dL_law_656 : decode cL_law 656 = .ok (.goto 1978, 3) := by decide +kernel
theorem dL_law_659 : decode cL_law 659 = .ok (.aload_n 1, 1) := by decide +kernel
theorem dL_law_660 : decode cL_law 660 = .ok (.aload_n 0, 1) := by decide +kernel
theorem dL_law_661 : decode cL_law 661 = .ok (.iload 4, 2) := by decide +kernel
theorem dL_law_663 : decode cL_law 663 = .ok (.iconst 1, 1) := by decide +kernel
theorem dL_law_664 : decode cL_law 664 = .ok (.iadd, 1) := by decide +kernel
theorem dL_law_665 : decode cL_law 665 = .ok (.iaload, 1) := by decide +kernel
theorem dL_law_666 : decode cL_law 666 = .ok (.aload_n 0, 1) := by decide +kernel
theorem dL_law_667 : decode cL_law 667 = .ok (.iload 4, 2) := by decide +kernel
theorem dL_law_669 : decode cL_law 669 = .ok (.iconst 2, 1) := by decide +kernel
theorem dL_law_670 : decode cL_law 670 = .ok (.iadd, 1) := by decide +kernel
theorem dL_law_671 : decode cL_law 671 = .ok (.iaload, 1) := by decide +kernel
theorem dL_law_672 : decode cL_law 672 = .ok (.aload_n 0, 1) := by decide +kernel
theorem dL_law_673 : decode cL_law 673 = .ok (.iload 4, 2) := by decide +kernel
theorem dL_law_675 : decode cL_law 675 = .ok (.iconst 3, 1) := by decide +kernel
theorem dL_law_676 : decode cL_law 676 = .ok (.iadd, 1) := by decide +kernel
theorem dL_law_677 : decode cL_law 677 = .ok (.iaload, 1) := by decide +kernel
theorem dL_law_678 : decode cL_law 678 = .ok (.aload_n 3, 1) := by decide +kernel
theorem dL_law_679 : decode cL_law 679 = .ok (.invokestatic 164, 3) := by decide +kernel
theorem dL_law_682 : decode cL_law 682 = .ok (.istore 5, 2) := by decide +kernel
theorem dL_law_684 : decode cL_law 684 = .ok (.aload_n 2, 1) := by decide +kernel
theorem dL_law_685 : decode cL_law 685 = .ok (.aload_n 0, 1) := by decide +kernel
theorem dL_law_686 : decode cL_law 686 = .ok (.iload 4, 2) := by decide +kernel
theorem dL_law_688 : decode cL_law 688 = .ok (.iconst 1, 1) := by decide +kernel
theorem dL_law_689 : decode cL_law 689 = .ok (.iadd, 1) := by decide +kernel
theorem dL_law_690 : decode cL_law 690 = .ok (.iaload, 1) := by decide +kernel
theorem dL_law_691 : decode cL_law 691 = .ok (.aload_n 0, 1) := by decide +kernel
theorem dL_law_692 : decode cL_law 692 = .ok (.iload 4, 2) := by decide +kernel
theorem dL_law_694 : decode cL_law 694 = .ok (.iconst 2, 1) := by decide +kernel
theorem dL_law_695 : decode cL_law 695 = .ok (.iadd, 1) := by decide +kernel
theorem dL_law_696 : decode cL_law 696 = .ok (.iaload, 1) := by decide +kernel
theorem dL_law_697 : decode cL_law 697 = .ok (.aload_n 0, 1) := by decide +kernel
theorem dL_law_698 : decode cL_law 698 = .ok (.iload 4, 2) := by decide +kernel
theorem dL_law_700 : decode cL_law 700 = .ok (.iconst 3, 1) := by decide +kernel
theorem dL_law_701 : decode cL_law 701 = .ok (.iadd, 1) := by decide +kernel
theorem dL_law_702 : decode cL_law 702 = .ok (.iaload, 1) := by decide +kernel
theorem dL_law_703 : decode cL_law 703 = .ok (.invokevirtual 166, 3) := by decide +kernel
theorem dL_law_706 : decode cL_law 706 = .ok (.istore 6, 2) := by decide +kernel
theorem dL_law_708 : decode cL_law 708 = .ok (.aload_n 2, 1) := by decide +kernel
theorem dL_law_709 : decode cL_law 709 = .ok (.invokevirtual 142, 3) := by decide +kernel
theorem dL_law_712 : decode cL_law 712 = .ok (.iload 5, 2) := by decide +kernel
theorem dL_law_714 : decode cL_law 714 = .ok (.if_icmp .eq 5, 3) := by decide +kernel
theorem dL_law_717 : decode cL_law 717 = .ok (.iconst 0, 1) := by decide +kernel
theorem dL_law_718 : decode cL_law 718 = .ok (.ireturn, 1) := by decide +kernel
theorem dL_law_719 : decode cL_law 719 = .ok (.iload 5, 2) := by decide +kernel
theorem dL_law_721 : decode cL_law 721 = .ok (.ifCond .ne 15, 3) := by decide +kernel
theorem dL_law_724 : decode cL_law 724 = .ok (.aload_n 3, 1) := by decide +kernel
theorem dL_law_725 : decode cL_law 725 = .ok (.iconst 0, 1) := by decide +kernel
theorem dL_law_726 : decode cL_law 726 = .ok (.laload, 1) := by decide +kernel
theorem dL_law_727 : decode cL_law 727 = .ok (.iload 6, 2) := by decide +kernel
theorem dL_law_729 : decode cL_law 729 = .ok (.i2l, 1) := by decide +kernel
theorem dL_law_730 : decode cL_law 730 = .ok (.lcmp, 1) := by decide +kernel
theorem dL_law_731 : decode cL_law 731 = .ok (.ifCond .eq 5, 3) := by decide +kernel
theorem dL_law_734 : decode cL_law 734 = .ok (.iconst 0, 1) := by decide +kernel
theorem dL_law_735 : decode cL_law 735 = .ok (.ireturn, 1) := by decide +kernel
theorem dL_law_736 : decode cL_law 736 = .ok (.goto 1898, 3) := by decide +kernel
theorem dL_law_739 : decode cL_law 739 = .ok (.aload_n 1, 1) := by decide +kernel
theorem dL_law_740 : decode cL_law 740 = .ok (.aload_n 0, 1) := by decide +kernel
theorem dL_law_741 : decode cL_law 741 = .ok (.iload 4, 2) := by decide +kernel
theorem dL_law_743 : decode cL_law 743 = .ok (.iconst 1, 1) := by decide +kernel
theorem dL_law_744 : decode cL_law 744 = .ok (.iadd, 1) := by decide +kernel
theorem dL_law_745 : decode cL_law 745 = .ok (.iaload, 1) := by decide +kernel
theorem dL_law_746 : decode cL_law 746 = .ok (.aload_n 0, 1) := by decide +kernel
theorem dL_law_747 : decode cL_law 747 = .ok (.iload 4, 2) := by decide +kernel
theorem dL_law_749 : decode cL_law 749 = .ok (.iconst 2, 1) := by decide +kernel
theorem dL_law_750 : decode cL_law 750 = .ok (.iadd, 1) := by decide +kernel
theorem dL_law_751 : decode cL_law 751 = .ok (.iaload, 1) := by decide +kernel
theorem dL_law_752 : decode cL_law 752 = .ok (.aload_n 3, 1) := by decide +kernel
theorem dL_law_753 : decode cL_law 753 = .ok (.invokestatic 167, 3) := by decide +kernel
theorem dL_law_756 : decode cL_law 756 = .ok (.istore 5, 2) := by decide +kernel
theorem dL_law_758 : decode cL_law 758 = .ok (.aload_n 2, 1) := by decide +kernel
theorem dL_law_759 : decode cL_law 759 = .ok (.aload_n 0, 1) := by decide +kernel
theorem dL_law_760 : decode cL_law 760 = .ok (.iload 4, 2) := by decide +kernel
theorem dL_law_762 : decode cL_law 762 = .ok (.iconst 1, 1) := by decide +kernel
theorem dL_law_763 : decode cL_law 763 = .ok (.iadd, 1) := by decide +kernel
theorem dL_law_764 : decode cL_law 764 = .ok (.iaload, 1) := by decide +kernel
theorem dL_law_765 : decode cL_law 765 = .ok (.aload_n 0, 1) := by decide +kernel
theorem dL_law_766 : decode cL_law 766 = .ok (.iload 4, 2) := by decide +kernel
theorem dL_law_768 : decode cL_law 768 = .ok (.iconst 2, 1) := by decide +kernel
theorem dL_law_769 : decode cL_law 769 = .ok (.iadd, 1) := by decide +kernel
theorem dL_law_770 : decode cL_law 770 = .ok (.iaload, 1) := by decide +kernel
theorem dL_law_771 : decode cL_law 771 = .ok (.invokevirtual 169, 3) := by decide +kernel
theorem dL_law_774 : decode cL_law 774 = .ok (.istore 6, 2) := by decide +kernel
theorem dL_law_776 : decode cL_law 776 = .ok (.aload_n 2, 1) := by decide +kernel
theorem dL_law_777 : decode cL_law 777 = .ok (.invokevirtual 142, 3) := by decide +kernel
theorem dL_law_780 : decode cL_law 780 = .ok (.iload 5, 2) := by decide +kernel
theorem dL_law_782 : decode cL_law 782 = .ok (.if_icmp .eq 5, 3) := by decide +kernel
theorem dL_law_785 : decode cL_law 785 = .ok (.iconst 0, 1) := by decide +kernel
theorem dL_law_786 : decode cL_law 786 = .ok (.ireturn, 1) := by decide +kernel
theorem dL_law_787 : decode cL_law 787 = .ok (.iload 5, 2) := by decide +kernel
theorem dL_law_789 : decode cL_law 789 = .ok (.ifCond .ne 15, 3) := by decide +kernel
theorem dL_law_792 : decode cL_law 792 = .ok (.aload_n 3, 1) := by decide +kernel
theorem dL_law_793 : decode cL_law 793 = .ok (.iconst 0, 1) := by decide +kernel
theorem dL_law_794 : decode cL_law 794 = .ok (.laload, 1) := by decide +kernel
theorem dL_law_795 : decode cL_law 795 = .ok (.iload 6, 2) := by decide +kernel
theorem dL_law_797 : decode cL_law 797 = .ok (.i2l, 1) := by decide +kernel
theorem dL_law_798 : decode cL_law 798 = .ok (.lcmp, 1) := by decide +kernel
theorem dL_law_799 : decode cL_law 799 = .ok (.ifCond .eq 5, 3) := by decide +kernel
theorem dL_law_802 : decode cL_law 802 = .ok (.iconst 0, 1) := by decide +kernel
theorem dL_law_803 : decode cL_law 803 = .ok (.ireturn, 1) := by decide +kernel
theorem dL_law_804 : decode cL_law 804 = .ok (.goto 1830, 3) := by decide +kernel
theorem dL_law_807 : decode cL_law 807 = .ok (.aload_n 1, 1) := by decide +kernel
theorem dL_law_808 : decode cL_law 808 = .ok (.aload_n 0, 1) := by decide +kernel
theorem dL_law_809 : decode cL_law 809 = .ok (.iload 4, 2) := by decide +kernel
theorem dL_law_811 : decode cL_law 811 = .ok (.iconst 1, 1) := by decide +kernel
theorem dL_law_812 : decode cL_law 812 = .ok (.iadd, 1) := by decide +kernel
theorem dL_law_813 : decode cL_law 813 = .ok (.iaload, 1) := by decide +kernel
theorem dL_law_814 : decode cL_law 814 = .ok (.aload_n 3, 1) := by decide +kernel
theorem dL_law_815 : decode cL_law 815 = .ok (.invokestatic 170, 3) := by decide +kernel
theorem dL_law_818 : decode cL_law 818 = .ok (.istore 5, 2) := by decide +kernel
theorem dL_law_820 : decode cL_law 820 = .ok (.aload_n 2, 1) := by decide +kernel
theorem dL_law_821 : decode cL_law 821 = .ok (.aload_n 0, 1) := by decide +kernel
theorem dL_law_822 : decode cL_law 822 = .ok (.iload 4, 2) := by decide +kernel
theorem dL_law_824 : decode cL_law 824 = .ok (.iconst 1, 1) := by decide +kernel
theorem dL_law_825 : decode cL_law 825 = .ok (.iadd, 1) := by decide +kernel
theorem dL_law_826 : decode cL_law 826 = .ok (.iaload, 1) := by decide +kernel
theorem dL_law_827 : decode cL_law 827 = .ok (.invokevirtual 173, 3) := by decide +kernel
theorem dL_law_830 : decode cL_law 830 = .ok (.istore 6, 2) := by decide +kernel
theorem dL_law_832 : decode cL_law 832 = .ok (.aload_n 2, 1) := by decide +kernel
theorem dL_law_833 : decode cL_law 833 = .ok (.invokevirtual 142, 3) := by decide +kernel
theorem dL_law_836 : decode cL_law 836 = .ok (.iload 5, 2) := by decide +kernel
theorem dL_law_838 : decode cL_law 838 = .ok (.if_icmp .eq 5, 3) := by decide +kernel
theorem dL_law_841 : decode cL_law 841 = .ok (.iconst 0, 1) := by decide +kernel
theorem dL_law_842 : decode cL_law 842 = .ok (.ireturn, 1) := by decide +kernel
theorem dL_law_843 : decode cL_law 843 = .ok (.iload 5, 2) := by decide +kernel
theorem dL_law_845 : decode cL_law 845 = .ok (.ifCond .ne 15, 3) := by decide +kernel
theorem dL_law_848 : decode cL_law 848 = .ok (.aload_n 3, 1) := by decide +kernel
theorem dL_law_849 : decode cL_law 849 = .ok (.iconst 0, 1) := by decide +kernel
theorem dL_law_850 : decode cL_law 850 = .ok (.laload, 1) := by decide +kernel
theorem dL_law_851 : decode cL_law 851 = .ok (.iload 6, 2) := by decide +kernel
theorem dL_law_853 : decode cL_law 853 = .ok (.i2l, 1) := by decide +kernel
theorem dL_law_854 : decode cL_law 854 = .ok (.lcmp, 1) := by decide +kernel
theorem dL_law_855 : decode cL_law 855 = .ok (.ifCond .eq 5, 3) := by decide +kernel
theorem dL_law_858 : decode cL_law 858 = .ok (.iconst 0, 1) := by decide +kernel
theorem dL_law_859 : decode cL_law 859 = .ok (.ireturn, 1) := by decide +kernel
theorem dL_law_860 : decode cL_law 860 = .ok (.goto 1774, 3) := by decide +kernel
theorem dL_law_863 : decode cL_law 863 = .ok (.aload_n 1, 1) := by decide +kernel
theorem dL_law_864 : decode cL_law 864 = .ok (.invokevirtual 174, 3) := by decide +kernel
theorem dL_law_867 : decode cL_law 867 = .ok (.aload_n 2, 1) := by decide +kernel
theorem dL_law_868 : decode cL_law 868 = .ok (.invokevirtual 177, 3) := by decide +kernel
theorem dL_law_871 : decode cL_law 871 = .ok (.if_icmp .eq 1763, 3) := by decide +kernel
theorem dL_law_874 : decode cL_law 874 = .ok (.iconst 0, 1) := by decide +kernel
theorem dL_law_875 : decode cL_law 875 = .ok (.ireturn, 1) := by decide +kernel
theorem dL_law_876 : decode cL_law 876 = .ok (.aload_n 1, 1) := by decide +kernel
theorem dL_law_877 : decode cL_law 877 = .ok (.aload_n 0, 1) := by decide +kernel
theorem dL_law_878 : decode cL_law 878 = .ok (.iload 4, 2) := by decide +kernel
theorem dL_law_880 : decode cL_law 880 = .ok (.iconst 1, 1) := by decide +kernel
theorem dL_law_881 : decode cL_law 881 = .ok (.iadd, 1) := by decide +kernel
theorem dL_law_882 : decode cL_law 882 = .ok (.iaload, 1) := by decide +kernel
theorem dL_law_883 : decode cL_law 883 = .ok (.aload_n 0, 1) := by decide +kernel
theorem dL_law_884 : decode cL_law 884 = .ok (.iload 4, 2) := by decide +kernel
theorem dL_law_886 : decode cL_law 886 = .ok (.iconst 2, 1) := by decide +kernel
theorem dL_law_887 : decode cL_law 887 = .ok (.iadd, 1) := by decide +kernel
theorem dL_law_888 : decode cL_law 888 = .ok (.iaload, 1) := by decide +kernel
theorem dL_law_889 : decode cL_law 889 = .ok (.aload_n 3, 1) := by decide +kernel
theorem dL_law_890 : decode cL_law 890 = .ok (.invokestatic 178, 3) := by decide +kernel
theorem dL_law_893 : decode cL_law 893 = .ok (.istore 5, 2) := by decide +kernel
theorem dL_law_895 : decode cL_law 895 = .ok (.aload_n 2, 1) := by decide +kernel
theorem dL_law_896 : decode cL_law 896 = .ok (.aload_n 0, 1) := by decide +kernel
theorem dL_law_897 : decode cL_law 897 = .ok (.iload 4, 2) := by decide +kernel
theorem dL_law_899 : decode cL_law 899 = .ok (.iconst 1, 1) := by decide +kernel
theorem dL_law_900 : decode cL_law 900 = .ok (.iadd, 1) := by decide +kernel
theorem dL_law_901 : decode cL_law 901 = .ok (.iaload, 1) := by decide +kernel
theorem dL_law_902 : decode cL_law 902 = .ok (.aload_n 0, 1) := by decide +kernel
theorem dL_law_903 : decode cL_law 903 = .ok (.iload 4, 2) := by decide +kernel
theorem dL_law_905 : decode cL_law 905 = .ok (.iconst 2, 1) := by decide +kernel
theorem dL_law_906 : decode cL_law 906 = .ok (.iadd, 1) := by decide +kernel
theorem dL_law_907 : decode cL_law 907 = .ok (.iaload, 1) := by decide +kernel
theorem dL_law_908 : decode cL_law 908 = .ok (.invokevirtual 180, 3) := by decide +kernel
theorem dL_law_911 : decode cL_law 911 = .ok (.istore 6, 2) := by decide +kernel
theorem dL_law_913 : decode cL_law 913 = .ok (.aload_n 2, 1) := by decide +kernel
theorem dL_law_914 : decode cL_law 914 = .ok (.invokevirtual 142, 3) := by decide +kernel
theorem dL_law_917 : decode cL_law 917 = .ok (.iload 5, 2) := by decide +kernel
theorem dL_law_919 : decode cL_law 919 = .ok (.if_icmp .eq 5, 3) := by decide +kernel
theorem dL_law_922 : decode cL_law 922 = .ok (.iconst 0, 1) := by decide +kernel
theorem dL_law_923 : decode cL_law 923 = .ok (.ireturn, 1) := by decide +kernel
theorem dL_law_924 : decode cL_law 924 = .ok (.iload 5, 2) := by decide +kernel
theorem dL_law_926 : decode cL_law 926 = .ok (.ifCond .ne 15, 3) := by decide +kernel
theorem dL_law_929 : decode cL_law 929 = .ok (.aload_n 3, 1) := by decide +kernel
theorem dL_law_930 : decode cL_law 930 = .ok (.iconst 0, 1) := by decide +kernel
theorem dL_law_931 : decode cL_law 931 = .ok (.laload, 1) := by decide +kernel
theorem dL_law_932 : decode cL_law 932 = .ok (.iload 6, 2) := by decide +kernel
theorem dL_law_934 : decode cL_law 934 = .ok (.i2l, 1) := by decide +kernel
theorem dL_law_935 : decode cL_law 935 = .ok (.lcmp, 1) := by decide +kernel
theorem dL_law_936 : decode cL_law 936 = .ok (.ifCond .eq 5, 3) := by decide +kernel
theorem dL_law_939 : decode cL_law 939 = .ok (.iconst 0, 1) := by decide +kernel
theorem dL_law_940 : decode cL_law 940 = .ok (.ireturn, 1) := by decide +kernel
theorem dL_law_941 : decode cL_law 941 = .ok (.goto 1693, 3) := by decide +kernel
theorem dL_law_944 : decode cL_law 944 = .ok (.aload_n 1, 1) := by decide +kernel
theorem dL_law_945 : decode cL_law 945 = .ok (.aload_n 3, 1) := by decide +kernel
theorem dL_law_946 : decode cL_law 946 = .ok (.invokestatic 181, 3) := by decide +kernel
theorem dL_law_949 : decode cL_law 949 = .ok (.istore 5, 2) := by decide +kernel
theorem dL_law_951 : decode cL_law 951 = .ok (.aload_n 2, 1) := by decide +kernel
theorem dL_law_952 : decode cL_law 952 = .ok (.invokevirtual 183, 3) := by decide +kernel
theorem dL_law_955 : decode cL_law 955 = .ok (.istore 6, 2) := by decide +kernel
theorem dL_law_957 : decode cL_law 957 = .ok (.aload_n 2, 1) := by decide +kernel
theorem dL_law_958 : decode cL_law 958 = .ok (.invokevirtual 142, 3) := by decide +kernel
theorem dL_law_961 : decode cL_law 961 = .ok (.iload 5, 2) := by decide +kernel
theorem dL_law_963 : decode cL_law 963 = .ok (.if_icmp .eq 5, 3) := by decide +kernel
theorem dL_law_966 : decode cL_law 966 = .ok (.iconst 0, 1) := by decide +kernel
theorem dL_law_967 : decode cL_law 967 = .ok (.ireturn, 1) := by decide +kernel
theorem dL_law_968 : decode cL_law 968 = .ok (.iload 5, 2) := by decide +kernel
theorem dL_law_970 : decode cL_law 970 = .ok (.ifCond .ne 22, 3) := by decide +kernel
theorem dL_law_973 : decode cL_law 973 = .ok (.aload_n 3, 1) := by decide +kernel
theorem dL_law_974 : decode cL_law 974 = .ok (.iconst 0, 1) := by decide +kernel
theorem dL_law_975 : decode cL_law 975 = .ok (.laload, 1) := by decide +kernel
theorem dL_law_976 : decode cL_law 976 = .ok (.iload 6, 2) := by decide +kernel
theorem dL_law_978 : decode cL_law 978 = .ok (.ifCond .eq 7, 3) := by decide +kernel
theorem dL_law_981 : decode cL_law 981 = .ok (.lconst 1, 1) := by decide +kernel
theorem dL_law_982 : decode cL_law 982 = .ok (.goto 4, 3) := by decide +kernel
theorem dL_law_985 : decode cL_law 985 = .ok (.lconst 0, 1) := by decide +kernel
theorem dL_law_986 : decode cL_law 986 = .ok (.lcmp, 1) := by decide +kernel
theorem dL_law_987 : decode cL_law 987 = .ok (.ifCond .eq 5, 3) := by decide +kernel
theorem dL_law_990 : decode cL_law 990 = .ok (.iconst 0, 1) := by decide +kernel
theorem dL_law_991 : decode cL_law 991 = .ok (.ireturn, 1) := by decide +kernel
theorem dL_law_992 : decode cL_law 992 = .ok (.goto 1642, 3) := by decide +kernel
theorem dL_law_995 : decode cL_law 995 = .ok (.aload_n 1, 1) := by decide +kernel
theorem dL_law_996 : decode cL_law 996 = .ok (.aload_n 0, 1) := by decide +kernel
theorem dL_law_997 : decode cL_law 997 = .ok (.iload 4, 2) := by decide +kernel
theorem dL_law_999 : decode cL_law 999 = .ok (.iconst 1, 1) := by decide +kernel
theorem dL_law_1000 : decode cL_law 1000 = .ok (.iadd, 1) := by decide +kernel
theorem dL_law_1001 : decode cL_law 1001 = .ok (.iaload, 1) := by decide +kernel
theorem dL_law_1002 : decode cL_law 1002 = .ok (.aload_n 3, 1) := by decide +kernel
theorem dL_law_1003 : decode cL_law 1003 = .ok (.invokestatic 184, 3) := by decide +kernel
theorem dL_law_1006 : decode cL_law 1006 = .ok (.istore 5, 2) := by decide +kernel
theorem dL_law_1008 : decode cL_law 1008 = .ok (.aload_n 2, 1) := by decide +kernel
theorem dL_law_1009 : decode cL_law 1009 = .ok (.aload_n 0, 1) := by decide +kernel
theorem dL_law_1010 : decode cL_law 1010 = .ok (.iload 4, 2) := by decide +kernel
theorem dL_law_1012 : decode cL_law 1012 = .ok (.iconst 1, 1) := by decide +kernel
theorem dL_law_1013 : decode cL_law 1013 = .ok (.iadd, 1) := by decide +kernel
theorem dL_law_1014 : decode cL_law 1014 = .ok (.iaload, 1) := by decide +kernel
theorem dL_law_1015 : decode cL_law 1015 = .ok (.invokevirtual 186, 3) := by decide +kernel
theorem dL_law_1018 : decode cL_law 1018 = .ok (.istore 6, 2) := by decide +kernel
theorem dL_law_1020 : decode cL_law 1020 = .ok (.aload_n 2, 1) := by decide +kernel
theorem dL_law_1021 : decode cL_law 1021 = .ok (.invokevirtual 142, 3) := by decide +kernel
theorem dL_law_1024 : decode cL_law 1024 = .ok (.iload 5, 2) := by decide +kernel
theorem dL_law_1026 : decode cL_law 1026 = .ok (.if_icmp .eq 5, 3) := by decide +kernel
theorem dL_law_1029 : decode cL_law 1029 = .ok (.iconst 0, 1) := by decide +kernel
theorem dL_law_1030 : decode cL_law 1030 = .ok (.ireturn, 1) := by decide +kernel
theorem dL_law_1031 : decode cL_law 1031 = .ok (.iload 5, 2) := by decide +kernel
theorem dL_law_1033 : decode cL_law 1033 = .ok (.ifCond .ne 15, 3) := by decide +kernel
theorem dL_law_1036 : decode cL_law 1036 = .ok (.aload_n 3, 1) := by decide +kernel
theorem dL_law_1037 : decode cL_law 1037 = .ok (.iconst 0, 1) := by decide +kernel
theorem dL_law_1038 : decode cL_law 1038 = .ok (.laload, 1) := by decide +kernel
theorem dL_law_1039 : decode cL_law 1039 = .ok (.iload 6, 2) := by decide +kernel
theorem dL_law_1041 : decode cL_law 1041 = .ok (.i2l, 1) := by decide +kernel
theorem dL_law_1042 : decode cL_law 1042 = .ok (.lcmp, 1) := by decide +kernel
theorem dL_law_1043 : decode cL_law 1043 = .ok (.ifCond .eq 5, 3) := by decide +kernel
theorem dL_law_1046 : decode cL_law 1046 = .ok (.iconst 0, 1) := by decide +kernel
theorem dL_law_1047 : decode cL_law 1047 = .ok (.ireturn, 1) := by decide +kernel
theorem dL_law_1048 : decode cL_law 1048 = .ok (.goto 1586, 3) := by decide +kernel
theorem dL_law_1051 : decode cL_law 1051 = .ok (.aload_n 1, 1) := by decide +kernel
theorem dL_law_1052 : decode cL_law 1052 = .ok (.aload_n 0, 1) := by decide +kernel
theorem dL_law_1053 : decode cL_law 1053 = .ok (.iload 4, 2) := by decide +kernel
theorem dL_law_1055 : decode cL_law 1055 = .ok (.iconst 1, 1) := by decide +kernel
theorem dL_law_1056 : decode cL_law 1056 = .ok (.iadd, 1) := by decide +kernel
theorem dL_law_1057 : decode cL_law 1057 = .ok (.iaload, 1) := by decide +kernel
theorem dL_law_1058 : decode cL_law 1058 = .ok (.aload_n 0, 1) := by decide +kernel
theorem dL_law_1059 : decode cL_law 1059 = .ok (.iload 4, 2) := by decide +kernel
theorem dL_law_1061 : decode cL_law 1061 = .ok (.iconst 2, 1) := by decide +kernel
theorem dL_law_1062 : decode cL_law 1062 = .ok (.iadd, 1) := by decide +kernel
theorem dL_law_1063 : decode cL_law 1063 = .ok (.iaload, 1) := by decide +kernel
theorem dL_law_1064 : decode cL_law 1064 = .ok (.aload_n 3, 1) := by decide +kernel
theorem dL_law_1065 : decode cL_law 1065 = .ok (.invokestatic 187, 3) := by decide +kernel
theorem dL_law_1068 : decode cL_law 1068 = .ok (.istore 5, 2) := by decide +kernel
theorem dL_law_1070 : decode cL_law 1070 = .ok (.aload_n 2, 1) := by decide +kernel
theorem dL_law_1071 : decode cL_law 1071 = .ok (.aload_n 0, 1) := by decide +kernel
theorem dL_law_1072 : decode cL_law 1072 = .ok (.iload 4, 2) := by decide +kernel
theorem dL_law_1074 : decode cL_law 1074 = .ok (.iconst 1, 1) := by decide +kernel
theorem dL_law_1075 : decode cL_law 1075 = .ok (.iadd, 1) := by decide +kernel
theorem dL_law_1076 : decode cL_law 1076 = .ok (.iaload, 1) := by decide +kernel
theorem dL_law_1077 : decode cL_law 1077 = .ok (.aload_n 0, 1) := by decide +kernel
theorem dL_law_1078 : decode cL_law 1078 = .ok (.iload 4, 2) := by decide +kernel
theorem dL_law_1080 : decode cL_law 1080 = .ok (.iconst 2, 1) := by decide +kernel
theorem dL_law_1081 : decode cL_law 1081 = .ok (.iadd, 1) := by decide +kernel
theorem dL_law_1082 : decode cL_law 1082 = .ok (.iaload, 1) := by decide +kernel
theorem dL_law_1083 : decode cL_law 1083 = .ok (.invokevirtual 189, 3) := by decide +kernel
theorem dL_law_1086 : decode cL_law 1086 = .ok (.istore 6, 2) := by decide +kernel
theorem dL_law_1088 : decode cL_law 1088 = .ok (.aload_n 2, 1) := by decide +kernel
theorem dL_law_1089 : decode cL_law 1089 = .ok (.invokevirtual 142, 3) := by decide +kernel
theorem dL_law_1092 : decode cL_law 1092 = .ok (.iload 5, 2) := by decide +kernel
theorem dL_law_1094 : decode cL_law 1094 = .ok (.if_icmp .eq 5, 3) := by decide +kernel
theorem dL_law_1097 : decode cL_law 1097 = .ok (.iconst 0, 1) := by decide +kernel
theorem dL_law_1098 : decode cL_law 1098 = .ok (.ireturn, 1) := by decide +kernel
theorem dL_law_1099 : decode cL_law 1099 = .ok (.iload 5, 2) := by decide +kernel
theorem dL_law_1101 : decode cL_law 1101 = .ok (.ifCond .ne 15, 3) := by decide +kernel
theorem dL_law_1104 : decode cL_law 1104 = .ok (.aload_n 3, 1) := by decide +kernel
theorem dL_law_1105 : decode cL_law 1105 = .ok (.iconst 0, 1) := by decide +kernel
theorem dL_law_1106 : decode cL_law 1106 = .ok (.laload, 1) := by decide +kernel
theorem dL_law_1107 : decode cL_law 1107 = .ok (.iload 6, 2) := by decide +kernel
theorem dL_law_1109 : decode cL_law 1109 = .ok (.i2l, 1) := by decide +kernel
theorem dL_law_1110 : decode cL_law 1110 = .ok (.lcmp, 1) := by decide +kernel
theorem dL_law_1111 : decode cL_law 1111 = .ok (.ifCond .eq 5, 3) := by decide +kernel
theorem dL_law_1114 : decode cL_law 1114 = .ok (.iconst 0, 1) := by decide +kernel
theorem dL_law_1115 : decode cL_law 1115 = .ok (.ireturn, 1) := by decide +kernel
theorem dL_law_1116 : decode cL_law 1116 = .ok (.goto 1518, 3) := by decide +kernel
theorem dL_law_1119 : decode cL_law 1119 = .ok (.aload_n 1, 1) := by decide +kernel
theorem dL_law_1120 : decode cL_law 1120 = .ok (.aload_n 0, 1) := by decide +kernel
theorem dL_law_1121 : decode cL_law 1121 = .ok (.iload 4, 2) := by decide +kernel
theorem dL_law_1123 : decode cL_law 1123 = .ok (.iconst 1, 1) := by decide +kernel
theorem dL_law_1124 : decode cL_law 1124 = .ok (.iadd, 1) := by decide +kernel
theorem dL_law_1125 : decode cL_law 1125 = .ok (.iaload, 1) := by decide +kernel
theorem dL_law_1126 : decode cL_law 1126 = .ok (.aload_n 3, 1) := by decide +kernel
theorem dL_law_1127 : decode cL_law 1127 = .ok (.invokestatic 190, 3) := by decide +kernel
theorem dL_law_1130 : decode cL_law 1130 = .ok (.istore 5, 2) := by decide +kernel
theorem dL_law_1132 : decode cL_law 1132 = .ok (.aload_n 2, 1) := by decide +kernel
theorem dL_law_1133 : decode cL_law 1133 = .ok (.aload_n 0, 1) := by decide +kernel
theorem dL_law_1134 : decode cL_law 1134 = .ok (.iload 4, 2) := by decide +kernel
theorem dL_law_1136 : decode cL_law 1136 = .ok (.iconst 1, 1) := by decide +kernel
theorem dL_law_1137 : decode cL_law 1137 = .ok (.iadd, 1) := by decide +kernel
theorem dL_law_1138 : decode cL_law 1138 = .ok (.iaload, 1) := by decide +kernel
theorem dL_law_1139 : decode cL_law 1139 = .ok (.invokevirtual 192, 3) := by decide +kernel
theorem dL_law_1142 : decode cL_law 1142 = .ok (.istore 6, 2) := by decide +kernel
theorem dL_law_1144 : decode cL_law 1144 = .ok (.aload_n 2, 1) := by decide +kernel
theorem dL_law_1145 : decode cL_law 1145 = .ok (.invokevirtual 142, 3) := by decide +kernel
theorem dL_law_1148 : decode cL_law 1148 = .ok (.iload 5, 2) := by decide +kernel
theorem dL_law_1150 : decode cL_law 1150 = .ok (.if_icmp .eq 5, 3) := by decide +kernel
theorem dL_law_1153 : decode cL_law 1153 = .ok (.iconst 0, 1) := by decide +kernel
theorem dL_law_1154 : decode cL_law 1154 = .ok (.ireturn, 1) := by decide +kernel
theorem dL_law_1155 : decode cL_law 1155 = .ok (.iload 5, 2) := by decide +kernel
theorem dL_law_1157 : decode cL_law 1157 = .ok (.ifCond .ne 15, 3) := by decide +kernel
theorem dL_law_1160 : decode cL_law 1160 = .ok (.aload_n 3, 1) := by decide +kernel
theorem dL_law_1161 : decode cL_law 1161 = .ok (.iconst 0, 1) := by decide +kernel
theorem dL_law_1162 : decode cL_law 1162 = .ok (.laload, 1) := by decide +kernel
theorem dL_law_1163 : decode cL_law 1163 = .ok (.iload 6, 2) := by decide +kernel
theorem dL_law_1165 : decode cL_law 1165 = .ok (.i2l, 1) := by decide +kernel
theorem dL_law_1166 : decode cL_law 1166 = .ok (.lcmp, 1) := by decide +kernel
theorem dL_law_1167 : decode cL_law 1167 = .ok (.ifCond .eq 5, 3) := by decide +kernel
theorem dL_law_1170 : decode cL_law 1170 = .ok (.iconst 0, 1) := by decide +kernel
theorem dL_law_1171 : decode cL_law 1171 = .ok (.ireturn, 1) := by decide +kernel
theorem dL_law_1172 : decode cL_law 1172 = .ok (.goto 1462, 3) := by decide +kernel
theorem dL_law_1175 : decode cL_law 1175 = .ok (.aload_n 1, 1) := by decide +kernel
theorem dL_law_1176 : decode cL_law 1176 = .ok (.invokevirtual 193, 3) := by decide +kernel
theorem dL_law_1179 : decode cL_law 1179 = .ok (.aload_n 2, 1) := by decide +kernel
theorem dL_law_1180 : decode cL_law 1180 = .ok (.invokevirtual 196, 3) := by decide +kernel
theorem dL_law_1183 : decode cL_law 1183 = .ok (.if_icmp .eq 1451, 3) := by decide +kernel
theorem dL_law_1186 : decode cL_law 1186 = .ok (.iconst 0, 1) := by decide +kernel
theorem dL_law_1187 : decode cL_law 1187 = .ok (.ireturn, 1) := by decide +kernel
theorem dL_law_1188 : decode cL_law 1188 = .ok (.aload_n 1, 1) := by decide +kernel
theorem dL_law_1189 : decode cL_law 1189 = .ok (.invokevirtual 197, 3) := by decide +kernel
theorem dL_law_1192 : decode cL_law 1192 = .ok (.aload_n 2, 1) := by decide +kernel
theorem dL_law_1193 : decode cL_law 1193 = .ok (.invokevirtual 200, 3) := by decide +kernel
theorem dL_law_1196 : decode cL_law 1196 = .ok (.if_icmp .eq 1438, 3) := by decide +kernel
theorem dL_law_1199 : decode cL_law 1199 = .ok (.iconst 0, 1) := by decide +kernel
theorem dL_law_1200 : decode cL_law 1200 = .ok (.ireturn, 1) := by decide +kernel
theorem dL_law_1201 : decode cL_law 1201 = .ok (.aload_n 1, 1) := by decide +kernel
theorem dL_law_1202 : decode cL_law 1202 = .ok (.invokevirtual 201, 3) := by decide +kernel
theorem dL_law_1205 : decode cL_law 1205 = .ok (.aload_n 2, 1) := by decide +kernel
theorem dL_law_1206 : decode cL_law 1206 = .ok (.invokevirtual 204, 3) := by decide +kernel
theorem dL_law_1209 : decode cL_law 1209 = .ok (.if_icmp .eq 1425, 3) := by decide +kernel
theorem dL_law_1212 : decode cL_law 1212 = .ok (.iconst 0, 1) := by decide +kernel
theorem dL_law_1213 : decode cL_law 1213 = .ok (.ireturn, 1) := by decide +kernel
theorem dL_law_1214 : decode cL_law 1214 = .ok (.aload_n 1, 1) := by decide +kernel
theorem dL_law_1215 : decode cL_law 1215 = .ok (.invokevirtual 205, 3) := by decide +kernel
theorem dL_law_1218 : decode cL_law 1218 = .ok (.aload_n 2, 1) := by decide +kernel
theorem dL_law_1219 : decode cL_law 1219 = .ok (.invokevirtual 208, 3) := by decide +kernel
theorem dL_law_1222 : decode cL_law 1222 = .ok (.if_icmp .eq 1412, 3) := by decide +kernel
theorem dL_law_1225 : decode cL_law 1225 = .ok (.iconst 0, 1) := by decide +kernel
theorem dL_law_1226 : decode cL_law 1226 = .ok (.ireturn, 1) := by decide +kernel
theorem dL_law_1227 : decode cL_law 1227 = .ok (.aload_n 1, 1) := by decide +kernel
theorem dL_law_1228 : decode cL_law 1228 = .ok (.invokevirtual 209, 3) := by decide +kernel
theorem dL_law_1231 : decode cL_law 1231 = .ok (.aload_n 2, 1) := by decide +kernel
theorem dL_law_1232 : decode cL_law 1232 = .ok (.invokevirtual 212, 3) := by decide +kernel
theorem dL_law_1235 : decode cL_law 1235 = .ok (.if_icmp .eq 1399, 3) := by decide +kernel
theorem dL_law_1238 : decode cL_law 1238 = .ok (.iconst 0, 1) := by decide +kernel
theorem dL_law_1239 : decode cL_law 1239 = .ok (.ireturn, 1) := by decide +kernel
theorem dL_law_1240 : decode cL_law 1240 = .ok (.aload_n 1, 1) := by decide +kernel
theorem dL_law_1241 : decode cL_law 1241 = .ok (.invokevirtual 213, 3) := by decide +kernel
theorem dL_law_1244 : decode cL_law 1244 = .ok (.aload_n 2, 1) := by decide +kernel
theorem dL_law_1245 : decode cL_law 1245 = .ok (.invokevirtual 216, 3) := by decide +kernel
theorem dL_law_1248 : decode cL_law 1248 = .ok (.if_icmp .eq 1386, 3) := by decide +kernel
theorem dL_law_1251 : decode cL_law 1251 = .ok (.iconst 0, 1) := by decide +kernel
theorem dL_law_1252 : decode cL_law 1252 = .ok (.ireturn, 1) := by decide +kernel
theorem dL_law_1253 : decode cL_law 1253 = .ok (.aload_n 1, 1) := by decide +kernel
theorem dL_law_1254 : decode cL_law 1254 = .ok (.invokevirtual 217, 3) := by decide +kernel
theorem dL_law_1257 : decode cL_law 1257 = .ok (.aload_n 2, 1) := by decide +kernel
theorem dL_law_1258 : decode cL_law 1258 = .ok (.invokevirtual 220, 3) := by decide +kernel
theorem dL_law_1261 : decode cL_law 1261 = .ok (.if_icmp .eq 1373, 3) := by decide +kernel
theorem dL_law_1264 : decode cL_law 1264 = .ok (.iconst 0, 1) := by decide +kernel
theorem dL_law_1265 : decode cL_law 1265 = .ok (.ireturn, 1) := by decide +kernel
theorem dL_law_1266 : decode cL_law 1266 = .ok (.aload_n 1, 1) := by decide +kernel
theorem dL_law_1267 : decode cL_law 1267 = .ok (.aload_n 0, 1) := by decide +kernel
theorem dL_law_1268 : decode cL_law 1268 = .ok (.iload 4, 2) := by decide +kernel
theorem dL_law_1270 : decode cL_law 1270 = .ok (.iconst 1, 1) := by decide +kernel
theorem dL_law_1271 : decode cL_law 1271 = .ok (.iadd, 1) := by decide +kernel
theorem dL_law_1272 : decode cL_law 1272 = .ok (.iaload, 1) := by decide +kernel
theorem dL_law_1273 : decode cL_law 1273 = .ok (.aload_n 3, 1) := by decide +kernel
theorem dL_law_1274 : decode cL_law 1274 = .ok (.invokestatic 221, 3) := by decide +kernel
theorem dL_law_1277 : decode cL_law 1277 = .ok (.istore 5, 2) := by decide +kernel
theorem dL_law_1279 : decode cL_law 1279 = .ok (.aload_n 2, 1) := by decide +kernel
theorem dL_law_1280 : decode cL_law 1280 = .ok (.aload_n 0, 1) := by decide +kernel
theorem dL_law_1281 : decode cL_law 1281 = .ok (.iload 4, 2) := by decide +kernel
theorem dL_law_1283 : decode cL_law 1283 = .ok (.iconst 1, 1) := by decide +kernel
theorem dL_law_1284 : decode cL_law 1284 = .ok (.iadd, 1) := by decide +kernel
theorem dL_law_1285 : decode cL_law 1285 = .ok (.iaload, 1) := by decide +kernel
theorem dL_law_1286 : decode cL_law 1286 = .ok (.invokevirtual 223, 3) := by decide +kernel
theorem dL_law_1289 : decode cL_law 1289 = .ok (.istore 6, 2) := by decide +kernel
theorem dL_law_1291 : decode cL_law 1291 = .ok (.aload_n 2, 1) := by decide +kernel
theorem dL_law_1292 : decode cL_law 1292 = .ok (.invokevirtual 142, 3) := by decide +kernel
theorem dL_law_1295 : decode cL_law 1295 = .ok (.iload 5, 2) := by decide +kernel
theorem dL_law_1297 : decode cL_law 1297 = .ok (.if_icmp .eq 5, 3) := by decide +kernel
theorem dL_law_1300 : decode cL_law 1300 = .ok (.iconst 0, 1) := by decide +kernel
theorem dL_law_1301 : decode cL_law 1301 = .ok (.ireturn, 1) := by decide +kernel
theorem dL_law_1302 : decode cL_law 1302 = .ok (.iload 5, 2) := by decide +kernel
theorem dL_law_1304 : decode cL_law 1304 = .ok (.ifCond .ne 15, 3) := by decide +kernel
theorem dL_law_1307 : decode cL_law 1307 = .ok (.aload_n 3, 1) := by decide +kernel
theorem dL_law_1308 : decode cL_law 1308 = .ok (.iconst 0, 1) := by decide +kernel
theorem dL_law_1309 : decode cL_law 1309 = .ok (.laload, 1) := by decide +kernel
theorem dL_law_1310 : decode cL_law 1310 = .ok (.iload 6, 2) := by decide +kernel
theorem dL_law_1312 : decode cL_law 1312 = .ok (.i2l, 1) := by decide +kernel
theorem dL_law_1313 : decode cL_law 1313 = .ok (.lcmp, 1) := by decide +kernel
theorem dL_law_1314 : decode cL_law 1314 = .ok (.ifCond .eq 5, 3) := by decide +kernel
theorem dL_law_1317 : decode cL_law 1317 = .ok (.iconst 0, 1) := by decide +kernel
theorem dL_law_1318 : decode cL_law 1318 = .ok (.ireturn, 1) := by decide +kernel
theorem dL_law_1319 : decode cL_law 1319 = .ok (.goto 1315, 3) := by decide +kernel
theorem dL_law_1322 : decode cL_law 1322 = .ok (.aload_n 1, 1) := by decide +kernel
theorem dL_law_1323 : decode cL_law 1323 = .ok (.aload_n 3, 1) := by decide +kernel
theorem dL_law_1324 : decode cL_law 1324 = .ok (.invokestatic 224, 3) := by decide +kernel
theorem dL_law_1327 : decode cL_law 1327 = .ok (.istore 5, 2) := by decide +kernel
theorem dL_law_1329 : decode cL_law 1329 = .ok (.aload_n 2, 1) := by decide +kernel
theorem dL_law_1330 : decode cL_law 1330 = .ok (.invokevirtual 226, 3) := by decide +kernel
theorem dL_law_1333 : decode cL_law 1333 = .ok (.istore 6, 2) := by decide +kernel
theorem dL_law_1335 : decode cL_law 1335 = .ok (.aload_n 2, 1) := by decide +kernel
theorem dL_law_1336 : decode cL_law 1336 = .ok (.invokevirtual 142, 3) := by decide +kernel
theorem dL_law_1339 : decode cL_law 1339 = .ok (.iload 5, 2) := by decide +kernel
theorem dL_law_1341 : decode cL_law 1341 = .ok (.if_icmp .eq 5, 3) := by decide +kernel
theorem dL_law_1344 : decode cL_law 1344 = .ok (.iconst 0, 1) := by decide +kernel
theorem dL_law_1345 : decode cL_law 1345 = .ok (.ireturn, 1) := by decide +kernel
theorem dL_law_1346 : decode cL_law 1346 = .ok (.iload 5, 2) := by decide +kernel
theorem dL_law_1348 : decode cL_law 1348 = .ok (.ifCond .ne 15, 3) := by decide +kernel
theorem dL_law_1351 : decode cL_law 1351 = .ok (.aload_n 3, 1) := by decide +kernel
theorem dL_law_1352 : decode cL_law 1352 = .ok (.iconst 0, 1) := by decide +kernel
theorem dL_law_1353 : decode cL_law 1353 = .ok (.laload, 1) := by decide +kernel
theorem dL_law_1354 : decode cL_law 1354 = .ok (.iload 6, 2) := by decide +kernel
theorem dL_law_1356 : decode cL_law 1356 = .ok (.i2l, 1) := by decide +kernel
theorem dL_law_1357 : decode cL_law 1357 = .ok (.lcmp, 1) := by decide +kernel
theorem dL_law_1358 : decode cL_law 1358 = .ok (.ifCond .eq 5, 3) := by decide +kernel
theorem dL_law_1361 : decode cL_law 1361 = .ok (.iconst 0, 1) := by decide +kernel
theorem dL_law_1362 : decode cL_law 1362 = .ok (.ireturn, 1) := by decide +kernel
theorem dL_law_1363 : decode cL_law 1363 = .ok (.goto 1271, 3) := by decide +kernel
theorem dL_law_1366 : decode cL_law 1366 = .ok (.aload_n 1, 1) := by decide +kernel
theorem dL_law_1367 : decode cL_law 1367 = .ok (.aload_n 0, 1) := by decide +kernel
theorem dL_law_1368 : decode cL_law 1368 = .ok (.iload 4, 2) := by decide +kernel
theorem dL_law_1370 : decode cL_law 1370 = .ok (.iconst 1, 1) := by decide +kernel
theorem dL_law_1371 : decode cL_law 1371 = .ok (.iadd, 1) := by decide +kernel
theorem dL_law_1372 : decode cL_law 1372 = .ok (.iaload, 1) := by decide +kernel
theorem dL_law_1373 : decode cL_law 1373 = .ok (.aload_n 3, 1) := by decide +kernel
theorem dL_law_1374 : decode cL_law 1374 = .ok (.invokestatic 227, 3) := by decide +kernel
theorem dL_law_1377 : decode cL_law 1377 = .ok (.istore 5, 2) := by decide +kernel
theorem dL_law_1379 : decode cL_law 1379 = .ok (.aload_n 2, 1) := by decide +kernel
theorem dL_law_1380 : decode cL_law 1380 = .ok (.aload_n 0, 1) := by decide +kernel
theorem dL_law_1381 : decode cL_law 1381 = .ok (.iload 4, 2) := by decide +kernel
theorem dL_law_1383 : decode cL_law 1383 = .ok (.iconst 1, 1) := by decide +kernel
theorem dL_law_1384 : decode cL_law 1384 = .ok (.iadd, 1) := by decide +kernel
theorem dL_law_1385 : decode cL_law 1385 = .ok (.iaload, 1) := by decide +kernel
theorem dL_law_1386 : decode cL_law 1386 = .ok (.invokevirtual 229, 3) := by decide +kernel
theorem dL_law_1389 : decode cL_law 1389 = .ok (.istore 6, 2) := by decide +kernel
theorem dL_law_1391 : decode cL_law 1391 = .ok (.aload_n 2, 1) := by decide +kernel
theorem dL_law_1392 : decode cL_law 1392 = .ok (.invokevirtual 142, 3) := by decide +kernel
theorem dL_law_1395 : decode cL_law 1395 = .ok (.iload 5, 2) := by decide +kernel
theorem dL_law_1397 : decode cL_law 1397 = .ok (.if_icmp .eq 5, 3) := by decide +kernel
theorem dL_law_1400 : decode cL_law 1400 = .ok (.iconst 0, 1) := by decide +kernel
theorem dL_law_1401 : decode cL_law 1401 = .ok (.ireturn, 1) := by decide +kernel
theorem dL_law_1402 : decode cL_law 1402 = .ok (.iload 5, 2) := by decide +kernel
theorem dL_law_1404 : decode cL_law 1404 = .ok (.ifCond .ne 15, 3) := by decide +kernel
theorem dL_law_1407 : decode cL_law 1407 = .ok (.aload_n 3, 1) := by decide +kernel
theorem dL_law_1408 : decode cL_law 1408 = .ok (.iconst 0, 1) := by decide +kernel
theorem dL_law_1409 : decode cL_law 1409 = .ok (.laload, 1) := by decide +kernel
theorem dL_law_1410 : decode cL_law 1410 = .ok (.iload 6, 2) := by decide +kernel
theorem dL_law_1412 : decode cL_law 1412 = .ok (.i2l, 1) := by decide +kernel
theorem dL_law_1413 : decode cL_law 1413 = .ok (.lcmp, 1) := by decide +kernel
theorem dL_law_1414 : decode cL_law 1414 = .ok (.ifCond .eq 5, 3) := by decide +kernel
theorem dL_law_1417 : decode cL_law 1417 = .ok (.iconst 0, 1) := by decide +kernel
theorem dL_law_1418 : decode cL_law 1418 = .ok (.ireturn, 1) := by decide +kernel
theorem dL_law_1419 : decode cL_law 1419 = .ok (.goto 1215, 3) := by decide +kernel
theorem dL_law_1422 : decode cL_law 1422 = .ok (.aload_n 1, 1) := by decide +kernel
theorem dL_law_1423 : decode cL_law 1423 = .ok (.aload_n 0, 1) := by decide +kernel
theorem dL_law_1424 : decode cL_law 1424 = .ok (.iload 4, 2) := by decide +kernel
theorem dL_law_1426 : decode cL_law 1426 = .ok (.iconst 1, 1) := by decide +kernel
theorem dL_law_1427 : decode cL_law 1427 = .ok (.iadd, 1) := by decide +kernel
theorem dL_law_1428 : decode cL_law 1428 = .ok (.iaload, 1) := by decide +kernel
theorem dL_law_1429 : decode cL_law 1429 = .ok (.aload_n 0, 1) := by decide +kernel
theorem dL_law_1430 : decode cL_law 1430 = .ok (.iload 4, 2) := by decide +kernel
theorem dL_law_1432 : decode cL_law 1432 = .ok (.iconst 2, 1) := by decide +kernel
theorem dL_law_1433 : decode cL_law 1433 = .ok (.iadd, 1) := by decide +kernel
theorem dL_law_1434 : decode cL_law 1434 = .ok (.iaload, 1) := by decide +kernel
theorem dL_law_1435 : decode cL_law 1435 = .ok (.aload_n 0, 1) := by decide +kernel
theorem dL_law_1436 : decode cL_law 1436 = .ok (.iload 4, 2) := by decide +kernel
theorem dL_law_1438 : decode cL_law 1438 = .ok (.iconst 3, 1) := by decide +kernel
theorem dL_law_1439 : decode cL_law 1439 = .ok (.iadd, 1) := by decide +kernel
theorem dL_law_1440 : decode cL_law 1440 = .ok (.iaload, 1) := by decide +kernel
theorem dL_law_1441 : decode cL_law 1441 = .ok (.ifCond .eq 7, 3) := by decide +kernel
theorem dL_law_1444 : decode cL_law 1444 = .ok (.iconst 1, 1) := by decide +kernel
theorem dL_law_1445 : decode cL_law 1445 = .ok (.goto 4, 3) := by decide +kernel
theorem dL_law_1448 : decode cL_law 1448 = .ok (.iconst 0, 1) := by decide +kernel
theorem dL_law_1449 : decode cL_law 1449 = .ok (.aload_n 3, 1) := by decide +kernel
theorem dL_law_1450 : decode cL_law 1450 = .ok (.invokestatic 230, 3) := by decide +kernel
theorem dL_law_1453 : decode cL_law 1453 = .ok (.istore 5, 2) := by decide +kernel
theorem dL_law_1455 : decode cL_law 1455 = .ok (.aload_n 2, 1) := by decide +kernel
theorem dL_law_1456 : decode cL_law 1456 = .ok (.aload_n 0, 1) := by decide +kernel
theorem dL_law_1457 : decode cL_law 1457 = .ok (.iload 4, 2) := by decide +kernel
theorem dL_law_1459 : decode cL_law 1459 = .ok (.iconst 1, 1) := by decide +kernel
theorem dL_law_1460 : decode cL_law 1460 = .ok (.iadd, 1) := by decide +kernel
theorem dL_law_1461 : decode cL_law 1461 = .ok (.iaload, 1) := by decide +kernel
theorem dL_law_1462 : decode cL_law 1462 = .ok (.aload_n 0, 1) := by decide +kernel
theorem dL_law_1463 : decode cL_law 1463 = .ok (.iload 4, 2) := by decide +kernel
theorem dL_law_1465 : decode cL_law 1465 = .ok (.iconst 2, 1) := by decide +kernel
theorem dL_law_1466 : decode cL_law 1466 = .ok (.iadd, 1) := by decide +kernel
theorem dL_law_1467 : decode cL_law 1467 = .ok (.iaload, 1) := by decide +kernel
theorem dL_law_1468 : decode cL_law 1468 = .ok (.aload_n 0, 1) := by decide +kernel
theorem dL_law_1469 : decode cL_law 1469 = .ok (.iload 4, 2) := by decide +kernel
theorem dL_law_1471 : decode cL_law 1471 = .ok (.iconst 3, 1) := by decide +kernel
theorem dL_law_1472 : decode cL_law 1472 = .ok (.iadd, 1) := by decide +kernel
theorem dL_law_1473 : decode cL_law 1473 = .ok (.iaload, 1) := by decide +kernel
theorem dL_law_1474 : decode cL_law 1474 = .ok (.ifCond .eq 7, 3) := by decide +kernel
theorem dL_law_1477 : decode cL_law 1477 = .ok (.iconst 1, 1) := by decide +kernel
theorem dL_law_1478 : decode cL_law 1478 = .ok (.goto 4, 3) := by decide +kernel
theorem dL_law_1481 : decode cL_law 1481 = .ok (.iconst 0, 1) := by decide +kernel
theorem dL_law_1482 : decode cL_law 1482 = .ok (.invokevirtual 233, 3) := by decide +kernel
theorem dL_law_1485 : decode cL_law 1485 = .ok (.istore 6, 2) := by decide +kernel
theorem dL_law_1487 : decode cL_law 1487 = .ok (.aload_n 2, 1) := by decide +kernel
theorem dL_law_1488 : decode cL_law 1488 = .ok (.invokevirtual 142, 3) := by decide +kernel
theorem dL_law_1491 : decode cL_law 1491 = .ok (.iload 5, 2) := by decide +kernel
theorem dL_law_1493 : decode cL_law 1493 = .ok (.if_icmp .eq 5, 3) := by decide +kernel
theorem dL_law_1496 : decode cL_law 1496 = .ok (.iconst 0, 1) := by decide +kernel
theorem dL_law_1497 : decode cL_law 1497 = .ok (.ireturn, 1) := by decide +kernel
theorem dL_law_1498 : decode cL_law 1498 = .ok (.iload 5, 2) := by decide +kernel
theorem dL_law_1500 : decode cL_law 1500 = .ok (.ifCond .ne 15, 3) := by decide +kernel
theorem dL_law_1503 : decode cL_law 1503 = .ok (.aload_n 3, 1) := by decide +kernel
theorem dL_law_1504 : decode cL_law 1504 = .ok (.iconst 0, 1) := by decide +kernel
theorem dL_law_1505 : decode cL_law 1505 = .ok (.laload, 1) := by decide +kernel
theorem dL_law_1506 : decode cL_law 1506 = .ok (.iload 6, 2) := by decide +kernel
theorem dL_law_1508 : decode cL_law 1508 = .ok (.i2l, 1) := by decide +kernel
theorem dL_law_1509 : decode cL_law 1509 = .ok (.lcmp, 1) := by decide +kernel
theorem dL_law_1510 : decode cL_law 1510 = .ok (.ifCond .eq 5, 3) := by decide +kernel
theorem dL_law_1513 : decode cL_law 1513 = .ok (.iconst 0, 1) := by decide +kernel
theorem dL_law_1514 : decode cL_law 1514 = .ok (.ireturn, 1) := by decide +kernel
theorem dL_law_1515 : decode cL_law 1515 = .ok (.goto 1119, 3) := by decide +kernel
theorem dL_law_1518 : decode cL_law 1518 = .ok (.aload_n 1, 1) := by decide +kernel
theorem dL_law_1519 : decode cL_law 1519 = .ok (.aload_n 0, 1) := by decide +kernel
theorem dL_law_1520 : decode cL_law 1520 = .ok (.iload 4, 2) := by decide +kernel
theorem dL_law_1522 : decode cL_law 1522 = .ok (.iconst 1, 1) := by decide +kernel
theorem dL_law_1523 : decode cL_law 1523 = .ok (.iadd, 1) := by decide +kernel
theorem dL_law_1524 : decode cL_law 1524 = .ok (.iaload, 1) := by decide +kernel
theorem dL_law_1525 : decode cL_law 1525 = .ok (.aload_n 3, 1) := by decide +kernel
theorem dL_law_1526 : decode cL_law 1526 = .ok (.invokestatic 234, 3) := by decide +kernel
theorem dL_law_1529 : decode cL_law 1529 = .ok (.istore 5, 2) := by decide +kernel
theorem dL_law_1531 : decode cL_law 1531 = .ok (.aload_n 2, 1) := by decide +kernel
theorem dL_law_1532 : decode cL_law 1532 = .ok (.aload_n 0, 1) := by decide +kernel
theorem dL_law_1533 : decode cL_law 1533 = .ok (.iload 4, 2) := by decide +kernel
theorem dL_law_1535 : decode cL_law 1535 = .ok (.iconst 1, 1) := by decide +kernel
theorem dL_law_1536 : decode cL_law 1536 = .ok (.iadd, 1) := by decide +kernel
theorem dL_law_1537 : decode cL_law 1537 = .ok (.iaload, 1) := by decide +kernel
theorem dL_law_1538 : decode cL_law 1538 = .ok (.invokevirtual 236, 3) := by decide +kernel
theorem dL_law_1541 : decode cL_law 1541 = .ok (.istore 6, 2) := by decide +kernel
theorem dL_law_1543 : decode cL_law 1543 = .ok (.aload_n 2, 1) := by decide +kernel
theorem dL_law_1544 : decode cL_law 1544 = .ok (.invokevirtual 142, 3) := by decide +kernel
theorem dL_law_1547 : decode cL_law 1547 = .ok (.iload 5, 2) := by decide +kernel
theorem dL_law_1549 : decode cL_law 1549 = .ok (.if_icmp .eq 5, 3) := by decide +kernel
theorem dL_law_1552 : decode cL_law 1552 = .ok (.iconst 0, 1) := by decide +kernel
theorem dL_law_1553 : decode cL_law 1553 = .ok (.ireturn, 1) := by decide +kernel
theorem dL_law_1554 : decode cL_law 1554 = .ok (.iload 5, 2) := by decide +kernel
theorem dL_law_1556 : decode cL_law 1556 = .ok (.ifCond .ne 15, 3) := by decide +kernel
theorem dL_law_1559 : decode cL_law 1559 = .ok (.aload_n 3, 1) := by decide +kernel
theorem dL_law_1560 : decode cL_law 1560 = .ok (.iconst 0, 1) := by decide +kernel
theorem dL_law_1561 : decode cL_law 1561 = .ok (.laload, 1) := by decide +kernel
theorem dL_law_1562 : decode cL_law 1562 = .ok (.iload 6, 2) := by decide +kernel
theorem dL_law_1564 : decode cL_law 1564 = .ok (.i2l, 1) := by decide +kernel
theorem dL_law_1565 : decode cL_law 1565 = .ok (.lcmp, 1) := by decide +kernel
theorem dL_law_1566 : decode cL_law 1566 = .ok (.ifCond .eq 5, 3) := by decide +kernel
theorem dL_law_1569 : decode cL_law 1569 = .ok (.iconst 0, 1) := by decide +kernel
theorem dL_law_1570 : decode cL_law 1570 = .ok (.ireturn, 1) := by decide +kernel
theorem dL_law_1571 : decode cL_law 1571 = .ok (.goto 1063, 3) := by decide +kernel
theorem dL_law_1574 : decode cL_law 1574 = .ok (.aload_n 1, 1) := by decide +kernel
theorem dL_law_1575 : decode cL_law 1575 = .ok (.aload_n 0, 1) := by decide +kernel
theorem dL_law_1576 : decode cL_law 1576 = .ok (.iload 4, 2) := by decide +kernel
theorem dL_law_1578 : decode cL_law 1578 = .ok (.iconst 1, 1) := by decide +kernel
theorem dL_law_1579 : decode cL_law 1579 = .ok (.iadd, 1) := by decide +kernel
theorem dL_law_1580 : decode cL_law 1580 = .ok (.iaload, 1) := by decide +kernel
theorem dL_law_1581 : decode cL_law 1581 = .ok (.aload_n 3, 1) := by decide +kernel
theorem dL_law_1582 : decode cL_law 1582 = .ok (.invokestatic 237, 3) := by decide +kernel
theorem dL_law_1585 : decode cL_law 1585 = .ok (.istore 5, 2) := by decide +kernel
theorem dL_law_1587 : decode cL_law 1587 = .ok (.aload_n 2, 1) := by decide +kernel
theorem dL_law_1588 : decode cL_law 1588 = .ok (.aload_n 0, 1) := by decide +kernel
theorem dL_law_1589 : decode cL_law 1589 = .ok (.iload 4, 2) := by decide +kernel
theorem dL_law_1591 : decode cL_law 1591 = .ok (.iconst 1, 1) := by decide +kernel
theorem dL_law_1592 : decode cL_law 1592 = .ok (.iadd, 1) := by decide +kernel
theorem dL_law_1593 : decode cL_law 1593 = .ok (.iaload, 1) := by decide +kernel
theorem dL_law_1594 : decode cL_law 1594 = .ok (.invokevirtual 239, 3) := by decide +kernel
theorem dL_law_1597 : decode cL_law 1597 = .ok (.istore 6, 2) := by decide +kernel
theorem dL_law_1599 : decode cL_law 1599 = .ok (.aload_n 2, 1) := by decide +kernel
theorem dL_law_1600 : decode cL_law 1600 = .ok (.invokevirtual 142, 3) := by decide +kernel
theorem dL_law_1603 : decode cL_law 1603 = .ok (.iload 5, 2) := by decide +kernel
theorem dL_law_1605 : decode cL_law 1605 = .ok (.if_icmp .eq 5, 3) := by decide +kernel
theorem dL_law_1608 : decode cL_law 1608 = .ok (.iconst 0, 1) := by decide +kernel
theorem dL_law_1609 : decode cL_law 1609 = .ok (.ireturn, 1) := by decide +kernel
theorem dL_law_1610 : decode cL_law 1610 = .ok (.iload 5, 2) := by decide +kernel
theorem dL_law_1612 : decode cL_law 1612 = .ok (.ifCond .ne 15, 3) := by decide +kernel
theorem dL_law_1615 : decode cL_law 1615 = .ok (.aload_n 3, 1) := by decide +kernel
theorem dL_law_1616 : decode cL_law 1616 = .ok (.iconst 0, 1) := by decide +kernel
theorem dL_law_1617 : decode cL_law 1617 = .ok (.laload, 1) := by decide +kernel
theorem dL_law_1618 : decode cL_law 1618 = .ok (.iload 6, 2) := by decide +kernel
theorem dL_law_1620 : decode cL_law 1620 = .ok (.i2l, 1) := by decide +kernel
theorem dL_law_1621 : decode cL_law 1621 = .ok (.lcmp, 1) := by decide +kernel
theorem dL_law_1622 : decode cL_law 1622 = .ok (.ifCond .eq 5, 3) := by decide +kernel
theorem dL_law_1625 : decode cL_law 1625 = .ok (.iconst 0, 1) := by decide +kernel
theorem dL_law_1626 : decode cL_law 1626 = .ok (.ireturn, 1) := by decide +kernel
theorem dL_law_1627 : decode cL_law 1627 = .ok (.goto 1007, 3) := by decide +kernel
theorem dL_law_1630 : decode cL_law 1630 = .ok (.aload_n 1, 1) := by decide +kernel
theorem dL_law_1631 : decode cL_law 1631 = .ok (.aload_n 0, 1) := by decide +kernel
theorem dL_law_1632 : decode cL_law 1632 = .ok (.iload 4, 2) := by decide +kernel
theorem dL_law_1634 : decode cL_law 1634 = .ok (.iconst 1, 1) := by decide +kernel
theorem dL_law_1635 : decode cL_law 1635 = .ok (.iadd, 1) := by decide +kernel
theorem dL_law_1636 : decode cL_law 1636 = .ok (.iaload, 1) := by decide +kernel
theorem dL_law_1637 : decode cL_law 1637 = .ok (.aload_n 3, 1) := by decide +kernel
theorem dL_law_1638 : decode cL_law 1638 = .ok (.invokestatic 240, 3) := by decide +kernel
theorem dL_law_1641 : decode cL_law 1641 = .ok (.istore 5, 2) := by decide +kernel
theorem dL_law_1643 : decode cL_law 1643 = .ok (.aload_n 2, 1) := by decide +kernel
theorem dL_law_1644 : decode cL_law 1644 = .ok (.aload_n 0, 1) := by decide +kernel
theorem dL_law_1645 : decode cL_law 1645 = .ok (.iload 4, 2) := by decide +kernel
theorem dL_law_1647 : decode cL_law 1647 = .ok (.iconst 1, 1) := by decide +kernel
theorem dL_law_1648 : decode cL_law 1648 = .ok (.iadd, 1) := by decide +kernel
theorem dL_law_1649 : decode cL_law 1649 = .ok (.iaload, 1) := by decide +kernel
theorem dL_law_1650 : decode cL_law 1650 = .ok (.invokevirtual 242, 3) := by decide +kernel
theorem dL_law_1653 : decode cL_law 1653 = .ok (.istore 6, 2) := by decide +kernel
theorem dL_law_1655 : decode cL_law 1655 = .ok (.aload_n 2, 1) := by decide +kernel
theorem dL_law_1656 : decode cL_law 1656 = .ok (.invokevirtual 142, 3) := by decide +kernel
theorem dL_law_1659 : decode cL_law 1659 = .ok (.iload 5, 2) := by decide +kernel
theorem dL_law_1661 : decode cL_law 1661 = .ok (.if_icmp .eq 5, 3) := by decide +kernel
theorem dL_law_1664 : decode cL_law 1664 = .ok (.iconst 0, 1) := by decide +kernel
theorem dL_law_1665 : decode cL_law 1665 = .ok (.ireturn, 1) := by decide +kernel
theorem dL_law_1666 : decode cL_law 1666 = .ok (.iload 5, 2) := by decide +kernel
theorem dL_law_1668 : decode cL_law 1668 = .ok (.ifCond .ne 15, 3) := by decide +kernel
theorem dL_law_1671 : decode cL_law 1671 = .ok (.aload_n 3, 1) := by decide +kernel
theorem dL_law_1672 : decode cL_law 1672 = .ok (.iconst 0, 1) := by decide +kernel
theorem dL_law_1673 : decode cL_law 1673 = .ok (.laload, 1) := by decide +kernel
theorem dL_law_1674 : decode cL_law 1674 = .ok (.iload 6, 2) := by decide +kernel
theorem dL_law_1676 : decode cL_law 1676 = .ok (.i2l, 1) := by decide +kernel
theorem dL_law_1677 : decode cL_law 1677 = .ok (.lcmp, 1) := by decide +kernel
theorem dL_law_1678 : decode cL_law 1678 = .ok (.ifCond .eq 5, 3) := by decide +kernel
theorem dL_law_1681 : decode cL_law 1681 = .ok (.iconst 0, 1) := by decide +kernel
theorem dL_law_1682 : decode cL_law 1682 = .ok (.ireturn, 1) := by decide +kernel
theorem dL_law_1683 : decode cL_law 1683 = .ok (.goto 951, 3) := by decide +kernel
theorem dL_law_1686 : decode cL_law 1686 = .ok (.aload_n 1, 1) := by decide +kernel
theorem dL_law_1687 : decode cL_law 1687 = .ok (.aload_n 0, 1) := by decide +kernel
theorem dL_law_1688 : decode cL_law 1688 = .ok (.iload 4, 2) := by decide +kernel
theorem dL_law_1690 : decode cL_law 1690 = .ok (.iconst 1, 1) := by decide +kernel
theorem dL_law_1691 : decode cL_law 1691 = .ok (.iadd, 1) := by decide +kernel
theorem dL_law_1692 : decode cL_law 1692 = .ok (.iaload, 1) := by decide +kernel
theorem dL_law_1693 : decode cL_law 1693 = .ok (.aload_n 3, 1) := by decide +kernel
theorem dL_law_1694 : decode cL_law 1694 = .ok (.invokestatic 243, 3) := by decide +kernel
theorem dL_law_1697 : decode cL_law 1697 = .ok (.istore 5, 2) := by decide +kernel
theorem dL_law_1699 : decode cL_law 1699 = .ok (.aload_n 2, 1) := by decide +kernel
theorem dL_law_1700 : decode cL_law 1700 = .ok (.aload_n 0, 1) := by decide +kernel
theorem dL_law_1701 : decode cL_law 1701 = .ok (.iload 4, 2) := by decide +kernel
theorem dL_law_1703 : decode cL_law 1703 = .ok (.iconst 1, 1) := by decide +kernel
theorem dL_law_1704 : decode cL_law 1704 = .ok (.iadd, 1) := by decide +kernel
theorem dL_law_1705 : decode cL_law 1705 = .ok (.iaload, 1) := by decide +kernel
theorem dL_law_1706 : decode cL_law 1706 = .ok (.invokevirtual 245, 3) := by decide +kernel
theorem dL_law_1709 : decode cL_law 1709 = .ok (.istore 6, 2) := by decide +kernel
theorem dL_law_1711 : decode cL_law 1711 = .ok (.aload_n 2, 1) := by decide +kernel
theorem dL_law_1712 : decode cL_law 1712 = .ok (.invokevirtual 142, 3) := by decide +kernel
theorem dL_law_1715 : decode cL_law 1715 = .ok (.iload 5, 2) := by decide +kernel
theorem dL_law_1717 : decode cL_law 1717 = .ok (.if_icmp .eq 5, 3) := by decide +kernel
theorem dL_law_1720 : decode cL_law 1720 = .ok (.iconst 0, 1) := by decide +kernel
theorem dL_law_1721 : decode cL_law 1721 = .ok (.ireturn, 1) := by decide +kernel
theorem dL_law_1722 : decode cL_law 1722 = .ok (.iload 5, 2) := by decide +kernel
theorem dL_law_1724 : decode cL_law 1724 = .ok (.ifCond .ne 15, 3) := by decide +kernel
theorem dL_law_1727 : decode cL_law 1727 = .ok (.aload_n 3, 1) := by decide +kernel
theorem dL_law_1728 : decode cL_law 1728 = .ok (.iconst 0, 1) := by decide +kernel
theorem dL_law_1729 : decode cL_law 1729 = .ok (.laload, 1) := by decide +kernel
theorem dL_law_1730 : decode cL_law 1730 = .ok (.iload 6, 2) := by decide +kernel
theorem dL_law_1732 : decode cL_law 1732 = .ok (.i2l, 1) := by decide +kernel
theorem dL_law_1733 : decode cL_law 1733 = .ok (.lcmp, 1) := by decide +kernel
theorem dL_law_1734 : decode cL_law 1734 = .ok (.ifCond .eq 5, 3) := by decide +kernel
theorem dL_law_1737 : decode cL_law 1737 = .ok (.iconst 0, 1) := by decide +kernel
theorem dL_law_1738 : decode cL_law 1738 = .ok (.ireturn, 1) := by decide +kernel
theorem dL_law_1739 : decode cL_law 1739 = .ok (.goto 895, 3) := by decide +kernel
theorem dL_law_1742 : decode cL_law 1742 = .ok (.aload_n 1, 1) := by decide +kernel
theorem dL_law_1743 : decode cL_law 1743 = .ok (.aload_n 0, 1) := by decide +kernel
theorem dL_law_1744 : decode cL_law 1744 = .ok (.iload 4, 2) := by decide +kernel
theorem dL_law_1746 : decode cL_law 1746 = .ok (.iconst 1, 1) := by decide +kernel
theorem dL_law_1747 : decode cL_law 1747 = .ok (.iadd, 1) := by decide +kernel
theorem dL_law_1748 : decode cL_law 1748 = .ok (.iaload, 1) := by decide +kernel
theorem dL_law_1749 : decode cL_law 1749 = .ok (.aload_n 0, 1) := by decide +kernel
theorem dL_law_1750 : decode cL_law 1750 = .ok (.iload 4, 2) := by decide +kernel
theorem dL_law_1752 : decode cL_law 1752 = .ok (.iconst 2, 1) := by decide +kernel
theorem dL_law_1753 : decode cL_law 1753 = .ok (.iadd, 1) := by decide +kernel
theorem dL_law_1754 : decode cL_law 1754 = .ok (.iaload, 1) := by decide +kernel
theorem dL_law_1755 : decode cL_law 1755 = .ok (.aload_n 3, 1) := by decide +kernel
theorem dL_law_1756 : decode cL_law 1756 = .ok (.invokestatic 246, 3) := by decide +kernel
theorem dL_law_1759 : decode cL_law 1759 = .ok (.istore 5, 2) := by decide +kernel
theorem dL_law_1761 : decode cL_law 1761 = .ok (.aload_n 2, 1) := by decide +kernel
theorem dL_law_1762 : decode cL_law 1762 = .ok (.aload_n 0, 1) := by decide +kernel
theorem dL_law_1763 : decode cL_law 1763 = .ok (.iload 4, 2) := by decide +kernel
theorem dL_law_1765 : decode cL_law 1765 = .ok (.iconst 1, 1) := by decide +kernel
theorem dL_law_1766 : decode cL_law 1766 = .ok (.iadd, 1) := by decide +kernel
theorem dL_law_1767 : decode cL_law 1767 = .ok (.iaload, 1) := by decide +kernel
theorem dL_law_1768 : decode cL_law 1768 = .ok (.aload_n 0, 1) := by decide +kernel
theorem dL_law_1769 : decode cL_law 1769 = .ok (.iload 4, 2) := by decide +kernel
theorem dL_law_1771 : decode cL_law 1771 = .ok (.iconst 2, 1) := by decide +kernel
theorem dL_law_1772 : decode cL_law 1772 = .ok (.iadd, 1) := by decide +kernel
theorem dL_law_1773 : decode cL_law 1773 = .ok (.iaload, 1) := by decide +kernel
theorem dL_law_1774 : decode cL_law 1774 = .ok (.invokevirtual 248, 3) := by decide +kernel
theorem dL_law_1777 : decode cL_law 1777 = .ok (.istore 6, 2) := by decide +kernel
theorem dL_law_1779 : decode cL_law 1779 = .ok (.aload_n 2, 1) := by decide +kernel
theorem dL_law_1780 : decode cL_law 1780 = .ok (.invokevirtual 142, 3) := by decide +kernel
theorem dL_law_1783 : decode cL_law 1783 = .ok (.iload 5, 2) := by decide +kernel
theorem dL_law_1785 : decode cL_law 1785 = .ok (.if_icmp .eq 5, 3) := by decide +kernel
theorem dL_law_1788 : decode cL_law 1788 = .ok (.iconst 0, 1) := by decide +kernel
theorem dL_law_1789 : decode cL_law 1789 = .ok (.ireturn, 1) := by decide +kernel
theorem dL_law_1790 : decode cL_law 1790 = .ok (.iload 5, 2) := by decide +kernel
theorem dL_law_1792 : decode cL_law 1792 = .ok (.ifCond .ne 22, 3) := by decide +kernel
theorem dL_law_1795 : decode cL_law 1795 = .ok (.aload_n 3, 1) := by decide +kernel
theorem dL_law_1796 : decode cL_law 1796 = .ok (.iconst 0, 1) := by decide +kernel
theorem dL_law_1797 : decode cL_law 1797 = .ok (.laload, 1) := by decide +kernel
theorem dL_law_1798 : decode cL_law 1798 = .ok (.iload 6, 2) := by decide +kernel
theorem dL_law_1800 : decode cL_law 1800 = .ok (.ifCond .eq 7, 3) := by decide +kernel
theorem dL_law_1803 : decode cL_law 1803 = .ok (.lconst 1, 1) := by decide +kernel
theorem dL_law_1804 : decode cL_law 1804 = .ok (.goto 4, 3) := by decide +kernel
theorem dL_law_1807 : decode cL_law 1807 = .ok (.lconst 0, 1) := by decide +kernel
theorem dL_law_1808 : decode cL_law 1808 = .ok (.lcmp, 1) := by decide +kernel
theorem dL_law_1809 : decode cL_law 1809 = .ok (.ifCond .eq 5, 3) := by decide +kernel
theorem dL_law_1812 : decode cL_law 1812 = .ok (.iconst 0, 1) := by decide +kernel
theorem dL_law_1813 : decode cL_law 1813 = .ok (.ireturn, 1) := by decide +kernel
theorem dL_law_1814 : decode cL_law 1814 = .ok (.goto 820, 3) := by decide +kernel
theorem dL_law_1817 : decode cL_law 1817 = .ok (.aload_n 1, 1) := by decide +kernel
theorem dL_law_1818 : decode cL_law 1818 = .ok (.aload_n 0, 1) := by decide +kernel
theorem dL_law_1819 : decode cL_law 1819 = .ok (.iload 4, 2) := by decide +kernel
theorem dL_law_1821 : decode cL_law 1821 = .ok (.iconst 1, 1) := by decide +kernel
theorem dL_law_1822 : decode cL_law 1822 = .ok (.iadd, 1) := by decide +kernel
theorem dL_law_1823 : decode cL_law 1823 = .ok (.iaload, 1) := by decide +kernel
theorem dL_law_1824 : decode cL_law 1824 = .ok (.aload_n 0, 1) := by decide +kernel
theorem dL_law_1825 : decode cL_law 1825 = .ok (.iload 4, 2) := by decide +kernel
theorem dL_law_1827 : decode cL_law 1827 = .ok (.iconst 2, 1) := by decide +kernel
theorem dL_law_1828 : decode cL_law 1828 = .ok (.iadd, 1) := by decide +kernel
theorem dL_law_1829 : decode cL_law 1829 = .ok (.iaload, 1) := by decide +kernel
theorem dL_law_1830 : decode cL_law 1830 = .ok (.aload_n 3, 1) := by decide +kernel
theorem dL_law_1831 : decode cL_law 1831 = .ok (.invokestatic 249, 3) := by decide +kernel
theorem dL_law_1834 : decode cL_law 1834 = .ok (.istore 5, 2) := by decide +kernel
theorem dL_law_1836 : decode cL_law 1836 = .ok (.aload_n 2, 1) := by decide +kernel
theorem dL_law_1837 : decode cL_law 1837 = .ok (.aload_n 0, 1) := by decide +kernel
theorem dL_law_1838 : decode cL_law 1838 = .ok (.iload 4, 2) := by decide +kernel
theorem dL_law_1840 : decode cL_law 1840 = .ok (.iconst 1, 1) := by decide +kernel
theorem dL_law_1841 : decode cL_law 1841 = .ok (.iadd, 1) := by decide +kernel
theorem dL_law_1842 : decode cL_law 1842 = .ok (.iaload, 1) := by decide +kernel
theorem dL_law_1843 : decode cL_law 1843 = .ok (.aload_n 0, 1) := by decide +kernel
theorem dL_law_1844 : decode cL_law 1844 = .ok (.iload 4, 2) := by decide +kernel
theorem dL_law_1846 : decode cL_law 1846 = .ok (.iconst 2, 1) := by decide +kernel
theorem dL_law_1847 : decode cL_law 1847 = .ok (.iadd, 1) := by decide +kernel
theorem dL_law_1848 : decode cL_law 1848 = .ok (.iaload, 1) := by decide +kernel
theorem dL_law_1849 : decode cL_law 1849 = .ok (.invokevirtual 251, 3) := by decide +kernel
theorem dL_law_1852 : decode cL_law 1852 = .ok (.istore 6, 2) := by decide +kernel
theorem dL_law_1854 : decode cL_law 1854 = .ok (.aload_n 2, 1) := by decide +kernel
theorem dL_law_1855 : decode cL_law 1855 = .ok (.invokevirtual 142, 3) := by decide +kernel
theorem dL_law_1858 : decode cL_law 1858 = .ok (.iload 5, 2) := by decide +kernel
theorem dL_law_1860 : decode cL_law 1860 = .ok (.if_icmp .eq 5, 3) := by decide +kernel
theorem dL_law_1863 : decode cL_law 1863 = .ok (.iconst 0, 1) := by decide +kernel
theorem dL_law_1864 : decode cL_law 1864 = .ok (.ireturn, 1) := by decide +kernel
theorem dL_law_1865 : decode cL_law 1865 = .ok (.iload 5, 2) := by decide +kernel
theorem dL_law_1867 : decode cL_law 1867 = .ok (.ifCond .ne 15, 3) := by decide +kernel
theorem dL_law_1870 : decode cL_law 1870 = .ok (.aload_n 3, 1) := by decide +kernel
theorem dL_law_1871 : decode cL_law 1871 = .ok (.iconst 0, 1) := by decide +kernel
theorem dL_law_1872 : decode cL_law 1872 = .ok (.laload, 1) := by decide +kernel
theorem dL_law_1873 : decode cL_law 1873 = .ok (.iload 6, 2) := by decide +kernel
theorem dL_law_1875 : decode cL_law 1875 = .ok (.i2l, 1) := by decide +kernel
theorem dL_law_1876 : decode cL_law 1876 = .ok (.lcmp, 1) := by decide +kernel
theorem dL_law_1877 : decode cL_law 1877 = .ok (.ifCond .eq 5, 3) := by decide +kernel
theorem dL_law_1880 : decode cL_law 1880 = .ok (.iconst 0, 1) := by decide +kernel
theorem dL_law_1881 : decode cL_law 1881 = .ok (.ireturn, 1) := by decide +kernel
theorem dL_law_1882 : decode cL_law 1882 = .ok (.goto 752, 3) := by decide +kernel
theorem dL_law_1885 : decode cL_law 1885 = .ok (.aload_n 1, 1) := by decide +kernel
theorem dL_law_1886 : decode cL_law 1886 = .ok (.aload_n 0, 1) := by decide +kernel
theorem dL_law_1887 : decode cL_law 1887 = .ok (.iload 4, 2) := by decide +kernel
theorem dL_law_1889 : decode cL_law 1889 = .ok (.iconst 1, 1) := by decide +kernel
theorem dL_law_1890 : decode cL_law 1890 = .ok (.iadd, 1) := by decide +kernel
theorem dL_law_1891 : decode cL_law 1891 = .ok (.iaload, 1) := by decide +kernel
theorem dL_law_1892 : decode cL_law 1892 = .ok (.aload_n 3, 1) := by decide +kernel
theorem dL_law_1893 : decode cL_law 1893 = .ok (.invokestatic 252, 3) := by decide +kernel
theorem dL_law_1896 : decode cL_law 1896 = .ok (.istore 5, 2) := by decide +kernel
theorem dL_law_1898 : decode cL_law 1898 = .ok (.aload_n 2, 1) := by decide +kernel
theorem dL_law_1899 : decode cL_law 1899 = .ok (.aload_n 0, 1) := by decide +kernel
theorem dL_law_1900 : decode cL_law 1900 = .ok (.iload 4, 2) := by decide +kernel
theorem dL_law_1902 : decode cL_law 1902 = .ok (.iconst 1, 1) := by decide +kernel
theorem dL_law_1903 : decode cL_law 1903 = .ok (.iadd, 1) := by decide +kernel
theorem dL_law_1904 : decode cL_law 1904 = .ok (.iaload, 1) := by decide +kernel
theorem dL_law_1905 : decode cL_law 1905 = .ok (.invokevirtual 254, 3) := by decide +kernel
theorem dL_law_1908 : decode cL_law 1908 = .ok (.istore 6, 2) := by decide +kernel
theorem dL_law_1910 : decode cL_law 1910 = .ok (.aload_n 2, 1) := by decide +kernel
theorem dL_law_1911 : decode cL_law 1911 = .ok (.invokevirtual 142, 3) := by decide +kernel
theorem dL_law_1914 : decode cL_law 1914 = .ok (.iload 5, 2) := by decide +kernel
theorem dL_law_1916 : decode cL_law 1916 = .ok (.if_icmp .eq 5, 3) := by decide +kernel
theorem dL_law_1919 : decode cL_law 1919 = .ok (.iconst 0, 1) := by decide +kernel
theorem dL_law_1920 : decode cL_law 1920 = .ok (.ireturn, 1) := by decide +kernel
theorem dL_law_1921 : decode cL_law 1921 = .ok (.iload 5, 2) := by decide +kernel
theorem dL_law_1923 : decode cL_law 1923 = .ok (.ifCond .ne 15, 3) := by decide +kernel
theorem dL_law_1926 : decode cL_law 1926 = .ok (.aload_n 3, 1) := by decide +kernel
theorem dL_law_1927 : decode cL_law 1927 = .ok (.iconst 0, 1) := by decide +kernel
theorem dL_law_1928 : decode cL_law 1928 = .ok (.laload, 1) := by decide +kernel
theorem dL_law_1929 : decode cL_law 1929 = .ok (.iload 6, 2) := by decide +kernel
theorem dL_law_1931 : decode cL_law 1931 = .ok (.i2l, 1) := by decide +kernel
theorem dL_law_1932 : decode cL_law 1932 = .ok (.lcmp, 1) := by decide +kernel
theorem dL_law_1933 : decode cL_law 1933 = .ok (.ifCond .eq 5, 3) := by decide +kernel
theorem dL_law_1936 : decode cL_law 1936 = .ok (.iconst 0, 1) := by decide +kernel
theorem dL_law_1937 : decode cL_law 1937 = .ok (.ireturn, 1) := by decide +kernel
theorem dL_law_1938 : decode cL_law 1938 = .ok (.goto 696, 3) := by decide +kernel
theorem dL_law_1941 : decode cL_law 1941 = .ok (.aload_n 1, 1) := by decide +kernel
theorem dL_law_1942 : decode cL_law 1942 = .ok (.aload_n 0, 1) := by decide +kernel
theorem dL_law_1943 : decode cL_law 1943 = .ok (.iload 4, 2) := by decide +kernel
theorem dL_law_1945 : decode cL_law 1945 = .ok (.iconst 1, 1) := by decide +kernel
theorem dL_law_1946 : decode cL_law 1946 = .ok (.iadd, 1) := by decide +kernel
theorem dL_law_1947 : decode cL_law 1947 = .ok (.iaload, 1) := by decide +kernel
theorem dL_law_1948 : decode cL_law 1948 = .ok (.aload_n 3, 1) := by decide +kernel
theorem dL_law_1949 : decode cL_law 1949 = .ok (.invokestatic 255, 3) := by decide +kernel
theorem dL_law_1952 : decode cL_law 1952 = .ok (.istore 5, 2) := by decide +kernel
theorem dL_law_1954 : decode cL_law 1954 = .ok (.aload_n 2, 1) := by decide +kernel
theorem dL_law_1955 : decode cL_law 1955 = .ok (.aload_n 0, 1) := by decide +kernel
theorem dL_law_1956 : decode cL_law 1956 = .ok (.iload 4, 2) := by decide +kernel
theorem dL_law_1958 : decode cL_law 1958 = .ok (.iconst 1, 1) := by decide +kernel
theorem dL_law_1959 : decode cL_law 1959 = .ok (.iadd, 1) := by decide +kernel
theorem dL_law_1960 : decode cL_law 1960 = .ok (.iaload, 1) := by decide +kernel
theorem dL_law_1961 : decode cL_law 1961 = .ok (.invokevirtual 257, 3) := by decide +kernel
theorem dL_law_1964 : decode cL_law 1964 = .ok (.istore 6, 2) := by decide +kernel
theorem dL_law_1966 : decode cL_law 1966 = .ok (.aload_n 2, 1) := by decide +kernel
theorem dL_law_1967 : decode cL_law 1967 = .ok (.invokevirtual 142, 3) := by decide +kernel
theorem dL_law_1970 : decode cL_law 1970 = .ok (.iload 5, 2) := by decide +kernel
theorem dL_law_1972 : decode cL_law 1972 = .ok (.if_icmp .eq 5, 3) := by decide +kernel
theorem dL_law_1975 : decode cL_law 1975 = .ok (.iconst 0, 1) := by decide +kernel
theorem dL_law_1976 : decode cL_law 1976 = .ok (.ireturn, 1) := by decide +kernel
theorem dL_law_1977 : decode cL_law 1977 = .ok (.iload 5, 2) := by decide +kernel
theorem dL_law_1979 : decode cL_law 1979 = .ok (.ifCond .ne 15, 3) := by decide +kernel
theorem dL_law_1982 : decode cL_law 1982 = .ok (.aload_n 3, 1) := by decide +kernel
theorem dL_law_1983 : decode cL_law 1983 = .ok (.iconst 0, 1) := by decide +kernel
theorem dL_law_1984 : decode cL_law 1984 = .ok (.laload, 1) := by decide +kernel
theorem dL_law_1985 : decode cL_law 1985 = .ok (.iload 6, 2) := by decide +kernel
theorem dL_law_1987 : decode cL_law 1987 = .ok (.i2l, 1) := by decide +kernel
theorem dL_law_1988 : decode cL_law 1988 = .ok (.lcmp, 1) := by decide +kernel
theorem dL_law_1989 : decode cL_law 1989 = .ok (.ifCond .eq 5, 3) := by decide +kernel
theorem dL_law_1992 : decode cL_law 1992 = .ok (.iconst 0, 1) := by decide +kernel
theorem dL_law_1993 : decode cL_law 1993 = .ok (.ireturn, 1) := by decide +kernel
theorem dL_law_1994 : decode cL_law 1994 = .ok (.goto 640, 3) := by decide +kernel
theorem dL_law_1997 : decode cL_law 1997 = .ok (.aload_n 1, 1) := by decide +kernel
theorem dL_law_1998 : decode cL_law 1998 = .ok (.aload_n 0, 1) := by decide +kernel
theorem dL_law_1999 : decode cL_law 1999 = .ok (.iload 4, 2) := by decide +kernel
theorem dL_law_2001 : decode cL_law 2001 = .ok (.iconst 1, 1) := by decide +kernel
theorem dL_law_2002 : decode cL_law 2002 = .ok (.iadd, 1) := by decide +kernel
theorem dL_law_2003 : decode cL_law 2003 = .ok (.iaload, 1) := by decide +kernel
theorem dL_law_2004 : decode cL_law 2004 = .ok (.aload_n 0, 1) := by decide +kernel
theorem dL_law_2005 : decode cL_law 2005 = .ok (.iload 4, 2) := by decide +kernel
theorem dL_law_2007 : decode cL_law 2007 = .ok (.iconst 2, 1) := by decide +kernel
theorem dL_law_2008 : decode cL_law 2008 = .ok (.iadd, 1) := by decide +kernel
theorem dL_law_2009 : decode cL_law 2009 = .ok (.iaload, 1) := by decide +kernel
theorem dL_law_2010 : decode cL_law 2010 = .ok (.aload_n 0, 1) := by decide +kernel
theorem dL_law_2011 : decode cL_law 2011 = .ok (.iload 4, 2) := by decide +kernel
theorem dL_law_2013 : decode cL_law 2013 = .ok (.iconst 3, 1) := by decide +kernel
theorem dL_law_2014 : decode cL_law 2014 = .ok (.iadd, 1) := by decide +kernel
theorem dL_law_2015 : decode cL_law 2015 = .ok (.iaload, 1) := by decide +kernel
theorem dL_law_2016 : decode cL_law 2016 = .ok (.aload_n 0, 1) := by decide +kernel
theorem dL_law_2017 : decode cL_law 2017 = .ok (.iload 4, 2) := by decide +kernel
theorem dL_law_2019 : decode cL_law 2019 = .ok (.iconst 4, 1) := by decide +kernel
theorem dL_law_2020 : decode cL_law 2020 = .ok (.iadd, 1) := by decide +kernel
theorem dL_law_2021 : decode cL_law 2021 = .ok (.iaload, 1) := by decide +kernel
theorem dL_law_2022 : decode cL_law 2022 = .ok (.aload_n 3, 1) := by decide +kernel
theorem dL_law_2023 : decode cL_law 2023 = .ok (.invokestatic 258, 3) := by decide +kernel
theorem dL_law_2026 : decode cL_law 2026 = .ok (.istore 5, 2) := by decide +kernel
theorem dL_law_2028 : decode cL_law 2028 = .ok (.aload_n 2, 1) := by decide +kernel
theorem dL_law_2029 : decode cL_law 2029 = .ok (.aload_n 0, 1) := by decide +kernel
theorem dL_law_2030 : decode cL_law 2030 = .ok (.iload 4, 2) := by decide +kernel
theorem dL_law_2032 : decode cL_law 2032 = .ok (.iconst 1, 1) := by decide +kernel
theorem dL_law_2033 : decode cL_law 2033 = .ok (.iadd, 1) := by decide +kernel
theorem dL_law_2034 : decode cL_law 2034 = .ok (.iaload, 1) := by decide +kernel
theorem dL_law_2035 : decode cL_law 2035 = .ok (.aload_n 0, 1) := by decide +kernel
theorem dL_law_2036 : decode cL_law 2036 = .ok (.iload 4, 2) := by decide +kernel
theorem dL_law_2038 : decode cL_law 2038 = .ok (.iconst 2, 1) := by decide +kernel
theorem dL_law_2039 : decode cL_law 2039 = .ok (.iadd, 1) := by decide +kernel
theorem dL_law_2040 : decode cL_law 2040 = .ok (.iaload, 1) := by decide +kernel
theorem dL_law_2041 : decode cL_law 2041 = .ok (.aload_n 0, 1) := by decide +kernel
theorem dL_law_2042 : decode cL_law 2042 = .ok (.iload 4, 2) := by decide +kernel
theorem dL_law_2044 : decode cL_law 2044 = .ok (.iconst 3, 1) := by decide +kernel
theorem dL_law_2045 : decode cL_law 2045 = .ok (.iadd, 1) := by decide +kernel
theorem dL_law_2046 : decode cL_law 2046 = .ok (.iaload, 1) := by decide +kernel
theorem dL_law_2047 : decode cL_law 2047 = .ok (.aload_n 0, 1) := by decide +kernel
theorem dL_law_2048 : decode cL_law 2048 = .ok (.iload 4, 2) := by decide +kernel
theorem dL_law_2050 : decode cL_law 2050 = .ok (.iconst 4, 1) := by decide +kernel
theorem dL_law_2051 : decode cL_law 2051 = .ok (.iadd, 1) := by decide +kernel
theorem dL_law_2052 : decode cL_law 2052 = .ok (.iaload, 1) := by decide +kernel
theorem dL_law_2053 : decode cL_law 2053 = .ok (.invokevirtual 261, 3) := by decide +kernel
theorem dL_law_2056 : decode cL_law 2056 = .ok (.istore 6, 2) := by decide +kernel
theorem dL_law_2058 : decode cL_law 2058 = .ok (.aload_n 2, 1) := by decide +kernel
theorem dL_law_2059 : decode cL_law 2059 = .ok (.invokevirtual 142, 3) := by decide +kernel
theorem dL_law_2062 : decode cL_law 2062 = .ok (.iload 5, 2) := by decide +kernel
theorem dL_law_2064 : decode cL_law 2064 = .ok (.if_icmp .eq 5, 3) := by decide +kernel
theorem dL_law_2067 : decode cL_law 2067 = .ok (.iconst 0, 1) := by decide +kernel
theorem dL_law_2068 : decode cL_law 2068 = .ok (.ireturn, 1) := by decide +kernel
theorem dL_law_2069 : decode cL_law 2069 = .ok (.iload 5, 2) := by decide +kernel
theorem dL_law_2071 : decode cL_law 2071 = .ok (.ifCond .ne 15, 3) := by decide +kernel
theorem dL_law_2074 : decode cL_law 2074 = .ok (.aload_n 3, 1) := by decide +kernel
theorem dL_law_2075 : decode cL_law 2075 = .ok (.iconst 0, 1) := by decide +kernel
theorem dL_law_2076 : decode cL_law 2076 = .ok (.laload, 1) := by decide +kernel
theorem dL_law_2077 : decode cL_law 2077 = .ok (.iload 6, 2) := by decide +kernel
theorem dL_law_2079 : decode cL_law 2079 = .ok (.i2l, 1) := by decide +kernel
theorem dL_law_2080 : decode cL_law 2080 = .ok (.lcmp, 1) := by decide +kernel
theorem dL_law_2081 : decode cL_law 2081 = .ok (.ifCond .eq 5, 3) := by decide +kernel
theorem dL_law_2084 : decode cL_law 2084 = .ok (.iconst 0, 1) := by decide +kernel
theorem dL_law_2085 : decode cL_law 2085 = .ok (.ireturn, 1) := by decide +kernel
theorem dL_law_2086 : decode cL_law 2086 = .ok (.goto 548, 3) := by decide +kernel
theorem dL_law_2089 : decode cL_law 2089 = .ok (.aload_n 1, 1) := by decide +kernel
theorem dL_law_2090 : decode cL_law 2090 = .ok (.aload_n 0, 1) := by decide +kernel
theorem dL_law_2091 : decode cL_law 2091 = .ok (.iload 4, 2) := by decide +kernel
theorem dL_law_2093 : decode cL_law 2093 = .ok (.iconst 1, 1) := by decide +kernel
theorem dL_law_2094 : decode cL_law 2094 = .ok (.iadd, 1) := by decide +kernel
theorem dL_law_2095 : decode cL_law 2095 = .ok (.iaload, 1) := by decide +kernel
theorem dL_law_2096 : decode cL_law 2096 = .ok (.ifCond .eq 7, 3) := by decide +kernel
theorem dL_law_2099 : decode cL_law 2099 = .ok (.iconst 1, 1) := by decide +kernel
theorem dL_law_2100 : decode cL_law 2100 = .ok (.goto 4, 3) := by decide +kernel
theorem dL_law_2103 : decode cL_law 2103 = .ok (.iconst 0, 1) := by decide +kernel
theorem dL_law_2104 : decode cL_law 2104 = .ok (.invokevirtual 262, 3) := by decide +kernel
theorem dL_law_2107 : decode cL_law 2107 = .ok (.aload_n 2, 1) := by decide +kernel
theorem dL_law_2108 : decode cL_law 2108 = .ok (.aload_n 0, 1) := by decide +kernel
theorem dL_law_2109 : decode cL_law 2109 = .ok (.iload 4, 2) := by decide +kernel
theorem dL_law_2111 : decode cL_law 2111 = .ok (.iconst 1, 1) := by decide +kernel
theorem dL_law_2112 : decode cL_law 2112 = .ok (.iadd, 1) := by decide +kernel
theorem dL_law_2113 : decode cL_law 2113 = .ok (.iaload, 1) := by decide +kernel
theorem dL_law_2114 : decode cL_law 2114 = .ok (.ifCond .eq 7, 3) := by decide +kernel
theorem dL_law_2117 : decode cL_law 2117 = .ok (.iconst 1, 1) := by decide +kernel
theorem dL_law_2118 : decode cL_law 2118 = .ok (.goto 4, 3) := by decide +kernel
theorem dL_law_2121 : decode cL_law 2121 = .ok (.iconst 0, 1) := by decide +kernel
theorem dL_law_2122 : decode cL_law 2122 = .ok (.invokevirtual 266, 3) := by decide +kernel
theorem dL_law_2125 : decode cL_law 2125 = .ok (.if_icmp .eq 509, 3) := by decide +kernel
theorem dL_law_2128 : decode cL_law 2128 = .ok (.iconst 0, 1) := by decide +kernel
theorem dL_law_2129 : decode cL_law 2129 = .ok (.ireturn, 1) := by decide +kernel
theorem dL_law_2130 : decode cL_law 2130 = .ok (.aload_n 1, 1) := by decide +kernel
theorem dL_law_2131 : decode cL_law 2131 = .ok (.aload_n 0, 1) := by decide +kernel
theorem dL_law_2132 : decode cL_law 2132 = .ok (.iload 4, 2) := by decide +kernel
theorem dL_law_2134 : decode cL_law 2134 = .ok (.iconst 1, 1) := by decide +kernel
theorem dL_law_2135 : decode cL_law 2135 = .ok (.iadd, 1) := by decide +kernel
theorem dL_law_2136 : decode cL_law 2136 = .ok (.iaload, 1) := by decide +kernel
theorem dL_law_2137 : decode cL_law 2137 = .ok (.invokevirtual 267, 3) := by decide +kernel
theorem dL_law_2140 : decode cL_law 2140 = .ok (.aload_n 2, 1) := by decide +kernel
theorem dL_law_2141 : decode cL_law 2141 = .ok (.aload_n 0, 1) := by decide +kernel
theorem dL_law_2142 : decode cL_law 2142 = .ok (.iload 4, 2) := by decide +kernel
theorem dL_law_2144 : decode cL_law 2144 = .ok (.iconst 1, 1) := by decide +kernel
theorem dL_law_2145 : decode cL_law 2145 = .ok (.iadd, 1) := by decide +kernel
theorem dL_law_2146 : decode cL_law 2146 = .ok (.iaload, 1) := by decide +kernel
theorem dL_law_2147 : decode cL_law 2147 = .ok (.invokevirtual 270, 3) := by decide +kernel
theorem dL_law_2150 : decode cL_law 2150 = .ok (.if_icmp .eq 484, 3) := by decide +kernel
theorem dL_law_2153 : decode cL_law 2153 = .ok (.iconst 0, 1) := by decide +kernel
theorem dL_law_2154 : decode cL_law 2154 = .ok (.ireturn, 1) := by decide +kernel
theorem dL_law_2155 : decode cL_law 2155 = .ok (.aload_n 1, 1) := by decide +kernel
theorem dL_law_2156 : decode cL_law 2156 = .ok (.aload_n 0, 1) := by decide +kernel
theorem dL_law_2157 : decode cL_law 2157 = .ok (.iload 4, 2) := by decide +kernel
theorem dL_law_2159 : decode cL_law 2159 = .ok (.iconst 1, 1) := by decide +kernel
theorem dL_law_2160 : decode cL_law 2160 = .ok (.iadd, 1) := by decide +kernel
theorem dL_law_2161 : decode cL_law 2161 = .ok (.iaload, 1) := by decide +kernel
theorem dL_law_2162 : decode cL_law 2162 = .ok (.aload_n 3, 1) := by decide +kernel
theorem dL_law_2163 : decode cL_law 2163 = .ok (.invokestatic 271, 3) := by decide +kernel
theorem dL_law_2166 : decode cL_law 2166 = .ok (.istore 5, 2) := by decide +kernel
theorem dL_law_2168 : decode cL_law 2168 = .ok (.aload_n 2, 1) := by decide +kernel
theorem dL_law_2169 : decode cL_law 2169 = .ok (.aload_n 0, 1) := by decide +kernel
theorem dL_law_2170 : decode cL_law 2170 = .ok (.iload 4, 2) := by decide +kernel
theorem dL_law_2172 : decode cL_law 2172 = .ok (.iconst 1, 1) := by decide +kernel
theorem dL_law_2173 : decode cL_law 2173 = .ok (.iadd, 1) := by decide +kernel
theorem dL_law_2174 : decode cL_law 2174 = .ok (.iaload, 1) := by decide +kernel
theorem dL_law_2175 : decode cL_law 2175 = .ok (.invokevirtual 273, 3) := by decide +kernel
theorem dL_law_2178 : decode cL_law 2178 = .ok (.istore 6, 2) := by decide +kernel
theorem dL_law_2180 : decode cL_law 2180 = .ok (.aload_n 2, 1) := by decide +kernel
theorem dL_law_2181 : decode cL_law 2181 = .ok (.invokevirtual 142, 3) := by decide +kernel
theorem dL_law_2184 : decode cL_law 2184 = .ok (.iload 5, 2) := by decide +kernel
theorem dL_law_2186 : decode cL_law 2186 = .ok (.if_icmp .eq 5, 3) := by decide +kernel
theorem dL_law_2189 : decode cL_law 2189 = .ok (.iconst 0, 1) := by decide +kernel
theorem dL_law_2190 : decode cL_law 2190 = .ok (.ireturn, 1) := by decide +kernel
theorem dL_law_2191 : decode cL_law 2191 = .ok (.iload 5, 2) := by decide +kernel
theorem dL_law_2193 : decode cL_law 2193 = .ok (.ifCond .ne 15, 3) := by decide +kernel
theorem dL_law_2196 : decode cL_law 2196 = .ok (.aload_n 3, 1) := by decide +kernel
theorem dL_law_2197 : decode cL_law 2197 = .ok (.iconst 0, 1) := by decide +kernel
theorem dL_law_2198 : decode cL_law 2198 = .ok (.laload, 1) := by decide +kernel
theorem dL_law_2199 : decode cL_law 2199 = .ok (.iload 6, 2) := by decide +kernel
theorem dL_law_2201 : decode cL_law 2201 = .ok (.i2l, 1) := by decide +kernel
theorem dL_law_2202 : decode cL_law 2202 = .ok (.lcmp, 1) := by decide +kernel
theorem dL_law_2203 : decode cL_law 2203 = .ok (.ifCond .eq 5, 3) := by decide +kernel
theorem dL_law_2206 : decode cL_law 2206 = .ok (.iconst 0, 1) := by decide +kernel
theorem dL_law_2207 : decode cL_law 2207 = .ok (.ireturn, 1) := by decide +kernel
theorem dL_law_2208 : decode cL_law 2208 = .ok (.goto 426, 3) := by decide +kernel
theorem dL_law_2211 : decode cL_law 2211 = .ok (.aload_n 1, 1) := by decide +kernel
theorem dL_law_2212 : decode cL_law 2212 = .ok (.aload_n 0, 1) := by decide +kernel
theorem dL_law_2213 : decode cL_law 2213 = .ok (.iload 4, 2) := by decide +kernel
theorem dL_law_2215 : decode cL_law 2215 = .ok (.iconst 1, 1) := by decide +kernel
theorem dL_law_2216 : decode cL_law 2216 = .ok (.iadd, 1) := by decide +kernel
theorem dL_law_2217 : decode cL_law 2217 = .ok (.iaload, 1) := by decide +kernel
theorem dL_law_2218 : decode cL_law 2218 = .ok (.ifCond .eq 7, 3) := by decide +kernel
theorem dL_law_2221 : decode cL_law 2221 = .ok (.iconst 1, 1) := by decide +kernel
theorem dL_law_2222 : decode cL_law 2222 = .ok (.goto 4, 3) := by decide +kernel
theorem dL_law_2225 : decode cL_law 2225 = .ok (.iconst 0, 1) := by decide +kernel
theorem dL_law_2226 : decode cL_law 2226 = .ok (.invokevirtual 274, 3) := by decide +kernel
theorem dL_law_2229 : decode cL_law 2229 = .ok (.aload_n 2, 1) := by decide +kernel
theorem dL_law_2230 : decode cL_law 2230 = .ok (.aload_n 0, 1) := by decide +kernel
theorem dL_law_2231 : decode cL_law 2231 = .ok (.iload 4, 2) := by decide +kernel
theorem dL_law_2233 : decode cL_law 2233 = .ok (.iconst 1, 1) := by decide +kernel
theorem dL_law_2234 : decode cL_law 2234 = .ok (.iadd, 1) := by decide +kernel
theorem dL_law_2235 : decode cL_law 2235 = .ok (.iaload, 1) := by decide +kernel
theorem dL_law_2236 : decode cL_law 2236 = .ok (.ifCond .eq 7, 3) := by decide +kernel
theorem dL_law_2239 : decode cL_law 2239 = .ok (.iconst 1, 1) := by decide +kernel
theorem dL_law_2240 : decode cL_law 2240 = .ok (.goto 4, 3) := by decide +kernel
theorem dL_law_2243 : decode cL_law 2243 = .ok (.iconst 0, 1) := by decide +kernel
theorem dL_law_2244 : decode cL_law 2244 = .ok (.invokevirtual 277, 3) := by decide +kernel
theorem dL_law_2247 : decode cL_law 2247 = .ok (.if_icmp .eq 387, 3) := by decide +kernel
theorem dL_law_2250 : decode cL_law 2250 = .ok (.iconst 0, 1) := by decide +kernel
theorem dL_law_2251 : decode cL_law 2251 = .ok (.ireturn, 1) := by decide +kernel
theorem dL_law_2252 : decode cL_law 2252 = .ok (.aload_n 1, 1) := by decide +kernel
theorem dL_law_2253 : decode cL_law 2253 = .ok (.aload_n 0, 1) := by decide +kernel
theorem dL_law_2254 : decode cL_law 2254 = .ok (.iload 4, 2) := by decide +kernel
theorem dL_law_2256 : decode cL_law 2256 = .ok (.iconst 1, 1) := by decide +kernel
theorem dL_law_2257 : decode cL_law 2257 = .ok (.iadd, 1) := by decide +kernel
theorem dL_law_2258 : decode cL_law 2258 = .ok (.iaload, 1) := by decide +kernel
theorem dL_law_2259 : decode cL_law 2259 = .ok (.aload_n 0, 1) := by decide +kernel
theorem dL_law_2260 : decode cL_law 2260 = .ok (.iload 4, 2) := by decide +kernel
theorem dL_law_2262 : decode cL_law 2262 = .ok (.iconst 2, 1) := by decide +kernel
theorem dL_law_2263 : decode cL_law 2263 = .ok (.iadd, 1) := by decide +kernel
theorem dL_law_2264 : decode cL_law 2264 = .ok (.iaload, 1) := by decide +kernel
theorem dL_law_2265 : decode cL_law 2265 = .ok (.aload_n 3, 1) := by decide +kernel
theorem dL_law_2266 : decode cL_law 2266 = .ok (.invokestatic 278, 3) := by decide +kernel
theorem dL_law_2269 : decode cL_law 2269 = .ok (.istore 5, 2) := by decide +kernel
theorem dL_law_2271 : decode cL_law 2271 = .ok (.aload_n 2, 1) := by decide +kernel
theorem dL_law_2272 : decode cL_law 2272 = .ok (.aload_n 0, 1) := by decide +kernel
theorem dL_law_2273 : decode cL_law 2273 = .ok (.iload 4, 2) := by decide +kernel
theorem dL_law_2275 : decode cL_law 2275 = .ok (.iconst 1, 1) := by decide +kernel
theorem dL_law_2276 : decode cL_law 2276 = .ok (.iadd, 1) := by decide +kernel
theorem dL_law_2277 : decode cL_law 2277 = .ok (.iaload, 1) := by decide +kernel
theorem dL_law_2278 : decode cL_law 2278 = .ok (.aload_n 0, 1) := by decide +kernel
theorem dL_law_2279 : decode cL_law 2279 = .ok (.iload 4, 2) := by decide +kernel
theorem dL_law_2281 : decode cL_law 2281 = .ok (.iconst 2, 1) := by decide +kernel
theorem dL_law_2282 : decode cL_law 2282 = .ok (.iadd, 1) := by decide +kernel
theorem dL_law_2283 : decode cL_law 2283 = .ok (.iaload, 1) := by decide +kernel
theorem dL_law_2284 : decode cL_law 2284 = .ok (.invokevirtual 280, 3) := by decide +kernel
theorem dL_law_2287 : decode cL_law 2287 = .ok (.istore 6, 2) := by decide +kernel
theorem dL_law_2289 : decode cL_law 2289 = .ok (.aload_n 2, 1) := by decide +kernel
theorem dL_law_2290 : decode cL_law 2290 = .ok (.invokevirtual 142, 3) := by decide +kernel
theorem dL_law_2293 : decode cL_law 2293 = .ok (.iload 5, 2) := by decide +kernel
theorem dL_law_2295 : decode cL_law 2295 = .ok (.if_icmp .eq 5, 3) := by decide +kernel
theorem dL_law_2298 : decode cL_law 2298 = .ok (.iconst 0, 1) := by decide +kernel
theorem dL_law_2299 : decode cL_law 2299 = .ok (.ireturn, 1) := by decide +kernel
theorem dL_law_2300 : decode cL_law 2300 = .ok (.iload 5, 2) := by decide +kernel
theorem dL_law_2302 : decode cL_law 2302 = .ok (.ifCond .ne 15, 3) := by decide +kernel
theorem dL_law_2305 : decode cL_law 2305 = .ok (.aload_n 3, 1) := by decide +kernel
theorem dL_law_2306 : decode cL_law 2306 = .ok (.iconst 0, 1) := by decide +kernel
theorem dL_law_2307 : decode cL_law 2307 = .ok (.laload, 1) := by decide +kernel
theorem dL_law_2308 : decode cL_law 2308 = .ok (.iload 6, 2) := by decide +kernel
theorem dL_law_2310 : decode cL_law 2310 = .ok (.i2l, 1) := by decide +kernel
theorem dL_law_2311 : decode cL_law 2311 = .ok (.lcmp, 1) := by decide +kernel
theorem dL_law_2312 : decode cL_law 2312 = .ok (.ifCond .eq 5, 3) := by decide +kernel
theorem dL_law_2315 : decode cL_law 2315 = .ok (.iconst 0, 1) := by decide +kernel
theorem dL_law_2316 : decode cL_law 2316 = .ok (.ireturn, 1) := by decide +kernel
theorem dL_law_2317 : decode cL_law 2317 = .ok (.goto 317, 3) := by decide +kernel
theorem dL_law_2320 : decode cL_law 2320 = .ok (.aload_n 1, 1) := by decide +kernel
theorem dL_law_2321 : decode cL_law 2321 = .ok (.aload_n 0, 1) := by decide +kernel
theorem dL_law_2322 : decode cL_law 2322 = .ok (.iload 4, 2) := by decide +kernel
theorem dL_law_2324 : decode cL_law 2324 = .ok (.iconst 1, 1) := by decide +kernel
theorem dL_law_2325 : decode cL_law 2325 = .ok (.iadd, 1) := by decide +kernel
theorem dL_law_2326 : decode cL_law 2326 = .ok (.iaload, 1) := by decide +kernel
theorem dL_law_2327 : decode cL_law 2327 = .ok (.aload_n 0, 1) := by decide +kernel
theorem dL_law_2328 : decode cL_law 2328 = .ok (.iload 4, 2) := by decide +kernel
theorem dL_law_2330 : decode cL_law 2330 = .ok (.iconst 2, 1) := by decide +kernel
theorem dL_law_2331 : decode cL_law 2331 = .ok (.iadd, 1) := by decide +kernel
theorem dL_law_2332 : decode cL_law 2332 = .ok (.iaload, 1) := by decide +kernel
theorem dL_law_2333 : decode cL_law 2333 = .ok (.ifCond .eq 7, 3) := by decide +kernel
theorem dL_law_2336 : decode cL_law 2336 = .ok (.iconst 1, 1) := by decide +kernel
theorem dL_law_2337 : decode cL_law 2337 = .ok (.goto 4, 3) := by decide +kernel
theorem dL_law_2340 : decode cL_law 2340 = .ok (.iconst 0, 1) := by decide +kernel
theorem dL_law_2341 : decode cL_law 2341 = .ok (.aload_n 3, 1) := by decide +kernel
theorem dL_law_2342 : decode cL_law 2342 = .ok (.invokestatic 281, 3) := by decide +kernel
theorem dL_law_2345 : decode cL_law 2345 = .ok (.istore 5, 2) := by decide +kernel
theorem dL_law_2347 : decode cL_law 2347 = .ok (.aload_n 2, 1) := by decide +kernel
theorem dL_law_2348 : decode cL_law 2348 = .ok (.aload_n 0, 1) := by decide +kernel
theorem dL_law_2349 : decode cL_law 2349 = .ok (.iload 4, 2) := by decide +kernel
theorem dL_law_2351 : decode cL_law 2351 = .ok (.iconst 1, 1) := by decide +kernel
theorem dL_law_2352 : decode cL_law 2352 = .ok (.iadd, 1) := by decide +kernel
theorem dL_law_2353 : decode cL_law 2353 = .ok (.iaload, 1) := by decide +kernel
theorem dL_law_2354 : decode cL_law 2354 = .ok (.aload_n 0, 1) := by decide +kernel
theorem dL_law_2355 : decode cL_law 2355 = .ok (.iload 4, 2) := by decide +kernel
theorem dL_law_2357 : decode cL_law 2357 = .ok (.iconst 2, 1) := by decide +kernel
theorem dL_law_2358 : decode cL_law 2358 = .ok (.iadd, 1) := by decide +kernel
theorem dL_law_2359 : decode cL_law 2359 = .ok (.iaload, 1) := by decide +kernel
theorem dL_law_2360 : decode cL_law 2360 = .ok (.ifCond .eq 7, 3) := by decide +kernel
theorem dL_law_2363 : decode cL_law 2363 = .ok (.iconst 1, 1) := by decide +kernel
theorem dL_law_2364 : decode cL_law 2364 = .ok (.goto 4, 3) := by decide +kernel
theorem dL_law_2367 : decode cL_law 2367 = .ok (.iconst 0, 1) := by decide +kernel
theorem dL_law_2368 : decode cL_law 2368 = .ok (.invokevirtual 284, 3) := by decide +kernel
theorem dL_law_2371 : decode cL_law 2371 = .ok (.istore 6, 2) := by decide +kernel
theorem dL_law_2373 : decode cL_law 2373 = .ok (.aload_n 2, 1) := by decide +kernel
theorem dL_law_2374 : decode cL_law 2374 = .ok (.invokevirtual 142, 3) := by decide +kernel
theorem dL_law_2377 : decode cL_law 2377 = .ok (.iload 5, 2) := by decide +kernel
theorem dL_law_2379 : decode cL_law 2379 = .ok (.if_icmp .eq 5, 3) := by decide +kernel
theorem dL_law_2382 : decode cL_law 2382 = .ok (.iconst 0, 1) := by decide +kernel
theorem dL_law_2383 : decode cL_law 2383 = .ok (.ireturn, 1) := by decide +kernel
theorem dL_law_2384 : decode cL_law 2384 = .ok (.iload 5, 2) := by decide +kernel
theorem dL_law_2386 : decode cL_law 2386 = .ok (.ifCond .ne 15, 3) := by decide +kernel
theorem dL_law_2389 : decode cL_law 2389 = .ok (.aload_n 3, 1) := by decide +kernel
theorem dL_law_2390 : decode cL_law 2390 = .ok (.iconst 0, 1) := by decide +kernel
theorem dL_law_2391 : decode cL_law 2391 = .ok (.laload, 1) := by decide +kernel
theorem dL_law_2392 : decode cL_law 2392 = .ok (.iload 6, 2) := by decide +kernel
theorem dL_law_2394 : decode cL_law 2394 = .ok (.i2l, 1) := by decide +kernel
theorem dL_law_2395 : decode cL_law 2395 = .ok (.lcmp, 1) := by decide +kernel
theorem dL_law_2396 : decode cL_law 2396 = .ok (.ifCond .eq 5, 3) := by decide +kernel
theorem dL_law_2399 : decode cL_law 2399 = .ok (.iconst 0, 1) := by decide +kernel
theorem dL_law_2400 : decode cL_law 2400 = .ok (.ireturn, 1) := by decide +kernel
theorem dL_law_2401 : decode cL_law 2401 = .ok (.goto 233, 3) := by decide +kernel
theorem dL_law_2404 : decode cL_law 2404 = .ok (.aload_n 1, 1) := by decide +kernel
theorem dL_law_2405 : decode cL_law 2405 = .ok (.invokevirtual 285, 3) := by decide +kernel
theorem dL_law_2408 : decode cL_law 2408 = .ok (.aload_n 2, 1) := by decide +kernel
theorem dL_law_2409 : decode cL_law 2409 = .ok (.invokevirtual 288, 3) := by decide +kernel
theorem dL_law_2412 : decode cL_law 2412 = .ok (.if_icmp .eq 222, 3) := by decide +kernel
theorem dL_law_2415 : decode cL_law 2415 = .ok (.iconst 0, 1) := by decide +kernel
theorem dL_law_2416 : decode cL_law 2416 = .ok (.ireturn, 1) := by decide +kernel
theorem dL_law_2417 : decode cL_law 2417 = .ok (.aload_n 1, 1) := by decide +kernel
theorem dL_law_2418 : decode cL_law 2418 = .ok (.aload_n 0, 1) := by decide +kernel
theorem dL_law_2419 : decode cL_law 2419 = .ok (.iload 4, 2) := by decide +kernel
theorem dL_law_2421 : decode cL_law 2421 = .ok (.iconst 1, 1) := by decide +kernel
theorem dL_law_2422 : decode cL_law 2422 = .ok (.iadd, 1) := by decide +kernel
theorem dL_law_2423 : decode cL_law 2423 = .ok (.iaload, 1) := by decide +kernel
theorem dL_law_2424 : decode cL_law 2424 = .ok (.aload_n 0, 1) := by decide +kernel
theorem dL_law_2425 : decode cL_law 2425 = .ok (.iload 4, 2) := by decide +kernel
theorem dL_law_2427 : decode cL_law 2427 = .ok (.iconst 2, 1) := by decide +kernel
theorem dL_law_2428 : decode cL_law 2428 = .ok (.iadd, 1) := by decide +kernel
theorem dL_law_2429 : decode cL_law 2429 = .ok (.iaload, 1) := by decide +kernel
theorem dL_law_2430 : decode cL_law 2430 = .ok (.ifCond .eq 7, 3) := by decide +kernel
theorem dL_law_2433 : decode cL_law 2433 = .ok (.iconst 1, 1) := by decide +kernel
theorem dL_law_2434 : decode cL_law 2434 = .ok (.goto 4, 3) := by decide +kernel
theorem dL_law_2437 : decode cL_law 2437 = .ok (.iconst 0, 1) := by decide +kernel
theorem dL_law_2438 : decode cL_law 2438 = .ok (.aload_n 3, 1) := by decide +kernel
theorem dL_law_2439 : decode cL_law 2439 = .ok (.invokestatic 289, 3) := by decide +kernel
theorem dL_law_2442 : decode cL_law 2442 = .ok (.istore 5, 2) := by decide +kernel
theorem dL_law_2444 : decode cL_law 2444 = .ok (.aload_n 2, 1) := by decide +kernel
theorem dL_law_2445 : decode cL_law 2445 = .ok (.aload_n 0, 1) := by decide +kernel
theorem dL_law_2446 : decode cL_law 2446 = .ok (.iload 4, 2) := by decide +kernel
theorem dL_law_2448 : decode cL_law 2448 = .ok (.iconst 1, 1) := by decide +kernel
theorem dL_law_2449 : decode cL_law 2449 = .ok (.iadd, 1) := by decide +kernel
theorem dL_law_2450 : decode cL_law 2450 = .ok (.iaload, 1) := by decide +kernel
theorem dL_law_2451 : decode cL_law 2451 = .ok (.aload_n 0, 1) := by decide +kernel
theorem dL_law_2452 : decode cL_law 2452 = .ok (.iload 4, 2) := by decide +kernel
theorem dL_law_2454 : decode cL_law 2454 = .ok (.iconst 2, 1) := by decide +kernel
theorem dL_law_2455 : decode cL_law 2455 = .ok (.iadd, 1) := by decide +kernel
theorem dL_law_2456 : decode cL_law 2456 = .ok (.iaload, 1) := by decide +kernel
theorem dL_law_2457 : decode cL_law 2457 = .ok (.ifCond .eq 7, 3) := by decide +kernel
theorem dL_law_2460 : decode cL_law 2460 = .ok (.iconst 1, 1) := by decide +kernel
theorem dL_law_2461 : decode cL_law 2461 = .ok (.goto 4, 3) := by decide +kernel
theorem dL_law_2464 : decode cL_law 2464 = .ok (.iconst 0, 1) := by decide +kernel
theorem dL_law_2465 : decode cL_law 2465 = .ok (.invokevirtual 291, 3) := by decide +kernel
theorem dL_law_2468 : decode cL_law 2468 = .ok (.istore 6, 2) := by decide +kernel
theorem dL_law_2470 : decode cL_law 2470 = .ok (.aload_n 2, 1) := by decide +kernel
theorem dL_law_2471 : decode cL_law 2471 = .ok (.invokevirtual 142, 3) := by decide +kernel
theorem dL_law_2474 : decode cL_law 2474 = .ok (.iload 5, 2) := by decide +kernel
theorem dL_law_2476 : decode cL_law 2476 = .ok (.if_icmp .eq 5, 3) := by decide +kernel
theorem dL_law_2479 : decode cL_law 2479 = .ok (.iconst 0, 1) := by decide +kernel
theorem dL_law_2480 : decode cL_law 2480 = .ok (.ireturn, 1) := by decide +kernel
theorem dL_law_2481 : decode cL_law 2481 = .ok (.iload 5, 2) := by decide +kernel
theorem dL_law_2483 : decode cL_law 2483 = .ok (.ifCond .ne 15, 3) := by decide +kernel
theorem dL_law_2486 : decode cL_law 2486 = .ok (.aload_n 3, 1) := by decide +kernel
theorem dL_law_2487 : decode cL_law 2487 = .ok (.iconst 0, 1) := by decide +kernel
theorem dL_law_2488 : decode cL_law 2488 = .ok (.laload, 1) := by decide +kernel
theorem dL_law_2489 : decode cL_law 2489 = .ok (.iload 6, 2) := by decide +kernel
theorem dL_law_2491 : decode cL_law 2491 = .ok (.i2l, 1) := by decide +kernel
theorem dL_law_2492 : decode cL_law 2492 = .ok (.lcmp, 1) := by decide +kernel
theorem dL_law_2493 : decode cL_law 2493 = .ok (.ifCond .eq 5, 3) := by decide +kernel
theorem dL_law_2496 : decode cL_law 2496 = .ok (.iconst 0, 1) := by decide +kernel
theorem dL_law_2497 : decode cL_law 2497 = .ok (.ireturn, 1) := by decide +kernel
theorem dL_law_2498 : decode cL_law 2498 = .ok (.goto 136, 3) := by decide +kernel
theorem dL_law_2501 : decode cL_law 2501 = .ok (.aload_n 1, 1) := by decide +kernel
theorem dL_law_2502 : decode cL_law 2502 = .ok (.aload_n 0, 1) := by decide +kernel
theorem dL_law_2503 : decode cL_law 2503 = .ok (.iload 4, 2) := by decide +kernel
theorem dL_law_2505 : decode cL_law 2505 = .ok (.iconst 1, 1) := by decide +kernel
theorem dL_law_2506 : decode cL_law 2506 = .ok (.iadd, 1) := by decide +kernel
theorem dL_law_2507 : decode cL_law 2507 = .ok (.iaload, 1) := by decide +kernel
theorem dL_law_2508 : decode cL_law 2508 = .ok (.aload_n 0, 1) := by decide +kernel
theorem dL_law_2509 : decode cL_law 2509 = .ok (.iload 4, 2) := by decide +kernel
theorem dL_law_2511 : decode cL_law 2511 = .ok (.iconst 2, 1) := by decide +kernel
theorem dL_law_2512 : decode cL_law 2512 = .ok (.iadd, 1) := by decide +kernel
theorem dL_law_2513 : decode cL_law 2513 = .ok (.iaload, 1) := by decide +kernel
theorem dL_law_2514 : decode cL_law 2514 = .ok (.ifCond .eq 7, 3) := by decide +kernel
theorem dL_law_2517 : decode cL_law 2517 = .ok (.iconst 1, 1) := by decide +kernel
theorem dL_law_2518 : decode cL_law 2518 = .ok (.goto 4, 3) := by decide +kernel
theorem dL_law_2521 : decode cL_law 2521 = .ok (.iconst 0, 1) := by decide +kernel
theorem dL_law_2522 : decode cL_law 2522 = .ok (.aload_n 3, 1) := by decide +kernel
theorem dL_law_2523 : decode cL_law 2523 = .ok (.invokestatic 292, 3) := by decide +kernel
theorem dL_law_2526 : decode cL_law 2526 = .ok (.istore 5, 2) := by decide +kernel
theorem dL_law_2528 : decode cL_law 2528 = .ok (.aload_n 2, 1) := by decide +kernel
theorem dL_law_2529 : decode cL_law 2529 = .ok (.aload_n 0, 1) := by decide +kernel
theorem dL_law_2530 : decode cL_law 2530 = .ok (.iload 4, 2) := by decide +kernel
theorem dL_law_2532 : decode cL_law 2532 = .ok (.iconst 1, 1) := by decide +kernel
theorem dL_law_2533 : decode cL_law 2533 = .ok (.iadd, 1) := by decide +kernel
theorem dL_law_2534 : decode cL_law 2534 = .ok (.iaload, 1) := by decide +kernel
theorem dL_law_2535 : decode cL_law 2535 = .ok (.aload_n 0, 1) := by decide +kernel
theorem dL_law_2536 : decode cL_law 2536 = .ok (.iload 4, 2) := by decide +kernel
theorem dL_law_2538 : decode cL_law 2538 = .ok (.iconst 2, 1) := by decide +kernel
theorem dL_law_2539 : decode cL_law 2539 = .ok (.iadd, 1) := by decide +kernel
theorem dL_law_2540 : decode cL_law 2540 = .ok (.iaload, 1) := by decide +kernel
theorem dL_law_2541 : decode cL_law 2541 = .ok (.ifCond .eq 7, 3) := by decide +kernel
theorem dL_law_2544 : decode cL_law 2544 = .ok (.iconst 1, 1) := by decide +kernel
theorem dL_law_2545 : decode cL_law 2545 = .ok (.goto 4, 3) := by decide +kernel
theorem dL_law_2548 : decode cL_law 2548 = .ok (.iconst 0, 1) := by decide +kernel
theorem dL_law_2549 : decode cL_law 2549 = .ok (.invokevirtual 294, 3) := by decide +kernel
theorem dL_law_2552 : decode cL_law 2552 = .ok (.istore 6, 2) := by decide +kernel
theorem dL_law_2554 : decode cL_law 2554 = .ok (.aload_n 2, 1) := by decide +kernel
theorem dL_law_2555 : decode cL_law 2555 = .ok (.invokevirtual 142, 3) := by decide +kernel
theorem dL_law_2558 : decode cL_law 2558 = .ok (.iload 5, 2) := by decide +kernel
theorem dL_law_2560 : decode cL_law 2560 = .ok (.if_icmp .eq 5, 3) := by decide +kernel
theorem dL_law_2563 : decode cL_law 2563 = .ok (.iconst 0, 1) := by decide +kernel
theorem dL_law_2564 : decode cL_law 2564 = .ok (.ireturn, 1) := by decide +kernel
theorem dL_law_2565 : decode cL_law 2565 = .ok (.iload 5, 2) := by decide +kernel
theorem dL_law_2567 : decode cL_law 2567 = .ok (.ifCond .ne 15, 3) := by decide +kernel
theorem dL_law_2570 : decode cL_law 2570 = .ok (.aload_n 3, 1) := by decide +kernel
theorem dL_law_2571 : decode cL_law 2571 = .ok (.iconst 0, 1) := by decide +kernel
theorem dL_law_2572 : decode cL_law 2572 = .ok (.laload, 1) := by decide +kernel
theorem dL_law_2573 : decode cL_law 2573 = .ok (.iload 6, 2) := by decide +kernel
theorem dL_law_2575 : decode cL_law 2575 = .ok (.i2l, 1) := by decide +kernel
theorem dL_law_2576 : decode cL_law 2576 = .ok (.lcmp, 1) := by decide +kernel
theorem dL_law_2577 : decode cL_law 2577 = .ok (.ifCond .eq 5, 3) := by decide +kernel
theorem dL_law_2580 : decode cL_law 2580 = .ok (.iconst 0, 1) := by decide +kernel
theorem dL_law_2581 : decode cL_law 2581 = .ok (.ireturn, 1) := by decide +kernel
theorem dL_law_2582 : decode cL_law 2582 = .ok (.goto 52, 3) := by decide +kernel
theorem dL_law_2585 : decode cL_law 2585 = .ok (.aload_n 1, 1) := by decide +kernel
theorem dL_law_2586 : decode cL_law 2586 = .ok (.invokevirtual 295, 3) := by decide +kernel
theorem dL_law_2589 : decode cL_law 2589 = .ok (.aload_n 2, 1) := by decide +kernel
theorem dL_law_2590 : decode cL_law 2590 = .ok (.invokevirtual 298, 3) := by decide +kernel
theorem dL_law_2593 : decode cL_law 2593 = .ok (.goto 41, 3) := by decide +kernel
theorem dL_law_2596 : decode cL_law 2596 = .ok (.aload_n 1, 1) := by decide +kernel
theorem dL_law_2597 : decode cL_law 2597 = .ok (.invokevirtual 299, 3) := by decide +kernel
theorem dL_law_2600 : decode cL_law 2600 = .ok (.aload_n 2, 1) := by decide +kernel
theorem dL_law_2601 : decode cL_law 2601 = .ok (.invokevirtual 302, 3) := by decide +kernel
theorem dL_law_2604 : decode cL_law 2604 = .ok (.if_icmp .eq 30, 3) := by decide +kernel
theorem dL_law_2607 : decode cL_law 2607 = .ok (.iconst 0, 1) := by decide +kernel
theorem dL_law_2608 : decode cL_law 2608 = .ok (.ireturn, 1) := by decide +kernel
theorem dL_law_2609 : decode cL_law 2609 = .ok (.aload_n 1, 1) := by decide +kernel
theorem dL_law_2610 : decode cL_law 2610 = .ok (.aload_n 0, 1) := by decide +kernel
theorem dL_law_2611 : decode cL_law 2611 = .ok (.iload 4, 2) := by decide +kernel
theorem dL_law_2613 : decode cL_law 2613 = .ok (.iconst 1, 1) := by decide +kernel
theorem dL_law_2614 : decode cL_law 2614 = .ok (.iadd, 1) := by decide +kernel
theorem dL_law_2615 : decode cL_law 2615 = .ok (.iaload, 1) := by decide +kernel
theorem dL_law_2616 : decode cL_law 2616 = .ok (.invokevirtual 303, 3) := by decide +kernel
theorem dL_law_2619 : decode cL_law 2619 = .ok (.aload_n 2, 1) := by decide +kernel
theorem dL_law_2620 : decode cL_law 2620 = .ok (.aload_n 0, 1) := by decide +kernel
theorem dL_law_2621 : decode cL_law 2621 = .ok (.iload 4, 2) := by decide +kernel
theorem dL_law_2623 : decode cL_law 2623 = .ok (.iconst 1, 1) := by decide +kernel
theorem dL_law_2624 : decode cL_law 2624 = .ok (.iadd, 1) := by decide +kernel
theorem dL_law_2625 : decode cL_law 2625 = .ok (.iaload, 1) := by decide +kernel
theorem dL_law_2626 : decode cL_law 2626 = .ok (.invokevirtual 306, 3) := by decide +kernel
theorem dL_law_2629 : decode cL_law 2629 = .ok (.if_icmp .eq 5, 3) := by decide +kernel
theorem dL_law_2632 : decode cL_law 2632 = .ok (.iconst 0, 1) := by decide +kernel
theorem dL_law_2633 : decode cL_law 2633 = .ok (.ireturn, 1) := by decide +kernel
theorem dL_law_2634 : decode cL_law 2634 = .ok (.iinc 4 6, 3) := by decide +kernel
theorem dL_law_2637 : decode cL_law 2637 = .ok (.goto (-2614), 3) := by decide +kernel
theorem dL_law_2640 : decode cL_law 2640 = .ok (.iconst 1, 1) := by decide +kernel
theorem dL_law_2641 : decode cL_law 2641 = .ok (.ireturn, 1) := by decide +kernel
def VL_law_2634 (d : Nat) (c23 : Nat → Nat → Nat → Nat → Int → MS → Prop) (Q : Out → MS → Prop) (x0 : Nat) (x1 : Nat) (x2 : Nat) (x3 : Nat) (x4 : Int) (S : MS) : Prop :=
  c23 x0 x1 x2 x3 (x4 + 6) S
theorem JL_law_2634 {d : Nat} {c23 : Nat → Nat → Nat → Nat → Int → MS → Prop} {S0 : MS} {Q : Out → MS → Prop} (hc23 : ∀ (x0 : Nat) (x1 : Nat) (x2 : Nat) (x3 : Nat) (x4 : Int) (S : MS), c23 x0 x1 x2 x3 x4 S → Jw FinW RL cL_law 7 (some .boolean) [] yL_law (d + 1) S0 S 23 [(0, vA x0), (1, vA x1), (2, vA x2), (3, vA x3), (4, vI x4)] [] Q) (x0 : Nat) (x1 : Nat) (x2 : Nat) (x3 : Nat) (x4 : Int) (S : MS) (h : VL_law_2634 d c23 Q x0 x1 x2 x3 x4 S) : Jw FinW RL cL_law 7 (some .boolean) [] yL_law (d + 1) S0 S 2634 [(0, vA x0), (1, vA x1), (2, vA x2), (3, vA x3), (4, vI x4)] [] Q :=
  j_iinc 4 (lv2 := [(4, vI (x4 + 6)), (0, vA x0), (1, vA x1), (2, vA x2), (3, vA x3)]) dL_law_2634 rfl (by decide) rfl (j_goto (tgt := 23) dL_law_2637 (by decide) (j_sub [1, 2, 3, 4, 0] rfl (hc23 _ _ _ _ _ _ h)))
def VL_law_391 (d : Nat) (c23 : Nat → Nat → Nat → Nat → Int → MS → Prop) (Q : Out → MS → Prop) (x0 : Nat) (x1 : Nat) (x2 : Nat) (x3 : Nat) (x4 : Int) (S : MS) : Prop :=
  VL_law_2634 d c23 Q x0 x1 x2 x3 x4 S
theorem JL_law_391 {d : Nat} {c23 : Nat → Nat → Nat → Nat → Int → MS → Prop} {S0 : MS} {Q : Out → MS → Prop} (hc23 : ∀ (x0 : Nat) (x1 : Nat) (x2 : Nat) (x3 : Nat) (x4 : Int) (S : MS), c23 x0 x1 x2 x3 x4 S → Jw FinW RL cL_law 7 (some .boolean) [] yL_law (d + 1) S0 S 23 [(0, vA x0), (1, vA x1), (2, vA x2), (3, vA x3), (4, vI x4)] [] Q) (x0 : Nat) (x1 : Nat) (x2 : Nat) (x3 : Nat) (x4 : Int) (S : MS) (h : VL_law_391 d c23 Q x0 x1 x2 x3 x4 S) : Jw FinW RL cL_law 7 (some .boolean) [] yL_law (d + 1) S0 S 391 [(0, vA x0), (1, vA x1), (2, vA x2), (3, vA x3), (4, vI x4)] [] Q :=
  j_goto (tgt := 2634) dL_law_391 (by decide) (JL_law_2634 hc23 _ _ _ _ _ _ h)
def VL_law_520 (d : Nat) (c23 : Nat → Nat → Nat → Nat → Int → MS → Prop) (Q : Out → MS → Prop) (x0 : Nat) (x1 : Nat) (x2 : Nat) (x3 : Nat) (x4 : Int) (S : MS) : Prop :=
  VL_law_2634 d c23 Q x0 x1 x2 x3 x4 S
theorem JL_law_520 {d : Nat} {c23 : Nat → Nat → Nat → Nat → Int → MS → Prop} {S0 : MS} {Q : Out → MS → Prop} (hc23 : ∀ (x0 : Nat) (x1 : Nat) (x2 : Nat) (x3 : Nat) (x4 : Int) (S : MS), c23 x0 x1 x2 x3 x4 S → Jw FinW RL cL_law 7 (some .boolean) [] yL_law (d + 1) S0 S 23 [(0, vA x0), (1, vA x1), (2, vA x2), (3, vA x3), (4, vI x4)] [] Q) (x0 : Nat) (x1 : Nat) (x2 : Nat) (x3 : Nat) (x4 : Int) (S : MS) (h : VL_law_520 d c23 Q x0 x1 x2 x3 x4 S) : Jw FinW RL cL_law 7 (some .boolean) [] yL_law (d + 1) S0 S 520 [(0, vA x0), (1, vA x1), (2, vA x2), (3, vA x3), (4, vI x4)] [] Q :=
  j_goto (tgt := 2634) dL_law_520 (by decide) (JL_law_2634 hc23 _ _ _ _ _ _ h)
def VL_law_588 (d : Nat) (c23 : Nat → Nat → Nat → Nat → Int → MS → Prop) (Q : Out → MS → Prop) (x0 : Nat) (x1 : Nat) (x2 : Nat) (x3 : Nat) (x4 : Int) (S : MS) : Prop :=
  VL_law_2634 d c23 Q x0 x1 x2 x3 x4 S
theorem JL_law_588 {d : Nat} {c23 : Nat → Nat → Nat → Nat → Int → MS → Prop} {S0 : MS} {Q : Out → MS → Prop} (hc23 : ∀ (x0 : Nat) (x1 : Nat) (x2 : Nat) (x3 : Nat) (x4 : Int) (S : MS), c23 x0 x1 x2 x3 x4 S → Jw FinW RL cL_law 7 (some .boolean) [] yL_law (d + 1) S0 S 23 [(0, vA x0), (1, vA x1), (2, vA x2), (3, vA x3), (4, vI x4)] [] Q) (x0 : Nat) (x1 : Nat) (x2 : Nat) (x3 : Nat) (x4 : Int) (S : MS) (h : VL_law_588 d c23 Q x0 x1 x2 x3 x4 S) : Jw FinW RL cL_law 7 (some .boolean) [] yL_law (d + 1) S0 S 588 [(0, vA x0), (1, vA x1), (2, vA x2), (3, vA x3), (4, vI x4)] [] Q :=
  j_goto (tgt := 2634) dL_law_588 (by decide) (JL_law_2634 hc23 _ _ _ _ _ _ h)
def VL_law_656 (d : Nat) (c23 : Nat → Nat → Nat → Nat → Int → MS → Prop) (Q : Out → MS → Prop) (x0 : Nat) (x1 : Nat) (x2 : Nat) (x3 : Nat) (x4 : Int) (S : MS) : Prop :=
  VL_law_2634 d c23 Q x0 x1 x2 x3 x4 S
theorem JL_law_656 {d : Nat} {c23 : Nat → Nat → Nat → Nat → Int → MS → Prop} {S0 : MS} {Q : Out → MS → Prop} (hc23 : ∀ (x0 : Nat) (x1 : Nat) (x2 : Nat) (x3 : Nat) (x4 : Int) (S : MS), c23 x0 x1 x2 x3 x4 S → Jw FinW RL cL_law 7 (some .boolean) [] yL_law (d + 1) S0 S 23 [(0, vA x0), (1, vA x1), (2, vA x2), (3, vA x3), (4, vI x4)] [] Q) (x0 : Nat) (x1 : Nat) (x2 : Nat) (x3 : Nat) (x4 : Int) (S : MS) (h : VL_law_656 d c23 Q x0 x1 x2 x3 x4 S) : Jw FinW RL cL_law 7 (some .boolean) [] yL_law (d + 1) S0 S 656 [(0, vA x0), (1, vA x1), (2, vA x2), (3, vA x3), (4, vI x4)] [] Q :=
  j_goto (tgt := 2634) dL_law_656 (by decide) (JL_law_2634 hc23 _ _ _ _ _ _ h)
def VL_law_736 (d : Nat) (c23 : Nat → Nat → Nat → Nat → Int → MS → Prop) (Q : Out → MS → Prop) (x0 : Nat) (x1 : Nat) (x2 : Nat) (x3 : Nat) (x4 : Int) (S : MS) : Prop :=
  VL_law_2634 d c23 Q x0 x1 x2 x3 x4 S
theorem JL_law_736 {d : Nat} {c23 : Nat → Nat → Nat → Nat → Int → MS → Prop} {S0 : MS} {Q : Out → MS → Prop} (hc23 : ∀ (x0 : Nat) (x1 : Nat) (x2 : Nat) (x3 : Nat) (x4 : Int) (S : MS), c23 x0 x1 x2 x3 x4 S → Jw FinW RL cL_law 7 (some .boolean) [] yL_law (d + 1) S0 S 23 [(0, vA x0), (1, vA x1), (2, vA x2), (3, vA x3), (4, vI x4)] [] Q) (x0 : Nat) (x1 : Nat) (x2 : Nat) (x3 : Nat) (x4 : Int) (S : MS) (h : VL_law_736 d c23 Q x0 x1 x2 x3 x4 S) : Jw FinW RL cL_law 7 (some .boolean) [] yL_law (d + 1) S0 S 736 [(0, vA x0), (1, vA x1), (2, vA x2), (3, vA x3), (4, vI x4)] [] Q :=
  j_goto (tgt := 2634) dL_law_736 (by decide) (JL_law_2634 hc23 _ _ _ _ _ _ h)
def VL_law_804 (d : Nat) (c23 : Nat → Nat → Nat → Nat → Int → MS → Prop) (Q : Out → MS → Prop) (x0 : Nat) (x1 : Nat) (x2 : Nat) (x3 : Nat) (x4 : Int) (S : MS) : Prop :=
  VL_law_2634 d c23 Q x0 x1 x2 x3 x4 S
theorem JL_law_804 {d : Nat} {c23 : Nat → Nat → Nat → Nat → Int → MS → Prop} {S0 : MS} {Q : Out → MS → Prop} (hc23 : ∀ (x0 : Nat) (x1 : Nat) (x2 : Nat) (x3 : Nat) (x4 : Int) (S : MS), c23 x0 x1 x2 x3 x4 S → Jw FinW RL cL_law 7 (some .boolean) [] yL_law (d + 1) S0 S 23 [(0, vA x0), (1, vA x1), (2, vA x2), (3, vA x3), (4, vI x4)] [] Q) (x0 : Nat) (x1 : Nat) (x2 : Nat) (x3 : Nat) (x4 : Int) (S : MS) (h : VL_law_804 d c23 Q x0 x1 x2 x3 x4 S) : Jw FinW RL cL_law 7 (some .boolean) [] yL_law (d + 1) S0 S 804 [(0, vA x0), (1, vA x1), (2, vA x2), (3, vA x3), (4, vI x4)] [] Q :=
  j_goto (tgt := 2634) dL_law_804 (by decide) (JL_law_2634 hc23 _ _ _ _ _ _ h)
def VL_law_860 (d : Nat) (c23 : Nat → Nat → Nat → Nat → Int → MS → Prop) (Q : Out → MS → Prop) (x0 : Nat) (x1 : Nat) (x2 : Nat) (x3 : Nat) (x4 : Int) (S : MS) : Prop :=
  VL_law_2634 d c23 Q x0 x1 x2 x3 x4 S
theorem JL_law_860 {d : Nat} {c23 : Nat → Nat → Nat → Nat → Int → MS → Prop} {S0 : MS} {Q : Out → MS → Prop} (hc23 : ∀ (x0 : Nat) (x1 : Nat) (x2 : Nat) (x3 : Nat) (x4 : Int) (S : MS), c23 x0 x1 x2 x3 x4 S → Jw FinW RL cL_law 7 (some .boolean) [] yL_law (d + 1) S0 S 23 [(0, vA x0), (1, vA x1), (2, vA x2), (3, vA x3), (4, vI x4)] [] Q) (x0 : Nat) (x1 : Nat) (x2 : Nat) (x3 : Nat) (x4 : Int) (S : MS) (h : VL_law_860 d c23 Q x0 x1 x2 x3 x4 S) : Jw FinW RL cL_law 7 (some .boolean) [] yL_law (d + 1) S0 S 860 [(0, vA x0), (1, vA x1), (2, vA x2), (3, vA x3), (4, vI x4)] [] Q :=
  j_goto (tgt := 2634) dL_law_860 (by decide) (JL_law_2634 hc23 _ _ _ _ _ _ h)
def VL_law_941 (d : Nat) (c23 : Nat → Nat → Nat → Nat → Int → MS → Prop) (Q : Out → MS → Prop) (x0 : Nat) (x1 : Nat) (x2 : Nat) (x3 : Nat) (x4 : Int) (S : MS) : Prop :=
  VL_law_2634 d c23 Q x0 x1 x2 x3 x4 S
theorem JL_law_941 {d : Nat} {c23 : Nat → Nat → Nat → Nat → Int → MS → Prop} {S0 : MS} {Q : Out → MS → Prop} (hc23 : ∀ (x0 : Nat) (x1 : Nat) (x2 : Nat) (x3 : Nat) (x4 : Int) (S : MS), c23 x0 x1 x2 x3 x4 S → Jw FinW RL cL_law 7 (some .boolean) [] yL_law (d + 1) S0 S 23 [(0, vA x0), (1, vA x1), (2, vA x2), (3, vA x3), (4, vI x4)] [] Q) (x0 : Nat) (x1 : Nat) (x2 : Nat) (x3 : Nat) (x4 : Int) (S : MS) (h : VL_law_941 d c23 Q x0 x1 x2 x3 x4 S) : Jw FinW RL cL_law 7 (some .boolean) [] yL_law (d + 1) S0 S 941 [(0, vA x0), (1, vA x1), (2, vA x2), (3, vA x3), (4, vI x4)] [] Q :=
  j_goto (tgt := 2634) dL_law_941 (by decide) (JL_law_2634 hc23 _ _ _ _ _ _ h)
def VL_law_992 (d : Nat) (c23 : Nat → Nat → Nat → Nat → Int → MS → Prop) (Q : Out → MS → Prop) (x0 : Nat) (x1 : Nat) (x2 : Nat) (x3 : Nat) (x4 : Int) (S : MS) : Prop :=
  VL_law_2634 d c23 Q x0 x1 x2 x3 x4 S
theorem JL_law_992 {d : Nat} {c23 : Nat → Nat → Nat → Nat → Int → MS → Prop} {S0 : MS} {Q : Out → MS → Prop} (hc23 : ∀ (x0 : Nat) (x1 : Nat) (x2 : Nat) (x3 : Nat) (x4 : Int) (S : MS), c23 x0 x1 x2 x3 x4 S → Jw FinW RL cL_law 7 (some .boolean) [] yL_law (d + 1) S0 S 23 [(0, vA x0), (1, vA x1), (2, vA x2), (3, vA x3), (4, vI x4)] [] Q) (x0 : Nat) (x1 : Nat) (x2 : Nat) (x3 : Nat) (x4 : Int) (S : MS) (h : VL_law_992 d c23 Q x0 x1 x2 x3 x4 S) : Jw FinW RL cL_law 7 (some .boolean) [] yL_law (d + 1) S0 S 992 [(0, vA x0), (1, vA x1), (2, vA x2), (3, vA x3), (4, vI x4)] [] Q :=
  j_goto (tgt := 2634) dL_law_992 (by decide) (JL_law_2634 hc23 _ _ _ _ _ _ h)
def VL_law_986 (d : Nat) (c23 : Nat → Nat → Nat → Nat → Int → MS → Prop) (Q : Out → MS → Prop) (x0 : Nat) (x1 : Nat) (x2 : Nat) (x3 : Nat) (x4 : Int) (t0 : BitVec 64) (t1 : BitVec 64) (S : MS) : Prop :=
  R32 (lCmp t1 t0) ∧ (((lCmp t1 t0) = 0) → VL_law_992 d c23 Q x0 x1 x2 x3 x4 S) ∧ (¬ ((lCmp t1 t0) = 0) → (0 : Int) = 1 ∧ Q (.inl (some (vI 0))) S)
theorem JL_law_986 {d : Nat} {c23 : Nat → Nat → Nat → Nat → Int → MS → Prop} {S0 : MS} {Q : Out → MS → Prop} (hc23 : ∀ (x0 : Nat) (x1 : Nat) (x2 : Nat) (x3 : Nat) (x4 : Int) (S : MS), c23 x0 x1 x2 x3 x4 S → Jw FinW RL cL_law 7 (some .boolean) [] yL_law (d + 1) S0 S 23 [(0, vA x0), (1, vA x1), (2, vA x2), (3, vA x3), (4, vI x4)] [] Q) (x0 : Nat) (x1 : Nat) (x2 : Nat) (x3 : Nat) (x4 : Int) (t0 : BitVec 64) (t1 : BitVec 64) (S : MS) (h : VL_law_986 d c23 Q x0 x1 x2 x3 x4 t0 t1 S) : Jw FinW RL cL_law 7 (some .boolean) [] yL_law (d + 1) S0 S 986 [(0, vA x0), (1, vA x1), (2, vA x2), (3, vA x3), (4, vI x4)] [vL t0, vL t1] Q :=
  j_lcmp dL_law_986 (j_if_eq (tgt := 992) dL_law_987 (by decide) h (fun h => JL_law_992 hc23 _ _ _ _ _ _ h) (fun h => j_iconst dL_law_990 (j_lawretM dL_law_991 h)))
def VL_law_1048 (d : Nat) (c23 : Nat → Nat → Nat → Nat → Int → MS → Prop) (Q : Out → MS → Prop) (x0 : Nat) (x1 : Nat) (x2 : Nat) (x3 : Nat) (x4 : Int) (S : MS) : Prop :=
  VL_law_2634 d c23 Q x0 x1 x2 x3 x4 S
theorem JL_law_1048 {d : Nat} {c23 : Nat → Nat → Nat → Nat → Int → MS → Prop} {S0 : MS} {Q : Out → MS → Prop} (hc23 : ∀ (x0 : Nat) (x1 : Nat) (x2 : Nat) (x3 : Nat) (x4 : Int) (S : MS), c23 x0 x1 x2 x3 x4 S → Jw FinW RL cL_law 7 (some .boolean) [] yL_law (d + 1) S0 S 23 [(0, vA x0), (1, vA x1), (2, vA x2), (3, vA x3), (4, vI x4)] [] Q) (x0 : Nat) (x1 : Nat) (x2 : Nat) (x3 : Nat) (x4 : Int) (S : MS) (h : VL_law_1048 d c23 Q x0 x1 x2 x3 x4 S) : Jw FinW RL cL_law 7 (some .boolean) [] yL_law (d + 1) S0 S 1048 [(0, vA x0), (1, vA x1), (2, vA x2), (3, vA x3), (4, vI x4)] [] Q :=
  j_goto (tgt := 2634) dL_law_1048 (by decide) (JL_law_2634 hc23 _ _ _ _ _ _ h)
def VL_law_1116 (d : Nat) (c23 : Nat → Nat → Nat → Nat → Int → MS → Prop) (Q : Out → MS → Prop) (x0 : Nat) (x1 : Nat) (x2 : Nat) (x3 : Nat) (x4 : Int) (S : MS) : Prop :=
  VL_law_2634 d c23 Q x0 x1 x2 x3 x4 S
theorem JL_law_1116 {d : Nat} {c23 : Nat → Nat → Nat → Nat → Int → MS → Prop} {S0 : MS} {Q : Out → MS → Prop} (hc23 : ∀ (x0 : Nat) (x1 : Nat) (x2 : Nat) (x3 : Nat) (x4 : Int) (S : MS), c23 x0 x1 x2 x3 x4 S → Jw FinW RL cL_law 7 (some .boolean) [] yL_law (d + 1) S0 S 23 [(0, vA x0), (1, vA x1), (2, vA x2), (3, vA x3), (4, vI x4)] [] Q) (x0 : Nat) (x1 : Nat) (x2 : Nat) (x3 : Nat) (x4 : Int) (S : MS) (h : VL_law_1116 d c23 Q x0 x1 x2 x3 x4 S) : Jw FinW RL cL_law 7 (some .boolean) [] yL_law (d + 1) S0 S 1116 [(0, vA x0), (1, vA x1), (2, vA x2), (3, vA x3), (4, vI x4)] [] Q :=
  j_goto (tgt := 2634) dL_law_1116 (by decide) (JL_law_2634 hc23 _ _ _ _ _ _ h)
def VL_law_1172 (d : Nat) (c23 : Nat → Nat → Nat → Nat → Int → MS → Prop) (Q : Out → MS → Prop) (x0 : Nat) (x1 : Nat) (x2 : Nat) (x3 : Nat) (x4 : Int) (S : MS) : Prop :=
  VL_law_2634 d c23 Q x0 x1 x2 x3 x4 S
theorem JL_law_1172 {d : Nat} {c23 : Nat → Nat → Nat → Nat → Int → MS → Prop} {S0 : MS} {Q : Out → MS → Prop} (hc23 : ∀ (x0 : Nat) (x1 : Nat) (x2 : Nat) (x3 : Nat) (x4 : Int) (S : MS), c23 x0 x1 x2 x3 x4 S → Jw FinW RL cL_law 7 (some .boolean) [] yL_law (d + 1) S0 S 23 [(0, vA x0), (1, vA x1), (2, vA x2), (3, vA x3), (4, vI x4)] [] Q) (x0 : Nat) (x1 : Nat) (x2 : Nat) (x3 : Nat) (x4 : Int) (S : MS) (h : VL_law_1172 d c23 Q x0 x1 x2 x3 x4 S) : Jw FinW RL cL_law 7 (some .boolean) [] yL_law (d + 1) S0 S 1172 [(0, vA x0), (1, vA x1), (2, vA x2), (3, vA x3), (4, vI x4)] [] Q :=
  j_goto (tgt := 2634) dL_law_1172 (by decide) (JL_law_2634 hc23 _ _ _ _ _ _ h)
def VL_law_1319 (d : Nat) (c23 : Nat → Nat → Nat → Nat → Int → MS → Prop) (Q : Out → MS → Prop) (x0 : Nat) (x1 : Nat) (x2 : Nat) (x3 : Nat) (x4 : Int) (S : MS) : Prop :=
  VL_law_2634 d c23 Q x0 x1 x2 x3 x4 S
theorem JL_law_1319 {d : Nat} {c23 : Nat → Nat → Nat → Nat → Int → MS → Prop} {S0 : MS} {Q : Out → MS → Prop} (hc23 : ∀ (x0 : Nat) (x1 : Nat) (x2 : Nat) (x3 : Nat) (x4 : Int) (S : MS), c23 x0 x1 x2 x3 x4 S → Jw FinW RL cL_law 7 (some .boolean) [] yL_law (d + 1) S0 S 23 [(0, vA x0), (1, vA x1), (2, vA x2), (3, vA x3), (4, vI x4)] [] Q) (x0 : Nat) (x1 : Nat) (x2 : Nat) (x3 : Nat) (x4 : Int) (S : MS) (h : VL_law_1319 d c23 Q x0 x1 x2 x3 x4 S) : Jw FinW RL cL_law 7 (some .boolean) [] yL_law (d + 1) S0 S 1319 [(0, vA x0), (1, vA x1), (2, vA x2), (3, vA x3), (4, vI x4)] [] Q :=
  j_goto (tgt := 2634) dL_law_1319 (by decide) (JL_law_2634 hc23 _ _ _ _ _ _ h)
def VL_law_1363 (d : Nat) (c23 : Nat → Nat → Nat → Nat → Int → MS → Prop) (Q : Out → MS → Prop) (x0 : Nat) (x1 : Nat) (x2 : Nat) (x3 : Nat) (x4 : Int) (S : MS) : Prop :=
  VL_law_2634 d c23 Q x0 x1 x2 x3 x4 S
theorem JL_law_1363 {d : Nat} {c23 : Nat → Nat → Nat → Nat → Int → MS → Prop} {S0 : MS} {Q : Out → MS → Prop} (hc23 : ∀ (x0 : Nat) (x1 : Nat) (x2 : Nat) (x3 : Nat) (x4 : Int) (S : MS), c23 x0 x1 x2 x3 x4 S → Jw FinW RL cL_law 7 (some .boolean) [] yL_law (d + 1) S0 S 23 [(0, vA x0), (1, vA x1), (2, vA x2), (3, vA x3), (4, vI x4)] [] Q) (x0 : Nat) (x1 : Nat) (x2 : Nat) (x3 : Nat) (x4 : Int) (S : MS) (h : VL_law_1363 d c23 Q x0 x1 x2 x3 x4 S) : Jw FinW RL cL_law 7 (some .boolean) [] yL_law (d + 1) S0 S 1363 [(0, vA x0), (1, vA x1), (2, vA x2), (3, vA x3), (4, vI x4)] [] Q :=
  j_goto (tgt := 2634) dL_law_1363 (by decide) (JL_law_2634 hc23 _ _ _ _ _ _ h)
def VL_law_1419 (d : Nat) (c23 : Nat → Nat → Nat → Nat → Int → MS → Prop) (Q : Out → MS → Prop) (x0 : Nat) (x1 : Nat) (x2 : Nat) (x3 : Nat) (x4 : Int) (S : MS) : Prop :=
  VL_law_2634 d c23 Q x0 x1 x2 x3 x4 S
theorem JL_law_1419 {d : Nat} {c23 : Nat → Nat → Nat → Nat → Int → MS → Prop} {S0 : MS} {Q : Out → MS → Prop} (hc23 : ∀ (x0 : Nat) (x1 : Nat) (x2 : Nat) (x3 : Nat) (x4 : Int) (S : MS), c23 x0 x1 x2 x3 x4 S → Jw FinW RL cL_law 7 (some .boolean) [] yL_law (d + 1) S0 S 23 [(0, vA x0), (1, vA x1), (2, vA x2), (3, vA x3), (4, vI x4)] [] Q) (x0 : Nat) (x1 : Nat) (x2 : Nat) (x3 : Nat) (x4 : Int) (S : MS) (h : VL_law_1419 d c23 Q x0 x1 x2 x3 x4 S) : Jw FinW RL cL_law 7 (some .boolean) [] yL_law (d + 1) S0 S 1419 [(0, vA x0), (1, vA x1), (2, vA x2), (3, vA x3), (4, vI x4)] [] Q :=
  j_goto (tgt := 2634) dL_law_1419 (by decide) (JL_law_2634 hc23 _ _ _ _ _ _ h)
def VL_law_1515 (d : Nat) (c23 : Nat → Nat → Nat → Nat → Int → MS → Prop) (Q : Out → MS → Prop) (x0 : Nat) (x1 : Nat) (x2 : Nat) (x3 : Nat) (x4 : Int) (S : MS) : Prop :=
  VL_law_2634 d c23 Q x0 x1 x2 x3 x4 S
theorem JL_law_1515 {d : Nat} {c23 : Nat → Nat → Nat → Nat → Int → MS → Prop} {S0 : MS} {Q : Out → MS → Prop} (hc23 : ∀ (x0 : Nat) (x1 : Nat) (x2 : Nat) (x3 : Nat) (x4 : Int) (S : MS), c23 x0 x1 x2 x3 x4 S → Jw FinW RL cL_law 7 (some .boolean) [] yL_law (d + 1) S0 S 23 [(0, vA x0), (1, vA x1), (2, vA x2), (3, vA x3), (4, vI x4)] [] Q) (x0 : Nat) (x1 : Nat) (x2 : Nat) (x3 : Nat) (x4 : Int) (S : MS) (h : VL_law_1515 d c23 Q x0 x1 x2 x3 x4 S) : Jw FinW RL cL_law 7 (some .boolean) [] yL_law (d + 1) S0 S 1515 [(0, vA x0), (1, vA x1), (2, vA x2), (3, vA x3), (4, vI x4)] [] Q :=
  j_goto (tgt := 2634) dL_law_1515 (by decide) (JL_law_2634 hc23 _ _ _ _ _ _ h)
def VL_law_1482 (d : Nat) (c23 : Nat → Nat → Nat → Nat → Int → MS → Prop) (Q : Out → MS → Prop) (x0 : Nat) (x1 : Nat) (x2 : Nat) (x3 : Nat) (x4 : Int) (x5 : Int) (t0 : Int) (t1 : Int) (t2 : Int) (t3 : Nat) (S : MS) : Prop :=
  S.K t3 = 11 ∧ Mw hX11_laying yX11_laying d [vA t3, vI t2, vI t1, vI t0] S (oI (fun r1 S1 => S1.K x2 = 11 ∧ Mw hX11_thrown yX11_thrown d [vA x2] S1 (oI (fun r2 S2 => (R32 r2 ∧ R32 x5) ∧ ((r2 = x5) → R32 x5 ∧ (¬ (x5 = 0) → VL_law_1515 d c23 Q x0 x1 x2 x3 x4 S2) ∧ ((x5 = 0) → (S2.K x3 = 14 ∧ 0 ≤ (0 : Int) ∧ (0 : Int) < S2.N x3) ∧ (R32 (lCmp (S2.J x3 ((0 : Int)).toNat) (i2L r1)) ∧ (((lCmp (S2.J x3 ((0 : Int)).toNat) (i2L r1)) = 0) → VL_law_1515 d c23 Q x0 x1 x2 x3 x4 S2) ∧ (¬ ((lCmp (S2.J x3 ((0 : Int)).toNat) (i2L r1)) = 0) → (0 : Int) = 1 ∧ Q (.inl (some (vI 0))) S2)))) ∧ (¬ (r2 = x5) → (0 : Int) = 1 ∧ Q (.inl (some (vI 0))) S2)))))
theorem JL_law_1482 {d : Nat} {c23 : Nat → Nat → Nat → Nat → Int → MS → Prop} {S0 : MS} {Q : Out → MS → Prop} (hc23 : ∀ (x0 : Nat) (x1 : Nat) (x2 : Nat) (x3 : Nat) (x4 : Int) (S : MS), c23 x0 x1 x2 x3 x4 S → Jw FinW RL cL_law 7 (some .boolean) [] yL_law (d + 1) S0 S 23 [(0, vA x0), (1, vA x1), (2, vA x2), (3, vA x3), (4, vI x4)] [] Q) (x0 : Nat) (x1 : Nat) (x2 : Nat) (x3 : Nat) (x4 : Int) (x5 : Int) (t0 : Int) (t1 : Int) (t2 : Int) (t3 : Nat) (S : MS) (h : VL_law_1482 d c23 Q x0 x1 x2 x3 x4 x5 t0 t1 t2 t3 S) : Jw FinW RL cL_law 7 (some .boolean) [] yL_law (d + 1) S0 S 1482 [(0, vA x0), (1, vA x1), (2, vA x2), (3, vA x3), (4, vI x4), (5, vI x5)] [vI t0, vI t1, vI t2, vA t3] Q :=
  j_callV (rest := []) 11 [vI t2, vI t1, vI t0] k_RL_233 ⟨w_8_221, w_8_222⟩ ⟨_, _, rfl⟩ (by decide) rfl rfl (Nat.le_of_ble_eq_true rfl) dL_law_1482 h (kI (fun r1 S1 h => j_istore (lv2 := [(6, vI r1), (0, vA x0), (1, vA x1), (2, vA x2), (3, vA x3), (4, vI x4), (5, vI x5)]) dL_law_1485 (by decide) rfl (j_aload_n 3 dL_law_1487 rfl (j_callV (rest := []) 11 [] k_RL_142 ⟨w_6_210, w_6_211⟩ ⟨_, _, rfl⟩ (by decide) rfl rfl (Nat.le_of_ble_eq_true rfl) dL_law_1488 h (kI (fun r2 S2 h => j_iload 6 dL_law_1491 rfl (j_icmp_eq (tgt := 1498) dL_law_1493 (by decide) h (fun h => j_iload 6 dL_law_1498 rfl (j_if_ne (tgt := 1515) dL_law_1500 (by decide) h (fun h => j_sub [1, 2, 3, 4, 5] rfl (JL_law_1515 hc23 _ _ _ _ _ _ h)) (fun h => j_aload_n 4 dL_law_1503 rfl (j_iconst dL_law_1504 (j_lald dL_law_1505 h (fun h => j_iload 0 dL_law_1506 rfl (j_i2l dL_law_1508 (j_lcmp dL_law_1509 (j_if_eq (tgt := 1515) dL_law_1510 (by decide) h (fun h => j_sub [1, 2, 3, 4, 5] rfl (JL_law_1515 hc23 _ _ _ _ _ _ h)) (fun h => j_iconst dL_law_1513 (j_lawretM dL_law_1514 h))))))))))) (fun h => j_iconst dL_law_1496 (j_lawretM dL_law_1497 h))))) (fun _ _ h => h.elim))))) (fun _ _ h => h.elim)
def VL_law_1449 (d : Nat) (c23 : Nat → Nat → Nat → Nat → Int → MS → Prop) (Q : Out → MS → Prop) (x0 : Nat) (x1 : Nat) (x2 : Nat) (x3 : Nat) (x4 : Int) (t0 : Int) (t1 : Int) (t2 : Int) (t3 : Nat) (S : MS) : Prop :=
  Mw hL_laying yL_laying d [vA t3, vI t2, vI t1, vI t0, vA x3] S (oI (fun r1 S1 => ((x0 = S1.T 16 ∧ S1.T 17 < 2147483648) ∧ 0 ≤ (x4 + 1) ∧ (x4 + 1) < S1.T 17) ∧ (((x0 = S1.T 16 ∧ S1.T 17 < 2147483648) ∧ 0 ≤ (x4 + 2) ∧ (x4 + 2) < S1.T 17) ∧ (((x0 = S1.T 16 ∧ S1.T 17 < 2147483648) ∧ 0 ≤ (x4 + 3) ∧ (x4 + 3) < S1.T 17) ∧ (R32 (scr S1 (x4 + 3)) ∧ (((scr S1 (x4 + 3)) = 0) → VL_law_1482 d c23 Q x0 x1 x2 x3 x4 r1 0 (scr S1 (x4 + 2)) (scr S1 (x4 + 1)) x2 S1) ∧ (¬ ((scr S1 (x4 + 3)) = 0) → VL_law_1482 d c23 Q x0 x1 x2 x3 x4 r1 1 (scr S1 (x4 + 2)) (scr S1 (x4 + 1)) x2 S1))))))
theorem JL_law_1449 {d : Nat} {c23 : Nat → Nat → Nat → Nat → Int → MS → Prop} {S0 : MS} {Q : Out → MS → Prop} (hc23 : ∀ (x0 : Nat) (x1 : Nat) (x2 : Nat) (x3 : Nat) (x4 : Int) (S : MS), c23 x0 x1 x2 x3 x4 S → Jw FinW RL cL_law 7 (some .boolean) [] yL_law (d + 1) S0 S 23 [(0, vA x0), (1, vA x1), (2, vA x2), (3, vA x3), (4, vI x4)] [] Q) (x0 : Nat) (x1 : Nat) (x2 : Nat) (x3 : Nat) (x4 : Int) (t0 : Int) (t1 : Int) (t2 : Int) (t3 : Nat) (S : MS) (h : VL_law_1449 d c23 Q x0 x1 x2 x3 x4 t0 t1 t2 t3 S) : Jw FinW RL cL_law 7 (some .boolean) [] yL_law (d + 1) S0 S 1449 [(0, vA x0), (1, vA x1), (2, vA x2), (3, vA x3), (4, vI x4)] [vI t0, vI t1, vI t2, vA t3] Q :=
  j_aload_n 3 dL_law_1449 rfl (j_callSW (rest := []) [vA t3, vI t2, vI t1, vI t0, vA x3] k_RL_230 w_6_27 rfl rfl (Nat.le_of_ble_eq_true rfl) dL_law_1450 h (kI (fun r1 S1 h => j_istore (lv2 := [(5, vI r1), (0, vA x0), (1, vA x1), (2, vA x2), (3, vA x3), (4, vI x4)]) dL_law_1453 (by decide) rfl (j_aload_n 3 dL_law_1455 rfl (j_aload_n 1 dL_law_1456 rfl (j_iload 5 dL_law_1457 rfl (j_iconst dL_law_1459 (j_iadd dL_law_1460 (j_sld dL_law_1461 h (fun h => j_aload_n 1 dL_law_1462 rfl (j_iload 5 dL_law_1463 rfl (j_iconst dL_law_1465 (j_iadd dL_law_1466 (j_sld dL_law_1467 h (fun h => j_aload_n 1 dL_law_1468 rfl (j_iload 5 dL_law_1469 rfl (j_iconst dL_law_1471 (j_iadd dL_law_1472 (j_sld dL_law_1473 h (fun h => j_if_eq (tgt := 1481) dL_law_1474 (by decide) h (fun h => j_iconst dL_law_1481 (j_sub [1, 2, 3, 4, 5, 0] rfl (JL_law_1482 hc23 _ _ _ _ _ _ _ _ _ _ _ h))) (fun h => j_iconst dL_law_1477 (j_goto (tgt := 1482) dL_law_1478 (by decide) (j_sub [1, 2, 3, 4, 5, 0] rfl (JL_law_1482 hc23 _ _ _ _ _ _ _ _ _ _ _ h))))))))))))))))))))))))
def VL_law_1571 (d : Nat) (c23 : Nat → Nat → Nat → Nat → Int → MS → Prop) (Q : Out → MS → Prop) (x0 : Nat) (x1 : Nat) (x2 : Nat) (x3 : Nat) (x4 : Int) (S : MS) : Prop :=
  VL_law_2634 d c23 Q x0 x1 x2 x3 x4 S
theorem JL_law_1571 {d : Nat} {c23 : Nat → Nat → Nat → Nat → Int → MS → Prop} {S0 : MS} {Q : Out → MS → Prop} (hc23 : ∀ (x0 : Nat) (x1 : Nat) (x2 : Nat) (x3 : Nat) (x4 : Int) (S : MS), c23 x0 x1 x2 x3 x4 S → Jw FinW RL cL_law 7 (some .boolean) [] yL_law (d + 1) S0 S 23 [(0, vA x0), (1, vA x1), (2, vA x2), (3, vA x3), (4, vI x4)] [] Q) (x0 : Nat) (x1 : Nat) (x2 : Nat) (x3 : Nat) (x4 : Int) (S : MS) (h : VL_law_1571 d c23 Q x0 x1 x2 x3 x4 S) : Jw FinW RL cL_law 7 (some .boolean) [] yL_law (d + 1) S0 S 1571 [(0, vA x0), (1, vA x1), (2, vA x2), (3, vA x3), (4, vI x4)] [] Q :=
  j_goto (tgt := 2634) dL_law_1571 (by decide) (JL_law_2634 hc23 _ _ _ _ _ _ h)
def VL_law_1627 (d : Nat) (c23 : Nat → Nat → Nat → Nat → Int → MS → Prop) (Q : Out → MS → Prop) (x0 : Nat) (x1 : Nat) (x2 : Nat) (x3 : Nat) (x4 : Int) (S : MS) : Prop :=
  VL_law_2634 d c23 Q x0 x1 x2 x3 x4 S
theorem JL_law_1627 {d : Nat} {c23 : Nat → Nat → Nat → Nat → Int → MS → Prop} {S0 : MS} {Q : Out → MS → Prop} (hc23 : ∀ (x0 : Nat) (x1 : Nat) (x2 : Nat) (x3 : Nat) (x4 : Int) (S : MS), c23 x0 x1 x2 x3 x4 S → Jw FinW RL cL_law 7 (some .boolean) [] yL_law (d + 1) S0 S 23 [(0, vA x0), (1, vA x1), (2, vA x2), (3, vA x3), (4, vI x4)] [] Q) (x0 : Nat) (x1 : Nat) (x2 : Nat) (x3 : Nat) (x4 : Int) (S : MS) (h : VL_law_1627 d c23 Q x0 x1 x2 x3 x4 S) : Jw FinW RL cL_law 7 (some .boolean) [] yL_law (d + 1) S0 S 1627 [(0, vA x0), (1, vA x1), (2, vA x2), (3, vA x3), (4, vI x4)] [] Q :=
  j_goto (tgt := 2634) dL_law_1627 (by decide) (JL_law_2634 hc23 _ _ _ _ _ _ h)
def VL_law_1683 (d : Nat) (c23 : Nat → Nat → Nat → Nat → Int → MS → Prop) (Q : Out → MS → Prop) (x0 : Nat) (x1 : Nat) (x2 : Nat) (x3 : Nat) (x4 : Int) (S : MS) : Prop :=
  VL_law_2634 d c23 Q x0 x1 x2 x3 x4 S
theorem JL_law_1683 {d : Nat} {c23 : Nat → Nat → Nat → Nat → Int → MS → Prop} {S0 : MS} {Q : Out → MS → Prop} (hc23 : ∀ (x0 : Nat) (x1 : Nat) (x2 : Nat) (x3 : Nat) (x4 : Int) (S : MS), c23 x0 x1 x2 x3 x4 S → Jw FinW RL cL_law 7 (some .boolean) [] yL_law (d + 1) S0 S 23 [(0, vA x0), (1, vA x1), (2, vA x2), (3, vA x3), (4, vI x4)] [] Q) (x0 : Nat) (x1 : Nat) (x2 : Nat) (x3 : Nat) (x4 : Int) (S : MS) (h : VL_law_1683 d c23 Q x0 x1 x2 x3 x4 S) : Jw FinW RL cL_law 7 (some .boolean) [] yL_law (d + 1) S0 S 1683 [(0, vA x0), (1, vA x1), (2, vA x2), (3, vA x3), (4, vI x4)] [] Q :=
  j_goto (tgt := 2634) dL_law_1683 (by decide) (JL_law_2634 hc23 _ _ _ _ _ _ h)
def VL_law_1739 (d : Nat) (c23 : Nat → Nat → Nat → Nat → Int → MS → Prop) (Q : Out → MS → Prop) (x0 : Nat) (x1 : Nat) (x2 : Nat) (x3 : Nat) (x4 : Int) (S : MS) : Prop :=
  VL_law_2634 d c23 Q x0 x1 x2 x3 x4 S
theorem JL_law_1739 {d : Nat} {c23 : Nat → Nat → Nat → Nat → Int → MS → Prop} {S0 : MS} {Q : Out → MS → Prop} (hc23 : ∀ (x0 : Nat) (x1 : Nat) (x2 : Nat) (x3 : Nat) (x4 : Int) (S : MS), c23 x0 x1 x2 x3 x4 S → Jw FinW RL cL_law 7 (some .boolean) [] yL_law (d + 1) S0 S 23 [(0, vA x0), (1, vA x1), (2, vA x2), (3, vA x3), (4, vI x4)] [] Q) (x0 : Nat) (x1 : Nat) (x2 : Nat) (x3 : Nat) (x4 : Int) (S : MS) (h : VL_law_1739 d c23 Q x0 x1 x2 x3 x4 S) : Jw FinW RL cL_law 7 (some .boolean) [] yL_law (d + 1) S0 S 1739 [(0, vA x0), (1, vA x1), (2, vA x2), (3, vA x3), (4, vI x4)] [] Q :=
  j_goto (tgt := 2634) dL_law_1739 (by decide) (JL_law_2634 hc23 _ _ _ _ _ _ h)
def VL_law_1814 (d : Nat) (c23 : Nat → Nat → Nat → Nat → Int → MS → Prop) (Q : Out → MS → Prop) (x0 : Nat) (x1 : Nat) (x2 : Nat) (x3 : Nat) (x4 : Int) (S : MS) : Prop :=
  VL_law_2634 d c23 Q x0 x1 x2 x3 x4 S
theorem JL_law_1814 {d : Nat} {c23 : Nat → Nat → Nat → Nat → Int → MS → Prop} {S0 : MS} {Q : Out → MS → Prop} (hc23 : ∀ (x0 : Nat) (x1 : Nat) (x2 : Nat) (x3 : Nat) (x4 : Int) (S : MS), c23 x0 x1 x2 x3 x4 S → Jw FinW RL cL_law 7 (some .boolean) [] yL_law (d + 1) S0 S 23 [(0, vA x0), (1, vA x1), (2, vA x2), (3, vA x3), (4, vI x4)] [] Q) (x0 : Nat) (x1 : Nat) (x2 : Nat) (x3 : Nat) (x4 : Int) (S : MS) (h : VL_law_1814 d c23 Q x0 x1 x2 x3 x4 S) : Jw FinW RL cL_law 7 (some .boolean) [] yL_law (d + 1) S0 S 1814 [(0, vA x0), (1, vA x1), (2, vA x2), (3, vA x3), (4, vI x4)] [] Q :=
  j_goto (tgt := 2634) dL_law_1814 (by decide) (JL_law_2634 hc23 _ _ _ _ _ _ h)
def VL_law_1808 (d : Nat) (c23 : Nat → Nat → Nat → Nat → Int → MS → Prop) (Q : Out → MS → Prop) (x0 : Nat) (x1 : Nat) (x2 : Nat) (x3 : Nat) (x4 : Int) (t0 : BitVec 64) (t1 : BitVec 64) (S : MS) : Prop :=
  R32 (lCmp t1 t0) ∧ (((lCmp t1 t0) = 0) → VL_law_1814 d c23 Q x0 x1 x2 x3 x4 S) ∧ (¬ ((lCmp t1 t0) = 0) → (0 : Int) = 1 ∧ Q (.inl (some (vI 0))) S)
theorem JL_law_1808 {d : Nat} {c23 : Nat → Nat → Nat → Nat → Int → MS → Prop} {S0 : MS} {Q : Out → MS → Prop} (hc23 : ∀ (x0 : Nat) (x1 : Nat) (x2 : Nat) (x3 : Nat) (x4 : Int) (S : MS), c23 x0 x1 x2 x3 x4 S → Jw FinW RL cL_law 7 (some .boolean) [] yL_law (d + 1) S0 S 23 [(0, vA x0), (1, vA x1), (2, vA x2), (3, vA x3), (4, vI x4)] [] Q) (x0 : Nat) (x1 : Nat) (x2 : Nat) (x3 : Nat) (x4 : Int) (t0 : BitVec 64) (t1 : BitVec 64) (S : MS) (h : VL_law_1808 d c23 Q x0 x1 x2 x3 x4 t0 t1 S) : Jw FinW RL cL_law 7 (some .boolean) [] yL_law (d + 1) S0 S 1808 [(0, vA x0), (1, vA x1), (2, vA x2), (3, vA x3), (4, vI x4)] [vL t0, vL t1] Q :=
  j_lcmp dL_law_1808 (j_if_eq (tgt := 1814) dL_law_1809 (by decide) h (fun h => JL_law_1814 hc23 _ _ _ _ _ _ h) (fun h => j_iconst dL_law_1812 (j_lawretM dL_law_1813 h)))
def VL_law_1882 (d : Nat) (c23 : Nat → Nat → Nat → Nat → Int → MS → Prop) (Q : Out → MS → Prop) (x0 : Nat) (x1 : Nat) (x2 : Nat) (x3 : Nat) (x4 : Int) (S : MS) : Prop :=
  VL_law_2634 d c23 Q x0 x1 x2 x3 x4 S
theorem JL_law_1882 {d : Nat} {c23 : Nat → Nat → Nat → Nat → Int → MS → Prop} {S0 : MS} {Q : Out → MS → Prop} (hc23 : ∀ (x0 : Nat) (x1 : Nat) (x2 : Nat) (x3 : Nat) (x4 : Int) (S : MS), c23 x0 x1 x2 x3 x4 S → Jw FinW RL cL_law 7 (some .boolean) [] yL_law (d + 1) S0 S 23 [(0, vA x0), (1, vA x1), (2, vA x2), (3, vA x3), (4, vI x4)] [] Q) (x0 : Nat) (x1 : Nat) (x2 : Nat) (x3 : Nat) (x4 : Int) (S : MS) (h : VL_law_1882 d c23 Q x0 x1 x2 x3 x4 S) : Jw FinW RL cL_law 7 (some .boolean) [] yL_law (d + 1) S0 S 1882 [(0, vA x0), (1, vA x1), (2, vA x2), (3, vA x3), (4, vI x4)] [] Q :=
  j_goto (tgt := 2634) dL_law_1882 (by decide) (JL_law_2634 hc23 _ _ _ _ _ _ h)
def VL_law_1938 (d : Nat) (c23 : Nat → Nat → Nat → Nat → Int → MS → Prop) (Q : Out → MS → Prop) (x0 : Nat) (x1 : Nat) (x2 : Nat) (x3 : Nat) (x4 : Int) (S : MS) : Prop :=
  VL_law_2634 d c23 Q x0 x1 x2 x3 x4 S
theorem JL_law_1938 {d : Nat} {c23 : Nat → Nat → Nat → Nat → Int → MS → Prop} {S0 : MS} {Q : Out → MS → Prop} (hc23 : ∀ (x0 : Nat) (x1 : Nat) (x2 : Nat) (x3 : Nat) (x4 : Int) (S : MS), c23 x0 x1 x2 x3 x4 S → Jw FinW RL cL_law 7 (some .boolean) [] yL_law (d + 1) S0 S 23 [(0, vA x0), (1, vA x1), (2, vA x2), (3, vA x3), (4, vI x4)] [] Q) (x0 : Nat) (x1 : Nat) (x2 : Nat) (x3 : Nat) (x4 : Int) (S : MS) (h : VL_law_1938 d c23 Q x0 x1 x2 x3 x4 S) : Jw FinW RL cL_law 7 (some .boolean) [] yL_law (d + 1) S0 S 1938 [(0, vA x0), (1, vA x1), (2, vA x2), (3, vA x3), (4, vI x4)] [] Q :=
  j_goto (tgt := 2634) dL_law_1938 (by decide) (JL_law_2634 hc23 _ _ _ _ _ _ h)
def VL_law_1994 (d : Nat) (c23 : Nat → Nat → Nat → Nat → Int → MS → Prop) (Q : Out → MS → Prop) (x0 : Nat) (x1 : Nat) (x2 : Nat) (x3 : Nat) (x4 : Int) (S : MS) : Prop :=
  VL_law_2634 d c23 Q x0 x1 x2 x3 x4 S
theorem JL_law_1994 {d : Nat} {c23 : Nat → Nat → Nat → Nat → Int → MS → Prop} {S0 : MS} {Q : Out → MS → Prop} (hc23 : ∀ (x0 : Nat) (x1 : Nat) (x2 : Nat) (x3 : Nat) (x4 : Int) (S : MS), c23 x0 x1 x2 x3 x4 S → Jw FinW RL cL_law 7 (some .boolean) [] yL_law (d + 1) S0 S 23 [(0, vA x0), (1, vA x1), (2, vA x2), (3, vA x3), (4, vI x4)] [] Q) (x0 : Nat) (x1 : Nat) (x2 : Nat) (x3 : Nat) (x4 : Int) (S : MS) (h : VL_law_1994 d c23 Q x0 x1 x2 x3 x4 S) : Jw FinW RL cL_law 7 (some .boolean) [] yL_law (d + 1) S0 S 1994 [(0, vA x0), (1, vA x1), (2, vA x2), (3, vA x3), (4, vI x4)] [] Q :=
  j_goto (tgt := 2634) dL_law_1994 (by decide) (JL_law_2634 hc23 _ _ _ _ _ _ h)
def VL_law_2086 (d : Nat) (c23 : Nat → Nat → Nat → Nat → Int → MS → Prop) (Q : Out → MS → Prop) (x0 : Nat) (x1 : Nat) (x2 : Nat) (x3 : Nat) (x4 : Int) (S : MS) : Prop :=
  VL_law_2634 d c23 Q x0 x1 x2 x3 x4 S
theorem JL_law_2086 {d : Nat} {c23 : Nat → Nat → Nat → Nat → Int → MS → Prop} {S0 : MS} {Q : Out → MS → Prop} (hc23 : ∀ (x0 : Nat) (x1 : Nat) (x2 : Nat) (x3 : Nat) (x4 : Int) (S : MS), c23 x0 x1 x2 x3 x4 S → Jw FinW RL cL_law 7 (some .boolean) [] yL_law (d + 1) S0 S 23 [(0, vA x0), (1, vA x1), (2, vA x2), (3, vA x3), (4, vI x4)] [] Q) (x0 : Nat) (x1 : Nat) (x2 : Nat) (x3 : Nat) (x4 : Int) (S : MS) (h : VL_law_2086 d c23 Q x0 x1 x2 x3 x4 S) : Jw FinW RL cL_law 7 (some .boolean) [] yL_law (d + 1) S0 S 2086 [(0, vA x0), (1, vA x1), (2, vA x2), (3, vA x3), (4, vI x4)] [] Q :=
  j_goto (tgt := 2634) dL_law_2086 (by decide) (JL_law_2634 hc23 _ _ _ _ _ _ h)
def VL_law_2122 (d : Nat) (c23 : Nat → Nat → Nat → Nat → Int → MS → Prop) (Q : Out → MS → Prop) (x0 : Nat) (x1 : Nat) (x2 : Nat) (x3 : Nat) (x4 : Int) (t0 : Int) (t1 : Nat) (t2 : Int) (S : MS) : Prop :=
  S.K t1 = 11 ∧ Mw hX11_sures yX11_sures d [vA t1, vI t0] S (oI (fun r1 S1 => (R32 t2 ∧ R32 r1) ∧ ((t2 = r1) → VL_law_2634 d c23 Q x0 x1 x2 x3 x4 S1) ∧ (¬ (t2 = r1) → (0 : Int) = 1 ∧ Q (.inl (some (vI 0))) S1)))
theorem JL_law_2122 {d : Nat} {c23 : Nat → Nat → Nat → Nat → Int → MS → Prop} {S0 : MS} {Q : Out → MS → Prop} (hc23 : ∀ (x0 : Nat) (x1 : Nat) (x2 : Nat) (x3 : Nat) (x4 : Int) (S : MS), c23 x0 x1 x2 x3 x4 S → Jw FinW RL cL_law 7 (some .boolean) [] yL_law (d + 1) S0 S 23 [(0, vA x0), (1, vA x1), (2, vA x2), (3, vA x3), (4, vI x4)] [] Q) (x0 : Nat) (x1 : Nat) (x2 : Nat) (x3 : Nat) (x4 : Int) (t0 : Int) (t1 : Nat) (t2 : Int) (S : MS) (h : VL_law_2122 d c23 Q x0 x1 x2 x3 x4 t0 t1 t2 S) : Jw FinW RL cL_law 7 (some .boolean) [] yL_law (d + 1) S0 S 2122 [(0, vA x0), (1, vA x1), (2, vA x2), (3, vA x3), (4, vI x4)] [vI t0, vA t1, vI t2] Q :=
  j_callV (rest := [vI t2]) 11 [vI t0] k_RL_266 ⟨w_8_125, w_8_126⟩ ⟨_, _, rfl⟩ (by decide) rfl rfl (Nat.le_of_ble_eq_true rfl) dL_law_2122 h (kI (fun r1 S1 h => j_icmp_eq (tgt := 2634) dL_law_2125 (by decide) h (fun h => JL_law_2634 hc23 _ _ _ _ _ _ h) (fun h => j_iconst dL_law_2128 (j_lawretM dL_law_2129 h)))) (fun _ _ h => h.elim)
def VL_law_2104 (d : Nat) (c23 : Nat → Nat → Nat → Nat → Int → MS → Prop) (Q : Out → MS → Prop) (x0 : Nat) (x1 : Nat) (x2 : Nat) (x3 : Nat) (x4 : Int) (t0 : Int) (t1 : Nat) (S : MS) : Prop :=
  S.K t1 = 10 ∧ Mw hX10_sures yX10_sures d [vA t1, vI t0] S (oI (fun r1 S1 => ((x0 = S1.T 16 ∧ S1.T 17 < 2147483648) ∧ 0 ≤ (x4 + 1) ∧ (x4 + 1) < S1.T 17) ∧ (R32 (scr S1 (x4 + 1)) ∧ (((scr S1 (x4 + 1)) = 0) → VL_law_2122 d c23 Q x0 x1 x2 x3 x4 0 x2 r1 S1) ∧ (¬ ((scr S1 (x4 + 1)) = 0) → VL_law_2122 d c23 Q x0 x1 x2 x3 x4 1 x2 r1 S1))))
theorem JL_law_2104 {d : Nat} {c23 : Nat → Nat → Nat → Nat → Int → MS → Prop} {S0 : MS} {Q : Out → MS → Prop} (hc23 : ∀ (x0 : Nat) (x1 : Nat) (x2 : Nat) (x3 : Nat) (x4 : Int) (S : MS), c23 x0 x1 x2 x3 x4 S → Jw FinW RL cL_law 7 (some .boolean) [] yL_law (d + 1) S0 S 23 [(0, vA x0), (1, vA x1), (2, vA x2), (3, vA x3), (4, vI x4)] [] Q) (x0 : Nat) (x1 : Nat) (x2 : Nat) (x3 : Nat) (x4 : Int) (t0 : Int) (t1 : Nat) (S : MS) (h : VL_law_2104 d c23 Q x0 x1 x2 x3 x4 t0 t1 S) : Jw FinW RL cL_law 7 (some .boolean) [] yL_law (d + 1) S0 S 2104 [(0, vA x0), (1, vA x1), (2, vA x2), (3, vA x3), (4, vI x4)] [vI t0, vA t1] Q :=
  j_callV (rest := []) 10 [vI t0] k_RL_262 ⟨w_3_131, w_3_132⟩ ⟨_, _, rfl⟩ (by decide) rfl rfl (Nat.le_of_ble_eq_true rfl) dL_law_2104 h (kI (fun r1 S1 h => j_aload_n 2 dL_law_2107 rfl (j_aload_n 0 dL_law_2108 rfl (j_iload 4 dL_law_2109 rfl (j_iconst dL_law_2111 (j_iadd dL_law_2112 (j_sld dL_law_2113 h (fun h => j_if_eq (tgt := 2121) dL_law_2114 (by decide) h (fun h => j_iconst dL_law_2121 (JL_law_2122 hc23 _ _ _ _ _ _ _ _ _ h)) (fun h => j_iconst dL_law_2117 (j_goto (tgt := 2122) dL_law_2118 (by decide) (JL_law_2122 hc23 _ _ _ _ _ _ _ _ _ h))))))))))) (fun _ _ h => h.elim)
def VL_law_2208 (d : Nat) (c23 : Nat → Nat → Nat → Nat → Int → MS → Prop) (Q : Out → MS → Prop) (x0 : Nat) (x1 : Nat) (x2 : Nat) (x3 : Nat) (x4 : Int) (S : MS) : Prop :=
  VL_law_2634 d c23 Q x0 x1 x2 x3 x4 S
theorem JL_law_2208 {d : Nat} {c23 : Nat → Nat → Nat → Nat → Int → MS → Prop} {S0 : MS} {Q : Out → MS → Prop} (hc23 : ∀ (x0 : Nat) (x1 : Nat) (x2 : Nat) (x3 : Nat) (x4 : Int) (S : MS), c23 x0 x1 x2 x3 x4 S → Jw FinW RL cL_law 7 (some .boolean) [] yL_law (d + 1) S0 S 23 [(0, vA x0), (1, vA x1), (2, vA x2), (3, vA x3), (4, vI x4)] [] Q) (x0 : Nat) (x1 : Nat) (x2 : Nat) (x3 : Nat) (x4 : Int) (S : MS) (h : VL_law_2208 d c23 Q x0 x1 x2 x3 x4 S) : Jw FinW RL cL_law 7 (some .boolean) [] yL_law (d + 1) S0 S 2208 [(0, vA x0), (1, vA x1), (2, vA x2), (3, vA x3), (4, vI x4)] [] Q :=
  j_goto (tgt := 2634) dL_law_2208 (by decide) (JL_law_2634 hc23 _ _ _ _ _ _ h)
def VL_law_2244 (d : Nat) (c23 : Nat → Nat → Nat → Nat → Int → MS → Prop) (Q : Out → MS → Prop) (x0 : Nat) (x1 : Nat) (x2 : Nat) (x3 : Nat) (x4 : Int) (t0 : Int) (t1 : Nat) (t2 : Int) (S : MS) : Prop :=
  S.K t1 = 11 ∧ Mw hX11_cheapest yX11_cheapest d [vA t1, vI t0] S (oI (fun r1 S1 => (R32 t2 ∧ R32 r1) ∧ ((t2 = r1) → VL_law_2634 d c23 Q x0 x1 x2 x3 x4 S1) ∧ (¬ (t2 = r1) → (0 : Int) = 1 ∧ Q (.inl (some (vI 0))) S1)))
theorem JL_law_2244 {d : Nat} {c23 : Nat → Nat → Nat → Nat → Int → MS → Prop} {S0 : MS} {Q : Out → MS → Prop} (hc23 : ∀ (x0 : Nat) (x1 : Nat) (x2 : Nat) (x3 : Nat) (x4 : Int) (S : MS), c23 x0 x1 x2 x3 x4 S → Jw FinW RL cL_law 7 (some .boolean) [] yL_law (d + 1) S0 S 23 [(0, vA x0), (1, vA x1), (2, vA x2), (3, vA x3), (4, vI x4)] [] Q) (x0 : Nat) (x1 : Nat) (x2 : Nat) (x3 : Nat) (x4 : Int) (t0 : Int) (t1 : Nat) (t2 : Int) (S : MS) (h : VL_law_2244 d c23 Q x0 x1 x2 x3 x4 t0 t1 t2 S) : Jw FinW RL cL_law 7 (some .boolean) [] yL_law (d + 1) S0 S 2244 [(0, vA x0), (1, vA x1), (2, vA x2), (3, vA x3), (4, vI x4)] [vI t0, vA t1, vI t2] Q :=
  j_callV (rest := [vI t2]) 11 [vI t0] k_RL_277 ⟨w_9_61, w_9_62⟩ ⟨_, _, rfl⟩ (by decide) rfl rfl (Nat.le_of_ble_eq_true rfl) dL_law_2244 h (kI (fun r1 S1 h => j_icmp_eq (tgt := 2634) dL_law_2247 (by decide) h (fun h => JL_law_2634 hc23 _ _ _ _ _ _ h) (fun h => j_iconst dL_law_2250 (j_lawretM dL_law_2251 h)))) (fun _ _ h => h.elim)
def VL_law_2226 (d : Nat) (c23 : Nat → Nat → Nat → Nat → Int → MS → Prop) (Q : Out → MS → Prop) (x0 : Nat) (x1 : Nat) (x2 : Nat) (x3 : Nat) (x4 : Int) (t0 : Int) (t1 : Nat) (S : MS) : Prop :=
  S.K t1 = 10 ∧ Mw hX10_cheapest yX10_cheapest d [vA t1, vI t0] S (oI (fun r1 S1 => ((x0 = S1.T 16 ∧ S1.T 17 < 2147483648) ∧ 0 ≤ (x4 + 1) ∧ (x4 + 1) < S1.T 17) ∧ (R32 (scr S1 (x4 + 1)) ∧ (((scr S1 (x4 + 1)) = 0) → VL_law_2244 d c23 Q x0 x1 x2 x3 x4 0 x2 r1 S1) ∧ (¬ ((scr S1 (x4 + 1)) = 0) → VL_law_2244 d c23 Q x0 x1 x2 x3 x4 1 x2 r1 S1))))
theorem JL_law_2226 {d : Nat} {c23 : Nat → Nat → Nat → Nat → Int → MS → Prop} {S0 : MS} {Q : Out → MS → Prop} (hc23 : ∀ (x0 : Nat) (x1 : Nat) (x2 : Nat) (x3 : Nat) (x4 : Int) (S : MS), c23 x0 x1 x2 x3 x4 S → Jw FinW RL cL_law 7 (some .boolean) [] yL_law (d + 1) S0 S 23 [(0, vA x0), (1, vA x1), (2, vA x2), (3, vA x3), (4, vI x4)] [] Q) (x0 : Nat) (x1 : Nat) (x2 : Nat) (x3 : Nat) (x4 : Int) (t0 : Int) (t1 : Nat) (S : MS) (h : VL_law_2226 d c23 Q x0 x1 x2 x3 x4 t0 t1 S) : Jw FinW RL cL_law 7 (some .boolean) [] yL_law (d + 1) S0 S 2226 [(0, vA x0), (1, vA x1), (2, vA x2), (3, vA x3), (4, vI x4)] [vI t0, vA t1] Q :=
  j_callV (rest := []) 10 [vI t0] k_RL_274 ⟨w_3_152, w_3_153⟩ ⟨_, _, rfl⟩ (by decide) rfl rfl (Nat.le_of_ble_eq_true rfl) dL_law_2226 h (kI (fun r1 S1 h => j_aload_n 2 dL_law_2229 rfl (j_aload_n 0 dL_law_2230 rfl (j_iload 4 dL_law_2231 rfl (j_iconst dL_law_2233 (j_iadd dL_law_2234 (j_sld dL_law_2235 h (fun h => j_if_eq (tgt := 2243) dL_law_2236 (by decide) h (fun h => j_iconst dL_law_2243 (JL_law_2244 hc23 _ _ _ _ _ _ _ _ _ h)) (fun h => j_iconst dL_law_2239 (j_goto (tgt := 2244) dL_law_2240 (by decide) (JL_law_2244 hc23 _ _ _ _ _ _ _ _ _ h))))))))))) (fun _ _ h => h.elim)
def VL_law_2317 (d : Nat) (c23 : Nat → Nat → Nat → Nat → Int → MS → Prop) (Q : Out → MS → Prop) (x0 : Nat) (x1 : Nat) (x2 : Nat) (x3 : Nat) (x4 : Int) (S : MS) : Prop :=
  VL_law_2634 d c23 Q x0 x1 x2 x3 x4 S
theorem JL_law_2317 {d : Nat} {c23 : Nat → Nat → Nat → Nat → Int → MS → Prop} {S0 : MS} {Q : Out → MS → Prop} (hc23 : ∀ (x0 : Nat) (x1 : Nat) (x2 : Nat) (x3 : Nat) (x4 : Int) (S : MS), c23 x0 x1 x2 x3 x4 S → Jw FinW RL cL_law 7 (some .boolean) [] yL_law (d + 1) S0 S 23 [(0, vA x0), (1, vA x1), (2, vA x2), (3, vA x3), (4, vI x4)] [] Q) (x0 : Nat) (x1 : Nat) (x2 : Nat) (x3 : Nat) (x4 : Int) (S : MS) (h : VL_law_2317 d c23 Q x0 x1 x2 x3 x4 S) : Jw FinW RL cL_law 7 (some .boolean) [] yL_law (d + 1) S0 S 2317 [(0, vA x0), (1, vA x1), (2, vA x2), (3, vA x3), (4, vI x4)] [] Q :=
  j_goto (tgt := 2634) dL_law_2317 (by decide) (JL_law_2634 hc23 _ _ _ _ _ _ h)
def VL_law_2401 (d : Nat) (c23 : Nat → Nat → Nat → Nat → Int → MS → Prop) (Q : Out → MS → Prop) (x0 : Nat) (x1 : Nat) (x2 : Nat) (x3 : Nat) (x4 : Int) (S : MS) : Prop :=
  VL_law_2634 d c23 Q x0 x1 x2 x3 x4 S
theorem JL_law_2401 {d : Nat} {c23 : Nat → Nat → Nat → Nat → Int → MS → Prop} {S0 : MS} {Q : Out → MS → Prop} (hc23 : ∀ (x0 : Nat) (x1 : Nat) (x2 : Nat) (x3 : Nat) (x4 : Int) (S : MS), c23 x0 x1 x2 x3 x4 S → Jw FinW RL cL_law 7 (some .boolean) [] yL_law (d + 1) S0 S 23 [(0, vA x0), (1, vA x1), (2, vA x2), (3, vA x3), (4, vI x4)] [] Q) (x0 : Nat) (x1 : Nat) (x2 : Nat) (x3 : Nat) (x4 : Int) (S : MS) (h : VL_law_2401 d c23 Q x0 x1 x2 x3 x4 S) : Jw FinW RL cL_law 7 (some .boolean) [] yL_law (d + 1) S0 S 2401 [(0, vA x0), (1, vA x1), (2, vA x2), (3, vA x3), (4, vI x4)] [] Q :=
  j_goto (tgt := 2634) dL_law_2401 (by decide) (JL_law_2634 hc23 _ _ _ _ _ _ h)
def VL_law_2368 (d : Nat) (c23 : Nat → Nat → Nat → Nat → Int → MS → Prop) (Q : Out → MS → Prop) (x0 : Nat) (x1 : Nat) (x2 : Nat) (x3 : Nat) (x4 : Int) (x5 : Int) (t0 : Int) (t1 : Int) (t2 : Nat) (S : MS) : Prop :=
  S.K t2 = 11 ∧ Mw hX11_tree yX11_tree d [vA t2, vI t1, vI t0] S (oI (fun r1 S1 => S1.K x2 = 11 ∧ Mw hX11_thrown yX11_thrown d [vA x2] S1 (oI (fun r2 S2 => (R32 r2 ∧ R32 x5) ∧ ((r2 = x5) → R32 x5 ∧ (¬ (x5 = 0) → VL_law_2401 d c23 Q x0 x1 x2 x3 x4 S2) ∧ ((x5 = 0) → (S2.K x3 = 14 ∧ 0 ≤ (0 : Int) ∧ (0 : Int) < S2.N x3) ∧ (R32 (lCmp (S2.J x3 ((0 : Int)).toNat) (i2L r1)) ∧ (((lCmp (S2.J x3 ((0 : Int)).toNat) (i2L r1)) = 0) → VL_law_2401 d c23 Q x0 x1 x2 x3 x4 S2) ∧ (¬ ((lCmp (S2.J x3 ((0 : Int)).toNat) (i2L r1)) = 0) → (0 : Int) = 1 ∧ Q (.inl (some (vI 0))) S2)))) ∧ (¬ (r2 = x5) → (0 : Int) = 1 ∧ Q (.inl (some (vI 0))) S2)))))
theorem JL_law_2368 {d : Nat} {c23 : Nat → Nat → Nat → Nat → Int → MS → Prop} {S0 : MS} {Q : Out → MS → Prop} (hc23 : ∀ (x0 : Nat) (x1 : Nat) (x2 : Nat) (x3 : Nat) (x4 : Int) (S : MS), c23 x0 x1 x2 x3 x4 S → Jw FinW RL cL_law 7 (some .boolean) [] yL_law (d + 1) S0 S 23 [(0, vA x0), (1, vA x1), (2, vA x2), (3, vA x3), (4, vI x4)] [] Q) (x0 : Nat) (x1 : Nat) (x2 : Nat) (x3 : Nat) (x4 : Int) (x5 : Int) (t0 : Int) (t1 : Int) (t2 : Nat) (S : MS) (h : VL_law_2368 d c23 Q x0 x1 x2 x3 x4 x5 t0 t1 t2 S) : Jw FinW RL cL_law 7 (some .boolean) [] yL_law (d + 1) S0 S 2368 [(0, vA x0), (1, vA x1), (2, vA x2), (3, vA x3), (4, vI x4), (5, vI x5)] [vI t0, vI t1, vA t2] Q :=
  j_callV (rest := []) 11 [vI t1, vI t0] k_RL_284 ⟨w_9_65, w_9_66⟩ ⟨_, _, rfl⟩ (by decide) rfl rfl (Nat.le_of_ble_eq_true rfl) dL_law_2368 h (kI (fun r1 S1 h => j_istore (lv2 := [(6, vI r1), (0, vA x0), (1, vA x1), (2, vA x2), (3, vA x3), (4, vI x4), (5, vI x5)]) dL_law_2371 (by decide) rfl (j_aload_n 3 dL_law_2373 rfl (j_callV (rest := []) 11 [] k_RL_142 ⟨w_6_210, w_6_211⟩ ⟨_, _, rfl⟩ (by decide) rfl rfl (Nat.le_of_ble_eq_true rfl) dL_law_2374 h (kI (fun r2 S2 h => j_iload 6 dL_law_2377 rfl (j_icmp_eq (tgt := 2384) dL_law_2379 (by decide) h (fun h => j_iload 6 dL_law_2384 rfl (j_if_ne (tgt := 2401) dL_law_2386 (by decide) h (fun h => j_sub [1, 2, 3, 4, 5] rfl (JL_law_2401 hc23 _ _ _ _ _ _ h)) (fun h => j_aload_n 4 dL_law_2389 rfl (j_iconst dL_law_2390 (j_lald dL_law_2391 h (fun h => j_iload 0 dL_law_2392 rfl (j_i2l dL_law_2394 (j_lcmp dL_law_2395 (j_if_eq (tgt := 2401) dL_law_2396 (by decide) h (fun h => j_sub [1, 2, 3, 4, 5] rfl (JL_law_2401 hc23 _ _ _ _ _ _ h)) (fun h => j_iconst dL_law_2399 (j_lawretM dL_law_2400 h))))))))))) (fun h => j_iconst dL_law_2382 (j_lawretM dL_law_2383 h))))) (fun _ _ h => h.elim))))) (fun _ _ h => h.elim)
def VL_law_2341 (d : Nat) (c23 : Nat → Nat → Nat → Nat → Int → MS → Prop) (Q : Out → MS → Prop) (x0 : Nat) (x1 : Nat) (x2 : Nat) (x3 : Nat) (x4 : Int) (t0 : Int) (t1 : Int) (t2 : Nat) (S : MS) : Prop :=
  Mw hL_tree yL_tree d [vA t2, vI t1, vI t0, vA x3] S (oI (fun r1 S1 => ((x0 = S1.T 16 ∧ S1.T 17 < 2147483648) ∧ 0 ≤ (x4 + 1) ∧ (x4 + 1) < S1.T 17) ∧ (((x0 = S1.T 16 ∧ S1.T 17 < 2147483648) ∧ 0 ≤ (x4 + 2) ∧ (x4 + 2) < S1.T 17) ∧ (R32 (scr S1 (x4 + 2)) ∧ (((scr S1 (x4 + 2)) = 0) → VL_law_2368 d c23 Q x0 x1 x2 x3 x4 r1 0 (scr S1 (x4 + 1)) x2 S1) ∧ (¬ ((scr S1 (x4 + 2)) = 0) → VL_law_2368 d c23 Q x0 x1 x2 x3 x4 r1 1 (scr S1 (x4 + 1)) x2 S1)))))
theorem JL_law_2341 {d : Nat} {c23 : Nat → Nat → Nat → Nat → Int → MS → Prop} {S0 : MS} {Q : Out → MS → Prop} (hc23 : ∀ (x0 : Nat) (x1 : Nat) (x2 : Nat) (x3 : Nat) (x4 : Int) (S : MS), c23 x0 x1 x2 x3 x4 S → Jw FinW RL cL_law 7 (some .boolean) [] yL_law (d + 1) S0 S 23 [(0, vA x0), (1, vA x1), (2, vA x2), (3, vA x3), (4, vI x4)] [] Q) (x0 : Nat) (x1 : Nat) (x2 : Nat) (x3 : Nat) (x4 : Int) (t0 : Int) (t1 : Int) (t2 : Nat) (S : MS) (h : VL_law_2341 d c23 Q x0 x1 x2 x3 x4 t0 t1 t2 S) : Jw FinW RL cL_law 7 (some .boolean) [] yL_law (d + 1) S0 S 2341 [(0, vA x0), (1, vA x1), (2, vA x2), (3, vA x3), (4, vI x4)] [vI t0, vI t1, vA t2] Q :=
  j_aload_n 3 dL_law_2341 rfl (j_callSW (rest := []) [vA t2, vI t1, vI t0, vA x3] k_RL_281 w_6_184 rfl rfl (Nat.le_of_ble_eq_true rfl) dL_law_2342 h (kI (fun r1 S1 h => j_istore (lv2 := [(5, vI r1), (0, vA x0), (1, vA x1), (2, vA x2), (3, vA x3), (4, vI x4)]) dL_law_2345 (by decide) rfl (j_aload_n 3 dL_law_2347 rfl (j_aload_n 1 dL_law_2348 rfl (j_iload 5 dL_law_2349 rfl (j_iconst dL_law_2351 (j_iadd dL_law_2352 (j_sld dL_law_2353 h (fun h => j_aload_n 1 dL_law_2354 rfl (j_iload 5 dL_law_2355 rfl (j_iconst dL_law_2357 (j_iadd dL_law_2358 (j_sld dL_law_2359 h (fun h => j_if_eq (tgt := 2367) dL_law_2360 (by decide) h (fun h => j_iconst dL_law_2367 (j_sub [1, 2, 3, 4, 5, 0] rfl (JL_law_2368 hc23 _ _ _ _ _ _ _ _ _ _ h))) (fun h => j_iconst dL_law_2363 (j_goto (tgt := 2368) dL_law_2364 (by decide) (j_sub [1, 2, 3, 4, 5, 0] rfl (JL_law_2368 hc23 _ _ _ _ _ _ _ _ _ _ h)))))))))))))))))))
def VL_law_2498 (d : Nat) (c23 : Nat → Nat → Nat → Nat → Int → MS → Prop) (Q : Out → MS → Prop) (x0 : Nat) (x1 : Nat) (x2 : Nat) (x3 : Nat) (x4 : Int) (S : MS) : Prop :=
  VL_law_2634 d c23 Q x0 x1 x2 x3 x4 S
theorem JL_law_2498 {d : Nat} {c23 : Nat → Nat → Nat → Nat → Int → MS → Prop} {S0 : MS} {Q : Out → MS → Prop} (hc23 : ∀ (x0 : Nat) (x1 : Nat) (x2 : Nat) (x3 : Nat) (x4 : Int) (S : MS), c23 x0 x1 x2 x3 x4 S → Jw FinW RL cL_law 7 (some .boolean) [] yL_law (d + 1) S0 S 23 [(0, vA x0), (1, vA x1), (2, vA x2), (3, vA x3), (4, vI x4)] [] Q) (x0 : Nat) (x1 : Nat) (x2 : Nat) (x3 : Nat) (x4 : Int) (S : MS) (h : VL_law_2498 d c23 Q x0 x1 x2 x3 x4 S) : Jw FinW RL cL_law 7 (some .boolean) [] yL_law (d + 1) S0 S 2498 [(0, vA x0), (1, vA x1), (2, vA x2), (3, vA x3), (4, vI x4)] [] Q :=
  j_goto (tgt := 2634) dL_law_2498 (by decide) (JL_law_2634 hc23 _ _ _ _ _ _ h)
def VL_law_2465 (d : Nat) (c23 : Nat → Nat → Nat → Nat → Int → MS → Prop) (Q : Out → MS → Prop) (x0 : Nat) (x1 : Nat) (x2 : Nat) (x3 : Nat) (x4 : Int) (x5 : Int) (t0 : Int) (t1 : Int) (t2 : Nat) (S : MS) : Prop :=
  S.K t2 = 11 ∧ Mw hX11_stands yX11_stands d [vA t2, vI t1, vI t0] S (oI (fun r1 S1 => S1.K x2 = 11 ∧ Mw hX11_thrown yX11_thrown d [vA x2] S1 (oI (fun r2 S2 => (R32 r2 ∧ R32 x5) ∧ ((r2 = x5) → R32 x5 ∧ (¬ (x5 = 0) → VL_law_2498 d c23 Q x0 x1 x2 x3 x4 S2) ∧ ((x5 = 0) → (S2.K x3 = 14 ∧ 0 ≤ (0 : Int) ∧ (0 : Int) < S2.N x3) ∧ (R32 (lCmp (S2.J x3 ((0 : Int)).toNat) (i2L r1)) ∧ (((lCmp (S2.J x3 ((0 : Int)).toNat) (i2L r1)) = 0) → VL_law_2498 d c23 Q x0 x1 x2 x3 x4 S2) ∧ (¬ ((lCmp (S2.J x3 ((0 : Int)).toNat) (i2L r1)) = 0) → (0 : Int) = 1 ∧ Q (.inl (some (vI 0))) S2)))) ∧ (¬ (r2 = x5) → (0 : Int) = 1 ∧ Q (.inl (some (vI 0))) S2)))))
theorem JL_law_2465 {d : Nat} {c23 : Nat → Nat → Nat → Nat → Int → MS → Prop} {S0 : MS} {Q : Out → MS → Prop} (hc23 : ∀ (x0 : Nat) (x1 : Nat) (x2 : Nat) (x3 : Nat) (x4 : Int) (S : MS), c23 x0 x1 x2 x3 x4 S → Jw FinW RL cL_law 7 (some .boolean) [] yL_law (d + 1) S0 S 23 [(0, vA x0), (1, vA x1), (2, vA x2), (3, vA x3), (4, vI x4)] [] Q) (x0 : Nat) (x1 : Nat) (x2 : Nat) (x3 : Nat) (x4 : Int) (x5 : Int) (t0 : Int) (t1 : Int) (t2 : Nat) (S : MS) (h : VL_law_2465 d c23 Q x0 x1 x2 x3 x4 x5 t0 t1 t2 S) : Jw FinW RL cL_law 7 (some .boolean) [] yL_law (d + 1) S0 S 2465 [(0, vA x0), (1, vA x1), (2, vA x2), (3, vA x3), (4, vI x4), (5, vI x5)] [vI t0, vI t1, vA t2] Q :=
  j_callV (rest := []) 11 [vI t1, vI t0] k_RL_291 ⟨w_8_201, w_8_202⟩ ⟨_, _, rfl⟩ (by decide) rfl rfl (Nat.le_of_ble_eq_true rfl) dL_law_2465 h (kI (fun r1 S1 h => j_istore (lv2 := [(6, vI r1), (0, vA x0), (1, vA x1), (2, vA x2), (3, vA x3), (4, vI x4), (5, vI x5)]) dL_law_2468 (by decide) rfl (j_aload_n 3 dL_law_2470 rfl (j_callV (rest := []) 11 [] k_RL_142 ⟨w_6_210, w_6_211⟩ ⟨_, _, rfl⟩ (by decide) rfl rfl (Nat.le_of_ble_eq_true rfl) dL_law_2471 h (kI (fun r2 S2 h => j_iload 6 dL_law_2474 rfl (j_icmp_eq (tgt := 2481) dL_law_2476 (by decide) h (fun h => j_iload 6 dL_law_2481 rfl (j_if_ne (tgt := 2498) dL_law_2483 (by decide) h (fun h => j_sub [1, 2, 3, 4, 5] rfl (JL_law_2498 hc23 _ _ _ _ _ _ h)) (fun h => j_aload_n 4 dL_law_2486 rfl (j_iconst dL_law_2487 (j_lald dL_law_2488 h (fun h => j_iload 0 dL_law_2489 rfl (j_i2l dL_law_2491 (j_lcmp dL_law_2492 (j_if_eq (tgt := 2498) dL_law_2493 (by decide) h (fun h => j_sub [1, 2, 3, 4, 5] rfl (JL_law_2498 hc23 _ _ _ _ _ _ h)) (fun h => j_iconst dL_law_2496 (j_lawretM dL_law_2497 h))))))))))) (fun h => j_iconst dL_law_2479 (j_lawretM dL_law_2480 h))))) (fun _ _ h => h.elim))))) (fun _ _ h => h.elim)
def VL_law_2438 (d : Nat) (c23 : Nat → Nat → Nat → Nat → Int → MS → Prop) (Q : Out → MS → Prop) (x0 : Nat) (x1 : Nat) (x2 : Nat) (x3 : Nat) (x4 : Int) (t0 : Int) (t1 : Int) (t2 : Nat) (S : MS) : Prop :=
  Mw hL_stands yL_stands d [vA t2, vI t1, vI t0, vA x3] S (oI (fun r1 S1 => ((x0 = S1.T 16 ∧ S1.T 17 < 2147483648) ∧ 0 ≤ (x4 + 1) ∧ (x4 + 1) < S1.T 17) ∧ (((x0 = S1.T 16 ∧ S1.T 17 < 2147483648) ∧ 0 ≤ (x4 + 2) ∧ (x4 + 2) < S1.T 17) ∧ (R32 (scr S1 (x4 + 2)) ∧ (((scr S1 (x4 + 2)) = 0) → VL_law_2465 d c23 Q x0 x1 x2 x3 x4 r1 0 (scr S1 (x4 + 1)) x2 S1) ∧ (¬ ((scr S1 (x4 + 2)) = 0) → VL_law_2465 d c23 Q x0 x1 x2 x3 x4 r1 1 (scr S1 (x4 + 1)) x2 S1)))))
theorem JL_law_2438 {d : Nat} {c23 : Nat → Nat → Nat → Nat → Int → MS → Prop} {S0 : MS} {Q : Out → MS → Prop} (hc23 : ∀ (x0 : Nat) (x1 : Nat) (x2 : Nat) (x3 : Nat) (x4 : Int) (S : MS), c23 x0 x1 x2 x3 x4 S → Jw FinW RL cL_law 7 (some .boolean) [] yL_law (d + 1) S0 S 23 [(0, vA x0), (1, vA x1), (2, vA x2), (3, vA x3), (4, vI x4)] [] Q) (x0 : Nat) (x1 : Nat) (x2 : Nat) (x3 : Nat) (x4 : Int) (t0 : Int) (t1 : Int) (t2 : Nat) (S : MS) (h : VL_law_2438 d c23 Q x0 x1 x2 x3 x4 t0 t1 t2 S) : Jw FinW RL cL_law 7 (some .boolean) [] yL_law (d + 1) S0 S 2438 [(0, vA x0), (1, vA x1), (2, vA x2), (3, vA x3), (4, vI x4)] [vI t0, vI t1, vA t2] Q :=
  j_aload_n 3 dL_law_2438 rfl (j_callSW (rest := []) [vA t2, vI t1, vI t0, vA x3] k_RL_289 w_6_193 rfl rfl (Nat.le_of_ble_eq_true rfl) dL_law_2439 h (kI (fun r1 S1 h => j_istore (lv2 := [(5, vI r1), (0, vA x0), (1, vA x1), (2, vA x2), (3, vA x3), (4, vI x4)]) dL_law_2442 (by decide) rfl (j_aload_n 3 dL_law_2444 rfl (j_aload_n 1 dL_law_2445 rfl (j_iload 5 dL_law_2446 rfl (j_iconst dL_law_2448 (j_iadd dL_law_2449 (j_sld dL_law_2450 h (fun h => j_aload_n 1 dL_law_2451 rfl (j_iload 5 dL_law_2452 rfl (j_iconst dL_law_2454 (j_iadd dL_law_2455 (j_sld dL_law_2456 h (fun h => j_if_eq (tgt := 2464) dL_law_2457 (by decide) h (fun h => j_iconst dL_law_2464 (j_sub [1, 2, 3, 4, 5, 0] rfl (JL_law_2465 hc23 _ _ _ _ _ _ _ _ _ _ h))) (fun h => j_iconst dL_law_2460 (j_goto (tgt := 2465) dL_law_2461 (by decide) (j_sub [1, 2, 3, 4, 5, 0] rfl (JL_law_2465 hc23 _ _ _ _ _ _ _ _ _ _ h)))))))))))))))))))
def VL_law_2582 (d : Nat) (c23 : Nat → Nat → Nat → Nat → Int → MS → Prop) (Q : Out → MS → Prop) (x0 : Nat) (x1 : Nat) (x2 : Nat) (x3 : Nat) (x4 : Int) (S : MS) : Prop :=
  VL_law_2634 d c23 Q x0 x1 x2 x3 x4 S
theorem JL_law_2582 {d : Nat} {c23 : Nat → Nat → Nat → Nat → Int → MS → Prop} {S0 : MS} {Q : Out → MS → Prop} (hc23 : ∀ (x0 : Nat) (x1 : Nat) (x2 : Nat) (x3 : Nat) (x4 : Int) (S : MS), c23 x0 x1 x2 x3 x4 S → Jw FinW RL cL_law 7 (some .boolean) [] yL_law (d + 1) S0 S 23 [(0, vA x0), (1, vA x1), (2, vA x2), (3, vA x3), (4, vI x4)] [] Q) (x0 : Nat) (x1 : Nat) (x2 : Nat) (x3 : Nat) (x4 : Int) (S : MS) (h : VL_law_2582 d c23 Q x0 x1 x2 x3 x4 S) : Jw FinW RL cL_law 7 (some .boolean) [] yL_law (d + 1) S0 S 2582 [(0, vA x0), (1, vA x1), (2, vA x2), (3, vA x3), (4, vI x4)] [] Q :=
  j_goto (tgt := 2634) dL_law_2582 (by decide) (JL_law_2634 hc23 _ _ _ _ _ _ h)
def VL_law_2549 (d : Nat) (c23 : Nat → Nat → Nat → Nat → Int → MS → Prop) (Q : Out → MS → Prop) (x0 : Nat) (x1 : Nat) (x2 : Nat) (x3 : Nat) (x4 : Int) (x5 : Int) (t0 : Int) (t1 : Int) (t2 : Nat) (S : MS) : Prop :=
  S.K t2 = 11 ∧ Mw hX11_laid yX11_laid d [vA t2, vI t1, vI t0] S (oI (fun r1 S1 => S1.K x2 = 11 ∧ Mw hX11_thrown yX11_thrown d [vA x2] S1 (oI (fun r2 S2 => (R32 r2 ∧ R32 x5) ∧ ((r2 = x5) → R32 x5 ∧ (¬ (x5 = 0) → VL_law_2582 d c23 Q x0 x1 x2 x3 x4 S2) ∧ ((x5 = 0) → (S2.K x3 = 14 ∧ 0 ≤ (0 : Int) ∧ (0 : Int) < S2.N x3) ∧ (R32 (lCmp (S2.J x3 ((0 : Int)).toNat) (i2L r1)) ∧ (((lCmp (S2.J x3 ((0 : Int)).toNat) (i2L r1)) = 0) → VL_law_2582 d c23 Q x0 x1 x2 x3 x4 S2) ∧ (¬ ((lCmp (S2.J x3 ((0 : Int)).toNat) (i2L r1)) = 0) → (0 : Int) = 1 ∧ Q (.inl (some (vI 0))) S2)))) ∧ (¬ (r2 = x5) → (0 : Int) = 1 ∧ Q (.inl (some (vI 0))) S2)))))
theorem JL_law_2549 {d : Nat} {c23 : Nat → Nat → Nat → Nat → Int → MS → Prop} {S0 : MS} {Q : Out → MS → Prop} (hc23 : ∀ (x0 : Nat) (x1 : Nat) (x2 : Nat) (x3 : Nat) (x4 : Int) (S : MS), c23 x0 x1 x2 x3 x4 S → Jw FinW RL cL_law 7 (some .boolean) [] yL_law (d + 1) S0 S 23 [(0, vA x0), (1, vA x1), (2, vA x2), (3, vA x3), (4, vI x4)] [] Q) (x0 : Nat) (x1 : Nat) (x2 : Nat) (x3 : Nat) (x4 : Int) (x5 : Int) (t0 : Int) (t1 : Int) (t2 : Nat) (S : MS) (h : VL_law_2549 d c23 Q x0 x1 x2 x3 x4 x5 t0 t1 t2 S) : Jw FinW RL cL_law 7 (some .boolean) [] yL_law (d + 1) S0 S 2549 [(0, vA x0), (1, vA x1), (2, vA x2), (3, vA x3), (4, vI x4), (5, vI x5)] [vI t0, vI t1, vA t2] Q :=
  j_callV (rest := []) 11 [vI t1, vI t0] k_RL_294 ⟨w_8_205, w_8_206⟩ ⟨_, _, rfl⟩ (by decide) rfl rfl (Nat.le_of_ble_eq_true rfl) dL_law_2549 h (kI (fun r1 S1 h => j_istore (lv2 := [(6, vI r1), (0, vA x0), (1, vA x1), (2, vA x2), (3, vA x3), (4, vI x4), (5, vI x5)]) dL_law_2552 (by decide) rfl (j_aload_n 3 dL_law_2554 rfl (j_callV (rest := []) 11 [] k_RL_142 ⟨w_6_210, w_6_211⟩ ⟨_, _, rfl⟩ (by decide) rfl rfl (Nat.le_of_ble_eq_true rfl) dL_law_2555 h (kI (fun r2 S2 h => j_iload 6 dL_law_2558 rfl (j_icmp_eq (tgt := 2565) dL_law_2560 (by decide) h (fun h => j_iload 6 dL_law_2565 rfl (j_if_ne (tgt := 2582) dL_law_2567 (by decide) h (fun h => j_sub [1, 2, 3, 4, 5] rfl (JL_law_2582 hc23 _ _ _ _ _ _ h)) (fun h => j_aload_n 4 dL_law_2570 rfl (j_iconst dL_law_2571 (j_lald dL_law_2572 h (fun h => j_iload 0 dL_law_2573 rfl (j_i2l dL_law_2575 (j_lcmp dL_law_2576 (j_if_eq (tgt := 2582) dL_law_2577 (by decide) h (fun h => j_sub [1, 2, 3, 4, 5] rfl (JL_law_2582 hc23 _ _ _ _ _ _ h)) (fun h => j_iconst dL_law_2580 (j_lawretM dL_law_2581 h))))))))))) (fun h => j_iconst dL_law_2563 (j_lawretM dL_law_2564 h))))) (fun _ _ h => h.elim))))) (fun _ _ h => h.elim)
def VL_law_2522 (d : Nat) (c23 : Nat → Nat → Nat → Nat → Int → MS → Prop) (Q : Out → MS → Prop) (x0 : Nat) (x1 : Nat) (x2 : Nat) (x3 : Nat) (x4 : Int) (t0 : Int) (t1 : Int) (t2 : Nat) (S : MS) : Prop :=
  Mw hL_laid yL_laid d [vA t2, vI t1, vI t0, vA x3] S (oI (fun r1 S1 => ((x0 = S1.T 16 ∧ S1.T 17 < 2147483648) ∧ 0 ≤ (x4 + 1) ∧ (x4 + 1) < S1.T 17) ∧ (((x0 = S1.T 16 ∧ S1.T 17 < 2147483648) ∧ 0 ≤ (x4 + 2) ∧ (x4 + 2) < S1.T 17) ∧ (R32 (scr S1 (x4 + 2)) ∧ (((scr S1 (x4 + 2)) = 0) → VL_law_2549 d c23 Q x0 x1 x2 x3 x4 r1 0 (scr S1 (x4 + 1)) x2 S1) ∧ (¬ ((scr S1 (x4 + 2)) = 0) → VL_law_2549 d c23 Q x0 x1 x2 x3 x4 r1 1 (scr S1 (x4 + 1)) x2 S1)))))
theorem JL_law_2522 {d : Nat} {c23 : Nat → Nat → Nat → Nat → Int → MS → Prop} {S0 : MS} {Q : Out → MS → Prop} (hc23 : ∀ (x0 : Nat) (x1 : Nat) (x2 : Nat) (x3 : Nat) (x4 : Int) (S : MS), c23 x0 x1 x2 x3 x4 S → Jw FinW RL cL_law 7 (some .boolean) [] yL_law (d + 1) S0 S 23 [(0, vA x0), (1, vA x1), (2, vA x2), (3, vA x3), (4, vI x4)] [] Q) (x0 : Nat) (x1 : Nat) (x2 : Nat) (x3 : Nat) (x4 : Int) (t0 : Int) (t1 : Int) (t2 : Nat) (S : MS) (h : VL_law_2522 d c23 Q x0 x1 x2 x3 x4 t0 t1 t2 S) : Jw FinW RL cL_law 7 (some .boolean) [] yL_law (d + 1) S0 S 2522 [(0, vA x0), (1, vA x1), (2, vA x2), (3, vA x3), (4, vI x4)] [vI t0, vI t1, vA t2] Q :=
  j_aload_n 3 dL_law_2522 rfl (j_callSW (rest := []) [vA t2, vI t1, vI t0, vA x3] k_RL_292 w_6_203 rfl rfl (Nat.le_of_ble_eq_true rfl) dL_law_2523 h (kI (fun r1 S1 h => j_istore (lv2 := [(5, vI r1), (0, vA x0), (1, vA x1), (2, vA x2), (3, vA x3), (4, vI x4)]) dL_law_2526 (by decide) rfl (j_aload_n 3 dL_law_2528 rfl (j_aload_n 1 dL_law_2529 rfl (j_iload 5 dL_law_2530 rfl (j_iconst dL_law_2532 (j_iadd dL_law_2533 (j_sld dL_law_2534 h (fun h => j_aload_n 1 dL_law_2535 rfl (j_iload 5 dL_law_2536 rfl (j_iconst dL_law_2538 (j_iadd dL_law_2539 (j_sld dL_law_2540 h (fun h => j_if_eq (tgt := 2548) dL_law_2541 (by decide) h (fun h => j_iconst dL_law_2548 (j_sub [1, 2, 3, 4, 5, 0] rfl (JL_law_2549 hc23 _ _ _ _ _ _ _ _ _ _ h))) (fun h => j_iconst dL_law_2544 (j_goto (tgt := 2549) dL_law_2545 (by decide) (j_sub [1, 2, 3, 4, 5, 0] rfl (JL_law_2549 hc23 _ _ _ _ _ _ _ _ _ _ h)))))))))))))))))))
def VL_law_23 (d : Nat) (Q : Out → MS → Prop) : Nat → Nat → Nat → Nat → Nat → Int → MS → Prop
  | 0, _, _, _, _, _, _ => False
  | n + 1, x0, x1, x2, x3, x4, S => (x0 = S.T 16 ∧ S.T 17 < 2147483648) ∧ ((R32 x4 ∧ R32 (((S.T 17 : Int)) - 6)) ∧ (((((S.T 17 : Int)) - 6) < x4) → (1 : Int) = 1 ∧ Q (.inl (some (vI 1))) S) ∧ (¬ ((((S.T 17 : Int)) - 6) < x4) → ((x0 = S.T 16 ∧ S.T 17 < 2147483648) ∧ 0 ≤ x4 ∧ x4 < S.T 17) ∧ (R32 (iAnd (scr S x4) 63) ∧ (((iAnd (scr S x4) 63) = 0 → ((x0 = S.T 16 ∧ S.T 17 < 2147483648) ∧ 0 ≤ (x4 + 1) ∧ (x4 + 1) < S.T 17) ∧ (((x0 = S.T 16 ∧ S.T 17 < 2147483648) ∧ 0 ≤ (x4 + 2) ∧ (x4 + 2) < S.T 17) ∧ (((x0 = S.T 16 ∧ S.T 17 < 2147483648) ∧ 0 ≤ (x4 + 3) ∧ (x4 + 3) < S.T 17) ∧ (((x0 = S.T 16 ∧ S.T 17 < 2147483648) ∧ 0 ≤ (x4 + 4) ∧ (x4 + 4) < S.T 17) ∧ (((x0 = S.T 16 ∧ S.T 17 < 2147483648) ∧ 0 ≤ (x4 + 5) ∧ (x4 + 5) < S.T 17) ∧ (S.K x1 = 10 ∧ Mw hX10_feed yX10_feed d [vA x1, vI (scr S (x4 + 1)), vI (scr S (x4 + 2)), vI (scr S (x4 + 3)), vI (scr S (x4 + 4)), vI (scr S (x4 + 5))] S (oI (fun r1 S1 => ((x0 = S1.T 16 ∧ S1.T 17 < 2147483648) ∧ 0 ≤ (x4 + 1) ∧ (x4 + 1) < S1.T 17) ∧ (((x0 = S1.T 16 ∧ S1.T 17 < 2147483648) ∧ 0 ≤ (x4 + 2) ∧ (x4 + 2) < S1.T 17) ∧ (((x0 = S1.T 16 ∧ S1.T 17 < 2147483648) ∧ 0 ≤ (x4 + 3) ∧ (x4 + 3) < S1.T 17) ∧ (((x0 = S1.T 16 ∧ S1.T 17 < 2147483648) ∧ 0 ≤ (x4 + 4) ∧ (x4 + 4) < S1.T 17) ∧ (((x0 = S1.T 16 ∧ S1.T 17 < 2147483648) ∧ 0 ≤ (x4 + 5) ∧ (x4 + 5) < S1.T 17) ∧ (S1.K x2 = 11 ∧ Mw hX11_feed yX11_feed d [vA x2, vI (scr S1 (x4 + 1)), vI (scr S1 (x4 + 2)), vI (scr S1 (x4 + 3)), vI (scr S1 (x4 + 4)), vI (scr S1 (x4 + 5))] S1 (oI (fun r2 S2 => (R32 r1 ∧ R32 r2) ∧ ((r1 = r2) → VL_law_2634 d (VL_law_23 d Q n) Q x0 x1 x2 x3 x4 S2) ∧ (¬ (r1 = r2) → (0 : Int) = 1 ∧ Q (.inl (some (vI 0))) S2)))))))))))))))) ∧ (((iAnd (scr S x4) 63) = 1 → ((x0 = S.T 16 ∧ S.T 17 < 2147483648) ∧ 0 ≤ (x4 + 1) ∧ (x4 + 1) < S.T 17) ∧ (S.K x1 = 10 ∧ Mw hX10_end yX10_end d [vA x1, vI (scr S (x4 + 1))] S (oI (fun r3 S3 => ((x0 = S3.T 16 ∧ S3.T 17 < 2147483648) ∧ 0 ≤ (x4 + 1) ∧ (x4 + 1) < S3.T 17) ∧ (S3.K x2 = 11 ∧ Mw hX11_end yX11_end d [vA x2, vI (scr S3 (x4 + 1))] S3 (oI (fun r4 S4 => (R32 r3 ∧ R32 r4) ∧ ((r3 = r4) → VL_law_2634 d (VL_law_23 d Q n) Q x0 x1 x2 x3 x4 S4) ∧ (¬ (r3 = r4) → (0 : Int) = 1 ∧ Q (.inl (some (vI 0))) S4)))))))) ∧ (((iAnd (scr S x4) 63) = 2 → Mw hL_shed yL_shed d [vA x1, vA x3] S (oI (fun r5 S5 => S5.K x2 = 11 ∧ Mw hX11_shed yX11_shed d [vA x2] S5 (oI (fun r6 S6 => S6.K x2 = 11 ∧ Mw hX11_thrown yX11_thrown d [vA x2] S6 (oI (fun r7 S7 => (R32 r7 ∧ R32 r5) ∧ ((r7 = r5) → R32 r5 ∧ (¬ (r5 = 0) → VL_law_391 d (VL_law_23 d Q n) Q x0 x1 x2 x3 x4 S7) ∧ ((r5 = 0) → (S7.K x3 = 14 ∧ 0 ≤ (0 : Int) ∧ (0 : Int) < S7.N x3) ∧ (R32 (lCmp (S7.J x3 ((0 : Int)).toNat) (i2L r6)) ∧ (((lCmp (S7.J x3 ((0 : Int)).toNat) (i2L r6)) = 0) → VL_law_391 d (VL_law_23 d Q n) Q x0 x1 x2 x3 x4 S7) ∧ (¬ ((lCmp (S7.J x3 ((0 : Int)).toNat) (i2L r6)) = 0) → (0 : Int) = 1 ∧ Q (.inl (some (vI 0))) S7)))) ∧ (¬ (r7 = r5) → (0 : Int) = 1 ∧ Q (.inl (some (vI 0))) S7)))))))) ∧ (((iAnd (scr S x4) 63) = 3 → S.K x1 = 10 ∧ Mw hX10_fault yX10_fault d [vA x1] S (oI (fun r8 S8 => S8.K x2 = 11 ∧ Mw hX11_fault yX11_fault d [vA x2] S8 (oI (fun r9 S9 => (R32 r8 ∧ R32 r9) ∧ ((r8 = r9) → VL_law_2634 d (VL_law_23 d Q n) Q x0 x1 x2 x3 x4 S9) ∧ (¬ (r8 = r9) → (0 : Int) = 1 ∧ Q (.inl (some (vI 0))) S9)))))) ∧ (((iAnd (scr S x4) 63) = 4 → ((x0 = S.T 16 ∧ S.T 17 < 2147483648) ∧ 0 ≤ (x4 + 1) ∧ (x4 + 1) < S.T 17) ∧ (Mw hL_things yL_things d [vA x1, vI (scr S (x4 + 1))] S (oI (fun r10 S10 => ((x0 = S10.T 16 ∧ S10.T 17 < 2147483648) ∧ 0 ≤ (x4 + 1) ∧ (x4 + 1) < S10.T 17) ∧ (S10.K x2 = 11 ∧ Mw hX11_things_ yX11_things_ d [vA x2, vI (scr S10 (x4 + 1))] S10 (oV (fun S11 => S11.K x2 = 11 ∧ Mw hX11_thrown yX11_thrown d [vA x2] S11 (oI (fun r12 S12 => (R32 r12 ∧ R32 r10) ∧ ((r12 = r10) → VL_law_2634 d (VL_law_23 d Q n) Q x0 x1 x2 x3 x4 S12) ∧ (¬ (r12 = r10) → (0 : Int) = 1 ∧ Q (.inl (some (vI 0))) S12)))))))))) ∧ (((iAnd (scr S x4) 63) = 5 → ((x0 = S.T 16 ∧ S.T 17 < 2147483648) ∧ 0 ≤ (x4 + 1) ∧ (x4 + 1) < S.T 17) ∧ (((x0 = S.T 16 ∧ S.T 17 < 2147483648) ∧ 0 ≤ (x4 + 2) ∧ (x4 + 2) < S.T 17) ∧ (((x0 = S.T 16 ∧ S.T 17 < 2147483648) ∧ 0 ≤ (x4 + 3) ∧ (x4 + 3) < S.T 17) ∧ (Mw hL_scale yL_scale d [vA x1, vI (scr S (x4 + 1)), vI (scr S (x4 + 2)), vI (scr S (x4 + 3)), vA x3] S (oI (fun r13 S13 => ((x0 = S13.T 16 ∧ S13.T 17 < 2147483648) ∧ 0 ≤ (x4 + 1) ∧ (x4 + 1) < S13.T 17) ∧ (((x0 = S13.T 16 ∧ S13.T 17 < 2147483648) ∧ 0 ≤ (x4 + 2) ∧ (x4 + 2) < S13.T 17) ∧ (((x0 = S13.T 16 ∧ S13.T 17 < 2147483648) ∧ 0 ≤ (x4 + 3) ∧ (x4 + 3) < S13.T 17) ∧ (S13.K x2 = 11 ∧ Mw hX11_scale yX11_scale d [vA x2, vI (scr S13 (x4 + 1)), vI (scr S13 (x4 + 2)), vI (scr S13 (x4 + 3))] S13 (oI (fun r14 S14 => S14.K x2 = 11 ∧ Mw hX11_thrown yX11_thrown d [vA x2] S14 (oI (fun r15 S15 => (R32 r15 ∧ R32 r13) ∧ ((r15 = r13) → R32 r13 ∧ (¬ (r13 = 0) → VL_law_520 d (VL_law_23 d Q n) Q x0 x1 x2 x3 x4 S15) ∧ ((r13 = 0) → (S15.K x3 = 14 ∧ 0 ≤ (0 : Int) ∧ (0 : Int) < S15.N x3) ∧ (R32 (lCmp (S15.J x3 ((0 : Int)).toNat) (i2L r14)) ∧ (((lCmp (S15.J x3 ((0 : Int)).toNat) (i2L r14)) = 0) → VL_law_520 d (VL_law_23 d Q n) Q x0 x1 x2 x3 x4 S15) ∧ (¬ ((lCmp (S15.J x3 ((0 : Int)).toNat) (i2L r14)) = 0) → (0 : Int) = 1 ∧ Q (.inl (some (vI 0))) S15)))) ∧ (¬ (r15 = r13) → (0 : Int) = 1 ∧ Q (.inl (some (vI 0))) S15)))))))))))))) ∧ (((iAnd (scr S x4) 63) = 6 → ((x0 = S.T 16 ∧ S.T 17 < 2147483648) ∧ 0 ≤ (x4 + 1) ∧ (x4 + 1) < S.T 17) ∧ (((x0 = S.T 16 ∧ S.T 17 < 2147483648) ∧ 0 ≤ (x4 + 2) ∧ (x4 + 2) < S.T 17) ∧ (Mw hL_weight yL_weight d [vA x1, vI (scr S (x4 + 1)), vI (scr S (x4 + 2)), vA x3] S (oI (fun r16 S16 => ((x0 = S16.T 16 ∧ S16.T 17 < 2147483648) ∧ 0 ≤ (x4 + 1) ∧ (x4 + 1) < S16.T 17) ∧ (((x0 = S16.T 16 ∧ S16.T 17 < 2147483648) ∧ 0 ≤ (x4 + 2) ∧ (x4 + 2) < S16.T 17) ∧ (S16.K x2 = 11 ∧ Mw hX11_weight yX11_weight d [vA x2, vI (scr S16 (x4 + 1)), vI (scr S16 (x4 + 2))] S16 (oI (fun r17 S17 => S17.K x2 = 11 ∧ Mw hX11_thrown yX11_thrown d [vA x2] S17 (oI (fun r18 S18 => (R32 r18 ∧ R32 r16) ∧ ((r18 = r16) → R32 r16 ∧ (¬ (r16 = 0) → VL_law_588 d (VL_law_23 d Q n) Q x0 x1 x2 x3 x4 S18) ∧ ((r16 = 0) → (S18.K x3 = 14 ∧ 0 ≤ (0 : Int) ∧ (0 : Int) < S18.N x3) ∧ (R32 (lCmp (S18.J x3 ((0 : Int)).toNat) (i2L r17)) ∧ (((lCmp (S18.J x3 ((0 : Int)).toNat) (i2L r17)) = 0) → VL_law_588 d (VL_law_23 d Q n) Q x0 x1 x2 x3 x4 S18) ∧ (¬ ((lCmp (S18.J x3 ((0 : Int)).toNat) (i2L r17)) = 0) → (0 : Int) = 1 ∧ Q (.inl (some (vI 0))) S18)))) ∧ (¬ (r18 = r16) → (0 : Int) = 1 ∧ Q (.inl (some (vI 0))) S18)))))))))))) ∧ (((iAnd (scr S x4) 63) = 7 → ((x0 = S.T 16 ∧ S.T 17 < 2147483648) ∧ 0 ≤ (x4 + 1) ∧ (x4 + 1) < S.T 17) ∧ (((x0 = S.T 16 ∧ S.T 17 < 2147483648) ∧ 0 ≤ (x4 + 2) ∧ (x4 + 2) < S.T 17) ∧ (Mw hL_rises yL_rises d [vA x1, vI (scr S (x4 + 1)), vI (scr S (x4 + 2)), vA x3] S (oI (fun r19 S19 => ((x0 = S19.T 16 ∧ S19.T 17 < 2147483648) ∧ 0 ≤ (x4 + 1) ∧ (x4 + 1) < S19.T 17) ∧ (((x0 = S19.T 16 ∧ S19.T 17 < 2147483648) ∧ 0 ≤ (x4 + 2) ∧ (x4 + 2) < S19.T 17) ∧ (S19.K x2 = 11 ∧ Mw hX11_rises yX11_rises d [vA x2, vI (scr S19 (x4 + 1)), vI (scr S19 (x4 + 2))] S19 (oI (fun r20 S20 => S20.K x2 = 11 ∧ Mw hX11_thrown yX11_thrown d [vA x2] S20 (oI (fun r21 S21 => (R32 r21 ∧ R32 r19) ∧ ((r21 = r19) → R32 r19 ∧ (¬ (r19 = 0) → VL_law_656 d (VL_law_23 d Q n) Q x0 x1 x2 x3 x4 S21) ∧ ((r19 = 0) → (S21.K x3 = 14 ∧ 0 ≤ (0 : Int) ∧ (0 : Int) < S21.N x3) ∧ (R32 (lCmp (S21.J x3 ((0 : Int)).toNat) (i2L r20)) ∧ (((lCmp (S21.J x3 ((0 : Int)).toNat) (i2L r20)) = 0) → VL_law_656 d (VL_law_23 d Q n) Q x0 x1 x2 x3 x4 S21) ∧ (¬ ((lCmp (S21.J x3 ((0 : Int)).toNat) (i2L r20)) = 0) → (0 : Int) = 1 ∧ Q (.inl (some (vI 0))) S21)))) ∧ (¬ (r21 = r19) → (0 : Int) = 1 ∧ Q (.inl (some (vI 0))) S21)))))))))))) ∧ (((iAnd (scr S x4) 63) = 8 → ((x0 = S.T 16 ∧ S.T 17 < 2147483648) ∧ 0 ≤ (x4 + 1) ∧ (x4 + 1) < S.T 17) ∧ (((x0 = S.T 16 ∧ S.T 17 < 2147483648) ∧ 0 ≤ (x4 + 2) ∧ (x4 + 2) < S.T 17) ∧ (((x0 = S.T 16 ∧ S.T 17 < 2147483648) ∧ 0 ≤ (x4 + 3) ∧ (x4 + 3) < S.T 17) ∧ (Mw hL_note yL_note d [vA x1, vI (scr S (x4 + 1)), vI (scr S (x4 + 2)), vI (scr S (x4 + 3)), vA x3] S (oI (fun r22 S22 => ((x0 = S22.T 16 ∧ S22.T 17 < 2147483648) ∧ 0 ≤ (x4 + 1) ∧ (x4 + 1) < S22.T 17) ∧ (((x0 = S22.T 16 ∧ S22.T 17 < 2147483648) ∧ 0 ≤ (x4 + 2) ∧ (x4 + 2) < S22.T 17) ∧ (((x0 = S22.T 16 ∧ S22.T 17 < 2147483648) ∧ 0 ≤ (x4 + 3) ∧ (x4 + 3) < S22.T 17) ∧ (S22.K x2 = 11 ∧ Mw hX11_note yX11_note d [vA x2, vI (scr S22 (x4 + 1)), vI (scr S22 (x4 + 2)), vI (scr S22 (x4 + 3))] S22 (oI (fun r23 S23 => S23.K x2 = 11 ∧ Mw hX11_thrown yX11_thrown d [vA x2] S23 (oI (fun r24 S24 => (R32 r24 ∧ R32 r22) ∧ ((r24 = r22) → R32 r22 ∧ (¬ (r22 = 0) → VL_law_736 d (VL_law_23 d Q n) Q x0 x1 x2 x3 x4 S24) ∧ ((r22 = 0) → (S24.K x3 = 14 ∧ 0 ≤ (0 : Int) ∧ (0 : Int) < S24.N x3) ∧ (R32 (lCmp (S24.J x3 ((0 : Int)).toNat) (i2L r23)) ∧ (((lCmp (S24.J x3 ((0 : Int)).toNat) (i2L r23)) = 0) → VL_law_736 d (VL_law_23 d Q n) Q x0 x1 x2 x3 x4 S24) ∧ (¬ ((lCmp (S24.J x3 ((0 : Int)).toNat) (i2L r23)) = 0) → (0 : Int) = 1 ∧ Q (.inl (some (vI 0))) S24)))) ∧ (¬ (r24 = r22) → (0 : Int) = 1 ∧ Q (.inl (some (vI 0))) S24)))))))))))))) ∧ (((iAnd (scr S x4) 63) = 9 → ((x0 = S.T 16 ∧ S.T 17 < 2147483648) ∧ 0 ≤ (x4 + 1) ∧ (x4 + 1) < S.T 17) ∧ (((x0 = S.T 16 ∧ S.T 17 < 2147483648) ∧ 0 ≤ (x4 + 2) ∧ (x4 + 2) < S.T 17) ∧ (Mw hL_look yL_look d [vA x1, vI (scr S (x4 + 1)), vI (scr S (x4 + 2)), vA x3] S (oI (fun r25 S25 => ((x0 = S25.T 16 ∧ S25.T 17 < 2147483648) ∧ 0 ≤ (x4 + 1) ∧ (x4 + 1) < S25.T 17) ∧ (((x0 = S25.T 16 ∧ S25.T 17 < 2147483648) ∧ 0 ≤ (x4 + 2) ∧ (x4 + 2) < S25.T 17) ∧ (S25.K x2 = 11 ∧ Mw hX11_look yX11_look d [vA x2, vI (scr S25 (x4 + 1)), vI (scr S25 (x4 + 2))] S25 (oI (fun r26 S26 => S26.K x2 = 11 ∧ Mw hX11_thrown yX11_thrown d [vA x2] S26 (oI (fun r27 S27 => (R32 r27 ∧ R32 r25) ∧ ((r27 = r25) → R32 r25 ∧ (¬ (r25 = 0) → VL_law_804 d (VL_law_23 d Q n) Q x0 x1 x2 x3 x4 S27) ∧ ((r25 = 0) → (S27.K x3 = 14 ∧ 0 ≤ (0 : Int) ∧ (0 : Int) < S27.N x3) ∧ (R32 (lCmp (S27.J x3 ((0 : Int)).toNat) (i2L r26)) ∧ (((lCmp (S27.J x3 ((0 : Int)).toNat) (i2L r26)) = 0) → VL_law_804 d (VL_law_23 d Q n) Q x0 x1 x2 x3 x4 S27) ∧ (¬ ((lCmp (S27.J x3 ((0 : Int)).toNat) (i2L r26)) = 0) → (0 : Int) = 1 ∧ Q (.inl (some (vI 0))) S27)))) ∧ (¬ (r27 = r25) → (0 : Int) = 1 ∧ Q (.inl (some (vI 0))) S27)))))))))))) ∧ (((iAnd (scr S x4) 63) = 10 → ((x0 = S.T 16 ∧ S.T 17 < 2147483648) ∧ 0 ≤ (x4 + 1) ∧ (x4 + 1) < S.T 17) ∧ (Mw hL_drop yL_drop d [vA x1, vI (scr S (x4 + 1)), vA x3] S (oI (fun r28 S28 => ((x0 = S28.T 16 ∧ S28.T 17 < 2147483648) ∧ 0 ≤ (x4 + 1) ∧ (x4 + 1) < S28.T 17) ∧ (S28.K x2 = 11 ∧ Mw hX11_drop yX11_drop d [vA x2, vI (scr S28 (x4 + 1))] S28 (oI (fun r29 S29 => S29.K x2 = 11 ∧ Mw hX11_thrown yX11_thrown d [vA x2] S29 (oI (fun r30 S30 => (R32 r30 ∧ R32 r28) ∧ ((r30 = r28) → R32 r28 ∧ (¬ (r28 = 0) → VL_law_860 d (VL_law_23 d Q n) Q x0 x1 x2 x3 x4 S30) ∧ ((r28 = 0) → (S30.K x3 = 14 ∧ 0 ≤ (0 : Int) ∧ (0 : Int) < S30.N x3) ∧ (R32 (lCmp (S30.J x3 ((0 : Int)).toNat) (i2L r29)) ∧ (((lCmp (S30.J x3 ((0 : Int)).toNat) (i2L r29)) = 0) → VL_law_860 d (VL_law_23 d Q n) Q x0 x1 x2 x3 x4 S30) ∧ (¬ ((lCmp (S30.J x3 ((0 : Int)).toNat) (i2L r29)) = 0) → (0 : Int) = 1 ∧ Q (.inl (some (vI 0))) S30)))) ∧ (¬ (r30 = r28) → (0 : Int) = 1 ∧ Q (.inl (some (vI 0))) S30)))))))))) ∧ (((iAnd (scr S x4) 63) = 11 → S.K x1 = 10 ∧ Mw hX10_rows yX10_rows d [vA x1] S (oI (fun r31 S31 => S31.K x2 = 11 ∧ Mw hX11_rows yX11_rows d [vA x2] S31 (oI (fun r32 S32 => (R32 r31 ∧ R32 r32) ∧ ((r31 = r32) → VL_law_2634 d (VL_law_23 d Q n) Q x0 x1 x2 x3 x4 S32) ∧ (¬ (r31 = r32) → (0 : Int) = 1 ∧ Q (.inl (some (vI 0))) S32)))))) ∧ (((iAnd (scr S x4) 63) = 12 → ((x0 = S.T 16 ∧ S.T 17 < 2147483648) ∧ 0 ≤ (x4 + 1) ∧ (x4 + 1) < S.T 17) ∧ (((x0 = S.T 16 ∧ S.T 17 < 2147483648) ∧ 0 ≤ (x4 + 2) ∧ (x4 + 2) < S.T 17) ∧ (Mw hL_row yL_row d [vA x1, vI (scr S (x4 + 1)), vI (scr S (x4 + 2)), vA x3] S (oI (fun r33 S33 => ((x0 = S33.T 16 ∧ S33.T 17 < 2147483648) ∧ 0 ≤ (x4 + 1) ∧ (x4 + 1) < S33.T 17) ∧ (((x0 = S33.T 16 ∧ S33.T 17 < 2147483648) ∧ 0 ≤ (x4 + 2) ∧ (x4 + 2) < S33.T 17) ∧ (S33.K x2 = 11 ∧ Mw hX11_row yX11_row d [vA x2, vI (scr S33 (x4 + 1)), vI (scr S33 (x4 + 2))] S33 (oI (fun r34 S34 => S34.K x2 = 11 ∧ Mw hX11_thrown yX11_thrown d [vA x2] S34 (oI (fun r35 S35 => (R32 r35 ∧ R32 r33) ∧ ((r35 = r33) → R32 r33 ∧ (¬ (r33 = 0) → VL_law_941 d (VL_law_23 d Q n) Q x0 x1 x2 x3 x4 S35) ∧ ((r33 = 0) → (S35.K x3 = 14 ∧ 0 ≤ (0 : Int) ∧ (0 : Int) < S35.N x3) ∧ (R32 (lCmp (S35.J x3 ((0 : Int)).toNat) (i2L r34)) ∧ (((lCmp (S35.J x3 ((0 : Int)).toNat) (i2L r34)) = 0) → VL_law_941 d (VL_law_23 d Q n) Q x0 x1 x2 x3 x4 S35) ∧ (¬ ((lCmp (S35.J x3 ((0 : Int)).toNat) (i2L r34)) = 0) → (0 : Int) = 1 ∧ Q (.inl (some (vI 0))) S35)))) ∧ (¬ (r35 = r33) → (0 : Int) = 1 ∧ Q (.inl (some (vI 0))) S35)))))))))))) ∧ (((iAnd (scr S x4) 63) = 13 → Mw hL_fits yL_fits d [vA x1, vA x3] S (oI (fun r36 S36 => S36.K x2 = 11 ∧ Mw hX11_fits yX11_fits d [vA x2] S36 (oI (fun r37 S37 => S37.K x2 = 11 ∧ Mw hX11_thrown yX11_thrown d [vA x2] S37 (oI (fun r38 S38 => (R32 r38 ∧ R32 r36) ∧ ((r38 = r36) → R32 r36 ∧ (¬ (r36 = 0) → VL_law_992 d (VL_law_23 d Q n) Q x0 x1 x2 x3 x4 S38) ∧ ((r36 = 0) → (S38.K x3 = 14 ∧ 0 ≤ (0 : Int) ∧ (0 : Int) < S38.N x3) ∧ (R32 r37 ∧ ((r37 = 0) → VL_law_986 d (VL_law_23 d Q n) Q x0 x1 x2 x3 x4 (0#64) (S38.J x3 ((0 : Int)).toNat) S38) ∧ (¬ (r37 = 0) → VL_law_986 d (VL_law_23 d Q n) Q x0 x1 x2 x3 x4 (1#64) (S38.J x3 ((0 : Int)).toNat) S38)))) ∧ (¬ (r38 = r36) → (0 : Int) = 1 ∧ Q (.inl (some (vI 0))) S38)))))))) ∧ (((iAnd (scr S x4) 63) = 14 → ((x0 = S.T 16 ∧ S.T 17 < 2147483648) ∧ 0 ≤ (x4 + 1) ∧ (x4 + 1) < S.T 17) ∧ (Mw hL_may yL_may d [vA x1, vI (scr S (x4 + 1)), vA x3] S (oI (fun r39 S39 => ((x0 = S39.T 16 ∧ S39.T 17 < 2147483648) ∧ 0 ≤ (x4 + 1) ∧ (x4 + 1) < S39.T 17) ∧ (S39.K x2 = 11 ∧ Mw hX11_may yX11_may d [vA x2, vI (scr S39 (x4 + 1))] S39 (oI (fun r40 S40 => S40.K x2 = 11 ∧ Mw hX11_thrown yX11_thrown d [vA x2] S40 (oI (fun r41 S41 => (R32 r41 ∧ R32 r39) ∧ ((r41 = r39) → R32 r39 ∧ (¬ (r39 = 0) → VL_law_1048 d (VL_law_23 d Q n) Q x0 x1 x2 x3 x4 S41) ∧ ((r39 = 0) → (S41.K x3 = 14 ∧ 0 ≤ (0 : Int) ∧ (0 : Int) < S41.N x3) ∧ (R32 (lCmp (S41.J x3 ((0 : Int)).toNat) (i2L r40)) ∧ (((lCmp (S41.J x3 ((0 : Int)).toNat) (i2L r40)) = 0) → VL_law_1048 d (VL_law_23 d Q n) Q x0 x1 x2 x3 x4 S41) ∧ (¬ ((lCmp (S41.J x3 ((0 : Int)).toNat) (i2L r40)) = 0) → (0 : Int) = 1 ∧ Q (.inl (some (vI 0))) S41)))) ∧ (¬ (r41 = r39) → (0 : Int) = 1 ∧ Q (.inl (some (vI 0))) S41)))))))))) ∧ (((iAnd (scr S x4) 63) = 15 → ((x0 = S.T 16 ∧ S.T 17 < 2147483648) ∧ 0 ≤ (x4 + 1) ∧ (x4 + 1) < S.T 17) ∧ (((x0 = S.T 16 ∧ S.T 17 < 2147483648) ∧ 0 ≤ (x4 + 2) ∧ (x4 + 2) < S.T 17) ∧ (Mw hL_heavier yL_heavier d [vA x1, vI (scr S (x4 + 1)), vI (scr S (x4 + 2)), vA x3] S (oI (fun r42 S42 => ((x0 = S42.T 16 ∧ S42.T 17 < 2147483648) ∧ 0 ≤ (x4 + 1) ∧ (x4 + 1) < S42.T 17) ∧ (((x0 = S42.T 16 ∧ S42.T 17 < 2147483648) ∧ 0 ≤ (x4 + 2) ∧ (x4 + 2) < S42.T 17) ∧ (S42.K x2 = 11 ∧ Mw hX11_heavier yX11_heavier d [vA x2, vI (scr S42 (x4 + 1)), vI (scr S42 (x4 + 2))] S42 (oI (fun r43 S43 => S43.K x2 = 11 ∧ Mw hX11_thrown yX11_thrown d [vA x2] S43 (oI (fun r44 S44 => (R32 r44 ∧ R32 r42) ∧ ((r44 = r42) → R32 r42 ∧ (¬ (r42 = 0) → VL_law_1116 d (VL_law_23 d Q n) Q x0 x1 x2 x3 x4 S44) ∧ ((r42 = 0) → (S44.K x3 = 14 ∧ 0 ≤ (0 : Int) ∧ (0 : Int) < S44.N x3) ∧ (R32 (lCmp (S44.J x3 ((0 : Int)).toNat) (i2L r43)) ∧ (((lCmp (S44.J x3 ((0 : Int)).toNat) (i2L r43)) = 0) → VL_law_1116 d (VL_law_23 d Q n) Q x0 x1 x2 x3 x4 S44) ∧ (¬ ((lCmp (S44.J x3 ((0 : Int)).toNat) (i2L r43)) = 0) → (0 : Int) = 1 ∧ Q (.inl (some (vI 0))) S44)))) ∧ (¬ (r44 = r42) → (0 : Int) = 1 ∧ Q (.inl (some (vI 0))) S44)))))))))))) ∧ (((iAnd (scr S x4) 63) = 16 → ((x0 = S.T 16 ∧ S.T 17 < 2147483648) ∧ 0 ≤ (x4 + 1) ∧ (x4 + 1) < S.T 17) ∧ (Mw hL_places yL_places d [vA x1, vI (scr S (x4 + 1)), vA x3] S (oI (fun r45 S45 => ((x0 = S45.T 16 ∧ S45.T 17 < 2147483648) ∧ 0 ≤ (x4 + 1) ∧ (x4 + 1) < S45.T 17) ∧ (S45.K x2 = 11 ∧ Mw hX11_places yX11_places d [vA x2, vI (scr S45 (x4 + 1))] S45 (oI (fun r46 S46 => S46.K x2 = 11 ∧ Mw hX11_thrown yX11_thrown d [vA x2] S46 (oI (fun r47 S47 => (R32 r47 ∧ R32 r45) ∧ ((r47 = r45) → R32 r45 ∧ (¬ (r45 = 0) → VL_law_1172 d (VL_law_23 d Q n) Q x0 x1 x2 x3 x4 S47) ∧ ((r45 = 0) → (S47.K x3 = 14 ∧ 0 ≤ (0 : Int) ∧ (0 : Int) < S47.N x3) ∧ (R32 (lCmp (S47.J x3 ((0 : Int)).toNat) (i2L r46)) ∧ (((lCmp (S47.J x3 ((0 : Int)).toNat) (i2L r46)) = 0) → VL_law_1172 d (VL_law_23 d Q n) Q x0 x1 x2 x3 x4 S47) ∧ (¬ ((lCmp (S47.J x3 ((0 : Int)).toNat) (i2L r46)) = 0) → (0 : Int) = 1 ∧ Q (.inl (some (vI 0))) S47)))) ∧ (¬ (r47 = r45) → (0 : Int) = 1 ∧ Q (.inl (some (vI 0))) S47)))))))))) ∧ (((iAnd (scr S x4) 63) = 17 → S.K x1 = 10 ∧ Mw hX10_ends yX10_ends d [vA x1] S (oI (fun r48 S48 => S48.K x2 = 11 ∧ Mw hX11_ends yX11_ends d [vA x2] S48 (oI (fun r49 S49 => (R32 r48 ∧ R32 r49) ∧ ((r48 = r49) → VL_law_2634 d (VL_law_23 d Q n) Q x0 x1 x2 x3 x4 S49) ∧ (¬ (r48 = r49) → (0 : Int) = 1 ∧ Q (.inl (some (vI 0))) S49)))))) ∧ (((iAnd (scr S x4) 63) = 18 → S.K x1 = 10 ∧ Mw hX10_goose yX10_goose d [vA x1] S (oI (fun r50 S50 => S50.K x2 = 11 ∧ Mw hX11_goose yX11_goose d [vA x2] S50 (oI (fun r51 S51 => (R32 r50 ∧ R32 r51) ∧ ((r50 = r51) → VL_law_2634 d (VL_law_23 d Q n) Q x0 x1 x2 x3 x4 S51) ∧ (¬ (r50 = r51) → (0 : Int) = 1 ∧ Q (.inl (some (vI 0))) S51)))))) ∧ (((iAnd (scr S x4) 63) = 19 → S.K x1 = 10 ∧ Mw hX10_centre yX10_centre d [vA x1] S (oI (fun r52 S52 => S52.K x2 = 11 ∧ Mw hX11_centre yX11_centre d [vA x2] S52 (oI (fun r53 S53 => (R32 r52 ∧ R32 r53) ∧ ((r52 = r53) → VL_law_2634 d (VL_law_23 d Q n) Q x0 x1 x2 x3 x4 S53) ∧ (¬ (r52 = r53) → (0 : Int) = 1 ∧ Q (.inl (some (vI 0))) S53)))))) ∧ (((iAnd (scr S x4) 63) = 20 → S.K x1 = 10 ∧ Mw hX10_known yX10_known d [vA x1] S (oI (fun r54 S54 => S54.K x2 = 11 ∧ Mw hX11_known yX11_known d [vA x2] S54 (oI (fun r55 S55 => (R32 r54 ∧ R32 r55) ∧ ((r54 = r55) → VL_law_2634 d (VL_law_23 d Q n) Q x0 x1 x2 x3 x4 S55) ∧ (¬ (r54 = r55) → (0 : Int) = 1 ∧ Q (.inl (some (vI 0))) S55)))))) ∧ (((iAnd (scr S x4) 63) = 21 → S.K x1 = 10 ∧ Mw hX10_quarrels yX10_quarrels d [vA x1] S (oI (fun r56 S56 => S56.K x2 = 11 ∧ Mw hX11_quarrels yX11_quarrels d [vA x2] S56 (oI (fun r57 S57 => (R32 r56 ∧ R32 r57) ∧ ((r56 = r57) → VL_law_2634 d (VL_law_23 d Q n) Q x0 x1 x2 x3 x4 S57) ∧ (¬ (r56 = r57) → (0 : Int) = 1 ∧ Q (.inl (some (vI 0))) S57)))))) ∧ (((iAnd (scr S x4) 63) = 22 → S.K x1 = 10 ∧ Mw hX10_proof yX10_proof d [vA x1] S (oI (fun r58 S58 => S58.K x2 = 11 ∧ Mw hX11_proof yX11_proof d [vA x2] S58 (oI (fun r59 S59 => (R32 r58 ∧ R32 r59) ∧ ((r58 = r59) → VL_law_2634 d (VL_law_23 d Q n) Q x0 x1 x2 x3 x4 S59) ∧ (¬ (r58 = r59) → (0 : Int) = 1 ∧ Q (.inl (some (vI 0))) S59)))))) ∧ (((iAnd (scr S x4) 63) = 23 → S.K x1 = 10 ∧ Mw hX10_wrongly yX10_wrongly d [vA x1] S (oI (fun r60 S60 => S60.K x2 = 11 ∧ Mw hX11_wrongly yX11_wrongly d [vA x2] S60 (oI (fun r61 S61 => (R32 r60 ∧ R32 r61) ∧ ((r60 = r61) → VL_law_2634 d (VL_law_23 d Q n) Q x0 x1 x2 x3 x4 S61) ∧ (¬ (r60 = r61) → (0 : Int) = 1 ∧ Q (.inl (some (vI 0))) S61)))))) ∧ (((iAnd (scr S x4) 63) = 24 → ((x0 = S.T 16 ∧ S.T 17 < 2147483648) ∧ 0 ≤ (x4 + 1) ∧ (x4 + 1) < S.T 17) ∧ (Mw hL_mends yL_mends d [vA x1, vI (scr S (x4 + 1)), vA x3] S (oI (fun r62 S62 => ((x0 = S62.T 16 ∧ S62.T 17 < 2147483648) ∧ 0 ≤ (x4 + 1) ∧ (x4 + 1) < S62.T 17) ∧ (S62.K x2 = 11 ∧ Mw hX11_mends yX11_mends d [vA x2, vI (scr S62 (x4 + 1))] S62 (oI (fun r63 S63 => S63.K x2 = 11 ∧ Mw hX11_thrown yX11_thrown d [vA x2] S63 (oI (fun r64 S64 => (R32 r64 ∧ R32 r62) ∧ ((r64 = r62) → R32 r62 ∧ (¬ (r62 = 0) → VL_law_1319 d (VL_law_23 d Q n) Q x0 x1 x2 x3 x4 S64) ∧ ((r62 = 0) → (S64.K x3 = 14 ∧ 0 ≤ (0 : Int) ∧ (0 : Int) < S64.N x3) ∧ (R32 (lCmp (S64.J x3 ((0 : Int)).toNat) (i2L r63)) ∧ (((lCmp (S64.J x3 ((0 : Int)).toNat) (i2L r63)) = 0) → VL_law_1319 d (VL_law_23 d Q n) Q x0 x1 x2 x3 x4 S64) ∧ (¬ ((lCmp (S64.J x3 ((0 : Int)).toNat) (i2L r63)) = 0) → (0 : Int) = 1 ∧ Q (.inl (some (vI 0))) S64)))) ∧ (¬ (r64 = r62) → (0 : Int) = 1 ∧ Q (.inl (some (vI 0))) S64)))))))))) ∧ (((iAnd (scr S x4) 63) = 25 → Mw hL_nearly yL_nearly d [vA x1, vA x3] S (oI (fun r65 S65 => S65.K x2 = 11 ∧ Mw hX11_nearly yX11_nearly d [vA x2] S65 (oI (fun r66 S66 => S66.K x2 = 11 ∧ Mw hX11_thrown yX11_thrown d [vA x2] S66 (oI (fun r67 S67 => (R32 r67 ∧ R32 r65) ∧ ((r67 = r65) → R32 r65 ∧ (¬ (r65 = 0) → VL_law_1363 d (VL_law_23 d Q n) Q x0 x1 x2 x3 x4 S67) ∧ ((r65 = 0) → (S67.K x3 = 14 ∧ 0 ≤ (0 : Int) ∧ (0 : Int) < S67.N x3) ∧ (R32 (lCmp (S67.J x3 ((0 : Int)).toNat) (i2L r66)) ∧ (((lCmp (S67.J x3 ((0 : Int)).toNat) (i2L r66)) = 0) → VL_law_1363 d (VL_law_23 d Q n) Q x0 x1 x2 x3 x4 S67) ∧ (¬ ((lCmp (S67.J x3 ((0 : Int)).toNat) (i2L r66)) = 0) → (0 : Int) = 1 ∧ Q (.inl (some (vI 0))) S67)))) ∧ (¬ (r67 = r65) → (0 : Int) = 1 ∧ Q (.inl (some (vI 0))) S67)))))))) ∧ (((iAnd (scr S x4) 63) = 26 → ((x0 = S.T 16 ∧ S.T 17 < 2147483648) ∧ 0 ≤ (x4 + 1) ∧ (x4 + 1) < S.T 17) ∧ (Mw hL_votes yL_votes d [vA x1, vI (scr S (x4 + 1)), vA x3] S (oI (fun r68 S68 => ((x0 = S68.T 16 ∧ S68.T 17 < 2147483648) ∧ 0 ≤ (x4 + 1) ∧ (x4 + 1) < S68.T 17) ∧ (S68.K x2 = 11 ∧ Mw hX11_votes yX11_votes d [vA x2, vI (scr S68 (x4 + 1))] S68 (oI (fun r69 S69 => S69.K x2 = 11 ∧ Mw hX11_thrown yX11_thrown d [vA x2] S69 (oI (fun r70 S70 => (R32 r70 ∧ R32 r68) ∧ ((r70 = r68) → R32 r68 ∧ (¬ (r68 = 0) → VL_law_1419 d (VL_law_23 d Q n) Q x0 x1 x2 x3 x4 S70) ∧ ((r68 = 0) → (S70.K x3 = 14 ∧ 0 ≤ (0 : Int) ∧ (0 : Int) < S70.N x3) ∧ (R32 (lCmp (S70.J x3 ((0 : Int)).toNat) (i2L r69)) ∧ (((lCmp (S70.J x3 ((0 : Int)).toNat) (i2L r69)) = 0) → VL_law_1419 d (VL_law_23 d Q n) Q x0 x1 x2 x3 x4 S70) ∧ (¬ ((lCmp (S70.J x3 ((0 : Int)).toNat) (i2L r69)) = 0) → (0 : Int) = 1 ∧ Q (.inl (some (vI 0))) S70)))) ∧ (¬ (r70 = r68) → (0 : Int) = 1 ∧ Q (.inl (some (vI 0))) S70)))))))))) ∧ (((iAnd (scr S x4) 63) = 27 → ((x0 = S.T 16 ∧ S.T 17 < 2147483648) ∧ 0 ≤ (x4 + 1) ∧ (x4 + 1) < S.T 17) ∧ (((x0 = S.T 16 ∧ S.T 17 < 2147483648) ∧ 0 ≤ (x4 + 2) ∧ (x4 + 2) < S.T 17) ∧ (((x0 = S.T 16 ∧ S.T 17 < 2147483648) ∧ 0 ≤ (x4 + 3) ∧ (x4 + 3) < S.T 17) ∧ (R32 (scr S (x4 + 3)) ∧ (((scr S (x4 + 3)) = 0) → VL_law_1449 d (VL_law_23 d Q n) Q x0 x1 x2 x3 x4 0 (scr S (x4 + 2)) (scr S (x4 + 1)) x1 S) ∧ (¬ ((scr S (x4 + 3)) = 0) → VL_law_1449 d (VL_law_23 d Q n) Q x0 x1 x2 x3 x4 1 (scr S (x4 + 2)) (scr S (x4 + 1)) x1 S))))) ∧ (((iAnd (scr S x4) 63) = 28 → ((x0 = S.T 16 ∧ S.T 17 < 2147483648) ∧ 0 ≤ (x4 + 1) ∧ (x4 + 1) < S.T 17) ∧ (Mw hL_next yL_next d [vA x1, vI (scr S (x4 + 1)), vA x3] S (oI (fun r71 S71 => ((x0 = S71.T 16 ∧ S71.T 17 < 2147483648) ∧ 0 ≤ (x4 + 1) ∧ (x4 + 1) < S71.T 17) ∧ (S71.K x2 = 11 ∧ Mw hX11_next yX11_next d [vA x2, vI (scr S71 (x4 + 1))] S71 (oI (fun r72 S72 => S72.K x2 = 11 ∧ Mw hX11_thrown yX11_thrown d [vA x2] S72 (oI (fun r73 S73 => (R32 r73 ∧ R32 r71) ∧ ((r73 = r71) → R32 r71 ∧ (¬ (r71 = 0) → VL_law_1571 d (VL_law_23 d Q n) Q x0 x1 x2 x3 x4 S73) ∧ ((r71 = 0) → (S73.K x3 = 14 ∧ 0 ≤ (0 : Int) ∧ (0 : Int) < S73.N x3) ∧ (R32 (lCmp (S73.J x3 ((0 : Int)).toNat) (i2L r72)) ∧ (((lCmp (S73.J x3 ((0 : Int)).toNat) (i2L r72)) = 0) → VL_law_1571 d (VL_law_23 d Q n) Q x0 x1 x2 x3 x4 S73) ∧ (¬ ((lCmp (S73.J x3 ((0 : Int)).toNat) (i2L r72)) = 0) → (0 : Int) = 1 ∧ Q (.inl (some (vI 0))) S73)))) ∧ (¬ (r73 = r71) → (0 : Int) = 1 ∧ Q (.inl (some (vI 0))) S73)))))))))) ∧ (((iAnd (scr S x4) 63) = 29 → ((x0 = S.T 16 ∧ S.T 17 < 2147483648) ∧ 0 ≤ (x4 + 1) ∧ (x4 + 1) < S.T 17) ∧ (Mw hL_fewest yL_fewest d [vA x1, vI (scr S (x4 + 1)), vA x3] S (oI (fun r74 S74 => ((x0 = S74.T 16 ∧ S74.T 17 < 2147483648) ∧ 0 ≤ (x4 + 1) ∧ (x4 + 1) < S74.T 17) ∧ (S74.K x2 = 11 ∧ Mw hX11_fewest yX11_fewest d [vA x2, vI (scr S74 (x4 + 1))] S74 (oI (fun r75 S75 => S75.K x2 = 11 ∧ Mw hX11_thrown yX11_thrown d [vA x2] S75 (oI (fun r76 S76 => (R32 r76 ∧ R32 r74) ∧ ((r76 = r74) → R32 r74 ∧ (¬ (r74 = 0) → VL_law_1627 d (VL_law_23 d Q n) Q x0 x1 x2 x3 x4 S76) ∧ ((r74 = 0) → (S76.K x3 = 14 ∧ 0 ≤ (0 : Int) ∧ (0 : Int) < S76.N x3) ∧ (R32 (lCmp (S76.J x3 ((0 : Int)).toNat) (i2L r75)) ∧ (((lCmp (S76.J x3 ((0 : Int)).toNat) (i2L r75)) = 0) → VL_law_1627 d (VL_law_23 d Q n) Q x0 x1 x2 x3 x4 S76) ∧ (¬ ((lCmp (S76.J x3 ((0 : Int)).toNat) (i2L r75)) = 0) → (0 : Int) = 1 ∧ Q (.inl (some (vI 0))) S76)))) ∧ (¬ (r76 = r74) → (0 : Int) = 1 ∧ Q (.inl (some (vI 0))) S76)))))))))) ∧ (((iAnd (scr S x4) 63) = 30 → ((x0 = S.T 16 ∧ S.T 17 < 2147483648) ∧ 0 ≤ (x4 + 1) ∧ (x4 + 1) < S.T 17) ∧ (Mw hL_bound yL_bound d [vA x1, vI (scr S (x4 + 1)), vA x3] S (oI (fun r77 S77 => ((x0 = S77.T 16 ∧ S77.T 17 < 2147483648) ∧ 0 ≤ (x4 + 1) ∧ (x4 + 1) < S77.T 17) ∧ (S77.K x2 = 11 ∧ Mw hX11_bound yX11_bound d [vA x2, vI (scr S77 (x4 + 1))] S77 (oI (fun r78 S78 => S78.K x2 = 11 ∧ Mw hX11_thrown yX11_thrown d [vA x2] S78 (oI (fun r79 S79 => (R32 r79 ∧ R32 r77) ∧ ((r79 = r77) → R32 r77 ∧ (¬ (r77 = 0) → VL_law_1683 d (VL_law_23 d Q n) Q x0 x1 x2 x3 x4 S79) ∧ ((r77 = 0) → (S79.K x3 = 14 ∧ 0 ≤ (0 : Int) ∧ (0 : Int) < S79.N x3) ∧ (R32 (lCmp (S79.J x3 ((0 : Int)).toNat) (i2L r78)) ∧ (((lCmp (S79.J x3 ((0 : Int)).toNat) (i2L r78)) = 0) → VL_law_1683 d (VL_law_23 d Q n) Q x0 x1 x2 x3 x4 S79) ∧ (¬ ((lCmp (S79.J x3 ((0 : Int)).toNat) (i2L r78)) = 0) → (0 : Int) = 1 ∧ Q (.inl (some (vI 0))) S79)))) ∧ (¬ (r79 = r77) → (0 : Int) = 1 ∧ Q (.inl (some (vI 0))) S79)))))))))) ∧ (((iAnd (scr S x4) 63) = 31 → ((x0 = S.T 16 ∧ S.T 17 < 2147483648) ∧ 0 ≤ (x4 + 1) ∧ (x4 + 1) < S.T 17) ∧ (Mw hL_byNext yL_byNext d [vA x1, vI (scr S (x4 + 1)), vA x3] S (oI (fun r80 S80 => ((x0 = S80.T 16 ∧ S80.T 17 < 2147483648) ∧ 0 ≤ (x4 + 1) ∧ (x4 + 1) < S80.T 17) ∧ (S80.K x2 = 11 ∧ Mw hX11_byNext yX11_byNext d [vA x2, vI (scr S80 (x4 + 1))] S80 (oI (fun r81 S81 => S81.K x2 = 11 ∧ Mw hX11_thrown yX11_thrown d [vA x2] S81 (oI (fun r82 S82 => (R32 r82 ∧ R32 r80) ∧ ((r82 = r80) → R32 r80 ∧ (¬ (r80 = 0) → VL_law_1739 d (VL_law_23 d Q n) Q x0 x1 x2 x3 x4 S82) ∧ ((r80 = 0) → (S82.K x3 = 14 ∧ 0 ≤ (0 : Int) ∧ (0 : Int) < S82.N x3) ∧ (R32 (lCmp (S82.J x3 ((0 : Int)).toNat) (i2L r81)) ∧ (((lCmp (S82.J x3 ((0 : Int)).toNat) (i2L r81)) = 0) → VL_law_1739 d (VL_law_23 d Q n) Q x0 x1 x2 x3 x4 S82) ∧ (¬ ((lCmp (S82.J x3 ((0 : Int)).toNat) (i2L r81)) = 0) → (0 : Int) = 1 ∧ Q (.inl (some (vI 0))) S82)))) ∧ (¬ (r82 = r80) → (0 : Int) = 1 ∧ Q (.inl (some (vI 0))) S82)))))))))) ∧ (((iAnd (scr S x4) 63) = 32 → ((x0 = S.T 16 ∧ S.T 17 < 2147483648) ∧ 0 ≤ (x4 + 1) ∧ (x4 + 1) < S.T 17) ∧ (((x0 = S.T 16 ∧ S.T 17 < 2147483648) ∧ 0 ≤ (x4 + 2) ∧ (x4 + 2) < S.T 17) ∧ (Mw hL_wants yL_wants d [vA x1, vI (scr S (x4 + 1)), vI (scr S (x4 + 2)), vA x3] S (oI (fun r83 S83 => ((x0 = S83.T 16 ∧ S83.T 17 < 2147483648) ∧ 0 ≤ (x4 + 1) ∧ (x4 + 1) < S83.T 17) ∧ (((x0 = S83.T 16 ∧ S83.T 17 < 2147483648) ∧ 0 ≤ (x4 + 2) ∧ (x4 + 2) < S83.T 17) ∧ (S83.K x2 = 11 ∧ Mw hX11_wants yX11_wants d [vA x2, vI (scr S83 (x4 + 1)), vI (scr S83 (x4 + 2))] S83 (oI (fun r84 S84 => S84.K x2 = 11 ∧ Mw hX11_thrown yX11_thrown d [vA x2] S84 (oI (fun r85 S85 => (R32 r85 ∧ R32 r83) ∧ ((r85 = r83) → R32 r83 ∧ (¬ (r83 = 0) → VL_law_1814 d (VL_law_23 d Q n) Q x0 x1 x2 x3 x4 S85) ∧ ((r83 = 0) → (S85.K x3 = 14 ∧ 0 ≤ (0 : Int) ∧ (0 : Int) < S85.N x3) ∧ (R32 r84 ∧ ((r84 = 0) → VL_law_1808 d (VL_law_23 d Q n) Q x0 x1 x2 x3 x4 (0#64) (S85.J x3 ((0 : Int)).toNat) S85) ∧ (¬ (r84 = 0) → VL_law_1808 d (VL_law_23 d Q n) Q x0 x1 x2 x3 x4 (1#64) (S85.J x3 ((0 : Int)).toNat) S85)))) ∧ (¬ (r85 = r83) → (0 : Int) = 1 ∧ Q (.inl (some (vI 0))) S85)))))))))))) ∧ (((iAnd (scr S x4) 63) = 33 → ((x0 = S.T 16 ∧ S.T 17 < 2147483648) ∧ 0 ≤ (x4 + 1) ∧ (x4 + 1) < S.T 17) ∧ (((x0 = S.T 16 ∧ S.T 17 < 2147483648) ∧ 0 ≤ (x4 + 2) ∧ (x4 + 2) < S.T 17) ∧ (Mw hL_plain yL_plain d [vA x1, vI (scr S (x4 + 1)), vI (scr S (x4 + 2)), vA x3] S (oI (fun r86 S86 => ((x0 = S86.T 16 ∧ S86.T 17 < 2147483648) ∧ 0 ≤ (x4 + 1) ∧ (x4 + 1) < S86.T 17) ∧ (((x0 = S86.T 16 ∧ S86.T 17 < 2147483648) ∧ 0 ≤ (x4 + 2) ∧ (x4 + 2) < S86.T 17) ∧ (S86.K x2 = 11 ∧ Mw hX11_plain yX11_plain d [vA x2, vI (scr S86 (x4 + 1)), vI (scr S86 (x4 + 2))] S86 (oI (fun r87 S87 => S87.K x2 = 11 ∧ Mw hX11_thrown yX11_thrown d [vA x2] S87 (oI (fun r88 S88 => (R32 r88 ∧ R32 r86) ∧ ((r88 = r86) → R32 r86 ∧ (¬ (r86 = 0) → VL_law_1882 d (VL_law_23 d Q n) Q x0 x1 x2 x3 x4 S88) ∧ ((r86 = 0) → (S88.K x3 = 14 ∧ 0 ≤ (0 : Int) ∧ (0 : Int) < S88.N x3) ∧ (R32 (lCmp (S88.J x3 ((0 : Int)).toNat) (i2L r87)) ∧ (((lCmp (S88.J x3 ((0 : Int)).toNat) (i2L r87)) = 0) → VL_law_1882 d (VL_law_23 d Q n) Q x0 x1 x2 x3 x4 S88) ∧ (¬ ((lCmp (S88.J x3 ((0 : Int)).toNat) (i2L r87)) = 0) → (0 : Int) = 1 ∧ Q (.inl (some (vI 0))) S88)))) ∧ (¬ (r88 = r86) → (0 : Int) = 1 ∧ Q (.inl (some (vI 0))) S88)))))))))))) ∧ (((iAnd (scr S x4) 63) = 34 → ((x0 = S.T 16 ∧ S.T 17 < 2147483648) ∧ 0 ≤ (x4 + 1) ∧ (x4 + 1) < S.T 17) ∧ (Mw hL_sorted yL_sorted d [vA x1, vI (scr S (x4 + 1)), vA x3] S (oI (fun r89 S89 => ((x0 = S89.T 16 ∧ S89.T 17 < 2147483648) ∧ 0 ≤ (x4 + 1) ∧ (x4 + 1) < S89.T 17) ∧ (S89.K x2 = 11 ∧ Mw hX11_sorted yX11_sorted d [vA x2, vI (scr S89 (x4 + 1))] S89 (oI (fun r90 S90 => S90.K x2 = 11 ∧ Mw hX11_thrown yX11_thrown d [vA x2] S90 (oI (fun r91 S91 => (R32 r91 ∧ R32 r89) ∧ ((r91 = r89) → R32 r89 ∧ (¬ (r89 = 0) → VL_law_1938 d (VL_law_23 d Q n) Q x0 x1 x2 x3 x4 S91) ∧ ((r89 = 0) → (S91.K x3 = 14 ∧ 0 ≤ (0 : Int) ∧ (0 : Int) < S91.N x3) ∧ (R32 (lCmp (S91.J x3 ((0 : Int)).toNat) (i2L r90)) ∧ (((lCmp (S91.J x3 ((0 : Int)).toNat) (i2L r90)) = 0) → VL_law_1938 d (VL_law_23 d Q n) Q x0 x1 x2 x3 x4 S91) ∧ (¬ ((lCmp (S91.J x3 ((0 : Int)).toNat) (i2L r90)) = 0) → (0 : Int) = 1 ∧ Q (.inl (some (vI 0))) S91)))) ∧ (¬ (r91 = r89) → (0 : Int) = 1 ∧ Q (.inl (some (vI 0))) S91)))))))))) ∧ (((iAnd (scr S x4) 63) = 35 → ((x0 = S.T 16 ∧ S.T 17 < 2147483648) ∧ 0 ≤ (x4 + 1) ∧ (x4 + 1) < S.T 17) ∧ (Mw hL_grown yL_grown d [vA x1, vI (scr S (x4 + 1)), vA x3] S (oI (fun r92 S92 => ((x0 = S92.T 16 ∧ S92.T 17 < 2147483648) ∧ 0 ≤ (x4 + 1) ∧ (x4 + 1) < S92.T 17) ∧ (S92.K x2 = 11 ∧ Mw hX11_grown yX11_grown d [vA x2, vI (scr S92 (x4 + 1))] S92 (oI (fun r93 S93 => S93.K x2 = 11 ∧ Mw hX11_thrown yX11_thrown d [vA x2] S93 (oI (fun r94 S94 => (R32 r94 ∧ R32 r92) ∧ ((r94 = r92) → R32 r92 ∧ (¬ (r92 = 0) → VL_law_1994 d (VL_law_23 d Q n) Q x0 x1 x2 x3 x4 S94) ∧ ((r92 = 0) → (S94.K x3 = 14 ∧ 0 ≤ (0 : Int) ∧ (0 : Int) < S94.N x3) ∧ (R32 (lCmp (S94.J x3 ((0 : Int)).toNat) (i2L r93)) ∧ (((lCmp (S94.J x3 ((0 : Int)).toNat) (i2L r93)) = 0) → VL_law_1994 d (VL_law_23 d Q n) Q x0 x1 x2 x3 x4 S94) ∧ (¬ ((lCmp (S94.J x3 ((0 : Int)).toNat) (i2L r93)) = 0) → (0 : Int) = 1 ∧ Q (.inl (some (vI 0))) S94)))) ∧ (¬ (r94 = r92) → (0 : Int) = 1 ∧ Q (.inl (some (vI 0))) S94)))))))))) ∧ (((iAnd (scr S x4) 63) = 36 → ((x0 = S.T 16 ∧ S.T 17 < 2147483648) ∧ 0 ≤ (x4 + 1) ∧ (x4 + 1) < S.T 17) ∧ (((x0 = S.T 16 ∧ S.T 17 < 2147483648) ∧ 0 ≤ (x4 + 2) ∧ (x4 + 2) < S.T 17) ∧ (((x0 = S.T 16 ∧ S.T 17 < 2147483648) ∧ 0 ≤ (x4 + 3) ∧ (x4 + 3) < S.T 17) ∧ (((x0 = S.T 16 ∧ S.T 17 < 2147483648) ∧ 0 ≤ (x4 + 4) ∧ (x4 + 4) < S.T 17) ∧ (Mw hL_played yL_played d [vA x1, vI (scr S (x4 + 1)), vI (scr S (x4 + 2)), vI (scr S (x4 + 3)), vI (scr S (x4 + 4)), vA x3] S (oI (fun r95 S95 => ((x0 = S95.T 16 ∧ S95.T 17 < 2147483648) ∧ 0 ≤ (x4 + 1) ∧ (x4 + 1) < S95.T 17) ∧ (((x0 = S95.T 16 ∧ S95.T 17 < 2147483648) ∧ 0 ≤ (x4 + 2) ∧ (x4 + 2) < S95.T 17) ∧ (((x0 = S95.T 16 ∧ S95.T 17 < 2147483648) ∧ 0 ≤ (x4 + 3) ∧ (x4 + 3) < S95.T 17) ∧ (((x0 = S95.T 16 ∧ S95.T 17 < 2147483648) ∧ 0 ≤ (x4 + 4) ∧ (x4 + 4) < S95.T 17) ∧ (S95.K x2 = 11 ∧ Mw hX11_played yX11_played d [vA x2, vI (scr S95 (x4 + 1)), vI (scr S95 (x4 + 2)), vI (scr S95 (x4 + 3)), vI (scr S95 (x4 + 4))] S95 (oI (fun r96 S96 => S96.K x2 = 11 ∧ Mw hX11_thrown yX11_thrown d [vA x2] S96 (oI (fun r97 S97 => (R32 r97 ∧ R32 r95) ∧ ((r97 = r95) → R32 r95 ∧ (¬ (r95 = 0) → VL_law_2086 d (VL_law_23 d Q n) Q x0 x1 x2 x3 x4 S97) ∧ ((r95 = 0) → (S97.K x3 = 14 ∧ 0 ≤ (0 : Int) ∧ (0 : Int) < S97.N x3) ∧ (R32 (lCmp (S97.J x3 ((0 : Int)).toNat) (i2L r96)) ∧ (((lCmp (S97.J x3 ((0 : Int)).toNat) (i2L r96)) = 0) → VL_law_2086 d (VL_law_23 d Q n) Q x0 x1 x2 x3 x4 S97) ∧ (¬ ((lCmp (S97.J x3 ((0 : Int)).toNat) (i2L r96)) = 0) → (0 : Int) = 1 ∧ Q (.inl (some (vI 0))) S97)))) ∧ (¬ (r97 = r95) → (0 : Int) = 1 ∧ Q (.inl (some (vI 0))) S97)))))))))))))))) ∧ (((iAnd (scr S x4) 63) = 37 → ((x0 = S.T 16 ∧ S.T 17 < 2147483648) ∧ 0 ≤ (x4 + 1) ∧ (x4 + 1) < S.T 17) ∧ (R32 (scr S (x4 + 1)) ∧ (((scr S (x4 + 1)) = 0) → VL_law_2104 d (VL_law_23 d Q n) Q x0 x1 x2 x3 x4 0 x1 S) ∧ (¬ ((scr S (x4 + 1)) = 0) → VL_law_2104 d (VL_law_23 d Q n) Q x0 x1 x2 x3 x4 1 x1 S))) ∧ (((iAnd (scr S x4) 63) = 38 → ((x0 = S.T 16 ∧ S.T 17 < 2147483648) ∧ 0 ≤ (x4 + 1) ∧ (x4 + 1) < S.T 17) ∧ (S.K x1 = 10 ∧ Mw hX10_pair yX10_pair d [vA x1, vI (scr S (x4 + 1))] S (oI (fun r98 S98 => ((x0 = S98.T 16 ∧ S98.T 17 < 2147483648) ∧ 0 ≤ (x4 + 1) ∧ (x4 + 1) < S98.T 17) ∧ (S98.K x2 = 11 ∧ Mw hX11_pair yX11_pair d [vA x2, vI (scr S98 (x4 + 1))] S98 (oI (fun r99 S99 => (R32 r98 ∧ R32 r99) ∧ ((r98 = r99) → VL_law_2634 d (VL_law_23 d Q n) Q x0 x1 x2 x3 x4 S99) ∧ (¬ (r98 = r99) → (0 : Int) = 1 ∧ Q (.inl (some (vI 0))) S99)))))))) ∧ (((iAnd (scr S x4) 63) = 39 → ((x0 = S.T 16 ∧ S.T 17 < 2147483648) ∧ 0 ≤ (x4 + 1) ∧ (x4 + 1) < S.T 17) ∧ (Mw hL_mean yL_mean d [vA x1, vI (scr S (x4 + 1)), vA x3] S (oI (fun r100 S100 => ((x0 = S100.T 16 ∧ S100.T 17 < 2147483648) ∧ 0 ≤ (x4 + 1) ∧ (x4 + 1) < S100.T 17) ∧ (S100.K x2 = 11 ∧ Mw hX11_mean yX11_mean d [vA x2, vI (scr S100 (x4 + 1))] S100 (oI (fun r101 S101 => S101.K x2 = 11 ∧ Mw hX11_thrown yX11_thrown d [vA x2] S101 (oI (fun r102 S102 => (R32 r102 ∧ R32 r100) ∧ ((r102 = r100) → R32 r100 ∧ (¬ (r100 = 0) → VL_law_2208 d (VL_law_23 d Q n) Q x0 x1 x2 x3 x4 S102) ∧ ((r100 = 0) → (S102.K x3 = 14 ∧ 0 ≤ (0 : Int) ∧ (0 : Int) < S102.N x3) ∧ (R32 (lCmp (S102.J x3 ((0 : Int)).toNat) (i2L r101)) ∧ (((lCmp (S102.J x3 ((0 : Int)).toNat) (i2L r101)) = 0) → VL_law_2208 d (VL_law_23 d Q n) Q x0 x1 x2 x3 x4 S102) ∧ (¬ ((lCmp (S102.J x3 ((0 : Int)).toNat) (i2L r101)) = 0) → (0 : Int) = 1 ∧ Q (.inl (some (vI 0))) S102)))) ∧ (¬ (r102 = r100) → (0 : Int) = 1 ∧ Q (.inl (some (vI 0))) S102)))))))))) ∧ (((iAnd (scr S x4) 63) = 40 → ((x0 = S.T 16 ∧ S.T 17 < 2147483648) ∧ 0 ≤ (x4 + 1) ∧ (x4 + 1) < S.T 17) ∧ (R32 (scr S (x4 + 1)) ∧ (((scr S (x4 + 1)) = 0) → VL_law_2226 d (VL_law_23 d Q n) Q x0 x1 x2 x3 x4 0 x1 S) ∧ (¬ ((scr S (x4 + 1)) = 0) → VL_law_2226 d (VL_law_23 d Q n) Q x0 x1 x2 x3 x4 1 x1 S))) ∧ (((iAnd (scr S x4) 63) = 41 → ((x0 = S.T 16 ∧ S.T 17 < 2147483648) ∧ 0 ≤ (x4 + 1) ∧ (x4 + 1) < S.T 17) ∧ (((x0 = S.T 16 ∧ S.T 17 < 2147483648) ∧ 0 ≤ (x4 + 2) ∧ (x4 + 2) < S.T 17) ∧ (Mw hL_where yL_where d [vA x1, vI (scr S (x4 + 1)), vI (scr S (x4 + 2)), vA x3] S (oI (fun r103 S103 => ((x0 = S103.T 16 ∧ S103.T 17 < 2147483648) ∧ 0 ≤ (x4 + 1) ∧ (x4 + 1) < S103.T 17) ∧ (((x0 = S103.T 16 ∧ S103.T 17 < 2147483648) ∧ 0 ≤ (x4 + 2) ∧ (x4 + 2) < S103.T 17) ∧ (S103.K x2 = 11 ∧ Mw hX11_where yX11_where d [vA x2, vI (scr S103 (x4 + 1)), vI (scr S103 (x4 + 2))] S103 (oI (fun r104 S104 => S104.K x2 = 11 ∧ Mw hX11_thrown yX11_thrown d [vA x2] S104 (oI (fun r105 S105 => (R32 r105 ∧ R32 r103) ∧ ((r105 = r103) → R32 r103 ∧ (¬ (r103 = 0) → VL_law_2317 d (VL_law_23 d Q n) Q x0 x1 x2 x3 x4 S105) ∧ ((r103 = 0) → (S105.K x3 = 14 ∧ 0 ≤ (0 : Int) ∧ (0 : Int) < S105.N x3) ∧ (R32 (lCmp (S105.J x3 ((0 : Int)).toNat) (i2L r104)) ∧ (((lCmp (S105.J x3 ((0 : Int)).toNat) (i2L r104)) = 0) → VL_law_2317 d (VL_law_23 d Q n) Q x0 x1 x2 x3 x4 S105) ∧ (¬ ((lCmp (S105.J x3 ((0 : Int)).toNat) (i2L r104)) = 0) → (0 : Int) = 1 ∧ Q (.inl (some (vI 0))) S105)))) ∧ (¬ (r105 = r103) → (0 : Int) = 1 ∧ Q (.inl (some (vI 0))) S105)))))))))))) ∧ (((iAnd (scr S x4) 63) = 42 → ((x0 = S.T 16 ∧ S.T 17 < 2147483648) ∧ 0 ≤ (x4 + 1) ∧ (x4 + 1) < S.T 17) ∧ (((x0 = S.T 16 ∧ S.T 17 < 2147483648) ∧ 0 ≤ (x4 + 2) ∧ (x4 + 2) < S.T 17) ∧ (R32 (scr S (x4 + 2)) ∧ (((scr S (x4 + 2)) = 0) → VL_law_2341 d (VL_law_23 d Q n) Q x0 x1 x2 x3 x4 0 (scr S (x4 + 1)) x1 S) ∧ (¬ ((scr S (x4 + 2)) = 0) → VL_law_2341 d (VL_law_23 d Q n) Q x0 x1 x2 x3 x4 1 (scr S (x4 + 1)) x1 S)))) ∧ (((iAnd (scr S x4) 63) = 43 → S.K x1 = 10 ∧ Mw hX10_needless yX10_needless d [vA x1] S (oI (fun r106 S106 => S106.K x2 = 11 ∧ Mw hX11_needless yX11_needless d [vA x2] S106 (oI (fun r107 S107 => (R32 r106 ∧ R32 r107) ∧ ((r106 = r107) → VL_law_2634 d (VL_law_23 d Q n) Q x0 x1 x2 x3 x4 S107) ∧ (¬ (r106 = r107) → (0 : Int) = 1 ∧ Q (.inl (some (vI 0))) S107)))))) ∧ (((iAnd (scr S x4) 63) = 44 → ((x0 = S.T 16 ∧ S.T 17 < 2147483648) ∧ 0 ≤ (x4 + 1) ∧ (x4 + 1) < S.T 17) ∧ (((x0 = S.T 16 ∧ S.T 17 < 2147483648) ∧ 0 ≤ (x4 + 2) ∧ (x4 + 2) < S.T 17) ∧ (R32 (scr S (x4 + 2)) ∧ (((scr S (x4 + 2)) = 0) → VL_law_2438 d (VL_law_23 d Q n) Q x0 x1 x2 x3 x4 0 (scr S (x4 + 1)) x1 S) ∧ (¬ ((scr S (x4 + 2)) = 0) → VL_law_2438 d (VL_law_23 d Q n) Q x0 x1 x2 x3 x4 1 (scr S (x4 + 1)) x1 S)))) ∧ (((iAnd (scr S x4) 63) = 45 → ((x0 = S.T 16 ∧ S.T 17 < 2147483648) ∧ 0 ≤ (x4 + 1) ∧ (x4 + 1) < S.T 17) ∧ (((x0 = S.T 16 ∧ S.T 17 < 2147483648) ∧ 0 ≤ (x4 + 2) ∧ (x4 + 2) < S.T 17) ∧ (R32 (scr S (x4 + 2)) ∧ (((scr S (x4 + 2)) = 0) → VL_law_2522 d (VL_law_23 d Q n) Q x0 x1 x2 x3 x4 0 (scr S (x4 + 1)) x1 S) ∧ (¬ ((scr S (x4 + 2)) = 0) → VL_law_2522 d (VL_law_23 d Q n) Q x0 x1 x2 x3 x4 1 (scr S (x4 + 1)) x1 S)))) ∧ (((iAnd (scr S x4) 63) = 46 → S.K x1 = 10 ∧ Mw hX10_image yX10_image d [vA x1] S (oV (fun S108 => S108.K x2 = 11 ∧ Mw hX11_image yX11_image d [vA x2] S108 (oV (fun S109 => VL_law_2634 d (VL_law_23 d Q n) Q x0 x1 x2 x3 x4 S109))))) ∧ (((iAnd (scr S x4) 63) = 47 → S.K x1 = 10 ∧ Mw hX10_back yX10_back d [vA x1] S (oI (fun r110 S110 => S110.K x2 = 11 ∧ Mw hX11_back yX11_back d [vA x2] S110 (oI (fun r111 S111 => (R32 r110 ∧ R32 r111) ∧ ((r110 = r111) → VL_law_2634 d (VL_law_23 d Q n) Q x0 x1 x2 x3 x4 S111) ∧ (¬ (r110 = r111) → (0 : Int) = 1 ∧ Q (.inl (some (vI 0))) S111)))))) ∧ (((iAnd (scr S x4) 63) = 48 → ((x0 = S.T 16 ∧ S.T 17 < 2147483648) ∧ 0 ≤ (x4 + 1) ∧ (x4 + 1) < S.T 17) ∧ (S.K x1 = 10 ∧ Mw hX10_count yX10_count d [vA x1, vI (scr S (x4 + 1))] S (oI (fun r112 S112 => ((x0 = S112.T 16 ∧ S112.T 17 < 2147483648) ∧ 0 ≤ (x4 + 1) ∧ (x4 + 1) < S112.T 17) ∧ (S112.K x2 = 11 ∧ Mw hX11_count yX11_count d [vA x2, vI (scr S112 (x4 + 1))] S112 (oI (fun r113 S113 => (R32 r112 ∧ R32 r113) ∧ ((r112 = r113) → VL_law_2634 d (VL_law_23 d Q n) Q x0 x1 x2 x3 x4 S113) ∧ (¬ (r112 = r113) → (0 : Int) = 1 ∧ Q (.inl (some (vI 0))) S113)))))))) ∧ (((iAnd (scr S x4) 63) < 0 ∨ 48 < (iAnd (scr S x4) 63)) → VL_law_2634 d (VL_law_23 d Q n) Q x0 x1 x2 x3 x4 S)))))))))))))))))))))))))))))))))))))))))))))))))))))
theorem JL_law_23 {d : Nat} {S0 : MS} {Q : Out → MS → Prop} : ∀ (n : Nat) (x0 : Nat) (x1 : Nat) (x2 : Nat) (x3 : Nat) (x4 : Int) (S : MS), VL_law_23 d Q n x0 x1 x2 x3 x4 S → Jw FinW RL cL_law 7 (some .boolean) [] yL_law (d + 1) S0 S 23 [(0, vA x0), (1, vA x1), (2, vA x2), (3, vA x3), (4, vI x4)] [] Q := by
  intro n
  induction n with
  | zero => intro x0 x1 x2 x3 x4 S h; exact h.elim
  | succ n ih =>
    intro x0 x1 x2 x3 x4 S h
    exact j_iload 4 dL_law_23 rfl (j_aload_n 0 dL_law_25 rfl (j_slen dL_law_26 h (fun h => j_bipush dL_law_27 rfl (j_isub dL_law_29 (j_icmp_gt (tgt := 2640) dL_law_30 (by decide) h (fun h => j_iconst dL_law_2640 (j_lawretM dL_law_2641 h)) (fun h => j_aload_n 0 dL_law_33 rfl (j_iload 4 dL_law_34 rfl (j_sld dL_law_36 h (fun h => j_bipush dL_law_37 rfl (j_iand dL_law_39 ((have hr := h.1; have h := h.2; j_tswC (cv := 0) (tgt := 252) dL_law_40 hr (by decide) (by decide) rfl (by decide) h (fun h => j_aload_n 1 dL_law_252 rfl (j_aload_n 0 dL_law_253 rfl (j_iload 4 dL_law_254 rfl (j_iconst dL_law_256 (j_iadd dL_law_257 (j_sld dL_law_258 h (fun h => j_aload_n 0 dL_law_259 rfl (j_iload 4 dL_law_260 rfl (j_iconst dL_law_262 (j_iadd dL_law_263 (j_sld dL_law_264 h (fun h => j_aload_n 0 dL_law_265 rfl (j_iload 4 dL_law_266 rfl (j_iconst dL_law_268 (j_iadd dL_law_269 (j_sld dL_law_270 h (fun h => j_aload_n 0 dL_law_271 rfl (j_iload 4 dL_law_272 rfl (j_iconst dL_law_274 (j_iadd dL_law_275 (j_sld dL_law_276 h (fun h => j_aload_n 0 dL_law_277 rfl (j_iload 4 dL_law_278 rfl (j_iconst dL_law_280 (j_iadd dL_law_281 (j_sld dL_law_282 h (fun h => j_callV (rest := []) 10 [vI (scr S (x4 + 1)), vI (scr S (x4 + 2)), vI (scr S (x4 + 3)), vI (scr S (x4 + 4)), vI (scr S (x4 + 5))] k_RL_126 ⟨w_2_36, w_2_37⟩ ⟨_, _, rfl⟩ (by decide) rfl rfl (Nat.le_of_ble_eq_true rfl) dL_law_283 h (kI (fun r1 S1 h => j_aload_n 2 dL_law_286 rfl (j_aload_n 0 dL_law_287 rfl (j_iload 4 dL_law_288 rfl (j_iconst dL_law_290 (j_iadd dL_law_291 (j_sld dL_law_292 h (fun h => j_aload_n 0 dL_law_293 rfl (j_iload 4 dL_law_294 rfl (j_iconst dL_law_296 (j_iadd dL_law_297 (j_sld dL_law_298 h (fun h => j_aload_n 0 dL_law_299 rfl (j_iload 4 dL_law_300 rfl (j_iconst dL_law_302 (j_iadd dL_law_303 (j_sld dL_law_304 h (fun h => j_aload_n 0 dL_law_305 rfl (j_iload 4 dL_law_306 rfl (j_iconst dL_law_308 (j_iadd dL_law_309 (j_sld dL_law_310 h (fun h => j_aload_n 0 dL_law_311 rfl (j_iload 4 dL_law_312 rfl (j_iconst dL_law_314 (j_iadd dL_law_315 (j_sld dL_law_316 h (fun h => j_callV (rest := [vI r1]) 11 [vI (scr S1 (x4 + 1)), vI (scr S1 (x4 + 2)), vI (scr S1 (x4 + 3)), vI (scr S1 (x4 + 4)), vI (scr S1 (x4 + 5))] k_RL_130 ⟨w_7_110, w_7_111⟩ ⟨_, _, rfl⟩ (by decide) rfl rfl (Nat.le_of_ble_eq_true rfl) dL_law_317 h (kI (fun r2 S2 h => j_icmp_eq (tgt := 2634) dL_law_320 (by decide) h (fun h => JL_law_2634 ih _ _ _ _ _ _ h) (fun h => j_iconst dL_law_323 (j_lawretM dL_law_324 h)))) (fun _ _ h => h.elim))))))))))))))))))))))))))))) (fun _ _ h => h.elim)))))))))))))))))))))))))))) (fun hne0 h => j_tswC (cv := 1) (tgt := 325) dL_law_40 hr (by decide) (by decide) rfl (by decide) h (fun h => j_aload_n 1 dL_law_325 rfl (j_aload_n 0 dL_law_326 rfl (j_iload 4 dL_law_327 rfl (j_iconst dL_law_329 (j_iadd dL_law_330 (j_sld dL_law_331 h (fun h => j_callV (rest := []) 10 [vI (scr S (x4 + 1))] k_RL_131 ⟨w_2_44, w_2_45⟩ ⟨_, _, rfl⟩ (by decide) rfl rfl (Nat.le_of_ble_eq_true rfl) dL_law_332 h (kI (fun r3 S3 h => j_aload_n 2 dL_law_335 rfl (j_aload_n 0 dL_law_336 rfl (j_iload 4 dL_law_337 rfl (j_iconst dL_law_339 (j_iadd dL_law_340 (j_sld dL_law_341 h (fun h => j_callV (rest := [vI r3]) 11 [vI (scr S3 (x4 + 1))] k_RL_135 ⟨w_7_114, w_7_115⟩ ⟨_, _, rfl⟩ (by decide) rfl rfl (Nat.le_of_ble_eq_true rfl) dL_law_342 h (kI (fun r4 S4 h => j_icmp_eq (tgt := 2634) dL_law_345 (by decide) h (fun h => JL_law_2634 ih _ _ _ _ _ _ h) (fun h => j_iconst dL_law_348 (j_lawretM dL_law_349 h)))) (fun _ _ h => h.elim))))))))) (fun _ _ h => h.elim)))))))) (fun hne1 h => j_tswC (cv := 2) (tgt := 350) dL_law_40 hr (by decide) (by decide) rfl (by decide) h (fun h => j_aload_n 1 dL_law_350 rfl (j_aload_n 3 dL_law_351 rfl (j_callSW (rest := []) [vA x1, vA x3] k_RL_136 w_4_27 rfl rfl (Nat.le_of_ble_eq_true rfl) dL_law_352 h (kI (fun r5 S5 h => j_istore (lv2 := [(5, vI r5), (0, vA x0), (1, vA x1), (2, vA x2), (3, vA x3), (4, vI x4)]) dL_law_355 (by decide) rfl (j_aload_n 3 dL_law_357 rfl (j_callV (rest := []) 11 [] k_RL_141 ⟨w_7_122, w_7_123⟩ ⟨_, _, rfl⟩ (by decide) rfl rfl (Nat.le_of_ble_eq_true rfl) dL_law_358 h (kI (fun r6 S6 h => j_istore (lv2 := [(6, vI r6), (5, vI r5), (0, vA x0), (1, vA x1), (2, vA x2), (3, vA x3), (4, vI x4)]) dL_law_361 (by decide) rfl (j_aload_n 4 dL_law_363 rfl (j_callV (rest := []) 11 [] k_RL_142 ⟨w_6_210, w_6_211⟩ ⟨_, _, rfl⟩ (by decide) rfl rfl (Nat.le_of_ble_eq_true rfl) dL_law_364 h (kI (fun r7 S7 h => j_iload 1 dL_law_367 rfl (j_icmp_eq (tgt := 374) dL_law_369 (by decide) h (fun h => j_iload 1 dL_law_374 rfl (j_if_ne (tgt := 391) dL_law_376 (by decide) h (fun h => j_sub [2, 3, 4, 5, 6] rfl (JL_law_391 ih _ _ _ _ _ _ h)) (fun h => j_aload_n 5 dL_law_379 rfl (j_iconst dL_law_380 (j_lald dL_law_381 h (fun h => j_iload 0 dL_law_382 rfl (j_i2l dL_law_384 (j_lcmp dL_law_385 (j_if_eq (tgt := 391) dL_law_386 (by decide) h (fun h => j_sub [2, 3, 4, 5, 6] rfl (JL_law_391 ih _ _ _ _ _ _ h)) (fun h => j_iconst dL_law_389 (j_lawretM dL_law_390 h))))))))))) (fun h => j_iconst dL_law_372 (j_lawretM dL_law_373 h))))) (fun _ _ h => h.elim))))) (fun _ _ h => h.elim)))))))) (fun hne2 h => j_tswC (cv := 3) (tgt := 394) dL_law_40 hr (by decide) (by decide) rfl (by decide) h (fun h => j_aload_n 1 dL_law_394 rfl (j_callV (rest := []) 10 [] k_RL_145 ⟨w_2_48, w_2_49⟩ ⟨_, _, rfl⟩ (by decide) rfl rfl (Nat.le_of_ble_eq_true rfl) dL_law_395 h (kI (fun r8 S8 h => j_aload_n 2 dL_law_398 rfl (j_callV (rest := [vI r8]) 11 [] k_RL_148 ⟨w_7_118, w_7_119⟩ ⟨_, _, rfl⟩ (by decide) rfl rfl (Nat.le_of_ble_eq_true rfl) dL_law_399 h (kI (fun r9 S9 h => j_icmp_eq (tgt := 2634) dL_law_402 (by decide) h (fun h => JL_law_2634 ih _ _ _ _ _ _ h) (fun h => j_iconst dL_law_405 (j_lawretM dL_law_406 h)))) (fun _ _ h => h.elim)))) (fun _ _ h => h.elim))) (fun hne3 h => j_tswC (cv := 4) (tgt := 407) dL_law_40 hr (by decide) (by decide) rfl (by decide) h (fun h => j_aload_n 1 dL_law_407 rfl (j_aload_n 0 dL_law_408 rfl (j_iload 4 dL_law_409 rfl (j_iconst dL_law_411 (j_iadd dL_law_412 (j_sld dL_law_413 h (fun h => j_callSW (rest := []) [vA x1, vI (scr S (x4 + 1))] k_RL_149 w_5_19 rfl rfl (Nat.le_of_ble_eq_true rfl) dL_law_414 h (kI (fun r10 S10 h => j_istore (lv2 := [(5, vI r10), (0, vA x0), (1, vA x1), (2, vA x2), (3, vA x3), (4, vI x4)]) dL_law_417 (by decide) rfl (j_aload_n 3 dL_law_419 rfl (j_aload_n 1 dL_law_420 rfl (j_iload 5 dL_law_421 rfl (j_iconst dL_law_423 (j_iadd dL_law_424 (j_sld dL_law_425 h (fun h => j_callV (rest := []) 11 [vI (scr S10 (x4 + 1))] k_RL_152 ⟨w_7_194, w_7_195⟩ ⟨_, _, rfl⟩ (by decide) rfl rfl (Nat.le_of_ble_eq_true rfl) dL_law_426 h (kV (fun S11 h => j_aload_n 3 dL_law_429 rfl (j_callV (rest := []) 11 [] k_RL_142 ⟨w_6_210, w_6_211⟩ ⟨_, _, rfl⟩ (by decide) rfl rfl (Nat.le_of_ble_eq_true rfl) dL_law_430 h (kI (fun r12 S12 h => j_iload 0 dL_law_433 rfl (j_icmp_eq (tgt := 440) dL_law_435 (by decide) h (fun h => j_goto (tgt := 2634) dL_law_440 (by decide) (j_sub [1, 2, 3, 4, 5] rfl (JL_law_2634 ih _ _ _ _ _ _ h))) (fun h => j_iconst dL_law_438 (j_lawretM dL_law_439 h))))) (fun _ _ h => h.elim)))) (fun _ _ h => h.elim))))))))))))))))) (fun hne4 h => j_tswC (cv := 5) (tgt := 443) dL_law_40 hr (by decide) (by decide) rfl (by decide) h (fun h => j_aload_n 1 dL_law_443 rfl (j_aload_n 0 dL_law_444 rfl (j_iload 4 dL_law_445 rfl (j_iconst dL_law_447 (j_iadd dL_law_448 (j_sld dL_law_449 h (fun h => j_aload_n 0 dL_law_450 rfl (j_iload 4 dL_law_451 rfl (j_iconst dL_law_453 (j_iadd dL_law_454 (j_sld dL_law_455 h (fun h => j_aload_n 0 dL_law_456 rfl (j_iload 4 dL_law_457 rfl (j_iconst dL_law_459 (j_iadd dL_law_460 (j_sld dL_law_461 h (fun h => j_aload_n 3 dL_law_462 rfl (j_callSW (rest := []) [vA x1, vI (scr S (x4 + 1)), vI (scr S (x4 + 2)), vI (scr S (x4 + 3)), vA x3] k_RL_153 w_5_45 rfl rfl (Nat.le_of_ble_eq_true rfl) dL_law_463 h (kI (fun r13 S13 h => j_istore (lv2 := [(5, vI r13), (0, vA x0), (1, vA x1), (2, vA x2), (3, vA x3), (4, vI x4)]) dL_law_466 (by decide) rfl (j_aload_n 3 dL_law_468 rfl (j_aload_n 1 dL_law_469 rfl (j_iload 5 dL_law_470 rfl (j_iconst dL_law_472 (j_iadd dL_law_473 (j_sld dL_law_474 h (fun h => j_aload_n 1 dL_law_475 rfl (j_iload 5 dL_law_476 rfl (j_iconst dL_law_478 (j_iadd dL_law_479 (j_sld dL_law_480 h (fun h => j_aload_n 1 dL_law_481 rfl (j_iload 5 dL_law_482 rfl (j_iconst dL_law_484 (j_iadd dL_law_485 (j_sld dL_law_486 h (fun h => j_callV (rest := []) 11 [vI (scr S13 (x4 + 1)), vI (scr S13 (x4 + 2)), vI (scr S13 (x4 + 3))] k_RL_156 ⟨w_7_205, w_7_206⟩ ⟨_, _, rfl⟩ (by decide) rfl rfl (Nat.le_of_ble_eq_true rfl) dL_law_487 h (kI (fun r14 S14 h => j_istore (lv2 := [(6, vI r14), (5, vI r13), (0, vA x0), (1, vA x1), (2, vA x2), (3, vA x3), (4, vI x4)]) dL_law_490 (by decide) rfl (j_aload_n 4 dL_law_492 rfl (j_callV (rest := []) 11 [] k_RL_142 ⟨w_6_210, w_6_211⟩ ⟨_, _, rfl⟩ (by decide) rfl rfl (Nat.le_of_ble_eq_true rfl) dL_law_493 h (kI (fun r15 S15 h => j_iload 1 dL_law_496 rfl (j_icmp_eq (tgt := 503) dL_law_498 (by decide) h (fun h => j_iload 1 dL_law_503 rfl (j_if_ne (tgt := 520) dL_law_505 (by decide) h (fun h => j_sub [2, 3, 4, 5, 6] rfl (JL_law_520 ih _ _ _ _ _ _ h)) (fun h => j_aload_n 5 dL_law_508 rfl (j_iconst dL_law_509 (j_lald dL_law_510 h (fun h => j_iload 0 dL_law_511 rfl (j_i2l dL_law_513 (j_lcmp dL_law_514 (j_if_eq (tgt := 520) dL_law_515 (by decide) h (fun h => j_sub [2, 3, 4, 5, 6] rfl (JL_law_520 ih _ _ _ _ _ _ h)) (fun h => j_iconst dL_law_518 (j_lawretM dL_law_519 h))))))))))) (fun h => j_iconst dL_law_501 (j_lawretM dL_law_502 h))))) (fun _ _ h => h.elim))))) (fun _ _ h => h.elim)))))))))))))))))))))))))))))))))))))) (fun hne5 h => j_tswC (cv := 6) (tgt := 523) dL_law_40 hr (by decide) (by decide) rfl (by decide) h (fun h => j_aload_n 1 dL_law_523 rfl (j_aload_n 0 dL_law_524 rfl (j_iload 4 dL_law_525 rfl (j_iconst dL_law_527 (j_iadd dL_law_528 (j_sld dL_law_529 h (fun h => j_aload_n 0 dL_law_530 rfl (j_iload 4 dL_law_531 rfl (j_iconst dL_law_533 (j_iadd dL_law_534 (j_sld dL_law_535 h (fun h => j_aload_n 3 dL_law_536 rfl (j_callSW (rest := []) [vA x1, vI (scr S (x4 + 1)), vI (scr S (x4 + 2)), vA x3] k_RL_157 w_5_58 rfl rfl (Nat.le_of_ble_eq_true rfl) dL_law_537 h (kI (fun r16 S16 h => j_istore (lv2 := [(5, vI r16), (0, vA x0), (1, vA x1), (2, vA x2), (3, vA x3), (4, vI x4)]) dL_law_540 (by decide) rfl (j_aload_n 3 dL_law_542 rfl (j_aload_n 1 dL_law_543 rfl (j_iload 5 dL_law_544 rfl (j_iconst dL_law_546 (j_iadd dL_law_547 (j_sld dL_law_548 h (fun h => j_aload_n 1 dL_law_549 rfl (j_iload 5 dL_law_550 rfl (j_iconst dL_law_552 (j_iadd dL_law_553 (j_sld dL_law_554 h (fun h => j_callV (rest := []) 11 [vI (scr S16 (x4 + 1)), vI (scr S16 (x4 + 2))] k_RL_160 ⟨w_7_209, w_7_210⟩ ⟨_, _, rfl⟩ (by decide) rfl rfl (Nat.le_of_ble_eq_true rfl) dL_law_555 h (kI (fun r17 S17 h => j_istore (lv2 := [(6, vI r17), (5, vI r16), (0, vA x0), (1, vA x1), (2, vA x2), (3, vA x3), (4, vI x4)]) dL_law_558 (by decide) rfl (j_aload_n 4 dL_law_560 rfl (j_callV (rest := []) 11 [] k_RL_142 ⟨w_6_210, w_6_211⟩ ⟨_, _, rfl⟩ (by decide) rfl rfl (Nat.le_of_ble_eq_true rfl) dL_law_561 h (kI (fun r18 S18 h => j_iload 1 dL_law_564 rfl (j_icmp_eq (tgt := 571) dL_law_566 (by decide) h (fun h => j_iload 1 dL_law_571 rfl (j_if_ne (tgt := 588) dL_law_573 (by decide) h (fun h => j_sub [2, 3, 4, 5, 6] rfl (JL_law_588 ih _ _ _ _ _ _ h)) (fun h => j_aload_n 5 dL_law_576 rfl (j_iconst dL_law_577 (j_lald dL_law_578 h (fun h => j_iload 0 dL_law_579 rfl (j_i2l dL_law_581 (j_lcmp dL_law_582 (j_if_eq (tgt := 588) dL_law_583 (by decide) h (fun h => j_sub [2, 3, 4, 5, 6] rfl (JL_law_588 ih _ _ _ _ _ _ h)) (fun h => j_iconst dL_law_586 (j_lawretM dL_law_587 h))))))))))) (fun h => j_iconst dL_law_569 (j_lawretM dL_law_570 h))))) (fun _ _ h => h.elim))))) (fun _ _ h => h.elim)))))))))))))))))))))))))))) (fun hne6 h => j_tswC (cv := 7) (tgt := 591) dL_law_40 hr (by decide) (by decide) rfl (by decide) h (fun h => j_aload_n 1 dL_law_591 rfl (j_aload_n 0 dL_law_592 rfl (j_iload 4 dL_law_593 rfl (j_iconst dL_law_595 (j_iadd dL_law_596 (j_sld dL_law_597 h (fun h => j_aload_n 0 dL_law_598 rfl (j_iload 4 dL_law_599 rfl (j_iconst dL_law_601 (j_iadd dL_law_602 (j_sld dL_law_603 h (fun h => j_aload_n 3 dL_law_604 rfl (j_callSW (rest := []) [vA x1, vI (scr S (x4 + 1)), vI (scr S (x4 + 2)), vA x3] k_RL_161 w_5_91 rfl rfl (Nat.le_of_ble_eq_true rfl) dL_law_605 h (kI (fun r19 S19 h => j_istore (lv2 := [(5, vI r19), (0, vA x0), (1, vA x1), (2, vA x2), (3, vA x3), (4, vI x4)]) dL_law_608 (by decide) rfl (j_aload_n 3 dL_law_610 rfl (j_aload_n 1 dL_law_611 rfl (j_iload 5 dL_law_612 rfl (j_iconst dL_law_614 (j_iadd dL_law_615 (j_sld dL_law_616 h (fun h => j_aload_n 1 dL_law_617 rfl (j_iload 5 dL_law_618 rfl (j_iconst dL_law_620 (j_iadd dL_law_621 (j_sld dL_law_622 h (fun h => j_callV (rest := []) 11 [vI (scr S19 (x4 + 1)), vI (scr S19 (x4 + 2))] k_RL_163 ⟨w_7_221, w_7_222⟩ ⟨_, _, rfl⟩ (by decide) rfl rfl (Nat.le_of_ble_eq_true rfl) dL_law_623 h (kI (fun r20 S20 h => j_istore (lv2 := [(6, vI r20), (5, vI r19), (0, vA x0), (1, vA x1), (2, vA x2), (3, vA x3), (4, vI x4)]) dL_law_626 (by decide) rfl (j_aload_n 4 dL_law_628 rfl (j_callV (rest := []) 11 [] k_RL_142 ⟨w_6_210, w_6_211⟩ ⟨_, _, rfl⟩ (by decide) rfl rfl (Nat.le_of_ble_eq_true rfl) dL_law_629 h (kI (fun r21 S21 h => j_iload 1 dL_law_632 rfl (j_icmp_eq (tgt := 639) dL_law_634 (by decide) h (fun h => j_iload 1 dL_law_639 rfl (j_if_ne (tgt := 656) dL_law_641 (by decide) h (fun h => j_sub [2, 3, 4, 5, 6] rfl (JL_law_656 ih _ _ _ _ _ _ h)) (fun h => j_aload_n 5 dL_law_644 rfl (j_iconst dL_law_645 (j_lald dL_law_646 h (fun h => j_iload 0 dL_law_647 rfl (j_i2l dL_law_649 (j_lcmp dL_law_650 (j_if_eq (tgt := 656) dL_law_651 (by decide) h (fun h => j_sub [2, 3, 4, 5, 6] rfl (JL_law_656 ih _ _ _ _ _ _ h)) (fun h => j_iconst dL_law_654 (j_lawretM dL_law_655 h))))))))))) (fun h => j_iconst dL_law_637 (j_lawretM dL_law_638 h))))) (fun _ _ h => h.elim))))) (fun _ _ h => h.elim)))))))))))))))))))))))))))) (fun hne7 h => j_tswC (cv := 8) (tgt := 659) dL_law_40 hr (by decide) (by decide) rfl (by decide) h (fun h => j_aload_n 1 dL_law_659 rfl (j_aload_n 0 dL_law_660 rfl (j_iload 4 dL_law_661 rfl (j_iconst dL_law_663 (j_iadd dL_law_664 (j_sld dL_law_665 h (fun h => j_aload_n 0 dL_law_666 rfl (j_iload 4 dL_law_667 rfl (j_iconst dL_law_669 (j_iadd dL_law_670 (j_sld dL_law_671 h (fun h => j_aload_n 0 dL_law_672 rfl (j_iload 4 dL_law_673 rfl (j_iconst dL_law_675 (j_iadd dL_law_676 (j_sld dL_law_677 h (fun h => j_aload_n 3 dL_law_678 rfl (j_callSW (rest := []) [vA x1, vI (scr S (x4 + 1)), vI (scr S (x4 + 2)), vI (scr S (x4 + 3)), vA x3] k_RL_164 w_5_115 rfl rfl (Nat.le_of_ble_eq_true rfl) dL_law_679 h (kI (fun r22 S22 h => j_istore (lv2 := [(5, vI r22), (0, vA x0), (1, vA x1), (2, vA x2), (3, vA x3), (4, vI x4)]) dL_law_682 (by decide) rfl (j_aload_n 3 dL_law_684 rfl (j_aload_n 1 dL_law_685 rfl (j_iload 5 dL_law_686 rfl (j_iconst dL_law_688 (j_iadd dL_law_689 (j_sld dL_law_690 h (fun h => j_aload_n 1 dL_law_691 rfl (j_iload 5 dL_law_692 rfl (j_iconst dL_law_694 (j_iadd dL_law_695 (j_sld dL_law_696 h (fun h => j_aload_n 1 dL_law_697 rfl (j_iload 5 dL_law_698 rfl (j_iconst dL_law_700 (j_iadd dL_law_701 (j_sld dL_law_702 h (fun h => j_callV (rest := []) 11 [vI (scr S22 (x4 + 1)), vI (scr S22 (x4 + 2)), vI (scr S22 (x4 + 3))] k_RL_166 ⟨w_8_13, w_8_14⟩ ⟨_, _, rfl⟩ (by decide) rfl rfl (Nat.le_of_ble_eq_true rfl) dL_law_703 h (kI (fun r23 S23 h => j_istore (lv2 := [(6, vI r23), (5, vI r22), (0, vA x0), (1, vA x1), (2, vA x2), (3, vA x3), (4, vI x4)]) dL_law_706 (by decide) rfl (j_aload_n 4 dL_law_708 rfl (j_callV (rest := []) 11 [] k_RL_142 ⟨w_6_210, w_6_211⟩ ⟨_, _, rfl⟩ (by decide) rfl rfl (Nat.le_of_ble_eq_true rfl) dL_law_709 h (kI (fun r24 S24 h => j_iload 1 dL_law_712 rfl (j_icmp_eq (tgt := 719) dL_law_714 (by decide) h (fun h => j_iload 1 dL_law_719 rfl (j_if_ne (tgt := 736) dL_law_721 (by decide) h (fun h => j_sub [2, 3, 4, 5, 6] rfl (JL_law_736 ih _ _ _ _ _ _ h)) (fun h => j_aload_n 5 dL_law_724 rfl (j_iconst dL_law_725 (j_lald dL_law_726 h (fun h => j_iload 0 dL_law_727 rfl (j_i2l dL_law_729 (j_lcmp dL_law_730 (j_if_eq (tgt := 736) dL_law_731 (by decide) h (fun h => j_sub [2, 3, 4, 5, 6] rfl (JL_law_736 ih _ _ _ _ _ _ h)) (fun h => j_iconst dL_law_734 (j_lawretM dL_law_735 h))))))))))) (fun h => j_iconst dL_law_717 (j_lawretM dL_law_718 h))))) (fun _ _ h => h.elim))))) (fun _ _ h => h.elim)))))))))))))))))))))))))))))))))))))) (fun hne8 h => j_tswC (cv := 9) (tgt := 739) dL_law_40 hr (by decide) (by decide) rfl (by decide) h (fun h => j_aload_n 1 dL_law_739 rfl (j_aload_n 0 dL_law_740 rfl (j_iload 4 dL_law_741 rfl (j_iconst dL_law_743 (j_iadd dL_law_744 (j_sld dL_law_745 h (fun h => j_aload_n 0 dL_law_746 rfl (j_iload 4 dL_law_747 rfl (j_iconst dL_law_749 (j_iadd dL_law_750 (j_sld dL_law_751 h (fun h => j_aload_n 3 dL_law_752 rfl (j_callSW (rest := []) [vA x1, vI (scr S (x4 + 1)), vI (scr S (x4 + 2)), vA x3] k_RL_167 w_5_125 rfl rfl (Nat.le_of_ble_eq_true rfl) dL_law_753 h (kI (fun r25 S25 h => j_istore (lv2 := [(5, vI r25), (0, vA x0), (1, vA x1), (2, vA x2), (3, vA x3), (4, vI x4)]) dL_law_756 (by decide) rfl (j_aload_n 3 dL_law_758 rfl (j_aload_n 1 dL_law_759 rfl (j_iload 5 dL_law_760 rfl (j_iconst dL_law_762 (j_iadd dL_law_763 (j_sld dL_law_764 h (fun h => j_aload_n 1 dL_law_765 rfl (j_iload 5 dL_law_766 rfl (j_iconst dL_law_768 (j_iadd dL_law_769 (j_sld dL_law_770 h (fun h => j_callV (rest := []) 11 [vI (scr S25 (x4 + 1)), vI (scr S25 (x4 + 2))] k_RL_169 ⟨w_8_17, w_8_18⟩ ⟨_, _, rfl⟩ (by decide) rfl rfl (Nat.le_of_ble_eq_true rfl) dL_law_771 h (kI (fun r26 S26 h => j_istore (lv2 := [(6, vI r26), (5, vI r25), (0, vA x0), (1, vA x1), (2, vA x2), (3, vA x3), (4, vI x4)]) dL_law_774 (by decide) rfl (j_aload_n 4 dL_law_776 rfl (j_callV (rest := []) 11 [] k_RL_142 ⟨w_6_210, w_6_211⟩ ⟨_, _, rfl⟩ (by decide) rfl rfl (Nat.le_of_ble_eq_true rfl) dL_law_777 h (kI (fun r27 S27 h => j_iload 1 dL_law_780 rfl (j_icmp_eq (tgt := 787) dL_law_782 (by decide) h (fun h => j_iload 1 dL_law_787 rfl (j_if_ne (tgt := 804) dL_law_789 (by decide) h (fun h => j_sub [2, 3, 4, 5, 6] rfl (JL_law_804 ih _ _ _ _ _ _ h)) (fun h => j_aload_n 5 dL_law_792 rfl (j_iconst dL_law_793 (j_lald dL_law_794 h (fun h => j_iload 0 dL_law_795 rfl (j_i2l dL_law_797 (j_lcmp dL_law_798 (j_if_eq (tgt := 804) dL_law_799 (by decide) h (fun h => j_sub [2, 3, 4, 5, 6] rfl (JL_law_804 ih _ _ _ _ _ _ h)) (fun h => j_iconst dL_law_802 (j_lawretM dL_law_803 h))))))))))) (fun h => j_iconst dL_law_785 (j_lawretM dL_law_786 h))))) (fun _ _ h => h.elim))))) (fun _ _ h => h.elim)))))))))))))))))))))))))))) (fun hne9 h => j_tswC (cv := 10) (tgt := 807) dL_law_40 hr (by decide) (by decide) rfl (by decide) h (fun h => j_aload_n 1 dL_law_807 rfl (j_aload_n 0 dL_law_808 rfl (j_iload 4 dL_law_809 rfl (j_iconst dL_law_811 (j_iadd dL_law_812 (j_sld dL_law_813 h (fun h => j_aload_n 3 dL_law_814 rfl (j_callSW (rest := []) [vA x1, vI (scr S (x4 + 1)), vA x3] k_RL_170 w_5_154 rfl rfl (Nat.le_of_ble_eq_true rfl) dL_law_815 h (kI (fun r28 S28 h => j_istore (lv2 := [(5, vI r28), (0, vA x0), (1, vA x1), (2, vA x2), (3, vA x3), (4, vI x4)]) dL_law_818 (by decide) rfl (j_aload_n 3 dL_law_820 rfl (j_aload_n 1 dL_law_821 rfl (j_iload 5 dL_law_822 rfl (j_iconst dL_law_824 (j_iadd dL_law_825 (j_sld dL_law_826 h (fun h => j_callV (rest := []) 11 [vI (scr S28 (x4 + 1))] k_RL_173 ⟨w_8_29, w_8_30⟩ ⟨_, _, rfl⟩ (by decide) rfl rfl (Nat.le_of_ble_eq_true rfl) dL_law_827 h (kI (fun r29 S29 h => j_istore (lv2 := [(6, vI r29), (5, vI r28), (0, vA x0), (1, vA x1), (2, vA x2), (3, vA x3), (4, vI x4)]) dL_law_830 (by decide) rfl (j_aload_n 4 dL_law_832 rfl (j_callV (rest := []) 11 [] k_RL_142 ⟨w_6_210, w_6_211⟩ ⟨_, _, rfl⟩ (by decide) rfl rfl (Nat.le_of_ble_eq_true rfl) dL_law_833 h (kI (fun r30 S30 h => j_iload 1 dL_law_836 rfl (j_icmp_eq (tgt := 843) dL_law_838 (by decide) h (fun h => j_iload 1 dL_law_843 rfl (j_if_ne (tgt := 860) dL_law_845 (by decide) h (fun h => j_sub [2, 3, 4, 5, 6] rfl (JL_law_860 ih _ _ _ _ _ _ h)) (fun h => j_aload_n 5 dL_law_848 rfl (j_iconst dL_law_849 (j_lald dL_law_850 h (fun h => j_iload 0 dL_law_851 rfl (j_i2l dL_law_853 (j_lcmp dL_law_854 (j_if_eq (tgt := 860) dL_law_855 (by decide) h (fun h => j_sub [2, 3, 4, 5, 6] rfl (JL_law_860 ih _ _ _ _ _ _ h)) (fun h => j_iconst dL_law_858 (j_lawretM dL_law_859 h))))))))))) (fun h => j_iconst dL_law_841 (j_lawretM dL_law_842 h))))) (fun _ _ h => h.elim))))) (fun _ _ h => h.elim)))))))))))))))))) (fun hne10 h => j_tswC (cv := 11) (tgt := 863) dL_law_40 hr (by decide) (by decide) rfl (by decide) h (fun h => j_aload_n 1 dL_law_863 rfl (j_callV (rest := []) 10 [] k_RL_174 ⟨w_2_52, w_2_53⟩ ⟨_, _, rfl⟩ (by decide) rfl rfl (Nat.le_of_ble_eq_true rfl) dL_law_864 h (kI (fun r31 S31 h => j_aload_n 2 dL_law_867 rfl (j_callV (rest := [vI r31]) 11 [] k_RL_177 ⟨w_8_37, w_8_38⟩ ⟨_, _, rfl⟩ (by decide) rfl rfl (Nat.le_of_ble_eq_true rfl) dL_law_868 h (kI (fun r32 S32 h => j_icmp_eq (tgt := 2634) dL_law_871 (by decide) h (fun h => JL_law_2634 ih _ _ _ _ _ _ h) (fun h => j_iconst dL_law_874 (j_lawretM dL_law_875 h)))) (fun _ _ h => h.elim)))) (fun _ _ h => h.elim))) (fun hne11 h => j_tswC (cv := 12) (tgt := 876) dL_law_40 hr (by decide) (by decide) rfl (by decide) h (fun h => j_aload_n 1 dL_law_876 rfl (j_aload_n 0 dL_law_877 rfl (j_iload 4 dL_law_878 rfl (j_iconst dL_law_880 (j_iadd dL_law_881 (j_sld dL_law_882 h (fun h => j_aload_n 0 dL_law_883 rfl (j_iload 4 dL_law_884 rfl (j_iconst dL_law_886 (j_iadd dL_law_887 (j_sld dL_law_888 h (fun h => j_aload_n 3 dL_law_889 rfl (j_callSW (rest := []) [vA x1, vI (scr S (x4 + 1)), vI (scr S (x4 + 2)), vA x3] k_RL_178 w_5_165 rfl rfl (Nat.le_of_ble_eq_true rfl) dL_law_890 h (kI (fun r33 S33 h => j_istore (lv2 := [(5, vI r33), (0, vA x0), (1, vA x1), (2, vA x2), (3, vA x3), (4, vI x4)]) dL_law_893 (by decide) rfl (j_aload_n 3 dL_law_895 rfl (j_aload_n 1 dL_law_896 rfl (j_iload 5 dL_law_897 rfl (j_iconst dL_law_899 (j_iadd dL_law_900 (j_sld dL_law_901 h (fun h => j_aload_n 1 dL_law_902 rfl (j_iload 5 dL_law_903 rfl (j_iconst dL_law_905 (j_iadd dL_law_906 (j_sld dL_law_907 h (fun h => j_callV (rest := []) 11 [vI (scr S33 (x4 + 1)), vI (scr S33 (x4 + 2))] k_RL_180 ⟨w_8_69, w_8_70⟩ ⟨_, _, rfl⟩ (by decide) rfl rfl (Nat.le_of_ble_eq_true rfl) dL_law_908 h (kI (fun r34 S34 h => j_istore (lv2 := [(6, vI r34), (5, vI r33), (0, vA x0), (1, vA x1), (2, vA x2), (3, vA x3), (4, vI x4)]) dL_law_911 (by decide) rfl (j_aload_n 4 dL_law_913 rfl (j_callV (rest := []) 11 [] k_RL_142 ⟨w_6_210, w_6_211⟩ ⟨_, _, rfl⟩ (by decide) rfl rfl (Nat.le_of_ble_eq_true rfl) dL_law_914 h (kI (fun r35 S35 h => j_iload 1 dL_law_917 rfl (j_icmp_eq (tgt := 924) dL_law_919 (by decide) h (fun h => j_iload 1 dL_law_924 rfl (j_if_ne (tgt := 941) dL_law_926 (by decide) h (fun h => j_sub [2, 3, 4, 5, 6] rfl (JL_law_941 ih _ _ _ _ _ _ h)) (fun h => j_aload_n 5 dL_law_929 rfl (j_iconst dL_law_930 (j_lald dL_law_931 h (fun h => j_iload 0 dL_law_932 rfl (j_i2l dL_law_934 (j_lcmp dL_law_935 (j_if_eq (tgt := 941) dL_law_936 (by decide) h (fun h => j_sub [2, 3, 4, 5, 6] rfl (JL_law_941 ih _ _ _ _ _ _ h)) (fun h => j_iconst dL_law_939 (j_lawretM dL_law_940 h))))))))))) (fun h => j_iconst dL_law_922 (j_lawretM dL_law_923 h))))) (fun _ _ h => h.elim))))) (fun _ _ h => h.elim)))))))))))))))))))))))))))) (fun hne12 h => j_tswC (cv := 13) (tgt := 944) dL_law_40 hr (by decide) (by decide) rfl (by decide) h (fun h => j_aload_n 1 dL_law_944 rfl (j_aload_n 3 dL_law_945 rfl (j_callSW (rest := []) [vA x1, vA x3] k_RL_181 w_5_176 rfl rfl (Nat.le_of_ble_eq_true rfl) dL_law_946 h (kI (fun r36 S36 h => j_istore (lv2 := [(5, vI r36), (0, vA x0), (1, vA x1), (2, vA x2), (3, vA x3), (4, vI x4)]) dL_law_949 (by decide) rfl (j_aload_n 3 dL_law_951 rfl (j_callV (rest := []) 11 [] k_RL_183 ⟨w_8_77, w_8_78⟩ ⟨_, _, rfl⟩ (by decide) rfl rfl (Nat.le_of_ble_eq_true rfl) dL_law_952 h (kI (fun r37 S37 h => j_istore (lv2 := [(6, vI r37), (5, vI r36), (0, vA x0), (1, vA x1), (2, vA x2), (3, vA x3), (4, vI x4)]) dL_law_955 (by decide) rfl (j_aload_n 4 dL_law_957 rfl (j_callV (rest := []) 11 [] k_RL_142 ⟨w_6_210, w_6_211⟩ ⟨_, _, rfl⟩ (by decide) rfl rfl (Nat.le_of_ble_eq_true rfl) dL_law_958 h (kI (fun r38 S38 h => j_iload 1 dL_law_961 rfl (j_icmp_eq (tgt := 968) dL_law_963 (by decide) h (fun h => j_iload 1 dL_law_968 rfl (j_if_ne (tgt := 992) dL_law_970 (by decide) h (fun h => j_sub [2, 3, 4, 5, 6] rfl (JL_law_992 ih _ _ _ _ _ _ h)) (fun h => j_aload_n 5 dL_law_973 rfl (j_iconst dL_law_974 (j_lald dL_law_975 h (fun h => j_iload 0 dL_law_976 rfl (j_if_eq (tgt := 985) dL_law_978 (by decide) h (fun h => j_lconst dL_law_985 rfl (j_sub [2, 3, 4, 5, 6] rfl (JL_law_986 ih _ _ _ _ _ _ _ _ h))) (fun h => j_lconst dL_law_981 rfl (j_goto (tgt := 986) dL_law_982 (by decide) (j_sub [2, 3, 4, 5, 6] rfl (JL_law_986 ih _ _ _ _ _ _ _ _ h))))))))))) (fun h => j_iconst dL_law_966 (j_lawretM dL_law_967 h))))) (fun _ _ h => h.elim))))) (fun _ _ h => h.elim)))))))) (fun hne13 h => j_tswC (cv := 14) (tgt := 995) dL_law_40 hr (by decide) (by decide) rfl (by decide) h (fun h => j_aload_n 1 dL_law_995 rfl (j_aload_n 0 dL_law_996 rfl (j_iload 4 dL_law_997 rfl (j_iconst dL_law_999 (j_iadd dL_law_1000 (j_sld dL_law_1001 h (fun h => j_aload_n 3 dL_law_1002 rfl (j_callSW (rest := []) [vA x1, vI (scr S (x4 + 1)), vA x3] k_RL_184 w_5_196 rfl rfl (Nat.le_of_ble_eq_true rfl) dL_law_1003 h (kI (fun r39 S39 h => j_istore (lv2 := [(5, vI r39), (0, vA x0), (1, vA x1), (2, vA x2), (3, vA x3), (4, vI x4)]) dL_law_1006 (by decide) rfl (j_aload_n 3 dL_law_1008 rfl (j_aload_n 1 dL_law_1009 rfl (j_iload 5 dL_law_1010 rfl (j_iconst dL_law_1012 (j_iadd dL_law_1013 (j_sld dL_law_1014 h (fun h => j_callV (rest := []) 11 [vI (scr S39 (x4 + 1))] k_RL_186 ⟨w_8_85, w_8_86⟩ ⟨_, _, rfl⟩ (by decide) rfl rfl (Nat.le_of_ble_eq_true rfl) dL_law_1015 h (kI (fun r40 S40 h => j_istore (lv2 := [(6, vI r40), (5, vI r39), (0, vA x0), (1, vA x1), (2, vA x2), (3, vA x3), (4, vI x4)]) dL_law_1018 (by decide) rfl (j_aload_n 4 dL_law_1020 rfl (j_callV (rest := []) 11 [] k_RL_142 ⟨w_6_210, w_6_211⟩ ⟨_, _, rfl⟩ (by decide) rfl rfl (Nat.le_of_ble_eq_true rfl) dL_law_1021 h (kI (fun r41 S41 h => j_iload 1 dL_law_1024 rfl (j_icmp_eq (tgt := 1031) dL_law_1026 (by decide) h (fun h => j_iload 1 dL_law_1031 rfl (j_if_ne (tgt := 1048) dL_law_1033 (by decide) h (fun h => j_sub [2, 3, 4, 5, 6] rfl (JL_law_1048 ih _ _ _ _ _ _ h)) (fun h => j_aload_n 5 dL_law_1036 rfl (j_iconst dL_law_1037 (j_lald dL_law_1038 h (fun h => j_iload 0 dL_law_1039 rfl (j_i2l dL_law_1041 (j_lcmp dL_law_1042 (j_if_eq (tgt := 1048) dL_law_1043 (by decide) h (fun h => j_sub [2, 3, 4, 5, 6] rfl (JL_law_1048 ih _ _ _ _ _ _ h)) (fun h => j_iconst dL_law_1046 (j_lawretM dL_law_1047 h))))))))))) (fun h => j_iconst dL_law_1029 (j_lawretM dL_law_1030 h))))) (fun _ _ h => h.elim))))) (fun _ _ h => h.elim)))))))))))))))))) (fun hne14 h => j_tswC (cv := 15) (tgt := 1051) dL_law_40 hr (by decide) (by decide) rfl (by decide) h (fun h => j_aload_n 1 dL_law_1051 rfl (j_aload_n 0 dL_law_1052 rfl (j_iload 4 dL_law_1053 rfl (j_iconst dL_law_1055 (j_iadd dL_law_1056 (j_sld dL_law_1057 h (fun h => j_aload_n 0 dL_law_1058 rfl (j_iload 4 dL_law_1059 rfl (j_iconst dL_law_1061 (j_iadd dL_law_1062 (j_sld dL_law_1063 h (fun h => j_aload_n 3 dL_law_1064 rfl (j_callSW (rest := []) [vA x1, vI (scr S (x4 + 1)), vI (scr S (x4 + 2)), vA x3] k_RL_187 w_5_208 rfl rfl (Nat.le_of_ble_eq_true rfl) dL_law_1065 h (kI (fun r42 S42 h => j_istore (lv2 := [(5, vI r42), (0, vA x0), (1, vA x1), (2, vA x2), (3, vA x3), (4, vI x4)]) dL_law_1068 (by decide) rfl (j_aload_n 3 dL_law_1070 rfl (j_aload_n 1 dL_law_1071 rfl (j_iload 5 dL_law_1072 rfl (j_iconst dL_law_1074 (j_iadd dL_law_1075 (j_sld dL_law_1076 h (fun h => j_aload_n 1 dL_law_1077 rfl (j_iload 5 dL_law_1078 rfl (j_iconst dL_law_1080 (j_iadd dL_law_1081 (j_sld dL_law_1082 h (fun h => j_callV (rest := []) 11 [vI (scr S42 (x4 + 1)), vI (scr S42 (x4 + 2))] k_RL_189 ⟨w_8_93, w_8_94⟩ ⟨_, _, rfl⟩ (by decide) rfl rfl (Nat.le_of_ble_eq_true rfl) dL_law_1083 h (kI (fun r43 S43 h => j_istore (lv2 := [(6, vI r43), (5, vI r42), (0, vA x0), (1, vA x1), (2, vA x2), (3, vA x3), (4, vI x4)]) dL_law_1086 (by decide) rfl (j_aload_n 4 dL_law_1088 rfl (j_callV (rest := []) 11 [] k_RL_142 ⟨w_6_210, w_6_211⟩ ⟨_, _, rfl⟩ (by decide) rfl rfl (Nat.le_of_ble_eq_true rfl) dL_law_1089 h (kI (fun r44 S44 h => j_iload 1 dL_law_1092 rfl (j_icmp_eq (tgt := 1099) dL_law_1094 (by decide) h (fun h => j_iload 1 dL_law_1099 rfl (j_if_ne (tgt := 1116) dL_law_1101 (by decide) h (fun h => j_sub [2, 3, 4, 5, 6] rfl (JL_law_1116 ih _ _ _ _ _ _ h)) (fun h => j_aload_n 5 dL_law_1104 rfl (j_iconst dL_law_1105 (j_lald dL_law_1106 h (fun h => j_iload 0 dL_law_1107 rfl (j_i2l dL_law_1109 (j_lcmp dL_law_1110 (j_if_eq (tgt := 1116) dL_law_1111 (by decide) h (fun h => j_sub [2, 3, 4, 5, 6] rfl (JL_law_1116 ih _ _ _ _ _ _ h)) (fun h => j_iconst dL_law_1114 (j_lawretM dL_law_1115 h))))))))))) (fun h => j_iconst dL_law_1097 (j_lawretM dL_law_1098 h))))) (fun _ _ h => h.elim))))) (fun _ _ h => h.elim)))))))))))))))))))))))))))) (fun hne15 h => j_tswC (cv := 16) (tgt := 1119) dL_law_40 hr (by decide) (by decide) rfl (by decide) h (fun h => j_aload_n 1 dL_law_1119 rfl (j_aload_n 0 dL_law_1120 rfl (j_iload 4 dL_law_1121 rfl (j_iconst dL_law_1123 (j_iadd dL_law_1124 (j_sld dL_law_1125 h (fun h => j_aload_n 3 dL_law_1126 rfl (j_callSW (rest := []) [vA x1, vI (scr S (x4 + 1)), vA x3] k_RL_190 w_5_221 rfl rfl (Nat.le_of_ble_eq_true rfl) dL_law_1127 h (kI (fun r45 S45 h => j_istore (lv2 := [(5, vI r45), (0, vA x0), (1, vA x1), (2, vA x2), (3, vA x3), (4, vI x4)]) dL_law_1130 (by decide) rfl (j_aload_n 3 dL_law_1132 rfl (j_aload_n 1 dL_law_1133 rfl (j_iload 5 dL_law_1134 rfl (j_iconst dL_law_1136 (j_iadd dL_law_1137 (j_sld dL_law_1138 h (fun h => j_callV (rest := []) 11 [vI (scr S45 (x4 + 1))] k_RL_192 ⟨w_8_105, w_8_106⟩ ⟨_, _, rfl⟩ (by decide) rfl rfl (Nat.le_of_ble_eq_true rfl) dL_law_1139 h (kI (fun r46 S46 h => j_istore (lv2 := [(6, vI r46), (5, vI r45), (0, vA x0), (1, vA x1), (2, vA x2), (3, vA x3), (4, vI x4)]) dL_law_1142 (by decide) rfl (j_aload_n 4 dL_law_1144 rfl (j_callV (rest := []) 11 [] k_RL_142 ⟨w_6_210, w_6_211⟩ ⟨_, _, rfl⟩ (by decide) rfl rfl (Nat.le_of_ble_eq_true rfl) dL_law_1145 h (kI (fun r47 S47 h => j_iload 1 dL_law_1148 rfl (j_icmp_eq (tgt := 1155) dL_law_1150 (by decide) h (fun h => j_iload 1 dL_law_1155 rfl (j_if_ne (tgt := 1172) dL_law_1157 (by decide) h (fun h => j_sub [2, 3, 4, 5, 6] rfl (JL_law_1172 ih _ _ _ _ _ _ h)) (fun h => j_aload_n 5 dL_law_1160 rfl (j_iconst dL_law_1161 (j_lald dL_law_1162 h (fun h => j_iload 0 dL_law_1163 rfl (j_i2l dL_law_1165 (j_lcmp dL_law_1166 (j_if_eq (tgt := 1172) dL_law_1167 (by decide) h (fun h => j_sub [2, 3, 4, 5, 6] rfl (JL_law_1172 ih _ _ _ _ _ _ h)) (fun h => j_iconst dL_law_1170 (j_lawretM dL_law_1171 h))))))))))) (fun h => j_iconst dL_law_1153 (j_lawretM dL_law_1154 h))))) (fun _ _ h => h.elim))))) (fun _ _ h => h.elim)))))))))))))))))) (fun hne16 h => j_tswC (cv := 17) (tgt := 1175) dL_law_40 hr (by decide) (by decide) rfl (by decide) h (fun h => j_aload_n 1 dL_law_1175 rfl (j_callV (rest := []) 10 [] k_RL_193 ⟨w_3_21, w_3_22⟩ ⟨_, _, rfl⟩ (by decide) rfl rfl (Nat.le_of_ble_eq_true rfl) dL_law_1176 h (kI (fun r48 S48 h => j_aload_n 2 dL_law_1179 rfl (j_callV (rest := [vI r48]) 11 [] k_RL_196 ⟨w_8_109, w_8_110⟩ ⟨_, _, rfl⟩ (by decide) rfl rfl (Nat.le_of_ble_eq_true rfl) dL_law_1180 h (kI (fun r49 S49 h => j_icmp_eq (tgt := 2634) dL_law_1183 (by decide) h (fun h => JL_law_2634 ih _ _ _ _ _ _ h) (fun h => j_iconst dL_law_1186 (j_lawretM dL_law_1187 h)))) (fun _ _ h => h.elim)))) (fun _ _ h => h.elim))) (fun hne17 h => j_tswC (cv := 18) (tgt := 1188) dL_law_40 hr (by decide) (by decide) rfl (by decide) h (fun h => j_aload_n 1 dL_law_1188 rfl (j_callV (rest := []) 10 [] k_RL_197 ⟨w_3_37, w_3_38⟩ ⟨_, _, rfl⟩ (by decide) rfl rfl (Nat.le_of_ble_eq_true rfl) dL_law_1189 h (kI (fun r50 S50 h => j_aload_n 2 dL_law_1192 rfl (j_callV (rest := [vI r50]) 11 [] k_RL_200 ⟨w_8_141, w_8_142⟩ ⟨_, _, rfl⟩ (by decide) rfl rfl (Nat.le_of_ble_eq_true rfl) dL_law_1193 h (kI (fun r51 S51 h => j_icmp_eq (tgt := 2634) dL_law_1196 (by decide) h (fun h => JL_law_2634 ih _ _ _ _ _ _ h) (fun h => j_iconst dL_law_1199 (j_lawretM dL_law_1200 h)))) (fun _ _ h => h.elim)))) (fun _ _ h => h.elim))) (fun hne18 h => j_tswC (cv := 19) (tgt := 1201) dL_law_40 hr (by decide) (by decide) rfl (by decide) h (fun h => j_aload_n 1 dL_law_1201 rfl (j_callV (rest := []) 10 [] k_RL_201 ⟨w_3_50, w_3_51⟩ ⟨_, _, rfl⟩ (by decide) rfl rfl (Nat.le_of_ble_eq_true rfl) dL_law_1202 h (kI (fun r52 S52 h => j_aload_n 2 dL_law_1205 rfl (j_callV (rest := [vI r52]) 11 [] k_RL_204 ⟨w_8_149, w_8_150⟩ ⟨_, _, rfl⟩ (by decide) rfl rfl (Nat.le_of_ble_eq_true rfl) dL_law_1206 h (kI (fun r53 S53 h => j_icmp_eq (tgt := 2634) dL_law_1209 (by decide) h (fun h => JL_law_2634 ih _ _ _ _ _ _ h) (fun h => j_iconst dL_law_1212 (j_lawretM dL_law_1213 h)))) (fun _ _ h => h.elim)))) (fun _ _ h => h.elim))) (fun hne19 h => j_tswC (cv := 20) (tgt := 1214) dL_law_40 hr (by decide) (by decide) rfl (by decide) h (fun h => j_aload_n 1 dL_law_1214 rfl (j_callV (rest := []) 10 [] k_RL_205 ⟨w_3_59, w_3_60⟩ ⟨_, _, rfl⟩ (by decide) rfl rfl (Nat.le_of_ble_eq_true rfl) dL_law_1215 h (kI (fun r54 S54 h => j_aload_n 2 dL_law_1218 rfl (j_callV (rest := [vI r54]) 11 [] k_RL_208 ⟨w_8_157, w_8_158⟩ ⟨_, _, rfl⟩ (by decide) rfl rfl (Nat.le_of_ble_eq_true rfl) dL_law_1219 h (kI (fun r55 S55 h => j_icmp_eq (tgt := 2634) dL_law_1222 (by decide) h (fun h => JL_law_2634 ih _ _ _ _ _ _ h) (fun h => j_iconst dL_law_1225 (j_lawretM dL_law_1226 h)))) (fun _ _ h => h.elim)))) (fun _ _ h => h.elim))) (fun hne20 h => j_tswC (cv := 21) (tgt := 1227) dL_law_40 hr (by decide) (by decide) rfl (by decide) h (fun h => j_aload_n 1 dL_law_1227 rfl (j_callV (rest := []) 10 [] k_RL_209 ⟨w_3_85, w_3_86⟩ ⟨_, _, rfl⟩ (by decide) rfl rfl (Nat.le_of_ble_eq_true rfl) dL_law_1228 h (kI (fun r56 S56 h => j_aload_n 2 dL_law_1231 rfl (j_callV (rest := [vI r56]) 11 [] k_RL_212 ⟨w_8_169, w_8_170⟩ ⟨_, _, rfl⟩ (by decide) rfl rfl (Nat.le_of_ble_eq_true rfl) dL_law_1232 h (kI (fun r57 S57 h => j_icmp_eq (tgt := 2634) dL_law_1235 (by decide) h (fun h => JL_law_2634 ih _ _ _ _ _ _ h) (fun h => j_iconst dL_law_1238 (j_lawretM dL_law_1239 h)))) (fun _ _ h => h.elim)))) (fun _ _ h => h.elim))) (fun hne21 h => j_tswC (cv := 22) (tgt := 1240) dL_law_40 hr (by decide) (by decide) rfl (by decide) h (fun h => j_aload_n 1 dL_law_1240 rfl (j_callV (rest := []) 10 [] k_RL_213 ⟨w_3_96, w_3_97⟩ ⟨_, _, rfl⟩ (by decide) rfl rfl (Nat.le_of_ble_eq_true rfl) dL_law_1241 h (kI (fun r58 S58 h => j_aload_n 2 dL_law_1244 rfl (j_callV (rest := [vI r58]) 11 [] k_RL_216 ⟨w_8_181, w_8_182⟩ ⟨_, _, rfl⟩ (by decide) rfl rfl (Nat.le_of_ble_eq_true rfl) dL_law_1245 h (kI (fun r59 S59 h => j_icmp_eq (tgt := 2634) dL_law_1248 (by decide) h (fun h => JL_law_2634 ih _ _ _ _ _ _ h) (fun h => j_iconst dL_law_1251 (j_lawretM dL_law_1252 h)))) (fun _ _ h => h.elim)))) (fun _ _ h => h.elim))) (fun hne22 h => j_tswC (cv := 23) (tgt := 1253) dL_law_40 hr (by decide) (by decide) rfl (by decide) h (fun h => j_aload_n 1 dL_law_1253 rfl (j_callV (rest := []) 10 [] k_RL_217 ⟨w_3_123, w_3_124⟩ ⟨_, _, rfl⟩ (by decide) rfl rfl (Nat.le_of_ble_eq_true rfl) dL_law_1254 h (kI (fun r60 S60 h => j_aload_n 2 dL_law_1257 rfl (j_callV (rest := [vI r60]) 11 [] k_RL_220 ⟨w_8_185, w_8_186⟩ ⟨_, _, rfl⟩ (by decide) rfl rfl (Nat.le_of_ble_eq_true rfl) dL_law_1258 h (kI (fun r61 S61 h => j_icmp_eq (tgt := 2634) dL_law_1261 (by decide) h (fun h => JL_law_2634 ih _ _ _ _ _ _ h) (fun h => j_iconst dL_law_1264 (j_lawretM dL_law_1265 h)))) (fun _ _ h => h.elim)))) (fun _ _ h => h.elim))) (fun hne23 h => j_tswC (cv := 24) (tgt := 1266) dL_law_40 hr (by decide) (by decide) rfl (by decide) h (fun h => j_aload_n 1 dL_law_1266 rfl (j_aload_n 0 dL_law_1267 rfl (j_iload 4 dL_law_1268 rfl (j_iconst dL_law_1270 (j_iadd dL_law_1271 (j_sld dL_law_1272 h (fun h => j_aload_n 3 dL_law_1273 rfl (j_callSW (rest := []) [vA x1, vI (scr S (x4 + 1)), vA x3] k_RL_221 w_5_229 rfl rfl (Nat.le_of_ble_eq_true rfl) dL_law_1274 h (kI (fun r62 S62 h => j_istore (lv2 := [(5, vI r62), (0, vA x0), (1, vA x1), (2, vA x2), (3, vA x3), (4, vI x4)]) dL_law_1277 (by decide) rfl (j_aload_n 3 dL_law_1279 rfl (j_aload_n 1 dL_law_1280 rfl (j_iload 5 dL_law_1281 rfl (j_iconst dL_law_1283 (j_iadd dL_law_1284 (j_sld dL_law_1285 h (fun h => j_callV (rest := []) 11 [vI (scr S62 (x4 + 1))] k_RL_223 ⟨w_8_193, w_8_194⟩ ⟨_, _, rfl⟩ (by decide) rfl rfl (Nat.le_of_ble_eq_true rfl) dL_law_1286 h (kI (fun r63 S63 h => j_istore (lv2 := [(6, vI r63), (5, vI r62), (0, vA x0), (1, vA x1), (2, vA x2), (3, vA x3), (4, vI x4)]) dL_law_1289 (by decide) rfl (j_aload_n 4 dL_law_1291 rfl (j_callV (rest := []) 11 [] k_RL_142 ⟨w_6_210, w_6_211⟩ ⟨_, _, rfl⟩ (by decide) rfl rfl (Nat.le_of_ble_eq_true rfl) dL_law_1292 h (kI (fun r64 S64 h => j_iload 1 dL_law_1295 rfl (j_icmp_eq (tgt := 1302) dL_law_1297 (by decide) h (fun h => j_iload 1 dL_law_1302 rfl (j_if_ne (tgt := 1319) dL_law_1304 (by decide) h (fun h => j_sub [2, 3, 4, 5, 6] rfl (JL_law_1319 ih _ _ _ _ _ _ h)) (fun h => j_aload_n 5 dL_law_1307 rfl (j_iconst dL_law_1308 (j_lald dL_law_1309 h (fun h => j_iload 0 dL_law_1310 rfl (j_i2l dL_law_1312 (j_lcmp dL_law_1313 (j_if_eq (tgt := 1319) dL_law_1314 (by decide) h (fun h => j_sub [2, 3, 4, 5, 6] rfl (JL_law_1319 ih _ _ _ _ _ _ h)) (fun h => j_iconst dL_law_1317 (j_lawretM dL_law_1318 h))))))))))) (fun h => j_iconst dL_law_1300 (j_lawretM dL_law_1301 h))))) (fun _ _ h => h.elim))))) (fun _ _ h => h.elim)))))))))))))))))) (fun hne24 h => j_tswC (cv := 25) (tgt := 1322) dL_law_40 hr (by decide) (by decide) rfl (by decide) h (fun h => j_aload_n 1 dL_law_1322 rfl (j_aload_n 3 dL_law_1323 rfl (j_callSW (rest := []) [vA x1, vA x3] k_RL_224 w_6_1 rfl rfl (Nat.le_of_ble_eq_true rfl) dL_law_1324 h (kI (fun r65 S65 h => j_istore (lv2 := [(5, vI r65), (0, vA x0), (1, vA x1), (2, vA x2), (3, vA x3), (4, vI x4)]) dL_law_1327 (by decide) rfl (j_aload_n 3 dL_law_1329 rfl (j_callV (rest := []) 11 [] k_RL_226 ⟨w_8_209, w_8_210⟩ ⟨_, _, rfl⟩ (by decide) rfl rfl (Nat.le_of_ble_eq_true rfl) dL_law_1330 h (kI (fun r66 S66 h => j_istore (lv2 := [(6, vI r66), (5, vI r65), (0, vA x0), (1, vA x1), (2, vA x2), (3, vA x3), (4, vI x4)]) dL_law_1333 (by decide) rfl (j_aload_n 4 dL_law_1335 rfl (j_callV (rest := []) 11 [] k_RL_142 ⟨w_6_210, w_6_211⟩ ⟨_, _, rfl⟩ (by decide) rfl rfl (Nat.le_of_ble_eq_true rfl) dL_law_1336 h (kI (fun r67 S67 h => j_iload 1 dL_law_1339 rfl (j_icmp_eq (tgt := 1346) dL_law_1341 (by decide) h (fun h => j_iload 1 dL_law_1346 rfl (j_if_ne (tgt := 1363) dL_law_1348 (by decide) h (fun h => j_sub [2, 3, 4, 5, 6] rfl (JL_law_1363 ih _ _ _ _ _ _ h)) (fun h => j_aload_n 5 dL_law_1351 rfl (j_iconst dL_law_1352 (j_lald dL_law_1353 h (fun h => j_iload 0 dL_law_1354 rfl (j_i2l dL_law_1356 (j_lcmp dL_law_1357 (j_if_eq (tgt := 1363) dL_law_1358 (by decide) h (fun h => j_sub [2, 3, 4, 5, 6] rfl (JL_law_1363 ih _ _ _ _ _ _ h)) (fun h => j_iconst dL_law_1361 (j_lawretM dL_law_1362 h))))))))))) (fun h => j_iconst dL_law_1344 (j_lawretM dL_law_1345 h))))) (fun _ _ h => h.elim))))) (fun _ _ h => h.elim)))))))) (fun hne25 h => j_tswC (cv := 26) (tgt := 1366) dL_law_40 hr (by decide) (by decide) rfl (by decide) h (fun h => j_aload_n 1 dL_law_1366 rfl (j_aload_n 0 dL_law_1367 rfl (j_iload 4 dL_law_1368 rfl (j_iconst dL_law_1370 (j_iadd dL_law_1371 (j_sld dL_law_1372 h (fun h => j_aload_n 3 dL_law_1373 rfl (j_callSW (rest := []) [vA x1, vI (scr S (x4 + 1)), vA x3] k_RL_227 w_6_16 rfl rfl (Nat.le_of_ble_eq_true rfl) dL_law_1374 h (kI (fun r68 S68 h => j_istore (lv2 := [(5, vI r68), (0, vA x0), (1, vA x1), (2, vA x2), (3, vA x3), (4, vI x4)]) dL_law_1377 (by decide) rfl (j_aload_n 3 dL_law_1379 rfl (j_aload_n 1 dL_law_1380 rfl (j_iload 5 dL_law_1381 rfl (j_iconst dL_law_1383 (j_iadd dL_law_1384 (j_sld dL_law_1385 h (fun h => j_callV (rest := []) 11 [vI (scr S68 (x4 + 1))] k_RL_229 ⟨w_8_217, w_8_218⟩ ⟨_, _, rfl⟩ (by decide) rfl rfl (Nat.le_of_ble_eq_true rfl) dL_law_1386 h (kI (fun r69 S69 h => j_istore (lv2 := [(6, vI r69), (5, vI r68), (0, vA x0), (1, vA x1), (2, vA x2), (3, vA x3), (4, vI x4)]) dL_law_1389 (by decide) rfl (j_aload_n 4 dL_law_1391 rfl (j_callV (rest := []) 11 [] k_RL_142 ⟨w_6_210, w_6_211⟩ ⟨_, _, rfl⟩ (by decide) rfl rfl (Nat.le_of_ble_eq_true rfl) dL_law_1392 h (kI (fun r70 S70 h => j_iload 1 dL_law_1395 rfl (j_icmp_eq (tgt := 1402) dL_law_1397 (by decide) h (fun h => j_iload 1 dL_law_1402 rfl (j_if_ne (tgt := 1419) dL_law_1404 (by decide) h (fun h => j_sub [2, 3, 4, 5, 6] rfl (JL_law_1419 ih _ _ _ _ _ _ h)) (fun h => j_aload_n 5 dL_law_1407 rfl (j_iconst dL_law_1408 (j_lald dL_law_1409 h (fun h => j_iload 0 dL_law_1410 rfl (j_i2l dL_law_1412 (j_lcmp dL_law_1413 (j_if_eq (tgt := 1419) dL_law_1414 (by decide) h (fun h => j_sub [2, 3, 4, 5, 6] rfl (JL_law_1419 ih _ _ _ _ _ _ h)) (fun h => j_iconst dL_law_1417 (j_lawretM dL_law_1418 h))))))))))) (fun h => j_iconst dL_law_1400 (j_lawretM dL_law_1401 h))))) (fun _ _ h => h.elim))))) (fun _ _ h => h.elim)))))))))))))))))) (fun hne26 h => j_tswC (cv := 27) (tgt := 1422) dL_law_40 hr (by decide) (by decide) rfl (by decide) h (fun h => j_aload_n 1 dL_law_1422 rfl (j_aload_n 0 dL_law_1423 rfl (j_iload 4 dL_law_1424 rfl (j_iconst dL_law_1426 (j_iadd dL_law_1427 (j_sld dL_law_1428 h (fun h => j_aload_n 0 dL_law_1429 rfl (j_iload 4 dL_law_1430 rfl (j_iconst dL_law_1432 (j_iadd dL_law_1433 (j_sld dL_law_1434 h (fun h => j_aload_n 0 dL_law_1435 rfl (j_iload 4 dL_law_1436 rfl (j_iconst dL_law_1438 (j_iadd dL_law_1439 (j_sld dL_law_1440 h (fun h => j_if_eq (tgt := 1448) dL_law_1441 (by decide) h (fun h => j_iconst dL_law_1448 (JL_law_1449 ih _ _ _ _ _ _ _ _ _ _ h)) (fun h => j_iconst dL_law_1444 (j_goto (tgt := 1449) dL_law_1445 (by decide) (JL_law_1449 ih _ _ _ _ _ _ _ _ _ _ h)))))))))))))))))))) (fun hne27 h => j_tswC (cv := 28) (tgt := 1518) dL_law_40 hr (by decide) (by decide) rfl (by decide) h (fun h => j_aload_n 1 dL_law_1518 rfl (j_aload_n 0 dL_law_1519 rfl (j_iload 4 dL_law_1520 rfl (j_iconst dL_law_1522 (j_iadd dL_law_1523 (j_sld dL_law_1524 h (fun h => j_aload_n 3 dL_law_1525 rfl (j_callSW (rest := []) [vA x1, vI (scr S (x4 + 1)), vA x3] k_RL_234 w_6_40 rfl rfl (Nat.le_of_ble_eq_true rfl) dL_law_1526 h (kI (fun r71 S71 h => j_istore (lv2 := [(5, vI r71), (0, vA x0), (1, vA x1), (2, vA x2), (3, vA x3), (4, vI x4)]) dL_law_1529 (by decide) rfl (j_aload_n 3 dL_law_1531 rfl (j_aload_n 1 dL_law_1532 rfl (j_iload 5 dL_law_1533 rfl (j_iconst dL_law_1535 (j_iadd dL_law_1536 (j_sld dL_law_1537 h (fun h => j_callV (rest := []) 11 [vI (scr S71 (x4 + 1))] k_RL_236 ⟨w_8_230, w_8_231⟩ ⟨_, _, rfl⟩ (by decide) rfl rfl (Nat.le_of_ble_eq_true rfl) dL_law_1538 h (kI (fun r72 S72 h => j_istore (lv2 := [(6, vI r72), (5, vI r71), (0, vA x0), (1, vA x1), (2, vA x2), (3, vA x3), (4, vI x4)]) dL_law_1541 (by decide) rfl (j_aload_n 4 dL_law_1543 rfl (j_callV (rest := []) 11 [] k_RL_142 ⟨w_6_210, w_6_211⟩ ⟨_, _, rfl⟩ (by decide) rfl rfl (Nat.le_of_ble_eq_true rfl) dL_law_1544 h (kI (fun r73 S73 h => j_iload 1 dL_law_1547 rfl (j_icmp_eq (tgt := 1554) dL_law_1549 (by decide) h (fun h => j_iload 1 dL_law_1554 rfl (j_if_ne (tgt := 1571) dL_law_1556 (by decide) h (fun h => j_sub [2, 3, 4, 5, 6] rfl (JL_law_1571 ih _ _ _ _ _ _ h)) (fun h => j_aload_n 5 dL_law_1559 rfl (j_iconst dL_law_1560 (j_lald dL_law_1561 h (fun h => j_iload 0 dL_law_1562 rfl (j_i2l dL_law_1564 (j_lcmp dL_law_1565 (j_if_eq (tgt := 1571) dL_law_1566 (by decide) h (fun h => j_sub [2, 3, 4, 5, 6] rfl (JL_law_1571 ih _ _ _ _ _ _ h)) (fun h => j_iconst dL_law_1569 (j_lawretM dL_law_1570 h))))))))))) (fun h => j_iconst dL_law_1552 (j_lawretM dL_law_1553 h))))) (fun _ _ h => h.elim))))) (fun _ _ h => h.elim)))))))))))))))))) (fun hne28 h => j_tswC (cv := 29) (tgt := 1574) dL_law_40 hr (by decide) (by decide) rfl (by decide) h (fun h => j_aload_n 1 dL_law_1574 rfl (j_aload_n 0 dL_law_1575 rfl (j_iload 4 dL_law_1576 rfl (j_iconst dL_law_1578 (j_iadd dL_law_1579 (j_sld dL_law_1580 h (fun h => j_aload_n 3 dL_law_1581 rfl (j_callSW (rest := []) [vA x1, vI (scr S (x4 + 1)), vA x3] k_RL_237 w_6_52 rfl rfl (Nat.le_of_ble_eq_true rfl) dL_law_1582 h (kI (fun r74 S74 h => j_istore (lv2 := [(5, vI r74), (0, vA x0), (1, vA x1), (2, vA x2), (3, vA x3), (4, vI x4)]) dL_law_1585 (by decide) rfl (j_aload_n 3 dL_law_1587 rfl (j_aload_n 1 dL_law_1588 rfl (j_iload 5 dL_law_1589 rfl (j_iconst dL_law_1591 (j_iadd dL_law_1592 (j_sld dL_law_1593 h (fun h => j_callV (rest := []) 11 [vI (scr S74 (x4 + 1))] k_RL_239 ⟨w_8_238, w_8_239⟩ ⟨_, _, rfl⟩ (by decide) rfl rfl (Nat.le_of_ble_eq_true rfl) dL_law_1594 h (kI (fun r75 S75 h => j_istore (lv2 := [(6, vI r75), (5, vI r74), (0, vA x0), (1, vA x1), (2, vA x2), (3, vA x3), (4, vI x4)]) dL_law_1597 (by decide) rfl (j_aload_n 4 dL_law_1599 rfl (j_callV (rest := []) 11 [] k_RL_142 ⟨w_6_210, w_6_211⟩ ⟨_, _, rfl⟩ (by decide) rfl rfl (Nat.le_of_ble_eq_true rfl) dL_law_1600 h (kI (fun r76 S76 h => j_iload 1 dL_law_1603 rfl (j_icmp_eq (tgt := 1610) dL_law_1605 (by decide) h (fun h => j_iload 1 dL_law_1610 rfl (j_if_ne (tgt := 1627) dL_law_1612 (by decide) h (fun h => j_sub [2, 3, 4, 5, 6] rfl (JL_law_1627 ih _ _ _ _ _ _ h)) (fun h => j_aload_n 5 dL_law_1615 rfl (j_iconst dL_law_1616 (j_lald dL_law_1617 h (fun h => j_iload 0 dL_law_1618 rfl (j_i2l dL_law_1620 (j_lcmp dL_law_1621 (j_if_eq (tgt := 1627) dL_law_1622 (by decide) h (fun h => j_sub [2, 3, 4, 5, 6] rfl (JL_law_1627 ih _ _ _ _ _ _ h)) (fun h => j_iconst dL_law_1625 (j_lawretM dL_law_1626 h))))))))))) (fun h => j_iconst dL_law_1608 (j_lawretM dL_law_1609 h))))) (fun _ _ h => h.elim))))) (fun _ _ h => h.elim)))))))))))))))))) (fun hne29 h => j_tswC (cv := 30) (tgt := 1630) dL_law_40 hr (by decide) (by decide) rfl (by decide) h (fun h => j_aload_n 1 dL_law_1630 rfl (j_aload_n 0 dL_law_1631 rfl (j_iload 4 dL_law_1632 rfl (j_iconst dL_law_1634 (j_iadd dL_law_1635 (j_sld dL_law_1636 h (fun h => j_aload_n 3 dL_law_1637 rfl (j_callSW (rest := []) [vA x1, vI (scr S (x4 + 1)), vA x3] k_RL_240 w_6_87 rfl rfl (Nat.le_of_ble_eq_true rfl) dL_law_1638 h (kI (fun r77 S77 h => j_istore (lv2 := [(5, vI r77), (0, vA x0), (1, vA x1), (2, vA x2), (3, vA x3), (4, vI x4)]) dL_law_1641 (by decide) rfl (j_aload_n 3 dL_law_1643 rfl (j_aload_n 1 dL_law_1644 rfl (j_iload 5 dL_law_1645 rfl (j_iconst dL_law_1647 (j_iadd dL_law_1648 (j_sld dL_law_1649 h (fun h => j_callV (rest := []) 11 [vI (scr S77 (x4 + 1))] k_RL_242 ⟨w_9_29, w_9_30⟩ ⟨_, _, rfl⟩ (by decide) rfl rfl (Nat.le_of_ble_eq_true rfl) dL_law_1650 h (kI (fun r78 S78 h => j_istore (lv2 := [(6, vI r78), (5, vI r77), (0, vA x0), (1, vA x1), (2, vA x2), (3, vA x3), (4, vI x4)]) dL_law_1653 (by decide) rfl (j_aload_n 4 dL_law_1655 rfl (j_callV (rest := []) 11 [] k_RL_142 ⟨w_6_210, w_6_211⟩ ⟨_, _, rfl⟩ (by decide) rfl rfl (Nat.le_of_ble_eq_true rfl) dL_law_1656 h (kI (fun r79 S79 h => j_iload 1 dL_law_1659 rfl (j_icmp_eq (tgt := 1666) dL_law_1661 (by decide) h (fun h => j_iload 1 dL_law_1666 rfl (j_if_ne (tgt := 1683) dL_law_1668 (by decide) h (fun h => j_sub [2, 3, 4, 5, 6] rfl (JL_law_1683 ih _ _ _ _ _ _ h)) (fun h => j_aload_n 5 dL_law_1671 rfl (j_iconst dL_law_1672 (j_lald dL_law_1673 h (fun h => j_iload 0 dL_law_1674 rfl (j_i2l dL_law_1676 (j_lcmp dL_law_1677 (j_if_eq (tgt := 1683) dL_law_1678 (by decide) h (fun h => j_sub [2, 3, 4, 5, 6] rfl (JL_law_1683 ih _ _ _ _ _ _ h)) (fun h => j_iconst dL_law_1681 (j_lawretM dL_law_1682 h))))))))))) (fun h => j_iconst dL_law_1664 (j_lawretM dL_law_1665 h))))) (fun _ _ h => h.elim))))) (fun _ _ h => h.elim)))))))))))))))))) (fun hne30 h => j_tswC (cv := 31) (tgt := 1686) dL_law_40 hr (by decide) (by decide) rfl (by decide) h (fun h => j_aload_n 1 dL_law_1686 rfl (j_aload_n 0 dL_law_1687 rfl (j_iload 4 dL_law_1688 rfl (j_iconst dL_law_1690 (j_iadd dL_law_1691 (j_sld dL_law_1692 h (fun h => j_aload_n 3 dL_law_1693 rfl (j_callSW (rest := []) [vA x1, vI (scr S (x4 + 1)), vA x3] k_RL_243 w_6_95 rfl rfl (Nat.le_of_ble_eq_true rfl) dL_law_1694 h (kI (fun r80 S80 h => j_istore (lv2 := [(5, vI r80), (0, vA x0), (1, vA x1), (2, vA x2), (3, vA x3), (4, vI x4)]) dL_law_1697 (by decide) rfl (j_aload_n 3 dL_law_1699 rfl (j_aload_n 1 dL_law_1700 rfl (j_iload 5 dL_law_1701 rfl (j_iconst dL_law_1703 (j_iadd dL_law_1704 (j_sld dL_law_1705 h (fun h => j_callV (rest := []) 11 [vI (scr S80 (x4 + 1))] k_RL_245 ⟨w_9_33, w_9_34⟩ ⟨_, _, rfl⟩ (by decide) rfl rfl (Nat.le_of_ble_eq_true rfl) dL_law_1706 h (kI (fun r81 S81 h => j_istore (lv2 := [(6, vI r81), (5, vI r80), (0, vA x0), (1, vA x1), (2, vA x2), (3, vA x3), (4, vI x4)]) dL_law_1709 (by decide) rfl (j_aload_n 4 dL_law_1711 rfl (j_callV (rest := []) 11 [] k_RL_142 ⟨w_6_210, w_6_211⟩ ⟨_, _, rfl⟩ (by decide) rfl rfl (Nat.le_of_ble_eq_true rfl) dL_law_1712 h (kI (fun r82 S82 h => j_iload 1 dL_law_1715 rfl (j_icmp_eq (tgt := 1722) dL_law_1717 (by decide) h (fun h => j_iload 1 dL_law_1722 rfl (j_if_ne (tgt := 1739) dL_law_1724 (by decide) h (fun h => j_sub [2, 3, 4, 5, 6] rfl (JL_law_1739 ih _ _ _ _ _ _ h)) (fun h => j_aload_n 5 dL_law_1727 rfl (j_iconst dL_law_1728 (j_lald dL_law_1729 h (fun h => j_iload 0 dL_law_1730 rfl (j_i2l dL_law_1732 (j_lcmp dL_law_1733 (j_if_eq (tgt := 1739) dL_law_1734 (by decide) h (fun h => j_sub [2, 3, 4, 5, 6] rfl (JL_law_1739 ih _ _ _ _ _ _ h)) (fun h => j_iconst dL_law_1737 (j_lawretM dL_law_1738 h))))))))))) (fun h => j_iconst dL_law_1720 (j_lawretM dL_law_1721 h))))) (fun _ _ h => h.elim))))) (fun _ _ h => h.elim)))))))))))))))))) (fun hne31 h => j_tswC (cv := 32) (tgt := 1742) dL_law_40 hr (by decide) (by decide) rfl (by decide) h (fun h => j_aload_n 1 dL_law_1742 rfl (j_aload_n 0 dL_law_1743 rfl (j_iload 4 dL_law_1744 rfl (j_iconst dL_law_1746 (j_iadd dL_law_1747 (j_sld dL_law_1748 h (fun h => j_aload_n 0 dL_law_1749 rfl (j_iload 4 dL_law_1750 rfl (j_iconst dL_law_1752 (j_iadd dL_law_1753 (j_sld dL_law_1754 h (fun h => j_aload_n 3 dL_law_1755 rfl (j_callSW (rest := []) [vA x1, vI (scr S (x4 + 1)), vI (scr S (x4 + 2)), vA x3] k_RL_246 w_6_102 rfl rfl (Nat.le_of_ble_eq_true rfl) dL_law_1756 h (kI (fun r83 S83 h => j_istore (lv2 := [(5, vI r83), (0, vA x0), (1, vA x1), (2, vA x2), (3, vA x3), (4, vI x4)]) dL_law_1759 (by decide) rfl (j_aload_n 3 dL_law_1761 rfl (j_aload_n 1 dL_law_1762 rfl (j_iload 5 dL_law_1763 rfl (j_iconst dL_law_1765 (j_iadd dL_law_1766 (j_sld dL_law_1767 h (fun h => j_aload_n 1 dL_law_1768 rfl (j_iload 5 dL_law_1769 rfl (j_iconst dL_law_1771 (j_iadd dL_law_1772 (j_sld dL_law_1773 h (fun h => j_callV (rest := []) 11 [vI (scr S83 (x4 + 1)), vI (scr S83 (x4 + 2))] k_RL_248 ⟨w_9_73, w_9_74⟩ ⟨_, _, rfl⟩ (by decide) rfl rfl (Nat.le_of_ble_eq_true rfl) dL_law_1774 h (kI (fun r84 S84 h => j_istore (lv2 := [(6, vI r84), (5, vI r83), (0, vA x0), (1, vA x1), (2, vA x2), (3, vA x3), (4, vI x4)]) dL_law_1777 (by decide) rfl (j_aload_n 4 dL_law_1779 rfl (j_callV (rest := []) 11 [] k_RL_142 ⟨w_6_210, w_6_211⟩ ⟨_, _, rfl⟩ (by decide) rfl rfl (Nat.le_of_ble_eq_true rfl) dL_law_1780 h (kI (fun r85 S85 h => j_iload 1 dL_law_1783 rfl (j_icmp_eq (tgt := 1790) dL_law_1785 (by decide) h (fun h => j_iload 1 dL_law_1790 rfl (j_if_ne (tgt := 1814) dL_law_1792 (by decide) h (fun h => j_sub [2, 3, 4, 5, 6] rfl (JL_law_1814 ih _ _ _ _ _ _ h)) (fun h => j_aload_n 5 dL_law_1795 rfl (j_iconst dL_law_1796 (j_lald dL_law_1797 h (fun h => j_iload 0 dL_law_1798 rfl (j_if_eq (tgt := 1807) dL_law_1800 (by decide) h (fun h => j_lconst dL_law_1807 rfl (j_sub [2, 3, 4, 5, 6] rfl (JL_law_1808 ih _ _ _ _ _ _ _ _ h))) (fun h => j_lconst dL_law_1803 rfl (j_goto (tgt := 1808) dL_law_1804 (by decide) (j_sub [2, 3, 4, 5, 6] rfl (JL_law_1808 ih _ _ _ _ _ _ _ _ h))))))))))) (fun h => j_iconst dL_law_1788 (j_lawretM dL_law_1789 h))))) (fun _ _ h => h.elim))))) (fun _ _ h => h.elim)))))))))))))))))))))))))))) (fun hne32 h => j_tswC (cv := 33) (tgt := 1817) dL_law_40 hr (by decide) (by decide) rfl (by decide) h (fun h => j_aload_n 1 dL_law_1817 rfl (j_aload_n 0 dL_law_1818 rfl (j_iload 4 dL_law_1819 rfl (j_iconst dL_law_1821 (j_iadd dL_law_1822 (j_sld dL_law_1823 h (fun h => j_aload_n 0 dL_law_1824 rfl (j_iload 4 dL_law_1825 rfl (j_iconst dL_law_1827 (j_iadd dL_law_1828 (j_sld dL_law_1829 h (fun h => j_aload_n 3 dL_law_1830 rfl (j_callSW (rest := []) [vA x1, vI (scr S (x4 + 1)), vI (scr S (x4 + 2)), vA x3] k_RL_249 w_6_113 rfl rfl (Nat.le_of_ble_eq_true rfl) dL_law_1831 h (kI (fun r86 S86 h => j_istore (lv2 := [(5, vI r86), (0, vA x0), (1, vA x1), (2, vA x2), (3, vA x3), (4, vI x4)]) dL_law_1834 (by decide) rfl (j_aload_n 3 dL_law_1836 rfl (j_aload_n 1 dL_law_1837 rfl (j_iload 5 dL_law_1838 rfl (j_iconst dL_law_1840 (j_iadd dL_law_1841 (j_sld dL_law_1842 h (fun h => j_aload_n 1 dL_law_1843 rfl (j_iload 5 dL_law_1844 rfl (j_iconst dL_law_1846 (j_iadd dL_law_1847 (j_sld dL_law_1848 h (fun h => j_callV (rest := []) 11 [vI (scr S86 (x4 + 1)), vI (scr S86 (x4 + 2))] k_RL_251 ⟨w_9_77, w_9_78⟩ ⟨_, _, rfl⟩ (by decide) rfl rfl (Nat.le_of_ble_eq_true rfl) dL_law_1849 h (kI (fun r87 S87 h => j_istore (lv2 := [(6, vI r87), (5, vI r86), (0, vA x0), (1, vA x1), (2, vA x2), (3, vA x3), (4, vI x4)]) dL_law_1852 (by decide) rfl (j_aload_n 4 dL_law_1854 rfl (j_callV (rest := []) 11 [] k_RL_142 ⟨w_6_210, w_6_211⟩ ⟨_, _, rfl⟩ (by decide) rfl rfl (Nat.le_of_ble_eq_true rfl) dL_law_1855 h (kI (fun r88 S88 h => j_iload 1 dL_law_1858 rfl (j_icmp_eq (tgt := 1865) dL_law_1860 (by decide) h (fun h => j_iload 1 dL_law_1865 rfl (j_if_ne (tgt := 1882) dL_law_1867 (by decide) h (fun h => j_sub [2, 3, 4, 5, 6] rfl (JL_law_1882 ih _ _ _ _ _ _ h)) (fun h => j_aload_n 5 dL_law_1870 rfl (j_iconst dL_law_1871 (j_lald dL_law_1872 h (fun h => j_iload 0 dL_law_1873 rfl (j_i2l dL_law_1875 (j_lcmp dL_law_1876 (j_if_eq (tgt := 1882) dL_law_1877 (by decide) h (fun h => j_sub [2, 3, 4, 5, 6] rfl (JL_law_1882 ih _ _ _ _ _ _ h)) (fun h => j_iconst dL_law_1880 (j_lawretM dL_law_1881 h))))))))))) (fun h => j_iconst dL_law_1863 (j_lawretM dL_law_1864 h))))) (fun _ _ h => h.elim))))) (fun _ _ h => h.elim)))))))))))))))))))))))))))) (fun hne33 h => j_tswC (cv := 34) (tgt := 1885) dL_law_40 hr (by decide) (by decide) rfl (by decide) h (fun h => j_aload_n 1 dL_law_1885 rfl (j_aload_n 0 dL_law_1886 rfl (j_iload 4 dL_law_1887 rfl (j_iconst dL_law_1889 (j_iadd dL_law_1890 (j_sld dL_law_1891 h (fun h => j_aload_n 3 dL_law_1892 rfl (j_callSW (rest := []) [vA x1, vI (scr S (x4 + 1)), vA x3] k_RL_252 w_6_120 rfl rfl (Nat.le_of_ble_eq_true rfl) dL_law_1893 h (kI (fun r89 S89 h => j_istore (lv2 := [(5, vI r89), (0, vA x0), (1, vA x1), (2, vA x2), (3, vA x3), (4, vI x4)]) dL_law_1896 (by decide) rfl (j_aload_n 3 dL_law_1898 rfl (j_aload_n 1 dL_law_1899 rfl (j_iload 5 dL_law_1900 rfl (j_iconst dL_law_1902 (j_iadd dL_law_1903 (j_sld dL_law_1904 h (fun h => j_callV (rest := []) 11 [vI (scr S89 (x4 + 1))] k_RL_254 ⟨w_9_81, w_9_82⟩ ⟨_, _, rfl⟩ (by decide) rfl rfl (Nat.le_of_ble_eq_true rfl) dL_law_1905 h (kI (fun r90 S90 h => j_istore (lv2 := [(6, vI r90), (5, vI r89), (0, vA x0), (1, vA x1), (2, vA x2), (3, vA x3), (4, vI x4)]) dL_law_1908 (by decide) rfl (j_aload_n 4 dL_law_1910 rfl (j_callV (rest := []) 11 [] k_RL_142 ⟨w_6_210, w_6_211⟩ ⟨_, _, rfl⟩ (by decide) rfl rfl (Nat.le_of_ble_eq_true rfl) dL_law_1911 h (kI (fun r91 S91 h => j_iload 1 dL_law_1914 rfl (j_icmp_eq (tgt := 1921) dL_law_1916 (by decide) h (fun h => j_iload 1 dL_law_1921 rfl (j_if_ne (tgt := 1938) dL_law_1923 (by decide) h (fun h => j_sub [2, 3, 4, 5, 6] rfl (JL_law_1938 ih _ _ _ _ _ _ h)) (fun h => j_aload_n 5 dL_law_1926 rfl (j_iconst dL_law_1927 (j_lald dL_law_1928 h (fun h => j_iload 0 dL_law_1929 rfl (j_i2l dL_law_1931 (j_lcmp dL_law_1932 (j_if_eq (tgt := 1938) dL_law_1933 (by decide) h (fun h => j_sub [2, 3, 4, 5, 6] rfl (JL_law_1938 ih _ _ _ _ _ _ h)) (fun h => j_iconst dL_law_1936 (j_lawretM dL_law_1937 h))))))))))) (fun h => j_iconst dL_law_1919 (j_lawretM dL_law_1920 h))))) (fun _ _ h => h.elim))))) (fun _ _ h => h.elim)))))))))))))))))) (fun hne34 h => j_tswC (cv := 35) (tgt := 1941) dL_law_40 hr (by decide) (by decide) rfl (by decide) h (fun h => j_aload_n 1 dL_law_1941 rfl (j_aload_n 0 dL_law_1942 rfl (j_iload 4 dL_law_1943 rfl (j_iconst dL_law_1945 (j_iadd dL_law_1946 (j_sld dL_law_1947 h (fun h => j_aload_n 3 dL_law_1948 rfl (j_callSW (rest := []) [vA x1, vI (scr S (x4 + 1)), vA x3] k_RL_255 w_6_141 rfl rfl (Nat.le_of_ble_eq_true rfl) dL_law_1949 h (kI (fun r92 S92 h => j_istore (lv2 := [(5, vI r92), (0, vA x0), (1, vA x1), (2, vA x2), (3, vA x3), (4, vI x4)]) dL_law_1952 (by decide) rfl (j_aload_n 3 dL_law_1954 rfl (j_aload_n 1 dL_law_1955 rfl (j_iload 5 dL_law_1956 rfl (j_iconst dL_law_1958 (j_iadd dL_law_1959 (j_sld dL_law_1960 h (fun h => j_callV (rest := []) 11 [vI (scr S92 (x4 + 1))] k_RL_257 ⟨w_9_93, w_9_94⟩ ⟨_, _, rfl⟩ (by decide) rfl rfl (Nat.le_of_ble_eq_true rfl) dL_law_1961 h (kI (fun r93 S93 h => j_istore (lv2 := [(6, vI r93), (5, vI r92), (0, vA x0), (1, vA x1), (2, vA x2), (3, vA x3), (4, vI x4)]) dL_law_1964 (by decide) rfl (j_aload_n 4 dL_law_1966 rfl (j_callV (rest := []) 11 [] k_RL_142 ⟨w_6_210, w_6_211⟩ ⟨_, _, rfl⟩ (by decide) rfl rfl (Nat.le_of_ble_eq_true rfl) dL_law_1967 h (kI (fun r94 S94 h => j_iload 1 dL_law_1970 rfl (j_icmp_eq (tgt := 1977) dL_law_1972 (by decide) h (fun h => j_iload 1 dL_law_1977 rfl (j_if_ne (tgt := 1994) dL_law_1979 (by decide) h (fun h => j_sub [2, 3, 4, 5, 6] rfl (JL_law_1994 ih _ _ _ _ _ _ h)) (fun h => j_aload_n 5 dL_law_1982 rfl (j_iconst dL_law_1983 (j_lald dL_law_1984 h (fun h => j_iload 0 dL_law_1985 rfl (j_i2l dL_law_1987 (j_lcmp dL_law_1988 (j_if_eq (tgt := 1994) dL_law_1989 (by decide) h (fun h => j_sub [2, 3, 4, 5, 6] rfl (JL_law_1994 ih _ _ _ _ _ _ h)) (fun h => j_iconst dL_law_1992 (j_lawretM dL_law_1993 h))))))))))) (fun h => j_iconst dL_law_1975 (j_lawretM dL_law_1976 h))))) (fun _ _ h => h.elim))))) (fun _ _ h => h.elim)))))))))))))))))) (fun hne35 h => j_tswC (cv := 36) (tgt := 1997) dL_law_40 hr (by decide) (by decide) rfl (by decide) h (fun h => j_aload_n 1 dL_law_1997 rfl (j_aload_n 0 dL_law_1998 rfl (j_iload 4 dL_law_1999 rfl (j_iconst dL_law_2001 (j_iadd dL_law_2002 (j_sld dL_law_2003 h (fun h => j_aload_n 0 dL_law_2004 rfl (j_iload 4 dL_law_2005 rfl (j_iconst dL_law_2007 (j_iadd dL_law_2008 (j_sld dL_law_2009 h (fun h => j_aload_n 0 dL_law_2010 rfl (j_iload 4 dL_law_2011 rfl (j_iconst dL_law_2013 (j_iadd dL_law_2014 (j_sld dL_law_2015 h (fun h => j_aload_n 0 dL_law_2016 rfl (j_iload 4 dL_law_2017 rfl (j_iconst dL_law_2019 (j_iadd dL_law_2020 (j_sld dL_law_2021 h (fun h => j_aload_n 3 dL_law_2022 rfl (j_callSW (rest := []) [vA x1, vI (scr S (x4 + 1)), vI (scr S (x4 + 2)), vI (scr S (x4 + 3)), vI (scr S (x4 + 4)), vA x3] k_RL_258 w_6_148 rfl rfl (Nat.le_of_ble_eq_true rfl) dL_law_2023 h (kI (fun r95 S95 h => j_istore (lv2 := [(5, vI r95), (0, vA x0), (1, vA x1), (2, vA x2), (3, vA x3), (4, vI x4)]) dL_law_2026 (by decide) rfl (j_aload_n 3 dL_law_2028 rfl (j_aload_n 1 dL_law_2029 rfl (j_iload 5 dL_law_2030 rfl (j_iconst dL_law_2032 (j_iadd dL_law_2033 (j_sld dL_law_2034 h (fun h => j_aload_n 1 dL_law_2035 rfl (j_iload 5 dL_law_2036 rfl (j_iconst dL_law_2038 (j_iadd dL_law_2039 (j_sld dL_law_2040 h (fun h => j_aload_n 1 dL_law_2041 rfl (j_iload 5 dL_law_2042 rfl (j_iconst dL_law_2044 (j_iadd dL_law_2045 (j_sld dL_law_2046 h (fun h => j_aload_n 1 dL_law_2047 rfl (j_iload 5 dL_law_2048 rfl (j_iconst dL_law_2050 (j_iadd dL_law_2051 (j_sld dL_law_2052 h (fun h => j_callV (rest := []) 11 [vI (scr S95 (x4 + 1)), vI (scr S95 (x4 + 2)), vI (scr S95 (x4 + 3)), vI (scr S95 (x4 + 4))] k_RL_261 ⟨w_9_97, w_9_98⟩ ⟨_, _, rfl⟩ (by decide) rfl rfl (Nat.le_of_ble_eq_true rfl) dL_law_2053 h (kI (fun r96 S96 h => j_istore (lv2 := [(6, vI r96), (5, vI r95), (0, vA x0), (1, vA x1), (2, vA x2), (3, vA x3), (4, vI x4)]) dL_law_2056 (by decide) rfl (j_aload_n 4 dL_law_2058 rfl (j_callV (rest := []) 11 [] k_RL_142 ⟨w_6_210, w_6_211⟩ ⟨_, _, rfl⟩ (by decide) rfl rfl (Nat.le_of_ble_eq_true rfl) dL_law_2059 h (kI (fun r97 S97 h => j_iload 1 dL_law_2062 rfl (j_icmp_eq (tgt := 2069) dL_law_2064 (by decide) h (fun h => j_iload 1 dL_law_2069 rfl (j_if_ne (tgt := 2086) dL_law_2071 (by decide) h (fun h => j_sub [2, 3, 4, 5, 6] rfl (JL_law_2086 ih _ _ _ _ _ _ h)) (fun h => j_aload_n 5 dL_law_2074 rfl (j_iconst dL_law_2075 (j_lald dL_law_2076 h (fun h => j_iload 0 dL_law_2077 rfl (j_i2l dL_law_2079 (j_lcmp dL_law_2080 (j_if_eq (tgt := 2086) dL_law_2081 (by decide) h (fun h => j_sub [2, 3, 4, 5, 6] rfl (JL_law_2086 ih _ _ _ _ _ _ h)) (fun h => j_iconst dL_law_2084 (j_lawretM dL_law_2085 h))))))))))) (fun h => j_iconst dL_law_2067 (j_lawretM dL_law_2068 h))))) (fun _ _ h => h.elim))))) (fun _ _ h => h.elim)))))))))))))))))))))))))))))))))))))))))))))))) (fun hne36 h => j_tswC (cv := 37) (tgt := 2089) dL_law_40 hr (by decide) (by decide) rfl (by decide) h (fun h => j_aload_n 1 dL_law_2089 rfl (j_aload_n 0 dL_law_2090 rfl (j_iload 4 dL_law_2091 rfl (j_iconst dL_law_2093 (j_iadd dL_law_2094 (j_sld dL_law_2095 h (fun h => j_if_eq (tgt := 2103) dL_law_2096 (by decide) h (fun h => j_iconst dL_law_2103 (JL_law_2104 ih _ _ _ _ _ _ _ _ h)) (fun h => j_iconst dL_law_2099 (j_goto (tgt := 2104) dL_law_2100 (by decide) (JL_law_2104 ih _ _ _ _ _ _ _ _ h)))))))))) (fun hne37 h => j_tswC (cv := 38) (tgt := 2130) dL_law_40 hr (by decide) (by decide) rfl (by decide) h (fun h => j_aload_n 1 dL_law_2130 rfl (j_aload_n 0 dL_law_2131 rfl (j_iload 4 dL_law_2132 rfl (j_iconst dL_law_2134 (j_iadd dL_law_2135 (j_sld dL_law_2136 h (fun h => j_callV (rest := []) 10 [vI (scr S (x4 + 1))] k_RL_267 ⟨w_3_148, w_3_149⟩ ⟨_, _, rfl⟩ (by decide) rfl rfl (Nat.le_of_ble_eq_true rfl) dL_law_2137 h (kI (fun r98 S98 h => j_aload_n 2 dL_law_2140 rfl (j_aload_n 0 dL_law_2141 rfl (j_iload 4 dL_law_2142 rfl (j_iconst dL_law_2144 (j_iadd dL_law_2145 (j_sld dL_law_2146 h (fun h => j_callV (rest := [vI r98]) 11 [vI (scr S98 (x4 + 1))] k_RL_270 ⟨w_8_121, w_8_122⟩ ⟨_, _, rfl⟩ (by decide) rfl rfl (Nat.le_of_ble_eq_true rfl) dL_law_2147 h (kI (fun r99 S99 h => j_icmp_eq (tgt := 2634) dL_law_2150 (by decide) h (fun h => JL_law_2634 ih _ _ _ _ _ _ h) (fun h => j_iconst dL_law_2153 (j_lawretM dL_law_2154 h)))) (fun _ _ h => h.elim))))))))) (fun _ _ h => h.elim)))))))) (fun hne38 h => j_tswC (cv := 39) (tgt := 2155) dL_law_40 hr (by decide) (by decide) rfl (by decide) h (fun h => j_aload_n 1 dL_law_2155 rfl (j_aload_n 0 dL_law_2156 rfl (j_iload 4 dL_law_2157 rfl (j_iconst dL_law_2159 (j_iadd dL_law_2160 (j_sld dL_law_2161 h (fun h => j_aload_n 3 dL_law_2162 rfl (j_callSW (rest := []) [vA x1, vI (scr S (x4 + 1)), vA x3] k_RL_271 w_6_170 rfl rfl (Nat.le_of_ble_eq_true rfl) dL_law_2163 h (kI (fun r100 S100 h => j_istore (lv2 := [(5, vI r100), (0, vA x0), (1, vA x1), (2, vA x2), (3, vA x3), (4, vI x4)]) dL_law_2166 (by decide) rfl (j_aload_n 3 dL_law_2168 rfl (j_aload_n 1 dL_law_2169 rfl (j_iload 5 dL_law_2170 rfl (j_iconst dL_law_2172 (j_iadd dL_law_2173 (j_sld dL_law_2174 h (fun h => j_callV (rest := []) 11 [vI (scr S100 (x4 + 1))] k_RL_273 ⟨w_9_53, w_9_54⟩ ⟨_, _, rfl⟩ (by decide) rfl rfl (Nat.le_of_ble_eq_true rfl) dL_law_2175 h (kI (fun r101 S101 h => j_istore (lv2 := [(6, vI r101), (5, vI r100), (0, vA x0), (1, vA x1), (2, vA x2), (3, vA x3), (4, vI x4)]) dL_law_2178 (by decide) rfl (j_aload_n 4 dL_law_2180 rfl (j_callV (rest := []) 11 [] k_RL_142 ⟨w_6_210, w_6_211⟩ ⟨_, _, rfl⟩ (by decide) rfl rfl (Nat.le_of_ble_eq_true rfl) dL_law_2181 h (kI (fun r102 S102 h => j_iload 1 dL_law_2184 rfl (j_icmp_eq (tgt := 2191) dL_law_2186 (by decide) h (fun h => j_iload 1 dL_law_2191 rfl (j_if_ne (tgt := 2208) dL_law_2193 (by decide) h (fun h => j_sub [2, 3, 4, 5, 6] rfl (JL_law_2208 ih _ _ _ _ _ _ h)) (fun h => j_aload_n 5 dL_law_2196 rfl (j_iconst dL_law_2197 (j_lald dL_law_2198 h (fun h => j_iload 0 dL_law_2199 rfl (j_i2l dL_law_2201 (j_lcmp dL_law_2202 (j_if_eq (tgt := 2208) dL_law_2203 (by decide) h (fun h => j_sub [2, 3, 4, 5, 6] rfl (JL_law_2208 ih _ _ _ _ _ _ h)) (fun h => j_iconst dL_law_2206 (j_lawretM dL_law_2207 h))))))))))) (fun h => j_iconst dL_law_2189 (j_lawretM dL_law_2190 h))))) (fun _ _ h => h.elim))))) (fun _ _ h => h.elim)))))))))))))))))) (fun hne39 h => j_tswC (cv := 40) (tgt := 2211) dL_law_40 hr (by decide) (by decide) rfl (by decide) h (fun h => j_aload_n 1 dL_law_2211 rfl (j_aload_n 0 dL_law_2212 rfl (j_iload 4 dL_law_2213 rfl (j_iconst dL_law_2215 (j_iadd dL_law_2216 (j_sld dL_law_2217 h (fun h => j_if_eq (tgt := 2225) dL_law_2218 (by decide) h (fun h => j_iconst dL_law_2225 (JL_law_2226 ih _ _ _ _ _ _ _ _ h)) (fun h => j_iconst dL_law_2221 (j_goto (tgt := 2226) dL_law_2222 (by decide) (JL_law_2226 ih _ _ _ _ _ _ _ _ h)))))))))) (fun hne40 h => j_tswC (cv := 41) (tgt := 2252) dL_law_40 hr (by decide) (by decide) rfl (by decide) h (fun h => j_aload_n 1 dL_law_2252 rfl (j_aload_n 0 dL_law_2253 rfl (j_iload 4 dL_law_2254 rfl (j_iconst dL_law_2256 (j_iadd dL_law_2257 (j_sld dL_law_2258 h (fun h => j_aload_n 0 dL_law_2259 rfl (j_iload 4 dL_law_2260 rfl (j_iconst dL_law_2262 (j_iadd dL_law_2263 (j_sld dL_law_2264 h (fun h => j_aload_n 3 dL_law_2265 rfl (j_callSW (rest := []) [vA x1, vI (scr S (x4 + 1)), vI (scr S (x4 + 2)), vA x3] k_RL_278 w_6_177 rfl rfl (Nat.le_of_ble_eq_true rfl) dL_law_2266 h (kI (fun r103 S103 h => j_istore (lv2 := [(5, vI r103), (0, vA x0), (1, vA x1), (2, vA x2), (3, vA x3), (4, vI x4)]) dL_law_2269 (by decide) rfl (j_aload_n 3 dL_law_2271 rfl (j_aload_n 1 dL_law_2272 rfl (j_iload 5 dL_law_2273 rfl (j_iconst dL_law_2275 (j_iadd dL_law_2276 (j_sld dL_law_2277 h (fun h => j_aload_n 1 dL_law_2278 rfl (j_iload 5 dL_law_2279 rfl (j_iconst dL_law_2281 (j_iadd dL_law_2282 (j_sld dL_law_2283 h (fun h => j_callV (rest := []) 11 [vI (scr S103 (x4 + 1)), vI (scr S103 (x4 + 2))] k_RL_280 ⟨w_9_57, w_9_58⟩ ⟨_, _, rfl⟩ (by decide) rfl rfl (Nat.le_of_ble_eq_true rfl) dL_law_2284 h (kI (fun r104 S104 h => j_istore (lv2 := [(6, vI r104), (5, vI r103), (0, vA x0), (1, vA x1), (2, vA x2), (3, vA x3), (4, vI x4)]) dL_law_2287 (by decide) rfl (j_aload_n 4 dL_law_2289 rfl (j_callV (rest := []) 11 [] k_RL_142 ⟨w_6_210, w_6_211⟩ ⟨_, _, rfl⟩ (by decide) rfl rfl (Nat.le_of_ble_eq_true rfl) dL_law_2290 h (kI (fun r105 S105 h => j_iload 1 dL_law_2293 rfl (j_icmp_eq (tgt := 2300) dL_law_2295 (by decide) h (fun h => j_iload 1 dL_law_2300 rfl (j_if_ne (tgt := 2317) dL_law_2302 (by decide) h (fun h => j_sub [2, 3, 4, 5, 6] rfl (JL_law_2317 ih _ _ _ _ _ _ h)) (fun h => j_aload_n 5 dL_law_2305 rfl (j_iconst dL_law_2306 (j_lald dL_law_2307 h (fun h => j_iload 0 dL_law_2308 rfl (j_i2l dL_law_2310 (j_lcmp dL_law_2311 (j_if_eq (tgt := 2317) dL_law_2312 (by decide) h (fun h => j_sub [2, 3, 4, 5, 6] rfl (JL_law_2317 ih _ _ _ _ _ _ h)) (fun h => j_iconst dL_law_2315 (j_lawretM dL_law_2316 h))))))))))) (fun h => j_iconst dL_law_2298 (j_lawretM dL_law_2299 h))))) (fun _ _ h => h.elim))))) (fun _ _ h => h.elim)))))))))))))))))))))))))))) (fun hne41 h => j_tswC (cv := 42) (tgt := 2320) dL_law_40 hr (by decide) (by decide) rfl (by decide) h (fun h => j_aload_n 1 dL_law_2320 rfl (j_aload_n 0 dL_law_2321 rfl (j_iload 4 dL_law_2322 rfl (j_iconst dL_law_2324 (j_iadd dL_law_2325 (j_sld dL_law_2326 h (fun h => j_aload_n 0 dL_law_2327 rfl (j_iload 4 dL_law_2328 rfl (j_iconst dL_law_2330 (j_iadd dL_law_2331 (j_sld dL_law_2332 h (fun h => j_if_eq (tgt := 2340) dL_law_2333 (by decide) h (fun h => j_iconst dL_law_2340 (JL_law_2341 ih _ _ _ _ _ _ _ _ _ h)) (fun h => j_iconst dL_law_2336 (j_goto (tgt := 2341) dL_law_2337 (by decide) (JL_law_2341 ih _ _ _ _ _ _ _ _ _ h))))))))))))))) (fun hne42 h => j_tswC (cv := 43) (tgt := 2404) dL_law_40 hr (by decide) (by decide) rfl (by decide) h (fun h => j_aload_n 1 dL_law_2404 rfl (j_callV (rest := []) 10 [] k_RL_285 ⟨w_3_206, w_3_207⟩ ⟨_, _, rfl⟩ (by decide) rfl rfl (Nat.le_of_ble_eq_true rfl) dL_law_2405 h (kI (fun r106 S106 h => j_aload_n 2 dL_law_2408 rfl (j_callV (rest := [vI r106]) 11 [] k_RL_288 ⟨w_8_197, w_8_198⟩ ⟨_, _, rfl⟩ (by decide) rfl rfl (Nat.le_of_ble_eq_true rfl) dL_law_2409 h (kI (fun r107 S107 h => j_icmp_eq (tgt := 2634) dL_law_2412 (by decide) h (fun h => JL_law_2634 ih _ _ _ _ _ _ h) (fun h => j_iconst dL_law_2415 (j_lawretM dL_law_2416 h)))) (fun _ _ h => h.elim)))) (fun _ _ h => h.elim))) (fun hne43 h => j_tswC (cv := 44) (tgt := 2417) dL_law_40 hr (by decide) (by decide) rfl (by decide) h (fun h => j_aload_n 1 dL_law_2417 rfl (j_aload_n 0 dL_law_2418 rfl (j_iload 4 dL_law_2419 rfl (j_iconst dL_law_2421 (j_iadd dL_law_2422 (j_sld dL_law_2423 h (fun h => j_aload_n 0 dL_law_2424 rfl (j_iload 4 dL_law_2425 rfl (j_iconst dL_law_2427 (j_iadd dL_law_2428 (j_sld dL_law_2429 h (fun h => j_if_eq (tgt := 2437) dL_law_2430 (by decide) h (fun h => j_iconst dL_law_2437 (JL_law_2438 ih _ _ _ _ _ _ _ _ _ h)) (fun h => j_iconst dL_law_2433 (j_goto (tgt := 2438) dL_law_2434 (by decide) (JL_law_2438 ih _ _ _ _ _ _ _ _ _ h))))))))))))))) (fun hne44 h => j_tswC (cv := 45) (tgt := 2501) dL_law_40 hr (by decide) (by decide) rfl (by decide) h (fun h => j_aload_n 1 dL_law_2501 rfl (j_aload_n 0 dL_law_2502 rfl (j_iload 4 dL_law_2503 rfl (j_iconst dL_law_2505 (j_iadd dL_law_2506 (j_sld dL_law_2507 h (fun h => j_aload_n 0 dL_law_2508 rfl (j_iload 4 dL_law_2509 rfl (j_iconst dL_law_2511 (j_iadd dL_law_2512 (j_sld dL_law_2513 h (fun h => j_if_eq (tgt := 2521) dL_law_2514 (by decide) h (fun h => j_iconst dL_law_2521 (JL_law_2522 ih _ _ _ _ _ _ _ _ _ h)) (fun h => j_iconst dL_law_2517 (j_goto (tgt := 2522) dL_law_2518 (by decide) (JL_law_2522 ih _ _ _ _ _ _ _ _ _ h))))))))))))))) (fun hne45 h => j_tswC (cv := 46) (tgt := 2585) dL_law_40 hr (by decide) (by decide) rfl (by decide) h (fun h => j_aload_n 1 dL_law_2585 rfl (j_callV (rest := []) 10 [] k_RL_295 ⟨w_3_210, w_3_211⟩ ⟨_, _, rfl⟩ (by decide) rfl rfl (Nat.le_of_ble_eq_true rfl) dL_law_2586 h (kV (fun S108 h => j_aload_n 2 dL_law_2589 rfl (j_callV (rest := []) 11 [] k_RL_298 ⟨w_7_102, w_7_103⟩ ⟨_, _, rfl⟩ (by decide) rfl rfl (Nat.le_of_ble_eq_true rfl) dL_law_2590 h (kV (fun S109 h => j_goto (tgt := 2634) dL_law_2593 (by decide) (JL_law_2634 ih _ _ _ _ _ _ h))) (fun _ _ h => h.elim)))) (fun _ _ h => h.elim))) (fun hne46 h => j_tswC (cv := 47) (tgt := 2596) dL_law_40 hr (by decide) (by decide) rfl (by decide) h (fun h => j_aload_n 1 dL_law_2596 rfl (j_callV (rest := []) 10 [] k_RL_299 ⟨w_3_221, w_3_222⟩ ⟨_, _, rfl⟩ (by decide) rfl rfl (Nat.le_of_ble_eq_true rfl) dL_law_2597 h (kI (fun r110 S110 h => j_aload_n 2 dL_law_2600 rfl (j_callV (rest := [vI r110]) 11 [] k_RL_302 ⟨w_7_106, w_7_107⟩ ⟨_, _, rfl⟩ (by decide) rfl rfl (Nat.le_of_ble_eq_true rfl) dL_law_2601 h (kI (fun r111 S111 h => j_icmp_eq (tgt := 2634) dL_law_2604 (by decide) h (fun h => JL_law_2634 ih _ _ _ _ _ _ h) (fun h => j_iconst dL_law_2607 (j_lawretM dL_law_2608 h)))) (fun _ _ h => h.elim)))) (fun _ _ h => h.elim))) (fun hne47 h => j_tswC (cv := 48) (tgt := 2609) dL_law_40 hr (by decide) (by decide) rfl (by decide) h (fun h => j_aload_n 1 dL_law_2609 rfl (j_aload_n 0 dL_law_2610 rfl (j_iload 4 dL_law_2611 rfl (j_iconst dL_law_2613 (j_iadd dL_law_2614 (j_sld dL_law_2615 h (fun h => j_callV (rest := []) 10 [vI (scr S (x4 + 1))] k_RL_303 ⟨w_3_225, w_3_226⟩ ⟨_, _, rfl⟩ (by decide) rfl rfl (Nat.le_of_ble_eq_true rfl) dL_law_2616 h (kI (fun r112 S112 h => j_aload_n 2 dL_law_2619 rfl (j_aload_n 0 dL_law_2620 rfl (j_iload 4 dL_law_2621 rfl (j_iconst dL_law_2623 (j_iadd dL_law_2624 (j_sld dL_law_2625 h (fun h => j_callV (rest := [vI r112]) 11 [vI (scr S112 (x4 + 1))] k_RL_306 ⟨w_9_113, w_9_114⟩ ⟨_, _, rfl⟩ (by decide) rfl rfl (Nat.le_of_ble_eq_true rfl) dL_law_2626 h (kI (fun r113 S113 h => j_icmp_eq (tgt := 2634) dL_law_2629 (by decide) h (fun h => JL_law_2634 ih _ _ _ _ _ _ h) (fun h => j_iconst dL_law_2632 (j_lawretM dL_law_2633 h)))) (fun _ _ h => h.elim))))))))) (fun _ _ h => h.elim)))))))) (fun hne48 h => j_tswD (tgt := 2634) dL_law_40 hr (tsw_48 hne0 hne1 hne2 hne3 hne4 hne5 hne6 hne7 hne8 hne9 hne10 hne11 hne12 hne13 hne14 hne15 hne16 hne17 hne18 hne19 hne20 hne21 hne22 hne23 hne24 hne25 hne26 hne27 hne28 hne29 hne30 hne31 hne32 hne33 hne34 hne35 hne36 hne37 hne38 hne39 hne40 hne41 hne42 hne43 hne44 hne45 hne46 hne47 hne48) (by decide) h (fun h => JL_law_2634 ih _ _ _ _ _ _ h))))))))))))))))))))))))))))))))))))))))))))))))))))))))))))))
def VL_law_0 (d : Nat) (Q : Out → MS → Prop) (x0 : Nat) (S : MS) : Prop :=
  Mw hX10_init yX10_init d [vA S.nx] (S.mk 10 15) (oV (fun S1 => Mw hX11_init yX11_init d [vA S1.nx] (S1.mk 11 39) (oV (fun S2 => (0 ≤ (1 : Int) ∧ (1 : Int) < 1000000) ∧ (∃ m, VL_law_23 d Q m x0 S.nx S1.nx S2.nx 0 (S2.mk 14 ((1 : Int)).toNat))))))
theorem JL_law_0 {d : Nat} {S0 : MS} {Q : Out → MS → Prop} (x0 : Nat) (S : MS) (h : VL_law_0 d Q x0 S) : Jw FinW RL cL_law 7 (some .boolean) [] yL_law (d + 1) S0 S 0 [(0, vA x0)] [] Q :=
  j_new 10 n_RL_8 dL_law_0 (j_dup rfl dL_law_3 (j_callI (rest := [vA S.nx]) [] k_RL_122 rfl w_1_33 rfl rfl (Nat.le_of_ble_eq_true rfl) dL_law_4 h (kV (fun S1 h => j_astore_n (lv2 := [(1, vA S.nx), (0, vA x0)]) dL_law_7 (by decide) rfl (j_new 11 n_RL_123 dL_law_8 (j_dup rfl dL_law_11 (j_callI (rest := [vA S1.nx]) [] k_RL_125 rfl w_6_216 rfl rfl (Nat.le_of_ble_eq_true rfl) dL_law_12 h (kV (fun S2 h => j_astore_n (lv2 := [(2, vA S1.nx), (1, vA S.nx), (0, vA x0)]) dL_law_15 (by decide) rfl (j_iconst dL_law_16 (j_newb 14 dL_law_17 rfl (by decide) w_1_158 h (fun h => j_astore_n (lv2 := [(3, vA S2.nx), (2, vA S1.nx), (1, vA S.nx), (0, vA x0)]) dL_law_19 (by decide) rfl (j_iconst dL_law_20 (j_istore (lv2 := [(4, vI 0), (3, vA S2.nx), (2, vA S1.nx), (1, vA S.nx), (0, vA x0)]) dL_law_21 (by decide) rfl (Exists.elim h (fun m h => j_sub [4, 3, 2, 1, 0] rfl (JL_law_23 m _ _ _ _ _ _ h)))))))))))))))))
