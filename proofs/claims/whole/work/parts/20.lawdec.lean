-- needs: 08.links0
theorem dW_0 : decode code 0 = .ok (.new 8, 3) := by decide +kernel
theorem dW_3 : decode code 3 = .ok (.dup, 1) := by decide +kernel
theorem dW_4 : decode code 4 = .ok (.invokespecial 18, 3) := by decide +kernel
theorem dW_7 : decode code 7 = .ok (.astore_n 1, 1) := by decide +kernel
theorem dW_8 : decode code 8 = .ok (.new 19, 3) := by decide +kernel
theorem dW_11 : decode code 11 = .ok (.dup, 1) := by decide +kernel
theorem dW_12 : decode code 12 = .ok (.invokespecial 21, 3) := by decide +kernel
theorem dW_15 : decode code 15 = .ok (.astore_n 2, 1) := by decide +kernel
theorem dW_16 : decode code 16 = .ok (.iconst 1, 1) := by decide +kernel
theorem dW_17 : decode code 17 = .ok (.newarray .long, 2) := by decide +kernel
theorem dW_19 : decode code 19 = .ok (.astore_n 3, 1) := by decide +kernel
theorem dW_20 : decode code 20 = .ok (.iconst 0, 1) := by decide +kernel
theorem dW_21 : decode code 21 = .ok (.istore 4, 2) := by decide +kernel
theorem dW_23 : decode code 23 = .ok (.iload 4, 2) := by decide +kernel
theorem dW_25 : decode code 25 = .ok (.aload_n 0, 1) := by decide +kernel
theorem dW_26 : decode code 26 = .ok (.arraylength, 1) := by decide +kernel
theorem dW_27 : decode code 27 = .ok (.bipush 6, 2) := by decide +kernel
theorem dW_29 : decode code 29 = .ok (.isub, 1) := by decide +kernel
theorem dW_30 : decode code 30 = .ok (.if_icmp .gt 1336, 3) := by decide +kernel
theorem dW_33 : decode code 33 = .ok (.aload_n 0, 1) := by decide +kernel
theorem dW_34 : decode code 34 = .ok (.iload 4, 2) := by decide +kernel
theorem dW_36 : decode code 36 = .ok (.iaload, 1) := by decide +kernel
theorem dW_37 : decode code 37 = .ok (.bipush 63, 2) := by decide +kernel
theorem dW_39 : decode code 39 = .ok (.iand, 1) := by decide +kernel
theorem dW_40 : decode code 40 = .ok (.tableswitch 1320 0 41 #[184, 257, 282, 295, 308, 333, 401, 469, 494, 519, 556, 581, 606, 631, 668, 681, 694, 731, 756, 781, 818, 843, 868, 881, 894, 919, 932, 957, 970, 983, 1008, 1033, 1058, 1071, 1096, 1133, 1146, 1159, 1196, 1233, 1270, 1295], 184) := by decide +kernel
theorem dW_224 : decode code 224 = .ok (.aload_n 1, 1) := by decide +kernel
theorem dW_225 : decode code 225 = .ok (.aload_n 0, 1) := by decide +kernel
theorem dW_226 : decode code 226 = .ok (.iload 4, 2) := by decide +kernel
theorem dW_228 : decode code 228 = .ok (.iconst 1, 1) := by decide +kernel
theorem dW_229 : decode code 229 = .ok (.iadd, 1) := by decide +kernel
theorem dW_230 : decode code 230 = .ok (.iaload, 1) := by decide +kernel
theorem dW_231 : decode code 231 = .ok (.aload_n 0, 1) := by decide +kernel
theorem dW_232 : decode code 232 = .ok (.iload 4, 2) := by decide +kernel
theorem dW_234 : decode code 234 = .ok (.iconst 2, 1) := by decide +kernel
theorem dW_235 : decode code 235 = .ok (.iadd, 1) := by decide +kernel
theorem dW_236 : decode code 236 = .ok (.iaload, 1) := by decide +kernel
theorem dW_237 : decode code 237 = .ok (.aload_n 0, 1) := by decide +kernel
theorem dW_238 : decode code 238 = .ok (.iload 4, 2) := by decide +kernel
theorem dW_240 : decode code 240 = .ok (.iconst 3, 1) := by decide +kernel
theorem dW_241 : decode code 241 = .ok (.iadd, 1) := by decide +kernel
theorem dW_242 : decode code 242 = .ok (.iaload, 1) := by decide +kernel
theorem dW_243 : decode code 243 = .ok (.aload_n 0, 1) := by decide +kernel
theorem dW_244 : decode code 244 = .ok (.iload 4, 2) := by decide +kernel
theorem dW_246 : decode code 246 = .ok (.iconst 4, 1) := by decide +kernel
theorem dW_247 : decode code 247 = .ok (.iadd, 1) := by decide +kernel
theorem dW_248 : decode code 248 = .ok (.iaload, 1) := by decide +kernel
theorem dW_249 : decode code 249 = .ok (.aload_n 0, 1) := by decide +kernel
theorem dW_250 : decode code 250 = .ok (.iload 4, 2) := by decide +kernel
theorem dW_252 : decode code 252 = .ok (.iconst 5, 1) := by decide +kernel
theorem dW_253 : decode code 253 = .ok (.iadd, 1) := by decide +kernel
theorem dW_254 : decode code 254 = .ok (.iaload, 1) := by decide +kernel
theorem dW_255 : decode code 255 = .ok (.invokevirtual 22, 3) := by decide +kernel
theorem dW_258 : decode code 258 = .ok (.aload_n 2, 1) := by decide +kernel
theorem dW_259 : decode code 259 = .ok (.aload_n 0, 1) := by decide +kernel
theorem dW_260 : decode code 260 = .ok (.iload 4, 2) := by decide +kernel
theorem dW_262 : decode code 262 = .ok (.iconst 1, 1) := by decide +kernel
theorem dW_263 : decode code 263 = .ok (.iadd, 1) := by decide +kernel
theorem dW_264 : decode code 264 = .ok (.iaload, 1) := by decide +kernel
theorem dW_265 : decode code 265 = .ok (.aload_n 0, 1) := by decide +kernel
theorem dW_266 : decode code 266 = .ok (.iload 4, 2) := by decide +kernel
theorem dW_268 : decode code 268 = .ok (.iconst 2, 1) := by decide +kernel
theorem dW_269 : decode code 269 = .ok (.iadd, 1) := by decide +kernel
theorem dW_270 : decode code 270 = .ok (.iaload, 1) := by decide +kernel
theorem dW_271 : decode code 271 = .ok (.aload_n 0, 1) := by decide +kernel
theorem dW_272 : decode code 272 = .ok (.iload 4, 2) := by decide +kernel
theorem dW_274 : decode code 274 = .ok (.iconst 3, 1) := by decide +kernel
theorem dW_275 : decode code 275 = .ok (.iadd, 1) := by decide +kernel
theorem dW_276 : decode code 276 = .ok (.iaload, 1) := by decide +kernel
theorem dW_277 : decode code 277 = .ok (.aload_n 0, 1) := by decide +kernel
theorem dW_278 : decode code 278 = .ok (.iload 4, 2) := by decide +kernel
theorem dW_280 : decode code 280 = .ok (.iconst 4, 1) := by decide +kernel
theorem dW_281 : decode code 281 = .ok (.iadd, 1) := by decide +kernel
theorem dW_282 : decode code 282 = .ok (.iaload, 1) := by decide +kernel
theorem dW_283 : decode code 283 = .ok (.aload_n 0, 1) := by decide +kernel
theorem dW_284 : decode code 284 = .ok (.iload 4, 2) := by decide +kernel
theorem dW_286 : decode code 286 = .ok (.iconst 5, 1) := by decide +kernel
theorem dW_287 : decode code 287 = .ok (.iadd, 1) := by decide +kernel
theorem dW_288 : decode code 288 = .ok (.iaload, 1) := by decide +kernel
theorem dW_289 : decode code 289 = .ok (.invokevirtual 26, 3) := by decide +kernel
theorem dW_292 : decode code 292 = .ok (.if_icmp .eq 1068, 3) := by decide +kernel
theorem dW_295 : decode code 295 = .ok (.iconst 0, 1) := by decide +kernel
theorem dW_296 : decode code 296 = .ok (.ireturn, 1) := by decide +kernel
theorem dW_297 : decode code 297 = .ok (.aload_n 1, 1) := by decide +kernel
theorem dW_298 : decode code 298 = .ok (.aload_n 0, 1) := by decide +kernel
theorem dW_299 : decode code 299 = .ok (.iload 4, 2) := by decide +kernel
theorem dW_301 : decode code 301 = .ok (.iconst 1, 1) := by decide +kernel
theorem dW_302 : decode code 302 = .ok (.iadd, 1) := by decide +kernel
theorem dW_303 : decode code 303 = .ok (.iaload, 1) := by decide +kernel
theorem dW_304 : decode code 304 = .ok (.invokevirtual 27, 3) := by decide +kernel
theorem dW_307 : decode code 307 = .ok (.aload_n 2, 1) := by decide +kernel
theorem dW_308 : decode code 308 = .ok (.aload_n 0, 1) := by decide +kernel
theorem dW_309 : decode code 309 = .ok (.iload 4, 2) := by decide +kernel
theorem dW_311 : decode code 311 = .ok (.iconst 1, 1) := by decide +kernel
theorem dW_312 : decode code 312 = .ok (.iadd, 1) := by decide +kernel
theorem dW_313 : decode code 313 = .ok (.iaload, 1) := by decide +kernel
theorem dW_314 : decode code 314 = .ok (.invokevirtual 31, 3) := by decide +kernel
theorem dW_317 : decode code 317 = .ok (.if_icmp .eq 1043, 3) := by decide +kernel
theorem dW_320 : decode code 320 = .ok (.iconst 0, 1) := by decide +kernel
theorem dW_321 : decode code 321 = .ok (.ireturn, 1) := by decide +kernel
theorem dW_322 : decode code 322 = .ok (.aload_n 1, 1) := by decide +kernel
theorem dW_323 : decode code 323 = .ok (.invokevirtual 32, 3) := by decide +kernel
theorem dW_326 : decode code 326 = .ok (.aload_n 2, 1) := by decide +kernel
theorem dW_327 : decode code 327 = .ok (.invokevirtual 36, 3) := by decide +kernel
theorem dW_330 : decode code 330 = .ok (.if_icmp .eq 1030, 3) := by decide +kernel
theorem dW_333 : decode code 333 = .ok (.iconst 0, 1) := by decide +kernel
theorem dW_334 : decode code 334 = .ok (.ireturn, 1) := by decide +kernel
theorem dW_335 : decode code 335 = .ok (.aload_n 1, 1) := by decide +kernel
theorem dW_336 : decode code 336 = .ok (.invokevirtual 37, 3) := by decide +kernel
theorem dW_339 : decode code 339 = .ok (.aload_n 2, 1) := by decide +kernel
theorem dW_340 : decode code 340 = .ok (.invokevirtual 40, 3) := by decide +kernel
theorem dW_343 : decode code 343 = .ok (.if_icmp .eq 1017, 3) := by decide +kernel
theorem dW_346 : decode code 346 = .ok (.iconst 0, 1) := by decide +kernel
theorem dW_347 : decode code 347 = .ok (.ireturn, 1) := by decide +kernel
theorem dW_348 : decode code 348 = .ok (.aload_n 1, 1) := by decide +kernel
theorem dW_349 : decode code 349 = .ok (.aload_n 0, 1) := by decide +kernel
theorem dW_350 : decode code 350 = .ok (.iload 4, 2) := by decide +kernel
theorem dW_352 : decode code 352 = .ok (.iconst 1, 1) := by decide +kernel
theorem dW_353 : decode code 353 = .ok (.iadd, 1) := by decide +kernel
theorem dW_354 : decode code 354 = .ok (.iaload, 1) := by decide +kernel
theorem dW_355 : decode code 355 = .ok (.invokevirtual 41, 3) := by decide +kernel
theorem dW_358 : decode code 358 = .ok (.aload_n 2, 1) := by decide +kernel
theorem dW_359 : decode code 359 = .ok (.aload_n 0, 1) := by decide +kernel
theorem dW_360 : decode code 360 = .ok (.iload 4, 2) := by decide +kernel
theorem dW_362 : decode code 362 = .ok (.iconst 1, 1) := by decide +kernel
theorem dW_363 : decode code 363 = .ok (.iadd, 1) := by decide +kernel
theorem dW_364 : decode code 364 = .ok (.iaload, 1) := by decide +kernel
theorem dW_365 : decode code 365 = .ok (.invokevirtual 45, 3) := by decide +kernel
theorem dW_368 : decode code 368 = .ok (.if_icmp .eq 992, 3) := by decide +kernel
theorem dW_371 : decode code 371 = .ok (.iconst 0, 1) := by decide +kernel
theorem dW_372 : decode code 372 = .ok (.ireturn, 1) := by decide +kernel
theorem dW_373 : decode code 373 = .ok (.aload_n 1, 1) := by decide +kernel
theorem dW_374 : decode code 374 = .ok (.aload_n 0, 1) := by decide +kernel
theorem dW_375 : decode code 375 = .ok (.iload 4, 2) := by decide +kernel
theorem dW_377 : decode code 377 = .ok (.iconst 1, 1) := by decide +kernel
theorem dW_378 : decode code 378 = .ok (.iadd, 1) := by decide +kernel
theorem dW_379 : decode code 379 = .ok (.iaload, 1) := by decide +kernel
theorem dW_380 : decode code 380 = .ok (.aload_n 0, 1) := by decide +kernel
theorem dW_381 : decode code 381 = .ok (.iload 4, 2) := by decide +kernel
theorem dW_383 : decode code 383 = .ok (.iconst 2, 1) := by decide +kernel
theorem dW_384 : decode code 384 = .ok (.iadd, 1) := by decide +kernel
theorem dW_385 : decode code 385 = .ok (.iaload, 1) := by decide +kernel
theorem dW_386 : decode code 386 = .ok (.aload_n 3, 1) := by decide +kernel
theorem dW_387 : decode code 387 = .ok (.invokestatic 46, 3) := by decide +kernel
theorem dW_390 : decode code 390 = .ok (.istore 5, 2) := by decide +kernel
theorem dW_392 : decode code 392 = .ok (.aload_n 2, 1) := by decide +kernel
theorem dW_393 : decode code 393 = .ok (.aload_n 0, 1) := by decide +kernel
theorem dW_394 : decode code 394 = .ok (.iload 4, 2) := by decide +kernel
theorem dW_396 : decode code 396 = .ok (.iconst 1, 1) := by decide +kernel
theorem dW_397 : decode code 397 = .ok (.iadd, 1) := by decide +kernel
theorem dW_398 : decode code 398 = .ok (.iaload, 1) := by decide +kernel
theorem dW_399 : decode code 399 = .ok (.aload_n 0, 1) := by decide +kernel
theorem dW_400 : decode code 400 = .ok (.iload 4, 2) := by decide +kernel
theorem dW_402 : decode code 402 = .ok (.iconst 2, 1) := by decide +kernel
theorem dW_403 : decode code 403 = .ok (.iadd, 1) := by decide +kernel
theorem dW_404 : decode code 404 = .ok (.iaload, 1) := by decide +kernel
theorem dW_405 : decode code 405 = .ok (.invokevirtual 51, 3) := by decide +kernel
theorem dW_408 : decode code 408 = .ok (.istore 6, 2) := by decide +kernel
theorem dW_410 : decode code 410 = .ok (.aload_n 2, 1) := by decide +kernel
theorem dW_411 : decode code 411 = .ok (.invokevirtual 52, 3) := by decide +kernel
theorem dW_414 : decode code 414 = .ok (.iload 5, 2) := by decide +kernel
theorem dW_416 : decode code 416 = .ok (.if_icmp .eq 5, 3) := by decide +kernel
theorem dW_419 : decode code 419 = .ok (.iconst 0, 1) := by decide +kernel
theorem dW_420 : decode code 420 = .ok (.ireturn, 1) := by decide +kernel
theorem dW_421 : decode code 421 = .ok (.iload 5, 2) := by decide +kernel
theorem dW_423 : decode code 423 = .ok (.ifCond .ne 15, 3) := by decide +kernel
theorem dW_426 : decode code 426 = .ok (.aload_n 3, 1) := by decide +kernel
theorem dW_427 : decode code 427 = .ok (.iconst 0, 1) := by decide +kernel
theorem dW_428 : decode code 428 = .ok (.laload, 1) := by decide +kernel
theorem dW_429 : decode code 429 = .ok (.iload 6, 2) := by decide +kernel
theorem dW_431 : decode code 431 = .ok (.i2l, 1) := by decide +kernel
theorem dW_432 : decode code 432 = .ok (.lcmp, 1) := by decide +kernel
theorem dW_433 : decode code 433 = .ok (.ifCond .eq 5, 3) := by decide +kernel
theorem dW_436 : decode code 436 = .ok (.iconst 0, 1) := by decide +kernel
theorem dW_437 : decode code 437 = .ok (.ireturn, 1) := by decide +kernel
theorem dW_438 : decode code 438 = .ok (.goto 922, 3) := by decide +kernel
theorem dW_441 : decode code 441 = .ok (.aload_n 1, 1) := by decide +kernel
theorem dW_442 : decode code 442 = .ok (.aload_n 0, 1) := by decide +kernel
theorem dW_443 : decode code 443 = .ok (.iload 4, 2) := by decide +kernel
theorem dW_445 : decode code 445 = .ok (.iconst 1, 1) := by decide +kernel
theorem dW_446 : decode code 446 = .ok (.iadd, 1) := by decide +kernel
theorem dW_447 : decode code 447 = .ok (.iaload, 1) := by decide +kernel
theorem dW_448 : decode code 448 = .ok (.aload_n 0, 1) := by decide +kernel
theorem dW_449 : decode code 449 = .ok (.iload 4, 2) := by decide +kernel
theorem dW_451 : decode code 451 = .ok (.iconst 2, 1) := by decide +kernel
theorem dW_452 : decode code 452 = .ok (.iadd, 1) := by decide +kernel
theorem dW_453 : decode code 453 = .ok (.iaload, 1) := by decide +kernel
theorem dW_454 : decode code 454 = .ok (.aload_n 3, 1) := by decide +kernel
theorem dW_455 : decode code 455 = .ok (.invokestatic 55, 3) := by decide +kernel
theorem dW_458 : decode code 458 = .ok (.istore 5, 2) := by decide +kernel
theorem dW_460 : decode code 460 = .ok (.aload_n 2, 1) := by decide +kernel
theorem dW_461 : decode code 461 = .ok (.aload_n 0, 1) := by decide +kernel
theorem dW_462 : decode code 462 = .ok (.iload 4, 2) := by decide +kernel
theorem dW_464 : decode code 464 = .ok (.iconst 1, 1) := by decide +kernel
theorem dW_465 : decode code 465 = .ok (.iadd, 1) := by decide +kernel
theorem dW_466 : decode code 466 = .ok (.iaload, 1) := by decide +kernel
theorem dW_467 : decode code 467 = .ok (.aload_n 0, 1) := by decide +kernel
theorem dW_468 : decode code 468 = .ok (.iload 4, 2) := by decide +kernel
theorem dW_470 : decode code 470 = .ok (.iconst 2, 1) := by decide +kernel
theorem dW_471 : decode code 471 = .ok (.iadd, 1) := by decide +kernel
theorem dW_472 : decode code 472 = .ok (.iaload, 1) := by decide +kernel
theorem dW_473 : decode code 473 = .ok (.invokevirtual 57, 3) := by decide +kernel
theorem dW_476 : decode code 476 = .ok (.istore 6, 2) := by decide +kernel
theorem dW_478 : decode code 478 = .ok (.aload_n 2, 1) := by decide +kernel
theorem dW_479 : decode code 479 = .ok (.invokevirtual 52, 3) := by decide +kernel
theorem dW_482 : decode code 482 = .ok (.iload 5, 2) := by decide +kernel
theorem dW_484 : decode code 484 = .ok (.if_icmp .eq 5, 3) := by decide +kernel
theorem dW_487 : decode code 487 = .ok (.iconst 0, 1) := by decide +kernel
theorem dW_488 : decode code 488 = .ok (.ireturn, 1) := by decide +kernel
theorem dW_489 : decode code 489 = .ok (.iload 5, 2) := by decide +kernel
theorem dW_491 : decode code 491 = .ok (.ifCond .ne 15, 3) := by decide +kernel
theorem dW_494 : decode code 494 = .ok (.aload_n 3, 1) := by decide +kernel
theorem dW_495 : decode code 495 = .ok (.iconst 0, 1) := by decide +kernel
theorem dW_496 : decode code 496 = .ok (.laload, 1) := by decide +kernel
theorem dW_497 : decode code 497 = .ok (.iload 6, 2) := by decide +kernel
theorem dW_499 : decode code 499 = .ok (.i2l, 1) := by decide +kernel
theorem dW_500 : decode code 500 = .ok (.lcmp, 1) := by decide +kernel
theorem dW_501 : decode code 501 = .ok (.ifCond .eq 5, 3) := by decide +kernel
theorem dW_504 : decode code 504 = .ok (.iconst 0, 1) := by decide +kernel
theorem dW_505 : decode code 505 = .ok (.ireturn, 1) := by decide +kernel
theorem dW_506 : decode code 506 = .ok (.goto 854, 3) := by decide +kernel
theorem dW_509 : decode code 509 = .ok (.aload_n 1, 1) := by decide +kernel
theorem dW_510 : decode code 510 = .ok (.aload_n 0, 1) := by decide +kernel
theorem dW_511 : decode code 511 = .ok (.iload 4, 2) := by decide +kernel
theorem dW_513 : decode code 513 = .ok (.iconst 1, 1) := by decide +kernel
theorem dW_514 : decode code 514 = .ok (.iadd, 1) := by decide +kernel
theorem dW_515 : decode code 515 = .ok (.iaload, 1) := by decide +kernel
theorem dW_516 : decode code 516 = .ok (.invokevirtual 58, 3) := by decide +kernel
theorem dW_519 : decode code 519 = .ok (.aload_n 2, 1) := by decide +kernel
theorem dW_520 : decode code 520 = .ok (.aload_n 0, 1) := by decide +kernel
theorem dW_521 : decode code 521 = .ok (.iload 4, 2) := by decide +kernel
theorem dW_523 : decode code 523 = .ok (.iconst 1, 1) := by decide +kernel
theorem dW_524 : decode code 524 = .ok (.iadd, 1) := by decide +kernel
theorem dW_525 : decode code 525 = .ok (.iaload, 1) := by decide +kernel
theorem dW_526 : decode code 526 = .ok (.invokevirtual 61, 3) := by decide +kernel
theorem dW_529 : decode code 529 = .ok (.if_icmp .eq 831, 3) := by decide +kernel
theorem dW_532 : decode code 532 = .ok (.iconst 0, 1) := by decide +kernel
theorem dW_533 : decode code 533 = .ok (.ireturn, 1) := by decide +kernel
theorem dW_534 : decode code 534 = .ok (.aload_n 1, 1) := by decide +kernel
theorem dW_535 : decode code 535 = .ok (.aload_n 0, 1) := by decide +kernel
theorem dW_536 : decode code 536 = .ok (.iload 4, 2) := by decide +kernel
theorem dW_538 : decode code 538 = .ok (.iconst 1, 1) := by decide +kernel
theorem dW_539 : decode code 539 = .ok (.iadd, 1) := by decide +kernel
theorem dW_540 : decode code 540 = .ok (.iaload, 1) := by decide +kernel
theorem dW_541 : decode code 541 = .ok (.invokevirtual 62, 3) := by decide +kernel
theorem dW_544 : decode code 544 = .ok (.aload_n 2, 1) := by decide +kernel
theorem dW_545 : decode code 545 = .ok (.aload_n 0, 1) := by decide +kernel
theorem dW_546 : decode code 546 = .ok (.iload 4, 2) := by decide +kernel
theorem dW_548 : decode code 548 = .ok (.iconst 1, 1) := by decide +kernel
theorem dW_549 : decode code 549 = .ok (.iadd, 1) := by decide +kernel
theorem dW_550 : decode code 550 = .ok (.iaload, 1) := by decide +kernel
theorem dW_551 : decode code 551 = .ok (.invokevirtual 65, 3) := by decide +kernel
theorem dW_554 : decode code 554 = .ok (.if_icmp .eq 806, 3) := by decide +kernel
theorem dW_557 : decode code 557 = .ok (.iconst 0, 1) := by decide +kernel
theorem dW_558 : decode code 558 = .ok (.ireturn, 1) := by decide +kernel
theorem dW_559 : decode code 559 = .ok (.aload_n 1, 1) := by decide +kernel
theorem dW_560 : decode code 560 = .ok (.aload_n 0, 1) := by decide +kernel
theorem dW_561 : decode code 561 = .ok (.iload 4, 2) := by decide +kernel
theorem dW_563 : decode code 563 = .ok (.iconst 1, 1) := by decide +kernel
theorem dW_564 : decode code 564 = .ok (.iadd, 1) := by decide +kernel
theorem dW_565 : decode code 565 = .ok (.iaload, 1) := by decide +kernel
theorem dW_566 : decode code 566 = .ok (.aload_n 0, 1) := by decide +kernel
theorem dW_567 : decode code 567 = .ok (.iload 4, 2) := by decide +kernel
theorem dW_569 : decode code 569 = .ok (.iconst 2, 1) := by decide +kernel
theorem dW_570 : decode code 570 = .ok (.iadd, 1) := by decide +kernel
theorem dW_571 : decode code 571 = .ok (.iaload, 1) := by decide +kernel
theorem dW_572 : decode code 572 = .ok (.invokevirtual 66, 3) := by decide +kernel
theorem dW_575 : decode code 575 = .ok (.aload_n 2, 1) := by decide +kernel
theorem dW_576 : decode code 576 = .ok (.aload_n 0, 1) := by decide +kernel
theorem dW_577 : decode code 577 = .ok (.iload 4, 2) := by decide +kernel
theorem dW_579 : decode code 579 = .ok (.iconst 1, 1) := by decide +kernel
theorem dW_580 : decode code 580 = .ok (.iadd, 1) := by decide +kernel
theorem dW_581 : decode code 581 = .ok (.iaload, 1) := by decide +kernel
theorem dW_582 : decode code 582 = .ok (.aload_n 0, 1) := by decide +kernel
theorem dW_583 : decode code 583 = .ok (.iload 4, 2) := by decide +kernel
theorem dW_585 : decode code 585 = .ok (.iconst 2, 1) := by decide +kernel
theorem dW_586 : decode code 586 = .ok (.iadd, 1) := by decide +kernel
theorem dW_587 : decode code 587 = .ok (.iaload, 1) := by decide +kernel
theorem dW_588 : decode code 588 = .ok (.invokevirtual 69, 3) := by decide +kernel
theorem dW_591 : decode code 591 = .ok (.if_icmp .eq 769, 3) := by decide +kernel
theorem dW_594 : decode code 594 = .ok (.iconst 0, 1) := by decide +kernel
theorem dW_595 : decode code 595 = .ok (.ireturn, 1) := by decide +kernel
theorem dW_596 : decode code 596 = .ok (.aload_n 1, 1) := by decide +kernel
theorem dW_597 : decode code 597 = .ok (.aload_n 0, 1) := by decide +kernel
theorem dW_598 : decode code 598 = .ok (.iload 4, 2) := by decide +kernel
theorem dW_600 : decode code 600 = .ok (.iconst 1, 1) := by decide +kernel
theorem dW_601 : decode code 601 = .ok (.iadd, 1) := by decide +kernel
theorem dW_602 : decode code 602 = .ok (.iaload, 1) := by decide +kernel
theorem dW_603 : decode code 603 = .ok (.invokevirtual 70, 3) := by decide +kernel
theorem dW_606 : decode code 606 = .ok (.aload_n 2, 1) := by decide +kernel
theorem dW_607 : decode code 607 = .ok (.aload_n 0, 1) := by decide +kernel
theorem dW_608 : decode code 608 = .ok (.iload 4, 2) := by decide +kernel
theorem dW_610 : decode code 610 = .ok (.iconst 1, 1) := by decide +kernel
theorem dW_611 : decode code 611 = .ok (.iadd, 1) := by decide +kernel
theorem dW_612 : decode code 612 = .ok (.iaload, 1) := by decide +kernel
theorem dW_613 : decode code 613 = .ok (.invokevirtual 73, 3) := by decide +kernel
theorem dW_616 : decode code 616 = .ok (.if_icmp .eq 744, 3) := by decide +kernel
theorem dW_619 : decode code 619 = .ok (.iconst 0, 1) := by decide +kernel
theorem dW_620 : decode code 620 = .ok (.ireturn, 1) := by decide +kernel
theorem dW_621 : decode code 621 = .ok (.aload_n 1, 1) := by decide +kernel
theorem dW_622 : decode code 622 = .ok (.aload_n 0, 1) := by decide +kernel
theorem dW_623 : decode code 623 = .ok (.iload 4, 2) := by decide +kernel
theorem dW_625 : decode code 625 = .ok (.iconst 1, 1) := by decide +kernel
theorem dW_626 : decode code 626 = .ok (.iadd, 1) := by decide +kernel
theorem dW_627 : decode code 627 = .ok (.iaload, 1) := by decide +kernel
theorem dW_628 : decode code 628 = .ok (.invokevirtual 74, 3) := by decide +kernel
theorem dW_631 : decode code 631 = .ok (.aload_n 2, 1) := by decide +kernel
theorem dW_632 : decode code 632 = .ok (.aload_n 0, 1) := by decide +kernel
theorem dW_633 : decode code 633 = .ok (.iload 4, 2) := by decide +kernel
theorem dW_635 : decode code 635 = .ok (.iconst 1, 1) := by decide +kernel
theorem dW_636 : decode code 636 = .ok (.iadd, 1) := by decide +kernel
theorem dW_637 : decode code 637 = .ok (.iaload, 1) := by decide +kernel
theorem dW_638 : decode code 638 = .ok (.invokevirtual 77, 3) := by decide +kernel
theorem dW_641 : decode code 641 = .ok (.if_icmp .eq 719, 3) := by decide +kernel
theorem dW_644 : decode code 644 = .ok (.iconst 0, 1) := by decide +kernel
theorem dW_645 : decode code 645 = .ok (.ireturn, 1) := by decide +kernel
theorem dW_646 : decode code 646 = .ok (.aload_n 1, 1) := by decide +kernel
theorem dW_647 : decode code 647 = .ok (.aload_n 0, 1) := by decide +kernel
theorem dW_648 : decode code 648 = .ok (.iload 4, 2) := by decide +kernel
theorem dW_650 : decode code 650 = .ok (.iconst 1, 1) := by decide +kernel
theorem dW_651 : decode code 651 = .ok (.iadd, 1) := by decide +kernel
theorem dW_652 : decode code 652 = .ok (.iaload, 1) := by decide +kernel
theorem dW_653 : decode code 653 = .ok (.invokevirtual 78, 3) := by decide +kernel
theorem dW_656 : decode code 656 = .ok (.aload_n 2, 1) := by decide +kernel
theorem dW_657 : decode code 657 = .ok (.aload_n 0, 1) := by decide +kernel
theorem dW_658 : decode code 658 = .ok (.iload 4, 2) := by decide +kernel
theorem dW_660 : decode code 660 = .ok (.iconst 1, 1) := by decide +kernel
theorem dW_661 : decode code 661 = .ok (.iadd, 1) := by decide +kernel
theorem dW_662 : decode code 662 = .ok (.iaload, 1) := by decide +kernel
theorem dW_663 : decode code 663 = .ok (.invokevirtual 81, 3) := by decide +kernel
theorem dW_666 : decode code 666 = .ok (.if_icmp .eq 694, 3) := by decide +kernel
theorem dW_669 : decode code 669 = .ok (.iconst 0, 1) := by decide +kernel
theorem dW_670 : decode code 670 = .ok (.ireturn, 1) := by decide +kernel
theorem dW_671 : decode code 671 = .ok (.aload_n 1, 1) := by decide +kernel
theorem dW_672 : decode code 672 = .ok (.aload_n 0, 1) := by decide +kernel
theorem dW_673 : decode code 673 = .ok (.iload 4, 2) := by decide +kernel
theorem dW_675 : decode code 675 = .ok (.iconst 1, 1) := by decide +kernel
theorem dW_676 : decode code 676 = .ok (.iadd, 1) := by decide +kernel
theorem dW_677 : decode code 677 = .ok (.iaload, 1) := by decide +kernel
theorem dW_678 : decode code 678 = .ok (.aload_n 0, 1) := by decide +kernel
theorem dW_679 : decode code 679 = .ok (.iload 4, 2) := by decide +kernel
theorem dW_681 : decode code 681 = .ok (.iconst 2, 1) := by decide +kernel
theorem dW_682 : decode code 682 = .ok (.iadd, 1) := by decide +kernel
theorem dW_683 : decode code 683 = .ok (.iaload, 1) := by decide +kernel
theorem dW_684 : decode code 684 = .ok (.invokevirtual 82, 3) := by decide +kernel
theorem dW_687 : decode code 687 = .ok (.aload_n 2, 1) := by decide +kernel
theorem dW_688 : decode code 688 = .ok (.aload_n 0, 1) := by decide +kernel
theorem dW_689 : decode code 689 = .ok (.iload 4, 2) := by decide +kernel
theorem dW_691 : decode code 691 = .ok (.iconst 1, 1) := by decide +kernel
theorem dW_692 : decode code 692 = .ok (.iadd, 1) := by decide +kernel
theorem dW_693 : decode code 693 = .ok (.iaload, 1) := by decide +kernel
theorem dW_694 : decode code 694 = .ok (.aload_n 0, 1) := by decide +kernel
theorem dW_695 : decode code 695 = .ok (.iload 4, 2) := by decide +kernel
theorem dW_697 : decode code 697 = .ok (.iconst 2, 1) := by decide +kernel
theorem dW_698 : decode code 698 = .ok (.iadd, 1) := by decide +kernel
theorem dW_699 : decode code 699 = .ok (.iaload, 1) := by decide +kernel
theorem dW_700 : decode code 700 = .ok (.invokevirtual 85, 3) := by decide +kernel
theorem dW_703 : decode code 703 = .ok (.if_icmp .eq 657, 3) := by decide +kernel
theorem dW_706 : decode code 706 = .ok (.iconst 0, 1) := by decide +kernel
theorem dW_707 : decode code 707 = .ok (.ireturn, 1) := by decide +kernel
theorem dW_708 : decode code 708 = .ok (.aload_n 1, 1) := by decide +kernel
theorem dW_709 : decode code 709 = .ok (.invokevirtual 86, 3) := by decide +kernel
theorem dW_712 : decode code 712 = .ok (.aload_n 2, 1) := by decide +kernel
theorem dW_713 : decode code 713 = .ok (.invokevirtual 89, 3) := by decide +kernel
theorem dW_716 : decode code 716 = .ok (.if_icmp .eq 644, 3) := by decide +kernel
theorem dW_719 : decode code 719 = .ok (.iconst 0, 1) := by decide +kernel
theorem dW_720 : decode code 720 = .ok (.ireturn, 1) := by decide +kernel
theorem dW_721 : decode code 721 = .ok (.aload_n 1, 1) := by decide +kernel
theorem dW_722 : decode code 722 = .ok (.invokevirtual 90, 3) := by decide +kernel
theorem dW_725 : decode code 725 = .ok (.aload_n 2, 1) := by decide +kernel
theorem dW_726 : decode code 726 = .ok (.invokevirtual 93, 3) := by decide +kernel
theorem dW_729 : decode code 729 = .ok (.if_icmp .eq 631, 3) := by decide +kernel
theorem dW_732 : decode code 732 = .ok (.iconst 0, 1) := by decide +kernel
theorem dW_733 : decode code 733 = .ok (.ireturn, 1) := by decide +kernel
theorem dW_734 : decode code 734 = .ok (.aload_n 1, 1) := by decide +kernel
theorem dW_735 : decode code 735 = .ok (.aload_n 0, 1) := by decide +kernel
theorem dW_736 : decode code 736 = .ok (.iload 4, 2) := by decide +kernel
theorem dW_738 : decode code 738 = .ok (.iconst 1, 1) := by decide +kernel
theorem dW_739 : decode code 739 = .ok (.iadd, 1) := by decide +kernel
theorem dW_740 : decode code 740 = .ok (.iaload, 1) := by decide +kernel
theorem dW_741 : decode code 741 = .ok (.aload_n 0, 1) := by decide +kernel
theorem dW_742 : decode code 742 = .ok (.iload 4, 2) := by decide +kernel
theorem dW_744 : decode code 744 = .ok (.iconst 2, 1) := by decide +kernel
theorem dW_745 : decode code 745 = .ok (.iadd, 1) := by decide +kernel
theorem dW_746 : decode code 746 = .ok (.iaload, 1) := by decide +kernel
theorem dW_747 : decode code 747 = .ok (.invokevirtual 94, 3) := by decide +kernel
theorem dW_750 : decode code 750 = .ok (.aload_n 2, 1) := by decide +kernel
theorem dW_751 : decode code 751 = .ok (.aload_n 0, 1) := by decide +kernel
theorem dW_752 : decode code 752 = .ok (.iload 4, 2) := by decide +kernel
theorem dW_754 : decode code 754 = .ok (.iconst 1, 1) := by decide +kernel
theorem dW_755 : decode code 755 = .ok (.iadd, 1) := by decide +kernel
theorem dW_756 : decode code 756 = .ok (.iaload, 1) := by decide +kernel
theorem dW_757 : decode code 757 = .ok (.aload_n 0, 1) := by decide +kernel
theorem dW_758 : decode code 758 = .ok (.iload 4, 2) := by decide +kernel
theorem dW_760 : decode code 760 = .ok (.iconst 2, 1) := by decide +kernel
theorem dW_761 : decode code 761 = .ok (.iadd, 1) := by decide +kernel
theorem dW_762 : decode code 762 = .ok (.iaload, 1) := by decide +kernel
theorem dW_763 : decode code 763 = .ok (.invokevirtual 97, 3) := by decide +kernel
theorem dW_766 : decode code 766 = .ok (.if_icmp .eq 594, 3) := by decide +kernel
theorem dW_769 : decode code 769 = .ok (.iconst 0, 1) := by decide +kernel
theorem dW_770 : decode code 770 = .ok (.ireturn, 1) := by decide +kernel
theorem dW_771 : decode code 771 = .ok (.aload_n 1, 1) := by decide +kernel
theorem dW_772 : decode code 772 = .ok (.aload_n 0, 1) := by decide +kernel
theorem dW_773 : decode code 773 = .ok (.iload 4, 2) := by decide +kernel
theorem dW_775 : decode code 775 = .ok (.iconst 1, 1) := by decide +kernel
theorem dW_776 : decode code 776 = .ok (.iadd, 1) := by decide +kernel
theorem dW_777 : decode code 777 = .ok (.iaload, 1) := by decide +kernel
theorem dW_778 : decode code 778 = .ok (.invokevirtual 98, 3) := by decide +kernel
theorem dW_781 : decode code 781 = .ok (.aload_n 2, 1) := by decide +kernel
theorem dW_782 : decode code 782 = .ok (.aload_n 0, 1) := by decide +kernel
theorem dW_783 : decode code 783 = .ok (.iload 4, 2) := by decide +kernel
theorem dW_785 : decode code 785 = .ok (.iconst 1, 1) := by decide +kernel
theorem dW_786 : decode code 786 = .ok (.iadd, 1) := by decide +kernel
theorem dW_787 : decode code 787 = .ok (.iaload, 1) := by decide +kernel
theorem dW_788 : decode code 788 = .ok (.invokevirtual 101, 3) := by decide +kernel
theorem dW_791 : decode code 791 = .ok (.if_icmp .eq 569, 3) := by decide +kernel
theorem dW_794 : decode code 794 = .ok (.iconst 0, 1) := by decide +kernel
theorem dW_795 : decode code 795 = .ok (.ireturn, 1) := by decide +kernel
theorem dW_796 : decode code 796 = .ok (.aload_n 1, 1) := by decide +kernel
theorem dW_797 : decode code 797 = .ok (.aload_n 0, 1) := by decide +kernel
theorem dW_798 : decode code 798 = .ok (.iload 4, 2) := by decide +kernel
theorem dW_800 : decode code 800 = .ok (.iconst 1, 1) := by decide +kernel
theorem dW_801 : decode code 801 = .ok (.iadd, 1) := by decide +kernel
theorem dW_802 : decode code 802 = .ok (.iaload, 1) := by decide +kernel
theorem dW_803 : decode code 803 = .ok (.invokevirtual 102, 3) := by decide +kernel
theorem dW_806 : decode code 806 = .ok (.aload_n 2, 1) := by decide +kernel
theorem dW_807 : decode code 807 = .ok (.aload_n 0, 1) := by decide +kernel
theorem dW_808 : decode code 808 = .ok (.iload 4, 2) := by decide +kernel
theorem dW_810 : decode code 810 = .ok (.iconst 1, 1) := by decide +kernel
theorem dW_811 : decode code 811 = .ok (.iadd, 1) := by decide +kernel
theorem dW_812 : decode code 812 = .ok (.iaload, 1) := by decide +kernel
theorem dW_813 : decode code 813 = .ok (.invokevirtual 105, 3) := by decide +kernel
theorem dW_816 : decode code 816 = .ok (.if_icmp .eq 544, 3) := by decide +kernel
theorem dW_819 : decode code 819 = .ok (.iconst 0, 1) := by decide +kernel
theorem dW_820 : decode code 820 = .ok (.ireturn, 1) := by decide +kernel
theorem dW_821 : decode code 821 = .ok (.aload_n 1, 1) := by decide +kernel
theorem dW_822 : decode code 822 = .ok (.aload_n 0, 1) := by decide +kernel
theorem dW_823 : decode code 823 = .ok (.iload 4, 2) := by decide +kernel
theorem dW_825 : decode code 825 = .ok (.iconst 1, 1) := by decide +kernel
theorem dW_826 : decode code 826 = .ok (.iadd, 1) := by decide +kernel
theorem dW_827 : decode code 827 = .ok (.iaload, 1) := by decide +kernel
theorem dW_828 : decode code 828 = .ok (.aload_n 0, 1) := by decide +kernel
theorem dW_829 : decode code 829 = .ok (.iload 4, 2) := by decide +kernel
theorem dW_831 : decode code 831 = .ok (.iconst 2, 1) := by decide +kernel
theorem dW_832 : decode code 832 = .ok (.iadd, 1) := by decide +kernel
theorem dW_833 : decode code 833 = .ok (.iaload, 1) := by decide +kernel
theorem dW_834 : decode code 834 = .ok (.invokevirtual 106, 3) := by decide +kernel
theorem dW_837 : decode code 837 = .ok (.aload_n 2, 1) := by decide +kernel
theorem dW_838 : decode code 838 = .ok (.aload_n 0, 1) := by decide +kernel
theorem dW_839 : decode code 839 = .ok (.iload 4, 2) := by decide +kernel
theorem dW_841 : decode code 841 = .ok (.iconst 1, 1) := by decide +kernel
theorem dW_842 : decode code 842 = .ok (.iadd, 1) := by decide +kernel
theorem dW_843 : decode code 843 = .ok (.iaload, 1) := by decide +kernel
theorem dW_844 : decode code 844 = .ok (.aload_n 0, 1) := by decide +kernel
theorem dW_845 : decode code 845 = .ok (.iload 4, 2) := by decide +kernel
theorem dW_847 : decode code 847 = .ok (.iconst 2, 1) := by decide +kernel
theorem dW_848 : decode code 848 = .ok (.iadd, 1) := by decide +kernel
theorem dW_849 : decode code 849 = .ok (.iaload, 1) := by decide +kernel
theorem dW_850 : decode code 850 = .ok (.invokevirtual 109, 3) := by decide +kernel
theorem dW_853 : decode code 853 = .ok (.if_icmp .eq 507, 3) := by decide +kernel
theorem dW_856 : decode code 856 = .ok (.iconst 0, 1) := by decide +kernel
theorem dW_857 : decode code 857 = .ok (.ireturn, 1) := by decide +kernel
theorem dW_858 : decode code 858 = .ok (.aload_n 1, 1) := by decide +kernel
theorem dW_859 : decode code 859 = .ok (.aload_n 0, 1) := by decide +kernel
theorem dW_860 : decode code 860 = .ok (.iload 4, 2) := by decide +kernel
theorem dW_862 : decode code 862 = .ok (.iconst 1, 1) := by decide +kernel
theorem dW_863 : decode code 863 = .ok (.iadd, 1) := by decide +kernel
theorem dW_864 : decode code 864 = .ok (.iaload, 1) := by decide +kernel
theorem dW_865 : decode code 865 = .ok (.invokevirtual 110, 3) := by decide +kernel
theorem dW_868 : decode code 868 = .ok (.aload_n 2, 1) := by decide +kernel
theorem dW_869 : decode code 869 = .ok (.aload_n 0, 1) := by decide +kernel
theorem dW_870 : decode code 870 = .ok (.iload 4, 2) := by decide +kernel
theorem dW_872 : decode code 872 = .ok (.iconst 1, 1) := by decide +kernel
theorem dW_873 : decode code 873 = .ok (.iadd, 1) := by decide +kernel
theorem dW_874 : decode code 874 = .ok (.iaload, 1) := by decide +kernel
theorem dW_875 : decode code 875 = .ok (.invokevirtual 113, 3) := by decide +kernel
theorem dW_878 : decode code 878 = .ok (.if_icmp .eq 482, 3) := by decide +kernel
theorem dW_881 : decode code 881 = .ok (.iconst 0, 1) := by decide +kernel
theorem dW_882 : decode code 882 = .ok (.ireturn, 1) := by decide +kernel
theorem dW_883 : decode code 883 = .ok (.aload_n 1, 1) := by decide +kernel
theorem dW_884 : decode code 884 = .ok (.aload_n 0, 1) := by decide +kernel
theorem dW_885 : decode code 885 = .ok (.iload 4, 2) := by decide +kernel
theorem dW_887 : decode code 887 = .ok (.iconst 1, 1) := by decide +kernel
theorem dW_888 : decode code 888 = .ok (.iadd, 1) := by decide +kernel
theorem dW_889 : decode code 889 = .ok (.iaload, 1) := by decide +kernel
theorem dW_890 : decode code 890 = .ok (.invokevirtual 114, 3) := by decide +kernel
theorem dW_893 : decode code 893 = .ok (.aload_n 2, 1) := by decide +kernel
theorem dW_894 : decode code 894 = .ok (.aload_n 0, 1) := by decide +kernel
theorem dW_895 : decode code 895 = .ok (.iload 4, 2) := by decide +kernel
theorem dW_897 : decode code 897 = .ok (.iconst 1, 1) := by decide +kernel
theorem dW_898 : decode code 898 = .ok (.iadd, 1) := by decide +kernel
theorem dW_899 : decode code 899 = .ok (.iaload, 1) := by decide +kernel
theorem dW_900 : decode code 900 = .ok (.invokevirtual 117, 3) := by decide +kernel
theorem dW_903 : decode code 903 = .ok (.if_icmp .eq 457, 3) := by decide +kernel
theorem dW_906 : decode code 906 = .ok (.iconst 0, 1) := by decide +kernel
theorem dW_907 : decode code 907 = .ok (.ireturn, 1) := by decide +kernel
theorem dW_908 : decode code 908 = .ok (.aload_n 1, 1) := by decide +kernel
theorem dW_909 : decode code 909 = .ok (.invokevirtual 118, 3) := by decide +kernel
theorem dW_912 : decode code 912 = .ok (.aload_n 2, 1) := by decide +kernel
theorem dW_913 : decode code 913 = .ok (.invokevirtual 121, 3) := by decide +kernel
theorem dW_916 : decode code 916 = .ok (.if_icmp .eq 444, 3) := by decide +kernel
theorem dW_919 : decode code 919 = .ok (.iconst 0, 1) := by decide +kernel
theorem dW_920 : decode code 920 = .ok (.ireturn, 1) := by decide +kernel
theorem dW_921 : decode code 921 = .ok (.aload_n 1, 1) := by decide +kernel
theorem dW_922 : decode code 922 = .ok (.invokevirtual 122, 3) := by decide +kernel
theorem dW_925 : decode code 925 = .ok (.aload_n 2, 1) := by decide +kernel
theorem dW_926 : decode code 926 = .ok (.invokevirtual 125, 3) := by decide +kernel
theorem dW_929 : decode code 929 = .ok (.if_icmp .eq 431, 3) := by decide +kernel
theorem dW_932 : decode code 932 = .ok (.iconst 0, 1) := by decide +kernel
theorem dW_933 : decode code 933 = .ok (.ireturn, 1) := by decide +kernel
theorem dW_934 : decode code 934 = .ok (.aload_n 1, 1) := by decide +kernel
theorem dW_935 : decode code 935 = .ok (.aload_n 0, 1) := by decide +kernel
theorem dW_936 : decode code 936 = .ok (.iload 4, 2) := by decide +kernel
theorem dW_938 : decode code 938 = .ok (.iconst 1, 1) := by decide +kernel
theorem dW_939 : decode code 939 = .ok (.iadd, 1) := by decide +kernel
theorem dW_940 : decode code 940 = .ok (.iaload, 1) := by decide +kernel
theorem dW_941 : decode code 941 = .ok (.invokevirtual 126, 3) := by decide +kernel
theorem dW_944 : decode code 944 = .ok (.aload_n 2, 1) := by decide +kernel
theorem dW_945 : decode code 945 = .ok (.aload_n 0, 1) := by decide +kernel
theorem dW_946 : decode code 946 = .ok (.iload 4, 2) := by decide +kernel
theorem dW_948 : decode code 948 = .ok (.iconst 1, 1) := by decide +kernel
theorem dW_949 : decode code 949 = .ok (.iadd, 1) := by decide +kernel
theorem dW_950 : decode code 950 = .ok (.iaload, 1) := by decide +kernel
theorem dW_951 : decode code 951 = .ok (.invokevirtual 129, 3) := by decide +kernel
theorem dW_954 : decode code 954 = .ok (.if_icmp .eq 406, 3) := by decide +kernel
theorem dW_957 : decode code 957 = .ok (.iconst 0, 1) := by decide +kernel
theorem dW_958 : decode code 958 = .ok (.ireturn, 1) := by decide +kernel
theorem dW_959 : decode code 959 = .ok (.aload_n 1, 1) := by decide +kernel
theorem dW_960 : decode code 960 = .ok (.invokevirtual 130, 3) := by decide +kernel
theorem dW_963 : decode code 963 = .ok (.aload_n 2, 1) := by decide +kernel
theorem dW_964 : decode code 964 = .ok (.invokevirtual 133, 3) := by decide +kernel
theorem dW_967 : decode code 967 = .ok (.if_icmp .eq 393, 3) := by decide +kernel
theorem dW_970 : decode code 970 = .ok (.iconst 0, 1) := by decide +kernel
theorem dW_971 : decode code 971 = .ok (.ireturn, 1) := by decide +kernel
theorem dW_972 : decode code 972 = .ok (.aload_n 1, 1) := by decide +kernel
theorem dW_973 : decode code 973 = .ok (.aload_n 0, 1) := by decide +kernel
theorem dW_974 : decode code 974 = .ok (.iload 4, 2) := by decide +kernel
theorem dW_976 : decode code 976 = .ok (.iconst 1, 1) := by decide +kernel
theorem dW_977 : decode code 977 = .ok (.iadd, 1) := by decide +kernel
theorem dW_978 : decode code 978 = .ok (.iaload, 1) := by decide +kernel
theorem dW_979 : decode code 979 = .ok (.invokevirtual 134, 3) := by decide +kernel
theorem dW_982 : decode code 982 = .ok (.aload_n 2, 1) := by decide +kernel
theorem dW_983 : decode code 983 = .ok (.aload_n 0, 1) := by decide +kernel
theorem dW_984 : decode code 984 = .ok (.iload 4, 2) := by decide +kernel
theorem dW_986 : decode code 986 = .ok (.iconst 1, 1) := by decide +kernel
theorem dW_987 : decode code 987 = .ok (.iadd, 1) := by decide +kernel
theorem dW_988 : decode code 988 = .ok (.iaload, 1) := by decide +kernel
theorem dW_989 : decode code 989 = .ok (.invokevirtual 137, 3) := by decide +kernel
theorem dW_992 : decode code 992 = .ok (.if_icmp .eq 368, 3) := by decide +kernel
theorem dW_995 : decode code 995 = .ok (.iconst 0, 1) := by decide +kernel
theorem dW_996 : decode code 996 = .ok (.ireturn, 1) := by decide +kernel
theorem dW_997 : decode code 997 = .ok (.aload_n 1, 1) := by decide +kernel
theorem dW_998 : decode code 998 = .ok (.invokevirtual 138, 3) := by decide +kernel
theorem dW_1001 : decode code 1001 = .ok (.aload_n 2, 1) := by decide +kernel
theorem dW_1002 : decode code 1002 = .ok (.invokevirtual 141, 3) := by decide +kernel
theorem dW_1005 : decode code 1005 = .ok (.if_icmp .eq 355, 3) := by decide +kernel
theorem dW_1008 : decode code 1008 = .ok (.iconst 0, 1) := by decide +kernel
theorem dW_1009 : decode code 1009 = .ok (.ireturn, 1) := by decide +kernel
theorem dW_1010 : decode code 1010 = .ok (.aload_n 1, 1) := by decide +kernel
theorem dW_1011 : decode code 1011 = .ok (.invokevirtual 142, 3) := by decide +kernel
theorem dW_1014 : decode code 1014 = .ok (.aload_n 2, 1) := by decide +kernel
theorem dW_1015 : decode code 1015 = .ok (.invokevirtual 145, 3) := by decide +kernel
theorem dW_1018 : decode code 1018 = .ok (.if_icmp .eq 342, 3) := by decide +kernel
theorem dW_1021 : decode code 1021 = .ok (.iconst 0, 1) := by decide +kernel
theorem dW_1022 : decode code 1022 = .ok (.ireturn, 1) := by decide +kernel
theorem dW_1023 : decode code 1023 = .ok (.aload_n 1, 1) := by decide +kernel
theorem dW_1024 : decode code 1024 = .ok (.aload_n 0, 1) := by decide +kernel
theorem dW_1025 : decode code 1025 = .ok (.iload 4, 2) := by decide +kernel
theorem dW_1027 : decode code 1027 = .ok (.iconst 1, 1) := by decide +kernel
theorem dW_1028 : decode code 1028 = .ok (.iadd, 1) := by decide +kernel
theorem dW_1029 : decode code 1029 = .ok (.iaload, 1) := by decide +kernel
theorem dW_1030 : decode code 1030 = .ok (.invokevirtual 146, 3) := by decide +kernel
theorem dW_1033 : decode code 1033 = .ok (.aload_n 2, 1) := by decide +kernel
theorem dW_1034 : decode code 1034 = .ok (.aload_n 0, 1) := by decide +kernel
theorem dW_1035 : decode code 1035 = .ok (.iload 4, 2) := by decide +kernel
theorem dW_1037 : decode code 1037 = .ok (.iconst 1, 1) := by decide +kernel
theorem dW_1038 : decode code 1038 = .ok (.iadd, 1) := by decide +kernel
theorem dW_1039 : decode code 1039 = .ok (.iaload, 1) := by decide +kernel
theorem dW_1040 : decode code 1040 = .ok (.invokevirtual 149, 3) := by decide +kernel
theorem dW_1043 : decode code 1043 = .ok (.if_icmp .eq 317, 3) := by decide +kernel
theorem dW_1046 : decode code 1046 = .ok (.iconst 0, 1) := by decide +kernel
theorem dW_1047 : decode code 1047 = .ok (.ireturn, 1) := by decide +kernel
theorem dW_1048 : decode code 1048 = .ok (.aload_n 1, 1) := by decide +kernel
theorem dW_1049 : decode code 1049 = .ok (.aload_n 0, 1) := by decide +kernel
theorem dW_1050 : decode code 1050 = .ok (.iload 4, 2) := by decide +kernel
theorem dW_1052 : decode code 1052 = .ok (.iconst 1, 1) := by decide +kernel
theorem dW_1053 : decode code 1053 = .ok (.iadd, 1) := by decide +kernel
theorem dW_1054 : decode code 1054 = .ok (.iaload, 1) := by decide +kernel
theorem dW_1055 : decode code 1055 = .ok (.invokevirtual 150, 3) := by decide +kernel
theorem dW_1058 : decode code 1058 = .ok (.aload_n 2, 1) := by decide +kernel
theorem dW_1059 : decode code 1059 = .ok (.aload_n 0, 1) := by decide +kernel
theorem dW_1060 : decode code 1060 = .ok (.iload 4, 2) := by decide +kernel
theorem dW_1062 : decode code 1062 = .ok (.iconst 1, 1) := by decide +kernel
theorem dW_1063 : decode code 1063 = .ok (.iadd, 1) := by decide +kernel
theorem dW_1064 : decode code 1064 = .ok (.iaload, 1) := by decide +kernel
theorem dW_1065 : decode code 1065 = .ok (.invokevirtual 153, 3) := by decide +kernel
theorem dW_1068 : decode code 1068 = .ok (.if_icmp .eq 292, 3) := by decide +kernel
theorem dW_1071 : decode code 1071 = .ok (.iconst 0, 1) := by decide +kernel
theorem dW_1072 : decode code 1072 = .ok (.ireturn, 1) := by decide +kernel
theorem dW_1073 : decode code 1073 = .ok (.aload_n 1, 1) := by decide +kernel
theorem dW_1074 : decode code 1074 = .ok (.aload_n 0, 1) := by decide +kernel
theorem dW_1075 : decode code 1075 = .ok (.iload 4, 2) := by decide +kernel
theorem dW_1077 : decode code 1077 = .ok (.iconst 1, 1) := by decide +kernel
theorem dW_1078 : decode code 1078 = .ok (.iadd, 1) := by decide +kernel
theorem dW_1079 : decode code 1079 = .ok (.iaload, 1) := by decide +kernel
theorem dW_1080 : decode code 1080 = .ok (.invokevirtual 154, 3) := by decide +kernel
theorem dW_1083 : decode code 1083 = .ok (.aload_n 2, 1) := by decide +kernel
theorem dW_1084 : decode code 1084 = .ok (.aload_n 0, 1) := by decide +kernel
theorem dW_1085 : decode code 1085 = .ok (.iload 4, 2) := by decide +kernel
theorem dW_1087 : decode code 1087 = .ok (.iconst 1, 1) := by decide +kernel
theorem dW_1088 : decode code 1088 = .ok (.iadd, 1) := by decide +kernel
theorem dW_1089 : decode code 1089 = .ok (.iaload, 1) := by decide +kernel
theorem dW_1090 : decode code 1090 = .ok (.invokevirtual 157, 3) := by decide +kernel
theorem dW_1093 : decode code 1093 = .ok (.if_icmp .eq 267, 3) := by decide +kernel
theorem dW_1096 : decode code 1096 = .ok (.iconst 0, 1) := by decide +kernel
theorem dW_1097 : decode code 1097 = .ok (.ireturn, 1) := by decide +kernel
theorem dW_1098 : decode code 1098 = .ok (.aload_n 1, 1) := by decide +kernel
theorem dW_1099 : decode code 1099 = .ok (.invokevirtual 158, 3) := by decide +kernel
theorem dW_1102 : decode code 1102 = .ok (.aload_n 2, 1) := by decide +kernel
theorem dW_1103 : decode code 1103 = .ok (.invokevirtual 161, 3) := by decide +kernel
theorem dW_1106 : decode code 1106 = .ok (.if_icmp .eq 254, 3) := by decide +kernel
theorem dW_1109 : decode code 1109 = .ok (.iconst 0, 1) := by decide +kernel
theorem dW_1110 : decode code 1110 = .ok (.ireturn, 1) := by decide +kernel
theorem dW_1111 : decode code 1111 = .ok (.aload_n 1, 1) := by decide +kernel
theorem dW_1112 : decode code 1112 = .ok (.aload_n 0, 1) := by decide +kernel
theorem dW_1113 : decode code 1113 = .ok (.iload 4, 2) := by decide +kernel
theorem dW_1115 : decode code 1115 = .ok (.iconst 1, 1) := by decide +kernel
theorem dW_1116 : decode code 1116 = .ok (.iadd, 1) := by decide +kernel
theorem dW_1117 : decode code 1117 = .ok (.iaload, 1) := by decide +kernel
theorem dW_1118 : decode code 1118 = .ok (.invokevirtual 162, 3) := by decide +kernel
theorem dW_1121 : decode code 1121 = .ok (.aload_n 2, 1) := by decide +kernel
theorem dW_1122 : decode code 1122 = .ok (.aload_n 0, 1) := by decide +kernel
theorem dW_1123 : decode code 1123 = .ok (.iload 4, 2) := by decide +kernel
theorem dW_1125 : decode code 1125 = .ok (.iconst 1, 1) := by decide +kernel
theorem dW_1126 : decode code 1126 = .ok (.iadd, 1) := by decide +kernel
theorem dW_1127 : decode code 1127 = .ok (.iaload, 1) := by decide +kernel
theorem dW_1128 : decode code 1128 = .ok (.invokevirtual 165, 3) := by decide +kernel
theorem dW_1131 : decode code 1131 = .ok (.if_icmp .eq 229, 3) := by decide +kernel
theorem dW_1134 : decode code 1134 = .ok (.iconst 0, 1) := by decide +kernel
theorem dW_1135 : decode code 1135 = .ok (.ireturn, 1) := by decide +kernel
theorem dW_1136 : decode code 1136 = .ok (.aload_n 1, 1) := by decide +kernel
theorem dW_1137 : decode code 1137 = .ok (.aload_n 0, 1) := by decide +kernel
theorem dW_1138 : decode code 1138 = .ok (.iload 4, 2) := by decide +kernel
theorem dW_1140 : decode code 1140 = .ok (.iconst 1, 1) := by decide +kernel
theorem dW_1141 : decode code 1141 = .ok (.iadd, 1) := by decide +kernel
theorem dW_1142 : decode code 1142 = .ok (.iaload, 1) := by decide +kernel
theorem dW_1143 : decode code 1143 = .ok (.aload_n 0, 1) := by decide +kernel
theorem dW_1144 : decode code 1144 = .ok (.iload 4, 2) := by decide +kernel
theorem dW_1146 : decode code 1146 = .ok (.iconst 2, 1) := by decide +kernel
theorem dW_1147 : decode code 1147 = .ok (.iadd, 1) := by decide +kernel
theorem dW_1148 : decode code 1148 = .ok (.iaload, 1) := by decide +kernel
theorem dW_1149 : decode code 1149 = .ok (.invokevirtual 166, 3) := by decide +kernel
theorem dW_1152 : decode code 1152 = .ok (.aload_n 2, 1) := by decide +kernel
theorem dW_1153 : decode code 1153 = .ok (.aload_n 0, 1) := by decide +kernel
theorem dW_1154 : decode code 1154 = .ok (.iload 4, 2) := by decide +kernel
theorem dW_1156 : decode code 1156 = .ok (.iconst 1, 1) := by decide +kernel
theorem dW_1157 : decode code 1157 = .ok (.iadd, 1) := by decide +kernel
theorem dW_1158 : decode code 1158 = .ok (.iaload, 1) := by decide +kernel
theorem dW_1159 : decode code 1159 = .ok (.aload_n 0, 1) := by decide +kernel
theorem dW_1160 : decode code 1160 = .ok (.iload 4, 2) := by decide +kernel
theorem dW_1162 : decode code 1162 = .ok (.iconst 2, 1) := by decide +kernel
theorem dW_1163 : decode code 1163 = .ok (.iadd, 1) := by decide +kernel
theorem dW_1164 : decode code 1164 = .ok (.iaload, 1) := by decide +kernel
theorem dW_1165 : decode code 1165 = .ok (.invokevirtual 169, 3) := by decide +kernel
theorem dW_1168 : decode code 1168 = .ok (.if_icmp .eq 192, 3) := by decide +kernel
theorem dW_1171 : decode code 1171 = .ok (.iconst 0, 1) := by decide +kernel
theorem dW_1172 : decode code 1172 = .ok (.ireturn, 1) := by decide +kernel
theorem dW_1173 : decode code 1173 = .ok (.aload_n 1, 1) := by decide +kernel
theorem dW_1174 : decode code 1174 = .ok (.invokevirtual 170, 3) := by decide +kernel
theorem dW_1177 : decode code 1177 = .ok (.aload_n 2, 1) := by decide +kernel
theorem dW_1178 : decode code 1178 = .ok (.invokevirtual 173, 3) := by decide +kernel
theorem dW_1181 : decode code 1181 = .ok (.if_icmp .eq 179, 3) := by decide +kernel
theorem dW_1184 : decode code 1184 = .ok (.iconst 0, 1) := by decide +kernel
theorem dW_1185 : decode code 1185 = .ok (.ireturn, 1) := by decide +kernel
theorem dW_1186 : decode code 1186 = .ok (.aload_n 1, 1) := by decide +kernel
theorem dW_1187 : decode code 1187 = .ok (.invokevirtual 174, 3) := by decide +kernel
theorem dW_1190 : decode code 1190 = .ok (.aload_n 2, 1) := by decide +kernel
theorem dW_1191 : decode code 1191 = .ok (.invokevirtual 177, 3) := by decide +kernel
theorem dW_1194 : decode code 1194 = .ok (.if_icmp .eq 166, 3) := by decide +kernel
theorem dW_1197 : decode code 1197 = .ok (.iconst 0, 1) := by decide +kernel
theorem dW_1198 : decode code 1198 = .ok (.ireturn, 1) := by decide +kernel
theorem dW_1199 : decode code 1199 = .ok (.aload_n 1, 1) := by decide +kernel
theorem dW_1200 : decode code 1200 = .ok (.aload_n 0, 1) := by decide +kernel
theorem dW_1201 : decode code 1201 = .ok (.iload 4, 2) := by decide +kernel
theorem dW_1203 : decode code 1203 = .ok (.iconst 1, 1) := by decide +kernel
theorem dW_1204 : decode code 1204 = .ok (.iadd, 1) := by decide +kernel
theorem dW_1205 : decode code 1205 = .ok (.iaload, 1) := by decide +kernel
theorem dW_1206 : decode code 1206 = .ok (.aload_n 0, 1) := by decide +kernel
theorem dW_1207 : decode code 1207 = .ok (.iload 4, 2) := by decide +kernel
theorem dW_1209 : decode code 1209 = .ok (.iconst 2, 1) := by decide +kernel
theorem dW_1210 : decode code 1210 = .ok (.iadd, 1) := by decide +kernel
theorem dW_1211 : decode code 1211 = .ok (.iaload, 1) := by decide +kernel
theorem dW_1212 : decode code 1212 = .ok (.invokevirtual 178, 3) := by decide +kernel
theorem dW_1215 : decode code 1215 = .ok (.aload_n 2, 1) := by decide +kernel
theorem dW_1216 : decode code 1216 = .ok (.aload_n 0, 1) := by decide +kernel
theorem dW_1217 : decode code 1217 = .ok (.iload 4, 2) := by decide +kernel
theorem dW_1219 : decode code 1219 = .ok (.iconst 1, 1) := by decide +kernel
theorem dW_1220 : decode code 1220 = .ok (.iadd, 1) := by decide +kernel
theorem dW_1221 : decode code 1221 = .ok (.iaload, 1) := by decide +kernel
theorem dW_1222 : decode code 1222 = .ok (.aload_n 0, 1) := by decide +kernel
theorem dW_1223 : decode code 1223 = .ok (.iload 4, 2) := by decide +kernel
theorem dW_1225 : decode code 1225 = .ok (.iconst 2, 1) := by decide +kernel
theorem dW_1226 : decode code 1226 = .ok (.iadd, 1) := by decide +kernel
theorem dW_1227 : decode code 1227 = .ok (.iaload, 1) := by decide +kernel
theorem dW_1228 : decode code 1228 = .ok (.invokevirtual 181, 3) := by decide +kernel
theorem dW_1231 : decode code 1231 = .ok (.if_icmp .eq 129, 3) := by decide +kernel
theorem dW_1234 : decode code 1234 = .ok (.iconst 0, 1) := by decide +kernel
theorem dW_1235 : decode code 1235 = .ok (.ireturn, 1) := by decide +kernel
theorem dW_1236 : decode code 1236 = .ok (.aload_n 1, 1) := by decide +kernel
theorem dW_1237 : decode code 1237 = .ok (.aload_n 0, 1) := by decide +kernel
theorem dW_1238 : decode code 1238 = .ok (.iload 4, 2) := by decide +kernel
theorem dW_1240 : decode code 1240 = .ok (.iconst 1, 1) := by decide +kernel
theorem dW_1241 : decode code 1241 = .ok (.iadd, 1) := by decide +kernel
theorem dW_1242 : decode code 1242 = .ok (.iaload, 1) := by decide +kernel
theorem dW_1243 : decode code 1243 = .ok (.aload_n 0, 1) := by decide +kernel
theorem dW_1244 : decode code 1244 = .ok (.iload 4, 2) := by decide +kernel
theorem dW_1246 : decode code 1246 = .ok (.iconst 2, 1) := by decide +kernel
theorem dW_1247 : decode code 1247 = .ok (.iadd, 1) := by decide +kernel
theorem dW_1248 : decode code 1248 = .ok (.iaload, 1) := by decide +kernel
theorem dW_1249 : decode code 1249 = .ok (.invokevirtual 182, 3) := by decide +kernel
theorem dW_1252 : decode code 1252 = .ok (.aload_n 2, 1) := by decide +kernel
theorem dW_1253 : decode code 1253 = .ok (.aload_n 0, 1) := by decide +kernel
theorem dW_1254 : decode code 1254 = .ok (.iload 4, 2) := by decide +kernel
theorem dW_1256 : decode code 1256 = .ok (.iconst 1, 1) := by decide +kernel
theorem dW_1257 : decode code 1257 = .ok (.iadd, 1) := by decide +kernel
theorem dW_1258 : decode code 1258 = .ok (.iaload, 1) := by decide +kernel
theorem dW_1259 : decode code 1259 = .ok (.aload_n 0, 1) := by decide +kernel
theorem dW_1260 : decode code 1260 = .ok (.iload 4, 2) := by decide +kernel
theorem dW_1262 : decode code 1262 = .ok (.iconst 2, 1) := by decide +kernel
theorem dW_1263 : decode code 1263 = .ok (.iadd, 1) := by decide +kernel
theorem dW_1264 : decode code 1264 = .ok (.iaload, 1) := by decide +kernel
theorem dW_1265 : decode code 1265 = .ok (.invokevirtual 185, 3) := by decide +kernel
theorem dW_1268 : decode code 1268 = .ok (.if_icmp .eq 92, 3) := by decide +kernel
theorem dW_1271 : decode code 1271 = .ok (.iconst 0, 1) := by decide +kernel
theorem dW_1272 : decode code 1272 = .ok (.ireturn, 1) := by decide +kernel
theorem dW_1273 : decode code 1273 = .ok (.aload_n 1, 1) := by decide +kernel
theorem dW_1274 : decode code 1274 = .ok (.aload_n 0, 1) := by decide +kernel
theorem dW_1275 : decode code 1275 = .ok (.iload 4, 2) := by decide +kernel
theorem dW_1277 : decode code 1277 = .ok (.iconst 1, 1) := by decide +kernel
theorem dW_1278 : decode code 1278 = .ok (.iadd, 1) := by decide +kernel
theorem dW_1279 : decode code 1279 = .ok (.iaload, 1) := by decide +kernel
theorem dW_1280 : decode code 1280 = .ok (.aload_n 0, 1) := by decide +kernel
theorem dW_1281 : decode code 1281 = .ok (.iload 4, 2) := by decide +kernel
theorem dW_1283 : decode code 1283 = .ok (.iconst 2, 1) := by decide +kernel
theorem dW_1284 : decode code 1284 = .ok (.iadd, 1) := by decide +kernel
theorem dW_1285 : decode code 1285 = .ok (.iaload, 1) := by decide +kernel
theorem dW_1286 : decode code 1286 = .ok (.invokevirtual 186, 3) := by decide +kernel
theorem dW_1289 : decode code 1289 = .ok (.aload_n 2, 1) := by decide +kernel
theorem dW_1290 : decode code 1290 = .ok (.aload_n 0, 1) := by decide +kernel
theorem dW_1291 : decode code 1291 = .ok (.iload 4, 2) := by decide +kernel
theorem dW_1293 : decode code 1293 = .ok (.iconst 1, 1) := by decide +kernel
theorem dW_1294 : decode code 1294 = .ok (.iadd, 1) := by decide +kernel
theorem dW_1295 : decode code 1295 = .ok (.iaload, 1) := by decide +kernel
theorem dW_1296 : decode code 1296 = .ok (.aload_n 0, 1) := by decide +kernel
theorem dW_1297 : decode code 1297 = .ok (.iload 4, 2) := by decide +kernel
theorem dW_1299 : decode code 1299 = .ok (.iconst 2, 1) := by decide +kernel
theorem dW_1300 : decode code 1300 = .ok (.iadd, 1) := by decide +kernel
theorem dW_1301 : decode code 1301 = .ok (.iaload, 1) := by decide +kernel
theorem dW_1302 : decode code 1302 = .ok (.invokevirtual 189, 3) := by decide +kernel
theorem dW_1305 : decode code 1305 = .ok (.if_icmp .eq 55, 3) := by decide +kernel
theorem dW_1308 : decode code 1308 = .ok (.iconst 0, 1) := by decide +kernel
theorem dW_1309 : decode code 1309 = .ok (.ireturn, 1) := by decide +kernel
theorem dW_1310 : decode code 1310 = .ok (.aload_n 1, 1) := by decide +kernel
theorem dW_1311 : decode code 1311 = .ok (.aload_n 0, 1) := by decide +kernel
theorem dW_1312 : decode code 1312 = .ok (.iload 4, 2) := by decide +kernel
theorem dW_1314 : decode code 1314 = .ok (.iconst 1, 1) := by decide +kernel
theorem dW_1315 : decode code 1315 = .ok (.iadd, 1) := by decide +kernel
theorem dW_1316 : decode code 1316 = .ok (.iaload, 1) := by decide +kernel
theorem dW_1317 : decode code 1317 = .ok (.invokevirtual 190, 3) := by decide +kernel
theorem dW_1320 : decode code 1320 = .ok (.aload_n 2, 1) := by decide +kernel
theorem dW_1321 : decode code 1321 = .ok (.aload_n 0, 1) := by decide +kernel
theorem dW_1322 : decode code 1322 = .ok (.iload 4, 2) := by decide +kernel
theorem dW_1324 : decode code 1324 = .ok (.iconst 1, 1) := by decide +kernel
theorem dW_1325 : decode code 1325 = .ok (.iadd, 1) := by decide +kernel
theorem dW_1326 : decode code 1326 = .ok (.iaload, 1) := by decide +kernel
theorem dW_1327 : decode code 1327 = .ok (.invokevirtual 193, 3) := by decide +kernel
theorem dW_1330 : decode code 1330 = .ok (.if_icmp .eq 30, 3) := by decide +kernel
theorem dW_1333 : decode code 1333 = .ok (.iconst 0, 1) := by decide +kernel
theorem dW_1334 : decode code 1334 = .ok (.ireturn, 1) := by decide +kernel
theorem dW_1335 : decode code 1335 = .ok (.aload_n 1, 1) := by decide +kernel
theorem dW_1336 : decode code 1336 = .ok (.aload_n 0, 1) := by decide +kernel
theorem dW_1337 : decode code 1337 = .ok (.iload 4, 2) := by decide +kernel
theorem dW_1339 : decode code 1339 = .ok (.iconst 1, 1) := by decide +kernel
theorem dW_1340 : decode code 1340 = .ok (.iadd, 1) := by decide +kernel
theorem dW_1341 : decode code 1341 = .ok (.iaload, 1) := by decide +kernel
theorem dW_1342 : decode code 1342 = .ok (.invokevirtual 194, 3) := by decide +kernel
theorem dW_1345 : decode code 1345 = .ok (.aload_n 2, 1) := by decide +kernel
theorem dW_1346 : decode code 1346 = .ok (.aload_n 0, 1) := by decide +kernel
theorem dW_1347 : decode code 1347 = .ok (.iload 4, 2) := by decide +kernel
theorem dW_1349 : decode code 1349 = .ok (.iconst 1, 1) := by decide +kernel
theorem dW_1350 : decode code 1350 = .ok (.iadd, 1) := by decide +kernel
theorem dW_1351 : decode code 1351 = .ok (.iaload, 1) := by decide +kernel
theorem dW_1352 : decode code 1352 = .ok (.invokevirtual 197, 3) := by decide +kernel
theorem dW_1355 : decode code 1355 = .ok (.if_icmp .eq 5, 3) := by decide +kernel
theorem dW_1358 : decode code 1358 = .ok (.iconst 0, 1) := by decide +kernel
theorem dW_1359 : decode code 1359 = .ok (.ireturn, 1) := by decide +kernel
theorem dW_1360 : decode code 1360 = .ok (.iinc 4 6, 3) := by decide +kernel
theorem dW_1363 : decode code 1363 = .ok (.goto (-1340), 3) := by decide +kernel
theorem dW_1366 : decode code 1366 = .ok (.iconst 1, 1) := by decide +kernel
theorem dW_1367 : decode code 1367 = .ok (.ireturn, 1) := by decide +kernel
