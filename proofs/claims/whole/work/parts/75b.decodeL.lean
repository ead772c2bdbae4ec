theorem d_L_313 : decode code 313 = .ok (.aload_n 1, 1) := by decide +kernel
theorem d_L_314 : decode code 314 = .ok (.aload_n 0, 1) := by decide +kernel
theorem d_L_315 : decode code 315 = .ok (.iload_n 3, 1) := by decide +kernel
theorem d_L_316 : decode code 316 = .ok (.iconst 1, 1) := by decide +kernel
theorem d_L_317 : decode code 317 = .ok (.iadd, 1) := by decide +kernel
theorem d_L_318 : decode code 318 = .ok (.iaload, 1) := by decide +kernel
theorem d_L_319 : decode code 319 = .ok (.invokevirtual 36, 3) := by decide +kernel
theorem d_L_322 : decode code 322 = .ok (.aload_n 2, 1) := by decide +kernel
theorem d_L_323 : decode code 323 = .ok (.aload_n 0, 1) := by decide +kernel
theorem d_L_324 : decode code 324 = .ok (.iload_n 3, 1) := by decide +kernel
theorem d_L_325 : decode code 325 = .ok (.iconst 1, 1) := by decide +kernel
theorem d_L_326 : decode code 326 = .ok (.iadd, 1) := by decide +kernel
theorem d_L_327 : decode code 327 = .ok (.iaload, 1) := by decide +kernel
theorem d_L_328 : decode code 328 = .ok (.invokevirtual 40, 3) := by decide +kernel
theorem d_L_331 : decode code 331 = .ok (.if_icmp .eq 253, 3) := by decide +kernel
theorem d_L_334 : decode code 334 = .ok (.iconst 0, 1) := by decide +kernel
theorem d_L_335 : decode code 335 = .ok (.ireturn, 1) := by decide +kernel
theorem d_L_336 : decode code 336 = .ok (.aload_n 1, 1) := by decide +kernel
theorem d_L_337 : decode code 337 = .ok (.aload_n 0, 1) := by decide +kernel
theorem d_L_338 : decode code 338 = .ok (.iload_n 3, 1) := by decide +kernel
theorem d_L_339 : decode code 339 = .ok (.iconst 1, 1) := by decide +kernel
theorem d_L_340 : decode code 340 = .ok (.iadd, 1) := by decide +kernel
theorem d_L_341 : decode code 341 = .ok (.iaload, 1) := by decide +kernel
theorem d_L_342 : decode code 342 = .ok (.aload_n 0, 1) := by decide +kernel
theorem d_L_343 : decode code 343 = .ok (.iload_n 3, 1) := by decide +kernel
theorem d_L_344 : decode code 344 = .ok (.iconst 2, 1) := by decide +kernel
theorem d_L_345 : decode code 345 = .ok (.iadd, 1) := by decide +kernel
theorem d_L_346 : decode code 346 = .ok (.iaload, 1) := by decide +kernel
theorem d_L_347 : decode code 347 = .ok (.invokevirtual 41, 3) := by decide +kernel
theorem d_L_350 : decode code 350 = .ok (.aload_n 2, 1) := by decide +kernel
theorem d_L_351 : decode code 351 = .ok (.aload_n 0, 1) := by decide +kernel
theorem d_L_352 : decode code 352 = .ok (.iload_n 3, 1) := by decide +kernel
theorem d_L_353 : decode code 353 = .ok (.iconst 1, 1) := by decide +kernel
theorem d_L_354 : decode code 354 = .ok (.iadd, 1) := by decide +kernel
theorem d_L_355 : decode code 355 = .ok (.iaload, 1) := by decide +kernel
theorem d_L_356 : decode code 356 = .ok (.aload_n 0, 1) := by decide +kernel
theorem d_L_357 : decode code 357 = .ok (.iload_n 3, 1) := by decide +kernel
theorem d_L_358 : decode code 358 = .ok (.iconst 2, 1) := by decide +kernel
theorem d_L_359 : decode code 359 = .ok (.iadd, 1) := by decide +kernel
theorem d_L_360 : decode code 360 = .ok (.iaload, 1) := by decide +kernel
theorem d_L_361 : decode code 361 = .ok (.invokevirtual 44, 3) := by decide +kernel
theorem d_L_364 : decode code 364 = .ok (.if_icmp .eq 220, 3) := by decide +kernel
theorem d_L_367 : decode code 367 = .ok (.iconst 0, 1) := by decide +kernel
theorem d_L_368 : decode code 368 = .ok (.ireturn, 1) := by decide +kernel
theorem d_L_369 : decode code 369 = .ok (.aload_n 1, 1) := by decide +kernel
theorem d_L_370 : decode code 370 = .ok (.aload_n 0, 1) := by decide +kernel
theorem d_L_371 : decode code 371 = .ok (.iload_n 3, 1) := by decide +kernel
theorem d_L_372 : decode code 372 = .ok (.iconst 1, 1) := by decide +kernel
theorem d_L_373 : decode code 373 = .ok (.iadd, 1) := by decide +kernel
theorem d_L_374 : decode code 374 = .ok (.iaload, 1) := by decide +kernel
theorem d_L_375 : decode code 375 = .ok (.invokevirtual 45, 3) := by decide +kernel
theorem d_L_378 : decode code 378 = .ok (.aload_n 2, 1) := by decide +kernel
theorem d_L_379 : decode code 379 = .ok (.aload_n 0, 1) := by decide +kernel
theorem d_L_380 : decode code 380 = .ok (.iload_n 3, 1) := by decide +kernel
theorem d_L_381 : decode code 381 = .ok (.iconst 1, 1) := by decide +kernel
theorem d_L_382 : decode code 382 = .ok (.iadd, 1) := by decide +kernel
theorem d_L_383 : decode code 383 = .ok (.iaload, 1) := by decide +kernel
theorem d_L_384 : decode code 384 = .ok (.invokevirtual 48, 3) := by decide +kernel
theorem d_L_387 : decode code 387 = .ok (.if_icmp .eq 197, 3) := by decide +kernel
theorem d_L_390 : decode code 390 = .ok (.iconst 0, 1) := by decide +kernel
theorem d_L_391 : decode code 391 = .ok (.ireturn, 1) := by decide +kernel
theorem d_L_392 : decode code 392 = .ok (.aload_n 1, 1) := by decide +kernel
theorem d_L_393 : decode code 393 = .ok (.aload_n 0, 1) := by decide +kernel
theorem d_L_394 : decode code 394 = .ok (.iload_n 3, 1) := by decide +kernel
theorem d_L_395 : decode code 395 = .ok (.iconst 1, 1) := by decide +kernel
theorem d_L_396 : decode code 396 = .ok (.iadd, 1) := by decide +kernel
theorem d_L_397 : decode code 397 = .ok (.iaload, 1) := by decide +kernel
theorem d_L_398 : decode code 398 = .ok (.invokevirtual 49, 3) := by decide +kernel
theorem d_L_401 : decode code 401 = .ok (.aload_n 2, 1) := by decide +kernel
theorem d_L_402 : decode code 402 = .ok (.aload_n 0, 1) := by decide +kernel
theorem d_L_403 : decode code 403 = .ok (.iload_n 3, 1) := by decide +kernel
theorem d_L_404 : decode code 404 = .ok (.iconst 1, 1) := by decide +kernel
theorem d_L_405 : decode code 405 = .ok (.iadd, 1) := by decide +kernel
theorem d_L_406 : decode code 406 = .ok (.iaload, 1) := by decide +kernel
theorem d_L_407 : decode code 407 = .ok (.invokevirtual 52, 3) := by decide +kernel
theorem d_L_410 : decode code 410 = .ok (.if_icmp .eq 174, 3) := by decide +kernel
theorem d_L_413 : decode code 413 = .ok (.iconst 0, 1) := by decide +kernel
theorem d_L_414 : decode code 414 = .ok (.ireturn, 1) := by decide +kernel
theorem d_L_415 : decode code 415 = .ok (.aload_n 1, 1) := by decide +kernel
theorem d_L_416 : decode code 416 = .ok (.aload_n 0, 1) := by decide +kernel
theorem d_L_417 : decode code 417 = .ok (.iload_n 3, 1) := by decide +kernel
theorem d_L_418 : decode code 418 = .ok (.iconst 1, 1) := by decide +kernel
theorem d_L_419 : decode code 419 = .ok (.iadd, 1) := by decide +kernel
theorem d_L_420 : decode code 420 = .ok (.iaload, 1) := by decide +kernel
theorem d_L_421 : decode code 421 = .ok (.ifCond .eq 7, 3) := by decide +kernel
theorem d_L_424 : decode code 424 = .ok (.iconst 1, 1) := by decide +kernel
theorem d_L_425 : decode code 425 = .ok (.goto 4, 3) := by decide +kernel
theorem d_L_428 : decode code 428 = .ok (.iconst 0, 1) := by decide +kernel
theorem d_L_429 : decode code 429 = .ok (.invokevirtual 53, 3) := by decide +kernel
theorem d_L_432 : decode code 432 = .ok (.aload_n 2, 1) := by decide +kernel
theorem d_L_433 : decode code 433 = .ok (.aload_n 0, 1) := by decide +kernel
theorem d_L_434 : decode code 434 = .ok (.iload_n 3, 1) := by decide +kernel
theorem d_L_435 : decode code 435 = .ok (.iconst 1, 1) := by decide +kernel
theorem d_L_436 : decode code 436 = .ok (.iadd, 1) := by decide +kernel
theorem d_L_437 : decode code 437 = .ok (.iaload, 1) := by decide +kernel
theorem d_L_438 : decode code 438 = .ok (.ifCond .eq 7, 3) := by decide +kernel
theorem d_L_441 : decode code 441 = .ok (.iconst 1, 1) := by decide +kernel
theorem d_L_442 : decode code 442 = .ok (.goto 4, 3) := by decide +kernel
theorem d_L_445 : decode code 445 = .ok (.iconst 0, 1) := by decide +kernel
theorem d_L_446 : decode code 446 = .ok (.invokevirtual 57, 3) := by decide +kernel
theorem d_L_449 : decode code 449 = .ok (.if_icmp .eq 135, 3) := by decide +kernel
theorem d_L_452 : decode code 452 = .ok (.iconst 0, 1) := by decide +kernel
theorem d_L_453 : decode code 453 = .ok (.ireturn, 1) := by decide +kernel
theorem d_L_454 : decode code 454 = .ok (.aload_n 1, 1) := by decide +kernel
theorem d_L_455 : decode code 455 = .ok (.invokevirtual 58, 3) := by decide +kernel
theorem d_L_458 : decode code 458 = .ok (.aload_n 2, 1) := by decide +kernel
theorem d_L_459 : decode code 459 = .ok (.invokevirtual 62, 3) := by decide +kernel
theorem d_L_462 : decode code 462 = .ok (.if_icmp .eq 122, 3) := by decide +kernel
theorem d_L_465 : decode code 465 = .ok (.iconst 0, 1) := by decide +kernel
theorem d_L_466 : decode code 466 = .ok (.ireturn, 1) := by decide +kernel
theorem d_L_467 : decode code 467 = .ok (.aload_n 1, 1) := by decide +kernel
theorem d_L_468 : decode code 468 = .ok (.invokevirtual 63, 3) := by decide +kernel
theorem d_L_471 : decode code 471 = .ok (.aload_n 2, 1) := by decide +kernel
theorem d_L_472 : decode code 472 = .ok (.invokevirtual 66, 3) := by decide +kernel
theorem d_L_475 : decode code 475 = .ok (.if_icmp .eq 109, 3) := by decide +kernel
theorem d_L_478 : decode code 478 = .ok (.iconst 0, 1) := by decide +kernel
theorem d_L_479 : decode code 479 = .ok (.ireturn, 1) := by decide +kernel
theorem d_L_480 : decode code 480 = .ok (.aload_n 1, 1) := by decide +kernel
theorem d_L_481 : decode code 481 = .ok (.invokevirtual 67, 3) := by decide +kernel
theorem d_L_484 : decode code 484 = .ok (.aload_n 2, 1) := by decide +kernel
theorem d_L_485 : decode code 485 = .ok (.invokevirtual 70, 3) := by decide +kernel
theorem d_L_488 : decode code 488 = .ok (.if_icmp .eq 96, 3) := by decide +kernel
theorem d_L_491 : decode code 491 = .ok (.iconst 0, 1) := by decide +kernel
theorem d_L_492 : decode code 492 = .ok (.ireturn, 1) := by decide +kernel
theorem d_L_493 : decode code 493 = .ok (.aload_n 1, 1) := by decide +kernel
theorem d_L_494 : decode code 494 = .ok (.invokevirtual 71, 3) := by decide +kernel
theorem d_L_497 : decode code 497 = .ok (.aload_n 2, 1) := by decide +kernel
theorem d_L_498 : decode code 498 = .ok (.invokevirtual 74, 3) := by decide +kernel
theorem d_L_501 : decode code 501 = .ok (.if_icmp .eq 83, 3) := by decide +kernel
theorem d_L_504 : decode code 504 = .ok (.iconst 0, 1) := by decide +kernel
theorem d_L_505 : decode code 505 = .ok (.ireturn, 1) := by decide +kernel
theorem d_L_506 : decode code 506 = .ok (.aload_n 1, 1) := by decide +kernel
theorem d_L_507 : decode code 507 = .ok (.invokevirtual 75, 3) := by decide +kernel
theorem d_L_510 : decode code 510 = .ok (.aload_n 2, 1) := by decide +kernel
theorem d_L_511 : decode code 511 = .ok (.invokevirtual 78, 3) := by decide +kernel
theorem d_L_514 : decode code 514 = .ok (.if_icmp .eq 70, 3) := by decide +kernel
theorem d_L_517 : decode code 517 = .ok (.iconst 0, 1) := by decide +kernel
theorem d_L_518 : decode code 518 = .ok (.ireturn, 1) := by decide +kernel
theorem d_L_519 : decode code 519 = .ok (.aload_n 1, 1) := by decide +kernel
theorem d_L_520 : decode code 520 = .ok (.invokevirtual 79, 3) := by decide +kernel
theorem d_L_523 : decode code 523 = .ok (.aload_n 2, 1) := by decide +kernel
theorem d_L_524 : decode code 524 = .ok (.invokevirtual 82, 3) := by decide +kernel
theorem d_L_527 : decode code 527 = .ok (.if_icmp .eq 57, 3) := by decide +kernel
theorem d_L_530 : decode code 530 = .ok (.iconst 0, 1) := by decide +kernel
theorem d_L_531 : decode code 531 = .ok (.ireturn, 1) := by decide +kernel
theorem d_L_532 : decode code 532 = .ok (.aload_n 1, 1) := by decide +kernel
theorem d_L_533 : decode code 533 = .ok (.invokevirtual 83, 3) := by decide +kernel
theorem d_L_536 : decode code 536 = .ok (.aload_n 2, 1) := by decide +kernel
theorem d_L_537 : decode code 537 = .ok (.invokevirtual 86, 3) := by decide +kernel
theorem d_L_540 : decode code 540 = .ok (.if_icmp .eq 44, 3) := by decide +kernel
theorem d_L_543 : decode code 543 = .ok (.iconst 0, 1) := by decide +kernel
theorem d_L_544 : decode code 544 = .ok (.ireturn, 1) := by decide +kernel
theorem d_L_545 : decode code 545 = .ok (.aload_n 1, 1) := by decide +kernel
theorem d_L_546 : decode code 546 = .ok (.invokevirtual 87, 3) := by decide +kernel
theorem d_L_549 : decode code 549 = .ok (.aload_n 2, 1) := by decide +kernel
theorem d_L_550 : decode code 550 = .ok (.invokevirtual 90, 3) := by decide +kernel
theorem d_L_553 : decode code 553 = .ok (.if_icmp .eq 31, 3) := by decide +kernel
theorem d_L_556 : decode code 556 = .ok (.iconst 0, 1) := by decide +kernel
theorem d_L_557 : decode code 557 = .ok (.ireturn, 1) := by decide +kernel
theorem d_L_558 : decode code 558 = .ok (.aload_n 1, 1) := by decide +kernel
theorem d_L_559 : decode code 559 = .ok (.invokevirtual 91, 3) := by decide +kernel
theorem d_L_562 : decode code 562 = .ok (.aload_n 2, 1) := by decide +kernel
theorem d_L_563 : decode code 563 = .ok (.invokevirtual 94, 3) := by decide +kernel
theorem d_L_566 : decode code 566 = .ok (.if_icmp .eq 18, 3) := by decide +kernel
theorem d_L_569 : decode code 569 = .ok (.iconst 0, 1) := by decide +kernel
theorem d_L_570 : decode code 570 = .ok (.ireturn, 1) := by decide +kernel
theorem d_L_571 : decode code 571 = .ok (.aload_n 1, 1) := by decide +kernel
theorem d_L_572 : decode code 572 = .ok (.invokevirtual 95, 3) := by decide +kernel
theorem d_L_575 : decode code 575 = .ok (.aload_n 2, 1) := by decide +kernel
theorem d_L_576 : decode code 576 = .ok (.invokevirtual 98, 3) := by decide +kernel
theorem d_L_579 : decode code 579 = .ok (.if_icmp .eq 5, 3) := by decide +kernel
theorem d_L_582 : decode code 582 = .ok (.iconst 0, 1) := by decide +kernel
theorem d_L_583 : decode code 583 = .ok (.ireturn, 1) := by decide +kernel
theorem d_L_584 : decode code 584 = .ok (.iinc 3 4, 3) := by decide +kernel
theorem d_L_587 : decode code 587 = .ok (.goto (-569), 3) := by decide +kernel
theorem d_L_590 : decode code 590 = .ok (.iconst 1, 1) := by decide +kernel
theorem d_L_591 : decode code 591 = .ok (.ireturn, 1) := by decide +kernel
