/-! decode rows of the law (by program: wip/whole/gen_law1.py) -/
theorem dl_340 : decode code 340 = .ok (.iconst 1, 1) := by decide +kernel
theorem dl_341 : decode code 341 = .ok (.iadd, 1) := by decide +kernel
theorem dl_342 : decode code 342 = .ok (.iaload, 1) := by decide +kernel
theorem dl_343 : decode code 343 = .ok (.invokevirtual 36, 3) := by decide +kernel
theorem dl_346 : decode code 346 = .ok (.if_icmp .eq 916, 3) := by decide +kernel
theorem dl_349 : decode code 349 = .ok (.iconst 0, 1) := by decide +kernel
theorem dl_350 : decode code 350 = .ok (.ireturn, 1) := by decide +kernel
theorem dl_351 : decode code 351 = .ok (.aload_n 1, 1) := by decide +kernel
theorem dl_352 : decode code 352 = .ok (.aload_n 0, 1) := by decide +kernel
theorem dl_353 : decode code 353 = .ok (.iload_n 3, 1) := by decide +kernel
theorem dl_354 : decode code 354 = .ok (.iconst 1, 1) := by decide +kernel
theorem dl_355 : decode code 355 = .ok (.iadd, 1) := by decide +kernel
theorem dl_356 : decode code 356 = .ok (.iaload, 1) := by decide +kernel
theorem dl_357 : decode code 357 = .ok (.aload_n 0, 1) := by decide +kernel
theorem dl_358 : decode code 358 = .ok (.iload_n 3, 1) := by decide +kernel
theorem dl_359 : decode code 359 = .ok (.iconst 2, 1) := by decide +kernel
theorem dl_360 : decode code 360 = .ok (.iadd, 1) := by decide +kernel
theorem dl_361 : decode code 361 = .ok (.iaload, 1) := by decide +kernel
theorem dl_362 : decode code 362 = .ok (.aload_n 0, 1) := by decide +kernel
theorem dl_363 : decode code 363 = .ok (.iload_n 3, 1) := by decide +kernel
theorem dl_364 : decode code 364 = .ok (.iconst 3, 1) := by decide +kernel
theorem dl_365 : decode code 365 = .ok (.iadd, 1) := by decide +kernel
theorem dl_366 : decode code 366 = .ok (.iaload, 1) := by decide +kernel
theorem dl_367 : decode code 367 = .ok (.ifCond .eq 7, 3) := by decide +kernel
theorem dl_370 : decode code 370 = .ok (.iconst 1, 1) := by decide +kernel
theorem dl_371 : decode code 371 = .ok (.goto 4, 3) := by decide +kernel
theorem dl_374 : decode code 374 = .ok (.iconst 0, 1) := by decide +kernel
theorem dl_375 : decode code 375 = .ok (.invokevirtual 37, 3) := by decide +kernel
theorem dl_378 : decode code 378 = .ok (.aload_n 2, 1) := by decide +kernel
theorem dl_379 : decode code 379 = .ok (.aload_n 0, 1) := by decide +kernel
theorem dl_380 : decode code 380 = .ok (.iload_n 3, 1) := by decide +kernel
theorem dl_381 : decode code 381 = .ok (.iconst 1, 1) := by decide +kernel
theorem dl_382 : decode code 382 = .ok (.iadd, 1) := by decide +kernel
theorem dl_383 : decode code 383 = .ok (.iaload, 1) := by decide +kernel
theorem dl_384 : decode code 384 = .ok (.aload_n 0, 1) := by decide +kernel
theorem dl_385 : decode code 385 = .ok (.iload_n 3, 1) := by decide +kernel
theorem dl_386 : decode code 386 = .ok (.iconst 2, 1) := by decide +kernel
theorem dl_387 : decode code 387 = .ok (.iadd, 1) := by decide +kernel
theorem dl_388 : decode code 388 = .ok (.iaload, 1) := by decide +kernel
theorem dl_389 : decode code 389 = .ok (.aload_n 0, 1) := by decide +kernel
theorem dl_390 : decode code 390 = .ok (.iload_n 3, 1) := by decide +kernel
theorem dl_391 : decode code 391 = .ok (.iconst 3, 1) := by decide +kernel
theorem dl_392 : decode code 392 = .ok (.iadd, 1) := by decide +kernel
theorem dl_393 : decode code 393 = .ok (.iaload, 1) := by decide +kernel
theorem dl_394 : decode code 394 = .ok (.ifCond .eq 7, 3) := by decide +kernel
theorem dl_397 : decode code 397 = .ok (.iconst 1, 1) := by decide +kernel
theorem dl_398 : decode code 398 = .ok (.goto 4, 3) := by decide +kernel
theorem dl_401 : decode code 401 = .ok (.iconst 0, 1) := by decide +kernel
theorem dl_402 : decode code 402 = .ok (.invokevirtual 41, 3) := by decide +kernel
theorem dl_405 : decode code 405 = .ok (.if_icmp .eq 857, 3) := by decide +kernel
theorem dl_408 : decode code 408 = .ok (.iconst 0, 1) := by decide +kernel
theorem dl_409 : decode code 409 = .ok (.ireturn, 1) := by decide +kernel
theorem dl_410 : decode code 410 = .ok (.aload_n 1, 1) := by decide +kernel
theorem dl_411 : decode code 411 = .ok (.aload_n 0, 1) := by decide +kernel
theorem dl_412 : decode code 412 = .ok (.iload_n 3, 1) := by decide +kernel
theorem dl_413 : decode code 413 = .ok (.iconst 1, 1) := by decide +kernel
theorem dl_414 : decode code 414 = .ok (.iadd, 1) := by decide +kernel
theorem dl_415 : decode code 415 = .ok (.iaload, 1) := by decide +kernel
theorem dl_416 : decode code 416 = .ok (.aload_n 0, 1) := by decide +kernel
theorem dl_417 : decode code 417 = .ok (.iload_n 3, 1) := by decide +kernel
theorem dl_418 : decode code 418 = .ok (.iconst 2, 1) := by decide +kernel
theorem dl_419 : decode code 419 = .ok (.iadd, 1) := by decide +kernel
theorem dl_420 : decode code 420 = .ok (.iaload, 1) := by decide +kernel
theorem dl_421 : decode code 421 = .ok (.aload_n 0, 1) := by decide +kernel
theorem dl_422 : decode code 422 = .ok (.iload_n 3, 1) := by decide +kernel
theorem dl_423 : decode code 423 = .ok (.iconst 3, 1) := by decide +kernel
theorem dl_424 : decode code 424 = .ok (.iadd, 1) := by decide +kernel
theorem dl_425 : decode code 425 = .ok (.iaload, 1) := by decide +kernel
theorem dl_426 : decode code 426 = .ok (.ifCond .eq 7, 3) := by decide +kernel
theorem dl_429 : decode code 429 = .ok (.iconst 1, 1) := by decide +kernel
theorem dl_430 : decode code 430 = .ok (.goto 4, 3) := by decide +kernel
theorem dl_433 : decode code 433 = .ok (.iconst 0, 1) := by decide +kernel
theorem dl_434 : decode code 434 = .ok (.invokevirtual 42, 3) := by decide +kernel
theorem dl_437 : decode code 437 = .ok (.aload_n 2, 1) := by decide +kernel
theorem dl_438 : decode code 438 = .ok (.aload_n 0, 1) := by decide +kernel
theorem dl_439 : decode code 439 = .ok (.iload_n 3, 1) := by decide +kernel
theorem dl_440 : decode code 440 = .ok (.iconst 1, 1) := by decide +kernel
theorem dl_441 : decode code 441 = .ok (.iadd, 1) := by decide +kernel
theorem dl_442 : decode code 442 = .ok (.iaload, 1) := by decide +kernel
theorem dl_443 : decode code 443 = .ok (.aload_n 0, 1) := by decide +kernel
theorem dl_444 : decode code 444 = .ok (.iload_n 3, 1) := by decide +kernel
theorem dl_445 : decode code 445 = .ok (.iconst 2, 1) := by decide +kernel
theorem dl_446 : decode code 446 = .ok (.iadd, 1) := by decide +kernel
theorem dl_447 : decode code 447 = .ok (.iaload, 1) := by decide +kernel
theorem dl_448 : decode code 448 = .ok (.aload_n 0, 1) := by decide +kernel
theorem dl_449 : decode code 449 = .ok (.iload_n 3, 1) := by decide +kernel
theorem dl_450 : decode code 450 = .ok (.iconst 3, 1) := by decide +kernel
theorem dl_451 : decode code 451 = .ok (.iadd, 1) := by decide +kernel
theorem dl_452 : decode code 452 = .ok (.iaload, 1) := by decide +kernel
theorem dl_453 : decode code 453 = .ok (.ifCond .eq 7, 3) := by decide +kernel
theorem dl_456 : decode code 456 = .ok (.iconst 1, 1) := by decide +kernel
theorem dl_457 : decode code 457 = .ok (.goto 4, 3) := by decide +kernel
theorem dl_460 : decode code 460 = .ok (.iconst 0, 1) := by decide +kernel
theorem dl_461 : decode code 461 = .ok (.invokevirtual 45, 3) := by decide +kernel
theorem dl_464 : decode code 464 = .ok (.if_icmp .eq 798, 3) := by decide +kernel
theorem dl_467 : decode code 467 = .ok (.iconst 0, 1) := by decide +kernel
theorem dl_468 : decode code 468 = .ok (.ireturn, 1) := by decide +kernel
theorem dl_469 : decode code 469 = .ok (.aload_n 1, 1) := by decide +kernel
theorem dl_470 : decode code 470 = .ok (.aload_n 0, 1) := by decide +kernel
theorem dl_471 : decode code 471 = .ok (.iload_n 3, 1) := by decide +kernel
theorem dl_472 : decode code 472 = .ok (.iconst 1, 1) := by decide +kernel
theorem dl_473 : decode code 473 = .ok (.iadd, 1) := by decide +kernel
theorem dl_474 : decode code 474 = .ok (.iaload, 1) := by decide +kernel
theorem dl_475 : decode code 475 = .ok (.aload_n 0, 1) := by decide +kernel
theorem dl_476 : decode code 476 = .ok (.iload_n 3, 1) := by decide +kernel
theorem dl_477 : decode code 477 = .ok (.iconst 2, 1) := by decide +kernel
theorem dl_478 : decode code 478 = .ok (.iadd, 1) := by decide +kernel
theorem dl_479 : decode code 479 = .ok (.iaload, 1) := by decide +kernel
theorem dl_480 : decode code 480 = .ok (.aload_n 0, 1) := by decide +kernel
theorem dl_481 : decode code 481 = .ok (.iload_n 3, 1) := by decide +kernel
theorem dl_482 : decode code 482 = .ok (.iconst 3, 1) := by decide +kernel
theorem dl_483 : decode code 483 = .ok (.iadd, 1) := by decide +kernel
theorem dl_484 : decode code 484 = .ok (.iaload, 1) := by decide +kernel
theorem dl_485 : decode code 485 = .ok (.ifCond .eq 7, 3) := by decide +kernel
theorem dl_488 : decode code 488 = .ok (.iconst 1, 1) := by decide +kernel
theorem dl_489 : decode code 489 = .ok (.goto 4, 3) := by decide +kernel
theorem dl_492 : decode code 492 = .ok (.iconst 0, 1) := by decide +kernel
theorem dl_493 : decode code 493 = .ok (.invokevirtual 46, 3) := by decide +kernel
theorem dl_496 : decode code 496 = .ok (.aload_n 2, 1) := by decide +kernel
theorem dl_497 : decode code 497 = .ok (.aload_n 0, 1) := by decide +kernel
theorem dl_498 : decode code 498 = .ok (.iload_n 3, 1) := by decide +kernel
theorem dl_499 : decode code 499 = .ok (.iconst 1, 1) := by decide +kernel
theorem dl_500 : decode code 500 = .ok (.iadd, 1) := by decide +kernel
theorem dl_501 : decode code 501 = .ok (.iaload, 1) := by decide +kernel
theorem dl_502 : decode code 502 = .ok (.aload_n 0, 1) := by decide +kernel
theorem dl_503 : decode code 503 = .ok (.iload_n 3, 1) := by decide +kernel
theorem dl_504 : decode code 504 = .ok (.iconst 2, 1) := by decide +kernel
theorem dl_505 : decode code 505 = .ok (.iadd, 1) := by decide +kernel
theorem dl_506 : decode code 506 = .ok (.iaload, 1) := by decide +kernel
theorem dl_507 : decode code 507 = .ok (.aload_n 0, 1) := by decide +kernel
theorem dl_508 : decode code 508 = .ok (.iload_n 3, 1) := by decide +kernel
theorem dl_509 : decode code 509 = .ok (.iconst 3, 1) := by decide +kernel
theorem dl_510 : decode code 510 = .ok (.iadd, 1) := by decide +kernel
theorem dl_511 : decode code 511 = .ok (.iaload, 1) := by decide +kernel
theorem dl_512 : decode code 512 = .ok (.ifCond .eq 7, 3) := by decide +kernel
theorem dl_515 : decode code 515 = .ok (.iconst 1, 1) := by decide +kernel
theorem dl_516 : decode code 516 = .ok (.goto 4, 3) := by decide +kernel
theorem dl_519 : decode code 519 = .ok (.iconst 0, 1) := by decide +kernel
theorem dl_520 : decode code 520 = .ok (.invokevirtual 50, 3) := by decide +kernel
theorem dl_523 : decode code 523 = .ok (.lcmp, 1) := by decide +kernel
theorem dl_524 : decode code 524 = .ok (.ifCond .eq 738, 3) := by decide +kernel
theorem dl_527 : decode code 527 = .ok (.iconst 0, 1) := by decide +kernel
theorem dl_528 : decode code 528 = .ok (.ireturn, 1) := by decide +kernel
theorem dl_529 : decode code 529 = .ok (.aload_n 1, 1) := by decide +kernel
theorem dl_530 : decode code 530 = .ok (.aload_n 0, 1) := by decide +kernel
theorem dl_531 : decode code 531 = .ok (.iload_n 3, 1) := by decide +kernel
theorem dl_532 : decode code 532 = .ok (.iconst 1, 1) := by decide +kernel
theorem dl_533 : decode code 533 = .ok (.iadd, 1) := by decide +kernel
theorem dl_534 : decode code 534 = .ok (.iaload, 1) := by decide +kernel
theorem dl_535 : decode code 535 = .ok (.invokevirtual 51, 3) := by decide +kernel
