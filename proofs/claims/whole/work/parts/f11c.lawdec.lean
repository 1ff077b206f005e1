theorem d_law_370 : decode b_law 370 = .ok (.iaload, 1) := by decide +kernel
theorem d_law_371 : decode b_law 371 = .ok (.invokevirtual 58, 3) := by decide +kernel
theorem d_law_374 : decode b_law 374 = .ok (.aload_n 2, 1) := by decide +kernel
theorem d_law_375 : decode b_law 375 = .ok (.aload_n 0, 1) := by decide +kernel
theorem d_law_376 : decode b_law 376 = .ok (.iload_n 3, 1) := by decide +kernel
theorem d_law_377 : decode b_law 377 = .ok (.iconst 1, 1) := by decide +kernel
theorem d_law_378 : decode b_law 378 = .ok (.iadd, 1) := by decide +kernel
theorem d_law_379 : decode b_law 379 = .ok (.iaload, 1) := by decide +kernel
theorem d_law_380 : decode b_law 380 = .ok (.aload_n 0, 1) := by decide +kernel
theorem d_law_381 : decode b_law 381 = .ok (.iload_n 3, 1) := by decide +kernel
theorem d_law_382 : decode b_law 382 = .ok (.iconst 2, 1) := by decide +kernel
theorem d_law_383 : decode b_law 383 = .ok (.iadd, 1) := by decide +kernel
theorem d_law_384 : decode b_law 384 = .ok (.iaload, 1) := by decide +kernel
theorem d_law_385 : decode b_law 385 = .ok (.invokevirtual 62, 3) := by decide +kernel
theorem d_law_388 : decode b_law 388 = .ok (.if_icmp .eq 315, 3) := by decide +kernel
theorem d_law_393 : decode b_law 393 = .ok (.aload_n 1, 1) := by decide +kernel
theorem d_law_394 : decode b_law 394 = .ok (.invokevirtual 63, 3) := by decide +kernel
theorem d_law_397 : decode b_law 397 = .ok (.aload_n 2, 1) := by decide +kernel
theorem d_law_398 : decode b_law 398 = .ok (.invokevirtual 66, 3) := by decide +kernel
theorem d_law_401 : decode b_law 401 = .ok (.if_icmp .eq 302, 3) := by decide +kernel
theorem d_law_406 : decode b_law 406 = .ok (.aload_n 1, 1) := by decide +kernel
theorem d_law_407 : decode b_law 407 = .ok (.aload_n 0, 1) := by decide +kernel
theorem d_law_408 : decode b_law 408 = .ok (.iload_n 3, 1) := by decide +kernel
theorem d_law_409 : decode b_law 409 = .ok (.iconst 1, 1) := by decide +kernel
theorem d_law_410 : decode b_law 410 = .ok (.iadd, 1) := by decide +kernel
theorem d_law_411 : decode b_law 411 = .ok (.iaload, 1) := by decide +kernel
theorem d_law_412 : decode b_law 412 = .ok (.invokevirtual 67, 3) := by decide +kernel
theorem d_law_415 : decode b_law 415 = .ok (.aload_n 2, 1) := by decide +kernel
theorem d_law_416 : decode b_law 416 = .ok (.aload_n 0, 1) := by decide +kernel
theorem d_law_417 : decode b_law 417 = .ok (.iload_n 3, 1) := by decide +kernel
theorem d_law_418 : decode b_law 418 = .ok (.iconst 1, 1) := by decide +kernel
theorem d_law_419 : decode b_law 419 = .ok (.iadd, 1) := by decide +kernel
theorem d_law_420 : decode b_law 420 = .ok (.iaload, 1) := by decide +kernel
theorem d_law_421 : decode b_law 421 = .ok (.invokevirtual 70, 3) := by decide +kernel
theorem d_law_424 : decode b_law 424 = .ok (.if_icmp .eq 279, 3) := by decide +kernel
theorem d_law_429 : decode b_law 429 = .ok (.aload_n 1, 1) := by decide +kernel
theorem d_law_430 : decode b_law 430 = .ok (.aload_n 0, 1) := by decide +kernel
theorem d_law_431 : decode b_law 431 = .ok (.iload_n 3, 1) := by decide +kernel
theorem d_law_432 : decode b_law 432 = .ok (.iconst 1, 1) := by decide +kernel
theorem d_law_433 : decode b_law 433 = .ok (.iadd, 1) := by decide +kernel
theorem d_law_434 : decode b_law 434 = .ok (.iaload, 1) := by decide +kernel
theorem d_law_435 : decode b_law 435 = .ok (.invokevirtual 71, 3) := by decide +kernel
theorem d_law_438 : decode b_law 438 = .ok (.aload_n 2, 1) := by decide +kernel
theorem d_law_439 : decode b_law 439 = .ok (.aload_n 0, 1) := by decide +kernel
theorem d_law_440 : decode b_law 440 = .ok (.iload_n 3, 1) := by decide +kernel
theorem d_law_441 : decode b_law 441 = .ok (.iconst 1, 1) := by decide +kernel
theorem d_law_442 : decode b_law 442 = .ok (.iadd, 1) := by decide +kernel
theorem d_law_443 : decode b_law 443 = .ok (.iaload, 1) := by decide +kernel
theorem d_law_444 : decode b_law 444 = .ok (.invokevirtual 74, 3) := by decide +kernel
theorem d_law_447 : decode b_law 447 = .ok (.if_icmp .eq 256, 3) := by decide +kernel
theorem d_law_452 : decode b_law 452 = .ok (.aload_n 1, 1) := by decide +kernel
theorem d_law_453 : decode b_law 453 = .ok (.aload_n 0, 1) := by decide +kernel
theorem d_law_454 : decode b_law 454 = .ok (.iload_n 3, 1) := by decide +kernel
theorem d_law_455 : decode b_law 455 = .ok (.iconst 1, 1) := by decide +kernel
theorem d_law_456 : decode b_law 456 = .ok (.iadd, 1) := by decide +kernel
theorem d_law_457 : decode b_law 457 = .ok (.iaload, 1) := by decide +kernel
theorem d_law_458 : decode b_law 458 = .ok (.invokevirtual 75, 3) := by decide +kernel
theorem d_law_461 : decode b_law 461 = .ok (.aload_n 2, 1) := by decide +kernel
theorem d_law_462 : decode b_law 462 = .ok (.aload_n 0, 1) := by decide +kernel
theorem d_law_463 : decode b_law 463 = .ok (.iload_n 3, 1) := by decide +kernel
theorem d_law_464 : decode b_law 464 = .ok (.iconst 1, 1) := by decide +kernel
theorem d_law_465 : decode b_law 465 = .ok (.iadd, 1) := by decide +kernel
theorem d_law_466 : decode b_law 466 = .ok (.iaload, 1) := by decide +kernel
theorem d_law_467 : decode b_law 467 = .ok (.invokevirtual 78, 3) := by decide +kernel
theorem d_law_470 : decode b_law 470 = .ok (.if_icmp .eq 233, 3) := by decide +kernel
theorem d_law_475 : decode b_law 475 = .ok (.aload_n 1, 1) := by decide +kernel
theorem d_law_476 : decode b_law 476 = .ok (.invokevirtual 79, 3) := by decide +kernel
theorem d_law_479 : decode b_law 479 = .ok (.aload_n 2, 1) := by decide +kernel
theorem d_law_480 : decode b_law 480 = .ok (.invokevirtual 82, 3) := by decide +kernel
theorem d_law_483 : decode b_law 483 = .ok (.if_icmp .eq 220, 3) := by decide +kernel
theorem d_law_488 : decode b_law 488 = .ok (.aload_n 1, 1) := by decide +kernel
theorem d_law_489 : decode b_law 489 = .ok (.invokevirtual 83, 3) := by decide +kernel
theorem d_law_492 : decode b_law 492 = .ok (.aload_n 2, 1) := by decide +kernel
theorem d_law_493 : decode b_law 493 = .ok (.invokevirtual 86, 3) := by decide +kernel
theorem d_law_496 : decode b_law 496 = .ok (.if_icmp .eq 207, 3) := by decide +kernel
