theorem fr_Mod_86 : F_Mod 86 = (R_Mod, "openPages", "I", false) := rfl
theorem fr_Mod_87 : F_Mod 87 = (R_Mod, "openEntries", "I", false) := rfl
theorem fr_Mod_88 : F_Mod 88 = (R_Mod, "openTexts", "I", false) := rfl
theorem w_12_165 : (Jvm.Cond.methodLink "StripedVaultModel" (890 : Nat) ({ cls := "StripedVaultModel", name := "readPage", desc := "(I)V" } : Jvm.MethodName)) ∈ TG := tw_12 165 (by decide +kernel) (by decide +kernel)
theorem w_12_167 : (Jvm.Cond.instanceMethod ({ cls := "StripedVaultModel", name := "readPage", desc := "(I)V" } : Jvm.MethodName)) ∈ TG := tw_12 167 (by decide +kernel) (by decide +kernel)
theorem w_12_168 : (Jvm.Cond.code ({ cls := "StripedVaultModel", name := "readPage", desc := "(I)V" } : Jvm.MethodName) prog_14_method_131_code (10 : Nat) (Option.none : Option Jvm.ClassFile.FieldType)) ∈ TG := tw_12 168 (by decide +kernel) (by decide +kernel)
theorem w_13_19 : (Jvm.Cond.methodLink "StripedVaultModel" (899 : Nat) ({ cls := "StripedVaultModel", name := "order", desc := "(I)V" } : Jvm.MethodName)) ∈ TG := tw_13 19 (by decide +kernel) (by decide +kernel)
theorem w_13_21 : (Jvm.Cond.instanceMethod ({ cls := "StripedVaultModel", name := "order", desc := "(I)V" } : Jvm.MethodName)) ∈ TG := tw_13 21 (by decide +kernel) (by decide +kernel)
theorem w_13_22 : (Jvm.Cond.code ({ cls := "StripedVaultModel", name := "order", desc := "(I)V" } : Jvm.MethodName) prog_14_method_132_code (7 : Nat) (Option.none : Option Jvm.ClassFile.FieldType)) ∈ TG := tw_13 22 (by decide +kernel) (by decide +kernel)
theorem w_13_23 : (Jvm.Cond.methodLink "StripedVaultModel" (905 : Nat) ({ cls := "StripedVaultModel", name := "compare", desc := "(III)I" } : Jvm.MethodName)) ∈ TG := tw_13 23 (by decide +kernel) (by decide +kernel)
theorem w_13_25 : (Jvm.Cond.instanceMethod ({ cls := "StripedVaultModel", name := "compare", desc := "(III)I" } : Jvm.MethodName)) ∈ TG := tw_13 25 (by decide +kernel) (by decide +kernel)
theorem w_13_26 : (Jvm.Cond.code ({ cls := "StripedVaultModel", name := "compare", desc := "(III)I" } : Jvm.MethodName) prog_14_method_122_code (5 : Nat) (Option.some Jvm.ClassFile.FieldType.int)) ∈ TG := tw_13 26 (by decide +kernel) (by decide +kernel)
theorem w_9_22 : (Jvm.Cond.fieldLink "StripedVaultModel" (902 : Nat) "StripedVaultModel" "openPages" "I") ∈ TG := tw_9 22 (by decide +kernel) (by decide +kernel)
theorem w_9_23 : (Jvm.Cond.fieldLink "StripedVaultModel" (896 : Nat) "StripedVaultModel" "openEntries" "I") ∈ TG := tw_9 23 (by decide +kernel) (by decide +kernel)
theorem w_9_24 : (Jvm.Cond.fieldLink "StripedVaultModel" (893 : Nat) "StripedVaultModel" "openTexts" "I") ∈ TG := tw_9 24 (by decide +kernel) (by decide +kernel)
theorem ws_196 : Cond.selects R_Mod y_Mod_readPage y_Mod_readPage ∈ TG := tw_s 196 (by decide +kernel) (by decide +kernel)
theorem ws_218 : Cond.selects R_Mod y_Mod_order y_Mod_order ∈ TG := tw_s 218 (by decide +kernel) (by decide +kernel)
theorem ws_219 : Cond.selects R_Mod y_Mod_compare y_Mod_compare ∈ TG := tw_s 219 (by decide +kernel) (by decide +kernel)
theorem d_Mod_openPage_658 : decode b_Mod_openPage 658 = .ok (.aload_n 0, 1) := by decide +kernel
theorem d_Mod_openPage_659 : decode b_Mod_openPage 659 = .ok (.dup, 1) := by decide +kernel
theorem d_Mod_openPage_660 : decode b_Mod_openPage 660 = .ok (.getfield 902, 3) := by decide +kernel
theorem d_Mod_openPage_663 : decode b_Mod_openPage 663 = .ok (.iconst 1, 1) := by decide +kernel
theorem d_Mod_openPage_664 : decode b_Mod_openPage 664 = .ok (.iadd, 1) := by decide +kernel
theorem d_Mod_openPage_665 : decode b_Mod_openPage 665 = .ok (.putfield 902, 3) := by decide +kernel
theorem d_Mod_openPage_668 : decode b_Mod_openPage 668 = .ok (.return_, 1) := by decide +kernel
theorem d_Mod_openPage_648 : decode b_Mod_openPage 648 = .ok (.invokevirtual 856, 3) := by decide +kernel
theorem d_Mod_openPage_651 : decode b_Mod_openPage 651 = .ok (.pop, 1) := by decide +kernel
theorem d_Mod_openPage_652 : decode b_Mod_openPage 652 = .ok (.iinc 6 1, 3) := by decide +kernel
theorem d_Mod_openPage_655 : decode b_Mod_openPage 655 = .ok (.goto (-76), 3) := by decide +kernel
theorem d_Mod_openPage_608 : decode b_Mod_openPage 608 = .ok (.aload_n 0, 1) := by decide +kernel
theorem d_Mod_openPage_609 : decode b_Mod_openPage 609 = .ok (.getfield 124, 3) := by decide +kernel
theorem d_Mod_openPage_612 : decode b_Mod_openPage 612 = .ok (.aload_n 0, 1) := by decide +kernel
theorem d_Mod_openPage_613 : decode b_Mod_openPage 613 = .ok (.getfield 115, 3) := by decide +kernel
theorem d_Mod_openPage_616 : decode b_Mod_openPage 616 = .ok (.iload 6, 2) := by decide +kernel
theorem d_Mod_openPage_618 : decode b_Mod_openPage 618 = .ok (.iaload, 1) := by decide +kernel
theorem d_Mod_openPage_619 : decode b_Mod_openPage 619 = .ok (.aload_n 0, 1) := by decide +kernel
theorem d_Mod_openPage_620 : decode b_Mod_openPage 620 = .ok (.getfield 623, 3) := by decide +kernel
theorem d_Mod_openPage_623 : decode b_Mod_openPage 623 = .ok (.iconst 3, 1) := by decide +kernel
theorem d_Mod_openPage_624 : decode b_Mod_openPage 624 = .ok (.if_icmp .ne 23, 3) := by decide +kernel
theorem d_Mod_openPage_647 : decode b_Mod_openPage 647 = .ok (.iconst 0, 1) := by decide +kernel
theorem d_Mod_openPage_627 : decode b_Mod_openPage 627 = .ok (.aload_n 0, 1) := by decide +kernel
theorem d_Mod_openPage_628 : decode b_Mod_openPage 628 = .ok (.getfield 115, 3) := by decide +kernel
theorem d_Mod_openPage_631 : decode b_Mod_openPage 631 = .ok (.iload 6, 2) := by decide +kernel
theorem d_Mod_openPage_633 : decode b_Mod_openPage 633 = .ok (.iconst 1, 1) := by decide +kernel
theorem d_Mod_openPage_634 : decode b_Mod_openPage 634 = .ok (.iadd, 1) := by decide +kernel
theorem d_Mod_openPage_635 : decode b_Mod_openPage 635 = .ok (.iaload, 1) := by decide +kernel
theorem d_Mod_openPage_636 : decode b_Mod_openPage 636 = .ok (.aload_n 0, 1) := by decide +kernel
theorem d_Mod_openPage_637 : decode b_Mod_openPage 637 = .ok (.getfield 115, 3) := by decide +kernel
theorem d_Mod_openPage_640 : decode b_Mod_openPage 640 = .ok (.iload 6, 2) := by decide +kernel
theorem d_Mod_openPage_642 : decode b_Mod_openPage 642 = .ok (.iaload, 1) := by decide +kernel
theorem d_Mod_openPage_643 : decode b_Mod_openPage 643 = .ok (.isub, 1) := by decide +kernel
theorem d_Mod_openPage_644 : decode b_Mod_openPage 644 = .ok (.goto 4, 3) := by decide +kernel
theorem d_Mod_openPage_579 : decode b_Mod_openPage 579 = .ok (.iload 6, 2) := by decide +kernel
theorem d_Mod_openPage_581 : decode b_Mod_openPage 581 = .ok (.aload_n 0, 1) := by decide +kernel
theorem d_Mod_openPage_582 : decode b_Mod_openPage 582 = .ok (.getfield 701, 3) := by decide +kernel
theorem d_Mod_openPage_585 : decode b_Mod_openPage 585 = .ok (.if_icmp .ge 73, 3) := by decide +kernel
theorem d_Mod_openPage_588 : decode b_Mod_openPage 588 = .ok (.aload_n 0, 1) := by decide +kernel
theorem d_Mod_openPage_589 : decode b_Mod_openPage 589 = .ok (.aload_n 0, 1) := by decide +kernel
theorem d_Mod_openPage_590 : decode b_Mod_openPage 590 = .ok (.getfield 623, 3) := by decide +kernel
theorem d_Mod_openPage_593 : decode b_Mod_openPage 593 = .ok (.iconst 3, 1) := by decide +kernel
theorem d_Mod_openPage_594 : decode b_Mod_openPage 594 = .ok (.if_icmp .ne 7, 3) := by decide +kernel
theorem d_Mod_openPage_601 : decode b_Mod_openPage 601 = .ok (.aload_n 0, 1) := by decide +kernel
theorem d_Mod_openPage_602 : decode b_Mod_openPage 602 = .ok (.getfield 106, 3) := by decide +kernel
theorem d_Mod_openPage_605 : decode b_Mod_openPage 605 = .ok (.iload 6, 2) := by decide +kernel
theorem d_Mod_openPage_607 : decode b_Mod_openPage 607 = .ok (.laload, 1) := by decide +kernel
theorem d_Mod_openPage_597 : decode b_Mod_openPage 597 = .ok (.lconst 0, 1) := by decide +kernel
theorem d_Mod_openPage_598 : decode b_Mod_openPage 598 = .ok (.goto 10, 3) := by decide +kernel
theorem d_Mod_openPage_501 : decode b_Mod_openPage 501 = .ok (.aload_n 0, 1) := by decide +kernel
theorem d_Mod_openPage_502 : decode b_Mod_openPage 502 = .ok (.dup, 1) := by decide +kernel
theorem d_Mod_openPage_503 : decode b_Mod_openPage 503 = .ok (.getfield 896, 3) := by decide +kernel
theorem d_Mod_openPage_506 : decode b_Mod_openPage 506 = .ok (.iconst 1, 1) := by decide +kernel
theorem d_Mod_openPage_507 : decode b_Mod_openPage 507 = .ok (.iadd, 1) := by decide +kernel
theorem d_Mod_openPage_508 : decode b_Mod_openPage 508 = .ok (.putfield 896, 3) := by decide +kernel
theorem d_Mod_openPage_511 : decode b_Mod_openPage 511 = .ok (.iinc 6 1, 3) := by decide +kernel
theorem d_Mod_openPage_514 : decode b_Mod_openPage 514 = .ok (.goto (-282), 3) := by decide +kernel
theorem d_Mod_openPage_497 : decode b_Mod_openPage 497 = .ok (.iastore, 1) := by decide +kernel
theorem d_Mod_openPage_498 : decode b_Mod_openPage 498 = .ok (.iinc 5 1, 3) := by decide +kernel
theorem d_Mod_openPage_485 : decode b_Mod_openPage 485 = .ok (.iload 7, 2) := by decide +kernel
theorem d_Mod_openPage_487 : decode b_Mod_openPage 487 = .ok (.goto 10, 3) := by decide +kernel
theorem d_Mod_openPage_447 : decode b_Mod_openPage 447 = .ok (.iastore, 1) := by decide +kernel
theorem d_Mod_openPage_448 : decode b_Mod_openPage 448 = .ok (.aload_n 0, 1) := by decide +kernel
theorem d_Mod_openPage_449 : decode b_Mod_openPage 449 = .ok (.getfield 228, 3) := by decide +kernel
theorem d_Mod_openPage_452 : decode b_Mod_openPage 452 = .ok (.iload 4, 2) := by decide +kernel
theorem d_Mod_openPage_454 : decode b_Mod_openPage 454 = .ok (.aload_n 0, 1) := by decide +kernel
theorem d_Mod_openPage_455 : decode b_Mod_openPage 455 = .ok (.getfield 228, 3) := by decide +kernel
theorem d_Mod_openPage_458 : decode b_Mod_openPage 458 = .ok (.iload 4, 2) := by decide +kernel
theorem d_Mod_openPage_460 : decode b_Mod_openPage 460 = .ok (.iaload, 1) := by decide +kernel
theorem d_Mod_openPage_461 : decode b_Mod_openPage 461 = .ok (.iconst (-1), 1) := by decide +kernel
theorem d_Mod_openPage_462 : decode b_Mod_openPage 462 = .ok (.if_icmp .eq 23, 3) := by decide +kernel
theorem d_Mod_openPage_465 : decode b_Mod_openPage 465 = .ok (.aload_n 0, 1) := by decide +kernel
theorem d_Mod_openPage_466 : decode b_Mod_openPage 466 = .ok (.aload_n 0, 1) := by decide +kernel
theorem d_Mod_openPage_467 : decode b_Mod_openPage 467 = .ok (.getfield 623, 3) := by decide +kernel
theorem d_Mod_openPage_470 : decode b_Mod_openPage 470 = .ok (.iload 7, 2) := by decide +kernel
theorem d_Mod_openPage_472 : decode b_Mod_openPage 472 = .ok (.aload_n 0, 1) := by decide +kernel
theorem d_Mod_openPage_473 : decode b_Mod_openPage 473 = .ok (.getfield 228, 3) := by decide +kernel
theorem d_Mod_openPage_476 : decode b_Mod_openPage 476 = .ok (.iload 4, 2) := by decide +kernel
theorem d_Mod_openPage_478 : decode b_Mod_openPage 478 = .ok (.iaload, 1) := by decide +kernel
theorem d_Mod_openPage_479 : decode b_Mod_openPage 479 = .ok (.invokevirtual 905, 3) := by decide +kernel
theorem d_Mod_openPage_482 : decode b_Mod_openPage 482 = .ok (.ifCond .le 8, 3) := by decide +kernel
theorem d_Mod_openPage_490 : decode b_Mod_openPage 490 = .ok (.aload_n 0, 1) := by decide +kernel
theorem d_Mod_openPage_491 : decode b_Mod_openPage 491 = .ok (.getfield 228, 3) := by decide +kernel
theorem d_Mod_openPage_494 : decode b_Mod_openPage 494 = .ok (.iload 4, 2) := by decide +kernel
theorem d_Mod_openPage_496 : decode b_Mod_openPage 496 = .ok (.iaload, 1) := by decide +kernel
theorem d_Mod_openPage_435 : decode b_Mod_openPage 435 = .ok (.iload 7, 2) := by decide +kernel
theorem d_Mod_openPage_437 : decode b_Mod_openPage 437 = .ok (.goto 10, 3) := by decide +kernel
theorem d_Mod_openPage_382 : decode b_Mod_openPage 382 = .ok (.invokevirtual 856, 3) := by decide +kernel
theorem d_Mod_openPage_385 : decode b_Mod_openPage 385 = .ok (.istore 7, 2) := by decide +kernel
theorem d_Mod_openPage_387 : decode b_Mod_openPage 387 = .ok (.aload_n 0, 1) := by decide +kernel
theorem d_Mod_openPage_388 : decode b_Mod_openPage 388 = .ok (.getfield 192, 3) := by decide +kernel
theorem d_Mod_openPage_391 : decode b_Mod_openPage 391 = .ok (.aload_n 0, 1) := by decide +kernel
theorem d_Mod_openPage_392 : decode b_Mod_openPage 392 = .ok (.getfield 896, 3) := by decide +kernel
theorem d_Mod_openPage_395 : decode b_Mod_openPage 395 = .ok (.iload 7, 2) := by decide +kernel
theorem d_Mod_openPage_397 : decode b_Mod_openPage 397 = .ok (.iastore, 1) := by decide +kernel
theorem d_Mod_openPage_398 : decode b_Mod_openPage 398 = .ok (.aload_n 0, 1) := by decide +kernel
theorem d_Mod_openPage_399 : decode b_Mod_openPage 399 = .ok (.getfield 225, 3) := by decide +kernel
theorem d_Mod_openPage_402 : decode b_Mod_openPage 402 = .ok (.iload 4, 2) := by decide +kernel
theorem d_Mod_openPage_404 : decode b_Mod_openPage 404 = .ok (.aload_n 0, 1) := by decide +kernel
theorem d_Mod_openPage_405 : decode b_Mod_openPage 405 = .ok (.getfield 225, 3) := by decide +kernel
theorem d_Mod_openPage_408 : decode b_Mod_openPage 408 = .ok (.iload 4, 2) := by decide +kernel
theorem d_Mod_openPage_410 : decode b_Mod_openPage 410 = .ok (.iaload, 1) := by decide +kernel
theorem d_Mod_openPage_411 : decode b_Mod_openPage 411 = .ok (.iconst (-1), 1) := by decide +kernel
theorem d_Mod_openPage_412 : decode b_Mod_openPage 412 = .ok (.if_icmp .eq 23, 3) := by decide +kernel
theorem d_Mod_openPage_415 : decode b_Mod_openPage 415 = .ok (.aload_n 0, 1) := by decide +kernel
theorem d_Mod_openPage_416 : decode b_Mod_openPage 416 = .ok (.aload_n 0, 1) := by decide +kernel
theorem d_Mod_openPage_417 : decode b_Mod_openPage 417 = .ok (.getfield 623, 3) := by decide +kernel
theorem d_Mod_openPage_420 : decode b_Mod_openPage 420 = .ok (.iload 7, 2) := by decide +kernel
theorem d_Mod_openPage_422 : decode b_Mod_openPage 422 = .ok (.aload_n 0, 1) := by decide +kernel
theorem d_Mod_openPage_423 : decode b_Mod_openPage 423 = .ok (.getfield 225, 3) := by decide +kernel
theorem d_Mod_openPage_426 : decode b_Mod_openPage 426 = .ok (.iload 4, 2) := by decide +kernel
theorem d_Mod_openPage_428 : decode b_Mod_openPage 428 = .ok (.iaload, 1) := by decide +kernel
theorem d_Mod_openPage_429 : decode b_Mod_openPage 429 = .ok (.invokevirtual 905, 3) := by decide +kernel
theorem d_Mod_openPage_432 : decode b_Mod_openPage 432 = .ok (.ifCond .ge 8, 3) := by decide +kernel
theorem d_Mod_openPage_440 : decode b_Mod_openPage 440 = .ok (.aload_n 0, 1) := by decide +kernel
theorem d_Mod_openPage_441 : decode b_Mod_openPage 441 = .ok (.getfield 225, 3) := by decide +kernel
theorem d_Mod_openPage_444 : decode b_Mod_openPage 444 = .ok (.iload 4, 2) := by decide +kernel
theorem d_Mod_openPage_446 : decode b_Mod_openPage 446 = .ok (.iaload, 1) := by decide +kernel
theorem d_Mod_openPage_342 : decode b_Mod_openPage 342 = .ok (.aload_n 0, 1) := by decide +kernel
theorem d_Mod_openPage_343 : decode b_Mod_openPage 343 = .ok (.getfield 121, 3) := by decide +kernel
theorem d_Mod_openPage_346 : decode b_Mod_openPage 346 = .ok (.aload_n 0, 1) := by decide +kernel
theorem d_Mod_openPage_347 : decode b_Mod_openPage 347 = .ok (.getfield 112, 3) := by decide +kernel
theorem d_Mod_openPage_350 : decode b_Mod_openPage 350 = .ok (.iload 5, 2) := by decide +kernel
theorem d_Mod_openPage_352 : decode b_Mod_openPage 352 = .ok (.iaload, 1) := by decide +kernel
theorem d_Mod_openPage_353 : decode b_Mod_openPage 353 = .ok (.aload_n 0, 1) := by decide +kernel
theorem d_Mod_openPage_354 : decode b_Mod_openPage 354 = .ok (.getfield 623, 3) := by decide +kernel
theorem d_Mod_openPage_357 : decode b_Mod_openPage 357 = .ok (.iconst 3, 1) := by decide +kernel
theorem d_Mod_openPage_358 : decode b_Mod_openPage 358 = .ok (.if_icmp .ne 23, 3) := by decide +kernel
theorem d_Mod_openPage_381 : decode b_Mod_openPage 381 = .ok (.iconst 0, 1) := by decide +kernel
theorem d_Mod_openPage_361 : decode b_Mod_openPage 361 = .ok (.aload_n 0, 1) := by decide +kernel
theorem d_Mod_openPage_362 : decode b_Mod_openPage 362 = .ok (.getfield 112, 3) := by decide +kernel
theorem d_Mod_openPage_365 : decode b_Mod_openPage 365 = .ok (.iload 5, 2) := by decide +kernel
theorem d_Mod_openPage_367 : decode b_Mod_openPage 367 = .ok (.iconst 1, 1) := by decide +kernel
theorem d_Mod_openPage_368 : decode b_Mod_openPage 368 = .ok (.iadd, 1) := by decide +kernel
theorem d_Mod_openPage_369 : decode b_Mod_openPage 369 = .ok (.iaload, 1) := by decide +kernel
theorem d_Mod_openPage_370 : decode b_Mod_openPage 370 = .ok (.aload_n 0, 1) := by decide +kernel
theorem d_Mod_openPage_371 : decode b_Mod_openPage 371 = .ok (.getfield 112, 3) := by decide +kernel
theorem d_Mod_openPage_374 : decode b_Mod_openPage 374 = .ok (.iload 5, 2) := by decide +kernel
theorem d_Mod_openPage_376 : decode b_Mod_openPage 376 = .ok (.iaload, 1) := by decide +kernel
theorem d_Mod_openPage_377 : decode b_Mod_openPage 377 = .ok (.isub, 1) := by decide +kernel
theorem d_Mod_openPage_378 : decode b_Mod_openPage 378 = .ok (.goto 4, 3) := by decide +kernel
theorem d_Mod_openPage_306 : decode b_Mod_openPage 306 = .ok (.iadd, 1) := by decide +kernel
theorem d_Mod_openPage_307 : decode b_Mod_openPage 307 = .ok (.iastore, 1) := by decide +kernel
theorem d_Mod_openPage_308 : decode b_Mod_openPage 308 = .ok (.aload_n 0, 1) := by decide +kernel
theorem d_Mod_openPage_309 : decode b_Mod_openPage 309 = .ok (.getfield 97, 3) := by decide +kernel
theorem d_Mod_openPage_312 : decode b_Mod_openPage 312 = .ok (.iload 6, 2) := by decide +kernel
theorem d_Mod_openPage_314 : decode b_Mod_openPage 314 = .ok (.iaload, 1) := by decide +kernel
theorem d_Mod_openPage_315 : decode b_Mod_openPage 315 = .ok (.aload_n 0, 1) := by decide +kernel
theorem d_Mod_openPage_316 : decode b_Mod_openPage 316 = .ok (.getfield 739, 3) := by decide +kernel
theorem d_Mod_openPage_319 : decode b_Mod_openPage 319 = .ok (.if_icmp .ne 182, 3) := by decide +kernel
theorem d_Mod_openPage_322 : decode b_Mod_openPage 322 = .ok (.aload_n 0, 1) := by decide +kernel
theorem d_Mod_openPage_323 : decode b_Mod_openPage 323 = .ok (.aload_n 0, 1) := by decide +kernel
theorem d_Mod_openPage_324 : decode b_Mod_openPage 324 = .ok (.getfield 623, 3) := by decide +kernel
theorem d_Mod_openPage_327 : decode b_Mod_openPage 327 = .ok (.iconst 3, 1) := by decide +kernel
theorem d_Mod_openPage_328 : decode b_Mod_openPage 328 = .ok (.if_icmp .ne 7, 3) := by decide +kernel
theorem d_Mod_openPage_335 : decode b_Mod_openPage 335 = .ok (.aload_n 0, 1) := by decide +kernel
theorem d_Mod_openPage_336 : decode b_Mod_openPage 336 = .ok (.getfield 103, 3) := by decide +kernel
theorem d_Mod_openPage_339 : decode b_Mod_openPage 339 = .ok (.iload 5, 2) := by decide +kernel
theorem d_Mod_openPage_341 : decode b_Mod_openPage 341 = .ok (.laload, 1) := by decide +kernel
theorem d_Mod_openPage_331 : decode b_Mod_openPage 331 = .ok (.lconst 0, 1) := by decide +kernel
theorem d_Mod_openPage_332 : decode b_Mod_openPage 332 = .ok (.goto 10, 3) := by decide +kernel
theorem d_Mod_openPage_232 : decode b_Mod_openPage 232 = .ok (.iload 6, 2) := by decide +kernel
theorem d_Mod_openPage_234 : decode b_Mod_openPage 234 = .ok (.aload_n 0, 1) := by decide +kernel
theorem d_Mod_openPage_235 : decode b_Mod_openPage 235 = .ok (.getfield 676, 3) := by decide +kernel
theorem d_Mod_openPage_238 : decode b_Mod_openPage 238 = .ok (.if_icmp .ge 279, 3) := by decide +kernel
theorem d_Mod_openPage_517 : decode b_Mod_openPage 517 = .ok (.aload_n 0, 1) := by decide +kernel
theorem d_Mod_openPage_518 : decode b_Mod_openPage 518 = .ok (.getfield 231, 3) := by decide +kernel
theorem d_Mod_openPage_521 : decode b_Mod_openPage 521 = .ok (.iload 4, 2) := by decide +kernel
theorem d_Mod_openPage_523 : decode b_Mod_openPage 523 = .ok (.aload_n 0, 1) := by decide +kernel
theorem d_Mod_openPage_524 : decode b_Mod_openPage 524 = .ok (.getfield 835, 3) := by decide +kernel
theorem d_Mod_openPage_527 : decode b_Mod_openPage 527 = .ok (.iastore, 1) := by decide +kernel
theorem d_Mod_openPage_528 : decode b_Mod_openPage 528 = .ok (.aload_n 0, 1) := by decide +kernel
theorem d_Mod_openPage_529 : decode b_Mod_openPage 529 = .ok (.getfield 234, 3) := by decide +kernel
theorem d_Mod_openPage_532 : decode b_Mod_openPage 532 = .ok (.iload 4, 2) := by decide +kernel
theorem d_Mod_openPage_534 : decode b_Mod_openPage 534 = .ok (.iconst 0, 1) := by decide +kernel
theorem d_Mod_openPage_535 : decode b_Mod_openPage 535 = .ok (.iastore, 1) := by decide +kernel
theorem d_Mod_openPage_536 : decode b_Mod_openPage 536 = .ok (.aload_n 0, 1) := by decide +kernel
theorem d_Mod_openPage_537 : decode b_Mod_openPage 537 = .ok (.getfield 623, 3) := by decide +kernel
theorem d_Mod_openPage_540 : decode b_Mod_openPage 540 = .ok (.ifCond .eq 118, 3) := by decide +kernel
theorem d_Mod_openPage_543 : decode b_Mod_openPage 543 = .ok (.aload_n 0, 1) := by decide +kernel
theorem d_Mod_openPage_544 : decode b_Mod_openPage 544 = .ok (.getfield 760, 3) := by decide +kernel
theorem d_Mod_openPage_547 : decode b_Mod_openPage 547 = .ok (.aload_n 0, 1) := by decide +kernel
theorem d_Mod_openPage_548 : decode b_Mod_openPage 548 = .ok (.invokevirtual 754, 3) := by decide +kernel
theorem d_Mod_openPage_551 : decode b_Mod_openPage 551 = .ok (.iconst 1, 1) := by decide +kernel
theorem d_Mod_openPage_552 : decode b_Mod_openPage 552 = .ok (.isub, 1) := by decide +kernel
theorem d_Mod_openPage_553 : decode b_Mod_openPage 553 = .ok (.if_icmp .ne 105, 3) := by decide +kernel
theorem d_Mod_openPage_556 : decode b_Mod_openPage 556 = .ok (.aload_n 0, 1) := by decide +kernel
theorem d_Mod_openPage_557 : decode b_Mod_openPage 557 = .ok (.getfield 701, 3) := by decide +kernel
theorem d_Mod_openPage_560 : decode b_Mod_openPage 560 = .ok (.bipush 100, 2) := by decide +kernel
theorem d_Mod_openPage_562 : decode b_Mod_openPage 562 = .ok (.if_icmp .gt 96, 3) := by decide +kernel
theorem d_Mod_openPage_565 : decode b_Mod_openPage 565 = .ok (.aload_n 0, 1) := by decide +kernel
theorem d_Mod_openPage_566 : decode b_Mod_openPage 566 = .ok (.getfield 234, 3) := by decide +kernel
theorem d_Mod_openPage_569 : decode b_Mod_openPage 569 = .ok (.iload 4, 2) := by decide +kernel
theorem d_Mod_openPage_571 : decode b_Mod_openPage 571 = .ok (.aload_n 0, 1) := by decide +kernel
theorem d_Mod_openPage_572 : decode b_Mod_openPage 572 = .ok (.getfield 701, 3) := by decide +kernel
theorem d_Mod_openPage_575 : decode b_Mod_openPage 575 = .ok (.iastore, 1) := by decide +kernel
theorem d_Mod_openPage_576 : decode b_Mod_openPage 576 = .ok (.iconst 0, 1) := by decide +kernel
theorem d_Mod_openPage_577 : decode b_Mod_openPage 577 = .ok (.istore 6, 2) := by decide +kernel
theorem d_Mod_openPage_241 : decode b_Mod_openPage 241 = .ok (.aload_n 0, 1) := by decide +kernel
theorem d_Mod_openPage_242 : decode b_Mod_openPage 242 = .ok (.getfield 186, 3) := by decide +kernel
theorem d_Mod_openPage_245 : decode b_Mod_openPage 245 = .ok (.aload_n 0, 1) := by decide +kernel
theorem d_Mod_openPage_246 : decode b_Mod_openPage 246 = .ok (.getfield 896, 3) := by decide +kernel
theorem d_Mod_openPage_249 : decode b_Mod_openPage 249 = .ok (.aload_n 0, 1) := by decide +kernel
theorem d_Mod_openPage_250 : decode b_Mod_openPage 250 = .ok (.getfield 94, 3) := by decide +kernel
theorem d_Mod_openPage_253 : decode b_Mod_openPage 253 = .ok (.iload 6, 2) := by decide +kernel
theorem d_Mod_openPage_255 : decode b_Mod_openPage 255 = .ok (.iaload, 1) := by decide +kernel
theorem d_Mod_openPage_256 : decode b_Mod_openPage 256 = .ok (.iastore, 1) := by decide +kernel
theorem d_Mod_openPage_257 : decode b_Mod_openPage 257 = .ok (.aload_n 0, 1) := by decide +kernel
theorem d_Mod_openPage_258 : decode b_Mod_openPage 258 = .ok (.getfield 189, 3) := by decide +kernel
theorem d_Mod_openPage_261 : decode b_Mod_openPage 261 = .ok (.aload_n 0, 1) := by decide +kernel
theorem d_Mod_openPage_262 : decode b_Mod_openPage 262 = .ok (.getfield 896, 3) := by decide +kernel
theorem d_Mod_openPage_265 : decode b_Mod_openPage 265 = .ok (.aload_n 0, 1) := by decide +kernel
theorem d_Mod_openPage_266 : decode b_Mod_openPage 266 = .ok (.getfield 97, 3) := by decide +kernel
theorem d_Mod_openPage_269 : decode b_Mod_openPage 269 = .ok (.iload 6, 2) := by decide +kernel
theorem d_Mod_openPage_271 : decode b_Mod_openPage 271 = .ok (.iaload, 1) := by decide +kernel
theorem d_Mod_openPage_272 : decode b_Mod_openPage 272 = .ok (.iastore, 1) := by decide +kernel
theorem d_Mod_openPage_273 : decode b_Mod_openPage 273 = .ok (.aload_n 0, 1) := by decide +kernel
theorem d_Mod_openPage_274 : decode b_Mod_openPage 274 = .ok (.getfield 192, 3) := by decide +kernel
theorem d_Mod_openPage_277 : decode b_Mod_openPage 277 = .ok (.aload_n 0, 1) := by decide +kernel
theorem d_Mod_openPage_278 : decode b_Mod_openPage 278 = .ok (.getfield 896, 3) := by decide +kernel
theorem d_Mod_openPage_281 : decode b_Mod_openPage 281 = .ok (.iconst (-1), 1) := by decide +kernel
theorem d_Mod_openPage_282 : decode b_Mod_openPage 282 = .ok (.iastore, 1) := by decide +kernel
theorem d_Mod_openPage_283 : decode b_Mod_openPage 283 = .ok (.aload_n 0, 1) := by decide +kernel
theorem d_Mod_openPage_284 : decode b_Mod_openPage 284 = .ok (.getfield 216, 3) := by decide +kernel
theorem d_Mod_openPage_287 : decode b_Mod_openPage 287 = .ok (.iload 4, 2) := by decide +kernel
theorem d_Mod_openPage_289 : decode b_Mod_openPage 289 = .ok (.dup2, 1) := by decide +kernel
theorem d_Mod_openPage_290 : decode b_Mod_openPage 290 = .ok (.iaload, 1) := by decide +kernel
theorem d_Mod_openPage_291 : decode b_Mod_openPage 291 = .ok (.aload_n 0, 1) := by decide +kernel
theorem d_Mod_openPage_292 : decode b_Mod_openPage 292 = .ok (.getfield 94, 3) := by decide +kernel
theorem d_Mod_openPage_295 : decode b_Mod_openPage 295 = .ok (.iload 6, 2) := by decide +kernel
theorem d_Mod_openPage_297 : decode b_Mod_openPage 297 = .ok (.iaload, 1) := by decide +kernel
theorem d_Mod_openPage_298 : decode b_Mod_openPage 298 = .ok (.ifCond .ne 7, 3) := by decide +kernel
theorem d_Mod_openPage_305 : decode b_Mod_openPage 305 = .ok (.iconst 0, 1) := by decide +kernel
theorem d_Mod_openPage_301 : decode b_Mod_openPage 301 = .ok (.iconst 1, 1) := by decide +kernel
theorem d_Mod_openPage_302 : decode b_Mod_openPage 302 = .ok (.goto 4, 3) := by decide +kernel
theorem d_Mod_openPage_145 : decode b_Mod_openPage 145 = .ok (.aload_n 0, 1) := by decide +kernel
theorem d_Mod_openPage_146 : decode b_Mod_openPage 146 = .ok (.getfield 550, 3) := by decide +kernel
theorem d_Mod_openPage_149 : decode b_Mod_openPage 149 = .ok (.ifCond .eq 4, 3) := by decide +kernel
theorem d_Mod_openPage_153 : decode b_Mod_openPage 153 = .ok (.aload_n 0, 1) := by decide +kernel
theorem d_Mod_openPage_154 : decode b_Mod_openPage 154 = .ok (.getfield 902, 3) := by decide +kernel
theorem d_Mod_openPage_157 : decode b_Mod_openPage 157 = .ok (.istore 4, 2) := by decide +kernel
theorem d_Mod_openPage_159 : decode b_Mod_openPage 159 = .ok (.aload_n 0, 1) := by decide +kernel
theorem d_Mod_openPage_160 : decode b_Mod_openPage 160 = .ok (.getfield 210, 3) := by decide +kernel
theorem d_Mod_openPage_163 : decode b_Mod_openPage 163 = .ok (.iload 4, 2) := by decide +kernel
theorem d_Mod_openPage_165 : decode b_Mod_openPage 165 = .ok (.iload_n 1, 1) := by decide +kernel
theorem d_Mod_openPage_166 : decode b_Mod_openPage 166 = .ok (.iastore, 1) := by decide +kernel
theorem d_Mod_openPage_167 : decode b_Mod_openPage 167 = .ok (.aload_n 0, 1) := by decide +kernel
theorem d_Mod_openPage_168 : decode b_Mod_openPage 168 = .ok (.getfield 213, 3) := by decide +kernel
theorem d_Mod_openPage_171 : decode b_Mod_openPage 171 = .ok (.iload 4, 2) := by decide +kernel
theorem d_Mod_openPage_173 : decode b_Mod_openPage 173 = .ok (.iload_n 2, 1) := by decide +kernel
theorem d_Mod_openPage_174 : decode b_Mod_openPage 174 = .ok (.iastore, 1) := by decide +kernel
theorem d_Mod_openPage_175 : decode b_Mod_openPage 175 = .ok (.aload_n 0, 1) := by decide +kernel
theorem d_Mod_openPage_176 : decode b_Mod_openPage 176 = .ok (.getfield 216, 3) := by decide +kernel
theorem d_Mod_openPage_179 : decode b_Mod_openPage 179 = .ok (.iload 4, 2) := by decide +kernel
theorem d_Mod_openPage_181 : decode b_Mod_openPage 181 = .ok (.iconst 0, 1) := by decide +kernel
theorem d_Mod_openPage_182 : decode b_Mod_openPage 182 = .ok (.iastore, 1) := by decide +kernel
theorem d_Mod_openPage_183 : decode b_Mod_openPage 183 = .ok (.aload_n 0, 1) := by decide +kernel
theorem d_Mod_openPage_184 : decode b_Mod_openPage 184 = .ok (.getfield 219, 3) := by decide +kernel
theorem d_Mod_openPage_187 : decode b_Mod_openPage 187 = .ok (.iload 4, 2) := by decide +kernel
theorem d_Mod_openPage_189 : decode b_Mod_openPage 189 = .ok (.aload_n 0, 1) := by decide +kernel
theorem d_Mod_openPage_190 : decode b_Mod_openPage 190 = .ok (.getfield 676, 3) := by decide +kernel
theorem d_Mod_openPage_193 : decode b_Mod_openPage 193 = .ok (.iastore, 1) := by decide +kernel
theorem d_Mod_openPage_194 : decode b_Mod_openPage 194 = .ok (.aload_n 0, 1) := by decide +kernel
theorem d_Mod_openPage_195 : decode b_Mod_openPage 195 = .ok (.getfield 222, 3) := by decide +kernel
theorem d_Mod_openPage_198 : decode b_Mod_openPage 198 = .ok (.iload 4, 2) := by decide +kernel
theorem d_Mod_openPage_200 : decode b_Mod_openPage 200 = .ok (.aload_n 0, 1) := by decide +kernel
theorem d_Mod_openPage_201 : decode b_Mod_openPage 201 = .ok (.getfield 676, 3) := by decide +kernel
theorem d_Mod_openPage_204 : decode b_Mod_openPage 204 = .ok (.aload_n 0, 1) := by decide +kernel
theorem d_Mod_openPage_205 : decode b_Mod_openPage 205 = .ok (.getfield 632, 3) := by decide +kernel
theorem d_Mod_openPage_208 : decode b_Mod_openPage 208 = .ok (.isub, 1) := by decide +kernel
theorem d_Mod_openPage_209 : decode b_Mod_openPage 209 = .ok (.iastore, 1) := by decide +kernel
theorem d_Mod_openPage_210 : decode b_Mod_openPage 210 = .ok (.aload_n 0, 1) := by decide +kernel
theorem d_Mod_openPage_211 : decode b_Mod_openPage 211 = .ok (.getfield 225, 3) := by decide +kernel
theorem d_Mod_openPage_214 : decode b_Mod_openPage 214 = .ok (.iload 4, 2) := by decide +kernel
theorem d_Mod_openPage_216 : decode b_Mod_openPage 216 = .ok (.iconst (-1), 1) := by decide +kernel
theorem d_Mod_openPage_217 : decode b_Mod_openPage 217 = .ok (.iastore, 1) := by decide +kernel
theorem d_Mod_openPage_218 : decode b_Mod_openPage 218 = .ok (.aload_n 0, 1) := by decide +kernel
theorem d_Mod_openPage_219 : decode b_Mod_openPage 219 = .ok (.getfield 228, 3) := by decide +kernel
theorem d_Mod_openPage_222 : decode b_Mod_openPage 222 = .ok (.iload 4, 2) := by decide +kernel
theorem d_Mod_openPage_224 : decode b_Mod_openPage 224 = .ok (.iconst (-1), 1) := by decide +kernel
theorem d_Mod_openPage_225 : decode b_Mod_openPage 225 = .ok (.iastore, 1) := by decide +kernel
theorem d_Mod_openPage_226 : decode b_Mod_openPage 226 = .ok (.iconst 0, 1) := by decide +kernel
theorem d_Mod_openPage_227 : decode b_Mod_openPage 227 = .ok (.istore 5, 2) := by decide +kernel
theorem d_Mod_openPage_229 : decode b_Mod_openPage 229 = .ok (.iconst 0, 1) := by decide +kernel
theorem d_Mod_openPage_230 : decode b_Mod_openPage 230 = .ok (.istore 6, 2) := by decide +kernel
theorem d_Mod_openPage_152 : decode b_Mod_openPage 152 = .ok (.return_, 1) := by decide +kernel
theorem d_Mod_openPage_128 : decode b_Mod_openPage 128 = .ok (.bipush 19, 2) := by decide +kernel
theorem d_Mod_openPage_130 : decode b_Mod_openPage 130 = .ok (.invokevirtual 841, 3) := by decide +kernel
theorem d_Mod_openPage_133 : decode b_Mod_openPage 133 = .ok (.aload_n 0, 1) := by decide +kernel
theorem d_Mod_openPage_134 : decode b_Mod_openPage 134 = .ok (.getfield 550, 3) := by decide +kernel
theorem d_Mod_openPage_137 : decode b_Mod_openPage 137 = .ok (.ifCond .ne 8, 3) := by decide +kernel
theorem d_Mod_openPage_140 : decode b_Mod_openPage 140 = .ok (.aload_n 0, 1) := by decide +kernel
theorem d_Mod_openPage_141 : decode b_Mod_openPage 141 = .ok (.iload_n 1, 1) := by decide +kernel
theorem d_Mod_openPage_142 : decode b_Mod_openPage 142 = .ok (.invokevirtual 899, 3) := by decide +kernel
theorem d_Mod_openPage_108 : decode b_Mod_openPage 108 = .ok (.bipush 22, 2) := by decide +kernel
theorem d_Mod_openPage_110 : decode b_Mod_openPage 110 = .ok (.invokevirtual 841, 3) := by decide +kernel
theorem d_Mod_openPage_113 : decode b_Mod_openPage 113 = .ok (.aload_n 0, 1) := by decide +kernel
theorem d_Mod_openPage_114 : decode b_Mod_openPage 114 = .ok (.aload_n 0, 1) := by decide +kernel
theorem d_Mod_openPage_115 : decode b_Mod_openPage 115 = .ok (.getfield 94, 3) := by decide +kernel
theorem d_Mod_openPage_118 : decode b_Mod_openPage 118 = .ok (.iconst 0, 1) := by decide +kernel
theorem d_Mod_openPage_119 : decode b_Mod_openPage 119 = .ok (.iaload, 1) := by decide +kernel
theorem d_Mod_openPage_120 : decode b_Mod_openPage 120 = .ok (.ifCond .eq 7, 3) := by decide +kernel
theorem d_Mod_openPage_127 : decode b_Mod_openPage 127 = .ok (.iconst 0, 1) := by decide +kernel
theorem d_Mod_openPage_123 : decode b_Mod_openPage 123 = .ok (.iconst 1, 1) := by decide +kernel
theorem d_Mod_openPage_124 : decode b_Mod_openPage 124 = .ok (.goto 4, 3) := by decide +kernel
theorem d_Mod_openPage_103 : decode b_Mod_openPage 103 = .ok (.iconst 1, 1) := by decide +kernel
theorem d_Mod_openPage_104 : decode b_Mod_openPage 104 = .ok (.goto 4, 3) := by decide +kernel
theorem d_Mod_openPage_74 : decode b_Mod_openPage 74 = .ok (.iadd, 1) := by decide +kernel
theorem d_Mod_openPage_75 : decode b_Mod_openPage 75 = .ok (.putfield 893, 3) := by decide +kernel
theorem d_Mod_openPage_78 : decode b_Mod_openPage 78 = .ok (.aload_n 0, 1) := by decide +kernel
theorem d_Mod_openPage_79 : decode b_Mod_openPage 79 = .ok (.aload_n 0, 1) := by decide +kernel
theorem d_Mod_openPage_80 : decode b_Mod_openPage 80 = .ok (.getfield 896, 3) := by decide +kernel
theorem d_Mod_openPage_83 : decode b_Mod_openPage 83 = .ok (.aload_n 0, 1) := by decide +kernel
theorem d_Mod_openPage_84 : decode b_Mod_openPage 84 = .ok (.getfield 676, 3) := by decide +kernel
theorem d_Mod_openPage_87 : decode b_Mod_openPage 87 = .ok (.iadd, 1) := by decide +kernel
theorem d_Mod_openPage_88 : decode b_Mod_openPage 88 = .ok (.sipush 10000, 3) := by decide +kernel
theorem d_Mod_openPage_91 : decode b_Mod_openPage 91 = .ok (.if_icmp .gt 12, 3) := by decide +kernel
theorem d_Mod_openPage_94 : decode b_Mod_openPage 94 = .ok (.aload_n 0, 1) := by decide +kernel
theorem d_Mod_openPage_95 : decode b_Mod_openPage 95 = .ok (.getfield 893, 3) := by decide +kernel
theorem d_Mod_openPage_98 : decode b_Mod_openPage 98 = .ok (.ldc 81, 2) := by decide +kernel
theorem d_Mod_openPage_100 : decode b_Mod_openPage 100 = .ok (.if_icmp .le 7, 3) := by decide +kernel
theorem d_Mod_openPage_107 : decode b_Mod_openPage 107 = .ok (.iconst 0, 1) := by decide +kernel
theorem d_Mod_openPage_0 : decode b_Mod_openPage 0 = .ok (.aload_n 0, 1) := by decide +kernel
theorem d_Mod_openPage_1 : decode b_Mod_openPage 1 = .ok (.aload_n 0, 1) := by decide +kernel
theorem d_Mod_openPage_2 : decode b_Mod_openPage 2 = .ok (.iconst 1, 1) := by decide +kernel
theorem d_Mod_openPage_3 : decode b_Mod_openPage 3 = .ok (.iload_n 1, 1) := by decide +kernel
theorem d_Mod_openPage_4 : decode b_Mod_openPage 4 = .ok (.invokevirtual 789, 3) := by decide +kernel
theorem d_Mod_openPage_7 : decode b_Mod_openPage 7 = .ok (.putfield 623, 3) := by decide +kernel
theorem d_Mod_openPage_10 : decode b_Mod_openPage 10 = .ok (.aload_n 0, 1) := by decide +kernel
theorem d_Mod_openPage_11 : decode b_Mod_openPage 11 = .ok (.aload_n 0, 1) := by decide +kernel
theorem d_Mod_openPage_12 : decode b_Mod_openPage 12 = .ok (.iconst 1, 1) := by decide +kernel
theorem d_Mod_openPage_13 : decode b_Mod_openPage 13 = .ok (.iload_n 1, 1) := by decide +kernel
theorem d_Mod_openPage_14 : decode b_Mod_openPage 14 = .ok (.invokevirtual 792, 3) := by decide +kernel
theorem d_Mod_openPage_17 : decode b_Mod_openPage 17 = .ok (.putfield 733, 3) := by decide +kernel
theorem d_Mod_openPage_20 : decode b_Mod_openPage 20 = .ok (.aload_n 0, 1) := by decide +kernel
theorem d_Mod_openPage_21 : decode b_Mod_openPage 21 = .ok (.aload_n 0, 1) := by decide +kernel
theorem d_Mod_openPage_22 : decode b_Mod_openPage 22 = .ok (.iconst 1, 1) := by decide +kernel
theorem d_Mod_openPage_23 : decode b_Mod_openPage 23 = .ok (.iload_n 1, 1) := by decide +kernel
theorem d_Mod_openPage_24 : decode b_Mod_openPage 24 = .ok (.invokevirtual 786, 3) := by decide +kernel
theorem d_Mod_openPage_27 : decode b_Mod_openPage 27 = .ok (.putfield 739, 3) := by decide +kernel
theorem d_Mod_openPage_30 : decode b_Mod_openPage 30 = .ok (.aload_n 0, 1) := by decide +kernel
theorem d_Mod_openPage_31 : decode b_Mod_openPage 31 = .ok (.iconst 0, 1) := by decide +kernel
theorem d_Mod_openPage_32 : decode b_Mod_openPage 32 = .ok (.putfield 701, 3) := by decide +kernel
theorem d_Mod_openPage_35 : decode b_Mod_openPage 35 = .ok (.aload_n 0, 1) := by decide +kernel
theorem d_Mod_openPage_36 : decode b_Mod_openPage 36 = .ok (.iload_n 3, 1) := by decide +kernel
theorem d_Mod_openPage_37 : decode b_Mod_openPage 37 = .ok (.invokevirtual 890, 3) := by decide +kernel
theorem d_Mod_openPage_40 : decode b_Mod_openPage 40 = .ok (.aload_n 0, 1) := by decide +kernel
theorem d_Mod_openPage_41 : decode b_Mod_openPage 41 = .ok (.getfield 550, 3) := by decide +kernel
theorem d_Mod_openPage_44 : decode b_Mod_openPage 44 = .ok (.ifCond .eq 4, 3) := by decide +kernel
theorem d_Mod_openPage_48 : decode b_Mod_openPage 48 = .ok (.aload_n 0, 1) := by decide +kernel
theorem d_Mod_openPage_49 : decode b_Mod_openPage 49 = .ok (.dup, 1) := by decide +kernel
theorem d_Mod_openPage_50 : decode b_Mod_openPage 50 = .ok (.getfield 893, 3) := by decide +kernel
theorem d_Mod_openPage_53 : decode b_Mod_openPage 53 = .ok (.aload_n 0, 1) := by decide +kernel
theorem d_Mod_openPage_54 : decode b_Mod_openPage 54 = .ok (.getfield 623, 3) := by decide +kernel
theorem d_Mod_openPage_57 : decode b_Mod_openPage 57 = .ok (.iconst 3, 1) := by decide +kernel
theorem d_Mod_openPage_58 : decode b_Mod_openPage 58 = .ok (.if_icmp .ne 15, 3) := by decide +kernel
theorem d_Mod_openPage_73 : decode b_Mod_openPage 73 = .ok (.iconst 0, 1) := by decide +kernel
theorem d_Mod_openPage_61 : decode b_Mod_openPage 61 = .ok (.aload_n 0, 1) := by decide +kernel
theorem d_Mod_openPage_62 : decode b_Mod_openPage 62 = .ok (.getfield 112, 3) := by decide +kernel
theorem d_Mod_openPage_65 : decode b_Mod_openPage 65 = .ok (.aload_n 0, 1) := by decide +kernel
theorem d_Mod_openPage_66 : decode b_Mod_openPage 66 = .ok (.getfield 632, 3) := by decide +kernel
theorem d_Mod_openPage_69 : decode b_Mod_openPage 69 = .ok (.iaload, 1) := by decide +kernel
theorem d_Mod_openPage_70 : decode b_Mod_openPage 70 = .ok (.goto 4, 3) := by decide +kernel
theorem d_Mod_openPage_47 : decode b_Mod_openPage 47 = .ok (.return_, 1) := by decide +kernel
section
variable (l : Launch) (dC : Nat → ClassId) (dI : Nat → Nat → Nat) (cI cB cJ cZ : ClassId)
set_option maxRecDepth 100000 in
set_option maxHeartbeats 4000000 in
set_option maxRecDepth 100000 in
theorem t_Mod_openPage_658 {p : Program} {l : Launch} {e : Env} {R : Room} {s : State} {m : MethodId} {args : Array Value} {below : List Frame} {meth : Method} {c : Code} {cells slots : Nat} {Q : State → Prop} {dC : Nat → ClassId} {dI : Nat → Nat → Nat} {cI cB cJ cZ : ClassId} {A : Nat → Prop} {ad : Nat → Nat} {post : St → Prop} (hx : p.tables.exec = Jvm.exec) (hb : c.code = b_Mod_openPage) (hml : c.maxLocals = 8) (hown : s.vm.findClass R_Mod = some m.cls) (hT : ∀ w ∈ TG, w.before args s = true) (hK : va_K (dC, dI) CL (TY cI cB cJ cZ) s) (hN : NW s) (hA : ∀ q : Nat, s.heap.size ≤ q → A q) (hRc : cells ≤ R.cells) (hRs : slots ≤ R.slots) (hRf : 8 ≤ R.frames) (hRl : 204 ≤ R.locals) (hret : ∀ (x : St) (H : Heap) (locs : List Loc) (pc : Nat) (ls : Array Slot), decode b_Mod_openPage pc = .ok (.return_, 1) → post x → Wd dC dI cI cB cJ cZ ad stM kcM 115 A x H → va_S A s.heap H locs → W p l e R s m args below meth c H locs cells slots Q (F0 m pc ls []))  : ∀ (l1 : Int32) (l2 : Int32) (l3 : Int32) (l4 : Int32) (l5 : Int32) (l6 : Int32) (x : St) (H : Heap) (locs : List Loc) (ls : Array Slot), j_Mod_openPage_658 post l1 l2 l3 l4 l5 l6 x → Wd dC dI cI cB cJ cZ ad stM kcM 115 A x H → va_S A s.heap H locs → lv_has ls 8 [(0, .ref (ad 0)), (1, .int l1), (2, .int l2), (3, .int l3), (4, .int l4), (5, .int l5), (6, .int l6)] → W p l e R s m args below meth c H locs cells slots Q (F0 m 658 ls []) := by
  intro l1 l2 l3 l4 l5 l6 x H locs ls  hw hW hS hl
  unfold j_Mod_openPage_658 at hw
  refine lv_aload_n hx hb d_Mod_openPage_658 rfl (lv_at hl 0 rfl) ?_
  refine lv_dup hx hb d_Mod_openPage_659 rfl ?_
  refine w_geti (k := 86) (t := 12) (C := R_Mod) (T := F_Mod) (N := 167) hx hb hT hown hK hW ko_0.1 ko_0.2 (by decide) in_Mod rfl rfl (by decide) rfl fr_Mod_86 w_9_22 d_Mod_openPage_660 ?_
  refine lv_iconst (v := 1) hx hb d_Mod_openPage_663 (by decide) ?_
  refine lv_iadd hx hb d_Mod_openPage_664 ?_
  refine w_puti (ty := .int) (k := 86) (t := 12) (C := R_Mod) (T := F_Mod) (N := 167) hx hb hT hown hK hW hS ko_0.1 ko_0.2 (by decide) in_Mod t_Mod t_Mod_ok n_Mod rfl rfl (by decide) rfl fr_Mod_86 w_9_22 (by decide +kernel) rfl rfl d_Mod_openPage_665 (fun H locs hW hS => ?_)
  obtain ⟨x1566, ex1566⟩ : ∃ y : St, y = setI x 0 86 ((fI x 0 86) + 1) := ⟨_, rfl⟩
  rw [← ex1566] at hW
  have hw := hw x1566 ex1566
  exact hret x1566 H locs 668 ls d_Mod_openPage_668 hw hW hS
set_option maxRecDepth 100000 in
set_option maxHeartbeats 4000000 in
set_option maxRecDepth 100000 in
theorem t_Mod_openPage_648 {p : Program} {l : Launch} {e : Env} {R : Room} {s : State} {m : MethodId} {args : Array Value} {below : List Frame} {meth : Method} {c : Code} {cells slots : Nat} {Q : State → Prop} {dC : Nat → ClassId} {dI : Nat → Nat → Nat} {cI cB cJ cZ : ClassId} {A : Nat → Prop} {ad : Nat → Nat} {post : St → Prop} {rec579 : Int32 → Int32 → Int32 → Int32 → Int32 → Int32 → St → Prop} (hx : p.tables.exec = Jvm.exec) (hb : c.code = b_Mod_openPage) (hml : c.maxLocals = 8) (hown : s.vm.findClass R_Mod = some m.cls) (hT : ∀ w ∈ TG, w.before args s = true) (hK : va_K (dC, dI) CL (TY cI cB cJ cZ) s) (hN : NW s) (hA : ∀ q : Nat, s.heap.size ≤ q → A q) (hRc : cells ≤ R.cells) (hRs : slots ≤ R.slots) (hRf : 8 ≤ R.frames) (hRl : 204 ≤ R.locals) (hret : ∀ (x : St) (H : Heap) (locs : List Loc) (pc : Nat) (ls : Array Slot), decode b_Mod_openPage pc = .ok (.return_, 1) → post x → Wd dC dI cI cB cJ cZ ad stM kcM 115 A x H → va_S A s.heap H locs → W p l e R s m args below meth c H locs cells slots Q (F0 m pc ls [])) (hrec579 : ∀ (l1 : Int32) (l2 : Int32) (l3 : Int32) (l4 : Int32) (l5 : Int32) (l6 : Int32) (x : St) (H : Heap) (locs : List Loc) (ls : Array Slot), rec579 l1 l2 l3 l4 l5 l6 x → Wd dC dI cI cB cJ cZ ad stM kcM 115 A x H → va_S A s.heap H locs → lv_has ls 8 [(0, .ref (ad 0)), (1, .int l1), (2, .int l2), (3, .int l3), (4, .int l4), (5, .int l5), (6, .int l6)] → W p l e R s m args below meth c H locs cells slots Q (F0 m 579 ls [])) : ∀ (l1 : Int32) (l2 : Int32) (l3 : Int32) (l4 : Int32) (l5 : Int32) (l6 : Int32) (s0 : Int32) (s1 : Int32) (s2 : Nat) (s3 : Int64) (x : St) (H : Heap) (locs : List Loc) (ls : Array Slot), (s2 < 115 ∧ kcM s2 = 20) → j_Mod_openPage_648 post rec579 l1 l2 l3 l4 l5 l6 s0 s1 s2 s3 x → Wd dC dI cI cB cJ cZ ad stM kcM 115 A x H → va_S A s.heap H locs → lv_has ls 8 [(0, .ref (ad 0)), (1, .int l1), (2, .int l2), (3, .int l3), (4, .int l4), (5, .int l5), (6, .int l6)] → W p l e R s m args below meth c H locs cells slots Q (F0 m 648 ls [.int s0, .int s1, .ref (ad s2), .long s3, .ref (ad 0)]) := by
  intro l1 l2 l3 l4 l5 l6 s0 s1 s2 s3 x H locs ls fs2 hw hW hS hl
  unfold j_Mod_openPage_648 at hw
  have hF := hW.free hS hA
  refine va_calli (va_runV (C := R_Mod) (As := [.long s3, .ref (ad s2), .int s1, .int s0]) (rest := []) ⟨hx, hb, hml, hown, hT⟩ (k_Mod_poolAdd l dC dI cI cB cJ cZ ad H.size s3 s2 s1 s0 x fs2 hw) ⟨callB_of 4 hT (gwt_in w_12_156) rfl rfl rfl (hT _ w_1_15) (hT _ w_12_153) (by decide +kernel) ⟨Nat.le_trans (Nat.le_of_ble_eq_true rfl) hRf, Nat.le_trans (Nat.le_of_ble_eq_true rfl) hRl⟩, hT _ w_12_155, hT _ ws_193⟩ ⟨PW.blind, va_recv hK hW.1 (ci := 12) (q0 := 0) rfl (pic_obj ko_0.1 ko_0.2 (by decide)), PW.at _ hW hK hN⟩ rfl rfl hl.1 rfl (lv_room (Nat.le_of_ble_eq_true rfl)) d_Mod_openPage_648 ⟨hRc, hRs⟩) hS (fun q _ h => hF q h) hF (fun r1568 x1567 t H locs ht hvm hw hB hz1 hk1 hS => ?_)
  have hW := Wd.back hB ht hF
  clear hB ht hF hz1 hk1 hvm
  refine lv_pop hx hb d_Mod_openPage_651 rfl ?_
  refine lv_iinc (v := (l6 + 1)) (lv' := [(6, .int (l6 + 1)), (0, .ref (ad 0)), (1, .int l1), (2, .int l2), (3, .int l3), (4, .int l4), (5, .int l5)]) hx hb d_Mod_openPage_652 hl (k := 6) rfl rfl (by decide) rfl (fun ls hl => ?_)
  refine lv_goto (tgt := 579) hx hb d_Mod_openPage_655 (by decide) ?_
  exact hrec579 l1 l2 l3 l4 l5 (l6 + 1) x1567 H locs ls  hw hW hS (lv_sub hl [1, 2, 3, 4, 5, 6, 0] rfl)
set_option maxRecDepth 100000 in
set_option maxHeartbeats 4000000 in
set_option maxRecDepth 100000 in
theorem t_Mod_openPage_608 {p : Program} {l : Launch} {e : Env} {R : Room} {s : State} {m : MethodId} {args : Array Value} {below : List Frame} {meth : Method} {c : Code} {cells slots : Nat} {Q : State → Prop} {dC : Nat → ClassId} {dI : Nat → Nat → Nat} {cI cB cJ cZ : ClassId} {A : Nat → Prop} {ad : Nat → Nat} {post : St → Prop} {rec579 : Int32 → Int32 → Int32 → Int32 → Int32 → Int32 → St → Prop} (hx : p.tables.exec = Jvm.exec) (hb : c.code = b_Mod_openPage) (hml : c.maxLocals = 8) (hown : s.vm.findClass R_Mod = some m.cls) (hT : ∀ w ∈ TG, w.before args s = true) (hK : va_K (dC, dI) CL (TY cI cB cJ cZ) s) (hN : NW s) (hA : ∀ q : Nat, s.heap.size ≤ q → A q) (hRc : cells ≤ R.cells) (hRs : slots ≤ R.slots) (hRf : 8 ≤ R.frames) (hRl : 204 ≤ R.locals) (hret : ∀ (x : St) (H : Heap) (locs : List Loc) (pc : Nat) (ls : Array Slot), decode b_Mod_openPage pc = .ok (.return_, 1) → post x → Wd dC dI cI cB cJ cZ ad stM kcM 115 A x H → va_S A s.heap H locs → W p l e R s m args below meth c H locs cells slots Q (F0 m pc ls [])) (hrec579 : ∀ (l1 : Int32) (l2 : Int32) (l3 : Int32) (l4 : Int32) (l5 : Int32) (l6 : Int32) (x : St) (H : Heap) (locs : List Loc) (ls : Array Slot), rec579 l1 l2 l3 l4 l5 l6 x → Wd dC dI cI cB cJ cZ ad stM kcM 115 A x H → va_S A s.heap H locs → lv_has ls 8 [(0, .ref (ad 0)), (1, .int l1), (2, .int l2), (3, .int l3), (4, .int l4), (5, .int l5), (6, .int l6)] → W p l e R s m args below meth c H locs cells slots Q (F0 m 579 ls [])) : ∀ (l1 : Int32) (l2 : Int32) (l3 : Int32) (l4 : Int32) (l5 : Int32) (l6 : Int32) (s0 : Int64) (x : St) (H : Heap) (locs : List Loc) (ls : Array Slot), j_Mod_openPage_608 post rec579 l1 l2 l3 l4 l5 l6 s0 x → Wd dC dI cI cB cJ cZ ad stM kcM 115 A x H → va_S A s.heap H locs → lv_has ls 8 [(0, .ref (ad 0)), (1, .int l1), (2, .int l2), (3, .int l3), (4, .int l4), (5, .int l5), (6, .int l6)] → W p l e R s m args below meth c H locs cells slots Q (F0 m 608 ls [.long s0, .ref (ad 0)]) := by
  intro l1 l2 l3 l4 l5 l6 s0 x H locs ls  hw hW hS hl
  unfold j_Mod_openPage_608 at hw
  refine lv_aload_n hx hb d_Mod_openPage_608 rfl (lv_at hl 0 rfl) ?_
  refine w_getf (q := 38) (k := 57) (t := 12) (C := R_Mod) (T := F_Mod) (N := 167) hx hb hT hown hK hW ko_0.1 ko_0.2 (by decide) in_Mod rfl rfl (by decide) rfl fr_Mod_57 w_8_233 d_Mod_openPage_609 rfl ?_
  refine lv_aload_n hx hb d_Mod_openPage_612 rfl (lv_at hl 0 rfl) ?_
  refine w_getf (q := 35) (k := 54) (t := 12) (C := R_Mod) (T := F_Mod) (N := 167) hx hb hT hown hK hW ko_0.1 ko_0.2 (by decide) in_Mod rfl rfl (by decide) rfl fr_Mod_54 w_8_230 d_Mod_openPage_613 rfl ?_
  refine lv_iload hx hb d_Mod_openPage_616 (lv_at hl 6 rfl) ?_
  obtain ⟨hi, hw⟩ := hw
  refine w_iald (o := 35) hx hb hK hW ko_35.1 ko_35.2 hi d_Mod_openPage_618 ?_
  refine lv_aload_n hx hb d_Mod_openPage_619 rfl (lv_at hl 0 rfl) ?_
  refine w_geti (k := 38) (t := 12) (C := R_Mod) (T := F_Mod) (N := 167) hx hb hT hown hK hW ko_0.1 ko_0.2 (by decide) in_Mod rfl rfl (by decide) rfl fr_Mod_38 w_8_214 d_Mod_openPage_620 ?_
  refine lv_iconst (v := 3) hx hb d_Mod_openPage_623 (by decide) ?_
  refine lv_icmp_ne (tgt := 647) hx hb d_Mod_openPage_624 (by decide) (fun c1569 => ?_) (fun c1569 => ?_)
  · have hw := hw.1 c1569
    refine lv_iconst (v := 0) hx hb d_Mod_openPage_647 (by decide) ?_
    exact t_Mod_openPage_648 hx hb hml hown hT hK hN hA hRc hRs hRf hRl hret hrec579 l1 l2 l3 l4 l5 l6 0 (rA x 35 l6) 38 s0 x H locs ls ko_38 hw hW hS (lv_sub hl [0, 1, 2, 3, 4, 5, 6] rfl)
  · have hw := hw.2 c1569
    refine lv_aload_n hx hb d_Mod_openPage_627 rfl (lv_at hl 0 rfl) ?_
    refine w_getf (q := 35) (k := 54) (t := 12) (C := R_Mod) (T := F_Mod) (N := 167) hx hb hT hown hK hW ko_0.1 ko_0.2 (by decide) in_Mod rfl rfl (by decide) rfl fr_Mod_54 w_8_230 d_Mod_openPage_628 rfl ?_
    refine lv_iload hx hb d_Mod_openPage_631 (lv_at hl 6 rfl) ?_
    refine lv_iconst (v := 1) hx hb d_Mod_openPage_633 (by decide) ?_
    refine lv_iadd hx hb d_Mod_openPage_634 ?_
    obtain ⟨hi, hw⟩ := hw
    refine w_iald (o := 35) hx hb hK hW ko_35.1 ko_35.2 hi d_Mod_openPage_635 ?_
    refine lv_aload_n hx hb d_Mod_openPage_636 rfl (lv_at hl 0 rfl) ?_
    refine w_getf (q := 35) (k := 54) (t := 12) (C := R_Mod) (T := F_Mod) (N := 167) hx hb hT hown hK hW ko_0.1 ko_0.2 (by decide) in_Mod rfl rfl (by decide) rfl fr_Mod_54 w_8_230 d_Mod_openPage_637 rfl ?_
    refine lv_iload hx hb d_Mod_openPage_640 (lv_at hl 6 rfl) ?_
    obtain ⟨hi, hw⟩ := hw
    refine w_iald (o := 35) hx hb hK hW ko_35.1 ko_35.2 hi d_Mod_openPage_642 ?_
    refine lv_isub hx hb d_Mod_openPage_643 ?_
    refine lv_goto (tgt := 648) hx hb d_Mod_openPage_644 (by decide) ?_
    exact t_Mod_openPage_648 hx hb hml hown hT hK hN hA hRc hRs hRf hRl hret hrec579 l1 l2 l3 l4 l5 l6 ((rA x 35 (l6 + 1)) - (rA x 35 l6)) (rA x 35 l6) 38 s0 x H locs ls ko_38 hw hW hS (lv_sub hl [0, 1, 2, 3, 4, 5, 6] rfl)
set_option maxRecDepth 100000 in
set_option maxHeartbeats 4000000 in
set_option maxRecDepth 100000 in
theorem t_Mod_openPage_579 {p : Program} {l : Launch} {e : Env} {R : Room} {s : State} {m : MethodId} {args : Array Value} {below : List Frame} {meth : Method} {c : Code} {cells slots : Nat} {Q : State → Prop} {dC : Nat → ClassId} {dI : Nat → Nat → Nat} {cI cB cJ cZ : ClassId} {A : Nat → Prop} {ad : Nat → Nat} {post : St → Prop} {rec579 : Int32 → Int32 → Int32 → Int32 → Int32 → Int32 → St → Prop} (hx : p.tables.exec = Jvm.exec) (hb : c.code = b_Mod_openPage) (hml : c.maxLocals = 8) (hown : s.vm.findClass R_Mod = some m.cls) (hT : ∀ w ∈ TG, w.before args s = true) (hK : va_K (dC, dI) CL (TY cI cB cJ cZ) s) (hN : NW s) (hA : ∀ q : Nat, s.heap.size ≤ q → A q) (hRc : cells ≤ R.cells) (hRs : slots ≤ R.slots) (hRf : 8 ≤ R.frames) (hRl : 204 ≤ R.locals) (hret : ∀ (x : St) (H : Heap) (locs : List Loc) (pc : Nat) (ls : Array Slot), decode b_Mod_openPage pc = .ok (.return_, 1) → post x → Wd dC dI cI cB cJ cZ ad stM kcM 115 A x H → va_S A s.heap H locs → W p l e R s m args below meth c H locs cells slots Q (F0 m pc ls [])) (hrec579 : ∀ (l1 : Int32) (l2 : Int32) (l3 : Int32) (l4 : Int32) (l5 : Int32) (l6 : Int32) (x : St) (H : Heap) (locs : List Loc) (ls : Array Slot), rec579 l1 l2 l3 l4 l5 l6 x → Wd dC dI cI cB cJ cZ ad stM kcM 115 A x H → va_S A s.heap H locs → lv_has ls 8 [(0, .ref (ad 0)), (1, .int l1), (2, .int l2), (3, .int l3), (4, .int l4), (5, .int l5), (6, .int l6)] → W p l e R s m args below meth c H locs cells slots Q (F0 m 579 ls [])) : ∀ (l1 : Int32) (l2 : Int32) (l3 : Int32) (l4 : Int32) (l5 : Int32) (l6 : Int32) (x : St) (H : Heap) (locs : List Loc) (ls : Array Slot), j_Mod_openPage_579 post rec579 l1 l2 l3 l4 l5 l6 x → Wd dC dI cI cB cJ cZ ad stM kcM 115 A x H → va_S A s.heap H locs → lv_has ls 8 [(0, .ref (ad 0)), (1, .int l1), (2, .int l2), (3, .int l3), (4, .int l4), (5, .int l5), (6, .int l6)] → W p l e R s m args below meth c H locs cells slots Q (F0 m 579 ls []) := by
  intro l1 l2 l3 l4 l5 l6 x H locs ls  hw hW hS hl
  unfold j_Mod_openPage_579 at hw
  refine lv_iload hx hb d_Mod_openPage_579 (lv_at hl 6 rfl) ?_
  refine lv_aload_n hx hb d_Mod_openPage_581 rfl (lv_at hl 0 rfl) ?_
  refine w_geti (k := 59) (t := 12) (C := R_Mod) (T := F_Mod) (N := 167) hx hb hT hown hK hW ko_0.1 ko_0.2 (by decide) in_Mod rfl rfl (by decide) rfl fr_Mod_59 w_8_235 d_Mod_openPage_582 ?_
  refine lv_icmp_ge (tgt := 658) hx hb d_Mod_openPage_585 (by decide) (fun c1570 => ?_) (fun c1570 => ?_)
  · have hw := hw.1 c1570
    exact t_Mod_openPage_658 hx hb hml hown hT hK hN hA hRc hRs hRf hRl hret  l1 l2 l3 l4 l5 l6 x H locs ls  hw hW hS (lv_sub hl [0, 1, 2, 3, 4, 5, 6] rfl)
  · have hw := hw.2 c1570
    refine lv_aload_n hx hb d_Mod_openPage_588 rfl (lv_at hl 0 rfl) ?_
    refine lv_aload_n hx hb d_Mod_openPage_589 rfl (lv_at hl 0 rfl) ?_
    refine w_geti (k := 38) (t := 12) (C := R_Mod) (T := F_Mod) (N := 167) hx hb hT hown hK hW ko_0.1 ko_0.2 (by decide) in_Mod rfl rfl (by decide) rfl fr_Mod_38 w_8_214 d_Mod_openPage_590 ?_
    refine lv_iconst (v := 3) hx hb d_Mod_openPage_593 (by decide) ?_
    refine lv_icmp_ne (tgt := 601) hx hb d_Mod_openPage_594 (by decide) (fun c1571 => ?_) (fun c1571 => ?_)
    · have hw := hw.1 c1571
      refine lv_aload_n hx hb d_Mod_openPage_601 rfl (lv_at hl 0 rfl) ?_
      refine w_getf (q := 32) (k := 51) (t := 12) (C := R_Mod) (T := F_Mod) (N := 167) hx hb hT hown hK hW ko_0.1 ko_0.2 (by decide) in_Mod rfl rfl (by decide) rfl fr_Mod_51 w_8_227 d_Mod_openPage_602 rfl ?_
      refine lv_iload hx hb d_Mod_openPage_605 (lv_at hl 6 rfl) ?_
      obtain ⟨hi, hw⟩ := hw
      refine w_lald (o := 32) hx hb hK hW ko_32.1 ko_32.2 hi d_Mod_openPage_607 ?_
      exact t_Mod_openPage_608 hx hb hml hown hT hK hN hA hRc hRs hRf hRl hret hrec579 l1 l2 l3 l4 l5 l6 (rL x 32 l6) x H locs ls  hw hW hS (lv_sub hl [0, 1, 2, 3, 4, 5, 6] rfl)
    · have hw := hw.2 c1571
      refine lv_lconst (v := 0) hx hb d_Mod_openPage_597 (by decide) ?_
      refine lv_goto (tgt := 608) hx hb d_Mod_openPage_598 (by decide) ?_
      exact t_Mod_openPage_608 hx hb hml hown hT hK hN hA hRc hRs hRf hRl hret hrec579 l1 l2 l3 l4 l5 l6 0 x H locs ls  hw hW hS (lv_sub hl [0, 1, 2, 3, 4, 5, 6] rfl)
set_option maxHeartbeats 4000000 in
set_option maxRecDepth 100000 in
theorem tl_Mod_openPage_579 {p : Program} {l : Launch} {e : Env} {R : Room} {s : State} {m : MethodId} {args : Array Value} {below : List Frame} {meth : Method} {c : Code} {cells slots : Nat} {Q : State → Prop} {dC : Nat → ClassId} {dI : Nat → Nat → Nat} {cI cB cJ cZ : ClassId} {A : Nat → Prop} {ad : Nat → Nat} {post : St → Prop} (hx : p.tables.exec = Jvm.exec) (hb : c.code = b_Mod_openPage) (hml : c.maxLocals = 8) (hown : s.vm.findClass R_Mod = some m.cls) (hT : ∀ w ∈ TG, w.before args s = true) (hK : va_K (dC, dI) CL (TY cI cB cJ cZ) s) (hN : NW s) (hA : ∀ q : Nat, s.heap.size ≤ q → A q) (hRc : cells ≤ R.cells) (hRs : slots ≤ R.slots) (hRf : 8 ≤ R.frames) (hRl : 204 ≤ R.locals) (hret : ∀ (x : St) (H : Heap) (locs : List Loc) (pc : Nat) (ls : Array Slot), decode b_Mod_openPage pc = .ok (.return_, 1) → post x → Wd dC dI cI cB cJ cZ ad stM kcM 115 A x H → va_S A s.heap H locs → W p l e R s m args below meth c H locs cells slots Q (F0 m pc ls []))  : ∀ n : Nat, ∀ (l1 : Int32) (l2 : Int32) (l3 : Int32) (l4 : Int32) (l5 : Int32) (l6 : Int32) (x : St) (H : Heap) (locs : List Loc) (ls : Array Slot), wl_Mod_openPage_579 post n l1 l2 l3 l4 l5 l6 x → Wd dC dI cI cB cJ cZ ad stM kcM 115 A x H → va_S A s.heap H locs → lv_has ls 8 [(0, .ref (ad 0)), (1, .int l1), (2, .int l2), (3, .int l3), (4, .int l4), (5, .int l5), (6, .int l6)] → W p l e R s m args below meth c H locs cells slots Q (F0 m 579 ls []) := by
  intro n
  induction n with
  | zero => intro l1 l2 l3 l4 l5 l6 x H locs ls  hw; exact hw.elim
  | succ n ih => intro l1 l2 l3 l4 l5 l6 x H locs ls  hw hW hS hl; exact t_Mod_openPage_579 hx hb hml hown hT hK hN hA hRc hRs hRf hRl hret  ih l1 l2 l3 l4 l5 l6 x H locs ls  hw hW hS hl
set_option maxRecDepth 100000 in
set_option maxHeartbeats 4000000 in
set_option maxRecDepth 100000 in
theorem t_Mod_openPage_501 {p : Program} {l : Launch} {e : Env} {R : Room} {s : State} {m : MethodId} {args : Array Value} {below : List Frame} {meth : Method} {c : Code} {cells slots : Nat} {Q : State → Prop} {dC : Nat → ClassId} {dI : Nat → Nat → Nat} {cI cB cJ cZ : ClassId} {A : Nat → Prop} {ad : Nat → Nat} {post : St → Prop} {rec232 : Int32 → Int32 → Int32 → Int32 → Int32 → Int32 → St → Prop} (hx : p.tables.exec = Jvm.exec) (hb : c.code = b_Mod_openPage) (hml : c.maxLocals = 8) (hown : s.vm.findClass R_Mod = some m.cls) (hT : ∀ w ∈ TG, w.before args s = true) (hK : va_K (dC, dI) CL (TY cI cB cJ cZ) s) (hN : NW s) (hA : ∀ q : Nat, s.heap.size ≤ q → A q) (hRc : cells ≤ R.cells) (hRs : slots ≤ R.slots) (hRf : 8 ≤ R.frames) (hRl : 204 ≤ R.locals) (hret : ∀ (x : St) (H : Heap) (locs : List Loc) (pc : Nat) (ls : Array Slot), decode b_Mod_openPage pc = .ok (.return_, 1) → post x → Wd dC dI cI cB cJ cZ ad stM kcM 115 A x H → va_S A s.heap H locs → W p l e R s m args below meth c H locs cells slots Q (F0 m pc ls [])) (hrec232 : ∀ (l1 : Int32) (l2 : Int32) (l3 : Int32) (l4 : Int32) (l5 : Int32) (l6 : Int32) (x : St) (H : Heap) (locs : List Loc) (ls : Array Slot), rec232 l1 l2 l3 l4 l5 l6 x → Wd dC dI cI cB cJ cZ ad stM kcM 115 A x H → va_S A s.heap H locs → lv_has ls 8 [(0, .ref (ad 0)), (1, .int l1), (2, .int l2), (3, .int l3), (4, .int l4), (5, .int l5), (6, .int l6)] → W p l e R s m args below meth c H locs cells slots Q (F0 m 232 ls [])) : ∀ (l1 : Int32) (l2 : Int32) (l3 : Int32) (l4 : Int32) (l5 : Int32) (l6 : Int32) (x : St) (H : Heap) (locs : List Loc) (ls : Array Slot), j_Mod_openPage_501 post rec232 l1 l2 l3 l4 l5 l6 x → Wd dC dI cI cB cJ cZ ad stM kcM 115 A x H → va_S A s.heap H locs → lv_has ls 8 [(0, .ref (ad 0)), (1, .int l1), (2, .int l2), (3, .int l3), (4, .int l4), (5, .int l5), (6, .int l6)] → W p l e R s m args below meth c H locs cells slots Q (F0 m 501 ls []) := by
  intro l1 l2 l3 l4 l5 l6 x H locs ls  hw hW hS hl
  unfold j_Mod_openPage_501 at hw
  refine lv_aload_n hx hb d_Mod_openPage_501 rfl (lv_at hl 0 rfl) ?_
  refine lv_dup hx hb d_Mod_openPage_502 rfl ?_
  refine w_geti (k := 87) (t := 12) (C := R_Mod) (T := F_Mod) (N := 167) hx hb hT hown hK hW ko_0.1 ko_0.2 (by decide) in_Mod rfl rfl (by decide) rfl fr_Mod_87 w_9_23 d_Mod_openPage_503 ?_
  refine lv_iconst (v := 1) hx hb d_Mod_openPage_506 (by decide) ?_
  refine lv_iadd hx hb d_Mod_openPage_507 ?_
  refine w_puti (ty := .int) (k := 87) (t := 12) (C := R_Mod) (T := F_Mod) (N := 167) hx hb hT hown hK hW hS ko_0.1 ko_0.2 (by decide) in_Mod t_Mod t_Mod_ok n_Mod rfl rfl (by decide) rfl fr_Mod_87 w_9_23 (by decide +kernel) rfl rfl d_Mod_openPage_508 (fun H locs hW hS => ?_)
  obtain ⟨x1572, ex1572⟩ : ∃ y : St, y = setI x 0 87 ((fI x 0 87) + 1) := ⟨_, rfl⟩
  rw [← ex1572] at hW
  have hw := hw x1572 ex1572
  refine lv_iinc (v := (l6 + 1)) (lv' := [(6, .int (l6 + 1)), (0, .ref (ad 0)), (1, .int l1), (2, .int l2), (3, .int l3), (4, .int l4), (5, .int l5)]) hx hb d_Mod_openPage_511 hl (k := 6) rfl rfl (by decide) rfl (fun ls hl => ?_)
  refine lv_goto (tgt := 232) hx hb d_Mod_openPage_514 (by decide) ?_
  exact hrec232 l1 l2 l3 l4 l5 (l6 + 1) x1572 H locs ls  hw hW hS (lv_sub hl [1, 2, 3, 4, 5, 6, 0] rfl)
set_option maxRecDepth 100000 in
set_option maxHeartbeats 4000000 in
set_option maxRecDepth 100000 in
theorem t_Mod_openPage_497 {p : Program} {l : Launch} {e : Env} {R : Room} {s : State} {m : MethodId} {args : Array Value} {below : List Frame} {meth : Method} {c : Code} {cells slots : Nat} {Q : State → Prop} {dC : Nat → ClassId} {dI : Nat → Nat → Nat} {cI cB cJ cZ : ClassId} {A : Nat → Prop} {ad : Nat → Nat} {post : St → Prop} {rec232 : Int32 → Int32 → Int32 → Int32 → Int32 → Int32 → St → Prop} (hx : p.tables.exec = Jvm.exec) (hb : c.code = b_Mod_openPage) (hml : c.maxLocals = 8) (hown : s.vm.findClass R_Mod = some m.cls) (hT : ∀ w ∈ TG, w.before args s = true) (hK : va_K (dC, dI) CL (TY cI cB cJ cZ) s) (hN : NW s) (hA : ∀ q : Nat, s.heap.size ≤ q → A q) (hRc : cells ≤ R.cells) (hRs : slots ≤ R.slots) (hRf : 8 ≤ R.frames) (hRl : 204 ≤ R.locals) (hret : ∀ (x : St) (H : Heap) (locs : List Loc) (pc : Nat) (ls : Array Slot), decode b_Mod_openPage pc = .ok (.return_, 1) → post x → Wd dC dI cI cB cJ cZ ad stM kcM 115 A x H → va_S A s.heap H locs → W p l e R s m args below meth c H locs cells slots Q (F0 m pc ls [])) (hrec232 : ∀ (l1 : Int32) (l2 : Int32) (l3 : Int32) (l4 : Int32) (l5 : Int32) (l6 : Int32) (x : St) (H : Heap) (locs : List Loc) (ls : Array Slot), rec232 l1 l2 l3 l4 l5 l6 x → Wd dC dI cI cB cJ cZ ad stM kcM 115 A x H → va_S A s.heap H locs → lv_has ls 8 [(0, .ref (ad 0)), (1, .int l1), (2, .int l2), (3, .int l3), (4, .int l4), (5, .int l5), (6, .int l6)] → W p l e R s m args below meth c H locs cells slots Q (F0 m 232 ls [])) : ∀ (l1 : Int32) (l2 : Int32) (l3 : Int32) (l4 : Int32) (l5 : Int32) (l6 : Int32) (l7 : Int32) (s0 : Int32) (s1 : Int32) (s2 : Nat) (x : St) (H : Heap) (locs : List Loc) (ls : Array Slot), (s2 < 115 ∧ kcM s2 = 20) → j_Mod_openPage_497 post rec232 l1 l2 l3 l4 l5 l6 l7 s0 s1 s2 x → Wd dC dI cI cB cJ cZ ad stM kcM 115 A x H → va_S A s.heap H locs → lv_has ls 8 [(0, .ref (ad 0)), (1, .int l1), (2, .int l2), (3, .int l3), (4, .int l4), (5, .int l5), (6, .int l6), (7, .int l7)] → W p l e R s m args below meth c H locs cells slots Q (F0 m 497 ls [.int s0, .int s1, .ref (ad s2)]) := by
  intro l1 l2 l3 l4 l5 l6 l7 s0 s1 s2 x H locs ls fs2 hw hW hS hl
  unfold j_Mod_openPage_497 at hw
  obtain ⟨hi, hw⟩ := hw
  refine w_iast (o := s2) hx hb hK hW hS fs2.1 fs2.2 hi d_Mod_openPage_497 (fun H locs hW hS => ?_)
  obtain ⟨x1573, ex1573⟩ : ∃ y : St, y = setA x s2 s1 s0 := ⟨_, rfl⟩
  rw [← ex1573] at hW
  have hw := hw x1573 ex1573
  refine lv_iinc (v := (l5 + 1)) (lv' := [(5, .int (l5 + 1)), (0, .ref (ad 0)), (1, .int l1), (2, .int l2), (3, .int l3), (4, .int l4), (6, .int l6), (7, .int l7)]) hx hb d_Mod_openPage_498 hl (k := 5) rfl rfl (by decide) rfl (fun ls hl => ?_)
  exact t_Mod_openPage_501 hx hb hml hown hT hK hN hA hRc hRs hRf hRl hret hrec232 l1 l2 l3 l4 (l5 + 1) l6 x1573 H locs ls  hw hW hS (lv_sub hl [1, 2, 3, 4, 5, 0, 6] rfl)
set_option maxRecDepth 100000 in
set_option maxHeartbeats 4000000 in
set_option maxRecDepth 100000 in
theorem t_Mod_openPage_485 {p : Program} {l : Launch} {e : Env} {R : Room} {s : State} {m : MethodId} {args : Array Value} {below : List Frame} {meth : Method} {c : Code} {cells slots : Nat} {Q : State → Prop} {dC : Nat → ClassId} {dI : Nat → Nat → Nat} {cI cB cJ cZ : ClassId} {A : Nat → Prop} {ad : Nat → Nat} {post : St → Prop} {rec232 : Int32 → Int32 → Int32 → Int32 → Int32 → Int32 → St → Prop} (hx : p.tables.exec = Jvm.exec) (hb : c.code = b_Mod_openPage) (hml : c.maxLocals = 8) (hown : s.vm.findClass R_Mod = some m.cls) (hT : ∀ w ∈ TG, w.before args s = true) (hK : va_K (dC, dI) CL (TY cI cB cJ cZ) s) (hN : NW s) (hA : ∀ q : Nat, s.heap.size ≤ q → A q) (hRc : cells ≤ R.cells) (hRs : slots ≤ R.slots) (hRf : 8 ≤ R.frames) (hRl : 204 ≤ R.locals) (hret : ∀ (x : St) (H : Heap) (locs : List Loc) (pc : Nat) (ls : Array Slot), decode b_Mod_openPage pc = .ok (.return_, 1) → post x → Wd dC dI cI cB cJ cZ ad stM kcM 115 A x H → va_S A s.heap H locs → W p l e R s m args below meth c H locs cells slots Q (F0 m pc ls [])) (hrec232 : ∀ (l1 : Int32) (l2 : Int32) (l3 : Int32) (l4 : Int32) (l5 : Int32) (l6 : Int32) (x : St) (H : Heap) (locs : List Loc) (ls : Array Slot), rec232 l1 l2 l3 l4 l5 l6 x → Wd dC dI cI cB cJ cZ ad stM kcM 115 A x H → va_S A s.heap H locs → lv_has ls 8 [(0, .ref (ad 0)), (1, .int l1), (2, .int l2), (3, .int l3), (4, .int l4), (5, .int l5), (6, .int l6)] → W p l e R s m args below meth c H locs cells slots Q (F0 m 232 ls [])) : ∀ (l1 : Int32) (l2 : Int32) (l3 : Int32) (l4 : Int32) (l5 : Int32) (l6 : Int32) (l7 : Int32) (s0 : Int32) (s1 : Nat) (x : St) (H : Heap) (locs : List Loc) (ls : Array Slot), (s1 < 115 ∧ kcM s1 = 20) → j_Mod_openPage_485 post rec232 l1 l2 l3 l4 l5 l6 l7 s0 s1 x → Wd dC dI cI cB cJ cZ ad stM kcM 115 A x H → va_S A s.heap H locs → lv_has ls 8 [(0, .ref (ad 0)), (1, .int l1), (2, .int l2), (3, .int l3), (4, .int l4), (5, .int l5), (6, .int l6), (7, .int l7)] → W p l e R s m args below meth c H locs cells slots Q (F0 m 485 ls [.int s0, .ref (ad s1)]) := by
  intro l1 l2 l3 l4 l5 l6 l7 s0 s1 x H locs ls fs1 hw hW hS hl
  unfold j_Mod_openPage_485 at hw
  refine lv_iload hx hb d_Mod_openPage_485 (lv_at hl 7 rfl) ?_
  refine lv_goto (tgt := 497) hx hb d_Mod_openPage_487 (by decide) ?_
  exact t_Mod_openPage_497 hx hb hml hown hT hK hN hA hRc hRs hRf hRl hret hrec232 l1 l2 l3 l4 l5 l6 l7 l7 s0 s1 x H locs ls fs1 hw hW hS (lv_sub hl [0, 1, 2, 3, 4, 5, 6, 7] rfl)
set_option maxRecDepth 100000 in
set_option maxHeartbeats 4000000 in
set_option maxRecDepth 100000 in
theorem t_Mod_openPage_447 {p : Program} {l : Launch} {e : Env} {R : Room} {s : State} {m : MethodId} {args : Array Value} {below : List Frame} {meth : Method} {c : Code} {cells slots : Nat} {Q : State → Prop} {dC : Nat → ClassId} {dI : Nat → Nat → Nat} {cI cB cJ cZ : ClassId} {A : Nat → Prop} {ad : Nat → Nat} {post : St → Prop} {rec232 : Int32 → Int32 → Int32 → Int32 → Int32 → Int32 → St → Prop} (hx : p.tables.exec = Jvm.exec) (hb : c.code = b_Mod_openPage) (hml : c.maxLocals = 8) (hown : s.vm.findClass R_Mod = some m.cls) (hT : ∀ w ∈ TG, w.before args s = true) (hK : va_K (dC, dI) CL (TY cI cB cJ cZ) s) (hN : NW s) (hA : ∀ q : Nat, s.heap.size ≤ q → A q) (hRc : cells ≤ R.cells) (hRs : slots ≤ R.slots) (hRf : 8 ≤ R.frames) (hRl : 204 ≤ R.locals) (hret : ∀ (x : St) (H : Heap) (locs : List Loc) (pc : Nat) (ls : Array Slot), decode b_Mod_openPage pc = .ok (.return_, 1) → post x → Wd dC dI cI cB cJ cZ ad stM kcM 115 A x H → va_S A s.heap H locs → W p l e R s m args below meth c H locs cells slots Q (F0 m pc ls [])) (hrec232 : ∀ (l1 : Int32) (l2 : Int32) (l3 : Int32) (l4 : Int32) (l5 : Int32) (l6 : Int32) (x : St) (H : Heap) (locs : List Loc) (ls : Array Slot), rec232 l1 l2 l3 l4 l5 l6 x → Wd dC dI cI cB cJ cZ ad stM kcM 115 A x H → va_S A s.heap H locs → lv_has ls 8 [(0, .ref (ad 0)), (1, .int l1), (2, .int l2), (3, .int l3), (4, .int l4), (5, .int l5), (6, .int l6)] → W p l e R s m args below meth c H locs cells slots Q (F0 m 232 ls [])) : ∀ (l1 : Int32) (l2 : Int32) (l3 : Int32) (l4 : Int32) (l5 : Int32) (l6 : Int32) (l7 : Int32) (s0 : Int32) (s1 : Int32) (s2 : Nat) (x : St) (H : Heap) (locs : List Loc) (ls : Array Slot), (s2 < 115 ∧ kcM s2 = 20) → j_Mod_openPage_447 post rec232 l1 l2 l3 l4 l5 l6 l7 s0 s1 s2 x → Wd dC dI cI cB cJ cZ ad stM kcM 115 A x H → va_S A s.heap H locs → lv_has ls 8 [(0, .ref (ad 0)), (1, .int l1), (2, .int l2), (3, .int l3), (4, .int l4), (5, .int l5), (6, .int l6), (7, .int l7)] → W p l e R s m args below meth c H locs cells slots Q (F0 m 447 ls [.int s0, .int s1, .ref (ad s2)]) := by
  intro l1 l2 l3 l4 l5 l6 l7 s0 s1 s2 x H locs ls fs2 hw hW hS hl
  unfold j_Mod_openPage_447 at hw
  obtain ⟨hi, hw⟩ := hw
  refine w_iast (o := s2) hx hb hK hW hS fs2.1 fs2.2 hi d_Mod_openPage_447 (fun H locs hW hS => ?_)
  obtain ⟨x1574, ex1574⟩ : ∃ y : St, y = setA x s2 s1 s0 := ⟨_, rfl⟩
  rw [← ex1574] at hW
  have hw := hw x1574 ex1574
  refine lv_aload_n hx hb d_Mod_openPage_448 rfl (lv_at hl 0 rfl) ?_
  refine w_getf (q := 72) (k := 109) (t := 12) (C := R_Mod) (T := F_Mod) (N := 167) hx hb hT hown hK hW ko_0.1 ko_0.2 (by decide) in_Mod rfl rfl (by decide) rfl fr_Mod_109 w_9_45 d_Mod_openPage_449 rfl ?_
  refine lv_iload hx hb d_Mod_openPage_452 (lv_at hl 4 rfl) ?_
  refine lv_aload_n hx hb d_Mod_openPage_454 rfl (lv_at hl 0 rfl) ?_
  refine w_getf (q := 72) (k := 109) (t := 12) (C := R_Mod) (T := F_Mod) (N := 167) hx hb hT hown hK hW ko_0.1 ko_0.2 (by decide) in_Mod rfl rfl (by decide) rfl fr_Mod_109 w_9_45 d_Mod_openPage_455 rfl ?_
  refine lv_iload hx hb d_Mod_openPage_458 (lv_at hl 4 rfl) ?_
  obtain ⟨hi, hw⟩ := hw
  refine w_iald (o := 72) hx hb hK hW ko_72.1 ko_72.2 hi d_Mod_openPage_460 ?_
  refine lv_iconst (v := (-1)) hx hb d_Mod_openPage_461 (by decide) ?_
  refine lv_icmp_eq (tgt := 485) hx hb d_Mod_openPage_462 (by decide) (fun c1575 => ?_) (fun c1575 => ?_)
  · have hw := hw.1 c1575
    exact t_Mod_openPage_485 hx hb hml hown hT hK hN hA hRc hRs hRf hRl hret hrec232 l1 l2 l3 l4 l5 l6 l7 l4 72 x1574 H locs ls ko_72 hw hW hS (lv_sub hl [0, 1, 2, 3, 4, 5, 6, 7] rfl)
  · have hw := hw.2 c1575
    refine lv_aload_n hx hb d_Mod_openPage_465 rfl (lv_at hl 0 rfl) ?_
    refine lv_aload_n hx hb d_Mod_openPage_466 rfl (lv_at hl 0 rfl) ?_
    refine w_geti (k := 38) (t := 12) (C := R_Mod) (T := F_Mod) (N := 167) hx hb hT hown hK hW ko_0.1 ko_0.2 (by decide) in_Mod rfl rfl (by decide) rfl fr_Mod_38 w_8_214 d_Mod_openPage_467 ?_
    refine lv_iload hx hb d_Mod_openPage_470 (lv_at hl 7 rfl) ?_
    refine lv_aload_n hx hb d_Mod_openPage_472 rfl (lv_at hl 0 rfl) ?_
    refine w_getf (q := 72) (k := 109) (t := 12) (C := R_Mod) (T := F_Mod) (N := 167) hx hb hT hown hK hW ko_0.1 ko_0.2 (by decide) in_Mod rfl rfl (by decide) rfl fr_Mod_109 w_9_45 d_Mod_openPage_473 rfl ?_
    refine lv_iload hx hb d_Mod_openPage_476 (lv_at hl 4 rfl) ?_
    obtain ⟨hi, hw⟩ := hw
    refine w_iald (o := 72) hx hb hK hW ko_72.1 ko_72.2 hi d_Mod_openPage_478 ?_
    have hF := hW.free hS hA
    refine va_calli (va_runV (C := R_Mod) (As := [.int (fI x1574 0 38), .int l7, .int (rA x1574 72 l4)]) (rest := [.int l4, .ref (ad 72)]) ⟨hx, hb, hml, hown, hT⟩ (k_Mod_compare l dC dI cI cB cJ cZ ad H.size (fI x1574 0 38) l7 (rA x1574 72 l4) x1574  hw) ⟨callB_of 3 hT (gwt_in w_13_26) rfl rfl rfl (hT _ w_1_15) (hT _ w_13_23) (by decide +kernel) ⟨Nat.le_trans (Nat.le_of_ble_eq_true rfl) hRf, Nat.le_trans (Nat.le_of_ble_eq_true rfl) hRl⟩, hT _ w_13_25, hT _ ws_219⟩ ⟨PW.blind, va_recv hK hW.1 (ci := 12) (q0 := 0) rfl (pic_obj ko_0.1 ko_0.2 (by decide)), PW.at _ hW hK hN⟩ rfl rfl hl.1 rfl (lv_room (Nat.le_of_ble_eq_true rfl)) d_Mod_openPage_479 ⟨hRc, hRs⟩) hS (fun q _ h => hF q h) hF (fun r1577 x1576 t H locs ht hvm hw hB hz1 hk1 hS => ?_)
    have hW := Wd.back hB ht hF
    clear hB ht hF hz1 hk1 hvm
    refine lv_if_le (tgt := 490) hx hb d_Mod_openPage_482 (by decide) (fun c1578 => ?_) (fun c1578 => ?_)
    · have hw := hw.1 c1578
      refine lv_aload_n hx hb d_Mod_openPage_490 rfl (lv_at hl 0 rfl) ?_
      refine w_getf (q := 72) (k := 109) (t := 12) (C := R_Mod) (T := F_Mod) (N := 167) hx hb hT hown hK hW ko_0.1 ko_0.2 (by decide) in_Mod rfl rfl (by decide) rfl fr_Mod_109 w_9_45 d_Mod_openPage_491 rfl ?_
      refine lv_iload hx hb d_Mod_openPage_494 (lv_at hl 4 rfl) ?_
      obtain ⟨hi, hw⟩ := hw
      refine w_iald (o := 72) hx hb hK hW ko_72.1 ko_72.2 hi d_Mod_openPage_496 ?_
      exact t_Mod_openPage_497 hx hb hml hown hT hK hN hA hRc hRs hRf hRl hret hrec232 l1 l2 l3 l4 l5 l6 l7 (rA x1576 72 l4) l4 72 x1576 H locs ls ko_72 hw hW hS (lv_sub hl [0, 1, 2, 3, 4, 5, 6, 7] rfl)
    · have hw := hw.2 c1578
      exact t_Mod_openPage_485 hx hb hml hown hT hK hN hA hRc hRs hRf hRl hret hrec232 l1 l2 l3 l4 l5 l6 l7 l4 72 x1576 H locs ls ko_72 hw hW hS (lv_sub hl [0, 1, 2, 3, 4, 5, 6, 7] rfl)
set_option maxRecDepth 100000 in
set_option maxHeartbeats 4000000 in
set_option maxRecDepth 100000 in
theorem t_Mod_openPage_435 {p : Program} {l : Launch} {e : Env} {R : Room} {s : State} {m : MethodId} {args : Array Value} {below : List Frame} {meth : Method} {c : Code} {cells slots : Nat} {Q : State → Prop} {dC : Nat → ClassId} {dI : Nat → Nat → Nat} {cI cB cJ cZ : ClassId} {A : Nat → Prop} {ad : Nat → Nat} {post : St → Prop} {rec232 : Int32 → Int32 → Int32 → Int32 → Int32 → Int32 → St → Prop} (hx : p.tables.exec = Jvm.exec) (hb : c.code = b_Mod_openPage) (hml : c.maxLocals = 8) (hown : s.vm.findClass R_Mod = some m.cls) (hT : ∀ w ∈ TG, w.before args s = true) (hK : va_K (dC, dI) CL (TY cI cB cJ cZ) s) (hN : NW s) (hA : ∀ q : Nat, s.heap.size ≤ q → A q) (hRc : cells ≤ R.cells) (hRs : slots ≤ R.slots) (hRf : 8 ≤ R.frames) (hRl : 204 ≤ R.locals) (hret : ∀ (x : St) (H : Heap) (locs : List Loc) (pc : Nat) (ls : Array Slot), decode b_Mod_openPage pc = .ok (.return_, 1) → post x → Wd dC dI cI cB cJ cZ ad stM kcM 115 A x H → va_S A s.heap H locs → W p l e R s m args below meth c H locs cells slots Q (F0 m pc ls [])) (hrec232 : ∀ (l1 : Int32) (l2 : Int32) (l3 : Int32) (l4 : Int32) (l5 : Int32) (l6 : Int32) (x : St) (H : Heap) (locs : List Loc) (ls : Array Slot), rec232 l1 l2 l3 l4 l5 l6 x → Wd dC dI cI cB cJ cZ ad stM kcM 115 A x H → va_S A s.heap H locs → lv_has ls 8 [(0, .ref (ad 0)), (1, .int l1), (2, .int l2), (3, .int l3), (4, .int l4), (5, .int l5), (6, .int l6)] → W p l e R s m args below meth c H locs cells slots Q (F0 m 232 ls [])) : ∀ (l1 : Int32) (l2 : Int32) (l3 : Int32) (l4 : Int32) (l5 : Int32) (l6 : Int32) (l7 : Int32) (s0 : Int32) (s1 : Nat) (x : St) (H : Heap) (locs : List Loc) (ls : Array Slot), (s1 < 115 ∧ kcM s1 = 20) → j_Mod_openPage_435 post rec232 l1 l2 l3 l4 l5 l6 l7 s0 s1 x → Wd dC dI cI cB cJ cZ ad stM kcM 115 A x H → va_S A s.heap H locs → lv_has ls 8 [(0, .ref (ad 0)), (1, .int l1), (2, .int l2), (3, .int l3), (4, .int l4), (5, .int l5), (6, .int l6), (7, .int l7)] → W p l e R s m args below meth c H locs cells slots Q (F0 m 435 ls [.int s0, .ref (ad s1)]) := by
  intro l1 l2 l3 l4 l5 l6 l7 s0 s1 x H locs ls fs1 hw hW hS hl
  unfold j_Mod_openPage_435 at hw
  refine lv_iload hx hb d_Mod_openPage_435 (lv_at hl 7 rfl) ?_
  refine lv_goto (tgt := 447) hx hb d_Mod_openPage_437 (by decide) ?_
  exact t_Mod_openPage_447 hx hb hml hown hT hK hN hA hRc hRs hRf hRl hret hrec232 l1 l2 l3 l4 l5 l6 l7 l7 s0 s1 x H locs ls fs1 hw hW hS (lv_sub hl [0, 1, 2, 3, 4, 5, 6, 7] rfl)
set_option maxRecDepth 100000 in
set_option maxHeartbeats 4000000 in
set_option maxRecDepth 100000 in
theorem t_Mod_openPage_382 {p : Program} {l : Launch} {e : Env} {R : Room} {s : State} {m : MethodId} {args : Array Value} {below : List Frame} {meth : Method} {c : Code} {cells slots : Nat} {Q : State → Prop} {dC : Nat → ClassId} {dI : Nat → Nat → Nat} {cI cB cJ cZ : ClassId} {A : Nat → Prop} {ad : Nat → Nat} {post : St → Prop} {rec232 : Int32 → Int32 → Int32 → Int32 → Int32 → Int32 → St → Prop} (hx : p.tables.exec = Jvm.exec) (hb : c.code = b_Mod_openPage) (hml : c.maxLocals = 8) (hown : s.vm.findClass R_Mod = some m.cls) (hT : ∀ w ∈ TG, w.before args s = true) (hK : va_K (dC, dI) CL (TY cI cB cJ cZ) s) (hN : NW s) (hA : ∀ q : Nat, s.heap.size ≤ q → A q) (hRc : cells ≤ R.cells) (hRs : slots ≤ R.slots) (hRf : 8 ≤ R.frames) (hRl : 204 ≤ R.locals) (hret : ∀ (x : St) (H : Heap) (locs : List Loc) (pc : Nat) (ls : Array Slot), decode b_Mod_openPage pc = .ok (.return_, 1) → post x → Wd dC dI cI cB cJ cZ ad stM kcM 115 A x H → va_S A s.heap H locs → W p l e R s m args below meth c H locs cells slots Q (F0 m pc ls [])) (hrec232 : ∀ (l1 : Int32) (l2 : Int32) (l3 : Int32) (l4 : Int32) (l5 : Int32) (l6 : Int32) (x : St) (H : Heap) (locs : List Loc) (ls : Array Slot), rec232 l1 l2 l3 l4 l5 l6 x → Wd dC dI cI cB cJ cZ ad stM kcM 115 A x H → va_S A s.heap H locs → lv_has ls 8 [(0, .ref (ad 0)), (1, .int l1), (2, .int l2), (3, .int l3), (4, .int l4), (5, .int l5), (6, .int l6)] → W p l e R s m args below meth c H locs cells slots Q (F0 m 232 ls [])) : ∀ (l1 : Int32) (l2 : Int32) (l3 : Int32) (l4 : Int32) (l5 : Int32) (l6 : Int32) (s0 : Int32) (s1 : Int32) (s2 : Nat) (s3 : Int64) (x : St) (H : Heap) (locs : List Loc) (ls : Array Slot), (s2 < 115 ∧ kcM s2 = 20) → j_Mod_openPage_382 post rec232 l1 l2 l3 l4 l5 l6 s0 s1 s2 s3 x → Wd dC dI cI cB cJ cZ ad stM kcM 115 A x H → va_S A s.heap H locs → lv_has ls 8 [(0, .ref (ad 0)), (1, .int l1), (2, .int l2), (3, .int l3), (4, .int l4), (5, .int l5), (6, .int l6)] → W p l e R s m args below meth c H locs cells slots Q (F0 m 382 ls [.int s0, .int s1, .ref (ad s2), .long s3, .ref (ad 0)]) := by
  intro l1 l2 l3 l4 l5 l6 s0 s1 s2 s3 x H locs ls fs2 hw hW hS hl
  unfold j_Mod_openPage_382 at hw
  have hF := hW.free hS hA
  refine va_calli (va_runV (C := R_Mod) (As := [.long s3, .ref (ad s2), .int s1, .int s0]) (rest := []) ⟨hx, hb, hml, hown, hT⟩ (k_Mod_poolAdd l dC dI cI cB cJ cZ ad H.size s3 s2 s1 s0 x fs2 hw) ⟨callB_of 4 hT (gwt_in w_12_156) rfl rfl rfl (hT _ w_1_15) (hT _ w_12_153) (by decide +kernel) ⟨Nat.le_trans (Nat.le_of_ble_eq_true rfl) hRf, Nat.le_trans (Nat.le_of_ble_eq_true rfl) hRl⟩, hT _ w_12_155, hT _ ws_193⟩ ⟨PW.blind, va_recv hK hW.1 (ci := 12) (q0 := 0) rfl (pic_obj ko_0.1 ko_0.2 (by decide)), PW.at _ hW hK hN⟩ rfl rfl hl.1 rfl (lv_room (Nat.le_of_ble_eq_true rfl)) d_Mod_openPage_382 ⟨hRc, hRs⟩) hS (fun q _ h => hF q h) hF (fun r1580 x1579 t H locs ht hvm hw hB hz1 hk1 hS => ?_)
  have hW := Wd.back hB ht hF
  clear hB ht hF hz1 hk1 hvm
  refine lv_istore (lv' := [(7, .int r1580), (0, .ref (ad 0)), (1, .int l1), (2, .int l2), (3, .int l3), (4, .int l4), (5, .int l5), (6, .int l6)]) hx hb d_Mod_openPage_385 hl (by decide) rfl (fun ls hl => ?_)
  refine lv_aload_n hx hb d_Mod_openPage_387 rfl (lv_at hl 1 rfl) ?_
  refine w_getf (q := 60) (k := 97) (t := 12) (C := R_Mod) (T := F_Mod) (N := 167) hx hb hT hown hK hW ko_0.1 ko_0.2 (by decide) in_Mod rfl rfl (by decide) rfl fr_Mod_97 w_9_33 d_Mod_openPage_388 rfl ?_
  refine lv_aload_n hx hb d_Mod_openPage_391 rfl (lv_at hl 1 rfl) ?_
  refine w_geti (k := 87) (t := 12) (C := R_Mod) (T := F_Mod) (N := 167) hx hb hT hown hK hW ko_0.1 ko_0.2 (by decide) in_Mod rfl rfl (by decide) rfl fr_Mod_87 w_9_23 d_Mod_openPage_392 ?_
  refine lv_iload hx hb d_Mod_openPage_395 (lv_at hl 0 rfl) ?_
  obtain ⟨hi, hw⟩ := hw
  refine w_iast (o := 60) hx hb hK hW hS ko_60.1 ko_60.2 hi d_Mod_openPage_397 (fun H locs hW hS => ?_)
  obtain ⟨x1581, ex1581⟩ : ∃ y : St, y = setA x1579 60 (fI x1579 0 87) r1580 := ⟨_, rfl⟩
  rw [← ex1581] at hW
  have hw := hw x1581 ex1581
  refine lv_aload_n hx hb d_Mod_openPage_398 rfl (lv_at hl 1 rfl) ?_
  refine w_getf (q := 71) (k := 108) (t := 12) (C := R_Mod) (T := F_Mod) (N := 167) hx hb hT hown hK hW ko_0.1 ko_0.2 (by decide) in_Mod rfl rfl (by decide) rfl fr_Mod_108 w_9_44 d_Mod_openPage_399 rfl ?_
  refine lv_iload hx hb d_Mod_openPage_402 (lv_at hl 5 rfl) ?_
  refine lv_aload_n hx hb d_Mod_openPage_404 rfl (lv_at hl 1 rfl) ?_
  refine w_getf (q := 71) (k := 108) (t := 12) (C := R_Mod) (T := F_Mod) (N := 167) hx hb hT hown hK hW ko_0.1 ko_0.2 (by decide) in_Mod rfl rfl (by decide) rfl fr_Mod_108 w_9_44 d_Mod_openPage_405 rfl ?_
  refine lv_iload hx hb d_Mod_openPage_408 (lv_at hl 5 rfl) ?_
  obtain ⟨hi, hw⟩ := hw
  refine w_iald (o := 71) hx hb hK hW ko_71.1 ko_71.2 hi d_Mod_openPage_410 ?_
  refine lv_iconst (v := (-1)) hx hb d_Mod_openPage_411 (by decide) ?_
  refine lv_icmp_eq (tgt := 435) hx hb d_Mod_openPage_412 (by decide) (fun c1582 => ?_) (fun c1582 => ?_)
  · have hw := hw.1 c1582
    exact t_Mod_openPage_435 hx hb hml hown hT hK hN hA hRc hRs hRf hRl hret hrec232 l1 l2 l3 l4 l5 l6 r1580 l4 71 x1581 H locs ls ko_71 hw hW hS (lv_sub hl [1, 2, 3, 4, 5, 6, 7, 0] rfl)
  · have hw := hw.2 c1582
    refine lv_aload_n hx hb d_Mod_openPage_415 rfl (lv_at hl 1 rfl) ?_
    refine lv_aload_n hx hb d_Mod_openPage_416 rfl (lv_at hl 1 rfl) ?_
    refine w_geti (k := 38) (t := 12) (C := R_Mod) (T := F_Mod) (N := 167) hx hb hT hown hK hW ko_0.1 ko_0.2 (by decide) in_Mod rfl rfl (by decide) rfl fr_Mod_38 w_8_214 d_Mod_openPage_417 ?_
    refine lv_iload hx hb d_Mod_openPage_420 (lv_at hl 0 rfl) ?_
    refine lv_aload_n hx hb d_Mod_openPage_422 rfl (lv_at hl 1 rfl) ?_
    refine w_getf (q := 71) (k := 108) (t := 12) (C := R_Mod) (T := F_Mod) (N := 167) hx hb hT hown hK hW ko_0.1 ko_0.2 (by decide) in_Mod rfl rfl (by decide) rfl fr_Mod_108 w_9_44 d_Mod_openPage_423 rfl ?_
    refine lv_iload hx hb d_Mod_openPage_426 (lv_at hl 5 rfl) ?_
    obtain ⟨hi, hw⟩ := hw
    refine w_iald (o := 71) hx hb hK hW ko_71.1 ko_71.2 hi d_Mod_openPage_428 ?_
    have hF := hW.free hS hA
    refine va_calli (va_runV (C := R_Mod) (As := [.int (fI x1581 0 38), .int r1580, .int (rA x1581 71 l4)]) (rest := [.int l4, .ref (ad 71)]) ⟨hx, hb, hml, hown, hT⟩ (k_Mod_compare l dC dI cI cB cJ cZ ad H.size (fI x1581 0 38) r1580 (rA x1581 71 l4) x1581  hw) ⟨callB_of 3 hT (gwt_in w_13_26) rfl rfl rfl (hT _ w_1_15) (hT _ w_13_23) (by decide +kernel) ⟨Nat.le_trans (Nat.le_of_ble_eq_true rfl) hRf, Nat.le_trans (Nat.le_of_ble_eq_true rfl) hRl⟩, hT _ w_13_25, hT _ ws_219⟩ ⟨PW.blind, va_recv hK hW.1 (ci := 12) (q0 := 0) rfl (pic_obj ko_0.1 ko_0.2 (by decide)), PW.at _ hW hK hN⟩ rfl rfl hl.1 rfl (lv_room (Nat.le_of_ble_eq_true rfl)) d_Mod_openPage_429 ⟨hRc, hRs⟩) hS (fun q _ h => hF q h) hF (fun r1584 x1583 t H locs ht hvm hw hB hz1 hk1 hS => ?_)
    have hW := Wd.back hB ht hF
    clear hB ht hF hz1 hk1 hvm
    refine lv_if_ge (tgt := 440) hx hb d_Mod_openPage_432 (by decide) (fun c1585 => ?_) (fun c1585 => ?_)
    · have hw := hw.1 c1585
      refine lv_aload_n hx hb d_Mod_openPage_440 rfl (lv_at hl 1 rfl) ?_
      refine w_getf (q := 71) (k := 108) (t := 12) (C := R_Mod) (T := F_Mod) (N := 167) hx hb hT hown hK hW ko_0.1 ko_0.2 (by decide) in_Mod rfl rfl (by decide) rfl fr_Mod_108 w_9_44 d_Mod_openPage_441 rfl ?_
      refine lv_iload hx hb d_Mod_openPage_444 (lv_at hl 5 rfl) ?_
      obtain ⟨hi, hw⟩ := hw
      refine w_iald (o := 71) hx hb hK hW ko_71.1 ko_71.2 hi d_Mod_openPage_446 ?_
      exact t_Mod_openPage_447 hx hb hml hown hT hK hN hA hRc hRs hRf hRl hret hrec232 l1 l2 l3 l4 l5 l6 r1580 (rA x1583 71 l4) l4 71 x1583 H locs ls ko_71 hw hW hS (lv_sub hl [1, 2, 3, 4, 5, 6, 7, 0] rfl)
    · have hw := hw.2 c1585
      exact t_Mod_openPage_435 hx hb hml hown hT hK hN hA hRc hRs hRf hRl hret hrec232 l1 l2 l3 l4 l5 l6 r1580 l4 71 x1583 H locs ls ko_71 hw hW hS (lv_sub hl [1, 2, 3, 4, 5, 6, 7, 0] rfl)
set_option maxRecDepth 100000 in
set_option maxHeartbeats 4000000 in
set_option maxRecDepth 100000 in
theorem t_Mod_openPage_342 {p : Program} {l : Launch} {e : Env} {R : Room} {s : State} {m : MethodId} {args : Array Value} {below : List Frame} {meth : Method} {c : Code} {cells slots : Nat} {Q : State → Prop} {dC : Nat → ClassId} {dI : Nat → Nat → Nat} {cI cB cJ cZ : ClassId} {A : Nat → Prop} {ad : Nat → Nat} {post : St → Prop} {rec232 : Int32 → Int32 → Int32 → Int32 → Int32 → Int32 → St → Prop} (hx : p.tables.exec = Jvm.exec) (hb : c.code = b_Mod_openPage) (hml : c.maxLocals = 8) (hown : s.vm.findClass R_Mod = some m.cls) (hT : ∀ w ∈ TG, w.before args s = true) (hK : va_K (dC, dI) CL (TY cI cB cJ cZ) s) (hN : NW s) (hA : ∀ q : Nat, s.heap.size ≤ q → A q) (hRc : cells ≤ R.cells) (hRs : slots ≤ R.slots) (hRf : 8 ≤ R.frames) (hRl : 204 ≤ R.locals) (hret : ∀ (x : St) (H : Heap) (locs : List Loc) (pc : Nat) (ls : Array Slot), decode b_Mod_openPage pc = .ok (.return_, 1) → post x → Wd dC dI cI cB cJ cZ ad stM kcM 115 A x H → va_S A s.heap H locs → W p l e R s m args below meth c H locs cells slots Q (F0 m pc ls [])) (hrec232 : ∀ (l1 : Int32) (l2 : Int32) (l3 : Int32) (l4 : Int32) (l5 : Int32) (l6 : Int32) (x : St) (H : Heap) (locs : List Loc) (ls : Array Slot), rec232 l1 l2 l3 l4 l5 l6 x → Wd dC dI cI cB cJ cZ ad stM kcM 115 A x H → va_S A s.heap H locs → lv_has ls 8 [(0, .ref (ad 0)), (1, .int l1), (2, .int l2), (3, .int l3), (4, .int l4), (5, .int l5), (6, .int l6)] → W p l e R s m args below meth c H locs cells slots Q (F0 m 232 ls [])) : ∀ (l1 : Int32) (l2 : Int32) (l3 : Int32) (l4 : Int32) (l5 : Int32) (l6 : Int32) (s0 : Int64) (x : St) (H : Heap) (locs : List Loc) (ls : Array Slot), j_Mod_openPage_342 post rec232 l1 l2 l3 l4 l5 l6 s0 x → Wd dC dI cI cB cJ cZ ad stM kcM 115 A x H → va_S A s.heap H locs → lv_has ls 8 [(0, .ref (ad 0)), (1, .int l1), (2, .int l2), (3, .int l3), (4, .int l4), (5, .int l5), (6, .int l6)] → W p l e R s m args below meth c H locs cells slots Q (F0 m 342 ls [.long s0, .ref (ad 0)]) := by
  intro l1 l2 l3 l4 l5 l6 s0 x H locs ls  hw hW hS hl
  unfold j_Mod_openPage_342 at hw
  refine lv_aload_n hx hb d_Mod_openPage_342 rfl (lv_at hl 0 rfl) ?_
  refine w_getf (q := 37) (k := 56) (t := 12) (C := R_Mod) (T := F_Mod) (N := 167) hx hb hT hown hK hW ko_0.1 ko_0.2 (by decide) in_Mod rfl rfl (by decide) rfl fr_Mod_56 w_8_232 d_Mod_openPage_343 rfl ?_
  refine lv_aload_n hx hb d_Mod_openPage_346 rfl (lv_at hl 0 rfl) ?_
  refine w_getf (q := 34) (k := 53) (t := 12) (C := R_Mod) (T := F_Mod) (N := 167) hx hb hT hown hK hW ko_0.1 ko_0.2 (by decide) in_Mod rfl rfl (by decide) rfl fr_Mod_53 w_8_229 d_Mod_openPage_347 rfl ?_
  refine lv_iload hx hb d_Mod_openPage_350 (lv_at hl 5 rfl) ?_
  obtain ⟨hi, hw⟩ := hw
  refine w_iald (o := 34) hx hb hK hW ko_34.1 ko_34.2 hi d_Mod_openPage_352 ?_
  refine lv_aload_n hx hb d_Mod_openPage_353 rfl (lv_at hl 0 rfl) ?_
  refine w_geti (k := 38) (t := 12) (C := R_Mod) (T := F_Mod) (N := 167) hx hb hT hown hK hW ko_0.1 ko_0.2 (by decide) in_Mod rfl rfl (by decide) rfl fr_Mod_38 w_8_214 d_Mod_openPage_354 ?_
  refine lv_iconst (v := 3) hx hb d_Mod_openPage_357 (by decide) ?_
  refine lv_icmp_ne (tgt := 381) hx hb d_Mod_openPage_358 (by decide) (fun c1586 => ?_) (fun c1586 => ?_)
  · have hw := hw.1 c1586
    refine lv_iconst (v := 0) hx hb d_Mod_openPage_381 (by decide) ?_
    exact t_Mod_openPage_382 hx hb hml hown hT hK hN hA hRc hRs hRf hRl hret hrec232 l1 l2 l3 l4 l5 l6 0 (rA x 34 l5) 37 s0 x H locs ls ko_37 hw hW hS (lv_sub hl [0, 1, 2, 3, 4, 5, 6] rfl)
  · have hw := hw.2 c1586
    refine lv_aload_n hx hb d_Mod_openPage_361 rfl (lv_at hl 0 rfl) ?_
    refine w_getf (q := 34) (k := 53) (t := 12) (C := R_Mod) (T := F_Mod) (N := 167) hx hb hT hown hK hW ko_0.1 ko_0.2 (by decide) in_Mod rfl rfl (by decide) rfl fr_Mod_53 w_8_229 d_Mod_openPage_362 rfl ?_
    refine lv_iload hx hb d_Mod_openPage_365 (lv_at hl 5 rfl) ?_
    refine lv_iconst (v := 1) hx hb d_Mod_openPage_367 (by decide) ?_
    refine lv_iadd hx hb d_Mod_openPage_368 ?_
    obtain ⟨hi, hw⟩ := hw
    refine w_iald (o := 34) hx hb hK hW ko_34.1 ko_34.2 hi d_Mod_openPage_369 ?_
    refine lv_aload_n hx hb d_Mod_openPage_370 rfl (lv_at hl 0 rfl) ?_
    refine w_getf (q := 34) (k := 53) (t := 12) (C := R_Mod) (T := F_Mod) (N := 167) hx hb hT hown hK hW ko_0.1 ko_0.2 (by decide) in_Mod rfl rfl (by decide) rfl fr_Mod_53 w_8_229 d_Mod_openPage_371 rfl ?_
    refine lv_iload hx hb d_Mod_openPage_374 (lv_at hl 5 rfl) ?_
    obtain ⟨hi, hw⟩ := hw
    refine w_iald (o := 34) hx hb hK hW ko_34.1 ko_34.2 hi d_Mod_openPage_376 ?_
    refine lv_isub hx hb d_Mod_openPage_377 ?_
    refine lv_goto (tgt := 382) hx hb d_Mod_openPage_378 (by decide) ?_
    exact t_Mod_openPage_382 hx hb hml hown hT hK hN hA hRc hRs hRf hRl hret hrec232 l1 l2 l3 l4 l5 l6 ((rA x 34 (l5 + 1)) - (rA x 34 l5)) (rA x 34 l5) 37 s0 x H locs ls ko_37 hw hW hS (lv_sub hl [0, 1, 2, 3, 4, 5, 6] rfl)
set_option maxRecDepth 100000 in
set_option maxHeartbeats 4000000 in
set_option maxRecDepth 100000 in
theorem t_Mod_openPage_306 {p : Program} {l : Launch} {e : Env} {R : Room} {s : State} {m : MethodId} {args : Array Value} {below : List Frame} {meth : Method} {c : Code} {cells slots : Nat} {Q : State → Prop} {dC : Nat → ClassId} {dI : Nat → Nat → Nat} {cI cB cJ cZ : ClassId} {A : Nat → Prop} {ad : Nat → Nat} {post : St → Prop} {rec232 : Int32 → Int32 → Int32 → Int32 → Int32 → Int32 → St → Prop} (hx : p.tables.exec = Jvm.exec) (hb : c.code = b_Mod_openPage) (hml : c.maxLocals = 8) (hown : s.vm.findClass R_Mod = some m.cls) (hT : ∀ w ∈ TG, w.before args s = true) (hK : va_K (dC, dI) CL (TY cI cB cJ cZ) s) (hN : NW s) (hA : ∀ q : Nat, s.heap.size ≤ q → A q) (hRc : cells ≤ R.cells) (hRs : slots ≤ R.slots) (hRf : 8 ≤ R.frames) (hRl : 204 ≤ R.locals) (hret : ∀ (x : St) (H : Heap) (locs : List Loc) (pc : Nat) (ls : Array Slot), decode b_Mod_openPage pc = .ok (.return_, 1) → post x → Wd dC dI cI cB cJ cZ ad stM kcM 115 A x H → va_S A s.heap H locs → W p l e R s m args below meth c H locs cells slots Q (F0 m pc ls [])) (hrec232 : ∀ (l1 : Int32) (l2 : Int32) (l3 : Int32) (l4 : Int32) (l5 : Int32) (l6 : Int32) (x : St) (H : Heap) (locs : List Loc) (ls : Array Slot), rec232 l1 l2 l3 l4 l5 l6 x → Wd dC dI cI cB cJ cZ ad stM kcM 115 A x H → va_S A s.heap H locs → lv_has ls 8 [(0, .ref (ad 0)), (1, .int l1), (2, .int l2), (3, .int l3), (4, .int l4), (5, .int l5), (6, .int l6)] → W p l e R s m args below meth c H locs cells slots Q (F0 m 232 ls [])) : ∀ (l1 : Int32) (l2 : Int32) (l3 : Int32) (l4 : Int32) (l5 : Int32) (l6 : Int32) (s0 : Int32) (s1 : Int32) (s2 : Int32) (s3 : Nat) (x : St) (H : Heap) (locs : List Loc) (ls : Array Slot), (s3 < 115 ∧ kcM s3 = 20) → j_Mod_openPage_306 post rec232 l1 l2 l3 l4 l5 l6 s0 s1 s2 s3 x → Wd dC dI cI cB cJ cZ ad stM kcM 115 A x H → va_S A s.heap H locs → lv_has ls 8 [(0, .ref (ad 0)), (1, .int l1), (2, .int l2), (3, .int l3), (4, .int l4), (5, .int l5), (6, .int l6)] → W p l e R s m args below meth c H locs cells slots Q (F0 m 306 ls [.int s0, .int s1, .int s2, .ref (ad s3)]) := by
  intro l1 l2 l3 l4 l5 l6 s0 s1 s2 s3 x H locs ls fs3 hw hW hS hl
  unfold j_Mod_openPage_306 at hw
  refine lv_iadd hx hb d_Mod_openPage_306 ?_
  obtain ⟨hi, hw⟩ := hw
  refine w_iast (o := s3) hx hb hK hW hS fs3.1 fs3.2 hi d_Mod_openPage_307 (fun H locs hW hS => ?_)
  obtain ⟨x1587, ex1587⟩ : ∃ y : St, y = setA x s3 s2 (s1 + s0) := ⟨_, rfl⟩
  rw [← ex1587] at hW
  have hw := hw x1587 ex1587
  refine lv_aload_n hx hb d_Mod_openPage_308 rfl (lv_at hl 0 rfl) ?_
  refine w_getf (q := 29) (k := 48) (t := 12) (C := R_Mod) (T := F_Mod) (N := 167) hx hb hT hown hK hW ko_0.1 ko_0.2 (by decide) in_Mod rfl rfl (by decide) rfl fr_Mod_48 w_8_224 d_Mod_openPage_309 rfl ?_
  refine lv_iload hx hb d_Mod_openPage_312 (lv_at hl 6 rfl) ?_
  obtain ⟨hi, hw⟩ := hw
  refine w_iald (o := 29) hx hb hK hW ko_29.1 ko_29.2 hi d_Mod_openPage_314 ?_
  refine lv_aload_n hx hb d_Mod_openPage_315 rfl (lv_at hl 0 rfl) ?_
  refine w_geti (k := 40) (t := 12) (C := R_Mod) (T := F_Mod) (N := 167) hx hb hT hown hK hW ko_0.1 ko_0.2 (by decide) in_Mod rfl rfl (by decide) rfl fr_Mod_40 w_8_216 d_Mod_openPage_316 ?_
  refine lv_icmp_ne (tgt := 501) hx hb d_Mod_openPage_319 (by decide) (fun c1588 => ?_) (fun c1588 => ?_)
  · have hw := hw.1 c1588
    exact t_Mod_openPage_501 hx hb hml hown hT hK hN hA hRc hRs hRf hRl hret hrec232 l1 l2 l3 l4 l5 l6 x1587 H locs ls  hw hW hS (lv_sub hl [0, 1, 2, 3, 4, 5, 6] rfl)
  · have hw := hw.2 c1588
    refine lv_aload_n hx hb d_Mod_openPage_322 rfl (lv_at hl 0 rfl) ?_
    refine lv_aload_n hx hb d_Mod_openPage_323 rfl (lv_at hl 0 rfl) ?_
    refine w_geti (k := 38) (t := 12) (C := R_Mod) (T := F_Mod) (N := 167) hx hb hT hown hK hW ko_0.1 ko_0.2 (by decide) in_Mod rfl rfl (by decide) rfl fr_Mod_38 w_8_214 d_Mod_openPage_324 ?_
    refine lv_iconst (v := 3) hx hb d_Mod_openPage_327 (by decide) ?_
    refine lv_icmp_ne (tgt := 335) hx hb d_Mod_openPage_328 (by decide) (fun c1589 => ?_) (fun c1589 => ?_)
    · have hw := hw.1 c1589
      refine lv_aload_n hx hb d_Mod_openPage_335 rfl (lv_at hl 0 rfl) ?_
      refine w_getf (q := 31) (k := 50) (t := 12) (C := R_Mod) (T := F_Mod) (N := 167) hx hb hT hown hK hW ko_0.1 ko_0.2 (by decide) in_Mod rfl rfl (by decide) rfl fr_Mod_50 w_8_226 d_Mod_openPage_336 rfl ?_
      refine lv_iload hx hb d_Mod_openPage_339 (lv_at hl 5 rfl) ?_
      obtain ⟨hi, hw⟩ := hw
      refine w_lald (o := 31) hx hb hK hW ko_31.1 ko_31.2 hi d_Mod_openPage_341 ?_
      exact t_Mod_openPage_342 hx hb hml hown hT hK hN hA hRc hRs hRf hRl hret hrec232 l1 l2 l3 l4 l5 l6 (rL x1587 31 l5) x1587 H locs ls  hw hW hS (lv_sub hl [0, 1, 2, 3, 4, 5, 6] rfl)
    · have hw := hw.2 c1589
      refine lv_lconst (v := 0) hx hb d_Mod_openPage_331 (by decide) ?_
      refine lv_goto (tgt := 342) hx hb d_Mod_openPage_332 (by decide) ?_
      exact t_Mod_openPage_342 hx hb hml hown hT hK hN hA hRc hRs hRf hRl hret hrec232 l1 l2 l3 l4 l5 l6 0 x1587 H locs ls  hw hW hS (lv_sub hl [0, 1, 2, 3, 4, 5, 6] rfl)
set_option maxRecDepth 100000 in
set_option maxHeartbeats 4000000 in
set_option maxRecDepth 100000 in
theorem t_Mod_openPage_232 {p : Program} {l : Launch} {e : Env} {R : Room} {s : State} {m : MethodId} {args : Array Value} {below : List Frame} {meth : Method} {c : Code} {cells slots : Nat} {Q : State → Prop} {dC : Nat → ClassId} {dI : Nat → Nat → Nat} {cI cB cJ cZ : ClassId} {A : Nat → Prop} {ad : Nat → Nat} {post : St → Prop} {rec232 : Int32 → Int32 → Int32 → Int32 → Int32 → Int32 → St → Prop} (hx : p.tables.exec = Jvm.exec) (hb : c.code = b_Mod_openPage) (hml : c.maxLocals = 8) (hown : s.vm.findClass R_Mod = some m.cls) (hT : ∀ w ∈ TG, w.before args s = true) (hK : va_K (dC, dI) CL (TY cI cB cJ cZ) s) (hN : NW s) (hA : ∀ q : Nat, s.heap.size ≤ q → A q) (hRc : cells ≤ R.cells) (hRs : slots ≤ R.slots) (hRf : 8 ≤ R.frames) (hRl : 204 ≤ R.locals) (hret : ∀ (x : St) (H : Heap) (locs : List Loc) (pc : Nat) (ls : Array Slot), decode b_Mod_openPage pc = .ok (.return_, 1) → post x → Wd dC dI cI cB cJ cZ ad stM kcM 115 A x H → va_S A s.heap H locs → W p l e R s m args below meth c H locs cells slots Q (F0 m pc ls [])) (hrec232 : ∀ (l1 : Int32) (l2 : Int32) (l3 : Int32) (l4 : Int32) (l5 : Int32) (l6 : Int32) (x : St) (H : Heap) (locs : List Loc) (ls : Array Slot), rec232 l1 l2 l3 l4 l5 l6 x → Wd dC dI cI cB cJ cZ ad stM kcM 115 A x H → va_S A s.heap H locs → lv_has ls 8 [(0, .ref (ad 0)), (1, .int l1), (2, .int l2), (3, .int l3), (4, .int l4), (5, .int l5), (6, .int l6)] → W p l e R s m args below meth c H locs cells slots Q (F0 m 232 ls [])) : ∀ (l1 : Int32) (l2 : Int32) (l3 : Int32) (l4 : Int32) (l5 : Int32) (l6 : Int32) (x : St) (H : Heap) (locs : List Loc) (ls : Array Slot), j_Mod_openPage_232 post rec232 l1 l2 l3 l4 l5 l6 x → Wd dC dI cI cB cJ cZ ad stM kcM 115 A x H → va_S A s.heap H locs → lv_has ls 8 [(0, .ref (ad 0)), (1, .int l1), (2, .int l2), (3, .int l3), (4, .int l4), (5, .int l5), (6, .int l6)] → W p l e R s m args below meth c H locs cells slots Q (F0 m 232 ls []) := by
  intro l1 l2 l3 l4 l5 l6 x H locs ls  hw hW hS hl
  unfold j_Mod_openPage_232 at hw
  refine lv_iload hx hb d_Mod_openPage_232 (lv_at hl 6 rfl) ?_
  refine lv_aload_n hx hb d_Mod_openPage_234 rfl (lv_at hl 0 rfl) ?_
  refine w_geti (k := 41) (t := 12) (C := R_Mod) (T := F_Mod) (N := 167) hx hb hT hown hK hW ko_0.1 ko_0.2 (by decide) in_Mod rfl rfl (by decide) rfl fr_Mod_41 w_8_217 d_Mod_openPage_235 ?_
  refine lv_icmp_ge (tgt := 517) hx hb d_Mod_openPage_238 (by decide) (fun c1590 => ?_) (fun c1590 => ?_)
  · have hw := hw.1 c1590
    refine lv_aload_n hx hb d_Mod_openPage_517 rfl (lv_at hl 0 rfl) ?_
    refine w_getf (q := 73) (k := 110) (t := 12) (C := R_Mod) (T := F_Mod) (N := 167) hx hb hT hown hK hW ko_0.1 ko_0.2 (by decide) in_Mod rfl rfl (by decide) rfl fr_Mod_110 w_9_46 d_Mod_openPage_518 rfl ?_
    refine lv_iload hx hb d_Mod_openPage_521 (lv_at hl 4 rfl) ?_
    refine lv_aload_n hx hb d_Mod_openPage_523 rfl (lv_at hl 0 rfl) ?_
    refine w_geti (k := 93) (t := 12) (C := R_Mod) (T := F_Mod) (N := 167) hx hb hT hown hK hW ko_0.1 ko_0.2 (by decide) in_Mod rfl rfl (by decide) rfl fr_Mod_93 w_9_29 d_Mod_openPage_524 ?_
    obtain ⟨hi, hw⟩ := hw
    refine w_iast (o := 73) hx hb hK hW hS ko_73.1 ko_73.2 hi d_Mod_openPage_527 (fun H locs hW hS => ?_)
    obtain ⟨x1591, ex1591⟩ : ∃ y : St, y = setA x 73 l4 (fI x 0 93) := ⟨_, rfl⟩
    rw [← ex1591] at hW
    have hw := hw x1591 ex1591
    refine lv_aload_n hx hb d_Mod_openPage_528 rfl (lv_at hl 0 rfl) ?_
    refine w_getf (q := 74) (k := 111) (t := 12) (C := R_Mod) (T := F_Mod) (N := 167) hx hb hT hown hK hW ko_0.1 ko_0.2 (by decide) in_Mod rfl rfl (by decide) rfl fr_Mod_111 w_9_47 d_Mod_openPage_529 rfl ?_
    refine lv_iload hx hb d_Mod_openPage_532 (lv_at hl 4 rfl) ?_
    refine lv_iconst (v := 0) hx hb d_Mod_openPage_534 (by decide) ?_
    obtain ⟨hi, hw⟩ := hw
    refine w_iast (o := 74) hx hb hK hW hS ko_74.1 ko_74.2 hi d_Mod_openPage_535 (fun H locs hW hS => ?_)
    obtain ⟨x1592, ex1592⟩ : ∃ y : St, y = setA x1591 74 l4 0 := ⟨_, rfl⟩
    rw [← ex1592] at hW
    have hw := hw x1592 ex1592
    refine lv_aload_n hx hb d_Mod_openPage_536 rfl (lv_at hl 0 rfl) ?_
    refine w_geti (k := 38) (t := 12) (C := R_Mod) (T := F_Mod) (N := 167) hx hb hT hown hK hW ko_0.1 ko_0.2 (by decide) in_Mod rfl rfl (by decide) rfl fr_Mod_38 w_8_214 d_Mod_openPage_537 ?_
    refine lv_if_eq (tgt := 658) hx hb d_Mod_openPage_540 (by decide) (fun c1593 => ?_) (fun c1593 => ?_)
    · have hw := hw.1 c1593
      exact t_Mod_openPage_658 hx hb hml hown hT hK hN hA hRc hRs hRf hRl hret  l1 l2 l3 l4 l5 l6 x1592 H locs ls  hw hW hS (lv_sub hl [0, 1, 2, 3, 4, 5, 6] rfl)
    · have hw := hw.2 c1593
      refine lv_aload_n hx hb d_Mod_openPage_543 rfl (lv_at hl 0 rfl) ?_
      refine w_geti (k := 43) (t := 12) (C := R_Mod) (T := F_Mod) (N := 167) hx hb hT hown hK hW ko_0.1 ko_0.2 (by decide) in_Mod rfl rfl (by decide) rfl fr_Mod_43 w_8_219 d_Mod_openPage_544 ?_
      refine lv_aload_n hx hb d_Mod_openPage_547 rfl (lv_at hl 0 rfl) ?_
      have hF := hW.free hS hA
      refine va_calli (va_runV (C := R_Mod) (As := []) (rest := [.int (fI x1592 0 43)]) ⟨hx, hb, hml, hown, hT⟩ (k_Mod_codings l dC dI cI cB cJ cZ ad H.size  x1592  hw) ⟨callB_of 0 hT (gwt_in w_11_174) rfl rfl rfl (hT _ w_1_15) (hT _ w_11_171) (by decide +kernel) ⟨Nat.le_trans (Nat.le_of_ble_eq_true rfl) hRf, Nat.le_trans (Nat.le_of_ble_eq_true rfl) hRl⟩, hT _ w_11_173, hT _ ws_148⟩ ⟨PW.blind, va_recv hK hW.1 (ci := 12) (q0 := 0) rfl (pic_obj ko_0.1 ko_0.2 (by decide)), PW.at _ hW hK hN⟩ rfl rfl hl.1 rfl (lv_room (Nat.le_of_ble_eq_true rfl)) d_Mod_openPage_548 ⟨hRc, hRs⟩) hS (fun q _ h => hF q h) hF (fun r1595 x1594 t H locs ht hvm hw hB hz1 hk1 hS => ?_)
      have hW := Wd.back hB ht hF
      clear hB ht hF hz1 hk1 hvm
      refine lv_iconst (v := 1) hx hb d_Mod_openPage_551 (by decide) ?_
      refine lv_isub hx hb d_Mod_openPage_552 ?_
      refine lv_icmp_ne (tgt := 658) hx hb d_Mod_openPage_553 (by decide) (fun c1596 => ?_) (fun c1596 => ?_)
      · have hw := hw.1 c1596
        exact t_Mod_openPage_658 hx hb hml hown hT hK hN hA hRc hRs hRf hRl hret  l1 l2 l3 l4 l5 l6 x1594 H locs ls  hw hW hS (lv_sub hl [0, 1, 2, 3, 4, 5, 6] rfl)
      · have hw := hw.2 c1596
        refine lv_aload_n hx hb d_Mod_openPage_556 rfl (lv_at hl 0 rfl) ?_
        refine w_geti (k := 59) (t := 12) (C := R_Mod) (T := F_Mod) (N := 167) hx hb hT hown hK hW ko_0.1 ko_0.2 (by decide) in_Mod rfl rfl (by decide) rfl fr_Mod_59 w_8_235 d_Mod_openPage_557 ?_
        refine lv_bipush (v := 100) hx hb d_Mod_openPage_560 (by decide) ?_
        refine lv_icmp_gt (tgt := 658) hx hb d_Mod_openPage_562 (by decide) (fun c1597 => ?_) (fun c1597 => ?_)
        · have hw := hw.1 c1597
          exact t_Mod_openPage_658 hx hb hml hown hT hK hN hA hRc hRs hRf hRl hret  l1 l2 l3 l4 l5 l6 x1594 H locs ls  hw hW hS (lv_sub hl [0, 1, 2, 3, 4, 5, 6] rfl)
        · have hw := hw.2 c1597
          refine lv_aload_n hx hb d_Mod_openPage_565 rfl (lv_at hl 0 rfl) ?_
          refine w_getf (q := 74) (k := 111) (t := 12) (C := R_Mod) (T := F_Mod) (N := 167) hx hb hT hown hK hW ko_0.1 ko_0.2 (by decide) in_Mod rfl rfl (by decide) rfl fr_Mod_111 w_9_47 d_Mod_openPage_566 rfl ?_
          refine lv_iload hx hb d_Mod_openPage_569 (lv_at hl 4 rfl) ?_
          refine lv_aload_n hx hb d_Mod_openPage_571 rfl (lv_at hl 0 rfl) ?_
          refine w_geti (k := 59) (t := 12) (C := R_Mod) (T := F_Mod) (N := 167) hx hb hT hown hK hW ko_0.1 ko_0.2 (by decide) in_Mod rfl rfl (by decide) rfl fr_Mod_59 w_8_235 d_Mod_openPage_572 ?_
          obtain ⟨hi, hw⟩ := hw
          refine w_iast (o := 74) hx hb hK hW hS ko_74.1 ko_74.2 hi d_Mod_openPage_575 (fun H locs hW hS => ?_)
          obtain ⟨x1598, ex1598⟩ : ∃ y : St, y = setA x1594 74 l4 (fI x1594 0 59) := ⟨_, rfl⟩
          rw [← ex1598] at hW
          have hw := hw x1598 ex1598
          refine lv_iconst (v := 0) hx hb d_Mod_openPage_576 (by decide) ?_
          refine lv_istore (lv' := [(6, .int 0), (0, .ref (ad 0)), (1, .int l1), (2, .int l2), (3, .int l3), (4, .int l4), (5, .int l5)]) hx hb d_Mod_openPage_577 hl (by decide) rfl (fun ls hl => ?_)
          obtain ⟨n, hw⟩ := hw
          exact tl_Mod_openPage_579 hx hb hml hown hT hK hN hA hRc hRs hRf hRl hret  n l1 l2 l3 l4 l5 0 x1598 H locs ls  hw hW hS (lv_sub hl [1, 2, 3, 4, 5, 6, 0] rfl)
  · have hw := hw.2 c1590
    refine lv_aload_n hx hb d_Mod_openPage_241 rfl (lv_at hl 0 rfl) ?_
    refine w_getf (q := 58) (k := 95) (t := 12) (C := R_Mod) (T := F_Mod) (N := 167) hx hb hT hown hK hW ko_0.1 ko_0.2 (by decide) in_Mod rfl rfl (by decide) rfl fr_Mod_95 w_9_31 d_Mod_openPage_242 rfl ?_
    refine lv_aload_n hx hb d_Mod_openPage_245 rfl (lv_at hl 0 rfl) ?_
    refine w_geti (k := 87) (t := 12) (C := R_Mod) (T := F_Mod) (N := 167) hx hb hT hown hK hW ko_0.1 ko_0.2 (by decide) in_Mod rfl rfl (by decide) rfl fr_Mod_87 w_9_23 d_Mod_openPage_246 ?_
    refine lv_aload_n hx hb d_Mod_openPage_249 rfl (lv_at hl 0 rfl) ?_
    refine w_getf (q := 28) (k := 47) (t := 12) (C := R_Mod) (T := F_Mod) (N := 167) hx hb hT hown hK hW ko_0.1 ko_0.2 (by decide) in_Mod rfl rfl (by decide) rfl fr_Mod_47 w_8_223 d_Mod_openPage_250 rfl ?_
    refine lv_iload hx hb d_Mod_openPage_253 (lv_at hl 6 rfl) ?_
    obtain ⟨hi, hw⟩ := hw
    refine w_iald (o := 28) hx hb hK hW ko_28.1 ko_28.2 hi d_Mod_openPage_255 ?_
    obtain ⟨hi, hw⟩ := hw
    refine w_iast (o := 58) hx hb hK hW hS ko_58.1 ko_58.2 hi d_Mod_openPage_256 (fun H locs hW hS => ?_)
    obtain ⟨x1599, ex1599⟩ : ∃ y : St, y = setA x 58 (fI x 0 87) (rA x 28 l6) := ⟨_, rfl⟩
    rw [← ex1599] at hW
    have hw := hw x1599 ex1599
    refine lv_aload_n hx hb d_Mod_openPage_257 rfl (lv_at hl 0 rfl) ?_
    refine w_getf (q := 59) (k := 96) (t := 12) (C := R_Mod) (T := F_Mod) (N := 167) hx hb hT hown hK hW ko_0.1 ko_0.2 (by decide) in_Mod rfl rfl (by decide) rfl fr_Mod_96 w_9_32 d_Mod_openPage_258 rfl ?_
    refine lv_aload_n hx hb d_Mod_openPage_261 rfl (lv_at hl 0 rfl) ?_
    refine w_geti (k := 87) (t := 12) (C := R_Mod) (T := F_Mod) (N := 167) hx hb hT hown hK hW ko_0.1 ko_0.2 (by decide) in_Mod rfl rfl (by decide) rfl fr_Mod_87 w_9_23 d_Mod_openPage_262 ?_
    refine lv_aload_n hx hb d_Mod_openPage_265 rfl (lv_at hl 0 rfl) ?_
    refine w_getf (q := 29) (k := 48) (t := 12) (C := R_Mod) (T := F_Mod) (N := 167) hx hb hT hown hK hW ko_0.1 ko_0.2 (by decide) in_Mod rfl rfl (by decide) rfl fr_Mod_48 w_8_224 d_Mod_openPage_266 rfl ?_
    refine lv_iload hx hb d_Mod_openPage_269 (lv_at hl 6 rfl) ?_
    obtain ⟨hi, hw⟩ := hw
    refine w_iald (o := 29) hx hb hK hW ko_29.1 ko_29.2 hi d_Mod_openPage_271 ?_
    obtain ⟨hi, hw⟩ := hw
    refine w_iast (o := 59) hx hb hK hW hS ko_59.1 ko_59.2 hi d_Mod_openPage_272 (fun H locs hW hS => ?_)
    obtain ⟨x1600, ex1600⟩ : ∃ y : St, y = setA x1599 59 (fI x1599 0 87) (rA x1599 29 l6) := ⟨_, rfl⟩
    rw [← ex1600] at hW
    have hw := hw x1600 ex1600
    refine lv_aload_n hx hb d_Mod_openPage_273 rfl (lv_at hl 0 rfl) ?_
    refine w_getf (q := 60) (k := 97) (t := 12) (C := R_Mod) (T := F_Mod) (N := 167) hx hb hT hown hK hW ko_0.1 ko_0.2 (by decide) in_Mod rfl rfl (by decide) rfl fr_Mod_97 w_9_33 d_Mod_openPage_274 rfl ?_
    refine lv_aload_n hx hb d_Mod_openPage_277 rfl (lv_at hl 0 rfl) ?_
    refine w_geti (k := 87) (t := 12) (C := R_Mod) (T := F_Mod) (N := 167) hx hb hT hown hK hW ko_0.1 ko_0.2 (by decide) in_Mod rfl rfl (by decide) rfl fr_Mod_87 w_9_23 d_Mod_openPage_278 ?_
    refine lv_iconst (v := (-1)) hx hb d_Mod_openPage_281 (by decide) ?_
    obtain ⟨hi, hw⟩ := hw
    refine w_iast (o := 60) hx hb hK hW hS ko_60.1 ko_60.2 hi d_Mod_openPage_282 (fun H locs hW hS => ?_)
    obtain ⟨x1601, ex1601⟩ : ∃ y : St, y = setA x1600 60 (fI x1600 0 87) (-1) := ⟨_, rfl⟩
    rw [← ex1601] at hW
    have hw := hw x1601 ex1601
    refine lv_aload_n hx hb d_Mod_openPage_283 rfl (lv_at hl 0 rfl) ?_
    refine w_getf (q := 68) (k := 105) (t := 12) (C := R_Mod) (T := F_Mod) (N := 167) hx hb hT hown hK hW ko_0.1 ko_0.2 (by decide) in_Mod rfl rfl (by decide) rfl fr_Mod_105 w_9_41 d_Mod_openPage_284 rfl ?_
    refine lv_iload hx hb d_Mod_openPage_287 (lv_at hl 4 rfl) ?_
    refine lv_dup2_11 hx hb d_Mod_openPage_289 rfl rfl ?_
    obtain ⟨hi, hw⟩ := hw
    refine w_iald (o := 68) hx hb hK hW ko_68.1 ko_68.2 hi d_Mod_openPage_290 ?_
    refine lv_aload_n hx hb d_Mod_openPage_291 rfl (lv_at hl 0 rfl) ?_
    refine w_getf (q := 28) (k := 47) (t := 12) (C := R_Mod) (T := F_Mod) (N := 167) hx hb hT hown hK hW ko_0.1 ko_0.2 (by decide) in_Mod rfl rfl (by decide) rfl fr_Mod_47 w_8_223 d_Mod_openPage_292 rfl ?_
    refine lv_iload hx hb d_Mod_openPage_295 (lv_at hl 6 rfl) ?_
    obtain ⟨hi, hw⟩ := hw
    refine w_iald (o := 28) hx hb hK hW ko_28.1 ko_28.2 hi d_Mod_openPage_297 ?_
    refine lv_if_ne (tgt := 305) hx hb d_Mod_openPage_298 (by decide) (fun c1602 => ?_) (fun c1602 => ?_)
    · have hw := hw.1 c1602
      refine lv_iconst (v := 0) hx hb d_Mod_openPage_305 (by decide) ?_
      exact t_Mod_openPage_306 hx hb hml hown hT hK hN hA hRc hRs hRf hRl hret hrec232 l1 l2 l3 l4 l5 l6 0 (rA x1601 68 l4) l4 68 x1601 H locs ls ko_68 hw hW hS (lv_sub hl [0, 1, 2, 3, 4, 5, 6] rfl)
    · have hw := hw.2 c1602
      refine lv_iconst (v := 1) hx hb d_Mod_openPage_301 (by decide) ?_
      refine lv_goto (tgt := 306) hx hb d_Mod_openPage_302 (by decide) ?_
      exact t_Mod_openPage_306 hx hb hml hown hT hK hN hA hRc hRs hRf hRl hret hrec232 l1 l2 l3 l4 l5 l6 1 (rA x1601 68 l4) l4 68 x1601 H locs ls ko_68 hw hW hS (lv_sub hl [0, 1, 2, 3, 4, 5, 6] rfl)
set_option maxHeartbeats 4000000 in
set_option maxRecDepth 100000 in
theorem tl_Mod_openPage_232 {p : Program} {l : Launch} {e : Env} {R : Room} {s : State} {m : MethodId} {args : Array Value} {below : List Frame} {meth : Method} {c : Code} {cells slots : Nat} {Q : State → Prop} {dC : Nat → ClassId} {dI : Nat → Nat → Nat} {cI cB cJ cZ : ClassId} {A : Nat → Prop} {ad : Nat → Nat} {post : St → Prop} (hx : p.tables.exec = Jvm.exec) (hb : c.code = b_Mod_openPage) (hml : c.maxLocals = 8) (hown : s.vm.findClass R_Mod = some m.cls) (hT : ∀ w ∈ TG, w.before args s = true) (hK : va_K (dC, dI) CL (TY cI cB cJ cZ) s) (hN : NW s) (hA : ∀ q : Nat, s.heap.size ≤ q → A q) (hRc : cells ≤ R.cells) (hRs : slots ≤ R.slots) (hRf : 8 ≤ R.frames) (hRl : 204 ≤ R.locals) (hret : ∀ (x : St) (H : Heap) (locs : List Loc) (pc : Nat) (ls : Array Slot), decode b_Mod_openPage pc = .ok (.return_, 1) → post x → Wd dC dI cI cB cJ cZ ad stM kcM 115 A x H → va_S A s.heap H locs → W p l e R s m args below meth c H locs cells slots Q (F0 m pc ls []))  : ∀ n : Nat, ∀ (l1 : Int32) (l2 : Int32) (l3 : Int32) (l4 : Int32) (l5 : Int32) (l6 : Int32) (x : St) (H : Heap) (locs : List Loc) (ls : Array Slot), wl_Mod_openPage_232 post n l1 l2 l3 l4 l5 l6 x → Wd dC dI cI cB cJ cZ ad stM kcM 115 A x H → va_S A s.heap H locs → lv_has ls 8 [(0, .ref (ad 0)), (1, .int l1), (2, .int l2), (3, .int l3), (4, .int l4), (5, .int l5), (6, .int l6)] → W p l e R s m args below meth c H locs cells slots Q (F0 m 232 ls []) := by
  intro n
  induction n with
  | zero => intro l1 l2 l3 l4 l5 l6 x H locs ls  hw; exact hw.elim
  | succ n ih => intro l1 l2 l3 l4 l5 l6 x H locs ls  hw hW hS hl; exact t_Mod_openPage_232 hx hb hml hown hT hK hN hA hRc hRs hRf hRl hret  ih l1 l2 l3 l4 l5 l6 x H locs ls  hw hW hS hl
set_option maxRecDepth 100000 in
set_option maxHeartbeats 4000000 in
set_option maxRecDepth 100000 in
theorem t_Mod_openPage_145 {p : Program} {l : Launch} {e : Env} {R : Room} {s : State} {m : MethodId} {args : Array Value} {below : List Frame} {meth : Method} {c : Code} {cells slots : Nat} {Q : State → Prop} {dC : Nat → ClassId} {dI : Nat → Nat → Nat} {cI cB cJ cZ : ClassId} {A : Nat → Prop} {ad : Nat → Nat} {post : St → Prop} (hx : p.tables.exec = Jvm.exec) (hb : c.code = b_Mod_openPage) (hml : c.maxLocals = 8) (hown : s.vm.findClass R_Mod = some m.cls) (hT : ∀ w ∈ TG, w.before args s = true) (hK : va_K (dC, dI) CL (TY cI cB cJ cZ) s) (hN : NW s) (hA : ∀ q : Nat, s.heap.size ≤ q → A q) (hRc : cells ≤ R.cells) (hRs : slots ≤ R.slots) (hRf : 8 ≤ R.frames) (hRl : 204 ≤ R.locals) (hret : ∀ (x : St) (H : Heap) (locs : List Loc) (pc : Nat) (ls : Array Slot), decode b_Mod_openPage pc = .ok (.return_, 1) → post x → Wd dC dI cI cB cJ cZ ad stM kcM 115 A x H → va_S A s.heap H locs → W p l e R s m args below meth c H locs cells slots Q (F0 m pc ls []))  : ∀ (l1 : Int32) (l2 : Int32) (l3 : Int32) (x : St) (H : Heap) (locs : List Loc) (ls : Array Slot), j_Mod_openPage_145 post l1 l2 l3 x → Wd dC dI cI cB cJ cZ ad stM kcM 115 A x H → va_S A s.heap H locs → lv_has ls 8 [(0, .ref (ad 0)), (1, .int l1), (2, .int l2), (3, .int l3)] → W p l e R s m args below meth c H locs cells slots Q (F0 m 145 ls []) := by
  intro l1 l2 l3 x H locs ls  hw hW hS hl
  unfold j_Mod_openPage_145 at hw
  refine lv_aload_n hx hb d_Mod_openPage_145 rfl (lv_at hl 0 rfl) ?_
  refine w_geti (k := 69) (t := 12) (C := R_Mod) (T := F_Mod) (N := 167) hx hb hT hown hK hW ko_0.1 ko_0.2 (by decide) in_Mod rfl rfl (by decide) rfl fr_Mod_69 w_9_5 d_Mod_openPage_146 ?_
  refine lv_if_eq (tgt := 153) hx hb d_Mod_openPage_149 (by decide) (fun c1603 => ?_) (fun c1603 => ?_)
  · have hw := hw.1 c1603
    refine lv_aload_n hx hb d_Mod_openPage_153 rfl (lv_at hl 0 rfl) ?_
    refine w_geti (k := 86) (t := 12) (C := R_Mod) (T := F_Mod) (N := 167) hx hb hT hown hK hW ko_0.1 ko_0.2 (by decide) in_Mod rfl rfl (by decide) rfl fr_Mod_86 w_9_22 d_Mod_openPage_154 ?_
    refine lv_topi (fun v1604 ev1604 => ?_)
    have hw := hw v1604 ev1604
    refine lv_istore (lv' := [(4, .int v1604), (0, .ref (ad 0)), (1, .int l1), (2, .int l2), (3, .int l3)]) hx hb d_Mod_openPage_157 hl (by decide) rfl (fun ls hl => ?_)
    refine lv_aload_n hx hb d_Mod_openPage_159 rfl (lv_at hl 1 rfl) ?_
    refine w_getf (q := 66) (k := 103) (t := 12) (C := R_Mod) (T := F_Mod) (N := 167) hx hb hT hown hK hW ko_0.1 ko_0.2 (by decide) in_Mod rfl rfl (by decide) rfl fr_Mod_103 w_9_39 d_Mod_openPage_160 rfl ?_
    refine lv_iload hx hb d_Mod_openPage_163 (lv_at hl 0 rfl) ?_
    refine lv_iload_n hx hb d_Mod_openPage_165 rfl (lv_at hl 2 rfl) ?_
    obtain ⟨hi, hw⟩ := hw
    refine w_iast (o := 66) hx hb hK hW hS ko_66.1 ko_66.2 hi d_Mod_openPage_166 (fun H locs hW hS => ?_)
    obtain ⟨x1605, ex1605⟩ : ∃ y : St, y = setA x 66 v1604 l1 := ⟨_, rfl⟩
    rw [← ex1605] at hW
    have hw := hw x1605 ex1605
    refine lv_aload_n hx hb d_Mod_openPage_167 rfl (lv_at hl 1 rfl) ?_
    refine w_getf (q := 67) (k := 104) (t := 12) (C := R_Mod) (T := F_Mod) (N := 167) hx hb hT hown hK hW ko_0.1 ko_0.2 (by decide) in_Mod rfl rfl (by decide) rfl fr_Mod_104 w_9_40 d_Mod_openPage_168 rfl ?_
    refine lv_iload hx hb d_Mod_openPage_171 (lv_at hl 0 rfl) ?_
    refine lv_iload_n hx hb d_Mod_openPage_173 rfl (lv_at hl 3 rfl) ?_
    obtain ⟨hi, hw⟩ := hw
    refine w_iast (o := 67) hx hb hK hW hS ko_67.1 ko_67.2 hi d_Mod_openPage_174 (fun H locs hW hS => ?_)
    obtain ⟨x1606, ex1606⟩ : ∃ y : St, y = setA x1605 67 v1604 l2 := ⟨_, rfl⟩
    rw [← ex1606] at hW
    have hw := hw x1606 ex1606
    refine lv_aload_n hx hb d_Mod_openPage_175 rfl (lv_at hl 1 rfl) ?_
    refine w_getf (q := 68) (k := 105) (t := 12) (C := R_Mod) (T := F_Mod) (N := 167) hx hb hT hown hK hW ko_0.1 ko_0.2 (by decide) in_Mod rfl rfl (by decide) rfl fr_Mod_105 w_9_41 d_Mod_openPage_176 rfl ?_
    refine lv_iload hx hb d_Mod_openPage_179 (lv_at hl 0 rfl) ?_
    refine lv_iconst (v := 0) hx hb d_Mod_openPage_181 (by decide) ?_
    obtain ⟨hi, hw⟩ := hw
    refine w_iast (o := 68) hx hb hK hW hS ko_68.1 ko_68.2 hi d_Mod_openPage_182 (fun H locs hW hS => ?_)
    obtain ⟨x1607, ex1607⟩ : ∃ y : St, y = setA x1606 68 v1604 0 := ⟨_, rfl⟩
    rw [← ex1607] at hW
    have hw := hw x1607 ex1607
    refine lv_aload_n hx hb d_Mod_openPage_183 rfl (lv_at hl 1 rfl) ?_
    refine w_getf (q := 69) (k := 106) (t := 12) (C := R_Mod) (T := F_Mod) (N := 167) hx hb hT hown hK hW ko_0.1 ko_0.2 (by decide) in_Mod rfl rfl (by decide) rfl fr_Mod_106 w_9_42 d_Mod_openPage_184 rfl ?_
    refine lv_iload hx hb d_Mod_openPage_187 (lv_at hl 0 rfl) ?_
    refine lv_aload_n hx hb d_Mod_openPage_189 rfl (lv_at hl 1 rfl) ?_
    refine w_geti (k := 41) (t := 12) (C := R_Mod) (T := F_Mod) (N := 167) hx hb hT hown hK hW ko_0.1 ko_0.2 (by decide) in_Mod rfl rfl (by decide) rfl fr_Mod_41 w_8_217 d_Mod_openPage_190 ?_
    obtain ⟨hi, hw⟩ := hw
    refine w_iast (o := 69) hx hb hK hW hS ko_69.1 ko_69.2 hi d_Mod_openPage_193 (fun H locs hW hS => ?_)
    obtain ⟨x1608, ex1608⟩ : ∃ y : St, y = setA x1607 69 v1604 (fI x1607 0 41) := ⟨_, rfl⟩
    rw [← ex1608] at hW
    have hw := hw x1608 ex1608
    refine lv_aload_n hx hb d_Mod_openPage_194 rfl (lv_at hl 1 rfl) ?_
    refine w_getf (q := 70) (k := 107) (t := 12) (C := R_Mod) (T := F_Mod) (N := 167) hx hb hT hown hK hW ko_0.1 ko_0.2 (by decide) in_Mod rfl rfl (by decide) rfl fr_Mod_107 w_9_43 d_Mod_openPage_195 rfl ?_
    refine lv_iload hx hb d_Mod_openPage_198 (lv_at hl 0 rfl) ?_
    refine lv_aload_n hx hb d_Mod_openPage_200 rfl (lv_at hl 1 rfl) ?_
    refine w_geti (k := 41) (t := 12) (C := R_Mod) (T := F_Mod) (N := 167) hx hb hT hown hK hW ko_0.1 ko_0.2 (by decide) in_Mod rfl rfl (by decide) rfl fr_Mod_41 w_8_217 d_Mod_openPage_201 ?_
    refine lv_aload_n hx hb d_Mod_openPage_204 rfl (lv_at hl 1 rfl) ?_
    refine w_geti (k := 42) (t := 12) (C := R_Mod) (T := F_Mod) (N := 167) hx hb hT hown hK hW ko_0.1 ko_0.2 (by decide) in_Mod rfl rfl (by decide) rfl fr_Mod_42 w_8_218 d_Mod_openPage_205 ?_
    refine lv_isub hx hb d_Mod_openPage_208 ?_
    obtain ⟨hi, hw⟩ := hw
    refine w_iast (o := 70) hx hb hK hW hS ko_70.1 ko_70.2 hi d_Mod_openPage_209 (fun H locs hW hS => ?_)
    obtain ⟨x1609, ex1609⟩ : ∃ y : St, y = setA x1608 70 v1604 ((fI x1608 0 41) - (fI x1608 0 42)) := ⟨_, rfl⟩
    rw [← ex1609] at hW
    have hw := hw x1609 ex1609
    refine lv_aload_n hx hb d_Mod_openPage_210 rfl (lv_at hl 1 rfl) ?_
    refine w_getf (q := 71) (k := 108) (t := 12) (C := R_Mod) (T := F_Mod) (N := 167) hx hb hT hown hK hW ko_0.1 ko_0.2 (by decide) in_Mod rfl rfl (by decide) rfl fr_Mod_108 w_9_44 d_Mod_openPage_211 rfl ?_
    refine lv_iload hx hb d_Mod_openPage_214 (lv_at hl 0 rfl) ?_
    refine lv_iconst (v := (-1)) hx hb d_Mod_openPage_216 (by decide) ?_
    obtain ⟨hi, hw⟩ := hw
    refine w_iast (o := 71) hx hb hK hW hS ko_71.1 ko_71.2 hi d_Mod_openPage_217 (fun H locs hW hS => ?_)
    obtain ⟨x1610, ex1610⟩ : ∃ y : St, y = setA x1609 71 v1604 (-1) := ⟨_, rfl⟩
    rw [← ex1610] at hW
    have hw := hw x1610 ex1610
    refine lv_aload_n hx hb d_Mod_openPage_218 rfl (lv_at hl 1 rfl) ?_
    refine w_getf (q := 72) (k := 109) (t := 12) (C := R_Mod) (T := F_Mod) (N := 167) hx hb hT hown hK hW ko_0.1 ko_0.2 (by decide) in_Mod rfl rfl (by decide) rfl fr_Mod_109 w_9_45 d_Mod_openPage_219 rfl ?_
    refine lv_iload hx hb d_Mod_openPage_222 (lv_at hl 0 rfl) ?_
    refine lv_iconst (v := (-1)) hx hb d_Mod_openPage_224 (by decide) ?_
    obtain ⟨hi, hw⟩ := hw
    refine w_iast (o := 72) hx hb hK hW hS ko_72.1 ko_72.2 hi d_Mod_openPage_225 (fun H locs hW hS => ?_)
    obtain ⟨x1611, ex1611⟩ : ∃ y : St, y = setA x1610 72 v1604 (-1) := ⟨_, rfl⟩
    rw [← ex1611] at hW
    have hw := hw x1611 ex1611
    refine lv_iconst (v := 0) hx hb d_Mod_openPage_226 (by decide) ?_
    refine lv_istore (lv' := [(5, .int 0), (4, .int v1604), (0, .ref (ad 0)), (1, .int l1), (2, .int l2), (3, .int l3)]) hx hb d_Mod_openPage_227 hl (by decide) rfl (fun ls hl => ?_)
    refine lv_iconst (v := 0) hx hb d_Mod_openPage_229 (by decide) ?_
    refine lv_istore (lv' := [(6, .int 0), (5, .int 0), (4, .int v1604), (0, .ref (ad 0)), (1, .int l1), (2, .int l2), (3, .int l3)]) hx hb d_Mod_openPage_230 hl (by decide) rfl (fun ls hl => ?_)
    obtain ⟨n, hw⟩ := hw
    exact tl_Mod_openPage_232 hx hb hml hown hT hK hN hA hRc hRs hRf hRl hret  n l1 l2 l3 v1604 0 0 x1611 H locs ls  hw hW hS (lv_sub hl [3, 4, 5, 6, 2, 1, 0] rfl)
  · have hw := hw.2 c1603
    exact hret x H locs 152 ls d_Mod_openPage_152 hw hW hS
set_option maxRecDepth 100000 in
set_option maxHeartbeats 4000000 in
set_option maxRecDepth 100000 in
theorem t_Mod_openPage_128 {p : Program} {l : Launch} {e : Env} {R : Room} {s : State} {m : MethodId} {args : Array Value} {below : List Frame} {meth : Method} {c : Code} {cells slots : Nat} {Q : State → Prop} {dC : Nat → ClassId} {dI : Nat → Nat → Nat} {cI cB cJ cZ : ClassId} {A : Nat → Prop} {ad : Nat → Nat} {post : St → Prop} (hx : p.tables.exec = Jvm.exec) (hb : c.code = b_Mod_openPage) (hml : c.maxLocals = 8) (hown : s.vm.findClass R_Mod = some m.cls) (hT : ∀ w ∈ TG, w.before args s = true) (hK : va_K (dC, dI) CL (TY cI cB cJ cZ) s) (hN : NW s) (hA : ∀ q : Nat, s.heap.size ≤ q → A q) (hRc : cells ≤ R.cells) (hRs : slots ≤ R.slots) (hRf : 8 ≤ R.frames) (hRl : 204 ≤ R.locals) (hret : ∀ (x : St) (H : Heap) (locs : List Loc) (pc : Nat) (ls : Array Slot), decode b_Mod_openPage pc = .ok (.return_, 1) → post x → Wd dC dI cI cB cJ cZ ad stM kcM 115 A x H → va_S A s.heap H locs → W p l e R s m args below meth c H locs cells slots Q (F0 m pc ls []))  : ∀ (l1 : Int32) (l2 : Int32) (l3 : Int32) (s0 : Int32) (x : St) (H : Heap) (locs : List Loc) (ls : Array Slot), j_Mod_openPage_128 post l1 l2 l3 s0 x → Wd dC dI cI cB cJ cZ ad stM kcM 115 A x H → va_S A s.heap H locs → lv_has ls 8 [(0, .ref (ad 0)), (1, .int l1), (2, .int l2), (3, .int l3)] → W p l e R s m args below meth c H locs cells slots Q (F0 m 128 ls [.int s0, .ref (ad 0)]) := by
  intro l1 l2 l3 s0 x H locs ls  hw hW hS hl
  unfold j_Mod_openPage_128 at hw
  refine lv_bipush (v := 19) hx hb d_Mod_openPage_128 (by decide) ?_
  have hF := hW.free hS hA
  refine va_callv (va_runV (C := R_Mod) (As := [.int s0, .int 19]) (rest := []) ⟨hx, hb, hml, hown, hT⟩ (k_Mod_faults l dC dI cI cB cJ cZ ad H.size s0 19 x  hw) ⟨callB_of 2 hT (gwt_in w_12_107) rfl rfl rfl (hT _ w_1_15) (hT _ w_12_104) (by decide +kernel) ⟨Nat.le_trans (Nat.le_of_ble_eq_true rfl) hRf, Nat.le_trans (Nat.le_of_ble_eq_true rfl) hRl⟩, hT _ w_12_106, hT _ ws_183⟩ ⟨PW.blind, va_recv hK hW.1 (ci := 12) (q0 := 0) rfl (pic_obj ko_0.1 ko_0.2 (by decide)), PW.at _ hW hK hN⟩ rfl rfl hl.1 rfl (lv_room (Nat.le_of_ble_eq_true rfl)) d_Mod_openPage_130 ⟨hRc, hRs⟩) hS (fun q _ h => hF q h) hF (fun  x1612 t H locs ht hvm hw hB hz1 hk1 hS => ?_)
  have hW := Wd.back hB ht hF
  clear hB ht hF hz1 hk1 hvm
  refine lv_aload_n hx hb d_Mod_openPage_133 rfl (lv_at hl 0 rfl) ?_
  refine w_geti (k := 69) (t := 12) (C := R_Mod) (T := F_Mod) (N := 167) hx hb hT hown hK hW ko_0.1 ko_0.2 (by decide) in_Mod rfl rfl (by decide) rfl fr_Mod_69 w_9_5 d_Mod_openPage_134 ?_
  refine lv_if_ne (tgt := 145) hx hb d_Mod_openPage_137 (by decide) (fun c1613 => ?_) (fun c1613 => ?_)
  · have hw := hw.1 c1613
    exact t_Mod_openPage_145 hx hb hml hown hT hK hN hA hRc hRs hRf hRl hret  l1 l2 l3 x1612 H locs ls  hw hW hS (lv_sub hl [0, 1, 2, 3] rfl)
  · have hw := hw.2 c1613
    refine lv_aload_n hx hb d_Mod_openPage_140 rfl (lv_at hl 0 rfl) ?_
    refine lv_iload_n hx hb d_Mod_openPage_141 rfl (lv_at hl 1 rfl) ?_
    have hF := hW.free hS hA
    refine va_callv (va_runV (C := R_Mod) (As := [.int l1]) (rest := []) ⟨hx, hb, hml, hown, hT⟩ (k_Mod_order l dC dI cI cB cJ cZ ad H.size l1 x1612  hw) ⟨callB_of 1 hT (gwt_in w_13_22) rfl rfl rfl (hT _ w_1_15) (hT _ w_13_19) (by decide +kernel) ⟨Nat.le_trans (Nat.le_of_ble_eq_true rfl) hRf, Nat.le_trans (Nat.le_of_ble_eq_true rfl) hRl⟩, hT _ w_13_21, hT _ ws_218⟩ ⟨PW.blind, va_recv hK hW.1 (ci := 12) (q0 := 0) rfl (pic_obj ko_0.1 ko_0.2 (by decide)), PW.at _ hW hK hN⟩ rfl rfl hl.1 rfl (lv_room (Nat.le_of_ble_eq_true rfl)) d_Mod_openPage_142 ⟨hRc, hRs⟩) hS (fun q _ h => hF q h) hF (fun  x1614 t H locs ht hvm hw hB hz1 hk1 hS => ?_)
    have hW := Wd.back hB ht hF
    clear hB ht hF hz1 hk1 hvm
    exact t_Mod_openPage_145 hx hb hml hown hT hK hN hA hRc hRs hRf hRl hret  l1 l2 l3 x1614 H locs ls  hw hW hS (lv_sub hl [0, 1, 2, 3] rfl)
set_option maxRecDepth 100000 in
set_option maxHeartbeats 4000000 in
set_option maxRecDepth 100000 in
theorem t_Mod_openPage_108 {p : Program} {l : Launch} {e : Env} {R : Room} {s : State} {m : MethodId} {args : Array Value} {below : List Frame} {meth : Method} {c : Code} {cells slots : Nat} {Q : State → Prop} {dC : Nat → ClassId} {dI : Nat → Nat → Nat} {cI cB cJ cZ : ClassId} {A : Nat → Prop} {ad : Nat → Nat} {post : St → Prop} (hx : p.tables.exec = Jvm.exec) (hb : c.code = b_Mod_openPage) (hml : c.maxLocals = 8) (hown : s.vm.findClass R_Mod = some m.cls) (hT : ∀ w ∈ TG, w.before args s = true) (hK : va_K (dC, dI) CL (TY cI cB cJ cZ) s) (hN : NW s) (hA : ∀ q : Nat, s.heap.size ≤ q → A q) (hRc : cells ≤ R.cells) (hRs : slots ≤ R.slots) (hRf : 8 ≤ R.frames) (hRl : 204 ≤ R.locals) (hret : ∀ (x : St) (H : Heap) (locs : List Loc) (pc : Nat) (ls : Array Slot), decode b_Mod_openPage pc = .ok (.return_, 1) → post x → Wd dC dI cI cB cJ cZ ad stM kcM 115 A x H → va_S A s.heap H locs → W p l e R s m args below meth c H locs cells slots Q (F0 m pc ls []))  : ∀ (l1 : Int32) (l2 : Int32) (l3 : Int32) (s0 : Int32) (x : St) (H : Heap) (locs : List Loc) (ls : Array Slot), j_Mod_openPage_108 post l1 l2 l3 s0 x → Wd dC dI cI cB cJ cZ ad stM kcM 115 A x H → va_S A s.heap H locs → lv_has ls 8 [(0, .ref (ad 0)), (1, .int l1), (2, .int l2), (3, .int l3)] → W p l e R s m args below meth c H locs cells slots Q (F0 m 108 ls [.int s0, .ref (ad 0)]) := by
  intro l1 l2 l3 s0 x H locs ls  hw hW hS hl
  unfold j_Mod_openPage_108 at hw
  refine lv_bipush (v := 22) hx hb d_Mod_openPage_108 (by decide) ?_
  have hF := hW.free hS hA
  refine va_callv (va_runV (C := R_Mod) (As := [.int s0, .int 22]) (rest := []) ⟨hx, hb, hml, hown, hT⟩ (k_Mod_faults l dC dI cI cB cJ cZ ad H.size s0 22 x  hw) ⟨callB_of 2 hT (gwt_in w_12_107) rfl rfl rfl (hT _ w_1_15) (hT _ w_12_104) (by decide +kernel) ⟨Nat.le_trans (Nat.le_of_ble_eq_true rfl) hRf, Nat.le_trans (Nat.le_of_ble_eq_true rfl) hRl⟩, hT _ w_12_106, hT _ ws_183⟩ ⟨PW.blind, va_recv hK hW.1 (ci := 12) (q0 := 0) rfl (pic_obj ko_0.1 ko_0.2 (by decide)), PW.at _ hW hK hN⟩ rfl rfl hl.1 rfl (lv_room (Nat.le_of_ble_eq_true rfl)) d_Mod_openPage_110 ⟨hRc, hRs⟩) hS (fun q _ h => hF q h) hF (fun  x1615 t H locs ht hvm hw hB hz1 hk1 hS => ?_)
  have hW := Wd.back hB ht hF
  clear hB ht hF hz1 hk1 hvm
  refine lv_aload_n hx hb d_Mod_openPage_113 rfl (lv_at hl 0 rfl) ?_
  refine lv_aload_n hx hb d_Mod_openPage_114 rfl (lv_at hl 0 rfl) ?_
  refine w_getf (q := 28) (k := 47) (t := 12) (C := R_Mod) (T := F_Mod) (N := 167) hx hb hT hown hK hW ko_0.1 ko_0.2 (by decide) in_Mod rfl rfl (by decide) rfl fr_Mod_47 w_8_223 d_Mod_openPage_115 rfl ?_
  refine lv_iconst (v := 0) hx hb d_Mod_openPage_118 (by decide) ?_
  obtain ⟨hi, hw⟩ := hw
  refine w_iald (o := 28) hx hb hK hW ko_28.1 ko_28.2 hi d_Mod_openPage_119 ?_
  refine lv_if_eq (tgt := 127) hx hb d_Mod_openPage_120 (by decide) (fun c1616 => ?_) (fun c1616 => ?_)
  · have hw := hw.1 c1616
    refine lv_iconst (v := 0) hx hb d_Mod_openPage_127 (by decide) ?_
    exact t_Mod_openPage_128 hx hb hml hown hT hK hN hA hRc hRs hRf hRl hret  l1 l2 l3 0 x1615 H locs ls  hw hW hS (lv_sub hl [0, 1, 2, 3] rfl)
  · have hw := hw.2 c1616
    refine lv_iconst (v := 1) hx hb d_Mod_openPage_123 (by decide) ?_
    refine lv_goto (tgt := 128) hx hb d_Mod_openPage_124 (by decide) ?_
    exact t_Mod_openPage_128 hx hb hml hown hT hK hN hA hRc hRs hRf hRl hret  l1 l2 l3 1 x1615 H locs ls  hw hW hS (lv_sub hl [0, 1, 2, 3] rfl)
set_option maxRecDepth 100000 in
set_option maxHeartbeats 4000000 in
set_option maxRecDepth 100000 in
theorem t_Mod_openPage_103 {p : Program} {l : Launch} {e : Env} {R : Room} {s : State} {m : MethodId} {args : Array Value} {below : List Frame} {meth : Method} {c : Code} {cells slots : Nat} {Q : State → Prop} {dC : Nat → ClassId} {dI : Nat → Nat → Nat} {cI cB cJ cZ : ClassId} {A : Nat → Prop} {ad : Nat → Nat} {post : St → Prop} (hx : p.tables.exec = Jvm.exec) (hb : c.code = b_Mod_openPage) (hml : c.maxLocals = 8) (hown : s.vm.findClass R_Mod = some m.cls) (hT : ∀ w ∈ TG, w.before args s = true) (hK : va_K (dC, dI) CL (TY cI cB cJ cZ) s) (hN : NW s) (hA : ∀ q : Nat, s.heap.size ≤ q → A q) (hRc : cells ≤ R.cells) (hRs : slots ≤ R.slots) (hRf : 8 ≤ R.frames) (hRl : 204 ≤ R.locals) (hret : ∀ (x : St) (H : Heap) (locs : List Loc) (pc : Nat) (ls : Array Slot), decode b_Mod_openPage pc = .ok (.return_, 1) → post x → Wd dC dI cI cB cJ cZ ad stM kcM 115 A x H → va_S A s.heap H locs → W p l e R s m args below meth c H locs cells slots Q (F0 m pc ls []))  : ∀ (l1 : Int32) (l2 : Int32) (l3 : Int32) (x : St) (H : Heap) (locs : List Loc) (ls : Array Slot), j_Mod_openPage_103 post l1 l2 l3 x → Wd dC dI cI cB cJ cZ ad stM kcM 115 A x H → va_S A s.heap H locs → lv_has ls 8 [(0, .ref (ad 0)), (1, .int l1), (2, .int l2), (3, .int l3)] → W p l e R s m args below meth c H locs cells slots Q (F0 m 103 ls [.ref (ad 0)]) := by
  intro l1 l2 l3 x H locs ls  hw hW hS hl
  unfold j_Mod_openPage_103 at hw
  refine lv_iconst (v := 1) hx hb d_Mod_openPage_103 (by decide) ?_
  refine lv_goto (tgt := 108) hx hb d_Mod_openPage_104 (by decide) ?_
  exact t_Mod_openPage_108 hx hb hml hown hT hK hN hA hRc hRs hRf hRl hret  l1 l2 l3 1 x H locs ls  hw hW hS (lv_sub hl [0, 1, 2, 3] rfl)
set_option maxRecDepth 100000 in
set_option maxHeartbeats 4000000 in
set_option maxRecDepth 100000 in
theorem t_Mod_openPage_74 {p : Program} {l : Launch} {e : Env} {R : Room} {s : State} {m : MethodId} {args : Array Value} {below : List Frame} {meth : Method} {c : Code} {cells slots : Nat} {Q : State → Prop} {dC : Nat → ClassId} {dI : Nat → Nat → Nat} {cI cB cJ cZ : ClassId} {A : Nat → Prop} {ad : Nat → Nat} {post : St → Prop} (hx : p.tables.exec = Jvm.exec) (hb : c.code = b_Mod_openPage) (hml : c.maxLocals = 8) (hown : s.vm.findClass R_Mod = some m.cls) (hT : ∀ w ∈ TG, w.before args s = true) (hK : va_K (dC, dI) CL (TY cI cB cJ cZ) s) (hN : NW s) (hA : ∀ q : Nat, s.heap.size ≤ q → A q) (hRc : cells ≤ R.cells) (hRs : slots ≤ R.slots) (hRf : 8 ≤ R.frames) (hRl : 204 ≤ R.locals) (hret : ∀ (x : St) (H : Heap) (locs : List Loc) (pc : Nat) (ls : Array Slot), decode b_Mod_openPage pc = .ok (.return_, 1) → post x → Wd dC dI cI cB cJ cZ ad stM kcM 115 A x H → va_S A s.heap H locs → W p l e R s m args below meth c H locs cells slots Q (F0 m pc ls []))  : ∀ (l1 : Int32) (l2 : Int32) (l3 : Int32) (s0 : Int32) (s1 : Int32) (x : St) (H : Heap) (locs : List Loc) (ls : Array Slot), j_Mod_openPage_74 post l1 l2 l3 s0 s1 x → Wd dC dI cI cB cJ cZ ad stM kcM 115 A x H → va_S A s.heap H locs → lv_has ls 8 [(0, .ref (ad 0)), (1, .int l1), (2, .int l2), (3, .int l3)] → W p l e R s m args below meth c H locs cells slots Q (F0 m 74 ls [.int s0, .int s1, .ref (ad 0)]) := by
  intro l1 l2 l3 s0 s1 x H locs ls  hw hW hS hl
  unfold j_Mod_openPage_74 at hw
  refine lv_iadd hx hb d_Mod_openPage_74 ?_
  refine w_puti (ty := .int) (k := 88) (t := 12) (C := R_Mod) (T := F_Mod) (N := 167) hx hb hT hown hK hW hS ko_0.1 ko_0.2 (by decide) in_Mod t_Mod t_Mod_ok n_Mod rfl rfl (by decide) rfl fr_Mod_88 w_9_24 (by decide +kernel) rfl rfl d_Mod_openPage_75 (fun H locs hW hS => ?_)
  obtain ⟨x1617, ex1617⟩ : ∃ y : St, y = setI x 0 88 (s1 + s0) := ⟨_, rfl⟩
  rw [← ex1617] at hW
  have hw := hw x1617 ex1617
  refine lv_aload_n hx hb d_Mod_openPage_78 rfl (lv_at hl 0 rfl) ?_
  refine lv_aload_n hx hb d_Mod_openPage_79 rfl (lv_at hl 0 rfl) ?_
  refine w_geti (k := 87) (t := 12) (C := R_Mod) (T := F_Mod) (N := 167) hx hb hT hown hK hW ko_0.1 ko_0.2 (by decide) in_Mod rfl rfl (by decide) rfl fr_Mod_87 w_9_23 d_Mod_openPage_80 ?_
  refine lv_aload_n hx hb d_Mod_openPage_83 rfl (lv_at hl 0 rfl) ?_
  refine w_geti (k := 41) (t := 12) (C := R_Mod) (T := F_Mod) (N := 167) hx hb hT hown hK hW ko_0.1 ko_0.2 (by decide) in_Mod rfl rfl (by decide) rfl fr_Mod_41 w_8_217 d_Mod_openPage_84 ?_
  refine lv_iadd hx hb d_Mod_openPage_87 ?_
  refine lv_sipush (v := 10000) hx hb d_Mod_openPage_88 (by decide) ?_
  refine lv_icmp_gt (tgt := 103) hx hb d_Mod_openPage_91 (by decide) (fun c1618 => ?_) (fun c1618 => ?_)
  · have hw := hw.1 c1618
    exact t_Mod_openPage_103 hx hb hml hown hT hK hN hA hRc hRs hRf hRl hret  l1 l2 l3 x1617 H locs ls  hw hW hS (lv_sub hl [0, 1, 2, 3] rfl)
  · have hw := hw.2 c1618
    refine lv_aload_n hx hb d_Mod_openPage_94 rfl (lv_at hl 0 rfl) ?_
    refine w_geti (k := 88) (t := 12) (C := R_Mod) (T := F_Mod) (N := 167) hx hb hT hown hK hW ko_0.1 ko_0.2 (by decide) in_Mod rfl rfl (by decide) rfl fr_Mod_88 w_9_24 d_Mod_openPage_95 ?_
    refine lv_ldc hx hb hown (hT _ w_8_172) d_Mod_openPage_98 ?_
    refine lv_icmp_le (tgt := 107) hx hb d_Mod_openPage_100 (by decide) (fun c1619 => ?_) (fun c1619 => ?_)
    · have hw := hw.1 c1619
      refine lv_iconst (v := 0) hx hb d_Mod_openPage_107 (by decide) ?_
      exact t_Mod_openPage_108 hx hb hml hown hT hK hN hA hRc hRs hRf hRl hret  l1 l2 l3 0 x1617 H locs ls  hw hW hS (lv_sub hl [0, 1, 2, 3] rfl)
    · have hw := hw.2 c1619
      exact t_Mod_openPage_103 hx hb hml hown hT hK hN hA hRc hRs hRf hRl hret  l1 l2 l3 x1617 H locs ls  hw hW hS (lv_sub hl [0, 1, 2, 3] rfl)
set_option maxRecDepth 100000 in
set_option maxHeartbeats 4000000 in
set_option maxRecDepth 100000 in
theorem t_Mod_openPage_e {p : Program} {l : Launch} {e : Env} {R : Room} {s : State} {m : MethodId} {args : Array Value} {below : List Frame} {meth : Method} {c : Code} {cells slots : Nat} {Q : State → Prop} {dC : Nat → ClassId} {dI : Nat → Nat → Nat} {cI cB cJ cZ : ClassId} {A : Nat → Prop} {ad : Nat → Nat} {post : St → Prop} (hx : p.tables.exec = Jvm.exec) (hb : c.code = b_Mod_openPage) (hml : c.maxLocals = 8) (hown : s.vm.findClass R_Mod = some m.cls) (hT : ∀ w ∈ TG, w.before args s = true) (hK : va_K (dC, dI) CL (TY cI cB cJ cZ) s) (hN : NW s) (hA : ∀ q : Nat, s.heap.size ≤ q → A q) (hRc : cells ≤ R.cells) (hRs : slots ≤ R.slots) (hRf : 8 ≤ R.frames) (hRl : 204 ≤ R.locals) (hret : ∀ (x : St) (H : Heap) (locs : List Loc) (pc : Nat) (ls : Array Slot), decode b_Mod_openPage pc = .ok (.return_, 1) → post x → Wd dC dI cI cB cJ cZ ad stM kcM 115 A x H → va_S A s.heap H locs → W p l e R s m args below meth c H locs cells slots Q (F0 m pc ls [])) : ∀ (l1 : Int32) (l2 : Int32) (l3 : Int32) (x : St) (H : Heap) (locs : List Loc) (ls : Array Slot), wp_Mod_openPage post l1 l2 l3 x → Wd dC dI cI cB cJ cZ ad stM kcM 115 A x H → va_S A s.heap H locs → lv_has ls 8 [(0, .ref (ad 0)), (1, .int l1), (2, .int l2), (3, .int l3)] → W p l e R s m args below meth c H locs cells slots Q (F0 m 0 ls []) := by
  intro l1 l2 l3 x H locs ls  hw hW hS hl
  unfold wp_Mod_openPage at hw
  refine lv_aload_n hx hb d_Mod_openPage_0 rfl (lv_at hl 0 rfl) ?_
  refine lv_aload_n hx hb d_Mod_openPage_1 rfl (lv_at hl 0 rfl) ?_
  refine lv_iconst (v := 1) hx hb d_Mod_openPage_2 (by decide) ?_
  refine lv_iload_n hx hb d_Mod_openPage_3 rfl (lv_at hl 1 rfl) ?_
  have hF := hW.free hS hA
  refine va_calli (va_runV (C := R_Mod) (As := [.int 1, .int l1]) (rest := [.ref (ad 0)]) ⟨hx, hb, hml, hown, hT⟩ (k_Mod_typeOf l dC dI cI cB cJ cZ ad H.size 1 l1 x  hw) ⟨callB_of 2 hT (gwt_in w_11_158) rfl rfl rfl (hT _ w_1_15) (hT _ w_11_155) (by decide +kernel) ⟨Nat.le_trans (Nat.le_of_ble_eq_true rfl) hRf, Nat.le_trans (Nat.le_of_ble_eq_true rfl) hRl⟩, hT _ w_11_157, hT _ ws_144⟩ ⟨PW.blind, va_recv hK hW.1 (ci := 12) (q0 := 0) rfl (pic_obj ko_0.1 ko_0.2 (by decide)), PW.at _ hW hK hN⟩ rfl rfl hl.1 rfl (lv_room (Nat.le_of_ble_eq_true rfl)) d_Mod_openPage_4 ⟨hRc, hRs⟩) hS (fun q _ h => hF q h) hF (fun r1621 x1620 t H locs ht hvm hw hB hz1 hk1 hS => ?_)
  have hW := Wd.back hB ht hF
  clear hB ht hF hz1 hk1 hvm
  refine w_puti (ty := .int) (k := 38) (t := 12) (C := R_Mod) (T := F_Mod) (N := 167) hx hb hT hown hK hW hS ko_0.1 ko_0.2 (by decide) in_Mod t_Mod t_Mod_ok n_Mod rfl rfl (by decide) rfl fr_Mod_38 w_8_214 (by decide +kernel) rfl rfl d_Mod_openPage_7 (fun H locs hW hS => ?_)
  obtain ⟨x1622, ex1622⟩ : ∃ y : St, y = setI x1620 0 38 r1621 := ⟨_, rfl⟩
  rw [← ex1622] at hW
  have hw := hw x1622 ex1622
  refine lv_aload_n hx hb d_Mod_openPage_10 rfl (lv_at hl 0 rfl) ?_
  refine lv_aload_n hx hb d_Mod_openPage_11 rfl (lv_at hl 0 rfl) ?_
  refine lv_iconst (v := 1) hx hb d_Mod_openPage_12 (by decide) ?_
  refine lv_iload_n hx hb d_Mod_openPage_13 rfl (lv_at hl 1 rfl) ?_
  have hF := hW.free hS hA
  refine va_calli (va_runV (C := R_Mod) (As := [.int 1, .int l1]) (rest := [.ref (ad 0)]) ⟨hx, hb, hml, hown, hT⟩ (k_Mod_mostR l dC dI cI cB cJ cZ ad H.size 1 l1 x1622  hw) ⟨callB_of 2 hT (gwt_in w_11_162) rfl rfl rfl (hT _ w_1_15) (hT _ w_11_159) (by decide +kernel) ⟨Nat.le_trans (Nat.le_of_ble_eq_true rfl) hRf, Nat.le_trans (Nat.le_of_ble_eq_true rfl) hRl⟩, hT _ w_11_161, hT _ ws_145⟩ ⟨PW.blind, va_recv hK hW.1 (ci := 12) (q0 := 0) rfl (pic_obj ko_0.1 ko_0.2 (by decide)), PW.at _ hW hK hN⟩ rfl rfl hl.1 rfl (lv_room (Nat.le_of_ble_eq_true rfl)) d_Mod_openPage_14 ⟨hRc, hRs⟩) hS (fun q _ h => hF q h) hF (fun r1624 x1623 t H locs ht hvm hw hB hz1 hk1 hS => ?_)
  have hW := Wd.back hB ht hF
  clear hB ht hF hz1 hk1 hvm
  refine w_puti (ty := .int) (k := 39) (t := 12) (C := R_Mod) (T := F_Mod) (N := 167) hx hb hT hown hK hW hS ko_0.1 ko_0.2 (by decide) in_Mod t_Mod t_Mod_ok n_Mod rfl rfl (by decide) rfl fr_Mod_39 w_8_215 (by decide +kernel) rfl rfl d_Mod_openPage_17 (fun H locs hW hS => ?_)
  obtain ⟨x1625, ex1625⟩ : ∃ y : St, y = setI x1623 0 39 r1624 := ⟨_, rfl⟩
  rw [← ex1625] at hW
  have hw := hw x1625 ex1625
  refine lv_aload_n hx hb d_Mod_openPage_20 rfl (lv_at hl 0 rfl) ?_
  refine lv_aload_n hx hb d_Mod_openPage_21 rfl (lv_at hl 0 rfl) ?_
  refine lv_iconst (v := 1) hx hb d_Mod_openPage_22 (by decide) ?_
  refine lv_iload_n hx hb d_Mod_openPage_23 rfl (lv_at hl 1 rfl) ?_
  have hF := hW.free hS hA
  refine va_calli (va_runV (C := R_Mod) (As := [.int 1, .int l1]) (rest := [.ref (ad 0)]) ⟨hx, hb, hml, hown, hT⟩ (k_Mod_mostD l dC dI cI cB cJ cZ ad H.size 1 l1 x1625  hw) ⟨callB_of 2 hT (gwt_in w_11_166) rfl rfl rfl (hT _ w_1_15) (hT _ w_11_163) (by decide +kernel) ⟨Nat.le_trans (Nat.le_of_ble_eq_true rfl) hRf, Nat.le_trans (Nat.le_of_ble_eq_true rfl) hRl⟩, hT _ w_11_165, hT _ ws_146⟩ ⟨PW.blind, va_recv hK hW.1 (ci := 12) (q0 := 0) rfl (pic_obj ko_0.1 ko_0.2 (by decide)), PW.at _ hW hK hN⟩ rfl rfl hl.1 rfl (lv_room (Nat.le_of_ble_eq_true rfl)) d_Mod_openPage_24 ⟨hRc, hRs⟩) hS (fun q _ h => hF q h) hF (fun r1627 x1626 t H locs ht hvm hw hB hz1 hk1 hS => ?_)
  have hW := Wd.back hB ht hF
  clear hB ht hF hz1 hk1 hvm
  refine w_puti (ty := .int) (k := 40) (t := 12) (C := R_Mod) (T := F_Mod) (N := 167) hx hb hT hown hK hW hS ko_0.1 ko_0.2 (by decide) in_Mod t_Mod t_Mod_ok n_Mod rfl rfl (by decide) rfl fr_Mod_40 w_8_216 (by decide +kernel) rfl rfl d_Mod_openPage_27 (fun H locs hW hS => ?_)
  obtain ⟨x1628, ex1628⟩ : ∃ y : St, y = setI x1626 0 40 r1627 := ⟨_, rfl⟩
  rw [← ex1628] at hW
  have hw := hw x1628 ex1628
  refine lv_aload_n hx hb d_Mod_openPage_30 rfl (lv_at hl 0 rfl) ?_
  refine lv_iconst (v := 0) hx hb d_Mod_openPage_31 (by decide) ?_
  refine w_puti (ty := .int) (k := 59) (t := 12) (C := R_Mod) (T := F_Mod) (N := 167) hx hb hT hown hK hW hS ko_0.1 ko_0.2 (by decide) in_Mod t_Mod t_Mod_ok n_Mod rfl rfl (by decide) rfl fr_Mod_59 w_8_235 (by decide +kernel) rfl rfl d_Mod_openPage_32 (fun H locs hW hS => ?_)
  obtain ⟨x1629, ex1629⟩ : ∃ y : St, y = setI x1628 0 59 0 := ⟨_, rfl⟩
  rw [← ex1629] at hW
  have hw := hw x1629 ex1629
  refine lv_aload_n hx hb d_Mod_openPage_35 rfl (lv_at hl 0 rfl) ?_
  refine lv_iload_n hx hb d_Mod_openPage_36 rfl (lv_at hl 3 rfl) ?_
  have hF := hW.free hS hA
  refine va_callv (va_runV (C := R_Mod) (As := [.int l3]) (rest := []) ⟨hx, hb, hml, hown, hT⟩ (k_Mod_readPage l dC dI cI cB cJ cZ ad H.size l3 x1629  hw) ⟨callB_of 1 hT (gwt_in w_12_168) rfl rfl rfl (hT _ w_1_15) (hT _ w_12_165) (by decide +kernel) ⟨Nat.le_trans (Nat.le_of_ble_eq_true rfl) hRf, Nat.le_trans (Nat.le_of_ble_eq_true rfl) hRl⟩, hT _ w_12_167, hT _ ws_196⟩ ⟨PW.blind, va_recv hK hW.1 (ci := 12) (q0 := 0) rfl (pic_obj ko_0.1 ko_0.2 (by decide)), PW.at _ hW hK hN⟩ rfl rfl hl.1 rfl (lv_room (Nat.le_of_ble_eq_true rfl)) d_Mod_openPage_37 ⟨hRc, hRs⟩) hS (fun q _ h => hF q h) hF (fun  x1630 t H locs ht hvm hw hB hz1 hk1 hS => ?_)
  have hW := Wd.back hB ht hF
  clear hB ht hF hz1 hk1 hvm
  refine lv_aload_n hx hb d_Mod_openPage_40 rfl (lv_at hl 0 rfl) ?_
  refine w_geti (k := 69) (t := 12) (C := R_Mod) (T := F_Mod) (N := 167) hx hb hT hown hK hW ko_0.1 ko_0.2 (by decide) in_Mod rfl rfl (by decide) rfl fr_Mod_69 w_9_5 d_Mod_openPage_41 ?_
  refine lv_if_eq (tgt := 48) hx hb d_Mod_openPage_44 (by decide) (fun c1631 => ?_) (fun c1631 => ?_)
  · have hw := hw.1 c1631
    refine lv_aload_n hx hb d_Mod_openPage_48 rfl (lv_at hl 0 rfl) ?_
    refine lv_dup hx hb d_Mod_openPage_49 rfl ?_
    refine w_geti (k := 88) (t := 12) (C := R_Mod) (T := F_Mod) (N := 167) hx hb hT hown hK hW ko_0.1 ko_0.2 (by decide) in_Mod rfl rfl (by decide) rfl fr_Mod_88 w_9_24 d_Mod_openPage_50 ?_
    refine lv_aload_n hx hb d_Mod_openPage_53 rfl (lv_at hl 0 rfl) ?_
    refine w_geti (k := 38) (t := 12) (C := R_Mod) (T := F_Mod) (N := 167) hx hb hT hown hK hW ko_0.1 ko_0.2 (by decide) in_Mod rfl rfl (by decide) rfl fr_Mod_38 w_8_214 d_Mod_openPage_54 ?_
    refine lv_iconst (v := 3) hx hb d_Mod_openPage_57 (by decide) ?_
    refine lv_icmp_ne (tgt := 73) hx hb d_Mod_openPage_58 (by decide) (fun c1632 => ?_) (fun c1632 => ?_)
    · have hw := hw.1 c1632
      refine lv_iconst (v := 0) hx hb d_Mod_openPage_73 (by decide) ?_
      exact t_Mod_openPage_74 hx hb hml hown hT hK hN hA hRc hRs hRf hRl hret  l1 l2 l3 0 (fI x1630 0 88) x1630 H locs ls  hw hW hS (lv_sub hl [0, 1, 2, 3] rfl)
    · have hw := hw.2 c1632
      refine lv_aload_n hx hb d_Mod_openPage_61 rfl (lv_at hl 0 rfl) ?_
      refine w_getf (q := 34) (k := 53) (t := 12) (C := R_Mod) (T := F_Mod) (N := 167) hx hb hT hown hK hW ko_0.1 ko_0.2 (by decide) in_Mod rfl rfl (by decide) rfl fr_Mod_53 w_8_229 d_Mod_openPage_62 rfl ?_
      refine lv_aload_n hx hb d_Mod_openPage_65 rfl (lv_at hl 0 rfl) ?_
      refine w_geti (k := 42) (t := 12) (C := R_Mod) (T := F_Mod) (N := 167) hx hb hT hown hK hW ko_0.1 ko_0.2 (by decide) in_Mod rfl rfl (by decide) rfl fr_Mod_42 w_8_218 d_Mod_openPage_66 ?_
      obtain ⟨hi, hw⟩ := hw
      refine w_iald (o := 34) hx hb hK hW ko_34.1 ko_34.2 hi d_Mod_openPage_69 ?_
      refine lv_goto (tgt := 74) hx hb d_Mod_openPage_70 (by decide) ?_
      exact t_Mod_openPage_74 hx hb hml hown hT hK hN hA hRc hRs hRf hRl hret  l1 l2 l3 (rA x1630 34 (fI x1630 0 42)) (fI x1630 0 88) x1630 H locs ls  hw hW hS (lv_sub hl [0, 1, 2, 3] rfl)
  · have hw := hw.2 c1631
    exact hret x1630 H locs 47 ls d_Mod_openPage_47 hw hW hS
set_option maxHeartbeats 4000000 in
set_option maxRecDepth 100000 in
theorem k_Mod_openPage (l : Launch) (dC : Nat → ClassId) (dI : Nat → Nat → Nat) (cI cB cJ cZ : ClassId) (ad : Nat → Nat) (sz : Nat) (l1 : Int32) (l2 : Int32) (l3 : Int32) (x : St) {post : St → Prop} (hw : wp_Mod_openPage post l1 l2 l3 x) : Met l y_Mod_openPage (wsOf y_Mod_openPage b_Mod_openPage 8 (none)) ({ frames := 8, cells := 0, slots := 0, locals := 204 }) (va_Pc [.ref (ad 0), .int l1, .int l2, .int l3] (PW dC dI cI cB cJ cZ ad stM kcM 115 sz x)) (va_Qv (fun (y : St) => post y) (fun y t => Wd dC dI cI cB cJ cZ ad stM kcM 115 (va_A (pic ad stM kcM 115 cI cB cJ cZ x) sz) y t.heap) (va_A (pic ad stM kcM 115 cI cB cJ cZ x) sz)) 0 0 (va_A (pic ad stM kcM 115 cI cB cJ cZ x) sz) := by
  refine Met.ofW (cc := b_Mod_openPage) (maxL := 8) (ret := none) (by decide) rfl ?_
  intro p e s m args below meth c s₁ B hml hv
  obtain ⟨rfl, hsz, hW0, hK, hN⟩ := hv
  have hx := B.exec
  have hb := B.bytes
  have hr := B.returns
  have hts := atoms_spec B.pre
  have hT : ∀ w ∈ TG, w.before _ s = true := fun w h => hts w (List.mem_cons_of_mem _ h)
  have hown : s.vm.findClass R_Mod = some m.cls := findClass_of_methodNamed B.named
  have hlocks := B.notSynchronized
  subst hsz
  have hW : Wd dC dI cI cB cJ cZ ad stM kcM 115 (va_A (pic ad stM kcM 115 cI cB cJ cZ x) s.heap.size) x s.heap := ⟨hW0.1, hW0.2.1.self (sz := s.heap.size), hW0.2.2⟩
  generalize hAe : va_A (pic ad stM kcM 115 cI cB cJ cZ x) s.heap.size = A at hW ⊢
  have hA : ∀ q : Nat, s.heap.size ≤ q → A q := fun q h => by rw [← hAe]; exact Or.inr h
  have hS : va_S A s.heap s.heap [] := va_S.rf
  have hl := lv_entry ([.ref (ad 0), .int l1, .int l2, .int l3]) (n := 8) (Nat.le_of_ble_eq_true rfl)
  rw [lg_entry_eq]
  generalize (lg_sl ([.ref (ad 0), .int l1, .int l2, .int l3]) ++ List.replicate (8 - (lg_sl ([.ref (ad 0), .int l1, .int l2, .int l3])).length) Slot.unset).toArray = ls at hl ⊢
  have hl : lv_has ls 8 [(0, .ref (ad 0)), (1, .int l1), (2, .int l2), (3, .int l3)] := hl
  exact t_Mod_openPage_e hx hb hml hown hT hK hN hA (Nat.le_refl 0) (Nat.le_refl 0) (Nat.le_refl 8) (Nat.le_refl 204) (fun x H locs pc ls hd hp hW hS => W.vret hx hb hr (fun t ht hM => ⟨⟨x, rfl, hp, Wd.back hW ht.symm (fun _ z => z)⟩, hS.F ht⟩) hS.2.2 hd hlocks)  l1 l2 l3 x _ _ ls  hw hW hS hl
end
