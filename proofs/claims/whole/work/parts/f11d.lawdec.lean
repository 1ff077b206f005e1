theorem d_law_501 : decode b_law 501 = .ok (.aload_n 1, 1) := by decide +kernel
theorem d_law_502 : decode b_law 502 = .ok (.aload_n 0, 1) := by decide +kernel
theorem d_law_503 : decode b_law 503 = .ok (.iload_n 3, 1) := by decide +kernel
theorem d_law_504 : decode b_law 504 = .ok (.iconst 1, 1) := by decide +kernel
theorem d_law_505 : decode b_law 505 = .ok (.iadd, 1) := by decide +kernel
theorem d_law_506 : decode b_law 506 = .ok (.iaload, 1) := by decide +kernel
theorem d_law_507 : decode b_law 507 = .ok (.invokevirtual 87, 3) := by decide +kernel
theorem d_law_510 : decode b_law 510 = .ok (.aload_n 2, 1) := by decide +kernel
theorem d_law_511 : decode b_law 511 = .ok (.aload_n 0, 1) := by decide +kernel
theorem d_law_512 : decode b_law 512 = .ok (.iload_n 3, 1) := by decide +kernel
theorem d_law_513 : decode b_law 513 = .ok (.iconst 1, 1) := by decide +kernel
theorem d_law_514 : decode b_law 514 = .ok (.iadd, 1) := by decide +kernel
theorem d_law_515 : decode b_law 515 = .ok (.iaload, 1) := by decide +kernel
theorem d_law_516 : decode b_law 516 = .ok (.invokevirtual 90, 3) := by decide +kernel
theorem d_law_519 : decode b_law 519 = .ok (.if_icmp .eq 184, 3) := by decide +kernel
theorem d_law_524 : decode b_law 524 = .ok (.aload_n 1, 1) := by decide +kernel
theorem d_law_525 : decode b_law 525 = .ok (.aload_n 0, 1) := by decide +kernel
theorem d_law_526 : decode b_law 526 = .ok (.iload_n 3, 1) := by decide +kernel
theorem d_law_527 : decode b_law 527 = .ok (.iconst 1, 1) := by decide +kernel
theorem d_law_528 : decode b_law 528 = .ok (.iadd, 1) := by decide +kernel
theorem d_law_529 : decode b_law 529 = .ok (.iaload, 1) := by decide +kernel
theorem d_law_530 : decode b_law 530 = .ok (.invokevirtual 91, 3) := by decide +kernel
theorem d_law_533 : decode b_law 533 = .ok (.aload_n 2, 1) := by decide +kernel
theorem d_law_534 : decode b_law 534 = .ok (.aload_n 0, 1) := by decide +kernel
theorem d_law_535 : decode b_law 535 = .ok (.iload_n 3, 1) := by decide +kernel
theorem d_law_536 : decode b_law 536 = .ok (.iconst 1, 1) := by decide +kernel
theorem d_law_537 : decode b_law 537 = .ok (.iadd, 1) := by decide +kernel
theorem d_law_538 : decode b_law 538 = .ok (.iaload, 1) := by decide +kernel
theorem d_law_539 : decode b_law 539 = .ok (.invokevirtual 94, 3) := by decide +kernel
theorem d_law_542 : decode b_law 542 = .ok (.if_icmp .eq 161, 3) := by decide +kernel
theorem d_law_547 : decode b_law 547 = .ok (.aload_n 1, 1) := by decide +kernel
theorem d_law_548 : decode b_law 548 = .ok (.aload_n 0, 1) := by decide +kernel
theorem d_law_549 : decode b_law 549 = .ok (.iload_n 3, 1) := by decide +kernel
theorem d_law_550 : decode b_law 550 = .ok (.iconst 1, 1) := by decide +kernel
theorem d_law_551 : decode b_law 551 = .ok (.iadd, 1) := by decide +kernel
theorem d_law_552 : decode b_law 552 = .ok (.iaload, 1) := by decide +kernel
theorem d_law_553 : decode b_law 553 = .ok (.aload_n 0, 1) := by decide +kernel
theorem d_law_554 : decode b_law 554 = .ok (.iload_n 3, 1) := by decide +kernel
theorem d_law_555 : decode b_law 555 = .ok (.iconst 2, 1) := by decide +kernel
theorem d_law_556 : decode b_law 556 = .ok (.iadd, 1) := by decide +kernel
theorem d_law_557 : decode b_law 557 = .ok (.iaload, 1) := by decide +kernel
theorem d_law_558 : decode b_law 558 = .ok (.invokevirtual 95, 3) := by decide +kernel
theorem d_law_561 : decode b_law 561 = .ok (.aload_n 2, 1) := by decide +kernel
theorem d_law_562 : decode b_law 562 = .ok (.aload_n 0, 1) := by decide +kernel
theorem d_law_563 : decode b_law 563 = .ok (.iload_n 3, 1) := by decide +kernel
theorem d_law_564 : decode b_law 564 = .ok (.iconst 1, 1) := by decide +kernel
theorem d_law_565 : decode b_law 565 = .ok (.iadd, 1) := by decide +kernel
theorem d_law_566 : decode b_law 566 = .ok (.iaload, 1) := by decide +kernel
theorem d_law_567 : decode b_law 567 = .ok (.aload_n 0, 1) := by decide +kernel
theorem d_law_568 : decode b_law 568 = .ok (.iload_n 3, 1) := by decide +kernel
theorem d_law_569 : decode b_law 569 = .ok (.iconst 2, 1) := by decide +kernel
theorem d_law_570 : decode b_law 570 = .ok (.iadd, 1) := by decide +kernel
theorem d_law_571 : decode b_law 571 = .ok (.iaload, 1) := by decide +kernel
theorem d_law_572 : decode b_law 572 = .ok (.invokevirtual 98, 3) := by decide +kernel
theorem d_law_575 : decode b_law 575 = .ok (.if_icmp .eq 128, 3) := by decide +kernel
theorem d_law_580 : decode b_law 580 = .ok (.aload_n 1, 1) := by decide +kernel
theorem d_law_581 : decode b_law 581 = .ok (.aload_n 0, 1) := by decide +kernel
theorem d_law_582 : decode b_law 582 = .ok (.iload_n 3, 1) := by decide +kernel
theorem d_law_583 : decode b_law 583 = .ok (.iconst 1, 1) := by decide +kernel
theorem d_law_584 : decode b_law 584 = .ok (.iadd, 1) := by decide +kernel
theorem d_law_585 : decode b_law 585 = .ok (.iaload, 1) := by decide +kernel
theorem d_law_586 : decode b_law 586 = .ok (.aload_n 0, 1) := by decide +kernel
theorem d_law_587 : decode b_law 587 = .ok (.iload_n 3, 1) := by decide +kernel
theorem d_law_588 : decode b_law 588 = .ok (.iconst 2, 1) := by decide +kernel
theorem d_law_589 : decode b_law 589 = .ok (.iadd, 1) := by decide +kernel
theorem d_law_590 : decode b_law 590 = .ok (.iaload, 1) := by decide +kernel
theorem d_law_591 : decode b_law 591 = .ok (.invokevirtual 99, 3) := by decide +kernel
theorem d_law_594 : decode b_law 594 = .ok (.aload_n 2, 1) := by decide +kernel
theorem d_law_595 : decode b_law 595 = .ok (.aload_n 0, 1) := by decide +kernel
theorem d_law_596 : decode b_law 596 = .ok (.iload_n 3, 1) := by decide +kernel
theorem d_law_597 : decode b_law 597 = .ok (.iconst 1, 1) := by decide +kernel
theorem d_law_598 : decode b_law 598 = .ok (.iadd, 1) := by decide +kernel
theorem d_law_599 : decode b_law 599 = .ok (.iaload, 1) := by decide +kernel
theorem d_law_600 : decode b_law 600 = .ok (.aload_n 0, 1) := by decide +kernel
theorem d_law_601 : decode b_law 601 = .ok (.iload_n 3, 1) := by decide +kernel
