theorem d_law_691 : decode b_law 691 = .ok (.iload_n 3, 1) := by decide +kernel
theorem d_law_692 : decode b_law 692 = .ok (.iconst 1, 1) := by decide +kernel
theorem d_law_693 : decode b_law 693 = .ok (.iadd, 1) := by decide +kernel
theorem d_law_694 : decode b_law 694 = .ok (.iaload, 1) := by decide +kernel
theorem d_law_695 : decode b_law 695 = .ok (.invokevirtual 116, 3) := by decide +kernel
theorem d_law_698 : decode b_law 698 = .ok (.if_icmp .eq 5, 3) := by decide +kernel
theorem d_law_0 : decode b_law 0 = .ok (.new 7, 3) := by decide +kernel
theorem d_law_3 : decode b_law 3 = .ok (.dup, 1) := by decide +kernel
theorem d_law_4 : decode b_law 4 = .ok (.invokespecial 9, 3) := by decide +kernel
theorem d_law_7 : decode b_law 7 = .ok (.astore_n 1, 1) := by decide +kernel
theorem d_law_8 : decode b_law 8 = .ok (.new 10, 3) := by decide +kernel
theorem d_law_11 : decode b_law 11 = .ok (.dup, 1) := by decide +kernel
theorem d_law_12 : decode b_law 12 = .ok (.invokespecial 12, 3) := by decide +kernel
theorem d_law_15 : decode b_law 15 = .ok (.astore_n 2, 1) := by decide +kernel
theorem d_law_16 : decode b_law 16 = .ok (.iconst 0, 1) := by decide +kernel
theorem d_law_17 : decode b_law 17 = .ok (.istore_n 3, 1) := by decide +kernel
theorem d_law_27 : decode b_law 27 = .ok (.aload_n 0, 1) := by decide +kernel
theorem d_law_28 : decode b_law 28 = .ok (.iload_n 3, 1) := by decide +kernel
theorem d_law_29 : decode b_law 29 = .ok (.iaload, 1) := by decide +kernel
theorem d_law_30 : decode b_law 30 = .ok (.bipush 31, 2) := by decide +kernel
theorem d_law_32 : decode b_law 32 = .ok (.iand, 1) := by decide +kernel
theorem d_law_33 : decode b_law 33 = .ok (.tableswitch 670 0 23 #[111, 174, 197, 210, 223, 236, 247, 280, 291, 304, 327, 360, 373, 396, 419, 442, 455, 468, 491, 514, 547, 581, 624, 647], 111) := by decide +kernel
theorem d_law_205 : decode b_law 205 = .ok (.iconst 0, 1) := by decide +kernel
theorem d_law_228 : decode b_law 228 = .ok (.iconst 0, 1) := by decide +kernel
theorem d_law_241 : decode b_law 241 = .ok (.iconst 0, 1) := by decide +kernel
theorem d_law_254 : decode b_law 254 = .ok (.iconst 0, 1) := by decide +kernel
theorem d_law_267 : decode b_law 267 = .ok (.iconst 0, 1) := by decide +kernel
theorem d_law_311 : decode b_law 311 = .ok (.iconst 0, 1) := by decide +kernel
theorem d_law_335 : decode b_law 335 = .ok (.iconst 0, 1) := by decide +kernel
theorem d_law_358 : decode b_law 358 = .ok (.iconst 0, 1) := by decide +kernel
theorem d_law_391 : decode b_law 391 = .ok (.iconst 0, 1) := by decide +kernel
theorem d_law_404 : decode b_law 404 = .ok (.iconst 0, 1) := by decide +kernel
theorem d_law_427 : decode b_law 427 = .ok (.iconst 0, 1) := by decide +kernel
theorem d_law_450 : decode b_law 450 = .ok (.iconst 0, 1) := by decide +kernel
theorem d_law_473 : decode b_law 473 = .ok (.iconst 0, 1) := by decide +kernel
theorem d_law_486 : decode b_law 486 = .ok (.iconst 0, 1) := by decide +kernel
theorem d_law_499 : decode b_law 499 = .ok (.iconst 0, 1) := by decide +kernel
theorem d_law_522 : decode b_law 522 = .ok (.iconst 0, 1) := by decide +kernel
theorem d_law_545 : decode b_law 545 = .ok (.iconst 0, 1) := by decide +kernel
theorem d_law_578 : decode b_law 578 = .ok (.iconst 0, 1) := by decide +kernel
theorem d_law_612 : decode b_law 612 = .ok (.iconst 0, 1) := by decide +kernel
theorem d_law_655 : decode b_law 655 = .ok (.iconst 0, 1) := by decide +kernel
theorem d_law_678 : decode b_law 678 = .ok (.iconst 0, 1) := by decide +kernel
theorem d_law_701 : decode b_law 701 = .ok (.iconst 0, 1) := by decide +kernel
