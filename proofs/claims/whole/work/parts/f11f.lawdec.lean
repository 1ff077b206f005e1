theorem d_law_23 : decode b_law 23 = .ok (.isub, 1) := by decide +kernel
theorem d_law_24 : decode b_law 24 = .ok (.if_icmp .gt 685, 3) := by decide +kernel
theorem d_law_709 : decode b_law 709 = .ok (.iconst 1, 1) := by decide +kernel
theorem d_law_710 : decode b_law 710 = .ok (.ireturn, 1) := by decide +kernel
theorem d_law_703 : decode b_law 703 = .ok (.iinc 3 6, 3) := by decide +kernel
theorem d_law_706 : decode b_law 706 = .ok (.goto (-688), 3) := by decide +kernel
theorem d_law_27 : decode b_law 27 = .ok (.aload_n 0, 1) := by decide +kernel
theorem d_law_28 : decode b_law 28 = .ok (.iload_n 3, 1) := by decide +kernel
theorem d_law_29 : decode b_law 29 = .ok (.iaload, 1) := by decide +kernel
theorem d_law_30 : decode b_law 30 = .ok (.bipush 31, 2) := by decide +kernel
theorem d_law_32 : decode b_law 32 = .ok (.iand, 1) := by decide +kernel
theorem d_law_33 : decode b_law 33 = .ok (.tableswitch 670 0 23 #[111, 174, 197, 210, 223, 236, 247, 280, 291, 304, 327, 360, 373, 396, 419, 442, 455, 468, 491, 514, 547, 581, 624, 647], 111) := by decide +kernel
theorem d_law_0 : decode b_law 0 = .ok (.new 7, 3) := by decide +kernel
theorem d_law_3 : decode b_law 3 = .ok (.dup, 1) := by decide +kernel
theorem d_law_4 : decode b_law 4 = .ok (.invokespecial 9, 3) := by decide +kernel
theorem d_law_7 : decode b_law 7 = .ok (.astore_n 1, 1) := by decide +kernel
theorem d_law_8 : decode b_law 8 = .ok (.new 10, 3) := by decide +kernel
theorem d_law_11 : decode b_law 11 = .ok (.dup, 1) := by decide +kernel
theorem d_law_12 : decode b_law 12 = .ok (.invokespecial 12, 3) := by decide +kernel
theorem d_law_15 : decode b_law 15 = .ok (.astore_n 2, 1) := by decide +kernel
theorem d_law_16 : decode b_law 16 = .ok (.iconst 0, 1) := by decide +kernel
theorem d_law_17 : decode b_law 17 = .ok (.istore_n 3, 1) := by decide +kernel
