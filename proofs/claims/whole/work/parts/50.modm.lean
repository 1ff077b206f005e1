theorem w_11_183 : (Jvm.Cond.methodLink "StripedVaultModel" (647 : Nat) ({ cls := "StripedVaultModel", name := "writeRuns", desc := "([III)V" } : Jvm.MethodName)) ∈ TG := tw_11 183 (by decide +kernel) (by decide +kernel)
theorem w_11_185 : (Jvm.Cond.instanceMethod ({ cls := "StripedVaultModel", name := "writeRuns", desc := "([III)V" } : Jvm.MethodName)) ∈ TG := tw_11 185 (by decide +kernel) (by decide +kernel)
theorem w_11_186 : (Jvm.Cond.code ({ cls := "StripedVaultModel", name := "writeRuns", desc := "([III)V" } : Jvm.MethodName) prog_14_method_52_code (11 : Nat) (Option.none : Option Jvm.ClassFile.FieldType)) ∈ TG := tw_11 186 (by decide +kernel) (by decide +kernel)
theorem w_11_219 : (Jvm.Cond.constantLong "StripedVaultModel" (586 : Nat) (-2 : Int64)) ∈ TG := tw_11 219 (by decide +kernel) (by decide +kernel)
theorem w_11_220 : (Jvm.Cond.methodLink "StripedVaultModel" (598 : Nat) ({ cls := "StripedVaultModel", name := "difference", desc := "(I)J" } : Jvm.MethodName)) ∈ TG := tw_11 220 (by decide +kernel) (by decide +kernel)
theorem w_11_222 : (Jvm.Cond.instanceMethod ({ cls := "StripedVaultModel", name := "difference", desc := "(I)J" } : Jvm.MethodName)) ∈ TG := tw_11 222 (by decide +kernel) (by decide +kernel)
theorem w_11_223 : (Jvm.Cond.code ({ cls := "StripedVaultModel", name := "difference", desc := "(I)J" } : Jvm.MethodName) prog_14_method_60_code (2 : Nat) (Option.some Jvm.ClassFile.FieldType.long)) ∈ TG := tw_11 223 (by decide +kernel) (by decide +kernel)
theorem ws_151 : Cond.selects R_Mod y_Mod_writeRuns y_Mod_writeRuns ∈ TG := tw_s 151 (by decide +kernel) (by decide +kernel)
theorem ws_158 : Cond.selects R_Mod y_Mod_difference y_Mod_difference ∈ TG := tw_s 158 (by decide +kernel) (by decide +kernel)
theorem d_Mod_writeBools_105 : decode b_Mod_writeBools 105 = .ok (.aload_n 0, 1) := by decide +kernel
theorem d_Mod_writeBools_106 : decode b_Mod_writeBools 106 = .ok (.iload_n 3, 1) := by decide +kernel
theorem d_Mod_writeBools_107 : decode b_Mod_writeBools 107 = .ok (.invokevirtual 558, 3) := by decide +kernel
theorem d_Mod_writeBools_110 : decode b_Mod_writeBools 110 = .ok (.iinc 2 8, 3) := by decide +kernel
theorem d_Mod_writeBools_113 : decode b_Mod_writeBools 113 = .ok (.goto (-64), 3) := by decide +kernel
theorem d_Mod_writeBools_66 : decode b_Mod_writeBools 66 = .ok (.iload 4, 2) := by decide +kernel
theorem d_Mod_writeBools_68 : decode b_Mod_writeBools 68 = .ok (.bipush 8, 2) := by decide +kernel
theorem d_Mod_writeBools_70 : decode b_Mod_writeBools 70 = .ok (.if_icmp .ge 35, 3) := by decide +kernel
theorem d_Mod_writeBools_73 : decode b_Mod_writeBools 73 = .ok (.iload_n 2, 1) := by decide +kernel
theorem d_Mod_writeBools_74 : decode b_Mod_writeBools 74 = .ok (.iload 4, 2) := by decide +kernel
theorem d_Mod_writeBools_76 : decode b_Mod_writeBools 76 = .ok (.iadd, 1) := by decide +kernel
theorem d_Mod_writeBools_77 : decode b_Mod_writeBools 77 = .ok (.aload_n 0, 1) := by decide +kernel
theorem d_Mod_writeBools_78 : decode b_Mod_writeBools 78 = .ok (.getfield 632, 3) := by decide +kernel
theorem d_Mod_writeBools_81 : decode b_Mod_writeBools 81 = .ok (.if_icmp .ge 24, 3) := by decide +kernel
theorem d_Mod_writeBools_84 : decode b_Mod_writeBools 84 = .ok (.iload_n 3, 1) := by decide +kernel
theorem d_Mod_writeBools_85 : decode b_Mod_writeBools 85 = .ok (.aload_n 0, 1) := by decide +kernel
theorem d_Mod_writeBools_86 : decode b_Mod_writeBools 86 = .ok (.getfield 142, 3) := by decide +kernel
theorem d_Mod_writeBools_89 : decode b_Mod_writeBools 89 = .ok (.iload_n 2, 1) := by decide +kernel
theorem d_Mod_writeBools_90 : decode b_Mod_writeBools 90 = .ok (.iload 4, 2) := by decide +kernel
theorem d_Mod_writeBools_92 : decode b_Mod_writeBools 92 = .ok (.iadd, 1) := by decide +kernel
theorem d_Mod_writeBools_93 : decode b_Mod_writeBools 93 = .ok (.iaload, 1) := by decide +kernel
theorem d_Mod_writeBools_94 : decode b_Mod_writeBools 94 = .ok (.iload 4, 2) := by decide +kernel
theorem d_Mod_writeBools_96 : decode b_Mod_writeBools 96 = .ok (.ishl, 1) := by decide +kernel
theorem d_Mod_writeBools_97 : decode b_Mod_writeBools 97 = .ok (.ior, 1) := by decide +kernel
theorem d_Mod_writeBools_98 : decode b_Mod_writeBools 98 = .ok (.istore_n 3, 1) := by decide +kernel
theorem d_Mod_writeBools_99 : decode b_Mod_writeBools 99 = .ok (.iinc 4 1, 3) := by decide +kernel
theorem d_Mod_writeBools_102 : decode b_Mod_writeBools 102 = .ok (.goto (-36), 3) := by decide +kernel
theorem d_Mod_writeBools_49 : decode b_Mod_writeBools 49 = .ok (.iload_n 2, 1) := by decide +kernel
theorem d_Mod_writeBools_50 : decode b_Mod_writeBools 50 = .ok (.aload_n 0, 1) := by decide +kernel
theorem d_Mod_writeBools_51 : decode b_Mod_writeBools 51 = .ok (.getfield 632, 3) := by decide +kernel
theorem d_Mod_writeBools_54 : decode b_Mod_writeBools 54 = .ok (.if_icmp .ge 62, 3) := by decide +kernel
theorem d_Mod_writeBools_116 : decode b_Mod_writeBools 116 = .ok (.return_, 1) := by decide +kernel
theorem d_Mod_writeBools_57 : decode b_Mod_writeBools 57 = .ok (.iload_n 1, 1) := by decide +kernel
theorem d_Mod_writeBools_58 : decode b_Mod_writeBools 58 = .ok (.ifCond .ne 58, 3) := by decide +kernel
theorem d_Mod_writeBools_61 : decode b_Mod_writeBools 61 = .ok (.iconst 0, 1) := by decide +kernel
theorem d_Mod_writeBools_62 : decode b_Mod_writeBools 62 = .ok (.istore_n 3, 1) := by decide +kernel
theorem d_Mod_writeBools_63 : decode b_Mod_writeBools 63 = .ok (.iconst 0, 1) := by decide +kernel
theorem d_Mod_writeBools_64 : decode b_Mod_writeBools 64 = .ok (.istore 4, 2) := by decide +kernel
theorem d_Mod_writeBools_47 : decode b_Mod_writeBools 47 = .ok (.iconst 0, 1) := by decide +kernel
theorem d_Mod_writeBools_48 : decode b_Mod_writeBools 48 = .ok (.istore_n 2, 1) := by decide +kernel
theorem d_Mod_writeBools_2 : decode b_Mod_writeBools 2 = .ok (.iload_n 2, 1) := by decide +kernel
theorem d_Mod_writeBools_3 : decode b_Mod_writeBools 3 = .ok (.aload_n 0, 1) := by decide +kernel
theorem d_Mod_writeBools_4 : decode b_Mod_writeBools 4 = .ok (.getfield 632, 3) := by decide +kernel
theorem d_Mod_writeBools_7 : decode b_Mod_writeBools 7 = .ok (.if_icmp .ge 22, 3) := by decide +kernel
theorem d_Mod_writeBools_29 : decode b_Mod_writeBools 29 = .ok (.iload_n 1, 1) := by decide +kernel
theorem d_Mod_writeBools_30 : decode b_Mod_writeBools 30 = .ok (.iconst 1, 1) := by decide +kernel
theorem d_Mod_writeBools_31 : decode b_Mod_writeBools 31 = .ok (.if_icmp .ne 16, 3) := by decide +kernel
theorem d_Mod_writeBools_34 : decode b_Mod_writeBools 34 = .ok (.aload_n 0, 1) := by decide +kernel
theorem d_Mod_writeBools_35 : decode b_Mod_writeBools 35 = .ok (.aload_n 0, 1) := by decide +kernel
theorem d_Mod_writeBools_36 : decode b_Mod_writeBools 36 = .ok (.getfield 142, 3) := by decide +kernel
theorem d_Mod_writeBools_39 : decode b_Mod_writeBools 39 = .ok (.aload_n 0, 1) := by decide +kernel
theorem d_Mod_writeBools_40 : decode b_Mod_writeBools 40 = .ok (.getfield 632, 3) := by decide +kernel
theorem d_Mod_writeBools_43 : decode b_Mod_writeBools 43 = .ok (.iconst 1, 1) := by decide +kernel
theorem d_Mod_writeBools_44 : decode b_Mod_writeBools 44 = .ok (.invokevirtual 647, 3) := by decide +kernel
theorem d_Mod_writeBools_10 : decode b_Mod_writeBools 10 = .ok (.aload_n 0, 1) := by decide +kernel
theorem d_Mod_writeBools_11 : decode b_Mod_writeBools 11 = .ok (.getfield 142, 3) := by decide +kernel
theorem d_Mod_writeBools_14 : decode b_Mod_writeBools 14 = .ok (.iload_n 2, 1) := by decide +kernel
theorem d_Mod_writeBools_15 : decode b_Mod_writeBools 15 = .ok (.aload_n 0, 1) := by decide +kernel
theorem d_Mod_writeBools_16 : decode b_Mod_writeBools 16 = .ok (.getfield 100, 3) := by decide +kernel
theorem d_Mod_writeBools_19 : decode b_Mod_writeBools 19 = .ok (.iload_n 2, 1) := by decide +kernel
theorem d_Mod_writeBools_20 : decode b_Mod_writeBools 20 = .ok (.laload, 1) := by decide +kernel
theorem d_Mod_writeBools_21 : decode b_Mod_writeBools 21 = .ok (.l2i, 1) := by decide +kernel
theorem d_Mod_writeBools_22 : decode b_Mod_writeBools 22 = .ok (.iastore, 1) := by decide +kernel
theorem d_Mod_writeBools_23 : decode b_Mod_writeBools 23 = .ok (.iinc 2 1, 3) := by decide +kernel
theorem d_Mod_writeBools_26 : decode b_Mod_writeBools 26 = .ok (.goto (-24), 3) := by decide +kernel
theorem d_Mod_writeBools_0 : decode b_Mod_writeBools 0 = .ok (.iconst 0, 1) := by decide +kernel
theorem d_Mod_writeBools_1 : decode b_Mod_writeBools 1 = .ok (.istore_n 2, 1) := by decide +kernel
theorem d_Mod_wide_0 : decode b_Mod_wide 0 = .ok (.aload_n 0, 1) := by decide +kernel
theorem d_Mod_wide_1 : decode b_Mod_wide 1 = .ok (.getfield 623, 3) := by decide +kernel
theorem d_Mod_wide_4 : decode b_Mod_wide 4 = .ok (.iconst 1, 1) := by decide +kernel
theorem d_Mod_wide_5 : decode b_Mod_wide 5 = .ok (.if_icmp .ne 7, 3) := by decide +kernel
theorem d_Mod_wide_12 : decode b_Mod_wide 12 = .ok (.bipush 8, 2) := by decide +kernel
theorem d_Mod_wide_14 : decode b_Mod_wide 14 = .ok (.ireturn, 1) := by decide +kernel
theorem d_Mod_wide_8 : decode b_Mod_wide 8 = .ok (.iconst 4, 1) := by decide +kernel
theorem d_Mod_wide_9 : decode b_Mod_wide 9 = .ok (.goto 5, 3) := by decide +kernel
theorem d_Mod_putFixed_3 : decode b_Mod_putFixed 3 = .ok (.iload 4, 2) := by decide +kernel
theorem d_Mod_putFixed_5 : decode b_Mod_putFixed 5 = .ok (.iload_n 3, 1) := by decide +kernel
theorem d_Mod_putFixed_6 : decode b_Mod_putFixed 6 = .ok (.if_icmp .ge 21, 3) := by decide +kernel
theorem d_Mod_putFixed_27 : decode b_Mod_putFixed 27 = .ok (.return_, 1) := by decide +kernel
theorem d_Mod_putFixed_9 : decode b_Mod_putFixed 9 = .ok (.aload_n 0, 1) := by decide +kernel
theorem d_Mod_putFixed_10 : decode b_Mod_putFixed 10 = .ok (.lload_n 1, 1) := by decide +kernel
theorem d_Mod_putFixed_11 : decode b_Mod_putFixed 11 = .ok (.bipush 8, 2) := by decide +kernel
theorem d_Mod_putFixed_13 : decode b_Mod_putFixed 13 = .ok (.iload 4, 2) := by decide +kernel
theorem d_Mod_putFixed_15 : decode b_Mod_putFixed 15 = .ok (.imul, 1) := by decide +kernel
theorem d_Mod_putFixed_16 : decode b_Mod_putFixed 16 = .ok (.lushr, 1) := by decide +kernel
theorem d_Mod_putFixed_17 : decode b_Mod_putFixed 17 = .ok (.l2i, 1) := by decide +kernel
theorem d_Mod_putFixed_18 : decode b_Mod_putFixed 18 = .ok (.invokevirtual 558, 3) := by decide +kernel
theorem d_Mod_putFixed_21 : decode b_Mod_putFixed 21 = .ok (.iinc 4 1, 3) := by decide +kernel
theorem d_Mod_putFixed_24 : decode b_Mod_putFixed 24 = .ok (.goto (-21), 3) := by decide +kernel
theorem d_Mod_putFixed_0 : decode b_Mod_putFixed 0 = .ok (.iconst 0, 1) := by decide +kernel
theorem d_Mod_putFixed_1 : decode b_Mod_putFixed 1 = .ok (.istore 4, 2) := by decide +kernel
theorem d_Mod_zigzag_0 : decode b_Mod_zigzag 0 = .ok (.lload_n 0, 1) := by decide +kernel
theorem d_Mod_zigzag_1 : decode b_Mod_zigzag 1 = .ok (.lconst 0, 1) := by decide +kernel
theorem d_Mod_zigzag_2 : decode b_Mod_zigzag 2 = .ok (.lcmp, 1) := by decide +kernel
theorem d_Mod_zigzag_3 : decode b_Mod_zigzag 3 = .ok (.ifCond .ge 13, 3) := by decide +kernel
theorem d_Mod_zigzag_16 : decode b_Mod_zigzag 16 = .ok (.ldc2_w 565, 3) := by decide +kernel
theorem d_Mod_zigzag_19 : decode b_Mod_zigzag 19 = .ok (.lload_n 0, 1) := by decide +kernel
theorem d_Mod_zigzag_20 : decode b_Mod_zigzag 20 = .ok (.lmul, 1) := by decide +kernel
theorem d_Mod_zigzag_21 : decode b_Mod_zigzag 21 = .ok (.lreturn, 1) := by decide +kernel
theorem d_Mod_zigzag_6 : decode b_Mod_zigzag 6 = .ok (.ldc2_w 586, 3) := by decide +kernel
theorem d_Mod_zigzag_9 : decode b_Mod_zigzag 9 = .ok (.lload_n 0, 1) := by decide +kernel
theorem d_Mod_zigzag_10 : decode b_Mod_zigzag 10 = .ok (.lmul, 1) := by decide +kernel
theorem d_Mod_zigzag_11 : decode b_Mod_zigzag 11 = .ok (.lconst 1, 1) := by decide +kernel
theorem d_Mod_zigzag_12 : decode b_Mod_zigzag 12 = .ok (.lsub, 1) := by decide +kernel
theorem d_Mod_zigzag_13 : decode b_Mod_zigzag 13 = .ok (.goto 8, 3) := by decide +kernel
theorem d_Mod_difference_0 : decode b_Mod_difference 0 = .ok (.aload_n 0, 1) := by decide +kernel
theorem d_Mod_difference_1 : decode b_Mod_difference 1 = .ok (.getfield 139, 3) := by decide +kernel
theorem d_Mod_difference_4 : decode b_Mod_difference 4 = .ok (.iload_n 1, 1) := by decide +kernel
theorem d_Mod_difference_5 : decode b_Mod_difference 5 = .ok (.iconst 1, 1) := by decide +kernel
theorem d_Mod_difference_6 : decode b_Mod_difference 6 = .ok (.iadd, 1) := by decide +kernel
theorem d_Mod_difference_7 : decode b_Mod_difference 7 = .ok (.laload, 1) := by decide +kernel
theorem d_Mod_difference_8 : decode b_Mod_difference 8 = .ok (.aload_n 0, 1) := by decide +kernel
theorem d_Mod_difference_9 : decode b_Mod_difference 9 = .ok (.getfield 139, 3) := by decide +kernel
theorem d_Mod_difference_12 : decode b_Mod_difference 12 = .ok (.iload_n 1, 1) := by decide +kernel
theorem d_Mod_difference_13 : decode b_Mod_difference 13 = .ok (.laload, 1) := by decide +kernel
theorem d_Mod_difference_14 : decode b_Mod_difference 14 = .ok (.lsub, 1) := by decide +kernel
theorem d_Mod_difference_15 : decode b_Mod_difference 15 = .ok (.lreturn, 1) := by decide +kernel
theorem d_Mod_widthOf_56 : decode b_Mod_widthOf 56 = .ok (.iload 5, 2) := by decide +kernel
theorem d_Mod_widthOf_58 : decode b_Mod_widthOf 58 = .ok (.ireturn, 1) := by decide +kernel
theorem d_Mod_widthOf_50 : decode b_Mod_widthOf 50 = .ok (.iinc 6 1, 3) := by decide +kernel
theorem d_Mod_widthOf_53 : decode b_Mod_widthOf 53 = .ok (.goto (-47), 3) := by decide +kernel
theorem d_Mod_widthOf_21 : decode b_Mod_widthOf 21 = .ok (.iload 5, 2) := by decide +kernel
theorem d_Mod_widthOf_23 : decode b_Mod_widthOf 23 = .ok (.bipush 64, 2) := by decide +kernel
theorem d_Mod_widthOf_25 : decode b_Mod_widthOf 25 = .ok (.if_icmp .ge 25, 3) := by decide +kernel
theorem d_Mod_widthOf_28 : decode b_Mod_widthOf 28 = .ok (.aload_n 0, 1) := by decide +kernel
theorem d_Mod_widthOf_29 : decode b_Mod_widthOf 29 = .ok (.iload 6, 2) := by decide +kernel
theorem d_Mod_widthOf_31 : decode b_Mod_widthOf 31 = .ok (.invokevirtual 598, 3) := by decide +kernel
theorem d_Mod_widthOf_34 : decode b_Mod_widthOf 34 = .ok (.lload_n 3, 1) := by decide +kernel
theorem d_Mod_widthOf_35 : decode b_Mod_widthOf 35 = .ok (.lsub, 1) := by decide +kernel
theorem d_Mod_widthOf_36 : decode b_Mod_widthOf 36 = .ok (.iload 5, 2) := by decide +kernel
theorem d_Mod_widthOf_38 : decode b_Mod_widthOf 38 = .ok (.lushr, 1) := by decide +kernel
theorem d_Mod_widthOf_39 : decode b_Mod_widthOf 39 = .ok (.lconst 0, 1) := by decide +kernel
theorem d_Mod_widthOf_40 : decode b_Mod_widthOf 40 = .ok (.lcmp, 1) := by decide +kernel
theorem d_Mod_widthOf_41 : decode b_Mod_widthOf 41 = .ok (.ifCond .eq 9, 3) := by decide +kernel
theorem d_Mod_widthOf_44 : decode b_Mod_widthOf 44 = .ok (.iinc 5 1, 3) := by decide +kernel
theorem d_Mod_widthOf_47 : decode b_Mod_widthOf 47 = .ok (.goto (-26), 3) := by decide +kernel
theorem d_Mod_widthOf_6 : decode b_Mod_widthOf 6 = .ok (.iload 6, 2) := by decide +kernel
theorem d_Mod_widthOf_8 : decode b_Mod_widthOf 8 = .ok (.iload_n 1, 1) := by decide +kernel
theorem d_Mod_widthOf_9 : decode b_Mod_widthOf 9 = .ok (.bipush 16, 2) := by decide +kernel
theorem d_Mod_widthOf_11 : decode b_Mod_widthOf 11 = .ok (.iadd, 1) := by decide +kernel
theorem d_Mod_widthOf_12 : decode b_Mod_widthOf 12 = .ok (.if_icmp .ge 44, 3) := by decide +kernel
theorem d_Mod_widthOf_15 : decode b_Mod_widthOf 15 = .ok (.iload 6, 2) := by decide +kernel
theorem d_Mod_widthOf_17 : decode b_Mod_widthOf 17 = .ok (.iload_n 2, 1) := by decide +kernel
theorem d_Mod_widthOf_18 : decode b_Mod_widthOf 18 = .ok (.if_icmp .ge 38, 3) := by decide +kernel
theorem d_Mod_widthOf_0 : decode b_Mod_widthOf 0 = .ok (.iconst 0, 1) := by decide +kernel
theorem d_Mod_widthOf_1 : decode b_Mod_widthOf 1 = .ok (.istore 5, 2) := by decide +kernel
theorem d_Mod_widthOf_3 : decode b_Mod_widthOf 3 = .ok (.iload_n 1, 1) := by decide +kernel
theorem d_Mod_widthOf_4 : decode b_Mod_widthOf 4 = .ok (.istore 6, 2) := by decide +kernel
theorem d_Mod_writePart_72 : decode b_Mod_writePart 72 = .ok (.iinc 8 1, 3) := by decide +kernel
theorem d_Mod_writePart_75 : decode b_Mod_writePart 75 = .ok (.goto (-56), 3) := by decide +kernel
theorem d_Mod_writePart_19 : decode b_Mod_writePart 19 = .ok (.iload 8, 2) := by decide +kernel
theorem d_Mod_writePart_21 : decode b_Mod_writePart 21 = .ok (.bipush 8, 2) := by decide +kernel
theorem d_Mod_writePart_23 : decode b_Mod_writePart 23 = .ok (.if_icmp .ge 55, 3) := by decide +kernel
theorem d_Mod_writePart_78 : decode b_Mod_writePart 78 = .ok (.aload_n 0, 1) := by decide +kernel
theorem d_Mod_writePart_79 : decode b_Mod_writePart 79 = .ok (.iload 7, 2) := by decide +kernel
theorem d_Mod_writePart_81 : decode b_Mod_writePart 81 = .ok (.invokevirtual 558, 3) := by decide +kernel
theorem d_Mod_writePart_84 : decode b_Mod_writePart 84 = .ok (.iinc 6 8, 3) := by decide +kernel
theorem d_Mod_writePart_87 : decode b_Mod_writePart 87 = .ok (.goto (-84), 3) := by decide +kernel
theorem d_Mod_writePart_26 : decode b_Mod_writePart 26 = .ok (.iload_n 1, 1) := by decide +kernel
theorem d_Mod_writePart_27 : decode b_Mod_writePart 27 = .ok (.iload 6, 2) := by decide +kernel
theorem d_Mod_writePart_29 : decode b_Mod_writePart 29 = .ok (.iload 8, 2) := by decide +kernel
theorem d_Mod_writePart_31 : decode b_Mod_writePart 31 = .ok (.iadd, 1) := by decide +kernel
theorem d_Mod_writePart_32 : decode b_Mod_writePart 32 = .ok (.iload 5, 2) := by decide +kernel
theorem d_Mod_writePart_34 : decode b_Mod_writePart 34 = .ok (.idiv, 1) := by decide +kernel
theorem d_Mod_writePart_35 : decode b_Mod_writePart 35 = .ok (.iadd, 1) := by decide +kernel
theorem d_Mod_writePart_36 : decode b_Mod_writePart 36 = .ok (.istore 9, 2) := by decide +kernel
theorem d_Mod_writePart_38 : decode b_Mod_writePart 38 = .ok (.iload 9, 2) := by decide +kernel
theorem d_Mod_writePart_40 : decode b_Mod_writePart 40 = .ok (.iload_n 2, 1) := by decide +kernel
theorem d_Mod_writePart_41 : decode b_Mod_writePart 41 = .ok (.if_icmp .ge 31, 3) := by decide +kernel
theorem d_Mod_writePart_44 : decode b_Mod_writePart 44 = .ok (.iload 7, 2) := by decide +kernel
theorem d_Mod_writePart_46 : decode b_Mod_writePart 46 = .ok (.aload_n 0, 1) := by decide +kernel
theorem d_Mod_writePart_47 : decode b_Mod_writePart 47 = .ok (.iload 9, 2) := by decide +kernel
theorem d_Mod_writePart_49 : decode b_Mod_writePart 49 = .ok (.invokevirtual 598, 3) := by decide +kernel
theorem d_Mod_writePart_52 : decode b_Mod_writePart 52 = .ok (.lload_n 3, 1) := by decide +kernel
theorem d_Mod_writePart_53 : decode b_Mod_writePart 53 = .ok (.lsub, 1) := by decide +kernel
theorem d_Mod_writePart_54 : decode b_Mod_writePart 54 = .ok (.iload 6, 2) := by decide +kernel
theorem d_Mod_writePart_56 : decode b_Mod_writePart 56 = .ok (.iload 8, 2) := by decide +kernel
theorem d_Mod_writePart_58 : decode b_Mod_writePart 58 = .ok (.iadd, 1) := by decide +kernel
theorem d_Mod_writePart_59 : decode b_Mod_writePart 59 = .ok (.iload 5, 2) := by decide +kernel
theorem d_Mod_writePart_61 : decode b_Mod_writePart 61 = .ok (.irem, 1) := by decide +kernel
theorem d_Mod_writePart_62 : decode b_Mod_writePart 62 = .ok (.lushr, 1) := by decide +kernel
theorem d_Mod_writePart_63 : decode b_Mod_writePart 63 = .ok (.lconst 1, 1) := by decide +kernel
theorem d_Mod_writePart_64 : decode b_Mod_writePart 64 = .ok (.land, 1) := by decide +kernel
theorem d_Mod_writePart_65 : decode b_Mod_writePart 65 = .ok (.l2i, 1) := by decide +kernel
theorem d_Mod_writePart_66 : decode b_Mod_writePart 66 = .ok (.iload 8, 2) := by decide +kernel
theorem d_Mod_writePart_68 : decode b_Mod_writePart 68 = .ok (.ishl, 1) := by decide +kernel
theorem d_Mod_writePart_69 : decode b_Mod_writePart 69 = .ok (.ior, 1) := by decide +kernel
theorem d_Mod_writePart_70 : decode b_Mod_writePart 70 = .ok (.istore 7, 2) := by decide +kernel
theorem d_Mod_writePart_3 : decode b_Mod_writePart 3 = .ok (.iload 6, 2) := by decide +kernel
theorem d_Mod_writePart_5 : decode b_Mod_writePart 5 = .ok (.bipush 16, 2) := by decide +kernel
theorem d_Mod_writePart_7 : decode b_Mod_writePart 7 = .ok (.iload 5, 2) := by decide +kernel
theorem d_Mod_writePart_9 : decode b_Mod_writePart 9 = .ok (.imul, 1) := by decide +kernel
theorem d_Mod_writePart_10 : decode b_Mod_writePart 10 = .ok (.if_icmp .ge 80, 3) := by decide +kernel
theorem d_Mod_writePart_90 : decode b_Mod_writePart 90 = .ok (.return_, 1) := by decide +kernel
theorem d_Mod_writePart_13 : decode b_Mod_writePart 13 = .ok (.iconst 0, 1) := by decide +kernel
theorem d_Mod_writePart_14 : decode b_Mod_writePart 14 = .ok (.istore 7, 2) := by decide +kernel
theorem d_Mod_writePart_16 : decode b_Mod_writePart 16 = .ok (.iconst 0, 1) := by decide +kernel
theorem d_Mod_writePart_17 : decode b_Mod_writePart 17 = .ok (.istore 8, 2) := by decide +kernel
theorem d_Mod_writePart_0 : decode b_Mod_writePart 0 = .ok (.iconst 0, 1) := by decide +kernel
theorem d_Mod_writePart_1 : decode b_Mod_writePart 1 = .ok (.istore 6, 2) := by decide +kernel
section
variable (l : Launch) (dC : Nat → ClassId) (dI : Nat → Nat → Nat) (cI cB cJ cZ : ClassId)
set_option maxRecDepth 100000 in
set_option maxHeartbeats 4000000 in
set_option maxRecDepth 100000 in
theorem t_Mod_writeBools_105 {p : Program} {l : Launch} {e : Env} {R : Room} {s : State} {m : MethodId} {args : Array Value} {below : List Frame} {meth : Method} {c : Code} {cells slots : Nat} {Q : State → Prop} {dC : Nat → ClassId} {dI : Nat → Nat → Nat} {cI cB cJ cZ : ClassId} {A : Nat → Prop} {ad : Nat → Nat} {post : St → Prop} {rec49 : Int32 → Int32 → St → Prop} (hx : p.tables.exec = Jvm.exec) (hb : c.code = b_Mod_writeBools) (hml : c.maxLocals = 5) (hown : s.vm.findClass R_Mod = some m.cls) (hT : ∀ w ∈ TG, w.before args s = true) (hK : va_K (dC, dI) CL (TY cI cB cJ cZ) s) (hN : NW s) (hA : ∀ q : Nat, s.heap.size ≤ q → A q) (hRc : cells ≤ R.cells) (hRs : slots ≤ R.slots) (hRf : 3 ≤ R.frames) (hRl : 75 ≤ R.locals) (hret : ∀ (x : St) (H : Heap) (locs : List Loc) (pc : Nat) (ls : Array Slot), decode b_Mod_writeBools pc = .ok (.return_, 1) → post x → Wd dC dI cI cB cJ cZ ad stM kcM 115 A x H → va_S A s.heap H locs → W p l e R s m args below meth c H locs cells slots Q (F0 m pc ls [])) (hrec49 : ∀ (l1 : Int32) (l2 : Int32) (x : St) (H : Heap) (locs : List Loc) (ls : Array Slot), rec49 l1 l2 x → Wd dC dI cI cB cJ cZ ad stM kcM 115 A x H → va_S A s.heap H locs → lv_has ls 5 [(0, .ref (ad 0)), (1, .int l1), (2, .int l2)] → W p l e R s m args below meth c H locs cells slots Q (F0 m 49 ls [])) : ∀ (l1 : Int32) (l2 : Int32) (l3 : Int32) (l4 : Int32) (x : St) (H : Heap) (locs : List Loc) (ls : Array Slot), j_Mod_writeBools_105 post rec49 l1 l2 l3 l4 x → Wd dC dI cI cB cJ cZ ad stM kcM 115 A x H → va_S A s.heap H locs → lv_has ls 5 [(0, .ref (ad 0)), (1, .int l1), (2, .int l2), (3, .int l3), (4, .int l4)] → W p l e R s m args below meth c H locs cells slots Q (F0 m 105 ls []) := by
  intro l1 l2 l3 l4 x H locs ls  hw hW hS hl
  unfold j_Mod_writeBools_105 at hw
  refine lv_aload_n hx hb d_Mod_writeBools_105 rfl (lv_at hl 0 rfl) ?_
  refine lv_iload_n hx hb d_Mod_writeBools_106 rfl (lv_at hl 3 rfl) ?_
  have hF := hW.free hS hA
  refine va_callv (va_runV (C := R_Mod) (As := [.int l3]) (rest := []) ⟨hx, hb, hml, hown, hT⟩ (k_Mod_put l dC dI cI cB cJ cZ ad H.size l3 x  hw) ⟨callB_of 1 hT (gwt_in w_11_199) rfl rfl rfl (hT _ w_1_15) (hT _ w_11_196) (by decide +kernel) ⟨Nat.le_trans (Nat.le_of_ble_eq_true rfl) hRf, Nat.le_trans (Nat.le_of_ble_eq_true rfl) hRl⟩, hT _ w_11_198, hT _ ws_153⟩ ⟨PW.blind, va_recv hK hW.1 (ci := 12) (q0 := 0) rfl (pic_obj ko_0.1 ko_0.2 (by decide)), PW.at _ hW hK hN⟩ rfl rfl hl.1 rfl (lv_room (Nat.le_of_ble_eq_true rfl)) d_Mod_writeBools_107 ⟨hRc, hRs⟩) hS (fun q _ h => hF q h) hF (fun  x528 t H locs ht hvm hw hB hz1 hk1 hS => ?_)
  have hW := Wd.back hB ht hF
  clear hB ht hF hz1 hk1 hvm
  refine lv_iinc (v := (l2 + 8)) (lv' := [(2, .int (l2 + 8)), (0, .ref (ad 0)), (1, .int l1), (3, .int l3), (4, .int l4)]) hx hb d_Mod_writeBools_110 hl (k := 2) rfl rfl (by decide) rfl (fun ls hl => ?_)
  refine lv_goto (tgt := 49) hx hb d_Mod_writeBools_113 (by decide) ?_
  exact hrec49 l1 (l2 + 8) x528 H locs ls  hw hW hS (lv_sub hl [1, 2, 0] rfl)
set_option maxRecDepth 100000 in
set_option maxHeartbeats 4000000 in
set_option maxRecDepth 100000 in
theorem t_Mod_writeBools_66 {p : Program} {l : Launch} {e : Env} {R : Room} {s : State} {m : MethodId} {args : Array Value} {below : List Frame} {meth : Method} {c : Code} {cells slots : Nat} {Q : State → Prop} {dC : Nat → ClassId} {dI : Nat → Nat → Nat} {cI cB cJ cZ : ClassId} {A : Nat → Prop} {ad : Nat → Nat} {post : St → Prop} {rec49 : Int32 → Int32 → St → Prop} {rec66 : Int32 → Int32 → Int32 → Int32 → St → Prop} (hx : p.tables.exec = Jvm.exec) (hb : c.code = b_Mod_writeBools) (hml : c.maxLocals = 5) (hown : s.vm.findClass R_Mod = some m.cls) (hT : ∀ w ∈ TG, w.before args s = true) (hK : va_K (dC, dI) CL (TY cI cB cJ cZ) s) (hN : NW s) (hA : ∀ q : Nat, s.heap.size ≤ q → A q) (hRc : cells ≤ R.cells) (hRs : slots ≤ R.slots) (hRf : 3 ≤ R.frames) (hRl : 75 ≤ R.locals) (hret : ∀ (x : St) (H : Heap) (locs : List Loc) (pc : Nat) (ls : Array Slot), decode b_Mod_writeBools pc = .ok (.return_, 1) → post x → Wd dC dI cI cB cJ cZ ad stM kcM 115 A x H → va_S A s.heap H locs → W p l e R s m args below meth c H locs cells slots Q (F0 m pc ls [])) (hrec49 : ∀ (l1 : Int32) (l2 : Int32) (x : St) (H : Heap) (locs : List Loc) (ls : Array Slot), rec49 l1 l2 x → Wd dC dI cI cB cJ cZ ad stM kcM 115 A x H → va_S A s.heap H locs → lv_has ls 5 [(0, .ref (ad 0)), (1, .int l1), (2, .int l2)] → W p l e R s m args below meth c H locs cells slots Q (F0 m 49 ls [])) (hrec66 : ∀ (l1 : Int32) (l2 : Int32) (l3 : Int32) (l4 : Int32) (x : St) (H : Heap) (locs : List Loc) (ls : Array Slot), rec66 l1 l2 l3 l4 x → Wd dC dI cI cB cJ cZ ad stM kcM 115 A x H → va_S A s.heap H locs → lv_has ls 5 [(0, .ref (ad 0)), (1, .int l1), (2, .int l2), (3, .int l3), (4, .int l4)] → W p l e R s m args below meth c H locs cells slots Q (F0 m 66 ls [])) : ∀ (l1 : Int32) (l2 : Int32) (l3 : Int32) (l4 : Int32) (x : St) (H : Heap) (locs : List Loc) (ls : Array Slot), j_Mod_writeBools_66 post rec49 rec66 l1 l2 l3 l4 x → Wd dC dI cI cB cJ cZ ad stM kcM 115 A x H → va_S A s.heap H locs → lv_has ls 5 [(0, .ref (ad 0)), (1, .int l1), (2, .int l2), (3, .int l3), (4, .int l4)] → W p l e R s m args below meth c H locs cells slots Q (F0 m 66 ls []) := by
  intro l1 l2 l3 l4 x H locs ls  hw hW hS hl
  unfold j_Mod_writeBools_66 at hw
  refine lv_iload hx hb d_Mod_writeBools_66 (lv_at hl 4 rfl) ?_
  refine lv_bipush (v := 8) hx hb d_Mod_writeBools_68 (by decide) ?_
  refine lv_icmp_ge (tgt := 105) hx hb d_Mod_writeBools_70 (by decide) (fun c529 => ?_) (fun c529 => ?_)
  · have hw := hw.1 c529
    exact t_Mod_writeBools_105 hx hb hml hown hT hK hN hA hRc hRs hRf hRl hret hrec49 l1 l2 l3 l4 x H locs ls  hw hW hS (lv_sub hl [0, 1, 2, 3, 4] rfl)
  · have hw := hw.2 c529
    refine lv_iload_n hx hb d_Mod_writeBools_73 rfl (lv_at hl 2 rfl) ?_
    refine lv_iload hx hb d_Mod_writeBools_74 (lv_at hl 4 rfl) ?_
    refine lv_iadd hx hb d_Mod_writeBools_76 ?_
    refine lv_aload_n hx hb d_Mod_writeBools_77 rfl (lv_at hl 0 rfl) ?_
    refine w_geti (k := 42) (t := 12) (C := R_Mod) (T := F_Mod) (N := 167) hx hb hT hown hK hW ko_0.1 ko_0.2 (by decide) in_Mod rfl rfl (by decide) rfl fr_Mod_42 w_8_218 d_Mod_writeBools_78 ?_
    refine lv_icmp_ge (tgt := 105) hx hb d_Mod_writeBools_81 (by decide) (fun c530 => ?_) (fun c530 => ?_)
    · have hw := hw.1 c530
      exact t_Mod_writeBools_105 hx hb hml hown hT hK hN hA hRc hRs hRf hRl hret hrec49 l1 l2 l3 l4 x H locs ls  hw hW hS (lv_sub hl [0, 1, 2, 3, 4] rfl)
    · have hw := hw.2 c530
      refine lv_iload_n hx hb d_Mod_writeBools_84 rfl (lv_at hl 3 rfl) ?_
      refine lv_aload_n hx hb d_Mod_writeBools_85 rfl (lv_at hl 0 rfl) ?_
      refine w_getf (q := 44) (k := 72) (t := 12) (C := R_Mod) (T := F_Mod) (N := 167) hx hb hT hown hK hW ko_0.1 ko_0.2 (by decide) in_Mod rfl rfl (by decide) rfl fr_Mod_72 w_9_8 d_Mod_writeBools_86 rfl ?_
      refine lv_iload_n hx hb d_Mod_writeBools_89 rfl (lv_at hl 2 rfl) ?_
      refine lv_iload hx hb d_Mod_writeBools_90 (lv_at hl 4 rfl) ?_
      refine lv_iadd hx hb d_Mod_writeBools_92 ?_
      obtain ⟨hi, hw⟩ := hw
      refine w_iald (o := 44) hx hb hK hW ko_44.1 ko_44.2 hi d_Mod_writeBools_93 ?_
      refine lv_iload hx hb d_Mod_writeBools_94 (lv_at hl 4 rfl) ?_
      refine lv_ishl hx hb d_Mod_writeBools_96 ?_
      refine lv_ior hx hb d_Mod_writeBools_97 ?_
      refine lv_topi (fun v531 ev531 => ?_)
      have hw := hw v531 ev531
      refine lv_istore_n (lv' := [(3, .int v531), (0, .ref (ad 0)), (1, .int l1), (2, .int l2), (4, .int l4)]) hx hb d_Mod_writeBools_98 rfl hl (by decide) rfl (fun ls hl => ?_)
      refine lv_iinc (v := (l4 + 1)) (lv' := [(4, .int (l4 + 1)), (3, .int v531), (0, .ref (ad 0)), (1, .int l1), (2, .int l2)]) hx hb d_Mod_writeBools_99 hl (k := 4) rfl rfl (by decide) rfl (fun ls hl => ?_)
      refine lv_goto (tgt := 66) hx hb d_Mod_writeBools_102 (by decide) ?_
      exact hrec66 l1 l2 v531 (l4 + 1) x H locs ls  hw hW hS (lv_sub hl [2, 3, 4, 1, 0] rfl)
set_option maxHeartbeats 4000000 in
set_option maxRecDepth 100000 in
theorem tl_Mod_writeBools_66 {p : Program} {l : Launch} {e : Env} {R : Room} {s : State} {m : MethodId} {args : Array Value} {below : List Frame} {meth : Method} {c : Code} {cells slots : Nat} {Q : State → Prop} {dC : Nat → ClassId} {dI : Nat → Nat → Nat} {cI cB cJ cZ : ClassId} {A : Nat → Prop} {ad : Nat → Nat} {post : St → Prop} {rec49 : Int32 → Int32 → St → Prop} (hx : p.tables.exec = Jvm.exec) (hb : c.code = b_Mod_writeBools) (hml : c.maxLocals = 5) (hown : s.vm.findClass R_Mod = some m.cls) (hT : ∀ w ∈ TG, w.before args s = true) (hK : va_K (dC, dI) CL (TY cI cB cJ cZ) s) (hN : NW s) (hA : ∀ q : Nat, s.heap.size ≤ q → A q) (hRc : cells ≤ R.cells) (hRs : slots ≤ R.slots) (hRf : 3 ≤ R.frames) (hRl : 75 ≤ R.locals) (hret : ∀ (x : St) (H : Heap) (locs : List Loc) (pc : Nat) (ls : Array Slot), decode b_Mod_writeBools pc = .ok (.return_, 1) → post x → Wd dC dI cI cB cJ cZ ad stM kcM 115 A x H → va_S A s.heap H locs → W p l e R s m args below meth c H locs cells slots Q (F0 m pc ls [])) (hrec49 : ∀ (l1 : Int32) (l2 : Int32) (x : St) (H : Heap) (locs : List Loc) (ls : Array Slot), rec49 l1 l2 x → Wd dC dI cI cB cJ cZ ad stM kcM 115 A x H → va_S A s.heap H locs → lv_has ls 5 [(0, .ref (ad 0)), (1, .int l1), (2, .int l2)] → W p l e R s m args below meth c H locs cells slots Q (F0 m 49 ls [])) : ∀ n : Nat, ∀ (l1 : Int32) (l2 : Int32) (l3 : Int32) (l4 : Int32) (x : St) (H : Heap) (locs : List Loc) (ls : Array Slot), wl_Mod_writeBools_66 post rec49 n l1 l2 l3 l4 x → Wd dC dI cI cB cJ cZ ad stM kcM 115 A x H → va_S A s.heap H locs → lv_has ls 5 [(0, .ref (ad 0)), (1, .int l1), (2, .int l2), (3, .int l3), (4, .int l4)] → W p l e R s m args below meth c H locs cells slots Q (F0 m 66 ls []) := by
  intro n
  induction n with
  | zero => intro l1 l2 l3 l4 x H locs ls  hw; exact hw.elim
  | succ n ih => intro l1 l2 l3 l4 x H locs ls  hw hW hS hl; exact t_Mod_writeBools_66 hx hb hml hown hT hK hN hA hRc hRs hRf hRl hret hrec49 ih l1 l2 l3 l4 x H locs ls  hw hW hS hl
set_option maxRecDepth 100000 in
set_option maxHeartbeats 4000000 in
set_option maxRecDepth 100000 in
theorem t_Mod_writeBools_49 {p : Program} {l : Launch} {e : Env} {R : Room} {s : State} {m : MethodId} {args : Array Value} {below : List Frame} {meth : Method} {c : Code} {cells slots : Nat} {Q : State → Prop} {dC : Nat → ClassId} {dI : Nat → Nat → Nat} {cI cB cJ cZ : ClassId} {A : Nat → Prop} {ad : Nat → Nat} {post : St → Prop} {rec49 : Int32 → Int32 → St → Prop} (hx : p.tables.exec = Jvm.exec) (hb : c.code = b_Mod_writeBools) (hml : c.maxLocals = 5) (hown : s.vm.findClass R_Mod = some m.cls) (hT : ∀ w ∈ TG, w.before args s = true) (hK : va_K (dC, dI) CL (TY cI cB cJ cZ) s) (hN : NW s) (hA : ∀ q : Nat, s.heap.size ≤ q → A q) (hRc : cells ≤ R.cells) (hRs : slots ≤ R.slots) (hRf : 3 ≤ R.frames) (hRl : 75 ≤ R.locals) (hret : ∀ (x : St) (H : Heap) (locs : List Loc) (pc : Nat) (ls : Array Slot), decode b_Mod_writeBools pc = .ok (.return_, 1) → post x → Wd dC dI cI cB cJ cZ ad stM kcM 115 A x H → va_S A s.heap H locs → W p l e R s m args below meth c H locs cells slots Q (F0 m pc ls [])) (hrec49 : ∀ (l1 : Int32) (l2 : Int32) (x : St) (H : Heap) (locs : List Loc) (ls : Array Slot), rec49 l1 l2 x → Wd dC dI cI cB cJ cZ ad stM kcM 115 A x H → va_S A s.heap H locs → lv_has ls 5 [(0, .ref (ad 0)), (1, .int l1), (2, .int l2)] → W p l e R s m args below meth c H locs cells slots Q (F0 m 49 ls [])) : ∀ (l1 : Int32) (l2 : Int32) (x : St) (H : Heap) (locs : List Loc) (ls : Array Slot), j_Mod_writeBools_49 post rec49 l1 l2 x → Wd dC dI cI cB cJ cZ ad stM kcM 115 A x H → va_S A s.heap H locs → lv_has ls 5 [(0, .ref (ad 0)), (1, .int l1), (2, .int l2)] → W p l e R s m args below meth c H locs cells slots Q (F0 m 49 ls []) := by
  intro l1 l2 x H locs ls  hw hW hS hl
  unfold j_Mod_writeBools_49 at hw
  refine lv_iload_n hx hb d_Mod_writeBools_49 rfl (lv_at hl 2 rfl) ?_
  refine lv_aload_n hx hb d_Mod_writeBools_50 rfl (lv_at hl 0 rfl) ?_
  refine w_geti (k := 42) (t := 12) (C := R_Mod) (T := F_Mod) (N := 167) hx hb hT hown hK hW ko_0.1 ko_0.2 (by decide) in_Mod rfl rfl (by decide) rfl fr_Mod_42 w_8_218 d_Mod_writeBools_51 ?_
  refine lv_icmp_ge (tgt := 116) hx hb d_Mod_writeBools_54 (by decide) (fun c532 => ?_) (fun c532 => ?_)
  · have hw := hw.1 c532
    exact hret x H locs 116 ls d_Mod_writeBools_116 hw hW hS
  · have hw := hw.2 c532
    refine lv_iload_n hx hb d_Mod_writeBools_57 rfl (lv_at hl 1 rfl) ?_
    refine lv_if_ne (tgt := 116) hx hb d_Mod_writeBools_58 (by decide) (fun c533 => ?_) (fun c533 => ?_)
    · have hw := hw.1 c533
      exact hret x H locs 116 ls d_Mod_writeBools_116 hw hW hS
    · have hw := hw.2 c533
      refine lv_iconst (v := 0) hx hb d_Mod_writeBools_61 (by decide) ?_
      refine lv_istore_n (lv' := [(3, .int 0), (0, .ref (ad 0)), (1, .int l1), (2, .int l2)]) hx hb d_Mod_writeBools_62 rfl hl (by decide) rfl (fun ls hl => ?_)
      refine lv_iconst (v := 0) hx hb d_Mod_writeBools_63 (by decide) ?_
      refine lv_istore (lv' := [(4, .int 0), (3, .int 0), (0, .ref (ad 0)), (1, .int l1), (2, .int l2)]) hx hb d_Mod_writeBools_64 hl (by decide) rfl (fun ls hl => ?_)
      obtain ⟨n, hw⟩ := hw
      exact tl_Mod_writeBools_66 hx hb hml hown hT hK hN hA hRc hRs hRf hRl hret hrec49 n l1 l2 0 0 x H locs ls  hw hW hS (lv_sub hl [2, 3, 4, 1, 0] rfl)
set_option maxHeartbeats 4000000 in
set_option maxRecDepth 100000 in
theorem tl_Mod_writeBools_49 {p : Program} {l : Launch} {e : Env} {R : Room} {s : State} {m : MethodId} {args : Array Value} {below : List Frame} {meth : Method} {c : Code} {cells slots : Nat} {Q : State → Prop} {dC : Nat → ClassId} {dI : Nat → Nat → Nat} {cI cB cJ cZ : ClassId} {A : Nat → Prop} {ad : Nat → Nat} {post : St → Prop} (hx : p.tables.exec = Jvm.exec) (hb : c.code = b_Mod_writeBools) (hml : c.maxLocals = 5) (hown : s.vm.findClass R_Mod = some m.cls) (hT : ∀ w ∈ TG, w.before args s = true) (hK : va_K (dC, dI) CL (TY cI cB cJ cZ) s) (hN : NW s) (hA : ∀ q : Nat, s.heap.size ≤ q → A q) (hRc : cells ≤ R.cells) (hRs : slots ≤ R.slots) (hRf : 3 ≤ R.frames) (hRl : 75 ≤ R.locals) (hret : ∀ (x : St) (H : Heap) (locs : List Loc) (pc : Nat) (ls : Array Slot), decode b_Mod_writeBools pc = .ok (.return_, 1) → post x → Wd dC dI cI cB cJ cZ ad stM kcM 115 A x H → va_S A s.heap H locs → W p l e R s m args below meth c H locs cells slots Q (F0 m pc ls []))  : ∀ n : Nat, ∀ (l1 : Int32) (l2 : Int32) (x : St) (H : Heap) (locs : List Loc) (ls : Array Slot), wl_Mod_writeBools_49 post n l1 l2 x → Wd dC dI cI cB cJ cZ ad stM kcM 115 A x H → va_S A s.heap H locs → lv_has ls 5 [(0, .ref (ad 0)), (1, .int l1), (2, .int l2)] → W p l e R s m args below meth c H locs cells slots Q (F0 m 49 ls []) := by
  intro n
  induction n with
  | zero => intro l1 l2 x H locs ls  hw; exact hw.elim
  | succ n ih => intro l1 l2 x H locs ls  hw hW hS hl; exact t_Mod_writeBools_49 hx hb hml hown hT hK hN hA hRc hRs hRf hRl hret  ih l1 l2 x H locs ls  hw hW hS hl
set_option maxRecDepth 100000 in
set_option maxHeartbeats 4000000 in
set_option maxRecDepth 100000 in
theorem t_Mod_writeBools_47 {p : Program} {l : Launch} {e : Env} {R : Room} {s : State} {m : MethodId} {args : Array Value} {below : List Frame} {meth : Method} {c : Code} {cells slots : Nat} {Q : State → Prop} {dC : Nat → ClassId} {dI : Nat → Nat → Nat} {cI cB cJ cZ : ClassId} {A : Nat → Prop} {ad : Nat → Nat} {post : St → Prop} (hx : p.tables.exec = Jvm.exec) (hb : c.code = b_Mod_writeBools) (hml : c.maxLocals = 5) (hown : s.vm.findClass R_Mod = some m.cls) (hT : ∀ w ∈ TG, w.before args s = true) (hK : va_K (dC, dI) CL (TY cI cB cJ cZ) s) (hN : NW s) (hA : ∀ q : Nat, s.heap.size ≤ q → A q) (hRc : cells ≤ R.cells) (hRs : slots ≤ R.slots) (hRf : 3 ≤ R.frames) (hRl : 75 ≤ R.locals) (hret : ∀ (x : St) (H : Heap) (locs : List Loc) (pc : Nat) (ls : Array Slot), decode b_Mod_writeBools pc = .ok (.return_, 1) → post x → Wd dC dI cI cB cJ cZ ad stM kcM 115 A x H → va_S A s.heap H locs → W p l e R s m args below meth c H locs cells slots Q (F0 m pc ls []))  : ∀ (l1 : Int32) (l2 : Int32) (x : St) (H : Heap) (locs : List Loc) (ls : Array Slot), j_Mod_writeBools_47 post l1 l2 x → Wd dC dI cI cB cJ cZ ad stM kcM 115 A x H → va_S A s.heap H locs → lv_has ls 5 [(0, .ref (ad 0)), (1, .int l1), (2, .int l2)] → W p l e R s m args below meth c H locs cells slots Q (F0 m 47 ls []) := by
  intro l1 l2 x H locs ls  hw hW hS hl
  unfold j_Mod_writeBools_47 at hw
  refine lv_iconst (v := 0) hx hb d_Mod_writeBools_47 (by decide) ?_
  refine lv_istore_n (lv' := [(2, .int 0), (0, .ref (ad 0)), (1, .int l1)]) hx hb d_Mod_writeBools_48 rfl hl (by decide) rfl (fun ls hl => ?_)
  obtain ⟨n, hw⟩ := hw
  exact tl_Mod_writeBools_49 hx hb hml hown hT hK hN hA hRc hRs hRf hRl hret  n l1 0 x H locs ls  hw hW hS (lv_sub hl [1, 2, 0] rfl)
set_option maxRecDepth 100000 in
set_option maxHeartbeats 4000000 in
set_option maxRecDepth 100000 in
theorem t_Mod_writeBools_2 {p : Program} {l : Launch} {e : Env} {R : Room} {s : State} {m : MethodId} {args : Array Value} {below : List Frame} {meth : Method} {c : Code} {cells slots : Nat} {Q : State → Prop} {dC : Nat → ClassId} {dI : Nat → Nat → Nat} {cI cB cJ cZ : ClassId} {A : Nat → Prop} {ad : Nat → Nat} {post : St → Prop} {rec2 : Int32 → Int32 → St → Prop} (hx : p.tables.exec = Jvm.exec) (hb : c.code = b_Mod_writeBools) (hml : c.maxLocals = 5) (hown : s.vm.findClass R_Mod = some m.cls) (hT : ∀ w ∈ TG, w.before args s = true) (hK : va_K (dC, dI) CL (TY cI cB cJ cZ) s) (hN : NW s) (hA : ∀ q : Nat, s.heap.size ≤ q → A q) (hRc : cells ≤ R.cells) (hRs : slots ≤ R.slots) (hRf : 3 ≤ R.frames) (hRl : 75 ≤ R.locals) (hret : ∀ (x : St) (H : Heap) (locs : List Loc) (pc : Nat) (ls : Array Slot), decode b_Mod_writeBools pc = .ok (.return_, 1) → post x → Wd dC dI cI cB cJ cZ ad stM kcM 115 A x H → va_S A s.heap H locs → W p l e R s m args below meth c H locs cells slots Q (F0 m pc ls [])) (hrec2 : ∀ (l1 : Int32) (l2 : Int32) (x : St) (H : Heap) (locs : List Loc) (ls : Array Slot), rec2 l1 l2 x → Wd dC dI cI cB cJ cZ ad stM kcM 115 A x H → va_S A s.heap H locs → lv_has ls 5 [(0, .ref (ad 0)), (1, .int l1), (2, .int l2)] → W p l e R s m args below meth c H locs cells slots Q (F0 m 2 ls [])) : ∀ (l1 : Int32) (l2 : Int32) (x : St) (H : Heap) (locs : List Loc) (ls : Array Slot), j_Mod_writeBools_2 post rec2 l1 l2 x → Wd dC dI cI cB cJ cZ ad stM kcM 115 A x H → va_S A s.heap H locs → lv_has ls 5 [(0, .ref (ad 0)), (1, .int l1), (2, .int l2)] → W p l e R s m args below meth c H locs cells slots Q (F0 m 2 ls []) := by
  intro l1 l2 x H locs ls  hw hW hS hl
  unfold j_Mod_writeBools_2 at hw
  refine lv_iload_n hx hb d_Mod_writeBools_2 rfl (lv_at hl 2 rfl) ?_
  refine lv_aload_n hx hb d_Mod_writeBools_3 rfl (lv_at hl 0 rfl) ?_
  refine w_geti (k := 42) (t := 12) (C := R_Mod) (T := F_Mod) (N := 167) hx hb hT hown hK hW ko_0.1 ko_0.2 (by decide) in_Mod rfl rfl (by decide) rfl fr_Mod_42 w_8_218 d_Mod_writeBools_4 ?_
  refine lv_icmp_ge (tgt := 29) hx hb d_Mod_writeBools_7 (by decide) (fun c534 => ?_) (fun c534 => ?_)
  · have hw := hw.1 c534
    refine lv_iload_n hx hb d_Mod_writeBools_29 rfl (lv_at hl 1 rfl) ?_
    refine lv_iconst (v := 1) hx hb d_Mod_writeBools_30 (by decide) ?_
    refine lv_icmp_ne (tgt := 47) hx hb d_Mod_writeBools_31 (by decide) (fun c535 => ?_) (fun c535 => ?_)
    · have hw := hw.1 c535
      exact t_Mod_writeBools_47 hx hb hml hown hT hK hN hA hRc hRs hRf hRl hret  l1 l2 x H locs ls  hw hW hS (lv_sub hl [0, 1, 2] rfl)
    · have hw := hw.2 c535
      refine lv_aload_n hx hb d_Mod_writeBools_34 rfl (lv_at hl 0 rfl) ?_
      refine lv_aload_n hx hb d_Mod_writeBools_35 rfl (lv_at hl 0 rfl) ?_
      refine w_getf (q := 44) (k := 72) (t := 12) (C := R_Mod) (T := F_Mod) (N := 167) hx hb hT hown hK hW ko_0.1 ko_0.2 (by decide) in_Mod rfl rfl (by decide) rfl fr_Mod_72 w_9_8 d_Mod_writeBools_36 rfl ?_
      refine lv_aload_n hx hb d_Mod_writeBools_39 rfl (lv_at hl 0 rfl) ?_
      refine w_geti (k := 42) (t := 12) (C := R_Mod) (T := F_Mod) (N := 167) hx hb hT hown hK hW ko_0.1 ko_0.2 (by decide) in_Mod rfl rfl (by decide) rfl fr_Mod_42 w_8_218 d_Mod_writeBools_40 ?_
      refine lv_iconst (v := 1) hx hb d_Mod_writeBools_43 (by decide) ?_
      have hF := hW.free hS hA
      refine va_callv (va_runV (C := R_Mod) (As := [.ref (ad 44), .int (fI x 0 42), .int 1]) (rest := []) ⟨hx, hb, hml, hown, hT⟩ (k_Mod_writeRuns l dC dI cI cB cJ cZ ad H.size 44 (fI x 0 42) 1 x ko_44 hw) ⟨callB_of 3 hT (gwt_in w_11_186) rfl rfl rfl (hT _ w_1_15) (hT _ w_11_183) (by decide +kernel) ⟨Nat.le_trans (Nat.le_of_ble_eq_true rfl) hRf, Nat.le_trans (Nat.le_of_ble_eq_true rfl) hRl⟩, hT _ w_11_185, hT _ ws_151⟩ ⟨PW.blind, va_recv hK hW.1 (ci := 12) (q0 := 0) rfl (pic_obj ko_0.1 ko_0.2 (by decide)), PW.at _ hW hK hN⟩ rfl rfl hl.1 rfl (lv_room (Nat.le_of_ble_eq_true rfl)) d_Mod_writeBools_44 ⟨hRc, hRs⟩) hS (fun q _ h => hF q h) hF (fun  x536 t H locs ht hvm hw hB hz1 hk1 hS => ?_)
      have hW := Wd.back hB ht hF
      clear hB ht hF hz1 hk1 hvm
      exact t_Mod_writeBools_47 hx hb hml hown hT hK hN hA hRc hRs hRf hRl hret  l1 l2 x536 H locs ls  hw hW hS (lv_sub hl [0, 1, 2] rfl)
  · have hw := hw.2 c534
    refine lv_aload_n hx hb d_Mod_writeBools_10 rfl (lv_at hl 0 rfl) ?_
    refine w_getf (q := 44) (k := 72) (t := 12) (C := R_Mod) (T := F_Mod) (N := 167) hx hb hT hown hK hW ko_0.1 ko_0.2 (by decide) in_Mod rfl rfl (by decide) rfl fr_Mod_72 w_9_8 d_Mod_writeBools_11 rfl ?_
    refine lv_iload_n hx hb d_Mod_writeBools_14 rfl (lv_at hl 2 rfl) ?_
    refine lv_aload_n hx hb d_Mod_writeBools_15 rfl (lv_at hl 0 rfl) ?_
    refine w_getf (q := 30) (k := 49) (t := 12) (C := R_Mod) (T := F_Mod) (N := 167) hx hb hT hown hK hW ko_0.1 ko_0.2 (by decide) in_Mod rfl rfl (by decide) rfl fr_Mod_49 w_8_225 d_Mod_writeBools_16 rfl ?_
    refine lv_iload_n hx hb d_Mod_writeBools_19 rfl (lv_at hl 2 rfl) ?_
    obtain ⟨hi, hw⟩ := hw
    refine w_lald (o := 30) hx hb hK hW ko_30.1 ko_30.2 hi d_Mod_writeBools_20 ?_
    refine lv_l2i hx hb d_Mod_writeBools_21 rfl ?_
    obtain ⟨hi, hw⟩ := hw
    refine w_iast (o := 44) hx hb hK hW hS ko_44.1 ko_44.2 hi d_Mod_writeBools_22 (fun H locs hW hS => ?_)
    obtain ⟨x537, ex537⟩ : ∃ y : St, y = setA x 44 l2 ((rL x 30 l2) : Int64).toInt32 := ⟨_, rfl⟩
    rw [← ex537] at hW
    have hw := hw x537 ex537
    refine lv_iinc (v := (l2 + 1)) (lv' := [(2, .int (l2 + 1)), (0, .ref (ad 0)), (1, .int l1)]) hx hb d_Mod_writeBools_23 hl (k := 2) rfl rfl (by decide) rfl (fun ls hl => ?_)
    refine lv_goto (tgt := 2) hx hb d_Mod_writeBools_26 (by decide) ?_
    exact hrec2 l1 (l2 + 1) x537 H locs ls  hw hW hS (lv_sub hl [1, 2, 0] rfl)
set_option maxHeartbeats 4000000 in
set_option maxRecDepth 100000 in
theorem tl_Mod_writeBools_2 {p : Program} {l : Launch} {e : Env} {R : Room} {s : State} {m : MethodId} {args : Array Value} {below : List Frame} {meth : Method} {c : Code} {cells slots : Nat} {Q : State → Prop} {dC : Nat → ClassId} {dI : Nat → Nat → Nat} {cI cB cJ cZ : ClassId} {A : Nat → Prop} {ad : Nat → Nat} {post : St → Prop} (hx : p.tables.exec = Jvm.exec) (hb : c.code = b_Mod_writeBools) (hml : c.maxLocals = 5) (hown : s.vm.findClass R_Mod = some m.cls) (hT : ∀ w ∈ TG, w.before args s = true) (hK : va_K (dC, dI) CL (TY cI cB cJ cZ) s) (hN : NW s) (hA : ∀ q : Nat, s.heap.size ≤ q → A q) (hRc : cells ≤ R.cells) (hRs : slots ≤ R.slots) (hRf : 3 ≤ R.frames) (hRl : 75 ≤ R.locals) (hret : ∀ (x : St) (H : Heap) (locs : List Loc) (pc : Nat) (ls : Array Slot), decode b_Mod_writeBools pc = .ok (.return_, 1) → post x → Wd dC dI cI cB cJ cZ ad stM kcM 115 A x H → va_S A s.heap H locs → W p l e R s m args below meth c H locs cells slots Q (F0 m pc ls []))  : ∀ n : Nat, ∀ (l1 : Int32) (l2 : Int32) (x : St) (H : Heap) (locs : List Loc) (ls : Array Slot), wl_Mod_writeBools_2 post n l1 l2 x → Wd dC dI cI cB cJ cZ ad stM kcM 115 A x H → va_S A s.heap H locs → lv_has ls 5 [(0, .ref (ad 0)), (1, .int l1), (2, .int l2)] → W p l e R s m args below meth c H locs cells slots Q (F0 m 2 ls []) := by
  intro n
  induction n with
  | zero => intro l1 l2 x H locs ls  hw; exact hw.elim
  | succ n ih => intro l1 l2 x H locs ls  hw hW hS hl; exact t_Mod_writeBools_2 hx hb hml hown hT hK hN hA hRc hRs hRf hRl hret  ih l1 l2 x H locs ls  hw hW hS hl
set_option maxRecDepth 100000 in
set_option maxHeartbeats 4000000 in
set_option maxRecDepth 100000 in
theorem t_Mod_writeBools_e {p : Program} {l : Launch} {e : Env} {R : Room} {s : State} {m : MethodId} {args : Array Value} {below : List Frame} {meth : Method} {c : Code} {cells slots : Nat} {Q : State → Prop} {dC : Nat → ClassId} {dI : Nat → Nat → Nat} {cI cB cJ cZ : ClassId} {A : Nat → Prop} {ad : Nat → Nat} {post : St → Prop} (hx : p.tables.exec = Jvm.exec) (hb : c.code = b_Mod_writeBools) (hml : c.maxLocals = 5) (hown : s.vm.findClass R_Mod = some m.cls) (hT : ∀ w ∈ TG, w.before args s = true) (hK : va_K (dC, dI) CL (TY cI cB cJ cZ) s) (hN : NW s) (hA : ∀ q : Nat, s.heap.size ≤ q → A q) (hRc : cells ≤ R.cells) (hRs : slots ≤ R.slots) (hRf : 3 ≤ R.frames) (hRl : 75 ≤ R.locals) (hret : ∀ (x : St) (H : Heap) (locs : List Loc) (pc : Nat) (ls : Array Slot), decode b_Mod_writeBools pc = .ok (.return_, 1) → post x → Wd dC dI cI cB cJ cZ ad stM kcM 115 A x H → va_S A s.heap H locs → W p l e R s m args below meth c H locs cells slots Q (F0 m pc ls [])) : ∀ (l1 : Int32) (x : St) (H : Heap) (locs : List Loc) (ls : Array Slot), wp_Mod_writeBools post l1 x → Wd dC dI cI cB cJ cZ ad stM kcM 115 A x H → va_S A s.heap H locs → lv_has ls 5 [(0, .ref (ad 0)), (1, .int l1)] → W p l e R s m args below meth c H locs cells slots Q (F0 m 0 ls []) := by
  intro l1 x H locs ls  hw hW hS hl
  unfold wp_Mod_writeBools at hw
  refine lv_iconst (v := 0) hx hb d_Mod_writeBools_0 (by decide) ?_
  refine lv_istore_n (lv' := [(2, .int 0), (0, .ref (ad 0)), (1, .int l1)]) hx hb d_Mod_writeBools_1 rfl hl (by decide) rfl (fun ls hl => ?_)
  obtain ⟨n, hw⟩ := hw
  exact tl_Mod_writeBools_2 hx hb hml hown hT hK hN hA hRc hRs hRf hRl hret  n l1 0 x H locs ls  hw hW hS (lv_sub hl [1, 2, 0] rfl)
set_option maxHeartbeats 4000000 in
set_option maxRecDepth 100000 in
theorem k_Mod_writeBools (l : Launch) (dC : Nat → ClassId) (dI : Nat → Nat → Nat) (cI cB cJ cZ : ClassId) (ad : Nat → Nat) (sz : Nat) (l1 : Int32) (x : St) {post : St → Prop} (hw : wp_Mod_writeBools post l1 x) : Met l y_Mod_writeBools (wsOf y_Mod_writeBools b_Mod_writeBools 5 (none)) ({ frames := 3, cells := 0, slots := 0, locals := 75 }) (va_Pc [.ref (ad 0), .int l1] (PW dC dI cI cB cJ cZ ad stM kcM 115 sz x)) (va_Qv (fun (y : St) => post y) (fun y t => Wd dC dI cI cB cJ cZ ad stM kcM 115 (va_A (pic ad stM kcM 115 cI cB cJ cZ x) sz) y t.heap) (va_A (pic ad stM kcM 115 cI cB cJ cZ x) sz)) 0 0 (va_A (pic ad stM kcM 115 cI cB cJ cZ x) sz) := by
  refine Met.ofW (cc := b_Mod_writeBools) (maxL := 5) (ret := none) (by decide) rfl ?_
  intro p e s m args below meth c s₁ B hml hv
  obtain ⟨rfl, hsz, hW0, hK, hN⟩ := hv
  have hx := B.exec
  have hb := B.bytes
  have hr := B.returns
  have hts := atoms_spec B.pre
  have hT : ∀ w ∈ TG, w.before _ s = true := fun w h => hts w (List.mem_cons_of_mem _ h)
  have hown : s.vm.findClass R_Mod = some m.cls := findClass_of_methodNamed B.named
  have hlocks := B.notSynchronized
  subst hsz
  have hW : Wd dC dI cI cB cJ cZ ad stM kcM 115 (va_A (pic ad stM kcM 115 cI cB cJ cZ x) s.heap.size) x s.heap := ⟨hW0.1, hW0.2.1.self (sz := s.heap.size), hW0.2.2⟩
  generalize hAe : va_A (pic ad stM kcM 115 cI cB cJ cZ x) s.heap.size = A at hW ⊢
  have hA : ∀ q : Nat, s.heap.size ≤ q → A q := fun q h => by rw [← hAe]; exact Or.inr h
  have hS : va_S A s.heap s.heap [] := va_S.rf
  have hl := lv_entry ([.ref (ad 0), .int l1]) (n := 5) (Nat.le_of_ble_eq_true rfl)
  rw [lg_entry_eq]
  generalize (lg_sl ([.ref (ad 0), .int l1]) ++ List.replicate (5 - (lg_sl ([.ref (ad 0), .int l1])).length) Slot.unset).toArray = ls at hl ⊢
  have hl : lv_has ls 5 [(0, .ref (ad 0)), (1, .int l1)] := hl
  exact t_Mod_writeBools_e hx hb hml hown hT hK hN hA (Nat.le_refl 0) (Nat.le_refl 0) (Nat.le_refl 3) (Nat.le_refl 75) (fun x H locs pc ls hd hp hW hS => W.vret hx hb hr (fun t ht hM => ⟨⟨x, rfl, hp, Wd.back hW ht.symm (fun _ z => z)⟩, hS.F ht⟩) hS.2.2 hd hlocks)  l1 x _ _ ls  hw hW hS hl
set_option maxRecDepth 100000 in
set_option maxHeartbeats 4000000 in
set_option maxRecDepth 100000 in
theorem t_Mod_wide_e {p : Program} {l : Launch} {e : Env} {R : Room} {s : State} {m : MethodId} {args : Array Value} {below : List Frame} {meth : Method} {c : Code} {cells slots : Nat} {Q : State → Prop} {dC : Nat → ClassId} {dI : Nat → Nat → Nat} {cI cB cJ cZ : ClassId} {A : Nat → Prop} {ad : Nat → Nat} {post : Int32 → St → Prop} (hx : p.tables.exec = Jvm.exec) (hb : c.code = b_Mod_wide) (hml : c.maxLocals = 1) (hown : s.vm.findClass R_Mod = some m.cls) (hT : ∀ w ∈ TG, w.before args s = true) (hK : va_K (dC, dI) CL (TY cI cB cJ cZ) s) (hN : NW s) (hA : ∀ q : Nat, s.heap.size ≤ q → A q) (hRc : cells ≤ R.cells) (hRs : slots ≤ R.slots) (hRf : 0 ≤ R.frames) (hRl : 0 ≤ R.locals) (hret : ∀ (r : Int32) (x : St) (H : Heap) (locs : List Loc) (pc : Nat) (ls : Array Slot), decode b_Mod_wide pc = .ok (.ireturn, 1) → post r x → Wd dC dI cI cB cJ cZ ad stM kcM 115 A x H → va_S A s.heap H locs → W p l e R s m args below meth c H locs cells slots Q (F0 m pc ls [.int r])) : ∀  (x : St) (H : Heap) (locs : List Loc) (ls : Array Slot), wp_Mod_wide post  x → Wd dC dI cI cB cJ cZ ad stM kcM 115 A x H → va_S A s.heap H locs → lv_has ls 1 [(0, .ref (ad 0))] → W p l e R s m args below meth c H locs cells slots Q (F0 m 0 ls []) := by
  intro  x H locs ls  hw hW hS hl
  unfold wp_Mod_wide at hw
  refine lv_aload_n hx hb d_Mod_wide_0 rfl (lv_at hl 0 rfl) ?_
  refine w_geti (k := 38) (t := 12) (C := R_Mod) (T := F_Mod) (N := 167) hx hb hT hown hK hW ko_0.1 ko_0.2 (by decide) in_Mod rfl rfl (by decide) rfl fr_Mod_38 w_8_214 d_Mod_wide_1 ?_
  refine lv_iconst (v := 1) hx hb d_Mod_wide_4 (by decide) ?_
  refine lv_icmp_ne (tgt := 12) hx hb d_Mod_wide_5 (by decide) (fun c538 => ?_) (fun c538 => ?_)
  · have hw := hw.1 c538
    refine lv_bipush (v := 8) hx hb d_Mod_wide_12 (by decide) ?_
    exact hret 8 x H locs 14 ls d_Mod_wide_14 hw hW hS
  · have hw := hw.2 c538
    refine lv_iconst (v := 4) hx hb d_Mod_wide_8 (by decide) ?_
    refine lv_goto (tgt := 14) hx hb d_Mod_wide_9 (by decide) ?_
    exact hret 4 x H locs 14 ls d_Mod_wide_14 hw hW hS
set_option maxHeartbeats 4000000 in
set_option maxRecDepth 100000 in
theorem k_Mod_wide (l : Launch) (dC : Nat → ClassId) (dI : Nat → Nat → Nat) (cI cB cJ cZ : ClassId) (ad : Nat → Nat) (sz : Nat)  (x : St) {post : Int32 → St → Prop} (hw : wp_Mod_wide post  x) : Met l y_Mod_wide (wsOf y_Mod_wide b_Mod_wide 1 (some (.int))) ({ frames := 0, cells := 0, slots := 0, locals := 0 }) (va_Pc [.ref (ad 0)] (PW dC dI cI cB cJ cZ ad stM kcM 115 sz x)) (va_Qi (fun (r : Int32) (y : St) => post r y) (fun y t => Wd dC dI cI cB cJ cZ ad stM kcM 115 (va_A (pic ad stM kcM 115 cI cB cJ cZ x) sz) y t.heap) (va_A (pic ad stM kcM 115 cI cB cJ cZ x) sz)) 0 0 (va_A (pic ad stM kcM 115 cI cB cJ cZ x) sz) := by
  refine Met.ofW (cc := b_Mod_wide) (maxL := 1) (ret := some (.int)) (by decide) rfl ?_
  intro p e s m args below meth c s₁ B hml hv
  obtain ⟨rfl, hsz, hW0, hK, hN⟩ := hv
  have hx := B.exec
  have hb := B.bytes
  have hr := B.returns
  have hts := atoms_spec B.pre
  have hT : ∀ w ∈ TG, w.before _ s = true := fun w h => hts w (List.mem_cons_of_mem _ h)
  have hown : s.vm.findClass R_Mod = some m.cls := findClass_of_methodNamed B.named
  have hlocks := B.notSynchronized
  subst hsz
  have hW : Wd dC dI cI cB cJ cZ ad stM kcM 115 (va_A (pic ad stM kcM 115 cI cB cJ cZ x) s.heap.size) x s.heap := ⟨hW0.1, hW0.2.1.self (sz := s.heap.size), hW0.2.2⟩
  generalize hAe : va_A (pic ad stM kcM 115 cI cB cJ cZ x) s.heap.size = A at hW ⊢
  have hA : ∀ q : Nat, s.heap.size ≤ q → A q := fun q h => by rw [← hAe]; exact Or.inr h
  have hS : va_S A s.heap s.heap [] := va_S.rf
  have hl := lv_entry ([.ref (ad 0)]) (n := 1) (Nat.le_of_ble_eq_true rfl)
  rw [lg_entry_eq]
  generalize (lg_sl ([.ref (ad 0)]) ++ List.replicate (1 - (lg_sl ([.ref (ad 0)])).length) Slot.unset).toArray = ls at hl ⊢
  have hl : lv_has ls 1 [(0, .ref (ad 0))] := hl
  exact t_Mod_wide_e hx hb hml hown hT hK hN hA (Nat.le_refl 0) (Nat.le_refl 0) (Nat.le_refl 0) (Nat.le_refl 0) (fun r x H locs pc ls hd hp hW hS => W.iret (v := r) hx hb hr (fun t ht hM => ⟨⟨r, x, rfl, hp, Wd.back hW ht.symm (fun _ z => z)⟩, hS.F ht⟩) hS.2.2 hd hlocks)   x _ _ ls  hw hW hS hl
set_option maxRecDepth 100000 in
set_option maxHeartbeats 4000000 in
set_option maxRecDepth 100000 in
theorem t_Mod_putFixed_3 {p : Program} {l : Launch} {e : Env} {R : Room} {s : State} {m : MethodId} {args : Array Value} {below : List Frame} {meth : Method} {c : Code} {cells slots : Nat} {Q : State → Prop} {dC : Nat → ClassId} {dI : Nat → Nat → Nat} {cI cB cJ cZ : ClassId} {A : Nat → Prop} {ad : Nat → Nat} {post : St → Prop} {rec3 : Int64 → Int32 → Int32 → St → Prop} (hx : p.tables.exec = Jvm.exec) (hb : c.code = b_Mod_putFixed) (hml : c.maxLocals = 5) (hown : s.vm.findClass R_Mod = some m.cls) (hT : ∀ w ∈ TG, w.before args s = true) (hK : va_K (dC, dI) CL (TY cI cB cJ cZ) s) (hN : NW s) (hA : ∀ q : Nat, s.heap.size ≤ q → A q) (hRc : cells ≤ R.cells) (hRs : slots ≤ R.slots) (hRf : 1 ≤ R.frames) (hRl : 21 ≤ R.locals) (hret : ∀ (x : St) (H : Heap) (locs : List Loc) (pc : Nat) (ls : Array Slot), decode b_Mod_putFixed pc = .ok (.return_, 1) → post x → Wd dC dI cI cB cJ cZ ad stM kcM 115 A x H → va_S A s.heap H locs → W p l e R s m args below meth c H locs cells slots Q (F0 m pc ls [])) (hrec3 : ∀ (l1 : Int64) (l3 : Int32) (l4 : Int32) (x : St) (H : Heap) (locs : List Loc) (ls : Array Slot), rec3 l1 l3 l4 x → Wd dC dI cI cB cJ cZ ad stM kcM 115 A x H → va_S A s.heap H locs → lv_has ls 5 [(0, .ref (ad 0)), (1, .long l1), (3, .int l3), (4, .int l4)] → W p l e R s m args below meth c H locs cells slots Q (F0 m 3 ls [])) : ∀ (l1 : Int64) (l3 : Int32) (l4 : Int32) (x : St) (H : Heap) (locs : List Loc) (ls : Array Slot), j_Mod_putFixed_3 post rec3 l1 l3 l4 x → Wd dC dI cI cB cJ cZ ad stM kcM 115 A x H → va_S A s.heap H locs → lv_has ls 5 [(0, .ref (ad 0)), (1, .long l1), (3, .int l3), (4, .int l4)] → W p l e R s m args below meth c H locs cells slots Q (F0 m 3 ls []) := by
  intro l1 l3 l4 x H locs ls  hw hW hS hl
  unfold j_Mod_putFixed_3 at hw
  refine lv_iload hx hb d_Mod_putFixed_3 (lv_at hl 3 rfl) ?_
  refine lv_iload_n hx hb d_Mod_putFixed_5 rfl (lv_at hl 2 rfl) ?_
  refine lv_icmp_ge (tgt := 27) hx hb d_Mod_putFixed_6 (by decide) (fun c539 => ?_) (fun c539 => ?_)
  · have hw := hw.1 c539
    exact hret x H locs 27 ls d_Mod_putFixed_27 hw hW hS
  · have hw := hw.2 c539
    refine lv_aload_n hx hb d_Mod_putFixed_9 rfl (lv_at hl 0 rfl) ?_
    refine lv_lload_n hx hb d_Mod_putFixed_10 rfl (lv_at hl 1 rfl) ?_
    refine lv_bipush (v := 8) hx hb d_Mod_putFixed_11 (by decide) ?_
    refine lv_iload hx hb d_Mod_putFixed_13 (lv_at hl 3 rfl) ?_
    refine lv_imul hx hb d_Mod_putFixed_15 ?_
    refine lv_lushr hx hb d_Mod_putFixed_16 rfl ?_
    refine lv_l2i hx hb d_Mod_putFixed_17 rfl ?_
    have hF := hW.free hS hA
    refine va_callv (va_runV (C := R_Mod) (As := [.int (((l1 : Int64).toUInt64 >>> (((8 * l4) : Int32).toInt64.toUInt64 &&& Int64.toUInt64 63)).toInt64 : Int64).toInt32]) (rest := []) ⟨hx, hb, hml, hown, hT⟩ (k_Mod_put l dC dI cI cB cJ cZ ad H.size (((l1 : Int64).toUInt64 >>> (((8 * l4) : Int32).toInt64.toUInt64 &&& Int64.toUInt64 63)).toInt64 : Int64).toInt32 x  hw) ⟨callB_of 1 hT (gwt_in w_11_199) rfl rfl rfl (hT _ w_1_15) (hT _ w_11_196) (by decide +kernel) ⟨Nat.le_trans (Nat.le_of_ble_eq_true rfl) hRf, Nat.le_trans (Nat.le_of_ble_eq_true rfl) hRl⟩, hT _ w_11_198, hT _ ws_153⟩ ⟨PW.blind, va_recv hK hW.1 (ci := 12) (q0 := 0) rfl (pic_obj ko_0.1 ko_0.2 (by decide)), PW.at _ hW hK hN⟩ rfl rfl hl.1 rfl (lv_room (Nat.le_of_ble_eq_true rfl)) d_Mod_putFixed_18 ⟨hRc, hRs⟩) hS (fun q _ h => hF q h) hF (fun  x540 t H locs ht hvm hw hB hz1 hk1 hS => ?_)
    have hW := Wd.back hB ht hF
    clear hB ht hF hz1 hk1 hvm
    refine lv_iinc (v := (l4 + 1)) (lv' := [(4, .int (l4 + 1)), (0, .ref (ad 0)), (1, .long l1), (3, .int l3)]) hx hb d_Mod_putFixed_21 hl (k := 3) rfl rfl (by decide) rfl (fun ls hl => ?_)
    refine lv_goto (tgt := 3) hx hb d_Mod_putFixed_24 (by decide) ?_
    exact hrec3 l1 l3 (l4 + 1) x540 H locs ls  hw hW hS (lv_sub hl [1, 2, 3, 0] rfl)
set_option maxHeartbeats 4000000 in
set_option maxRecDepth 100000 in
theorem tl_Mod_putFixed_3 {p : Program} {l : Launch} {e : Env} {R : Room} {s : State} {m : MethodId} {args : Array Value} {below : List Frame} {meth : Method} {c : Code} {cells slots : Nat} {Q : State → Prop} {dC : Nat → ClassId} {dI : Nat → Nat → Nat} {cI cB cJ cZ : ClassId} {A : Nat → Prop} {ad : Nat → Nat} {post : St → Prop} (hx : p.tables.exec = Jvm.exec) (hb : c.code = b_Mod_putFixed) (hml : c.maxLocals = 5) (hown : s.vm.findClass R_Mod = some m.cls) (hT : ∀ w ∈ TG, w.before args s = true) (hK : va_K (dC, dI) CL (TY cI cB cJ cZ) s) (hN : NW s) (hA : ∀ q : Nat, s.heap.size ≤ q → A q) (hRc : cells ≤ R.cells) (hRs : slots ≤ R.slots) (hRf : 1 ≤ R.frames) (hRl : 21 ≤ R.locals) (hret : ∀ (x : St) (H : Heap) (locs : List Loc) (pc : Nat) (ls : Array Slot), decode b_Mod_putFixed pc = .ok (.return_, 1) → post x → Wd dC dI cI cB cJ cZ ad stM kcM 115 A x H → va_S A s.heap H locs → W p l e R s m args below meth c H locs cells slots Q (F0 m pc ls []))  : ∀ n : Nat, ∀ (l1 : Int64) (l3 : Int32) (l4 : Int32) (x : St) (H : Heap) (locs : List Loc) (ls : Array Slot), wl_Mod_putFixed_3 post n l1 l3 l4 x → Wd dC dI cI cB cJ cZ ad stM kcM 115 A x H → va_S A s.heap H locs → lv_has ls 5 [(0, .ref (ad 0)), (1, .long l1), (3, .int l3), (4, .int l4)] → W p l e R s m args below meth c H locs cells slots Q (F0 m 3 ls []) := by
  intro n
  induction n with
  | zero => intro l1 l3 l4 x H locs ls  hw; exact hw.elim
  | succ n ih => intro l1 l3 l4 x H locs ls  hw hW hS hl; exact t_Mod_putFixed_3 hx hb hml hown hT hK hN hA hRc hRs hRf hRl hret  ih l1 l3 l4 x H locs ls  hw hW hS hl
set_option maxRecDepth 100000 in
set_option maxHeartbeats 4000000 in
set_option maxRecDepth 100000 in
theorem t_Mod_putFixed_e {p : Program} {l : Launch} {e : Env} {R : Room} {s : State} {m : MethodId} {args : Array Value} {below : List Frame} {meth : Method} {c : Code} {cells slots : Nat} {Q : State → Prop} {dC : Nat → ClassId} {dI : Nat → Nat → Nat} {cI cB cJ cZ : ClassId} {A : Nat → Prop} {ad : Nat → Nat} {post : St → Prop} (hx : p.tables.exec = Jvm.exec) (hb : c.code = b_Mod_putFixed) (hml : c.maxLocals = 5) (hown : s.vm.findClass R_Mod = some m.cls) (hT : ∀ w ∈ TG, w.before args s = true) (hK : va_K (dC, dI) CL (TY cI cB cJ cZ) s) (hN : NW s) (hA : ∀ q : Nat, s.heap.size ≤ q → A q) (hRc : cells ≤ R.cells) (hRs : slots ≤ R.slots) (hRf : 1 ≤ R.frames) (hRl : 21 ≤ R.locals) (hret : ∀ (x : St) (H : Heap) (locs : List Loc) (pc : Nat) (ls : Array Slot), decode b_Mod_putFixed pc = .ok (.return_, 1) → post x → Wd dC dI cI cB cJ cZ ad stM kcM 115 A x H → va_S A s.heap H locs → W p l e R s m args below meth c H locs cells slots Q (F0 m pc ls [])) : ∀ (l1 : Int64) (l3 : Int32) (x : St) (H : Heap) (locs : List Loc) (ls : Array Slot), wp_Mod_putFixed post l1 l3 x → Wd dC dI cI cB cJ cZ ad stM kcM 115 A x H → va_S A s.heap H locs → lv_has ls 5 [(0, .ref (ad 0)), (1, .long l1), (3, .int l3)] → W p l e R s m args below meth c H locs cells slots Q (F0 m 0 ls []) := by
  intro l1 l3 x H locs ls  hw hW hS hl
  unfold wp_Mod_putFixed at hw
  refine lv_iconst (v := 0) hx hb d_Mod_putFixed_0 (by decide) ?_
  refine lv_istore (lv' := [(4, .int 0), (0, .ref (ad 0)), (1, .long l1), (3, .int l3)]) hx hb d_Mod_putFixed_1 hl (by decide) rfl (fun ls hl => ?_)
  obtain ⟨n, hw⟩ := hw
  exact tl_Mod_putFixed_3 hx hb hml hown hT hK hN hA hRc hRs hRf hRl hret  n l1 l3 0 x H locs ls  hw hW hS (lv_sub hl [1, 2, 3, 0] rfl)
set_option maxHeartbeats 4000000 in
set_option maxRecDepth 100000 in
theorem k_Mod_putFixed (l : Launch) (dC : Nat → ClassId) (dI : Nat → Nat → Nat) (cI cB cJ cZ : ClassId) (ad : Nat → Nat) (sz : Nat) (l1 : Int64) (l3 : Int32) (x : St) {post : St → Prop} (hw : wp_Mod_putFixed post l1 l3 x) : Met l y_Mod_putFixed (wsOf y_Mod_putFixed b_Mod_putFixed 5 (none)) ({ frames := 1, cells := 0, slots := 0, locals := 21 }) (va_Pc [.ref (ad 0), .long l1, .int l3] (PW dC dI cI cB cJ cZ ad stM kcM 115 sz x)) (va_Qv (fun (y : St) => post y) (fun y t => Wd dC dI cI cB cJ cZ ad stM kcM 115 (va_A (pic ad stM kcM 115 cI cB cJ cZ x) sz) y t.heap) (va_A (pic ad stM kcM 115 cI cB cJ cZ x) sz)) 0 0 (va_A (pic ad stM kcM 115 cI cB cJ cZ x) sz) := by
  refine Met.ofW (cc := b_Mod_putFixed) (maxL := 5) (ret := none) (by decide) rfl ?_
  intro p e s m args below meth c s₁ B hml hv
  obtain ⟨rfl, hsz, hW0, hK, hN⟩ := hv
  have hx := B.exec
  have hb := B.bytes
  have hr := B.returns
  have hts := atoms_spec B.pre
  have hT : ∀ w ∈ TG, w.before _ s = true := fun w h => hts w (List.mem_cons_of_mem _ h)
  have hown : s.vm.findClass R_Mod = some m.cls := findClass_of_methodNamed B.named
  have hlocks := B.notSynchronized
  subst hsz
  have hW : Wd dC dI cI cB cJ cZ ad stM kcM 115 (va_A (pic ad stM kcM 115 cI cB cJ cZ x) s.heap.size) x s.heap := ⟨hW0.1, hW0.2.1.self (sz := s.heap.size), hW0.2.2⟩
  generalize hAe : va_A (pic ad stM kcM 115 cI cB cJ cZ x) s.heap.size = A at hW ⊢
  have hA : ∀ q : Nat, s.heap.size ≤ q → A q := fun q h => by rw [← hAe]; exact Or.inr h
  have hS : va_S A s.heap s.heap [] := va_S.rf
  have hl := lv_entry ([.ref (ad 0), .long l1, .int l3]) (n := 5) (Nat.le_of_ble_eq_true rfl)
  rw [lg_entry_eq]
  generalize (lg_sl ([.ref (ad 0), .long l1, .int l3]) ++ List.replicate (5 - (lg_sl ([.ref (ad 0), .long l1, .int l3])).length) Slot.unset).toArray = ls at hl ⊢
  have hl : lv_has ls 5 [(0, .ref (ad 0)), (1, .long l1), (3, .int l3)] := hl
  exact t_Mod_putFixed_e hx hb hml hown hT hK hN hA (Nat.le_refl 0) (Nat.le_refl 0) (Nat.le_refl 1) (Nat.le_refl 21) (fun x H locs pc ls hd hp hW hS => W.vret hx hb hr (fun t ht hM => ⟨⟨x, rfl, hp, Wd.back hW ht.symm (fun _ z => z)⟩, hS.F ht⟩) hS.2.2 hd hlocks)  l1 l3 x _ _ ls  hw hW hS hl
set_option maxRecDepth 100000 in
set_option maxHeartbeats 4000000 in
set_option maxRecDepth 100000 in
theorem t_Mod_zigzag_e {p : Program} {l : Launch} {e : Env} {R : Room} {s : State} {m : MethodId} {args : Array Value} {below : List Frame} {meth : Method} {c : Code} {cells slots : Nat} {Q : State → Prop} {dC : Nat → ClassId} {dI : Nat → Nat → Nat} {cI cB cJ cZ : ClassId} {A : Nat → Prop} {ad : Nat → Nat} {post : Int64 → St → Prop} (hx : p.tables.exec = Jvm.exec) (hb : c.code = b_Mod_zigzag) (hml : c.maxLocals = 2) (hown : s.vm.findClass R_Mod = some m.cls) (hT : ∀ w ∈ TG, w.before args s = true) (hK : va_K (dC, dI) CL (TY cI cB cJ cZ) s) (hN : NW s) (hA : ∀ q : Nat, s.heap.size ≤ q → A q) (hRc : cells ≤ R.cells) (hRs : slots ≤ R.slots) (hRf : 0 ≤ R.frames) (hRl : 0 ≤ R.locals) (hret : ∀ (r : Int64) (x : St) (H : Heap) (locs : List Loc) (pc : Nat) (ls : Array Slot), decode b_Mod_zigzag pc = .ok (.lreturn, 1) → post r x → Wd dC dI cI cB cJ cZ ad stM kcM 115 A x H → va_S A s.heap H locs → W p l e R s m args below meth c H locs cells slots Q (F0 m pc ls [.long r])) : ∀ (l0 : Int64) (x : St) (H : Heap) (locs : List Loc) (ls : Array Slot), wp_Mod_zigzag post l0 x → Wd dC dI cI cB cJ cZ ad stM kcM 115 A x H → va_S A s.heap H locs → lv_has ls 2 [(0, .long l0)] → W p l e R s m args below meth c H locs cells slots Q (F0 m 0 ls []) := by
  intro l0 x H locs ls  hw hW hS hl
  unfold wp_Mod_zigzag at hw
  refine lv_lload_n hx hb d_Mod_zigzag_0 rfl (lv_at hl 0 rfl) ?_
  refine lv_lconst (v := 0) hx hb d_Mod_zigzag_1 (by decide) ?_
  refine W.lcmp hx hb d_Mod_zigzag_2 ?_
  refine lv_if_ge (tgt := 16) hx hb d_Mod_zigzag_3 (by decide) (fun c541 => ?_) (fun c541 => ?_)
  · have hw := hw.1 c541
    refine lv_ldc2 hx hb hown (hT _ w_11_190) d_Mod_zigzag_16 ?_
    refine lv_lload_n hx hb d_Mod_zigzag_19 rfl (lv_at hl 0 rfl) ?_
    refine lv_lmul hx hb d_Mod_zigzag_20 ?_
    exact hret (2 * l0) x H locs 21 ls d_Mod_zigzag_21 hw hW hS
  · have hw := hw.2 c541
    refine lv_ldc2 hx hb hown (hT _ w_11_219) d_Mod_zigzag_6 ?_
    refine lv_lload_n hx hb d_Mod_zigzag_9 rfl (lv_at hl 0 rfl) ?_
    refine lv_lmul hx hb d_Mod_zigzag_10 ?_
    refine lv_lconst (v := 1) hx hb d_Mod_zigzag_11 (by decide) ?_
    refine lv_lsub hx hb d_Mod_zigzag_12 ?_
    refine lv_goto (tgt := 21) hx hb d_Mod_zigzag_13 (by decide) ?_
    exact hret (((-2) * l0) - 1) x H locs 21 ls d_Mod_zigzag_21 hw hW hS
set_option maxHeartbeats 4000000 in
set_option maxRecDepth 100000 in
theorem k_Mod_zigzag (l : Launch) (dC : Nat → ClassId) (dI : Nat → Nat → Nat) (cI cB cJ cZ : ClassId) (ad : Nat → Nat) (sz : Nat) (l0 : Int64) (x : St) {post : Int64 → St → Prop} (hw : wp_Mod_zigzag post l0 x) : Met l y_Mod_zigzag (wsOf y_Mod_zigzag b_Mod_zigzag 2 (some (.long))) ({ frames := 0, cells := 0, slots := 0, locals := 0 }) (va_Pc [.long l0] (PW dC dI cI cB cJ cZ ad stM kcM 115 sz x)) (va_Ql (fun (r : Int64) (y : St) => post r y) (fun y t => Wd dC dI cI cB cJ cZ ad stM kcM 115 (va_A (pic ad stM kcM 115 cI cB cJ cZ x) sz) y t.heap) (va_A (pic ad stM kcM 115 cI cB cJ cZ x) sz)) 0 0 (va_A (pic ad stM kcM 115 cI cB cJ cZ x) sz) := by
  refine Met.ofW (cc := b_Mod_zigzag) (maxL := 2) (ret := some (.long)) (by decide) rfl ?_
  intro p e s m args below meth c s₁ B hml hv
  obtain ⟨rfl, hsz, hW0, hK, hN⟩ := hv
  have hx := B.exec
  have hb := B.bytes
  have hr := B.returns
  have hts := atoms_spec B.pre
  have hT : ∀ w ∈ TG, w.before _ s = true := fun w h => hts w (List.mem_cons_of_mem _ h)
  have hown : s.vm.findClass R_Mod = some m.cls := findClass_of_methodNamed B.named
  have hlocks := B.notSynchronized
  subst hsz
  have hW : Wd dC dI cI cB cJ cZ ad stM kcM 115 (va_A (pic ad stM kcM 115 cI cB cJ cZ x) s.heap.size) x s.heap := ⟨hW0.1, hW0.2.1.self (sz := s.heap.size), hW0.2.2⟩
  generalize hAe : va_A (pic ad stM kcM 115 cI cB cJ cZ x) s.heap.size = A at hW ⊢
  have hA : ∀ q : Nat, s.heap.size ≤ q → A q := fun q h => by rw [← hAe]; exact Or.inr h
  have hS : va_S A s.heap s.heap [] := va_S.rf
  have hl := lv_entry ([.long l0]) (n := 2) (Nat.le_of_ble_eq_true rfl)
  rw [lg_entry_eq]
  generalize (lg_sl ([.long l0]) ++ List.replicate (2 - (lg_sl ([.long l0])).length) Slot.unset).toArray = ls at hl ⊢
  have hl : lv_has ls 2 [(0, .long l0)] := hl
  exact t_Mod_zigzag_e hx hb hml hown hT hK hN hA (Nat.le_refl 0) (Nat.le_refl 0) (Nat.le_refl 0) (Nat.le_refl 0) (fun r x H locs pc ls hd hp hW hS => W.lret (v := r) hx hb hr (fun t ht hM => ⟨⟨r, x, rfl, hp, Wd.back hW ht.symm (fun _ z => z)⟩, hS.F ht⟩) hS.2.2 hd hlocks)  l0 x _ _ ls  hw hW hS hl
set_option maxRecDepth 100000 in
set_option maxHeartbeats 4000000 in
set_option maxRecDepth 100000 in
theorem t_Mod_difference_e {p : Program} {l : Launch} {e : Env} {R : Room} {s : State} {m : MethodId} {args : Array Value} {below : List Frame} {meth : Method} {c : Code} {cells slots : Nat} {Q : State → Prop} {dC : Nat → ClassId} {dI : Nat → Nat → Nat} {cI cB cJ cZ : ClassId} {A : Nat → Prop} {ad : Nat → Nat} {post : Int64 → St → Prop} (hx : p.tables.exec = Jvm.exec) (hb : c.code = b_Mod_difference) (hml : c.maxLocals = 2) (hown : s.vm.findClass R_Mod = some m.cls) (hT : ∀ w ∈ TG, w.before args s = true) (hK : va_K (dC, dI) CL (TY cI cB cJ cZ) s) (hN : NW s) (hA : ∀ q : Nat, s.heap.size ≤ q → A q) (hRc : cells ≤ R.cells) (hRs : slots ≤ R.slots) (hRf : 0 ≤ R.frames) (hRl : 0 ≤ R.locals) (hret : ∀ (r : Int64) (x : St) (H : Heap) (locs : List Loc) (pc : Nat) (ls : Array Slot), decode b_Mod_difference pc = .ok (.lreturn, 1) → post r x → Wd dC dI cI cB cJ cZ ad stM kcM 115 A x H → va_S A s.heap H locs → W p l e R s m args below meth c H locs cells slots Q (F0 m pc ls [.long r])) : ∀ (l1 : Int32) (x : St) (H : Heap) (locs : List Loc) (ls : Array Slot), wp_Mod_difference post l1 x → Wd dC dI cI cB cJ cZ ad stM kcM 115 A x H → va_S A s.heap H locs → lv_has ls 2 [(0, .ref (ad 0)), (1, .int l1)] → W p l e R s m args below meth c H locs cells slots Q (F0 m 0 ls []) := by
  intro l1 x H locs ls  hw hW hS hl
  unfold wp_Mod_difference at hw
  refine lv_aload_n hx hb d_Mod_difference_0 rfl (lv_at hl 0 rfl) ?_
  refine w_getf (q := 43) (k := 70) (t := 12) (C := R_Mod) (T := F_Mod) (N := 167) hx hb hT hown hK hW ko_0.1 ko_0.2 (by decide) in_Mod rfl rfl (by decide) rfl fr_Mod_70 w_9_6 d_Mod_difference_1 rfl ?_
  refine lv_iload_n hx hb d_Mod_difference_4 rfl (lv_at hl 1 rfl) ?_
  refine lv_iconst (v := 1) hx hb d_Mod_difference_5 (by decide) ?_
  refine lv_iadd hx hb d_Mod_difference_6 ?_
  obtain ⟨hi, hw⟩ := hw
  refine w_lald (o := 43) hx hb hK hW ko_43.1 ko_43.2 hi d_Mod_difference_7 ?_
  refine lv_aload_n hx hb d_Mod_difference_8 rfl (lv_at hl 0 rfl) ?_
  refine w_getf (q := 43) (k := 70) (t := 12) (C := R_Mod) (T := F_Mod) (N := 167) hx hb hT hown hK hW ko_0.1 ko_0.2 (by decide) in_Mod rfl rfl (by decide) rfl fr_Mod_70 w_9_6 d_Mod_difference_9 rfl ?_
  refine lv_iload_n hx hb d_Mod_difference_12 rfl (lv_at hl 1 rfl) ?_
  obtain ⟨hi, hw⟩ := hw
  refine w_lald (o := 43) hx hb hK hW ko_43.1 ko_43.2 hi d_Mod_difference_13 ?_
  refine lv_lsub hx hb d_Mod_difference_14 ?_
  exact hret ((rL x 43 (l1 + 1)) - (rL x 43 l1)) x H locs 15 ls d_Mod_difference_15 hw hW hS
set_option maxHeartbeats 4000000 in
set_option maxRecDepth 100000 in
theorem k_Mod_difference (l : Launch) (dC : Nat → ClassId) (dI : Nat → Nat → Nat) (cI cB cJ cZ : ClassId) (ad : Nat → Nat) (sz : Nat) (l1 : Int32) (x : St) {post : Int64 → St → Prop} (hw : wp_Mod_difference post l1 x) : Met l y_Mod_difference (wsOf y_Mod_difference b_Mod_difference 2 (some (.long))) ({ frames := 0, cells := 0, slots := 0, locals := 0 }) (va_Pc [.ref (ad 0), .int l1] (PW dC dI cI cB cJ cZ ad stM kcM 115 sz x)) (va_Ql (fun (r : Int64) (y : St) => post r y) (fun y t => Wd dC dI cI cB cJ cZ ad stM kcM 115 (va_A (pic ad stM kcM 115 cI cB cJ cZ x) sz) y t.heap) (va_A (pic ad stM kcM 115 cI cB cJ cZ x) sz)) 0 0 (va_A (pic ad stM kcM 115 cI cB cJ cZ x) sz) := by
  refine Met.ofW (cc := b_Mod_difference) (maxL := 2) (ret := some (.long)) (by decide) rfl ?_
  intro p e s m args below meth c s₁ B hml hv
  obtain ⟨rfl, hsz, hW0, hK, hN⟩ := hv
  have hx := B.exec
  have hb := B.bytes
  have hr := B.returns
  have hts := atoms_spec B.pre
  have hT : ∀ w ∈ TG, w.before _ s = true := fun w h => hts w (List.mem_cons_of_mem _ h)
  have hown : s.vm.findClass R_Mod = some m.cls := findClass_of_methodNamed B.named
  have hlocks := B.notSynchronized
  subst hsz
  have hW : Wd dC dI cI cB cJ cZ ad stM kcM 115 (va_A (pic ad stM kcM 115 cI cB cJ cZ x) s.heap.size) x s.heap := ⟨hW0.1, hW0.2.1.self (sz := s.heap.size), hW0.2.2⟩
  generalize hAe : va_A (pic ad stM kcM 115 cI cB cJ cZ x) s.heap.size = A at hW ⊢
  have hA : ∀ q : Nat, s.heap.size ≤ q → A q := fun q h => by rw [← hAe]; exact Or.inr h
  have hS : va_S A s.heap s.heap [] := va_S.rf
  have hl := lv_entry ([.ref (ad 0), .int l1]) (n := 2) (Nat.le_of_ble_eq_true rfl)
  rw [lg_entry_eq]
  generalize (lg_sl ([.ref (ad 0), .int l1]) ++ List.replicate (2 - (lg_sl ([.ref (ad 0), .int l1])).length) Slot.unset).toArray = ls at hl ⊢
  have hl : lv_has ls 2 [(0, .ref (ad 0)), (1, .int l1)] := hl
  exact t_Mod_difference_e hx hb hml hown hT hK hN hA (Nat.le_refl 0) (Nat.le_refl 0) (Nat.le_refl 0) (Nat.le_refl 0) (fun r x H locs pc ls hd hp hW hS => W.lret (v := r) hx hb hr (fun t ht hM => ⟨⟨r, x, rfl, hp, Wd.back hW ht.symm (fun _ z => z)⟩, hS.F ht⟩) hS.2.2 hd hlocks)  l1 x _ _ ls  hw hW hS hl
set_option maxRecDepth 100000 in
set_option maxHeartbeats 4000000 in
set_option maxRecDepth 100000 in
theorem t_Mod_widthOf_56 {p : Program} {l : Launch} {e : Env} {R : Room} {s : State} {m : MethodId} {args : Array Value} {below : List Frame} {meth : Method} {c : Code} {cells slots : Nat} {Q : State → Prop} {dC : Nat → ClassId} {dI : Nat → Nat → Nat} {cI cB cJ cZ : ClassId} {A : Nat → Prop} {ad : Nat → Nat} {post : Int32 → St → Prop} (hx : p.tables.exec = Jvm.exec) (hb : c.code = b_Mod_widthOf) (hml : c.maxLocals = 7) (hown : s.vm.findClass R_Mod = some m.cls) (hT : ∀ w ∈ TG, w.before args s = true) (hK : va_K (dC, dI) CL (TY cI cB cJ cZ) s) (hN : NW s) (hA : ∀ q : Nat, s.heap.size ≤ q → A q) (hRc : cells ≤ R.cells) (hRs : slots ≤ R.slots) (hRf : 1 ≤ R.frames) (hRl : 21 ≤ R.locals) (hret : ∀ (r : Int32) (x : St) (H : Heap) (locs : List Loc) (pc : Nat) (ls : Array Slot), decode b_Mod_widthOf pc = .ok (.ireturn, 1) → post r x → Wd dC dI cI cB cJ cZ ad stM kcM 115 A x H → va_S A s.heap H locs → W p l e R s m args below meth c H locs cells slots Q (F0 m pc ls [.int r]))  : ∀ (l1 : Int32) (l2 : Int32) (l3 : Int64) (l5 : Int32) (l6 : Int32) (x : St) (H : Heap) (locs : List Loc) (ls : Array Slot), j_Mod_widthOf_56 post l1 l2 l3 l5 l6 x → Wd dC dI cI cB cJ cZ ad stM kcM 115 A x H → va_S A s.heap H locs → lv_has ls 7 [(0, .ref (ad 0)), (1, .int l1), (2, .int l2), (3, .long l3), (5, .int l5), (6, .int l6)] → W p l e R s m args below meth c H locs cells slots Q (F0 m 56 ls []) := by
  intro l1 l2 l3 l5 l6 x H locs ls  hw hW hS hl
  unfold j_Mod_widthOf_56 at hw
  refine lv_iload hx hb d_Mod_widthOf_56 (lv_at hl 4 rfl) ?_
  exact hret l5 x H locs 58 ls d_Mod_widthOf_58 hw hW hS
set_option maxRecDepth 100000 in
set_option maxHeartbeats 4000000 in
set_option maxRecDepth 100000 in
theorem t_Mod_widthOf_50 {p : Program} {l : Launch} {e : Env} {R : Room} {s : State} {m : MethodId} {args : Array Value} {below : List Frame} {meth : Method} {c : Code} {cells slots : Nat} {Q : State → Prop} {dC : Nat → ClassId} {dI : Nat → Nat → Nat} {cI cB cJ cZ : ClassId} {A : Nat → Prop} {ad : Nat → Nat} {post : Int32 → St → Prop} {rec6 : Int32 → Int32 → Int64 → Int32 → Int32 → St → Prop} (hx : p.tables.exec = Jvm.exec) (hb : c.code = b_Mod_widthOf) (hml : c.maxLocals = 7) (hown : s.vm.findClass R_Mod = some m.cls) (hT : ∀ w ∈ TG, w.before args s = true) (hK : va_K (dC, dI) CL (TY cI cB cJ cZ) s) (hN : NW s) (hA : ∀ q : Nat, s.heap.size ≤ q → A q) (hRc : cells ≤ R.cells) (hRs : slots ≤ R.slots) (hRf : 1 ≤ R.frames) (hRl : 21 ≤ R.locals) (hret : ∀ (r : Int32) (x : St) (H : Heap) (locs : List Loc) (pc : Nat) (ls : Array Slot), decode b_Mod_widthOf pc = .ok (.ireturn, 1) → post r x → Wd dC dI cI cB cJ cZ ad stM kcM 115 A x H → va_S A s.heap H locs → W p l e R s m args below meth c H locs cells slots Q (F0 m pc ls [.int r])) (hrec6 : ∀ (l1 : Int32) (l2 : Int32) (l3 : Int64) (l5 : Int32) (l6 : Int32) (x : St) (H : Heap) (locs : List Loc) (ls : Array Slot), rec6 l1 l2 l3 l5 l6 x → Wd dC dI cI cB cJ cZ ad stM kcM 115 A x H → va_S A s.heap H locs → lv_has ls 7 [(0, .ref (ad 0)), (1, .int l1), (2, .int l2), (3, .long l3), (5, .int l5), (6, .int l6)] → W p l e R s m args below meth c H locs cells slots Q (F0 m 6 ls [])) : ∀ (l1 : Int32) (l2 : Int32) (l3 : Int64) (l5 : Int32) (l6 : Int32) (x : St) (H : Heap) (locs : List Loc) (ls : Array Slot), j_Mod_widthOf_50 post rec6 l1 l2 l3 l5 l6 x → Wd dC dI cI cB cJ cZ ad stM kcM 115 A x H → va_S A s.heap H locs → lv_has ls 7 [(0, .ref (ad 0)), (1, .int l1), (2, .int l2), (3, .long l3), (5, .int l5), (6, .int l6)] → W p l e R s m args below meth c H locs cells slots Q (F0 m 50 ls []) := by
  intro l1 l2 l3 l5 l6 x H locs ls  hw hW hS hl
  unfold j_Mod_widthOf_50 at hw
  refine lv_iinc (v := (l6 + 1)) (lv' := [(6, .int (l6 + 1)), (0, .ref (ad 0)), (1, .int l1), (2, .int l2), (3, .long l3), (5, .int l5)]) hx hb d_Mod_widthOf_50 hl (k := 5) rfl rfl (by decide) rfl (fun ls hl => ?_)
  refine lv_goto (tgt := 6) hx hb d_Mod_widthOf_53 (by decide) ?_
  exact hrec6 l1 l2 l3 l5 (l6 + 1) x H locs ls  hw hW hS (lv_sub hl [1, 2, 3, 4, 5, 0] rfl)
set_option maxRecDepth 100000 in
set_option maxHeartbeats 4000000 in
set_option maxRecDepth 100000 in
theorem t_Mod_widthOf_21 {p : Program} {l : Launch} {e : Env} {R : Room} {s : State} {m : MethodId} {args : Array Value} {below : List Frame} {meth : Method} {c : Code} {cells slots : Nat} {Q : State → Prop} {dC : Nat → ClassId} {dI : Nat → Nat → Nat} {cI cB cJ cZ : ClassId} {A : Nat → Prop} {ad : Nat → Nat} {post : Int32 → St → Prop} {rec6 : Int32 → Int32 → Int64 → Int32 → Int32 → St → Prop} {rec21 : Int32 → Int32 → Int64 → Int32 → Int32 → St → Prop} (hx : p.tables.exec = Jvm.exec) (hb : c.code = b_Mod_widthOf) (hml : c.maxLocals = 7) (hown : s.vm.findClass R_Mod = some m.cls) (hT : ∀ w ∈ TG, w.before args s = true) (hK : va_K (dC, dI) CL (TY cI cB cJ cZ) s) (hN : NW s) (hA : ∀ q : Nat, s.heap.size ≤ q → A q) (hRc : cells ≤ R.cells) (hRs : slots ≤ R.slots) (hRf : 1 ≤ R.frames) (hRl : 21 ≤ R.locals) (hret : ∀ (r : Int32) (x : St) (H : Heap) (locs : List Loc) (pc : Nat) (ls : Array Slot), decode b_Mod_widthOf pc = .ok (.ireturn, 1) → post r x → Wd dC dI cI cB cJ cZ ad stM kcM 115 A x H → va_S A s.heap H locs → W p l e R s m args below meth c H locs cells slots Q (F0 m pc ls [.int r])) (hrec6 : ∀ (l1 : Int32) (l2 : Int32) (l3 : Int64) (l5 : Int32) (l6 : Int32) (x : St) (H : Heap) (locs : List Loc) (ls : Array Slot), rec6 l1 l2 l3 l5 l6 x → Wd dC dI cI cB cJ cZ ad stM kcM 115 A x H → va_S A s.heap H locs → lv_has ls 7 [(0, .ref (ad 0)), (1, .int l1), (2, .int l2), (3, .long l3), (5, .int l5), (6, .int l6)] → W p l e R s m args below meth c H locs cells slots Q (F0 m 6 ls [])) (hrec21 : ∀ (l1 : Int32) (l2 : Int32) (l3 : Int64) (l5 : Int32) (l6 : Int32) (x : St) (H : Heap) (locs : List Loc) (ls : Array Slot), rec21 l1 l2 l3 l5 l6 x → Wd dC dI cI cB cJ cZ ad stM kcM 115 A x H → va_S A s.heap H locs → lv_has ls 7 [(0, .ref (ad 0)), (1, .int l1), (2, .int l2), (3, .long l3), (5, .int l5), (6, .int l6)] → W p l e R s m args below meth c H locs cells slots Q (F0 m 21 ls [])) : ∀ (l1 : Int32) (l2 : Int32) (l3 : Int64) (l5 : Int32) (l6 : Int32) (x : St) (H : Heap) (locs : List Loc) (ls : Array Slot), j_Mod_widthOf_21 post rec6 rec21 l1 l2 l3 l5 l6 x → Wd dC dI cI cB cJ cZ ad stM kcM 115 A x H → va_S A s.heap H locs → lv_has ls 7 [(0, .ref (ad 0)), (1, .int l1), (2, .int l2), (3, .long l3), (5, .int l5), (6, .int l6)] → W p l e R s m args below meth c H locs cells slots Q (F0 m 21 ls []) := by
  intro l1 l2 l3 l5 l6 x H locs ls  hw hW hS hl
  unfold j_Mod_widthOf_21 at hw
  refine lv_iload hx hb d_Mod_widthOf_21 (lv_at hl 4 rfl) ?_
  refine lv_bipush (v := 64) hx hb d_Mod_widthOf_23 (by decide) ?_
  refine lv_icmp_ge (tgt := 50) hx hb d_Mod_widthOf_25 (by decide) (fun c542 => ?_) (fun c542 => ?_)
  · have hw := hw.1 c542
    exact t_Mod_widthOf_50 hx hb hml hown hT hK hN hA hRc hRs hRf hRl hret hrec6 l1 l2 l3 l5 l6 x H locs ls  hw hW hS (lv_sub hl [0, 1, 2, 3, 4, 5] rfl)
  · have hw := hw.2 c542
    refine lv_aload_n hx hb d_Mod_widthOf_28 rfl (lv_at hl 0 rfl) ?_
    refine lv_iload hx hb d_Mod_widthOf_29 (lv_at hl 5 rfl) ?_
    have hF := hW.free hS hA
    refine va_calll (va_runV (C := R_Mod) (As := [.int l6]) (rest := []) ⟨hx, hb, hml, hown, hT⟩ (k_Mod_difference l dC dI cI cB cJ cZ ad H.size l6 x  hw) ⟨callB_of 1 hT (gwt_in w_11_223) rfl rfl rfl (hT _ w_1_15) (hT _ w_11_220) (by decide +kernel) ⟨Nat.le_trans (Nat.le_of_ble_eq_true rfl) hRf, Nat.le_trans (Nat.le_of_ble_eq_true rfl) hRl⟩, hT _ w_11_222, hT _ ws_158⟩ ⟨PW.blind, va_recv hK hW.1 (ci := 12) (q0 := 0) rfl (pic_obj ko_0.1 ko_0.2 (by decide)), PW.at _ hW hK hN⟩ rfl rfl hl.1 rfl (lv_room (Nat.le_of_ble_eq_true rfl)) d_Mod_widthOf_31 ⟨hRc, hRs⟩) hS (fun q _ h => hF q h) hF (fun r544 x543 t H locs ht hvm hw hB hz1 hk1 hS => ?_)
    have hW := Wd.back hB ht hF
    clear hB ht hF hz1 hk1 hvm
    refine lv_lload_n hx hb d_Mod_widthOf_34 rfl (lv_at hl 3 rfl) ?_
    refine lv_lsub hx hb d_Mod_widthOf_35 ?_
    refine lv_iload hx hb d_Mod_widthOf_36 (lv_at hl 4 rfl) ?_
    refine lv_lushr hx hb d_Mod_widthOf_38 rfl ?_
    refine lv_lconst (v := 0) hx hb d_Mod_widthOf_39 (by decide) ?_
    refine W.lcmp hx hb d_Mod_widthOf_40 ?_
    refine lv_if_eq (tgt := 50) hx hb d_Mod_widthOf_41 (by decide) (fun c545 => ?_) (fun c545 => ?_)
    · have hw := hw.1 c545
      exact t_Mod_widthOf_50 hx hb hml hown hT hK hN hA hRc hRs hRf hRl hret hrec6 l1 l2 l3 l5 l6 x543 H locs ls  hw hW hS (lv_sub hl [0, 1, 2, 3, 4, 5] rfl)
    · have hw := hw.2 c545
      refine lv_iinc (v := (l5 + 1)) (lv' := [(5, .int (l5 + 1)), (0, .ref (ad 0)), (1, .int l1), (2, .int l2), (3, .long l3), (6, .int l6)]) hx hb d_Mod_widthOf_44 hl (k := 4) rfl rfl (by decide) rfl (fun ls hl => ?_)
      refine lv_goto (tgt := 21) hx hb d_Mod_widthOf_47 (by decide) ?_
      exact hrec21 l1 l2 l3 (l5 + 1) l6 x543 H locs ls  hw hW hS (lv_sub hl [1, 2, 3, 4, 0, 5] rfl)
set_option maxHeartbeats 4000000 in
set_option maxRecDepth 100000 in
theorem tl_Mod_widthOf_21 {p : Program} {l : Launch} {e : Env} {R : Room} {s : State} {m : MethodId} {args : Array Value} {below : List Frame} {meth : Method} {c : Code} {cells slots : Nat} {Q : State → Prop} {dC : Nat → ClassId} {dI : Nat → Nat → Nat} {cI cB cJ cZ : ClassId} {A : Nat → Prop} {ad : Nat → Nat} {post : Int32 → St → Prop} {rec6 : Int32 → Int32 → Int64 → Int32 → Int32 → St → Prop} (hx : p.tables.exec = Jvm.exec) (hb : c.code = b_Mod_widthOf) (hml : c.maxLocals = 7) (hown : s.vm.findClass R_Mod = some m.cls) (hT : ∀ w ∈ TG, w.before args s = true) (hK : va_K (dC, dI) CL (TY cI cB cJ cZ) s) (hN : NW s) (hA : ∀ q : Nat, s.heap.size ≤ q → A q) (hRc : cells ≤ R.cells) (hRs : slots ≤ R.slots) (hRf : 1 ≤ R.frames) (hRl : 21 ≤ R.locals) (hret : ∀ (r : Int32) (x : St) (H : Heap) (locs : List Loc) (pc : Nat) (ls : Array Slot), decode b_Mod_widthOf pc = .ok (.ireturn, 1) → post r x → Wd dC dI cI cB cJ cZ ad stM kcM 115 A x H → va_S A s.heap H locs → W p l e R s m args below meth c H locs cells slots Q (F0 m pc ls [.int r])) (hrec6 : ∀ (l1 : Int32) (l2 : Int32) (l3 : Int64) (l5 : Int32) (l6 : Int32) (x : St) (H : Heap) (locs : List Loc) (ls : Array Slot), rec6 l1 l2 l3 l5 l6 x → Wd dC dI cI cB cJ cZ ad stM kcM 115 A x H → va_S A s.heap H locs → lv_has ls 7 [(0, .ref (ad 0)), (1, .int l1), (2, .int l2), (3, .long l3), (5, .int l5), (6, .int l6)] → W p l e R s m args below meth c H locs cells slots Q (F0 m 6 ls [])) : ∀ n : Nat, ∀ (l1 : Int32) (l2 : Int32) (l3 : Int64) (l5 : Int32) (l6 : Int32) (x : St) (H : Heap) (locs : List Loc) (ls : Array Slot), wl_Mod_widthOf_21 post rec6 n l1 l2 l3 l5 l6 x → Wd dC dI cI cB cJ cZ ad stM kcM 115 A x H → va_S A s.heap H locs → lv_has ls 7 [(0, .ref (ad 0)), (1, .int l1), (2, .int l2), (3, .long l3), (5, .int l5), (6, .int l6)] → W p l e R s m args below meth c H locs cells slots Q (F0 m 21 ls []) := by
  intro n
  induction n with
  | zero => intro l1 l2 l3 l5 l6 x H locs ls  hw; exact hw.elim
  | succ n ih => intro l1 l2 l3 l5 l6 x H locs ls  hw hW hS hl; exact t_Mod_widthOf_21 hx hb hml hown hT hK hN hA hRc hRs hRf hRl hret hrec6 ih l1 l2 l3 l5 l6 x H locs ls  hw hW hS hl
set_option maxRecDepth 100000 in
set_option maxHeartbeats 4000000 in
set_option maxRecDepth 100000 in
theorem t_Mod_widthOf_6 {p : Program} {l : Launch} {e : Env} {R : Room} {s : State} {m : MethodId} {args : Array Value} {below : List Frame} {meth : Method} {c : Code} {cells slots : Nat} {Q : State → Prop} {dC : Nat → ClassId} {dI : Nat → Nat → Nat} {cI cB cJ cZ : ClassId} {A : Nat → Prop} {ad : Nat → Nat} {post : Int32 → St → Prop} {rec6 : Int32 → Int32 → Int64 → Int32 → Int32 → St → Prop} (hx : p.tables.exec = Jvm.exec) (hb : c.code = b_Mod_widthOf) (hml : c.maxLocals = 7) (hown : s.vm.findClass R_Mod = some m.cls) (hT : ∀ w ∈ TG, w.before args s = true) (hK : va_K (dC, dI) CL (TY cI cB cJ cZ) s) (hN : NW s) (hA : ∀ q : Nat, s.heap.size ≤ q → A q) (hRc : cells ≤ R.cells) (hRs : slots ≤ R.slots) (hRf : 1 ≤ R.frames) (hRl : 21 ≤ R.locals) (hret : ∀ (r : Int32) (x : St) (H : Heap) (locs : List Loc) (pc : Nat) (ls : Array Slot), decode b_Mod_widthOf pc = .ok (.ireturn, 1) → post r x → Wd dC dI cI cB cJ cZ ad stM kcM 115 A x H → va_S A s.heap H locs → W p l e R s m args below meth c H locs cells slots Q (F0 m pc ls [.int r])) (hrec6 : ∀ (l1 : Int32) (l2 : Int32) (l3 : Int64) (l5 : Int32) (l6 : Int32) (x : St) (H : Heap) (locs : List Loc) (ls : Array Slot), rec6 l1 l2 l3 l5 l6 x → Wd dC dI cI cB cJ cZ ad stM kcM 115 A x H → va_S A s.heap H locs → lv_has ls 7 [(0, .ref (ad 0)), (1, .int l1), (2, .int l2), (3, .long l3), (5, .int l5), (6, .int l6)] → W p l e R s m args below meth c H locs cells slots Q (F0 m 6 ls [])) : ∀ (l1 : Int32) (l2 : Int32) (l3 : Int64) (l5 : Int32) (l6 : Int32) (x : St) (H : Heap) (locs : List Loc) (ls : Array Slot), j_Mod_widthOf_6 post rec6 l1 l2 l3 l5 l6 x → Wd dC dI cI cB cJ cZ ad stM kcM 115 A x H → va_S A s.heap H locs → lv_has ls 7 [(0, .ref (ad 0)), (1, .int l1), (2, .int l2), (3, .long l3), (5, .int l5), (6, .int l6)] → W p l e R s m args below meth c H locs cells slots Q (F0 m 6 ls []) := by
  intro l1 l2 l3 l5 l6 x H locs ls  hw hW hS hl
  unfold j_Mod_widthOf_6 at hw
  refine lv_iload hx hb d_Mod_widthOf_6 (lv_at hl 5 rfl) ?_
  refine lv_iload_n hx hb d_Mod_widthOf_8 rfl (lv_at hl 1 rfl) ?_
  refine lv_bipush (v := 16) hx hb d_Mod_widthOf_9 (by decide) ?_
  refine lv_iadd hx hb d_Mod_widthOf_11 ?_
  refine lv_icmp_ge (tgt := 56) hx hb d_Mod_widthOf_12 (by decide) (fun c546 => ?_) (fun c546 => ?_)
  · have hw := hw.1 c546
    exact t_Mod_widthOf_56 hx hb hml hown hT hK hN hA hRc hRs hRf hRl hret  l1 l2 l3 l5 l6 x H locs ls  hw hW hS (lv_sub hl [0, 1, 2, 3, 4, 5] rfl)
  · have hw := hw.2 c546
    refine lv_iload hx hb d_Mod_widthOf_15 (lv_at hl 5 rfl) ?_
    refine lv_iload_n hx hb d_Mod_widthOf_17 rfl (lv_at hl 2 rfl) ?_
    refine lv_icmp_ge (tgt := 56) hx hb d_Mod_widthOf_18 (by decide) (fun c547 => ?_) (fun c547 => ?_)
    · have hw := hw.1 c547
      exact t_Mod_widthOf_56 hx hb hml hown hT hK hN hA hRc hRs hRf hRl hret  l1 l2 l3 l5 l6 x H locs ls  hw hW hS (lv_sub hl [0, 1, 2, 3, 4, 5] rfl)
    · have hw := hw.2 c547
      obtain ⟨n, hw⟩ := hw
      exact tl_Mod_widthOf_21 hx hb hml hown hT hK hN hA hRc hRs hRf hRl hret hrec6 n l1 l2 l3 l5 l6 x H locs ls  hw hW hS (lv_sub hl [0, 1, 2, 3, 4, 5] rfl)
set_option maxHeartbeats 4000000 in
set_option maxRecDepth 100000 in
theorem tl_Mod_widthOf_6 {p : Program} {l : Launch} {e : Env} {R : Room} {s : State} {m : MethodId} {args : Array Value} {below : List Frame} {meth : Method} {c : Code} {cells slots : Nat} {Q : State → Prop} {dC : Nat → ClassId} {dI : Nat → Nat → Nat} {cI cB cJ cZ : ClassId} {A : Nat → Prop} {ad : Nat → Nat} {post : Int32 → St → Prop} (hx : p.tables.exec = Jvm.exec) (hb : c.code = b_Mod_widthOf) (hml : c.maxLocals = 7) (hown : s.vm.findClass R_Mod = some m.cls) (hT : ∀ w ∈ TG, w.before args s = true) (hK : va_K (dC, dI) CL (TY cI cB cJ cZ) s) (hN : NW s) (hA : ∀ q : Nat, s.heap.size ≤ q → A q) (hRc : cells ≤ R.cells) (hRs : slots ≤ R.slots) (hRf : 1 ≤ R.frames) (hRl : 21 ≤ R.locals) (hret : ∀ (r : Int32) (x : St) (H : Heap) (locs : List Loc) (pc : Nat) (ls : Array Slot), decode b_Mod_widthOf pc = .ok (.ireturn, 1) → post r x → Wd dC dI cI cB cJ cZ ad stM kcM 115 A x H → va_S A s.heap H locs → W p l e R s m args below meth c H locs cells slots Q (F0 m pc ls [.int r]))  : ∀ n : Nat, ∀ (l1 : Int32) (l2 : Int32) (l3 : Int64) (l5 : Int32) (l6 : Int32) (x : St) (H : Heap) (locs : List Loc) (ls : Array Slot), wl_Mod_widthOf_6 post n l1 l2 l3 l5 l6 x → Wd dC dI cI cB cJ cZ ad stM kcM 115 A x H → va_S A s.heap H locs → lv_has ls 7 [(0, .ref (ad 0)), (1, .int l1), (2, .int l2), (3, .long l3), (5, .int l5), (6, .int l6)] → W p l e R s m args below meth c H locs cells slots Q (F0 m 6 ls []) := by
  intro n
  induction n with
  | zero => intro l1 l2 l3 l5 l6 x H locs ls  hw; exact hw.elim
  | succ n ih => intro l1 l2 l3 l5 l6 x H locs ls  hw hW hS hl; exact t_Mod_widthOf_6 hx hb hml hown hT hK hN hA hRc hRs hRf hRl hret  ih l1 l2 l3 l5 l6 x H locs ls  hw hW hS hl
set_option maxRecDepth 100000 in
set_option maxHeartbeats 4000000 in
set_option maxRecDepth 100000 in
theorem t_Mod_widthOf_e {p : Program} {l : Launch} {e : Env} {R : Room} {s : State} {m : MethodId} {args : Array Value} {below : List Frame} {meth : Method} {c : Code} {cells slots : Nat} {Q : State → Prop} {dC : Nat → ClassId} {dI : Nat → Nat → Nat} {cI cB cJ cZ : ClassId} {A : Nat → Prop} {ad : Nat → Nat} {post : Int32 → St → Prop} (hx : p.tables.exec = Jvm.exec) (hb : c.code = b_Mod_widthOf) (hml : c.maxLocals = 7) (hown : s.vm.findClass R_Mod = some m.cls) (hT : ∀ w ∈ TG, w.before args s = true) (hK : va_K (dC, dI) CL (TY cI cB cJ cZ) s) (hN : NW s) (hA : ∀ q : Nat, s.heap.size ≤ q → A q) (hRc : cells ≤ R.cells) (hRs : slots ≤ R.slots) (hRf : 1 ≤ R.frames) (hRl : 21 ≤ R.locals) (hret : ∀ (r : Int32) (x : St) (H : Heap) (locs : List Loc) (pc : Nat) (ls : Array Slot), decode b_Mod_widthOf pc = .ok (.ireturn, 1) → post r x → Wd dC dI cI cB cJ cZ ad stM kcM 115 A x H → va_S A s.heap H locs → W p l e R s m args below meth c H locs cells slots Q (F0 m pc ls [.int r])) : ∀ (l1 : Int32) (l2 : Int32) (l3 : Int64) (x : St) (H : Heap) (locs : List Loc) (ls : Array Slot), wp_Mod_widthOf post l1 l2 l3 x → Wd dC dI cI cB cJ cZ ad stM kcM 115 A x H → va_S A s.heap H locs → lv_has ls 7 [(0, .ref (ad 0)), (1, .int l1), (2, .int l2), (3, .long l3)] → W p l e R s m args below meth c H locs cells slots Q (F0 m 0 ls []) := by
  intro l1 l2 l3 x H locs ls  hw hW hS hl
  unfold wp_Mod_widthOf at hw
  refine lv_iconst (v := 0) hx hb d_Mod_widthOf_0 (by decide) ?_
  refine lv_istore (lv' := [(5, .int 0), (0, .ref (ad 0)), (1, .int l1), (2, .int l2), (3, .long l3)]) hx hb d_Mod_widthOf_1 hl (by decide) rfl (fun ls hl => ?_)
  refine lv_iload_n hx hb d_Mod_widthOf_3 rfl (lv_at hl 2 rfl) ?_
  refine lv_istore (lv' := [(6, .int l1), (5, .int 0), (0, .ref (ad 0)), (1, .int l1), (2, .int l2), (3, .long l3)]) hx hb d_Mod_widthOf_4 hl (by decide) rfl (fun ls hl => ?_)
  obtain ⟨n, hw⟩ := hw
  exact tl_Mod_widthOf_6 hx hb hml hown hT hK hN hA hRc hRs hRf hRl hret  n l1 l2 l3 0 l1 x H locs ls  hw hW hS (lv_sub hl [2, 3, 4, 5, 1, 0] rfl)
set_option maxHeartbeats 4000000 in
set_option maxRecDepth 100000 in
theorem k_Mod_widthOf (l : Launch) (dC : Nat → ClassId) (dI : Nat → Nat → Nat) (cI cB cJ cZ : ClassId) (ad : Nat → Nat) (sz : Nat) (l1 : Int32) (l2 : Int32) (l3 : Int64) (x : St) {post : Int32 → St → Prop} (hw : wp_Mod_widthOf post l1 l2 l3 x) : Met l y_Mod_widthOf (wsOf y_Mod_widthOf b_Mod_widthOf 7 (some (.int))) ({ frames := 1, cells := 0, slots := 0, locals := 21 }) (va_Pc [.ref (ad 0), .int l1, .int l2, .long l3] (PW dC dI cI cB cJ cZ ad stM kcM 115 sz x)) (va_Qi (fun (r : Int32) (y : St) => post r y) (fun y t => Wd dC dI cI cB cJ cZ ad stM kcM 115 (va_A (pic ad stM kcM 115 cI cB cJ cZ x) sz) y t.heap) (va_A (pic ad stM kcM 115 cI cB cJ cZ x) sz)) 0 0 (va_A (pic ad stM kcM 115 cI cB cJ cZ x) sz) := by
  refine Met.ofW (cc := b_Mod_widthOf) (maxL := 7) (ret := some (.int)) (by decide) rfl ?_
  intro p e s m args below meth c s₁ B hml hv
  obtain ⟨rfl, hsz, hW0, hK, hN⟩ := hv
  have hx := B.exec
  have hb := B.bytes
  have hr := B.returns
  have hts := atoms_spec B.pre
  have hT : ∀ w ∈ TG, w.before _ s = true := fun w h => hts w (List.mem_cons_of_mem _ h)
  have hown : s.vm.findClass R_Mod = some m.cls := findClass_of_methodNamed B.named
  have hlocks := B.notSynchronized
  subst hsz
  have hW : Wd dC dI cI cB cJ cZ ad stM kcM 115 (va_A (pic ad stM kcM 115 cI cB cJ cZ x) s.heap.size) x s.heap := ⟨hW0.1, hW0.2.1.self (sz := s.heap.size), hW0.2.2⟩
  generalize hAe : va_A (pic ad stM kcM 115 cI cB cJ cZ x) s.heap.size = A at hW ⊢
  have hA : ∀ q : Nat, s.heap.size ≤ q → A q := fun q h => by rw [← hAe]; exact Or.inr h
  have hS : va_S A s.heap s.heap [] := va_S.rf
  have hl := lv_entry ([.ref (ad 0), .int l1, .int l2, .long l3]) (n := 7) (Nat.le_of_ble_eq_true rfl)
  rw [lg_entry_eq]
  generalize (lg_sl ([.ref (ad 0), .int l1, .int l2, .long l3]) ++ List.replicate (7 - (lg_sl ([.ref (ad 0), .int l1, .int l2, .long l3])).length) Slot.unset).toArray = ls at hl ⊢
  have hl : lv_has ls 7 [(0, .ref (ad 0)), (1, .int l1), (2, .int l2), (3, .long l3)] := hl
  exact t_Mod_widthOf_e hx hb hml hown hT hK hN hA (Nat.le_refl 0) (Nat.le_refl 0) (Nat.le_refl 1) (Nat.le_refl 21) (fun r x H locs pc ls hd hp hW hS => W.iret (v := r) hx hb hr (fun t ht hM => ⟨⟨r, x, rfl, hp, Wd.back hW ht.symm (fun _ z => z)⟩, hS.F ht⟩) hS.2.2 hd hlocks)  l1 l2 l3 x _ _ ls  hw hW hS hl
set_option maxRecDepth 100000 in
set_option maxHeartbeats 4000000 in
set_option maxRecDepth 100000 in
theorem t_Mod_writePart_72 {p : Program} {l : Launch} {e : Env} {R : Room} {s : State} {m : MethodId} {args : Array Value} {below : List Frame} {meth : Method} {c : Code} {cells slots : Nat} {Q : State → Prop} {dC : Nat → ClassId} {dI : Nat → Nat → Nat} {cI cB cJ cZ : ClassId} {A : Nat → Prop} {ad : Nat → Nat} {post : St → Prop} {rec3 : Int32 → Int32 → Int64 → Int32 → Int32 → St → Prop} {rec19 : Int32 → Int32 → Int64 → Int32 → Int32 → Int32 → Int32 → St → Prop} (hx : p.tables.exec = Jvm.exec) (hb : c.code = b_Mod_writePart) (hml : c.maxLocals = 10) (hown : s.vm.findClass R_Mod = some m.cls) (hT : ∀ w ∈ TG, w.before args s = true) (hK : va_K (dC, dI) CL (TY cI cB cJ cZ) s) (hN : NW s) (hA : ∀ q : Nat, s.heap.size ≤ q → A q) (hRc : cells ≤ R.cells) (hRs : slots ≤ R.slots) (hRf : 1 ≤ R.frames) (hRl : 21 ≤ R.locals) (hret : ∀ (x : St) (H : Heap) (locs : List Loc) (pc : Nat) (ls : Array Slot), decode b_Mod_writePart pc = .ok (.return_, 1) → post x → Wd dC dI cI cB cJ cZ ad stM kcM 115 A x H → va_S A s.heap H locs → W p l e R s m args below meth c H locs cells slots Q (F0 m pc ls [])) (hrec3 : ∀ (l1 : Int32) (l2 : Int32) (l3 : Int64) (l5 : Int32) (l6 : Int32) (x : St) (H : Heap) (locs : List Loc) (ls : Array Slot), rec3 l1 l2 l3 l5 l6 x → Wd dC dI cI cB cJ cZ ad stM kcM 115 A x H → va_S A s.heap H locs → lv_has ls 10 [(0, .ref (ad 0)), (1, .int l1), (2, .int l2), (3, .long l3), (5, .int l5), (6, .int l6)] → W p l e R s m args below meth c H locs cells slots Q (F0 m 3 ls [])) (hrec19 : ∀ (l1 : Int32) (l2 : Int32) (l3 : Int64) (l5 : Int32) (l6 : Int32) (l7 : Int32) (l8 : Int32) (x : St) (H : Heap) (locs : List Loc) (ls : Array Slot), rec19 l1 l2 l3 l5 l6 l7 l8 x → Wd dC dI cI cB cJ cZ ad stM kcM 115 A x H → va_S A s.heap H locs → lv_has ls 10 [(0, .ref (ad 0)), (1, .int l1), (2, .int l2), (3, .long l3), (5, .int l5), (6, .int l6), (7, .int l7), (8, .int l8)] → W p l e R s m args below meth c H locs cells slots Q (F0 m 19 ls [])) : ∀ (l1 : Int32) (l2 : Int32) (l3 : Int64) (l5 : Int32) (l6 : Int32) (l7 : Int32) (l8 : Int32) (l9 : Int32) (x : St) (H : Heap) (locs : List Loc) (ls : Array Slot), j_Mod_writePart_72 post rec3 rec19 l1 l2 l3 l5 l6 l7 l8 l9 x → Wd dC dI cI cB cJ cZ ad stM kcM 115 A x H → va_S A s.heap H locs → lv_has ls 10 [(0, .ref (ad 0)), (1, .int l1), (2, .int l2), (3, .long l3), (5, .int l5), (6, .int l6), (7, .int l7), (8, .int l8), (9, .int l9)] → W p l e R s m args below meth c H locs cells slots Q (F0 m 72 ls []) := by
  intro l1 l2 l3 l5 l6 l7 l8 l9 x H locs ls  hw hW hS hl
  unfold j_Mod_writePart_72 at hw
  refine lv_iinc (v := (l8 + 1)) (lv' := [(8, .int (l8 + 1)), (0, .ref (ad 0)), (1, .int l1), (2, .int l2), (3, .long l3), (5, .int l5), (6, .int l6), (7, .int l7), (9, .int l9)]) hx hb d_Mod_writePart_72 hl (k := 7) rfl rfl (by decide) rfl (fun ls hl => ?_)
  refine lv_goto (tgt := 19) hx hb d_Mod_writePart_75 (by decide) ?_
  exact hrec19 l1 l2 l3 l5 l6 l7 (l8 + 1) x H locs ls  hw hW hS (lv_sub hl [1, 2, 3, 4, 5, 6, 7, 0] rfl)
set_option maxRecDepth 100000 in
set_option maxHeartbeats 4000000 in
set_option maxRecDepth 100000 in
theorem t_Mod_writePart_19 {p : Program} {l : Launch} {e : Env} {R : Room} {s : State} {m : MethodId} {args : Array Value} {below : List Frame} {meth : Method} {c : Code} {cells slots : Nat} {Q : State → Prop} {dC : Nat → ClassId} {dI : Nat → Nat → Nat} {cI cB cJ cZ : ClassId} {A : Nat → Prop} {ad : Nat → Nat} {post : St → Prop} {rec3 : Int32 → Int32 → Int64 → Int32 → Int32 → St → Prop} {rec19 : Int32 → Int32 → Int64 → Int32 → Int32 → Int32 → Int32 → St → Prop} (hx : p.tables.exec = Jvm.exec) (hb : c.code = b_Mod_writePart) (hml : c.maxLocals = 10) (hown : s.vm.findClass R_Mod = some m.cls) (hT : ∀ w ∈ TG, w.before args s = true) (hK : va_K (dC, dI) CL (TY cI cB cJ cZ) s) (hN : NW s) (hA : ∀ q : Nat, s.heap.size ≤ q → A q) (hRc : cells ≤ R.cells) (hRs : slots ≤ R.slots) (hRf : 1 ≤ R.frames) (hRl : 21 ≤ R.locals) (hret : ∀ (x : St) (H : Heap) (locs : List Loc) (pc : Nat) (ls : Array Slot), decode b_Mod_writePart pc = .ok (.return_, 1) → post x → Wd dC dI cI cB cJ cZ ad stM kcM 115 A x H → va_S A s.heap H locs → W p l e R s m args below meth c H locs cells slots Q (F0 m pc ls [])) (hrec3 : ∀ (l1 : Int32) (l2 : Int32) (l3 : Int64) (l5 : Int32) (l6 : Int32) (x : St) (H : Heap) (locs : List Loc) (ls : Array Slot), rec3 l1 l2 l3 l5 l6 x → Wd dC dI cI cB cJ cZ ad stM kcM 115 A x H → va_S A s.heap H locs → lv_has ls 10 [(0, .ref (ad 0)), (1, .int l1), (2, .int l2), (3, .long l3), (5, .int l5), (6, .int l6)] → W p l e R s m args below meth c H locs cells slots Q (F0 m 3 ls [])) (hrec19 : ∀ (l1 : Int32) (l2 : Int32) (l3 : Int64) (l5 : Int32) (l6 : Int32) (l7 : Int32) (l8 : Int32) (x : St) (H : Heap) (locs : List Loc) (ls : Array Slot), rec19 l1 l2 l3 l5 l6 l7 l8 x → Wd dC dI cI cB cJ cZ ad stM kcM 115 A x H → va_S A s.heap H locs → lv_has ls 10 [(0, .ref (ad 0)), (1, .int l1), (2, .int l2), (3, .long l3), (5, .int l5), (6, .int l6), (7, .int l7), (8, .int l8)] → W p l e R s m args below meth c H locs cells slots Q (F0 m 19 ls [])) : ∀ (l1 : Int32) (l2 : Int32) (l3 : Int64) (l5 : Int32) (l6 : Int32) (l7 : Int32) (l8 : Int32) (x : St) (H : Heap) (locs : List Loc) (ls : Array Slot), j_Mod_writePart_19 post rec3 rec19 l1 l2 l3 l5 l6 l7 l8 x → Wd dC dI cI cB cJ cZ ad stM kcM 115 A x H → va_S A s.heap H locs → lv_has ls 10 [(0, .ref (ad 0)), (1, .int l1), (2, .int l2), (3, .long l3), (5, .int l5), (6, .int l6), (7, .int l7), (8, .int l8)] → W p l e R s m args below meth c H locs cells slots Q (F0 m 19 ls []) := by
  intro l1 l2 l3 l5 l6 l7 l8 x H locs ls  hw hW hS hl
  unfold j_Mod_writePart_19 at hw
  refine lv_iload hx hb d_Mod_writePart_19 (lv_at hl 7 rfl) ?_
  refine lv_bipush (v := 8) hx hb d_Mod_writePart_21 (by decide) ?_
  refine lv_icmp_ge (tgt := 78) hx hb d_Mod_writePart_23 (by decide) (fun c548 => ?_) (fun c548 => ?_)
  · have hw := hw.1 c548
    refine lv_aload_n hx hb d_Mod_writePart_78 rfl (lv_at hl 0 rfl) ?_
    refine lv_iload hx hb d_Mod_writePart_79 (lv_at hl 6 rfl) ?_
    have hF := hW.free hS hA
    refine va_callv (va_runV (C := R_Mod) (As := [.int l7]) (rest := []) ⟨hx, hb, hml, hown, hT⟩ (k_Mod_put l dC dI cI cB cJ cZ ad H.size l7 x  hw) ⟨callB_of 1 hT (gwt_in w_11_199) rfl rfl rfl (hT _ w_1_15) (hT _ w_11_196) (by decide +kernel) ⟨Nat.le_trans (Nat.le_of_ble_eq_true rfl) hRf, Nat.le_trans (Nat.le_of_ble_eq_true rfl) hRl⟩, hT _ w_11_198, hT _ ws_153⟩ ⟨PW.blind, va_recv hK hW.1 (ci := 12) (q0 := 0) rfl (pic_obj ko_0.1 ko_0.2 (by decide)), PW.at _ hW hK hN⟩ rfl rfl hl.1 rfl (lv_room (Nat.le_of_ble_eq_true rfl)) d_Mod_writePart_81 ⟨hRc, hRs⟩) hS (fun q _ h => hF q h) hF (fun  x549 t H locs ht hvm hw hB hz1 hk1 hS => ?_)
    have hW := Wd.back hB ht hF
    clear hB ht hF hz1 hk1 hvm
    refine lv_iinc (v := (l6 + 8)) (lv' := [(6, .int (l6 + 8)), (0, .ref (ad 0)), (1, .int l1), (2, .int l2), (3, .long l3), (5, .int l5), (7, .int l7), (8, .int l8)]) hx hb d_Mod_writePart_84 hl (k := 5) rfl rfl (by decide) rfl (fun ls hl => ?_)
    refine lv_goto (tgt := 3) hx hb d_Mod_writePart_87 (by decide) ?_
    exact hrec3 l1 l2 l3 l5 (l6 + 8) x549 H locs ls  hw hW hS (lv_sub hl [1, 2, 3, 4, 5, 0] rfl)
  · have hw := hw.2 c548
    refine lv_iload_n hx hb d_Mod_writePart_26 rfl (lv_at hl 1 rfl) ?_
    refine lv_iload hx hb d_Mod_writePart_27 (lv_at hl 5 rfl) ?_
    refine lv_iload hx hb d_Mod_writePart_29 (lv_at hl 7 rfl) ?_
    refine lv_iadd hx hb d_Mod_writePart_31 ?_
    refine lv_iload hx hb d_Mod_writePart_32 (lv_at hl 4 rfl) ?_
    obtain ⟨hz, hw⟩ := hw
    refine lv_idiv hx hb d_Mod_writePart_34 hz ?_
    refine lv_iadd hx hb d_Mod_writePart_35 ?_
    refine lv_topi (fun v550 ev550 => ?_)
    have hw := hw v550 ev550
    refine lv_istore (lv' := [(9, .int v550), (0, .ref (ad 0)), (1, .int l1), (2, .int l2), (3, .long l3), (5, .int l5), (6, .int l6), (7, .int l7), (8, .int l8)]) hx hb d_Mod_writePart_36 hl (by decide) rfl (fun ls hl => ?_)
    refine lv_iload hx hb d_Mod_writePart_38 (lv_at hl 0 rfl) ?_
    refine lv_iload_n hx hb d_Mod_writePart_40 rfl (lv_at hl 3 rfl) ?_
    refine lv_icmp_ge (tgt := 72) hx hb d_Mod_writePart_41 (by decide) (fun c551 => ?_) (fun c551 => ?_)
    · have hw := hw.1 c551
      exact t_Mod_writePart_72 hx hb hml hown hT hK hN hA hRc hRs hRf hRl hret hrec3 hrec19 l1 l2 l3 l5 l6 l7 l8 v550 x H locs ls  hw hW hS (lv_sub hl [1, 2, 3, 4, 5, 6, 7, 8, 0] rfl)
    · have hw := hw.2 c551
      refine lv_iload hx hb d_Mod_writePart_44 (lv_at hl 7 rfl) ?_
      refine lv_aload_n hx hb d_Mod_writePart_46 rfl (lv_at hl 1 rfl) ?_
      refine lv_iload hx hb d_Mod_writePart_47 (lv_at hl 0 rfl) ?_
      have hF := hW.free hS hA
      refine va_calll (va_runV (C := R_Mod) (As := [.int v550]) (rest := [.int l7]) ⟨hx, hb, hml, hown, hT⟩ (k_Mod_difference l dC dI cI cB cJ cZ ad H.size v550 x  hw) ⟨callB_of 1 hT (gwt_in w_11_223) rfl rfl rfl (hT _ w_1_15) (hT _ w_11_220) (by decide +kernel) ⟨Nat.le_trans (Nat.le_of_ble_eq_true rfl) hRf, Nat.le_trans (Nat.le_of_ble_eq_true rfl) hRl⟩, hT _ w_11_222, hT _ ws_158⟩ ⟨PW.blind, va_recv hK hW.1 (ci := 12) (q0 := 0) rfl (pic_obj ko_0.1 ko_0.2 (by decide)), PW.at _ hW hK hN⟩ rfl rfl hl.1 rfl (lv_room (Nat.le_of_ble_eq_true rfl)) d_Mod_writePart_49 ⟨hRc, hRs⟩) hS (fun q _ h => hF q h) hF (fun r553 x552 t H locs ht hvm hw hB hz1 hk1 hS => ?_)
      have hW := Wd.back hB ht hF
      clear hB ht hF hz1 hk1 hvm
      refine lv_lload_n hx hb d_Mod_writePart_52 rfl (lv_at hl 4 rfl) ?_
      refine lv_lsub hx hb d_Mod_writePart_53 ?_
      refine lv_iload hx hb d_Mod_writePart_54 (lv_at hl 6 rfl) ?_
      refine lv_iload hx hb d_Mod_writePart_56 (lv_at hl 8 rfl) ?_
      refine lv_iadd hx hb d_Mod_writePart_58 ?_
      refine lv_iload hx hb d_Mod_writePart_59 (lv_at hl 5 rfl) ?_
      obtain ⟨hz, hw⟩ := hw
      refine lv_irem hx hb d_Mod_writePart_61 hz ?_
      refine lv_lushr hx hb d_Mod_writePart_62 rfl ?_
      refine lv_lconst (v := 1) hx hb d_Mod_writePart_63 (by decide) ?_
      refine lv_land hx hb d_Mod_writePart_64 ?_
      refine lv_l2i hx hb d_Mod_writePart_65 rfl ?_
      refine lv_iload hx hb d_Mod_writePart_66 (lv_at hl 8 rfl) ?_
      refine lv_ishl hx hb d_Mod_writePart_68 ?_
      refine lv_ior hx hb d_Mod_writePart_69 ?_
      refine lv_topi (fun v554 ev554 => ?_)
      have hw := hw v554 ev554
      refine lv_istore (lv' := [(7, .int v554), (9, .int v550), (0, .ref (ad 0)), (1, .int l1), (2, .int l2), (3, .long l3), (5, .int l5), (6, .int l6), (8, .int l8)]) hx hb d_Mod_writePart_70 hl (by decide) rfl (fun ls hl => ?_)
      exact t_Mod_writePart_72 hx hb hml hown hT hK hN hA hRc hRs hRf hRl hret hrec3 hrec19 l1 l2 l3 l5 l6 v554 l8 v550 x552 H locs ls  hw hW hS (lv_sub hl [2, 3, 4, 5, 6, 7, 0, 8, 1] rfl)
set_option maxHeartbeats 4000000 in
set_option maxRecDepth 100000 in
theorem tl_Mod_writePart_19 {p : Program} {l : Launch} {e : Env} {R : Room} {s : State} {m : MethodId} {args : Array Value} {below : List Frame} {meth : Method} {c : Code} {cells slots : Nat} {Q : State → Prop} {dC : Nat → ClassId} {dI : Nat → Nat → Nat} {cI cB cJ cZ : ClassId} {A : Nat → Prop} {ad : Nat → Nat} {post : St → Prop} {rec3 : Int32 → Int32 → Int64 → Int32 → Int32 → St → Prop} (hx : p.tables.exec = Jvm.exec) (hb : c.code = b_Mod_writePart) (hml : c.maxLocals = 10) (hown : s.vm.findClass R_Mod = some m.cls) (hT : ∀ w ∈ TG, w.before args s = true) (hK : va_K (dC, dI) CL (TY cI cB cJ cZ) s) (hN : NW s) (hA : ∀ q : Nat, s.heap.size ≤ q → A q) (hRc : cells ≤ R.cells) (hRs : slots ≤ R.slots) (hRf : 1 ≤ R.frames) (hRl : 21 ≤ R.locals) (hret : ∀ (x : St) (H : Heap) (locs : List Loc) (pc : Nat) (ls : Array Slot), decode b_Mod_writePart pc = .ok (.return_, 1) → post x → Wd dC dI cI cB cJ cZ ad stM kcM 115 A x H → va_S A s.heap H locs → W p l e R s m args below meth c H locs cells slots Q (F0 m pc ls [])) (hrec3 : ∀ (l1 : Int32) (l2 : Int32) (l3 : Int64) (l5 : Int32) (l6 : Int32) (x : St) (H : Heap) (locs : List Loc) (ls : Array Slot), rec3 l1 l2 l3 l5 l6 x → Wd dC dI cI cB cJ cZ ad stM kcM 115 A x H → va_S A s.heap H locs → lv_has ls 10 [(0, .ref (ad 0)), (1, .int l1), (2, .int l2), (3, .long l3), (5, .int l5), (6, .int l6)] → W p l e R s m args below meth c H locs cells slots Q (F0 m 3 ls [])) : ∀ n : Nat, ∀ (l1 : Int32) (l2 : Int32) (l3 : Int64) (l5 : Int32) (l6 : Int32) (l7 : Int32) (l8 : Int32) (x : St) (H : Heap) (locs : List Loc) (ls : Array Slot), wl_Mod_writePart_19 post rec3 n l1 l2 l3 l5 l6 l7 l8 x → Wd dC dI cI cB cJ cZ ad stM kcM 115 A x H → va_S A s.heap H locs → lv_has ls 10 [(0, .ref (ad 0)), (1, .int l1), (2, .int l2), (3, .long l3), (5, .int l5), (6, .int l6), (7, .int l7), (8, .int l8)] → W p l e R s m args below meth c H locs cells slots Q (F0 m 19 ls []) := by
  intro n
  induction n with
  | zero => intro l1 l2 l3 l5 l6 l7 l8 x H locs ls  hw; exact hw.elim
  | succ n ih => intro l1 l2 l3 l5 l6 l7 l8 x H locs ls  hw hW hS hl; exact t_Mod_writePart_19 hx hb hml hown hT hK hN hA hRc hRs hRf hRl hret hrec3 ih l1 l2 l3 l5 l6 l7 l8 x H locs ls  hw hW hS hl
set_option maxRecDepth 100000 in
set_option maxHeartbeats 4000000 in
set_option maxRecDepth 100000 in
theorem t_Mod_writePart_3 {p : Program} {l : Launch} {e : Env} {R : Room} {s : State} {m : MethodId} {args : Array Value} {below : List Frame} {meth : Method} {c : Code} {cells slots : Nat} {Q : State → Prop} {dC : Nat → ClassId} {dI : Nat → Nat → Nat} {cI cB cJ cZ : ClassId} {A : Nat → Prop} {ad : Nat → Nat} {post : St → Prop} {rec3 : Int32 → Int32 → Int64 → Int32 → Int32 → St → Prop} (hx : p.tables.exec = Jvm.exec) (hb : c.code = b_Mod_writePart) (hml : c.maxLocals = 10) (hown : s.vm.findClass R_Mod = some m.cls) (hT : ∀ w ∈ TG, w.before args s = true) (hK : va_K (dC, dI) CL (TY cI cB cJ cZ) s) (hN : NW s) (hA : ∀ q : Nat, s.heap.size ≤ q → A q) (hRc : cells ≤ R.cells) (hRs : slots ≤ R.slots) (hRf : 1 ≤ R.frames) (hRl : 21 ≤ R.locals) (hret : ∀ (x : St) (H : Heap) (locs : List Loc) (pc : Nat) (ls : Array Slot), decode b_Mod_writePart pc = .ok (.return_, 1) → post x → Wd dC dI cI cB cJ cZ ad stM kcM 115 A x H → va_S A s.heap H locs → W p l e R s m args below meth c H locs cells slots Q (F0 m pc ls [])) (hrec3 : ∀ (l1 : Int32) (l2 : Int32) (l3 : Int64) (l5 : Int32) (l6 : Int32) (x : St) (H : Heap) (locs : List Loc) (ls : Array Slot), rec3 l1 l2 l3 l5 l6 x → Wd dC dI cI cB cJ cZ ad stM kcM 115 A x H → va_S A s.heap H locs → lv_has ls 10 [(0, .ref (ad 0)), (1, .int l1), (2, .int l2), (3, .long l3), (5, .int l5), (6, .int l6)] → W p l e R s m args below meth c H locs cells slots Q (F0 m 3 ls [])) : ∀ (l1 : Int32) (l2 : Int32) (l3 : Int64) (l5 : Int32) (l6 : Int32) (x : St) (H : Heap) (locs : List Loc) (ls : Array Slot), j_Mod_writePart_3 post rec3 l1 l2 l3 l5 l6 x → Wd dC dI cI cB cJ cZ ad stM kcM 115 A x H → va_S A s.heap H locs → lv_has ls 10 [(0, .ref (ad 0)), (1, .int l1), (2, .int l2), (3, .long l3), (5, .int l5), (6, .int l6)] → W p l e R s m args below meth c H locs cells slots Q (F0 m 3 ls []) := by
  intro l1 l2 l3 l5 l6 x H locs ls  hw hW hS hl
  unfold j_Mod_writePart_3 at hw
  refine lv_iload hx hb d_Mod_writePart_3 (lv_at hl 5 rfl) ?_
  refine lv_bipush (v := 16) hx hb d_Mod_writePart_5 (by decide) ?_
  refine lv_iload hx hb d_Mod_writePart_7 (lv_at hl 4 rfl) ?_
  refine lv_imul hx hb d_Mod_writePart_9 ?_
  refine lv_icmp_ge (tgt := 90) hx hb d_Mod_writePart_10 (by decide) (fun c555 => ?_) (fun c555 => ?_)
  · have hw := hw.1 c555
    exact hret x H locs 90 ls d_Mod_writePart_90 hw hW hS
  · have hw := hw.2 c555
    refine lv_iconst (v := 0) hx hb d_Mod_writePart_13 (by decide) ?_
    refine lv_istore (lv' := [(7, .int 0), (0, .ref (ad 0)), (1, .int l1), (2, .int l2), (3, .long l3), (5, .int l5), (6, .int l6)]) hx hb d_Mod_writePart_14 hl (by decide) rfl (fun ls hl => ?_)
    refine lv_iconst (v := 0) hx hb d_Mod_writePart_16 (by decide) ?_
    refine lv_istore (lv' := [(8, .int 0), (7, .int 0), (0, .ref (ad 0)), (1, .int l1), (2, .int l2), (3, .long l3), (5, .int l5), (6, .int l6)]) hx hb d_Mod_writePart_17 hl (by decide) rfl (fun ls hl => ?_)
    obtain ⟨n, hw⟩ := hw
    exact tl_Mod_writePart_19 hx hb hml hown hT hK hN hA hRc hRs hRf hRl hret hrec3 n l1 l2 l3 l5 l6 0 0 x H locs ls  hw hW hS (lv_sub hl [2, 3, 4, 5, 6, 7, 1, 0] rfl)
set_option maxHeartbeats 4000000 in
set_option maxRecDepth 100000 in
theorem tl_Mod_writePart_3 {p : Program} {l : Launch} {e : Env} {R : Room} {s : State} {m : MethodId} {args : Array Value} {below : List Frame} {meth : Method} {c : Code} {cells slots : Nat} {Q : State → Prop} {dC : Nat → ClassId} {dI : Nat → Nat → Nat} {cI cB cJ cZ : ClassId} {A : Nat → Prop} {ad : Nat → Nat} {post : St → Prop} (hx : p.tables.exec = Jvm.exec) (hb : c.code = b_Mod_writePart) (hml : c.maxLocals = 10) (hown : s.vm.findClass R_Mod = some m.cls) (hT : ∀ w ∈ TG, w.before args s = true) (hK : va_K (dC, dI) CL (TY cI cB cJ cZ) s) (hN : NW s) (hA : ∀ q : Nat, s.heap.size ≤ q → A q) (hRc : cells ≤ R.cells) (hRs : slots ≤ R.slots) (hRf : 1 ≤ R.frames) (hRl : 21 ≤ R.locals) (hret : ∀ (x : St) (H : Heap) (locs : List Loc) (pc : Nat) (ls : Array Slot), decode b_Mod_writePart pc = .ok (.return_, 1) → post x → Wd dC dI cI cB cJ cZ ad stM kcM 115 A x H → va_S A s.heap H locs → W p l e R s m args below meth c H locs cells slots Q (F0 m pc ls []))  : ∀ n : Nat, ∀ (l1 : Int32) (l2 : Int32) (l3 : Int64) (l5 : Int32) (l6 : Int32) (x : St) (H : Heap) (locs : List Loc) (ls : Array Slot), wl_Mod_writePart_3 post n l1 l2 l3 l5 l6 x → Wd dC dI cI cB cJ cZ ad stM kcM 115 A x H → va_S A s.heap H locs → lv_has ls 10 [(0, .ref (ad 0)), (1, .int l1), (2, .int l2), (3, .long l3), (5, .int l5), (6, .int l6)] → W p l e R s m args below meth c H locs cells slots Q (F0 m 3 ls []) := by
  intro n
  induction n with
  | zero => intro l1 l2 l3 l5 l6 x H locs ls  hw; exact hw.elim
  | succ n ih => intro l1 l2 l3 l5 l6 x H locs ls  hw hW hS hl; exact t_Mod_writePart_3 hx hb hml hown hT hK hN hA hRc hRs hRf hRl hret  ih l1 l2 l3 l5 l6 x H locs ls  hw hW hS hl
set_option maxRecDepth 100000 in
set_option maxHeartbeats 4000000 in
set_option maxRecDepth 100000 in
theorem t_Mod_writePart_e {p : Program} {l : Launch} {e : Env} {R : Room} {s : State} {m : MethodId} {args : Array Value} {below : List Frame} {meth : Method} {c : Code} {cells slots : Nat} {Q : State → Prop} {dC : Nat → ClassId} {dI : Nat → Nat → Nat} {cI cB cJ cZ : ClassId} {A : Nat → Prop} {ad : Nat → Nat} {post : St → Prop} (hx : p.tables.exec = Jvm.exec) (hb : c.code = b_Mod_writePart) (hml : c.maxLocals = 10) (hown : s.vm.findClass R_Mod = some m.cls) (hT : ∀ w ∈ TG, w.before args s = true) (hK : va_K (dC, dI) CL (TY cI cB cJ cZ) s) (hN : NW s) (hA : ∀ q : Nat, s.heap.size ≤ q → A q) (hRc : cells ≤ R.cells) (hRs : slots ≤ R.slots) (hRf : 1 ≤ R.frames) (hRl : 21 ≤ R.locals) (hret : ∀ (x : St) (H : Heap) (locs : List Loc) (pc : Nat) (ls : Array Slot), decode b_Mod_writePart pc = .ok (.return_, 1) → post x → Wd dC dI cI cB cJ cZ ad stM kcM 115 A x H → va_S A s.heap H locs → W p l e R s m args below meth c H locs cells slots Q (F0 m pc ls [])) : ∀ (l1 : Int32) (l2 : Int32) (l3 : Int64) (l5 : Int32) (x : St) (H : Heap) (locs : List Loc) (ls : Array Slot), wp_Mod_writePart post l1 l2 l3 l5 x → Wd dC dI cI cB cJ cZ ad stM kcM 115 A x H → va_S A s.heap H locs → lv_has ls 10 [(0, .ref (ad 0)), (1, .int l1), (2, .int l2), (3, .long l3), (5, .int l5)] → W p l e R s m args below meth c H locs cells slots Q (F0 m 0 ls []) := by
  intro l1 l2 l3 l5 x H locs ls  hw hW hS hl
  unfold wp_Mod_writePart at hw
  refine lv_iconst (v := 0) hx hb d_Mod_writePart_0 (by decide) ?_
  refine lv_istore (lv' := [(6, .int 0), (0, .ref (ad 0)), (1, .int l1), (2, .int l2), (3, .long l3), (5, .int l5)]) hx hb d_Mod_writePart_1 hl (by decide) rfl (fun ls hl => ?_)
  obtain ⟨n, hw⟩ := hw
  exact tl_Mod_writePart_3 hx hb hml hown hT hK hN hA hRc hRs hRf hRl hret  n l1 l2 l3 l5 0 x H locs ls  hw hW hS (lv_sub hl [1, 2, 3, 4, 5, 0] rfl)
set_option maxHeartbeats 4000000 in
set_option maxRecDepth 100000 in
theorem k_Mod_writePart (l : Launch) (dC : Nat → ClassId) (dI : Nat → Nat → Nat) (cI cB cJ cZ : ClassId) (ad : Nat → Nat) (sz : Nat) (l1 : Int32) (l2 : Int32) (l3 : Int64) (l5 : Int32) (x : St) {post : St → Prop} (hw : wp_Mod_writePart post l1 l2 l3 l5 x) : Met l y_Mod_writePart (wsOf y_Mod_writePart b_Mod_writePart 10 (none)) ({ frames := 1, cells := 0, slots := 0, locals := 21 }) (va_Pc [.ref (ad 0), .int l1, .int l2, .long l3, .int l5] (PW dC dI cI cB cJ cZ ad stM kcM 115 sz x)) (va_Qv (fun (y : St) => post y) (fun y t => Wd dC dI cI cB cJ cZ ad stM kcM 115 (va_A (pic ad stM kcM 115 cI cB cJ cZ x) sz) y t.heap) (va_A (pic ad stM kcM 115 cI cB cJ cZ x) sz)) 0 0 (va_A (pic ad stM kcM 115 cI cB cJ cZ x) sz) := by
  refine Met.ofW (cc := b_Mod_writePart) (maxL := 10) (ret := none) (by decide) rfl ?_
  intro p e s m args below meth c s₁ B hml hv
  obtain ⟨rfl, hsz, hW0, hK, hN⟩ := hv
  have hx := B.exec
  have hb := B.bytes
  have hr := B.returns
  have hts := atoms_spec B.pre
  have hT : ∀ w ∈ TG, w.before _ s = true := fun w h => hts w (List.mem_cons_of_mem _ h)
  have hown : s.vm.findClass R_Mod = some m.cls := findClass_of_methodNamed B.named
  have hlocks := B.notSynchronized
  subst hsz
  have hW : Wd dC dI cI cB cJ cZ ad stM kcM 115 (va_A (pic ad stM kcM 115 cI cB cJ cZ x) s.heap.size) x s.heap := ⟨hW0.1, hW0.2.1.self (sz := s.heap.size), hW0.2.2⟩
  generalize hAe : va_A (pic ad stM kcM 115 cI cB cJ cZ x) s.heap.size = A at hW ⊢
  have hA : ∀ q : Nat, s.heap.size ≤ q → A q := fun q h => by rw [← hAe]; exact Or.inr h
  have hS : va_S A s.heap s.heap [] := va_S.rf
  have hl := lv_entry ([.ref (ad 0), .int l1, .int l2, .long l3, .int l5]) (n := 10) (Nat.le_of_ble_eq_true rfl)
  rw [lg_entry_eq]
  generalize (lg_sl ([.ref (ad 0), .int l1, .int l2, .long l3, .int l5]) ++ List.replicate (10 - (lg_sl ([.ref (ad 0), .int l1, .int l2, .long l3, .int l5])).length) Slot.unset).toArray = ls at hl ⊢
  have hl : lv_has ls 10 [(0, .ref (ad 0)), (1, .int l1), (2, .int l2), (3, .long l3), (5, .int l5)] := hl
  exact t_Mod_writePart_e hx hb hml hown hT hK hN hA (Nat.le_refl 0) (Nat.le_refl 0) (Nat.le_refl 1) (Nat.le_refl 21) (fun x H locs pc ls hd hp hW hS => W.vret hx hb hr (fun t ht hM => ⟨⟨x, rfl, hp, Wd.back hW ht.symm (fun _ z => z)⟩, hS.F ht⟩) hS.2.2 hd hlocks)  l1 l2 l3 l5 x _ _ ls  hw hW hS hl
end
