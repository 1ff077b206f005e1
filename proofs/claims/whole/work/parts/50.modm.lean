theorem fr_Mod_70 : F_Mod 70 = (R_Mod, "longs", "[J", true) := rfl
theorem fr_Mod_71 : F_Mod 71 = (R_Mod, "longCount", "I", false) := rfl
theorem w_11_220 : (Jvm.Cond.methodLink "StripedVaultModel" (594 : Nat) ({ cls := "StripedVaultModel", name := "zigzag", desc := "(J)J" } : Jvm.MethodName)) ∈ TG := tw_11 220 (by decide +kernel) (by decide +kernel)
theorem w_11_221 : (Jvm.Cond.static ({ cls := "StripedVaultModel", name := "zigzag", desc := "(J)J" } : Jvm.MethodName)) ∈ TG := tw_11 221 (by decide +kernel) (by decide +kernel)
theorem w_11_222 : (Jvm.Cond.code ({ cls := "StripedVaultModel", name := "zigzag", desc := "(J)J" } : Jvm.MethodName) prog_14_method_57_code (2 : Nat) (Option.some Jvm.ClassFile.FieldType.long)) ∈ TG := tw_11 222 (by decide +kernel) (by decide +kernel)
theorem w_11_223 : (Jvm.Cond.constantLong "StripedVaultModel" (586 : Nat) (-2 : Int64)) ∈ TG := tw_11 223 (by decide +kernel) (by decide +kernel)
theorem w_11_224 : (Jvm.Cond.methodLink "StripedVaultModel" (598 : Nat) ({ cls := "StripedVaultModel", name := "difference", desc := "(I)J" } : Jvm.MethodName)) ∈ TG := tw_11 224 (by decide +kernel) (by decide +kernel)
theorem w_11_226 : (Jvm.Cond.instanceMethod ({ cls := "StripedVaultModel", name := "difference", desc := "(I)J" } : Jvm.MethodName)) ∈ TG := tw_11 226 (by decide +kernel) (by decide +kernel)
theorem w_11_227 : (Jvm.Cond.code ({ cls := "StripedVaultModel", name := "difference", desc := "(I)J" } : Jvm.MethodName) prog_14_method_60_code (2 : Nat) (Option.some Jvm.ClassFile.FieldType.long)) ∈ TG := tw_11 227 (by decide +kernel) (by decide +kernel)
theorem w_11_228 : (Jvm.Cond.methodLink "StripedVaultModel" (601 : Nat) ({ cls := "StripedVaultModel", name := "widthOf", desc := "(IIJ)I" } : Jvm.MethodName)) ∈ TG := tw_11 228 (by decide +kernel) (by decide +kernel)
theorem w_11_230 : (Jvm.Cond.instanceMethod ({ cls := "StripedVaultModel", name := "widthOf", desc := "(IIJ)I" } : Jvm.MethodName)) ∈ TG := tw_11 230 (by decide +kernel) (by decide +kernel)
theorem w_11_231 : (Jvm.Cond.code ({ cls := "StripedVaultModel", name := "widthOf", desc := "(IIJ)I" } : Jvm.MethodName) prog_14_method_62_code (7 : Nat) (Option.some Jvm.ClassFile.FieldType.int)) ∈ TG := tw_11 231 (by decide +kernel) (by decide +kernel)
theorem w_11_232 : (Jvm.Cond.methodLink "StripedVaultModel" (604 : Nat) ({ cls := "StripedVaultModel", name := "writePart", desc := "(IIJI)V" } : Jvm.MethodName)) ∈ TG := tw_11 232 (by decide +kernel) (by decide +kernel)
theorem w_11_234 : (Jvm.Cond.instanceMethod ({ cls := "StripedVaultModel", name := "writePart", desc := "(IIJI)V" } : Jvm.MethodName)) ∈ TG := tw_11 234 (by decide +kernel) (by decide +kernel)
theorem w_11_235 : (Jvm.Cond.code ({ cls := "StripedVaultModel", name := "writePart", desc := "(IIJI)V" } : Jvm.MethodName) prog_14_method_63_code (10 : Nat) (Option.none : Option Jvm.ClassFile.FieldType)) ∈ TG := tw_11 235 (by decide +kernel) (by decide +kernel)
theorem w_9_10 : (Jvm.Cond.fieldLink "StripedVaultModel" (139 : Nat) "StripedVaultModel" "longs" "[J") ∈ TG := tw_9 10 (by decide +kernel) (by decide +kernel)
theorem w_9_11 : (Jvm.Cond.fieldLink "StripedVaultModel" (591 : Nat) "StripedVaultModel" "longCount" "I") ∈ TG := tw_9 11 (by decide +kernel) (by decide +kernel)
theorem ws_159 : Cond.selects R_Mod y_Mod_difference y_Mod_difference ∈ TG := tw_s 159 (by decide +kernel) (by decide +kernel)
theorem ws_160 : Cond.selects R_Mod y_Mod_widthOf y_Mod_widthOf ∈ TG := tw_s 160 (by decide +kernel) (by decide +kernel)
theorem ws_161 : Cond.selects R_Mod y_Mod_writePart y_Mod_writePart ∈ TG := tw_s 161 (by decide +kernel) (by decide +kernel)
theorem d_Mod_wide_0 : decode b_Mod_wide 0 = .ok (.aload_n 0, 1) := by decide +kernel
theorem d_Mod_wide_1 : decode b_Mod_wide 1 = .ok (.getfield 623, 3) := by decide +kernel
theorem d_Mod_wide_4 : decode b_Mod_wide 4 = .ok (.iconst 1, 1) := by decide +kernel
theorem d_Mod_wide_5 : decode b_Mod_wide 5 = .ok (.if_icmp .ne 7, 3) := by decide +kernel
theorem d_Mod_wide_12 : decode b_Mod_wide 12 = .ok (.bipush 8, 2) := by decide +kernel
theorem d_Mod_wide_14 : decode b_Mod_wide 14 = .ok (.ireturn, 1) := by decide +kernel
theorem d_Mod_wide_8 : decode b_Mod_wide 8 = .ok (.iconst 4, 1) := by decide +kernel
theorem d_Mod_wide_9 : decode b_Mod_wide 9 = .ok (.goto 5, 3) := by decide +kernel
theorem d_Mod_putFixed_3 : decode b_Mod_putFixed 3 = .ok (.iload 4, 2) := by decide +kernel
theorem d_Mod_putFixed_5 : decode b_Mod_putFixed 5 = .ok (.iload_n 3, 1) := by decide +kernel
theorem d_Mod_putFixed_6 : decode b_Mod_putFixed 6 = .ok (.if_icmp .ge 21, 3) := by decide +kernel
theorem d_Mod_putFixed_27 : decode b_Mod_putFixed 27 = .ok (.return_, 1) := by decide +kernel
theorem d_Mod_putFixed_9 : decode b_Mod_putFixed 9 = .ok (.aload_n 0, 1) := by decide +kernel
theorem d_Mod_putFixed_10 : decode b_Mod_putFixed 10 = .ok (.lload_n 1, 1) := by decide +kernel
theorem d_Mod_putFixed_11 : decode b_Mod_putFixed 11 = .ok (.bipush 8, 2) := by decide +kernel
theorem d_Mod_putFixed_13 : decode b_Mod_putFixed 13 = .ok (.iload 4, 2) := by decide +kernel
theorem d_Mod_putFixed_15 : decode b_Mod_putFixed 15 = .ok (.imul, 1) := by decide +kernel
theorem d_Mod_putFixed_16 : decode b_Mod_putFixed 16 = .ok (.lushr, 1) := by decide +kernel
theorem d_Mod_putFixed_17 : decode b_Mod_putFixed 17 = .ok (.l2i, 1) := by decide +kernel
theorem d_Mod_putFixed_18 : decode b_Mod_putFixed 18 = .ok (.invokevirtual 558, 3) := by decide +kernel
theorem d_Mod_putFixed_21 : decode b_Mod_putFixed 21 = .ok (.iinc 4 1, 3) := by decide +kernel
theorem d_Mod_putFixed_24 : decode b_Mod_putFixed 24 = .ok (.goto (-21), 3) := by decide +kernel
theorem d_Mod_putFixed_0 : decode b_Mod_putFixed 0 = .ok (.iconst 0, 1) := by decide +kernel
theorem d_Mod_putFixed_1 : decode b_Mod_putFixed 1 = .ok (.istore 4, 2) := by decide +kernel
theorem d_Mod_zigzag_0 : decode b_Mod_zigzag 0 = .ok (.lload_n 0, 1) := by decide +kernel
theorem d_Mod_zigzag_1 : decode b_Mod_zigzag 1 = .ok (.lconst 0, 1) := by decide +kernel
theorem d_Mod_zigzag_2 : decode b_Mod_zigzag 2 = .ok (.lcmp, 1) := by decide +kernel
theorem d_Mod_zigzag_3 : decode b_Mod_zigzag 3 = .ok (.ifCond .ge 13, 3) := by decide +kernel
theorem d_Mod_zigzag_16 : decode b_Mod_zigzag 16 = .ok (.ldc2_w 565, 3) := by decide +kernel
theorem d_Mod_zigzag_19 : decode b_Mod_zigzag 19 = .ok (.lload_n 0, 1) := by decide +kernel
theorem d_Mod_zigzag_20 : decode b_Mod_zigzag 20 = .ok (.lmul, 1) := by decide +kernel
theorem d_Mod_zigzag_21 : decode b_Mod_zigzag 21 = .ok (.lreturn, 1) := by decide +kernel
theorem d_Mod_zigzag_6 : decode b_Mod_zigzag 6 = .ok (.ldc2_w 586, 3) := by decide +kernel
theorem d_Mod_zigzag_9 : decode b_Mod_zigzag 9 = .ok (.lload_n 0, 1) := by decide +kernel
theorem d_Mod_zigzag_10 : decode b_Mod_zigzag 10 = .ok (.lmul, 1) := by decide +kernel
theorem d_Mod_zigzag_11 : decode b_Mod_zigzag 11 = .ok (.lconst 1, 1) := by decide +kernel
theorem d_Mod_zigzag_12 : decode b_Mod_zigzag 12 = .ok (.lsub, 1) := by decide +kernel
theorem d_Mod_zigzag_13 : decode b_Mod_zigzag 13 = .ok (.goto 8, 3) := by decide +kernel
theorem d_Mod_difference_0 : decode b_Mod_difference 0 = .ok (.aload_n 0, 1) := by decide +kernel
theorem d_Mod_difference_1 : decode b_Mod_difference 1 = .ok (.getfield 139, 3) := by decide +kernel
theorem d_Mod_difference_4 : decode b_Mod_difference 4 = .ok (.iload_n 1, 1) := by decide +kernel
theorem d_Mod_difference_5 : decode b_Mod_difference 5 = .ok (.iconst 1, 1) := by decide +kernel
theorem d_Mod_difference_6 : decode b_Mod_difference 6 = .ok (.iadd, 1) := by decide +kernel
theorem d_Mod_difference_7 : decode b_Mod_difference 7 = .ok (.laload, 1) := by decide +kernel
theorem d_Mod_difference_8 : decode b_Mod_difference 8 = .ok (.aload_n 0, 1) := by decide +kernel
theorem d_Mod_difference_9 : decode b_Mod_difference 9 = .ok (.getfield 139, 3) := by decide +kernel
theorem d_Mod_difference_12 : decode b_Mod_difference 12 = .ok (.iload_n 1, 1) := by decide +kernel
theorem d_Mod_difference_13 : decode b_Mod_difference 13 = .ok (.laload, 1) := by decide +kernel
theorem d_Mod_difference_14 : decode b_Mod_difference 14 = .ok (.lsub, 1) := by decide +kernel
theorem d_Mod_difference_15 : decode b_Mod_difference 15 = .ok (.lreturn, 1) := by decide +kernel
theorem d_Mod_widthOf_56 : decode b_Mod_widthOf 56 = .ok (.iload 5, 2) := by decide +kernel
theorem d_Mod_widthOf_58 : decode b_Mod_widthOf 58 = .ok (.ireturn, 1) := by decide +kernel
theorem d_Mod_widthOf_50 : decode b_Mod_widthOf 50 = .ok (.iinc 6 1, 3) := by decide +kernel
theorem d_Mod_widthOf_53 : decode b_Mod_widthOf 53 = .ok (.goto (-47), 3) := by decide +kernel
theorem d_Mod_widthOf_21 : decode b_Mod_widthOf 21 = .ok (.iload 5, 2) := by decide +kernel
theorem d_Mod_widthOf_23 : decode b_Mod_widthOf 23 = .ok (.bipush 64, 2) := by decide +kernel
theorem d_Mod_widthOf_25 : decode b_Mod_widthOf 25 = .ok (.if_icmp .ge 25, 3) := by decide +kernel
theorem d_Mod_widthOf_28 : decode b_Mod_widthOf 28 = .ok (.aload_n 0, 1) := by decide +kernel
theorem d_Mod_widthOf_29 : decode b_Mod_widthOf 29 = .ok (.iload 6, 2) := by decide +kernel
theorem d_Mod_widthOf_31 : decode b_Mod_widthOf 31 = .ok (.invokevirtual 598, 3) := by decide +kernel
theorem d_Mod_widthOf_34 : decode b_Mod_widthOf 34 = .ok (.lload_n 3, 1) := by decide +kernel
theorem d_Mod_widthOf_35 : decode b_Mod_widthOf 35 = .ok (.lsub, 1) := by decide +kernel
theorem d_Mod_widthOf_36 : decode b_Mod_widthOf 36 = .ok (.iload 5, 2) := by decide +kernel
theorem d_Mod_widthOf_38 : decode b_Mod_widthOf 38 = .ok (.lushr, 1) := by decide +kernel
theorem d_Mod_widthOf_39 : decode b_Mod_widthOf 39 = .ok (.lconst 0, 1) := by decide +kernel
theorem d_Mod_widthOf_40 : decode b_Mod_widthOf 40 = .ok (.lcmp, 1) := by decide +kernel
theorem d_Mod_widthOf_41 : decode b_Mod_widthOf 41 = .ok (.ifCond .eq 9, 3) := by decide +kernel
theorem d_Mod_widthOf_44 : decode b_Mod_widthOf 44 = .ok (.iinc 5 1, 3) := by decide +kernel
theorem d_Mod_widthOf_47 : decode b_Mod_widthOf 47 = .ok (.goto (-26), 3) := by decide +kernel
theorem d_Mod_widthOf_6 : decode b_Mod_widthOf 6 = .ok (.iload 6, 2) := by decide +kernel
theorem d_Mod_widthOf_8 : decode b_Mod_widthOf 8 = .ok (.iload_n 1, 1) := by decide +kernel
theorem d_Mod_widthOf_9 : decode b_Mod_widthOf 9 = .ok (.bipush 16, 2) := by decide +kernel
theorem d_Mod_widthOf_11 : decode b_Mod_widthOf 11 = .ok (.iadd, 1) := by decide +kernel
theorem d_Mod_widthOf_12 : decode b_Mod_widthOf 12 = .ok (.if_icmp .ge 44, 3) := by decide +kernel
theorem d_Mod_widthOf_15 : decode b_Mod_widthOf 15 = .ok (.iload 6, 2) := by decide +kernel
theorem d_Mod_widthOf_17 : decode b_Mod_widthOf 17 = .ok (.iload_n 2, 1) := by decide +kernel
theorem d_Mod_widthOf_18 : decode b_Mod_widthOf 18 = .ok (.if_icmp .ge 38, 3) := by decide +kernel
theorem d_Mod_widthOf_0 : decode b_Mod_widthOf 0 = .ok (.iconst 0, 1) := by decide +kernel
theorem d_Mod_widthOf_1 : decode b_Mod_widthOf 1 = .ok (.istore 5, 2) := by decide +kernel
theorem d_Mod_widthOf_3 : decode b_Mod_widthOf 3 = .ok (.iload_n 1, 1) := by decide +kernel
theorem d_Mod_widthOf_4 : decode b_Mod_widthOf 4 = .ok (.istore 6, 2) := by decide +kernel
theorem d_Mod_writePart_72 : decode b_Mod_writePart 72 = .ok (.iinc 8 1, 3) := by decide +kernel
theorem d_Mod_writePart_75 : decode b_Mod_writePart 75 = .ok (.goto (-56), 3) := by decide +kernel
theorem d_Mod_writePart_19 : decode b_Mod_writePart 19 = .ok (.iload 8, 2) := by decide +kernel
theorem d_Mod_writePart_21 : decode b_Mod_writePart 21 = .ok (.bipush 8, 2) := by decide +kernel
theorem d_Mod_writePart_23 : decode b_Mod_writePart 23 = .ok (.if_icmp .ge 55, 3) := by decide +kernel
theorem d_Mod_writePart_78 : decode b_Mod_writePart 78 = .ok (.aload_n 0, 1) := by decide +kernel
theorem d_Mod_writePart_79 : decode b_Mod_writePart 79 = .ok (.iload 7, 2) := by decide +kernel
theorem d_Mod_writePart_81 : decode b_Mod_writePart 81 = .ok (.invokevirtual 558, 3) := by decide +kernel
theorem d_Mod_writePart_84 : decode b_Mod_writePart 84 = .ok (.iinc 6 8, 3) := by decide +kernel
theorem d_Mod_writePart_87 : decode b_Mod_writePart 87 = .ok (.goto (-84), 3) := by decide +kernel
theorem d_Mod_writePart_26 : decode b_Mod_writePart 26 = .ok (.iload_n 1, 1) := by decide +kernel
theorem d_Mod_writePart_27 : decode b_Mod_writePart 27 = .ok (.iload 6, 2) := by decide +kernel
theorem d_Mod_writePart_29 : decode b_Mod_writePart 29 = .ok (.iload 8, 2) := by decide +kernel
theorem d_Mod_writePart_31 : decode b_Mod_writePart 31 = .ok (.iadd, 1) := by decide +kernel
theorem d_Mod_writePart_32 : decode b_Mod_writePart 32 = .ok (.iload 5, 2) := by decide +kernel
theorem d_Mod_writePart_34 : decode b_Mod_writePart 34 = .ok (.idiv, 1) := by decide +kernel
theorem d_Mod_writePart_35 : decode b_Mod_writePart 35 = .ok (.iadd, 1) := by decide +kernel
theorem d_Mod_writePart_36 : decode b_Mod_writePart 36 = .ok (.istore 9, 2) := by decide +kernel
theorem d_Mod_writePart_38 : decode b_Mod_writePart 38 = .ok (.iload 9, 2) := by decide +kernel
theorem d_Mod_writePart_40 : decode b_Mod_writePart 40 = .ok (.iload_n 2, 1) := by decide +kernel
theorem d_Mod_writePart_41 : decode b_Mod_writePart 41 = .ok (.if_icmp .ge 31, 3) := by decide +kernel
theorem d_Mod_writePart_44 : decode b_Mod_writePart 44 = .ok (.iload 7, 2) := by decide +kernel
theorem d_Mod_writePart_46 : decode b_Mod_writePart 46 = .ok (.aload_n 0, 1) := by decide +kernel
theorem d_Mod_writePart_47 : decode b_Mod_writePart 47 = .ok (.iload 9, 2) := by decide +kernel
theorem d_Mod_writePart_49 : decode b_Mod_writePart 49 = .ok (.invokevirtual 598, 3) := by decide +kernel
theorem d_Mod_writePart_52 : decode b_Mod_writePart 52 = .ok (.lload_n 3, 1) := by decide +kernel
theorem d_Mod_writePart_53 : decode b_Mod_writePart 53 = .ok (.lsub, 1) := by decide +kernel
theorem d_Mod_writePart_54 : decode b_Mod_writePart 54 = .ok (.iload 6, 2) := by decide +kernel
theorem d_Mod_writePart_56 : decode b_Mod_writePart 56 = .ok (.iload 8, 2) := by decide +kernel
theorem d_Mod_writePart_58 : decode b_Mod_writePart 58 = .ok (.iadd, 1) := by decide +kernel
theorem d_Mod_writePart_59 : decode b_Mod_writePart 59 = .ok (.iload 5, 2) := by decide +kernel
theorem d_Mod_writePart_61 : decode b_Mod_writePart 61 = .ok (.irem, 1) := by decide +kernel
theorem d_Mod_writePart_62 : decode b_Mod_writePart 62 = .ok (.lushr, 1) := by decide +kernel
theorem d_Mod_writePart_63 : decode b_Mod_writePart 63 = .ok (.lconst 1, 1) := by decide +kernel
theorem d_Mod_writePart_64 : decode b_Mod_writePart 64 = .ok (.land, 1) := by decide +kernel
theorem d_Mod_writePart_65 : decode b_Mod_writePart 65 = .ok (.l2i, 1) := by decide +kernel
theorem d_Mod_writePart_66 : decode b_Mod_writePart 66 = .ok (.iload 8, 2) := by decide +kernel
theorem d_Mod_writePart_68 : decode b_Mod_writePart 68 = .ok (.ishl, 1) := by decide +kernel
theorem d_Mod_writePart_69 : decode b_Mod_writePart 69 = .ok (.ior, 1) := by decide +kernel
theorem d_Mod_writePart_70 : decode b_Mod_writePart 70 = .ok (.istore 7, 2) := by decide +kernel
theorem d_Mod_writePart_3 : decode b_Mod_writePart 3 = .ok (.iload 6, 2) := by decide +kernel
theorem d_Mod_writePart_5 : decode b_Mod_writePart 5 = .ok (.bipush 16, 2) := by decide +kernel
theorem d_Mod_writePart_7 : decode b_Mod_writePart 7 = .ok (.iload 5, 2) := by decide +kernel
theorem d_Mod_writePart_9 : decode b_Mod_writePart 9 = .ok (.imul, 1) := by decide +kernel
theorem d_Mod_writePart_10 : decode b_Mod_writePart 10 = .ok (.if_icmp .ge 80, 3) := by decide +kernel
theorem d_Mod_writePart_90 : decode b_Mod_writePart 90 = .ok (.return_, 1) := by decide +kernel
theorem d_Mod_writePart_13 : decode b_Mod_writePart 13 = .ok (.iconst 0, 1) := by decide +kernel
theorem d_Mod_writePart_14 : decode b_Mod_writePart 14 = .ok (.istore 7, 2) := by decide +kernel
theorem d_Mod_writePart_16 : decode b_Mod_writePart 16 = .ok (.iconst 0, 1) := by decide +kernel
theorem d_Mod_writePart_17 : decode b_Mod_writePart 17 = .ok (.istore 8, 2) := by decide +kernel
theorem d_Mod_writePart_0 : decode b_Mod_writePart 0 = .ok (.iconst 0, 1) := by decide +kernel
theorem d_Mod_writePart_1 : decode b_Mod_writePart 1 = .ok (.istore 6, 2) := by decide +kernel
theorem d_Mod_writeLongs_152 : decode b_Mod_writeLongs 152 = .ok (.iload 5, 2) := by decide +kernel
theorem d_Mod_writeLongs_154 : decode b_Mod_writeLongs 154 = .ok (.iload_n 2, 1) := by decide +kernel
theorem d_Mod_writeLongs_155 : decode b_Mod_writeLongs 155 = .ok (.if_icmp .ge 25, 3) := by decide +kernel
theorem d_Mod_writeLongs_180 : decode b_Mod_writeLongs 180 = .ok (.iinc 1 64, 3) := by decide +kernel
theorem d_Mod_writeLongs_183 : decode b_Mod_writeLongs 183 = .ok (.goto (-152), 3) := by decide +kernel
theorem d_Mod_writeLongs_158 : decode b_Mod_writeLongs 158 = .ok (.aload_n 0, 1) := by decide +kernel
theorem d_Mod_writeLongs_159 : decode b_Mod_writeLongs 159 = .ok (.iload 5, 2) := by decide +kernel
theorem d_Mod_writeLongs_161 : decode b_Mod_writeLongs 161 = .ok (.iload_n 2, 1) := by decide +kernel
theorem d_Mod_writeLongs_162 : decode b_Mod_writeLongs 162 = .ok (.lload_n 3, 1) := by decide +kernel
theorem d_Mod_writeLongs_163 : decode b_Mod_writeLongs 163 = .ok (.aload_n 0, 1) := by decide +kernel
theorem d_Mod_writeLongs_164 : decode b_Mod_writeLongs 164 = .ok (.iload 5, 2) := by decide +kernel
theorem d_Mod_writeLongs_166 : decode b_Mod_writeLongs 166 = .ok (.iload_n 2, 1) := by decide +kernel
theorem d_Mod_writeLongs_167 : decode b_Mod_writeLongs 167 = .ok (.lload_n 3, 1) := by decide +kernel
theorem d_Mod_writeLongs_168 : decode b_Mod_writeLongs 168 = .ok (.invokevirtual 601, 3) := by decide +kernel
theorem d_Mod_writeLongs_171 : decode b_Mod_writeLongs 171 = .ok (.invokevirtual 604, 3) := by decide +kernel
theorem d_Mod_writeLongs_174 : decode b_Mod_writeLongs 174 = .ok (.iinc 5 16, 3) := by decide +kernel
theorem d_Mod_writeLongs_177 : decode b_Mod_writeLongs 177 = .ok (.goto (-25), 3) := by decide +kernel
theorem d_Mod_writeLongs_122 : decode b_Mod_writeLongs 122 = .ok (.iload 5, 2) := by decide +kernel
theorem d_Mod_writeLongs_124 : decode b_Mod_writeLongs 124 = .ok (.iload_n 1, 1) := by decide +kernel
theorem d_Mod_writeLongs_125 : decode b_Mod_writeLongs 125 = .ok (.bipush 64, 2) := by decide +kernel
theorem d_Mod_writeLongs_127 : decode b_Mod_writeLongs 127 = .ok (.iadd, 1) := by decide +kernel
theorem d_Mod_writeLongs_128 : decode b_Mod_writeLongs 128 = .ok (.if_icmp .ge 21, 3) := by decide +kernel
theorem d_Mod_writeLongs_149 : decode b_Mod_writeLongs 149 = .ok (.iload_n 1, 1) := by decide +kernel
theorem d_Mod_writeLongs_150 : decode b_Mod_writeLongs 150 = .ok (.istore 5, 2) := by decide +kernel
theorem d_Mod_writeLongs_131 : decode b_Mod_writeLongs 131 = .ok (.aload_n 0, 1) := by decide +kernel
theorem d_Mod_writeLongs_132 : decode b_Mod_writeLongs 132 = .ok (.aload_n 0, 1) := by decide +kernel
theorem d_Mod_writeLongs_133 : decode b_Mod_writeLongs 133 = .ok (.iload 5, 2) := by decide +kernel
theorem d_Mod_writeLongs_135 : decode b_Mod_writeLongs 135 = .ok (.iload_n 2, 1) := by decide +kernel
theorem d_Mod_writeLongs_136 : decode b_Mod_writeLongs 136 = .ok (.lload_n 3, 1) := by decide +kernel
theorem d_Mod_writeLongs_137 : decode b_Mod_writeLongs 137 = .ok (.invokevirtual 601, 3) := by decide +kernel
theorem d_Mod_writeLongs_140 : decode b_Mod_writeLongs 140 = .ok (.invokevirtual 558, 3) := by decide +kernel
theorem d_Mod_writeLongs_143 : decode b_Mod_writeLongs 143 = .ok (.iinc 5 16, 3) := by decide +kernel
theorem d_Mod_writeLongs_146 : decode b_Mod_writeLongs 146 = .ok (.goto (-24), 3) := by decide +kernel
theorem d_Mod_writeLongs_104 : decode b_Mod_writeLongs 104 = .ok (.lstore_n 3, 1) := by decide +kernel
theorem d_Mod_writeLongs_105 : decode b_Mod_writeLongs 105 = .ok (.iinc 5 1, 3) := by decide +kernel
theorem d_Mod_writeLongs_108 : decode b_Mod_writeLongs 108 = .ok (.goto (-31), 3) := by decide +kernel
theorem d_Mod_writeLongs_77 : decode b_Mod_writeLongs 77 = .ok (.iload 5, 2) := by decide +kernel
theorem d_Mod_writeLongs_79 : decode b_Mod_writeLongs 79 = .ok (.iload_n 2, 1) := by decide +kernel
theorem d_Mod_writeLongs_80 : decode b_Mod_writeLongs 80 = .ok (.if_icmp .ge 31, 3) := by decide +kernel
theorem d_Mod_writeLongs_111 : decode b_Mod_writeLongs 111 = .ok (.aload_n 0, 1) := by decide +kernel
theorem d_Mod_writeLongs_112 : decode b_Mod_writeLongs 112 = .ok (.lload_n 3, 1) := by decide +kernel
theorem d_Mod_writeLongs_113 : decode b_Mod_writeLongs 113 = .ok (.invokestatic 594, 3) := by decide +kernel
theorem d_Mod_writeLongs_116 : decode b_Mod_writeLongs 116 = .ok (.invokevirtual 567, 3) := by decide +kernel
theorem d_Mod_writeLongs_119 : decode b_Mod_writeLongs 119 = .ok (.iload_n 1, 1) := by decide +kernel
theorem d_Mod_writeLongs_120 : decode b_Mod_writeLongs 120 = .ok (.istore 5, 2) := by decide +kernel
theorem d_Mod_writeLongs_83 : decode b_Mod_writeLongs 83 = .ok (.aload_n 0, 1) := by decide +kernel
theorem d_Mod_writeLongs_84 : decode b_Mod_writeLongs 84 = .ok (.iload 5, 2) := by decide +kernel
theorem d_Mod_writeLongs_86 : decode b_Mod_writeLongs 86 = .ok (.invokevirtual 598, 3) := by decide +kernel
theorem d_Mod_writeLongs_89 : decode b_Mod_writeLongs 89 = .ok (.lload_n 3, 1) := by decide +kernel
theorem d_Mod_writeLongs_90 : decode b_Mod_writeLongs 90 = .ok (.lcmp, 1) := by decide +kernel
theorem d_Mod_writeLongs_91 : decode b_Mod_writeLongs 91 = .ok (.ifCond .ge 12, 3) := by decide +kernel
theorem d_Mod_writeLongs_103 : decode b_Mod_writeLongs 103 = .ok (.lload_n 3, 1) := by decide +kernel
theorem d_Mod_writeLongs_94 : decode b_Mod_writeLongs 94 = .ok (.aload_n 0, 1) := by decide +kernel
theorem d_Mod_writeLongs_95 : decode b_Mod_writeLongs 95 = .ok (.iload 5, 2) := by decide +kernel
theorem d_Mod_writeLongs_97 : decode b_Mod_writeLongs 97 = .ok (.invokevirtual 598, 3) := by decide +kernel
theorem d_Mod_writeLongs_100 : decode b_Mod_writeLongs 100 = .ok (.goto 4, 3) := by decide +kernel
theorem d_Mod_writeLongs_67 : decode b_Mod_writeLongs 67 = .ok (.istore_n 2, 1) := by decide +kernel
theorem d_Mod_writeLongs_68 : decode b_Mod_writeLongs 68 = .ok (.aload_n 0, 1) := by decide +kernel
theorem d_Mod_writeLongs_69 : decode b_Mod_writeLongs 69 = .ok (.iload_n 1, 1) := by decide +kernel
theorem d_Mod_writeLongs_70 : decode b_Mod_writeLongs 70 = .ok (.invokevirtual 598, 3) := by decide +kernel
theorem d_Mod_writeLongs_73 : decode b_Mod_writeLongs 73 = .ok (.lstore_n 3, 1) := by decide +kernel
theorem d_Mod_writeLongs_74 : decode b_Mod_writeLongs 74 = .ok (.iload_n 1, 1) := by decide +kernel
theorem d_Mod_writeLongs_75 : decode b_Mod_writeLongs 75 = .ok (.istore 5, 2) := by decide +kernel
theorem d_Mod_writeLongs_31 : decode b_Mod_writeLongs 31 = .ok (.iload_n 1, 1) := by decide +kernel
theorem d_Mod_writeLongs_32 : decode b_Mod_writeLongs 32 = .ok (.aload_n 0, 1) := by decide +kernel
theorem d_Mod_writeLongs_33 : decode b_Mod_writeLongs 33 = .ok (.getfield 591, 3) := by decide +kernel
theorem d_Mod_writeLongs_36 : decode b_Mod_writeLongs 36 = .ok (.iconst 1, 1) := by decide +kernel
theorem d_Mod_writeLongs_37 : decode b_Mod_writeLongs 37 = .ok (.isub, 1) := by decide +kernel
theorem d_Mod_writeLongs_38 : decode b_Mod_writeLongs 38 = .ok (.if_icmp .ge 148, 3) := by decide +kernel
theorem d_Mod_writeLongs_186 : decode b_Mod_writeLongs 186 = .ok (.return_, 1) := by decide +kernel
theorem d_Mod_writeLongs_41 : decode b_Mod_writeLongs 41 = .ok (.iload_n 1, 1) := by decide +kernel
theorem d_Mod_writeLongs_42 : decode b_Mod_writeLongs 42 = .ok (.bipush 64, 2) := by decide +kernel
theorem d_Mod_writeLongs_44 : decode b_Mod_writeLongs 44 = .ok (.iadd, 1) := by decide +kernel
theorem d_Mod_writeLongs_45 : decode b_Mod_writeLongs 45 = .ok (.aload_n 0, 1) := by decide +kernel
theorem d_Mod_writeLongs_46 : decode b_Mod_writeLongs 46 = .ok (.getfield 591, 3) := by decide +kernel
theorem d_Mod_writeLongs_49 : decode b_Mod_writeLongs 49 = .ok (.iconst 1, 1) := by decide +kernel
theorem d_Mod_writeLongs_50 : decode b_Mod_writeLongs 50 = .ok (.isub, 1) := by decide +kernel
theorem d_Mod_writeLongs_51 : decode b_Mod_writeLongs 51 = .ok (.if_icmp .ge 10, 3) := by decide +kernel
theorem d_Mod_writeLongs_61 : decode b_Mod_writeLongs 61 = .ok (.aload_n 0, 1) := by decide +kernel
theorem d_Mod_writeLongs_62 : decode b_Mod_writeLongs 62 = .ok (.getfield 591, 3) := by decide +kernel
theorem d_Mod_writeLongs_65 : decode b_Mod_writeLongs 65 = .ok (.iconst 1, 1) := by decide +kernel
theorem d_Mod_writeLongs_66 : decode b_Mod_writeLongs 66 = .ok (.isub, 1) := by decide +kernel
theorem d_Mod_writeLongs_54 : decode b_Mod_writeLongs 54 = .ok (.iload_n 1, 1) := by decide +kernel
theorem d_Mod_writeLongs_55 : decode b_Mod_writeLongs 55 = .ok (.bipush 64, 2) := by decide +kernel
theorem d_Mod_writeLongs_57 : decode b_Mod_writeLongs 57 = .ok (.iadd, 1) := by decide +kernel
theorem d_Mod_writeLongs_58 : decode b_Mod_writeLongs 58 = .ok (.goto 9, 3) := by decide +kernel
theorem d_Mod_writeLongs_29 : decode b_Mod_writeLongs 29 = .ok (.iconst 0, 1) := by decide +kernel
theorem d_Mod_writeLongs_30 : decode b_Mod_writeLongs 30 = .ok (.istore_n 1, 1) := by decide +kernel
theorem d_Mod_writeLongs_0 : decode b_Mod_writeLongs 0 = .ok (.aload_n 0, 1) := by decide +kernel
theorem d_Mod_writeLongs_1 : decode b_Mod_writeLongs 1 = .ok (.aload_n 0, 1) := by decide +kernel
theorem d_Mod_writeLongs_2 : decode b_Mod_writeLongs 2 = .ok (.getfield 591, 3) := by decide +kernel
theorem d_Mod_writeLongs_5 : decode b_Mod_writeLongs 5 = .ok (.i2l, 1) := by decide +kernel
theorem d_Mod_writeLongs_6 : decode b_Mod_writeLongs 6 = .ok (.invokevirtual 567, 3) := by decide +kernel
theorem d_Mod_writeLongs_9 : decode b_Mod_writeLongs 9 = .ok (.aload_n 0, 1) := by decide +kernel
theorem d_Mod_writeLongs_10 : decode b_Mod_writeLongs 10 = .ok (.getfield 591, 3) := by decide +kernel
theorem d_Mod_writeLongs_13 : decode b_Mod_writeLongs 13 = .ok (.ifCond .le 16, 3) := by decide +kernel
theorem d_Mod_writeLongs_16 : decode b_Mod_writeLongs 16 = .ok (.aload_n 0, 1) := by decide +kernel
theorem d_Mod_writeLongs_17 : decode b_Mod_writeLongs 17 = .ok (.aload_n 0, 1) := by decide +kernel
theorem d_Mod_writeLongs_18 : decode b_Mod_writeLongs 18 = .ok (.getfield 139, 3) := by decide +kernel
theorem d_Mod_writeLongs_21 : decode b_Mod_writeLongs 21 = .ok (.iconst 0, 1) := by decide +kernel
theorem d_Mod_writeLongs_22 : decode b_Mod_writeLongs 22 = .ok (.laload, 1) := by decide +kernel
theorem d_Mod_writeLongs_23 : decode b_Mod_writeLongs 23 = .ok (.invokestatic 594, 3) := by decide +kernel
theorem d_Mod_writeLongs_26 : decode b_Mod_writeLongs 26 = .ok (.invokevirtual 567, 3) := by decide +kernel
section
variable (l : Launch) (dC : Nat → ClassId) (dI : Nat → Nat → Nat) (cI cB cJ cZ : ClassId)
set_option maxRecDepth 100000 in
def wp_Mod_wide (post : Int32 → St → Prop)  (x : St) : Prop := ((¬ (fI x 0 38) = 1 → post 8 x) ∧ ((fI x 0 38) = 1 → post 4 x))
set_option maxHeartbeats 4000000 in
set_option maxRecDepth 100000 in
theorem t_Mod_wide_e {p : Program} {l : Launch} {e : Env} {R : Room} {s : State} {m : MethodId} {args : Array Value} {below : List Frame} {meth : Method} {c : Code} {cells slots : Nat} {Q : State → Prop} {dC : Nat → ClassId} {dI : Nat → Nat → Nat} {cI cB cJ cZ : ClassId} {A : Nat → Prop} {ad : Nat → Nat} {post : Int32 → St → Prop} (hx : p.tables.exec = Jvm.exec) (hb : c.code = b_Mod_wide) (hml : c.maxLocals = 1) (hown : s.vm.findClass R_Mod = some m.cls) (hT : ∀ w ∈ TG, w.before args s = true) (hK : va_K (dC, dI) CL (TY cI cB cJ cZ) s) (hN : NW s) (hA : ∀ q : Nat, s.heap.size ≤ q → A q) (hRc : cells ≤ R.cells) (hRs : slots ≤ R.slots) (hRf : 0 ≤ R.frames) (hRl : 0 ≤ R.locals) (hret : ∀ (r : Int32) (x : St) (H : Heap) (locs : List Loc) (pc : Nat) (ls : Array Slot), decode b_Mod_wide pc = .ok (.ireturn, 1) → post r x → Wd dC dI cI cB cJ cZ ad stM kcM 115 A x H → va_S A s.heap H locs → W p l e R s m args below meth c H locs cells slots Q (F0 m pc ls [.int r])) : ∀  (x : St) (H : Heap) (locs : List Loc) (ls : Array Slot), wp_Mod_wide post  x → Wd dC dI cI cB cJ cZ ad stM kcM 115 A x H → va_S A s.heap H locs → lv_has ls 1 [(0, .ref (ad 0))] → W p l e R s m args below meth c H locs cells slots Q (F0 m 0 ls []) := by
  intro  x H locs ls  hw hW hS hl
  unfold wp_Mod_wide at hw
  refine lv_aload_n hx hb d_Mod_wide_0 rfl (lv_at hl 0 rfl) ?_
  refine w_geti (k := 38) (t := 12) (C := R_Mod) (T := F_Mod) (N := 167) hx hb hT hown hK hW ko_0.1 ko_0.2 (by decide) in_Mod rfl rfl (by decide) rfl fr_Mod_38 w_8_218 d_Mod_wide_1 ?_
  refine lv_iconst (v := 1) hx hb d_Mod_wide_4 (by decide) ?_
  refine lv_icmp_ne (tgt := 12) hx hb d_Mod_wide_5 (by decide) (fun c538 => ?_) (fun c538 => ?_)
  · have hw := hw.1 c538
    refine lv_bipush (v := 8) hx hb d_Mod_wide_12 (by decide) ?_
    exact hret 8 x H locs 14 ls d_Mod_wide_14 hw hW hS
  · have hw := hw.2 c538
    refine lv_iconst (v := 4) hx hb d_Mod_wide_8 (by decide) ?_
    refine lv_goto (tgt := 14) hx hb d_Mod_wide_9 (by decide) ?_
    exact hret 4 x H locs 14 ls d_Mod_wide_14 hw hW hS
set_option maxHeartbeats 4000000 in
set_option maxRecDepth 100000 in
theorem k_Mod_wide (l : Launch) (dC : Nat → ClassId) (dI : Nat → Nat → Nat) (cI cB cJ cZ : ClassId) (ad : Nat → Nat) (sz : Nat)  (x : St) {post : Int32 → St → Prop} (hw : wp_Mod_wide post  x) : Met l y_Mod_wide (wsOf y_Mod_wide b_Mod_wide 1 (some (.int))) ({ frames := 0, cells := 0, slots := 0, locals := 0 }) (va_Pc [.ref (ad 0)] (PW dC dI cI cB cJ cZ ad stM kcM 115 sz x)) (va_Qi (fun (r : Int32) (y : St) => post r y) (fun y t => Wd dC dI cI cB cJ cZ ad stM kcM 115 (va_A (pic ad stM kcM 115 cI cB cJ cZ x) sz) y t.heap) (va_A (pic ad stM kcM 115 cI cB cJ cZ x) sz)) 0 0 (va_A (pic ad stM kcM 115 cI cB cJ cZ x) sz) := by
  refine Met.ofW (cc := b_Mod_wide) (maxL := 1) (ret := some (.int)) (by decide) rfl ?_
  intro p e s m args below meth c s₁ B hml hv
  obtain ⟨rfl, hsz, hW0, hK, hN⟩ := hv
  have hx := B.exec
  have hb := B.bytes
  have hr := B.returns
  have hts := atoms_spec B.pre
  have hT : ∀ w ∈ TG, w.before _ s = true := fun w h => hts w (List.mem_cons_of_mem _ h)
  have hown : s.vm.findClass R_Mod = some m.cls := findClass_of_methodNamed B.named
  have hlocks := B.notSynchronized
  subst hsz
  have hW : Wd dC dI cI cB cJ cZ ad stM kcM 115 (va_A (pic ad stM kcM 115 cI cB cJ cZ x) s.heap.size) x s.heap := ⟨hW0.1, hW0.2.1.self (sz := s.heap.size), hW0.2.2⟩
  generalize hAe : va_A (pic ad stM kcM 115 cI cB cJ cZ x) s.heap.size = A at hW ⊢
  have hA : ∀ q : Nat, s.heap.size ≤ q → A q := fun q h => by rw [← hAe]; exact Or.inr h
  have hS : va_S A s.heap s.heap [] := va_S.rf
  have hl := lv_entry ([.ref (ad 0)]) (n := 1) (Nat.le_of_ble_eq_true rfl)
  rw [lg_entry_eq]
  generalize (lg_sl ([.ref (ad 0)]) ++ List.replicate (1 - (lg_sl ([.ref (ad 0)])).length) Slot.unset).toArray = ls at hl ⊢
  have hl : lv_has ls 1 [(0, .ref (ad 0))] := hl
  exact t_Mod_wide_e hx hb hml hown hT hK hN hA (Nat.le_refl 0) (Nat.le_refl 0) (Nat.le_refl 0) (Nat.le_refl 0) (fun r x H locs pc ls hd hp hW hS => W.iret (v := r) hx hb hr (fun t ht hM => ⟨⟨r, x, rfl, hp, Wd.back hW ht.symm (fun _ z => z)⟩, hS.F ht⟩) hS.2.2 hd hlocks)   x _ _ ls  hw hW hS hl
set_option maxRecDepth 100000 in
def j_Mod_putFixed_3 (post : St → Prop) (rec3 : Int64 → Int32 → Int32 → St → Prop) (l1 : Int64) (l3 : Int32) (l4 : Int32) (x : St) : Prop := ((l3 ≤ l4 → post x) ∧ (¬ l3 ≤ l4 → wp_Mod_put (fun (x540 : St) => rec3 l1 l3 (l4 + 1) x540) (((l1 : Int64).toUInt64 >>> (((8 * l4) : Int32).toInt64.toUInt64 &&& Int64.toUInt64 63)).toInt64 : Int64).toInt32 x))
set_option maxHeartbeats 4000000 in
set_option maxRecDepth 100000 in
theorem t_Mod_putFixed_3 {p : Program} {l : Launch} {e : Env} {R : Room} {s : State} {m : MethodId} {args : Array Value} {below : List Frame} {meth : Method} {c : Code} {cells slots : Nat} {Q : State → Prop} {dC : Nat → ClassId} {dI : Nat → Nat → Nat} {cI cB cJ cZ : ClassId} {A : Nat → Prop} {ad : Nat → Nat} {post : St → Prop} {rec3 : Int64 → Int32 → Int32 → St → Prop} (hx : p.tables.exec = Jvm.exec) (hb : c.code = b_Mod_putFixed) (hml : c.maxLocals = 5) (hown : s.vm.findClass R_Mod = some m.cls) (hT : ∀ w ∈ TG, w.before args s = true) (hK : va_K (dC, dI) CL (TY cI cB cJ cZ) s) (hN : NW s) (hA : ∀ q : Nat, s.heap.size ≤ q → A q) (hRc : cells ≤ R.cells) (hRs : slots ≤ R.slots) (hRf : 1 ≤ R.frames) (hRl : 21 ≤ R.locals) (hret : ∀ (x : St) (H : Heap) (locs : List Loc) (pc : Nat) (ls : Array Slot), decode b_Mod_putFixed pc = .ok (.return_, 1) → post x → Wd dC dI cI cB cJ cZ ad stM kcM 115 A x H → va_S A s.heap H locs → W p l e R s m args below meth c H locs cells slots Q (F0 m pc ls [])) (hrec3 : ∀ (l1 : Int64) (l3 : Int32) (l4 : Int32) (x : St) (H : Heap) (locs : List Loc) (ls : Array Slot), rec3 l1 l3 l4 x → Wd dC dI cI cB cJ cZ ad stM kcM 115 A x H → va_S A s.heap H locs → lv_has ls 5 [(0, .ref (ad 0)), (1, .long l1), (3, .int l3), (4, .int l4)] → W p l e R s m args below meth c H locs cells slots Q (F0 m 3 ls [])) : ∀ (l1 : Int64) (l3 : Int32) (l4 : Int32) (x : St) (H : Heap) (locs : List Loc) (ls : Array Slot), j_Mod_putFixed_3 post rec3 l1 l3 l4 x → Wd dC dI cI cB cJ cZ ad stM kcM 115 A x H → va_S A s.heap H locs → lv_has ls 5 [(0, .ref (ad 0)), (1, .long l1), (3, .int l3), (4, .int l4)] → W p l e R s m args below meth c H locs cells slots Q (F0 m 3 ls []) := by
  intro l1 l3 l4 x H locs ls  hw hW hS hl
  unfold j_Mod_putFixed_3 at hw
  refine lv_iload hx hb d_Mod_putFixed_3 (lv_at hl 3 rfl) ?_
  refine lv_iload_n hx hb d_Mod_putFixed_5 rfl (lv_at hl 2 rfl) ?_
  refine lv_icmp_ge (tgt := 27) hx hb d_Mod_putFixed_6 (by decide) (fun c539 => ?_) (fun c539 => ?_)
  · have hw := hw.1 c539
    exact hret x H locs 27 ls d_Mod_putFixed_27 hw hW hS
  · have hw := hw.2 c539
    refine lv_aload_n hx hb d_Mod_putFixed_9 rfl (lv_at hl 0 rfl) ?_
    refine lv_lload_n hx hb d_Mod_putFixed_10 rfl (lv_at hl 1 rfl) ?_
    refine lv_bipush (v := 8) hx hb d_Mod_putFixed_11 (by decide) ?_
    refine lv_iload hx hb d_Mod_putFixed_13 (lv_at hl 3 rfl) ?_
    refine lv_imul hx hb d_Mod_putFixed_15 ?_
    refine lv_lushr hx hb d_Mod_putFixed_16 rfl ?_
    refine lv_l2i hx hb d_Mod_putFixed_17 rfl ?_
    have hF := hW.free hS hA
    refine va_callv (va_runV (C := R_Mod) (As := [.int (((l1 : Int64).toUInt64 >>> (((8 * l4) : Int32).toInt64.toUInt64 &&& Int64.toUInt64 63)).toInt64 : Int64).toInt32]) (rest := []) ⟨hx, hb, hml, hown, hT⟩ (k_Mod_put l dC dI cI cB cJ cZ ad H.size (((l1 : Int64).toUInt64 >>> (((8 * l4) : Int32).toInt64.toUInt64 &&& Int64.toUInt64 63)).toInt64 : Int64).toInt32 x  hw) ⟨callB_of 1 hT (gw_in w_11_203) rfl rfl rfl (hT _ w_1_15) (hT _ w_11_200) (by decide +kernel) ⟨Nat.le_trans (by decide) hRf, Nat.le_trans (by decide) hRl⟩, hT _ w_11_202, hT _ ws_154⟩ ⟨PW.blind, va_recv hK hW.1 (ci := 12) (q0 := 0) rfl (pic_obj ko_0.1 ko_0.2 (by decide)), PW.at _ hW hK hN⟩ rfl rfl hl.1 rfl (lv_room (Nat.le_of_ble_eq_true rfl)) d_Mod_putFixed_18 ⟨hRc, hRs⟩) hS (fun q _ h => hF q h) hF (fun  x540 t H locs ht hvm hw hB hz1 hk1 hS => ?_)
    have hW := Wd.back hB ht hF
    clear hB ht hF hz1 hk1 hvm
    refine lv_iinc (v := (l4 + 1)) (lv' := [(4, .int (l4 + 1)), (0, .ref (ad 0)), (1, .long l1), (3, .int l3)]) hx hb d_Mod_putFixed_21 hl (k := 3) rfl rfl (by decide) rfl (fun ls hl => ?_)
    refine lv_goto (tgt := 3) hx hb d_Mod_putFixed_24 (by decide) ?_
    exact hrec3 l1 l3 (l4 + 1) x540 H locs ls  hw hW hS (lv_sub hl [1, 2, 3, 0] rfl)
def wl_Mod_putFixed_3 (post : St → Prop) : Nat → Int64 → Int32 → Int32 → St → Prop
  | 0 => fun _ _ _ _ => False
  | n + 1 => j_Mod_putFixed_3 post (wl_Mod_putFixed_3 post n)
set_option maxHeartbeats 4000000 in
set_option maxRecDepth 100000 in
theorem tl_Mod_putFixed_3 {p : Program} {l : Launch} {e : Env} {R : Room} {s : State} {m : MethodId} {args : Array Value} {below : List Frame} {meth : Method} {c : Code} {cells slots : Nat} {Q : State → Prop} {dC : Nat → ClassId} {dI : Nat → Nat → Nat} {cI cB cJ cZ : ClassId} {A : Nat → Prop} {ad : Nat → Nat} {post : St → Prop} (hx : p.tables.exec = Jvm.exec) (hb : c.code = b_Mod_putFixed) (hml : c.maxLocals = 5) (hown : s.vm.findClass R_Mod = some m.cls) (hT : ∀ w ∈ TG, w.before args s = true) (hK : va_K (dC, dI) CL (TY cI cB cJ cZ) s) (hN : NW s) (hA : ∀ q : Nat, s.heap.size ≤ q → A q) (hRc : cells ≤ R.cells) (hRs : slots ≤ R.slots) (hRf : 1 ≤ R.frames) (hRl : 21 ≤ R.locals) (hret : ∀ (x : St) (H : Heap) (locs : List Loc) (pc : Nat) (ls : Array Slot), decode b_Mod_putFixed pc = .ok (.return_, 1) → post x → Wd dC dI cI cB cJ cZ ad stM kcM 115 A x H → va_S A s.heap H locs → W p l e R s m args below meth c H locs cells slots Q (F0 m pc ls []))  : ∀ n : Nat, ∀ (l1 : Int64) (l3 : Int32) (l4 : Int32) (x : St) (H : Heap) (locs : List Loc) (ls : Array Slot), wl_Mod_putFixed_3 post n l1 l3 l4 x → Wd dC dI cI cB cJ cZ ad stM kcM 115 A x H → va_S A s.heap H locs → lv_has ls 5 [(0, .ref (ad 0)), (1, .long l1), (3, .int l3), (4, .int l4)] → W p l e R s m args below meth c H locs cells slots Q (F0 m 3 ls []) := by
  intro n
  induction n with
  | zero => intro l1 l3 l4 x H locs ls  hw; exact hw.elim
  | succ n ih => intro l1 l3 l4 x H locs ls  hw hW hS hl; exact t_Mod_putFixed_3 hx hb hml hown hT hK hN hA hRc hRs hRf hRl hret  ih l1 l3 l4 x H locs ls  hw hW hS hl
set_option maxRecDepth 100000 in
def wp_Mod_putFixed (post : St → Prop) (l1 : Int64) (l3 : Int32) (x : St) : Prop := ∃ n : Nat, wl_Mod_putFixed_3 post n l1 l3 0 x
set_option maxHeartbeats 4000000 in
set_option maxRecDepth 100000 in
theorem t_Mod_putFixed_e {p : Program} {l : Launch} {e : Env} {R : Room} {s : State} {m : MethodId} {args : Array Value} {below : List Frame} {meth : Method} {c : Code} {cells slots : Nat} {Q : State → Prop} {dC : Nat → ClassId} {dI : Nat → Nat → Nat} {cI cB cJ cZ : ClassId} {A : Nat → Prop} {ad : Nat → Nat} {post : St → Prop} (hx : p.tables.exec = Jvm.exec) (hb : c.code = b_Mod_putFixed) (hml : c.maxLocals = 5) (hown : s.vm.findClass R_Mod = some m.cls) (hT : ∀ w ∈ TG, w.before args s = true) (hK : va_K (dC, dI) CL (TY cI cB cJ cZ) s) (hN : NW s) (hA : ∀ q : Nat, s.heap.size ≤ q → A q) (hRc : cells ≤ R.cells) (hRs : slots ≤ R.slots) (hRf : 1 ≤ R.frames) (hRl : 21 ≤ R.locals) (hret : ∀ (x : St) (H : Heap) (locs : List Loc) (pc : Nat) (ls : Array Slot), decode b_Mod_putFixed pc = .ok (.return_, 1) → post x → Wd dC dI cI cB cJ cZ ad stM kcM 115 A x H → va_S A s.heap H locs → W p l e R s m args below meth c H locs cells slots Q (F0 m pc ls [])) : ∀ (l1 : Int64) (l3 : Int32) (x : St) (H : Heap) (locs : List Loc) (ls : Array Slot), wp_Mod_putFixed post l1 l3 x → Wd dC dI cI cB cJ cZ ad stM kcM 115 A x H → va_S A s.heap H locs → lv_has ls 5 [(0, .ref (ad 0)), (1, .long l1), (3, .int l3)] → W p l e R s m args below meth c H locs cells slots Q (F0 m 0 ls []) := by
  intro l1 l3 x H locs ls  hw hW hS hl
  unfold wp_Mod_putFixed at hw
  refine lv_iconst (v := 0) hx hb d_Mod_putFixed_0 (by decide) ?_
  refine lv_istore (lv' := [(4, .int 0), (0, .ref (ad 0)), (1, .long l1), (3, .int l3)]) hx hb d_Mod_putFixed_1 hl (by decide) rfl (fun ls hl => ?_)
  obtain ⟨n, hw⟩ := hw
  exact tl_Mod_putFixed_3 hx hb hml hown hT hK hN hA hRc hRs hRf hRl hret  n l1 l3 0 x H locs ls  hw hW hS (lv_sub hl [1, 2, 3, 0] rfl)
set_option maxHeartbeats 4000000 in
set_option maxRecDepth 100000 in
theorem k_Mod_putFixed (l : Launch) (dC : Nat → ClassId) (dI : Nat → Nat → Nat) (cI cB cJ cZ : ClassId) (ad : Nat → Nat) (sz : Nat) (l1 : Int64) (l3 : Int32) (x : St) {post : St → Prop} (hw : wp_Mod_putFixed post l1 l3 x) : Met l y_Mod_putFixed (wsOf y_Mod_putFixed b_Mod_putFixed 5 (none)) ({ frames := 1, cells := 0, slots := 0, locals := 21 }) (va_Pc [.ref (ad 0), .long l1, .int l3] (PW dC dI cI cB cJ cZ ad stM kcM 115 sz x)) (va_Qv (fun (y : St) => post y) (fun y t => Wd dC dI cI cB cJ cZ ad stM kcM 115 (va_A (pic ad stM kcM 115 cI cB cJ cZ x) sz) y t.heap) (va_A (pic ad stM kcM 115 cI cB cJ cZ x) sz)) 0 0 (va_A (pic ad stM kcM 115 cI cB cJ cZ x) sz) := by
  refine Met.ofW (cc := b_Mod_putFixed) (maxL := 5) (ret := none) (by decide) rfl ?_
  intro p e s m args below meth c s₁ B hml hv
  obtain ⟨rfl, hsz, hW0, hK, hN⟩ := hv
  have hx := B.exec
  have hb := B.bytes
  have hr := B.returns
  have hts := atoms_spec B.pre
  have hT : ∀ w ∈ TG, w.before _ s = true := fun w h => hts w (List.mem_cons_of_mem _ h)
  have hown : s.vm.findClass R_Mod = some m.cls := findClass_of_methodNamed B.named
  have hlocks := B.notSynchronized
  subst hsz
  have hW : Wd dC dI cI cB cJ cZ ad stM kcM 115 (va_A (pic ad stM kcM 115 cI cB cJ cZ x) s.heap.size) x s.heap := ⟨hW0.1, hW0.2.1.self (sz := s.heap.size), hW0.2.2⟩
  generalize hAe : va_A (pic ad stM kcM 115 cI cB cJ cZ x) s.heap.size = A at hW ⊢
  have hA : ∀ q : Nat, s.heap.size ≤ q → A q := fun q h => by rw [← hAe]; exact Or.inr h
  have hS : va_S A s.heap s.heap [] := va_S.rf
  have hl := lv_entry ([.ref (ad 0), .long l1, .int l3]) (n := 5) (Nat.le_of_ble_eq_true rfl)
  rw [lg_entry_eq]
  generalize (lg_sl ([.ref (ad 0), .long l1, .int l3]) ++ List.replicate (5 - (lg_sl ([.ref (ad 0), .long l1, .int l3])).length) Slot.unset).toArray = ls at hl ⊢
  have hl : lv_has ls 5 [(0, .ref (ad 0)), (1, .long l1), (3, .int l3)] := hl
  exact t_Mod_putFixed_e hx hb hml hown hT hK hN hA (Nat.le_refl 0) (Nat.le_refl 0) (Nat.le_refl 1) (Nat.le_refl 21) (fun x H locs pc ls hd hp hW hS => W.vret hx hb hr (fun t ht hM => ⟨⟨x, rfl, hp, Wd.back hW ht.symm (fun _ z => z)⟩, hS.F ht⟩) hS.2.2 hd hlocks)  l1 l3 x _ _ ls  hw hW hS hl
set_option maxRecDepth 100000 in
def wp_Mod_zigzag (post : Int64 → St → Prop) (l0 : Int64) (x : St) : Prop := ((0 ≤ (lg_cmp l0 0) → post (2 * l0) x) ∧ (¬ 0 ≤ (lg_cmp l0 0) → post (((-2) * l0) - 1) x))
set_option maxHeartbeats 4000000 in
set_option maxRecDepth 100000 in
theorem t_Mod_zigzag_e {p : Program} {l : Launch} {e : Env} {R : Room} {s : State} {m : MethodId} {args : Array Value} {below : List Frame} {meth : Method} {c : Code} {cells slots : Nat} {Q : State → Prop} {dC : Nat → ClassId} {dI : Nat → Nat → Nat} {cI cB cJ cZ : ClassId} {A : Nat → Prop} {ad : Nat → Nat} {post : Int64 → St → Prop} (hx : p.tables.exec = Jvm.exec) (hb : c.code = b_Mod_zigzag) (hml : c.maxLocals = 2) (hown : s.vm.findClass R_Mod = some m.cls) (hT : ∀ w ∈ TG, w.before args s = true) (hK : va_K (dC, dI) CL (TY cI cB cJ cZ) s) (hN : NW s) (hA : ∀ q : Nat, s.heap.size ≤ q → A q) (hRc : cells ≤ R.cells) (hRs : slots ≤ R.slots) (hRf : 0 ≤ R.frames) (hRl : 0 ≤ R.locals) (hret : ∀ (r : Int64) (x : St) (H : Heap) (locs : List Loc) (pc : Nat) (ls : Array Slot), decode b_Mod_zigzag pc = .ok (.lreturn, 1) → post r x → Wd dC dI cI cB cJ cZ ad stM kcM 115 A x H → va_S A s.heap H locs → W p l e R s m args below meth c H locs cells slots Q (F0 m pc ls [.long r])) : ∀ (l0 : Int64) (x : St) (H : Heap) (locs : List Loc) (ls : Array Slot), wp_Mod_zigzag post l0 x → Wd dC dI cI cB cJ cZ ad stM kcM 115 A x H → va_S A s.heap H locs → lv_has ls 2 [(0, .long l0)] → W p l e R s m args below meth c H locs cells slots Q (F0 m 0 ls []) := by
  intro l0 x H locs ls  hw hW hS hl
  unfold wp_Mod_zigzag at hw
  refine lv_lload_n hx hb d_Mod_zigzag_0 rfl (lv_at hl 0 rfl) ?_
  refine lv_lconst (v := 0) hx hb d_Mod_zigzag_1 (by decide) ?_
  refine W.lcmp hx hb d_Mod_zigzag_2 ?_
  refine lv_if_ge (tgt := 16) hx hb d_Mod_zigzag_3 (by decide) (fun c541 => ?_) (fun c541 => ?_)
  · have hw := hw.1 c541
    refine lv_ldc2 hx hb hown (hT _ w_11_194) d_Mod_zigzag_16 ?_
    refine lv_lload_n hx hb d_Mod_zigzag_19 rfl (lv_at hl 0 rfl) ?_
    refine lv_lmul hx hb d_Mod_zigzag_20 ?_
    exact hret (2 * l0) x H locs 21 ls d_Mod_zigzag_21 hw hW hS
  · have hw := hw.2 c541
    refine lv_ldc2 hx hb hown (hT _ w_11_223) d_Mod_zigzag_6 ?_
    refine lv_lload_n hx hb d_Mod_zigzag_9 rfl (lv_at hl 0 rfl) ?_
    refine lv_lmul hx hb d_Mod_zigzag_10 ?_
    refine lv_lconst (v := 1) hx hb d_Mod_zigzag_11 (by decide) ?_
    refine lv_lsub hx hb d_Mod_zigzag_12 ?_
    refine lv_goto (tgt := 21) hx hb d_Mod_zigzag_13 (by decide) ?_
    exact hret (((-2) * l0) - 1) x H locs 21 ls d_Mod_zigzag_21 hw hW hS
set_option maxHeartbeats 4000000 in
set_option maxRecDepth 100000 in
theorem k_Mod_zigzag (l : Launch) (dC : Nat → ClassId) (dI : Nat → Nat → Nat) (cI cB cJ cZ : ClassId) (ad : Nat → Nat) (sz : Nat) (l0 : Int64) (x : St) {post : Int64 → St → Prop} (hw : wp_Mod_zigzag post l0 x) : Met l y_Mod_zigzag (wsOf y_Mod_zigzag b_Mod_zigzag 2 (some (.long))) ({ frames := 0, cells := 0, slots := 0, locals := 0 }) (va_Pc [.long l0] (PW dC dI cI cB cJ cZ ad stM kcM 115 sz x)) (va_Ql (fun (r : Int64) (y : St) => post r y) (fun y t => Wd dC dI cI cB cJ cZ ad stM kcM 115 (va_A (pic ad stM kcM 115 cI cB cJ cZ x) sz) y t.heap) (va_A (pic ad stM kcM 115 cI cB cJ cZ x) sz)) 0 0 (va_A (pic ad stM kcM 115 cI cB cJ cZ x) sz) := by
  refine Met.ofW (cc := b_Mod_zigzag) (maxL := 2) (ret := some (.long)) (by decide) rfl ?_
  intro p e s m args below meth c s₁ B hml hv
  obtain ⟨rfl, hsz, hW0, hK, hN⟩ := hv
  have hx := B.exec
  have hb := B.bytes
  have hr := B.returns
  have hts := atoms_spec B.pre
  have hT : ∀ w ∈ TG, w.before _ s = true := fun w h => hts w (List.mem_cons_of_mem _ h)
  have hown : s.vm.findClass R_Mod = some m.cls := findClass_of_methodNamed B.named
  have hlocks := B.notSynchronized
  subst hsz
  have hW : Wd dC dI cI cB cJ cZ ad stM kcM 115 (va_A (pic ad stM kcM 115 cI cB cJ cZ x) s.heap.size) x s.heap := ⟨hW0.1, hW0.2.1.self (sz := s.heap.size), hW0.2.2⟩
  generalize hAe : va_A (pic ad stM kcM 115 cI cB cJ cZ x) s.heap.size = A at hW ⊢
  have hA : ∀ q : Nat, s.heap.size ≤ q → A q := fun q h => by rw [← hAe]; exact Or.inr h
  have hS : va_S A s.heap s.heap [] := va_S.rf
  have hl := lv_entry ([.long l0]) (n := 2) (Nat.le_of_ble_eq_true rfl)
  rw [lg_entry_eq]
  generalize (lg_sl ([.long l0]) ++ List.replicate (2 - (lg_sl ([.long l0])).length) Slot.unset).toArray = ls at hl ⊢
  have hl : lv_has ls 2 [(0, .long l0)] := hl
  exact t_Mod_zigzag_e hx hb hml hown hT hK hN hA (Nat.le_refl 0) (Nat.le_refl 0) (Nat.le_refl 0) (Nat.le_refl 0) (fun r x H locs pc ls hd hp hW hS => W.lret (v := r) hx hb hr (fun t ht hM => ⟨⟨r, x, rfl, hp, Wd.back hW ht.symm (fun _ z => z)⟩, hS.F ht⟩) hS.2.2 hd hlocks)  l0 x _ _ ls  hw hW hS hl
set_option maxRecDepth 100000 in
def wp_Mod_difference (post : Int64 → St → Prop) (l1 : Int32) (x : St) : Prop := (vp_in (l1 + 1) (fN x 43) ∧ (vp_in l1 (fN x 43) ∧ post ((rL x 43 (l1 + 1)) - (rL x 43 l1)) x))
set_option maxHeartbeats 4000000 in
set_option maxRecDepth 100000 in
theorem t_Mod_difference_e {p : Program} {l : Launch} {e : Env} {R : Room} {s : State} {m : MethodId} {args : Array Value} {below : List Frame} {meth : Method} {c : Code} {cells slots : Nat} {Q : State → Prop} {dC : Nat → ClassId} {dI : Nat → Nat → Nat} {cI cB cJ cZ : ClassId} {A : Nat → Prop} {ad : Nat → Nat} {post : Int64 → St → Prop} (hx : p.tables.exec = Jvm.exec) (hb : c.code = b_Mod_difference) (hml : c.maxLocals = 2) (hown : s.vm.findClass R_Mod = some m.cls) (hT : ∀ w ∈ TG, w.before args s = true) (hK : va_K (dC, dI) CL (TY cI cB cJ cZ) s) (hN : NW s) (hA : ∀ q : Nat, s.heap.size ≤ q → A q) (hRc : cells ≤ R.cells) (hRs : slots ≤ R.slots) (hRf : 0 ≤ R.frames) (hRl : 0 ≤ R.locals) (hret : ∀ (r : Int64) (x : St) (H : Heap) (locs : List Loc) (pc : Nat) (ls : Array Slot), decode b_Mod_difference pc = .ok (.lreturn, 1) → post r x → Wd dC dI cI cB cJ cZ ad stM kcM 115 A x H → va_S A s.heap H locs → W p l e R s m args below meth c H locs cells slots Q (F0 m pc ls [.long r])) : ∀ (l1 : Int32) (x : St) (H : Heap) (locs : List Loc) (ls : Array Slot), wp_Mod_difference post l1 x → Wd dC dI cI cB cJ cZ ad stM kcM 115 A x H → va_S A s.heap H locs → lv_has ls 2 [(0, .ref (ad 0)), (1, .int l1)] → W p l e R s m args below meth c H locs cells slots Q (F0 m 0 ls []) := by
  intro l1 x H locs ls  hw hW hS hl
  unfold wp_Mod_difference at hw
  refine lv_aload_n hx hb d_Mod_difference_0 rfl (lv_at hl 0 rfl) ?_
  refine w_getf (q := 43) (k := 70) (t := 12) (C := R_Mod) (T := F_Mod) (N := 167) hx hb hT hown hK hW ko_0.1 ko_0.2 (by decide) in_Mod rfl rfl (by decide) rfl fr_Mod_70 w_9_10 d_Mod_difference_1 rfl ?_
  refine lv_iload_n hx hb d_Mod_difference_4 rfl (lv_at hl 1 rfl) ?_
  refine lv_iconst (v := 1) hx hb d_Mod_difference_5 (by decide) ?_
  refine lv_iadd hx hb d_Mod_difference_6 ?_
  obtain ⟨hi, hw⟩ := hw
  refine w_lald (o := 43) hx hb hK hW ko_43.1 ko_43.2 hi d_Mod_difference_7 ?_
  refine lv_aload_n hx hb d_Mod_difference_8 rfl (lv_at hl 0 rfl) ?_
  refine w_getf (q := 43) (k := 70) (t := 12) (C := R_Mod) (T := F_Mod) (N := 167) hx hb hT hown hK hW ko_0.1 ko_0.2 (by decide) in_Mod rfl rfl (by decide) rfl fr_Mod_70 w_9_10 d_Mod_difference_9 rfl ?_
  refine lv_iload_n hx hb d_Mod_difference_12 rfl (lv_at hl 1 rfl) ?_
  obtain ⟨hi, hw⟩ := hw
  refine w_lald (o := 43) hx hb hK hW ko_43.1 ko_43.2 hi d_Mod_difference_13 ?_
  refine lv_lsub hx hb d_Mod_difference_14 ?_
  exact hret ((rL x 43 (l1 + 1)) - (rL x 43 l1)) x H locs 15 ls d_Mod_difference_15 hw hW hS
set_option maxHeartbeats 4000000 in
set_option maxRecDepth 100000 in
theorem k_Mod_difference (l : Launch) (dC : Nat → ClassId) (dI : Nat → Nat → Nat) (cI cB cJ cZ : ClassId) (ad : Nat → Nat) (sz : Nat) (l1 : Int32) (x : St) {post : Int64 → St → Prop} (hw : wp_Mod_difference post l1 x) : Met l y_Mod_difference (wsOf y_Mod_difference b_Mod_difference 2 (some (.long))) ({ frames := 0, cells := 0, slots := 0, locals := 0 }) (va_Pc [.ref (ad 0), .int l1] (PW dC dI cI cB cJ cZ ad stM kcM 115 sz x)) (va_Ql (fun (r : Int64) (y : St) => post r y) (fun y t => Wd dC dI cI cB cJ cZ ad stM kcM 115 (va_A (pic ad stM kcM 115 cI cB cJ cZ x) sz) y t.heap) (va_A (pic ad stM kcM 115 cI cB cJ cZ x) sz)) 0 0 (va_A (pic ad stM kcM 115 cI cB cJ cZ x) sz) := by
  refine Met.ofW (cc := b_Mod_difference) (maxL := 2) (ret := some (.long)) (by decide) rfl ?_
  intro p e s m args below meth c s₁ B hml hv
  obtain ⟨rfl, hsz, hW0, hK, hN⟩ := hv
  have hx := B.exec
  have hb := B.bytes
  have hr := B.returns
  have hts := atoms_spec B.pre
  have hT : ∀ w ∈ TG, w.before _ s = true := fun w h => hts w (List.mem_cons_of_mem _ h)
  have hown : s.vm.findClass R_Mod = some m.cls := findClass_of_methodNamed B.named
  have hlocks := B.notSynchronized
  subst hsz
  have hW : Wd dC dI cI cB cJ cZ ad stM kcM 115 (va_A (pic ad stM kcM 115 cI cB cJ cZ x) s.heap.size) x s.heap := ⟨hW0.1, hW0.2.1.self (sz := s.heap.size), hW0.2.2⟩
  generalize hAe : va_A (pic ad stM kcM 115 cI cB cJ cZ x) s.heap.size = A at hW ⊢
  have hA : ∀ q : Nat, s.heap.size ≤ q → A q := fun q h => by rw [← hAe]; exact Or.inr h
  have hS : va_S A s.heap s.heap [] := va_S.rf
  have hl := lv_entry ([.ref (ad 0), .int l1]) (n := 2) (Nat.le_of_ble_eq_true rfl)
  rw [lg_entry_eq]
  generalize (lg_sl ([.ref (ad 0), .int l1]) ++ List.replicate (2 - (lg_sl ([.ref (ad 0), .int l1])).length) Slot.unset).toArray = ls at hl ⊢
  have hl : lv_has ls 2 [(0, .ref (ad 0)), (1, .int l1)] := hl
  exact t_Mod_difference_e hx hb hml hown hT hK hN hA (Nat.le_refl 0) (Nat.le_refl 0) (Nat.le_refl 0) (Nat.le_refl 0) (fun r x H locs pc ls hd hp hW hS => W.lret (v := r) hx hb hr (fun t ht hM => ⟨⟨r, x, rfl, hp, Wd.back hW ht.symm (fun _ z => z)⟩, hS.F ht⟩) hS.2.2 hd hlocks)  l1 x _ _ ls  hw hW hS hl
set_option maxRecDepth 100000 in
def j_Mod_widthOf_56 (post : Int32 → St → Prop) (l1 : Int32) (l2 : Int32) (l3 : Int64) (l5 : Int32) (l6 : Int32) (x : St) : Prop := post l5 x
set_option maxHeartbeats 4000000 in
set_option maxRecDepth 100000 in
theorem t_Mod_widthOf_56 {p : Program} {l : Launch} {e : Env} {R : Room} {s : State} {m : MethodId} {args : Array Value} {below : List Frame} {meth : Method} {c : Code} {cells slots : Nat} {Q : State → Prop} {dC : Nat → ClassId} {dI : Nat → Nat → Nat} {cI cB cJ cZ : ClassId} {A : Nat → Prop} {ad : Nat → Nat} {post : Int32 → St → Prop} (hx : p.tables.exec = Jvm.exec) (hb : c.code = b_Mod_widthOf) (hml : c.maxLocals = 7) (hown : s.vm.findClass R_Mod = some m.cls) (hT : ∀ w ∈ TG, w.before args s = true) (hK : va_K (dC, dI) CL (TY cI cB cJ cZ) s) (hN : NW s) (hA : ∀ q : Nat, s.heap.size ≤ q → A q) (hRc : cells ≤ R.cells) (hRs : slots ≤ R.slots) (hRf : 1 ≤ R.frames) (hRl : 21 ≤ R.locals) (hret : ∀ (r : Int32) (x : St) (H : Heap) (locs : List Loc) (pc : Nat) (ls : Array Slot), decode b_Mod_widthOf pc = .ok (.ireturn, 1) → post r x → Wd dC dI cI cB cJ cZ ad stM kcM 115 A x H → va_S A s.heap H locs → W p l e R s m args below meth c H locs cells slots Q (F0 m pc ls [.int r]))  : ∀ (l1 : Int32) (l2 : Int32) (l3 : Int64) (l5 : Int32) (l6 : Int32) (x : St) (H : Heap) (locs : List Loc) (ls : Array Slot), j_Mod_widthOf_56 post l1 l2 l3 l5 l6 x → Wd dC dI cI cB cJ cZ ad stM kcM 115 A x H → va_S A s.heap H locs → lv_has ls 7 [(0, .ref (ad 0)), (1, .int l1), (2, .int l2), (3, .long l3), (5, .int l5), (6, .int l6)] → W p l e R s m args below meth c H locs cells slots Q (F0 m 56 ls []) := by
  intro l1 l2 l3 l5 l6 x H locs ls  hw hW hS hl
  unfold j_Mod_widthOf_56 at hw
  refine lv_iload hx hb d_Mod_widthOf_56 (lv_at hl 4 rfl) ?_
  exact hret l5 x H locs 58 ls d_Mod_widthOf_58 hw hW hS
set_option maxRecDepth 100000 in
def j_Mod_widthOf_50 (post : Int32 → St → Prop) (rec6 : Int32 → Int32 → Int64 → Int32 → Int32 → St → Prop) (l1 : Int32) (l2 : Int32) (l3 : Int64) (l5 : Int32) (l6 : Int32) (x : St) : Prop := rec6 l1 l2 l3 l5 (l6 + 1) x
set_option maxHeartbeats 4000000 in
set_option maxRecDepth 100000 in
theorem t_Mod_widthOf_50 {p : Program} {l : Launch} {e : Env} {R : Room} {s : State} {m : MethodId} {args : Array Value} {below : List Frame} {meth : Method} {c : Code} {cells slots : Nat} {Q : State → Prop} {dC : Nat → ClassId} {dI : Nat → Nat → Nat} {cI cB cJ cZ : ClassId} {A : Nat → Prop} {ad : Nat → Nat} {post : Int32 → St → Prop} {rec6 : Int32 → Int32 → Int64 → Int32 → Int32 → St → Prop} (hx : p.tables.exec = Jvm.exec) (hb : c.code = b_Mod_widthOf) (hml : c.maxLocals = 7) (hown : s.vm.findClass R_Mod = some m.cls) (hT : ∀ w ∈ TG, w.before args s = true) (hK : va_K (dC, dI) CL (TY cI cB cJ cZ) s) (hN : NW s) (hA : ∀ q : Nat, s.heap.size ≤ q → A q) (hRc : cells ≤ R.cells) (hRs : slots ≤ R.slots) (hRf : 1 ≤ R.frames) (hRl : 21 ≤ R.locals) (hret : ∀ (r : Int32) (x : St) (H : Heap) (locs : List Loc) (pc : Nat) (ls : Array Slot), decode b_Mod_widthOf pc = .ok (.ireturn, 1) → post r x → Wd dC dI cI cB cJ cZ ad stM kcM 115 A x H → va_S A s.heap H locs → W p l e R s m args below meth c H locs cells slots Q (F0 m pc ls [.int r])) (hrec6 : ∀ (l1 : Int32) (l2 : Int32) (l3 : Int64) (l5 : Int32) (l6 : Int32) (x : St) (H : Heap) (locs : List Loc) (ls : Array Slot), rec6 l1 l2 l3 l5 l6 x → Wd dC dI cI cB cJ cZ ad stM kcM 115 A x H → va_S A s.heap H locs → lv_has ls 7 [(0, .ref (ad 0)), (1, .int l1), (2, .int l2), (3, .long l3), (5, .int l5), (6, .int l6)] → W p l e R s m args below meth c H locs cells slots Q (F0 m 6 ls [])) : ∀ (l1 : Int32) (l2 : Int32) (l3 : Int64) (l5 : Int32) (l6 : Int32) (x : St) (H : Heap) (locs : List Loc) (ls : Array Slot), j_Mod_widthOf_50 post rec6 l1 l2 l3 l5 l6 x → Wd dC dI cI cB cJ cZ ad stM kcM 115 A x H → va_S A s.heap H locs → lv_has ls 7 [(0, .ref (ad 0)), (1, .int l1), (2, .int l2), (3, .long l3), (5, .int l5), (6, .int l6)] → W p l e R s m args below meth c H locs cells slots Q (F0 m 50 ls []) := by
  intro l1 l2 l3 l5 l6 x H locs ls  hw hW hS hl
  unfold j_Mod_widthOf_50 at hw
  refine lv_iinc (v := (l6 + 1)) (lv' := [(6, .int (l6 + 1)), (0, .ref (ad 0)), (1, .int l1), (2, .int l2), (3, .long l3), (5, .int l5)]) hx hb d_Mod_widthOf_50 hl (k := 5) rfl rfl (by decide) rfl (fun ls hl => ?_)
  refine lv_goto (tgt := 6) hx hb d_Mod_widthOf_53 (by decide) ?_
  exact hrec6 l1 l2 l3 l5 (l6 + 1) x H locs ls  hw hW hS (lv_sub hl [1, 2, 3, 4, 5, 0] rfl)
set_option maxRecDepth 100000 in
def j_Mod_widthOf_21 (post : Int32 → St → Prop) (rec6 : Int32 → Int32 → Int64 → Int32 → Int32 → St → Prop) (rec21 : Int32 → Int32 → Int64 → Int32 → Int32 → St → Prop) (l1 : Int32) (l2 : Int32) (l3 : Int64) (l5 : Int32) (l6 : Int32) (x : St) : Prop := ((64 ≤ l5 → j_Mod_widthOf_50 post rec6 l1 l2 l3 l5 l6 x) ∧ (¬ 64 ≤ l5 → wp_Mod_difference (fun (r544 : Int64) (x543 : St) => (((lg_cmp (((r544 - l3) : Int64).toUInt64 >>> ((l5 : Int32).toInt64.toUInt64 &&& Int64.toUInt64 63)).toInt64 0) = 0 → j_Mod_widthOf_50 post rec6 l1 l2 l3 l5 l6 x543) ∧ (¬ (lg_cmp (((r544 - l3) : Int64).toUInt64 >>> ((l5 : Int32).toInt64.toUInt64 &&& Int64.toUInt64 63)).toInt64 0) = 0 → rec21 l1 l2 l3 (l5 + 1) l6 x543))) l6 x))
set_option maxHeartbeats 4000000 in
set_option maxRecDepth 100000 in
theorem t_Mod_widthOf_21 {p : Program} {l : Launch} {e : Env} {R : Room} {s : State} {m : MethodId} {args : Array Value} {below : List Frame} {meth : Method} {c : Code} {cells slots : Nat} {Q : State → Prop} {dC : Nat → ClassId} {dI : Nat → Nat → Nat} {cI cB cJ cZ : ClassId} {A : Nat → Prop} {ad : Nat → Nat} {post : Int32 → St → Prop} {rec6 : Int32 → Int32 → Int64 → Int32 → Int32 → St → Prop} {rec21 : Int32 → Int32 → Int64 → Int32 → Int32 → St → Prop} (hx : p.tables.exec = Jvm.exec) (hb : c.code = b_Mod_widthOf) (hml : c.maxLocals = 7) (hown : s.vm.findClass R_Mod = some m.cls) (hT : ∀ w ∈ TG, w.before args s = true) (hK : va_K (dC, dI) CL (TY cI cB cJ cZ) s) (hN : NW s) (hA : ∀ q : Nat, s.heap.size ≤ q → A q) (hRc : cells ≤ R.cells) (hRs : slots ≤ R.slots) (hRf : 1 ≤ R.frames) (hRl : 21 ≤ R.locals) (hret : ∀ (r : Int32) (x : St) (H : Heap) (locs : List Loc) (pc : Nat) (ls : Array Slot), decode b_Mod_widthOf pc = .ok (.ireturn, 1) → post r x → Wd dC dI cI cB cJ cZ ad stM kcM 115 A x H → va_S A s.heap H locs → W p l e R s m args below meth c H locs cells slots Q (F0 m pc ls [.int r])) (hrec6 : ∀ (l1 : Int32) (l2 : Int32) (l3 : Int64) (l5 : Int32) (l6 : Int32) (x : St) (H : Heap) (locs : List Loc) (ls : Array Slot), rec6 l1 l2 l3 l5 l6 x → Wd dC dI cI cB cJ cZ ad stM kcM 115 A x H → va_S A s.heap H locs → lv_has ls 7 [(0, .ref (ad 0)), (1, .int l1), (2, .int l2), (3, .long l3), (5, .int l5), (6, .int l6)] → W p l e R s m args below meth c H locs cells slots Q (F0 m 6 ls [])) (hrec21 : ∀ (l1 : Int32) (l2 : Int32) (l3 : Int64) (l5 : Int32) (l6 : Int32) (x : St) (H : Heap) (locs : List Loc) (ls : Array Slot), rec21 l1 l2 l3 l5 l6 x → Wd dC dI cI cB cJ cZ ad stM kcM 115 A x H → va_S A s.heap H locs → lv_has ls 7 [(0, .ref (ad 0)), (1, .int l1), (2, .int l2), (3, .long l3), (5, .int l5), (6, .int l6)] → W p l e R s m args below meth c H locs cells slots Q (F0 m 21 ls [])) : ∀ (l1 : Int32) (l2 : Int32) (l3 : Int64) (l5 : Int32) (l6 : Int32) (x : St) (H : Heap) (locs : List Loc) (ls : Array Slot), j_Mod_widthOf_21 post rec6 rec21 l1 l2 l3 l5 l6 x → Wd dC dI cI cB cJ cZ ad stM kcM 115 A x H → va_S A s.heap H locs → lv_has ls 7 [(0, .ref (ad 0)), (1, .int l1), (2, .int l2), (3, .long l3), (5, .int l5), (6, .int l6)] → W p l e R s m args below meth c H locs cells slots Q (F0 m 21 ls []) := by
  intro l1 l2 l3 l5 l6 x H locs ls  hw hW hS hl
  unfold j_Mod_widthOf_21 at hw
  refine lv_iload hx hb d_Mod_widthOf_21 (lv_at hl 4 rfl) ?_
  refine lv_bipush (v := 64) hx hb d_Mod_widthOf_23 (by decide) ?_
  refine lv_icmp_ge (tgt := 50) hx hb d_Mod_widthOf_25 (by decide) (fun c542 => ?_) (fun c542 => ?_)
  · have hw := hw.1 c542
    exact t_Mod_widthOf_50 hx hb hml hown hT hK hN hA hRc hRs hRf hRl hret hrec6 l1 l2 l3 l5 l6 x H locs ls  hw hW hS (lv_sub hl [0, 1, 2, 3, 4, 5] rfl)
  · have hw := hw.2 c542
    refine lv_aload_n hx hb d_Mod_widthOf_28 rfl (lv_at hl 0 rfl) ?_
    refine lv_iload hx hb d_Mod_widthOf_29 (lv_at hl 5 rfl) ?_
    have hF := hW.free hS hA
    refine va_calll (va_runV (C := R_Mod) (As := [.int l6]) (rest := []) ⟨hx, hb, hml, hown, hT⟩ (k_Mod_difference l dC dI cI cB cJ cZ ad H.size l6 x  hw) ⟨callB_of 1 hT (gw_in w_11_227) rfl rfl rfl (hT _ w_1_15) (hT _ w_11_224) (by decide +kernel) ⟨Nat.le_trans (by decide) hRf, Nat.le_trans (by decide) hRl⟩, hT _ w_11_226, hT _ ws_159⟩ ⟨PW.blind, va_recv hK hW.1 (ci := 12) (q0 := 0) rfl (pic_obj ko_0.1 ko_0.2 (by decide)), PW.at _ hW hK hN⟩ rfl rfl hl.1 rfl (lv_room (Nat.le_of_ble_eq_true rfl)) d_Mod_widthOf_31 ⟨hRc, hRs⟩) hS (fun q _ h => hF q h) hF (fun r544 x543 t H locs ht hvm hw hB hz1 hk1 hS => ?_)
    have hW := Wd.back hB ht hF
    clear hB ht hF hz1 hk1 hvm
    refine lv_lload_n hx hb d_Mod_widthOf_34 rfl (lv_at hl 3 rfl) ?_
    refine lv_lsub hx hb d_Mod_widthOf_35 ?_
    refine lv_iload hx hb d_Mod_widthOf_36 (lv_at hl 4 rfl) ?_
    refine lv_lushr hx hb d_Mod_widthOf_38 rfl ?_
    refine lv_lconst (v := 0) hx hb d_Mod_widthOf_39 (by decide) ?_
    refine W.lcmp hx hb d_Mod_widthOf_40 ?_
    refine lv_if_eq (tgt := 50) hx hb d_Mod_widthOf_41 (by decide) (fun c545 => ?_) (fun c545 => ?_)
    · have hw := hw.1 c545
      exact t_Mod_widthOf_50 hx hb hml hown hT hK hN hA hRc hRs hRf hRl hret hrec6 l1 l2 l3 l5 l6 x543 H locs ls  hw hW hS (lv_sub hl [0, 1, 2, 3, 4, 5] rfl)
    · have hw := hw.2 c545
      refine lv_iinc (v := (l5 + 1)) (lv' := [(5, .int (l5 + 1)), (0, .ref (ad 0)), (1, .int l1), (2, .int l2), (3, .long l3), (6, .int l6)]) hx hb d_Mod_widthOf_44 hl (k := 4) rfl rfl (by decide) rfl (fun ls hl => ?_)
      refine lv_goto (tgt := 21) hx hb d_Mod_widthOf_47 (by decide) ?_
      exact hrec21 l1 l2 l3 (l5 + 1) l6 x543 H locs ls  hw hW hS (lv_sub hl [1, 2, 3, 4, 0, 5] rfl)
def wl_Mod_widthOf_21 (post : Int32 → St → Prop) (rec6 : Int32 → Int32 → Int64 → Int32 → Int32 → St → Prop) : Nat → Int32 → Int32 → Int64 → Int32 → Int32 → St → Prop
  | 0 => fun _ _ _ _ _ _ => False
  | n + 1 => j_Mod_widthOf_21 post rec6 (wl_Mod_widthOf_21 post rec6 n)
set_option maxHeartbeats 4000000 in
set_option maxRecDepth 100000 in
theorem tl_Mod_widthOf_21 {p : Program} {l : Launch} {e : Env} {R : Room} {s : State} {m : MethodId} {args : Array Value} {below : List Frame} {meth : Method} {c : Code} {cells slots : Nat} {Q : State → Prop} {dC : Nat → ClassId} {dI : Nat → Nat → Nat} {cI cB cJ cZ : ClassId} {A : Nat → Prop} {ad : Nat → Nat} {post : Int32 → St → Prop} {rec6 : Int32 → Int32 → Int64 → Int32 → Int32 → St → Prop} (hx : p.tables.exec = Jvm.exec) (hb : c.code = b_Mod_widthOf) (hml : c.maxLocals = 7) (hown : s.vm.findClass R_Mod = some m.cls) (hT : ∀ w ∈ TG, w.before args s = true) (hK : va_K (dC, dI) CL (TY cI cB cJ cZ) s) (hN : NW s) (hA : ∀ q : Nat, s.heap.size ≤ q → A q) (hRc : cells ≤ R.cells) (hRs : slots ≤ R.slots) (hRf : 1 ≤ R.frames) (hRl : 21 ≤ R.locals) (hret : ∀ (r : Int32) (x : St) (H : Heap) (locs : List Loc) (pc : Nat) (ls : Array Slot), decode b_Mod_widthOf pc = .ok (.ireturn, 1) → post r x → Wd dC dI cI cB cJ cZ ad stM kcM 115 A x H → va_S A s.heap H locs → W p l e R s m args below meth c H locs cells slots Q (F0 m pc ls [.int r])) (hrec6 : ∀ (l1 : Int32) (l2 : Int32) (l3 : Int64) (l5 : Int32) (l6 : Int32) (x : St) (H : Heap) (locs : List Loc) (ls : Array Slot), rec6 l1 l2 l3 l5 l6 x → Wd dC dI cI cB cJ cZ ad stM kcM 115 A x H → va_S A s.heap H locs → lv_has ls 7 [(0, .ref (ad 0)), (1, .int l1), (2, .int l2), (3, .long l3), (5, .int l5), (6, .int l6)] → W p l e R s m args below meth c H locs cells slots Q (F0 m 6 ls [])) : ∀ n : Nat, ∀ (l1 : Int32) (l2 : Int32) (l3 : Int64) (l5 : Int32) (l6 : Int32) (x : St) (H : Heap) (locs : List Loc) (ls : Array Slot), wl_Mod_widthOf_21 post rec6 n l1 l2 l3 l5 l6 x → Wd dC dI cI cB cJ cZ ad stM kcM 115 A x H → va_S A s.heap H locs → lv_has ls 7 [(0, .ref (ad 0)), (1, .int l1), (2, .int l2), (3, .long l3), (5, .int l5), (6, .int l6)] → W p l e R s m args below meth c H locs cells slots Q (F0 m 21 ls []) := by
  intro n
  induction n with
  | zero => intro l1 l2 l3 l5 l6 x H locs ls  hw; exact hw.elim
  | succ n ih => intro l1 l2 l3 l5 l6 x H locs ls  hw hW hS hl; exact t_Mod_widthOf_21 hx hb hml hown hT hK hN hA hRc hRs hRf hRl hret hrec6 ih l1 l2 l3 l5 l6 x H locs ls  hw hW hS hl
set_option maxRecDepth 100000 in
def j_Mod_widthOf_6 (post : Int32 → St → Prop) (rec6 : Int32 → Int32 → Int64 → Int32 → Int32 → St → Prop) (l1 : Int32) (l2 : Int32) (l3 : Int64) (l5 : Int32) (l6 : Int32) (x : St) : Prop := (((l1 + 16) ≤ l6 → j_Mod_widthOf_56 post l1 l2 l3 l5 l6 x) ∧ (¬ (l1 + 16) ≤ l6 → ((l2 ≤ l6 → j_Mod_widthOf_56 post l1 l2 l3 l5 l6 x) ∧ (¬ l2 ≤ l6 → ∃ n : Nat, wl_Mod_widthOf_21 post rec6 n l1 l2 l3 l5 l6 x))))
set_option maxHeartbeats 4000000 in
set_option maxRecDepth 100000 in
theorem t_Mod_widthOf_6 {p : Program} {l : Launch} {e : Env} {R : Room} {s : State} {m : MethodId} {args : Array Value} {below : List Frame} {meth : Method} {c : Code} {cells slots : Nat} {Q : State → Prop} {dC : Nat → ClassId} {dI : Nat → Nat → Nat} {cI cB cJ cZ : ClassId} {A : Nat → Prop} {ad : Nat → Nat} {post : Int32 → St → Prop} {rec6 : Int32 → Int32 → Int64 → Int32 → Int32 → St → Prop} (hx : p.tables.exec = Jvm.exec) (hb : c.code = b_Mod_widthOf) (hml : c.maxLocals = 7) (hown : s.vm.findClass R_Mod = some m.cls) (hT : ∀ w ∈ TG, w.before args s = true) (hK : va_K (dC, dI) CL (TY cI cB cJ cZ) s) (hN : NW s) (hA : ∀ q : Nat, s.heap.size ≤ q → A q) (hRc : cells ≤ R.cells) (hRs : slots ≤ R.slots) (hRf : 1 ≤ R.frames) (hRl : 21 ≤ R.locals) (hret : ∀ (r : Int32) (x : St) (H : Heap) (locs : List Loc) (pc : Nat) (ls : Array Slot), decode b_Mod_widthOf pc = .ok (.ireturn, 1) → post r x → Wd dC dI cI cB cJ cZ ad stM kcM 115 A x H → va_S A s.heap H locs → W p l e R s m args below meth c H locs cells slots Q (F0 m pc ls [.int r])) (hrec6 : ∀ (l1 : Int32) (l2 : Int32) (l3 : Int64) (l5 : Int32) (l6 : Int32) (x : St) (H : Heap) (locs : List Loc) (ls : Array Slot), rec6 l1 l2 l3 l5 l6 x → Wd dC dI cI cB cJ cZ ad stM kcM 115 A x H → va_S A s.heap H locs → lv_has ls 7 [(0, .ref (ad 0)), (1, .int l1), (2, .int l2), (3, .long l3), (5, .int l5), (6, .int l6)] → W p l e R s m args below meth c H locs cells slots Q (F0 m 6 ls [])) : ∀ (l1 : Int32) (l2 : Int32) (l3 : Int64) (l5 : Int32) (l6 : Int32) (x : St) (H : Heap) (locs : List Loc) (ls : Array Slot), j_Mod_widthOf_6 post rec6 l1 l2 l3 l5 l6 x → Wd dC dI cI cB cJ cZ ad stM kcM 115 A x H → va_S A s.heap H locs → lv_has ls 7 [(0, .ref (ad 0)), (1, .int l1), (2, .int l2), (3, .long l3), (5, .int l5), (6, .int l6)] → W p l e R s m args below meth c H locs cells slots Q (F0 m 6 ls []) := by
  intro l1 l2 l3 l5 l6 x H locs ls  hw hW hS hl
  unfold j_Mod_widthOf_6 at hw
  refine lv_iload hx hb d_Mod_widthOf_6 (lv_at hl 5 rfl) ?_
  refine lv_iload_n hx hb d_Mod_widthOf_8 rfl (lv_at hl 1 rfl) ?_
  refine lv_bipush (v := 16) hx hb d_Mod_widthOf_9 (by decide) ?_
  refine lv_iadd hx hb d_Mod_widthOf_11 ?_
  refine lv_icmp_ge (tgt := 56) hx hb d_Mod_widthOf_12 (by decide) (fun c546 => ?_) (fun c546 => ?_)
  · have hw := hw.1 c546
    exact t_Mod_widthOf_56 hx hb hml hown hT hK hN hA hRc hRs hRf hRl hret  l1 l2 l3 l5 l6 x H locs ls  hw hW hS (lv_sub hl [0, 1, 2, 3, 4, 5] rfl)
  · have hw := hw.2 c546
    refine lv_iload hx hb d_Mod_widthOf_15 (lv_at hl 5 rfl) ?_
    refine lv_iload_n hx hb d_Mod_widthOf_17 rfl (lv_at hl 2 rfl) ?_
    refine lv_icmp_ge (tgt := 56) hx hb d_Mod_widthOf_18 (by decide) (fun c547 => ?_) (fun c547 => ?_)
    · have hw := hw.1 c547
      exact t_Mod_widthOf_56 hx hb hml hown hT hK hN hA hRc hRs hRf hRl hret  l1 l2 l3 l5 l6 x H locs ls  hw hW hS (lv_sub hl [0, 1, 2, 3, 4, 5] rfl)
    · have hw := hw.2 c547
      obtain ⟨n, hw⟩ := hw
      exact tl_Mod_widthOf_21 hx hb hml hown hT hK hN hA hRc hRs hRf hRl hret hrec6 n l1 l2 l3 l5 l6 x H locs ls  hw hW hS (lv_sub hl [0, 1, 2, 3, 4, 5] rfl)
def wl_Mod_widthOf_6 (post : Int32 → St → Prop) : Nat → Int32 → Int32 → Int64 → Int32 → Int32 → St → Prop
  | 0 => fun _ _ _ _ _ _ => False
  | n + 1 => j_Mod_widthOf_6 post (wl_Mod_widthOf_6 post n)
set_option maxHeartbeats 4000000 in
set_option maxRecDepth 100000 in
theorem tl_Mod_widthOf_6 {p : Program} {l : Launch} {e : Env} {R : Room} {s : State} {m : MethodId} {args : Array Value} {below : List Frame} {meth : Method} {c : Code} {cells slots : Nat} {Q : State → Prop} {dC : Nat → ClassId} {dI : Nat → Nat → Nat} {cI cB cJ cZ : ClassId} {A : Nat → Prop} {ad : Nat → Nat} {post : Int32 → St → Prop} (hx : p.tables.exec = Jvm.exec) (hb : c.code = b_Mod_widthOf) (hml : c.maxLocals = 7) (hown : s.vm.findClass R_Mod = some m.cls) (hT : ∀ w ∈ TG, w.before args s = true) (hK : va_K (dC, dI) CL (TY cI cB cJ cZ) s) (hN : NW s) (hA : ∀ q : Nat, s.heap.size ≤ q → A q) (hRc : cells ≤ R.cells) (hRs : slots ≤ R.slots) (hRf : 1 ≤ R.frames) (hRl : 21 ≤ R.locals) (hret : ∀ (r : Int32) (x : St) (H : Heap) (locs : List Loc) (pc : Nat) (ls : Array Slot), decode b_Mod_widthOf pc = .ok (.ireturn, 1) → post r x → Wd dC dI cI cB cJ cZ ad stM kcM 115 A x H → va_S A s.heap H locs → W p l e R s m args below meth c H locs cells slots Q (F0 m pc ls [.int r]))  : ∀ n : Nat, ∀ (l1 : Int32) (l2 : Int32) (l3 : Int64) (l5 : Int32) (l6 : Int32) (x : St) (H : Heap) (locs : List Loc) (ls : Array Slot), wl_Mod_widthOf_6 post n l1 l2 l3 l5 l6 x → Wd dC dI cI cB cJ cZ ad stM kcM 115 A x H → va_S A s.heap H locs → lv_has ls 7 [(0, .ref (ad 0)), (1, .int l1), (2, .int l2), (3, .long l3), (5, .int l5), (6, .int l6)] → W p l e R s m args below meth c H locs cells slots Q (F0 m 6 ls []) := by
  intro n
  induction n with
  | zero => intro l1 l2 l3 l5 l6 x H locs ls  hw; exact hw.elim
  | succ n ih => intro l1 l2 l3 l5 l6 x H locs ls  hw hW hS hl; exact t_Mod_widthOf_6 hx hb hml hown hT hK hN hA hRc hRs hRf hRl hret  ih l1 l2 l3 l5 l6 x H locs ls  hw hW hS hl
set_option maxRecDepth 100000 in
def wp_Mod_widthOf (post : Int32 → St → Prop) (l1 : Int32) (l2 : Int32) (l3 : Int64) (x : St) : Prop := ∃ n : Nat, wl_Mod_widthOf_6 post n l1 l2 l3 0 l1 x
set_option maxHeartbeats 4000000 in
set_option maxRecDepth 100000 in
theorem t_Mod_widthOf_e {p : Program} {l : Launch} {e : Env} {R : Room} {s : State} {m : MethodId} {args : Array Value} {below : List Frame} {meth : Method} {c : Code} {cells slots : Nat} {Q : State → Prop} {dC : Nat → ClassId} {dI : Nat → Nat → Nat} {cI cB cJ cZ : ClassId} {A : Nat → Prop} {ad : Nat → Nat} {post : Int32 → St → Prop} (hx : p.tables.exec = Jvm.exec) (hb : c.code = b_Mod_widthOf) (hml : c.maxLocals = 7) (hown : s.vm.findClass R_Mod = some m.cls) (hT : ∀ w ∈ TG, w.before args s = true) (hK : va_K (dC, dI) CL (TY cI cB cJ cZ) s) (hN : NW s) (hA : ∀ q : Nat, s.heap.size ≤ q → A q) (hRc : cells ≤ R.cells) (hRs : slots ≤ R.slots) (hRf : 1 ≤ R.frames) (hRl : 21 ≤ R.locals) (hret : ∀ (r : Int32) (x : St) (H : Heap) (locs : List Loc) (pc : Nat) (ls : Array Slot), decode b_Mod_widthOf pc = .ok (.ireturn, 1) → post r x → Wd dC dI cI cB cJ cZ ad stM kcM 115 A x H → va_S A s.heap H locs → W p l e R s m args below meth c H locs cells slots Q (F0 m pc ls [.int r])) : ∀ (l1 : Int32) (l2 : Int32) (l3 : Int64) (x : St) (H : Heap) (locs : List Loc) (ls : Array Slot), wp_Mod_widthOf post l1 l2 l3 x → Wd dC dI cI cB cJ cZ ad stM kcM 115 A x H → va_S A s.heap H locs → lv_has ls 7 [(0, .ref (ad 0)), (1, .int l1), (2, .int l2), (3, .long l3)] → W p l e R s m args below meth c H locs cells slots Q (F0 m 0 ls []) := by
  intro l1 l2 l3 x H locs ls  hw hW hS hl
  unfold wp_Mod_widthOf at hw
  refine lv_iconst (v := 0) hx hb d_Mod_widthOf_0 (by decide) ?_
  refine lv_istore (lv' := [(5, .int 0), (0, .ref (ad 0)), (1, .int l1), (2, .int l2), (3, .long l3)]) hx hb d_Mod_widthOf_1 hl (by decide) rfl (fun ls hl => ?_)
  refine lv_iload_n hx hb d_Mod_widthOf_3 rfl (lv_at hl 2 rfl) ?_
  refine lv_istore (lv' := [(6, .int l1), (5, .int 0), (0, .ref (ad 0)), (1, .int l1), (2, .int l2), (3, .long l3)]) hx hb d_Mod_widthOf_4 hl (by decide) rfl (fun ls hl => ?_)
  obtain ⟨n, hw⟩ := hw
  exact tl_Mod_widthOf_6 hx hb hml hown hT hK hN hA hRc hRs hRf hRl hret  n l1 l2 l3 0 l1 x H locs ls  hw hW hS (lv_sub hl [2, 3, 4, 5, 1, 0] rfl)
set_option maxHeartbeats 4000000 in
set_option maxRecDepth 100000 in
theorem k_Mod_widthOf (l : Launch) (dC : Nat → ClassId) (dI : Nat → Nat → Nat) (cI cB cJ cZ : ClassId) (ad : Nat → Nat) (sz : Nat) (l1 : Int32) (l2 : Int32) (l3 : Int64) (x : St) {post : Int32 → St → Prop} (hw : wp_Mod_widthOf post l1 l2 l3 x) : Met l y_Mod_widthOf (wsOf y_Mod_widthOf b_Mod_widthOf 7 (some (.int))) ({ frames := 1, cells := 0, slots := 0, locals := 21 }) (va_Pc [.ref (ad 0), .int l1, .int l2, .long l3] (PW dC dI cI cB cJ cZ ad stM kcM 115 sz x)) (va_Qi (fun (r : Int32) (y : St) => post r y) (fun y t => Wd dC dI cI cB cJ cZ ad stM kcM 115 (va_A (pic ad stM kcM 115 cI cB cJ cZ x) sz) y t.heap) (va_A (pic ad stM kcM 115 cI cB cJ cZ x) sz)) 0 0 (va_A (pic ad stM kcM 115 cI cB cJ cZ x) sz) := by
  refine Met.ofW (cc := b_Mod_widthOf) (maxL := 7) (ret := some (.int)) (by decide) rfl ?_
  intro p e s m args below meth c s₁ B hml hv
  obtain ⟨rfl, hsz, hW0, hK, hN⟩ := hv
  have hx := B.exec
  have hb := B.bytes
  have hr := B.returns
  have hts := atoms_spec B.pre
  have hT : ∀ w ∈ TG, w.before _ s = true := fun w h => hts w (List.mem_cons_of_mem _ h)
  have hown : s.vm.findClass R_Mod = some m.cls := findClass_of_methodNamed B.named
  have hlocks := B.notSynchronized
  subst hsz
  have hW : Wd dC dI cI cB cJ cZ ad stM kcM 115 (va_A (pic ad stM kcM 115 cI cB cJ cZ x) s.heap.size) x s.heap := ⟨hW0.1, hW0.2.1.self (sz := s.heap.size), hW0.2.2⟩
  generalize hAe : va_A (pic ad stM kcM 115 cI cB cJ cZ x) s.heap.size = A at hW ⊢
  have hA : ∀ q : Nat, s.heap.size ≤ q → A q := fun q h => by rw [← hAe]; exact Or.inr h
  have hS : va_S A s.heap s.heap [] := va_S.rf
  have hl := lv_entry ([.ref (ad 0), .int l1, .int l2, .long l3]) (n := 7) (Nat.le_of_ble_eq_true rfl)
  rw [lg_entry_eq]
  generalize (lg_sl ([.ref (ad 0), .int l1, .int l2, .long l3]) ++ List.replicate (7 - (lg_sl ([.ref (ad 0), .int l1, .int l2, .long l3])).length) Slot.unset).toArray = ls at hl ⊢
  have hl : lv_has ls 7 [(0, .ref (ad 0)), (1, .int l1), (2, .int l2), (3, .long l3)] := hl
  exact t_Mod_widthOf_e hx hb hml hown hT hK hN hA (Nat.le_refl 0) (Nat.le_refl 0) (Nat.le_refl 1) (Nat.le_refl 21) (fun r x H locs pc ls hd hp hW hS => W.iret (v := r) hx hb hr (fun t ht hM => ⟨⟨r, x, rfl, hp, Wd.back hW ht.symm (fun _ z => z)⟩, hS.F ht⟩) hS.2.2 hd hlocks)  l1 l2 l3 x _ _ ls  hw hW hS hl
set_option maxRecDepth 100000 in
def j_Mod_writePart_72 (post : St → Prop) (rec3 : Int32 → Int32 → Int64 → Int32 → Int32 → St → Prop) (rec19 : Int32 → Int32 → Int64 → Int32 → Int32 → Int32 → Int32 → St → Prop) (l1 : Int32) (l2 : Int32) (l3 : Int64) (l5 : Int32) (l6 : Int32) (l7 : Int32) (l8 : Int32) (l9 : Int32) (x : St) : Prop := rec19 l1 l2 l3 l5 l6 l7 (l8 + 1) x
set_option maxHeartbeats 4000000 in
set_option maxRecDepth 100000 in
theorem t_Mod_writePart_72 {p : Program} {l : Launch} {e : Env} {R : Room} {s : State} {m : MethodId} {args : Array Value} {below : List Frame} {meth : Method} {c : Code} {cells slots : Nat} {Q : State → Prop} {dC : Nat → ClassId} {dI : Nat → Nat → Nat} {cI cB cJ cZ : ClassId} {A : Nat → Prop} {ad : Nat → Nat} {post : St → Prop} {rec3 : Int32 → Int32 → Int64 → Int32 → Int32 → St → Prop} {rec19 : Int32 → Int32 → Int64 → Int32 → Int32 → Int32 → Int32 → St → Prop} (hx : p.tables.exec = Jvm.exec) (hb : c.code = b_Mod_writePart) (hml : c.maxLocals = 10) (hown : s.vm.findClass R_Mod = some m.cls) (hT : ∀ w ∈ TG, w.before args s = true) (hK : va_K (dC, dI) CL (TY cI cB cJ cZ) s) (hN : NW s) (hA : ∀ q : Nat, s.heap.size ≤ q → A q) (hRc : cells ≤ R.cells) (hRs : slots ≤ R.slots) (hRf : 1 ≤ R.frames) (hRl : 21 ≤ R.locals) (hret : ∀ (x : St) (H : Heap) (locs : List Loc) (pc : Nat) (ls : Array Slot), decode b_Mod_writePart pc = .ok (.return_, 1) → post x → Wd dC dI cI cB cJ cZ ad stM kcM 115 A x H → va_S A s.heap H locs → W p l e R s m args below meth c H locs cells slots Q (F0 m pc ls [])) (hrec3 : ∀ (l1 : Int32) (l2 : Int32) (l3 : Int64) (l5 : Int32) (l6 : Int32) (x : St) (H : Heap) (locs : List Loc) (ls : Array Slot), rec3 l1 l2 l3 l5 l6 x → Wd dC dI cI cB cJ cZ ad stM kcM 115 A x H → va_S A s.heap H locs → lv_has ls 10 [(0, .ref (ad 0)), (1, .int l1), (2, .int l2), (3, .long l3), (5, .int l5), (6, .int l6)] → W p l e R s m args below meth c H locs cells slots Q (F0 m 3 ls [])) (hrec19 : ∀ (l1 : Int32) (l2 : Int32) (l3 : Int64) (l5 : Int32) (l6 : Int32) (l7 : Int32) (l8 : Int32) (x : St) (H : Heap) (locs : List Loc) (ls : Array Slot), rec19 l1 l2 l3 l5 l6 l7 l8 x → Wd dC dI cI cB cJ cZ ad stM kcM 115 A x H → va_S A s.heap H locs → lv_has ls 10 [(0, .ref (ad 0)), (1, .int l1), (2, .int l2), (3, .long l3), (5, .int l5), (6, .int l6), (7, .int l7), (8, .int l8)] → W p l e R s m args below meth c H locs cells slots Q (F0 m 19 ls [])) : ∀ (l1 : Int32) (l2 : Int32) (l3 : Int64) (l5 : Int32) (l6 : Int32) (l7 : Int32) (l8 : Int32) (l9 : Int32) (x : St) (H : Heap) (locs : List Loc) (ls : Array Slot), j_Mod_writePart_72 post rec3 rec19 l1 l2 l3 l5 l6 l7 l8 l9 x → Wd dC dI cI cB cJ cZ ad stM kcM 115 A x H → va_S A s.heap H locs → lv_has ls 10 [(0, .ref (ad 0)), (1, .int l1), (2, .int l2), (3, .long l3), (5, .int l5), (6, .int l6), (7, .int l7), (8, .int l8), (9, .int l9)] → W p l e R s m args below meth c H locs cells slots Q (F0 m 72 ls []) := by
  intro l1 l2 l3 l5 l6 l7 l8 l9 x H locs ls  hw hW hS hl
  unfold j_Mod_writePart_72 at hw
  refine lv_iinc (v := (l8 + 1)) (lv' := [(8, .int (l8 + 1)), (0, .ref (ad 0)), (1, .int l1), (2, .int l2), (3, .long l3), (5, .int l5), (6, .int l6), (7, .int l7), (9, .int l9)]) hx hb d_Mod_writePart_72 hl (k := 7) rfl rfl (by decide) rfl (fun ls hl => ?_)
  refine lv_goto (tgt := 19) hx hb d_Mod_writePart_75 (by decide) ?_
  exact hrec19 l1 l2 l3 l5 l6 l7 (l8 + 1) x H locs ls  hw hW hS (lv_sub hl [1, 2, 3, 4, 5, 6, 7, 0] rfl)
set_option maxRecDepth 100000 in
def j_Mod_writePart_19 (post : St → Prop) (rec3 : Int32 → Int32 → Int64 → Int32 → Int32 → St → Prop) (rec19 : Int32 → Int32 → Int64 → Int32 → Int32 → Int32 → Int32 → St → Prop) (l1 : Int32) (l2 : Int32) (l3 : Int64) (l5 : Int32) (l6 : Int32) (l7 : Int32) (l8 : Int32) (x : St) : Prop := ((8 ≤ l8 → wp_Mod_put (fun (x549 : St) => rec3 l1 l2 l3 l5 (l6 + 8) x549) l7 x) ∧ (¬ 8 ≤ l8 → ((¬ l5 = 0) ∧ (∀ v550 : Int32, v550 = (l1 + ((l6 + l8) / l5)) → ((l2 ≤ v550 → j_Mod_writePart_72 post rec3 rec19 l1 l2 l3 l5 l6 l7 l8 v550 x) ∧ (¬ l2 ≤ v550 → wp_Mod_difference (fun (r553 : Int64) (x552 : St) => ((¬ l5 = 0) ∧ (∀ v554 : Int32, v554 = (l7 ||| ((((((r553 - l3) : Int64).toUInt64 >>> ((((l6 + l8) - (l6 + l8) / l5 * l5) : Int32).toInt64.toUInt64 &&& Int64.toUInt64 63)).toInt64 &&& 1) : Int64).toInt32 <<< (l8 &&& 31))) → j_Mod_writePart_72 post rec3 rec19 l1 l2 l3 l5 l6 v554 l8 v550 x552))) v550 x))))))
set_option maxHeartbeats 4000000 in
set_option maxRecDepth 100000 in
theorem t_Mod_writePart_19 {p : Program} {l : Launch} {e : Env} {R : Room} {s : State} {m : MethodId} {args : Array Value} {below : List Frame} {meth : Method} {c : Code} {cells slots : Nat} {Q : State → Prop} {dC : Nat → ClassId} {dI : Nat → Nat → Nat} {cI cB cJ cZ : ClassId} {A : Nat → Prop} {ad : Nat → Nat} {post : St → Prop} {rec3 : Int32 → Int32 → Int64 → Int32 → Int32 → St → Prop} {rec19 : Int32 → Int32 → Int64 → Int32 → Int32 → Int32 → Int32 → St → Prop} (hx : p.tables.exec = Jvm.exec) (hb : c.code = b_Mod_writePart) (hml : c.maxLocals = 10) (hown : s.vm.findClass R_Mod = some m.cls) (hT : ∀ w ∈ TG, w.before args s = true) (hK : va_K (dC, dI) CL (TY cI cB cJ cZ) s) (hN : NW s) (hA : ∀ q : Nat, s.heap.size ≤ q → A q) (hRc : cells ≤ R.cells) (hRs : slots ≤ R.slots) (hRf : 1 ≤ R.frames) (hRl : 21 ≤ R.locals) (hret : ∀ (x : St) (H : Heap) (locs : List Loc) (pc : Nat) (ls : Array Slot), decode b_Mod_writePart pc = .ok (.return_, 1) → post x → Wd dC dI cI cB cJ cZ ad stM kcM 115 A x H → va_S A s.heap H locs → W p l e R s m args below meth c H locs cells slots Q (F0 m pc ls [])) (hrec3 : ∀ (l1 : Int32) (l2 : Int32) (l3 : Int64) (l5 : Int32) (l6 : Int32) (x : St) (H : Heap) (locs : List Loc) (ls : Array Slot), rec3 l1 l2 l3 l5 l6 x → Wd dC dI cI cB cJ cZ ad stM kcM 115 A x H → va_S A s.heap H locs → lv_has ls 10 [(0, .ref (ad 0)), (1, .int l1), (2, .int l2), (3, .long l3), (5, .int l5), (6, .int l6)] → W p l e R s m args below meth c H locs cells slots Q (F0 m 3 ls [])) (hrec19 : ∀ (l1 : Int32) (l2 : Int32) (l3 : Int64) (l5 : Int32) (l6 : Int32) (l7 : Int32) (l8 : Int32) (x : St) (H : Heap) (locs : List Loc) (ls : Array Slot), rec19 l1 l2 l3 l5 l6 l7 l8 x → Wd dC dI cI cB cJ cZ ad stM kcM 115 A x H → va_S A s.heap H locs → lv_has ls 10 [(0, .ref (ad 0)), (1, .int l1), (2, .int l2), (3, .long l3), (5, .int l5), (6, .int l6), (7, .int l7), (8, .int l8)] → W p l e R s m args below meth c H locs cells slots Q (F0 m 19 ls [])) : ∀ (l1 : Int32) (l2 : Int32) (l3 : Int64) (l5 : Int32) (l6 : Int32) (l7 : Int32) (l8 : Int32) (x : St) (H : Heap) (locs : List Loc) (ls : Array Slot), j_Mod_writePart_19 post rec3 rec19 l1 l2 l3 l5 l6 l7 l8 x → Wd dC dI cI cB cJ cZ ad stM kcM 115 A x H → va_S A s.heap H locs → lv_has ls 10 [(0, .ref (ad 0)), (1, .int l1), (2, .int l2), (3, .long l3), (5, .int l5), (6, .int l6), (7, .int l7), (8, .int l8)] → W p l e R s m args below meth c H locs cells slots Q (F0 m 19 ls []) := by
  intro l1 l2 l3 l5 l6 l7 l8 x H locs ls  hw hW hS hl
  unfold j_Mod_writePart_19 at hw
  refine lv_iload hx hb d_Mod_writePart_19 (lv_at hl 7 rfl) ?_
  refine lv_bipush (v := 8) hx hb d_Mod_writePart_21 (by decide) ?_
  refine lv_icmp_ge (tgt := 78) hx hb d_Mod_writePart_23 (by decide) (fun c548 => ?_) (fun c548 => ?_)
  · have hw := hw.1 c548
    refine lv_aload_n hx hb d_Mod_writePart_78 rfl (lv_at hl 0 rfl) ?_
    refine lv_iload hx hb d_Mod_writePart_79 (lv_at hl 6 rfl) ?_
    have hF := hW.free hS hA
    refine va_callv (va_runV (C := R_Mod) (As := [.int l7]) (rest := []) ⟨hx, hb, hml, hown, hT⟩ (k_Mod_put l dC dI cI cB cJ cZ ad H.size l7 x  hw) ⟨callB_of 1 hT (gw_in w_11_203) rfl rfl rfl (hT _ w_1_15) (hT _ w_11_200) (by decide +kernel) ⟨Nat.le_trans (by decide) hRf, Nat.le_trans (by decide) hRl⟩, hT _ w_11_202, hT _ ws_154⟩ ⟨PW.blind, va_recv hK hW.1 (ci := 12) (q0 := 0) rfl (pic_obj ko_0.1 ko_0.2 (by decide)), PW.at _ hW hK hN⟩ rfl rfl hl.1 rfl (lv_room (Nat.le_of_ble_eq_true rfl)) d_Mod_writePart_81 ⟨hRc, hRs⟩) hS (fun q _ h => hF q h) hF (fun  x549 t H locs ht hvm hw hB hz1 hk1 hS => ?_)
    have hW := Wd.back hB ht hF
    clear hB ht hF hz1 hk1 hvm
    refine lv_iinc (v := (l6 + 8)) (lv' := [(6, .int (l6 + 8)), (0, .ref (ad 0)), (1, .int l1), (2, .int l2), (3, .long l3), (5, .int l5), (7, .int l7), (8, .int l8)]) hx hb d_Mod_writePart_84 hl (k := 5) rfl rfl (by decide) rfl (fun ls hl => ?_)
    refine lv_goto (tgt := 3) hx hb d_Mod_writePart_87 (by decide) ?_
    exact hrec3 l1 l2 l3 l5 (l6 + 8) x549 H locs ls  hw hW hS (lv_sub hl [1, 2, 3, 4, 5, 0] rfl)
  · have hw := hw.2 c548
    refine lv_iload_n hx hb d_Mod_writePart_26 rfl (lv_at hl 1 rfl) ?_
    refine lv_iload hx hb d_Mod_writePart_27 (lv_at hl 5 rfl) ?_
    refine lv_iload hx hb d_Mod_writePart_29 (lv_at hl 7 rfl) ?_
    refine lv_iadd hx hb d_Mod_writePart_31 ?_
    refine lv_iload hx hb d_Mod_writePart_32 (lv_at hl 4 rfl) ?_
    obtain ⟨hz, hw⟩ := hw
    refine lv_idiv hx hb d_Mod_writePart_34 hz ?_
    refine lv_iadd hx hb d_Mod_writePart_35 ?_
    refine lv_topi (fun v550 ev550 => ?_)
    have hw := hw v550 ev550
    refine lv_istore (lv' := [(9, .int v550), (0, .ref (ad 0)), (1, .int l1), (2, .int l2), (3, .long l3), (5, .int l5), (6, .int l6), (7, .int l7), (8, .int l8)]) hx hb d_Mod_writePart_36 hl (by decide) rfl (fun ls hl => ?_)
    refine lv_iload hx hb d_Mod_writePart_38 (lv_at hl 0 rfl) ?_
    refine lv_iload_n hx hb d_Mod_writePart_40 rfl (lv_at hl 3 rfl) ?_
    refine lv_icmp_ge (tgt := 72) hx hb d_Mod_writePart_41 (by decide) (fun c551 => ?_) (fun c551 => ?_)
    · have hw := hw.1 c551
      exact t_Mod_writePart_72 hx hb hml hown hT hK hN hA hRc hRs hRf hRl hret hrec3 hrec19 l1 l2 l3 l5 l6 l7 l8 v550 x H locs ls  hw hW hS (lv_sub hl [1, 2, 3, 4, 5, 6, 7, 8, 0] rfl)
    · have hw := hw.2 c551
      refine lv_iload hx hb d_Mod_writePart_44 (lv_at hl 7 rfl) ?_
      refine lv_aload_n hx hb d_Mod_writePart_46 rfl (lv_at hl 1 rfl) ?_
      refine lv_iload hx hb d_Mod_writePart_47 (lv_at hl 0 rfl) ?_
      have hF := hW.free hS hA
      refine va_calll (va_runV (C := R_Mod) (As := [.int v550]) (rest := [.int l7]) ⟨hx, hb, hml, hown, hT⟩ (k_Mod_difference l dC dI cI cB cJ cZ ad H.size v550 x  hw) ⟨callB_of 1 hT (gw_in w_11_227) rfl rfl rfl (hT _ w_1_15) (hT _ w_11_224) (by decide +kernel) ⟨Nat.le_trans (by decide) hRf, Nat.le_trans (by decide) hRl⟩, hT _ w_11_226, hT _ ws_159⟩ ⟨PW.blind, va_recv hK hW.1 (ci := 12) (q0 := 0) rfl (pic_obj ko_0.1 ko_0.2 (by decide)), PW.at _ hW hK hN⟩ rfl rfl hl.1 rfl (lv_room (Nat.le_of_ble_eq_true rfl)) d_Mod_writePart_49 ⟨hRc, hRs⟩) hS (fun q _ h => hF q h) hF (fun r553 x552 t H locs ht hvm hw hB hz1 hk1 hS => ?_)
      have hW := Wd.back hB ht hF
      clear hB ht hF hz1 hk1 hvm
      refine lv_lload_n hx hb d_Mod_writePart_52 rfl (lv_at hl 4 rfl) ?_
      refine lv_lsub hx hb d_Mod_writePart_53 ?_
      refine lv_iload hx hb d_Mod_writePart_54 (lv_at hl 6 rfl) ?_
      refine lv_iload hx hb d_Mod_writePart_56 (lv_at hl 8 rfl) ?_
      refine lv_iadd hx hb d_Mod_writePart_58 ?_
      refine lv_iload hx hb d_Mod_writePart_59 (lv_at hl 5 rfl) ?_
      obtain ⟨hz, hw⟩ := hw
      refine lv_irem hx hb d_Mod_writePart_61 hz ?_
      refine lv_lushr hx hb d_Mod_writePart_62 rfl ?_
      refine lv_lconst (v := 1) hx hb d_Mod_writePart_63 (by decide) ?_
      refine lv_land hx hb d_Mod_writePart_64 ?_
      refine lv_l2i hx hb d_Mod_writePart_65 rfl ?_
      refine lv_iload hx hb d_Mod_writePart_66 (lv_at hl 8 rfl) ?_
      refine lv_ishl hx hb d_Mod_writePart_68 ?_
      refine lv_ior hx hb d_Mod_writePart_69 ?_
      refine lv_topi (fun v554 ev554 => ?_)
      have hw := hw v554 ev554
      refine lv_istore (lv' := [(7, .int v554), (9, .int v550), (0, .ref (ad 0)), (1, .int l1), (2, .int l2), (3, .long l3), (5, .int l5), (6, .int l6), (8, .int l8)]) hx hb d_Mod_writePart_70 hl (by decide) rfl (fun ls hl => ?_)
      exact t_Mod_writePart_72 hx hb hml hown hT hK hN hA hRc hRs hRf hRl hret hrec3 hrec19 l1 l2 l3 l5 l6 v554 l8 v550 x552 H locs ls  hw hW hS (lv_sub hl [2, 3, 4, 5, 6, 7, 0, 8, 1] rfl)
def wl_Mod_writePart_19 (post : St → Prop) (rec3 : Int32 → Int32 → Int64 → Int32 → Int32 → St → Prop) : Nat → Int32 → Int32 → Int64 → Int32 → Int32 → Int32 → Int32 → St → Prop
  | 0 => fun _ _ _ _ _ _ _ _ => False
  | n + 1 => j_Mod_writePart_19 post rec3 (wl_Mod_writePart_19 post rec3 n)
set_option maxHeartbeats 4000000 in
set_option maxRecDepth 100000 in
theorem tl_Mod_writePart_19 {p : Program} {l : Launch} {e : Env} {R : Room} {s : State} {m : MethodId} {args : Array Value} {below : List Frame} {meth : Method} {c : Code} {cells slots : Nat} {Q : State → Prop} {dC : Nat → ClassId} {dI : Nat → Nat → Nat} {cI cB cJ cZ : ClassId} {A : Nat → Prop} {ad : Nat → Nat} {post : St → Prop} {rec3 : Int32 → Int32 → Int64 → Int32 → Int32 → St → Prop} (hx : p.tables.exec = Jvm.exec) (hb : c.code = b_Mod_writePart) (hml : c.maxLocals = 10) (hown : s.vm.findClass R_Mod = some m.cls) (hT : ∀ w ∈ TG, w.before args s = true) (hK : va_K (dC, dI) CL (TY cI cB cJ cZ) s) (hN : NW s) (hA : ∀ q : Nat, s.heap.size ≤ q → A q) (hRc : cells ≤ R.cells) (hRs : slots ≤ R.slots) (hRf : 1 ≤ R.frames) (hRl : 21 ≤ R.locals) (hret : ∀ (x : St) (H : Heap) (locs : List Loc) (pc : Nat) (ls : Array Slot), decode b_Mod_writePart pc = .ok (.return_, 1) → post x → Wd dC dI cI cB cJ cZ ad stM kcM 115 A x H → va_S A s.heap H locs → W p l e R s m args below meth c H locs cells slots Q (F0 m pc ls [])) (hrec3 : ∀ (l1 : Int32) (l2 : Int32) (l3 : Int64) (l5 : Int32) (l6 : Int32) (x : St) (H : Heap) (locs : List Loc) (ls : Array Slot), rec3 l1 l2 l3 l5 l6 x → Wd dC dI cI cB cJ cZ ad stM kcM 115 A x H → va_S A s.heap H locs → lv_has ls 10 [(0, .ref (ad 0)), (1, .int l1), (2, .int l2), (3, .long l3), (5, .int l5), (6, .int l6)] → W p l e R s m args below meth c H locs cells slots Q (F0 m 3 ls [])) : ∀ n : Nat, ∀ (l1 : Int32) (l2 : Int32) (l3 : Int64) (l5 : Int32) (l6 : Int32) (l7 : Int32) (l8 : Int32) (x : St) (H : Heap) (locs : List Loc) (ls : Array Slot), wl_Mod_writePart_19 post rec3 n l1 l2 l3 l5 l6 l7 l8 x → Wd dC dI cI cB cJ cZ ad stM kcM 115 A x H → va_S A s.heap H locs → lv_has ls 10 [(0, .ref (ad 0)), (1, .int l1), (2, .int l2), (3, .long l3), (5, .int l5), (6, .int l6), (7, .int l7), (8, .int l8)] → W p l e R s m args below meth c H locs cells slots Q (F0 m 19 ls []) := by
  intro n
  induction n with
  | zero => intro l1 l2 l3 l5 l6 l7 l8 x H locs ls  hw; exact hw.elim
  | succ n ih => intro l1 l2 l3 l5 l6 l7 l8 x H locs ls  hw hW hS hl; exact t_Mod_writePart_19 hx hb hml hown hT hK hN hA hRc hRs hRf hRl hret hrec3 ih l1 l2 l3 l5 l6 l7 l8 x H locs ls  hw hW hS hl
set_option maxRecDepth 100000 in
def j_Mod_writePart_3 (post : St → Prop) (rec3 : Int32 → Int32 → Int64 → Int32 → Int32 → St → Prop) (l1 : Int32) (l2 : Int32) (l3 : Int64) (l5 : Int32) (l6 : Int32) (x : St) : Prop := (((16 * l5) ≤ l6 → post x) ∧ (¬ (16 * l5) ≤ l6 → ∃ n : Nat, wl_Mod_writePart_19 post rec3 n l1 l2 l3 l5 l6 0 0 x))
set_option maxHeartbeats 4000000 in
set_option maxRecDepth 100000 in
theorem t_Mod_writePart_3 {p : Program} {l : Launch} {e : Env} {R : Room} {s : State} {m : MethodId} {args : Array Value} {below : List Frame} {meth : Method} {c : Code} {cells slots : Nat} {Q : State → Prop} {dC : Nat → ClassId} {dI : Nat → Nat → Nat} {cI cB cJ cZ : ClassId} {A : Nat → Prop} {ad : Nat → Nat} {post : St → Prop} {rec3 : Int32 → Int32 → Int64 → Int32 → Int32 → St → Prop} (hx : p.tables.exec = Jvm.exec) (hb : c.code = b_Mod_writePart) (hml : c.maxLocals = 10) (hown : s.vm.findClass R_Mod = some m.cls) (hT : ∀ w ∈ TG, w.before args s = true) (hK : va_K (dC, dI) CL (TY cI cB cJ cZ) s) (hN : NW s) (hA : ∀ q : Nat, s.heap.size ≤ q → A q) (hRc : cells ≤ R.cells) (hRs : slots ≤ R.slots) (hRf : 1 ≤ R.frames) (hRl : 21 ≤ R.locals) (hret : ∀ (x : St) (H : Heap) (locs : List Loc) (pc : Nat) (ls : Array Slot), decode b_Mod_writePart pc = .ok (.return_, 1) → post x → Wd dC dI cI cB cJ cZ ad stM kcM 115 A x H → va_S A s.heap H locs → W p l e R s m args below meth c H locs cells slots Q (F0 m pc ls [])) (hrec3 : ∀ (l1 : Int32) (l2 : Int32) (l3 : Int64) (l5 : Int32) (l6 : Int32) (x : St) (H : Heap) (locs : List Loc) (ls : Array Slot), rec3 l1 l2 l3 l5 l6 x → Wd dC dI cI cB cJ cZ ad stM kcM 115 A x H → va_S A s.heap H locs → lv_has ls 10 [(0, .ref (ad 0)), (1, .int l1), (2, .int l2), (3, .long l3), (5, .int l5), (6, .int l6)] → W p l e R s m args below meth c H locs cells slots Q (F0 m 3 ls [])) : ∀ (l1 : Int32) (l2 : Int32) (l3 : Int64) (l5 : Int32) (l6 : Int32) (x : St) (H : Heap) (locs : List Loc) (ls : Array Slot), j_Mod_writePart_3 post rec3 l1 l2 l3 l5 l6 x → Wd dC dI cI cB cJ cZ ad stM kcM 115 A x H → va_S A s.heap H locs → lv_has ls 10 [(0, .ref (ad 0)), (1, .int l1), (2, .int l2), (3, .long l3), (5, .int l5), (6, .int l6)] → W p l e R s m args below meth c H locs cells slots Q (F0 m 3 ls []) := by
  intro l1 l2 l3 l5 l6 x H locs ls  hw hW hS hl
  unfold j_Mod_writePart_3 at hw
  refine lv_iload hx hb d_Mod_writePart_3 (lv_at hl 5 rfl) ?_
  refine lv_bipush (v := 16) hx hb d_Mod_writePart_5 (by decide) ?_
  refine lv_iload hx hb d_Mod_writePart_7 (lv_at hl 4 rfl) ?_
  refine lv_imul hx hb d_Mod_writePart_9 ?_
  refine lv_icmp_ge (tgt := 90) hx hb d_Mod_writePart_10 (by decide) (fun c555 => ?_) (fun c555 => ?_)
  · have hw := hw.1 c555
    exact hret x H locs 90 ls d_Mod_writePart_90 hw hW hS
  · have hw := hw.2 c555
    refine lv_iconst (v := 0) hx hb d_Mod_writePart_13 (by decide) ?_
    refine lv_istore (lv' := [(7, .int 0), (0, .ref (ad 0)), (1, .int l1), (2, .int l2), (3, .long l3), (5, .int l5), (6, .int l6)]) hx hb d_Mod_writePart_14 hl (by decide) rfl (fun ls hl => ?_)
    refine lv_iconst (v := 0) hx hb d_Mod_writePart_16 (by decide) ?_
    refine lv_istore (lv' := [(8, .int 0), (7, .int 0), (0, .ref (ad 0)), (1, .int l1), (2, .int l2), (3, .long l3), (5, .int l5), (6, .int l6)]) hx hb d_Mod_writePart_17 hl (by decide) rfl (fun ls hl => ?_)
    obtain ⟨n, hw⟩ := hw
    exact tl_Mod_writePart_19 hx hb hml hown hT hK hN hA hRc hRs hRf hRl hret hrec3 n l1 l2 l3 l5 l6 0 0 x H locs ls  hw hW hS (lv_sub hl [2, 3, 4, 5, 6, 7, 1, 0] rfl)
def wl_Mod_writePart_3 (post : St → Prop) : Nat → Int32 → Int32 → Int64 → Int32 → Int32 → St → Prop
  | 0 => fun _ _ _ _ _ _ => False
  | n + 1 => j_Mod_writePart_3 post (wl_Mod_writePart_3 post n)
set_option maxHeartbeats 4000000 in
set_option maxRecDepth 100000 in
theorem tl_Mod_writePart_3 {p : Program} {l : Launch} {e : Env} {R : Room} {s : State} {m : MethodId} {args : Array Value} {below : List Frame} {meth : Method} {c : Code} {cells slots : Nat} {Q : State → Prop} {dC : Nat → ClassId} {dI : Nat → Nat → Nat} {cI cB cJ cZ : ClassId} {A : Nat → Prop} {ad : Nat → Nat} {post : St → Prop} (hx : p.tables.exec = Jvm.exec) (hb : c.code = b_Mod_writePart) (hml : c.maxLocals = 10) (hown : s.vm.findClass R_Mod = some m.cls) (hT : ∀ w ∈ TG, w.before args s = true) (hK : va_K (dC, dI) CL (TY cI cB cJ cZ) s) (hN : NW s) (hA : ∀ q : Nat, s.heap.size ≤ q → A q) (hRc : cells ≤ R.cells) (hRs : slots ≤ R.slots) (hRf : 1 ≤ R.frames) (hRl : 21 ≤ R.locals) (hret : ∀ (x : St) (H : Heap) (locs : List Loc) (pc : Nat) (ls : Array Slot), decode b_Mod_writePart pc = .ok (.return_, 1) → post x → Wd dC dI cI cB cJ cZ ad stM kcM 115 A x H → va_S A s.heap H locs → W p l e R s m args below meth c H locs cells slots Q (F0 m pc ls []))  : ∀ n : Nat, ∀ (l1 : Int32) (l2 : Int32) (l3 : Int64) (l5 : Int32) (l6 : Int32) (x : St) (H : Heap) (locs : List Loc) (ls : Array Slot), wl_Mod_writePart_3 post n l1 l2 l3 l5 l6 x → Wd dC dI cI cB cJ cZ ad stM kcM 115 A x H → va_S A s.heap H locs → lv_has ls 10 [(0, .ref (ad 0)), (1, .int l1), (2, .int l2), (3, .long l3), (5, .int l5), (6, .int l6)] → W p l e R s m args below meth c H locs cells slots Q (F0 m 3 ls []) := by
  intro n
  induction n with
  | zero => intro l1 l2 l3 l5 l6 x H locs ls  hw; exact hw.elim
  | succ n ih => intro l1 l2 l3 l5 l6 x H locs ls  hw hW hS hl; exact t_Mod_writePart_3 hx hb hml hown hT hK hN hA hRc hRs hRf hRl hret  ih l1 l2 l3 l5 l6 x H locs ls  hw hW hS hl
set_option maxRecDepth 100000 in
def wp_Mod_writePart (post : St → Prop) (l1 : Int32) (l2 : Int32) (l3 : Int64) (l5 : Int32) (x : St) : Prop := ∃ n : Nat, wl_Mod_writePart_3 post n l1 l2 l3 l5 0 x
set_option maxHeartbeats 4000000 in
set_option maxRecDepth 100000 in
theorem t_Mod_writePart_e {p : Program} {l : Launch} {e : Env} {R : Room} {s : State} {m : MethodId} {args : Array Value} {below : List Frame} {meth : Method} {c : Code} {cells slots : Nat} {Q : State → Prop} {dC : Nat → ClassId} {dI : Nat → Nat → Nat} {cI cB cJ cZ : ClassId} {A : Nat → Prop} {ad : Nat → Nat} {post : St → Prop} (hx : p.tables.exec = Jvm.exec) (hb : c.code = b_Mod_writePart) (hml : c.maxLocals = 10) (hown : s.vm.findClass R_Mod = some m.cls) (hT : ∀ w ∈ TG, w.before args s = true) (hK : va_K (dC, dI) CL (TY cI cB cJ cZ) s) (hN : NW s) (hA : ∀ q : Nat, s.heap.size ≤ q → A q) (hRc : cells ≤ R.cells) (hRs : slots ≤ R.slots) (hRf : 1 ≤ R.frames) (hRl : 21 ≤ R.locals) (hret : ∀ (x : St) (H : Heap) (locs : List Loc) (pc : Nat) (ls : Array Slot), decode b_Mod_writePart pc = .ok (.return_, 1) → post x → Wd dC dI cI cB cJ cZ ad stM kcM 115 A x H → va_S A s.heap H locs → W p l e R s m args below meth c H locs cells slots Q (F0 m pc ls [])) : ∀ (l1 : Int32) (l2 : Int32) (l3 : Int64) (l5 : Int32) (x : St) (H : Heap) (locs : List Loc) (ls : Array Slot), wp_Mod_writePart post l1 l2 l3 l5 x → Wd dC dI cI cB cJ cZ ad stM kcM 115 A x H → va_S A s.heap H locs → lv_has ls 10 [(0, .ref (ad 0)), (1, .int l1), (2, .int l2), (3, .long l3), (5, .int l5)] → W p l e R s m args below meth c H locs cells slots Q (F0 m 0 ls []) := by
  intro l1 l2 l3 l5 x H locs ls  hw hW hS hl
  unfold wp_Mod_writePart at hw
  refine lv_iconst (v := 0) hx hb d_Mod_writePart_0 (by decide) ?_
  refine lv_istore (lv' := [(6, .int 0), (0, .ref (ad 0)), (1, .int l1), (2, .int l2), (3, .long l3), (5, .int l5)]) hx hb d_Mod_writePart_1 hl (by decide) rfl (fun ls hl => ?_)
  obtain ⟨n, hw⟩ := hw
  exact tl_Mod_writePart_3 hx hb hml hown hT hK hN hA hRc hRs hRf hRl hret  n l1 l2 l3 l5 0 x H locs ls  hw hW hS (lv_sub hl [1, 2, 3, 4, 5, 0] rfl)
set_option maxHeartbeats 4000000 in
set_option maxRecDepth 100000 in
theorem k_Mod_writePart (l : Launch) (dC : Nat → ClassId) (dI : Nat → Nat → Nat) (cI cB cJ cZ : ClassId) (ad : Nat → Nat) (sz : Nat) (l1 : Int32) (l2 : Int32) (l3 : Int64) (l5 : Int32) (x : St) {post : St → Prop} (hw : wp_Mod_writePart post l1 l2 l3 l5 x) : Met l y_Mod_writePart (wsOf y_Mod_writePart b_Mod_writePart 10 (none)) ({ frames := 1, cells := 0, slots := 0, locals := 21 }) (va_Pc [.ref (ad 0), .int l1, .int l2, .long l3, .int l5] (PW dC dI cI cB cJ cZ ad stM kcM 115 sz x)) (va_Qv (fun (y : St) => post y) (fun y t => Wd dC dI cI cB cJ cZ ad stM kcM 115 (va_A (pic ad stM kcM 115 cI cB cJ cZ x) sz) y t.heap) (va_A (pic ad stM kcM 115 cI cB cJ cZ x) sz)) 0 0 (va_A (pic ad stM kcM 115 cI cB cJ cZ x) sz) := by
  refine Met.ofW (cc := b_Mod_writePart) (maxL := 10) (ret := none) (by decide) rfl ?_
  intro p e s m args below meth c s₁ B hml hv
  obtain ⟨rfl, hsz, hW0, hK, hN⟩ := hv
  have hx := B.exec
  have hb := B.bytes
  have hr := B.returns
  have hts := atoms_spec B.pre
  have hT : ∀ w ∈ TG, w.before _ s = true := fun w h => hts w (List.mem_cons_of_mem _ h)
  have hown : s.vm.findClass R_Mod = some m.cls := findClass_of_methodNamed B.named
  have hlocks := B.notSynchronized
  subst hsz
  have hW : Wd dC dI cI cB cJ cZ ad stM kcM 115 (va_A (pic ad stM kcM 115 cI cB cJ cZ x) s.heap.size) x s.heap := ⟨hW0.1, hW0.2.1.self (sz := s.heap.size), hW0.2.2⟩
  generalize hAe : va_A (pic ad stM kcM 115 cI cB cJ cZ x) s.heap.size = A at hW ⊢
  have hA : ∀ q : Nat, s.heap.size ≤ q → A q := fun q h => by rw [← hAe]; exact Or.inr h
  have hS : va_S A s.heap s.heap [] := va_S.rf
  have hl := lv_entry ([.ref (ad 0), .int l1, .int l2, .long l3, .int l5]) (n := 10) (Nat.le_of_ble_eq_true rfl)
  rw [lg_entry_eq]
  generalize (lg_sl ([.ref (ad 0), .int l1, .int l2, .long l3, .int l5]) ++ List.replicate (10 - (lg_sl ([.ref (ad 0), .int l1, .int l2, .long l3, .int l5])).length) Slot.unset).toArray = ls at hl ⊢
  have hl : lv_has ls 10 [(0, .ref (ad 0)), (1, .int l1), (2, .int l2), (3, .long l3), (5, .int l5)] := hl
  exact t_Mod_writePart_e hx hb hml hown hT hK hN hA (Nat.le_refl 0) (Nat.le_refl 0) (Nat.le_refl 1) (Nat.le_refl 21) (fun x H locs pc ls hd hp hW hS => W.vret hx hb hr (fun t ht hM => ⟨⟨x, rfl, hp, Wd.back hW ht.symm (fun _ z => z)⟩, hS.F ht⟩) hS.2.2 hd hlocks)  l1 l2 l3 l5 x _ _ ls  hw hW hS hl
set_option maxRecDepth 100000 in
def j_Mod_writeLongs_152 (post : St → Prop) (rec31 : Int32 → St → Prop) (rec152 : Int32 → Int32 → Int64 → Int32 → St → Prop) (l1 : Int32) (l2 : Int32) (l3 : Int64) (l5 : Int32) (x : St) : Prop := ((l2 ≤ l5 → rec31 (l1 + 64) x) ∧ (¬ l2 ≤ l5 → wp_Mod_widthOf (fun (r558 : Int32) (x557 : St) => wp_Mod_writePart (fun (x559 : St) => rec152 l1 l2 l3 (l5 + 16) x559) l5 l2 l3 r558 x557) l5 l2 l3 x))
set_option maxHeartbeats 4000000 in
set_option maxRecDepth 100000 in
theorem t_Mod_writeLongs_152 {p : Program} {l : Launch} {e : Env} {R : Room} {s : State} {m : MethodId} {args : Array Value} {below : List Frame} {meth : Method} {c : Code} {cells slots : Nat} {Q : State → Prop} {dC : Nat → ClassId} {dI : Nat → Nat → Nat} {cI cB cJ cZ : ClassId} {A : Nat → Prop} {ad : Nat → Nat} {post : St → Prop} {rec31 : Int32 → St → Prop} {rec152 : Int32 → Int32 → Int64 → Int32 → St → Prop} (hx : p.tables.exec = Jvm.exec) (hb : c.code = b_Mod_writeLongs) (hml : c.maxLocals = 6) (hown : s.vm.findClass R_Mod = some m.cls) (hT : ∀ w ∈ TG, w.before args s = true) (hK : va_K (dC, dI) CL (TY cI cB cJ cZ) s) (hN : NW s) (hA : ∀ q : Nat, s.heap.size ≤ q → A q) (hRc : cells ≤ R.cells) (hRs : slots ≤ R.slots) (hRf : 2 ≤ R.frames) (hRl : 50 ≤ R.locals) (hret : ∀ (x : St) (H : Heap) (locs : List Loc) (pc : Nat) (ls : Array Slot), decode b_Mod_writeLongs pc = .ok (.return_, 1) → post x → Wd dC dI cI cB cJ cZ ad stM kcM 115 A x H → va_S A s.heap H locs → W p l e R s m args below meth c H locs cells slots Q (F0 m pc ls [])) (hrec31 : ∀ (l1 : Int32) (x : St) (H : Heap) (locs : List Loc) (ls : Array Slot), rec31 l1 x → Wd dC dI cI cB cJ cZ ad stM kcM 115 A x H → va_S A s.heap H locs → lv_has ls 6 [(0, .ref (ad 0)), (1, .int l1)] → W p l e R s m args below meth c H locs cells slots Q (F0 m 31 ls [])) (hrec152 : ∀ (l1 : Int32) (l2 : Int32) (l3 : Int64) (l5 : Int32) (x : St) (H : Heap) (locs : List Loc) (ls : Array Slot), rec152 l1 l2 l3 l5 x → Wd dC dI cI cB cJ cZ ad stM kcM 115 A x H → va_S A s.heap H locs → lv_has ls 6 [(0, .ref (ad 0)), (1, .int l1), (2, .int l2), (3, .long l3), (5, .int l5)] → W p l e R s m args below meth c H locs cells slots Q (F0 m 152 ls [])) : ∀ (l1 : Int32) (l2 : Int32) (l3 : Int64) (l5 : Int32) (x : St) (H : Heap) (locs : List Loc) (ls : Array Slot), j_Mod_writeLongs_152 post rec31 rec152 l1 l2 l3 l5 x → Wd dC dI cI cB cJ cZ ad stM kcM 115 A x H → va_S A s.heap H locs → lv_has ls 6 [(0, .ref (ad 0)), (1, .int l1), (2, .int l2), (3, .long l3), (5, .int l5)] → W p l e R s m args below meth c H locs cells slots Q (F0 m 152 ls []) := by
  intro l1 l2 l3 l5 x H locs ls  hw hW hS hl
  unfold j_Mod_writeLongs_152 at hw
  refine lv_iload hx hb d_Mod_writeLongs_152 (lv_at hl 4 rfl) ?_
  refine lv_iload_n hx hb d_Mod_writeLongs_154 rfl (lv_at hl 2 rfl) ?_
  refine lv_icmp_ge (tgt := 180) hx hb d_Mod_writeLongs_155 (by decide) (fun c556 => ?_) (fun c556 => ?_)
  · have hw := hw.1 c556
    refine lv_iinc (v := (l1 + 64)) (lv' := [(1, .int (l1 + 64)), (0, .ref (ad 0)), (2, .int l2), (3, .long l3), (5, .int l5)]) hx hb d_Mod_writeLongs_180 hl (k := 1) rfl rfl (by decide) rfl (fun ls hl => ?_)
    refine lv_goto (tgt := 31) hx hb d_Mod_writeLongs_183 (by decide) ?_
    exact hrec31 (l1 + 64) x H locs ls  hw hW hS (lv_sub hl [1, 0] rfl)
  · have hw := hw.2 c556
    refine lv_aload_n hx hb d_Mod_writeLongs_158 rfl (lv_at hl 0 rfl) ?_
    refine lv_iload hx hb d_Mod_writeLongs_159 (lv_at hl 4 rfl) ?_
    refine lv_iload_n hx hb d_Mod_writeLongs_161 rfl (lv_at hl 2 rfl) ?_
    refine lv_lload_n hx hb d_Mod_writeLongs_162 rfl (lv_at hl 3 rfl) ?_
    refine lv_aload_n hx hb d_Mod_writeLongs_163 rfl (lv_at hl 0 rfl) ?_
    refine lv_iload hx hb d_Mod_writeLongs_164 (lv_at hl 4 rfl) ?_
    refine lv_iload_n hx hb d_Mod_writeLongs_166 rfl (lv_at hl 2 rfl) ?_
    refine lv_lload_n hx hb d_Mod_writeLongs_167 rfl (lv_at hl 3 rfl) ?_
    have hF := hW.free hS hA
    refine va_calli (va_runV (C := R_Mod) (As := [.int l5, .int l2, .long l3]) (rest := [.long l3, .int l2, .int l5, .ref (ad 0)]) ⟨hx, hb, hml, hown, hT⟩ (k_Mod_widthOf l dC dI cI cB cJ cZ ad H.size l5 l2 l3 x  hw) ⟨callB_of 3 hT (gw_in w_11_231) rfl rfl rfl (hT _ w_1_15) (hT _ w_11_228) (by decide +kernel) ⟨Nat.le_trans (by decide) hRf, Nat.le_trans (by decide) hRl⟩, hT _ w_11_230, hT _ ws_160⟩ ⟨PW.blind, va_recv hK hW.1 (ci := 12) (q0 := 0) rfl (pic_obj ko_0.1 ko_0.2 (by decide)), PW.at _ hW hK hN⟩ rfl rfl hl.1 rfl (lv_room (Nat.le_of_ble_eq_true rfl)) d_Mod_writeLongs_168 ⟨hRc, hRs⟩) hS (fun q _ h => hF q h) hF (fun r558 x557 t H locs ht hvm hw hB hz1 hk1 hS => ?_)
    have hW := Wd.back hB ht hF
    clear hB ht hF hz1 hk1 hvm
    have hF := hW.free hS hA
    refine va_callv (va_runV (C := R_Mod) (As := [.int l5, .int l2, .long l3, .int r558]) (rest := []) ⟨hx, hb, hml, hown, hT⟩ (k_Mod_writePart l dC dI cI cB cJ cZ ad H.size l5 l2 l3 r558 x557  hw) ⟨callB_of 4 hT (gw_in w_11_235) rfl rfl rfl (hT _ w_1_15) (hT _ w_11_232) (by decide +kernel) ⟨Nat.le_trans (by decide) hRf, Nat.le_trans (by decide) hRl⟩, hT _ w_11_234, hT _ ws_161⟩ ⟨PW.blind, va_recv hK hW.1 (ci := 12) (q0 := 0) rfl (pic_obj ko_0.1 ko_0.2 (by decide)), PW.at _ hW hK hN⟩ rfl rfl hl.1 rfl (lv_room (Nat.le_of_ble_eq_true rfl)) d_Mod_writeLongs_171 ⟨hRc, hRs⟩) hS (fun q _ h => hF q h) hF (fun  x559 t H locs ht hvm hw hB hz1 hk1 hS => ?_)
    have hW := Wd.back hB ht hF
    clear hB ht hF hz1 hk1 hvm
    refine lv_iinc (v := (l5 + 16)) (lv' := [(5, .int (l5 + 16)), (0, .ref (ad 0)), (1, .int l1), (2, .int l2), (3, .long l3)]) hx hb d_Mod_writeLongs_174 hl (k := 4) rfl rfl (by decide) rfl (fun ls hl => ?_)
    refine lv_goto (tgt := 152) hx hb d_Mod_writeLongs_177 (by decide) ?_
    exact hrec152 l1 l2 l3 (l5 + 16) x559 H locs ls  hw hW hS (lv_sub hl [1, 2, 3, 4, 0] rfl)
def wl_Mod_writeLongs_152 (post : St → Prop) (rec31 : Int32 → St → Prop) : Nat → Int32 → Int32 → Int64 → Int32 → St → Prop
  | 0 => fun _ _ _ _ _ => False
  | n + 1 => j_Mod_writeLongs_152 post rec31 (wl_Mod_writeLongs_152 post rec31 n)
set_option maxHeartbeats 4000000 in
set_option maxRecDepth 100000 in
theorem tl_Mod_writeLongs_152 {p : Program} {l : Launch} {e : Env} {R : Room} {s : State} {m : MethodId} {args : Array Value} {below : List Frame} {meth : Method} {c : Code} {cells slots : Nat} {Q : State → Prop} {dC : Nat → ClassId} {dI : Nat → Nat → Nat} {cI cB cJ cZ : ClassId} {A : Nat → Prop} {ad : Nat → Nat} {post : St → Prop} {rec31 : Int32 → St → Prop} (hx : p.tables.exec = Jvm.exec) (hb : c.code = b_Mod_writeLongs) (hml : c.maxLocals = 6) (hown : s.vm.findClass R_Mod = some m.cls) (hT : ∀ w ∈ TG, w.before args s = true) (hK : va_K (dC, dI) CL (TY cI cB cJ cZ) s) (hN : NW s) (hA : ∀ q : Nat, s.heap.size ≤ q → A q) (hRc : cells ≤ R.cells) (hRs : slots ≤ R.slots) (hRf : 2 ≤ R.frames) (hRl : 50 ≤ R.locals) (hret : ∀ (x : St) (H : Heap) (locs : List Loc) (pc : Nat) (ls : Array Slot), decode b_Mod_writeLongs pc = .ok (.return_, 1) → post x → Wd dC dI cI cB cJ cZ ad stM kcM 115 A x H → va_S A s.heap H locs → W p l e R s m args below meth c H locs cells slots Q (F0 m pc ls [])) (hrec31 : ∀ (l1 : Int32) (x : St) (H : Heap) (locs : List Loc) (ls : Array Slot), rec31 l1 x → Wd dC dI cI cB cJ cZ ad stM kcM 115 A x H → va_S A s.heap H locs → lv_has ls 6 [(0, .ref (ad 0)), (1, .int l1)] → W p l e R s m args below meth c H locs cells slots Q (F0 m 31 ls [])) : ∀ n : Nat, ∀ (l1 : Int32) (l2 : Int32) (l3 : Int64) (l5 : Int32) (x : St) (H : Heap) (locs : List Loc) (ls : Array Slot), wl_Mod_writeLongs_152 post rec31 n l1 l2 l3 l5 x → Wd dC dI cI cB cJ cZ ad stM kcM 115 A x H → va_S A s.heap H locs → lv_has ls 6 [(0, .ref (ad 0)), (1, .int l1), (2, .int l2), (3, .long l3), (5, .int l5)] → W p l e R s m args below meth c H locs cells slots Q (F0 m 152 ls []) := by
  intro n
  induction n with
  | zero => intro l1 l2 l3 l5 x H locs ls  hw; exact hw.elim
  | succ n ih => intro l1 l2 l3 l5 x H locs ls  hw hW hS hl; exact t_Mod_writeLongs_152 hx hb hml hown hT hK hN hA hRc hRs hRf hRl hret hrec31 ih l1 l2 l3 l5 x H locs ls  hw hW hS hl
set_option maxRecDepth 100000 in
def j_Mod_writeLongs_122 (post : St → Prop) (rec31 : Int32 → St → Prop) (rec122 : Int32 → Int32 → Int64 → Int32 → St → Prop) (l1 : Int32) (l2 : Int32) (l3 : Int64) (l5 : Int32) (x : St) : Prop := (((l1 + 64) ≤ l5 → ∃ n : Nat, wl_Mod_writeLongs_152 post rec31 n l1 l2 l3 l1 x) ∧ (¬ (l1 + 64) ≤ l5 → wp_Mod_widthOf (fun (r562 : Int32) (x561 : St) => wp_Mod_put (fun (x563 : St) => rec122 l1 l2 l3 (l5 + 16) x563) r562 x561) l5 l2 l3 x))
set_option maxHeartbeats 4000000 in
set_option maxRecDepth 100000 in
theorem t_Mod_writeLongs_122 {p : Program} {l : Launch} {e : Env} {R : Room} {s : State} {m : MethodId} {args : Array Value} {below : List Frame} {meth : Method} {c : Code} {cells slots : Nat} {Q : State → Prop} {dC : Nat → ClassId} {dI : Nat → Nat → Nat} {cI cB cJ cZ : ClassId} {A : Nat → Prop} {ad : Nat → Nat} {post : St → Prop} {rec31 : Int32 → St → Prop} {rec122 : Int32 → Int32 → Int64 → Int32 → St → Prop} (hx : p.tables.exec = Jvm.exec) (hb : c.code = b_Mod_writeLongs) (hml : c.maxLocals = 6) (hown : s.vm.findClass R_Mod = some m.cls) (hT : ∀ w ∈ TG, w.before args s = true) (hK : va_K (dC, dI) CL (TY cI cB cJ cZ) s) (hN : NW s) (hA : ∀ q : Nat, s.heap.size ≤ q → A q) (hRc : cells ≤ R.cells) (hRs : slots ≤ R.slots) (hRf : 2 ≤ R.frames) (hRl : 50 ≤ R.locals) (hret : ∀ (x : St) (H : Heap) (locs : List Loc) (pc : Nat) (ls : Array Slot), decode b_Mod_writeLongs pc = .ok (.return_, 1) → post x → Wd dC dI cI cB cJ cZ ad stM kcM 115 A x H → va_S A s.heap H locs → W p l e R s m args below meth c H locs cells slots Q (F0 m pc ls [])) (hrec31 : ∀ (l1 : Int32) (x : St) (H : Heap) (locs : List Loc) (ls : Array Slot), rec31 l1 x → Wd dC dI cI cB cJ cZ ad stM kcM 115 A x H → va_S A s.heap H locs → lv_has ls 6 [(0, .ref (ad 0)), (1, .int l1)] → W p l e R s m args below meth c H locs cells slots Q (F0 m 31 ls [])) (hrec122 : ∀ (l1 : Int32) (l2 : Int32) (l3 : Int64) (l5 : Int32) (x : St) (H : Heap) (locs : List Loc) (ls : Array Slot), rec122 l1 l2 l3 l5 x → Wd dC dI cI cB cJ cZ ad stM kcM 115 A x H → va_S A s.heap H locs → lv_has ls 6 [(0, .ref (ad 0)), (1, .int l1), (2, .int l2), (3, .long l3), (5, .int l5)] → W p l e R s m args below meth c H locs cells slots Q (F0 m 122 ls [])) : ∀ (l1 : Int32) (l2 : Int32) (l3 : Int64) (l5 : Int32) (x : St) (H : Heap) (locs : List Loc) (ls : Array Slot), j_Mod_writeLongs_122 post rec31 rec122 l1 l2 l3 l5 x → Wd dC dI cI cB cJ cZ ad stM kcM 115 A x H → va_S A s.heap H locs → lv_has ls 6 [(0, .ref (ad 0)), (1, .int l1), (2, .int l2), (3, .long l3), (5, .int l5)] → W p l e R s m args below meth c H locs cells slots Q (F0 m 122 ls []) := by
  intro l1 l2 l3 l5 x H locs ls  hw hW hS hl
  unfold j_Mod_writeLongs_122 at hw
  refine lv_iload hx hb d_Mod_writeLongs_122 (lv_at hl 4 rfl) ?_
  refine lv_iload_n hx hb d_Mod_writeLongs_124 rfl (lv_at hl 1 rfl) ?_
  refine lv_bipush (v := 64) hx hb d_Mod_writeLongs_125 (by decide) ?_
  refine lv_iadd hx hb d_Mod_writeLongs_127 ?_
  refine lv_icmp_ge (tgt := 149) hx hb d_Mod_writeLongs_128 (by decide) (fun c560 => ?_) (fun c560 => ?_)
  · have hw := hw.1 c560
    refine lv_iload_n hx hb d_Mod_writeLongs_149 rfl (lv_at hl 1 rfl) ?_
    refine lv_istore (lv' := [(5, .int l1), (0, .ref (ad 0)), (1, .int l1), (2, .int l2), (3, .long l3)]) hx hb d_Mod_writeLongs_150 hl (by decide) rfl (fun ls hl => ?_)
    obtain ⟨n, hw⟩ := hw
    exact tl_Mod_writeLongs_152 hx hb hml hown hT hK hN hA hRc hRs hRf hRl hret hrec31 n l1 l2 l3 l1 x H locs ls  hw hW hS (lv_sub hl [1, 2, 3, 4, 0] rfl)
  · have hw := hw.2 c560
    refine lv_aload_n hx hb d_Mod_writeLongs_131 rfl (lv_at hl 0 rfl) ?_
    refine lv_aload_n hx hb d_Mod_writeLongs_132 rfl (lv_at hl 0 rfl) ?_
    refine lv_iload hx hb d_Mod_writeLongs_133 (lv_at hl 4 rfl) ?_
    refine lv_iload_n hx hb d_Mod_writeLongs_135 rfl (lv_at hl 2 rfl) ?_
    refine lv_lload_n hx hb d_Mod_writeLongs_136 rfl (lv_at hl 3 rfl) ?_
    have hF := hW.free hS hA
    refine va_calli (va_runV (C := R_Mod) (As := [.int l5, .int l2, .long l3]) (rest := [.ref (ad 0)]) ⟨hx, hb, hml, hown, hT⟩ (k_Mod_widthOf l dC dI cI cB cJ cZ ad H.size l5 l2 l3 x  hw) ⟨callB_of 3 hT (gw_in w_11_231) rfl rfl rfl (hT _ w_1_15) (hT _ w_11_228) (by decide +kernel) ⟨Nat.le_trans (by decide) hRf, Nat.le_trans (by decide) hRl⟩, hT _ w_11_230, hT _ ws_160⟩ ⟨PW.blind, va_recv hK hW.1 (ci := 12) (q0 := 0) rfl (pic_obj ko_0.1 ko_0.2 (by decide)), PW.at _ hW hK hN⟩ rfl rfl hl.1 rfl (lv_room (Nat.le_of_ble_eq_true rfl)) d_Mod_writeLongs_137 ⟨hRc, hRs⟩) hS (fun q _ h => hF q h) hF (fun r562 x561 t H locs ht hvm hw hB hz1 hk1 hS => ?_)
    have hW := Wd.back hB ht hF
    clear hB ht hF hz1 hk1 hvm
    have hF := hW.free hS hA
    refine va_callv (va_runV (C := R_Mod) (As := [.int r562]) (rest := []) ⟨hx, hb, hml, hown, hT⟩ (k_Mod_put l dC dI cI cB cJ cZ ad H.size r562 x561  hw) ⟨callB_of 1 hT (gw_in w_11_203) rfl rfl rfl (hT _ w_1_15) (hT _ w_11_200) (by decide +kernel) ⟨Nat.le_trans (by decide) hRf, Nat.le_trans (by decide) hRl⟩, hT _ w_11_202, hT _ ws_154⟩ ⟨PW.blind, va_recv hK hW.1 (ci := 12) (q0 := 0) rfl (pic_obj ko_0.1 ko_0.2 (by decide)), PW.at _ hW hK hN⟩ rfl rfl hl.1 rfl (lv_room (Nat.le_of_ble_eq_true rfl)) d_Mod_writeLongs_140 ⟨hRc, hRs⟩) hS (fun q _ h => hF q h) hF (fun  x563 t H locs ht hvm hw hB hz1 hk1 hS => ?_)
    have hW := Wd.back hB ht hF
    clear hB ht hF hz1 hk1 hvm
    refine lv_iinc (v := (l5 + 16)) (lv' := [(5, .int (l5 + 16)), (0, .ref (ad 0)), (1, .int l1), (2, .int l2), (3, .long l3)]) hx hb d_Mod_writeLongs_143 hl (k := 4) rfl rfl (by decide) rfl (fun ls hl => ?_)
    refine lv_goto (tgt := 122) hx hb d_Mod_writeLongs_146 (by decide) ?_
    exact hrec122 l1 l2 l3 (l5 + 16) x563 H locs ls  hw hW hS (lv_sub hl [1, 2, 3, 4, 0] rfl)
def wl_Mod_writeLongs_122 (post : St → Prop) (rec31 : Int32 → St → Prop) : Nat → Int32 → Int32 → Int64 → Int32 → St → Prop
  | 0 => fun _ _ _ _ _ => False
  | n + 1 => j_Mod_writeLongs_122 post rec31 (wl_Mod_writeLongs_122 post rec31 n)
set_option maxHeartbeats 4000000 in
set_option maxRecDepth 100000 in
theorem tl_Mod_writeLongs_122 {p : Program} {l : Launch} {e : Env} {R : Room} {s : State} {m : MethodId} {args : Array Value} {below : List Frame} {meth : Method} {c : Code} {cells slots : Nat} {Q : State → Prop} {dC : Nat → ClassId} {dI : Nat → Nat → Nat} {cI cB cJ cZ : ClassId} {A : Nat → Prop} {ad : Nat → Nat} {post : St → Prop} {rec31 : Int32 → St → Prop} (hx : p.tables.exec = Jvm.exec) (hb : c.code = b_Mod_writeLongs) (hml : c.maxLocals = 6) (hown : s.vm.findClass R_Mod = some m.cls) (hT : ∀ w ∈ TG, w.before args s = true) (hK : va_K (dC, dI) CL (TY cI cB cJ cZ) s) (hN : NW s) (hA : ∀ q : Nat, s.heap.size ≤ q → A q) (hRc : cells ≤ R.cells) (hRs : slots ≤ R.slots) (hRf : 2 ≤ R.frames) (hRl : 50 ≤ R.locals) (hret : ∀ (x : St) (H : Heap) (locs : List Loc) (pc : Nat) (ls : Array Slot), decode b_Mod_writeLongs pc = .ok (.return_, 1) → post x → Wd dC dI cI cB cJ cZ ad stM kcM 115 A x H → va_S A s.heap H locs → W p l e R s m args below meth c H locs cells slots Q (F0 m pc ls [])) (hrec31 : ∀ (l1 : Int32) (x : St) (H : Heap) (locs : List Loc) (ls : Array Slot), rec31 l1 x → Wd dC dI cI cB cJ cZ ad stM kcM 115 A x H → va_S A s.heap H locs → lv_has ls 6 [(0, .ref (ad 0)), (1, .int l1)] → W p l e R s m args below meth c H locs cells slots Q (F0 m 31 ls [])) : ∀ n : Nat, ∀ (l1 : Int32) (l2 : Int32) (l3 : Int64) (l5 : Int32) (x : St) (H : Heap) (locs : List Loc) (ls : Array Slot), wl_Mod_writeLongs_122 post rec31 n l1 l2 l3 l5 x → Wd dC dI cI cB cJ cZ ad stM kcM 115 A x H → va_S A s.heap H locs → lv_has ls 6 [(0, .ref (ad 0)), (1, .int l1), (2, .int l2), (3, .long l3), (5, .int l5)] → W p l e R s m args below meth c H locs cells slots Q (F0 m 122 ls []) := by
  intro n
  induction n with
  | zero => intro l1 l2 l3 l5 x H locs ls  hw; exact hw.elim
  | succ n ih => intro l1 l2 l3 l5 x H locs ls  hw hW hS hl; exact t_Mod_writeLongs_122 hx hb hml hown hT hK hN hA hRc hRs hRf hRl hret hrec31 ih l1 l2 l3 l5 x H locs ls  hw hW hS hl
set_option maxRecDepth 100000 in
def j_Mod_writeLongs_104 (post : St → Prop) (rec31 : Int32 → St → Prop) (rec77 : Int32 → Int32 → Int64 → Int32 → St → Prop) (l1 : Int32) (l2 : Int32) (l3 : Int64) (l5 : Int32) (s0 : Int64) (x : St) : Prop := rec77 l1 l2 s0 (l5 + 1) x
set_option maxHeartbeats 4000000 in
set_option maxRecDepth 100000 in
theorem t_Mod_writeLongs_104 {p : Program} {l : Launch} {e : Env} {R : Room} {s : State} {m : MethodId} {args : Array Value} {below : List Frame} {meth : Method} {c : Code} {cells slots : Nat} {Q : State → Prop} {dC : Nat → ClassId} {dI : Nat → Nat → Nat} {cI cB cJ cZ : ClassId} {A : Nat → Prop} {ad : Nat → Nat} {post : St → Prop} {rec31 : Int32 → St → Prop} {rec77 : Int32 → Int32 → Int64 → Int32 → St → Prop} (hx : p.tables.exec = Jvm.exec) (hb : c.code = b_Mod_writeLongs) (hml : c.maxLocals = 6) (hown : s.vm.findClass R_Mod = some m.cls) (hT : ∀ w ∈ TG, w.before args s = true) (hK : va_K (dC, dI) CL (TY cI cB cJ cZ) s) (hN : NW s) (hA : ∀ q : Nat, s.heap.size ≤ q → A q) (hRc : cells ≤ R.cells) (hRs : slots ≤ R.slots) (hRf : 2 ≤ R.frames) (hRl : 50 ≤ R.locals) (hret : ∀ (x : St) (H : Heap) (locs : List Loc) (pc : Nat) (ls : Array Slot), decode b_Mod_writeLongs pc = .ok (.return_, 1) → post x → Wd dC dI cI cB cJ cZ ad stM kcM 115 A x H → va_S A s.heap H locs → W p l e R s m args below meth c H locs cells slots Q (F0 m pc ls [])) (hrec31 : ∀ (l1 : Int32) (x : St) (H : Heap) (locs : List Loc) (ls : Array Slot), rec31 l1 x → Wd dC dI cI cB cJ cZ ad stM kcM 115 A x H → va_S A s.heap H locs → lv_has ls 6 [(0, .ref (ad 0)), (1, .int l1)] → W p l e R s m args below meth c H locs cells slots Q (F0 m 31 ls [])) (hrec77 : ∀ (l1 : Int32) (l2 : Int32) (l3 : Int64) (l5 : Int32) (x : St) (H : Heap) (locs : List Loc) (ls : Array Slot), rec77 l1 l2 l3 l5 x → Wd dC dI cI cB cJ cZ ad stM kcM 115 A x H → va_S A s.heap H locs → lv_has ls 6 [(0, .ref (ad 0)), (1, .int l1), (2, .int l2), (3, .long l3), (5, .int l5)] → W p l e R s m args below meth c H locs cells slots Q (F0 m 77 ls [])) : ∀ (l1 : Int32) (l2 : Int32) (l3 : Int64) (l5 : Int32) (s0 : Int64) (x : St) (H : Heap) (locs : List Loc) (ls : Array Slot), j_Mod_writeLongs_104 post rec31 rec77 l1 l2 l3 l5 s0 x → Wd dC dI cI cB cJ cZ ad stM kcM 115 A x H → va_S A s.heap H locs → lv_has ls 6 [(0, .ref (ad 0)), (1, .int l1), (2, .int l2), (3, .long l3), (5, .int l5)] → W p l e R s m args below meth c H locs cells slots Q (F0 m 104 ls [.long s0]) := by
  intro l1 l2 l3 l5 s0 x H locs ls  hw hW hS hl
  unfold j_Mod_writeLongs_104 at hw
  refine lv_lstore_n (lv' := [(3, .long s0), (0, .ref (ad 0)), (1, .int l1), (2, .int l2), (5, .int l5)]) hx hb d_Mod_writeLongs_104 rfl hl (by decide) rfl (fun ls hl => ?_)
  refine lv_iinc (v := (l5 + 1)) (lv' := [(5, .int (l5 + 1)), (3, .long s0), (0, .ref (ad 0)), (1, .int l1), (2, .int l2)]) hx hb d_Mod_writeLongs_105 hl (k := 4) rfl rfl (by decide) rfl (fun ls hl => ?_)
  refine lv_goto (tgt := 77) hx hb d_Mod_writeLongs_108 (by decide) ?_
  exact hrec77 l1 l2 s0 (l5 + 1) x H locs ls  hw hW hS (lv_sub hl [2, 3, 4, 1, 0] rfl)
set_option maxRecDepth 100000 in
def j_Mod_writeLongs_77 (post : St → Prop) (rec31 : Int32 → St → Prop) (rec77 : Int32 → Int32 → Int64 → Int32 → St → Prop) (l1 : Int32) (l2 : Int32) (l3 : Int64) (l5 : Int32) (x : St) : Prop := ((l2 ≤ l5 → wp_Mod_zigzag (fun (r566 : Int64) (x565 : St) => wp_Mod_putVarint (fun (x567 : St) => ∃ n : Nat, wl_Mod_writeLongs_122 post rec31 n l1 l2 l3 l1 x567) r566 x565) l3 x) ∧ (¬ l2 ≤ l5 → wp_Mod_difference (fun (r569 : Int64) (x568 : St) => ((0 ≤ (lg_cmp r569 l3) → j_Mod_writeLongs_104 post rec31 rec77 l1 l2 l3 l5 l3 x568) ∧ (¬ 0 ≤ (lg_cmp r569 l3) → wp_Mod_difference (fun (r572 : Int64) (x571 : St) => j_Mod_writeLongs_104 post rec31 rec77 l1 l2 l3 l5 r572 x571) l5 x568))) l5 x))
set_option maxHeartbeats 4000000 in
set_option maxRecDepth 100000 in
theorem t_Mod_writeLongs_77 {p : Program} {l : Launch} {e : Env} {R : Room} {s : State} {m : MethodId} {args : Array Value} {below : List Frame} {meth : Method} {c : Code} {cells slots : Nat} {Q : State → Prop} {dC : Nat → ClassId} {dI : Nat → Nat → Nat} {cI cB cJ cZ : ClassId} {A : Nat → Prop} {ad : Nat → Nat} {post : St → Prop} {rec31 : Int32 → St → Prop} {rec77 : Int32 → Int32 → Int64 → Int32 → St → Prop} (hx : p.tables.exec = Jvm.exec) (hb : c.code = b_Mod_writeLongs) (hml : c.maxLocals = 6) (hown : s.vm.findClass R_Mod = some m.cls) (hT : ∀ w ∈ TG, w.before args s = true) (hK : va_K (dC, dI) CL (TY cI cB cJ cZ) s) (hN : NW s) (hA : ∀ q : Nat, s.heap.size ≤ q → A q) (hRc : cells ≤ R.cells) (hRs : slots ≤ R.slots) (hRf : 2 ≤ R.frames) (hRl : 50 ≤ R.locals) (hret : ∀ (x : St) (H : Heap) (locs : List Loc) (pc : Nat) (ls : Array Slot), decode b_Mod_writeLongs pc = .ok (.return_, 1) → post x → Wd dC dI cI cB cJ cZ ad stM kcM 115 A x H → va_S A s.heap H locs → W p l e R s m args below meth c H locs cells slots Q (F0 m pc ls [])) (hrec31 : ∀ (l1 : Int32) (x : St) (H : Heap) (locs : List Loc) (ls : Array Slot), rec31 l1 x → Wd dC dI cI cB cJ cZ ad stM kcM 115 A x H → va_S A s.heap H locs → lv_has ls 6 [(0, .ref (ad 0)), (1, .int l1)] → W p l e R s m args below meth c H locs cells slots Q (F0 m 31 ls [])) (hrec77 : ∀ (l1 : Int32) (l2 : Int32) (l3 : Int64) (l5 : Int32) (x : St) (H : Heap) (locs : List Loc) (ls : Array Slot), rec77 l1 l2 l3 l5 x → Wd dC dI cI cB cJ cZ ad stM kcM 115 A x H → va_S A s.heap H locs → lv_has ls 6 [(0, .ref (ad 0)), (1, .int l1), (2, .int l2), (3, .long l3), (5, .int l5)] → W p l e R s m args below meth c H locs cells slots Q (F0 m 77 ls [])) : ∀ (l1 : Int32) (l2 : Int32) (l3 : Int64) (l5 : Int32) (x : St) (H : Heap) (locs : List Loc) (ls : Array Slot), j_Mod_writeLongs_77 post rec31 rec77 l1 l2 l3 l5 x → Wd dC dI cI cB cJ cZ ad stM kcM 115 A x H → va_S A s.heap H locs → lv_has ls 6 [(0, .ref (ad 0)), (1, .int l1), (2, .int l2), (3, .long l3), (5, .int l5)] → W p l e R s m args below meth c H locs cells slots Q (F0 m 77 ls []) := by
  intro l1 l2 l3 l5 x H locs ls  hw hW hS hl
  unfold j_Mod_writeLongs_77 at hw
  refine lv_iload hx hb d_Mod_writeLongs_77 (lv_at hl 4 rfl) ?_
  refine lv_iload_n hx hb d_Mod_writeLongs_79 rfl (lv_at hl 2 rfl) ?_
  refine lv_icmp_ge (tgt := 111) hx hb d_Mod_writeLongs_80 (by decide) (fun c564 => ?_) (fun c564 => ?_)
  · have hw := hw.1 c564
    refine lv_aload_n hx hb d_Mod_writeLongs_111 rfl (lv_at hl 0 rfl) ?_
    refine lv_lload_n hx hb d_Mod_writeLongs_112 rfl (lv_at hl 3 rfl) ?_
    have hF := hW.free hS hA
    refine va_calll (va_runS (As := [.long l3]) (rest := [.ref (ad 0)]) ⟨hx, hb, hml, hown, hT⟩ (k_Mod_zigzag l dC dI cI cB cJ cZ ad H.size l3 x  hw) ⟨callB_of 1 hT (gw_in w_11_222) rfl rfl rfl (hT _ w_1_15) (hT _ w_11_220) (by decide +kernel) ⟨Nat.le_trans (by decide) hRf, Nat.le_trans (by decide) hRl⟩, hT _ w_11_221⟩ ⟨PW.blind, PW.at _ hW hK hN⟩ rfl rfl hl.1 rfl (lv_room (Nat.le_of_ble_eq_true rfl)) d_Mod_writeLongs_113 ⟨hRc, hRs⟩) hS (fun q _ h => hF q h) hF (fun r566 x565 t H locs ht hvm hw hB hz1 hk1 hS => ?_)
    have hW := Wd.back hB ht hF
    clear hB ht hF hz1 hk1 hvm
    have hF := hW.free hS hA
    refine va_callv (va_runV (C := R_Mod) (As := [.long r566]) (rest := []) ⟨hx, hb, hml, hown, hT⟩ (k_Mod_putVarint l dC dI cI cB cJ cZ ad H.size r566 x565  hw) ⟨callB_of 1 hT (gw_in w_11_198) rfl rfl rfl (hT _ w_1_15) (hT _ w_11_195) (by decide +kernel) ⟨Nat.le_trans (by decide) hRf, Nat.le_trans (by decide) hRl⟩, hT _ w_11_197, hT _ ws_153⟩ ⟨PW.blind, va_recv hK hW.1 (ci := 12) (q0 := 0) rfl (pic_obj ko_0.1 ko_0.2 (by decide)), PW.at _ hW hK hN⟩ rfl rfl hl.1 rfl (lv_room (Nat.le_of_ble_eq_true rfl)) d_Mod_writeLongs_116 ⟨hRc, hRs⟩) hS (fun q _ h => hF q h) hF (fun  x567 t H locs ht hvm hw hB hz1 hk1 hS => ?_)
    have hW := Wd.back hB ht hF
    clear hB ht hF hz1 hk1 hvm
    refine lv_iload_n hx hb d_Mod_writeLongs_119 rfl (lv_at hl 1 rfl) ?_
    refine lv_istore (lv' := [(5, .int l1), (0, .ref (ad 0)), (1, .int l1), (2, .int l2), (3, .long l3)]) hx hb d_Mod_writeLongs_120 hl (by decide) rfl (fun ls hl => ?_)
    obtain ⟨n, hw⟩ := hw
    exact tl_Mod_writeLongs_122 hx hb hml hown hT hK hN hA hRc hRs hRf hRl hret hrec31 n l1 l2 l3 l1 x567 H locs ls  hw hW hS (lv_sub hl [1, 2, 3, 4, 0] rfl)
  · have hw := hw.2 c564
    refine lv_aload_n hx hb d_Mod_writeLongs_83 rfl (lv_at hl 0 rfl) ?_
    refine lv_iload hx hb d_Mod_writeLongs_84 (lv_at hl 4 rfl) ?_
    have hF := hW.free hS hA
    refine va_calll (va_runV (C := R_Mod) (As := [.int l5]) (rest := []) ⟨hx, hb, hml, hown, hT⟩ (k_Mod_difference l dC dI cI cB cJ cZ ad H.size l5 x  hw) ⟨callB_of 1 hT (gw_in w_11_227) rfl rfl rfl (hT _ w_1_15) (hT _ w_11_224) (by decide +kernel) ⟨Nat.le_trans (by decide) hRf, Nat.le_trans (by decide) hRl⟩, hT _ w_11_226, hT _ ws_159⟩ ⟨PW.blind, va_recv hK hW.1 (ci := 12) (q0 := 0) rfl (pic_obj ko_0.1 ko_0.2 (by decide)), PW.at _ hW hK hN⟩ rfl rfl hl.1 rfl (lv_room (Nat.le_of_ble_eq_true rfl)) d_Mod_writeLongs_86 ⟨hRc, hRs⟩) hS (fun q _ h => hF q h) hF (fun r569 x568 t H locs ht hvm hw hB hz1 hk1 hS => ?_)
    have hW := Wd.back hB ht hF
    clear hB ht hF hz1 hk1 hvm
    refine lv_lload_n hx hb d_Mod_writeLongs_89 rfl (lv_at hl 3 rfl) ?_
    refine W.lcmp hx hb d_Mod_writeLongs_90 ?_
    refine lv_if_ge (tgt := 103) hx hb d_Mod_writeLongs_91 (by decide) (fun c570 => ?_) (fun c570 => ?_)
    · have hw := hw.1 c570
      refine lv_lload_n hx hb d_Mod_writeLongs_103 rfl (lv_at hl 3 rfl) ?_
      exact t_Mod_writeLongs_104 hx hb hml hown hT hK hN hA hRc hRs hRf hRl hret hrec31 hrec77 l1 l2 l3 l5 l3 x568 H locs ls  hw hW hS (lv_sub hl [0, 1, 2, 3, 4] rfl)
    · have hw := hw.2 c570
      refine lv_aload_n hx hb d_Mod_writeLongs_94 rfl (lv_at hl 0 rfl) ?_
      refine lv_iload hx hb d_Mod_writeLongs_95 (lv_at hl 4 rfl) ?_
      have hF := hW.free hS hA
      refine va_calll (va_runV (C := R_Mod) (As := [.int l5]) (rest := []) ⟨hx, hb, hml, hown, hT⟩ (k_Mod_difference l dC dI cI cB cJ cZ ad H.size l5 x568  hw) ⟨callB_of 1 hT (gw_in w_11_227) rfl rfl rfl (hT _ w_1_15) (hT _ w_11_224) (by decide +kernel) ⟨Nat.le_trans (by decide) hRf, Nat.le_trans (by decide) hRl⟩, hT _ w_11_226, hT _ ws_159⟩ ⟨PW.blind, va_recv hK hW.1 (ci := 12) (q0 := 0) rfl (pic_obj ko_0.1 ko_0.2 (by decide)), PW.at _ hW hK hN⟩ rfl rfl hl.1 rfl (lv_room (Nat.le_of_ble_eq_true rfl)) d_Mod_writeLongs_97 ⟨hRc, hRs⟩) hS (fun q _ h => hF q h) hF (fun r572 x571 t H locs ht hvm hw hB hz1 hk1 hS => ?_)
      have hW := Wd.back hB ht hF
      clear hB ht hF hz1 hk1 hvm
      refine lv_goto (tgt := 104) hx hb d_Mod_writeLongs_100 (by decide) ?_
      exact t_Mod_writeLongs_104 hx hb hml hown hT hK hN hA hRc hRs hRf hRl hret hrec31 hrec77 l1 l2 l3 l5 r572 x571 H locs ls  hw hW hS (lv_sub hl [0, 1, 2, 3, 4] rfl)
def wl_Mod_writeLongs_77 (post : St → Prop) (rec31 : Int32 → St → Prop) : Nat → Int32 → Int32 → Int64 → Int32 → St → Prop
  | 0 => fun _ _ _ _ _ => False
  | n + 1 => j_Mod_writeLongs_77 post rec31 (wl_Mod_writeLongs_77 post rec31 n)
set_option maxHeartbeats 4000000 in
set_option maxRecDepth 100000 in
theorem tl_Mod_writeLongs_77 {p : Program} {l : Launch} {e : Env} {R : Room} {s : State} {m : MethodId} {args : Array Value} {below : List Frame} {meth : Method} {c : Code} {cells slots : Nat} {Q : State → Prop} {dC : Nat → ClassId} {dI : Nat → Nat → Nat} {cI cB cJ cZ : ClassId} {A : Nat → Prop} {ad : Nat → Nat} {post : St → Prop} {rec31 : Int32 → St → Prop} (hx : p.tables.exec = Jvm.exec) (hb : c.code = b_Mod_writeLongs) (hml : c.maxLocals = 6) (hown : s.vm.findClass R_Mod = some m.cls) (hT : ∀ w ∈ TG, w.before args s = true) (hK : va_K (dC, dI) CL (TY cI cB cJ cZ) s) (hN : NW s) (hA : ∀ q : Nat, s.heap.size ≤ q → A q) (hRc : cells ≤ R.cells) (hRs : slots ≤ R.slots) (hRf : 2 ≤ R.frames) (hRl : 50 ≤ R.locals) (hret : ∀ (x : St) (H : Heap) (locs : List Loc) (pc : Nat) (ls : Array Slot), decode b_Mod_writeLongs pc = .ok (.return_, 1) → post x → Wd dC dI cI cB cJ cZ ad stM kcM 115 A x H → va_S A s.heap H locs → W p l e R s m args below meth c H locs cells slots Q (F0 m pc ls [])) (hrec31 : ∀ (l1 : Int32) (x : St) (H : Heap) (locs : List Loc) (ls : Array Slot), rec31 l1 x → Wd dC dI cI cB cJ cZ ad stM kcM 115 A x H → va_S A s.heap H locs → lv_has ls 6 [(0, .ref (ad 0)), (1, .int l1)] → W p l e R s m args below meth c H locs cells slots Q (F0 m 31 ls [])) : ∀ n : Nat, ∀ (l1 : Int32) (l2 : Int32) (l3 : Int64) (l5 : Int32) (x : St) (H : Heap) (locs : List Loc) (ls : Array Slot), wl_Mod_writeLongs_77 post rec31 n l1 l2 l3 l5 x → Wd dC dI cI cB cJ cZ ad stM kcM 115 A x H → va_S A s.heap H locs → lv_has ls 6 [(0, .ref (ad 0)), (1, .int l1), (2, .int l2), (3, .long l3), (5, .int l5)] → W p l e R s m args below meth c H locs cells slots Q (F0 m 77 ls []) := by
  intro n
  induction n with
  | zero => intro l1 l2 l3 l5 x H locs ls  hw; exact hw.elim
  | succ n ih => intro l1 l2 l3 l5 x H locs ls  hw hW hS hl; exact t_Mod_writeLongs_77 hx hb hml hown hT hK hN hA hRc hRs hRf hRl hret hrec31 ih l1 l2 l3 l5 x H locs ls  hw hW hS hl
set_option maxRecDepth 100000 in
def j_Mod_writeLongs_67 (post : St → Prop) (rec31 : Int32 → St → Prop) (l1 : Int32) (s0 : Int32) (x : St) : Prop := wp_Mod_difference (fun (r574 : Int64) (x573 : St) => ∃ n : Nat, wl_Mod_writeLongs_77 post rec31 n l1 s0 r574 l1 x573) l1 x
set_option maxHeartbeats 4000000 in
set_option maxRecDepth 100000 in
theorem t_Mod_writeLongs_67 {p : Program} {l : Launch} {e : Env} {R : Room} {s : State} {m : MethodId} {args : Array Value} {below : List Frame} {meth : Method} {c : Code} {cells slots : Nat} {Q : State → Prop} {dC : Nat → ClassId} {dI : Nat → Nat → Nat} {cI cB cJ cZ : ClassId} {A : Nat → Prop} {ad : Nat → Nat} {post : St → Prop} {rec31 : Int32 → St → Prop} (hx : p.tables.exec = Jvm.exec) (hb : c.code = b_Mod_writeLongs) (hml : c.maxLocals = 6) (hown : s.vm.findClass R_Mod = some m.cls) (hT : ∀ w ∈ TG, w.before args s = true) (hK : va_K (dC, dI) CL (TY cI cB cJ cZ) s) (hN : NW s) (hA : ∀ q : Nat, s.heap.size ≤ q → A q) (hRc : cells ≤ R.cells) (hRs : slots ≤ R.slots) (hRf : 2 ≤ R.frames) (hRl : 50 ≤ R.locals) (hret : ∀ (x : St) (H : Heap) (locs : List Loc) (pc : Nat) (ls : Array Slot), decode b_Mod_writeLongs pc = .ok (.return_, 1) → post x → Wd dC dI cI cB cJ cZ ad stM kcM 115 A x H → va_S A s.heap H locs → W p l e R s m args below meth c H locs cells slots Q (F0 m pc ls [])) (hrec31 : ∀ (l1 : Int32) (x : St) (H : Heap) (locs : List Loc) (ls : Array Slot), rec31 l1 x → Wd dC dI cI cB cJ cZ ad stM kcM 115 A x H → va_S A s.heap H locs → lv_has ls 6 [(0, .ref (ad 0)), (1, .int l1)] → W p l e R s m args below meth c H locs cells slots Q (F0 m 31 ls [])) : ∀ (l1 : Int32) (s0 : Int32) (x : St) (H : Heap) (locs : List Loc) (ls : Array Slot), j_Mod_writeLongs_67 post rec31 l1 s0 x → Wd dC dI cI cB cJ cZ ad stM kcM 115 A x H → va_S A s.heap H locs → lv_has ls 6 [(0, .ref (ad 0)), (1, .int l1)] → W p l e R s m args below meth c H locs cells slots Q (F0 m 67 ls [.int s0]) := by
  intro l1 s0 x H locs ls  hw hW hS hl
  unfold j_Mod_writeLongs_67 at hw
  refine lv_istore_n (lv' := [(2, .int s0), (0, .ref (ad 0)), (1, .int l1)]) hx hb d_Mod_writeLongs_67 rfl hl (by decide) rfl (fun ls hl => ?_)
  refine lv_aload_n hx hb d_Mod_writeLongs_68 rfl (lv_at hl 1 rfl) ?_
  refine lv_iload_n hx hb d_Mod_writeLongs_69 rfl (lv_at hl 2 rfl) ?_
  have hF := hW.free hS hA
  refine va_calll (va_runV (C := R_Mod) (As := [.int l1]) (rest := []) ⟨hx, hb, hml, hown, hT⟩ (k_Mod_difference l dC dI cI cB cJ cZ ad H.size l1 x  hw) ⟨callB_of 1 hT (gw_in w_11_227) rfl rfl rfl (hT _ w_1_15) (hT _ w_11_224) (by decide +kernel) ⟨Nat.le_trans (by decide) hRf, Nat.le_trans (by decide) hRl⟩, hT _ w_11_226, hT _ ws_159⟩ ⟨PW.blind, va_recv hK hW.1 (ci := 12) (q0 := 0) rfl (pic_obj ko_0.1 ko_0.2 (by decide)), PW.at _ hW hK hN⟩ rfl rfl hl.1 rfl (lv_room (Nat.le_of_ble_eq_true rfl)) d_Mod_writeLongs_70 ⟨hRc, hRs⟩) hS (fun q _ h => hF q h) hF (fun r574 x573 t H locs ht hvm hw hB hz1 hk1 hS => ?_)
  have hW := Wd.back hB ht hF
  clear hB ht hF hz1 hk1 hvm
  refine lv_lstore_n (lv' := [(3, .long r574), (2, .int s0), (0, .ref (ad 0)), (1, .int l1)]) hx hb d_Mod_writeLongs_73 rfl hl (by decide) rfl (fun ls hl => ?_)
  refine lv_iload_n hx hb d_Mod_writeLongs_74 rfl (lv_at hl 3 rfl) ?_
  refine lv_istore (lv' := [(5, .int l1), (3, .long r574), (2, .int s0), (0, .ref (ad 0)), (1, .int l1)]) hx hb d_Mod_writeLongs_75 hl (by decide) rfl (fun ls hl => ?_)
  obtain ⟨n, hw⟩ := hw
  exact tl_Mod_writeLongs_77 hx hb hml hown hT hK hN hA hRc hRs hRf hRl hret hrec31 n l1 s0 r574 l1 x573 H locs ls  hw hW hS (lv_sub hl [3, 4, 2, 1, 0] rfl)
set_option maxRecDepth 100000 in
def j_Mod_writeLongs_31 (post : St → Prop) (rec31 : Int32 → St → Prop) (l1 : Int32) (x : St) : Prop := ((((fI x 0 71) - 1) ≤ l1 → post x) ∧ (¬ ((fI x 0 71) - 1) ≤ l1 → ((((fI x 0 71) - 1) ≤ (l1 + 64) → j_Mod_writeLongs_67 post rec31 l1 ((fI x 0 71) - 1) x) ∧ (¬ ((fI x 0 71) - 1) ≤ (l1 + 64) → j_Mod_writeLongs_67 post rec31 l1 (l1 + 64) x))))
set_option maxHeartbeats 4000000 in
set_option maxRecDepth 100000 in
theorem t_Mod_writeLongs_31 {p : Program} {l : Launch} {e : Env} {R : Room} {s : State} {m : MethodId} {args : Array Value} {below : List Frame} {meth : Method} {c : Code} {cells slots : Nat} {Q : State → Prop} {dC : Nat → ClassId} {dI : Nat → Nat → Nat} {cI cB cJ cZ : ClassId} {A : Nat → Prop} {ad : Nat → Nat} {post : St → Prop} {rec31 : Int32 → St → Prop} (hx : p.tables.exec = Jvm.exec) (hb : c.code = b_Mod_writeLongs) (hml : c.maxLocals = 6) (hown : s.vm.findClass R_Mod = some m.cls) (hT : ∀ w ∈ TG, w.before args s = true) (hK : va_K (dC, dI) CL (TY cI cB cJ cZ) s) (hN : NW s) (hA : ∀ q : Nat, s.heap.size ≤ q → A q) (hRc : cells ≤ R.cells) (hRs : slots ≤ R.slots) (hRf : 2 ≤ R.frames) (hRl : 50 ≤ R.locals) (hret : ∀ (x : St) (H : Heap) (locs : List Loc) (pc : Nat) (ls : Array Slot), decode b_Mod_writeLongs pc = .ok (.return_, 1) → post x → Wd dC dI cI cB cJ cZ ad stM kcM 115 A x H → va_S A s.heap H locs → W p l e R s m args below meth c H locs cells slots Q (F0 m pc ls [])) (hrec31 : ∀ (l1 : Int32) (x : St) (H : Heap) (locs : List Loc) (ls : Array Slot), rec31 l1 x → Wd dC dI cI cB cJ cZ ad stM kcM 115 A x H → va_S A s.heap H locs → lv_has ls 6 [(0, .ref (ad 0)), (1, .int l1)] → W p l e R s m args below meth c H locs cells slots Q (F0 m 31 ls [])) : ∀ (l1 : Int32) (x : St) (H : Heap) (locs : List Loc) (ls : Array Slot), j_Mod_writeLongs_31 post rec31 l1 x → Wd dC dI cI cB cJ cZ ad stM kcM 115 A x H → va_S A s.heap H locs → lv_has ls 6 [(0, .ref (ad 0)), (1, .int l1)] → W p l e R s m args below meth c H locs cells slots Q (F0 m 31 ls []) := by
  intro l1 x H locs ls  hw hW hS hl
  unfold j_Mod_writeLongs_31 at hw
  refine lv_iload_n hx hb d_Mod_writeLongs_31 rfl (lv_at hl 1 rfl) ?_
  refine lv_aload_n hx hb d_Mod_writeLongs_32 rfl (lv_at hl 0 rfl) ?_
  refine w_geti (k := 71) (t := 12) (C := R_Mod) (T := F_Mod) (N := 167) hx hb hT hown hK hW ko_0.1 ko_0.2 (by decide) in_Mod rfl rfl (by decide) rfl fr_Mod_71 w_9_11 d_Mod_writeLongs_33 ?_
  refine lv_iconst (v := 1) hx hb d_Mod_writeLongs_36 (by decide) ?_
  refine lv_isub hx hb d_Mod_writeLongs_37 ?_
  refine lv_icmp_ge (tgt := 186) hx hb d_Mod_writeLongs_38 (by decide) (fun c575 => ?_) (fun c575 => ?_)
  · have hw := hw.1 c575
    exact hret x H locs 186 ls d_Mod_writeLongs_186 hw hW hS
  · have hw := hw.2 c575
    refine lv_iload_n hx hb d_Mod_writeLongs_41 rfl (lv_at hl 1 rfl) ?_
    refine lv_bipush (v := 64) hx hb d_Mod_writeLongs_42 (by decide) ?_
    refine lv_iadd hx hb d_Mod_writeLongs_44 ?_
    refine lv_aload_n hx hb d_Mod_writeLongs_45 rfl (lv_at hl 0 rfl) ?_
    refine w_geti (k := 71) (t := 12) (C := R_Mod) (T := F_Mod) (N := 167) hx hb hT hown hK hW ko_0.1 ko_0.2 (by decide) in_Mod rfl rfl (by decide) rfl fr_Mod_71 w_9_11 d_Mod_writeLongs_46 ?_
    refine lv_iconst (v := 1) hx hb d_Mod_writeLongs_49 (by decide) ?_
    refine lv_isub hx hb d_Mod_writeLongs_50 ?_
    refine lv_icmp_ge (tgt := 61) hx hb d_Mod_writeLongs_51 (by decide) (fun c576 => ?_) (fun c576 => ?_)
    · have hw := hw.1 c576
      refine lv_aload_n hx hb d_Mod_writeLongs_61 rfl (lv_at hl 0 rfl) ?_
      refine w_geti (k := 71) (t := 12) (C := R_Mod) (T := F_Mod) (N := 167) hx hb hT hown hK hW ko_0.1 ko_0.2 (by decide) in_Mod rfl rfl (by decide) rfl fr_Mod_71 w_9_11 d_Mod_writeLongs_62 ?_
      refine lv_iconst (v := 1) hx hb d_Mod_writeLongs_65 (by decide) ?_
      refine lv_isub hx hb d_Mod_writeLongs_66 ?_
      exact t_Mod_writeLongs_67 hx hb hml hown hT hK hN hA hRc hRs hRf hRl hret hrec31 l1 ((fI x 0 71) - 1) x H locs ls  hw hW hS (lv_sub hl [0, 1] rfl)
    · have hw := hw.2 c576
      refine lv_iload_n hx hb d_Mod_writeLongs_54 rfl (lv_at hl 1 rfl) ?_
      refine lv_bipush (v := 64) hx hb d_Mod_writeLongs_55 (by decide) ?_
      refine lv_iadd hx hb d_Mod_writeLongs_57 ?_
      refine lv_goto (tgt := 67) hx hb d_Mod_writeLongs_58 (by decide) ?_
      exact t_Mod_writeLongs_67 hx hb hml hown hT hK hN hA hRc hRs hRf hRl hret hrec31 l1 (l1 + 64) x H locs ls  hw hW hS (lv_sub hl [0, 1] rfl)
def wl_Mod_writeLongs_31 (post : St → Prop) : Nat → Int32 → St → Prop
  | 0 => fun _ _ => False
  | n + 1 => j_Mod_writeLongs_31 post (wl_Mod_writeLongs_31 post n)
set_option maxHeartbeats 4000000 in
set_option maxRecDepth 100000 in
theorem tl_Mod_writeLongs_31 {p : Program} {l : Launch} {e : Env} {R : Room} {s : State} {m : MethodId} {args : Array Value} {below : List Frame} {meth : Method} {c : Code} {cells slots : Nat} {Q : State → Prop} {dC : Nat → ClassId} {dI : Nat → Nat → Nat} {cI cB cJ cZ : ClassId} {A : Nat → Prop} {ad : Nat → Nat} {post : St → Prop} (hx : p.tables.exec = Jvm.exec) (hb : c.code = b_Mod_writeLongs) (hml : c.maxLocals = 6) (hown : s.vm.findClass R_Mod = some m.cls) (hT : ∀ w ∈ TG, w.before args s = true) (hK : va_K (dC, dI) CL (TY cI cB cJ cZ) s) (hN : NW s) (hA : ∀ q : Nat, s.heap.size ≤ q → A q) (hRc : cells ≤ R.cells) (hRs : slots ≤ R.slots) (hRf : 2 ≤ R.frames) (hRl : 50 ≤ R.locals) (hret : ∀ (x : St) (H : Heap) (locs : List Loc) (pc : Nat) (ls : Array Slot), decode b_Mod_writeLongs pc = .ok (.return_, 1) → post x → Wd dC dI cI cB cJ cZ ad stM kcM 115 A x H → va_S A s.heap H locs → W p l e R s m args below meth c H locs cells slots Q (F0 m pc ls []))  : ∀ n : Nat, ∀ (l1 : Int32) (x : St) (H : Heap) (locs : List Loc) (ls : Array Slot), wl_Mod_writeLongs_31 post n l1 x → Wd dC dI cI cB cJ cZ ad stM kcM 115 A x H → va_S A s.heap H locs → lv_has ls 6 [(0, .ref (ad 0)), (1, .int l1)] → W p l e R s m args below meth c H locs cells slots Q (F0 m 31 ls []) := by
  intro n
  induction n with
  | zero => intro l1 x H locs ls  hw; exact hw.elim
  | succ n ih => intro l1 x H locs ls  hw hW hS hl; exact t_Mod_writeLongs_31 hx hb hml hown hT hK hN hA hRc hRs hRf hRl hret  ih l1 x H locs ls  hw hW hS hl
set_option maxRecDepth 100000 in
def j_Mod_writeLongs_29 (post : St → Prop)  (x : St) : Prop := ∃ n : Nat, wl_Mod_writeLongs_31 post n 0 x
set_option maxHeartbeats 4000000 in
set_option maxRecDepth 100000 in
theorem t_Mod_writeLongs_29 {p : Program} {l : Launch} {e : Env} {R : Room} {s : State} {m : MethodId} {args : Array Value} {below : List Frame} {meth : Method} {c : Code} {cells slots : Nat} {Q : State → Prop} {dC : Nat → ClassId} {dI : Nat → Nat → Nat} {cI cB cJ cZ : ClassId} {A : Nat → Prop} {ad : Nat → Nat} {post : St → Prop} (hx : p.tables.exec = Jvm.exec) (hb : c.code = b_Mod_writeLongs) (hml : c.maxLocals = 6) (hown : s.vm.findClass R_Mod = some m.cls) (hT : ∀ w ∈ TG, w.before args s = true) (hK : va_K (dC, dI) CL (TY cI cB cJ cZ) s) (hN : NW s) (hA : ∀ q : Nat, s.heap.size ≤ q → A q) (hRc : cells ≤ R.cells) (hRs : slots ≤ R.slots) (hRf : 2 ≤ R.frames) (hRl : 50 ≤ R.locals) (hret : ∀ (x : St) (H : Heap) (locs : List Loc) (pc : Nat) (ls : Array Slot), decode b_Mod_writeLongs pc = .ok (.return_, 1) → post x → Wd dC dI cI cB cJ cZ ad stM kcM 115 A x H → va_S A s.heap H locs → W p l e R s m args below meth c H locs cells slots Q (F0 m pc ls []))  : ∀  (x : St) (H : Heap) (locs : List Loc) (ls : Array Slot), j_Mod_writeLongs_29 post  x → Wd dC dI cI cB cJ cZ ad stM kcM 115 A x H → va_S A s.heap H locs → lv_has ls 6 [(0, .ref (ad 0))] → W p l e R s m args below meth c H locs cells slots Q (F0 m 29 ls []) := by
  intro  x H locs ls  hw hW hS hl
  unfold j_Mod_writeLongs_29 at hw
  refine lv_iconst (v := 0) hx hb d_Mod_writeLongs_29 (by decide) ?_
  refine lv_istore_n (lv' := [(1, .int 0), (0, .ref (ad 0))]) hx hb d_Mod_writeLongs_30 rfl hl (by decide) rfl (fun ls hl => ?_)
  obtain ⟨n, hw⟩ := hw
  exact tl_Mod_writeLongs_31 hx hb hml hown hT hK hN hA hRc hRs hRf hRl hret  n 0 x H locs ls  hw hW hS (lv_sub hl [1, 0] rfl)
set_option maxRecDepth 100000 in
def wp_Mod_writeLongs (post : St → Prop)  (x : St) : Prop := wp_Mod_putVarint (fun (x577 : St) => (((fI x577 0 71) ≤ 0 → j_Mod_writeLongs_29 post  x577) ∧ (¬ (fI x577 0 71) ≤ 0 → (vp_in 0 (fN x577 43) ∧ wp_Mod_zigzag (fun (r580 : Int64) (x579 : St) => wp_Mod_putVarint (fun (x581 : St) => j_Mod_writeLongs_29 post  x581) r580 x579) (rL x577 43 0) x577)))) ((fI x 0 71) : Int32).toInt64 x
set_option maxHeartbeats 4000000 in
set_option maxRecDepth 100000 in
theorem t_Mod_writeLongs_e {p : Program} {l : Launch} {e : Env} {R : Room} {s : State} {m : MethodId} {args : Array Value} {below : List Frame} {meth : Method} {c : Code} {cells slots : Nat} {Q : State → Prop} {dC : Nat → ClassId} {dI : Nat → Nat → Nat} {cI cB cJ cZ : ClassId} {A : Nat → Prop} {ad : Nat → Nat} {post : St → Prop} (hx : p.tables.exec = Jvm.exec) (hb : c.code = b_Mod_writeLongs) (hml : c.maxLocals = 6) (hown : s.vm.findClass R_Mod = some m.cls) (hT : ∀ w ∈ TG, w.before args s = true) (hK : va_K (dC, dI) CL (TY cI cB cJ cZ) s) (hN : NW s) (hA : ∀ q : Nat, s.heap.size ≤ q → A q) (hRc : cells ≤ R.cells) (hRs : slots ≤ R.slots) (hRf : 2 ≤ R.frames) (hRl : 50 ≤ R.locals) (hret : ∀ (x : St) (H : Heap) (locs : List Loc) (pc : Nat) (ls : Array Slot), decode b_Mod_writeLongs pc = .ok (.return_, 1) → post x → Wd dC dI cI cB cJ cZ ad stM kcM 115 A x H → va_S A s.heap H locs → W p l e R s m args below meth c H locs cells slots Q (F0 m pc ls [])) : ∀  (x : St) (H : Heap) (locs : List Loc) (ls : Array Slot), wp_Mod_writeLongs post  x → Wd dC dI cI cB cJ cZ ad stM kcM 115 A x H → va_S A s.heap H locs → lv_has ls 6 [(0, .ref (ad 0))] → W p l e R s m args below meth c H locs cells slots Q (F0 m 0 ls []) := by
  intro  x H locs ls  hw hW hS hl
  unfold wp_Mod_writeLongs at hw
  refine lv_aload_n hx hb d_Mod_writeLongs_0 rfl (lv_at hl 0 rfl) ?_
  refine lv_aload_n hx hb d_Mod_writeLongs_1 rfl (lv_at hl 0 rfl) ?_
  refine w_geti (k := 71) (t := 12) (C := R_Mod) (T := F_Mod) (N := 167) hx hb hT hown hK hW ko_0.1 ko_0.2 (by decide) in_Mod rfl rfl (by decide) rfl fr_Mod_71 w_9_11 d_Mod_writeLongs_2 ?_
  refine lv_i2l hx hb d_Mod_writeLongs_5 rfl ?_
  have hF := hW.free hS hA
  refine va_callv (va_runV (C := R_Mod) (As := [.long ((fI x 0 71) : Int32).toInt64]) (rest := []) ⟨hx, hb, hml, hown, hT⟩ (k_Mod_putVarint l dC dI cI cB cJ cZ ad H.size ((fI x 0 71) : Int32).toInt64 x  hw) ⟨callB_of 1 hT (gw_in w_11_198) rfl rfl rfl (hT _ w_1_15) (hT _ w_11_195) (by decide +kernel) ⟨Nat.le_trans (by decide) hRf, Nat.le_trans (by decide) hRl⟩, hT _ w_11_197, hT _ ws_153⟩ ⟨PW.blind, va_recv hK hW.1 (ci := 12) (q0 := 0) rfl (pic_obj ko_0.1 ko_0.2 (by decide)), PW.at _ hW hK hN⟩ rfl rfl hl.1 rfl (lv_room (Nat.le_of_ble_eq_true rfl)) d_Mod_writeLongs_6 ⟨hRc, hRs⟩) hS (fun q _ h => hF q h) hF (fun  x577 t H locs ht hvm hw hB hz1 hk1 hS => ?_)
  have hW := Wd.back hB ht hF
  clear hB ht hF hz1 hk1 hvm
  refine lv_aload_n hx hb d_Mod_writeLongs_9 rfl (lv_at hl 0 rfl) ?_
  refine w_geti (k := 71) (t := 12) (C := R_Mod) (T := F_Mod) (N := 167) hx hb hT hown hK hW ko_0.1 ko_0.2 (by decide) in_Mod rfl rfl (by decide) rfl fr_Mod_71 w_9_11 d_Mod_writeLongs_10 ?_
  refine lv_if_le (tgt := 29) hx hb d_Mod_writeLongs_13 (by decide) (fun c578 => ?_) (fun c578 => ?_)
  · have hw := hw.1 c578
    exact t_Mod_writeLongs_29 hx hb hml hown hT hK hN hA hRc hRs hRf hRl hret   x577 H locs ls  hw hW hS (lv_sub hl [0] rfl)
  · have hw := hw.2 c578
    refine lv_aload_n hx hb d_Mod_writeLongs_16 rfl (lv_at hl 0 rfl) ?_
    refine lv_aload_n hx hb d_Mod_writeLongs_17 rfl (lv_at hl 0 rfl) ?_
    refine w_getf (q := 43) (k := 70) (t := 12) (C := R_Mod) (T := F_Mod) (N := 167) hx hb hT hown hK hW ko_0.1 ko_0.2 (by decide) in_Mod rfl rfl (by decide) rfl fr_Mod_70 w_9_10 d_Mod_writeLongs_18 rfl ?_
    refine lv_iconst (v := 0) hx hb d_Mod_writeLongs_21 (by decide) ?_
    obtain ⟨hi, hw⟩ := hw
    refine w_lald (o := 43) hx hb hK hW ko_43.1 ko_43.2 hi d_Mod_writeLongs_22 ?_
    have hF := hW.free hS hA
    refine va_calll (va_runS (As := [.long (rL x577 43 0)]) (rest := [.ref (ad 0)]) ⟨hx, hb, hml, hown, hT⟩ (k_Mod_zigzag l dC dI cI cB cJ cZ ad H.size (rL x577 43 0) x577  hw) ⟨callB_of 1 hT (gw_in w_11_222) rfl rfl rfl (hT _ w_1_15) (hT _ w_11_220) (by decide +kernel) ⟨Nat.le_trans (by decide) hRf, Nat.le_trans (by decide) hRl⟩, hT _ w_11_221⟩ ⟨PW.blind, PW.at _ hW hK hN⟩ rfl rfl hl.1 rfl (lv_room (Nat.le_of_ble_eq_true rfl)) d_Mod_writeLongs_23 ⟨hRc, hRs⟩) hS (fun q _ h => hF q h) hF (fun r580 x579 t H locs ht hvm hw hB hz1 hk1 hS => ?_)
    have hW := Wd.back hB ht hF
    clear hB ht hF hz1 hk1 hvm
    have hF := hW.free hS hA
    refine va_callv (va_runV (C := R_Mod) (As := [.long r580]) (rest := []) ⟨hx, hb, hml, hown, hT⟩ (k_Mod_putVarint l dC dI cI cB cJ cZ ad H.size r580 x579  hw) ⟨callB_of 1 hT (gw_in w_11_198) rfl rfl rfl (hT _ w_1_15) (hT _ w_11_195) (by decide +kernel) ⟨Nat.le_trans (by decide) hRf, Nat.le_trans (by decide) hRl⟩, hT _ w_11_197, hT _ ws_153⟩ ⟨PW.blind, va_recv hK hW.1 (ci := 12) (q0 := 0) rfl (pic_obj ko_0.1 ko_0.2 (by decide)), PW.at _ hW hK hN⟩ rfl rfl hl.1 rfl (lv_room (Nat.le_of_ble_eq_true rfl)) d_Mod_writeLongs_26 ⟨hRc, hRs⟩) hS (fun q _ h => hF q h) hF (fun  x581 t H locs ht hvm hw hB hz1 hk1 hS => ?_)
    have hW := Wd.back hB ht hF
    clear hB ht hF hz1 hk1 hvm
    exact t_Mod_writeLongs_29 hx hb hml hown hT hK hN hA hRc hRs hRf hRl hret   x581 H locs ls  hw hW hS (lv_sub hl [0] rfl)
set_option maxHeartbeats 4000000 in
set_option maxRecDepth 100000 in
theorem k_Mod_writeLongs (l : Launch) (dC : Nat → ClassId) (dI : Nat → Nat → Nat) (cI cB cJ cZ : ClassId) (ad : Nat → Nat) (sz : Nat)  (x : St) {post : St → Prop} (hw : wp_Mod_writeLongs post  x) : Met l y_Mod_writeLongs (wsOf y_Mod_writeLongs b_Mod_writeLongs 6 (none)) ({ frames := 2, cells := 0, slots := 0, locals := 50 }) (va_Pc [.ref (ad 0)] (PW dC dI cI cB cJ cZ ad stM kcM 115 sz x)) (va_Qv (fun (y : St) => post y) (fun y t => Wd dC dI cI cB cJ cZ ad stM kcM 115 (va_A (pic ad stM kcM 115 cI cB cJ cZ x) sz) y t.heap) (va_A (pic ad stM kcM 115 cI cB cJ cZ x) sz)) 0 0 (va_A (pic ad stM kcM 115 cI cB cJ cZ x) sz) := by
  refine Met.ofW (cc := b_Mod_writeLongs) (maxL := 6) (ret := none) (by decide) rfl ?_
  intro p e s m args below meth c s₁ B hml hv
  obtain ⟨rfl, hsz, hW0, hK, hN⟩ := hv
  have hx := B.exec
  have hb := B.bytes
  have hr := B.returns
  have hts := atoms_spec B.pre
  have hT : ∀ w ∈ TG, w.before _ s = true := fun w h => hts w (List.mem_cons_of_mem _ h)
  have hown : s.vm.findClass R_Mod = some m.cls := findClass_of_methodNamed B.named
  have hlocks := B.notSynchronized
  subst hsz
  have hW : Wd dC dI cI cB cJ cZ ad stM kcM 115 (va_A (pic ad stM kcM 115 cI cB cJ cZ x) s.heap.size) x s.heap := ⟨hW0.1, hW0.2.1.self (sz := s.heap.size), hW0.2.2⟩
  generalize hAe : va_A (pic ad stM kcM 115 cI cB cJ cZ x) s.heap.size = A at hW ⊢
  have hA : ∀ q : Nat, s.heap.size ≤ q → A q := fun q h => by rw [← hAe]; exact Or.inr h
  have hS : va_S A s.heap s.heap [] := va_S.rf
  have hl := lv_entry ([.ref (ad 0)]) (n := 6) (Nat.le_of_ble_eq_true rfl)
  rw [lg_entry_eq]
  generalize (lg_sl ([.ref (ad 0)]) ++ List.replicate (6 - (lg_sl ([.ref (ad 0)])).length) Slot.unset).toArray = ls at hl ⊢
  have hl : lv_has ls 6 [(0, .ref (ad 0))] := hl
  exact t_Mod_writeLongs_e hx hb hml hown hT hK hN hA (Nat.le_refl 0) (Nat.le_refl 0) (Nat.le_refl 2) (Nat.le_refl 50) (fun x H locs pc ls hd hp hW hS => W.vret hx hb hr (fun t ht hM => ⟨⟨x, rfl, hp, Wd.back hW ht.symm (fun _ z => z)⟩, hS.F ht⟩) hS.2.2 hd hlocks)   x _ _ ls  hw hW hS hl
end
