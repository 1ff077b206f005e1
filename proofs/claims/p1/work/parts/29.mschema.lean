theorem w_10_218 : (Jvm.Cond.methodLink "StripedVaultModel" (457 : Nat) ({ cls := "StripedVaultModel", name := "readField", desc := "(I)V" } : Jvm.MethodName)) ∈ TG := tw_10 218 (by decide +kernel) (by decide +kernel)
theorem w_10_220 : (Jvm.Cond.instanceMethod ({ cls := "StripedVaultModel", name := "readField", desc := "(I)V" } : Jvm.MethodName)) ∈ TG := tw_10 220 (by decide +kernel) (by decide +kernel)
theorem w_10_221 : (Jvm.Cond.code ({ cls := "StripedVaultModel", name := "readField", desc := "(I)V" } : Jvm.MethodName) prog_14_method_27_code (6 : Nat) (Option.none : Option Jvm.ClassFile.FieldType)) ∈ TG := tw_10 221 (by decide +kernel) (by decide +kernel)
theorem w_10_222 : (Jvm.Cond.constantLong "StripedVaultModel" (423 : Nat) (8243119442065778020 : Int64)) ∈ TG := tw_10 222 (by decide +kernel) (by decide +kernel)
theorem w_10_223 : (Jvm.Cond.methodLink "StripedVaultModel" (425 : Nat) ({ cls := "StripedVaultModel", name := "takesWord", desc := "(J)Z" } : Jvm.MethodName)) ∈ TG := tw_10 223 (by decide +kernel) (by decide +kernel)
theorem w_10_225 : (Jvm.Cond.instanceMethod ({ cls := "StripedVaultModel", name := "takesWord", desc := "(J)Z" } : Jvm.MethodName)) ∈ TG := tw_10 225 (by decide +kernel) (by decide +kernel)
theorem w_10_226 : (Jvm.Cond.code ({ cls := "StripedVaultModel", name := "takesWord", desc := "(J)Z" } : Jvm.MethodName) prog_14_method_14_code (3 : Nat) (Option.some Jvm.ClassFile.FieldType.boolean)) ∈ TG := tw_10 226 (by decide +kernel) (by decide +kernel)
theorem w_10_227 : (Jvm.Cond.methodLink "StripedVaultModel" (401 : Nat) ({ cls := "StripedVaultModel", name := "sees", desc := "(J)Z" } : Jvm.MethodName)) ∈ TG := tw_10 227 (by decide +kernel) (by decide +kernel)
theorem w_10_229 : (Jvm.Cond.instanceMethod ({ cls := "StripedVaultModel", name := "sees", desc := "(J)Z" } : Jvm.MethodName)) ∈ TG := tw_10 229 (by decide +kernel) (by decide +kernel)
theorem w_10_230 : (Jvm.Cond.code ({ cls := "StripedVaultModel", name := "sees", desc := "(J)Z" } : Jvm.MethodName) prog_14_method_13_code (3 : Nat) (Option.some Jvm.ClassFile.FieldType.boolean)) ∈ TG := tw_10 230 (by decide +kernel) (by decide +kernel)
theorem w_10_231 : (Jvm.Cond.methodLink "StripedVaultModel" (394 : Nat) ({ cls := "StripedVaultModel", name := "blanks", desc := "()V" } : Jvm.MethodName)) ∈ TG := tw_10 231 (by decide +kernel) (by decide +kernel)
theorem w_10_233 : (Jvm.Cond.instanceMethod ({ cls := "StripedVaultModel", name := "blanks", desc := "()V" } : Jvm.MethodName)) ∈ TG := tw_10 233 (by decide +kernel) (by decide +kernel)
theorem w_10_234 : (Jvm.Cond.code ({ cls := "StripedVaultModel", name := "blanks", desc := "()V" } : Jvm.MethodName) prog_14_method_8_code (1 : Nat) (Option.none : Option Jvm.ClassFile.FieldType)) ∈ TG := tw_10 234 (by decide +kernel) (by decide +kernel)
theorem w_10_235 : (Jvm.Cond.methodLink "StripedVaultModel" (379 : Nat) ({ cls := "StripedVaultModel", name := "look", desc := "()I" } : Jvm.MethodName)) ∈ TG := tw_10 235 (by decide +kernel) (by decide +kernel)
theorem w_10_237 : (Jvm.Cond.instanceMethod ({ cls := "StripedVaultModel", name := "look", desc := "()I" } : Jvm.MethodName)) ∈ TG := tw_10 237 (by decide +kernel) (by decide +kernel)
theorem w_10_238 : (Jvm.Cond.code ({ cls := "StripedVaultModel", name := "look", desc := "()I" } : Jvm.MethodName) prog_14_method_7_code (1 : Nat) (Option.some Jvm.ClassFile.FieldType.int)) ∈ TG := tw_10 238 (by decide +kernel) (by decide +kernel)
theorem w_10_239 : (Jvm.Cond.methodLink "StripedVaultModel" (397 : Nat) ({ cls := "StripedVaultModel", name := "wordOf", desc := "(I)J" } : Jvm.MethodName)) ∈ TG := tw_10 239 (by decide +kernel) (by decide +kernel)
theorem w_11_1 : (Jvm.Cond.instanceMethod ({ cls := "StripedVaultModel", name := "wordOf", desc := "(I)J" } : Jvm.MethodName)) ∈ TG := tw_11 1 (by decide +kernel) (by decide +kernel)
theorem w_11_13 : (Jvm.Cond.constantLong "StripedVaultModel" (428 : Nat) (8030046131791487340 : Int64)) ∈ TG := tw_11 13 (by decide +kernel) (by decide +kernel)
theorem w_11_14 : (Jvm.Cond.constantLong "StripedVaultModel" (430 : Nat) (8243118273700586852 : Int64)) ∈ TG := tw_11 14 (by decide +kernel) (by decide +kernel)
theorem w_11_15 : (Jvm.Cond.methodLink "StripedVaultModel" (408 : Nat) ({ cls := "StripedVaultModel", name := "fail", desc := "(I)V" } : Jvm.MethodName)) ∈ TG := tw_11 15 (by decide +kernel) (by decide +kernel)
theorem w_11_17 : (Jvm.Cond.instanceMethod ({ cls := "StripedVaultModel", name := "fail", desc := "(I)V" } : Jvm.MethodName)) ∈ TG := tw_11 17 (by decide +kernel) (by decide +kernel)
theorem w_11_18 : (Jvm.Cond.code ({ cls := "StripedVaultModel", name := "fail", desc := "(I)V" } : Jvm.MethodName) prog_14_method_6_code (2 : Nat) (Option.none : Option Jvm.ClassFile.FieldType)) ∈ TG := tw_11 18 (by decide +kernel) (by decide +kernel)
theorem w_11_19 : (Jvm.Cond.constantLong "StripedVaultModel" (432 : Nat) (1651470188 : Int64)) ∈ TG := tw_11 19 (by decide +kernel) (by decide +kernel)
theorem w_11_2 : (Jvm.Cond.code ({ cls := "StripedVaultModel", name := "wordOf", desc := "(I)J" } : Jvm.MethodName) prog_14_method_12_code (6 : Nat) (Option.some Jvm.ClassFile.FieldType.long)) ∈ TG := tw_11 2 (by decide +kernel) (by decide +kernel)
theorem w_11_20 : (Jvm.Cond.constantLong "StripedVaultModel" (434 : Nat) (6909556 : Int64)) ∈ TG := tw_11 20 (by decide +kernel) (by decide +kernel)
theorem w_11_21 : (Jvm.Cond.constantLong "StripedVaultModel" (436 : Nat) (1819242087 : Int64)) ∈ TG := tw_11 21 (by decide +kernel) (by decide +kernel)
theorem w_11_22 : (Jvm.Cond.constantLong "StripedVaultModel" (438 : Nat) (1952807028 : Int64)) ∈ TG := tw_11 22 (by decide +kernel) (by decide +kernel)
theorem w_11_23 : (Jvm.Cond.constantLong "StripedVaultModel" (440 : Nat) (444301538672 : Int64)) ∈ TG := tw_11 23 (by decide +kernel) (by decide +kernel)
theorem w_11_3 : (Jvm.Cond.methodLink "StripedVaultModel" (390 : Nat) ({ cls := "StripedVaultModel", name := "wordAt", desc := "(I)I" } : Jvm.MethodName)) ∈ TG := tw_11 3 (by decide +kernel) (by decide +kernel)
theorem w_11_5 : (Jvm.Cond.instanceMethod ({ cls := "StripedVaultModel", name := "wordAt", desc := "(I)I" } : Jvm.MethodName)) ∈ TG := tw_11 5 (by decide +kernel) (by decide +kernel)
theorem w_11_6 : (Jvm.Cond.code ({ cls := "StripedVaultModel", name := "wordAt", desc := "(I)I" } : Jvm.MethodName) prog_14_method_11_code (3 : Nat) (Option.some Jvm.ClassFile.FieldType.int)) ∈ TG := tw_11 6 (by decide +kernel) (by decide +kernel)
theorem ws_109 : Cond.selects R_Mod y_Mod_readField y_Mod_readField ∈ TG := tw_s 109 (by decide +kernel) (by decide +kernel)
theorem ws_110 : Cond.selects R_Mod y_Mod_takesWord y_Mod_takesWord ∈ TG := tw_s 110 (by decide +kernel) (by decide +kernel)
theorem ws_111 : Cond.selects R_Mod y_Mod_sees y_Mod_sees ∈ TG := tw_s 111 (by decide +kernel) (by decide +kernel)
theorem ws_112 : Cond.selects R_Mod y_Mod_blanks y_Mod_blanks ∈ TG := tw_s 112 (by decide +kernel) (by decide +kernel)
theorem ws_113 : Cond.selects R_Mod y_Mod_look y_Mod_look ∈ TG := tw_s 113 (by decide +kernel) (by decide +kernel)
theorem ws_114 : Cond.selects R_Mod y_Mod_wordOf y_Mod_wordOf ∈ TG := tw_s 114 (by decide +kernel) (by decide +kernel)
theorem ws_115 : Cond.selects R_Mod y_Mod_wordAt y_Mod_wordAt ∈ TG := tw_s 115 (by decide +kernel) (by decide +kernel)
theorem ws_116 : Cond.selects R_Mod y_Mod_fail y_Mod_fail ∈ TG := tw_s 116 (by decide +kernel) (by decide +kernel)
theorem d_Mod_look_0 : decode b_Mod_look 0 = .ok (.aload_n 0, 1) := by decide +kernel
theorem d_Mod_look_1 : decode b_Mod_look 1 = .ok (.getfield 373, 3) := by decide +kernel
theorem d_Mod_look_4 : decode b_Mod_look 4 = .ok (.aload_n 0, 1) := by decide +kernel
theorem d_Mod_look_5 : decode b_Mod_look 5 = .ok (.getfield 370, 3) := by decide +kernel
theorem d_Mod_look_8 : decode b_Mod_look 8 = .ok (.if_icmp .ge 15, 3) := by decide +kernel
theorem d_Mod_look_23 : decode b_Mod_look 23 = .ok (.iconst (-1), 1) := by decide +kernel
theorem d_Mod_look_24 : decode b_Mod_look 24 = .ok (.ireturn, 1) := by decide +kernel
theorem d_Mod_blanks_0 : decode b_Mod_blanks 0 = .ok (.aload_n 0, 1) := by decide +kernel
theorem d_Mod_blanks_1 : decode b_Mod_blanks 1 = .ok (.invokevirtual 379, 3) := by decide +kernel
theorem d_Mod_blanks_4 : decode b_Mod_blanks 4 = .ok (.bipush 32, 2) := by decide +kernel
theorem d_Mod_blanks_6 : decode b_Mod_blanks 6 = .ok (.if_icmp .eq 12, 3) := by decide +kernel
theorem d_Mod_blanks_9 : decode b_Mod_blanks 9 = .ok (.aload_n 0, 1) := by decide +kernel
theorem d_Mod_blanks_10 : decode b_Mod_blanks 10 = .ok (.invokevirtual 379, 3) := by decide +kernel
theorem d_Mod_blanks_13 : decode b_Mod_blanks 13 = .ok (.bipush 10, 2) := by decide +kernel
theorem d_Mod_blanks_15 : decode b_Mod_blanks 15 = .ok (.if_icmp .ne 16, 3) := by decide +kernel
theorem d_Mod_blanks_31 : decode b_Mod_blanks 31 = .ok (.return_, 1) := by decide +kernel
theorem d_Mod_wordAt_0 : decode b_Mod_wordAt 0 = .ok (.iload_n 1, 1) := by decide +kernel
theorem d_Mod_wordAt_1 : decode b_Mod_wordAt 1 = .ok (.istore_n 2, 1) := by decide +kernel
theorem d_Mod_wordAt_2 : decode b_Mod_wordAt 2 = .ok (.iload_n 2, 1) := by decide +kernel
theorem d_Mod_wordAt_3 : decode b_Mod_wordAt 3 = .ok (.aload_n 0, 1) := by decide +kernel
theorem d_Mod_wordAt_4 : decode b_Mod_wordAt 4 = .ok (.getfield 370, 3) := by decide +kernel
theorem d_Mod_wordAt_7 : decode b_Mod_wordAt 7 = .ok (.if_icmp .ge 49, 3) := by decide +kernel
theorem d_Mod_wordAt_56 : decode b_Mod_wordAt 56 = .ok (.iload_n 2, 1) := by decide +kernel
theorem d_Mod_wordAt_57 : decode b_Mod_wordAt 57 = .ok (.iload_n 1, 1) := by decide +kernel
theorem d_Mod_wordAt_58 : decode b_Mod_wordAt 58 = .ok (.isub, 1) := by decide +kernel
theorem d_Mod_wordAt_59 : decode b_Mod_wordAt 59 = .ok (.ireturn, 1) := by decide +kernel
theorem d_Mod_wordOf_0 : decode b_Mod_wordOf 0 = .ok (.aload_n 0, 1) := by decide +kernel
theorem d_Mod_wordOf_1 : decode b_Mod_wordOf 1 = .ok (.iload_n 1, 1) := by decide +kernel
theorem d_Mod_wordOf_2 : decode b_Mod_wordOf 2 = .ok (.invokevirtual 390, 3) := by decide +kernel
theorem d_Mod_wordOf_5 : decode b_Mod_wordOf 5 = .ok (.istore_n 2, 1) := by decide +kernel
theorem d_Mod_wordOf_6 : decode b_Mod_wordOf 6 = .ok (.lconst 0, 1) := by decide +kernel
theorem d_Mod_wordOf_7 : decode b_Mod_wordOf 7 = .ok (.lstore_n 3, 1) := by decide +kernel
theorem d_Mod_wordOf_8 : decode b_Mod_wordOf 8 = .ok (.iconst 0, 1) := by decide +kernel
theorem d_Mod_wordOf_9 : decode b_Mod_wordOf 9 = .ok (.istore 5, 2) := by decide +kernel
theorem d_Mod_wordOf_11 : decode b_Mod_wordOf 11 = .ok (.iload 5, 2) := by decide +kernel
theorem d_Mod_wordOf_13 : decode b_Mod_wordOf 13 = .ok (.iload_n 2, 1) := by decide +kernel
theorem d_Mod_wordOf_14 : decode b_Mod_wordOf 14 = .ok (.if_icmp .ge 25, 3) := by decide +kernel
theorem d_Mod_wordOf_39 : decode b_Mod_wordOf 39 = .ok (.iload_n 2, 1) := by decide +kernel
theorem d_Mod_wordOf_40 : decode b_Mod_wordOf 40 = .ok (.bipush 8, 2) := by decide +kernel
theorem d_Mod_wordOf_42 : decode b_Mod_wordOf 42 = .ok (.if_icmp .le 7, 3) := by decide +kernel
theorem d_Mod_wordOf_49 : decode b_Mod_wordOf 49 = .ok (.lload_n 3, 1) := by decide +kernel
theorem d_Mod_wordOf_50 : decode b_Mod_wordOf 50 = .ok (.lreturn, 1) := by decide +kernel
theorem d_Mod_sees_0 : decode b_Mod_sees 0 = .ok (.aload_n 0, 1) := by decide +kernel
theorem d_Mod_sees_1 : decode b_Mod_sees 1 = .ok (.invokevirtual 394, 3) := by decide +kernel
theorem d_Mod_sees_4 : decode b_Mod_sees 4 = .ok (.aload_n 0, 1) := by decide +kernel
theorem d_Mod_sees_5 : decode b_Mod_sees 5 = .ok (.getfield 376, 3) := by decide +kernel
theorem d_Mod_sees_8 : decode b_Mod_sees 8 = .ok (.iconst (-1), 1) := by decide +kernel
theorem d_Mod_sees_9 : decode b_Mod_sees 9 = .ok (.if_icmp .ne 20, 3) := by decide +kernel
theorem d_Mod_sees_12 : decode b_Mod_sees 12 = .ok (.aload_n 0, 1) := by decide +kernel
theorem d_Mod_sees_13 : decode b_Mod_sees 13 = .ok (.aload_n 0, 1) := by decide +kernel
theorem d_Mod_sees_14 : decode b_Mod_sees 14 = .ok (.getfield 373, 3) := by decide +kernel
theorem d_Mod_sees_17 : decode b_Mod_sees 17 = .ok (.invokevirtual 397, 3) := by decide +kernel
theorem d_Mod_sees_20 : decode b_Mod_sees 20 = .ok (.lload_n 1, 1) := by decide +kernel
theorem d_Mod_sees_21 : decode b_Mod_sees 21 = .ok (.lcmp, 1) := by decide +kernel
theorem d_Mod_sees_22 : decode b_Mod_sees 22 = .ok (.ifCond .ne 7, 3) := by decide +kernel
theorem d_Mod_sees_29 : decode b_Mod_sees 29 = .ok (.iconst 0, 1) := by decide +kernel
theorem d_Mod_sees_30 : decode b_Mod_sees 30 = .ok (.ireturn, 1) := by decide +kernel
theorem d_Mod_takesWord_0 : decode b_Mod_takesWord 0 = .ok (.aload_n 0, 1) := by decide +kernel
theorem d_Mod_takesWord_1 : decode b_Mod_takesWord 1 = .ok (.lload_n 1, 1) := by decide +kernel
theorem d_Mod_takesWord_2 : decode b_Mod_takesWord 2 = .ok (.invokevirtual 401, 3) := by decide +kernel
theorem d_Mod_takesWord_5 : decode b_Mod_takesWord 5 = .ok (.ifCond .ne 5, 3) := by decide +kernel
theorem d_Mod_takesWord_8 : decode b_Mod_takesWord 8 = .ok (.iconst 0, 1) := by decide +kernel
theorem d_Mod_takesWord_9 : decode b_Mod_takesWord 9 = .ok (.ireturn, 1) := by decide +kernel
theorem d_Mod_fail_0 : decode b_Mod_fail 0 = .ok (.aload_n 0, 1) := by decide +kernel
theorem d_Mod_fail_1 : decode b_Mod_fail 1 = .ok (.getfield 376, 3) := by decide +kernel
theorem d_Mod_fail_4 : decode b_Mod_fail 4 = .ok (.iconst (-1), 1) := by decide +kernel
theorem d_Mod_fail_5 : decode b_Mod_fail 5 = .ok (.if_icmp .ne 8, 3) := by decide +kernel
theorem d_Mod_fail_8 : decode b_Mod_fail 8 = .ok (.aload_n 0, 1) := by decide +kernel
theorem d_Mod_fail_9 : decode b_Mod_fail 9 = .ok (.iload_n 1, 1) := by decide +kernel
theorem d_Mod_fail_10 : decode b_Mod_fail 10 = .ok (.putfield 376, 3) := by decide +kernel
theorem d_Mod_fail_13 : decode b_Mod_fail 13 = .ok (.return_, 1) := by decide +kernel
theorem d_Mod_readField_0 : decode b_Mod_readField 0 = .ok (.aload_n 0, 1) := by decide +kernel
theorem d_Mod_readField_1 : decode b_Mod_readField 1 = .ok (.ldc2_w 423, 3) := by decide +kernel
theorem d_Mod_readField_4 : decode b_Mod_readField 4 = .ok (.invokevirtual 425, 3) := by decide +kernel
theorem d_Mod_readField_7 : decode b_Mod_readField 7 = .ok (.ifCond .eq 7, 3) := by decide +kernel
theorem d_Mod_readField_14 : decode b_Mod_readField 14 = .ok (.aload_n 0, 1) := by decide +kernel
theorem d_Mod_readField_15 : decode b_Mod_readField 15 = .ok (.ldc2_w 428, 3) := by decide +kernel
theorem d_Mod_readField_18 : decode b_Mod_readField 18 = .ok (.invokevirtual 425, 3) := by decide +kernel
theorem d_Mod_readField_21 : decode b_Mod_readField 21 = .ok (.ifCond .eq 7, 3) := by decide +kernel
theorem d_Mod_readField_28 : decode b_Mod_readField 28 = .ok (.aload_n 0, 1) := by decide +kernel
theorem d_Mod_readField_29 : decode b_Mod_readField 29 = .ok (.ldc2_w 430, 3) := by decide +kernel
theorem d_Mod_readField_32 : decode b_Mod_readField 32 = .ok (.invokevirtual 425, 3) := by decide +kernel
theorem d_Mod_readField_35 : decode b_Mod_readField 35 = .ok (.ifCond .eq 7, 3) := by decide +kernel
theorem d_Mod_readField_42 : decode b_Mod_readField 42 = .ok (.iconst (-1), 1) := by decide +kernel
theorem d_Mod_readField_43 : decode b_Mod_readField 43 = .ok (.istore_n 2, 1) := by decide +kernel
theorem d_Mod_readField_44 : decode b_Mod_readField 44 = .ok (.iload_n 2, 1) := by decide +kernel
theorem d_Mod_readField_45 : decode b_Mod_readField 45 = .ok (.iconst (-1), 1) := by decide +kernel
theorem d_Mod_readField_46 : decode b_Mod_readField 46 = .ok (.if_icmp .ne 11, 3) := by decide +kernel
theorem d_Mod_readField_49 : decode b_Mod_readField 49 = .ok (.aload_n 0, 1) := by decide +kernel
theorem d_Mod_readField_50 : decode b_Mod_readField 50 = .ok (.aload_n 0, 1) := by decide +kernel
theorem d_Mod_readField_51 : decode b_Mod_readField 51 = .ok (.getfield 373, 3) := by decide +kernel
theorem d_Mod_readField_54 : decode b_Mod_readField 54 = .ok (.invokevirtual 408, 3) := by decide +kernel
theorem d_Mod_readField_57 : decode b_Mod_readField 57 = .ok (.aload_n 0, 1) := by decide +kernel
theorem d_Mod_readField_58 : decode b_Mod_readField 58 = .ok (.ldc2_w 432, 3) := by decide +kernel
theorem d_Mod_readField_61 : decode b_Mod_readField 61 = .ok (.invokevirtual 425, 3) := by decide +kernel
theorem d_Mod_readField_64 : decode b_Mod_readField 64 = .ok (.ifCond .eq 7, 3) := by decide +kernel
theorem d_Mod_readField_71 : decode b_Mod_readField 71 = .ok (.aload_n 0, 1) := by decide +kernel
theorem d_Mod_readField_72 : decode b_Mod_readField 72 = .ok (.ldc2_w 434, 3) := by decide +kernel
theorem d_Mod_readField_75 : decode b_Mod_readField 75 = .ok (.invokevirtual 425, 3) := by decide +kernel
theorem d_Mod_readField_78 : decode b_Mod_readField 78 = .ok (.ifCond .eq 7, 3) := by decide +kernel
theorem d_Mod_readField_85 : decode b_Mod_readField 85 = .ok (.aload_n 0, 1) := by decide +kernel
theorem d_Mod_readField_86 : decode b_Mod_readField 86 = .ok (.ldc2_w 436, 3) := by decide +kernel
theorem d_Mod_readField_89 : decode b_Mod_readField 89 = .ok (.invokevirtual 425, 3) := by decide +kernel
theorem d_Mod_readField_92 : decode b_Mod_readField 92 = .ok (.ifCond .eq 7, 3) := by decide +kernel
theorem d_Mod_readField_99 : decode b_Mod_readField 99 = .ok (.aload_n 0, 1) := by decide +kernel
theorem d_Mod_readField_100 : decode b_Mod_readField 100 = .ok (.ldc2_w 438, 3) := by decide +kernel
theorem d_Mod_readField_103 : decode b_Mod_readField 103 = .ok (.invokevirtual 425, 3) := by decide +kernel
theorem d_Mod_readField_106 : decode b_Mod_readField 106 = .ok (.ifCond .eq 7, 3) := by decide +kernel
theorem d_Mod_readField_113 : decode b_Mod_readField 113 = .ok (.aload_n 0, 1) := by decide +kernel
theorem d_Mod_readField_114 : decode b_Mod_readField 114 = .ok (.ldc2_w 440, 3) := by decide +kernel
theorem d_Mod_readField_117 : decode b_Mod_readField 117 = .ok (.invokevirtual 425, 3) := by decide +kernel
theorem d_Mod_readField_120 : decode b_Mod_readField 120 = .ok (.ifCond .eq 7, 3) := by decide +kernel
theorem d_Mod_readField_127 : decode b_Mod_readField 127 = .ok (.iconst (-1), 1) := by decide +kernel
theorem d_Mod_readField_128 : decode b_Mod_readField 128 = .ok (.istore_n 3, 1) := by decide +kernel
theorem d_Mod_readField_129 : decode b_Mod_readField 129 = .ok (.iload_n 3, 1) := by decide +kernel
theorem d_Mod_readField_130 : decode b_Mod_readField 130 = .ok (.iconst (-1), 1) := by decide +kernel
theorem d_Mod_readField_131 : decode b_Mod_readField 131 = .ok (.if_icmp .ne 11, 3) := by decide +kernel
theorem d_Mod_readField_134 : decode b_Mod_readField 134 = .ok (.aload_n 0, 1) := by decide +kernel
theorem d_Mod_readField_135 : decode b_Mod_readField 135 = .ok (.aload_n 0, 1) := by decide +kernel
theorem d_Mod_readField_136 : decode b_Mod_readField 136 = .ok (.getfield 373, 3) := by decide +kernel
theorem d_Mod_readField_139 : decode b_Mod_readField 139 = .ok (.invokevirtual 408, 3) := by decide +kernel
theorem d_Mod_readField_142 : decode b_Mod_readField 142 = .ok (.aload_n 0, 1) := by decide +kernel
theorem d_Mod_readField_143 : decode b_Mod_readField 143 = .ok (.invokevirtual 394, 3) := by decide +kernel
theorem d_Mod_readField_146 : decode b_Mod_readField 146 = .ok (.aload_n 0, 1) := by decide +kernel
theorem d_Mod_readField_147 : decode b_Mod_readField 147 = .ok (.aload_n 0, 1) := by decide +kernel
theorem d_Mod_readField_148 : decode b_Mod_readField 148 = .ok (.getfield 373, 3) := by decide +kernel
theorem d_Mod_readField_151 : decode b_Mod_readField 151 = .ok (.invokevirtual 390, 3) := by decide +kernel
theorem d_Mod_readField_154 : decode b_Mod_readField 154 = .ok (.istore 4, 2) := by decide +kernel
theorem d_Mod_readField_156 : decode b_Mod_readField 156 = .ok (.iload 4, 2) := by decide +kernel
theorem d_Mod_readField_158 : decode b_Mod_readField 158 = .ok (.ifCond .eq 39, 3) := by decide +kernel
theorem d_Mod_readField_197 : decode b_Mod_readField 197 = .ok (.aload_n 0, 1) := by decide +kernel
theorem d_Mod_readField_198 : decode b_Mod_readField 198 = .ok (.aload_n 0, 1) := by decide +kernel
theorem d_Mod_readField_199 : decode b_Mod_readField 199 = .ok (.getfield 373, 3) := by decide +kernel
theorem d_Mod_readField_202 : decode b_Mod_readField 202 = .ok (.invokevirtual 408, 3) := by decide +kernel
theorem d_Mod_readField_205 : decode b_Mod_readField 205 = .ok (.aload_n 0, 1) := by decide +kernel
theorem d_Mod_readField_206 : decode b_Mod_readField 206 = .ok (.getfield 376, 3) := by decide +kernel
theorem d_Mod_readField_209 : decode b_Mod_readField 209 = .ok (.iconst (-1), 1) := by decide +kernel
theorem d_Mod_readField_210 : decode b_Mod_readField 210 = .ok (.if_icmp .eq 4, 3) := by decide +kernel
theorem d_Mod_readField_213 : decode b_Mod_readField 213 = .ok (.return_, 1) := by decide +kernel
theorem d_Mod_schema_0 : decode b_Mod_schema 0 = .ok (.aload_n 0, 1) := by decide +kernel
theorem d_Mod_schema_1 : decode b_Mod_schema 1 = .ok (.iconst 0, 1) := by decide +kernel
theorem d_Mod_schema_2 : decode b_Mod_schema 2 = .ok (.putfield 360, 3) := by decide +kernel
theorem d_Mod_schema_5 : decode b_Mod_schema 5 = .ok (.aload_n 0, 1) := by decide +kernel
theorem d_Mod_schema_6 : decode b_Mod_schema 6 = .ok (.invokevirtual 460, 3) := by decide +kernel
theorem d_Mod_schema_9 : decode b_Mod_schema 9 = .ok (.aload_n 0, 1) := by decide +kernel
theorem d_Mod_schema_10 : decode b_Mod_schema 10 = .ok (.getfield 370, 3) := by decide +kernel
theorem d_Mod_schema_13 : decode b_Mod_schema 13 = .ok (.sipush 4000, 3) := by decide +kernel
theorem d_Mod_schema_16 : decode b_Mod_schema 16 = .ok (.if_icmp .le 7, 3) := by decide +kernel
theorem d_Mod_schema_23 : decode b_Mod_schema 23 = .ok (.aload_n 0, 1) := by decide +kernel
theorem d_Mod_schema_24 : decode b_Mod_schema 24 = .ok (.getfield 35, 3) := by decide +kernel
theorem d_Mod_schema_27 : decode b_Mod_schema 27 = .ok (.iconst 2, 1) := by decide +kernel
theorem d_Mod_schema_28 : decode b_Mod_schema 28 = .ok (.iconst 0, 1) := by decide +kernel
theorem d_Mod_schema_29 : decode b_Mod_schema 29 = .ok (.iastore, 1) := by decide +kernel
theorem d_Mod_schema_30 : decode b_Mod_schema 30 = .ok (.aload_n 0, 1) := by decide +kernel
theorem d_Mod_schema_31 : decode b_Mod_schema 31 = .ok (.getfield 38, 3) := by decide +kernel
theorem d_Mod_schema_34 : decode b_Mod_schema 34 = .ok (.iconst 2, 1) := by decide +kernel
theorem d_Mod_schema_35 : decode b_Mod_schema 35 = .ok (.iconst 0, 1) := by decide +kernel
theorem d_Mod_schema_36 : decode b_Mod_schema 36 = .ok (.iastore, 1) := by decide +kernel
theorem d_Mod_schema_37 : decode b_Mod_schema 37 = .ok (.aload_n 0, 1) := by decide +kernel
theorem d_Mod_schema_38 : decode b_Mod_schema 38 = .ok (.iconst (-1), 1) := by decide +kernel
theorem d_Mod_schema_39 : decode b_Mod_schema 39 = .ok (.invokevirtual 457, 3) := by decide +kernel
theorem d_Mod_schema_42 : decode b_Mod_schema 42 = .ok (.aload_n 0, 1) := by decide +kernel
theorem d_Mod_schema_43 : decode b_Mod_schema 43 = .ok (.invokevirtual 394, 3) := by decide +kernel
theorem d_Mod_schema_46 : decode b_Mod_schema 46 = .ok (.aload_n 0, 1) := by decide +kernel
theorem d_Mod_schema_47 : decode b_Mod_schema 47 = .ok (.getfield 376, 3) := by decide +kernel
theorem d_Mod_schema_50 : decode b_Mod_schema 50 = .ok (.iconst (-1), 1) := by decide +kernel
theorem d_Mod_schema_51 : decode b_Mod_schema 51 = .ok (.if_icmp .ne 14, 3) := by decide +kernel
theorem d_Mod_schema_65 : decode b_Mod_schema 65 = .ok (.aload_n 0, 1) := by decide +kernel
theorem d_Mod_schema_66 : decode b_Mod_schema 66 = .ok (.getfield 376, 3) := by decide +kernel
theorem d_Mod_schema_69 : decode b_Mod_schema 69 = .ok (.iconst (-1), 1) := by decide +kernel
theorem d_Mod_schema_70 : decode b_Mod_schema 70 = .ok (.if_icmp .eq 8, 3) := by decide +kernel
theorem d_Mod_schema_73 : decode b_Mod_schema 73 = .ok (.aload_n 0, 1) := by decide +kernel
theorem d_Mod_schema_74 : decode b_Mod_schema 74 = .ok (.getfield 376, 3) := by decide +kernel
theorem d_Mod_schema_77 : decode b_Mod_schema 77 = .ok (.ireturn, 1) := by decide +kernel
theorem d_Mod_feed_22 : decode b_Mod_feed 22 = .ok (.iload 6, 2) := by decide +kernel
theorem d_Mod_feed_24 : decode b_Mod_feed 24 = .ok (.bipush 20, 2) := by decide +kernel
theorem d_Mod_feed_26 : decode b_Mod_feed 26 = .ok (.if_icmp .ge 86, 3) := by decide +kernel
theorem d_Mod_feed_29 : decode b_Mod_feed 29 = .ok (.iload 6, 2) := by decide +kernel
theorem d_Mod_feed_31 : decode b_Mod_feed 31 = .ok (.iconst 4, 1) := by decide +kernel
theorem d_Mod_feed_32 : decode b_Mod_feed 32 = .ok (.if_icmp .ge 7, 3) := by decide +kernel
theorem d_Mod_feed_39 : decode b_Mod_feed 39 = .ok (.iload 6, 2) := by decide +kernel
theorem d_Mod_feed_41 : decode b_Mod_feed 41 = .ok (.bipush 8, 2) := by decide +kernel
theorem d_Mod_feed_43 : decode b_Mod_feed 43 = .ok (.if_icmp .ge 7, 3) := by decide +kernel
theorem d_Mod_feed_50 : decode b_Mod_feed 50 = .ok (.iload 6, 2) := by decide +kernel
theorem d_Mod_feed_52 : decode b_Mod_feed 52 = .ok (.bipush 12, 2) := by decide +kernel
theorem d_Mod_feed_54 : decode b_Mod_feed 54 = .ok (.if_icmp .ge 7, 3) := by decide +kernel
theorem d_Mod_feed_61 : decode b_Mod_feed 61 = .ok (.iload 6, 2) := by decide +kernel
theorem d_Mod_feed_63 : decode b_Mod_feed 63 = .ok (.bipush 16, 2) := by decide +kernel
theorem d_Mod_feed_65 : decode b_Mod_feed 65 = .ok (.if_icmp .ge 8, 3) := by decide +kernel
theorem d_Mod_feed_73 : decode b_Mod_feed 73 = .ok (.iload 5, 2) := by decide +kernel
theorem d_Mod_feed_75 : decode b_Mod_feed 75 = .ok (.istore 7, 2) := by decide +kernel
theorem d_Mod_feed_77 : decode b_Mod_feed 77 = .ok (.aload_n 0, 1) := by decide +kernel
theorem d_Mod_feed_78 : decode b_Mod_feed 78 = .ok (.getfield 8, 3) := by decide +kernel
theorem d_Mod_feed_81 : decode b_Mod_feed 81 = .ok (.aload_n 0, 1) := by decide +kernel
theorem d_Mod_feed_82 : decode b_Mod_feed 82 = .ok (.getfield 364, 3) := by decide +kernel
theorem d_Mod_feed_85 : decode b_Mod_feed 85 = .ok (.iload 6, 2) := by decide +kernel
theorem d_Mod_feed_87 : decode b_Mod_feed 87 = .ok (.iadd, 1) := by decide +kernel
theorem d_Mod_feed_88 : decode b_Mod_feed 88 = .ok (.iload 7, 2) := by decide +kernel
theorem d_Mod_feed_90 : decode b_Mod_feed 90 = .ok (.bipush 24, 2) := by decide +kernel
theorem d_Mod_feed_92 : decode b_Mod_feed 92 = .ok (.bipush 8, 2) := by decide +kernel
theorem d_Mod_feed_94 : decode b_Mod_feed 94 = .ok (.iload 6, 2) := by decide +kernel
theorem d_Mod_feed_96 : decode b_Mod_feed 96 = .ok (.iconst 4, 1) := by decide +kernel
theorem d_Mod_feed_97 : decode b_Mod_feed 97 = .ok (.irem, 1) := by decide +kernel
theorem d_Mod_feed_98 : decode b_Mod_feed 98 = .ok (.imul, 1) := by decide +kernel
theorem d_Mod_feed_99 : decode b_Mod_feed 99 = .ok (.isub, 1) := by decide +kernel
theorem d_Mod_feed_100 : decode b_Mod_feed 100 = .ok (.ishr, 1) := by decide +kernel
theorem d_Mod_feed_101 : decode b_Mod_feed 101 = .ok (.sipush 255, 3) := by decide +kernel
theorem d_Mod_feed_104 : decode b_Mod_feed 104 = .ok (.iand, 1) := by decide +kernel
theorem d_Mod_feed_105 : decode b_Mod_feed 105 = .ok (.iastore, 1) := by decide +kernel
theorem d_Mod_feed_106 : decode b_Mod_feed 106 = .ok (.iinc 6 1, 3) := by decide +kernel
theorem d_Mod_feed_109 : decode b_Mod_feed 109 = .ok (.goto (-87), 3) := by decide +kernel
theorem d_Mod_feed_68 : decode b_Mod_feed 68 = .ok (.iload 4, 2) := by decide +kernel
theorem d_Mod_feed_70 : decode b_Mod_feed 70 = .ok (.goto 5, 3) := by decide +kernel
theorem d_Mod_feed_57 : decode b_Mod_feed 57 = .ok (.iload_n 3, 1) := by decide +kernel
theorem d_Mod_feed_58 : decode b_Mod_feed 58 = .ok (.goto 17, 3) := by decide +kernel
theorem d_Mod_feed_46 : decode b_Mod_feed 46 = .ok (.iload_n 2, 1) := by decide +kernel
theorem d_Mod_feed_47 : decode b_Mod_feed 47 = .ok (.goto 28, 3) := by decide +kernel
theorem d_Mod_feed_35 : decode b_Mod_feed 35 = .ok (.iload_n 1, 1) := by decide +kernel
theorem d_Mod_feed_36 : decode b_Mod_feed 36 = .ok (.goto 39, 3) := by decide +kernel
theorem d_Mod_feed_0 : decode b_Mod_feed 0 = .ok (.aload_n 0, 1) := by decide +kernel
theorem d_Mod_feed_1 : decode b_Mod_feed 1 = .ok (.iconst 0, 1) := by decide +kernel
theorem d_Mod_feed_2 : decode b_Mod_feed 2 = .ok (.putfield 360, 3) := by decide +kernel
theorem d_Mod_feed_5 : decode b_Mod_feed 5 = .ok (.aload_n 0, 1) := by decide +kernel
theorem d_Mod_feed_6 : decode b_Mod_feed 6 = .ok (.getfield 364, 3) := by decide +kernel
theorem d_Mod_feed_9 : decode b_Mod_feed 9 = .ok (.bipush 20, 2) := by decide +kernel
theorem d_Mod_feed_11 : decode b_Mod_feed 11 = .ok (.iadd, 1) := by decide +kernel
theorem d_Mod_feed_12 : decode b_Mod_feed 12 = .ok (.ldc 7, 2) := by decide +kernel
theorem d_Mod_feed_14 : decode b_Mod_feed 14 = .ok (.if_icmp .le 5, 3) := by decide +kernel
theorem d_Mod_feed_19 : decode b_Mod_feed 19 = .ok (.iconst 0, 1) := by decide +kernel
theorem d_Mod_feed_20 : decode b_Mod_feed 20 = .ok (.istore 6, 2) := by decide +kernel
theorem d_Mod_feed_112 : decode b_Mod_feed 112 = .ok (.aload_n 0, 1) := by decide +kernel
theorem d_Mod_feed_113 : decode b_Mod_feed 113 = .ok (.dup, 1) := by decide +kernel
theorem d_Mod_feed_114 : decode b_Mod_feed 114 = .ok (.getfield 364, 3) := by decide +kernel
theorem d_Mod_feed_117 : decode b_Mod_feed 117 = .ok (.bipush 20, 2) := by decide +kernel
theorem d_Mod_feed_119 : decode b_Mod_feed 119 = .ok (.iadd, 1) := by decide +kernel
theorem d_Mod_feed_120 : decode b_Mod_feed 120 = .ok (.putfield 364, 3) := by decide +kernel
theorem d_Mod_feed_123 : decode b_Mod_feed 123 = .ok (.iconst 1, 1) := by decide +kernel
theorem d_Mod_feed_124 : decode b_Mod_feed 124 = .ok (.ireturn, 1) := by decide +kernel
/-- the byte that feed lays at place i of its twenty -/
def fby (v1 v2 v3 v4 v5 : Int32) (i : Nat) : Int32 := ((if 4 ≤ nI i then (if 8 ≤ nI i then (if 12 ≤ nI i then (if 16 ≤ nI i then v5 else v4) else v3) else v2) else v1) >>> ((24 - (8 * (nI i - nI i / 4 * 4))) &&& 31)) &&& 255
def fedN (g : Nat → Int32) (x : Nat) (v1 v2 v3 v4 v5 : Int32) (i : Nat) : Nat → Int32 := fun j => if x ≤ j ∧ j < x + i then fby v1 v2 v3 v4 v5 (j - x) else g j
theorem fed_0 (g : Nat → Int32) (x : Nat) (v1 v2 v3 v4 v5 : Int32) : fedN g x v1 v2 v3 v4 v5 0 = g := by
  funext j
  rw [fedN, if_neg (by omega)]
theorem fed_step {g : Nat → Int32} {x i : Nat} {v1 v2 v3 v4 v5 y : Int32} (h : x + i < 2 ^ 31) (hy : y = fby v1 v2 v3 v4 v5 i) : upd (fedN g x v1 v2 v3 v4 v5 i) (((nI x) + (nI i)) : Int32).toNatClampNeg y = fedN g x v1 v2 v3 v4 v5 (i + 1) := by
  rw [nI_add, nI_clamp h, hy]
  funext j
  by_cases e : j = x + i
  · subst e
    rw [upd, if_pos rfl, fedN, if_pos (by omega), show x + i - x = i by omega]
  · rw [upd, if_neg e, fedN, fedN]
    by_cases q : x ≤ j ∧ j < x + i
    · rw [if_pos q, if_pos (by omega)]
    · rw [if_neg q, if_neg (by omega)]
theorem in_add {x i z : Nat} (h : x + i < z) (hz : z < 2 ^ 31) : vp_in ((nI x) + (nI i)) z := by
  rw [nI_add]
  exact vp_in_nI h (by omega)
section
variable (l : Launch) (dC : Nat → ClassId) (dI : Nat → Nat → Nat) (cI cB cJ cZ : ClassId)
set_option maxHeartbeats 4000000 in
set_option maxRecDepth 100000 in
/-- the model's look() at an empty text -/
theorem c_Mod_look_end (sz : Nat) (h : Nat) (F : List Value) (nF : F.length = 167) (gF_16 : F[16]? = some (.int 0)) (gF_15 : F[15]? = some (.int 0)) : Met l y_Mod_look (wsOf y_Mod_look b_Mod_look 1 (some (.int))) ({ frames := 0, cells := 0, slots := 0, locals := 0 }) (va_Pc [.ref h] (PC dC dI cI cB cJ cZ sz [(h, .inr (12, F))])) (va_Qi (fun (r : Int32) (_ : Unit) => r = (-1)) (fun _ t => va_P (dC, dI) CL [(h, .inr (12, F))] t.heap ∧ va_D (va_A [(h, .inr (12, F))] sz) [(h, .inr (12, F))]) (va_A [(h, .inr (12, F))] sz)) 0 0 (va_A [(h, .inr (12, F))] sz) := by
  refine Met.ofW (cc := b_Mod_look) (maxL := 1) (ret := some (.int)) (by decide) rfl ?_
  intro p e s m args below meth c s₁ B hml hv
  obtain ⟨rfl, hsz, hP, hK, hD0, hN⟩ := hv
  have hx := B.exec
  have hb := B.bytes
  have hr := B.returns
  have hts := atoms_spec B.pre
  have hT : ∀ w ∈ TG, w.before _ s = true := fun w h => hts w (List.mem_cons_of_mem _ h)
  have hown : s.vm.findClass R_Mod = some m.cls := findClass_of_methodNamed B.named
  have hlocks := B.notSynchronized
  subst hsz
  have hD := hD0.self (sz := s.heap.size)
  generalize hAe : va_A [(h, .inr (12, F))] s.heap.size = A at hD ⊢
  have hA : ∀ q : Nat, s.heap.size ≤ q → A q := fun q h => by rw [← hAe]; exact Or.inr h
  have hS : va_S A s.heap s.heap [] := va_S.rf
  have hl := lv_entry ([.ref h]) (n := 1) (Nat.le_of_ble_eq_true rfl)
  rw [lg_entry_eq]
  generalize (lg_sl ([.ref h]) ++ List.replicate (1 - (lg_sl ([.ref h])).length) Slot.unset).toArray = ls at hl ⊢
  have hl : lv_has ls 1 [(0, .ref h)] := hl
  refine lv_aload_n hx hb d_Mod_look_0 rfl (lv_at hl 0 rfl) ?_
  refine f_get (D := (dC, dI)) (ci := 12) (v := .int 0) (C := R_Mod) (T := F_Mod) (N := 167) hx hb hT in_Mod hown hK hP 0 rfl rfl 16 (by decide) fr_Mod_16 w_8_196 gF_16 d_Mod_look_1 ?_
  refine lv_aload_n hx hb d_Mod_look_4 rfl (lv_at hl 0 rfl) ?_
  refine f_get (D := (dC, dI)) (ci := 12) (v := .int 0) (C := R_Mod) (T := F_Mod) (N := 167) hx hb hT in_Mod hown hK hP 0 rfl rfl 15 (by decide) fr_Mod_15 w_8_195 gF_15 d_Mod_look_5 ?_
  refine lv_icmp_ge (tgt := 23) hx hb d_Mod_look_8 (by decide) (fun c1 => ?_) (fun c1 => by first | exact absurd c1 (by decide) | exact absurd (by decide) c1)
  refine lv_iconst (v := (-1)) hx hb d_Mod_look_23 (by decide) ?_
  exact W.iret (v := (-1)) hx hb hr (fun t ht hW => ⟨⟨(-1), (), rfl, rfl, by rw [ht]; exact hP, hD⟩, hS.F ht⟩) hS.2.2 d_Mod_look_24
set_option maxHeartbeats 4000000 in
set_option maxRecDepth 100000 in
/-- the model's blanks() at an empty text -/
theorem c_Mod_blanks_end (sz : Nat) (h : Nat) (F : List Value) (nF : F.length = 167) (gF_16 : F[16]? = some (.int 0)) (gF_15 : F[15]? = some (.int 0)) : Met l y_Mod_blanks (wsOf y_Mod_blanks b_Mod_blanks 1 none) ({ frames := 1, cells := 0, slots := 0, locals := 20 }) (va_Pc [.ref h] (PC dC dI cI cB cJ cZ sz [(h, .inr (12, F))])) (va_Qv (fun _ : Unit => True) (fun _ t => va_P (dC, dI) CL [(h, .inr (12, F))] t.heap ∧ va_D (va_A [(h, .inr (12, F))] sz) [(h, .inr (12, F))]) (va_A [(h, .inr (12, F))] sz)) 0 0 (va_A [(h, .inr (12, F))] sz) := by
  refine Met.ofW (cc := b_Mod_blanks) (maxL := 1) (ret := none) (by decide) rfl ?_
  intro p e s m args below meth c s₁ B hml hv
  obtain ⟨rfl, hsz, hP, hK, hD0, hN⟩ := hv
  have hx := B.exec
  have hb := B.bytes
  have hr := B.returns
  have hts := atoms_spec B.pre
  have hT : ∀ w ∈ TG, w.before _ s = true := fun w h => hts w (List.mem_cons_of_mem _ h)
  have hown : s.vm.findClass R_Mod = some m.cls := findClass_of_methodNamed B.named
  have hlocks := B.notSynchronized
  subst hsz
  have hD := hD0.self (sz := s.heap.size)
  generalize hAe : va_A [(h, .inr (12, F))] s.heap.size = A at hD ⊢
  have hA : ∀ q : Nat, s.heap.size ≤ q → A q := fun q h => by rw [← hAe]; exact Or.inr h
  have hS : va_S A s.heap s.heap [] := va_S.rf
  have hl := lv_entry ([.ref h]) (n := 1) (Nat.le_of_ble_eq_true rfl)
  rw [lg_entry_eq]
  generalize (lg_sl ([.ref h]) ++ List.replicate (1 - (lg_sl ([.ref h])).length) Slot.unset).toArray = ls at hl ⊢
  have hl : lv_has ls 1 [(0, .ref h)] := hl
  refine lv_aload_n hx hb d_Mod_blanks_0 rfl (lv_at hl 0 rfl) ?_
  have hPc := hP.sub (ws' := [(h, .inr (12, F))]) [0] rfl
  have hDc := hD.sub (ws' := [(h, .inr (12, F))]) [0] (by decide) rfl
  have hFc := va_free (wc := [(h, .inr (12, F))]) hD hS hA [0] rfl
  refine va_calli (va_runV (C := R_Mod) (As := []) (rest := []) ⟨hx, hb, hml, hown, hT⟩ (c_Mod_look_end l dC dI cI cB cJ cZ s.heap.size h F  nF gF_16 gF_15) ⟨callB_of 0 hT (gw_in w_10_238) rfl rfl rfl (hT _ w_1_15) (hT _ w_10_235) (by decide +kernel) ⟨Nat.le_of_ble_eq_true rfl, Nat.le_of_ble_eq_true rfl⟩, hT _ w_10_237, hT _ ws_113⟩ ⟨PC.blind, va_recv hK hPc (ci := 12) (q0 := 0) rfl rfl, PC.at _ hPc hDc hK hN⟩ rfl rfl hl.1 rfl (lv_room (Nat.le_of_ble_eq_true rfl)) d_Mod_blanks_1 ⟨show _ ≤ 0 by omega, show _ ≤ 0 by omega⟩) hS (fun q _ h => hFc q h) hFc (fun r1 u t H1 locs ht hvm hw hB hz1 hk1 hS => ?_)
  obtain ⟨hP1, hD1⟩ := hB
  have hw : (-1) = r1 := Eq.symm hw
  subst hw
  rw [ht] at hP1
  obtain ⟨hP, hD⟩ := va_join (wr := []) (w1 := [(h, .inr (12, F))]) hP hD [0] [] rfl rfl (by decide) (by decide) hk1 hFc hP1 hD1
  generalize H1 = H at hP hS ⊢
  have hP : va_P (dC, dI) CL [(h, .inr (12, F))] H := hP
  have hD : va_D A [(h, .inr (12, F))] := hD
  refine lv_bipush (v := 32) hx hb d_Mod_blanks_4 (by decide) ?_
  refine lv_icmp_eq (tgt := 18) hx hb d_Mod_blanks_6 (by decide) (fun c1 => by first | exact absurd c1 (by decide) | exact absurd (by decide) c1) (fun c1 => ?_)
  refine lv_aload_n hx hb d_Mod_blanks_9 rfl (lv_at hl 0 rfl) ?_
  have hPc := hP.sub (ws' := [(h, .inr (12, F))]) [0] rfl
  have hDc := hD.sub (ws' := [(h, .inr (12, F))]) [0] (by decide) rfl
  have hFc := va_free (wc := [(h, .inr (12, F))]) hD hS hA [0] rfl
  refine va_calli (va_runV (C := R_Mod) (As := []) (rest := []) ⟨hx, hb, hml, hown, hT⟩ (c_Mod_look_end l dC dI cI cB cJ cZ H.size h F  nF gF_16 gF_15) ⟨callB_of 0 hT (gw_in w_10_238) rfl rfl rfl (hT _ w_1_15) (hT _ w_10_235) (by decide +kernel) ⟨Nat.le_of_ble_eq_true rfl, Nat.le_of_ble_eq_true rfl⟩, hT _ w_10_237, hT _ ws_113⟩ ⟨PC.blind, va_recv hK hPc (ci := 12) (q0 := 0) rfl rfl, PC.at _ hPc hDc hK hN⟩ rfl rfl hl.1 rfl (lv_room (Nat.le_of_ble_eq_true rfl)) d_Mod_blanks_10 ⟨show _ ≤ 0 by omega, show _ ≤ 0 by omega⟩) hS (fun q _ h => hFc q h) hFc (fun r2 u t H1 locs ht hvm hw hB hz1 hk1 hS => ?_)
  obtain ⟨hP1, hD1⟩ := hB
  have hw : (-1) = r2 := Eq.symm hw
  subst hw
  rw [ht] at hP1
  obtain ⟨hP, hD⟩ := va_join (wr := []) (w1 := [(h, .inr (12, F))]) hP hD [0] [] rfl rfl (by decide) (by decide) hk1 hFc hP1 hD1
  generalize H1 = H at hP hS ⊢
  have hP : va_P (dC, dI) CL [(h, .inr (12, F))] H := hP
  have hD : va_D A [(h, .inr (12, F))] := hD
  refine lv_bipush (v := 10) hx hb d_Mod_blanks_13 (by decide) ?_
  refine lv_icmp_ne (tgt := 31) hx hb d_Mod_blanks_15 (by decide) (fun c1 => ?_) (fun c1 => by first | exact absurd c1 (by decide) | exact absurd (by decide) c1)
  exact W.vret hx hb hr (fun t ht hW => ⟨⟨(), rfl, trivial, by rw [ht]; exact hP, hD⟩, hS.F ht⟩) hS.2.2 d_Mod_blanks_31
set_option maxHeartbeats 4000000 in
set_option maxRecDepth 100000 in
/-- the model's wordAt(0) of an empty text -/
theorem c_Mod_wordAt_end (sz : Nat) (h : Nat) (F : List Value) (nF : F.length = 167) (gF_15 : F[15]? = some (.int 0)) : Met l y_Mod_wordAt (wsOf y_Mod_wordAt b_Mod_wordAt 3 (some (.int))) ({ frames := 0, cells := 0, slots := 0, locals := 0 }) (va_Pc [.ref h, .int 0] (PC dC dI cI cB cJ cZ sz [(h, .inr (12, F))])) (va_Qi (fun (r : Int32) (_ : Unit) => r = 0) (fun _ t => va_P (dC, dI) CL [(h, .inr (12, F))] t.heap ∧ va_D (va_A [(h, .inr (12, F))] sz) [(h, .inr (12, F))]) (va_A [(h, .inr (12, F))] sz)) 0 0 (va_A [(h, .inr (12, F))] sz) := by
  refine Met.ofW (cc := b_Mod_wordAt) (maxL := 3) (ret := some (.int)) (by decide) rfl ?_
  intro p e s m args below meth c s₁ B hml hv
  obtain ⟨rfl, hsz, hP, hK, hD0, hN⟩ := hv
  have hx := B.exec
  have hb := B.bytes
  have hr := B.returns
  have hts := atoms_spec B.pre
  have hT : ∀ w ∈ TG, w.before _ s = true := fun w h => hts w (List.mem_cons_of_mem _ h)
  have hown : s.vm.findClass R_Mod = some m.cls := findClass_of_methodNamed B.named
  have hlocks := B.notSynchronized
  subst hsz
  have hD := hD0.self (sz := s.heap.size)
  generalize hAe : va_A [(h, .inr (12, F))] s.heap.size = A at hD ⊢
  have hA : ∀ q : Nat, s.heap.size ≤ q → A q := fun q h => by rw [← hAe]; exact Or.inr h
  have hS : va_S A s.heap s.heap [] := va_S.rf
  have hl := lv_entry ([.ref h, .int 0]) (n := 3) (Nat.le_of_ble_eq_true rfl)
  rw [lg_entry_eq]
  generalize (lg_sl ([.ref h, .int 0]) ++ List.replicate (3 - (lg_sl ([.ref h, .int 0])).length) Slot.unset).toArray = ls at hl ⊢
  have hl : lv_has ls 3 [(0, .ref h), (1, .int 0)] := hl
  refine lv_iload_n hx hb d_Mod_wordAt_0 rfl (lv_at hl 1 rfl) ?_
  refine lv_istore_n (lv' := [(2, .int 0), (0, .ref h), (1, .int 0)]) hx hb d_Mod_wordAt_1 rfl hl (by decide) rfl (fun ls hl => ?_)
  refine lv_iload_n hx hb d_Mod_wordAt_2 rfl (lv_at hl 0 rfl) ?_
  refine lv_aload_n hx hb d_Mod_wordAt_3 rfl (lv_at hl 1 rfl) ?_
  refine f_get (D := (dC, dI)) (ci := 12) (v := .int 0) (C := R_Mod) (T := F_Mod) (N := 167) hx hb hT in_Mod hown hK hP 0 rfl rfl 15 (by decide) fr_Mod_15 w_8_195 gF_15 d_Mod_wordAt_4 ?_
  refine lv_icmp_ge (tgt := 56) hx hb d_Mod_wordAt_7 (by decide) (fun c1 => ?_) (fun c1 => by first | exact absurd c1 (by decide) | exact absurd (by decide) c1)
  refine lv_iload_n hx hb d_Mod_wordAt_56 rfl (lv_at hl 0 rfl) ?_
  refine lv_iload_n hx hb d_Mod_wordAt_57 rfl (lv_at hl 2 rfl) ?_
  refine lv_isub hx hb d_Mod_wordAt_58 ?_
  exact W.iret (v := (0 - 0)) hx hb hr (fun t ht hW => ⟨⟨(0 - 0), (), rfl, by decide, by rw [ht]; exact hP, hD⟩, hS.F ht⟩) hS.2.2 d_Mod_wordAt_59
set_option maxHeartbeats 4000000 in
set_option maxRecDepth 100000 in
/-- the model's wordOf(0) of an empty text -/
theorem c_Mod_wordOf_end (sz : Nat) (h : Nat) (F : List Value) (nF : F.length = 167) (gF_15 : F[15]? = some (.int 0)) : Met l y_Mod_wordOf (wsOf y_Mod_wordOf b_Mod_wordOf 6 (some (.long))) ({ frames := 1, cells := 0, slots := 0, locals := 22 }) (va_Pc [.ref h, .int 0] (PC dC dI cI cB cJ cZ sz [(h, .inr (12, F))])) (va_Ql (fun (r : Int64) (_ : Unit) => r = 0) (fun _ t => va_P (dC, dI) CL [(h, .inr (12, F))] t.heap ∧ va_D (va_A [(h, .inr (12, F))] sz) [(h, .inr (12, F))]) (va_A [(h, .inr (12, F))] sz)) 0 0 (va_A [(h, .inr (12, F))] sz) := by
  refine Met.ofW (cc := b_Mod_wordOf) (maxL := 6) (ret := some (.long)) (by decide) rfl ?_
  intro p e s m args below meth c s₁ B hml hv
  obtain ⟨rfl, hsz, hP, hK, hD0, hN⟩ := hv
  have hx := B.exec
  have hb := B.bytes
  have hr := B.returns
  have hts := atoms_spec B.pre
  have hT : ∀ w ∈ TG, w.before _ s = true := fun w h => hts w (List.mem_cons_of_mem _ h)
  have hown : s.vm.findClass R_Mod = some m.cls := findClass_of_methodNamed B.named
  have hlocks := B.notSynchronized
  subst hsz
  have hD := hD0.self (sz := s.heap.size)
  generalize hAe : va_A [(h, .inr (12, F))] s.heap.size = A at hD ⊢
  have hA : ∀ q : Nat, s.heap.size ≤ q → A q := fun q h => by rw [← hAe]; exact Or.inr h
  have hS : va_S A s.heap s.heap [] := va_S.rf
  have hl := lv_entry ([.ref h, .int 0]) (n := 6) (Nat.le_of_ble_eq_true rfl)
  rw [lg_entry_eq]
  generalize (lg_sl ([.ref h, .int 0]) ++ List.replicate (6 - (lg_sl ([.ref h, .int 0])).length) Slot.unset).toArray = ls at hl ⊢
  have hl : lv_has ls 6 [(0, .ref h), (1, .int 0)] := hl
  refine lv_aload_n hx hb d_Mod_wordOf_0 rfl (lv_at hl 0 rfl) ?_
  refine lv_iload_n hx hb d_Mod_wordOf_1 rfl (lv_at hl 1 rfl) ?_
  have hPc := hP.sub (ws' := [(h, .inr (12, F))]) [0] rfl
  have hDc := hD.sub (ws' := [(h, .inr (12, F))]) [0] (by decide) rfl
  have hFc := va_free (wc := [(h, .inr (12, F))]) hD hS hA [0] rfl
  refine va_calli (va_runV (C := R_Mod) (As := [.int 0]) (rest := []) ⟨hx, hb, hml, hown, hT⟩ (c_Mod_wordAt_end l dC dI cI cB cJ cZ s.heap.size h F  nF gF_15) ⟨callB_of 1 hT (gw_in w_11_6) rfl rfl rfl (hT _ w_1_15) (hT _ w_11_3) (by decide +kernel) ⟨Nat.le_of_ble_eq_true rfl, Nat.le_of_ble_eq_true rfl⟩, hT _ w_11_5, hT _ ws_115⟩ ⟨PC.blind, va_recv hK hPc (ci := 12) (q0 := 0) rfl rfl, PC.at _ hPc hDc hK hN⟩ rfl rfl hl.1 rfl (lv_room (Nat.le_of_ble_eq_true rfl)) d_Mod_wordOf_2 ⟨show _ ≤ 0 by omega, show _ ≤ 0 by omega⟩) hS (fun q _ h => hFc q h) hFc (fun r1 u t H1 locs ht hvm hw hB hz1 hk1 hS => ?_)
  obtain ⟨hP1, hD1⟩ := hB
  have hw : 0 = r1 := Eq.symm hw
  subst hw
  rw [ht] at hP1
  obtain ⟨hP, hD⟩ := va_join (wr := []) (w1 := [(h, .inr (12, F))]) hP hD [0] [] rfl rfl (by decide) (by decide) hk1 hFc hP1 hD1
  generalize H1 = H at hP hS ⊢
  have hP : va_P (dC, dI) CL [(h, .inr (12, F))] H := hP
  have hD : va_D A [(h, .inr (12, F))] := hD
  refine lv_istore_n (lv' := [(2, .int 0), (0, .ref h), (1, .int 0)]) hx hb d_Mod_wordOf_5 rfl hl (by decide) rfl (fun ls hl => ?_)
  refine lv_lconst (v := 0) hx hb d_Mod_wordOf_6 (by decide) ?_
  refine lv_lstore_n (lv' := [(3, .long 0), (2, .int 0), (0, .ref h), (1, .int 0)]) hx hb d_Mod_wordOf_7 rfl hl (by decide) rfl (fun ls hl => ?_)
  refine lv_iconst (v := 0) hx hb d_Mod_wordOf_8 (by decide) ?_
  refine lv_istore (lv' := [(5, .int 0), (3, .long 0), (2, .int 0), (0, .ref h), (1, .int 0)]) hx hb d_Mod_wordOf_9 hl (by decide) rfl (fun ls hl => ?_)
  refine lv_iload hx hb d_Mod_wordOf_11 (lv_at hl 0 rfl) ?_
  refine lv_iload_n hx hb d_Mod_wordOf_13 rfl (lv_at hl 2 rfl) ?_
  refine lv_icmp_ge (tgt := 39) hx hb d_Mod_wordOf_14 (by decide) (fun c1 => ?_) (fun c1 => by first | exact absurd c1 (by decide) | exact absurd (by decide) c1)
  refine lv_iload_n hx hb d_Mod_wordOf_39 rfl (lv_at hl 2 rfl) ?_
  refine lv_bipush (v := 8) hx hb d_Mod_wordOf_40 (by decide) ?_
  refine lv_icmp_le (tgt := 49) hx hb d_Mod_wordOf_42 (by decide) (fun c1 => ?_) (fun c1 => by first | exact absurd c1 (by decide) | exact absurd (by decide) c1)
  refine lv_lload_n hx hb d_Mod_wordOf_49 rfl (lv_at hl 1 rfl) ?_
  exact W.lret (v := 0) hx hb hr (fun t ht hW => ⟨⟨0, (), rfl, rfl, by rw [ht]; exact hP, hD⟩, hS.F ht⟩) hS.2.2 d_Mod_wordOf_50
set_option maxHeartbeats 4000000 in
set_option maxRecDepth 100000 in
/-- the model's sees(w) at an empty text -/
theorem c_Mod_sees_end (sz : Nat) (h : Nat) (F : List Value) (w : Int64) (nF : F.length = 167) (gF_16 : F[16]? = some (.int 0)) (gF_15 : F[15]? = some (.int 0)) (gF_17 : F[17]? = some (.int (-1))) (hw0 : ¬ lg_cmp 0 w = 0) : Met l y_Mod_sees (wsOf y_Mod_sees b_Mod_sees 3 (some (.boolean))) ({ frames := 2, cells := 0, slots := 0, locals := 47 }) (va_Pc [.ref h, .long w] (PC dC dI cI cB cJ cZ sz [(h, .inr (12, F))])) (va_Qi (fun (r : Int32) (_ : Unit) => r = 0) (fun _ t => va_P (dC, dI) CL [(h, .inr (12, F))] t.heap ∧ va_D (va_A [(h, .inr (12, F))] sz) [(h, .inr (12, F))]) (va_A [(h, .inr (12, F))] sz)) 0 0 (va_A [(h, .inr (12, F))] sz) := by
  refine Met.ofW (cc := b_Mod_sees) (maxL := 3) (ret := some (.boolean)) (by decide) rfl ?_
  intro p e s m args below meth c s₁ B hml hv
  obtain ⟨rfl, hsz, hP, hK, hD0, hN⟩ := hv
  have hx := B.exec
  have hb := B.bytes
  have hr := B.returns
  have hts := atoms_spec B.pre
  have hT : ∀ w ∈ TG, w.before _ s = true := fun w h => hts w (List.mem_cons_of_mem _ h)
  have hown : s.vm.findClass R_Mod = some m.cls := findClass_of_methodNamed B.named
  have hlocks := B.notSynchronized
  subst hsz
  have hD := hD0.self (sz := s.heap.size)
  generalize hAe : va_A [(h, .inr (12, F))] s.heap.size = A at hD ⊢
  have hA : ∀ q : Nat, s.heap.size ≤ q → A q := fun q h => by rw [← hAe]; exact Or.inr h
  have hS : va_S A s.heap s.heap [] := va_S.rf
  have hl := lv_entry ([.ref h, .long w]) (n := 3) (Nat.le_of_ble_eq_true rfl)
  rw [lg_entry_eq]
  generalize (lg_sl ([.ref h, .long w]) ++ List.replicate (3 - (lg_sl ([.ref h, .long w])).length) Slot.unset).toArray = ls at hl ⊢
  have hl : lv_has ls 3 [(0, .ref h), (1, .long w)] := hl
  refine lv_aload_n hx hb d_Mod_sees_0 rfl (lv_at hl 0 rfl) ?_
  have hPc := hP.sub (ws' := [(h, .inr (12, F))]) [0] rfl
  have hDc := hD.sub (ws' := [(h, .inr (12, F))]) [0] (by decide) rfl
  have hFc := va_free (wc := [(h, .inr (12, F))]) hD hS hA [0] rfl
  refine va_callv (va_runV (C := R_Mod) (As := []) (rest := []) ⟨hx, hb, hml, hown, hT⟩ (c_Mod_blanks_end l dC dI cI cB cJ cZ s.heap.size h F  nF gF_16 gF_15) ⟨callB_of 0 hT (gw_in w_10_234) rfl rfl rfl (hT _ w_1_15) (hT _ w_10_231) (by decide +kernel) ⟨Nat.le_of_ble_eq_true rfl, Nat.le_of_ble_eq_true rfl⟩, hT _ w_10_233, hT _ ws_112⟩ ⟨PC.blind, va_recv hK hPc (ci := 12) (q0 := 0) rfl rfl, PC.at _ hPc hDc hK hN⟩ rfl rfl hl.1 rfl (lv_room (Nat.le_of_ble_eq_true rfl)) d_Mod_sees_1 ⟨show _ ≤ 0 by omega, show _ ≤ 0 by omega⟩) hS (fun q _ h => hFc q h) hFc (fun  u t H1 locs ht hvm hw hB hz1 hk1 hS => ?_)
  obtain ⟨hP1, hD1⟩ := hB
  rw [ht] at hP1
  obtain ⟨hP, hD⟩ := va_join (wr := []) (w1 := [(h, .inr (12, F))]) hP hD [0] [] rfl rfl (by decide) (by decide) hk1 hFc hP1 hD1
  generalize H1 = H at hP hS ⊢
  have hP : va_P (dC, dI) CL [(h, .inr (12, F))] H := hP
  have hD : va_D A [(h, .inr (12, F))] := hD
  refine lv_aload_n hx hb d_Mod_sees_4 rfl (lv_at hl 0 rfl) ?_
  refine f_get (D := (dC, dI)) (ci := 12) (v := .int (-1)) (C := R_Mod) (T := F_Mod) (N := 167) hx hb hT in_Mod hown hK hP 0 rfl rfl 17 (by decide) fr_Mod_17 w_8_197 gF_17 d_Mod_sees_5 ?_
  refine lv_iconst (v := (-1)) hx hb d_Mod_sees_8 (by decide) ?_
  refine lv_icmp_ne (tgt := 29) hx hb d_Mod_sees_9 (by decide) (fun c1 => by first | exact absurd c1 (by decide) | exact absurd (by decide) c1) (fun c1 => ?_)
  refine lv_aload_n hx hb d_Mod_sees_12 rfl (lv_at hl 0 rfl) ?_
  refine lv_aload_n hx hb d_Mod_sees_13 rfl (lv_at hl 0 rfl) ?_
  refine f_get (D := (dC, dI)) (ci := 12) (v := .int 0) (C := R_Mod) (T := F_Mod) (N := 167) hx hb hT in_Mod hown hK hP 0 rfl rfl 16 (by decide) fr_Mod_16 w_8_196 gF_16 d_Mod_sees_14 ?_
  have hPc := hP.sub (ws' := [(h, .inr (12, F))]) [0] rfl
  have hDc := hD.sub (ws' := [(h, .inr (12, F))]) [0] (by decide) rfl
  have hFc := va_free (wc := [(h, .inr (12, F))]) hD hS hA [0] rfl
  refine va_calll (va_runV (C := R_Mod) (As := [.int 0]) (rest := []) ⟨hx, hb, hml, hown, hT⟩ (c_Mod_wordOf_end l dC dI cI cB cJ cZ H.size h F  nF gF_15) ⟨callB_of 1 hT (gw_in w_11_2) rfl rfl rfl (hT _ w_1_15) (hT _ w_10_239) (by decide +kernel) ⟨Nat.le_of_ble_eq_true rfl, Nat.le_of_ble_eq_true rfl⟩, hT _ w_11_1, hT _ ws_114⟩ ⟨PC.blind, va_recv hK hPc (ci := 12) (q0 := 0) rfl rfl, PC.at _ hPc hDc hK hN⟩ rfl rfl hl.1 rfl (lv_room (Nat.le_of_ble_eq_true rfl)) d_Mod_sees_17 ⟨show _ ≤ 0 by omega, show _ ≤ 0 by omega⟩) hS (fun q _ h => hFc q h) hFc (fun r1 u t H1 locs ht hvm hw hB hz1 hk1 hS => ?_)
  obtain ⟨hP1, hD1⟩ := hB
  have hw : 0 = r1 := Eq.symm hw
  subst hw
  rw [ht] at hP1
  obtain ⟨hP, hD⟩ := va_join (wr := []) (w1 := [(h, .inr (12, F))]) hP hD [0] [] rfl rfl (by decide) (by decide) hk1 hFc hP1 hD1
  generalize H1 = H at hP hS ⊢
  have hP : va_P (dC, dI) CL [(h, .inr (12, F))] H := hP
  have hD : va_D A [(h, .inr (12, F))] := hD
  refine lv_lload_n hx hb d_Mod_sees_20 rfl (lv_at hl 1 rfl) ?_
  refine W.lcmp hx hb d_Mod_sees_21 ?_
  refine lv_if_ne (tgt := 29) hx hb d_Mod_sees_22 (by decide) (fun c1 => ?_) (fun c1 => by first | exact absurd c1 hw0 | exact absurd hw0 c1)
  refine lv_iconst (v := 0) hx hb d_Mod_sees_29 (by decide) ?_
  exact W.zret (v := 0) (ty := .boolean) hx hb hr rfl (fun t ht hW => ⟨⟨0, (), rfl, rfl, by rw [ht]; exact hP, hD⟩, hS.F ht⟩) hS.2.2 d_Mod_sees_30
set_option maxHeartbeats 4000000 in
set_option maxRecDepth 100000 in
/-- the model's sees(w), refused at 0 -/
theorem c_Mod_sees_ill (sz : Nat) (h : Nat) (F : List Value) (w : Int64) (nF : F.length = 167) (gF_16 : F[16]? = some (.int 0)) (gF_15 : F[15]? = some (.int 0)) (gF_17 : F[17]? = some (.int 0)) : Met l y_Mod_sees (wsOf y_Mod_sees b_Mod_sees 3 (some (.boolean))) ({ frames := 2, cells := 0, slots := 0, locals := 40 }) (va_Pc [.ref h, .long w] (PC dC dI cI cB cJ cZ sz [(h, .inr (12, F))])) (va_Qi (fun (r : Int32) (_ : Unit) => r = 0) (fun _ t => va_P (dC, dI) CL [(h, .inr (12, F))] t.heap ∧ va_D (va_A [(h, .inr (12, F))] sz) [(h, .inr (12, F))]) (va_A [(h, .inr (12, F))] sz)) 0 0 (va_A [(h, .inr (12, F))] sz) := by
  refine Met.ofW (cc := b_Mod_sees) (maxL := 3) (ret := some (.boolean)) (by decide) rfl ?_
  intro p e s m args below meth c s₁ B hml hv
  obtain ⟨rfl, hsz, hP, hK, hD0, hN⟩ := hv
  have hx := B.exec
  have hb := B.bytes
  have hr := B.returns
  have hts := atoms_spec B.pre
  have hT : ∀ w ∈ TG, w.before _ s = true := fun w h => hts w (List.mem_cons_of_mem _ h)
  have hown : s.vm.findClass R_Mod = some m.cls := findClass_of_methodNamed B.named
  have hlocks := B.notSynchronized
  subst hsz
  have hD := hD0.self (sz := s.heap.size)
  generalize hAe : va_A [(h, .inr (12, F))] s.heap.size = A at hD ⊢
  have hA : ∀ q : Nat, s.heap.size ≤ q → A q := fun q h => by rw [← hAe]; exact Or.inr h
  have hS : va_S A s.heap s.heap [] := va_S.rf
  have hl := lv_entry ([.ref h, .long w]) (n := 3) (Nat.le_of_ble_eq_true rfl)
  rw [lg_entry_eq]
  generalize (lg_sl ([.ref h, .long w]) ++ List.replicate (3 - (lg_sl ([.ref h, .long w])).length) Slot.unset).toArray = ls at hl ⊢
  have hl : lv_has ls 3 [(0, .ref h), (1, .long w)] := hl
  refine lv_aload_n hx hb d_Mod_sees_0 rfl (lv_at hl 0 rfl) ?_
  have hPc := hP.sub (ws' := [(h, .inr (12, F))]) [0] rfl
  have hDc := hD.sub (ws' := [(h, .inr (12, F))]) [0] (by decide) rfl
  have hFc := va_free (wc := [(h, .inr (12, F))]) hD hS hA [0] rfl
  refine va_callv (va_runV (C := R_Mod) (As := []) (rest := []) ⟨hx, hb, hml, hown, hT⟩ (c_Mod_blanks_end l dC dI cI cB cJ cZ s.heap.size h F  nF gF_16 gF_15) ⟨callB_of 0 hT (gw_in w_10_234) rfl rfl rfl (hT _ w_1_15) (hT _ w_10_231) (by decide +kernel) ⟨Nat.le_of_ble_eq_true rfl, Nat.le_of_ble_eq_true rfl⟩, hT _ w_10_233, hT _ ws_112⟩ ⟨PC.blind, va_recv hK hPc (ci := 12) (q0 := 0) rfl rfl, PC.at _ hPc hDc hK hN⟩ rfl rfl hl.1 rfl (lv_room (Nat.le_of_ble_eq_true rfl)) d_Mod_sees_1 ⟨show _ ≤ 0 by omega, show _ ≤ 0 by omega⟩) hS (fun q _ h => hFc q h) hFc (fun  u t H1 locs ht hvm hw hB hz1 hk1 hS => ?_)
  obtain ⟨hP1, hD1⟩ := hB
  rw [ht] at hP1
  obtain ⟨hP, hD⟩ := va_join (wr := []) (w1 := [(h, .inr (12, F))]) hP hD [0] [] rfl rfl (by decide) (by decide) hk1 hFc hP1 hD1
  generalize H1 = H at hP hS ⊢
  have hP : va_P (dC, dI) CL [(h, .inr (12, F))] H := hP
  have hD : va_D A [(h, .inr (12, F))] := hD
  refine lv_aload_n hx hb d_Mod_sees_4 rfl (lv_at hl 0 rfl) ?_
  refine f_get (D := (dC, dI)) (ci := 12) (v := .int 0) (C := R_Mod) (T := F_Mod) (N := 167) hx hb hT in_Mod hown hK hP 0 rfl rfl 17 (by decide) fr_Mod_17 w_8_197 gF_17 d_Mod_sees_5 ?_
  refine lv_iconst (v := (-1)) hx hb d_Mod_sees_8 (by decide) ?_
  refine lv_icmp_ne (tgt := 29) hx hb d_Mod_sees_9 (by decide) (fun c1 => ?_) (fun c1 => by first | exact absurd c1 (by decide) | exact absurd (by decide) c1)
  refine lv_iconst (v := 0) hx hb d_Mod_sees_29 (by decide) ?_
  exact W.zret (v := 0) (ty := .boolean) hx hb hr rfl (fun t ht hW => ⟨⟨0, (), rfl, rfl, by rw [ht]; exact hP, hD⟩, hS.F ht⟩) hS.2.2 d_Mod_sees_30
set_option maxHeartbeats 4000000 in
set_option maxRecDepth 100000 in
/-- the model's takesWord(w) at an empty text -/
theorem c_Mod_takesWord_end (sz : Nat) (h : Nat) (F : List Value) (w : Int64) (nF : F.length = 167) (gF_16 : F[16]? = some (.int 0)) (gF_15 : F[15]? = some (.int 0)) (gF_17 : F[17]? = some (.int (-1))) (hw0 : ¬ lg_cmp 0 w = 0) : Met l y_Mod_takesWord (wsOf y_Mod_takesWord b_Mod_takesWord 3 (some (.boolean))) ({ frames := 3, cells := 0, slots := 0, locals := 69 }) (va_Pc [.ref h, .long w] (PC dC dI cI cB cJ cZ sz [(h, .inr (12, F))])) (va_Qi (fun (r : Int32) (_ : Unit) => r = 0) (fun _ t => va_P (dC, dI) CL [(h, .inr (12, F))] t.heap ∧ va_D (va_A [(h, .inr (12, F))] sz) [(h, .inr (12, F))]) (va_A [(h, .inr (12, F))] sz)) 0 0 (va_A [(h, .inr (12, F))] sz) := by
  refine Met.ofW (cc := b_Mod_takesWord) (maxL := 3) (ret := some (.boolean)) (by decide) rfl ?_
  intro p e s m args below meth c s₁ B hml hv
  obtain ⟨rfl, hsz, hP, hK, hD0, hN⟩ := hv
  have hx := B.exec
  have hb := B.bytes
  have hr := B.returns
  have hts := atoms_spec B.pre
  have hT : ∀ w ∈ TG, w.before _ s = true := fun w h => hts w (List.mem_cons_of_mem _ h)
  have hown : s.vm.findClass R_Mod = some m.cls := findClass_of_methodNamed B.named
  have hlocks := B.notSynchronized
  subst hsz
  have hD := hD0.self (sz := s.heap.size)
  generalize hAe : va_A [(h, .inr (12, F))] s.heap.size = A at hD ⊢
  have hA : ∀ q : Nat, s.heap.size ≤ q → A q := fun q h => by rw [← hAe]; exact Or.inr h
  have hS : va_S A s.heap s.heap [] := va_S.rf
  have hl := lv_entry ([.ref h, .long w]) (n := 3) (Nat.le_of_ble_eq_true rfl)
  rw [lg_entry_eq]
  generalize (lg_sl ([.ref h, .long w]) ++ List.replicate (3 - (lg_sl ([.ref h, .long w])).length) Slot.unset).toArray = ls at hl ⊢
  have hl : lv_has ls 3 [(0, .ref h), (1, .long w)] := hl
  refine lv_aload_n hx hb d_Mod_takesWord_0 rfl (lv_at hl 0 rfl) ?_
  refine lv_lload_n hx hb d_Mod_takesWord_1 rfl (lv_at hl 1 rfl) ?_
  have hPc := hP.sub (ws' := [(h, .inr (12, F))]) [0] rfl
  have hDc := hD.sub (ws' := [(h, .inr (12, F))]) [0] (by decide) rfl
  have hFc := va_free (wc := [(h, .inr (12, F))]) hD hS hA [0] rfl
  refine va_calli (va_runV (C := R_Mod) (As := [.long w]) (rest := []) ⟨hx, hb, hml, hown, hT⟩ (c_Mod_sees_end l dC dI cI cB cJ cZ s.heap.size h F w nF gF_16 gF_15 gF_17 hw0) ⟨callB_of 1 hT (gw_in w_10_230) rfl rfl rfl (hT _ w_1_15) (hT _ w_10_227) (by decide +kernel) ⟨Nat.le_of_ble_eq_true rfl, Nat.le_of_ble_eq_true rfl⟩, hT _ w_10_229, hT _ ws_111⟩ ⟨PC.blind, va_recv hK hPc (ci := 12) (q0 := 0) rfl rfl, PC.at _ hPc hDc hK hN⟩ rfl rfl hl.1 rfl (lv_room (Nat.le_of_ble_eq_true rfl)) d_Mod_takesWord_2 ⟨show _ ≤ 0 by omega, show _ ≤ 0 by omega⟩) hS (fun q _ h => hFc q h) hFc (fun r1 u t H1 locs ht hvm hw hB hz1 hk1 hS => ?_)
  obtain ⟨hP1, hD1⟩ := hB
  have hw : 0 = r1 := Eq.symm hw
  subst hw
  rw [ht] at hP1
  obtain ⟨hP, hD⟩ := va_join (wr := []) (w1 := [(h, .inr (12, F))]) hP hD [0] [] rfl rfl (by decide) (by decide) hk1 hFc hP1 hD1
  generalize H1 = H at hP hS ⊢
  have hP : va_P (dC, dI) CL [(h, .inr (12, F))] H := hP
  have hD : va_D A [(h, .inr (12, F))] := hD
  refine lv_if_ne (tgt := 10) hx hb d_Mod_takesWord_5 (by decide) (fun c1 => by first | exact absurd c1 (by decide) | exact absurd (by decide) c1) (fun c1 => ?_)
  refine lv_iconst (v := 0) hx hb d_Mod_takesWord_8 (by decide) ?_
  exact W.zret (v := 0) (ty := .boolean) hx hb hr rfl (fun t ht hW => ⟨⟨0, (), rfl, rfl, by rw [ht]; exact hP, hD⟩, hS.F ht⟩) hS.2.2 d_Mod_takesWord_9
set_option maxHeartbeats 4000000 in
set_option maxRecDepth 100000 in
/-- the model's takesWord(w), refused at 0 -/
theorem c_Mod_takesWord_ill (sz : Nat) (h : Nat) (F : List Value) (w : Int64) (nF : F.length = 167) (gF_16 : F[16]? = some (.int 0)) (gF_15 : F[15]? = some (.int 0)) (gF_17 : F[17]? = some (.int 0)) : Met l y_Mod_takesWord (wsOf y_Mod_takesWord b_Mod_takesWord 3 (some (.boolean))) ({ frames := 3, cells := 0, slots := 0, locals := 62 }) (va_Pc [.ref h, .long w] (PC dC dI cI cB cJ cZ sz [(h, .inr (12, F))])) (va_Qi (fun (r : Int32) (_ : Unit) => r = 0) (fun _ t => va_P (dC, dI) CL [(h, .inr (12, F))] t.heap ∧ va_D (va_A [(h, .inr (12, F))] sz) [(h, .inr (12, F))]) (va_A [(h, .inr (12, F))] sz)) 0 0 (va_A [(h, .inr (12, F))] sz) := by
  refine Met.ofW (cc := b_Mod_takesWord) (maxL := 3) (ret := some (.boolean)) (by decide) rfl ?_
  intro p e s m args below meth c s₁ B hml hv
  obtain ⟨rfl, hsz, hP, hK, hD0, hN⟩ := hv
  have hx := B.exec
  have hb := B.bytes
  have hr := B.returns
  have hts := atoms_spec B.pre
  have hT : ∀ w ∈ TG, w.before _ s = true := fun w h => hts w (List.mem_cons_of_mem _ h)
  have hown : s.vm.findClass R_Mod = some m.cls := findClass_of_methodNamed B.named
  have hlocks := B.notSynchronized
  subst hsz
  have hD := hD0.self (sz := s.heap.size)
  generalize hAe : va_A [(h, .inr (12, F))] s.heap.size = A at hD ⊢
  have hA : ∀ q : Nat, s.heap.size ≤ q → A q := fun q h => by rw [← hAe]; exact Or.inr h
  have hS : va_S A s.heap s.heap [] := va_S.rf
  have hl := lv_entry ([.ref h, .long w]) (n := 3) (Nat.le_of_ble_eq_true rfl)
  rw [lg_entry_eq]
  generalize (lg_sl ([.ref h, .long w]) ++ List.replicate (3 - (lg_sl ([.ref h, .long w])).length) Slot.unset).toArray = ls at hl ⊢
  have hl : lv_has ls 3 [(0, .ref h), (1, .long w)] := hl
  refine lv_aload_n hx hb d_Mod_takesWord_0 rfl (lv_at hl 0 rfl) ?_
  refine lv_lload_n hx hb d_Mod_takesWord_1 rfl (lv_at hl 1 rfl) ?_
  have hPc := hP.sub (ws' := [(h, .inr (12, F))]) [0] rfl
  have hDc := hD.sub (ws' := [(h, .inr (12, F))]) [0] (by decide) rfl
  have hFc := va_free (wc := [(h, .inr (12, F))]) hD hS hA [0] rfl
  refine va_calli (va_runV (C := R_Mod) (As := [.long w]) (rest := []) ⟨hx, hb, hml, hown, hT⟩ (c_Mod_sees_ill l dC dI cI cB cJ cZ s.heap.size h F w nF gF_16 gF_15 gF_17) ⟨callB_of 1 hT (gw_in w_10_230) rfl rfl rfl (hT _ w_1_15) (hT _ w_10_227) (by decide +kernel) ⟨Nat.le_of_ble_eq_true rfl, Nat.le_of_ble_eq_true rfl⟩, hT _ w_10_229, hT _ ws_111⟩ ⟨PC.blind, va_recv hK hPc (ci := 12) (q0 := 0) rfl rfl, PC.at _ hPc hDc hK hN⟩ rfl rfl hl.1 rfl (lv_room (Nat.le_of_ble_eq_true rfl)) d_Mod_takesWord_2 ⟨show _ ≤ 0 by omega, show _ ≤ 0 by omega⟩) hS (fun q _ h => hFc q h) hFc (fun r1 u t H1 locs ht hvm hw hB hz1 hk1 hS => ?_)
  obtain ⟨hP1, hD1⟩ := hB
  have hw : 0 = r1 := Eq.symm hw
  subst hw
  rw [ht] at hP1
  obtain ⟨hP, hD⟩ := va_join (wr := []) (w1 := [(h, .inr (12, F))]) hP hD [0] [] rfl rfl (by decide) (by decide) hk1 hFc hP1 hD1
  generalize H1 = H at hP hS ⊢
  have hP : va_P (dC, dI) CL [(h, .inr (12, F))] H := hP
  have hD : va_D A [(h, .inr (12, F))] := hD
  refine lv_if_ne (tgt := 10) hx hb d_Mod_takesWord_5 (by decide) (fun c1 => by first | exact absurd c1 (by decide) | exact absurd (by decide) c1) (fun c1 => ?_)
  refine lv_iconst (v := 0) hx hb d_Mod_takesWord_8 (by decide) ?_
  exact W.zret (v := 0) (ty := .boolean) hx hb hr rfl (fun t ht hW => ⟨⟨0, (), rfl, rfl, by rw [ht]; exact hP, hD⟩, hS.F ht⟩) hS.2.2 d_Mod_takesWord_9
set_option maxHeartbeats 4000000 in
set_option maxRecDepth 100000 in
/-- the model's fail(k), the first -/
theorem c_Mod_fail_first (sz : Nat) (h : Nat) (F : List Value) (k : Int32) (nF : F.length = 167) (gF_17 : F[17]? = some (.int (-1))) : Met l y_Mod_fail (wsOf y_Mod_fail b_Mod_fail 2 none) ({ frames := 0, cells := 0, slots := 0, locals := 0 }) (va_Pc [.ref h, .int k] (PC dC dI cI cB cJ cZ sz [(h, .inr (12, F))])) (va_Qv (fun _ : Unit => True) (fun _ t => va_P (dC, dI) CL [(h, .inr (12, F.set 17 (.int k)))] t.heap ∧ va_D (va_A [(h, .inr (12, F))] sz) [(h, .inr (12, F.set 17 (.int k)))]) (va_A [(h, .inr (12, F))] sz)) 0 0 (va_A [(h, .inr (12, F))] sz) := by
  refine Met.ofW (cc := b_Mod_fail) (maxL := 2) (ret := none) (by decide) rfl ?_
  intro p e s m args below meth c s₁ B hml hv
  obtain ⟨rfl, hsz, hP, hK, hD0, hN⟩ := hv
  have hx := B.exec
  have hb := B.bytes
  have hr := B.returns
  have hts := atoms_spec B.pre
  have hT : ∀ w ∈ TG, w.before _ s = true := fun w h => hts w (List.mem_cons_of_mem _ h)
  have hown : s.vm.findClass R_Mod = some m.cls := findClass_of_methodNamed B.named
  have hlocks := B.notSynchronized
  subst hsz
  have hD := hD0.self (sz := s.heap.size)
  generalize hAe : va_A [(h, .inr (12, F))] s.heap.size = A at hD ⊢
  have hA : ∀ q : Nat, s.heap.size ≤ q → A q := fun q h => by rw [← hAe]; exact Or.inr h
  have hS : va_S A s.heap s.heap [] := va_S.rf
  have hl := lv_entry ([.ref h, .int k]) (n := 2) (Nat.le_of_ble_eq_true rfl)
  rw [lg_entry_eq]
  generalize (lg_sl ([.ref h, .int k]) ++ List.replicate (2 - (lg_sl ([.ref h, .int k])).length) Slot.unset).toArray = ls at hl ⊢
  have hl : lv_has ls 2 [(0, .ref h), (1, .int k)] := hl
  refine lv_aload_n hx hb d_Mod_fail_0 rfl (lv_at hl 0 rfl) ?_
  refine f_get (D := (dC, dI)) (ci := 12) (v := .int (-1)) (C := R_Mod) (T := F_Mod) (N := 167) hx hb hT in_Mod hown hK hP 0 rfl rfl 17 (by decide) fr_Mod_17 w_8_197 gF_17 d_Mod_fail_1 ?_
  refine lv_iconst (v := (-1)) hx hb d_Mod_fail_4 (by decide) ?_
  refine lv_icmp_ne (tgt := 13) hx hb d_Mod_fail_5 (by decide) (fun c1 => by first | exact absurd c1 (by decide) | exact absurd (by decide) c1) (fun c1 => ?_)
  refine lv_aload_n hx hb d_Mod_fail_8 rfl (lv_at hl 0 rfl) ?_
  refine lv_iload_n hx hb d_Mod_fail_9 rfl (lv_at hl 1 rfl) ?_
  refine f_put (D := (dC, dI)) (ci := 12) (v := .int k) (ty := .int) (C := R_Mod) (T := F_Mod) (N := 167) hx hb hT in_Mod t_Mod t_Mod_ok n_Mod hown hK hP hD hS 0 rfl rfl 17 (by decide) fr_Mod_17 w_8_197 (by decide +kernel) rfl rfl (by rw [nF]; decide) d_Mod_fail_10 (fun H locs hP hD hS => ?_)
  have hP : va_P (dC, dI) CL [(h, .inr (12, F.set 17 (.int k)))] H := hP
  have hD : va_D A [(h, .inr (12, F.set 17 (.int k)))] := hD
  exact W.vret hx hb hr (fun t ht hW => ⟨⟨(), rfl, trivial, by rw [ht]; exact hP, hD⟩, hS.F ht⟩) hS.2.2 d_Mod_fail_13
set_option maxHeartbeats 4000000 in
set_option maxRecDepth 100000 in
/-- the model's fail(k), refused at 0 -/
theorem c_Mod_fail_more (sz : Nat) (h : Nat) (F : List Value) (k : Int32) (nF : F.length = 167) (gF_17 : F[17]? = some (.int 0)) : Met l y_Mod_fail (wsOf y_Mod_fail b_Mod_fail 2 none) ({ frames := 0, cells := 0, slots := 0, locals := 0 }) (va_Pc [.ref h, .int k] (PC dC dI cI cB cJ cZ sz [(h, .inr (12, F))])) (va_Qv (fun _ : Unit => True) (fun _ t => va_P (dC, dI) CL [(h, .inr (12, F))] t.heap ∧ va_D (va_A [(h, .inr (12, F))] sz) [(h, .inr (12, F))]) (va_A [(h, .inr (12, F))] sz)) 0 0 (va_A [(h, .inr (12, F))] sz) := by
  refine Met.ofW (cc := b_Mod_fail) (maxL := 2) (ret := none) (by decide) rfl ?_
  intro p e s m args below meth c s₁ B hml hv
  obtain ⟨rfl, hsz, hP, hK, hD0, hN⟩ := hv
  have hx := B.exec
  have hb := B.bytes
  have hr := B.returns
  have hts := atoms_spec B.pre
  have hT : ∀ w ∈ TG, w.before _ s = true := fun w h => hts w (List.mem_cons_of_mem _ h)
  have hown : s.vm.findClass R_Mod = some m.cls := findClass_of_methodNamed B.named
  have hlocks := B.notSynchronized
  subst hsz
  have hD := hD0.self (sz := s.heap.size)
  generalize hAe : va_A [(h, .inr (12, F))] s.heap.size = A at hD ⊢
  have hA : ∀ q : Nat, s.heap.size ≤ q → A q := fun q h => by rw [← hAe]; exact Or.inr h
  have hS : va_S A s.heap s.heap [] := va_S.rf
  have hl := lv_entry ([.ref h, .int k]) (n := 2) (Nat.le_of_ble_eq_true rfl)
  rw [lg_entry_eq]
  generalize (lg_sl ([.ref h, .int k]) ++ List.replicate (2 - (lg_sl ([.ref h, .int k])).length) Slot.unset).toArray = ls at hl ⊢
  have hl : lv_has ls 2 [(0, .ref h), (1, .int k)] := hl
  refine lv_aload_n hx hb d_Mod_fail_0 rfl (lv_at hl 0 rfl) ?_
  refine f_get (D := (dC, dI)) (ci := 12) (v := .int 0) (C := R_Mod) (T := F_Mod) (N := 167) hx hb hT in_Mod hown hK hP 0 rfl rfl 17 (by decide) fr_Mod_17 w_8_197 gF_17 d_Mod_fail_1 ?_
  refine lv_iconst (v := (-1)) hx hb d_Mod_fail_4 (by decide) ?_
  refine lv_icmp_ne (tgt := 13) hx hb d_Mod_fail_5 (by decide) (fun c1 => ?_) (fun c1 => by first | exact absurd c1 (by decide) | exact absurd (by decide) c1)
  exact W.vret hx hb hr (fun t ht hW => ⟨⟨(), rfl, trivial, by rw [ht]; exact hP, hD⟩, hS.F ht⟩) hS.2.2 d_Mod_fail_13
set_option maxHeartbeats 4000000 in
set_option maxRecDepth 100000 in
/-- the model's readField of an empty text -/
theorem c_Mod_readField_end (sz : Nat) (h : Nat) (F : List Value) (nF : F.length = 167) (gF_16 : F[16]? = some (.int 0)) (gF_15 : F[15]? = some (.int 0)) (gF_17 : F[17]? = some (.int (-1))) : Met l y_Mod_readField (wsOf y_Mod_readField b_Mod_readField 6 none) ({ frames := 4, cells := 0, slots := 0, locals := 91 }) (va_Pc [.ref h, .int (-1)] (PC dC dI cI cB cJ cZ sz [(h, .inr (12, F))])) (va_Qv (fun _ : Unit => True) (fun _ t => va_P (dC, dI) CL [(h, .inr (12, F.set 17 (.int 0)))] t.heap ∧ va_D (va_A [(h, .inr (12, F))] sz) [(h, .inr (12, F.set 17 (.int 0)))]) (va_A [(h, .inr (12, F))] sz)) 0 0 (va_A [(h, .inr (12, F))] sz) := by
  refine Met.ofW (cc := b_Mod_readField) (maxL := 6) (ret := none) (by decide) rfl ?_
  intro p e s m args below meth c s₁ B hml hv
  obtain ⟨rfl, hsz, hP, hK, hD0, hN⟩ := hv
  have hx := B.exec
  have hb := B.bytes
  have hr := B.returns
  have hts := atoms_spec B.pre
  have hT : ∀ w ∈ TG, w.before _ s = true := fun w h => hts w (List.mem_cons_of_mem _ h)
  have hown : s.vm.findClass R_Mod = some m.cls := findClass_of_methodNamed B.named
  have hlocks := B.notSynchronized
  subst hsz
  have hD := hD0.self (sz := s.heap.size)
  generalize hAe : va_A [(h, .inr (12, F))] s.heap.size = A at hD ⊢
  have hA : ∀ q : Nat, s.heap.size ≤ q → A q := fun q h => by rw [← hAe]; exact Or.inr h
  have hS : va_S A s.heap s.heap [] := va_S.rf
  have hl := lv_entry ([.ref h, .int (-1)]) (n := 6) (Nat.le_of_ble_eq_true rfl)
  rw [lg_entry_eq]
  generalize (lg_sl ([.ref h, .int (-1)]) ++ List.replicate (6 - (lg_sl ([.ref h, .int (-1)])).length) Slot.unset).toArray = ls at hl ⊢
  have hl : lv_has ls 6 [(0, .ref h), (1, .int (-1))] := hl
  refine lv_aload_n hx hb d_Mod_readField_0 rfl (lv_at hl 0 rfl) ?_
  refine lv_ldc2 hx hb hown (hT _ w_10_222) d_Mod_readField_1 ?_
  have hPc := hP.sub (ws' := [(h, .inr (12, F))]) [0] rfl
  have hDc := hD.sub (ws' := [(h, .inr (12, F))]) [0] (by decide) rfl
  have hFc := va_free (wc := [(h, .inr (12, F))]) hD hS hA [0] rfl
  refine va_calli (va_runV (C := R_Mod) (As := [.long 8243119442065778020]) (rest := []) ⟨hx, hb, hml, hown, hT⟩ (c_Mod_takesWord_end l dC dI cI cB cJ cZ s.heap.size h F 8243119442065778020 nF gF_16 gF_15 gF_17 (by decide)) ⟨callB_of 1 hT (gw_in w_10_226) rfl rfl rfl (hT _ w_1_15) (hT _ w_10_223) (by decide +kernel) ⟨Nat.le_of_ble_eq_true rfl, Nat.le_of_ble_eq_true rfl⟩, hT _ w_10_225, hT _ ws_110⟩ ⟨PC.blind, va_recv hK hPc (ci := 12) (q0 := 0) rfl rfl, PC.at _ hPc hDc hK hN⟩ rfl rfl hl.1 rfl (lv_room (Nat.le_of_ble_eq_true rfl)) d_Mod_readField_4 ⟨show _ ≤ 0 by omega, show _ ≤ 0 by omega⟩) hS (fun q _ h => hFc q h) hFc (fun r1 u t H1 locs ht hvm hw hB hz1 hk1 hS => ?_)
  obtain ⟨hP1, hD1⟩ := hB
  have hw : 0 = r1 := Eq.symm hw
  subst hw
  rw [ht] at hP1
  obtain ⟨hP, hD⟩ := va_join (wr := []) (w1 := [(h, .inr (12, F))]) hP hD [0] [] rfl rfl (by decide) (by decide) hk1 hFc hP1 hD1
  generalize H1 = H at hP hS ⊢
  have hP : va_P (dC, dI) CL [(h, .inr (12, F))] H := hP
  have hD : va_D A [(h, .inr (12, F))] := hD
  refine lv_if_eq (tgt := 14) hx hb d_Mod_readField_7 (by decide) (fun c1 => ?_) (fun c1 => by first | exact absurd c1 (by decide) | exact absurd (by decide) c1)
  refine lv_aload_n hx hb d_Mod_readField_14 rfl (lv_at hl 0 rfl) ?_
  refine lv_ldc2 hx hb hown (hT _ w_11_13) d_Mod_readField_15 ?_
  have hPc := hP.sub (ws' := [(h, .inr (12, F))]) [0] rfl
  have hDc := hD.sub (ws' := [(h, .inr (12, F))]) [0] (by decide) rfl
  have hFc := va_free (wc := [(h, .inr (12, F))]) hD hS hA [0] rfl
  refine va_calli (va_runV (C := R_Mod) (As := [.long 8030046131791487340]) (rest := []) ⟨hx, hb, hml, hown, hT⟩ (c_Mod_takesWord_end l dC dI cI cB cJ cZ H.size h F 8030046131791487340 nF gF_16 gF_15 gF_17 (by decide)) ⟨callB_of 1 hT (gw_in w_10_226) rfl rfl rfl (hT _ w_1_15) (hT _ w_10_223) (by decide +kernel) ⟨Nat.le_of_ble_eq_true rfl, Nat.le_of_ble_eq_true rfl⟩, hT _ w_10_225, hT _ ws_110⟩ ⟨PC.blind, va_recv hK hPc (ci := 12) (q0 := 0) rfl rfl, PC.at _ hPc hDc hK hN⟩ rfl rfl hl.1 rfl (lv_room (Nat.le_of_ble_eq_true rfl)) d_Mod_readField_18 ⟨show _ ≤ 0 by omega, show _ ≤ 0 by omega⟩) hS (fun q _ h => hFc q h) hFc (fun r2 u t H1 locs ht hvm hw hB hz1 hk1 hS => ?_)
  obtain ⟨hP1, hD1⟩ := hB
  have hw : 0 = r2 := Eq.symm hw
  subst hw
  rw [ht] at hP1
  obtain ⟨hP, hD⟩ := va_join (wr := []) (w1 := [(h, .inr (12, F))]) hP hD [0] [] rfl rfl (by decide) (by decide) hk1 hFc hP1 hD1
  generalize H1 = H at hP hS ⊢
  have hP : va_P (dC, dI) CL [(h, .inr (12, F))] H := hP
  have hD : va_D A [(h, .inr (12, F))] := hD
  refine lv_if_eq (tgt := 28) hx hb d_Mod_readField_21 (by decide) (fun c1 => ?_) (fun c1 => by first | exact absurd c1 (by decide) | exact absurd (by decide) c1)
  refine lv_aload_n hx hb d_Mod_readField_28 rfl (lv_at hl 0 rfl) ?_
  refine lv_ldc2 hx hb hown (hT _ w_11_14) d_Mod_readField_29 ?_
  have hPc := hP.sub (ws' := [(h, .inr (12, F))]) [0] rfl
  have hDc := hD.sub (ws' := [(h, .inr (12, F))]) [0] (by decide) rfl
  have hFc := va_free (wc := [(h, .inr (12, F))]) hD hS hA [0] rfl
  refine va_calli (va_runV (C := R_Mod) (As := [.long 8243118273700586852]) (rest := []) ⟨hx, hb, hml, hown, hT⟩ (c_Mod_takesWord_end l dC dI cI cB cJ cZ H.size h F 8243118273700586852 nF gF_16 gF_15 gF_17 (by decide)) ⟨callB_of 1 hT (gw_in w_10_226) rfl rfl rfl (hT _ w_1_15) (hT _ w_10_223) (by decide +kernel) ⟨Nat.le_of_ble_eq_true rfl, Nat.le_of_ble_eq_true rfl⟩, hT _ w_10_225, hT _ ws_110⟩ ⟨PC.blind, va_recv hK hPc (ci := 12) (q0 := 0) rfl rfl, PC.at _ hPc hDc hK hN⟩ rfl rfl hl.1 rfl (lv_room (Nat.le_of_ble_eq_true rfl)) d_Mod_readField_32 ⟨show _ ≤ 0 by omega, show _ ≤ 0 by omega⟩) hS (fun q _ h => hFc q h) hFc (fun r3 u t H1 locs ht hvm hw hB hz1 hk1 hS => ?_)
  obtain ⟨hP1, hD1⟩ := hB
  have hw : 0 = r3 := Eq.symm hw
  subst hw
  rw [ht] at hP1
  obtain ⟨hP, hD⟩ := va_join (wr := []) (w1 := [(h, .inr (12, F))]) hP hD [0] [] rfl rfl (by decide) (by decide) hk1 hFc hP1 hD1
  generalize H1 = H at hP hS ⊢
  have hP : va_P (dC, dI) CL [(h, .inr (12, F))] H := hP
  have hD : va_D A [(h, .inr (12, F))] := hD
  refine lv_if_eq (tgt := 42) hx hb d_Mod_readField_35 (by decide) (fun c1 => ?_) (fun c1 => by first | exact absurd c1 (by decide) | exact absurd (by decide) c1)
  refine lv_iconst (v := (-1)) hx hb d_Mod_readField_42 (by decide) ?_
  refine lv_istore_n (lv' := [(2, .int (-1)), (0, .ref h), (1, .int (-1))]) hx hb d_Mod_readField_43 rfl hl (by decide) rfl (fun ls hl => ?_)
  refine lv_iload_n hx hb d_Mod_readField_44 rfl (lv_at hl 0 rfl) ?_
  refine lv_iconst (v := (-1)) hx hb d_Mod_readField_45 (by decide) ?_
  refine lv_icmp_ne (tgt := 57) hx hb d_Mod_readField_46 (by decide) (fun c1 => by first | exact absurd c1 (by decide) | exact absurd (by decide) c1) (fun c1 => ?_)
  refine lv_aload_n hx hb d_Mod_readField_49 rfl (lv_at hl 1 rfl) ?_
  refine lv_aload_n hx hb d_Mod_readField_50 rfl (lv_at hl 1 rfl) ?_
  refine f_get (D := (dC, dI)) (ci := 12) (v := .int 0) (C := R_Mod) (T := F_Mod) (N := 167) hx hb hT in_Mod hown hK hP 0 rfl rfl 16 (by decide) fr_Mod_16 w_8_196 gF_16 d_Mod_readField_51 ?_
  have hPc := hP.sub (ws' := [(h, .inr (12, F))]) [0] rfl
  have hDc := hD.sub (ws' := [(h, .inr (12, F))]) [0] (by decide) rfl
  have hFc := va_free (wc := [(h, .inr (12, F))]) hD hS hA [0] rfl
  refine va_callv (va_runV (C := R_Mod) (As := [.int 0]) (rest := []) ⟨hx, hb, hml, hown, hT⟩ (c_Mod_fail_first l dC dI cI cB cJ cZ H.size h F 0 nF gF_17) ⟨callB_of 1 hT (gw_in w_11_18) rfl rfl rfl (hT _ w_1_15) (hT _ w_11_15) (by decide +kernel) ⟨Nat.le_of_ble_eq_true rfl, Nat.le_of_ble_eq_true rfl⟩, hT _ w_11_17, hT _ ws_116⟩ ⟨PC.blind, va_recv hK hPc (ci := 12) (q0 := 0) rfl rfl, PC.at _ hPc hDc hK hN⟩ rfl rfl hl.1 rfl (lv_room (Nat.le_of_ble_eq_true rfl)) d_Mod_readField_54 ⟨show _ ≤ 0 by omega, show _ ≤ 0 by omega⟩) hS (fun q _ h => hFc q h) hFc (fun  u t H1 locs ht hvm hw hB hz1 hk1 hS => ?_)
  obtain ⟨hP1, hD1⟩ := hB
  rw [ht] at hP1
  obtain ⟨hP, hD⟩ := va_join (wr := []) (w1 := [(h, .inr (12, F.set 17 (.int 0)))]) hP hD [0] [] rfl rfl (by decide) (by decide) hk1 hFc hP1 hD1
  generalize H1 = H at hP hS ⊢
  have hP : va_P (dC, dI) CL [(h, .inr (12, F.set 17 (.int 0)))] H := hP
  have hD : va_D A [(h, .inr (12, F.set 17 (.int 0)))] := hD
  refine lv_aload_n hx hb d_Mod_readField_57 rfl (lv_at hl 1 rfl) ?_
  refine lv_ldc2 hx hb hown (hT _ w_11_19) d_Mod_readField_58 ?_
  have hPc := hP.sub (ws' := [(h, .inr (12, F.set 17 (.int 0)))]) [0] rfl
  have hDc := hD.sub (ws' := [(h, .inr (12, F.set 17 (.int 0)))]) [0] (by decide) rfl
  have hFc := va_free (wc := [(h, .inr (12, F.set 17 (.int 0)))]) hD hS hA [0] rfl
  refine va_calli (va_runV (C := R_Mod) (As := [.long 1651470188]) (rest := []) ⟨hx, hb, hml, hown, hT⟩ (c_Mod_takesWord_ill l dC dI cI cB cJ cZ H.size h (F.set 17 (.int 0)) 1651470188 (by rw [List.length_set]; exact nF) ((List.getElem?_set_ne (by decide)).trans gF_16) ((List.getElem?_set_ne (by decide)).trans gF_15) (List.getElem?_set_self (by rw [nF]; decide))) ⟨callB_of 1 hT (gw_in w_10_226) rfl rfl rfl (hT _ w_1_15) (hT _ w_10_223) (by decide +kernel) ⟨Nat.le_of_ble_eq_true rfl, Nat.le_of_ble_eq_true rfl⟩, hT _ w_10_225, hT _ ws_110⟩ ⟨PC.blind, va_recv hK hPc (ci := 12) (q0 := 0) rfl rfl, PC.at _ hPc hDc hK hN⟩ rfl rfl hl.1 rfl (lv_room (Nat.le_of_ble_eq_true rfl)) d_Mod_readField_61 ⟨show _ ≤ 0 by omega, show _ ≤ 0 by omega⟩) hS (fun q _ h => hFc q h) hFc (fun r4 u t H1 locs ht hvm hw hB hz1 hk1 hS => ?_)
  obtain ⟨hP1, hD1⟩ := hB
  have hw : 0 = r4 := Eq.symm hw
  subst hw
  rw [ht] at hP1
  obtain ⟨hP, hD⟩ := va_join (wr := []) (w1 := [(h, .inr (12, F.set 17 (.int 0)))]) hP hD [0] [] rfl rfl (by decide) (by decide) hk1 hFc hP1 hD1
  generalize H1 = H at hP hS ⊢
  have hP : va_P (dC, dI) CL [(h, .inr (12, F.set 17 (.int 0)))] H := hP
  have hD : va_D A [(h, .inr (12, F.set 17 (.int 0)))] := hD
  refine lv_if_eq (tgt := 71) hx hb d_Mod_readField_64 (by decide) (fun c1 => ?_) (fun c1 => by first | exact absurd c1 (by decide) | exact absurd (by decide) c1)
  refine lv_aload_n hx hb d_Mod_readField_71 rfl (lv_at hl 1 rfl) ?_
  refine lv_ldc2 hx hb hown (hT _ w_11_20) d_Mod_readField_72 ?_
  have hPc := hP.sub (ws' := [(h, .inr (12, F.set 17 (.int 0)))]) [0] rfl
  have hDc := hD.sub (ws' := [(h, .inr (12, F.set 17 (.int 0)))]) [0] (by decide) rfl
  have hFc := va_free (wc := [(h, .inr (12, F.set 17 (.int 0)))]) hD hS hA [0] rfl
  refine va_calli (va_runV (C := R_Mod) (As := [.long 6909556]) (rest := []) ⟨hx, hb, hml, hown, hT⟩ (c_Mod_takesWord_ill l dC dI cI cB cJ cZ H.size h (F.set 17 (.int 0)) 6909556 (by rw [List.length_set]; exact nF) ((List.getElem?_set_ne (by decide)).trans gF_16) ((List.getElem?_set_ne (by decide)).trans gF_15) (List.getElem?_set_self (by rw [nF]; decide))) ⟨callB_of 1 hT (gw_in w_10_226) rfl rfl rfl (hT _ w_1_15) (hT _ w_10_223) (by decide +kernel) ⟨Nat.le_of_ble_eq_true rfl, Nat.le_of_ble_eq_true rfl⟩, hT _ w_10_225, hT _ ws_110⟩ ⟨PC.blind, va_recv hK hPc (ci := 12) (q0 := 0) rfl rfl, PC.at _ hPc hDc hK hN⟩ rfl rfl hl.1 rfl (lv_room (Nat.le_of_ble_eq_true rfl)) d_Mod_readField_75 ⟨show _ ≤ 0 by omega, show _ ≤ 0 by omega⟩) hS (fun q _ h => hFc q h) hFc (fun r5 u t H1 locs ht hvm hw hB hz1 hk1 hS => ?_)
  obtain ⟨hP1, hD1⟩ := hB
  have hw : 0 = r5 := Eq.symm hw
  subst hw
  rw [ht] at hP1
  obtain ⟨hP, hD⟩ := va_join (wr := []) (w1 := [(h, .inr (12, F.set 17 (.int 0)))]) hP hD [0] [] rfl rfl (by decide) (by decide) hk1 hFc hP1 hD1
  generalize H1 = H at hP hS ⊢
  have hP : va_P (dC, dI) CL [(h, .inr (12, F.set 17 (.int 0)))] H := hP
  have hD : va_D A [(h, .inr (12, F.set 17 (.int 0)))] := hD
  refine lv_if_eq (tgt := 85) hx hb d_Mod_readField_78 (by decide) (fun c1 => ?_) (fun c1 => by first | exact absurd c1 (by decide) | exact absurd (by decide) c1)
  refine lv_aload_n hx hb d_Mod_readField_85 rfl (lv_at hl 1 rfl) ?_
  refine lv_ldc2 hx hb hown (hT _ w_11_21) d_Mod_readField_86 ?_
  have hPc := hP.sub (ws' := [(h, .inr (12, F.set 17 (.int 0)))]) [0] rfl
  have hDc := hD.sub (ws' := [(h, .inr (12, F.set 17 (.int 0)))]) [0] (by decide) rfl
  have hFc := va_free (wc := [(h, .inr (12, F.set 17 (.int 0)))]) hD hS hA [0] rfl
  refine va_calli (va_runV (C := R_Mod) (As := [.long 1819242087]) (rest := []) ⟨hx, hb, hml, hown, hT⟩ (c_Mod_takesWord_ill l dC dI cI cB cJ cZ H.size h (F.set 17 (.int 0)) 1819242087 (by rw [List.length_set]; exact nF) ((List.getElem?_set_ne (by decide)).trans gF_16) ((List.getElem?_set_ne (by decide)).trans gF_15) (List.getElem?_set_self (by rw [nF]; decide))) ⟨callB_of 1 hT (gw_in w_10_226) rfl rfl rfl (hT _ w_1_15) (hT _ w_10_223) (by decide +kernel) ⟨Nat.le_of_ble_eq_true rfl, Nat.le_of_ble_eq_true rfl⟩, hT _ w_10_225, hT _ ws_110⟩ ⟨PC.blind, va_recv hK hPc (ci := 12) (q0 := 0) rfl rfl, PC.at _ hPc hDc hK hN⟩ rfl rfl hl.1 rfl (lv_room (Nat.le_of_ble_eq_true rfl)) d_Mod_readField_89 ⟨show _ ≤ 0 by omega, show _ ≤ 0 by omega⟩) hS (fun q _ h => hFc q h) hFc (fun r6 u t H1 locs ht hvm hw hB hz1 hk1 hS => ?_)
  obtain ⟨hP1, hD1⟩ := hB
  have hw : 0 = r6 := Eq.symm hw
  subst hw
  rw [ht] at hP1
  obtain ⟨hP, hD⟩ := va_join (wr := []) (w1 := [(h, .inr (12, F.set 17 (.int 0)))]) hP hD [0] [] rfl rfl (by decide) (by decide) hk1 hFc hP1 hD1
  generalize H1 = H at hP hS ⊢
  have hP : va_P (dC, dI) CL [(h, .inr (12, F.set 17 (.int 0)))] H := hP
  have hD : va_D A [(h, .inr (12, F.set 17 (.int 0)))] := hD
  refine lv_if_eq (tgt := 99) hx hb d_Mod_readField_92 (by decide) (fun c1 => ?_) (fun c1 => by first | exact absurd c1 (by decide) | exact absurd (by decide) c1)
  refine lv_aload_n hx hb d_Mod_readField_99 rfl (lv_at hl 1 rfl) ?_
  refine lv_ldc2 hx hb hown (hT _ w_11_22) d_Mod_readField_100 ?_
  have hPc := hP.sub (ws' := [(h, .inr (12, F.set 17 (.int 0)))]) [0] rfl
  have hDc := hD.sub (ws' := [(h, .inr (12, F.set 17 (.int 0)))]) [0] (by decide) rfl
  have hFc := va_free (wc := [(h, .inr (12, F.set 17 (.int 0)))]) hD hS hA [0] rfl
  refine va_calli (va_runV (C := R_Mod) (As := [.long 1952807028]) (rest := []) ⟨hx, hb, hml, hown, hT⟩ (c_Mod_takesWord_ill l dC dI cI cB cJ cZ H.size h (F.set 17 (.int 0)) 1952807028 (by rw [List.length_set]; exact nF) ((List.getElem?_set_ne (by decide)).trans gF_16) ((List.getElem?_set_ne (by decide)).trans gF_15) (List.getElem?_set_self (by rw [nF]; decide))) ⟨callB_of 1 hT (gw_in w_10_226) rfl rfl rfl (hT _ w_1_15) (hT _ w_10_223) (by decide +kernel) ⟨Nat.le_of_ble_eq_true rfl, Nat.le_of_ble_eq_true rfl⟩, hT _ w_10_225, hT _ ws_110⟩ ⟨PC.blind, va_recv hK hPc (ci := 12) (q0 := 0) rfl rfl, PC.at _ hPc hDc hK hN⟩ rfl rfl hl.1 rfl (lv_room (Nat.le_of_ble_eq_true rfl)) d_Mod_readField_103 ⟨show _ ≤ 0 by omega, show _ ≤ 0 by omega⟩) hS (fun q _ h => hFc q h) hFc (fun r7 u t H1 locs ht hvm hw hB hz1 hk1 hS => ?_)
  obtain ⟨hP1, hD1⟩ := hB
  have hw : 0 = r7 := Eq.symm hw
  subst hw
  rw [ht] at hP1
  obtain ⟨hP, hD⟩ := va_join (wr := []) (w1 := [(h, .inr (12, F.set 17 (.int 0)))]) hP hD [0] [] rfl rfl (by decide) (by decide) hk1 hFc hP1 hD1
  generalize H1 = H at hP hS ⊢
  have hP : va_P (dC, dI) CL [(h, .inr (12, F.set 17 (.int 0)))] H := hP
  have hD : va_D A [(h, .inr (12, F.set 17 (.int 0)))] := hD
  refine lv_if_eq (tgt := 113) hx hb d_Mod_readField_106 (by decide) (fun c1 => ?_) (fun c1 => by first | exact absurd c1 (by decide) | exact absurd (by decide) c1)
  refine lv_aload_n hx hb d_Mod_readField_113 rfl (lv_at hl 1 rfl) ?_
  refine lv_ldc2 hx hb hown (hT _ w_11_23) d_Mod_readField_114 ?_
  have hPc := hP.sub (ws' := [(h, .inr (12, F.set 17 (.int 0)))]) [0] rfl
  have hDc := hD.sub (ws' := [(h, .inr (12, F.set 17 (.int 0)))]) [0] (by decide) rfl
  have hFc := va_free (wc := [(h, .inr (12, F.set 17 (.int 0)))]) hD hS hA [0] rfl
  refine va_calli (va_runV (C := R_Mod) (As := [.long 444301538672]) (rest := []) ⟨hx, hb, hml, hown, hT⟩ (c_Mod_takesWord_ill l dC dI cI cB cJ cZ H.size h (F.set 17 (.int 0)) 444301538672 (by rw [List.length_set]; exact nF) ((List.getElem?_set_ne (by decide)).trans gF_16) ((List.getElem?_set_ne (by decide)).trans gF_15) (List.getElem?_set_self (by rw [nF]; decide))) ⟨callB_of 1 hT (gw_in w_10_226) rfl rfl rfl (hT _ w_1_15) (hT _ w_10_223) (by decide +kernel) ⟨Nat.le_of_ble_eq_true rfl, Nat.le_of_ble_eq_true rfl⟩, hT _ w_10_225, hT _ ws_110⟩ ⟨PC.blind, va_recv hK hPc (ci := 12) (q0 := 0) rfl rfl, PC.at _ hPc hDc hK hN⟩ rfl rfl hl.1 rfl (lv_room (Nat.le_of_ble_eq_true rfl)) d_Mod_readField_117 ⟨show _ ≤ 0 by omega, show _ ≤ 0 by omega⟩) hS (fun q _ h => hFc q h) hFc (fun r8 u t H1 locs ht hvm hw hB hz1 hk1 hS => ?_)
  obtain ⟨hP1, hD1⟩ := hB
  have hw : 0 = r8 := Eq.symm hw
  subst hw
  rw [ht] at hP1
  obtain ⟨hP, hD⟩ := va_join (wr := []) (w1 := [(h, .inr (12, F.set 17 (.int 0)))]) hP hD [0] [] rfl rfl (by decide) (by decide) hk1 hFc hP1 hD1
  generalize H1 = H at hP hS ⊢
  have hP : va_P (dC, dI) CL [(h, .inr (12, F.set 17 (.int 0)))] H := hP
  have hD : va_D A [(h, .inr (12, F.set 17 (.int 0)))] := hD
  refine lv_if_eq (tgt := 127) hx hb d_Mod_readField_120 (by decide) (fun c1 => ?_) (fun c1 => by first | exact absurd c1 (by decide) | exact absurd (by decide) c1)
  refine lv_iconst (v := (-1)) hx hb d_Mod_readField_127 (by decide) ?_
  refine lv_istore_n (lv' := [(3, .int (-1)), (2, .int (-1)), (0, .ref h), (1, .int (-1))]) hx hb d_Mod_readField_128 rfl hl (by decide) rfl (fun ls hl => ?_)
  refine lv_iload_n hx hb d_Mod_readField_129 rfl (lv_at hl 0 rfl) ?_
  refine lv_iconst (v := (-1)) hx hb d_Mod_readField_130 (by decide) ?_
  refine lv_icmp_ne (tgt := 142) hx hb d_Mod_readField_131 (by decide) (fun c1 => by first | exact absurd c1 (by decide) | exact absurd (by decide) c1) (fun c1 => ?_)
  refine lv_aload_n hx hb d_Mod_readField_134 rfl (lv_at hl 2 rfl) ?_
  refine lv_aload_n hx hb d_Mod_readField_135 rfl (lv_at hl 2 rfl) ?_
  refine f_get (D := (dC, dI)) (ci := 12) (v := .int 0) (C := R_Mod) (T := F_Mod) (N := 167) hx hb hT in_Mod hown hK hP 0 rfl rfl 16 (by decide) fr_Mod_16 w_8_196 ((List.getElem?_set_ne (by decide)).trans gF_16) d_Mod_readField_136 ?_
  have hPc := hP.sub (ws' := [(h, .inr (12, F.set 17 (.int 0)))]) [0] rfl
  have hDc := hD.sub (ws' := [(h, .inr (12, F.set 17 (.int 0)))]) [0] (by decide) rfl
  have hFc := va_free (wc := [(h, .inr (12, F.set 17 (.int 0)))]) hD hS hA [0] rfl
  refine va_callv (va_runV (C := R_Mod) (As := [.int 0]) (rest := []) ⟨hx, hb, hml, hown, hT⟩ (c_Mod_fail_more l dC dI cI cB cJ cZ H.size h (F.set 17 (.int 0)) 0 (by rw [List.length_set]; exact nF) (List.getElem?_set_self (by rw [nF]; decide))) ⟨callB_of 1 hT (gw_in w_11_18) rfl rfl rfl (hT _ w_1_15) (hT _ w_11_15) (by decide +kernel) ⟨Nat.le_of_ble_eq_true rfl, Nat.le_of_ble_eq_true rfl⟩, hT _ w_11_17, hT _ ws_116⟩ ⟨PC.blind, va_recv hK hPc (ci := 12) (q0 := 0) rfl rfl, PC.at _ hPc hDc hK hN⟩ rfl rfl hl.1 rfl (lv_room (Nat.le_of_ble_eq_true rfl)) d_Mod_readField_139 ⟨show _ ≤ 0 by omega, show _ ≤ 0 by omega⟩) hS (fun q _ h => hFc q h) hFc (fun  u t H1 locs ht hvm hw hB hz1 hk1 hS => ?_)
  obtain ⟨hP1, hD1⟩ := hB
  rw [ht] at hP1
  obtain ⟨hP, hD⟩ := va_join (wr := []) (w1 := [(h, .inr (12, F.set 17 (.int 0)))]) hP hD [0] [] rfl rfl (by decide) (by decide) hk1 hFc hP1 hD1
  generalize H1 = H at hP hS ⊢
  have hP : va_P (dC, dI) CL [(h, .inr (12, F.set 17 (.int 0)))] H := hP
  have hD : va_D A [(h, .inr (12, F.set 17 (.int 0)))] := hD
  refine lv_aload_n hx hb d_Mod_readField_142 rfl (lv_at hl 2 rfl) ?_
  have hPc := hP.sub (ws' := [(h, .inr (12, F.set 17 (.int 0)))]) [0] rfl
  have hDc := hD.sub (ws' := [(h, .inr (12, F.set 17 (.int 0)))]) [0] (by decide) rfl
  have hFc := va_free (wc := [(h, .inr (12, F.set 17 (.int 0)))]) hD hS hA [0] rfl
  refine va_callv (va_runV (C := R_Mod) (As := []) (rest := []) ⟨hx, hb, hml, hown, hT⟩ (c_Mod_blanks_end l dC dI cI cB cJ cZ H.size h (F.set 17 (.int 0))  (by rw [List.length_set]; exact nF) ((List.getElem?_set_ne (by decide)).trans gF_16) ((List.getElem?_set_ne (by decide)).trans gF_15)) ⟨callB_of 0 hT (gw_in w_10_234) rfl rfl rfl (hT _ w_1_15) (hT _ w_10_231) (by decide +kernel) ⟨Nat.le_of_ble_eq_true rfl, Nat.le_of_ble_eq_true rfl⟩, hT _ w_10_233, hT _ ws_112⟩ ⟨PC.blind, va_recv hK hPc (ci := 12) (q0 := 0) rfl rfl, PC.at _ hPc hDc hK hN⟩ rfl rfl hl.1 rfl (lv_room (Nat.le_of_ble_eq_true rfl)) d_Mod_readField_143 ⟨show _ ≤ 0 by omega, show _ ≤ 0 by omega⟩) hS (fun q _ h => hFc q h) hFc (fun  u t H1 locs ht hvm hw hB hz1 hk1 hS => ?_)
  obtain ⟨hP1, hD1⟩ := hB
  rw [ht] at hP1
  obtain ⟨hP, hD⟩ := va_join (wr := []) (w1 := [(h, .inr (12, F.set 17 (.int 0)))]) hP hD [0] [] rfl rfl (by decide) (by decide) hk1 hFc hP1 hD1
  generalize H1 = H at hP hS ⊢
  have hP : va_P (dC, dI) CL [(h, .inr (12, F.set 17 (.int 0)))] H := hP
  have hD : va_D A [(h, .inr (12, F.set 17 (.int 0)))] := hD
  refine lv_aload_n hx hb d_Mod_readField_146 rfl (lv_at hl 2 rfl) ?_
  refine lv_aload_n hx hb d_Mod_readField_147 rfl (lv_at hl 2 rfl) ?_
  refine f_get (D := (dC, dI)) (ci := 12) (v := .int 0) (C := R_Mod) (T := F_Mod) (N := 167) hx hb hT in_Mod hown hK hP 0 rfl rfl 16 (by decide) fr_Mod_16 w_8_196 ((List.getElem?_set_ne (by decide)).trans gF_16) d_Mod_readField_148 ?_
  have hPc := hP.sub (ws' := [(h, .inr (12, F.set 17 (.int 0)))]) [0] rfl
  have hDc := hD.sub (ws' := [(h, .inr (12, F.set 17 (.int 0)))]) [0] (by decide) rfl
  have hFc := va_free (wc := [(h, .inr (12, F.set 17 (.int 0)))]) hD hS hA [0] rfl
  refine va_calli (va_runV (C := R_Mod) (As := [.int 0]) (rest := []) ⟨hx, hb, hml, hown, hT⟩ (c_Mod_wordAt_end l dC dI cI cB cJ cZ H.size h (F.set 17 (.int 0))  (by rw [List.length_set]; exact nF) ((List.getElem?_set_ne (by decide)).trans gF_15)) ⟨callB_of 1 hT (gw_in w_11_6) rfl rfl rfl (hT _ w_1_15) (hT _ w_11_3) (by decide +kernel) ⟨Nat.le_of_ble_eq_true rfl, Nat.le_of_ble_eq_true rfl⟩, hT _ w_11_5, hT _ ws_115⟩ ⟨PC.blind, va_recv hK hPc (ci := 12) (q0 := 0) rfl rfl, PC.at _ hPc hDc hK hN⟩ rfl rfl hl.1 rfl (lv_room (Nat.le_of_ble_eq_true rfl)) d_Mod_readField_151 ⟨show _ ≤ 0 by omega, show _ ≤ 0 by omega⟩) hS (fun q _ h => hFc q h) hFc (fun r9 u t H1 locs ht hvm hw hB hz1 hk1 hS => ?_)
  obtain ⟨hP1, hD1⟩ := hB
  have hw : 0 = r9 := Eq.symm hw
  subst hw
  rw [ht] at hP1
  obtain ⟨hP, hD⟩ := va_join (wr := []) (w1 := [(h, .inr (12, F.set 17 (.int 0)))]) hP hD [0] [] rfl rfl (by decide) (by decide) hk1 hFc hP1 hD1
  generalize H1 = H at hP hS ⊢
  have hP : va_P (dC, dI) CL [(h, .inr (12, F.set 17 (.int 0)))] H := hP
  have hD : va_D A [(h, .inr (12, F.set 17 (.int 0)))] := hD
  refine lv_istore (lv' := [(4, .int 0), (3, .int (-1)), (2, .int (-1)), (0, .ref h), (1, .int (-1))]) hx hb d_Mod_readField_154 hl (by decide) rfl (fun ls hl => ?_)
  refine lv_iload hx hb d_Mod_readField_156 (lv_at hl 0 rfl) ?_
  refine lv_if_eq (tgt := 197) hx hb d_Mod_readField_158 (by decide) (fun c1 => ?_) (fun c1 => by first | exact absurd c1 (by decide) | exact absurd (by decide) c1)
  refine lv_aload_n hx hb d_Mod_readField_197 rfl (lv_at hl 3 rfl) ?_
  refine lv_aload_n hx hb d_Mod_readField_198 rfl (lv_at hl 3 rfl) ?_
  refine f_get (D := (dC, dI)) (ci := 12) (v := .int 0) (C := R_Mod) (T := F_Mod) (N := 167) hx hb hT in_Mod hown hK hP 0 rfl rfl 16 (by decide) fr_Mod_16 w_8_196 ((List.getElem?_set_ne (by decide)).trans gF_16) d_Mod_readField_199 ?_
  have hPc := hP.sub (ws' := [(h, .inr (12, F.set 17 (.int 0)))]) [0] rfl
  have hDc := hD.sub (ws' := [(h, .inr (12, F.set 17 (.int 0)))]) [0] (by decide) rfl
  have hFc := va_free (wc := [(h, .inr (12, F.set 17 (.int 0)))]) hD hS hA [0] rfl
  refine va_callv (va_runV (C := R_Mod) (As := [.int 0]) (rest := []) ⟨hx, hb, hml, hown, hT⟩ (c_Mod_fail_more l dC dI cI cB cJ cZ H.size h (F.set 17 (.int 0)) 0 (by rw [List.length_set]; exact nF) (List.getElem?_set_self (by rw [nF]; decide))) ⟨callB_of 1 hT (gw_in w_11_18) rfl rfl rfl (hT _ w_1_15) (hT _ w_11_15) (by decide +kernel) ⟨Nat.le_of_ble_eq_true rfl, Nat.le_of_ble_eq_true rfl⟩, hT _ w_11_17, hT _ ws_116⟩ ⟨PC.blind, va_recv hK hPc (ci := 12) (q0 := 0) rfl rfl, PC.at _ hPc hDc hK hN⟩ rfl rfl hl.1 rfl (lv_room (Nat.le_of_ble_eq_true rfl)) d_Mod_readField_202 ⟨show _ ≤ 0 by omega, show _ ≤ 0 by omega⟩) hS (fun q _ h => hFc q h) hFc (fun  u t H1 locs ht hvm hw hB hz1 hk1 hS => ?_)
  obtain ⟨hP1, hD1⟩ := hB
  rw [ht] at hP1
  obtain ⟨hP, hD⟩ := va_join (wr := []) (w1 := [(h, .inr (12, F.set 17 (.int 0)))]) hP hD [0] [] rfl rfl (by decide) (by decide) hk1 hFc hP1 hD1
  generalize H1 = H at hP hS ⊢
  have hP : va_P (dC, dI) CL [(h, .inr (12, F.set 17 (.int 0)))] H := hP
  have hD : va_D A [(h, .inr (12, F.set 17 (.int 0)))] := hD
  refine lv_aload_n hx hb d_Mod_readField_205 rfl (lv_at hl 3 rfl) ?_
  refine f_get (D := (dC, dI)) (ci := 12) (v := .int 0) (C := R_Mod) (T := F_Mod) (N := 167) hx hb hT in_Mod hown hK hP 0 rfl rfl 17 (by decide) fr_Mod_17 w_8_197 (List.getElem?_set_self (by rw [nF]; decide)) d_Mod_readField_206 ?_
  refine lv_iconst (v := (-1)) hx hb d_Mod_readField_209 (by decide) ?_
  refine lv_icmp_eq (tgt := 214) hx hb d_Mod_readField_210 (by decide) (fun c1 => by first | exact absurd c1 (by decide) | exact absurd (by decide) c1) (fun c1 => ?_)
  exact W.vret hx hb hr (fun t ht hW => ⟨⟨(), rfl, trivial, by rw [ht]; exact hP, hD⟩, hS.F ht⟩) hS.2.2 d_Mod_readField_213
set_option maxHeartbeats 4000000 in
set_option maxRecDepth 100000 in
/-- the model's schema() of an empty input -/
theorem c_Mod_schema_none (sz : Nat) (h : Nat) (F : List Value) (a b : Nat) (g k : Nat → Int32) (nF : F.length = 167) (gF_4 : F[4]? = some (.int 0)) (gF_11 : F[11]? = some (.ref a)) (gF_12 : F[12]? = some (.ref b)) : Met l y_Mod_schema (wsOf y_Mod_schema b_Mod_schema 1 (some (.int))) ({ frames := 5, cells := 0, slots := 0, locals := 116 }) (va_Pc [.ref h] (PC dC dI cI cB cJ cZ sz [(h, .inr (12, F)), (a, .inl (cI, 3, .inl g)), (b, .inl (cI, 3, .inl k))])) (va_Qi (fun (r : Int32) (_ : Unit) => r = 0) (fun _ t => va_P (dC, dI) CL [(a, .inl (cI, 3, .inl (upd (g) (2 : Int32).toNatClampNeg 0))), (b, .inl (cI, 3, .inl (upd (k) (2 : Int32).toNatClampNeg 0))), (h, .inr (12, (((((F.set 0 (.int 0)).set 15 (.int 0)).set 4 (.int 0)).set 16 (.int 0)).set 17 (.int (-1))).set 17 (.int 0)))] t.heap ∧ va_D (va_A [(h, .inr (12, F)), (a, .inl (cI, 3, .inl g)), (b, .inl (cI, 3, .inl k))] sz) [(a, .inl (cI, 3, .inl (upd (g) (2 : Int32).toNatClampNeg 0))), (b, .inl (cI, 3, .inl (upd (k) (2 : Int32).toNatClampNeg 0))), (h, .inr (12, (((((F.set 0 (.int 0)).set 15 (.int 0)).set 4 (.int 0)).set 16 (.int 0)).set 17 (.int (-1))).set 17 (.int 0)))]) (va_A [(h, .inr (12, F)), (a, .inl (cI, 3, .inl g)), (b, .inl (cI, 3, .inl k))] sz)) 0 0 (va_A [(h, .inr (12, F)), (a, .inl (cI, 3, .inl g)), (b, .inl (cI, 3, .inl k))] sz) := by
  refine Met.ofW (cc := b_Mod_schema) (maxL := 1) (ret := some (.int)) (by decide) rfl ?_
  intro p e s m args below meth c s₁ B hml hv
  obtain ⟨rfl, hsz, hP, hK, hD0, hN⟩ := hv
  have hx := B.exec
  have hb := B.bytes
  have hr := B.returns
  have hts := atoms_spec B.pre
  have hT : ∀ w ∈ TG, w.before _ s = true := fun w h => hts w (List.mem_cons_of_mem _ h)
  have hown : s.vm.findClass R_Mod = some m.cls := findClass_of_methodNamed B.named
  have hlocks := B.notSynchronized
  subst hsz
  have hD := hD0.self (sz := s.heap.size)
  generalize hAe : va_A [(h, .inr (12, F)), (a, .inl (cI, 3, .inl g)), (b, .inl (cI, 3, .inl k))] s.heap.size = A at hD ⊢
  have hA : ∀ q : Nat, s.heap.size ≤ q → A q := fun q h => by rw [← hAe]; exact Or.inr h
  have hS : va_S A s.heap s.heap [] := va_S.rf
  have hl := lv_entry ([.ref h]) (n := 1) (Nat.le_of_ble_eq_true rfl)
  rw [lg_entry_eq]
  generalize (lg_sl ([.ref h]) ++ List.replicate (1 - (lg_sl ([.ref h])).length) Slot.unset).toArray = ls at hl ⊢
  have hl : lv_has ls 1 [(0, .ref h)] := hl
  refine lv_aload_n hx hb d_Mod_schema_0 rfl (lv_at hl 0 rfl) ?_
  refine lv_iconst (v := 0) hx hb d_Mod_schema_1 (by decide) ?_
  refine f_put (D := (dC, dI)) (ci := 12) (v := .int 0) (ty := .int) (C := R_Mod) (T := F_Mod) (N := 167) hx hb hT in_Mod t_Mod t_Mod_ok n_Mod hown hK hP hD hS 0 rfl rfl 0 (by decide) fr_Mod_0 w_8_180 (by decide +kernel) rfl rfl (by rw [nF]; decide) d_Mod_schema_2 (fun H locs hP hD hS => ?_)
  have hP : va_P (dC, dI) CL [(h, .inr (12, F.set 0 (.int 0))), (a, .inl (cI, 3, .inl g)), (b, .inl (cI, 3, .inl k))] H := hP
  have hD : va_D A [(h, .inr (12, F.set 0 (.int 0))), (a, .inl (cI, 3, .inl g)), (b, .inl (cI, 3, .inl k))] := hD
  refine lv_aload_n hx hb d_Mod_schema_5 rfl (lv_at hl 0 rfl) ?_
  have hPc := hP.sub (ws' := [(h, .inr (12, F.set 0 (.int 0)))]) [0] rfl
  have hDc := hD.sub (ws' := [(h, .inr (12, F.set 0 (.int 0)))]) [0] (by decide) rfl
  have hFc := va_free (wc := [(h, .inr (12, F.set 0 (.int 0)))]) hD hS hA [0] rfl
  refine va_callv (va_runV (C := R_Mod) (As := []) (rest := []) ⟨hx, hb, hml, hown, hT⟩ (c_Mod_begins l dC dI cI cB cJ cZ H.size h (F.set 0 (.int 0)) 0 (by rw [List.length_set]; exact nF) ((List.getElem?_set_ne (by decide)).trans gF_4)) ⟨callB_of 0 hT (gw_in w_10_217) rfl rfl rfl (hT _ w_1_15) (hT _ w_10_214) (by decide +kernel) ⟨Nat.le_of_ble_eq_true rfl, Nat.le_of_ble_eq_true rfl⟩, hT _ w_10_216, hT _ ws_108⟩ ⟨PC.blind, va_recv hK hPc (ci := 12) (q0 := 0) rfl rfl, PC.at _ hPc hDc hK hN⟩ rfl rfl hl.1 rfl (lv_room (Nat.le_of_ble_eq_true rfl)) d_Mod_schema_6 ⟨show _ ≤ 0 by omega, show _ ≤ 0 by omega⟩) hS (fun q _ h => hFc q h) hFc (fun  u t H1 locs ht hvm hw hB hz1 hk1 hS => ?_)
  obtain ⟨hP1, hD1⟩ := hB
  rw [ht] at hP1
  obtain ⟨hP, hD⟩ := va_join (wr := [(a, .inl (cI, 3, .inl g)), (b, .inl (cI, 3, .inl k))]) (w1 := [(h, .inr (12, ((((F.set 0 (.int 0)).set 15 (.int 0)).set 4 (.int 0)).set 16 (.int 0)).set 17 (.int (-1))))]) hP hD [0] [1, 2] rfl rfl (by decide) (by decide) hk1 hFc hP1 hD1
  generalize H1 = H at hP hS ⊢
  have hP : va_P (dC, dI) CL [(a, .inl (cI, 3, .inl g)), (b, .inl (cI, 3, .inl k)), (h, .inr (12, ((((F.set 0 (.int 0)).set 15 (.int 0)).set 4 (.int 0)).set 16 (.int 0)).set 17 (.int (-1))))] H := hP
  have hD : va_D A [(a, .inl (cI, 3, .inl g)), (b, .inl (cI, 3, .inl k)), (h, .inr (12, ((((F.set 0 (.int 0)).set 15 (.int 0)).set 4 (.int 0)).set 16 (.int 0)).set 17 (.int (-1))))] := hD
  refine lv_aload_n hx hb d_Mod_schema_9 rfl (lv_at hl 0 rfl) ?_
  refine f_get (D := (dC, dI)) (ci := 12) (v := .int 0) (C := R_Mod) (T := F_Mod) (N := 167) hx hb hT in_Mod hown hK hP 2 rfl rfl 15 (by decide) fr_Mod_15 w_8_195 ((List.getElem?_set_ne (by decide)).trans ((List.getElem?_set_ne (by decide)).trans ((List.getElem?_set_ne (by decide)).trans (List.getElem?_set_self (by rw [List.length_set]; exact (by rw [nF]; decide)))))) d_Mod_schema_10 ?_
  refine lv_sipush (v := 4000) hx hb d_Mod_schema_13 (by decide) ?_
  refine lv_icmp_le (tgt := 23) hx hb d_Mod_schema_16 (by decide) (fun c1 => ?_) (fun c1 => by first | exact absurd c1 (by decide) | exact absurd (by decide) c1)
  refine lv_aload_n hx hb d_Mod_schema_23 rfl (lv_at hl 0 rfl) ?_
  refine f_get (D := (dC, dI)) (ci := 12) (v := .ref a) (C := R_Mod) (T := F_Mod) (N := 167) hx hb hT in_Mod hown hK hP 2 rfl rfl 11 (by decide) fr_Mod_11 w_8_191 ((List.getElem?_set_ne (by decide)).trans ((List.getElem?_set_ne (by decide)).trans ((List.getElem?_set_ne (by decide)).trans ((List.getElem?_set_ne (by decide)).trans ((List.getElem?_set_ne (by decide)).trans gF_11))))) d_Mod_schema_24 ?_
  refine lv_iconst (v := 2) hx hb d_Mod_schema_27 (by decide) ?_
  refine lv_iconst (v := 0) hx hb d_Mod_schema_28 (by decide) ?_
  refine va_iast hx hb hK hP hD hS 0 0 rfl rfl (vp_lit (by decide)) d_Mod_schema_29 (fun H locs hP hD hS => ?_)
  have hP : va_P (dC, dI) CL [(a, .inl (cI, 3, .inl (upd (g) (2 : Int32).toNatClampNeg 0))), (b, .inl (cI, 3, .inl k)), (h, .inr (12, ((((F.set 0 (.int 0)).set 15 (.int 0)).set 4 (.int 0)).set 16 (.int 0)).set 17 (.int (-1))))] H := hP
  have hD : va_D A [(a, .inl (cI, 3, .inl (upd (g) (2 : Int32).toNatClampNeg 0))), (b, .inl (cI, 3, .inl k)), (h, .inr (12, ((((F.set 0 (.int 0)).set 15 (.int 0)).set 4 (.int 0)).set 16 (.int 0)).set 17 (.int (-1))))] := hD
  refine lv_aload_n hx hb d_Mod_schema_30 rfl (lv_at hl 0 rfl) ?_
  refine f_get (D := (dC, dI)) (ci := 12) (v := .ref b) (C := R_Mod) (T := F_Mod) (N := 167) hx hb hT in_Mod hown hK hP 2 rfl rfl 12 (by decide) fr_Mod_12 w_8_192 ((List.getElem?_set_ne (by decide)).trans ((List.getElem?_set_ne (by decide)).trans ((List.getElem?_set_ne (by decide)).trans ((List.getElem?_set_ne (by decide)).trans ((List.getElem?_set_ne (by decide)).trans gF_12))))) d_Mod_schema_31 ?_
  refine lv_iconst (v := 2) hx hb d_Mod_schema_34 (by decide) ?_
  refine lv_iconst (v := 0) hx hb d_Mod_schema_35 (by decide) ?_
  refine va_iast hx hb hK hP hD hS 1 0 rfl rfl (vp_lit (by decide)) d_Mod_schema_36 (fun H locs hP hD hS => ?_)
  have hP : va_P (dC, dI) CL [(a, .inl (cI, 3, .inl (upd (g) (2 : Int32).toNatClampNeg 0))), (b, .inl (cI, 3, .inl (upd (k) (2 : Int32).toNatClampNeg 0))), (h, .inr (12, ((((F.set 0 (.int 0)).set 15 (.int 0)).set 4 (.int 0)).set 16 (.int 0)).set 17 (.int (-1))))] H := hP
  have hD : va_D A [(a, .inl (cI, 3, .inl (upd (g) (2 : Int32).toNatClampNeg 0))), (b, .inl (cI, 3, .inl (upd (k) (2 : Int32).toNatClampNeg 0))), (h, .inr (12, ((((F.set 0 (.int 0)).set 15 (.int 0)).set 4 (.int 0)).set 16 (.int 0)).set 17 (.int (-1))))] := hD
  refine lv_aload_n hx hb d_Mod_schema_37 rfl (lv_at hl 0 rfl) ?_
  refine lv_iconst (v := (-1)) hx hb d_Mod_schema_38 (by decide) ?_
  have hPc := hP.sub (ws' := [(h, .inr (12, ((((F.set 0 (.int 0)).set 15 (.int 0)).set 4 (.int 0)).set 16 (.int 0)).set 17 (.int (-1))))]) [2] rfl
  have hDc := hD.sub (ws' := [(h, .inr (12, ((((F.set 0 (.int 0)).set 15 (.int 0)).set 4 (.int 0)).set 16 (.int 0)).set 17 (.int (-1))))]) [2] (by decide) rfl
  have hFc := va_free (wc := [(h, .inr (12, ((((F.set 0 (.int 0)).set 15 (.int 0)).set 4 (.int 0)).set 16 (.int 0)).set 17 (.int (-1))))]) hD hS hA [2] rfl
  refine va_callv (va_runV (C := R_Mod) (As := [.int (-1)]) (rest := []) ⟨hx, hb, hml, hown, hT⟩ (c_Mod_readField_end l dC dI cI cB cJ cZ H.size h (((((F.set 0 (.int 0)).set 15 (.int 0)).set 4 (.int 0)).set 16 (.int 0)).set 17 (.int (-1)))  (by rw [List.length_set]; exact (by rw [List.length_set]; exact (by rw [List.length_set]; exact (by rw [List.length_set]; exact (by rw [List.length_set]; exact nF))))) ((List.getElem?_set_ne (by decide)).trans (List.getElem?_set_self (by rw [List.length_set]; exact (by rw [List.length_set]; exact (by rw [List.length_set]; exact (by rw [nF]; decide)))))) ((List.getElem?_set_ne (by decide)).trans ((List.getElem?_set_ne (by decide)).trans ((List.getElem?_set_ne (by decide)).trans (List.getElem?_set_self (by rw [List.length_set]; exact (by rw [nF]; decide)))))) (List.getElem?_set_self (by rw [List.length_set]; exact (by rw [List.length_set]; exact (by rw [List.length_set]; exact (by rw [List.length_set]; exact (by rw [nF]; decide))))))) ⟨callB_of 1 hT (gw_in w_10_221) rfl rfl rfl (hT _ w_1_15) (hT _ w_10_218) (by decide +kernel) ⟨Nat.le_of_ble_eq_true rfl, Nat.le_of_ble_eq_true rfl⟩, hT _ w_10_220, hT _ ws_109⟩ ⟨PC.blind, va_recv hK hPc (ci := 12) (q0 := 0) rfl rfl, PC.at _ hPc hDc hK hN⟩ rfl rfl hl.1 rfl (lv_room (Nat.le_of_ble_eq_true rfl)) d_Mod_schema_39 ⟨show _ ≤ 0 by omega, show _ ≤ 0 by omega⟩) hS (fun q _ h => hFc q h) hFc (fun  u t H1 locs ht hvm hw hB hz1 hk1 hS => ?_)
  obtain ⟨hP1, hD1⟩ := hB
  rw [ht] at hP1
  obtain ⟨hP, hD⟩ := va_join (wr := [(a, .inl (cI, 3, .inl (upd (g) (2 : Int32).toNatClampNeg 0))), (b, .inl (cI, 3, .inl (upd (k) (2 : Int32).toNatClampNeg 0)))]) (w1 := [(h, .inr (12, (((((F.set 0 (.int 0)).set 15 (.int 0)).set 4 (.int 0)).set 16 (.int 0)).set 17 (.int (-1))).set 17 (.int 0)))]) hP hD [2] [0, 1] rfl rfl (by decide) (by decide) hk1 hFc hP1 hD1
  generalize H1 = H at hP hS ⊢
  have hP : va_P (dC, dI) CL [(a, .inl (cI, 3, .inl (upd (g) (2 : Int32).toNatClampNeg 0))), (b, .inl (cI, 3, .inl (upd (k) (2 : Int32).toNatClampNeg 0))), (h, .inr (12, (((((F.set 0 (.int 0)).set 15 (.int 0)).set 4 (.int 0)).set 16 (.int 0)).set 17 (.int (-1))).set 17 (.int 0)))] H := hP
  have hD : va_D A [(a, .inl (cI, 3, .inl (upd (g) (2 : Int32).toNatClampNeg 0))), (b, .inl (cI, 3, .inl (upd (k) (2 : Int32).toNatClampNeg 0))), (h, .inr (12, (((((F.set 0 (.int 0)).set 15 (.int 0)).set 4 (.int 0)).set 16 (.int 0)).set 17 (.int (-1))).set 17 (.int 0)))] := hD
  refine lv_aload_n hx hb d_Mod_schema_42 rfl (lv_at hl 0 rfl) ?_
  have hPc := hP.sub (ws' := [(h, .inr (12, (((((F.set 0 (.int 0)).set 15 (.int 0)).set 4 (.int 0)).set 16 (.int 0)).set 17 (.int (-1))).set 17 (.int 0)))]) [2] rfl
  have hDc := hD.sub (ws' := [(h, .inr (12, (((((F.set 0 (.int 0)).set 15 (.int 0)).set 4 (.int 0)).set 16 (.int 0)).set 17 (.int (-1))).set 17 (.int 0)))]) [2] (by decide) rfl
  have hFc := va_free (wc := [(h, .inr (12, (((((F.set 0 (.int 0)).set 15 (.int 0)).set 4 (.int 0)).set 16 (.int 0)).set 17 (.int (-1))).set 17 (.int 0)))]) hD hS hA [2] rfl
  refine va_callv (va_runV (C := R_Mod) (As := []) (rest := []) ⟨hx, hb, hml, hown, hT⟩ (c_Mod_blanks_end l dC dI cI cB cJ cZ H.size h ((((((F.set 0 (.int 0)).set 15 (.int 0)).set 4 (.int 0)).set 16 (.int 0)).set 17 (.int (-1))).set 17 (.int 0))  (by rw [List.length_set]; exact (by rw [List.length_set]; exact (by rw [List.length_set]; exact (by rw [List.length_set]; exact (by rw [List.length_set]; exact (by rw [List.length_set]; exact nF)))))) ((List.getElem?_set_ne (by decide)).trans ((List.getElem?_set_ne (by decide)).trans (List.getElem?_set_self (by rw [List.length_set]; exact (by rw [List.length_set]; exact (by rw [List.length_set]; exact (by rw [nF]; decide))))))) ((List.getElem?_set_ne (by decide)).trans ((List.getElem?_set_ne (by decide)).trans ((List.getElem?_set_ne (by decide)).trans ((List.getElem?_set_ne (by decide)).trans (List.getElem?_set_self (by rw [List.length_set]; exact (by rw [nF]; decide)))))))) ⟨callB_of 0 hT (gw_in w_10_234) rfl rfl rfl (hT _ w_1_15) (hT _ w_10_231) (by decide +kernel) ⟨Nat.le_of_ble_eq_true rfl, Nat.le_of_ble_eq_true rfl⟩, hT _ w_10_233, hT _ ws_112⟩ ⟨PC.blind, va_recv hK hPc (ci := 12) (q0 := 0) rfl rfl, PC.at _ hPc hDc hK hN⟩ rfl rfl hl.1 rfl (lv_room (Nat.le_of_ble_eq_true rfl)) d_Mod_schema_43 ⟨show _ ≤ 0 by omega, show _ ≤ 0 by omega⟩) hS (fun q _ h => hFc q h) hFc (fun  u t H1 locs ht hvm hw hB hz1 hk1 hS => ?_)
  obtain ⟨hP1, hD1⟩ := hB
  rw [ht] at hP1
  obtain ⟨hP, hD⟩ := va_join (wr := [(a, .inl (cI, 3, .inl (upd (g) (2 : Int32).toNatClampNeg 0))), (b, .inl (cI, 3, .inl (upd (k) (2 : Int32).toNatClampNeg 0)))]) (w1 := [(h, .inr (12, (((((F.set 0 (.int 0)).set 15 (.int 0)).set 4 (.int 0)).set 16 (.int 0)).set 17 (.int (-1))).set 17 (.int 0)))]) hP hD [2] [0, 1] rfl rfl (by decide) (by decide) hk1 hFc hP1 hD1
  generalize H1 = H at hP hS ⊢
  have hP : va_P (dC, dI) CL [(a, .inl (cI, 3, .inl (upd (g) (2 : Int32).toNatClampNeg 0))), (b, .inl (cI, 3, .inl (upd (k) (2 : Int32).toNatClampNeg 0))), (h, .inr (12, (((((F.set 0 (.int 0)).set 15 (.int 0)).set 4 (.int 0)).set 16 (.int 0)).set 17 (.int (-1))).set 17 (.int 0)))] H := hP
  have hD : va_D A [(a, .inl (cI, 3, .inl (upd (g) (2 : Int32).toNatClampNeg 0))), (b, .inl (cI, 3, .inl (upd (k) (2 : Int32).toNatClampNeg 0))), (h, .inr (12, (((((F.set 0 (.int 0)).set 15 (.int 0)).set 4 (.int 0)).set 16 (.int 0)).set 17 (.int (-1))).set 17 (.int 0)))] := hD
  refine lv_aload_n hx hb d_Mod_schema_46 rfl (lv_at hl 0 rfl) ?_
  refine f_get (D := (dC, dI)) (ci := 12) (v := .int 0) (C := R_Mod) (T := F_Mod) (N := 167) hx hb hT in_Mod hown hK hP 2 rfl rfl 17 (by decide) fr_Mod_17 w_8_197 (List.getElem?_set_self (by rw [List.length_set]; exact (by rw [List.length_set]; exact (by rw [List.length_set]; exact (by rw [List.length_set]; exact (by rw [List.length_set]; exact (by rw [nF]; decide))))))) d_Mod_schema_47 ?_
  refine lv_iconst (v := (-1)) hx hb d_Mod_schema_50 (by decide) ?_
  refine lv_icmp_ne (tgt := 65) hx hb d_Mod_schema_51 (by decide) (fun c1 => ?_) (fun c1 => by first | exact absurd c1 (by decide) | exact absurd (by decide) c1)
  refine lv_aload_n hx hb d_Mod_schema_65 rfl (lv_at hl 0 rfl) ?_
  refine f_get (D := (dC, dI)) (ci := 12) (v := .int 0) (C := R_Mod) (T := F_Mod) (N := 167) hx hb hT in_Mod hown hK hP 2 rfl rfl 17 (by decide) fr_Mod_17 w_8_197 (List.getElem?_set_self (by rw [List.length_set]; exact (by rw [List.length_set]; exact (by rw [List.length_set]; exact (by rw [List.length_set]; exact (by rw [List.length_set]; exact (by rw [nF]; decide))))))) d_Mod_schema_66 ?_
  refine lv_iconst (v := (-1)) hx hb d_Mod_schema_69 (by decide) ?_
  refine lv_icmp_eq (tgt := 78) hx hb d_Mod_schema_70 (by decide) (fun c1 => by first | exact absurd c1 (by decide) | exact absurd (by decide) c1) (fun c1 => ?_)
  refine lv_aload_n hx hb d_Mod_schema_73 rfl (lv_at hl 0 rfl) ?_
  refine f_get (D := (dC, dI)) (ci := 12) (v := .int 0) (C := R_Mod) (T := F_Mod) (N := 167) hx hb hT in_Mod hown hK hP 2 rfl rfl 17 (by decide) fr_Mod_17 w_8_197 (List.getElem?_set_self (by rw [List.length_set]; exact (by rw [List.length_set]; exact (by rw [List.length_set]; exact (by rw [List.length_set]; exact (by rw [List.length_set]; exact (by rw [nF]; decide))))))) d_Mod_schema_74 ?_
  exact W.iret (v := 0) hx hb hr (fun t ht hW => ⟨⟨0, (), rfl, rfl, by rw [ht]; exact hP, hD⟩, hS.F ht⟩) hS.2.2 d_Mod_schema_77
set_option maxHeartbeats 4000000 in
set_option maxRecDepth 100000 in
theorem lp_Mod_feed {p : Program} {l : Launch} {e : Env} {R : Room} {s : State} {m : MethodId} {args : Array Value} {below : List Frame} {meth : Method} {c : Code} {cells slots : Nat} {Q : State → Prop} {dC : Nat → ClassId} {dI : Nat → Nat → Nat} {cI cB cJ cZ : ClassId} {A : Nat → Prop} {H0 : Heap} {h a x : Nat} {F : List Value} {g : Nat → Int32} {v1 v2 v3 v4 v5 : Int32}
    (hx : p.tables.exec = Jvm.exec) (hb : c.code = b_Mod_feed) (hT : ∀ w ∈ TG, w.before args s = true) (hown : s.vm.findClass R_Mod = some m.cls) (hK : va_K (dC, dI) CL (TY cI cB cJ cZ) s) (hN0 : x + 20 ≤ 40000) (nF : F.length = 167) (gF_1 : F[1]? = some (.ref a)) (gF_3 : F[3]? = some (.int (nI x)))
    (kend : ∀ (H : Heap) (locs : List Loc) (ls : Array Slot), va_P (dC, dI) CL [(h, .inr (12, F)), (a, .inl (cI, 40000, .inl (fedN g x v1 v2 v3 v4 v5 20)))] H → va_D A [(h, .inr (12, F)), (a, .inl (cI, 40000, .inl (fedN g x v1 v2 v3 v4 v5 20)))] → va_S A H0 H locs → lv_has ls 8 [(6, .int (nI 20)), (0, .ref h), (1, .int v1), (2, .int v2), (3, .int v3), (4, .int v4), (5, .int v5)] → W p l e R s m args below meth c H locs cells slots Q (F0 m 112 ls [])) :
    ∀ (k i : Nat) (H : Heap) (locs : List Loc) (ls : Array Slot), i ≤ 20 → 21 ≤ i + k → va_P (dC, dI) CL [(h, .inr (12, F)), (a, .inl (cI, 40000, .inl (fedN g x v1 v2 v3 v4 v5 i)))] H → va_D A [(h, .inr (12, F)), (a, .inl (cI, 40000, .inl (fedN g x v1 v2 v3 v4 v5 i)))] → va_S A H0 H locs → lv_has ls 8 [(6, .int (nI i)), (0, .ref h), (1, .int v1), (2, .int v2), (3, .int v3), (4, .int v4), (5, .int v5)] → W p l e R s m args below meth c H locs cells slots Q (F0 m 22 ls []) := by
  intro k
  induction k with
  | zero => intro i H locs ls h1 h2; exact absurd h2 (by omega)
  | succ k ih =>
    intro i H locs ls hi hik hP hD hS hl
    refine lv_iload hx hb d_Mod_feed_22 (lv_at hl 0 rfl) ?_
    refine lv_bipush (v := 20) hx hb d_Mod_feed_24 (by decide) ?_
    refine lv_icmp_ge (tgt := 112) hx hb d_Mod_feed_26 (by decide) (fun c_1 => ?_) (fun c_1 => ?_)
    · have hge : 20 ≤ i := (nI_leI (a := 20) (by decide) (by omega)).mp c_1
      have he : i = 20 := by omega
      subst he
      exact kend H locs ls hP hD hS (lv_sub hl [0, 1, 2, 3, 4, 5, 6] rfl)
    · have hlt : i < 20 := by
        rcases Nat.lt_or_ge i 20 with z | z
        · exact z
        · exact absurd (nI_le (a := 20) z (by omega)) c_1
      refine lv_iload hx hb d_Mod_feed_29 (lv_at hl 0 rfl) ?_
      refine lv_iconst (v := 4) hx hb d_Mod_feed_31 (by decide) ?_
      refine lv_icmp_ge (tgt := 39) hx hb d_Mod_feed_32 (by decide) (fun c_2 => ?_) (fun c_2 => ?_)
      · refine lv_iload hx hb d_Mod_feed_39 (lv_at hl 0 rfl) ?_
        refine lv_bipush (v := 8) hx hb d_Mod_feed_41 (by decide) ?_
        refine lv_icmp_ge (tgt := 50) hx hb d_Mod_feed_43 (by decide) (fun c_3 => ?_) (fun c_3 => ?_)
        · refine lv_iload hx hb d_Mod_feed_50 (lv_at hl 0 rfl) ?_
          refine lv_bipush (v := 12) hx hb d_Mod_feed_52 (by decide) ?_
          refine lv_icmp_ge (tgt := 61) hx hb d_Mod_feed_54 (by decide) (fun c_4 => ?_) (fun c_4 => ?_)
          · refine lv_iload hx hb d_Mod_feed_61 (lv_at hl 0 rfl) ?_
            refine lv_bipush (v := 16) hx hb d_Mod_feed_63 (by decide) ?_
            refine lv_icmp_ge (tgt := 73) hx hb d_Mod_feed_65 (by decide) (fun c_5 => ?_) (fun c_5 => ?_)
            · refine lv_iload hx hb d_Mod_feed_73 (lv_at hl 6 rfl) ?_
              refine lv_istore (lv' := [(7, .int v5), (6, .int (nI i)), (0, .ref h), (1, .int v1), (2, .int v2), (3, .int v3), (4, .int v4), (5, .int v5)]) hx hb d_Mod_feed_75 hl (by decide) rfl (fun ls hl => ?_)
              refine lv_aload_n hx hb d_Mod_feed_77 rfl (lv_at hl 2 rfl) ?_
              refine f_get (D := (dC, dI)) (ci := 12) (v := .ref a) (C := R_Mod) (T := F_Mod) (N := 167) hx hb hT in_Mod hown hK hP 0 rfl rfl 1 (by decide) fr_Mod_1 w_8_181 gF_1 d_Mod_feed_78 ?_
              refine lv_aload_n hx hb d_Mod_feed_81 rfl (lv_at hl 2 rfl) ?_
              refine f_get (D := (dC, dI)) (ci := 12) (v := .int (nI x)) (C := R_Mod) (T := F_Mod) (N := 167) hx hb hT in_Mod hown hK hP 0 rfl rfl 3 (by decide) fr_Mod_3 w_8_183 gF_3 d_Mod_feed_82 ?_
              refine lv_iload hx hb d_Mod_feed_85 (lv_at hl 1 rfl) ?_
              refine lv_iadd hx hb d_Mod_feed_87 ?_
              refine lv_iload hx hb d_Mod_feed_88 (lv_at hl 0 rfl) ?_
              refine lv_bipush (v := 24) hx hb d_Mod_feed_90 (by decide) ?_
              refine lv_bipush (v := 8) hx hb d_Mod_feed_92 (by decide) ?_
              refine lv_iload hx hb d_Mod_feed_94 (lv_at hl 1 rfl) ?_
              refine lv_iconst (v := 4) hx hb d_Mod_feed_96 (by decide) ?_
              refine lv_irem hx hb d_Mod_feed_97 (by decide) ?_
              refine lv_imul hx hb d_Mod_feed_98 ?_
              refine lv_isub hx hb d_Mod_feed_99 ?_
              refine lv_ishr hx hb d_Mod_feed_100 ?_
              refine lv_sipush (v := 255) hx hb d_Mod_feed_101 (by decide) ?_
              refine lv_iand hx hb d_Mod_feed_104 ?_
              refine va_iast hx hb hK hP hD hS 1 0 rfl rfl (in_add (by omega) (by decide)) d_Mod_feed_105 (fun H locs hP hD hS => ?_)
              have hP : va_P (dC, dI) CL [(h, .inr (12, F)), (a, .inl (cI, 40000, .inl (upd (fedN g x v1 v2 v3 v4 v5 i) (((nI x) + (nI i)) : Int32).toNatClampNeg ((v5 >>> ((24 - (8 * ((nI i) - (nI i) / 4 * 4))) &&& 31)) &&& 255))))] H := hP
              have hD : va_D A [(h, .inr (12, F)), (a, .inl (cI, 40000, .inl (upd (fedN g x v1 v2 v3 v4 v5 i) (((nI x) + (nI i)) : Int32).toNatClampNeg ((v5 >>> ((24 - (8 * ((nI i) - (nI i) / 4 * 4))) &&& 31)) &&& 255))))] := hD
              rw [fed_step (g := g) (x := x) (i := i) (by omega) (show ((v5 >>> ((24 - (8 * ((nI i) - (nI i) / 4 * 4))) &&& 31)) &&& 255) = fby v1 v2 v3 v4 v5 i from by simp [fby, c_2, c_3, c_4, c_5])] at hP hD
              refine lv_iinc (v := ((nI i) + 1)) (lv' := [(6, .int ((nI i) + 1)), (7, .int v5), (0, .ref h), (1, .int v1), (2, .int v2), (3, .int v3), (4, .int v4), (5, .int v5)]) hx hb d_Mod_feed_106 hl (k := 1) rfl rfl (by decide) rfl (fun ls hl => ?_)
              refine lv_goto (tgt := 22) hx hb d_Mod_feed_109 (by decide) ?_
              rw [nI_1] at hl
              exact ih (i + 1) H locs ls hlt (by omega) hP hD hS (lv_sub hl [0, 2, 3, 4, 5, 6, 7] rfl)
            · refine lv_iload hx hb d_Mod_feed_68 (lv_at hl 5 rfl) ?_
              refine lv_goto (tgt := 75) hx hb d_Mod_feed_70 (by decide) ?_
              refine lv_istore (lv' := [(7, .int v4), (6, .int (nI i)), (0, .ref h), (1, .int v1), (2, .int v2), (3, .int v3), (4, .int v4), (5, .int v5)]) hx hb d_Mod_feed_75 hl (by decide) rfl (fun ls hl => ?_)
              refine lv_aload_n hx hb d_Mod_feed_77 rfl (lv_at hl 2 rfl) ?_
              refine f_get (D := (dC, dI)) (ci := 12) (v := .ref a) (C := R_Mod) (T := F_Mod) (N := 167) hx hb hT in_Mod hown hK hP 0 rfl rfl 1 (by decide) fr_Mod_1 w_8_181 gF_1 d_Mod_feed_78 ?_
              refine lv_aload_n hx hb d_Mod_feed_81 rfl (lv_at hl 2 rfl) ?_
              refine f_get (D := (dC, dI)) (ci := 12) (v := .int (nI x)) (C := R_Mod) (T := F_Mod) (N := 167) hx hb hT in_Mod hown hK hP 0 rfl rfl 3 (by decide) fr_Mod_3 w_8_183 gF_3 d_Mod_feed_82 ?_
              refine lv_iload hx hb d_Mod_feed_85 (lv_at hl 1 rfl) ?_
              refine lv_iadd hx hb d_Mod_feed_87 ?_
              refine lv_iload hx hb d_Mod_feed_88 (lv_at hl 0 rfl) ?_
              refine lv_bipush (v := 24) hx hb d_Mod_feed_90 (by decide) ?_
              refine lv_bipush (v := 8) hx hb d_Mod_feed_92 (by decide) ?_
              refine lv_iload hx hb d_Mod_feed_94 (lv_at hl 1 rfl) ?_
              refine lv_iconst (v := 4) hx hb d_Mod_feed_96 (by decide) ?_
              refine lv_irem hx hb d_Mod_feed_97 (by decide) ?_
              refine lv_imul hx hb d_Mod_feed_98 ?_
              refine lv_isub hx hb d_Mod_feed_99 ?_
              refine lv_ishr hx hb d_Mod_feed_100 ?_
              refine lv_sipush (v := 255) hx hb d_Mod_feed_101 (by decide) ?_
              refine lv_iand hx hb d_Mod_feed_104 ?_
              refine va_iast hx hb hK hP hD hS 1 0 rfl rfl (in_add (by omega) (by decide)) d_Mod_feed_105 (fun H locs hP hD hS => ?_)
              have hP : va_P (dC, dI) CL [(h, .inr (12, F)), (a, .inl (cI, 40000, .inl (upd (fedN g x v1 v2 v3 v4 v5 i) (((nI x) + (nI i)) : Int32).toNatClampNeg ((v4 >>> ((24 - (8 * ((nI i) - (nI i) / 4 * 4))) &&& 31)) &&& 255))))] H := hP
              have hD : va_D A [(h, .inr (12, F)), (a, .inl (cI, 40000, .inl (upd (fedN g x v1 v2 v3 v4 v5 i) (((nI x) + (nI i)) : Int32).toNatClampNeg ((v4 >>> ((24 - (8 * ((nI i) - (nI i) / 4 * 4))) &&& 31)) &&& 255))))] := hD
              rw [fed_step (g := g) (x := x) (i := i) (by omega) (show ((v4 >>> ((24 - (8 * ((nI i) - (nI i) / 4 * 4))) &&& 31)) &&& 255) = fby v1 v2 v3 v4 v5 i from by simp [fby, c_2, c_3, c_4, c_5])] at hP hD
              refine lv_iinc (v := ((nI i) + 1)) (lv' := [(6, .int ((nI i) + 1)), (7, .int v4), (0, .ref h), (1, .int v1), (2, .int v2), (3, .int v3), (4, .int v4), (5, .int v5)]) hx hb d_Mod_feed_106 hl (k := 1) rfl rfl (by decide) rfl (fun ls hl => ?_)
              refine lv_goto (tgt := 22) hx hb d_Mod_feed_109 (by decide) ?_
              rw [nI_1] at hl
              exact ih (i + 1) H locs ls hlt (by omega) hP hD hS (lv_sub hl [0, 2, 3, 4, 5, 6, 7] rfl)
          · refine lv_iload_n hx hb d_Mod_feed_57 rfl (lv_at hl 4 rfl) ?_
            refine lv_goto (tgt := 75) hx hb d_Mod_feed_58 (by decide) ?_
            refine lv_istore (lv' := [(7, .int v3), (6, .int (nI i)), (0, .ref h), (1, .int v1), (2, .int v2), (3, .int v3), (4, .int v4), (5, .int v5)]) hx hb d_Mod_feed_75 hl (by decide) rfl (fun ls hl => ?_)
            refine lv_aload_n hx hb d_Mod_feed_77 rfl (lv_at hl 2 rfl) ?_
            refine f_get (D := (dC, dI)) (ci := 12) (v := .ref a) (C := R_Mod) (T := F_Mod) (N := 167) hx hb hT in_Mod hown hK hP 0 rfl rfl 1 (by decide) fr_Mod_1 w_8_181 gF_1 d_Mod_feed_78 ?_
            refine lv_aload_n hx hb d_Mod_feed_81 rfl (lv_at hl 2 rfl) ?_
            refine f_get (D := (dC, dI)) (ci := 12) (v := .int (nI x)) (C := R_Mod) (T := F_Mod) (N := 167) hx hb hT in_Mod hown hK hP 0 rfl rfl 3 (by decide) fr_Mod_3 w_8_183 gF_3 d_Mod_feed_82 ?_
            refine lv_iload hx hb d_Mod_feed_85 (lv_at hl 1 rfl) ?_
            refine lv_iadd hx hb d_Mod_feed_87 ?_
            refine lv_iload hx hb d_Mod_feed_88 (lv_at hl 0 rfl) ?_
            refine lv_bipush (v := 24) hx hb d_Mod_feed_90 (by decide) ?_
            refine lv_bipush (v := 8) hx hb d_Mod_feed_92 (by decide) ?_
            refine lv_iload hx hb d_Mod_feed_94 (lv_at hl 1 rfl) ?_
            refine lv_iconst (v := 4) hx hb d_Mod_feed_96 (by decide) ?_
            refine lv_irem hx hb d_Mod_feed_97 (by decide) ?_
            refine lv_imul hx hb d_Mod_feed_98 ?_
            refine lv_isub hx hb d_Mod_feed_99 ?_
            refine lv_ishr hx hb d_Mod_feed_100 ?_
            refine lv_sipush (v := 255) hx hb d_Mod_feed_101 (by decide) ?_
            refine lv_iand hx hb d_Mod_feed_104 ?_
            refine va_iast hx hb hK hP hD hS 1 0 rfl rfl (in_add (by omega) (by decide)) d_Mod_feed_105 (fun H locs hP hD hS => ?_)
            have hP : va_P (dC, dI) CL [(h, .inr (12, F)), (a, .inl (cI, 40000, .inl (upd (fedN g x v1 v2 v3 v4 v5 i) (((nI x) + (nI i)) : Int32).toNatClampNeg ((v3 >>> ((24 - (8 * ((nI i) - (nI i) / 4 * 4))) &&& 31)) &&& 255))))] H := hP
            have hD : va_D A [(h, .inr (12, F)), (a, .inl (cI, 40000, .inl (upd (fedN g x v1 v2 v3 v4 v5 i) (((nI x) + (nI i)) : Int32).toNatClampNeg ((v3 >>> ((24 - (8 * ((nI i) - (nI i) / 4 * 4))) &&& 31)) &&& 255))))] := hD
            rw [fed_step (g := g) (x := x) (i := i) (by omega) (show ((v3 >>> ((24 - (8 * ((nI i) - (nI i) / 4 * 4))) &&& 31)) &&& 255) = fby v1 v2 v3 v4 v5 i from by simp [fby, c_2, c_3, c_4])] at hP hD
            refine lv_iinc (v := ((nI i) + 1)) (lv' := [(6, .int ((nI i) + 1)), (7, .int v3), (0, .ref h), (1, .int v1), (2, .int v2), (3, .int v3), (4, .int v4), (5, .int v5)]) hx hb d_Mod_feed_106 hl (k := 1) rfl rfl (by decide) rfl (fun ls hl => ?_)
            refine lv_goto (tgt := 22) hx hb d_Mod_feed_109 (by decide) ?_
            rw [nI_1] at hl
            exact ih (i + 1) H locs ls hlt (by omega) hP hD hS (lv_sub hl [0, 2, 3, 4, 5, 6, 7] rfl)
        · refine lv_iload_n hx hb d_Mod_feed_46 rfl (lv_at hl 3 rfl) ?_
          refine lv_goto (tgt := 75) hx hb d_Mod_feed_47 (by decide) ?_
          refine lv_istore (lv' := [(7, .int v2), (6, .int (nI i)), (0, .ref h), (1, .int v1), (2, .int v2), (3, .int v3), (4, .int v4), (5, .int v5)]) hx hb d_Mod_feed_75 hl (by decide) rfl (fun ls hl => ?_)
          refine lv_aload_n hx hb d_Mod_feed_77 rfl (lv_at hl 2 rfl) ?_
          refine f_get (D := (dC, dI)) (ci := 12) (v := .ref a) (C := R_Mod) (T := F_Mod) (N := 167) hx hb hT in_Mod hown hK hP 0 rfl rfl 1 (by decide) fr_Mod_1 w_8_181 gF_1 d_Mod_feed_78 ?_
          refine lv_aload_n hx hb d_Mod_feed_81 rfl (lv_at hl 2 rfl) ?_
          refine f_get (D := (dC, dI)) (ci := 12) (v := .int (nI x)) (C := R_Mod) (T := F_Mod) (N := 167) hx hb hT in_Mod hown hK hP 0 rfl rfl 3 (by decide) fr_Mod_3 w_8_183 gF_3 d_Mod_feed_82 ?_
          refine lv_iload hx hb d_Mod_feed_85 (lv_at hl 1 rfl) ?_
          refine lv_iadd hx hb d_Mod_feed_87 ?_
          refine lv_iload hx hb d_Mod_feed_88 (lv_at hl 0 rfl) ?_
          refine lv_bipush (v := 24) hx hb d_Mod_feed_90 (by decide) ?_
          refine lv_bipush (v := 8) hx hb d_Mod_feed_92 (by decide) ?_
          refine lv_iload hx hb d_Mod_feed_94 (lv_at hl 1 rfl) ?_
          refine lv_iconst (v := 4) hx hb d_Mod_feed_96 (by decide) ?_
          refine lv_irem hx hb d_Mod_feed_97 (by decide) ?_
          refine lv_imul hx hb d_Mod_feed_98 ?_
          refine lv_isub hx hb d_Mod_feed_99 ?_
          refine lv_ishr hx hb d_Mod_feed_100 ?_
          refine lv_sipush (v := 255) hx hb d_Mod_feed_101 (by decide) ?_
          refine lv_iand hx hb d_Mod_feed_104 ?_
          refine va_iast hx hb hK hP hD hS 1 0 rfl rfl (in_add (by omega) (by decide)) d_Mod_feed_105 (fun H locs hP hD hS => ?_)
          have hP : va_P (dC, dI) CL [(h, .inr (12, F)), (a, .inl (cI, 40000, .inl (upd (fedN g x v1 v2 v3 v4 v5 i) (((nI x) + (nI i)) : Int32).toNatClampNeg ((v2 >>> ((24 - (8 * ((nI i) - (nI i) / 4 * 4))) &&& 31)) &&& 255))))] H := hP
          have hD : va_D A [(h, .inr (12, F)), (a, .inl (cI, 40000, .inl (upd (fedN g x v1 v2 v3 v4 v5 i) (((nI x) + (nI i)) : Int32).toNatClampNeg ((v2 >>> ((24 - (8 * ((nI i) - (nI i) / 4 * 4))) &&& 31)) &&& 255))))] := hD
          rw [fed_step (g := g) (x := x) (i := i) (by omega) (show ((v2 >>> ((24 - (8 * ((nI i) - (nI i) / 4 * 4))) &&& 31)) &&& 255) = fby v1 v2 v3 v4 v5 i from by simp [fby, c_2, c_3])] at hP hD
          refine lv_iinc (v := ((nI i) + 1)) (lv' := [(6, .int ((nI i) + 1)), (7, .int v2), (0, .ref h), (1, .int v1), (2, .int v2), (3, .int v3), (4, .int v4), (5, .int v5)]) hx hb d_Mod_feed_106 hl (k := 1) rfl rfl (by decide) rfl (fun ls hl => ?_)
          refine lv_goto (tgt := 22) hx hb d_Mod_feed_109 (by decide) ?_
          rw [nI_1] at hl
          exact ih (i + 1) H locs ls hlt (by omega) hP hD hS (lv_sub hl [0, 2, 3, 4, 5, 6, 7] rfl)
      · refine lv_iload_n hx hb d_Mod_feed_35 rfl (lv_at hl 2 rfl) ?_
        refine lv_goto (tgt := 75) hx hb d_Mod_feed_36 (by decide) ?_
        refine lv_istore (lv' := [(7, .int v1), (6, .int (nI i)), (0, .ref h), (1, .int v1), (2, .int v2), (3, .int v3), (4, .int v4), (5, .int v5)]) hx hb d_Mod_feed_75 hl (by decide) rfl (fun ls hl => ?_)
        refine lv_aload_n hx hb d_Mod_feed_77 rfl (lv_at hl 2 rfl) ?_
        refine f_get (D := (dC, dI)) (ci := 12) (v := .ref a) (C := R_Mod) (T := F_Mod) (N := 167) hx hb hT in_Mod hown hK hP 0 rfl rfl 1 (by decide) fr_Mod_1 w_8_181 gF_1 d_Mod_feed_78 ?_
        refine lv_aload_n hx hb d_Mod_feed_81 rfl (lv_at hl 2 rfl) ?_
        refine f_get (D := (dC, dI)) (ci := 12) (v := .int (nI x)) (C := R_Mod) (T := F_Mod) (N := 167) hx hb hT in_Mod hown hK hP 0 rfl rfl 3 (by decide) fr_Mod_3 w_8_183 gF_3 d_Mod_feed_82 ?_
        refine lv_iload hx hb d_Mod_feed_85 (lv_at hl 1 rfl) ?_
        refine lv_iadd hx hb d_Mod_feed_87 ?_
        refine lv_iload hx hb d_Mod_feed_88 (lv_at hl 0 rfl) ?_
        refine lv_bipush (v := 24) hx hb d_Mod_feed_90 (by decide) ?_
        refine lv_bipush (v := 8) hx hb d_Mod_feed_92 (by decide) ?_
        refine lv_iload hx hb d_Mod_feed_94 (lv_at hl 1 rfl) ?_
        refine lv_iconst (v := 4) hx hb d_Mod_feed_96 (by decide) ?_
        refine lv_irem hx hb d_Mod_feed_97 (by decide) ?_
        refine lv_imul hx hb d_Mod_feed_98 ?_
        refine lv_isub hx hb d_Mod_feed_99 ?_
        refine lv_ishr hx hb d_Mod_feed_100 ?_
        refine lv_sipush (v := 255) hx hb d_Mod_feed_101 (by decide) ?_
        refine lv_iand hx hb d_Mod_feed_104 ?_
        refine va_iast hx hb hK hP hD hS 1 0 rfl rfl (in_add (by omega) (by decide)) d_Mod_feed_105 (fun H locs hP hD hS => ?_)
        have hP : va_P (dC, dI) CL [(h, .inr (12, F)), (a, .inl (cI, 40000, .inl (upd (fedN g x v1 v2 v3 v4 v5 i) (((nI x) + (nI i)) : Int32).toNatClampNeg ((v1 >>> ((24 - (8 * ((nI i) - (nI i) / 4 * 4))) &&& 31)) &&& 255))))] H := hP
        have hD : va_D A [(h, .inr (12, F)), (a, .inl (cI, 40000, .inl (upd (fedN g x v1 v2 v3 v4 v5 i) (((nI x) + (nI i)) : Int32).toNatClampNeg ((v1 >>> ((24 - (8 * ((nI i) - (nI i) / 4 * 4))) &&& 31)) &&& 255))))] := hD
        rw [fed_step (g := g) (x := x) (i := i) (by omega) (show ((v1 >>> ((24 - (8 * ((nI i) - (nI i) / 4 * 4))) &&& 31)) &&& 255) = fby v1 v2 v3 v4 v5 i from by simp [fby, c_2])] at hP hD
        refine lv_iinc (v := ((nI i) + 1)) (lv' := [(6, .int ((nI i) + 1)), (7, .int v1), (0, .ref h), (1, .int v1), (2, .int v2), (3, .int v3), (4, .int v4), (5, .int v5)]) hx hb d_Mod_feed_106 hl (k := 1) rfl rfl (by decide) rfl (fun ls hl => ?_)
        refine lv_goto (tgt := 22) hx hb d_Mod_feed_109 (by decide) ?_
        rw [nI_1] at hl
        exact ih (i + 1) H locs ls hlt (by omega) hP hD hS (lv_sub hl [0, 2, 3, 4, 5, 6, 7] rfl)
set_option maxHeartbeats 4000000 in
set_option maxRecDepth 100000 in
/-- the model's feed, where there is room -/
theorem c_Mod_feed_fit (sz : Nat) (h : Nat) (F : List Value) (a x : Nat) (g : Nat → Int32) (v1 v2 v3 v4 v5 : Int32) (nF : F.length = 167) (gF_1 : F[1]? = some (.ref a)) (gF_3 : F[3]? = some (.int (nI x))) (hN0 : x + 20 ≤ 40000) : Met l y_Mod_feed (wsOf y_Mod_feed b_Mod_feed 8 (some (.boolean))) ({ frames := 0, cells := 0, slots := 0, locals := 0 }) (va_Pc [.ref h, .int v1, .int v2, .int v3, .int v4, .int v5] (PC dC dI cI cB cJ cZ sz [(h, .inr (12, F)), (a, .inl (cI, 40000, .inl g))])) (va_Qi (fun (r : Int32) (_ : Unit) => r = 1) (fun _ t => va_P (dC, dI) CL [(h, .inr (12, (F.set 0 (.int 0)).set 3 (.int ((nI x) + 20)))), (a, .inl (cI, 40000, .inl (fedN g x v1 v2 v3 v4 v5 20)))] t.heap ∧ va_D (va_A [(h, .inr (12, F)), (a, .inl (cI, 40000, .inl g))] sz) [(h, .inr (12, (F.set 0 (.int 0)).set 3 (.int ((nI x) + 20)))), (a, .inl (cI, 40000, .inl (fedN g x v1 v2 v3 v4 v5 20)))]) (va_A [(h, .inr (12, F)), (a, .inl (cI, 40000, .inl g))] sz)) 0 0 (va_A [(h, .inr (12, F)), (a, .inl (cI, 40000, .inl g))] sz) := by
  refine Met.ofW (cc := b_Mod_feed) (maxL := 8) (ret := some (.boolean)) (by decide) rfl ?_
  intro p e s m args below meth c s₁ B hml hv
  obtain ⟨rfl, hsz, hP, hK, hD0, hN⟩ := hv
  have hx := B.exec
  have hb := B.bytes
  have hr := B.returns
  have hts := atoms_spec B.pre
  have hT : ∀ w ∈ TG, w.before _ s = true := fun w h => hts w (List.mem_cons_of_mem _ h)
  have hown : s.vm.findClass R_Mod = some m.cls := findClass_of_methodNamed B.named
  have hlocks := B.notSynchronized
  subst hsz
  have hD := hD0.self (sz := s.heap.size)
  generalize hAe : va_A [(h, .inr (12, F)), (a, .inl (cI, 40000, .inl g))] s.heap.size = A at hD ⊢
  have hA : ∀ q : Nat, s.heap.size ≤ q → A q := fun q h => by rw [← hAe]; exact Or.inr h
  have hS : va_S A s.heap s.heap [] := va_S.rf
  have hl := lv_entry ([.ref h, .int v1, .int v2, .int v3, .int v4, .int v5]) (n := 8) (Nat.le_of_ble_eq_true rfl)
  rw [lg_entry_eq]
  generalize (lg_sl ([.ref h, .int v1, .int v2, .int v3, .int v4, .int v5]) ++ List.replicate (8 - (lg_sl ([.ref h, .int v1, .int v2, .int v3, .int v4, .int v5])).length) Slot.unset).toArray = ls at hl ⊢
  have hl : lv_has ls 8 [(0, .ref h), (1, .int v1), (2, .int v2), (3, .int v3), (4, .int v4), (5, .int v5)] := hl
  have h1 : nI x + 20 ≤ 40000 := by rw [show (20 : Int32) = nI 20 from rfl, show (40000 : Int32) = nI 40000 from rfl, nI_add]; exact nI_le (by omega) (by decide)
  refine lv_aload_n hx hb d_Mod_feed_0 rfl (lv_at hl 0 rfl) ?_
  refine lv_iconst (v := 0) hx hb d_Mod_feed_1 (by decide) ?_
  refine f_put (D := (dC, dI)) (ci := 12) (v := .int 0) (ty := .int) (C := R_Mod) (T := F_Mod) (N := 167) hx hb hT in_Mod t_Mod t_Mod_ok n_Mod hown hK hP hD hS 0 rfl rfl 0 (by decide) fr_Mod_0 w_8_180 (by decide +kernel) rfl rfl (by rw [nF]; decide) d_Mod_feed_2 (fun H locs hP hD hS => ?_)
  have hP : va_P (dC, dI) CL [(h, .inr (12, F.set 0 (.int 0))), (a, .inl (cI, 40000, .inl g))] H := hP
  have hD : va_D A [(h, .inr (12, F.set 0 (.int 0))), (a, .inl (cI, 40000, .inl g))] := hD
  refine lv_aload_n hx hb d_Mod_feed_5 rfl (lv_at hl 0 rfl) ?_
  refine f_get (D := (dC, dI)) (ci := 12) (v := .int (nI x)) (C := R_Mod) (T := F_Mod) (N := 167) hx hb hT in_Mod hown hK hP 0 rfl rfl 3 (by decide) fr_Mod_3 w_8_183 ((List.getElem?_set_ne (by decide)).trans gF_3) d_Mod_feed_6 ?_
  refine lv_bipush (v := 20) hx hb d_Mod_feed_9 (by decide) ?_
  refine lv_iadd hx hb d_Mod_feed_11 ?_
  refine lv_ldc hx hb hown (hT _ w_8_175) d_Mod_feed_12 ?_
  refine lv_icmp_le (tgt := 19) hx hb d_Mod_feed_14 (by decide) (fun c1 => ?_) (fun c1 => absurd h1 c1)
  refine lv_iconst (v := 0) hx hb d_Mod_feed_19 (by decide) ?_
  refine lv_istore (lv' := [(6, .int 0), (0, .ref h), (1, .int v1), (2, .int v2), (3, .int v3), (4, .int v4), (5, .int v5)]) hx hb d_Mod_feed_20 hl (by decide) rfl (fun ls hl => ?_)
  rw [show (0 : Int32) = nI 0 from rfl] at hl
  refine lp_Mod_feed (F := F.set 0 (.int 0)) (g := g) (x := x) hx hb hT hown hK hN0 (by rw [List.length_set]; exact nF) ((List.getElem?_set_ne (by decide)).trans gF_1) ((List.getElem?_set_ne (by decide)).trans gF_3) (fun H locs ls hP hD hS hl => ?_) 21 0 _ _ ls (by decide) (by decide) (by rw [fed_0]; exact hP) (by rw [fed_0]; exact hD) hS (lv_sub hl [0, 1, 2, 3, 4, 5, 6] rfl)
  refine lv_aload_n hx hb d_Mod_feed_112 rfl (lv_at hl 1 rfl) ?_
  refine lv_dup hx hb d_Mod_feed_113 rfl ?_
  refine f_get (D := (dC, dI)) (ci := 12) (v := .int (nI x)) (C := R_Mod) (T := F_Mod) (N := 167) hx hb hT in_Mod hown hK hP 0 rfl rfl 3 (by decide) fr_Mod_3 w_8_183 ((List.getElem?_set_ne (by decide)).trans gF_3) d_Mod_feed_114 ?_
  refine lv_bipush (v := 20) hx hb d_Mod_feed_117 (by decide) ?_
  refine lv_iadd hx hb d_Mod_feed_119 ?_
  refine f_put (D := (dC, dI)) (ci := 12) (v := .int ((nI x) + 20)) (ty := .int) (C := R_Mod) (T := F_Mod) (N := 167) hx hb hT in_Mod t_Mod t_Mod_ok n_Mod hown hK hP hD hS 0 rfl rfl 3 (by decide) fr_Mod_3 w_8_183 (by decide +kernel) rfl rfl (by rw [List.length_set]; exact (by rw [nF]; decide)) d_Mod_feed_120 (fun H locs hP hD hS => ?_)
  have hP : va_P (dC, dI) CL [(h, .inr (12, (F.set 0 (.int 0)).set 3 (.int ((nI x) + 20)))), (a, .inl (cI, 40000, .inl (fedN g x v1 v2 v3 v4 v5 20)))] H := hP
  have hD : va_D A [(h, .inr (12, (F.set 0 (.int 0)).set 3 (.int ((nI x) + 20)))), (a, .inl (cI, 40000, .inl (fedN g x v1 v2 v3 v4 v5 20)))] := hD
  refine lv_iconst (v := 1) hx hb d_Mod_feed_123 (by decide) ?_
  exact W.zret (v := 1) (ty := .boolean) hx hb hr rfl (fun t ht hW => ⟨⟨1, (), rfl, rfl, by rw [ht]; exact hP, hD⟩, hS.F ht⟩) hS.2.2 d_Mod_feed_124
end
