theorem w_10_223 : (Jvm.Cond.methodLink "StripedVaultModel" (401 : Nat) ({ cls := "StripedVaultModel", name := "sees", desc := "(J)Z" } : Jvm.MethodName)) ∈ TG := tw_10 223 (by decide +kernel) (by decide +kernel)
theorem w_10_225 : (Jvm.Cond.instanceMethod ({ cls := "StripedVaultModel", name := "sees", desc := "(J)Z" } : Jvm.MethodName)) ∈ TG := tw_10 225 (by decide +kernel) (by decide +kernel)
theorem w_10_226 : (Jvm.Cond.code ({ cls := "StripedVaultModel", name := "sees", desc := "(J)Z" } : Jvm.MethodName) prog_14_method_13_code (3 : Nat) (Option.some Jvm.ClassFile.FieldType.boolean)) ∈ TG := tw_10 226 (by decide +kernel) (by decide +kernel)
theorem w_10_227 : (Jvm.Cond.methodLink "StripedVaultModel" (394 : Nat) ({ cls := "StripedVaultModel", name := "blanks", desc := "()V" } : Jvm.MethodName)) ∈ TG := tw_10 227 (by decide +kernel) (by decide +kernel)
theorem w_10_229 : (Jvm.Cond.instanceMethod ({ cls := "StripedVaultModel", name := "blanks", desc := "()V" } : Jvm.MethodName)) ∈ TG := tw_10 229 (by decide +kernel) (by decide +kernel)
theorem w_10_230 : (Jvm.Cond.code ({ cls := "StripedVaultModel", name := "blanks", desc := "()V" } : Jvm.MethodName) prog_14_method_8_code (1 : Nat) (Option.none : Option Jvm.ClassFile.FieldType)) ∈ TG := tw_10 230 (by decide +kernel) (by decide +kernel)
theorem w_10_235 : (Jvm.Cond.methodLink "StripedVaultModel" (397 : Nat) ({ cls := "StripedVaultModel", name := "wordOf", desc := "(I)J" } : Jvm.MethodName)) ∈ TG := tw_10 235 (by decide +kernel) (by decide +kernel)
theorem w_10_237 : (Jvm.Cond.instanceMethod ({ cls := "StripedVaultModel", name := "wordOf", desc := "(I)J" } : Jvm.MethodName)) ∈ TG := tw_10 237 (by decide +kernel) (by decide +kernel)
theorem w_10_238 : (Jvm.Cond.code ({ cls := "StripedVaultModel", name := "wordOf", desc := "(I)J" } : Jvm.MethodName) prog_14_method_12_code (6 : Nat) (Option.some Jvm.ClassFile.FieldType.long)) ∈ TG := tw_10 238 (by decide +kernel) (by decide +kernel)
theorem w_11_24 : (Jvm.Cond.methodLink "StripedVaultModel" (420 : Nat) ({ cls := "StripedVaultModel", name := "deep", desc := "(II)I" } : Jvm.MethodName)) ∈ TG := tw_11 24 (by decide +kernel) (by decide +kernel)
theorem w_11_26 : (Jvm.Cond.instanceMethod ({ cls := "StripedVaultModel", name := "deep", desc := "(II)I" } : Jvm.MethodName)) ∈ TG := tw_11 26 (by decide +kernel) (by decide +kernel)
theorem w_11_27 : (Jvm.Cond.code ({ cls := "StripedVaultModel", name := "deep", desc := "(II)I" } : Jvm.MethodName) prog_14_method_23_code (5 : Nat) (Option.some Jvm.ClassFile.FieldType.int)) ∈ TG := tw_11 27 (by decide +kernel) (by decide +kernel)
theorem w_11_28 : (Jvm.Cond.methodLink "StripedVaultModel" (412 : Nat) ({ cls := "StripedVaultModel", name := "place", desc := "(II)I" } : Jvm.MethodName)) ∈ TG := tw_11 28 (by decide +kernel) (by decide +kernel)
theorem w_11_29 : (Jvm.Cond.static ({ cls := "StripedVaultModel", name := "place", desc := "(II)I" } : Jvm.MethodName)) ∈ TG := tw_11 29 (by decide +kernel) (by decide +kernel)
theorem w_11_30 : (Jvm.Cond.code ({ cls := "StripedVaultModel", name := "place", desc := "(II)I" } : Jvm.MethodName) prog_14_method_17_code (2 : Nat) (Option.some Jvm.ClassFile.FieldType.int)) ∈ TG := tw_11 30 (by decide +kernel) (by decide +kernel)
theorem ws_110 : Cond.selects R_Mod y_Mod_sees y_Mod_sees ∈ TG := tw_s 110 (by decide +kernel) (by decide +kernel)
theorem ws_111 : Cond.selects R_Mod y_Mod_blanks y_Mod_blanks ∈ TG := tw_s 111 (by decide +kernel) (by decide +kernel)
theorem ws_113 : Cond.selects R_Mod y_Mod_wordOf y_Mod_wordOf ∈ TG := tw_s 113 (by decide +kernel) (by decide +kernel)
theorem ws_117 : Cond.selects R_Mod y_Mod_deep y_Mod_deep ∈ TG := tw_s 117 (by decide +kernel) (by decide +kernel)
theorem d_Mod_sees_29 : decode b_Mod_sees 29 = .ok (.iconst 0, 1) := by decide +kernel
theorem d_Mod_sees_30 : decode b_Mod_sees 30 = .ok (.ireturn, 1) := by decide +kernel
theorem d_Mod_sees_0 : decode b_Mod_sees 0 = .ok (.aload_n 0, 1) := by decide +kernel
theorem d_Mod_sees_1 : decode b_Mod_sees 1 = .ok (.invokevirtual 394, 3) := by decide +kernel
theorem d_Mod_sees_4 : decode b_Mod_sees 4 = .ok (.aload_n 0, 1) := by decide +kernel
theorem d_Mod_sees_5 : decode b_Mod_sees 5 = .ok (.getfield 376, 3) := by decide +kernel
theorem d_Mod_sees_8 : decode b_Mod_sees 8 = .ok (.iconst (-1), 1) := by decide +kernel
theorem d_Mod_sees_9 : decode b_Mod_sees 9 = .ok (.if_icmp .ne 20, 3) := by decide +kernel
theorem d_Mod_sees_12 : decode b_Mod_sees 12 = .ok (.aload_n 0, 1) := by decide +kernel
theorem d_Mod_sees_13 : decode b_Mod_sees 13 = .ok (.aload_n 0, 1) := by decide +kernel
theorem d_Mod_sees_14 : decode b_Mod_sees 14 = .ok (.getfield 373, 3) := by decide +kernel
theorem d_Mod_sees_17 : decode b_Mod_sees 17 = .ok (.invokevirtual 397, 3) := by decide +kernel
theorem d_Mod_sees_20 : decode b_Mod_sees 20 = .ok (.lload_n 1, 1) := by decide +kernel
theorem d_Mod_sees_21 : decode b_Mod_sees 21 = .ok (.lcmp, 1) := by decide +kernel
theorem d_Mod_sees_22 : decode b_Mod_sees 22 = .ok (.ifCond .ne 7, 3) := by decide +kernel
theorem d_Mod_sees_25 : decode b_Mod_sees 25 = .ok (.iconst 1, 1) := by decide +kernel
theorem d_Mod_sees_26 : decode b_Mod_sees 26 = .ok (.goto 4, 3) := by decide +kernel
theorem d_Mod_takesWord_0 : decode b_Mod_takesWord 0 = .ok (.aload_n 0, 1) := by decide +kernel
theorem d_Mod_takesWord_1 : decode b_Mod_takesWord 1 = .ok (.lload_n 1, 1) := by decide +kernel
theorem d_Mod_takesWord_2 : decode b_Mod_takesWord 2 = .ok (.invokevirtual 401, 3) := by decide +kernel
theorem d_Mod_takesWord_5 : decode b_Mod_takesWord 5 = .ok (.ifCond .ne 5, 3) := by decide +kernel
theorem d_Mod_takesWord_10 : decode b_Mod_takesWord 10 = .ok (.aload_n 0, 1) := by decide +kernel
theorem d_Mod_takesWord_11 : decode b_Mod_takesWord 11 = .ok (.dup, 1) := by decide +kernel
theorem d_Mod_takesWord_12 : decode b_Mod_takesWord 12 = .ok (.getfield 373, 3) := by decide +kernel
theorem d_Mod_takesWord_15 : decode b_Mod_takesWord 15 = .ok (.aload_n 0, 1) := by decide +kernel
theorem d_Mod_takesWord_16 : decode b_Mod_takesWord 16 = .ok (.aload_n 0, 1) := by decide +kernel
theorem d_Mod_takesWord_17 : decode b_Mod_takesWord 17 = .ok (.getfield 373, 3) := by decide +kernel
theorem d_Mod_takesWord_20 : decode b_Mod_takesWord 20 = .ok (.invokevirtual 390, 3) := by decide +kernel
theorem d_Mod_takesWord_23 : decode b_Mod_takesWord 23 = .ok (.iadd, 1) := by decide +kernel
theorem d_Mod_takesWord_24 : decode b_Mod_takesWord 24 = .ok (.putfield 373, 3) := by decide +kernel
theorem d_Mod_takesWord_27 : decode b_Mod_takesWord 27 = .ok (.iconst 1, 1) := by decide +kernel
theorem d_Mod_takesWord_28 : decode b_Mod_takesWord 28 = .ok (.ireturn, 1) := by decide +kernel
theorem d_Mod_takesWord_8 : decode b_Mod_takesWord 8 = .ok (.iconst 0, 1) := by decide +kernel
theorem d_Mod_takesWord_9 : decode b_Mod_takesWord 9 = .ok (.ireturn, 1) := by decide +kernel
theorem d_Mod_fail_0 : decode b_Mod_fail 0 = .ok (.aload_n 0, 1) := by decide +kernel
theorem d_Mod_fail_1 : decode b_Mod_fail 1 = .ok (.getfield 376, 3) := by decide +kernel
theorem d_Mod_fail_4 : decode b_Mod_fail 4 = .ok (.iconst (-1), 1) := by decide +kernel
theorem d_Mod_fail_5 : decode b_Mod_fail 5 = .ok (.if_icmp .ne 8, 3) := by decide +kernel
theorem d_Mod_fail_13 : decode b_Mod_fail 13 = .ok (.return_, 1) := by decide +kernel
theorem d_Mod_fail_8 : decode b_Mod_fail 8 = .ok (.aload_n 0, 1) := by decide +kernel
theorem d_Mod_fail_9 : decode b_Mod_fail 9 = .ok (.iload_n 1, 1) := by decide +kernel
theorem d_Mod_fail_10 : decode b_Mod_fail 10 = .ok (.putfield 376, 3) := by decide +kernel
theorem d_Mod_place_0 : decode b_Mod_place 0 = .ok (.sipush 128, 3) := by decide +kernel
theorem d_Mod_place_3 : decode b_Mod_place 3 = .ok (.iload_n 0, 1) := by decide +kernel
theorem d_Mod_place_4 : decode b_Mod_place 4 = .ok (.imul, 1) := by decide +kernel
theorem d_Mod_place_5 : decode b_Mod_place 5 = .ok (.iload_n 1, 1) := by decide +kernel
theorem d_Mod_place_6 : decode b_Mod_place 6 = .ok (.iadd, 1) := by decide +kernel
theorem d_Mod_place_7 : decode b_Mod_place 7 = .ok (.ireturn, 1) := by decide +kernel
theorem d_Mod_deep_5 : decode b_Mod_deep 5 = .ok (.iload 4, 2) := by decide +kernel
theorem d_Mod_deep_7 : decode b_Mod_deep 7 = .ok (.iconst (-1), 1) := by decide +kernel
theorem d_Mod_deep_8 : decode b_Mod_deep 8 = .ok (.if_icmp .eq 22, 3) := by decide +kernel
theorem d_Mod_deep_30 : decode b_Mod_deep 30 = .ok (.iload_n 3, 1) := by decide +kernel
theorem d_Mod_deep_31 : decode b_Mod_deep 31 = .ok (.ireturn, 1) := by decide +kernel
theorem d_Mod_deep_11 : decode b_Mod_deep 11 = .ok (.iinc 3 1, 3) := by decide +kernel
theorem d_Mod_deep_14 : decode b_Mod_deep 14 = .ok (.aload_n 0, 1) := by decide +kernel
theorem d_Mod_deep_15 : decode b_Mod_deep 15 = .ok (.getfield 23, 3) := by decide +kernel
theorem d_Mod_deep_18 : decode b_Mod_deep 18 = .ok (.iload_n 1, 1) := by decide +kernel
theorem d_Mod_deep_19 : decode b_Mod_deep 19 = .ok (.iload 4, 2) := by decide +kernel
theorem d_Mod_deep_21 : decode b_Mod_deep 21 = .ok (.invokestatic 412, 3) := by decide +kernel
theorem d_Mod_deep_24 : decode b_Mod_deep 24 = .ok (.iaload, 1) := by decide +kernel
theorem d_Mod_deep_25 : decode b_Mod_deep 25 = .ok (.istore 4, 2) := by decide +kernel
theorem d_Mod_deep_27 : decode b_Mod_deep 27 = .ok (.goto (-22), 3) := by decide +kernel
theorem d_Mod_deep_0 : decode b_Mod_deep 0 = .ok (.iconst 0, 1) := by decide +kernel
theorem d_Mod_deep_1 : decode b_Mod_deep 1 = .ok (.istore_n 3, 1) := by decide +kernel
theorem d_Mod_deep_2 : decode b_Mod_deep 2 = .ok (.iload_n 2, 1) := by decide +kernel
theorem d_Mod_deep_3 : decode b_Mod_deep 3 = .ok (.istore 4, 2) := by decide +kernel
theorem d_Mod_mayCome_46 : decode b_Mod_mayCome 46 = .ok (.iconst 0, 1) := by decide +kernel
theorem d_Mod_mayCome_47 : decode b_Mod_mayCome 47 = .ok (.ireturn, 1) := by decide +kernel
theorem d_Mod_mayCome_42 : decode b_Mod_mayCome 42 = .ok (.iconst 1, 1) := by decide +kernel
theorem d_Mod_mayCome_43 : decode b_Mod_mayCome 43 = .ok (.goto 4, 3) := by decide +kernel
theorem d_Mod_mayCome_0 : decode b_Mod_mayCome 0 = .ok (.aload_n 0, 1) := by decide +kernel
theorem d_Mod_mayCome_1 : decode b_Mod_mayCome 1 = .ok (.getfield 35, 3) := by decide +kernel
theorem d_Mod_mayCome_4 : decode b_Mod_mayCome 4 = .ok (.iconst 2, 1) := by decide +kernel
theorem d_Mod_mayCome_5 : decode b_Mod_mayCome 5 = .ok (.iaload, 1) := by decide +kernel
theorem d_Mod_mayCome_6 : decode b_Mod_mayCome 6 = .ok (.sipush 128, 3) := by decide +kernel
theorem d_Mod_mayCome_9 : decode b_Mod_mayCome 9 = .ok (.if_icmp .ge 37, 3) := by decide +kernel
theorem d_Mod_mayCome_12 : decode b_Mod_mayCome 12 = .ok (.iload_n 1, 1) := by decide +kernel
theorem d_Mod_mayCome_13 : decode b_Mod_mayCome 13 = .ok (.iconst 4, 1) := by decide +kernel
theorem d_Mod_mayCome_14 : decode b_Mod_mayCome 14 = .ok (.if_icmp .ne 17, 3) := by decide +kernel
theorem d_Mod_mayCome_31 : decode b_Mod_mayCome 31 = .ok (.aload_n 0, 1) := by decide +kernel
theorem d_Mod_mayCome_32 : decode b_Mod_mayCome 32 = .ok (.getfield 38, 3) := by decide +kernel
theorem d_Mod_mayCome_35 : decode b_Mod_mayCome 35 = .ok (.iconst 2, 1) := by decide +kernel
theorem d_Mod_mayCome_36 : decode b_Mod_mayCome 36 = .ok (.iaload, 1) := by decide +kernel
theorem d_Mod_mayCome_37 : decode b_Mod_mayCome 37 = .ok (.bipush 64, 2) := by decide +kernel
theorem d_Mod_mayCome_39 : decode b_Mod_mayCome 39 = .ok (.if_icmp .ge 7, 3) := by decide +kernel
theorem d_Mod_mayCome_17 : decode b_Mod_mayCome 17 = .ok (.aload_n 0, 1) := by decide +kernel
theorem d_Mod_mayCome_18 : decode b_Mod_mayCome 18 = .ok (.iconst 2, 1) := by decide +kernel
theorem d_Mod_mayCome_19 : decode b_Mod_mayCome 19 = .ok (.iload_n 2, 1) := by decide +kernel
theorem d_Mod_mayCome_20 : decode b_Mod_mayCome 20 = .ok (.invokevirtual 420, 3) := by decide +kernel
theorem d_Mod_mayCome_23 : decode b_Mod_mayCome 23 = .ok (.bipush 16, 2) := by decide +kernel
theorem d_Mod_mayCome_25 : decode b_Mod_mayCome 25 = .ok (.if_icmp .ge 21, 3) := by decide +kernel
theorem d_Mod_mayCome_28 : decode b_Mod_mayCome 28 = .ok (.goto 14, 3) := by decide +kernel
theorem d_Mod_find_118 : decode b_Mod_find 118 = .ok (.istore 6, 2) := by decide +kernel
theorem d_Mod_find_120 : decode b_Mod_find 120 = .ok (.iinc 7 1, 3) := by decide +kernel
theorem d_Mod_find_123 : decode b_Mod_find 123 = .ok (.goto (-117), 3) := by decide +kernel
theorem d_Mod_find_106 : decode b_Mod_find 106 = .ok (.iload 9, 2) := by decide +kernel
theorem d_Mod_find_108 : decode b_Mod_find 108 = .ok (.ifCond .eq 8, 3) := by decide +kernel
theorem d_Mod_find_116 : decode b_Mod_find 116 = .ok (.iload 6, 2) := by decide +kernel
theorem d_Mod_find_111 : decode b_Mod_find 111 = .ok (.iload 7, 2) := by decide +kernel
theorem d_Mod_find_113 : decode b_Mod_find 113 = .ok (.goto 5, 3) := by decide +kernel
theorem d_Mod_find_98 : decode b_Mod_find 98 = .ok (.istore 9, 2) := by decide +kernel
theorem d_Mod_find_100 : decode b_Mod_find 100 = .ok (.iinc 10 1, 3) := by decide +kernel
theorem d_Mod_find_103 : decode b_Mod_find 103 = .ok (.goto (-45), 3) := by decide +kernel
theorem d_Mod_find_58 : decode b_Mod_find 58 = .ok (.iload 9, 2) := by decide +kernel
theorem d_Mod_find_60 : decode b_Mod_find 60 = .ok (.ifCond .eq 46, 3) := by decide +kernel
theorem d_Mod_find_63 : decode b_Mod_find 63 = .ok (.iload 10, 2) := by decide +kernel
theorem d_Mod_find_65 : decode b_Mod_find 65 = .ok (.iload 5, 2) := by decide +kernel
theorem d_Mod_find_67 : decode b_Mod_find 67 = .ok (.if_icmp .ge 39, 3) := by decide +kernel
theorem d_Mod_find_70 : decode b_Mod_find 70 = .ok (.aload_n 0, 1) := by decide +kernel
theorem d_Mod_find_71 : decode b_Mod_find 71 = .ok (.getfield 32, 3) := by decide +kernel
theorem d_Mod_find_74 : decode b_Mod_find 74 = .ok (.bipush 16, 2) := by decide +kernel
theorem d_Mod_find_76 : decode b_Mod_find 76 = .ok (.iload 8, 2) := by decide +kernel
theorem d_Mod_find_78 : decode b_Mod_find 78 = .ok (.imul, 1) := by decide +kernel
theorem d_Mod_find_79 : decode b_Mod_find 79 = .ok (.iload 10, 2) := by decide +kernel
theorem d_Mod_find_81 : decode b_Mod_find 81 = .ok (.iadd, 1) := by decide +kernel
theorem d_Mod_find_82 : decode b_Mod_find 82 = .ok (.iaload, 1) := by decide +kernel
theorem d_Mod_find_83 : decode b_Mod_find 83 = .ok (.aload_n 3, 1) := by decide +kernel
theorem d_Mod_find_84 : decode b_Mod_find 84 = .ok (.iload 4, 2) := by decide +kernel
theorem d_Mod_find_86 : decode b_Mod_find 86 = .ok (.iload 10, 2) := by decide +kernel
theorem d_Mod_find_88 : decode b_Mod_find 88 = .ok (.iadd, 1) := by decide +kernel
theorem d_Mod_find_89 : decode b_Mod_find 89 = .ok (.iaload, 1) := by decide +kernel
theorem d_Mod_find_90 : decode b_Mod_find 90 = .ok (.if_icmp .ne 7, 3) := by decide +kernel
theorem d_Mod_find_97 : decode b_Mod_find 97 = .ok (.iconst 0, 1) := by decide +kernel
theorem d_Mod_find_93 : decode b_Mod_find 93 = .ok (.iconst 1, 1) := by decide +kernel
theorem d_Mod_find_94 : decode b_Mod_find 94 = .ok (.goto 4, 3) := by decide +kernel
theorem d_Mod_find_53 : decode b_Mod_find 53 = .ok (.istore 9, 2) := by decide +kernel
theorem d_Mod_find_55 : decode b_Mod_find 55 = .ok (.iconst 0, 1) := by decide +kernel
theorem d_Mod_find_56 : decode b_Mod_find 56 = .ok (.istore 10, 2) := by decide +kernel
theorem d_Mod_find_52 : decode b_Mod_find 52 = .ok (.iconst 0, 1) := by decide +kernel
theorem d_Mod_find_6 : decode b_Mod_find 6 = .ok (.iload 7, 2) := by decide +kernel
theorem d_Mod_find_8 : decode b_Mod_find 8 = .ok (.aload_n 0, 1) := by decide +kernel
theorem d_Mod_find_9 : decode b_Mod_find 9 = .ok (.getfield 35, 3) := by decide +kernel
theorem d_Mod_find_12 : decode b_Mod_find 12 = .ok (.iload_n 1, 1) := by decide +kernel
theorem d_Mod_find_13 : decode b_Mod_find 13 = .ok (.iaload, 1) := by decide +kernel
theorem d_Mod_find_14 : decode b_Mod_find 14 = .ok (.if_icmp .ge 112, 3) := by decide +kernel
theorem d_Mod_find_126 : decode b_Mod_find 126 = .ok (.iload 6, 2) := by decide +kernel
theorem d_Mod_find_128 : decode b_Mod_find 128 = .ok (.ireturn, 1) := by decide +kernel
theorem d_Mod_find_17 : decode b_Mod_find 17 = .ok (.iload_n 1, 1) := by decide +kernel
theorem d_Mod_find_18 : decode b_Mod_find 18 = .ok (.iload 7, 2) := by decide +kernel
theorem d_Mod_find_20 : decode b_Mod_find 20 = .ok (.invokestatic 412, 3) := by decide +kernel
theorem d_Mod_find_23 : decode b_Mod_find 23 = .ok (.istore 8, 2) := by decide +kernel
theorem d_Mod_find_25 : decode b_Mod_find 25 = .ok (.aload_n 0, 1) := by decide +kernel
theorem d_Mod_find_26 : decode b_Mod_find 26 = .ok (.getfield 23, 3) := by decide +kernel
theorem d_Mod_find_29 : decode b_Mod_find 29 = .ok (.iload 8, 2) := by decide +kernel
theorem d_Mod_find_31 : decode b_Mod_find 31 = .ok (.iaload, 1) := by decide +kernel
theorem d_Mod_find_32 : decode b_Mod_find 32 = .ok (.iload_n 2, 1) := by decide +kernel
theorem d_Mod_find_33 : decode b_Mod_find 33 = .ok (.if_icmp .ne 19, 3) := by decide +kernel
theorem d_Mod_find_36 : decode b_Mod_find 36 = .ok (.aload_n 0, 1) := by decide +kernel
theorem d_Mod_find_37 : decode b_Mod_find 37 = .ok (.getfield 29, 3) := by decide +kernel
theorem d_Mod_find_40 : decode b_Mod_find 40 = .ok (.iload 8, 2) := by decide +kernel
theorem d_Mod_find_42 : decode b_Mod_find 42 = .ok (.iaload, 1) := by decide +kernel
theorem d_Mod_find_43 : decode b_Mod_find 43 = .ok (.iload 5, 2) := by decide +kernel
theorem d_Mod_find_45 : decode b_Mod_find 45 = .ok (.if_icmp .ne 7, 3) := by decide +kernel
theorem d_Mod_find_48 : decode b_Mod_find 48 = .ok (.iconst 1, 1) := by decide +kernel
theorem d_Mod_find_49 : decode b_Mod_find 49 = .ok (.goto 4, 3) := by decide +kernel
theorem d_Mod_find_0 : decode b_Mod_find 0 = .ok (.iconst (-1), 1) := by decide +kernel
theorem d_Mod_find_1 : decode b_Mod_find 1 = .ok (.istore 6, 2) := by decide +kernel
theorem d_Mod_find_3 : decode b_Mod_find 3 = .ok (.iconst 0, 1) := by decide +kernel
theorem d_Mod_find_4 : decode b_Mod_find 4 = .ok (.istore 7, 2) := by decide +kernel
theorem d_Mod_addField_140 : decode b_Mod_addField 140 = .ok (.aload_n 0, 1) := by decide +kernel
theorem d_Mod_addField_141 : decode b_Mod_addField 141 = .ok (.getfield 35, 3) := by decide +kernel
theorem d_Mod_addField_144 : decode b_Mod_addField 144 = .ok (.iconst 2, 1) := by decide +kernel
theorem d_Mod_addField_145 : decode b_Mod_addField 145 = .ok (.dup2, 1) := by decide +kernel
theorem d_Mod_addField_146 : decode b_Mod_addField 146 = .ok (.iaload, 1) := by decide +kernel
theorem d_Mod_addField_147 : decode b_Mod_addField 147 = .ok (.iconst 1, 1) := by decide +kernel
theorem d_Mod_addField_148 : decode b_Mod_addField 148 = .ok (.iadd, 1) := by decide +kernel
theorem d_Mod_addField_149 : decode b_Mod_addField 149 = .ok (.iastore, 1) := by decide +kernel
theorem d_Mod_addField_150 : decode b_Mod_addField 150 = .ok (.return_, 1) := by decide +kernel
theorem d_Mod_addField_103 : decode b_Mod_addField 103 = .ok (.iastore, 1) := by decide +kernel
theorem d_Mod_addField_104 : decode b_Mod_addField 104 = .ok (.iload_n 2, 1) := by decide +kernel
theorem d_Mod_addField_105 : decode b_Mod_addField 105 = .ok (.iconst 4, 1) := by decide +kernel
theorem d_Mod_addField_106 : decode b_Mod_addField 106 = .ok (.if_icmp .eq 34, 3) := by decide +kernel
theorem d_Mod_addField_109 : decode b_Mod_addField 109 = .ok (.aload_n 0, 1) := by decide +kernel
theorem d_Mod_addField_110 : decode b_Mod_addField 110 = .ok (.getfield 41, 3) := by decide +kernel
theorem d_Mod_addField_113 : decode b_Mod_addField 113 = .ok (.sipush 128, 3) := by decide +kernel
theorem d_Mod_addField_116 : decode b_Mod_addField 116 = .ok (.aload_n 0, 1) := by decide +kernel
theorem d_Mod_addField_117 : decode b_Mod_addField 117 = .ok (.getfield 38, 3) := by decide +kernel
theorem d_Mod_addField_120 : decode b_Mod_addField 120 = .ok (.iconst 2, 1) := by decide +kernel
theorem d_Mod_addField_121 : decode b_Mod_addField 121 = .ok (.iaload, 1) := by decide +kernel
theorem d_Mod_addField_122 : decode b_Mod_addField 122 = .ok (.iadd, 1) := by decide +kernel
theorem d_Mod_addField_123 : decode b_Mod_addField 123 = .ok (.aload_n 0, 1) := by decide +kernel
theorem d_Mod_addField_124 : decode b_Mod_addField 124 = .ok (.getfield 35, 3) := by decide +kernel
theorem d_Mod_addField_127 : decode b_Mod_addField 127 = .ok (.iconst 2, 1) := by decide +kernel
theorem d_Mod_addField_128 : decode b_Mod_addField 128 = .ok (.iaload, 1) := by decide +kernel
theorem d_Mod_addField_129 : decode b_Mod_addField 129 = .ok (.iastore, 1) := by decide +kernel
theorem d_Mod_addField_130 : decode b_Mod_addField 130 = .ok (.aload_n 0, 1) := by decide +kernel
theorem d_Mod_addField_131 : decode b_Mod_addField 131 = .ok (.getfield 38, 3) := by decide +kernel
theorem d_Mod_addField_134 : decode b_Mod_addField 134 = .ok (.iconst 2, 1) := by decide +kernel
theorem d_Mod_addField_135 : decode b_Mod_addField 135 = .ok (.dup2, 1) := by decide +kernel
theorem d_Mod_addField_136 : decode b_Mod_addField 136 = .ok (.iaload, 1) := by decide +kernel
theorem d_Mod_addField_137 : decode b_Mod_addField 137 = .ok (.iconst 1, 1) := by decide +kernel
theorem d_Mod_addField_138 : decode b_Mod_addField 138 = .ok (.iadd, 1) := by decide +kernel
theorem d_Mod_addField_139 : decode b_Mod_addField 139 = .ok (.iastore, 1) := by decide +kernel
theorem d_Mod_addField_48 : decode b_Mod_addField 48 = .ok (.iload 8, 2) := by decide +kernel
theorem d_Mod_addField_50 : decode b_Mod_addField 50 = .ok (.iload 6, 2) := by decide +kernel
theorem d_Mod_addField_52 : decode b_Mod_addField 52 = .ok (.if_icmp .ge 30, 3) := by decide +kernel
theorem d_Mod_addField_82 : decode b_Mod_addField 82 = .ok (.aload_n 0, 1) := by decide +kernel
theorem d_Mod_addField_83 : decode b_Mod_addField 83 = .ok (.getfield 26, 3) := by decide +kernel
theorem d_Mod_addField_86 : decode b_Mod_addField 86 = .ok (.iload 7, 2) := by decide +kernel
theorem d_Mod_addField_88 : decode b_Mod_addField 88 = .ok (.iload_n 2, 1) := by decide +kernel
theorem d_Mod_addField_89 : decode b_Mod_addField 89 = .ok (.iconst 4, 1) := by decide +kernel
theorem d_Mod_addField_90 : decode b_Mod_addField 90 = .ok (.if_icmp .ne 7, 3) := by decide +kernel
theorem d_Mod_addField_97 : decode b_Mod_addField 97 = .ok (.aload_n 0, 1) := by decide +kernel
theorem d_Mod_addField_98 : decode b_Mod_addField 98 = .ok (.getfield 38, 3) := by decide +kernel
theorem d_Mod_addField_101 : decode b_Mod_addField 101 = .ok (.iconst 2, 1) := by decide +kernel
theorem d_Mod_addField_102 : decode b_Mod_addField 102 = .ok (.iaload, 1) := by decide +kernel
theorem d_Mod_addField_93 : decode b_Mod_addField 93 = .ok (.iconst (-1), 1) := by decide +kernel
theorem d_Mod_addField_94 : decode b_Mod_addField 94 = .ok (.goto 9, 3) := by decide +kernel
theorem d_Mod_addField_55 : decode b_Mod_addField 55 = .ok (.aload_n 0, 1) := by decide +kernel
theorem d_Mod_addField_56 : decode b_Mod_addField 56 = .ok (.getfield 32, 3) := by decide +kernel
theorem d_Mod_addField_59 : decode b_Mod_addField 59 = .ok (.bipush 16, 2) := by decide +kernel
theorem d_Mod_addField_61 : decode b_Mod_addField 61 = .ok (.iload 7, 2) := by decide +kernel
theorem d_Mod_addField_63 : decode b_Mod_addField 63 = .ok (.imul, 1) := by decide +kernel
theorem d_Mod_addField_64 : decode b_Mod_addField 64 = .ok (.iload 8, 2) := by decide +kernel
theorem d_Mod_addField_66 : decode b_Mod_addField 66 = .ok (.iadd, 1) := by decide +kernel
theorem d_Mod_addField_67 : decode b_Mod_addField 67 = .ok (.aload 4, 2) := by decide +kernel
theorem d_Mod_addField_69 : decode b_Mod_addField 69 = .ok (.iload 5, 2) := by decide +kernel
theorem d_Mod_addField_71 : decode b_Mod_addField 71 = .ok (.iload 8, 2) := by decide +kernel
theorem d_Mod_addField_73 : decode b_Mod_addField 73 = .ok (.iadd, 1) := by decide +kernel
theorem d_Mod_addField_74 : decode b_Mod_addField 74 = .ok (.iaload, 1) := by decide +kernel
theorem d_Mod_addField_75 : decode b_Mod_addField 75 = .ok (.iastore, 1) := by decide +kernel
theorem d_Mod_addField_76 : decode b_Mod_addField 76 = .ok (.iinc 8 1, 3) := by decide +kernel
theorem d_Mod_addField_79 : decode b_Mod_addField 79 = .ok (.goto (-31), 3) := by decide +kernel
theorem d_Mod_addField_0 : decode b_Mod_addField 0 = .ok (.iconst 2, 1) := by decide +kernel
theorem d_Mod_addField_1 : decode b_Mod_addField 1 = .ok (.aload_n 0, 1) := by decide +kernel
theorem d_Mod_addField_2 : decode b_Mod_addField 2 = .ok (.getfield 35, 3) := by decide +kernel
theorem d_Mod_addField_5 : decode b_Mod_addField 5 = .ok (.iconst 2, 1) := by decide +kernel
theorem d_Mod_addField_6 : decode b_Mod_addField 6 = .ok (.iaload, 1) := by decide +kernel
theorem d_Mod_addField_7 : decode b_Mod_addField 7 = .ok (.invokestatic 412, 3) := by decide +kernel
theorem d_Mod_addField_10 : decode b_Mod_addField 10 = .ok (.istore 7, 2) := by decide +kernel
theorem d_Mod_addField_12 : decode b_Mod_addField 12 = .ok (.aload_n 0, 1) := by decide +kernel
theorem d_Mod_addField_13 : decode b_Mod_addField 13 = .ok (.getfield 17, 3) := by decide +kernel
theorem d_Mod_addField_16 : decode b_Mod_addField 16 = .ok (.iload 7, 2) := by decide +kernel
theorem d_Mod_addField_18 : decode b_Mod_addField 18 = .ok (.iload_n 1, 1) := by decide +kernel
theorem d_Mod_addField_19 : decode b_Mod_addField 19 = .ok (.iastore, 1) := by decide +kernel
theorem d_Mod_addField_20 : decode b_Mod_addField 20 = .ok (.aload_n 0, 1) := by decide +kernel
theorem d_Mod_addField_21 : decode b_Mod_addField 21 = .ok (.getfield 20, 3) := by decide +kernel
theorem d_Mod_addField_24 : decode b_Mod_addField 24 = .ok (.iload 7, 2) := by decide +kernel
theorem d_Mod_addField_26 : decode b_Mod_addField 26 = .ok (.iload_n 2, 1) := by decide +kernel
theorem d_Mod_addField_27 : decode b_Mod_addField 27 = .ok (.iastore, 1) := by decide +kernel
theorem d_Mod_addField_28 : decode b_Mod_addField 28 = .ok (.aload_n 0, 1) := by decide +kernel
theorem d_Mod_addField_29 : decode b_Mod_addField 29 = .ok (.getfield 23, 3) := by decide +kernel
theorem d_Mod_addField_32 : decode b_Mod_addField 32 = .ok (.iload 7, 2) := by decide +kernel
theorem d_Mod_addField_34 : decode b_Mod_addField 34 = .ok (.iload_n 3, 1) := by decide +kernel
theorem d_Mod_addField_35 : decode b_Mod_addField 35 = .ok (.iastore, 1) := by decide +kernel
theorem d_Mod_addField_36 : decode b_Mod_addField 36 = .ok (.aload_n 0, 1) := by decide +kernel
theorem d_Mod_addField_37 : decode b_Mod_addField 37 = .ok (.getfield 29, 3) := by decide +kernel
theorem d_Mod_addField_40 : decode b_Mod_addField 40 = .ok (.iload 7, 2) := by decide +kernel
theorem d_Mod_addField_42 : decode b_Mod_addField 42 = .ok (.iload 6, 2) := by decide +kernel
theorem d_Mod_addField_44 : decode b_Mod_addField 44 = .ok (.iastore, 1) := by decide +kernel
theorem d_Mod_addField_45 : decode b_Mod_addField 45 = .ok (.iconst 0, 1) := by decide +kernel
theorem d_Mod_addField_46 : decode b_Mod_addField 46 = .ok (.istore 8, 2) := by decide +kernel
section
variable (l : Launch) (dC : Nat → ClassId) (dI : Nat → Nat → Nat) (cI cB cJ cZ : ClassId)
set_option maxRecDepth 100000 in
set_option maxHeartbeats 4000000 in
set_option maxRecDepth 100000 in
theorem t_Mod_sees_29 {p : Program} {l : Launch} {e : Env} {R : Room} {s : State} {m : MethodId} {args : Array Value} {below : List Frame} {meth : Method} {c : Code} {cells slots : Nat} {Q : State → Prop} {dC : Nat → ClassId} {dI : Nat → Nat → Nat} {cI cB cJ cZ : ClassId} {A : Nat → Prop} {ad : Nat → Nat} {post : Int32 → St → Prop} (hx : p.tables.exec = Jvm.exec) (hb : c.code = b_Mod_sees) (hml : c.maxLocals = 3) (hown : s.vm.findClass R_Mod = some m.cls) (hT : ∀ w ∈ TG, w.before args s = true) (hK : va_K (dC, dI) CL (TY cI cB cJ cZ) s) (hN : NW s) (hA : ∀ q : Nat, s.heap.size ≤ q → A q) (hRc : cells ≤ R.cells) (hRs : slots ≤ R.slots) (hRf : 3 ≤ R.frames) (hRl : 67 ≤ R.locals) (hret : ∀ (r : Int32) (x : St) (H : Heap) (locs : List Loc) (pc : Nat) (ls : Array Slot), decode b_Mod_sees pc = .ok (.ireturn, 1) → narrow .boolean (.int r) = .int r → post r x → Wd dC dI cI cB cJ cZ ad stM kcM 115 A x H → va_S A s.heap H locs → W p l e R s m args below meth c H locs cells slots Q (F0 m pc ls [.int r]))  : ∀ (l1 : Int64) (x : St) (H : Heap) (locs : List Loc) (ls : Array Slot), j_Mod_sees_29 post l1 x → Wd dC dI cI cB cJ cZ ad stM kcM 115 A x H → va_S A s.heap H locs → lv_has ls 3 [(0, .ref (ad 0)), (1, .long l1)] → W p l e R s m args below meth c H locs cells slots Q (F0 m 29 ls []) := by
  intro l1 x H locs ls  hw hW hS hl
  unfold j_Mod_sees_29 at hw
  refine lv_iconst (v := 0) hx hb d_Mod_sees_29 (by decide) ?_
  exact hret 0 x H locs 30 ls d_Mod_sees_30 rfl hw hW hS
set_option maxRecDepth 100000 in
set_option maxHeartbeats 4000000 in
set_option maxRecDepth 100000 in
theorem t_Mod_sees_e {p : Program} {l : Launch} {e : Env} {R : Room} {s : State} {m : MethodId} {args : Array Value} {below : List Frame} {meth : Method} {c : Code} {cells slots : Nat} {Q : State → Prop} {dC : Nat → ClassId} {dI : Nat → Nat → Nat} {cI cB cJ cZ : ClassId} {A : Nat → Prop} {ad : Nat → Nat} {post : Int32 → St → Prop} (hx : p.tables.exec = Jvm.exec) (hb : c.code = b_Mod_sees) (hml : c.maxLocals = 3) (hown : s.vm.findClass R_Mod = some m.cls) (hT : ∀ w ∈ TG, w.before args s = true) (hK : va_K (dC, dI) CL (TY cI cB cJ cZ) s) (hN : NW s) (hA : ∀ q : Nat, s.heap.size ≤ q → A q) (hRc : cells ≤ R.cells) (hRs : slots ≤ R.slots) (hRf : 3 ≤ R.frames) (hRl : 67 ≤ R.locals) (hret : ∀ (r : Int32) (x : St) (H : Heap) (locs : List Loc) (pc : Nat) (ls : Array Slot), decode b_Mod_sees pc = .ok (.ireturn, 1) → narrow .boolean (.int r) = .int r → post r x → Wd dC dI cI cB cJ cZ ad stM kcM 115 A x H → va_S A s.heap H locs → W p l e R s m args below meth c H locs cells slots Q (F0 m pc ls [.int r])) : ∀ (l1 : Int64) (x : St) (H : Heap) (locs : List Loc) (ls : Array Slot), wp_Mod_sees post l1 x → Wd dC dI cI cB cJ cZ ad stM kcM 115 A x H → va_S A s.heap H locs → lv_has ls 3 [(0, .ref (ad 0)), (1, .long l1)] → W p l e R s m args below meth c H locs cells slots Q (F0 m 0 ls []) := by
  intro l1 x H locs ls  hw hW hS hl
  unfold wp_Mod_sees at hw
  refine lv_aload_n hx hb d_Mod_sees_0 rfl (lv_at hl 0 rfl) ?_
  have hF := hW.free hS hA
  refine va_callv (va_runV (C := R_Mod) (As := []) (rest := []) ⟨hx, hb, hml, hown, hT⟩ (k_Mod_blanks l dC dI cI cB cJ cZ ad H.size  x  hw) ⟨callB_of 0 hT (gwt_in w_10_230) rfl rfl rfl (hT _ w_1_15) (hT _ w_10_227) (by decide +kernel) ⟨Nat.le_trans (Nat.le_of_ble_eq_true rfl) hRf, Nat.le_trans (Nat.le_of_ble_eq_true rfl) hRl⟩, hT _ w_10_229, hT _ ws_111⟩ ⟨PW.blind, va_recv hK hW.1 (ci := 12) (q0 := 0) rfl (pic_obj ko_0.1 ko_0.2 (by decide)), PW.at _ hW hK hN⟩ rfl rfl hl.1 rfl (lv_room (Nat.le_of_ble_eq_true rfl)) d_Mod_sees_1 ⟨hRc, hRs⟩) hS (fun q _ h => hF q h) hF (fun  x49 t H locs ht hvm hw hB hz1 hk1 hS => ?_)
  have hW := Wd.back hB ht hF
  clear hB ht hF hz1 hk1 hvm
  refine lv_aload_n hx hb d_Mod_sees_4 rfl (lv_at hl 0 rfl) ?_
  refine w_geti (k := 17) (t := 12) (C := R_Mod) (T := F_Mod) (N := 167) hx hb hT hown hK hW ko_0.1 ko_0.2 (by decide) in_Mod rfl rfl (by decide) rfl fr_Mod_17 w_8_193 d_Mod_sees_5 ?_
  refine lv_iconst (v := (-1)) hx hb d_Mod_sees_8 (by decide) ?_
  refine lv_icmp_ne (tgt := 29) hx hb d_Mod_sees_9 (by decide) (fun c50 => ?_) (fun c50 => ?_)
  · have hw := hw.1 c50
    exact t_Mod_sees_29 hx hb hml hown hT hK hN hA hRc hRs hRf hRl hret  l1 x49 H locs ls  hw hW hS (lv_sub hl [0, 1] rfl)
  · have hw := hw.2 c50
    refine lv_aload_n hx hb d_Mod_sees_12 rfl (lv_at hl 0 rfl) ?_
    refine lv_aload_n hx hb d_Mod_sees_13 rfl (lv_at hl 0 rfl) ?_
    refine w_geti (k := 16) (t := 12) (C := R_Mod) (T := F_Mod) (N := 167) hx hb hT hown hK hW ko_0.1 ko_0.2 (by decide) in_Mod rfl rfl (by decide) rfl fr_Mod_16 w_8_192 d_Mod_sees_14 ?_
    have hF := hW.free hS hA
    refine va_calll (va_runV (C := R_Mod) (As := [.int (fI x49 0 16)]) (rest := []) ⟨hx, hb, hml, hown, hT⟩ (k_Mod_wordOf l dC dI cI cB cJ cZ ad H.size (fI x49 0 16) x49  hw) ⟨callB_of 1 hT (gwt_in w_10_238) rfl rfl rfl (hT _ w_1_15) (hT _ w_10_235) (by decide +kernel) ⟨Nat.le_trans (Nat.le_of_ble_eq_true rfl) hRf, Nat.le_trans (Nat.le_of_ble_eq_true rfl) hRl⟩, hT _ w_10_237, hT _ ws_113⟩ ⟨PW.blind, va_recv hK hW.1 (ci := 12) (q0 := 0) rfl (pic_obj ko_0.1 ko_0.2 (by decide)), PW.at _ hW hK hN⟩ rfl rfl hl.1 rfl (lv_room (Nat.le_of_ble_eq_true rfl)) d_Mod_sees_17 ⟨hRc, hRs⟩) hS (fun q _ h => hF q h) hF (fun r52 x51 t H locs ht hvm hw hB hz1 hk1 hS => ?_)
    have hW := Wd.back hB ht hF
    clear hB ht hF hz1 hk1 hvm
    refine lv_lload_n hx hb d_Mod_sees_20 rfl (lv_at hl 1 rfl) ?_
    refine W.lcmp hx hb d_Mod_sees_21 ?_
    refine lv_if_ne (tgt := 29) hx hb d_Mod_sees_22 (by decide) (fun c53 => ?_) (fun c53 => ?_)
    · have hw := hw.1 c53
      exact t_Mod_sees_29 hx hb hml hown hT hK hN hA hRc hRs hRf hRl hret  l1 x51 H locs ls  hw hW hS (lv_sub hl [0, 1] rfl)
    · have hw := hw.2 c53
      refine lv_iconst (v := 1) hx hb d_Mod_sees_25 (by decide) ?_
      refine lv_goto (tgt := 30) hx hb d_Mod_sees_26 (by decide) ?_
      exact hret 1 x51 H locs 30 ls d_Mod_sees_30 rfl hw hW hS
set_option maxHeartbeats 4000000 in
set_option maxRecDepth 100000 in
theorem k_Mod_sees (l : Launch) (dC : Nat → ClassId) (dI : Nat → Nat → Nat) (cI cB cJ cZ : ClassId) (ad : Nat → Nat) (sz : Nat) (l1 : Int64) (x : St) {post : Int32 → St → Prop} (hw : wp_Mod_sees post l1 x) : Met l y_Mod_sees (wsOf y_Mod_sees b_Mod_sees 3 (some (.boolean))) ({ frames := 3, cells := 0, slots := 0, locals := 67 }) (va_Pc [.ref (ad 0), .long l1] (PW dC dI cI cB cJ cZ ad stM kcM 115 sz x)) (va_Qi (fun (r : Int32) (y : St) => post r y) (fun y t => Wd dC dI cI cB cJ cZ ad stM kcM 115 (va_A (pic ad stM kcM 115 cI cB cJ cZ x) sz) y t.heap) (va_A (pic ad stM kcM 115 cI cB cJ cZ x) sz)) 0 0 (va_A (pic ad stM kcM 115 cI cB cJ cZ x) sz) := by
  refine Met.ofW (cc := b_Mod_sees) (maxL := 3) (ret := some (.boolean)) (by decide) rfl ?_
  intro p e s m args below meth c s₁ B hml hv
  obtain ⟨rfl, hsz, hW0, hK, hN⟩ := hv
  have hx := B.exec
  have hb := B.bytes
  have hr := B.returns
  have hts := atoms_spec B.pre
  have hT : ∀ w ∈ TG, w.before _ s = true := fun w h => hts w (List.mem_cons_of_mem _ h)
  have hown : s.vm.findClass R_Mod = some m.cls := findClass_of_methodNamed B.named
  have hlocks := B.notSynchronized
  subst hsz
  have hW : Wd dC dI cI cB cJ cZ ad stM kcM 115 (va_A (pic ad stM kcM 115 cI cB cJ cZ x) s.heap.size) x s.heap := ⟨hW0.1, hW0.2.1.self (sz := s.heap.size), hW0.2.2⟩
  generalize hAe : va_A (pic ad stM kcM 115 cI cB cJ cZ x) s.heap.size = A at hW ⊢
  have hA : ∀ q : Nat, s.heap.size ≤ q → A q := fun q h => by rw [← hAe]; exact Or.inr h
  have hS : va_S A s.heap s.heap [] := va_S.rf
  have hl := lv_entry ([.ref (ad 0), .long l1]) (n := 3) (Nat.le_of_ble_eq_true rfl)
  rw [lg_entry_eq]
  generalize (lg_sl ([.ref (ad 0), .long l1]) ++ List.replicate (3 - (lg_sl ([.ref (ad 0), .long l1])).length) Slot.unset).toArray = ls at hl ⊢
  have hl : lv_has ls 3 [(0, .ref (ad 0)), (1, .long l1)] := hl
  exact t_Mod_sees_e hx hb hml hown hT hK hN hA (Nat.le_refl 0) (Nat.le_refl 0) (Nat.le_refl 3) (Nat.le_refl 67) (fun r x H locs pc ls hd hz hp hW hS => W.zret (v := r) (ty := .boolean) hx hb hr hz (fun t ht hM => ⟨⟨r, x, rfl, hp, Wd.back hW ht.symm (fun _ z => z)⟩, hS.F ht⟩) hS.2.2 hd hlocks)  l1 x _ _ ls  hw hW hS hl
set_option maxRecDepth 100000 in
set_option maxHeartbeats 4000000 in
set_option maxRecDepth 100000 in
theorem t_Mod_takesWord_e {p : Program} {l : Launch} {e : Env} {R : Room} {s : State} {m : MethodId} {args : Array Value} {below : List Frame} {meth : Method} {c : Code} {cells slots : Nat} {Q : State → Prop} {dC : Nat → ClassId} {dI : Nat → Nat → Nat} {cI cB cJ cZ : ClassId} {A : Nat → Prop} {ad : Nat → Nat} {post : Int32 → St → Prop} (hx : p.tables.exec = Jvm.exec) (hb : c.code = b_Mod_takesWord) (hml : c.maxLocals = 3) (hown : s.vm.findClass R_Mod = some m.cls) (hT : ∀ w ∈ TG, w.before args s = true) (hK : va_K (dC, dI) CL (TY cI cB cJ cZ) s) (hN : NW s) (hA : ∀ q : Nat, s.heap.size ≤ q → A q) (hRc : cells ≤ R.cells) (hRs : slots ≤ R.slots) (hRf : 4 ≤ R.frames) (hRl : 89 ≤ R.locals) (hret : ∀ (r : Int32) (x : St) (H : Heap) (locs : List Loc) (pc : Nat) (ls : Array Slot), decode b_Mod_takesWord pc = .ok (.ireturn, 1) → narrow .boolean (.int r) = .int r → post r x → Wd dC dI cI cB cJ cZ ad stM kcM 115 A x H → va_S A s.heap H locs → W p l e R s m args below meth c H locs cells slots Q (F0 m pc ls [.int r])) : ∀ (l1 : Int64) (x : St) (H : Heap) (locs : List Loc) (ls : Array Slot), wp_Mod_takesWord post l1 x → Wd dC dI cI cB cJ cZ ad stM kcM 115 A x H → va_S A s.heap H locs → lv_has ls 3 [(0, .ref (ad 0)), (1, .long l1)] → W p l e R s m args below meth c H locs cells slots Q (F0 m 0 ls []) := by
  intro l1 x H locs ls  hw hW hS hl
  unfold wp_Mod_takesWord at hw
  refine lv_aload_n hx hb d_Mod_takesWord_0 rfl (lv_at hl 0 rfl) ?_
  refine lv_lload_n hx hb d_Mod_takesWord_1 rfl (lv_at hl 1 rfl) ?_
  have hF := hW.free hS hA
  refine va_calli (va_runV (C := R_Mod) (As := [.long l1]) (rest := []) ⟨hx, hb, hml, hown, hT⟩ (k_Mod_sees l dC dI cI cB cJ cZ ad H.size l1 x  hw) ⟨callB_of 1 hT (gwt_in w_10_226) rfl rfl rfl (hT _ w_1_15) (hT _ w_10_223) (by decide +kernel) ⟨Nat.le_trans (Nat.le_of_ble_eq_true rfl) hRf, Nat.le_trans (Nat.le_of_ble_eq_true rfl) hRl⟩, hT _ w_10_225, hT _ ws_110⟩ ⟨PW.blind, va_recv hK hW.1 (ci := 12) (q0 := 0) rfl (pic_obj ko_0.1 ko_0.2 (by decide)), PW.at _ hW hK hN⟩ rfl rfl hl.1 rfl (lv_room (Nat.le_of_ble_eq_true rfl)) d_Mod_takesWord_2 ⟨hRc, hRs⟩) hS (fun q _ h => hF q h) hF (fun r55 x54 t H locs ht hvm hw hB hz1 hk1 hS => ?_)
  have hW := Wd.back hB ht hF
  clear hB ht hF hz1 hk1 hvm
  refine lv_if_ne (tgt := 10) hx hb d_Mod_takesWord_5 (by decide) (fun c56 => ?_) (fun c56 => ?_)
  · have hw := hw.1 c56
    refine lv_aload_n hx hb d_Mod_takesWord_10 rfl (lv_at hl 0 rfl) ?_
    refine lv_dup hx hb d_Mod_takesWord_11 rfl ?_
    refine w_geti (k := 16) (t := 12) (C := R_Mod) (T := F_Mod) (N := 167) hx hb hT hown hK hW ko_0.1 ko_0.2 (by decide) in_Mod rfl rfl (by decide) rfl fr_Mod_16 w_8_192 d_Mod_takesWord_12 ?_
    refine lv_aload_n hx hb d_Mod_takesWord_15 rfl (lv_at hl 0 rfl) ?_
    refine lv_aload_n hx hb d_Mod_takesWord_16 rfl (lv_at hl 0 rfl) ?_
    refine w_geti (k := 16) (t := 12) (C := R_Mod) (T := F_Mod) (N := 167) hx hb hT hown hK hW ko_0.1 ko_0.2 (by decide) in_Mod rfl rfl (by decide) rfl fr_Mod_16 w_8_192 d_Mod_takesWord_17 ?_
    have hF := hW.free hS hA
    refine va_calli (va_runV (C := R_Mod) (As := [.int (fI x54 0 16)]) (rest := [.int (fI x54 0 16), .ref (ad 0)]) ⟨hx, hb, hml, hown, hT⟩ (k_Mod_wordAt l dC dI cI cB cJ cZ ad H.size (fI x54 0 16) x54  hw) ⟨callB_of 1 hT (gwt_in w_11_2) rfl rfl rfl (hT _ w_1_15) (hT _ w_10_239) (by decide +kernel) ⟨Nat.le_trans (Nat.le_of_ble_eq_true rfl) hRf, Nat.le_trans (Nat.le_of_ble_eq_true rfl) hRl⟩, hT _ w_11_1, hT _ ws_114⟩ ⟨PW.blind, va_recv hK hW.1 (ci := 12) (q0 := 0) rfl (pic_obj ko_0.1 ko_0.2 (by decide)), PW.at _ hW hK hN⟩ rfl rfl hl.1 rfl (lv_room (Nat.le_of_ble_eq_true rfl)) d_Mod_takesWord_20 ⟨hRc, hRs⟩) hS (fun q _ h => hF q h) hF (fun r58 x57 t H locs ht hvm hw hB hz1 hk1 hS => ?_)
    have hW := Wd.back hB ht hF
    clear hB ht hF hz1 hk1 hvm
    refine lv_iadd hx hb d_Mod_takesWord_23 ?_
    refine w_puti (ty := .int) (k := 16) (t := 12) (C := R_Mod) (T := F_Mod) (N := 167) hx hb hT hown hK hW hS ko_0.1 ko_0.2 (by decide) in_Mod t_Mod t_Mod_ok n_Mod rfl rfl (by decide) rfl fr_Mod_16 w_8_192 (by decide +kernel) rfl rfl d_Mod_takesWord_24 (fun H locs hW hS => ?_)
    obtain ⟨x59, ex59⟩ : ∃ y : St, y = setI x57 0 16 ((fI x54 0 16) + r58) := ⟨_, rfl⟩
    rw [← ex59] at hW
    have hw := hw x59 ex59
    refine lv_iconst (v := 1) hx hb d_Mod_takesWord_27 (by decide) ?_
    exact hret 1 x59 H locs 28 ls d_Mod_takesWord_28 rfl hw hW hS
  · have hw := hw.2 c56
    refine lv_iconst (v := 0) hx hb d_Mod_takesWord_8 (by decide) ?_
    exact hret 0 x54 H locs 9 ls d_Mod_takesWord_9 rfl hw hW hS
set_option maxHeartbeats 4000000 in
set_option maxRecDepth 100000 in
theorem k_Mod_takesWord (l : Launch) (dC : Nat → ClassId) (dI : Nat → Nat → Nat) (cI cB cJ cZ : ClassId) (ad : Nat → Nat) (sz : Nat) (l1 : Int64) (x : St) {post : Int32 → St → Prop} (hw : wp_Mod_takesWord post l1 x) : Met l y_Mod_takesWord (wsOf y_Mod_takesWord b_Mod_takesWord 3 (some (.boolean))) ({ frames := 4, cells := 0, slots := 0, locals := 89 }) (va_Pc [.ref (ad 0), .long l1] (PW dC dI cI cB cJ cZ ad stM kcM 115 sz x)) (va_Qi (fun (r : Int32) (y : St) => post r y) (fun y t => Wd dC dI cI cB cJ cZ ad stM kcM 115 (va_A (pic ad stM kcM 115 cI cB cJ cZ x) sz) y t.heap) (va_A (pic ad stM kcM 115 cI cB cJ cZ x) sz)) 0 0 (va_A (pic ad stM kcM 115 cI cB cJ cZ x) sz) := by
  refine Met.ofW (cc := b_Mod_takesWord) (maxL := 3) (ret := some (.boolean)) (by decide) rfl ?_
  intro p e s m args below meth c s₁ B hml hv
  obtain ⟨rfl, hsz, hW0, hK, hN⟩ := hv
  have hx := B.exec
  have hb := B.bytes
  have hr := B.returns
  have hts := atoms_spec B.pre
  have hT : ∀ w ∈ TG, w.before _ s = true := fun w h => hts w (List.mem_cons_of_mem _ h)
  have hown : s.vm.findClass R_Mod = some m.cls := findClass_of_methodNamed B.named
  have hlocks := B.notSynchronized
  subst hsz
  have hW : Wd dC dI cI cB cJ cZ ad stM kcM 115 (va_A (pic ad stM kcM 115 cI cB cJ cZ x) s.heap.size) x s.heap := ⟨hW0.1, hW0.2.1.self (sz := s.heap.size), hW0.2.2⟩
  generalize hAe : va_A (pic ad stM kcM 115 cI cB cJ cZ x) s.heap.size = A at hW ⊢
  have hA : ∀ q : Nat, s.heap.size ≤ q → A q := fun q h => by rw [← hAe]; exact Or.inr h
  have hS : va_S A s.heap s.heap [] := va_S.rf
  have hl := lv_entry ([.ref (ad 0), .long l1]) (n := 3) (Nat.le_of_ble_eq_true rfl)
  rw [lg_entry_eq]
  generalize (lg_sl ([.ref (ad 0), .long l1]) ++ List.replicate (3 - (lg_sl ([.ref (ad 0), .long l1])).length) Slot.unset).toArray = ls at hl ⊢
  have hl : lv_has ls 3 [(0, .ref (ad 0)), (1, .long l1)] := hl
  exact t_Mod_takesWord_e hx hb hml hown hT hK hN hA (Nat.le_refl 0) (Nat.le_refl 0) (Nat.le_refl 4) (Nat.le_refl 89) (fun r x H locs pc ls hd hz hp hW hS => W.zret (v := r) (ty := .boolean) hx hb hr hz (fun t ht hM => ⟨⟨r, x, rfl, hp, Wd.back hW ht.symm (fun _ z => z)⟩, hS.F ht⟩) hS.2.2 hd hlocks)  l1 x _ _ ls  hw hW hS hl
set_option maxRecDepth 100000 in
set_option maxHeartbeats 4000000 in
set_option maxRecDepth 100000 in
theorem t_Mod_fail_e {p : Program} {l : Launch} {e : Env} {R : Room} {s : State} {m : MethodId} {args : Array Value} {below : List Frame} {meth : Method} {c : Code} {cells slots : Nat} {Q : State → Prop} {dC : Nat → ClassId} {dI : Nat → Nat → Nat} {cI cB cJ cZ : ClassId} {A : Nat → Prop} {ad : Nat → Nat} {post : St → Prop} (hx : p.tables.exec = Jvm.exec) (hb : c.code = b_Mod_fail) (hml : c.maxLocals = 2) (hown : s.vm.findClass R_Mod = some m.cls) (hT : ∀ w ∈ TG, w.before args s = true) (hK : va_K (dC, dI) CL (TY cI cB cJ cZ) s) (hN : NW s) (hA : ∀ q : Nat, s.heap.size ≤ q → A q) (hRc : cells ≤ R.cells) (hRs : slots ≤ R.slots) (hRf : 0 ≤ R.frames) (hRl : 0 ≤ R.locals) (hret : ∀ (x : St) (H : Heap) (locs : List Loc) (pc : Nat) (ls : Array Slot), decode b_Mod_fail pc = .ok (.return_, 1) → post x → Wd dC dI cI cB cJ cZ ad stM kcM 115 A x H → va_S A s.heap H locs → W p l e R s m args below meth c H locs cells slots Q (F0 m pc ls [])) : ∀ (l1 : Int32) (x : St) (H : Heap) (locs : List Loc) (ls : Array Slot), wp_Mod_fail post l1 x → Wd dC dI cI cB cJ cZ ad stM kcM 115 A x H → va_S A s.heap H locs → lv_has ls 2 [(0, .ref (ad 0)), (1, .int l1)] → W p l e R s m args below meth c H locs cells slots Q (F0 m 0 ls []) := by
  intro l1 x H locs ls  hw hW hS hl
  unfold wp_Mod_fail at hw
  refine lv_aload_n hx hb d_Mod_fail_0 rfl (lv_at hl 0 rfl) ?_
  refine w_geti (k := 17) (t := 12) (C := R_Mod) (T := F_Mod) (N := 167) hx hb hT hown hK hW ko_0.1 ko_0.2 (by decide) in_Mod rfl rfl (by decide) rfl fr_Mod_17 w_8_193 d_Mod_fail_1 ?_
  refine lv_iconst (v := (-1)) hx hb d_Mod_fail_4 (by decide) ?_
  refine lv_icmp_ne (tgt := 13) hx hb d_Mod_fail_5 (by decide) (fun c60 => ?_) (fun c60 => ?_)
  · have hw := hw.1 c60
    exact hret x H locs 13 ls d_Mod_fail_13 hw hW hS
  · have hw := hw.2 c60
    refine lv_aload_n hx hb d_Mod_fail_8 rfl (lv_at hl 0 rfl) ?_
    refine lv_iload_n hx hb d_Mod_fail_9 rfl (lv_at hl 1 rfl) ?_
    refine w_puti (ty := .int) (k := 17) (t := 12) (C := R_Mod) (T := F_Mod) (N := 167) hx hb hT hown hK hW hS ko_0.1 ko_0.2 (by decide) in_Mod t_Mod t_Mod_ok n_Mod rfl rfl (by decide) rfl fr_Mod_17 w_8_193 (by decide +kernel) rfl rfl d_Mod_fail_10 (fun H locs hW hS => ?_)
    obtain ⟨x61, ex61⟩ : ∃ y : St, y = setI x 0 17 l1 := ⟨_, rfl⟩
    rw [← ex61] at hW
    have hw := hw x61 ex61
    exact hret x61 H locs 13 ls d_Mod_fail_13 hw hW hS
set_option maxHeartbeats 4000000 in
set_option maxRecDepth 100000 in
theorem k_Mod_fail (l : Launch) (dC : Nat → ClassId) (dI : Nat → Nat → Nat) (cI cB cJ cZ : ClassId) (ad : Nat → Nat) (sz : Nat) (l1 : Int32) (x : St) {post : St → Prop} (hw : wp_Mod_fail post l1 x) : Met l y_Mod_fail (wsOf y_Mod_fail b_Mod_fail 2 (none)) ({ frames := 0, cells := 0, slots := 0, locals := 0 }) (va_Pc [.ref (ad 0), .int l1] (PW dC dI cI cB cJ cZ ad stM kcM 115 sz x)) (va_Qv (fun (y : St) => post y) (fun y t => Wd dC dI cI cB cJ cZ ad stM kcM 115 (va_A (pic ad stM kcM 115 cI cB cJ cZ x) sz) y t.heap) (va_A (pic ad stM kcM 115 cI cB cJ cZ x) sz)) 0 0 (va_A (pic ad stM kcM 115 cI cB cJ cZ x) sz) := by
  refine Met.ofW (cc := b_Mod_fail) (maxL := 2) (ret := none) (by decide) rfl ?_
  intro p e s m args below meth c s₁ B hml hv
  obtain ⟨rfl, hsz, hW0, hK, hN⟩ := hv
  have hx := B.exec
  have hb := B.bytes
  have hr := B.returns
  have hts := atoms_spec B.pre
  have hT : ∀ w ∈ TG, w.before _ s = true := fun w h => hts w (List.mem_cons_of_mem _ h)
  have hown : s.vm.findClass R_Mod = some m.cls := findClass_of_methodNamed B.named
  have hlocks := B.notSynchronized
  subst hsz
  have hW : Wd dC dI cI cB cJ cZ ad stM kcM 115 (va_A (pic ad stM kcM 115 cI cB cJ cZ x) s.heap.size) x s.heap := ⟨hW0.1, hW0.2.1.self (sz := s.heap.size), hW0.2.2⟩
  generalize hAe : va_A (pic ad stM kcM 115 cI cB cJ cZ x) s.heap.size = A at hW ⊢
  have hA : ∀ q : Nat, s.heap.size ≤ q → A q := fun q h => by rw [← hAe]; exact Or.inr h
  have hS : va_S A s.heap s.heap [] := va_S.rf
  have hl := lv_entry ([.ref (ad 0), .int l1]) (n := 2) (Nat.le_of_ble_eq_true rfl)
  rw [lg_entry_eq]
  generalize (lg_sl ([.ref (ad 0), .int l1]) ++ List.replicate (2 - (lg_sl ([.ref (ad 0), .int l1])).length) Slot.unset).toArray = ls at hl ⊢
  have hl : lv_has ls 2 [(0, .ref (ad 0)), (1, .int l1)] := hl
  exact t_Mod_fail_e hx hb hml hown hT hK hN hA (Nat.le_refl 0) (Nat.le_refl 0) (Nat.le_refl 0) (Nat.le_refl 0) (fun x H locs pc ls hd hp hW hS => W.vret hx hb hr (fun t ht hM => ⟨⟨x, rfl, hp, Wd.back hW ht.symm (fun _ z => z)⟩, hS.F ht⟩) hS.2.2 hd hlocks)  l1 x _ _ ls  hw hW hS hl
set_option maxRecDepth 100000 in
set_option maxHeartbeats 4000000 in
set_option maxRecDepth 100000 in
theorem t_Mod_place_e {p : Program} {l : Launch} {e : Env} {R : Room} {s : State} {m : MethodId} {args : Array Value} {below : List Frame} {meth : Method} {c : Code} {cells slots : Nat} {Q : State → Prop} {dC : Nat → ClassId} {dI : Nat → Nat → Nat} {cI cB cJ cZ : ClassId} {A : Nat → Prop} {ad : Nat → Nat} {post : Int32 → St → Prop} (hx : p.tables.exec = Jvm.exec) (hb : c.code = b_Mod_place) (hml : c.maxLocals = 2) (hown : s.vm.findClass R_Mod = some m.cls) (hT : ∀ w ∈ TG, w.before args s = true) (hK : va_K (dC, dI) CL (TY cI cB cJ cZ) s) (hN : NW s) (hA : ∀ q : Nat, s.heap.size ≤ q → A q) (hRc : cells ≤ R.cells) (hRs : slots ≤ R.slots) (hRf : 0 ≤ R.frames) (hRl : 0 ≤ R.locals) (hret : ∀ (r : Int32) (x : St) (H : Heap) (locs : List Loc) (pc : Nat) (ls : Array Slot), decode b_Mod_place pc = .ok (.ireturn, 1) → post r x → Wd dC dI cI cB cJ cZ ad stM kcM 115 A x H → va_S A s.heap H locs → W p l e R s m args below meth c H locs cells slots Q (F0 m pc ls [.int r])) : ∀ (l0 : Int32) (l1 : Int32) (x : St) (H : Heap) (locs : List Loc) (ls : Array Slot), wp_Mod_place post l0 l1 x → Wd dC dI cI cB cJ cZ ad stM kcM 115 A x H → va_S A s.heap H locs → lv_has ls 2 [(0, .int l0), (1, .int l1)] → W p l e R s m args below meth c H locs cells slots Q (F0 m 0 ls []) := by
  intro l0 l1 x H locs ls  hw hW hS hl
  unfold wp_Mod_place at hw
  refine lv_sipush (v := 128) hx hb d_Mod_place_0 (by decide) ?_
  refine lv_iload_n hx hb d_Mod_place_3 rfl (lv_at hl 0 rfl) ?_
  refine lv_imul hx hb d_Mod_place_4 ?_
  refine lv_iload_n hx hb d_Mod_place_5 rfl (lv_at hl 1 rfl) ?_
  refine lv_iadd hx hb d_Mod_place_6 ?_
  exact hret ((128 * l0) + l1) x H locs 7 ls d_Mod_place_7 hw hW hS
set_option maxHeartbeats 4000000 in
set_option maxRecDepth 100000 in
theorem k_Mod_place (l : Launch) (dC : Nat → ClassId) (dI : Nat → Nat → Nat) (cI cB cJ cZ : ClassId) (ad : Nat → Nat) (sz : Nat) (l0 : Int32) (l1 : Int32) (x : St) {post : Int32 → St → Prop} (hw : wp_Mod_place post l0 l1 x) : Met l y_Mod_place (wsOf y_Mod_place b_Mod_place 2 (some (.int))) ({ frames := 0, cells := 0, slots := 0, locals := 0 }) (va_Pc [.int l0, .int l1] (PW dC dI cI cB cJ cZ ad stM kcM 115 sz x)) (va_Qi (fun (r : Int32) (y : St) => post r y) (fun y t => Wd dC dI cI cB cJ cZ ad stM kcM 115 (va_A (pic ad stM kcM 115 cI cB cJ cZ x) sz) y t.heap) (va_A (pic ad stM kcM 115 cI cB cJ cZ x) sz)) 0 0 (va_A (pic ad stM kcM 115 cI cB cJ cZ x) sz) := by
  refine Met.ofW (cc := b_Mod_place) (maxL := 2) (ret := some (.int)) (by decide) rfl ?_
  intro p e s m args below meth c s₁ B hml hv
  obtain ⟨rfl, hsz, hW0, hK, hN⟩ := hv
  have hx := B.exec
  have hb := B.bytes
  have hr := B.returns
  have hts := atoms_spec B.pre
  have hT : ∀ w ∈ TG, w.before _ s = true := fun w h => hts w (List.mem_cons_of_mem _ h)
  have hown : s.vm.findClass R_Mod = some m.cls := findClass_of_methodNamed B.named
  have hlocks := B.notSynchronized
  subst hsz
  have hW : Wd dC dI cI cB cJ cZ ad stM kcM 115 (va_A (pic ad stM kcM 115 cI cB cJ cZ x) s.heap.size) x s.heap := ⟨hW0.1, hW0.2.1.self (sz := s.heap.size), hW0.2.2⟩
  generalize hAe : va_A (pic ad stM kcM 115 cI cB cJ cZ x) s.heap.size = A at hW ⊢
  have hA : ∀ q : Nat, s.heap.size ≤ q → A q := fun q h => by rw [← hAe]; exact Or.inr h
  have hS : va_S A s.heap s.heap [] := va_S.rf
  have hl := lv_entry ([.int l0, .int l1]) (n := 2) (Nat.le_of_ble_eq_true rfl)
  rw [lg_entry_eq]
  generalize (lg_sl ([.int l0, .int l1]) ++ List.replicate (2 - (lg_sl ([.int l0, .int l1])).length) Slot.unset).toArray = ls at hl ⊢
  have hl : lv_has ls 2 [(0, .int l0), (1, .int l1)] := hl
  exact t_Mod_place_e hx hb hml hown hT hK hN hA (Nat.le_refl 0) (Nat.le_refl 0) (Nat.le_refl 0) (Nat.le_refl 0) (fun r x H locs pc ls hd hp hW hS => W.iret (v := r) hx hb hr (fun t ht hM => ⟨⟨r, x, rfl, hp, Wd.back hW ht.symm (fun _ z => z)⟩, hS.F ht⟩) hS.2.2 hd hlocks)  l0 l1 x _ _ ls  hw hW hS hl
set_option maxRecDepth 100000 in
set_option maxHeartbeats 4000000 in
set_option maxRecDepth 100000 in
theorem t_Mod_deep_5 {p : Program} {l : Launch} {e : Env} {R : Room} {s : State} {m : MethodId} {args : Array Value} {below : List Frame} {meth : Method} {c : Code} {cells slots : Nat} {Q : State → Prop} {dC : Nat → ClassId} {dI : Nat → Nat → Nat} {cI cB cJ cZ : ClassId} {A : Nat → Prop} {ad : Nat → Nat} {post : Int32 → St → Prop} {rec5 : Int32 → Int32 → Int32 → Int32 → St → Prop} (hx : p.tables.exec = Jvm.exec) (hb : c.code = b_Mod_deep) (hml : c.maxLocals = 5) (hown : s.vm.findClass R_Mod = some m.cls) (hT : ∀ w ∈ TG, w.before args s = true) (hK : va_K (dC, dI) CL (TY cI cB cJ cZ) s) (hN : NW s) (hA : ∀ q : Nat, s.heap.size ≤ q → A q) (hRc : cells ≤ R.cells) (hRs : slots ≤ R.slots) (hRf : 1 ≤ R.frames) (hRl : 21 ≤ R.locals) (hret : ∀ (r : Int32) (x : St) (H : Heap) (locs : List Loc) (pc : Nat) (ls : Array Slot), decode b_Mod_deep pc = .ok (.ireturn, 1) → post r x → Wd dC dI cI cB cJ cZ ad stM kcM 115 A x H → va_S A s.heap H locs → W p l e R s m args below meth c H locs cells slots Q (F0 m pc ls [.int r])) (hrec5 : ∀ (l1 : Int32) (l2 : Int32) (l3 : Int32) (l4 : Int32) (x : St) (H : Heap) (locs : List Loc) (ls : Array Slot), rec5 l1 l2 l3 l4 x → Wd dC dI cI cB cJ cZ ad stM kcM 115 A x H → va_S A s.heap H locs → lv_has ls 5 [(0, .ref (ad 0)), (1, .int l1), (2, .int l2), (3, .int l3), (4, .int l4)] → W p l e R s m args below meth c H locs cells slots Q (F0 m 5 ls [])) : ∀ (l1 : Int32) (l2 : Int32) (l3 : Int32) (l4 : Int32) (x : St) (H : Heap) (locs : List Loc) (ls : Array Slot), j_Mod_deep_5 post rec5 l1 l2 l3 l4 x → Wd dC dI cI cB cJ cZ ad stM kcM 115 A x H → va_S A s.heap H locs → lv_has ls 5 [(0, .ref (ad 0)), (1, .int l1), (2, .int l2), (3, .int l3), (4, .int l4)] → W p l e R s m args below meth c H locs cells slots Q (F0 m 5 ls []) := by
  intro l1 l2 l3 l4 x H locs ls  hw hW hS hl
  unfold j_Mod_deep_5 at hw
  refine lv_iload hx hb d_Mod_deep_5 (lv_at hl 4 rfl) ?_
  refine lv_iconst (v := (-1)) hx hb d_Mod_deep_7 (by decide) ?_
  refine lv_icmp_eq (tgt := 30) hx hb d_Mod_deep_8 (by decide) (fun c62 => ?_) (fun c62 => ?_)
  · have hw := hw.1 c62
    refine lv_iload_n hx hb d_Mod_deep_30 rfl (lv_at hl 3 rfl) ?_
    exact hret l3 x H locs 31 ls d_Mod_deep_31 hw hW hS
  · have hw := hw.2 c62
    refine lv_iinc (v := (l3 + 1)) (lv' := [(3, .int (l3 + 1)), (0, .ref (ad 0)), (1, .int l1), (2, .int l2), (4, .int l4)]) hx hb d_Mod_deep_11 hl (k := 3) rfl rfl (by decide) rfl (fun ls hl => ?_)
    refine lv_aload_n hx hb d_Mod_deep_14 rfl (lv_at hl 1 rfl) ?_
    refine w_getf (q := 5) (k := 7) (t := 12) (C := R_Mod) (T := F_Mod) (N := 167) hx hb hT hown hK hW ko_0.1 ko_0.2 (by decide) in_Mod rfl rfl (by decide) rfl fr_Mod_7 w_8_183 d_Mod_deep_15 rfl ?_
    refine lv_iload_n hx hb d_Mod_deep_18 rfl (lv_at hl 2 rfl) ?_
    refine lv_iload hx hb d_Mod_deep_19 (lv_at hl 4 rfl) ?_
    have hF := hW.free hS hA
    refine va_calli (va_runS (As := [.int l1, .int l4]) (rest := [.ref (ad 5)]) ⟨hx, hb, hml, hown, hT⟩ (k_Mod_place l dC dI cI cB cJ cZ ad H.size l1 l4 x  hw) ⟨callB_of 2 hT (gwt_in w_11_30) rfl rfl rfl (hT _ w_1_15) (hT _ w_11_28) (by decide +kernel) ⟨Nat.le_trans (Nat.le_of_ble_eq_true rfl) hRf, Nat.le_trans (Nat.le_of_ble_eq_true rfl) hRl⟩, hT _ w_11_29⟩ ⟨PW.blind, PW.at _ hW hK hN⟩ rfl rfl hl.1 rfl (lv_room (Nat.le_of_ble_eq_true rfl)) d_Mod_deep_21 ⟨hRc, hRs⟩) hS (fun q _ h => hF q h) hF (fun r64 x63 t H locs ht hvm hw hB hz1 hk1 hS => ?_)
    have hW := Wd.back hB ht hF
    clear hB ht hF hz1 hk1 hvm
    obtain ⟨hi, hw⟩ := hw
    refine w_iald (o := 5) hx hb hK hW ko_5.1 ko_5.2 hi d_Mod_deep_24 ?_
    refine lv_topi (fun v65 ev65 => ?_)
    have hw := hw v65 ev65
    refine lv_istore (lv' := [(4, .int v65), (3, .int (l3 + 1)), (0, .ref (ad 0)), (1, .int l1), (2, .int l2)]) hx hb d_Mod_deep_25 hl (by decide) rfl (fun ls hl => ?_)
    refine lv_goto (tgt := 5) hx hb d_Mod_deep_27 (by decide) ?_
    exact hrec5 l1 l2 (l3 + 1) v65 x63 H locs ls  hw hW hS (lv_sub hl [2, 3, 4, 1, 0] rfl)
set_option maxHeartbeats 4000000 in
set_option maxRecDepth 100000 in
theorem tl_Mod_deep_5 {p : Program} {l : Launch} {e : Env} {R : Room} {s : State} {m : MethodId} {args : Array Value} {below : List Frame} {meth : Method} {c : Code} {cells slots : Nat} {Q : State → Prop} {dC : Nat → ClassId} {dI : Nat → Nat → Nat} {cI cB cJ cZ : ClassId} {A : Nat → Prop} {ad : Nat → Nat} {post : Int32 → St → Prop} (hx : p.tables.exec = Jvm.exec) (hb : c.code = b_Mod_deep) (hml : c.maxLocals = 5) (hown : s.vm.findClass R_Mod = some m.cls) (hT : ∀ w ∈ TG, w.before args s = true) (hK : va_K (dC, dI) CL (TY cI cB cJ cZ) s) (hN : NW s) (hA : ∀ q : Nat, s.heap.size ≤ q → A q) (hRc : cells ≤ R.cells) (hRs : slots ≤ R.slots) (hRf : 1 ≤ R.frames) (hRl : 21 ≤ R.locals) (hret : ∀ (r : Int32) (x : St) (H : Heap) (locs : List Loc) (pc : Nat) (ls : Array Slot), decode b_Mod_deep pc = .ok (.ireturn, 1) → post r x → Wd dC dI cI cB cJ cZ ad stM kcM 115 A x H → va_S A s.heap H locs → W p l e R s m args below meth c H locs cells slots Q (F0 m pc ls [.int r]))  : ∀ n : Nat, ∀ (l1 : Int32) (l2 : Int32) (l3 : Int32) (l4 : Int32) (x : St) (H : Heap) (locs : List Loc) (ls : Array Slot), wl_Mod_deep_5 post n l1 l2 l3 l4 x → Wd dC dI cI cB cJ cZ ad stM kcM 115 A x H → va_S A s.heap H locs → lv_has ls 5 [(0, .ref (ad 0)), (1, .int l1), (2, .int l2), (3, .int l3), (4, .int l4)] → W p l e R s m args below meth c H locs cells slots Q (F0 m 5 ls []) := by
  intro n
  induction n with
  | zero => intro l1 l2 l3 l4 x H locs ls  hw; exact hw.elim
  | succ n ih => intro l1 l2 l3 l4 x H locs ls  hw hW hS hl; exact t_Mod_deep_5 hx hb hml hown hT hK hN hA hRc hRs hRf hRl hret  ih l1 l2 l3 l4 x H locs ls  hw hW hS hl
set_option maxRecDepth 100000 in
set_option maxHeartbeats 4000000 in
set_option maxRecDepth 100000 in
theorem t_Mod_deep_e {p : Program} {l : Launch} {e : Env} {R : Room} {s : State} {m : MethodId} {args : Array Value} {below : List Frame} {meth : Method} {c : Code} {cells slots : Nat} {Q : State → Prop} {dC : Nat → ClassId} {dI : Nat → Nat → Nat} {cI cB cJ cZ : ClassId} {A : Nat → Prop} {ad : Nat → Nat} {post : Int32 → St → Prop} (hx : p.tables.exec = Jvm.exec) (hb : c.code = b_Mod_deep) (hml : c.maxLocals = 5) (hown : s.vm.findClass R_Mod = some m.cls) (hT : ∀ w ∈ TG, w.before args s = true) (hK : va_K (dC, dI) CL (TY cI cB cJ cZ) s) (hN : NW s) (hA : ∀ q : Nat, s.heap.size ≤ q → A q) (hRc : cells ≤ R.cells) (hRs : slots ≤ R.slots) (hRf : 1 ≤ R.frames) (hRl : 21 ≤ R.locals) (hret : ∀ (r : Int32) (x : St) (H : Heap) (locs : List Loc) (pc : Nat) (ls : Array Slot), decode b_Mod_deep pc = .ok (.ireturn, 1) → post r x → Wd dC dI cI cB cJ cZ ad stM kcM 115 A x H → va_S A s.heap H locs → W p l e R s m args below meth c H locs cells slots Q (F0 m pc ls [.int r])) : ∀ (l1 : Int32) (l2 : Int32) (x : St) (H : Heap) (locs : List Loc) (ls : Array Slot), wp_Mod_deep post l1 l2 x → Wd dC dI cI cB cJ cZ ad stM kcM 115 A x H → va_S A s.heap H locs → lv_has ls 5 [(0, .ref (ad 0)), (1, .int l1), (2, .int l2)] → W p l e R s m args below meth c H locs cells slots Q (F0 m 0 ls []) := by
  intro l1 l2 x H locs ls  hw hW hS hl
  unfold wp_Mod_deep at hw
  refine lv_iconst (v := 0) hx hb d_Mod_deep_0 (by decide) ?_
  refine lv_istore_n (lv' := [(3, .int 0), (0, .ref (ad 0)), (1, .int l1), (2, .int l2)]) hx hb d_Mod_deep_1 rfl hl (by decide) rfl (fun ls hl => ?_)
  refine lv_iload_n hx hb d_Mod_deep_2 rfl (lv_at hl 3 rfl) ?_
  refine lv_istore (lv' := [(4, .int l2), (3, .int 0), (0, .ref (ad 0)), (1, .int l1), (2, .int l2)]) hx hb d_Mod_deep_3 hl (by decide) rfl (fun ls hl => ?_)
  obtain ⟨n, hw⟩ := hw
  exact tl_Mod_deep_5 hx hb hml hown hT hK hN hA hRc hRs hRf hRl hret  n l1 l2 0 l2 x H locs ls  hw hW hS (lv_sub hl [2, 3, 4, 1, 0] rfl)
set_option maxHeartbeats 4000000 in
set_option maxRecDepth 100000 in
theorem k_Mod_deep (l : Launch) (dC : Nat → ClassId) (dI : Nat → Nat → Nat) (cI cB cJ cZ : ClassId) (ad : Nat → Nat) (sz : Nat) (l1 : Int32) (l2 : Int32) (x : St) {post : Int32 → St → Prop} (hw : wp_Mod_deep post l1 l2 x) : Met l y_Mod_deep (wsOf y_Mod_deep b_Mod_deep 5 (some (.int))) ({ frames := 1, cells := 0, slots := 0, locals := 21 }) (va_Pc [.ref (ad 0), .int l1, .int l2] (PW dC dI cI cB cJ cZ ad stM kcM 115 sz x)) (va_Qi (fun (r : Int32) (y : St) => post r y) (fun y t => Wd dC dI cI cB cJ cZ ad stM kcM 115 (va_A (pic ad stM kcM 115 cI cB cJ cZ x) sz) y t.heap) (va_A (pic ad stM kcM 115 cI cB cJ cZ x) sz)) 0 0 (va_A (pic ad stM kcM 115 cI cB cJ cZ x) sz) := by
  refine Met.ofW (cc := b_Mod_deep) (maxL := 5) (ret := some (.int)) (by decide) rfl ?_
  intro p e s m args below meth c s₁ B hml hv
  obtain ⟨rfl, hsz, hW0, hK, hN⟩ := hv
  have hx := B.exec
  have hb := B.bytes
  have hr := B.returns
  have hts := atoms_spec B.pre
  have hT : ∀ w ∈ TG, w.before _ s = true := fun w h => hts w (List.mem_cons_of_mem _ h)
  have hown : s.vm.findClass R_Mod = some m.cls := findClass_of_methodNamed B.named
  have hlocks := B.notSynchronized
  subst hsz
  have hW : Wd dC dI cI cB cJ cZ ad stM kcM 115 (va_A (pic ad stM kcM 115 cI cB cJ cZ x) s.heap.size) x s.heap := ⟨hW0.1, hW0.2.1.self (sz := s.heap.size), hW0.2.2⟩
  generalize hAe : va_A (pic ad stM kcM 115 cI cB cJ cZ x) s.heap.size = A at hW ⊢
  have hA : ∀ q : Nat, s.heap.size ≤ q → A q := fun q h => by rw [← hAe]; exact Or.inr h
  have hS : va_S A s.heap s.heap [] := va_S.rf
  have hl := lv_entry ([.ref (ad 0), .int l1, .int l2]) (n := 5) (Nat.le_of_ble_eq_true rfl)
  rw [lg_entry_eq]
  generalize (lg_sl ([.ref (ad 0), .int l1, .int l2]) ++ List.replicate (5 - (lg_sl ([.ref (ad 0), .int l1, .int l2])).length) Slot.unset).toArray = ls at hl ⊢
  have hl : lv_has ls 5 [(0, .ref (ad 0)), (1, .int l1), (2, .int l2)] := hl
  exact t_Mod_deep_e hx hb hml hown hT hK hN hA (Nat.le_refl 0) (Nat.le_refl 0) (Nat.le_refl 1) (Nat.le_refl 21) (fun r x H locs pc ls hd hp hW hS => W.iret (v := r) hx hb hr (fun t ht hM => ⟨⟨r, x, rfl, hp, Wd.back hW ht.symm (fun _ z => z)⟩, hS.F ht⟩) hS.2.2 hd hlocks)  l1 l2 x _ _ ls  hw hW hS hl
set_option maxRecDepth 100000 in
set_option maxHeartbeats 4000000 in
set_option maxRecDepth 100000 in
theorem t_Mod_mayCome_46 {p : Program} {l : Launch} {e : Env} {R : Room} {s : State} {m : MethodId} {args : Array Value} {below : List Frame} {meth : Method} {c : Code} {cells slots : Nat} {Q : State → Prop} {dC : Nat → ClassId} {dI : Nat → Nat → Nat} {cI cB cJ cZ : ClassId} {A : Nat → Prop} {ad : Nat → Nat} {post : Int32 → St → Prop} (hx : p.tables.exec = Jvm.exec) (hb : c.code = b_Mod_mayCome) (hml : c.maxLocals = 3) (hown : s.vm.findClass R_Mod = some m.cls) (hT : ∀ w ∈ TG, w.before args s = true) (hK : va_K (dC, dI) CL (TY cI cB cJ cZ) s) (hN : NW s) (hA : ∀ q : Nat, s.heap.size ≤ q → A q) (hRc : cells ≤ R.cells) (hRs : slots ≤ R.slots) (hRf : 2 ≤ R.frames) (hRl : 45 ≤ R.locals) (hret : ∀ (r : Int32) (x : St) (H : Heap) (locs : List Loc) (pc : Nat) (ls : Array Slot), decode b_Mod_mayCome pc = .ok (.ireturn, 1) → narrow .boolean (.int r) = .int r → post r x → Wd dC dI cI cB cJ cZ ad stM kcM 115 A x H → va_S A s.heap H locs → W p l e R s m args below meth c H locs cells slots Q (F0 m pc ls [.int r]))  : ∀ (l1 : Int32) (l2 : Int32) (x : St) (H : Heap) (locs : List Loc) (ls : Array Slot), j_Mod_mayCome_46 post l1 l2 x → Wd dC dI cI cB cJ cZ ad stM kcM 115 A x H → va_S A s.heap H locs → lv_has ls 3 [(0, .ref (ad 0)), (1, .int l1), (2, .int l2)] → W p l e R s m args below meth c H locs cells slots Q (F0 m 46 ls []) := by
  intro l1 l2 x H locs ls  hw hW hS hl
  unfold j_Mod_mayCome_46 at hw
  refine lv_iconst (v := 0) hx hb d_Mod_mayCome_46 (by decide) ?_
  exact hret 0 x H locs 47 ls d_Mod_mayCome_47 rfl hw hW hS
set_option maxRecDepth 100000 in
set_option maxHeartbeats 4000000 in
set_option maxRecDepth 100000 in
theorem t_Mod_mayCome_42 {p : Program} {l : Launch} {e : Env} {R : Room} {s : State} {m : MethodId} {args : Array Value} {below : List Frame} {meth : Method} {c : Code} {cells slots : Nat} {Q : State → Prop} {dC : Nat → ClassId} {dI : Nat → Nat → Nat} {cI cB cJ cZ : ClassId} {A : Nat → Prop} {ad : Nat → Nat} {post : Int32 → St → Prop} (hx : p.tables.exec = Jvm.exec) (hb : c.code = b_Mod_mayCome) (hml : c.maxLocals = 3) (hown : s.vm.findClass R_Mod = some m.cls) (hT : ∀ w ∈ TG, w.before args s = true) (hK : va_K (dC, dI) CL (TY cI cB cJ cZ) s) (hN : NW s) (hA : ∀ q : Nat, s.heap.size ≤ q → A q) (hRc : cells ≤ R.cells) (hRs : slots ≤ R.slots) (hRf : 2 ≤ R.frames) (hRl : 45 ≤ R.locals) (hret : ∀ (r : Int32) (x : St) (H : Heap) (locs : List Loc) (pc : Nat) (ls : Array Slot), decode b_Mod_mayCome pc = .ok (.ireturn, 1) → narrow .boolean (.int r) = .int r → post r x → Wd dC dI cI cB cJ cZ ad stM kcM 115 A x H → va_S A s.heap H locs → W p l e R s m args below meth c H locs cells slots Q (F0 m pc ls [.int r]))  : ∀ (l1 : Int32) (l2 : Int32) (x : St) (H : Heap) (locs : List Loc) (ls : Array Slot), j_Mod_mayCome_42 post l1 l2 x → Wd dC dI cI cB cJ cZ ad stM kcM 115 A x H → va_S A s.heap H locs → lv_has ls 3 [(0, .ref (ad 0)), (1, .int l1), (2, .int l2)] → W p l e R s m args below meth c H locs cells slots Q (F0 m 42 ls []) := by
  intro l1 l2 x H locs ls  hw hW hS hl
  unfold j_Mod_mayCome_42 at hw
  refine lv_iconst (v := 1) hx hb d_Mod_mayCome_42 (by decide) ?_
  refine lv_goto (tgt := 47) hx hb d_Mod_mayCome_43 (by decide) ?_
  exact hret 1 x H locs 47 ls d_Mod_mayCome_47 rfl hw hW hS
set_option maxRecDepth 100000 in
set_option maxHeartbeats 4000000 in
set_option maxRecDepth 100000 in
theorem t_Mod_mayCome_e {p : Program} {l : Launch} {e : Env} {R : Room} {s : State} {m : MethodId} {args : Array Value} {below : List Frame} {meth : Method} {c : Code} {cells slots : Nat} {Q : State → Prop} {dC : Nat → ClassId} {dI : Nat → Nat → Nat} {cI cB cJ cZ : ClassId} {A : Nat → Prop} {ad : Nat → Nat} {post : Int32 → St → Prop} (hx : p.tables.exec = Jvm.exec) (hb : c.code = b_Mod_mayCome) (hml : c.maxLocals = 3) (hown : s.vm.findClass R_Mod = some m.cls) (hT : ∀ w ∈ TG, w.before args s = true) (hK : va_K (dC, dI) CL (TY cI cB cJ cZ) s) (hN : NW s) (hA : ∀ q : Nat, s.heap.size ≤ q → A q) (hRc : cells ≤ R.cells) (hRs : slots ≤ R.slots) (hRf : 2 ≤ R.frames) (hRl : 45 ≤ R.locals) (hret : ∀ (r : Int32) (x : St) (H : Heap) (locs : List Loc) (pc : Nat) (ls : Array Slot), decode b_Mod_mayCome pc = .ok (.ireturn, 1) → narrow .boolean (.int r) = .int r → post r x → Wd dC dI cI cB cJ cZ ad stM kcM 115 A x H → va_S A s.heap H locs → W p l e R s m args below meth c H locs cells slots Q (F0 m pc ls [.int r])) : ∀ (l1 : Int32) (l2 : Int32) (x : St) (H : Heap) (locs : List Loc) (ls : Array Slot), wp_Mod_mayCome post l1 l2 x → Wd dC dI cI cB cJ cZ ad stM kcM 115 A x H → va_S A s.heap H locs → lv_has ls 3 [(0, .ref (ad 0)), (1, .int l1), (2, .int l2)] → W p l e R s m args below meth c H locs cells slots Q (F0 m 0 ls []) := by
  intro l1 l2 x H locs ls  hw hW hS hl
  unfold wp_Mod_mayCome at hw
  refine lv_aload_n hx hb d_Mod_mayCome_0 rfl (lv_at hl 0 rfl) ?_
  refine w_getf (q := 9) (k := 11) (t := 12) (C := R_Mod) (T := F_Mod) (N := 167) hx hb hT hown hK hW ko_0.1 ko_0.2 (by decide) in_Mod rfl rfl (by decide) rfl fr_Mod_11 w_8_187 d_Mod_mayCome_1 rfl ?_
  refine lv_iconst (v := 2) hx hb d_Mod_mayCome_4 (by decide) ?_
  obtain ⟨hi, hw⟩ := hw
  refine w_iald (o := 9) hx hb hK hW ko_9.1 ko_9.2 hi d_Mod_mayCome_5 ?_
  refine lv_sipush (v := 128) hx hb d_Mod_mayCome_6 (by decide) ?_
  refine lv_icmp_ge (tgt := 46) hx hb d_Mod_mayCome_9 (by decide) (fun c66 => ?_) (fun c66 => ?_)
  · have hw := hw.1 c66
    exact t_Mod_mayCome_46 hx hb hml hown hT hK hN hA hRc hRs hRf hRl hret  l1 l2 x H locs ls  hw hW hS (lv_sub hl [0, 1, 2] rfl)
  · have hw := hw.2 c66
    refine lv_iload_n hx hb d_Mod_mayCome_12 rfl (lv_at hl 1 rfl) ?_
    refine lv_iconst (v := 4) hx hb d_Mod_mayCome_13 (by decide) ?_
    refine lv_icmp_ne (tgt := 31) hx hb d_Mod_mayCome_14 (by decide) (fun c67 => ?_) (fun c67 => ?_)
    · have hw := hw.1 c67
      refine lv_aload_n hx hb d_Mod_mayCome_31 rfl (lv_at hl 0 rfl) ?_
      refine w_getf (q := 10) (k := 12) (t := 12) (C := R_Mod) (T := F_Mod) (N := 167) hx hb hT hown hK hW ko_0.1 ko_0.2 (by decide) in_Mod rfl rfl (by decide) rfl fr_Mod_12 w_8_188 d_Mod_mayCome_32 rfl ?_
      refine lv_iconst (v := 2) hx hb d_Mod_mayCome_35 (by decide) ?_
      obtain ⟨hi, hw⟩ := hw
      refine w_iald (o := 10) hx hb hK hW ko_10.1 ko_10.2 hi d_Mod_mayCome_36 ?_
      refine lv_bipush (v := 64) hx hb d_Mod_mayCome_37 (by decide) ?_
      refine lv_icmp_ge (tgt := 46) hx hb d_Mod_mayCome_39 (by decide) (fun c68 => ?_) (fun c68 => ?_)
      · have hw := hw.1 c68
        exact t_Mod_mayCome_46 hx hb hml hown hT hK hN hA hRc hRs hRf hRl hret  l1 l2 x H locs ls  hw hW hS (lv_sub hl [0, 1, 2] rfl)
      · have hw := hw.2 c68
        exact t_Mod_mayCome_42 hx hb hml hown hT hK hN hA hRc hRs hRf hRl hret  l1 l2 x H locs ls  hw hW hS (lv_sub hl [0, 1, 2] rfl)
    · have hw := hw.2 c67
      refine lv_aload_n hx hb d_Mod_mayCome_17 rfl (lv_at hl 0 rfl) ?_
      refine lv_iconst (v := 2) hx hb d_Mod_mayCome_18 (by decide) ?_
      refine lv_iload_n hx hb d_Mod_mayCome_19 rfl (lv_at hl 2 rfl) ?_
      have hF := hW.free hS hA
      refine va_calli (va_runV (C := R_Mod) (As := [.int 2, .int l2]) (rest := []) ⟨hx, hb, hml, hown, hT⟩ (k_Mod_deep l dC dI cI cB cJ cZ ad H.size 2 l2 x  hw) ⟨callB_of 2 hT (gwt_in w_11_27) rfl rfl rfl (hT _ w_1_15) (hT _ w_11_24) (by decide +kernel) ⟨Nat.le_trans (Nat.le_of_ble_eq_true rfl) hRf, Nat.le_trans (Nat.le_of_ble_eq_true rfl) hRl⟩, hT _ w_11_26, hT _ ws_117⟩ ⟨PW.blind, va_recv hK hW.1 (ci := 12) (q0 := 0) rfl (pic_obj ko_0.1 ko_0.2 (by decide)), PW.at _ hW hK hN⟩ rfl rfl hl.1 rfl (lv_room (Nat.le_of_ble_eq_true rfl)) d_Mod_mayCome_20 ⟨hRc, hRs⟩) hS (fun q _ h => hF q h) hF (fun r70 x69 t H locs ht hvm hw hB hz1 hk1 hS => ?_)
      have hW := Wd.back hB ht hF
      clear hB ht hF hz1 hk1 hvm
      refine lv_bipush (v := 16) hx hb d_Mod_mayCome_23 (by decide) ?_
      refine lv_icmp_ge (tgt := 46) hx hb d_Mod_mayCome_25 (by decide) (fun c71 => ?_) (fun c71 => ?_)
      · have hw := hw.1 c71
        exact t_Mod_mayCome_46 hx hb hml hown hT hK hN hA hRc hRs hRf hRl hret  l1 l2 x69 H locs ls  hw hW hS (lv_sub hl [0, 1, 2] rfl)
      · have hw := hw.2 c71
        refine lv_goto (tgt := 42) hx hb d_Mod_mayCome_28 (by decide) ?_
        exact t_Mod_mayCome_42 hx hb hml hown hT hK hN hA hRc hRs hRf hRl hret  l1 l2 x69 H locs ls  hw hW hS (lv_sub hl [0, 1, 2] rfl)
set_option maxHeartbeats 4000000 in
set_option maxRecDepth 100000 in
theorem k_Mod_mayCome (l : Launch) (dC : Nat → ClassId) (dI : Nat → Nat → Nat) (cI cB cJ cZ : ClassId) (ad : Nat → Nat) (sz : Nat) (l1 : Int32) (l2 : Int32) (x : St) {post : Int32 → St → Prop} (hw : wp_Mod_mayCome post l1 l2 x) : Met l y_Mod_mayCome (wsOf y_Mod_mayCome b_Mod_mayCome 3 (some (.boolean))) ({ frames := 2, cells := 0, slots := 0, locals := 45 }) (va_Pc [.ref (ad 0), .int l1, .int l2] (PW dC dI cI cB cJ cZ ad stM kcM 115 sz x)) (va_Qi (fun (r : Int32) (y : St) => post r y) (fun y t => Wd dC dI cI cB cJ cZ ad stM kcM 115 (va_A (pic ad stM kcM 115 cI cB cJ cZ x) sz) y t.heap) (va_A (pic ad stM kcM 115 cI cB cJ cZ x) sz)) 0 0 (va_A (pic ad stM kcM 115 cI cB cJ cZ x) sz) := by
  refine Met.ofW (cc := b_Mod_mayCome) (maxL := 3) (ret := some (.boolean)) (by decide) rfl ?_
  intro p e s m args below meth c s₁ B hml hv
  obtain ⟨rfl, hsz, hW0, hK, hN⟩ := hv
  have hx := B.exec
  have hb := B.bytes
  have hr := B.returns
  have hts := atoms_spec B.pre
  have hT : ∀ w ∈ TG, w.before _ s = true := fun w h => hts w (List.mem_cons_of_mem _ h)
  have hown : s.vm.findClass R_Mod = some m.cls := findClass_of_methodNamed B.named
  have hlocks := B.notSynchronized
  subst hsz
  have hW : Wd dC dI cI cB cJ cZ ad stM kcM 115 (va_A (pic ad stM kcM 115 cI cB cJ cZ x) s.heap.size) x s.heap := ⟨hW0.1, hW0.2.1.self (sz := s.heap.size), hW0.2.2⟩
  generalize hAe : va_A (pic ad stM kcM 115 cI cB cJ cZ x) s.heap.size = A at hW ⊢
  have hA : ∀ q : Nat, s.heap.size ≤ q → A q := fun q h => by rw [← hAe]; exact Or.inr h
  have hS : va_S A s.heap s.heap [] := va_S.rf
  have hl := lv_entry ([.ref (ad 0), .int l1, .int l2]) (n := 3) (Nat.le_of_ble_eq_true rfl)
  rw [lg_entry_eq]
  generalize (lg_sl ([.ref (ad 0), .int l1, .int l2]) ++ List.replicate (3 - (lg_sl ([.ref (ad 0), .int l1, .int l2])).length) Slot.unset).toArray = ls at hl ⊢
  have hl : lv_has ls 3 [(0, .ref (ad 0)), (1, .int l1), (2, .int l2)] := hl
  exact t_Mod_mayCome_e hx hb hml hown hT hK hN hA (Nat.le_refl 0) (Nat.le_refl 0) (Nat.le_refl 2) (Nat.le_refl 45) (fun r x H locs pc ls hd hz hp hW hS => W.zret (v := r) (ty := .boolean) hx hb hr hz (fun t ht hM => ⟨⟨r, x, rfl, hp, Wd.back hW ht.symm (fun _ z => z)⟩, hS.F ht⟩) hS.2.2 hd hlocks)  l1 l2 x _ _ ls  hw hW hS hl
set_option maxRecDepth 100000 in
set_option maxHeartbeats 4000000 in
set_option maxRecDepth 100000 in
theorem t_Mod_find_118 {p : Program} {l : Launch} {e : Env} {R : Room} {s : State} {m : MethodId} {args : Array Value} {below : List Frame} {meth : Method} {c : Code} {cells slots : Nat} {Q : State → Prop} {dC : Nat → ClassId} {dI : Nat → Nat → Nat} {cI cB cJ cZ : ClassId} {A : Nat → Prop} {ad : Nat → Nat} {post : Int32 → St → Prop} {rec6 : Int32 → Int32 → Nat → Int32 → Int32 → Int32 → Int32 → St → Prop} (hx : p.tables.exec = Jvm.exec) (hb : c.code = b_Mod_find) (hml : c.maxLocals = 11) (hown : s.vm.findClass R_Mod = some m.cls) (hT : ∀ w ∈ TG, w.before args s = true) (hK : va_K (dC, dI) CL (TY cI cB cJ cZ) s) (hN : NW s) (hA : ∀ q : Nat, s.heap.size ≤ q → A q) (hRc : cells ≤ R.cells) (hRs : slots ≤ R.slots) (hRf : 1 ≤ R.frames) (hRl : 21 ≤ R.locals) (hret : ∀ (r : Int32) (x : St) (H : Heap) (locs : List Loc) (pc : Nat) (ls : Array Slot), decode b_Mod_find pc = .ok (.ireturn, 1) → post r x → Wd dC dI cI cB cJ cZ ad stM kcM 115 A x H → va_S A s.heap H locs → W p l e R s m args below meth c H locs cells slots Q (F0 m pc ls [.int r])) (hrec6 : ∀ (l1 : Int32) (l2 : Int32) (l3 : Nat) (l4 : Int32) (l5 : Int32) (l6 : Int32) (l7 : Int32) (x : St) (H : Heap) (locs : List Loc) (ls : Array Slot), (l3 < 115 ∧ kcM l3 = 20) → rec6 l1 l2 l3 l4 l5 l6 l7 x → Wd dC dI cI cB cJ cZ ad stM kcM 115 A x H → va_S A s.heap H locs → lv_has ls 11 [(0, .ref (ad 0)), (1, .int l1), (2, .int l2), (3, .ref (ad l3)), (4, .int l4), (5, .int l5), (6, .int l6), (7, .int l7)] → W p l e R s m args below meth c H locs cells slots Q (F0 m 6 ls [])) : ∀ (l1 : Int32) (l2 : Int32) (l3 : Nat) (l4 : Int32) (l5 : Int32) (l6 : Int32) (l7 : Int32) (l8 : Int32) (l9 : Int32) (l10 : Int32) (s0 : Int32) (x : St) (H : Heap) (locs : List Loc) (ls : Array Slot), (l3 < 115 ∧ kcM l3 = 20) → j_Mod_find_118 post rec6 l1 l2 l3 l4 l5 l6 l7 l8 l9 l10 s0 x → Wd dC dI cI cB cJ cZ ad stM kcM 115 A x H → va_S A s.heap H locs → lv_has ls 11 [(0, .ref (ad 0)), (1, .int l1), (2, .int l2), (3, .ref (ad l3)), (4, .int l4), (5, .int l5), (6, .int l6), (7, .int l7), (8, .int l8), (9, .int l9), (10, .int l10)] → W p l e R s m args below meth c H locs cells slots Q (F0 m 118 ls [.int s0]) := by
  intro l1 l2 l3 l4 l5 l6 l7 l8 l9 l10 s0 x H locs ls fl3 hw hW hS hl
  unfold j_Mod_find_118 at hw
  refine lv_istore (lv' := [(6, .int s0), (0, .ref (ad 0)), (1, .int l1), (2, .int l2), (3, .ref (ad l3)), (4, .int l4), (5, .int l5), (7, .int l7), (8, .int l8), (9, .int l9), (10, .int l10)]) hx hb d_Mod_find_118 hl (by decide) rfl (fun ls hl => ?_)
  refine lv_iinc (v := (l7 + 1)) (lv' := [(7, .int (l7 + 1)), (6, .int s0), (0, .ref (ad 0)), (1, .int l1), (2, .int l2), (3, .ref (ad l3)), (4, .int l4), (5, .int l5), (8, .int l8), (9, .int l9), (10, .int l10)]) hx hb d_Mod_find_120 hl (k := 7) rfl rfl (by decide) rfl (fun ls hl => ?_)
  refine lv_goto (tgt := 6) hx hb d_Mod_find_123 (by decide) ?_
  exact hrec6 l1 l2 l3 l4 l5 s0 (l7 + 1) x H locs ls fl3 hw hW hS (lv_sub hl [2, 3, 4, 5, 6, 7, 1, 0] rfl)
set_option maxRecDepth 100000 in
set_option maxHeartbeats 4000000 in
set_option maxRecDepth 100000 in
theorem t_Mod_find_106 {p : Program} {l : Launch} {e : Env} {R : Room} {s : State} {m : MethodId} {args : Array Value} {below : List Frame} {meth : Method} {c : Code} {cells slots : Nat} {Q : State → Prop} {dC : Nat → ClassId} {dI : Nat → Nat → Nat} {cI cB cJ cZ : ClassId} {A : Nat → Prop} {ad : Nat → Nat} {post : Int32 → St → Prop} {rec6 : Int32 → Int32 → Nat → Int32 → Int32 → Int32 → Int32 → St → Prop} (hx : p.tables.exec = Jvm.exec) (hb : c.code = b_Mod_find) (hml : c.maxLocals = 11) (hown : s.vm.findClass R_Mod = some m.cls) (hT : ∀ w ∈ TG, w.before args s = true) (hK : va_K (dC, dI) CL (TY cI cB cJ cZ) s) (hN : NW s) (hA : ∀ q : Nat, s.heap.size ≤ q → A q) (hRc : cells ≤ R.cells) (hRs : slots ≤ R.slots) (hRf : 1 ≤ R.frames) (hRl : 21 ≤ R.locals) (hret : ∀ (r : Int32) (x : St) (H : Heap) (locs : List Loc) (pc : Nat) (ls : Array Slot), decode b_Mod_find pc = .ok (.ireturn, 1) → post r x → Wd dC dI cI cB cJ cZ ad stM kcM 115 A x H → va_S A s.heap H locs → W p l e R s m args below meth c H locs cells slots Q (F0 m pc ls [.int r])) (hrec6 : ∀ (l1 : Int32) (l2 : Int32) (l3 : Nat) (l4 : Int32) (l5 : Int32) (l6 : Int32) (l7 : Int32) (x : St) (H : Heap) (locs : List Loc) (ls : Array Slot), (l3 < 115 ∧ kcM l3 = 20) → rec6 l1 l2 l3 l4 l5 l6 l7 x → Wd dC dI cI cB cJ cZ ad stM kcM 115 A x H → va_S A s.heap H locs → lv_has ls 11 [(0, .ref (ad 0)), (1, .int l1), (2, .int l2), (3, .ref (ad l3)), (4, .int l4), (5, .int l5), (6, .int l6), (7, .int l7)] → W p l e R s m args below meth c H locs cells slots Q (F0 m 6 ls [])) : ∀ (l1 : Int32) (l2 : Int32) (l3 : Nat) (l4 : Int32) (l5 : Int32) (l6 : Int32) (l7 : Int32) (l8 : Int32) (l9 : Int32) (l10 : Int32) (x : St) (H : Heap) (locs : List Loc) (ls : Array Slot), (l3 < 115 ∧ kcM l3 = 20) → j_Mod_find_106 post rec6 l1 l2 l3 l4 l5 l6 l7 l8 l9 l10 x → Wd dC dI cI cB cJ cZ ad stM kcM 115 A x H → va_S A s.heap H locs → lv_has ls 11 [(0, .ref (ad 0)), (1, .int l1), (2, .int l2), (3, .ref (ad l3)), (4, .int l4), (5, .int l5), (6, .int l6), (7, .int l7), (8, .int l8), (9, .int l9), (10, .int l10)] → W p l e R s m args below meth c H locs cells slots Q (F0 m 106 ls []) := by
  intro l1 l2 l3 l4 l5 l6 l7 l8 l9 l10 x H locs ls fl3 hw hW hS hl
  unfold j_Mod_find_106 at hw
  refine lv_iload hx hb d_Mod_find_106 (lv_at hl 9 rfl) ?_
  refine lv_if_eq (tgt := 116) hx hb d_Mod_find_108 (by decide) (fun c72 => ?_) (fun c72 => ?_)
  · have hw := hw.1 c72
    refine lv_iload hx hb d_Mod_find_116 (lv_at hl 6 rfl) ?_
    exact t_Mod_find_118 hx hb hml hown hT hK hN hA hRc hRs hRf hRl hret hrec6 l1 l2 l3 l4 l5 l6 l7 l8 l9 l10 l6 x H locs ls fl3 hw hW hS (lv_sub hl [0, 1, 2, 3, 4, 5, 6, 7, 8, 9, 10] rfl)
  · have hw := hw.2 c72
    refine lv_iload hx hb d_Mod_find_111 (lv_at hl 7 rfl) ?_
    refine lv_goto (tgt := 118) hx hb d_Mod_find_113 (by decide) ?_
    exact t_Mod_find_118 hx hb hml hown hT hK hN hA hRc hRs hRf hRl hret hrec6 l1 l2 l3 l4 l5 l6 l7 l8 l9 l10 l7 x H locs ls fl3 hw hW hS (lv_sub hl [0, 1, 2, 3, 4, 5, 6, 7, 8, 9, 10] rfl)
set_option maxRecDepth 100000 in
set_option maxHeartbeats 4000000 in
set_option maxRecDepth 100000 in
theorem t_Mod_find_98 {p : Program} {l : Launch} {e : Env} {R : Room} {s : State} {m : MethodId} {args : Array Value} {below : List Frame} {meth : Method} {c : Code} {cells slots : Nat} {Q : State → Prop} {dC : Nat → ClassId} {dI : Nat → Nat → Nat} {cI cB cJ cZ : ClassId} {A : Nat → Prop} {ad : Nat → Nat} {post : Int32 → St → Prop} {rec6 : Int32 → Int32 → Nat → Int32 → Int32 → Int32 → Int32 → St → Prop} {rec58 : Int32 → Int32 → Nat → Int32 → Int32 → Int32 → Int32 → Int32 → Int32 → Int32 → St → Prop} (hx : p.tables.exec = Jvm.exec) (hb : c.code = b_Mod_find) (hml : c.maxLocals = 11) (hown : s.vm.findClass R_Mod = some m.cls) (hT : ∀ w ∈ TG, w.before args s = true) (hK : va_K (dC, dI) CL (TY cI cB cJ cZ) s) (hN : NW s) (hA : ∀ q : Nat, s.heap.size ≤ q → A q) (hRc : cells ≤ R.cells) (hRs : slots ≤ R.slots) (hRf : 1 ≤ R.frames) (hRl : 21 ≤ R.locals) (hret : ∀ (r : Int32) (x : St) (H : Heap) (locs : List Loc) (pc : Nat) (ls : Array Slot), decode b_Mod_find pc = .ok (.ireturn, 1) → post r x → Wd dC dI cI cB cJ cZ ad stM kcM 115 A x H → va_S A s.heap H locs → W p l e R s m args below meth c H locs cells slots Q (F0 m pc ls [.int r])) (hrec6 : ∀ (l1 : Int32) (l2 : Int32) (l3 : Nat) (l4 : Int32) (l5 : Int32) (l6 : Int32) (l7 : Int32) (x : St) (H : Heap) (locs : List Loc) (ls : Array Slot), (l3 < 115 ∧ kcM l3 = 20) → rec6 l1 l2 l3 l4 l5 l6 l7 x → Wd dC dI cI cB cJ cZ ad stM kcM 115 A x H → va_S A s.heap H locs → lv_has ls 11 [(0, .ref (ad 0)), (1, .int l1), (2, .int l2), (3, .ref (ad l3)), (4, .int l4), (5, .int l5), (6, .int l6), (7, .int l7)] → W p l e R s m args below meth c H locs cells slots Q (F0 m 6 ls [])) (hrec58 : ∀ (l1 : Int32) (l2 : Int32) (l3 : Nat) (l4 : Int32) (l5 : Int32) (l6 : Int32) (l7 : Int32) (l8 : Int32) (l9 : Int32) (l10 : Int32) (x : St) (H : Heap) (locs : List Loc) (ls : Array Slot), (l3 < 115 ∧ kcM l3 = 20) → rec58 l1 l2 l3 l4 l5 l6 l7 l8 l9 l10 x → Wd dC dI cI cB cJ cZ ad stM kcM 115 A x H → va_S A s.heap H locs → lv_has ls 11 [(0, .ref (ad 0)), (1, .int l1), (2, .int l2), (3, .ref (ad l3)), (4, .int l4), (5, .int l5), (6, .int l6), (7, .int l7), (8, .int l8), (9, .int l9), (10, .int l10)] → W p l e R s m args below meth c H locs cells slots Q (F0 m 58 ls [])) : ∀ (l1 : Int32) (l2 : Int32) (l3 : Nat) (l4 : Int32) (l5 : Int32) (l6 : Int32) (l7 : Int32) (l8 : Int32) (l9 : Int32) (l10 : Int32) (s0 : Int32) (x : St) (H : Heap) (locs : List Loc) (ls : Array Slot), (l3 < 115 ∧ kcM l3 = 20) → j_Mod_find_98 post rec6 rec58 l1 l2 l3 l4 l5 l6 l7 l8 l9 l10 s0 x → Wd dC dI cI cB cJ cZ ad stM kcM 115 A x H → va_S A s.heap H locs → lv_has ls 11 [(0, .ref (ad 0)), (1, .int l1), (2, .int l2), (3, .ref (ad l3)), (4, .int l4), (5, .int l5), (6, .int l6), (7, .int l7), (8, .int l8), (9, .int l9), (10, .int l10)] → W p l e R s m args below meth c H locs cells slots Q (F0 m 98 ls [.int s0]) := by
  intro l1 l2 l3 l4 l5 l6 l7 l8 l9 l10 s0 x H locs ls fl3 hw hW hS hl
  unfold j_Mod_find_98 at hw
  refine lv_istore (lv' := [(9, .int s0), (0, .ref (ad 0)), (1, .int l1), (2, .int l2), (3, .ref (ad l3)), (4, .int l4), (5, .int l5), (6, .int l6), (7, .int l7), (8, .int l8), (10, .int l10)]) hx hb d_Mod_find_98 hl (by decide) rfl (fun ls hl => ?_)
  refine lv_iinc (v := (l10 + 1)) (lv' := [(10, .int (l10 + 1)), (9, .int s0), (0, .ref (ad 0)), (1, .int l1), (2, .int l2), (3, .ref (ad l3)), (4, .int l4), (5, .int l5), (6, .int l6), (7, .int l7), (8, .int l8)]) hx hb d_Mod_find_100 hl (k := 10) rfl rfl (by decide) rfl (fun ls hl => ?_)
  refine lv_goto (tgt := 58) hx hb d_Mod_find_103 (by decide) ?_
  exact hrec58 l1 l2 l3 l4 l5 l6 l7 l8 s0 (l10 + 1) x H locs ls fl3 hw hW hS (lv_sub hl [2, 3, 4, 5, 6, 7, 8, 9, 10, 1, 0] rfl)
set_option maxRecDepth 100000 in
set_option maxHeartbeats 4000000 in
set_option maxRecDepth 100000 in
theorem t_Mod_find_58 {p : Program} {l : Launch} {e : Env} {R : Room} {s : State} {m : MethodId} {args : Array Value} {below : List Frame} {meth : Method} {c : Code} {cells slots : Nat} {Q : State → Prop} {dC : Nat → ClassId} {dI : Nat → Nat → Nat} {cI cB cJ cZ : ClassId} {A : Nat → Prop} {ad : Nat → Nat} {post : Int32 → St → Prop} {rec6 : Int32 → Int32 → Nat → Int32 → Int32 → Int32 → Int32 → St → Prop} {rec58 : Int32 → Int32 → Nat → Int32 → Int32 → Int32 → Int32 → Int32 → Int32 → Int32 → St → Prop} (hx : p.tables.exec = Jvm.exec) (hb : c.code = b_Mod_find) (hml : c.maxLocals = 11) (hown : s.vm.findClass R_Mod = some m.cls) (hT : ∀ w ∈ TG, w.before args s = true) (hK : va_K (dC, dI) CL (TY cI cB cJ cZ) s) (hN : NW s) (hA : ∀ q : Nat, s.heap.size ≤ q → A q) (hRc : cells ≤ R.cells) (hRs : slots ≤ R.slots) (hRf : 1 ≤ R.frames) (hRl : 21 ≤ R.locals) (hret : ∀ (r : Int32) (x : St) (H : Heap) (locs : List Loc) (pc : Nat) (ls : Array Slot), decode b_Mod_find pc = .ok (.ireturn, 1) → post r x → Wd dC dI cI cB cJ cZ ad stM kcM 115 A x H → va_S A s.heap H locs → W p l e R s m args below meth c H locs cells slots Q (F0 m pc ls [.int r])) (hrec6 : ∀ (l1 : Int32) (l2 : Int32) (l3 : Nat) (l4 : Int32) (l5 : Int32) (l6 : Int32) (l7 : Int32) (x : St) (H : Heap) (locs : List Loc) (ls : Array Slot), (l3 < 115 ∧ kcM l3 = 20) → rec6 l1 l2 l3 l4 l5 l6 l7 x → Wd dC dI cI cB cJ cZ ad stM kcM 115 A x H → va_S A s.heap H locs → lv_has ls 11 [(0, .ref (ad 0)), (1, .int l1), (2, .int l2), (3, .ref (ad l3)), (4, .int l4), (5, .int l5), (6, .int l6), (7, .int l7)] → W p l e R s m args below meth c H locs cells slots Q (F0 m 6 ls [])) (hrec58 : ∀ (l1 : Int32) (l2 : Int32) (l3 : Nat) (l4 : Int32) (l5 : Int32) (l6 : Int32) (l7 : Int32) (l8 : Int32) (l9 : Int32) (l10 : Int32) (x : St) (H : Heap) (locs : List Loc) (ls : Array Slot), (l3 < 115 ∧ kcM l3 = 20) → rec58 l1 l2 l3 l4 l5 l6 l7 l8 l9 l10 x → Wd dC dI cI cB cJ cZ ad stM kcM 115 A x H → va_S A s.heap H locs → lv_has ls 11 [(0, .ref (ad 0)), (1, .int l1), (2, .int l2), (3, .ref (ad l3)), (4, .int l4), (5, .int l5), (6, .int l6), (7, .int l7), (8, .int l8), (9, .int l9), (10, .int l10)] → W p l e R s m args below meth c H locs cells slots Q (F0 m 58 ls [])) : ∀ (l1 : Int32) (l2 : Int32) (l3 : Nat) (l4 : Int32) (l5 : Int32) (l6 : Int32) (l7 : Int32) (l8 : Int32) (l9 : Int32) (l10 : Int32) (x : St) (H : Heap) (locs : List Loc) (ls : Array Slot), (l3 < 115 ∧ kcM l3 = 20) → j_Mod_find_58 post rec6 rec58 l1 l2 l3 l4 l5 l6 l7 l8 l9 l10 x → Wd dC dI cI cB cJ cZ ad stM kcM 115 A x H → va_S A s.heap H locs → lv_has ls 11 [(0, .ref (ad 0)), (1, .int l1), (2, .int l2), (3, .ref (ad l3)), (4, .int l4), (5, .int l5), (6, .int l6), (7, .int l7), (8, .int l8), (9, .int l9), (10, .int l10)] → W p l e R s m args below meth c H locs cells slots Q (F0 m 58 ls []) := by
  intro l1 l2 l3 l4 l5 l6 l7 l8 l9 l10 x H locs ls fl3 hw hW hS hl
  unfold j_Mod_find_58 at hw
  refine lv_iload hx hb d_Mod_find_58 (lv_at hl 9 rfl) ?_
  refine lv_if_eq (tgt := 106) hx hb d_Mod_find_60 (by decide) (fun c73 => ?_) (fun c73 => ?_)
  · have hw := hw.1 c73
    exact t_Mod_find_106 hx hb hml hown hT hK hN hA hRc hRs hRf hRl hret hrec6 l1 l2 l3 l4 l5 l6 l7 l8 l9 l10 x H locs ls fl3 hw hW hS (lv_sub hl [0, 1, 2, 3, 4, 5, 6, 7, 8, 9, 10] rfl)
  · have hw := hw.2 c73
    refine lv_iload hx hb d_Mod_find_63 (lv_at hl 10 rfl) ?_
    refine lv_iload hx hb d_Mod_find_65 (lv_at hl 5 rfl) ?_
    refine lv_icmp_ge (tgt := 106) hx hb d_Mod_find_67 (by decide) (fun c74 => ?_) (fun c74 => ?_)
    · have hw := hw.1 c74
      exact t_Mod_find_106 hx hb hml hown hT hK hN hA hRc hRs hRf hRl hret hrec6 l1 l2 l3 l4 l5 l6 l7 l8 l9 l10 x H locs ls fl3 hw hW hS (lv_sub hl [0, 1, 2, 3, 4, 5, 6, 7, 8, 9, 10] rfl)
    · have hw := hw.2 c74
      refine lv_aload_n hx hb d_Mod_find_70 rfl (lv_at hl 0 rfl) ?_
      refine w_getf (q := 8) (k := 10) (t := 12) (C := R_Mod) (T := F_Mod) (N := 167) hx hb hT hown hK hW ko_0.1 ko_0.2 (by decide) in_Mod rfl rfl (by decide) rfl fr_Mod_10 w_8_186 d_Mod_find_71 rfl ?_
      refine lv_bipush (v := 16) hx hb d_Mod_find_74 (by decide) ?_
      refine lv_iload hx hb d_Mod_find_76 (lv_at hl 8 rfl) ?_
      refine lv_imul hx hb d_Mod_find_78 ?_
      refine lv_iload hx hb d_Mod_find_79 (lv_at hl 10 rfl) ?_
      refine lv_iadd hx hb d_Mod_find_81 ?_
      obtain ⟨hi, hw⟩ := hw
      refine w_iald (o := 8) hx hb hK hW ko_8.1 ko_8.2 hi d_Mod_find_82 ?_
      refine lv_aload_n hx hb d_Mod_find_83 rfl (lv_at hl 3 rfl) ?_
      refine lv_iload hx hb d_Mod_find_84 (lv_at hl 4 rfl) ?_
      refine lv_iload hx hb d_Mod_find_86 (lv_at hl 10 rfl) ?_
      refine lv_iadd hx hb d_Mod_find_88 ?_
      obtain ⟨hi, hw⟩ := hw
      refine w_iald (o := l3) hx hb hK hW fl3.1 fl3.2 hi d_Mod_find_89 ?_
      refine lv_icmp_ne (tgt := 97) hx hb d_Mod_find_90 (by decide) (fun c75 => ?_) (fun c75 => ?_)
      · have hw := hw.1 c75
        refine lv_iconst (v := 0) hx hb d_Mod_find_97 (by decide) ?_
        exact t_Mod_find_98 hx hb hml hown hT hK hN hA hRc hRs hRf hRl hret hrec6 hrec58 l1 l2 l3 l4 l5 l6 l7 l8 l9 l10 0 x H locs ls fl3 hw hW hS (lv_sub hl [0, 1, 2, 3, 4, 5, 6, 7, 8, 9, 10] rfl)
      · have hw := hw.2 c75
        refine lv_iconst (v := 1) hx hb d_Mod_find_93 (by decide) ?_
        refine lv_goto (tgt := 98) hx hb d_Mod_find_94 (by decide) ?_
        exact t_Mod_find_98 hx hb hml hown hT hK hN hA hRc hRs hRf hRl hret hrec6 hrec58 l1 l2 l3 l4 l5 l6 l7 l8 l9 l10 1 x H locs ls fl3 hw hW hS (lv_sub hl [0, 1, 2, 3, 4, 5, 6, 7, 8, 9, 10] rfl)
set_option maxHeartbeats 4000000 in
set_option maxRecDepth 100000 in
theorem tl_Mod_find_58 {p : Program} {l : Launch} {e : Env} {R : Room} {s : State} {m : MethodId} {args : Array Value} {below : List Frame} {meth : Method} {c : Code} {cells slots : Nat} {Q : State → Prop} {dC : Nat → ClassId} {dI : Nat → Nat → Nat} {cI cB cJ cZ : ClassId} {A : Nat → Prop} {ad : Nat → Nat} {post : Int32 → St → Prop} {rec6 : Int32 → Int32 → Nat → Int32 → Int32 → Int32 → Int32 → St → Prop} (hx : p.tables.exec = Jvm.exec) (hb : c.code = b_Mod_find) (hml : c.maxLocals = 11) (hown : s.vm.findClass R_Mod = some m.cls) (hT : ∀ w ∈ TG, w.before args s = true) (hK : va_K (dC, dI) CL (TY cI cB cJ cZ) s) (hN : NW s) (hA : ∀ q : Nat, s.heap.size ≤ q → A q) (hRc : cells ≤ R.cells) (hRs : slots ≤ R.slots) (hRf : 1 ≤ R.frames) (hRl : 21 ≤ R.locals) (hret : ∀ (r : Int32) (x : St) (H : Heap) (locs : List Loc) (pc : Nat) (ls : Array Slot), decode b_Mod_find pc = .ok (.ireturn, 1) → post r x → Wd dC dI cI cB cJ cZ ad stM kcM 115 A x H → va_S A s.heap H locs → W p l e R s m args below meth c H locs cells slots Q (F0 m pc ls [.int r])) (hrec6 : ∀ (l1 : Int32) (l2 : Int32) (l3 : Nat) (l4 : Int32) (l5 : Int32) (l6 : Int32) (l7 : Int32) (x : St) (H : Heap) (locs : List Loc) (ls : Array Slot), (l3 < 115 ∧ kcM l3 = 20) → rec6 l1 l2 l3 l4 l5 l6 l7 x → Wd dC dI cI cB cJ cZ ad stM kcM 115 A x H → va_S A s.heap H locs → lv_has ls 11 [(0, .ref (ad 0)), (1, .int l1), (2, .int l2), (3, .ref (ad l3)), (4, .int l4), (5, .int l5), (6, .int l6), (7, .int l7)] → W p l e R s m args below meth c H locs cells slots Q (F0 m 6 ls [])) : ∀ n : Nat, ∀ (l1 : Int32) (l2 : Int32) (l3 : Nat) (l4 : Int32) (l5 : Int32) (l6 : Int32) (l7 : Int32) (l8 : Int32) (l9 : Int32) (l10 : Int32) (x : St) (H : Heap) (locs : List Loc) (ls : Array Slot), (l3 < 115 ∧ kcM l3 = 20) → wl_Mod_find_58 post rec6 n l1 l2 l3 l4 l5 l6 l7 l8 l9 l10 x → Wd dC dI cI cB cJ cZ ad stM kcM 115 A x H → va_S A s.heap H locs → lv_has ls 11 [(0, .ref (ad 0)), (1, .int l1), (2, .int l2), (3, .ref (ad l3)), (4, .int l4), (5, .int l5), (6, .int l6), (7, .int l7), (8, .int l8), (9, .int l9), (10, .int l10)] → W p l e R s m args below meth c H locs cells slots Q (F0 m 58 ls []) := by
  intro n
  induction n with
  | zero => intro l1 l2 l3 l4 l5 l6 l7 l8 l9 l10 x H locs ls fl3 hw; exact hw.elim
  | succ n ih => intro l1 l2 l3 l4 l5 l6 l7 l8 l9 l10 x H locs ls fl3 hw hW hS hl; exact t_Mod_find_58 hx hb hml hown hT hK hN hA hRc hRs hRf hRl hret hrec6 ih l1 l2 l3 l4 l5 l6 l7 l8 l9 l10 x H locs ls fl3 hw hW hS hl
set_option maxRecDepth 100000 in
set_option maxHeartbeats 4000000 in
set_option maxRecDepth 100000 in
theorem t_Mod_find_53 {p : Program} {l : Launch} {e : Env} {R : Room} {s : State} {m : MethodId} {args : Array Value} {below : List Frame} {meth : Method} {c : Code} {cells slots : Nat} {Q : State → Prop} {dC : Nat → ClassId} {dI : Nat → Nat → Nat} {cI cB cJ cZ : ClassId} {A : Nat → Prop} {ad : Nat → Nat} {post : Int32 → St → Prop} {rec6 : Int32 → Int32 → Nat → Int32 → Int32 → Int32 → Int32 → St → Prop} (hx : p.tables.exec = Jvm.exec) (hb : c.code = b_Mod_find) (hml : c.maxLocals = 11) (hown : s.vm.findClass R_Mod = some m.cls) (hT : ∀ w ∈ TG, w.before args s = true) (hK : va_K (dC, dI) CL (TY cI cB cJ cZ) s) (hN : NW s) (hA : ∀ q : Nat, s.heap.size ≤ q → A q) (hRc : cells ≤ R.cells) (hRs : slots ≤ R.slots) (hRf : 1 ≤ R.frames) (hRl : 21 ≤ R.locals) (hret : ∀ (r : Int32) (x : St) (H : Heap) (locs : List Loc) (pc : Nat) (ls : Array Slot), decode b_Mod_find pc = .ok (.ireturn, 1) → post r x → Wd dC dI cI cB cJ cZ ad stM kcM 115 A x H → va_S A s.heap H locs → W p l e R s m args below meth c H locs cells slots Q (F0 m pc ls [.int r])) (hrec6 : ∀ (l1 : Int32) (l2 : Int32) (l3 : Nat) (l4 : Int32) (l5 : Int32) (l6 : Int32) (l7 : Int32) (x : St) (H : Heap) (locs : List Loc) (ls : Array Slot), (l3 < 115 ∧ kcM l3 = 20) → rec6 l1 l2 l3 l4 l5 l6 l7 x → Wd dC dI cI cB cJ cZ ad stM kcM 115 A x H → va_S A s.heap H locs → lv_has ls 11 [(0, .ref (ad 0)), (1, .int l1), (2, .int l2), (3, .ref (ad l3)), (4, .int l4), (5, .int l5), (6, .int l6), (7, .int l7)] → W p l e R s m args below meth c H locs cells slots Q (F0 m 6 ls [])) : ∀ (l1 : Int32) (l2 : Int32) (l3 : Nat) (l4 : Int32) (l5 : Int32) (l6 : Int32) (l7 : Int32) (l8 : Int32) (s0 : Int32) (x : St) (H : Heap) (locs : List Loc) (ls : Array Slot), (l3 < 115 ∧ kcM l3 = 20) → j_Mod_find_53 post rec6 l1 l2 l3 l4 l5 l6 l7 l8 s0 x → Wd dC dI cI cB cJ cZ ad stM kcM 115 A x H → va_S A s.heap H locs → lv_has ls 11 [(0, .ref (ad 0)), (1, .int l1), (2, .int l2), (3, .ref (ad l3)), (4, .int l4), (5, .int l5), (6, .int l6), (7, .int l7), (8, .int l8)] → W p l e R s m args below meth c H locs cells slots Q (F0 m 53 ls [.int s0]) := by
  intro l1 l2 l3 l4 l5 l6 l7 l8 s0 x H locs ls fl3 hw hW hS hl
  unfold j_Mod_find_53 at hw
  refine lv_istore (lv' := [(9, .int s0), (0, .ref (ad 0)), (1, .int l1), (2, .int l2), (3, .ref (ad l3)), (4, .int l4), (5, .int l5), (6, .int l6), (7, .int l7), (8, .int l8)]) hx hb d_Mod_find_53 hl (by decide) rfl (fun ls hl => ?_)
  refine lv_iconst (v := 0) hx hb d_Mod_find_55 (by decide) ?_
  refine lv_istore (lv' := [(10, .int 0), (9, .int s0), (0, .ref (ad 0)), (1, .int l1), (2, .int l2), (3, .ref (ad l3)), (4, .int l4), (5, .int l5), (6, .int l6), (7, .int l7), (8, .int l8)]) hx hb d_Mod_find_56 hl (by decide) rfl (fun ls hl => ?_)
  obtain ⟨n, hw⟩ := hw
  exact tl_Mod_find_58 hx hb hml hown hT hK hN hA hRc hRs hRf hRl hret hrec6 n l1 l2 l3 l4 l5 l6 l7 l8 s0 0 x H locs ls fl3 hw hW hS (lv_sub hl [2, 3, 4, 5, 6, 7, 8, 9, 10, 1, 0] rfl)
set_option maxRecDepth 100000 in
set_option maxHeartbeats 4000000 in
set_option maxRecDepth 100000 in
theorem t_Mod_find_52 {p : Program} {l : Launch} {e : Env} {R : Room} {s : State} {m : MethodId} {args : Array Value} {below : List Frame} {meth : Method} {c : Code} {cells slots : Nat} {Q : State → Prop} {dC : Nat → ClassId} {dI : Nat → Nat → Nat} {cI cB cJ cZ : ClassId} {A : Nat → Prop} {ad : Nat → Nat} {post : Int32 → St → Prop} {rec6 : Int32 → Int32 → Nat → Int32 → Int32 → Int32 → Int32 → St → Prop} (hx : p.tables.exec = Jvm.exec) (hb : c.code = b_Mod_find) (hml : c.maxLocals = 11) (hown : s.vm.findClass R_Mod = some m.cls) (hT : ∀ w ∈ TG, w.before args s = true) (hK : va_K (dC, dI) CL (TY cI cB cJ cZ) s) (hN : NW s) (hA : ∀ q : Nat, s.heap.size ≤ q → A q) (hRc : cells ≤ R.cells) (hRs : slots ≤ R.slots) (hRf : 1 ≤ R.frames) (hRl : 21 ≤ R.locals) (hret : ∀ (r : Int32) (x : St) (H : Heap) (locs : List Loc) (pc : Nat) (ls : Array Slot), decode b_Mod_find pc = .ok (.ireturn, 1) → post r x → Wd dC dI cI cB cJ cZ ad stM kcM 115 A x H → va_S A s.heap H locs → W p l e R s m args below meth c H locs cells slots Q (F0 m pc ls [.int r])) (hrec6 : ∀ (l1 : Int32) (l2 : Int32) (l3 : Nat) (l4 : Int32) (l5 : Int32) (l6 : Int32) (l7 : Int32) (x : St) (H : Heap) (locs : List Loc) (ls : Array Slot), (l3 < 115 ∧ kcM l3 = 20) → rec6 l1 l2 l3 l4 l5 l6 l7 x → Wd dC dI cI cB cJ cZ ad stM kcM 115 A x H → va_S A s.heap H locs → lv_has ls 11 [(0, .ref (ad 0)), (1, .int l1), (2, .int l2), (3, .ref (ad l3)), (4, .int l4), (5, .int l5), (6, .int l6), (7, .int l7)] → W p l e R s m args below meth c H locs cells slots Q (F0 m 6 ls [])) : ∀ (l1 : Int32) (l2 : Int32) (l3 : Nat) (l4 : Int32) (l5 : Int32) (l6 : Int32) (l7 : Int32) (l8 : Int32) (x : St) (H : Heap) (locs : List Loc) (ls : Array Slot), (l3 < 115 ∧ kcM l3 = 20) → j_Mod_find_52 post rec6 l1 l2 l3 l4 l5 l6 l7 l8 x → Wd dC dI cI cB cJ cZ ad stM kcM 115 A x H → va_S A s.heap H locs → lv_has ls 11 [(0, .ref (ad 0)), (1, .int l1), (2, .int l2), (3, .ref (ad l3)), (4, .int l4), (5, .int l5), (6, .int l6), (7, .int l7), (8, .int l8)] → W p l e R s m args below meth c H locs cells slots Q (F0 m 52 ls []) := by
  intro l1 l2 l3 l4 l5 l6 l7 l8 x H locs ls fl3 hw hW hS hl
  unfold j_Mod_find_52 at hw
  refine lv_iconst (v := 0) hx hb d_Mod_find_52 (by decide) ?_
  exact t_Mod_find_53 hx hb hml hown hT hK hN hA hRc hRs hRf hRl hret hrec6 l1 l2 l3 l4 l5 l6 l7 l8 0 x H locs ls fl3 hw hW hS (lv_sub hl [0, 1, 2, 3, 4, 5, 6, 7, 8] rfl)
set_option maxRecDepth 100000 in
set_option maxHeartbeats 4000000 in
set_option maxRecDepth 100000 in
theorem t_Mod_find_6 {p : Program} {l : Launch} {e : Env} {R : Room} {s : State} {m : MethodId} {args : Array Value} {below : List Frame} {meth : Method} {c : Code} {cells slots : Nat} {Q : State → Prop} {dC : Nat → ClassId} {dI : Nat → Nat → Nat} {cI cB cJ cZ : ClassId} {A : Nat → Prop} {ad : Nat → Nat} {post : Int32 → St → Prop} {rec6 : Int32 → Int32 → Nat → Int32 → Int32 → Int32 → Int32 → St → Prop} (hx : p.tables.exec = Jvm.exec) (hb : c.code = b_Mod_find) (hml : c.maxLocals = 11) (hown : s.vm.findClass R_Mod = some m.cls) (hT : ∀ w ∈ TG, w.before args s = true) (hK : va_K (dC, dI) CL (TY cI cB cJ cZ) s) (hN : NW s) (hA : ∀ q : Nat, s.heap.size ≤ q → A q) (hRc : cells ≤ R.cells) (hRs : slots ≤ R.slots) (hRf : 1 ≤ R.frames) (hRl : 21 ≤ R.locals) (hret : ∀ (r : Int32) (x : St) (H : Heap) (locs : List Loc) (pc : Nat) (ls : Array Slot), decode b_Mod_find pc = .ok (.ireturn, 1) → post r x → Wd dC dI cI cB cJ cZ ad stM kcM 115 A x H → va_S A s.heap H locs → W p l e R s m args below meth c H locs cells slots Q (F0 m pc ls [.int r])) (hrec6 : ∀ (l1 : Int32) (l2 : Int32) (l3 : Nat) (l4 : Int32) (l5 : Int32) (l6 : Int32) (l7 : Int32) (x : St) (H : Heap) (locs : List Loc) (ls : Array Slot), (l3 < 115 ∧ kcM l3 = 20) → rec6 l1 l2 l3 l4 l5 l6 l7 x → Wd dC dI cI cB cJ cZ ad stM kcM 115 A x H → va_S A s.heap H locs → lv_has ls 11 [(0, .ref (ad 0)), (1, .int l1), (2, .int l2), (3, .ref (ad l3)), (4, .int l4), (5, .int l5), (6, .int l6), (7, .int l7)] → W p l e R s m args below meth c H locs cells slots Q (F0 m 6 ls [])) : ∀ (l1 : Int32) (l2 : Int32) (l3 : Nat) (l4 : Int32) (l5 : Int32) (l6 : Int32) (l7 : Int32) (x : St) (H : Heap) (locs : List Loc) (ls : Array Slot), (l3 < 115 ∧ kcM l3 = 20) → j_Mod_find_6 post rec6 l1 l2 l3 l4 l5 l6 l7 x → Wd dC dI cI cB cJ cZ ad stM kcM 115 A x H → va_S A s.heap H locs → lv_has ls 11 [(0, .ref (ad 0)), (1, .int l1), (2, .int l2), (3, .ref (ad l3)), (4, .int l4), (5, .int l5), (6, .int l6), (7, .int l7)] → W p l e R s m args below meth c H locs cells slots Q (F0 m 6 ls []) := by
  intro l1 l2 l3 l4 l5 l6 l7 x H locs ls fl3 hw hW hS hl
  unfold j_Mod_find_6 at hw
  refine lv_iload hx hb d_Mod_find_6 (lv_at hl 7 rfl) ?_
  refine lv_aload_n hx hb d_Mod_find_8 rfl (lv_at hl 0 rfl) ?_
  refine w_getf (q := 9) (k := 11) (t := 12) (C := R_Mod) (T := F_Mod) (N := 167) hx hb hT hown hK hW ko_0.1 ko_0.2 (by decide) in_Mod rfl rfl (by decide) rfl fr_Mod_11 w_8_187 d_Mod_find_9 rfl ?_
  refine lv_iload_n hx hb d_Mod_find_12 rfl (lv_at hl 1 rfl) ?_
  obtain ⟨hi, hw⟩ := hw
  refine w_iald (o := 9) hx hb hK hW ko_9.1 ko_9.2 hi d_Mod_find_13 ?_
  refine lv_icmp_ge (tgt := 126) hx hb d_Mod_find_14 (by decide) (fun c76 => ?_) (fun c76 => ?_)
  · have hw := hw.1 c76
    refine lv_iload hx hb d_Mod_find_126 (lv_at hl 6 rfl) ?_
    exact hret l6 x H locs 128 ls d_Mod_find_128 hw hW hS
  · have hw := hw.2 c76
    refine lv_iload_n hx hb d_Mod_find_17 rfl (lv_at hl 1 rfl) ?_
    refine lv_iload hx hb d_Mod_find_18 (lv_at hl 7 rfl) ?_
    have hF := hW.free hS hA
    refine va_calli (va_runS (As := [.int l1, .int l7]) (rest := []) ⟨hx, hb, hml, hown, hT⟩ (k_Mod_place l dC dI cI cB cJ cZ ad H.size l1 l7 x  hw) ⟨callB_of 2 hT (gwt_in w_11_30) rfl rfl rfl (hT _ w_1_15) (hT _ w_11_28) (by decide +kernel) ⟨Nat.le_trans (Nat.le_of_ble_eq_true rfl) hRf, Nat.le_trans (Nat.le_of_ble_eq_true rfl) hRl⟩, hT _ w_11_29⟩ ⟨PW.blind, PW.at _ hW hK hN⟩ rfl rfl hl.1 rfl (lv_room (Nat.le_of_ble_eq_true rfl)) d_Mod_find_20 ⟨hRc, hRs⟩) hS (fun q _ h => hF q h) hF (fun r78 x77 t H locs ht hvm hw hB hz1 hk1 hS => ?_)
    have hW := Wd.back hB ht hF
    clear hB ht hF hz1 hk1 hvm
    refine lv_istore (lv' := [(8, .int r78), (0, .ref (ad 0)), (1, .int l1), (2, .int l2), (3, .ref (ad l3)), (4, .int l4), (5, .int l5), (6, .int l6), (7, .int l7)]) hx hb d_Mod_find_23 hl (by decide) rfl (fun ls hl => ?_)
    refine lv_aload_n hx hb d_Mod_find_25 rfl (lv_at hl 1 rfl) ?_
    refine w_getf (q := 5) (k := 7) (t := 12) (C := R_Mod) (T := F_Mod) (N := 167) hx hb hT hown hK hW ko_0.1 ko_0.2 (by decide) in_Mod rfl rfl (by decide) rfl fr_Mod_7 w_8_183 d_Mod_find_26 rfl ?_
    refine lv_iload hx hb d_Mod_find_29 (lv_at hl 0 rfl) ?_
    obtain ⟨hi, hw⟩ := hw
    refine w_iald (o := 5) hx hb hK hW ko_5.1 ko_5.2 hi d_Mod_find_31 ?_
    refine lv_iload_n hx hb d_Mod_find_32 rfl (lv_at hl 3 rfl) ?_
    refine lv_icmp_ne (tgt := 52) hx hb d_Mod_find_33 (by decide) (fun c79 => ?_) (fun c79 => ?_)
    · have hw := hw.1 c79
      exact t_Mod_find_52 hx hb hml hown hT hK hN hA hRc hRs hRf hRl hret hrec6 l1 l2 l3 l4 l5 l6 l7 r78 x77 H locs ls fl3 hw hW hS (lv_sub hl [1, 2, 3, 4, 5, 6, 7, 8, 0] rfl)
    · have hw := hw.2 c79
      refine lv_aload_n hx hb d_Mod_find_36 rfl (lv_at hl 1 rfl) ?_
      refine w_getf (q := 7) (k := 9) (t := 12) (C := R_Mod) (T := F_Mod) (N := 167) hx hb hT hown hK hW ko_0.1 ko_0.2 (by decide) in_Mod rfl rfl (by decide) rfl fr_Mod_9 w_8_185 d_Mod_find_37 rfl ?_
      refine lv_iload hx hb d_Mod_find_40 (lv_at hl 0 rfl) ?_
      obtain ⟨hi, hw⟩ := hw
      refine w_iald (o := 7) hx hb hK hW ko_7.1 ko_7.2 hi d_Mod_find_42 ?_
      refine lv_iload hx hb d_Mod_find_43 (lv_at hl 6 rfl) ?_
      refine lv_icmp_ne (tgt := 52) hx hb d_Mod_find_45 (by decide) (fun c80 => ?_) (fun c80 => ?_)
      · have hw := hw.1 c80
        exact t_Mod_find_52 hx hb hml hown hT hK hN hA hRc hRs hRf hRl hret hrec6 l1 l2 l3 l4 l5 l6 l7 r78 x77 H locs ls fl3 hw hW hS (lv_sub hl [1, 2, 3, 4, 5, 6, 7, 8, 0] rfl)
      · have hw := hw.2 c80
        refine lv_iconst (v := 1) hx hb d_Mod_find_48 (by decide) ?_
        refine lv_goto (tgt := 53) hx hb d_Mod_find_49 (by decide) ?_
        exact t_Mod_find_53 hx hb hml hown hT hK hN hA hRc hRs hRf hRl hret hrec6 l1 l2 l3 l4 l5 l6 l7 r78 1 x77 H locs ls fl3 hw hW hS (lv_sub hl [1, 2, 3, 4, 5, 6, 7, 8, 0] rfl)
set_option maxHeartbeats 4000000 in
set_option maxRecDepth 100000 in
theorem tl_Mod_find_6 {p : Program} {l : Launch} {e : Env} {R : Room} {s : State} {m : MethodId} {args : Array Value} {below : List Frame} {meth : Method} {c : Code} {cells slots : Nat} {Q : State → Prop} {dC : Nat → ClassId} {dI : Nat → Nat → Nat} {cI cB cJ cZ : ClassId} {A : Nat → Prop} {ad : Nat → Nat} {post : Int32 → St → Prop} (hx : p.tables.exec = Jvm.exec) (hb : c.code = b_Mod_find) (hml : c.maxLocals = 11) (hown : s.vm.findClass R_Mod = some m.cls) (hT : ∀ w ∈ TG, w.before args s = true) (hK : va_K (dC, dI) CL (TY cI cB cJ cZ) s) (hN : NW s) (hA : ∀ q : Nat, s.heap.size ≤ q → A q) (hRc : cells ≤ R.cells) (hRs : slots ≤ R.slots) (hRf : 1 ≤ R.frames) (hRl : 21 ≤ R.locals) (hret : ∀ (r : Int32) (x : St) (H : Heap) (locs : List Loc) (pc : Nat) (ls : Array Slot), decode b_Mod_find pc = .ok (.ireturn, 1) → post r x → Wd dC dI cI cB cJ cZ ad stM kcM 115 A x H → va_S A s.heap H locs → W p l e R s m args below meth c H locs cells slots Q (F0 m pc ls [.int r]))  : ∀ n : Nat, ∀ (l1 : Int32) (l2 : Int32) (l3 : Nat) (l4 : Int32) (l5 : Int32) (l6 : Int32) (l7 : Int32) (x : St) (H : Heap) (locs : List Loc) (ls : Array Slot), (l3 < 115 ∧ kcM l3 = 20) → wl_Mod_find_6 post n l1 l2 l3 l4 l5 l6 l7 x → Wd dC dI cI cB cJ cZ ad stM kcM 115 A x H → va_S A s.heap H locs → lv_has ls 11 [(0, .ref (ad 0)), (1, .int l1), (2, .int l2), (3, .ref (ad l3)), (4, .int l4), (5, .int l5), (6, .int l6), (7, .int l7)] → W p l e R s m args below meth c H locs cells slots Q (F0 m 6 ls []) := by
  intro n
  induction n with
  | zero => intro l1 l2 l3 l4 l5 l6 l7 x H locs ls fl3 hw; exact hw.elim
  | succ n ih => intro l1 l2 l3 l4 l5 l6 l7 x H locs ls fl3 hw hW hS hl; exact t_Mod_find_6 hx hb hml hown hT hK hN hA hRc hRs hRf hRl hret  ih l1 l2 l3 l4 l5 l6 l7 x H locs ls fl3 hw hW hS hl
set_option maxRecDepth 100000 in
set_option maxHeartbeats 4000000 in
set_option maxRecDepth 100000 in
theorem t_Mod_find_e {p : Program} {l : Launch} {e : Env} {R : Room} {s : State} {m : MethodId} {args : Array Value} {below : List Frame} {meth : Method} {c : Code} {cells slots : Nat} {Q : State → Prop} {dC : Nat → ClassId} {dI : Nat → Nat → Nat} {cI cB cJ cZ : ClassId} {A : Nat → Prop} {ad : Nat → Nat} {post : Int32 → St → Prop} (hx : p.tables.exec = Jvm.exec) (hb : c.code = b_Mod_find) (hml : c.maxLocals = 11) (hown : s.vm.findClass R_Mod = some m.cls) (hT : ∀ w ∈ TG, w.before args s = true) (hK : va_K (dC, dI) CL (TY cI cB cJ cZ) s) (hN : NW s) (hA : ∀ q : Nat, s.heap.size ≤ q → A q) (hRc : cells ≤ R.cells) (hRs : slots ≤ R.slots) (hRf : 1 ≤ R.frames) (hRl : 21 ≤ R.locals) (hret : ∀ (r : Int32) (x : St) (H : Heap) (locs : List Loc) (pc : Nat) (ls : Array Slot), decode b_Mod_find pc = .ok (.ireturn, 1) → post r x → Wd dC dI cI cB cJ cZ ad stM kcM 115 A x H → va_S A s.heap H locs → W p l e R s m args below meth c H locs cells slots Q (F0 m pc ls [.int r])) : ∀ (l1 : Int32) (l2 : Int32) (l3 : Nat) (l4 : Int32) (l5 : Int32) (x : St) (H : Heap) (locs : List Loc) (ls : Array Slot), (l3 < 115 ∧ kcM l3 = 20) → wp_Mod_find post l1 l2 l3 l4 l5 x → Wd dC dI cI cB cJ cZ ad stM kcM 115 A x H → va_S A s.heap H locs → lv_has ls 11 [(0, .ref (ad 0)), (1, .int l1), (2, .int l2), (3, .ref (ad l3)), (4, .int l4), (5, .int l5)] → W p l e R s m args below meth c H locs cells slots Q (F0 m 0 ls []) := by
  intro l1 l2 l3 l4 l5 x H locs ls fl3 hw hW hS hl
  unfold wp_Mod_find at hw
  refine lv_iconst (v := (-1)) hx hb d_Mod_find_0 (by decide) ?_
  refine lv_istore (lv' := [(6, .int (-1)), (0, .ref (ad 0)), (1, .int l1), (2, .int l2), (3, .ref (ad l3)), (4, .int l4), (5, .int l5)]) hx hb d_Mod_find_1 hl (by decide) rfl (fun ls hl => ?_)
  refine lv_iconst (v := 0) hx hb d_Mod_find_3 (by decide) ?_
  refine lv_istore (lv' := [(7, .int 0), (6, .int (-1)), (0, .ref (ad 0)), (1, .int l1), (2, .int l2), (3, .ref (ad l3)), (4, .int l4), (5, .int l5)]) hx hb d_Mod_find_4 hl (by decide) rfl (fun ls hl => ?_)
  obtain ⟨n, hw⟩ := hw
  exact tl_Mod_find_6 hx hb hml hown hT hK hN hA hRc hRs hRf hRl hret  n l1 l2 l3 l4 l5 (-1) 0 x H locs ls fl3 hw hW hS (lv_sub hl [2, 3, 4, 5, 6, 7, 1, 0] rfl)
set_option maxHeartbeats 4000000 in
set_option maxRecDepth 100000 in
theorem k_Mod_find (l : Launch) (dC : Nat → ClassId) (dI : Nat → Nat → Nat) (cI cB cJ cZ : ClassId) (ad : Nat → Nat) (sz : Nat) (l1 : Int32) (l2 : Int32) (l3 : Nat) (l4 : Int32) (l5 : Int32) (x : St) (fl3 : l3 < 115 ∧ kcM l3 = 20) {post : Int32 → St → Prop} (hw : wp_Mod_find post l1 l2 l3 l4 l5 x) : Met l y_Mod_find (wsOf y_Mod_find b_Mod_find 11 (some (.int))) ({ frames := 1, cells := 0, slots := 0, locals := 21 }) (va_Pc [.ref (ad 0), .int l1, .int l2, .ref (ad l3), .int l4, .int l5] (PW dC dI cI cB cJ cZ ad stM kcM 115 sz x)) (va_Qi (fun (r : Int32) (y : St) => post r y) (fun y t => Wd dC dI cI cB cJ cZ ad stM kcM 115 (va_A (pic ad stM kcM 115 cI cB cJ cZ x) sz) y t.heap) (va_A (pic ad stM kcM 115 cI cB cJ cZ x) sz)) 0 0 (va_A (pic ad stM kcM 115 cI cB cJ cZ x) sz) := by
  refine Met.ofW (cc := b_Mod_find) (maxL := 11) (ret := some (.int)) (by decide) rfl ?_
  intro p e s m args below meth c s₁ B hml hv
  obtain ⟨rfl, hsz, hW0, hK, hN⟩ := hv
  have hx := B.exec
  have hb := B.bytes
  have hr := B.returns
  have hts := atoms_spec B.pre
  have hT : ∀ w ∈ TG, w.before _ s = true := fun w h => hts w (List.mem_cons_of_mem _ h)
  have hown : s.vm.findClass R_Mod = some m.cls := findClass_of_methodNamed B.named
  have hlocks := B.notSynchronized
  subst hsz
  have hW : Wd dC dI cI cB cJ cZ ad stM kcM 115 (va_A (pic ad stM kcM 115 cI cB cJ cZ x) s.heap.size) x s.heap := ⟨hW0.1, hW0.2.1.self (sz := s.heap.size), hW0.2.2⟩
  generalize hAe : va_A (pic ad stM kcM 115 cI cB cJ cZ x) s.heap.size = A at hW ⊢
  have hA : ∀ q : Nat, s.heap.size ≤ q → A q := fun q h => by rw [← hAe]; exact Or.inr h
  have hS : va_S A s.heap s.heap [] := va_S.rf
  have hl := lv_entry ([.ref (ad 0), .int l1, .int l2, .ref (ad l3), .int l4, .int l5]) (n := 11) (Nat.le_of_ble_eq_true rfl)
  rw [lg_entry_eq]
  generalize (lg_sl ([.ref (ad 0), .int l1, .int l2, .ref (ad l3), .int l4, .int l5]) ++ List.replicate (11 - (lg_sl ([.ref (ad 0), .int l1, .int l2, .ref (ad l3), .int l4, .int l5])).length) Slot.unset).toArray = ls at hl ⊢
  have hl : lv_has ls 11 [(0, .ref (ad 0)), (1, .int l1), (2, .int l2), (3, .ref (ad l3)), (4, .int l4), (5, .int l5)] := hl
  exact t_Mod_find_e hx hb hml hown hT hK hN hA (Nat.le_refl 0) (Nat.le_refl 0) (Nat.le_refl 1) (Nat.le_refl 21) (fun r x H locs pc ls hd hp hW hS => W.iret (v := r) hx hb hr (fun t ht hM => ⟨⟨r, x, rfl, hp, Wd.back hW ht.symm (fun _ z => z)⟩, hS.F ht⟩) hS.2.2 hd hlocks)  l1 l2 l3 l4 l5 x _ _ ls fl3 hw hW hS hl
set_option maxRecDepth 100000 in
set_option maxHeartbeats 4000000 in
set_option maxRecDepth 100000 in
theorem t_Mod_addField_140 {p : Program} {l : Launch} {e : Env} {R : Room} {s : State} {m : MethodId} {args : Array Value} {below : List Frame} {meth : Method} {c : Code} {cells slots : Nat} {Q : State → Prop} {dC : Nat → ClassId} {dI : Nat → Nat → Nat} {cI cB cJ cZ : ClassId} {A : Nat → Prop} {ad : Nat → Nat} {post : St → Prop} (hx : p.tables.exec = Jvm.exec) (hb : c.code = b_Mod_addField) (hml : c.maxLocals = 9) (hown : s.vm.findClass R_Mod = some m.cls) (hT : ∀ w ∈ TG, w.before args s = true) (hK : va_K (dC, dI) CL (TY cI cB cJ cZ) s) (hN : NW s) (hA : ∀ q : Nat, s.heap.size ≤ q → A q) (hRc : cells ≤ R.cells) (hRs : slots ≤ R.slots) (hRf : 1 ≤ R.frames) (hRl : 21 ≤ R.locals) (hret : ∀ (x : St) (H : Heap) (locs : List Loc) (pc : Nat) (ls : Array Slot), decode b_Mod_addField pc = .ok (.return_, 1) → post x → Wd dC dI cI cB cJ cZ ad stM kcM 115 A x H → va_S A s.heap H locs → W p l e R s m args below meth c H locs cells slots Q (F0 m pc ls []))  : ∀ (l1 : Int32) (l2 : Int32) (l3 : Int32) (l4 : Nat) (l5 : Int32) (l6 : Int32) (l7 : Int32) (l8 : Int32) (x : St) (H : Heap) (locs : List Loc) (ls : Array Slot), (l4 < 115 ∧ kcM l4 = 20) → j_Mod_addField_140 post l1 l2 l3 l4 l5 l6 l7 l8 x → Wd dC dI cI cB cJ cZ ad stM kcM 115 A x H → va_S A s.heap H locs → lv_has ls 9 [(0, .ref (ad 0)), (1, .int l1), (2, .int l2), (3, .int l3), (4, .ref (ad l4)), (5, .int l5), (6, .int l6), (7, .int l7), (8, .int l8)] → W p l e R s m args below meth c H locs cells slots Q (F0 m 140 ls []) := by
  intro l1 l2 l3 l4 l5 l6 l7 l8 x H locs ls fl4 hw hW hS hl
  unfold j_Mod_addField_140 at hw
  refine lv_aload_n hx hb d_Mod_addField_140 rfl (lv_at hl 0 rfl) ?_
  refine w_getf (q := 9) (k := 11) (t := 12) (C := R_Mod) (T := F_Mod) (N := 167) hx hb hT hown hK hW ko_0.1 ko_0.2 (by decide) in_Mod rfl rfl (by decide) rfl fr_Mod_11 w_8_187 d_Mod_addField_141 rfl ?_
  refine lv_iconst (v := 2) hx hb d_Mod_addField_144 (by decide) ?_
  refine lv_dup2_11 hx hb d_Mod_addField_145 rfl rfl ?_
  obtain ⟨hi, hw⟩ := hw
  refine w_iald (o := 9) hx hb hK hW ko_9.1 ko_9.2 hi d_Mod_addField_146 ?_
  refine lv_iconst (v := 1) hx hb d_Mod_addField_147 (by decide) ?_
  refine lv_iadd hx hb d_Mod_addField_148 ?_
  obtain ⟨hi, hw⟩ := hw
  refine w_iast (o := 9) hx hb hK hW hS ko_9.1 ko_9.2 hi d_Mod_addField_149 (fun H locs hW hS => ?_)
  obtain ⟨x81, ex81⟩ : ∃ y : St, y = setA x 9 2 ((rA x 9 2) + 1) := ⟨_, rfl⟩
  rw [← ex81] at hW
  have hw := hw x81 ex81
  exact hret x81 H locs 150 ls d_Mod_addField_150 hw hW hS
set_option maxRecDepth 100000 in
set_option maxHeartbeats 4000000 in
set_option maxRecDepth 100000 in
theorem t_Mod_addField_103 {p : Program} {l : Launch} {e : Env} {R : Room} {s : State} {m : MethodId} {args : Array Value} {below : List Frame} {meth : Method} {c : Code} {cells slots : Nat} {Q : State → Prop} {dC : Nat → ClassId} {dI : Nat → Nat → Nat} {cI cB cJ cZ : ClassId} {A : Nat → Prop} {ad : Nat → Nat} {post : St → Prop} (hx : p.tables.exec = Jvm.exec) (hb : c.code = b_Mod_addField) (hml : c.maxLocals = 9) (hown : s.vm.findClass R_Mod = some m.cls) (hT : ∀ w ∈ TG, w.before args s = true) (hK : va_K (dC, dI) CL (TY cI cB cJ cZ) s) (hN : NW s) (hA : ∀ q : Nat, s.heap.size ≤ q → A q) (hRc : cells ≤ R.cells) (hRs : slots ≤ R.slots) (hRf : 1 ≤ R.frames) (hRl : 21 ≤ R.locals) (hret : ∀ (x : St) (H : Heap) (locs : List Loc) (pc : Nat) (ls : Array Slot), decode b_Mod_addField pc = .ok (.return_, 1) → post x → Wd dC dI cI cB cJ cZ ad stM kcM 115 A x H → va_S A s.heap H locs → W p l e R s m args below meth c H locs cells slots Q (F0 m pc ls []))  : ∀ (l1 : Int32) (l2 : Int32) (l3 : Int32) (l4 : Nat) (l5 : Int32) (l6 : Int32) (l7 : Int32) (l8 : Int32) (s0 : Int32) (s1 : Int32) (s2 : Nat) (x : St) (H : Heap) (locs : List Loc) (ls : Array Slot), (l4 < 115 ∧ kcM l4 = 20) → (s2 < 115 ∧ kcM s2 = 20) → j_Mod_addField_103 post l1 l2 l3 l4 l5 l6 l7 l8 s0 s1 s2 x → Wd dC dI cI cB cJ cZ ad stM kcM 115 A x H → va_S A s.heap H locs → lv_has ls 9 [(0, .ref (ad 0)), (1, .int l1), (2, .int l2), (3, .int l3), (4, .ref (ad l4)), (5, .int l5), (6, .int l6), (7, .int l7), (8, .int l8)] → W p l e R s m args below meth c H locs cells slots Q (F0 m 103 ls [.int s0, .int s1, .ref (ad s2)]) := by
  intro l1 l2 l3 l4 l5 l6 l7 l8 s0 s1 s2 x H locs ls fl4 fs2 hw hW hS hl
  unfold j_Mod_addField_103 at hw
  obtain ⟨hi, hw⟩ := hw
  refine w_iast (o := s2) hx hb hK hW hS fs2.1 fs2.2 hi d_Mod_addField_103 (fun H locs hW hS => ?_)
  obtain ⟨x82, ex82⟩ : ∃ y : St, y = setA x s2 s1 s0 := ⟨_, rfl⟩
  rw [← ex82] at hW
  have hw := hw x82 ex82
  refine lv_iload_n hx hb d_Mod_addField_104 rfl (lv_at hl 2 rfl) ?_
  refine lv_iconst (v := 4) hx hb d_Mod_addField_105 (by decide) ?_
  refine lv_icmp_eq (tgt := 140) hx hb d_Mod_addField_106 (by decide) (fun c83 => ?_) (fun c83 => ?_)
  · have hw := hw.1 c83
    exact t_Mod_addField_140 hx hb hml hown hT hK hN hA hRc hRs hRf hRl hret  l1 l2 l3 l4 l5 l6 l7 l8 x82 H locs ls fl4 hw hW hS (lv_sub hl [0, 1, 2, 3, 4, 5, 6, 7, 8] rfl)
  · have hw := hw.2 c83
    refine lv_aload_n hx hb d_Mod_addField_109 rfl (lv_at hl 0 rfl) ?_
    refine w_getf (q := 11) (k := 13) (t := 12) (C := R_Mod) (T := F_Mod) (N := 167) hx hb hT hown hK hW ko_0.1 ko_0.2 (by decide) in_Mod rfl rfl (by decide) rfl fr_Mod_13 w_8_189 d_Mod_addField_110 rfl ?_
    refine lv_sipush (v := 128) hx hb d_Mod_addField_113 (by decide) ?_
    refine lv_aload_n hx hb d_Mod_addField_116 rfl (lv_at hl 0 rfl) ?_
    refine w_getf (q := 10) (k := 12) (t := 12) (C := R_Mod) (T := F_Mod) (N := 167) hx hb hT hown hK hW ko_0.1 ko_0.2 (by decide) in_Mod rfl rfl (by decide) rfl fr_Mod_12 w_8_188 d_Mod_addField_117 rfl ?_
    refine lv_iconst (v := 2) hx hb d_Mod_addField_120 (by decide) ?_
    obtain ⟨hi, hw⟩ := hw
    refine w_iald (o := 10) hx hb hK hW ko_10.1 ko_10.2 hi d_Mod_addField_121 ?_
    refine lv_iadd hx hb d_Mod_addField_122 ?_
    refine lv_aload_n hx hb d_Mod_addField_123 rfl (lv_at hl 0 rfl) ?_
    refine w_getf (q := 9) (k := 11) (t := 12) (C := R_Mod) (T := F_Mod) (N := 167) hx hb hT hown hK hW ko_0.1 ko_0.2 (by decide) in_Mod rfl rfl (by decide) rfl fr_Mod_11 w_8_187 d_Mod_addField_124 rfl ?_
    refine lv_iconst (v := 2) hx hb d_Mod_addField_127 (by decide) ?_
    obtain ⟨hi, hw⟩ := hw
    refine w_iald (o := 9) hx hb hK hW ko_9.1 ko_9.2 hi d_Mod_addField_128 ?_
    obtain ⟨hi, hw⟩ := hw
    refine w_iast (o := 11) hx hb hK hW hS ko_11.1 ko_11.2 hi d_Mod_addField_129 (fun H locs hW hS => ?_)
    obtain ⟨x84, ex84⟩ : ∃ y : St, y = setA x82 11 (128 + (rA x82 10 2)) (rA x82 9 2) := ⟨_, rfl⟩
    rw [← ex84] at hW
    have hw := hw x84 ex84
    refine lv_aload_n hx hb d_Mod_addField_130 rfl (lv_at hl 0 rfl) ?_
    refine w_getf (q := 10) (k := 12) (t := 12) (C := R_Mod) (T := F_Mod) (N := 167) hx hb hT hown hK hW ko_0.1 ko_0.2 (by decide) in_Mod rfl rfl (by decide) rfl fr_Mod_12 w_8_188 d_Mod_addField_131 rfl ?_
    refine lv_iconst (v := 2) hx hb d_Mod_addField_134 (by decide) ?_
    refine lv_dup2_11 hx hb d_Mod_addField_135 rfl rfl ?_
    obtain ⟨hi, hw⟩ := hw
    refine w_iald (o := 10) hx hb hK hW ko_10.1 ko_10.2 hi d_Mod_addField_136 ?_
    refine lv_iconst (v := 1) hx hb d_Mod_addField_137 (by decide) ?_
    refine lv_iadd hx hb d_Mod_addField_138 ?_
    obtain ⟨hi, hw⟩ := hw
    refine w_iast (o := 10) hx hb hK hW hS ko_10.1 ko_10.2 hi d_Mod_addField_139 (fun H locs hW hS => ?_)
    obtain ⟨x85, ex85⟩ : ∃ y : St, y = setA x84 10 2 ((rA x84 10 2) + 1) := ⟨_, rfl⟩
    rw [← ex85] at hW
    have hw := hw x85 ex85
    exact t_Mod_addField_140 hx hb hml hown hT hK hN hA hRc hRs hRf hRl hret  l1 l2 l3 l4 l5 l6 l7 l8 x85 H locs ls fl4 hw hW hS (lv_sub hl [0, 1, 2, 3, 4, 5, 6, 7, 8] rfl)
set_option maxRecDepth 100000 in
set_option maxHeartbeats 4000000 in
set_option maxRecDepth 100000 in
theorem t_Mod_addField_48 {p : Program} {l : Launch} {e : Env} {R : Room} {s : State} {m : MethodId} {args : Array Value} {below : List Frame} {meth : Method} {c : Code} {cells slots : Nat} {Q : State → Prop} {dC : Nat → ClassId} {dI : Nat → Nat → Nat} {cI cB cJ cZ : ClassId} {A : Nat → Prop} {ad : Nat → Nat} {post : St → Prop} {rec48 : Int32 → Int32 → Int32 → Nat → Int32 → Int32 → Int32 → Int32 → St → Prop} (hx : p.tables.exec = Jvm.exec) (hb : c.code = b_Mod_addField) (hml : c.maxLocals = 9) (hown : s.vm.findClass R_Mod = some m.cls) (hT : ∀ w ∈ TG, w.before args s = true) (hK : va_K (dC, dI) CL (TY cI cB cJ cZ) s) (hN : NW s) (hA : ∀ q : Nat, s.heap.size ≤ q → A q) (hRc : cells ≤ R.cells) (hRs : slots ≤ R.slots) (hRf : 1 ≤ R.frames) (hRl : 21 ≤ R.locals) (hret : ∀ (x : St) (H : Heap) (locs : List Loc) (pc : Nat) (ls : Array Slot), decode b_Mod_addField pc = .ok (.return_, 1) → post x → Wd dC dI cI cB cJ cZ ad stM kcM 115 A x H → va_S A s.heap H locs → W p l e R s m args below meth c H locs cells slots Q (F0 m pc ls [])) (hrec48 : ∀ (l1 : Int32) (l2 : Int32) (l3 : Int32) (l4 : Nat) (l5 : Int32) (l6 : Int32) (l7 : Int32) (l8 : Int32) (x : St) (H : Heap) (locs : List Loc) (ls : Array Slot), (l4 < 115 ∧ kcM l4 = 20) → rec48 l1 l2 l3 l4 l5 l6 l7 l8 x → Wd dC dI cI cB cJ cZ ad stM kcM 115 A x H → va_S A s.heap H locs → lv_has ls 9 [(0, .ref (ad 0)), (1, .int l1), (2, .int l2), (3, .int l3), (4, .ref (ad l4)), (5, .int l5), (6, .int l6), (7, .int l7), (8, .int l8)] → W p l e R s m args below meth c H locs cells slots Q (F0 m 48 ls [])) : ∀ (l1 : Int32) (l2 : Int32) (l3 : Int32) (l4 : Nat) (l5 : Int32) (l6 : Int32) (l7 : Int32) (l8 : Int32) (x : St) (H : Heap) (locs : List Loc) (ls : Array Slot), (l4 < 115 ∧ kcM l4 = 20) → j_Mod_addField_48 post rec48 l1 l2 l3 l4 l5 l6 l7 l8 x → Wd dC dI cI cB cJ cZ ad stM kcM 115 A x H → va_S A s.heap H locs → lv_has ls 9 [(0, .ref (ad 0)), (1, .int l1), (2, .int l2), (3, .int l3), (4, .ref (ad l4)), (5, .int l5), (6, .int l6), (7, .int l7), (8, .int l8)] → W p l e R s m args below meth c H locs cells slots Q (F0 m 48 ls []) := by
  intro l1 l2 l3 l4 l5 l6 l7 l8 x H locs ls fl4 hw hW hS hl
  unfold j_Mod_addField_48 at hw
  refine lv_iload hx hb d_Mod_addField_48 (lv_at hl 8 rfl) ?_
  refine lv_iload hx hb d_Mod_addField_50 (lv_at hl 6 rfl) ?_
  refine lv_icmp_ge (tgt := 82) hx hb d_Mod_addField_52 (by decide) (fun c86 => ?_) (fun c86 => ?_)
  · have hw := hw.1 c86
    refine lv_aload_n hx hb d_Mod_addField_82 rfl (lv_at hl 0 rfl) ?_
    refine w_getf (q := 6) (k := 8) (t := 12) (C := R_Mod) (T := F_Mod) (N := 167) hx hb hT hown hK hW ko_0.1 ko_0.2 (by decide) in_Mod rfl rfl (by decide) rfl fr_Mod_8 w_8_184 d_Mod_addField_83 rfl ?_
    refine lv_iload hx hb d_Mod_addField_86 (lv_at hl 7 rfl) ?_
    refine lv_iload_n hx hb d_Mod_addField_88 rfl (lv_at hl 2 rfl) ?_
    refine lv_iconst (v := 4) hx hb d_Mod_addField_89 (by decide) ?_
    refine lv_icmp_ne (tgt := 97) hx hb d_Mod_addField_90 (by decide) (fun c87 => ?_) (fun c87 => ?_)
    · have hw := hw.1 c87
      refine lv_aload_n hx hb d_Mod_addField_97 rfl (lv_at hl 0 rfl) ?_
      refine w_getf (q := 10) (k := 12) (t := 12) (C := R_Mod) (T := F_Mod) (N := 167) hx hb hT hown hK hW ko_0.1 ko_0.2 (by decide) in_Mod rfl rfl (by decide) rfl fr_Mod_12 w_8_188 d_Mod_addField_98 rfl ?_
      refine lv_iconst (v := 2) hx hb d_Mod_addField_101 (by decide) ?_
      obtain ⟨hi, hw⟩ := hw
      refine w_iald (o := 10) hx hb hK hW ko_10.1 ko_10.2 hi d_Mod_addField_102 ?_
      exact t_Mod_addField_103 hx hb hml hown hT hK hN hA hRc hRs hRf hRl hret  l1 l2 l3 l4 l5 l6 l7 l8 (rA x 10 2) l7 6 x H locs ls fl4 ko_6 hw hW hS (lv_sub hl [0, 1, 2, 3, 4, 5, 6, 7, 8] rfl)
    · have hw := hw.2 c87
      refine lv_iconst (v := (-1)) hx hb d_Mod_addField_93 (by decide) ?_
      refine lv_goto (tgt := 103) hx hb d_Mod_addField_94 (by decide) ?_
      exact t_Mod_addField_103 hx hb hml hown hT hK hN hA hRc hRs hRf hRl hret  l1 l2 l3 l4 l5 l6 l7 l8 (-1) l7 6 x H locs ls fl4 ko_6 hw hW hS (lv_sub hl [0, 1, 2, 3, 4, 5, 6, 7, 8] rfl)
  · have hw := hw.2 c86
    refine lv_aload_n hx hb d_Mod_addField_55 rfl (lv_at hl 0 rfl) ?_
    refine w_getf (q := 8) (k := 10) (t := 12) (C := R_Mod) (T := F_Mod) (N := 167) hx hb hT hown hK hW ko_0.1 ko_0.2 (by decide) in_Mod rfl rfl (by decide) rfl fr_Mod_10 w_8_186 d_Mod_addField_56 rfl ?_
    refine lv_bipush (v := 16) hx hb d_Mod_addField_59 (by decide) ?_
    refine lv_iload hx hb d_Mod_addField_61 (lv_at hl 7 rfl) ?_
    refine lv_imul hx hb d_Mod_addField_63 ?_
    refine lv_iload hx hb d_Mod_addField_64 (lv_at hl 8 rfl) ?_
    refine lv_iadd hx hb d_Mod_addField_66 ?_
    refine lv_aload hx hb d_Mod_addField_67 (lv_at hl 4 rfl) ?_
    refine lv_iload hx hb d_Mod_addField_69 (lv_at hl 5 rfl) ?_
    refine lv_iload hx hb d_Mod_addField_71 (lv_at hl 8 rfl) ?_
    refine lv_iadd hx hb d_Mod_addField_73 ?_
    obtain ⟨hi, hw⟩ := hw
    refine w_iald (o := l4) hx hb hK hW fl4.1 fl4.2 hi d_Mod_addField_74 ?_
    obtain ⟨hi, hw⟩ := hw
    refine w_iast (o := 8) hx hb hK hW hS ko_8.1 ko_8.2 hi d_Mod_addField_75 (fun H locs hW hS => ?_)
    obtain ⟨x88, ex88⟩ : ∃ y : St, y = setA x 8 ((16 * l7) + l8) (rA x l4 (l5 + l8)) := ⟨_, rfl⟩
    rw [← ex88] at hW
    have hw := hw x88 ex88
    refine lv_iinc (v := (l8 + 1)) (lv' := [(8, .int (l8 + 1)), (0, .ref (ad 0)), (1, .int l1), (2, .int l2), (3, .int l3), (4, .ref (ad l4)), (5, .int l5), (6, .int l6), (7, .int l7)]) hx hb d_Mod_addField_76 hl (k := 8) rfl rfl (by decide) rfl (fun ls hl => ?_)
    refine lv_goto (tgt := 48) hx hb d_Mod_addField_79 (by decide) ?_
    exact hrec48 l1 l2 l3 l4 l5 l6 l7 (l8 + 1) x88 H locs ls fl4 hw hW hS (lv_sub hl [1, 2, 3, 4, 5, 6, 7, 8, 0] rfl)
set_option maxHeartbeats 4000000 in
set_option maxRecDepth 100000 in
theorem tl_Mod_addField_48 {p : Program} {l : Launch} {e : Env} {R : Room} {s : State} {m : MethodId} {args : Array Value} {below : List Frame} {meth : Method} {c : Code} {cells slots : Nat} {Q : State → Prop} {dC : Nat → ClassId} {dI : Nat → Nat → Nat} {cI cB cJ cZ : ClassId} {A : Nat → Prop} {ad : Nat → Nat} {post : St → Prop} (hx : p.tables.exec = Jvm.exec) (hb : c.code = b_Mod_addField) (hml : c.maxLocals = 9) (hown : s.vm.findClass R_Mod = some m.cls) (hT : ∀ w ∈ TG, w.before args s = true) (hK : va_K (dC, dI) CL (TY cI cB cJ cZ) s) (hN : NW s) (hA : ∀ q : Nat, s.heap.size ≤ q → A q) (hRc : cells ≤ R.cells) (hRs : slots ≤ R.slots) (hRf : 1 ≤ R.frames) (hRl : 21 ≤ R.locals) (hret : ∀ (x : St) (H : Heap) (locs : List Loc) (pc : Nat) (ls : Array Slot), decode b_Mod_addField pc = .ok (.return_, 1) → post x → Wd dC dI cI cB cJ cZ ad stM kcM 115 A x H → va_S A s.heap H locs → W p l e R s m args below meth c H locs cells slots Q (F0 m pc ls []))  : ∀ n : Nat, ∀ (l1 : Int32) (l2 : Int32) (l3 : Int32) (l4 : Nat) (l5 : Int32) (l6 : Int32) (l7 : Int32) (l8 : Int32) (x : St) (H : Heap) (locs : List Loc) (ls : Array Slot), (l4 < 115 ∧ kcM l4 = 20) → wl_Mod_addField_48 post n l1 l2 l3 l4 l5 l6 l7 l8 x → Wd dC dI cI cB cJ cZ ad stM kcM 115 A x H → va_S A s.heap H locs → lv_has ls 9 [(0, .ref (ad 0)), (1, .int l1), (2, .int l2), (3, .int l3), (4, .ref (ad l4)), (5, .int l5), (6, .int l6), (7, .int l7), (8, .int l8)] → W p l e R s m args below meth c H locs cells slots Q (F0 m 48 ls []) := by
  intro n
  induction n with
  | zero => intro l1 l2 l3 l4 l5 l6 l7 l8 x H locs ls fl4 hw; exact hw.elim
  | succ n ih => intro l1 l2 l3 l4 l5 l6 l7 l8 x H locs ls fl4 hw hW hS hl; exact t_Mod_addField_48 hx hb hml hown hT hK hN hA hRc hRs hRf hRl hret  ih l1 l2 l3 l4 l5 l6 l7 l8 x H locs ls fl4 hw hW hS hl
set_option maxRecDepth 100000 in
set_option maxHeartbeats 4000000 in
set_option maxRecDepth 100000 in
theorem t_Mod_addField_e {p : Program} {l : Launch} {e : Env} {R : Room} {s : State} {m : MethodId} {args : Array Value} {below : List Frame} {meth : Method} {c : Code} {cells slots : Nat} {Q : State → Prop} {dC : Nat → ClassId} {dI : Nat → Nat → Nat} {cI cB cJ cZ : ClassId} {A : Nat → Prop} {ad : Nat → Nat} {post : St → Prop} (hx : p.tables.exec = Jvm.exec) (hb : c.code = b_Mod_addField) (hml : c.maxLocals = 9) (hown : s.vm.findClass R_Mod = some m.cls) (hT : ∀ w ∈ TG, w.before args s = true) (hK : va_K (dC, dI) CL (TY cI cB cJ cZ) s) (hN : NW s) (hA : ∀ q : Nat, s.heap.size ≤ q → A q) (hRc : cells ≤ R.cells) (hRs : slots ≤ R.slots) (hRf : 1 ≤ R.frames) (hRl : 21 ≤ R.locals) (hret : ∀ (x : St) (H : Heap) (locs : List Loc) (pc : Nat) (ls : Array Slot), decode b_Mod_addField pc = .ok (.return_, 1) → post x → Wd dC dI cI cB cJ cZ ad stM kcM 115 A x H → va_S A s.heap H locs → W p l e R s m args below meth c H locs cells slots Q (F0 m pc ls [])) : ∀ (l1 : Int32) (l2 : Int32) (l3 : Int32) (l4 : Nat) (l5 : Int32) (l6 : Int32) (x : St) (H : Heap) (locs : List Loc) (ls : Array Slot), (l4 < 115 ∧ kcM l4 = 20) → wp_Mod_addField post l1 l2 l3 l4 l5 l6 x → Wd dC dI cI cB cJ cZ ad stM kcM 115 A x H → va_S A s.heap H locs → lv_has ls 9 [(0, .ref (ad 0)), (1, .int l1), (2, .int l2), (3, .int l3), (4, .ref (ad l4)), (5, .int l5), (6, .int l6)] → W p l e R s m args below meth c H locs cells slots Q (F0 m 0 ls []) := by
  intro l1 l2 l3 l4 l5 l6 x H locs ls fl4 hw hW hS hl
  unfold wp_Mod_addField at hw
  refine lv_iconst (v := 2) hx hb d_Mod_addField_0 (by decide) ?_
  refine lv_aload_n hx hb d_Mod_addField_1 rfl (lv_at hl 0 rfl) ?_
  refine w_getf (q := 9) (k := 11) (t := 12) (C := R_Mod) (T := F_Mod) (N := 167) hx hb hT hown hK hW ko_0.1 ko_0.2 (by decide) in_Mod rfl rfl (by decide) rfl fr_Mod_11 w_8_187 d_Mod_addField_2 rfl ?_
  refine lv_iconst (v := 2) hx hb d_Mod_addField_5 (by decide) ?_
  obtain ⟨hi, hw⟩ := hw
  refine w_iald (o := 9) hx hb hK hW ko_9.1 ko_9.2 hi d_Mod_addField_6 ?_
  have hF := hW.free hS hA
  refine va_calli (va_runS (As := [.int 2, .int (rA x 9 2)]) (rest := []) ⟨hx, hb, hml, hown, hT⟩ (k_Mod_place l dC dI cI cB cJ cZ ad H.size 2 (rA x 9 2) x  hw) ⟨callB_of 2 hT (gwt_in w_11_30) rfl rfl rfl (hT _ w_1_15) (hT _ w_11_28) (by decide +kernel) ⟨Nat.le_trans (Nat.le_of_ble_eq_true rfl) hRf, Nat.le_trans (Nat.le_of_ble_eq_true rfl) hRl⟩, hT _ w_11_29⟩ ⟨PW.blind, PW.at _ hW hK hN⟩ rfl rfl hl.1 rfl (lv_room (Nat.le_of_ble_eq_true rfl)) d_Mod_addField_7 ⟨hRc, hRs⟩) hS (fun q _ h => hF q h) hF (fun r90 x89 t H locs ht hvm hw hB hz1 hk1 hS => ?_)
  have hW := Wd.back hB ht hF
  clear hB ht hF hz1 hk1 hvm
  refine lv_istore (lv' := [(7, .int r90), (0, .ref (ad 0)), (1, .int l1), (2, .int l2), (3, .int l3), (4, .ref (ad l4)), (5, .int l5), (6, .int l6)]) hx hb d_Mod_addField_10 hl (by decide) rfl (fun ls hl => ?_)
  refine lv_aload_n hx hb d_Mod_addField_12 rfl (lv_at hl 1 rfl) ?_
  refine w_getf (q := 3) (k := 5) (t := 12) (C := R_Mod) (T := F_Mod) (N := 167) hx hb hT hown hK hW ko_0.1 ko_0.2 (by decide) in_Mod rfl rfl (by decide) rfl fr_Mod_5 w_8_181 d_Mod_addField_13 rfl ?_
  refine lv_iload hx hb d_Mod_addField_16 (lv_at hl 0 rfl) ?_
  refine lv_iload_n hx hb d_Mod_addField_18 rfl (lv_at hl 2 rfl) ?_
  obtain ⟨hi, hw⟩ := hw
  refine w_iast (o := 3) hx hb hK hW hS ko_3.1 ko_3.2 hi d_Mod_addField_19 (fun H locs hW hS => ?_)
  obtain ⟨x91, ex91⟩ : ∃ y : St, y = setA x89 3 r90 l1 := ⟨_, rfl⟩
  rw [← ex91] at hW
  have hw := hw x91 ex91
  refine lv_aload_n hx hb d_Mod_addField_20 rfl (lv_at hl 1 rfl) ?_
  refine w_getf (q := 4) (k := 6) (t := 12) (C := R_Mod) (T := F_Mod) (N := 167) hx hb hT hown hK hW ko_0.1 ko_0.2 (by decide) in_Mod rfl rfl (by decide) rfl fr_Mod_6 w_8_182 d_Mod_addField_21 rfl ?_
  refine lv_iload hx hb d_Mod_addField_24 (lv_at hl 0 rfl) ?_
  refine lv_iload_n hx hb d_Mod_addField_26 rfl (lv_at hl 3 rfl) ?_
  obtain ⟨hi, hw⟩ := hw
  refine w_iast (o := 4) hx hb hK hW hS ko_4.1 ko_4.2 hi d_Mod_addField_27 (fun H locs hW hS => ?_)
  obtain ⟨x92, ex92⟩ : ∃ y : St, y = setA x91 4 r90 l2 := ⟨_, rfl⟩
  rw [← ex92] at hW
  have hw := hw x92 ex92
  refine lv_aload_n hx hb d_Mod_addField_28 rfl (lv_at hl 1 rfl) ?_
  refine w_getf (q := 5) (k := 7) (t := 12) (C := R_Mod) (T := F_Mod) (N := 167) hx hb hT hown hK hW ko_0.1 ko_0.2 (by decide) in_Mod rfl rfl (by decide) rfl fr_Mod_7 w_8_183 d_Mod_addField_29 rfl ?_
  refine lv_iload hx hb d_Mod_addField_32 (lv_at hl 0 rfl) ?_
  refine lv_iload_n hx hb d_Mod_addField_34 rfl (lv_at hl 4 rfl) ?_
  obtain ⟨hi, hw⟩ := hw
  refine w_iast (o := 5) hx hb hK hW hS ko_5.1 ko_5.2 hi d_Mod_addField_35 (fun H locs hW hS => ?_)
  obtain ⟨x93, ex93⟩ : ∃ y : St, y = setA x92 5 r90 l3 := ⟨_, rfl⟩
  rw [← ex93] at hW
  have hw := hw x93 ex93
  refine lv_aload_n hx hb d_Mod_addField_36 rfl (lv_at hl 1 rfl) ?_
  refine w_getf (q := 7) (k := 9) (t := 12) (C := R_Mod) (T := F_Mod) (N := 167) hx hb hT hown hK hW ko_0.1 ko_0.2 (by decide) in_Mod rfl rfl (by decide) rfl fr_Mod_9 w_8_185 d_Mod_addField_37 rfl ?_
  refine lv_iload hx hb d_Mod_addField_40 (lv_at hl 0 rfl) ?_
  refine lv_iload hx hb d_Mod_addField_42 (lv_at hl 7 rfl) ?_
  obtain ⟨hi, hw⟩ := hw
  refine w_iast (o := 7) hx hb hK hW hS ko_7.1 ko_7.2 hi d_Mod_addField_44 (fun H locs hW hS => ?_)
  obtain ⟨x94, ex94⟩ : ∃ y : St, y = setA x93 7 r90 l6 := ⟨_, rfl⟩
  rw [← ex94] at hW
  have hw := hw x94 ex94
  refine lv_iconst (v := 0) hx hb d_Mod_addField_45 (by decide) ?_
  refine lv_istore (lv' := [(8, .int 0), (7, .int r90), (0, .ref (ad 0)), (1, .int l1), (2, .int l2), (3, .int l3), (4, .ref (ad l4)), (5, .int l5), (6, .int l6)]) hx hb d_Mod_addField_46 hl (by decide) rfl (fun ls hl => ?_)
  obtain ⟨n, hw⟩ := hw
  exact tl_Mod_addField_48 hx hb hml hown hT hK hN hA hRc hRs hRf hRl hret  n l1 l2 l3 l4 l5 l6 r90 0 x94 H locs ls fl4 hw hW hS (lv_sub hl [2, 3, 4, 5, 6, 7, 8, 1, 0] rfl)
set_option maxHeartbeats 4000000 in
set_option maxRecDepth 100000 in
theorem k_Mod_addField (l : Launch) (dC : Nat → ClassId) (dI : Nat → Nat → Nat) (cI cB cJ cZ : ClassId) (ad : Nat → Nat) (sz : Nat) (l1 : Int32) (l2 : Int32) (l3 : Int32) (l4 : Nat) (l5 : Int32) (l6 : Int32) (x : St) (fl4 : l4 < 115 ∧ kcM l4 = 20) {post : St → Prop} (hw : wp_Mod_addField post l1 l2 l3 l4 l5 l6 x) : Met l y_Mod_addField (wsOf y_Mod_addField b_Mod_addField 9 (none)) ({ frames := 1, cells := 0, slots := 0, locals := 21 }) (va_Pc [.ref (ad 0), .int l1, .int l2, .int l3, .ref (ad l4), .int l5, .int l6] (PW dC dI cI cB cJ cZ ad stM kcM 115 sz x)) (va_Qv (fun (y : St) => post y) (fun y t => Wd dC dI cI cB cJ cZ ad stM kcM 115 (va_A (pic ad stM kcM 115 cI cB cJ cZ x) sz) y t.heap) (va_A (pic ad stM kcM 115 cI cB cJ cZ x) sz)) 0 0 (va_A (pic ad stM kcM 115 cI cB cJ cZ x) sz) := by
  refine Met.ofW (cc := b_Mod_addField) (maxL := 9) (ret := none) (by decide) rfl ?_
  intro p e s m args below meth c s₁ B hml hv
  obtain ⟨rfl, hsz, hW0, hK, hN⟩ := hv
  have hx := B.exec
  have hb := B.bytes
  have hr := B.returns
  have hts := atoms_spec B.pre
  have hT : ∀ w ∈ TG, w.before _ s = true := fun w h => hts w (List.mem_cons_of_mem _ h)
  have hown : s.vm.findClass R_Mod = some m.cls := findClass_of_methodNamed B.named
  have hlocks := B.notSynchronized
  subst hsz
  have hW : Wd dC dI cI cB cJ cZ ad stM kcM 115 (va_A (pic ad stM kcM 115 cI cB cJ cZ x) s.heap.size) x s.heap := ⟨hW0.1, hW0.2.1.self (sz := s.heap.size), hW0.2.2⟩
  generalize hAe : va_A (pic ad stM kcM 115 cI cB cJ cZ x) s.heap.size = A at hW ⊢
  have hA : ∀ q : Nat, s.heap.size ≤ q → A q := fun q h => by rw [← hAe]; exact Or.inr h
  have hS : va_S A s.heap s.heap [] := va_S.rf
  have hl := lv_entry ([.ref (ad 0), .int l1, .int l2, .int l3, .ref (ad l4), .int l5, .int l6]) (n := 9) (Nat.le_of_ble_eq_true rfl)
  rw [lg_entry_eq]
  generalize (lg_sl ([.ref (ad 0), .int l1, .int l2, .int l3, .ref (ad l4), .int l5, .int l6]) ++ List.replicate (9 - (lg_sl ([.ref (ad 0), .int l1, .int l2, .int l3, .ref (ad l4), .int l5, .int l6])).length) Slot.unset).toArray = ls at hl ⊢
  have hl : lv_has ls 9 [(0, .ref (ad 0)), (1, .int l1), (2, .int l2), (3, .int l3), (4, .ref (ad l4)), (5, .int l5), (6, .int l6)] := hl
  exact t_Mod_addField_e hx hb hml hown hT hK hN hA (Nat.le_refl 0) (Nat.le_refl 0) (Nat.le_refl 1) (Nat.le_refl 21) (fun x H locs pc ls hd hp hW hS => W.vret hx hb hr (fun t ht hM => ⟨⟨x, rfl, hp, Wd.back hW ht.symm (fun _ z => z)⟩, hS.F ht⟩) hS.2.2 hd hlocks)  l1 l2 l3 l4 l5 l6 x _ _ ls fl4 hw hW hS hl
end
