theorem w_1_21 : (Jvm.Cond.initialized "java/lang/Long") ∈ TG := tw_1 21 (by decide +kernel) (by decide +kernel)
theorem w_2_7 : (Jvm.Cond.fieldLink "StripedVault$Writer" (171 : Nat) "StripedVault$Records" "texts" "[B") ∈ TG := tw_2 7 (by decide +kernel) (by decide +kernel)
theorem w_5_146 : (Jvm.Cond.methodLink "StripedVault" (139 : Nat) ({ cls := "java/lang/Math", name := "min", desc := "(II)I" } : Jvm.MethodName)) ∈ TG := tw_5 146 (by decide +kernel) (by decide +kernel)
theorem w_5_220 : (Jvm.Cond.static ({ cls := "StripedVault", name := "hashOf", desc := "(I[BJ)I" } : Jvm.MethodName)) ∈ TG := tw_5 220 (by decide +kernel) (by decide +kernel)
theorem w_5_221 : (Jvm.Cond.code ({ cls := "StripedVault", name := "hashOf", desc := "(I[BJ)I" } : Jvm.MethodName) prog_1_method_41_code (8 : Nat) (Option.some Jvm.ClassFile.FieldType.int)) ∈ TG := tw_5 221 (by decide +kernel) (by decide +kernel)
theorem w_5_222 : (Jvm.Cond.constant "StripedVault" (258 : Nat) (-1640531535 : Int32)) ∈ TG := tw_5 222 (by decide +kernel) (by decide +kernel)
theorem w_5_224 : (Jvm.Cond.static ({ cls := "StripedVault", name := "compareValues", desc := "(I[BJ[BJ)I" } : Jvm.MethodName)) ∈ TG := tw_5 224 (by decide +kernel) (by decide +kernel)
theorem w_5_225 : (Jvm.Cond.code ({ cls := "StripedVault", name := "compareValues", desc := "(I[BJ[BJ)I" } : Jvm.MethodName) prog_1_method_40_code (13 : Nat) (Option.some Jvm.ClassFile.FieldType.int)) ∈ TG := tw_5 225 (by decide +kernel) (by decide +kernel)
theorem w_5_226 : (Jvm.Cond.methodLink "StripedVault" (252 : Nat) ({ cls := "java/lang/Long", name := "compare", desc := "(JJ)I" } : Jvm.MethodName)) ∈ TG := tw_5 226 (by decide +kernel) (by decide +kernel)
theorem w_5_227 : (Jvm.Cond.static ({ cls := "java/lang/Long", name := "compare", desc := "(JJ)I" } : Jvm.MethodName)) ∈ TG := tw_5 227 (by decide +kernel) (by decide +kernel)
theorem w_5_228 : (Jvm.Cond.code ({ cls := "java/lang/Long", name := "compare", desc := "(JJ)I" } : Jvm.MethodName) prog_16_method_42_code (4 : Nat) (Option.some Jvm.ClassFile.FieldType.int)) ∈ TG := tw_5 228 (by decide +kernel) (by decide +kernel)
theorem w_5_239 : (Jvm.Cond.methodLink "StripedVault" (249 : Nat) ({ cls := "java/lang/Math", name := "min", desc := "(JJ)J" } : Jvm.MethodName)) ∈ TG := tw_5 239 (by decide +kernel) (by decide +kernel)
theorem w_6_0 : (Jvm.Cond.static ({ cls := "java/lang/Math", name := "min", desc := "(JJ)J" } : Jvm.MethodName)) ∈ TG := tw_6 0 (by decide +kernel) (by decide +kernel)
theorem w_6_1 : (Jvm.Cond.code ({ cls := "java/lang/Math", name := "min", desc := "(JJ)J" } : Jvm.MethodName) prog_17_method_70_code (4 : Nat) (Option.some Jvm.ClassFile.FieldType.long)) ∈ TG := tw_6 1 (by decide +kernel) (by decide +kernel)
theorem wn_5_219 : (Jvm.Cond.methodLinkNest "StripedVault$Writer" (256 : Nat) ({ cls := "StripedVault", name := "hashOf", desc := "(I[BJ)I" } : Jvm.MethodName) "StripedVault") ∈ lw_tbl := tb_5 _ (List.mem_of_getElem? (i := 219) (by decide +kernel))
theorem wn_5_223 : (Jvm.Cond.methodLinkNest "StripedVault$Writer" (178 : Nat) ({ cls := "StripedVault", name := "compareValues", desc := "(I[BJ[BJ)I" } : Jvm.MethodName) "StripedVault") ∈ lw_tbl := tb_5 _ (List.mem_of_getElem? (i := 223) (by decide +kernel))
theorem d_V_placeOf_0 : decode b_V_placeOf 0 = .ok (.lload_n 0, 1) := by decide +kernel
theorem d_V_placeOf_1 : decode b_V_placeOf 1 = .ok (.bipush 8, 2) := by decide +kernel
theorem d_V_placeOf_3 : decode b_V_placeOf 3 = .ok (.lshr, 1) := by decide +kernel
theorem d_V_placeOf_4 : decode b_V_placeOf 4 = .ok (.l2i, 1) := by decide +kernel
theorem d_V_placeOf_5 : decode b_V_placeOf 5 = .ok (.ireturn, 1) := by decide +kernel
theorem d_Snk_sameFrom_35 : decode b_Snk_sameFrom 35 = .ok (.iload 4, 2) := by decide +kernel
theorem d_Snk_sameFrom_37 : decode b_Snk_sameFrom 37 = .ok (.ireturn, 1) := by decide +kernel
theorem d_Snk_sameFrom_3 : decode b_Snk_sameFrom 3 = .ok (.iload 4, 2) := by decide +kernel
theorem d_Snk_sameFrom_5 : decode b_Snk_sameFrom 5 = .ok (.iload_n 3, 1) := by decide +kernel
theorem d_Snk_sameFrom_6 : decode b_Snk_sameFrom 6 = .ok (.if_icmp .ge 29, 3) := by decide +kernel
theorem d_Snk_sameFrom_9 : decode b_Snk_sameFrom 9 = .ok (.iload_n 2, 1) := by decide +kernel
theorem d_Snk_sameFrom_10 : decode b_Snk_sameFrom 10 = .ok (.iload 4, 2) := by decide +kernel
theorem d_Snk_sameFrom_12 : decode b_Snk_sameFrom 12 = .ok (.iadd, 1) := by decide +kernel
theorem d_Snk_sameFrom_13 : decode b_Snk_sameFrom 13 = .ok (.iload_n 1, 1) := by decide +kernel
theorem d_Snk_sameFrom_14 : decode b_Snk_sameFrom 14 = .ok (.if_icmp .ge 21, 3) := by decide +kernel
theorem d_Snk_sameFrom_17 : decode b_Snk_sameFrom 17 = .ok (.aload_n 0, 1) := by decide +kernel
theorem d_Snk_sameFrom_18 : decode b_Snk_sameFrom 18 = .ok (.iload_n 2, 1) := by decide +kernel
theorem d_Snk_sameFrom_19 : decode b_Snk_sameFrom 19 = .ok (.iload 4, 2) := by decide +kernel
theorem d_Snk_sameFrom_21 : decode b_Snk_sameFrom 21 = .ok (.iadd, 1) := by decide +kernel
theorem d_Snk_sameFrom_22 : decode b_Snk_sameFrom 22 = .ok (.iaload, 1) := by decide +kernel
theorem d_Snk_sameFrom_23 : decode b_Snk_sameFrom 23 = .ok (.aload_n 0, 1) := by decide +kernel
theorem d_Snk_sameFrom_24 : decode b_Snk_sameFrom 24 = .ok (.iload_n 2, 1) := by decide +kernel
theorem d_Snk_sameFrom_25 : decode b_Snk_sameFrom 25 = .ok (.iaload, 1) := by decide +kernel
theorem d_Snk_sameFrom_26 : decode b_Snk_sameFrom 26 = .ok (.if_icmp .ne 9, 3) := by decide +kernel
theorem d_Snk_sameFrom_29 : decode b_Snk_sameFrom 29 = .ok (.iinc 4 1, 3) := by decide +kernel
theorem d_Snk_sameFrom_32 : decode b_Snk_sameFrom 32 = .ok (.goto (-29), 3) := by decide +kernel
theorem d_Snk_sameFrom_0 : decode b_Snk_sameFrom 0 = .ok (.iconst 1, 1) := by decide +kernel
theorem d_Snk_sameFrom_1 : decode b_Snk_sameFrom 1 = .ok (.istore 4, 2) := by decide +kernel
theorem d_V_hashOf_68 : decode b_V_hashOf 68 = .ok (.iload 4, 2) := by decide +kernel
theorem d_V_hashOf_70 : decode b_V_hashOf 70 = .ok (.ldc_w 258, 3) := by decide +kernel
theorem d_V_hashOf_73 : decode b_V_hashOf 73 = .ok (.imul, 1) := by decide +kernel
theorem d_V_hashOf_74 : decode b_V_hashOf 74 = .ok (.istore 4, 2) := by decide +kernel
theorem d_V_hashOf_76 : decode b_V_hashOf 76 = .ok (.iload 4, 2) := by decide +kernel
theorem d_V_hashOf_78 : decode b_V_hashOf 78 = .ok (.iload 4, 2) := by decide +kernel
theorem d_V_hashOf_80 : decode b_V_hashOf 80 = .ok (.bipush 15, 2) := by decide +kernel
theorem d_V_hashOf_82 : decode b_V_hashOf 82 = .ok (.iushr, 1) := by decide +kernel
theorem d_V_hashOf_83 : decode b_V_hashOf 83 = .ok (.ixor, 1) := by decide +kernel
theorem d_V_hashOf_84 : decode b_V_hashOf 84 = .ok (.ireturn, 1) := by decide +kernel
theorem d_V_hashOf_31 : decode b_V_hashOf 31 = .ok (.iload 7, 2) := by decide +kernel
theorem d_V_hashOf_33 : decode b_V_hashOf 33 = .ok (.iload 6, 2) := by decide +kernel
theorem d_V_hashOf_35 : decode b_V_hashOf 35 = .ok (.if_icmp .ge 21, 3) := by decide +kernel
theorem d_V_hashOf_56 : decode b_V_hashOf 56 = .ok (.goto 12, 3) := by decide +kernel
theorem d_V_hashOf_38 : decode b_V_hashOf 38 = .ok (.iload 4, 2) := by decide +kernel
theorem d_V_hashOf_40 : decode b_V_hashOf 40 = .ok (.bipush 31, 2) := by decide +kernel
theorem d_V_hashOf_42 : decode b_V_hashOf 42 = .ok (.imul, 1) := by decide +kernel
theorem d_V_hashOf_43 : decode b_V_hashOf 43 = .ok (.aload_n 1, 1) := by decide +kernel
theorem d_V_hashOf_44 : decode b_V_hashOf 44 = .ok (.iload 7, 2) := by decide +kernel
theorem d_V_hashOf_46 : decode b_V_hashOf 46 = .ok (.baload, 1) := by decide +kernel
theorem d_V_hashOf_47 : decode b_V_hashOf 47 = .ok (.iadd, 1) := by decide +kernel
theorem d_V_hashOf_48 : decode b_V_hashOf 48 = .ok (.istore 4, 2) := by decide +kernel
theorem d_V_hashOf_50 : decode b_V_hashOf 50 = .ok (.iinc 7 1, 3) := by decide +kernel
theorem d_V_hashOf_53 : decode b_V_hashOf 53 = .ok (.goto (-22), 3) := by decide +kernel
theorem d_V_hashOf_0 : decode b_V_hashOf 0 = .ok (.bipush 7, 2) := by decide +kernel
theorem d_V_hashOf_2 : decode b_V_hashOf 2 = .ok (.istore 4, 2) := by decide +kernel
theorem d_V_hashOf_4 : decode b_V_hashOf 4 = .ok (.iload_n 0, 1) := by decide +kernel
theorem d_V_hashOf_5 : decode b_V_hashOf 5 = .ok (.iconst 3, 1) := by decide +kernel
theorem d_V_hashOf_6 : decode b_V_hashOf 6 = .ok (.if_icmp .ne 53, 3) := by decide +kernel
theorem d_V_hashOf_59 : decode b_V_hashOf 59 = .ok (.lload_n 2, 1) := by decide +kernel
theorem d_V_hashOf_60 : decode b_V_hashOf 60 = .ok (.lload_n 2, 1) := by decide +kernel
theorem d_V_hashOf_61 : decode b_V_hashOf 61 = .ok (.bipush 32, 2) := by decide +kernel
theorem d_V_hashOf_63 : decode b_V_hashOf 63 = .ok (.lushr, 1) := by decide +kernel
theorem d_V_hashOf_64 : decode b_V_hashOf 64 = .ok (.lxor, 1) := by decide +kernel
theorem d_V_hashOf_65 : decode b_V_hashOf 65 = .ok (.l2i, 1) := by decide +kernel
theorem d_V_hashOf_66 : decode b_V_hashOf 66 = .ok (.istore 4, 2) := by decide +kernel
theorem d_V_hashOf_9 : decode b_V_hashOf 9 = .ok (.lload_n 2, 1) := by decide +kernel
theorem d_V_hashOf_10 : decode b_V_hashOf 10 = .ok (.bipush 8, 2) := by decide +kernel
theorem d_V_hashOf_12 : decode b_V_hashOf 12 = .ok (.lshr, 1) := by decide +kernel
theorem d_V_hashOf_13 : decode b_V_hashOf 13 = .ok (.l2i, 1) := by decide +kernel
theorem d_V_hashOf_14 : decode b_V_hashOf 14 = .ok (.istore 5, 2) := by decide +kernel
theorem d_V_hashOf_16 : decode b_V_hashOf 16 = .ok (.iload 5, 2) := by decide +kernel
theorem d_V_hashOf_18 : decode b_V_hashOf 18 = .ok (.lload_n 2, 1) := by decide +kernel
theorem d_V_hashOf_19 : decode b_V_hashOf 19 = .ok (.ldc2_w 244, 3) := by decide +kernel
theorem d_V_hashOf_22 : decode b_V_hashOf 22 = .ok (.land, 1) := by decide +kernel
theorem d_V_hashOf_23 : decode b_V_hashOf 23 = .ok (.l2i, 1) := by decide +kernel
theorem d_V_hashOf_24 : decode b_V_hashOf 24 = .ok (.iadd, 1) := by decide +kernel
theorem d_V_hashOf_25 : decode b_V_hashOf 25 = .ok (.istore 6, 2) := by decide +kernel
theorem d_V_hashOf_27 : decode b_V_hashOf 27 = .ok (.iload 5, 2) := by decide +kernel
theorem d_V_hashOf_29 : decode b_V_hashOf 29 = .ok (.istore 7, 2) := by decide +kernel
theorem d_JLong_compare_0 : decode b_JLong_compare 0 = .ok (.lload_n 0, 1) := by decide +kernel
theorem d_JLong_compare_1 : decode b_JLong_compare 1 = .ok (.lload_n 2, 1) := by decide +kernel
theorem d_JLong_compare_2 : decode b_JLong_compare 2 = .ok (.lcmp, 1) := by decide +kernel
theorem d_JLong_compare_3 : decode b_JLong_compare 3 = .ok (.ifCond .ge 7, 3) := by decide +kernel
theorem d_JLong_compare_10 : decode b_JLong_compare 10 = .ok (.lload_n 0, 1) := by decide +kernel
theorem d_JLong_compare_11 : decode b_JLong_compare 11 = .ok (.lload_n 2, 1) := by decide +kernel
theorem d_JLong_compare_12 : decode b_JLong_compare 12 = .ok (.lcmp, 1) := by decide +kernel
theorem d_JLong_compare_13 : decode b_JLong_compare 13 = .ok (.ifCond .ne 7, 3) := by decide +kernel
theorem d_JLong_compare_20 : decode b_JLong_compare 20 = .ok (.iconst 1, 1) := by decide +kernel
theorem d_JLong_compare_21 : decode b_JLong_compare 21 = .ok (.ireturn, 1) := by decide +kernel
theorem d_JLong_compare_16 : decode b_JLong_compare 16 = .ok (.iconst 0, 1) := by decide +kernel
theorem d_JLong_compare_17 : decode b_JLong_compare 17 = .ok (.goto 4, 3) := by decide +kernel
theorem d_JLong_compare_6 : decode b_JLong_compare 6 = .ok (.iconst (-1), 1) := by decide +kernel
theorem d_JLong_compare_7 : decode b_JLong_compare 7 = .ok (.goto 14, 3) := by decide +kernel
theorem d_V_compareValues_56 : decode b_V_compareValues 56 = .ok (.iload 12, 2) := by decide +kernel
theorem d_V_compareValues_58 : decode b_V_compareValues 58 = .ok (.iload 11, 2) := by decide +kernel
theorem d_V_compareValues_60 : decode b_V_compareValues 60 = .ok (.if_icmp .ge 52, 3) := by decide +kernel
theorem d_V_compareValues_112 : decode b_V_compareValues 112 = .ok (.iload 7, 2) := by decide +kernel
theorem d_V_compareValues_114 : decode b_V_compareValues 114 = .ok (.iload 8, 2) := by decide +kernel
theorem d_V_compareValues_116 : decode b_V_compareValues 116 = .ok (.isub, 1) := by decide +kernel
theorem d_V_compareValues_117 : decode b_V_compareValues 117 = .ok (.ireturn, 1) := by decide +kernel
theorem d_V_compareValues_63 : decode b_V_compareValues 63 = .ok (.aload_n 1, 1) := by decide +kernel
theorem d_V_compareValues_64 : decode b_V_compareValues 64 = .ok (.iload 9, 2) := by decide +kernel
theorem d_V_compareValues_66 : decode b_V_compareValues 66 = .ok (.iload 12, 2) := by decide +kernel
theorem d_V_compareValues_68 : decode b_V_compareValues 68 = .ok (.iadd, 1) := by decide +kernel
theorem d_V_compareValues_69 : decode b_V_compareValues 69 = .ok (.baload, 1) := by decide +kernel
theorem d_V_compareValues_70 : decode b_V_compareValues 70 = .ok (.aload 4, 2) := by decide +kernel
theorem d_V_compareValues_72 : decode b_V_compareValues 72 = .ok (.iload 10, 2) := by decide +kernel
theorem d_V_compareValues_74 : decode b_V_compareValues 74 = .ok (.iload 12, 2) := by decide +kernel
theorem d_V_compareValues_76 : decode b_V_compareValues 76 = .ok (.iadd, 1) := by decide +kernel
theorem d_V_compareValues_77 : decode b_V_compareValues 77 = .ok (.baload, 1) := by decide +kernel
theorem d_V_compareValues_78 : decode b_V_compareValues 78 = .ok (.if_icmp .eq 28, 3) := by decide +kernel
theorem d_V_compareValues_106 : decode b_V_compareValues 106 = .ok (.iinc 12 1, 3) := by decide +kernel
theorem d_V_compareValues_109 : decode b_V_compareValues 109 = .ok (.goto (-53), 3) := by decide +kernel
theorem d_V_compareValues_81 : decode b_V_compareValues 81 = .ok (.aload_n 1, 1) := by decide +kernel
theorem d_V_compareValues_82 : decode b_V_compareValues 82 = .ok (.iload 9, 2) := by decide +kernel
theorem d_V_compareValues_84 : decode b_V_compareValues 84 = .ok (.iload 12, 2) := by decide +kernel
theorem d_V_compareValues_86 : decode b_V_compareValues 86 = .ok (.iadd, 1) := by decide +kernel
theorem d_V_compareValues_87 : decode b_V_compareValues 87 = .ok (.baload, 1) := by decide +kernel
theorem d_V_compareValues_88 : decode b_V_compareValues 88 = .ok (.sipush 255, 3) := by decide +kernel
theorem d_V_compareValues_91 : decode b_V_compareValues 91 = .ok (.iand, 1) := by decide +kernel
theorem d_V_compareValues_92 : decode b_V_compareValues 92 = .ok (.aload 4, 2) := by decide +kernel
theorem d_V_compareValues_94 : decode b_V_compareValues 94 = .ok (.iload 10, 2) := by decide +kernel
theorem d_V_compareValues_96 : decode b_V_compareValues 96 = .ok (.iload 12, 2) := by decide +kernel
theorem d_V_compareValues_98 : decode b_V_compareValues 98 = .ok (.iadd, 1) := by decide +kernel
theorem d_V_compareValues_99 : decode b_V_compareValues 99 = .ok (.baload, 1) := by decide +kernel
theorem d_V_compareValues_100 : decode b_V_compareValues 100 = .ok (.sipush 255, 3) := by decide +kernel
theorem d_V_compareValues_103 : decode b_V_compareValues 103 = .ok (.iand, 1) := by decide +kernel
theorem d_V_compareValues_104 : decode b_V_compareValues 104 = .ok (.isub, 1) := by decide +kernel
theorem d_V_compareValues_105 : decode b_V_compareValues 105 = .ok (.ireturn, 1) := by decide +kernel
theorem d_V_compareValues_0 : decode b_V_compareValues 0 = .ok (.iload_n 0, 1) := by decide +kernel
theorem d_V_compareValues_1 : decode b_V_compareValues 1 = .ok (.iconst 3, 1) := by decide +kernel
theorem d_V_compareValues_2 : decode b_V_compareValues 2 = .ok (.if_icmp .eq 10, 3) := by decide +kernel
theorem d_V_compareValues_12 : decode b_V_compareValues 12 = .ok (.lload_n 2, 1) := by decide +kernel
theorem d_V_compareValues_13 : decode b_V_compareValues 13 = .ok (.ldc2_w 244, 3) := by decide +kernel
theorem d_V_compareValues_16 : decode b_V_compareValues 16 = .ok (.land, 1) := by decide +kernel
theorem d_V_compareValues_17 : decode b_V_compareValues 17 = .ok (.l2i, 1) := by decide +kernel
theorem d_V_compareValues_18 : decode b_V_compareValues 18 = .ok (.istore 7, 2) := by decide +kernel
theorem d_V_compareValues_20 : decode b_V_compareValues 20 = .ok (.lload 5, 2) := by decide +kernel
theorem d_V_compareValues_22 : decode b_V_compareValues 22 = .ok (.ldc2_w 244, 3) := by decide +kernel
theorem d_V_compareValues_25 : decode b_V_compareValues 25 = .ok (.land, 1) := by decide +kernel
theorem d_V_compareValues_26 : decode b_V_compareValues 26 = .ok (.l2i, 1) := by decide +kernel
theorem d_V_compareValues_27 : decode b_V_compareValues 27 = .ok (.istore 8, 2) := by decide +kernel
theorem d_V_compareValues_29 : decode b_V_compareValues 29 = .ok (.lload_n 2, 1) := by decide +kernel
theorem d_V_compareValues_30 : decode b_V_compareValues 30 = .ok (.bipush 8, 2) := by decide +kernel
theorem d_V_compareValues_32 : decode b_V_compareValues 32 = .ok (.lshr, 1) := by decide +kernel
theorem d_V_compareValues_33 : decode b_V_compareValues 33 = .ok (.l2i, 1) := by decide +kernel
theorem d_V_compareValues_34 : decode b_V_compareValues 34 = .ok (.istore 9, 2) := by decide +kernel
theorem d_V_compareValues_36 : decode b_V_compareValues 36 = .ok (.lload 5, 2) := by decide +kernel
theorem d_V_compareValues_38 : decode b_V_compareValues 38 = .ok (.bipush 8, 2) := by decide +kernel
theorem d_V_compareValues_40 : decode b_V_compareValues 40 = .ok (.lshr, 1) := by decide +kernel
theorem d_V_compareValues_41 : decode b_V_compareValues 41 = .ok (.l2i, 1) := by decide +kernel
theorem d_V_compareValues_42 : decode b_V_compareValues 42 = .ok (.istore 10, 2) := by decide +kernel
theorem d_V_compareValues_44 : decode b_V_compareValues 44 = .ok (.iload 7, 2) := by decide +kernel
theorem d_V_compareValues_46 : decode b_V_compareValues 46 = .ok (.iload 8, 2) := by decide +kernel
theorem d_V_compareValues_48 : decode b_V_compareValues 48 = .ok (.invokestatic 139, 3) := by decide +kernel
theorem d_V_compareValues_51 : decode b_V_compareValues 51 = .ok (.istore 11, 2) := by decide +kernel
theorem d_V_compareValues_53 : decode b_V_compareValues 53 = .ok (.iconst 0, 1) := by decide +kernel
theorem d_V_compareValues_54 : decode b_V_compareValues 54 = .ok (.istore 12, 2) := by decide +kernel
theorem d_V_compareValues_5 : decode b_V_compareValues 5 = .ok (.lload_n 2, 1) := by decide +kernel
theorem d_V_compareValues_6 : decode b_V_compareValues 6 = .ok (.lload 5, 2) := by decide +kernel
theorem d_V_compareValues_8 : decode b_V_compareValues 8 = .ok (.invokestatic 252, 3) := by decide +kernel
theorem d_V_compareValues_11 : decode b_V_compareValues 11 = .ok (.ireturn, 1) := by decide +kernel
theorem d_Wrt_slotOf_88 : decode b_Wrt_slotOf 88 = .ok (.iload 5, 2) := by decide +kernel
theorem d_Wrt_slotOf_90 : decode b_Wrt_slotOf 90 = .ok (.ireturn, 1) := by decide +kernel
theorem d_Wrt_slotOf_25 : decode b_Wrt_slotOf 25 = .ok (.iload 6, 2) := by decide +kernel
theorem d_Wrt_slotOf_27 : decode b_Wrt_slotOf 27 = .ok (.sipush 2048, 3) := by decide +kernel
theorem d_Wrt_slotOf_30 : decode b_Wrt_slotOf 30 = .ok (.if_icmp .ge 58, 3) := by decide +kernel
theorem d_Wrt_slotOf_33 : decode b_Wrt_slotOf 33 = .ok (.aload_n 0, 1) := by decide +kernel
theorem d_Wrt_slotOf_34 : decode b_Wrt_slotOf 34 = .ok (.getfield 56, 3) := by decide +kernel
theorem d_Wrt_slotOf_37 : decode b_Wrt_slotOf 37 = .ok (.iload 5, 2) := by decide +kernel
theorem d_Wrt_slotOf_39 : decode b_Wrt_slotOf 39 = .ok (.iaload, 1) := by decide +kernel
theorem d_Wrt_slotOf_40 : decode b_Wrt_slotOf 40 = .ok (.ifCond .eq 48, 3) := by decide +kernel
theorem d_Wrt_slotOf_43 : decode b_Wrt_slotOf 43 = .ok (.iload_n 1, 1) := by decide +kernel
theorem d_Wrt_slotOf_44 : decode b_Wrt_slotOf 44 = .ok (.aload 4, 2) := by decide +kernel
theorem d_Wrt_slotOf_46 : decode b_Wrt_slotOf 46 = .ok (.aload_n 0, 1) := by decide +kernel
theorem d_Wrt_slotOf_47 : decode b_Wrt_slotOf 47 = .ok (.getfield 53, 3) := by decide +kernel
theorem d_Wrt_slotOf_50 : decode b_Wrt_slotOf 50 = .ok (.aload_n 0, 1) := by decide +kernel
theorem d_Wrt_slotOf_51 : decode b_Wrt_slotOf 51 = .ok (.getfield 56, 3) := by decide +kernel
theorem d_Wrt_slotOf_54 : decode b_Wrt_slotOf 54 = .ok (.iload 5, 2) := by decide +kernel
theorem d_Wrt_slotOf_56 : decode b_Wrt_slotOf 56 = .ok (.iaload, 1) := by decide +kernel
theorem d_Wrt_slotOf_57 : decode b_Wrt_slotOf 57 = .ok (.iconst 1, 1) := by decide +kernel
theorem d_Wrt_slotOf_58 : decode b_Wrt_slotOf 58 = .ok (.isub, 1) := by decide +kernel
theorem d_Wrt_slotOf_59 : decode b_Wrt_slotOf 59 = .ok (.laload, 1) := by decide +kernel
theorem d_Wrt_slotOf_60 : decode b_Wrt_slotOf 60 = .ok (.aload 4, 2) := by decide +kernel
theorem d_Wrt_slotOf_62 : decode b_Wrt_slotOf 62 = .ok (.lload_n 2, 1) := by decide +kernel
theorem d_Wrt_slotOf_63 : decode b_Wrt_slotOf 63 = .ok (.invokestatic 178, 3) := by decide +kernel
theorem d_Wrt_slotOf_66 : decode b_Wrt_slotOf 66 = .ok (.ifCond .ne 6, 3) := by decide +kernel
theorem d_Wrt_slotOf_72 : decode b_Wrt_slotOf 72 = .ok (.iload 5, 2) := by decide +kernel
theorem d_Wrt_slotOf_74 : decode b_Wrt_slotOf 74 = .ok (.iconst 1, 1) := by decide +kernel
theorem d_Wrt_slotOf_75 : decode b_Wrt_slotOf 75 = .ok (.iadd, 1) := by decide +kernel
theorem d_Wrt_slotOf_76 : decode b_Wrt_slotOf 76 = .ok (.sipush 2047, 3) := by decide +kernel
theorem d_Wrt_slotOf_79 : decode b_Wrt_slotOf 79 = .ok (.iand, 1) := by decide +kernel
theorem d_Wrt_slotOf_80 : decode b_Wrt_slotOf 80 = .ok (.istore 5, 2) := by decide +kernel
theorem d_Wrt_slotOf_82 : decode b_Wrt_slotOf 82 = .ok (.iinc 6 1, 3) := by decide +kernel
theorem d_Wrt_slotOf_85 : decode b_Wrt_slotOf 85 = .ok (.goto (-60), 3) := by decide +kernel
theorem d_Wrt_slotOf_69 : decode b_Wrt_slotOf 69 = .ok (.iload 5, 2) := by decide +kernel
theorem d_Wrt_slotOf_71 : decode b_Wrt_slotOf 71 = .ok (.ireturn, 1) := by decide +kernel
theorem d_Wrt_slotOf_0 : decode b_Wrt_slotOf 0 = .ok (.aload_n 0, 1) := by decide +kernel
theorem d_Wrt_slotOf_1 : decode b_Wrt_slotOf 1 = .ok (.getfield 66, 3) := by decide +kernel
theorem d_Wrt_slotOf_4 : decode b_Wrt_slotOf 4 = .ok (.getfield 171, 3) := by decide +kernel
theorem d_Wrt_slotOf_7 : decode b_Wrt_slotOf 7 = .ok (.astore 4, 2) := by decide +kernel
theorem d_Wrt_slotOf_9 : decode b_Wrt_slotOf 9 = .ok (.iload_n 1, 1) := by decide +kernel
theorem d_Wrt_slotOf_10 : decode b_Wrt_slotOf 10 = .ok (.aload 4, 2) := by decide +kernel
theorem d_Wrt_slotOf_12 : decode b_Wrt_slotOf 12 = .ok (.lload_n 2, 1) := by decide +kernel
theorem d_Wrt_slotOf_13 : decode b_Wrt_slotOf 13 = .ok (.invokestatic 256, 3) := by decide +kernel
theorem d_Wrt_slotOf_16 : decode b_Wrt_slotOf 16 = .ok (.sipush 2047, 3) := by decide +kernel
theorem d_Wrt_slotOf_19 : decode b_Wrt_slotOf 19 = .ok (.iand, 1) := by decide +kernel
theorem d_Wrt_slotOf_20 : decode b_Wrt_slotOf 20 = .ok (.istore 5, 2) := by decide +kernel
theorem d_Wrt_slotOf_22 : decode b_Wrt_slotOf 22 = .ok (.iconst 0, 1) := by decide +kernel
theorem d_Wrt_slotOf_23 : decode b_Wrt_slotOf 23 = .ok (.istore 6, 2) := by decide +kernel
theorem d_V_widthOf_22 : decode b_V_widthOf 22 = .ok (.iload_n 2, 1) := by decide +kernel
theorem d_V_widthOf_23 : decode b_V_widthOf 23 = .ok (.ireturn, 1) := by decide +kernel
theorem d_V_widthOf_2 : decode b_V_widthOf 2 = .ok (.iload_n 2, 1) := by decide +kernel
theorem d_V_widthOf_3 : decode b_V_widthOf 3 = .ok (.bipush 64, 2) := by decide +kernel
theorem d_V_widthOf_5 : decode b_V_widthOf 5 = .ok (.if_icmp .ge 17, 3) := by decide +kernel
theorem d_V_widthOf_8 : decode b_V_widthOf 8 = .ok (.lload_n 0, 1) := by decide +kernel
theorem d_V_widthOf_9 : decode b_V_widthOf 9 = .ok (.iload_n 2, 1) := by decide +kernel
theorem d_V_widthOf_10 : decode b_V_widthOf 10 = .ok (.lushr, 1) := by decide +kernel
theorem d_V_widthOf_11 : decode b_V_widthOf 11 = .ok (.lconst 0, 1) := by decide +kernel
theorem d_V_widthOf_12 : decode b_V_widthOf 12 = .ok (.lcmp, 1) := by decide +kernel
theorem d_V_widthOf_13 : decode b_V_widthOf 13 = .ok (.ifCond .eq 9, 3) := by decide +kernel
theorem d_V_widthOf_16 : decode b_V_widthOf 16 = .ok (.iinc 2 1, 3) := by decide +kernel
theorem d_V_widthOf_19 : decode b_V_widthOf 19 = .ok (.goto (-17), 3) := by decide +kernel
theorem d_V_widthOf_0 : decode b_V_widthOf 0 = .ok (.iconst 0, 1) := by decide +kernel
theorem d_V_widthOf_1 : decode b_V_widthOf 1 = .ok (.istore_n 2, 1) := by decide +kernel
theorem d_V_inCommon_63 : decode b_V_inCommon 63 = .ok (.iload 8, 2) := by decide +kernel
theorem d_V_inCommon_65 : decode b_V_inCommon 65 = .ok (.ireturn, 1) := by decide +kernel
theorem d_V_inCommon_33 : decode b_V_inCommon 33 = .ok (.iload 8, 2) := by decide +kernel
theorem d_V_inCommon_35 : decode b_V_inCommon 35 = .ok (.iload 5, 2) := by decide +kernel
theorem d_V_inCommon_37 : decode b_V_inCommon 37 = .ok (.if_icmp .ge 26, 3) := by decide +kernel
theorem d_V_inCommon_40 : decode b_V_inCommon 40 = .ok (.aload_n 0, 1) := by decide +kernel
theorem d_V_inCommon_41 : decode b_V_inCommon 41 = .ok (.iload 6, 2) := by decide +kernel
theorem d_V_inCommon_43 : decode b_V_inCommon 43 = .ok (.iload 8, 2) := by decide +kernel
theorem d_V_inCommon_45 : decode b_V_inCommon 45 = .ok (.iadd, 1) := by decide +kernel
theorem d_V_inCommon_46 : decode b_V_inCommon 46 = .ok (.baload, 1) := by decide +kernel
theorem d_V_inCommon_47 : decode b_V_inCommon 47 = .ok (.aload_n 0, 1) := by decide +kernel
theorem d_V_inCommon_48 : decode b_V_inCommon 48 = .ok (.iload 7, 2) := by decide +kernel
theorem d_V_inCommon_50 : decode b_V_inCommon 50 = .ok (.iload 8, 2) := by decide +kernel
theorem d_V_inCommon_52 : decode b_V_inCommon 52 = .ok (.iadd, 1) := by decide +kernel
theorem d_V_inCommon_53 : decode b_V_inCommon 53 = .ok (.baload, 1) := by decide +kernel
theorem d_V_inCommon_54 : decode b_V_inCommon 54 = .ok (.if_icmp .ne 9, 3) := by decide +kernel
theorem d_V_inCommon_57 : decode b_V_inCommon 57 = .ok (.iinc 8 1, 3) := by decide +kernel
theorem d_V_inCommon_60 : decode b_V_inCommon 60 = .ok (.goto (-27), 3) := by decide +kernel
theorem d_V_inCommon_0 : decode b_V_inCommon 0 = .ok (.lload_n 1, 1) := by decide +kernel
theorem d_V_inCommon_1 : decode b_V_inCommon 1 = .ok (.ldc2_w 244, 3) := by decide +kernel
theorem d_V_inCommon_4 : decode b_V_inCommon 4 = .ok (.land, 1) := by decide +kernel
theorem d_V_inCommon_5 : decode b_V_inCommon 5 = .ok (.lload_n 3, 1) := by decide +kernel
theorem d_V_inCommon_6 : decode b_V_inCommon 6 = .ok (.ldc2_w 244, 3) := by decide +kernel
theorem d_V_inCommon_9 : decode b_V_inCommon 9 = .ok (.land, 1) := by decide +kernel
theorem d_V_inCommon_10 : decode b_V_inCommon 10 = .ok (.invokestatic 249, 3) := by decide +kernel
theorem d_V_inCommon_13 : decode b_V_inCommon 13 = .ok (.l2i, 1) := by decide +kernel
theorem d_V_inCommon_14 : decode b_V_inCommon 14 = .ok (.istore 5, 2) := by decide +kernel
theorem d_V_inCommon_16 : decode b_V_inCommon 16 = .ok (.lload_n 1, 1) := by decide +kernel
theorem d_V_inCommon_17 : decode b_V_inCommon 17 = .ok (.bipush 8, 2) := by decide +kernel
theorem d_V_inCommon_19 : decode b_V_inCommon 19 = .ok (.lshr, 1) := by decide +kernel
theorem d_V_inCommon_20 : decode b_V_inCommon 20 = .ok (.l2i, 1) := by decide +kernel
theorem d_V_inCommon_21 : decode b_V_inCommon 21 = .ok (.istore 6, 2) := by decide +kernel
theorem d_V_inCommon_23 : decode b_V_inCommon 23 = .ok (.lload_n 3, 1) := by decide +kernel
theorem d_V_inCommon_24 : decode b_V_inCommon 24 = .ok (.bipush 8, 2) := by decide +kernel
theorem d_V_inCommon_26 : decode b_V_inCommon 26 = .ok (.lshr, 1) := by decide +kernel
theorem d_V_inCommon_27 : decode b_V_inCommon 27 = .ok (.l2i, 1) := by decide +kernel
theorem d_V_inCommon_28 : decode b_V_inCommon 28 = .ok (.istore 7, 2) := by decide +kernel
theorem d_V_inCommon_30 : decode b_V_inCommon 30 = .ok (.iconst 0, 1) := by decide +kernel
theorem d_V_inCommon_31 : decode b_V_inCommon 31 = .ok (.istore 8, 2) := by decide +kernel
section
variable (l : Launch) (dC : Nat → ClassId) (dI : Nat → Nat → Nat) (cI cB cJ cZ : ClassId)
set_option maxRecDepth 100000 in
set_option maxHeartbeats 4000000 in
set_option maxRecDepth 100000 in
theorem t_V_placeOf_e {p : Program} {l : Launch} {e : Env} {R : Room} {s : State} {m : MethodId} {args : Array Value} {below : List Frame} {meth : Method} {c : Code} {cells slots : Nat} {Q : State → Prop} {dC : Nat → ClassId} {dI : Nat → Nat → Nat} {cI cB cJ cZ : ClassId} {A : Nat → Prop} {ad : Nat → Nat} {NN : Nat} {E : Heap} {tM tC : Nat} {kK kV : Nat → Nat} {post : Int32 → St → Prop} (hx : p.tables.exec = Jvm.exec) (hb : c.code = b_V_placeOf) (hml : c.maxLocals = 2) (hown : s.vm.findClass R_V = some m.cls) (hT : ∀ w ∈ TG, w.before args s = true) (hK : va_K (dC, dI) CL (TY cI cB cJ cZ) s) (hN : NW s) (hA : ∀ q : Nat, s.heap.size ≤ q → A q) (hRc : cells ≤ R.cells) (hRs : slots ≤ R.slots) (hRf : 0 ≤ R.frames) (hRl : 0 ≤ R.locals) (hNN : 152 ≤ NN) (hE : CE E tM tC kK kV A s) (hret : ∀ (r : Int32) (x : St) (H : Heap) (locs : List Loc) (pc : Nat) (ls : Array Slot), decode b_V_placeOf pc = .ok (.ireturn, 1) → post r x → Wd dC dI cI cB cJ cZ ad stC kcC NN A x H → va_S A s.heap H locs → W p l e R s m args below meth c H locs cells slots Q (F0 m pc ls [.int r])) : ∀ (l0 : Int64) (x : St) (H : Heap) (locs : List Loc) (ls : Array Slot), wp_V_placeOf post l0 x → Wd dC dI cI cB cJ cZ ad stC kcC NN A x H → va_S A s.heap H locs → lv_has ls 2 [(0, .long l0)] → W p l e R s m args below meth c H locs cells slots Q (F0 m 0 ls []) := by
  intro l0 x H locs ls  hw hW hS hl
  unfold wp_V_placeOf at hw
  refine lv_lload_n hx hb d_V_placeOf_0 rfl (lv_at hl 0 rfl) ?_
  refine lv_bipush (v := 8) hx hb d_V_placeOf_1 (by decide) ?_
  refine lv_lshr hx hb d_V_placeOf_3 rfl ?_
  refine lv_l2i hx hb d_V_placeOf_4 rfl ?_
  exact hret ((l0 >>> ((8 : Int32).toInt64 &&& 63)) : Int64).toInt32 x H locs 5 ls d_V_placeOf_5 hw hW hS
set_option maxHeartbeats 4000000 in
set_option maxRecDepth 100000 in
theorem k_V_placeOf (l : Launch) (dC : Nat → ClassId) (dI : Nat → Nat → Nat) (cI cB cJ cZ : ClassId) (ad : Nat → Nat) (NN : Nat) (E : Heap) (tM tC : Nat) (kK kV : Nat → Nat) (hNN : 152 ≤ NN) (sz : Nat) (l0 : Int64) (x : St) {post : Int32 → St → Prop} (hw : wp_V_placeOf post l0 x) : Met l y_V_placeOf (wsOf y_V_placeOf b_V_placeOf 2 (some (.int))) ({ frames := 0, cells := 0, slots := 0, locals := 0 }) (va_Pc [.long l0] (PVc dC dI cI cB cJ cZ ad stC kcC NN E tM tC kK kV sz x)) (va_Qi (fun (r : Int32) (y : St) => post r y) (fun y t => Wd dC dI cI cB cJ cZ ad stC kcC NN (va_A (pic ad stC kcC NN cI cB cJ cZ x) sz) y t.heap) (va_A (pic ad stC kcC NN cI cB cJ cZ x) sz)) 0 0 (va_A (pic ad stC kcC NN cI cB cJ cZ x) sz) := by
  refine Met.ofW (cc := b_V_placeOf) (maxL := 2) (ret := some (.int)) (by decide) rfl ?_
  intro p e s m args below meth c s₁ B hml hv
  obtain ⟨rfl, ⟨hsz, hW0, hK, hN⟩, hE⟩ := hv
  have hx := B.exec
  have hb := B.bytes
  have hr := B.returns
  have hts := atoms_spec B.pre
  have hT : ∀ w ∈ TG, w.before _ s = true := fun w h => hts w (List.mem_cons_of_mem _ h)
  have hown : s.vm.findClass R_V = some m.cls := findClass_of_methodNamed B.named
  have hlocks := B.notSynchronized
  subst hsz
  have hW : Wd dC dI cI cB cJ cZ ad stC kcC NN (va_A (pic ad stC kcC NN cI cB cJ cZ x) s.heap.size) x s.heap := ⟨hW0.1, hW0.2.1.self (sz := s.heap.size), hW0.2.2⟩
  generalize hAe : va_A (pic ad stC kcC NN cI cB cJ cZ x) s.heap.size = A at hW hE ⊢
  have hA : ∀ q : Nat, s.heap.size ≤ q → A q := fun q h => by rw [← hAe]; exact Or.inr h
  have hS : va_S A s.heap s.heap [] := va_S.rf
  have hl := lv_entry ([.long l0]) (n := 2) (Nat.le_of_ble_eq_true rfl)
  rw [lg_entry_eq]
  generalize (lg_sl ([.long l0]) ++ List.replicate (2 - (lg_sl ([.long l0])).length) Slot.unset).toArray = ls at hl ⊢
  have hl : lv_has ls 2 [(0, .long l0)] := hl
  exact t_V_placeOf_e hx hb hml hown hT hK hN hA (Nat.le_refl 0) (Nat.le_refl 0) (Nat.le_refl 0) (Nat.le_refl 0) hNN hE (fun r x H locs pc ls hd hp hW hS => W.iret (v := r) hx hb hr (fun t ht hM => ⟨⟨r, x, rfl, hp, Wd.back hW ht.symm (fun _ z => z)⟩, hS.F ht⟩) hS.2.2 hd hlocks)  l0 x _ _ ls  hw hW hS hl
set_option maxRecDepth 100000 in
set_option maxHeartbeats 4000000 in
set_option maxRecDepth 100000 in
theorem t_Snk_sameFrom_35 {p : Program} {l : Launch} {e : Env} {R : Room} {s : State} {m : MethodId} {args : Array Value} {below : List Frame} {meth : Method} {c : Code} {cells slots : Nat} {Q : State → Prop} {dC : Nat → ClassId} {dI : Nat → Nat → Nat} {cI cB cJ cZ : ClassId} {A : Nat → Prop} {ad : Nat → Nat} {NN : Nat} {E : Heap} {tM tC : Nat} {kK kV : Nat → Nat} {post : Int32 → St → Prop} (hx : p.tables.exec = Jvm.exec) (hb : c.code = b_Snk_sameFrom) (hml : c.maxLocals = 5) (hown : s.vm.findClass R_Snk = some m.cls) (hT : ∀ w ∈ TG, w.before args s = true) (hK : va_K (dC, dI) CL (TY cI cB cJ cZ) s) (hN : NW s) (hA : ∀ q : Nat, s.heap.size ≤ q → A q) (hRc : cells ≤ R.cells) (hRs : slots ≤ R.slots) (hRf : 0 ≤ R.frames) (hRl : 0 ≤ R.locals) (hNN : 152 ≤ NN) (hE : CE E tM tC kK kV A s) (hret : ∀ (r : Int32) (x : St) (H : Heap) (locs : List Loc) (pc : Nat) (ls : Array Slot), decode b_Snk_sameFrom pc = .ok (.ireturn, 1) → post r x → Wd dC dI cI cB cJ cZ ad stC kcC NN A x H → va_S A s.heap H locs → W p l e R s m args below meth c H locs cells slots Q (F0 m pc ls [.int r]))  : ∀ (l0 : Nat) (l1 : Int32) (l2 : Int32) (l3 : Int32) (l4 : Int32) (x : St) (H : Heap) (locs : List Loc) (ls : Array Slot), (l0 < NN ∧ kcC l0 = 20) → j_Snk_sameFrom_35 post l0 l1 l2 l3 l4 x → Wd dC dI cI cB cJ cZ ad stC kcC NN A x H → va_S A s.heap H locs → lv_has ls 5 [(0, .ref (ad l0)), (1, .int l1), (2, .int l2), (3, .int l3), (4, .int l4)] → W p l e R s m args below meth c H locs cells slots Q (F0 m 35 ls []) := by
  intro l0 l1 l2 l3 l4 x H locs ls fl0 hw hW hS hl
  unfold j_Snk_sameFrom_35 at hw
  refine lv_iload hx hb d_Snk_sameFrom_35 (lv_at hl 4 rfl) ?_
  exact hret l4 x H locs 37 ls d_Snk_sameFrom_37 hw hW hS
set_option maxRecDepth 100000 in
set_option maxHeartbeats 4000000 in
set_option maxRecDepth 100000 in
theorem t_Snk_sameFrom_3 {p : Program} {l : Launch} {e : Env} {R : Room} {s : State} {m : MethodId} {args : Array Value} {below : List Frame} {meth : Method} {c : Code} {cells slots : Nat} {Q : State → Prop} {dC : Nat → ClassId} {dI : Nat → Nat → Nat} {cI cB cJ cZ : ClassId} {A : Nat → Prop} {ad : Nat → Nat} {NN : Nat} {E : Heap} {tM tC : Nat} {kK kV : Nat → Nat} {post : Int32 → St → Prop} {rec3 : Nat → Int32 → Int32 → Int32 → Int32 → St → Prop} (hx : p.tables.exec = Jvm.exec) (hb : c.code = b_Snk_sameFrom) (hml : c.maxLocals = 5) (hown : s.vm.findClass R_Snk = some m.cls) (hT : ∀ w ∈ TG, w.before args s = true) (hK : va_K (dC, dI) CL (TY cI cB cJ cZ) s) (hN : NW s) (hA : ∀ q : Nat, s.heap.size ≤ q → A q) (hRc : cells ≤ R.cells) (hRs : slots ≤ R.slots) (hRf : 0 ≤ R.frames) (hRl : 0 ≤ R.locals) (hNN : 152 ≤ NN) (hE : CE E tM tC kK kV A s) (hret : ∀ (r : Int32) (x : St) (H : Heap) (locs : List Loc) (pc : Nat) (ls : Array Slot), decode b_Snk_sameFrom pc = .ok (.ireturn, 1) → post r x → Wd dC dI cI cB cJ cZ ad stC kcC NN A x H → va_S A s.heap H locs → W p l e R s m args below meth c H locs cells slots Q (F0 m pc ls [.int r])) (hrec3 : ∀ (l0 : Nat) (l1 : Int32) (l2 : Int32) (l3 : Int32) (l4 : Int32) (x : St) (H : Heap) (locs : List Loc) (ls : Array Slot), (l0 < NN ∧ kcC l0 = 20) → rec3 l0 l1 l2 l3 l4 x → Wd dC dI cI cB cJ cZ ad stC kcC NN A x H → va_S A s.heap H locs → lv_has ls 5 [(0, .ref (ad l0)), (1, .int l1), (2, .int l2), (3, .int l3), (4, .int l4)] → W p l e R s m args below meth c H locs cells slots Q (F0 m 3 ls [])) : ∀ (l0 : Nat) (l1 : Int32) (l2 : Int32) (l3 : Int32) (l4 : Int32) (x : St) (H : Heap) (locs : List Loc) (ls : Array Slot), (l0 < NN ∧ kcC l0 = 20) → j_Snk_sameFrom_3 post rec3 l0 l1 l2 l3 l4 x → Wd dC dI cI cB cJ cZ ad stC kcC NN A x H → va_S A s.heap H locs → lv_has ls 5 [(0, .ref (ad l0)), (1, .int l1), (2, .int l2), (3, .int l3), (4, .int l4)] → W p l e R s m args below meth c H locs cells slots Q (F0 m 3 ls []) := by
  intro l0 l1 l2 l3 l4 x H locs ls fl0 hw hW hS hl
  unfold j_Snk_sameFrom_3 at hw
  refine lv_iload hx hb d_Snk_sameFrom_3 (lv_at hl 4 rfl) ?_
  refine lv_iload_n hx hb d_Snk_sameFrom_5 rfl (lv_at hl 3 rfl) ?_
  refine lv_icmp_ge (tgt := 35) hx hb d_Snk_sameFrom_6 (by decide) (fun c1 => ?_) (fun c1 => ?_)
  · have hw := hw.1 c1
    exact t_Snk_sameFrom_35 hx hb hml hown hT hK hN hA hRc hRs hRf hRl hNN hE hret  l0 l1 l2 l3 l4 x H locs ls fl0 hw hW hS (lv_sub hl [0, 1, 2, 3, 4] rfl)
  · have hw := hw.2 c1
    refine lv_iload_n hx hb d_Snk_sameFrom_9 rfl (lv_at hl 2 rfl) ?_
    refine lv_iload hx hb d_Snk_sameFrom_10 (lv_at hl 4 rfl) ?_
    refine lv_iadd hx hb d_Snk_sameFrom_12 ?_
    refine lv_iload_n hx hb d_Snk_sameFrom_13 rfl (lv_at hl 1 rfl) ?_
    refine lv_icmp_ge (tgt := 35) hx hb d_Snk_sameFrom_14 (by decide) (fun c2 => ?_) (fun c2 => ?_)
    · have hw := hw.1 c2
      exact t_Snk_sameFrom_35 hx hb hml hown hT hK hN hA hRc hRs hRf hRl hNN hE hret  l0 l1 l2 l3 l4 x H locs ls fl0 hw hW hS (lv_sub hl [0, 1, 2, 3, 4] rfl)
    · have hw := hw.2 c2
      refine lv_aload_n hx hb d_Snk_sameFrom_17 rfl (lv_at hl 0 rfl) ?_
      refine lv_iload_n hx hb d_Snk_sameFrom_18 rfl (lv_at hl 2 rfl) ?_
      refine lv_iload hx hb d_Snk_sameFrom_19 (lv_at hl 4 rfl) ?_
      refine lv_iadd hx hb d_Snk_sameFrom_21 ?_
      obtain ⟨hi, hw⟩ := hw
      refine w_iald (o := l0) hx hb hK hW fl0.1 fl0.2 hi d_Snk_sameFrom_22 ?_
      refine lv_aload_n hx hb d_Snk_sameFrom_23 rfl (lv_at hl 0 rfl) ?_
      refine lv_iload_n hx hb d_Snk_sameFrom_24 rfl (lv_at hl 2 rfl) ?_
      obtain ⟨hi, hw⟩ := hw
      refine w_iald (o := l0) hx hb hK hW fl0.1 fl0.2 hi d_Snk_sameFrom_25 ?_
      refine lv_icmp_ne (tgt := 35) hx hb d_Snk_sameFrom_26 (by decide) (fun c3 => ?_) (fun c3 => ?_)
      · have hw := hw.1 c3
        exact t_Snk_sameFrom_35 hx hb hml hown hT hK hN hA hRc hRs hRf hRl hNN hE hret  l0 l1 l2 l3 l4 x H locs ls fl0 hw hW hS (lv_sub hl [0, 1, 2, 3, 4] rfl)
      · have hw := hw.2 c3
        refine lv_iinc (v := (l4 + 1)) (lv' := [(4, .int (l4 + 1)), (0, .ref (ad l0)), (1, .int l1), (2, .int l2), (3, .int l3)]) hx hb d_Snk_sameFrom_29 hl (k := 4) rfl rfl (by decide) rfl (fun ls hl => ?_)
        refine lv_goto (tgt := 3) hx hb d_Snk_sameFrom_32 (by decide) ?_
        exact hrec3 l0 l1 l2 l3 (l4 + 1) x H locs ls fl0 hw hW hS (lv_sub hl [1, 2, 3, 4, 0] rfl)
set_option maxHeartbeats 4000000 in
set_option maxRecDepth 100000 in
theorem tl_Snk_sameFrom_3 {p : Program} {l : Launch} {e : Env} {R : Room} {s : State} {m : MethodId} {args : Array Value} {below : List Frame} {meth : Method} {c : Code} {cells slots : Nat} {Q : State → Prop} {dC : Nat → ClassId} {dI : Nat → Nat → Nat} {cI cB cJ cZ : ClassId} {A : Nat → Prop} {ad : Nat → Nat} {NN : Nat} {E : Heap} {tM tC : Nat} {kK kV : Nat → Nat} {post : Int32 → St → Prop} (hx : p.tables.exec = Jvm.exec) (hb : c.code = b_Snk_sameFrom) (hml : c.maxLocals = 5) (hown : s.vm.findClass R_Snk = some m.cls) (hT : ∀ w ∈ TG, w.before args s = true) (hK : va_K (dC, dI) CL (TY cI cB cJ cZ) s) (hN : NW s) (hA : ∀ q : Nat, s.heap.size ≤ q → A q) (hRc : cells ≤ R.cells) (hRs : slots ≤ R.slots) (hRf : 0 ≤ R.frames) (hRl : 0 ≤ R.locals) (hNN : 152 ≤ NN) (hE : CE E tM tC kK kV A s) (hret : ∀ (r : Int32) (x : St) (H : Heap) (locs : List Loc) (pc : Nat) (ls : Array Slot), decode b_Snk_sameFrom pc = .ok (.ireturn, 1) → post r x → Wd dC dI cI cB cJ cZ ad stC kcC NN A x H → va_S A s.heap H locs → W p l e R s m args below meth c H locs cells slots Q (F0 m pc ls [.int r]))  : ∀ n : Nat, ∀ (l0 : Nat) (l1 : Int32) (l2 : Int32) (l3 : Int32) (l4 : Int32) (x : St) (H : Heap) (locs : List Loc) (ls : Array Slot), (l0 < NN ∧ kcC l0 = 20) → wl_Snk_sameFrom_3 post n l0 l1 l2 l3 l4 x → Wd dC dI cI cB cJ cZ ad stC kcC NN A x H → va_S A s.heap H locs → lv_has ls 5 [(0, .ref (ad l0)), (1, .int l1), (2, .int l2), (3, .int l3), (4, .int l4)] → W p l e R s m args below meth c H locs cells slots Q (F0 m 3 ls []) := by
  intro n
  induction n with
  | zero => intro l0 l1 l2 l3 l4 x H locs ls fl0 hw; exact hw.elim
  | succ n ih => intro l0 l1 l2 l3 l4 x H locs ls fl0 hw hW hS hl; exact t_Snk_sameFrom_3 hx hb hml hown hT hK hN hA hRc hRs hRf hRl hNN hE hret  ih l0 l1 l2 l3 l4 x H locs ls fl0 hw hW hS hl
set_option maxRecDepth 100000 in
set_option maxHeartbeats 4000000 in
set_option maxRecDepth 100000 in
theorem t_Snk_sameFrom_e {p : Program} {l : Launch} {e : Env} {R : Room} {s : State} {m : MethodId} {args : Array Value} {below : List Frame} {meth : Method} {c : Code} {cells slots : Nat} {Q : State → Prop} {dC : Nat → ClassId} {dI : Nat → Nat → Nat} {cI cB cJ cZ : ClassId} {A : Nat → Prop} {ad : Nat → Nat} {NN : Nat} {E : Heap} {tM tC : Nat} {kK kV : Nat → Nat} {post : Int32 → St → Prop} (hx : p.tables.exec = Jvm.exec) (hb : c.code = b_Snk_sameFrom) (hml : c.maxLocals = 5) (hown : s.vm.findClass R_Snk = some m.cls) (hT : ∀ w ∈ TG, w.before args s = true) (hK : va_K (dC, dI) CL (TY cI cB cJ cZ) s) (hN : NW s) (hA : ∀ q : Nat, s.heap.size ≤ q → A q) (hRc : cells ≤ R.cells) (hRs : slots ≤ R.slots) (hRf : 0 ≤ R.frames) (hRl : 0 ≤ R.locals) (hNN : 152 ≤ NN) (hE : CE E tM tC kK kV A s) (hret : ∀ (r : Int32) (x : St) (H : Heap) (locs : List Loc) (pc : Nat) (ls : Array Slot), decode b_Snk_sameFrom pc = .ok (.ireturn, 1) → post r x → Wd dC dI cI cB cJ cZ ad stC kcC NN A x H → va_S A s.heap H locs → W p l e R s m args below meth c H locs cells slots Q (F0 m pc ls [.int r])) : ∀ (l0 : Nat) (l1 : Int32) (l2 : Int32) (l3 : Int32) (x : St) (H : Heap) (locs : List Loc) (ls : Array Slot), (l0 < NN ∧ kcC l0 = 20) → wp_Snk_sameFrom post l0 l1 l2 l3 x → Wd dC dI cI cB cJ cZ ad stC kcC NN A x H → va_S A s.heap H locs → lv_has ls 5 [(0, .ref (ad l0)), (1, .int l1), (2, .int l2), (3, .int l3)] → W p l e R s m args below meth c H locs cells slots Q (F0 m 0 ls []) := by
  intro l0 l1 l2 l3 x H locs ls fl0 hw hW hS hl
  unfold wp_Snk_sameFrom at hw
  refine lv_iconst (v := 1) hx hb d_Snk_sameFrom_0 (by decide) ?_
  refine lv_istore (lv' := [(4, .int 1), (0, .ref (ad l0)), (1, .int l1), (2, .int l2), (3, .int l3)]) hx hb d_Snk_sameFrom_1 hl (by decide) rfl (fun ls hl => ?_)
  obtain ⟨n, hw⟩ := hw
  exact tl_Snk_sameFrom_3 hx hb hml hown hT hK hN hA hRc hRs hRf hRl hNN hE hret  n l0 l1 l2 l3 1 x H locs ls fl0 hw hW hS (lv_sub hl [1, 2, 3, 4, 0] rfl)
set_option maxHeartbeats 4000000 in
set_option maxRecDepth 100000 in
theorem k_Snk_sameFrom (l : Launch) (dC : Nat → ClassId) (dI : Nat → Nat → Nat) (cI cB cJ cZ : ClassId) (ad : Nat → Nat) (NN : Nat) (E : Heap) (tM tC : Nat) (kK kV : Nat → Nat) (hNN : 152 ≤ NN) (sz : Nat) (l0 : Nat) (l1 : Int32) (l2 : Int32) (l3 : Int32) (x : St) (fl0 : l0 < NN ∧ kcC l0 = 20) {post : Int32 → St → Prop} (hw : wp_Snk_sameFrom post l0 l1 l2 l3 x) : Met l y_Snk_sameFrom (wsOf y_Snk_sameFrom b_Snk_sameFrom 5 (some (.int))) ({ frames := 0, cells := 0, slots := 0, locals := 0 }) (va_Pc [.ref (ad l0), .int l1, .int l2, .int l3] (PVc dC dI cI cB cJ cZ ad stC kcC NN E tM tC kK kV sz x)) (va_Qi (fun (r : Int32) (y : St) => post r y) (fun y t => Wd dC dI cI cB cJ cZ ad stC kcC NN (va_A (pic ad stC kcC NN cI cB cJ cZ x) sz) y t.heap) (va_A (pic ad stC kcC NN cI cB cJ cZ x) sz)) 0 0 (va_A (pic ad stC kcC NN cI cB cJ cZ x) sz) := by
  refine Met.ofW (cc := b_Snk_sameFrom) (maxL := 5) (ret := some (.int)) (by decide) rfl ?_
  intro p e s m args below meth c s₁ B hml hv
  obtain ⟨rfl, ⟨hsz, hW0, hK, hN⟩, hE⟩ := hv
  have hx := B.exec
  have hb := B.bytes
  have hr := B.returns
  have hts := atoms_spec B.pre
  have hT : ∀ w ∈ TG, w.before _ s = true := fun w h => hts w (List.mem_cons_of_mem _ h)
  have hown : s.vm.findClass R_Snk = some m.cls := findClass_of_methodNamed B.named
  have hlocks := B.notSynchronized
  subst hsz
  have hW : Wd dC dI cI cB cJ cZ ad stC kcC NN (va_A (pic ad stC kcC NN cI cB cJ cZ x) s.heap.size) x s.heap := ⟨hW0.1, hW0.2.1.self (sz := s.heap.size), hW0.2.2⟩
  generalize hAe : va_A (pic ad stC kcC NN cI cB cJ cZ x) s.heap.size = A at hW hE ⊢
  have hA : ∀ q : Nat, s.heap.size ≤ q → A q := fun q h => by rw [← hAe]; exact Or.inr h
  have hS : va_S A s.heap s.heap [] := va_S.rf
  have hl := lv_entry ([.ref (ad l0), .int l1, .int l2, .int l3]) (n := 5) (Nat.le_of_ble_eq_true rfl)
  rw [lg_entry_eq]
  generalize (lg_sl ([.ref (ad l0), .int l1, .int l2, .int l3]) ++ List.replicate (5 - (lg_sl ([.ref (ad l0), .int l1, .int l2, .int l3])).length) Slot.unset).toArray = ls at hl ⊢
  have hl : lv_has ls 5 [(0, .ref (ad l0)), (1, .int l1), (2, .int l2), (3, .int l3)] := hl
  exact t_Snk_sameFrom_e hx hb hml hown hT hK hN hA (Nat.le_refl 0) (Nat.le_refl 0) (Nat.le_refl 0) (Nat.le_refl 0) hNN hE (fun r x H locs pc ls hd hp hW hS => W.iret (v := r) hx hb hr (fun t ht hM => ⟨⟨r, x, rfl, hp, Wd.back hW ht.symm (fun _ z => z)⟩, hS.F ht⟩) hS.2.2 hd hlocks)  l0 l1 l2 l3 x _ _ ls fl0 hw hW hS hl
set_option maxRecDepth 100000 in
set_option maxHeartbeats 4000000 in
set_option maxRecDepth 100000 in
theorem t_V_hashOf_68 {p : Program} {l : Launch} {e : Env} {R : Room} {s : State} {m : MethodId} {args : Array Value} {below : List Frame} {meth : Method} {c : Code} {cells slots : Nat} {Q : State → Prop} {dC : Nat → ClassId} {dI : Nat → Nat → Nat} {cI cB cJ cZ : ClassId} {A : Nat → Prop} {ad : Nat → Nat} {NN : Nat} {E : Heap} {tM tC : Nat} {kK kV : Nat → Nat} {post : Int32 → St → Prop} (hx : p.tables.exec = Jvm.exec) (hb : c.code = b_V_hashOf) (hml : c.maxLocals = 8) (hown : s.vm.findClass R_V = some m.cls) (hT : ∀ w ∈ TG, w.before args s = true) (hK : va_K (dC, dI) CL (TY cI cB cJ cZ) s) (hN : NW s) (hA : ∀ q : Nat, s.heap.size ≤ q → A q) (hRc : cells ≤ R.cells) (hRs : slots ≤ R.slots) (hRf : 0 ≤ R.frames) (hRl : 0 ≤ R.locals) (hNN : 152 ≤ NN) (hE : CE E tM tC kK kV A s) (hret : ∀ (r : Int32) (x : St) (H : Heap) (locs : List Loc) (pc : Nat) (ls : Array Slot), decode b_V_hashOf pc = .ok (.ireturn, 1) → post r x → Wd dC dI cI cB cJ cZ ad stC kcC NN A x H → va_S A s.heap H locs → W p l e R s m args below meth c H locs cells slots Q (F0 m pc ls [.int r]))  : ∀ (l0 : Int32) (l1 : Nat) (l2 : Int64) (l4 : Int32) (x : St) (H : Heap) (locs : List Loc) (ls : Array Slot), (l1 < NN ∧ kcC l1 = 21) → j_V_hashOf_68 post l0 l1 l2 l4 x → Wd dC dI cI cB cJ cZ ad stC kcC NN A x H → va_S A s.heap H locs → lv_has ls 8 [(0, .int l0), (1, .ref (ad l1)), (2, .long l2), (4, .int l4)] → W p l e R s m args below meth c H locs cells slots Q (F0 m 68 ls []) := by
  intro l0 l1 l2 l4 x H locs ls fl1 hw hW hS hl
  unfold j_V_hashOf_68 at hw
  refine lv_iload hx hb d_V_hashOf_68 (lv_at hl 3 rfl) ?_
  refine lv_ldcw hx hb hown (hT _ w_5_222) d_V_hashOf_70 ?_
  refine lv_imul hx hb d_V_hashOf_73 ?_
  refine lv_topi (fun v1 ev1 => ?_)
  have hw := hw v1 ev1
  refine lv_istore (lv' := [(4, .int v1), (0, .int l0), (1, .ref (ad l1)), (2, .long l2)]) hx hb d_V_hashOf_74 hl (by decide) rfl (fun ls hl => ?_)
  refine lv_iload hx hb d_V_hashOf_76 (lv_at hl 0 rfl) ?_
  refine lv_iload hx hb d_V_hashOf_78 (lv_at hl 0 rfl) ?_
  refine lv_bipush (v := 15) hx hb d_V_hashOf_80 (by decide) ?_
  refine lv_iushr hx hb d_V_hashOf_82 rfl ?_
  refine lv_ixor hx hb d_V_hashOf_83 ?_
  exact hret (v1 ^^^ ((v1 : Int32).toUInt32 >>> ((15 : Int32).toUInt32 &&& Int32.toUInt32 31)).toInt32) x H locs 84 ls d_V_hashOf_84 hw hW hS
set_option maxRecDepth 100000 in
set_option maxHeartbeats 4000000 in
set_option maxRecDepth 100000 in
theorem t_V_hashOf_31 {p : Program} {l : Launch} {e : Env} {R : Room} {s : State} {m : MethodId} {args : Array Value} {below : List Frame} {meth : Method} {c : Code} {cells slots : Nat} {Q : State → Prop} {dC : Nat → ClassId} {dI : Nat → Nat → Nat} {cI cB cJ cZ : ClassId} {A : Nat → Prop} {ad : Nat → Nat} {NN : Nat} {E : Heap} {tM tC : Nat} {kK kV : Nat → Nat} {post : Int32 → St → Prop} {rec31 : Int32 → Nat → Int64 → Int32 → Int32 → Int32 → Int32 → St → Prop} (hx : p.tables.exec = Jvm.exec) (hb : c.code = b_V_hashOf) (hml : c.maxLocals = 8) (hown : s.vm.findClass R_V = some m.cls) (hT : ∀ w ∈ TG, w.before args s = true) (hK : va_K (dC, dI) CL (TY cI cB cJ cZ) s) (hN : NW s) (hA : ∀ q : Nat, s.heap.size ≤ q → A q) (hRc : cells ≤ R.cells) (hRs : slots ≤ R.slots) (hRf : 0 ≤ R.frames) (hRl : 0 ≤ R.locals) (hNN : 152 ≤ NN) (hE : CE E tM tC kK kV A s) (hret : ∀ (r : Int32) (x : St) (H : Heap) (locs : List Loc) (pc : Nat) (ls : Array Slot), decode b_V_hashOf pc = .ok (.ireturn, 1) → post r x → Wd dC dI cI cB cJ cZ ad stC kcC NN A x H → va_S A s.heap H locs → W p l e R s m args below meth c H locs cells slots Q (F0 m pc ls [.int r])) (hrec31 : ∀ (l0 : Int32) (l1 : Nat) (l2 : Int64) (l4 : Int32) (l5 : Int32) (l6 : Int32) (l7 : Int32) (x : St) (H : Heap) (locs : List Loc) (ls : Array Slot), (l1 < NN ∧ kcC l1 = 21) → rec31 l0 l1 l2 l4 l5 l6 l7 x → Wd dC dI cI cB cJ cZ ad stC kcC NN A x H → va_S A s.heap H locs → lv_has ls 8 [(0, .int l0), (1, .ref (ad l1)), (2, .long l2), (4, .int l4), (5, .int l5), (6, .int l6), (7, .int l7)] → W p l e R s m args below meth c H locs cells slots Q (F0 m 31 ls [])) : ∀ (l0 : Int32) (l1 : Nat) (l2 : Int64) (l4 : Int32) (l5 : Int32) (l6 : Int32) (l7 : Int32) (x : St) (H : Heap) (locs : List Loc) (ls : Array Slot), (l1 < NN ∧ kcC l1 = 21) → j_V_hashOf_31 post rec31 l0 l1 l2 l4 l5 l6 l7 x → Wd dC dI cI cB cJ cZ ad stC kcC NN A x H → va_S A s.heap H locs → lv_has ls 8 [(0, .int l0), (1, .ref (ad l1)), (2, .long l2), (4, .int l4), (5, .int l5), (6, .int l6), (7, .int l7)] → W p l e R s m args below meth c H locs cells slots Q (F0 m 31 ls []) := by
  intro l0 l1 l2 l4 l5 l6 l7 x H locs ls fl1 hw hW hS hl
  unfold j_V_hashOf_31 at hw
  refine lv_iload hx hb d_V_hashOf_31 (lv_at hl 6 rfl) ?_
  refine lv_iload hx hb d_V_hashOf_33 (lv_at hl 5 rfl) ?_
  refine lv_icmp_ge (tgt := 56) hx hb d_V_hashOf_35 (by decide) (fun c2 => ?_) (fun c2 => ?_)
  · have hw := hw.1 c2
    refine lv_goto (tgt := 68) hx hb d_V_hashOf_56 (by decide) ?_
    exact t_V_hashOf_68 hx hb hml hown hT hK hN hA hRc hRs hRf hRl hNN hE hret  l0 l1 l2 l4 x H locs ls fl1 hw hW hS (lv_sub hl [0, 1, 2, 3] rfl)
  · have hw := hw.2 c2
    refine lv_iload hx hb d_V_hashOf_38 (lv_at hl 3 rfl) ?_
    refine lv_bipush (v := 31) hx hb d_V_hashOf_40 (by decide) ?_
    refine lv_imul hx hb d_V_hashOf_42 ?_
    refine lv_aload_n hx hb d_V_hashOf_43 rfl (lv_at hl 1 rfl) ?_
    refine lv_iload hx hb d_V_hashOf_44 (lv_at hl 6 rfl) ?_
    obtain ⟨hi, hw⟩ := hw
    refine w_bald (o := l1) hx hb hK hW fl1.1 fl1.2 hi d_V_hashOf_46 ?_
    refine lv_iadd hx hb d_V_hashOf_47 ?_
    refine lv_topi (fun v3 ev3 => ?_)
    have hw := hw v3 ev3
    refine lv_istore (lv' := [(4, .int v3), (0, .int l0), (1, .ref (ad l1)), (2, .long l2), (5, .int l5), (6, .int l6), (7, .int l7)]) hx hb d_V_hashOf_48 hl (by decide) rfl (fun ls hl => ?_)
    refine lv_iinc (v := (l7 + 1)) (lv' := [(7, .int (l7 + 1)), (4, .int v3), (0, .int l0), (1, .ref (ad l1)), (2, .long l2), (5, .int l5), (6, .int l6)]) hx hb d_V_hashOf_50 hl (k := 6) rfl rfl (by decide) rfl (fun ls hl => ?_)
    refine lv_goto (tgt := 31) hx hb d_V_hashOf_53 (by decide) ?_
    exact hrec31 l0 l1 l2 v3 l5 l6 (l7 + 1) x H locs ls fl1 hw hW hS (lv_sub hl [2, 3, 4, 1, 5, 6, 0] rfl)
set_option maxHeartbeats 4000000 in
set_option maxRecDepth 100000 in
theorem tl_V_hashOf_31 {p : Program} {l : Launch} {e : Env} {R : Room} {s : State} {m : MethodId} {args : Array Value} {below : List Frame} {meth : Method} {c : Code} {cells slots : Nat} {Q : State → Prop} {dC : Nat → ClassId} {dI : Nat → Nat → Nat} {cI cB cJ cZ : ClassId} {A : Nat → Prop} {ad : Nat → Nat} {NN : Nat} {E : Heap} {tM tC : Nat} {kK kV : Nat → Nat} {post : Int32 → St → Prop} (hx : p.tables.exec = Jvm.exec) (hb : c.code = b_V_hashOf) (hml : c.maxLocals = 8) (hown : s.vm.findClass R_V = some m.cls) (hT : ∀ w ∈ TG, w.before args s = true) (hK : va_K (dC, dI) CL (TY cI cB cJ cZ) s) (hN : NW s) (hA : ∀ q : Nat, s.heap.size ≤ q → A q) (hRc : cells ≤ R.cells) (hRs : slots ≤ R.slots) (hRf : 0 ≤ R.frames) (hRl : 0 ≤ R.locals) (hNN : 152 ≤ NN) (hE : CE E tM tC kK kV A s) (hret : ∀ (r : Int32) (x : St) (H : Heap) (locs : List Loc) (pc : Nat) (ls : Array Slot), decode b_V_hashOf pc = .ok (.ireturn, 1) → post r x → Wd dC dI cI cB cJ cZ ad stC kcC NN A x H → va_S A s.heap H locs → W p l e R s m args below meth c H locs cells slots Q (F0 m pc ls [.int r]))  : ∀ n : Nat, ∀ (l0 : Int32) (l1 : Nat) (l2 : Int64) (l4 : Int32) (l5 : Int32) (l6 : Int32) (l7 : Int32) (x : St) (H : Heap) (locs : List Loc) (ls : Array Slot), (l1 < NN ∧ kcC l1 = 21) → wl_V_hashOf_31 post n l0 l1 l2 l4 l5 l6 l7 x → Wd dC dI cI cB cJ cZ ad stC kcC NN A x H → va_S A s.heap H locs → lv_has ls 8 [(0, .int l0), (1, .ref (ad l1)), (2, .long l2), (4, .int l4), (5, .int l5), (6, .int l6), (7, .int l7)] → W p l e R s m args below meth c H locs cells slots Q (F0 m 31 ls []) := by
  intro n
  induction n with
  | zero => intro l0 l1 l2 l4 l5 l6 l7 x H locs ls fl1 hw; exact hw.elim
  | succ n ih => intro l0 l1 l2 l4 l5 l6 l7 x H locs ls fl1 hw hW hS hl; exact t_V_hashOf_31 hx hb hml hown hT hK hN hA hRc hRs hRf hRl hNN hE hret  ih l0 l1 l2 l4 l5 l6 l7 x H locs ls fl1 hw hW hS hl
set_option maxRecDepth 100000 in
set_option maxHeartbeats 4000000 in
set_option maxRecDepth 100000 in
theorem t_V_hashOf_e {p : Program} {l : Launch} {e : Env} {R : Room} {s : State} {m : MethodId} {args : Array Value} {below : List Frame} {meth : Method} {c : Code} {cells slots : Nat} {Q : State → Prop} {dC : Nat → ClassId} {dI : Nat → Nat → Nat} {cI cB cJ cZ : ClassId} {A : Nat → Prop} {ad : Nat → Nat} {NN : Nat} {E : Heap} {tM tC : Nat} {kK kV : Nat → Nat} {post : Int32 → St → Prop} (hx : p.tables.exec = Jvm.exec) (hb : c.code = b_V_hashOf) (hml : c.maxLocals = 8) (hown : s.vm.findClass R_V = some m.cls) (hT : ∀ w ∈ TG, w.before args s = true) (hK : va_K (dC, dI) CL (TY cI cB cJ cZ) s) (hN : NW s) (hA : ∀ q : Nat, s.heap.size ≤ q → A q) (hRc : cells ≤ R.cells) (hRs : slots ≤ R.slots) (hRf : 0 ≤ R.frames) (hRl : 0 ≤ R.locals) (hNN : 152 ≤ NN) (hE : CE E tM tC kK kV A s) (hret : ∀ (r : Int32) (x : St) (H : Heap) (locs : List Loc) (pc : Nat) (ls : Array Slot), decode b_V_hashOf pc = .ok (.ireturn, 1) → post r x → Wd dC dI cI cB cJ cZ ad stC kcC NN A x H → va_S A s.heap H locs → W p l e R s m args below meth c H locs cells slots Q (F0 m pc ls [.int r])) : ∀ (l0 : Int32) (l1 : Nat) (l2 : Int64) (x : St) (H : Heap) (locs : List Loc) (ls : Array Slot), (l1 < NN ∧ kcC l1 = 21) → wp_V_hashOf post l0 l1 l2 x → Wd dC dI cI cB cJ cZ ad stC kcC NN A x H → va_S A s.heap H locs → lv_has ls 8 [(0, .int l0), (1, .ref (ad l1)), (2, .long l2)] → W p l e R s m args below meth c H locs cells slots Q (F0 m 0 ls []) := by
  intro l0 l1 l2 x H locs ls fl1 hw hW hS hl
  unfold wp_V_hashOf at hw
  refine lv_bipush (v := 7) hx hb d_V_hashOf_0 (by decide) ?_
  refine lv_istore (lv' := [(4, .int 7), (0, .int l0), (1, .ref (ad l1)), (2, .long l2)]) hx hb d_V_hashOf_2 hl (by decide) rfl (fun ls hl => ?_)
  refine lv_iload_n hx hb d_V_hashOf_4 rfl (lv_at hl 1 rfl) ?_
  refine lv_iconst (v := 3) hx hb d_V_hashOf_5 (by decide) ?_
  refine lv_icmp_ne (tgt := 59) hx hb d_V_hashOf_6 (by decide) (fun c4 => ?_) (fun c4 => ?_)
  · have hw := hw.1 c4
    refine lv_lload_n hx hb d_V_hashOf_59 rfl (lv_at hl 3 rfl) ?_
    refine lv_lload_n hx hb d_V_hashOf_60 rfl (lv_at hl 3 rfl) ?_
    refine lv_bipush (v := 32) hx hb d_V_hashOf_61 (by decide) ?_
    refine lv_lushr hx hb d_V_hashOf_63 rfl ?_
    refine lv_lxor hx hb d_V_hashOf_64 ?_
    refine lv_l2i hx hb d_V_hashOf_65 rfl ?_
    refine lv_topi (fun v5 ev5 => ?_)
    have hw := hw v5 ev5
    refine lv_istore (lv' := [(4, .int v5), (0, .int l0), (1, .ref (ad l1)), (2, .long l2)]) hx hb d_V_hashOf_66 hl (by decide) rfl (fun ls hl => ?_)
    exact t_V_hashOf_68 hx hb hml hown hT hK hN hA hRc hRs hRf hRl hNN hE hret  l0 l1 l2 v5 x H locs ls fl1 hw hW hS (lv_sub hl [1, 2, 3, 0] rfl)
  · have hw := hw.2 c4
    refine lv_lload_n hx hb d_V_hashOf_9 rfl (lv_at hl 3 rfl) ?_
    refine lv_bipush (v := 8) hx hb d_V_hashOf_10 (by decide) ?_
    refine lv_lshr hx hb d_V_hashOf_12 rfl ?_
    refine lv_l2i hx hb d_V_hashOf_13 rfl ?_
    refine lv_topi (fun v6 ev6 => ?_)
    have hw := hw v6 ev6
    refine lv_istore (lv' := [(5, .int v6), (4, .int 7), (0, .int l0), (1, .ref (ad l1)), (2, .long l2)]) hx hb d_V_hashOf_14 hl (by decide) rfl (fun ls hl => ?_)
    refine lv_iload hx hb d_V_hashOf_16 (lv_at hl 0 rfl) ?_
    refine lv_lload_n hx hb d_V_hashOf_18 rfl (lv_at hl 4 rfl) ?_
    refine lv_ldc2 hx hb hown (hT _ w_5_162) d_V_hashOf_19 ?_
    refine lv_land hx hb d_V_hashOf_22 ?_
    refine lv_l2i hx hb d_V_hashOf_23 rfl ?_
    refine lv_iadd hx hb d_V_hashOf_24 ?_
    refine lv_topi (fun v7 ev7 => ?_)
    have hw := hw v7 ev7
    refine lv_istore (lv' := [(6, .int v7), (5, .int v6), (4, .int 7), (0, .int l0), (1, .ref (ad l1)), (2, .long l2)]) hx hb d_V_hashOf_25 hl (by decide) rfl (fun ls hl => ?_)
    refine lv_iload hx hb d_V_hashOf_27 (lv_at hl 1 rfl) ?_
    refine lv_istore (lv' := [(7, .int v6), (6, .int v7), (5, .int v6), (4, .int 7), (0, .int l0), (1, .ref (ad l1)), (2, .long l2)]) hx hb d_V_hashOf_29 hl (by decide) rfl (fun ls hl => ?_)
    obtain ⟨n, hw⟩ := hw
    exact tl_V_hashOf_31 hx hb hml hown hT hK hN hA hRc hRs hRf hRl hNN hE hret  n l0 l1 l2 7 v6 v7 v6 x H locs ls fl1 hw hW hS (lv_sub hl [4, 5, 6, 3, 2, 1, 0] rfl)
set_option maxHeartbeats 4000000 in
set_option maxRecDepth 100000 in
theorem k_V_hashOf (l : Launch) (dC : Nat → ClassId) (dI : Nat → Nat → Nat) (cI cB cJ cZ : ClassId) (ad : Nat → Nat) (NN : Nat) (E : Heap) (tM tC : Nat) (kK kV : Nat → Nat) (hNN : 152 ≤ NN) (sz : Nat) (l0 : Int32) (l1 : Nat) (l2 : Int64) (x : St) (fl1 : l1 < NN ∧ kcC l1 = 21) {post : Int32 → St → Prop} (hw : wp_V_hashOf post l0 l1 l2 x) : Met l y_V_hashOf (wsOf y_V_hashOf b_V_hashOf 8 (some (.int))) ({ frames := 0, cells := 0, slots := 0, locals := 0 }) (va_Pc [.int l0, .ref (ad l1), .long l2] (PVc dC dI cI cB cJ cZ ad stC kcC NN E tM tC kK kV sz x)) (va_Qi (fun (r : Int32) (y : St) => post r y) (fun y t => Wd dC dI cI cB cJ cZ ad stC kcC NN (va_A (pic ad stC kcC NN cI cB cJ cZ x) sz) y t.heap) (va_A (pic ad stC kcC NN cI cB cJ cZ x) sz)) 0 0 (va_A (pic ad stC kcC NN cI cB cJ cZ x) sz) := by
  refine Met.ofW (cc := b_V_hashOf) (maxL := 8) (ret := some (.int)) (by decide) rfl ?_
  intro p e s m args below meth c s₁ B hml hv
  obtain ⟨rfl, ⟨hsz, hW0, hK, hN⟩, hE⟩ := hv
  have hx := B.exec
  have hb := B.bytes
  have hr := B.returns
  have hts := atoms_spec B.pre
  have hT : ∀ w ∈ TG, w.before _ s = true := fun w h => hts w (List.mem_cons_of_mem _ h)
  have hown : s.vm.findClass R_V = some m.cls := findClass_of_methodNamed B.named
  have hlocks := B.notSynchronized
  subst hsz
  have hW : Wd dC dI cI cB cJ cZ ad stC kcC NN (va_A (pic ad stC kcC NN cI cB cJ cZ x) s.heap.size) x s.heap := ⟨hW0.1, hW0.2.1.self (sz := s.heap.size), hW0.2.2⟩
  generalize hAe : va_A (pic ad stC kcC NN cI cB cJ cZ x) s.heap.size = A at hW hE ⊢
  have hA : ∀ q : Nat, s.heap.size ≤ q → A q := fun q h => by rw [← hAe]; exact Or.inr h
  have hS : va_S A s.heap s.heap [] := va_S.rf
  have hl := lv_entry ([.int l0, .ref (ad l1), .long l2]) (n := 8) (Nat.le_of_ble_eq_true rfl)
  rw [lg_entry_eq]
  generalize (lg_sl ([.int l0, .ref (ad l1), .long l2]) ++ List.replicate (8 - (lg_sl ([.int l0, .ref (ad l1), .long l2])).length) Slot.unset).toArray = ls at hl ⊢
  have hl : lv_has ls 8 [(0, .int l0), (1, .ref (ad l1)), (2, .long l2)] := hl
  exact t_V_hashOf_e hx hb hml hown hT hK hN hA (Nat.le_refl 0) (Nat.le_refl 0) (Nat.le_refl 0) (Nat.le_refl 0) hNN hE (fun r x H locs pc ls hd hp hW hS => W.iret (v := r) hx hb hr (fun t ht hM => ⟨⟨r, x, rfl, hp, Wd.back hW ht.symm (fun _ z => z)⟩, hS.F ht⟩) hS.2.2 hd hlocks)  l0 l1 l2 x _ _ ls fl1 hw hW hS hl
set_option maxRecDepth 100000 in
set_option maxHeartbeats 4000000 in
set_option maxRecDepth 100000 in
theorem t_JLong_compare_e {p : Program} {l : Launch} {e : Env} {R : Room} {s : State} {m : MethodId} {args : Array Value} {below : List Frame} {meth : Method} {c : Code} {cells slots : Nat} {Q : State → Prop} {dC : Nat → ClassId} {dI : Nat → Nat → Nat} {cI cB cJ cZ : ClassId} {A : Nat → Prop} {ad : Nat → Nat} {NN : Nat} {E : Heap} {tM tC : Nat} {kK kV : Nat → Nat} {post : Int32 → St → Prop} (hx : p.tables.exec = Jvm.exec) (hb : c.code = b_JLong_compare) (hml : c.maxLocals = 4) (hown : s.vm.findClass R_JLong = some m.cls) (hT : ∀ w ∈ TG, w.before args s = true) (hK : va_K (dC, dI) CL (TY cI cB cJ cZ) s) (hN : NW s) (hA : ∀ q : Nat, s.heap.size ≤ q → A q) (hRc : cells ≤ R.cells) (hRs : slots ≤ R.slots) (hRf : 0 ≤ R.frames) (hRl : 0 ≤ R.locals) (hNN : 152 ≤ NN) (hE : CE E tM tC kK kV A s) (hret : ∀ (r : Int32) (x : St) (H : Heap) (locs : List Loc) (pc : Nat) (ls : Array Slot), decode b_JLong_compare pc = .ok (.ireturn, 1) → post r x → Wd dC dI cI cB cJ cZ ad stC kcC NN A x H → va_S A s.heap H locs → W p l e R s m args below meth c H locs cells slots Q (F0 m pc ls [.int r])) : ∀ (l0 : Int64) (l2 : Int64) (x : St) (H : Heap) (locs : List Loc) (ls : Array Slot), wp_JLong_compare post l0 l2 x → Wd dC dI cI cB cJ cZ ad stC kcC NN A x H → va_S A s.heap H locs → lv_has ls 4 [(0, .long l0), (2, .long l2)] → W p l e R s m args below meth c H locs cells slots Q (F0 m 0 ls []) := by
  intro l0 l2 x H locs ls  hw hW hS hl
  unfold wp_JLong_compare at hw
  refine lv_lload_n hx hb d_JLong_compare_0 rfl (lv_at hl 0 rfl) ?_
  refine lv_lload_n hx hb d_JLong_compare_1 rfl (lv_at hl 1 rfl) ?_
  refine W.lcmp hx hb d_JLong_compare_2 ?_
  refine lv_if_ge (tgt := 10) hx hb d_JLong_compare_3 (by decide) (fun c1 => ?_) (fun c1 => ?_)
  · have hw := hw.1 c1
    refine lv_lload_n hx hb d_JLong_compare_10 rfl (lv_at hl 0 rfl) ?_
    refine lv_lload_n hx hb d_JLong_compare_11 rfl (lv_at hl 1 rfl) ?_
    refine W.lcmp hx hb d_JLong_compare_12 ?_
    refine lv_if_ne (tgt := 20) hx hb d_JLong_compare_13 (by decide) (fun c2 => ?_) (fun c2 => ?_)
    · have hw := hw.1 c2
      refine lv_iconst (v := 1) hx hb d_JLong_compare_20 (by decide) ?_
      exact hret 1 x H locs 21 ls d_JLong_compare_21 hw hW hS
    · have hw := hw.2 c2
      refine lv_iconst (v := 0) hx hb d_JLong_compare_16 (by decide) ?_
      refine lv_goto (tgt := 21) hx hb d_JLong_compare_17 (by decide) ?_
      exact hret 0 x H locs 21 ls d_JLong_compare_21 hw hW hS
  · have hw := hw.2 c1
    refine lv_iconst (v := (-1)) hx hb d_JLong_compare_6 (by decide) ?_
    refine lv_goto (tgt := 21) hx hb d_JLong_compare_7 (by decide) ?_
    exact hret (-1) x H locs 21 ls d_JLong_compare_21 hw hW hS
set_option maxHeartbeats 4000000 in
set_option maxRecDepth 100000 in
theorem k_JLong_compare (l : Launch) (dC : Nat → ClassId) (dI : Nat → Nat → Nat) (cI cB cJ cZ : ClassId) (ad : Nat → Nat) (NN : Nat) (E : Heap) (tM tC : Nat) (kK kV : Nat → Nat) (hNN : 152 ≤ NN) (sz : Nat) (l0 : Int64) (l2 : Int64) (x : St) {post : Int32 → St → Prop} (hw : wp_JLong_compare post l0 l2 x) : Met l y_JLong_compare (wsOf y_JLong_compare b_JLong_compare 4 (some (.int))) ({ frames := 0, cells := 0, slots := 0, locals := 0 }) (va_Pc [.long l0, .long l2] (PVc dC dI cI cB cJ cZ ad stC kcC NN E tM tC kK kV sz x)) (va_Qi (fun (r : Int32) (y : St) => post r y) (fun y t => Wd dC dI cI cB cJ cZ ad stC kcC NN (va_A (pic ad stC kcC NN cI cB cJ cZ x) sz) y t.heap) (va_A (pic ad stC kcC NN cI cB cJ cZ x) sz)) 0 0 (va_A (pic ad stC kcC NN cI cB cJ cZ x) sz) := by
  refine Met.ofW (cc := b_JLong_compare) (maxL := 4) (ret := some (.int)) (by decide) rfl ?_
  intro p e s m args below meth c s₁ B hml hv
  obtain ⟨rfl, ⟨hsz, hW0, hK, hN⟩, hE⟩ := hv
  have hx := B.exec
  have hb := B.bytes
  have hr := B.returns
  have hts := atoms_spec B.pre
  have hT : ∀ w ∈ TG, w.before _ s = true := fun w h => hts w (List.mem_cons_of_mem _ h)
  have hown : s.vm.findClass R_JLong = some m.cls := findClass_of_methodNamed B.named
  have hlocks := B.notSynchronized
  subst hsz
  have hW : Wd dC dI cI cB cJ cZ ad stC kcC NN (va_A (pic ad stC kcC NN cI cB cJ cZ x) s.heap.size) x s.heap := ⟨hW0.1, hW0.2.1.self (sz := s.heap.size), hW0.2.2⟩
  generalize hAe : va_A (pic ad stC kcC NN cI cB cJ cZ x) s.heap.size = A at hW hE ⊢
  have hA : ∀ q : Nat, s.heap.size ≤ q → A q := fun q h => by rw [← hAe]; exact Or.inr h
  have hS : va_S A s.heap s.heap [] := va_S.rf
  have hl := lv_entry ([.long l0, .long l2]) (n := 4) (Nat.le_of_ble_eq_true rfl)
  rw [lg_entry_eq]
  generalize (lg_sl ([.long l0, .long l2]) ++ List.replicate (4 - (lg_sl ([.long l0, .long l2])).length) Slot.unset).toArray = ls at hl ⊢
  have hl : lv_has ls 4 [(0, .long l0), (2, .long l2)] := hl
  exact t_JLong_compare_e hx hb hml hown hT hK hN hA (Nat.le_refl 0) (Nat.le_refl 0) (Nat.le_refl 0) (Nat.le_refl 0) hNN hE (fun r x H locs pc ls hd hp hW hS => W.iret (v := r) hx hb hr (fun t ht hM => ⟨⟨r, x, rfl, hp, Wd.back hW ht.symm (fun _ z => z)⟩, hS.F ht⟩) hS.2.2 hd hlocks)  l0 l2 x _ _ ls  hw hW hS hl
set_option maxRecDepth 100000 in
set_option maxHeartbeats 4000000 in
set_option maxRecDepth 100000 in
theorem t_V_compareValues_56 {p : Program} {l : Launch} {e : Env} {R : Room} {s : State} {m : MethodId} {args : Array Value} {below : List Frame} {meth : Method} {c : Code} {cells slots : Nat} {Q : State → Prop} {dC : Nat → ClassId} {dI : Nat → Nat → Nat} {cI cB cJ cZ : ClassId} {A : Nat → Prop} {ad : Nat → Nat} {NN : Nat} {E : Heap} {tM tC : Nat} {kK kV : Nat → Nat} {post : Int32 → St → Prop} {rec56 : Int32 → Nat → Int64 → Nat → Int64 → Int32 → Int32 → Int32 → Int32 → Int32 → Int32 → St → Prop} (hx : p.tables.exec = Jvm.exec) (hb : c.code = b_V_compareValues) (hml : c.maxLocals = 13) (hown : s.vm.findClass R_V = some m.cls) (hT : ∀ w ∈ TG, w.before args s = true) (hK : va_K (dC, dI) CL (TY cI cB cJ cZ) s) (hN : NW s) (hA : ∀ q : Nat, s.heap.size ≤ q → A q) (hRc : cells ≤ R.cells) (hRs : slots ≤ R.slots) (hRf : 1 ≤ R.frames) (hRl : 80 ≤ R.locals) (hNN : 152 ≤ NN) (hE : CE E tM tC kK kV A s) (hret : ∀ (r : Int32) (x : St) (H : Heap) (locs : List Loc) (pc : Nat) (ls : Array Slot), decode b_V_compareValues pc = .ok (.ireturn, 1) → post r x → Wd dC dI cI cB cJ cZ ad stC kcC NN A x H → va_S A s.heap H locs → W p l e R s m args below meth c H locs cells slots Q (F0 m pc ls [.int r])) (hrec56 : ∀ (l0 : Int32) (l1 : Nat) (l2 : Int64) (l4 : Nat) (l5 : Int64) (l7 : Int32) (l8 : Int32) (l9 : Int32) (l10 : Int32) (l11 : Int32) (l12 : Int32) (x : St) (H : Heap) (locs : List Loc) (ls : Array Slot), (l1 < NN ∧ kcC l1 = 21) → (l4 < NN ∧ kcC l4 = 21) → rec56 l0 l1 l2 l4 l5 l7 l8 l9 l10 l11 l12 x → Wd dC dI cI cB cJ cZ ad stC kcC NN A x H → va_S A s.heap H locs → lv_has ls 13 [(0, .int l0), (1, .ref (ad l1)), (2, .long l2), (4, .ref (ad l4)), (5, .long l5), (7, .int l7), (8, .int l8), (9, .int l9), (10, .int l10), (11, .int l11), (12, .int l12)] → W p l e R s m args below meth c H locs cells slots Q (F0 m 56 ls [])) : ∀ (l0 : Int32) (l1 : Nat) (l2 : Int64) (l4 : Nat) (l5 : Int64) (l7 : Int32) (l8 : Int32) (l9 : Int32) (l10 : Int32) (l11 : Int32) (l12 : Int32) (x : St) (H : Heap) (locs : List Loc) (ls : Array Slot), (l1 < NN ∧ kcC l1 = 21) → (l4 < NN ∧ kcC l4 = 21) → j_V_compareValues_56 post rec56 l0 l1 l2 l4 l5 l7 l8 l9 l10 l11 l12 x → Wd dC dI cI cB cJ cZ ad stC kcC NN A x H → va_S A s.heap H locs → lv_has ls 13 [(0, .int l0), (1, .ref (ad l1)), (2, .long l2), (4, .ref (ad l4)), (5, .long l5), (7, .int l7), (8, .int l8), (9, .int l9), (10, .int l10), (11, .int l11), (12, .int l12)] → W p l e R s m args below meth c H locs cells slots Q (F0 m 56 ls []) := by
  intro l0 l1 l2 l4 l5 l7 l8 l9 l10 l11 l12 x H locs ls fl1 fl4 hw hW hS hl
  unfold j_V_compareValues_56 at hw
  refine lv_iload hx hb d_V_compareValues_56 (lv_at hl 10 rfl) ?_
  refine lv_iload hx hb d_V_compareValues_58 (lv_at hl 9 rfl) ?_
  refine lv_icmp_ge (tgt := 112) hx hb d_V_compareValues_60 (by decide) (fun c1 => ?_) (fun c1 => ?_)
  · have hw := hw.1 c1
    refine lv_iload hx hb d_V_compareValues_112 (lv_at hl 5 rfl) ?_
    refine lv_iload hx hb d_V_compareValues_114 (lv_at hl 6 rfl) ?_
    refine lv_isub hx hb d_V_compareValues_116 ?_
    exact hret (l7 - l8) x H locs 117 ls d_V_compareValues_117 hw hW hS
  · have hw := hw.2 c1
    refine lv_aload_n hx hb d_V_compareValues_63 rfl (lv_at hl 1 rfl) ?_
    refine lv_iload hx hb d_V_compareValues_64 (lv_at hl 7 rfl) ?_
    refine lv_iload hx hb d_V_compareValues_66 (lv_at hl 10 rfl) ?_
    refine lv_iadd hx hb d_V_compareValues_68 ?_
    obtain ⟨hi, hw⟩ := hw
    refine w_bald (o := l1) hx hb hK hW fl1.1 fl1.2 hi d_V_compareValues_69 ?_
    refine lv_aload hx hb d_V_compareValues_70 (lv_at hl 3 rfl) ?_
    refine lv_iload hx hb d_V_compareValues_72 (lv_at hl 8 rfl) ?_
    refine lv_iload hx hb d_V_compareValues_74 (lv_at hl 10 rfl) ?_
    refine lv_iadd hx hb d_V_compareValues_76 ?_
    obtain ⟨hi, hw⟩ := hw
    refine w_bald (o := l4) hx hb hK hW fl4.1 fl4.2 hi d_V_compareValues_77 ?_
    refine lv_icmp_eq (tgt := 106) hx hb d_V_compareValues_78 (by decide) (fun c2 => ?_) (fun c2 => ?_)
    · have hw := hw.1 c2
      refine lv_iinc (v := (l12 + 1)) (lv' := [(12, .int (l12 + 1)), (0, .int l0), (1, .ref (ad l1)), (2, .long l2), (4, .ref (ad l4)), (5, .long l5), (7, .int l7), (8, .int l8), (9, .int l9), (10, .int l10), (11, .int l11)]) hx hb d_V_compareValues_106 hl (k := 10) rfl rfl (by decide) rfl (fun ls hl => ?_)
      refine lv_goto (tgt := 56) hx hb d_V_compareValues_109 (by decide) ?_
      exact hrec56 l0 l1 l2 l4 l5 l7 l8 l9 l10 l11 (l12 + 1) x H locs ls fl1 fl4 hw hW hS (lv_sub hl [1, 2, 3, 4, 5, 6, 7, 8, 9, 10, 0] rfl)
    · have hw := hw.2 c2
      refine lv_aload_n hx hb d_V_compareValues_81 rfl (lv_at hl 1 rfl) ?_
      refine lv_iload hx hb d_V_compareValues_82 (lv_at hl 7 rfl) ?_
      refine lv_iload hx hb d_V_compareValues_84 (lv_at hl 10 rfl) ?_
      refine lv_iadd hx hb d_V_compareValues_86 ?_
      obtain ⟨hi, hw⟩ := hw
      refine w_bald (o := l1) hx hb hK hW fl1.1 fl1.2 hi d_V_compareValues_87 ?_
      refine lv_sipush (v := 255) hx hb d_V_compareValues_88 (by decide) ?_
      refine lv_iand hx hb d_V_compareValues_91 ?_
      refine lv_aload hx hb d_V_compareValues_92 (lv_at hl 3 rfl) ?_
      refine lv_iload hx hb d_V_compareValues_94 (lv_at hl 8 rfl) ?_
      refine lv_iload hx hb d_V_compareValues_96 (lv_at hl 10 rfl) ?_
      refine lv_iadd hx hb d_V_compareValues_98 ?_
      obtain ⟨hi, hw⟩ := hw
      refine w_bald (o := l4) hx hb hK hW fl4.1 fl4.2 hi d_V_compareValues_99 ?_
      refine lv_sipush (v := 255) hx hb d_V_compareValues_100 (by decide) ?_
      refine lv_iand hx hb d_V_compareValues_103 ?_
      refine lv_isub hx hb d_V_compareValues_104 ?_
      exact hret (((rA x l1 (l9 + l12)) &&& 255) - ((rA x l4 (l10 + l12)) &&& 255)) x H locs 105 ls d_V_compareValues_105 hw hW hS
set_option maxHeartbeats 4000000 in
set_option maxRecDepth 100000 in
theorem tl_V_compareValues_56 {p : Program} {l : Launch} {e : Env} {R : Room} {s : State} {m : MethodId} {args : Array Value} {below : List Frame} {meth : Method} {c : Code} {cells slots : Nat} {Q : State → Prop} {dC : Nat → ClassId} {dI : Nat → Nat → Nat} {cI cB cJ cZ : ClassId} {A : Nat → Prop} {ad : Nat → Nat} {NN : Nat} {E : Heap} {tM tC : Nat} {kK kV : Nat → Nat} {post : Int32 → St → Prop} (hx : p.tables.exec = Jvm.exec) (hb : c.code = b_V_compareValues) (hml : c.maxLocals = 13) (hown : s.vm.findClass R_V = some m.cls) (hT : ∀ w ∈ TG, w.before args s = true) (hK : va_K (dC, dI) CL (TY cI cB cJ cZ) s) (hN : NW s) (hA : ∀ q : Nat, s.heap.size ≤ q → A q) (hRc : cells ≤ R.cells) (hRs : slots ≤ R.slots) (hRf : 1 ≤ R.frames) (hRl : 80 ≤ R.locals) (hNN : 152 ≤ NN) (hE : CE E tM tC kK kV A s) (hret : ∀ (r : Int32) (x : St) (H : Heap) (locs : List Loc) (pc : Nat) (ls : Array Slot), decode b_V_compareValues pc = .ok (.ireturn, 1) → post r x → Wd dC dI cI cB cJ cZ ad stC kcC NN A x H → va_S A s.heap H locs → W p l e R s m args below meth c H locs cells slots Q (F0 m pc ls [.int r]))  : ∀ n : Nat, ∀ (l0 : Int32) (l1 : Nat) (l2 : Int64) (l4 : Nat) (l5 : Int64) (l7 : Int32) (l8 : Int32) (l9 : Int32) (l10 : Int32) (l11 : Int32) (l12 : Int32) (x : St) (H : Heap) (locs : List Loc) (ls : Array Slot), (l1 < NN ∧ kcC l1 = 21) → (l4 < NN ∧ kcC l4 = 21) → wl_V_compareValues_56 post n l0 l1 l2 l4 l5 l7 l8 l9 l10 l11 l12 x → Wd dC dI cI cB cJ cZ ad stC kcC NN A x H → va_S A s.heap H locs → lv_has ls 13 [(0, .int l0), (1, .ref (ad l1)), (2, .long l2), (4, .ref (ad l4)), (5, .long l5), (7, .int l7), (8, .int l8), (9, .int l9), (10, .int l10), (11, .int l11), (12, .int l12)] → W p l e R s m args below meth c H locs cells slots Q (F0 m 56 ls []) := by
  intro n
  induction n with
  | zero => intro l0 l1 l2 l4 l5 l7 l8 l9 l10 l11 l12 x H locs ls fl1 fl4 hw; exact hw.elim
  | succ n ih => intro l0 l1 l2 l4 l5 l7 l8 l9 l10 l11 l12 x H locs ls fl1 fl4 hw hW hS hl; exact t_V_compareValues_56 hx hb hml hown hT hK hN hA hRc hRs hRf hRl hNN hE hret  ih l0 l1 l2 l4 l5 l7 l8 l9 l10 l11 l12 x H locs ls fl1 fl4 hw hW hS hl
set_option maxRecDepth 100000 in
set_option maxHeartbeats 4000000 in
set_option maxRecDepth 100000 in
theorem t_V_compareValues_e {p : Program} {l : Launch} {e : Env} {R : Room} {s : State} {m : MethodId} {args : Array Value} {below : List Frame} {meth : Method} {c : Code} {cells slots : Nat} {Q : State → Prop} {dC : Nat → ClassId} {dI : Nat → Nat → Nat} {cI cB cJ cZ : ClassId} {A : Nat → Prop} {ad : Nat → Nat} {NN : Nat} {E : Heap} {tM tC : Nat} {kK kV : Nat → Nat} {post : Int32 → St → Prop} (hx : p.tables.exec = Jvm.exec) (hb : c.code = b_V_compareValues) (hml : c.maxLocals = 13) (hown : s.vm.findClass R_V = some m.cls) (hT : ∀ w ∈ TG, w.before args s = true) (hK : va_K (dC, dI) CL (TY cI cB cJ cZ) s) (hN : NW s) (hA : ∀ q : Nat, s.heap.size ≤ q → A q) (hRc : cells ≤ R.cells) (hRs : slots ≤ R.slots) (hRf : 1 ≤ R.frames) (hRl : 80 ≤ R.locals) (hNN : 152 ≤ NN) (hE : CE E tM tC kK kV A s) (hret : ∀ (r : Int32) (x : St) (H : Heap) (locs : List Loc) (pc : Nat) (ls : Array Slot), decode b_V_compareValues pc = .ok (.ireturn, 1) → post r x → Wd dC dI cI cB cJ cZ ad stC kcC NN A x H → va_S A s.heap H locs → W p l e R s m args below meth c H locs cells slots Q (F0 m pc ls [.int r])) : ∀ (l0 : Int32) (l1 : Nat) (l2 : Int64) (l4 : Nat) (l5 : Int64) (x : St) (H : Heap) (locs : List Loc) (ls : Array Slot), (l1 < NN ∧ kcC l1 = 21) → (l4 < NN ∧ kcC l4 = 21) → wp_V_compareValues post l0 l1 l2 l4 l5 x → Wd dC dI cI cB cJ cZ ad stC kcC NN A x H → va_S A s.heap H locs → lv_has ls 13 [(0, .int l0), (1, .ref (ad l1)), (2, .long l2), (4, .ref (ad l4)), (5, .long l5)] → W p l e R s m args below meth c H locs cells slots Q (F0 m 0 ls []) := by
  intro l0 l1 l2 l4 l5 x H locs ls fl1 fl4 hw hW hS hl
  unfold wp_V_compareValues at hw
  refine lv_iload_n hx hb d_V_compareValues_0 rfl (lv_at hl 0 rfl) ?_
  refine lv_iconst (v := 3) hx hb d_V_compareValues_1 (by decide) ?_
  refine lv_icmp_eq (tgt := 12) hx hb d_V_compareValues_2 (by decide) (fun c3 => ?_) (fun c3 => ?_)
  · have hw := hw.1 c3
    refine lv_lload_n hx hb d_V_compareValues_12 rfl (lv_at hl 2 rfl) ?_
    refine lv_ldc2 hx hb hown (hT _ w_5_162) d_V_compareValues_13 ?_
    refine lv_land hx hb d_V_compareValues_16 ?_
    refine lv_l2i hx hb d_V_compareValues_17 rfl ?_
    refine lv_topi (fun v4 ev4 => ?_)
    have hw := hw v4 ev4
    refine lv_istore (lv' := [(7, .int v4), (0, .int l0), (1, .ref (ad l1)), (2, .long l2), (4, .ref (ad l4)), (5, .long l5)]) hx hb d_V_compareValues_18 hl (by decide) rfl (fun ls hl => ?_)
    refine lv_lload hx hb d_V_compareValues_20 (lv_at hl 5 rfl) ?_
    refine lv_ldc2 hx hb hown (hT _ w_5_162) d_V_compareValues_22 ?_
    refine lv_land hx hb d_V_compareValues_25 ?_
    refine lv_l2i hx hb d_V_compareValues_26 rfl ?_
    refine lv_topi (fun v5 ev5 => ?_)
    have hw := hw v5 ev5
    refine lv_istore (lv' := [(8, .int v5), (7, .int v4), (0, .int l0), (1, .ref (ad l1)), (2, .long l2), (4, .ref (ad l4)), (5, .long l5)]) hx hb d_V_compareValues_27 hl (by decide) rfl (fun ls hl => ?_)
    refine lv_lload_n hx hb d_V_compareValues_29 rfl (lv_at hl 4 rfl) ?_
    refine lv_bipush (v := 8) hx hb d_V_compareValues_30 (by decide) ?_
    refine lv_lshr hx hb d_V_compareValues_32 rfl ?_
    refine lv_l2i hx hb d_V_compareValues_33 rfl ?_
    refine lv_topi (fun v6 ev6 => ?_)
    have hw := hw v6 ev6
    refine lv_istore (lv' := [(9, .int v6), (8, .int v5), (7, .int v4), (0, .int l0), (1, .ref (ad l1)), (2, .long l2), (4, .ref (ad l4)), (5, .long l5)]) hx hb d_V_compareValues_34 hl (by decide) rfl (fun ls hl => ?_)
    refine lv_lload hx hb d_V_compareValues_36 (lv_at hl 7 rfl) ?_
    refine lv_bipush (v := 8) hx hb d_V_compareValues_38 (by decide) ?_
    refine lv_lshr hx hb d_V_compareValues_40 rfl ?_
    refine lv_l2i hx hb d_V_compareValues_41 rfl ?_
    refine lv_topi (fun v7 ev7 => ?_)
    have hw := hw v7 ev7
    refine lv_istore (lv' := [(10, .int v7), (9, .int v6), (8, .int v5), (7, .int v4), (0, .int l0), (1, .ref (ad l1)), (2, .long l2), (4, .ref (ad l4)), (5, .long l5)]) hx hb d_V_compareValues_42 hl (by decide) rfl (fun ls hl => ?_)
    refine lv_iload hx hb d_V_compareValues_44 (lv_at hl 3 rfl) ?_
    refine lv_iload hx hb d_V_compareValues_46 (lv_at hl 2 rfl) ?_
    refine va_mmin hx hb (hml.trans hl.1.symm) hown (hT _ w_5_146) (hT _ w_1_38) (hT _ w_1_3) (hT _ w_1_39) (Nat.le_trans (by decide) hRf) (Nat.le_trans (Nat.le_of_ble_eq_true rfl) hRl) hRc hRs d_V_compareValues_48 ?_
    refine lv_topi (fun v8 ev8 => ?_)
    have hw := hw v8 ev8
    refine lv_istore (lv' := [(11, .int v8), (10, .int v7), (9, .int v6), (8, .int v5), (7, .int v4), (0, .int l0), (1, .ref (ad l1)), (2, .long l2), (4, .ref (ad l4)), (5, .long l5)]) hx hb d_V_compareValues_51 hl (by decide) rfl (fun ls hl => ?_)
    refine lv_iconst (v := 0) hx hb d_V_compareValues_53 (by decide) ?_
    refine lv_istore (lv' := [(12, .int 0), (11, .int v8), (10, .int v7), (9, .int v6), (8, .int v5), (7, .int v4), (0, .int l0), (1, .ref (ad l1)), (2, .long l2), (4, .ref (ad l4)), (5, .long l5)]) hx hb d_V_compareValues_54 hl (by decide) rfl (fun ls hl => ?_)
    obtain ⟨n, hw⟩ := hw
    exact tl_V_compareValues_56 hx hb hml hown hT hK hN hA hRc hRs hRf hRl hNN hE hret  n l0 l1 l2 l4 l5 v4 v5 v6 v7 v8 0 x H locs ls fl1 fl4 hw hW hS (lv_sub hl [6, 7, 8, 9, 10, 5, 4, 3, 2, 1, 0] rfl)
  · have hw := hw.2 c3
    refine lv_lload_n hx hb d_V_compareValues_5 rfl (lv_at hl 2 rfl) ?_
    refine lv_lload hx hb d_V_compareValues_6 (lv_at hl 4 rfl) ?_
    have hF := hW.free hS hA
    refine va_calli (va_runS (As := [.long l2, .long l5]) (rest := []) ⟨hx, hb, hml, hown, hT⟩ (k_JLong_compare l dC dI cI cB cJ cZ ad NN E tM tC kK kV hNN H.size l2 l5 x  hw) ⟨callB_of 2 hT (gwt_in w_5_228) rfl rfl rfl (hT _ w_1_21) (hT _ w_5_226) (by decide +kernel) ⟨Nat.le_trans (Nat.le_of_ble_eq_true rfl) hRf, Nat.le_trans (Nat.le_of_ble_eq_true rfl) hRl⟩, hT _ w_5_227⟩ ⟨PVc.blind, PVc.at _ hW hK hN hE hS hF⟩ rfl rfl hl.1 rfl (lv_room (Nat.le_of_ble_eq_true rfl)) d_V_compareValues_8 ⟨hRc, hRs⟩) hS (fun q _ h => hF q h) hF (fun r10 x9 t H locs ht hvm hw hB hz1 hk1 hS => ?_)
    have hW := Wd.back hB ht hF
    clear hB ht hF hz1 hk1 hvm
    exact hret r10 x9 H locs 11 ls d_V_compareValues_11 hw hW hS
set_option maxHeartbeats 4000000 in
set_option maxRecDepth 100000 in
theorem k_V_compareValues (l : Launch) (dC : Nat → ClassId) (dI : Nat → Nat → Nat) (cI cB cJ cZ : ClassId) (ad : Nat → Nat) (NN : Nat) (E : Heap) (tM tC : Nat) (kK kV : Nat → Nat) (hNN : 152 ≤ NN) (sz : Nat) (l0 : Int32) (l1 : Nat) (l2 : Int64) (l4 : Nat) (l5 : Int64) (x : St) (fl1 : l1 < NN ∧ kcC l1 = 21) (fl4 : l4 < NN ∧ kcC l4 = 21) {post : Int32 → St → Prop} (hw : wp_V_compareValues post l0 l1 l2 l4 l5 x) : Met l y_V_compareValues (wsOf y_V_compareValues b_V_compareValues 13 (some (.int))) ({ frames := 1, cells := 0, slots := 0, locals := 80 }) (va_Pc [.int l0, .ref (ad l1), .long l2, .ref (ad l4), .long l5] (PVc dC dI cI cB cJ cZ ad stC kcC NN E tM tC kK kV sz x)) (va_Qi (fun (r : Int32) (y : St) => post r y) (fun y t => Wd dC dI cI cB cJ cZ ad stC kcC NN (va_A (pic ad stC kcC NN cI cB cJ cZ x) sz) y t.heap) (va_A (pic ad stC kcC NN cI cB cJ cZ x) sz)) 0 0 (va_A (pic ad stC kcC NN cI cB cJ cZ x) sz) := by
  refine Met.ofW (cc := b_V_compareValues) (maxL := 13) (ret := some (.int)) (by decide) rfl ?_
  intro p e s m args below meth c s₁ B hml hv
  obtain ⟨rfl, ⟨hsz, hW0, hK, hN⟩, hE⟩ := hv
  have hx := B.exec
  have hb := B.bytes
  have hr := B.returns
  have hts := atoms_spec B.pre
  have hT : ∀ w ∈ TG, w.before _ s = true := fun w h => hts w (List.mem_cons_of_mem _ h)
  have hown : s.vm.findClass R_V = some m.cls := findClass_of_methodNamed B.named
  have hlocks := B.notSynchronized
  subst hsz
  have hW : Wd dC dI cI cB cJ cZ ad stC kcC NN (va_A (pic ad stC kcC NN cI cB cJ cZ x) s.heap.size) x s.heap := ⟨hW0.1, hW0.2.1.self (sz := s.heap.size), hW0.2.2⟩
  generalize hAe : va_A (pic ad stC kcC NN cI cB cJ cZ x) s.heap.size = A at hW hE ⊢
  have hA : ∀ q : Nat, s.heap.size ≤ q → A q := fun q h => by rw [← hAe]; exact Or.inr h
  have hS : va_S A s.heap s.heap [] := va_S.rf
  have hl := lv_entry ([.int l0, .ref (ad l1), .long l2, .ref (ad l4), .long l5]) (n := 13) (Nat.le_of_ble_eq_true rfl)
  rw [lg_entry_eq]
  generalize (lg_sl ([.int l0, .ref (ad l1), .long l2, .ref (ad l4), .long l5]) ++ List.replicate (13 - (lg_sl ([.int l0, .ref (ad l1), .long l2, .ref (ad l4), .long l5])).length) Slot.unset).toArray = ls at hl ⊢
  have hl : lv_has ls 13 [(0, .int l0), (1, .ref (ad l1)), (2, .long l2), (4, .ref (ad l4)), (5, .long l5)] := hl
  exact t_V_compareValues_e hx hb hml hown hT hK hN hA (Nat.le_refl 0) (Nat.le_refl 0) (Nat.le_refl 1) (Nat.le_refl 80) hNN hE (fun r x H locs pc ls hd hp hW hS => W.iret (v := r) hx hb hr (fun t ht hM => ⟨⟨r, x, rfl, hp, Wd.back hW ht.symm (fun _ z => z)⟩, hS.F ht⟩) hS.2.2 hd hlocks)  l0 l1 l2 l4 l5 x _ _ ls fl1 fl4 hw hW hS hl
set_option maxRecDepth 100000 in
set_option maxHeartbeats 4000000 in
set_option maxRecDepth 100000 in
theorem t_Wrt_slotOf_88 {p : Program} {l : Launch} {e : Env} {R : Room} {s : State} {m : MethodId} {args : Array Value} {below : List Frame} {meth : Method} {c : Code} {cells slots : Nat} {Q : State → Prop} {dC : Nat → ClassId} {dI : Nat → Nat → Nat} {cI cB cJ cZ : ClassId} {A : Nat → Prop} {ad : Nat → Nat} {NN : Nat} {E : Heap} {tM tC : Nat} {kK kV : Nat → Nat} {post : Int32 → St → Prop} (hx : p.tables.exec = Jvm.exec) (hb : c.code = b_Wrt_slotOf) (hml : c.maxLocals = 7) (hown : s.vm.findClass R_Wrt = some m.cls) (hT : ∀ w ∈ TG, w.before args s = true) (hK : va_K (dC, dI) CL (TY cI cB cJ cZ) s) (hN : NW s) (hA : ∀ q : Nat, s.heap.size ≤ q → A q) (hRc : cells ≤ R.cells) (hRs : slots ≤ R.slots) (hRf : 2 ≤ R.frames) (hRl : 112 ≤ R.locals) (hNN : 152 ≤ NN) (hE : CE E tM tC kK kV A s) (hret : ∀ (r : Int32) (x : St) (H : Heap) (locs : List Loc) (pc : Nat) (ls : Array Slot), decode b_Wrt_slotOf pc = .ok (.ireturn, 1) → post r x → Wd dC dI cI cB cJ cZ ad stC kcC NN A x H → va_S A s.heap H locs → W p l e R s m args below meth c H locs cells slots Q (F0 m pc ls [.int r]))  : ∀ (o : Nat) (l1 : Int32) (l2 : Int64) (l4 : Nat) (l5 : Int32) (l6 : Int32) (x : St) (H : Heap) (locs : List Loc) (ls : Array Slot), (o < NN ∧ kcC o = 5) → (l4 < NN ∧ kcC l4 = 21) → j_Wrt_slotOf_88 post o l1 l2 l4 l5 l6 x → Wd dC dI cI cB cJ cZ ad stC kcC NN A x H → va_S A s.heap H locs → lv_has ls 7 [(0, .ref (ad o)), (1, .int l1), (2, .long l2), (4, .ref (ad l4)), (5, .int l5), (6, .int l6)] → W p l e R s m args below meth c H locs cells slots Q (F0 m 88 ls []) := by
  intro o l1 l2 l4 l5 l6 x H locs ls fo fl4 hw hW hS hl
  unfold j_Wrt_slotOf_88 at hw
  refine lv_iload hx hb d_Wrt_slotOf_88 (lv_at hl 4 rfl) ?_
  exact hret l5 x H locs 90 ls d_Wrt_slotOf_90 hw hW hS
set_option maxRecDepth 100000 in
set_option maxHeartbeats 4000000 in
set_option maxRecDepth 100000 in
theorem t_Wrt_slotOf_25 {p : Program} {l : Launch} {e : Env} {R : Room} {s : State} {m : MethodId} {args : Array Value} {below : List Frame} {meth : Method} {c : Code} {cells slots : Nat} {Q : State → Prop} {dC : Nat → ClassId} {dI : Nat → Nat → Nat} {cI cB cJ cZ : ClassId} {A : Nat → Prop} {ad : Nat → Nat} {NN : Nat} {E : Heap} {tM tC : Nat} {kK kV : Nat → Nat} {post : Int32 → St → Prop} {rec25 : Nat → Int32 → Int64 → Nat → Int32 → Int32 → St → Prop} (hx : p.tables.exec = Jvm.exec) (hb : c.code = b_Wrt_slotOf) (hml : c.maxLocals = 7) (hown : s.vm.findClass R_Wrt = some m.cls) (hT : ∀ w ∈ TG, w.before args s = true) (hK : va_K (dC, dI) CL (TY cI cB cJ cZ) s) (hN : NW s) (hA : ∀ q : Nat, s.heap.size ≤ q → A q) (hRc : cells ≤ R.cells) (hRs : slots ≤ R.slots) (hRf : 2 ≤ R.frames) (hRl : 112 ≤ R.locals) (hNN : 152 ≤ NN) (hE : CE E tM tC kK kV A s) (hret : ∀ (r : Int32) (x : St) (H : Heap) (locs : List Loc) (pc : Nat) (ls : Array Slot), decode b_Wrt_slotOf pc = .ok (.ireturn, 1) → post r x → Wd dC dI cI cB cJ cZ ad stC kcC NN A x H → va_S A s.heap H locs → W p l e R s m args below meth c H locs cells slots Q (F0 m pc ls [.int r])) (hrec25 : ∀ (o : Nat) (l1 : Int32) (l2 : Int64) (l4 : Nat) (l5 : Int32) (l6 : Int32) (x : St) (H : Heap) (locs : List Loc) (ls : Array Slot), (o < NN ∧ kcC o = 5) → (l4 < NN ∧ kcC l4 = 21) → rec25 o l1 l2 l4 l5 l6 x → Wd dC dI cI cB cJ cZ ad stC kcC NN A x H → va_S A s.heap H locs → lv_has ls 7 [(0, .ref (ad o)), (1, .int l1), (2, .long l2), (4, .ref (ad l4)), (5, .int l5), (6, .int l6)] → W p l e R s m args below meth c H locs cells slots Q (F0 m 25 ls [])) : ∀ (o : Nat) (l1 : Int32) (l2 : Int64) (l4 : Nat) (l5 : Int32) (l6 : Int32) (x : St) (H : Heap) (locs : List Loc) (ls : Array Slot), (o < NN ∧ kcC o = 5) → (l4 < NN ∧ kcC l4 = 21) → j_Wrt_slotOf_25 post rec25 o l1 l2 l4 l5 l6 x → Wd dC dI cI cB cJ cZ ad stC kcC NN A x H → va_S A s.heap H locs → lv_has ls 7 [(0, .ref (ad o)), (1, .int l1), (2, .long l2), (4, .ref (ad l4)), (5, .int l5), (6, .int l6)] → W p l e R s m args below meth c H locs cells slots Q (F0 m 25 ls []) := by
  intro o l1 l2 l4 l5 l6 x H locs ls fo fl4 hw hW hS hl
  unfold j_Wrt_slotOf_25 at hw
  refine lv_iload hx hb d_Wrt_slotOf_25 (lv_at hl 5 rfl) ?_
  refine lv_sipush (v := 2048) hx hb d_Wrt_slotOf_27 (by decide) ?_
  refine lv_icmp_ge (tgt := 88) hx hb d_Wrt_slotOf_30 (by decide) (fun c1 => ?_) (fun c1 => ?_)
  · have hw := hw.1 c1
    exact t_Wrt_slotOf_88 hx hb hml hown hT hK hN hA hRc hRs hRf hRl hNN hE hret  o l1 l2 l4 l5 l6 x H locs ls fo fl4 hw hW hS (lv_sub hl [0, 1, 2, 3, 4, 5] rfl)
  · have hw := hw.2 c1
    refine lv_aload_n hx hb d_Wrt_slotOf_33 rfl (lv_at hl 0 rfl) ?_
    refine w_getf (q := (stC o 18)) (k := 18) (t := 5) (C := R_Wrt) (T := F_Wrt) (N := 20) hx hb hT hown hK hW fo.1 fo.2 (by decide) in_Wrt rfl rfl (by decide) rfl fr_Wrt_18 w_2_69 d_Wrt_slotOf_34 rfl ?_
    refine lv_iload hx hb d_Wrt_slotOf_37 (lv_at hl 4 rfl) ?_
    obtain ⟨hi, hw⟩ := hw
    refine w_iald (o := (stC o 18)) hx hb hK hW (st_ty hNN fo.1 fo.2 rfl).1 (st_ty hNN fo.1 fo.2 rfl).2 hi d_Wrt_slotOf_39 ?_
    refine lv_if_eq (tgt := 88) hx hb d_Wrt_slotOf_40 (by decide) (fun c2 => ?_) (fun c2 => ?_)
    · have hw := hw.1 c2
      exact t_Wrt_slotOf_88 hx hb hml hown hT hK hN hA hRc hRs hRf hRl hNN hE hret  o l1 l2 l4 l5 l6 x H locs ls fo fl4 hw hW hS (lv_sub hl [0, 1, 2, 3, 4, 5] rfl)
    · have hw := hw.2 c2
      refine lv_iload_n hx hb d_Wrt_slotOf_43 rfl (lv_at hl 1 rfl) ?_
      refine lv_aload hx hb d_Wrt_slotOf_44 (lv_at hl 3 rfl) ?_
      refine lv_aload_n hx hb d_Wrt_slotOf_46 rfl (lv_at hl 0 rfl) ?_
      refine w_getf (q := (stC o 17)) (k := 17) (t := 5) (C := R_Wrt) (T := F_Wrt) (N := 20) hx hb hT hown hK hW fo.1 fo.2 (by decide) in_Wrt rfl rfl (by decide) rfl fr_Wrt_17 w_2_68 d_Wrt_slotOf_47 rfl ?_
      refine lv_aload_n hx hb d_Wrt_slotOf_50 rfl (lv_at hl 0 rfl) ?_
      refine w_getf (q := (stC o 18)) (k := 18) (t := 5) (C := R_Wrt) (T := F_Wrt) (N := 20) hx hb hT hown hK hW fo.1 fo.2 (by decide) in_Wrt rfl rfl (by decide) rfl fr_Wrt_18 w_2_69 d_Wrt_slotOf_51 rfl ?_
      refine lv_iload hx hb d_Wrt_slotOf_54 (lv_at hl 4 rfl) ?_
      obtain ⟨hi, hw⟩ := hw
      refine w_iald (o := (stC o 18)) hx hb hK hW (st_ty hNN fo.1 fo.2 rfl).1 (st_ty hNN fo.1 fo.2 rfl).2 hi d_Wrt_slotOf_56 ?_
      refine lv_iconst (v := 1) hx hb d_Wrt_slotOf_57 (by decide) ?_
      refine lv_isub hx hb d_Wrt_slotOf_58 ?_
      obtain ⟨hi, hw⟩ := hw
      refine w_lald (o := (stC o 17)) hx hb hK hW (st_ty hNN fo.1 fo.2 rfl).1 (st_ty hNN fo.1 fo.2 rfl).2 hi d_Wrt_slotOf_59 ?_
      refine lv_aload hx hb d_Wrt_slotOf_60 (lv_at hl 3 rfl) ?_
      refine lv_lload_n hx hb d_Wrt_slotOf_62 rfl (lv_at hl 2 rfl) ?_
      have hF := hW.free hS hA
      refine va_calli (va_runSN (As := [.int l1, .ref (ad l4), .long (rL x (stC o 17) ((rA x (stC o 18) l5) - 1)), .ref (ad l4), .long l2]) (rest := []) ⟨hx, hb, hml, hown, hT⟩ (k_V_compareValues l dC dI cI cB cJ cZ ad NN E tM tC kK kV hNN H.size l1 l4 (rL x (stC o 17) ((rA x (stC o 18) l5) - 1)) l4 l2 x fl4 fl4 hw) ⟨va_cnB 5 hT (gwt_in w_5_225) rfl rfl rfl (hN _ wn_5_223 rfl) (hT _ w_1_1) (by decide +kernel) ⟨Nat.le_trans (Nat.le_of_ble_eq_true rfl) hRf, Nat.le_trans (Nat.le_of_ble_eq_true rfl) hRl⟩, hT _ w_5_224, trivial⟩ ⟨PVc.blind, PVc.at _ hW hK hN hE hS hF⟩ rfl rfl hl.1 rfl (lv_room (Nat.le_of_ble_eq_true rfl)) d_Wrt_slotOf_63 ⟨hRc, hRs⟩) hS (fun q _ h => hF q h) hF (fun r4 x3 t H locs ht hvm hw hB hz1 hk1 hS => ?_)
      have hW := Wd.back hB ht hF
      clear hB ht hF hz1 hk1 hvm
      refine lv_if_ne (tgt := 72) hx hb d_Wrt_slotOf_66 (by decide) (fun c5 => ?_) (fun c5 => ?_)
      · have hw := hw.1 c5
        refine lv_iload hx hb d_Wrt_slotOf_72 (lv_at hl 4 rfl) ?_
        refine lv_iconst (v := 1) hx hb d_Wrt_slotOf_74 (by decide) ?_
        refine lv_iadd hx hb d_Wrt_slotOf_75 ?_
        refine lv_sipush (v := 2047) hx hb d_Wrt_slotOf_76 (by decide) ?_
        refine lv_iand hx hb d_Wrt_slotOf_79 ?_
        refine lv_topi (fun v6 ev6 => ?_)
        have hw := hw v6 ev6
        refine lv_istore (lv' := [(5, .int v6), (0, .ref (ad o)), (1, .int l1), (2, .long l2), (4, .ref (ad l4)), (6, .int l6)]) hx hb d_Wrt_slotOf_80 hl (by decide) rfl (fun ls hl => ?_)
        refine lv_iinc (v := (l6 + 1)) (lv' := [(6, .int (l6 + 1)), (5, .int v6), (0, .ref (ad o)), (1, .int l1), (2, .long l2), (4, .ref (ad l4))]) hx hb d_Wrt_slotOf_82 hl (k := 5) rfl rfl (by decide) rfl (fun ls hl => ?_)
        refine lv_goto (tgt := 25) hx hb d_Wrt_slotOf_85 (by decide) ?_
        exact hrec25 o l1 l2 l4 v6 (l6 + 1) x3 H locs ls fo fl4 hw hW hS (lv_sub hl [2, 3, 4, 5, 1, 0] rfl)
      · have hw := hw.2 c5
        refine lv_iload hx hb d_Wrt_slotOf_69 (lv_at hl 4 rfl) ?_
        exact hret l5 x3 H locs 71 ls d_Wrt_slotOf_71 hw hW hS
set_option maxHeartbeats 4000000 in
set_option maxRecDepth 100000 in
theorem tl_Wrt_slotOf_25 {p : Program} {l : Launch} {e : Env} {R : Room} {s : State} {m : MethodId} {args : Array Value} {below : List Frame} {meth : Method} {c : Code} {cells slots : Nat} {Q : State → Prop} {dC : Nat → ClassId} {dI : Nat → Nat → Nat} {cI cB cJ cZ : ClassId} {A : Nat → Prop} {ad : Nat → Nat} {NN : Nat} {E : Heap} {tM tC : Nat} {kK kV : Nat → Nat} {post : Int32 → St → Prop} (hx : p.tables.exec = Jvm.exec) (hb : c.code = b_Wrt_slotOf) (hml : c.maxLocals = 7) (hown : s.vm.findClass R_Wrt = some m.cls) (hT : ∀ w ∈ TG, w.before args s = true) (hK : va_K (dC, dI) CL (TY cI cB cJ cZ) s) (hN : NW s) (hA : ∀ q : Nat, s.heap.size ≤ q → A q) (hRc : cells ≤ R.cells) (hRs : slots ≤ R.slots) (hRf : 2 ≤ R.frames) (hRl : 112 ≤ R.locals) (hNN : 152 ≤ NN) (hE : CE E tM tC kK kV A s) (hret : ∀ (r : Int32) (x : St) (H : Heap) (locs : List Loc) (pc : Nat) (ls : Array Slot), decode b_Wrt_slotOf pc = .ok (.ireturn, 1) → post r x → Wd dC dI cI cB cJ cZ ad stC kcC NN A x H → va_S A s.heap H locs → W p l e R s m args below meth c H locs cells slots Q (F0 m pc ls [.int r]))  : ∀ n : Nat, ∀ (o : Nat) (l1 : Int32) (l2 : Int64) (l4 : Nat) (l5 : Int32) (l6 : Int32) (x : St) (H : Heap) (locs : List Loc) (ls : Array Slot), (o < NN ∧ kcC o = 5) → (l4 < NN ∧ kcC l4 = 21) → wl_Wrt_slotOf_25 post n o l1 l2 l4 l5 l6 x → Wd dC dI cI cB cJ cZ ad stC kcC NN A x H → va_S A s.heap H locs → lv_has ls 7 [(0, .ref (ad o)), (1, .int l1), (2, .long l2), (4, .ref (ad l4)), (5, .int l5), (6, .int l6)] → W p l e R s m args below meth c H locs cells slots Q (F0 m 25 ls []) := by
  intro n
  induction n with
  | zero => intro o l1 l2 l4 l5 l6 x H locs ls fo fl4 hw; exact hw.elim
  | succ n ih => intro o l1 l2 l4 l5 l6 x H locs ls fo fl4 hw hW hS hl; exact t_Wrt_slotOf_25 hx hb hml hown hT hK hN hA hRc hRs hRf hRl hNN hE hret  ih o l1 l2 l4 l5 l6 x H locs ls fo fl4 hw hW hS hl
set_option maxRecDepth 100000 in
set_option maxHeartbeats 4000000 in
set_option maxRecDepth 100000 in
theorem t_Wrt_slotOf_e {p : Program} {l : Launch} {e : Env} {R : Room} {s : State} {m : MethodId} {args : Array Value} {below : List Frame} {meth : Method} {c : Code} {cells slots : Nat} {Q : State → Prop} {dC : Nat → ClassId} {dI : Nat → Nat → Nat} {cI cB cJ cZ : ClassId} {A : Nat → Prop} {ad : Nat → Nat} {NN : Nat} {E : Heap} {tM tC : Nat} {kK kV : Nat → Nat} {post : Int32 → St → Prop} (hx : p.tables.exec = Jvm.exec) (hb : c.code = b_Wrt_slotOf) (hml : c.maxLocals = 7) (hown : s.vm.findClass R_Wrt = some m.cls) (hT : ∀ w ∈ TG, w.before args s = true) (hK : va_K (dC, dI) CL (TY cI cB cJ cZ) s) (hN : NW s) (hA : ∀ q : Nat, s.heap.size ≤ q → A q) (hRc : cells ≤ R.cells) (hRs : slots ≤ R.slots) (hRf : 2 ≤ R.frames) (hRl : 112 ≤ R.locals) (hNN : 152 ≤ NN) (hE : CE E tM tC kK kV A s) (hret : ∀ (r : Int32) (x : St) (H : Heap) (locs : List Loc) (pc : Nat) (ls : Array Slot), decode b_Wrt_slotOf pc = .ok (.ireturn, 1) → post r x → Wd dC dI cI cB cJ cZ ad stC kcC NN A x H → va_S A s.heap H locs → W p l e R s m args below meth c H locs cells slots Q (F0 m pc ls [.int r])) : ∀ (o : Nat) (l1 : Int32) (l2 : Int64) (x : St) (H : Heap) (locs : List Loc) (ls : Array Slot), (o < NN ∧ kcC o = 5) → wp_Wrt_slotOf post o l1 l2 x → Wd dC dI cI cB cJ cZ ad stC kcC NN A x H → va_S A s.heap H locs → lv_has ls 7 [(0, .ref (ad o)), (1, .int l1), (2, .long l2)] → W p l e R s m args below meth c H locs cells slots Q (F0 m 0 ls []) := by
  intro o l1 l2 x H locs ls fo hw hW hS hl
  unfold wp_Wrt_slotOf at hw
  refine lv_aload_n hx hb d_Wrt_slotOf_0 rfl (lv_at hl 0 rfl) ?_
  obtain ⟨q7, hq7, hw⟩ := hw
  refine w_getr (q := q7) (k := 6) (t := 5) (C := R_Wrt) (T := F_Wrt) (N := 20) hx hb hT hown hK hW fo.1 fo.2 (by decide) in_Wrt rfl rfl (by decide) rfl fr_Wrt_6 w_2_57 d_Wrt_slotOf_1 hq7 (fun aq7 bq7 => ?_)
  have fq7 : q7 < NN ∧ kcC q7 = 4 := ⟨aq7, bq7⟩
  refine w_getf (q := (stC q7 12)) (k := 12) (t := 4) (C := R_Rec) (T := F_Rec) (N := 15) hx hb hT hown hK hW fq7.1 fq7.2 (by decide) in_Rec rfl rfl (by decide) rfl fr_Rec_12 w_2_7 d_Wrt_slotOf_4 rfl ?_
  refine lv_astore (lv' := [(4, .ref (ad (stC q7 12))), (0, .ref (ad o)), (1, .int l1), (2, .long l2)]) hx hb d_Wrt_slotOf_7 hl (by decide) rfl (fun ls hl => ?_)
  refine lv_iload_n hx hb d_Wrt_slotOf_9 rfl (lv_at hl 2 rfl) ?_
  refine lv_aload hx hb d_Wrt_slotOf_10 (lv_at hl 0 rfl) ?_
  refine lv_lload_n hx hb d_Wrt_slotOf_12 rfl (lv_at hl 3 rfl) ?_
  have hF := hW.free hS hA
  refine va_calli (va_runSN (As := [.int l1, .ref (ad (stC q7 12)), .long l2]) (rest := []) ⟨hx, hb, hml, hown, hT⟩ (k_V_hashOf l dC dI cI cB cJ cZ ad NN E tM tC kK kV hNN H.size l1 (stC q7 12) l2 x (st_ty hNN fq7.1 fq7.2 rfl) hw) ⟨va_cnB 3 hT (gwt_in w_5_221) rfl rfl rfl (hN _ wn_5_219 rfl) (hT _ w_1_1) (by decide +kernel) ⟨Nat.le_trans (Nat.le_of_ble_eq_true rfl) hRf, Nat.le_trans (Nat.le_of_ble_eq_true rfl) hRl⟩, hT _ w_5_220, trivial⟩ ⟨PVc.blind, PVc.at _ hW hK hN hE hS hF⟩ rfl rfl hl.1 rfl (lv_room (Nat.le_of_ble_eq_true rfl)) d_Wrt_slotOf_13 ⟨hRc, hRs⟩) hS (fun q _ h => hF q h) hF (fun r9 x8 t H locs ht hvm hw hB hz1 hk1 hS => ?_)
  have hW := Wd.back hB ht hF
  clear hB ht hF hz1 hk1 hvm
  refine lv_sipush (v := 2047) hx hb d_Wrt_slotOf_16 (by decide) ?_
  refine lv_iand hx hb d_Wrt_slotOf_19 ?_
  refine lv_topi (fun v10 ev10 => ?_)
  have hw := hw v10 ev10
  refine lv_istore (lv' := [(5, .int v10), (4, .ref (ad (stC q7 12))), (0, .ref (ad o)), (1, .int l1), (2, .long l2)]) hx hb d_Wrt_slotOf_20 hl (by decide) rfl (fun ls hl => ?_)
  refine lv_iconst (v := 0) hx hb d_Wrt_slotOf_22 (by decide) ?_
  refine lv_istore (lv' := [(6, .int 0), (5, .int v10), (4, .ref (ad (stC q7 12))), (0, .ref (ad o)), (1, .int l1), (2, .long l2)]) hx hb d_Wrt_slotOf_23 hl (by decide) rfl (fun ls hl => ?_)
  obtain ⟨n, hw⟩ := hw
  exact tl_Wrt_slotOf_25 hx hb hml hown hT hK hN hA hRc hRs hRf hRl hNN hE hret  n o l1 l2 (stC q7 12) v10 0 x8 H locs ls fo (st_ty hNN fq7.1 fq7.2 rfl) hw hW hS (lv_sub hl [3, 4, 5, 2, 1, 0] rfl)
set_option maxHeartbeats 4000000 in
set_option maxRecDepth 100000 in
theorem k_Wrt_slotOf (l : Launch) (dC : Nat → ClassId) (dI : Nat → Nat → Nat) (cI cB cJ cZ : ClassId) (ad : Nat → Nat) (NN : Nat) (E : Heap) (tM tC : Nat) (kK kV : Nat → Nat) (hNN : 152 ≤ NN) (sz : Nat) (o : Nat) (l1 : Int32) (l2 : Int64) (x : St) (fo : o < NN ∧ kcC o = 5) {post : Int32 → St → Prop} (hw : wp_Wrt_slotOf post o l1 l2 x) : Met l y_Wrt_slotOf (wsOf y_Wrt_slotOf b_Wrt_slotOf 7 (some (.int))) ({ frames := 2, cells := 0, slots := 0, locals := 112 }) (va_Pc [.ref (ad o), .int l1, .long l2] (PVc dC dI cI cB cJ cZ ad stC kcC NN E tM tC kK kV sz x)) (va_Qi (fun (r : Int32) (y : St) => post r y) (fun y t => Wd dC dI cI cB cJ cZ ad stC kcC NN (va_A (pic ad stC kcC NN cI cB cJ cZ x) sz) y t.heap) (va_A (pic ad stC kcC NN cI cB cJ cZ x) sz)) 0 0 (va_A (pic ad stC kcC NN cI cB cJ cZ x) sz) := by
  refine Met.ofW (cc := b_Wrt_slotOf) (maxL := 7) (ret := some (.int)) (by decide) rfl ?_
  intro p e s m args below meth c s₁ B hml hv
  obtain ⟨rfl, ⟨hsz, hW0, hK, hN⟩, hE⟩ := hv
  have hx := B.exec
  have hb := B.bytes
  have hr := B.returns
  have hts := atoms_spec B.pre
  have hT : ∀ w ∈ TG, w.before _ s = true := fun w h => hts w (List.mem_cons_of_mem _ h)
  have hown : s.vm.findClass R_Wrt = some m.cls := findClass_of_methodNamed B.named
  have hlocks := B.notSynchronized
  subst hsz
  have hW : Wd dC dI cI cB cJ cZ ad stC kcC NN (va_A (pic ad stC kcC NN cI cB cJ cZ x) s.heap.size) x s.heap := ⟨hW0.1, hW0.2.1.self (sz := s.heap.size), hW0.2.2⟩
  generalize hAe : va_A (pic ad stC kcC NN cI cB cJ cZ x) s.heap.size = A at hW hE ⊢
  have hA : ∀ q : Nat, s.heap.size ≤ q → A q := fun q h => by rw [← hAe]; exact Or.inr h
  have hS : va_S A s.heap s.heap [] := va_S.rf
  have hl := lv_entry ([.ref (ad o), .int l1, .long l2]) (n := 7) (Nat.le_of_ble_eq_true rfl)
  rw [lg_entry_eq]
  generalize (lg_sl ([.ref (ad o), .int l1, .long l2]) ++ List.replicate (7 - (lg_sl ([.ref (ad o), .int l1, .long l2])).length) Slot.unset).toArray = ls at hl ⊢
  have hl : lv_has ls 7 [(0, .ref (ad o)), (1, .int l1), (2, .long l2)] := hl
  exact t_Wrt_slotOf_e hx hb hml hown hT hK hN hA (Nat.le_refl 0) (Nat.le_refl 0) (Nat.le_refl 2) (Nat.le_refl 112) hNN hE (fun r x H locs pc ls hd hp hW hS => W.iret (v := r) hx hb hr (fun t ht hM => ⟨⟨r, x, rfl, hp, Wd.back hW ht.symm (fun _ z => z)⟩, hS.F ht⟩) hS.2.2 hd hlocks)  o l1 l2 x _ _ ls fo hw hW hS hl
set_option maxRecDepth 100000 in
set_option maxHeartbeats 4000000 in
set_option maxRecDepth 100000 in
theorem t_V_widthOf_22 {p : Program} {l : Launch} {e : Env} {R : Room} {s : State} {m : MethodId} {args : Array Value} {below : List Frame} {meth : Method} {c : Code} {cells slots : Nat} {Q : State → Prop} {dC : Nat → ClassId} {dI : Nat → Nat → Nat} {cI cB cJ cZ : ClassId} {A : Nat → Prop} {ad : Nat → Nat} {NN : Nat} {E : Heap} {tM tC : Nat} {kK kV : Nat → Nat} {post : Int32 → St → Prop} (hx : p.tables.exec = Jvm.exec) (hb : c.code = b_V_widthOf) (hml : c.maxLocals = 3) (hown : s.vm.findClass R_V = some m.cls) (hT : ∀ w ∈ TG, w.before args s = true) (hK : va_K (dC, dI) CL (TY cI cB cJ cZ) s) (hN : NW s) (hA : ∀ q : Nat, s.heap.size ≤ q → A q) (hRc : cells ≤ R.cells) (hRs : slots ≤ R.slots) (hRf : 0 ≤ R.frames) (hRl : 0 ≤ R.locals) (hNN : 152 ≤ NN) (hE : CE E tM tC kK kV A s) (hret : ∀ (r : Int32) (x : St) (H : Heap) (locs : List Loc) (pc : Nat) (ls : Array Slot), decode b_V_widthOf pc = .ok (.ireturn, 1) → post r x → Wd dC dI cI cB cJ cZ ad stC kcC NN A x H → va_S A s.heap H locs → W p l e R s m args below meth c H locs cells slots Q (F0 m pc ls [.int r]))  : ∀ (l0 : Int64) (l2 : Int32) (x : St) (H : Heap) (locs : List Loc) (ls : Array Slot), j_V_widthOf_22 post l0 l2 x → Wd dC dI cI cB cJ cZ ad stC kcC NN A x H → va_S A s.heap H locs → lv_has ls 3 [(0, .long l0), (2, .int l2)] → W p l e R s m args below meth c H locs cells slots Q (F0 m 22 ls []) := by
  intro l0 l2 x H locs ls  hw hW hS hl
  unfold j_V_widthOf_22 at hw
  refine lv_iload_n hx hb d_V_widthOf_22 rfl (lv_at hl 1 rfl) ?_
  exact hret l2 x H locs 23 ls d_V_widthOf_23 hw hW hS
set_option maxRecDepth 100000 in
set_option maxHeartbeats 4000000 in
set_option maxRecDepth 100000 in
theorem t_V_widthOf_2 {p : Program} {l : Launch} {e : Env} {R : Room} {s : State} {m : MethodId} {args : Array Value} {below : List Frame} {meth : Method} {c : Code} {cells slots : Nat} {Q : State → Prop} {dC : Nat → ClassId} {dI : Nat → Nat → Nat} {cI cB cJ cZ : ClassId} {A : Nat → Prop} {ad : Nat → Nat} {NN : Nat} {E : Heap} {tM tC : Nat} {kK kV : Nat → Nat} {post : Int32 → St → Prop} {rec2 : Int64 → Int32 → St → Prop} (hx : p.tables.exec = Jvm.exec) (hb : c.code = b_V_widthOf) (hml : c.maxLocals = 3) (hown : s.vm.findClass R_V = some m.cls) (hT : ∀ w ∈ TG, w.before args s = true) (hK : va_K (dC, dI) CL (TY cI cB cJ cZ) s) (hN : NW s) (hA : ∀ q : Nat, s.heap.size ≤ q → A q) (hRc : cells ≤ R.cells) (hRs : slots ≤ R.slots) (hRf : 0 ≤ R.frames) (hRl : 0 ≤ R.locals) (hNN : 152 ≤ NN) (hE : CE E tM tC kK kV A s) (hret : ∀ (r : Int32) (x : St) (H : Heap) (locs : List Loc) (pc : Nat) (ls : Array Slot), decode b_V_widthOf pc = .ok (.ireturn, 1) → post r x → Wd dC dI cI cB cJ cZ ad stC kcC NN A x H → va_S A s.heap H locs → W p l e R s m args below meth c H locs cells slots Q (F0 m pc ls [.int r])) (hrec2 : ∀ (l0 : Int64) (l2 : Int32) (x : St) (H : Heap) (locs : List Loc) (ls : Array Slot), rec2 l0 l2 x → Wd dC dI cI cB cJ cZ ad stC kcC NN A x H → va_S A s.heap H locs → lv_has ls 3 [(0, .long l0), (2, .int l2)] → W p l e R s m args below meth c H locs cells slots Q (F0 m 2 ls [])) : ∀ (l0 : Int64) (l2 : Int32) (x : St) (H : Heap) (locs : List Loc) (ls : Array Slot), j_V_widthOf_2 post rec2 l0 l2 x → Wd dC dI cI cB cJ cZ ad stC kcC NN A x H → va_S A s.heap H locs → lv_has ls 3 [(0, .long l0), (2, .int l2)] → W p l e R s m args below meth c H locs cells slots Q (F0 m 2 ls []) := by
  intro l0 l2 x H locs ls  hw hW hS hl
  unfold j_V_widthOf_2 at hw
  refine lv_iload_n hx hb d_V_widthOf_2 rfl (lv_at hl 1 rfl) ?_
  refine lv_bipush (v := 64) hx hb d_V_widthOf_3 (by decide) ?_
  refine lv_icmp_ge (tgt := 22) hx hb d_V_widthOf_5 (by decide) (fun c1 => ?_) (fun c1 => ?_)
  · have hw := hw.1 c1
    exact t_V_widthOf_22 hx hb hml hown hT hK hN hA hRc hRs hRf hRl hNN hE hret  l0 l2 x H locs ls  hw hW hS (lv_sub hl [0, 1] rfl)
  · have hw := hw.2 c1
    refine lv_lload_n hx hb d_V_widthOf_8 rfl (lv_at hl 0 rfl) ?_
    refine lv_iload_n hx hb d_V_widthOf_9 rfl (lv_at hl 1 rfl) ?_
    refine lv_lushr hx hb d_V_widthOf_10 rfl ?_
    refine lv_lconst (v := 0) hx hb d_V_widthOf_11 (by decide) ?_
    refine W.lcmp hx hb d_V_widthOf_12 ?_
    refine lv_if_eq (tgt := 22) hx hb d_V_widthOf_13 (by decide) (fun c2 => ?_) (fun c2 => ?_)
    · have hw := hw.1 c2
      exact t_V_widthOf_22 hx hb hml hown hT hK hN hA hRc hRs hRf hRl hNN hE hret  l0 l2 x H locs ls  hw hW hS (lv_sub hl [0, 1] rfl)
    · have hw := hw.2 c2
      refine lv_iinc (v := (l2 + 1)) (lv' := [(2, .int (l2 + 1)), (0, .long l0)]) hx hb d_V_widthOf_16 hl (k := 1) rfl rfl (by decide) rfl (fun ls hl => ?_)
      refine lv_goto (tgt := 2) hx hb d_V_widthOf_19 (by decide) ?_
      exact hrec2 l0 (l2 + 1) x H locs ls  hw hW hS (lv_sub hl [1, 0] rfl)
set_option maxHeartbeats 4000000 in
set_option maxRecDepth 100000 in
theorem tl_V_widthOf_2 {p : Program} {l : Launch} {e : Env} {R : Room} {s : State} {m : MethodId} {args : Array Value} {below : List Frame} {meth : Method} {c : Code} {cells slots : Nat} {Q : State → Prop} {dC : Nat → ClassId} {dI : Nat → Nat → Nat} {cI cB cJ cZ : ClassId} {A : Nat → Prop} {ad : Nat → Nat} {NN : Nat} {E : Heap} {tM tC : Nat} {kK kV : Nat → Nat} {post : Int32 → St → Prop} (hx : p.tables.exec = Jvm.exec) (hb : c.code = b_V_widthOf) (hml : c.maxLocals = 3) (hown : s.vm.findClass R_V = some m.cls) (hT : ∀ w ∈ TG, w.before args s = true) (hK : va_K (dC, dI) CL (TY cI cB cJ cZ) s) (hN : NW s) (hA : ∀ q : Nat, s.heap.size ≤ q → A q) (hRc : cells ≤ R.cells) (hRs : slots ≤ R.slots) (hRf : 0 ≤ R.frames) (hRl : 0 ≤ R.locals) (hNN : 152 ≤ NN) (hE : CE E tM tC kK kV A s) (hret : ∀ (r : Int32) (x : St) (H : Heap) (locs : List Loc) (pc : Nat) (ls : Array Slot), decode b_V_widthOf pc = .ok (.ireturn, 1) → post r x → Wd dC dI cI cB cJ cZ ad stC kcC NN A x H → va_S A s.heap H locs → W p l e R s m args below meth c H locs cells slots Q (F0 m pc ls [.int r]))  : ∀ n : Nat, ∀ (l0 : Int64) (l2 : Int32) (x : St) (H : Heap) (locs : List Loc) (ls : Array Slot), wl_V_widthOf_2 post n l0 l2 x → Wd dC dI cI cB cJ cZ ad stC kcC NN A x H → va_S A s.heap H locs → lv_has ls 3 [(0, .long l0), (2, .int l2)] → W p l e R s m args below meth c H locs cells slots Q (F0 m 2 ls []) := by
  intro n
  induction n with
  | zero => intro l0 l2 x H locs ls  hw; exact hw.elim
  | succ n ih => intro l0 l2 x H locs ls  hw hW hS hl; exact t_V_widthOf_2 hx hb hml hown hT hK hN hA hRc hRs hRf hRl hNN hE hret  ih l0 l2 x H locs ls  hw hW hS hl
set_option maxRecDepth 100000 in
set_option maxHeartbeats 4000000 in
set_option maxRecDepth 100000 in
theorem t_V_widthOf_e {p : Program} {l : Launch} {e : Env} {R : Room} {s : State} {m : MethodId} {args : Array Value} {below : List Frame} {meth : Method} {c : Code} {cells slots : Nat} {Q : State → Prop} {dC : Nat → ClassId} {dI : Nat → Nat → Nat} {cI cB cJ cZ : ClassId} {A : Nat → Prop} {ad : Nat → Nat} {NN : Nat} {E : Heap} {tM tC : Nat} {kK kV : Nat → Nat} {post : Int32 → St → Prop} (hx : p.tables.exec = Jvm.exec) (hb : c.code = b_V_widthOf) (hml : c.maxLocals = 3) (hown : s.vm.findClass R_V = some m.cls) (hT : ∀ w ∈ TG, w.before args s = true) (hK : va_K (dC, dI) CL (TY cI cB cJ cZ) s) (hN : NW s) (hA : ∀ q : Nat, s.heap.size ≤ q → A q) (hRc : cells ≤ R.cells) (hRs : slots ≤ R.slots) (hRf : 0 ≤ R.frames) (hRl : 0 ≤ R.locals) (hNN : 152 ≤ NN) (hE : CE E tM tC kK kV A s) (hret : ∀ (r : Int32) (x : St) (H : Heap) (locs : List Loc) (pc : Nat) (ls : Array Slot), decode b_V_widthOf pc = .ok (.ireturn, 1) → post r x → Wd dC dI cI cB cJ cZ ad stC kcC NN A x H → va_S A s.heap H locs → W p l e R s m args below meth c H locs cells slots Q (F0 m pc ls [.int r])) : ∀ (l0 : Int64) (x : St) (H : Heap) (locs : List Loc) (ls : Array Slot), wp_V_widthOf post l0 x → Wd dC dI cI cB cJ cZ ad stC kcC NN A x H → va_S A s.heap H locs → lv_has ls 3 [(0, .long l0)] → W p l e R s m args below meth c H locs cells slots Q (F0 m 0 ls []) := by
  intro l0 x H locs ls  hw hW hS hl
  unfold wp_V_widthOf at hw
  refine lv_iconst (v := 0) hx hb d_V_widthOf_0 (by decide) ?_
  refine lv_istore_n (lv' := [(2, .int 0), (0, .long l0)]) hx hb d_V_widthOf_1 rfl hl (by decide) rfl (fun ls hl => ?_)
  obtain ⟨n, hw⟩ := hw
  exact tl_V_widthOf_2 hx hb hml hown hT hK hN hA hRc hRs hRf hRl hNN hE hret  n l0 0 x H locs ls  hw hW hS (lv_sub hl [1, 0] rfl)
set_option maxHeartbeats 4000000 in
set_option maxRecDepth 100000 in
theorem k_V_widthOf (l : Launch) (dC : Nat → ClassId) (dI : Nat → Nat → Nat) (cI cB cJ cZ : ClassId) (ad : Nat → Nat) (NN : Nat) (E : Heap) (tM tC : Nat) (kK kV : Nat → Nat) (hNN : 152 ≤ NN) (sz : Nat) (l0 : Int64) (x : St) {post : Int32 → St → Prop} (hw : wp_V_widthOf post l0 x) : Met l y_V_widthOf (wsOf y_V_widthOf b_V_widthOf 3 (some (.int))) ({ frames := 0, cells := 0, slots := 0, locals := 0 }) (va_Pc [.long l0] (PVc dC dI cI cB cJ cZ ad stC kcC NN E tM tC kK kV sz x)) (va_Qi (fun (r : Int32) (y : St) => post r y) (fun y t => Wd dC dI cI cB cJ cZ ad stC kcC NN (va_A (pic ad stC kcC NN cI cB cJ cZ x) sz) y t.heap) (va_A (pic ad stC kcC NN cI cB cJ cZ x) sz)) 0 0 (va_A (pic ad stC kcC NN cI cB cJ cZ x) sz) := by
  refine Met.ofW (cc := b_V_widthOf) (maxL := 3) (ret := some (.int)) (by decide) rfl ?_
  intro p e s m args below meth c s₁ B hml hv
  obtain ⟨rfl, ⟨hsz, hW0, hK, hN⟩, hE⟩ := hv
  have hx := B.exec
  have hb := B.bytes
  have hr := B.returns
  have hts := atoms_spec B.pre
  have hT : ∀ w ∈ TG, w.before _ s = true := fun w h => hts w (List.mem_cons_of_mem _ h)
  have hown : s.vm.findClass R_V = some m.cls := findClass_of_methodNamed B.named
  have hlocks := B.notSynchronized
  subst hsz
  have hW : Wd dC dI cI cB cJ cZ ad stC kcC NN (va_A (pic ad stC kcC NN cI cB cJ cZ x) s.heap.size) x s.heap := ⟨hW0.1, hW0.2.1.self (sz := s.heap.size), hW0.2.2⟩
  generalize hAe : va_A (pic ad stC kcC NN cI cB cJ cZ x) s.heap.size = A at hW hE ⊢
  have hA : ∀ q : Nat, s.heap.size ≤ q → A q := fun q h => by rw [← hAe]; exact Or.inr h
  have hS : va_S A s.heap s.heap [] := va_S.rf
  have hl := lv_entry ([.long l0]) (n := 3) (Nat.le_of_ble_eq_true rfl)
  rw [lg_entry_eq]
  generalize (lg_sl ([.long l0]) ++ List.replicate (3 - (lg_sl ([.long l0])).length) Slot.unset).toArray = ls at hl ⊢
  have hl : lv_has ls 3 [(0, .long l0)] := hl
  exact t_V_widthOf_e hx hb hml hown hT hK hN hA (Nat.le_refl 0) (Nat.le_refl 0) (Nat.le_refl 0) (Nat.le_refl 0) hNN hE (fun r x H locs pc ls hd hp hW hS => W.iret (v := r) hx hb hr (fun t ht hM => ⟨⟨r, x, rfl, hp, Wd.back hW ht.symm (fun _ z => z)⟩, hS.F ht⟩) hS.2.2 hd hlocks)  l0 x _ _ ls  hw hW hS hl
set_option maxRecDepth 100000 in
set_option maxHeartbeats 4000000 in
set_option maxRecDepth 100000 in
theorem t_V_inCommon_63 {p : Program} {l : Launch} {e : Env} {R : Room} {s : State} {m : MethodId} {args : Array Value} {below : List Frame} {meth : Method} {c : Code} {cells slots : Nat} {Q : State → Prop} {dC : Nat → ClassId} {dI : Nat → Nat → Nat} {cI cB cJ cZ : ClassId} {A : Nat → Prop} {ad : Nat → Nat} {NN : Nat} {E : Heap} {tM tC : Nat} {kK kV : Nat → Nat} {post : Int32 → St → Prop} (hx : p.tables.exec = Jvm.exec) (hb : c.code = b_V_inCommon) (hml : c.maxLocals = 9) (hown : s.vm.findClass R_V = some m.cls) (hT : ∀ w ∈ TG, w.before args s = true) (hK : va_K (dC, dI) CL (TY cI cB cJ cZ) s) (hN : NW s) (hA : ∀ q : Nat, s.heap.size ≤ q → A q) (hRc : cells ≤ R.cells) (hRs : slots ≤ R.slots) (hRf : 1 ≤ R.frames) (hRl : 80 ≤ R.locals) (hNN : 152 ≤ NN) (hE : CE E tM tC kK kV A s) (hret : ∀ (r : Int32) (x : St) (H : Heap) (locs : List Loc) (pc : Nat) (ls : Array Slot), decode b_V_inCommon pc = .ok (.ireturn, 1) → post r x → Wd dC dI cI cB cJ cZ ad stC kcC NN A x H → va_S A s.heap H locs → W p l e R s m args below meth c H locs cells slots Q (F0 m pc ls [.int r]))  : ∀ (l0 : Nat) (l1 : Int64) (l3 : Int64) (l5 : Int32) (l6 : Int32) (l7 : Int32) (l8 : Int32) (x : St) (H : Heap) (locs : List Loc) (ls : Array Slot), (l0 < NN ∧ kcC l0 = 21) → j_V_inCommon_63 post l0 l1 l3 l5 l6 l7 l8 x → Wd dC dI cI cB cJ cZ ad stC kcC NN A x H → va_S A s.heap H locs → lv_has ls 9 [(0, .ref (ad l0)), (1, .long l1), (3, .long l3), (5, .int l5), (6, .int l6), (7, .int l7), (8, .int l8)] → W p l e R s m args below meth c H locs cells slots Q (F0 m 63 ls []) := by
  intro l0 l1 l3 l5 l6 l7 l8 x H locs ls fl0 hw hW hS hl
  unfold j_V_inCommon_63 at hw
  refine lv_iload hx hb d_V_inCommon_63 (lv_at hl 6 rfl) ?_
  exact hret l8 x H locs 65 ls d_V_inCommon_65 hw hW hS
set_option maxRecDepth 100000 in
set_option maxHeartbeats 4000000 in
set_option maxRecDepth 100000 in
theorem t_V_inCommon_33 {p : Program} {l : Launch} {e : Env} {R : Room} {s : State} {m : MethodId} {args : Array Value} {below : List Frame} {meth : Method} {c : Code} {cells slots : Nat} {Q : State → Prop} {dC : Nat → ClassId} {dI : Nat → Nat → Nat} {cI cB cJ cZ : ClassId} {A : Nat → Prop} {ad : Nat → Nat} {NN : Nat} {E : Heap} {tM tC : Nat} {kK kV : Nat → Nat} {post : Int32 → St → Prop} {rec33 : Nat → Int64 → Int64 → Int32 → Int32 → Int32 → Int32 → St → Prop} (hx : p.tables.exec = Jvm.exec) (hb : c.code = b_V_inCommon) (hml : c.maxLocals = 9) (hown : s.vm.findClass R_V = some m.cls) (hT : ∀ w ∈ TG, w.before args s = true) (hK : va_K (dC, dI) CL (TY cI cB cJ cZ) s) (hN : NW s) (hA : ∀ q : Nat, s.heap.size ≤ q → A q) (hRc : cells ≤ R.cells) (hRs : slots ≤ R.slots) (hRf : 1 ≤ R.frames) (hRl : 80 ≤ R.locals) (hNN : 152 ≤ NN) (hE : CE E tM tC kK kV A s) (hret : ∀ (r : Int32) (x : St) (H : Heap) (locs : List Loc) (pc : Nat) (ls : Array Slot), decode b_V_inCommon pc = .ok (.ireturn, 1) → post r x → Wd dC dI cI cB cJ cZ ad stC kcC NN A x H → va_S A s.heap H locs → W p l e R s m args below meth c H locs cells slots Q (F0 m pc ls [.int r])) (hrec33 : ∀ (l0 : Nat) (l1 : Int64) (l3 : Int64) (l5 : Int32) (l6 : Int32) (l7 : Int32) (l8 : Int32) (x : St) (H : Heap) (locs : List Loc) (ls : Array Slot), (l0 < NN ∧ kcC l0 = 21) → rec33 l0 l1 l3 l5 l6 l7 l8 x → Wd dC dI cI cB cJ cZ ad stC kcC NN A x H → va_S A s.heap H locs → lv_has ls 9 [(0, .ref (ad l0)), (1, .long l1), (3, .long l3), (5, .int l5), (6, .int l6), (7, .int l7), (8, .int l8)] → W p l e R s m args below meth c H locs cells slots Q (F0 m 33 ls [])) : ∀ (l0 : Nat) (l1 : Int64) (l3 : Int64) (l5 : Int32) (l6 : Int32) (l7 : Int32) (l8 : Int32) (x : St) (H : Heap) (locs : List Loc) (ls : Array Slot), (l0 < NN ∧ kcC l0 = 21) → j_V_inCommon_33 post rec33 l0 l1 l3 l5 l6 l7 l8 x → Wd dC dI cI cB cJ cZ ad stC kcC NN A x H → va_S A s.heap H locs → lv_has ls 9 [(0, .ref (ad l0)), (1, .long l1), (3, .long l3), (5, .int l5), (6, .int l6), (7, .int l7), (8, .int l8)] → W p l e R s m args below meth c H locs cells slots Q (F0 m 33 ls []) := by
  intro l0 l1 l3 l5 l6 l7 l8 x H locs ls fl0 hw hW hS hl
  unfold j_V_inCommon_33 at hw
  refine lv_iload hx hb d_V_inCommon_33 (lv_at hl 6 rfl) ?_
  refine lv_iload hx hb d_V_inCommon_35 (lv_at hl 3 rfl) ?_
  refine lv_icmp_ge (tgt := 63) hx hb d_V_inCommon_37 (by decide) (fun c1 => ?_) (fun c1 => ?_)
  · have hw := hw.1 c1
    exact t_V_inCommon_63 hx hb hml hown hT hK hN hA hRc hRs hRf hRl hNN hE hret  l0 l1 l3 l5 l6 l7 l8 x H locs ls fl0 hw hW hS (lv_sub hl [0, 1, 2, 3, 4, 5, 6] rfl)
  · have hw := hw.2 c1
    refine lv_aload_n hx hb d_V_inCommon_40 rfl (lv_at hl 0 rfl) ?_
    refine lv_iload hx hb d_V_inCommon_41 (lv_at hl 4 rfl) ?_
    refine lv_iload hx hb d_V_inCommon_43 (lv_at hl 6 rfl) ?_
    refine lv_iadd hx hb d_V_inCommon_45 ?_
    obtain ⟨hi, hw⟩ := hw
    refine w_bald (o := l0) hx hb hK hW fl0.1 fl0.2 hi d_V_inCommon_46 ?_
    refine lv_aload_n hx hb d_V_inCommon_47 rfl (lv_at hl 0 rfl) ?_
    refine lv_iload hx hb d_V_inCommon_48 (lv_at hl 5 rfl) ?_
    refine lv_iload hx hb d_V_inCommon_50 (lv_at hl 6 rfl) ?_
    refine lv_iadd hx hb d_V_inCommon_52 ?_
    obtain ⟨hi, hw⟩ := hw
    refine w_bald (o := l0) hx hb hK hW fl0.1 fl0.2 hi d_V_inCommon_53 ?_
    refine lv_icmp_ne (tgt := 63) hx hb d_V_inCommon_54 (by decide) (fun c2 => ?_) (fun c2 => ?_)
    · have hw := hw.1 c2
      exact t_V_inCommon_63 hx hb hml hown hT hK hN hA hRc hRs hRf hRl hNN hE hret  l0 l1 l3 l5 l6 l7 l8 x H locs ls fl0 hw hW hS (lv_sub hl [0, 1, 2, 3, 4, 5, 6] rfl)
    · have hw := hw.2 c2
      refine lv_iinc (v := (l8 + 1)) (lv' := [(8, .int (l8 + 1)), (0, .ref (ad l0)), (1, .long l1), (3, .long l3), (5, .int l5), (6, .int l6), (7, .int l7)]) hx hb d_V_inCommon_57 hl (k := 6) rfl rfl (by decide) rfl (fun ls hl => ?_)
      refine lv_goto (tgt := 33) hx hb d_V_inCommon_60 (by decide) ?_
      exact hrec33 l0 l1 l3 l5 l6 l7 (l8 + 1) x H locs ls fl0 hw hW hS (lv_sub hl [1, 2, 3, 4, 5, 6, 0] rfl)
set_option maxHeartbeats 4000000 in
set_option maxRecDepth 100000 in
theorem tl_V_inCommon_33 {p : Program} {l : Launch} {e : Env} {R : Room} {s : State} {m : MethodId} {args : Array Value} {below : List Frame} {meth : Method} {c : Code} {cells slots : Nat} {Q : State → Prop} {dC : Nat → ClassId} {dI : Nat → Nat → Nat} {cI cB cJ cZ : ClassId} {A : Nat → Prop} {ad : Nat → Nat} {NN : Nat} {E : Heap} {tM tC : Nat} {kK kV : Nat → Nat} {post : Int32 → St → Prop} (hx : p.tables.exec = Jvm.exec) (hb : c.code = b_V_inCommon) (hml : c.maxLocals = 9) (hown : s.vm.findClass R_V = some m.cls) (hT : ∀ w ∈ TG, w.before args s = true) (hK : va_K (dC, dI) CL (TY cI cB cJ cZ) s) (hN : NW s) (hA : ∀ q : Nat, s.heap.size ≤ q → A q) (hRc : cells ≤ R.cells) (hRs : slots ≤ R.slots) (hRf : 1 ≤ R.frames) (hRl : 80 ≤ R.locals) (hNN : 152 ≤ NN) (hE : CE E tM tC kK kV A s) (hret : ∀ (r : Int32) (x : St) (H : Heap) (locs : List Loc) (pc : Nat) (ls : Array Slot), decode b_V_inCommon pc = .ok (.ireturn, 1) → post r x → Wd dC dI cI cB cJ cZ ad stC kcC NN A x H → va_S A s.heap H locs → W p l e R s m args below meth c H locs cells slots Q (F0 m pc ls [.int r]))  : ∀ n : Nat, ∀ (l0 : Nat) (l1 : Int64) (l3 : Int64) (l5 : Int32) (l6 : Int32) (l7 : Int32) (l8 : Int32) (x : St) (H : Heap) (locs : List Loc) (ls : Array Slot), (l0 < NN ∧ kcC l0 = 21) → wl_V_inCommon_33 post n l0 l1 l3 l5 l6 l7 l8 x → Wd dC dI cI cB cJ cZ ad stC kcC NN A x H → va_S A s.heap H locs → lv_has ls 9 [(0, .ref (ad l0)), (1, .long l1), (3, .long l3), (5, .int l5), (6, .int l6), (7, .int l7), (8, .int l8)] → W p l e R s m args below meth c H locs cells slots Q (F0 m 33 ls []) := by
  intro n
  induction n with
  | zero => intro l0 l1 l3 l5 l6 l7 l8 x H locs ls fl0 hw; exact hw.elim
  | succ n ih => intro l0 l1 l3 l5 l6 l7 l8 x H locs ls fl0 hw hW hS hl; exact t_V_inCommon_33 hx hb hml hown hT hK hN hA hRc hRs hRf hRl hNN hE hret  ih l0 l1 l3 l5 l6 l7 l8 x H locs ls fl0 hw hW hS hl
set_option maxRecDepth 100000 in
set_option maxHeartbeats 4000000 in
set_option maxRecDepth 100000 in
theorem t_V_inCommon_e {p : Program} {l : Launch} {e : Env} {R : Room} {s : State} {m : MethodId} {args : Array Value} {below : List Frame} {meth : Method} {c : Code} {cells slots : Nat} {Q : State → Prop} {dC : Nat → ClassId} {dI : Nat → Nat → Nat} {cI cB cJ cZ : ClassId} {A : Nat → Prop} {ad : Nat → Nat} {NN : Nat} {E : Heap} {tM tC : Nat} {kK kV : Nat → Nat} {post : Int32 → St → Prop} (hx : p.tables.exec = Jvm.exec) (hb : c.code = b_V_inCommon) (hml : c.maxLocals = 9) (hown : s.vm.findClass R_V = some m.cls) (hT : ∀ w ∈ TG, w.before args s = true) (hK : va_K (dC, dI) CL (TY cI cB cJ cZ) s) (hN : NW s) (hA : ∀ q : Nat, s.heap.size ≤ q → A q) (hRc : cells ≤ R.cells) (hRs : slots ≤ R.slots) (hRf : 1 ≤ R.frames) (hRl : 80 ≤ R.locals) (hNN : 152 ≤ NN) (hE : CE E tM tC kK kV A s) (hret : ∀ (r : Int32) (x : St) (H : Heap) (locs : List Loc) (pc : Nat) (ls : Array Slot), decode b_V_inCommon pc = .ok (.ireturn, 1) → post r x → Wd dC dI cI cB cJ cZ ad stC kcC NN A x H → va_S A s.heap H locs → W p l e R s m args below meth c H locs cells slots Q (F0 m pc ls [.int r])) : ∀ (l0 : Nat) (l1 : Int64) (l3 : Int64) (x : St) (H : Heap) (locs : List Loc) (ls : Array Slot), (l0 < NN ∧ kcC l0 = 21) → wp_V_inCommon post l0 l1 l3 x → Wd dC dI cI cB cJ cZ ad stC kcC NN A x H → va_S A s.heap H locs → lv_has ls 9 [(0, .ref (ad l0)), (1, .long l1), (3, .long l3)] → W p l e R s m args below meth c H locs cells slots Q (F0 m 0 ls []) := by
  intro l0 l1 l3 x H locs ls fl0 hw hW hS hl
  unfold wp_V_inCommon at hw
  refine lv_lload_n hx hb d_V_inCommon_0 rfl (lv_at hl 1 rfl) ?_
  refine lv_ldc2 hx hb hown (hT _ w_5_162) d_V_inCommon_1 ?_
  refine lv_land hx hb d_V_inCommon_4 ?_
  refine lv_lload_n hx hb d_V_inCommon_5 rfl (lv_at hl 2 rfl) ?_
  refine lv_ldc2 hx hb hown (hT _ w_5_162) d_V_inCommon_6 ?_
  refine lv_land hx hb d_V_inCommon_9 ?_
  refine va_mmin_long hx hb (hml.trans hl.1.symm) hown (hT _ w_5_239) (hT _ w_6_0) (hT _ w_1_3) (hT _ w_6_1) (Nat.le_trans (by decide) hRf) (Nat.le_trans (Nat.le_of_ble_eq_true rfl) hRl) hRc hRs d_V_inCommon_10 ?_
  refine lv_l2i hx hb d_V_inCommon_13 rfl ?_
  refine lv_topi (fun v3 ev3 => ?_)
  have hw := hw v3 ev3
  refine lv_istore (lv' := [(5, .int v3), (0, .ref (ad l0)), (1, .long l1), (3, .long l3)]) hx hb d_V_inCommon_14 hl (by decide) rfl (fun ls hl => ?_)
  refine lv_lload_n hx hb d_V_inCommon_16 rfl (lv_at hl 2 rfl) ?_
  refine lv_bipush (v := 8) hx hb d_V_inCommon_17 (by decide) ?_
  refine lv_lshr hx hb d_V_inCommon_19 rfl ?_
  refine lv_l2i hx hb d_V_inCommon_20 rfl ?_
  refine lv_topi (fun v4 ev4 => ?_)
  have hw := hw v4 ev4
  refine lv_istore (lv' := [(6, .int v4), (5, .int v3), (0, .ref (ad l0)), (1, .long l1), (3, .long l3)]) hx hb d_V_inCommon_21 hl (by decide) rfl (fun ls hl => ?_)
  refine lv_lload_n hx hb d_V_inCommon_23 rfl (lv_at hl 4 rfl) ?_
  refine lv_bipush (v := 8) hx hb d_V_inCommon_24 (by decide) ?_
  refine lv_lshr hx hb d_V_inCommon_26 rfl ?_
  refine lv_l2i hx hb d_V_inCommon_27 rfl ?_
  refine lv_topi (fun v5 ev5 => ?_)
  have hw := hw v5 ev5
  refine lv_istore (lv' := [(7, .int v5), (6, .int v4), (5, .int v3), (0, .ref (ad l0)), (1, .long l1), (3, .long l3)]) hx hb d_V_inCommon_28 hl (by decide) rfl (fun ls hl => ?_)
  refine lv_iconst (v := 0) hx hb d_V_inCommon_30 (by decide) ?_
  refine lv_istore (lv' := [(8, .int 0), (7, .int v5), (6, .int v4), (5, .int v3), (0, .ref (ad l0)), (1, .long l1), (3, .long l3)]) hx hb d_V_inCommon_31 hl (by decide) rfl (fun ls hl => ?_)
  obtain ⟨n, hw⟩ := hw
  exact tl_V_inCommon_33 hx hb hml hown hT hK hN hA hRc hRs hRf hRl hNN hE hret  n l0 l1 l3 v3 v4 v5 0 x H locs ls fl0 hw hW hS (lv_sub hl [4, 5, 6, 3, 2, 1, 0] rfl)
set_option maxHeartbeats 4000000 in
set_option maxRecDepth 100000 in
theorem k_V_inCommon (l : Launch) (dC : Nat → ClassId) (dI : Nat → Nat → Nat) (cI cB cJ cZ : ClassId) (ad : Nat → Nat) (NN : Nat) (E : Heap) (tM tC : Nat) (kK kV : Nat → Nat) (hNN : 152 ≤ NN) (sz : Nat) (l0 : Nat) (l1 : Int64) (l3 : Int64) (x : St) (fl0 : l0 < NN ∧ kcC l0 = 21) {post : Int32 → St → Prop} (hw : wp_V_inCommon post l0 l1 l3 x) : Met l y_V_inCommon (wsOf y_V_inCommon b_V_inCommon 9 (some (.int))) ({ frames := 1, cells := 0, slots := 0, locals := 80 }) (va_Pc [.ref (ad l0), .long l1, .long l3] (PVc dC dI cI cB cJ cZ ad stC kcC NN E tM tC kK kV sz x)) (va_Qi (fun (r : Int32) (y : St) => post r y) (fun y t => Wd dC dI cI cB cJ cZ ad stC kcC NN (va_A (pic ad stC kcC NN cI cB cJ cZ x) sz) y t.heap) (va_A (pic ad stC kcC NN cI cB cJ cZ x) sz)) 0 0 (va_A (pic ad stC kcC NN cI cB cJ cZ x) sz) := by
  refine Met.ofW (cc := b_V_inCommon) (maxL := 9) (ret := some (.int)) (by decide) rfl ?_
  intro p e s m args below meth c s₁ B hml hv
  obtain ⟨rfl, ⟨hsz, hW0, hK, hN⟩, hE⟩ := hv
  have hx := B.exec
  have hb := B.bytes
  have hr := B.returns
  have hts := atoms_spec B.pre
  have hT : ∀ w ∈ TG, w.before _ s = true := fun w h => hts w (List.mem_cons_of_mem _ h)
  have hown : s.vm.findClass R_V = some m.cls := findClass_of_methodNamed B.named
  have hlocks := B.notSynchronized
  subst hsz
  have hW : Wd dC dI cI cB cJ cZ ad stC kcC NN (va_A (pic ad stC kcC NN cI cB cJ cZ x) s.heap.size) x s.heap := ⟨hW0.1, hW0.2.1.self (sz := s.heap.size), hW0.2.2⟩
  generalize hAe : va_A (pic ad stC kcC NN cI cB cJ cZ x) s.heap.size = A at hW hE ⊢
  have hA : ∀ q : Nat, s.heap.size ≤ q → A q := fun q h => by rw [← hAe]; exact Or.inr h
  have hS : va_S A s.heap s.heap [] := va_S.rf
  have hl := lv_entry ([.ref (ad l0), .long l1, .long l3]) (n := 9) (Nat.le_of_ble_eq_true rfl)
  rw [lg_entry_eq]
  generalize (lg_sl ([.ref (ad l0), .long l1, .long l3]) ++ List.replicate (9 - (lg_sl ([.ref (ad l0), .long l1, .long l3])).length) Slot.unset).toArray = ls at hl ⊢
  have hl : lv_has ls 9 [(0, .ref (ad l0)), (1, .long l1), (3, .long l3)] := hl
  exact t_V_inCommon_e hx hb hml hown hT hK hN hA (Nat.le_refl 0) (Nat.le_refl 0) (Nat.le_refl 1) (Nat.le_refl 80) hNN hE (fun r x H locs pc ls hd hp hW hS => W.iret (v := r) hx hb hr (fun t ht hM => ⟨⟨r, x, rfl, hp, Wd.back hW ht.symm (fun _ z => z)⟩, hS.F ht⟩) hS.2.2 hd hlocks)  l0 l1 l3 x _ _ ls fl0 hw hW hS hl
end
