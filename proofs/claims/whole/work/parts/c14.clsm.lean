theorem w_5_230 : (Jvm.Cond.static ({ cls := "StripedVault", name := "widthOf", desc := "(J)I" } : Jvm.MethodName)) ∈ TG := tw_5 230 (by decide +kernel) (by decide +kernel)
theorem w_5_231 : (Jvm.Cond.code ({ cls := "StripedVault", name := "widthOf", desc := "(J)I" } : Jvm.MethodName) prog_1_method_36_code (3 : Nat) (Option.some Jvm.ClassFile.FieldType.int)) ∈ TG := tw_5 231 (by decide +kernel) (by decide +kernel)
theorem w_6_199 : (Jvm.Cond.methodLink "StripedVault$Opener" (300 : Nat) ({ cls := "StripedVault$Source", name := "readRuns", desc := "([JII)V" } : Jvm.MethodName)) ∈ TG := tw_6 199 (by decide +kernel) (by decide +kernel)
theorem w_6_200 : (Jvm.Cond.instanceMethod ({ cls := "StripedVault$Source", name := "readRuns", desc := "([JII)V" } : Jvm.MethodName)) ∈ TG := tw_6 200 (by decide +kernel) (by decide +kernel)
theorem w_6_201 : (Jvm.Cond.selects "StripedVault$Source" ({ cls := "StripedVault$Source", name := "readRuns", desc := "([JII)V" } : Jvm.MethodName) ({ cls := "StripedVault$Source", name := "readRuns", desc := "([JII)V" } : Jvm.MethodName)) ∈ TG := tw_6 201 (by decide +kernel) (by decide +kernel)
theorem w_6_202 : (Jvm.Cond.code ({ cls := "StripedVault$Source", name := "readRuns", desc := "([JII)V" } : Jvm.MethodName) prog_10_method_13_code (10 : Nat) (Option.none : Option Jvm.ClassFile.FieldType)) ∈ TG := tw_6 202 (by decide +kernel) (by decide +kernel)
theorem w_6_203 : (Jvm.Cond.methodLink "StripedVault$Source" (64 : Nat) ({ cls := "StripedVault$Source", name := "readSame", desc := "([JIJI)I" } : Jvm.MethodName)) ∈ TG := tw_6 203 (by decide +kernel) (by decide +kernel)
theorem w_6_205 : (Jvm.Cond.instanceMethod ({ cls := "StripedVault$Source", name := "readSame", desc := "([JIJI)I" } : Jvm.MethodName)) ∈ TG := tw_6 205 (by decide +kernel) (by decide +kernel)
theorem w_6_206 : (Jvm.Cond.code ({ cls := "StripedVault$Source", name := "readSame", desc := "([JIJI)I" } : Jvm.MethodName) prog_10_method_14_code (10 : Nat) (Option.some Jvm.ClassFile.FieldType.int)) ∈ TG := tw_6 206 (by decide +kernel) (by decide +kernel)
theorem w_6_208 : (Jvm.Cond.methodLink "StripedVault$Source" (68 : Nat) ({ cls := "StripedVault$Source", name := "readGroups", desc := "([JIJII)I" } : Jvm.MethodName)) ∈ TG := tw_6 208 (by decide +kernel) (by decide +kernel)
theorem w_6_210 : (Jvm.Cond.instanceMethod ({ cls := "StripedVault$Source", name := "readGroups", desc := "([JIJII)I" } : Jvm.MethodName)) ∈ TG := tw_6 210 (by decide +kernel) (by decide +kernel)
theorem w_6_211 : (Jvm.Cond.code ({ cls := "StripedVault$Source", name := "readGroups", desc := "([JIJII)I" } : Jvm.MethodName) prog_10_method_15_code (11 : Nat) (Option.some Jvm.ClassFile.FieldType.int)) ∈ TG := tw_6 211 (by decide +kernel) (by decide +kernel)
theorem w_6_212 : (Jvm.Cond.methodLink "StripedVault$Source" (76 : Nat) ({ cls := "StripedVault$Source", name := "bitsAt", desc := "(II)J" } : Jvm.MethodName)) ∈ TG := tw_6 212 (by decide +kernel) (by decide +kernel)
theorem w_6_214 : (Jvm.Cond.instanceMethod ({ cls := "StripedVault$Source", name := "bitsAt", desc := "(II)J" } : Jvm.MethodName)) ∈ TG := tw_6 214 (by decide +kernel) (by decide +kernel)
theorem w_6_215 : (Jvm.Cond.code ({ cls := "StripedVault$Source", name := "bitsAt", desc := "(II)J" } : Jvm.MethodName) prog_10_method_12_code (10 : Nat) (Option.some Jvm.ClassFile.FieldType.long)) ∈ TG := tw_6 215 (by decide +kernel) (by decide +kernel)
theorem wn_6_198 : (Jvm.Cond.methodLinkNest "StripedVault$Opener" (297 : Nat) ({ cls := "StripedVault", name := "widthOf", desc := "(J)I" } : Jvm.MethodName) "StripedVault") ∈ lw_tbl := tb_6 _ (List.mem_of_getElem? (i := 198) (by decide +kernel))
theorem ws_43 : Cond.selects R_Src y_Src_readSame y_Src_readSame ∈ TG := tw_s 43 (by decide +kernel) (by decide +kernel)
theorem ws_44 : Cond.selects R_Src y_Src_readGroups y_Src_readGroups ∈ TG := tw_s 44 (by decide +kernel) (by decide +kernel)
theorem ws_45 : Cond.selects R_Src y_Src_bitsAt y_Src_bitsAt ∈ TG := tw_s 45 (by decide +kernel) (by decide +kernel)
theorem d_Src_bitsAt_98 : decode b_Src_bitsAt 98 = .ok (.lload_n 3, 1) := by decide +kernel
theorem d_Src_bitsAt_99 : decode b_Src_bitsAt 99 = .ok (.lreturn, 1) := by decide +kernel
theorem d_Src_bitsAt_8 : decode b_Src_bitsAt 8 = .ok (.iload 6, 2) := by decide +kernel
theorem d_Src_bitsAt_10 : decode b_Src_bitsAt 10 = .ok (.bipush 10, 2) := by decide +kernel
theorem d_Src_bitsAt_12 : decode b_Src_bitsAt 12 = .ok (.if_icmp .ge 86, 3) := by decide +kernel
theorem d_Src_bitsAt_15 : decode b_Src_bitsAt 15 = .ok (.iload 5, 2) := by decide +kernel
theorem d_Src_bitsAt_17 : decode b_Src_bitsAt 17 = .ok (.iload_n 2, 1) := by decide +kernel
theorem d_Src_bitsAt_18 : decode b_Src_bitsAt 18 = .ok (.if_icmp .ge 80, 3) := by decide +kernel
theorem d_Src_bitsAt_21 : decode b_Src_bitsAt 21 = .ok (.iload_n 1, 1) := by decide +kernel
theorem d_Src_bitsAt_22 : decode b_Src_bitsAt 22 = .ok (.iload 5, 2) := by decide +kernel
theorem d_Src_bitsAt_24 : decode b_Src_bitsAt 24 = .ok (.iadd, 1) := by decide +kernel
theorem d_Src_bitsAt_25 : decode b_Src_bitsAt 25 = .ok (.bipush 7, 2) := by decide +kernel
theorem d_Src_bitsAt_27 : decode b_Src_bitsAt 27 = .ok (.iand, 1) := by decide +kernel
theorem d_Src_bitsAt_28 : decode b_Src_bitsAt 28 = .ok (.istore 7, 2) := by decide +kernel
theorem d_Src_bitsAt_30 : decode b_Src_bitsAt 30 = .ok (.bipush 8, 2) := by decide +kernel
theorem d_Src_bitsAt_32 : decode b_Src_bitsAt 32 = .ok (.iload 7, 2) := by decide +kernel
theorem d_Src_bitsAt_34 : decode b_Src_bitsAt 34 = .ok (.isub, 1) := by decide +kernel
theorem d_Src_bitsAt_35 : decode b_Src_bitsAt 35 = .ok (.iload_n 2, 1) := by decide +kernel
theorem d_Src_bitsAt_36 : decode b_Src_bitsAt 36 = .ok (.iload 5, 2) := by decide +kernel
theorem d_Src_bitsAt_38 : decode b_Src_bitsAt 38 = .ok (.isub, 1) := by decide +kernel
theorem d_Src_bitsAt_39 : decode b_Src_bitsAt 39 = .ok (.invokestatic 23, 3) := by decide +kernel
theorem d_Src_bitsAt_42 : decode b_Src_bitsAt 42 = .ok (.istore 8, 2) := by decide +kernel
theorem d_Src_bitsAt_44 : decode b_Src_bitsAt 44 = .ok (.aload_n 0, 1) := by decide +kernel
theorem d_Src_bitsAt_45 : decode b_Src_bitsAt 45 = .ok (.getfield 15, 3) := by decide +kernel
theorem d_Src_bitsAt_48 : decode b_Src_bitsAt 48 = .ok (.aload_n 0, 1) := by decide +kernel
theorem d_Src_bitsAt_49 : decode b_Src_bitsAt 49 = .ok (.getfield 19, 3) := by decide +kernel
theorem d_Src_bitsAt_52 : decode b_Src_bitsAt 52 = .ok (.iload_n 1, 1) := by decide +kernel
theorem d_Src_bitsAt_53 : decode b_Src_bitsAt 53 = .ok (.iload 5, 2) := by decide +kernel
theorem d_Src_bitsAt_55 : decode b_Src_bitsAt 55 = .ok (.iadd, 1) := by decide +kernel
theorem d_Src_bitsAt_56 : decode b_Src_bitsAt 56 = .ok (.iconst 3, 1) := by decide +kernel
theorem d_Src_bitsAt_57 : decode b_Src_bitsAt 57 = .ok (.ishr, 1) := by decide +kernel
theorem d_Src_bitsAt_58 : decode b_Src_bitsAt 58 = .ok (.iadd, 1) := by decide +kernel
theorem d_Src_bitsAt_59 : decode b_Src_bitsAt 59 = .ok (.baload, 1) := by decide +kernel
theorem d_Src_bitsAt_60 : decode b_Src_bitsAt 60 = .ok (.sipush 255, 3) := by decide +kernel
theorem d_Src_bitsAt_63 : decode b_Src_bitsAt 63 = .ok (.iand, 1) := by decide +kernel
theorem d_Src_bitsAt_64 : decode b_Src_bitsAt 64 = .ok (.istore 9, 2) := by decide +kernel
theorem d_Src_bitsAt_66 : decode b_Src_bitsAt 66 = .ok (.lload_n 3, 1) := by decide +kernel
theorem d_Src_bitsAt_67 : decode b_Src_bitsAt 67 = .ok (.iload 9, 2) := by decide +kernel
theorem d_Src_bitsAt_69 : decode b_Src_bitsAt 69 = .ok (.iload 7, 2) := by decide +kernel
theorem d_Src_bitsAt_71 : decode b_Src_bitsAt 71 = .ok (.ishr, 1) := by decide +kernel
theorem d_Src_bitsAt_72 : decode b_Src_bitsAt 72 = .ok (.iconst 1, 1) := by decide +kernel
theorem d_Src_bitsAt_73 : decode b_Src_bitsAt 73 = .ok (.iload 8, 2) := by decide +kernel
theorem d_Src_bitsAt_75 : decode b_Src_bitsAt 75 = .ok (.ishl, 1) := by decide +kernel
theorem d_Src_bitsAt_76 : decode b_Src_bitsAt 76 = .ok (.iconst 1, 1) := by decide +kernel
theorem d_Src_bitsAt_77 : decode b_Src_bitsAt 77 = .ok (.isub, 1) := by decide +kernel
theorem d_Src_bitsAt_78 : decode b_Src_bitsAt 78 = .ok (.iand, 1) := by decide +kernel
theorem d_Src_bitsAt_79 : decode b_Src_bitsAt 79 = .ok (.i2l, 1) := by decide +kernel
theorem d_Src_bitsAt_80 : decode b_Src_bitsAt 80 = .ok (.iload 5, 2) := by decide +kernel
theorem d_Src_bitsAt_82 : decode b_Src_bitsAt 82 = .ok (.lshl, 1) := by decide +kernel
theorem d_Src_bitsAt_83 : decode b_Src_bitsAt 83 = .ok (.lor, 1) := by decide +kernel
theorem d_Src_bitsAt_84 : decode b_Src_bitsAt 84 = .ok (.lstore_n 3, 1) := by decide +kernel
theorem d_Src_bitsAt_85 : decode b_Src_bitsAt 85 = .ok (.iload 5, 2) := by decide +kernel
theorem d_Src_bitsAt_87 : decode b_Src_bitsAt 87 = .ok (.iload 8, 2) := by decide +kernel
theorem d_Src_bitsAt_89 : decode b_Src_bitsAt 89 = .ok (.iadd, 1) := by decide +kernel
theorem d_Src_bitsAt_90 : decode b_Src_bitsAt 90 = .ok (.istore 5, 2) := by decide +kernel
theorem d_Src_bitsAt_92 : decode b_Src_bitsAt 92 = .ok (.iinc 6 1, 3) := by decide +kernel
theorem d_Src_bitsAt_95 : decode b_Src_bitsAt 95 = .ok (.goto (-87), 3) := by decide +kernel
theorem d_Src_bitsAt_0 : decode b_Src_bitsAt 0 = .ok (.lconst 0, 1) := by decide +kernel
theorem d_Src_bitsAt_1 : decode b_Src_bitsAt 1 = .ok (.lstore_n 3, 1) := by decide +kernel
theorem d_Src_bitsAt_2 : decode b_Src_bitsAt 2 = .ok (.iconst 0, 1) := by decide +kernel
theorem d_Src_bitsAt_3 : decode b_Src_bitsAt 3 = .ok (.istore 5, 2) := by decide +kernel
theorem d_Src_bitsAt_5 : decode b_Src_bitsAt 5 = .ok (.iconst 0, 1) := by decide +kernel
theorem d_Src_bitsAt_6 : decode b_Src_bitsAt 6 = .ok (.istore 6, 2) := by decide +kernel
theorem d_Src_readGroups_88 : decode b_Src_readGroups 88 = .ok (.iinc 8 1, 3) := by decide +kernel
theorem d_Src_readGroups_91 : decode b_Src_readGroups 91 = .ok (.goto (-60), 3) := by decide +kernel
theorem d_Src_readGroups_84 : decode b_Src_readGroups 84 = .ok (.iconst 5, 1) := by decide +kernel
theorem d_Src_readGroups_85 : decode b_Src_readGroups 85 = .ok (.invokevirtual 39, 3) := by decide +kernel
theorem d_Src_readGroups_31 : decode b_Src_readGroups 31 = .ok (.iload 8, 2) := by decide +kernel
theorem d_Src_readGroups_33 : decode b_Src_readGroups 33 = .ok (.iload 7, 2) := by decide +kernel
theorem d_Src_readGroups_35 : decode b_Src_readGroups 35 = .ok (.if_icmp .ge 59, 3) := by decide +kernel
theorem d_Src_readGroups_94 : decode b_Src_readGroups 94 = .ok (.aload_n 0, 1) := by decide +kernel
theorem d_Src_readGroups_95 : decode b_Src_readGroups 95 = .ok (.dup, 1) := by decide +kernel
theorem d_Src_readGroups_96 : decode b_Src_readGroups 96 = .ok (.getfield 19, 3) := by decide +kernel
theorem d_Src_readGroups_99 : decode b_Src_readGroups 99 = .ok (.lload_n 3, 1) := by decide +kernel
theorem d_Src_readGroups_100 : decode b_Src_readGroups 100 = .ok (.l2i, 1) := by decide +kernel
theorem d_Src_readGroups_101 : decode b_Src_readGroups 101 = .ok (.iload 6, 2) := by decide +kernel
theorem d_Src_readGroups_103 : decode b_Src_readGroups 103 = .ok (.imul, 1) := by decide +kernel
theorem d_Src_readGroups_104 : decode b_Src_readGroups 104 = .ok (.iadd, 1) := by decide +kernel
theorem d_Src_readGroups_105 : decode b_Src_readGroups 105 = .ok (.putfield 19, 3) := by decide +kernel
theorem d_Src_readGroups_108 : decode b_Src_readGroups 108 = .ok (.iload_n 2, 1) := by decide +kernel
theorem d_Src_readGroups_109 : decode b_Src_readGroups 109 = .ok (.iload 7, 2) := by decide +kernel
theorem d_Src_readGroups_111 : decode b_Src_readGroups 111 = .ok (.iadd, 1) := by decide +kernel
theorem d_Src_readGroups_112 : decode b_Src_readGroups 112 = .ok (.iload 5, 2) := by decide +kernel
theorem d_Src_readGroups_114 : decode b_Src_readGroups 114 = .ok (.invokestatic 23, 3) := by decide +kernel
theorem d_Src_readGroups_117 : decode b_Src_readGroups 117 = .ok (.ireturn, 1) := by decide +kernel
theorem d_Src_readGroups_38 : decode b_Src_readGroups 38 = .ok (.aload_n 0, 1) := by decide +kernel
theorem d_Src_readGroups_39 : decode b_Src_readGroups 39 = .ok (.iload 8, 2) := by decide +kernel
theorem d_Src_readGroups_41 : decode b_Src_readGroups 41 = .ok (.iload 6, 2) := by decide +kernel
theorem d_Src_readGroups_43 : decode b_Src_readGroups 43 = .ok (.imul, 1) := by decide +kernel
theorem d_Src_readGroups_44 : decode b_Src_readGroups 44 = .ok (.iload 6, 2) := by decide +kernel
theorem d_Src_readGroups_46 : decode b_Src_readGroups 46 = .ok (.invokevirtual 76, 3) := by decide +kernel
theorem d_Src_readGroups_49 : decode b_Src_readGroups 49 = .ok (.lstore 9, 2) := by decide +kernel
theorem d_Src_readGroups_51 : decode b_Src_readGroups 51 = .ok (.iload_n 2, 1) := by decide +kernel
theorem d_Src_readGroups_52 : decode b_Src_readGroups 52 = .ok (.iload 8, 2) := by decide +kernel
theorem d_Src_readGroups_54 : decode b_Src_readGroups 54 = .ok (.iadd, 1) := by decide +kernel
theorem d_Src_readGroups_55 : decode b_Src_readGroups 55 = .ok (.iload 5, 2) := by decide +kernel
theorem d_Src_readGroups_57 : decode b_Src_readGroups 57 = .ok (.if_icmp .ge 14, 3) := by decide +kernel
theorem d_Src_readGroups_71 : decode b_Src_readGroups 71 = .ok (.aload_n 0, 1) := by decide +kernel
theorem d_Src_readGroups_72 : decode b_Src_readGroups 72 = .ok (.lload 9, 2) := by decide +kernel
theorem d_Src_readGroups_74 : decode b_Src_readGroups 74 = .ok (.lconst 0, 1) := by decide +kernel
theorem d_Src_readGroups_75 : decode b_Src_readGroups 75 = .ok (.lcmp, 1) := by decide +kernel
theorem d_Src_readGroups_76 : decode b_Src_readGroups 76 = .ok (.ifCond .ne 7, 3) := by decide +kernel
theorem d_Src_readGroups_83 : decode b_Src_readGroups 83 = .ok (.iconst 0, 1) := by decide +kernel
theorem d_Src_readGroups_79 : decode b_Src_readGroups 79 = .ok (.iconst 1, 1) := by decide +kernel
theorem d_Src_readGroups_80 : decode b_Src_readGroups 80 = .ok (.goto 4, 3) := by decide +kernel
theorem d_Src_readGroups_60 : decode b_Src_readGroups 60 = .ok (.aload_n 1, 1) := by decide +kernel
theorem d_Src_readGroups_61 : decode b_Src_readGroups 61 = .ok (.iload_n 2, 1) := by decide +kernel
theorem d_Src_readGroups_62 : decode b_Src_readGroups 62 = .ok (.iload 8, 2) := by decide +kernel
theorem d_Src_readGroups_64 : decode b_Src_readGroups 64 = .ok (.iadd, 1) := by decide +kernel
theorem d_Src_readGroups_65 : decode b_Src_readGroups 65 = .ok (.lload 9, 2) := by decide +kernel
theorem d_Src_readGroups_67 : decode b_Src_readGroups 67 = .ok (.lastore, 1) := by decide +kernel
theorem d_Src_readGroups_68 : decode b_Src_readGroups 68 = .ok (.goto 20, 3) := by decide +kernel
theorem d_Src_readGroups_19 : decode b_Src_readGroups 19 = .ok (.iload_n 2, 1) := by decide +kernel
theorem d_Src_readGroups_20 : decode b_Src_readGroups 20 = .ok (.ireturn, 1) := by decide +kernel
theorem d_Src_readGroups_0 : decode b_Src_readGroups 0 = .ok (.aload_n 0, 1) := by decide +kernel
theorem d_Src_readGroups_1 : decode b_Src_readGroups 1 = .ok (.getfield 32, 3) := by decide +kernel
theorem d_Src_readGroups_4 : decode b_Src_readGroups 4 = .ok (.ifCond .ne 15, 3) := by decide +kernel
theorem d_Src_readGroups_7 : decode b_Src_readGroups 7 = .ok (.aload_n 0, 1) := by decide +kernel
theorem d_Src_readGroups_8 : decode b_Src_readGroups 8 = .ok (.lload_n 3, 1) := by decide +kernel
theorem d_Src_readGroups_9 : decode b_Src_readGroups 9 = .ok (.iload 6, 2) := by decide +kernel
theorem d_Src_readGroups_11 : decode b_Src_readGroups 11 = .ok (.i2l, 1) := by decide +kernel
theorem d_Src_readGroups_12 : decode b_Src_readGroups 12 = .ok (.lmul, 1) := by decide +kernel
theorem d_Src_readGroups_13 : decode b_Src_readGroups 13 = .ok (.invokevirtual 35, 3) := by decide +kernel
theorem d_Src_readGroups_16 : decode b_Src_readGroups 16 = .ok (.ifCond .ne 5, 3) := by decide +kernel
theorem d_Src_readGroups_21 : decode b_Src_readGroups 21 = .ok (.lload_n 3, 1) := by decide +kernel
theorem d_Src_readGroups_22 : decode b_Src_readGroups 22 = .ok (.l2i, 1) := by decide +kernel
theorem d_Src_readGroups_23 : decode b_Src_readGroups 23 = .ok (.bipush 8, 2) := by decide +kernel
theorem d_Src_readGroups_25 : decode b_Src_readGroups 25 = .ok (.imul, 1) := by decide +kernel
theorem d_Src_readGroups_26 : decode b_Src_readGroups 26 = .ok (.istore 7, 2) := by decide +kernel
theorem d_Src_readGroups_28 : decode b_Src_readGroups 28 = .ok (.iconst 0, 1) := by decide +kernel
theorem d_Src_readGroups_29 : decode b_Src_readGroups 29 = .ok (.istore 8, 2) := by decide +kernel
theorem d_Src_readRuns_140 : decode b_Src_readRuns 140 = .ok (.iinc 5 1, 3) := by decide +kernel
theorem d_Src_readRuns_143 : decode b_Src_readRuns 143 = .ok (.goto (-137), 3) := by decide +kernel
theorem d_Src_readRuns_123 : decode b_Src_readRuns 123 = .ok (.iconst 4, 1) := by decide +kernel
theorem d_Src_readRuns_124 : decode b_Src_readRuns 124 = .ok (.invokevirtual 39, 3) := by decide +kernel
theorem d_Src_readRuns_127 : decode b_Src_readRuns 127 = .ok (.aload_n 0, 1) := by decide +kernel
theorem d_Src_readRuns_128 : decode b_Src_readRuns 128 = .ok (.aload_n 1, 1) := by decide +kernel
theorem d_Src_readRuns_129 : decode b_Src_readRuns 129 = .ok (.iload 4, 2) := by decide +kernel
theorem d_Src_readRuns_131 : decode b_Src_readRuns 131 = .ok (.lload 8, 2) := by decide +kernel
theorem d_Src_readRuns_133 : decode b_Src_readRuns 133 = .ok (.iload_n 2, 1) := by decide +kernel
theorem d_Src_readRuns_134 : decode b_Src_readRuns 134 = .ok (.iload_n 3, 1) := by decide +kernel
theorem d_Src_readRuns_135 : decode b_Src_readRuns 135 = .ok (.invokevirtual 68, 3) := by decide +kernel
theorem d_Src_readRuns_138 : decode b_Src_readRuns 138 = .ok (.istore 4, 2) := by decide +kernel
theorem d_Src_readRuns_80 : decode b_Src_readRuns 80 = .ok (.iconst 4, 1) := by decide +kernel
theorem d_Src_readRuns_81 : decode b_Src_readRuns 81 = .ok (.invokevirtual 39, 3) := by decide +kernel
theorem d_Src_readRuns_84 : decode b_Src_readRuns 84 = .ok (.aload_n 0, 1) := by decide +kernel
theorem d_Src_readRuns_85 : decode b_Src_readRuns 85 = .ok (.aload_n 1, 1) := by decide +kernel
theorem d_Src_readRuns_86 : decode b_Src_readRuns 86 = .ok (.iload 4, 2) := by decide +kernel
theorem d_Src_readRuns_88 : decode b_Src_readRuns 88 = .ok (.lload 8, 2) := by decide +kernel
theorem d_Src_readRuns_90 : decode b_Src_readRuns 90 = .ok (.iload_n 3, 1) := by decide +kernel
theorem d_Src_readRuns_91 : decode b_Src_readRuns 91 = .ok (.invokevirtual 64, 3) := by decide +kernel
theorem d_Src_readRuns_94 : decode b_Src_readRuns 94 = .ok (.istore 4, 2) := by decide +kernel
theorem d_Src_readRuns_96 : decode b_Src_readRuns 96 = .ok (.goto 44, 3) := by decide +kernel
theorem d_Src_readRuns_50 : decode b_Src_readRuns 50 = .ok (.iconst 3, 1) := by decide +kernel
theorem d_Src_readRuns_51 : decode b_Src_readRuns 51 = .ok (.invokevirtual 39, 3) := by decide +kernel
theorem d_Src_readRuns_54 : decode b_Src_readRuns 54 = .ok (.lload 6, 2) := by decide +kernel
theorem d_Src_readRuns_56 : decode b_Src_readRuns 56 = .ok (.lconst 1, 1) := by decide +kernel
theorem d_Src_readRuns_57 : decode b_Src_readRuns 57 = .ok (.land, 1) := by decide +kernel
theorem d_Src_readRuns_58 : decode b_Src_readRuns 58 = .ok (.lconst 0, 1) := by decide +kernel
theorem d_Src_readRuns_59 : decode b_Src_readRuns 59 = .ok (.lcmp, 1) := by decide +kernel
theorem d_Src_readRuns_60 : decode b_Src_readRuns 60 = .ok (.ifCond .ne 39, 3) := by decide +kernel
theorem d_Src_readRuns_99 : decode b_Src_readRuns 99 = .ok (.aload_n 0, 1) := by decide +kernel
theorem d_Src_readRuns_100 : decode b_Src_readRuns 100 = .ok (.lload 8, 2) := by decide +kernel
theorem d_Src_readRuns_102 : decode b_Src_readRuns 102 = .ok (.lconst 1, 1) := by decide +kernel
theorem d_Src_readRuns_103 : decode b_Src_readRuns 103 = .ok (.lsub, 1) := by decide +kernel
theorem d_Src_readRuns_104 : decode b_Src_readRuns 104 = .ok (.iload_n 2, 1) := by decide +kernel
theorem d_Src_readRuns_105 : decode b_Src_readRuns 105 = .ok (.iload 4, 2) := by decide +kernel
theorem d_Src_readRuns_107 : decode b_Src_readRuns 107 = .ok (.isub, 1) := by decide +kernel
theorem d_Src_readRuns_108 : decode b_Src_readRuns 108 = .ok (.iconst 1, 1) := by decide +kernel
theorem d_Src_readRuns_109 : decode b_Src_readRuns 109 = .ok (.isub, 1) := by decide +kernel
theorem d_Src_readRuns_110 : decode b_Src_readRuns 110 = .ok (.bipush 8, 2) := by decide +kernel
theorem d_Src_readRuns_112 : decode b_Src_readRuns 112 = .ok (.idiv, 1) := by decide +kernel
theorem d_Src_readRuns_113 : decode b_Src_readRuns 113 = .ok (.i2l, 1) := by decide +kernel
theorem d_Src_readRuns_114 : decode b_Src_readRuns 114 = .ok (.lcmp, 1) := by decide +kernel
theorem d_Src_readRuns_115 : decode b_Src_readRuns 115 = .ok (.ifCond .gt 7, 3) := by decide +kernel
theorem d_Src_readRuns_122 : decode b_Src_readRuns 122 = .ok (.iconst 0, 1) := by decide +kernel
theorem d_Src_readRuns_118 : decode b_Src_readRuns 118 = .ok (.iconst 1, 1) := by decide +kernel
theorem d_Src_readRuns_119 : decode b_Src_readRuns 119 = .ok (.goto 4, 3) := by decide +kernel
theorem d_Src_readRuns_63 : decode b_Src_readRuns 63 = .ok (.aload_n 0, 1) := by decide +kernel
theorem d_Src_readRuns_64 : decode b_Src_readRuns 64 = .ok (.lload 8, 2) := by decide +kernel
theorem d_Src_readRuns_66 : decode b_Src_readRuns 66 = .ok (.iload_n 2, 1) := by decide +kernel
theorem d_Src_readRuns_67 : decode b_Src_readRuns 67 = .ok (.iload 4, 2) := by decide +kernel
theorem d_Src_readRuns_69 : decode b_Src_readRuns 69 = .ok (.isub, 1) := by decide +kernel
theorem d_Src_readRuns_70 : decode b_Src_readRuns 70 = .ok (.i2l, 1) := by decide +kernel
theorem d_Src_readRuns_71 : decode b_Src_readRuns 71 = .ok (.lcmp, 1) := by decide +kernel
theorem d_Src_readRuns_72 : decode b_Src_readRuns 72 = .ok (.ifCond .gt 7, 3) := by decide +kernel
theorem d_Src_readRuns_79 : decode b_Src_readRuns 79 = .ok (.iconst 0, 1) := by decide +kernel
theorem d_Src_readRuns_75 : decode b_Src_readRuns 75 = .ok (.iconst 1, 1) := by decide +kernel
theorem d_Src_readRuns_76 : decode b_Src_readRuns 76 = .ok (.goto 4, 3) := by decide +kernel
theorem d_Src_readRuns_6 : decode b_Src_readRuns 6 = .ok (.iload 5, 2) := by decide +kernel
theorem d_Src_readRuns_8 : decode b_Src_readRuns 8 = .ok (.iload_n 2, 1) := by decide +kernel
theorem d_Src_readRuns_9 : decode b_Src_readRuns 9 = .ok (.if_icmp .ge 137, 3) := by decide +kernel
theorem d_Src_readRuns_146 : decode b_Src_readRuns 146 = .ok (.return_, 1) := by decide +kernel
theorem d_Src_readRuns_12 : decode b_Src_readRuns 12 = .ok (.iload 4, 2) := by decide +kernel
theorem d_Src_readRuns_14 : decode b_Src_readRuns 14 = .ok (.iload_n 2, 1) := by decide +kernel
theorem d_Src_readRuns_15 : decode b_Src_readRuns 15 = .ok (.if_icmp .ge 131, 3) := by decide +kernel
theorem d_Src_readRuns_18 : decode b_Src_readRuns 18 = .ok (.aload_n 0, 1) := by decide +kernel
theorem d_Src_readRuns_19 : decode b_Src_readRuns 19 = .ok (.getfield 32, 3) := by decide +kernel
theorem d_Src_readRuns_22 : decode b_Src_readRuns 22 = .ok (.ifCond .ne 124, 3) := by decide +kernel
theorem d_Src_readRuns_25 : decode b_Src_readRuns 25 = .ok (.aload_n 0, 1) := by decide +kernel
theorem d_Src_readRuns_26 : decode b_Src_readRuns 26 = .ok (.invokevirtual 49, 3) := by decide +kernel
theorem d_Src_readRuns_29 : decode b_Src_readRuns 29 = .ok (.lstore 6, 2) := by decide +kernel
theorem d_Src_readRuns_31 : decode b_Src_readRuns 31 = .ok (.lload 6, 2) := by decide +kernel
theorem d_Src_readRuns_33 : decode b_Src_readRuns 33 = .ok (.iconst 1, 1) := by decide +kernel
theorem d_Src_readRuns_34 : decode b_Src_readRuns 34 = .ok (.lushr, 1) := by decide +kernel
theorem d_Src_readRuns_35 : decode b_Src_readRuns 35 = .ok (.lstore 8, 2) := by decide +kernel
theorem d_Src_readRuns_37 : decode b_Src_readRuns 37 = .ok (.aload_n 0, 1) := by decide +kernel
theorem d_Src_readRuns_38 : decode b_Src_readRuns 38 = .ok (.lload 8, 2) := by decide +kernel
theorem d_Src_readRuns_40 : decode b_Src_readRuns 40 = .ok (.lconst 0, 1) := by decide +kernel
theorem d_Src_readRuns_41 : decode b_Src_readRuns 41 = .ok (.lcmp, 1) := by decide +kernel
theorem d_Src_readRuns_42 : decode b_Src_readRuns 42 = .ok (.ifCond .le 7, 3) := by decide +kernel
theorem d_Src_readRuns_49 : decode b_Src_readRuns 49 = .ok (.iconst 0, 1) := by decide +kernel
theorem d_Src_readRuns_45 : decode b_Src_readRuns 45 = .ok (.iconst 1, 1) := by decide +kernel
theorem d_Src_readRuns_46 : decode b_Src_readRuns 46 = .ok (.goto 4, 3) := by decide +kernel
theorem d_Src_readRuns_0 : decode b_Src_readRuns 0 = .ok (.iconst 0, 1) := by decide +kernel
theorem d_Src_readRuns_1 : decode b_Src_readRuns 1 = .ok (.istore 4, 2) := by decide +kernel
theorem d_Src_readRuns_3 : decode b_Src_readRuns 3 = .ok (.iconst 0, 1) := by decide +kernel
theorem d_Src_readRuns_4 : decode b_Src_readRuns 4 = .ok (.istore 5, 2) := by decide +kernel
theorem d_Opn_readLevels_106 : decode b_Opn_readLevels 106 = .ok (.bipush 9, 2) := by decide +kernel
theorem d_Opn_readLevels_108 : decode b_Opn_readLevels 108 = .ok (.invokevirtual 95, 3) := by decide +kernel
theorem d_Opn_readLevels_111 : decode b_Opn_readLevels 111 = .ok (.aload_n 1, 1) := by decide +kernel
theorem d_Opn_readLevels_112 : decode b_Opn_readLevels 112 = .ok (.aload_n 0, 1) := by decide +kernel
theorem d_Opn_readLevels_113 : decode b_Opn_readLevels 113 = .ok (.getfield 25, 3) := by decide +kernel
theorem d_Opn_readLevels_116 : decode b_Opn_readLevels 116 = .ok (.getfield 189, 3) := by decide +kernel
theorem d_Opn_readLevels_119 : decode b_Opn_readLevels 119 = .ok (.iload 4, 2) := by decide +kernel
theorem d_Opn_readLevels_121 : decode b_Opn_readLevels 121 = .ok (.iadd, 1) := by decide +kernel
theorem d_Opn_readLevels_122 : decode b_Opn_readLevels 122 = .ok (.lload 5, 2) := by decide +kernel
theorem d_Opn_readLevels_124 : decode b_Opn_readLevels 124 = .ok (.l2i, 1) := by decide +kernel
theorem d_Opn_readLevels_125 : decode b_Opn_readLevels 125 = .ok (.i2b, 1) := by decide +kernel
theorem d_Opn_readLevels_126 : decode b_Opn_readLevels 126 = .ok (.bastore, 1) := by decide +kernel
theorem d_Opn_readLevels_127 : decode b_Opn_readLevels 127 = .ok (.iinc 4 1, 3) := by decide +kernel
theorem d_Opn_readLevels_130 : decode b_Opn_readLevels 130 = .ok (.goto (-74), 3) := by decide +kernel
theorem d_Opn_readLevels_87 : decode b_Opn_readLevels 87 = .ok (.lstore 5, 2) := by decide +kernel
theorem d_Opn_readLevels_89 : decode b_Opn_readLevels 89 = .ok (.aload_n 0, 1) := by decide +kernel
theorem d_Opn_readLevels_90 : decode b_Opn_readLevels 90 = .ok (.getfield 44, 3) := by decide +kernel
theorem d_Opn_readLevels_93 : decode b_Opn_readLevels 93 = .ok (.lload 5, 2) := by decide +kernel
theorem d_Opn_readLevels_95 : decode b_Opn_readLevels 95 = .ok (.iload_n 3, 1) := by decide +kernel
theorem d_Opn_readLevels_96 : decode b_Opn_readLevels 96 = .ok (.i2l, 1) := by decide +kernel
theorem d_Opn_readLevels_97 : decode b_Opn_readLevels 97 = .ok (.lcmp, 1) := by decide +kernel
theorem d_Opn_readLevels_98 : decode b_Opn_readLevels 98 = .ok (.ifCond .gt 7, 3) := by decide +kernel
theorem d_Opn_readLevels_105 : decode b_Opn_readLevels 105 = .ok (.iconst 0, 1) := by decide +kernel
theorem d_Opn_readLevels_101 : decode b_Opn_readLevels 101 = .ok (.iconst 1, 1) := by decide +kernel
theorem d_Opn_readLevels_102 : decode b_Opn_readLevels 102 = .ok (.goto 4, 3) := by decide +kernel
theorem d_Opn_readLevels_56 : decode b_Opn_readLevels 56 = .ok (.iload 4, 2) := by decide +kernel
theorem d_Opn_readLevels_58 : decode b_Opn_readLevels 58 = .ok (.iload_n 2, 1) := by decide +kernel
theorem d_Opn_readLevels_59 : decode b_Opn_readLevels 59 = .ok (.if_icmp .ge 74, 3) := by decide +kernel
theorem d_Opn_readLevels_133 : decode b_Opn_readLevels 133 = .ok (.return_, 1) := by decide +kernel
theorem d_Opn_readLevels_62 : decode b_Opn_readLevels 62 = .ok (.aload_n 0, 1) := by decide +kernel
theorem d_Opn_readLevels_63 : decode b_Opn_readLevels 63 = .ok (.getfield 44, 3) := by decide +kernel
theorem d_Opn_readLevels_66 : decode b_Opn_readLevels 66 = .ok (.getfield 107, 3) := by decide +kernel
theorem d_Opn_readLevels_69 : decode b_Opn_readLevels 69 = .ok (.ifCond .ne 64, 3) := by decide +kernel
theorem d_Opn_readLevels_72 : decode b_Opn_readLevels 72 = .ok (.iload_n 3, 1) := by decide +kernel
theorem d_Opn_readLevels_73 : decode b_Opn_readLevels 73 = .ok (.ifCond .le 13, 3) := by decide +kernel
theorem d_Opn_readLevels_86 : decode b_Opn_readLevels 86 = .ok (.lconst 0, 1) := by decide +kernel
theorem d_Opn_readLevels_76 : decode b_Opn_readLevels 76 = .ok (.aload_n 0, 1) := by decide +kernel
theorem d_Opn_readLevels_77 : decode b_Opn_readLevels 77 = .ok (.getfield 19, 3) := by decide +kernel
theorem d_Opn_readLevels_80 : decode b_Opn_readLevels 80 = .ok (.iload 4, 2) := by decide +kernel
theorem d_Opn_readLevels_82 : decode b_Opn_readLevels 82 = .ok (.laload, 1) := by decide +kernel
theorem d_Opn_readLevels_83 : decode b_Opn_readLevels 83 = .ok (.goto 4, 3) := by decide +kernel
theorem d_Opn_readLevels_53 : decode b_Opn_readLevels 53 = .ok (.iconst 0, 1) := by decide +kernel
theorem d_Opn_readLevels_54 : decode b_Opn_readLevels 54 = .ok (.istore 4, 2) := by decide +kernel
theorem d_Opn_readLevels_0 : decode b_Opn_readLevels 0 = .ok (.iload_n 3, 1) := by decide +kernel
theorem d_Opn_readLevels_1 : decode b_Opn_readLevels 1 = .ok (.ifCond .le 52, 3) := by decide +kernel
theorem d_Opn_readLevels_4 : decode b_Opn_readLevels 4 = .ok (.aload_n 0, 1) := by decide +kernel
theorem d_Opn_readLevels_5 : decode b_Opn_readLevels 5 = .ok (.getfield 44, 3) := by decide +kernel
theorem d_Opn_readLevels_8 : decode b_Opn_readLevels 8 = .ok (.aload_n 0, 1) := by decide +kernel
theorem d_Opn_readLevels_9 : decode b_Opn_readLevels 9 = .ok (.getfield 44, 3) := by decide +kernel
theorem d_Opn_readLevels_12 : decode b_Opn_readLevels 12 = .ok (.invokevirtual 85, 3) := by decide +kernel
theorem d_Opn_readLevels_15 : decode b_Opn_readLevels 15 = .ok (.invokevirtual 293, 3) := by decide +kernel
theorem d_Opn_readLevels_18 : decode b_Opn_readLevels 18 = .ok (.istore 4, 2) := by decide +kernel
theorem d_Opn_readLevels_20 : decode b_Opn_readLevels 20 = .ok (.aload_n 0, 1) := by decide +kernel
theorem d_Opn_readLevels_21 : decode b_Opn_readLevels 21 = .ok (.getfield 44, 3) := by decide +kernel
theorem d_Opn_readLevels_24 : decode b_Opn_readLevels 24 = .ok (.aload_n 0, 1) := by decide +kernel
theorem d_Opn_readLevels_25 : decode b_Opn_readLevels 25 = .ok (.getfield 19, 3) := by decide +kernel
theorem d_Opn_readLevels_28 : decode b_Opn_readLevels 28 = .ok (.iload_n 2, 1) := by decide +kernel
theorem d_Opn_readLevels_29 : decode b_Opn_readLevels 29 = .ok (.iload_n 3, 1) := by decide +kernel
theorem d_Opn_readLevels_30 : decode b_Opn_readLevels 30 = .ok (.i2l, 1) := by decide +kernel
theorem d_Opn_readLevels_31 : decode b_Opn_readLevels 31 = .ok (.invokestatic 297, 3) := by decide +kernel
theorem d_Opn_readLevels_34 : decode b_Opn_readLevels 34 = .ok (.invokevirtual 300, 3) := by decide +kernel
theorem d_Opn_readLevels_37 : decode b_Opn_readLevels 37 = .ok (.aload_n 0, 1) := by decide +kernel
theorem d_Opn_readLevels_38 : decode b_Opn_readLevels 38 = .ok (.getfield 44, 3) := by decide +kernel
theorem d_Opn_readLevels_41 : decode b_Opn_readLevels 41 = .ok (.invokevirtual 127, 3) := by decide +kernel
theorem d_Opn_readLevels_44 : decode b_Opn_readLevels 44 = .ok (.aload_n 0, 1) := by decide +kernel
theorem d_Opn_readLevels_45 : decode b_Opn_readLevels 45 = .ok (.getfield 44, 3) := by decide +kernel
theorem d_Opn_readLevels_48 : decode b_Opn_readLevels 48 = .ok (.iload 4, 2) := by decide +kernel
theorem d_Opn_readLevels_50 : decode b_Opn_readLevels 50 = .ok (.putfield 130, 3) := by decide +kernel
section
variable (l : Launch) (dC : Nat → ClassId) (dI : Nat → Nat → Nat) (cI cB cJ cZ : ClassId)
set_option maxRecDepth 100000 in
set_option maxHeartbeats 4000000 in
set_option maxRecDepth 100000 in
theorem t_Src_bitsAt_98 {p : Program} {l : Launch} {e : Env} {R : Room} {s : State} {m : MethodId} {args : Array Value} {below : List Frame} {meth : Method} {c : Code} {cells slots : Nat} {Q : State → Prop} {dC : Nat → ClassId} {dI : Nat → Nat → Nat} {cI cB cJ cZ : ClassId} {A : Nat → Prop} {ad : Nat → Nat} {NN : Nat} {E : Heap} {tM tC : Nat} {kK kV : Nat → Nat} {post : Int64 → St → Prop} (hx : p.tables.exec = Jvm.exec) (hb : c.code = b_Src_bitsAt) (hml : c.maxLocals = 10) (hown : s.vm.findClass R_Src = some m.cls) (hT : ∀ w ∈ TG, w.before args s = true) (hK : va_K (dC, dI) CL (TY cI cB cJ cZ) s) (hN : NW s) (hA : ∀ q : Nat, s.heap.size ≤ q → A q) (hRc : cells ≤ R.cells) (hRs : slots ≤ R.slots) (hRf : 1 ≤ R.frames) (hRl : 80 ≤ R.locals) (hNN : 152 ≤ NN) (hE : CE E tM tC kK kV A s) (hret : ∀ (r : Int64) (x : St) (H : Heap) (locs : List Loc) (pc : Nat) (ls : Array Slot), decode b_Src_bitsAt pc = .ok (.lreturn, 1) → post r x → Wd dC dI cI cB cJ cZ ad stC kcC NN A x H → va_S A s.heap H locs → W p l e R s m args below meth c H locs cells slots Q (F0 m pc ls [.long r]))  : ∀ (o : Nat) (l1 : Int32) (l2 : Int32) (l3 : Int64) (l5 : Int32) (l6 : Int32) (x : St) (H : Heap) (locs : List Loc) (ls : Array Slot), (o < NN ∧ kcC o = 8) → j_Src_bitsAt_98 post o l1 l2 l3 l5 l6 x → Wd dC dI cI cB cJ cZ ad stC kcC NN A x H → va_S A s.heap H locs → lv_has ls 10 [(0, .ref (ad o)), (1, .int l1), (2, .int l2), (3, .long l3), (5, .int l5), (6, .int l6)] → W p l e R s m args below meth c H locs cells slots Q (F0 m 98 ls []) := by
  intro o l1 l2 l3 l5 l6 x H locs ls fo hw hW hS hl
  unfold j_Src_bitsAt_98 at hw
  refine lv_lload_n hx hb d_Src_bitsAt_98 rfl (lv_at hl 3 rfl) ?_
  exact hret l3 x H locs 99 ls d_Src_bitsAt_99 hw hW hS
set_option maxRecDepth 100000 in
set_option maxHeartbeats 4000000 in
set_option maxRecDepth 100000 in
theorem t_Src_bitsAt_8 {p : Program} {l : Launch} {e : Env} {R : Room} {s : State} {m : MethodId} {args : Array Value} {below : List Frame} {meth : Method} {c : Code} {cells slots : Nat} {Q : State → Prop} {dC : Nat → ClassId} {dI : Nat → Nat → Nat} {cI cB cJ cZ : ClassId} {A : Nat → Prop} {ad : Nat → Nat} {NN : Nat} {E : Heap} {tM tC : Nat} {kK kV : Nat → Nat} {post : Int64 → St → Prop} {rec8 : Nat → Int32 → Int32 → Int64 → Int32 → Int32 → St → Prop} (hx : p.tables.exec = Jvm.exec) (hb : c.code = b_Src_bitsAt) (hml : c.maxLocals = 10) (hown : s.vm.findClass R_Src = some m.cls) (hT : ∀ w ∈ TG, w.before args s = true) (hK : va_K (dC, dI) CL (TY cI cB cJ cZ) s) (hN : NW s) (hA : ∀ q : Nat, s.heap.size ≤ q → A q) (hRc : cells ≤ R.cells) (hRs : slots ≤ R.slots) (hRf : 1 ≤ R.frames) (hRl : 80 ≤ R.locals) (hNN : 152 ≤ NN) (hE : CE E tM tC kK kV A s) (hret : ∀ (r : Int64) (x : St) (H : Heap) (locs : List Loc) (pc : Nat) (ls : Array Slot), decode b_Src_bitsAt pc = .ok (.lreturn, 1) → post r x → Wd dC dI cI cB cJ cZ ad stC kcC NN A x H → va_S A s.heap H locs → W p l e R s m args below meth c H locs cells slots Q (F0 m pc ls [.long r])) (hrec8 : ∀ (o : Nat) (l1 : Int32) (l2 : Int32) (l3 : Int64) (l5 : Int32) (l6 : Int32) (x : St) (H : Heap) (locs : List Loc) (ls : Array Slot), (o < NN ∧ kcC o = 8) → rec8 o l1 l2 l3 l5 l6 x → Wd dC dI cI cB cJ cZ ad stC kcC NN A x H → va_S A s.heap H locs → lv_has ls 10 [(0, .ref (ad o)), (1, .int l1), (2, .int l2), (3, .long l3), (5, .int l5), (6, .int l6)] → W p l e R s m args below meth c H locs cells slots Q (F0 m 8 ls [])) : ∀ (o : Nat) (l1 : Int32) (l2 : Int32) (l3 : Int64) (l5 : Int32) (l6 : Int32) (x : St) (H : Heap) (locs : List Loc) (ls : Array Slot), (o < NN ∧ kcC o = 8) → j_Src_bitsAt_8 post rec8 o l1 l2 l3 l5 l6 x → Wd dC dI cI cB cJ cZ ad stC kcC NN A x H → va_S A s.heap H locs → lv_has ls 10 [(0, .ref (ad o)), (1, .int l1), (2, .int l2), (3, .long l3), (5, .int l5), (6, .int l6)] → W p l e R s m args below meth c H locs cells slots Q (F0 m 8 ls []) := by
  intro o l1 l2 l3 l5 l6 x H locs ls fo hw hW hS hl
  unfold j_Src_bitsAt_8 at hw
  refine lv_iload hx hb d_Src_bitsAt_8 (lv_at hl 5 rfl) ?_
  refine lv_bipush (v := 10) hx hb d_Src_bitsAt_10 (by decide) ?_
  refine lv_icmp_ge (tgt := 98) hx hb d_Src_bitsAt_12 (by decide) (fun c1 => ?_) (fun c1 => ?_)
  · have hw := hw.1 c1
    exact t_Src_bitsAt_98 hx hb hml hown hT hK hN hA hRc hRs hRf hRl hNN hE hret  o l1 l2 l3 l5 l6 x H locs ls fo hw hW hS (lv_sub hl [0, 1, 2, 3, 4, 5] rfl)
  · have hw := hw.2 c1
    refine lv_iload hx hb d_Src_bitsAt_15 (lv_at hl 4 rfl) ?_
    refine lv_iload_n hx hb d_Src_bitsAt_17 rfl (lv_at hl 2 rfl) ?_
    refine lv_icmp_ge (tgt := 98) hx hb d_Src_bitsAt_18 (by decide) (fun c2 => ?_) (fun c2 => ?_)
    · have hw := hw.1 c2
      exact t_Src_bitsAt_98 hx hb hml hown hT hK hN hA hRc hRs hRf hRl hNN hE hret  o l1 l2 l3 l5 l6 x H locs ls fo hw hW hS (lv_sub hl [0, 1, 2, 3, 4, 5] rfl)
    · have hw := hw.2 c2
      refine lv_iload_n hx hb d_Src_bitsAt_21 rfl (lv_at hl 1 rfl) ?_
      refine lv_iload hx hb d_Src_bitsAt_22 (lv_at hl 4 rfl) ?_
      refine lv_iadd hx hb d_Src_bitsAt_24 ?_
      refine lv_bipush (v := 7) hx hb d_Src_bitsAt_25 (by decide) ?_
      refine lv_iand hx hb d_Src_bitsAt_27 ?_
      refine lv_topi (fun v3 ev3 => ?_)
      have hw := hw v3 ev3
      refine lv_istore (lv' := [(7, .int v3), (0, .ref (ad o)), (1, .int l1), (2, .int l2), (3, .long l3), (5, .int l5), (6, .int l6)]) hx hb d_Src_bitsAt_28 hl (by decide) rfl (fun ls hl => ?_)
      refine lv_bipush (v := 8) hx hb d_Src_bitsAt_30 (by decide) ?_
      refine lv_iload hx hb d_Src_bitsAt_32 (lv_at hl 0 rfl) ?_
      refine lv_isub hx hb d_Src_bitsAt_34 ?_
      refine lv_iload_n hx hb d_Src_bitsAt_35 rfl (lv_at hl 3 rfl) ?_
      refine lv_iload hx hb d_Src_bitsAt_36 (lv_at hl 5 rfl) ?_
      refine lv_isub hx hb d_Src_bitsAt_38 ?_
      refine va_mmin hx hb (hml.trans hl.1.symm) hown (hT _ w_6_89) (hT _ w_1_38) (hT _ w_1_3) (hT _ w_1_39) (Nat.le_trans (by decide) hRf) (Nat.le_trans (Nat.le_of_ble_eq_true rfl) hRl) hRc hRs d_Src_bitsAt_39 ?_
      refine lv_topi (fun v4 ev4 => ?_)
      have hw := hw v4 ev4
      refine lv_istore (lv' := [(8, .int v4), (7, .int v3), (0, .ref (ad o)), (1, .int l1), (2, .int l2), (3, .long l3), (5, .int l5), (6, .int l6)]) hx hb d_Src_bitsAt_42 hl (by decide) rfl (fun ls hl => ?_)
      refine lv_aload_n hx hb d_Src_bitsAt_44 rfl (lv_at hl 2 rfl) ?_
      refine w_getf (q := (stC o 0)) (k := 0) (t := 8) (C := R_Src) (T := F_Src) (N := 5) hx hb hT hown hK hW fo.1 fo.2 (by decide) in_Src rfl rfl (by decide) rfl fr_Src_0 w_2_236 d_Src_bitsAt_45 rfl ?_
      refine lv_aload_n hx hb d_Src_bitsAt_48 rfl (lv_at hl 2 rfl) ?_
      refine w_geti (k := 1) (t := 8) (C := R_Src) (T := F_Src) (N := 5) hx hb hT hown hK hW fo.1 fo.2 (by decide) in_Src rfl rfl (by decide) rfl fr_Src_1 w_2_237 d_Src_bitsAt_49 ?_
      refine lv_iload_n hx hb d_Src_bitsAt_52 rfl (lv_at hl 3 rfl) ?_
      refine lv_iload hx hb d_Src_bitsAt_53 (lv_at hl 6 rfl) ?_
      refine lv_iadd hx hb d_Src_bitsAt_55 ?_
      refine lv_iconst (v := 3) hx hb d_Src_bitsAt_56 (by decide) ?_
      refine lv_ishr hx hb d_Src_bitsAt_57 ?_
      refine lv_iadd hx hb d_Src_bitsAt_58 ?_
      obtain ⟨hi, hw⟩ := hw
      refine w_bald (o := (stC o 0)) hx hb hK hW (st_ty hNN fo.1 fo.2 rfl).1 (st_ty hNN fo.1 fo.2 rfl).2 hi d_Src_bitsAt_59 ?_
      refine lv_sipush (v := 255) hx hb d_Src_bitsAt_60 (by decide) ?_
      refine lv_iand hx hb d_Src_bitsAt_63 ?_
      refine lv_topi (fun v5 ev5 => ?_)
      have hw := hw v5 ev5
      refine lv_istore (lv' := [(9, .int v5), (8, .int v4), (7, .int v3), (0, .ref (ad o)), (1, .int l1), (2, .int l2), (3, .long l3), (5, .int l5), (6, .int l6)]) hx hb d_Src_bitsAt_64 hl (by decide) rfl (fun ls hl => ?_)
      refine lv_lload_n hx hb d_Src_bitsAt_66 rfl (lv_at hl 6 rfl) ?_
      refine lv_iload hx hb d_Src_bitsAt_67 (lv_at hl 0 rfl) ?_
      refine lv_iload hx hb d_Src_bitsAt_69 (lv_at hl 2 rfl) ?_
      refine lv_ishr hx hb d_Src_bitsAt_71 ?_
      refine lv_iconst (v := 1) hx hb d_Src_bitsAt_72 (by decide) ?_
      refine lv_iload hx hb d_Src_bitsAt_73 (lv_at hl 1 rfl) ?_
      refine lv_ishl hx hb d_Src_bitsAt_75 ?_
      refine lv_iconst (v := 1) hx hb d_Src_bitsAt_76 (by decide) ?_
      refine lv_isub hx hb d_Src_bitsAt_77 ?_
      refine lv_iand hx hb d_Src_bitsAt_78 ?_
      refine lv_i2l hx hb d_Src_bitsAt_79 rfl ?_
      refine lv_iload hx hb d_Src_bitsAt_80 (lv_at hl 7 rfl) ?_
      refine lv_lshl hx hb d_Src_bitsAt_82 rfl ?_
      refine lv_lor hx hb d_Src_bitsAt_83 ?_
      refine lv_topl (fun v6 ev6 => ?_)
      have hw := hw v6 ev6
      refine lv_lstore_n (lv' := [(3, .long v6), (9, .int v5), (8, .int v4), (7, .int v3), (0, .ref (ad o)), (1, .int l1), (2, .int l2), (5, .int l5), (6, .int l6)]) hx hb d_Src_bitsAt_84 rfl hl (by decide) rfl (fun ls hl => ?_)
      refine lv_iload hx hb d_Src_bitsAt_85 (lv_at hl 7 rfl) ?_
      refine lv_iload hx hb d_Src_bitsAt_87 (lv_at hl 2 rfl) ?_
      refine lv_iadd hx hb d_Src_bitsAt_89 ?_
      refine lv_topi (fun v7 ev7 => ?_)
      have hw := hw v7 ev7
      refine lv_istore (lv' := [(5, .int v7), (3, .long v6), (9, .int v5), (8, .int v4), (7, .int v3), (0, .ref (ad o)), (1, .int l1), (2, .int l2), (6, .int l6)]) hx hb d_Src_bitsAt_90 hl (by decide) rfl (fun ls hl => ?_)
      refine lv_iinc (v := (l6 + 1)) (lv' := [(6, .int (l6 + 1)), (5, .int v7), (3, .long v6), (9, .int v5), (8, .int v4), (7, .int v3), (0, .ref (ad o)), (1, .int l1), (2, .int l2)]) hx hb d_Src_bitsAt_92 hl (k := 8) rfl rfl (by decide) rfl (fun ls hl => ?_)
      refine lv_goto (tgt := 8) hx hb d_Src_bitsAt_95 (by decide) ?_
      exact hrec8 o l1 l2 v6 v7 (l6 + 1) x H locs ls fo hw hW hS (lv_sub hl [6, 7, 8, 2, 1, 0] rfl)
set_option maxHeartbeats 4000000 in
set_option maxRecDepth 100000 in
theorem tl_Src_bitsAt_8 {p : Program} {l : Launch} {e : Env} {R : Room} {s : State} {m : MethodId} {args : Array Value} {below : List Frame} {meth : Method} {c : Code} {cells slots : Nat} {Q : State → Prop} {dC : Nat → ClassId} {dI : Nat → Nat → Nat} {cI cB cJ cZ : ClassId} {A : Nat → Prop} {ad : Nat → Nat} {NN : Nat} {E : Heap} {tM tC : Nat} {kK kV : Nat → Nat} {post : Int64 → St → Prop} (hx : p.tables.exec = Jvm.exec) (hb : c.code = b_Src_bitsAt) (hml : c.maxLocals = 10) (hown : s.vm.findClass R_Src = some m.cls) (hT : ∀ w ∈ TG, w.before args s = true) (hK : va_K (dC, dI) CL (TY cI cB cJ cZ) s) (hN : NW s) (hA : ∀ q : Nat, s.heap.size ≤ q → A q) (hRc : cells ≤ R.cells) (hRs : slots ≤ R.slots) (hRf : 1 ≤ R.frames) (hRl : 80 ≤ R.locals) (hNN : 152 ≤ NN) (hE : CE E tM tC kK kV A s) (hret : ∀ (r : Int64) (x : St) (H : Heap) (locs : List Loc) (pc : Nat) (ls : Array Slot), decode b_Src_bitsAt pc = .ok (.lreturn, 1) → post r x → Wd dC dI cI cB cJ cZ ad stC kcC NN A x H → va_S A s.heap H locs → W p l e R s m args below meth c H locs cells slots Q (F0 m pc ls [.long r]))  : ∀ n : Nat, ∀ (o : Nat) (l1 : Int32) (l2 : Int32) (l3 : Int64) (l5 : Int32) (l6 : Int32) (x : St) (H : Heap) (locs : List Loc) (ls : Array Slot), (o < NN ∧ kcC o = 8) → wl_Src_bitsAt_8 post n o l1 l2 l3 l5 l6 x → Wd dC dI cI cB cJ cZ ad stC kcC NN A x H → va_S A s.heap H locs → lv_has ls 10 [(0, .ref (ad o)), (1, .int l1), (2, .int l2), (3, .long l3), (5, .int l5), (6, .int l6)] → W p l e R s m args below meth c H locs cells slots Q (F0 m 8 ls []) := by
  intro n
  induction n with
  | zero => intro o l1 l2 l3 l5 l6 x H locs ls fo hw; exact hw.elim
  | succ n ih => intro o l1 l2 l3 l5 l6 x H locs ls fo hw hW hS hl; exact t_Src_bitsAt_8 hx hb hml hown hT hK hN hA hRc hRs hRf hRl hNN hE hret  ih o l1 l2 l3 l5 l6 x H locs ls fo hw hW hS hl
set_option maxRecDepth 100000 in
set_option maxHeartbeats 4000000 in
set_option maxRecDepth 100000 in
theorem t_Src_bitsAt_e {p : Program} {l : Launch} {e : Env} {R : Room} {s : State} {m : MethodId} {args : Array Value} {below : List Frame} {meth : Method} {c : Code} {cells slots : Nat} {Q : State → Prop} {dC : Nat → ClassId} {dI : Nat → Nat → Nat} {cI cB cJ cZ : ClassId} {A : Nat → Prop} {ad : Nat → Nat} {NN : Nat} {E : Heap} {tM tC : Nat} {kK kV : Nat → Nat} {post : Int64 → St → Prop} (hx : p.tables.exec = Jvm.exec) (hb : c.code = b_Src_bitsAt) (hml : c.maxLocals = 10) (hown : s.vm.findClass R_Src = some m.cls) (hT : ∀ w ∈ TG, w.before args s = true) (hK : va_K (dC, dI) CL (TY cI cB cJ cZ) s) (hN : NW s) (hA : ∀ q : Nat, s.heap.size ≤ q → A q) (hRc : cells ≤ R.cells) (hRs : slots ≤ R.slots) (hRf : 1 ≤ R.frames) (hRl : 80 ≤ R.locals) (hNN : 152 ≤ NN) (hE : CE E tM tC kK kV A s) (hret : ∀ (r : Int64) (x : St) (H : Heap) (locs : List Loc) (pc : Nat) (ls : Array Slot), decode b_Src_bitsAt pc = .ok (.lreturn, 1) → post r x → Wd dC dI cI cB cJ cZ ad stC kcC NN A x H → va_S A s.heap H locs → W p l e R s m args below meth c H locs cells slots Q (F0 m pc ls [.long r])) : ∀ (o : Nat) (l1 : Int32) (l2 : Int32) (x : St) (H : Heap) (locs : List Loc) (ls : Array Slot), (o < NN ∧ kcC o = 8) → wp_Src_bitsAt post o l1 l2 x → Wd dC dI cI cB cJ cZ ad stC kcC NN A x H → va_S A s.heap H locs → lv_has ls 10 [(0, .ref (ad o)), (1, .int l1), (2, .int l2)] → W p l e R s m args below meth c H locs cells slots Q (F0 m 0 ls []) := by
  intro o l1 l2 x H locs ls fo hw hW hS hl
  unfold wp_Src_bitsAt at hw
  refine lv_lconst (v := 0) hx hb d_Src_bitsAt_0 (by decide) ?_
  refine lv_lstore_n (lv' := [(3, .long 0), (0, .ref (ad o)), (1, .int l1), (2, .int l2)]) hx hb d_Src_bitsAt_1 rfl hl (by decide) rfl (fun ls hl => ?_)
  refine lv_iconst (v := 0) hx hb d_Src_bitsAt_2 (by decide) ?_
  refine lv_istore (lv' := [(5, .int 0), (3, .long 0), (0, .ref (ad o)), (1, .int l1), (2, .int l2)]) hx hb d_Src_bitsAt_3 hl (by decide) rfl (fun ls hl => ?_)
  refine lv_iconst (v := 0) hx hb d_Src_bitsAt_5 (by decide) ?_
  refine lv_istore (lv' := [(6, .int 0), (5, .int 0), (3, .long 0), (0, .ref (ad o)), (1, .int l1), (2, .int l2)]) hx hb d_Src_bitsAt_6 hl (by decide) rfl (fun ls hl => ?_)
  obtain ⟨n, hw⟩ := hw
  exact tl_Src_bitsAt_8 hx hb hml hown hT hK hN hA hRc hRs hRf hRl hNN hE hret  n o l1 l2 0 0 0 x H locs ls fo hw hW hS (lv_sub hl [3, 4, 5, 2, 1, 0] rfl)
set_option maxHeartbeats 4000000 in
set_option maxRecDepth 100000 in
theorem k_Src_bitsAt (l : Launch) (dC : Nat → ClassId) (dI : Nat → Nat → Nat) (cI cB cJ cZ : ClassId) (ad : Nat → Nat) (NN : Nat) (E : Heap) (tM tC : Nat) (kK kV : Nat → Nat) (hNN : 152 ≤ NN) (sz : Nat) (o : Nat) (l1 : Int32) (l2 : Int32) (x : St) (fo : o < NN ∧ kcC o = 8) {post : Int64 → St → Prop} (hw : wp_Src_bitsAt post o l1 l2 x) : Met l y_Src_bitsAt (wsOf y_Src_bitsAt b_Src_bitsAt 10 (some (.long))) ({ frames := 1, cells := 0, slots := 0, locals := 80 }) (va_Pc [.ref (ad o), .int l1, .int l2] (PVc dC dI cI cB cJ cZ ad stC kcC NN E tM tC kK kV sz x)) (va_Ql (fun (r : Int64) (y : St) => post r y) (fun y t => Wd dC dI cI cB cJ cZ ad stC kcC NN (va_A (pic ad stC kcC NN cI cB cJ cZ x) sz) y t.heap) (va_A (pic ad stC kcC NN cI cB cJ cZ x) sz)) 0 0 (va_A (pic ad stC kcC NN cI cB cJ cZ x) sz) := by
  refine Met.ofW (cc := b_Src_bitsAt) (maxL := 10) (ret := some (.long)) (by decide) rfl ?_
  intro p e s m args below meth c s₁ B hml hv
  obtain ⟨rfl, ⟨hsz, hW0, hK, hN⟩, hE⟩ := hv
  have hx := B.exec
  have hb := B.bytes
  have hr := B.returns
  have hts := atoms_spec B.pre
  have hT : ∀ w ∈ TG, w.before _ s = true := fun w h => hts w (List.mem_cons_of_mem _ h)
  have hown : s.vm.findClass R_Src = some m.cls := findClass_of_methodNamed B.named
  have hlocks := B.notSynchronized
  subst hsz
  have hW : Wd dC dI cI cB cJ cZ ad stC kcC NN (va_A (pic ad stC kcC NN cI cB cJ cZ x) s.heap.size) x s.heap := ⟨hW0.1, hW0.2.1.self (sz := s.heap.size), hW0.2.2⟩
  generalize hAe : va_A (pic ad stC kcC NN cI cB cJ cZ x) s.heap.size = A at hW hE ⊢
  have hA : ∀ q : Nat, s.heap.size ≤ q → A q := fun q h => by rw [← hAe]; exact Or.inr h
  have hS : va_S A s.heap s.heap [] := va_S.rf
  have hl := lv_entry ([.ref (ad o), .int l1, .int l2]) (n := 10) (Nat.le_of_ble_eq_true rfl)
  rw [lg_entry_eq]
  generalize (lg_sl ([.ref (ad o), .int l1, .int l2]) ++ List.replicate (10 - (lg_sl ([.ref (ad o), .int l1, .int l2])).length) Slot.unset).toArray = ls at hl ⊢
  have hl : lv_has ls 10 [(0, .ref (ad o)), (1, .int l1), (2, .int l2)] := hl
  exact t_Src_bitsAt_e hx hb hml hown hT hK hN hA (Nat.le_refl 0) (Nat.le_refl 0) (Nat.le_refl 1) (Nat.le_refl 80) hNN hE (fun r x H locs pc ls hd hp hW hS => W.lret (v := r) hx hb hr (fun t ht hM => ⟨⟨r, x, rfl, hp, Wd.back hW ht.symm (fun _ z => z)⟩, hS.F ht⟩) hS.2.2 hd hlocks)  o l1 l2 x _ _ ls fo hw hW hS hl
set_option maxRecDepth 100000 in
set_option maxHeartbeats 4000000 in
set_option maxRecDepth 100000 in
theorem t_Src_readGroups_88 {p : Program} {l : Launch} {e : Env} {R : Room} {s : State} {m : MethodId} {args : Array Value} {below : List Frame} {meth : Method} {c : Code} {cells slots : Nat} {Q : State → Prop} {dC : Nat → ClassId} {dI : Nat → Nat → Nat} {cI cB cJ cZ : ClassId} {A : Nat → Prop} {ad : Nat → Nat} {NN : Nat} {E : Heap} {tM tC : Nat} {kK kV : Nat → Nat} {post : Int32 → St → Prop} {rec31 : Nat → Nat → Int32 → Int64 → Int32 → Int32 → Int32 → Int32 → St → Prop} (hx : p.tables.exec = Jvm.exec) (hb : c.code = b_Src_readGroups) (hml : c.maxLocals = 11) (hown : s.vm.findClass R_Src = some m.cls) (hT : ∀ w ∈ TG, w.before args s = true) (hK : va_K (dC, dI) CL (TY cI cB cJ cZ) s) (hN : NW s) (hA : ∀ q : Nat, s.heap.size ≤ q → A q) (hRc : cells ≤ R.cells) (hRs : slots ≤ R.slots) (hRf : 2 ≤ R.frames) (hRl : 109 ≤ R.locals) (hNN : 152 ≤ NN) (hE : CE E tM tC kK kV A s) (hret : ∀ (r : Int32) (x : St) (H : Heap) (locs : List Loc) (pc : Nat) (ls : Array Slot), decode b_Src_readGroups pc = .ok (.ireturn, 1) → post r x → Wd dC dI cI cB cJ cZ ad stC kcC NN A x H → va_S A s.heap H locs → W p l e R s m args below meth c H locs cells slots Q (F0 m pc ls [.int r])) (hrec31 : ∀ (o : Nat) (l1 : Nat) (l2 : Int32) (l3 : Int64) (l5 : Int32) (l6 : Int32) (l7 : Int32) (l8 : Int32) (x : St) (H : Heap) (locs : List Loc) (ls : Array Slot), (o < NN ∧ kcC o = 8) → (l1 < NN ∧ kcC l1 = 22) → rec31 o l1 l2 l3 l5 l6 l7 l8 x → Wd dC dI cI cB cJ cZ ad stC kcC NN A x H → va_S A s.heap H locs → lv_has ls 11 [(0, .ref (ad o)), (1, .ref (ad l1)), (2, .int l2), (3, .long l3), (5, .int l5), (6, .int l6), (7, .int l7), (8, .int l8)] → W p l e R s m args below meth c H locs cells slots Q (F0 m 31 ls [])) : ∀ (o : Nat) (l1 : Nat) (l2 : Int32) (l3 : Int64) (l5 : Int32) (l6 : Int32) (l7 : Int32) (l8 : Int32) (l9 : Int64) (x : St) (H : Heap) (locs : List Loc) (ls : Array Slot), (o < NN ∧ kcC o = 8) → (l1 < NN ∧ kcC l1 = 22) → j_Src_readGroups_88 post rec31 o l1 l2 l3 l5 l6 l7 l8 l9 x → Wd dC dI cI cB cJ cZ ad stC kcC NN A x H → va_S A s.heap H locs → lv_has ls 11 [(0, .ref (ad o)), (1, .ref (ad l1)), (2, .int l2), (3, .long l3), (5, .int l5), (6, .int l6), (7, .int l7), (8, .int l8), (9, .long l9)] → W p l e R s m args below meth c H locs cells slots Q (F0 m 88 ls []) := by
  intro o l1 l2 l3 l5 l6 l7 l8 l9 x H locs ls fo fl1 hw hW hS hl
  unfold j_Src_readGroups_88 at hw
  refine lv_iinc (v := (l8 + 1)) (lv' := [(8, .int (l8 + 1)), (0, .ref (ad o)), (1, .ref (ad l1)), (2, .int l2), (3, .long l3), (5, .int l5), (6, .int l6), (7, .int l7), (9, .long l9)]) hx hb d_Src_readGroups_88 hl (k := 7) rfl rfl (by decide) rfl (fun ls hl => ?_)
  refine lv_goto (tgt := 31) hx hb d_Src_readGroups_91 (by decide) ?_
  exact hrec31 o l1 l2 l3 l5 l6 l7 (l8 + 1) x H locs ls fo fl1 hw hW hS (lv_sub hl [1, 2, 3, 4, 5, 6, 7, 0] rfl)
set_option maxRecDepth 100000 in
set_option maxHeartbeats 4000000 in
set_option maxRecDepth 100000 in
theorem t_Src_readGroups_84 {p : Program} {l : Launch} {e : Env} {R : Room} {s : State} {m : MethodId} {args : Array Value} {below : List Frame} {meth : Method} {c : Code} {cells slots : Nat} {Q : State → Prop} {dC : Nat → ClassId} {dI : Nat → Nat → Nat} {cI cB cJ cZ : ClassId} {A : Nat → Prop} {ad : Nat → Nat} {NN : Nat} {E : Heap} {tM tC : Nat} {kK kV : Nat → Nat} {post : Int32 → St → Prop} {rec31 : Nat → Nat → Int32 → Int64 → Int32 → Int32 → Int32 → Int32 → St → Prop} (hx : p.tables.exec = Jvm.exec) (hb : c.code = b_Src_readGroups) (hml : c.maxLocals = 11) (hown : s.vm.findClass R_Src = some m.cls) (hT : ∀ w ∈ TG, w.before args s = true) (hK : va_K (dC, dI) CL (TY cI cB cJ cZ) s) (hN : NW s) (hA : ∀ q : Nat, s.heap.size ≤ q → A q) (hRc : cells ≤ R.cells) (hRs : slots ≤ R.slots) (hRf : 2 ≤ R.frames) (hRl : 109 ≤ R.locals) (hNN : 152 ≤ NN) (hE : CE E tM tC kK kV A s) (hret : ∀ (r : Int32) (x : St) (H : Heap) (locs : List Loc) (pc : Nat) (ls : Array Slot), decode b_Src_readGroups pc = .ok (.ireturn, 1) → post r x → Wd dC dI cI cB cJ cZ ad stC kcC NN A x H → va_S A s.heap H locs → W p l e R s m args below meth c H locs cells slots Q (F0 m pc ls [.int r])) (hrec31 : ∀ (o : Nat) (l1 : Nat) (l2 : Int32) (l3 : Int64) (l5 : Int32) (l6 : Int32) (l7 : Int32) (l8 : Int32) (x : St) (H : Heap) (locs : List Loc) (ls : Array Slot), (o < NN ∧ kcC o = 8) → (l1 < NN ∧ kcC l1 = 22) → rec31 o l1 l2 l3 l5 l6 l7 l8 x → Wd dC dI cI cB cJ cZ ad stC kcC NN A x H → va_S A s.heap H locs → lv_has ls 11 [(0, .ref (ad o)), (1, .ref (ad l1)), (2, .int l2), (3, .long l3), (5, .int l5), (6, .int l6), (7, .int l7), (8, .int l8)] → W p l e R s m args below meth c H locs cells slots Q (F0 m 31 ls [])) : ∀ (o : Nat) (l1 : Nat) (l2 : Int32) (l3 : Int64) (l5 : Int32) (l6 : Int32) (l7 : Int32) (l8 : Int32) (l9 : Int64) (s0 : Int32) (s1 : Nat) (x : St) (H : Heap) (locs : List Loc) (ls : Array Slot), (o < NN ∧ kcC o = 8) → (l1 < NN ∧ kcC l1 = 22) → (s1 < NN ∧ kcC s1 = 8) → j_Src_readGroups_84 post rec31 o l1 l2 l3 l5 l6 l7 l8 l9 s0 s1 x → Wd dC dI cI cB cJ cZ ad stC kcC NN A x H → va_S A s.heap H locs → lv_has ls 11 [(0, .ref (ad o)), (1, .ref (ad l1)), (2, .int l2), (3, .long l3), (5, .int l5), (6, .int l6), (7, .int l7), (8, .int l8), (9, .long l9)] → W p l e R s m args below meth c H locs cells slots Q (F0 m 84 ls [.int s0, .ref (ad s1)]) := by
  intro o l1 l2 l3 l5 l6 l7 l8 l9 s0 s1 x H locs ls fo fl1 fs1 hw hW hS hl
  unfold j_Src_readGroups_84 at hw
  refine lv_iconst (v := 5) hx hb d_Src_readGroups_84 (by decide) ?_
  have hF := hW.free hS hA
  refine va_callv (va_runV (C := R_Src) (As := [.int s0, .int 5]) (rest := []) ⟨hx, hb, hml, hown, hT⟩ (k_Src_check l dC dI cI cB cJ cZ ad NN E tM tC kK kV hNN H.size s1 s0 5 x fs1 hw) ⟨callB_of 2 hT (gwt_in w_6_116) rfl rfl rfl (hT _ w_1_11) (hT _ w_6_156) (by decide +kernel) ⟨Nat.le_trans (Nat.le_of_ble_eq_true rfl) hRf, Nat.le_trans (Nat.le_of_ble_eq_true rfl) hRl⟩, hT _ w_6_114, hT _ w_6_115⟩ ⟨PVc.blind, va_recv hK hW.1 (ci := 8) (q0 := s1) rfl (pic_obj fs1.1 fs1.2 (by decide)), PVc.at _ hW hK hN hE hS hF⟩ rfl rfl hl.1 rfl (lv_room (Nat.le_of_ble_eq_true rfl)) d_Src_readGroups_85 ⟨hRc, hRs⟩) hS (fun q _ h => hF q h) hF (fun  x1 t H locs ht hvm hw hB hz1 hk1 hS => ?_)
  have hW := Wd.back hB ht hF
  clear hB ht hF hz1 hk1 hvm
  exact t_Src_readGroups_88 hx hb hml hown hT hK hN hA hRc hRs hRf hRl hNN hE hret hrec31 o l1 l2 l3 l5 l6 l7 l8 l9 x1 H locs ls fo fl1 hw hW hS (lv_sub hl [0, 1, 2, 3, 4, 5, 6, 7, 8] rfl)
set_option maxRecDepth 100000 in
set_option maxHeartbeats 4000000 in
set_option maxRecDepth 100000 in
theorem t_Src_readGroups_31 {p : Program} {l : Launch} {e : Env} {R : Room} {s : State} {m : MethodId} {args : Array Value} {below : List Frame} {meth : Method} {c : Code} {cells slots : Nat} {Q : State → Prop} {dC : Nat → ClassId} {dI : Nat → Nat → Nat} {cI cB cJ cZ : ClassId} {A : Nat → Prop} {ad : Nat → Nat} {NN : Nat} {E : Heap} {tM tC : Nat} {kK kV : Nat → Nat} {post : Int32 → St → Prop} {rec31 : Nat → Nat → Int32 → Int64 → Int32 → Int32 → Int32 → Int32 → St → Prop} (hx : p.tables.exec = Jvm.exec) (hb : c.code = b_Src_readGroups) (hml : c.maxLocals = 11) (hown : s.vm.findClass R_Src = some m.cls) (hT : ∀ w ∈ TG, w.before args s = true) (hK : va_K (dC, dI) CL (TY cI cB cJ cZ) s) (hN : NW s) (hA : ∀ q : Nat, s.heap.size ≤ q → A q) (hRc : cells ≤ R.cells) (hRs : slots ≤ R.slots) (hRf : 2 ≤ R.frames) (hRl : 109 ≤ R.locals) (hNN : 152 ≤ NN) (hE : CE E tM tC kK kV A s) (hret : ∀ (r : Int32) (x : St) (H : Heap) (locs : List Loc) (pc : Nat) (ls : Array Slot), decode b_Src_readGroups pc = .ok (.ireturn, 1) → post r x → Wd dC dI cI cB cJ cZ ad stC kcC NN A x H → va_S A s.heap H locs → W p l e R s m args below meth c H locs cells slots Q (F0 m pc ls [.int r])) (hrec31 : ∀ (o : Nat) (l1 : Nat) (l2 : Int32) (l3 : Int64) (l5 : Int32) (l6 : Int32) (l7 : Int32) (l8 : Int32) (x : St) (H : Heap) (locs : List Loc) (ls : Array Slot), (o < NN ∧ kcC o = 8) → (l1 < NN ∧ kcC l1 = 22) → rec31 o l1 l2 l3 l5 l6 l7 l8 x → Wd dC dI cI cB cJ cZ ad stC kcC NN A x H → va_S A s.heap H locs → lv_has ls 11 [(0, .ref (ad o)), (1, .ref (ad l1)), (2, .int l2), (3, .long l3), (5, .int l5), (6, .int l6), (7, .int l7), (8, .int l8)] → W p l e R s m args below meth c H locs cells slots Q (F0 m 31 ls [])) : ∀ (o : Nat) (l1 : Nat) (l2 : Int32) (l3 : Int64) (l5 : Int32) (l6 : Int32) (l7 : Int32) (l8 : Int32) (x : St) (H : Heap) (locs : List Loc) (ls : Array Slot), (o < NN ∧ kcC o = 8) → (l1 < NN ∧ kcC l1 = 22) → j_Src_readGroups_31 post rec31 o l1 l2 l3 l5 l6 l7 l8 x → Wd dC dI cI cB cJ cZ ad stC kcC NN A x H → va_S A s.heap H locs → lv_has ls 11 [(0, .ref (ad o)), (1, .ref (ad l1)), (2, .int l2), (3, .long l3), (5, .int l5), (6, .int l6), (7, .int l7), (8, .int l8)] → W p l e R s m args below meth c H locs cells slots Q (F0 m 31 ls []) := by
  intro o l1 l2 l3 l5 l6 l7 l8 x H locs ls fo fl1 hw hW hS hl
  unfold j_Src_readGroups_31 at hw
  refine lv_iload hx hb d_Src_readGroups_31 (lv_at hl 7 rfl) ?_
  refine lv_iload hx hb d_Src_readGroups_33 (lv_at hl 6 rfl) ?_
  refine lv_icmp_ge (tgt := 94) hx hb d_Src_readGroups_35 (by decide) (fun c2 => ?_) (fun c2 => ?_)
  · have hw := hw.1 c2
    refine lv_aload_n hx hb d_Src_readGroups_94 rfl (lv_at hl 0 rfl) ?_
    refine lv_dup hx hb d_Src_readGroups_95 rfl ?_
    refine w_geti (k := 1) (t := 8) (C := R_Src) (T := F_Src) (N := 5) hx hb hT hown hK hW fo.1 fo.2 (by decide) in_Src rfl rfl (by decide) rfl fr_Src_1 w_2_237 d_Src_readGroups_96 ?_
    refine lv_lload_n hx hb d_Src_readGroups_99 rfl (lv_at hl 3 rfl) ?_
    refine lv_l2i hx hb d_Src_readGroups_100 rfl ?_
    refine lv_iload hx hb d_Src_readGroups_101 (lv_at hl 5 rfl) ?_
    refine lv_imul hx hb d_Src_readGroups_103 ?_
    refine lv_iadd hx hb d_Src_readGroups_104 ?_
    refine w_puti (ty := .int) (k := 1) (t := 8) (C := R_Src) (T := F_Src) (N := 5) hx hb hT hown hK hW hS fo.1 fo.2 (by decide) in_Src t_Src t_Src_ok n_Src rfl rfl (by decide) rfl fr_Src_1 w_2_237 (by decide +kernel) rfl rfl d_Src_readGroups_105 (fun H locs hW hS => ?_)
    obtain ⟨x3, ex3⟩ : ∃ y : St, y = setI x o 1 ((fI x o 1) + ((l3 : Int64).toInt32 * l6)) := ⟨_, rfl⟩
    rw [← ex3] at hW
    have hw := hw x3 ex3
    refine lv_iload_n hx hb d_Src_readGroups_108 rfl (lv_at hl 2 rfl) ?_
    refine lv_iload hx hb d_Src_readGroups_109 (lv_at hl 6 rfl) ?_
    refine lv_iadd hx hb d_Src_readGroups_111 ?_
    refine lv_iload hx hb d_Src_readGroups_112 (lv_at hl 4 rfl) ?_
    refine va_mmin hx hb (hml.trans hl.1.symm) hown (hT _ w_6_89) (hT _ w_1_38) (hT _ w_1_3) (hT _ w_1_39) (Nat.le_trans (by decide) hRf) (Nat.le_trans (Nat.le_of_ble_eq_true rfl) hRl) hRc hRs d_Src_readGroups_114 ?_
    exact hret (if l5 < (l2 + l7) then l5 else (l2 + l7)) x3 H locs 117 ls d_Src_readGroups_117 hw hW hS
  · have hw := hw.2 c2
    refine lv_aload_n hx hb d_Src_readGroups_38 rfl (lv_at hl 0 rfl) ?_
    refine lv_iload hx hb d_Src_readGroups_39 (lv_at hl 7 rfl) ?_
    refine lv_iload hx hb d_Src_readGroups_41 (lv_at hl 5 rfl) ?_
    refine lv_imul hx hb d_Src_readGroups_43 ?_
    refine lv_iload hx hb d_Src_readGroups_44 (lv_at hl 5 rfl) ?_
    have hF := hW.free hS hA
    refine va_calll (va_runV (C := R_Src) (As := [.int (l8 * l6), .int l6]) (rest := []) ⟨hx, hb, hml, hown, hT⟩ (k_Src_bitsAt l dC dI cI cB cJ cZ ad NN E tM tC kK kV hNN H.size o (l8 * l6) l6 x fo hw) ⟨callB_of 2 hT (gwt_in w_6_215) rfl rfl rfl (hT _ w_1_11) (hT _ w_6_212) (by decide +kernel) ⟨Nat.le_trans (Nat.le_of_ble_eq_true rfl) hRf, Nat.le_trans (Nat.le_of_ble_eq_true rfl) hRl⟩, hT _ w_6_214, hT _ ws_45⟩ ⟨PVc.blind, va_recv hK hW.1 (ci := 8) (q0 := o) rfl (pic_obj fo.1 fo.2 (by decide)), PVc.at _ hW hK hN hE hS hF⟩ rfl rfl hl.1 rfl (lv_room (Nat.le_of_ble_eq_true rfl)) d_Src_readGroups_46 ⟨hRc, hRs⟩) hS (fun q _ h => hF q h) hF (fun r5 x4 t H locs ht hvm hw hB hz1 hk1 hS => ?_)
    have hW := Wd.back hB ht hF
    clear hB ht hF hz1 hk1 hvm
    refine lv_lstore (lv' := [(9, .long r5), (0, .ref (ad o)), (1, .ref (ad l1)), (2, .int l2), (3, .long l3), (5, .int l5), (6, .int l6), (7, .int l7), (8, .int l8)]) hx hb d_Src_readGroups_49 hl (by decide) rfl (fun ls hl => ?_)
    refine lv_iload_n hx hb d_Src_readGroups_51 rfl (lv_at hl 3 rfl) ?_
    refine lv_iload hx hb d_Src_readGroups_52 (lv_at hl 8 rfl) ?_
    refine lv_iadd hx hb d_Src_readGroups_54 ?_
    refine lv_iload hx hb d_Src_readGroups_55 (lv_at hl 5 rfl) ?_
    refine lv_icmp_ge (tgt := 71) hx hb d_Src_readGroups_57 (by decide) (fun c6 => ?_) (fun c6 => ?_)
    · have hw := hw.1 c6
      refine lv_aload_n hx hb d_Src_readGroups_71 rfl (lv_at hl 1 rfl) ?_
      refine lv_lload hx hb d_Src_readGroups_72 (lv_at hl 0 rfl) ?_
      refine lv_lconst (v := 0) hx hb d_Src_readGroups_74 (by decide) ?_
      refine W.lcmp hx hb d_Src_readGroups_75 ?_
      refine lv_if_ne (tgt := 83) hx hb d_Src_readGroups_76 (by decide) (fun c7 => ?_) (fun c7 => ?_)
      · have hw := hw.1 c7
        refine lv_iconst (v := 0) hx hb d_Src_readGroups_83 (by decide) ?_
        exact t_Src_readGroups_84 hx hb hml hown hT hK hN hA hRc hRs hRf hRl hNN hE hret hrec31 o l1 l2 l3 l5 l6 l7 l8 r5 0 o x4 H locs ls fo fl1 fo hw hW hS (lv_sub hl [1, 2, 3, 4, 5, 6, 7, 8, 0] rfl)
      · have hw := hw.2 c7
        refine lv_iconst (v := 1) hx hb d_Src_readGroups_79 (by decide) ?_
        refine lv_goto (tgt := 84) hx hb d_Src_readGroups_80 (by decide) ?_
        exact t_Src_readGroups_84 hx hb hml hown hT hK hN hA hRc hRs hRf hRl hNN hE hret hrec31 o l1 l2 l3 l5 l6 l7 l8 r5 1 o x4 H locs ls fo fl1 fo hw hW hS (lv_sub hl [1, 2, 3, 4, 5, 6, 7, 8, 0] rfl)
    · have hw := hw.2 c6
      refine lv_aload_n hx hb d_Src_readGroups_60 rfl (lv_at hl 2 rfl) ?_
      refine lv_iload_n hx hb d_Src_readGroups_61 rfl (lv_at hl 3 rfl) ?_
      refine lv_iload hx hb d_Src_readGroups_62 (lv_at hl 8 rfl) ?_
      refine lv_iadd hx hb d_Src_readGroups_64 ?_
      refine lv_lload hx hb d_Src_readGroups_65 (lv_at hl 0 rfl) ?_
      obtain ⟨hi, hw⟩ := hw
      refine w_last (o := l1) hx hb hK hW hS fl1.1 fl1.2 hi d_Src_readGroups_67 (fun H locs hW hS => ?_)
      obtain ⟨x8, ex8⟩ : ∃ y : St, y = setL x4 l1 (l2 + l8) r5 := ⟨_, rfl⟩
      rw [← ex8] at hW
      have hw := hw x8 ex8
      refine lv_goto (tgt := 88) hx hb d_Src_readGroups_68 (by decide) ?_
      exact t_Src_readGroups_88 hx hb hml hown hT hK hN hA hRc hRs hRf hRl hNN hE hret hrec31 o l1 l2 l3 l5 l6 l7 l8 r5 x8 H locs ls fo fl1 hw hW hS (lv_sub hl [1, 2, 3, 4, 5, 6, 7, 8, 0] rfl)
set_option maxHeartbeats 4000000 in
set_option maxRecDepth 100000 in
theorem tl_Src_readGroups_31 {p : Program} {l : Launch} {e : Env} {R : Room} {s : State} {m : MethodId} {args : Array Value} {below : List Frame} {meth : Method} {c : Code} {cells slots : Nat} {Q : State → Prop} {dC : Nat → ClassId} {dI : Nat → Nat → Nat} {cI cB cJ cZ : ClassId} {A : Nat → Prop} {ad : Nat → Nat} {NN : Nat} {E : Heap} {tM tC : Nat} {kK kV : Nat → Nat} {post : Int32 → St → Prop} (hx : p.tables.exec = Jvm.exec) (hb : c.code = b_Src_readGroups) (hml : c.maxLocals = 11) (hown : s.vm.findClass R_Src = some m.cls) (hT : ∀ w ∈ TG, w.before args s = true) (hK : va_K (dC, dI) CL (TY cI cB cJ cZ) s) (hN : NW s) (hA : ∀ q : Nat, s.heap.size ≤ q → A q) (hRc : cells ≤ R.cells) (hRs : slots ≤ R.slots) (hRf : 2 ≤ R.frames) (hRl : 109 ≤ R.locals) (hNN : 152 ≤ NN) (hE : CE E tM tC kK kV A s) (hret : ∀ (r : Int32) (x : St) (H : Heap) (locs : List Loc) (pc : Nat) (ls : Array Slot), decode b_Src_readGroups pc = .ok (.ireturn, 1) → post r x → Wd dC dI cI cB cJ cZ ad stC kcC NN A x H → va_S A s.heap H locs → W p l e R s m args below meth c H locs cells slots Q (F0 m pc ls [.int r]))  : ∀ n : Nat, ∀ (o : Nat) (l1 : Nat) (l2 : Int32) (l3 : Int64) (l5 : Int32) (l6 : Int32) (l7 : Int32) (l8 : Int32) (x : St) (H : Heap) (locs : List Loc) (ls : Array Slot), (o < NN ∧ kcC o = 8) → (l1 < NN ∧ kcC l1 = 22) → wl_Src_readGroups_31 post n o l1 l2 l3 l5 l6 l7 l8 x → Wd dC dI cI cB cJ cZ ad stC kcC NN A x H → va_S A s.heap H locs → lv_has ls 11 [(0, .ref (ad o)), (1, .ref (ad l1)), (2, .int l2), (3, .long l3), (5, .int l5), (6, .int l6), (7, .int l7), (8, .int l8)] → W p l e R s m args below meth c H locs cells slots Q (F0 m 31 ls []) := by
  intro n
  induction n with
  | zero => intro o l1 l2 l3 l5 l6 l7 l8 x H locs ls fo fl1 hw; exact hw.elim
  | succ n ih => intro o l1 l2 l3 l5 l6 l7 l8 x H locs ls fo fl1 hw hW hS hl; exact t_Src_readGroups_31 hx hb hml hown hT hK hN hA hRc hRs hRf hRl hNN hE hret  ih o l1 l2 l3 l5 l6 l7 l8 x H locs ls fo fl1 hw hW hS hl
set_option maxRecDepth 100000 in
set_option maxHeartbeats 4000000 in
set_option maxRecDepth 100000 in
theorem t_Src_readGroups_19 {p : Program} {l : Launch} {e : Env} {R : Room} {s : State} {m : MethodId} {args : Array Value} {below : List Frame} {meth : Method} {c : Code} {cells slots : Nat} {Q : State → Prop} {dC : Nat → ClassId} {dI : Nat → Nat → Nat} {cI cB cJ cZ : ClassId} {A : Nat → Prop} {ad : Nat → Nat} {NN : Nat} {E : Heap} {tM tC : Nat} {kK kV : Nat → Nat} {post : Int32 → St → Prop} (hx : p.tables.exec = Jvm.exec) (hb : c.code = b_Src_readGroups) (hml : c.maxLocals = 11) (hown : s.vm.findClass R_Src = some m.cls) (hT : ∀ w ∈ TG, w.before args s = true) (hK : va_K (dC, dI) CL (TY cI cB cJ cZ) s) (hN : NW s) (hA : ∀ q : Nat, s.heap.size ≤ q → A q) (hRc : cells ≤ R.cells) (hRs : slots ≤ R.slots) (hRf : 2 ≤ R.frames) (hRl : 109 ≤ R.locals) (hNN : 152 ≤ NN) (hE : CE E tM tC kK kV A s) (hret : ∀ (r : Int32) (x : St) (H : Heap) (locs : List Loc) (pc : Nat) (ls : Array Slot), decode b_Src_readGroups pc = .ok (.ireturn, 1) → post r x → Wd dC dI cI cB cJ cZ ad stC kcC NN A x H → va_S A s.heap H locs → W p l e R s m args below meth c H locs cells slots Q (F0 m pc ls [.int r]))  : ∀ (o : Nat) (l1 : Nat) (l2 : Int32) (l3 : Int64) (l5 : Int32) (l6 : Int32) (x : St) (H : Heap) (locs : List Loc) (ls : Array Slot), (o < NN ∧ kcC o = 8) → (l1 < NN ∧ kcC l1 = 22) → j_Src_readGroups_19 post o l1 l2 l3 l5 l6 x → Wd dC dI cI cB cJ cZ ad stC kcC NN A x H → va_S A s.heap H locs → lv_has ls 11 [(0, .ref (ad o)), (1, .ref (ad l1)), (2, .int l2), (3, .long l3), (5, .int l5), (6, .int l6)] → W p l e R s m args below meth c H locs cells slots Q (F0 m 19 ls []) := by
  intro o l1 l2 l3 l5 l6 x H locs ls fo fl1 hw hW hS hl
  unfold j_Src_readGroups_19 at hw
  refine lv_iload_n hx hb d_Src_readGroups_19 rfl (lv_at hl 2 rfl) ?_
  exact hret l2 x H locs 20 ls d_Src_readGroups_20 hw hW hS
set_option maxRecDepth 100000 in
set_option maxHeartbeats 4000000 in
set_option maxRecDepth 100000 in
theorem t_Src_readGroups_e {p : Program} {l : Launch} {e : Env} {R : Room} {s : State} {m : MethodId} {args : Array Value} {below : List Frame} {meth : Method} {c : Code} {cells slots : Nat} {Q : State → Prop} {dC : Nat → ClassId} {dI : Nat → Nat → Nat} {cI cB cJ cZ : ClassId} {A : Nat → Prop} {ad : Nat → Nat} {NN : Nat} {E : Heap} {tM tC : Nat} {kK kV : Nat → Nat} {post : Int32 → St → Prop} (hx : p.tables.exec = Jvm.exec) (hb : c.code = b_Src_readGroups) (hml : c.maxLocals = 11) (hown : s.vm.findClass R_Src = some m.cls) (hT : ∀ w ∈ TG, w.before args s = true) (hK : va_K (dC, dI) CL (TY cI cB cJ cZ) s) (hN : NW s) (hA : ∀ q : Nat, s.heap.size ≤ q → A q) (hRc : cells ≤ R.cells) (hRs : slots ≤ R.slots) (hRf : 2 ≤ R.frames) (hRl : 109 ≤ R.locals) (hNN : 152 ≤ NN) (hE : CE E tM tC kK kV A s) (hret : ∀ (r : Int32) (x : St) (H : Heap) (locs : List Loc) (pc : Nat) (ls : Array Slot), decode b_Src_readGroups pc = .ok (.ireturn, 1) → post r x → Wd dC dI cI cB cJ cZ ad stC kcC NN A x H → va_S A s.heap H locs → W p l e R s m args below meth c H locs cells slots Q (F0 m pc ls [.int r])) : ∀ (o : Nat) (l1 : Nat) (l2 : Int32) (l3 : Int64) (l5 : Int32) (l6 : Int32) (x : St) (H : Heap) (locs : List Loc) (ls : Array Slot), (o < NN ∧ kcC o = 8) → (l1 < NN ∧ kcC l1 = 22) → wp_Src_readGroups post o l1 l2 l3 l5 l6 x → Wd dC dI cI cB cJ cZ ad stC kcC NN A x H → va_S A s.heap H locs → lv_has ls 11 [(0, .ref (ad o)), (1, .ref (ad l1)), (2, .int l2), (3, .long l3), (5, .int l5), (6, .int l6)] → W p l e R s m args below meth c H locs cells slots Q (F0 m 0 ls []) := by
  intro o l1 l2 l3 l5 l6 x H locs ls fo fl1 hw hW hS hl
  unfold wp_Src_readGroups at hw
  refine lv_aload_n hx hb d_Src_readGroups_0 rfl (lv_at hl 0 rfl) ?_
  refine w_geti (k := 3) (t := 8) (C := R_Src) (T := F_Src) (N := 5) hx hb hT hown hK hW fo.1 fo.2 (by decide) in_Src rfl rfl (by decide) rfl fr_Src_3 w_3_1 d_Src_readGroups_1 ?_
  refine lv_if_ne (tgt := 19) hx hb d_Src_readGroups_4 (by decide) (fun c9 => ?_) (fun c9 => ?_)
  · have hw := hw.1 c9
    exact t_Src_readGroups_19 hx hb hml hown hT hK hN hA hRc hRs hRf hRl hNN hE hret  o l1 l2 l3 l5 l6 x H locs ls fo fl1 hw hW hS (lv_sub hl [0, 1, 2, 3, 4, 5] rfl)
  · have hw := hw.2 c9
    refine lv_aload_n hx hb d_Src_readGroups_7 rfl (lv_at hl 0 rfl) ?_
    refine lv_lload_n hx hb d_Src_readGroups_8 rfl (lv_at hl 3 rfl) ?_
    refine lv_iload hx hb d_Src_readGroups_9 (lv_at hl 5 rfl) ?_
    refine lv_i2l hx hb d_Src_readGroups_11 rfl ?_
    refine lv_lmul hx hb d_Src_readGroups_12 ?_
    have hF := hW.free hS hA
    refine va_calli (va_runV (C := R_Src) (As := [.long (l3 * (l6 : Int32).toInt64)]) (rest := []) ⟨hx, hb, hml, hown, hT⟩ (k_Src_has l dC dI cI cB cJ cZ ad NN E tM tC kK kV hNN H.size o (l3 * (l6 : Int32).toInt64) x fo hw) ⟨callB_of 1 hT (gwt_in w_6_128) rfl rfl rfl (hT _ w_1_11) (hT _ w_6_157) (by decide +kernel) ⟨Nat.le_trans (Nat.le_of_ble_eq_true rfl) hRf, Nat.le_trans (Nat.le_of_ble_eq_true rfl) hRl⟩, hT _ w_6_126, hT _ w_6_127⟩ ⟨PVc.blind, va_recv hK hW.1 (ci := 8) (q0 := o) rfl (pic_obj fo.1 fo.2 (by decide)), PVc.at _ hW hK hN hE hS hF⟩ rfl rfl hl.1 rfl (lv_room (Nat.le_of_ble_eq_true rfl)) d_Src_readGroups_13 ⟨hRc, hRs⟩) hS (fun q _ h => hF q h) hF (fun r11 x10 t H locs ht hvm hw hB hz1 hk1 hS => ?_)
    have hW := Wd.back hB ht hF
    clear hB ht hF hz1 hk1 hvm
    refine lv_if_ne (tgt := 21) hx hb d_Src_readGroups_16 (by decide) (fun c12 => ?_) (fun c12 => ?_)
    · have hw := hw.1 c12
      refine lv_lload_n hx hb d_Src_readGroups_21 rfl (lv_at hl 3 rfl) ?_
      refine lv_l2i hx hb d_Src_readGroups_22 rfl ?_
      refine lv_bipush (v := 8) hx hb d_Src_readGroups_23 (by decide) ?_
      refine lv_imul hx hb d_Src_readGroups_25 ?_
      refine lv_topi (fun v13 ev13 => ?_)
      have hw := hw v13 ev13
      refine lv_istore (lv' := [(7, .int v13), (0, .ref (ad o)), (1, .ref (ad l1)), (2, .int l2), (3, .long l3), (5, .int l5), (6, .int l6)]) hx hb d_Src_readGroups_26 hl (by decide) rfl (fun ls hl => ?_)
      refine lv_iconst (v := 0) hx hb d_Src_readGroups_28 (by decide) ?_
      refine lv_istore (lv' := [(8, .int 0), (7, .int v13), (0, .ref (ad o)), (1, .ref (ad l1)), (2, .int l2), (3, .long l3), (5, .int l5), (6, .int l6)]) hx hb d_Src_readGroups_29 hl (by decide) rfl (fun ls hl => ?_)
      obtain ⟨n, hw⟩ := hw
      exact tl_Src_readGroups_31 hx hb hml hown hT hK hN hA hRc hRs hRf hRl hNN hE hret  n o l1 l2 l3 l5 l6 v13 0 x10 H locs ls fo fl1 hw hW hS (lv_sub hl [2, 3, 4, 5, 6, 7, 1, 0] rfl)
    · have hw := hw.2 c12
      exact t_Src_readGroups_19 hx hb hml hown hT hK hN hA hRc hRs hRf hRl hNN hE hret  o l1 l2 l3 l5 l6 x10 H locs ls fo fl1 hw hW hS (lv_sub hl [0, 1, 2, 3, 4, 5] rfl)
set_option maxHeartbeats 4000000 in
set_option maxRecDepth 100000 in
theorem k_Src_readGroups (l : Launch) (dC : Nat → ClassId) (dI : Nat → Nat → Nat) (cI cB cJ cZ : ClassId) (ad : Nat → Nat) (NN : Nat) (E : Heap) (tM tC : Nat) (kK kV : Nat → Nat) (hNN : 152 ≤ NN) (sz : Nat) (o : Nat) (l1 : Nat) (l2 : Int32) (l3 : Int64) (l5 : Int32) (l6 : Int32) (x : St) (fo : o < NN ∧ kcC o = 8) (fl1 : l1 < NN ∧ kcC l1 = 22) {post : Int32 → St → Prop} (hw : wp_Src_readGroups post o l1 l2 l3 l5 l6 x) : Met l y_Src_readGroups (wsOf y_Src_readGroups b_Src_readGroups 11 (some (.int))) ({ frames := 2, cells := 0, slots := 0, locals := 109 }) (va_Pc [.ref (ad o), .ref (ad l1), .int l2, .long l3, .int l5, .int l6] (PVc dC dI cI cB cJ cZ ad stC kcC NN E tM tC kK kV sz x)) (va_Qi (fun (r : Int32) (y : St) => post r y) (fun y t => Wd dC dI cI cB cJ cZ ad stC kcC NN (va_A (pic ad stC kcC NN cI cB cJ cZ x) sz) y t.heap) (va_A (pic ad stC kcC NN cI cB cJ cZ x) sz)) 0 0 (va_A (pic ad stC kcC NN cI cB cJ cZ x) sz) := by
  refine Met.ofW (cc := b_Src_readGroups) (maxL := 11) (ret := some (.int)) (by decide) rfl ?_
  intro p e s m args below meth c s₁ B hml hv
  obtain ⟨rfl, ⟨hsz, hW0, hK, hN⟩, hE⟩ := hv
  have hx := B.exec
  have hb := B.bytes
  have hr := B.returns
  have hts := atoms_spec B.pre
  have hT : ∀ w ∈ TG, w.before _ s = true := fun w h => hts w (List.mem_cons_of_mem _ h)
  have hown : s.vm.findClass R_Src = some m.cls := findClass_of_methodNamed B.named
  have hlocks := B.notSynchronized
  subst hsz
  have hW : Wd dC dI cI cB cJ cZ ad stC kcC NN (va_A (pic ad stC kcC NN cI cB cJ cZ x) s.heap.size) x s.heap := ⟨hW0.1, hW0.2.1.self (sz := s.heap.size), hW0.2.2⟩
  generalize hAe : va_A (pic ad stC kcC NN cI cB cJ cZ x) s.heap.size = A at hW hE ⊢
  have hA : ∀ q : Nat, s.heap.size ≤ q → A q := fun q h => by rw [← hAe]; exact Or.inr h
  have hS : va_S A s.heap s.heap [] := va_S.rf
  have hl := lv_entry ([.ref (ad o), .ref (ad l1), .int l2, .long l3, .int l5, .int l6]) (n := 11) (Nat.le_of_ble_eq_true rfl)
  rw [lg_entry_eq]
  generalize (lg_sl ([.ref (ad o), .ref (ad l1), .int l2, .long l3, .int l5, .int l6]) ++ List.replicate (11 - (lg_sl ([.ref (ad o), .ref (ad l1), .int l2, .long l3, .int l5, .int l6])).length) Slot.unset).toArray = ls at hl ⊢
  have hl : lv_has ls 11 [(0, .ref (ad o)), (1, .ref (ad l1)), (2, .int l2), (3, .long l3), (5, .int l5), (6, .int l6)] := hl
  exact t_Src_readGroups_e hx hb hml hown hT hK hN hA (Nat.le_refl 0) (Nat.le_refl 0) (Nat.le_refl 2) (Nat.le_refl 109) hNN hE (fun r x H locs pc ls hd hp hW hS => W.iret (v := r) hx hb hr (fun t ht hM => ⟨⟨r, x, rfl, hp, Wd.back hW ht.symm (fun _ z => z)⟩, hS.F ht⟩) hS.2.2 hd hlocks)  o l1 l2 l3 l5 l6 x _ _ ls fo fl1 hw hW hS hl
set_option maxRecDepth 100000 in
set_option maxHeartbeats 4000000 in
set_option maxRecDepth 100000 in
theorem t_Src_readRuns_140 {p : Program} {l : Launch} {e : Env} {R : Room} {s : State} {m : MethodId} {args : Array Value} {below : List Frame} {meth : Method} {c : Code} {cells slots : Nat} {Q : State → Prop} {dC : Nat → ClassId} {dI : Nat → Nat → Nat} {cI cB cJ cZ : ClassId} {A : Nat → Prop} {ad : Nat → Nat} {NN : Nat} {E : Heap} {tM tC : Nat} {kK kV : Nat → Nat} {post : St → Prop} {rec6 : Nat → Nat → Int32 → Int32 → Int32 → Int32 → St → Prop} (hx : p.tables.exec = Jvm.exec) (hb : c.code = b_Src_readRuns) (hml : c.maxLocals = 10) (hown : s.vm.findClass R_Src = some m.cls) (hT : ∀ w ∈ TG, w.before args s = true) (hK : va_K (dC, dI) CL (TY cI cB cJ cZ) s) (hN : NW s) (hA : ∀ q : Nat, s.heap.size ≤ q → A q) (hRc : cells ≤ R.cells) (hRs : slots ≤ R.slots) (hRf : 3 ≤ R.frames) (hRl : 139 ≤ R.locals) (hNN : 152 ≤ NN) (hE : CE E tM tC kK kV A s) (hret : ∀ (x : St) (H : Heap) (locs : List Loc) (pc : Nat) (ls : Array Slot), decode b_Src_readRuns pc = .ok (.return_, 1) → post x → Wd dC dI cI cB cJ cZ ad stC kcC NN A x H → va_S A s.heap H locs → W p l e R s m args below meth c H locs cells slots Q (F0 m pc ls [])) (hrec6 : ∀ (o : Nat) (l1 : Nat) (l2 : Int32) (l3 : Int32) (l4 : Int32) (l5 : Int32) (x : St) (H : Heap) (locs : List Loc) (ls : Array Slot), (o < NN ∧ kcC o = 8) → (l1 < NN ∧ kcC l1 = 22) → rec6 o l1 l2 l3 l4 l5 x → Wd dC dI cI cB cJ cZ ad stC kcC NN A x H → va_S A s.heap H locs → lv_has ls 10 [(0, .ref (ad o)), (1, .ref (ad l1)), (2, .int l2), (3, .int l3), (4, .int l4), (5, .int l5)] → W p l e R s m args below meth c H locs cells slots Q (F0 m 6 ls [])) : ∀ (o : Nat) (l1 : Nat) (l2 : Int32) (l3 : Int32) (l4 : Int32) (l5 : Int32) (l6 : Int64) (l8 : Int64) (x : St) (H : Heap) (locs : List Loc) (ls : Array Slot), (o < NN ∧ kcC o = 8) → (l1 < NN ∧ kcC l1 = 22) → j_Src_readRuns_140 post rec6 o l1 l2 l3 l4 l5 l6 l8 x → Wd dC dI cI cB cJ cZ ad stC kcC NN A x H → va_S A s.heap H locs → lv_has ls 10 [(0, .ref (ad o)), (1, .ref (ad l1)), (2, .int l2), (3, .int l3), (4, .int l4), (5, .int l5), (6, .long l6), (8, .long l8)] → W p l e R s m args below meth c H locs cells slots Q (F0 m 140 ls []) := by
  intro o l1 l2 l3 l4 l5 l6 l8 x H locs ls fo fl1 hw hW hS hl
  unfold j_Src_readRuns_140 at hw
  refine lv_iinc (v := (l5 + 1)) (lv' := [(5, .int (l5 + 1)), (0, .ref (ad o)), (1, .ref (ad l1)), (2, .int l2), (3, .int l3), (4, .int l4), (6, .long l6), (8, .long l8)]) hx hb d_Src_readRuns_140 hl (k := 5) rfl rfl (by decide) rfl (fun ls hl => ?_)
  refine lv_goto (tgt := 6) hx hb d_Src_readRuns_143 (by decide) ?_
  exact hrec6 o l1 l2 l3 l4 (l5 + 1) x H locs ls fo fl1 hw hW hS (lv_sub hl [1, 2, 3, 4, 5, 0] rfl)
set_option maxRecDepth 100000 in
set_option maxHeartbeats 4000000 in
set_option maxRecDepth 100000 in
theorem t_Src_readRuns_123 {p : Program} {l : Launch} {e : Env} {R : Room} {s : State} {m : MethodId} {args : Array Value} {below : List Frame} {meth : Method} {c : Code} {cells slots : Nat} {Q : State → Prop} {dC : Nat → ClassId} {dI : Nat → Nat → Nat} {cI cB cJ cZ : ClassId} {A : Nat → Prop} {ad : Nat → Nat} {NN : Nat} {E : Heap} {tM tC : Nat} {kK kV : Nat → Nat} {post : St → Prop} {rec6 : Nat → Nat → Int32 → Int32 → Int32 → Int32 → St → Prop} (hx : p.tables.exec = Jvm.exec) (hb : c.code = b_Src_readRuns) (hml : c.maxLocals = 10) (hown : s.vm.findClass R_Src = some m.cls) (hT : ∀ w ∈ TG, w.before args s = true) (hK : va_K (dC, dI) CL (TY cI cB cJ cZ) s) (hN : NW s) (hA : ∀ q : Nat, s.heap.size ≤ q → A q) (hRc : cells ≤ R.cells) (hRs : slots ≤ R.slots) (hRf : 3 ≤ R.frames) (hRl : 139 ≤ R.locals) (hNN : 152 ≤ NN) (hE : CE E tM tC kK kV A s) (hret : ∀ (x : St) (H : Heap) (locs : List Loc) (pc : Nat) (ls : Array Slot), decode b_Src_readRuns pc = .ok (.return_, 1) → post x → Wd dC dI cI cB cJ cZ ad stC kcC NN A x H → va_S A s.heap H locs → W p l e R s m args below meth c H locs cells slots Q (F0 m pc ls [])) (hrec6 : ∀ (o : Nat) (l1 : Nat) (l2 : Int32) (l3 : Int32) (l4 : Int32) (l5 : Int32) (x : St) (H : Heap) (locs : List Loc) (ls : Array Slot), (o < NN ∧ kcC o = 8) → (l1 < NN ∧ kcC l1 = 22) → rec6 o l1 l2 l3 l4 l5 x → Wd dC dI cI cB cJ cZ ad stC kcC NN A x H → va_S A s.heap H locs → lv_has ls 10 [(0, .ref (ad o)), (1, .ref (ad l1)), (2, .int l2), (3, .int l3), (4, .int l4), (5, .int l5)] → W p l e R s m args below meth c H locs cells slots Q (F0 m 6 ls [])) : ∀ (o : Nat) (l1 : Nat) (l2 : Int32) (l3 : Int32) (l4 : Int32) (l5 : Int32) (l6 : Int64) (l8 : Int64) (s0 : Int32) (s1 : Nat) (x : St) (H : Heap) (locs : List Loc) (ls : Array Slot), (o < NN ∧ kcC o = 8) → (l1 < NN ∧ kcC l1 = 22) → (s1 < NN ∧ kcC s1 = 8) → j_Src_readRuns_123 post rec6 o l1 l2 l3 l4 l5 l6 l8 s0 s1 x → Wd dC dI cI cB cJ cZ ad stC kcC NN A x H → va_S A s.heap H locs → lv_has ls 10 [(0, .ref (ad o)), (1, .ref (ad l1)), (2, .int l2), (3, .int l3), (4, .int l4), (5, .int l5), (6, .long l6), (8, .long l8)] → W p l e R s m args below meth c H locs cells slots Q (F0 m 123 ls [.int s0, .ref (ad s1)]) := by
  intro o l1 l2 l3 l4 l5 l6 l8 s0 s1 x H locs ls fo fl1 fs1 hw hW hS hl
  unfold j_Src_readRuns_123 at hw
  refine lv_iconst (v := 4) hx hb d_Src_readRuns_123 (by decide) ?_
  have hF := hW.free hS hA
  refine va_callv (va_runV (C := R_Src) (As := [.int s0, .int 4]) (rest := []) ⟨hx, hb, hml, hown, hT⟩ (k_Src_check l dC dI cI cB cJ cZ ad NN E tM tC kK kV hNN H.size s1 s0 4 x fs1 hw) ⟨callB_of 2 hT (gwt_in w_6_116) rfl rfl rfl (hT _ w_1_11) (hT _ w_6_156) (by decide +kernel) ⟨Nat.le_trans (Nat.le_of_ble_eq_true rfl) hRf, Nat.le_trans (Nat.le_of_ble_eq_true rfl) hRl⟩, hT _ w_6_114, hT _ w_6_115⟩ ⟨PVc.blind, va_recv hK hW.1 (ci := 8) (q0 := s1) rfl (pic_obj fs1.1 fs1.2 (by decide)), PVc.at _ hW hK hN hE hS hF⟩ rfl rfl hl.1 rfl (lv_room (Nat.le_of_ble_eq_true rfl)) d_Src_readRuns_124 ⟨hRc, hRs⟩) hS (fun q _ h => hF q h) hF (fun  x1 t H locs ht hvm hw hB hz1 hk1 hS => ?_)
  have hW := Wd.back hB ht hF
  clear hB ht hF hz1 hk1 hvm
  refine lv_aload_n hx hb d_Src_readRuns_127 rfl (lv_at hl 0 rfl) ?_
  refine lv_aload_n hx hb d_Src_readRuns_128 rfl (lv_at hl 1 rfl) ?_
  refine lv_iload hx hb d_Src_readRuns_129 (lv_at hl 4 rfl) ?_
  refine lv_lload hx hb d_Src_readRuns_131 (lv_at hl 7 rfl) ?_
  refine lv_iload_n hx hb d_Src_readRuns_133 rfl (lv_at hl 2 rfl) ?_
  refine lv_iload_n hx hb d_Src_readRuns_134 rfl (lv_at hl 3 rfl) ?_
  have hF := hW.free hS hA
  refine va_calli (va_runV (C := R_Src) (As := [.ref (ad l1), .int l4, .long l8, .int l2, .int l3]) (rest := []) ⟨hx, hb, hml, hown, hT⟩ (k_Src_readGroups l dC dI cI cB cJ cZ ad NN E tM tC kK kV hNN H.size o l1 l4 l8 l2 l3 x1 fo fl1 hw) ⟨callB_of 5 hT (gwt_in w_6_211) rfl rfl rfl (hT _ w_1_11) (hT _ w_6_208) (by decide +kernel) ⟨Nat.le_trans (Nat.le_of_ble_eq_true rfl) hRf, Nat.le_trans (Nat.le_of_ble_eq_true rfl) hRl⟩, hT _ w_6_210, hT _ ws_44⟩ ⟨PVc.blind, va_recv hK hW.1 (ci := 8) (q0 := o) rfl (pic_obj fo.1 fo.2 (by decide)), PVc.at _ hW hK hN hE hS hF⟩ rfl rfl hl.1 rfl (lv_room (Nat.le_of_ble_eq_true rfl)) d_Src_readRuns_135 ⟨hRc, hRs⟩) hS (fun q _ h => hF q h) hF (fun r3 x2 t H locs ht hvm hw hB hz1 hk1 hS => ?_)
  have hW := Wd.back hB ht hF
  clear hB ht hF hz1 hk1 hvm
  refine lv_istore (lv' := [(4, .int r3), (0, .ref (ad o)), (1, .ref (ad l1)), (2, .int l2), (3, .int l3), (5, .int l5), (6, .long l6), (8, .long l8)]) hx hb d_Src_readRuns_138 hl (by decide) rfl (fun ls hl => ?_)
  exact t_Src_readRuns_140 hx hb hml hown hT hK hN hA hRc hRs hRf hRl hNN hE hret hrec6 o l1 l2 l3 r3 l5 l6 l8 x2 H locs ls fo fl1 hw hW hS (lv_sub hl [1, 2, 3, 4, 0, 5, 6, 7] rfl)
set_option maxRecDepth 100000 in
set_option maxHeartbeats 4000000 in
set_option maxRecDepth 100000 in
theorem t_Src_readRuns_80 {p : Program} {l : Launch} {e : Env} {R : Room} {s : State} {m : MethodId} {args : Array Value} {below : List Frame} {meth : Method} {c : Code} {cells slots : Nat} {Q : State → Prop} {dC : Nat → ClassId} {dI : Nat → Nat → Nat} {cI cB cJ cZ : ClassId} {A : Nat → Prop} {ad : Nat → Nat} {NN : Nat} {E : Heap} {tM tC : Nat} {kK kV : Nat → Nat} {post : St → Prop} {rec6 : Nat → Nat → Int32 → Int32 → Int32 → Int32 → St → Prop} (hx : p.tables.exec = Jvm.exec) (hb : c.code = b_Src_readRuns) (hml : c.maxLocals = 10) (hown : s.vm.findClass R_Src = some m.cls) (hT : ∀ w ∈ TG, w.before args s = true) (hK : va_K (dC, dI) CL (TY cI cB cJ cZ) s) (hN : NW s) (hA : ∀ q : Nat, s.heap.size ≤ q → A q) (hRc : cells ≤ R.cells) (hRs : slots ≤ R.slots) (hRf : 3 ≤ R.frames) (hRl : 139 ≤ R.locals) (hNN : 152 ≤ NN) (hE : CE E tM tC kK kV A s) (hret : ∀ (x : St) (H : Heap) (locs : List Loc) (pc : Nat) (ls : Array Slot), decode b_Src_readRuns pc = .ok (.return_, 1) → post x → Wd dC dI cI cB cJ cZ ad stC kcC NN A x H → va_S A s.heap H locs → W p l e R s m args below meth c H locs cells slots Q (F0 m pc ls [])) (hrec6 : ∀ (o : Nat) (l1 : Nat) (l2 : Int32) (l3 : Int32) (l4 : Int32) (l5 : Int32) (x : St) (H : Heap) (locs : List Loc) (ls : Array Slot), (o < NN ∧ kcC o = 8) → (l1 < NN ∧ kcC l1 = 22) → rec6 o l1 l2 l3 l4 l5 x → Wd dC dI cI cB cJ cZ ad stC kcC NN A x H → va_S A s.heap H locs → lv_has ls 10 [(0, .ref (ad o)), (1, .ref (ad l1)), (2, .int l2), (3, .int l3), (4, .int l4), (5, .int l5)] → W p l e R s m args below meth c H locs cells slots Q (F0 m 6 ls [])) : ∀ (o : Nat) (l1 : Nat) (l2 : Int32) (l3 : Int32) (l4 : Int32) (l5 : Int32) (l6 : Int64) (l8 : Int64) (s0 : Int32) (s1 : Nat) (x : St) (H : Heap) (locs : List Loc) (ls : Array Slot), (o < NN ∧ kcC o = 8) → (l1 < NN ∧ kcC l1 = 22) → (s1 < NN ∧ kcC s1 = 8) → j_Src_readRuns_80 post rec6 o l1 l2 l3 l4 l5 l6 l8 s0 s1 x → Wd dC dI cI cB cJ cZ ad stC kcC NN A x H → va_S A s.heap H locs → lv_has ls 10 [(0, .ref (ad o)), (1, .ref (ad l1)), (2, .int l2), (3, .int l3), (4, .int l4), (5, .int l5), (6, .long l6), (8, .long l8)] → W p l e R s m args below meth c H locs cells slots Q (F0 m 80 ls [.int s0, .ref (ad s1)]) := by
  intro o l1 l2 l3 l4 l5 l6 l8 s0 s1 x H locs ls fo fl1 fs1 hw hW hS hl
  unfold j_Src_readRuns_80 at hw
  refine lv_iconst (v := 4) hx hb d_Src_readRuns_80 (by decide) ?_
  have hF := hW.free hS hA
  refine va_callv (va_runV (C := R_Src) (As := [.int s0, .int 4]) (rest := []) ⟨hx, hb, hml, hown, hT⟩ (k_Src_check l dC dI cI cB cJ cZ ad NN E tM tC kK kV hNN H.size s1 s0 4 x fs1 hw) ⟨callB_of 2 hT (gwt_in w_6_116) rfl rfl rfl (hT _ w_1_11) (hT _ w_6_156) (by decide +kernel) ⟨Nat.le_trans (Nat.le_of_ble_eq_true rfl) hRf, Nat.le_trans (Nat.le_of_ble_eq_true rfl) hRl⟩, hT _ w_6_114, hT _ w_6_115⟩ ⟨PVc.blind, va_recv hK hW.1 (ci := 8) (q0 := s1) rfl (pic_obj fs1.1 fs1.2 (by decide)), PVc.at _ hW hK hN hE hS hF⟩ rfl rfl hl.1 rfl (lv_room (Nat.le_of_ble_eq_true rfl)) d_Src_readRuns_81 ⟨hRc, hRs⟩) hS (fun q _ h => hF q h) hF (fun  x4 t H locs ht hvm hw hB hz1 hk1 hS => ?_)
  have hW := Wd.back hB ht hF
  clear hB ht hF hz1 hk1 hvm
  refine lv_aload_n hx hb d_Src_readRuns_84 rfl (lv_at hl 0 rfl) ?_
  refine lv_aload_n hx hb d_Src_readRuns_85 rfl (lv_at hl 1 rfl) ?_
  refine lv_iload hx hb d_Src_readRuns_86 (lv_at hl 4 rfl) ?_
  refine lv_lload hx hb d_Src_readRuns_88 (lv_at hl 7 rfl) ?_
  refine lv_iload_n hx hb d_Src_readRuns_90 rfl (lv_at hl 3 rfl) ?_
  have hF := hW.free hS hA
  refine va_calli (va_runV (C := R_Src) (As := [.ref (ad l1), .int l4, .long l8, .int l3]) (rest := []) ⟨hx, hb, hml, hown, hT⟩ (k_Src_readSame l dC dI cI cB cJ cZ ad NN E tM tC kK kV hNN H.size o l1 l4 l8 l3 x4 fo fl1 hw) ⟨callB_of 4 hT (gwt_in w_6_206) rfl rfl rfl (hT _ w_1_11) (hT _ w_6_203) (by decide +kernel) ⟨Nat.le_trans (Nat.le_of_ble_eq_true rfl) hRf, Nat.le_trans (Nat.le_of_ble_eq_true rfl) hRl⟩, hT _ w_6_205, hT _ ws_43⟩ ⟨PVc.blind, va_recv hK hW.1 (ci := 8) (q0 := o) rfl (pic_obj fo.1 fo.2 (by decide)), PVc.at _ hW hK hN hE hS hF⟩ rfl rfl hl.1 rfl (lv_room (Nat.le_of_ble_eq_true rfl)) d_Src_readRuns_91 ⟨hRc, hRs⟩) hS (fun q _ h => hF q h) hF (fun r6 x5 t H locs ht hvm hw hB hz1 hk1 hS => ?_)
  have hW := Wd.back hB ht hF
  clear hB ht hF hz1 hk1 hvm
  refine lv_istore (lv' := [(4, .int r6), (0, .ref (ad o)), (1, .ref (ad l1)), (2, .int l2), (3, .int l3), (5, .int l5), (6, .long l6), (8, .long l8)]) hx hb d_Src_readRuns_94 hl (by decide) rfl (fun ls hl => ?_)
  refine lv_goto (tgt := 140) hx hb d_Src_readRuns_96 (by decide) ?_
  exact t_Src_readRuns_140 hx hb hml hown hT hK hN hA hRc hRs hRf hRl hNN hE hret hrec6 o l1 l2 l3 r6 l5 l6 l8 x5 H locs ls fo fl1 hw hW hS (lv_sub hl [1, 2, 3, 4, 0, 5, 6, 7] rfl)
set_option maxRecDepth 100000 in
set_option maxHeartbeats 4000000 in
set_option maxRecDepth 100000 in
theorem t_Src_readRuns_50 {p : Program} {l : Launch} {e : Env} {R : Room} {s : State} {m : MethodId} {args : Array Value} {below : List Frame} {meth : Method} {c : Code} {cells slots : Nat} {Q : State → Prop} {dC : Nat → ClassId} {dI : Nat → Nat → Nat} {cI cB cJ cZ : ClassId} {A : Nat → Prop} {ad : Nat → Nat} {NN : Nat} {E : Heap} {tM tC : Nat} {kK kV : Nat → Nat} {post : St → Prop} {rec6 : Nat → Nat → Int32 → Int32 → Int32 → Int32 → St → Prop} (hx : p.tables.exec = Jvm.exec) (hb : c.code = b_Src_readRuns) (hml : c.maxLocals = 10) (hown : s.vm.findClass R_Src = some m.cls) (hT : ∀ w ∈ TG, w.before args s = true) (hK : va_K (dC, dI) CL (TY cI cB cJ cZ) s) (hN : NW s) (hA : ∀ q : Nat, s.heap.size ≤ q → A q) (hRc : cells ≤ R.cells) (hRs : slots ≤ R.slots) (hRf : 3 ≤ R.frames) (hRl : 139 ≤ R.locals) (hNN : 152 ≤ NN) (hE : CE E tM tC kK kV A s) (hret : ∀ (x : St) (H : Heap) (locs : List Loc) (pc : Nat) (ls : Array Slot), decode b_Src_readRuns pc = .ok (.return_, 1) → post x → Wd dC dI cI cB cJ cZ ad stC kcC NN A x H → va_S A s.heap H locs → W p l e R s m args below meth c H locs cells slots Q (F0 m pc ls [])) (hrec6 : ∀ (o : Nat) (l1 : Nat) (l2 : Int32) (l3 : Int32) (l4 : Int32) (l5 : Int32) (x : St) (H : Heap) (locs : List Loc) (ls : Array Slot), (o < NN ∧ kcC o = 8) → (l1 < NN ∧ kcC l1 = 22) → rec6 o l1 l2 l3 l4 l5 x → Wd dC dI cI cB cJ cZ ad stC kcC NN A x H → va_S A s.heap H locs → lv_has ls 10 [(0, .ref (ad o)), (1, .ref (ad l1)), (2, .int l2), (3, .int l3), (4, .int l4), (5, .int l5)] → W p l e R s m args below meth c H locs cells slots Q (F0 m 6 ls [])) : ∀ (o : Nat) (l1 : Nat) (l2 : Int32) (l3 : Int32) (l4 : Int32) (l5 : Int32) (l6 : Int64) (l8 : Int64) (s0 : Int32) (s1 : Nat) (x : St) (H : Heap) (locs : List Loc) (ls : Array Slot), (o < NN ∧ kcC o = 8) → (l1 < NN ∧ kcC l1 = 22) → (s1 < NN ∧ kcC s1 = 8) → j_Src_readRuns_50 post rec6 o l1 l2 l3 l4 l5 l6 l8 s0 s1 x → Wd dC dI cI cB cJ cZ ad stC kcC NN A x H → va_S A s.heap H locs → lv_has ls 10 [(0, .ref (ad o)), (1, .ref (ad l1)), (2, .int l2), (3, .int l3), (4, .int l4), (5, .int l5), (6, .long l6), (8, .long l8)] → W p l e R s m args below meth c H locs cells slots Q (F0 m 50 ls [.int s0, .ref (ad s1)]) := by
  intro o l1 l2 l3 l4 l5 l6 l8 s0 s1 x H locs ls fo fl1 fs1 hw hW hS hl
  unfold j_Src_readRuns_50 at hw
  refine lv_iconst (v := 3) hx hb d_Src_readRuns_50 (by decide) ?_
  have hF := hW.free hS hA
  refine va_callv (va_runV (C := R_Src) (As := [.int s0, .int 3]) (rest := []) ⟨hx, hb, hml, hown, hT⟩ (k_Src_check l dC dI cI cB cJ cZ ad NN E tM tC kK kV hNN H.size s1 s0 3 x fs1 hw) ⟨callB_of 2 hT (gwt_in w_6_116) rfl rfl rfl (hT _ w_1_11) (hT _ w_6_156) (by decide +kernel) ⟨Nat.le_trans (Nat.le_of_ble_eq_true rfl) hRf, Nat.le_trans (Nat.le_of_ble_eq_true rfl) hRl⟩, hT _ w_6_114, hT _ w_6_115⟩ ⟨PVc.blind, va_recv hK hW.1 (ci := 8) (q0 := s1) rfl (pic_obj fs1.1 fs1.2 (by decide)), PVc.at _ hW hK hN hE hS hF⟩ rfl rfl hl.1 rfl (lv_room (Nat.le_of_ble_eq_true rfl)) d_Src_readRuns_51 ⟨hRc, hRs⟩) hS (fun q _ h => hF q h) hF (fun  x7 t H locs ht hvm hw hB hz1 hk1 hS => ?_)
  have hW := Wd.back hB ht hF
  clear hB ht hF hz1 hk1 hvm
  refine lv_lload hx hb d_Src_readRuns_54 (lv_at hl 6 rfl) ?_
  refine lv_lconst (v := 1) hx hb d_Src_readRuns_56 (by decide) ?_
  refine lv_land hx hb d_Src_readRuns_57 ?_
  refine lv_lconst (v := 0) hx hb d_Src_readRuns_58 (by decide) ?_
  refine W.lcmp hx hb d_Src_readRuns_59 ?_
  refine lv_if_ne (tgt := 99) hx hb d_Src_readRuns_60 (by decide) (fun c8 => ?_) (fun c8 => ?_)
  · have hw := hw.1 c8
    refine lv_aload_n hx hb d_Src_readRuns_99 rfl (lv_at hl 0 rfl) ?_
    refine lv_lload hx hb d_Src_readRuns_100 (lv_at hl 7 rfl) ?_
    refine lv_lconst (v := 1) hx hb d_Src_readRuns_102 (by decide) ?_
    refine lv_lsub hx hb d_Src_readRuns_103 ?_
    refine lv_iload_n hx hb d_Src_readRuns_104 rfl (lv_at hl 2 rfl) ?_
    refine lv_iload hx hb d_Src_readRuns_105 (lv_at hl 4 rfl) ?_
    refine lv_isub hx hb d_Src_readRuns_107 ?_
    refine lv_iconst (v := 1) hx hb d_Src_readRuns_108 (by decide) ?_
    refine lv_isub hx hb d_Src_readRuns_109 ?_
    refine lv_bipush (v := 8) hx hb d_Src_readRuns_110 (by decide) ?_
    refine lv_idiv hx hb d_Src_readRuns_112 (by decide) ?_
    refine lv_i2l hx hb d_Src_readRuns_113 rfl ?_
    refine W.lcmp hx hb d_Src_readRuns_114 ?_
    refine lv_if_gt (tgt := 122) hx hb d_Src_readRuns_115 (by decide) (fun c9 => ?_) (fun c9 => ?_)
    · have hw := hw.1 c9
      refine lv_iconst (v := 0) hx hb d_Src_readRuns_122 (by decide) ?_
      exact t_Src_readRuns_123 hx hb hml hown hT hK hN hA hRc hRs hRf hRl hNN hE hret hrec6 o l1 l2 l3 l4 l5 l6 l8 0 o x7 H locs ls fo fl1 fo hw hW hS (lv_sub hl [0, 1, 2, 3, 4, 5, 6, 7] rfl)
    · have hw := hw.2 c9
      refine lv_iconst (v := 1) hx hb d_Src_readRuns_118 (by decide) ?_
      refine lv_goto (tgt := 123) hx hb d_Src_readRuns_119 (by decide) ?_
      exact t_Src_readRuns_123 hx hb hml hown hT hK hN hA hRc hRs hRf hRl hNN hE hret hrec6 o l1 l2 l3 l4 l5 l6 l8 1 o x7 H locs ls fo fl1 fo hw hW hS (lv_sub hl [0, 1, 2, 3, 4, 5, 6, 7] rfl)
  · have hw := hw.2 c8
    refine lv_aload_n hx hb d_Src_readRuns_63 rfl (lv_at hl 0 rfl) ?_
    refine lv_lload hx hb d_Src_readRuns_64 (lv_at hl 7 rfl) ?_
    refine lv_iload_n hx hb d_Src_readRuns_66 rfl (lv_at hl 2 rfl) ?_
    refine lv_iload hx hb d_Src_readRuns_67 (lv_at hl 4 rfl) ?_
    refine lv_isub hx hb d_Src_readRuns_69 ?_
    refine lv_i2l hx hb d_Src_readRuns_70 rfl ?_
    refine W.lcmp hx hb d_Src_readRuns_71 ?_
    refine lv_if_gt (tgt := 79) hx hb d_Src_readRuns_72 (by decide) (fun c10 => ?_) (fun c10 => ?_)
    · have hw := hw.1 c10
      refine lv_iconst (v := 0) hx hb d_Src_readRuns_79 (by decide) ?_
      exact t_Src_readRuns_80 hx hb hml hown hT hK hN hA hRc hRs hRf hRl hNN hE hret hrec6 o l1 l2 l3 l4 l5 l6 l8 0 o x7 H locs ls fo fl1 fo hw hW hS (lv_sub hl [0, 1, 2, 3, 4, 5, 6, 7] rfl)
    · have hw := hw.2 c10
      refine lv_iconst (v := 1) hx hb d_Src_readRuns_75 (by decide) ?_
      refine lv_goto (tgt := 80) hx hb d_Src_readRuns_76 (by decide) ?_
      exact t_Src_readRuns_80 hx hb hml hown hT hK hN hA hRc hRs hRf hRl hNN hE hret hrec6 o l1 l2 l3 l4 l5 l6 l8 1 o x7 H locs ls fo fl1 fo hw hW hS (lv_sub hl [0, 1, 2, 3, 4, 5, 6, 7] rfl)
set_option maxRecDepth 100000 in
set_option maxHeartbeats 4000000 in
set_option maxRecDepth 100000 in
theorem t_Src_readRuns_6 {p : Program} {l : Launch} {e : Env} {R : Room} {s : State} {m : MethodId} {args : Array Value} {below : List Frame} {meth : Method} {c : Code} {cells slots : Nat} {Q : State → Prop} {dC : Nat → ClassId} {dI : Nat → Nat → Nat} {cI cB cJ cZ : ClassId} {A : Nat → Prop} {ad : Nat → Nat} {NN : Nat} {E : Heap} {tM tC : Nat} {kK kV : Nat → Nat} {post : St → Prop} {rec6 : Nat → Nat → Int32 → Int32 → Int32 → Int32 → St → Prop} (hx : p.tables.exec = Jvm.exec) (hb : c.code = b_Src_readRuns) (hml : c.maxLocals = 10) (hown : s.vm.findClass R_Src = some m.cls) (hT : ∀ w ∈ TG, w.before args s = true) (hK : va_K (dC, dI) CL (TY cI cB cJ cZ) s) (hN : NW s) (hA : ∀ q : Nat, s.heap.size ≤ q → A q) (hRc : cells ≤ R.cells) (hRs : slots ≤ R.slots) (hRf : 3 ≤ R.frames) (hRl : 139 ≤ R.locals) (hNN : 152 ≤ NN) (hE : CE E tM tC kK kV A s) (hret : ∀ (x : St) (H : Heap) (locs : List Loc) (pc : Nat) (ls : Array Slot), decode b_Src_readRuns pc = .ok (.return_, 1) → post x → Wd dC dI cI cB cJ cZ ad stC kcC NN A x H → va_S A s.heap H locs → W p l e R s m args below meth c H locs cells slots Q (F0 m pc ls [])) (hrec6 : ∀ (o : Nat) (l1 : Nat) (l2 : Int32) (l3 : Int32) (l4 : Int32) (l5 : Int32) (x : St) (H : Heap) (locs : List Loc) (ls : Array Slot), (o < NN ∧ kcC o = 8) → (l1 < NN ∧ kcC l1 = 22) → rec6 o l1 l2 l3 l4 l5 x → Wd dC dI cI cB cJ cZ ad stC kcC NN A x H → va_S A s.heap H locs → lv_has ls 10 [(0, .ref (ad o)), (1, .ref (ad l1)), (2, .int l2), (3, .int l3), (4, .int l4), (5, .int l5)] → W p l e R s m args below meth c H locs cells slots Q (F0 m 6 ls [])) : ∀ (o : Nat) (l1 : Nat) (l2 : Int32) (l3 : Int32) (l4 : Int32) (l5 : Int32) (x : St) (H : Heap) (locs : List Loc) (ls : Array Slot), (o < NN ∧ kcC o = 8) → (l1 < NN ∧ kcC l1 = 22) → j_Src_readRuns_6 post rec6 o l1 l2 l3 l4 l5 x → Wd dC dI cI cB cJ cZ ad stC kcC NN A x H → va_S A s.heap H locs → lv_has ls 10 [(0, .ref (ad o)), (1, .ref (ad l1)), (2, .int l2), (3, .int l3), (4, .int l4), (5, .int l5)] → W p l e R s m args below meth c H locs cells slots Q (F0 m 6 ls []) := by
  intro o l1 l2 l3 l4 l5 x H locs ls fo fl1 hw hW hS hl
  unfold j_Src_readRuns_6 at hw
  refine lv_iload hx hb d_Src_readRuns_6 (lv_at hl 5 rfl) ?_
  refine lv_iload_n hx hb d_Src_readRuns_8 rfl (lv_at hl 2 rfl) ?_
  refine lv_icmp_ge (tgt := 146) hx hb d_Src_readRuns_9 (by decide) (fun c11 => ?_) (fun c11 => ?_)
  · have hw := hw.1 c11
    exact hret x H locs 146 ls d_Src_readRuns_146 hw hW hS
  · have hw := hw.2 c11
    refine lv_iload hx hb d_Src_readRuns_12 (lv_at hl 4 rfl) ?_
    refine lv_iload_n hx hb d_Src_readRuns_14 rfl (lv_at hl 2 rfl) ?_
    refine lv_icmp_ge (tgt := 146) hx hb d_Src_readRuns_15 (by decide) (fun c12 => ?_) (fun c12 => ?_)
    · have hw := hw.1 c12
      exact hret x H locs 146 ls d_Src_readRuns_146 hw hW hS
    · have hw := hw.2 c12
      refine lv_aload_n hx hb d_Src_readRuns_18 rfl (lv_at hl 0 rfl) ?_
      refine w_geti (k := 3) (t := 8) (C := R_Src) (T := F_Src) (N := 5) hx hb hT hown hK hW fo.1 fo.2 (by decide) in_Src rfl rfl (by decide) rfl fr_Src_3 w_3_1 d_Src_readRuns_19 ?_
      refine lv_if_ne (tgt := 146) hx hb d_Src_readRuns_22 (by decide) (fun c13 => ?_) (fun c13 => ?_)
      · have hw := hw.1 c13
        exact hret x H locs 146 ls d_Src_readRuns_146 hw hW hS
      · have hw := hw.2 c13
        refine lv_aload_n hx hb d_Src_readRuns_25 rfl (lv_at hl 0 rfl) ?_
        have hF := hW.free hS hA
        refine va_calll (va_runV (C := R_Src) (As := []) (rest := []) ⟨hx, hb, hml, hown, hT⟩ (k_Src_readVarint l dC dI cI cB cJ cZ ad NN E tM tC kK kV hNN H.size o x fo hw) ⟨callB_of 0 hT (gwt_in w_6_108) rfl rfl rfl (hT _ w_1_11) (hT _ w_6_151) (by decide +kernel) ⟨Nat.le_trans (Nat.le_of_ble_eq_true rfl) hRf, Nat.le_trans (Nat.le_of_ble_eq_true rfl) hRl⟩, hT _ w_6_106, hT _ w_6_107⟩ ⟨PVc.blind, va_recv hK hW.1 (ci := 8) (q0 := o) rfl (pic_obj fo.1 fo.2 (by decide)), PVc.at _ hW hK hN hE hS hF⟩ rfl rfl hl.1 rfl (lv_room (Nat.le_of_ble_eq_true rfl)) d_Src_readRuns_26 ⟨hRc, hRs⟩) hS (fun q _ h => hF q h) hF (fun r15 x14 t H locs ht hvm hw hB hz1 hk1 hS => ?_)
        have hW := Wd.back hB ht hF
        clear hB ht hF hz1 hk1 hvm
        refine lv_lstore (lv' := [(6, .long r15), (0, .ref (ad o)), (1, .ref (ad l1)), (2, .int l2), (3, .int l3), (4, .int l4), (5, .int l5)]) hx hb d_Src_readRuns_29 hl (by decide) rfl (fun ls hl => ?_)
        refine lv_lload hx hb d_Src_readRuns_31 (lv_at hl 0 rfl) ?_
        refine lv_iconst (v := 1) hx hb d_Src_readRuns_33 (by decide) ?_
        refine lv_lushr hx hb d_Src_readRuns_34 rfl ?_
        refine lv_topl (fun v16 ev16 => ?_)
        have hw := hw v16 ev16
        refine lv_lstore (lv' := [(8, .long v16), (6, .long r15), (0, .ref (ad o)), (1, .ref (ad l1)), (2, .int l2), (3, .int l3), (4, .int l4), (5, .int l5)]) hx hb d_Src_readRuns_35 hl (by decide) rfl (fun ls hl => ?_)
        refine lv_aload_n hx hb d_Src_readRuns_37 rfl (lv_at hl 2 rfl) ?_
        refine lv_lload hx hb d_Src_readRuns_38 (lv_at hl 0 rfl) ?_
        refine lv_lconst (v := 0) hx hb d_Src_readRuns_40 (by decide) ?_
        refine W.lcmp hx hb d_Src_readRuns_41 ?_
        refine lv_if_le (tgt := 49) hx hb d_Src_readRuns_42 (by decide) (fun c17 => ?_) (fun c17 => ?_)
        · have hw := hw.1 c17
          refine lv_iconst (v := 0) hx hb d_Src_readRuns_49 (by decide) ?_
          exact t_Src_readRuns_50 hx hb hml hown hT hK hN hA hRc hRs hRf hRl hNN hE hret hrec6 o l1 l2 l3 l4 l5 r15 v16 0 o x14 H locs ls fo fl1 fo hw hW hS (lv_sub hl [2, 3, 4, 5, 6, 7, 1, 0] rfl)
        · have hw := hw.2 c17
          refine lv_iconst (v := 1) hx hb d_Src_readRuns_45 (by decide) ?_
          refine lv_goto (tgt := 50) hx hb d_Src_readRuns_46 (by decide) ?_
          exact t_Src_readRuns_50 hx hb hml hown hT hK hN hA hRc hRs hRf hRl hNN hE hret hrec6 o l1 l2 l3 l4 l5 r15 v16 1 o x14 H locs ls fo fl1 fo hw hW hS (lv_sub hl [2, 3, 4, 5, 6, 7, 1, 0] rfl)
set_option maxHeartbeats 4000000 in
set_option maxRecDepth 100000 in
theorem tl_Src_readRuns_6 {p : Program} {l : Launch} {e : Env} {R : Room} {s : State} {m : MethodId} {args : Array Value} {below : List Frame} {meth : Method} {c : Code} {cells slots : Nat} {Q : State → Prop} {dC : Nat → ClassId} {dI : Nat → Nat → Nat} {cI cB cJ cZ : ClassId} {A : Nat → Prop} {ad : Nat → Nat} {NN : Nat} {E : Heap} {tM tC : Nat} {kK kV : Nat → Nat} {post : St → Prop} (hx : p.tables.exec = Jvm.exec) (hb : c.code = b_Src_readRuns) (hml : c.maxLocals = 10) (hown : s.vm.findClass R_Src = some m.cls) (hT : ∀ w ∈ TG, w.before args s = true) (hK : va_K (dC, dI) CL (TY cI cB cJ cZ) s) (hN : NW s) (hA : ∀ q : Nat, s.heap.size ≤ q → A q) (hRc : cells ≤ R.cells) (hRs : slots ≤ R.slots) (hRf : 3 ≤ R.frames) (hRl : 139 ≤ R.locals) (hNN : 152 ≤ NN) (hE : CE E tM tC kK kV A s) (hret : ∀ (x : St) (H : Heap) (locs : List Loc) (pc : Nat) (ls : Array Slot), decode b_Src_readRuns pc = .ok (.return_, 1) → post x → Wd dC dI cI cB cJ cZ ad stC kcC NN A x H → va_S A s.heap H locs → W p l e R s m args below meth c H locs cells slots Q (F0 m pc ls []))  : ∀ n : Nat, ∀ (o : Nat) (l1 : Nat) (l2 : Int32) (l3 : Int32) (l4 : Int32) (l5 : Int32) (x : St) (H : Heap) (locs : List Loc) (ls : Array Slot), (o < NN ∧ kcC o = 8) → (l1 < NN ∧ kcC l1 = 22) → wl_Src_readRuns_6 post n o l1 l2 l3 l4 l5 x → Wd dC dI cI cB cJ cZ ad stC kcC NN A x H → va_S A s.heap H locs → lv_has ls 10 [(0, .ref (ad o)), (1, .ref (ad l1)), (2, .int l2), (3, .int l3), (4, .int l4), (5, .int l5)] → W p l e R s m args below meth c H locs cells slots Q (F0 m 6 ls []) := by
  intro n
  induction n with
  | zero => intro o l1 l2 l3 l4 l5 x H locs ls fo fl1 hw; exact hw.elim
  | succ n ih => intro o l1 l2 l3 l4 l5 x H locs ls fo fl1 hw hW hS hl; exact t_Src_readRuns_6 hx hb hml hown hT hK hN hA hRc hRs hRf hRl hNN hE hret  ih o l1 l2 l3 l4 l5 x H locs ls fo fl1 hw hW hS hl
set_option maxRecDepth 100000 in
set_option maxHeartbeats 4000000 in
set_option maxRecDepth 100000 in
theorem t_Src_readRuns_e {p : Program} {l : Launch} {e : Env} {R : Room} {s : State} {m : MethodId} {args : Array Value} {below : List Frame} {meth : Method} {c : Code} {cells slots : Nat} {Q : State → Prop} {dC : Nat → ClassId} {dI : Nat → Nat → Nat} {cI cB cJ cZ : ClassId} {A : Nat → Prop} {ad : Nat → Nat} {NN : Nat} {E : Heap} {tM tC : Nat} {kK kV : Nat → Nat} {post : St → Prop} (hx : p.tables.exec = Jvm.exec) (hb : c.code = b_Src_readRuns) (hml : c.maxLocals = 10) (hown : s.vm.findClass R_Src = some m.cls) (hT : ∀ w ∈ TG, w.before args s = true) (hK : va_K (dC, dI) CL (TY cI cB cJ cZ) s) (hN : NW s) (hA : ∀ q : Nat, s.heap.size ≤ q → A q) (hRc : cells ≤ R.cells) (hRs : slots ≤ R.slots) (hRf : 3 ≤ R.frames) (hRl : 139 ≤ R.locals) (hNN : 152 ≤ NN) (hE : CE E tM tC kK kV A s) (hret : ∀ (x : St) (H : Heap) (locs : List Loc) (pc : Nat) (ls : Array Slot), decode b_Src_readRuns pc = .ok (.return_, 1) → post x → Wd dC dI cI cB cJ cZ ad stC kcC NN A x H → va_S A s.heap H locs → W p l e R s m args below meth c H locs cells slots Q (F0 m pc ls [])) : ∀ (o : Nat) (l1 : Nat) (l2 : Int32) (l3 : Int32) (x : St) (H : Heap) (locs : List Loc) (ls : Array Slot), (o < NN ∧ kcC o = 8) → (l1 < NN ∧ kcC l1 = 22) → wp_Src_readRuns post o l1 l2 l3 x → Wd dC dI cI cB cJ cZ ad stC kcC NN A x H → va_S A s.heap H locs → lv_has ls 10 [(0, .ref (ad o)), (1, .ref (ad l1)), (2, .int l2), (3, .int l3)] → W p l e R s m args below meth c H locs cells slots Q (F0 m 0 ls []) := by
  intro o l1 l2 l3 x H locs ls fo fl1 hw hW hS hl
  unfold wp_Src_readRuns at hw
  refine lv_iconst (v := 0) hx hb d_Src_readRuns_0 (by decide) ?_
  refine lv_istore (lv' := [(4, .int 0), (0, .ref (ad o)), (1, .ref (ad l1)), (2, .int l2), (3, .int l3)]) hx hb d_Src_readRuns_1 hl (by decide) rfl (fun ls hl => ?_)
  refine lv_iconst (v := 0) hx hb d_Src_readRuns_3 (by decide) ?_
  refine lv_istore (lv' := [(5, .int 0), (4, .int 0), (0, .ref (ad o)), (1, .ref (ad l1)), (2, .int l2), (3, .int l3)]) hx hb d_Src_readRuns_4 hl (by decide) rfl (fun ls hl => ?_)
  obtain ⟨n, hw⟩ := hw
  exact tl_Src_readRuns_6 hx hb hml hown hT hK hN hA hRc hRs hRf hRl hNN hE hret  n o l1 l2 l3 0 0 x H locs ls fo fl1 hw hW hS (lv_sub hl [2, 3, 4, 5, 1, 0] rfl)
set_option maxHeartbeats 4000000 in
set_option maxRecDepth 100000 in
theorem k_Src_readRuns (l : Launch) (dC : Nat → ClassId) (dI : Nat → Nat → Nat) (cI cB cJ cZ : ClassId) (ad : Nat → Nat) (NN : Nat) (E : Heap) (tM tC : Nat) (kK kV : Nat → Nat) (hNN : 152 ≤ NN) (sz : Nat) (o : Nat) (l1 : Nat) (l2 : Int32) (l3 : Int32) (x : St) (fo : o < NN ∧ kcC o = 8) (fl1 : l1 < NN ∧ kcC l1 = 22) {post : St → Prop} (hw : wp_Src_readRuns post o l1 l2 l3 x) : Met l y_Src_readRuns (wsOf y_Src_readRuns b_Src_readRuns 10 (none)) ({ frames := 3, cells := 0, slots := 0, locals := 139 }) (va_Pc [.ref (ad o), .ref (ad l1), .int l2, .int l3] (PVc dC dI cI cB cJ cZ ad stC kcC NN E tM tC kK kV sz x)) (va_Qv (fun (y : St) => post y) (fun y t => Wd dC dI cI cB cJ cZ ad stC kcC NN (va_A (pic ad stC kcC NN cI cB cJ cZ x) sz) y t.heap) (va_A (pic ad stC kcC NN cI cB cJ cZ x) sz)) 0 0 (va_A (pic ad stC kcC NN cI cB cJ cZ x) sz) := by
  refine Met.ofW (cc := b_Src_readRuns) (maxL := 10) (ret := none) (by decide) rfl ?_
  intro p e s m args below meth c s₁ B hml hv
  obtain ⟨rfl, ⟨hsz, hW0, hK, hN⟩, hE⟩ := hv
  have hx := B.exec
  have hb := B.bytes
  have hr := B.returns
  have hts := atoms_spec B.pre
  have hT : ∀ w ∈ TG, w.before _ s = true := fun w h => hts w (List.mem_cons_of_mem _ h)
  have hown : s.vm.findClass R_Src = some m.cls := findClass_of_methodNamed B.named
  have hlocks := B.notSynchronized
  subst hsz
  have hW : Wd dC dI cI cB cJ cZ ad stC kcC NN (va_A (pic ad stC kcC NN cI cB cJ cZ x) s.heap.size) x s.heap := ⟨hW0.1, hW0.2.1.self (sz := s.heap.size), hW0.2.2⟩
  generalize hAe : va_A (pic ad stC kcC NN cI cB cJ cZ x) s.heap.size = A at hW hE ⊢
  have hA : ∀ q : Nat, s.heap.size ≤ q → A q := fun q h => by rw [← hAe]; exact Or.inr h
  have hS : va_S A s.heap s.heap [] := va_S.rf
  have hl := lv_entry ([.ref (ad o), .ref (ad l1), .int l2, .int l3]) (n := 10) (Nat.le_of_ble_eq_true rfl)
  rw [lg_entry_eq]
  generalize (lg_sl ([.ref (ad o), .ref (ad l1), .int l2, .int l3]) ++ List.replicate (10 - (lg_sl ([.ref (ad o), .ref (ad l1), .int l2, .int l3])).length) Slot.unset).toArray = ls at hl ⊢
  have hl : lv_has ls 10 [(0, .ref (ad o)), (1, .ref (ad l1)), (2, .int l2), (3, .int l3)] := hl
  exact t_Src_readRuns_e hx hb hml hown hT hK hN hA (Nat.le_refl 0) (Nat.le_refl 0) (Nat.le_refl 3) (Nat.le_refl 139) hNN hE (fun x H locs pc ls hd hp hW hS => W.vret hx hb hr (fun t ht hM => ⟨⟨x, rfl, hp, Wd.back hW ht.symm (fun _ z => z)⟩, hS.F ht⟩) hS.2.2 hd hlocks)  o l1 l2 l3 x _ _ ls fo fl1 hw hW hS hl
set_option maxRecDepth 100000 in
set_option maxHeartbeats 4000000 in
set_option maxRecDepth 100000 in
theorem t_Opn_readLevels_106 {p : Program} {l : Launch} {e : Env} {R : Room} {s : State} {m : MethodId} {args : Array Value} {below : List Frame} {meth : Method} {c : Code} {cells slots : Nat} {Q : State → Prop} {dC : Nat → ClassId} {dI : Nat → Nat → Nat} {cI cB cJ cZ : ClassId} {A : Nat → Prop} {ad : Nat → Nat} {NN : Nat} {E : Heap} {tM tC : Nat} {kK kV : Nat → Nat} {post : St → Prop} {rec56 : Nat → Nat → Int32 → Int32 → Int32 → St → Prop} (hx : p.tables.exec = Jvm.exec) (hb : c.code = b_Opn_readLevels) (hml : c.maxLocals = 7) (hown : s.vm.findClass R_Opn = some m.cls) (hT : ∀ w ∈ TG, w.before args s = true) (hK : va_K (dC, dI) CL (TY cI cB cJ cZ) s) (hN : NW s) (hA : ∀ q : Nat, s.heap.size ≤ q → A q) (hRc : cells ≤ R.cells) (hRs : slots ≤ R.slots) (hRf : 4 ≤ R.frames) (hRl : 168 ≤ R.locals) (hNN : 152 ≤ NN) (hE : CE E tM tC kK kV A s) (hret : ∀ (x : St) (H : Heap) (locs : List Loc) (pc : Nat) (ls : Array Slot), decode b_Opn_readLevels pc = .ok (.return_, 1) → post x → Wd dC dI cI cB cJ cZ ad stC kcC NN A x H → va_S A s.heap H locs → W p l e R s m args below meth c H locs cells slots Q (F0 m pc ls [])) (hrec56 : ∀ (o : Nat) (l1 : Nat) (l2 : Int32) (l3 : Int32) (l4 : Int32) (x : St) (H : Heap) (locs : List Loc) (ls : Array Slot), (o < NN ∧ kcC o = 7) → (l1 < NN ∧ kcC l1 = 21) → rec56 o l1 l2 l3 l4 x → Wd dC dI cI cB cJ cZ ad stC kcC NN A x H → va_S A s.heap H locs → lv_has ls 7 [(0, .ref (ad o)), (1, .ref (ad l1)), (2, .int l2), (3, .int l3), (4, .int l4)] → W p l e R s m args below meth c H locs cells slots Q (F0 m 56 ls [])) : ∀ (o : Nat) (l1 : Nat) (l2 : Int32) (l3 : Int32) (l4 : Int32) (l5 : Int64) (s0 : Int32) (s1 : Nat) (x : St) (H : Heap) (locs : List Loc) (ls : Array Slot), (o < NN ∧ kcC o = 7) → (l1 < NN ∧ kcC l1 = 21) → (s1 < NN ∧ kcC s1 = 8) → j_Opn_readLevels_106 post rec56 o l1 l2 l3 l4 l5 s0 s1 x → Wd dC dI cI cB cJ cZ ad stC kcC NN A x H → va_S A s.heap H locs → lv_has ls 7 [(0, .ref (ad o)), (1, .ref (ad l1)), (2, .int l2), (3, .int l3), (4, .int l4), (5, .long l5)] → W p l e R s m args below meth c H locs cells slots Q (F0 m 106 ls [.int s0, .ref (ad s1)]) := by
  intro o l1 l2 l3 l4 l5 s0 s1 x H locs ls fo fl1 fs1 hw hW hS hl
  unfold j_Opn_readLevels_106 at hw
  refine lv_bipush (v := 9) hx hb d_Opn_readLevels_106 (by decide) ?_
  have hF := hW.free hS hA
  refine va_callv (va_runV (C := R_Src) (As := [.int s0, .int 9]) (rest := []) ⟨hx, hb, hml, hown, hT⟩ (k_Src_check l dC dI cI cB cJ cZ ad NN E tM tC kK kV hNN H.size s1 s0 9 x fs1 hw) ⟨callB_of 2 hT (gwt_in w_6_116) rfl rfl rfl (hT _ w_1_11) (hT _ w_6_113) (by decide +kernel) ⟨Nat.le_trans (Nat.le_of_ble_eq_true rfl) hRf, Nat.le_trans (Nat.le_of_ble_eq_true rfl) hRl⟩, hT _ w_6_114, hT _ w_6_115⟩ ⟨PVc.blind, va_recv hK hW.1 (ci := 8) (q0 := s1) rfl (pic_obj fs1.1 fs1.2 (by decide)), PVc.at _ hW hK hN hE hS hF⟩ rfl rfl hl.1 rfl (lv_room (Nat.le_of_ble_eq_true rfl)) d_Opn_readLevels_108 ⟨hRc, hRs⟩) hS (fun q _ h => hF q h) hF (fun  x1 t H locs ht hvm hw hB hz1 hk1 hS => ?_)
  have hW := Wd.back hB ht hF
  clear hB ht hF hz1 hk1 hvm
  refine lv_aload_n hx hb d_Opn_readLevels_111 rfl (lv_at hl 1 rfl) ?_
  refine lv_aload_n hx hb d_Opn_readLevels_112 rfl (lv_at hl 0 rfl) ?_
  refine w_getf (q := (stC o 0)) (k := 0) (t := 7) (C := R_Opn) (T := F_Opn) (N := 17) hx hb hT hown hK hW fo.1 fo.2 (by decide) in_Opn rfl rfl (by decide) rfl fr_Opn_0 w_3_15 d_Opn_readLevels_113 rfl ?_
  refine w_geti (k := 4) (t := 6) (C := R_Vlt) (T := F_Vlt) (N := 20) hx hb hT hown hK hW (st_ty hNN fo.1 fo.2 rfl).1 (st_ty hNN fo.1 fo.2 rfl).2 (by decide) in_Vlt rfl rfl (by decide) rfl fr_Vlt_4 w_2_133 d_Opn_readLevels_116 ?_
  refine lv_iload hx hb d_Opn_readLevels_119 (lv_at hl 4 rfl) ?_
  refine lv_iadd hx hb d_Opn_readLevels_121 ?_
  refine lv_lload hx hb d_Opn_readLevels_122 (lv_at hl 5 rfl) ?_
  refine lv_l2i hx hb d_Opn_readLevels_124 rfl ?_
  refine lv_i2b hx hb d_Opn_readLevels_125 rfl ?_
  obtain ⟨hi, hw⟩ := hw
  refine w_bast (o := l1) hx hb hK hW hS fl1.1 fl1.2 hi d_Opn_readLevels_126 (fun H locs hW hS => ?_)
  obtain ⟨x2, ex2⟩ : ∃ y : St, y = setA x1 l1 ((fI x1 (stC o 0) 4) + l4) (vp_nar .byte ((l5 : Int64).toInt32 : Int32).toInt8.toInt32) := ⟨_, rfl⟩
  rw [← ex2] at hW
  have hw := hw x2 ex2
  refine lv_iinc (v := (l4 + 1)) (lv' := [(4, .int (l4 + 1)), (0, .ref (ad o)), (1, .ref (ad l1)), (2, .int l2), (3, .int l3), (5, .long l5)]) hx hb d_Opn_readLevels_127 hl (k := 4) rfl rfl (by decide) rfl (fun ls hl => ?_)
  refine lv_goto (tgt := 56) hx hb d_Opn_readLevels_130 (by decide) ?_
  exact hrec56 o l1 l2 l3 (l4 + 1) x2 H locs ls fo fl1 hw hW hS (lv_sub hl [1, 2, 3, 4, 0] rfl)
set_option maxRecDepth 100000 in
set_option maxHeartbeats 4000000 in
set_option maxRecDepth 100000 in
theorem t_Opn_readLevels_87 {p : Program} {l : Launch} {e : Env} {R : Room} {s : State} {m : MethodId} {args : Array Value} {below : List Frame} {meth : Method} {c : Code} {cells slots : Nat} {Q : State → Prop} {dC : Nat → ClassId} {dI : Nat → Nat → Nat} {cI cB cJ cZ : ClassId} {A : Nat → Prop} {ad : Nat → Nat} {NN : Nat} {E : Heap} {tM tC : Nat} {kK kV : Nat → Nat} {post : St → Prop} {rec56 : Nat → Nat → Int32 → Int32 → Int32 → St → Prop} (hx : p.tables.exec = Jvm.exec) (hb : c.code = b_Opn_readLevels) (hml : c.maxLocals = 7) (hown : s.vm.findClass R_Opn = some m.cls) (hT : ∀ w ∈ TG, w.before args s = true) (hK : va_K (dC, dI) CL (TY cI cB cJ cZ) s) (hN : NW s) (hA : ∀ q : Nat, s.heap.size ≤ q → A q) (hRc : cells ≤ R.cells) (hRs : slots ≤ R.slots) (hRf : 4 ≤ R.frames) (hRl : 168 ≤ R.locals) (hNN : 152 ≤ NN) (hE : CE E tM tC kK kV A s) (hret : ∀ (x : St) (H : Heap) (locs : List Loc) (pc : Nat) (ls : Array Slot), decode b_Opn_readLevels pc = .ok (.return_, 1) → post x → Wd dC dI cI cB cJ cZ ad stC kcC NN A x H → va_S A s.heap H locs → W p l e R s m args below meth c H locs cells slots Q (F0 m pc ls [])) (hrec56 : ∀ (o : Nat) (l1 : Nat) (l2 : Int32) (l3 : Int32) (l4 : Int32) (x : St) (H : Heap) (locs : List Loc) (ls : Array Slot), (o < NN ∧ kcC o = 7) → (l1 < NN ∧ kcC l1 = 21) → rec56 o l1 l2 l3 l4 x → Wd dC dI cI cB cJ cZ ad stC kcC NN A x H → va_S A s.heap H locs → lv_has ls 7 [(0, .ref (ad o)), (1, .ref (ad l1)), (2, .int l2), (3, .int l3), (4, .int l4)] → W p l e R s m args below meth c H locs cells slots Q (F0 m 56 ls [])) : ∀ (o : Nat) (l1 : Nat) (l2 : Int32) (l3 : Int32) (l4 : Int32) (s0 : Int64) (x : St) (H : Heap) (locs : List Loc) (ls : Array Slot), (o < NN ∧ kcC o = 7) → (l1 < NN ∧ kcC l1 = 21) → j_Opn_readLevels_87 post rec56 o l1 l2 l3 l4 s0 x → Wd dC dI cI cB cJ cZ ad stC kcC NN A x H → va_S A s.heap H locs → lv_has ls 7 [(0, .ref (ad o)), (1, .ref (ad l1)), (2, .int l2), (3, .int l3), (4, .int l4)] → W p l e R s m args below meth c H locs cells slots Q (F0 m 87 ls [.long s0]) := by
  intro o l1 l2 l3 l4 s0 x H locs ls fo fl1 hw hW hS hl
  unfold j_Opn_readLevels_87 at hw
  refine lv_lstore (lv' := [(5, .long s0), (0, .ref (ad o)), (1, .ref (ad l1)), (2, .int l2), (3, .int l3), (4, .int l4)]) hx hb d_Opn_readLevels_87 hl (by decide) rfl (fun ls hl => ?_)
  refine lv_aload_n hx hb d_Opn_readLevels_89 rfl (lv_at hl 1 rfl) ?_
  refine w_getf (q := (stC o 2)) (k := 2) (t := 7) (C := R_Opn) (T := F_Opn) (N := 17) hx hb hT hown hK hW fo.1 fo.2 (by decide) in_Opn rfl rfl (by decide) rfl fr_Opn_2 w_3_17 d_Opn_readLevels_90 rfl ?_
  refine lv_lload hx hb d_Opn_readLevels_93 (lv_at hl 0 rfl) ?_
  refine lv_iload_n hx hb d_Opn_readLevels_95 rfl (lv_at hl 4 rfl) ?_
  refine lv_i2l hx hb d_Opn_readLevels_96 rfl ?_
  refine W.lcmp hx hb d_Opn_readLevels_97 ?_
  refine lv_if_gt (tgt := 105) hx hb d_Opn_readLevels_98 (by decide) (fun c3 => ?_) (fun c3 => ?_)
  · have hw := hw.1 c3
    refine lv_iconst (v := 0) hx hb d_Opn_readLevels_105 (by decide) ?_
    exact t_Opn_readLevels_106 hx hb hml hown hT hK hN hA hRc hRs hRf hRl hNN hE hret hrec56 o l1 l2 l3 l4 s0 0 (stC o 2) x H locs ls fo fl1 (st_ty hNN fo.1 fo.2 rfl) hw hW hS (lv_sub hl [1, 2, 3, 4, 5, 0] rfl)
  · have hw := hw.2 c3
    refine lv_iconst (v := 1) hx hb d_Opn_readLevels_101 (by decide) ?_
    refine lv_goto (tgt := 106) hx hb d_Opn_readLevels_102 (by decide) ?_
    exact t_Opn_readLevels_106 hx hb hml hown hT hK hN hA hRc hRs hRf hRl hNN hE hret hrec56 o l1 l2 l3 l4 s0 1 (stC o 2) x H locs ls fo fl1 (st_ty hNN fo.1 fo.2 rfl) hw hW hS (lv_sub hl [1, 2, 3, 4, 5, 0] rfl)
set_option maxRecDepth 100000 in
set_option maxHeartbeats 4000000 in
set_option maxRecDepth 100000 in
theorem t_Opn_readLevels_56 {p : Program} {l : Launch} {e : Env} {R : Room} {s : State} {m : MethodId} {args : Array Value} {below : List Frame} {meth : Method} {c : Code} {cells slots : Nat} {Q : State → Prop} {dC : Nat → ClassId} {dI : Nat → Nat → Nat} {cI cB cJ cZ : ClassId} {A : Nat → Prop} {ad : Nat → Nat} {NN : Nat} {E : Heap} {tM tC : Nat} {kK kV : Nat → Nat} {post : St → Prop} {rec56 : Nat → Nat → Int32 → Int32 → Int32 → St → Prop} (hx : p.tables.exec = Jvm.exec) (hb : c.code = b_Opn_readLevels) (hml : c.maxLocals = 7) (hown : s.vm.findClass R_Opn = some m.cls) (hT : ∀ w ∈ TG, w.before args s = true) (hK : va_K (dC, dI) CL (TY cI cB cJ cZ) s) (hN : NW s) (hA : ∀ q : Nat, s.heap.size ≤ q → A q) (hRc : cells ≤ R.cells) (hRs : slots ≤ R.slots) (hRf : 4 ≤ R.frames) (hRl : 168 ≤ R.locals) (hNN : 152 ≤ NN) (hE : CE E tM tC kK kV A s) (hret : ∀ (x : St) (H : Heap) (locs : List Loc) (pc : Nat) (ls : Array Slot), decode b_Opn_readLevels pc = .ok (.return_, 1) → post x → Wd dC dI cI cB cJ cZ ad stC kcC NN A x H → va_S A s.heap H locs → W p l e R s m args below meth c H locs cells slots Q (F0 m pc ls [])) (hrec56 : ∀ (o : Nat) (l1 : Nat) (l2 : Int32) (l3 : Int32) (l4 : Int32) (x : St) (H : Heap) (locs : List Loc) (ls : Array Slot), (o < NN ∧ kcC o = 7) → (l1 < NN ∧ kcC l1 = 21) → rec56 o l1 l2 l3 l4 x → Wd dC dI cI cB cJ cZ ad stC kcC NN A x H → va_S A s.heap H locs → lv_has ls 7 [(0, .ref (ad o)), (1, .ref (ad l1)), (2, .int l2), (3, .int l3), (4, .int l4)] → W p l e R s m args below meth c H locs cells slots Q (F0 m 56 ls [])) : ∀ (o : Nat) (l1 : Nat) (l2 : Int32) (l3 : Int32) (l4 : Int32) (x : St) (H : Heap) (locs : List Loc) (ls : Array Slot), (o < NN ∧ kcC o = 7) → (l1 < NN ∧ kcC l1 = 21) → j_Opn_readLevels_56 post rec56 o l1 l2 l3 l4 x → Wd dC dI cI cB cJ cZ ad stC kcC NN A x H → va_S A s.heap H locs → lv_has ls 7 [(0, .ref (ad o)), (1, .ref (ad l1)), (2, .int l2), (3, .int l3), (4, .int l4)] → W p l e R s m args below meth c H locs cells slots Q (F0 m 56 ls []) := by
  intro o l1 l2 l3 l4 x H locs ls fo fl1 hw hW hS hl
  unfold j_Opn_readLevels_56 at hw
  refine lv_iload hx hb d_Opn_readLevels_56 (lv_at hl 4 rfl) ?_
  refine lv_iload_n hx hb d_Opn_readLevels_58 rfl (lv_at hl 2 rfl) ?_
  refine lv_icmp_ge (tgt := 133) hx hb d_Opn_readLevels_59 (by decide) (fun c4 => ?_) (fun c4 => ?_)
  · have hw := hw.1 c4
    exact hret x H locs 133 ls d_Opn_readLevels_133 hw hW hS
  · have hw := hw.2 c4
    refine lv_aload_n hx hb d_Opn_readLevels_62 rfl (lv_at hl 0 rfl) ?_
    refine w_getf (q := (stC o 2)) (k := 2) (t := 7) (C := R_Opn) (T := F_Opn) (N := 17) hx hb hT hown hK hW fo.1 fo.2 (by decide) in_Opn rfl rfl (by decide) rfl fr_Opn_2 w_3_17 d_Opn_readLevels_63 rfl ?_
    refine w_geti (k := 3) (t := 8) (C := R_Src) (T := F_Src) (N := 5) hx hb hT hown hK hW (st_ty hNN fo.1 fo.2 rfl).1 (st_ty hNN fo.1 fo.2 rfl).2 (by decide) in_Src rfl rfl (by decide) rfl fr_Src_3 w_3_2 d_Opn_readLevels_66 ?_
    refine lv_if_ne (tgt := 133) hx hb d_Opn_readLevels_69 (by decide) (fun c5 => ?_) (fun c5 => ?_)
    · have hw := hw.1 c5
      exact hret x H locs 133 ls d_Opn_readLevels_133 hw hW hS
    · have hw := hw.2 c5
      refine lv_iload_n hx hb d_Opn_readLevels_72 rfl (lv_at hl 3 rfl) ?_
      refine lv_if_le (tgt := 86) hx hb d_Opn_readLevels_73 (by decide) (fun c6 => ?_) (fun c6 => ?_)
      · have hw := hw.1 c6
        refine lv_lconst (v := 0) hx hb d_Opn_readLevels_86 (by decide) ?_
        exact t_Opn_readLevels_87 hx hb hml hown hT hK hN hA hRc hRs hRf hRl hNN hE hret hrec56 o l1 l2 l3 l4 0 x H locs ls fo fl1 hw hW hS (lv_sub hl [0, 1, 2, 3, 4] rfl)
      · have hw := hw.2 c6
        refine lv_aload_n hx hb d_Opn_readLevels_76 rfl (lv_at hl 0 rfl) ?_
        refine w_getf (q := (stC o 7)) (k := 7) (t := 7) (C := R_Opn) (T := F_Opn) (N := 17) hx hb hT hown hK hW fo.1 fo.2 (by decide) in_Opn rfl rfl (by decide) rfl fr_Opn_7 w_3_23 d_Opn_readLevels_77 rfl ?_
        refine lv_iload hx hb d_Opn_readLevels_80 (lv_at hl 4 rfl) ?_
        obtain ⟨hi, hw⟩ := hw
        refine w_lald (o := (stC o 7)) hx hb hK hW (st_ty hNN fo.1 fo.2 rfl).1 (st_ty hNN fo.1 fo.2 rfl).2 hi d_Opn_readLevels_82 ?_
        refine lv_goto (tgt := 87) hx hb d_Opn_readLevels_83 (by decide) ?_
        exact t_Opn_readLevels_87 hx hb hml hown hT hK hN hA hRc hRs hRf hRl hNN hE hret hrec56 o l1 l2 l3 l4 (rL x (stC o 7) l4) x H locs ls fo fl1 hw hW hS (lv_sub hl [0, 1, 2, 3, 4] rfl)
set_option maxHeartbeats 4000000 in
set_option maxRecDepth 100000 in
theorem tl_Opn_readLevels_56 {p : Program} {l : Launch} {e : Env} {R : Room} {s : State} {m : MethodId} {args : Array Value} {below : List Frame} {meth : Method} {c : Code} {cells slots : Nat} {Q : State → Prop} {dC : Nat → ClassId} {dI : Nat → Nat → Nat} {cI cB cJ cZ : ClassId} {A : Nat → Prop} {ad : Nat → Nat} {NN : Nat} {E : Heap} {tM tC : Nat} {kK kV : Nat → Nat} {post : St → Prop} (hx : p.tables.exec = Jvm.exec) (hb : c.code = b_Opn_readLevels) (hml : c.maxLocals = 7) (hown : s.vm.findClass R_Opn = some m.cls) (hT : ∀ w ∈ TG, w.before args s = true) (hK : va_K (dC, dI) CL (TY cI cB cJ cZ) s) (hN : NW s) (hA : ∀ q : Nat, s.heap.size ≤ q → A q) (hRc : cells ≤ R.cells) (hRs : slots ≤ R.slots) (hRf : 4 ≤ R.frames) (hRl : 168 ≤ R.locals) (hNN : 152 ≤ NN) (hE : CE E tM tC kK kV A s) (hret : ∀ (x : St) (H : Heap) (locs : List Loc) (pc : Nat) (ls : Array Slot), decode b_Opn_readLevels pc = .ok (.return_, 1) → post x → Wd dC dI cI cB cJ cZ ad stC kcC NN A x H → va_S A s.heap H locs → W p l e R s m args below meth c H locs cells slots Q (F0 m pc ls []))  : ∀ n : Nat, ∀ (o : Nat) (l1 : Nat) (l2 : Int32) (l3 : Int32) (l4 : Int32) (x : St) (H : Heap) (locs : List Loc) (ls : Array Slot), (o < NN ∧ kcC o = 7) → (l1 < NN ∧ kcC l1 = 21) → wl_Opn_readLevels_56 post n o l1 l2 l3 l4 x → Wd dC dI cI cB cJ cZ ad stC kcC NN A x H → va_S A s.heap H locs → lv_has ls 7 [(0, .ref (ad o)), (1, .ref (ad l1)), (2, .int l2), (3, .int l3), (4, .int l4)] → W p l e R s m args below meth c H locs cells slots Q (F0 m 56 ls []) := by
  intro n
  induction n with
  | zero => intro o l1 l2 l3 l4 x H locs ls fo fl1 hw; exact hw.elim
  | succ n ih => intro o l1 l2 l3 l4 x H locs ls fo fl1 hw hW hS hl; exact t_Opn_readLevels_56 hx hb hml hown hT hK hN hA hRc hRs hRf hRl hNN hE hret  ih o l1 l2 l3 l4 x H locs ls fo fl1 hw hW hS hl
set_option maxRecDepth 100000 in
set_option maxHeartbeats 4000000 in
set_option maxRecDepth 100000 in
theorem t_Opn_readLevels_53 {p : Program} {l : Launch} {e : Env} {R : Room} {s : State} {m : MethodId} {args : Array Value} {below : List Frame} {meth : Method} {c : Code} {cells slots : Nat} {Q : State → Prop} {dC : Nat → ClassId} {dI : Nat → Nat → Nat} {cI cB cJ cZ : ClassId} {A : Nat → Prop} {ad : Nat → Nat} {NN : Nat} {E : Heap} {tM tC : Nat} {kK kV : Nat → Nat} {post : St → Prop} (hx : p.tables.exec = Jvm.exec) (hb : c.code = b_Opn_readLevels) (hml : c.maxLocals = 7) (hown : s.vm.findClass R_Opn = some m.cls) (hT : ∀ w ∈ TG, w.before args s = true) (hK : va_K (dC, dI) CL (TY cI cB cJ cZ) s) (hN : NW s) (hA : ∀ q : Nat, s.heap.size ≤ q → A q) (hRc : cells ≤ R.cells) (hRs : slots ≤ R.slots) (hRf : 4 ≤ R.frames) (hRl : 168 ≤ R.locals) (hNN : 152 ≤ NN) (hE : CE E tM tC kK kV A s) (hret : ∀ (x : St) (H : Heap) (locs : List Loc) (pc : Nat) (ls : Array Slot), decode b_Opn_readLevels pc = .ok (.return_, 1) → post x → Wd dC dI cI cB cJ cZ ad stC kcC NN A x H → va_S A s.heap H locs → W p l e R s m args below meth c H locs cells slots Q (F0 m pc ls []))  : ∀ (o : Nat) (l1 : Nat) (l2 : Int32) (l3 : Int32) (x : St) (H : Heap) (locs : List Loc) (ls : Array Slot), (o < NN ∧ kcC o = 7) → (l1 < NN ∧ kcC l1 = 21) → j_Opn_readLevels_53 post o l1 l2 l3 x → Wd dC dI cI cB cJ cZ ad stC kcC NN A x H → va_S A s.heap H locs → lv_has ls 7 [(0, .ref (ad o)), (1, .ref (ad l1)), (2, .int l2), (3, .int l3)] → W p l e R s m args below meth c H locs cells slots Q (F0 m 53 ls []) := by
  intro o l1 l2 l3 x H locs ls fo fl1 hw hW hS hl
  unfold j_Opn_readLevels_53 at hw
  refine lv_iconst (v := 0) hx hb d_Opn_readLevels_53 (by decide) ?_
  refine lv_istore (lv' := [(4, .int 0), (0, .ref (ad o)), (1, .ref (ad l1)), (2, .int l2), (3, .int l3)]) hx hb d_Opn_readLevels_54 hl (by decide) rfl (fun ls hl => ?_)
  obtain ⟨n, hw⟩ := hw
  exact tl_Opn_readLevels_56 hx hb hml hown hT hK hN hA hRc hRs hRf hRl hNN hE hret  n o l1 l2 l3 0 x H locs ls fo fl1 hw hW hS (lv_sub hl [1, 2, 3, 4, 0] rfl)
set_option maxRecDepth 100000 in
set_option maxHeartbeats 4000000 in
set_option maxRecDepth 100000 in
theorem t_Opn_readLevels_e {p : Program} {l : Launch} {e : Env} {R : Room} {s : State} {m : MethodId} {args : Array Value} {below : List Frame} {meth : Method} {c : Code} {cells slots : Nat} {Q : State → Prop} {dC : Nat → ClassId} {dI : Nat → Nat → Nat} {cI cB cJ cZ : ClassId} {A : Nat → Prop} {ad : Nat → Nat} {NN : Nat} {E : Heap} {tM tC : Nat} {kK kV : Nat → Nat} {post : St → Prop} (hx : p.tables.exec = Jvm.exec) (hb : c.code = b_Opn_readLevels) (hml : c.maxLocals = 7) (hown : s.vm.findClass R_Opn = some m.cls) (hT : ∀ w ∈ TG, w.before args s = true) (hK : va_K (dC, dI) CL (TY cI cB cJ cZ) s) (hN : NW s) (hA : ∀ q : Nat, s.heap.size ≤ q → A q) (hRc : cells ≤ R.cells) (hRs : slots ≤ R.slots) (hRf : 4 ≤ R.frames) (hRl : 168 ≤ R.locals) (hNN : 152 ≤ NN) (hE : CE E tM tC kK kV A s) (hret : ∀ (x : St) (H : Heap) (locs : List Loc) (pc : Nat) (ls : Array Slot), decode b_Opn_readLevels pc = .ok (.return_, 1) → post x → Wd dC dI cI cB cJ cZ ad stC kcC NN A x H → va_S A s.heap H locs → W p l e R s m args below meth c H locs cells slots Q (F0 m pc ls [])) : ∀ (o : Nat) (l1 : Nat) (l2 : Int32) (l3 : Int32) (x : St) (H : Heap) (locs : List Loc) (ls : Array Slot), (o < NN ∧ kcC o = 7) → (l1 < NN ∧ kcC l1 = 21) → wp_Opn_readLevels post o l1 l2 l3 x → Wd dC dI cI cB cJ cZ ad stC kcC NN A x H → va_S A s.heap H locs → lv_has ls 7 [(0, .ref (ad o)), (1, .ref (ad l1)), (2, .int l2), (3, .int l3)] → W p l e R s m args below meth c H locs cells slots Q (F0 m 0 ls []) := by
  intro o l1 l2 l3 x H locs ls fo fl1 hw hW hS hl
  unfold wp_Opn_readLevels at hw
  refine lv_iload_n hx hb d_Opn_readLevels_0 rfl (lv_at hl 3 rfl) ?_
  refine lv_if_le (tgt := 53) hx hb d_Opn_readLevels_1 (by decide) (fun c7 => ?_) (fun c7 => ?_)
  · have hw := hw.1 c7
    exact t_Opn_readLevels_53 hx hb hml hown hT hK hN hA hRc hRs hRf hRl hNN hE hret  o l1 l2 l3 x H locs ls fo fl1 hw hW hS (lv_sub hl [0, 1, 2, 3] rfl)
  · have hw := hw.2 c7
    refine lv_aload_n hx hb d_Opn_readLevels_4 rfl (lv_at hl 0 rfl) ?_
    refine w_getf (q := (stC o 2)) (k := 2) (t := 7) (C := R_Opn) (T := F_Opn) (N := 17) hx hb hT hown hK hW fo.1 fo.2 (by decide) in_Opn rfl rfl (by decide) rfl fr_Opn_2 w_3_17 d_Opn_readLevels_5 rfl ?_
    refine lv_aload_n hx hb d_Opn_readLevels_8 rfl (lv_at hl 0 rfl) ?_
    refine w_getf (q := (stC o 2)) (k := 2) (t := 7) (C := R_Opn) (T := F_Opn) (N := 17) hx hb hT hown hK hW fo.1 fo.2 (by decide) in_Opn rfl rfl (by decide) rfl fr_Opn_2 w_3_17 d_Opn_readLevels_9 rfl ?_
    have hF := hW.free hS hA
    refine va_calll (va_runV (C := R_Src) (As := []) (rest := [.ref (ad (stC o 2))]) ⟨hx, hb, hml, hown, hT⟩ (k_Src_readVarint l dC dI cI cB cJ cZ ad NN E tM tC kK kV hNN H.size (stC o 2) x (st_ty hNN fo.1 fo.2 rfl) hw) ⟨callB_of 0 hT (gwt_in w_6_108) rfl rfl rfl (hT _ w_1_11) (hT _ w_6_105) (by decide +kernel) ⟨Nat.le_trans (Nat.le_of_ble_eq_true rfl) hRf, Nat.le_trans (Nat.le_of_ble_eq_true rfl) hRl⟩, hT _ w_6_106, hT _ w_6_107⟩ ⟨PVc.blind, va_recv hK hW.1 (ci := 8) (q0 := (stC o 2)) rfl (pic_obj (st_ty hNN fo.1 fo.2 rfl).1 (st_ty hNN fo.1 fo.2 rfl).2 (by decide)), PVc.at _ hW hK hN hE hS hF⟩ rfl rfl hl.1 rfl (lv_room (Nat.le_of_ble_eq_true rfl)) d_Opn_readLevels_12 ⟨hRc, hRs⟩) hS (fun q _ h => hF q h) hF (fun r9 x8 t H locs ht hvm hw hB hz1 hk1 hS => ?_)
    have hW := Wd.back hB ht hF
    clear hB ht hF hz1 hk1 hvm
    have hF := hW.free hS hA
    refine va_calli (va_runV (C := R_Src) (As := [.long r9]) (rest := []) ⟨hx, hb, hml, hown, hT⟩ (k_Src_narrow l dC dI cI cB cJ cZ ad NN E tM tC kK kV hNN H.size (stC o 2) r9 x8 (st_ty hNN fo.1 fo.2 rfl) hw) ⟨callB_of 1 hT (gwt_in w_6_193) rfl rfl rfl (hT _ w_1_11) (hT _ w_6_190) (by decide +kernel) ⟨Nat.le_trans (Nat.le_of_ble_eq_true rfl) hRf, Nat.le_trans (Nat.le_of_ble_eq_true rfl) hRl⟩, hT _ w_6_191, hT _ w_6_192⟩ ⟨PVc.blind, va_recv hK hW.1 (ci := 8) (q0 := (stC o 2)) rfl (pic_obj (st_ty hNN fo.1 fo.2 rfl).1 (st_ty hNN fo.1 fo.2 rfl).2 (by decide)), PVc.at _ hW hK hN hE hS hF⟩ rfl rfl hl.1 rfl (lv_room (Nat.le_of_ble_eq_true rfl)) d_Opn_readLevels_15 ⟨hRc, hRs⟩) hS (fun q _ h => hF q h) hF (fun r11 x10 t H locs ht hvm hw hB hz1 hk1 hS => ?_)
    have hW := Wd.back hB ht hF
    clear hB ht hF hz1 hk1 hvm
    refine lv_istore (lv' := [(4, .int r11), (0, .ref (ad o)), (1, .ref (ad l1)), (2, .int l2), (3, .int l3)]) hx hb d_Opn_readLevels_18 hl (by decide) rfl (fun ls hl => ?_)
    refine lv_aload_n hx hb d_Opn_readLevels_20 rfl (lv_at hl 1 rfl) ?_
    refine w_getf (q := (stC o 2)) (k := 2) (t := 7) (C := R_Opn) (T := F_Opn) (N := 17) hx hb hT hown hK hW fo.1 fo.2 (by decide) in_Opn rfl rfl (by decide) rfl fr_Opn_2 w_3_17 d_Opn_readLevels_21 rfl ?_
    refine lv_aload_n hx hb d_Opn_readLevels_24 rfl (lv_at hl 1 rfl) ?_
    refine w_getf (q := (stC o 7)) (k := 7) (t := 7) (C := R_Opn) (T := F_Opn) (N := 17) hx hb hT hown hK hW fo.1 fo.2 (by decide) in_Opn rfl rfl (by decide) rfl fr_Opn_7 w_3_23 d_Opn_readLevels_25 rfl ?_
    refine lv_iload_n hx hb d_Opn_readLevels_28 rfl (lv_at hl 3 rfl) ?_
    refine lv_iload_n hx hb d_Opn_readLevels_29 rfl (lv_at hl 4 rfl) ?_
    refine lv_i2l hx hb d_Opn_readLevels_30 rfl ?_
    have hF := hW.free hS hA
    refine va_calli (va_runSN (As := [.long (l3 : Int32).toInt64]) (rest := [.int l2, .ref (ad (stC o 7)), .ref (ad (stC o 2))]) ⟨hx, hb, hml, hown, hT⟩ (k_V_widthOf l dC dI cI cB cJ cZ ad NN E tM tC kK kV hNN H.size (l3 : Int32).toInt64 x10  hw) ⟨va_cnB 1 hT (gwt_in w_5_231) rfl rfl rfl (hN _ wn_6_198 rfl) (hT _ w_1_1) (by decide +kernel) ⟨Nat.le_trans (Nat.le_of_ble_eq_true rfl) hRf, Nat.le_trans (Nat.le_of_ble_eq_true rfl) hRl⟩, hT _ w_5_230, trivial⟩ ⟨PVc.blind, PVc.at _ hW hK hN hE hS hF⟩ rfl rfl hl.1 rfl (lv_room (Nat.le_of_ble_eq_true rfl)) d_Opn_readLevels_31 ⟨hRc, hRs⟩) hS (fun q _ h => hF q h) hF (fun r13 x12 t H locs ht hvm hw hB hz1 hk1 hS => ?_)
    have hW := Wd.back hB ht hF
    clear hB ht hF hz1 hk1 hvm
    have hF := hW.free hS hA
    refine va_callv (va_runV (C := R_Src) (As := [.ref (ad (stC o 7)), .int l2, .int r13]) (rest := []) ⟨hx, hb, hml, hown, hT⟩ (k_Src_readRuns l dC dI cI cB cJ cZ ad NN E tM tC kK kV hNN H.size (stC o 2) (stC o 7) l2 r13 x12 (st_ty hNN fo.1 fo.2 rfl) (st_ty hNN fo.1 fo.2 rfl) hw) ⟨callB_of 3 hT (gwt_in w_6_202) rfl rfl rfl (hT _ w_1_11) (hT _ w_6_199) (by decide +kernel) ⟨Nat.le_trans (Nat.le_of_ble_eq_true rfl) hRf, Nat.le_trans (Nat.le_of_ble_eq_true rfl) hRl⟩, hT _ w_6_200, hT _ w_6_201⟩ ⟨PVc.blind, va_recv hK hW.1 (ci := 8) (q0 := (stC o 2)) rfl (pic_obj (st_ty hNN fo.1 fo.2 rfl).1 (st_ty hNN fo.1 fo.2 rfl).2 (by decide)), PVc.at _ hW hK hN hE hS hF⟩ rfl rfl hl.1 rfl (lv_room (Nat.le_of_ble_eq_true rfl)) d_Opn_readLevels_34 ⟨hRc, hRs⟩) hS (fun q _ h => hF q h) hF (fun  x14 t H locs ht hvm hw hB hz1 hk1 hS => ?_)
    have hW := Wd.back hB ht hF
    clear hB ht hF hz1 hk1 hvm
    refine lv_aload_n hx hb d_Opn_readLevels_37 rfl (lv_at hl 1 rfl) ?_
    refine w_getf (q := (stC o 2)) (k := 2) (t := 7) (C := R_Opn) (T := F_Opn) (N := 17) hx hb hT hown hK hW fo.1 fo.2 (by decide) in_Opn rfl rfl (by decide) rfl fr_Opn_2 w_3_17 d_Opn_readLevels_38 rfl ?_
    have hF := hW.free hS hA
    refine va_callv (va_runV (C := R_Src) (As := []) (rest := []) ⟨hx, hb, hml, hown, hT⟩ (k_Src_checkEnd l dC dI cI cB cJ cZ ad NN E tM tC kK kV hNN H.size (stC o 2) x14 (st_ty hNN fo.1 fo.2 rfl) hw) ⟨callB_of 0 hT (gwt_in w_6_167) rfl rfl rfl (hT _ w_1_11) (hT _ w_6_164) (by decide +kernel) ⟨Nat.le_trans (Nat.le_of_ble_eq_true rfl) hRf, Nat.le_trans (Nat.le_of_ble_eq_true rfl) hRl⟩, hT _ w_6_165, hT _ w_6_166⟩ ⟨PVc.blind, va_recv hK hW.1 (ci := 8) (q0 := (stC o 2)) rfl (pic_obj (st_ty hNN fo.1 fo.2 rfl).1 (st_ty hNN fo.1 fo.2 rfl).2 (by decide)), PVc.at _ hW hK hN hE hS hF⟩ rfl rfl hl.1 rfl (lv_room (Nat.le_of_ble_eq_true rfl)) d_Opn_readLevels_41 ⟨hRc, hRs⟩) hS (fun q _ h => hF q h) hF (fun  x15 t H locs ht hvm hw hB hz1 hk1 hS => ?_)
    have hW := Wd.back hB ht hF
    clear hB ht hF hz1 hk1 hvm
    refine lv_aload_n hx hb d_Opn_readLevels_44 rfl (lv_at hl 1 rfl) ?_
    refine w_getf (q := (stC o 2)) (k := 2) (t := 7) (C := R_Opn) (T := F_Opn) (N := 17) hx hb hT hown hK hW fo.1 fo.2 (by decide) in_Opn rfl rfl (by decide) rfl fr_Opn_2 w_3_17 d_Opn_readLevels_45 rfl ?_
    refine lv_iload hx hb d_Opn_readLevels_48 (lv_at hl 0 rfl) ?_
    refine w_puti (ty := .int) (k := 2) (t := 8) (C := R_Src) (T := F_Src) (N := 5) hx hb hT hown hK hW hS (st_ty hNN fo.1 fo.2 rfl).1 (st_ty hNN fo.1 fo.2 rfl).2 (by decide) in_Src t_Src t_Src_ok n_Src rfl rfl (by decide) rfl fr_Src_2 w_3_0 (by decide +kernel) rfl rfl d_Opn_readLevels_50 (fun H locs hW hS => ?_)
    obtain ⟨x16, ex16⟩ : ∃ y : St, y = setI x15 (stC o 2) 2 r11 := ⟨_, rfl⟩
    rw [← ex16] at hW
    have hw := hw x16 ex16
    exact t_Opn_readLevels_53 hx hb hml hown hT hK hN hA hRc hRs hRf hRl hNN hE hret  o l1 l2 l3 x16 H locs ls fo fl1 hw hW hS (lv_sub hl [1, 2, 3, 4] rfl)
set_option maxHeartbeats 4000000 in
set_option maxRecDepth 100000 in
theorem k_Opn_readLevels (l : Launch) (dC : Nat → ClassId) (dI : Nat → Nat → Nat) (cI cB cJ cZ : ClassId) (ad : Nat → Nat) (NN : Nat) (E : Heap) (tM tC : Nat) (kK kV : Nat → Nat) (hNN : 152 ≤ NN) (sz : Nat) (o : Nat) (l1 : Nat) (l2 : Int32) (l3 : Int32) (x : St) (fo : o < NN ∧ kcC o = 7) (fl1 : l1 < NN ∧ kcC l1 = 21) {post : St → Prop} (hw : wp_Opn_readLevels post o l1 l2 l3 x) : Met l y_Opn_readLevels (wsOf y_Opn_readLevels b_Opn_readLevels 7 (none)) ({ frames := 4, cells := 0, slots := 0, locals := 168 }) (va_Pc [.ref (ad o), .ref (ad l1), .int l2, .int l3] (PVc dC dI cI cB cJ cZ ad stC kcC NN E tM tC kK kV sz x)) (va_Qv (fun (y : St) => post y) (fun y t => Wd dC dI cI cB cJ cZ ad stC kcC NN (va_A (pic ad stC kcC NN cI cB cJ cZ x) sz) y t.heap) (va_A (pic ad stC kcC NN cI cB cJ cZ x) sz)) 0 0 (va_A (pic ad stC kcC NN cI cB cJ cZ x) sz) := by
  refine Met.ofW (cc := b_Opn_readLevels) (maxL := 7) (ret := none) (by decide) rfl ?_
  intro p e s m args below meth c s₁ B hml hv
  obtain ⟨rfl, ⟨hsz, hW0, hK, hN⟩, hE⟩ := hv
  have hx := B.exec
  have hb := B.bytes
  have hr := B.returns
  have hts := atoms_spec B.pre
  have hT : ∀ w ∈ TG, w.before _ s = true := fun w h => hts w (List.mem_cons_of_mem _ h)
  have hown : s.vm.findClass R_Opn = some m.cls := findClass_of_methodNamed B.named
  have hlocks := B.notSynchronized
  subst hsz
  have hW : Wd dC dI cI cB cJ cZ ad stC kcC NN (va_A (pic ad stC kcC NN cI cB cJ cZ x) s.heap.size) x s.heap := ⟨hW0.1, hW0.2.1.self (sz := s.heap.size), hW0.2.2⟩
  generalize hAe : va_A (pic ad stC kcC NN cI cB cJ cZ x) s.heap.size = A at hW hE ⊢
  have hA : ∀ q : Nat, s.heap.size ≤ q → A q := fun q h => by rw [← hAe]; exact Or.inr h
  have hS : va_S A s.heap s.heap [] := va_S.rf
  have hl := lv_entry ([.ref (ad o), .ref (ad l1), .int l2, .int l3]) (n := 7) (Nat.le_of_ble_eq_true rfl)
  rw [lg_entry_eq]
  generalize (lg_sl ([.ref (ad o), .ref (ad l1), .int l2, .int l3]) ++ List.replicate (7 - (lg_sl ([.ref (ad o), .ref (ad l1), .int l2, .int l3])).length) Slot.unset).toArray = ls at hl ⊢
  have hl : lv_has ls 7 [(0, .ref (ad o)), (1, .ref (ad l1)), (2, .int l2), (3, .int l3)] := hl
  exact t_Opn_readLevels_e hx hb hml hown hT hK hN hA (Nat.le_refl 0) (Nat.le_refl 0) (Nat.le_refl 4) (Nat.le_refl 168) hNN hE (fun x H locs pc ls hd hp hW hS => W.vret hx hb hr (fun t ht hM => ⟨⟨x, rfl, hp, Wd.back hW ht.symm (fun _ z => z)⟩, hS.F ht⟩) hS.2.2 hd hlocks)  o l1 l2 l3 x _ _ ls fo fl1 hw hW hS hl
end
