theorem fr_Opn_14 : F_Opn 14 = (R_Opn, "poolEnd", "I", false) := rfl
theorem w_3_30 : (Jvm.Cond.fieldLink "StripedVault$Opener" (204 : Nat) "StripedVault$Opener" "poolEnd" "I") ∈ TG := tw_3 30 (by decide +kernel) (by decide +kernel)
theorem w_5_182 : (Jvm.Cond.static ({ cls := "StripedVault", name := "placeOf", desc := "(J)I" } : Jvm.MethodName)) ∈ TG := tw_5 182 (by decide +kernel) (by decide +kernel)
theorem w_5_183 : (Jvm.Cond.code ({ cls := "StripedVault", name := "placeOf", desc := "(J)I" } : Jvm.MethodName) prog_1_method_32_code (2 : Nat) (Option.some Jvm.ClassFile.FieldType.int)) ∈ TG := tw_5 183 (by decide +kernel) (by decide +kernel)
theorem w_6_224 : (Jvm.Cond.methodLink "StripedVault$Opener" (304 : Nat) ({ cls := "StripedVault$Opener", name := "readBools", desc := "(I)V" } : Jvm.MethodName)) ∈ TG := tw_6 224 (by decide +kernel) (by decide +kernel)
theorem w_6_226 : (Jvm.Cond.instanceMethod ({ cls := "StripedVault$Opener", name := "readBools", desc := "(I)V" } : Jvm.MethodName)) ∈ TG := tw_6 226 (by decide +kernel) (by decide +kernel)
theorem w_6_227 : (Jvm.Cond.code ({ cls := "StripedVault$Opener", name := "readBools", desc := "(I)V" } : Jvm.MethodName) prog_4_method_18_code (4 : Nat) (Option.none : Option Jvm.ClassFile.FieldType)) ∈ TG := tw_6 227 (by decide +kernel) (by decide +kernel)
theorem w_6_228 : (Jvm.Cond.methodLink "StripedVault$Opener" (307 : Nat) ({ cls := "StripedVault$Opener", name := "readDictionary", desc := "(II)V" } : Jvm.MethodName)) ∈ TG := tw_6 228 (by decide +kernel) (by decide +kernel)
theorem w_6_230 : (Jvm.Cond.instanceMethod ({ cls := "StripedVault$Opener", name := "readDictionary", desc := "(II)V" } : Jvm.MethodName)) ∈ TG := tw_6 230 (by decide +kernel) (by decide +kernel)
theorem w_6_231 : (Jvm.Cond.code ({ cls := "StripedVault$Opener", name := "readDictionary", desc := "(II)V" } : Jvm.MethodName) prog_4_method_23_code (8 : Nat) (Option.none : Option Jvm.ClassFile.FieldType)) ∈ TG := tw_6 231 (by decide +kernel) (by decide +kernel)
theorem w_6_238 : (Jvm.Cond.methodLink "StripedVault$Opener" (314 : Nat) ({ cls := "StripedVault$Opener", name := "countTexts", desc := "(I)V" } : Jvm.MethodName)) ∈ TG := tw_6 238 (by decide +kernel) (by decide +kernel)
theorem w_7_0 : (Jvm.Cond.instanceMethod ({ cls := "StripedVault$Opener", name := "countTexts", desc := "(I)V" } : Jvm.MethodName)) ∈ TG := tw_7 0 (by decide +kernel) (by decide +kernel)
theorem w_7_1 : (Jvm.Cond.code ({ cls := "StripedVault$Opener", name := "countTexts", desc := "(I)V" } : Jvm.MethodName) prog_4_method_20_code (3 : Nat) (Option.none : Option Jvm.ClassFile.FieldType)) ∈ TG := tw_7 1 (by decide +kernel) (by decide +kernel)
theorem w_7_14 : (Jvm.Cond.methodLink "StripedVault$Opener" (321 : Nat) ({ cls := "StripedVault$Opener", name := "readTexts", desc := "()V" } : Jvm.MethodName)) ∈ TG := tw_7 14 (by decide +kernel) (by decide +kernel)
theorem w_7_16 : (Jvm.Cond.instanceMethod ({ cls := "StripedVault$Opener", name := "readTexts", desc := "()V" } : Jvm.MethodName)) ∈ TG := tw_7 16 (by decide +kernel) (by decide +kernel)
theorem w_7_17 : (Jvm.Cond.code ({ cls := "StripedVault$Opener", name := "readTexts", desc := "()V" } : Jvm.MethodName) prog_4_method_21_code (2 : Nat) (Option.none : Option Jvm.ClassFile.FieldType)) ∈ TG := tw_7 17 (by decide +kernel) (by decide +kernel)
theorem w_7_18 : (Jvm.Cond.constantLong "StripedVault$Opener" (334 : Nat) (255 : Int64)) ∈ TG := tw_7 18 (by decide +kernel) (by decide +kernel)
theorem w_7_19 : (Jvm.Cond.methodLink "StripedVault$Opener" (324 : Nat) ({ cls := "StripedVault$Opener", name := "readTextsInParts", desc := "()V" } : Jvm.MethodName)) ∈ TG := tw_7 19 (by decide +kernel) (by decide +kernel)
theorem w_7_2 : (Jvm.Cond.methodLink "StripedVault$Opener" (317 : Nat) ({ cls := "StripedVault$Source", name := "readCode", desc := "([JIZ)V" } : Jvm.MethodName)) ∈ TG := tw_7 2 (by decide +kernel) (by decide +kernel)
theorem w_7_21 : (Jvm.Cond.instanceMethod ({ cls := "StripedVault$Opener", name := "readTextsInParts", desc := "()V" } : Jvm.MethodName)) ∈ TG := tw_7 21 (by decide +kernel) (by decide +kernel)
theorem w_7_22 : (Jvm.Cond.code ({ cls := "StripedVault$Opener", name := "readTextsInParts", desc := "()V" } : Jvm.MethodName) prog_4_method_22_code (11 : Nat) (Option.none : Option Jvm.ClassFile.FieldType)) ∈ TG := tw_7 22 (by decide +kernel) (by decide +kernel)
theorem w_7_3 : (Jvm.Cond.instanceMethod ({ cls := "StripedVault$Source", name := "readCode", desc := "([JIZ)V" } : Jvm.MethodName)) ∈ TG := tw_7 3 (by decide +kernel) (by decide +kernel)
theorem w_7_4 : (Jvm.Cond.selects "StripedVault$Source" ({ cls := "StripedVault$Source", name := "readCode", desc := "([JIZ)V" } : Jvm.MethodName) ({ cls := "StripedVault$Source", name := "readCode", desc := "([JIZ)V" } : Jvm.MethodName)) ∈ TG := tw_7 4 (by decide +kernel) (by decide +kernel)
theorem w_7_5 : (Jvm.Cond.code ({ cls := "StripedVault$Source", name := "readCode", desc := "([JIZ)V" } : Jvm.MethodName) prog_10_method_16_code (8 : Nat) (Option.none : Option Jvm.ClassFile.FieldType)) ∈ TG := tw_7 5 (by decide +kernel) (by decide +kernel)
theorem wn_7_23 : (Jvm.Cond.methodLinkNest "StripedVault$Opener" (336 : Nat) ({ cls := "StripedVault", name := "placeOf", desc := "(J)I" } : Jvm.MethodName) "StripedVault") ∈ lw_tbl := tb_7 _ (List.mem_of_getElem? (i := 23) (by decide +kernel))
theorem wn_7_24 : (Jvm.Cond.methodLinkNest "StripedVault$Opener" (339 : Nat) ({ cls := "StripedVault", name := "reference", desc := "(II)J" } : Jvm.MethodName) "StripedVault") ∈ lw_tbl := tb_7 _ (List.mem_of_getElem? (i := 24) (by decide +kernel))
theorem ws_48 : Cond.selects R_Opn y_Opn_readBools y_Opn_readBools ∈ TG := tw_s 48 (by decide +kernel) (by decide +kernel)
theorem ws_49 : Cond.selects R_Opn y_Opn_readDictionary y_Opn_readDictionary ∈ TG := tw_s 49 (by decide +kernel) (by decide +kernel)
theorem ws_51 : Cond.selects R_Opn y_Opn_countTexts y_Opn_countTexts ∈ TG := tw_s 51 (by decide +kernel) (by decide +kernel)
theorem ws_53 : Cond.selects R_Opn y_Opn_readTexts y_Opn_readTexts ∈ TG := tw_s 53 (by decide +kernel) (by decide +kernel)
theorem ws_54 : Cond.selects R_Opn y_Opn_readTextsInParts y_Opn_readTextsInParts ∈ TG := tw_s 54 (by decide +kernel) (by decide +kernel)
theorem d_Opn_readTexts_129 : decode b_Opn_readTexts 129 = .ok (.bipush 7, 2) := by decide +kernel
theorem d_Opn_readTexts_131 : decode b_Opn_readTexts 131 = .ok (.invokevirtual 95, 3) := by decide +kernel
theorem d_Opn_readTexts_134 : decode b_Opn_readTexts 134 = .ok (.iinc 1 1, 3) := by decide +kernel
theorem d_Opn_readTexts_137 : decode b_Opn_readTexts 137 = .ok (.goto (-82), 3) := by decide +kernel
theorem d_Opn_readTexts_55 : decode b_Opn_readTexts 55 = .ok (.iload_n 1, 1) := by decide +kernel
theorem d_Opn_readTexts_56 : decode b_Opn_readTexts 56 = .ok (.aload_n 0, 1) := by decide +kernel
theorem d_Opn_readTexts_57 : decode b_Opn_readTexts 57 = .ok (.getfield 266, 3) := by decide +kernel
theorem d_Opn_readTexts_60 : decode b_Opn_readTexts 60 = .ok (.if_icmp .ge 80, 3) := by decide +kernel
theorem d_Opn_readTexts_140 : decode b_Opn_readTexts 140 = .ok (.return_, 1) := by decide +kernel
theorem d_Opn_readTexts_63 : decode b_Opn_readTexts 63 = .ok (.aload_n 0, 1) := by decide +kernel
theorem d_Opn_readTexts_64 : decode b_Opn_readTexts 64 = .ok (.getfield 44, 3) := by decide +kernel
theorem d_Opn_readTexts_67 : decode b_Opn_readTexts 67 = .ok (.getfield 107, 3) := by decide +kernel
theorem d_Opn_readTexts_70 : decode b_Opn_readTexts 70 = .ok (.ifCond .ne 70, 3) := by decide +kernel
theorem d_Opn_readTexts_73 : decode b_Opn_readTexts 73 = .ok (.aload_n 0, 1) := by decide +kernel
theorem d_Opn_readTexts_74 : decode b_Opn_readTexts 74 = .ok (.getfield 22, 3) := by decide +kernel
theorem d_Opn_readTexts_77 : decode b_Opn_readTexts 77 = .ok (.iload_n 1, 1) := by decide +kernel
theorem d_Opn_readTexts_78 : decode b_Opn_readTexts 78 = .ok (.aload_n 0, 1) := by decide +kernel
theorem d_Opn_readTexts_79 : decode b_Opn_readTexts 79 = .ok (.getfield 44, 3) := by decide +kernel
theorem d_Opn_readTexts_82 : decode b_Opn_readTexts 82 = .ok (.aload_n 0, 1) := by decide +kernel
theorem d_Opn_readTexts_83 : decode b_Opn_readTexts 83 = .ok (.getfield 22, 3) := by decide +kernel
theorem d_Opn_readTexts_86 : decode b_Opn_readTexts 86 = .ok (.iload_n 1, 1) := by decide +kernel
theorem d_Opn_readTexts_87 : decode b_Opn_readTexts 87 = .ok (.laload, 1) := by decide +kernel
theorem d_Opn_readTexts_88 : decode b_Opn_readTexts 88 = .ok (.invokevirtual 327, 3) := by decide +kernel
theorem d_Opn_readTexts_91 : decode b_Opn_readTexts 91 = .ok (.lastore, 1) := by decide +kernel
theorem d_Opn_readTexts_92 : decode b_Opn_readTexts 92 = .ok (.aload_n 0, 1) := by decide +kernel
theorem d_Opn_readTexts_93 : decode b_Opn_readTexts 93 = .ok (.dup, 1) := by decide +kernel
theorem d_Opn_readTexts_94 : decode b_Opn_readTexts 94 = .ok (.getfield 269, 3) := by decide +kernel
theorem d_Opn_readTexts_97 : decode b_Opn_readTexts 97 = .ok (.aload_n 0, 1) := by decide +kernel
theorem d_Opn_readTexts_98 : decode b_Opn_readTexts 98 = .ok (.getfield 22, 3) := by decide +kernel
theorem d_Opn_readTexts_101 : decode b_Opn_readTexts 101 = .ok (.iload_n 1, 1) := by decide +kernel
theorem d_Opn_readTexts_102 : decode b_Opn_readTexts 102 = .ok (.laload, 1) := by decide +kernel
theorem d_Opn_readTexts_103 : decode b_Opn_readTexts 103 = .ok (.invokestatic 331, 3) := by decide +kernel
theorem d_Opn_readTexts_106 : decode b_Opn_readTexts 106 = .ok (.iadd, 1) := by decide +kernel
theorem d_Opn_readTexts_107 : decode b_Opn_readTexts 107 = .ok (.putfield 269, 3) := by decide +kernel
theorem d_Opn_readTexts_110 : decode b_Opn_readTexts 110 = .ok (.aload_n 0, 1) := by decide +kernel
theorem d_Opn_readTexts_111 : decode b_Opn_readTexts 111 = .ok (.getfield 44, 3) := by decide +kernel
theorem d_Opn_readTexts_114 : decode b_Opn_readTexts 114 = .ok (.aload_n 0, 1) := by decide +kernel
theorem d_Opn_readTexts_115 : decode b_Opn_readTexts 115 = .ok (.getfield 269, 3) := by decide +kernel
theorem d_Opn_readTexts_118 : decode b_Opn_readTexts 118 = .ok (.sipush 20000, 3) := by decide +kernel
theorem d_Opn_readTexts_121 : decode b_Opn_readTexts 121 = .ok (.if_icmp .gt 7, 3) := by decide +kernel
theorem d_Opn_readTexts_128 : decode b_Opn_readTexts 128 = .ok (.iconst 0, 1) := by decide +kernel
theorem d_Opn_readTexts_124 : decode b_Opn_readTexts 124 = .ok (.iconst 1, 1) := by decide +kernel
theorem d_Opn_readTexts_125 : decode b_Opn_readTexts 125 = .ok (.goto 4, 3) := by decide +kernel
theorem d_Opn_readTexts_18 : decode b_Opn_readTexts 18 = .ok (.iload_n 1, 1) := by decide +kernel
theorem d_Opn_readTexts_19 : decode b_Opn_readTexts 19 = .ok (.aload_n 0, 1) := by decide +kernel
theorem d_Opn_readTexts_20 : decode b_Opn_readTexts 20 = .ok (.getfield 266, 3) := by decide +kernel
theorem d_Opn_readTexts_23 : decode b_Opn_readTexts 23 = .ok (.if_icmp .ge 30, 3) := by decide +kernel
theorem d_Opn_readTexts_53 : decode b_Opn_readTexts 53 = .ok (.iconst 0, 1) := by decide +kernel
theorem d_Opn_readTexts_54 : decode b_Opn_readTexts 54 = .ok (.istore_n 1, 1) := by decide +kernel
theorem d_Opn_readTexts_26 : decode b_Opn_readTexts 26 = .ok (.aload_n 0, 1) := by decide +kernel
theorem d_Opn_readTexts_27 : decode b_Opn_readTexts 27 = .ok (.getfield 44, 3) := by decide +kernel
theorem d_Opn_readTexts_30 : decode b_Opn_readTexts 30 = .ok (.aload_n 0, 1) := by decide +kernel
theorem d_Opn_readTexts_31 : decode b_Opn_readTexts 31 = .ok (.getfield 22, 3) := by decide +kernel
theorem d_Opn_readTexts_34 : decode b_Opn_readTexts 34 = .ok (.iload_n 1, 1) := by decide +kernel
theorem d_Opn_readTexts_35 : decode b_Opn_readTexts 35 = .ok (.laload, 1) := by decide +kernel
theorem d_Opn_readTexts_36 : decode b_Opn_readTexts 36 = .ok (.ldc2_w 334, 3) := by decide +kernel
theorem d_Opn_readTexts_39 : decode b_Opn_readTexts 39 = .ok (.invokestatic 91, 3) := by decide +kernel
theorem d_Opn_readTexts_42 : decode b_Opn_readTexts 42 = .ok (.bipush 7, 2) := by decide +kernel
theorem d_Opn_readTexts_44 : decode b_Opn_readTexts 44 = .ok (.invokevirtual 95, 3) := by decide +kernel
theorem d_Opn_readTexts_47 : decode b_Opn_readTexts 47 = .ok (.iinc 1 1, 3) := by decide +kernel
theorem d_Opn_readTexts_50 : decode b_Opn_readTexts 50 = .ok (.goto (-32), 3) := by decide +kernel
theorem d_Opn_readTexts_0 : decode b_Opn_readTexts 0 = .ok (.aload_n 0, 1) := by decide +kernel
theorem d_Opn_readTexts_1 : decode b_Opn_readTexts 1 = .ok (.getfield 44, 3) := by decide +kernel
theorem d_Opn_readTexts_4 : decode b_Opn_readTexts 4 = .ok (.aload_n 0, 1) := by decide +kernel
theorem d_Opn_readTexts_5 : decode b_Opn_readTexts 5 = .ok (.getfield 22, 3) := by decide +kernel
theorem d_Opn_readTexts_8 : decode b_Opn_readTexts 8 = .ok (.aload_n 0, 1) := by decide +kernel
theorem d_Opn_readTexts_9 : decode b_Opn_readTexts 9 = .ok (.getfield 266, 3) := by decide +kernel
theorem d_Opn_readTexts_12 : decode b_Opn_readTexts 12 = .ok (.iconst 1, 1) := by decide +kernel
theorem d_Opn_readTexts_13 : decode b_Opn_readTexts 13 = .ok (.invokevirtual 317, 3) := by decide +kernel
theorem d_Opn_readTexts_16 : decode b_Opn_readTexts 16 = .ok (.iconst 0, 1) := by decide +kernel
theorem d_Opn_readTexts_17 : decode b_Opn_readTexts 17 = .ok (.istore_n 1, 1) := by decide +kernel
theorem d_Opn_readTextsInParts_260 : decode b_Opn_readTextsInParts 260 = .ok (.bipush 7, 2) := by decide +kernel
theorem d_Opn_readTextsInParts_262 : decode b_Opn_readTextsInParts 262 = .ok (.invokevirtual 95, 3) := by decide +kernel
theorem d_Opn_readTextsInParts_265 : decode b_Opn_readTextsInParts 265 = .ok (.iinc 3 1, 3) := by decide +kernel
theorem d_Opn_readTextsInParts_268 : decode b_Opn_readTextsInParts 268 = .ok (.goto (-232), 3) := by decide +kernel
theorem d_Opn_readTextsInParts_106 : decode b_Opn_readTextsInParts 106 = .ok (.bipush 7, 2) := by decide +kernel
theorem d_Opn_readTextsInParts_108 : decode b_Opn_readTextsInParts 108 = .ok (.invokevirtual 95, 3) := by decide +kernel
theorem d_Opn_readTextsInParts_111 : decode b_Opn_readTextsInParts 111 = .ok (.aload_n 0, 1) := by decide +kernel
theorem d_Opn_readTextsInParts_112 : decode b_Opn_readTextsInParts 112 = .ok (.getfield 44, 3) := by decide +kernel
theorem d_Opn_readTextsInParts_115 : decode b_Opn_readTextsInParts 115 = .ok (.lload 6, 2) := by decide +kernel
theorem d_Opn_readTextsInParts_117 : decode b_Opn_readTextsInParts 117 = .ok (.invokevirtual 327, 3) := by decide +kernel
theorem d_Opn_readTextsInParts_120 : decode b_Opn_readTextsInParts 120 = .ok (.lstore 8, 2) := by decide +kernel
theorem d_Opn_readTextsInParts_122 : decode b_Opn_readTextsInParts 122 = .ok (.aload_n 0, 1) := by decide +kernel
theorem d_Opn_readTextsInParts_123 : decode b_Opn_readTextsInParts 123 = .ok (.getfield 44, 3) := by decide +kernel
theorem d_Opn_readTextsInParts_126 : decode b_Opn_readTextsInParts 126 = .ok (.getfield 107, 3) := by decide +kernel
theorem d_Opn_readTextsInParts_129 : decode b_Opn_readTextsInParts 129 = .ok (.ifCond .eq 4, 3) := by decide +kernel
theorem d_Opn_readTextsInParts_133 : decode b_Opn_readTextsInParts 133 = .ok (.lload 4, 2) := by decide +kernel
theorem d_Opn_readTextsInParts_135 : decode b_Opn_readTextsInParts 135 = .ok (.lload 6, 2) := by decide +kernel
theorem d_Opn_readTextsInParts_137 : decode b_Opn_readTextsInParts 137 = .ok (.ladd, 1) := by decide +kernel
theorem d_Opn_readTextsInParts_138 : decode b_Opn_readTextsInParts 138 = .ok (.l2i, 1) := by decide +kernel
theorem d_Opn_readTextsInParts_139 : decode b_Opn_readTextsInParts 139 = .ok (.istore 10, 2) := by decide +kernel
theorem d_Opn_readTextsInParts_141 : decode b_Opn_readTextsInParts 141 = .ok (.aload_n 0, 1) := by decide +kernel
theorem d_Opn_readTextsInParts_142 : decode b_Opn_readTextsInParts 142 = .ok (.getfield 25, 3) := by decide +kernel
theorem d_Opn_readTextsInParts_145 : decode b_Opn_readTextsInParts 145 = .ok (.getfield 31, 3) := by decide +kernel
theorem d_Opn_readTextsInParts_148 : decode b_Opn_readTextsInParts 148 = .ok (.lload_n 1, 1) := by decide +kernel
theorem d_Opn_readTextsInParts_149 : decode b_Opn_readTextsInParts 149 = .ok (.invokestatic 336, 3) := by decide +kernel
theorem d_Opn_readTextsInParts_152 : decode b_Opn_readTextsInParts 152 = .ok (.aload_n 0, 1) := by decide +kernel
theorem d_Opn_readTextsInParts_153 : decode b_Opn_readTextsInParts 153 = .ok (.getfield 25, 3) := by decide +kernel
theorem d_Opn_readTextsInParts_156 : decode b_Opn_readTextsInParts 156 = .ok (.getfield 31, 3) := by decide +kernel
theorem d_Opn_readTextsInParts_159 : decode b_Opn_readTextsInParts 159 = .ok (.aload_n 0, 1) := by decide +kernel
theorem d_Opn_readTextsInParts_160 : decode b_Opn_readTextsInParts 160 = .ok (.getfield 204, 3) := by decide +kernel
theorem d_Opn_readTextsInParts_163 : decode b_Opn_readTextsInParts 163 = .ok (.lload 4, 2) := by decide +kernel
theorem d_Opn_readTextsInParts_165 : decode b_Opn_readTextsInParts 165 = .ok (.l2i, 1) := by decide +kernel
theorem d_Opn_readTextsInParts_166 : decode b_Opn_readTextsInParts 166 = .ok (.invokestatic 56, 3) := by decide +kernel
theorem d_Opn_readTextsInParts_169 : decode b_Opn_readTextsInParts 169 = .ok (.aload_n 0, 1) := by decide +kernel
theorem d_Opn_readTextsInParts_170 : decode b_Opn_readTextsInParts 170 = .ok (.getfield 25, 3) := by decide +kernel
theorem d_Opn_readTextsInParts_173 : decode b_Opn_readTextsInParts 173 = .ok (.getfield 31, 3) := by decide +kernel
theorem d_Opn_readTextsInParts_176 : decode b_Opn_readTextsInParts 176 = .ok (.lload 8, 2) := by decide +kernel
theorem d_Opn_readTextsInParts_178 : decode b_Opn_readTextsInParts 178 = .ok (.invokestatic 336, 3) := by decide +kernel
theorem d_Opn_readTextsInParts_181 : decode b_Opn_readTextsInParts 181 = .ok (.aload_n 0, 1) := by decide +kernel
theorem d_Opn_readTextsInParts_182 : decode b_Opn_readTextsInParts 182 = .ok (.getfield 25, 3) := by decide +kernel
theorem d_Opn_readTextsInParts_185 : decode b_Opn_readTextsInParts 185 = .ok (.getfield 31, 3) := by decide +kernel
theorem d_Opn_readTextsInParts_188 : decode b_Opn_readTextsInParts 188 = .ok (.aload_n 0, 1) := by decide +kernel
theorem d_Opn_readTextsInParts_189 : decode b_Opn_readTextsInParts 189 = .ok (.getfield 204, 3) := by decide +kernel
theorem d_Opn_readTextsInParts_192 : decode b_Opn_readTextsInParts 192 = .ok (.lload 4, 2) := by decide +kernel
theorem d_Opn_readTextsInParts_194 : decode b_Opn_readTextsInParts 194 = .ok (.l2i, 1) := by decide +kernel
theorem d_Opn_readTextsInParts_195 : decode b_Opn_readTextsInParts 195 = .ok (.iadd, 1) := by decide +kernel
theorem d_Opn_readTextsInParts_196 : decode b_Opn_readTextsInParts 196 = .ok (.lload 6, 2) := by decide +kernel
theorem d_Opn_readTextsInParts_198 : decode b_Opn_readTextsInParts 198 = .ok (.l2i, 1) := by decide +kernel
theorem d_Opn_readTextsInParts_199 : decode b_Opn_readTextsInParts 199 = .ok (.invokestatic 56, 3) := by decide +kernel
theorem d_Opn_readTextsInParts_202 : decode b_Opn_readTextsInParts 202 = .ok (.aload_n 0, 1) := by decide +kernel
theorem d_Opn_readTextsInParts_203 : decode b_Opn_readTextsInParts 203 = .ok (.getfield 204, 3) := by decide +kernel
theorem d_Opn_readTextsInParts_206 : decode b_Opn_readTextsInParts 206 = .ok (.iload 10, 2) := by decide +kernel
theorem d_Opn_readTextsInParts_208 : decode b_Opn_readTextsInParts 208 = .ok (.invokestatic 339, 3) := by decide +kernel
theorem d_Opn_readTextsInParts_211 : decode b_Opn_readTextsInParts 211 = .ok (.lstore_n 1, 1) := by decide +kernel
theorem d_Opn_readTextsInParts_212 : decode b_Opn_readTextsInParts 212 = .ok (.aload_n 0, 1) := by decide +kernel
theorem d_Opn_readTextsInParts_213 : decode b_Opn_readTextsInParts 213 = .ok (.getfield 22, 3) := by decide +kernel
theorem d_Opn_readTextsInParts_216 : decode b_Opn_readTextsInParts 216 = .ok (.iload_n 3, 1) := by decide +kernel
theorem d_Opn_readTextsInParts_217 : decode b_Opn_readTextsInParts 217 = .ok (.lload_n 1, 1) := by decide +kernel
theorem d_Opn_readTextsInParts_218 : decode b_Opn_readTextsInParts 218 = .ok (.lastore, 1) := by decide +kernel
theorem d_Opn_readTextsInParts_219 : decode b_Opn_readTextsInParts 219 = .ok (.aload_n 0, 1) := by decide +kernel
theorem d_Opn_readTextsInParts_220 : decode b_Opn_readTextsInParts 220 = .ok (.dup, 1) := by decide +kernel
theorem d_Opn_readTextsInParts_221 : decode b_Opn_readTextsInParts 221 = .ok (.getfield 204, 3) := by decide +kernel
theorem d_Opn_readTextsInParts_224 : decode b_Opn_readTextsInParts 224 = .ok (.iload 10, 2) := by decide +kernel
theorem d_Opn_readTextsInParts_226 : decode b_Opn_readTextsInParts 226 = .ok (.iadd, 1) := by decide +kernel
theorem d_Opn_readTextsInParts_227 : decode b_Opn_readTextsInParts 227 = .ok (.putfield 204, 3) := by decide +kernel
theorem d_Opn_readTextsInParts_230 : decode b_Opn_readTextsInParts 230 = .ok (.aload_n 0, 1) := by decide +kernel
theorem d_Opn_readTextsInParts_231 : decode b_Opn_readTextsInParts 231 = .ok (.dup, 1) := by decide +kernel
theorem d_Opn_readTextsInParts_232 : decode b_Opn_readTextsInParts 232 = .ok (.getfield 269, 3) := by decide +kernel
theorem d_Opn_readTextsInParts_235 : decode b_Opn_readTextsInParts 235 = .ok (.iload 10, 2) := by decide +kernel
theorem d_Opn_readTextsInParts_237 : decode b_Opn_readTextsInParts 237 = .ok (.iadd, 1) := by decide +kernel
theorem d_Opn_readTextsInParts_238 : decode b_Opn_readTextsInParts 238 = .ok (.putfield 269, 3) := by decide +kernel
theorem d_Opn_readTextsInParts_241 : decode b_Opn_readTextsInParts 241 = .ok (.aload_n 0, 1) := by decide +kernel
theorem d_Opn_readTextsInParts_242 : decode b_Opn_readTextsInParts 242 = .ok (.getfield 44, 3) := by decide +kernel
theorem d_Opn_readTextsInParts_245 : decode b_Opn_readTextsInParts 245 = .ok (.aload_n 0, 1) := by decide +kernel
theorem d_Opn_readTextsInParts_246 : decode b_Opn_readTextsInParts 246 = .ok (.getfield 269, 3) := by decide +kernel
theorem d_Opn_readTextsInParts_249 : decode b_Opn_readTextsInParts 249 = .ok (.sipush 20000, 3) := by decide +kernel
theorem d_Opn_readTextsInParts_252 : decode b_Opn_readTextsInParts 252 = .ok (.if_icmp .gt 7, 3) := by decide +kernel
theorem d_Opn_readTextsInParts_259 : decode b_Opn_readTextsInParts 259 = .ok (.iconst 0, 1) := by decide +kernel
theorem d_Opn_readTextsInParts_255 : decode b_Opn_readTextsInParts 255 = .ok (.iconst 1, 1) := by decide +kernel
theorem d_Opn_readTextsInParts_256 : decode b_Opn_readTextsInParts 256 = .ok (.goto 4, 3) := by decide +kernel
theorem d_Opn_readTextsInParts_132 : decode b_Opn_readTextsInParts 132 = .ok (.return_, 1) := by decide +kernel
theorem d_Opn_readTextsInParts_105 : decode b_Opn_readTextsInParts 105 = .ok (.iconst 0, 1) := by decide +kernel
theorem d_Opn_readTextsInParts_36 : decode b_Opn_readTextsInParts 36 = .ok (.iload_n 3, 1) := by decide +kernel
theorem d_Opn_readTextsInParts_37 : decode b_Opn_readTextsInParts 37 = .ok (.aload_n 0, 1) := by decide +kernel
theorem d_Opn_readTextsInParts_38 : decode b_Opn_readTextsInParts 38 = .ok (.getfield 266, 3) := by decide +kernel
theorem d_Opn_readTextsInParts_41 : decode b_Opn_readTextsInParts 41 = .ok (.if_icmp .ge 230, 3) := by decide +kernel
theorem d_Opn_readTextsInParts_271 : decode b_Opn_readTextsInParts 271 = .ok (.return_, 1) := by decide +kernel
theorem d_Opn_readTextsInParts_44 : decode b_Opn_readTextsInParts 44 = .ok (.aload_n 0, 1) := by decide +kernel
theorem d_Opn_readTextsInParts_45 : decode b_Opn_readTextsInParts 45 = .ok (.getfield 44, 3) := by decide +kernel
theorem d_Opn_readTextsInParts_48 : decode b_Opn_readTextsInParts 48 = .ok (.getfield 107, 3) := by decide +kernel
theorem d_Opn_readTextsInParts_51 : decode b_Opn_readTextsInParts 51 = .ok (.ifCond .ne 220, 3) := by decide +kernel
theorem d_Opn_readTextsInParts_54 : decode b_Opn_readTextsInParts 54 = .ok (.aload_n 0, 1) := by decide +kernel
theorem d_Opn_readTextsInParts_55 : decode b_Opn_readTextsInParts 55 = .ok (.getfield 22, 3) := by decide +kernel
theorem d_Opn_readTextsInParts_58 : decode b_Opn_readTextsInParts 58 = .ok (.iload_n 3, 1) := by decide +kernel
theorem d_Opn_readTextsInParts_59 : decode b_Opn_readTextsInParts 59 = .ok (.laload, 1) := by decide +kernel
theorem d_Opn_readTextsInParts_60 : decode b_Opn_readTextsInParts 60 = .ok (.lstore 4, 2) := by decide +kernel
theorem d_Opn_readTextsInParts_62 : decode b_Opn_readTextsInParts 62 = .ok (.aload_n 0, 1) := by decide +kernel
theorem d_Opn_readTextsInParts_63 : decode b_Opn_readTextsInParts 63 = .ok (.getfield 19, 3) := by decide +kernel
theorem d_Opn_readTextsInParts_66 : decode b_Opn_readTextsInParts 66 = .ok (.iload_n 3, 1) := by decide +kernel
theorem d_Opn_readTextsInParts_67 : decode b_Opn_readTextsInParts 67 = .ok (.laload, 1) := by decide +kernel
theorem d_Opn_readTextsInParts_68 : decode b_Opn_readTextsInParts 68 = .ok (.lstore 6, 2) := by decide +kernel
theorem d_Opn_readTextsInParts_70 : decode b_Opn_readTextsInParts 70 = .ok (.aload_n 0, 1) := by decide +kernel
theorem d_Opn_readTextsInParts_71 : decode b_Opn_readTextsInParts 71 = .ok (.getfield 44, 3) := by decide +kernel
theorem d_Opn_readTextsInParts_74 : decode b_Opn_readTextsInParts 74 = .ok (.lload 4, 2) := by decide +kernel
theorem d_Opn_readTextsInParts_76 : decode b_Opn_readTextsInParts 76 = .ok (.lload_n 1, 1) := by decide +kernel
theorem d_Opn_readTextsInParts_77 : decode b_Opn_readTextsInParts 77 = .ok (.invokestatic 331, 3) := by decide +kernel
theorem d_Opn_readTextsInParts_80 : decode b_Opn_readTextsInParts 80 = .ok (.i2l, 1) := by decide +kernel
theorem d_Opn_readTextsInParts_81 : decode b_Opn_readTextsInParts 81 = .ok (.invokestatic 91, 3) := by decide +kernel
theorem d_Opn_readTextsInParts_84 : decode b_Opn_readTextsInParts 84 = .ok (.ifCond .eq 21, 3) := by decide +kernel
theorem d_Opn_readTextsInParts_87 : decode b_Opn_readTextsInParts 87 = .ok (.lload 6, 2) := by decide +kernel
theorem d_Opn_readTextsInParts_89 : decode b_Opn_readTextsInParts 89 = .ok (.ldc2_w 334, 3) := by decide +kernel
theorem d_Opn_readTextsInParts_92 : decode b_Opn_readTextsInParts 92 = .ok (.lload 4, 2) := by decide +kernel
theorem d_Opn_readTextsInParts_94 : decode b_Opn_readTextsInParts 94 = .ok (.lsub, 1) := by decide +kernel
theorem d_Opn_readTextsInParts_95 : decode b_Opn_readTextsInParts 95 = .ok (.invokestatic 91, 3) := by decide +kernel
theorem d_Opn_readTextsInParts_98 : decode b_Opn_readTextsInParts 98 = .ok (.ifCond .eq 7, 3) := by decide +kernel
theorem d_Opn_readTextsInParts_101 : decode b_Opn_readTextsInParts 101 = .ok (.iconst 1, 1) := by decide +kernel
theorem d_Opn_readTextsInParts_102 : decode b_Opn_readTextsInParts 102 = .ok (.goto 4, 3) := by decide +kernel
theorem d_Opn_readTextsInParts_0 : decode b_Opn_readTextsInParts 0 = .ok (.aload_n 0, 1) := by decide +kernel
theorem d_Opn_readTextsInParts_1 : decode b_Opn_readTextsInParts 1 = .ok (.getfield 44, 3) := by decide +kernel
theorem d_Opn_readTextsInParts_4 : decode b_Opn_readTextsInParts 4 = .ok (.aload_n 0, 1) := by decide +kernel
theorem d_Opn_readTextsInParts_5 : decode b_Opn_readTextsInParts 5 = .ok (.getfield 22, 3) := by decide +kernel
theorem d_Opn_readTextsInParts_8 : decode b_Opn_readTextsInParts 8 = .ok (.aload_n 0, 1) := by decide +kernel
theorem d_Opn_readTextsInParts_9 : decode b_Opn_readTextsInParts 9 = .ok (.getfield 266, 3) := by decide +kernel
theorem d_Opn_readTextsInParts_12 : decode b_Opn_readTextsInParts 12 = .ok (.iconst 1, 1) := by decide +kernel
theorem d_Opn_readTextsInParts_13 : decode b_Opn_readTextsInParts 13 = .ok (.invokevirtual 317, 3) := by decide +kernel
theorem d_Opn_readTextsInParts_16 : decode b_Opn_readTextsInParts 16 = .ok (.aload_n 0, 1) := by decide +kernel
theorem d_Opn_readTextsInParts_17 : decode b_Opn_readTextsInParts 17 = .ok (.getfield 44, 3) := by decide +kernel
theorem d_Opn_readTextsInParts_20 : decode b_Opn_readTextsInParts 20 = .ok (.aload_n 0, 1) := by decide +kernel
theorem d_Opn_readTextsInParts_21 : decode b_Opn_readTextsInParts 21 = .ok (.getfield 19, 3) := by decide +kernel
theorem d_Opn_readTextsInParts_24 : decode b_Opn_readTextsInParts 24 = .ok (.aload_n 0, 1) := by decide +kernel
theorem d_Opn_readTextsInParts_25 : decode b_Opn_readTextsInParts 25 = .ok (.getfield 266, 3) := by decide +kernel
theorem d_Opn_readTextsInParts_28 : decode b_Opn_readTextsInParts 28 = .ok (.iconst 1, 1) := by decide +kernel
theorem d_Opn_readTextsInParts_29 : decode b_Opn_readTextsInParts 29 = .ok (.invokevirtual 317, 3) := by decide +kernel
theorem d_Opn_readTextsInParts_32 : decode b_Opn_readTextsInParts 32 = .ok (.lconst 0, 1) := by decide +kernel
theorem d_Opn_readTextsInParts_33 : decode b_Opn_readTextsInParts 33 = .ok (.lstore_n 1, 1) := by decide +kernel
theorem d_Opn_readTextsInParts_34 : decode b_Opn_readTextsInParts 34 = .ok (.iconst 0, 1) := by decide +kernel
theorem d_Opn_readTextsInParts_35 : decode b_Opn_readTextsInParts 35 = .ok (.istore_n 3, 1) := by decide +kernel
theorem d_Opn_readValues_139 : decode b_Opn_readValues 139 = .ok (.goto 19, 3) := by decide +kernel
theorem d_Opn_readValues_158 : decode b_Opn_readValues 158 = .ok (.return_, 1) := by decide +kernel
theorem d_Opn_readValues_128 : decode b_Opn_readValues 128 = .ok (.bipush 7, 2) := by decide +kernel
theorem d_Opn_readValues_130 : decode b_Opn_readValues 130 = .ok (.invokevirtual 95, 3) := by decide +kernel
theorem d_Opn_readValues_133 : decode b_Opn_readValues 133 = .ok (.iinc 4 1, 3) := by decide +kernel
theorem d_Opn_readValues_136 : decode b_Opn_readValues 136 = .ok (.goto (-51), 3) := by decide +kernel
theorem d_Opn_readValues_85 : decode b_Opn_readValues 85 = .ok (.iload 4, 2) := by decide +kernel
theorem d_Opn_readValues_87 : decode b_Opn_readValues 87 = .ok (.aload_n 0, 1) := by decide +kernel
theorem d_Opn_readValues_88 : decode b_Opn_readValues 88 = .ok (.getfield 266, 3) := by decide +kernel
theorem d_Opn_readValues_91 : decode b_Opn_readValues 91 = .ok (.if_icmp .ge 48, 3) := by decide +kernel
theorem d_Opn_readValues_94 : decode b_Opn_readValues 94 = .ok (.iload_n 1, 1) := by decide +kernel
theorem d_Opn_readValues_95 : decode b_Opn_readValues 95 = .ok (.iconst 1, 1) := by decide +kernel
theorem d_Opn_readValues_96 : decode b_Opn_readValues 96 = .ok (.if_icmp .ne 43, 3) := by decide +kernel
theorem d_Opn_readValues_99 : decode b_Opn_readValues 99 = .ok (.aload_n 0, 1) := by decide +kernel
theorem d_Opn_readValues_100 : decode b_Opn_readValues 100 = .ok (.getfield 44, 3) := by decide +kernel
theorem d_Opn_readValues_103 : decode b_Opn_readValues 103 = .ok (.aload_n 0, 1) := by decide +kernel
theorem d_Opn_readValues_104 : decode b_Opn_readValues 104 = .ok (.getfield 22, 3) := by decide +kernel
theorem d_Opn_readValues_107 : decode b_Opn_readValues 107 = .ok (.iload 4, 2) := by decide +kernel
theorem d_Opn_readValues_109 : decode b_Opn_readValues 109 = .ok (.laload, 1) := by decide +kernel
theorem d_Opn_readValues_110 : decode b_Opn_readValues 110 = .ok (.aload_n 0, 1) := by decide +kernel
theorem d_Opn_readValues_111 : decode b_Opn_readValues 111 = .ok (.getfield 22, 3) := by decide +kernel
theorem d_Opn_readValues_114 : decode b_Opn_readValues 114 = .ok (.iload 4, 2) := by decide +kernel
theorem d_Opn_readValues_116 : decode b_Opn_readValues 116 = .ok (.laload, 1) := by decide +kernel
theorem d_Opn_readValues_117 : decode b_Opn_readValues 117 = .ok (.l2i, 1) := by decide +kernel
theorem d_Opn_readValues_118 : decode b_Opn_readValues 118 = .ok (.i2l, 1) := by decide +kernel
theorem d_Opn_readValues_119 : decode b_Opn_readValues 119 = .ok (.lcmp, 1) := by decide +kernel
theorem d_Opn_readValues_120 : decode b_Opn_readValues 120 = .ok (.ifCond .ne 7, 3) := by decide +kernel
theorem d_Opn_readValues_127 : decode b_Opn_readValues 127 = .ok (.iconst 0, 1) := by decide +kernel
theorem d_Opn_readValues_123 : decode b_Opn_readValues 123 = .ok (.iconst 1, 1) := by decide +kernel
theorem d_Opn_readValues_124 : decode b_Opn_readValues 124 = .ok (.goto 4, 3) := by decide +kernel
theorem d_Opn_readValues_23 : decode b_Opn_readValues 23 = .ok (.if_icmp .ne 12, 3) := by decide +kernel
theorem d_Opn_readValues_35 : decode b_Opn_readValues 35 = .ok (.iload_n 2, 1) := by decide +kernel
theorem d_Opn_readValues_36 : decode b_Opn_readValues 36 = .ok (.ifCond .ne 25, 3) := by decide +kernel
theorem d_Opn_readValues_61 : decode b_Opn_readValues 61 = .ok (.iload_n 1, 1) := by decide +kernel
theorem d_Opn_readValues_62 : decode b_Opn_readValues 62 = .ok (.iconst 3, 1) := by decide +kernel
theorem d_Opn_readValues_63 : decode b_Opn_readValues 63 = .ok (.if_icmp .eq 79, 3) := by decide +kernel
theorem d_Opn_readValues_142 : decode b_Opn_readValues 142 = .ok (.iload_n 2, 1) := by decide +kernel
theorem d_Opn_readValues_143 : decode b_Opn_readValues 143 = .ok (.iconst 1, 1) := by decide +kernel
theorem d_Opn_readValues_144 : decode b_Opn_readValues 144 = .ok (.if_icmp .ne 10, 3) := by decide +kernel
theorem d_Opn_readValues_154 : decode b_Opn_readValues 154 = .ok (.aload_n 0, 1) := by decide +kernel
theorem d_Opn_readValues_155 : decode b_Opn_readValues 155 = .ok (.invokevirtual 324, 3) := by decide +kernel
theorem d_Opn_readValues_147 : decode b_Opn_readValues 147 = .ok (.aload_n 0, 1) := by decide +kernel
theorem d_Opn_readValues_148 : decode b_Opn_readValues 148 = .ok (.invokevirtual 321, 3) := by decide +kernel
theorem d_Opn_readValues_151 : decode b_Opn_readValues 151 = .ok (.goto 7, 3) := by decide +kernel
theorem d_Opn_readValues_66 : decode b_Opn_readValues 66 = .ok (.aload_n 0, 1) := by decide +kernel
theorem d_Opn_readValues_67 : decode b_Opn_readValues 67 = .ok (.getfield 44, 3) := by decide +kernel
theorem d_Opn_readValues_70 : decode b_Opn_readValues 70 = .ok (.aload_n 0, 1) := by decide +kernel
theorem d_Opn_readValues_71 : decode b_Opn_readValues 71 = .ok (.getfield 22, 3) := by decide +kernel
theorem d_Opn_readValues_74 : decode b_Opn_readValues 74 = .ok (.aload_n 0, 1) := by decide +kernel
theorem d_Opn_readValues_75 : decode b_Opn_readValues 75 = .ok (.getfield 266, 3) := by decide +kernel
theorem d_Opn_readValues_78 : decode b_Opn_readValues 78 = .ok (.iconst 0, 1) := by decide +kernel
theorem d_Opn_readValues_79 : decode b_Opn_readValues 79 = .ok (.invokevirtual 317, 3) := by decide +kernel
theorem d_Opn_readValues_82 : decode b_Opn_readValues 82 = .ok (.iconst 0, 1) := by decide +kernel
theorem d_Opn_readValues_83 : decode b_Opn_readValues 83 = .ok (.istore 4, 2) := by decide +kernel
theorem d_Opn_readValues_39 : decode b_Opn_readValues 39 = .ok (.aload_n 0, 1) := by decide +kernel
theorem d_Opn_readValues_40 : decode b_Opn_readValues 40 = .ok (.iload_n 1, 1) := by decide +kernel
theorem d_Opn_readValues_41 : decode b_Opn_readValues 41 = .ok (.aload_n 0, 1) := by decide +kernel
theorem d_Opn_readValues_42 : decode b_Opn_readValues 42 = .ok (.getfield 22, 3) := by decide +kernel
theorem d_Opn_readValues_45 : decode b_Opn_readValues 45 = .ok (.iconst 0, 1) := by decide +kernel
theorem d_Opn_readValues_46 : decode b_Opn_readValues 46 = .ok (.aload_n 0, 1) := by decide +kernel
theorem d_Opn_readValues_47 : decode b_Opn_readValues 47 = .ok (.getfield 266, 3) := by decide +kernel
theorem d_Opn_readValues_50 : decode b_Opn_readValues 50 = .ok (.invokevirtual 310, 3) := by decide +kernel
theorem d_Opn_readValues_53 : decode b_Opn_readValues 53 = .ok (.aload_n 0, 1) := by decide +kernel
theorem d_Opn_readValues_54 : decode b_Opn_readValues 54 = .ok (.iload_n 1, 1) := by decide +kernel
theorem d_Opn_readValues_55 : decode b_Opn_readValues 55 = .ok (.invokevirtual 314, 3) := by decide +kernel
theorem d_Opn_readValues_58 : decode b_Opn_readValues 58 = .ok (.goto 100, 3) := by decide +kernel
theorem d_Opn_readValues_26 : decode b_Opn_readValues 26 = .ok (.aload_n 0, 1) := by decide +kernel
theorem d_Opn_readValues_27 : decode b_Opn_readValues 27 = .ok (.iload_n 1, 1) := by decide +kernel
theorem d_Opn_readValues_28 : decode b_Opn_readValues 28 = .ok (.iload_n 3, 1) := by decide +kernel
theorem d_Opn_readValues_29 : decode b_Opn_readValues 29 = .ok (.invokevirtual 307, 3) := by decide +kernel
theorem d_Opn_readValues_32 : decode b_Opn_readValues 32 = .ok (.goto 126, 3) := by decide +kernel
theorem d_Opn_readValues_0 : decode b_Opn_readValues 0 = .ok (.iload_n 1, 1) := by decide +kernel
theorem d_Opn_readValues_1 : decode b_Opn_readValues 1 = .ok (.ifCond .ne 11, 3) := by decide +kernel
theorem d_Opn_readValues_12 : decode b_Opn_readValues 12 = .ok (.iload_n 2, 1) := by decide +kernel
theorem d_Opn_readValues_13 : decode b_Opn_readValues 13 = .ok (.iload_n 1, 1) := by decide +kernel
theorem d_Opn_readValues_14 : decode b_Opn_readValues 14 = .ok (.iconst 3, 1) := by decide +kernel
theorem d_Opn_readValues_15 : decode b_Opn_readValues 15 = .ok (.if_icmp .ne 7, 3) := by decide +kernel
theorem d_Opn_readValues_22 : decode b_Opn_readValues 22 = .ok (.iconst 2, 1) := by decide +kernel
theorem d_Opn_readValues_18 : decode b_Opn_readValues 18 = .ok (.iconst 3, 1) := by decide +kernel
theorem d_Opn_readValues_19 : decode b_Opn_readValues 19 = .ok (.goto 4, 3) := by decide +kernel
theorem d_Opn_readValues_4 : decode b_Opn_readValues 4 = .ok (.aload_n 0, 1) := by decide +kernel
theorem d_Opn_readValues_5 : decode b_Opn_readValues 5 = .ok (.iload_n 2, 1) := by decide +kernel
theorem d_Opn_readValues_6 : decode b_Opn_readValues 6 = .ok (.invokevirtual 304, 3) := by decide +kernel
theorem d_Opn_readValues_9 : decode b_Opn_readValues 9 = .ok (.goto 149, 3) := by decide +kernel
section
variable (l : Launch) (dC : Nat → ClassId) (dI : Nat → Nat → Nat) (cI cB cJ cZ : ClassId)
set_option maxRecDepth 100000 in
set_option maxHeartbeats 4000000 in
set_option maxRecDepth 100000 in
theorem t_Opn_readTexts_129 {p : Program} {l : Launch} {e : Env} {R : Room} {s : State} {m : MethodId} {args : Array Value} {below : List Frame} {meth : Method} {c : Code} {cells slots : Nat} {Q : State → Prop} {dC : Nat → ClassId} {dI : Nat → Nat → Nat} {cI cB cJ cZ : ClassId} {A : Nat → Prop} {ad : Nat → Nat} {NN : Nat} {E : Heap} {tM tC : Nat} {kK kV : Nat → Nat} {post : St → Prop} {rec55 : Nat → Int32 → St → Prop} (hx : p.tables.exec = Jvm.exec) (hb : c.code = b_Opn_readTexts) (hml : c.maxLocals = 2) (hown : s.vm.findClass R_Opn = some m.cls) (hT : ∀ w ∈ TG, w.before args s = true) (hK : va_K (dC, dI) CL (TY cI cB cJ cZ) s) (hN : NW s) (hA : ∀ q : Nat, s.heap.size ≤ q → A q) (hRc : cells ≤ R.cells) (hRs : slots ≤ R.slots) (hRf : 4 ≤ R.frames) (hRl : 167 ≤ R.locals) (hNN : 152 ≤ NN) (hE : CE E tM tC kK kV A s) (hret : ∀ (x : St) (H : Heap) (locs : List Loc) (pc : Nat) (ls : Array Slot), decode b_Opn_readTexts pc = .ok (.return_, 1) → post x → Wd dC dI cI cB cJ cZ ad stC kcC NN A x H → va_S A s.heap H locs → W p l e R s m args below meth c H locs cells slots Q (F0 m pc ls [])) (hrec55 : ∀ (o : Nat) (l1 : Int32) (x : St) (H : Heap) (locs : List Loc) (ls : Array Slot), (o < NN ∧ kcC o = 7) → rec55 o l1 x → Wd dC dI cI cB cJ cZ ad stC kcC NN A x H → va_S A s.heap H locs → lv_has ls 2 [(0, .ref (ad o)), (1, .int l1)] → W p l e R s m args below meth c H locs cells slots Q (F0 m 55 ls [])) : ∀ (o : Nat) (l1 : Int32) (s0 : Int32) (s1 : Nat) (x : St) (H : Heap) (locs : List Loc) (ls : Array Slot), (o < NN ∧ kcC o = 7) → (s1 < NN ∧ kcC s1 = 8) → j_Opn_readTexts_129 post rec55 o l1 s0 s1 x → Wd dC dI cI cB cJ cZ ad stC kcC NN A x H → va_S A s.heap H locs → lv_has ls 2 [(0, .ref (ad o)), (1, .int l1)] → W p l e R s m args below meth c H locs cells slots Q (F0 m 129 ls [.int s0, .ref (ad s1)]) := by
  intro o l1 s0 s1 x H locs ls fo fs1 hw hW hS hl
  unfold j_Opn_readTexts_129 at hw
  refine lv_bipush (v := 7) hx hb d_Opn_readTexts_129 (by decide) ?_
  have hF := hW.free hS hA
  refine va_callv (va_runV (C := R_Src) (As := [.int s0, .int 7]) (rest := []) ⟨hx, hb, hml, hown, hT⟩ (k_Src_check l dC dI cI cB cJ cZ ad NN E tM tC kK kV hNN H.size s1 s0 7 x fs1 hw) ⟨callB_of 2 hT (gwt_in w_6_116) rfl rfl rfl (hT _ w_1_11) (hT _ w_6_113) (by decide +kernel) ⟨Nat.le_trans (Nat.le_of_ble_eq_true rfl) hRf, Nat.le_trans (Nat.le_of_ble_eq_true rfl) hRl⟩, hT _ w_6_114, hT _ w_6_115⟩ ⟨PVc.blind, va_recv hK hW.1 (ci := 8) (q0 := s1) rfl (pic_obj fs1.1 fs1.2 (by decide)), PVc.at _ hW hK hN hE hS hF⟩ rfl rfl hl.1 rfl (lv_room (Nat.le_of_ble_eq_true rfl)) d_Opn_readTexts_131 ⟨hRc, hRs⟩) hS (fun q _ h => hF q h) hF (fun  x1 t H locs ht hvm hw hB hz1 hk1 hS => ?_)
  have hW := Wd.back hB ht hF
  clear hB ht hF hz1 hk1 hvm
  refine lv_iinc (v := (l1 + 1)) (lv' := [(1, .int (l1 + 1)), (0, .ref (ad o))]) hx hb d_Opn_readTexts_134 hl (k := 1) rfl rfl (by decide) rfl (fun ls hl => ?_)
  refine lv_goto (tgt := 55) hx hb d_Opn_readTexts_137 (by decide) ?_
  exact hrec55 o (l1 + 1) x1 H locs ls fo hw hW hS (lv_sub hl [1, 0] rfl)
set_option maxRecDepth 100000 in
set_option maxHeartbeats 4000000 in
set_option maxRecDepth 100000 in
theorem t_Opn_readTexts_55 {p : Program} {l : Launch} {e : Env} {R : Room} {s : State} {m : MethodId} {args : Array Value} {below : List Frame} {meth : Method} {c : Code} {cells slots : Nat} {Q : State → Prop} {dC : Nat → ClassId} {dI : Nat → Nat → Nat} {cI cB cJ cZ : ClassId} {A : Nat → Prop} {ad : Nat → Nat} {NN : Nat} {E : Heap} {tM tC : Nat} {kK kV : Nat → Nat} {post : St → Prop} {rec55 : Nat → Int32 → St → Prop} (hx : p.tables.exec = Jvm.exec) (hb : c.code = b_Opn_readTexts) (hml : c.maxLocals = 2) (hown : s.vm.findClass R_Opn = some m.cls) (hT : ∀ w ∈ TG, w.before args s = true) (hK : va_K (dC, dI) CL (TY cI cB cJ cZ) s) (hN : NW s) (hA : ∀ q : Nat, s.heap.size ≤ q → A q) (hRc : cells ≤ R.cells) (hRs : slots ≤ R.slots) (hRf : 4 ≤ R.frames) (hRl : 167 ≤ R.locals) (hNN : 152 ≤ NN) (hE : CE E tM tC kK kV A s) (hret : ∀ (x : St) (H : Heap) (locs : List Loc) (pc : Nat) (ls : Array Slot), decode b_Opn_readTexts pc = .ok (.return_, 1) → post x → Wd dC dI cI cB cJ cZ ad stC kcC NN A x H → va_S A s.heap H locs → W p l e R s m args below meth c H locs cells slots Q (F0 m pc ls [])) (hrec55 : ∀ (o : Nat) (l1 : Int32) (x : St) (H : Heap) (locs : List Loc) (ls : Array Slot), (o < NN ∧ kcC o = 7) → rec55 o l1 x → Wd dC dI cI cB cJ cZ ad stC kcC NN A x H → va_S A s.heap H locs → lv_has ls 2 [(0, .ref (ad o)), (1, .int l1)] → W p l e R s m args below meth c H locs cells slots Q (F0 m 55 ls [])) : ∀ (o : Nat) (l1 : Int32) (x : St) (H : Heap) (locs : List Loc) (ls : Array Slot), (o < NN ∧ kcC o = 7) → j_Opn_readTexts_55 post rec55 o l1 x → Wd dC dI cI cB cJ cZ ad stC kcC NN A x H → va_S A s.heap H locs → lv_has ls 2 [(0, .ref (ad o)), (1, .int l1)] → W p l e R s m args below meth c H locs cells slots Q (F0 m 55 ls []) := by
  intro o l1 x H locs ls fo hw hW hS hl
  unfold j_Opn_readTexts_55 at hw
  refine lv_iload_n hx hb d_Opn_readTexts_55 rfl (lv_at hl 1 rfl) ?_
  refine lv_aload_n hx hb d_Opn_readTexts_56 rfl (lv_at hl 0 rfl) ?_
  refine w_geti (k := 9) (t := 7) (C := R_Opn) (T := F_Opn) (N := 17) hx hb hT hown hK hW fo.1 fo.2 (by decide) in_Opn rfl rfl (by decide) rfl fr_Opn_9 w_3_25 d_Opn_readTexts_57 ?_
  refine lv_icmp_ge (tgt := 140) hx hb d_Opn_readTexts_60 (by decide) (fun c2 => ?_) (fun c2 => ?_)
  · have hw := hw.1 c2
    exact hret x H locs 140 ls d_Opn_readTexts_140 hw hW hS
  · have hw := hw.2 c2
    refine lv_aload_n hx hb d_Opn_readTexts_63 rfl (lv_at hl 0 rfl) ?_
    refine w_getf (q := (stC o 2)) (k := 2) (t := 7) (C := R_Opn) (T := F_Opn) (N := 17) hx hb hT hown hK hW fo.1 fo.2 (by decide) in_Opn rfl rfl (by decide) rfl fr_Opn_2 w_3_17 d_Opn_readTexts_64 rfl ?_
    refine w_geti (k := 3) (t := 8) (C := R_Src) (T := F_Src) (N := 5) hx hb hT hown hK hW (st_ty hNN fo.1 fo.2 rfl).1 (st_ty hNN fo.1 fo.2 rfl).2 (by decide) in_Src rfl rfl (by decide) rfl fr_Src_3 w_3_2 d_Opn_readTexts_67 ?_
    refine lv_if_ne (tgt := 140) hx hb d_Opn_readTexts_70 (by decide) (fun c3 => ?_) (fun c3 => ?_)
    · have hw := hw.1 c3
      exact hret x H locs 140 ls d_Opn_readTexts_140 hw hW hS
    · have hw := hw.2 c3
      refine lv_aload_n hx hb d_Opn_readTexts_73 rfl (lv_at hl 0 rfl) ?_
      refine w_getf (q := (stC o 8)) (k := 8) (t := 7) (C := R_Opn) (T := F_Opn) (N := 17) hx hb hT hown hK hW fo.1 fo.2 (by decide) in_Opn rfl rfl (by decide) rfl fr_Opn_8 w_3_24 d_Opn_readTexts_74 rfl ?_
      refine lv_iload_n hx hb d_Opn_readTexts_77 rfl (lv_at hl 1 rfl) ?_
      refine lv_aload_n hx hb d_Opn_readTexts_78 rfl (lv_at hl 0 rfl) ?_
      refine w_getf (q := (stC o 2)) (k := 2) (t := 7) (C := R_Opn) (T := F_Opn) (N := 17) hx hb hT hown hK hW fo.1 fo.2 (by decide) in_Opn rfl rfl (by decide) rfl fr_Opn_2 w_3_17 d_Opn_readTexts_79 rfl ?_
      refine lv_aload_n hx hb d_Opn_readTexts_82 rfl (lv_at hl 0 rfl) ?_
      refine w_getf (q := (stC o 8)) (k := 8) (t := 7) (C := R_Opn) (T := F_Opn) (N := 17) hx hb hT hown hK hW fo.1 fo.2 (by decide) in_Opn rfl rfl (by decide) rfl fr_Opn_8 w_3_24 d_Opn_readTexts_83 rfl ?_
      refine lv_iload_n hx hb d_Opn_readTexts_86 rfl (lv_at hl 1 rfl) ?_
      obtain ⟨hi, hw⟩ := hw
      refine w_lald (o := (stC o 8)) hx hb hK hW (st_ty hNN fo.1 fo.2 rfl).1 (st_ty hNN fo.1 fo.2 rfl).2 hi d_Opn_readTexts_87 ?_
      have hF := hW.free hS hA
      refine va_calll (va_runV (C := R_Src) (As := [.long (rL x (stC o 8) l1)]) (rest := [.int l1, .ref (ad (stC o 8))]) ⟨hx, hb, hml, hown, hT⟩ (k_Src_readLetters l dC dI cI cB cJ cZ ad NN E tM tC kK kV hNN H.size (stC o 2) (rL x (stC o 8) l1) x (st_ty hNN fo.1 fo.2 rfl) hw) ⟨callB_of 1 hT (gwt_in w_6_155) rfl rfl rfl (hT _ w_1_11) (hT _ w_6_236) (by decide +kernel) ⟨Nat.le_trans (Nat.le_of_ble_eq_true rfl) hRf, Nat.le_trans (Nat.le_of_ble_eq_true rfl) hRl⟩, hT _ w_6_153, hT _ w_6_154⟩ ⟨PVc.blind, va_recv hK hW.1 (ci := 8) (q0 := (stC o 2)) rfl (pic_obj (st_ty hNN fo.1 fo.2 rfl).1 (st_ty hNN fo.1 fo.2 rfl).2 (by decide)), PVc.at _ hW hK hN hE hS hF⟩ rfl rfl hl.1 rfl (lv_room (Nat.le_of_ble_eq_true rfl)) d_Opn_readTexts_88 ⟨hRc, hRs⟩) hS (fun q _ h => hF q h) hF (fun r5 x4 t H locs ht hvm hw hB hz1 hk1 hS => ?_)
      have hW := Wd.back hB ht hF
      clear hB ht hF hz1 hk1 hvm
      obtain ⟨hi, hw⟩ := hw
      refine w_last (o := (stC o 8)) hx hb hK hW hS (st_ty hNN fo.1 fo.2 rfl).1 (st_ty hNN fo.1 fo.2 rfl).2 hi d_Opn_readTexts_91 (fun H locs hW hS => ?_)
      obtain ⟨x6, ex6⟩ : ∃ y : St, y = setL x4 (stC o 8) l1 r5 := ⟨_, rfl⟩
      rw [← ex6] at hW
      have hw := hw x6 ex6
      refine lv_aload_n hx hb d_Opn_readTexts_92 rfl (lv_at hl 0 rfl) ?_
      refine lv_dup hx hb d_Opn_readTexts_93 rfl ?_
      refine w_geti (k := 15) (t := 7) (C := R_Opn) (T := F_Opn) (N := 17) hx hb hT hown hK hW fo.1 fo.2 (by decide) in_Opn rfl rfl (by decide) rfl fr_Opn_15 w_3_31 d_Opn_readTexts_94 ?_
      refine lv_aload_n hx hb d_Opn_readTexts_97 rfl (lv_at hl 0 rfl) ?_
      refine w_getf (q := (stC o 8)) (k := 8) (t := 7) (C := R_Opn) (T := F_Opn) (N := 17) hx hb hT hown hK hW fo.1 fo.2 (by decide) in_Opn rfl rfl (by decide) rfl fr_Opn_8 w_3_24 d_Opn_readTexts_98 rfl ?_
      refine lv_iload_n hx hb d_Opn_readTexts_101 rfl (lv_at hl 1 rfl) ?_
      obtain ⟨hi, hw⟩ := hw
      refine w_lald (o := (stC o 8)) hx hb hK hW (st_ty hNN fo.1 fo.2 rfl).1 (st_ty hNN fo.1 fo.2 rfl).2 hi d_Opn_readTexts_102 ?_
      have hF := hW.free hS hA
      refine va_calli (va_runSN (As := [.long (rL x6 (stC o 8) l1)]) (rest := [.int (fI x6 o 15), .ref (ad o)]) ⟨hx, hb, hml, hown, hT⟩ (k_V_sizeOf l dC dI cI cB cJ cZ ad NN E tM tC kK kV hNN H.size (rL x6 (stC o 8) l1) x6  hw) ⟨va_cnB 1 hT (gwt_in w_5_161) rfl rfl rfl (hN _ wn_6_237 rfl) (hT _ w_1_1) (by decide +kernel) ⟨Nat.le_trans (Nat.le_of_ble_eq_true rfl) hRf, Nat.le_trans (Nat.le_of_ble_eq_true rfl) hRl⟩, hT _ w_5_160, trivial⟩ ⟨PVc.blind, PVc.at _ hW hK hN hE hS hF⟩ rfl rfl hl.1 rfl (lv_room (Nat.le_of_ble_eq_true rfl)) d_Opn_readTexts_103 ⟨hRc, hRs⟩) hS (fun q _ h => hF q h) hF (fun r8 x7 t H locs ht hvm hw hB hz1 hk1 hS => ?_)
      have hW := Wd.back hB ht hF
      clear hB ht hF hz1 hk1 hvm
      refine lv_iadd hx hb d_Opn_readTexts_106 ?_
      refine w_puti (ty := .int) (k := 15) (t := 7) (C := R_Opn) (T := F_Opn) (N := 17) hx hb hT hown hK hW hS fo.1 fo.2 (by decide) in_Opn t_Opn t_Opn_ok n_Opn rfl rfl (by decide) rfl fr_Opn_15 w_3_31 (by decide +kernel) rfl rfl d_Opn_readTexts_107 (fun H locs hW hS => ?_)
      obtain ⟨x9, ex9⟩ : ∃ y : St, y = setI x7 o 15 ((fI x6 o 15) + r8) := ⟨_, rfl⟩
      rw [← ex9] at hW
      have hw := hw x9 ex9
      refine lv_aload_n hx hb d_Opn_readTexts_110 rfl (lv_at hl 0 rfl) ?_
      refine w_getf (q := (stC o 2)) (k := 2) (t := 7) (C := R_Opn) (T := F_Opn) (N := 17) hx hb hT hown hK hW fo.1 fo.2 (by decide) in_Opn rfl rfl (by decide) rfl fr_Opn_2 w_3_17 d_Opn_readTexts_111 rfl ?_
      refine lv_aload_n hx hb d_Opn_readTexts_114 rfl (lv_at hl 0 rfl) ?_
      refine w_geti (k := 15) (t := 7) (C := R_Opn) (T := F_Opn) (N := 17) hx hb hT hown hK hW fo.1 fo.2 (by decide) in_Opn rfl rfl (by decide) rfl fr_Opn_15 w_3_31 d_Opn_readTexts_115 ?_
      refine lv_sipush (v := 20000) hx hb d_Opn_readTexts_118 (by decide) ?_
      refine lv_icmp_gt (tgt := 128) hx hb d_Opn_readTexts_121 (by decide) (fun c10 => ?_) (fun c10 => ?_)
      · have hw := hw.1 c10
        refine lv_iconst (v := 0) hx hb d_Opn_readTexts_128 (by decide) ?_
        exact t_Opn_readTexts_129 hx hb hml hown hT hK hN hA hRc hRs hRf hRl hNN hE hret hrec55 o l1 0 (stC o 2) x9 H locs ls fo (st_ty hNN fo.1 fo.2 rfl) hw hW hS (lv_sub hl [0, 1] rfl)
      · have hw := hw.2 c10
        refine lv_iconst (v := 1) hx hb d_Opn_readTexts_124 (by decide) ?_
        refine lv_goto (tgt := 129) hx hb d_Opn_readTexts_125 (by decide) ?_
        exact t_Opn_readTexts_129 hx hb hml hown hT hK hN hA hRc hRs hRf hRl hNN hE hret hrec55 o l1 1 (stC o 2) x9 H locs ls fo (st_ty hNN fo.1 fo.2 rfl) hw hW hS (lv_sub hl [0, 1] rfl)
set_option maxHeartbeats 4000000 in
set_option maxRecDepth 100000 in
theorem tl_Opn_readTexts_55 {p : Program} {l : Launch} {e : Env} {R : Room} {s : State} {m : MethodId} {args : Array Value} {below : List Frame} {meth : Method} {c : Code} {cells slots : Nat} {Q : State → Prop} {dC : Nat → ClassId} {dI : Nat → Nat → Nat} {cI cB cJ cZ : ClassId} {A : Nat → Prop} {ad : Nat → Nat} {NN : Nat} {E : Heap} {tM tC : Nat} {kK kV : Nat → Nat} {post : St → Prop} (hx : p.tables.exec = Jvm.exec) (hb : c.code = b_Opn_readTexts) (hml : c.maxLocals = 2) (hown : s.vm.findClass R_Opn = some m.cls) (hT : ∀ w ∈ TG, w.before args s = true) (hK : va_K (dC, dI) CL (TY cI cB cJ cZ) s) (hN : NW s) (hA : ∀ q : Nat, s.heap.size ≤ q → A q) (hRc : cells ≤ R.cells) (hRs : slots ≤ R.slots) (hRf : 4 ≤ R.frames) (hRl : 167 ≤ R.locals) (hNN : 152 ≤ NN) (hE : CE E tM tC kK kV A s) (hret : ∀ (x : St) (H : Heap) (locs : List Loc) (pc : Nat) (ls : Array Slot), decode b_Opn_readTexts pc = .ok (.return_, 1) → post x → Wd dC dI cI cB cJ cZ ad stC kcC NN A x H → va_S A s.heap H locs → W p l e R s m args below meth c H locs cells slots Q (F0 m pc ls []))  : ∀ n : Nat, ∀ (o : Nat) (l1 : Int32) (x : St) (H : Heap) (locs : List Loc) (ls : Array Slot), (o < NN ∧ kcC o = 7) → wl_Opn_readTexts_55 post n o l1 x → Wd dC dI cI cB cJ cZ ad stC kcC NN A x H → va_S A s.heap H locs → lv_has ls 2 [(0, .ref (ad o)), (1, .int l1)] → W p l e R s m args below meth c H locs cells slots Q (F0 m 55 ls []) := by
  intro n
  induction n with
  | zero => intro o l1 x H locs ls fo hw; exact hw.elim
  | succ n ih => intro o l1 x H locs ls fo hw hW hS hl; exact t_Opn_readTexts_55 hx hb hml hown hT hK hN hA hRc hRs hRf hRl hNN hE hret  ih o l1 x H locs ls fo hw hW hS hl
set_option maxRecDepth 100000 in
set_option maxHeartbeats 4000000 in
set_option maxRecDepth 100000 in
theorem t_Opn_readTexts_18 {p : Program} {l : Launch} {e : Env} {R : Room} {s : State} {m : MethodId} {args : Array Value} {below : List Frame} {meth : Method} {c : Code} {cells slots : Nat} {Q : State → Prop} {dC : Nat → ClassId} {dI : Nat → Nat → Nat} {cI cB cJ cZ : ClassId} {A : Nat → Prop} {ad : Nat → Nat} {NN : Nat} {E : Heap} {tM tC : Nat} {kK kV : Nat → Nat} {post : St → Prop} {rec18 : Nat → Int32 → St → Prop} (hx : p.tables.exec = Jvm.exec) (hb : c.code = b_Opn_readTexts) (hml : c.maxLocals = 2) (hown : s.vm.findClass R_Opn = some m.cls) (hT : ∀ w ∈ TG, w.before args s = true) (hK : va_K (dC, dI) CL (TY cI cB cJ cZ) s) (hN : NW s) (hA : ∀ q : Nat, s.heap.size ≤ q → A q) (hRc : cells ≤ R.cells) (hRs : slots ≤ R.slots) (hRf : 4 ≤ R.frames) (hRl : 167 ≤ R.locals) (hNN : 152 ≤ NN) (hE : CE E tM tC kK kV A s) (hret : ∀ (x : St) (H : Heap) (locs : List Loc) (pc : Nat) (ls : Array Slot), decode b_Opn_readTexts pc = .ok (.return_, 1) → post x → Wd dC dI cI cB cJ cZ ad stC kcC NN A x H → va_S A s.heap H locs → W p l e R s m args below meth c H locs cells slots Q (F0 m pc ls [])) (hrec18 : ∀ (o : Nat) (l1 : Int32) (x : St) (H : Heap) (locs : List Loc) (ls : Array Slot), (o < NN ∧ kcC o = 7) → rec18 o l1 x → Wd dC dI cI cB cJ cZ ad stC kcC NN A x H → va_S A s.heap H locs → lv_has ls 2 [(0, .ref (ad o)), (1, .int l1)] → W p l e R s m args below meth c H locs cells slots Q (F0 m 18 ls [])) : ∀ (o : Nat) (l1 : Int32) (x : St) (H : Heap) (locs : List Loc) (ls : Array Slot), (o < NN ∧ kcC o = 7) → j_Opn_readTexts_18 post rec18 o l1 x → Wd dC dI cI cB cJ cZ ad stC kcC NN A x H → va_S A s.heap H locs → lv_has ls 2 [(0, .ref (ad o)), (1, .int l1)] → W p l e R s m args below meth c H locs cells slots Q (F0 m 18 ls []) := by
  intro o l1 x H locs ls fo hw hW hS hl
  unfold j_Opn_readTexts_18 at hw
  refine lv_iload_n hx hb d_Opn_readTexts_18 rfl (lv_at hl 1 rfl) ?_
  refine lv_aload_n hx hb d_Opn_readTexts_19 rfl (lv_at hl 0 rfl) ?_
  refine w_geti (k := 9) (t := 7) (C := R_Opn) (T := F_Opn) (N := 17) hx hb hT hown hK hW fo.1 fo.2 (by decide) in_Opn rfl rfl (by decide) rfl fr_Opn_9 w_3_25 d_Opn_readTexts_20 ?_
  refine lv_icmp_ge (tgt := 53) hx hb d_Opn_readTexts_23 (by decide) (fun c11 => ?_) (fun c11 => ?_)
  · have hw := hw.1 c11
    refine lv_iconst (v := 0) hx hb d_Opn_readTexts_53 (by decide) ?_
    refine lv_istore_n (lv' := [(1, .int 0), (0, .ref (ad o))]) hx hb d_Opn_readTexts_54 rfl hl (by decide) rfl (fun ls hl => ?_)
    obtain ⟨n, hw⟩ := hw
    exact tl_Opn_readTexts_55 hx hb hml hown hT hK hN hA hRc hRs hRf hRl hNN hE hret  n o 0 x H locs ls fo hw hW hS (lv_sub hl [1, 0] rfl)
  · have hw := hw.2 c11
    refine lv_aload_n hx hb d_Opn_readTexts_26 rfl (lv_at hl 0 rfl) ?_
    refine w_getf (q := (stC o 2)) (k := 2) (t := 7) (C := R_Opn) (T := F_Opn) (N := 17) hx hb hT hown hK hW fo.1 fo.2 (by decide) in_Opn rfl rfl (by decide) rfl fr_Opn_2 w_3_17 d_Opn_readTexts_27 rfl ?_
    refine lv_aload_n hx hb d_Opn_readTexts_30 rfl (lv_at hl 0 rfl) ?_
    refine w_getf (q := (stC o 8)) (k := 8) (t := 7) (C := R_Opn) (T := F_Opn) (N := 17) hx hb hT hown hK hW fo.1 fo.2 (by decide) in_Opn rfl rfl (by decide) rfl fr_Opn_8 w_3_24 d_Opn_readTexts_31 rfl ?_
    refine lv_iload_n hx hb d_Opn_readTexts_34 rfl (lv_at hl 1 rfl) ?_
    obtain ⟨hi, hw⟩ := hw
    refine w_lald (o := (stC o 8)) hx hb hK hW (st_ty hNN fo.1 fo.2 rfl).1 (st_ty hNN fo.1 fo.2 rfl).2 hi d_Opn_readTexts_35 ?_
    refine lv_ldc2 hx hb hown (hT _ w_7_18) d_Opn_readTexts_36 ?_
    have hF := hW.free hS hA
    refine va_calli (va_runSN (As := [.long (rL x (stC o 8) l1), .long 255]) (rest := [.ref (ad (stC o 2))]) ⟨hx, hb, hml, hown, hT⟩ (k_V_within l dC dI cI cB cJ cZ ad NN E tM tC kK kV hNN H.size (rL x (stC o 8) l1) 255 x  hw) ⟨va_cnB 2 hT (gwt_in w_6_112) rfl rfl rfl (hN _ wn_6_110 rfl) (hT _ w_1_1) (by decide +kernel) ⟨Nat.le_trans (Nat.le_of_ble_eq_true rfl) hRf, Nat.le_trans (Nat.le_of_ble_eq_true rfl) hRl⟩, hT _ w_6_111, trivial⟩ ⟨PVc.blind, PVc.at _ hW hK hN hE hS hF⟩ rfl rfl hl.1 rfl (lv_room (Nat.le_of_ble_eq_true rfl)) d_Opn_readTexts_39 ⟨hRc, hRs⟩) hS (fun q _ h => hF q h) hF (fun r13 x12 t H locs ht hvm hw hB hz1 hk1 hS => ?_)
    have hW := Wd.back hB ht hF
    clear hB ht hF hz1 hk1 hvm
    refine lv_bipush (v := 7) hx hb d_Opn_readTexts_42 (by decide) ?_
    have hF := hW.free hS hA
    refine va_callv (va_runV (C := R_Src) (As := [.int r13, .int 7]) (rest := []) ⟨hx, hb, hml, hown, hT⟩ (k_Src_check l dC dI cI cB cJ cZ ad NN E tM tC kK kV hNN H.size (stC o 2) r13 7 x12 (st_ty hNN fo.1 fo.2 rfl) hw) ⟨callB_of 2 hT (gwt_in w_6_116) rfl rfl rfl (hT _ w_1_11) (hT _ w_6_113) (by decide +kernel) ⟨Nat.le_trans (Nat.le_of_ble_eq_true rfl) hRf, Nat.le_trans (Nat.le_of_ble_eq_true rfl) hRl⟩, hT _ w_6_114, hT _ w_6_115⟩ ⟨PVc.blind, va_recv hK hW.1 (ci := 8) (q0 := (stC o 2)) rfl (pic_obj (st_ty hNN fo.1 fo.2 rfl).1 (st_ty hNN fo.1 fo.2 rfl).2 (by decide)), PVc.at _ hW hK hN hE hS hF⟩ rfl rfl hl.1 rfl (lv_room (Nat.le_of_ble_eq_true rfl)) d_Opn_readTexts_44 ⟨hRc, hRs⟩) hS (fun q _ h => hF q h) hF (fun  x14 t H locs ht hvm hw hB hz1 hk1 hS => ?_)
    have hW := Wd.back hB ht hF
    clear hB ht hF hz1 hk1 hvm
    refine lv_iinc (v := (l1 + 1)) (lv' := [(1, .int (l1 + 1)), (0, .ref (ad o))]) hx hb d_Opn_readTexts_47 hl (k := 1) rfl rfl (by decide) rfl (fun ls hl => ?_)
    refine lv_goto (tgt := 18) hx hb d_Opn_readTexts_50 (by decide) ?_
    exact hrec18 o (l1 + 1) x14 H locs ls fo hw hW hS (lv_sub hl [1, 0] rfl)
set_option maxHeartbeats 4000000 in
set_option maxRecDepth 100000 in
theorem tl_Opn_readTexts_18 {p : Program} {l : Launch} {e : Env} {R : Room} {s : State} {m : MethodId} {args : Array Value} {below : List Frame} {meth : Method} {c : Code} {cells slots : Nat} {Q : State → Prop} {dC : Nat → ClassId} {dI : Nat → Nat → Nat} {cI cB cJ cZ : ClassId} {A : Nat → Prop} {ad : Nat → Nat} {NN : Nat} {E : Heap} {tM tC : Nat} {kK kV : Nat → Nat} {post : St → Prop} (hx : p.tables.exec = Jvm.exec) (hb : c.code = b_Opn_readTexts) (hml : c.maxLocals = 2) (hown : s.vm.findClass R_Opn = some m.cls) (hT : ∀ w ∈ TG, w.before args s = true) (hK : va_K (dC, dI) CL (TY cI cB cJ cZ) s) (hN : NW s) (hA : ∀ q : Nat, s.heap.size ≤ q → A q) (hRc : cells ≤ R.cells) (hRs : slots ≤ R.slots) (hRf : 4 ≤ R.frames) (hRl : 167 ≤ R.locals) (hNN : 152 ≤ NN) (hE : CE E tM tC kK kV A s) (hret : ∀ (x : St) (H : Heap) (locs : List Loc) (pc : Nat) (ls : Array Slot), decode b_Opn_readTexts pc = .ok (.return_, 1) → post x → Wd dC dI cI cB cJ cZ ad stC kcC NN A x H → va_S A s.heap H locs → W p l e R s m args below meth c H locs cells slots Q (F0 m pc ls []))  : ∀ n : Nat, ∀ (o : Nat) (l1 : Int32) (x : St) (H : Heap) (locs : List Loc) (ls : Array Slot), (o < NN ∧ kcC o = 7) → wl_Opn_readTexts_18 post n o l1 x → Wd dC dI cI cB cJ cZ ad stC kcC NN A x H → va_S A s.heap H locs → lv_has ls 2 [(0, .ref (ad o)), (1, .int l1)] → W p l e R s m args below meth c H locs cells slots Q (F0 m 18 ls []) := by
  intro n
  induction n with
  | zero => intro o l1 x H locs ls fo hw; exact hw.elim
  | succ n ih => intro o l1 x H locs ls fo hw hW hS hl; exact t_Opn_readTexts_18 hx hb hml hown hT hK hN hA hRc hRs hRf hRl hNN hE hret  ih o l1 x H locs ls fo hw hW hS hl
set_option maxRecDepth 100000 in
set_option maxHeartbeats 4000000 in
set_option maxRecDepth 100000 in
theorem t_Opn_readTexts_e {p : Program} {l : Launch} {e : Env} {R : Room} {s : State} {m : MethodId} {args : Array Value} {below : List Frame} {meth : Method} {c : Code} {cells slots : Nat} {Q : State → Prop} {dC : Nat → ClassId} {dI : Nat → Nat → Nat} {cI cB cJ cZ : ClassId} {A : Nat → Prop} {ad : Nat → Nat} {NN : Nat} {E : Heap} {tM tC : Nat} {kK kV : Nat → Nat} {post : St → Prop} (hx : p.tables.exec = Jvm.exec) (hb : c.code = b_Opn_readTexts) (hml : c.maxLocals = 2) (hown : s.vm.findClass R_Opn = some m.cls) (hT : ∀ w ∈ TG, w.before args s = true) (hK : va_K (dC, dI) CL (TY cI cB cJ cZ) s) (hN : NW s) (hA : ∀ q : Nat, s.heap.size ≤ q → A q) (hRc : cells ≤ R.cells) (hRs : slots ≤ R.slots) (hRf : 4 ≤ R.frames) (hRl : 167 ≤ R.locals) (hNN : 152 ≤ NN) (hE : CE E tM tC kK kV A s) (hret : ∀ (x : St) (H : Heap) (locs : List Loc) (pc : Nat) (ls : Array Slot), decode b_Opn_readTexts pc = .ok (.return_, 1) → post x → Wd dC dI cI cB cJ cZ ad stC kcC NN A x H → va_S A s.heap H locs → W p l e R s m args below meth c H locs cells slots Q (F0 m pc ls [])) : ∀ (o : Nat) (x : St) (H : Heap) (locs : List Loc) (ls : Array Slot), (o < NN ∧ kcC o = 7) → wp_Opn_readTexts post o x → Wd dC dI cI cB cJ cZ ad stC kcC NN A x H → va_S A s.heap H locs → lv_has ls 2 [(0, .ref (ad o))] → W p l e R s m args below meth c H locs cells slots Q (F0 m 0 ls []) := by
  intro o x H locs ls fo hw hW hS hl
  unfold wp_Opn_readTexts at hw
  refine lv_aload_n hx hb d_Opn_readTexts_0 rfl (lv_at hl 0 rfl) ?_
  refine w_getf (q := (stC o 2)) (k := 2) (t := 7) (C := R_Opn) (T := F_Opn) (N := 17) hx hb hT hown hK hW fo.1 fo.2 (by decide) in_Opn rfl rfl (by decide) rfl fr_Opn_2 w_3_17 d_Opn_readTexts_1 rfl ?_
  refine lv_aload_n hx hb d_Opn_readTexts_4 rfl (lv_at hl 0 rfl) ?_
  refine w_getf (q := (stC o 8)) (k := 8) (t := 7) (C := R_Opn) (T := F_Opn) (N := 17) hx hb hT hown hK hW fo.1 fo.2 (by decide) in_Opn rfl rfl (by decide) rfl fr_Opn_8 w_3_24 d_Opn_readTexts_5 rfl ?_
  refine lv_aload_n hx hb d_Opn_readTexts_8 rfl (lv_at hl 0 rfl) ?_
  refine w_geti (k := 9) (t := 7) (C := R_Opn) (T := F_Opn) (N := 17) hx hb hT hown hK hW fo.1 fo.2 (by decide) in_Opn rfl rfl (by decide) rfl fr_Opn_9 w_3_25 d_Opn_readTexts_9 ?_
  refine lv_iconst (v := 1) hx hb d_Opn_readTexts_12 (by decide) ?_
  have hF := hW.free hS hA
  refine va_callv (va_runV (C := R_Src) (As := [.ref (ad (stC o 8)), .int (fI x o 9), .int 1]) (rest := []) ⟨hx, hb, hml, hown, hT⟩ (k_Src_readCode l dC dI cI cB cJ cZ ad NN E tM tC kK kV hNN H.size (stC o 2) (stC o 8) (fI x o 9) 1 x (st_ty hNN fo.1 fo.2 rfl) (st_ty hNN fo.1 fo.2 rfl) hw) ⟨callB_of 3 hT (gwt_in w_7_5) rfl rfl rfl (hT _ w_1_11) (hT _ w_7_2) (by decide +kernel) ⟨Nat.le_trans (Nat.le_of_ble_eq_true rfl) hRf, Nat.le_trans (Nat.le_of_ble_eq_true rfl) hRl⟩, hT _ w_7_3, hT _ w_7_4⟩ ⟨PVc.blind, va_recv hK hW.1 (ci := 8) (q0 := (stC o 2)) rfl (pic_obj (st_ty hNN fo.1 fo.2 rfl).1 (st_ty hNN fo.1 fo.2 rfl).2 (by decide)), PVc.at _ hW hK hN hE hS hF⟩ rfl rfl hl.1 rfl (lv_room (Nat.le_of_ble_eq_true rfl)) d_Opn_readTexts_13 ⟨hRc, hRs⟩) hS (fun q _ h => hF q h) hF (fun  x15 t H locs ht hvm hw hB hz1 hk1 hS => ?_)
  have hW := Wd.back hB ht hF
  clear hB ht hF hz1 hk1 hvm
  refine lv_iconst (v := 0) hx hb d_Opn_readTexts_16 (by decide) ?_
  refine lv_istore_n (lv' := [(1, .int 0), (0, .ref (ad o))]) hx hb d_Opn_readTexts_17 rfl hl (by decide) rfl (fun ls hl => ?_)
  obtain ⟨n, hw⟩ := hw
  exact tl_Opn_readTexts_18 hx hb hml hown hT hK hN hA hRc hRs hRf hRl hNN hE hret  n o 0 x15 H locs ls fo hw hW hS (lv_sub hl [1, 0] rfl)
set_option maxHeartbeats 4000000 in
set_option maxRecDepth 100000 in
theorem k_Opn_readTexts (l : Launch) (dC : Nat → ClassId) (dI : Nat → Nat → Nat) (cI cB cJ cZ : ClassId) (ad : Nat → Nat) (NN : Nat) (E : Heap) (tM tC : Nat) (kK kV : Nat → Nat) (hNN : 152 ≤ NN) (sz : Nat) (o : Nat) (x : St) (fo : o < NN ∧ kcC o = 7) {post : St → Prop} (hw : wp_Opn_readTexts post o x) : Met l y_Opn_readTexts (wsOf y_Opn_readTexts b_Opn_readTexts 2 (none)) ({ frames := 4, cells := 0, slots := 0, locals := 167 }) (va_Pc [.ref (ad o)] (PVc dC dI cI cB cJ cZ ad stC kcC NN E tM tC kK kV sz x)) (va_Qv (fun (y : St) => post y) (fun y t => Wd dC dI cI cB cJ cZ ad stC kcC NN (va_A (pic ad stC kcC NN cI cB cJ cZ x) sz) y t.heap) (va_A (pic ad stC kcC NN cI cB cJ cZ x) sz)) 0 0 (va_A (pic ad stC kcC NN cI cB cJ cZ x) sz) := by
  refine Met.ofW (cc := b_Opn_readTexts) (maxL := 2) (ret := none) (by decide) rfl ?_
  intro p e s m args below meth c s₁ B hml hv
  obtain ⟨rfl, ⟨hsz, hW0, hK, hN⟩, hE⟩ := hv
  have hx := B.exec
  have hb := B.bytes
  have hr := B.returns
  have hts := atoms_spec B.pre
  have hT : ∀ w ∈ TG, w.before _ s = true := fun w h => hts w (List.mem_cons_of_mem _ h)
  have hown : s.vm.findClass R_Opn = some m.cls := findClass_of_methodNamed B.named
  have hlocks := B.notSynchronized
  subst hsz
  have hW : Wd dC dI cI cB cJ cZ ad stC kcC NN (va_A (pic ad stC kcC NN cI cB cJ cZ x) s.heap.size) x s.heap := ⟨hW0.1, hW0.2.1.self (sz := s.heap.size), hW0.2.2⟩
  generalize hAe : va_A (pic ad stC kcC NN cI cB cJ cZ x) s.heap.size = A at hW hE ⊢
  have hA : ∀ q : Nat, s.heap.size ≤ q → A q := fun q h => by rw [← hAe]; exact Or.inr h
  have hS : va_S A s.heap s.heap [] := va_S.rf
  have hl := lv_entry ([.ref (ad o)]) (n := 2) (Nat.le_of_ble_eq_true rfl)
  rw [lg_entry_eq]
  generalize (lg_sl ([.ref (ad o)]) ++ List.replicate (2 - (lg_sl ([.ref (ad o)])).length) Slot.unset).toArray = ls at hl ⊢
  have hl : lv_has ls 2 [(0, .ref (ad o))] := hl
  exact t_Opn_readTexts_e hx hb hml hown hT hK hN hA (Nat.le_refl 0) (Nat.le_refl 0) (Nat.le_refl 4) (Nat.le_refl 167) hNN hE (fun x H locs pc ls hd hp hW hS => W.vret hx hb hr (fun t ht hM => ⟨⟨x, rfl, hp, Wd.back hW ht.symm (fun _ z => z)⟩, hS.F ht⟩) hS.2.2 hd hlocks)  o x _ _ ls fo hw hW hS hl
set_option maxRecDepth 100000 in
set_option maxHeartbeats 4000000 in
set_option maxRecDepth 100000 in
theorem t_Opn_readTextsInParts_260 {p : Program} {l : Launch} {e : Env} {R : Room} {s : State} {m : MethodId} {args : Array Value} {below : List Frame} {meth : Method} {c : Code} {cells slots : Nat} {Q : State → Prop} {dC : Nat → ClassId} {dI : Nat → Nat → Nat} {cI cB cJ cZ : ClassId} {A : Nat → Prop} {ad : Nat → Nat} {NN : Nat} {E : Heap} {tM tC : Nat} {kK kV : Nat → Nat} {post : St → Prop} {rec36 : Nat → Int64 → Int32 → St → Prop} (hx : p.tables.exec = Jvm.exec) (hb : c.code = b_Opn_readTextsInParts) (hml : c.maxLocals = 11) (hown : s.vm.findClass R_Opn = some m.cls) (hT : ∀ w ∈ TG, w.before args s = true) (hK : va_K (dC, dI) CL (TY cI cB cJ cZ) s) (hN : NW s) (hA : ∀ q : Nat, s.heap.size ≤ q → A q) (hRc : cells ≤ R.cells) (hRs : slots ≤ R.slots) (hRf : 4 ≤ R.frames) (hRl : 167 ≤ R.locals) (hNN : 152 ≤ NN) (hE : CE E tM tC kK kV A s) (hret : ∀ (x : St) (H : Heap) (locs : List Loc) (pc : Nat) (ls : Array Slot), decode b_Opn_readTextsInParts pc = .ok (.return_, 1) → post x → Wd dC dI cI cB cJ cZ ad stC kcC NN A x H → va_S A s.heap H locs → W p l e R s m args below meth c H locs cells slots Q (F0 m pc ls [])) (hrec36 : ∀ (o : Nat) (l1 : Int64) (l3 : Int32) (x : St) (H : Heap) (locs : List Loc) (ls : Array Slot), (o < NN ∧ kcC o = 7) → rec36 o l1 l3 x → Wd dC dI cI cB cJ cZ ad stC kcC NN A x H → va_S A s.heap H locs → lv_has ls 11 [(0, .ref (ad o)), (1, .long l1), (3, .int l3)] → W p l e R s m args below meth c H locs cells slots Q (F0 m 36 ls [])) : ∀ (o : Nat) (l1 : Int64) (l3 : Int32) (l4 : Int64) (l6 : Int64) (l8 : Int64) (l10 : Int32) (s0 : Int32) (s1 : Nat) (x : St) (H : Heap) (locs : List Loc) (ls : Array Slot), (o < NN ∧ kcC o = 7) → (s1 < NN ∧ kcC s1 = 8) → j_Opn_readTextsInParts_260 post rec36 o l1 l3 l4 l6 l8 l10 s0 s1 x → Wd dC dI cI cB cJ cZ ad stC kcC NN A x H → va_S A s.heap H locs → lv_has ls 11 [(0, .ref (ad o)), (1, .long l1), (3, .int l3), (4, .long l4), (6, .long l6), (8, .long l8), (10, .int l10)] → W p l e R s m args below meth c H locs cells slots Q (F0 m 260 ls [.int s0, .ref (ad s1)]) := by
  intro o l1 l3 l4 l6 l8 l10 s0 s1 x H locs ls fo fs1 hw hW hS hl
  unfold j_Opn_readTextsInParts_260 at hw
  refine lv_bipush (v := 7) hx hb d_Opn_readTextsInParts_260 (by decide) ?_
  have hF := hW.free hS hA
  refine va_callv (va_runV (C := R_Src) (As := [.int s0, .int 7]) (rest := []) ⟨hx, hb, hml, hown, hT⟩ (k_Src_check l dC dI cI cB cJ cZ ad NN E tM tC kK kV hNN H.size s1 s0 7 x fs1 hw) ⟨callB_of 2 hT (gwt_in w_6_116) rfl rfl rfl (hT _ w_1_11) (hT _ w_6_113) (by decide +kernel) ⟨Nat.le_trans (Nat.le_of_ble_eq_true rfl) hRf, Nat.le_trans (Nat.le_of_ble_eq_true rfl) hRl⟩, hT _ w_6_114, hT _ w_6_115⟩ ⟨PVc.blind, va_recv hK hW.1 (ci := 8) (q0 := s1) rfl (pic_obj fs1.1 fs1.2 (by decide)), PVc.at _ hW hK hN hE hS hF⟩ rfl rfl hl.1 rfl (lv_room (Nat.le_of_ble_eq_true rfl)) d_Opn_readTextsInParts_262 ⟨hRc, hRs⟩) hS (fun q _ h => hF q h) hF (fun  x1 t H locs ht hvm hw hB hz1 hk1 hS => ?_)
  have hW := Wd.back hB ht hF
  clear hB ht hF hz1 hk1 hvm
  refine lv_iinc (v := (l3 + 1)) (lv' := [(3, .int (l3 + 1)), (0, .ref (ad o)), (1, .long l1), (4, .long l4), (6, .long l6), (8, .long l8), (10, .int l10)]) hx hb d_Opn_readTextsInParts_265 hl (k := 2) rfl rfl (by decide) rfl (fun ls hl => ?_)
  refine lv_goto (tgt := 36) hx hb d_Opn_readTextsInParts_268 (by decide) ?_
  exact hrec36 o l1 (l3 + 1) x1 H locs ls fo hw hW hS (lv_sub hl [1, 2, 0] rfl)
set_option maxRecDepth 100000 in
set_option maxHeartbeats 4000000 in
set_option maxRecDepth 100000 in
theorem t_Opn_readTextsInParts_106 {p : Program} {l : Launch} {e : Env} {R : Room} {s : State} {m : MethodId} {args : Array Value} {below : List Frame} {meth : Method} {c : Code} {cells slots : Nat} {Q : State → Prop} {dC : Nat → ClassId} {dI : Nat → Nat → Nat} {cI cB cJ cZ : ClassId} {A : Nat → Prop} {ad : Nat → Nat} {NN : Nat} {E : Heap} {tM tC : Nat} {kK kV : Nat → Nat} {post : St → Prop} {rec36 : Nat → Int64 → Int32 → St → Prop} (hx : p.tables.exec = Jvm.exec) (hb : c.code = b_Opn_readTextsInParts) (hml : c.maxLocals = 11) (hown : s.vm.findClass R_Opn = some m.cls) (hT : ∀ w ∈ TG, w.before args s = true) (hK : va_K (dC, dI) CL (TY cI cB cJ cZ) s) (hN : NW s) (hA : ∀ q : Nat, s.heap.size ≤ q → A q) (hRc : cells ≤ R.cells) (hRs : slots ≤ R.slots) (hRf : 4 ≤ R.frames) (hRl : 167 ≤ R.locals) (hNN : 152 ≤ NN) (hE : CE E tM tC kK kV A s) (hret : ∀ (x : St) (H : Heap) (locs : List Loc) (pc : Nat) (ls : Array Slot), decode b_Opn_readTextsInParts pc = .ok (.return_, 1) → post x → Wd dC dI cI cB cJ cZ ad stC kcC NN A x H → va_S A s.heap H locs → W p l e R s m args below meth c H locs cells slots Q (F0 m pc ls [])) (hrec36 : ∀ (o : Nat) (l1 : Int64) (l3 : Int32) (x : St) (H : Heap) (locs : List Loc) (ls : Array Slot), (o < NN ∧ kcC o = 7) → rec36 o l1 l3 x → Wd dC dI cI cB cJ cZ ad stC kcC NN A x H → va_S A s.heap H locs → lv_has ls 11 [(0, .ref (ad o)), (1, .long l1), (3, .int l3)] → W p l e R s m args below meth c H locs cells slots Q (F0 m 36 ls [])) : ∀ (o : Nat) (l1 : Int64) (l3 : Int32) (l4 : Int64) (l6 : Int64) (s0 : Int32) (s1 : Nat) (x : St) (H : Heap) (locs : List Loc) (ls : Array Slot), (o < NN ∧ kcC o = 7) → (s1 < NN ∧ kcC s1 = 8) → j_Opn_readTextsInParts_106 post rec36 o l1 l3 l4 l6 s0 s1 x → Wd dC dI cI cB cJ cZ ad stC kcC NN A x H → va_S A s.heap H locs → lv_has ls 11 [(0, .ref (ad o)), (1, .long l1), (3, .int l3), (4, .long l4), (6, .long l6)] → W p l e R s m args below meth c H locs cells slots Q (F0 m 106 ls [.int s0, .ref (ad s1)]) := by
  intro o l1 l3 l4 l6 s0 s1 x H locs ls fo fs1 hw hW hS hl
  unfold j_Opn_readTextsInParts_106 at hw
  refine lv_bipush (v := 7) hx hb d_Opn_readTextsInParts_106 (by decide) ?_
  have hF := hW.free hS hA
  refine va_callv (va_runV (C := R_Src) (As := [.int s0, .int 7]) (rest := []) ⟨hx, hb, hml, hown, hT⟩ (k_Src_check l dC dI cI cB cJ cZ ad NN E tM tC kK kV hNN H.size s1 s0 7 x fs1 hw) ⟨callB_of 2 hT (gwt_in w_6_116) rfl rfl rfl (hT _ w_1_11) (hT _ w_6_113) (by decide +kernel) ⟨Nat.le_trans (Nat.le_of_ble_eq_true rfl) hRf, Nat.le_trans (Nat.le_of_ble_eq_true rfl) hRl⟩, hT _ w_6_114, hT _ w_6_115⟩ ⟨PVc.blind, va_recv hK hW.1 (ci := 8) (q0 := s1) rfl (pic_obj fs1.1 fs1.2 (by decide)), PVc.at _ hW hK hN hE hS hF⟩ rfl rfl hl.1 rfl (lv_room (Nat.le_of_ble_eq_true rfl)) d_Opn_readTextsInParts_108 ⟨hRc, hRs⟩) hS (fun q _ h => hF q h) hF (fun  x2 t H locs ht hvm hw hB hz1 hk1 hS => ?_)
  have hW := Wd.back hB ht hF
  clear hB ht hF hz1 hk1 hvm
  refine lv_aload_n hx hb d_Opn_readTextsInParts_111 rfl (lv_at hl 0 rfl) ?_
  refine w_getf (q := (stC o 2)) (k := 2) (t := 7) (C := R_Opn) (T := F_Opn) (N := 17) hx hb hT hown hK hW fo.1 fo.2 (by decide) in_Opn rfl rfl (by decide) rfl fr_Opn_2 w_3_17 d_Opn_readTextsInParts_112 rfl ?_
  refine lv_lload hx hb d_Opn_readTextsInParts_115 (lv_at hl 4 rfl) ?_
  have hF := hW.free hS hA
  refine va_calll (va_runV (C := R_Src) (As := [.long l6]) (rest := []) ⟨hx, hb, hml, hown, hT⟩ (k_Src_readLetters l dC dI cI cB cJ cZ ad NN E tM tC kK kV hNN H.size (stC o 2) l6 x2 (st_ty hNN fo.1 fo.2 rfl) hw) ⟨callB_of 1 hT (gwt_in w_6_155) rfl rfl rfl (hT _ w_1_11) (hT _ w_6_236) (by decide +kernel) ⟨Nat.le_trans (Nat.le_of_ble_eq_true rfl) hRf, Nat.le_trans (Nat.le_of_ble_eq_true rfl) hRl⟩, hT _ w_6_153, hT _ w_6_154⟩ ⟨PVc.blind, va_recv hK hW.1 (ci := 8) (q0 := (stC o 2)) rfl (pic_obj (st_ty hNN fo.1 fo.2 rfl).1 (st_ty hNN fo.1 fo.2 rfl).2 (by decide)), PVc.at _ hW hK hN hE hS hF⟩ rfl rfl hl.1 rfl (lv_room (Nat.le_of_ble_eq_true rfl)) d_Opn_readTextsInParts_117 ⟨hRc, hRs⟩) hS (fun q _ h => hF q h) hF (fun r4 x3 t H locs ht hvm hw hB hz1 hk1 hS => ?_)
  have hW := Wd.back hB ht hF
  clear hB ht hF hz1 hk1 hvm
  refine lv_lstore (lv' := [(8, .long r4), (0, .ref (ad o)), (1, .long l1), (3, .int l3), (4, .long l4), (6, .long l6)]) hx hb d_Opn_readTextsInParts_120 hl (by decide) rfl (fun ls hl => ?_)
  refine lv_aload_n hx hb d_Opn_readTextsInParts_122 rfl (lv_at hl 1 rfl) ?_
  refine w_getf (q := (stC o 2)) (k := 2) (t := 7) (C := R_Opn) (T := F_Opn) (N := 17) hx hb hT hown hK hW fo.1 fo.2 (by decide) in_Opn rfl rfl (by decide) rfl fr_Opn_2 w_3_17 d_Opn_readTextsInParts_123 rfl ?_
  refine w_geti (k := 3) (t := 8) (C := R_Src) (T := F_Src) (N := 5) hx hb hT hown hK hW (st_ty hNN fo.1 fo.2 rfl).1 (st_ty hNN fo.1 fo.2 rfl).2 (by decide) in_Src rfl rfl (by decide) rfl fr_Src_3 w_3_2 d_Opn_readTextsInParts_126 ?_
  refine lv_if_eq (tgt := 133) hx hb d_Opn_readTextsInParts_129 (by decide) (fun c5 => ?_) (fun c5 => ?_)
  · have hw := hw.1 c5
    refine lv_lload hx hb d_Opn_readTextsInParts_133 (lv_at hl 4 rfl) ?_
    refine lv_lload hx hb d_Opn_readTextsInParts_135 (lv_at hl 5 rfl) ?_
    refine lv_ladd hx hb d_Opn_readTextsInParts_137 ?_
    refine lv_l2i hx hb d_Opn_readTextsInParts_138 rfl ?_
    refine lv_topi (fun v6 ev6 => ?_)
    have hw := hw v6 ev6
    refine lv_istore (lv' := [(10, .int v6), (8, .long r4), (0, .ref (ad o)), (1, .long l1), (3, .int l3), (4, .long l4), (6, .long l6)]) hx hb d_Opn_readTextsInParts_139 hl (by decide) rfl (fun ls hl => ?_)
    refine lv_aload_n hx hb d_Opn_readTextsInParts_141 rfl (lv_at hl 2 rfl) ?_
    refine w_getf (q := (stC o 0)) (k := 0) (t := 7) (C := R_Opn) (T := F_Opn) (N := 17) hx hb hT hown hK hW fo.1 fo.2 (by decide) in_Opn rfl rfl (by decide) rfl fr_Opn_0 w_3_15 d_Opn_readTextsInParts_142 rfl ?_
    refine w_getf (q := (stC (stC o 0) 6)) (k := 6) (t := 6) (C := R_Vlt) (T := F_Vlt) (N := 20) hx hb hT hown hK hW (st_ty hNN fo.1 fo.2 rfl).1 (st_ty hNN fo.1 fo.2 rfl).2 (by decide) in_Vlt rfl rfl (by decide) rfl fr_Vlt_6 w_2_140 d_Opn_readTextsInParts_145 rfl ?_
    refine lv_lload_n hx hb d_Opn_readTextsInParts_148 rfl (lv_at hl 3 rfl) ?_
    have hF := hW.free hS hA
    refine va_calli (va_runSN (As := [.long l1]) (rest := [.ref (ad (stC (stC o 0) 6))]) ⟨hx, hb, hml, hown, hT⟩ (k_V_placeOf l dC dI cI cB cJ cZ ad NN E tM tC kK kV hNN H.size l1 x3  hw) ⟨va_cnB 1 hT (gwt_in w_5_183) rfl rfl rfl (hN _ wn_7_23 rfl) (hT _ w_1_1) (by decide +kernel) ⟨Nat.le_trans (Nat.le_of_ble_eq_true rfl) hRf, Nat.le_trans (Nat.le_of_ble_eq_true rfl) hRl⟩, hT _ w_5_182, trivial⟩ ⟨PVc.blind, PVc.at _ hW hK hN hE hS hF⟩ rfl rfl hl.1 rfl (lv_room (Nat.le_of_ble_eq_true rfl)) d_Opn_readTextsInParts_149 ⟨hRc, hRs⟩) hS (fun q _ h => hF q h) hF (fun r8 x7 t H locs ht hvm hw hB hz1 hk1 hS => ?_)
    have hW := Wd.back hB ht hF
    clear hB ht hF hz1 hk1 hvm
    refine lv_aload_n hx hb d_Opn_readTextsInParts_152 rfl (lv_at hl 2 rfl) ?_
    refine w_getf (q := (stC o 0)) (k := 0) (t := 7) (C := R_Opn) (T := F_Opn) (N := 17) hx hb hT hown hK hW fo.1 fo.2 (by decide) in_Opn rfl rfl (by decide) rfl fr_Opn_0 w_3_15 d_Opn_readTextsInParts_153 rfl ?_
    refine w_getf (q := (stC (stC o 0) 6)) (k := 6) (t := 6) (C := R_Vlt) (T := F_Vlt) (N := 20) hx hb hT hown hK hW (st_ty hNN fo.1 fo.2 rfl).1 (st_ty hNN fo.1 fo.2 rfl).2 (by decide) in_Vlt rfl rfl (by decide) rfl fr_Vlt_6 w_2_140 d_Opn_readTextsInParts_156 rfl ?_
    refine lv_aload_n hx hb d_Opn_readTextsInParts_159 rfl (lv_at hl 2 rfl) ?_
    refine w_geti (k := 14) (t := 7) (C := R_Opn) (T := F_Opn) (N := 17) hx hb hT hown hK hW fo.1 fo.2 (by decide) in_Opn rfl rfl (by decide) rfl fr_Opn_14 w_3_30 d_Opn_readTextsInParts_160 ?_
    refine lv_lload hx hb d_Opn_readTextsInParts_163 (lv_at hl 5 rfl) ?_
    refine lv_l2i hx hb d_Opn_readTextsInParts_165 rfl ?_
    obtain ⟨⟨h1, h2, h3, h4, h5, h6⟩, hw⟩ := hw
    refine va_copyi (a := ad (stC (stC o 0) 6)) (a0 := ad (stC (stC o 0) 6)) hx hb (hml.trans hl.1.symm) hown (hT _ w_6_83) (hT _ w_4_73) (hT _ w_4_72) (hT _ w_1_16) hK hW.1 hW.2.1 hS (stC (stC o 0) 6) (stC (stC o 0) 6) 1 1 (pic_byte (st_ty hNN (st_ty hNN fo.1 fo.2 rfl).1 (st_ty hNN fo.1 fo.2 rfl).2 rfl).1 (st_ty hNN (st_ty hNN fo.1 fo.2 rfl).1 (st_ty hNN fo.1 fo.2 rfl).2 rfl).2) (pic_byte (st_ty hNN (st_ty hNN fo.1 fo.2 rfl).1 (st_ty hNN fo.1 fo.2 rfl).2 rfl).1 (st_ty hNN (st_ty hNN fo.1 fo.2 rfl).1 (st_ty hNN fo.1 fo.2 rfl).2 rfl).2) rfl rfl rfl h1 h2 h3 h4 h5 h6 (Nat.le_trans (by decide) hRf) (Nat.le_trans (Nat.le_of_ble_eq_true rfl) hRl) d_Opn_readTextsInParts_166 (fun H locs hP hD hS => ?_)
    have hW := Wd.rowb (st_ty hNN (st_ty hNN fo.1 fo.2 rfl).1 (st_ty hNN fo.1 fo.2 rfl).2 rfl).1 (st_ty hNN (st_ty hNN fo.1 fo.2 rfl).1 (st_ty hNN fo.1 fo.2 rfl).2 rfl).2 hP hD hW.2.2
    obtain ⟨x9, ex9⟩ : ∃ y : St, y = setW x7 (stC (stC o 0) 6) (va_cpy (fA x7 (stC (stC o 0) 6)) (fA x7 (stC (stC o 0) 6)) (r8 : Int32).toNatClampNeg ((fI x7 o 14) : Int32).toNatClampNeg ((l4 : Int64).toInt32 : Int32).toNatClampNeg) := ⟨_, rfl⟩
    rw [← ex9] at hW
    have hw := hw x9 ex9
    refine lv_aload_n hx hb d_Opn_readTextsInParts_169 rfl (lv_at hl 2 rfl) ?_
    refine w_getf (q := (stC o 0)) (k := 0) (t := 7) (C := R_Opn) (T := F_Opn) (N := 17) hx hb hT hown hK hW fo.1 fo.2 (by decide) in_Opn rfl rfl (by decide) rfl fr_Opn_0 w_3_15 d_Opn_readTextsInParts_170 rfl ?_
    refine w_getf (q := (stC (stC o 0) 6)) (k := 6) (t := 6) (C := R_Vlt) (T := F_Vlt) (N := 20) hx hb hT hown hK hW (st_ty hNN fo.1 fo.2 rfl).1 (st_ty hNN fo.1 fo.2 rfl).2 (by decide) in_Vlt rfl rfl (by decide) rfl fr_Vlt_6 w_2_140 d_Opn_readTextsInParts_173 rfl ?_
    refine lv_lload hx hb d_Opn_readTextsInParts_176 (lv_at hl 1 rfl) ?_
    have hF := hW.free hS hA
    refine va_calli (va_runSN (As := [.long r4]) (rest := [.ref (ad (stC (stC o 0) 6))]) ⟨hx, hb, hml, hown, hT⟩ (k_V_placeOf l dC dI cI cB cJ cZ ad NN E tM tC kK kV hNN H.size r4 x9  hw) ⟨va_cnB 1 hT (gwt_in w_5_183) rfl rfl rfl (hN _ wn_7_23 rfl) (hT _ w_1_1) (by decide +kernel) ⟨Nat.le_trans (Nat.le_of_ble_eq_true rfl) hRf, Nat.le_trans (Nat.le_of_ble_eq_true rfl) hRl⟩, hT _ w_5_182, trivial⟩ ⟨PVc.blind, PVc.at _ hW hK hN hE hS hF⟩ rfl rfl hl.1 rfl (lv_room (Nat.le_of_ble_eq_true rfl)) d_Opn_readTextsInParts_178 ⟨hRc, hRs⟩) hS (fun q _ h => hF q h) hF (fun r11 x10 t H locs ht hvm hw hB hz1 hk1 hS => ?_)
    have hW := Wd.back hB ht hF
    clear hB ht hF hz1 hk1 hvm
    refine lv_aload_n hx hb d_Opn_readTextsInParts_181 rfl (lv_at hl 2 rfl) ?_
    refine w_getf (q := (stC o 0)) (k := 0) (t := 7) (C := R_Opn) (T := F_Opn) (N := 17) hx hb hT hown hK hW fo.1 fo.2 (by decide) in_Opn rfl rfl (by decide) rfl fr_Opn_0 w_3_15 d_Opn_readTextsInParts_182 rfl ?_
    refine w_getf (q := (stC (stC o 0) 6)) (k := 6) (t := 6) (C := R_Vlt) (T := F_Vlt) (N := 20) hx hb hT hown hK hW (st_ty hNN fo.1 fo.2 rfl).1 (st_ty hNN fo.1 fo.2 rfl).2 (by decide) in_Vlt rfl rfl (by decide) rfl fr_Vlt_6 w_2_140 d_Opn_readTextsInParts_185 rfl ?_
    refine lv_aload_n hx hb d_Opn_readTextsInParts_188 rfl (lv_at hl 2 rfl) ?_
    refine w_geti (k := 14) (t := 7) (C := R_Opn) (T := F_Opn) (N := 17) hx hb hT hown hK hW fo.1 fo.2 (by decide) in_Opn rfl rfl (by decide) rfl fr_Opn_14 w_3_30 d_Opn_readTextsInParts_189 ?_
    refine lv_lload hx hb d_Opn_readTextsInParts_192 (lv_at hl 5 rfl) ?_
    refine lv_l2i hx hb d_Opn_readTextsInParts_194 rfl ?_
    refine lv_iadd hx hb d_Opn_readTextsInParts_195 ?_
    refine lv_lload hx hb d_Opn_readTextsInParts_196 (lv_at hl 6 rfl) ?_
    refine lv_l2i hx hb d_Opn_readTextsInParts_198 rfl ?_
    obtain ⟨⟨h1, h2, h3, h4, h5, h6⟩, hw⟩ := hw
    refine va_copyi (a := ad (stC (stC o 0) 6)) (a0 := ad (stC (stC o 0) 6)) hx hb (hml.trans hl.1.symm) hown (hT _ w_6_83) (hT _ w_4_73) (hT _ w_4_72) (hT _ w_1_16) hK hW.1 hW.2.1 hS (stC (stC o 0) 6) (stC (stC o 0) 6) 1 1 (pic_byte (st_ty hNN (st_ty hNN fo.1 fo.2 rfl).1 (st_ty hNN fo.1 fo.2 rfl).2 rfl).1 (st_ty hNN (st_ty hNN fo.1 fo.2 rfl).1 (st_ty hNN fo.1 fo.2 rfl).2 rfl).2) (pic_byte (st_ty hNN (st_ty hNN fo.1 fo.2 rfl).1 (st_ty hNN fo.1 fo.2 rfl).2 rfl).1 (st_ty hNN (st_ty hNN fo.1 fo.2 rfl).1 (st_ty hNN fo.1 fo.2 rfl).2 rfl).2) rfl rfl rfl h1 h2 h3 h4 h5 h6 (Nat.le_trans (by decide) hRf) (Nat.le_trans (Nat.le_of_ble_eq_true rfl) hRl) d_Opn_readTextsInParts_199 (fun H locs hP hD hS => ?_)
    have hW := Wd.rowb (st_ty hNN (st_ty hNN fo.1 fo.2 rfl).1 (st_ty hNN fo.1 fo.2 rfl).2 rfl).1 (st_ty hNN (st_ty hNN fo.1 fo.2 rfl).1 (st_ty hNN fo.1 fo.2 rfl).2 rfl).2 hP hD hW.2.2
    obtain ⟨x12, ex12⟩ : ∃ y : St, y = setW x10 (stC (stC o 0) 6) (va_cpy (fA x10 (stC (stC o 0) 6)) (fA x10 (stC (stC o 0) 6)) (r11 : Int32).toNatClampNeg (((fI x10 o 14) + (l4 : Int64).toInt32) : Int32).toNatClampNeg ((l6 : Int64).toInt32 : Int32).toNatClampNeg) := ⟨_, rfl⟩
    rw [← ex12] at hW
    have hw := hw x12 ex12
    refine lv_aload_n hx hb d_Opn_readTextsInParts_202 rfl (lv_at hl 2 rfl) ?_
    refine w_geti (k := 14) (t := 7) (C := R_Opn) (T := F_Opn) (N := 17) hx hb hT hown hK hW fo.1 fo.2 (by decide) in_Opn rfl rfl (by decide) rfl fr_Opn_14 w_3_30 d_Opn_readTextsInParts_203 ?_
    refine lv_iload hx hb d_Opn_readTextsInParts_206 (lv_at hl 0 rfl) ?_
    have hF := hW.free hS hA
    refine va_calll (va_runSN (As := [.int (fI x12 o 14), .int v6]) (rest := []) ⟨hx, hb, hml, hown, hT⟩ (k_V_reference l dC dI cI cB cJ cZ ad NN E tM tC kK kV hNN H.size (fI x12 o 14) v6 x12  hw) ⟨va_cnB 2 hT (gwt_in w_5_86) rfl rfl rfl (hN _ wn_7_24 rfl) (hT _ w_1_1) (by decide +kernel) ⟨Nat.le_trans (Nat.le_of_ble_eq_true rfl) hRf, Nat.le_trans (Nat.le_of_ble_eq_true rfl) hRl⟩, hT _ w_5_85, trivial⟩ ⟨PVc.blind, PVc.at _ hW hK hN hE hS hF⟩ rfl rfl hl.1 rfl (lv_room (Nat.le_of_ble_eq_true rfl)) d_Opn_readTextsInParts_208 ⟨hRc, hRs⟩) hS (fun q _ h => hF q h) hF (fun r14 x13 t H locs ht hvm hw hB hz1 hk1 hS => ?_)
    have hW := Wd.back hB ht hF
    clear hB ht hF hz1 hk1 hvm
    refine lv_lstore_n (lv' := [(1, .long r14), (10, .int v6), (8, .long r4), (0, .ref (ad o)), (3, .int l3), (4, .long l4), (6, .long l6)]) hx hb d_Opn_readTextsInParts_211 rfl hl (by decide) rfl (fun ls hl => ?_)
    refine lv_aload_n hx hb d_Opn_readTextsInParts_212 rfl (lv_at hl 3 rfl) ?_
    refine w_getf (q := (stC o 8)) (k := 8) (t := 7) (C := R_Opn) (T := F_Opn) (N := 17) hx hb hT hown hK hW fo.1 fo.2 (by decide) in_Opn rfl rfl (by decide) rfl fr_Opn_8 w_3_24 d_Opn_readTextsInParts_213 rfl ?_
    refine lv_iload_n hx hb d_Opn_readTextsInParts_216 rfl (lv_at hl 4 rfl) ?_
    refine lv_lload_n hx hb d_Opn_readTextsInParts_217 rfl (lv_at hl 0 rfl) ?_
    obtain ⟨hi, hw⟩ := hw
    refine w_last (o := (stC o 8)) hx hb hK hW hS (st_ty hNN fo.1 fo.2 rfl).1 (st_ty hNN fo.1 fo.2 rfl).2 hi d_Opn_readTextsInParts_218 (fun H locs hW hS => ?_)
    obtain ⟨x15, ex15⟩ : ∃ y : St, y = setL x13 (stC o 8) l3 r14 := ⟨_, rfl⟩
    rw [← ex15] at hW
    have hw := hw x15 ex15
    refine lv_aload_n hx hb d_Opn_readTextsInParts_219 rfl (lv_at hl 3 rfl) ?_
    refine lv_dup hx hb d_Opn_readTextsInParts_220 rfl ?_
    refine w_geti (k := 14) (t := 7) (C := R_Opn) (T := F_Opn) (N := 17) hx hb hT hown hK hW fo.1 fo.2 (by decide) in_Opn rfl rfl (by decide) rfl fr_Opn_14 w_3_30 d_Opn_readTextsInParts_221 ?_
    refine lv_iload hx hb d_Opn_readTextsInParts_224 (lv_at hl 1 rfl) ?_
    refine lv_iadd hx hb d_Opn_readTextsInParts_226 ?_
    refine w_puti (ty := .int) (k := 14) (t := 7) (C := R_Opn) (T := F_Opn) (N := 17) hx hb hT hown hK hW hS fo.1 fo.2 (by decide) in_Opn t_Opn t_Opn_ok n_Opn rfl rfl (by decide) rfl fr_Opn_14 w_3_30 (by decide +kernel) rfl rfl d_Opn_readTextsInParts_227 (fun H locs hW hS => ?_)
    obtain ⟨x16, ex16⟩ : ∃ y : St, y = setI x15 o 14 ((fI x15 o 14) + v6) := ⟨_, rfl⟩
    rw [← ex16] at hW
    have hw := hw x16 ex16
    refine lv_aload_n hx hb d_Opn_readTextsInParts_230 rfl (lv_at hl 3 rfl) ?_
    refine lv_dup hx hb d_Opn_readTextsInParts_231 rfl ?_
    refine w_geti (k := 15) (t := 7) (C := R_Opn) (T := F_Opn) (N := 17) hx hb hT hown hK hW fo.1 fo.2 (by decide) in_Opn rfl rfl (by decide) rfl fr_Opn_15 w_3_31 d_Opn_readTextsInParts_232 ?_
    refine lv_iload hx hb d_Opn_readTextsInParts_235 (lv_at hl 1 rfl) ?_
    refine lv_iadd hx hb d_Opn_readTextsInParts_237 ?_
    refine w_puti (ty := .int) (k := 15) (t := 7) (C := R_Opn) (T := F_Opn) (N := 17) hx hb hT hown hK hW hS fo.1 fo.2 (by decide) in_Opn t_Opn t_Opn_ok n_Opn rfl rfl (by decide) rfl fr_Opn_15 w_3_31 (by decide +kernel) rfl rfl d_Opn_readTextsInParts_238 (fun H locs hW hS => ?_)
    obtain ⟨x17, ex17⟩ : ∃ y : St, y = setI x16 o 15 ((fI x16 o 15) + v6) := ⟨_, rfl⟩
    rw [← ex17] at hW
    have hw := hw x17 ex17
    refine lv_aload_n hx hb d_Opn_readTextsInParts_241 rfl (lv_at hl 3 rfl) ?_
    refine w_getf (q := (stC o 2)) (k := 2) (t := 7) (C := R_Opn) (T := F_Opn) (N := 17) hx hb hT hown hK hW fo.1 fo.2 (by decide) in_Opn rfl rfl (by decide) rfl fr_Opn_2 w_3_17 d_Opn_readTextsInParts_242 rfl ?_
    refine lv_aload_n hx hb d_Opn_readTextsInParts_245 rfl (lv_at hl 3 rfl) ?_
    refine w_geti (k := 15) (t := 7) (C := R_Opn) (T := F_Opn) (N := 17) hx hb hT hown hK hW fo.1 fo.2 (by decide) in_Opn rfl rfl (by decide) rfl fr_Opn_15 w_3_31 d_Opn_readTextsInParts_246 ?_
    refine lv_sipush (v := 20000) hx hb d_Opn_readTextsInParts_249 (by decide) ?_
    refine lv_icmp_gt (tgt := 259) hx hb d_Opn_readTextsInParts_252 (by decide) (fun c18 => ?_) (fun c18 => ?_)
    · have hw := hw.1 c18
      refine lv_iconst (v := 0) hx hb d_Opn_readTextsInParts_259 (by decide) ?_
      exact t_Opn_readTextsInParts_260 hx hb hml hown hT hK hN hA hRc hRs hRf hRl hNN hE hret hrec36 o r14 l3 l4 l6 r4 v6 0 (stC o 2) x17 H locs ls fo (st_ty hNN fo.1 fo.2 rfl) hw hW hS (lv_sub hl [3, 0, 4, 5, 6, 2, 1] rfl)
    · have hw := hw.2 c18
      refine lv_iconst (v := 1) hx hb d_Opn_readTextsInParts_255 (by decide) ?_
      refine lv_goto (tgt := 260) hx hb d_Opn_readTextsInParts_256 (by decide) ?_
      exact t_Opn_readTextsInParts_260 hx hb hml hown hT hK hN hA hRc hRs hRf hRl hNN hE hret hrec36 o r14 l3 l4 l6 r4 v6 1 (stC o 2) x17 H locs ls fo (st_ty hNN fo.1 fo.2 rfl) hw hW hS (lv_sub hl [3, 0, 4, 5, 6, 2, 1] rfl)
  · have hw := hw.2 c5
    exact hret x3 H locs 132 ls d_Opn_readTextsInParts_132 hw hW hS
set_option maxRecDepth 100000 in
set_option maxHeartbeats 4000000 in
set_option maxRecDepth 100000 in
theorem t_Opn_readTextsInParts_105 {p : Program} {l : Launch} {e : Env} {R : Room} {s : State} {m : MethodId} {args : Array Value} {below : List Frame} {meth : Method} {c : Code} {cells slots : Nat} {Q : State → Prop} {dC : Nat → ClassId} {dI : Nat → Nat → Nat} {cI cB cJ cZ : ClassId} {A : Nat → Prop} {ad : Nat → Nat} {NN : Nat} {E : Heap} {tM tC : Nat} {kK kV : Nat → Nat} {post : St → Prop} {rec36 : Nat → Int64 → Int32 → St → Prop} (hx : p.tables.exec = Jvm.exec) (hb : c.code = b_Opn_readTextsInParts) (hml : c.maxLocals = 11) (hown : s.vm.findClass R_Opn = some m.cls) (hT : ∀ w ∈ TG, w.before args s = true) (hK : va_K (dC, dI) CL (TY cI cB cJ cZ) s) (hN : NW s) (hA : ∀ q : Nat, s.heap.size ≤ q → A q) (hRc : cells ≤ R.cells) (hRs : slots ≤ R.slots) (hRf : 4 ≤ R.frames) (hRl : 167 ≤ R.locals) (hNN : 152 ≤ NN) (hE : CE E tM tC kK kV A s) (hret : ∀ (x : St) (H : Heap) (locs : List Loc) (pc : Nat) (ls : Array Slot), decode b_Opn_readTextsInParts pc = .ok (.return_, 1) → post x → Wd dC dI cI cB cJ cZ ad stC kcC NN A x H → va_S A s.heap H locs → W p l e R s m args below meth c H locs cells slots Q (F0 m pc ls [])) (hrec36 : ∀ (o : Nat) (l1 : Int64) (l3 : Int32) (x : St) (H : Heap) (locs : List Loc) (ls : Array Slot), (o < NN ∧ kcC o = 7) → rec36 o l1 l3 x → Wd dC dI cI cB cJ cZ ad stC kcC NN A x H → va_S A s.heap H locs → lv_has ls 11 [(0, .ref (ad o)), (1, .long l1), (3, .int l3)] → W p l e R s m args below meth c H locs cells slots Q (F0 m 36 ls [])) : ∀ (o : Nat) (l1 : Int64) (l3 : Int32) (l4 : Int64) (l6 : Int64) (s0 : Nat) (x : St) (H : Heap) (locs : List Loc) (ls : Array Slot), (o < NN ∧ kcC o = 7) → (s0 < NN ∧ kcC s0 = 8) → j_Opn_readTextsInParts_105 post rec36 o l1 l3 l4 l6 s0 x → Wd dC dI cI cB cJ cZ ad stC kcC NN A x H → va_S A s.heap H locs → lv_has ls 11 [(0, .ref (ad o)), (1, .long l1), (3, .int l3), (4, .long l4), (6, .long l6)] → W p l e R s m args below meth c H locs cells slots Q (F0 m 105 ls [.ref (ad s0)]) := by
  intro o l1 l3 l4 l6 s0 x H locs ls fo fs0 hw hW hS hl
  unfold j_Opn_readTextsInParts_105 at hw
  refine lv_iconst (v := 0) hx hb d_Opn_readTextsInParts_105 (by decide) ?_
  exact t_Opn_readTextsInParts_106 hx hb hml hown hT hK hN hA hRc hRs hRf hRl hNN hE hret hrec36 o l1 l3 l4 l6 0 s0 x H locs ls fo fs0 hw hW hS (lv_sub hl [0, 1, 2, 3, 4] rfl)
set_option maxRecDepth 100000 in
set_option maxHeartbeats 4000000 in
set_option maxRecDepth 100000 in
theorem t_Opn_readTextsInParts_36 {p : Program} {l : Launch} {e : Env} {R : Room} {s : State} {m : MethodId} {args : Array Value} {below : List Frame} {meth : Method} {c : Code} {cells slots : Nat} {Q : State → Prop} {dC : Nat → ClassId} {dI : Nat → Nat → Nat} {cI cB cJ cZ : ClassId} {A : Nat → Prop} {ad : Nat → Nat} {NN : Nat} {E : Heap} {tM tC : Nat} {kK kV : Nat → Nat} {post : St → Prop} {rec36 : Nat → Int64 → Int32 → St → Prop} (hx : p.tables.exec = Jvm.exec) (hb : c.code = b_Opn_readTextsInParts) (hml : c.maxLocals = 11) (hown : s.vm.findClass R_Opn = some m.cls) (hT : ∀ w ∈ TG, w.before args s = true) (hK : va_K (dC, dI) CL (TY cI cB cJ cZ) s) (hN : NW s) (hA : ∀ q : Nat, s.heap.size ≤ q → A q) (hRc : cells ≤ R.cells) (hRs : slots ≤ R.slots) (hRf : 4 ≤ R.frames) (hRl : 167 ≤ R.locals) (hNN : 152 ≤ NN) (hE : CE E tM tC kK kV A s) (hret : ∀ (x : St) (H : Heap) (locs : List Loc) (pc : Nat) (ls : Array Slot), decode b_Opn_readTextsInParts pc = .ok (.return_, 1) → post x → Wd dC dI cI cB cJ cZ ad stC kcC NN A x H → va_S A s.heap H locs → W p l e R s m args below meth c H locs cells slots Q (F0 m pc ls [])) (hrec36 : ∀ (o : Nat) (l1 : Int64) (l3 : Int32) (x : St) (H : Heap) (locs : List Loc) (ls : Array Slot), (o < NN ∧ kcC o = 7) → rec36 o l1 l3 x → Wd dC dI cI cB cJ cZ ad stC kcC NN A x H → va_S A s.heap H locs → lv_has ls 11 [(0, .ref (ad o)), (1, .long l1), (3, .int l3)] → W p l e R s m args below meth c H locs cells slots Q (F0 m 36 ls [])) : ∀ (o : Nat) (l1 : Int64) (l3 : Int32) (x : St) (H : Heap) (locs : List Loc) (ls : Array Slot), (o < NN ∧ kcC o = 7) → j_Opn_readTextsInParts_36 post rec36 o l1 l3 x → Wd dC dI cI cB cJ cZ ad stC kcC NN A x H → va_S A s.heap H locs → lv_has ls 11 [(0, .ref (ad o)), (1, .long l1), (3, .int l3)] → W p l e R s m args below meth c H locs cells slots Q (F0 m 36 ls []) := by
  intro o l1 l3 x H locs ls fo hw hW hS hl
  unfold j_Opn_readTextsInParts_36 at hw
  refine lv_iload_n hx hb d_Opn_readTextsInParts_36 rfl (lv_at hl 2 rfl) ?_
  refine lv_aload_n hx hb d_Opn_readTextsInParts_37 rfl (lv_at hl 0 rfl) ?_
  refine w_geti (k := 9) (t := 7) (C := R_Opn) (T := F_Opn) (N := 17) hx hb hT hown hK hW fo.1 fo.2 (by decide) in_Opn rfl rfl (by decide) rfl fr_Opn_9 w_3_25 d_Opn_readTextsInParts_38 ?_
  refine lv_icmp_ge (tgt := 271) hx hb d_Opn_readTextsInParts_41 (by decide) (fun c19 => ?_) (fun c19 => ?_)
  · have hw := hw.1 c19
    exact hret x H locs 271 ls d_Opn_readTextsInParts_271 hw hW hS
  · have hw := hw.2 c19
    refine lv_aload_n hx hb d_Opn_readTextsInParts_44 rfl (lv_at hl 0 rfl) ?_
    refine w_getf (q := (stC o 2)) (k := 2) (t := 7) (C := R_Opn) (T := F_Opn) (N := 17) hx hb hT hown hK hW fo.1 fo.2 (by decide) in_Opn rfl rfl (by decide) rfl fr_Opn_2 w_3_17 d_Opn_readTextsInParts_45 rfl ?_
    refine w_geti (k := 3) (t := 8) (C := R_Src) (T := F_Src) (N := 5) hx hb hT hown hK hW (st_ty hNN fo.1 fo.2 rfl).1 (st_ty hNN fo.1 fo.2 rfl).2 (by decide) in_Src rfl rfl (by decide) rfl fr_Src_3 w_3_2 d_Opn_readTextsInParts_48 ?_
    refine lv_if_ne (tgt := 271) hx hb d_Opn_readTextsInParts_51 (by decide) (fun c20 => ?_) (fun c20 => ?_)
    · have hw := hw.1 c20
      exact hret x H locs 271 ls d_Opn_readTextsInParts_271 hw hW hS
    · have hw := hw.2 c20
      refine lv_aload_n hx hb d_Opn_readTextsInParts_54 rfl (lv_at hl 0 rfl) ?_
      refine w_getf (q := (stC o 8)) (k := 8) (t := 7) (C := R_Opn) (T := F_Opn) (N := 17) hx hb hT hown hK hW fo.1 fo.2 (by decide) in_Opn rfl rfl (by decide) rfl fr_Opn_8 w_3_24 d_Opn_readTextsInParts_55 rfl ?_
      refine lv_iload_n hx hb d_Opn_readTextsInParts_58 rfl (lv_at hl 2 rfl) ?_
      obtain ⟨hi, hw⟩ := hw
      refine w_lald (o := (stC o 8)) hx hb hK hW (st_ty hNN fo.1 fo.2 rfl).1 (st_ty hNN fo.1 fo.2 rfl).2 hi d_Opn_readTextsInParts_59 ?_
      refine lv_topl (fun v21 ev21 => ?_)
      have hw := hw v21 ev21
      refine lv_lstore (lv' := [(4, .long v21), (0, .ref (ad o)), (1, .long l1), (3, .int l3)]) hx hb d_Opn_readTextsInParts_60 hl (by decide) rfl (fun ls hl => ?_)
      refine lv_aload_n hx hb d_Opn_readTextsInParts_62 rfl (lv_at hl 1 rfl) ?_
      refine w_getf (q := (stC o 7)) (k := 7) (t := 7) (C := R_Opn) (T := F_Opn) (N := 17) hx hb hT hown hK hW fo.1 fo.2 (by decide) in_Opn rfl rfl (by decide) rfl fr_Opn_7 w_3_23 d_Opn_readTextsInParts_63 rfl ?_
      refine lv_iload_n hx hb d_Opn_readTextsInParts_66 rfl (lv_at hl 3 rfl) ?_
      obtain ⟨hi, hw⟩ := hw
      refine w_lald (o := (stC o 7)) hx hb hK hW (st_ty hNN fo.1 fo.2 rfl).1 (st_ty hNN fo.1 fo.2 rfl).2 hi d_Opn_readTextsInParts_67 ?_
      refine lv_topl (fun v22 ev22 => ?_)
      have hw := hw v22 ev22
      refine lv_lstore (lv' := [(6, .long v22), (4, .long v21), (0, .ref (ad o)), (1, .long l1), (3, .int l3)]) hx hb d_Opn_readTextsInParts_68 hl (by decide) rfl (fun ls hl => ?_)
      refine lv_aload_n hx hb d_Opn_readTextsInParts_70 rfl (lv_at hl 2 rfl) ?_
      refine w_getf (q := (stC o 2)) (k := 2) (t := 7) (C := R_Opn) (T := F_Opn) (N := 17) hx hb hT hown hK hW fo.1 fo.2 (by decide) in_Opn rfl rfl (by decide) rfl fr_Opn_2 w_3_17 d_Opn_readTextsInParts_71 rfl ?_
      refine lv_lload hx hb d_Opn_readTextsInParts_74 (lv_at hl 1 rfl) ?_
      refine lv_lload_n hx hb d_Opn_readTextsInParts_76 rfl (lv_at hl 3 rfl) ?_
      have hF := hW.free hS hA
      refine va_calli (va_runSN (As := [.long l1]) (rest := [.long v21, .ref (ad (stC o 2))]) ⟨hx, hb, hml, hown, hT⟩ (k_V_sizeOf l dC dI cI cB cJ cZ ad NN E tM tC kK kV hNN H.size l1 x  hw) ⟨va_cnB 1 hT (gwt_in w_5_161) rfl rfl rfl (hN _ wn_6_237 rfl) (hT _ w_1_1) (by decide +kernel) ⟨Nat.le_trans (Nat.le_of_ble_eq_true rfl) hRf, Nat.le_trans (Nat.le_of_ble_eq_true rfl) hRl⟩, hT _ w_5_160, trivial⟩ ⟨PVc.blind, PVc.at _ hW hK hN hE hS hF⟩ rfl rfl hl.1 rfl (lv_room (Nat.le_of_ble_eq_true rfl)) d_Opn_readTextsInParts_77 ⟨hRc, hRs⟩) hS (fun q _ h => hF q h) hF (fun r24 x23 t H locs ht hvm hw hB hz1 hk1 hS => ?_)
      have hW := Wd.back hB ht hF
      clear hB ht hF hz1 hk1 hvm
      refine lv_i2l hx hb d_Opn_readTextsInParts_80 rfl ?_
      have hF := hW.free hS hA
      refine va_calli (va_runSN (As := [.long v21, .long (r24 : Int32).toInt64]) (rest := [.ref (ad (stC o 2))]) ⟨hx, hb, hml, hown, hT⟩ (k_V_within l dC dI cI cB cJ cZ ad NN E tM tC kK kV hNN H.size v21 (r24 : Int32).toInt64 x23  hw) ⟨va_cnB 2 hT (gwt_in w_6_112) rfl rfl rfl (hN _ wn_6_110 rfl) (hT _ w_1_1) (by decide +kernel) ⟨Nat.le_trans (Nat.le_of_ble_eq_true rfl) hRf, Nat.le_trans (Nat.le_of_ble_eq_true rfl) hRl⟩, hT _ w_6_111, trivial⟩ ⟨PVc.blind, PVc.at _ hW hK hN hE hS hF⟩ rfl rfl hl.1 rfl (lv_room (Nat.le_of_ble_eq_true rfl)) d_Opn_readTextsInParts_81 ⟨hRc, hRs⟩) hS (fun q _ h => hF q h) hF (fun r26 x25 t H locs ht hvm hw hB hz1 hk1 hS => ?_)
      have hW := Wd.back hB ht hF
      clear hB ht hF hz1 hk1 hvm
      refine lv_if_eq (tgt := 105) hx hb d_Opn_readTextsInParts_84 (by decide) (fun c27 => ?_) (fun c27 => ?_)
      · have hw := hw.1 c27
        exact t_Opn_readTextsInParts_105 hx hb hml hown hT hK hN hA hRc hRs hRf hRl hNN hE hret hrec36 o l1 l3 v21 v22 (stC o 2) x25 H locs ls fo (st_ty hNN fo.1 fo.2 rfl) hw hW hS (lv_sub hl [2, 3, 4, 1, 0] rfl)
      · have hw := hw.2 c27
        refine lv_lload hx hb d_Opn_readTextsInParts_87 (lv_at hl 0 rfl) ?_
        refine lv_ldc2 hx hb hown (hT _ w_7_18) d_Opn_readTextsInParts_89 ?_
        refine lv_lload hx hb d_Opn_readTextsInParts_92 (lv_at hl 1 rfl) ?_
        refine lv_lsub hx hb d_Opn_readTextsInParts_94 ?_
        have hF := hW.free hS hA
        refine va_calli (va_runSN (As := [.long v22, .long (255 - v21)]) (rest := [.ref (ad (stC o 2))]) ⟨hx, hb, hml, hown, hT⟩ (k_V_within l dC dI cI cB cJ cZ ad NN E tM tC kK kV hNN H.size v22 (255 - v21) x25  hw) ⟨va_cnB 2 hT (gwt_in w_6_112) rfl rfl rfl (hN _ wn_6_110 rfl) (hT _ w_1_1) (by decide +kernel) ⟨Nat.le_trans (Nat.le_of_ble_eq_true rfl) hRf, Nat.le_trans (Nat.le_of_ble_eq_true rfl) hRl⟩, hT _ w_6_111, trivial⟩ ⟨PVc.blind, PVc.at _ hW hK hN hE hS hF⟩ rfl rfl hl.1 rfl (lv_room (Nat.le_of_ble_eq_true rfl)) d_Opn_readTextsInParts_95 ⟨hRc, hRs⟩) hS (fun q _ h => hF q h) hF (fun r29 x28 t H locs ht hvm hw hB hz1 hk1 hS => ?_)
        have hW := Wd.back hB ht hF
        clear hB ht hF hz1 hk1 hvm
        refine lv_if_eq (tgt := 105) hx hb d_Opn_readTextsInParts_98 (by decide) (fun c30 => ?_) (fun c30 => ?_)
        · have hw := hw.1 c30
          exact t_Opn_readTextsInParts_105 hx hb hml hown hT hK hN hA hRc hRs hRf hRl hNN hE hret hrec36 o l1 l3 v21 v22 (stC o 2) x28 H locs ls fo (st_ty hNN fo.1 fo.2 rfl) hw hW hS (lv_sub hl [2, 3, 4, 1, 0] rfl)
        · have hw := hw.2 c30
          refine lv_iconst (v := 1) hx hb d_Opn_readTextsInParts_101 (by decide) ?_
          refine lv_goto (tgt := 106) hx hb d_Opn_readTextsInParts_102 (by decide) ?_
          exact t_Opn_readTextsInParts_106 hx hb hml hown hT hK hN hA hRc hRs hRf hRl hNN hE hret hrec36 o l1 l3 v21 v22 1 (stC o 2) x28 H locs ls fo (st_ty hNN fo.1 fo.2 rfl) hw hW hS (lv_sub hl [2, 3, 4, 1, 0] rfl)
set_option maxHeartbeats 4000000 in
set_option maxRecDepth 100000 in
theorem tl_Opn_readTextsInParts_36 {p : Program} {l : Launch} {e : Env} {R : Room} {s : State} {m : MethodId} {args : Array Value} {below : List Frame} {meth : Method} {c : Code} {cells slots : Nat} {Q : State → Prop} {dC : Nat → ClassId} {dI : Nat → Nat → Nat} {cI cB cJ cZ : ClassId} {A : Nat → Prop} {ad : Nat → Nat} {NN : Nat} {E : Heap} {tM tC : Nat} {kK kV : Nat → Nat} {post : St → Prop} (hx : p.tables.exec = Jvm.exec) (hb : c.code = b_Opn_readTextsInParts) (hml : c.maxLocals = 11) (hown : s.vm.findClass R_Opn = some m.cls) (hT : ∀ w ∈ TG, w.before args s = true) (hK : va_K (dC, dI) CL (TY cI cB cJ cZ) s) (hN : NW s) (hA : ∀ q : Nat, s.heap.size ≤ q → A q) (hRc : cells ≤ R.cells) (hRs : slots ≤ R.slots) (hRf : 4 ≤ R.frames) (hRl : 167 ≤ R.locals) (hNN : 152 ≤ NN) (hE : CE E tM tC kK kV A s) (hret : ∀ (x : St) (H : Heap) (locs : List Loc) (pc : Nat) (ls : Array Slot), decode b_Opn_readTextsInParts pc = .ok (.return_, 1) → post x → Wd dC dI cI cB cJ cZ ad stC kcC NN A x H → va_S A s.heap H locs → W p l e R s m args below meth c H locs cells slots Q (F0 m pc ls []))  : ∀ n : Nat, ∀ (o : Nat) (l1 : Int64) (l3 : Int32) (x : St) (H : Heap) (locs : List Loc) (ls : Array Slot), (o < NN ∧ kcC o = 7) → wl_Opn_readTextsInParts_36 post n o l1 l3 x → Wd dC dI cI cB cJ cZ ad stC kcC NN A x H → va_S A s.heap H locs → lv_has ls 11 [(0, .ref (ad o)), (1, .long l1), (3, .int l3)] → W p l e R s m args below meth c H locs cells slots Q (F0 m 36 ls []) := by
  intro n
  induction n with
  | zero => intro o l1 l3 x H locs ls fo hw; exact hw.elim
  | succ n ih => intro o l1 l3 x H locs ls fo hw hW hS hl; exact t_Opn_readTextsInParts_36 hx hb hml hown hT hK hN hA hRc hRs hRf hRl hNN hE hret  ih o l1 l3 x H locs ls fo hw hW hS hl
set_option maxRecDepth 100000 in
set_option maxHeartbeats 4000000 in
set_option maxRecDepth 100000 in
theorem t_Opn_readTextsInParts_e {p : Program} {l : Launch} {e : Env} {R : Room} {s : State} {m : MethodId} {args : Array Value} {below : List Frame} {meth : Method} {c : Code} {cells slots : Nat} {Q : State → Prop} {dC : Nat → ClassId} {dI : Nat → Nat → Nat} {cI cB cJ cZ : ClassId} {A : Nat → Prop} {ad : Nat → Nat} {NN : Nat} {E : Heap} {tM tC : Nat} {kK kV : Nat → Nat} {post : St → Prop} (hx : p.tables.exec = Jvm.exec) (hb : c.code = b_Opn_readTextsInParts) (hml : c.maxLocals = 11) (hown : s.vm.findClass R_Opn = some m.cls) (hT : ∀ w ∈ TG, w.before args s = true) (hK : va_K (dC, dI) CL (TY cI cB cJ cZ) s) (hN : NW s) (hA : ∀ q : Nat, s.heap.size ≤ q → A q) (hRc : cells ≤ R.cells) (hRs : slots ≤ R.slots) (hRf : 4 ≤ R.frames) (hRl : 167 ≤ R.locals) (hNN : 152 ≤ NN) (hE : CE E tM tC kK kV A s) (hret : ∀ (x : St) (H : Heap) (locs : List Loc) (pc : Nat) (ls : Array Slot), decode b_Opn_readTextsInParts pc = .ok (.return_, 1) → post x → Wd dC dI cI cB cJ cZ ad stC kcC NN A x H → va_S A s.heap H locs → W p l e R s m args below meth c H locs cells slots Q (F0 m pc ls [])) : ∀ (o : Nat) (x : St) (H : Heap) (locs : List Loc) (ls : Array Slot), (o < NN ∧ kcC o = 7) → wp_Opn_readTextsInParts post o x → Wd dC dI cI cB cJ cZ ad stC kcC NN A x H → va_S A s.heap H locs → lv_has ls 11 [(0, .ref (ad o))] → W p l e R s m args below meth c H locs cells slots Q (F0 m 0 ls []) := by
  intro o x H locs ls fo hw hW hS hl
  unfold wp_Opn_readTextsInParts at hw
  refine lv_aload_n hx hb d_Opn_readTextsInParts_0 rfl (lv_at hl 0 rfl) ?_
  refine w_getf (q := (stC o 2)) (k := 2) (t := 7) (C := R_Opn) (T := F_Opn) (N := 17) hx hb hT hown hK hW fo.1 fo.2 (by decide) in_Opn rfl rfl (by decide) rfl fr_Opn_2 w_3_17 d_Opn_readTextsInParts_1 rfl ?_
  refine lv_aload_n hx hb d_Opn_readTextsInParts_4 rfl (lv_at hl 0 rfl) ?_
  refine w_getf (q := (stC o 8)) (k := 8) (t := 7) (C := R_Opn) (T := F_Opn) (N := 17) hx hb hT hown hK hW fo.1 fo.2 (by decide) in_Opn rfl rfl (by decide) rfl fr_Opn_8 w_3_24 d_Opn_readTextsInParts_5 rfl ?_
  refine lv_aload_n hx hb d_Opn_readTextsInParts_8 rfl (lv_at hl 0 rfl) ?_
  refine w_geti (k := 9) (t := 7) (C := R_Opn) (T := F_Opn) (N := 17) hx hb hT hown hK hW fo.1 fo.2 (by decide) in_Opn rfl rfl (by decide) rfl fr_Opn_9 w_3_25 d_Opn_readTextsInParts_9 ?_
  refine lv_iconst (v := 1) hx hb d_Opn_readTextsInParts_12 (by decide) ?_
  have hF := hW.free hS hA
  refine va_callv (va_runV (C := R_Src) (As := [.ref (ad (stC o 8)), .int (fI x o 9), .int 1]) (rest := []) ⟨hx, hb, hml, hown, hT⟩ (k_Src_readCode l dC dI cI cB cJ cZ ad NN E tM tC kK kV hNN H.size (stC o 2) (stC o 8) (fI x o 9) 1 x (st_ty hNN fo.1 fo.2 rfl) (st_ty hNN fo.1 fo.2 rfl) hw) ⟨callB_of 3 hT (gwt_in w_7_5) rfl rfl rfl (hT _ w_1_11) (hT _ w_7_2) (by decide +kernel) ⟨Nat.le_trans (Nat.le_of_ble_eq_true rfl) hRf, Nat.le_trans (Nat.le_of_ble_eq_true rfl) hRl⟩, hT _ w_7_3, hT _ w_7_4⟩ ⟨PVc.blind, va_recv hK hW.1 (ci := 8) (q0 := (stC o 2)) rfl (pic_obj (st_ty hNN fo.1 fo.2 rfl).1 (st_ty hNN fo.1 fo.2 rfl).2 (by decide)), PVc.at _ hW hK hN hE hS hF⟩ rfl rfl hl.1 rfl (lv_room (Nat.le_of_ble_eq_true rfl)) d_Opn_readTextsInParts_13 ⟨hRc, hRs⟩) hS (fun q _ h => hF q h) hF (fun  x31 t H locs ht hvm hw hB hz1 hk1 hS => ?_)
  have hW := Wd.back hB ht hF
  clear hB ht hF hz1 hk1 hvm
  refine lv_aload_n hx hb d_Opn_readTextsInParts_16 rfl (lv_at hl 0 rfl) ?_
  refine w_getf (q := (stC o 2)) (k := 2) (t := 7) (C := R_Opn) (T := F_Opn) (N := 17) hx hb hT hown hK hW fo.1 fo.2 (by decide) in_Opn rfl rfl (by decide) rfl fr_Opn_2 w_3_17 d_Opn_readTextsInParts_17 rfl ?_
  refine lv_aload_n hx hb d_Opn_readTextsInParts_20 rfl (lv_at hl 0 rfl) ?_
  refine w_getf (q := (stC o 7)) (k := 7) (t := 7) (C := R_Opn) (T := F_Opn) (N := 17) hx hb hT hown hK hW fo.1 fo.2 (by decide) in_Opn rfl rfl (by decide) rfl fr_Opn_7 w_3_23 d_Opn_readTextsInParts_21 rfl ?_
  refine lv_aload_n hx hb d_Opn_readTextsInParts_24 rfl (lv_at hl 0 rfl) ?_
  refine w_geti (k := 9) (t := 7) (C := R_Opn) (T := F_Opn) (N := 17) hx hb hT hown hK hW fo.1 fo.2 (by decide) in_Opn rfl rfl (by decide) rfl fr_Opn_9 w_3_25 d_Opn_readTextsInParts_25 ?_
  refine lv_iconst (v := 1) hx hb d_Opn_readTextsInParts_28 (by decide) ?_
  have hF := hW.free hS hA
  refine va_callv (va_runV (C := R_Src) (As := [.ref (ad (stC o 7)), .int (fI x31 o 9), .int 1]) (rest := []) ⟨hx, hb, hml, hown, hT⟩ (k_Src_readCode l dC dI cI cB cJ cZ ad NN E tM tC kK kV hNN H.size (stC o 2) (stC o 7) (fI x31 o 9) 1 x31 (st_ty hNN fo.1 fo.2 rfl) (st_ty hNN fo.1 fo.2 rfl) hw) ⟨callB_of 3 hT (gwt_in w_7_5) rfl rfl rfl (hT _ w_1_11) (hT _ w_7_2) (by decide +kernel) ⟨Nat.le_trans (Nat.le_of_ble_eq_true rfl) hRf, Nat.le_trans (Nat.le_of_ble_eq_true rfl) hRl⟩, hT _ w_7_3, hT _ w_7_4⟩ ⟨PVc.blind, va_recv hK hW.1 (ci := 8) (q0 := (stC o 2)) rfl (pic_obj (st_ty hNN fo.1 fo.2 rfl).1 (st_ty hNN fo.1 fo.2 rfl).2 (by decide)), PVc.at _ hW hK hN hE hS hF⟩ rfl rfl hl.1 rfl (lv_room (Nat.le_of_ble_eq_true rfl)) d_Opn_readTextsInParts_29 ⟨hRc, hRs⟩) hS (fun q _ h => hF q h) hF (fun  x32 t H locs ht hvm hw hB hz1 hk1 hS => ?_)
  have hW := Wd.back hB ht hF
  clear hB ht hF hz1 hk1 hvm
  refine lv_lconst (v := 0) hx hb d_Opn_readTextsInParts_32 (by decide) ?_
  refine lv_lstore_n (lv' := [(1, .long 0), (0, .ref (ad o))]) hx hb d_Opn_readTextsInParts_33 rfl hl (by decide) rfl (fun ls hl => ?_)
  refine lv_iconst (v := 0) hx hb d_Opn_readTextsInParts_34 (by decide) ?_
  refine lv_istore_n (lv' := [(3, .int 0), (1, .long 0), (0, .ref (ad o))]) hx hb d_Opn_readTextsInParts_35 rfl hl (by decide) rfl (fun ls hl => ?_)
  obtain ⟨n, hw⟩ := hw
  exact tl_Opn_readTextsInParts_36 hx hb hml hown hT hK hN hA hRc hRs hRf hRl hNN hE hret  n o 0 0 x32 H locs ls fo hw hW hS (lv_sub hl [2, 1, 0] rfl)
set_option maxHeartbeats 4000000 in
set_option maxRecDepth 100000 in
theorem k_Opn_readTextsInParts (l : Launch) (dC : Nat → ClassId) (dI : Nat → Nat → Nat) (cI cB cJ cZ : ClassId) (ad : Nat → Nat) (NN : Nat) (E : Heap) (tM tC : Nat) (kK kV : Nat → Nat) (hNN : 152 ≤ NN) (sz : Nat) (o : Nat) (x : St) (fo : o < NN ∧ kcC o = 7) {post : St → Prop} (hw : wp_Opn_readTextsInParts post o x) : Met l y_Opn_readTextsInParts (wsOf y_Opn_readTextsInParts b_Opn_readTextsInParts 11 (none)) ({ frames := 4, cells := 0, slots := 0, locals := 167 }) (va_Pc [.ref (ad o)] (PVc dC dI cI cB cJ cZ ad stC kcC NN E tM tC kK kV sz x)) (va_Qv (fun (y : St) => post y) (fun y t => Wd dC dI cI cB cJ cZ ad stC kcC NN (va_A (pic ad stC kcC NN cI cB cJ cZ x) sz) y t.heap) (va_A (pic ad stC kcC NN cI cB cJ cZ x) sz)) 0 0 (va_A (pic ad stC kcC NN cI cB cJ cZ x) sz) := by
  refine Met.ofW (cc := b_Opn_readTextsInParts) (maxL := 11) (ret := none) (by decide) rfl ?_
  intro p e s m args below meth c s₁ B hml hv
  obtain ⟨rfl, ⟨hsz, hW0, hK, hN⟩, hE⟩ := hv
  have hx := B.exec
  have hb := B.bytes
  have hr := B.returns
  have hts := atoms_spec B.pre
  have hT : ∀ w ∈ TG, w.before _ s = true := fun w h => hts w (List.mem_cons_of_mem _ h)
  have hown : s.vm.findClass R_Opn = some m.cls := findClass_of_methodNamed B.named
  have hlocks := B.notSynchronized
  subst hsz
  have hW : Wd dC dI cI cB cJ cZ ad stC kcC NN (va_A (pic ad stC kcC NN cI cB cJ cZ x) s.heap.size) x s.heap := ⟨hW0.1, hW0.2.1.self (sz := s.heap.size), hW0.2.2⟩
  generalize hAe : va_A (pic ad stC kcC NN cI cB cJ cZ x) s.heap.size = A at hW hE ⊢
  have hA : ∀ q : Nat, s.heap.size ≤ q → A q := fun q h => by rw [← hAe]; exact Or.inr h
  have hS : va_S A s.heap s.heap [] := va_S.rf
  have hl := lv_entry ([.ref (ad o)]) (n := 11) (Nat.le_of_ble_eq_true rfl)
  rw [lg_entry_eq]
  generalize (lg_sl ([.ref (ad o)]) ++ List.replicate (11 - (lg_sl ([.ref (ad o)])).length) Slot.unset).toArray = ls at hl ⊢
  have hl : lv_has ls 11 [(0, .ref (ad o))] := hl
  exact t_Opn_readTextsInParts_e hx hb hml hown hT hK hN hA (Nat.le_refl 0) (Nat.le_refl 0) (Nat.le_refl 4) (Nat.le_refl 167) hNN hE (fun x H locs pc ls hd hp hW hS => W.vret hx hb hr (fun t ht hM => ⟨⟨x, rfl, hp, Wd.back hW ht.symm (fun _ z => z)⟩, hS.F ht⟩) hS.2.2 hd hlocks)  o x _ _ ls fo hw hW hS hl
set_option maxRecDepth 100000 in
set_option maxHeartbeats 4000000 in
set_option maxRecDepth 100000 in
theorem t_Opn_readValues_139 {p : Program} {l : Launch} {e : Env} {R : Room} {s : State} {m : MethodId} {args : Array Value} {below : List Frame} {meth : Method} {c : Code} {cells slots : Nat} {Q : State → Prop} {dC : Nat → ClassId} {dI : Nat → Nat → Nat} {cI cB cJ cZ : ClassId} {A : Nat → Prop} {ad : Nat → Nat} {NN : Nat} {E : Heap} {tM tC : Nat} {kK kV : Nat → Nat} {post : St → Prop} (hx : p.tables.exec = Jvm.exec) (hb : c.code = b_Opn_readValues) (hml : c.maxLocals = 5) (hown : s.vm.findClass R_Opn = some m.cls) (hT : ∀ w ∈ TG, w.before args s = true) (hK : va_K (dC, dI) CL (TY cI cB cJ cZ) s) (hN : NW s) (hA : ∀ q : Nat, s.heap.size ≤ q → A q) (hRc : cells ≤ R.cells) (hRs : slots ≤ R.slots) (hRf : 5 ≤ R.frames) (hRl : 197 ≤ R.locals) (hNN : 152 ≤ NN) (hE : CE E tM tC kK kV A s) (hret : ∀ (x : St) (H : Heap) (locs : List Loc) (pc : Nat) (ls : Array Slot), decode b_Opn_readValues pc = .ok (.return_, 1) → post x → Wd dC dI cI cB cJ cZ ad stC kcC NN A x H → va_S A s.heap H locs → W p l e R s m args below meth c H locs cells slots Q (F0 m pc ls []))  : ∀ (o : Nat) (l1 : Int32) (l2 : Int32) (l3 : Int32) (l4 : Int32) (x : St) (H : Heap) (locs : List Loc) (ls : Array Slot), (o < NN ∧ kcC o = 7) → j_Opn_readValues_139 post o l1 l2 l3 l4 x → Wd dC dI cI cB cJ cZ ad stC kcC NN A x H → va_S A s.heap H locs → lv_has ls 5 [(0, .ref (ad o)), (1, .int l1), (2, .int l2), (3, .int l3), (4, .int l4)] → W p l e R s m args below meth c H locs cells slots Q (F0 m 139 ls []) := by
  intro o l1 l2 l3 l4 x H locs ls fo hw hW hS hl
  unfold j_Opn_readValues_139 at hw
  refine lv_goto (tgt := 158) hx hb d_Opn_readValues_139 (by decide) ?_
  exact hret x H locs 158 ls d_Opn_readValues_158 hw hW hS
set_option maxRecDepth 100000 in
set_option maxHeartbeats 4000000 in
set_option maxRecDepth 100000 in
theorem t_Opn_readValues_128 {p : Program} {l : Launch} {e : Env} {R : Room} {s : State} {m : MethodId} {args : Array Value} {below : List Frame} {meth : Method} {c : Code} {cells slots : Nat} {Q : State → Prop} {dC : Nat → ClassId} {dI : Nat → Nat → Nat} {cI cB cJ cZ : ClassId} {A : Nat → Prop} {ad : Nat → Nat} {NN : Nat} {E : Heap} {tM tC : Nat} {kK kV : Nat → Nat} {post : St → Prop} {rec85 : Nat → Int32 → Int32 → Int32 → Int32 → St → Prop} (hx : p.tables.exec = Jvm.exec) (hb : c.code = b_Opn_readValues) (hml : c.maxLocals = 5) (hown : s.vm.findClass R_Opn = some m.cls) (hT : ∀ w ∈ TG, w.before args s = true) (hK : va_K (dC, dI) CL (TY cI cB cJ cZ) s) (hN : NW s) (hA : ∀ q : Nat, s.heap.size ≤ q → A q) (hRc : cells ≤ R.cells) (hRs : slots ≤ R.slots) (hRf : 5 ≤ R.frames) (hRl : 197 ≤ R.locals) (hNN : 152 ≤ NN) (hE : CE E tM tC kK kV A s) (hret : ∀ (x : St) (H : Heap) (locs : List Loc) (pc : Nat) (ls : Array Slot), decode b_Opn_readValues pc = .ok (.return_, 1) → post x → Wd dC dI cI cB cJ cZ ad stC kcC NN A x H → va_S A s.heap H locs → W p l e R s m args below meth c H locs cells slots Q (F0 m pc ls [])) (hrec85 : ∀ (o : Nat) (l1 : Int32) (l2 : Int32) (l3 : Int32) (l4 : Int32) (x : St) (H : Heap) (locs : List Loc) (ls : Array Slot), (o < NN ∧ kcC o = 7) → rec85 o l1 l2 l3 l4 x → Wd dC dI cI cB cJ cZ ad stC kcC NN A x H → va_S A s.heap H locs → lv_has ls 5 [(0, .ref (ad o)), (1, .int l1), (2, .int l2), (3, .int l3), (4, .int l4)] → W p l e R s m args below meth c H locs cells slots Q (F0 m 85 ls [])) : ∀ (o : Nat) (l1 : Int32) (l2 : Int32) (l3 : Int32) (l4 : Int32) (s0 : Int32) (s1 : Nat) (x : St) (H : Heap) (locs : List Loc) (ls : Array Slot), (o < NN ∧ kcC o = 7) → (s1 < NN ∧ kcC s1 = 8) → j_Opn_readValues_128 post rec85 o l1 l2 l3 l4 s0 s1 x → Wd dC dI cI cB cJ cZ ad stC kcC NN A x H → va_S A s.heap H locs → lv_has ls 5 [(0, .ref (ad o)), (1, .int l1), (2, .int l2), (3, .int l3), (4, .int l4)] → W p l e R s m args below meth c H locs cells slots Q (F0 m 128 ls [.int s0, .ref (ad s1)]) := by
  intro o l1 l2 l3 l4 s0 s1 x H locs ls fo fs1 hw hW hS hl
  unfold j_Opn_readValues_128 at hw
  refine lv_bipush (v := 7) hx hb d_Opn_readValues_128 (by decide) ?_
  have hF := hW.free hS hA
  refine va_callv (va_runV (C := R_Src) (As := [.int s0, .int 7]) (rest := []) ⟨hx, hb, hml, hown, hT⟩ (k_Src_check l dC dI cI cB cJ cZ ad NN E tM tC kK kV hNN H.size s1 s0 7 x fs1 hw) ⟨callB_of 2 hT (gwt_in w_6_116) rfl rfl rfl (hT _ w_1_11) (hT _ w_6_113) (by decide +kernel) ⟨Nat.le_trans (Nat.le_of_ble_eq_true rfl) hRf, Nat.le_trans (Nat.le_of_ble_eq_true rfl) hRl⟩, hT _ w_6_114, hT _ w_6_115⟩ ⟨PVc.blind, va_recv hK hW.1 (ci := 8) (q0 := s1) rfl (pic_obj fs1.1 fs1.2 (by decide)), PVc.at _ hW hK hN hE hS hF⟩ rfl rfl hl.1 rfl (lv_room (Nat.le_of_ble_eq_true rfl)) d_Opn_readValues_130 ⟨hRc, hRs⟩) hS (fun q _ h => hF q h) hF (fun  x1 t H locs ht hvm hw hB hz1 hk1 hS => ?_)
  have hW := Wd.back hB ht hF
  clear hB ht hF hz1 hk1 hvm
  refine lv_iinc (v := (l4 + 1)) (lv' := [(4, .int (l4 + 1)), (0, .ref (ad o)), (1, .int l1), (2, .int l2), (3, .int l3)]) hx hb d_Opn_readValues_133 hl (k := 4) rfl rfl (by decide) rfl (fun ls hl => ?_)
  refine lv_goto (tgt := 85) hx hb d_Opn_readValues_136 (by decide) ?_
  exact hrec85 o l1 l2 l3 (l4 + 1) x1 H locs ls fo hw hW hS (lv_sub hl [1, 2, 3, 4, 0] rfl)
set_option maxRecDepth 100000 in
set_option maxHeartbeats 4000000 in
set_option maxRecDepth 100000 in
theorem t_Opn_readValues_85 {p : Program} {l : Launch} {e : Env} {R : Room} {s : State} {m : MethodId} {args : Array Value} {below : List Frame} {meth : Method} {c : Code} {cells slots : Nat} {Q : State → Prop} {dC : Nat → ClassId} {dI : Nat → Nat → Nat} {cI cB cJ cZ : ClassId} {A : Nat → Prop} {ad : Nat → Nat} {NN : Nat} {E : Heap} {tM tC : Nat} {kK kV : Nat → Nat} {post : St → Prop} {rec85 : Nat → Int32 → Int32 → Int32 → Int32 → St → Prop} (hx : p.tables.exec = Jvm.exec) (hb : c.code = b_Opn_readValues) (hml : c.maxLocals = 5) (hown : s.vm.findClass R_Opn = some m.cls) (hT : ∀ w ∈ TG, w.before args s = true) (hK : va_K (dC, dI) CL (TY cI cB cJ cZ) s) (hN : NW s) (hA : ∀ q : Nat, s.heap.size ≤ q → A q) (hRc : cells ≤ R.cells) (hRs : slots ≤ R.slots) (hRf : 5 ≤ R.frames) (hRl : 197 ≤ R.locals) (hNN : 152 ≤ NN) (hE : CE E tM tC kK kV A s) (hret : ∀ (x : St) (H : Heap) (locs : List Loc) (pc : Nat) (ls : Array Slot), decode b_Opn_readValues pc = .ok (.return_, 1) → post x → Wd dC dI cI cB cJ cZ ad stC kcC NN A x H → va_S A s.heap H locs → W p l e R s m args below meth c H locs cells slots Q (F0 m pc ls [])) (hrec85 : ∀ (o : Nat) (l1 : Int32) (l2 : Int32) (l3 : Int32) (l4 : Int32) (x : St) (H : Heap) (locs : List Loc) (ls : Array Slot), (o < NN ∧ kcC o = 7) → rec85 o l1 l2 l3 l4 x → Wd dC dI cI cB cJ cZ ad stC kcC NN A x H → va_S A s.heap H locs → lv_has ls 5 [(0, .ref (ad o)), (1, .int l1), (2, .int l2), (3, .int l3), (4, .int l4)] → W p l e R s m args below meth c H locs cells slots Q (F0 m 85 ls [])) : ∀ (o : Nat) (l1 : Int32) (l2 : Int32) (l3 : Int32) (l4 : Int32) (x : St) (H : Heap) (locs : List Loc) (ls : Array Slot), (o < NN ∧ kcC o = 7) → j_Opn_readValues_85 post rec85 o l1 l2 l3 l4 x → Wd dC dI cI cB cJ cZ ad stC kcC NN A x H → va_S A s.heap H locs → lv_has ls 5 [(0, .ref (ad o)), (1, .int l1), (2, .int l2), (3, .int l3), (4, .int l4)] → W p l e R s m args below meth c H locs cells slots Q (F0 m 85 ls []) := by
  intro o l1 l2 l3 l4 x H locs ls fo hw hW hS hl
  unfold j_Opn_readValues_85 at hw
  refine lv_iload hx hb d_Opn_readValues_85 (lv_at hl 4 rfl) ?_
  refine lv_aload_n hx hb d_Opn_readValues_87 rfl (lv_at hl 0 rfl) ?_
  refine w_geti (k := 9) (t := 7) (C := R_Opn) (T := F_Opn) (N := 17) hx hb hT hown hK hW fo.1 fo.2 (by decide) in_Opn rfl rfl (by decide) rfl fr_Opn_9 w_3_25 d_Opn_readValues_88 ?_
  refine lv_icmp_ge (tgt := 139) hx hb d_Opn_readValues_91 (by decide) (fun c2 => ?_) (fun c2 => ?_)
  · have hw := hw.1 c2
    exact t_Opn_readValues_139 hx hb hml hown hT hK hN hA hRc hRs hRf hRl hNN hE hret  o l1 l2 l3 l4 x H locs ls fo hw hW hS (lv_sub hl [0, 1, 2, 3, 4] rfl)
  · have hw := hw.2 c2
    refine lv_iload_n hx hb d_Opn_readValues_94 rfl (lv_at hl 1 rfl) ?_
    refine lv_iconst (v := 1) hx hb d_Opn_readValues_95 (by decide) ?_
    refine lv_icmp_ne (tgt := 139) hx hb d_Opn_readValues_96 (by decide) (fun c3 => ?_) (fun c3 => ?_)
    · have hw := hw.1 c3
      exact t_Opn_readValues_139 hx hb hml hown hT hK hN hA hRc hRs hRf hRl hNN hE hret  o l1 l2 l3 l4 x H locs ls fo hw hW hS (lv_sub hl [0, 1, 2, 3, 4] rfl)
    · have hw := hw.2 c3
      refine lv_aload_n hx hb d_Opn_readValues_99 rfl (lv_at hl 0 rfl) ?_
      refine w_getf (q := (stC o 2)) (k := 2) (t := 7) (C := R_Opn) (T := F_Opn) (N := 17) hx hb hT hown hK hW fo.1 fo.2 (by decide) in_Opn rfl rfl (by decide) rfl fr_Opn_2 w_3_17 d_Opn_readValues_100 rfl ?_
      refine lv_aload_n hx hb d_Opn_readValues_103 rfl (lv_at hl 0 rfl) ?_
      refine w_getf (q := (stC o 8)) (k := 8) (t := 7) (C := R_Opn) (T := F_Opn) (N := 17) hx hb hT hown hK hW fo.1 fo.2 (by decide) in_Opn rfl rfl (by decide) rfl fr_Opn_8 w_3_24 d_Opn_readValues_104 rfl ?_
      refine lv_iload hx hb d_Opn_readValues_107 (lv_at hl 4 rfl) ?_
      obtain ⟨hi, hw⟩ := hw
      refine w_lald (o := (stC o 8)) hx hb hK hW (st_ty hNN fo.1 fo.2 rfl).1 (st_ty hNN fo.1 fo.2 rfl).2 hi d_Opn_readValues_109 ?_
      refine lv_aload_n hx hb d_Opn_readValues_110 rfl (lv_at hl 0 rfl) ?_
      refine w_getf (q := (stC o 8)) (k := 8) (t := 7) (C := R_Opn) (T := F_Opn) (N := 17) hx hb hT hown hK hW fo.1 fo.2 (by decide) in_Opn rfl rfl (by decide) rfl fr_Opn_8 w_3_24 d_Opn_readValues_111 rfl ?_
      refine lv_iload hx hb d_Opn_readValues_114 (lv_at hl 4 rfl) ?_
      obtain ⟨hi, hw⟩ := hw
      refine w_lald (o := (stC o 8)) hx hb hK hW (st_ty hNN fo.1 fo.2 rfl).1 (st_ty hNN fo.1 fo.2 rfl).2 hi d_Opn_readValues_116 ?_
      refine lv_l2i hx hb d_Opn_readValues_117 rfl ?_
      refine lv_i2l hx hb d_Opn_readValues_118 rfl ?_
      refine W.lcmp hx hb d_Opn_readValues_119 ?_
      refine lv_if_ne (tgt := 127) hx hb d_Opn_readValues_120 (by decide) (fun c4 => ?_) (fun c4 => ?_)
      · have hw := hw.1 c4
        refine lv_iconst (v := 0) hx hb d_Opn_readValues_127 (by decide) ?_
        exact t_Opn_readValues_128 hx hb hml hown hT hK hN hA hRc hRs hRf hRl hNN hE hret hrec85 o l1 l2 l3 l4 0 (stC o 2) x H locs ls fo (st_ty hNN fo.1 fo.2 rfl) hw hW hS (lv_sub hl [0, 1, 2, 3, 4] rfl)
      · have hw := hw.2 c4
        refine lv_iconst (v := 1) hx hb d_Opn_readValues_123 (by decide) ?_
        refine lv_goto (tgt := 128) hx hb d_Opn_readValues_124 (by decide) ?_
        exact t_Opn_readValues_128 hx hb hml hown hT hK hN hA hRc hRs hRf hRl hNN hE hret hrec85 o l1 l2 l3 l4 1 (stC o 2) x H locs ls fo (st_ty hNN fo.1 fo.2 rfl) hw hW hS (lv_sub hl [0, 1, 2, 3, 4] rfl)
set_option maxHeartbeats 4000000 in
set_option maxRecDepth 100000 in
theorem tl_Opn_readValues_85 {p : Program} {l : Launch} {e : Env} {R : Room} {s : State} {m : MethodId} {args : Array Value} {below : List Frame} {meth : Method} {c : Code} {cells slots : Nat} {Q : State → Prop} {dC : Nat → ClassId} {dI : Nat → Nat → Nat} {cI cB cJ cZ : ClassId} {A : Nat → Prop} {ad : Nat → Nat} {NN : Nat} {E : Heap} {tM tC : Nat} {kK kV : Nat → Nat} {post : St → Prop} (hx : p.tables.exec = Jvm.exec) (hb : c.code = b_Opn_readValues) (hml : c.maxLocals = 5) (hown : s.vm.findClass R_Opn = some m.cls) (hT : ∀ w ∈ TG, w.before args s = true) (hK : va_K (dC, dI) CL (TY cI cB cJ cZ) s) (hN : NW s) (hA : ∀ q : Nat, s.heap.size ≤ q → A q) (hRc : cells ≤ R.cells) (hRs : slots ≤ R.slots) (hRf : 5 ≤ R.frames) (hRl : 197 ≤ R.locals) (hNN : 152 ≤ NN) (hE : CE E tM tC kK kV A s) (hret : ∀ (x : St) (H : Heap) (locs : List Loc) (pc : Nat) (ls : Array Slot), decode b_Opn_readValues pc = .ok (.return_, 1) → post x → Wd dC dI cI cB cJ cZ ad stC kcC NN A x H → va_S A s.heap H locs → W p l e R s m args below meth c H locs cells slots Q (F0 m pc ls []))  : ∀ n : Nat, ∀ (o : Nat) (l1 : Int32) (l2 : Int32) (l3 : Int32) (l4 : Int32) (x : St) (H : Heap) (locs : List Loc) (ls : Array Slot), (o < NN ∧ kcC o = 7) → wl_Opn_readValues_85 post n o l1 l2 l3 l4 x → Wd dC dI cI cB cJ cZ ad stC kcC NN A x H → va_S A s.heap H locs → lv_has ls 5 [(0, .ref (ad o)), (1, .int l1), (2, .int l2), (3, .int l3), (4, .int l4)] → W p l e R s m args below meth c H locs cells slots Q (F0 m 85 ls []) := by
  intro n
  induction n with
  | zero => intro o l1 l2 l3 l4 x H locs ls fo hw; exact hw.elim
  | succ n ih => intro o l1 l2 l3 l4 x H locs ls fo hw hW hS hl; exact t_Opn_readValues_85 hx hb hml hown hT hK hN hA hRc hRs hRf hRl hNN hE hret  ih o l1 l2 l3 l4 x H locs ls fo hw hW hS hl
set_option maxRecDepth 100000 in
set_option maxHeartbeats 4000000 in
set_option maxRecDepth 100000 in
theorem t_Opn_readValues_23 {p : Program} {l : Launch} {e : Env} {R : Room} {s : State} {m : MethodId} {args : Array Value} {below : List Frame} {meth : Method} {c : Code} {cells slots : Nat} {Q : State → Prop} {dC : Nat → ClassId} {dI : Nat → Nat → Nat} {cI cB cJ cZ : ClassId} {A : Nat → Prop} {ad : Nat → Nat} {NN : Nat} {E : Heap} {tM tC : Nat} {kK kV : Nat → Nat} {post : St → Prop} (hx : p.tables.exec = Jvm.exec) (hb : c.code = b_Opn_readValues) (hml : c.maxLocals = 5) (hown : s.vm.findClass R_Opn = some m.cls) (hT : ∀ w ∈ TG, w.before args s = true) (hK : va_K (dC, dI) CL (TY cI cB cJ cZ) s) (hN : NW s) (hA : ∀ q : Nat, s.heap.size ≤ q → A q) (hRc : cells ≤ R.cells) (hRs : slots ≤ R.slots) (hRf : 5 ≤ R.frames) (hRl : 197 ≤ R.locals) (hNN : 152 ≤ NN) (hE : CE E tM tC kK kV A s) (hret : ∀ (x : St) (H : Heap) (locs : List Loc) (pc : Nat) (ls : Array Slot), decode b_Opn_readValues pc = .ok (.return_, 1) → post x → Wd dC dI cI cB cJ cZ ad stC kcC NN A x H → va_S A s.heap H locs → W p l e R s m args below meth c H locs cells slots Q (F0 m pc ls []))  : ∀ (o : Nat) (l1 : Int32) (l2 : Int32) (l3 : Int32) (s0 : Int32) (s1 : Int32) (x : St) (H : Heap) (locs : List Loc) (ls : Array Slot), (o < NN ∧ kcC o = 7) → j_Opn_readValues_23 post o l1 l2 l3 s0 s1 x → Wd dC dI cI cB cJ cZ ad stC kcC NN A x H → va_S A s.heap H locs → lv_has ls 5 [(0, .ref (ad o)), (1, .int l1), (2, .int l2), (3, .int l3)] → W p l e R s m args below meth c H locs cells slots Q (F0 m 23 ls [.int s0, .int s1]) := by
  intro o l1 l2 l3 s0 s1 x H locs ls fo hw hW hS hl
  unfold j_Opn_readValues_23 at hw
  refine lv_icmp_ne (tgt := 35) hx hb d_Opn_readValues_23 (by decide) (fun c5 => ?_) (fun c5 => ?_)
  · have hw := hw.1 c5
    refine lv_iload_n hx hb d_Opn_readValues_35 rfl (lv_at hl 2 rfl) ?_
    refine lv_if_ne (tgt := 61) hx hb d_Opn_readValues_36 (by decide) (fun c6 => ?_) (fun c6 => ?_)
    · have hw := hw.1 c6
      refine lv_iload_n hx hb d_Opn_readValues_61 rfl (lv_at hl 1 rfl) ?_
      refine lv_iconst (v := 3) hx hb d_Opn_readValues_62 (by decide) ?_
      refine lv_icmp_eq (tgt := 142) hx hb d_Opn_readValues_63 (by decide) (fun c7 => ?_) (fun c7 => ?_)
      · have hw := hw.1 c7
        refine lv_iload_n hx hb d_Opn_readValues_142 rfl (lv_at hl 2 rfl) ?_
        refine lv_iconst (v := 1) hx hb d_Opn_readValues_143 (by decide) ?_
        refine lv_icmp_ne (tgt := 154) hx hb d_Opn_readValues_144 (by decide) (fun c8 => ?_) (fun c8 => ?_)
        · have hw := hw.1 c8
          refine lv_aload_n hx hb d_Opn_readValues_154 rfl (lv_at hl 0 rfl) ?_
          have hF := hW.free hS hA
          refine va_callv (va_runV (C := R_Opn) (As := []) (rest := []) ⟨hx, hb, hml, hown, hT⟩ (k_Opn_readTextsInParts l dC dI cI cB cJ cZ ad NN E tM tC kK kV hNN H.size o x fo hw) ⟨callB_of 0 hT (gwt_in w_7_22) rfl rfl rfl (hT _ w_1_10) (hT _ w_7_19) (by decide +kernel) ⟨Nat.le_trans (Nat.le_of_ble_eq_true rfl) hRf, Nat.le_trans (Nat.le_of_ble_eq_true rfl) hRl⟩, hT _ w_7_21, hT _ ws_54⟩ ⟨PVc.blind, va_recv hK hW.1 (ci := 7) (q0 := o) rfl (pic_obj fo.1 fo.2 (by decide)), PVc.at _ hW hK hN hE hS hF⟩ rfl rfl hl.1 rfl (lv_room (Nat.le_of_ble_eq_true rfl)) d_Opn_readValues_155 ⟨hRc, hRs⟩) hS (fun q _ h => hF q h) hF (fun  x9 t H locs ht hvm hw hB hz1 hk1 hS => ?_)
          have hW := Wd.back hB ht hF
          clear hB ht hF hz1 hk1 hvm
          exact hret x9 H locs 158 ls d_Opn_readValues_158 hw hW hS
        · have hw := hw.2 c8
          refine lv_aload_n hx hb d_Opn_readValues_147 rfl (lv_at hl 0 rfl) ?_
          have hF := hW.free hS hA
          refine va_callv (va_runV (C := R_Opn) (As := []) (rest := []) ⟨hx, hb, hml, hown, hT⟩ (k_Opn_readTexts l dC dI cI cB cJ cZ ad NN E tM tC kK kV hNN H.size o x fo hw) ⟨callB_of 0 hT (gwt_in w_7_17) rfl rfl rfl (hT _ w_1_10) (hT _ w_7_14) (by decide +kernel) ⟨Nat.le_trans (Nat.le_of_ble_eq_true rfl) hRf, Nat.le_trans (Nat.le_of_ble_eq_true rfl) hRl⟩, hT _ w_7_16, hT _ ws_53⟩ ⟨PVc.blind, va_recv hK hW.1 (ci := 7) (q0 := o) rfl (pic_obj fo.1 fo.2 (by decide)), PVc.at _ hW hK hN hE hS hF⟩ rfl rfl hl.1 rfl (lv_room (Nat.le_of_ble_eq_true rfl)) d_Opn_readValues_148 ⟨hRc, hRs⟩) hS (fun q _ h => hF q h) hF (fun  x10 t H locs ht hvm hw hB hz1 hk1 hS => ?_)
          have hW := Wd.back hB ht hF
          clear hB ht hF hz1 hk1 hvm
          refine lv_goto (tgt := 158) hx hb d_Opn_readValues_151 (by decide) ?_
          exact hret x10 H locs 158 ls d_Opn_readValues_158 hw hW hS
      · have hw := hw.2 c7
        refine lv_aload_n hx hb d_Opn_readValues_66 rfl (lv_at hl 0 rfl) ?_
        refine w_getf (q := (stC o 2)) (k := 2) (t := 7) (C := R_Opn) (T := F_Opn) (N := 17) hx hb hT hown hK hW fo.1 fo.2 (by decide) in_Opn rfl rfl (by decide) rfl fr_Opn_2 w_3_17 d_Opn_readValues_67 rfl ?_
        refine lv_aload_n hx hb d_Opn_readValues_70 rfl (lv_at hl 0 rfl) ?_
        refine w_getf (q := (stC o 8)) (k := 8) (t := 7) (C := R_Opn) (T := F_Opn) (N := 17) hx hb hT hown hK hW fo.1 fo.2 (by decide) in_Opn rfl rfl (by decide) rfl fr_Opn_8 w_3_24 d_Opn_readValues_71 rfl ?_
        refine lv_aload_n hx hb d_Opn_readValues_74 rfl (lv_at hl 0 rfl) ?_
        refine w_geti (k := 9) (t := 7) (C := R_Opn) (T := F_Opn) (N := 17) hx hb hT hown hK hW fo.1 fo.2 (by decide) in_Opn rfl rfl (by decide) rfl fr_Opn_9 w_3_25 d_Opn_readValues_75 ?_
        refine lv_iconst (v := 0) hx hb d_Opn_readValues_78 (by decide) ?_
        have hF := hW.free hS hA
        refine va_callv (va_runV (C := R_Src) (As := [.ref (ad (stC o 8)), .int (fI x o 9), .int 0]) (rest := []) ⟨hx, hb, hml, hown, hT⟩ (k_Src_readCode l dC dI cI cB cJ cZ ad NN E tM tC kK kV hNN H.size (stC o 2) (stC o 8) (fI x o 9) 0 x (st_ty hNN fo.1 fo.2 rfl) (st_ty hNN fo.1 fo.2 rfl) hw) ⟨callB_of 3 hT (gwt_in w_7_5) rfl rfl rfl (hT _ w_1_11) (hT _ w_7_2) (by decide +kernel) ⟨Nat.le_trans (Nat.le_of_ble_eq_true rfl) hRf, Nat.le_trans (Nat.le_of_ble_eq_true rfl) hRl⟩, hT _ w_7_3, hT _ w_7_4⟩ ⟨PVc.blind, va_recv hK hW.1 (ci := 8) (q0 := (stC o 2)) rfl (pic_obj (st_ty hNN fo.1 fo.2 rfl).1 (st_ty hNN fo.1 fo.2 rfl).2 (by decide)), PVc.at _ hW hK hN hE hS hF⟩ rfl rfl hl.1 rfl (lv_room (Nat.le_of_ble_eq_true rfl)) d_Opn_readValues_79 ⟨hRc, hRs⟩) hS (fun q _ h => hF q h) hF (fun  x11 t H locs ht hvm hw hB hz1 hk1 hS => ?_)
        have hW := Wd.back hB ht hF
        clear hB ht hF hz1 hk1 hvm
        refine lv_iconst (v := 0) hx hb d_Opn_readValues_82 (by decide) ?_
        refine lv_istore (lv' := [(4, .int 0), (0, .ref (ad o)), (1, .int l1), (2, .int l2), (3, .int l3)]) hx hb d_Opn_readValues_83 hl (by decide) rfl (fun ls hl => ?_)
        obtain ⟨n, hw⟩ := hw
        exact tl_Opn_readValues_85 hx hb hml hown hT hK hN hA hRc hRs hRf hRl hNN hE hret  n o l1 l2 l3 0 x11 H locs ls fo hw hW hS (lv_sub hl [1, 2, 3, 4, 0] rfl)
    · have hw := hw.2 c6
      refine lv_aload_n hx hb d_Opn_readValues_39 rfl (lv_at hl 0 rfl) ?_
      refine lv_iload_n hx hb d_Opn_readValues_40 rfl (lv_at hl 1 rfl) ?_
      refine lv_aload_n hx hb d_Opn_readValues_41 rfl (lv_at hl 0 rfl) ?_
      refine w_getf (q := (stC o 8)) (k := 8) (t := 7) (C := R_Opn) (T := F_Opn) (N := 17) hx hb hT hown hK hW fo.1 fo.2 (by decide) in_Opn rfl rfl (by decide) rfl fr_Opn_8 w_3_24 d_Opn_readValues_42 rfl ?_
      refine lv_iconst (v := 0) hx hb d_Opn_readValues_45 (by decide) ?_
      refine lv_aload_n hx hb d_Opn_readValues_46 rfl (lv_at hl 0 rfl) ?_
      refine w_geti (k := 9) (t := 7) (C := R_Opn) (T := F_Opn) (N := 17) hx hb hT hown hK hW fo.1 fo.2 (by decide) in_Opn rfl rfl (by decide) rfl fr_Opn_9 w_3_25 d_Opn_readValues_47 ?_
      have hF := hW.free hS hA
      refine va_callv (va_runV (C := R_Opn) (As := [.int l1, .ref (ad (stC o 8)), .int 0, .int (fI x o 9)]) (rest := []) ⟨hx, hb, hml, hown, hT⟩ (k_Opn_readPlain l dC dI cI cB cJ cZ ad NN E tM tC kK kV hNN H.size o l1 (stC o 8) 0 (fI x o 9) x fo (st_ty hNN fo.1 fo.2 rfl) hw) ⟨callB_of 4 hT (gwt_in w_6_235) rfl rfl rfl (hT _ w_1_10) (hT _ w_6_232) (by decide +kernel) ⟨Nat.le_trans (Nat.le_of_ble_eq_true rfl) hRf, Nat.le_trans (Nat.le_of_ble_eq_true rfl) hRl⟩, hT _ w_6_234, hT _ ws_50⟩ ⟨PVc.blind, va_recv hK hW.1 (ci := 7) (q0 := o) rfl (pic_obj fo.1 fo.2 (by decide)), PVc.at _ hW hK hN hE hS hF⟩ rfl rfl hl.1 rfl (lv_room (Nat.le_of_ble_eq_true rfl)) d_Opn_readValues_50 ⟨hRc, hRs⟩) hS (fun q _ h => hF q h) hF (fun  x12 t H locs ht hvm hw hB hz1 hk1 hS => ?_)
      have hW := Wd.back hB ht hF
      clear hB ht hF hz1 hk1 hvm
      refine lv_aload_n hx hb d_Opn_readValues_53 rfl (lv_at hl 0 rfl) ?_
      refine lv_iload_n hx hb d_Opn_readValues_54 rfl (lv_at hl 1 rfl) ?_
      have hF := hW.free hS hA
      refine va_callv (va_runV (C := R_Opn) (As := [.int l1]) (rest := []) ⟨hx, hb, hml, hown, hT⟩ (k_Opn_countTexts l dC dI cI cB cJ cZ ad NN E tM tC kK kV hNN H.size o l1 x12 fo hw) ⟨callB_of 1 hT (gwt_in w_7_1) rfl rfl rfl (hT _ w_1_10) (hT _ w_6_238) (by decide +kernel) ⟨Nat.le_trans (Nat.le_of_ble_eq_true rfl) hRf, Nat.le_trans (Nat.le_of_ble_eq_true rfl) hRl⟩, hT _ w_7_0, hT _ ws_51⟩ ⟨PVc.blind, va_recv hK hW.1 (ci := 7) (q0 := o) rfl (pic_obj fo.1 fo.2 (by decide)), PVc.at _ hW hK hN hE hS hF⟩ rfl rfl hl.1 rfl (lv_room (Nat.le_of_ble_eq_true rfl)) d_Opn_readValues_55 ⟨hRc, hRs⟩) hS (fun q _ h => hF q h) hF (fun  x13 t H locs ht hvm hw hB hz1 hk1 hS => ?_)
      have hW := Wd.back hB ht hF
      clear hB ht hF hz1 hk1 hvm
      refine lv_goto (tgt := 158) hx hb d_Opn_readValues_58 (by decide) ?_
      exact hret x13 H locs 158 ls d_Opn_readValues_158 hw hW hS
  · have hw := hw.2 c5
    refine lv_aload_n hx hb d_Opn_readValues_26 rfl (lv_at hl 0 rfl) ?_
    refine lv_iload_n hx hb d_Opn_readValues_27 rfl (lv_at hl 1 rfl) ?_
    refine lv_iload_n hx hb d_Opn_readValues_28 rfl (lv_at hl 3 rfl) ?_
    have hF := hW.free hS hA
    refine va_callv (va_runV (C := R_Opn) (As := [.int l1, .int l3]) (rest := []) ⟨hx, hb, hml, hown, hT⟩ (k_Opn_readDictionary l dC dI cI cB cJ cZ ad NN E tM tC kK kV hNN H.size o l1 l3 x fo hw) ⟨callB_of 2 hT (gwt_in w_6_231) rfl rfl rfl (hT _ w_1_10) (hT _ w_6_228) (by decide +kernel) ⟨Nat.le_trans (Nat.le_of_ble_eq_true rfl) hRf, Nat.le_trans (Nat.le_of_ble_eq_true rfl) hRl⟩, hT _ w_6_230, hT _ ws_49⟩ ⟨PVc.blind, va_recv hK hW.1 (ci := 7) (q0 := o) rfl (pic_obj fo.1 fo.2 (by decide)), PVc.at _ hW hK hN hE hS hF⟩ rfl rfl hl.1 rfl (lv_room (Nat.le_of_ble_eq_true rfl)) d_Opn_readValues_29 ⟨hRc, hRs⟩) hS (fun q _ h => hF q h) hF (fun  x14 t H locs ht hvm hw hB hz1 hk1 hS => ?_)
    have hW := Wd.back hB ht hF
    clear hB ht hF hz1 hk1 hvm
    refine lv_goto (tgt := 158) hx hb d_Opn_readValues_32 (by decide) ?_
    exact hret x14 H locs 158 ls d_Opn_readValues_158 hw hW hS
set_option maxRecDepth 100000 in
set_option maxHeartbeats 4000000 in
set_option maxRecDepth 100000 in
theorem t_Opn_readValues_e {p : Program} {l : Launch} {e : Env} {R : Room} {s : State} {m : MethodId} {args : Array Value} {below : List Frame} {meth : Method} {c : Code} {cells slots : Nat} {Q : State → Prop} {dC : Nat → ClassId} {dI : Nat → Nat → Nat} {cI cB cJ cZ : ClassId} {A : Nat → Prop} {ad : Nat → Nat} {NN : Nat} {E : Heap} {tM tC : Nat} {kK kV : Nat → Nat} {post : St → Prop} (hx : p.tables.exec = Jvm.exec) (hb : c.code = b_Opn_readValues) (hml : c.maxLocals = 5) (hown : s.vm.findClass R_Opn = some m.cls) (hT : ∀ w ∈ TG, w.before args s = true) (hK : va_K (dC, dI) CL (TY cI cB cJ cZ) s) (hN : NW s) (hA : ∀ q : Nat, s.heap.size ≤ q → A q) (hRc : cells ≤ R.cells) (hRs : slots ≤ R.slots) (hRf : 5 ≤ R.frames) (hRl : 197 ≤ R.locals) (hNN : 152 ≤ NN) (hE : CE E tM tC kK kV A s) (hret : ∀ (x : St) (H : Heap) (locs : List Loc) (pc : Nat) (ls : Array Slot), decode b_Opn_readValues pc = .ok (.return_, 1) → post x → Wd dC dI cI cB cJ cZ ad stC kcC NN A x H → va_S A s.heap H locs → W p l e R s m args below meth c H locs cells slots Q (F0 m pc ls [])) : ∀ (o : Nat) (l1 : Int32) (l2 : Int32) (l3 : Int32) (x : St) (H : Heap) (locs : List Loc) (ls : Array Slot), (o < NN ∧ kcC o = 7) → wp_Opn_readValues post o l1 l2 l3 x → Wd dC dI cI cB cJ cZ ad stC kcC NN A x H → va_S A s.heap H locs → lv_has ls 5 [(0, .ref (ad o)), (1, .int l1), (2, .int l2), (3, .int l3)] → W p l e R s m args below meth c H locs cells slots Q (F0 m 0 ls []) := by
  intro o l1 l2 l3 x H locs ls fo hw hW hS hl
  unfold wp_Opn_readValues at hw
  refine lv_iload_n hx hb d_Opn_readValues_0 rfl (lv_at hl 1 rfl) ?_
  refine lv_if_ne (tgt := 12) hx hb d_Opn_readValues_1 (by decide) (fun c15 => ?_) (fun c15 => ?_)
  · have hw := hw.1 c15
    refine lv_iload_n hx hb d_Opn_readValues_12 rfl (lv_at hl 2 rfl) ?_
    refine lv_iload_n hx hb d_Opn_readValues_13 rfl (lv_at hl 1 rfl) ?_
    refine lv_iconst (v := 3) hx hb d_Opn_readValues_14 (by decide) ?_
    refine lv_icmp_ne (tgt := 22) hx hb d_Opn_readValues_15 (by decide) (fun c16 => ?_) (fun c16 => ?_)
    · have hw := hw.1 c16
      refine lv_iconst (v := 2) hx hb d_Opn_readValues_22 (by decide) ?_
      exact t_Opn_readValues_23 hx hb hml hown hT hK hN hA hRc hRs hRf hRl hNN hE hret  o l1 l2 l3 2 l2 x H locs ls fo hw hW hS (lv_sub hl [0, 1, 2, 3] rfl)
    · have hw := hw.2 c16
      refine lv_iconst (v := 3) hx hb d_Opn_readValues_18 (by decide) ?_
      refine lv_goto (tgt := 23) hx hb d_Opn_readValues_19 (by decide) ?_
      exact t_Opn_readValues_23 hx hb hml hown hT hK hN hA hRc hRs hRf hRl hNN hE hret  o l1 l2 l3 3 l2 x H locs ls fo hw hW hS (lv_sub hl [0, 1, 2, 3] rfl)
  · have hw := hw.2 c15
    refine lv_aload_n hx hb d_Opn_readValues_4 rfl (lv_at hl 0 rfl) ?_
    refine lv_iload_n hx hb d_Opn_readValues_5 rfl (lv_at hl 2 rfl) ?_
    have hF := hW.free hS hA
    refine va_callv (va_runV (C := R_Opn) (As := [.int l2]) (rest := []) ⟨hx, hb, hml, hown, hT⟩ (k_Opn_readBools l dC dI cI cB cJ cZ ad NN E tM tC kK kV hNN H.size o l2 x fo hw) ⟨callB_of 1 hT (gwt_in w_6_227) rfl rfl rfl (hT _ w_1_10) (hT _ w_6_224) (by decide +kernel) ⟨Nat.le_trans (Nat.le_of_ble_eq_true rfl) hRf, Nat.le_trans (Nat.le_of_ble_eq_true rfl) hRl⟩, hT _ w_6_226, hT _ ws_48⟩ ⟨PVc.blind, va_recv hK hW.1 (ci := 7) (q0 := o) rfl (pic_obj fo.1 fo.2 (by decide)), PVc.at _ hW hK hN hE hS hF⟩ rfl rfl hl.1 rfl (lv_room (Nat.le_of_ble_eq_true rfl)) d_Opn_readValues_6 ⟨hRc, hRs⟩) hS (fun q _ h => hF q h) hF (fun  x17 t H locs ht hvm hw hB hz1 hk1 hS => ?_)
    have hW := Wd.back hB ht hF
    clear hB ht hF hz1 hk1 hvm
    refine lv_goto (tgt := 158) hx hb d_Opn_readValues_9 (by decide) ?_
    exact hret x17 H locs 158 ls d_Opn_readValues_158 hw hW hS
set_option maxHeartbeats 4000000 in
set_option maxRecDepth 100000 in
theorem k_Opn_readValues (l : Launch) (dC : Nat → ClassId) (dI : Nat → Nat → Nat) (cI cB cJ cZ : ClassId) (ad : Nat → Nat) (NN : Nat) (E : Heap) (tM tC : Nat) (kK kV : Nat → Nat) (hNN : 152 ≤ NN) (sz : Nat) (o : Nat) (l1 : Int32) (l2 : Int32) (l3 : Int32) (x : St) (fo : o < NN ∧ kcC o = 7) {post : St → Prop} (hw : wp_Opn_readValues post o l1 l2 l3 x) : Met l y_Opn_readValues (wsOf y_Opn_readValues b_Opn_readValues 5 (none)) ({ frames := 5, cells := 0, slots := 0, locals := 197 }) (va_Pc [.ref (ad o), .int l1, .int l2, .int l3] (PVc dC dI cI cB cJ cZ ad stC kcC NN E tM tC kK kV sz x)) (va_Qv (fun (y : St) => post y) (fun y t => Wd dC dI cI cB cJ cZ ad stC kcC NN (va_A (pic ad stC kcC NN cI cB cJ cZ x) sz) y t.heap) (va_A (pic ad stC kcC NN cI cB cJ cZ x) sz)) 0 0 (va_A (pic ad stC kcC NN cI cB cJ cZ x) sz) := by
  refine Met.ofW (cc := b_Opn_readValues) (maxL := 5) (ret := none) (by decide) rfl ?_
  intro p e s m args below meth c s₁ B hml hv
  obtain ⟨rfl, ⟨hsz, hW0, hK, hN⟩, hE⟩ := hv
  have hx := B.exec
  have hb := B.bytes
  have hr := B.returns
  have hts := atoms_spec B.pre
  have hT : ∀ w ∈ TG, w.before _ s = true := fun w h => hts w (List.mem_cons_of_mem _ h)
  have hown : s.vm.findClass R_Opn = some m.cls := findClass_of_methodNamed B.named
  have hlocks := B.notSynchronized
  subst hsz
  have hW : Wd dC dI cI cB cJ cZ ad stC kcC NN (va_A (pic ad stC kcC NN cI cB cJ cZ x) s.heap.size) x s.heap := ⟨hW0.1, hW0.2.1.self (sz := s.heap.size), hW0.2.2⟩
  generalize hAe : va_A (pic ad stC kcC NN cI cB cJ cZ x) s.heap.size = A at hW hE ⊢
  have hA : ∀ q : Nat, s.heap.size ≤ q → A q := fun q h => by rw [← hAe]; exact Or.inr h
  have hS : va_S A s.heap s.heap [] := va_S.rf
  have hl := lv_entry ([.ref (ad o), .int l1, .int l2, .int l3]) (n := 5) (Nat.le_of_ble_eq_true rfl)
  rw [lg_entry_eq]
  generalize (lg_sl ([.ref (ad o), .int l1, .int l2, .int l3]) ++ List.replicate (5 - (lg_sl ([.ref (ad o), .int l1, .int l2, .int l3])).length) Slot.unset).toArray = ls at hl ⊢
  have hl : lv_has ls 5 [(0, .ref (ad o)), (1, .int l1), (2, .int l2), (3, .int l3)] := hl
  exact t_Opn_readValues_e hx hb hml hown hT hK hN hA (Nat.le_refl 0) (Nat.le_refl 0) (Nat.le_refl 5) (Nat.le_refl 197) hNN hE (fun x H locs pc ls hd hp hW hS => W.vret hx hb hr (fun t ht hM => ⟨⟨x, rfl, hp, Wd.back hW ht.symm (fun _ z => z)⟩, hS.F ht⟩) hS.2.2 hd hlocks)  o l1 l2 l3 x _ _ ls fo hw hW hS hl
end
