theorem w_7_11 : (Jvm.Cond.instanceMethod ({ cls := "StripedVault$Source", name := "readBlock", desc := "([JII)V" } : Jvm.MethodName)) ∈ TG := tw_7 11 (by decide +kernel) (by decide +kernel)
theorem w_7_12 : (Jvm.Cond.code ({ cls := "StripedVault$Source", name := "readBlock", desc := "([JII)V" } : Jvm.MethodName) prog_10_method_17_code (12 : Nat) (Option.none : Option Jvm.ClassFile.FieldType)) ∈ TG := tw_7 12 (by decide +kernel) (by decide +kernel)
theorem w_7_13 : (Jvm.Cond.methodLink "StripedVault$Source" (94 : Nat) ({ cls := "StripedVault$Source", name := "checkEnd", desc := "()V" } : Jvm.MethodName)) ∈ TG := tw_7 13 (by decide +kernel) (by decide +kernel)
theorem w_7_6 : (Jvm.Cond.methodLink "StripedVault$Source" (79 : Nat) ({ cls := "StripedVault$Source", name := "narrow", desc := "(J)I" } : Jvm.MethodName)) ∈ TG := tw_7 6 (by decide +kernel) (by decide +kernel)
theorem w_7_8 : (Jvm.Cond.methodLink "StripedVault$Source" (87 : Nat) ({ cls := "java/lang/Math", name := "min", desc := "(JJ)J" } : Jvm.MethodName)) ∈ TG := tw_7 8 (by decide +kernel) (by decide +kernel)
theorem w_7_9 : (Jvm.Cond.methodLink "StripedVault$Source" (90 : Nat) ({ cls := "StripedVault$Source", name := "readBlock", desc := "([JII)V" } : Jvm.MethodName)) ∈ TG := tw_7 9 (by decide +kernel) (by decide +kernel)
theorem wn_7_7 : (Jvm.Cond.methodLinkNest "StripedVault$Source" (83 : Nat) ({ cls := "StripedVault", name := "within", desc := "(JJ)Z" } : Jvm.MethodName) "StripedVault") ∈ lw_tbl := tb_7 _ (List.mem_of_getElem? (i := 7) (by decide +kernel))
theorem ws_52 : Cond.selects R_Src y_Src_readBlock y_Src_readBlock ∈ TG := tw_s 52 (by decide +kernel) (by decide +kernel)
theorem d_Opn_countTexts_2 : decode b_Opn_countTexts 2 = .ok (.iload_n 2, 1) := by decide +kernel
theorem d_Opn_countTexts_3 : decode b_Opn_countTexts 3 = .ok (.aload_n 0, 1) := by decide +kernel
theorem d_Opn_countTexts_4 : decode b_Opn_countTexts 4 = .ok (.getfield 266, 3) := by decide +kernel
theorem d_Opn_countTexts_7 : decode b_Opn_countTexts 7 = .ok (.if_icmp .ge 42, 3) := by decide +kernel
theorem d_Opn_countTexts_49 : decode b_Opn_countTexts 49 = .ok (.return_, 1) := by decide +kernel
theorem d_Opn_countTexts_10 : decode b_Opn_countTexts 10 = .ok (.iload_n 1, 1) := by decide +kernel
theorem d_Opn_countTexts_11 : decode b_Opn_countTexts 11 = .ok (.iconst 3, 1) := by decide +kernel
theorem d_Opn_countTexts_12 : decode b_Opn_countTexts 12 = .ok (.if_icmp .ne 37, 3) := by decide +kernel
theorem d_Opn_countTexts_15 : decode b_Opn_countTexts 15 = .ok (.aload_n 0, 1) := by decide +kernel
theorem d_Opn_countTexts_16 : decode b_Opn_countTexts 16 = .ok (.getfield 44, 3) := by decide +kernel
theorem d_Opn_countTexts_19 : decode b_Opn_countTexts 19 = .ok (.getfield 107, 3) := by decide +kernel
theorem d_Opn_countTexts_22 : decode b_Opn_countTexts 22 = .ok (.ifCond .ne 27, 3) := by decide +kernel
theorem d_Opn_countTexts_25 : decode b_Opn_countTexts 25 = .ok (.aload_n 0, 1) := by decide +kernel
theorem d_Opn_countTexts_26 : decode b_Opn_countTexts 26 = .ok (.dup, 1) := by decide +kernel
theorem d_Opn_countTexts_27 : decode b_Opn_countTexts 27 = .ok (.getfield 269, 3) := by decide +kernel
theorem d_Opn_countTexts_30 : decode b_Opn_countTexts 30 = .ok (.aload_n 0, 1) := by decide +kernel
theorem d_Opn_countTexts_31 : decode b_Opn_countTexts 31 = .ok (.getfield 22, 3) := by decide +kernel
theorem d_Opn_countTexts_34 : decode b_Opn_countTexts 34 = .ok (.iload_n 2, 1) := by decide +kernel
theorem d_Opn_countTexts_35 : decode b_Opn_countTexts 35 = .ok (.laload, 1) := by decide +kernel
theorem d_Opn_countTexts_36 : decode b_Opn_countTexts 36 = .ok (.invokestatic 331, 3) := by decide +kernel
theorem d_Opn_countTexts_39 : decode b_Opn_countTexts 39 = .ok (.iadd, 1) := by decide +kernel
theorem d_Opn_countTexts_40 : decode b_Opn_countTexts 40 = .ok (.putfield 269, 3) := by decide +kernel
theorem d_Opn_countTexts_43 : decode b_Opn_countTexts 43 = .ok (.iinc 2 1, 3) := by decide +kernel
theorem d_Opn_countTexts_46 : decode b_Opn_countTexts 46 = .ok (.goto (-44), 3) := by decide +kernel
theorem d_Opn_countTexts_0 : decode b_Opn_countTexts 0 = .ok (.iconst 0, 1) := by decide +kernel
theorem d_Opn_countTexts_1 : decode b_Opn_countTexts 1 = .ok (.istore_n 2, 1) := by decide +kernel
theorem d_Src_readBlock_186 : decode b_Src_readBlock 186 = .ok (.iinc 9 1, 3) := by decide +kernel
theorem d_Src_readBlock_189 : decode b_Src_readBlock 189 = .ok (.goto (-74), 3) := by decide +kernel
theorem d_Src_readBlock_182 : decode b_Src_readBlock 182 = .ok (.iconst 5, 1) := by decide +kernel
theorem d_Src_readBlock_183 : decode b_Src_readBlock 183 = .ok (.invokevirtual 39, 3) := by decide +kernel
theorem d_Src_readBlock_115 : decode b_Src_readBlock 115 = .ok (.iload 9, 2) := by decide +kernel
theorem d_Src_readBlock_117 : decode b_Src_readBlock 117 = .ok (.bipush 16, 2) := by decide +kernel
theorem d_Src_readBlock_119 : decode b_Src_readBlock 119 = .ok (.if_icmp .ge 73, 3) := by decide +kernel
theorem d_Src_readBlock_192 : decode b_Src_readBlock 192 = .ok (.aload_n 0, 1) := by decide +kernel
theorem d_Src_readBlock_193 : decode b_Src_readBlock 193 = .ok (.dup, 1) := by decide +kernel
theorem d_Src_readBlock_194 : decode b_Src_readBlock 194 = .ok (.getfield 19, 3) := by decide +kernel
theorem d_Src_readBlock_197 : decode b_Src_readBlock 197 = .ok (.iconst 2, 1) := by decide +kernel
theorem d_Src_readBlock_198 : decode b_Src_readBlock 198 = .ok (.iload 7, 2) := by decide +kernel
theorem d_Src_readBlock_200 : decode b_Src_readBlock 200 = .ok (.imul, 1) := by decide +kernel
theorem d_Src_readBlock_201 : decode b_Src_readBlock 201 = .ok (.iadd, 1) := by decide +kernel
theorem d_Src_readBlock_202 : decode b_Src_readBlock 202 = .ok (.putfield 19, 3) := by decide +kernel
theorem d_Src_readBlock_205 : decode b_Src_readBlock 205 = .ok (.iinc 6 1, 3) := by decide +kernel
theorem d_Src_readBlock_208 : decode b_Src_readBlock 208 = .ok (.goto (-133), 3) := by decide +kernel
theorem d_Src_readBlock_122 : decode b_Src_readBlock 122 = .ok (.aload_n 0, 1) := by decide +kernel
theorem d_Src_readBlock_123 : decode b_Src_readBlock 123 = .ok (.iload 9, 2) := by decide +kernel
theorem d_Src_readBlock_125 : decode b_Src_readBlock 125 = .ok (.iload 7, 2) := by decide +kernel
theorem d_Src_readBlock_127 : decode b_Src_readBlock 127 = .ok (.imul, 1) := by decide +kernel
theorem d_Src_readBlock_128 : decode b_Src_readBlock 128 = .ok (.iload 7, 2) := by decide +kernel
theorem d_Src_readBlock_130 : decode b_Src_readBlock 130 = .ok (.invokevirtual 76, 3) := by decide +kernel
theorem d_Src_readBlock_133 : decode b_Src_readBlock 133 = .ok (.lstore 10, 2) := by decide +kernel
theorem d_Src_readBlock_135 : decode b_Src_readBlock 135 = .ok (.iload 8, 2) := by decide +kernel
theorem d_Src_readBlock_137 : decode b_Src_readBlock 137 = .ok (.iload 9, 2) := by decide +kernel
theorem d_Src_readBlock_139 : decode b_Src_readBlock 139 = .ok (.iadd, 1) := by decide +kernel
theorem d_Src_readBlock_140 : decode b_Src_readBlock 140 = .ok (.iload_n 3, 1) := by decide +kernel
theorem d_Src_readBlock_141 : decode b_Src_readBlock 141 = .ok (.if_icmp .ge 28, 3) := by decide +kernel
theorem d_Src_readBlock_169 : decode b_Src_readBlock 169 = .ok (.aload_n 0, 1) := by decide +kernel
theorem d_Src_readBlock_170 : decode b_Src_readBlock 170 = .ok (.lload 10, 2) := by decide +kernel
theorem d_Src_readBlock_172 : decode b_Src_readBlock 172 = .ok (.lconst 0, 1) := by decide +kernel
theorem d_Src_readBlock_173 : decode b_Src_readBlock 173 = .ok (.lcmp, 1) := by decide +kernel
theorem d_Src_readBlock_174 : decode b_Src_readBlock 174 = .ok (.ifCond .ne 7, 3) := by decide +kernel
theorem d_Src_readBlock_181 : decode b_Src_readBlock 181 = .ok (.iconst 0, 1) := by decide +kernel
theorem d_Src_readBlock_177 : decode b_Src_readBlock 177 = .ok (.iconst 1, 1) := by decide +kernel
theorem d_Src_readBlock_178 : decode b_Src_readBlock 178 = .ok (.goto 4, 3) := by decide +kernel
theorem d_Src_readBlock_144 : decode b_Src_readBlock 144 = .ok (.aload_n 1, 1) := by decide +kernel
theorem d_Src_readBlock_145 : decode b_Src_readBlock 145 = .ok (.iload 8, 2) := by decide +kernel
theorem d_Src_readBlock_147 : decode b_Src_readBlock 147 = .ok (.iload 9, 2) := by decide +kernel
theorem d_Src_readBlock_149 : decode b_Src_readBlock 149 = .ok (.iadd, 1) := by decide +kernel
theorem d_Src_readBlock_150 : decode b_Src_readBlock 150 = .ok (.aload_n 1, 1) := by decide +kernel
theorem d_Src_readBlock_151 : decode b_Src_readBlock 151 = .ok (.iload 8, 2) := by decide +kernel
theorem d_Src_readBlock_153 : decode b_Src_readBlock 153 = .ok (.iload 9, 2) := by decide +kernel
theorem d_Src_readBlock_155 : decode b_Src_readBlock 155 = .ok (.iadd, 1) := by decide +kernel
theorem d_Src_readBlock_156 : decode b_Src_readBlock 156 = .ok (.iconst 1, 1) := by decide +kernel
theorem d_Src_readBlock_157 : decode b_Src_readBlock 157 = .ok (.isub, 1) := by decide +kernel
theorem d_Src_readBlock_158 : decode b_Src_readBlock 158 = .ok (.laload, 1) := by decide +kernel
theorem d_Src_readBlock_159 : decode b_Src_readBlock 159 = .ok (.lload 4, 2) := by decide +kernel
theorem d_Src_readBlock_161 : decode b_Src_readBlock 161 = .ok (.ladd, 1) := by decide +kernel
theorem d_Src_readBlock_162 : decode b_Src_readBlock 162 = .ok (.lload 10, 2) := by decide +kernel
theorem d_Src_readBlock_164 : decode b_Src_readBlock 164 = .ok (.ladd, 1) := by decide +kernel
theorem d_Src_readBlock_165 : decode b_Src_readBlock 165 = .ok (.lastore, 1) := by decide +kernel
theorem d_Src_readBlock_166 : decode b_Src_readBlock 166 = .ok (.goto 20, 3) := by decide +kernel
theorem d_Src_readBlock_75 : decode b_Src_readBlock 75 = .ok (.iload 6, 2) := by decide +kernel
theorem d_Src_readBlock_77 : decode b_Src_readBlock 77 = .ok (.iconst 4, 1) := by decide +kernel
theorem d_Src_readBlock_78 : decode b_Src_readBlock 78 = .ok (.if_icmp .ge 133, 3) := by decide +kernel
theorem d_Src_readBlock_211 : decode b_Src_readBlock 211 = .ok (.return_, 1) := by decide +kernel
theorem d_Src_readBlock_81 : decode b_Src_readBlock 81 = .ok (.aload_n 0, 1) := by decide +kernel
theorem d_Src_readBlock_82 : decode b_Src_readBlock 82 = .ok (.getfield 9, 3) := by decide +kernel
theorem d_Src_readBlock_85 : decode b_Src_readBlock 85 = .ok (.iload 6, 2) := by decide +kernel
theorem d_Src_readBlock_87 : decode b_Src_readBlock 87 = .ok (.iaload, 1) := by decide +kernel
theorem d_Src_readBlock_88 : decode b_Src_readBlock 88 = .ok (.istore 7, 2) := by decide +kernel
theorem d_Src_readBlock_90 : decode b_Src_readBlock 90 = .ok (.iload_n 2, 1) := by decide +kernel
theorem d_Src_readBlock_91 : decode b_Src_readBlock 91 = .ok (.bipush 16, 2) := by decide +kernel
theorem d_Src_readBlock_93 : decode b_Src_readBlock 93 = .ok (.iload 6, 2) := by decide +kernel
theorem d_Src_readBlock_95 : decode b_Src_readBlock 95 = .ok (.imul, 1) := by decide +kernel
theorem d_Src_readBlock_96 : decode b_Src_readBlock 96 = .ok (.iadd, 1) := by decide +kernel
theorem d_Src_readBlock_97 : decode b_Src_readBlock 97 = .ok (.istore 8, 2) := by decide +kernel
theorem d_Src_readBlock_99 : decode b_Src_readBlock 99 = .ok (.aload_n 0, 1) := by decide +kernel
theorem d_Src_readBlock_100 : decode b_Src_readBlock 100 = .ok (.iconst 2, 1) := by decide +kernel
theorem d_Src_readBlock_101 : decode b_Src_readBlock 101 = .ok (.iload 7, 2) := by decide +kernel
theorem d_Src_readBlock_103 : decode b_Src_readBlock 103 = .ok (.imul, 1) := by decide +kernel
theorem d_Src_readBlock_104 : decode b_Src_readBlock 104 = .ok (.i2l, 1) := by decide +kernel
theorem d_Src_readBlock_105 : decode b_Src_readBlock 105 = .ok (.invokevirtual 35, 3) := by decide +kernel
theorem d_Src_readBlock_108 : decode b_Src_readBlock 108 = .ok (.ifCond .ne 4, 3) := by decide +kernel
theorem d_Src_readBlock_112 : decode b_Src_readBlock 112 = .ok (.iconst 0, 1) := by decide +kernel
theorem d_Src_readBlock_113 : decode b_Src_readBlock 113 = .ok (.istore 9, 2) := by decide +kernel
theorem d_Src_readBlock_111 : decode b_Src_readBlock 111 = .ok (.return_, 1) := by decide +kernel
theorem d_Src_readBlock_53 : decode b_Src_readBlock 53 = .ok (.iconst 5, 1) := by decide +kernel
theorem d_Src_readBlock_54 : decode b_Src_readBlock 54 = .ok (.invokevirtual 39, 3) := by decide +kernel
theorem d_Src_readBlock_57 : decode b_Src_readBlock 57 = .ok (.aload_n 0, 1) := by decide +kernel
theorem d_Src_readBlock_58 : decode b_Src_readBlock 58 = .ok (.getfield 9, 3) := by decide +kernel
theorem d_Src_readBlock_61 : decode b_Src_readBlock 61 = .ok (.iload 6, 2) := by decide +kernel
theorem d_Src_readBlock_63 : decode b_Src_readBlock 63 = .ok (.iload 7, 2) := by decide +kernel
theorem d_Src_readBlock_65 : decode b_Src_readBlock 65 = .ok (.iastore, 1) := by decide +kernel
theorem d_Src_readBlock_66 : decode b_Src_readBlock 66 = .ok (.iinc 6 1, 3) := by decide +kernel
theorem d_Src_readBlock_69 : decode b_Src_readBlock 69 = .ok (.goto (-57), 3) := by decide +kernel
theorem d_Src_readBlock_52 : decode b_Src_readBlock 52 = .ok (.iconst 0, 1) := by decide +kernel
theorem d_Src_readBlock_48 : decode b_Src_readBlock 48 = .ok (.iconst 1, 1) := by decide +kernel
theorem d_Src_readBlock_49 : decode b_Src_readBlock 49 = .ok (.goto 4, 3) := by decide +kernel
theorem d_Src_readBlock_12 : decode b_Src_readBlock 12 = .ok (.iload 6, 2) := by decide +kernel
theorem d_Src_readBlock_14 : decode b_Src_readBlock 14 = .ok (.iconst 4, 1) := by decide +kernel
theorem d_Src_readBlock_15 : decode b_Src_readBlock 15 = .ok (.if_icmp .ge 57, 3) := by decide +kernel
theorem d_Src_readBlock_72 : decode b_Src_readBlock 72 = .ok (.iconst 0, 1) := by decide +kernel
theorem d_Src_readBlock_73 : decode b_Src_readBlock 73 = .ok (.istore 6, 2) := by decide +kernel
theorem d_Src_readBlock_18 : decode b_Src_readBlock 18 = .ok (.aload_n 0, 1) := by decide +kernel
theorem d_Src_readBlock_19 : decode b_Src_readBlock 19 = .ok (.invokevirtual 57, 3) := by decide +kernel
theorem d_Src_readBlock_22 : decode b_Src_readBlock 22 = .ok (.istore 7, 2) := by decide +kernel
theorem d_Src_readBlock_24 : decode b_Src_readBlock 24 = .ok (.aload_n 0, 1) := by decide +kernel
theorem d_Src_readBlock_25 : decode b_Src_readBlock 25 = .ok (.iload 7, 2) := by decide +kernel
theorem d_Src_readBlock_27 : decode b_Src_readBlock 27 = .ok (.bipush 64, 2) := by decide +kernel
theorem d_Src_readBlock_29 : decode b_Src_readBlock 29 = .ok (.if_icmp .gt 23, 3) := by decide +kernel
theorem d_Src_readBlock_32 : decode b_Src_readBlock 32 = .ok (.iload 7, 2) := by decide +kernel
theorem d_Src_readBlock_34 : decode b_Src_readBlock 34 = .ok (.ifCond .eq 14, 3) := by decide +kernel
theorem d_Src_readBlock_37 : decode b_Src_readBlock 37 = .ok (.iload_n 2, 1) := by decide +kernel
theorem d_Src_readBlock_38 : decode b_Src_readBlock 38 = .ok (.bipush 16, 2) := by decide +kernel
theorem d_Src_readBlock_40 : decode b_Src_readBlock 40 = .ok (.iload 6, 2) := by decide +kernel
theorem d_Src_readBlock_42 : decode b_Src_readBlock 42 = .ok (.imul, 1) := by decide +kernel
theorem d_Src_readBlock_43 : decode b_Src_readBlock 43 = .ok (.iadd, 1) := by decide +kernel
theorem d_Src_readBlock_44 : decode b_Src_readBlock 44 = .ok (.iload_n 3, 1) := by decide +kernel
theorem d_Src_readBlock_45 : decode b_Src_readBlock 45 = .ok (.if_icmp .ge 7, 3) := by decide +kernel
theorem d_Src_readBlock_0 : decode b_Src_readBlock 0 = .ok (.aload_n 0, 1) := by decide +kernel
theorem d_Src_readBlock_1 : decode b_Src_readBlock 1 = .ok (.invokevirtual 49, 3) := by decide +kernel
theorem d_Src_readBlock_4 : decode b_Src_readBlock 4 = .ok (.invokestatic 61, 3) := by decide +kernel
theorem d_Src_readBlock_7 : decode b_Src_readBlock 7 = .ok (.lstore 4, 2) := by decide +kernel
theorem d_Src_readBlock_9 : decode b_Src_readBlock 9 = .ok (.iconst 0, 1) := by decide +kernel
theorem d_Src_readBlock_10 : decode b_Src_readBlock 10 = .ok (.istore 6, 2) := by decide +kernel
theorem d_Src_readCode_137 : decode b_Src_readCode 137 = .ok (.iconst 4, 1) := by decide +kernel
theorem d_Src_readCode_138 : decode b_Src_readCode 138 = .ok (.invokevirtual 39, 3) := by decide +kernel
theorem d_Src_readCode_141 : decode b_Src_readCode 141 = .ok (.return_, 1) := by decide +kernel
theorem d_Src_readCode_113 : decode b_Src_readCode 113 = .ok (.aload_n 0, 1) := by decide +kernel
theorem d_Src_readCode_114 : decode b_Src_readCode 114 = .ok (.invokevirtual 94, 3) := by decide +kernel
theorem d_Src_readCode_117 : decode b_Src_readCode 117 = .ok (.aload_n 0, 1) := by decide +kernel
theorem d_Src_readCode_118 : decode b_Src_readCode 118 = .ok (.iload 4, 2) := by decide +kernel
theorem d_Src_readCode_120 : decode b_Src_readCode 120 = .ok (.putfield 29, 3) := by decide +kernel
theorem d_Src_readCode_123 : decode b_Src_readCode 123 = .ok (.aload_n 0, 1) := by decide +kernel
theorem d_Src_readCode_124 : decode b_Src_readCode 124 = .ok (.lload 5, 2) := by decide +kernel
theorem d_Src_readCode_126 : decode b_Src_readCode 126 = .ok (.iload_n 2, 1) := by decide +kernel
theorem d_Src_readCode_127 : decode b_Src_readCode 127 = .ok (.i2l, 1) := by decide +kernel
theorem d_Src_readCode_128 : decode b_Src_readCode 128 = .ok (.lcmp, 1) := by decide +kernel
theorem d_Src_readCode_129 : decode b_Src_readCode 129 = .ok (.ifCond .ne 7, 3) := by decide +kernel
theorem d_Src_readCode_136 : decode b_Src_readCode 136 = .ok (.iconst 0, 1) := by decide +kernel
theorem d_Src_readCode_132 : decode b_Src_readCode 132 = .ok (.iconst 1, 1) := by decide +kernel
theorem d_Src_readCode_133 : decode b_Src_readCode 133 = .ok (.goto 4, 3) := by decide +kernel
theorem d_Src_readCode_72 : decode b_Src_readCode 72 = .ok (.aload_n 0, 1) := by decide +kernel
theorem d_Src_readCode_73 : decode b_Src_readCode 73 = .ok (.getfield 32, 3) := by decide +kernel
theorem d_Src_readCode_76 : decode b_Src_readCode 76 = .ok (.ifCond .ne 37, 3) := by decide +kernel
theorem d_Src_readCode_79 : decode b_Src_readCode 79 = .ok (.iload 7, 2) := by decide +kernel
theorem d_Src_readCode_81 : decode b_Src_readCode 81 = .ok (.i2l, 1) := by decide +kernel
theorem d_Src_readCode_82 : decode b_Src_readCode 82 = .ok (.lload 5, 2) := by decide +kernel
theorem d_Src_readCode_84 : decode b_Src_readCode 84 = .ok (.lcmp, 1) := by decide +kernel
theorem d_Src_readCode_85 : decode b_Src_readCode 85 = .ok (.ifCond .ge 28, 3) := by decide +kernel
theorem d_Src_readCode_88 : decode b_Src_readCode 88 = .ok (.aload_n 0, 1) := by decide +kernel
theorem d_Src_readCode_89 : decode b_Src_readCode 89 = .ok (.aload_n 1, 1) := by decide +kernel
theorem d_Src_readCode_90 : decode b_Src_readCode 90 = .ok (.iload 7, 2) := by decide +kernel
theorem d_Src_readCode_92 : decode b_Src_readCode 92 = .ok (.iload 7, 2) := by decide +kernel
theorem d_Src_readCode_94 : decode b_Src_readCode 94 = .ok (.bipush 64, 2) := by decide +kernel
theorem d_Src_readCode_96 : decode b_Src_readCode 96 = .ok (.iadd, 1) := by decide +kernel
theorem d_Src_readCode_97 : decode b_Src_readCode 97 = .ok (.i2l, 1) := by decide +kernel
theorem d_Src_readCode_98 : decode b_Src_readCode 98 = .ok (.lload 5, 2) := by decide +kernel
theorem d_Src_readCode_100 : decode b_Src_readCode 100 = .ok (.invokestatic 87, 3) := by decide +kernel
theorem d_Src_readCode_103 : decode b_Src_readCode 103 = .ok (.l2i, 1) := by decide +kernel
theorem d_Src_readCode_104 : decode b_Src_readCode 104 = .ok (.invokevirtual 90, 3) := by decide +kernel
theorem d_Src_readCode_107 : decode b_Src_readCode 107 = .ok (.iinc 7 64, 3) := by decide +kernel
theorem d_Src_readCode_110 : decode b_Src_readCode 110 = .ok (.goto (-38), 3) := by decide +kernel
theorem d_Src_readCode_69 : decode b_Src_readCode 69 = .ok (.iconst 1, 1) := by decide +kernel
theorem d_Src_readCode_70 : decode b_Src_readCode 70 = .ok (.istore 7, 2) := by decide +kernel
theorem d_Src_readCode_20 : decode b_Src_readCode 20 = .ok (.aload_n 0, 1) := by decide +kernel
theorem d_Src_readCode_21 : decode b_Src_readCode 21 = .ok (.invokevirtual 49, 3) := by decide +kernel
theorem d_Src_readCode_24 : decode b_Src_readCode 24 = .ok (.lstore 5, 2) := by decide +kernel
theorem d_Src_readCode_26 : decode b_Src_readCode 26 = .ok (.aload_n 0, 1) := by decide +kernel
theorem d_Src_readCode_27 : decode b_Src_readCode 27 = .ok (.lload 5, 2) := by decide +kernel
theorem d_Src_readCode_29 : decode b_Src_readCode 29 = .ok (.sipush 2000, 3) := by decide +kernel
theorem d_Src_readCode_32 : decode b_Src_readCode 32 = .ok (.aload_n 1, 1) := by decide +kernel
theorem d_Src_readCode_33 : decode b_Src_readCode 33 = .ok (.arraylength, 1) := by decide +kernel
theorem d_Src_readCode_34 : decode b_Src_readCode 34 = .ok (.invokestatic 23, 3) := by decide +kernel
theorem d_Src_readCode_37 : decode b_Src_readCode 37 = .ok (.i2l, 1) := by decide +kernel
theorem d_Src_readCode_38 : decode b_Src_readCode 38 = .ok (.invokestatic 83, 3) := by decide +kernel
theorem d_Src_readCode_41 : decode b_Src_readCode 41 = .ok (.iconst 4, 1) := by decide +kernel
theorem d_Src_readCode_42 : decode b_Src_readCode 42 = .ok (.invokevirtual 39, 3) := by decide +kernel
theorem d_Src_readCode_45 : decode b_Src_readCode 45 = .ok (.aload_n 0, 1) := by decide +kernel
theorem d_Src_readCode_46 : decode b_Src_readCode 46 = .ok (.getfield 32, 3) := by decide +kernel
theorem d_Src_readCode_49 : decode b_Src_readCode 49 = .ok (.ifCond .ne 20, 3) := by decide +kernel
theorem d_Src_readCode_52 : decode b_Src_readCode 52 = .ok (.lload 5, 2) := by decide +kernel
theorem d_Src_readCode_54 : decode b_Src_readCode 54 = .ok (.lconst 0, 1) := by decide +kernel
theorem d_Src_readCode_55 : decode b_Src_readCode 55 = .ok (.lcmp, 1) := by decide +kernel
theorem d_Src_readCode_56 : decode b_Src_readCode 56 = .ok (.ifCond .le 13, 3) := by decide +kernel
theorem d_Src_readCode_59 : decode b_Src_readCode 59 = .ok (.aload_n 1, 1) := by decide +kernel
theorem d_Src_readCode_60 : decode b_Src_readCode 60 = .ok (.iconst 0, 1) := by decide +kernel
theorem d_Src_readCode_61 : decode b_Src_readCode 61 = .ok (.aload_n 0, 1) := by decide +kernel
theorem d_Src_readCode_62 : decode b_Src_readCode 62 = .ok (.invokevirtual 49, 3) := by decide +kernel
theorem d_Src_readCode_65 : decode b_Src_readCode 65 = .ok (.invokestatic 61, 3) := by decide +kernel
theorem d_Src_readCode_68 : decode b_Src_readCode 68 = .ok (.lastore, 1) := by decide +kernel
theorem d_Src_readCode_0 : decode b_Src_readCode 0 = .ok (.aload_n 0, 1) := by decide +kernel
theorem d_Src_readCode_1 : decode b_Src_readCode 1 = .ok (.getfield 29, 3) := by decide +kernel
theorem d_Src_readCode_4 : decode b_Src_readCode 4 = .ok (.istore 4, 2) := by decide +kernel
theorem d_Src_readCode_6 : decode b_Src_readCode 6 = .ok (.iload_n 3, 1) := by decide +kernel
theorem d_Src_readCode_7 : decode b_Src_readCode 7 = .ok (.ifCond .eq 13, 3) := by decide +kernel
theorem d_Src_readCode_10 : decode b_Src_readCode 10 = .ok (.aload_n 0, 1) := by decide +kernel
theorem d_Src_readCode_11 : decode b_Src_readCode 11 = .ok (.aload_n 0, 1) := by decide +kernel
theorem d_Src_readCode_12 : decode b_Src_readCode 12 = .ok (.invokevirtual 49, 3) := by decide +kernel
theorem d_Src_readCode_15 : decode b_Src_readCode 15 = .ok (.invokevirtual 79, 3) := by decide +kernel
theorem d_Src_readCode_18 : decode b_Src_readCode 18 = .ok (.istore 4, 2) := by decide +kernel
section
variable (l : Launch) (dC : Nat → ClassId) (dI : Nat → Nat → Nat) (cI cB cJ cZ : ClassId)
set_option maxRecDepth 100000 in
set_option maxHeartbeats 4000000 in
set_option maxRecDepth 100000 in
theorem t_Opn_countTexts_2 {p : Program} {l : Launch} {e : Env} {R : Room} {s : State} {m : MethodId} {args : Array Value} {below : List Frame} {meth : Method} {c : Code} {cells slots : Nat} {Q : State → Prop} {dC : Nat → ClassId} {dI : Nat → Nat → Nat} {cI cB cJ cZ : ClassId} {A : Nat → Prop} {ad : Nat → Nat} {NN : Nat} {E : Heap} {tM tC : Nat} {kK kV : Nat → Nat} {post : St → Prop} {rec2 : Nat → Int32 → Int32 → St → Prop} (hx : p.tables.exec = Jvm.exec) (hb : c.code = b_Opn_countTexts) (hml : c.maxLocals = 3) (hown : s.vm.findClass R_Opn = some m.cls) (hT : ∀ w ∈ TG, w.before args s = true) (hK : va_K (dC, dI) CL (TY cI cB cJ cZ) s) (hN : NW s) (hA : ∀ q : Nat, s.heap.size ≤ q → A q) (hRc : cells ≤ R.cells) (hRs : slots ≤ R.slots) (hRf : 1 ≤ R.frames) (hRl : 21 ≤ R.locals) (hNN : 152 ≤ NN) (hE : CE E tM tC kK kV A s) (hret : ∀ (x : St) (H : Heap) (locs : List Loc) (pc : Nat) (ls : Array Slot), decode b_Opn_countTexts pc = .ok (.return_, 1) → post x → Wd dC dI cI cB cJ cZ ad stC kcC NN A x H → va_S A s.heap H locs → W p l e R s m args below meth c H locs cells slots Q (F0 m pc ls [])) (hrec2 : ∀ (o : Nat) (l1 : Int32) (l2 : Int32) (x : St) (H : Heap) (locs : List Loc) (ls : Array Slot), (o < NN ∧ kcC o = 7) → rec2 o l1 l2 x → Wd dC dI cI cB cJ cZ ad stC kcC NN A x H → va_S A s.heap H locs → lv_has ls 3 [(0, .ref (ad o)), (1, .int l1), (2, .int l2)] → W p l e R s m args below meth c H locs cells slots Q (F0 m 2 ls [])) : ∀ (o : Nat) (l1 : Int32) (l2 : Int32) (x : St) (H : Heap) (locs : List Loc) (ls : Array Slot), (o < NN ∧ kcC o = 7) → j_Opn_countTexts_2 post rec2 o l1 l2 x → Wd dC dI cI cB cJ cZ ad stC kcC NN A x H → va_S A s.heap H locs → lv_has ls 3 [(0, .ref (ad o)), (1, .int l1), (2, .int l2)] → W p l e R s m args below meth c H locs cells slots Q (F0 m 2 ls []) := by
  intro o l1 l2 x H locs ls fo hw hW hS hl
  unfold j_Opn_countTexts_2 at hw
  refine lv_iload_n hx hb d_Opn_countTexts_2 rfl (lv_at hl 2 rfl) ?_
  refine lv_aload_n hx hb d_Opn_countTexts_3 rfl (lv_at hl 0 rfl) ?_
  refine w_geti (k := 9) (t := 7) (C := R_Opn) (T := F_Opn) (N := 17) hx hb hT hown hK hW fo.1 fo.2 (by decide) in_Opn rfl rfl (by decide) rfl fr_Opn_9 w_3_25 d_Opn_countTexts_4 ?_
  refine lv_icmp_ge (tgt := 49) hx hb d_Opn_countTexts_7 (by decide) (fun c1 => ?_) (fun c1 => ?_)
  · have hw := hw.1 c1
    exact hret x H locs 49 ls d_Opn_countTexts_49 hw hW hS
  · have hw := hw.2 c1
    refine lv_iload_n hx hb d_Opn_countTexts_10 rfl (lv_at hl 1 rfl) ?_
    refine lv_iconst (v := 3) hx hb d_Opn_countTexts_11 (by decide) ?_
    refine lv_icmp_ne (tgt := 49) hx hb d_Opn_countTexts_12 (by decide) (fun c2 => ?_) (fun c2 => ?_)
    · have hw := hw.1 c2
      exact hret x H locs 49 ls d_Opn_countTexts_49 hw hW hS
    · have hw := hw.2 c2
      refine lv_aload_n hx hb d_Opn_countTexts_15 rfl (lv_at hl 0 rfl) ?_
      refine w_getf (q := (stC o 2)) (k := 2) (t := 7) (C := R_Opn) (T := F_Opn) (N := 17) hx hb hT hown hK hW fo.1 fo.2 (by decide) in_Opn rfl rfl (by decide) rfl fr_Opn_2 w_3_17 d_Opn_countTexts_16 rfl ?_
      refine w_geti (k := 3) (t := 8) (C := R_Src) (T := F_Src) (N := 5) hx hb hT hown hK hW (st_ty hNN fo.1 fo.2 rfl).1 (st_ty hNN fo.1 fo.2 rfl).2 (by decide) in_Src rfl rfl (by decide) rfl fr_Src_3 w_3_2 d_Opn_countTexts_19 ?_
      refine lv_if_ne (tgt := 49) hx hb d_Opn_countTexts_22 (by decide) (fun c3 => ?_) (fun c3 => ?_)
      · have hw := hw.1 c3
        exact hret x H locs 49 ls d_Opn_countTexts_49 hw hW hS
      · have hw := hw.2 c3
        refine lv_aload_n hx hb d_Opn_countTexts_25 rfl (lv_at hl 0 rfl) ?_
        refine lv_dup hx hb d_Opn_countTexts_26 rfl ?_
        refine w_geti (k := 15) (t := 7) (C := R_Opn) (T := F_Opn) (N := 17) hx hb hT hown hK hW fo.1 fo.2 (by decide) in_Opn rfl rfl (by decide) rfl fr_Opn_15 w_3_31 d_Opn_countTexts_27 ?_
        refine lv_aload_n hx hb d_Opn_countTexts_30 rfl (lv_at hl 0 rfl) ?_
        refine w_getf (q := (stC o 8)) (k := 8) (t := 7) (C := R_Opn) (T := F_Opn) (N := 17) hx hb hT hown hK hW fo.1 fo.2 (by decide) in_Opn rfl rfl (by decide) rfl fr_Opn_8 w_3_24 d_Opn_countTexts_31 rfl ?_
        refine lv_iload_n hx hb d_Opn_countTexts_34 rfl (lv_at hl 2 rfl) ?_
        obtain ⟨hi, hw⟩ := hw
        refine w_lald (o := (stC o 8)) hx hb hK hW (st_ty hNN fo.1 fo.2 rfl).1 (st_ty hNN fo.1 fo.2 rfl).2 hi d_Opn_countTexts_35 ?_
        have hF := hW.free hS hA
        refine va_calli (va_runSN (As := [.long (rL x (stC o 8) l2)]) (rest := [.int (fI x o 15), .ref (ad o)]) ⟨hx, hb, hml, hown, hT⟩ (k_V_sizeOf l dC dI cI cB cJ cZ ad NN E tM tC kK kV hNN H.size (rL x (stC o 8) l2) x  hw) ⟨va_cnB 1 hT (gwt_in w_5_161) rfl rfl rfl (hN _ wn_6_237 rfl) (hT _ w_1_1) (by decide +kernel) ⟨Nat.le_trans (Nat.le_of_ble_eq_true rfl) hRf, Nat.le_trans (Nat.le_of_ble_eq_true rfl) hRl⟩, hT _ w_5_160, trivial⟩ ⟨PVc.blind, PVc.at _ hW hK hN hE hS hF⟩ rfl rfl hl.1 rfl (lv_room (Nat.le_of_ble_eq_true rfl)) d_Opn_countTexts_36 ⟨hRc, hRs⟩) hS (fun q _ h => hF q h) hF (fun r5 x4 t H locs ht hvm hw hB hz1 hk1 hS => ?_)
        have hW := Wd.back hB ht hF
        clear hB ht hF hz1 hk1 hvm
        refine lv_iadd hx hb d_Opn_countTexts_39 ?_
        refine w_puti (ty := .int) (k := 15) (t := 7) (C := R_Opn) (T := F_Opn) (N := 17) hx hb hT hown hK hW hS fo.1 fo.2 (by decide) in_Opn t_Opn t_Opn_ok n_Opn rfl rfl (by decide) rfl fr_Opn_15 w_3_31 (by decide +kernel) rfl rfl d_Opn_countTexts_40 (fun H locs hW hS => ?_)
        obtain ⟨x6, ex6⟩ : ∃ y : St, y = setI x4 o 15 ((fI x o 15) + r5) := ⟨_, rfl⟩
        rw [← ex6] at hW
        have hw := hw x6 ex6
        refine lv_iinc (v := (l2 + 1)) (lv' := [(2, .int (l2 + 1)), (0, .ref (ad o)), (1, .int l1)]) hx hb d_Opn_countTexts_43 hl (k := 2) rfl rfl (by decide) rfl (fun ls hl => ?_)
        refine lv_goto (tgt := 2) hx hb d_Opn_countTexts_46 (by decide) ?_
        exact hrec2 o l1 (l2 + 1) x6 H locs ls fo hw hW hS (lv_sub hl [1, 2, 0] rfl)
set_option maxHeartbeats 4000000 in
set_option maxRecDepth 100000 in
theorem tl_Opn_countTexts_2 {p : Program} {l : Launch} {e : Env} {R : Room} {s : State} {m : MethodId} {args : Array Value} {below : List Frame} {meth : Method} {c : Code} {cells slots : Nat} {Q : State → Prop} {dC : Nat → ClassId} {dI : Nat → Nat → Nat} {cI cB cJ cZ : ClassId} {A : Nat → Prop} {ad : Nat → Nat} {NN : Nat} {E : Heap} {tM tC : Nat} {kK kV : Nat → Nat} {post : St → Prop} (hx : p.tables.exec = Jvm.exec) (hb : c.code = b_Opn_countTexts) (hml : c.maxLocals = 3) (hown : s.vm.findClass R_Opn = some m.cls) (hT : ∀ w ∈ TG, w.before args s = true) (hK : va_K (dC, dI) CL (TY cI cB cJ cZ) s) (hN : NW s) (hA : ∀ q : Nat, s.heap.size ≤ q → A q) (hRc : cells ≤ R.cells) (hRs : slots ≤ R.slots) (hRf : 1 ≤ R.frames) (hRl : 21 ≤ R.locals) (hNN : 152 ≤ NN) (hE : CE E tM tC kK kV A s) (hret : ∀ (x : St) (H : Heap) (locs : List Loc) (pc : Nat) (ls : Array Slot), decode b_Opn_countTexts pc = .ok (.return_, 1) → post x → Wd dC dI cI cB cJ cZ ad stC kcC NN A x H → va_S A s.heap H locs → W p l e R s m args below meth c H locs cells slots Q (F0 m pc ls []))  : ∀ n : Nat, ∀ (o : Nat) (l1 : Int32) (l2 : Int32) (x : St) (H : Heap) (locs : List Loc) (ls : Array Slot), (o < NN ∧ kcC o = 7) → wl_Opn_countTexts_2 post n o l1 l2 x → Wd dC dI cI cB cJ cZ ad stC kcC NN A x H → va_S A s.heap H locs → lv_has ls 3 [(0, .ref (ad o)), (1, .int l1), (2, .int l2)] → W p l e R s m args below meth c H locs cells slots Q (F0 m 2 ls []) := by
  intro n
  induction n with
  | zero => intro o l1 l2 x H locs ls fo hw; exact hw.elim
  | succ n ih => intro o l1 l2 x H locs ls fo hw hW hS hl; exact t_Opn_countTexts_2 hx hb hml hown hT hK hN hA hRc hRs hRf hRl hNN hE hret  ih o l1 l2 x H locs ls fo hw hW hS hl
set_option maxRecDepth 100000 in
set_option maxHeartbeats 4000000 in
set_option maxRecDepth 100000 in
theorem t_Opn_countTexts_e {p : Program} {l : Launch} {e : Env} {R : Room} {s : State} {m : MethodId} {args : Array Value} {below : List Frame} {meth : Method} {c : Code} {cells slots : Nat} {Q : State → Prop} {dC : Nat → ClassId} {dI : Nat → Nat → Nat} {cI cB cJ cZ : ClassId} {A : Nat → Prop} {ad : Nat → Nat} {NN : Nat} {E : Heap} {tM tC : Nat} {kK kV : Nat → Nat} {post : St → Prop} (hx : p.tables.exec = Jvm.exec) (hb : c.code = b_Opn_countTexts) (hml : c.maxLocals = 3) (hown : s.vm.findClass R_Opn = some m.cls) (hT : ∀ w ∈ TG, w.before args s = true) (hK : va_K (dC, dI) CL (TY cI cB cJ cZ) s) (hN : NW s) (hA : ∀ q : Nat, s.heap.size ≤ q → A q) (hRc : cells ≤ R.cells) (hRs : slots ≤ R.slots) (hRf : 1 ≤ R.frames) (hRl : 21 ≤ R.locals) (hNN : 152 ≤ NN) (hE : CE E tM tC kK kV A s) (hret : ∀ (x : St) (H : Heap) (locs : List Loc) (pc : Nat) (ls : Array Slot), decode b_Opn_countTexts pc = .ok (.return_, 1) → post x → Wd dC dI cI cB cJ cZ ad stC kcC NN A x H → va_S A s.heap H locs → W p l e R s m args below meth c H locs cells slots Q (F0 m pc ls [])) : ∀ (o : Nat) (l1 : Int32) (x : St) (H : Heap) (locs : List Loc) (ls : Array Slot), (o < NN ∧ kcC o = 7) → wp_Opn_countTexts post o l1 x → Wd dC dI cI cB cJ cZ ad stC kcC NN A x H → va_S A s.heap H locs → lv_has ls 3 [(0, .ref (ad o)), (1, .int l1)] → W p l e R s m args below meth c H locs cells slots Q (F0 m 0 ls []) := by
  intro o l1 x H locs ls fo hw hW hS hl
  unfold wp_Opn_countTexts at hw
  refine lv_iconst (v := 0) hx hb d_Opn_countTexts_0 (by decide) ?_
  refine lv_istore_n (lv' := [(2, .int 0), (0, .ref (ad o)), (1, .int l1)]) hx hb d_Opn_countTexts_1 rfl hl (by decide) rfl (fun ls hl => ?_)
  obtain ⟨n, hw⟩ := hw
  exact tl_Opn_countTexts_2 hx hb hml hown hT hK hN hA hRc hRs hRf hRl hNN hE hret  n o l1 0 x H locs ls fo hw hW hS (lv_sub hl [1, 2, 0] rfl)
set_option maxHeartbeats 4000000 in
set_option maxRecDepth 100000 in
theorem k_Opn_countTexts (l : Launch) (dC : Nat → ClassId) (dI : Nat → Nat → Nat) (cI cB cJ cZ : ClassId) (ad : Nat → Nat) (NN : Nat) (E : Heap) (tM tC : Nat) (kK kV : Nat → Nat) (hNN : 152 ≤ NN) (sz : Nat) (o : Nat) (l1 : Int32) (x : St) (fo : o < NN ∧ kcC o = 7) {post : St → Prop} (hw : wp_Opn_countTexts post o l1 x) : Met l y_Opn_countTexts (wsOf y_Opn_countTexts b_Opn_countTexts 3 (none)) ({ frames := 1, cells := 0, slots := 0, locals := 21 }) (va_Pc [.ref (ad o), .int l1] (PVc dC dI cI cB cJ cZ ad stC kcC NN E tM tC kK kV sz x)) (va_Qv (fun (y : St) => post y) (fun y t => Wd dC dI cI cB cJ cZ ad stC kcC NN (va_A (pic ad stC kcC NN cI cB cJ cZ x) sz) y t.heap) (va_A (pic ad stC kcC NN cI cB cJ cZ x) sz)) 0 0 (va_A (pic ad stC kcC NN cI cB cJ cZ x) sz) := by
  refine Met.ofW (cc := b_Opn_countTexts) (maxL := 3) (ret := none) (by decide) rfl ?_
  intro p e s m args below meth c s₁ B hml hv
  obtain ⟨rfl, ⟨hsz, hW0, hK, hN⟩, hE⟩ := hv
  have hx := B.exec
  have hb := B.bytes
  have hr := B.returns
  have hts := atoms_spec B.pre
  have hT : ∀ w ∈ TG, w.before _ s = true := fun w h => hts w (List.mem_cons_of_mem _ h)
  have hown : s.vm.findClass R_Opn = some m.cls := findClass_of_methodNamed B.named
  have hlocks := B.notSynchronized
  subst hsz
  have hW : Wd dC dI cI cB cJ cZ ad stC kcC NN (va_A (pic ad stC kcC NN cI cB cJ cZ x) s.heap.size) x s.heap := ⟨hW0.1, hW0.2.1.self (sz := s.heap.size), hW0.2.2⟩
  generalize hAe : va_A (pic ad stC kcC NN cI cB cJ cZ x) s.heap.size = A at hW hE ⊢
  have hA : ∀ q : Nat, s.heap.size ≤ q → A q := fun q h => by rw [← hAe]; exact Or.inr h
  have hS : va_S A s.heap s.heap [] := va_S.rf
  have hl := lv_entry ([.ref (ad o), .int l1]) (n := 3) (Nat.le_of_ble_eq_true rfl)
  rw [lg_entry_eq]
  generalize (lg_sl ([.ref (ad o), .int l1]) ++ List.replicate (3 - (lg_sl ([.ref (ad o), .int l1])).length) Slot.unset).toArray = ls at hl ⊢
  have hl : lv_has ls 3 [(0, .ref (ad o)), (1, .int l1)] := hl
  exact t_Opn_countTexts_e hx hb hml hown hT hK hN hA (Nat.le_refl 0) (Nat.le_refl 0) (Nat.le_refl 1) (Nat.le_refl 21) hNN hE (fun x H locs pc ls hd hp hW hS => W.vret hx hb hr (fun t ht hM => ⟨⟨x, rfl, hp, Wd.back hW ht.symm (fun _ z => z)⟩, hS.F ht⟩) hS.2.2 hd hlocks)  o l1 x _ _ ls fo hw hW hS hl
set_option maxRecDepth 100000 in
set_option maxHeartbeats 4000000 in
set_option maxRecDepth 100000 in
theorem t_Src_readBlock_186 {p : Program} {l : Launch} {e : Env} {R : Room} {s : State} {m : MethodId} {args : Array Value} {below : List Frame} {meth : Method} {c : Code} {cells slots : Nat} {Q : State → Prop} {dC : Nat → ClassId} {dI : Nat → Nat → Nat} {cI cB cJ cZ : ClassId} {A : Nat → Prop} {ad : Nat → Nat} {NN : Nat} {E : Heap} {tM tC : Nat} {kK kV : Nat → Nat} {post : St → Prop} {rec75 : Nat → Nat → Int32 → Int32 → Int64 → Int32 → St → Prop} {rec115 : Nat → Nat → Int32 → Int32 → Int64 → Int32 → Int32 → Int32 → Int32 → St → Prop} (hx : p.tables.exec = Jvm.exec) (hb : c.code = b_Src_readBlock) (hml : c.maxLocals = 12) (hown : s.vm.findClass R_Src = some m.cls) (hT : ∀ w ∈ TG, w.before args s = true) (hK : va_K (dC, dI) CL (TY cI cB cJ cZ) s) (hN : NW s) (hA : ∀ q : Nat, s.heap.size ≤ q → A q) (hRc : cells ≤ R.cells) (hRs : slots ≤ R.slots) (hRf : 2 ≤ R.frames) (hRl : 109 ≤ R.locals) (hNN : 152 ≤ NN) (hE : CE E tM tC kK kV A s) (hret : ∀ (x : St) (H : Heap) (locs : List Loc) (pc : Nat) (ls : Array Slot), decode b_Src_readBlock pc = .ok (.return_, 1) → post x → Wd dC dI cI cB cJ cZ ad stC kcC NN A x H → va_S A s.heap H locs → W p l e R s m args below meth c H locs cells slots Q (F0 m pc ls [])) (hrec75 : ∀ (o : Nat) (l1 : Nat) (l2 : Int32) (l3 : Int32) (l4 : Int64) (l6 : Int32) (x : St) (H : Heap) (locs : List Loc) (ls : Array Slot), (o < NN ∧ kcC o = 8) → (l1 < NN ∧ kcC l1 = 22) → rec75 o l1 l2 l3 l4 l6 x → Wd dC dI cI cB cJ cZ ad stC kcC NN A x H → va_S A s.heap H locs → lv_has ls 12 [(0, .ref (ad o)), (1, .ref (ad l1)), (2, .int l2), (3, .int l3), (4, .long l4), (6, .int l6)] → W p l e R s m args below meth c H locs cells slots Q (F0 m 75 ls [])) (hrec115 : ∀ (o : Nat) (l1 : Nat) (l2 : Int32) (l3 : Int32) (l4 : Int64) (l6 : Int32) (l7 : Int32) (l8 : Int32) (l9 : Int32) (x : St) (H : Heap) (locs : List Loc) (ls : Array Slot), (o < NN ∧ kcC o = 8) → (l1 < NN ∧ kcC l1 = 22) → rec115 o l1 l2 l3 l4 l6 l7 l8 l9 x → Wd dC dI cI cB cJ cZ ad stC kcC NN A x H → va_S A s.heap H locs → lv_has ls 12 [(0, .ref (ad o)), (1, .ref (ad l1)), (2, .int l2), (3, .int l3), (4, .long l4), (6, .int l6), (7, .int l7), (8, .int l8), (9, .int l9)] → W p l e R s m args below meth c H locs cells slots Q (F0 m 115 ls [])) : ∀ (o : Nat) (l1 : Nat) (l2 : Int32) (l3 : Int32) (l4 : Int64) (l6 : Int32) (l7 : Int32) (l8 : Int32) (l9 : Int32) (l10 : Int64) (x : St) (H : Heap) (locs : List Loc) (ls : Array Slot), (o < NN ∧ kcC o = 8) → (l1 < NN ∧ kcC l1 = 22) → j_Src_readBlock_186 post rec75 rec115 o l1 l2 l3 l4 l6 l7 l8 l9 l10 x → Wd dC dI cI cB cJ cZ ad stC kcC NN A x H → va_S A s.heap H locs → lv_has ls 12 [(0, .ref (ad o)), (1, .ref (ad l1)), (2, .int l2), (3, .int l3), (4, .long l4), (6, .int l6), (7, .int l7), (8, .int l8), (9, .int l9), (10, .long l10)] → W p l e R s m args below meth c H locs cells slots Q (F0 m 186 ls []) := by
  intro o l1 l2 l3 l4 l6 l7 l8 l9 l10 x H locs ls fo fl1 hw hW hS hl
  unfold j_Src_readBlock_186 at hw
  refine lv_iinc (v := (l9 + 1)) (lv' := [(9, .int (l9 + 1)), (0, .ref (ad o)), (1, .ref (ad l1)), (2, .int l2), (3, .int l3), (4, .long l4), (6, .int l6), (7, .int l7), (8, .int l8), (10, .long l10)]) hx hb d_Src_readBlock_186 hl (k := 8) rfl rfl (by decide) rfl (fun ls hl => ?_)
  refine lv_goto (tgt := 115) hx hb d_Src_readBlock_189 (by decide) ?_
  exact hrec115 o l1 l2 l3 l4 l6 l7 l8 (l9 + 1) x H locs ls fo fl1 hw hW hS (lv_sub hl [1, 2, 3, 4, 5, 6, 7, 8, 0] rfl)
set_option maxRecDepth 100000 in
set_option maxHeartbeats 4000000 in
set_option maxRecDepth 100000 in
theorem t_Src_readBlock_182 {p : Program} {l : Launch} {e : Env} {R : Room} {s : State} {m : MethodId} {args : Array Value} {below : List Frame} {meth : Method} {c : Code} {cells slots : Nat} {Q : State → Prop} {dC : Nat → ClassId} {dI : Nat → Nat → Nat} {cI cB cJ cZ : ClassId} {A : Nat → Prop} {ad : Nat → Nat} {NN : Nat} {E : Heap} {tM tC : Nat} {kK kV : Nat → Nat} {post : St → Prop} {rec75 : Nat → Nat → Int32 → Int32 → Int64 → Int32 → St → Prop} {rec115 : Nat → Nat → Int32 → Int32 → Int64 → Int32 → Int32 → Int32 → Int32 → St → Prop} (hx : p.tables.exec = Jvm.exec) (hb : c.code = b_Src_readBlock) (hml : c.maxLocals = 12) (hown : s.vm.findClass R_Src = some m.cls) (hT : ∀ w ∈ TG, w.before args s = true) (hK : va_K (dC, dI) CL (TY cI cB cJ cZ) s) (hN : NW s) (hA : ∀ q : Nat, s.heap.size ≤ q → A q) (hRc : cells ≤ R.cells) (hRs : slots ≤ R.slots) (hRf : 2 ≤ R.frames) (hRl : 109 ≤ R.locals) (hNN : 152 ≤ NN) (hE : CE E tM tC kK kV A s) (hret : ∀ (x : St) (H : Heap) (locs : List Loc) (pc : Nat) (ls : Array Slot), decode b_Src_readBlock pc = .ok (.return_, 1) → post x → Wd dC dI cI cB cJ cZ ad stC kcC NN A x H → va_S A s.heap H locs → W p l e R s m args below meth c H locs cells slots Q (F0 m pc ls [])) (hrec75 : ∀ (o : Nat) (l1 : Nat) (l2 : Int32) (l3 : Int32) (l4 : Int64) (l6 : Int32) (x : St) (H : Heap) (locs : List Loc) (ls : Array Slot), (o < NN ∧ kcC o = 8) → (l1 < NN ∧ kcC l1 = 22) → rec75 o l1 l2 l3 l4 l6 x → Wd dC dI cI cB cJ cZ ad stC kcC NN A x H → va_S A s.heap H locs → lv_has ls 12 [(0, .ref (ad o)), (1, .ref (ad l1)), (2, .int l2), (3, .int l3), (4, .long l4), (6, .int l6)] → W p l e R s m args below meth c H locs cells slots Q (F0 m 75 ls [])) (hrec115 : ∀ (o : Nat) (l1 : Nat) (l2 : Int32) (l3 : Int32) (l4 : Int64) (l6 : Int32) (l7 : Int32) (l8 : Int32) (l9 : Int32) (x : St) (H : Heap) (locs : List Loc) (ls : Array Slot), (o < NN ∧ kcC o = 8) → (l1 < NN ∧ kcC l1 = 22) → rec115 o l1 l2 l3 l4 l6 l7 l8 l9 x → Wd dC dI cI cB cJ cZ ad stC kcC NN A x H → va_S A s.heap H locs → lv_has ls 12 [(0, .ref (ad o)), (1, .ref (ad l1)), (2, .int l2), (3, .int l3), (4, .long l4), (6, .int l6), (7, .int l7), (8, .int l8), (9, .int l9)] → W p l e R s m args below meth c H locs cells slots Q (F0 m 115 ls [])) : ∀ (o : Nat) (l1 : Nat) (l2 : Int32) (l3 : Int32) (l4 : Int64) (l6 : Int32) (l7 : Int32) (l8 : Int32) (l9 : Int32) (l10 : Int64) (s0 : Int32) (s1 : Nat) (x : St) (H : Heap) (locs : List Loc) (ls : Array Slot), (o < NN ∧ kcC o = 8) → (l1 < NN ∧ kcC l1 = 22) → (s1 < NN ∧ kcC s1 = 8) → j_Src_readBlock_182 post rec75 rec115 o l1 l2 l3 l4 l6 l7 l8 l9 l10 s0 s1 x → Wd dC dI cI cB cJ cZ ad stC kcC NN A x H → va_S A s.heap H locs → lv_has ls 12 [(0, .ref (ad o)), (1, .ref (ad l1)), (2, .int l2), (3, .int l3), (4, .long l4), (6, .int l6), (7, .int l7), (8, .int l8), (9, .int l9), (10, .long l10)] → W p l e R s m args below meth c H locs cells slots Q (F0 m 182 ls [.int s0, .ref (ad s1)]) := by
  intro o l1 l2 l3 l4 l6 l7 l8 l9 l10 s0 s1 x H locs ls fo fl1 fs1 hw hW hS hl
  unfold j_Src_readBlock_182 at hw
  refine lv_iconst (v := 5) hx hb d_Src_readBlock_182 (by decide) ?_
  have hF := hW.free hS hA
  refine va_callv (va_runV (C := R_Src) (As := [.int s0, .int 5]) (rest := []) ⟨hx, hb, hml, hown, hT⟩ (k_Src_check l dC dI cI cB cJ cZ ad NN E tM tC kK kV hNN H.size s1 s0 5 x fs1 hw) ⟨callB_of 2 hT (gwt_in w_6_116) rfl rfl rfl (hT _ w_1_11) (hT _ w_6_156) (by decide +kernel) ⟨Nat.le_trans (Nat.le_of_ble_eq_true rfl) hRf, Nat.le_trans (Nat.le_of_ble_eq_true rfl) hRl⟩, hT _ w_6_114, hT _ w_6_115⟩ ⟨PVc.blind, va_recv hK hW.1 (ci := 8) (q0 := s1) rfl (pic_obj fs1.1 fs1.2 (by decide)), PVc.at _ hW hK hN hE hS hF⟩ rfl rfl hl.1 rfl (lv_room (Nat.le_of_ble_eq_true rfl)) d_Src_readBlock_183 ⟨hRc, hRs⟩) hS (fun q _ h => hF q h) hF (fun  x1 t H locs ht hvm hw hB hz1 hk1 hS => ?_)
  have hW := Wd.back hB ht hF
  clear hB ht hF hz1 hk1 hvm
  exact t_Src_readBlock_186 hx hb hml hown hT hK hN hA hRc hRs hRf hRl hNN hE hret hrec75 hrec115 o l1 l2 l3 l4 l6 l7 l8 l9 l10 x1 H locs ls fo fl1 hw hW hS (lv_sub hl [0, 1, 2, 3, 4, 5, 6, 7, 8, 9] rfl)
set_option maxRecDepth 100000 in
set_option maxHeartbeats 4000000 in
set_option maxRecDepth 100000 in
theorem t_Src_readBlock_115 {p : Program} {l : Launch} {e : Env} {R : Room} {s : State} {m : MethodId} {args : Array Value} {below : List Frame} {meth : Method} {c : Code} {cells slots : Nat} {Q : State → Prop} {dC : Nat → ClassId} {dI : Nat → Nat → Nat} {cI cB cJ cZ : ClassId} {A : Nat → Prop} {ad : Nat → Nat} {NN : Nat} {E : Heap} {tM tC : Nat} {kK kV : Nat → Nat} {post : St → Prop} {rec75 : Nat → Nat → Int32 → Int32 → Int64 → Int32 → St → Prop} {rec115 : Nat → Nat → Int32 → Int32 → Int64 → Int32 → Int32 → Int32 → Int32 → St → Prop} (hx : p.tables.exec = Jvm.exec) (hb : c.code = b_Src_readBlock) (hml : c.maxLocals = 12) (hown : s.vm.findClass R_Src = some m.cls) (hT : ∀ w ∈ TG, w.before args s = true) (hK : va_K (dC, dI) CL (TY cI cB cJ cZ) s) (hN : NW s) (hA : ∀ q : Nat, s.heap.size ≤ q → A q) (hRc : cells ≤ R.cells) (hRs : slots ≤ R.slots) (hRf : 2 ≤ R.frames) (hRl : 109 ≤ R.locals) (hNN : 152 ≤ NN) (hE : CE E tM tC kK kV A s) (hret : ∀ (x : St) (H : Heap) (locs : List Loc) (pc : Nat) (ls : Array Slot), decode b_Src_readBlock pc = .ok (.return_, 1) → post x → Wd dC dI cI cB cJ cZ ad stC kcC NN A x H → va_S A s.heap H locs → W p l e R s m args below meth c H locs cells slots Q (F0 m pc ls [])) (hrec75 : ∀ (o : Nat) (l1 : Nat) (l2 : Int32) (l3 : Int32) (l4 : Int64) (l6 : Int32) (x : St) (H : Heap) (locs : List Loc) (ls : Array Slot), (o < NN ∧ kcC o = 8) → (l1 < NN ∧ kcC l1 = 22) → rec75 o l1 l2 l3 l4 l6 x → Wd dC dI cI cB cJ cZ ad stC kcC NN A x H → va_S A s.heap H locs → lv_has ls 12 [(0, .ref (ad o)), (1, .ref (ad l1)), (2, .int l2), (3, .int l3), (4, .long l4), (6, .int l6)] → W p l e R s m args below meth c H locs cells slots Q (F0 m 75 ls [])) (hrec115 : ∀ (o : Nat) (l1 : Nat) (l2 : Int32) (l3 : Int32) (l4 : Int64) (l6 : Int32) (l7 : Int32) (l8 : Int32) (l9 : Int32) (x : St) (H : Heap) (locs : List Loc) (ls : Array Slot), (o < NN ∧ kcC o = 8) → (l1 < NN ∧ kcC l1 = 22) → rec115 o l1 l2 l3 l4 l6 l7 l8 l9 x → Wd dC dI cI cB cJ cZ ad stC kcC NN A x H → va_S A s.heap H locs → lv_has ls 12 [(0, .ref (ad o)), (1, .ref (ad l1)), (2, .int l2), (3, .int l3), (4, .long l4), (6, .int l6), (7, .int l7), (8, .int l8), (9, .int l9)] → W p l e R s m args below meth c H locs cells slots Q (F0 m 115 ls [])) : ∀ (o : Nat) (l1 : Nat) (l2 : Int32) (l3 : Int32) (l4 : Int64) (l6 : Int32) (l7 : Int32) (l8 : Int32) (l9 : Int32) (x : St) (H : Heap) (locs : List Loc) (ls : Array Slot), (o < NN ∧ kcC o = 8) → (l1 < NN ∧ kcC l1 = 22) → j_Src_readBlock_115 post rec75 rec115 o l1 l2 l3 l4 l6 l7 l8 l9 x → Wd dC dI cI cB cJ cZ ad stC kcC NN A x H → va_S A s.heap H locs → lv_has ls 12 [(0, .ref (ad o)), (1, .ref (ad l1)), (2, .int l2), (3, .int l3), (4, .long l4), (6, .int l6), (7, .int l7), (8, .int l8), (9, .int l9)] → W p l e R s m args below meth c H locs cells slots Q (F0 m 115 ls []) := by
  intro o l1 l2 l3 l4 l6 l7 l8 l9 x H locs ls fo fl1 hw hW hS hl
  unfold j_Src_readBlock_115 at hw
  refine lv_iload hx hb d_Src_readBlock_115 (lv_at hl 8 rfl) ?_
  refine lv_bipush (v := 16) hx hb d_Src_readBlock_117 (by decide) ?_
  refine lv_icmp_ge (tgt := 192) hx hb d_Src_readBlock_119 (by decide) (fun c2 => ?_) (fun c2 => ?_)
  · have hw := hw.1 c2
    refine lv_aload_n hx hb d_Src_readBlock_192 rfl (lv_at hl 0 rfl) ?_
    refine lv_dup hx hb d_Src_readBlock_193 rfl ?_
    refine w_geti (k := 1) (t := 8) (C := R_Src) (T := F_Src) (N := 5) hx hb hT hown hK hW fo.1 fo.2 (by decide) in_Src rfl rfl (by decide) rfl fr_Src_1 w_2_237 d_Src_readBlock_194 ?_
    refine lv_iconst (v := 2) hx hb d_Src_readBlock_197 (by decide) ?_
    refine lv_iload hx hb d_Src_readBlock_198 (lv_at hl 6 rfl) ?_
    refine lv_imul hx hb d_Src_readBlock_200 ?_
    refine lv_iadd hx hb d_Src_readBlock_201 ?_
    refine w_puti (ty := .int) (k := 1) (t := 8) (C := R_Src) (T := F_Src) (N := 5) hx hb hT hown hK hW hS fo.1 fo.2 (by decide) in_Src t_Src t_Src_ok n_Src rfl rfl (by decide) rfl fr_Src_1 w_2_237 (by decide +kernel) rfl rfl d_Src_readBlock_202 (fun H locs hW hS => ?_)
    obtain ⟨x3, ex3⟩ : ∃ y : St, y = setI x o 1 ((fI x o 1) + (2 * l7)) := ⟨_, rfl⟩
    rw [← ex3] at hW
    have hw := hw x3 ex3
    refine lv_iinc (v := (l6 + 1)) (lv' := [(6, .int (l6 + 1)), (0, .ref (ad o)), (1, .ref (ad l1)), (2, .int l2), (3, .int l3), (4, .long l4), (7, .int l7), (8, .int l8), (9, .int l9)]) hx hb d_Src_readBlock_205 hl (k := 5) rfl rfl (by decide) rfl (fun ls hl => ?_)
    refine lv_goto (tgt := 75) hx hb d_Src_readBlock_208 (by decide) ?_
    exact hrec75 o l1 l2 l3 l4 (l6 + 1) x3 H locs ls fo fl1 hw hW hS (lv_sub hl [1, 2, 3, 4, 5, 0] rfl)
  · have hw := hw.2 c2
    refine lv_aload_n hx hb d_Src_readBlock_122 rfl (lv_at hl 0 rfl) ?_
    refine lv_iload hx hb d_Src_readBlock_123 (lv_at hl 8 rfl) ?_
    refine lv_iload hx hb d_Src_readBlock_125 (lv_at hl 6 rfl) ?_
    refine lv_imul hx hb d_Src_readBlock_127 ?_
    refine lv_iload hx hb d_Src_readBlock_128 (lv_at hl 6 rfl) ?_
    have hF := hW.free hS hA
    refine va_calll (va_runV (C := R_Src) (As := [.int (l9 * l7), .int l7]) (rest := []) ⟨hx, hb, hml, hown, hT⟩ (k_Src_bitsAt l dC dI cI cB cJ cZ ad NN E tM tC kK kV hNN H.size o (l9 * l7) l7 x fo hw) ⟨callB_of 2 hT (gwt_in w_6_215) rfl rfl rfl (hT _ w_1_11) (hT _ w_6_212) (by decide +kernel) ⟨Nat.le_trans (Nat.le_of_ble_eq_true rfl) hRf, Nat.le_trans (Nat.le_of_ble_eq_true rfl) hRl⟩, hT _ w_6_214, hT _ ws_45⟩ ⟨PVc.blind, va_recv hK hW.1 (ci := 8) (q0 := o) rfl (pic_obj fo.1 fo.2 (by decide)), PVc.at _ hW hK hN hE hS hF⟩ rfl rfl hl.1 rfl (lv_room (Nat.le_of_ble_eq_true rfl)) d_Src_readBlock_130 ⟨hRc, hRs⟩) hS (fun q _ h => hF q h) hF (fun r5 x4 t H locs ht hvm hw hB hz1 hk1 hS => ?_)
    have hW := Wd.back hB ht hF
    clear hB ht hF hz1 hk1 hvm
    refine lv_lstore (lv' := [(10, .long r5), (0, .ref (ad o)), (1, .ref (ad l1)), (2, .int l2), (3, .int l3), (4, .long l4), (6, .int l6), (7, .int l7), (8, .int l8), (9, .int l9)]) hx hb d_Src_readBlock_133 hl (by decide) rfl (fun ls hl => ?_)
    refine lv_iload hx hb d_Src_readBlock_135 (lv_at hl 8 rfl) ?_
    refine lv_iload hx hb d_Src_readBlock_137 (lv_at hl 9 rfl) ?_
    refine lv_iadd hx hb d_Src_readBlock_139 ?_
    refine lv_iload_n hx hb d_Src_readBlock_140 rfl (lv_at hl 4 rfl) ?_
    refine lv_icmp_ge (tgt := 169) hx hb d_Src_readBlock_141 (by decide) (fun c6 => ?_) (fun c6 => ?_)
    · have hw := hw.1 c6
      refine lv_aload_n hx hb d_Src_readBlock_169 rfl (lv_at hl 1 rfl) ?_
      refine lv_lload hx hb d_Src_readBlock_170 (lv_at hl 0 rfl) ?_
      refine lv_lconst (v := 0) hx hb d_Src_readBlock_172 (by decide) ?_
      refine W.lcmp hx hb d_Src_readBlock_173 ?_
      refine lv_if_ne (tgt := 181) hx hb d_Src_readBlock_174 (by decide) (fun c7 => ?_) (fun c7 => ?_)
      · have hw := hw.1 c7
        refine lv_iconst (v := 0) hx hb d_Src_readBlock_181 (by decide) ?_
        exact t_Src_readBlock_182 hx hb hml hown hT hK hN hA hRc hRs hRf hRl hNN hE hret hrec75 hrec115 o l1 l2 l3 l4 l6 l7 l8 l9 r5 0 o x4 H locs ls fo fl1 fo hw hW hS (lv_sub hl [1, 2, 3, 4, 5, 6, 7, 8, 9, 0] rfl)
      · have hw := hw.2 c7
        refine lv_iconst (v := 1) hx hb d_Src_readBlock_177 (by decide) ?_
        refine lv_goto (tgt := 182) hx hb d_Src_readBlock_178 (by decide) ?_
        exact t_Src_readBlock_182 hx hb hml hown hT hK hN hA hRc hRs hRf hRl hNN hE hret hrec75 hrec115 o l1 l2 l3 l4 l6 l7 l8 l9 r5 1 o x4 H locs ls fo fl1 fo hw hW hS (lv_sub hl [1, 2, 3, 4, 5, 6, 7, 8, 9, 0] rfl)
    · have hw := hw.2 c6
      refine lv_aload_n hx hb d_Src_readBlock_144 rfl (lv_at hl 2 rfl) ?_
      refine lv_iload hx hb d_Src_readBlock_145 (lv_at hl 8 rfl) ?_
      refine lv_iload hx hb d_Src_readBlock_147 (lv_at hl 9 rfl) ?_
      refine lv_iadd hx hb d_Src_readBlock_149 ?_
      refine lv_aload_n hx hb d_Src_readBlock_150 rfl (lv_at hl 2 rfl) ?_
      refine lv_iload hx hb d_Src_readBlock_151 (lv_at hl 8 rfl) ?_
      refine lv_iload hx hb d_Src_readBlock_153 (lv_at hl 9 rfl) ?_
      refine lv_iadd hx hb d_Src_readBlock_155 ?_
      refine lv_iconst (v := 1) hx hb d_Src_readBlock_156 (by decide) ?_
      refine lv_isub hx hb d_Src_readBlock_157 ?_
      obtain ⟨hi, hw⟩ := hw
      refine w_lald (o := l1) hx hb hK hW fl1.1 fl1.2 hi d_Src_readBlock_158 ?_
      refine lv_lload hx hb d_Src_readBlock_159 (lv_at hl 5 rfl) ?_
      refine lv_ladd hx hb d_Src_readBlock_161 ?_
      refine lv_lload hx hb d_Src_readBlock_162 (lv_at hl 0 rfl) ?_
      refine lv_ladd hx hb d_Src_readBlock_164 ?_
      obtain ⟨hi, hw⟩ := hw
      refine w_last (o := l1) hx hb hK hW hS fl1.1 fl1.2 hi d_Src_readBlock_165 (fun H locs hW hS => ?_)
      obtain ⟨x8, ex8⟩ : ∃ y : St, y = setL x4 l1 (l8 + l9) (((rL x4 l1 ((l8 + l9) - 1)) + l4) + r5) := ⟨_, rfl⟩
      rw [← ex8] at hW
      have hw := hw x8 ex8
      refine lv_goto (tgt := 186) hx hb d_Src_readBlock_166 (by decide) ?_
      exact t_Src_readBlock_186 hx hb hml hown hT hK hN hA hRc hRs hRf hRl hNN hE hret hrec75 hrec115 o l1 l2 l3 l4 l6 l7 l8 l9 r5 x8 H locs ls fo fl1 hw hW hS (lv_sub hl [1, 2, 3, 4, 5, 6, 7, 8, 9, 0] rfl)
set_option maxHeartbeats 4000000 in
set_option maxRecDepth 100000 in
theorem tl_Src_readBlock_115 {p : Program} {l : Launch} {e : Env} {R : Room} {s : State} {m : MethodId} {args : Array Value} {below : List Frame} {meth : Method} {c : Code} {cells slots : Nat} {Q : State → Prop} {dC : Nat → ClassId} {dI : Nat → Nat → Nat} {cI cB cJ cZ : ClassId} {A : Nat → Prop} {ad : Nat → Nat} {NN : Nat} {E : Heap} {tM tC : Nat} {kK kV : Nat → Nat} {post : St → Prop} {rec75 : Nat → Nat → Int32 → Int32 → Int64 → Int32 → St → Prop} (hx : p.tables.exec = Jvm.exec) (hb : c.code = b_Src_readBlock) (hml : c.maxLocals = 12) (hown : s.vm.findClass R_Src = some m.cls) (hT : ∀ w ∈ TG, w.before args s = true) (hK : va_K (dC, dI) CL (TY cI cB cJ cZ) s) (hN : NW s) (hA : ∀ q : Nat, s.heap.size ≤ q → A q) (hRc : cells ≤ R.cells) (hRs : slots ≤ R.slots) (hRf : 2 ≤ R.frames) (hRl : 109 ≤ R.locals) (hNN : 152 ≤ NN) (hE : CE E tM tC kK kV A s) (hret : ∀ (x : St) (H : Heap) (locs : List Loc) (pc : Nat) (ls : Array Slot), decode b_Src_readBlock pc = .ok (.return_, 1) → post x → Wd dC dI cI cB cJ cZ ad stC kcC NN A x H → va_S A s.heap H locs → W p l e R s m args below meth c H locs cells slots Q (F0 m pc ls [])) (hrec75 : ∀ (o : Nat) (l1 : Nat) (l2 : Int32) (l3 : Int32) (l4 : Int64) (l6 : Int32) (x : St) (H : Heap) (locs : List Loc) (ls : Array Slot), (o < NN ∧ kcC o = 8) → (l1 < NN ∧ kcC l1 = 22) → rec75 o l1 l2 l3 l4 l6 x → Wd dC dI cI cB cJ cZ ad stC kcC NN A x H → va_S A s.heap H locs → lv_has ls 12 [(0, .ref (ad o)), (1, .ref (ad l1)), (2, .int l2), (3, .int l3), (4, .long l4), (6, .int l6)] → W p l e R s m args below meth c H locs cells slots Q (F0 m 75 ls [])) : ∀ n : Nat, ∀ (o : Nat) (l1 : Nat) (l2 : Int32) (l3 : Int32) (l4 : Int64) (l6 : Int32) (l7 : Int32) (l8 : Int32) (l9 : Int32) (x : St) (H : Heap) (locs : List Loc) (ls : Array Slot), (o < NN ∧ kcC o = 8) → (l1 < NN ∧ kcC l1 = 22) → wl_Src_readBlock_115 post rec75 n o l1 l2 l3 l4 l6 l7 l8 l9 x → Wd dC dI cI cB cJ cZ ad stC kcC NN A x H → va_S A s.heap H locs → lv_has ls 12 [(0, .ref (ad o)), (1, .ref (ad l1)), (2, .int l2), (3, .int l3), (4, .long l4), (6, .int l6), (7, .int l7), (8, .int l8), (9, .int l9)] → W p l e R s m args below meth c H locs cells slots Q (F0 m 115 ls []) := by
  intro n
  induction n with
  | zero => intro o l1 l2 l3 l4 l6 l7 l8 l9 x H locs ls fo fl1 hw; exact hw.elim
  | succ n ih => intro o l1 l2 l3 l4 l6 l7 l8 l9 x H locs ls fo fl1 hw hW hS hl; exact t_Src_readBlock_115 hx hb hml hown hT hK hN hA hRc hRs hRf hRl hNN hE hret hrec75 ih o l1 l2 l3 l4 l6 l7 l8 l9 x H locs ls fo fl1 hw hW hS hl
set_option maxRecDepth 100000 in
set_option maxHeartbeats 4000000 in
set_option maxRecDepth 100000 in
theorem t_Src_readBlock_75 {p : Program} {l : Launch} {e : Env} {R : Room} {s : State} {m : MethodId} {args : Array Value} {below : List Frame} {meth : Method} {c : Code} {cells slots : Nat} {Q : State → Prop} {dC : Nat → ClassId} {dI : Nat → Nat → Nat} {cI cB cJ cZ : ClassId} {A : Nat → Prop} {ad : Nat → Nat} {NN : Nat} {E : Heap} {tM tC : Nat} {kK kV : Nat → Nat} {post : St → Prop} {rec75 : Nat → Nat → Int32 → Int32 → Int64 → Int32 → St → Prop} (hx : p.tables.exec = Jvm.exec) (hb : c.code = b_Src_readBlock) (hml : c.maxLocals = 12) (hown : s.vm.findClass R_Src = some m.cls) (hT : ∀ w ∈ TG, w.before args s = true) (hK : va_K (dC, dI) CL (TY cI cB cJ cZ) s) (hN : NW s) (hA : ∀ q : Nat, s.heap.size ≤ q → A q) (hRc : cells ≤ R.cells) (hRs : slots ≤ R.slots) (hRf : 2 ≤ R.frames) (hRl : 109 ≤ R.locals) (hNN : 152 ≤ NN) (hE : CE E tM tC kK kV A s) (hret : ∀ (x : St) (H : Heap) (locs : List Loc) (pc : Nat) (ls : Array Slot), decode b_Src_readBlock pc = .ok (.return_, 1) → post x → Wd dC dI cI cB cJ cZ ad stC kcC NN A x H → va_S A s.heap H locs → W p l e R s m args below meth c H locs cells slots Q (F0 m pc ls [])) (hrec75 : ∀ (o : Nat) (l1 : Nat) (l2 : Int32) (l3 : Int32) (l4 : Int64) (l6 : Int32) (x : St) (H : Heap) (locs : List Loc) (ls : Array Slot), (o < NN ∧ kcC o = 8) → (l1 < NN ∧ kcC l1 = 22) → rec75 o l1 l2 l3 l4 l6 x → Wd dC dI cI cB cJ cZ ad stC kcC NN A x H → va_S A s.heap H locs → lv_has ls 12 [(0, .ref (ad o)), (1, .ref (ad l1)), (2, .int l2), (3, .int l3), (4, .long l4), (6, .int l6)] → W p l e R s m args below meth c H locs cells slots Q (F0 m 75 ls [])) : ∀ (o : Nat) (l1 : Nat) (l2 : Int32) (l3 : Int32) (l4 : Int64) (l6 : Int32) (x : St) (H : Heap) (locs : List Loc) (ls : Array Slot), (o < NN ∧ kcC o = 8) → (l1 < NN ∧ kcC l1 = 22) → j_Src_readBlock_75 post rec75 o l1 l2 l3 l4 l6 x → Wd dC dI cI cB cJ cZ ad stC kcC NN A x H → va_S A s.heap H locs → lv_has ls 12 [(0, .ref (ad o)), (1, .ref (ad l1)), (2, .int l2), (3, .int l3), (4, .long l4), (6, .int l6)] → W p l e R s m args below meth c H locs cells slots Q (F0 m 75 ls []) := by
  intro o l1 l2 l3 l4 l6 x H locs ls fo fl1 hw hW hS hl
  unfold j_Src_readBlock_75 at hw
  refine lv_iload hx hb d_Src_readBlock_75 (lv_at hl 5 rfl) ?_
  refine lv_iconst (v := 4) hx hb d_Src_readBlock_77 (by decide) ?_
  refine lv_icmp_ge (tgt := 211) hx hb d_Src_readBlock_78 (by decide) (fun c9 => ?_) (fun c9 => ?_)
  · have hw := hw.1 c9
    exact hret x H locs 211 ls d_Src_readBlock_211 hw hW hS
  · have hw := hw.2 c9
    refine lv_aload_n hx hb d_Src_readBlock_81 rfl (lv_at hl 0 rfl) ?_
    refine w_getf (q := (stC o 4)) (k := 4) (t := 8) (C := R_Src) (T := F_Src) (N := 5) hx hb hT hown hK hW fo.1 fo.2 (by decide) in_Src rfl rfl (by decide) rfl fr_Src_4 w_3_3 d_Src_readBlock_82 rfl ?_
    refine lv_iload hx hb d_Src_readBlock_85 (lv_at hl 5 rfl) ?_
    obtain ⟨hi, hw⟩ := hw
    refine w_iald (o := (stC o 4)) hx hb hK hW (st_ty hNN fo.1 fo.2 rfl).1 (st_ty hNN fo.1 fo.2 rfl).2 hi d_Src_readBlock_87 ?_
    refine lv_topi (fun v10 ev10 => ?_)
    have hw := hw v10 ev10
    refine lv_istore (lv' := [(7, .int v10), (0, .ref (ad o)), (1, .ref (ad l1)), (2, .int l2), (3, .int l3), (4, .long l4), (6, .int l6)]) hx hb d_Src_readBlock_88 hl (by decide) rfl (fun ls hl => ?_)
    refine lv_iload_n hx hb d_Src_readBlock_90 rfl (lv_at hl 3 rfl) ?_
    refine lv_bipush (v := 16) hx hb d_Src_readBlock_91 (by decide) ?_
    refine lv_iload hx hb d_Src_readBlock_93 (lv_at hl 6 rfl) ?_
    refine lv_imul hx hb d_Src_readBlock_95 ?_
    refine lv_iadd hx hb d_Src_readBlock_96 ?_
    refine lv_topi (fun v11 ev11 => ?_)
    have hw := hw v11 ev11
    refine lv_istore (lv' := [(8, .int v11), (7, .int v10), (0, .ref (ad o)), (1, .ref (ad l1)), (2, .int l2), (3, .int l3), (4, .long l4), (6, .int l6)]) hx hb d_Src_readBlock_97 hl (by decide) rfl (fun ls hl => ?_)
    refine lv_aload_n hx hb d_Src_readBlock_99 rfl (lv_at hl 2 rfl) ?_
    refine lv_iconst (v := 2) hx hb d_Src_readBlock_100 (by decide) ?_
    refine lv_iload hx hb d_Src_readBlock_101 (lv_at hl 1 rfl) ?_
    refine lv_imul hx hb d_Src_readBlock_103 ?_
    refine lv_i2l hx hb d_Src_readBlock_104 rfl ?_
    have hF := hW.free hS hA
    refine va_calli (va_runV (C := R_Src) (As := [.long ((2 * v10) : Int32).toInt64]) (rest := []) ⟨hx, hb, hml, hown, hT⟩ (k_Src_has l dC dI cI cB cJ cZ ad NN E tM tC kK kV hNN H.size o ((2 * v10) : Int32).toInt64 x fo hw) ⟨callB_of 1 hT (gwt_in w_6_128) rfl rfl rfl (hT _ w_1_11) (hT _ w_6_157) (by decide +kernel) ⟨Nat.le_trans (Nat.le_of_ble_eq_true rfl) hRf, Nat.le_trans (Nat.le_of_ble_eq_true rfl) hRl⟩, hT _ w_6_126, hT _ w_6_127⟩ ⟨PVc.blind, va_recv hK hW.1 (ci := 8) (q0 := o) rfl (pic_obj fo.1 fo.2 (by decide)), PVc.at _ hW hK hN hE hS hF⟩ rfl rfl hl.1 rfl (lv_room (Nat.le_of_ble_eq_true rfl)) d_Src_readBlock_105 ⟨hRc, hRs⟩) hS (fun q _ h => hF q h) hF (fun r13 x12 t H locs ht hvm hw hB hz1 hk1 hS => ?_)
    have hW := Wd.back hB ht hF
    clear hB ht hF hz1 hk1 hvm
    refine lv_if_ne (tgt := 112) hx hb d_Src_readBlock_108 (by decide) (fun c14 => ?_) (fun c14 => ?_)
    · have hw := hw.1 c14
      refine lv_iconst (v := 0) hx hb d_Src_readBlock_112 (by decide) ?_
      refine lv_istore (lv' := [(9, .int 0), (8, .int v11), (7, .int v10), (0, .ref (ad o)), (1, .ref (ad l1)), (2, .int l2), (3, .int l3), (4, .long l4), (6, .int l6)]) hx hb d_Src_readBlock_113 hl (by decide) rfl (fun ls hl => ?_)
      obtain ⟨n, hw⟩ := hw
      exact tl_Src_readBlock_115 hx hb hml hown hT hK hN hA hRc hRs hRf hRl hNN hE hret hrec75 n o l1 l2 l3 l4 l6 v10 v11 0 x12 H locs ls fo fl1 hw hW hS (lv_sub hl [3, 4, 5, 6, 7, 8, 2, 1, 0] rfl)
    · have hw := hw.2 c14
      exact hret x12 H locs 111 ls d_Src_readBlock_111 hw hW hS
set_option maxHeartbeats 4000000 in
set_option maxRecDepth 100000 in
theorem tl_Src_readBlock_75 {p : Program} {l : Launch} {e : Env} {R : Room} {s : State} {m : MethodId} {args : Array Value} {below : List Frame} {meth : Method} {c : Code} {cells slots : Nat} {Q : State → Prop} {dC : Nat → ClassId} {dI : Nat → Nat → Nat} {cI cB cJ cZ : ClassId} {A : Nat → Prop} {ad : Nat → Nat} {NN : Nat} {E : Heap} {tM tC : Nat} {kK kV : Nat → Nat} {post : St → Prop} (hx : p.tables.exec = Jvm.exec) (hb : c.code = b_Src_readBlock) (hml : c.maxLocals = 12) (hown : s.vm.findClass R_Src = some m.cls) (hT : ∀ w ∈ TG, w.before args s = true) (hK : va_K (dC, dI) CL (TY cI cB cJ cZ) s) (hN : NW s) (hA : ∀ q : Nat, s.heap.size ≤ q → A q) (hRc : cells ≤ R.cells) (hRs : slots ≤ R.slots) (hRf : 2 ≤ R.frames) (hRl : 109 ≤ R.locals) (hNN : 152 ≤ NN) (hE : CE E tM tC kK kV A s) (hret : ∀ (x : St) (H : Heap) (locs : List Loc) (pc : Nat) (ls : Array Slot), decode b_Src_readBlock pc = .ok (.return_, 1) → post x → Wd dC dI cI cB cJ cZ ad stC kcC NN A x H → va_S A s.heap H locs → W p l e R s m args below meth c H locs cells slots Q (F0 m pc ls []))  : ∀ n : Nat, ∀ (o : Nat) (l1 : Nat) (l2 : Int32) (l3 : Int32) (l4 : Int64) (l6 : Int32) (x : St) (H : Heap) (locs : List Loc) (ls : Array Slot), (o < NN ∧ kcC o = 8) → (l1 < NN ∧ kcC l1 = 22) → wl_Src_readBlock_75 post n o l1 l2 l3 l4 l6 x → Wd dC dI cI cB cJ cZ ad stC kcC NN A x H → va_S A s.heap H locs → lv_has ls 12 [(0, .ref (ad o)), (1, .ref (ad l1)), (2, .int l2), (3, .int l3), (4, .long l4), (6, .int l6)] → W p l e R s m args below meth c H locs cells slots Q (F0 m 75 ls []) := by
  intro n
  induction n with
  | zero => intro o l1 l2 l3 l4 l6 x H locs ls fo fl1 hw; exact hw.elim
  | succ n ih => intro o l1 l2 l3 l4 l6 x H locs ls fo fl1 hw hW hS hl; exact t_Src_readBlock_75 hx hb hml hown hT hK hN hA hRc hRs hRf hRl hNN hE hret  ih o l1 l2 l3 l4 l6 x H locs ls fo fl1 hw hW hS hl
set_option maxRecDepth 100000 in
set_option maxHeartbeats 4000000 in
set_option maxRecDepth 100000 in
theorem t_Src_readBlock_53 {p : Program} {l : Launch} {e : Env} {R : Room} {s : State} {m : MethodId} {args : Array Value} {below : List Frame} {meth : Method} {c : Code} {cells slots : Nat} {Q : State → Prop} {dC : Nat → ClassId} {dI : Nat → Nat → Nat} {cI cB cJ cZ : ClassId} {A : Nat → Prop} {ad : Nat → Nat} {NN : Nat} {E : Heap} {tM tC : Nat} {kK kV : Nat → Nat} {post : St → Prop} {rec12 : Nat → Nat → Int32 → Int32 → Int64 → Int32 → St → Prop} (hx : p.tables.exec = Jvm.exec) (hb : c.code = b_Src_readBlock) (hml : c.maxLocals = 12) (hown : s.vm.findClass R_Src = some m.cls) (hT : ∀ w ∈ TG, w.before args s = true) (hK : va_K (dC, dI) CL (TY cI cB cJ cZ) s) (hN : NW s) (hA : ∀ q : Nat, s.heap.size ≤ q → A q) (hRc : cells ≤ R.cells) (hRs : slots ≤ R.slots) (hRf : 2 ≤ R.frames) (hRl : 109 ≤ R.locals) (hNN : 152 ≤ NN) (hE : CE E tM tC kK kV A s) (hret : ∀ (x : St) (H : Heap) (locs : List Loc) (pc : Nat) (ls : Array Slot), decode b_Src_readBlock pc = .ok (.return_, 1) → post x → Wd dC dI cI cB cJ cZ ad stC kcC NN A x H → va_S A s.heap H locs → W p l e R s m args below meth c H locs cells slots Q (F0 m pc ls [])) (hrec12 : ∀ (o : Nat) (l1 : Nat) (l2 : Int32) (l3 : Int32) (l4 : Int64) (l6 : Int32) (x : St) (H : Heap) (locs : List Loc) (ls : Array Slot), (o < NN ∧ kcC o = 8) → (l1 < NN ∧ kcC l1 = 22) → rec12 o l1 l2 l3 l4 l6 x → Wd dC dI cI cB cJ cZ ad stC kcC NN A x H → va_S A s.heap H locs → lv_has ls 12 [(0, .ref (ad o)), (1, .ref (ad l1)), (2, .int l2), (3, .int l3), (4, .long l4), (6, .int l6)] → W p l e R s m args below meth c H locs cells slots Q (F0 m 12 ls [])) : ∀ (o : Nat) (l1 : Nat) (l2 : Int32) (l3 : Int32) (l4 : Int64) (l6 : Int32) (l7 : Int32) (s0 : Int32) (s1 : Nat) (x : St) (H : Heap) (locs : List Loc) (ls : Array Slot), (o < NN ∧ kcC o = 8) → (l1 < NN ∧ kcC l1 = 22) → (s1 < NN ∧ kcC s1 = 8) → j_Src_readBlock_53 post rec12 o l1 l2 l3 l4 l6 l7 s0 s1 x → Wd dC dI cI cB cJ cZ ad stC kcC NN A x H → va_S A s.heap H locs → lv_has ls 12 [(0, .ref (ad o)), (1, .ref (ad l1)), (2, .int l2), (3, .int l3), (4, .long l4), (6, .int l6), (7, .int l7)] → W p l e R s m args below meth c H locs cells slots Q (F0 m 53 ls [.int s0, .ref (ad s1)]) := by
  intro o l1 l2 l3 l4 l6 l7 s0 s1 x H locs ls fo fl1 fs1 hw hW hS hl
  unfold j_Src_readBlock_53 at hw
  refine lv_iconst (v := 5) hx hb d_Src_readBlock_53 (by decide) ?_
  have hF := hW.free hS hA
  refine va_callv (va_runV (C := R_Src) (As := [.int s0, .int 5]) (rest := []) ⟨hx, hb, hml, hown, hT⟩ (k_Src_check l dC dI cI cB cJ cZ ad NN E tM tC kK kV hNN H.size s1 s0 5 x fs1 hw) ⟨callB_of 2 hT (gwt_in w_6_116) rfl rfl rfl (hT _ w_1_11) (hT _ w_6_156) (by decide +kernel) ⟨Nat.le_trans (Nat.le_of_ble_eq_true rfl) hRf, Nat.le_trans (Nat.le_of_ble_eq_true rfl) hRl⟩, hT _ w_6_114, hT _ w_6_115⟩ ⟨PVc.blind, va_recv hK hW.1 (ci := 8) (q0 := s1) rfl (pic_obj fs1.1 fs1.2 (by decide)), PVc.at _ hW hK hN hE hS hF⟩ rfl rfl hl.1 rfl (lv_room (Nat.le_of_ble_eq_true rfl)) d_Src_readBlock_54 ⟨hRc, hRs⟩) hS (fun q _ h => hF q h) hF (fun  x15 t H locs ht hvm hw hB hz1 hk1 hS => ?_)
  have hW := Wd.back hB ht hF
  clear hB ht hF hz1 hk1 hvm
  refine lv_aload_n hx hb d_Src_readBlock_57 rfl (lv_at hl 0 rfl) ?_
  refine w_getf (q := (stC o 4)) (k := 4) (t := 8) (C := R_Src) (T := F_Src) (N := 5) hx hb hT hown hK hW fo.1 fo.2 (by decide) in_Src rfl rfl (by decide) rfl fr_Src_4 w_3_3 d_Src_readBlock_58 rfl ?_
  refine lv_iload hx hb d_Src_readBlock_61 (lv_at hl 5 rfl) ?_
  refine lv_iload hx hb d_Src_readBlock_63 (lv_at hl 6 rfl) ?_
  obtain ⟨hi, hw⟩ := hw
  refine w_iast (o := (stC o 4)) hx hb hK hW hS (st_ty hNN fo.1 fo.2 rfl).1 (st_ty hNN fo.1 fo.2 rfl).2 hi d_Src_readBlock_65 (fun H locs hW hS => ?_)
  obtain ⟨x16, ex16⟩ : ∃ y : St, y = setA x15 (stC o 4) l6 l7 := ⟨_, rfl⟩
  rw [← ex16] at hW
  have hw := hw x16 ex16
  refine lv_iinc (v := (l6 + 1)) (lv' := [(6, .int (l6 + 1)), (0, .ref (ad o)), (1, .ref (ad l1)), (2, .int l2), (3, .int l3), (4, .long l4), (7, .int l7)]) hx hb d_Src_readBlock_66 hl (k := 5) rfl rfl (by decide) rfl (fun ls hl => ?_)
  refine lv_goto (tgt := 12) hx hb d_Src_readBlock_69 (by decide) ?_
  exact hrec12 o l1 l2 l3 l4 (l6 + 1) x16 H locs ls fo fl1 hw hW hS (lv_sub hl [1, 2, 3, 4, 5, 0] rfl)
set_option maxRecDepth 100000 in
set_option maxHeartbeats 4000000 in
set_option maxRecDepth 100000 in
theorem t_Src_readBlock_52 {p : Program} {l : Launch} {e : Env} {R : Room} {s : State} {m : MethodId} {args : Array Value} {below : List Frame} {meth : Method} {c : Code} {cells slots : Nat} {Q : State → Prop} {dC : Nat → ClassId} {dI : Nat → Nat → Nat} {cI cB cJ cZ : ClassId} {A : Nat → Prop} {ad : Nat → Nat} {NN : Nat} {E : Heap} {tM tC : Nat} {kK kV : Nat → Nat} {post : St → Prop} {rec12 : Nat → Nat → Int32 → Int32 → Int64 → Int32 → St → Prop} (hx : p.tables.exec = Jvm.exec) (hb : c.code = b_Src_readBlock) (hml : c.maxLocals = 12) (hown : s.vm.findClass R_Src = some m.cls) (hT : ∀ w ∈ TG, w.before args s = true) (hK : va_K (dC, dI) CL (TY cI cB cJ cZ) s) (hN : NW s) (hA : ∀ q : Nat, s.heap.size ≤ q → A q) (hRc : cells ≤ R.cells) (hRs : slots ≤ R.slots) (hRf : 2 ≤ R.frames) (hRl : 109 ≤ R.locals) (hNN : 152 ≤ NN) (hE : CE E tM tC kK kV A s) (hret : ∀ (x : St) (H : Heap) (locs : List Loc) (pc : Nat) (ls : Array Slot), decode b_Src_readBlock pc = .ok (.return_, 1) → post x → Wd dC dI cI cB cJ cZ ad stC kcC NN A x H → va_S A s.heap H locs → W p l e R s m args below meth c H locs cells slots Q (F0 m pc ls [])) (hrec12 : ∀ (o : Nat) (l1 : Nat) (l2 : Int32) (l3 : Int32) (l4 : Int64) (l6 : Int32) (x : St) (H : Heap) (locs : List Loc) (ls : Array Slot), (o < NN ∧ kcC o = 8) → (l1 < NN ∧ kcC l1 = 22) → rec12 o l1 l2 l3 l4 l6 x → Wd dC dI cI cB cJ cZ ad stC kcC NN A x H → va_S A s.heap H locs → lv_has ls 12 [(0, .ref (ad o)), (1, .ref (ad l1)), (2, .int l2), (3, .int l3), (4, .long l4), (6, .int l6)] → W p l e R s m args below meth c H locs cells slots Q (F0 m 12 ls [])) : ∀ (o : Nat) (l1 : Nat) (l2 : Int32) (l3 : Int32) (l4 : Int64) (l6 : Int32) (l7 : Int32) (s0 : Nat) (x : St) (H : Heap) (locs : List Loc) (ls : Array Slot), (o < NN ∧ kcC o = 8) → (l1 < NN ∧ kcC l1 = 22) → (s0 < NN ∧ kcC s0 = 8) → j_Src_readBlock_52 post rec12 o l1 l2 l3 l4 l6 l7 s0 x → Wd dC dI cI cB cJ cZ ad stC kcC NN A x H → va_S A s.heap H locs → lv_has ls 12 [(0, .ref (ad o)), (1, .ref (ad l1)), (2, .int l2), (3, .int l3), (4, .long l4), (6, .int l6), (7, .int l7)] → W p l e R s m args below meth c H locs cells slots Q (F0 m 52 ls [.ref (ad s0)]) := by
  intro o l1 l2 l3 l4 l6 l7 s0 x H locs ls fo fl1 fs0 hw hW hS hl
  unfold j_Src_readBlock_52 at hw
  refine lv_iconst (v := 0) hx hb d_Src_readBlock_52 (by decide) ?_
  exact t_Src_readBlock_53 hx hb hml hown hT hK hN hA hRc hRs hRf hRl hNN hE hret hrec12 o l1 l2 l3 l4 l6 l7 0 s0 x H locs ls fo fl1 fs0 hw hW hS (lv_sub hl [0, 1, 2, 3, 4, 5, 6] rfl)
set_option maxRecDepth 100000 in
set_option maxHeartbeats 4000000 in
set_option maxRecDepth 100000 in
theorem t_Src_readBlock_48 {p : Program} {l : Launch} {e : Env} {R : Room} {s : State} {m : MethodId} {args : Array Value} {below : List Frame} {meth : Method} {c : Code} {cells slots : Nat} {Q : State → Prop} {dC : Nat → ClassId} {dI : Nat → Nat → Nat} {cI cB cJ cZ : ClassId} {A : Nat → Prop} {ad : Nat → Nat} {NN : Nat} {E : Heap} {tM tC : Nat} {kK kV : Nat → Nat} {post : St → Prop} {rec12 : Nat → Nat → Int32 → Int32 → Int64 → Int32 → St → Prop} (hx : p.tables.exec = Jvm.exec) (hb : c.code = b_Src_readBlock) (hml : c.maxLocals = 12) (hown : s.vm.findClass R_Src = some m.cls) (hT : ∀ w ∈ TG, w.before args s = true) (hK : va_K (dC, dI) CL (TY cI cB cJ cZ) s) (hN : NW s) (hA : ∀ q : Nat, s.heap.size ≤ q → A q) (hRc : cells ≤ R.cells) (hRs : slots ≤ R.slots) (hRf : 2 ≤ R.frames) (hRl : 109 ≤ R.locals) (hNN : 152 ≤ NN) (hE : CE E tM tC kK kV A s) (hret : ∀ (x : St) (H : Heap) (locs : List Loc) (pc : Nat) (ls : Array Slot), decode b_Src_readBlock pc = .ok (.return_, 1) → post x → Wd dC dI cI cB cJ cZ ad stC kcC NN A x H → va_S A s.heap H locs → W p l e R s m args below meth c H locs cells slots Q (F0 m pc ls [])) (hrec12 : ∀ (o : Nat) (l1 : Nat) (l2 : Int32) (l3 : Int32) (l4 : Int64) (l6 : Int32) (x : St) (H : Heap) (locs : List Loc) (ls : Array Slot), (o < NN ∧ kcC o = 8) → (l1 < NN ∧ kcC l1 = 22) → rec12 o l1 l2 l3 l4 l6 x → Wd dC dI cI cB cJ cZ ad stC kcC NN A x H → va_S A s.heap H locs → lv_has ls 12 [(0, .ref (ad o)), (1, .ref (ad l1)), (2, .int l2), (3, .int l3), (4, .long l4), (6, .int l6)] → W p l e R s m args below meth c H locs cells slots Q (F0 m 12 ls [])) : ∀ (o : Nat) (l1 : Nat) (l2 : Int32) (l3 : Int32) (l4 : Int64) (l6 : Int32) (l7 : Int32) (s0 : Nat) (x : St) (H : Heap) (locs : List Loc) (ls : Array Slot), (o < NN ∧ kcC o = 8) → (l1 < NN ∧ kcC l1 = 22) → (s0 < NN ∧ kcC s0 = 8) → j_Src_readBlock_48 post rec12 o l1 l2 l3 l4 l6 l7 s0 x → Wd dC dI cI cB cJ cZ ad stC kcC NN A x H → va_S A s.heap H locs → lv_has ls 12 [(0, .ref (ad o)), (1, .ref (ad l1)), (2, .int l2), (3, .int l3), (4, .long l4), (6, .int l6), (7, .int l7)] → W p l e R s m args below meth c H locs cells slots Q (F0 m 48 ls [.ref (ad s0)]) := by
  intro o l1 l2 l3 l4 l6 l7 s0 x H locs ls fo fl1 fs0 hw hW hS hl
  unfold j_Src_readBlock_48 at hw
  refine lv_iconst (v := 1) hx hb d_Src_readBlock_48 (by decide) ?_
  refine lv_goto (tgt := 53) hx hb d_Src_readBlock_49 (by decide) ?_
  exact t_Src_readBlock_53 hx hb hml hown hT hK hN hA hRc hRs hRf hRl hNN hE hret hrec12 o l1 l2 l3 l4 l6 l7 1 s0 x H locs ls fo fl1 fs0 hw hW hS (lv_sub hl [0, 1, 2, 3, 4, 5, 6] rfl)
set_option maxRecDepth 100000 in
set_option maxHeartbeats 4000000 in
set_option maxRecDepth 100000 in
theorem t_Src_readBlock_12 {p : Program} {l : Launch} {e : Env} {R : Room} {s : State} {m : MethodId} {args : Array Value} {below : List Frame} {meth : Method} {c : Code} {cells slots : Nat} {Q : State → Prop} {dC : Nat → ClassId} {dI : Nat → Nat → Nat} {cI cB cJ cZ : ClassId} {A : Nat → Prop} {ad : Nat → Nat} {NN : Nat} {E : Heap} {tM tC : Nat} {kK kV : Nat → Nat} {post : St → Prop} {rec12 : Nat → Nat → Int32 → Int32 → Int64 → Int32 → St → Prop} (hx : p.tables.exec = Jvm.exec) (hb : c.code = b_Src_readBlock) (hml : c.maxLocals = 12) (hown : s.vm.findClass R_Src = some m.cls) (hT : ∀ w ∈ TG, w.before args s = true) (hK : va_K (dC, dI) CL (TY cI cB cJ cZ) s) (hN : NW s) (hA : ∀ q : Nat, s.heap.size ≤ q → A q) (hRc : cells ≤ R.cells) (hRs : slots ≤ R.slots) (hRf : 2 ≤ R.frames) (hRl : 109 ≤ R.locals) (hNN : 152 ≤ NN) (hE : CE E tM tC kK kV A s) (hret : ∀ (x : St) (H : Heap) (locs : List Loc) (pc : Nat) (ls : Array Slot), decode b_Src_readBlock pc = .ok (.return_, 1) → post x → Wd dC dI cI cB cJ cZ ad stC kcC NN A x H → va_S A s.heap H locs → W p l e R s m args below meth c H locs cells slots Q (F0 m pc ls [])) (hrec12 : ∀ (o : Nat) (l1 : Nat) (l2 : Int32) (l3 : Int32) (l4 : Int64) (l6 : Int32) (x : St) (H : Heap) (locs : List Loc) (ls : Array Slot), (o < NN ∧ kcC o = 8) → (l1 < NN ∧ kcC l1 = 22) → rec12 o l1 l2 l3 l4 l6 x → Wd dC dI cI cB cJ cZ ad stC kcC NN A x H → va_S A s.heap H locs → lv_has ls 12 [(0, .ref (ad o)), (1, .ref (ad l1)), (2, .int l2), (3, .int l3), (4, .long l4), (6, .int l6)] → W p l e R s m args below meth c H locs cells slots Q (F0 m 12 ls [])) : ∀ (o : Nat) (l1 : Nat) (l2 : Int32) (l3 : Int32) (l4 : Int64) (l6 : Int32) (x : St) (H : Heap) (locs : List Loc) (ls : Array Slot), (o < NN ∧ kcC o = 8) → (l1 < NN ∧ kcC l1 = 22) → j_Src_readBlock_12 post rec12 o l1 l2 l3 l4 l6 x → Wd dC dI cI cB cJ cZ ad stC kcC NN A x H → va_S A s.heap H locs → lv_has ls 12 [(0, .ref (ad o)), (1, .ref (ad l1)), (2, .int l2), (3, .int l3), (4, .long l4), (6, .int l6)] → W p l e R s m args below meth c H locs cells slots Q (F0 m 12 ls []) := by
  intro o l1 l2 l3 l4 l6 x H locs ls fo fl1 hw hW hS hl
  unfold j_Src_readBlock_12 at hw
  refine lv_iload hx hb d_Src_readBlock_12 (lv_at hl 5 rfl) ?_
  refine lv_iconst (v := 4) hx hb d_Src_readBlock_14 (by decide) ?_
  refine lv_icmp_ge (tgt := 72) hx hb d_Src_readBlock_15 (by decide) (fun c17 => ?_) (fun c17 => ?_)
  · have hw := hw.1 c17
    refine lv_iconst (v := 0) hx hb d_Src_readBlock_72 (by decide) ?_
    refine lv_istore (lv' := [(6, .int 0), (0, .ref (ad o)), (1, .ref (ad l1)), (2, .int l2), (3, .int l3), (4, .long l4)]) hx hb d_Src_readBlock_73 hl (by decide) rfl (fun ls hl => ?_)
    obtain ⟨n, hw⟩ := hw
    exact tl_Src_readBlock_75 hx hb hml hown hT hK hN hA hRc hRs hRf hRl hNN hE hret  n o l1 l2 l3 l4 0 x H locs ls fo fl1 hw hW hS (lv_sub hl [1, 2, 3, 4, 5, 0] rfl)
  · have hw := hw.2 c17
    refine lv_aload_n hx hb d_Src_readBlock_18 rfl (lv_at hl 0 rfl) ?_
    have hF := hW.free hS hA
    refine va_calli (va_runV (C := R_Src) (As := []) (rest := []) ⟨hx, hb, hml, hown, hT⟩ (k_Src_readByte l dC dI cI cB cJ cZ ad NN E tM tC kK kV hNN H.size o x fo hw) ⟨callB_of 0 hT (gwt_in w_6_124) rfl rfl rfl (hT _ w_1_11) (hT _ w_6_159) (by decide +kernel) ⟨Nat.le_trans (Nat.le_of_ble_eq_true rfl) hRf, Nat.le_trans (Nat.le_of_ble_eq_true rfl) hRl⟩, hT _ w_6_122, hT _ w_6_123⟩ ⟨PVc.blind, va_recv hK hW.1 (ci := 8) (q0 := o) rfl (pic_obj fo.1 fo.2 (by decide)), PVc.at _ hW hK hN hE hS hF⟩ rfl rfl hl.1 rfl (lv_room (Nat.le_of_ble_eq_true rfl)) d_Src_readBlock_19 ⟨hRc, hRs⟩) hS (fun q _ h => hF q h) hF (fun r19 x18 t H locs ht hvm hw hB hz1 hk1 hS => ?_)
    have hW := Wd.back hB ht hF
    clear hB ht hF hz1 hk1 hvm
    refine lv_istore (lv' := [(7, .int r19), (0, .ref (ad o)), (1, .ref (ad l1)), (2, .int l2), (3, .int l3), (4, .long l4), (6, .int l6)]) hx hb d_Src_readBlock_22 hl (by decide) rfl (fun ls hl => ?_)
    refine lv_aload_n hx hb d_Src_readBlock_24 rfl (lv_at hl 1 rfl) ?_
    refine lv_iload hx hb d_Src_readBlock_25 (lv_at hl 0 rfl) ?_
    refine lv_bipush (v := 64) hx hb d_Src_readBlock_27 (by decide) ?_
    refine lv_icmp_gt (tgt := 52) hx hb d_Src_readBlock_29 (by decide) (fun c20 => ?_) (fun c20 => ?_)
    · have hw := hw.1 c20
      exact t_Src_readBlock_52 hx hb hml hown hT hK hN hA hRc hRs hRf hRl hNN hE hret hrec12 o l1 l2 l3 l4 l6 r19 o x18 H locs ls fo fl1 fo hw hW hS (lv_sub hl [1, 2, 3, 4, 5, 6, 0] rfl)
    · have hw := hw.2 c20
      refine lv_iload hx hb d_Src_readBlock_32 (lv_at hl 0 rfl) ?_
      refine lv_if_eq (tgt := 48) hx hb d_Src_readBlock_34 (by decide) (fun c21 => ?_) (fun c21 => ?_)
      · have hw := hw.1 c21
        exact t_Src_readBlock_48 hx hb hml hown hT hK hN hA hRc hRs hRf hRl hNN hE hret hrec12 o l1 l2 l3 l4 l6 r19 o x18 H locs ls fo fl1 fo hw hW hS (lv_sub hl [1, 2, 3, 4, 5, 6, 0] rfl)
      · have hw := hw.2 c21
        refine lv_iload_n hx hb d_Src_readBlock_37 rfl (lv_at hl 3 rfl) ?_
        refine lv_bipush (v := 16) hx hb d_Src_readBlock_38 (by decide) ?_
        refine lv_iload hx hb d_Src_readBlock_40 (lv_at hl 6 rfl) ?_
        refine lv_imul hx hb d_Src_readBlock_42 ?_
        refine lv_iadd hx hb d_Src_readBlock_43 ?_
        refine lv_iload_n hx hb d_Src_readBlock_44 rfl (lv_at hl 4 rfl) ?_
        refine lv_icmp_ge (tgt := 52) hx hb d_Src_readBlock_45 (by decide) (fun c22 => ?_) (fun c22 => ?_)
        · have hw := hw.1 c22
          exact t_Src_readBlock_52 hx hb hml hown hT hK hN hA hRc hRs hRf hRl hNN hE hret hrec12 o l1 l2 l3 l4 l6 r19 o x18 H locs ls fo fl1 fo hw hW hS (lv_sub hl [1, 2, 3, 4, 5, 6, 0] rfl)
        · have hw := hw.2 c22
          exact t_Src_readBlock_48 hx hb hml hown hT hK hN hA hRc hRs hRf hRl hNN hE hret hrec12 o l1 l2 l3 l4 l6 r19 o x18 H locs ls fo fl1 fo hw hW hS (lv_sub hl [1, 2, 3, 4, 5, 6, 0] rfl)
set_option maxHeartbeats 4000000 in
set_option maxRecDepth 100000 in
theorem tl_Src_readBlock_12 {p : Program} {l : Launch} {e : Env} {R : Room} {s : State} {m : MethodId} {args : Array Value} {below : List Frame} {meth : Method} {c : Code} {cells slots : Nat} {Q : State → Prop} {dC : Nat → ClassId} {dI : Nat → Nat → Nat} {cI cB cJ cZ : ClassId} {A : Nat → Prop} {ad : Nat → Nat} {NN : Nat} {E : Heap} {tM tC : Nat} {kK kV : Nat → Nat} {post : St → Prop} (hx : p.tables.exec = Jvm.exec) (hb : c.code = b_Src_readBlock) (hml : c.maxLocals = 12) (hown : s.vm.findClass R_Src = some m.cls) (hT : ∀ w ∈ TG, w.before args s = true) (hK : va_K (dC, dI) CL (TY cI cB cJ cZ) s) (hN : NW s) (hA : ∀ q : Nat, s.heap.size ≤ q → A q) (hRc : cells ≤ R.cells) (hRs : slots ≤ R.slots) (hRf : 2 ≤ R.frames) (hRl : 109 ≤ R.locals) (hNN : 152 ≤ NN) (hE : CE E tM tC kK kV A s) (hret : ∀ (x : St) (H : Heap) (locs : List Loc) (pc : Nat) (ls : Array Slot), decode b_Src_readBlock pc = .ok (.return_, 1) → post x → Wd dC dI cI cB cJ cZ ad stC kcC NN A x H → va_S A s.heap H locs → W p l e R s m args below meth c H locs cells slots Q (F0 m pc ls []))  : ∀ n : Nat, ∀ (o : Nat) (l1 : Nat) (l2 : Int32) (l3 : Int32) (l4 : Int64) (l6 : Int32) (x : St) (H : Heap) (locs : List Loc) (ls : Array Slot), (o < NN ∧ kcC o = 8) → (l1 < NN ∧ kcC l1 = 22) → wl_Src_readBlock_12 post n o l1 l2 l3 l4 l6 x → Wd dC dI cI cB cJ cZ ad stC kcC NN A x H → va_S A s.heap H locs → lv_has ls 12 [(0, .ref (ad o)), (1, .ref (ad l1)), (2, .int l2), (3, .int l3), (4, .long l4), (6, .int l6)] → W p l e R s m args below meth c H locs cells slots Q (F0 m 12 ls []) := by
  intro n
  induction n with
  | zero => intro o l1 l2 l3 l4 l6 x H locs ls fo fl1 hw; exact hw.elim
  | succ n ih => intro o l1 l2 l3 l4 l6 x H locs ls fo fl1 hw hW hS hl; exact t_Src_readBlock_12 hx hb hml hown hT hK hN hA hRc hRs hRf hRl hNN hE hret  ih o l1 l2 l3 l4 l6 x H locs ls fo fl1 hw hW hS hl
set_option maxRecDepth 100000 in
set_option maxHeartbeats 4000000 in
set_option maxRecDepth 100000 in
theorem t_Src_readBlock_e {p : Program} {l : Launch} {e : Env} {R : Room} {s : State} {m : MethodId} {args : Array Value} {below : List Frame} {meth : Method} {c : Code} {cells slots : Nat} {Q : State → Prop} {dC : Nat → ClassId} {dI : Nat → Nat → Nat} {cI cB cJ cZ : ClassId} {A : Nat → Prop} {ad : Nat → Nat} {NN : Nat} {E : Heap} {tM tC : Nat} {kK kV : Nat → Nat} {post : St → Prop} (hx : p.tables.exec = Jvm.exec) (hb : c.code = b_Src_readBlock) (hml : c.maxLocals = 12) (hown : s.vm.findClass R_Src = some m.cls) (hT : ∀ w ∈ TG, w.before args s = true) (hK : va_K (dC, dI) CL (TY cI cB cJ cZ) s) (hN : NW s) (hA : ∀ q : Nat, s.heap.size ≤ q → A q) (hRc : cells ≤ R.cells) (hRs : slots ≤ R.slots) (hRf : 2 ≤ R.frames) (hRl : 109 ≤ R.locals) (hNN : 152 ≤ NN) (hE : CE E tM tC kK kV A s) (hret : ∀ (x : St) (H : Heap) (locs : List Loc) (pc : Nat) (ls : Array Slot), decode b_Src_readBlock pc = .ok (.return_, 1) → post x → Wd dC dI cI cB cJ cZ ad stC kcC NN A x H → va_S A s.heap H locs → W p l e R s m args below meth c H locs cells slots Q (F0 m pc ls [])) : ∀ (o : Nat) (l1 : Nat) (l2 : Int32) (l3 : Int32) (x : St) (H : Heap) (locs : List Loc) (ls : Array Slot), (o < NN ∧ kcC o = 8) → (l1 < NN ∧ kcC l1 = 22) → wp_Src_readBlock post o l1 l2 l3 x → Wd dC dI cI cB cJ cZ ad stC kcC NN A x H → va_S A s.heap H locs → lv_has ls 12 [(0, .ref (ad o)), (1, .ref (ad l1)), (2, .int l2), (3, .int l3)] → W p l e R s m args below meth c H locs cells slots Q (F0 m 0 ls []) := by
  intro o l1 l2 l3 x H locs ls fo fl1 hw hW hS hl
  unfold wp_Src_readBlock at hw
  refine lv_aload_n hx hb d_Src_readBlock_0 rfl (lv_at hl 0 rfl) ?_
  have hF := hW.free hS hA
  refine va_calll (va_runV (C := R_Src) (As := []) (rest := []) ⟨hx, hb, hml, hown, hT⟩ (k_Src_readVarint l dC dI cI cB cJ cZ ad NN E tM tC kK kV hNN H.size o x fo hw) ⟨callB_of 0 hT (gwt_in w_6_108) rfl rfl rfl (hT _ w_1_11) (hT _ w_6_151) (by decide +kernel) ⟨Nat.le_trans (Nat.le_of_ble_eq_true rfl) hRf, Nat.le_trans (Nat.le_of_ble_eq_true rfl) hRl⟩, hT _ w_6_106, hT _ w_6_107⟩ ⟨PVc.blind, va_recv hK hW.1 (ci := 8) (q0 := o) rfl (pic_obj fo.1 fo.2 (by decide)), PVc.at _ hW hK hN hE hS hF⟩ rfl rfl hl.1 rfl (lv_room (Nat.le_of_ble_eq_true rfl)) d_Src_readBlock_1 ⟨hRc, hRs⟩) hS (fun q _ h => hF q h) hF (fun r24 x23 t H locs ht hvm hw hB hz1 hk1 hS => ?_)
  have hW := Wd.back hB ht hF
  clear hB ht hF hz1 hk1 hvm
  have hF := hW.free hS hA
  refine va_calll (va_runSN (As := [.long r24]) (rest := []) ⟨hx, hb, hml, hown, hT⟩ (k_V_unzigzag l dC dI cI cB cJ cZ ad NN E tM tC kK kV hNN H.size r24 x23  hw) ⟨va_cnB 1 hT (gwt_in w_6_162) rfl rfl rfl (hN _ wn_6_160 rfl) (hT _ w_1_1) (by decide +kernel) ⟨Nat.le_trans (Nat.le_of_ble_eq_true rfl) hRf, Nat.le_trans (Nat.le_of_ble_eq_true rfl) hRl⟩, hT _ w_6_161, trivial⟩ ⟨PVc.blind, PVc.at _ hW hK hN hE hS hF⟩ rfl rfl hl.1 rfl (lv_room (Nat.le_of_ble_eq_true rfl)) d_Src_readBlock_4 ⟨hRc, hRs⟩) hS (fun q _ h => hF q h) hF (fun r26 x25 t H locs ht hvm hw hB hz1 hk1 hS => ?_)
  have hW := Wd.back hB ht hF
  clear hB ht hF hz1 hk1 hvm
  refine lv_lstore (lv' := [(4, .long r26), (0, .ref (ad o)), (1, .ref (ad l1)), (2, .int l2), (3, .int l3)]) hx hb d_Src_readBlock_7 hl (by decide) rfl (fun ls hl => ?_)
  refine lv_iconst (v := 0) hx hb d_Src_readBlock_9 (by decide) ?_
  refine lv_istore (lv' := [(6, .int 0), (4, .long r26), (0, .ref (ad o)), (1, .ref (ad l1)), (2, .int l2), (3, .int l3)]) hx hb d_Src_readBlock_10 hl (by decide) rfl (fun ls hl => ?_)
  obtain ⟨n, hw⟩ := hw
  exact tl_Src_readBlock_12 hx hb hml hown hT hK hN hA hRc hRs hRf hRl hNN hE hret  n o l1 l2 l3 r26 0 x25 H locs ls fo fl1 hw hW hS (lv_sub hl [2, 3, 4, 5, 1, 0] rfl)
set_option maxHeartbeats 4000000 in
set_option maxRecDepth 100000 in
theorem k_Src_readBlock (l : Launch) (dC : Nat → ClassId) (dI : Nat → Nat → Nat) (cI cB cJ cZ : ClassId) (ad : Nat → Nat) (NN : Nat) (E : Heap) (tM tC : Nat) (kK kV : Nat → Nat) (hNN : 152 ≤ NN) (sz : Nat) (o : Nat) (l1 : Nat) (l2 : Int32) (l3 : Int32) (x : St) (fo : o < NN ∧ kcC o = 8) (fl1 : l1 < NN ∧ kcC l1 = 22) {post : St → Prop} (hw : wp_Src_readBlock post o l1 l2 l3 x) : Met l y_Src_readBlock (wsOf y_Src_readBlock b_Src_readBlock 12 (none)) ({ frames := 2, cells := 0, slots := 0, locals := 109 }) (va_Pc [.ref (ad o), .ref (ad l1), .int l2, .int l3] (PVc dC dI cI cB cJ cZ ad stC kcC NN E tM tC kK kV sz x)) (va_Qv (fun (y : St) => post y) (fun y t => Wd dC dI cI cB cJ cZ ad stC kcC NN (va_A (pic ad stC kcC NN cI cB cJ cZ x) sz) y t.heap) (va_A (pic ad stC kcC NN cI cB cJ cZ x) sz)) 0 0 (va_A (pic ad stC kcC NN cI cB cJ cZ x) sz) := by
  refine Met.ofW (cc := b_Src_readBlock) (maxL := 12) (ret := none) (by decide) rfl ?_
  intro p e s m args below meth c s₁ B hml hv
  obtain ⟨rfl, ⟨hsz, hW0, hK, hN⟩, hE⟩ := hv
  have hx := B.exec
  have hb := B.bytes
  have hr := B.returns
  have hts := atoms_spec B.pre
  have hT : ∀ w ∈ TG, w.before _ s = true := fun w h => hts w (List.mem_cons_of_mem _ h)
  have hown : s.vm.findClass R_Src = some m.cls := findClass_of_methodNamed B.named
  have hlocks := B.notSynchronized
  subst hsz
  have hW : Wd dC dI cI cB cJ cZ ad stC kcC NN (va_A (pic ad stC kcC NN cI cB cJ cZ x) s.heap.size) x s.heap := ⟨hW0.1, hW0.2.1.self (sz := s.heap.size), hW0.2.2⟩
  generalize hAe : va_A (pic ad stC kcC NN cI cB cJ cZ x) s.heap.size = A at hW hE ⊢
  have hA : ∀ q : Nat, s.heap.size ≤ q → A q := fun q h => by rw [← hAe]; exact Or.inr h
  have hS : va_S A s.heap s.heap [] := va_S.rf
  have hl := lv_entry ([.ref (ad o), .ref (ad l1), .int l2, .int l3]) (n := 12) (Nat.le_of_ble_eq_true rfl)
  rw [lg_entry_eq]
  generalize (lg_sl ([.ref (ad o), .ref (ad l1), .int l2, .int l3]) ++ List.replicate (12 - (lg_sl ([.ref (ad o), .ref (ad l1), .int l2, .int l3])).length) Slot.unset).toArray = ls at hl ⊢
  have hl : lv_has ls 12 [(0, .ref (ad o)), (1, .ref (ad l1)), (2, .int l2), (3, .int l3)] := hl
  exact t_Src_readBlock_e hx hb hml hown hT hK hN hA (Nat.le_refl 0) (Nat.le_refl 0) (Nat.le_refl 2) (Nat.le_refl 109) hNN hE (fun x H locs pc ls hd hp hW hS => W.vret hx hb hr (fun t ht hM => ⟨⟨x, rfl, hp, Wd.back hW ht.symm (fun _ z => z)⟩, hS.F ht⟩) hS.2.2 hd hlocks)  o l1 l2 l3 x _ _ ls fo fl1 hw hW hS hl
set_option maxRecDepth 100000 in
set_option maxHeartbeats 4000000 in
set_option maxRecDepth 100000 in
theorem t_Src_readCode_137 {p : Program} {l : Launch} {e : Env} {R : Room} {s : State} {m : MethodId} {args : Array Value} {below : List Frame} {meth : Method} {c : Code} {cells slots : Nat} {Q : State → Prop} {dC : Nat → ClassId} {dI : Nat → Nat → Nat} {cI cB cJ cZ : ClassId} {A : Nat → Prop} {ad : Nat → Nat} {NN : Nat} {E : Heap} {tM tC : Nat} {kK kV : Nat → Nat} {post : St → Prop} (hx : p.tables.exec = Jvm.exec) (hb : c.code = b_Src_readCode) (hml : c.maxLocals = 8) (hown : s.vm.findClass R_Src = some m.cls) (hT : ∀ w ∈ TG, w.before args s = true) (hK : va_K (dC, dI) CL (TY cI cB cJ cZ) s) (hN : NW s) (hA : ∀ q : Nat, s.heap.size ≤ q → A q) (hRc : cells ≤ R.cells) (hRs : slots ≤ R.slots) (hRf : 3 ≤ R.frames) (hRl : 140 ≤ R.locals) (hNN : 152 ≤ NN) (hE : CE E tM tC kK kV A s) (hret : ∀ (x : St) (H : Heap) (locs : List Loc) (pc : Nat) (ls : Array Slot), decode b_Src_readCode pc = .ok (.return_, 1) → post x → Wd dC dI cI cB cJ cZ ad stC kcC NN A x H → va_S A s.heap H locs → W p l e R s m args below meth c H locs cells slots Q (F0 m pc ls []))  : ∀ (o : Nat) (l1 : Nat) (l2 : Int32) (l3 : Int32) (l4 : Int32) (l5 : Int64) (l7 : Int32) (s0 : Int32) (s1 : Nat) (x : St) (H : Heap) (locs : List Loc) (ls : Array Slot), (o < NN ∧ kcC o = 8) → (l1 < NN ∧ kcC l1 = 22) → (s1 < NN ∧ kcC s1 = 8) → j_Src_readCode_137 post o l1 l2 l3 l4 l5 l7 s0 s1 x → Wd dC dI cI cB cJ cZ ad stC kcC NN A x H → va_S A s.heap H locs → lv_has ls 8 [(0, .ref (ad o)), (1, .ref (ad l1)), (2, .int l2), (3, .int l3), (4, .int l4), (5, .long l5), (7, .int l7)] → W p l e R s m args below meth c H locs cells slots Q (F0 m 137 ls [.int s0, .ref (ad s1)]) := by
  intro o l1 l2 l3 l4 l5 l7 s0 s1 x H locs ls fo fl1 fs1 hw hW hS hl
  unfold j_Src_readCode_137 at hw
  refine lv_iconst (v := 4) hx hb d_Src_readCode_137 (by decide) ?_
  have hF := hW.free hS hA
  refine va_callv (va_runV (C := R_Src) (As := [.int s0, .int 4]) (rest := []) ⟨hx, hb, hml, hown, hT⟩ (k_Src_check l dC dI cI cB cJ cZ ad NN E tM tC kK kV hNN H.size s1 s0 4 x fs1 hw) ⟨callB_of 2 hT (gwt_in w_6_116) rfl rfl rfl (hT _ w_1_11) (hT _ w_6_156) (by decide +kernel) ⟨Nat.le_trans (Nat.le_of_ble_eq_true rfl) hRf, Nat.le_trans (Nat.le_of_ble_eq_true rfl) hRl⟩, hT _ w_6_114, hT _ w_6_115⟩ ⟨PVc.blind, va_recv hK hW.1 (ci := 8) (q0 := s1) rfl (pic_obj fs1.1 fs1.2 (by decide)), PVc.at _ hW hK hN hE hS hF⟩ rfl rfl hl.1 rfl (lv_room (Nat.le_of_ble_eq_true rfl)) d_Src_readCode_138 ⟨hRc, hRs⟩) hS (fun q _ h => hF q h) hF (fun  x1 t H locs ht hvm hw hB hz1 hk1 hS => ?_)
  have hW := Wd.back hB ht hF
  clear hB ht hF hz1 hk1 hvm
  exact hret x1 H locs 141 ls d_Src_readCode_141 hw hW hS
set_option maxRecDepth 100000 in
set_option maxHeartbeats 4000000 in
set_option maxRecDepth 100000 in
theorem t_Src_readCode_113 {p : Program} {l : Launch} {e : Env} {R : Room} {s : State} {m : MethodId} {args : Array Value} {below : List Frame} {meth : Method} {c : Code} {cells slots : Nat} {Q : State → Prop} {dC : Nat → ClassId} {dI : Nat → Nat → Nat} {cI cB cJ cZ : ClassId} {A : Nat → Prop} {ad : Nat → Nat} {NN : Nat} {E : Heap} {tM tC : Nat} {kK kV : Nat → Nat} {post : St → Prop} (hx : p.tables.exec = Jvm.exec) (hb : c.code = b_Src_readCode) (hml : c.maxLocals = 8) (hown : s.vm.findClass R_Src = some m.cls) (hT : ∀ w ∈ TG, w.before args s = true) (hK : va_K (dC, dI) CL (TY cI cB cJ cZ) s) (hN : NW s) (hA : ∀ q : Nat, s.heap.size ≤ q → A q) (hRc : cells ≤ R.cells) (hRs : slots ≤ R.slots) (hRf : 3 ≤ R.frames) (hRl : 140 ≤ R.locals) (hNN : 152 ≤ NN) (hE : CE E tM tC kK kV A s) (hret : ∀ (x : St) (H : Heap) (locs : List Loc) (pc : Nat) (ls : Array Slot), decode b_Src_readCode pc = .ok (.return_, 1) → post x → Wd dC dI cI cB cJ cZ ad stC kcC NN A x H → va_S A s.heap H locs → W p l e R s m args below meth c H locs cells slots Q (F0 m pc ls []))  : ∀ (o : Nat) (l1 : Nat) (l2 : Int32) (l3 : Int32) (l4 : Int32) (l5 : Int64) (l7 : Int32) (x : St) (H : Heap) (locs : List Loc) (ls : Array Slot), (o < NN ∧ kcC o = 8) → (l1 < NN ∧ kcC l1 = 22) → j_Src_readCode_113 post o l1 l2 l3 l4 l5 l7 x → Wd dC dI cI cB cJ cZ ad stC kcC NN A x H → va_S A s.heap H locs → lv_has ls 8 [(0, .ref (ad o)), (1, .ref (ad l1)), (2, .int l2), (3, .int l3), (4, .int l4), (5, .long l5), (7, .int l7)] → W p l e R s m args below meth c H locs cells slots Q (F0 m 113 ls []) := by
  intro o l1 l2 l3 l4 l5 l7 x H locs ls fo fl1 hw hW hS hl
  unfold j_Src_readCode_113 at hw
  refine lv_aload_n hx hb d_Src_readCode_113 rfl (lv_at hl 0 rfl) ?_
  have hF := hW.free hS hA
  refine va_callv (va_runV (C := R_Src) (As := []) (rest := []) ⟨hx, hb, hml, hown, hT⟩ (k_Src_checkEnd l dC dI cI cB cJ cZ ad NN E tM tC kK kV hNN H.size o x fo hw) ⟨callB_of 0 hT (gwt_in w_6_167) rfl rfl rfl (hT _ w_1_11) (hT _ w_7_13) (by decide +kernel) ⟨Nat.le_trans (Nat.le_of_ble_eq_true rfl) hRf, Nat.le_trans (Nat.le_of_ble_eq_true rfl) hRl⟩, hT _ w_6_165, hT _ w_6_166⟩ ⟨PVc.blind, va_recv hK hW.1 (ci := 8) (q0 := o) rfl (pic_obj fo.1 fo.2 (by decide)), PVc.at _ hW hK hN hE hS hF⟩ rfl rfl hl.1 rfl (lv_room (Nat.le_of_ble_eq_true rfl)) d_Src_readCode_114 ⟨hRc, hRs⟩) hS (fun q _ h => hF q h) hF (fun  x2 t H locs ht hvm hw hB hz1 hk1 hS => ?_)
  have hW := Wd.back hB ht hF
  clear hB ht hF hz1 hk1 hvm
  refine lv_aload_n hx hb d_Src_readCode_117 rfl (lv_at hl 0 rfl) ?_
  refine lv_iload hx hb d_Src_readCode_118 (lv_at hl 4 rfl) ?_
  refine w_puti (ty := .int) (k := 2) (t := 8) (C := R_Src) (T := F_Src) (N := 5) hx hb hT hown hK hW hS fo.1 fo.2 (by decide) in_Src t_Src t_Src_ok n_Src rfl rfl (by decide) rfl fr_Src_2 w_2_239 (by decide +kernel) rfl rfl d_Src_readCode_120 (fun H locs hW hS => ?_)
  obtain ⟨x3, ex3⟩ : ∃ y : St, y = setI x2 o 2 l4 := ⟨_, rfl⟩
  rw [← ex3] at hW
  have hw := hw x3 ex3
  refine lv_aload_n hx hb d_Src_readCode_123 rfl (lv_at hl 0 rfl) ?_
  refine lv_lload hx hb d_Src_readCode_124 (lv_at hl 5 rfl) ?_
  refine lv_iload_n hx hb d_Src_readCode_126 rfl (lv_at hl 2 rfl) ?_
  refine lv_i2l hx hb d_Src_readCode_127 rfl ?_
  refine W.lcmp hx hb d_Src_readCode_128 ?_
  refine lv_if_ne (tgt := 136) hx hb d_Src_readCode_129 (by decide) (fun c4 => ?_) (fun c4 => ?_)
  · have hw := hw.1 c4
    refine lv_iconst (v := 0) hx hb d_Src_readCode_136 (by decide) ?_
    exact t_Src_readCode_137 hx hb hml hown hT hK hN hA hRc hRs hRf hRl hNN hE hret  o l1 l2 l3 l4 l5 l7 0 o x3 H locs ls fo fl1 fo hw hW hS (lv_sub hl [0, 1, 2, 3, 4, 5, 6] rfl)
  · have hw := hw.2 c4
    refine lv_iconst (v := 1) hx hb d_Src_readCode_132 (by decide) ?_
    refine lv_goto (tgt := 137) hx hb d_Src_readCode_133 (by decide) ?_
    exact t_Src_readCode_137 hx hb hml hown hT hK hN hA hRc hRs hRf hRl hNN hE hret  o l1 l2 l3 l4 l5 l7 1 o x3 H locs ls fo fl1 fo hw hW hS (lv_sub hl [0, 1, 2, 3, 4, 5, 6] rfl)
set_option maxRecDepth 100000 in
set_option maxHeartbeats 4000000 in
set_option maxRecDepth 100000 in
theorem t_Src_readCode_72 {p : Program} {l : Launch} {e : Env} {R : Room} {s : State} {m : MethodId} {args : Array Value} {below : List Frame} {meth : Method} {c : Code} {cells slots : Nat} {Q : State → Prop} {dC : Nat → ClassId} {dI : Nat → Nat → Nat} {cI cB cJ cZ : ClassId} {A : Nat → Prop} {ad : Nat → Nat} {NN : Nat} {E : Heap} {tM tC : Nat} {kK kV : Nat → Nat} {post : St → Prop} {rec72 : Nat → Nat → Int32 → Int32 → Int32 → Int64 → Int32 → St → Prop} (hx : p.tables.exec = Jvm.exec) (hb : c.code = b_Src_readCode) (hml : c.maxLocals = 8) (hown : s.vm.findClass R_Src = some m.cls) (hT : ∀ w ∈ TG, w.before args s = true) (hK : va_K (dC, dI) CL (TY cI cB cJ cZ) s) (hN : NW s) (hA : ∀ q : Nat, s.heap.size ≤ q → A q) (hRc : cells ≤ R.cells) (hRs : slots ≤ R.slots) (hRf : 3 ≤ R.frames) (hRl : 140 ≤ R.locals) (hNN : 152 ≤ NN) (hE : CE E tM tC kK kV A s) (hret : ∀ (x : St) (H : Heap) (locs : List Loc) (pc : Nat) (ls : Array Slot), decode b_Src_readCode pc = .ok (.return_, 1) → post x → Wd dC dI cI cB cJ cZ ad stC kcC NN A x H → va_S A s.heap H locs → W p l e R s m args below meth c H locs cells slots Q (F0 m pc ls [])) (hrec72 : ∀ (o : Nat) (l1 : Nat) (l2 : Int32) (l3 : Int32) (l4 : Int32) (l5 : Int64) (l7 : Int32) (x : St) (H : Heap) (locs : List Loc) (ls : Array Slot), (o < NN ∧ kcC o = 8) → (l1 < NN ∧ kcC l1 = 22) → rec72 o l1 l2 l3 l4 l5 l7 x → Wd dC dI cI cB cJ cZ ad stC kcC NN A x H → va_S A s.heap H locs → lv_has ls 8 [(0, .ref (ad o)), (1, .ref (ad l1)), (2, .int l2), (3, .int l3), (4, .int l4), (5, .long l5), (7, .int l7)] → W p l e R s m args below meth c H locs cells slots Q (F0 m 72 ls [])) : ∀ (o : Nat) (l1 : Nat) (l2 : Int32) (l3 : Int32) (l4 : Int32) (l5 : Int64) (l7 : Int32) (x : St) (H : Heap) (locs : List Loc) (ls : Array Slot), (o < NN ∧ kcC o = 8) → (l1 < NN ∧ kcC l1 = 22) → j_Src_readCode_72 post rec72 o l1 l2 l3 l4 l5 l7 x → Wd dC dI cI cB cJ cZ ad stC kcC NN A x H → va_S A s.heap H locs → lv_has ls 8 [(0, .ref (ad o)), (1, .ref (ad l1)), (2, .int l2), (3, .int l3), (4, .int l4), (5, .long l5), (7, .int l7)] → W p l e R s m args below meth c H locs cells slots Q (F0 m 72 ls []) := by
  intro o l1 l2 l3 l4 l5 l7 x H locs ls fo fl1 hw hW hS hl
  unfold j_Src_readCode_72 at hw
  refine lv_aload_n hx hb d_Src_readCode_72 rfl (lv_at hl 0 rfl) ?_
  refine w_geti (k := 3) (t := 8) (C := R_Src) (T := F_Src) (N := 5) hx hb hT hown hK hW fo.1 fo.2 (by decide) in_Src rfl rfl (by decide) rfl fr_Src_3 w_3_1 d_Src_readCode_73 ?_
  refine lv_if_ne (tgt := 113) hx hb d_Src_readCode_76 (by decide) (fun c5 => ?_) (fun c5 => ?_)
  · have hw := hw.1 c5
    exact t_Src_readCode_113 hx hb hml hown hT hK hN hA hRc hRs hRf hRl hNN hE hret  o l1 l2 l3 l4 l5 l7 x H locs ls fo fl1 hw hW hS (lv_sub hl [0, 1, 2, 3, 4, 5, 6] rfl)
  · have hw := hw.2 c5
    refine lv_iload hx hb d_Src_readCode_79 (lv_at hl 6 rfl) ?_
    refine lv_i2l hx hb d_Src_readCode_81 rfl ?_
    refine lv_lload hx hb d_Src_readCode_82 (lv_at hl 5 rfl) ?_
    refine W.lcmp hx hb d_Src_readCode_84 ?_
    refine lv_if_ge (tgt := 113) hx hb d_Src_readCode_85 (by decide) (fun c6 => ?_) (fun c6 => ?_)
    · have hw := hw.1 c6
      exact t_Src_readCode_113 hx hb hml hown hT hK hN hA hRc hRs hRf hRl hNN hE hret  o l1 l2 l3 l4 l5 l7 x H locs ls fo fl1 hw hW hS (lv_sub hl [0, 1, 2, 3, 4, 5, 6] rfl)
    · have hw := hw.2 c6
      refine lv_aload_n hx hb d_Src_readCode_88 rfl (lv_at hl 0 rfl) ?_
      refine lv_aload_n hx hb d_Src_readCode_89 rfl (lv_at hl 1 rfl) ?_
      refine lv_iload hx hb d_Src_readCode_90 (lv_at hl 6 rfl) ?_
      refine lv_iload hx hb d_Src_readCode_92 (lv_at hl 6 rfl) ?_
      refine lv_bipush (v := 64) hx hb d_Src_readCode_94 (by decide) ?_
      refine lv_iadd hx hb d_Src_readCode_96 ?_
      refine lv_i2l hx hb d_Src_readCode_97 rfl ?_
      refine lv_lload hx hb d_Src_readCode_98 (lv_at hl 5 rfl) ?_
      refine va_mmin_long hx hb (hml.trans hl.1.symm) hown (hT _ w_7_8) (hT _ w_6_0) (hT _ w_1_3) (hT _ w_6_1) (Nat.le_trans (by decide) hRf) (Nat.le_trans (Nat.le_of_ble_eq_true rfl) hRl) hRc hRs d_Src_readCode_100 ?_
      refine lv_l2i hx hb d_Src_readCode_103 rfl ?_
      have hF := hW.free hS hA
      refine va_callv (va_runV (C := R_Src) (As := [.ref (ad l1), .int l7, .int ((if l5 < ((l7 + 64) : Int32).toInt64 then l5 else ((l7 + 64) : Int32).toInt64) : Int64).toInt32]) (rest := []) ⟨hx, hb, hml, hown, hT⟩ (k_Src_readBlock l dC dI cI cB cJ cZ ad NN E tM tC kK kV hNN H.size o l1 l7 ((if l5 < ((l7 + 64) : Int32).toInt64 then l5 else ((l7 + 64) : Int32).toInt64) : Int64).toInt32 x fo fl1 hw) ⟨callB_of 3 hT (gwt_in w_7_12) rfl rfl rfl (hT _ w_1_11) (hT _ w_7_9) (by decide +kernel) ⟨Nat.le_trans (Nat.le_of_ble_eq_true rfl) hRf, Nat.le_trans (Nat.le_of_ble_eq_true rfl) hRl⟩, hT _ w_7_11, hT _ ws_52⟩ ⟨PVc.blind, va_recv hK hW.1 (ci := 8) (q0 := o) rfl (pic_obj fo.1 fo.2 (by decide)), PVc.at _ hW hK hN hE hS hF⟩ rfl rfl hl.1 rfl (lv_room (Nat.le_of_ble_eq_true rfl)) d_Src_readCode_104 ⟨hRc, hRs⟩) hS (fun q _ h => hF q h) hF (fun  x7 t H locs ht hvm hw hB hz1 hk1 hS => ?_)
      have hW := Wd.back hB ht hF
      clear hB ht hF hz1 hk1 hvm
      refine lv_iinc (v := (l7 + 64)) (lv' := [(7, .int (l7 + 64)), (0, .ref (ad o)), (1, .ref (ad l1)), (2, .int l2), (3, .int l3), (4, .int l4), (5, .long l5)]) hx hb d_Src_readCode_107 hl (k := 6) rfl rfl (by decide) rfl (fun ls hl => ?_)
      refine lv_goto (tgt := 72) hx hb d_Src_readCode_110 (by decide) ?_
      exact hrec72 o l1 l2 l3 l4 l5 (l7 + 64) x7 H locs ls fo fl1 hw hW hS (lv_sub hl [1, 2, 3, 4, 5, 6, 0] rfl)
set_option maxHeartbeats 4000000 in
set_option maxRecDepth 100000 in
theorem tl_Src_readCode_72 {p : Program} {l : Launch} {e : Env} {R : Room} {s : State} {m : MethodId} {args : Array Value} {below : List Frame} {meth : Method} {c : Code} {cells slots : Nat} {Q : State → Prop} {dC : Nat → ClassId} {dI : Nat → Nat → Nat} {cI cB cJ cZ : ClassId} {A : Nat → Prop} {ad : Nat → Nat} {NN : Nat} {E : Heap} {tM tC : Nat} {kK kV : Nat → Nat} {post : St → Prop} (hx : p.tables.exec = Jvm.exec) (hb : c.code = b_Src_readCode) (hml : c.maxLocals = 8) (hown : s.vm.findClass R_Src = some m.cls) (hT : ∀ w ∈ TG, w.before args s = true) (hK : va_K (dC, dI) CL (TY cI cB cJ cZ) s) (hN : NW s) (hA : ∀ q : Nat, s.heap.size ≤ q → A q) (hRc : cells ≤ R.cells) (hRs : slots ≤ R.slots) (hRf : 3 ≤ R.frames) (hRl : 140 ≤ R.locals) (hNN : 152 ≤ NN) (hE : CE E tM tC kK kV A s) (hret : ∀ (x : St) (H : Heap) (locs : List Loc) (pc : Nat) (ls : Array Slot), decode b_Src_readCode pc = .ok (.return_, 1) → post x → Wd dC dI cI cB cJ cZ ad stC kcC NN A x H → va_S A s.heap H locs → W p l e R s m args below meth c H locs cells slots Q (F0 m pc ls []))  : ∀ n : Nat, ∀ (o : Nat) (l1 : Nat) (l2 : Int32) (l3 : Int32) (l4 : Int32) (l5 : Int64) (l7 : Int32) (x : St) (H : Heap) (locs : List Loc) (ls : Array Slot), (o < NN ∧ kcC o = 8) → (l1 < NN ∧ kcC l1 = 22) → wl_Src_readCode_72 post n o l1 l2 l3 l4 l5 l7 x → Wd dC dI cI cB cJ cZ ad stC kcC NN A x H → va_S A s.heap H locs → lv_has ls 8 [(0, .ref (ad o)), (1, .ref (ad l1)), (2, .int l2), (3, .int l3), (4, .int l4), (5, .long l5), (7, .int l7)] → W p l e R s m args below meth c H locs cells slots Q (F0 m 72 ls []) := by
  intro n
  induction n with
  | zero => intro o l1 l2 l3 l4 l5 l7 x H locs ls fo fl1 hw; exact hw.elim
  | succ n ih => intro o l1 l2 l3 l4 l5 l7 x H locs ls fo fl1 hw hW hS hl; exact t_Src_readCode_72 hx hb hml hown hT hK hN hA hRc hRs hRf hRl hNN hE hret  ih o l1 l2 l3 l4 l5 l7 x H locs ls fo fl1 hw hW hS hl
set_option maxRecDepth 100000 in
set_option maxHeartbeats 4000000 in
set_option maxRecDepth 100000 in
theorem t_Src_readCode_69 {p : Program} {l : Launch} {e : Env} {R : Room} {s : State} {m : MethodId} {args : Array Value} {below : List Frame} {meth : Method} {c : Code} {cells slots : Nat} {Q : State → Prop} {dC : Nat → ClassId} {dI : Nat → Nat → Nat} {cI cB cJ cZ : ClassId} {A : Nat → Prop} {ad : Nat → Nat} {NN : Nat} {E : Heap} {tM tC : Nat} {kK kV : Nat → Nat} {post : St → Prop} (hx : p.tables.exec = Jvm.exec) (hb : c.code = b_Src_readCode) (hml : c.maxLocals = 8) (hown : s.vm.findClass R_Src = some m.cls) (hT : ∀ w ∈ TG, w.before args s = true) (hK : va_K (dC, dI) CL (TY cI cB cJ cZ) s) (hN : NW s) (hA : ∀ q : Nat, s.heap.size ≤ q → A q) (hRc : cells ≤ R.cells) (hRs : slots ≤ R.slots) (hRf : 3 ≤ R.frames) (hRl : 140 ≤ R.locals) (hNN : 152 ≤ NN) (hE : CE E tM tC kK kV A s) (hret : ∀ (x : St) (H : Heap) (locs : List Loc) (pc : Nat) (ls : Array Slot), decode b_Src_readCode pc = .ok (.return_, 1) → post x → Wd dC dI cI cB cJ cZ ad stC kcC NN A x H → va_S A s.heap H locs → W p l e R s m args below meth c H locs cells slots Q (F0 m pc ls []))  : ∀ (o : Nat) (l1 : Nat) (l2 : Int32) (l3 : Int32) (l4 : Int32) (l5 : Int64) (x : St) (H : Heap) (locs : List Loc) (ls : Array Slot), (o < NN ∧ kcC o = 8) → (l1 < NN ∧ kcC l1 = 22) → j_Src_readCode_69 post o l1 l2 l3 l4 l5 x → Wd dC dI cI cB cJ cZ ad stC kcC NN A x H → va_S A s.heap H locs → lv_has ls 8 [(0, .ref (ad o)), (1, .ref (ad l1)), (2, .int l2), (3, .int l3), (4, .int l4), (5, .long l5)] → W p l e R s m args below meth c H locs cells slots Q (F0 m 69 ls []) := by
  intro o l1 l2 l3 l4 l5 x H locs ls fo fl1 hw hW hS hl
  unfold j_Src_readCode_69 at hw
  refine lv_iconst (v := 1) hx hb d_Src_readCode_69 (by decide) ?_
  refine lv_istore (lv' := [(7, .int 1), (0, .ref (ad o)), (1, .ref (ad l1)), (2, .int l2), (3, .int l3), (4, .int l4), (5, .long l5)]) hx hb d_Src_readCode_70 hl (by decide) rfl (fun ls hl => ?_)
  obtain ⟨n, hw⟩ := hw
  exact tl_Src_readCode_72 hx hb hml hown hT hK hN hA hRc hRs hRf hRl hNN hE hret  n o l1 l2 l3 l4 l5 1 x H locs ls fo fl1 hw hW hS (lv_sub hl [1, 2, 3, 4, 5, 6, 0] rfl)
set_option maxRecDepth 100000 in
set_option maxHeartbeats 4000000 in
set_option maxRecDepth 100000 in
theorem t_Src_readCode_20 {p : Program} {l : Launch} {e : Env} {R : Room} {s : State} {m : MethodId} {args : Array Value} {below : List Frame} {meth : Method} {c : Code} {cells slots : Nat} {Q : State → Prop} {dC : Nat → ClassId} {dI : Nat → Nat → Nat} {cI cB cJ cZ : ClassId} {A : Nat → Prop} {ad : Nat → Nat} {NN : Nat} {E : Heap} {tM tC : Nat} {kK kV : Nat → Nat} {post : St → Prop} (hx : p.tables.exec = Jvm.exec) (hb : c.code = b_Src_readCode) (hml : c.maxLocals = 8) (hown : s.vm.findClass R_Src = some m.cls) (hT : ∀ w ∈ TG, w.before args s = true) (hK : va_K (dC, dI) CL (TY cI cB cJ cZ) s) (hN : NW s) (hA : ∀ q : Nat, s.heap.size ≤ q → A q) (hRc : cells ≤ R.cells) (hRs : slots ≤ R.slots) (hRf : 3 ≤ R.frames) (hRl : 140 ≤ R.locals) (hNN : 152 ≤ NN) (hE : CE E tM tC kK kV A s) (hret : ∀ (x : St) (H : Heap) (locs : List Loc) (pc : Nat) (ls : Array Slot), decode b_Src_readCode pc = .ok (.return_, 1) → post x → Wd dC dI cI cB cJ cZ ad stC kcC NN A x H → va_S A s.heap H locs → W p l e R s m args below meth c H locs cells slots Q (F0 m pc ls []))  : ∀ (o : Nat) (l1 : Nat) (l2 : Int32) (l3 : Int32) (l4 : Int32) (x : St) (H : Heap) (locs : List Loc) (ls : Array Slot), (o < NN ∧ kcC o = 8) → (l1 < NN ∧ kcC l1 = 22) → j_Src_readCode_20 post o l1 l2 l3 l4 x → Wd dC dI cI cB cJ cZ ad stC kcC NN A x H → va_S A s.heap H locs → lv_has ls 8 [(0, .ref (ad o)), (1, .ref (ad l1)), (2, .int l2), (3, .int l3), (4, .int l4)] → W p l e R s m args below meth c H locs cells slots Q (F0 m 20 ls []) := by
  intro o l1 l2 l3 l4 x H locs ls fo fl1 hw hW hS hl
  unfold j_Src_readCode_20 at hw
  refine lv_aload_n hx hb d_Src_readCode_20 rfl (lv_at hl 0 rfl) ?_
  have hF := hW.free hS hA
  refine va_calll (va_runV (C := R_Src) (As := []) (rest := []) ⟨hx, hb, hml, hown, hT⟩ (k_Src_readVarint l dC dI cI cB cJ cZ ad NN E tM tC kK kV hNN H.size o x fo hw) ⟨callB_of 0 hT (gwt_in w_6_108) rfl rfl rfl (hT _ w_1_11) (hT _ w_6_151) (by decide +kernel) ⟨Nat.le_trans (Nat.le_of_ble_eq_true rfl) hRf, Nat.le_trans (Nat.le_of_ble_eq_true rfl) hRl⟩, hT _ w_6_106, hT _ w_6_107⟩ ⟨PVc.blind, va_recv hK hW.1 (ci := 8) (q0 := o) rfl (pic_obj fo.1 fo.2 (by decide)), PVc.at _ hW hK hN hE hS hF⟩ rfl rfl hl.1 rfl (lv_room (Nat.le_of_ble_eq_true rfl)) d_Src_readCode_21 ⟨hRc, hRs⟩) hS (fun q _ h => hF q h) hF (fun r9 x8 t H locs ht hvm hw hB hz1 hk1 hS => ?_)
  have hW := Wd.back hB ht hF
  clear hB ht hF hz1 hk1 hvm
  refine lv_lstore (lv' := [(5, .long r9), (0, .ref (ad o)), (1, .ref (ad l1)), (2, .int l2), (3, .int l3), (4, .int l4)]) hx hb d_Src_readCode_24 hl (by decide) rfl (fun ls hl => ?_)
  refine lv_aload_n hx hb d_Src_readCode_26 rfl (lv_at hl 1 rfl) ?_
  refine lv_lload hx hb d_Src_readCode_27 (lv_at hl 0 rfl) ?_
  refine lv_sipush (v := 2000) hx hb d_Src_readCode_29 (by decide) ?_
  refine lv_aload_n hx hb d_Src_readCode_32 rfl (lv_at hl 2 rfl) ?_
  refine w_alen (o := l1) (t0 := 2) hx hb hK hW (pic_long fl1.1 fl1.2) rfl rfl d_Src_readCode_33 ?_
  refine va_mmin hx hb (hml.trans hl.1.symm) hown (hT _ w_6_89) (hT _ w_1_38) (hT _ w_1_3) (hT _ w_1_39) (Nat.le_trans (by decide) hRf) (Nat.le_trans (Nat.le_of_ble_eq_true rfl) hRl) hRc hRs d_Src_readCode_34 ?_
  refine lv_i2l hx hb d_Src_readCode_37 rfl ?_
  have hF := hW.free hS hA
  refine va_calli (va_runSN (As := [.long r9, .long ((if (nI (fN x8 l1)) < 2000 then (nI (fN x8 l1)) else 2000) : Int32).toInt64]) (rest := [.ref (ad o)]) ⟨hx, hb, hml, hown, hT⟩ (k_V_within l dC dI cI cB cJ cZ ad NN E tM tC kK kV hNN H.size r9 ((if (nI (fN x8 l1)) < 2000 then (nI (fN x8 l1)) else 2000) : Int32).toInt64 x8  hw) ⟨va_cnB 2 hT (gwt_in w_6_112) rfl rfl rfl (hN _ wn_7_7 rfl) (hT _ w_1_1) (by decide +kernel) ⟨Nat.le_trans (Nat.le_of_ble_eq_true rfl) hRf, Nat.le_trans (Nat.le_of_ble_eq_true rfl) hRl⟩, hT _ w_6_111, trivial⟩ ⟨PVc.blind, PVc.at _ hW hK hN hE hS hF⟩ rfl rfl hl.1 rfl (lv_room (Nat.le_of_ble_eq_true rfl)) d_Src_readCode_38 ⟨hRc, hRs⟩) hS (fun q _ h => hF q h) hF (fun r11 x10 t H locs ht hvm hw hB hz1 hk1 hS => ?_)
  have hW := Wd.back hB ht hF
  clear hB ht hF hz1 hk1 hvm
  refine lv_iconst (v := 4) hx hb d_Src_readCode_41 (by decide) ?_
  have hF := hW.free hS hA
  refine va_callv (va_runV (C := R_Src) (As := [.int r11, .int 4]) (rest := []) ⟨hx, hb, hml, hown, hT⟩ (k_Src_check l dC dI cI cB cJ cZ ad NN E tM tC kK kV hNN H.size o r11 4 x10 fo hw) ⟨callB_of 2 hT (gwt_in w_6_116) rfl rfl rfl (hT _ w_1_11) (hT _ w_6_156) (by decide +kernel) ⟨Nat.le_trans (Nat.le_of_ble_eq_true rfl) hRf, Nat.le_trans (Nat.le_of_ble_eq_true rfl) hRl⟩, hT _ w_6_114, hT _ w_6_115⟩ ⟨PVc.blind, va_recv hK hW.1 (ci := 8) (q0 := o) rfl (pic_obj fo.1 fo.2 (by decide)), PVc.at _ hW hK hN hE hS hF⟩ rfl rfl hl.1 rfl (lv_room (Nat.le_of_ble_eq_true rfl)) d_Src_readCode_42 ⟨hRc, hRs⟩) hS (fun q _ h => hF q h) hF (fun  x12 t H locs ht hvm hw hB hz1 hk1 hS => ?_)
  have hW := Wd.back hB ht hF
  clear hB ht hF hz1 hk1 hvm
  refine lv_aload_n hx hb d_Src_readCode_45 rfl (lv_at hl 1 rfl) ?_
  refine w_geti (k := 3) (t := 8) (C := R_Src) (T := F_Src) (N := 5) hx hb hT hown hK hW fo.1 fo.2 (by decide) in_Src rfl rfl (by decide) rfl fr_Src_3 w_3_1 d_Src_readCode_46 ?_
  refine lv_if_ne (tgt := 69) hx hb d_Src_readCode_49 (by decide) (fun c13 => ?_) (fun c13 => ?_)
  · have hw := hw.1 c13
    exact t_Src_readCode_69 hx hb hml hown hT hK hN hA hRc hRs hRf hRl hNN hE hret  o l1 l2 l3 l4 r9 x12 H locs ls fo fl1 hw hW hS (lv_sub hl [1, 2, 3, 4, 5, 0] rfl)
  · have hw := hw.2 c13
    refine lv_lload hx hb d_Src_readCode_52 (lv_at hl 0 rfl) ?_
    refine lv_lconst (v := 0) hx hb d_Src_readCode_54 (by decide) ?_
    refine W.lcmp hx hb d_Src_readCode_55 ?_
    refine lv_if_le (tgt := 69) hx hb d_Src_readCode_56 (by decide) (fun c14 => ?_) (fun c14 => ?_)
    · have hw := hw.1 c14
      exact t_Src_readCode_69 hx hb hml hown hT hK hN hA hRc hRs hRf hRl hNN hE hret  o l1 l2 l3 l4 r9 x12 H locs ls fo fl1 hw hW hS (lv_sub hl [1, 2, 3, 4, 5, 0] rfl)
    · have hw := hw.2 c14
      refine lv_aload_n hx hb d_Src_readCode_59 rfl (lv_at hl 2 rfl) ?_
      refine lv_iconst (v := 0) hx hb d_Src_readCode_60 (by decide) ?_
      refine lv_aload_n hx hb d_Src_readCode_61 rfl (lv_at hl 1 rfl) ?_
      have hF := hW.free hS hA
      refine va_calll (va_runV (C := R_Src) (As := []) (rest := [.int 0, .ref (ad l1)]) ⟨hx, hb, hml, hown, hT⟩ (k_Src_readVarint l dC dI cI cB cJ cZ ad NN E tM tC kK kV hNN H.size o x12 fo hw) ⟨callB_of 0 hT (gwt_in w_6_108) rfl rfl rfl (hT _ w_1_11) (hT _ w_6_151) (by decide +kernel) ⟨Nat.le_trans (Nat.le_of_ble_eq_true rfl) hRf, Nat.le_trans (Nat.le_of_ble_eq_true rfl) hRl⟩, hT _ w_6_106, hT _ w_6_107⟩ ⟨PVc.blind, va_recv hK hW.1 (ci := 8) (q0 := o) rfl (pic_obj fo.1 fo.2 (by decide)), PVc.at _ hW hK hN hE hS hF⟩ rfl rfl hl.1 rfl (lv_room (Nat.le_of_ble_eq_true rfl)) d_Src_readCode_62 ⟨hRc, hRs⟩) hS (fun q _ h => hF q h) hF (fun r16 x15 t H locs ht hvm hw hB hz1 hk1 hS => ?_)
      have hW := Wd.back hB ht hF
      clear hB ht hF hz1 hk1 hvm
      have hF := hW.free hS hA
      refine va_calll (va_runSN (As := [.long r16]) (rest := [.int 0, .ref (ad l1)]) ⟨hx, hb, hml, hown, hT⟩ (k_V_unzigzag l dC dI cI cB cJ cZ ad NN E tM tC kK kV hNN H.size r16 x15  hw) ⟨va_cnB 1 hT (gwt_in w_6_162) rfl rfl rfl (hN _ wn_6_160 rfl) (hT _ w_1_1) (by decide +kernel) ⟨Nat.le_trans (Nat.le_of_ble_eq_true rfl) hRf, Nat.le_trans (Nat.le_of_ble_eq_true rfl) hRl⟩, hT _ w_6_161, trivial⟩ ⟨PVc.blind, PVc.at _ hW hK hN hE hS hF⟩ rfl rfl hl.1 rfl (lv_room (Nat.le_of_ble_eq_true rfl)) d_Src_readCode_65 ⟨hRc, hRs⟩) hS (fun q _ h => hF q h) hF (fun r18 x17 t H locs ht hvm hw hB hz1 hk1 hS => ?_)
      have hW := Wd.back hB ht hF
      clear hB ht hF hz1 hk1 hvm
      obtain ⟨hi, hw⟩ := hw
      refine w_last (o := l1) hx hb hK hW hS fl1.1 fl1.2 hi d_Src_readCode_68 (fun H locs hW hS => ?_)
      obtain ⟨x19, ex19⟩ : ∃ y : St, y = setL x17 l1 0 r18 := ⟨_, rfl⟩
      rw [← ex19] at hW
      have hw := hw x19 ex19
      exact t_Src_readCode_69 hx hb hml hown hT hK hN hA hRc hRs hRf hRl hNN hE hret  o l1 l2 l3 l4 r9 x19 H locs ls fo fl1 hw hW hS (lv_sub hl [1, 2, 3, 4, 5, 0] rfl)
set_option maxRecDepth 100000 in
set_option maxHeartbeats 4000000 in
set_option maxRecDepth 100000 in
theorem t_Src_readCode_e {p : Program} {l : Launch} {e : Env} {R : Room} {s : State} {m : MethodId} {args : Array Value} {below : List Frame} {meth : Method} {c : Code} {cells slots : Nat} {Q : State → Prop} {dC : Nat → ClassId} {dI : Nat → Nat → Nat} {cI cB cJ cZ : ClassId} {A : Nat → Prop} {ad : Nat → Nat} {NN : Nat} {E : Heap} {tM tC : Nat} {kK kV : Nat → Nat} {post : St → Prop} (hx : p.tables.exec = Jvm.exec) (hb : c.code = b_Src_readCode) (hml : c.maxLocals = 8) (hown : s.vm.findClass R_Src = some m.cls) (hT : ∀ w ∈ TG, w.before args s = true) (hK : va_K (dC, dI) CL (TY cI cB cJ cZ) s) (hN : NW s) (hA : ∀ q : Nat, s.heap.size ≤ q → A q) (hRc : cells ≤ R.cells) (hRs : slots ≤ R.slots) (hRf : 3 ≤ R.frames) (hRl : 140 ≤ R.locals) (hNN : 152 ≤ NN) (hE : CE E tM tC kK kV A s) (hret : ∀ (x : St) (H : Heap) (locs : List Loc) (pc : Nat) (ls : Array Slot), decode b_Src_readCode pc = .ok (.return_, 1) → post x → Wd dC dI cI cB cJ cZ ad stC kcC NN A x H → va_S A s.heap H locs → W p l e R s m args below meth c H locs cells slots Q (F0 m pc ls [])) : ∀ (o : Nat) (l1 : Nat) (l2 : Int32) (l3 : Int32) (x : St) (H : Heap) (locs : List Loc) (ls : Array Slot), (o < NN ∧ kcC o = 8) → (l1 < NN ∧ kcC l1 = 22) → wp_Src_readCode post o l1 l2 l3 x → Wd dC dI cI cB cJ cZ ad stC kcC NN A x H → va_S A s.heap H locs → lv_has ls 8 [(0, .ref (ad o)), (1, .ref (ad l1)), (2, .int l2), (3, .int l3)] → W p l e R s m args below meth c H locs cells slots Q (F0 m 0 ls []) := by
  intro o l1 l2 l3 x H locs ls fo fl1 hw hW hS hl
  unfold wp_Src_readCode at hw
  refine lv_aload_n hx hb d_Src_readCode_0 rfl (lv_at hl 0 rfl) ?_
  refine w_geti (k := 2) (t := 8) (C := R_Src) (T := F_Src) (N := 5) hx hb hT hown hK hW fo.1 fo.2 (by decide) in_Src rfl rfl (by decide) rfl fr_Src_2 w_2_239 d_Src_readCode_1 ?_
  refine lv_topi (fun v20 ev20 => ?_)
  have hw := hw v20 ev20
  refine lv_istore (lv' := [(4, .int v20), (0, .ref (ad o)), (1, .ref (ad l1)), (2, .int l2), (3, .int l3)]) hx hb d_Src_readCode_4 hl (by decide) rfl (fun ls hl => ?_)
  refine lv_iload_n hx hb d_Src_readCode_6 rfl (lv_at hl 4 rfl) ?_
  refine lv_if_eq (tgt := 20) hx hb d_Src_readCode_7 (by decide) (fun c21 => ?_) (fun c21 => ?_)
  · have hw := hw.1 c21
    exact t_Src_readCode_20 hx hb hml hown hT hK hN hA hRc hRs hRf hRl hNN hE hret  o l1 l2 l3 v20 x H locs ls fo fl1 hw hW hS (lv_sub hl [1, 2, 3, 4, 0] rfl)
  · have hw := hw.2 c21
    refine lv_aload_n hx hb d_Src_readCode_10 rfl (lv_at hl 1 rfl) ?_
    refine lv_aload_n hx hb d_Src_readCode_11 rfl (lv_at hl 1 rfl) ?_
    have hF := hW.free hS hA
    refine va_calll (va_runV (C := R_Src) (As := []) (rest := [.ref (ad o)]) ⟨hx, hb, hml, hown, hT⟩ (k_Src_readVarint l dC dI cI cB cJ cZ ad NN E tM tC kK kV hNN H.size o x fo hw) ⟨callB_of 0 hT (gwt_in w_6_108) rfl rfl rfl (hT _ w_1_11) (hT _ w_6_151) (by decide +kernel) ⟨Nat.le_trans (Nat.le_of_ble_eq_true rfl) hRf, Nat.le_trans (Nat.le_of_ble_eq_true rfl) hRl⟩, hT _ w_6_106, hT _ w_6_107⟩ ⟨PVc.blind, va_recv hK hW.1 (ci := 8) (q0 := o) rfl (pic_obj fo.1 fo.2 (by decide)), PVc.at _ hW hK hN hE hS hF⟩ rfl rfl hl.1 rfl (lv_room (Nat.le_of_ble_eq_true rfl)) d_Src_readCode_12 ⟨hRc, hRs⟩) hS (fun q _ h => hF q h) hF (fun r23 x22 t H locs ht hvm hw hB hz1 hk1 hS => ?_)
    have hW := Wd.back hB ht hF
    clear hB ht hF hz1 hk1 hvm
    have hF := hW.free hS hA
    refine va_calli (va_runV (C := R_Src) (As := [.long r23]) (rest := []) ⟨hx, hb, hml, hown, hT⟩ (k_Src_narrow l dC dI cI cB cJ cZ ad NN E tM tC kK kV hNN H.size o r23 x22 fo hw) ⟨callB_of 1 hT (gwt_in w_6_193) rfl rfl rfl (hT _ w_1_11) (hT _ w_7_6) (by decide +kernel) ⟨Nat.le_trans (Nat.le_of_ble_eq_true rfl) hRf, Nat.le_trans (Nat.le_of_ble_eq_true rfl) hRl⟩, hT _ w_6_191, hT _ w_6_192⟩ ⟨PVc.blind, va_recv hK hW.1 (ci := 8) (q0 := o) rfl (pic_obj fo.1 fo.2 (by decide)), PVc.at _ hW hK hN hE hS hF⟩ rfl rfl hl.1 rfl (lv_room (Nat.le_of_ble_eq_true rfl)) d_Src_readCode_15 ⟨hRc, hRs⟩) hS (fun q _ h => hF q h) hF (fun r25 x24 t H locs ht hvm hw hB hz1 hk1 hS => ?_)
    have hW := Wd.back hB ht hF
    clear hB ht hF hz1 hk1 hvm
    refine lv_istore (lv' := [(4, .int r25), (0, .ref (ad o)), (1, .ref (ad l1)), (2, .int l2), (3, .int l3)]) hx hb d_Src_readCode_18 hl (by decide) rfl (fun ls hl => ?_)
    exact t_Src_readCode_20 hx hb hml hown hT hK hN hA hRc hRs hRf hRl hNN hE hret  o l1 l2 l3 r25 x24 H locs ls fo fl1 hw hW hS (lv_sub hl [1, 2, 3, 4, 0] rfl)
set_option maxHeartbeats 4000000 in
set_option maxRecDepth 100000 in
theorem k_Src_readCode (l : Launch) (dC : Nat → ClassId) (dI : Nat → Nat → Nat) (cI cB cJ cZ : ClassId) (ad : Nat → Nat) (NN : Nat) (E : Heap) (tM tC : Nat) (kK kV : Nat → Nat) (hNN : 152 ≤ NN) (sz : Nat) (o : Nat) (l1 : Nat) (l2 : Int32) (l3 : Int32) (x : St) (fo : o < NN ∧ kcC o = 8) (fl1 : l1 < NN ∧ kcC l1 = 22) {post : St → Prop} (hw : wp_Src_readCode post o l1 l2 l3 x) : Met l y_Src_readCode (wsOf y_Src_readCode b_Src_readCode 8 (none)) ({ frames := 3, cells := 0, slots := 0, locals := 140 }) (va_Pc [.ref (ad o), .ref (ad l1), .int l2, .int l3] (PVc dC dI cI cB cJ cZ ad stC kcC NN E tM tC kK kV sz x)) (va_Qv (fun (y : St) => post y) (fun y t => Wd dC dI cI cB cJ cZ ad stC kcC NN (va_A (pic ad stC kcC NN cI cB cJ cZ x) sz) y t.heap) (va_A (pic ad stC kcC NN cI cB cJ cZ x) sz)) 0 0 (va_A (pic ad stC kcC NN cI cB cJ cZ x) sz) := by
  refine Met.ofW (cc := b_Src_readCode) (maxL := 8) (ret := none) (by decide) rfl ?_
  intro p e s m args below meth c s₁ B hml hv
  obtain ⟨rfl, ⟨hsz, hW0, hK, hN⟩, hE⟩ := hv
  have hx := B.exec
  have hb := B.bytes
  have hr := B.returns
  have hts := atoms_spec B.pre
  have hT : ∀ w ∈ TG, w.before _ s = true := fun w h => hts w (List.mem_cons_of_mem _ h)
  have hown : s.vm.findClass R_Src = some m.cls := findClass_of_methodNamed B.named
  have hlocks := B.notSynchronized
  subst hsz
  have hW : Wd dC dI cI cB cJ cZ ad stC kcC NN (va_A (pic ad stC kcC NN cI cB cJ cZ x) s.heap.size) x s.heap := ⟨hW0.1, hW0.2.1.self (sz := s.heap.size), hW0.2.2⟩
  generalize hAe : va_A (pic ad stC kcC NN cI cB cJ cZ x) s.heap.size = A at hW hE ⊢
  have hA : ∀ q : Nat, s.heap.size ≤ q → A q := fun q h => by rw [← hAe]; exact Or.inr h
  have hS : va_S A s.heap s.heap [] := va_S.rf
  have hl := lv_entry ([.ref (ad o), .ref (ad l1), .int l2, .int l3]) (n := 8) (Nat.le_of_ble_eq_true rfl)
  rw [lg_entry_eq]
  generalize (lg_sl ([.ref (ad o), .ref (ad l1), .int l2, .int l3]) ++ List.replicate (8 - (lg_sl ([.ref (ad o), .ref (ad l1), .int l2, .int l3])).length) Slot.unset).toArray = ls at hl ⊢
  have hl : lv_has ls 8 [(0, .ref (ad o)), (1, .ref (ad l1)), (2, .int l2), (3, .int l3)] := hl
  exact t_Src_readCode_e hx hb hml hown hT hK hN hA (Nat.le_refl 0) (Nat.le_refl 0) (Nat.le_refl 3) (Nat.le_refl 140) hNN hE (fun x H locs pc ls hd hp hW hS => W.vret hx hb hr (fun t ht hM => ⟨⟨x, rfl, hp, Wd.back hW ht.symm (fun _ z => z)⟩, hS.F ht⟩) hS.2.2 hd hlocks)  o l1 l2 l3 x _ _ ls fo fl1 hw hW hS hl
end
