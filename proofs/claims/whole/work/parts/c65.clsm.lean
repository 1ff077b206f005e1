theorem w_5_171 : (Jvm.Cond.methodLink "StripedVault$Writer" (223 : Nat) ({ cls := "StripedVault$Writer", name := "putPlain", desc := "(I[JI)V" } : Jvm.MethodName)) ∈ TG := tw_5 171 (by decide +kernel) (by decide +kernel)
theorem w_5_173 : (Jvm.Cond.instanceMethod ({ cls := "StripedVault$Writer", name := "putPlain", desc := "(I[JI)V" } : Jvm.MethodName)) ∈ TG := tw_5 173 (by decide +kernel) (by decide +kernel)
theorem w_5_174 : (Jvm.Cond.code ({ cls := "StripedVault$Writer", name := "putPlain", desc := "(I[JI)V" } : Jvm.MethodName) prog_12_method_15_code (7 : Nat) (Option.none : Option Jvm.ClassFile.FieldType)) ∈ TG := tw_5 174 (by decide +kernel) (by decide +kernel)
theorem w_5_215 : (Jvm.Cond.methodLink "StripedVault$Writer" (252 : Nat) ({ cls := "StripedVault$Writer", name := "slotOf", desc := "(IJ)I" } : Jvm.MethodName)) ∈ TG := tw_5 215 (by decide +kernel) (by decide +kernel)
theorem w_5_217 : (Jvm.Cond.instanceMethod ({ cls := "StripedVault$Writer", name := "slotOf", desc := "(IJ)I" } : Jvm.MethodName)) ∈ TG := tw_5 217 (by decide +kernel) (by decide +kernel)
theorem w_5_218 : (Jvm.Cond.code ({ cls := "StripedVault$Writer", name := "slotOf", desc := "(IJ)I" } : Jvm.MethodName) prog_12_method_18_code (7 : Nat) (Option.some Jvm.ClassFile.FieldType.int)) ∈ TG := tw_5 218 (by decide +kernel) (by decide +kernel)
theorem w_6_13 : (Jvm.Cond.methodLink "StripedVault$Sink" (115 : Nat) ({ cls := "java/lang/Math", name := "min", desc := "(JJ)J" } : Jvm.MethodName)) ∈ TG := tw_6 13 (by decide +kernel) (by decide +kernel)
theorem w_6_7 : (Jvm.Cond.static ({ cls := "StripedVault", name := "zigzag", desc := "(J)J" } : Jvm.MethodName)) ∈ TG := tw_6 7 (by decide +kernel) (by decide +kernel)
theorem w_6_8 : (Jvm.Cond.code ({ cls := "StripedVault", name := "zigzag", desc := "(J)J" } : Jvm.MethodName) prog_1_method_34_code (2 : Nat) (Option.some Jvm.ClassFile.FieldType.long)) ∈ TG := tw_6 8 (by decide +kernel) (by decide +kernel)
theorem wn_5_229 : (Jvm.Cond.methodLinkNest "StripedVault$Writer" (213 : Nat) ({ cls := "StripedVault", name := "widthOf", desc := "(J)I" } : Jvm.MethodName) "StripedVault") ∈ lw_tbl := tb_5 _ (List.mem_of_getElem? (i := 229) (by decide +kernel))
theorem wn_6_14 : (Jvm.Cond.methodLinkNest "StripedVault$Sink" (118 : Nat) ({ cls := "StripedVault", name := "widthOf", desc := "(J)I" } : Jvm.MethodName) "StripedVault") ∈ lw_tbl := tb_6 _ (List.mem_of_getElem? (i := 14) (by decide +kernel))
theorem wn_6_6 : (Jvm.Cond.methodLinkNest "StripedVault$Sink" (80 : Nat) ({ cls := "StripedVault", name := "zigzag", desc := "(J)J" } : Jvm.MethodName) "StripedVault") ∈ lw_tbl := tb_6 _ (List.mem_of_getElem? (i := 6) (by decide +kernel))
theorem ws_21 : Cond.selects R_Wrt y_Wrt_putPlain y_Wrt_putPlain ∈ TG := tw_s 21 (by decide +kernel) (by decide +kernel)
theorem ws_26 : Cond.selects R_Wrt y_Wrt_slotOf y_Wrt_slotOf ∈ TG := tw_s 26 (by decide +kernel) (by decide +kernel)
theorem d_Wrt_putDictionary_127 : decode b_Wrt_putDictionary 127 = .ok (.istore_n 3, 1) := by decide +kernel
theorem d_Wrt_putDictionary_128 : decode b_Wrt_putDictionary 128 = .ok (.aload_n 0, 1) := by decide +kernel
theorem d_Wrt_putDictionary_129 : decode b_Wrt_putDictionary 129 = .ok (.getfield 30, 3) := by decide +kernel
theorem d_Wrt_putDictionary_132 : decode b_Wrt_putDictionary 132 = .ok (.iload_n 2, 1) := by decide +kernel
theorem d_Wrt_putDictionary_133 : decode b_Wrt_putDictionary 133 = .ok (.i2l, 1) := by decide +kernel
theorem d_Wrt_putDictionary_134 : decode b_Wrt_putDictionary 134 = .ok (.invokevirtual 98, 3) := by decide +kernel
theorem d_Wrt_putDictionary_137 : decode b_Wrt_putDictionary 137 = .ok (.aload_n 0, 1) := by decide +kernel
theorem d_Wrt_putDictionary_138 : decode b_Wrt_putDictionary 138 = .ok (.iload_n 1, 1) := by decide +kernel
theorem d_Wrt_putDictionary_139 : decode b_Wrt_putDictionary 139 = .ok (.aload_n 0, 1) := by decide +kernel
theorem d_Wrt_putDictionary_140 : decode b_Wrt_putDictionary 140 = .ok (.getfield 53, 3) := by decide +kernel
theorem d_Wrt_putDictionary_143 : decode b_Wrt_putDictionary 143 = .ok (.iload_n 2, 1) := by decide +kernel
theorem d_Wrt_putDictionary_144 : decode b_Wrt_putDictionary 144 = .ok (.invokevirtual 223, 3) := by decide +kernel
theorem d_Wrt_putDictionary_147 : decode b_Wrt_putDictionary 147 = .ok (.aload_n 0, 1) := by decide +kernel
theorem d_Wrt_putDictionary_148 : decode b_Wrt_putDictionary 148 = .ok (.getfield 30, 3) := by decide +kernel
theorem d_Wrt_putDictionary_151 : decode b_Wrt_putDictionary 151 = .ok (.iload_n 3, 1) := by decide +kernel
theorem d_Wrt_putDictionary_152 : decode b_Wrt_putDictionary 152 = .ok (.invokevirtual 108, 3) := by decide +kernel
theorem d_Wrt_putDictionary_155 : decode b_Wrt_putDictionary 155 = .ok (.aload_n 0, 1) := by decide +kernel
theorem d_Wrt_putDictionary_156 : decode b_Wrt_putDictionary 156 = .ok (.getfield 30, 3) := by decide +kernel
theorem d_Wrt_putDictionary_159 : decode b_Wrt_putDictionary 159 = .ok (.aload_n 0, 1) := by decide +kernel
theorem d_Wrt_putDictionary_160 : decode b_Wrt_putDictionary 160 = .ok (.getfield 47, 3) := by decide +kernel
theorem d_Wrt_putDictionary_163 : decode b_Wrt_putDictionary 163 = .ok (.aload_n 0, 1) := by decide +kernel
theorem d_Wrt_putDictionary_164 : decode b_Wrt_putDictionary 164 = .ok (.getfield 154, 3) := by decide +kernel
theorem d_Wrt_putDictionary_167 : decode b_Wrt_putDictionary 167 = .ok (.iload_n 3, 1) := by decide +kernel
theorem d_Wrt_putDictionary_168 : decode b_Wrt_putDictionary 168 = .ok (.invokevirtual 216, 3) := by decide +kernel
theorem d_Wrt_putDictionary_171 : decode b_Wrt_putDictionary 171 = .ok (.return_, 1) := by decide +kernel
theorem d_Wrt_putDictionary_89 : decode b_Wrt_putDictionary 89 = .ok (.iload_n 3, 1) := by decide +kernel
theorem d_Wrt_putDictionary_90 : decode b_Wrt_putDictionary 90 = .ok (.iload_n 2, 1) := by decide +kernel
theorem d_Wrt_putDictionary_91 : decode b_Wrt_putDictionary 91 = .ok (.if_icmp .ge 21, 3) := by decide +kernel
theorem d_Wrt_putDictionary_112 : decode b_Wrt_putDictionary 112 = .ok (.iload_n 2, 1) := by decide +kernel
theorem d_Wrt_putDictionary_113 : decode b_Wrt_putDictionary 113 = .ok (.ifCond .ne 7, 3) := by decide +kernel
theorem d_Wrt_putDictionary_120 : decode b_Wrt_putDictionary 120 = .ok (.iload_n 2, 1) := by decide +kernel
theorem d_Wrt_putDictionary_121 : decode b_Wrt_putDictionary 121 = .ok (.iconst 1, 1) := by decide +kernel
theorem d_Wrt_putDictionary_122 : decode b_Wrt_putDictionary 122 = .ok (.isub, 1) := by decide +kernel
theorem d_Wrt_putDictionary_123 : decode b_Wrt_putDictionary 123 = .ok (.i2l, 1) := by decide +kernel
theorem d_Wrt_putDictionary_124 : decode b_Wrt_putDictionary 124 = .ok (.invokestatic 213, 3) := by decide +kernel
theorem d_Wrt_putDictionary_116 : decode b_Wrt_putDictionary 116 = .ok (.iconst 0, 1) := by decide +kernel
theorem d_Wrt_putDictionary_117 : decode b_Wrt_putDictionary 117 = .ok (.goto 10, 3) := by decide +kernel
theorem d_Wrt_putDictionary_94 : decode b_Wrt_putDictionary 94 = .ok (.aload_n 0, 1) := by decide +kernel
theorem d_Wrt_putDictionary_95 : decode b_Wrt_putDictionary 95 = .ok (.getfield 56, 3) := by decide +kernel
theorem d_Wrt_putDictionary_98 : decode b_Wrt_putDictionary 98 = .ok (.aload_n 0, 1) := by decide +kernel
theorem d_Wrt_putDictionary_99 : decode b_Wrt_putDictionary 99 = .ok (.getfield 59, 3) := by decide +kernel
theorem d_Wrt_putDictionary_102 : decode b_Wrt_putDictionary 102 = .ok (.iload_n 3, 1) := by decide +kernel
theorem d_Wrt_putDictionary_103 : decode b_Wrt_putDictionary 103 = .ok (.iaload, 1) := by decide +kernel
theorem d_Wrt_putDictionary_104 : decode b_Wrt_putDictionary 104 = .ok (.iconst 0, 1) := by decide +kernel
theorem d_Wrt_putDictionary_105 : decode b_Wrt_putDictionary 105 = .ok (.iastore, 1) := by decide +kernel
theorem d_Wrt_putDictionary_106 : decode b_Wrt_putDictionary 106 = .ok (.iinc 3 1, 3) := by decide +kernel
theorem d_Wrt_putDictionary_109 : decode b_Wrt_putDictionary 109 = .ok (.goto (-20), 3) := by decide +kernel
theorem d_Wrt_putDictionary_66 : decode b_Wrt_putDictionary 66 = .ok (.aload_n 0, 1) := by decide +kernel
theorem d_Wrt_putDictionary_67 : decode b_Wrt_putDictionary 67 = .ok (.getfield 47, 3) := by decide +kernel
theorem d_Wrt_putDictionary_70 : decode b_Wrt_putDictionary 70 = .ok (.iload_n 3, 1) := by decide +kernel
theorem d_Wrt_putDictionary_71 : decode b_Wrt_putDictionary 71 = .ok (.aload_n 0, 1) := by decide +kernel
theorem d_Wrt_putDictionary_72 : decode b_Wrt_putDictionary 72 = .ok (.getfield 56, 3) := by decide +kernel
theorem d_Wrt_putDictionary_75 : decode b_Wrt_putDictionary 75 = .ok (.iload 4, 2) := by decide +kernel
theorem d_Wrt_putDictionary_77 : decode b_Wrt_putDictionary 77 = .ok (.iaload, 1) := by decide +kernel
theorem d_Wrt_putDictionary_78 : decode b_Wrt_putDictionary 78 = .ok (.iconst 1, 1) := by decide +kernel
theorem d_Wrt_putDictionary_79 : decode b_Wrt_putDictionary 79 = .ok (.isub, 1) := by decide +kernel
theorem d_Wrt_putDictionary_80 : decode b_Wrt_putDictionary 80 = .ok (.iastore, 1) := by decide +kernel
theorem d_Wrt_putDictionary_81 : decode b_Wrt_putDictionary 81 = .ok (.iinc 3 1, 3) := by decide +kernel
theorem d_Wrt_putDictionary_84 : decode b_Wrt_putDictionary 84 = .ok (.goto (-80), 3) := by decide +kernel
theorem d_Wrt_putDictionary_4 : decode b_Wrt_putDictionary 4 = .ok (.iload_n 3, 1) := by decide +kernel
theorem d_Wrt_putDictionary_5 : decode b_Wrt_putDictionary 5 = .ok (.aload_n 0, 1) := by decide +kernel
theorem d_Wrt_putDictionary_6 : decode b_Wrt_putDictionary 6 = .ok (.getfield 154, 3) := by decide +kernel
theorem d_Wrt_putDictionary_9 : decode b_Wrt_putDictionary 9 = .ok (.if_icmp .ge 78, 3) := by decide +kernel
theorem d_Wrt_putDictionary_87 : decode b_Wrt_putDictionary 87 = .ok (.iconst 0, 1) := by decide +kernel
theorem d_Wrt_putDictionary_88 : decode b_Wrt_putDictionary 88 = .ok (.istore_n 3, 1) := by decide +kernel
theorem d_Wrt_putDictionary_12 : decode b_Wrt_putDictionary 12 = .ok (.aload_n 0, 1) := by decide +kernel
theorem d_Wrt_putDictionary_13 : decode b_Wrt_putDictionary 13 = .ok (.iload_n 1, 1) := by decide +kernel
theorem d_Wrt_putDictionary_14 : decode b_Wrt_putDictionary 14 = .ok (.aload_n 0, 1) := by decide +kernel
theorem d_Wrt_putDictionary_15 : decode b_Wrt_putDictionary 15 = .ok (.getfield 43, 3) := by decide +kernel
theorem d_Wrt_putDictionary_18 : decode b_Wrt_putDictionary 18 = .ok (.iload_n 3, 1) := by decide +kernel
theorem d_Wrt_putDictionary_19 : decode b_Wrt_putDictionary 19 = .ok (.laload, 1) := by decide +kernel
theorem d_Wrt_putDictionary_20 : decode b_Wrt_putDictionary 20 = .ok (.invokevirtual 252, 3) := by decide +kernel
theorem d_Wrt_putDictionary_23 : decode b_Wrt_putDictionary 23 = .ok (.istore 4, 2) := by decide +kernel
theorem d_Wrt_putDictionary_25 : decode b_Wrt_putDictionary 25 = .ok (.aload_n 0, 1) := by decide +kernel
theorem d_Wrt_putDictionary_26 : decode b_Wrt_putDictionary 26 = .ok (.getfield 56, 3) := by decide +kernel
theorem d_Wrt_putDictionary_29 : decode b_Wrt_putDictionary 29 = .ok (.iload 4, 2) := by decide +kernel
theorem d_Wrt_putDictionary_31 : decode b_Wrt_putDictionary 31 = .ok (.iaload, 1) := by decide +kernel
theorem d_Wrt_putDictionary_32 : decode b_Wrt_putDictionary 32 = .ok (.ifCond .ne 34, 3) := by decide +kernel
theorem d_Wrt_putDictionary_35 : decode b_Wrt_putDictionary 35 = .ok (.aload_n 0, 1) := by decide +kernel
theorem d_Wrt_putDictionary_36 : decode b_Wrt_putDictionary 36 = .ok (.getfield 53, 3) := by decide +kernel
theorem d_Wrt_putDictionary_39 : decode b_Wrt_putDictionary 39 = .ok (.iload_n 2, 1) := by decide +kernel
theorem d_Wrt_putDictionary_40 : decode b_Wrt_putDictionary 40 = .ok (.aload_n 0, 1) := by decide +kernel
theorem d_Wrt_putDictionary_41 : decode b_Wrt_putDictionary 41 = .ok (.getfield 43, 3) := by decide +kernel
theorem d_Wrt_putDictionary_44 : decode b_Wrt_putDictionary 44 = .ok (.iload_n 3, 1) := by decide +kernel
theorem d_Wrt_putDictionary_45 : decode b_Wrt_putDictionary 45 = .ok (.laload, 1) := by decide +kernel
theorem d_Wrt_putDictionary_46 : decode b_Wrt_putDictionary 46 = .ok (.lastore, 1) := by decide +kernel
theorem d_Wrt_putDictionary_47 : decode b_Wrt_putDictionary 47 = .ok (.aload_n 0, 1) := by decide +kernel
theorem d_Wrt_putDictionary_48 : decode b_Wrt_putDictionary 48 = .ok (.getfield 59, 3) := by decide +kernel
theorem d_Wrt_putDictionary_51 : decode b_Wrt_putDictionary 51 = .ok (.iload_n 2, 1) := by decide +kernel
theorem d_Wrt_putDictionary_52 : decode b_Wrt_putDictionary 52 = .ok (.iload 4, 2) := by decide +kernel
theorem d_Wrt_putDictionary_54 : decode b_Wrt_putDictionary 54 = .ok (.iastore, 1) := by decide +kernel
theorem d_Wrt_putDictionary_55 : decode b_Wrt_putDictionary 55 = .ok (.iinc 2 1, 3) := by decide +kernel
theorem d_Wrt_putDictionary_58 : decode b_Wrt_putDictionary 58 = .ok (.aload_n 0, 1) := by decide +kernel
theorem d_Wrt_putDictionary_59 : decode b_Wrt_putDictionary 59 = .ok (.getfield 56, 3) := by decide +kernel
theorem d_Wrt_putDictionary_62 : decode b_Wrt_putDictionary 62 = .ok (.iload 4, 2) := by decide +kernel
theorem d_Wrt_putDictionary_64 : decode b_Wrt_putDictionary 64 = .ok (.iload_n 2, 1) := by decide +kernel
theorem d_Wrt_putDictionary_65 : decode b_Wrt_putDictionary 65 = .ok (.iastore, 1) := by decide +kernel
theorem d_Wrt_putDictionary_0 : decode b_Wrt_putDictionary 0 = .ok (.iconst 0, 1) := by decide +kernel
theorem d_Wrt_putDictionary_1 : decode b_Wrt_putDictionary 1 = .ok (.istore_n 2, 1) := by decide +kernel
theorem d_Wrt_putDictionary_2 : decode b_Wrt_putDictionary 2 = .ok (.iconst 0, 1) := by decide +kernel
theorem d_Wrt_putDictionary_3 : decode b_Wrt_putDictionary 3 = .ok (.istore_n 3, 1) := by decide +kernel
theorem d_Snk_putBlock_230 : decode b_Snk_putBlock 230 = .ok (.iinc 6 1, 3) := by decide +kernel
theorem d_Snk_putBlock_233 : decode b_Snk_putBlock 233 = .ok (.goto (-79), 3) := by decide +kernel
theorem d_Snk_putBlock_214 : decode b_Snk_putBlock 214 = .ok (.aload_n 0, 1) := by decide +kernel
theorem d_Snk_putBlock_215 : decode b_Snk_putBlock 215 = .ok (.getfield 9, 3) := by decide +kernel
theorem d_Snk_putBlock_218 : decode b_Snk_putBlock 218 = .ok (.iload 6, 2) := by decide +kernel
theorem d_Snk_putBlock_220 : decode b_Snk_putBlock 220 = .ok (.iaload, 1) := by decide +kernel
theorem d_Snk_putBlock_221 : decode b_Snk_putBlock 221 = .ok (.invokevirtual 108, 3) := by decide +kernel
theorem d_Snk_putBlock_224 : decode b_Snk_putBlock 224 = .ok (.iinc 8 1, 3) := by decide +kernel
theorem d_Snk_putBlock_227 : decode b_Snk_putBlock 227 = .ok (.goto (-54), 3) := by decide +kernel
theorem d_Snk_putBlock_173 : decode b_Snk_putBlock 173 = .ok (.iload 8, 2) := by decide +kernel
theorem d_Snk_putBlock_175 : decode b_Snk_putBlock 175 = .ok (.iload 7, 2) := by decide +kernel
theorem d_Snk_putBlock_177 : decode b_Snk_putBlock 177 = .ok (.bipush 16, 2) := by decide +kernel
theorem d_Snk_putBlock_179 : decode b_Snk_putBlock 179 = .ok (.iadd, 1) := by decide +kernel
theorem d_Snk_putBlock_180 : decode b_Snk_putBlock 180 = .ok (.if_icmp .ge 50, 3) := by decide +kernel
theorem d_Snk_putBlock_183 : decode b_Snk_putBlock 183 = .ok (.iload 7, 2) := by decide +kernel
theorem d_Snk_putBlock_185 : decode b_Snk_putBlock 185 = .ok (.iload_n 3, 1) := by decide +kernel
theorem d_Snk_putBlock_186 : decode b_Snk_putBlock 186 = .ok (.if_icmp .ge 44, 3) := by decide +kernel
theorem d_Snk_putBlock_189 : decode b_Snk_putBlock 189 = .ok (.aload_n 0, 1) := by decide +kernel
theorem d_Snk_putBlock_190 : decode b_Snk_putBlock 190 = .ok (.iload 8, 2) := by decide +kernel
theorem d_Snk_putBlock_192 : decode b_Snk_putBlock 192 = .ok (.iload_n 3, 1) := by decide +kernel
theorem d_Snk_putBlock_193 : decode b_Snk_putBlock 193 = .ok (.if_icmp .ge 20, 3) := by decide +kernel
theorem d_Snk_putBlock_213 : decode b_Snk_putBlock 213 = .ok (.lconst 0, 1) := by decide +kernel
theorem d_Snk_putBlock_196 : decode b_Snk_putBlock 196 = .ok (.aload_n 1, 1) := by decide +kernel
theorem d_Snk_putBlock_197 : decode b_Snk_putBlock 197 = .ok (.iload 8, 2) := by decide +kernel
theorem d_Snk_putBlock_199 : decode b_Snk_putBlock 199 = .ok (.laload, 1) := by decide +kernel
theorem d_Snk_putBlock_200 : decode b_Snk_putBlock 200 = .ok (.aload_n 1, 1) := by decide +kernel
theorem d_Snk_putBlock_201 : decode b_Snk_putBlock 201 = .ok (.iload 8, 2) := by decide +kernel
theorem d_Snk_putBlock_203 : decode b_Snk_putBlock 203 = .ok (.iconst 1, 1) := by decide +kernel
theorem d_Snk_putBlock_204 : decode b_Snk_putBlock 204 = .ok (.isub, 1) := by decide +kernel
theorem d_Snk_putBlock_205 : decode b_Snk_putBlock 205 = .ok (.laload, 1) := by decide +kernel
theorem d_Snk_putBlock_206 : decode b_Snk_putBlock 206 = .ok (.lsub, 1) := by decide +kernel
theorem d_Snk_putBlock_207 : decode b_Snk_putBlock 207 = .ok (.lload 4, 2) := by decide +kernel
theorem d_Snk_putBlock_209 : decode b_Snk_putBlock 209 = .ok (.lsub, 1) := by decide +kernel
theorem d_Snk_putBlock_210 : decode b_Snk_putBlock 210 = .ok (.goto 4, 3) := by decide +kernel
theorem d_Snk_putBlock_154 : decode b_Snk_putBlock 154 = .ok (.iload 6, 2) := by decide +kernel
theorem d_Snk_putBlock_156 : decode b_Snk_putBlock 156 = .ok (.iconst 4, 1) := by decide +kernel
theorem d_Snk_putBlock_157 : decode b_Snk_putBlock 157 = .ok (.if_icmp .ge 79, 3) := by decide +kernel
theorem d_Snk_putBlock_236 : decode b_Snk_putBlock 236 = .ok (.return_, 1) := by decide +kernel
theorem d_Snk_putBlock_160 : decode b_Snk_putBlock 160 = .ok (.iload_n 2, 1) := by decide +kernel
theorem d_Snk_putBlock_161 : decode b_Snk_putBlock 161 = .ok (.bipush 16, 2) := by decide +kernel
theorem d_Snk_putBlock_163 : decode b_Snk_putBlock 163 = .ok (.iload 6, 2) := by decide +kernel
theorem d_Snk_putBlock_165 : decode b_Snk_putBlock 165 = .ok (.imul, 1) := by decide +kernel
theorem d_Snk_putBlock_166 : decode b_Snk_putBlock 166 = .ok (.iadd, 1) := by decide +kernel
theorem d_Snk_putBlock_167 : decode b_Snk_putBlock 167 = .ok (.istore 7, 2) := by decide +kernel
theorem d_Snk_putBlock_169 : decode b_Snk_putBlock 169 = .ok (.iload 7, 2) := by decide +kernel
theorem d_Snk_putBlock_171 : decode b_Snk_putBlock 171 = .ok (.istore 8, 2) := by decide +kernel
theorem d_Snk_putBlock_90 : decode b_Snk_putBlock 90 = .ok (.iload 10, 2) := by decide +kernel
theorem d_Snk_putBlock_92 : decode b_Snk_putBlock 92 = .ok (.iload 9, 2) := by decide +kernel
theorem d_Snk_putBlock_94 : decode b_Snk_putBlock 94 = .ok (.if_icmp .ge 28, 3) := by decide +kernel
theorem d_Snk_putBlock_122 : decode b_Snk_putBlock 122 = .ok (.aload_n 0, 1) := by decide +kernel
theorem d_Snk_putBlock_123 : decode b_Snk_putBlock 123 = .ok (.getfield 9, 3) := by decide +kernel
theorem d_Snk_putBlock_126 : decode b_Snk_putBlock 126 = .ok (.iload 6, 2) := by decide +kernel
theorem d_Snk_putBlock_128 : decode b_Snk_putBlock 128 = .ok (.lload 7, 2) := by decide +kernel
theorem d_Snk_putBlock_130 : decode b_Snk_putBlock 130 = .ok (.invokestatic 118, 3) := by decide +kernel
theorem d_Snk_putBlock_133 : decode b_Snk_putBlock 133 = .ok (.iastore, 1) := by decide +kernel
theorem d_Snk_putBlock_134 : decode b_Snk_putBlock 134 = .ok (.aload_n 0, 1) := by decide +kernel
theorem d_Snk_putBlock_135 : decode b_Snk_putBlock 135 = .ok (.aload_n 0, 1) := by decide +kernel
theorem d_Snk_putBlock_136 : decode b_Snk_putBlock 136 = .ok (.getfield 9, 3) := by decide +kernel
theorem d_Snk_putBlock_139 : decode b_Snk_putBlock 139 = .ok (.iload 6, 2) := by decide +kernel
theorem d_Snk_putBlock_141 : decode b_Snk_putBlock 141 = .ok (.iaload, 1) := by decide +kernel
theorem d_Snk_putBlock_142 : decode b_Snk_putBlock 142 = .ok (.invokevirtual 57, 3) := by decide +kernel
theorem d_Snk_putBlock_145 : decode b_Snk_putBlock 145 = .ok (.iinc 6 1, 3) := by decide +kernel
theorem d_Snk_putBlock_148 : decode b_Snk_putBlock 148 = .ok (.goto (-92), 3) := by decide +kernel
theorem d_Snk_putBlock_97 : decode b_Snk_putBlock 97 = .ok (.lload 7, 2) := by decide +kernel
theorem d_Snk_putBlock_99 : decode b_Snk_putBlock 99 = .ok (.aload_n 1, 1) := by decide +kernel
theorem d_Snk_putBlock_100 : decode b_Snk_putBlock 100 = .ok (.iload 10, 2) := by decide +kernel
theorem d_Snk_putBlock_102 : decode b_Snk_putBlock 102 = .ok (.laload, 1) := by decide +kernel
theorem d_Snk_putBlock_103 : decode b_Snk_putBlock 103 = .ok (.aload_n 1, 1) := by decide +kernel
theorem d_Snk_putBlock_104 : decode b_Snk_putBlock 104 = .ok (.iload 10, 2) := by decide +kernel
theorem d_Snk_putBlock_106 : decode b_Snk_putBlock 106 = .ok (.iconst 1, 1) := by decide +kernel
theorem d_Snk_putBlock_107 : decode b_Snk_putBlock 107 = .ok (.isub, 1) := by decide +kernel
theorem d_Snk_putBlock_108 : decode b_Snk_putBlock 108 = .ok (.laload, 1) := by decide +kernel
theorem d_Snk_putBlock_109 : decode b_Snk_putBlock 109 = .ok (.lsub, 1) := by decide +kernel
theorem d_Snk_putBlock_110 : decode b_Snk_putBlock 110 = .ok (.lload 4, 2) := by decide +kernel
theorem d_Snk_putBlock_112 : decode b_Snk_putBlock 112 = .ok (.lsub, 1) := by decide +kernel
theorem d_Snk_putBlock_113 : decode b_Snk_putBlock 113 = .ok (.lor, 1) := by decide +kernel
theorem d_Snk_putBlock_114 : decode b_Snk_putBlock 114 = .ok (.lstore 7, 2) := by decide +kernel
theorem d_Snk_putBlock_116 : decode b_Snk_putBlock 116 = .ok (.iinc 10 1, 3) := by decide +kernel
theorem d_Snk_putBlock_119 : decode b_Snk_putBlock 119 = .ok (.goto (-29), 3) := by decide +kernel
theorem d_Snk_putBlock_56 : decode b_Snk_putBlock 56 = .ok (.iload 6, 2) := by decide +kernel
theorem d_Snk_putBlock_58 : decode b_Snk_putBlock 58 = .ok (.iconst 4, 1) := by decide +kernel
theorem d_Snk_putBlock_59 : decode b_Snk_putBlock 59 = .ok (.if_icmp .ge 92, 3) := by decide +kernel
theorem d_Snk_putBlock_151 : decode b_Snk_putBlock 151 = .ok (.iconst 0, 1) := by decide +kernel
theorem d_Snk_putBlock_152 : decode b_Snk_putBlock 152 = .ok (.istore 6, 2) := by decide +kernel
theorem d_Snk_putBlock_62 : decode b_Snk_putBlock 62 = .ok (.lconst 0, 1) := by decide +kernel
theorem d_Snk_putBlock_63 : decode b_Snk_putBlock 63 = .ok (.lstore 7, 2) := by decide +kernel
theorem d_Snk_putBlock_65 : decode b_Snk_putBlock 65 = .ok (.iload_n 2, 1) := by decide +kernel
theorem d_Snk_putBlock_66 : decode b_Snk_putBlock 66 = .ok (.bipush 16, 2) := by decide +kernel
theorem d_Snk_putBlock_68 : decode b_Snk_putBlock 68 = .ok (.iload 6, 2) := by decide +kernel
theorem d_Snk_putBlock_70 : decode b_Snk_putBlock 70 = .ok (.imul, 1) := by decide +kernel
theorem d_Snk_putBlock_71 : decode b_Snk_putBlock 71 = .ok (.iadd, 1) := by decide +kernel
theorem d_Snk_putBlock_72 : decode b_Snk_putBlock 72 = .ok (.bipush 16, 2) := by decide +kernel
theorem d_Snk_putBlock_74 : decode b_Snk_putBlock 74 = .ok (.iadd, 1) := by decide +kernel
theorem d_Snk_putBlock_75 : decode b_Snk_putBlock 75 = .ok (.iload_n 3, 1) := by decide +kernel
theorem d_Snk_putBlock_76 : decode b_Snk_putBlock 76 = .ok (.invokestatic 19, 3) := by decide +kernel
theorem d_Snk_putBlock_79 : decode b_Snk_putBlock 79 = .ok (.istore 9, 2) := by decide +kernel
theorem d_Snk_putBlock_81 : decode b_Snk_putBlock 81 = .ok (.iload_n 2, 1) := by decide +kernel
theorem d_Snk_putBlock_82 : decode b_Snk_putBlock 82 = .ok (.bipush 16, 2) := by decide +kernel
theorem d_Snk_putBlock_84 : decode b_Snk_putBlock 84 = .ok (.iload 6, 2) := by decide +kernel
theorem d_Snk_putBlock_86 : decode b_Snk_putBlock 86 = .ok (.imul, 1) := by decide +kernel
theorem d_Snk_putBlock_87 : decode b_Snk_putBlock 87 = .ok (.iadd, 1) := by decide +kernel
theorem d_Snk_putBlock_88 : decode b_Snk_putBlock 88 = .ok (.istore 10, 2) := by decide +kernel
theorem d_Snk_putBlock_14 : decode b_Snk_putBlock 14 = .ok (.iload 6, 2) := by decide +kernel
theorem d_Snk_putBlock_16 : decode b_Snk_putBlock 16 = .ok (.iload_n 3, 1) := by decide +kernel
theorem d_Snk_putBlock_17 : decode b_Snk_putBlock 17 = .ok (.if_icmp .ge 27, 3) := by decide +kernel
theorem d_Snk_putBlock_44 : decode b_Snk_putBlock 44 = .ok (.aload_n 0, 1) := by decide +kernel
theorem d_Snk_putBlock_45 : decode b_Snk_putBlock 45 = .ok (.lload 4, 2) := by decide +kernel
theorem d_Snk_putBlock_47 : decode b_Snk_putBlock 47 = .ok (.invokestatic 80, 3) := by decide +kernel
theorem d_Snk_putBlock_50 : decode b_Snk_putBlock 50 = .ok (.invokevirtual 65, 3) := by decide +kernel
theorem d_Snk_putBlock_53 : decode b_Snk_putBlock 53 = .ok (.iconst 0, 1) := by decide +kernel
theorem d_Snk_putBlock_54 : decode b_Snk_putBlock 54 = .ok (.istore 6, 2) := by decide +kernel
theorem d_Snk_putBlock_20 : decode b_Snk_putBlock 20 = .ok (.lload 4, 2) := by decide +kernel
theorem d_Snk_putBlock_22 : decode b_Snk_putBlock 22 = .ok (.aload_n 1, 1) := by decide +kernel
theorem d_Snk_putBlock_23 : decode b_Snk_putBlock 23 = .ok (.iload 6, 2) := by decide +kernel
theorem d_Snk_putBlock_25 : decode b_Snk_putBlock 25 = .ok (.laload, 1) := by decide +kernel
theorem d_Snk_putBlock_26 : decode b_Snk_putBlock 26 = .ok (.aload_n 1, 1) := by decide +kernel
theorem d_Snk_putBlock_27 : decode b_Snk_putBlock 27 = .ok (.iload 6, 2) := by decide +kernel
theorem d_Snk_putBlock_29 : decode b_Snk_putBlock 29 = .ok (.iconst 1, 1) := by decide +kernel
theorem d_Snk_putBlock_30 : decode b_Snk_putBlock 30 = .ok (.isub, 1) := by decide +kernel
theorem d_Snk_putBlock_31 : decode b_Snk_putBlock 31 = .ok (.laload, 1) := by decide +kernel
theorem d_Snk_putBlock_32 : decode b_Snk_putBlock 32 = .ok (.lsub, 1) := by decide +kernel
theorem d_Snk_putBlock_33 : decode b_Snk_putBlock 33 = .ok (.invokestatic 115, 3) := by decide +kernel
theorem d_Snk_putBlock_36 : decode b_Snk_putBlock 36 = .ok (.lstore 4, 2) := by decide +kernel
theorem d_Snk_putBlock_38 : decode b_Snk_putBlock 38 = .ok (.iinc 6 1, 3) := by decide +kernel
theorem d_Snk_putBlock_41 : decode b_Snk_putBlock 41 = .ok (.goto (-27), 3) := by decide +kernel
theorem d_Snk_putBlock_0 : decode b_Snk_putBlock 0 = .ok (.aload_n 1, 1) := by decide +kernel
theorem d_Snk_putBlock_1 : decode b_Snk_putBlock 1 = .ok (.iload_n 2, 1) := by decide +kernel
theorem d_Snk_putBlock_2 : decode b_Snk_putBlock 2 = .ok (.laload, 1) := by decide +kernel
theorem d_Snk_putBlock_3 : decode b_Snk_putBlock 3 = .ok (.aload_n 1, 1) := by decide +kernel
theorem d_Snk_putBlock_4 : decode b_Snk_putBlock 4 = .ok (.iload_n 2, 1) := by decide +kernel
theorem d_Snk_putBlock_5 : decode b_Snk_putBlock 5 = .ok (.iconst 1, 1) := by decide +kernel
theorem d_Snk_putBlock_6 : decode b_Snk_putBlock 6 = .ok (.isub, 1) := by decide +kernel
theorem d_Snk_putBlock_7 : decode b_Snk_putBlock 7 = .ok (.laload, 1) := by decide +kernel
theorem d_Snk_putBlock_8 : decode b_Snk_putBlock 8 = .ok (.lsub, 1) := by decide +kernel
theorem d_Snk_putBlock_9 : decode b_Snk_putBlock 9 = .ok (.lstore 4, 2) := by decide +kernel
theorem d_Snk_putBlock_11 : decode b_Snk_putBlock 11 = .ok (.iload_n 2, 1) := by decide +kernel
theorem d_Snk_putBlock_12 : decode b_Snk_putBlock 12 = .ok (.istore 6, 2) := by decide +kernel
section
variable (l : Launch) (dC : Nat → ClassId) (dI : Nat → Nat → Nat) (cI cB cJ cZ : ClassId)
set_option maxRecDepth 100000 in
set_option maxHeartbeats 4000000 in
set_option maxRecDepth 100000 in
theorem t_Wrt_putDictionary_127 {p : Program} {l : Launch} {e : Env} {R : Room} {s : State} {m : MethodId} {args : Array Value} {below : List Frame} {meth : Method} {c : Code} {Q : State → Prop} {dC : Nat → ClassId} {dI : Nat → Nat → Nat} {cI cB cJ cZ : ClassId} {A : Nat → Prop} {E : Heap} {tM tC : Nat} {kK kV : Nat → Nat} {ad0 : Nat → Nat} {NN0 : Nat} {post : St → Prop} (hx : p.tables.exec = Jvm.exec) (hb : c.code = b_Wrt_putDictionary) (hml : c.maxLocals = 5) (hown : s.vm.findClass R_Wrt = some m.cls) (hT : ∀ w ∈ TG, w.before args s = true) (hK : va_K (dC, dI) CL (TY cI cB cJ cZ) s) (hN : NW s) (hA : ∀ q : Nat, s.heap.size ≤ q → A q) (hRf : 6 ≤ R.frames) (hRl : 299 ≤ R.locals) (hE : CE E tM tC kK kV A s) (hret : ∀ (ad : Nat → Nat) (NN cells slots : Nat) (x : St) (H : Heap) (locs : List Loc) (pc : Nat) (ls : Array Slot), decode b_Wrt_putDictionary pc = .ok (.return_, 1) → (NN0 ≤ NN ∧ ∀ o : Nat, o < NN0 → ad o = ad0 o) → cells ≤ R.cells → slots ≤ R.slots → post x → Wd dC dI cI cB cJ cZ ad stC kcC NN A x H → va_S A s.heap H locs → W p l e R s m args below meth c H locs cells slots Q (F0 m pc ls []))  : ∀ (ad : Nat → Nat) (NN cells slots : Nat) (o : Nat) (l1 : Int32) (l2 : Int32) (l3 : Int32) (s0 : Int32) (kb : Nat) (nb : Nat) (x : St) (H : Heap) (locs : List Loc) (ls : Array Slot), (152 ≤ NN) → (NN0 ≤ NN ∧ ∀ o : Nat, o < NN0 → ad o = ad0 o) → (cells + kb ≤ R.cells) → (slots + nb ≤ R.slots) → (o < NN ∧ kcC o = 5) → j_Wrt_putDictionary_127 post o l1 l2 l3 s0 kb nb x → Wd dC dI cI cB cJ cZ ad stC kcC NN A x H → va_S A s.heap H locs → lv_has ls 5 [(0, .ref (ad o)), (1, .int l1), (2, .int l2), (3, .int l3)] → W p l e R s m args below meth c H locs cells slots Q (F0 m 127 ls [.int s0]) := by
  intro ad NN cells slots o l1 l2 l3 s0 kb nb x H locs ls hNN hag hRc hRs fo hw hW hS hl
  unfold j_Wrt_putDictionary_127 at hw
  refine lv_istore_n (lv' := [(3, .int s0), (0, .ref (ad o)), (1, .int l1), (2, .int l2)]) hx hb d_Wrt_putDictionary_127 rfl hl (by decide) rfl (fun ls hl => ?_)
  refine lv_aload_n hx hb d_Wrt_putDictionary_128 rfl (lv_at hl 1 rfl) ?_
  obtain ⟨q1, hq1, hw⟩ := hw
  refine w_getr (q := q1) (k := 4) (t := 5) (C := R_Wrt) (T := F_Wrt) (N := 20) hx hb hT hown hK hW fo.1 fo.2 (by decide) in_Wrt rfl rfl (by decide) rfl fr_Wrt_4 w_2_55 d_Wrt_putDictionary_129 hq1 (fun aq1 bq1 => ?_)
  have fq1 : q1 < NN ∧ kcC q1 = 1 := ⟨aq1, bq1⟩
  refine lv_iload_n hx hb d_Wrt_putDictionary_132 rfl (lv_at hl 3 rfl) ?_
  refine lv_i2l hx hb d_Wrt_putDictionary_133 rfl ?_
  obtain ⟨k2, n3, k4, n5, ek2, en3, hw⟩ := hw
  have hF := hW.free hS hA
  refine va_callv (va_runV (C := R_Snk) (As := [.long (l2 : Int32).toInt64]) (rest := []) ⟨hx, hb, hml, hown, hT⟩ (k_Snk_putVarint l dC dI cI cB cJ cZ ad NN E tM tC kK kV hNN H.size q1 (l2 : Int32).toInt64 k2 n3 x fq1 hw) ⟨callB_of 1 hT (gwt_in w_5_143) rfl rfl rfl (hT _ w_1_2) (hT _ w_5_140) (by decide +kernel) ⟨Nat.le_trans (Nat.le_of_ble_eq_true rfl) hRf, Nat.le_trans (Nat.le_of_ble_eq_true rfl) hRl⟩, hT _ w_5_141, hT _ w_5_142⟩ ⟨PVc.blind, va_recv hK hW.1 (ci := 1) (q0 := q1) rfl (pic_obj fq1.1 fq1.2 (by decide)), PVc.at _ hW hK hN hE hS hF⟩ rfl rfl hl.1 rfl (lv_room (Nat.le_of_ble_eq_true rfl)) d_Wrt_putDictionary_134 ⟨show cells + k2 ≤ R.cells by omega, show slots + n3 ≤ R.slots by omega⟩) hS (fun q _ h => hF q h) hF (fun  x6 t H locs ht hvm hw hB hz1 hk1 hS => ?_)
  obtain ⟨x6, ad, NN⟩ := x6
  obtain ⟨hB, hle, hg⟩ := hB
  try dsimp only at hw hB hle hg
  have hW := Wd.back hB ht hF
  rw [← hg o fo.1] at hl
  have fo : o < NN ∧ kcC o = 5 := ⟨Nat.lt_of_lt_of_le fo.1 hle, fo.2⟩
  have fq1 : q1 < NN ∧ kcC q1 = 1 := ⟨Nat.lt_of_lt_of_le fq1.1 hle, fq1.2⟩
  have hag : NN0 ≤ NN ∧ ∀ o : Nat, o < NN0 → ad o = ad0 o := ⟨Nat.le_trans hag.1 hle, fun o h => (hg o (Nat.lt_of_lt_of_le h hag.1)).trans (hag.2 o h)⟩
  have hNN : 152 ≤ NN := Nat.le_trans hNN hle
  clear hg hle
  obtain ⟨cells, ec⟩ : ∃ z, z = cells + k2 := ⟨_, rfl⟩
  obtain ⟨slots, es⟩ : ∃ z, z = slots + n3 := ⟨_, rfl⟩
  first | rw [← ec, ← es] | rw [Nat.add_zero, Nat.add_zero, ← ec, ← es]
  have hRc : cells + k4 ≤ R.cells := by omega
  have hRs : slots + n5 ≤ R.slots := by omega
  clear ec es hB ht hF hz1 hk1 hvm ek2 en3
  refine lv_aload_n hx hb d_Wrt_putDictionary_137 rfl (lv_at hl 1 rfl) ?_
  refine lv_iload_n hx hb d_Wrt_putDictionary_138 rfl (lv_at hl 2 rfl) ?_
  refine lv_aload_n hx hb d_Wrt_putDictionary_139 rfl (lv_at hl 1 rfl) ?_
  refine w_getf (q := (stC o 17)) (k := 17) (t := 5) (C := R_Wrt) (T := F_Wrt) (N := 20) hx hb hT hown hK hW fo.1 fo.2 (by decide) in_Wrt rfl rfl (by decide) rfl fr_Wrt_17 w_2_68 d_Wrt_putDictionary_140 rfl ?_
  refine lv_iload_n hx hb d_Wrt_putDictionary_143 rfl (lv_at hl 3 rfl) ?_
  obtain ⟨k7, n8, k9, n10, ek7, en8, hw⟩ := hw
  have hF := hW.free hS hA
  refine va_callv (va_runV (C := R_Wrt) (As := [.int l1, .ref (ad (stC o 17)), .int l2]) (rest := []) ⟨hx, hb, hml, hown, hT⟩ (k_Wrt_putPlain l dC dI cI cB cJ cZ ad NN E tM tC kK kV hNN H.size o l1 (stC o 17) l2 k7 n8 x6 fo (st_ty hNN fo.1 fo.2 rfl) hw) ⟨callB_of 3 hT (gwt_in w_5_174) rfl rfl rfl (hT _ w_1_8) (hT _ w_5_171) (by decide +kernel) ⟨Nat.le_trans (Nat.le_of_ble_eq_true rfl) hRf, Nat.le_trans (Nat.le_of_ble_eq_true rfl) hRl⟩, hT _ w_5_173, hT _ ws_21⟩ ⟨PVc.blind, va_recv hK hW.1 (ci := 5) (q0 := o) rfl (pic_obj fo.1 fo.2 (by decide)), PVc.at _ hW hK hN hE hS hF⟩ rfl rfl hl.1 rfl (lv_room (Nat.le_of_ble_eq_true rfl)) d_Wrt_putDictionary_144 ⟨show cells + k7 ≤ R.cells by omega, show slots + n8 ≤ R.slots by omega⟩) hS (fun q _ h => hF q h) hF (fun  x11 t H locs ht hvm hw hB hz1 hk1 hS => ?_)
  obtain ⟨x11, ad, NN⟩ := x11
  obtain ⟨hB, hle, hg⟩ := hB
  try dsimp only at hw hB hle hg
  have hW := Wd.back hB ht hF
  rw [← hg o fo.1] at hl
  have fo : o < NN ∧ kcC o = 5 := ⟨Nat.lt_of_lt_of_le fo.1 hle, fo.2⟩
  have fq1 : q1 < NN ∧ kcC q1 = 1 := ⟨Nat.lt_of_lt_of_le fq1.1 hle, fq1.2⟩
  have hag : NN0 ≤ NN ∧ ∀ o : Nat, o < NN0 → ad o = ad0 o := ⟨Nat.le_trans hag.1 hle, fun o h => (hg o (Nat.lt_of_lt_of_le h hag.1)).trans (hag.2 o h)⟩
  have hNN : 152 ≤ NN := Nat.le_trans hNN hle
  clear hg hle
  obtain ⟨cells, ec⟩ : ∃ z, z = cells + k7 := ⟨_, rfl⟩
  obtain ⟨slots, es⟩ : ∃ z, z = slots + n8 := ⟨_, rfl⟩
  first | rw [← ec, ← es] | rw [Nat.add_zero, Nat.add_zero, ← ec, ← es]
  have hRc : cells + k9 ≤ R.cells := by omega
  have hRs : slots + n10 ≤ R.slots := by omega
  clear ec es hB ht hF hz1 hk1 hvm ek7 en8
  refine lv_aload_n hx hb d_Wrt_putDictionary_147 rfl (lv_at hl 1 rfl) ?_
  obtain ⟨q12, hq12, hw⟩ := hw
  refine w_getr (q := q12) (k := 4) (t := 5) (C := R_Wrt) (T := F_Wrt) (N := 20) hx hb hT hown hK hW fo.1 fo.2 (by decide) in_Wrt rfl rfl (by decide) rfl fr_Wrt_4 w_2_55 d_Wrt_putDictionary_148 hq12 (fun aq12 bq12 => ?_)
  have fq12 : q12 < NN ∧ kcC q12 = 1 := ⟨aq12, bq12⟩
  refine lv_iload_n hx hb d_Wrt_putDictionary_151 rfl (lv_at hl 0 rfl) ?_
  obtain ⟨k13, n14, k15, n16, ek13, en14, hw⟩ := hw
  have hF := hW.free hS hA
  refine va_callv (va_runV (C := R_Snk) (As := [.int s0]) (rest := []) ⟨hx, hb, hml, hown, hT⟩ (k_Snk_put l dC dI cI cB cJ cZ ad NN E tM tC kK kV hNN H.size q12 s0 k13 n14 x11 fq12 hw) ⟨callB_of 1 hT (gwt_in w_4_52) rfl rfl rfl (hT _ w_1_2) (hT _ w_5_145) (by decide +kernel) ⟨Nat.le_trans (Nat.le_of_ble_eq_true rfl) hRf, Nat.le_trans (Nat.le_of_ble_eq_true rfl) hRl⟩, hT _ w_4_50, hT _ w_4_51⟩ ⟨PVc.blind, va_recv hK hW.1 (ci := 1) (q0 := q12) rfl (pic_obj fq12.1 fq12.2 (by decide)), PVc.at _ hW hK hN hE hS hF⟩ rfl rfl hl.1 rfl (lv_room (Nat.le_of_ble_eq_true rfl)) d_Wrt_putDictionary_152 ⟨show cells + k13 ≤ R.cells by omega, show slots + n14 ≤ R.slots by omega⟩) hS (fun q _ h => hF q h) hF (fun  x17 t H locs ht hvm hw hB hz1 hk1 hS => ?_)
  obtain ⟨x17, ad, NN⟩ := x17
  obtain ⟨hB, hle, hg⟩ := hB
  try dsimp only at hw hB hle hg
  have hW := Wd.back hB ht hF
  rw [← hg o fo.1] at hl
  have fo : o < NN ∧ kcC o = 5 := ⟨Nat.lt_of_lt_of_le fo.1 hle, fo.2⟩
  have fq1 : q1 < NN ∧ kcC q1 = 1 := ⟨Nat.lt_of_lt_of_le fq1.1 hle, fq1.2⟩
  have fq12 : q12 < NN ∧ kcC q12 = 1 := ⟨Nat.lt_of_lt_of_le fq12.1 hle, fq12.2⟩
  have hag : NN0 ≤ NN ∧ ∀ o : Nat, o < NN0 → ad o = ad0 o := ⟨Nat.le_trans hag.1 hle, fun o h => (hg o (Nat.lt_of_lt_of_le h hag.1)).trans (hag.2 o h)⟩
  have hNN : 152 ≤ NN := Nat.le_trans hNN hle
  clear hg hle
  obtain ⟨cells, ec⟩ : ∃ z, z = cells + k13 := ⟨_, rfl⟩
  obtain ⟨slots, es⟩ : ∃ z, z = slots + n14 := ⟨_, rfl⟩
  first | rw [← ec, ← es] | rw [Nat.add_zero, Nat.add_zero, ← ec, ← es]
  have hRc : cells + k15 ≤ R.cells := by omega
  have hRs : slots + n16 ≤ R.slots := by omega
  clear ec es hB ht hF hz1 hk1 hvm ek13 en14
  refine lv_aload_n hx hb d_Wrt_putDictionary_155 rfl (lv_at hl 1 rfl) ?_
  obtain ⟨q18, hq18, hw⟩ := hw
  refine w_getr (q := q18) (k := 4) (t := 5) (C := R_Wrt) (T := F_Wrt) (N := 20) hx hb hT hown hK hW fo.1 fo.2 (by decide) in_Wrt rfl rfl (by decide) rfl fr_Wrt_4 w_2_55 d_Wrt_putDictionary_156 hq18 (fun aq18 bq18 => ?_)
  have fq18 : q18 < NN ∧ kcC q18 = 1 := ⟨aq18, bq18⟩
  refine lv_aload_n hx hb d_Wrt_putDictionary_159 rfl (lv_at hl 1 rfl) ?_
  refine w_getf (q := (stC o 15)) (k := 15) (t := 5) (C := R_Wrt) (T := F_Wrt) (N := 20) hx hb hT hown hK hW fo.1 fo.2 (by decide) in_Wrt rfl rfl (by decide) rfl fr_Wrt_15 w_2_66 d_Wrt_putDictionary_160 rfl ?_
  refine lv_aload_n hx hb d_Wrt_putDictionary_163 rfl (lv_at hl 1 rfl) ?_
  refine w_geti (k := 12) (t := 5) (C := R_Wrt) (T := F_Wrt) (N := 20) hx hb hT hown hK hW fo.1 fo.2 (by decide) in_Wrt rfl rfl (by decide) rfl fr_Wrt_12 w_2_63 d_Wrt_putDictionary_164 ?_
  refine lv_iload_n hx hb d_Wrt_putDictionary_167 rfl (lv_at hl 0 rfl) ?_
  obtain ⟨k19, n20, k21, n22, ek19, en20, hw⟩ := hw
  have hF := hW.free hS hA
  refine va_callv (va_runV (C := R_Snk) (As := [.ref (ad (stC o 15)), .int (fI x17 o 12), .int s0]) (rest := []) ⟨hx, hb, hml, hown, hT⟩ (k_Snk_putRuns l dC dI cI cB cJ cZ ad NN E tM tC kK kV hNN H.size q18 (stC o 15) (fI x17 o 12) s0 k19 n20 x17 fq18 (st_ty hNN fo.1 fo.2 rfl) hw) ⟨callB_of 3 hT (gwt_in w_5_197) rfl rfl rfl (hT _ w_1_2) (hT _ w_5_194) (by decide +kernel) ⟨Nat.le_trans (Nat.le_of_ble_eq_true rfl) hRf, Nat.le_trans (Nat.le_of_ble_eq_true rfl) hRl⟩, hT _ w_5_195, hT _ w_5_196⟩ ⟨PVc.blind, va_recv hK hW.1 (ci := 1) (q0 := q18) rfl (pic_obj fq18.1 fq18.2 (by decide)), PVc.at _ hW hK hN hE hS hF⟩ rfl rfl hl.1 rfl (lv_room (Nat.le_of_ble_eq_true rfl)) d_Wrt_putDictionary_168 ⟨show cells + k19 ≤ R.cells by omega, show slots + n20 ≤ R.slots by omega⟩) hS (fun q _ h => hF q h) hF (fun  x23 t H locs ht hvm hw hB hz1 hk1 hS => ?_)
  obtain ⟨x23, ad, NN⟩ := x23
  obtain ⟨hB, hle, hg⟩ := hB
  try dsimp only at hw hB hle hg
  have hW := Wd.back hB ht hF
  rw [← hg o fo.1] at hl
  have fo : o < NN ∧ kcC o = 5 := ⟨Nat.lt_of_lt_of_le fo.1 hle, fo.2⟩
  have fq1 : q1 < NN ∧ kcC q1 = 1 := ⟨Nat.lt_of_lt_of_le fq1.1 hle, fq1.2⟩
  have fq12 : q12 < NN ∧ kcC q12 = 1 := ⟨Nat.lt_of_lt_of_le fq12.1 hle, fq12.2⟩
  have fq18 : q18 < NN ∧ kcC q18 = 1 := ⟨Nat.lt_of_lt_of_le fq18.1 hle, fq18.2⟩
  have hag : NN0 ≤ NN ∧ ∀ o : Nat, o < NN0 → ad o = ad0 o := ⟨Nat.le_trans hag.1 hle, fun o h => (hg o (Nat.lt_of_lt_of_le h hag.1)).trans (hag.2 o h)⟩
  have hNN : 152 ≤ NN := Nat.le_trans hNN hle
  clear hg hle
  obtain ⟨cells, ec⟩ : ∃ z, z = cells + k19 := ⟨_, rfl⟩
  obtain ⟨slots, es⟩ : ∃ z, z = slots + n20 := ⟨_, rfl⟩
  first | rw [← ec, ← es] | rw [Nat.add_zero, Nat.add_zero, ← ec, ← es]
  have hRc : cells + k21 ≤ R.cells := by omega
  have hRs : slots + n22 ≤ R.slots := by omega
  clear ec es hB ht hF hz1 hk1 hvm ek19 en20
  exact hret ad NN cells slots x23 H locs 171 ls d_Wrt_putDictionary_171 hag (Nat.le_trans (Nat.le_add_right _ _) hRc) (Nat.le_trans (Nat.le_add_right _ _) hRs) hw hW hS
set_option maxRecDepth 100000 in
set_option maxHeartbeats 4000000 in
set_option maxRecDepth 100000 in
theorem t_Wrt_putDictionary_89 {p : Program} {l : Launch} {e : Env} {R : Room} {s : State} {m : MethodId} {args : Array Value} {below : List Frame} {meth : Method} {c : Code} {Q : State → Prop} {dC : Nat → ClassId} {dI : Nat → Nat → Nat} {cI cB cJ cZ : ClassId} {A : Nat → Prop} {E : Heap} {tM tC : Nat} {kK kV : Nat → Nat} {ad0 : Nat → Nat} {NN0 : Nat} {post : St → Prop} {rec89 : Nat → Int32 → Int32 → Int32 → Nat → Nat → St → Prop} (hx : p.tables.exec = Jvm.exec) (hb : c.code = b_Wrt_putDictionary) (hml : c.maxLocals = 5) (hown : s.vm.findClass R_Wrt = some m.cls) (hT : ∀ w ∈ TG, w.before args s = true) (hK : va_K (dC, dI) CL (TY cI cB cJ cZ) s) (hN : NW s) (hA : ∀ q : Nat, s.heap.size ≤ q → A q) (hRf : 6 ≤ R.frames) (hRl : 299 ≤ R.locals) (hE : CE E tM tC kK kV A s) (hret : ∀ (ad : Nat → Nat) (NN cells slots : Nat) (x : St) (H : Heap) (locs : List Loc) (pc : Nat) (ls : Array Slot), decode b_Wrt_putDictionary pc = .ok (.return_, 1) → (NN0 ≤ NN ∧ ∀ o : Nat, o < NN0 → ad o = ad0 o) → cells ≤ R.cells → slots ≤ R.slots → post x → Wd dC dI cI cB cJ cZ ad stC kcC NN A x H → va_S A s.heap H locs → W p l e R s m args below meth c H locs cells slots Q (F0 m pc ls [])) (hrec89 : ∀ (ad : Nat → Nat) (NN cells slots : Nat) (o : Nat) (l1 : Int32) (l2 : Int32) (l3 : Int32) (kb : Nat) (nb : Nat) (x : St) (H : Heap) (locs : List Loc) (ls : Array Slot), (152 ≤ NN) → (NN0 ≤ NN ∧ ∀ o : Nat, o < NN0 → ad o = ad0 o) → (cells + kb ≤ R.cells) → (slots + nb ≤ R.slots) → (o < NN ∧ kcC o = 5) → rec89 o l1 l2 l3 kb nb x → Wd dC dI cI cB cJ cZ ad stC kcC NN A x H → va_S A s.heap H locs → lv_has ls 5 [(0, .ref (ad o)), (1, .int l1), (2, .int l2), (3, .int l3)] → W p l e R s m args below meth c H locs cells slots Q (F0 m 89 ls [])) : ∀ (ad : Nat → Nat) (NN cells slots : Nat) (o : Nat) (l1 : Int32) (l2 : Int32) (l3 : Int32) (kb : Nat) (nb : Nat) (x : St) (H : Heap) (locs : List Loc) (ls : Array Slot), (152 ≤ NN) → (NN0 ≤ NN ∧ ∀ o : Nat, o < NN0 → ad o = ad0 o) → (cells + kb ≤ R.cells) → (slots + nb ≤ R.slots) → (o < NN ∧ kcC o = 5) → j_Wrt_putDictionary_89 post rec89 o l1 l2 l3 kb nb x → Wd dC dI cI cB cJ cZ ad stC kcC NN A x H → va_S A s.heap H locs → lv_has ls 5 [(0, .ref (ad o)), (1, .int l1), (2, .int l2), (3, .int l3)] → W p l e R s m args below meth c H locs cells slots Q (F0 m 89 ls []) := by
  intro ad NN cells slots o l1 l2 l3 kb nb x H locs ls hNN hag hRc hRs fo hw hW hS hl
  unfold j_Wrt_putDictionary_89 at hw
  refine lv_iload_n hx hb d_Wrt_putDictionary_89 rfl (lv_at hl 3 rfl) ?_
  refine lv_iload_n hx hb d_Wrt_putDictionary_90 rfl (lv_at hl 2 rfl) ?_
  refine lv_icmp_ge (tgt := 112) hx hb d_Wrt_putDictionary_91 (by decide) (fun c24 => ?_) (fun c24 => ?_)
  · have hw := hw.1 c24
    refine lv_iload_n hx hb d_Wrt_putDictionary_112 rfl (lv_at hl 2 rfl) ?_
    refine lv_if_ne (tgt := 120) hx hb d_Wrt_putDictionary_113 (by decide) (fun c25 => ?_) (fun c25 => ?_)
    · have hw := hw.1 c25
      refine lv_iload_n hx hb d_Wrt_putDictionary_120 rfl (lv_at hl 2 rfl) ?_
      refine lv_iconst (v := 1) hx hb d_Wrt_putDictionary_121 (by decide) ?_
      refine lv_isub hx hb d_Wrt_putDictionary_122 ?_
      refine lv_i2l hx hb d_Wrt_putDictionary_123 rfl ?_
      have hF := hW.free hS hA
      refine va_calli (va_runSN (As := [.long ((l2 - 1) : Int32).toInt64]) (rest := []) ⟨hx, hb, hml, hown, hT⟩ (k_V_widthOf l dC dI cI cB cJ cZ ad NN E tM tC kK kV hNN H.size ((l2 - 1) : Int32).toInt64 x  hw) ⟨va_cnB 1 hT (gwt_in w_5_231) rfl rfl rfl (hN _ wn_5_229 rfl) (hT _ w_1_1) (by decide +kernel) ⟨Nat.le_trans (Nat.le_of_ble_eq_true rfl) hRf, Nat.le_trans (Nat.le_of_ble_eq_true rfl) hRl⟩, hT _ w_5_230, trivial⟩ ⟨PVc.blind, PVc.at _ hW hK hN hE hS hF⟩ rfl rfl hl.1 rfl (lv_room (Nat.le_of_ble_eq_true rfl)) d_Wrt_putDictionary_124 ⟨(Nat.le_trans (Nat.le_add_right _ _) hRc), (Nat.le_trans (Nat.le_add_right _ _) hRs)⟩) hS (fun q _ h => hF q h) hF (fun r27 x26 t H locs ht hvm hw hB hz1 hk1 hS => ?_)
      have hW := Wd.back hB ht hF
      clear hB ht hF hz1 hk1 hvm
      exact t_Wrt_putDictionary_127 hx hb hml hown hT hK hN hA hRf hRl hE hret  ad NN cells slots o l1 l2 l3 r27 kb nb x26 H locs ls hNN hag hRc hRs fo hw hW hS (lv_sub hl [0, 1, 2, 3] rfl)
    · have hw := hw.2 c25
      refine lv_iconst (v := 0) hx hb d_Wrt_putDictionary_116 (by decide) ?_
      refine lv_goto (tgt := 127) hx hb d_Wrt_putDictionary_117 (by decide) ?_
      exact t_Wrt_putDictionary_127 hx hb hml hown hT hK hN hA hRf hRl hE hret  ad NN cells slots o l1 l2 l3 0 kb nb x H locs ls hNN hag hRc hRs fo hw hW hS (lv_sub hl [0, 1, 2, 3] rfl)
  · have hw := hw.2 c24
    refine lv_aload_n hx hb d_Wrt_putDictionary_94 rfl (lv_at hl 0 rfl) ?_
    refine w_getf (q := (stC o 18)) (k := 18) (t := 5) (C := R_Wrt) (T := F_Wrt) (N := 20) hx hb hT hown hK hW fo.1 fo.2 (by decide) in_Wrt rfl rfl (by decide) rfl fr_Wrt_18 w_2_69 d_Wrt_putDictionary_95 rfl ?_
    refine lv_aload_n hx hb d_Wrt_putDictionary_98 rfl (lv_at hl 0 rfl) ?_
    refine w_getf (q := (stC o 19)) (k := 19) (t := 5) (C := R_Wrt) (T := F_Wrt) (N := 20) hx hb hT hown hK hW fo.1 fo.2 (by decide) in_Wrt rfl rfl (by decide) rfl fr_Wrt_19 w_2_70 d_Wrt_putDictionary_99 rfl ?_
    refine lv_iload_n hx hb d_Wrt_putDictionary_102 rfl (lv_at hl 3 rfl) ?_
    obtain ⟨hi, hw⟩ := hw
    refine w_iald (o := (stC o 19)) hx hb hK hW (st_ty hNN fo.1 fo.2 rfl).1 (st_ty hNN fo.1 fo.2 rfl).2 hi d_Wrt_putDictionary_103 ?_
    refine lv_iconst (v := 0) hx hb d_Wrt_putDictionary_104 (by decide) ?_
    obtain ⟨hi, hw⟩ := hw
    refine w_iast (o := (stC o 18)) hx hb hK hW hS (st_ty hNN fo.1 fo.2 rfl).1 (st_ty hNN fo.1 fo.2 rfl).2 hi d_Wrt_putDictionary_105 (fun H locs hW hS => ?_)
    obtain ⟨x28, ex28⟩ : ∃ y : St, y = setA x (stC o 18) (rA x (stC o 19) l3) 0 := ⟨_, rfl⟩
    rw [← ex28] at hW
    have hw := hw x28 ex28
    refine lv_iinc (v := (l3 + 1)) (lv' := [(3, .int (l3 + 1)), (0, .ref (ad o)), (1, .int l1), (2, .int l2)]) hx hb d_Wrt_putDictionary_106 hl (k := 3) rfl rfl (by decide) rfl (fun ls hl => ?_)
    refine lv_goto (tgt := 89) hx hb d_Wrt_putDictionary_109 (by decide) ?_
    exact hrec89 ad NN cells slots o l1 l2 (l3 + 1) kb nb x28 H locs ls hNN hag hRc hRs fo hw hW hS (lv_sub hl [1, 2, 3, 0] rfl)
set_option maxHeartbeats 4000000 in
set_option maxRecDepth 100000 in
theorem tl_Wrt_putDictionary_89 {p : Program} {l : Launch} {e : Env} {R : Room} {s : State} {m : MethodId} {args : Array Value} {below : List Frame} {meth : Method} {c : Code} {Q : State → Prop} {dC : Nat → ClassId} {dI : Nat → Nat → Nat} {cI cB cJ cZ : ClassId} {A : Nat → Prop} {E : Heap} {tM tC : Nat} {kK kV : Nat → Nat} {ad0 : Nat → Nat} {NN0 : Nat} {post : St → Prop} (hx : p.tables.exec = Jvm.exec) (hb : c.code = b_Wrt_putDictionary) (hml : c.maxLocals = 5) (hown : s.vm.findClass R_Wrt = some m.cls) (hT : ∀ w ∈ TG, w.before args s = true) (hK : va_K (dC, dI) CL (TY cI cB cJ cZ) s) (hN : NW s) (hA : ∀ q : Nat, s.heap.size ≤ q → A q) (hRf : 6 ≤ R.frames) (hRl : 299 ≤ R.locals) (hE : CE E tM tC kK kV A s) (hret : ∀ (ad : Nat → Nat) (NN cells slots : Nat) (x : St) (H : Heap) (locs : List Loc) (pc : Nat) (ls : Array Slot), decode b_Wrt_putDictionary pc = .ok (.return_, 1) → (NN0 ≤ NN ∧ ∀ o : Nat, o < NN0 → ad o = ad0 o) → cells ≤ R.cells → slots ≤ R.slots → post x → Wd dC dI cI cB cJ cZ ad stC kcC NN A x H → va_S A s.heap H locs → W p l e R s m args below meth c H locs cells slots Q (F0 m pc ls []))  : ∀ n : Nat, ∀ (ad : Nat → Nat) (NN cells slots : Nat) (o : Nat) (l1 : Int32) (l2 : Int32) (l3 : Int32) (kb : Nat) (nb : Nat) (x : St) (H : Heap) (locs : List Loc) (ls : Array Slot), (152 ≤ NN) → (NN0 ≤ NN ∧ ∀ o : Nat, o < NN0 → ad o = ad0 o) → (cells + kb ≤ R.cells) → (slots + nb ≤ R.slots) → (o < NN ∧ kcC o = 5) → wl_Wrt_putDictionary_89 post n o l1 l2 l3 kb nb x → Wd dC dI cI cB cJ cZ ad stC kcC NN A x H → va_S A s.heap H locs → lv_has ls 5 [(0, .ref (ad o)), (1, .int l1), (2, .int l2), (3, .int l3)] → W p l e R s m args below meth c H locs cells slots Q (F0 m 89 ls []) := by
  intro n
  induction n with
  | zero => intro ad NN cells slots o l1 l2 l3 kb nb x H locs ls hNN hag hRc hRs fo hw; exact hw.elim
  | succ n ih => intro ad NN cells slots o l1 l2 l3 kb nb x H locs ls hNN hag hRc hRs fo hw hW hS hl; exact t_Wrt_putDictionary_89 hx hb hml hown hT hK hN hA hRf hRl hE hret  ih ad NN cells slots o l1 l2 l3 kb nb x H locs ls hNN hag hRc hRs fo hw hW hS hl
set_option maxRecDepth 100000 in
set_option maxHeartbeats 4000000 in
set_option maxRecDepth 100000 in
theorem t_Wrt_putDictionary_66 {p : Program} {l : Launch} {e : Env} {R : Room} {s : State} {m : MethodId} {args : Array Value} {below : List Frame} {meth : Method} {c : Code} {Q : State → Prop} {dC : Nat → ClassId} {dI : Nat → Nat → Nat} {cI cB cJ cZ : ClassId} {A : Nat → Prop} {E : Heap} {tM tC : Nat} {kK kV : Nat → Nat} {ad0 : Nat → Nat} {NN0 : Nat} {post : St → Prop} {rec4 : Nat → Int32 → Int32 → Int32 → Nat → Nat → St → Prop} (hx : p.tables.exec = Jvm.exec) (hb : c.code = b_Wrt_putDictionary) (hml : c.maxLocals = 5) (hown : s.vm.findClass R_Wrt = some m.cls) (hT : ∀ w ∈ TG, w.before args s = true) (hK : va_K (dC, dI) CL (TY cI cB cJ cZ) s) (hN : NW s) (hA : ∀ q : Nat, s.heap.size ≤ q → A q) (hRf : 6 ≤ R.frames) (hRl : 299 ≤ R.locals) (hE : CE E tM tC kK kV A s) (hret : ∀ (ad : Nat → Nat) (NN cells slots : Nat) (x : St) (H : Heap) (locs : List Loc) (pc : Nat) (ls : Array Slot), decode b_Wrt_putDictionary pc = .ok (.return_, 1) → (NN0 ≤ NN ∧ ∀ o : Nat, o < NN0 → ad o = ad0 o) → cells ≤ R.cells → slots ≤ R.slots → post x → Wd dC dI cI cB cJ cZ ad stC kcC NN A x H → va_S A s.heap H locs → W p l e R s m args below meth c H locs cells slots Q (F0 m pc ls [])) (hrec4 : ∀ (ad : Nat → Nat) (NN cells slots : Nat) (o : Nat) (l1 : Int32) (l2 : Int32) (l3 : Int32) (kb : Nat) (nb : Nat) (x : St) (H : Heap) (locs : List Loc) (ls : Array Slot), (152 ≤ NN) → (NN0 ≤ NN ∧ ∀ o : Nat, o < NN0 → ad o = ad0 o) → (cells + kb ≤ R.cells) → (slots + nb ≤ R.slots) → (o < NN ∧ kcC o = 5) → rec4 o l1 l2 l3 kb nb x → Wd dC dI cI cB cJ cZ ad stC kcC NN A x H → va_S A s.heap H locs → lv_has ls 5 [(0, .ref (ad o)), (1, .int l1), (2, .int l2), (3, .int l3)] → W p l e R s m args below meth c H locs cells slots Q (F0 m 4 ls [])) : ∀ (ad : Nat → Nat) (NN cells slots : Nat) (o : Nat) (l1 : Int32) (l2 : Int32) (l3 : Int32) (l4 : Int32) (kb : Nat) (nb : Nat) (x : St) (H : Heap) (locs : List Loc) (ls : Array Slot), (152 ≤ NN) → (NN0 ≤ NN ∧ ∀ o : Nat, o < NN0 → ad o = ad0 o) → (cells + kb ≤ R.cells) → (slots + nb ≤ R.slots) → (o < NN ∧ kcC o = 5) → j_Wrt_putDictionary_66 post rec4 o l1 l2 l3 l4 kb nb x → Wd dC dI cI cB cJ cZ ad stC kcC NN A x H → va_S A s.heap H locs → lv_has ls 5 [(0, .ref (ad o)), (1, .int l1), (2, .int l2), (3, .int l3), (4, .int l4)] → W p l e R s m args below meth c H locs cells slots Q (F0 m 66 ls []) := by
  intro ad NN cells slots o l1 l2 l3 l4 kb nb x H locs ls hNN hag hRc hRs fo hw hW hS hl
  unfold j_Wrt_putDictionary_66 at hw
  refine lv_aload_n hx hb d_Wrt_putDictionary_66 rfl (lv_at hl 0 rfl) ?_
  refine w_getf (q := (stC o 15)) (k := 15) (t := 5) (C := R_Wrt) (T := F_Wrt) (N := 20) hx hb hT hown hK hW fo.1 fo.2 (by decide) in_Wrt rfl rfl (by decide) rfl fr_Wrt_15 w_2_66 d_Wrt_putDictionary_67 rfl ?_
  refine lv_iload_n hx hb d_Wrt_putDictionary_70 rfl (lv_at hl 3 rfl) ?_
  refine lv_aload_n hx hb d_Wrt_putDictionary_71 rfl (lv_at hl 0 rfl) ?_
  refine w_getf (q := (stC o 18)) (k := 18) (t := 5) (C := R_Wrt) (T := F_Wrt) (N := 20) hx hb hT hown hK hW fo.1 fo.2 (by decide) in_Wrt rfl rfl (by decide) rfl fr_Wrt_18 w_2_69 d_Wrt_putDictionary_72 rfl ?_
  refine lv_iload hx hb d_Wrt_putDictionary_75 (lv_at hl 4 rfl) ?_
  obtain ⟨hi, hw⟩ := hw
  refine w_iald (o := (stC o 18)) hx hb hK hW (st_ty hNN fo.1 fo.2 rfl).1 (st_ty hNN fo.1 fo.2 rfl).2 hi d_Wrt_putDictionary_77 ?_
  refine lv_iconst (v := 1) hx hb d_Wrt_putDictionary_78 (by decide) ?_
  refine lv_isub hx hb d_Wrt_putDictionary_79 ?_
  obtain ⟨hi, hw⟩ := hw
  refine w_iast (o := (stC o 15)) hx hb hK hW hS (st_ty hNN fo.1 fo.2 rfl).1 (st_ty hNN fo.1 fo.2 rfl).2 hi d_Wrt_putDictionary_80 (fun H locs hW hS => ?_)
  obtain ⟨x29, ex29⟩ : ∃ y : St, y = setA x (stC o 15) l3 ((rA x (stC o 18) l4) - 1) := ⟨_, rfl⟩
  rw [← ex29] at hW
  have hw := hw x29 ex29
  refine lv_iinc (v := (l3 + 1)) (lv' := [(3, .int (l3 + 1)), (0, .ref (ad o)), (1, .int l1), (2, .int l2), (4, .int l4)]) hx hb d_Wrt_putDictionary_81 hl (k := 3) rfl rfl (by decide) rfl (fun ls hl => ?_)
  refine lv_goto (tgt := 4) hx hb d_Wrt_putDictionary_84 (by decide) ?_
  exact hrec4 ad NN cells slots o l1 l2 (l3 + 1) kb nb x29 H locs ls hNN hag hRc hRs fo hw hW hS (lv_sub hl [1, 2, 3, 0] rfl)
set_option maxRecDepth 100000 in
set_option maxHeartbeats 4000000 in
set_option maxRecDepth 100000 in
theorem t_Wrt_putDictionary_4 {p : Program} {l : Launch} {e : Env} {R : Room} {s : State} {m : MethodId} {args : Array Value} {below : List Frame} {meth : Method} {c : Code} {Q : State → Prop} {dC : Nat → ClassId} {dI : Nat → Nat → Nat} {cI cB cJ cZ : ClassId} {A : Nat → Prop} {E : Heap} {tM tC : Nat} {kK kV : Nat → Nat} {ad0 : Nat → Nat} {NN0 : Nat} {post : St → Prop} {rec4 : Nat → Int32 → Int32 → Int32 → Nat → Nat → St → Prop} (hx : p.tables.exec = Jvm.exec) (hb : c.code = b_Wrt_putDictionary) (hml : c.maxLocals = 5) (hown : s.vm.findClass R_Wrt = some m.cls) (hT : ∀ w ∈ TG, w.before args s = true) (hK : va_K (dC, dI) CL (TY cI cB cJ cZ) s) (hN : NW s) (hA : ∀ q : Nat, s.heap.size ≤ q → A q) (hRf : 6 ≤ R.frames) (hRl : 299 ≤ R.locals) (hE : CE E tM tC kK kV A s) (hret : ∀ (ad : Nat → Nat) (NN cells slots : Nat) (x : St) (H : Heap) (locs : List Loc) (pc : Nat) (ls : Array Slot), decode b_Wrt_putDictionary pc = .ok (.return_, 1) → (NN0 ≤ NN ∧ ∀ o : Nat, o < NN0 → ad o = ad0 o) → cells ≤ R.cells → slots ≤ R.slots → post x → Wd dC dI cI cB cJ cZ ad stC kcC NN A x H → va_S A s.heap H locs → W p l e R s m args below meth c H locs cells slots Q (F0 m pc ls [])) (hrec4 : ∀ (ad : Nat → Nat) (NN cells slots : Nat) (o : Nat) (l1 : Int32) (l2 : Int32) (l3 : Int32) (kb : Nat) (nb : Nat) (x : St) (H : Heap) (locs : List Loc) (ls : Array Slot), (152 ≤ NN) → (NN0 ≤ NN ∧ ∀ o : Nat, o < NN0 → ad o = ad0 o) → (cells + kb ≤ R.cells) → (slots + nb ≤ R.slots) → (o < NN ∧ kcC o = 5) → rec4 o l1 l2 l3 kb nb x → Wd dC dI cI cB cJ cZ ad stC kcC NN A x H → va_S A s.heap H locs → lv_has ls 5 [(0, .ref (ad o)), (1, .int l1), (2, .int l2), (3, .int l3)] → W p l e R s m args below meth c H locs cells slots Q (F0 m 4 ls [])) : ∀ (ad : Nat → Nat) (NN cells slots : Nat) (o : Nat) (l1 : Int32) (l2 : Int32) (l3 : Int32) (kb : Nat) (nb : Nat) (x : St) (H : Heap) (locs : List Loc) (ls : Array Slot), (152 ≤ NN) → (NN0 ≤ NN ∧ ∀ o : Nat, o < NN0 → ad o = ad0 o) → (cells + kb ≤ R.cells) → (slots + nb ≤ R.slots) → (o < NN ∧ kcC o = 5) → j_Wrt_putDictionary_4 post rec4 o l1 l2 l3 kb nb x → Wd dC dI cI cB cJ cZ ad stC kcC NN A x H → va_S A s.heap H locs → lv_has ls 5 [(0, .ref (ad o)), (1, .int l1), (2, .int l2), (3, .int l3)] → W p l e R s m args below meth c H locs cells slots Q (F0 m 4 ls []) := by
  intro ad NN cells slots o l1 l2 l3 kb nb x H locs ls hNN hag hRc hRs fo hw hW hS hl
  unfold j_Wrt_putDictionary_4 at hw
  refine lv_iload_n hx hb d_Wrt_putDictionary_4 rfl (lv_at hl 3 rfl) ?_
  refine lv_aload_n hx hb d_Wrt_putDictionary_5 rfl (lv_at hl 0 rfl) ?_
  refine w_geti (k := 12) (t := 5) (C := R_Wrt) (T := F_Wrt) (N := 20) hx hb hT hown hK hW fo.1 fo.2 (by decide) in_Wrt rfl rfl (by decide) rfl fr_Wrt_12 w_2_63 d_Wrt_putDictionary_6 ?_
  refine lv_icmp_ge (tgt := 87) hx hb d_Wrt_putDictionary_9 (by decide) (fun c30 => ?_) (fun c30 => ?_)
  · have hw := hw.1 c30
    refine lv_iconst (v := 0) hx hb d_Wrt_putDictionary_87 (by decide) ?_
    refine lv_istore_n (lv' := [(3, .int 0), (0, .ref (ad o)), (1, .int l1), (2, .int l2)]) hx hb d_Wrt_putDictionary_88 rfl hl (by decide) rfl (fun ls hl => ?_)
    obtain ⟨n, hw⟩ := hw
    exact tl_Wrt_putDictionary_89 hx hb hml hown hT hK hN hA hRf hRl hE hret  n ad NN cells slots o l1 l2 0 kb nb x H locs ls hNN hag hRc hRs fo hw hW hS (lv_sub hl [1, 2, 3, 0] rfl)
  · have hw := hw.2 c30
    refine lv_aload_n hx hb d_Wrt_putDictionary_12 rfl (lv_at hl 0 rfl) ?_
    refine lv_iload_n hx hb d_Wrt_putDictionary_13 rfl (lv_at hl 1 rfl) ?_
    refine lv_aload_n hx hb d_Wrt_putDictionary_14 rfl (lv_at hl 0 rfl) ?_
    refine w_getf (q := (stC o 10)) (k := 10) (t := 5) (C := R_Wrt) (T := F_Wrt) (N := 20) hx hb hT hown hK hW fo.1 fo.2 (by decide) in_Wrt rfl rfl (by decide) rfl fr_Wrt_10 w_2_61 d_Wrt_putDictionary_15 rfl ?_
    refine lv_iload_n hx hb d_Wrt_putDictionary_18 rfl (lv_at hl 3 rfl) ?_
    obtain ⟨hi, hw⟩ := hw
    refine w_lald (o := (stC o 10)) hx hb hK hW (st_ty hNN fo.1 fo.2 rfl).1 (st_ty hNN fo.1 fo.2 rfl).2 hi d_Wrt_putDictionary_19 ?_
    have hF := hW.free hS hA
    refine va_calli (va_runV (C := R_Wrt) (As := [.int l1, .long (rL x (stC o 10) l3)]) (rest := []) ⟨hx, hb, hml, hown, hT⟩ (k_Wrt_slotOf l dC dI cI cB cJ cZ ad NN E tM tC kK kV hNN H.size o l1 (rL x (stC o 10) l3) x fo hw) ⟨callB_of 2 hT (gwt_in w_5_218) rfl rfl rfl (hT _ w_1_8) (hT _ w_5_215) (by decide +kernel) ⟨Nat.le_trans (Nat.le_of_ble_eq_true rfl) hRf, Nat.le_trans (Nat.le_of_ble_eq_true rfl) hRl⟩, hT _ w_5_217, hT _ ws_26⟩ ⟨PVc.blind, va_recv hK hW.1 (ci := 5) (q0 := o) rfl (pic_obj fo.1 fo.2 (by decide)), PVc.at _ hW hK hN hE hS hF⟩ rfl rfl hl.1 rfl (lv_room (Nat.le_of_ble_eq_true rfl)) d_Wrt_putDictionary_20 ⟨(Nat.le_trans (Nat.le_add_right _ _) hRc), (Nat.le_trans (Nat.le_add_right _ _) hRs)⟩) hS (fun q _ h => hF q h) hF (fun r32 x31 t H locs ht hvm hw hB hz1 hk1 hS => ?_)
    have hW := Wd.back hB ht hF
    clear hB ht hF hz1 hk1 hvm
    refine lv_istore (lv' := [(4, .int r32), (0, .ref (ad o)), (1, .int l1), (2, .int l2), (3, .int l3)]) hx hb d_Wrt_putDictionary_23 hl (by decide) rfl (fun ls hl => ?_)
    refine lv_aload_n hx hb d_Wrt_putDictionary_25 rfl (lv_at hl 1 rfl) ?_
    refine w_getf (q := (stC o 18)) (k := 18) (t := 5) (C := R_Wrt) (T := F_Wrt) (N := 20) hx hb hT hown hK hW fo.1 fo.2 (by decide) in_Wrt rfl rfl (by decide) rfl fr_Wrt_18 w_2_69 d_Wrt_putDictionary_26 rfl ?_
    refine lv_iload hx hb d_Wrt_putDictionary_29 (lv_at hl 0 rfl) ?_
    obtain ⟨hi, hw⟩ := hw
    refine w_iald (o := (stC o 18)) hx hb hK hW (st_ty hNN fo.1 fo.2 rfl).1 (st_ty hNN fo.1 fo.2 rfl).2 hi d_Wrt_putDictionary_31 ?_
    refine lv_if_ne (tgt := 66) hx hb d_Wrt_putDictionary_32 (by decide) (fun c33 => ?_) (fun c33 => ?_)
    · have hw := hw.1 c33
      exact t_Wrt_putDictionary_66 hx hb hml hown hT hK hN hA hRf hRl hE hret hrec4 ad NN cells slots o l1 l2 l3 r32 kb nb x31 H locs ls hNN hag hRc hRs fo hw hW hS (lv_sub hl [1, 2, 3, 4, 0] rfl)
    · have hw := hw.2 c33
      refine lv_aload_n hx hb d_Wrt_putDictionary_35 rfl (lv_at hl 1 rfl) ?_
      refine w_getf (q := (stC o 17)) (k := 17) (t := 5) (C := R_Wrt) (T := F_Wrt) (N := 20) hx hb hT hown hK hW fo.1 fo.2 (by decide) in_Wrt rfl rfl (by decide) rfl fr_Wrt_17 w_2_68 d_Wrt_putDictionary_36 rfl ?_
      refine lv_iload_n hx hb d_Wrt_putDictionary_39 rfl (lv_at hl 3 rfl) ?_
      refine lv_aload_n hx hb d_Wrt_putDictionary_40 rfl (lv_at hl 1 rfl) ?_
      refine w_getf (q := (stC o 10)) (k := 10) (t := 5) (C := R_Wrt) (T := F_Wrt) (N := 20) hx hb hT hown hK hW fo.1 fo.2 (by decide) in_Wrt rfl rfl (by decide) rfl fr_Wrt_10 w_2_61 d_Wrt_putDictionary_41 rfl ?_
      refine lv_iload_n hx hb d_Wrt_putDictionary_44 rfl (lv_at hl 4 rfl) ?_
      obtain ⟨hi, hw⟩ := hw
      refine w_lald (o := (stC o 10)) hx hb hK hW (st_ty hNN fo.1 fo.2 rfl).1 (st_ty hNN fo.1 fo.2 rfl).2 hi d_Wrt_putDictionary_45 ?_
      obtain ⟨hi, hw⟩ := hw
      refine w_last (o := (stC o 17)) hx hb hK hW hS (st_ty hNN fo.1 fo.2 rfl).1 (st_ty hNN fo.1 fo.2 rfl).2 hi d_Wrt_putDictionary_46 (fun H locs hW hS => ?_)
      obtain ⟨x34, ex34⟩ : ∃ y : St, y = setL x31 (stC o 17) l2 (rL x31 (stC o 10) l3) := ⟨_, rfl⟩
      rw [← ex34] at hW
      have hw := hw x34 ex34
      refine lv_aload_n hx hb d_Wrt_putDictionary_47 rfl (lv_at hl 1 rfl) ?_
      refine w_getf (q := (stC o 19)) (k := 19) (t := 5) (C := R_Wrt) (T := F_Wrt) (N := 20) hx hb hT hown hK hW fo.1 fo.2 (by decide) in_Wrt rfl rfl (by decide) rfl fr_Wrt_19 w_2_70 d_Wrt_putDictionary_48 rfl ?_
      refine lv_iload_n hx hb d_Wrt_putDictionary_51 rfl (lv_at hl 3 rfl) ?_
      refine lv_iload hx hb d_Wrt_putDictionary_52 (lv_at hl 0 rfl) ?_
      obtain ⟨hi, hw⟩ := hw
      refine w_iast (o := (stC o 19)) hx hb hK hW hS (st_ty hNN fo.1 fo.2 rfl).1 (st_ty hNN fo.1 fo.2 rfl).2 hi d_Wrt_putDictionary_54 (fun H locs hW hS => ?_)
      obtain ⟨x35, ex35⟩ : ∃ y : St, y = setA x34 (stC o 19) l2 r32 := ⟨_, rfl⟩
      rw [← ex35] at hW
      have hw := hw x35 ex35
      refine lv_iinc (v := (l2 + 1)) (lv' := [(2, .int (l2 + 1)), (4, .int r32), (0, .ref (ad o)), (1, .int l1), (3, .int l3)]) hx hb d_Wrt_putDictionary_55 hl (k := 3) rfl rfl (by decide) rfl (fun ls hl => ?_)
      refine lv_aload_n hx hb d_Wrt_putDictionary_58 rfl (lv_at hl 2 rfl) ?_
      refine w_getf (q := (stC o 18)) (k := 18) (t := 5) (C := R_Wrt) (T := F_Wrt) (N := 20) hx hb hT hown hK hW fo.1 fo.2 (by decide) in_Wrt rfl rfl (by decide) rfl fr_Wrt_18 w_2_69 d_Wrt_putDictionary_59 rfl ?_
      refine lv_iload hx hb d_Wrt_putDictionary_62 (lv_at hl 1 rfl) ?_
      refine lv_iload_n hx hb d_Wrt_putDictionary_64 rfl (lv_at hl 0 rfl) ?_
      obtain ⟨hi, hw⟩ := hw
      refine w_iast (o := (stC o 18)) hx hb hK hW hS (st_ty hNN fo.1 fo.2 rfl).1 (st_ty hNN fo.1 fo.2 rfl).2 hi d_Wrt_putDictionary_65 (fun H locs hW hS => ?_)
      obtain ⟨x36, ex36⟩ : ∃ y : St, y = setA x35 (stC o 18) r32 (l2 + 1) := ⟨_, rfl⟩
      rw [← ex36] at hW
      have hw := hw x36 ex36
      exact t_Wrt_putDictionary_66 hx hb hml hown hT hK hN hA hRf hRl hE hret hrec4 ad NN cells slots o l1 (l2 + 1) l3 r32 kb nb x36 H locs ls hNN hag hRc hRs fo hw hW hS (lv_sub hl [2, 3, 0, 4, 1] rfl)
set_option maxHeartbeats 4000000 in
set_option maxRecDepth 100000 in
theorem tl_Wrt_putDictionary_4 {p : Program} {l : Launch} {e : Env} {R : Room} {s : State} {m : MethodId} {args : Array Value} {below : List Frame} {meth : Method} {c : Code} {Q : State → Prop} {dC : Nat → ClassId} {dI : Nat → Nat → Nat} {cI cB cJ cZ : ClassId} {A : Nat → Prop} {E : Heap} {tM tC : Nat} {kK kV : Nat → Nat} {ad0 : Nat → Nat} {NN0 : Nat} {post : St → Prop} (hx : p.tables.exec = Jvm.exec) (hb : c.code = b_Wrt_putDictionary) (hml : c.maxLocals = 5) (hown : s.vm.findClass R_Wrt = some m.cls) (hT : ∀ w ∈ TG, w.before args s = true) (hK : va_K (dC, dI) CL (TY cI cB cJ cZ) s) (hN : NW s) (hA : ∀ q : Nat, s.heap.size ≤ q → A q) (hRf : 6 ≤ R.frames) (hRl : 299 ≤ R.locals) (hE : CE E tM tC kK kV A s) (hret : ∀ (ad : Nat → Nat) (NN cells slots : Nat) (x : St) (H : Heap) (locs : List Loc) (pc : Nat) (ls : Array Slot), decode b_Wrt_putDictionary pc = .ok (.return_, 1) → (NN0 ≤ NN ∧ ∀ o : Nat, o < NN0 → ad o = ad0 o) → cells ≤ R.cells → slots ≤ R.slots → post x → Wd dC dI cI cB cJ cZ ad stC kcC NN A x H → va_S A s.heap H locs → W p l e R s m args below meth c H locs cells slots Q (F0 m pc ls []))  : ∀ n : Nat, ∀ (ad : Nat → Nat) (NN cells slots : Nat) (o : Nat) (l1 : Int32) (l2 : Int32) (l3 : Int32) (kb : Nat) (nb : Nat) (x : St) (H : Heap) (locs : List Loc) (ls : Array Slot), (152 ≤ NN) → (NN0 ≤ NN ∧ ∀ o : Nat, o < NN0 → ad o = ad0 o) → (cells + kb ≤ R.cells) → (slots + nb ≤ R.slots) → (o < NN ∧ kcC o = 5) → wl_Wrt_putDictionary_4 post n o l1 l2 l3 kb nb x → Wd dC dI cI cB cJ cZ ad stC kcC NN A x H → va_S A s.heap H locs → lv_has ls 5 [(0, .ref (ad o)), (1, .int l1), (2, .int l2), (3, .int l3)] → W p l e R s m args below meth c H locs cells slots Q (F0 m 4 ls []) := by
  intro n
  induction n with
  | zero => intro ad NN cells slots o l1 l2 l3 kb nb x H locs ls hNN hag hRc hRs fo hw; exact hw.elim
  | succ n ih => intro ad NN cells slots o l1 l2 l3 kb nb x H locs ls hNN hag hRc hRs fo hw hW hS hl; exact t_Wrt_putDictionary_4 hx hb hml hown hT hK hN hA hRf hRl hE hret  ih ad NN cells slots o l1 l2 l3 kb nb x H locs ls hNN hag hRc hRs fo hw hW hS hl
set_option maxRecDepth 100000 in
set_option maxHeartbeats 4000000 in
set_option maxRecDepth 100000 in
theorem t_Wrt_putDictionary_e {p : Program} {l : Launch} {e : Env} {R : Room} {s : State} {m : MethodId} {args : Array Value} {below : List Frame} {meth : Method} {c : Code} {Q : State → Prop} {dC : Nat → ClassId} {dI : Nat → Nat → Nat} {cI cB cJ cZ : ClassId} {A : Nat → Prop} {E : Heap} {tM tC : Nat} {kK kV : Nat → Nat} {ad0 : Nat → Nat} {NN0 : Nat} {post : St → Prop} (hx : p.tables.exec = Jvm.exec) (hb : c.code = b_Wrt_putDictionary) (hml : c.maxLocals = 5) (hown : s.vm.findClass R_Wrt = some m.cls) (hT : ∀ w ∈ TG, w.before args s = true) (hK : va_K (dC, dI) CL (TY cI cB cJ cZ) s) (hN : NW s) (hA : ∀ q : Nat, s.heap.size ≤ q → A q) (hRf : 6 ≤ R.frames) (hRl : 299 ≤ R.locals) (hE : CE E tM tC kK kV A s) (hret : ∀ (ad : Nat → Nat) (NN cells slots : Nat) (x : St) (H : Heap) (locs : List Loc) (pc : Nat) (ls : Array Slot), decode b_Wrt_putDictionary pc = .ok (.return_, 1) → (NN0 ≤ NN ∧ ∀ o : Nat, o < NN0 → ad o = ad0 o) → cells ≤ R.cells → slots ≤ R.slots → post x → Wd dC dI cI cB cJ cZ ad stC kcC NN A x H → va_S A s.heap H locs → W p l e R s m args below meth c H locs cells slots Q (F0 m pc ls [])) : ∀ (ad : Nat → Nat) (NN cells slots : Nat) (o : Nat) (l1 : Int32) (kb : Nat) (nb : Nat) (x : St) (H : Heap) (locs : List Loc) (ls : Array Slot), (152 ≤ NN) → (NN0 ≤ NN ∧ ∀ o : Nat, o < NN0 → ad o = ad0 o) → (cells + kb ≤ R.cells) → (slots + nb ≤ R.slots) → (o < NN ∧ kcC o = 5) → wp_Wrt_putDictionary post o l1 kb nb x → Wd dC dI cI cB cJ cZ ad stC kcC NN A x H → va_S A s.heap H locs → lv_has ls 5 [(0, .ref (ad o)), (1, .int l1)] → W p l e R s m args below meth c H locs cells slots Q (F0 m 0 ls []) := by
  intro ad NN cells slots o l1 kb nb x H locs ls hNN hag hRc hRs fo hw hW hS hl
  unfold wp_Wrt_putDictionary at hw
  refine lv_iconst (v := 0) hx hb d_Wrt_putDictionary_0 (by decide) ?_
  refine lv_istore_n (lv' := [(2, .int 0), (0, .ref (ad o)), (1, .int l1)]) hx hb d_Wrt_putDictionary_1 rfl hl (by decide) rfl (fun ls hl => ?_)
  refine lv_iconst (v := 0) hx hb d_Wrt_putDictionary_2 (by decide) ?_
  refine lv_istore_n (lv' := [(3, .int 0), (2, .int 0), (0, .ref (ad o)), (1, .int l1)]) hx hb d_Wrt_putDictionary_3 rfl hl (by decide) rfl (fun ls hl => ?_)
  obtain ⟨n, hw⟩ := hw
  exact tl_Wrt_putDictionary_4 hx hb hml hown hT hK hN hA hRf hRl hE hret  n ad NN cells slots o l1 0 0 kb nb x H locs ls hNN hag hRc hRs fo hw hW hS (lv_sub hl [2, 3, 1, 0] rfl)
set_option maxHeartbeats 4000000 in
set_option maxRecDepth 100000 in
theorem k_Wrt_putDictionary (l : Launch) (dC : Nat → ClassId) (dI : Nat → Nat → Nat) (cI cB cJ cZ : ClassId) (ad : Nat → Nat) (NN : Nat) (E : Heap) (tM tC : Nat) (kK kV : Nat → Nat) (hNN : 152 ≤ NN) (sz : Nat) (o : Nat) (l1 : Int32) (kb : Nat) (nb : Nat) (x : St) (fo : o < NN ∧ kcC o = 5) {post : St → Prop} (hw : wp_Wrt_putDictionary post o l1 kb nb x) : Met l y_Wrt_putDictionary (wsOf y_Wrt_putDictionary b_Wrt_putDictionary 5 (none)) ({ frames := 6, cells := kb, slots := nb, locals := 299 }) (va_Pc [.ref (ad o), .int l1] (PVc dC dI cI cB cJ cZ ad stC kcC NN E tM tC kK kV sz x)) (va_Qv (fun (u : St × (Nat → Nat) × Nat) => post u.1) (fun u t => Wd dC dI cI cB cJ cZ u.2.1 stC kcC u.2.2 (va_A (pic ad stC kcC NN cI cB cJ cZ x) sz) u.1 t.heap ∧ NN ≤ u.2.2 ∧ ∀ o : Nat, o < NN → u.2.1 o = ad o) (va_A (pic ad stC kcC NN cI cB cJ cZ x) sz)) kb nb (va_A (pic ad stC kcC NN cI cB cJ cZ x) sz) := by
  refine Met.ofW (cc := b_Wrt_putDictionary) (maxL := 5) (ret := none) (by decide) rfl ?_
  intro p e s m args below meth c s₁ B hml hv
  obtain ⟨rfl, ⟨hsz, hW0, hK, hN⟩, hE⟩ := hv
  have hx := B.exec
  have hb := B.bytes
  have hr := B.returns
  have hts := atoms_spec B.pre
  have hT : ∀ w ∈ TG, w.before _ s = true := fun w h => hts w (List.mem_cons_of_mem _ h)
  have hown : s.vm.findClass R_Wrt = some m.cls := findClass_of_methodNamed B.named
  have hlocks := B.notSynchronized
  subst hsz
  have hW : Wd dC dI cI cB cJ cZ ad stC kcC NN (va_A (pic ad stC kcC NN cI cB cJ cZ x) s.heap.size) x s.heap := ⟨hW0.1, hW0.2.1.self (sz := s.heap.size), hW0.2.2⟩
  generalize hAe : va_A (pic ad stC kcC NN cI cB cJ cZ x) s.heap.size = A at hW hE ⊢
  have hA : ∀ q : Nat, s.heap.size ≤ q → A q := fun q h => by rw [← hAe]; exact Or.inr h
  have hS : va_S A s.heap s.heap [] := va_S.rf
  have hl := lv_entry ([.ref (ad o), .int l1]) (n := 5) (Nat.le_of_ble_eq_true rfl)
  rw [lg_entry_eq]
  generalize (lg_sl ([.ref (ad o), .int l1]) ++ List.replicate (5 - (lg_sl ([.ref (ad o), .int l1])).length) Slot.unset).toArray = ls at hl ⊢
  have hl : lv_has ls 5 [(0, .ref (ad o)), (1, .int l1)] := hl
  exact t_Wrt_putDictionary_e hx hb hml hown hT hK hN hA (Nat.le_refl 6) (Nat.le_refl 299) hE (fun ad1 NN1 cells slots x1 H locs pc ls hd hag hc hs hp hW hS => W.widen (k := kb) (n := nb) hc hs (W.vret hx hb hr (fun t ht hM => ⟨⟨(x1, ad1, NN1), rfl, hp, Wd.back hW ht.symm (fun _ z => z), hag.1, hag.2⟩, hS.F ht⟩) hS.2.2 hd hlocks))  ad NN 0 0 o l1 kb nb x _ _ ls hNN ⟨Nat.le_refl _, fun _ _ => rfl⟩ (Nat.le_of_eq (Nat.zero_add kb)) (Nat.le_of_eq (Nat.zero_add nb)) fo hw hW hS hl
set_option maxRecDepth 100000 in
set_option maxHeartbeats 4000000 in
set_option maxRecDepth 100000 in
theorem t_Snk_putBlock_230 {p : Program} {l : Launch} {e : Env} {R : Room} {s : State} {m : MethodId} {args : Array Value} {below : List Frame} {meth : Method} {c : Code} {Q : State → Prop} {dC : Nat → ClassId} {dI : Nat → Nat → Nat} {cI cB cJ cZ : ClassId} {A : Nat → Prop} {E : Heap} {tM tC : Nat} {kK kV : Nat → Nat} {ad0 : Nat → Nat} {NN0 : Nat} {post : St → Prop} {rec154 : Nat → Nat → Int32 → Int32 → Int64 → Int32 → Nat → Nat → St → Prop} (hx : p.tables.exec = Jvm.exec) (hb : c.code = b_Snk_putBlock) (hml : c.maxLocals = 11) (hown : s.vm.findClass R_Snk = some m.cls) (hT : ∀ w ∈ TG, w.before args s = true) (hK : va_K (dC, dI) CL (TY cI cB cJ cZ) s) (hN : NW s) (hA : ∀ q : Nat, s.heap.size ≤ q → A q) (hRf : 4 ≤ R.frames) (hRl : 247 ≤ R.locals) (hE : CE E tM tC kK kV A s) (hret : ∀ (ad : Nat → Nat) (NN cells slots : Nat) (x : St) (H : Heap) (locs : List Loc) (pc : Nat) (ls : Array Slot), decode b_Snk_putBlock pc = .ok (.return_, 1) → (NN0 ≤ NN ∧ ∀ o : Nat, o < NN0 → ad o = ad0 o) → cells ≤ R.cells → slots ≤ R.slots → post x → Wd dC dI cI cB cJ cZ ad stC kcC NN A x H → va_S A s.heap H locs → W p l e R s m args below meth c H locs cells slots Q (F0 m pc ls [])) (hrec154 : ∀ (ad : Nat → Nat) (NN cells slots : Nat) (o : Nat) (l1 : Nat) (l2 : Int32) (l3 : Int32) (l4 : Int64) (l6 : Int32) (kb : Nat) (nb : Nat) (x : St) (H : Heap) (locs : List Loc) (ls : Array Slot), (152 ≤ NN) → (NN0 ≤ NN ∧ ∀ o : Nat, o < NN0 → ad o = ad0 o) → (cells + kb ≤ R.cells) → (slots + nb ≤ R.slots) → (o < NN ∧ kcC o = 1) → (l1 < NN ∧ kcC l1 = 22) → rec154 o l1 l2 l3 l4 l6 kb nb x → Wd dC dI cI cB cJ cZ ad stC kcC NN A x H → va_S A s.heap H locs → lv_has ls 11 [(0, .ref (ad o)), (1, .ref (ad l1)), (2, .int l2), (3, .int l3), (4, .long l4), (6, .int l6)] → W p l e R s m args below meth c H locs cells slots Q (F0 m 154 ls [])) : ∀ (ad : Nat → Nat) (NN cells slots : Nat) (o : Nat) (l1 : Nat) (l2 : Int32) (l3 : Int32) (l4 : Int64) (l6 : Int32) (l7 : Int32) (l8 : Int32) (kb : Nat) (nb : Nat) (x : St) (H : Heap) (locs : List Loc) (ls : Array Slot), (152 ≤ NN) → (NN0 ≤ NN ∧ ∀ o : Nat, o < NN0 → ad o = ad0 o) → (cells + kb ≤ R.cells) → (slots + nb ≤ R.slots) → (o < NN ∧ kcC o = 1) → (l1 < NN ∧ kcC l1 = 22) → j_Snk_putBlock_230 post rec154 o l1 l2 l3 l4 l6 l7 l8 kb nb x → Wd dC dI cI cB cJ cZ ad stC kcC NN A x H → va_S A s.heap H locs → lv_has ls 11 [(0, .ref (ad o)), (1, .ref (ad l1)), (2, .int l2), (3, .int l3), (4, .long l4), (6, .int l6), (7, .int l7), (8, .int l8)] → W p l e R s m args below meth c H locs cells slots Q (F0 m 230 ls []) := by
  intro ad NN cells slots o l1 l2 l3 l4 l6 l7 l8 kb nb x H locs ls hNN hag hRc hRs fo fl1 hw hW hS hl
  unfold j_Snk_putBlock_230 at hw
  refine lv_iinc (v := (l6 + 1)) (lv' := [(6, .int (l6 + 1)), (0, .ref (ad o)), (1, .ref (ad l1)), (2, .int l2), (3, .int l3), (4, .long l4), (7, .int l7), (8, .int l8)]) hx hb d_Snk_putBlock_230 hl (k := 5) rfl rfl (by decide) rfl (fun ls hl => ?_)
  refine lv_goto (tgt := 154) hx hb d_Snk_putBlock_233 (by decide) ?_
  exact hrec154 ad NN cells slots o l1 l2 l3 l4 (l6 + 1) kb nb x H locs ls hNN hag hRc hRs fo fl1 hw hW hS (lv_sub hl [1, 2, 3, 4, 5, 0] rfl)
set_option maxRecDepth 100000 in
set_option maxHeartbeats 4000000 in
set_option maxRecDepth 100000 in
theorem t_Snk_putBlock_214 {p : Program} {l : Launch} {e : Env} {R : Room} {s : State} {m : MethodId} {args : Array Value} {below : List Frame} {meth : Method} {c : Code} {Q : State → Prop} {dC : Nat → ClassId} {dI : Nat → Nat → Nat} {cI cB cJ cZ : ClassId} {A : Nat → Prop} {E : Heap} {tM tC : Nat} {kK kV : Nat → Nat} {ad0 : Nat → Nat} {NN0 : Nat} {post : St → Prop} {rec154 : Nat → Nat → Int32 → Int32 → Int64 → Int32 → Nat → Nat → St → Prop} {rec173 : Nat → Nat → Int32 → Int32 → Int64 → Int32 → Int32 → Int32 → Nat → Nat → St → Prop} (hx : p.tables.exec = Jvm.exec) (hb : c.code = b_Snk_putBlock) (hml : c.maxLocals = 11) (hown : s.vm.findClass R_Snk = some m.cls) (hT : ∀ w ∈ TG, w.before args s = true) (hK : va_K (dC, dI) CL (TY cI cB cJ cZ) s) (hN : NW s) (hA : ∀ q : Nat, s.heap.size ≤ q → A q) (hRf : 4 ≤ R.frames) (hRl : 247 ≤ R.locals) (hE : CE E tM tC kK kV A s) (hret : ∀ (ad : Nat → Nat) (NN cells slots : Nat) (x : St) (H : Heap) (locs : List Loc) (pc : Nat) (ls : Array Slot), decode b_Snk_putBlock pc = .ok (.return_, 1) → (NN0 ≤ NN ∧ ∀ o : Nat, o < NN0 → ad o = ad0 o) → cells ≤ R.cells → slots ≤ R.slots → post x → Wd dC dI cI cB cJ cZ ad stC kcC NN A x H → va_S A s.heap H locs → W p l e R s m args below meth c H locs cells slots Q (F0 m pc ls [])) (hrec154 : ∀ (ad : Nat → Nat) (NN cells slots : Nat) (o : Nat) (l1 : Nat) (l2 : Int32) (l3 : Int32) (l4 : Int64) (l6 : Int32) (kb : Nat) (nb : Nat) (x : St) (H : Heap) (locs : List Loc) (ls : Array Slot), (152 ≤ NN) → (NN0 ≤ NN ∧ ∀ o : Nat, o < NN0 → ad o = ad0 o) → (cells + kb ≤ R.cells) → (slots + nb ≤ R.slots) → (o < NN ∧ kcC o = 1) → (l1 < NN ∧ kcC l1 = 22) → rec154 o l1 l2 l3 l4 l6 kb nb x → Wd dC dI cI cB cJ cZ ad stC kcC NN A x H → va_S A s.heap H locs → lv_has ls 11 [(0, .ref (ad o)), (1, .ref (ad l1)), (2, .int l2), (3, .int l3), (4, .long l4), (6, .int l6)] → W p l e R s m args below meth c H locs cells slots Q (F0 m 154 ls [])) (hrec173 : ∀ (ad : Nat → Nat) (NN cells slots : Nat) (o : Nat) (l1 : Nat) (l2 : Int32) (l3 : Int32) (l4 : Int64) (l6 : Int32) (l7 : Int32) (l8 : Int32) (kb : Nat) (nb : Nat) (x : St) (H : Heap) (locs : List Loc) (ls : Array Slot), (152 ≤ NN) → (NN0 ≤ NN ∧ ∀ o : Nat, o < NN0 → ad o = ad0 o) → (cells + kb ≤ R.cells) → (slots + nb ≤ R.slots) → (o < NN ∧ kcC o = 1) → (l1 < NN ∧ kcC l1 = 22) → rec173 o l1 l2 l3 l4 l6 l7 l8 kb nb x → Wd dC dI cI cB cJ cZ ad stC kcC NN A x H → va_S A s.heap H locs → lv_has ls 11 [(0, .ref (ad o)), (1, .ref (ad l1)), (2, .int l2), (3, .int l3), (4, .long l4), (6, .int l6), (7, .int l7), (8, .int l8)] → W p l e R s m args below meth c H locs cells slots Q (F0 m 173 ls [])) : ∀ (ad : Nat → Nat) (NN cells slots : Nat) (o : Nat) (l1 : Nat) (l2 : Int32) (l3 : Int32) (l4 : Int64) (l6 : Int32) (l7 : Int32) (l8 : Int32) (s0 : Int64) (s1 : Nat) (kb : Nat) (nb : Nat) (x : St) (H : Heap) (locs : List Loc) (ls : Array Slot), (152 ≤ NN) → (NN0 ≤ NN ∧ ∀ o : Nat, o < NN0 → ad o = ad0 o) → (cells + kb ≤ R.cells) → (slots + nb ≤ R.slots) → (o < NN ∧ kcC o = 1) → (l1 < NN ∧ kcC l1 = 22) → (s1 < NN ∧ kcC s1 = 1) → j_Snk_putBlock_214 post rec154 rec173 o l1 l2 l3 l4 l6 l7 l8 s0 s1 kb nb x → Wd dC dI cI cB cJ cZ ad stC kcC NN A x H → va_S A s.heap H locs → lv_has ls 11 [(0, .ref (ad o)), (1, .ref (ad l1)), (2, .int l2), (3, .int l3), (4, .long l4), (6, .int l6), (7, .int l7), (8, .int l8)] → W p l e R s m args below meth c H locs cells slots Q (F0 m 214 ls [.long s0, .ref (ad s1)]) := by
  intro ad NN cells slots o l1 l2 l3 l4 l6 l7 l8 s0 s1 kb nb x H locs ls hNN hag hRc hRs fo fl1 fs1 hw hW hS hl
  unfold j_Snk_putBlock_214 at hw
  refine lv_aload_n hx hb d_Snk_putBlock_214 rfl (lv_at hl 0 rfl) ?_
  refine w_getf (q := (stC o 4)) (k := 4) (t := 1) (C := R_Snk) (T := F_Snk) (N := 7) hx hb hT hown hK hW fo.1 fo.2 (by decide) in_Snk rfl rfl (by decide) rfl fr_Snk_4 w_1_51 d_Snk_putBlock_215 rfl ?_
  refine lv_iload hx hb d_Snk_putBlock_218 (lv_at hl 5 rfl) ?_
  obtain ⟨hi, hw⟩ := hw
  refine w_iald (o := (stC o 4)) hx hb hK hW (st_ty hNN fo.1 fo.2 rfl).1 (st_ty hNN fo.1 fo.2 rfl).2 hi d_Snk_putBlock_220 ?_
  obtain ⟨k1, n2, k3, n4, ek1, en2, hw⟩ := hw
  have hF := hW.free hS hA
  refine va_callv (va_runV (C := R_Snk) (As := [.long s0, .int (rA x (stC o 4) l6)]) (rest := []) ⟨hx, hb, hml, hown, hT⟩ (k_Snk_putBits l dC dI cI cB cJ cZ ad NN E tM tC kK kV hNN H.size s1 s0 (rA x (stC o 4) l6) k1 n2 x fs1 hw) ⟨callB_of 2 hT (gwt_in w_5_210) rfl rfl rfl (hT _ w_1_2) (hT _ w_5_207) (by decide +kernel) ⟨Nat.le_trans (Nat.le_of_ble_eq_true rfl) hRf, Nat.le_trans (Nat.le_of_ble_eq_true rfl) hRl⟩, hT _ w_5_209, hT _ ws_24⟩ ⟨PVc.blind, va_recv hK hW.1 (ci := 1) (q0 := s1) rfl (pic_obj fs1.1 fs1.2 (by decide)), PVc.at _ hW hK hN hE hS hF⟩ rfl rfl hl.1 rfl (lv_room (Nat.le_of_ble_eq_true rfl)) d_Snk_putBlock_221 ⟨show cells + k1 ≤ R.cells by omega, show slots + n2 ≤ R.slots by omega⟩) hS (fun q _ h => hF q h) hF (fun  x5 t H locs ht hvm hw hB hz1 hk1 hS => ?_)
  obtain ⟨x5, ad, NN⟩ := x5
  obtain ⟨hB, hle, hg⟩ := hB
  try dsimp only at hw hB hle hg
  have hW := Wd.back hB ht hF
  rw [← hg o fo.1] at hl
  rw [← hg l1 fl1.1] at hl
  have fl1 : l1 < NN ∧ kcC l1 = 22 := ⟨Nat.lt_of_lt_of_le fl1.1 hle, fl1.2⟩
  have fo : o < NN ∧ kcC o = 1 := ⟨Nat.lt_of_lt_of_le fo.1 hle, fo.2⟩
  have fs1 : s1 < NN ∧ kcC s1 = 1 := ⟨Nat.lt_of_lt_of_le fs1.1 hle, fs1.2⟩
  have hag : NN0 ≤ NN ∧ ∀ o : Nat, o < NN0 → ad o = ad0 o := ⟨Nat.le_trans hag.1 hle, fun o h => (hg o (Nat.lt_of_lt_of_le h hag.1)).trans (hag.2 o h)⟩
  have hNN : 152 ≤ NN := Nat.le_trans hNN hle
  clear hg hle
  obtain ⟨cells, ec⟩ : ∃ z, z = cells + k1 := ⟨_, rfl⟩
  obtain ⟨slots, es⟩ : ∃ z, z = slots + n2 := ⟨_, rfl⟩
  first | rw [← ec, ← es] | rw [Nat.add_zero, Nat.add_zero, ← ec, ← es]
  have hRc : cells + k3 ≤ R.cells := by omega
  have hRs : slots + n4 ≤ R.slots := by omega
  clear ec es hB ht hF hz1 hk1 hvm ek1 en2
  refine lv_iinc (v := (l8 + 1)) (lv' := [(8, .int (l8 + 1)), (0, .ref (ad o)), (1, .ref (ad l1)), (2, .int l2), (3, .int l3), (4, .long l4), (6, .int l6), (7, .int l7)]) hx hb d_Snk_putBlock_224 hl (k := 7) rfl rfl (by decide) rfl (fun ls hl => ?_)
  refine lv_goto (tgt := 173) hx hb d_Snk_putBlock_227 (by decide) ?_
  exact hrec173 ad NN cells slots o l1 l2 l3 l4 l6 l7 (l8 + 1) k3 n4 x5 H locs ls hNN hag hRc hRs fo fl1 hw hW hS (lv_sub hl [1, 2, 3, 4, 5, 6, 7, 0] rfl)
set_option maxRecDepth 100000 in
set_option maxHeartbeats 4000000 in
set_option maxRecDepth 100000 in
theorem t_Snk_putBlock_173 {p : Program} {l : Launch} {e : Env} {R : Room} {s : State} {m : MethodId} {args : Array Value} {below : List Frame} {meth : Method} {c : Code} {Q : State → Prop} {dC : Nat → ClassId} {dI : Nat → Nat → Nat} {cI cB cJ cZ : ClassId} {A : Nat → Prop} {E : Heap} {tM tC : Nat} {kK kV : Nat → Nat} {ad0 : Nat → Nat} {NN0 : Nat} {post : St → Prop} {rec154 : Nat → Nat → Int32 → Int32 → Int64 → Int32 → Nat → Nat → St → Prop} {rec173 : Nat → Nat → Int32 → Int32 → Int64 → Int32 → Int32 → Int32 → Nat → Nat → St → Prop} (hx : p.tables.exec = Jvm.exec) (hb : c.code = b_Snk_putBlock) (hml : c.maxLocals = 11) (hown : s.vm.findClass R_Snk = some m.cls) (hT : ∀ w ∈ TG, w.before args s = true) (hK : va_K (dC, dI) CL (TY cI cB cJ cZ) s) (hN : NW s) (hA : ∀ q : Nat, s.heap.size ≤ q → A q) (hRf : 4 ≤ R.frames) (hRl : 247 ≤ R.locals) (hE : CE E tM tC kK kV A s) (hret : ∀ (ad : Nat → Nat) (NN cells slots : Nat) (x : St) (H : Heap) (locs : List Loc) (pc : Nat) (ls : Array Slot), decode b_Snk_putBlock pc = .ok (.return_, 1) → (NN0 ≤ NN ∧ ∀ o : Nat, o < NN0 → ad o = ad0 o) → cells ≤ R.cells → slots ≤ R.slots → post x → Wd dC dI cI cB cJ cZ ad stC kcC NN A x H → va_S A s.heap H locs → W p l e R s m args below meth c H locs cells slots Q (F0 m pc ls [])) (hrec154 : ∀ (ad : Nat → Nat) (NN cells slots : Nat) (o : Nat) (l1 : Nat) (l2 : Int32) (l3 : Int32) (l4 : Int64) (l6 : Int32) (kb : Nat) (nb : Nat) (x : St) (H : Heap) (locs : List Loc) (ls : Array Slot), (152 ≤ NN) → (NN0 ≤ NN ∧ ∀ o : Nat, o < NN0 → ad o = ad0 o) → (cells + kb ≤ R.cells) → (slots + nb ≤ R.slots) → (o < NN ∧ kcC o = 1) → (l1 < NN ∧ kcC l1 = 22) → rec154 o l1 l2 l3 l4 l6 kb nb x → Wd dC dI cI cB cJ cZ ad stC kcC NN A x H → va_S A s.heap H locs → lv_has ls 11 [(0, .ref (ad o)), (1, .ref (ad l1)), (2, .int l2), (3, .int l3), (4, .long l4), (6, .int l6)] → W p l e R s m args below meth c H locs cells slots Q (F0 m 154 ls [])) (hrec173 : ∀ (ad : Nat → Nat) (NN cells slots : Nat) (o : Nat) (l1 : Nat) (l2 : Int32) (l3 : Int32) (l4 : Int64) (l6 : Int32) (l7 : Int32) (l8 : Int32) (kb : Nat) (nb : Nat) (x : St) (H : Heap) (locs : List Loc) (ls : Array Slot), (152 ≤ NN) → (NN0 ≤ NN ∧ ∀ o : Nat, o < NN0 → ad o = ad0 o) → (cells + kb ≤ R.cells) → (slots + nb ≤ R.slots) → (o < NN ∧ kcC o = 1) → (l1 < NN ∧ kcC l1 = 22) → rec173 o l1 l2 l3 l4 l6 l7 l8 kb nb x → Wd dC dI cI cB cJ cZ ad stC kcC NN A x H → va_S A s.heap H locs → lv_has ls 11 [(0, .ref (ad o)), (1, .ref (ad l1)), (2, .int l2), (3, .int l3), (4, .long l4), (6, .int l6), (7, .int l7), (8, .int l8)] → W p l e R s m args below meth c H locs cells slots Q (F0 m 173 ls [])) : ∀ (ad : Nat → Nat) (NN cells slots : Nat) (o : Nat) (l1 : Nat) (l2 : Int32) (l3 : Int32) (l4 : Int64) (l6 : Int32) (l7 : Int32) (l8 : Int32) (kb : Nat) (nb : Nat) (x : St) (H : Heap) (locs : List Loc) (ls : Array Slot), (152 ≤ NN) → (NN0 ≤ NN ∧ ∀ o : Nat, o < NN0 → ad o = ad0 o) → (cells + kb ≤ R.cells) → (slots + nb ≤ R.slots) → (o < NN ∧ kcC o = 1) → (l1 < NN ∧ kcC l1 = 22) → j_Snk_putBlock_173 post rec154 rec173 o l1 l2 l3 l4 l6 l7 l8 kb nb x → Wd dC dI cI cB cJ cZ ad stC kcC NN A x H → va_S A s.heap H locs → lv_has ls 11 [(0, .ref (ad o)), (1, .ref (ad l1)), (2, .int l2), (3, .int l3), (4, .long l4), (6, .int l6), (7, .int l7), (8, .int l8)] → W p l e R s m args below meth c H locs cells slots Q (F0 m 173 ls []) := by
  intro ad NN cells slots o l1 l2 l3 l4 l6 l7 l8 kb nb x H locs ls hNN hag hRc hRs fo fl1 hw hW hS hl
  unfold j_Snk_putBlock_173 at hw
  refine lv_iload hx hb d_Snk_putBlock_173 (lv_at hl 7 rfl) ?_
  refine lv_iload hx hb d_Snk_putBlock_175 (lv_at hl 6 rfl) ?_
  refine lv_bipush (v := 16) hx hb d_Snk_putBlock_177 (by decide) ?_
  refine lv_iadd hx hb d_Snk_putBlock_179 ?_
  refine lv_icmp_ge (tgt := 230) hx hb d_Snk_putBlock_180 (by decide) (fun c6 => ?_) (fun c6 => ?_)
  · have hw := hw.1 c6
    exact t_Snk_putBlock_230 hx hb hml hown hT hK hN hA hRf hRl hE hret hrec154 ad NN cells slots o l1 l2 l3 l4 l6 l7 l8 kb nb x H locs ls hNN hag hRc hRs fo fl1 hw hW hS (lv_sub hl [0, 1, 2, 3, 4, 5, 6, 7] rfl)
  · have hw := hw.2 c6
    refine lv_iload hx hb d_Snk_putBlock_183 (lv_at hl 6 rfl) ?_
    refine lv_iload_n hx hb d_Snk_putBlock_185 rfl (lv_at hl 3 rfl) ?_
    refine lv_icmp_ge (tgt := 230) hx hb d_Snk_putBlock_186 (by decide) (fun c7 => ?_) (fun c7 => ?_)
    · have hw := hw.1 c7
      exact t_Snk_putBlock_230 hx hb hml hown hT hK hN hA hRf hRl hE hret hrec154 ad NN cells slots o l1 l2 l3 l4 l6 l7 l8 kb nb x H locs ls hNN hag hRc hRs fo fl1 hw hW hS (lv_sub hl [0, 1, 2, 3, 4, 5, 6, 7] rfl)
    · have hw := hw.2 c7
      refine lv_aload_n hx hb d_Snk_putBlock_189 rfl (lv_at hl 0 rfl) ?_
      refine lv_iload hx hb d_Snk_putBlock_190 (lv_at hl 7 rfl) ?_
      refine lv_iload_n hx hb d_Snk_putBlock_192 rfl (lv_at hl 3 rfl) ?_
      refine lv_icmp_ge (tgt := 213) hx hb d_Snk_putBlock_193 (by decide) (fun c8 => ?_) (fun c8 => ?_)
      · have hw := hw.1 c8
        refine lv_lconst (v := 0) hx hb d_Snk_putBlock_213 (by decide) ?_
        exact t_Snk_putBlock_214 hx hb hml hown hT hK hN hA hRf hRl hE hret hrec154 hrec173 ad NN cells slots o l1 l2 l3 l4 l6 l7 l8 0 o kb nb x H locs ls hNN hag hRc hRs fo fl1 fo hw hW hS (lv_sub hl [0, 1, 2, 3, 4, 5, 6, 7] rfl)
      · have hw := hw.2 c8
        refine lv_aload_n hx hb d_Snk_putBlock_196 rfl (lv_at hl 1 rfl) ?_
        refine lv_iload hx hb d_Snk_putBlock_197 (lv_at hl 7 rfl) ?_
        obtain ⟨hi, hw⟩ := hw
        refine w_lald (o := l1) hx hb hK hW fl1.1 fl1.2 hi d_Snk_putBlock_199 ?_
        refine lv_aload_n hx hb d_Snk_putBlock_200 rfl (lv_at hl 1 rfl) ?_
        refine lv_iload hx hb d_Snk_putBlock_201 (lv_at hl 7 rfl) ?_
        refine lv_iconst (v := 1) hx hb d_Snk_putBlock_203 (by decide) ?_
        refine lv_isub hx hb d_Snk_putBlock_204 ?_
        obtain ⟨hi, hw⟩ := hw
        refine w_lald (o := l1) hx hb hK hW fl1.1 fl1.2 hi d_Snk_putBlock_205 ?_
        refine lv_lsub hx hb d_Snk_putBlock_206 ?_
        refine lv_lload hx hb d_Snk_putBlock_207 (lv_at hl 4 rfl) ?_
        refine lv_lsub hx hb d_Snk_putBlock_209 ?_
        refine lv_goto (tgt := 214) hx hb d_Snk_putBlock_210 (by decide) ?_
        exact t_Snk_putBlock_214 hx hb hml hown hT hK hN hA hRf hRl hE hret hrec154 hrec173 ad NN cells slots o l1 l2 l3 l4 l6 l7 l8 (((rL x l1 l8) - (rL x l1 (l8 - 1))) - l4) o kb nb x H locs ls hNN hag hRc hRs fo fl1 fo hw hW hS (lv_sub hl [0, 1, 2, 3, 4, 5, 6, 7] rfl)
set_option maxHeartbeats 4000000 in
set_option maxRecDepth 100000 in
theorem tl_Snk_putBlock_173 {p : Program} {l : Launch} {e : Env} {R : Room} {s : State} {m : MethodId} {args : Array Value} {below : List Frame} {meth : Method} {c : Code} {Q : State → Prop} {dC : Nat → ClassId} {dI : Nat → Nat → Nat} {cI cB cJ cZ : ClassId} {A : Nat → Prop} {E : Heap} {tM tC : Nat} {kK kV : Nat → Nat} {ad0 : Nat → Nat} {NN0 : Nat} {post : St → Prop} {rec154 : Nat → Nat → Int32 → Int32 → Int64 → Int32 → Nat → Nat → St → Prop} (hx : p.tables.exec = Jvm.exec) (hb : c.code = b_Snk_putBlock) (hml : c.maxLocals = 11) (hown : s.vm.findClass R_Snk = some m.cls) (hT : ∀ w ∈ TG, w.before args s = true) (hK : va_K (dC, dI) CL (TY cI cB cJ cZ) s) (hN : NW s) (hA : ∀ q : Nat, s.heap.size ≤ q → A q) (hRf : 4 ≤ R.frames) (hRl : 247 ≤ R.locals) (hE : CE E tM tC kK kV A s) (hret : ∀ (ad : Nat → Nat) (NN cells slots : Nat) (x : St) (H : Heap) (locs : List Loc) (pc : Nat) (ls : Array Slot), decode b_Snk_putBlock pc = .ok (.return_, 1) → (NN0 ≤ NN ∧ ∀ o : Nat, o < NN0 → ad o = ad0 o) → cells ≤ R.cells → slots ≤ R.slots → post x → Wd dC dI cI cB cJ cZ ad stC kcC NN A x H → va_S A s.heap H locs → W p l e R s m args below meth c H locs cells slots Q (F0 m pc ls [])) (hrec154 : ∀ (ad : Nat → Nat) (NN cells slots : Nat) (o : Nat) (l1 : Nat) (l2 : Int32) (l3 : Int32) (l4 : Int64) (l6 : Int32) (kb : Nat) (nb : Nat) (x : St) (H : Heap) (locs : List Loc) (ls : Array Slot), (152 ≤ NN) → (NN0 ≤ NN ∧ ∀ o : Nat, o < NN0 → ad o = ad0 o) → (cells + kb ≤ R.cells) → (slots + nb ≤ R.slots) → (o < NN ∧ kcC o = 1) → (l1 < NN ∧ kcC l1 = 22) → rec154 o l1 l2 l3 l4 l6 kb nb x → Wd dC dI cI cB cJ cZ ad stC kcC NN A x H → va_S A s.heap H locs → lv_has ls 11 [(0, .ref (ad o)), (1, .ref (ad l1)), (2, .int l2), (3, .int l3), (4, .long l4), (6, .int l6)] → W p l e R s m args below meth c H locs cells slots Q (F0 m 154 ls [])) : ∀ n : Nat, ∀ (ad : Nat → Nat) (NN cells slots : Nat) (o : Nat) (l1 : Nat) (l2 : Int32) (l3 : Int32) (l4 : Int64) (l6 : Int32) (l7 : Int32) (l8 : Int32) (kb : Nat) (nb : Nat) (x : St) (H : Heap) (locs : List Loc) (ls : Array Slot), (152 ≤ NN) → (NN0 ≤ NN ∧ ∀ o : Nat, o < NN0 → ad o = ad0 o) → (cells + kb ≤ R.cells) → (slots + nb ≤ R.slots) → (o < NN ∧ kcC o = 1) → (l1 < NN ∧ kcC l1 = 22) → wl_Snk_putBlock_173 post rec154 n o l1 l2 l3 l4 l6 l7 l8 kb nb x → Wd dC dI cI cB cJ cZ ad stC kcC NN A x H → va_S A s.heap H locs → lv_has ls 11 [(0, .ref (ad o)), (1, .ref (ad l1)), (2, .int l2), (3, .int l3), (4, .long l4), (6, .int l6), (7, .int l7), (8, .int l8)] → W p l e R s m args below meth c H locs cells slots Q (F0 m 173 ls []) := by
  intro n
  induction n with
  | zero => intro ad NN cells slots o l1 l2 l3 l4 l6 l7 l8 kb nb x H locs ls hNN hag hRc hRs fo fl1 hw; exact hw.elim
  | succ n ih => intro ad NN cells slots o l1 l2 l3 l4 l6 l7 l8 kb nb x H locs ls hNN hag hRc hRs fo fl1 hw hW hS hl; exact t_Snk_putBlock_173 hx hb hml hown hT hK hN hA hRf hRl hE hret hrec154 ih ad NN cells slots o l1 l2 l3 l4 l6 l7 l8 kb nb x H locs ls hNN hag hRc hRs fo fl1 hw hW hS hl
set_option maxRecDepth 100000 in
set_option maxHeartbeats 4000000 in
set_option maxRecDepth 100000 in
theorem t_Snk_putBlock_154 {p : Program} {l : Launch} {e : Env} {R : Room} {s : State} {m : MethodId} {args : Array Value} {below : List Frame} {meth : Method} {c : Code} {Q : State → Prop} {dC : Nat → ClassId} {dI : Nat → Nat → Nat} {cI cB cJ cZ : ClassId} {A : Nat → Prop} {E : Heap} {tM tC : Nat} {kK kV : Nat → Nat} {ad0 : Nat → Nat} {NN0 : Nat} {post : St → Prop} {rec154 : Nat → Nat → Int32 → Int32 → Int64 → Int32 → Nat → Nat → St → Prop} (hx : p.tables.exec = Jvm.exec) (hb : c.code = b_Snk_putBlock) (hml : c.maxLocals = 11) (hown : s.vm.findClass R_Snk = some m.cls) (hT : ∀ w ∈ TG, w.before args s = true) (hK : va_K (dC, dI) CL (TY cI cB cJ cZ) s) (hN : NW s) (hA : ∀ q : Nat, s.heap.size ≤ q → A q) (hRf : 4 ≤ R.frames) (hRl : 247 ≤ R.locals) (hE : CE E tM tC kK kV A s) (hret : ∀ (ad : Nat → Nat) (NN cells slots : Nat) (x : St) (H : Heap) (locs : List Loc) (pc : Nat) (ls : Array Slot), decode b_Snk_putBlock pc = .ok (.return_, 1) → (NN0 ≤ NN ∧ ∀ o : Nat, o < NN0 → ad o = ad0 o) → cells ≤ R.cells → slots ≤ R.slots → post x → Wd dC dI cI cB cJ cZ ad stC kcC NN A x H → va_S A s.heap H locs → W p l e R s m args below meth c H locs cells slots Q (F0 m pc ls [])) (hrec154 : ∀ (ad : Nat → Nat) (NN cells slots : Nat) (o : Nat) (l1 : Nat) (l2 : Int32) (l3 : Int32) (l4 : Int64) (l6 : Int32) (kb : Nat) (nb : Nat) (x : St) (H : Heap) (locs : List Loc) (ls : Array Slot), (152 ≤ NN) → (NN0 ≤ NN ∧ ∀ o : Nat, o < NN0 → ad o = ad0 o) → (cells + kb ≤ R.cells) → (slots + nb ≤ R.slots) → (o < NN ∧ kcC o = 1) → (l1 < NN ∧ kcC l1 = 22) → rec154 o l1 l2 l3 l4 l6 kb nb x → Wd dC dI cI cB cJ cZ ad stC kcC NN A x H → va_S A s.heap H locs → lv_has ls 11 [(0, .ref (ad o)), (1, .ref (ad l1)), (2, .int l2), (3, .int l3), (4, .long l4), (6, .int l6)] → W p l e R s m args below meth c H locs cells slots Q (F0 m 154 ls [])) : ∀ (ad : Nat → Nat) (NN cells slots : Nat) (o : Nat) (l1 : Nat) (l2 : Int32) (l3 : Int32) (l4 : Int64) (l6 : Int32) (kb : Nat) (nb : Nat) (x : St) (H : Heap) (locs : List Loc) (ls : Array Slot), (152 ≤ NN) → (NN0 ≤ NN ∧ ∀ o : Nat, o < NN0 → ad o = ad0 o) → (cells + kb ≤ R.cells) → (slots + nb ≤ R.slots) → (o < NN ∧ kcC o = 1) → (l1 < NN ∧ kcC l1 = 22) → j_Snk_putBlock_154 post rec154 o l1 l2 l3 l4 l6 kb nb x → Wd dC dI cI cB cJ cZ ad stC kcC NN A x H → va_S A s.heap H locs → lv_has ls 11 [(0, .ref (ad o)), (1, .ref (ad l1)), (2, .int l2), (3, .int l3), (4, .long l4), (6, .int l6)] → W p l e R s m args below meth c H locs cells slots Q (F0 m 154 ls []) := by
  intro ad NN cells slots o l1 l2 l3 l4 l6 kb nb x H locs ls hNN hag hRc hRs fo fl1 hw hW hS hl
  unfold j_Snk_putBlock_154 at hw
  refine lv_iload hx hb d_Snk_putBlock_154 (lv_at hl 5 rfl) ?_
  refine lv_iconst (v := 4) hx hb d_Snk_putBlock_156 (by decide) ?_
  refine lv_icmp_ge (tgt := 236) hx hb d_Snk_putBlock_157 (by decide) (fun c9 => ?_) (fun c9 => ?_)
  · have hw := hw.1 c9
    exact hret ad NN cells slots x H locs 236 ls d_Snk_putBlock_236 hag (Nat.le_trans (Nat.le_add_right _ _) hRc) (Nat.le_trans (Nat.le_add_right _ _) hRs) hw hW hS
  · have hw := hw.2 c9
    refine lv_iload_n hx hb d_Snk_putBlock_160 rfl (lv_at hl 2 rfl) ?_
    refine lv_bipush (v := 16) hx hb d_Snk_putBlock_161 (by decide) ?_
    refine lv_iload hx hb d_Snk_putBlock_163 (lv_at hl 5 rfl) ?_
    refine lv_imul hx hb d_Snk_putBlock_165 ?_
    refine lv_iadd hx hb d_Snk_putBlock_166 ?_
    refine lv_topi (fun v10 ev10 => ?_)
    have hw := hw v10 ev10
    refine lv_istore (lv' := [(7, .int v10), (0, .ref (ad o)), (1, .ref (ad l1)), (2, .int l2), (3, .int l3), (4, .long l4), (6, .int l6)]) hx hb d_Snk_putBlock_167 hl (by decide) rfl (fun ls hl => ?_)
    refine lv_iload hx hb d_Snk_putBlock_169 (lv_at hl 0 rfl) ?_
    refine lv_istore (lv' := [(8, .int v10), (7, .int v10), (0, .ref (ad o)), (1, .ref (ad l1)), (2, .int l2), (3, .int l3), (4, .long l4), (6, .int l6)]) hx hb d_Snk_putBlock_171 hl (by decide) rfl (fun ls hl => ?_)
    obtain ⟨n, hw⟩ := hw
    exact tl_Snk_putBlock_173 hx hb hml hown hT hK hN hA hRf hRl hE hret hrec154 n ad NN cells slots o l1 l2 l3 l4 l6 v10 v10 kb nb x H locs ls hNN hag hRc hRs fo fl1 hw hW hS (lv_sub hl [2, 3, 4, 5, 6, 7, 1, 0] rfl)
set_option maxHeartbeats 4000000 in
set_option maxRecDepth 100000 in
theorem tl_Snk_putBlock_154 {p : Program} {l : Launch} {e : Env} {R : Room} {s : State} {m : MethodId} {args : Array Value} {below : List Frame} {meth : Method} {c : Code} {Q : State → Prop} {dC : Nat → ClassId} {dI : Nat → Nat → Nat} {cI cB cJ cZ : ClassId} {A : Nat → Prop} {E : Heap} {tM tC : Nat} {kK kV : Nat → Nat} {ad0 : Nat → Nat} {NN0 : Nat} {post : St → Prop} (hx : p.tables.exec = Jvm.exec) (hb : c.code = b_Snk_putBlock) (hml : c.maxLocals = 11) (hown : s.vm.findClass R_Snk = some m.cls) (hT : ∀ w ∈ TG, w.before args s = true) (hK : va_K (dC, dI) CL (TY cI cB cJ cZ) s) (hN : NW s) (hA : ∀ q : Nat, s.heap.size ≤ q → A q) (hRf : 4 ≤ R.frames) (hRl : 247 ≤ R.locals) (hE : CE E tM tC kK kV A s) (hret : ∀ (ad : Nat → Nat) (NN cells slots : Nat) (x : St) (H : Heap) (locs : List Loc) (pc : Nat) (ls : Array Slot), decode b_Snk_putBlock pc = .ok (.return_, 1) → (NN0 ≤ NN ∧ ∀ o : Nat, o < NN0 → ad o = ad0 o) → cells ≤ R.cells → slots ≤ R.slots → post x → Wd dC dI cI cB cJ cZ ad stC kcC NN A x H → va_S A s.heap H locs → W p l e R s m args below meth c H locs cells slots Q (F0 m pc ls []))  : ∀ n : Nat, ∀ (ad : Nat → Nat) (NN cells slots : Nat) (o : Nat) (l1 : Nat) (l2 : Int32) (l3 : Int32) (l4 : Int64) (l6 : Int32) (kb : Nat) (nb : Nat) (x : St) (H : Heap) (locs : List Loc) (ls : Array Slot), (152 ≤ NN) → (NN0 ≤ NN ∧ ∀ o : Nat, o < NN0 → ad o = ad0 o) → (cells + kb ≤ R.cells) → (slots + nb ≤ R.slots) → (o < NN ∧ kcC o = 1) → (l1 < NN ∧ kcC l1 = 22) → wl_Snk_putBlock_154 post n o l1 l2 l3 l4 l6 kb nb x → Wd dC dI cI cB cJ cZ ad stC kcC NN A x H → va_S A s.heap H locs → lv_has ls 11 [(0, .ref (ad o)), (1, .ref (ad l1)), (2, .int l2), (3, .int l3), (4, .long l4), (6, .int l6)] → W p l e R s m args below meth c H locs cells slots Q (F0 m 154 ls []) := by
  intro n
  induction n with
  | zero => intro ad NN cells slots o l1 l2 l3 l4 l6 kb nb x H locs ls hNN hag hRc hRs fo fl1 hw; exact hw.elim
  | succ n ih => intro ad NN cells slots o l1 l2 l3 l4 l6 kb nb x H locs ls hNN hag hRc hRs fo fl1 hw hW hS hl; exact t_Snk_putBlock_154 hx hb hml hown hT hK hN hA hRf hRl hE hret  ih ad NN cells slots o l1 l2 l3 l4 l6 kb nb x H locs ls hNN hag hRc hRs fo fl1 hw hW hS hl
set_option maxRecDepth 100000 in
set_option maxHeartbeats 4000000 in
set_option maxRecDepth 100000 in
theorem t_Snk_putBlock_90 {p : Program} {l : Launch} {e : Env} {R : Room} {s : State} {m : MethodId} {args : Array Value} {below : List Frame} {meth : Method} {c : Code} {Q : State → Prop} {dC : Nat → ClassId} {dI : Nat → Nat → Nat} {cI cB cJ cZ : ClassId} {A : Nat → Prop} {E : Heap} {tM tC : Nat} {kK kV : Nat → Nat} {ad0 : Nat → Nat} {NN0 : Nat} {post : St → Prop} {rec56 : Nat → Nat → Int32 → Int32 → Int64 → Int32 → Nat → Nat → St → Prop} {rec90 : Nat → Nat → Int32 → Int32 → Int64 → Int32 → Int64 → Int32 → Int32 → Nat → Nat → St → Prop} (hx : p.tables.exec = Jvm.exec) (hb : c.code = b_Snk_putBlock) (hml : c.maxLocals = 11) (hown : s.vm.findClass R_Snk = some m.cls) (hT : ∀ w ∈ TG, w.before args s = true) (hK : va_K (dC, dI) CL (TY cI cB cJ cZ) s) (hN : NW s) (hA : ∀ q : Nat, s.heap.size ≤ q → A q) (hRf : 4 ≤ R.frames) (hRl : 247 ≤ R.locals) (hE : CE E tM tC kK kV A s) (hret : ∀ (ad : Nat → Nat) (NN cells slots : Nat) (x : St) (H : Heap) (locs : List Loc) (pc : Nat) (ls : Array Slot), decode b_Snk_putBlock pc = .ok (.return_, 1) → (NN0 ≤ NN ∧ ∀ o : Nat, o < NN0 → ad o = ad0 o) → cells ≤ R.cells → slots ≤ R.slots → post x → Wd dC dI cI cB cJ cZ ad stC kcC NN A x H → va_S A s.heap H locs → W p l e R s m args below meth c H locs cells slots Q (F0 m pc ls [])) (hrec56 : ∀ (ad : Nat → Nat) (NN cells slots : Nat) (o : Nat) (l1 : Nat) (l2 : Int32) (l3 : Int32) (l4 : Int64) (l6 : Int32) (kb : Nat) (nb : Nat) (x : St) (H : Heap) (locs : List Loc) (ls : Array Slot), (152 ≤ NN) → (NN0 ≤ NN ∧ ∀ o : Nat, o < NN0 → ad o = ad0 o) → (cells + kb ≤ R.cells) → (slots + nb ≤ R.slots) → (o < NN ∧ kcC o = 1) → (l1 < NN ∧ kcC l1 = 22) → rec56 o l1 l2 l3 l4 l6 kb nb x → Wd dC dI cI cB cJ cZ ad stC kcC NN A x H → va_S A s.heap H locs → lv_has ls 11 [(0, .ref (ad o)), (1, .ref (ad l1)), (2, .int l2), (3, .int l3), (4, .long l4), (6, .int l6)] → W p l e R s m args below meth c H locs cells slots Q (F0 m 56 ls [])) (hrec90 : ∀ (ad : Nat → Nat) (NN cells slots : Nat) (o : Nat) (l1 : Nat) (l2 : Int32) (l3 : Int32) (l4 : Int64) (l6 : Int32) (l7 : Int64) (l9 : Int32) (l10 : Int32) (kb : Nat) (nb : Nat) (x : St) (H : Heap) (locs : List Loc) (ls : Array Slot), (152 ≤ NN) → (NN0 ≤ NN ∧ ∀ o : Nat, o < NN0 → ad o = ad0 o) → (cells + kb ≤ R.cells) → (slots + nb ≤ R.slots) → (o < NN ∧ kcC o = 1) → (l1 < NN ∧ kcC l1 = 22) → rec90 o l1 l2 l3 l4 l6 l7 l9 l10 kb nb x → Wd dC dI cI cB cJ cZ ad stC kcC NN A x H → va_S A s.heap H locs → lv_has ls 11 [(0, .ref (ad o)), (1, .ref (ad l1)), (2, .int l2), (3, .int l3), (4, .long l4), (6, .int l6), (7, .long l7), (9, .int l9), (10, .int l10)] → W p l e R s m args below meth c H locs cells slots Q (F0 m 90 ls [])) : ∀ (ad : Nat → Nat) (NN cells slots : Nat) (o : Nat) (l1 : Nat) (l2 : Int32) (l3 : Int32) (l4 : Int64) (l6 : Int32) (l7 : Int64) (l9 : Int32) (l10 : Int32) (kb : Nat) (nb : Nat) (x : St) (H : Heap) (locs : List Loc) (ls : Array Slot), (152 ≤ NN) → (NN0 ≤ NN ∧ ∀ o : Nat, o < NN0 → ad o = ad0 o) → (cells + kb ≤ R.cells) → (slots + nb ≤ R.slots) → (o < NN ∧ kcC o = 1) → (l1 < NN ∧ kcC l1 = 22) → j_Snk_putBlock_90 post rec56 rec90 o l1 l2 l3 l4 l6 l7 l9 l10 kb nb x → Wd dC dI cI cB cJ cZ ad stC kcC NN A x H → va_S A s.heap H locs → lv_has ls 11 [(0, .ref (ad o)), (1, .ref (ad l1)), (2, .int l2), (3, .int l3), (4, .long l4), (6, .int l6), (7, .long l7), (9, .int l9), (10, .int l10)] → W p l e R s m args below meth c H locs cells slots Q (F0 m 90 ls []) := by
  intro ad NN cells slots o l1 l2 l3 l4 l6 l7 l9 l10 kb nb x H locs ls hNN hag hRc hRs fo fl1 hw hW hS hl
  unfold j_Snk_putBlock_90 at hw
  refine lv_iload hx hb d_Snk_putBlock_90 (lv_at hl 8 rfl) ?_
  refine lv_iload hx hb d_Snk_putBlock_92 (lv_at hl 7 rfl) ?_
  refine lv_icmp_ge (tgt := 122) hx hb d_Snk_putBlock_94 (by decide) (fun c11 => ?_) (fun c11 => ?_)
  · have hw := hw.1 c11
    refine lv_aload_n hx hb d_Snk_putBlock_122 rfl (lv_at hl 0 rfl) ?_
    refine w_getf (q := (stC o 4)) (k := 4) (t := 1) (C := R_Snk) (T := F_Snk) (N := 7) hx hb hT hown hK hW fo.1 fo.2 (by decide) in_Snk rfl rfl (by decide) rfl fr_Snk_4 w_1_51 d_Snk_putBlock_123 rfl ?_
    refine lv_iload hx hb d_Snk_putBlock_126 (lv_at hl 5 rfl) ?_
    refine lv_lload hx hb d_Snk_putBlock_128 (lv_at hl 6 rfl) ?_
    have hF := hW.free hS hA
    refine va_calli (va_runSN (As := [.long l7]) (rest := [.int l6, .ref (ad (stC o 4))]) ⟨hx, hb, hml, hown, hT⟩ (k_V_widthOf l dC dI cI cB cJ cZ ad NN E tM tC kK kV hNN H.size l7 x  hw) ⟨va_cnB 1 hT (gwt_in w_5_231) rfl rfl rfl (hN _ wn_6_14 rfl) (hT _ w_1_1) (by decide +kernel) ⟨Nat.le_trans (Nat.le_of_ble_eq_true rfl) hRf, Nat.le_trans (Nat.le_of_ble_eq_true rfl) hRl⟩, hT _ w_5_230, trivial⟩ ⟨PVc.blind, PVc.at _ hW hK hN hE hS hF⟩ rfl rfl hl.1 rfl (lv_room (Nat.le_of_ble_eq_true rfl)) d_Snk_putBlock_130 ⟨(Nat.le_trans (Nat.le_add_right _ _) hRc), (Nat.le_trans (Nat.le_add_right _ _) hRs)⟩) hS (fun q _ h => hF q h) hF (fun r13 x12 t H locs ht hvm hw hB hz1 hk1 hS => ?_)
    have hW := Wd.back hB ht hF
    clear hB ht hF hz1 hk1 hvm
    obtain ⟨hi, hw⟩ := hw
    refine w_iast (o := (stC o 4)) hx hb hK hW hS (st_ty hNN fo.1 fo.2 rfl).1 (st_ty hNN fo.1 fo.2 rfl).2 hi d_Snk_putBlock_133 (fun H locs hW hS => ?_)
    obtain ⟨x14, ex14⟩ : ∃ y : St, y = setA x12 (stC o 4) l6 r13 := ⟨_, rfl⟩
    rw [← ex14] at hW
    have hw := hw x14 ex14
    refine lv_aload_n hx hb d_Snk_putBlock_134 rfl (lv_at hl 0 rfl) ?_
    refine lv_aload_n hx hb d_Snk_putBlock_135 rfl (lv_at hl 0 rfl) ?_
    refine w_getf (q := (stC o 4)) (k := 4) (t := 1) (C := R_Snk) (T := F_Snk) (N := 7) hx hb hT hown hK hW fo.1 fo.2 (by decide) in_Snk rfl rfl (by decide) rfl fr_Snk_4 w_1_51 d_Snk_putBlock_136 rfl ?_
    refine lv_iload hx hb d_Snk_putBlock_139 (lv_at hl 5 rfl) ?_
    obtain ⟨hi, hw⟩ := hw
    refine w_iald (o := (stC o 4)) hx hb hK hW (st_ty hNN fo.1 fo.2 rfl).1 (st_ty hNN fo.1 fo.2 rfl).2 hi d_Snk_putBlock_141 ?_
    obtain ⟨k15, n16, k17, n18, ek15, en16, hw⟩ := hw
    have hF := hW.free hS hA
    refine va_callv (va_runV (C := R_Snk) (As := [.int (rA x14 (stC o 4) l6)]) (rest := []) ⟨hx, hb, hml, hown, hT⟩ (k_Snk_put l dC dI cI cB cJ cZ ad NN E tM tC kK kV hNN H.size o (rA x14 (stC o 4) l6) k15 n16 x14 fo hw) ⟨callB_of 1 hT (gwt_in w_4_52) rfl rfl rfl (hT _ w_1_2) (hT _ w_5_189) (by decide +kernel) ⟨Nat.le_trans (Nat.le_of_ble_eq_true rfl) hRf, Nat.le_trans (Nat.le_of_ble_eq_true rfl) hRl⟩, hT _ w_4_50, hT _ w_4_51⟩ ⟨PVc.blind, va_recv hK hW.1 (ci := 1) (q0 := o) rfl (pic_obj fo.1 fo.2 (by decide)), PVc.at _ hW hK hN hE hS hF⟩ rfl rfl hl.1 rfl (lv_room (Nat.le_of_ble_eq_true rfl)) d_Snk_putBlock_142 ⟨show cells + k15 ≤ R.cells by omega, show slots + n16 ≤ R.slots by omega⟩) hS (fun q _ h => hF q h) hF (fun  x19 t H locs ht hvm hw hB hz1 hk1 hS => ?_)
    obtain ⟨x19, ad, NN⟩ := x19
    obtain ⟨hB, hle, hg⟩ := hB
    try dsimp only at hw hB hle hg
    have hW := Wd.back hB ht hF
    rw [← hg o fo.1] at hl
    rw [← hg l1 fl1.1] at hl
    have fl1 : l1 < NN ∧ kcC l1 = 22 := ⟨Nat.lt_of_lt_of_le fl1.1 hle, fl1.2⟩
    have fo : o < NN ∧ kcC o = 1 := ⟨Nat.lt_of_lt_of_le fo.1 hle, fo.2⟩
    have hag : NN0 ≤ NN ∧ ∀ o : Nat, o < NN0 → ad o = ad0 o := ⟨Nat.le_trans hag.1 hle, fun o h => (hg o (Nat.lt_of_lt_of_le h hag.1)).trans (hag.2 o h)⟩
    have hNN : 152 ≤ NN := Nat.le_trans hNN hle
    clear hg hle
    obtain ⟨cells, ec⟩ : ∃ z, z = cells + k15 := ⟨_, rfl⟩
    obtain ⟨slots, es⟩ : ∃ z, z = slots + n16 := ⟨_, rfl⟩
    first | rw [← ec, ← es] | rw [Nat.add_zero, Nat.add_zero, ← ec, ← es]
    have hRc : cells + k17 ≤ R.cells := by omega
    have hRs : slots + n18 ≤ R.slots := by omega
    clear ec es hB ht hF hz1 hk1 hvm ek15 en16
    refine lv_iinc (v := (l6 + 1)) (lv' := [(6, .int (l6 + 1)), (0, .ref (ad o)), (1, .ref (ad l1)), (2, .int l2), (3, .int l3), (4, .long l4), (7, .long l7), (9, .int l9), (10, .int l10)]) hx hb d_Snk_putBlock_145 hl (k := 5) rfl rfl (by decide) rfl (fun ls hl => ?_)
    refine lv_goto (tgt := 56) hx hb d_Snk_putBlock_148 (by decide) ?_
    exact hrec56 ad NN cells slots o l1 l2 l3 l4 (l6 + 1) k17 n18 x19 H locs ls hNN hag hRc hRs fo fl1 hw hW hS (lv_sub hl [1, 2, 3, 4, 5, 0] rfl)
  · have hw := hw.2 c11
    refine lv_lload hx hb d_Snk_putBlock_97 (lv_at hl 6 rfl) ?_
    refine lv_aload_n hx hb d_Snk_putBlock_99 rfl (lv_at hl 1 rfl) ?_
    refine lv_iload hx hb d_Snk_putBlock_100 (lv_at hl 8 rfl) ?_
    obtain ⟨hi, hw⟩ := hw
    refine w_lald (o := l1) hx hb hK hW fl1.1 fl1.2 hi d_Snk_putBlock_102 ?_
    refine lv_aload_n hx hb d_Snk_putBlock_103 rfl (lv_at hl 1 rfl) ?_
    refine lv_iload hx hb d_Snk_putBlock_104 (lv_at hl 8 rfl) ?_
    refine lv_iconst (v := 1) hx hb d_Snk_putBlock_106 (by decide) ?_
    refine lv_isub hx hb d_Snk_putBlock_107 ?_
    obtain ⟨hi, hw⟩ := hw
    refine w_lald (o := l1) hx hb hK hW fl1.1 fl1.2 hi d_Snk_putBlock_108 ?_
    refine lv_lsub hx hb d_Snk_putBlock_109 ?_
    refine lv_lload hx hb d_Snk_putBlock_110 (lv_at hl 4 rfl) ?_
    refine lv_lsub hx hb d_Snk_putBlock_112 ?_
    refine lv_lor hx hb d_Snk_putBlock_113 ?_
    refine lv_topl (fun v20 ev20 => ?_)
    have hw := hw v20 ev20
    refine lv_lstore (lv' := [(7, .long v20), (0, .ref (ad o)), (1, .ref (ad l1)), (2, .int l2), (3, .int l3), (4, .long l4), (6, .int l6), (9, .int l9), (10, .int l10)]) hx hb d_Snk_putBlock_114 hl (by decide) rfl (fun ls hl => ?_)
    refine lv_iinc (v := (l10 + 1)) (lv' := [(10, .int (l10 + 1)), (7, .long v20), (0, .ref (ad o)), (1, .ref (ad l1)), (2, .int l2), (3, .int l3), (4, .long l4), (6, .int l6), (9, .int l9)]) hx hb d_Snk_putBlock_116 hl (k := 8) rfl rfl (by decide) rfl (fun ls hl => ?_)
    refine lv_goto (tgt := 90) hx hb d_Snk_putBlock_119 (by decide) ?_
    exact hrec90 ad NN cells slots o l1 l2 l3 l4 l6 v20 l9 (l10 + 1) kb nb x H locs ls hNN hag hRc hRs fo fl1 hw hW hS (lv_sub hl [2, 3, 4, 5, 6, 7, 1, 8, 0] rfl)
set_option maxHeartbeats 4000000 in
set_option maxRecDepth 100000 in
theorem tl_Snk_putBlock_90 {p : Program} {l : Launch} {e : Env} {R : Room} {s : State} {m : MethodId} {args : Array Value} {below : List Frame} {meth : Method} {c : Code} {Q : State → Prop} {dC : Nat → ClassId} {dI : Nat → Nat → Nat} {cI cB cJ cZ : ClassId} {A : Nat → Prop} {E : Heap} {tM tC : Nat} {kK kV : Nat → Nat} {ad0 : Nat → Nat} {NN0 : Nat} {post : St → Prop} {rec56 : Nat → Nat → Int32 → Int32 → Int64 → Int32 → Nat → Nat → St → Prop} (hx : p.tables.exec = Jvm.exec) (hb : c.code = b_Snk_putBlock) (hml : c.maxLocals = 11) (hown : s.vm.findClass R_Snk = some m.cls) (hT : ∀ w ∈ TG, w.before args s = true) (hK : va_K (dC, dI) CL (TY cI cB cJ cZ) s) (hN : NW s) (hA : ∀ q : Nat, s.heap.size ≤ q → A q) (hRf : 4 ≤ R.frames) (hRl : 247 ≤ R.locals) (hE : CE E tM tC kK kV A s) (hret : ∀ (ad : Nat → Nat) (NN cells slots : Nat) (x : St) (H : Heap) (locs : List Loc) (pc : Nat) (ls : Array Slot), decode b_Snk_putBlock pc = .ok (.return_, 1) → (NN0 ≤ NN ∧ ∀ o : Nat, o < NN0 → ad o = ad0 o) → cells ≤ R.cells → slots ≤ R.slots → post x → Wd dC dI cI cB cJ cZ ad stC kcC NN A x H → va_S A s.heap H locs → W p l e R s m args below meth c H locs cells slots Q (F0 m pc ls [])) (hrec56 : ∀ (ad : Nat → Nat) (NN cells slots : Nat) (o : Nat) (l1 : Nat) (l2 : Int32) (l3 : Int32) (l4 : Int64) (l6 : Int32) (kb : Nat) (nb : Nat) (x : St) (H : Heap) (locs : List Loc) (ls : Array Slot), (152 ≤ NN) → (NN0 ≤ NN ∧ ∀ o : Nat, o < NN0 → ad o = ad0 o) → (cells + kb ≤ R.cells) → (slots + nb ≤ R.slots) → (o < NN ∧ kcC o = 1) → (l1 < NN ∧ kcC l1 = 22) → rec56 o l1 l2 l3 l4 l6 kb nb x → Wd dC dI cI cB cJ cZ ad stC kcC NN A x H → va_S A s.heap H locs → lv_has ls 11 [(0, .ref (ad o)), (1, .ref (ad l1)), (2, .int l2), (3, .int l3), (4, .long l4), (6, .int l6)] → W p l e R s m args below meth c H locs cells slots Q (F0 m 56 ls [])) : ∀ n : Nat, ∀ (ad : Nat → Nat) (NN cells slots : Nat) (o : Nat) (l1 : Nat) (l2 : Int32) (l3 : Int32) (l4 : Int64) (l6 : Int32) (l7 : Int64) (l9 : Int32) (l10 : Int32) (kb : Nat) (nb : Nat) (x : St) (H : Heap) (locs : List Loc) (ls : Array Slot), (152 ≤ NN) → (NN0 ≤ NN ∧ ∀ o : Nat, o < NN0 → ad o = ad0 o) → (cells + kb ≤ R.cells) → (slots + nb ≤ R.slots) → (o < NN ∧ kcC o = 1) → (l1 < NN ∧ kcC l1 = 22) → wl_Snk_putBlock_90 post rec56 n o l1 l2 l3 l4 l6 l7 l9 l10 kb nb x → Wd dC dI cI cB cJ cZ ad stC kcC NN A x H → va_S A s.heap H locs → lv_has ls 11 [(0, .ref (ad o)), (1, .ref (ad l1)), (2, .int l2), (3, .int l3), (4, .long l4), (6, .int l6), (7, .long l7), (9, .int l9), (10, .int l10)] → W p l e R s m args below meth c H locs cells slots Q (F0 m 90 ls []) := by
  intro n
  induction n with
  | zero => intro ad NN cells slots o l1 l2 l3 l4 l6 l7 l9 l10 kb nb x H locs ls hNN hag hRc hRs fo fl1 hw; exact hw.elim
  | succ n ih => intro ad NN cells slots o l1 l2 l3 l4 l6 l7 l9 l10 kb nb x H locs ls hNN hag hRc hRs fo fl1 hw hW hS hl; exact t_Snk_putBlock_90 hx hb hml hown hT hK hN hA hRf hRl hE hret hrec56 ih ad NN cells slots o l1 l2 l3 l4 l6 l7 l9 l10 kb nb x H locs ls hNN hag hRc hRs fo fl1 hw hW hS hl
set_option maxRecDepth 100000 in
set_option maxHeartbeats 4000000 in
set_option maxRecDepth 100000 in
theorem t_Snk_putBlock_56 {p : Program} {l : Launch} {e : Env} {R : Room} {s : State} {m : MethodId} {args : Array Value} {below : List Frame} {meth : Method} {c : Code} {Q : State → Prop} {dC : Nat → ClassId} {dI : Nat → Nat → Nat} {cI cB cJ cZ : ClassId} {A : Nat → Prop} {E : Heap} {tM tC : Nat} {kK kV : Nat → Nat} {ad0 : Nat → Nat} {NN0 : Nat} {post : St → Prop} {rec56 : Nat → Nat → Int32 → Int32 → Int64 → Int32 → Nat → Nat → St → Prop} (hx : p.tables.exec = Jvm.exec) (hb : c.code = b_Snk_putBlock) (hml : c.maxLocals = 11) (hown : s.vm.findClass R_Snk = some m.cls) (hT : ∀ w ∈ TG, w.before args s = true) (hK : va_K (dC, dI) CL (TY cI cB cJ cZ) s) (hN : NW s) (hA : ∀ q : Nat, s.heap.size ≤ q → A q) (hRf : 4 ≤ R.frames) (hRl : 247 ≤ R.locals) (hE : CE E tM tC kK kV A s) (hret : ∀ (ad : Nat → Nat) (NN cells slots : Nat) (x : St) (H : Heap) (locs : List Loc) (pc : Nat) (ls : Array Slot), decode b_Snk_putBlock pc = .ok (.return_, 1) → (NN0 ≤ NN ∧ ∀ o : Nat, o < NN0 → ad o = ad0 o) → cells ≤ R.cells → slots ≤ R.slots → post x → Wd dC dI cI cB cJ cZ ad stC kcC NN A x H → va_S A s.heap H locs → W p l e R s m args below meth c H locs cells slots Q (F0 m pc ls [])) (hrec56 : ∀ (ad : Nat → Nat) (NN cells slots : Nat) (o : Nat) (l1 : Nat) (l2 : Int32) (l3 : Int32) (l4 : Int64) (l6 : Int32) (kb : Nat) (nb : Nat) (x : St) (H : Heap) (locs : List Loc) (ls : Array Slot), (152 ≤ NN) → (NN0 ≤ NN ∧ ∀ o : Nat, o < NN0 → ad o = ad0 o) → (cells + kb ≤ R.cells) → (slots + nb ≤ R.slots) → (o < NN ∧ kcC o = 1) → (l1 < NN ∧ kcC l1 = 22) → rec56 o l1 l2 l3 l4 l6 kb nb x → Wd dC dI cI cB cJ cZ ad stC kcC NN A x H → va_S A s.heap H locs → lv_has ls 11 [(0, .ref (ad o)), (1, .ref (ad l1)), (2, .int l2), (3, .int l3), (4, .long l4), (6, .int l6)] → W p l e R s m args below meth c H locs cells slots Q (F0 m 56 ls [])) : ∀ (ad : Nat → Nat) (NN cells slots : Nat) (o : Nat) (l1 : Nat) (l2 : Int32) (l3 : Int32) (l4 : Int64) (l6 : Int32) (kb : Nat) (nb : Nat) (x : St) (H : Heap) (locs : List Loc) (ls : Array Slot), (152 ≤ NN) → (NN0 ≤ NN ∧ ∀ o : Nat, o < NN0 → ad o = ad0 o) → (cells + kb ≤ R.cells) → (slots + nb ≤ R.slots) → (o < NN ∧ kcC o = 1) → (l1 < NN ∧ kcC l1 = 22) → j_Snk_putBlock_56 post rec56 o l1 l2 l3 l4 l6 kb nb x → Wd dC dI cI cB cJ cZ ad stC kcC NN A x H → va_S A s.heap H locs → lv_has ls 11 [(0, .ref (ad o)), (1, .ref (ad l1)), (2, .int l2), (3, .int l3), (4, .long l4), (6, .int l6)] → W p l e R s m args below meth c H locs cells slots Q (F0 m 56 ls []) := by
  intro ad NN cells slots o l1 l2 l3 l4 l6 kb nb x H locs ls hNN hag hRc hRs fo fl1 hw hW hS hl
  unfold j_Snk_putBlock_56 at hw
  refine lv_iload hx hb d_Snk_putBlock_56 (lv_at hl 5 rfl) ?_
  refine lv_iconst (v := 4) hx hb d_Snk_putBlock_58 (by decide) ?_
  refine lv_icmp_ge (tgt := 151) hx hb d_Snk_putBlock_59 (by decide) (fun c21 => ?_) (fun c21 => ?_)
  · have hw := hw.1 c21
    refine lv_iconst (v := 0) hx hb d_Snk_putBlock_151 (by decide) ?_
    refine lv_istore (lv' := [(6, .int 0), (0, .ref (ad o)), (1, .ref (ad l1)), (2, .int l2), (3, .int l3), (4, .long l4)]) hx hb d_Snk_putBlock_152 hl (by decide) rfl (fun ls hl => ?_)
    obtain ⟨n, hw⟩ := hw
    exact tl_Snk_putBlock_154 hx hb hml hown hT hK hN hA hRf hRl hE hret  n ad NN cells slots o l1 l2 l3 l4 0 kb nb x H locs ls hNN hag hRc hRs fo fl1 hw hW hS (lv_sub hl [1, 2, 3, 4, 5, 0] rfl)
  · have hw := hw.2 c21
    refine lv_lconst (v := 0) hx hb d_Snk_putBlock_62 (by decide) ?_
    refine lv_lstore (lv' := [(7, .long 0), (0, .ref (ad o)), (1, .ref (ad l1)), (2, .int l2), (3, .int l3), (4, .long l4), (6, .int l6)]) hx hb d_Snk_putBlock_63 hl (by decide) rfl (fun ls hl => ?_)
    refine lv_iload_n hx hb d_Snk_putBlock_65 rfl (lv_at hl 3 rfl) ?_
    refine lv_bipush (v := 16) hx hb d_Snk_putBlock_66 (by decide) ?_
    refine lv_iload hx hb d_Snk_putBlock_68 (lv_at hl 6 rfl) ?_
    refine lv_imul hx hb d_Snk_putBlock_70 ?_
    refine lv_iadd hx hb d_Snk_putBlock_71 ?_
    refine lv_bipush (v := 16) hx hb d_Snk_putBlock_72 (by decide) ?_
    refine lv_iadd hx hb d_Snk_putBlock_74 ?_
    refine lv_iload_n hx hb d_Snk_putBlock_75 rfl (lv_at hl 4 rfl) ?_
    refine va_mmin hx hb (hml.trans hl.1.symm) hown (hT _ w_1_37) (hT _ w_1_38) (hT _ w_1_3) (hT _ w_1_39) (Nat.le_trans (by decide) hRf) (Nat.le_trans (Nat.le_of_ble_eq_true rfl) hRl) (Nat.le_trans (Nat.le_add_right _ _) hRc) (Nat.le_trans (Nat.le_add_right _ _) hRs) d_Snk_putBlock_76 ?_
    refine lv_topi (fun v22 ev22 => ?_)
    have hw := hw v22 ev22
    refine lv_istore (lv' := [(9, .int v22), (7, .long 0), (0, .ref (ad o)), (1, .ref (ad l1)), (2, .int l2), (3, .int l3), (4, .long l4), (6, .int l6)]) hx hb d_Snk_putBlock_79 hl (by decide) rfl (fun ls hl => ?_)
    refine lv_iload_n hx hb d_Snk_putBlock_81 rfl (lv_at hl 4 rfl) ?_
    refine lv_bipush (v := 16) hx hb d_Snk_putBlock_82 (by decide) ?_
    refine lv_iload hx hb d_Snk_putBlock_84 (lv_at hl 7 rfl) ?_
    refine lv_imul hx hb d_Snk_putBlock_86 ?_
    refine lv_iadd hx hb d_Snk_putBlock_87 ?_
    refine lv_topi (fun v23 ev23 => ?_)
    have hw := hw v23 ev23
    refine lv_istore (lv' := [(10, .int v23), (9, .int v22), (7, .long 0), (0, .ref (ad o)), (1, .ref (ad l1)), (2, .int l2), (3, .int l3), (4, .long l4), (6, .int l6)]) hx hb d_Snk_putBlock_88 hl (by decide) rfl (fun ls hl => ?_)
    obtain ⟨n, hw⟩ := hw
    exact tl_Snk_putBlock_90 hx hb hml hown hT hK hN hA hRf hRl hE hret hrec56 n ad NN cells slots o l1 l2 l3 l4 l6 0 v22 v23 kb nb x H locs ls hNN hag hRc hRs fo fl1 hw hW hS (lv_sub hl [3, 4, 5, 6, 7, 8, 2, 1, 0] rfl)
set_option maxHeartbeats 4000000 in
set_option maxRecDepth 100000 in
theorem tl_Snk_putBlock_56 {p : Program} {l : Launch} {e : Env} {R : Room} {s : State} {m : MethodId} {args : Array Value} {below : List Frame} {meth : Method} {c : Code} {Q : State → Prop} {dC : Nat → ClassId} {dI : Nat → Nat → Nat} {cI cB cJ cZ : ClassId} {A : Nat → Prop} {E : Heap} {tM tC : Nat} {kK kV : Nat → Nat} {ad0 : Nat → Nat} {NN0 : Nat} {post : St → Prop} (hx : p.tables.exec = Jvm.exec) (hb : c.code = b_Snk_putBlock) (hml : c.maxLocals = 11) (hown : s.vm.findClass R_Snk = some m.cls) (hT : ∀ w ∈ TG, w.before args s = true) (hK : va_K (dC, dI) CL (TY cI cB cJ cZ) s) (hN : NW s) (hA : ∀ q : Nat, s.heap.size ≤ q → A q) (hRf : 4 ≤ R.frames) (hRl : 247 ≤ R.locals) (hE : CE E tM tC kK kV A s) (hret : ∀ (ad : Nat → Nat) (NN cells slots : Nat) (x : St) (H : Heap) (locs : List Loc) (pc : Nat) (ls : Array Slot), decode b_Snk_putBlock pc = .ok (.return_, 1) → (NN0 ≤ NN ∧ ∀ o : Nat, o < NN0 → ad o = ad0 o) → cells ≤ R.cells → slots ≤ R.slots → post x → Wd dC dI cI cB cJ cZ ad stC kcC NN A x H → va_S A s.heap H locs → W p l e R s m args below meth c H locs cells slots Q (F0 m pc ls []))  : ∀ n : Nat, ∀ (ad : Nat → Nat) (NN cells slots : Nat) (o : Nat) (l1 : Nat) (l2 : Int32) (l3 : Int32) (l4 : Int64) (l6 : Int32) (kb : Nat) (nb : Nat) (x : St) (H : Heap) (locs : List Loc) (ls : Array Slot), (152 ≤ NN) → (NN0 ≤ NN ∧ ∀ o : Nat, o < NN0 → ad o = ad0 o) → (cells + kb ≤ R.cells) → (slots + nb ≤ R.slots) → (o < NN ∧ kcC o = 1) → (l1 < NN ∧ kcC l1 = 22) → wl_Snk_putBlock_56 post n o l1 l2 l3 l4 l6 kb nb x → Wd dC dI cI cB cJ cZ ad stC kcC NN A x H → va_S A s.heap H locs → lv_has ls 11 [(0, .ref (ad o)), (1, .ref (ad l1)), (2, .int l2), (3, .int l3), (4, .long l4), (6, .int l6)] → W p l e R s m args below meth c H locs cells slots Q (F0 m 56 ls []) := by
  intro n
  induction n with
  | zero => intro ad NN cells slots o l1 l2 l3 l4 l6 kb nb x H locs ls hNN hag hRc hRs fo fl1 hw; exact hw.elim
  | succ n ih => intro ad NN cells slots o l1 l2 l3 l4 l6 kb nb x H locs ls hNN hag hRc hRs fo fl1 hw hW hS hl; exact t_Snk_putBlock_56 hx hb hml hown hT hK hN hA hRf hRl hE hret  ih ad NN cells slots o l1 l2 l3 l4 l6 kb nb x H locs ls hNN hag hRc hRs fo fl1 hw hW hS hl
set_option maxRecDepth 100000 in
set_option maxHeartbeats 4000000 in
set_option maxRecDepth 100000 in
theorem t_Snk_putBlock_14 {p : Program} {l : Launch} {e : Env} {R : Room} {s : State} {m : MethodId} {args : Array Value} {below : List Frame} {meth : Method} {c : Code} {Q : State → Prop} {dC : Nat → ClassId} {dI : Nat → Nat → Nat} {cI cB cJ cZ : ClassId} {A : Nat → Prop} {E : Heap} {tM tC : Nat} {kK kV : Nat → Nat} {ad0 : Nat → Nat} {NN0 : Nat} {post : St → Prop} {rec14 : Nat → Nat → Int32 → Int32 → Int64 → Int32 → Nat → Nat → St → Prop} (hx : p.tables.exec = Jvm.exec) (hb : c.code = b_Snk_putBlock) (hml : c.maxLocals = 11) (hown : s.vm.findClass R_Snk = some m.cls) (hT : ∀ w ∈ TG, w.before args s = true) (hK : va_K (dC, dI) CL (TY cI cB cJ cZ) s) (hN : NW s) (hA : ∀ q : Nat, s.heap.size ≤ q → A q) (hRf : 4 ≤ R.frames) (hRl : 247 ≤ R.locals) (hE : CE E tM tC kK kV A s) (hret : ∀ (ad : Nat → Nat) (NN cells slots : Nat) (x : St) (H : Heap) (locs : List Loc) (pc : Nat) (ls : Array Slot), decode b_Snk_putBlock pc = .ok (.return_, 1) → (NN0 ≤ NN ∧ ∀ o : Nat, o < NN0 → ad o = ad0 o) → cells ≤ R.cells → slots ≤ R.slots → post x → Wd dC dI cI cB cJ cZ ad stC kcC NN A x H → va_S A s.heap H locs → W p l e R s m args below meth c H locs cells slots Q (F0 m pc ls [])) (hrec14 : ∀ (ad : Nat → Nat) (NN cells slots : Nat) (o : Nat) (l1 : Nat) (l2 : Int32) (l3 : Int32) (l4 : Int64) (l6 : Int32) (kb : Nat) (nb : Nat) (x : St) (H : Heap) (locs : List Loc) (ls : Array Slot), (152 ≤ NN) → (NN0 ≤ NN ∧ ∀ o : Nat, o < NN0 → ad o = ad0 o) → (cells + kb ≤ R.cells) → (slots + nb ≤ R.slots) → (o < NN ∧ kcC o = 1) → (l1 < NN ∧ kcC l1 = 22) → rec14 o l1 l2 l3 l4 l6 kb nb x → Wd dC dI cI cB cJ cZ ad stC kcC NN A x H → va_S A s.heap H locs → lv_has ls 11 [(0, .ref (ad o)), (1, .ref (ad l1)), (2, .int l2), (3, .int l3), (4, .long l4), (6, .int l6)] → W p l e R s m args below meth c H locs cells slots Q (F0 m 14 ls [])) : ∀ (ad : Nat → Nat) (NN cells slots : Nat) (o : Nat) (l1 : Nat) (l2 : Int32) (l3 : Int32) (l4 : Int64) (l6 : Int32) (kb : Nat) (nb : Nat) (x : St) (H : Heap) (locs : List Loc) (ls : Array Slot), (152 ≤ NN) → (NN0 ≤ NN ∧ ∀ o : Nat, o < NN0 → ad o = ad0 o) → (cells + kb ≤ R.cells) → (slots + nb ≤ R.slots) → (o < NN ∧ kcC o = 1) → (l1 < NN ∧ kcC l1 = 22) → j_Snk_putBlock_14 post rec14 o l1 l2 l3 l4 l6 kb nb x → Wd dC dI cI cB cJ cZ ad stC kcC NN A x H → va_S A s.heap H locs → lv_has ls 11 [(0, .ref (ad o)), (1, .ref (ad l1)), (2, .int l2), (3, .int l3), (4, .long l4), (6, .int l6)] → W p l e R s m args below meth c H locs cells slots Q (F0 m 14 ls []) := by
  intro ad NN cells slots o l1 l2 l3 l4 l6 kb nb x H locs ls hNN hag hRc hRs fo fl1 hw hW hS hl
  unfold j_Snk_putBlock_14 at hw
  refine lv_iload hx hb d_Snk_putBlock_14 (lv_at hl 5 rfl) ?_
  refine lv_iload_n hx hb d_Snk_putBlock_16 rfl (lv_at hl 3 rfl) ?_
  refine lv_icmp_ge (tgt := 44) hx hb d_Snk_putBlock_17 (by decide) (fun c24 => ?_) (fun c24 => ?_)
  · have hw := hw.1 c24
    refine lv_aload_n hx hb d_Snk_putBlock_44 rfl (lv_at hl 0 rfl) ?_
    refine lv_lload hx hb d_Snk_putBlock_45 (lv_at hl 4 rfl) ?_
    have hF := hW.free hS hA
    refine va_calll (va_runSN (As := [.long l4]) (rest := [.ref (ad o)]) ⟨hx, hb, hml, hown, hT⟩ (k_V_zigzag l dC dI cI cB cJ cZ ad NN E tM tC kK kV hNN H.size l4 x  hw) ⟨va_cnB 1 hT (gwt_in w_6_8) rfl rfl rfl (hN _ wn_6_6 rfl) (hT _ w_1_1) (by decide +kernel) ⟨Nat.le_trans (Nat.le_of_ble_eq_true rfl) hRf, Nat.le_trans (Nat.le_of_ble_eq_true rfl) hRl⟩, hT _ w_6_7, trivial⟩ ⟨PVc.blind, PVc.at _ hW hK hN hE hS hF⟩ rfl rfl hl.1 rfl (lv_room (Nat.le_of_ble_eq_true rfl)) d_Snk_putBlock_47 ⟨(Nat.le_trans (Nat.le_add_right _ _) hRc), (Nat.le_trans (Nat.le_add_right _ _) hRs)⟩) hS (fun q _ h => hF q h) hF (fun r26 x25 t H locs ht hvm hw hB hz1 hk1 hS => ?_)
    have hW := Wd.back hB ht hF
    clear hB ht hF hz1 hk1 hvm
    obtain ⟨k27, n28, k29, n30, ek27, en28, hw⟩ := hw
    have hF := hW.free hS hA
    refine va_callv (va_runV (C := R_Snk) (As := [.long r26]) (rest := []) ⟨hx, hb, hml, hown, hT⟩ (k_Snk_putVarint l dC dI cI cB cJ cZ ad NN E tM tC kK kV hNN H.size o r26 k27 n28 x25 fo hw) ⟨callB_of 1 hT (gwt_in w_5_143) rfl rfl rfl (hT _ w_1_2) (hT _ w_5_180) (by decide +kernel) ⟨Nat.le_trans (Nat.le_of_ble_eq_true rfl) hRf, Nat.le_trans (Nat.le_of_ble_eq_true rfl) hRl⟩, hT _ w_5_141, hT _ w_5_142⟩ ⟨PVc.blind, va_recv hK hW.1 (ci := 1) (q0 := o) rfl (pic_obj fo.1 fo.2 (by decide)), PVc.at _ hW hK hN hE hS hF⟩ rfl rfl hl.1 rfl (lv_room (Nat.le_of_ble_eq_true rfl)) d_Snk_putBlock_50 ⟨show cells + k27 ≤ R.cells by omega, show slots + n28 ≤ R.slots by omega⟩) hS (fun q _ h => hF q h) hF (fun  x31 t H locs ht hvm hw hB hz1 hk1 hS => ?_)
    obtain ⟨x31, ad, NN⟩ := x31
    obtain ⟨hB, hle, hg⟩ := hB
    try dsimp only at hw hB hle hg
    have hW := Wd.back hB ht hF
    rw [← hg o fo.1] at hl
    rw [← hg l1 fl1.1] at hl
    have fl1 : l1 < NN ∧ kcC l1 = 22 := ⟨Nat.lt_of_lt_of_le fl1.1 hle, fl1.2⟩
    have fo : o < NN ∧ kcC o = 1 := ⟨Nat.lt_of_lt_of_le fo.1 hle, fo.2⟩
    have hag : NN0 ≤ NN ∧ ∀ o : Nat, o < NN0 → ad o = ad0 o := ⟨Nat.le_trans hag.1 hle, fun o h => (hg o (Nat.lt_of_lt_of_le h hag.1)).trans (hag.2 o h)⟩
    have hNN : 152 ≤ NN := Nat.le_trans hNN hle
    clear hg hle
    obtain ⟨cells, ec⟩ : ∃ z, z = cells + k27 := ⟨_, rfl⟩
    obtain ⟨slots, es⟩ : ∃ z, z = slots + n28 := ⟨_, rfl⟩
    first | rw [← ec, ← es] | rw [Nat.add_zero, Nat.add_zero, ← ec, ← es]
    have hRc : cells + k29 ≤ R.cells := by omega
    have hRs : slots + n30 ≤ R.slots := by omega
    clear ec es hB ht hF hz1 hk1 hvm ek27 en28
    refine lv_iconst (v := 0) hx hb d_Snk_putBlock_53 (by decide) ?_
    refine lv_istore (lv' := [(6, .int 0), (0, .ref (ad o)), (1, .ref (ad l1)), (2, .int l2), (3, .int l3), (4, .long l4)]) hx hb d_Snk_putBlock_54 hl (by decide) rfl (fun ls hl => ?_)
    obtain ⟨n, hw⟩ := hw
    exact tl_Snk_putBlock_56 hx hb hml hown hT hK hN hA hRf hRl hE hret  n ad NN cells slots o l1 l2 l3 l4 0 k29 n30 x31 H locs ls hNN hag hRc hRs fo fl1 hw hW hS (lv_sub hl [1, 2, 3, 4, 5, 0] rfl)
  · have hw := hw.2 c24
    refine lv_lload hx hb d_Snk_putBlock_20 (lv_at hl 4 rfl) ?_
    refine lv_aload_n hx hb d_Snk_putBlock_22 rfl (lv_at hl 1 rfl) ?_
    refine lv_iload hx hb d_Snk_putBlock_23 (lv_at hl 5 rfl) ?_
    obtain ⟨hi, hw⟩ := hw
    refine w_lald (o := l1) hx hb hK hW fl1.1 fl1.2 hi d_Snk_putBlock_25 ?_
    refine lv_aload_n hx hb d_Snk_putBlock_26 rfl (lv_at hl 1 rfl) ?_
    refine lv_iload hx hb d_Snk_putBlock_27 (lv_at hl 5 rfl) ?_
    refine lv_iconst (v := 1) hx hb d_Snk_putBlock_29 (by decide) ?_
    refine lv_isub hx hb d_Snk_putBlock_30 ?_
    obtain ⟨hi, hw⟩ := hw
    refine w_lald (o := l1) hx hb hK hW fl1.1 fl1.2 hi d_Snk_putBlock_31 ?_
    refine lv_lsub hx hb d_Snk_putBlock_32 ?_
    refine va_mmin_long hx hb (hml.trans hl.1.symm) hown (hT _ w_6_13) (hT _ w_6_0) (hT _ w_1_3) (hT _ w_6_1) (Nat.le_trans (by decide) hRf) (Nat.le_trans (Nat.le_of_ble_eq_true rfl) hRl) (Nat.le_trans (Nat.le_add_right _ _) hRc) (Nat.le_trans (Nat.le_add_right _ _) hRs) d_Snk_putBlock_33 ?_
    refine lv_topl (fun v32 ev32 => ?_)
    have hw := hw v32 ev32
    refine lv_lstore (lv' := [(4, .long v32), (0, .ref (ad o)), (1, .ref (ad l1)), (2, .int l2), (3, .int l3), (6, .int l6)]) hx hb d_Snk_putBlock_36 hl (by decide) rfl (fun ls hl => ?_)
    refine lv_iinc (v := (l6 + 1)) (lv' := [(6, .int (l6 + 1)), (4, .long v32), (0, .ref (ad o)), (1, .ref (ad l1)), (2, .int l2), (3, .int l3)]) hx hb d_Snk_putBlock_38 hl (k := 5) rfl rfl (by decide) rfl (fun ls hl => ?_)
    refine lv_goto (tgt := 14) hx hb d_Snk_putBlock_41 (by decide) ?_
    exact hrec14 ad NN cells slots o l1 l2 l3 v32 (l6 + 1) kb nb x H locs ls hNN hag hRc hRs fo fl1 hw hW hS (lv_sub hl [2, 3, 4, 5, 1, 0] rfl)
set_option maxHeartbeats 4000000 in
set_option maxRecDepth 100000 in
theorem tl_Snk_putBlock_14 {p : Program} {l : Launch} {e : Env} {R : Room} {s : State} {m : MethodId} {args : Array Value} {below : List Frame} {meth : Method} {c : Code} {Q : State → Prop} {dC : Nat → ClassId} {dI : Nat → Nat → Nat} {cI cB cJ cZ : ClassId} {A : Nat → Prop} {E : Heap} {tM tC : Nat} {kK kV : Nat → Nat} {ad0 : Nat → Nat} {NN0 : Nat} {post : St → Prop} (hx : p.tables.exec = Jvm.exec) (hb : c.code = b_Snk_putBlock) (hml : c.maxLocals = 11) (hown : s.vm.findClass R_Snk = some m.cls) (hT : ∀ w ∈ TG, w.before args s = true) (hK : va_K (dC, dI) CL (TY cI cB cJ cZ) s) (hN : NW s) (hA : ∀ q : Nat, s.heap.size ≤ q → A q) (hRf : 4 ≤ R.frames) (hRl : 247 ≤ R.locals) (hE : CE E tM tC kK kV A s) (hret : ∀ (ad : Nat → Nat) (NN cells slots : Nat) (x : St) (H : Heap) (locs : List Loc) (pc : Nat) (ls : Array Slot), decode b_Snk_putBlock pc = .ok (.return_, 1) → (NN0 ≤ NN ∧ ∀ o : Nat, o < NN0 → ad o = ad0 o) → cells ≤ R.cells → slots ≤ R.slots → post x → Wd dC dI cI cB cJ cZ ad stC kcC NN A x H → va_S A s.heap H locs → W p l e R s m args below meth c H locs cells slots Q (F0 m pc ls []))  : ∀ n : Nat, ∀ (ad : Nat → Nat) (NN cells slots : Nat) (o : Nat) (l1 : Nat) (l2 : Int32) (l3 : Int32) (l4 : Int64) (l6 : Int32) (kb : Nat) (nb : Nat) (x : St) (H : Heap) (locs : List Loc) (ls : Array Slot), (152 ≤ NN) → (NN0 ≤ NN ∧ ∀ o : Nat, o < NN0 → ad o = ad0 o) → (cells + kb ≤ R.cells) → (slots + nb ≤ R.slots) → (o < NN ∧ kcC o = 1) → (l1 < NN ∧ kcC l1 = 22) → wl_Snk_putBlock_14 post n o l1 l2 l3 l4 l6 kb nb x → Wd dC dI cI cB cJ cZ ad stC kcC NN A x H → va_S A s.heap H locs → lv_has ls 11 [(0, .ref (ad o)), (1, .ref (ad l1)), (2, .int l2), (3, .int l3), (4, .long l4), (6, .int l6)] → W p l e R s m args below meth c H locs cells slots Q (F0 m 14 ls []) := by
  intro n
  induction n with
  | zero => intro ad NN cells slots o l1 l2 l3 l4 l6 kb nb x H locs ls hNN hag hRc hRs fo fl1 hw; exact hw.elim
  | succ n ih => intro ad NN cells slots o l1 l2 l3 l4 l6 kb nb x H locs ls hNN hag hRc hRs fo fl1 hw hW hS hl; exact t_Snk_putBlock_14 hx hb hml hown hT hK hN hA hRf hRl hE hret  ih ad NN cells slots o l1 l2 l3 l4 l6 kb nb x H locs ls hNN hag hRc hRs fo fl1 hw hW hS hl
set_option maxRecDepth 100000 in
set_option maxHeartbeats 4000000 in
set_option maxRecDepth 100000 in
theorem t_Snk_putBlock_e {p : Program} {l : Launch} {e : Env} {R : Room} {s : State} {m : MethodId} {args : Array Value} {below : List Frame} {meth : Method} {c : Code} {Q : State → Prop} {dC : Nat → ClassId} {dI : Nat → Nat → Nat} {cI cB cJ cZ : ClassId} {A : Nat → Prop} {E : Heap} {tM tC : Nat} {kK kV : Nat → Nat} {ad0 : Nat → Nat} {NN0 : Nat} {post : St → Prop} (hx : p.tables.exec = Jvm.exec) (hb : c.code = b_Snk_putBlock) (hml : c.maxLocals = 11) (hown : s.vm.findClass R_Snk = some m.cls) (hT : ∀ w ∈ TG, w.before args s = true) (hK : va_K (dC, dI) CL (TY cI cB cJ cZ) s) (hN : NW s) (hA : ∀ q : Nat, s.heap.size ≤ q → A q) (hRf : 4 ≤ R.frames) (hRl : 247 ≤ R.locals) (hE : CE E tM tC kK kV A s) (hret : ∀ (ad : Nat → Nat) (NN cells slots : Nat) (x : St) (H : Heap) (locs : List Loc) (pc : Nat) (ls : Array Slot), decode b_Snk_putBlock pc = .ok (.return_, 1) → (NN0 ≤ NN ∧ ∀ o : Nat, o < NN0 → ad o = ad0 o) → cells ≤ R.cells → slots ≤ R.slots → post x → Wd dC dI cI cB cJ cZ ad stC kcC NN A x H → va_S A s.heap H locs → W p l e R s m args below meth c H locs cells slots Q (F0 m pc ls [])) : ∀ (ad : Nat → Nat) (NN cells slots : Nat) (o : Nat) (l1 : Nat) (l2 : Int32) (l3 : Int32) (kb : Nat) (nb : Nat) (x : St) (H : Heap) (locs : List Loc) (ls : Array Slot), (152 ≤ NN) → (NN0 ≤ NN ∧ ∀ o : Nat, o < NN0 → ad o = ad0 o) → (cells + kb ≤ R.cells) → (slots + nb ≤ R.slots) → (o < NN ∧ kcC o = 1) → (l1 < NN ∧ kcC l1 = 22) → wp_Snk_putBlock post o l1 l2 l3 kb nb x → Wd dC dI cI cB cJ cZ ad stC kcC NN A x H → va_S A s.heap H locs → lv_has ls 11 [(0, .ref (ad o)), (1, .ref (ad l1)), (2, .int l2), (3, .int l3)] → W p l e R s m args below meth c H locs cells slots Q (F0 m 0 ls []) := by
  intro ad NN cells slots o l1 l2 l3 kb nb x H locs ls hNN hag hRc hRs fo fl1 hw hW hS hl
  unfold wp_Snk_putBlock at hw
  refine lv_aload_n hx hb d_Snk_putBlock_0 rfl (lv_at hl 1 rfl) ?_
  refine lv_iload_n hx hb d_Snk_putBlock_1 rfl (lv_at hl 2 rfl) ?_
  obtain ⟨hi, hw⟩ := hw
  refine w_lald (o := l1) hx hb hK hW fl1.1 fl1.2 hi d_Snk_putBlock_2 ?_
  refine lv_aload_n hx hb d_Snk_putBlock_3 rfl (lv_at hl 1 rfl) ?_
  refine lv_iload_n hx hb d_Snk_putBlock_4 rfl (lv_at hl 2 rfl) ?_
  refine lv_iconst (v := 1) hx hb d_Snk_putBlock_5 (by decide) ?_
  refine lv_isub hx hb d_Snk_putBlock_6 ?_
  obtain ⟨hi, hw⟩ := hw
  refine w_lald (o := l1) hx hb hK hW fl1.1 fl1.2 hi d_Snk_putBlock_7 ?_
  refine lv_lsub hx hb d_Snk_putBlock_8 ?_
  refine lv_topl (fun v33 ev33 => ?_)
  have hw := hw v33 ev33
  refine lv_lstore (lv' := [(4, .long v33), (0, .ref (ad o)), (1, .ref (ad l1)), (2, .int l2), (3, .int l3)]) hx hb d_Snk_putBlock_9 hl (by decide) rfl (fun ls hl => ?_)
  refine lv_iload_n hx hb d_Snk_putBlock_11 rfl (lv_at hl 3 rfl) ?_
  refine lv_istore (lv' := [(6, .int l2), (4, .long v33), (0, .ref (ad o)), (1, .ref (ad l1)), (2, .int l2), (3, .int l3)]) hx hb d_Snk_putBlock_12 hl (by decide) rfl (fun ls hl => ?_)
  obtain ⟨n, hw⟩ := hw
  exact tl_Snk_putBlock_14 hx hb hml hown hT hK hN hA hRf hRl hE hret  n ad NN cells slots o l1 l2 l3 v33 l2 kb nb x H locs ls hNN hag hRc hRs fo fl1 hw hW hS (lv_sub hl [2, 3, 4, 5, 1, 0] rfl)
set_option maxHeartbeats 4000000 in
set_option maxRecDepth 100000 in
theorem k_Snk_putBlock (l : Launch) (dC : Nat → ClassId) (dI : Nat → Nat → Nat) (cI cB cJ cZ : ClassId) (ad : Nat → Nat) (NN : Nat) (E : Heap) (tM tC : Nat) (kK kV : Nat → Nat) (hNN : 152 ≤ NN) (sz : Nat) (o : Nat) (l1 : Nat) (l2 : Int32) (l3 : Int32) (kb : Nat) (nb : Nat) (x : St) (fo : o < NN ∧ kcC o = 1) (fl1 : l1 < NN ∧ kcC l1 = 22) {post : St → Prop} (hw : wp_Snk_putBlock post o l1 l2 l3 kb nb x) : Met l y_Snk_putBlock (wsOf y_Snk_putBlock b_Snk_putBlock 11 (none)) ({ frames := 4, cells := kb, slots := nb, locals := 247 }) (va_Pc [.ref (ad o), .ref (ad l1), .int l2, .int l3] (PVc dC dI cI cB cJ cZ ad stC kcC NN E tM tC kK kV sz x)) (va_Qv (fun (u : St × (Nat → Nat) × Nat) => post u.1) (fun u t => Wd dC dI cI cB cJ cZ u.2.1 stC kcC u.2.2 (va_A (pic ad stC kcC NN cI cB cJ cZ x) sz) u.1 t.heap ∧ NN ≤ u.2.2 ∧ ∀ o : Nat, o < NN → u.2.1 o = ad o) (va_A (pic ad stC kcC NN cI cB cJ cZ x) sz)) kb nb (va_A (pic ad stC kcC NN cI cB cJ cZ x) sz) := by
  refine Met.ofW (cc := b_Snk_putBlock) (maxL := 11) (ret := none) (by decide) rfl ?_
  intro p e s m args below meth c s₁ B hml hv
  obtain ⟨rfl, ⟨hsz, hW0, hK, hN⟩, hE⟩ := hv
  have hx := B.exec
  have hb := B.bytes
  have hr := B.returns
  have hts := atoms_spec B.pre
  have hT : ∀ w ∈ TG, w.before _ s = true := fun w h => hts w (List.mem_cons_of_mem _ h)
  have hown : s.vm.findClass R_Snk = some m.cls := findClass_of_methodNamed B.named
  have hlocks := B.notSynchronized
  subst hsz
  have hW : Wd dC dI cI cB cJ cZ ad stC kcC NN (va_A (pic ad stC kcC NN cI cB cJ cZ x) s.heap.size) x s.heap := ⟨hW0.1, hW0.2.1.self (sz := s.heap.size), hW0.2.2⟩
  generalize hAe : va_A (pic ad stC kcC NN cI cB cJ cZ x) s.heap.size = A at hW hE ⊢
  have hA : ∀ q : Nat, s.heap.size ≤ q → A q := fun q h => by rw [← hAe]; exact Or.inr h
  have hS : va_S A s.heap s.heap [] := va_S.rf
  have hl := lv_entry ([.ref (ad o), .ref (ad l1), .int l2, .int l3]) (n := 11) (Nat.le_of_ble_eq_true rfl)
  rw [lg_entry_eq]
  generalize (lg_sl ([.ref (ad o), .ref (ad l1), .int l2, .int l3]) ++ List.replicate (11 - (lg_sl ([.ref (ad o), .ref (ad l1), .int l2, .int l3])).length) Slot.unset).toArray = ls at hl ⊢
  have hl : lv_has ls 11 [(0, .ref (ad o)), (1, .ref (ad l1)), (2, .int l2), (3, .int l3)] := hl
  exact t_Snk_putBlock_e hx hb hml hown hT hK hN hA (Nat.le_refl 4) (Nat.le_refl 247) hE (fun ad1 NN1 cells slots x1 H locs pc ls hd hag hc hs hp hW hS => W.widen (k := kb) (n := nb) hc hs (W.vret hx hb hr (fun t ht hM => ⟨⟨(x1, ad1, NN1), rfl, hp, Wd.back hW ht.symm (fun _ z => z), hag.1, hag.2⟩, hS.F ht⟩) hS.2.2 hd hlocks))  ad NN 0 0 o l1 l2 l3 kb nb x _ _ ls hNN ⟨Nat.le_refl _, fun _ _ => rfl⟩ (Nat.le_of_eq (Nat.zero_add kb)) (Nat.le_of_eq (Nat.zero_add nb)) fo fl1 hw hW hS hl
end
