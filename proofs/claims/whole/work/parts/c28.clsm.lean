theorem w_3_90 : (Jvm.Cond.fieldLink "StripedVault$Answer" (82 : Nat) "StripedVault$Query" "steps" "I") ∈ TG := tw_3 90 (by decide +kernel) (by decide +kernel)
theorem w_8_35 : (Jvm.Cond.methodLink "StripedVault$Answer" (162 : Nat) ({ cls := "StripedVault$Answer", name := "truthsThatCanBe", desc := "(I)I" } : Jvm.MethodName)) ∈ TG := tw_8 35 (by decide +kernel) (by decide +kernel)
theorem w_8_37 : (Jvm.Cond.instanceMethod ({ cls := "StripedVault$Answer", name := "truthsThatCanBe", desc := "(I)I" } : Jvm.MethodName)) ∈ TG := tw_8 37 (by decide +kernel) (by decide +kernel)
theorem w_8_38 : (Jvm.Cond.code ({ cls := "StripedVault$Answer", name := "truthsThatCanBe", desc := "(I)I" } : Jvm.MethodName) prog_2_method_25_code (15 : Nat) (Option.some Jvm.ClassFile.FieldType.int)) ∈ TG := tw_8 38 (by decide +kernel) (by decide +kernel)
theorem w_8_75 : (Jvm.Cond.methodLink "StripedVault$Answer" (165 : Nat) ({ cls := "StripedVault$Answer", name := "truthOfTest", desc := "(II)I" } : Jvm.MethodName)) ∈ TG := tw_8 75 (by decide +kernel) (by decide +kernel)
theorem w_8_77 : (Jvm.Cond.instanceMethod ({ cls := "StripedVault$Answer", name := "truthOfTest", desc := "(II)I" } : Jvm.MethodName)) ∈ TG := tw_8 77 (by decide +kernel) (by decide +kernel)
theorem w_8_78 : (Jvm.Cond.code ({ cls := "StripedVault$Answer", name := "truthOfTest", desc := "(II)I" } : Jvm.MethodName) prog_2_method_16_code (11 : Nat) (Option.some Jvm.ClassFile.FieldType.int)) ∈ TG := tw_8 78 (by decide +kernel) (by decide +kernel)
theorem w_8_79 : (Jvm.Cond.methodLink "StripedVault$Answer" (168 : Nat) ({ cls := "StripedVault$Answer", name := "turned", desc := "(I)I" } : Jvm.MethodName)) ∈ TG := tw_8 79 (by decide +kernel) (by decide +kernel)
theorem w_8_80 : (Jvm.Cond.static ({ cls := "StripedVault$Answer", name := "turned", desc := "(I)I" } : Jvm.MethodName)) ∈ TG := tw_8 80 (by decide +kernel) (by decide +kernel)
theorem w_8_81 : (Jvm.Cond.code ({ cls := "StripedVault$Answer", name := "turned", desc := "(I)I" } : Jvm.MethodName) prog_2_method_14_code (1 : Nat) (Option.some Jvm.ClassFile.FieldType.int)) ∈ TG := tw_8 81 (by decide +kernel) (by decide +kernel)
theorem w_8_82 : (Jvm.Cond.methodLink "StripedVault$Answer" (171 : Nat) ({ cls := "StripedVault$Answer", name := "joined", desc := "(III)I" } : Jvm.MethodName)) ∈ TG := tw_8 82 (by decide +kernel) (by decide +kernel)
theorem w_8_83 : (Jvm.Cond.static ({ cls := "StripedVault$Answer", name := "joined", desc := "(III)I" } : Jvm.MethodName)) ∈ TG := tw_8 83 (by decide +kernel) (by decide +kernel)
theorem w_8_84 : (Jvm.Cond.code ({ cls := "StripedVault$Answer", name := "joined", desc := "(III)I" } : Jvm.MethodName) prog_2_method_15_code (7 : Nat) (Option.some Jvm.ClassFile.FieldType.int)) ∈ TG := tw_8 84 (by decide +kernel) (by decide +kernel)
theorem ws_89 : Cond.selects R_Ans y_Ans_truthsThatCanBe y_Ans_truthsThatCanBe ∈ TG := tw_s 89 (by decide +kernel) (by decide +kernel)
theorem ws_97 : Cond.selects R_Ans y_Ans_truthOfTest y_Ans_truthOfTest ∈ TG := tw_s 97 (by decide +kernel) (by decide +kernel)
theorem d_Ans_truthOfTest_72 : decode b_Ans_truthOfTest 72 = .ok (.if_icmp .ne 7, 3) := by decide +kernel
theorem d_Ans_truthOfTest_79 : decode b_Ans_truthOfTest 79 = .ok (.iconst 1, 1) := by decide +kernel
theorem d_Ans_truthOfTest_80 : decode b_Ans_truthOfTest 80 = .ok (.ireturn, 1) := by decide +kernel
theorem d_Ans_truthOfTest_75 : decode b_Ans_truthOfTest 75 = .ok (.iconst 2, 1) := by decide +kernel
theorem d_Ans_truthOfTest_76 : decode b_Ans_truthOfTest 76 = .ok (.goto 4, 3) := by decide +kernel
theorem d_Ans_truthOfTest_58 : decode b_Ans_truthOfTest 58 = .ok (.iload 6, 2) := by decide +kernel
theorem d_Ans_truthOfTest_60 : decode b_Ans_truthOfTest 60 = .ok (.iload 4, 2) := by decide +kernel
theorem d_Ans_truthOfTest_62 : decode b_Ans_truthOfTest 62 = .ok (.bipush 7, 2) := by decide +kernel
theorem d_Ans_truthOfTest_64 : decode b_Ans_truthOfTest 64 = .ok (.if_icmp .ne 7, 3) := by decide +kernel
theorem d_Ans_truthOfTest_71 : decode b_Ans_truthOfTest 71 = .ok (.iconst 0, 1) := by decide +kernel
theorem d_Ans_truthOfTest_67 : decode b_Ans_truthOfTest 67 = .ok (.iconst 1, 1) := by decide +kernel
theorem d_Ans_truthOfTest_68 : decode b_Ans_truthOfTest 68 = .ok (.goto 4, 3) := by decide +kernel
theorem d_Ans_truthOfTest_0 : decode b_Ans_truthOfTest 0 = .ok (.aload_n 0, 1) := by decide +kernel
theorem d_Ans_truthOfTest_1 : decode b_Ans_truthOfTest 1 = .ok (.getfield 57, 3) := by decide +kernel
theorem d_Ans_truthOfTest_4 : decode b_Ans_truthOfTest 4 = .ok (.getfield 175, 3) := by decide +kernel
theorem d_Ans_truthOfTest_7 : decode b_Ans_truthOfTest 7 = .ok (.iload_n 1, 1) := by decide +kernel
theorem d_Ans_truthOfTest_8 : decode b_Ans_truthOfTest 8 = .ok (.iaload, 1) := by decide +kernel
theorem d_Ans_truthOfTest_9 : decode b_Ans_truthOfTest 9 = .ok (.istore_n 3, 1) := by decide +kernel
theorem d_Ans_truthOfTest_10 : decode b_Ans_truthOfTest 10 = .ok (.aload_n 0, 1) := by decide +kernel
theorem d_Ans_truthOfTest_11 : decode b_Ans_truthOfTest 11 = .ok (.getfield 57, 3) := by decide +kernel
theorem d_Ans_truthOfTest_14 : decode b_Ans_truthOfTest 14 = .ok (.getfield 159, 3) := by decide +kernel
theorem d_Ans_truthOfTest_17 : decode b_Ans_truthOfTest 17 = .ok (.iload_n 1, 1) := by decide +kernel
theorem d_Ans_truthOfTest_18 : decode b_Ans_truthOfTest 18 = .ok (.iaload, 1) := by decide +kernel
theorem d_Ans_truthOfTest_19 : decode b_Ans_truthOfTest 19 = .ok (.istore 4, 2) := by decide +kernel
theorem d_Ans_truthOfTest_21 : decode b_Ans_truthOfTest 21 = .ok (.aload_n 0, 1) := by decide +kernel
theorem d_Ans_truthOfTest_22 : decode b_Ans_truthOfTest 22 = .ok (.getfield 53, 3) := by decide +kernel
theorem d_Ans_truthOfTest_25 : decode b_Ans_truthOfTest 25 = .ok (.iload_n 2, 1) := by decide +kernel
theorem d_Ans_truthOfTest_26 : decode b_Ans_truthOfTest 26 = .ok (.iload_n 3, 1) := by decide +kernel
theorem d_Ans_truthOfTest_27 : decode b_Ans_truthOfTest 27 = .ok (.invokevirtual 121, 3) := by decide +kernel
theorem d_Ans_truthOfTest_30 : decode b_Ans_truthOfTest 30 = .ok (.istore 5, 2) := by decide +kernel
theorem d_Ans_truthOfTest_32 : decode b_Ans_truthOfTest 32 = .ok (.aload_n 0, 1) := by decide +kernel
theorem d_Ans_truthOfTest_33 : decode b_Ans_truthOfTest 33 = .ok (.getfield 53, 3) := by decide +kernel
theorem d_Ans_truthOfTest_36 : decode b_Ans_truthOfTest 36 = .ok (.iload 5, 2) := by decide +kernel
theorem d_Ans_truthOfTest_38 : decode b_Ans_truthOfTest 38 = .ok (.iload_n 3, 1) := by decide +kernel
theorem d_Ans_truthOfTest_39 : decode b_Ans_truthOfTest 39 = .ok (.invokevirtual 125, 3) := by decide +kernel
theorem d_Ans_truthOfTest_42 : decode b_Ans_truthOfTest 42 = .ok (.istore 6, 2) := by decide +kernel
theorem d_Ans_truthOfTest_44 : decode b_Ans_truthOfTest 44 = .ok (.iload 4, 2) := by decide +kernel
theorem d_Ans_truthOfTest_46 : decode b_Ans_truthOfTest 46 = .ok (.bipush 6, 2) := by decide +kernel
theorem d_Ans_truthOfTest_48 : decode b_Ans_truthOfTest 48 = .ok (.if_icmp .eq 10, 3) := by decide +kernel
theorem d_Ans_truthOfTest_51 : decode b_Ans_truthOfTest 51 = .ok (.iload 4, 2) := by decide +kernel
theorem d_Ans_truthOfTest_53 : decode b_Ans_truthOfTest 53 = .ok (.bipush 7, 2) := by decide +kernel
theorem d_Ans_truthOfTest_55 : decode b_Ans_truthOfTest 55 = .ok (.if_icmp .ne 26, 3) := by decide +kernel
theorem d_Ans_truthOfTest_81 : decode b_Ans_truthOfTest 81 = .ok (.iload 6, 2) := by decide +kernel
theorem d_Ans_truthOfTest_83 : decode b_Ans_truthOfTest 83 = .ok (.ifCond .ne 5, 3) := by decide +kernel
theorem d_Ans_truthOfTest_88 : decode b_Ans_truthOfTest 88 = .ok (.aload_n 0, 1) := by decide +kernel
theorem d_Ans_truthOfTest_89 : decode b_Ans_truthOfTest 89 = .ok (.iload_n 3, 1) := by decide +kernel
theorem d_Ans_truthOfTest_90 : decode b_Ans_truthOfTest 90 = .ok (.invokevirtual 178, 3) := by decide +kernel
theorem d_Ans_truthOfTest_93 : decode b_Ans_truthOfTest 93 = .ok (.istore 7, 2) := by decide +kernel
theorem d_Ans_truthOfTest_95 : decode b_Ans_truthOfTest 95 = .ok (.aload_n 0, 1) := by decide +kernel
theorem d_Ans_truthOfTest_96 : decode b_Ans_truthOfTest 96 = .ok (.getfield 57, 3) := by decide +kernel
theorem d_Ans_truthOfTest_99 : decode b_Ans_truthOfTest 99 = .ok (.getfield 181, 3) := by decide +kernel
theorem d_Ans_truthOfTest_102 : decode b_Ans_truthOfTest 102 = .ok (.iload_n 1, 1) := by decide +kernel
theorem d_Ans_truthOfTest_103 : decode b_Ans_truthOfTest 103 = .ok (.iaload, 1) := by decide +kernel
theorem d_Ans_truthOfTest_104 : decode b_Ans_truthOfTest 104 = .ok (.ifCond .ne 85, 3) := by decide +kernel
theorem d_Ans_truthOfTest_189 : decode b_Ans_truthOfTest 189 = .ok (.iload 4, 2) := by decide +kernel
theorem d_Ans_truthOfTest_191 : decode b_Ans_truthOfTest 191 = .ok (.bipush 8, 2) := by decide +kernel
theorem d_Ans_truthOfTest_193 : decode b_Ans_truthOfTest 193 = .ok (.if_icmp .ne 29, 3) := by decide +kernel
theorem d_Ans_truthOfTest_222 : decode b_Ans_truthOfTest 222 = .ok (.aload_n 0, 1) := by decide +kernel
theorem d_Ans_truthOfTest_223 : decode b_Ans_truthOfTest 223 = .ok (.getfield 57, 3) := by decide +kernel
theorem d_Ans_truthOfTest_226 : decode b_Ans_truthOfTest 226 = .ok (.getfield 194, 3) := by decide +kernel
theorem d_Ans_truthOfTest_229 : decode b_Ans_truthOfTest 229 = .ok (.aload_n 0, 1) := by decide +kernel
theorem d_Ans_truthOfTest_230 : decode b_Ans_truthOfTest 230 = .ok (.getfield 57, 3) := by decide +kernel
theorem d_Ans_truthOfTest_233 : decode b_Ans_truthOfTest 233 = .ok (.getfield 184, 3) := by decide +kernel
theorem d_Ans_truthOfTest_236 : decode b_Ans_truthOfTest 236 = .ok (.iload_n 1, 1) := by decide +kernel
theorem d_Ans_truthOfTest_237 : decode b_Ans_truthOfTest 237 = .ok (.iaload, 1) := by decide +kernel
theorem d_Ans_truthOfTest_238 : decode b_Ans_truthOfTest 238 = .ok (.laload, 1) := by decide +kernel
theorem d_Ans_truthOfTest_239 : decode b_Ans_truthOfTest 239 = .ok (.lstore 8, 2) := by decide +kernel
theorem d_Ans_truthOfTest_241 : decode b_Ans_truthOfTest 241 = .ok (.iload 7, 2) := by decide +kernel
theorem d_Ans_truthOfTest_243 : decode b_Ans_truthOfTest 243 = .ok (.aload_n 0, 1) := by decide +kernel
theorem d_Ans_truthOfTest_244 : decode b_Ans_truthOfTest 244 = .ok (.getfield 53, 3) := by decide +kernel
theorem d_Ans_truthOfTest_247 : decode b_Ans_truthOfTest 247 = .ok (.getfield 144, 3) := by decide +kernel
theorem d_Ans_truthOfTest_250 : decode b_Ans_truthOfTest 250 = .ok (.aload_n 0, 1) := by decide +kernel
theorem d_Ans_truthOfTest_251 : decode b_Ans_truthOfTest 251 = .ok (.getfield 53, 3) := by decide +kernel
theorem d_Ans_truthOfTest_254 : decode b_Ans_truthOfTest 254 = .ok (.getfield 132, 3) := by decide +kernel
theorem d_Ans_truthOfTest_257 : decode b_Ans_truthOfTest 257 = .ok (.iload 5, 2) := by decide +kernel
theorem d_Ans_truthOfTest_259 : decode b_Ans_truthOfTest 259 = .ok (.laload, 1) := by decide +kernel
theorem d_Ans_truthOfTest_260 : decode b_Ans_truthOfTest 260 = .ok (.aload_n 0, 1) := by decide +kernel
theorem d_Ans_truthOfTest_261 : decode b_Ans_truthOfTest 261 = .ok (.getfield 57, 3) := by decide +kernel
theorem d_Ans_truthOfTest_264 : decode b_Ans_truthOfTest 264 = .ok (.getfield 197, 3) := by decide +kernel
theorem d_Ans_truthOfTest_267 : decode b_Ans_truthOfTest 267 = .ok (.lload 8, 2) := by decide +kernel
theorem d_Ans_truthOfTest_269 : decode b_Ans_truthOfTest 269 = .ok (.invokestatic 200, 3) := by decide +kernel
theorem d_Ans_truthOfTest_272 : decode b_Ans_truthOfTest 272 = .ok (.istore 10, 2) := by decide +kernel
theorem d_Ans_truthOfTest_274 : decode b_Ans_truthOfTest 274 = .ok (.iload 4, 2) := by decide +kernel
theorem d_Ans_truthOfTest_276 : decode b_Ans_truthOfTest 276 = .ok (.iload 10, 2) := by decide +kernel
theorem d_Ans_truthOfTest_278 : decode b_Ans_truthOfTest 278 = .ok (.invokestatic 187, 3) := by decide +kernel
theorem d_Ans_truthOfTest_281 : decode b_Ans_truthOfTest 281 = .ok (.ifCond .eq 7, 3) := by decide +kernel
theorem d_Ans_truthOfTest_288 : decode b_Ans_truthOfTest 288 = .ok (.iconst 1, 1) := by decide +kernel
theorem d_Ans_truthOfTest_289 : decode b_Ans_truthOfTest 289 = .ok (.ireturn, 1) := by decide +kernel
theorem d_Ans_truthOfTest_284 : decode b_Ans_truthOfTest 284 = .ok (.iconst 2, 1) := by decide +kernel
theorem d_Ans_truthOfTest_285 : decode b_Ans_truthOfTest 285 = .ok (.goto 4, 3) := by decide +kernel
theorem d_Ans_truthOfTest_196 : decode b_Ans_truthOfTest 196 = .ok (.aload_n 0, 1) := by decide +kernel
theorem d_Ans_truthOfTest_197 : decode b_Ans_truthOfTest 197 = .ok (.iload_n 1, 1) := by decide +kernel
theorem d_Ans_truthOfTest_198 : decode b_Ans_truthOfTest 198 = .ok (.iload 7, 2) := by decide +kernel
theorem d_Ans_truthOfTest_200 : decode b_Ans_truthOfTest 200 = .ok (.aload_n 0, 1) := by decide +kernel
theorem d_Ans_truthOfTest_201 : decode b_Ans_truthOfTest 201 = .ok (.getfield 53, 3) := by decide +kernel
theorem d_Ans_truthOfTest_204 : decode b_Ans_truthOfTest 204 = .ok (.getfield 132, 3) := by decide +kernel
theorem d_Ans_truthOfTest_207 : decode b_Ans_truthOfTest 207 = .ok (.iload 5, 2) := by decide +kernel
theorem d_Ans_truthOfTest_209 : decode b_Ans_truthOfTest 209 = .ok (.laload, 1) := by decide +kernel
theorem d_Ans_truthOfTest_210 : decode b_Ans_truthOfTest 210 = .ok (.invokevirtual 190, 3) := by decide +kernel
theorem d_Ans_truthOfTest_213 : decode b_Ans_truthOfTest 213 = .ok (.ifCond .eq 7, 3) := by decide +kernel
theorem d_Ans_truthOfTest_220 : decode b_Ans_truthOfTest 220 = .ok (.iconst 1, 1) := by decide +kernel
theorem d_Ans_truthOfTest_221 : decode b_Ans_truthOfTest 221 = .ok (.ireturn, 1) := by decide +kernel
theorem d_Ans_truthOfTest_216 : decode b_Ans_truthOfTest 216 = .ok (.iconst 2, 1) := by decide +kernel
theorem d_Ans_truthOfTest_217 : decode b_Ans_truthOfTest 217 = .ok (.goto 4, 3) := by decide +kernel
theorem d_Ans_truthOfTest_107 : decode b_Ans_truthOfTest 107 = .ok (.aload_n 0, 1) := by decide +kernel
theorem d_Ans_truthOfTest_108 : decode b_Ans_truthOfTest 108 = .ok (.getfield 57, 3) := by decide +kernel
theorem d_Ans_truthOfTest_111 : decode b_Ans_truthOfTest 111 = .ok (.getfield 184, 3) := by decide +kernel
theorem d_Ans_truthOfTest_114 : decode b_Ans_truthOfTest 114 = .ok (.iload_n 1, 1) := by decide +kernel
theorem d_Ans_truthOfTest_115 : decode b_Ans_truthOfTest 115 = .ok (.iaload, 1) := by decide +kernel
theorem d_Ans_truthOfTest_116 : decode b_Ans_truthOfTest 116 = .ok (.istore 8, 2) := by decide +kernel
theorem d_Ans_truthOfTest_118 : decode b_Ans_truthOfTest 118 = .ok (.aload_n 0, 1) := by decide +kernel
theorem d_Ans_truthOfTest_119 : decode b_Ans_truthOfTest 119 = .ok (.getfield 53, 3) := by decide +kernel
theorem d_Ans_truthOfTest_122 : decode b_Ans_truthOfTest 122 = .ok (.iload_n 2, 1) := by decide +kernel
theorem d_Ans_truthOfTest_123 : decode b_Ans_truthOfTest 123 = .ok (.iload 8, 2) := by decide +kernel
theorem d_Ans_truthOfTest_125 : decode b_Ans_truthOfTest 125 = .ok (.invokevirtual 121, 3) := by decide +kernel
theorem d_Ans_truthOfTest_128 : decode b_Ans_truthOfTest 128 = .ok (.istore 9, 2) := by decide +kernel
theorem d_Ans_truthOfTest_130 : decode b_Ans_truthOfTest 130 = .ok (.aload_n 0, 1) := by decide +kernel
theorem d_Ans_truthOfTest_131 : decode b_Ans_truthOfTest 131 = .ok (.getfield 53, 3) := by decide +kernel
theorem d_Ans_truthOfTest_134 : decode b_Ans_truthOfTest 134 = .ok (.iload 9, 2) := by decide +kernel
theorem d_Ans_truthOfTest_136 : decode b_Ans_truthOfTest 136 = .ok (.iload 8, 2) := by decide +kernel
theorem d_Ans_truthOfTest_138 : decode b_Ans_truthOfTest 138 = .ok (.invokevirtual 125, 3) := by decide +kernel
theorem d_Ans_truthOfTest_141 : decode b_Ans_truthOfTest 141 = .ok (.ifCond .ne 5, 3) := by decide +kernel
theorem d_Ans_truthOfTest_146 : decode b_Ans_truthOfTest 146 = .ok (.iload 4, 2) := by decide +kernel
theorem d_Ans_truthOfTest_148 : decode b_Ans_truthOfTest 148 = .ok (.aload_n 0, 1) := by decide +kernel
theorem d_Ans_truthOfTest_149 : decode b_Ans_truthOfTest 149 = .ok (.getfield 53, 3) := by decide +kernel
theorem d_Ans_truthOfTest_152 : decode b_Ans_truthOfTest 152 = .ok (.iload 7, 2) := by decide +kernel
theorem d_Ans_truthOfTest_154 : decode b_Ans_truthOfTest 154 = .ok (.aload_n 0, 1) := by decide +kernel
theorem d_Ans_truthOfTest_155 : decode b_Ans_truthOfTest 155 = .ok (.getfield 53, 3) := by decide +kernel
theorem d_Ans_truthOfTest_158 : decode b_Ans_truthOfTest 158 = .ok (.getfield 132, 3) := by decide +kernel
theorem d_Ans_truthOfTest_161 : decode b_Ans_truthOfTest 161 = .ok (.iload 5, 2) := by decide +kernel
theorem d_Ans_truthOfTest_163 : decode b_Ans_truthOfTest 163 = .ok (.laload, 1) := by decide +kernel
theorem d_Ans_truthOfTest_164 : decode b_Ans_truthOfTest 164 = .ok (.aload_n 0, 1) := by decide +kernel
theorem d_Ans_truthOfTest_165 : decode b_Ans_truthOfTest 165 = .ok (.getfield 53, 3) := by decide +kernel
theorem d_Ans_truthOfTest_168 : decode b_Ans_truthOfTest 168 = .ok (.getfield 132, 3) := by decide +kernel
theorem d_Ans_truthOfTest_171 : decode b_Ans_truthOfTest 171 = .ok (.iload 9, 2) := by decide +kernel
theorem d_Ans_truthOfTest_173 : decode b_Ans_truthOfTest 173 = .ok (.laload, 1) := by decide +kernel
theorem d_Ans_truthOfTest_174 : decode b_Ans_truthOfTest 174 = .ok (.invokevirtual 151, 3) := by decide +kernel
theorem d_Ans_truthOfTest_177 : decode b_Ans_truthOfTest 177 = .ok (.invokestatic 187, 3) := by decide +kernel
theorem d_Ans_truthOfTest_180 : decode b_Ans_truthOfTest 180 = .ok (.ifCond .eq 7, 3) := by decide +kernel
theorem d_Ans_truthOfTest_187 : decode b_Ans_truthOfTest 187 = .ok (.iconst 1, 1) := by decide +kernel
theorem d_Ans_truthOfTest_188 : decode b_Ans_truthOfTest 188 = .ok (.ireturn, 1) := by decide +kernel
theorem d_Ans_truthOfTest_183 : decode b_Ans_truthOfTest 183 = .ok (.iconst 2, 1) := by decide +kernel
theorem d_Ans_truthOfTest_184 : decode b_Ans_truthOfTest 184 = .ok (.goto 4, 3) := by decide +kernel
theorem d_Ans_truthOfTest_144 : decode b_Ans_truthOfTest 144 = .ok (.iconst 4, 1) := by decide +kernel
theorem d_Ans_truthOfTest_145 : decode b_Ans_truthOfTest 145 = .ok (.ireturn, 1) := by decide +kernel
theorem d_Ans_truthOfTest_86 : decode b_Ans_truthOfTest 86 = .ok (.iconst 4, 1) := by decide +kernel
theorem d_Ans_truthOfTest_87 : decode b_Ans_truthOfTest 87 = .ok (.ireturn, 1) := by decide +kernel
theorem d_Ans_turned_0 : decode b_Ans_turned 0 = .ok (.iload_n 0, 1) := by decide +kernel
theorem d_Ans_turned_1 : decode b_Ans_turned 1 = .ok (.iconst 4, 1) := by decide +kernel
theorem d_Ans_turned_2 : decode b_Ans_turned 2 = .ok (.iand, 1) := by decide +kernel
theorem d_Ans_turned_3 : decode b_Ans_turned 3 = .ok (.iload_n 0, 1) := by decide +kernel
theorem d_Ans_turned_4 : decode b_Ans_turned 4 = .ok (.iconst 1, 1) := by decide +kernel
theorem d_Ans_turned_5 : decode b_Ans_turned 5 = .ok (.iand, 1) := by decide +kernel
theorem d_Ans_turned_6 : decode b_Ans_turned 6 = .ok (.iconst 1, 1) := by decide +kernel
theorem d_Ans_turned_7 : decode b_Ans_turned 7 = .ok (.ishl, 1) := by decide +kernel
theorem d_Ans_turned_8 : decode b_Ans_turned 8 = .ok (.ior, 1) := by decide +kernel
theorem d_Ans_turned_9 : decode b_Ans_turned 9 = .ok (.iload_n 0, 1) := by decide +kernel
theorem d_Ans_turned_10 : decode b_Ans_turned 10 = .ok (.iconst 2, 1) := by decide +kernel
theorem d_Ans_turned_11 : decode b_Ans_turned 11 = .ok (.iand, 1) := by decide +kernel
theorem d_Ans_turned_12 : decode b_Ans_turned 12 = .ok (.iconst 1, 1) := by decide +kernel
theorem d_Ans_turned_13 : decode b_Ans_turned 13 = .ok (.ishr, 1) := by decide +kernel
theorem d_Ans_turned_14 : decode b_Ans_turned 14 = .ok (.ior, 1) := by decide +kernel
theorem d_Ans_turned_15 : decode b_Ans_turned 15 = .ok (.ireturn, 1) := by decide +kernel
theorem d_Ans_joined_88 : decode b_Ans_joined 88 = .ok (.ior, 1) := by decide +kernel
theorem d_Ans_joined_89 : decode b_Ans_joined 89 = .ok (.ireturn, 1) := by decide +kernel
theorem d_Ans_joined_74 : decode b_Ans_joined 74 = .ok (.istore 6, 2) := by decide +kernel
theorem d_Ans_joined_76 : decode b_Ans_joined 76 = .ok (.iload 5, 2) := by decide +kernel
theorem d_Ans_joined_78 : decode b_Ans_joined 78 = .ok (.iload 6, 2) := by decide +kernel
theorem d_Ans_joined_80 : decode b_Ans_joined 80 = .ok (.ifCond .eq 7, 3) := by decide +kernel
theorem d_Ans_joined_87 : decode b_Ans_joined 87 = .ok (.iconst 0, 1) := by decide +kernel
theorem d_Ans_joined_83 : decode b_Ans_joined 83 = .ok (.iconst 4, 1) := by decide +kernel
theorem d_Ans_joined_84 : decode b_Ans_joined 84 = .ok (.goto 4, 3) := by decide +kernel
theorem d_Ans_joined_73 : decode b_Ans_joined 73 = .ok (.iconst 0, 1) := by decide +kernel
theorem d_Ans_joined_69 : decode b_Ans_joined 69 = .ok (.iconst 1, 1) := by decide +kernel
theorem d_Ans_joined_70 : decode b_Ans_joined 70 = .ok (.goto 4, 3) := by decide +kernel
theorem d_Ans_joined_54 : decode b_Ans_joined 54 = .ok (.iload_n 2, 1) := by decide +kernel
theorem d_Ans_joined_55 : decode b_Ans_joined 55 = .ok (.iconst 4, 1) := by decide +kernel
theorem d_Ans_joined_56 : decode b_Ans_joined 56 = .ok (.iand, 1) := by decide +kernel
theorem d_Ans_joined_57 : decode b_Ans_joined 57 = .ok (.ifCond .eq 16, 3) := by decide +kernel
theorem d_Ans_joined_60 : decode b_Ans_joined 60 = .ok (.iload_n 1, 1) := by decide +kernel
theorem d_Ans_joined_61 : decode b_Ans_joined 61 = .ok (.iconst 4, 1) := by decide +kernel
theorem d_Ans_joined_62 : decode b_Ans_joined 62 = .ok (.iload 4, 2) := by decide +kernel
theorem d_Ans_joined_64 : decode b_Ans_joined 64 = .ok (.ior, 1) := by decide +kernel
theorem d_Ans_joined_65 : decode b_Ans_joined 65 = .ok (.iand, 1) := by decide +kernel
theorem d_Ans_joined_66 : decode b_Ans_joined 66 = .ok (.ifCond .eq 7, 3) := by decide +kernel
theorem d_Ans_joined_23 : decode b_Ans_joined 23 = .ok (.istore 4, 2) := by decide +kernel
theorem d_Ans_joined_25 : decode b_Ans_joined 25 = .ok (.iload_n 1, 1) := by decide +kernel
theorem d_Ans_joined_26 : decode b_Ans_joined 26 = .ok (.iload_n 2, 1) := by decide +kernel
theorem d_Ans_joined_27 : decode b_Ans_joined 27 = .ok (.ior, 1) := by decide +kernel
theorem d_Ans_joined_28 : decode b_Ans_joined 28 = .ok (.iload_n 3, 1) := by decide +kernel
theorem d_Ans_joined_29 : decode b_Ans_joined 29 = .ok (.iand, 1) := by decide +kernel
theorem d_Ans_joined_30 : decode b_Ans_joined 30 = .ok (.iload_n 1, 1) := by decide +kernel
theorem d_Ans_joined_31 : decode b_Ans_joined 31 = .ok (.iload_n 2, 1) := by decide +kernel
theorem d_Ans_joined_32 : decode b_Ans_joined 32 = .ok (.iand, 1) := by decide +kernel
theorem d_Ans_joined_33 : decode b_Ans_joined 33 = .ok (.iload 4, 2) := by decide +kernel
theorem d_Ans_joined_35 : decode b_Ans_joined 35 = .ok (.iand, 1) := by decide +kernel
theorem d_Ans_joined_36 : decode b_Ans_joined 36 = .ok (.ior, 1) := by decide +kernel
theorem d_Ans_joined_37 : decode b_Ans_joined 37 = .ok (.istore 5, 2) := by decide +kernel
theorem d_Ans_joined_39 : decode b_Ans_joined 39 = .ok (.iload_n 1, 1) := by decide +kernel
theorem d_Ans_joined_40 : decode b_Ans_joined 40 = .ok (.iconst 4, 1) := by decide +kernel
theorem d_Ans_joined_41 : decode b_Ans_joined 41 = .ok (.iand, 1) := by decide +kernel
theorem d_Ans_joined_42 : decode b_Ans_joined 42 = .ok (.ifCond .eq 12, 3) := by decide +kernel
theorem d_Ans_joined_45 : decode b_Ans_joined 45 = .ok (.iload_n 2, 1) := by decide +kernel
theorem d_Ans_joined_46 : decode b_Ans_joined 46 = .ok (.iconst 4, 1) := by decide +kernel
theorem d_Ans_joined_47 : decode b_Ans_joined 47 = .ok (.iload 4, 2) := by decide +kernel
theorem d_Ans_joined_49 : decode b_Ans_joined 49 = .ok (.ior, 1) := by decide +kernel
theorem d_Ans_joined_50 : decode b_Ans_joined 50 = .ok (.iand, 1) := by decide +kernel
theorem d_Ans_joined_51 : decode b_Ans_joined 51 = .ok (.ifCond .ne 18, 3) := by decide +kernel
theorem d_Ans_joined_11 : decode b_Ans_joined 11 = .ok (.istore_n 3, 1) := by decide +kernel
theorem d_Ans_joined_12 : decode b_Ans_joined 12 = .ok (.iload_n 0, 1) := by decide +kernel
theorem d_Ans_joined_13 : decode b_Ans_joined 13 = .ok (.bipush 10, 2) := by decide +kernel
theorem d_Ans_joined_15 : decode b_Ans_joined 15 = .ok (.if_icmp .ne 7, 3) := by decide +kernel
theorem d_Ans_joined_22 : decode b_Ans_joined 22 = .ok (.iconst 1, 1) := by decide +kernel
theorem d_Ans_joined_18 : decode b_Ans_joined 18 = .ok (.iconst 2, 1) := by decide +kernel
theorem d_Ans_joined_19 : decode b_Ans_joined 19 = .ok (.goto 4, 3) := by decide +kernel
theorem d_Ans_joined_0 : decode b_Ans_joined 0 = .ok (.iload_n 0, 1) := by decide +kernel
theorem d_Ans_joined_1 : decode b_Ans_joined 1 = .ok (.bipush 10, 2) := by decide +kernel
theorem d_Ans_joined_3 : decode b_Ans_joined 3 = .ok (.if_icmp .ne 7, 3) := by decide +kernel
theorem d_Ans_joined_10 : decode b_Ans_joined 10 = .ok (.iconst 2, 1) := by decide +kernel
theorem d_Ans_joined_6 : decode b_Ans_joined 6 = .ok (.iconst 1, 1) := by decide +kernel
theorem d_Ans_joined_7 : decode b_Ans_joined 7 = .ok (.goto 4, 3) := by decide +kernel
theorem d_Ans_truthsOf_132 : decode b_Ans_truthsOf 132 = .ok (.iinc 3 1, 3) := by decide +kernel
theorem d_Ans_truthsOf_135 : decode b_Ans_truthsOf 135 = .ok (.goto (-131), 3) := by decide +kernel
theorem d_Ans_truthsOf_97 : decode b_Ans_truthsOf 97 = .ok (.iload_n 2, 1) := by decide +kernel
theorem d_Ans_truthsOf_98 : decode b_Ans_truthsOf 98 = .ok (.iconst 1, 1) := by decide +kernel
theorem d_Ans_truthsOf_99 : decode b_Ans_truthsOf 99 = .ok (.if_icmp .le 33, 3) := by decide +kernel
theorem d_Ans_truthsOf_102 : decode b_Ans_truthsOf 102 = .ok (.iinc 2 (-1), 3) := by decide +kernel
theorem d_Ans_truthsOf_105 : decode b_Ans_truthsOf 105 = .ok (.aload_n 0, 1) := by decide +kernel
theorem d_Ans_truthsOf_106 : decode b_Ans_truthsOf 106 = .ok (.getfield 30, 3) := by decide +kernel
theorem d_Ans_truthsOf_109 : decode b_Ans_truthsOf 109 = .ok (.iload_n 2, 1) := by decide +kernel
theorem d_Ans_truthsOf_110 : decode b_Ans_truthsOf 110 = .ok (.iconst 1, 1) := by decide +kernel
theorem d_Ans_truthsOf_111 : decode b_Ans_truthsOf 111 = .ok (.isub, 1) := by decide +kernel
theorem d_Ans_truthsOf_112 : decode b_Ans_truthsOf 112 = .ok (.iload 4, 2) := by decide +kernel
theorem d_Ans_truthsOf_114 : decode b_Ans_truthsOf 114 = .ok (.aload_n 0, 1) := by decide +kernel
theorem d_Ans_truthsOf_115 : decode b_Ans_truthsOf 115 = .ok (.getfield 30, 3) := by decide +kernel
theorem d_Ans_truthsOf_118 : decode b_Ans_truthsOf 118 = .ok (.iload_n 2, 1) := by decide +kernel
theorem d_Ans_truthsOf_119 : decode b_Ans_truthsOf 119 = .ok (.iconst 1, 1) := by decide +kernel
theorem d_Ans_truthsOf_120 : decode b_Ans_truthsOf 120 = .ok (.isub, 1) := by decide +kernel
theorem d_Ans_truthsOf_121 : decode b_Ans_truthsOf 121 = .ok (.iaload, 1) := by decide +kernel
theorem d_Ans_truthsOf_122 : decode b_Ans_truthsOf 122 = .ok (.aload_n 0, 1) := by decide +kernel
theorem d_Ans_truthsOf_123 : decode b_Ans_truthsOf 123 = .ok (.getfield 30, 3) := by decide +kernel
theorem d_Ans_truthsOf_126 : decode b_Ans_truthsOf 126 = .ok (.iload_n 2, 1) := by decide +kernel
theorem d_Ans_truthsOf_127 : decode b_Ans_truthsOf 127 = .ok (.iaload, 1) := by decide +kernel
theorem d_Ans_truthsOf_128 : decode b_Ans_truthsOf 128 = .ok (.invokestatic 171, 3) := by decide +kernel
theorem d_Ans_truthsOf_131 : decode b_Ans_truthsOf 131 = .ok (.iastore, 1) := by decide +kernel
theorem d_Ans_truthsOf_57 : decode b_Ans_truthsOf 57 = .ok (.iastore, 1) := by decide +kernel
theorem d_Ans_truthsOf_58 : decode b_Ans_truthsOf 58 = .ok (.iinc 2 1, 3) := by decide +kernel
theorem d_Ans_truthsOf_61 : decode b_Ans_truthsOf 61 = .ok (.goto 71, 3) := by decide +kernel
theorem d_Ans_truthsOf_4 : decode b_Ans_truthsOf 4 = .ok (.iload_n 3, 1) := by decide +kernel
theorem d_Ans_truthsOf_5 : decode b_Ans_truthsOf 5 = .ok (.aload_n 0, 1) := by decide +kernel
theorem d_Ans_truthsOf_6 : decode b_Ans_truthsOf 6 = .ok (.getfield 57, 3) := by decide +kernel
theorem d_Ans_truthsOf_9 : decode b_Ans_truthsOf 9 = .ok (.getfield 82, 3) := by decide +kernel
theorem d_Ans_truthsOf_12 : decode b_Ans_truthsOf 12 = .ok (.if_icmp .ge 126, 3) := by decide +kernel
theorem d_Ans_truthsOf_138 : decode b_Ans_truthsOf 138 = .ok (.iload_n 2, 1) := by decide +kernel
theorem d_Ans_truthsOf_139 : decode b_Ans_truthsOf 139 = .ok (.ifCond .le 12, 3) := by decide +kernel
theorem d_Ans_truthsOf_151 : decode b_Ans_truthsOf 151 = .ok (.iconst 4, 1) := by decide +kernel
theorem d_Ans_truthsOf_152 : decode b_Ans_truthsOf 152 = .ok (.ireturn, 1) := by decide +kernel
theorem d_Ans_truthsOf_142 : decode b_Ans_truthsOf 142 = .ok (.aload_n 0, 1) := by decide +kernel
theorem d_Ans_truthsOf_143 : decode b_Ans_truthsOf 143 = .ok (.getfield 30, 3) := by decide +kernel
theorem d_Ans_truthsOf_146 : decode b_Ans_truthsOf 146 = .ok (.iconst 0, 1) := by decide +kernel
theorem d_Ans_truthsOf_147 : decode b_Ans_truthsOf 147 = .ok (.iaload, 1) := by decide +kernel
theorem d_Ans_truthsOf_148 : decode b_Ans_truthsOf 148 = .ok (.goto 4, 3) := by decide +kernel
theorem d_Ans_truthsOf_15 : decode b_Ans_truthsOf 15 = .ok (.aload_n 0, 1) := by decide +kernel
theorem d_Ans_truthsOf_16 : decode b_Ans_truthsOf 16 = .ok (.getfield 57, 3) := by decide +kernel
theorem d_Ans_truthsOf_19 : decode b_Ans_truthsOf 19 = .ok (.getfield 159, 3) := by decide +kernel
theorem d_Ans_truthsOf_22 : decode b_Ans_truthsOf 22 = .ok (.iload_n 3, 1) := by decide +kernel
theorem d_Ans_truthsOf_23 : decode b_Ans_truthsOf 23 = .ok (.iaload, 1) := by decide +kernel
theorem d_Ans_truthsOf_24 : decode b_Ans_truthsOf 24 = .ok (.istore 4, 2) := by decide +kernel
theorem d_Ans_truthsOf_26 : decode b_Ans_truthsOf 26 = .ok (.iload 4, 2) := by decide +kernel
theorem d_Ans_truthsOf_28 : decode b_Ans_truthsOf 28 = .ok (.bipush 9, 2) := by decide +kernel
theorem d_Ans_truthsOf_30 : decode b_Ans_truthsOf 30 = .ok (.if_icmp .ge 34, 3) := by decide +kernel
theorem d_Ans_truthsOf_64 : decode b_Ans_truthsOf 64 = .ok (.iload 4, 2) := by decide +kernel
theorem d_Ans_truthsOf_66 : decode b_Ans_truthsOf 66 = .ok (.bipush 9, 2) := by decide +kernel
theorem d_Ans_truthsOf_68 : decode b_Ans_truthsOf 68 = .ok (.if_icmp .ne 29, 3) := by decide +kernel
theorem d_Ans_truthsOf_71 : decode b_Ans_truthsOf 71 = .ok (.iload_n 2, 1) := by decide +kernel
theorem d_Ans_truthsOf_72 : decode b_Ans_truthsOf 72 = .ok (.ifCond .le 25, 3) := by decide +kernel
theorem d_Ans_truthsOf_75 : decode b_Ans_truthsOf 75 = .ok (.aload_n 0, 1) := by decide +kernel
theorem d_Ans_truthsOf_76 : decode b_Ans_truthsOf 76 = .ok (.getfield 30, 3) := by decide +kernel
theorem d_Ans_truthsOf_79 : decode b_Ans_truthsOf 79 = .ok (.iload_n 2, 1) := by decide +kernel
theorem d_Ans_truthsOf_80 : decode b_Ans_truthsOf 80 = .ok (.iconst 1, 1) := by decide +kernel
theorem d_Ans_truthsOf_81 : decode b_Ans_truthsOf 81 = .ok (.isub, 1) := by decide +kernel
theorem d_Ans_truthsOf_82 : decode b_Ans_truthsOf 82 = .ok (.aload_n 0, 1) := by decide +kernel
theorem d_Ans_truthsOf_83 : decode b_Ans_truthsOf 83 = .ok (.getfield 30, 3) := by decide +kernel
theorem d_Ans_truthsOf_86 : decode b_Ans_truthsOf 86 = .ok (.iload_n 2, 1) := by decide +kernel
theorem d_Ans_truthsOf_87 : decode b_Ans_truthsOf 87 = .ok (.iconst 1, 1) := by decide +kernel
theorem d_Ans_truthsOf_88 : decode b_Ans_truthsOf 88 = .ok (.isub, 1) := by decide +kernel
theorem d_Ans_truthsOf_89 : decode b_Ans_truthsOf 89 = .ok (.iaload, 1) := by decide +kernel
theorem d_Ans_truthsOf_90 : decode b_Ans_truthsOf 90 = .ok (.invokestatic 168, 3) := by decide +kernel
theorem d_Ans_truthsOf_93 : decode b_Ans_truthsOf 93 = .ok (.iastore, 1) := by decide +kernel
theorem d_Ans_truthsOf_94 : decode b_Ans_truthsOf 94 = .ok (.goto 38, 3) := by decide +kernel
theorem d_Ans_truthsOf_33 : decode b_Ans_truthsOf 33 = .ok (.aload_n 0, 1) := by decide +kernel
theorem d_Ans_truthsOf_34 : decode b_Ans_truthsOf 34 = .ok (.getfield 30, 3) := by decide +kernel
theorem d_Ans_truthsOf_37 : decode b_Ans_truthsOf 37 = .ok (.iload_n 2, 1) := by decide +kernel
theorem d_Ans_truthsOf_38 : decode b_Ans_truthsOf 38 = .ok (.iload_n 1, 1) := by decide +kernel
theorem d_Ans_truthsOf_39 : decode b_Ans_truthsOf 39 = .ok (.iconst (-1), 1) := by decide +kernel
theorem d_Ans_truthsOf_40 : decode b_Ans_truthsOf 40 = .ok (.if_icmp .ne 11, 3) := by decide +kernel
theorem d_Ans_truthsOf_51 : decode b_Ans_truthsOf 51 = .ok (.aload_n 0, 1) := by decide +kernel
theorem d_Ans_truthsOf_52 : decode b_Ans_truthsOf 52 = .ok (.iload_n 3, 1) := by decide +kernel
theorem d_Ans_truthsOf_53 : decode b_Ans_truthsOf 53 = .ok (.iload_n 1, 1) := by decide +kernel
theorem d_Ans_truthsOf_54 : decode b_Ans_truthsOf 54 = .ok (.invokevirtual 165, 3) := by decide +kernel
theorem d_Ans_truthsOf_43 : decode b_Ans_truthsOf 43 = .ok (.aload_n 0, 1) := by decide +kernel
theorem d_Ans_truthsOf_44 : decode b_Ans_truthsOf 44 = .ok (.iload_n 3, 1) := by decide +kernel
theorem d_Ans_truthsOf_45 : decode b_Ans_truthsOf 45 = .ok (.invokevirtual 162, 3) := by decide +kernel
theorem d_Ans_truthsOf_48 : decode b_Ans_truthsOf 48 = .ok (.goto 9, 3) := by decide +kernel
theorem d_Ans_truthsOf_0 : decode b_Ans_truthsOf 0 = .ok (.iconst 0, 1) := by decide +kernel
theorem d_Ans_truthsOf_1 : decode b_Ans_truthsOf 1 = .ok (.istore_n 2, 1) := by decide +kernel
theorem d_Ans_truthsOf_2 : decode b_Ans_truthsOf 2 = .ok (.iconst 0, 1) := by decide +kernel
theorem d_Ans_truthsOf_3 : decode b_Ans_truthsOf 3 = .ok (.istore_n 3, 1) := by decide +kernel
section
variable (l : Launch) (dC : Nat → ClassId) (dI : Nat → Nat → Nat) (cI cB cJ cZ : ClassId)
set_option maxRecDepth 100000 in
set_option maxHeartbeats 4000000 in
set_option maxRecDepth 100000 in
theorem t_Ans_truthOfTest_72 {p : Program} {l : Launch} {e : Env} {R : Room} {s : State} {m : MethodId} {args : Array Value} {below : List Frame} {meth : Method} {c : Code} {cells slots : Nat} {Q : State → Prop} {dC : Nat → ClassId} {dI : Nat → Nat → Nat} {cI cB cJ cZ : ClassId} {A : Nat → Prop} {ad : Nat → Nat} {NN : Nat} {E : Heap} {tM tC : Nat} {kK kV : Nat → Nat} {post : Int32 → St → Prop} (hx : p.tables.exec = Jvm.exec) (hb : c.code = b_Ans_truthOfTest) (hml : c.maxLocals = 11) (hown : s.vm.findClass R_Ans = some m.cls) (hT : ∀ w ∈ TG, w.before args s = true) (hK : va_K (dC, dI) CL (TY cI cB cJ cZ) s) (hN : NW s) (hA : ∀ q : Nat, s.heap.size ≤ q → A q) (hRc : cells ≤ R.cells) (hRs : slots ≤ R.slots) (hRf : 3 ≤ R.frames) (hRl : 139 ≤ R.locals) (hNN : 152 ≤ NN) (hE : CE E tM tC kK kV A s) (hret : ∀ (r : Int32) (x : St) (H : Heap) (locs : List Loc) (pc : Nat) (ls : Array Slot), decode b_Ans_truthOfTest pc = .ok (.ireturn, 1) → post r x → Wd dC dI cI cB cJ cZ ad stC kcC NN A x H → va_S A s.heap H locs → W p l e R s m args below meth c H locs cells slots Q (F0 m pc ls [.int r]))  : ∀ (o : Nat) (l1 : Int32) (l2 : Int32) (l3 : Int32) (l4 : Int32) (l5 : Int32) (l6 : Int32) (s0 : Int32) (s1 : Int32) (x : St) (H : Heap) (locs : List Loc) (ls : Array Slot), (o < NN ∧ kcC o = 10) → j_Ans_truthOfTest_72 post o l1 l2 l3 l4 l5 l6 s0 s1 x → Wd dC dI cI cB cJ cZ ad stC kcC NN A x H → va_S A s.heap H locs → lv_has ls 11 [(0, .ref (ad o)), (1, .int l1), (2, .int l2), (3, .int l3), (4, .int l4), (5, .int l5), (6, .int l6)] → W p l e R s m args below meth c H locs cells slots Q (F0 m 72 ls [.int s0, .int s1]) := by
  intro o l1 l2 l3 l4 l5 l6 s0 s1 x H locs ls fo hw hW hS hl
  unfold j_Ans_truthOfTest_72 at hw
  refine lv_icmp_ne (tgt := 79) hx hb d_Ans_truthOfTest_72 (by decide) (fun c1 => ?_) (fun c1 => ?_)
  · have hw := hw.1 c1
    refine lv_iconst (v := 1) hx hb d_Ans_truthOfTest_79 (by decide) ?_
    exact hret 1 x H locs 80 ls d_Ans_truthOfTest_80 hw hW hS
  · have hw := hw.2 c1
    refine lv_iconst (v := 2) hx hb d_Ans_truthOfTest_75 (by decide) ?_
    refine lv_goto (tgt := 80) hx hb d_Ans_truthOfTest_76 (by decide) ?_
    exact hret 2 x H locs 80 ls d_Ans_truthOfTest_80 hw hW hS
set_option maxRecDepth 100000 in
set_option maxHeartbeats 4000000 in
set_option maxRecDepth 100000 in
theorem t_Ans_truthOfTest_58 {p : Program} {l : Launch} {e : Env} {R : Room} {s : State} {m : MethodId} {args : Array Value} {below : List Frame} {meth : Method} {c : Code} {cells slots : Nat} {Q : State → Prop} {dC : Nat → ClassId} {dI : Nat → Nat → Nat} {cI cB cJ cZ : ClassId} {A : Nat → Prop} {ad : Nat → Nat} {NN : Nat} {E : Heap} {tM tC : Nat} {kK kV : Nat → Nat} {post : Int32 → St → Prop} (hx : p.tables.exec = Jvm.exec) (hb : c.code = b_Ans_truthOfTest) (hml : c.maxLocals = 11) (hown : s.vm.findClass R_Ans = some m.cls) (hT : ∀ w ∈ TG, w.before args s = true) (hK : va_K (dC, dI) CL (TY cI cB cJ cZ) s) (hN : NW s) (hA : ∀ q : Nat, s.heap.size ≤ q → A q) (hRc : cells ≤ R.cells) (hRs : slots ≤ R.slots) (hRf : 3 ≤ R.frames) (hRl : 139 ≤ R.locals) (hNN : 152 ≤ NN) (hE : CE E tM tC kK kV A s) (hret : ∀ (r : Int32) (x : St) (H : Heap) (locs : List Loc) (pc : Nat) (ls : Array Slot), decode b_Ans_truthOfTest pc = .ok (.ireturn, 1) → post r x → Wd dC dI cI cB cJ cZ ad stC kcC NN A x H → va_S A s.heap H locs → W p l e R s m args below meth c H locs cells slots Q (F0 m pc ls [.int r]))  : ∀ (o : Nat) (l1 : Int32) (l2 : Int32) (l3 : Int32) (l4 : Int32) (l5 : Int32) (l6 : Int32) (x : St) (H : Heap) (locs : List Loc) (ls : Array Slot), (o < NN ∧ kcC o = 10) → j_Ans_truthOfTest_58 post o l1 l2 l3 l4 l5 l6 x → Wd dC dI cI cB cJ cZ ad stC kcC NN A x H → va_S A s.heap H locs → lv_has ls 11 [(0, .ref (ad o)), (1, .int l1), (2, .int l2), (3, .int l3), (4, .int l4), (5, .int l5), (6, .int l6)] → W p l e R s m args below meth c H locs cells slots Q (F0 m 58 ls []) := by
  intro o l1 l2 l3 l4 l5 l6 x H locs ls fo hw hW hS hl
  unfold j_Ans_truthOfTest_58 at hw
  refine lv_iload hx hb d_Ans_truthOfTest_58 (lv_at hl 6 rfl) ?_
  refine lv_iload hx hb d_Ans_truthOfTest_60 (lv_at hl 4 rfl) ?_
  refine lv_bipush (v := 7) hx hb d_Ans_truthOfTest_62 (by decide) ?_
  refine lv_icmp_ne (tgt := 71) hx hb d_Ans_truthOfTest_64 (by decide) (fun c2 => ?_) (fun c2 => ?_)
  · have hw := hw.1 c2
    refine lv_iconst (v := 0) hx hb d_Ans_truthOfTest_71 (by decide) ?_
    exact t_Ans_truthOfTest_72 hx hb hml hown hT hK hN hA hRc hRs hRf hRl hNN hE hret  o l1 l2 l3 l4 l5 l6 0 l6 x H locs ls fo hw hW hS (lv_sub hl [0, 1, 2, 3, 4, 5, 6] rfl)
  · have hw := hw.2 c2
    refine lv_iconst (v := 1) hx hb d_Ans_truthOfTest_67 (by decide) ?_
    refine lv_goto (tgt := 72) hx hb d_Ans_truthOfTest_68 (by decide) ?_
    exact t_Ans_truthOfTest_72 hx hb hml hown hT hK hN hA hRc hRs hRf hRl hNN hE hret  o l1 l2 l3 l4 l5 l6 1 l6 x H locs ls fo hw hW hS (lv_sub hl [0, 1, 2, 3, 4, 5, 6] rfl)
set_option maxRecDepth 100000 in
set_option maxHeartbeats 4000000 in
set_option maxRecDepth 100000 in
theorem t_Ans_truthOfTest_e {p : Program} {l : Launch} {e : Env} {R : Room} {s : State} {m : MethodId} {args : Array Value} {below : List Frame} {meth : Method} {c : Code} {cells slots : Nat} {Q : State → Prop} {dC : Nat → ClassId} {dI : Nat → Nat → Nat} {cI cB cJ cZ : ClassId} {A : Nat → Prop} {ad : Nat → Nat} {NN : Nat} {E : Heap} {tM tC : Nat} {kK kV : Nat → Nat} {post : Int32 → St → Prop} (hx : p.tables.exec = Jvm.exec) (hb : c.code = b_Ans_truthOfTest) (hml : c.maxLocals = 11) (hown : s.vm.findClass R_Ans = some m.cls) (hT : ∀ w ∈ TG, w.before args s = true) (hK : va_K (dC, dI) CL (TY cI cB cJ cZ) s) (hN : NW s) (hA : ∀ q : Nat, s.heap.size ≤ q → A q) (hRc : cells ≤ R.cells) (hRs : slots ≤ R.slots) (hRf : 3 ≤ R.frames) (hRl : 139 ≤ R.locals) (hNN : 152 ≤ NN) (hE : CE E tM tC kK kV A s) (hret : ∀ (r : Int32) (x : St) (H : Heap) (locs : List Loc) (pc : Nat) (ls : Array Slot), decode b_Ans_truthOfTest pc = .ok (.ireturn, 1) → post r x → Wd dC dI cI cB cJ cZ ad stC kcC NN A x H → va_S A s.heap H locs → W p l e R s m args below meth c H locs cells slots Q (F0 m pc ls [.int r])) : ∀ (o : Nat) (l1 : Int32) (l2 : Int32) (x : St) (H : Heap) (locs : List Loc) (ls : Array Slot), (o < NN ∧ kcC o = 10) → wp_Ans_truthOfTest post o l1 l2 x → Wd dC dI cI cB cJ cZ ad stC kcC NN A x H → va_S A s.heap H locs → lv_has ls 11 [(0, .ref (ad o)), (1, .int l1), (2, .int l2)] → W p l e R s m args below meth c H locs cells slots Q (F0 m 0 ls []) := by
  intro o l1 l2 x H locs ls fo hw hW hS hl
  unfold wp_Ans_truthOfTest at hw
  refine lv_aload_n hx hb d_Ans_truthOfTest_0 rfl (lv_at hl 0 rfl) ?_
  obtain ⟨q3, hq3, hw⟩ := hw
  refine w_getr (q := q3) (k := 15) (t := 10) (C := R_Ans) (T := F_Ans) (N := 16) hx hb hT hown hK hW fo.1 fo.2 (by decide) in_Ans rfl rfl (by decide) rfl fr_Ans_15 w_3_177 d_Ans_truthOfTest_1 hq3 (fun aq3 bq3 => ?_)
  have fq3 : q3 < NN ∧ kcC q3 = 9 := ⟨aq3, bq3⟩
  refine w_getf (q := (stC q3 10)) (k := 10) (t := 9) (C := R_Qry) (T := F_Qry) (N := 20) hx hb hT hown hK hW fq3.1 fq3.2 (by decide) in_Qry rfl rfl (by decide) rfl fr_Qry_10 w_3_94 d_Ans_truthOfTest_4 rfl ?_
  refine lv_iload_n hx hb d_Ans_truthOfTest_7 rfl (lv_at hl 1 rfl) ?_
  obtain ⟨hi, hw⟩ := hw
  refine w_iald (o := (stC q3 10)) hx hb hK hW (st_ty hNN fq3.1 fq3.2 rfl).1 (st_ty hNN fq3.1 fq3.2 rfl).2 hi d_Ans_truthOfTest_8 ?_
  refine lv_topi (fun v4 ev4 => ?_)
  have hw := hw v4 ev4
  refine lv_istore_n (lv' := [(3, .int v4), (0, .ref (ad o)), (1, .int l1), (2, .int l2)]) hx hb d_Ans_truthOfTest_9 rfl hl (by decide) rfl (fun ls hl => ?_)
  refine lv_aload_n hx hb d_Ans_truthOfTest_10 rfl (lv_at hl 1 rfl) ?_
  obtain ⟨q5, hq5, hw⟩ := hw
  refine w_getr (q := q5) (k := 15) (t := 10) (C := R_Ans) (T := F_Ans) (N := 16) hx hb hT hown hK hW fo.1 fo.2 (by decide) in_Ans rfl rfl (by decide) rfl fr_Ans_15 w_3_177 d_Ans_truthOfTest_11 hq5 (fun aq5 bq5 => ?_)
  have fq5 : q5 < NN ∧ kcC q5 = 9 := ⟨aq5, bq5⟩
  refine w_getf (q := (stC q5 9)) (k := 9) (t := 9) (C := R_Qry) (T := F_Qry) (N := 20) hx hb hT hown hK hW fq5.1 fq5.2 (by decide) in_Qry rfl rfl (by decide) rfl fr_Qry_9 w_3_92 d_Ans_truthOfTest_14 rfl ?_
  refine lv_iload_n hx hb d_Ans_truthOfTest_17 rfl (lv_at hl 2 rfl) ?_
  obtain ⟨hi, hw⟩ := hw
  refine w_iald (o := (stC q5 9)) hx hb hK hW (st_ty hNN fq5.1 fq5.2 rfl).1 (st_ty hNN fq5.1 fq5.2 rfl).2 hi d_Ans_truthOfTest_18 ?_
  refine lv_topi (fun v6 ev6 => ?_)
  have hw := hw v6 ev6
  refine lv_istore (lv' := [(4, .int v6), (3, .int v4), (0, .ref (ad o)), (1, .int l1), (2, .int l2)]) hx hb d_Ans_truthOfTest_19 hl (by decide) rfl (fun ls hl => ?_)
  refine lv_aload_n hx hb d_Ans_truthOfTest_21 rfl (lv_at hl 2 rfl) ?_
  obtain ⟨q7, hq7, hw⟩ := hw
  refine w_getr (q := q7) (k := 14) (t := 10) (C := R_Ans) (T := F_Ans) (N := 16) hx hb hT hown hK hW fo.1 fo.2 (by decide) in_Ans rfl rfl (by decide) rfl fr_Ans_14 w_3_176 d_Ans_truthOfTest_22 hq7 (fun aq7 bq7 => ?_)
  have fq7 : q7 < NN ∧ kcC q7 = 6 := ⟨aq7, bq7⟩
  refine lv_iload_n hx hb d_Ans_truthOfTest_25 rfl (lv_at hl 4 rfl) ?_
  refine lv_iload_n hx hb d_Ans_truthOfTest_26 rfl (lv_at hl 1 rfl) ?_
  have hF := hW.free hS hA
  refine va_calli (va_runV (C := R_Vlt) (As := [.int l2, .int v4]) (rest := []) ⟨hx, hb, hml, hown, hT⟩ (k_Vlt_entryOf l dC dI cI cB cJ cZ ad NN E tM tC kK kV hNN H.size q7 l2 v4 x fq7 hw) ⟨callB_of 2 hT (gwt_in w_7_85) rfl rfl rfl (hT _ w_1_9) (hT _ w_8_29) (by decide +kernel) ⟨Nat.le_trans (Nat.le_of_ble_eq_true rfl) hRf, Nat.le_trans (Nat.le_of_ble_eq_true rfl) hRl⟩, hT _ w_7_83, hT _ w_7_84⟩ ⟨PVc.blind, va_recv hK hW.1 (ci := 6) (q0 := q7) rfl (pic_obj fq7.1 fq7.2 (by decide)), PVc.at _ hW hK hN hE hS hF⟩ rfl rfl hl.1 rfl (lv_room (Nat.le_of_ble_eq_true rfl)) d_Ans_truthOfTest_27 ⟨hRc, hRs⟩) hS (fun q _ h => hF q h) hF (fun r9 x8 t H locs ht hvm hw hB hz1 hk1 hS => ?_)
  have hW := Wd.back hB ht hF
  clear hB ht hF hz1 hk1 hvm
  refine lv_istore (lv' := [(5, .int r9), (4, .int v6), (3, .int v4), (0, .ref (ad o)), (1, .int l1), (2, .int l2)]) hx hb d_Ans_truthOfTest_30 hl (by decide) rfl (fun ls hl => ?_)
  refine lv_aload_n hx hb d_Ans_truthOfTest_32 rfl (lv_at hl 3 rfl) ?_
  obtain ⟨q10, hq10, hw⟩ := hw
  refine w_getr (q := q10) (k := 14) (t := 10) (C := R_Ans) (T := F_Ans) (N := 16) hx hb hT hown hK hW fo.1 fo.2 (by decide) in_Ans rfl rfl (by decide) rfl fr_Ans_14 w_3_176 d_Ans_truthOfTest_33 hq10 (fun aq10 bq10 => ?_)
  have fq10 : q10 < NN ∧ kcC q10 = 6 := ⟨aq10, bq10⟩
  refine lv_iload hx hb d_Ans_truthOfTest_36 (lv_at hl 0 rfl) ?_
  refine lv_iload_n hx hb d_Ans_truthOfTest_38 rfl (lv_at hl 2 rfl) ?_
  have hF := hW.free hS hA
  refine va_calli (va_runV (C := R_Vlt) (As := [.int r9, .int v4]) (rest := []) ⟨hx, hb, hml, hown, hT⟩ (k_Vlt_hasValue l dC dI cI cB cJ cZ ad NN E tM tC kK kV hNN H.size q10 r9 v4 x8 fq10 hw) ⟨callB_of 2 hT (gwt_in w_7_50) rfl rfl rfl (hT _ w_1_9) (hT _ w_8_30) (by decide +kernel) ⟨Nat.le_trans (Nat.le_of_ble_eq_true rfl) hRf, Nat.le_trans (Nat.le_of_ble_eq_true rfl) hRl⟩, hT _ w_7_48, hT _ w_7_49⟩ ⟨PVc.blind, va_recv hK hW.1 (ci := 6) (q0 := q10) rfl (pic_obj fq10.1 fq10.2 (by decide)), PVc.at _ hW hK hN hE hS hF⟩ rfl rfl hl.1 rfl (lv_room (Nat.le_of_ble_eq_true rfl)) d_Ans_truthOfTest_39 ⟨hRc, hRs⟩) hS (fun q _ h => hF q h) hF (fun r12 x11 t H locs ht hvm hw hB hz1 hk1 hS => ?_)
  have hW := Wd.back hB ht hF
  clear hB ht hF hz1 hk1 hvm
  refine lv_istore (lv' := [(6, .int r12), (5, .int r9), (4, .int v6), (3, .int v4), (0, .ref (ad o)), (1, .int l1), (2, .int l2)]) hx hb d_Ans_truthOfTest_42 hl (by decide) rfl (fun ls hl => ?_)
  refine lv_iload hx hb d_Ans_truthOfTest_44 (lv_at hl 2 rfl) ?_
  refine lv_bipush (v := 6) hx hb d_Ans_truthOfTest_46 (by decide) ?_
  refine lv_icmp_eq (tgt := 58) hx hb d_Ans_truthOfTest_48 (by decide) (fun c13 => ?_) (fun c13 => ?_)
  · have hw := hw.1 c13
    exact t_Ans_truthOfTest_58 hx hb hml hown hT hK hN hA hRc hRs hRf hRl hNN hE hret  o l1 l2 v4 v6 r9 r12 x11 H locs ls fo hw hW hS (lv_sub hl [4, 5, 6, 3, 2, 1, 0] rfl)
  · have hw := hw.2 c13
    refine lv_iload hx hb d_Ans_truthOfTest_51 (lv_at hl 2 rfl) ?_
    refine lv_bipush (v := 7) hx hb d_Ans_truthOfTest_53 (by decide) ?_
    refine lv_icmp_ne (tgt := 81) hx hb d_Ans_truthOfTest_55 (by decide) (fun c14 => ?_) (fun c14 => ?_)
    · have hw := hw.1 c14
      refine lv_iload hx hb d_Ans_truthOfTest_81 (lv_at hl 0 rfl) ?_
      refine lv_if_ne (tgt := 88) hx hb d_Ans_truthOfTest_83 (by decide) (fun c15 => ?_) (fun c15 => ?_)
      · have hw := hw.1 c15
        refine lv_aload_n hx hb d_Ans_truthOfTest_88 rfl (lv_at hl 4 rfl) ?_
        refine lv_iload_n hx hb d_Ans_truthOfTest_89 rfl (lv_at hl 3 rfl) ?_
        have hF := hW.free hS hA
        refine va_calli (va_runV (C := R_Ans) (As := [.int v4]) (rest := []) ⟨hx, hb, hml, hown, hT⟩ (k_Ans_typeOf l dC dI cI cB cJ cZ ad NN E tM tC kK kV hNN H.size o v4 x11 fo hw) ⟨callB_of 1 hT (gwt_in w_8_46) rfl rfl rfl (hT _ w_1_13) (hT _ w_8_43) (by decide +kernel) ⟨Nat.le_trans (Nat.le_of_ble_eq_true rfl) hRf, Nat.le_trans (Nat.le_of_ble_eq_true rfl) hRl⟩, hT _ w_8_45, hT _ ws_91⟩ ⟨PVc.blind, va_recv hK hW.1 (ci := 10) (q0 := o) rfl (pic_obj fo.1 fo.2 (by decide)), PVc.at _ hW hK hN hE hS hF⟩ rfl rfl hl.1 rfl (lv_room (Nat.le_of_ble_eq_true rfl)) d_Ans_truthOfTest_90 ⟨hRc, hRs⟩) hS (fun q _ h => hF q h) hF (fun r17 x16 t H locs ht hvm hw hB hz1 hk1 hS => ?_)
        have hW := Wd.back hB ht hF
        clear hB ht hF hz1 hk1 hvm
        refine lv_istore (lv' := [(7, .int r17), (6, .int r12), (5, .int r9), (4, .int v6), (3, .int v4), (0, .ref (ad o)), (1, .int l1), (2, .int l2)]) hx hb d_Ans_truthOfTest_93 hl (by decide) rfl (fun ls hl => ?_)
        refine lv_aload_n hx hb d_Ans_truthOfTest_95 rfl (lv_at hl 5 rfl) ?_
        obtain ⟨q18, hq18, hw⟩ := hw
        refine w_getr (q := q18) (k := 15) (t := 10) (C := R_Ans) (T := F_Ans) (N := 16) hx hb hT hown hK hW fo.1 fo.2 (by decide) in_Ans rfl rfl (by decide) rfl fr_Ans_15 w_3_177 d_Ans_truthOfTest_96 hq18 (fun aq18 bq18 => ?_)
        have fq18 : q18 < NN ∧ kcC q18 = 9 := ⟨aq18, bq18⟩
        refine w_getf (q := (stC q18 12)) (k := 12) (t := 9) (C := R_Qry) (T := F_Qry) (N := 20) hx hb hT hown hK hW fq18.1 fq18.2 (by decide) in_Qry rfl rfl (by decide) rfl fr_Qry_12 w_3_98 d_Ans_truthOfTest_99 rfl ?_
        refine lv_iload_n hx hb d_Ans_truthOfTest_102 rfl (lv_at hl 6 rfl) ?_
        obtain ⟨hi, hw⟩ := hw
        refine w_iald (o := (stC q18 12)) hx hb hK hW (st_ty hNN fq18.1 fq18.2 rfl).1 (st_ty hNN fq18.1 fq18.2 rfl).2 hi d_Ans_truthOfTest_103 ?_
        refine lv_if_ne (tgt := 189) hx hb d_Ans_truthOfTest_104 (by decide) (fun c19 => ?_) (fun c19 => ?_)
        · have hw := hw.1 c19
          refine lv_iload hx hb d_Ans_truthOfTest_189 (lv_at hl 3 rfl) ?_
          refine lv_bipush (v := 8) hx hb d_Ans_truthOfTest_191 (by decide) ?_
          refine lv_icmp_ne (tgt := 222) hx hb d_Ans_truthOfTest_193 (by decide) (fun c20 => ?_) (fun c20 => ?_)
          · have hw := hw.1 c20
            refine lv_aload_n hx hb d_Ans_truthOfTest_222 rfl (lv_at hl 5 rfl) ?_
            obtain ⟨q21, hq21, hw⟩ := hw
            refine w_getr (q := q21) (k := 15) (t := 10) (C := R_Ans) (T := F_Ans) (N := 16) hx hb hT hown hK hW fo.1 fo.2 (by decide) in_Ans rfl rfl (by decide) rfl fr_Ans_15 w_3_177 d_Ans_truthOfTest_223 hq21 (fun aq21 bq21 => ?_)
            have fq21 : q21 < NN ∧ kcC q21 = 9 := ⟨aq21, bq21⟩
            refine w_getf (q := (stC q21 14)) (k := 14) (t := 9) (C := R_Qry) (T := F_Qry) (N := 20) hx hb hT hown hK hW fq21.1 fq21.2 (by decide) in_Qry rfl rfl (by decide) rfl fr_Qry_14 w_3_101 d_Ans_truthOfTest_226 rfl ?_
            refine lv_aload_n hx hb d_Ans_truthOfTest_229 rfl (lv_at hl 5 rfl) ?_
            obtain ⟨q22, hq22, hw⟩ := hw
            refine w_getr (q := q22) (k := 15) (t := 10) (C := R_Ans) (T := F_Ans) (N := 16) hx hb hT hown hK hW fo.1 fo.2 (by decide) in_Ans rfl rfl (by decide) rfl fr_Ans_15 w_3_177 d_Ans_truthOfTest_230 hq22 (fun aq22 bq22 => ?_)
            have fq22 : q22 < NN ∧ kcC q22 = 9 := ⟨aq22, bq22⟩
            refine w_getf (q := (stC q22 11)) (k := 11) (t := 9) (C := R_Qry) (T := F_Qry) (N := 20) hx hb hT hown hK hW fq22.1 fq22.2 (by decide) in_Qry rfl rfl (by decide) rfl fr_Qry_11 w_3_96 d_Ans_truthOfTest_233 rfl ?_
            refine lv_iload_n hx hb d_Ans_truthOfTest_236 rfl (lv_at hl 6 rfl) ?_
            obtain ⟨hi, hw⟩ := hw
            refine w_iald (o := (stC q22 11)) hx hb hK hW (st_ty hNN fq22.1 fq22.2 rfl).1 (st_ty hNN fq22.1 fq22.2 rfl).2 hi d_Ans_truthOfTest_237 ?_
            obtain ⟨hi, hw⟩ := hw
            refine w_lald (o := (stC q21 14)) hx hb hK hW (st_ty hNN fq21.1 fq21.2 rfl).1 (st_ty hNN fq21.1 fq21.2 rfl).2 hi d_Ans_truthOfTest_238 ?_
            refine lv_topl (fun v23 ev23 => ?_)
            have hw := hw v23 ev23
            refine lv_lstore (lv' := [(8, .long v23), (7, .int r17), (6, .int r12), (5, .int r9), (4, .int v6), (3, .int v4), (0, .ref (ad o)), (1, .int l1), (2, .int l2)]) hx hb d_Ans_truthOfTest_239 hl (by decide) rfl (fun ls hl => ?_)
            refine lv_iload hx hb d_Ans_truthOfTest_241 (lv_at hl 1 rfl) ?_
            refine lv_aload_n hx hb d_Ans_truthOfTest_243 rfl (lv_at hl 6 rfl) ?_
            obtain ⟨q24, hq24, hw⟩ := hw
            refine w_getr (q := q24) (k := 14) (t := 10) (C := R_Ans) (T := F_Ans) (N := 16) hx hb hT hown hK hW fo.1 fo.2 (by decide) in_Ans rfl rfl (by decide) rfl fr_Ans_14 w_3_176 d_Ans_truthOfTest_244 hq24 (fun aq24 bq24 => ?_)
            have fq24 : q24 < NN ∧ kcC q24 = 6 := ⟨aq24, bq24⟩
            refine w_getf (q := (stC q24 6)) (k := 6) (t := 6) (C := R_Vlt) (T := F_Vlt) (N := 20) hx hb hT hown hK hW fq24.1 fq24.2 (by decide) in_Vlt rfl rfl (by decide) rfl fr_Vlt_6 w_2_142 d_Ans_truthOfTest_247 rfl ?_
            refine lv_aload_n hx hb d_Ans_truthOfTest_250 rfl (lv_at hl 6 rfl) ?_
            obtain ⟨q25, hq25, hw⟩ := hw
            refine w_getr (q := q25) (k := 14) (t := 10) (C := R_Ans) (T := F_Ans) (N := 16) hx hb hT hown hK hW fo.1 fo.2 (by decide) in_Ans rfl rfl (by decide) rfl fr_Ans_14 w_3_176 d_Ans_truthOfTest_251 hq25 (fun aq25 bq25 => ?_)
            have fq25 : q25 < NN ∧ kcC q25 = 6 := ⟨aq25, bq25⟩
            refine w_getf (q := (stC q25 9)) (k := 9) (t := 6) (C := R_Vlt) (T := F_Vlt) (N := 20) hx hb hT hown hK hW fq25.1 fq25.2 (by decide) in_Vlt rfl rfl (by decide) rfl fr_Vlt_9 w_2_152 d_Ans_truthOfTest_254 rfl ?_
            refine lv_iload hx hb d_Ans_truthOfTest_257 (lv_at hl 3 rfl) ?_
            obtain ⟨hi, hw⟩ := hw
            refine w_lald (o := (stC q25 9)) hx hb hK hW (st_ty hNN fq25.1 fq25.2 rfl).1 (st_ty hNN fq25.1 fq25.2 rfl).2 hi d_Ans_truthOfTest_259 ?_
            refine lv_aload_n hx hb d_Ans_truthOfTest_260 rfl (lv_at hl 6 rfl) ?_
            obtain ⟨q26, hq26, hw⟩ := hw
            refine w_getr (q := q26) (k := 15) (t := 10) (C := R_Ans) (T := F_Ans) (N := 16) hx hb hT hown hK hW fo.1 fo.2 (by decide) in_Ans rfl rfl (by decide) rfl fr_Ans_15 w_3_177 d_Ans_truthOfTest_261 hq26 (fun aq26 bq26 => ?_)
            have fq26 : q26 < NN ∧ kcC q26 = 9 := ⟨aq26, bq26⟩
            refine w_getf (q := (stC q26 16)) (k := 16) (t := 9) (C := R_Qry) (T := F_Qry) (N := 20) hx hb hT hown hK hW fq26.1 fq26.2 (by decide) in_Qry rfl rfl (by decide) rfl fr_Qry_16 w_3_104 d_Ans_truthOfTest_264 rfl ?_
            refine lv_lload hx hb d_Ans_truthOfTest_267 (lv_at hl 0 rfl) ?_
            have hF := hW.free hS hA
            refine va_calli (va_runSN (As := [.int r17, .ref (ad (stC q24 6)), .long (rL x16 (stC q25 9) r9), .ref (ad (stC q26 16)), .long v23]) (rest := []) ⟨hx, hb, hml, hown, hT⟩ (k_V_compareValues l dC dI cI cB cJ cZ ad NN E tM tC kK kV hNN H.size r17 (stC q24 6) (rL x16 (stC q25 9) r9) (stC q26 16) v23 x16 (st_ty hNN fq24.1 fq24.2 rfl) (st_ty hNN fq26.1 fq26.2 rfl) hw) ⟨va_cnB 5 hT (gwt_in w_5_225) rfl rfl rfl (hN _ wn_8_55 rfl) (hT _ w_1_1) (by decide +kernel) ⟨Nat.le_trans (Nat.le_of_ble_eq_true rfl) hRf, Nat.le_trans (Nat.le_of_ble_eq_true rfl) hRl⟩, hT _ w_5_224, trivial⟩ ⟨PVc.blind, PVc.at _ hW hK hN hE hS hF⟩ rfl rfl hl.1 rfl (lv_room (Nat.le_of_ble_eq_true rfl)) d_Ans_truthOfTest_269 ⟨hRc, hRs⟩) hS (fun q _ h => hF q h) hF (fun r28 x27 t H locs ht hvm hw hB hz1 hk1 hS => ?_)
            have hW := Wd.back hB ht hF
            clear hB ht hF hz1 hk1 hvm
            refine lv_istore (lv' := [(10, .int r28), (8, .long v23), (7, .int r17), (6, .int r12), (5, .int r9), (4, .int v6), (3, .int v4), (0, .ref (ad o)), (1, .int l1), (2, .int l2)]) hx hb d_Ans_truthOfTest_272 hl (by decide) rfl (fun ls hl => ?_)
            refine lv_iload hx hb d_Ans_truthOfTest_274 (lv_at hl 5 rfl) ?_
            refine lv_iload hx hb d_Ans_truthOfTest_276 (lv_at hl 0 rfl) ?_
            have hF := hW.free hS hA
            refine va_calli (va_runS (As := [.int v6, .int r28]) (rest := []) ⟨hx, hb, hml, hown, hT⟩ (k_Ans_holds l dC dI cI cB cJ cZ ad NN E tM tC kK kV hNN H.size v6 r28 x27  hw) ⟨callB_of 2 hT (gwt_in w_8_61) rfl rfl rfl (hT _ w_1_13) (hT _ w_8_59) (by decide +kernel) ⟨Nat.le_trans (Nat.le_of_ble_eq_true rfl) hRf, Nat.le_trans (Nat.le_of_ble_eq_true rfl) hRl⟩, hT _ w_8_60⟩ ⟨PVc.blind, PVc.at _ hW hK hN hE hS hF⟩ rfl rfl hl.1 rfl (lv_room (Nat.le_of_ble_eq_true rfl)) d_Ans_truthOfTest_278 ⟨hRc, hRs⟩) hS (fun q _ h => hF q h) hF (fun r30 x29 t H locs ht hvm hw hB hz1 hk1 hS => ?_)
            have hW := Wd.back hB ht hF
            clear hB ht hF hz1 hk1 hvm
            refine lv_if_eq (tgt := 288) hx hb d_Ans_truthOfTest_281 (by decide) (fun c31 => ?_) (fun c31 => ?_)
            · have hw := hw.1 c31
              refine lv_iconst (v := 1) hx hb d_Ans_truthOfTest_288 (by decide) ?_
              exact hret 1 x29 H locs 289 ls d_Ans_truthOfTest_289 hw hW hS
            · have hw := hw.2 c31
              refine lv_iconst (v := 2) hx hb d_Ans_truthOfTest_284 (by decide) ?_
              refine lv_goto (tgt := 289) hx hb d_Ans_truthOfTest_285 (by decide) ?_
              exact hret 2 x29 H locs 289 ls d_Ans_truthOfTest_289 hw hW hS
          · have hw := hw.2 c20
            refine lv_aload_n hx hb d_Ans_truthOfTest_196 rfl (lv_at hl 5 rfl) ?_
            refine lv_iload_n hx hb d_Ans_truthOfTest_197 rfl (lv_at hl 6 rfl) ?_
            refine lv_iload hx hb d_Ans_truthOfTest_198 (lv_at hl 0 rfl) ?_
            refine lv_aload_n hx hb d_Ans_truthOfTest_200 rfl (lv_at hl 5 rfl) ?_
            obtain ⟨q32, hq32, hw⟩ := hw
            refine w_getr (q := q32) (k := 14) (t := 10) (C := R_Ans) (T := F_Ans) (N := 16) hx hb hT hown hK hW fo.1 fo.2 (by decide) in_Ans rfl rfl (by decide) rfl fr_Ans_14 w_3_176 d_Ans_truthOfTest_201 hq32 (fun aq32 bq32 => ?_)
            have fq32 : q32 < NN ∧ kcC q32 = 6 := ⟨aq32, bq32⟩
            refine w_getf (q := (stC q32 9)) (k := 9) (t := 6) (C := R_Vlt) (T := F_Vlt) (N := 20) hx hb hT hown hK hW fq32.1 fq32.2 (by decide) in_Vlt rfl rfl (by decide) rfl fr_Vlt_9 w_2_152 d_Ans_truthOfTest_204 rfl ?_
            refine lv_iload hx hb d_Ans_truthOfTest_207 (lv_at hl 2 rfl) ?_
            obtain ⟨hi, hw⟩ := hw
            refine w_lald (o := (stC q32 9)) hx hb hK hW (st_ty hNN fq32.1 fq32.2 rfl).1 (st_ty hNN fq32.1 fq32.2 rfl).2 hi d_Ans_truthOfTest_209 ?_
            have hF := hW.free hS hA
            refine va_calli (va_runV (C := R_Ans) (As := [.int l1, .int r17, .long (rL x16 (stC q32 9) r9)]) (rest := []) ⟨hx, hb, hml, hown, hT⟩ (k_Ans_isListed l dC dI cI cB cJ cZ ad NN E tM tC kK kV hNN H.size o l1 r17 (rL x16 (stC q32 9) r9) x16 fo hw) ⟨callB_of 3 hT (gwt_in w_8_70) rfl rfl rfl (hT _ w_1_13) (hT _ w_8_67) (by decide +kernel) ⟨Nat.le_trans (Nat.le_of_ble_eq_true rfl) hRf, Nat.le_trans (Nat.le_of_ble_eq_true rfl) hRl⟩, hT _ w_8_69, hT _ ws_95⟩ ⟨PVc.blind, va_recv hK hW.1 (ci := 10) (q0 := o) rfl (pic_obj fo.1 fo.2 (by decide)), PVc.at _ hW hK hN hE hS hF⟩ rfl rfl hl.1 rfl (lv_room (Nat.le_of_ble_eq_true rfl)) d_Ans_truthOfTest_210 ⟨hRc, hRs⟩) hS (fun q _ h => hF q h) hF (fun r34 x33 t H locs ht hvm hw hB hz1 hk1 hS => ?_)
            have hW := Wd.back hB ht hF
            clear hB ht hF hz1 hk1 hvm
            refine lv_if_eq (tgt := 220) hx hb d_Ans_truthOfTest_213 (by decide) (fun c35 => ?_) (fun c35 => ?_)
            · have hw := hw.1 c35
              refine lv_iconst (v := 1) hx hb d_Ans_truthOfTest_220 (by decide) ?_
              exact hret 1 x33 H locs 221 ls d_Ans_truthOfTest_221 hw hW hS
            · have hw := hw.2 c35
              refine lv_iconst (v := 2) hx hb d_Ans_truthOfTest_216 (by decide) ?_
              refine lv_goto (tgt := 221) hx hb d_Ans_truthOfTest_217 (by decide) ?_
              exact hret 2 x33 H locs 221 ls d_Ans_truthOfTest_221 hw hW hS
        · have hw := hw.2 c19
          refine lv_aload_n hx hb d_Ans_truthOfTest_107 rfl (lv_at hl 5 rfl) ?_
          obtain ⟨q36, hq36, hw⟩ := hw
          refine w_getr (q := q36) (k := 15) (t := 10) (C := R_Ans) (T := F_Ans) (N := 16) hx hb hT hown hK hW fo.1 fo.2 (by decide) in_Ans rfl rfl (by decide) rfl fr_Ans_15 w_3_177 d_Ans_truthOfTest_108 hq36 (fun aq36 bq36 => ?_)
          have fq36 : q36 < NN ∧ kcC q36 = 9 := ⟨aq36, bq36⟩
          refine w_getf (q := (stC q36 11)) (k := 11) (t := 9) (C := R_Qry) (T := F_Qry) (N := 20) hx hb hT hown hK hW fq36.1 fq36.2 (by decide) in_Qry rfl rfl (by decide) rfl fr_Qry_11 w_3_96 d_Ans_truthOfTest_111 rfl ?_
          refine lv_iload_n hx hb d_Ans_truthOfTest_114 rfl (lv_at hl 6 rfl) ?_
          obtain ⟨hi, hw⟩ := hw
          refine w_iald (o := (stC q36 11)) hx hb hK hW (st_ty hNN fq36.1 fq36.2 rfl).1 (st_ty hNN fq36.1 fq36.2 rfl).2 hi d_Ans_truthOfTest_115 ?_
          refine lv_topi (fun v37 ev37 => ?_)
          have hw := hw v37 ev37
          refine lv_istore (lv' := [(8, .int v37), (7, .int r17), (6, .int r12), (5, .int r9), (4, .int v6), (3, .int v4), (0, .ref (ad o)), (1, .int l1), (2, .int l2)]) hx hb d_Ans_truthOfTest_116 hl (by decide) rfl (fun ls hl => ?_)
          refine lv_aload_n hx hb d_Ans_truthOfTest_118 rfl (lv_at hl 6 rfl) ?_
          obtain ⟨q38, hq38, hw⟩ := hw
          refine w_getr (q := q38) (k := 14) (t := 10) (C := R_Ans) (T := F_Ans) (N := 16) hx hb hT hown hK hW fo.1 fo.2 (by decide) in_Ans rfl rfl (by decide) rfl fr_Ans_14 w_3_176 d_Ans_truthOfTest_119 hq38 (fun aq38 bq38 => ?_)
          have fq38 : q38 < NN ∧ kcC q38 = 6 := ⟨aq38, bq38⟩
          refine lv_iload_n hx hb d_Ans_truthOfTest_122 rfl (lv_at hl 8 rfl) ?_
          refine lv_iload hx hb d_Ans_truthOfTest_123 (lv_at hl 0 rfl) ?_
          have hF := hW.free hS hA
          refine va_calli (va_runV (C := R_Vlt) (As := [.int l2, .int v37]) (rest := []) ⟨hx, hb, hml, hown, hT⟩ (k_Vlt_entryOf l dC dI cI cB cJ cZ ad NN E tM tC kK kV hNN H.size q38 l2 v37 x16 fq38 hw) ⟨callB_of 2 hT (gwt_in w_7_85) rfl rfl rfl (hT _ w_1_9) (hT _ w_8_29) (by decide +kernel) ⟨Nat.le_trans (Nat.le_of_ble_eq_true rfl) hRf, Nat.le_trans (Nat.le_of_ble_eq_true rfl) hRl⟩, hT _ w_7_83, hT _ w_7_84⟩ ⟨PVc.blind, va_recv hK hW.1 (ci := 6) (q0 := q38) rfl (pic_obj fq38.1 fq38.2 (by decide)), PVc.at _ hW hK hN hE hS hF⟩ rfl rfl hl.1 rfl (lv_room (Nat.le_of_ble_eq_true rfl)) d_Ans_truthOfTest_125 ⟨hRc, hRs⟩) hS (fun q _ h => hF q h) hF (fun r40 x39 t H locs ht hvm hw hB hz1 hk1 hS => ?_)
          have hW := Wd.back hB ht hF
          clear hB ht hF hz1 hk1 hvm
          refine lv_istore (lv' := [(9, .int r40), (8, .int v37), (7, .int r17), (6, .int r12), (5, .int r9), (4, .int v6), (3, .int v4), (0, .ref (ad o)), (1, .int l1), (2, .int l2)]) hx hb d_Ans_truthOfTest_128 hl (by decide) rfl (fun ls hl => ?_)
          refine lv_aload_n hx hb d_Ans_truthOfTest_130 rfl (lv_at hl 7 rfl) ?_
          obtain ⟨q41, hq41, hw⟩ := hw
          refine w_getr (q := q41) (k := 14) (t := 10) (C := R_Ans) (T := F_Ans) (N := 16) hx hb hT hown hK hW fo.1 fo.2 (by decide) in_Ans rfl rfl (by decide) rfl fr_Ans_14 w_3_176 d_Ans_truthOfTest_131 hq41 (fun aq41 bq41 => ?_)
          have fq41 : q41 < NN ∧ kcC q41 = 6 := ⟨aq41, bq41⟩
          refine lv_iload hx hb d_Ans_truthOfTest_134 (lv_at hl 0 rfl) ?_
          refine lv_iload hx hb d_Ans_truthOfTest_136 (lv_at hl 1 rfl) ?_
          have hF := hW.free hS hA
          refine va_calli (va_runV (C := R_Vlt) (As := [.int r40, .int v37]) (rest := []) ⟨hx, hb, hml, hown, hT⟩ (k_Vlt_hasValue l dC dI cI cB cJ cZ ad NN E tM tC kK kV hNN H.size q41 r40 v37 x39 fq41 hw) ⟨callB_of 2 hT (gwt_in w_7_50) rfl rfl rfl (hT _ w_1_9) (hT _ w_8_30) (by decide +kernel) ⟨Nat.le_trans (Nat.le_of_ble_eq_true rfl) hRf, Nat.le_trans (Nat.le_of_ble_eq_true rfl) hRl⟩, hT _ w_7_48, hT _ w_7_49⟩ ⟨PVc.blind, va_recv hK hW.1 (ci := 6) (q0 := q41) rfl (pic_obj fq41.1 fq41.2 (by decide)), PVc.at _ hW hK hN hE hS hF⟩ rfl rfl hl.1 rfl (lv_room (Nat.le_of_ble_eq_true rfl)) d_Ans_truthOfTest_138 ⟨hRc, hRs⟩) hS (fun q _ h => hF q h) hF (fun r43 x42 t H locs ht hvm hw hB hz1 hk1 hS => ?_)
          have hW := Wd.back hB ht hF
          clear hB ht hF hz1 hk1 hvm
          refine lv_if_ne (tgt := 146) hx hb d_Ans_truthOfTest_141 (by decide) (fun c44 => ?_) (fun c44 => ?_)
          · have hw := hw.1 c44
            refine lv_iload hx hb d_Ans_truthOfTest_146 (lv_at hl 5 rfl) ?_
            refine lv_aload_n hx hb d_Ans_truthOfTest_148 rfl (lv_at hl 7 rfl) ?_
            obtain ⟨q45, hq45, hw⟩ := hw
            refine w_getr (q := q45) (k := 14) (t := 10) (C := R_Ans) (T := F_Ans) (N := 16) hx hb hT hown hK hW fo.1 fo.2 (by decide) in_Ans rfl rfl (by decide) rfl fr_Ans_14 w_3_176 d_Ans_truthOfTest_149 hq45 (fun aq45 bq45 => ?_)
            have fq45 : q45 < NN ∧ kcC q45 = 6 := ⟨aq45, bq45⟩
            refine lv_iload hx hb d_Ans_truthOfTest_152 (lv_at hl 2 rfl) ?_
            refine lv_aload_n hx hb d_Ans_truthOfTest_154 rfl (lv_at hl 7 rfl) ?_
            obtain ⟨q46, hq46, hw⟩ := hw
            refine w_getr (q := q46) (k := 14) (t := 10) (C := R_Ans) (T := F_Ans) (N := 16) hx hb hT hown hK hW fo.1 fo.2 (by decide) in_Ans rfl rfl (by decide) rfl fr_Ans_14 w_3_176 d_Ans_truthOfTest_155 hq46 (fun aq46 bq46 => ?_)
            have fq46 : q46 < NN ∧ kcC q46 = 6 := ⟨aq46, bq46⟩
            refine w_getf (q := (stC q46 9)) (k := 9) (t := 6) (C := R_Vlt) (T := F_Vlt) (N := 20) hx hb hT hown hK hW fq46.1 fq46.2 (by decide) in_Vlt rfl rfl (by decide) rfl fr_Vlt_9 w_2_152 d_Ans_truthOfTest_158 rfl ?_
            refine lv_iload hx hb d_Ans_truthOfTest_161 (lv_at hl 4 rfl) ?_
            obtain ⟨hi, hw⟩ := hw
            refine w_lald (o := (stC q46 9)) hx hb hK hW (st_ty hNN fq46.1 fq46.2 rfl).1 (st_ty hNN fq46.1 fq46.2 rfl).2 hi d_Ans_truthOfTest_163 ?_
            refine lv_aload_n hx hb d_Ans_truthOfTest_164 rfl (lv_at hl 7 rfl) ?_
            obtain ⟨q47, hq47, hw⟩ := hw
            refine w_getr (q := q47) (k := 14) (t := 10) (C := R_Ans) (T := F_Ans) (N := 16) hx hb hT hown hK hW fo.1 fo.2 (by decide) in_Ans rfl rfl (by decide) rfl fr_Ans_14 w_3_176 d_Ans_truthOfTest_165 hq47 (fun aq47 bq47 => ?_)
            have fq47 : q47 < NN ∧ kcC q47 = 6 := ⟨aq47, bq47⟩
            refine w_getf (q := (stC q47 9)) (k := 9) (t := 6) (C := R_Vlt) (T := F_Vlt) (N := 20) hx hb hT hown hK hW fq47.1 fq47.2 (by decide) in_Vlt rfl rfl (by decide) rfl fr_Vlt_9 w_2_152 d_Ans_truthOfTest_168 rfl ?_
            refine lv_iload hx hb d_Ans_truthOfTest_171 (lv_at hl 0 rfl) ?_
            obtain ⟨hi, hw⟩ := hw
            refine w_lald (o := (stC q47 9)) hx hb hK hW (st_ty hNN fq47.1 fq47.2 rfl).1 (st_ty hNN fq47.1 fq47.2 rfl).2 hi d_Ans_truthOfTest_173 ?_
            have hF := hW.free hS hA
            refine va_calli (va_runV (C := R_Vlt) (As := [.int r17, .long (rL x42 (stC q46 9) r9), .long (rL x42 (stC q47 9) r40)]) (rest := [.int v6]) ⟨hx, hb, hml, hown, hT⟩ (k_Vlt_compare l dC dI cI cB cJ cZ ad NN E tM tC kK kV hNN H.size q45 r17 (rL x42 (stC q46 9) r9) (rL x42 (stC q47 9) r40) x42 fq45 hw) ⟨callB_of 3 hT (gwt_in w_7_32) rfl rfl rfl (hT _ w_1_9) (hT _ w_8_66) (by decide +kernel) ⟨Nat.le_trans (Nat.le_of_ble_eq_true rfl) hRf, Nat.le_trans (Nat.le_of_ble_eq_true rfl) hRl⟩, hT _ w_7_30, hT _ w_7_31⟩ ⟨PVc.blind, va_recv hK hW.1 (ci := 6) (q0 := q45) rfl (pic_obj fq45.1 fq45.2 (by decide)), PVc.at _ hW hK hN hE hS hF⟩ rfl rfl hl.1 rfl (lv_room (Nat.le_of_ble_eq_true rfl)) d_Ans_truthOfTest_174 ⟨hRc, hRs⟩) hS (fun q _ h => hF q h) hF (fun r49 x48 t H locs ht hvm hw hB hz1 hk1 hS => ?_)
            have hW := Wd.back hB ht hF
            clear hB ht hF hz1 hk1 hvm
            have hF := hW.free hS hA
            refine va_calli (va_runS (As := [.int v6, .int r49]) (rest := []) ⟨hx, hb, hml, hown, hT⟩ (k_Ans_holds l dC dI cI cB cJ cZ ad NN E tM tC kK kV hNN H.size v6 r49 x48  hw) ⟨callB_of 2 hT (gwt_in w_8_61) rfl rfl rfl (hT _ w_1_13) (hT _ w_8_59) (by decide +kernel) ⟨Nat.le_trans (Nat.le_of_ble_eq_true rfl) hRf, Nat.le_trans (Nat.le_of_ble_eq_true rfl) hRl⟩, hT _ w_8_60⟩ ⟨PVc.blind, PVc.at _ hW hK hN hE hS hF⟩ rfl rfl hl.1 rfl (lv_room (Nat.le_of_ble_eq_true rfl)) d_Ans_truthOfTest_177 ⟨hRc, hRs⟩) hS (fun q _ h => hF q h) hF (fun r51 x50 t H locs ht hvm hw hB hz1 hk1 hS => ?_)
            have hW := Wd.back hB ht hF
            clear hB ht hF hz1 hk1 hvm
            refine lv_if_eq (tgt := 187) hx hb d_Ans_truthOfTest_180 (by decide) (fun c52 => ?_) (fun c52 => ?_)
            · have hw := hw.1 c52
              refine lv_iconst (v := 1) hx hb d_Ans_truthOfTest_187 (by decide) ?_
              exact hret 1 x50 H locs 188 ls d_Ans_truthOfTest_188 hw hW hS
            · have hw := hw.2 c52
              refine lv_iconst (v := 2) hx hb d_Ans_truthOfTest_183 (by decide) ?_
              refine lv_goto (tgt := 188) hx hb d_Ans_truthOfTest_184 (by decide) ?_
              exact hret 2 x50 H locs 188 ls d_Ans_truthOfTest_188 hw hW hS
          · have hw := hw.2 c44
            refine lv_iconst (v := 4) hx hb d_Ans_truthOfTest_144 (by decide) ?_
            exact hret 4 x42 H locs 145 ls d_Ans_truthOfTest_145 hw hW hS
      · have hw := hw.2 c15
        refine lv_iconst (v := 4) hx hb d_Ans_truthOfTest_86 (by decide) ?_
        exact hret 4 x11 H locs 87 ls d_Ans_truthOfTest_87 hw hW hS
    · have hw := hw.2 c14
      exact t_Ans_truthOfTest_58 hx hb hml hown hT hK hN hA hRc hRs hRf hRl hNN hE hret  o l1 l2 v4 v6 r9 r12 x11 H locs ls fo hw hW hS (lv_sub hl [4, 5, 6, 3, 2, 1, 0] rfl)
set_option maxHeartbeats 4000000 in
set_option maxRecDepth 100000 in
theorem k_Ans_truthOfTest (l : Launch) (dC : Nat → ClassId) (dI : Nat → Nat → Nat) (cI cB cJ cZ : ClassId) (ad : Nat → Nat) (NN : Nat) (E : Heap) (tM tC : Nat) (kK kV : Nat → Nat) (hNN : 152 ≤ NN) (sz : Nat) (o : Nat) (l1 : Int32) (l2 : Int32) (x : St) (fo : o < NN ∧ kcC o = 10) {post : Int32 → St → Prop} (hw : wp_Ans_truthOfTest post o l1 l2 x) : Met l y_Ans_truthOfTest (wsOf y_Ans_truthOfTest b_Ans_truthOfTest 11 (some (.int))) ({ frames := 3, cells := 0, slots := 0, locals := 139 }) (va_Pc [.ref (ad o), .int l1, .int l2] (PVc dC dI cI cB cJ cZ ad stC kcC NN E tM tC kK kV sz x)) (va_Qi (fun (r : Int32) (y : St) => post r y) (fun y t => Wd dC dI cI cB cJ cZ ad stC kcC NN (va_A (pic ad stC kcC NN cI cB cJ cZ x) sz) y t.heap) (va_A (pic ad stC kcC NN cI cB cJ cZ x) sz)) 0 0 (va_A (pic ad stC kcC NN cI cB cJ cZ x) sz) := by
  refine Met.ofW (cc := b_Ans_truthOfTest) (maxL := 11) (ret := some (.int)) (by decide) rfl ?_
  intro p e s m args below meth c s₁ B hml hv
  obtain ⟨rfl, ⟨hsz, hW0, hK, hN⟩, hE⟩ := hv
  have hx := B.exec
  have hb := B.bytes
  have hr := B.returns
  have hts := atoms_spec B.pre
  have hT : ∀ w ∈ TG, w.before _ s = true := fun w h => hts w (List.mem_cons_of_mem _ h)
  have hown : s.vm.findClass R_Ans = some m.cls := findClass_of_methodNamed B.named
  have hlocks := B.notSynchronized
  subst hsz
  have hW : Wd dC dI cI cB cJ cZ ad stC kcC NN (va_A (pic ad stC kcC NN cI cB cJ cZ x) s.heap.size) x s.heap := ⟨hW0.1, hW0.2.1.self (sz := s.heap.size), hW0.2.2⟩
  generalize hAe : va_A (pic ad stC kcC NN cI cB cJ cZ x) s.heap.size = A at hW hE ⊢
  have hA : ∀ q : Nat, s.heap.size ≤ q → A q := fun q h => by rw [← hAe]; exact Or.inr h
  have hS : va_S A s.heap s.heap [] := va_S.rf
  have hl := lv_entry ([.ref (ad o), .int l1, .int l2]) (n := 11) (Nat.le_of_ble_eq_true rfl)
  rw [lg_entry_eq]
  generalize (lg_sl ([.ref (ad o), .int l1, .int l2]) ++ List.replicate (11 - (lg_sl ([.ref (ad o), .int l1, .int l2])).length) Slot.unset).toArray = ls at hl ⊢
  have hl : lv_has ls 11 [(0, .ref (ad o)), (1, .int l1), (2, .int l2)] := hl
  exact t_Ans_truthOfTest_e hx hb hml hown hT hK hN hA (Nat.le_refl 0) (Nat.le_refl 0) (Nat.le_refl 3) (Nat.le_refl 139) hNN hE (fun r x H locs pc ls hd hp hW hS => W.iret (v := r) hx hb hr (fun t ht hM => ⟨⟨r, x, rfl, hp, Wd.back hW ht.symm (fun _ z => z)⟩, hS.F ht⟩) hS.2.2 hd hlocks)  o l1 l2 x _ _ ls fo hw hW hS hl
set_option maxRecDepth 100000 in
set_option maxHeartbeats 4000000 in
set_option maxRecDepth 100000 in
theorem t_Ans_turned_e {p : Program} {l : Launch} {e : Env} {R : Room} {s : State} {m : MethodId} {args : Array Value} {below : List Frame} {meth : Method} {c : Code} {cells slots : Nat} {Q : State → Prop} {dC : Nat → ClassId} {dI : Nat → Nat → Nat} {cI cB cJ cZ : ClassId} {A : Nat → Prop} {ad : Nat → Nat} {NN : Nat} {E : Heap} {tM tC : Nat} {kK kV : Nat → Nat} {post : Int32 → St → Prop} (hx : p.tables.exec = Jvm.exec) (hb : c.code = b_Ans_turned) (hml : c.maxLocals = 1) (hown : s.vm.findClass R_Ans = some m.cls) (hT : ∀ w ∈ TG, w.before args s = true) (hK : va_K (dC, dI) CL (TY cI cB cJ cZ) s) (hN : NW s) (hA : ∀ q : Nat, s.heap.size ≤ q → A q) (hRc : cells ≤ R.cells) (hRs : slots ≤ R.slots) (hRf : 0 ≤ R.frames) (hRl : 0 ≤ R.locals) (hNN : 152 ≤ NN) (hE : CE E tM tC kK kV A s) (hret : ∀ (r : Int32) (x : St) (H : Heap) (locs : List Loc) (pc : Nat) (ls : Array Slot), decode b_Ans_turned pc = .ok (.ireturn, 1) → post r x → Wd dC dI cI cB cJ cZ ad stC kcC NN A x H → va_S A s.heap H locs → W p l e R s m args below meth c H locs cells slots Q (F0 m pc ls [.int r])) : ∀ (l0 : Int32) (x : St) (H : Heap) (locs : List Loc) (ls : Array Slot), wp_Ans_turned post l0 x → Wd dC dI cI cB cJ cZ ad stC kcC NN A x H → va_S A s.heap H locs → lv_has ls 1 [(0, .int l0)] → W p l e R s m args below meth c H locs cells slots Q (F0 m 0 ls []) := by
  intro l0 x H locs ls  hw hW hS hl
  unfold wp_Ans_turned at hw
  refine lv_iload_n hx hb d_Ans_turned_0 rfl (lv_at hl 0 rfl) ?_
  refine lv_iconst (v := 4) hx hb d_Ans_turned_1 (by decide) ?_
  refine lv_iand hx hb d_Ans_turned_2 ?_
  refine lv_iload_n hx hb d_Ans_turned_3 rfl (lv_at hl 0 rfl) ?_
  refine lv_iconst (v := 1) hx hb d_Ans_turned_4 (by decide) ?_
  refine lv_iand hx hb d_Ans_turned_5 ?_
  refine lv_iconst (v := 1) hx hb d_Ans_turned_6 (by decide) ?_
  refine lv_ishl hx hb d_Ans_turned_7 ?_
  refine lv_ior hx hb d_Ans_turned_8 ?_
  refine lv_iload_n hx hb d_Ans_turned_9 rfl (lv_at hl 0 rfl) ?_
  refine lv_iconst (v := 2) hx hb d_Ans_turned_10 (by decide) ?_
  refine lv_iand hx hb d_Ans_turned_11 ?_
  refine lv_iconst (v := 1) hx hb d_Ans_turned_12 (by decide) ?_
  refine lv_ishr hx hb d_Ans_turned_13 ?_
  refine lv_ior hx hb d_Ans_turned_14 ?_
  exact hret (((l0 &&& 4) ||| ((l0 &&& 1) <<< ((1 : Int32) &&& 31))) ||| ((l0 &&& 2) >>> ((1 : Int32) &&& 31))) x H locs 15 ls d_Ans_turned_15 hw hW hS
set_option maxHeartbeats 4000000 in
set_option maxRecDepth 100000 in
theorem k_Ans_turned (l : Launch) (dC : Nat → ClassId) (dI : Nat → Nat → Nat) (cI cB cJ cZ : ClassId) (ad : Nat → Nat) (NN : Nat) (E : Heap) (tM tC : Nat) (kK kV : Nat → Nat) (hNN : 152 ≤ NN) (sz : Nat) (l0 : Int32) (x : St) {post : Int32 → St → Prop} (hw : wp_Ans_turned post l0 x) : Met l y_Ans_turned (wsOf y_Ans_turned b_Ans_turned 1 (some (.int))) ({ frames := 0, cells := 0, slots := 0, locals := 0 }) (va_Pc [.int l0] (PVc dC dI cI cB cJ cZ ad stC kcC NN E tM tC kK kV sz x)) (va_Qi (fun (r : Int32) (y : St) => post r y) (fun y t => Wd dC dI cI cB cJ cZ ad stC kcC NN (va_A (pic ad stC kcC NN cI cB cJ cZ x) sz) y t.heap) (va_A (pic ad stC kcC NN cI cB cJ cZ x) sz)) 0 0 (va_A (pic ad stC kcC NN cI cB cJ cZ x) sz) := by
  refine Met.ofW (cc := b_Ans_turned) (maxL := 1) (ret := some (.int)) (by decide) rfl ?_
  intro p e s m args below meth c s₁ B hml hv
  obtain ⟨rfl, ⟨hsz, hW0, hK, hN⟩, hE⟩ := hv
  have hx := B.exec
  have hb := B.bytes
  have hr := B.returns
  have hts := atoms_spec B.pre
  have hT : ∀ w ∈ TG, w.before _ s = true := fun w h => hts w (List.mem_cons_of_mem _ h)
  have hown : s.vm.findClass R_Ans = some m.cls := findClass_of_methodNamed B.named
  have hlocks := B.notSynchronized
  subst hsz
  have hW : Wd dC dI cI cB cJ cZ ad stC kcC NN (va_A (pic ad stC kcC NN cI cB cJ cZ x) s.heap.size) x s.heap := ⟨hW0.1, hW0.2.1.self (sz := s.heap.size), hW0.2.2⟩
  generalize hAe : va_A (pic ad stC kcC NN cI cB cJ cZ x) s.heap.size = A at hW hE ⊢
  have hA : ∀ q : Nat, s.heap.size ≤ q → A q := fun q h => by rw [← hAe]; exact Or.inr h
  have hS : va_S A s.heap s.heap [] := va_S.rf
  have hl := lv_entry ([.int l0]) (n := 1) (Nat.le_of_ble_eq_true rfl)
  rw [lg_entry_eq]
  generalize (lg_sl ([.int l0]) ++ List.replicate (1 - (lg_sl ([.int l0])).length) Slot.unset).toArray = ls at hl ⊢
  have hl : lv_has ls 1 [(0, .int l0)] := hl
  exact t_Ans_turned_e hx hb hml hown hT hK hN hA (Nat.le_refl 0) (Nat.le_refl 0) (Nat.le_refl 0) (Nat.le_refl 0) hNN hE (fun r x H locs pc ls hd hp hW hS => W.iret (v := r) hx hb hr (fun t ht hM => ⟨⟨r, x, rfl, hp, Wd.back hW ht.symm (fun _ z => z)⟩, hS.F ht⟩) hS.2.2 hd hlocks)  l0 x _ _ ls  hw hW hS hl
set_option maxRecDepth 100000 in
set_option maxHeartbeats 4000000 in
set_option maxRecDepth 100000 in
theorem t_Ans_joined_88 {p : Program} {l : Launch} {e : Env} {R : Room} {s : State} {m : MethodId} {args : Array Value} {below : List Frame} {meth : Method} {c : Code} {cells slots : Nat} {Q : State → Prop} {dC : Nat → ClassId} {dI : Nat → Nat → Nat} {cI cB cJ cZ : ClassId} {A : Nat → Prop} {ad : Nat → Nat} {NN : Nat} {E : Heap} {tM tC : Nat} {kK kV : Nat → Nat} {post : Int32 → St → Prop} (hx : p.tables.exec = Jvm.exec) (hb : c.code = b_Ans_joined) (hml : c.maxLocals = 7) (hown : s.vm.findClass R_Ans = some m.cls) (hT : ∀ w ∈ TG, w.before args s = true) (hK : va_K (dC, dI) CL (TY cI cB cJ cZ) s) (hN : NW s) (hA : ∀ q : Nat, s.heap.size ≤ q → A q) (hRc : cells ≤ R.cells) (hRs : slots ≤ R.slots) (hRf : 0 ≤ R.frames) (hRl : 0 ≤ R.locals) (hNN : 152 ≤ NN) (hE : CE E tM tC kK kV A s) (hret : ∀ (r : Int32) (x : St) (H : Heap) (locs : List Loc) (pc : Nat) (ls : Array Slot), decode b_Ans_joined pc = .ok (.ireturn, 1) → post r x → Wd dC dI cI cB cJ cZ ad stC kcC NN A x H → va_S A s.heap H locs → W p l e R s m args below meth c H locs cells slots Q (F0 m pc ls [.int r]))  : ∀ (l0 : Int32) (l1 : Int32) (l2 : Int32) (l3 : Int32) (l4 : Int32) (l5 : Int32) (l6 : Int32) (s0 : Int32) (s1 : Int32) (x : St) (H : Heap) (locs : List Loc) (ls : Array Slot), j_Ans_joined_88 post l0 l1 l2 l3 l4 l5 l6 s0 s1 x → Wd dC dI cI cB cJ cZ ad stC kcC NN A x H → va_S A s.heap H locs → lv_has ls 7 [(0, .int l0), (1, .int l1), (2, .int l2), (3, .int l3), (4, .int l4), (5, .int l5), (6, .int l6)] → W p l e R s m args below meth c H locs cells slots Q (F0 m 88 ls [.int s0, .int s1]) := by
  intro l0 l1 l2 l3 l4 l5 l6 s0 s1 x H locs ls  hw hW hS hl
  unfold j_Ans_joined_88 at hw
  refine lv_ior hx hb d_Ans_joined_88 ?_
  exact hret (s1 ||| s0) x H locs 89 ls d_Ans_joined_89 hw hW hS
set_option maxRecDepth 100000 in
set_option maxHeartbeats 4000000 in
set_option maxRecDepth 100000 in
theorem t_Ans_joined_74 {p : Program} {l : Launch} {e : Env} {R : Room} {s : State} {m : MethodId} {args : Array Value} {below : List Frame} {meth : Method} {c : Code} {cells slots : Nat} {Q : State → Prop} {dC : Nat → ClassId} {dI : Nat → Nat → Nat} {cI cB cJ cZ : ClassId} {A : Nat → Prop} {ad : Nat → Nat} {NN : Nat} {E : Heap} {tM tC : Nat} {kK kV : Nat → Nat} {post : Int32 → St → Prop} (hx : p.tables.exec = Jvm.exec) (hb : c.code = b_Ans_joined) (hml : c.maxLocals = 7) (hown : s.vm.findClass R_Ans = some m.cls) (hT : ∀ w ∈ TG, w.before args s = true) (hK : va_K (dC, dI) CL (TY cI cB cJ cZ) s) (hN : NW s) (hA : ∀ q : Nat, s.heap.size ≤ q → A q) (hRc : cells ≤ R.cells) (hRs : slots ≤ R.slots) (hRf : 0 ≤ R.frames) (hRl : 0 ≤ R.locals) (hNN : 152 ≤ NN) (hE : CE E tM tC kK kV A s) (hret : ∀ (r : Int32) (x : St) (H : Heap) (locs : List Loc) (pc : Nat) (ls : Array Slot), decode b_Ans_joined pc = .ok (.ireturn, 1) → post r x → Wd dC dI cI cB cJ cZ ad stC kcC NN A x H → va_S A s.heap H locs → W p l e R s m args below meth c H locs cells slots Q (F0 m pc ls [.int r]))  : ∀ (l0 : Int32) (l1 : Int32) (l2 : Int32) (l3 : Int32) (l4 : Int32) (l5 : Int32) (s0 : Int32) (x : St) (H : Heap) (locs : List Loc) (ls : Array Slot), j_Ans_joined_74 post l0 l1 l2 l3 l4 l5 s0 x → Wd dC dI cI cB cJ cZ ad stC kcC NN A x H → va_S A s.heap H locs → lv_has ls 7 [(0, .int l0), (1, .int l1), (2, .int l2), (3, .int l3), (4, .int l4), (5, .int l5)] → W p l e R s m args below meth c H locs cells slots Q (F0 m 74 ls [.int s0]) := by
  intro l0 l1 l2 l3 l4 l5 s0 x H locs ls  hw hW hS hl
  unfold j_Ans_joined_74 at hw
  refine lv_istore (lv' := [(6, .int s0), (0, .int l0), (1, .int l1), (2, .int l2), (3, .int l3), (4, .int l4), (5, .int l5)]) hx hb d_Ans_joined_74 hl (by decide) rfl (fun ls hl => ?_)
  refine lv_iload hx hb d_Ans_joined_76 (lv_at hl 6 rfl) ?_
  refine lv_iload hx hb d_Ans_joined_78 (lv_at hl 0 rfl) ?_
  refine lv_if_eq (tgt := 87) hx hb d_Ans_joined_80 (by decide) (fun c1 => ?_) (fun c1 => ?_)
  · have hw := hw.1 c1
    refine lv_iconst (v := 0) hx hb d_Ans_joined_87 (by decide) ?_
    exact t_Ans_joined_88 hx hb hml hown hT hK hN hA hRc hRs hRf hRl hNN hE hret  l0 l1 l2 l3 l4 l5 s0 0 l5 x H locs ls  hw hW hS (lv_sub hl [1, 2, 3, 4, 5, 6, 0] rfl)
  · have hw := hw.2 c1
    refine lv_iconst (v := 4) hx hb d_Ans_joined_83 (by decide) ?_
    refine lv_goto (tgt := 88) hx hb d_Ans_joined_84 (by decide) ?_
    exact t_Ans_joined_88 hx hb hml hown hT hK hN hA hRc hRs hRf hRl hNN hE hret  l0 l1 l2 l3 l4 l5 s0 4 l5 x H locs ls  hw hW hS (lv_sub hl [1, 2, 3, 4, 5, 6, 0] rfl)
set_option maxRecDepth 100000 in
set_option maxHeartbeats 4000000 in
set_option maxRecDepth 100000 in
theorem t_Ans_joined_73 {p : Program} {l : Launch} {e : Env} {R : Room} {s : State} {m : MethodId} {args : Array Value} {below : List Frame} {meth : Method} {c : Code} {cells slots : Nat} {Q : State → Prop} {dC : Nat → ClassId} {dI : Nat → Nat → Nat} {cI cB cJ cZ : ClassId} {A : Nat → Prop} {ad : Nat → Nat} {NN : Nat} {E : Heap} {tM tC : Nat} {kK kV : Nat → Nat} {post : Int32 → St → Prop} (hx : p.tables.exec = Jvm.exec) (hb : c.code = b_Ans_joined) (hml : c.maxLocals = 7) (hown : s.vm.findClass R_Ans = some m.cls) (hT : ∀ w ∈ TG, w.before args s = true) (hK : va_K (dC, dI) CL (TY cI cB cJ cZ) s) (hN : NW s) (hA : ∀ q : Nat, s.heap.size ≤ q → A q) (hRc : cells ≤ R.cells) (hRs : slots ≤ R.slots) (hRf : 0 ≤ R.frames) (hRl : 0 ≤ R.locals) (hNN : 152 ≤ NN) (hE : CE E tM tC kK kV A s) (hret : ∀ (r : Int32) (x : St) (H : Heap) (locs : List Loc) (pc : Nat) (ls : Array Slot), decode b_Ans_joined pc = .ok (.ireturn, 1) → post r x → Wd dC dI cI cB cJ cZ ad stC kcC NN A x H → va_S A s.heap H locs → W p l e R s m args below meth c H locs cells slots Q (F0 m pc ls [.int r]))  : ∀ (l0 : Int32) (l1 : Int32) (l2 : Int32) (l3 : Int32) (l4 : Int32) (l5 : Int32) (x : St) (H : Heap) (locs : List Loc) (ls : Array Slot), j_Ans_joined_73 post l0 l1 l2 l3 l4 l5 x → Wd dC dI cI cB cJ cZ ad stC kcC NN A x H → va_S A s.heap H locs → lv_has ls 7 [(0, .int l0), (1, .int l1), (2, .int l2), (3, .int l3), (4, .int l4), (5, .int l5)] → W p l e R s m args below meth c H locs cells slots Q (F0 m 73 ls []) := by
  intro l0 l1 l2 l3 l4 l5 x H locs ls  hw hW hS hl
  unfold j_Ans_joined_73 at hw
  refine lv_iconst (v := 0) hx hb d_Ans_joined_73 (by decide) ?_
  exact t_Ans_joined_74 hx hb hml hown hT hK hN hA hRc hRs hRf hRl hNN hE hret  l0 l1 l2 l3 l4 l5 0 x H locs ls  hw hW hS (lv_sub hl [0, 1, 2, 3, 4, 5] rfl)
set_option maxRecDepth 100000 in
set_option maxHeartbeats 4000000 in
set_option maxRecDepth 100000 in
theorem t_Ans_joined_69 {p : Program} {l : Launch} {e : Env} {R : Room} {s : State} {m : MethodId} {args : Array Value} {below : List Frame} {meth : Method} {c : Code} {cells slots : Nat} {Q : State → Prop} {dC : Nat → ClassId} {dI : Nat → Nat → Nat} {cI cB cJ cZ : ClassId} {A : Nat → Prop} {ad : Nat → Nat} {NN : Nat} {E : Heap} {tM tC : Nat} {kK kV : Nat → Nat} {post : Int32 → St → Prop} (hx : p.tables.exec = Jvm.exec) (hb : c.code = b_Ans_joined) (hml : c.maxLocals = 7) (hown : s.vm.findClass R_Ans = some m.cls) (hT : ∀ w ∈ TG, w.before args s = true) (hK : va_K (dC, dI) CL (TY cI cB cJ cZ) s) (hN : NW s) (hA : ∀ q : Nat, s.heap.size ≤ q → A q) (hRc : cells ≤ R.cells) (hRs : slots ≤ R.slots) (hRf : 0 ≤ R.frames) (hRl : 0 ≤ R.locals) (hNN : 152 ≤ NN) (hE : CE E tM tC kK kV A s) (hret : ∀ (r : Int32) (x : St) (H : Heap) (locs : List Loc) (pc : Nat) (ls : Array Slot), decode b_Ans_joined pc = .ok (.ireturn, 1) → post r x → Wd dC dI cI cB cJ cZ ad stC kcC NN A x H → va_S A s.heap H locs → W p l e R s m args below meth c H locs cells slots Q (F0 m pc ls [.int r]))  : ∀ (l0 : Int32) (l1 : Int32) (l2 : Int32) (l3 : Int32) (l4 : Int32) (l5 : Int32) (x : St) (H : Heap) (locs : List Loc) (ls : Array Slot), j_Ans_joined_69 post l0 l1 l2 l3 l4 l5 x → Wd dC dI cI cB cJ cZ ad stC kcC NN A x H → va_S A s.heap H locs → lv_has ls 7 [(0, .int l0), (1, .int l1), (2, .int l2), (3, .int l3), (4, .int l4), (5, .int l5)] → W p l e R s m args below meth c H locs cells slots Q (F0 m 69 ls []) := by
  intro l0 l1 l2 l3 l4 l5 x H locs ls  hw hW hS hl
  unfold j_Ans_joined_69 at hw
  refine lv_iconst (v := 1) hx hb d_Ans_joined_69 (by decide) ?_
  refine lv_goto (tgt := 74) hx hb d_Ans_joined_70 (by decide) ?_
  exact t_Ans_joined_74 hx hb hml hown hT hK hN hA hRc hRs hRf hRl hNN hE hret  l0 l1 l2 l3 l4 l5 1 x H locs ls  hw hW hS (lv_sub hl [0, 1, 2, 3, 4, 5] rfl)
set_option maxRecDepth 100000 in
set_option maxHeartbeats 4000000 in
set_option maxRecDepth 100000 in
theorem t_Ans_joined_54 {p : Program} {l : Launch} {e : Env} {R : Room} {s : State} {m : MethodId} {args : Array Value} {below : List Frame} {meth : Method} {c : Code} {cells slots : Nat} {Q : State → Prop} {dC : Nat → ClassId} {dI : Nat → Nat → Nat} {cI cB cJ cZ : ClassId} {A : Nat → Prop} {ad : Nat → Nat} {NN : Nat} {E : Heap} {tM tC : Nat} {kK kV : Nat → Nat} {post : Int32 → St → Prop} (hx : p.tables.exec = Jvm.exec) (hb : c.code = b_Ans_joined) (hml : c.maxLocals = 7) (hown : s.vm.findClass R_Ans = some m.cls) (hT : ∀ w ∈ TG, w.before args s = true) (hK : va_K (dC, dI) CL (TY cI cB cJ cZ) s) (hN : NW s) (hA : ∀ q : Nat, s.heap.size ≤ q → A q) (hRc : cells ≤ R.cells) (hRs : slots ≤ R.slots) (hRf : 0 ≤ R.frames) (hRl : 0 ≤ R.locals) (hNN : 152 ≤ NN) (hE : CE E tM tC kK kV A s) (hret : ∀ (r : Int32) (x : St) (H : Heap) (locs : List Loc) (pc : Nat) (ls : Array Slot), decode b_Ans_joined pc = .ok (.ireturn, 1) → post r x → Wd dC dI cI cB cJ cZ ad stC kcC NN A x H → va_S A s.heap H locs → W p l e R s m args below meth c H locs cells slots Q (F0 m pc ls [.int r]))  : ∀ (l0 : Int32) (l1 : Int32) (l2 : Int32) (l3 : Int32) (l4 : Int32) (l5 : Int32) (x : St) (H : Heap) (locs : List Loc) (ls : Array Slot), j_Ans_joined_54 post l0 l1 l2 l3 l4 l5 x → Wd dC dI cI cB cJ cZ ad stC kcC NN A x H → va_S A s.heap H locs → lv_has ls 7 [(0, .int l0), (1, .int l1), (2, .int l2), (3, .int l3), (4, .int l4), (5, .int l5)] → W p l e R s m args below meth c H locs cells slots Q (F0 m 54 ls []) := by
  intro l0 l1 l2 l3 l4 l5 x H locs ls  hw hW hS hl
  unfold j_Ans_joined_54 at hw
  refine lv_iload_n hx hb d_Ans_joined_54 rfl (lv_at hl 2 rfl) ?_
  refine lv_iconst (v := 4) hx hb d_Ans_joined_55 (by decide) ?_
  refine lv_iand hx hb d_Ans_joined_56 ?_
  refine lv_if_eq (tgt := 73) hx hb d_Ans_joined_57 (by decide) (fun c2 => ?_) (fun c2 => ?_)
  · have hw := hw.1 c2
    exact t_Ans_joined_73 hx hb hml hown hT hK hN hA hRc hRs hRf hRl hNN hE hret  l0 l1 l2 l3 l4 l5 x H locs ls  hw hW hS (lv_sub hl [0, 1, 2, 3, 4, 5] rfl)
  · have hw := hw.2 c2
    refine lv_iload_n hx hb d_Ans_joined_60 rfl (lv_at hl 1 rfl) ?_
    refine lv_iconst (v := 4) hx hb d_Ans_joined_61 (by decide) ?_
    refine lv_iload hx hb d_Ans_joined_62 (lv_at hl 4 rfl) ?_
    refine lv_ior hx hb d_Ans_joined_64 ?_
    refine lv_iand hx hb d_Ans_joined_65 ?_
    refine lv_if_eq (tgt := 73) hx hb d_Ans_joined_66 (by decide) (fun c3 => ?_) (fun c3 => ?_)
    · have hw := hw.1 c3
      exact t_Ans_joined_73 hx hb hml hown hT hK hN hA hRc hRs hRf hRl hNN hE hret  l0 l1 l2 l3 l4 l5 x H locs ls  hw hW hS (lv_sub hl [0, 1, 2, 3, 4, 5] rfl)
    · have hw := hw.2 c3
      exact t_Ans_joined_69 hx hb hml hown hT hK hN hA hRc hRs hRf hRl hNN hE hret  l0 l1 l2 l3 l4 l5 x H locs ls  hw hW hS (lv_sub hl [0, 1, 2, 3, 4, 5] rfl)
set_option maxRecDepth 100000 in
set_option maxHeartbeats 4000000 in
set_option maxRecDepth 100000 in
theorem t_Ans_joined_23 {p : Program} {l : Launch} {e : Env} {R : Room} {s : State} {m : MethodId} {args : Array Value} {below : List Frame} {meth : Method} {c : Code} {cells slots : Nat} {Q : State → Prop} {dC : Nat → ClassId} {dI : Nat → Nat → Nat} {cI cB cJ cZ : ClassId} {A : Nat → Prop} {ad : Nat → Nat} {NN : Nat} {E : Heap} {tM tC : Nat} {kK kV : Nat → Nat} {post : Int32 → St → Prop} (hx : p.tables.exec = Jvm.exec) (hb : c.code = b_Ans_joined) (hml : c.maxLocals = 7) (hown : s.vm.findClass R_Ans = some m.cls) (hT : ∀ w ∈ TG, w.before args s = true) (hK : va_K (dC, dI) CL (TY cI cB cJ cZ) s) (hN : NW s) (hA : ∀ q : Nat, s.heap.size ≤ q → A q) (hRc : cells ≤ R.cells) (hRs : slots ≤ R.slots) (hRf : 0 ≤ R.frames) (hRl : 0 ≤ R.locals) (hNN : 152 ≤ NN) (hE : CE E tM tC kK kV A s) (hret : ∀ (r : Int32) (x : St) (H : Heap) (locs : List Loc) (pc : Nat) (ls : Array Slot), decode b_Ans_joined pc = .ok (.ireturn, 1) → post r x → Wd dC dI cI cB cJ cZ ad stC kcC NN A x H → va_S A s.heap H locs → W p l e R s m args below meth c H locs cells slots Q (F0 m pc ls [.int r]))  : ∀ (l0 : Int32) (l1 : Int32) (l2 : Int32) (l3 : Int32) (s0 : Int32) (x : St) (H : Heap) (locs : List Loc) (ls : Array Slot), j_Ans_joined_23 post l0 l1 l2 l3 s0 x → Wd dC dI cI cB cJ cZ ad stC kcC NN A x H → va_S A s.heap H locs → lv_has ls 7 [(0, .int l0), (1, .int l1), (2, .int l2), (3, .int l3)] → W p l e R s m args below meth c H locs cells slots Q (F0 m 23 ls [.int s0]) := by
  intro l0 l1 l2 l3 s0 x H locs ls  hw hW hS hl
  unfold j_Ans_joined_23 at hw
  refine lv_istore (lv' := [(4, .int s0), (0, .int l0), (1, .int l1), (2, .int l2), (3, .int l3)]) hx hb d_Ans_joined_23 hl (by decide) rfl (fun ls hl => ?_)
  refine lv_iload_n hx hb d_Ans_joined_25 rfl (lv_at hl 2 rfl) ?_
  refine lv_iload_n hx hb d_Ans_joined_26 rfl (lv_at hl 3 rfl) ?_
  refine lv_ior hx hb d_Ans_joined_27 ?_
  refine lv_iload_n hx hb d_Ans_joined_28 rfl (lv_at hl 4 rfl) ?_
  refine lv_iand hx hb d_Ans_joined_29 ?_
  refine lv_iload_n hx hb d_Ans_joined_30 rfl (lv_at hl 2 rfl) ?_
  refine lv_iload_n hx hb d_Ans_joined_31 rfl (lv_at hl 3 rfl) ?_
  refine lv_iand hx hb d_Ans_joined_32 ?_
  refine lv_iload hx hb d_Ans_joined_33 (lv_at hl 0 rfl) ?_
  refine lv_iand hx hb d_Ans_joined_35 ?_
  refine lv_ior hx hb d_Ans_joined_36 ?_
  refine lv_topi (fun v4 ev4 => ?_)
  have hw := hw v4 ev4
  refine lv_istore (lv' := [(5, .int v4), (4, .int s0), (0, .int l0), (1, .int l1), (2, .int l2), (3, .int l3)]) hx hb d_Ans_joined_37 hl (by decide) rfl (fun ls hl => ?_)
  refine lv_iload_n hx hb d_Ans_joined_39 rfl (lv_at hl 3 rfl) ?_
  refine lv_iconst (v := 4) hx hb d_Ans_joined_40 (by decide) ?_
  refine lv_iand hx hb d_Ans_joined_41 ?_
  refine lv_if_eq (tgt := 54) hx hb d_Ans_joined_42 (by decide) (fun c5 => ?_) (fun c5 => ?_)
  · have hw := hw.1 c5
    exact t_Ans_joined_54 hx hb hml hown hT hK hN hA hRc hRs hRf hRl hNN hE hret  l0 l1 l2 l3 s0 v4 x H locs ls  hw hW hS (lv_sub hl [2, 3, 4, 5, 1, 0] rfl)
  · have hw := hw.2 c5
    refine lv_iload_n hx hb d_Ans_joined_45 rfl (lv_at hl 4 rfl) ?_
    refine lv_iconst (v := 4) hx hb d_Ans_joined_46 (by decide) ?_
    refine lv_iload hx hb d_Ans_joined_47 (lv_at hl 1 rfl) ?_
    refine lv_ior hx hb d_Ans_joined_49 ?_
    refine lv_iand hx hb d_Ans_joined_50 ?_
    refine lv_if_ne (tgt := 69) hx hb d_Ans_joined_51 (by decide) (fun c6 => ?_) (fun c6 => ?_)
    · have hw := hw.1 c6
      exact t_Ans_joined_69 hx hb hml hown hT hK hN hA hRc hRs hRf hRl hNN hE hret  l0 l1 l2 l3 s0 v4 x H locs ls  hw hW hS (lv_sub hl [2, 3, 4, 5, 1, 0] rfl)
    · have hw := hw.2 c6
      exact t_Ans_joined_54 hx hb hml hown hT hK hN hA hRc hRs hRf hRl hNN hE hret  l0 l1 l2 l3 s0 v4 x H locs ls  hw hW hS (lv_sub hl [2, 3, 4, 5, 1, 0] rfl)
set_option maxRecDepth 100000 in
set_option maxHeartbeats 4000000 in
set_option maxRecDepth 100000 in
theorem t_Ans_joined_11 {p : Program} {l : Launch} {e : Env} {R : Room} {s : State} {m : MethodId} {args : Array Value} {below : List Frame} {meth : Method} {c : Code} {cells slots : Nat} {Q : State → Prop} {dC : Nat → ClassId} {dI : Nat → Nat → Nat} {cI cB cJ cZ : ClassId} {A : Nat → Prop} {ad : Nat → Nat} {NN : Nat} {E : Heap} {tM tC : Nat} {kK kV : Nat → Nat} {post : Int32 → St → Prop} (hx : p.tables.exec = Jvm.exec) (hb : c.code = b_Ans_joined) (hml : c.maxLocals = 7) (hown : s.vm.findClass R_Ans = some m.cls) (hT : ∀ w ∈ TG, w.before args s = true) (hK : va_K (dC, dI) CL (TY cI cB cJ cZ) s) (hN : NW s) (hA : ∀ q : Nat, s.heap.size ≤ q → A q) (hRc : cells ≤ R.cells) (hRs : slots ≤ R.slots) (hRf : 0 ≤ R.frames) (hRl : 0 ≤ R.locals) (hNN : 152 ≤ NN) (hE : CE E tM tC kK kV A s) (hret : ∀ (r : Int32) (x : St) (H : Heap) (locs : List Loc) (pc : Nat) (ls : Array Slot), decode b_Ans_joined pc = .ok (.ireturn, 1) → post r x → Wd dC dI cI cB cJ cZ ad stC kcC NN A x H → va_S A s.heap H locs → W p l e R s m args below meth c H locs cells slots Q (F0 m pc ls [.int r]))  : ∀ (l0 : Int32) (l1 : Int32) (l2 : Int32) (s0 : Int32) (x : St) (H : Heap) (locs : List Loc) (ls : Array Slot), j_Ans_joined_11 post l0 l1 l2 s0 x → Wd dC dI cI cB cJ cZ ad stC kcC NN A x H → va_S A s.heap H locs → lv_has ls 7 [(0, .int l0), (1, .int l1), (2, .int l2)] → W p l e R s m args below meth c H locs cells slots Q (F0 m 11 ls [.int s0]) := by
  intro l0 l1 l2 s0 x H locs ls  hw hW hS hl
  unfold j_Ans_joined_11 at hw
  refine lv_istore_n (lv' := [(3, .int s0), (0, .int l0), (1, .int l1), (2, .int l2)]) hx hb d_Ans_joined_11 rfl hl (by decide) rfl (fun ls hl => ?_)
  refine lv_iload_n hx hb d_Ans_joined_12 rfl (lv_at hl 1 rfl) ?_
  refine lv_bipush (v := 10) hx hb d_Ans_joined_13 (by decide) ?_
  refine lv_icmp_ne (tgt := 22) hx hb d_Ans_joined_15 (by decide) (fun c7 => ?_) (fun c7 => ?_)
  · have hw := hw.1 c7
    refine lv_iconst (v := 1) hx hb d_Ans_joined_22 (by decide) ?_
    exact t_Ans_joined_23 hx hb hml hown hT hK hN hA hRc hRs hRf hRl hNN hE hret  l0 l1 l2 s0 1 x H locs ls  hw hW hS (lv_sub hl [1, 2, 3, 0] rfl)
  · have hw := hw.2 c7
    refine lv_iconst (v := 2) hx hb d_Ans_joined_18 (by decide) ?_
    refine lv_goto (tgt := 23) hx hb d_Ans_joined_19 (by decide) ?_
    exact t_Ans_joined_23 hx hb hml hown hT hK hN hA hRc hRs hRf hRl hNN hE hret  l0 l1 l2 s0 2 x H locs ls  hw hW hS (lv_sub hl [1, 2, 3, 0] rfl)
set_option maxRecDepth 100000 in
set_option maxHeartbeats 4000000 in
set_option maxRecDepth 100000 in
theorem t_Ans_joined_e {p : Program} {l : Launch} {e : Env} {R : Room} {s : State} {m : MethodId} {args : Array Value} {below : List Frame} {meth : Method} {c : Code} {cells slots : Nat} {Q : State → Prop} {dC : Nat → ClassId} {dI : Nat → Nat → Nat} {cI cB cJ cZ : ClassId} {A : Nat → Prop} {ad : Nat → Nat} {NN : Nat} {E : Heap} {tM tC : Nat} {kK kV : Nat → Nat} {post : Int32 → St → Prop} (hx : p.tables.exec = Jvm.exec) (hb : c.code = b_Ans_joined) (hml : c.maxLocals = 7) (hown : s.vm.findClass R_Ans = some m.cls) (hT : ∀ w ∈ TG, w.before args s = true) (hK : va_K (dC, dI) CL (TY cI cB cJ cZ) s) (hN : NW s) (hA : ∀ q : Nat, s.heap.size ≤ q → A q) (hRc : cells ≤ R.cells) (hRs : slots ≤ R.slots) (hRf : 0 ≤ R.frames) (hRl : 0 ≤ R.locals) (hNN : 152 ≤ NN) (hE : CE E tM tC kK kV A s) (hret : ∀ (r : Int32) (x : St) (H : Heap) (locs : List Loc) (pc : Nat) (ls : Array Slot), decode b_Ans_joined pc = .ok (.ireturn, 1) → post r x → Wd dC dI cI cB cJ cZ ad stC kcC NN A x H → va_S A s.heap H locs → W p l e R s m args below meth c H locs cells slots Q (F0 m pc ls [.int r])) : ∀ (l0 : Int32) (l1 : Int32) (l2 : Int32) (x : St) (H : Heap) (locs : List Loc) (ls : Array Slot), wp_Ans_joined post l0 l1 l2 x → Wd dC dI cI cB cJ cZ ad stC kcC NN A x H → va_S A s.heap H locs → lv_has ls 7 [(0, .int l0), (1, .int l1), (2, .int l2)] → W p l e R s m args below meth c H locs cells slots Q (F0 m 0 ls []) := by
  intro l0 l1 l2 x H locs ls  hw hW hS hl
  unfold wp_Ans_joined at hw
  refine lv_iload_n hx hb d_Ans_joined_0 rfl (lv_at hl 0 rfl) ?_
  refine lv_bipush (v := 10) hx hb d_Ans_joined_1 (by decide) ?_
  refine lv_icmp_ne (tgt := 10) hx hb d_Ans_joined_3 (by decide) (fun c8 => ?_) (fun c8 => ?_)
  · have hw := hw.1 c8
    refine lv_iconst (v := 2) hx hb d_Ans_joined_10 (by decide) ?_
    exact t_Ans_joined_11 hx hb hml hown hT hK hN hA hRc hRs hRf hRl hNN hE hret  l0 l1 l2 2 x H locs ls  hw hW hS (lv_sub hl [0, 1, 2] rfl)
  · have hw := hw.2 c8
    refine lv_iconst (v := 1) hx hb d_Ans_joined_6 (by decide) ?_
    refine lv_goto (tgt := 11) hx hb d_Ans_joined_7 (by decide) ?_
    exact t_Ans_joined_11 hx hb hml hown hT hK hN hA hRc hRs hRf hRl hNN hE hret  l0 l1 l2 1 x H locs ls  hw hW hS (lv_sub hl [0, 1, 2] rfl)
set_option maxHeartbeats 4000000 in
set_option maxRecDepth 100000 in
theorem k_Ans_joined (l : Launch) (dC : Nat → ClassId) (dI : Nat → Nat → Nat) (cI cB cJ cZ : ClassId) (ad : Nat → Nat) (NN : Nat) (E : Heap) (tM tC : Nat) (kK kV : Nat → Nat) (hNN : 152 ≤ NN) (sz : Nat) (l0 : Int32) (l1 : Int32) (l2 : Int32) (x : St) {post : Int32 → St → Prop} (hw : wp_Ans_joined post l0 l1 l2 x) : Met l y_Ans_joined (wsOf y_Ans_joined b_Ans_joined 7 (some (.int))) ({ frames := 0, cells := 0, slots := 0, locals := 0 }) (va_Pc [.int l0, .int l1, .int l2] (PVc dC dI cI cB cJ cZ ad stC kcC NN E tM tC kK kV sz x)) (va_Qi (fun (r : Int32) (y : St) => post r y) (fun y t => Wd dC dI cI cB cJ cZ ad stC kcC NN (va_A (pic ad stC kcC NN cI cB cJ cZ x) sz) y t.heap) (va_A (pic ad stC kcC NN cI cB cJ cZ x) sz)) 0 0 (va_A (pic ad stC kcC NN cI cB cJ cZ x) sz) := by
  refine Met.ofW (cc := b_Ans_joined) (maxL := 7) (ret := some (.int)) (by decide) rfl ?_
  intro p e s m args below meth c s₁ B hml hv
  obtain ⟨rfl, ⟨hsz, hW0, hK, hN⟩, hE⟩ := hv
  have hx := B.exec
  have hb := B.bytes
  have hr := B.returns
  have hts := atoms_spec B.pre
  have hT : ∀ w ∈ TG, w.before _ s = true := fun w h => hts w (List.mem_cons_of_mem _ h)
  have hown : s.vm.findClass R_Ans = some m.cls := findClass_of_methodNamed B.named
  have hlocks := B.notSynchronized
  subst hsz
  have hW : Wd dC dI cI cB cJ cZ ad stC kcC NN (va_A (pic ad stC kcC NN cI cB cJ cZ x) s.heap.size) x s.heap := ⟨hW0.1, hW0.2.1.self (sz := s.heap.size), hW0.2.2⟩
  generalize hAe : va_A (pic ad stC kcC NN cI cB cJ cZ x) s.heap.size = A at hW hE ⊢
  have hA : ∀ q : Nat, s.heap.size ≤ q → A q := fun q h => by rw [← hAe]; exact Or.inr h
  have hS : va_S A s.heap s.heap [] := va_S.rf
  have hl := lv_entry ([.int l0, .int l1, .int l2]) (n := 7) (Nat.le_of_ble_eq_true rfl)
  rw [lg_entry_eq]
  generalize (lg_sl ([.int l0, .int l1, .int l2]) ++ List.replicate (7 - (lg_sl ([.int l0, .int l1, .int l2])).length) Slot.unset).toArray = ls at hl ⊢
  have hl : lv_has ls 7 [(0, .int l0), (1, .int l1), (2, .int l2)] := hl
  exact t_Ans_joined_e hx hb hml hown hT hK hN hA (Nat.le_refl 0) (Nat.le_refl 0) (Nat.le_refl 0) (Nat.le_refl 0) hNN hE (fun r x H locs pc ls hd hp hW hS => W.iret (v := r) hx hb hr (fun t ht hM => ⟨⟨r, x, rfl, hp, Wd.back hW ht.symm (fun _ z => z)⟩, hS.F ht⟩) hS.2.2 hd hlocks)  l0 l1 l2 x _ _ ls  hw hW hS hl
set_option maxRecDepth 100000 in
set_option maxHeartbeats 4000000 in
set_option maxRecDepth 100000 in
theorem t_Ans_truthsOf_132 {p : Program} {l : Launch} {e : Env} {R : Room} {s : State} {m : MethodId} {args : Array Value} {below : List Frame} {meth : Method} {c : Code} {cells slots : Nat} {Q : State → Prop} {dC : Nat → ClassId} {dI : Nat → Nat → Nat} {cI cB cJ cZ : ClassId} {A : Nat → Prop} {ad : Nat → Nat} {NN : Nat} {E : Heap} {tM tC : Nat} {kK kV : Nat → Nat} {post : Int32 → St → Prop} {rec4 : Nat → Int32 → Int32 → Int32 → St → Prop} (hx : p.tables.exec = Jvm.exec) (hb : c.code = b_Ans_truthsOf) (hml : c.maxLocals = 5) (hown : s.vm.findClass R_Ans = some m.cls) (hT : ∀ w ∈ TG, w.before args s = true) (hK : va_K (dC, dI) CL (TY cI cB cJ cZ) s) (hN : NW s) (hA : ∀ q : Nat, s.heap.size ≤ q → A q) (hRc : cells ≤ R.cells) (hRs : slots ≤ R.slots) (hRf : 5 ≤ R.frames) (hRl : 200 ≤ R.locals) (hNN : 152 ≤ NN) (hE : CE E tM tC kK kV A s) (hret : ∀ (r : Int32) (x : St) (H : Heap) (locs : List Loc) (pc : Nat) (ls : Array Slot), decode b_Ans_truthsOf pc = .ok (.ireturn, 1) → post r x → Wd dC dI cI cB cJ cZ ad stC kcC NN A x H → va_S A s.heap H locs → W p l e R s m args below meth c H locs cells slots Q (F0 m pc ls [.int r])) (hrec4 : ∀ (o : Nat) (l1 : Int32) (l2 : Int32) (l3 : Int32) (x : St) (H : Heap) (locs : List Loc) (ls : Array Slot), (o < NN ∧ kcC o = 10) → rec4 o l1 l2 l3 x → Wd dC dI cI cB cJ cZ ad stC kcC NN A x H → va_S A s.heap H locs → lv_has ls 5 [(0, .ref (ad o)), (1, .int l1), (2, .int l2), (3, .int l3)] → W p l e R s m args below meth c H locs cells slots Q (F0 m 4 ls [])) : ∀ (o : Nat) (l1 : Int32) (l2 : Int32) (l3 : Int32) (l4 : Int32) (x : St) (H : Heap) (locs : List Loc) (ls : Array Slot), (o < NN ∧ kcC o = 10) → j_Ans_truthsOf_132 post rec4 o l1 l2 l3 l4 x → Wd dC dI cI cB cJ cZ ad stC kcC NN A x H → va_S A s.heap H locs → lv_has ls 5 [(0, .ref (ad o)), (1, .int l1), (2, .int l2), (3, .int l3), (4, .int l4)] → W p l e R s m args below meth c H locs cells slots Q (F0 m 132 ls []) := by
  intro o l1 l2 l3 l4 x H locs ls fo hw hW hS hl
  unfold j_Ans_truthsOf_132 at hw
  refine lv_iinc (v := (l3 + 1)) (lv' := [(3, .int (l3 + 1)), (0, .ref (ad o)), (1, .int l1), (2, .int l2), (4, .int l4)]) hx hb d_Ans_truthsOf_132 hl (k := 3) rfl rfl (by decide) rfl (fun ls hl => ?_)
  refine lv_goto (tgt := 4) hx hb d_Ans_truthsOf_135 (by decide) ?_
  exact hrec4 o l1 l2 (l3 + 1) x H locs ls fo hw hW hS (lv_sub hl [1, 2, 3, 0] rfl)
set_option maxRecDepth 100000 in
set_option maxHeartbeats 4000000 in
set_option maxRecDepth 100000 in
theorem t_Ans_truthsOf_97 {p : Program} {l : Launch} {e : Env} {R : Room} {s : State} {m : MethodId} {args : Array Value} {below : List Frame} {meth : Method} {c : Code} {cells slots : Nat} {Q : State → Prop} {dC : Nat → ClassId} {dI : Nat → Nat → Nat} {cI cB cJ cZ : ClassId} {A : Nat → Prop} {ad : Nat → Nat} {NN : Nat} {E : Heap} {tM tC : Nat} {kK kV : Nat → Nat} {post : Int32 → St → Prop} {rec4 : Nat → Int32 → Int32 → Int32 → St → Prop} (hx : p.tables.exec = Jvm.exec) (hb : c.code = b_Ans_truthsOf) (hml : c.maxLocals = 5) (hown : s.vm.findClass R_Ans = some m.cls) (hT : ∀ w ∈ TG, w.before args s = true) (hK : va_K (dC, dI) CL (TY cI cB cJ cZ) s) (hN : NW s) (hA : ∀ q : Nat, s.heap.size ≤ q → A q) (hRc : cells ≤ R.cells) (hRs : slots ≤ R.slots) (hRf : 5 ≤ R.frames) (hRl : 200 ≤ R.locals) (hNN : 152 ≤ NN) (hE : CE E tM tC kK kV A s) (hret : ∀ (r : Int32) (x : St) (H : Heap) (locs : List Loc) (pc : Nat) (ls : Array Slot), decode b_Ans_truthsOf pc = .ok (.ireturn, 1) → post r x → Wd dC dI cI cB cJ cZ ad stC kcC NN A x H → va_S A s.heap H locs → W p l e R s m args below meth c H locs cells slots Q (F0 m pc ls [.int r])) (hrec4 : ∀ (o : Nat) (l1 : Int32) (l2 : Int32) (l3 : Int32) (x : St) (H : Heap) (locs : List Loc) (ls : Array Slot), (o < NN ∧ kcC o = 10) → rec4 o l1 l2 l3 x → Wd dC dI cI cB cJ cZ ad stC kcC NN A x H → va_S A s.heap H locs → lv_has ls 5 [(0, .ref (ad o)), (1, .int l1), (2, .int l2), (3, .int l3)] → W p l e R s m args below meth c H locs cells slots Q (F0 m 4 ls [])) : ∀ (o : Nat) (l1 : Int32) (l2 : Int32) (l3 : Int32) (l4 : Int32) (x : St) (H : Heap) (locs : List Loc) (ls : Array Slot), (o < NN ∧ kcC o = 10) → j_Ans_truthsOf_97 post rec4 o l1 l2 l3 l4 x → Wd dC dI cI cB cJ cZ ad stC kcC NN A x H → va_S A s.heap H locs → lv_has ls 5 [(0, .ref (ad o)), (1, .int l1), (2, .int l2), (3, .int l3), (4, .int l4)] → W p l e R s m args below meth c H locs cells slots Q (F0 m 97 ls []) := by
  intro o l1 l2 l3 l4 x H locs ls fo hw hW hS hl
  unfold j_Ans_truthsOf_97 at hw
  refine lv_iload_n hx hb d_Ans_truthsOf_97 rfl (lv_at hl 2 rfl) ?_
  refine lv_iconst (v := 1) hx hb d_Ans_truthsOf_98 (by decide) ?_
  refine lv_icmp_le (tgt := 132) hx hb d_Ans_truthsOf_99 (by decide) (fun c1 => ?_) (fun c1 => ?_)
  · have hw := hw.1 c1
    exact t_Ans_truthsOf_132 hx hb hml hown hT hK hN hA hRc hRs hRf hRl hNN hE hret hrec4 o l1 l2 l3 l4 x H locs ls fo hw hW hS (lv_sub hl [0, 1, 2, 3, 4] rfl)
  · have hw := hw.2 c1
    refine lv_iinc (v := (l2 + (-1))) (lv' := [(2, .int (l2 + (-1))), (0, .ref (ad o)), (1, .int l1), (3, .int l3), (4, .int l4)]) hx hb d_Ans_truthsOf_102 hl (k := 2) rfl rfl (by decide) rfl (fun ls hl => ?_)
    refine lv_aload_n hx hb d_Ans_truthsOf_105 rfl (lv_at hl 1 rfl) ?_
    refine w_getf (q := (stC o 11)) (k := 11) (t := 10) (C := R_Ans) (T := F_Ans) (N := 16) hx hb hT hown hK hW fo.1 fo.2 (by decide) in_Ans rfl rfl (by decide) rfl fr_Ans_11 w_3_173 d_Ans_truthsOf_106 rfl ?_
    refine lv_iload_n hx hb d_Ans_truthsOf_109 rfl (lv_at hl 0 rfl) ?_
    refine lv_iconst (v := 1) hx hb d_Ans_truthsOf_110 (by decide) ?_
    refine lv_isub hx hb d_Ans_truthsOf_111 ?_
    refine lv_iload hx hb d_Ans_truthsOf_112 (lv_at hl 4 rfl) ?_
    refine lv_aload_n hx hb d_Ans_truthsOf_114 rfl (lv_at hl 1 rfl) ?_
    refine w_getf (q := (stC o 11)) (k := 11) (t := 10) (C := R_Ans) (T := F_Ans) (N := 16) hx hb hT hown hK hW fo.1 fo.2 (by decide) in_Ans rfl rfl (by decide) rfl fr_Ans_11 w_3_173 d_Ans_truthsOf_115 rfl ?_
    refine lv_iload_n hx hb d_Ans_truthsOf_118 rfl (lv_at hl 0 rfl) ?_
    refine lv_iconst (v := 1) hx hb d_Ans_truthsOf_119 (by decide) ?_
    refine lv_isub hx hb d_Ans_truthsOf_120 ?_
    obtain ⟨hi, hw⟩ := hw
    refine w_iald (o := (stC o 11)) hx hb hK hW (st_ty hNN fo.1 fo.2 rfl).1 (st_ty hNN fo.1 fo.2 rfl).2 hi d_Ans_truthsOf_121 ?_
    refine lv_aload_n hx hb d_Ans_truthsOf_122 rfl (lv_at hl 1 rfl) ?_
    refine w_getf (q := (stC o 11)) (k := 11) (t := 10) (C := R_Ans) (T := F_Ans) (N := 16) hx hb hT hown hK hW fo.1 fo.2 (by decide) in_Ans rfl rfl (by decide) rfl fr_Ans_11 w_3_173 d_Ans_truthsOf_123 rfl ?_
    refine lv_iload_n hx hb d_Ans_truthsOf_126 rfl (lv_at hl 0 rfl) ?_
    obtain ⟨hi, hw⟩ := hw
    refine w_iald (o := (stC o 11)) hx hb hK hW (st_ty hNN fo.1 fo.2 rfl).1 (st_ty hNN fo.1 fo.2 rfl).2 hi d_Ans_truthsOf_127 ?_
    have hF := hW.free hS hA
    refine va_calli (va_runS (As := [.int l4, .int (rA x (stC o 11) ((l2 + (-1)) - 1)), .int (rA x (stC o 11) (l2 + (-1)))]) (rest := [.int ((l2 + (-1)) - 1), .ref (ad (stC o 11))]) ⟨hx, hb, hml, hown, hT⟩ (k_Ans_joined l dC dI cI cB cJ cZ ad NN E tM tC kK kV hNN H.size l4 (rA x (stC o 11) ((l2 + (-1)) - 1)) (rA x (stC o 11) (l2 + (-1))) x  hw) ⟨callB_of 3 hT (gwt_in w_8_84) rfl rfl rfl (hT _ w_1_13) (hT _ w_8_82) (by decide +kernel) ⟨Nat.le_trans (Nat.le_of_ble_eq_true rfl) hRf, Nat.le_trans (Nat.le_of_ble_eq_true rfl) hRl⟩, hT _ w_8_83⟩ ⟨PVc.blind, PVc.at _ hW hK hN hE hS hF⟩ rfl rfl hl.1 rfl (lv_room (Nat.le_of_ble_eq_true rfl)) d_Ans_truthsOf_128 ⟨hRc, hRs⟩) hS (fun q _ h => hF q h) hF (fun r3 x2 t H locs ht hvm hw hB hz1 hk1 hS => ?_)
    have hW := Wd.back hB ht hF
    clear hB ht hF hz1 hk1 hvm
    obtain ⟨hi, hw⟩ := hw
    refine w_iast (o := (stC o 11)) hx hb hK hW hS (st_ty hNN fo.1 fo.2 rfl).1 (st_ty hNN fo.1 fo.2 rfl).2 hi d_Ans_truthsOf_131 (fun H locs hW hS => ?_)
    obtain ⟨x4, ex4⟩ : ∃ y : St, y = setA x2 (stC o 11) ((l2 + (-1)) - 1) r3 := ⟨_, rfl⟩
    rw [← ex4] at hW
    have hw := hw x4 ex4
    exact t_Ans_truthsOf_132 hx hb hml hown hT hK hN hA hRc hRs hRf hRl hNN hE hret hrec4 o l1 (l2 + (-1)) l3 l4 x4 H locs ls fo hw hW hS (lv_sub hl [1, 2, 0, 3, 4] rfl)
set_option maxRecDepth 100000 in
set_option maxHeartbeats 4000000 in
set_option maxRecDepth 100000 in
theorem t_Ans_truthsOf_57 {p : Program} {l : Launch} {e : Env} {R : Room} {s : State} {m : MethodId} {args : Array Value} {below : List Frame} {meth : Method} {c : Code} {cells slots : Nat} {Q : State → Prop} {dC : Nat → ClassId} {dI : Nat → Nat → Nat} {cI cB cJ cZ : ClassId} {A : Nat → Prop} {ad : Nat → Nat} {NN : Nat} {E : Heap} {tM tC : Nat} {kK kV : Nat → Nat} {post : Int32 → St → Prop} {rec4 : Nat → Int32 → Int32 → Int32 → St → Prop} (hx : p.tables.exec = Jvm.exec) (hb : c.code = b_Ans_truthsOf) (hml : c.maxLocals = 5) (hown : s.vm.findClass R_Ans = some m.cls) (hT : ∀ w ∈ TG, w.before args s = true) (hK : va_K (dC, dI) CL (TY cI cB cJ cZ) s) (hN : NW s) (hA : ∀ q : Nat, s.heap.size ≤ q → A q) (hRc : cells ≤ R.cells) (hRs : slots ≤ R.slots) (hRf : 5 ≤ R.frames) (hRl : 200 ≤ R.locals) (hNN : 152 ≤ NN) (hE : CE E tM tC kK kV A s) (hret : ∀ (r : Int32) (x : St) (H : Heap) (locs : List Loc) (pc : Nat) (ls : Array Slot), decode b_Ans_truthsOf pc = .ok (.ireturn, 1) → post r x → Wd dC dI cI cB cJ cZ ad stC kcC NN A x H → va_S A s.heap H locs → W p l e R s m args below meth c H locs cells slots Q (F0 m pc ls [.int r])) (hrec4 : ∀ (o : Nat) (l1 : Int32) (l2 : Int32) (l3 : Int32) (x : St) (H : Heap) (locs : List Loc) (ls : Array Slot), (o < NN ∧ kcC o = 10) → rec4 o l1 l2 l3 x → Wd dC dI cI cB cJ cZ ad stC kcC NN A x H → va_S A s.heap H locs → lv_has ls 5 [(0, .ref (ad o)), (1, .int l1), (2, .int l2), (3, .int l3)] → W p l e R s m args below meth c H locs cells slots Q (F0 m 4 ls [])) : ∀ (o : Nat) (l1 : Int32) (l2 : Int32) (l3 : Int32) (l4 : Int32) (s0 : Int32) (s1 : Int32) (s2 : Nat) (x : St) (H : Heap) (locs : List Loc) (ls : Array Slot), (o < NN ∧ kcC o = 10) → (s2 < NN ∧ kcC s2 = 20) → j_Ans_truthsOf_57 post rec4 o l1 l2 l3 l4 s0 s1 s2 x → Wd dC dI cI cB cJ cZ ad stC kcC NN A x H → va_S A s.heap H locs → lv_has ls 5 [(0, .ref (ad o)), (1, .int l1), (2, .int l2), (3, .int l3), (4, .int l4)] → W p l e R s m args below meth c H locs cells slots Q (F0 m 57 ls [.int s0, .int s1, .ref (ad s2)]) := by
  intro o l1 l2 l3 l4 s0 s1 s2 x H locs ls fo fs2 hw hW hS hl
  unfold j_Ans_truthsOf_57 at hw
  obtain ⟨hi, hw⟩ := hw
  refine w_iast (o := s2) hx hb hK hW hS fs2.1 fs2.2 hi d_Ans_truthsOf_57 (fun H locs hW hS => ?_)
  obtain ⟨x5, ex5⟩ : ∃ y : St, y = setA x s2 s1 s0 := ⟨_, rfl⟩
  rw [← ex5] at hW
  have hw := hw x5 ex5
  refine lv_iinc (v := (l2 + 1)) (lv' := [(2, .int (l2 + 1)), (0, .ref (ad o)), (1, .int l1), (3, .int l3), (4, .int l4)]) hx hb d_Ans_truthsOf_58 hl (k := 2) rfl rfl (by decide) rfl (fun ls hl => ?_)
  refine lv_goto (tgt := 132) hx hb d_Ans_truthsOf_61 (by decide) ?_
  exact t_Ans_truthsOf_132 hx hb hml hown hT hK hN hA hRc hRs hRf hRl hNN hE hret hrec4 o l1 (l2 + 1) l3 l4 x5 H locs ls fo hw hW hS (lv_sub hl [1, 2, 0, 3, 4] rfl)
set_option maxRecDepth 100000 in
set_option maxHeartbeats 4000000 in
set_option maxRecDepth 100000 in
theorem t_Ans_truthsOf_4 {p : Program} {l : Launch} {e : Env} {R : Room} {s : State} {m : MethodId} {args : Array Value} {below : List Frame} {meth : Method} {c : Code} {cells slots : Nat} {Q : State → Prop} {dC : Nat → ClassId} {dI : Nat → Nat → Nat} {cI cB cJ cZ : ClassId} {A : Nat → Prop} {ad : Nat → Nat} {NN : Nat} {E : Heap} {tM tC : Nat} {kK kV : Nat → Nat} {post : Int32 → St → Prop} {rec4 : Nat → Int32 → Int32 → Int32 → St → Prop} (hx : p.tables.exec = Jvm.exec) (hb : c.code = b_Ans_truthsOf) (hml : c.maxLocals = 5) (hown : s.vm.findClass R_Ans = some m.cls) (hT : ∀ w ∈ TG, w.before args s = true) (hK : va_K (dC, dI) CL (TY cI cB cJ cZ) s) (hN : NW s) (hA : ∀ q : Nat, s.heap.size ≤ q → A q) (hRc : cells ≤ R.cells) (hRs : slots ≤ R.slots) (hRf : 5 ≤ R.frames) (hRl : 200 ≤ R.locals) (hNN : 152 ≤ NN) (hE : CE E tM tC kK kV A s) (hret : ∀ (r : Int32) (x : St) (H : Heap) (locs : List Loc) (pc : Nat) (ls : Array Slot), decode b_Ans_truthsOf pc = .ok (.ireturn, 1) → post r x → Wd dC dI cI cB cJ cZ ad stC kcC NN A x H → va_S A s.heap H locs → W p l e R s m args below meth c H locs cells slots Q (F0 m pc ls [.int r])) (hrec4 : ∀ (o : Nat) (l1 : Int32) (l2 : Int32) (l3 : Int32) (x : St) (H : Heap) (locs : List Loc) (ls : Array Slot), (o < NN ∧ kcC o = 10) → rec4 o l1 l2 l3 x → Wd dC dI cI cB cJ cZ ad stC kcC NN A x H → va_S A s.heap H locs → lv_has ls 5 [(0, .ref (ad o)), (1, .int l1), (2, .int l2), (3, .int l3)] → W p l e R s m args below meth c H locs cells slots Q (F0 m 4 ls [])) : ∀ (o : Nat) (l1 : Int32) (l2 : Int32) (l3 : Int32) (x : St) (H : Heap) (locs : List Loc) (ls : Array Slot), (o < NN ∧ kcC o = 10) → j_Ans_truthsOf_4 post rec4 o l1 l2 l3 x → Wd dC dI cI cB cJ cZ ad stC kcC NN A x H → va_S A s.heap H locs → lv_has ls 5 [(0, .ref (ad o)), (1, .int l1), (2, .int l2), (3, .int l3)] → W p l e R s m args below meth c H locs cells slots Q (F0 m 4 ls []) := by
  intro o l1 l2 l3 x H locs ls fo hw hW hS hl
  unfold j_Ans_truthsOf_4 at hw
  refine lv_iload_n hx hb d_Ans_truthsOf_4 rfl (lv_at hl 3 rfl) ?_
  refine lv_aload_n hx hb d_Ans_truthsOf_5 rfl (lv_at hl 0 rfl) ?_
  obtain ⟨q6, hq6, hw⟩ := hw
  refine w_getr (q := q6) (k := 15) (t := 10) (C := R_Ans) (T := F_Ans) (N := 16) hx hb hT hown hK hW fo.1 fo.2 (by decide) in_Ans rfl rfl (by decide) rfl fr_Ans_15 w_3_177 d_Ans_truthsOf_6 hq6 (fun aq6 bq6 => ?_)
  have fq6 : q6 < NN ∧ kcC q6 = 9 := ⟨aq6, bq6⟩
  refine w_geti (k := 8) (t := 9) (C := R_Qry) (T := F_Qry) (N := 20) hx hb hT hown hK hW fq6.1 fq6.2 (by decide) in_Qry rfl rfl (by decide) rfl fr_Qry_8 w_3_90 d_Ans_truthsOf_9 ?_
  refine lv_icmp_ge (tgt := 138) hx hb d_Ans_truthsOf_12 (by decide) (fun c7 => ?_) (fun c7 => ?_)
  · have hw := hw.1 c7
    refine lv_iload_n hx hb d_Ans_truthsOf_138 rfl (lv_at hl 2 rfl) ?_
    refine lv_if_le (tgt := 151) hx hb d_Ans_truthsOf_139 (by decide) (fun c8 => ?_) (fun c8 => ?_)
    · have hw := hw.1 c8
      refine lv_iconst (v := 4) hx hb d_Ans_truthsOf_151 (by decide) ?_
      exact hret 4 x H locs 152 ls d_Ans_truthsOf_152 hw hW hS
    · have hw := hw.2 c8
      refine lv_aload_n hx hb d_Ans_truthsOf_142 rfl (lv_at hl 0 rfl) ?_
      refine w_getf (q := (stC o 11)) (k := 11) (t := 10) (C := R_Ans) (T := F_Ans) (N := 16) hx hb hT hown hK hW fo.1 fo.2 (by decide) in_Ans rfl rfl (by decide) rfl fr_Ans_11 w_3_173 d_Ans_truthsOf_143 rfl ?_
      refine lv_iconst (v := 0) hx hb d_Ans_truthsOf_146 (by decide) ?_
      obtain ⟨hi, hw⟩ := hw
      refine w_iald (o := (stC o 11)) hx hb hK hW (st_ty hNN fo.1 fo.2 rfl).1 (st_ty hNN fo.1 fo.2 rfl).2 hi d_Ans_truthsOf_147 ?_
      refine lv_goto (tgt := 152) hx hb d_Ans_truthsOf_148 (by decide) ?_
      exact hret (rA x (stC o 11) 0) x H locs 152 ls d_Ans_truthsOf_152 hw hW hS
  · have hw := hw.2 c7
    refine lv_aload_n hx hb d_Ans_truthsOf_15 rfl (lv_at hl 0 rfl) ?_
    obtain ⟨q9, hq9, hw⟩ := hw
    refine w_getr (q := q9) (k := 15) (t := 10) (C := R_Ans) (T := F_Ans) (N := 16) hx hb hT hown hK hW fo.1 fo.2 (by decide) in_Ans rfl rfl (by decide) rfl fr_Ans_15 w_3_177 d_Ans_truthsOf_16 hq9 (fun aq9 bq9 => ?_)
    have fq9 : q9 < NN ∧ kcC q9 = 9 := ⟨aq9, bq9⟩
    refine w_getf (q := (stC q9 9)) (k := 9) (t := 9) (C := R_Qry) (T := F_Qry) (N := 20) hx hb hT hown hK hW fq9.1 fq9.2 (by decide) in_Qry rfl rfl (by decide) rfl fr_Qry_9 w_3_92 d_Ans_truthsOf_19 rfl ?_
    refine lv_iload_n hx hb d_Ans_truthsOf_22 rfl (lv_at hl 3 rfl) ?_
    obtain ⟨hi, hw⟩ := hw
    refine w_iald (o := (stC q9 9)) hx hb hK hW (st_ty hNN fq9.1 fq9.2 rfl).1 (st_ty hNN fq9.1 fq9.2 rfl).2 hi d_Ans_truthsOf_23 ?_
    refine lv_topi (fun v10 ev10 => ?_)
    have hw := hw v10 ev10
    refine lv_istore (lv' := [(4, .int v10), (0, .ref (ad o)), (1, .int l1), (2, .int l2), (3, .int l3)]) hx hb d_Ans_truthsOf_24 hl (by decide) rfl (fun ls hl => ?_)
    refine lv_iload hx hb d_Ans_truthsOf_26 (lv_at hl 0 rfl) ?_
    refine lv_bipush (v := 9) hx hb d_Ans_truthsOf_28 (by decide) ?_
    refine lv_icmp_ge (tgt := 64) hx hb d_Ans_truthsOf_30 (by decide) (fun c11 => ?_) (fun c11 => ?_)
    · have hw := hw.1 c11
      refine lv_iload hx hb d_Ans_truthsOf_64 (lv_at hl 0 rfl) ?_
      refine lv_bipush (v := 9) hx hb d_Ans_truthsOf_66 (by decide) ?_
      refine lv_icmp_ne (tgt := 97) hx hb d_Ans_truthsOf_68 (by decide) (fun c12 => ?_) (fun c12 => ?_)
      · have hw := hw.1 c12
        exact t_Ans_truthsOf_97 hx hb hml hown hT hK hN hA hRc hRs hRf hRl hNN hE hret hrec4 o l1 l2 l3 v10 x H locs ls fo hw hW hS (lv_sub hl [1, 2, 3, 4, 0] rfl)
      · have hw := hw.2 c12
        refine lv_iload_n hx hb d_Ans_truthsOf_71 rfl (lv_at hl 3 rfl) ?_
        refine lv_if_le (tgt := 97) hx hb d_Ans_truthsOf_72 (by decide) (fun c13 => ?_) (fun c13 => ?_)
        · have hw := hw.1 c13
          exact t_Ans_truthsOf_97 hx hb hml hown hT hK hN hA hRc hRs hRf hRl hNN hE hret hrec4 o l1 l2 l3 v10 x H locs ls fo hw hW hS (lv_sub hl [1, 2, 3, 4, 0] rfl)
        · have hw := hw.2 c13
          refine lv_aload_n hx hb d_Ans_truthsOf_75 rfl (lv_at hl 1 rfl) ?_
          refine w_getf (q := (stC o 11)) (k := 11) (t := 10) (C := R_Ans) (T := F_Ans) (N := 16) hx hb hT hown hK hW fo.1 fo.2 (by decide) in_Ans rfl rfl (by decide) rfl fr_Ans_11 w_3_173 d_Ans_truthsOf_76 rfl ?_
          refine lv_iload_n hx hb d_Ans_truthsOf_79 rfl (lv_at hl 3 rfl) ?_
          refine lv_iconst (v := 1) hx hb d_Ans_truthsOf_80 (by decide) ?_
          refine lv_isub hx hb d_Ans_truthsOf_81 ?_
          refine lv_aload_n hx hb d_Ans_truthsOf_82 rfl (lv_at hl 1 rfl) ?_
          refine w_getf (q := (stC o 11)) (k := 11) (t := 10) (C := R_Ans) (T := F_Ans) (N := 16) hx hb hT hown hK hW fo.1 fo.2 (by decide) in_Ans rfl rfl (by decide) rfl fr_Ans_11 w_3_173 d_Ans_truthsOf_83 rfl ?_
          refine lv_iload_n hx hb d_Ans_truthsOf_86 rfl (lv_at hl 3 rfl) ?_
          refine lv_iconst (v := 1) hx hb d_Ans_truthsOf_87 (by decide) ?_
          refine lv_isub hx hb d_Ans_truthsOf_88 ?_
          obtain ⟨hi, hw⟩ := hw
          refine w_iald (o := (stC o 11)) hx hb hK hW (st_ty hNN fo.1 fo.2 rfl).1 (st_ty hNN fo.1 fo.2 rfl).2 hi d_Ans_truthsOf_89 ?_
          have hF := hW.free hS hA
          refine va_calli (va_runS (As := [.int (rA x (stC o 11) (l2 - 1))]) (rest := [.int (l2 - 1), .ref (ad (stC o 11))]) ⟨hx, hb, hml, hown, hT⟩ (k_Ans_turned l dC dI cI cB cJ cZ ad NN E tM tC kK kV hNN H.size (rA x (stC o 11) (l2 - 1)) x  hw) ⟨callB_of 1 hT (gwt_in w_8_81) rfl rfl rfl (hT _ w_1_13) (hT _ w_8_79) (by decide +kernel) ⟨Nat.le_trans (Nat.le_of_ble_eq_true rfl) hRf, Nat.le_trans (Nat.le_of_ble_eq_true rfl) hRl⟩, hT _ w_8_80⟩ ⟨PVc.blind, PVc.at _ hW hK hN hE hS hF⟩ rfl rfl hl.1 rfl (lv_room (Nat.le_of_ble_eq_true rfl)) d_Ans_truthsOf_90 ⟨hRc, hRs⟩) hS (fun q _ h => hF q h) hF (fun r15 x14 t H locs ht hvm hw hB hz1 hk1 hS => ?_)
          have hW := Wd.back hB ht hF
          clear hB ht hF hz1 hk1 hvm
          obtain ⟨hi, hw⟩ := hw
          refine w_iast (o := (stC o 11)) hx hb hK hW hS (st_ty hNN fo.1 fo.2 rfl).1 (st_ty hNN fo.1 fo.2 rfl).2 hi d_Ans_truthsOf_93 (fun H locs hW hS => ?_)
          obtain ⟨x16, ex16⟩ : ∃ y : St, y = setA x14 (stC o 11) (l2 - 1) r15 := ⟨_, rfl⟩
          rw [← ex16] at hW
          have hw := hw x16 ex16
          refine lv_goto (tgt := 132) hx hb d_Ans_truthsOf_94 (by decide) ?_
          exact t_Ans_truthsOf_132 hx hb hml hown hT hK hN hA hRc hRs hRf hRl hNN hE hret hrec4 o l1 l2 l3 v10 x16 H locs ls fo hw hW hS (lv_sub hl [1, 2, 3, 4, 0] rfl)
    · have hw := hw.2 c11
      refine lv_aload_n hx hb d_Ans_truthsOf_33 rfl (lv_at hl 1 rfl) ?_
      refine w_getf (q := (stC o 11)) (k := 11) (t := 10) (C := R_Ans) (T := F_Ans) (N := 16) hx hb hT hown hK hW fo.1 fo.2 (by decide) in_Ans rfl rfl (by decide) rfl fr_Ans_11 w_3_173 d_Ans_truthsOf_34 rfl ?_
      refine lv_iload_n hx hb d_Ans_truthsOf_37 rfl (lv_at hl 3 rfl) ?_
      refine lv_iload_n hx hb d_Ans_truthsOf_38 rfl (lv_at hl 2 rfl) ?_
      refine lv_iconst (v := (-1)) hx hb d_Ans_truthsOf_39 (by decide) ?_
      refine lv_icmp_ne (tgt := 51) hx hb d_Ans_truthsOf_40 (by decide) (fun c17 => ?_) (fun c17 => ?_)
      · have hw := hw.1 c17
        refine lv_aload_n hx hb d_Ans_truthsOf_51 rfl (lv_at hl 1 rfl) ?_
        refine lv_iload_n hx hb d_Ans_truthsOf_52 rfl (lv_at hl 4 rfl) ?_
        refine lv_iload_n hx hb d_Ans_truthsOf_53 rfl (lv_at hl 2 rfl) ?_
        have hF := hW.free hS hA
        refine va_calli (va_runV (C := R_Ans) (As := [.int l3, .int l1]) (rest := [.int l2, .ref (ad (stC o 11))]) ⟨hx, hb, hml, hown, hT⟩ (k_Ans_truthOfTest l dC dI cI cB cJ cZ ad NN E tM tC kK kV hNN H.size o l3 l1 x fo hw) ⟨callB_of 2 hT (gwt_in w_8_78) rfl rfl rfl (hT _ w_1_13) (hT _ w_8_75) (by decide +kernel) ⟨Nat.le_trans (Nat.le_of_ble_eq_true rfl) hRf, Nat.le_trans (Nat.le_of_ble_eq_true rfl) hRl⟩, hT _ w_8_77, hT _ ws_97⟩ ⟨PVc.blind, va_recv hK hW.1 (ci := 10) (q0 := o) rfl (pic_obj fo.1 fo.2 (by decide)), PVc.at _ hW hK hN hE hS hF⟩ rfl rfl hl.1 rfl (lv_room (Nat.le_of_ble_eq_true rfl)) d_Ans_truthsOf_54 ⟨hRc, hRs⟩) hS (fun q _ h => hF q h) hF (fun r19 x18 t H locs ht hvm hw hB hz1 hk1 hS => ?_)
        have hW := Wd.back hB ht hF
        clear hB ht hF hz1 hk1 hvm
        exact t_Ans_truthsOf_57 hx hb hml hown hT hK hN hA hRc hRs hRf hRl hNN hE hret hrec4 o l1 l2 l3 v10 r19 l2 (stC o 11) x18 H locs ls fo (st_ty hNN fo.1 fo.2 rfl) hw hW hS (lv_sub hl [1, 2, 3, 4, 0] rfl)
      · have hw := hw.2 c17
        refine lv_aload_n hx hb d_Ans_truthsOf_43 rfl (lv_at hl 1 rfl) ?_
        refine lv_iload_n hx hb d_Ans_truthsOf_44 rfl (lv_at hl 4 rfl) ?_
        have hF := hW.free hS hA
        refine va_calli (va_runV (C := R_Ans) (As := [.int l3]) (rest := [.int l2, .ref (ad (stC o 11))]) ⟨hx, hb, hml, hown, hT⟩ (k_Ans_truthsThatCanBe l dC dI cI cB cJ cZ ad NN E tM tC kK kV hNN H.size o l3 x fo hw) ⟨callB_of 1 hT (gwt_in w_8_38) rfl rfl rfl (hT _ w_1_13) (hT _ w_8_35) (by decide +kernel) ⟨Nat.le_trans (Nat.le_of_ble_eq_true rfl) hRf, Nat.le_trans (Nat.le_of_ble_eq_true rfl) hRl⟩, hT _ w_8_37, hT _ ws_89⟩ ⟨PVc.blind, va_recv hK hW.1 (ci := 10) (q0 := o) rfl (pic_obj fo.1 fo.2 (by decide)), PVc.at _ hW hK hN hE hS hF⟩ rfl rfl hl.1 rfl (lv_room (Nat.le_of_ble_eq_true rfl)) d_Ans_truthsOf_45 ⟨hRc, hRs⟩) hS (fun q _ h => hF q h) hF (fun r21 x20 t H locs ht hvm hw hB hz1 hk1 hS => ?_)
        have hW := Wd.back hB ht hF
        clear hB ht hF hz1 hk1 hvm
        refine lv_goto (tgt := 57) hx hb d_Ans_truthsOf_48 (by decide) ?_
        exact t_Ans_truthsOf_57 hx hb hml hown hT hK hN hA hRc hRs hRf hRl hNN hE hret hrec4 o l1 l2 l3 v10 r21 l2 (stC o 11) x20 H locs ls fo (st_ty hNN fo.1 fo.2 rfl) hw hW hS (lv_sub hl [1, 2, 3, 4, 0] rfl)
set_option maxHeartbeats 4000000 in
set_option maxRecDepth 100000 in
theorem tl_Ans_truthsOf_4 {p : Program} {l : Launch} {e : Env} {R : Room} {s : State} {m : MethodId} {args : Array Value} {below : List Frame} {meth : Method} {c : Code} {cells slots : Nat} {Q : State → Prop} {dC : Nat → ClassId} {dI : Nat → Nat → Nat} {cI cB cJ cZ : ClassId} {A : Nat → Prop} {ad : Nat → Nat} {NN : Nat} {E : Heap} {tM tC : Nat} {kK kV : Nat → Nat} {post : Int32 → St → Prop} (hx : p.tables.exec = Jvm.exec) (hb : c.code = b_Ans_truthsOf) (hml : c.maxLocals = 5) (hown : s.vm.findClass R_Ans = some m.cls) (hT : ∀ w ∈ TG, w.before args s = true) (hK : va_K (dC, dI) CL (TY cI cB cJ cZ) s) (hN : NW s) (hA : ∀ q : Nat, s.heap.size ≤ q → A q) (hRc : cells ≤ R.cells) (hRs : slots ≤ R.slots) (hRf : 5 ≤ R.frames) (hRl : 200 ≤ R.locals) (hNN : 152 ≤ NN) (hE : CE E tM tC kK kV A s) (hret : ∀ (r : Int32) (x : St) (H : Heap) (locs : List Loc) (pc : Nat) (ls : Array Slot), decode b_Ans_truthsOf pc = .ok (.ireturn, 1) → post r x → Wd dC dI cI cB cJ cZ ad stC kcC NN A x H → va_S A s.heap H locs → W p l e R s m args below meth c H locs cells slots Q (F0 m pc ls [.int r]))  : ∀ n : Nat, ∀ (o : Nat) (l1 : Int32) (l2 : Int32) (l3 : Int32) (x : St) (H : Heap) (locs : List Loc) (ls : Array Slot), (o < NN ∧ kcC o = 10) → wl_Ans_truthsOf_4 post n o l1 l2 l3 x → Wd dC dI cI cB cJ cZ ad stC kcC NN A x H → va_S A s.heap H locs → lv_has ls 5 [(0, .ref (ad o)), (1, .int l1), (2, .int l2), (3, .int l3)] → W p l e R s m args below meth c H locs cells slots Q (F0 m 4 ls []) := by
  intro n
  induction n with
  | zero => intro o l1 l2 l3 x H locs ls fo hw; exact hw.elim
  | succ n ih => intro o l1 l2 l3 x H locs ls fo hw hW hS hl; exact t_Ans_truthsOf_4 hx hb hml hown hT hK hN hA hRc hRs hRf hRl hNN hE hret  ih o l1 l2 l3 x H locs ls fo hw hW hS hl
set_option maxRecDepth 100000 in
set_option maxHeartbeats 4000000 in
set_option maxRecDepth 100000 in
theorem t_Ans_truthsOf_e {p : Program} {l : Launch} {e : Env} {R : Room} {s : State} {m : MethodId} {args : Array Value} {below : List Frame} {meth : Method} {c : Code} {cells slots : Nat} {Q : State → Prop} {dC : Nat → ClassId} {dI : Nat → Nat → Nat} {cI cB cJ cZ : ClassId} {A : Nat → Prop} {ad : Nat → Nat} {NN : Nat} {E : Heap} {tM tC : Nat} {kK kV : Nat → Nat} {post : Int32 → St → Prop} (hx : p.tables.exec = Jvm.exec) (hb : c.code = b_Ans_truthsOf) (hml : c.maxLocals = 5) (hown : s.vm.findClass R_Ans = some m.cls) (hT : ∀ w ∈ TG, w.before args s = true) (hK : va_K (dC, dI) CL (TY cI cB cJ cZ) s) (hN : NW s) (hA : ∀ q : Nat, s.heap.size ≤ q → A q) (hRc : cells ≤ R.cells) (hRs : slots ≤ R.slots) (hRf : 5 ≤ R.frames) (hRl : 200 ≤ R.locals) (hNN : 152 ≤ NN) (hE : CE E tM tC kK kV A s) (hret : ∀ (r : Int32) (x : St) (H : Heap) (locs : List Loc) (pc : Nat) (ls : Array Slot), decode b_Ans_truthsOf pc = .ok (.ireturn, 1) → post r x → Wd dC dI cI cB cJ cZ ad stC kcC NN A x H → va_S A s.heap H locs → W p l e R s m args below meth c H locs cells slots Q (F0 m pc ls [.int r])) : ∀ (o : Nat) (l1 : Int32) (x : St) (H : Heap) (locs : List Loc) (ls : Array Slot), (o < NN ∧ kcC o = 10) → wp_Ans_truthsOf post o l1 x → Wd dC dI cI cB cJ cZ ad stC kcC NN A x H → va_S A s.heap H locs → lv_has ls 5 [(0, .ref (ad o)), (1, .int l1)] → W p l e R s m args below meth c H locs cells slots Q (F0 m 0 ls []) := by
  intro o l1 x H locs ls fo hw hW hS hl
  unfold wp_Ans_truthsOf at hw
  refine lv_iconst (v := 0) hx hb d_Ans_truthsOf_0 (by decide) ?_
  refine lv_istore_n (lv' := [(2, .int 0), (0, .ref (ad o)), (1, .int l1)]) hx hb d_Ans_truthsOf_1 rfl hl (by decide) rfl (fun ls hl => ?_)
  refine lv_iconst (v := 0) hx hb d_Ans_truthsOf_2 (by decide) ?_
  refine lv_istore_n (lv' := [(3, .int 0), (2, .int 0), (0, .ref (ad o)), (1, .int l1)]) hx hb d_Ans_truthsOf_3 rfl hl (by decide) rfl (fun ls hl => ?_)
  obtain ⟨n, hw⟩ := hw
  exact tl_Ans_truthsOf_4 hx hb hml hown hT hK hN hA hRc hRs hRf hRl hNN hE hret  n o l1 0 0 x H locs ls fo hw hW hS (lv_sub hl [2, 3, 1, 0] rfl)
set_option maxHeartbeats 4000000 in
set_option maxRecDepth 100000 in
theorem k_Ans_truthsOf (l : Launch) (dC : Nat → ClassId) (dI : Nat → Nat → Nat) (cI cB cJ cZ : ClassId) (ad : Nat → Nat) (NN : Nat) (E : Heap) (tM tC : Nat) (kK kV : Nat → Nat) (hNN : 152 ≤ NN) (sz : Nat) (o : Nat) (l1 : Int32) (x : St) (fo : o < NN ∧ kcC o = 10) {post : Int32 → St → Prop} (hw : wp_Ans_truthsOf post o l1 x) : Met l y_Ans_truthsOf (wsOf y_Ans_truthsOf b_Ans_truthsOf 5 (some (.int))) ({ frames := 5, cells := 0, slots := 0, locals := 200 }) (va_Pc [.ref (ad o), .int l1] (PVc dC dI cI cB cJ cZ ad stC kcC NN E tM tC kK kV sz x)) (va_Qi (fun (r : Int32) (y : St) => post r y) (fun y t => Wd dC dI cI cB cJ cZ ad stC kcC NN (va_A (pic ad stC kcC NN cI cB cJ cZ x) sz) y t.heap) (va_A (pic ad stC kcC NN cI cB cJ cZ x) sz)) 0 0 (va_A (pic ad stC kcC NN cI cB cJ cZ x) sz) := by
  refine Met.ofW (cc := b_Ans_truthsOf) (maxL := 5) (ret := some (.int)) (by decide) rfl ?_
  intro p e s m args below meth c s₁ B hml hv
  obtain ⟨rfl, ⟨hsz, hW0, hK, hN⟩, hE⟩ := hv
  have hx := B.exec
  have hb := B.bytes
  have hr := B.returns
  have hts := atoms_spec B.pre
  have hT : ∀ w ∈ TG, w.before _ s = true := fun w h => hts w (List.mem_cons_of_mem _ h)
  have hown : s.vm.findClass R_Ans = some m.cls := findClass_of_methodNamed B.named
  have hlocks := B.notSynchronized
  subst hsz
  have hW : Wd dC dI cI cB cJ cZ ad stC kcC NN (va_A (pic ad stC kcC NN cI cB cJ cZ x) s.heap.size) x s.heap := ⟨hW0.1, hW0.2.1.self (sz := s.heap.size), hW0.2.2⟩
  generalize hAe : va_A (pic ad stC kcC NN cI cB cJ cZ x) s.heap.size = A at hW hE ⊢
  have hA : ∀ q : Nat, s.heap.size ≤ q → A q := fun q h => by rw [← hAe]; exact Or.inr h
  have hS : va_S A s.heap s.heap [] := va_S.rf
  have hl := lv_entry ([.ref (ad o), .int l1]) (n := 5) (Nat.le_of_ble_eq_true rfl)
  rw [lg_entry_eq]
  generalize (lg_sl ([.ref (ad o), .int l1]) ++ List.replicate (5 - (lg_sl ([.ref (ad o), .int l1])).length) Slot.unset).toArray = ls at hl ⊢
  have hl : lv_has ls 5 [(0, .ref (ad o)), (1, .int l1)] := hl
  exact t_Ans_truthsOf_e hx hb hml hown hT hK hN hA (Nat.le_refl 0) (Nat.le_refl 0) (Nat.le_refl 5) (Nat.le_refl 200) hNN hE (fun r x H locs pc ls hd hp hW hS => W.iret (v := r) hx hb hr (fun t ht hM => ⟨⟨r, x, rfl, hp, Wd.back hW ht.symm (fun _ z => z)⟩, hS.F ht⟩) hS.2.2 hd hlocks)  o l1 x _ _ ls fo hw hW hS hl
end
