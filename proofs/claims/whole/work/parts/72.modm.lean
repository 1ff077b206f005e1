theorem fr_Mod_118 : F_Mod 118 = (R_Mod, "now", "I", false) := rfl
theorem w_13_141 : (Jvm.Cond.methodLink "StripedVaultModel" (1025 : Nat) ({ cls := "StripedVaultModel", name := "flatColumn", desc := "()I" } : Jvm.MethodName)) ∈ TG := tw_13 141 (by decide +kernel) (by decide +kernel)
theorem w_13_143 : (Jvm.Cond.instanceMethod ({ cls := "StripedVaultModel", name := "flatColumn", desc := "()I" } : Jvm.MethodName)) ∈ TG := tw_13 143 (by decide +kernel) (by decide +kernel)
theorem w_13_144 : (Jvm.Cond.code ({ cls := "StripedVaultModel", name := "flatColumn", desc := "()I" } : Jvm.MethodName) prog_14_method_160_code (3 : Nat) (Option.some Jvm.ClassFile.FieldType.int)) ∈ TG := tw_13 144 (by decide +kernel) (by decide +kernel)
theorem w_13_149 : (Jvm.Cond.methodLink "StripedVaultModel" (1028 : Nat) ({ cls := "StripedVaultModel", name := "isWhole", desc := "(I)Z" } : Jvm.MethodName)) ∈ TG := tw_13 149 (by decide +kernel) (by decide +kernel)
theorem w_13_150 : (Jvm.Cond.static ({ cls := "StripedVaultModel", name := "isWhole", desc := "(I)Z" } : Jvm.MethodName)) ∈ TG := tw_13 150 (by decide +kernel) (by decide +kernel)
theorem w_13_151 : (Jvm.Cond.code ({ cls := "StripedVaultModel", name := "isWhole", desc := "(I)Z" } : Jvm.MethodName) prog_14_method_161_code (1 : Nat) (Option.some Jvm.ClassFile.FieldType.boolean)) ∈ TG := tw_13 151 (by decide +kernel) (by decide +kernel)
theorem w_9_54 : (Jvm.Cond.fieldLink "StripedVaultModel" (1022 : Nat) "StripedVaultModel" "now" "I") ∈ TG := tw_9 54 (by decide +kernel) (by decide +kernel)
theorem ws_239 : Cond.selects R_Mod y_Mod_flatColumn y_Mod_flatColumn ∈ TG := tw_s 239 (by decide +kernel) (by decide +kernel)
theorem d_Mod_isWhole_10 : decode b_Mod_isWhole 10 = .ok (.iconst 1, 1) := by decide +kernel
theorem d_Mod_isWhole_11 : decode b_Mod_isWhole 11 = .ok (.goto 4, 3) := by decide +kernel
theorem d_Mod_isWhole_15 : decode b_Mod_isWhole 15 = .ok (.ireturn, 1) := by decide +kernel
theorem d_Mod_isWhole_0 : decode b_Mod_isWhole 0 = .ok (.iload_n 0, 1) := by decide +kernel
theorem d_Mod_isWhole_1 : decode b_Mod_isWhole 1 = .ok (.iconst 1, 1) := by decide +kernel
theorem d_Mod_isWhole_2 : decode b_Mod_isWhole 2 = .ok (.if_icmp .eq 8, 3) := by decide +kernel
theorem d_Mod_isWhole_5 : decode b_Mod_isWhole 5 = .ok (.iload_n 0, 1) := by decide +kernel
theorem d_Mod_isWhole_6 : decode b_Mod_isWhole 6 = .ok (.iconst 2, 1) := by decide +kernel
theorem d_Mod_isWhole_7 : decode b_Mod_isWhole 7 = .ok (.if_icmp .ne 7, 3) := by decide +kernel
theorem d_Mod_isWhole_14 : decode b_Mod_isWhole 14 = .ok (.iconst 0, 1) := by decide +kernel
theorem d_Mod_readItem_218 : decode b_Mod_readItem 218 = .ok (.aload_n 0, 1) := by decide +kernel
theorem d_Mod_readItem_219 : decode b_Mod_readItem 219 = .ok (.getfield 376, 3) := by decide +kernel
theorem d_Mod_readItem_222 : decode b_Mod_readItem 222 = .ok (.iconst (-1), 1) := by decide +kernel
theorem d_Mod_readItem_223 : decode b_Mod_readItem 223 = .ok (.if_icmp .eq 4, 3) := by decide +kernel
theorem d_Mod_readItem_227 : decode b_Mod_readItem 227 = .ok (.aload_n 0, 1) := by decide +kernel
theorem d_Mod_readItem_228 : decode b_Mod_readItem 228 = .ok (.getfield 255, 3) := by decide +kernel
theorem d_Mod_readItem_231 : decode b_Mod_readItem 231 = .ok (.bipush 16, 2) := by decide +kernel
theorem d_Mod_readItem_233 : decode b_Mod_readItem 233 = .ok (.aload_n 0, 1) := by decide +kernel
theorem d_Mod_readItem_234 : decode b_Mod_readItem 234 = .ok (.getfield 1022, 3) := by decide +kernel
theorem d_Mod_readItem_237 : decode b_Mod_readItem 237 = .ok (.imul, 1) := by decide +kernel
theorem d_Mod_readItem_238 : decode b_Mod_readItem 238 = .ok (.iload_n 2, 1) := by decide +kernel
theorem d_Mod_readItem_239 : decode b_Mod_readItem 239 = .ok (.iadd, 1) := by decide +kernel
theorem d_Mod_readItem_240 : decode b_Mod_readItem 240 = .ok (.iload_n 3, 1) := by decide +kernel
theorem d_Mod_readItem_241 : decode b_Mod_readItem 241 = .ok (.iastore, 1) := by decide +kernel
theorem d_Mod_readItem_242 : decode b_Mod_readItem 242 = .ok (.aload_n 0, 1) := by decide +kernel
theorem d_Mod_readItem_243 : decode b_Mod_readItem 243 = .ok (.getfield 258, 3) := by decide +kernel
theorem d_Mod_readItem_246 : decode b_Mod_readItem 246 = .ok (.bipush 16, 2) := by decide +kernel
theorem d_Mod_readItem_248 : decode b_Mod_readItem 248 = .ok (.aload_n 0, 1) := by decide +kernel
theorem d_Mod_readItem_249 : decode b_Mod_readItem 249 = .ok (.getfield 1022, 3) := by decide +kernel
theorem d_Mod_readItem_252 : decode b_Mod_readItem 252 = .ok (.imul, 1) := by decide +kernel
theorem d_Mod_readItem_253 : decode b_Mod_readItem 253 = .ok (.iload_n 2, 1) := by decide +kernel
theorem d_Mod_readItem_254 : decode b_Mod_readItem 254 = .ok (.iadd, 1) := by decide +kernel
theorem d_Mod_readItem_255 : decode b_Mod_readItem 255 = .ok (.iload 4, 2) := by decide +kernel
theorem d_Mod_readItem_257 : decode b_Mod_readItem 257 = .ok (.iastore, 1) := by decide +kernel
theorem d_Mod_readItem_258 : decode b_Mod_readItem 258 = .ok (.aload_n 0, 1) := by decide +kernel
theorem d_Mod_readItem_259 : decode b_Mod_readItem 259 = .ok (.getfield 261, 3) := by decide +kernel
theorem d_Mod_readItem_262 : decode b_Mod_readItem 262 = .ok (.bipush 16, 2) := by decide +kernel
theorem d_Mod_readItem_264 : decode b_Mod_readItem 264 = .ok (.aload_n 0, 1) := by decide +kernel
theorem d_Mod_readItem_265 : decode b_Mod_readItem 265 = .ok (.getfield 1022, 3) := by decide +kernel
theorem d_Mod_readItem_268 : decode b_Mod_readItem 268 = .ok (.imul, 1) := by decide +kernel
theorem d_Mod_readItem_269 : decode b_Mod_readItem 269 = .ok (.iload_n 2, 1) := by decide +kernel
theorem d_Mod_readItem_270 : decode b_Mod_readItem 270 = .ok (.iadd, 1) := by decide +kernel
theorem d_Mod_readItem_271 : decode b_Mod_readItem 271 = .ok (.iload_n 1, 1) := by decide +kernel
theorem d_Mod_readItem_272 : decode b_Mod_readItem 272 = .ok (.iastore, 1) := by decide +kernel
theorem d_Mod_readItem_273 : decode b_Mod_readItem 273 = .ok (.aload_n 0, 1) := by decide +kernel
theorem d_Mod_readItem_274 : decode b_Mod_readItem 274 = .ok (.getfield 252, 3) := by decide +kernel
theorem d_Mod_readItem_277 : decode b_Mod_readItem 277 = .ok (.iconst 4, 1) := by decide +kernel
theorem d_Mod_readItem_278 : decode b_Mod_readItem 278 = .ok (.aload_n 0, 1) := by decide +kernel
theorem d_Mod_readItem_279 : decode b_Mod_readItem 279 = .ok (.getfield 1022, 3) := by decide +kernel
theorem d_Mod_readItem_282 : decode b_Mod_readItem 282 = .ok (.imul, 1) := by decide +kernel
theorem d_Mod_readItem_283 : decode b_Mod_readItem 283 = .ok (.dup2, 1) := by decide +kernel
theorem d_Mod_readItem_284 : decode b_Mod_readItem 284 = .ok (.iaload, 1) := by decide +kernel
theorem d_Mod_readItem_285 : decode b_Mod_readItem 285 = .ok (.iconst 1, 1) := by decide +kernel
theorem d_Mod_readItem_286 : decode b_Mod_readItem 286 = .ok (.iadd, 1) := by decide +kernel
theorem d_Mod_readItem_287 : decode b_Mod_readItem 287 = .ok (.iastore, 1) := by decide +kernel
theorem d_Mod_readItem_288 : decode b_Mod_readItem 288 = .ok (.return_, 1) := by decide +kernel
theorem d_Mod_readItem_226 : decode b_Mod_readItem 226 = .ok (.return_, 1) := by decide +kernel
theorem d_Mod_readItem_212 : decode b_Mod_readItem 212 = .ok (.aload_n 0, 1) := by decide +kernel
theorem d_Mod_readItem_213 : decode b_Mod_readItem 213 = .ok (.bipush 41, 2) := by decide +kernel
theorem d_Mod_readItem_215 : decode b_Mod_readItem 215 = .ok (.invokevirtual 454, 3) := by decide +kernel
theorem d_Mod_readItem_153 : decode b_Mod_readItem 153 = .ok (.istore_n 3, 1) := by decide +kernel
theorem d_Mod_readItem_154 : decode b_Mod_readItem 154 = .ok (.aload_n 0, 1) := by decide +kernel
theorem d_Mod_readItem_155 : decode b_Mod_readItem 155 = .ok (.bipush 40, 2) := by decide +kernel
theorem d_Mod_readItem_157 : decode b_Mod_readItem 157 = .ok (.invokevirtual 454, 3) := by decide +kernel
theorem d_Mod_readItem_160 : decode b_Mod_readItem 160 = .ok (.aload_n 0, 1) := by decide +kernel
theorem d_Mod_readItem_161 : decode b_Mod_readItem 161 = .ok (.invokevirtual 394, 3) := by decide +kernel
theorem d_Mod_readItem_164 : decode b_Mod_readItem 164 = .ok (.aload_n 0, 1) := by decide +kernel
theorem d_Mod_readItem_165 : decode b_Mod_readItem 165 = .ok (.getfield 373, 3) := by decide +kernel
theorem d_Mod_readItem_168 : decode b_Mod_readItem 168 = .ok (.istore 5, 2) := by decide +kernel
theorem d_Mod_readItem_170 : decode b_Mod_readItem 170 = .ok (.aload_n 0, 1) := by decide +kernel
theorem d_Mod_readItem_171 : decode b_Mod_readItem 171 = .ok (.invokevirtual 1025, 3) := by decide +kernel
theorem d_Mod_readItem_174 : decode b_Mod_readItem 174 = .ok (.istore 4, 2) := by decide +kernel
theorem d_Mod_readItem_176 : decode b_Mod_readItem 176 = .ok (.aload_n 0, 1) := by decide +kernel
theorem d_Mod_readItem_177 : decode b_Mod_readItem 177 = .ok (.getfield 376, 3) := by decide +kernel
theorem d_Mod_readItem_180 : decode b_Mod_readItem 180 = .ok (.iconst (-1), 1) := by decide +kernel
theorem d_Mod_readItem_181 : decode b_Mod_readItem 181 = .ok (.if_icmp .ne 31, 3) := by decide +kernel
theorem d_Mod_readItem_184 : decode b_Mod_readItem 184 = .ok (.iload_n 3, 1) := by decide +kernel
theorem d_Mod_readItem_185 : decode b_Mod_readItem 185 = .ok (.iconst 3, 1) := by decide +kernel
theorem d_Mod_readItem_186 : decode b_Mod_readItem 186 = .ok (.if_icmp .ne 26, 3) := by decide +kernel
theorem d_Mod_readItem_189 : decode b_Mod_readItem 189 = .ok (.aload_n 0, 1) := by decide +kernel
theorem d_Mod_readItem_190 : decode b_Mod_readItem 190 = .ok (.getfield 20, 3) := by decide +kernel
theorem d_Mod_readItem_193 : decode b_Mod_readItem 193 = .ok (.iconst 1, 1) := by decide +kernel
theorem d_Mod_readItem_194 : decode b_Mod_readItem 194 = .ok (.iload 4, 2) := by decide +kernel
theorem d_Mod_readItem_196 : decode b_Mod_readItem 196 = .ok (.invokestatic 412, 3) := by decide +kernel
theorem d_Mod_readItem_199 : decode b_Mod_readItem 199 = .ok (.iaload, 1) := by decide +kernel
theorem d_Mod_readItem_200 : decode b_Mod_readItem 200 = .ok (.invokestatic 1028, 3) := by decide +kernel
theorem d_Mod_readItem_203 : decode b_Mod_readItem 203 = .ok (.ifCond .ne 9, 3) := by decide +kernel
theorem d_Mod_readItem_206 : decode b_Mod_readItem 206 = .ok (.aload_n 0, 1) := by decide +kernel
theorem d_Mod_readItem_207 : decode b_Mod_readItem 207 = .ok (.iload 5, 2) := by decide +kernel
theorem d_Mod_readItem_209 : decode b_Mod_readItem 209 = .ok (.invokevirtual 408, 3) := by decide +kernel
theorem d_Mod_readItem_143 : decode b_Mod_readItem 143 = .ok (.iload_n 3, 1) := by decide +kernel
theorem d_Mod_readItem_144 : decode b_Mod_readItem 144 = .ok (.iconst 1, 1) := by decide +kernel
theorem d_Mod_readItem_145 : decode b_Mod_readItem 145 = .ok (.if_icmp .ne 7, 3) := by decide +kernel
theorem d_Mod_readItem_152 : decode b_Mod_readItem 152 = .ok (.iload_n 3, 1) := by decide +kernel
theorem d_Mod_readItem_148 : decode b_Mod_readItem 148 = .ok (.iconst 2, 1) := by decide +kernel
theorem d_Mod_readItem_149 : decode b_Mod_readItem 149 = .ok (.goto 4, 3) := by decide +kernel
theorem d_Mod_readItem_89 : decode b_Mod_readItem 89 = .ok (.istore_n 3, 1) := by decide +kernel
theorem d_Mod_readItem_90 : decode b_Mod_readItem 90 = .ok (.iconst (-1), 1) := by decide +kernel
theorem d_Mod_readItem_91 : decode b_Mod_readItem 91 = .ok (.istore 4, 2) := by decide +kernel
theorem d_Mod_readItem_93 : decode b_Mod_readItem 93 = .ok (.aload_n 0, 1) := by decide +kernel
theorem d_Mod_readItem_94 : decode b_Mod_readItem 94 = .ok (.invokevirtual 394, 3) := by decide +kernel
theorem d_Mod_readItem_97 : decode b_Mod_readItem 97 = .ok (.iload_n 3, 1) := by decide +kernel
theorem d_Mod_readItem_98 : decode b_Mod_readItem 98 = .ok (.ifCond .ne 31, 3) := by decide +kernel
theorem d_Mod_readItem_129 : decode b_Mod_readItem 129 = .ok (.iload_n 3, 1) := by decide +kernel
theorem d_Mod_readItem_130 : decode b_Mod_readItem 130 = .ok (.iconst 1, 1) := by decide +kernel
theorem d_Mod_readItem_131 : decode b_Mod_readItem 131 = .ok (.if_icmp .gt 12, 3) := by decide +kernel
theorem d_Mod_readItem_134 : decode b_Mod_readItem 134 = .ok (.aload_n 0, 1) := by decide +kernel
theorem d_Mod_readItem_135 : decode b_Mod_readItem 135 = .ok (.invokevirtual 379, 3) := by decide +kernel
theorem d_Mod_readItem_138 : decode b_Mod_readItem 138 = .ok (.bipush 40, 2) := by decide +kernel
theorem d_Mod_readItem_140 : decode b_Mod_readItem 140 = .ok (.if_icmp .ne 78, 3) := by decide +kernel
theorem d_Mod_readItem_101 : decode b_Mod_readItem 101 = .ok (.aload_n 0, 1) := by decide +kernel
theorem d_Mod_readItem_102 : decode b_Mod_readItem 102 = .ok (.invokevirtual 1016, 3) := by decide +kernel
theorem d_Mod_readItem_105 : decode b_Mod_readItem 105 = .ok (.istore 4, 2) := by decide +kernel
theorem d_Mod_readItem_107 : decode b_Mod_readItem 107 = .ok (.aload_n 0, 1) := by decide +kernel
theorem d_Mod_readItem_108 : decode b_Mod_readItem 108 = .ok (.getfield 376, 3) := by decide +kernel
theorem d_Mod_readItem_111 : decode b_Mod_readItem 111 = .ok (.iconst (-1), 1) := by decide +kernel
theorem d_Mod_readItem_112 : decode b_Mod_readItem 112 = .ok (.if_icmp .ne 106, 3) := by decide +kernel
theorem d_Mod_readItem_115 : decode b_Mod_readItem 115 = .ok (.iload 4, 2) := by decide +kernel
theorem d_Mod_readItem_117 : decode b_Mod_readItem 117 = .ok (.iconst (-1), 1) := by decide +kernel
theorem d_Mod_readItem_118 : decode b_Mod_readItem 118 = .ok (.if_icmp .ne 100, 3) := by decide +kernel
theorem d_Mod_readItem_121 : decode b_Mod_readItem 121 = .ok (.aload_n 0, 1) := by decide +kernel
theorem d_Mod_readItem_122 : decode b_Mod_readItem 122 = .ok (.iload_n 1, 1) := by decide +kernel
theorem d_Mod_readItem_123 : decode b_Mod_readItem 123 = .ok (.invokevirtual 408, 3) := by decide +kernel
theorem d_Mod_readItem_126 : decode b_Mod_readItem 126 = .ok (.goto 92, 3) := by decide +kernel
theorem d_Mod_readItem_32 : decode b_Mod_readItem 32 = .ok (.aload_n 0, 1) := by decide +kernel
theorem d_Mod_readItem_33 : decode b_Mod_readItem 33 = .ok (.ldc2_w 1005, 3) := by decide +kernel
theorem d_Mod_readItem_36 : decode b_Mod_readItem 36 = .ok (.invokevirtual 425, 3) := by decide +kernel
theorem d_Mod_readItem_39 : decode b_Mod_readItem 39 = .ok (.ifCond .eq 7, 3) := by decide +kernel
theorem d_Mod_readItem_46 : decode b_Mod_readItem 46 = .ok (.aload_n 0, 1) := by decide +kernel
theorem d_Mod_readItem_47 : decode b_Mod_readItem 47 = .ok (.ldc2_w 1007, 3) := by decide +kernel
theorem d_Mod_readItem_50 : decode b_Mod_readItem 50 = .ok (.invokevirtual 425, 3) := by decide +kernel
theorem d_Mod_readItem_53 : decode b_Mod_readItem 53 = .ok (.ifCond .eq 7, 3) := by decide +kernel
theorem d_Mod_readItem_60 : decode b_Mod_readItem 60 = .ok (.aload_n 0, 1) := by decide +kernel
theorem d_Mod_readItem_61 : decode b_Mod_readItem 61 = .ok (.ldc2_w 1009, 3) := by decide +kernel
theorem d_Mod_readItem_64 : decode b_Mod_readItem 64 = .ok (.invokevirtual 425, 3) := by decide +kernel
theorem d_Mod_readItem_67 : decode b_Mod_readItem 67 = .ok (.ifCond .eq 7, 3) := by decide +kernel
theorem d_Mod_readItem_74 : decode b_Mod_readItem 74 = .ok (.aload_n 0, 1) := by decide +kernel
theorem d_Mod_readItem_75 : decode b_Mod_readItem 75 = .ok (.ldc2_w 1011, 3) := by decide +kernel
theorem d_Mod_readItem_78 : decode b_Mod_readItem 78 = .ok (.invokevirtual 425, 3) := by decide +kernel
theorem d_Mod_readItem_81 : decode b_Mod_readItem 81 = .ok (.ifCond .eq 7, 3) := by decide +kernel
theorem d_Mod_readItem_88 : decode b_Mod_readItem 88 = .ok (.iconst 0, 1) := by decide +kernel
theorem d_Mod_readItem_84 : decode b_Mod_readItem 84 = .ok (.iconst 5, 1) := by decide +kernel
theorem d_Mod_readItem_85 : decode b_Mod_readItem 85 = .ok (.goto 4, 3) := by decide +kernel
theorem d_Mod_readItem_70 : decode b_Mod_readItem 70 = .ok (.iconst 4, 1) := by decide +kernel
theorem d_Mod_readItem_71 : decode b_Mod_readItem 71 = .ok (.goto 18, 3) := by decide +kernel
theorem d_Mod_readItem_56 : decode b_Mod_readItem 56 = .ok (.iconst 3, 1) := by decide +kernel
theorem d_Mod_readItem_57 : decode b_Mod_readItem 57 = .ok (.goto 32, 3) := by decide +kernel
theorem d_Mod_readItem_42 : decode b_Mod_readItem 42 = .ok (.iconst 1, 1) := by decide +kernel
theorem d_Mod_readItem_43 : decode b_Mod_readItem 43 = .ok (.goto 46, 3) := by decide +kernel
theorem d_Mod_readItem_0 : decode b_Mod_readItem 0 = .ok (.aload_n 0, 1) := by decide +kernel
theorem d_Mod_readItem_1 : decode b_Mod_readItem 1 = .ok (.invokevirtual 394, 3) := by decide +kernel
theorem d_Mod_readItem_4 : decode b_Mod_readItem 4 = .ok (.aload_n 0, 1) := by decide +kernel
theorem d_Mod_readItem_5 : decode b_Mod_readItem 5 = .ok (.getfield 373, 3) := by decide +kernel
theorem d_Mod_readItem_8 : decode b_Mod_readItem 8 = .ok (.istore_n 1, 1) := by decide +kernel
theorem d_Mod_readItem_9 : decode b_Mod_readItem 9 = .ok (.aload_n 0, 1) := by decide +kernel
theorem d_Mod_readItem_10 : decode b_Mod_readItem 10 = .ok (.getfield 252, 3) := by decide +kernel
theorem d_Mod_readItem_13 : decode b_Mod_readItem 13 = .ok (.iconst 4, 1) := by decide +kernel
theorem d_Mod_readItem_14 : decode b_Mod_readItem 14 = .ok (.aload_n 0, 1) := by decide +kernel
theorem d_Mod_readItem_15 : decode b_Mod_readItem 15 = .ok (.getfield 1022, 3) := by decide +kernel
theorem d_Mod_readItem_18 : decode b_Mod_readItem 18 = .ok (.imul, 1) := by decide +kernel
theorem d_Mod_readItem_19 : decode b_Mod_readItem 19 = .ok (.iaload, 1) := by decide +kernel
theorem d_Mod_readItem_20 : decode b_Mod_readItem 20 = .ok (.istore_n 2, 1) := by decide +kernel
theorem d_Mod_readItem_21 : decode b_Mod_readItem 21 = .ok (.iload_n 2, 1) := by decide +kernel
theorem d_Mod_readItem_22 : decode b_Mod_readItem 22 = .ok (.bipush 16, 2) := by decide +kernel
theorem d_Mod_readItem_24 : decode b_Mod_readItem 24 = .ok (.if_icmp .ne 8, 3) := by decide +kernel
theorem d_Mod_readItem_27 : decode b_Mod_readItem 27 = .ok (.aload_n 0, 1) := by decide +kernel
theorem d_Mod_readItem_28 : decode b_Mod_readItem 28 = .ok (.iload_n 1, 1) := by decide +kernel
theorem d_Mod_readItem_29 : decode b_Mod_readItem 29 = .ok (.invokevirtual 408, 3) := by decide +kernel
theorem d_Mod_addStep_23 : decode b_Mod_addStep 23 = .ok (.aload_n 0, 1) := by decide +kernel
theorem d_Mod_addStep_24 : decode b_Mod_addStep 24 = .ok (.getfield 376, 3) := by decide +kernel
theorem d_Mod_addStep_27 : decode b_Mod_addStep 27 = .ok (.iconst (-1), 1) := by decide +kernel
theorem d_Mod_addStep_28 : decode b_Mod_addStep 28 = .ok (.if_icmp .eq 4, 3) := by decide +kernel
theorem d_Mod_addStep_32 : decode b_Mod_addStep 32 = .ok (.bipush 64, 2) := by decide +kernel
theorem d_Mod_addStep_34 : decode b_Mod_addStep 34 = .ok (.aload_n 0, 1) := by decide +kernel
theorem d_Mod_addStep_35 : decode b_Mod_addStep 35 = .ok (.getfield 1022, 3) := by decide +kernel
theorem d_Mod_addStep_38 : decode b_Mod_addStep 38 = .ok (.imul, 1) := by decide +kernel
theorem d_Mod_addStep_39 : decode b_Mod_addStep 39 = .ok (.aload_n 0, 1) := by decide +kernel
theorem d_Mod_addStep_40 : decode b_Mod_addStep 40 = .ok (.getfield 252, 3) := by decide +kernel
theorem d_Mod_addStep_43 : decode b_Mod_addStep 43 = .ok (.iconst 4, 1) := by decide +kernel
theorem d_Mod_addStep_44 : decode b_Mod_addStep 44 = .ok (.aload_n 0, 1) := by decide +kernel
theorem d_Mod_addStep_45 : decode b_Mod_addStep 45 = .ok (.getfield 1022, 3) := by decide +kernel
theorem d_Mod_addStep_48 : decode b_Mod_addStep 48 = .ok (.imul, 1) := by decide +kernel
theorem d_Mod_addStep_49 : decode b_Mod_addStep 49 = .ok (.iconst 2, 1) := by decide +kernel
theorem d_Mod_addStep_50 : decode b_Mod_addStep 50 = .ok (.iadd, 1) := by decide +kernel
theorem d_Mod_addStep_51 : decode b_Mod_addStep 51 = .ok (.iaload, 1) := by decide +kernel
theorem d_Mod_addStep_52 : decode b_Mod_addStep 52 = .ok (.iadd, 1) := by decide +kernel
theorem d_Mod_addStep_53 : decode b_Mod_addStep 53 = .ok (.istore 7, 2) := by decide +kernel
theorem d_Mod_addStep_55 : decode b_Mod_addStep 55 = .ok (.aload_n 0, 1) := by decide +kernel
theorem d_Mod_addStep_56 : decode b_Mod_addStep 56 = .ok (.getfield 267, 3) := by decide +kernel
theorem d_Mod_addStep_59 : decode b_Mod_addStep 59 = .ok (.iload 7, 2) := by decide +kernel
theorem d_Mod_addStep_61 : decode b_Mod_addStep 61 = .ok (.iload_n 2, 1) := by decide +kernel
theorem d_Mod_addStep_62 : decode b_Mod_addStep 62 = .ok (.iastore, 1) := by decide +kernel
theorem d_Mod_addStep_63 : decode b_Mod_addStep 63 = .ok (.aload_n 0, 1) := by decide +kernel
theorem d_Mod_addStep_64 : decode b_Mod_addStep 64 = .ok (.getfield 270, 3) := by decide +kernel
theorem d_Mod_addStep_67 : decode b_Mod_addStep 67 = .ok (.iload 7, 2) := by decide +kernel
theorem d_Mod_addStep_69 : decode b_Mod_addStep 69 = .ok (.iload_n 3, 1) := by decide +kernel
theorem d_Mod_addStep_70 : decode b_Mod_addStep 70 = .ok (.iastore, 1) := by decide +kernel
theorem d_Mod_addStep_71 : decode b_Mod_addStep 71 = .ok (.aload_n 0, 1) := by decide +kernel
theorem d_Mod_addStep_72 : decode b_Mod_addStep 72 = .ok (.getfield 273, 3) := by decide +kernel
theorem d_Mod_addStep_75 : decode b_Mod_addStep 75 = .ok (.iload 7, 2) := by decide +kernel
theorem d_Mod_addStep_77 : decode b_Mod_addStep 77 = .ok (.iload 4, 2) := by decide +kernel
theorem d_Mod_addStep_79 : decode b_Mod_addStep 79 = .ok (.iastore, 1) := by decide +kernel
theorem d_Mod_addStep_80 : decode b_Mod_addStep 80 = .ok (.aload_n 0, 1) := by decide +kernel
theorem d_Mod_addStep_81 : decode b_Mod_addStep 81 = .ok (.getfield 276, 3) := by decide +kernel
theorem d_Mod_addStep_84 : decode b_Mod_addStep 84 = .ok (.iload 7, 2) := by decide +kernel
theorem d_Mod_addStep_86 : decode b_Mod_addStep 86 = .ok (.iload 5, 2) := by decide +kernel
theorem d_Mod_addStep_88 : decode b_Mod_addStep 88 = .ok (.iastore, 1) := by decide +kernel
theorem d_Mod_addStep_89 : decode b_Mod_addStep 89 = .ok (.aload_n 0, 1) := by decide +kernel
theorem d_Mod_addStep_90 : decode b_Mod_addStep 90 = .ok (.getfield 279, 3) := by decide +kernel
theorem d_Mod_addStep_93 : decode b_Mod_addStep 93 = .ok (.iload 7, 2) := by decide +kernel
theorem d_Mod_addStep_95 : decode b_Mod_addStep 95 = .ok (.iload 6, 2) := by decide +kernel
theorem d_Mod_addStep_97 : decode b_Mod_addStep 97 = .ok (.iastore, 1) := by decide +kernel
theorem d_Mod_addStep_98 : decode b_Mod_addStep 98 = .ok (.aload_n 0, 1) := by decide +kernel
theorem d_Mod_addStep_99 : decode b_Mod_addStep 99 = .ok (.getfield 252, 3) := by decide +kernel
theorem d_Mod_addStep_102 : decode b_Mod_addStep 102 = .ok (.iconst 4, 1) := by decide +kernel
theorem d_Mod_addStep_103 : decode b_Mod_addStep 103 = .ok (.aload_n 0, 1) := by decide +kernel
theorem d_Mod_addStep_104 : decode b_Mod_addStep 104 = .ok (.getfield 1022, 3) := by decide +kernel
theorem d_Mod_addStep_107 : decode b_Mod_addStep 107 = .ok (.imul, 1) := by decide +kernel
theorem d_Mod_addStep_108 : decode b_Mod_addStep 108 = .ok (.iconst 2, 1) := by decide +kernel
theorem d_Mod_addStep_109 : decode b_Mod_addStep 109 = .ok (.iadd, 1) := by decide +kernel
theorem d_Mod_addStep_110 : decode b_Mod_addStep 110 = .ok (.dup2, 1) := by decide +kernel
theorem d_Mod_addStep_111 : decode b_Mod_addStep 111 = .ok (.iaload, 1) := by decide +kernel
theorem d_Mod_addStep_112 : decode b_Mod_addStep 112 = .ok (.iconst 1, 1) := by decide +kernel
theorem d_Mod_addStep_113 : decode b_Mod_addStep 113 = .ok (.iadd, 1) := by decide +kernel
theorem d_Mod_addStep_114 : decode b_Mod_addStep 114 = .ok (.iastore, 1) := by decide +kernel
theorem d_Mod_addStep_115 : decode b_Mod_addStep 115 = .ok (.return_, 1) := by decide +kernel
theorem d_Mod_addStep_31 : decode b_Mod_addStep 31 = .ok (.return_, 1) := by decide +kernel
theorem d_Mod_addStep_0 : decode b_Mod_addStep 0 = .ok (.aload_n 0, 1) := by decide +kernel
theorem d_Mod_addStep_1 : decode b_Mod_addStep 1 = .ok (.getfield 252, 3) := by decide +kernel
theorem d_Mod_addStep_4 : decode b_Mod_addStep 4 = .ok (.iconst 4, 1) := by decide +kernel
theorem d_Mod_addStep_5 : decode b_Mod_addStep 5 = .ok (.aload_n 0, 1) := by decide +kernel
theorem d_Mod_addStep_6 : decode b_Mod_addStep 6 = .ok (.getfield 1022, 3) := by decide +kernel
theorem d_Mod_addStep_9 : decode b_Mod_addStep 9 = .ok (.imul, 1) := by decide +kernel
theorem d_Mod_addStep_10 : decode b_Mod_addStep 10 = .ok (.iconst 2, 1) := by decide +kernel
theorem d_Mod_addStep_11 : decode b_Mod_addStep 11 = .ok (.iadd, 1) := by decide +kernel
theorem d_Mod_addStep_12 : decode b_Mod_addStep 12 = .ok (.iaload, 1) := by decide +kernel
theorem d_Mod_addStep_13 : decode b_Mod_addStep 13 = .ok (.bipush 64, 2) := by decide +kernel
theorem d_Mod_addStep_15 : decode b_Mod_addStep 15 = .ok (.if_icmp .ne 8, 3) := by decide +kernel
theorem d_Mod_addStep_18 : decode b_Mod_addStep 18 = .ok (.aload_n 0, 1) := by decide +kernel
theorem d_Mod_addStep_19 : decode b_Mod_addStep 19 = .ok (.iload_n 1, 1) := by decide +kernel
theorem d_Mod_addStep_20 : decode b_Mod_addStep 20 = .ok (.invokevirtual 408, 3) := by decide +kernel
theorem d_Mod_readLiteral_147 : decode b_Mod_readLiteral 147 = .ok (.aload_n 0, 1) := by decide +kernel
theorem d_Mod_readLiteral_148 : decode b_Mod_readLiteral 148 = .ok (.iload_n 2, 1) := by decide +kernel
theorem d_Mod_readLiteral_149 : decode b_Mod_readLiteral 149 = .ok (.invokevirtual 408, 3) := by decide +kernel
theorem d_Mod_readLiteral_152 : decode b_Mod_readLiteral 152 = .ok (.return_, 1) := by decide +kernel
theorem d_Mod_readLiteral_129 : decode b_Mod_readLiteral 129 = .ok (.aload_n 0, 1) := by decide +kernel
theorem d_Mod_readLiteral_130 : decode b_Mod_readLiteral 130 = .ok (.getfield 252, 3) := by decide +kernel
theorem d_Mod_readLiteral_133 : decode b_Mod_readLiteral 133 = .ok (.iconst 4, 1) := by decide +kernel
theorem d_Mod_readLiteral_134 : decode b_Mod_readLiteral 134 = .ok (.aload_n 0, 1) := by decide +kernel
theorem d_Mod_readLiteral_135 : decode b_Mod_readLiteral 135 = .ok (.getfield 1022, 3) := by decide +kernel
theorem d_Mod_readLiteral_138 : decode b_Mod_readLiteral 138 = .ok (.imul, 1) := by decide +kernel
theorem d_Mod_readLiteral_139 : decode b_Mod_readLiteral 139 = .ok (.iconst 3, 1) := by decide +kernel
theorem d_Mod_readLiteral_140 : decode b_Mod_readLiteral 140 = .ok (.iadd, 1) := by decide +kernel
theorem d_Mod_readLiteral_141 : decode b_Mod_readLiteral 141 = .ok (.iaload, 1) := by decide +kernel
theorem d_Mod_readLiteral_142 : decode b_Mod_readLiteral 142 = .ok (.bipush 64, 2) := by decide +kernel
theorem d_Mod_readLiteral_144 : decode b_Mod_readLiteral 144 = .ok (.if_icmp .ne 9, 3) := by decide +kernel
theorem d_Mod_readLiteral_153 : decode b_Mod_readLiteral 153 = .ok (.aload_n 0, 1) := by decide +kernel
theorem d_Mod_readLiteral_154 : decode b_Mod_readLiteral 154 = .ok (.getfield 282, 3) := by decide +kernel
theorem d_Mod_readLiteral_157 : decode b_Mod_readLiteral 157 = .ok (.iload_n 3, 1) := by decide +kernel
theorem d_Mod_readLiteral_158 : decode b_Mod_readLiteral 158 = .ok (.iload 4, 2) := by decide +kernel
theorem d_Mod_readLiteral_160 : decode b_Mod_readLiteral 160 = .ok (.iastore, 1) := by decide +kernel
theorem d_Mod_readLiteral_161 : decode b_Mod_readLiteral 161 = .ok (.aload_n 0, 1) := by decide +kernel
theorem d_Mod_readLiteral_162 : decode b_Mod_readLiteral 162 = .ok (.getfield 294, 3) := by decide +kernel
theorem d_Mod_readLiteral_165 : decode b_Mod_readLiteral 165 = .ok (.iload_n 3, 1) := by decide +kernel
theorem d_Mod_readLiteral_166 : decode b_Mod_readLiteral 166 = .ok (.lload 5, 2) := by decide +kernel
theorem d_Mod_readLiteral_168 : decode b_Mod_readLiteral 168 = .ok (.lastore, 1) := by decide +kernel
theorem d_Mod_readLiteral_169 : decode b_Mod_readLiteral 169 = .ok (.aload_n 0, 1) := by decide +kernel
theorem d_Mod_readLiteral_170 : decode b_Mod_readLiteral 170 = .ok (.getfield 285, 3) := by decide +kernel
theorem d_Mod_readLiteral_173 : decode b_Mod_readLiteral 173 = .ok (.iload_n 3, 1) := by decide +kernel
theorem d_Mod_readLiteral_174 : decode b_Mod_readLiteral 174 = .ok (.iload 7, 2) := by decide +kernel
theorem d_Mod_readLiteral_176 : decode b_Mod_readLiteral 176 = .ok (.iastore, 1) := by decide +kernel
theorem d_Mod_readLiteral_177 : decode b_Mod_readLiteral 177 = .ok (.aload_n 0, 1) := by decide +kernel
theorem d_Mod_readLiteral_178 : decode b_Mod_readLiteral 178 = .ok (.getfield 288, 3) := by decide +kernel
theorem d_Mod_readLiteral_181 : decode b_Mod_readLiteral 181 = .ok (.iload_n 3, 1) := by decide +kernel
theorem d_Mod_readLiteral_182 : decode b_Mod_readLiteral 182 = .ok (.aload_n 0, 1) := by decide +kernel
theorem d_Mod_readLiteral_183 : decode b_Mod_readLiteral 183 = .ok (.getfield 476, 3) := by decide +kernel
theorem d_Mod_readLiteral_186 : decode b_Mod_readLiteral 186 = .ok (.iload 7, 2) := by decide +kernel
theorem d_Mod_readLiteral_188 : decode b_Mod_readLiteral 188 = .ok (.isub, 1) := by decide +kernel
theorem d_Mod_readLiteral_189 : decode b_Mod_readLiteral 189 = .ok (.iastore, 1) := by decide +kernel
theorem d_Mod_readLiteral_190 : decode b_Mod_readLiteral 190 = .ok (.aload_n 0, 1) := by decide +kernel
theorem d_Mod_readLiteral_191 : decode b_Mod_readLiteral 191 = .ok (.getfield 252, 3) := by decide +kernel
theorem d_Mod_readLiteral_194 : decode b_Mod_readLiteral 194 = .ok (.iconst 4, 1) := by decide +kernel
theorem d_Mod_readLiteral_195 : decode b_Mod_readLiteral 195 = .ok (.aload_n 0, 1) := by decide +kernel
theorem d_Mod_readLiteral_196 : decode b_Mod_readLiteral 196 = .ok (.getfield 1022, 3) := by decide +kernel
theorem d_Mod_readLiteral_199 : decode b_Mod_readLiteral 199 = .ok (.imul, 1) := by decide +kernel
theorem d_Mod_readLiteral_200 : decode b_Mod_readLiteral 200 = .ok (.iconst 3, 1) := by decide +kernel
theorem d_Mod_readLiteral_201 : decode b_Mod_readLiteral 201 = .ok (.iadd, 1) := by decide +kernel
theorem d_Mod_readLiteral_202 : decode b_Mod_readLiteral 202 = .ok (.dup2, 1) := by decide +kernel
theorem d_Mod_readLiteral_203 : decode b_Mod_readLiteral 203 = .ok (.iaload, 1) := by decide +kernel
theorem d_Mod_readLiteral_204 : decode b_Mod_readLiteral 204 = .ok (.iconst 1, 1) := by decide +kernel
theorem d_Mod_readLiteral_205 : decode b_Mod_readLiteral 205 = .ok (.iadd, 1) := by decide +kernel
theorem d_Mod_readLiteral_206 : decode b_Mod_readLiteral 206 = .ok (.iastore, 1) := by decide +kernel
theorem d_Mod_readLiteral_207 : decode b_Mod_readLiteral 207 = .ok (.return_, 1) := by decide +kernel
theorem d_Mod_readLiteral_103 : decode b_Mod_readLiteral 103 = .ok (.aload_n 0, 1) := by decide +kernel
theorem d_Mod_readLiteral_104 : decode b_Mod_readLiteral 104 = .ok (.getfield 376, 3) := by decide +kernel
theorem d_Mod_readLiteral_107 : decode b_Mod_readLiteral 107 = .ok (.iconst (-1), 1) := by decide +kernel
theorem d_Mod_readLiteral_108 : decode b_Mod_readLiteral 108 = .ok (.if_icmp .eq 4, 3) := by decide +kernel
theorem d_Mod_readLiteral_112 : decode b_Mod_readLiteral 112 = .ok (.iload 4, 2) := by decide +kernel
theorem d_Mod_readLiteral_114 : decode b_Mod_readLiteral 114 = .ok (.iload_n 1, 1) := by decide +kernel
theorem d_Mod_readLiteral_115 : decode b_Mod_readLiteral 115 = .ok (.if_icmp .eq 14, 3) := by decide +kernel
theorem d_Mod_readLiteral_118 : decode b_Mod_readLiteral 118 = .ok (.iload 4, 2) := by decide +kernel
theorem d_Mod_readLiteral_120 : decode b_Mod_readLiteral 120 = .ok (.iconst 2, 1) := by decide +kernel
theorem d_Mod_readLiteral_121 : decode b_Mod_readLiteral 121 = .ok (.if_icmp .ne 26, 3) := by decide +kernel
theorem d_Mod_readLiteral_124 : decode b_Mod_readLiteral 124 = .ok (.iload_n 1, 1) := by decide +kernel
theorem d_Mod_readLiteral_125 : decode b_Mod_readLiteral 125 = .ok (.iconst 1, 1) := by decide +kernel
theorem d_Mod_readLiteral_126 : decode b_Mod_readLiteral 126 = .ok (.if_icmp .ne 21, 3) := by decide +kernel
theorem d_Mod_readLiteral_111 : decode b_Mod_readLiteral 111 = .ok (.return_, 1) := by decide +kernel
theorem d_Mod_readLiteral_0 : decode b_Mod_readLiteral 0 = .ok (.aload_n 0, 1) := by decide +kernel
theorem d_Mod_readLiteral_1 : decode b_Mod_readLiteral 1 = .ok (.invokevirtual 394, 3) := by decide +kernel
theorem d_Mod_readLiteral_4 : decode b_Mod_readLiteral 4 = .ok (.aload_n 0, 1) := by decide +kernel
theorem d_Mod_readLiteral_5 : decode b_Mod_readLiteral 5 = .ok (.getfield 373, 3) := by decide +kernel
theorem d_Mod_readLiteral_8 : decode b_Mod_readLiteral 8 = .ok (.istore_n 2, 1) := by decide +kernel
theorem d_Mod_readLiteral_9 : decode b_Mod_readLiteral 9 = .ok (.bipush 64, 2) := by decide +kernel
theorem d_Mod_readLiteral_11 : decode b_Mod_readLiteral 11 = .ok (.aload_n 0, 1) := by decide +kernel
theorem d_Mod_readLiteral_12 : decode b_Mod_readLiteral 12 = .ok (.getfield 1022, 3) := by decide +kernel
theorem d_Mod_readLiteral_15 : decode b_Mod_readLiteral 15 = .ok (.imul, 1) := by decide +kernel
theorem d_Mod_readLiteral_16 : decode b_Mod_readLiteral 16 = .ok (.aload_n 0, 1) := by decide +kernel
theorem d_Mod_readLiteral_17 : decode b_Mod_readLiteral 17 = .ok (.getfield 252, 3) := by decide +kernel
theorem d_Mod_readLiteral_20 : decode b_Mod_readLiteral 20 = .ok (.iconst 4, 1) := by decide +kernel
theorem d_Mod_readLiteral_21 : decode b_Mod_readLiteral 21 = .ok (.aload_n 0, 1) := by decide +kernel
theorem d_Mod_readLiteral_22 : decode b_Mod_readLiteral 22 = .ok (.getfield 1022, 3) := by decide +kernel
theorem d_Mod_readLiteral_25 : decode b_Mod_readLiteral 25 = .ok (.imul, 1) := by decide +kernel
theorem d_Mod_readLiteral_26 : decode b_Mod_readLiteral 26 = .ok (.iconst 3, 1) := by decide +kernel
theorem d_Mod_readLiteral_27 : decode b_Mod_readLiteral 27 = .ok (.iadd, 1) := by decide +kernel
theorem d_Mod_readLiteral_28 : decode b_Mod_readLiteral 28 = .ok (.iaload, 1) := by decide +kernel
theorem d_Mod_readLiteral_29 : decode b_Mod_readLiteral 29 = .ok (.iadd, 1) := by decide +kernel
theorem d_Mod_readLiteral_30 : decode b_Mod_readLiteral 30 = .ok (.istore_n 3, 1) := by decide +kernel
theorem d_Mod_readLiteral_31 : decode b_Mod_readLiteral 31 = .ok (.iconst 2, 1) := by decide +kernel
theorem d_Mod_readLiteral_32 : decode b_Mod_readLiteral 32 = .ok (.istore 4, 2) := by decide +kernel
theorem d_Mod_readLiteral_34 : decode b_Mod_readLiteral 34 = .ok (.lconst 0, 1) := by decide +kernel
theorem d_Mod_readLiteral_35 : decode b_Mod_readLiteral 35 = .ok (.lstore 5, 2) := by decide +kernel
theorem d_Mod_readLiteral_37 : decode b_Mod_readLiteral 37 = .ok (.aload_n 0, 1) := by decide +kernel
theorem d_Mod_readLiteral_38 : decode b_Mod_readLiteral 38 = .ok (.getfield 476, 3) := by decide +kernel
theorem d_Mod_readLiteral_41 : decode b_Mod_readLiteral 41 = .ok (.istore 7, 2) := by decide +kernel
theorem d_Mod_readLiteral_43 : decode b_Mod_readLiteral 43 = .ok (.aload_n 0, 1) := by decide +kernel
theorem d_Mod_readLiteral_44 : decode b_Mod_readLiteral 44 = .ok (.ldc2_w 502, 3) := by decide +kernel
theorem d_Mod_readLiteral_47 : decode b_Mod_readLiteral 47 = .ok (.invokevirtual 425, 3) := by decide +kernel
theorem d_Mod_readLiteral_50 : decode b_Mod_readLiteral 50 = .ok (.ifCond .eq 12, 3) := by decide +kernel
theorem d_Mod_readLiteral_62 : decode b_Mod_readLiteral 62 = .ok (.aload_n 0, 1) := by decide +kernel
theorem d_Mod_readLiteral_63 : decode b_Mod_readLiteral 63 = .ok (.ldc2_w 504, 3) := by decide +kernel
theorem d_Mod_readLiteral_66 : decode b_Mod_readLiteral 66 = .ok (.invokevirtual 425, 3) := by decide +kernel
theorem d_Mod_readLiteral_69 : decode b_Mod_readLiteral 69 = .ok (.ifCond .eq 9, 3) := by decide +kernel
theorem d_Mod_readLiteral_78 : decode b_Mod_readLiteral 78 = .ok (.aload_n 0, 1) := by decide +kernel
theorem d_Mod_readLiteral_79 : decode b_Mod_readLiteral 79 = .ok (.invokevirtual 379, 3) := by decide +kernel
theorem d_Mod_readLiteral_82 : decode b_Mod_readLiteral 82 = .ok (.bipush 39, 2) := by decide +kernel
theorem d_Mod_readLiteral_84 : decode b_Mod_readLiteral 84 = .ok (.if_icmp .ne 13, 3) := by decide +kernel
theorem d_Mod_readLiteral_97 : decode b_Mod_readLiteral 97 = .ok (.aload_n 0, 1) := by decide +kernel
theorem d_Mod_readLiteral_98 : decode b_Mod_readLiteral 98 = .ok (.invokevirtual 506, 3) := by decide +kernel
theorem d_Mod_readLiteral_101 : decode b_Mod_readLiteral 101 = .ok (.lstore 5, 2) := by decide +kernel
theorem d_Mod_readLiteral_87 : decode b_Mod_readLiteral 87 = .ok (.iconst 3, 1) := by decide +kernel
theorem d_Mod_readLiteral_88 : decode b_Mod_readLiteral 88 = .ok (.istore 4, 2) := by decide +kernel
theorem d_Mod_readLiteral_90 : decode b_Mod_readLiteral 90 = .ok (.aload_n 0, 1) := by decide +kernel
theorem d_Mod_readLiteral_91 : decode b_Mod_readLiteral 91 = .ok (.invokevirtual 499, 3) := by decide +kernel
theorem d_Mod_readLiteral_94 : decode b_Mod_readLiteral 94 = .ok (.goto 9, 3) := by decide +kernel
theorem d_Mod_readLiteral_72 : decode b_Mod_readLiteral 72 = .ok (.iconst 0, 1) := by decide +kernel
theorem d_Mod_readLiteral_73 : decode b_Mod_readLiteral 73 = .ok (.istore 4, 2) := by decide +kernel
theorem d_Mod_readLiteral_75 : decode b_Mod_readLiteral 75 = .ok (.goto 28, 3) := by decide +kernel
theorem d_Mod_readLiteral_53 : decode b_Mod_readLiteral 53 = .ok (.iconst 0, 1) := by decide +kernel
theorem d_Mod_readLiteral_54 : decode b_Mod_readLiteral 54 = .ok (.istore 4, 2) := by decide +kernel
theorem d_Mod_readLiteral_56 : decode b_Mod_readLiteral 56 = .ok (.lconst 1, 1) := by decide +kernel
theorem d_Mod_readLiteral_57 : decode b_Mod_readLiteral 57 = .ok (.lstore 5, 2) := by decide +kernel
theorem d_Mod_readLiteral_59 : decode b_Mod_readLiteral 59 = .ok (.goto 44, 3) := by decide +kernel
section
variable (l : Launch) (dC : Nat → ClassId) (dI : Nat → Nat → Nat) (cI cB cJ cZ : ClassId)
set_option maxRecDepth 100000 in
set_option maxHeartbeats 4000000 in
set_option maxRecDepth 100000 in
theorem t_Mod_isWhole_10 {p : Program} {l : Launch} {e : Env} {R : Room} {s : State} {m : MethodId} {args : Array Value} {below : List Frame} {meth : Method} {c : Code} {cells slots : Nat} {Q : State → Prop} {dC : Nat → ClassId} {dI : Nat → Nat → Nat} {cI cB cJ cZ : ClassId} {A : Nat → Prop} {ad : Nat → Nat} {post : Int32 → St → Prop} (hx : p.tables.exec = Jvm.exec) (hb : c.code = b_Mod_isWhole) (hml : c.maxLocals = 1) (hown : s.vm.findClass R_Mod = some m.cls) (hT : ∀ w ∈ TG, w.before args s = true) (hK : va_K (dC, dI) CL (TY cI cB cJ cZ) s) (hN : NW s) (hA : ∀ q : Nat, s.heap.size ≤ q → A q) (hRc : cells ≤ R.cells) (hRs : slots ≤ R.slots) (hRf : 0 ≤ R.frames) (hRl : 0 ≤ R.locals) (hret : ∀ (r : Int32) (x : St) (H : Heap) (locs : List Loc) (pc : Nat) (ls : Array Slot), decode b_Mod_isWhole pc = .ok (.ireturn, 1) → narrow .boolean (.int r) = .int r → post r x → Wd dC dI cI cB cJ cZ ad stM kcM 115 A x H → va_S A s.heap H locs → W p l e R s m args below meth c H locs cells slots Q (F0 m pc ls [.int r]))  : ∀ (l0 : Int32) (x : St) (H : Heap) (locs : List Loc) (ls : Array Slot), j_Mod_isWhole_10 post l0 x → Wd dC dI cI cB cJ cZ ad stM kcM 115 A x H → va_S A s.heap H locs → lv_has ls 1 [(0, .int l0)] → W p l e R s m args below meth c H locs cells slots Q (F0 m 10 ls []) := by
  intro l0 x H locs ls  hw hW hS hl
  unfold j_Mod_isWhole_10 at hw
  refine lv_iconst (v := 1) hx hb d_Mod_isWhole_10 (by decide) ?_
  refine lv_goto (tgt := 15) hx hb d_Mod_isWhole_11 (by decide) ?_
  exact hret 1 x H locs 15 ls d_Mod_isWhole_15 rfl hw hW hS
set_option maxRecDepth 100000 in
set_option maxHeartbeats 4000000 in
set_option maxRecDepth 100000 in
theorem t_Mod_isWhole_e {p : Program} {l : Launch} {e : Env} {R : Room} {s : State} {m : MethodId} {args : Array Value} {below : List Frame} {meth : Method} {c : Code} {cells slots : Nat} {Q : State → Prop} {dC : Nat → ClassId} {dI : Nat → Nat → Nat} {cI cB cJ cZ : ClassId} {A : Nat → Prop} {ad : Nat → Nat} {post : Int32 → St → Prop} (hx : p.tables.exec = Jvm.exec) (hb : c.code = b_Mod_isWhole) (hml : c.maxLocals = 1) (hown : s.vm.findClass R_Mod = some m.cls) (hT : ∀ w ∈ TG, w.before args s = true) (hK : va_K (dC, dI) CL (TY cI cB cJ cZ) s) (hN : NW s) (hA : ∀ q : Nat, s.heap.size ≤ q → A q) (hRc : cells ≤ R.cells) (hRs : slots ≤ R.slots) (hRf : 0 ≤ R.frames) (hRl : 0 ≤ R.locals) (hret : ∀ (r : Int32) (x : St) (H : Heap) (locs : List Loc) (pc : Nat) (ls : Array Slot), decode b_Mod_isWhole pc = .ok (.ireturn, 1) → narrow .boolean (.int r) = .int r → post r x → Wd dC dI cI cB cJ cZ ad stM kcM 115 A x H → va_S A s.heap H locs → W p l e R s m args below meth c H locs cells slots Q (F0 m pc ls [.int r])) : ∀ (l0 : Int32) (x : St) (H : Heap) (locs : List Loc) (ls : Array Slot), wp_Mod_isWhole post l0 x → Wd dC dI cI cB cJ cZ ad stM kcM 115 A x H → va_S A s.heap H locs → lv_has ls 1 [(0, .int l0)] → W p l e R s m args below meth c H locs cells slots Q (F0 m 0 ls []) := by
  intro l0 x H locs ls  hw hW hS hl
  unfold wp_Mod_isWhole at hw
  refine lv_iload_n hx hb d_Mod_isWhole_0 rfl (lv_at hl 0 rfl) ?_
  refine lv_iconst (v := 1) hx hb d_Mod_isWhole_1 (by decide) ?_
  refine lv_icmp_eq (tgt := 10) hx hb d_Mod_isWhole_2 (by decide) (fun c1956 => ?_) (fun c1956 => ?_)
  · have hw := hw.1 c1956
    exact t_Mod_isWhole_10 hx hb hml hown hT hK hN hA hRc hRs hRf hRl hret  l0 x H locs ls  hw hW hS (lv_sub hl [0] rfl)
  · have hw := hw.2 c1956
    refine lv_iload_n hx hb d_Mod_isWhole_5 rfl (lv_at hl 0 rfl) ?_
    refine lv_iconst (v := 2) hx hb d_Mod_isWhole_6 (by decide) ?_
    refine lv_icmp_ne (tgt := 14) hx hb d_Mod_isWhole_7 (by decide) (fun c1957 => ?_) (fun c1957 => ?_)
    · have hw := hw.1 c1957
      refine lv_iconst (v := 0) hx hb d_Mod_isWhole_14 (by decide) ?_
      exact hret 0 x H locs 15 ls d_Mod_isWhole_15 rfl hw hW hS
    · have hw := hw.2 c1957
      exact t_Mod_isWhole_10 hx hb hml hown hT hK hN hA hRc hRs hRf hRl hret  l0 x H locs ls  hw hW hS (lv_sub hl [0] rfl)
set_option maxHeartbeats 4000000 in
set_option maxRecDepth 100000 in
theorem k_Mod_isWhole (l : Launch) (dC : Nat → ClassId) (dI : Nat → Nat → Nat) (cI cB cJ cZ : ClassId) (ad : Nat → Nat) (sz : Nat) (l0 : Int32) (x : St) {post : Int32 → St → Prop} (hw : wp_Mod_isWhole post l0 x) : Met l y_Mod_isWhole (wsOf y_Mod_isWhole b_Mod_isWhole 1 (some (.boolean))) ({ frames := 0, cells := 0, slots := 0, locals := 0 }) (va_Pc [.int l0] (PW dC dI cI cB cJ cZ ad stM kcM 115 sz x)) (va_Qi (fun (r : Int32) (y : St) => post r y) (fun y t => Wd dC dI cI cB cJ cZ ad stM kcM 115 (va_A (pic ad stM kcM 115 cI cB cJ cZ x) sz) y t.heap) (va_A (pic ad stM kcM 115 cI cB cJ cZ x) sz)) 0 0 (va_A (pic ad stM kcM 115 cI cB cJ cZ x) sz) := by
  refine Met.ofW (cc := b_Mod_isWhole) (maxL := 1) (ret := some (.boolean)) (by decide) rfl ?_
  intro p e s m args below meth c s₁ B hml hv
  obtain ⟨rfl, hsz, hW0, hK, hN⟩ := hv
  have hx := B.exec
  have hb := B.bytes
  have hr := B.returns
  have hts := atoms_spec B.pre
  have hT : ∀ w ∈ TG, w.before _ s = true := fun w h => hts w (List.mem_cons_of_mem _ h)
  have hown : s.vm.findClass R_Mod = some m.cls := findClass_of_methodNamed B.named
  have hlocks := B.notSynchronized
  subst hsz
  have hW : Wd dC dI cI cB cJ cZ ad stM kcM 115 (va_A (pic ad stM kcM 115 cI cB cJ cZ x) s.heap.size) x s.heap := ⟨hW0.1, hW0.2.1.self (sz := s.heap.size), hW0.2.2⟩
  generalize hAe : va_A (pic ad stM kcM 115 cI cB cJ cZ x) s.heap.size = A at hW ⊢
  have hA : ∀ q : Nat, s.heap.size ≤ q → A q := fun q h => by rw [← hAe]; exact Or.inr h
  have hS : va_S A s.heap s.heap [] := va_S.rf
  have hl := lv_entry ([.int l0]) (n := 1) (Nat.le_of_ble_eq_true rfl)
  rw [lg_entry_eq]
  generalize (lg_sl ([.int l0]) ++ List.replicate (1 - (lg_sl ([.int l0])).length) Slot.unset).toArray = ls at hl ⊢
  have hl : lv_has ls 1 [(0, .int l0)] := hl
  exact t_Mod_isWhole_e hx hb hml hown hT hK hN hA (Nat.le_refl 0) (Nat.le_refl 0) (Nat.le_refl 0) (Nat.le_refl 0) (fun r x H locs pc ls hd hz hp hW hS => W.zret (v := r) (ty := .boolean) hx hb hr hz (fun t ht hM => ⟨⟨r, x, rfl, hp, Wd.back hW ht.symm (fun _ z => z)⟩, hS.F ht⟩) hS.2.2 hd hlocks)  l0 x _ _ ls  hw hW hS hl
set_option maxRecDepth 100000 in
set_option maxHeartbeats 4000000 in
set_option maxRecDepth 100000 in
theorem t_Mod_readItem_218 {p : Program} {l : Launch} {e : Env} {R : Room} {s : State} {m : MethodId} {args : Array Value} {below : List Frame} {meth : Method} {c : Code} {cells slots : Nat} {Q : State → Prop} {dC : Nat → ClassId} {dI : Nat → Nat → Nat} {cI cB cJ cZ : ClassId} {A : Nat → Prop} {ad : Nat → Nat} {post : St → Prop} (hx : p.tables.exec = Jvm.exec) (hb : c.code = b_Mod_readItem) (hml : c.maxLocals = 6) (hown : s.vm.findClass R_Mod = some m.cls) (hT : ∀ w ∈ TG, w.before args s = true) (hK : va_K (dC, dI) CL (TY cI cB cJ cZ) s) (hN : NW s) (hA : ∀ q : Nat, s.heap.size ≤ q → A q) (hRc : cells ≤ R.cells) (hRs : slots ≤ R.slots) (hRf : 5 ≤ R.frames) (hRl : 112 ≤ R.locals) (hret : ∀ (x : St) (H : Heap) (locs : List Loc) (pc : Nat) (ls : Array Slot), decode b_Mod_readItem pc = .ok (.return_, 1) → post x → Wd dC dI cI cB cJ cZ ad stM kcM 115 A x H → va_S A s.heap H locs → W p l e R s m args below meth c H locs cells slots Q (F0 m pc ls []))  : ∀ (l1 : Int32) (l2 : Int32) (l3 : Int32) (l4 : Int32) (x : St) (H : Heap) (locs : List Loc) (ls : Array Slot), j_Mod_readItem_218 post l1 l2 l3 l4 x → Wd dC dI cI cB cJ cZ ad stM kcM 115 A x H → va_S A s.heap H locs → lv_has ls 6 [(0, .ref (ad 0)), (1, .int l1), (2, .int l2), (3, .int l3), (4, .int l4)] → W p l e R s m args below meth c H locs cells slots Q (F0 m 218 ls []) := by
  intro l1 l2 l3 l4 x H locs ls  hw hW hS hl
  unfold j_Mod_readItem_218 at hw
  refine lv_aload_n hx hb d_Mod_readItem_218 rfl (lv_at hl 0 rfl) ?_
  refine w_geti (k := 17) (t := 12) (C := R_Mod) (T := F_Mod) (N := 167) hx hb hT hown hK hW ko_0.1 ko_0.2 (by decide) in_Mod rfl rfl (by decide) rfl fr_Mod_17 w_8_193 d_Mod_readItem_219 ?_
  refine lv_iconst (v := (-1)) hx hb d_Mod_readItem_222 (by decide) ?_
  refine lv_icmp_eq (tgt := 227) hx hb d_Mod_readItem_223 (by decide) (fun c1958 => ?_) (fun c1958 => ?_)
  · have hw := hw.1 c1958
    refine lv_aload_n hx hb d_Mod_readItem_227 rfl (lv_at hl 0 rfl) ?_
    refine w_getf (q := 80) (k := 123) (t := 12) (C := R_Mod) (T := F_Mod) (N := 167) hx hb hT hown hK hW ko_0.1 ko_0.2 (by decide) in_Mod rfl rfl (by decide) rfl fr_Mod_123 w_9_59 d_Mod_readItem_228 rfl ?_
    refine lv_bipush (v := 16) hx hb d_Mod_readItem_231 (by decide) ?_
    refine lv_aload_n hx hb d_Mod_readItem_233 rfl (lv_at hl 0 rfl) ?_
    refine w_geti (k := 118) (t := 12) (C := R_Mod) (T := F_Mod) (N := 167) hx hb hT hown hK hW ko_0.1 ko_0.2 (by decide) in_Mod rfl rfl (by decide) rfl fr_Mod_118 w_9_54 d_Mod_readItem_234 ?_
    refine lv_imul hx hb d_Mod_readItem_237 ?_
    refine lv_iload_n hx hb d_Mod_readItem_238 rfl (lv_at hl 2 rfl) ?_
    refine lv_iadd hx hb d_Mod_readItem_239 ?_
    refine lv_iload_n hx hb d_Mod_readItem_240 rfl (lv_at hl 3 rfl) ?_
    obtain ⟨hi, hw⟩ := hw
    refine w_iast (o := 80) hx hb hK hW hS ko_80.1 ko_80.2 hi d_Mod_readItem_241 (fun H locs hW hS => ?_)
    obtain ⟨x1959, ex1959⟩ : ∃ y : St, y = setA x 80 ((16 * (fI x 0 118)) + l2) l3 := ⟨_, rfl⟩
    rw [← ex1959] at hW
    have hw := hw x1959 ex1959
    refine lv_aload_n hx hb d_Mod_readItem_242 rfl (lv_at hl 0 rfl) ?_
    refine w_getf (q := 81) (k := 124) (t := 12) (C := R_Mod) (T := F_Mod) (N := 167) hx hb hT hown hK hW ko_0.1 ko_0.2 (by decide) in_Mod rfl rfl (by decide) rfl fr_Mod_124 w_9_60 d_Mod_readItem_243 rfl ?_
    refine lv_bipush (v := 16) hx hb d_Mod_readItem_246 (by decide) ?_
    refine lv_aload_n hx hb d_Mod_readItem_248 rfl (lv_at hl 0 rfl) ?_
    refine w_geti (k := 118) (t := 12) (C := R_Mod) (T := F_Mod) (N := 167) hx hb hT hown hK hW ko_0.1 ko_0.2 (by decide) in_Mod rfl rfl (by decide) rfl fr_Mod_118 w_9_54 d_Mod_readItem_249 ?_
    refine lv_imul hx hb d_Mod_readItem_252 ?_
    refine lv_iload_n hx hb d_Mod_readItem_253 rfl (lv_at hl 2 rfl) ?_
    refine lv_iadd hx hb d_Mod_readItem_254 ?_
    refine lv_iload hx hb d_Mod_readItem_255 (lv_at hl 4 rfl) ?_
    obtain ⟨hi, hw⟩ := hw
    refine w_iast (o := 81) hx hb hK hW hS ko_81.1 ko_81.2 hi d_Mod_readItem_257 (fun H locs hW hS => ?_)
    obtain ⟨x1960, ex1960⟩ : ∃ y : St, y = setA x1959 81 ((16 * (fI x1959 0 118)) + l2) l4 := ⟨_, rfl⟩
    rw [← ex1960] at hW
    have hw := hw x1960 ex1960
    refine lv_aload_n hx hb d_Mod_readItem_258 rfl (lv_at hl 0 rfl) ?_
    refine w_getf (q := 82) (k := 125) (t := 12) (C := R_Mod) (T := F_Mod) (N := 167) hx hb hT hown hK hW ko_0.1 ko_0.2 (by decide) in_Mod rfl rfl (by decide) rfl fr_Mod_125 w_9_61 d_Mod_readItem_259 rfl ?_
    refine lv_bipush (v := 16) hx hb d_Mod_readItem_262 (by decide) ?_
    refine lv_aload_n hx hb d_Mod_readItem_264 rfl (lv_at hl 0 rfl) ?_
    refine w_geti (k := 118) (t := 12) (C := R_Mod) (T := F_Mod) (N := 167) hx hb hT hown hK hW ko_0.1 ko_0.2 (by decide) in_Mod rfl rfl (by decide) rfl fr_Mod_118 w_9_54 d_Mod_readItem_265 ?_
    refine lv_imul hx hb d_Mod_readItem_268 ?_
    refine lv_iload_n hx hb d_Mod_readItem_269 rfl (lv_at hl 2 rfl) ?_
    refine lv_iadd hx hb d_Mod_readItem_270 ?_
    refine lv_iload_n hx hb d_Mod_readItem_271 rfl (lv_at hl 1 rfl) ?_
    obtain ⟨hi, hw⟩ := hw
    refine w_iast (o := 82) hx hb hK hW hS ko_82.1 ko_82.2 hi d_Mod_readItem_272 (fun H locs hW hS => ?_)
    obtain ⟨x1961, ex1961⟩ : ∃ y : St, y = setA x1960 82 ((16 * (fI x1960 0 118)) + l2) l1 := ⟨_, rfl⟩
    rw [← ex1961] at hW
    have hw := hw x1961 ex1961
    refine lv_aload_n hx hb d_Mod_readItem_273 rfl (lv_at hl 0 rfl) ?_
    refine w_getf (q := 79) (k := 122) (t := 12) (C := R_Mod) (T := F_Mod) (N := 167) hx hb hT hown hK hW ko_0.1 ko_0.2 (by decide) in_Mod rfl rfl (by decide) rfl fr_Mod_122 w_9_58 d_Mod_readItem_274 rfl ?_
    refine lv_iconst (v := 4) hx hb d_Mod_readItem_277 (by decide) ?_
    refine lv_aload_n hx hb d_Mod_readItem_278 rfl (lv_at hl 0 rfl) ?_
    refine w_geti (k := 118) (t := 12) (C := R_Mod) (T := F_Mod) (N := 167) hx hb hT hown hK hW ko_0.1 ko_0.2 (by decide) in_Mod rfl rfl (by decide) rfl fr_Mod_118 w_9_54 d_Mod_readItem_279 ?_
    refine lv_imul hx hb d_Mod_readItem_282 ?_
    refine lv_dup2_11 hx hb d_Mod_readItem_283 rfl rfl ?_
    obtain ⟨hi, hw⟩ := hw
    refine w_iald (o := 79) hx hb hK hW ko_79.1 ko_79.2 hi d_Mod_readItem_284 ?_
    refine lv_iconst (v := 1) hx hb d_Mod_readItem_285 (by decide) ?_
    refine lv_iadd hx hb d_Mod_readItem_286 ?_
    obtain ⟨hi, hw⟩ := hw
    refine w_iast (o := 79) hx hb hK hW hS ko_79.1 ko_79.2 hi d_Mod_readItem_287 (fun H locs hW hS => ?_)
    obtain ⟨x1962, ex1962⟩ : ∃ y : St, y = setA x1961 79 (4 * (fI x1961 0 118)) ((rA x1961 79 (4 * (fI x1961 0 118))) + 1) := ⟨_, rfl⟩
    rw [← ex1962] at hW
    have hw := hw x1962 ex1962
    exact hret x1962 H locs 288 ls d_Mod_readItem_288 hw hW hS
  · have hw := hw.2 c1958
    exact hret x H locs 226 ls d_Mod_readItem_226 hw hW hS
set_option maxRecDepth 100000 in
set_option maxHeartbeats 4000000 in
set_option maxRecDepth 100000 in
theorem t_Mod_readItem_212 {p : Program} {l : Launch} {e : Env} {R : Room} {s : State} {m : MethodId} {args : Array Value} {below : List Frame} {meth : Method} {c : Code} {cells slots : Nat} {Q : State → Prop} {dC : Nat → ClassId} {dI : Nat → Nat → Nat} {cI cB cJ cZ : ClassId} {A : Nat → Prop} {ad : Nat → Nat} {post : St → Prop} (hx : p.tables.exec = Jvm.exec) (hb : c.code = b_Mod_readItem) (hml : c.maxLocals = 6) (hown : s.vm.findClass R_Mod = some m.cls) (hT : ∀ w ∈ TG, w.before args s = true) (hK : va_K (dC, dI) CL (TY cI cB cJ cZ) s) (hN : NW s) (hA : ∀ q : Nat, s.heap.size ≤ q → A q) (hRc : cells ≤ R.cells) (hRs : slots ≤ R.slots) (hRf : 5 ≤ R.frames) (hRl : 112 ≤ R.locals) (hret : ∀ (x : St) (H : Heap) (locs : List Loc) (pc : Nat) (ls : Array Slot), decode b_Mod_readItem pc = .ok (.return_, 1) → post x → Wd dC dI cI cB cJ cZ ad stM kcM 115 A x H → va_S A s.heap H locs → W p l e R s m args below meth c H locs cells slots Q (F0 m pc ls []))  : ∀ (l1 : Int32) (l2 : Int32) (l3 : Int32) (l4 : Int32) (l5 : Int32) (x : St) (H : Heap) (locs : List Loc) (ls : Array Slot), j_Mod_readItem_212 post l1 l2 l3 l4 l5 x → Wd dC dI cI cB cJ cZ ad stM kcM 115 A x H → va_S A s.heap H locs → lv_has ls 6 [(0, .ref (ad 0)), (1, .int l1), (2, .int l2), (3, .int l3), (4, .int l4), (5, .int l5)] → W p l e R s m args below meth c H locs cells slots Q (F0 m 212 ls []) := by
  intro l1 l2 l3 l4 l5 x H locs ls  hw hW hS hl
  unfold j_Mod_readItem_212 at hw
  refine lv_aload_n hx hb d_Mod_readItem_212 rfl (lv_at hl 0 rfl) ?_
  refine lv_bipush (v := 41) hx hb d_Mod_readItem_213 (by decide) ?_
  have hF := hW.free hS hA
  refine va_callv (va_runV (C := R_Mod) (As := [.int 41]) (rest := []) ⟨hx, hb, hml, hown, hT⟩ (k_Mod_wantSign l dC dI cI cB cJ cZ ad H.size 41 x  hw) ⟨callB_of 1 hT (gwt_in w_11_42) rfl rfl rfl (hT _ w_1_15) (hT _ w_11_39) (by decide +kernel) ⟨Nat.le_trans (Nat.le_of_ble_eq_true rfl) hRf, Nat.le_trans (Nat.le_of_ble_eq_true rfl) hRl⟩, hT _ w_11_41, hT _ ws_120⟩ ⟨PW.blind, va_recv hK hW.1 (ci := 12) (q0 := 0) rfl (pic_obj ko_0.1 ko_0.2 (by decide)), PW.at _ hW hK hN⟩ rfl rfl hl.1 rfl (lv_room (Nat.le_of_ble_eq_true rfl)) d_Mod_readItem_215 ⟨hRc, hRs⟩) hS (fun q _ h => hF q h) hF (fun  x1963 t H locs ht hvm hw hB hz1 hk1 hS => ?_)
  have hW := Wd.back hB ht hF
  clear hB ht hF hz1 hk1 hvm
  exact t_Mod_readItem_218 hx hb hml hown hT hK hN hA hRc hRs hRf hRl hret  l1 l2 l3 l4 x1963 H locs ls  hw hW hS (lv_sub hl [0, 1, 2, 3, 4] rfl)
set_option maxRecDepth 100000 in
set_option maxHeartbeats 4000000 in
set_option maxRecDepth 100000 in
theorem t_Mod_readItem_153 {p : Program} {l : Launch} {e : Env} {R : Room} {s : State} {m : MethodId} {args : Array Value} {below : List Frame} {meth : Method} {c : Code} {cells slots : Nat} {Q : State → Prop} {dC : Nat → ClassId} {dI : Nat → Nat → Nat} {cI cB cJ cZ : ClassId} {A : Nat → Prop} {ad : Nat → Nat} {post : St → Prop} (hx : p.tables.exec = Jvm.exec) (hb : c.code = b_Mod_readItem) (hml : c.maxLocals = 6) (hown : s.vm.findClass R_Mod = some m.cls) (hT : ∀ w ∈ TG, w.before args s = true) (hK : va_K (dC, dI) CL (TY cI cB cJ cZ) s) (hN : NW s) (hA : ∀ q : Nat, s.heap.size ≤ q → A q) (hRc : cells ≤ R.cells) (hRs : slots ≤ R.slots) (hRf : 5 ≤ R.frames) (hRl : 112 ≤ R.locals) (hret : ∀ (x : St) (H : Heap) (locs : List Loc) (pc : Nat) (ls : Array Slot), decode b_Mod_readItem pc = .ok (.return_, 1) → post x → Wd dC dI cI cB cJ cZ ad stM kcM 115 A x H → va_S A s.heap H locs → W p l e R s m args below meth c H locs cells slots Q (F0 m pc ls []))  : ∀ (l1 : Int32) (l2 : Int32) (l3 : Int32) (l4 : Int32) (s0 : Int32) (x : St) (H : Heap) (locs : List Loc) (ls : Array Slot), j_Mod_readItem_153 post l1 l2 l3 l4 s0 x → Wd dC dI cI cB cJ cZ ad stM kcM 115 A x H → va_S A s.heap H locs → lv_has ls 6 [(0, .ref (ad 0)), (1, .int l1), (2, .int l2), (3, .int l3), (4, .int l4)] → W p l e R s m args below meth c H locs cells slots Q (F0 m 153 ls [.int s0]) := by
  intro l1 l2 l3 l4 s0 x H locs ls  hw hW hS hl
  unfold j_Mod_readItem_153 at hw
  refine lv_istore_n (lv' := [(3, .int s0), (0, .ref (ad 0)), (1, .int l1), (2, .int l2), (4, .int l4)]) hx hb d_Mod_readItem_153 rfl hl (by decide) rfl (fun ls hl => ?_)
  refine lv_aload_n hx hb d_Mod_readItem_154 rfl (lv_at hl 1 rfl) ?_
  refine lv_bipush (v := 40) hx hb d_Mod_readItem_155 (by decide) ?_
  have hF := hW.free hS hA
  refine va_callv (va_runV (C := R_Mod) (As := [.int 40]) (rest := []) ⟨hx, hb, hml, hown, hT⟩ (k_Mod_wantSign l dC dI cI cB cJ cZ ad H.size 40 x  hw) ⟨callB_of 1 hT (gwt_in w_11_42) rfl rfl rfl (hT _ w_1_15) (hT _ w_11_39) (by decide +kernel) ⟨Nat.le_trans (Nat.le_of_ble_eq_true rfl) hRf, Nat.le_trans (Nat.le_of_ble_eq_true rfl) hRl⟩, hT _ w_11_41, hT _ ws_120⟩ ⟨PW.blind, va_recv hK hW.1 (ci := 12) (q0 := 0) rfl (pic_obj ko_0.1 ko_0.2 (by decide)), PW.at _ hW hK hN⟩ rfl rfl hl.1 rfl (lv_room (Nat.le_of_ble_eq_true rfl)) d_Mod_readItem_157 ⟨hRc, hRs⟩) hS (fun q _ h => hF q h) hF (fun  x1964 t H locs ht hvm hw hB hz1 hk1 hS => ?_)
  have hW := Wd.back hB ht hF
  clear hB ht hF hz1 hk1 hvm
  refine lv_aload_n hx hb d_Mod_readItem_160 rfl (lv_at hl 1 rfl) ?_
  have hF := hW.free hS hA
  refine va_callv (va_runV (C := R_Mod) (As := []) (rest := []) ⟨hx, hb, hml, hown, hT⟩ (k_Mod_blanks l dC dI cI cB cJ cZ ad H.size  x1964  hw) ⟨callB_of 0 hT (gwt_in w_10_230) rfl rfl rfl (hT _ w_1_15) (hT _ w_10_227) (by decide +kernel) ⟨Nat.le_trans (Nat.le_of_ble_eq_true rfl) hRf, Nat.le_trans (Nat.le_of_ble_eq_true rfl) hRl⟩, hT _ w_10_229, hT _ ws_111⟩ ⟨PW.blind, va_recv hK hW.1 (ci := 12) (q0 := 0) rfl (pic_obj ko_0.1 ko_0.2 (by decide)), PW.at _ hW hK hN⟩ rfl rfl hl.1 rfl (lv_room (Nat.le_of_ble_eq_true rfl)) d_Mod_readItem_161 ⟨hRc, hRs⟩) hS (fun q _ h => hF q h) hF (fun  x1965 t H locs ht hvm hw hB hz1 hk1 hS => ?_)
  have hW := Wd.back hB ht hF
  clear hB ht hF hz1 hk1 hvm
  refine lv_aload_n hx hb d_Mod_readItem_164 rfl (lv_at hl 1 rfl) ?_
  refine w_geti (k := 16) (t := 12) (C := R_Mod) (T := F_Mod) (N := 167) hx hb hT hown hK hW ko_0.1 ko_0.2 (by decide) in_Mod rfl rfl (by decide) rfl fr_Mod_16 w_8_192 d_Mod_readItem_165 ?_
  refine lv_topi (fun v1966 ev1966 => ?_)
  have hw := hw v1966 ev1966
  refine lv_istore (lv' := [(5, .int v1966), (3, .int s0), (0, .ref (ad 0)), (1, .int l1), (2, .int l2), (4, .int l4)]) hx hb d_Mod_readItem_168 hl (by decide) rfl (fun ls hl => ?_)
  refine lv_aload_n hx hb d_Mod_readItem_170 rfl (lv_at hl 2 rfl) ?_
  have hF := hW.free hS hA
  refine va_calli (va_runV (C := R_Mod) (As := []) (rest := []) ⟨hx, hb, hml, hown, hT⟩ (k_Mod_flatColumn l dC dI cI cB cJ cZ ad H.size  x1965  hw) ⟨callB_of 0 hT (gwt_in w_13_144) rfl rfl rfl (hT _ w_1_15) (hT _ w_13_141) (by decide +kernel) ⟨Nat.le_trans (Nat.le_of_ble_eq_true rfl) hRf, Nat.le_trans (Nat.le_of_ble_eq_true rfl) hRl⟩, hT _ w_13_143, hT _ ws_239⟩ ⟨PW.blind, va_recv hK hW.1 (ci := 12) (q0 := 0) rfl (pic_obj ko_0.1 ko_0.2 (by decide)), PW.at _ hW hK hN⟩ rfl rfl hl.1 rfl (lv_room (Nat.le_of_ble_eq_true rfl)) d_Mod_readItem_171 ⟨hRc, hRs⟩) hS (fun q _ h => hF q h) hF (fun r1968 x1967 t H locs ht hvm hw hB hz1 hk1 hS => ?_)
  have hW := Wd.back hB ht hF
  clear hB ht hF hz1 hk1 hvm
  refine lv_istore (lv' := [(4, .int r1968), (5, .int v1966), (3, .int s0), (0, .ref (ad 0)), (1, .int l1), (2, .int l2)]) hx hb d_Mod_readItem_174 hl (by decide) rfl (fun ls hl => ?_)
  refine lv_aload_n hx hb d_Mod_readItem_176 rfl (lv_at hl 3 rfl) ?_
  refine w_geti (k := 17) (t := 12) (C := R_Mod) (T := F_Mod) (N := 167) hx hb hT hown hK hW ko_0.1 ko_0.2 (by decide) in_Mod rfl rfl (by decide) rfl fr_Mod_17 w_8_193 d_Mod_readItem_177 ?_
  refine lv_iconst (v := (-1)) hx hb d_Mod_readItem_180 (by decide) ?_
  refine lv_icmp_ne (tgt := 212) hx hb d_Mod_readItem_181 (by decide) (fun c1969 => ?_) (fun c1969 => ?_)
  · have hw := hw.1 c1969
    exact t_Mod_readItem_212 hx hb hml hown hT hK hN hA hRc hRs hRf hRl hret  l1 l2 s0 r1968 v1966 x1967 H locs ls  hw hW hS (lv_sub hl [3, 4, 5, 2, 0, 1] rfl)
  · have hw := hw.2 c1969
    refine lv_iload_n hx hb d_Mod_readItem_184 rfl (lv_at hl 2 rfl) ?_
    refine lv_iconst (v := 3) hx hb d_Mod_readItem_185 (by decide) ?_
    refine lv_icmp_ne (tgt := 212) hx hb d_Mod_readItem_186 (by decide) (fun c1970 => ?_) (fun c1970 => ?_)
    · have hw := hw.1 c1970
      exact t_Mod_readItem_212 hx hb hml hown hT hK hN hA hRc hRs hRf hRl hret  l1 l2 s0 r1968 v1966 x1967 H locs ls  hw hW hS (lv_sub hl [3, 4, 5, 2, 0, 1] rfl)
    · have hw := hw.2 c1970
      refine lv_aload_n hx hb d_Mod_readItem_189 rfl (lv_at hl 3 rfl) ?_
      refine w_getf (q := 4) (k := 6) (t := 12) (C := R_Mod) (T := F_Mod) (N := 167) hx hb hT hown hK hW ko_0.1 ko_0.2 (by decide) in_Mod rfl rfl (by decide) rfl fr_Mod_6 w_8_182 d_Mod_readItem_190 rfl ?_
      refine lv_iconst (v := 1) hx hb d_Mod_readItem_193 (by decide) ?_
      refine lv_iload hx hb d_Mod_readItem_194 (lv_at hl 0 rfl) ?_
      have hF := hW.free hS hA
      refine va_calli (va_runS (As := [.int 1, .int r1968]) (rest := [.ref (ad 4)]) ⟨hx, hb, hml, hown, hT⟩ (k_Mod_place l dC dI cI cB cJ cZ ad H.size 1 r1968 x1967  hw) ⟨callB_of 2 hT (gwt_in w_11_30) rfl rfl rfl (hT _ w_1_15) (hT _ w_11_28) (by decide +kernel) ⟨Nat.le_trans (Nat.le_of_ble_eq_true rfl) hRf, Nat.le_trans (Nat.le_of_ble_eq_true rfl) hRl⟩, hT _ w_11_29⟩ ⟨PW.blind, PW.at _ hW hK hN⟩ rfl rfl hl.1 rfl (lv_room (Nat.le_of_ble_eq_true rfl)) d_Mod_readItem_196 ⟨hRc, hRs⟩) hS (fun q _ h => hF q h) hF (fun r1972 x1971 t H locs ht hvm hw hB hz1 hk1 hS => ?_)
      have hW := Wd.back hB ht hF
      clear hB ht hF hz1 hk1 hvm
      obtain ⟨hi, hw⟩ := hw
      refine w_iald (o := 4) hx hb hK hW ko_4.1 ko_4.2 hi d_Mod_readItem_199 ?_
      have hF := hW.free hS hA
      refine va_calli (va_runS (As := [.int (rA x1971 4 r1972)]) (rest := []) ⟨hx, hb, hml, hown, hT⟩ (k_Mod_isWhole l dC dI cI cB cJ cZ ad H.size (rA x1971 4 r1972) x1971  hw) ⟨callB_of 1 hT (gwt_in w_13_151) rfl rfl rfl (hT _ w_1_15) (hT _ w_13_149) (by decide +kernel) ⟨Nat.le_trans (Nat.le_of_ble_eq_true rfl) hRf, Nat.le_trans (Nat.le_of_ble_eq_true rfl) hRl⟩, hT _ w_13_150⟩ ⟨PW.blind, PW.at _ hW hK hN⟩ rfl rfl hl.1 rfl (lv_room (Nat.le_of_ble_eq_true rfl)) d_Mod_readItem_200 ⟨hRc, hRs⟩) hS (fun q _ h => hF q h) hF (fun r1974 x1973 t H locs ht hvm hw hB hz1 hk1 hS => ?_)
      have hW := Wd.back hB ht hF
      clear hB ht hF hz1 hk1 hvm
      refine lv_if_ne (tgt := 212) hx hb d_Mod_readItem_203 (by decide) (fun c1975 => ?_) (fun c1975 => ?_)
      · have hw := hw.1 c1975
        exact t_Mod_readItem_212 hx hb hml hown hT hK hN hA hRc hRs hRf hRl hret  l1 l2 s0 r1968 v1966 x1973 H locs ls  hw hW hS (lv_sub hl [3, 4, 5, 2, 0, 1] rfl)
      · have hw := hw.2 c1975
        refine lv_aload_n hx hb d_Mod_readItem_206 rfl (lv_at hl 3 rfl) ?_
        refine lv_iload hx hb d_Mod_readItem_207 (lv_at hl 1 rfl) ?_
        have hF := hW.free hS hA
        refine va_callv (va_runV (C := R_Mod) (As := [.int v1966]) (rest := []) ⟨hx, hb, hml, hown, hT⟩ (k_Mod_fail l dC dI cI cB cJ cZ ad H.size v1966 x1973  hw) ⟨callB_of 1 hT (gwt_in w_11_14) rfl rfl rfl (hT _ w_1_15) (hT _ w_11_11) (by decide +kernel) ⟨Nat.le_trans (Nat.le_of_ble_eq_true rfl) hRf, Nat.le_trans (Nat.le_of_ble_eq_true rfl) hRl⟩, hT _ w_11_13, hT _ ws_115⟩ ⟨PW.blind, va_recv hK hW.1 (ci := 12) (q0 := 0) rfl (pic_obj ko_0.1 ko_0.2 (by decide)), PW.at _ hW hK hN⟩ rfl rfl hl.1 rfl (lv_room (Nat.le_of_ble_eq_true rfl)) d_Mod_readItem_209 ⟨hRc, hRs⟩) hS (fun q _ h => hF q h) hF (fun  x1976 t H locs ht hvm hw hB hz1 hk1 hS => ?_)
        have hW := Wd.back hB ht hF
        clear hB ht hF hz1 hk1 hvm
        exact t_Mod_readItem_212 hx hb hml hown hT hK hN hA hRc hRs hRf hRl hret  l1 l2 s0 r1968 v1966 x1976 H locs ls  hw hW hS (lv_sub hl [3, 4, 5, 2, 0, 1] rfl)
set_option maxRecDepth 100000 in
set_option maxHeartbeats 4000000 in
set_option maxRecDepth 100000 in
theorem t_Mod_readItem_143 {p : Program} {l : Launch} {e : Env} {R : Room} {s : State} {m : MethodId} {args : Array Value} {below : List Frame} {meth : Method} {c : Code} {cells slots : Nat} {Q : State → Prop} {dC : Nat → ClassId} {dI : Nat → Nat → Nat} {cI cB cJ cZ : ClassId} {A : Nat → Prop} {ad : Nat → Nat} {post : St → Prop} (hx : p.tables.exec = Jvm.exec) (hb : c.code = b_Mod_readItem) (hml : c.maxLocals = 6) (hown : s.vm.findClass R_Mod = some m.cls) (hT : ∀ w ∈ TG, w.before args s = true) (hK : va_K (dC, dI) CL (TY cI cB cJ cZ) s) (hN : NW s) (hA : ∀ q : Nat, s.heap.size ≤ q → A q) (hRc : cells ≤ R.cells) (hRs : slots ≤ R.slots) (hRf : 5 ≤ R.frames) (hRl : 112 ≤ R.locals) (hret : ∀ (x : St) (H : Heap) (locs : List Loc) (pc : Nat) (ls : Array Slot), decode b_Mod_readItem pc = .ok (.return_, 1) → post x → Wd dC dI cI cB cJ cZ ad stM kcM 115 A x H → va_S A s.heap H locs → W p l e R s m args below meth c H locs cells slots Q (F0 m pc ls []))  : ∀ (l1 : Int32) (l2 : Int32) (l3 : Int32) (l4 : Int32) (x : St) (H : Heap) (locs : List Loc) (ls : Array Slot), j_Mod_readItem_143 post l1 l2 l3 l4 x → Wd dC dI cI cB cJ cZ ad stM kcM 115 A x H → va_S A s.heap H locs → lv_has ls 6 [(0, .ref (ad 0)), (1, .int l1), (2, .int l2), (3, .int l3), (4, .int l4)] → W p l e R s m args below meth c H locs cells slots Q (F0 m 143 ls []) := by
  intro l1 l2 l3 l4 x H locs ls  hw hW hS hl
  unfold j_Mod_readItem_143 at hw
  refine lv_iload_n hx hb d_Mod_readItem_143 rfl (lv_at hl 3 rfl) ?_
  refine lv_iconst (v := 1) hx hb d_Mod_readItem_144 (by decide) ?_
  refine lv_icmp_ne (tgt := 152) hx hb d_Mod_readItem_145 (by decide) (fun c1977 => ?_) (fun c1977 => ?_)
  · have hw := hw.1 c1977
    refine lv_iload_n hx hb d_Mod_readItem_152 rfl (lv_at hl 3 rfl) ?_
    exact t_Mod_readItem_153 hx hb hml hown hT hK hN hA hRc hRs hRf hRl hret  l1 l2 l3 l4 l3 x H locs ls  hw hW hS (lv_sub hl [0, 1, 2, 3, 4] rfl)
  · have hw := hw.2 c1977
    refine lv_iconst (v := 2) hx hb d_Mod_readItem_148 (by decide) ?_
    refine lv_goto (tgt := 153) hx hb d_Mod_readItem_149 (by decide) ?_
    exact t_Mod_readItem_153 hx hb hml hown hT hK hN hA hRc hRs hRf hRl hret  l1 l2 l3 l4 2 x H locs ls  hw hW hS (lv_sub hl [0, 1, 2, 3, 4] rfl)
set_option maxRecDepth 100000 in
set_option maxHeartbeats 4000000 in
set_option maxRecDepth 100000 in
theorem t_Mod_readItem_89 {p : Program} {l : Launch} {e : Env} {R : Room} {s : State} {m : MethodId} {args : Array Value} {below : List Frame} {meth : Method} {c : Code} {cells slots : Nat} {Q : State → Prop} {dC : Nat → ClassId} {dI : Nat → Nat → Nat} {cI cB cJ cZ : ClassId} {A : Nat → Prop} {ad : Nat → Nat} {post : St → Prop} (hx : p.tables.exec = Jvm.exec) (hb : c.code = b_Mod_readItem) (hml : c.maxLocals = 6) (hown : s.vm.findClass R_Mod = some m.cls) (hT : ∀ w ∈ TG, w.before args s = true) (hK : va_K (dC, dI) CL (TY cI cB cJ cZ) s) (hN : NW s) (hA : ∀ q : Nat, s.heap.size ≤ q → A q) (hRc : cells ≤ R.cells) (hRs : slots ≤ R.slots) (hRf : 5 ≤ R.frames) (hRl : 112 ≤ R.locals) (hret : ∀ (x : St) (H : Heap) (locs : List Loc) (pc : Nat) (ls : Array Slot), decode b_Mod_readItem pc = .ok (.return_, 1) → post x → Wd dC dI cI cB cJ cZ ad stM kcM 115 A x H → va_S A s.heap H locs → W p l e R s m args below meth c H locs cells slots Q (F0 m pc ls []))  : ∀ (l1 : Int32) (l2 : Int32) (s0 : Int32) (x : St) (H : Heap) (locs : List Loc) (ls : Array Slot), j_Mod_readItem_89 post l1 l2 s0 x → Wd dC dI cI cB cJ cZ ad stM kcM 115 A x H → va_S A s.heap H locs → lv_has ls 6 [(0, .ref (ad 0)), (1, .int l1), (2, .int l2)] → W p l e R s m args below meth c H locs cells slots Q (F0 m 89 ls [.int s0]) := by
  intro l1 l2 s0 x H locs ls  hw hW hS hl
  unfold j_Mod_readItem_89 at hw
  refine lv_istore_n (lv' := [(3, .int s0), (0, .ref (ad 0)), (1, .int l1), (2, .int l2)]) hx hb d_Mod_readItem_89 rfl hl (by decide) rfl (fun ls hl => ?_)
  refine lv_iconst (v := (-1)) hx hb d_Mod_readItem_90 (by decide) ?_
  refine lv_istore (lv' := [(4, .int (-1)), (3, .int s0), (0, .ref (ad 0)), (1, .int l1), (2, .int l2)]) hx hb d_Mod_readItem_91 hl (by decide) rfl (fun ls hl => ?_)
  refine lv_aload_n hx hb d_Mod_readItem_93 rfl (lv_at hl 2 rfl) ?_
  have hF := hW.free hS hA
  refine va_callv (va_runV (C := R_Mod) (As := []) (rest := []) ⟨hx, hb, hml, hown, hT⟩ (k_Mod_blanks l dC dI cI cB cJ cZ ad H.size  x  hw) ⟨callB_of 0 hT (gwt_in w_10_230) rfl rfl rfl (hT _ w_1_15) (hT _ w_10_227) (by decide +kernel) ⟨Nat.le_trans (Nat.le_of_ble_eq_true rfl) hRf, Nat.le_trans (Nat.le_of_ble_eq_true rfl) hRl⟩, hT _ w_10_229, hT _ ws_111⟩ ⟨PW.blind, va_recv hK hW.1 (ci := 12) (q0 := 0) rfl (pic_obj ko_0.1 ko_0.2 (by decide)), PW.at _ hW hK hN⟩ rfl rfl hl.1 rfl (lv_room (Nat.le_of_ble_eq_true rfl)) d_Mod_readItem_94 ⟨hRc, hRs⟩) hS (fun q _ h => hF q h) hF (fun  x1978 t H locs ht hvm hw hB hz1 hk1 hS => ?_)
  have hW := Wd.back hB ht hF
  clear hB ht hF hz1 hk1 hvm
  refine lv_iload_n hx hb d_Mod_readItem_97 rfl (lv_at hl 1 rfl) ?_
  refine lv_if_ne (tgt := 129) hx hb d_Mod_readItem_98 (by decide) (fun c1979 => ?_) (fun c1979 => ?_)
  · have hw := hw.1 c1979
    refine lv_iload_n hx hb d_Mod_readItem_129 rfl (lv_at hl 1 rfl) ?_
    refine lv_iconst (v := 1) hx hb d_Mod_readItem_130 (by decide) ?_
    refine lv_icmp_gt (tgt := 143) hx hb d_Mod_readItem_131 (by decide) (fun c1980 => ?_) (fun c1980 => ?_)
    · have hw := hw.1 c1980
      exact t_Mod_readItem_143 hx hb hml hown hT hK hN hA hRc hRs hRf hRl hret  l1 l2 s0 (-1) x1978 H locs ls  hw hW hS (lv_sub hl [2, 3, 4, 1, 0] rfl)
    · have hw := hw.2 c1980
      refine lv_aload_n hx hb d_Mod_readItem_134 rfl (lv_at hl 2 rfl) ?_
      have hF := hW.free hS hA
      refine va_calli (va_runV (C := R_Mod) (As := []) (rest := []) ⟨hx, hb, hml, hown, hT⟩ (k_Mod_look l dC dI cI cB cJ cZ ad H.size  x1978  hw) ⟨callB_of 0 hT (gwt_in w_10_234) rfl rfl rfl (hT _ w_1_15) (hT _ w_10_231) (by decide +kernel) ⟨Nat.le_trans (Nat.le_of_ble_eq_true rfl) hRf, Nat.le_trans (Nat.le_of_ble_eq_true rfl) hRl⟩, hT _ w_10_233, hT _ ws_112⟩ ⟨PW.blind, va_recv hK hW.1 (ci := 12) (q0 := 0) rfl (pic_obj ko_0.1 ko_0.2 (by decide)), PW.at _ hW hK hN⟩ rfl rfl hl.1 rfl (lv_room (Nat.le_of_ble_eq_true rfl)) d_Mod_readItem_135 ⟨hRc, hRs⟩) hS (fun q _ h => hF q h) hF (fun r1982 x1981 t H locs ht hvm hw hB hz1 hk1 hS => ?_)
      have hW := Wd.back hB ht hF
      clear hB ht hF hz1 hk1 hvm
      refine lv_bipush (v := 40) hx hb d_Mod_readItem_138 (by decide) ?_
      refine lv_icmp_ne (tgt := 218) hx hb d_Mod_readItem_140 (by decide) (fun c1983 => ?_) (fun c1983 => ?_)
      · have hw := hw.1 c1983
        exact t_Mod_readItem_218 hx hb hml hown hT hK hN hA hRc hRs hRf hRl hret  l1 l2 s0 (-1) x1981 H locs ls  hw hW hS (lv_sub hl [2, 3, 4, 1, 0] rfl)
      · have hw := hw.2 c1983
        exact t_Mod_readItem_143 hx hb hml hown hT hK hN hA hRc hRs hRf hRl hret  l1 l2 s0 (-1) x1981 H locs ls  hw hW hS (lv_sub hl [2, 3, 4, 1, 0] rfl)
  · have hw := hw.2 c1979
    refine lv_aload_n hx hb d_Mod_readItem_101 rfl (lv_at hl 2 rfl) ?_
    have hF := hW.free hS hA
    refine va_calli (va_runV (C := R_Mod) (As := []) (rest := []) ⟨hx, hb, hml, hown, hT⟩ (k_Mod_path l dC dI cI cB cJ cZ ad H.size  x1978  hw) ⟨callB_of 0 hT (gwt_in w_13_129) rfl rfl rfl (hT _ w_1_15) (hT _ w_13_126) (by decide +kernel) ⟨Nat.le_trans (Nat.le_of_ble_eq_true rfl) hRf, Nat.le_trans (Nat.le_of_ble_eq_true rfl) hRl⟩, hT _ w_13_128, hT _ ws_238⟩ ⟨PW.blind, va_recv hK hW.1 (ci := 12) (q0 := 0) rfl (pic_obj ko_0.1 ko_0.2 (by decide)), PW.at _ hW hK hN⟩ rfl rfl hl.1 rfl (lv_room (Nat.le_of_ble_eq_true rfl)) d_Mod_readItem_102 ⟨hRc, hRs⟩) hS (fun q _ h => hF q h) hF (fun r1985 x1984 t H locs ht hvm hw hB hz1 hk1 hS => ?_)
    have hW := Wd.back hB ht hF
    clear hB ht hF hz1 hk1 hvm
    refine lv_istore (lv' := [(4, .int r1985), (3, .int s0), (0, .ref (ad 0)), (1, .int l1), (2, .int l2)]) hx hb d_Mod_readItem_105 hl (by decide) rfl (fun ls hl => ?_)
    refine lv_aload_n hx hb d_Mod_readItem_107 rfl (lv_at hl 2 rfl) ?_
    refine w_geti (k := 17) (t := 12) (C := R_Mod) (T := F_Mod) (N := 167) hx hb hT hown hK hW ko_0.1 ko_0.2 (by decide) in_Mod rfl rfl (by decide) rfl fr_Mod_17 w_8_193 d_Mod_readItem_108 ?_
    refine lv_iconst (v := (-1)) hx hb d_Mod_readItem_111 (by decide) ?_
    refine lv_icmp_ne (tgt := 218) hx hb d_Mod_readItem_112 (by decide) (fun c1986 => ?_) (fun c1986 => ?_)
    · have hw := hw.1 c1986
      exact t_Mod_readItem_218 hx hb hml hown hT hK hN hA hRc hRs hRf hRl hret  l1 l2 s0 r1985 x1984 H locs ls  hw hW hS (lv_sub hl [2, 3, 4, 1, 0] rfl)
    · have hw := hw.2 c1986
      refine lv_iload hx hb d_Mod_readItem_115 (lv_at hl 0 rfl) ?_
      refine lv_iconst (v := (-1)) hx hb d_Mod_readItem_117 (by decide) ?_
      refine lv_icmp_ne (tgt := 218) hx hb d_Mod_readItem_118 (by decide) (fun c1987 => ?_) (fun c1987 => ?_)
      · have hw := hw.1 c1987
        exact t_Mod_readItem_218 hx hb hml hown hT hK hN hA hRc hRs hRf hRl hret  l1 l2 s0 r1985 x1984 H locs ls  hw hW hS (lv_sub hl [2, 3, 4, 1, 0] rfl)
      · have hw := hw.2 c1987
        refine lv_aload_n hx hb d_Mod_readItem_121 rfl (lv_at hl 2 rfl) ?_
        refine lv_iload_n hx hb d_Mod_readItem_122 rfl (lv_at hl 3 rfl) ?_
        have hF := hW.free hS hA
        refine va_callv (va_runV (C := R_Mod) (As := [.int l1]) (rest := []) ⟨hx, hb, hml, hown, hT⟩ (k_Mod_fail l dC dI cI cB cJ cZ ad H.size l1 x1984  hw) ⟨callB_of 1 hT (gwt_in w_11_14) rfl rfl rfl (hT _ w_1_15) (hT _ w_11_11) (by decide +kernel) ⟨Nat.le_trans (Nat.le_of_ble_eq_true rfl) hRf, Nat.le_trans (Nat.le_of_ble_eq_true rfl) hRl⟩, hT _ w_11_13, hT _ ws_115⟩ ⟨PW.blind, va_recv hK hW.1 (ci := 12) (q0 := 0) rfl (pic_obj ko_0.1 ko_0.2 (by decide)), PW.at _ hW hK hN⟩ rfl rfl hl.1 rfl (lv_room (Nat.le_of_ble_eq_true rfl)) d_Mod_readItem_123 ⟨hRc, hRs⟩) hS (fun q _ h => hF q h) hF (fun  x1988 t H locs ht hvm hw hB hz1 hk1 hS => ?_)
        have hW := Wd.back hB ht hF
        clear hB ht hF hz1 hk1 hvm
        refine lv_goto (tgt := 218) hx hb d_Mod_readItem_126 (by decide) ?_
        exact t_Mod_readItem_218 hx hb hml hown hT hK hN hA hRc hRs hRf hRl hret  l1 l2 s0 r1985 x1988 H locs ls  hw hW hS (lv_sub hl [2, 3, 4, 1, 0] rfl)
set_option maxRecDepth 100000 in
set_option maxHeartbeats 4000000 in
set_option maxRecDepth 100000 in
theorem t_Mod_readItem_32 {p : Program} {l : Launch} {e : Env} {R : Room} {s : State} {m : MethodId} {args : Array Value} {below : List Frame} {meth : Method} {c : Code} {cells slots : Nat} {Q : State → Prop} {dC : Nat → ClassId} {dI : Nat → Nat → Nat} {cI cB cJ cZ : ClassId} {A : Nat → Prop} {ad : Nat → Nat} {post : St → Prop} (hx : p.tables.exec = Jvm.exec) (hb : c.code = b_Mod_readItem) (hml : c.maxLocals = 6) (hown : s.vm.findClass R_Mod = some m.cls) (hT : ∀ w ∈ TG, w.before args s = true) (hK : va_K (dC, dI) CL (TY cI cB cJ cZ) s) (hN : NW s) (hA : ∀ q : Nat, s.heap.size ≤ q → A q) (hRc : cells ≤ R.cells) (hRs : slots ≤ R.slots) (hRf : 5 ≤ R.frames) (hRl : 112 ≤ R.locals) (hret : ∀ (x : St) (H : Heap) (locs : List Loc) (pc : Nat) (ls : Array Slot), decode b_Mod_readItem pc = .ok (.return_, 1) → post x → Wd dC dI cI cB cJ cZ ad stM kcM 115 A x H → va_S A s.heap H locs → W p l e R s m args below meth c H locs cells slots Q (F0 m pc ls []))  : ∀ (l1 : Int32) (l2 : Int32) (x : St) (H : Heap) (locs : List Loc) (ls : Array Slot), j_Mod_readItem_32 post l1 l2 x → Wd dC dI cI cB cJ cZ ad stM kcM 115 A x H → va_S A s.heap H locs → lv_has ls 6 [(0, .ref (ad 0)), (1, .int l1), (2, .int l2)] → W p l e R s m args below meth c H locs cells slots Q (F0 m 32 ls []) := by
  intro l1 l2 x H locs ls  hw hW hS hl
  unfold j_Mod_readItem_32 at hw
  refine lv_aload_n hx hb d_Mod_readItem_32 rfl (lv_at hl 0 rfl) ?_
  refine lv_ldc2 hx hb hown (hT _ w_13_122) d_Mod_readItem_33 ?_
  have hF := hW.free hS hA
  refine va_calli (va_runV (C := R_Mod) (As := [.long 427071729268]) (rest := []) ⟨hx, hb, hml, hown, hT⟩ (k_Mod_takesWord l dC dI cI cB cJ cZ ad H.size 427071729268 x  hw) ⟨callB_of 1 hT (gwt_in w_10_222) rfl rfl rfl (hT _ w_1_15) (hT _ w_10_219) (by decide +kernel) ⟨Nat.le_trans (Nat.le_of_ble_eq_true rfl) hRf, Nat.le_trans (Nat.le_of_ble_eq_true rfl) hRl⟩, hT _ w_10_221, hT _ ws_109⟩ ⟨PW.blind, va_recv hK hW.1 (ci := 12) (q0 := 0) rfl (pic_obj ko_0.1 ko_0.2 (by decide)), PW.at _ hW hK hN⟩ rfl rfl hl.1 rfl (lv_room (Nat.le_of_ble_eq_true rfl)) d_Mod_readItem_36 ⟨hRc, hRs⟩) hS (fun q _ h => hF q h) hF (fun r1990 x1989 t H locs ht hvm hw hB hz1 hk1 hS => ?_)
  have hW := Wd.back hB ht hF
  clear hB ht hF hz1 hk1 hvm
  refine lv_if_eq (tgt := 46) hx hb d_Mod_readItem_39 (by decide) (fun c1991 => ?_) (fun c1991 => ?_)
  · have hw := hw.1 c1991
    refine lv_aload_n hx hb d_Mod_readItem_46 rfl (lv_at hl 0 rfl) ?_
    refine lv_ldc2 hx hb hown (hT _ w_13_123) d_Mod_readItem_47 ?_
    have hF := hW.free hS hA
    refine va_calli (va_runV (C := R_Mod) (As := [.long 7566701]) (rest := []) ⟨hx, hb, hml, hown, hT⟩ (k_Mod_takesWord l dC dI cI cB cJ cZ ad H.size 7566701 x1989  hw) ⟨callB_of 1 hT (gwt_in w_10_222) rfl rfl rfl (hT _ w_1_15) (hT _ w_10_219) (by decide +kernel) ⟨Nat.le_trans (Nat.le_of_ble_eq_true rfl) hRf, Nat.le_trans (Nat.le_of_ble_eq_true rfl) hRl⟩, hT _ w_10_221, hT _ ws_109⟩ ⟨PW.blind, va_recv hK hW.1 (ci := 12) (q0 := 0) rfl (pic_obj ko_0.1 ko_0.2 (by decide)), PW.at _ hW hK hN⟩ rfl rfl hl.1 rfl (lv_room (Nat.le_of_ble_eq_true rfl)) d_Mod_readItem_50 ⟨hRc, hRs⟩) hS (fun q _ h => hF q h) hF (fun r1993 x1992 t H locs ht hvm hw hB hz1 hk1 hS => ?_)
    have hW := Wd.back hB ht hF
    clear hB ht hF hz1 hk1 hvm
    refine lv_if_eq (tgt := 60) hx hb d_Mod_readItem_53 (by decide) (fun c1994 => ?_) (fun c1994 => ?_)
    · have hw := hw.1 c1994
      refine lv_aload_n hx hb d_Mod_readItem_60 rfl (lv_at hl 0 rfl) ?_
      refine lv_ldc2 hx hb hown (hT _ w_13_124) d_Mod_readItem_61 ?_
      have hF := hW.free hS hA
      refine va_calli (va_runV (C := R_Mod) (As := [.long 7170414]) (rest := []) ⟨hx, hb, hml, hown, hT⟩ (k_Mod_takesWord l dC dI cI cB cJ cZ ad H.size 7170414 x1992  hw) ⟨callB_of 1 hT (gwt_in w_10_222) rfl rfl rfl (hT _ w_1_15) (hT _ w_10_219) (by decide +kernel) ⟨Nat.le_trans (Nat.le_of_ble_eq_true rfl) hRf, Nat.le_trans (Nat.le_of_ble_eq_true rfl) hRl⟩, hT _ w_10_221, hT _ ws_109⟩ ⟨PW.blind, va_recv hK hW.1 (ci := 12) (q0 := 0) rfl (pic_obj ko_0.1 ko_0.2 (by decide)), PW.at _ hW hK hN⟩ rfl rfl hl.1 rfl (lv_room (Nat.le_of_ble_eq_true rfl)) d_Mod_readItem_64 ⟨hRc, hRs⟩) hS (fun q _ h => hF q h) hF (fun r1996 x1995 t H locs ht hvm hw hB hz1 hk1 hS => ?_)
      have hW := Wd.back hB ht hF
      clear hB ht hF hz1 hk1 hvm
      refine lv_if_eq (tgt := 74) hx hb d_Mod_readItem_67 (by decide) (fun c1997 => ?_) (fun c1997 => ?_)
      · have hw := hw.1 c1997
        refine lv_aload_n hx hb d_Mod_readItem_74 rfl (lv_at hl 0 rfl) ?_
        refine lv_ldc2 hx hb hown (hT _ w_13_125) d_Mod_readItem_75 ?_
        have hF := hW.free hS hA
        refine va_calli (va_runV (C := R_Mod) (As := [.long 7168376]) (rest := []) ⟨hx, hb, hml, hown, hT⟩ (k_Mod_takesWord l dC dI cI cB cJ cZ ad H.size 7168376 x1995  hw) ⟨callB_of 1 hT (gwt_in w_10_222) rfl rfl rfl (hT _ w_1_15) (hT _ w_10_219) (by decide +kernel) ⟨Nat.le_trans (Nat.le_of_ble_eq_true rfl) hRf, Nat.le_trans (Nat.le_of_ble_eq_true rfl) hRl⟩, hT _ w_10_221, hT _ ws_109⟩ ⟨PW.blind, va_recv hK hW.1 (ci := 12) (q0 := 0) rfl (pic_obj ko_0.1 ko_0.2 (by decide)), PW.at _ hW hK hN⟩ rfl rfl hl.1 rfl (lv_room (Nat.le_of_ble_eq_true rfl)) d_Mod_readItem_78 ⟨hRc, hRs⟩) hS (fun q _ h => hF q h) hF (fun r1999 x1998 t H locs ht hvm hw hB hz1 hk1 hS => ?_)
        have hW := Wd.back hB ht hF
        clear hB ht hF hz1 hk1 hvm
        refine lv_if_eq (tgt := 88) hx hb d_Mod_readItem_81 (by decide) (fun c2000 => ?_) (fun c2000 => ?_)
        · have hw := hw.1 c2000
          refine lv_iconst (v := 0) hx hb d_Mod_readItem_88 (by decide) ?_
          exact t_Mod_readItem_89 hx hb hml hown hT hK hN hA hRc hRs hRf hRl hret  l1 l2 0 x1998 H locs ls  hw hW hS (lv_sub hl [0, 1, 2] rfl)
        · have hw := hw.2 c2000
          refine lv_iconst (v := 5) hx hb d_Mod_readItem_84 (by decide) ?_
          refine lv_goto (tgt := 89) hx hb d_Mod_readItem_85 (by decide) ?_
          exact t_Mod_readItem_89 hx hb hml hown hT hK hN hA hRc hRs hRf hRl hret  l1 l2 5 x1998 H locs ls  hw hW hS (lv_sub hl [0, 1, 2] rfl)
      · have hw := hw.2 c1997
        refine lv_iconst (v := 4) hx hb d_Mod_readItem_70 (by decide) ?_
        refine lv_goto (tgt := 89) hx hb d_Mod_readItem_71 (by decide) ?_
        exact t_Mod_readItem_89 hx hb hml hown hT hK hN hA hRc hRs hRf hRl hret  l1 l2 4 x1995 H locs ls  hw hW hS (lv_sub hl [0, 1, 2] rfl)
    · have hw := hw.2 c1994
      refine lv_iconst (v := 3) hx hb d_Mod_readItem_56 (by decide) ?_
      refine lv_goto (tgt := 89) hx hb d_Mod_readItem_57 (by decide) ?_
      exact t_Mod_readItem_89 hx hb hml hown hT hK hN hA hRc hRs hRf hRl hret  l1 l2 3 x1992 H locs ls  hw hW hS (lv_sub hl [0, 1, 2] rfl)
  · have hw := hw.2 c1991
    refine lv_iconst (v := 1) hx hb d_Mod_readItem_42 (by decide) ?_
    refine lv_goto (tgt := 89) hx hb d_Mod_readItem_43 (by decide) ?_
    exact t_Mod_readItem_89 hx hb hml hown hT hK hN hA hRc hRs hRf hRl hret  l1 l2 1 x1989 H locs ls  hw hW hS (lv_sub hl [0, 1, 2] rfl)
set_option maxRecDepth 100000 in
set_option maxHeartbeats 4000000 in
set_option maxRecDepth 100000 in
theorem t_Mod_readItem_e {p : Program} {l : Launch} {e : Env} {R : Room} {s : State} {m : MethodId} {args : Array Value} {below : List Frame} {meth : Method} {c : Code} {cells slots : Nat} {Q : State → Prop} {dC : Nat → ClassId} {dI : Nat → Nat → Nat} {cI cB cJ cZ : ClassId} {A : Nat → Prop} {ad : Nat → Nat} {post : St → Prop} (hx : p.tables.exec = Jvm.exec) (hb : c.code = b_Mod_readItem) (hml : c.maxLocals = 6) (hown : s.vm.findClass R_Mod = some m.cls) (hT : ∀ w ∈ TG, w.before args s = true) (hK : va_K (dC, dI) CL (TY cI cB cJ cZ) s) (hN : NW s) (hA : ∀ q : Nat, s.heap.size ≤ q → A q) (hRc : cells ≤ R.cells) (hRs : slots ≤ R.slots) (hRf : 5 ≤ R.frames) (hRl : 112 ≤ R.locals) (hret : ∀ (x : St) (H : Heap) (locs : List Loc) (pc : Nat) (ls : Array Slot), decode b_Mod_readItem pc = .ok (.return_, 1) → post x → Wd dC dI cI cB cJ cZ ad stM kcM 115 A x H → va_S A s.heap H locs → W p l e R s m args below meth c H locs cells slots Q (F0 m pc ls [])) : ∀  (x : St) (H : Heap) (locs : List Loc) (ls : Array Slot), wp_Mod_readItem post  x → Wd dC dI cI cB cJ cZ ad stM kcM 115 A x H → va_S A s.heap H locs → lv_has ls 6 [(0, .ref (ad 0))] → W p l e R s m args below meth c H locs cells slots Q (F0 m 0 ls []) := by
  intro  x H locs ls  hw hW hS hl
  unfold wp_Mod_readItem at hw
  refine lv_aload_n hx hb d_Mod_readItem_0 rfl (lv_at hl 0 rfl) ?_
  have hF := hW.free hS hA
  refine va_callv (va_runV (C := R_Mod) (As := []) (rest := []) ⟨hx, hb, hml, hown, hT⟩ (k_Mod_blanks l dC dI cI cB cJ cZ ad H.size  x  hw) ⟨callB_of 0 hT (gwt_in w_10_230) rfl rfl rfl (hT _ w_1_15) (hT _ w_10_227) (by decide +kernel) ⟨Nat.le_trans (Nat.le_of_ble_eq_true rfl) hRf, Nat.le_trans (Nat.le_of_ble_eq_true rfl) hRl⟩, hT _ w_10_229, hT _ ws_111⟩ ⟨PW.blind, va_recv hK hW.1 (ci := 12) (q0 := 0) rfl (pic_obj ko_0.1 ko_0.2 (by decide)), PW.at _ hW hK hN⟩ rfl rfl hl.1 rfl (lv_room (Nat.le_of_ble_eq_true rfl)) d_Mod_readItem_1 ⟨hRc, hRs⟩) hS (fun q _ h => hF q h) hF (fun  x2001 t H locs ht hvm hw hB hz1 hk1 hS => ?_)
  have hW := Wd.back hB ht hF
  clear hB ht hF hz1 hk1 hvm
  refine lv_aload_n hx hb d_Mod_readItem_4 rfl (lv_at hl 0 rfl) ?_
  refine w_geti (k := 16) (t := 12) (C := R_Mod) (T := F_Mod) (N := 167) hx hb hT hown hK hW ko_0.1 ko_0.2 (by decide) in_Mod rfl rfl (by decide) rfl fr_Mod_16 w_8_192 d_Mod_readItem_5 ?_
  refine lv_topi (fun v2002 ev2002 => ?_)
  have hw := hw v2002 ev2002
  refine lv_istore_n (lv' := [(1, .int v2002), (0, .ref (ad 0))]) hx hb d_Mod_readItem_8 rfl hl (by decide) rfl (fun ls hl => ?_)
  refine lv_aload_n hx hb d_Mod_readItem_9 rfl (lv_at hl 1 rfl) ?_
  refine w_getf (q := 79) (k := 122) (t := 12) (C := R_Mod) (T := F_Mod) (N := 167) hx hb hT hown hK hW ko_0.1 ko_0.2 (by decide) in_Mod rfl rfl (by decide) rfl fr_Mod_122 w_9_58 d_Mod_readItem_10 rfl ?_
  refine lv_iconst (v := 4) hx hb d_Mod_readItem_13 (by decide) ?_
  refine lv_aload_n hx hb d_Mod_readItem_14 rfl (lv_at hl 1 rfl) ?_
  refine w_geti (k := 118) (t := 12) (C := R_Mod) (T := F_Mod) (N := 167) hx hb hT hown hK hW ko_0.1 ko_0.2 (by decide) in_Mod rfl rfl (by decide) rfl fr_Mod_118 w_9_54 d_Mod_readItem_15 ?_
  refine lv_imul hx hb d_Mod_readItem_18 ?_
  obtain ⟨hi, hw⟩ := hw
  refine w_iald (o := 79) hx hb hK hW ko_79.1 ko_79.2 hi d_Mod_readItem_19 ?_
  refine lv_topi (fun v2003 ev2003 => ?_)
  have hw := hw v2003 ev2003
  refine lv_istore_n (lv' := [(2, .int v2003), (1, .int v2002), (0, .ref (ad 0))]) hx hb d_Mod_readItem_20 rfl hl (by decide) rfl (fun ls hl => ?_)
  refine lv_iload_n hx hb d_Mod_readItem_21 rfl (lv_at hl 0 rfl) ?_
  refine lv_bipush (v := 16) hx hb d_Mod_readItem_22 (by decide) ?_
  refine lv_icmp_ne (tgt := 32) hx hb d_Mod_readItem_24 (by decide) (fun c2004 => ?_) (fun c2004 => ?_)
  · have hw := hw.1 c2004
    exact t_Mod_readItem_32 hx hb hml hown hT hK hN hA hRc hRs hRf hRl hret  v2002 v2003 x2001 H locs ls  hw hW hS (lv_sub hl [2, 1, 0] rfl)
  · have hw := hw.2 c2004
    refine lv_aload_n hx hb d_Mod_readItem_27 rfl (lv_at hl 2 rfl) ?_
    refine lv_iload_n hx hb d_Mod_readItem_28 rfl (lv_at hl 1 rfl) ?_
    have hF := hW.free hS hA
    refine va_callv (va_runV (C := R_Mod) (As := [.int v2002]) (rest := []) ⟨hx, hb, hml, hown, hT⟩ (k_Mod_fail l dC dI cI cB cJ cZ ad H.size v2002 x2001  hw) ⟨callB_of 1 hT (gwt_in w_11_14) rfl rfl rfl (hT _ w_1_15) (hT _ w_11_11) (by decide +kernel) ⟨Nat.le_trans (Nat.le_of_ble_eq_true rfl) hRf, Nat.le_trans (Nat.le_of_ble_eq_true rfl) hRl⟩, hT _ w_11_13, hT _ ws_115⟩ ⟨PW.blind, va_recv hK hW.1 (ci := 12) (q0 := 0) rfl (pic_obj ko_0.1 ko_0.2 (by decide)), PW.at _ hW hK hN⟩ rfl rfl hl.1 rfl (lv_room (Nat.le_of_ble_eq_true rfl)) d_Mod_readItem_29 ⟨hRc, hRs⟩) hS (fun q _ h => hF q h) hF (fun  x2005 t H locs ht hvm hw hB hz1 hk1 hS => ?_)
    have hW := Wd.back hB ht hF
    clear hB ht hF hz1 hk1 hvm
    exact t_Mod_readItem_32 hx hb hml hown hT hK hN hA hRc hRs hRf hRl hret  v2002 v2003 x2005 H locs ls  hw hW hS (lv_sub hl [2, 1, 0] rfl)
set_option maxHeartbeats 4000000 in
set_option maxRecDepth 100000 in
theorem k_Mod_readItem (l : Launch) (dC : Nat → ClassId) (dI : Nat → Nat → Nat) (cI cB cJ cZ : ClassId) (ad : Nat → Nat) (sz : Nat)  (x : St) {post : St → Prop} (hw : wp_Mod_readItem post  x) : Met l y_Mod_readItem (wsOf y_Mod_readItem b_Mod_readItem 6 (none)) ({ frames := 5, cells := 0, slots := 0, locals := 112 }) (va_Pc [.ref (ad 0)] (PW dC dI cI cB cJ cZ ad stM kcM 115 sz x)) (va_Qv (fun (y : St) => post y) (fun y t => Wd dC dI cI cB cJ cZ ad stM kcM 115 (va_A (pic ad stM kcM 115 cI cB cJ cZ x) sz) y t.heap) (va_A (pic ad stM kcM 115 cI cB cJ cZ x) sz)) 0 0 (va_A (pic ad stM kcM 115 cI cB cJ cZ x) sz) := by
  refine Met.ofW (cc := b_Mod_readItem) (maxL := 6) (ret := none) (by decide) rfl ?_
  intro p e s m args below meth c s₁ B hml hv
  obtain ⟨rfl, hsz, hW0, hK, hN⟩ := hv
  have hx := B.exec
  have hb := B.bytes
  have hr := B.returns
  have hts := atoms_spec B.pre
  have hT : ∀ w ∈ TG, w.before _ s = true := fun w h => hts w (List.mem_cons_of_mem _ h)
  have hown : s.vm.findClass R_Mod = some m.cls := findClass_of_methodNamed B.named
  have hlocks := B.notSynchronized
  subst hsz
  have hW : Wd dC dI cI cB cJ cZ ad stM kcM 115 (va_A (pic ad stM kcM 115 cI cB cJ cZ x) s.heap.size) x s.heap := ⟨hW0.1, hW0.2.1.self (sz := s.heap.size), hW0.2.2⟩
  generalize hAe : va_A (pic ad stM kcM 115 cI cB cJ cZ x) s.heap.size = A at hW ⊢
  have hA : ∀ q : Nat, s.heap.size ≤ q → A q := fun q h => by rw [← hAe]; exact Or.inr h
  have hS : va_S A s.heap s.heap [] := va_S.rf
  have hl := lv_entry ([.ref (ad 0)]) (n := 6) (Nat.le_of_ble_eq_true rfl)
  rw [lg_entry_eq]
  generalize (lg_sl ([.ref (ad 0)]) ++ List.replicate (6 - (lg_sl ([.ref (ad 0)])).length) Slot.unset).toArray = ls at hl ⊢
  have hl : lv_has ls 6 [(0, .ref (ad 0))] := hl
  exact t_Mod_readItem_e hx hb hml hown hT hK hN hA (Nat.le_refl 0) (Nat.le_refl 0) (Nat.le_refl 5) (Nat.le_refl 112) (fun x H locs pc ls hd hp hW hS => W.vret hx hb hr (fun t ht hM => ⟨⟨x, rfl, hp, Wd.back hW ht.symm (fun _ z => z)⟩, hS.F ht⟩) hS.2.2 hd hlocks)   x _ _ ls  hw hW hS hl
set_option maxRecDepth 100000 in
set_option maxHeartbeats 4000000 in
set_option maxRecDepth 100000 in
theorem t_Mod_addStep_23 {p : Program} {l : Launch} {e : Env} {R : Room} {s : State} {m : MethodId} {args : Array Value} {below : List Frame} {meth : Method} {c : Code} {cells slots : Nat} {Q : State → Prop} {dC : Nat → ClassId} {dI : Nat → Nat → Nat} {cI cB cJ cZ : ClassId} {A : Nat → Prop} {ad : Nat → Nat} {post : St → Prop} (hx : p.tables.exec = Jvm.exec) (hb : c.code = b_Mod_addStep) (hml : c.maxLocals = 8) (hown : s.vm.findClass R_Mod = some m.cls) (hT : ∀ w ∈ TG, w.before args s = true) (hK : va_K (dC, dI) CL (TY cI cB cJ cZ) s) (hN : NW s) (hA : ∀ q : Nat, s.heap.size ≤ q → A q) (hRc : cells ≤ R.cells) (hRs : slots ≤ R.slots) (hRf : 1 ≤ R.frames) (hRl : 21 ≤ R.locals) (hret : ∀ (x : St) (H : Heap) (locs : List Loc) (pc : Nat) (ls : Array Slot), decode b_Mod_addStep pc = .ok (.return_, 1) → post x → Wd dC dI cI cB cJ cZ ad stM kcM 115 A x H → va_S A s.heap H locs → W p l e R s m args below meth c H locs cells slots Q (F0 m pc ls []))  : ∀ (l1 : Int32) (l2 : Int32) (l3 : Int32) (l4 : Int32) (l5 : Int32) (l6 : Int32) (x : St) (H : Heap) (locs : List Loc) (ls : Array Slot), j_Mod_addStep_23 post l1 l2 l3 l4 l5 l6 x → Wd dC dI cI cB cJ cZ ad stM kcM 115 A x H → va_S A s.heap H locs → lv_has ls 8 [(0, .ref (ad 0)), (1, .int l1), (2, .int l2), (3, .int l3), (4, .int l4), (5, .int l5), (6, .int l6)] → W p l e R s m args below meth c H locs cells slots Q (F0 m 23 ls []) := by
  intro l1 l2 l3 l4 l5 l6 x H locs ls  hw hW hS hl
  unfold j_Mod_addStep_23 at hw
  refine lv_aload_n hx hb d_Mod_addStep_23 rfl (lv_at hl 0 rfl) ?_
  refine w_geti (k := 17) (t := 12) (C := R_Mod) (T := F_Mod) (N := 167) hx hb hT hown hK hW ko_0.1 ko_0.2 (by decide) in_Mod rfl rfl (by decide) rfl fr_Mod_17 w_8_193 d_Mod_addStep_24 ?_
  refine lv_iconst (v := (-1)) hx hb d_Mod_addStep_27 (by decide) ?_
  refine lv_icmp_eq (tgt := 32) hx hb d_Mod_addStep_28 (by decide) (fun c2006 => ?_) (fun c2006 => ?_)
  · have hw := hw.1 c2006
    refine lv_bipush (v := 64) hx hb d_Mod_addStep_32 (by decide) ?_
    refine lv_aload_n hx hb d_Mod_addStep_34 rfl (lv_at hl 0 rfl) ?_
    refine w_geti (k := 118) (t := 12) (C := R_Mod) (T := F_Mod) (N := 167) hx hb hT hown hK hW ko_0.1 ko_0.2 (by decide) in_Mod rfl rfl (by decide) rfl fr_Mod_118 w_9_54 d_Mod_addStep_35 ?_
    refine lv_imul hx hb d_Mod_addStep_38 ?_
    refine lv_aload_n hx hb d_Mod_addStep_39 rfl (lv_at hl 0 rfl) ?_
    refine w_getf (q := 79) (k := 122) (t := 12) (C := R_Mod) (T := F_Mod) (N := 167) hx hb hT hown hK hW ko_0.1 ko_0.2 (by decide) in_Mod rfl rfl (by decide) rfl fr_Mod_122 w_9_58 d_Mod_addStep_40 rfl ?_
    refine lv_iconst (v := 4) hx hb d_Mod_addStep_43 (by decide) ?_
    refine lv_aload_n hx hb d_Mod_addStep_44 rfl (lv_at hl 0 rfl) ?_
    refine w_geti (k := 118) (t := 12) (C := R_Mod) (T := F_Mod) (N := 167) hx hb hT hown hK hW ko_0.1 ko_0.2 (by decide) in_Mod rfl rfl (by decide) rfl fr_Mod_118 w_9_54 d_Mod_addStep_45 ?_
    refine lv_imul hx hb d_Mod_addStep_48 ?_
    refine lv_iconst (v := 2) hx hb d_Mod_addStep_49 (by decide) ?_
    refine lv_iadd hx hb d_Mod_addStep_50 ?_
    obtain ⟨hi, hw⟩ := hw
    refine w_iald (o := 79) hx hb hK hW ko_79.1 ko_79.2 hi d_Mod_addStep_51 ?_
    refine lv_iadd hx hb d_Mod_addStep_52 ?_
    refine lv_topi (fun v2007 ev2007 => ?_)
    have hw := hw v2007 ev2007
    refine lv_istore (lv' := [(7, .int v2007), (0, .ref (ad 0)), (1, .int l1), (2, .int l2), (3, .int l3), (4, .int l4), (5, .int l5), (6, .int l6)]) hx hb d_Mod_addStep_53 hl (by decide) rfl (fun ls hl => ?_)
    refine lv_aload_n hx hb d_Mod_addStep_55 rfl (lv_at hl 1 rfl) ?_
    refine w_getf (q := 84) (k := 127) (t := 12) (C := R_Mod) (T := F_Mod) (N := 167) hx hb hT hown hK hW ko_0.1 ko_0.2 (by decide) in_Mod rfl rfl (by decide) rfl fr_Mod_127 w_9_63 d_Mod_addStep_56 rfl ?_
    refine lv_iload hx hb d_Mod_addStep_59 (lv_at hl 0 rfl) ?_
    refine lv_iload_n hx hb d_Mod_addStep_61 rfl (lv_at hl 3 rfl) ?_
    obtain ⟨hi, hw⟩ := hw
    refine w_iast (o := 84) hx hb hK hW hS ko_84.1 ko_84.2 hi d_Mod_addStep_62 (fun H locs hW hS => ?_)
    obtain ⟨x2008, ex2008⟩ : ∃ y : St, y = setA x 84 v2007 l2 := ⟨_, rfl⟩
    rw [← ex2008] at hW
    have hw := hw x2008 ex2008
    refine lv_aload_n hx hb d_Mod_addStep_63 rfl (lv_at hl 1 rfl) ?_
    refine w_getf (q := 85) (k := 128) (t := 12) (C := R_Mod) (T := F_Mod) (N := 167) hx hb hT hown hK hW ko_0.1 ko_0.2 (by decide) in_Mod rfl rfl (by decide) rfl fr_Mod_128 w_9_64 d_Mod_addStep_64 rfl ?_
    refine lv_iload hx hb d_Mod_addStep_67 (lv_at hl 0 rfl) ?_
    refine lv_iload_n hx hb d_Mod_addStep_69 rfl (lv_at hl 4 rfl) ?_
    obtain ⟨hi, hw⟩ := hw
    refine w_iast (o := 85) hx hb hK hW hS ko_85.1 ko_85.2 hi d_Mod_addStep_70 (fun H locs hW hS => ?_)
    obtain ⟨x2009, ex2009⟩ : ∃ y : St, y = setA x2008 85 v2007 l3 := ⟨_, rfl⟩
    rw [← ex2009] at hW
    have hw := hw x2009 ex2009
    refine lv_aload_n hx hb d_Mod_addStep_71 rfl (lv_at hl 1 rfl) ?_
    refine w_getf (q := 86) (k := 129) (t := 12) (C := R_Mod) (T := F_Mod) (N := 167) hx hb hT hown hK hW ko_0.1 ko_0.2 (by decide) in_Mod rfl rfl (by decide) rfl fr_Mod_129 w_9_65 d_Mod_addStep_72 rfl ?_
    refine lv_iload hx hb d_Mod_addStep_75 (lv_at hl 0 rfl) ?_
    refine lv_iload hx hb d_Mod_addStep_77 (lv_at hl 5 rfl) ?_
    obtain ⟨hi, hw⟩ := hw
    refine w_iast (o := 86) hx hb hK hW hS ko_86.1 ko_86.2 hi d_Mod_addStep_79 (fun H locs hW hS => ?_)
    obtain ⟨x2010, ex2010⟩ : ∃ y : St, y = setA x2009 86 v2007 l4 := ⟨_, rfl⟩
    rw [← ex2010] at hW
    have hw := hw x2010 ex2010
    refine lv_aload_n hx hb d_Mod_addStep_80 rfl (lv_at hl 1 rfl) ?_
    refine w_getf (q := 87) (k := 130) (t := 12) (C := R_Mod) (T := F_Mod) (N := 167) hx hb hT hown hK hW ko_0.1 ko_0.2 (by decide) in_Mod rfl rfl (by decide) rfl fr_Mod_130 w_9_66 d_Mod_addStep_81 rfl ?_
    refine lv_iload hx hb d_Mod_addStep_84 (lv_at hl 0 rfl) ?_
    refine lv_iload hx hb d_Mod_addStep_86 (lv_at hl 6 rfl) ?_
    obtain ⟨hi, hw⟩ := hw
    refine w_iast (o := 87) hx hb hK hW hS ko_87.1 ko_87.2 hi d_Mod_addStep_88 (fun H locs hW hS => ?_)
    obtain ⟨x2011, ex2011⟩ : ∃ y : St, y = setA x2010 87 v2007 l5 := ⟨_, rfl⟩
    rw [← ex2011] at hW
    have hw := hw x2011 ex2011
    refine lv_aload_n hx hb d_Mod_addStep_89 rfl (lv_at hl 1 rfl) ?_
    refine w_getf (q := 88) (k := 131) (t := 12) (C := R_Mod) (T := F_Mod) (N := 167) hx hb hT hown hK hW ko_0.1 ko_0.2 (by decide) in_Mod rfl rfl (by decide) rfl fr_Mod_131 w_9_67 d_Mod_addStep_90 rfl ?_
    refine lv_iload hx hb d_Mod_addStep_93 (lv_at hl 0 rfl) ?_
    refine lv_iload hx hb d_Mod_addStep_95 (lv_at hl 7 rfl) ?_
    obtain ⟨hi, hw⟩ := hw
    refine w_iast (o := 88) hx hb hK hW hS ko_88.1 ko_88.2 hi d_Mod_addStep_97 (fun H locs hW hS => ?_)
    obtain ⟨x2012, ex2012⟩ : ∃ y : St, y = setA x2011 88 v2007 l6 := ⟨_, rfl⟩
    rw [← ex2012] at hW
    have hw := hw x2012 ex2012
    refine lv_aload_n hx hb d_Mod_addStep_98 rfl (lv_at hl 1 rfl) ?_
    refine w_getf (q := 79) (k := 122) (t := 12) (C := R_Mod) (T := F_Mod) (N := 167) hx hb hT hown hK hW ko_0.1 ko_0.2 (by decide) in_Mod rfl rfl (by decide) rfl fr_Mod_122 w_9_58 d_Mod_addStep_99 rfl ?_
    refine lv_iconst (v := 4) hx hb d_Mod_addStep_102 (by decide) ?_
    refine lv_aload_n hx hb d_Mod_addStep_103 rfl (lv_at hl 1 rfl) ?_
    refine w_geti (k := 118) (t := 12) (C := R_Mod) (T := F_Mod) (N := 167) hx hb hT hown hK hW ko_0.1 ko_0.2 (by decide) in_Mod rfl rfl (by decide) rfl fr_Mod_118 w_9_54 d_Mod_addStep_104 ?_
    refine lv_imul hx hb d_Mod_addStep_107 ?_
    refine lv_iconst (v := 2) hx hb d_Mod_addStep_108 (by decide) ?_
    refine lv_iadd hx hb d_Mod_addStep_109 ?_
    refine lv_dup2_11 hx hb d_Mod_addStep_110 rfl rfl ?_
    obtain ⟨hi, hw⟩ := hw
    refine w_iald (o := 79) hx hb hK hW ko_79.1 ko_79.2 hi d_Mod_addStep_111 ?_
    refine lv_iconst (v := 1) hx hb d_Mod_addStep_112 (by decide) ?_
    refine lv_iadd hx hb d_Mod_addStep_113 ?_
    obtain ⟨hi, hw⟩ := hw
    refine w_iast (o := 79) hx hb hK hW hS ko_79.1 ko_79.2 hi d_Mod_addStep_114 (fun H locs hW hS => ?_)
    obtain ⟨x2013, ex2013⟩ : ∃ y : St, y = setA x2012 79 ((4 * (fI x2012 0 118)) + 2) ((rA x2012 79 ((4 * (fI x2012 0 118)) + 2)) + 1) := ⟨_, rfl⟩
    rw [← ex2013] at hW
    have hw := hw x2013 ex2013
    exact hret x2013 H locs 115 ls d_Mod_addStep_115 hw hW hS
  · have hw := hw.2 c2006
    exact hret x H locs 31 ls d_Mod_addStep_31 hw hW hS
set_option maxRecDepth 100000 in
set_option maxHeartbeats 4000000 in
set_option maxRecDepth 100000 in
theorem t_Mod_addStep_e {p : Program} {l : Launch} {e : Env} {R : Room} {s : State} {m : MethodId} {args : Array Value} {below : List Frame} {meth : Method} {c : Code} {cells slots : Nat} {Q : State → Prop} {dC : Nat → ClassId} {dI : Nat → Nat → Nat} {cI cB cJ cZ : ClassId} {A : Nat → Prop} {ad : Nat → Nat} {post : St → Prop} (hx : p.tables.exec = Jvm.exec) (hb : c.code = b_Mod_addStep) (hml : c.maxLocals = 8) (hown : s.vm.findClass R_Mod = some m.cls) (hT : ∀ w ∈ TG, w.before args s = true) (hK : va_K (dC, dI) CL (TY cI cB cJ cZ) s) (hN : NW s) (hA : ∀ q : Nat, s.heap.size ≤ q → A q) (hRc : cells ≤ R.cells) (hRs : slots ≤ R.slots) (hRf : 1 ≤ R.frames) (hRl : 21 ≤ R.locals) (hret : ∀ (x : St) (H : Heap) (locs : List Loc) (pc : Nat) (ls : Array Slot), decode b_Mod_addStep pc = .ok (.return_, 1) → post x → Wd dC dI cI cB cJ cZ ad stM kcM 115 A x H → va_S A s.heap H locs → W p l e R s m args below meth c H locs cells slots Q (F0 m pc ls [])) : ∀ (l1 : Int32) (l2 : Int32) (l3 : Int32) (l4 : Int32) (l5 : Int32) (l6 : Int32) (x : St) (H : Heap) (locs : List Loc) (ls : Array Slot), wp_Mod_addStep post l1 l2 l3 l4 l5 l6 x → Wd dC dI cI cB cJ cZ ad stM kcM 115 A x H → va_S A s.heap H locs → lv_has ls 8 [(0, .ref (ad 0)), (1, .int l1), (2, .int l2), (3, .int l3), (4, .int l4), (5, .int l5), (6, .int l6)] → W p l e R s m args below meth c H locs cells slots Q (F0 m 0 ls []) := by
  intro l1 l2 l3 l4 l5 l6 x H locs ls  hw hW hS hl
  unfold wp_Mod_addStep at hw
  refine lv_aload_n hx hb d_Mod_addStep_0 rfl (lv_at hl 0 rfl) ?_
  refine w_getf (q := 79) (k := 122) (t := 12) (C := R_Mod) (T := F_Mod) (N := 167) hx hb hT hown hK hW ko_0.1 ko_0.2 (by decide) in_Mod rfl rfl (by decide) rfl fr_Mod_122 w_9_58 d_Mod_addStep_1 rfl ?_
  refine lv_iconst (v := 4) hx hb d_Mod_addStep_4 (by decide) ?_
  refine lv_aload_n hx hb d_Mod_addStep_5 rfl (lv_at hl 0 rfl) ?_
  refine w_geti (k := 118) (t := 12) (C := R_Mod) (T := F_Mod) (N := 167) hx hb hT hown hK hW ko_0.1 ko_0.2 (by decide) in_Mod rfl rfl (by decide) rfl fr_Mod_118 w_9_54 d_Mod_addStep_6 ?_
  refine lv_imul hx hb d_Mod_addStep_9 ?_
  refine lv_iconst (v := 2) hx hb d_Mod_addStep_10 (by decide) ?_
  refine lv_iadd hx hb d_Mod_addStep_11 ?_
  obtain ⟨hi, hw⟩ := hw
  refine w_iald (o := 79) hx hb hK hW ko_79.1 ko_79.2 hi d_Mod_addStep_12 ?_
  refine lv_bipush (v := 64) hx hb d_Mod_addStep_13 (by decide) ?_
  refine lv_icmp_ne (tgt := 23) hx hb d_Mod_addStep_15 (by decide) (fun c2014 => ?_) (fun c2014 => ?_)
  · have hw := hw.1 c2014
    exact t_Mod_addStep_23 hx hb hml hown hT hK hN hA hRc hRs hRf hRl hret  l1 l2 l3 l4 l5 l6 x H locs ls  hw hW hS (lv_sub hl [0, 1, 2, 3, 4, 5, 6] rfl)
  · have hw := hw.2 c2014
    refine lv_aload_n hx hb d_Mod_addStep_18 rfl (lv_at hl 0 rfl) ?_
    refine lv_iload_n hx hb d_Mod_addStep_19 rfl (lv_at hl 1 rfl) ?_
    have hF := hW.free hS hA
    refine va_callv (va_runV (C := R_Mod) (As := [.int l1]) (rest := []) ⟨hx, hb, hml, hown, hT⟩ (k_Mod_fail l dC dI cI cB cJ cZ ad H.size l1 x  hw) ⟨callB_of 1 hT (gwt_in w_11_14) rfl rfl rfl (hT _ w_1_15) (hT _ w_11_11) (by decide +kernel) ⟨Nat.le_trans (Nat.le_of_ble_eq_true rfl) hRf, Nat.le_trans (Nat.le_of_ble_eq_true rfl) hRl⟩, hT _ w_11_13, hT _ ws_115⟩ ⟨PW.blind, va_recv hK hW.1 (ci := 12) (q0 := 0) rfl (pic_obj ko_0.1 ko_0.2 (by decide)), PW.at _ hW hK hN⟩ rfl rfl hl.1 rfl (lv_room (Nat.le_of_ble_eq_true rfl)) d_Mod_addStep_20 ⟨hRc, hRs⟩) hS (fun q _ h => hF q h) hF (fun  x2015 t H locs ht hvm hw hB hz1 hk1 hS => ?_)
    have hW := Wd.back hB ht hF
    clear hB ht hF hz1 hk1 hvm
    exact t_Mod_addStep_23 hx hb hml hown hT hK hN hA hRc hRs hRf hRl hret  l1 l2 l3 l4 l5 l6 x2015 H locs ls  hw hW hS (lv_sub hl [0, 1, 2, 3, 4, 5, 6] rfl)
set_option maxHeartbeats 4000000 in
set_option maxRecDepth 100000 in
theorem k_Mod_addStep (l : Launch) (dC : Nat → ClassId) (dI : Nat → Nat → Nat) (cI cB cJ cZ : ClassId) (ad : Nat → Nat) (sz : Nat) (l1 : Int32) (l2 : Int32) (l3 : Int32) (l4 : Int32) (l5 : Int32) (l6 : Int32) (x : St) {post : St → Prop} (hw : wp_Mod_addStep post l1 l2 l3 l4 l5 l6 x) : Met l y_Mod_addStep (wsOf y_Mod_addStep b_Mod_addStep 8 (none)) ({ frames := 1, cells := 0, slots := 0, locals := 21 }) (va_Pc [.ref (ad 0), .int l1, .int l2, .int l3, .int l4, .int l5, .int l6] (PW dC dI cI cB cJ cZ ad stM kcM 115 sz x)) (va_Qv (fun (y : St) => post y) (fun y t => Wd dC dI cI cB cJ cZ ad stM kcM 115 (va_A (pic ad stM kcM 115 cI cB cJ cZ x) sz) y t.heap) (va_A (pic ad stM kcM 115 cI cB cJ cZ x) sz)) 0 0 (va_A (pic ad stM kcM 115 cI cB cJ cZ x) sz) := by
  refine Met.ofW (cc := b_Mod_addStep) (maxL := 8) (ret := none) (by decide) rfl ?_
  intro p e s m args below meth c s₁ B hml hv
  obtain ⟨rfl, hsz, hW0, hK, hN⟩ := hv
  have hx := B.exec
  have hb := B.bytes
  have hr := B.returns
  have hts := atoms_spec B.pre
  have hT : ∀ w ∈ TG, w.before _ s = true := fun w h => hts w (List.mem_cons_of_mem _ h)
  have hown : s.vm.findClass R_Mod = some m.cls := findClass_of_methodNamed B.named
  have hlocks := B.notSynchronized
  subst hsz
  have hW : Wd dC dI cI cB cJ cZ ad stM kcM 115 (va_A (pic ad stM kcM 115 cI cB cJ cZ x) s.heap.size) x s.heap := ⟨hW0.1, hW0.2.1.self (sz := s.heap.size), hW0.2.2⟩
  generalize hAe : va_A (pic ad stM kcM 115 cI cB cJ cZ x) s.heap.size = A at hW ⊢
  have hA : ∀ q : Nat, s.heap.size ≤ q → A q := fun q h => by rw [← hAe]; exact Or.inr h
  have hS : va_S A s.heap s.heap [] := va_S.rf
  have hl := lv_entry ([.ref (ad 0), .int l1, .int l2, .int l3, .int l4, .int l5, .int l6]) (n := 8) (Nat.le_of_ble_eq_true rfl)
  rw [lg_entry_eq]
  generalize (lg_sl ([.ref (ad 0), .int l1, .int l2, .int l3, .int l4, .int l5, .int l6]) ++ List.replicate (8 - (lg_sl ([.ref (ad 0), .int l1, .int l2, .int l3, .int l4, .int l5, .int l6])).length) Slot.unset).toArray = ls at hl ⊢
  have hl : lv_has ls 8 [(0, .ref (ad 0)), (1, .int l1), (2, .int l2), (3, .int l3), (4, .int l4), (5, .int l5), (6, .int l6)] := hl
  exact t_Mod_addStep_e hx hb hml hown hT hK hN hA (Nat.le_refl 0) (Nat.le_refl 0) (Nat.le_refl 1) (Nat.le_refl 21) (fun x H locs pc ls hd hp hW hS => W.vret hx hb hr (fun t ht hM => ⟨⟨x, rfl, hp, Wd.back hW ht.symm (fun _ z => z)⟩, hS.F ht⟩) hS.2.2 hd hlocks)  l1 l2 l3 l4 l5 l6 x _ _ ls  hw hW hS hl
set_option maxRecDepth 100000 in
set_option maxHeartbeats 4000000 in
set_option maxRecDepth 100000 in
theorem t_Mod_readLiteral_147 {p : Program} {l : Launch} {e : Env} {R : Room} {s : State} {m : MethodId} {args : Array Value} {below : List Frame} {meth : Method} {c : Code} {cells slots : Nat} {Q : State → Prop} {dC : Nat → ClassId} {dI : Nat → Nat → Nat} {cI cB cJ cZ : ClassId} {A : Nat → Prop} {ad : Nat → Nat} {post : St → Prop} (hx : p.tables.exec = Jvm.exec) (hb : c.code = b_Mod_readLiteral) (hml : c.maxLocals = 8) (hown : s.vm.findClass R_Mod = some m.cls) (hT : ∀ w ∈ TG, w.before args s = true) (hK : va_K (dC, dI) CL (TY cI cB cJ cZ) s) (hN : NW s) (hA : ∀ q : Nat, s.heap.size ≤ q → A q) (hRc : cells ≤ R.cells) (hRs : slots ≤ R.slots) (hRf : 5 ≤ R.frames) (hRl : 111 ≤ R.locals) (hret : ∀ (x : St) (H : Heap) (locs : List Loc) (pc : Nat) (ls : Array Slot), decode b_Mod_readLiteral pc = .ok (.return_, 1) → post x → Wd dC dI cI cB cJ cZ ad stM kcM 115 A x H → va_S A s.heap H locs → W p l e R s m args below meth c H locs cells slots Q (F0 m pc ls []))  : ∀ (l1 : Int32) (l2 : Int32) (l3 : Int32) (l4 : Int32) (l5 : Int64) (l7 : Int32) (x : St) (H : Heap) (locs : List Loc) (ls : Array Slot), j_Mod_readLiteral_147 post l1 l2 l3 l4 l5 l7 x → Wd dC dI cI cB cJ cZ ad stM kcM 115 A x H → va_S A s.heap H locs → lv_has ls 8 [(0, .ref (ad 0)), (1, .int l1), (2, .int l2), (3, .int l3), (4, .int l4), (5, .long l5), (7, .int l7)] → W p l e R s m args below meth c H locs cells slots Q (F0 m 147 ls []) := by
  intro l1 l2 l3 l4 l5 l7 x H locs ls  hw hW hS hl
  unfold j_Mod_readLiteral_147 at hw
  refine lv_aload_n hx hb d_Mod_readLiteral_147 rfl (lv_at hl 0 rfl) ?_
  refine lv_iload_n hx hb d_Mod_readLiteral_148 rfl (lv_at hl 2 rfl) ?_
  have hF := hW.free hS hA
  refine va_callv (va_runV (C := R_Mod) (As := [.int l2]) (rest := []) ⟨hx, hb, hml, hown, hT⟩ (k_Mod_fail l dC dI cI cB cJ cZ ad H.size l2 x  hw) ⟨callB_of 1 hT (gwt_in w_11_14) rfl rfl rfl (hT _ w_1_15) (hT _ w_11_11) (by decide +kernel) ⟨Nat.le_trans (Nat.le_of_ble_eq_true rfl) hRf, Nat.le_trans (Nat.le_of_ble_eq_true rfl) hRl⟩, hT _ w_11_13, hT _ ws_115⟩ ⟨PW.blind, va_recv hK hW.1 (ci := 12) (q0 := 0) rfl (pic_obj ko_0.1 ko_0.2 (by decide)), PW.at _ hW hK hN⟩ rfl rfl hl.1 rfl (lv_room (Nat.le_of_ble_eq_true rfl)) d_Mod_readLiteral_149 ⟨hRc, hRs⟩) hS (fun q _ h => hF q h) hF (fun  x2016 t H locs ht hvm hw hB hz1 hk1 hS => ?_)
  have hW := Wd.back hB ht hF
  clear hB ht hF hz1 hk1 hvm
  exact hret x2016 H locs 152 ls d_Mod_readLiteral_152 hw hW hS
set_option maxRecDepth 100000 in
set_option maxHeartbeats 4000000 in
set_option maxRecDepth 100000 in
theorem t_Mod_readLiteral_129 {p : Program} {l : Launch} {e : Env} {R : Room} {s : State} {m : MethodId} {args : Array Value} {below : List Frame} {meth : Method} {c : Code} {cells slots : Nat} {Q : State → Prop} {dC : Nat → ClassId} {dI : Nat → Nat → Nat} {cI cB cJ cZ : ClassId} {A : Nat → Prop} {ad : Nat → Nat} {post : St → Prop} (hx : p.tables.exec = Jvm.exec) (hb : c.code = b_Mod_readLiteral) (hml : c.maxLocals = 8) (hown : s.vm.findClass R_Mod = some m.cls) (hT : ∀ w ∈ TG, w.before args s = true) (hK : va_K (dC, dI) CL (TY cI cB cJ cZ) s) (hN : NW s) (hA : ∀ q : Nat, s.heap.size ≤ q → A q) (hRc : cells ≤ R.cells) (hRs : slots ≤ R.slots) (hRf : 5 ≤ R.frames) (hRl : 111 ≤ R.locals) (hret : ∀ (x : St) (H : Heap) (locs : List Loc) (pc : Nat) (ls : Array Slot), decode b_Mod_readLiteral pc = .ok (.return_, 1) → post x → Wd dC dI cI cB cJ cZ ad stM kcM 115 A x H → va_S A s.heap H locs → W p l e R s m args below meth c H locs cells slots Q (F0 m pc ls []))  : ∀ (l1 : Int32) (l2 : Int32) (l3 : Int32) (l4 : Int32) (l5 : Int64) (l7 : Int32) (x : St) (H : Heap) (locs : List Loc) (ls : Array Slot), j_Mod_readLiteral_129 post l1 l2 l3 l4 l5 l7 x → Wd dC dI cI cB cJ cZ ad stM kcM 115 A x H → va_S A s.heap H locs → lv_has ls 8 [(0, .ref (ad 0)), (1, .int l1), (2, .int l2), (3, .int l3), (4, .int l4), (5, .long l5), (7, .int l7)] → W p l e R s m args below meth c H locs cells slots Q (F0 m 129 ls []) := by
  intro l1 l2 l3 l4 l5 l7 x H locs ls  hw hW hS hl
  unfold j_Mod_readLiteral_129 at hw
  refine lv_aload_n hx hb d_Mod_readLiteral_129 rfl (lv_at hl 0 rfl) ?_
  refine w_getf (q := 79) (k := 122) (t := 12) (C := R_Mod) (T := F_Mod) (N := 167) hx hb hT hown hK hW ko_0.1 ko_0.2 (by decide) in_Mod rfl rfl (by decide) rfl fr_Mod_122 w_9_58 d_Mod_readLiteral_130 rfl ?_
  refine lv_iconst (v := 4) hx hb d_Mod_readLiteral_133 (by decide) ?_
  refine lv_aload_n hx hb d_Mod_readLiteral_134 rfl (lv_at hl 0 rfl) ?_
  refine w_geti (k := 118) (t := 12) (C := R_Mod) (T := F_Mod) (N := 167) hx hb hT hown hK hW ko_0.1 ko_0.2 (by decide) in_Mod rfl rfl (by decide) rfl fr_Mod_118 w_9_54 d_Mod_readLiteral_135 ?_
  refine lv_imul hx hb d_Mod_readLiteral_138 ?_
  refine lv_iconst (v := 3) hx hb d_Mod_readLiteral_139 (by decide) ?_
  refine lv_iadd hx hb d_Mod_readLiteral_140 ?_
  obtain ⟨hi, hw⟩ := hw
  refine w_iald (o := 79) hx hb hK hW ko_79.1 ko_79.2 hi d_Mod_readLiteral_141 ?_
  refine lv_bipush (v := 64) hx hb d_Mod_readLiteral_142 (by decide) ?_
  refine lv_icmp_ne (tgt := 153) hx hb d_Mod_readLiteral_144 (by decide) (fun c2017 => ?_) (fun c2017 => ?_)
  · have hw := hw.1 c2017
    refine lv_aload_n hx hb d_Mod_readLiteral_153 rfl (lv_at hl 0 rfl) ?_
    refine w_getf (q := 89) (k := 132) (t := 12) (C := R_Mod) (T := F_Mod) (N := 167) hx hb hT hown hK hW ko_0.1 ko_0.2 (by decide) in_Mod rfl rfl (by decide) rfl fr_Mod_132 w_9_68 d_Mod_readLiteral_154 rfl ?_
    refine lv_iload_n hx hb d_Mod_readLiteral_157 rfl (lv_at hl 3 rfl) ?_
    refine lv_iload hx hb d_Mod_readLiteral_158 (lv_at hl 4 rfl) ?_
    obtain ⟨hi, hw⟩ := hw
    refine w_iast (o := 89) hx hb hK hW hS ko_89.1 ko_89.2 hi d_Mod_readLiteral_160 (fun H locs hW hS => ?_)
    obtain ⟨x2018, ex2018⟩ : ∃ y : St, y = setA x 89 l3 l4 := ⟨_, rfl⟩
    rw [← ex2018] at hW
    have hw := hw x2018 ex2018
    refine lv_aload_n hx hb d_Mod_readLiteral_161 rfl (lv_at hl 0 rfl) ?_
    refine w_getf (q := 93) (k := 136) (t := 12) (C := R_Mod) (T := F_Mod) (N := 167) hx hb hT hown hK hW ko_0.1 ko_0.2 (by decide) in_Mod rfl rfl (by decide) rfl fr_Mod_136 w_9_72 d_Mod_readLiteral_162 rfl ?_
    refine lv_iload_n hx hb d_Mod_readLiteral_165 rfl (lv_at hl 3 rfl) ?_
    refine lv_lload hx hb d_Mod_readLiteral_166 (lv_at hl 5 rfl) ?_
    obtain ⟨hi, hw⟩ := hw
    refine w_last (o := 93) hx hb hK hW hS ko_93.1 ko_93.2 hi d_Mod_readLiteral_168 (fun H locs hW hS => ?_)
    obtain ⟨x2019, ex2019⟩ : ∃ y : St, y = setL x2018 93 l3 l5 := ⟨_, rfl⟩
    rw [← ex2019] at hW
    have hw := hw x2019 ex2019
    refine lv_aload_n hx hb d_Mod_readLiteral_169 rfl (lv_at hl 0 rfl) ?_
    refine w_getf (q := 90) (k := 133) (t := 12) (C := R_Mod) (T := F_Mod) (N := 167) hx hb hT hown hK hW ko_0.1 ko_0.2 (by decide) in_Mod rfl rfl (by decide) rfl fr_Mod_133 w_9_69 d_Mod_readLiteral_170 rfl ?_
    refine lv_iload_n hx hb d_Mod_readLiteral_173 rfl (lv_at hl 3 rfl) ?_
    refine lv_iload hx hb d_Mod_readLiteral_174 (lv_at hl 6 rfl) ?_
    obtain ⟨hi, hw⟩ := hw
    refine w_iast (o := 90) hx hb hK hW hS ko_90.1 ko_90.2 hi d_Mod_readLiteral_176 (fun H locs hW hS => ?_)
    obtain ⟨x2020, ex2020⟩ : ∃ y : St, y = setA x2019 90 l3 l7 := ⟨_, rfl⟩
    rw [← ex2020] at hW
    have hw := hw x2020 ex2020
    refine lv_aload_n hx hb d_Mod_readLiteral_177 rfl (lv_at hl 0 rfl) ?_
    refine w_getf (q := 91) (k := 134) (t := 12) (C := R_Mod) (T := F_Mod) (N := 167) hx hb hT hown hK hW ko_0.1 ko_0.2 (by decide) in_Mod rfl rfl (by decide) rfl fr_Mod_134 w_9_70 d_Mod_readLiteral_178 rfl ?_
    refine lv_iload_n hx hb d_Mod_readLiteral_181 rfl (lv_at hl 3 rfl) ?_
    refine lv_aload_n hx hb d_Mod_readLiteral_182 rfl (lv_at hl 0 rfl) ?_
    refine w_geti (k := 25) (t := 12) (C := R_Mod) (T := F_Mod) (N := 167) hx hb hT hown hK hW ko_0.1 ko_0.2 (by decide) in_Mod rfl rfl (by decide) rfl fr_Mod_25 w_8_201 d_Mod_readLiteral_183 ?_
    refine lv_iload hx hb d_Mod_readLiteral_186 (lv_at hl 6 rfl) ?_
    refine lv_isub hx hb d_Mod_readLiteral_188 ?_
    obtain ⟨hi, hw⟩ := hw
    refine w_iast (o := 91) hx hb hK hW hS ko_91.1 ko_91.2 hi d_Mod_readLiteral_189 (fun H locs hW hS => ?_)
    obtain ⟨x2021, ex2021⟩ : ∃ y : St, y = setA x2020 91 l3 ((fI x2020 0 25) - l7) := ⟨_, rfl⟩
    rw [← ex2021] at hW
    have hw := hw x2021 ex2021
    refine lv_aload_n hx hb d_Mod_readLiteral_190 rfl (lv_at hl 0 rfl) ?_
    refine w_getf (q := 79) (k := 122) (t := 12) (C := R_Mod) (T := F_Mod) (N := 167) hx hb hT hown hK hW ko_0.1 ko_0.2 (by decide) in_Mod rfl rfl (by decide) rfl fr_Mod_122 w_9_58 d_Mod_readLiteral_191 rfl ?_
    refine lv_iconst (v := 4) hx hb d_Mod_readLiteral_194 (by decide) ?_
    refine lv_aload_n hx hb d_Mod_readLiteral_195 rfl (lv_at hl 0 rfl) ?_
    refine w_geti (k := 118) (t := 12) (C := R_Mod) (T := F_Mod) (N := 167) hx hb hT hown hK hW ko_0.1 ko_0.2 (by decide) in_Mod rfl rfl (by decide) rfl fr_Mod_118 w_9_54 d_Mod_readLiteral_196 ?_
    refine lv_imul hx hb d_Mod_readLiteral_199 ?_
    refine lv_iconst (v := 3) hx hb d_Mod_readLiteral_200 (by decide) ?_
    refine lv_iadd hx hb d_Mod_readLiteral_201 ?_
    refine lv_dup2_11 hx hb d_Mod_readLiteral_202 rfl rfl ?_
    obtain ⟨hi, hw⟩ := hw
    refine w_iald (o := 79) hx hb hK hW ko_79.1 ko_79.2 hi d_Mod_readLiteral_203 ?_
    refine lv_iconst (v := 1) hx hb d_Mod_readLiteral_204 (by decide) ?_
    refine lv_iadd hx hb d_Mod_readLiteral_205 ?_
    obtain ⟨hi, hw⟩ := hw
    refine w_iast (o := 79) hx hb hK hW hS ko_79.1 ko_79.2 hi d_Mod_readLiteral_206 (fun H locs hW hS => ?_)
    obtain ⟨x2022, ex2022⟩ : ∃ y : St, y = setA x2021 79 ((4 * (fI x2021 0 118)) + 3) ((rA x2021 79 ((4 * (fI x2021 0 118)) + 3)) + 1) := ⟨_, rfl⟩
    rw [← ex2022] at hW
    have hw := hw x2022 ex2022
    exact hret x2022 H locs 207 ls d_Mod_readLiteral_207 hw hW hS
  · have hw := hw.2 c2017
    exact t_Mod_readLiteral_147 hx hb hml hown hT hK hN hA hRc hRs hRf hRl hret  l1 l2 l3 l4 l5 l7 x H locs ls  hw hW hS (lv_sub hl [0, 1, 2, 3, 4, 5, 6] rfl)
set_option maxRecDepth 100000 in
set_option maxHeartbeats 4000000 in
set_option maxRecDepth 100000 in
theorem t_Mod_readLiteral_103 {p : Program} {l : Launch} {e : Env} {R : Room} {s : State} {m : MethodId} {args : Array Value} {below : List Frame} {meth : Method} {c : Code} {cells slots : Nat} {Q : State → Prop} {dC : Nat → ClassId} {dI : Nat → Nat → Nat} {cI cB cJ cZ : ClassId} {A : Nat → Prop} {ad : Nat → Nat} {post : St → Prop} (hx : p.tables.exec = Jvm.exec) (hb : c.code = b_Mod_readLiteral) (hml : c.maxLocals = 8) (hown : s.vm.findClass R_Mod = some m.cls) (hT : ∀ w ∈ TG, w.before args s = true) (hK : va_K (dC, dI) CL (TY cI cB cJ cZ) s) (hN : NW s) (hA : ∀ q : Nat, s.heap.size ≤ q → A q) (hRc : cells ≤ R.cells) (hRs : slots ≤ R.slots) (hRf : 5 ≤ R.frames) (hRl : 111 ≤ R.locals) (hret : ∀ (x : St) (H : Heap) (locs : List Loc) (pc : Nat) (ls : Array Slot), decode b_Mod_readLiteral pc = .ok (.return_, 1) → post x → Wd dC dI cI cB cJ cZ ad stM kcM 115 A x H → va_S A s.heap H locs → W p l e R s m args below meth c H locs cells slots Q (F0 m pc ls []))  : ∀ (l1 : Int32) (l2 : Int32) (l3 : Int32) (l4 : Int32) (l5 : Int64) (l7 : Int32) (x : St) (H : Heap) (locs : List Loc) (ls : Array Slot), j_Mod_readLiteral_103 post l1 l2 l3 l4 l5 l7 x → Wd dC dI cI cB cJ cZ ad stM kcM 115 A x H → va_S A s.heap H locs → lv_has ls 8 [(0, .ref (ad 0)), (1, .int l1), (2, .int l2), (3, .int l3), (4, .int l4), (5, .long l5), (7, .int l7)] → W p l e R s m args below meth c H locs cells slots Q (F0 m 103 ls []) := by
  intro l1 l2 l3 l4 l5 l7 x H locs ls  hw hW hS hl
  unfold j_Mod_readLiteral_103 at hw
  refine lv_aload_n hx hb d_Mod_readLiteral_103 rfl (lv_at hl 0 rfl) ?_
  refine w_geti (k := 17) (t := 12) (C := R_Mod) (T := F_Mod) (N := 167) hx hb hT hown hK hW ko_0.1 ko_0.2 (by decide) in_Mod rfl rfl (by decide) rfl fr_Mod_17 w_8_193 d_Mod_readLiteral_104 ?_
  refine lv_iconst (v := (-1)) hx hb d_Mod_readLiteral_107 (by decide) ?_
  refine lv_icmp_eq (tgt := 112) hx hb d_Mod_readLiteral_108 (by decide) (fun c2023 => ?_) (fun c2023 => ?_)
  · have hw := hw.1 c2023
    refine lv_iload hx hb d_Mod_readLiteral_112 (lv_at hl 4 rfl) ?_
    refine lv_iload_n hx hb d_Mod_readLiteral_114 rfl (lv_at hl 1 rfl) ?_
    refine lv_icmp_eq (tgt := 129) hx hb d_Mod_readLiteral_115 (by decide) (fun c2024 => ?_) (fun c2024 => ?_)
    · have hw := hw.1 c2024
      exact t_Mod_readLiteral_129 hx hb hml hown hT hK hN hA hRc hRs hRf hRl hret  l1 l2 l3 l4 l5 l7 x H locs ls  hw hW hS (lv_sub hl [0, 1, 2, 3, 4, 5, 6] rfl)
    · have hw := hw.2 c2024
      refine lv_iload hx hb d_Mod_readLiteral_118 (lv_at hl 4 rfl) ?_
      refine lv_iconst (v := 2) hx hb d_Mod_readLiteral_120 (by decide) ?_
      refine lv_icmp_ne (tgt := 147) hx hb d_Mod_readLiteral_121 (by decide) (fun c2025 => ?_) (fun c2025 => ?_)
      · have hw := hw.1 c2025
        exact t_Mod_readLiteral_147 hx hb hml hown hT hK hN hA hRc hRs hRf hRl hret  l1 l2 l3 l4 l5 l7 x H locs ls  hw hW hS (lv_sub hl [0, 1, 2, 3, 4, 5, 6] rfl)
      · have hw := hw.2 c2025
        refine lv_iload_n hx hb d_Mod_readLiteral_124 rfl (lv_at hl 1 rfl) ?_
        refine lv_iconst (v := 1) hx hb d_Mod_readLiteral_125 (by decide) ?_
        refine lv_icmp_ne (tgt := 147) hx hb d_Mod_readLiteral_126 (by decide) (fun c2026 => ?_) (fun c2026 => ?_)
        · have hw := hw.1 c2026
          exact t_Mod_readLiteral_147 hx hb hml hown hT hK hN hA hRc hRs hRf hRl hret  l1 l2 l3 l4 l5 l7 x H locs ls  hw hW hS (lv_sub hl [0, 1, 2, 3, 4, 5, 6] rfl)
        · have hw := hw.2 c2026
          exact t_Mod_readLiteral_129 hx hb hml hown hT hK hN hA hRc hRs hRf hRl hret  l1 l2 l3 l4 l5 l7 x H locs ls  hw hW hS (lv_sub hl [0, 1, 2, 3, 4, 5, 6] rfl)
  · have hw := hw.2 c2023
    exact hret x H locs 111 ls d_Mod_readLiteral_111 hw hW hS
set_option maxRecDepth 100000 in
set_option maxHeartbeats 4000000 in
set_option maxRecDepth 100000 in
theorem t_Mod_readLiteral_e {p : Program} {l : Launch} {e : Env} {R : Room} {s : State} {m : MethodId} {args : Array Value} {below : List Frame} {meth : Method} {c : Code} {cells slots : Nat} {Q : State → Prop} {dC : Nat → ClassId} {dI : Nat → Nat → Nat} {cI cB cJ cZ : ClassId} {A : Nat → Prop} {ad : Nat → Nat} {post : St → Prop} (hx : p.tables.exec = Jvm.exec) (hb : c.code = b_Mod_readLiteral) (hml : c.maxLocals = 8) (hown : s.vm.findClass R_Mod = some m.cls) (hT : ∀ w ∈ TG, w.before args s = true) (hK : va_K (dC, dI) CL (TY cI cB cJ cZ) s) (hN : NW s) (hA : ∀ q : Nat, s.heap.size ≤ q → A q) (hRc : cells ≤ R.cells) (hRs : slots ≤ R.slots) (hRf : 5 ≤ R.frames) (hRl : 111 ≤ R.locals) (hret : ∀ (x : St) (H : Heap) (locs : List Loc) (pc : Nat) (ls : Array Slot), decode b_Mod_readLiteral pc = .ok (.return_, 1) → post x → Wd dC dI cI cB cJ cZ ad stM kcM 115 A x H → va_S A s.heap H locs → W p l e R s m args below meth c H locs cells slots Q (F0 m pc ls [])) : ∀ (l1 : Int32) (x : St) (H : Heap) (locs : List Loc) (ls : Array Slot), wp_Mod_readLiteral post l1 x → Wd dC dI cI cB cJ cZ ad stM kcM 115 A x H → va_S A s.heap H locs → lv_has ls 8 [(0, .ref (ad 0)), (1, .int l1)] → W p l e R s m args below meth c H locs cells slots Q (F0 m 0 ls []) := by
  intro l1 x H locs ls  hw hW hS hl
  unfold wp_Mod_readLiteral at hw
  refine lv_aload_n hx hb d_Mod_readLiteral_0 rfl (lv_at hl 0 rfl) ?_
  have hF := hW.free hS hA
  refine va_callv (va_runV (C := R_Mod) (As := []) (rest := []) ⟨hx, hb, hml, hown, hT⟩ (k_Mod_blanks l dC dI cI cB cJ cZ ad H.size  x  hw) ⟨callB_of 0 hT (gwt_in w_10_230) rfl rfl rfl (hT _ w_1_15) (hT _ w_10_227) (by decide +kernel) ⟨Nat.le_trans (Nat.le_of_ble_eq_true rfl) hRf, Nat.le_trans (Nat.le_of_ble_eq_true rfl) hRl⟩, hT _ w_10_229, hT _ ws_111⟩ ⟨PW.blind, va_recv hK hW.1 (ci := 12) (q0 := 0) rfl (pic_obj ko_0.1 ko_0.2 (by decide)), PW.at _ hW hK hN⟩ rfl rfl hl.1 rfl (lv_room (Nat.le_of_ble_eq_true rfl)) d_Mod_readLiteral_1 ⟨hRc, hRs⟩) hS (fun q _ h => hF q h) hF (fun  x2027 t H locs ht hvm hw hB hz1 hk1 hS => ?_)
  have hW := Wd.back hB ht hF
  clear hB ht hF hz1 hk1 hvm
  refine lv_aload_n hx hb d_Mod_readLiteral_4 rfl (lv_at hl 0 rfl) ?_
  refine w_geti (k := 16) (t := 12) (C := R_Mod) (T := F_Mod) (N := 167) hx hb hT hown hK hW ko_0.1 ko_0.2 (by decide) in_Mod rfl rfl (by decide) rfl fr_Mod_16 w_8_192 d_Mod_readLiteral_5 ?_
  refine lv_topi (fun v2028 ev2028 => ?_)
  have hw := hw v2028 ev2028
  refine lv_istore_n (lv' := [(2, .int v2028), (0, .ref (ad 0)), (1, .int l1)]) hx hb d_Mod_readLiteral_8 rfl hl (by decide) rfl (fun ls hl => ?_)
  refine lv_bipush (v := 64) hx hb d_Mod_readLiteral_9 (by decide) ?_
  refine lv_aload_n hx hb d_Mod_readLiteral_11 rfl (lv_at hl 1 rfl) ?_
  refine w_geti (k := 118) (t := 12) (C := R_Mod) (T := F_Mod) (N := 167) hx hb hT hown hK hW ko_0.1 ko_0.2 (by decide) in_Mod rfl rfl (by decide) rfl fr_Mod_118 w_9_54 d_Mod_readLiteral_12 ?_
  refine lv_imul hx hb d_Mod_readLiteral_15 ?_
  refine lv_aload_n hx hb d_Mod_readLiteral_16 rfl (lv_at hl 1 rfl) ?_
  refine w_getf (q := 79) (k := 122) (t := 12) (C := R_Mod) (T := F_Mod) (N := 167) hx hb hT hown hK hW ko_0.1 ko_0.2 (by decide) in_Mod rfl rfl (by decide) rfl fr_Mod_122 w_9_58 d_Mod_readLiteral_17 rfl ?_
  refine lv_iconst (v := 4) hx hb d_Mod_readLiteral_20 (by decide) ?_
  refine lv_aload_n hx hb d_Mod_readLiteral_21 rfl (lv_at hl 1 rfl) ?_
  refine w_geti (k := 118) (t := 12) (C := R_Mod) (T := F_Mod) (N := 167) hx hb hT hown hK hW ko_0.1 ko_0.2 (by decide) in_Mod rfl rfl (by decide) rfl fr_Mod_118 w_9_54 d_Mod_readLiteral_22 ?_
  refine lv_imul hx hb d_Mod_readLiteral_25 ?_
  refine lv_iconst (v := 3) hx hb d_Mod_readLiteral_26 (by decide) ?_
  refine lv_iadd hx hb d_Mod_readLiteral_27 ?_
  obtain ⟨hi, hw⟩ := hw
  refine w_iald (o := 79) hx hb hK hW ko_79.1 ko_79.2 hi d_Mod_readLiteral_28 ?_
  refine lv_iadd hx hb d_Mod_readLiteral_29 ?_
  refine lv_topi (fun v2029 ev2029 => ?_)
  have hw := hw v2029 ev2029
  refine lv_istore_n (lv' := [(3, .int v2029), (2, .int v2028), (0, .ref (ad 0)), (1, .int l1)]) hx hb d_Mod_readLiteral_30 rfl hl (by decide) rfl (fun ls hl => ?_)
  refine lv_iconst (v := 2) hx hb d_Mod_readLiteral_31 (by decide) ?_
  refine lv_istore (lv' := [(4, .int 2), (3, .int v2029), (2, .int v2028), (0, .ref (ad 0)), (1, .int l1)]) hx hb d_Mod_readLiteral_32 hl (by decide) rfl (fun ls hl => ?_)
  refine lv_lconst (v := 0) hx hb d_Mod_readLiteral_34 (by decide) ?_
  refine lv_lstore (lv' := [(5, .long 0), (4, .int 2), (3, .int v2029), (2, .int v2028), (0, .ref (ad 0)), (1, .int l1)]) hx hb d_Mod_readLiteral_35 hl (by decide) rfl (fun ls hl => ?_)
  refine lv_aload_n hx hb d_Mod_readLiteral_37 rfl (lv_at hl 4 rfl) ?_
  refine w_geti (k := 25) (t := 12) (C := R_Mod) (T := F_Mod) (N := 167) hx hb hT hown hK hW ko_0.1 ko_0.2 (by decide) in_Mod rfl rfl (by decide) rfl fr_Mod_25 w_8_201 d_Mod_readLiteral_38 ?_
  refine lv_topi (fun v2030 ev2030 => ?_)
  have hw := hw v2030 ev2030
  refine lv_istore (lv' := [(7, .int v2030), (5, .long 0), (4, .int 2), (3, .int v2029), (2, .int v2028), (0, .ref (ad 0)), (1, .int l1)]) hx hb d_Mod_readLiteral_41 hl (by decide) rfl (fun ls hl => ?_)
  refine lv_aload_n hx hb d_Mod_readLiteral_43 rfl (lv_at hl 5 rfl) ?_
  refine lv_ldc2 hx hb hown (hT _ w_11_95) d_Mod_readLiteral_44 ?_
  have hF := hW.free hS hA
  refine va_calli (va_runV (C := R_Mod) (As := [.long 1953658213]) (rest := []) ⟨hx, hb, hml, hown, hT⟩ (k_Mod_takesWord l dC dI cI cB cJ cZ ad H.size 1953658213 x2027  hw) ⟨callB_of 1 hT (gwt_in w_10_222) rfl rfl rfl (hT _ w_1_15) (hT _ w_10_219) (by decide +kernel) ⟨Nat.le_trans (Nat.le_of_ble_eq_true rfl) hRf, Nat.le_trans (Nat.le_of_ble_eq_true rfl) hRl⟩, hT _ w_10_221, hT _ ws_109⟩ ⟨PW.blind, va_recv hK hW.1 (ci := 12) (q0 := 0) rfl (pic_obj ko_0.1 ko_0.2 (by decide)), PW.at _ hW hK hN⟩ rfl rfl hl.1 rfl (lv_room (Nat.le_of_ble_eq_true rfl)) d_Mod_readLiteral_47 ⟨hRc, hRs⟩) hS (fun q _ h => hF q h) hF (fun r2032 x2031 t H locs ht hvm hw hB hz1 hk1 hS => ?_)
  have hW := Wd.back hB ht hF
  clear hB ht hF hz1 hk1 hvm
  refine lv_if_eq (tgt := 62) hx hb d_Mod_readLiteral_50 (by decide) (fun c2033 => ?_) (fun c2033 => ?_)
  · have hw := hw.1 c2033
    refine lv_aload_n hx hb d_Mod_readLiteral_62 rfl (lv_at hl 5 rfl) ?_
    refine lv_ldc2 hx hb hown (hT _ w_11_96) d_Mod_readLiteral_63 ?_
    have hF := hW.free hS hA
    refine va_calli (va_runV (C := R_Mod) (As := [.long 439721161573]) (rest := []) ⟨hx, hb, hml, hown, hT⟩ (k_Mod_takesWord l dC dI cI cB cJ cZ ad H.size 439721161573 x2031  hw) ⟨callB_of 1 hT (gwt_in w_10_222) rfl rfl rfl (hT _ w_1_15) (hT _ w_10_219) (by decide +kernel) ⟨Nat.le_trans (Nat.le_of_ble_eq_true rfl) hRf, Nat.le_trans (Nat.le_of_ble_eq_true rfl) hRl⟩, hT _ w_10_221, hT _ ws_109⟩ ⟨PW.blind, va_recv hK hW.1 (ci := 12) (q0 := 0) rfl (pic_obj ko_0.1 ko_0.2 (by decide)), PW.at _ hW hK hN⟩ rfl rfl hl.1 rfl (lv_room (Nat.le_of_ble_eq_true rfl)) d_Mod_readLiteral_66 ⟨hRc, hRs⟩) hS (fun q _ h => hF q h) hF (fun r2035 x2034 t H locs ht hvm hw hB hz1 hk1 hS => ?_)
    have hW := Wd.back hB ht hF
    clear hB ht hF hz1 hk1 hvm
    refine lv_if_eq (tgt := 78) hx hb d_Mod_readLiteral_69 (by decide) (fun c2036 => ?_) (fun c2036 => ?_)
    · have hw := hw.1 c2036
      refine lv_aload_n hx hb d_Mod_readLiteral_78 rfl (lv_at hl 5 rfl) ?_
      have hF := hW.free hS hA
      refine va_calli (va_runV (C := R_Mod) (As := []) (rest := []) ⟨hx, hb, hml, hown, hT⟩ (k_Mod_look l dC dI cI cB cJ cZ ad H.size  x2034  hw) ⟨callB_of 0 hT (gwt_in w_10_234) rfl rfl rfl (hT _ w_1_15) (hT _ w_10_231) (by decide +kernel) ⟨Nat.le_trans (Nat.le_of_ble_eq_true rfl) hRf, Nat.le_trans (Nat.le_of_ble_eq_true rfl) hRl⟩, hT _ w_10_233, hT _ ws_112⟩ ⟨PW.blind, va_recv hK hW.1 (ci := 12) (q0 := 0) rfl (pic_obj ko_0.1 ko_0.2 (by decide)), PW.at _ hW hK hN⟩ rfl rfl hl.1 rfl (lv_room (Nat.le_of_ble_eq_true rfl)) d_Mod_readLiteral_79 ⟨hRc, hRs⟩) hS (fun q _ h => hF q h) hF (fun r2038 x2037 t H locs ht hvm hw hB hz1 hk1 hS => ?_)
      have hW := Wd.back hB ht hF
      clear hB ht hF hz1 hk1 hvm
      refine lv_bipush (v := 39) hx hb d_Mod_readLiteral_82 (by decide) ?_
      refine lv_icmp_ne (tgt := 97) hx hb d_Mod_readLiteral_84 (by decide) (fun c2039 => ?_) (fun c2039 => ?_)
      · have hw := hw.1 c2039
        refine lv_aload_n hx hb d_Mod_readLiteral_97 rfl (lv_at hl 5 rfl) ?_
        have hF := hW.free hS hA
        refine va_calll (va_runV (C := R_Mod) (As := []) (rest := []) ⟨hx, hb, hml, hown, hT⟩ (k_Mod_readNumber l dC dI cI cB cJ cZ ad H.size  x2037  hw) ⟨callB_of 0 hT (gwt_in w_11_100) rfl rfl rfl (hT _ w_1_15) (hT _ w_11_97) (by decide +kernel) ⟨Nat.le_trans (Nat.le_of_ble_eq_true rfl) hRf, Nat.le_trans (Nat.le_of_ble_eq_true rfl) hRl⟩, hT _ w_11_99, hT _ ws_133⟩ ⟨PW.blind, va_recv hK hW.1 (ci := 12) (q0 := 0) rfl (pic_obj ko_0.1 ko_0.2 (by decide)), PW.at _ hW hK hN⟩ rfl rfl hl.1 rfl (lv_room (Nat.le_of_ble_eq_true rfl)) d_Mod_readLiteral_98 ⟨hRc, hRs⟩) hS (fun q _ h => hF q h) hF (fun r2041 x2040 t H locs ht hvm hw hB hz1 hk1 hS => ?_)
        have hW := Wd.back hB ht hF
        clear hB ht hF hz1 hk1 hvm
        refine lv_lstore (lv' := [(5, .long r2041), (7, .int v2030), (4, .int 2), (3, .int v2029), (2, .int v2028), (0, .ref (ad 0)), (1, .int l1)]) hx hb d_Mod_readLiteral_101 hl (by decide) rfl (fun ls hl => ?_)
        exact t_Mod_readLiteral_103 hx hb hml hown hT hK hN hA hRc hRs hRf hRl hret  l1 v2028 v2029 2 r2041 v2030 x2040 H locs ls  hw hW hS (lv_sub hl [5, 6, 4, 3, 2, 0, 1] rfl)
      · have hw := hw.2 c2039
        refine lv_iconst (v := 3) hx hb d_Mod_readLiteral_87 (by decide) ?_
        refine lv_istore (lv' := [(4, .int 3), (7, .int v2030), (5, .long 0), (3, .int v2029), (2, .int v2028), (0, .ref (ad 0)), (1, .int l1)]) hx hb d_Mod_readLiteral_88 hl (by decide) rfl (fun ls hl => ?_)
        refine lv_aload_n hx hb d_Mod_readLiteral_90 rfl (lv_at hl 5 rfl) ?_
        have hF := hW.free hS hA
        refine va_callv (va_runV (C := R_Mod) (As := []) (rest := []) ⟨hx, hb, hml, hown, hT⟩ (k_Mod_readText l dC dI cI cB cJ cZ ad H.size  x2037  hw) ⟨callB_of 0 hT (gwt_in w_11_86) rfl rfl rfl (hT _ w_1_15) (hT _ w_11_83) (by decide +kernel) ⟨Nat.le_trans (Nat.le_of_ble_eq_true rfl) hRf, Nat.le_trans (Nat.le_of_ble_eq_true rfl) hRl⟩, hT _ w_11_85, hT _ ws_130⟩ ⟨PW.blind, va_recv hK hW.1 (ci := 12) (q0 := 0) rfl (pic_obj ko_0.1 ko_0.2 (by decide)), PW.at _ hW hK hN⟩ rfl rfl hl.1 rfl (lv_room (Nat.le_of_ble_eq_true rfl)) d_Mod_readLiteral_91 ⟨hRc, hRs⟩) hS (fun q _ h => hF q h) hF (fun  x2042 t H locs ht hvm hw hB hz1 hk1 hS => ?_)
        have hW := Wd.back hB ht hF
        clear hB ht hF hz1 hk1 hvm
        refine lv_goto (tgt := 103) hx hb d_Mod_readLiteral_94 (by decide) ?_
        exact t_Mod_readLiteral_103 hx hb hml hown hT hK hN hA hRc hRs hRf hRl hret  l1 v2028 v2029 3 0 v2030 x2042 H locs ls  hw hW hS (lv_sub hl [5, 6, 4, 3, 0, 2, 1] rfl)
    · have hw := hw.2 c2036
      refine lv_iconst (v := 0) hx hb d_Mod_readLiteral_72 (by decide) ?_
      refine lv_istore (lv' := [(4, .int 0), (7, .int v2030), (5, .long 0), (3, .int v2029), (2, .int v2028), (0, .ref (ad 0)), (1, .int l1)]) hx hb d_Mod_readLiteral_73 hl (by decide) rfl (fun ls hl => ?_)
      refine lv_goto (tgt := 103) hx hb d_Mod_readLiteral_75 (by decide) ?_
      exact t_Mod_readLiteral_103 hx hb hml hown hT hK hN hA hRc hRs hRf hRl hret  l1 v2028 v2029 0 0 v2030 x2034 H locs ls  hw hW hS (lv_sub hl [5, 6, 4, 3, 0, 2, 1] rfl)
  · have hw := hw.2 c2033
    refine lv_iconst (v := 0) hx hb d_Mod_readLiteral_53 (by decide) ?_
    refine lv_istore (lv' := [(4, .int 0), (7, .int v2030), (5, .long 0), (3, .int v2029), (2, .int v2028), (0, .ref (ad 0)), (1, .int l1)]) hx hb d_Mod_readLiteral_54 hl (by decide) rfl (fun ls hl => ?_)
    refine lv_lconst (v := 1) hx hb d_Mod_readLiteral_56 (by decide) ?_
    refine lv_lstore (lv' := [(5, .long 1), (4, .int 0), (7, .int v2030), (3, .int v2029), (2, .int v2028), (0, .ref (ad 0)), (1, .int l1)]) hx hb d_Mod_readLiteral_57 hl (by decide) rfl (fun ls hl => ?_)
    refine lv_goto (tgt := 103) hx hb d_Mod_readLiteral_59 (by decide) ?_
    exact t_Mod_readLiteral_103 hx hb hml hown hT hK hN hA hRc hRs hRf hRl hret  l1 v2028 v2029 0 1 v2030 x2031 H locs ls  hw hW hS (lv_sub hl [5, 6, 4, 3, 1, 0, 2] rfl)
set_option maxHeartbeats 4000000 in
set_option maxRecDepth 100000 in
theorem k_Mod_readLiteral (l : Launch) (dC : Nat → ClassId) (dI : Nat → Nat → Nat) (cI cB cJ cZ : ClassId) (ad : Nat → Nat) (sz : Nat) (l1 : Int32) (x : St) {post : St → Prop} (hw : wp_Mod_readLiteral post l1 x) : Met l y_Mod_readLiteral (wsOf y_Mod_readLiteral b_Mod_readLiteral 8 (none)) ({ frames := 5, cells := 0, slots := 0, locals := 111 }) (va_Pc [.ref (ad 0), .int l1] (PW dC dI cI cB cJ cZ ad stM kcM 115 sz x)) (va_Qv (fun (y : St) => post y) (fun y t => Wd dC dI cI cB cJ cZ ad stM kcM 115 (va_A (pic ad stM kcM 115 cI cB cJ cZ x) sz) y t.heap) (va_A (pic ad stM kcM 115 cI cB cJ cZ x) sz)) 0 0 (va_A (pic ad stM kcM 115 cI cB cJ cZ x) sz) := by
  refine Met.ofW (cc := b_Mod_readLiteral) (maxL := 8) (ret := none) (by decide) rfl ?_
  intro p e s m args below meth c s₁ B hml hv
  obtain ⟨rfl, hsz, hW0, hK, hN⟩ := hv
  have hx := B.exec
  have hb := B.bytes
  have hr := B.returns
  have hts := atoms_spec B.pre
  have hT : ∀ w ∈ TG, w.before _ s = true := fun w h => hts w (List.mem_cons_of_mem _ h)
  have hown : s.vm.findClass R_Mod = some m.cls := findClass_of_methodNamed B.named
  have hlocks := B.notSynchronized
  subst hsz
  have hW : Wd dC dI cI cB cJ cZ ad stM kcM 115 (va_A (pic ad stM kcM 115 cI cB cJ cZ x) s.heap.size) x s.heap := ⟨hW0.1, hW0.2.1.self (sz := s.heap.size), hW0.2.2⟩
  generalize hAe : va_A (pic ad stM kcM 115 cI cB cJ cZ x) s.heap.size = A at hW ⊢
  have hA : ∀ q : Nat, s.heap.size ≤ q → A q := fun q h => by rw [← hAe]; exact Or.inr h
  have hS : va_S A s.heap s.heap [] := va_S.rf
  have hl := lv_entry ([.ref (ad 0), .int l1]) (n := 8) (Nat.le_of_ble_eq_true rfl)
  rw [lg_entry_eq]
  generalize (lg_sl ([.ref (ad 0), .int l1]) ++ List.replicate (8 - (lg_sl ([.ref (ad 0), .int l1])).length) Slot.unset).toArray = ls at hl ⊢
  have hl : lv_has ls 8 [(0, .ref (ad 0)), (1, .int l1)] := hl
  exact t_Mod_readLiteral_e hx hb hml hown hT hK hN hA (Nat.le_refl 0) (Nat.le_refl 0) (Nat.le_refl 5) (Nat.le_refl 111) (fun x H locs pc ls hd hp hW hS => W.vret hx hb hr (fun t ht hM => ⟨⟨x, rfl, hp, Wd.back hW ht.symm (fun _ z => z)⟩, hS.F ht⟩) hS.2.2 hd hlocks)  l1 x _ _ ls  hw hW hS hl
end
