theorem w_12_169 : (Jvm.Cond.constantLong "StripedVaultModel" (885 : Nat) (1000 : Int64)) ∈ TG := tw_12 169 (by decide +kernel) (by decide +kernel)
theorem w_12_170 : (Jvm.Cond.methodLink "StripedVaultModel" (887 : Nat) ({ cls := "StripedVaultModel", name := "readBody", desc := "(III)V" } : Jvm.MethodName)) ∈ TG := tw_12 170 (by decide +kernel) (by decide +kernel)
theorem w_12_172 : (Jvm.Cond.instanceMethod ({ cls := "StripedVaultModel", name := "readBody", desc := "(III)V" } : Jvm.MethodName)) ∈ TG := tw_12 172 (by decide +kernel) (by decide +kernel)
theorem w_12_173 : (Jvm.Cond.code ({ cls := "StripedVaultModel", name := "readBody", desc := "(III)V" } : Jvm.MethodName) prog_14_method_102_code (6 : Nat) (Option.none : Option Jvm.ClassFile.FieldType)) ∈ TG := tw_12 173 (by decide +kernel) (by decide +kernel)
theorem ws_197 : Cond.selects R_Mod y_Mod_readBody y_Mod_readBody ∈ TG := tw_s 197 (by decide +kernel) (by decide +kernel)
theorem d_Mod_readPage_282 : decode b_Mod_readPage 282 = .ok (.aload_n 0, 1) := by decide +kernel
theorem d_Mod_readPage_283 : decode b_Mod_readPage 283 = .ok (.lload_n 2, 1) := by decide +kernel
theorem d_Mod_readPage_284 : decode b_Mod_readPage 284 = .ok (.l2i, 1) := by decide +kernel
theorem d_Mod_readPage_285 : decode b_Mod_readPage 285 = .ok (.putfield 676, 3) := by decide +kernel
theorem d_Mod_readPage_288 : decode b_Mod_readPage 288 = .ok (.aload_n 0, 1) := by decide +kernel
theorem d_Mod_readPage_289 : decode b_Mod_readPage 289 = .ok (.lload_n 2, 1) := by decide +kernel
theorem d_Mod_readPage_290 : decode b_Mod_readPage 290 = .ok (.lload 4, 2) := by decide +kernel
theorem d_Mod_readPage_292 : decode b_Mod_readPage 292 = .ok (.lsub, 1) := by decide +kernel
theorem d_Mod_readPage_293 : decode b_Mod_readPage 293 = .ok (.l2i, 1) := by decide +kernel
theorem d_Mod_readPage_294 : decode b_Mod_readPage 294 = .ok (.putfield 632, 3) := by decide +kernel
theorem d_Mod_readPage_297 : decode b_Mod_readPage 297 = .ok (.aload_n 0, 1) := by decide +kernel
theorem d_Mod_readPage_298 : decode b_Mod_readPage 298 = .ok (.iload 6, 2) := by decide +kernel
theorem d_Mod_readPage_300 : decode b_Mod_readPage 300 = .ok (.putfield 760, 3) := by decide +kernel
theorem d_Mod_readPage_303 : decode b_Mod_readPage 303 = .ok (.aload_n 0, 1) := by decide +kernel
theorem d_Mod_readPage_304 : decode b_Mod_readPage 304 = .ok (.aload_n 0, 1) := by decide +kernel
theorem d_Mod_readPage_305 : decode b_Mod_readPage 305 = .ok (.getfield 608, 3) := by decide +kernel
theorem d_Mod_readPage_308 : decode b_Mod_readPage 308 = .ok (.putfield 553, 3) := by decide +kernel
theorem d_Mod_readPage_311 : decode b_Mod_readPage 311 = .ok (.return_, 1) := by decide +kernel
theorem d_Mod_readPage_257 : decode b_Mod_readPage 257 = .ok (.bipush 8, 2) := by decide +kernel
theorem d_Mod_readPage_259 : decode b_Mod_readPage 259 = .ok (.invokevirtual 841, 3) := by decide +kernel
theorem d_Mod_readPage_262 : decode b_Mod_readPage 262 = .ok (.aload_n 0, 1) := by decide +kernel
theorem d_Mod_readPage_263 : decode b_Mod_readPage 263 = .ok (.getfield 550, 3) := by decide +kernel
theorem d_Mod_readPage_266 : decode b_Mod_readPage 266 = .ok (.ifCond .ne 16, 3) := by decide +kernel
theorem d_Mod_readPage_269 : decode b_Mod_readPage 269 = .ok (.aload_n 0, 1) := by decide +kernel
theorem d_Mod_readPage_270 : decode b_Mod_readPage 270 = .ok (.lload_n 2, 1) := by decide +kernel
theorem d_Mod_readPage_271 : decode b_Mod_readPage 271 = .ok (.l2i, 1) := by decide +kernel
theorem d_Mod_readPage_272 : decode b_Mod_readPage 272 = .ok (.lload_n 2, 1) := by decide +kernel
theorem d_Mod_readPage_273 : decode b_Mod_readPage 273 = .ok (.lload 4, 2) := by decide +kernel
theorem d_Mod_readPage_275 : decode b_Mod_readPage 275 = .ok (.lsub, 1) := by decide +kernel
theorem d_Mod_readPage_276 : decode b_Mod_readPage 276 = .ok (.l2i, 1) := by decide +kernel
theorem d_Mod_readPage_277 : decode b_Mod_readPage 277 = .ok (.iload 6, 2) := by decide +kernel
theorem d_Mod_readPage_279 : decode b_Mod_readPage 279 = .ok (.invokevirtual 887, 3) := by decide +kernel
theorem d_Mod_readPage_207 : decode b_Mod_readPage 207 = .ok (.iconst 1, 1) := by decide +kernel
theorem d_Mod_readPage_208 : decode b_Mod_readPage 208 = .ok (.invokevirtual 841, 3) := by decide +kernel
theorem d_Mod_readPage_211 : decode b_Mod_readPage 211 = .ok (.aload_n 0, 1) := by decide +kernel
theorem d_Mod_readPage_212 : decode b_Mod_readPage 212 = .ok (.getfield 550, 3) := by decide +kernel
theorem d_Mod_readPage_215 : decode b_Mod_readPage 215 = .ok (.ifCond .eq 4, 3) := by decide +kernel
theorem d_Mod_readPage_219 : decode b_Mod_readPage 219 = .ok (.aload_n 0, 1) := by decide +kernel
theorem d_Mod_readPage_220 : decode b_Mod_readPage 220 = .ok (.aload_n 0, 1) := by decide +kernel
theorem d_Mod_readPage_221 : decode b_Mod_readPage 221 = .ok (.getfield 553, 3) := by decide +kernel
theorem d_Mod_readPage_224 : decode b_Mod_readPage 224 = .ok (.lload 7, 2) := by decide +kernel
theorem d_Mod_readPage_226 : decode b_Mod_readPage 226 = .ok (.l2i, 1) := by decide +kernel
theorem d_Mod_readPage_227 : decode b_Mod_readPage 227 = .ok (.iadd, 1) := by decide +kernel
theorem d_Mod_readPage_228 : decode b_Mod_readPage 228 = .ok (.putfield 608, 3) := by decide +kernel
theorem d_Mod_readPage_231 : decode b_Mod_readPage 231 = .ok (.aload_n 0, 1) := by decide +kernel
theorem d_Mod_readPage_232 : decode b_Mod_readPage 232 = .ok (.aload_n 0, 1) := by decide +kernel
theorem d_Mod_readPage_233 : decode b_Mod_readPage 233 = .ok (.getfield 133, 3) := by decide +kernel
theorem d_Mod_readPage_236 : decode b_Mod_readPage 236 = .ok (.aload_n 0, 1) := by decide +kernel
theorem d_Mod_readPage_237 : decode b_Mod_readPage 237 = .ok (.getfield 553, 3) := by decide +kernel
theorem d_Mod_readPage_240 : decode b_Mod_readPage 240 = .ok (.aload_n 0, 1) := by decide +kernel
theorem d_Mod_readPage_241 : decode b_Mod_readPage 241 = .ok (.getfield 608, 3) := by decide +kernel
theorem d_Mod_readPage_244 : decode b_Mod_readPage 244 = .ok (.invokestatic 777, 3) := by decide +kernel
theorem d_Mod_readPage_247 : decode b_Mod_readPage 247 = .ok (.iload 9, 2) := by decide +kernel
theorem d_Mod_readPage_249 : decode b_Mod_readPage 249 = .ok (.if_icmp .eq 7, 3) := by decide +kernel
theorem d_Mod_readPage_256 : decode b_Mod_readPage 256 = .ok (.iconst 0, 1) := by decide +kernel
theorem d_Mod_readPage_252 : decode b_Mod_readPage 252 = .ok (.iconst 1, 1) := by decide +kernel
theorem d_Mod_readPage_253 : decode b_Mod_readPage 253 = .ok (.goto 4, 3) := by decide +kernel
theorem d_Mod_readPage_218 : decode b_Mod_readPage 218 = .ok (.return_, 1) := by decide +kernel
theorem d_Mod_readPage_202 : decode b_Mod_readPage 202 = .ok (.iconst 1, 1) := by decide +kernel
theorem d_Mod_readPage_203 : decode b_Mod_readPage 203 = .ok (.goto 4, 3) := by decide +kernel
theorem d_Mod_readPage_156 : decode b_Mod_readPage 156 = .ok (.aload_n 0, 1) := by decide +kernel
theorem d_Mod_readPage_157 : decode b_Mod_readPage 157 = .ok (.aload_n 0, 1) := by decide +kernel
theorem d_Mod_readPage_158 : decode b_Mod_readPage 158 = .ok (.getfield 608, 3) := by decide +kernel
theorem d_Mod_readPage_161 : decode b_Mod_readPage 161 = .ok (.invokevirtual 571, 3) := by decide +kernel
theorem d_Mod_readPage_164 : decode b_Mod_readPage 164 = .ok (.lstore 7, 2) := by decide +kernel
theorem d_Mod_readPage_166 : decode b_Mod_readPage 166 = .ok (.aload_n 0, 1) := by decide +kernel
theorem d_Mod_readPage_167 : decode b_Mod_readPage 167 = .ok (.iconst 4, 1) := by decide +kernel
theorem d_Mod_readPage_168 : decode b_Mod_readPage 168 = .ok (.aload_n 0, 1) := by decide +kernel
theorem d_Mod_readPage_169 : decode b_Mod_readPage 169 = .ok (.getfield 608, 3) := by decide +kernel
theorem d_Mod_readPage_172 : decode b_Mod_readPage 172 = .ok (.invokevirtual 717, 3) := by decide +kernel
theorem d_Mod_readPage_175 : decode b_Mod_readPage 175 = .ok (.l2i, 1) := by decide +kernel
theorem d_Mod_readPage_176 : decode b_Mod_readPage 176 = .ok (.istore 9, 2) := by decide +kernel
theorem d_Mod_readPage_178 : decode b_Mod_readPage 178 = .ok (.aload_n 0, 1) := by decide +kernel
theorem d_Mod_readPage_179 : decode b_Mod_readPage 179 = .ok (.lload 7, 2) := by decide +kernel
theorem d_Mod_readPage_181 : decode b_Mod_readPage 181 = .ok (.lconst 0, 1) := by decide +kernel
theorem d_Mod_readPage_182 : decode b_Mod_readPage 182 = .ok (.lcmp, 1) := by decide +kernel
theorem d_Mod_readPage_183 : decode b_Mod_readPage 183 = .ok (.ifCond .lt 19, 3) := by decide +kernel
theorem d_Mod_readPage_186 : decode b_Mod_readPage 186 = .ok (.lload 7, 2) := by decide +kernel
theorem d_Mod_readPage_188 : decode b_Mod_readPage 188 = .ok (.aload_n 0, 1) := by decide +kernel
theorem d_Mod_readPage_189 : decode b_Mod_readPage 189 = .ok (.getfield 608, 3) := by decide +kernel
theorem d_Mod_readPage_192 : decode b_Mod_readPage 192 = .ok (.aload_n 0, 1) := by decide +kernel
theorem d_Mod_readPage_193 : decode b_Mod_readPage 193 = .ok (.getfield 553, 3) := by decide +kernel
theorem d_Mod_readPage_196 : decode b_Mod_readPage 196 = .ok (.isub, 1) := by decide +kernel
theorem d_Mod_readPage_197 : decode b_Mod_readPage 197 = .ok (.i2l, 1) := by decide +kernel
theorem d_Mod_readPage_198 : decode b_Mod_readPage 198 = .ok (.lcmp, 1) := by decide +kernel
theorem d_Mod_readPage_199 : decode b_Mod_readPage 199 = .ok (.ifCond .le 7, 3) := by decide +kernel
theorem d_Mod_readPage_206 : decode b_Mod_readPage 206 = .ok (.iconst 0, 1) := by decide +kernel
theorem d_Mod_readPage_124 : decode b_Mod_readPage 124 = .ok (.iload 7, 2) := by decide +kernel
theorem d_Mod_readPage_126 : decode b_Mod_readPage 126 = .ok (.iconst 2, 1) := by decide +kernel
theorem d_Mod_readPage_127 : decode b_Mod_readPage 127 = .ok (.if_icmp .ge 29, 3) := by decide +kernel
theorem d_Mod_readPage_130 : decode b_Mod_readPage 130 = .ok (.aload_n 0, 1) := by decide +kernel
theorem d_Mod_readPage_131 : decode b_Mod_readPage 131 = .ok (.getfield 550, 3) := by decide +kernel
theorem d_Mod_readPage_134 : decode b_Mod_readPage 134 = .ok (.ifCond .ne 22, 3) := by decide +kernel
theorem d_Mod_readPage_137 : decode b_Mod_readPage 137 = .ok (.lload 4, 2) := by decide +kernel
theorem d_Mod_readPage_139 : decode b_Mod_readPage 139 = .ok (.lload_n 2, 1) := by decide +kernel
theorem d_Mod_readPage_140 : decode b_Mod_readPage 140 = .ok (.lcmp, 1) := by decide +kernel
theorem d_Mod_readPage_141 : decode b_Mod_readPage 141 = .ok (.ifCond .ge 15, 3) := by decide +kernel
theorem d_Mod_readPage_144 : decode b_Mod_readPage 144 = .ok (.aload_n 0, 1) := by decide +kernel
theorem d_Mod_readPage_145 : decode b_Mod_readPage 145 = .ok (.iload 7, 2) := by decide +kernel
theorem d_Mod_readPage_147 : decode b_Mod_readPage 147 = .ok (.invokevirtual 853, 3) := by decide +kernel
theorem d_Mod_readPage_150 : decode b_Mod_readPage 150 = .ok (.iinc 7 1, 3) := by decide +kernel
theorem d_Mod_readPage_153 : decode b_Mod_readPage 153 = .ok (.goto (-29), 3) := by decide +kernel
theorem d_Mod_readPage_116 : decode b_Mod_readPage 116 = .ok (.bipush 7, 2) := by decide +kernel
theorem d_Mod_readPage_118 : decode b_Mod_readPage 118 = .ok (.invokevirtual 841, 3) := by decide +kernel
theorem d_Mod_readPage_121 : decode b_Mod_readPage 121 = .ok (.iconst 0, 1) := by decide +kernel
theorem d_Mod_readPage_122 : decode b_Mod_readPage 122 = .ok (.istore 7, 2) := by decide +kernel
theorem d_Mod_readPage_84 : decode b_Mod_readPage 84 = .ok (.bipush 7, 2) := by decide +kernel
theorem d_Mod_readPage_86 : decode b_Mod_readPage 86 = .ok (.invokevirtual 841, 3) := by decide +kernel
theorem d_Mod_readPage_89 : decode b_Mod_readPage 89 = .ok (.aload_n 0, 1) := by decide +kernel
theorem d_Mod_readPage_90 : decode b_Mod_readPage 90 = .ok (.iconst 1, 1) := by decide +kernel
theorem d_Mod_readPage_91 : decode b_Mod_readPage 91 = .ok (.aload_n 0, 1) := by decide +kernel
theorem d_Mod_readPage_92 : decode b_Mod_readPage 92 = .ok (.getfield 608, 3) := by decide +kernel
theorem d_Mod_readPage_95 : decode b_Mod_readPage 95 = .ok (.invokevirtual 717, 3) := by decide +kernel
theorem d_Mod_readPage_98 : decode b_Mod_readPage 98 = .ok (.l2i, 1) := by decide +kernel
theorem d_Mod_readPage_99 : decode b_Mod_readPage 99 = .ok (.istore 6, 2) := by decide +kernel
theorem d_Mod_readPage_101 : decode b_Mod_readPage 101 = .ok (.aload_n 0, 1) := by decide +kernel
theorem d_Mod_readPage_102 : decode b_Mod_readPage 102 = .ok (.iload 6, 2) := by decide +kernel
theorem d_Mod_readPage_104 : decode b_Mod_readPage 104 = .ok (.aload_n 0, 1) := by decide +kernel
theorem d_Mod_readPage_105 : decode b_Mod_readPage 105 = .ok (.invokevirtual 754, 3) := by decide +kernel
theorem d_Mod_readPage_108 : decode b_Mod_readPage 108 = .ok (.if_icmp .lt 7, 3) := by decide +kernel
theorem d_Mod_readPage_115 : decode b_Mod_readPage 115 = .ok (.iconst 0, 1) := by decide +kernel
theorem d_Mod_readPage_111 : decode b_Mod_readPage 111 = .ok (.iconst 1, 1) := by decide +kernel
theorem d_Mod_readPage_112 : decode b_Mod_readPage 112 = .ok (.goto 4, 3) := by decide +kernel
theorem d_Mod_readPage_79 : decode b_Mod_readPage 79 = .ok (.iconst 1, 1) := by decide +kernel
theorem d_Mod_readPage_80 : decode b_Mod_readPage 80 = .ok (.goto 4, 3) := by decide +kernel
theorem d_Mod_readPage_50 : decode b_Mod_readPage 50 = .ok (.iconst 4, 1) := by decide +kernel
theorem d_Mod_readPage_51 : decode b_Mod_readPage 51 = .ok (.invokevirtual 841, 3) := by decide +kernel
theorem d_Mod_readPage_54 : decode b_Mod_readPage 54 = .ok (.aload_n 0, 1) := by decide +kernel
theorem d_Mod_readPage_55 : decode b_Mod_readPage 55 = .ok (.aload_n 0, 1) := by decide +kernel
theorem d_Mod_readPage_56 : decode b_Mod_readPage 56 = .ok (.getfield 608, 3) := by decide +kernel
theorem d_Mod_readPage_59 : decode b_Mod_readPage 59 = .ok (.invokevirtual 571, 3) := by decide +kernel
theorem d_Mod_readPage_62 : decode b_Mod_readPage 62 = .ok (.lstore 4, 2) := by decide +kernel
theorem d_Mod_readPage_64 : decode b_Mod_readPage 64 = .ok (.aload_n 0, 1) := by decide +kernel
theorem d_Mod_readPage_65 : decode b_Mod_readPage 65 = .ok (.lload 4, 2) := by decide +kernel
theorem d_Mod_readPage_67 : decode b_Mod_readPage 67 = .ok (.lconst 0, 1) := by decide +kernel
theorem d_Mod_readPage_68 : decode b_Mod_readPage 68 = .ok (.lcmp, 1) := by decide +kernel
theorem d_Mod_readPage_69 : decode b_Mod_readPage 69 = .ok (.ifCond .lt 10, 3) := by decide +kernel
theorem d_Mod_readPage_72 : decode b_Mod_readPage 72 = .ok (.lload 4, 2) := by decide +kernel
theorem d_Mod_readPage_74 : decode b_Mod_readPage 74 = .ok (.lload_n 2, 1) := by decide +kernel
theorem d_Mod_readPage_75 : decode b_Mod_readPage 75 = .ok (.lcmp, 1) := by decide +kernel
theorem d_Mod_readPage_76 : decode b_Mod_readPage 76 = .ok (.ifCond .le 7, 3) := by decide +kernel
theorem d_Mod_readPage_83 : decode b_Mod_readPage 83 = .ok (.iconst 0, 1) := by decide +kernel
theorem d_Mod_readPage_45 : decode b_Mod_readPage 45 = .ok (.iconst 1, 1) := by decide +kernel
theorem d_Mod_readPage_46 : decode b_Mod_readPage 46 = .ok (.goto 4, 3) := by decide +kernel
theorem d_Mod_readPage_26 : decode b_Mod_readPage 26 = .ok (.iconst 3, 1) := by decide +kernel
theorem d_Mod_readPage_27 : decode b_Mod_readPage 27 = .ok (.invokevirtual 841, 3) := by decide +kernel
theorem d_Mod_readPage_30 : decode b_Mod_readPage 30 = .ok (.aload_n 0, 1) := by decide +kernel
theorem d_Mod_readPage_31 : decode b_Mod_readPage 31 = .ok (.lload_n 2, 1) := by decide +kernel
theorem d_Mod_readPage_32 : decode b_Mod_readPage 32 = .ok (.lconst 1, 1) := by decide +kernel
theorem d_Mod_readPage_33 : decode b_Mod_readPage 33 = .ok (.lcmp, 1) := by decide +kernel
theorem d_Mod_readPage_34 : decode b_Mod_readPage 34 = .ok (.ifCond .lt 11, 3) := by decide +kernel
theorem d_Mod_readPage_37 : decode b_Mod_readPage 37 = .ok (.lload_n 2, 1) := by decide +kernel
theorem d_Mod_readPage_38 : decode b_Mod_readPage 38 = .ok (.ldc2_w 885, 3) := by decide +kernel
theorem d_Mod_readPage_41 : decode b_Mod_readPage 41 = .ok (.lcmp, 1) := by decide +kernel
theorem d_Mod_readPage_42 : decode b_Mod_readPage 42 = .ok (.ifCond .le 7, 3) := by decide +kernel
theorem d_Mod_readPage_49 : decode b_Mod_readPage 49 = .ok (.iconst 0, 1) := by decide +kernel
theorem d_Mod_readPage_0 : decode b_Mod_readPage 0 = .ok (.aload_n 0, 1) := by decide +kernel
theorem d_Mod_readPage_1 : decode b_Mod_readPage 1 = .ok (.iload_n 1, 1) := by decide +kernel
theorem d_Mod_readPage_2 : decode b_Mod_readPage 2 = .ok (.putfield 608, 3) := by decide +kernel
theorem d_Mod_readPage_5 : decode b_Mod_readPage 5 = .ok (.aload_n 0, 1) := by decide +kernel
theorem d_Mod_readPage_6 : decode b_Mod_readPage 6 = .ok (.aload_n 0, 1) := by decide +kernel
theorem d_Mod_readPage_7 : decode b_Mod_readPage 7 = .ok (.getfield 608, 3) := by decide +kernel
theorem d_Mod_readPage_10 : decode b_Mod_readPage 10 = .ok (.invokevirtual 571, 3) := by decide +kernel
theorem d_Mod_readPage_13 : decode b_Mod_readPage 13 = .ok (.lstore_n 2, 1) := by decide +kernel
theorem d_Mod_readPage_14 : decode b_Mod_readPage 14 = .ok (.aload_n 0, 1) := by decide +kernel
theorem d_Mod_readPage_15 : decode b_Mod_readPage 15 = .ok (.lload_n 2, 1) := by decide +kernel
theorem d_Mod_readPage_16 : decode b_Mod_readPage 16 = .ok (.lconst 0, 1) := by decide +kernel
theorem d_Mod_readPage_17 : decode b_Mod_readPage 17 = .ok (.lcmp, 1) := by decide +kernel
theorem d_Mod_readPage_18 : decode b_Mod_readPage 18 = .ok (.ifCond .ne 7, 3) := by decide +kernel
theorem d_Mod_readPage_25 : decode b_Mod_readPage 25 = .ok (.iconst 0, 1) := by decide +kernel
theorem d_Mod_readPage_21 : decode b_Mod_readPage 21 = .ok (.iconst 1, 1) := by decide +kernel
theorem d_Mod_readPage_22 : decode b_Mod_readPage 22 = .ok (.goto 4, 3) := by decide +kernel
theorem d_Mod_order_131 : decode b_Mod_order 131 = .ok (.iinc 3 1, 3) := by decide +kernel
theorem d_Mod_order_134 : decode b_Mod_order 134 = .ok (.goto (-122), 3) := by decide +kernel
theorem d_Mod_order_126 : decode b_Mod_order 126 = .ok (.bipush 20, 2) := by decide +kernel
theorem d_Mod_order_128 : decode b_Mod_order 128 = .ok (.invokevirtual 841, 3) := by decide +kernel
theorem d_Mod_order_121 : decode b_Mod_order 121 = .ok (.iconst 1, 1) := by decide +kernel
theorem d_Mod_order_122 : decode b_Mod_order 122 = .ok (.goto 4, 3) := by decide +kernel
theorem d_Mod_order_68 : decode b_Mod_order 68 = .ok (.istore 5, 2) := by decide +kernel
theorem d_Mod_order_70 : decode b_Mod_order 70 = .ok (.aload_n 0, 1) := by decide +kernel
theorem d_Mod_order_71 : decode b_Mod_order 71 = .ok (.getfield 23, 3) := by decide +kernel
theorem d_Mod_order_74 : decode b_Mod_order 74 = .ok (.iconst 1, 1) := by decide +kernel
theorem d_Mod_order_75 : decode b_Mod_order 75 = .ok (.iload 6, 2) := by decide +kernel
theorem d_Mod_order_77 : decode b_Mod_order 77 = .ok (.invokestatic 412, 3) := by decide +kernel
theorem d_Mod_order_80 : decode b_Mod_order 80 = .ok (.iaload, 1) := by decide +kernel
theorem d_Mod_order_81 : decode b_Mod_order 81 = .ok (.istore 6, 2) := by decide +kernel
theorem d_Mod_order_83 : decode b_Mod_order 83 = .ok (.goto (-41), 3) := by decide +kernel
theorem d_Mod_order_42 : decode b_Mod_order 42 = .ok (.iload 6, 2) := by decide +kernel
theorem d_Mod_order_44 : decode b_Mod_order 44 = .ok (.iconst (-1), 1) := by decide +kernel
theorem d_Mod_order_45 : decode b_Mod_order 45 = .ok (.if_icmp .eq 41, 3) := by decide +kernel
theorem d_Mod_order_86 : decode b_Mod_order 86 = .ok (.aload_n 0, 1) := by decide +kernel
theorem d_Mod_order_87 : decode b_Mod_order 87 = .ok (.iconst 1, 1) := by decide +kernel
theorem d_Mod_order_88 : decode b_Mod_order 88 = .ok (.iload 5, 2) := by decide +kernel
theorem d_Mod_order_90 : decode b_Mod_order 90 = .ok (.iconst 0, 1) := by decide +kernel
theorem d_Mod_order_91 : decode b_Mod_order 91 = .ok (.invokevirtual 416, 3) := by decide +kernel
theorem d_Mod_order_94 : decode b_Mod_order 94 = .ok (.istore 6, 2) := by decide +kernel
theorem d_Mod_order_96 : decode b_Mod_order 96 = .ok (.aload_n 0, 1) := by decide +kernel
theorem d_Mod_order_97 : decode b_Mod_order 97 = .ok (.aload_n 0, 1) := by decide +kernel
theorem d_Mod_order_98 : decode b_Mod_order 98 = .ok (.getfield 97, 3) := by decide +kernel
theorem d_Mod_order_101 : decode b_Mod_order 101 = .ok (.iload_n 3, 1) := by decide +kernel
theorem d_Mod_order_102 : decode b_Mod_order 102 = .ok (.iaload, 1) := by decide +kernel
theorem d_Mod_order_103 : decode b_Mod_order 103 = .ok (.iload 6, 2) := by decide +kernel
theorem d_Mod_order_105 : decode b_Mod_order 105 = .ok (.if_icmp .lt 16, 3) := by decide +kernel
theorem d_Mod_order_108 : decode b_Mod_order 108 = .ok (.aload_n 0, 1) := by decide +kernel
theorem d_Mod_order_109 : decode b_Mod_order 109 = .ok (.getfield 97, 3) := by decide +kernel
theorem d_Mod_order_112 : decode b_Mod_order 112 = .ok (.iload_n 3, 1) := by decide +kernel
theorem d_Mod_order_113 : decode b_Mod_order 113 = .ok (.iconst 1, 1) := by decide +kernel
theorem d_Mod_order_114 : decode b_Mod_order 114 = .ok (.isub, 1) := by decide +kernel
theorem d_Mod_order_115 : decode b_Mod_order 115 = .ok (.iaload, 1) := by decide +kernel
theorem d_Mod_order_116 : decode b_Mod_order 116 = .ok (.iload 6, 2) := by decide +kernel
theorem d_Mod_order_118 : decode b_Mod_order 118 = .ok (.if_icmp .ge 7, 3) := by decide +kernel
theorem d_Mod_order_125 : decode b_Mod_order 125 = .ok (.iconst 0, 1) := by decide +kernel
theorem d_Mod_order_48 : decode b_Mod_order 48 = .ok (.aload_n 0, 1) := by decide +kernel
theorem d_Mod_order_49 : decode b_Mod_order 49 = .ok (.iconst 1, 1) := by decide +kernel
theorem d_Mod_order_50 : decode b_Mod_order 50 = .ok (.iload 6, 2) := by decide +kernel
theorem d_Mod_order_52 : decode b_Mod_order 52 = .ok (.iconst 1, 1) := by decide +kernel
theorem d_Mod_order_53 : decode b_Mod_order 53 = .ok (.invokevirtual 416, 3) := by decide +kernel
theorem d_Mod_order_56 : decode b_Mod_order 56 = .ok (.iload 4, 2) := by decide +kernel
theorem d_Mod_order_58 : decode b_Mod_order 58 = .ok (.if_icmp .lt 8, 3) := by decide +kernel
theorem d_Mod_order_66 : decode b_Mod_order 66 = .ok (.iload 5, 2) := by decide +kernel
theorem d_Mod_order_61 : decode b_Mod_order 61 = .ok (.iload 6, 2) := by decide +kernel
theorem d_Mod_order_63 : decode b_Mod_order 63 = .ok (.goto 5, 3) := by decide +kernel
theorem d_Mod_order_12 : decode b_Mod_order 12 = .ok (.iload_n 3, 1) := by decide +kernel
theorem d_Mod_order_13 : decode b_Mod_order 13 = .ok (.aload_n 0, 1) := by decide +kernel
theorem d_Mod_order_14 : decode b_Mod_order 14 = .ok (.getfield 676, 3) := by decide +kernel
theorem d_Mod_order_17 : decode b_Mod_order 17 = .ok (.if_icmp .ge 120, 3) := by decide +kernel
theorem d_Mod_order_137 : decode b_Mod_order 137 = .ok (.return_, 1) := by decide +kernel
theorem d_Mod_order_20 : decode b_Mod_order 20 = .ok (.aload_n 0, 1) := by decide +kernel
theorem d_Mod_order_21 : decode b_Mod_order 21 = .ok (.getfield 94, 3) := by decide +kernel
theorem d_Mod_order_24 : decode b_Mod_order 24 = .ok (.iload_n 3, 1) := by decide +kernel
theorem d_Mod_order_25 : decode b_Mod_order 25 = .ok (.iaload, 1) := by decide +kernel
theorem d_Mod_order_26 : decode b_Mod_order 26 = .ok (.istore 4, 2) := by decide +kernel
theorem d_Mod_order_28 : decode b_Mod_order 28 = .ok (.iload 4, 2) := by decide +kernel
theorem d_Mod_order_30 : decode b_Mod_order 30 = .ok (.ifCond .ne 6, 3) := by decide +kernel
theorem d_Mod_order_36 : decode b_Mod_order 36 = .ok (.iload_n 2, 1) := by decide +kernel
theorem d_Mod_order_37 : decode b_Mod_order 37 = .ok (.istore 5, 2) := by decide +kernel
theorem d_Mod_order_39 : decode b_Mod_order 39 = .ok (.iload_n 2, 1) := by decide +kernel
theorem d_Mod_order_40 : decode b_Mod_order 40 = .ok (.istore 6, 2) := by decide +kernel
theorem d_Mod_order_33 : decode b_Mod_order 33 = .ok (.goto 98, 3) := by decide +kernel
theorem d_Mod_order_0 : decode b_Mod_order 0 = .ok (.aload_n 0, 1) := by decide +kernel
theorem d_Mod_order_1 : decode b_Mod_order 1 = .ok (.getfield 41, 3) := by decide +kernel
theorem d_Mod_order_4 : decode b_Mod_order 4 = .ok (.bipush 64, 2) := by decide +kernel
theorem d_Mod_order_6 : decode b_Mod_order 6 = .ok (.iload_n 1, 1) := by decide +kernel
theorem d_Mod_order_7 : decode b_Mod_order 7 = .ok (.iadd, 1) := by decide +kernel
theorem d_Mod_order_8 : decode b_Mod_order 8 = .ok (.iaload, 1) := by decide +kernel
theorem d_Mod_order_9 : decode b_Mod_order 9 = .ok (.istore_n 2, 1) := by decide +kernel
theorem d_Mod_order_10 : decode b_Mod_order 10 = .ok (.iconst 1, 1) := by decide +kernel
theorem d_Mod_order_11 : decode b_Mod_order 11 = .ok (.istore_n 3, 1) := by decide +kernel
theorem d_Mod_compare_139 : decode b_Mod_compare 139 = .ok (.aload_n 0, 1) := by decide +kernel
theorem d_Mod_compare_140 : decode b_Mod_compare 140 = .ok (.getfield 179, 3) := by decide +kernel
theorem d_Mod_compare_143 : decode b_Mod_compare 143 = .ok (.iload_n 2, 1) := by decide +kernel
theorem d_Mod_compare_144 : decode b_Mod_compare 144 = .ok (.iaload, 1) := by decide +kernel
theorem d_Mod_compare_145 : decode b_Mod_compare 145 = .ok (.aload_n 0, 1) := by decide +kernel
theorem d_Mod_compare_146 : decode b_Mod_compare 146 = .ok (.getfield 179, 3) := by decide +kernel
theorem d_Mod_compare_149 : decode b_Mod_compare 149 = .ok (.iload_n 3, 1) := by decide +kernel
theorem d_Mod_compare_150 : decode b_Mod_compare 150 = .ok (.iaload, 1) := by decide +kernel
theorem d_Mod_compare_151 : decode b_Mod_compare 151 = .ok (.isub, 1) := by decide +kernel
theorem d_Mod_compare_152 : decode b_Mod_compare 152 = .ok (.ireturn, 1) := by decide +kernel
theorem d_Mod_compare_50 : decode b_Mod_compare 50 = .ok (.iload 4, 2) := by decide +kernel
theorem d_Mod_compare_52 : decode b_Mod_compare 52 = .ok (.aload_n 0, 1) := by decide +kernel
theorem d_Mod_compare_53 : decode b_Mod_compare 53 = .ok (.getfield 179, 3) := by decide +kernel
theorem d_Mod_compare_56 : decode b_Mod_compare 56 = .ok (.iload_n 2, 1) := by decide +kernel
theorem d_Mod_compare_57 : decode b_Mod_compare 57 = .ok (.iaload, 1) := by decide +kernel
theorem d_Mod_compare_58 : decode b_Mod_compare 58 = .ok (.if_icmp .ge 81, 3) := by decide +kernel
theorem d_Mod_compare_61 : decode b_Mod_compare 61 = .ok (.iload 4, 2) := by decide +kernel
theorem d_Mod_compare_63 : decode b_Mod_compare 63 = .ok (.aload_n 0, 1) := by decide +kernel
theorem d_Mod_compare_64 : decode b_Mod_compare 64 = .ok (.getfield 179, 3) := by decide +kernel
theorem d_Mod_compare_67 : decode b_Mod_compare 67 = .ok (.iload_n 3, 1) := by decide +kernel
theorem d_Mod_compare_68 : decode b_Mod_compare 68 = .ok (.iaload, 1) := by decide +kernel
theorem d_Mod_compare_69 : decode b_Mod_compare 69 = .ok (.if_icmp .ge 70, 3) := by decide +kernel
theorem d_Mod_compare_72 : decode b_Mod_compare 72 = .ok (.aload_n 0, 1) := by decide +kernel
theorem d_Mod_compare_73 : decode b_Mod_compare 73 = .ok (.getfield 183, 3) := by decide +kernel
theorem d_Mod_compare_76 : decode b_Mod_compare 76 = .ok (.aload_n 0, 1) := by decide +kernel
theorem d_Mod_compare_77 : decode b_Mod_compare 77 = .ok (.getfield 176, 3) := by decide +kernel
theorem d_Mod_compare_80 : decode b_Mod_compare 80 = .ok (.iload_n 2, 1) := by decide +kernel
theorem d_Mod_compare_81 : decode b_Mod_compare 81 = .ok (.iaload, 1) := by decide +kernel
theorem d_Mod_compare_82 : decode b_Mod_compare 82 = .ok (.iload 4, 2) := by decide +kernel
theorem d_Mod_compare_84 : decode b_Mod_compare 84 = .ok (.iadd, 1) := by decide +kernel
theorem d_Mod_compare_85 : decode b_Mod_compare 85 = .ok (.iaload, 1) := by decide +kernel
theorem d_Mod_compare_86 : decode b_Mod_compare 86 = .ok (.aload_n 0, 1) := by decide +kernel
theorem d_Mod_compare_87 : decode b_Mod_compare 87 = .ok (.getfield 183, 3) := by decide +kernel
theorem d_Mod_compare_90 : decode b_Mod_compare 90 = .ok (.aload_n 0, 1) := by decide +kernel
theorem d_Mod_compare_91 : decode b_Mod_compare 91 = .ok (.getfield 176, 3) := by decide +kernel
theorem d_Mod_compare_94 : decode b_Mod_compare 94 = .ok (.iload_n 3, 1) := by decide +kernel
theorem d_Mod_compare_95 : decode b_Mod_compare 95 = .ok (.iaload, 1) := by decide +kernel
theorem d_Mod_compare_96 : decode b_Mod_compare 96 = .ok (.iload 4, 2) := by decide +kernel
theorem d_Mod_compare_98 : decode b_Mod_compare 98 = .ok (.iadd, 1) := by decide +kernel
theorem d_Mod_compare_99 : decode b_Mod_compare 99 = .ok (.iaload, 1) := by decide +kernel
theorem d_Mod_compare_100 : decode b_Mod_compare 100 = .ok (.if_icmp .eq 33, 3) := by decide +kernel
theorem d_Mod_compare_133 : decode b_Mod_compare 133 = .ok (.iinc 4 1, 3) := by decide +kernel
theorem d_Mod_compare_136 : decode b_Mod_compare 136 = .ok (.goto (-86), 3) := by decide +kernel
theorem d_Mod_compare_103 : decode b_Mod_compare 103 = .ok (.aload_n 0, 1) := by decide +kernel
theorem d_Mod_compare_104 : decode b_Mod_compare 104 = .ok (.getfield 183, 3) := by decide +kernel
theorem d_Mod_compare_107 : decode b_Mod_compare 107 = .ok (.aload_n 0, 1) := by decide +kernel
theorem d_Mod_compare_108 : decode b_Mod_compare 108 = .ok (.getfield 176, 3) := by decide +kernel
theorem d_Mod_compare_111 : decode b_Mod_compare 111 = .ok (.iload_n 2, 1) := by decide +kernel
theorem d_Mod_compare_112 : decode b_Mod_compare 112 = .ok (.iaload, 1) := by decide +kernel
theorem d_Mod_compare_113 : decode b_Mod_compare 113 = .ok (.iload 4, 2) := by decide +kernel
theorem d_Mod_compare_115 : decode b_Mod_compare 115 = .ok (.iadd, 1) := by decide +kernel
theorem d_Mod_compare_116 : decode b_Mod_compare 116 = .ok (.iaload, 1) := by decide +kernel
theorem d_Mod_compare_117 : decode b_Mod_compare 117 = .ok (.aload_n 0, 1) := by decide +kernel
theorem d_Mod_compare_118 : decode b_Mod_compare 118 = .ok (.getfield 183, 3) := by decide +kernel
theorem d_Mod_compare_121 : decode b_Mod_compare 121 = .ok (.aload_n 0, 1) := by decide +kernel
theorem d_Mod_compare_122 : decode b_Mod_compare 122 = .ok (.getfield 176, 3) := by decide +kernel
theorem d_Mod_compare_125 : decode b_Mod_compare 125 = .ok (.iload_n 3, 1) := by decide +kernel
theorem d_Mod_compare_126 : decode b_Mod_compare 126 = .ok (.iaload, 1) := by decide +kernel
theorem d_Mod_compare_127 : decode b_Mod_compare 127 = .ok (.iload 4, 2) := by decide +kernel
theorem d_Mod_compare_129 : decode b_Mod_compare 129 = .ok (.iadd, 1) := by decide +kernel
theorem d_Mod_compare_130 : decode b_Mod_compare 130 = .ok (.iaload, 1) := by decide +kernel
theorem d_Mod_compare_131 : decode b_Mod_compare 131 = .ok (.isub, 1) := by decide +kernel
theorem d_Mod_compare_132 : decode b_Mod_compare 132 = .ok (.ireturn, 1) := by decide +kernel
theorem d_Mod_compare_0 : decode b_Mod_compare 0 = .ok (.iload_n 1, 1) := by decide +kernel
theorem d_Mod_compare_1 : decode b_Mod_compare 1 = .ok (.iconst 3, 1) := by decide +kernel
theorem d_Mod_compare_2 : decode b_Mod_compare 2 = .ok (.if_icmp .eq 45, 3) := by decide +kernel
theorem d_Mod_compare_47 : decode b_Mod_compare 47 = .ok (.iconst 0, 1) := by decide +kernel
theorem d_Mod_compare_48 : decode b_Mod_compare 48 = .ok (.istore 4, 2) := by decide +kernel
theorem d_Mod_compare_5 : decode b_Mod_compare 5 = .ok (.aload_n 0, 1) := by decide +kernel
theorem d_Mod_compare_6 : decode b_Mod_compare 6 = .ok (.getfield 173, 3) := by decide +kernel
theorem d_Mod_compare_9 : decode b_Mod_compare 9 = .ok (.iload_n 2, 1) := by decide +kernel
theorem d_Mod_compare_10 : decode b_Mod_compare 10 = .ok (.laload, 1) := by decide +kernel
theorem d_Mod_compare_11 : decode b_Mod_compare 11 = .ok (.aload_n 0, 1) := by decide +kernel
theorem d_Mod_compare_12 : decode b_Mod_compare 12 = .ok (.getfield 173, 3) := by decide +kernel
theorem d_Mod_compare_15 : decode b_Mod_compare 15 = .ok (.iload_n 3, 1) := by decide +kernel
theorem d_Mod_compare_16 : decode b_Mod_compare 16 = .ok (.laload, 1) := by decide +kernel
theorem d_Mod_compare_17 : decode b_Mod_compare 17 = .ok (.lcmp, 1) := by decide +kernel
theorem d_Mod_compare_18 : decode b_Mod_compare 18 = .ok (.ifCond .ge 7, 3) := by decide +kernel
theorem d_Mod_compare_25 : decode b_Mod_compare 25 = .ok (.aload_n 0, 1) := by decide +kernel
theorem d_Mod_compare_26 : decode b_Mod_compare 26 = .ok (.getfield 173, 3) := by decide +kernel
theorem d_Mod_compare_29 : decode b_Mod_compare 29 = .ok (.iload_n 2, 1) := by decide +kernel
theorem d_Mod_compare_30 : decode b_Mod_compare 30 = .ok (.laload, 1) := by decide +kernel
theorem d_Mod_compare_31 : decode b_Mod_compare 31 = .ok (.aload_n 0, 1) := by decide +kernel
theorem d_Mod_compare_32 : decode b_Mod_compare 32 = .ok (.getfield 173, 3) := by decide +kernel
theorem d_Mod_compare_35 : decode b_Mod_compare 35 = .ok (.iload_n 3, 1) := by decide +kernel
theorem d_Mod_compare_36 : decode b_Mod_compare 36 = .ok (.laload, 1) := by decide +kernel
theorem d_Mod_compare_37 : decode b_Mod_compare 37 = .ok (.lcmp, 1) := by decide +kernel
theorem d_Mod_compare_38 : decode b_Mod_compare 38 = .ok (.ifCond .le 7, 3) := by decide +kernel
theorem d_Mod_compare_45 : decode b_Mod_compare 45 = .ok (.iconst 0, 1) := by decide +kernel
theorem d_Mod_compare_46 : decode b_Mod_compare 46 = .ok (.ireturn, 1) := by decide +kernel
theorem d_Mod_compare_41 : decode b_Mod_compare 41 = .ok (.iconst 1, 1) := by decide +kernel
theorem d_Mod_compare_42 : decode b_Mod_compare 42 = .ok (.goto 4, 3) := by decide +kernel
theorem d_Mod_compare_21 : decode b_Mod_compare 21 = .ok (.iconst (-1), 1) := by decide +kernel
theorem d_Mod_compare_22 : decode b_Mod_compare 22 = .ok (.goto 24, 3) := by decide +kernel
section
variable (l : Launch) (dC : Nat → ClassId) (dI : Nat → Nat → Nat) (cI cB cJ cZ : ClassId)
set_option maxRecDepth 100000 in
set_option maxHeartbeats 4000000 in
set_option maxRecDepth 100000 in
theorem t_Mod_readPage_282 {p : Program} {l : Launch} {e : Env} {R : Room} {s : State} {m : MethodId} {args : Array Value} {below : List Frame} {meth : Method} {c : Code} {cells slots : Nat} {Q : State → Prop} {dC : Nat → ClassId} {dI : Nat → Nat → Nat} {cI cB cJ cZ : ClassId} {A : Nat → Prop} {ad : Nat → Nat} {post : St → Prop} (hx : p.tables.exec = Jvm.exec) (hb : c.code = b_Mod_readPage) (hml : c.maxLocals = 10) (hown : s.vm.findClass R_Mod = some m.cls) (hT : ∀ w ∈ TG, w.before args s = true) (hK : va_K (dC, dI) CL (TY cI cB cJ cZ) s) (hN : NW s) (hA : ∀ q : Nat, s.heap.size ≤ q → A q) (hRc : cells ≤ R.cells) (hRs : slots ≤ R.slots) (hRf : 7 ≤ R.frames) (hRl : 175 ≤ R.locals) (hret : ∀ (x : St) (H : Heap) (locs : List Loc) (pc : Nat) (ls : Array Slot), decode b_Mod_readPage pc = .ok (.return_, 1) → post x → Wd dC dI cI cB cJ cZ ad stM kcM 115 A x H → va_S A s.heap H locs → W p l e R s m args below meth c H locs cells slots Q (F0 m pc ls []))  : ∀ (l1 : Int32) (l2 : Int64) (l4 : Int64) (l6 : Int32) (l7 : Int64) (l9 : Int32) (x : St) (H : Heap) (locs : List Loc) (ls : Array Slot), j_Mod_readPage_282 post l1 l2 l4 l6 l7 l9 x → Wd dC dI cI cB cJ cZ ad stM kcM 115 A x H → va_S A s.heap H locs → lv_has ls 10 [(0, .ref (ad 0)), (1, .int l1), (2, .long l2), (4, .long l4), (6, .int l6), (7, .long l7), (9, .int l9)] → W p l e R s m args below meth c H locs cells slots Q (F0 m 282 ls []) := by
  intro l1 l2 l4 l6 l7 l9 x H locs ls  hw hW hS hl
  unfold j_Mod_readPage_282 at hw
  refine lv_aload_n hx hb d_Mod_readPage_282 rfl (lv_at hl 0 rfl) ?_
  refine lv_lload_n hx hb d_Mod_readPage_283 rfl (lv_at hl 2 rfl) ?_
  refine lv_l2i hx hb d_Mod_readPage_284 rfl ?_
  refine w_puti (ty := .int) (k := 41) (t := 12) (C := R_Mod) (T := F_Mod) (N := 167) hx hb hT hown hK hW hS ko_0.1 ko_0.2 (by decide) in_Mod t_Mod t_Mod_ok n_Mod rfl rfl (by decide) rfl fr_Mod_41 w_8_217 (by decide +kernel) rfl rfl d_Mod_readPage_285 (fun H locs hW hS => ?_)
  obtain ⟨x1500, ex1500⟩ : ∃ y : St, y = setI x 0 41 (l2 : Int64).toInt32 := ⟨_, rfl⟩
  rw [← ex1500] at hW
  have hw := hw x1500 ex1500
  refine lv_aload_n hx hb d_Mod_readPage_288 rfl (lv_at hl 0 rfl) ?_
  refine lv_lload_n hx hb d_Mod_readPage_289 rfl (lv_at hl 2 rfl) ?_
  refine lv_lload hx hb d_Mod_readPage_290 (lv_at hl 3 rfl) ?_
  refine lv_lsub hx hb d_Mod_readPage_292 ?_
  refine lv_l2i hx hb d_Mod_readPage_293 rfl ?_
  refine w_puti (ty := .int) (k := 42) (t := 12) (C := R_Mod) (T := F_Mod) (N := 167) hx hb hT hown hK hW hS ko_0.1 ko_0.2 (by decide) in_Mod t_Mod t_Mod_ok n_Mod rfl rfl (by decide) rfl fr_Mod_42 w_8_218 (by decide +kernel) rfl rfl d_Mod_readPage_294 (fun H locs hW hS => ?_)
  obtain ⟨x1501, ex1501⟩ : ∃ y : St, y = setI x1500 0 42 ((l2 - l4) : Int64).toInt32 := ⟨_, rfl⟩
  rw [← ex1501] at hW
  have hw := hw x1501 ex1501
  refine lv_aload_n hx hb d_Mod_readPage_297 rfl (lv_at hl 0 rfl) ?_
  refine lv_iload hx hb d_Mod_readPage_298 (lv_at hl 4 rfl) ?_
  refine w_puti (ty := .int) (k := 43) (t := 12) (C := R_Mod) (T := F_Mod) (N := 167) hx hb hT hown hK hW hS ko_0.1 ko_0.2 (by decide) in_Mod t_Mod t_Mod_ok n_Mod rfl rfl (by decide) rfl fr_Mod_43 w_8_219 (by decide +kernel) rfl rfl d_Mod_readPage_300 (fun H locs hW hS => ?_)
  obtain ⟨x1502, ex1502⟩ : ∃ y : St, y = setI x1501 0 43 l6 := ⟨_, rfl⟩
  rw [← ex1502] at hW
  have hw := hw x1502 ex1502
  refine lv_aload_n hx hb d_Mod_readPage_303 rfl (lv_at hl 0 rfl) ?_
  refine lv_aload_n hx hb d_Mod_readPage_304 rfl (lv_at hl 0 rfl) ?_
  refine w_geti (k := 68) (t := 12) (C := R_Mod) (T := F_Mod) (N := 167) hx hb hT hown hK hW ko_0.1 ko_0.2 (by decide) in_Mod rfl rfl (by decide) rfl fr_Mod_68 w_9_4 d_Mod_readPage_305 ?_
  refine w_puti (ty := .int) (k := 67) (t := 12) (C := R_Mod) (T := F_Mod) (N := 167) hx hb hT hown hK hW hS ko_0.1 ko_0.2 (by decide) in_Mod t_Mod t_Mod_ok n_Mod rfl rfl (by decide) rfl fr_Mod_67 w_9_3 (by decide +kernel) rfl rfl d_Mod_readPage_308 (fun H locs hW hS => ?_)
  obtain ⟨x1503, ex1503⟩ : ∃ y : St, y = setI x1502 0 67 (fI x1502 0 68) := ⟨_, rfl⟩
  rw [← ex1503] at hW
  have hw := hw x1503 ex1503
  exact hret x1503 H locs 311 ls d_Mod_readPage_311 hw hW hS
set_option maxRecDepth 100000 in
set_option maxHeartbeats 4000000 in
set_option maxRecDepth 100000 in
theorem t_Mod_readPage_257 {p : Program} {l : Launch} {e : Env} {R : Room} {s : State} {m : MethodId} {args : Array Value} {below : List Frame} {meth : Method} {c : Code} {cells slots : Nat} {Q : State → Prop} {dC : Nat → ClassId} {dI : Nat → Nat → Nat} {cI cB cJ cZ : ClassId} {A : Nat → Prop} {ad : Nat → Nat} {post : St → Prop} (hx : p.tables.exec = Jvm.exec) (hb : c.code = b_Mod_readPage) (hml : c.maxLocals = 10) (hown : s.vm.findClass R_Mod = some m.cls) (hT : ∀ w ∈ TG, w.before args s = true) (hK : va_K (dC, dI) CL (TY cI cB cJ cZ) s) (hN : NW s) (hA : ∀ q : Nat, s.heap.size ≤ q → A q) (hRc : cells ≤ R.cells) (hRs : slots ≤ R.slots) (hRf : 7 ≤ R.frames) (hRl : 175 ≤ R.locals) (hret : ∀ (x : St) (H : Heap) (locs : List Loc) (pc : Nat) (ls : Array Slot), decode b_Mod_readPage pc = .ok (.return_, 1) → post x → Wd dC dI cI cB cJ cZ ad stM kcM 115 A x H → va_S A s.heap H locs → W p l e R s m args below meth c H locs cells slots Q (F0 m pc ls []))  : ∀ (l1 : Int32) (l2 : Int64) (l4 : Int64) (l6 : Int32) (l7 : Int64) (l9 : Int32) (s0 : Int32) (x : St) (H : Heap) (locs : List Loc) (ls : Array Slot), j_Mod_readPage_257 post l1 l2 l4 l6 l7 l9 s0 x → Wd dC dI cI cB cJ cZ ad stM kcM 115 A x H → va_S A s.heap H locs → lv_has ls 10 [(0, .ref (ad 0)), (1, .int l1), (2, .long l2), (4, .long l4), (6, .int l6), (7, .long l7), (9, .int l9)] → W p l e R s m args below meth c H locs cells slots Q (F0 m 257 ls [.int s0, .ref (ad 0)]) := by
  intro l1 l2 l4 l6 l7 l9 s0 x H locs ls  hw hW hS hl
  unfold j_Mod_readPage_257 at hw
  refine lv_bipush (v := 8) hx hb d_Mod_readPage_257 (by decide) ?_
  have hF := hW.free hS hA
  refine va_callv (va_runV (C := R_Mod) (As := [.int s0, .int 8]) (rest := []) ⟨hx, hb, hml, hown, hT⟩ (k_Mod_faults l dC dI cI cB cJ cZ ad H.size s0 8 x  hw) ⟨callB_of 2 hT (gwt_in w_12_107) rfl rfl rfl (hT _ w_1_15) (hT _ w_12_104) (by decide +kernel) ⟨Nat.le_trans (Nat.le_of_ble_eq_true rfl) hRf, Nat.le_trans (Nat.le_of_ble_eq_true rfl) hRl⟩, hT _ w_12_106, hT _ ws_183⟩ ⟨PW.blind, va_recv hK hW.1 (ci := 12) (q0 := 0) rfl (pic_obj ko_0.1 ko_0.2 (by decide)), PW.at _ hW hK hN⟩ rfl rfl hl.1 rfl (lv_room (Nat.le_of_ble_eq_true rfl)) d_Mod_readPage_259 ⟨hRc, hRs⟩) hS (fun q _ h => hF q h) hF (fun  x1504 t H locs ht hvm hw hB hz1 hk1 hS => ?_)
  have hW := Wd.back hB ht hF
  clear hB ht hF hz1 hk1 hvm
  refine lv_aload_n hx hb d_Mod_readPage_262 rfl (lv_at hl 0 rfl) ?_
  refine w_geti (k := 69) (t := 12) (C := R_Mod) (T := F_Mod) (N := 167) hx hb hT hown hK hW ko_0.1 ko_0.2 (by decide) in_Mod rfl rfl (by decide) rfl fr_Mod_69 w_9_5 d_Mod_readPage_263 ?_
  refine lv_if_ne (tgt := 282) hx hb d_Mod_readPage_266 (by decide) (fun c1505 => ?_) (fun c1505 => ?_)
  · have hw := hw.1 c1505
    exact t_Mod_readPage_282 hx hb hml hown hT hK hN hA hRc hRs hRf hRl hret  l1 l2 l4 l6 l7 l9 x1504 H locs ls  hw hW hS (lv_sub hl [0, 1, 2, 3, 4, 5, 6] rfl)
  · have hw := hw.2 c1505
    refine lv_aload_n hx hb d_Mod_readPage_269 rfl (lv_at hl 0 rfl) ?_
    refine lv_lload_n hx hb d_Mod_readPage_270 rfl (lv_at hl 2 rfl) ?_
    refine lv_l2i hx hb d_Mod_readPage_271 rfl ?_
    refine lv_lload_n hx hb d_Mod_readPage_272 rfl (lv_at hl 2 rfl) ?_
    refine lv_lload hx hb d_Mod_readPage_273 (lv_at hl 3 rfl) ?_
    refine lv_lsub hx hb d_Mod_readPage_275 ?_
    refine lv_l2i hx hb d_Mod_readPage_276 rfl ?_
    refine lv_iload hx hb d_Mod_readPage_277 (lv_at hl 4 rfl) ?_
    have hF := hW.free hS hA
    refine va_callv (va_runV (C := R_Mod) (As := [.int (l2 : Int64).toInt32, .int ((l2 - l4) : Int64).toInt32, .int l6]) (rest := []) ⟨hx, hb, hml, hown, hT⟩ (k_Mod_readBody l dC dI cI cB cJ cZ ad H.size (l2 : Int64).toInt32 ((l2 - l4) : Int64).toInt32 l6 x1504  hw) ⟨callB_of 3 hT (gwt_in w_12_173) rfl rfl rfl (hT _ w_1_15) (hT _ w_12_170) (by decide +kernel) ⟨Nat.le_trans (Nat.le_of_ble_eq_true rfl) hRf, Nat.le_trans (Nat.le_of_ble_eq_true rfl) hRl⟩, hT _ w_12_172, hT _ ws_197⟩ ⟨PW.blind, va_recv hK hW.1 (ci := 12) (q0 := 0) rfl (pic_obj ko_0.1 ko_0.2 (by decide)), PW.at _ hW hK hN⟩ rfl rfl hl.1 rfl (lv_room (Nat.le_of_ble_eq_true rfl)) d_Mod_readPage_279 ⟨hRc, hRs⟩) hS (fun q _ h => hF q h) hF (fun  x1506 t H locs ht hvm hw hB hz1 hk1 hS => ?_)
    have hW := Wd.back hB ht hF
    clear hB ht hF hz1 hk1 hvm
    exact t_Mod_readPage_282 hx hb hml hown hT hK hN hA hRc hRs hRf hRl hret  l1 l2 l4 l6 l7 l9 x1506 H locs ls  hw hW hS (lv_sub hl [0, 1, 2, 3, 4, 5, 6] rfl)
set_option maxRecDepth 100000 in
set_option maxHeartbeats 4000000 in
set_option maxRecDepth 100000 in
theorem t_Mod_readPage_207 {p : Program} {l : Launch} {e : Env} {R : Room} {s : State} {m : MethodId} {args : Array Value} {below : List Frame} {meth : Method} {c : Code} {cells slots : Nat} {Q : State → Prop} {dC : Nat → ClassId} {dI : Nat → Nat → Nat} {cI cB cJ cZ : ClassId} {A : Nat → Prop} {ad : Nat → Nat} {post : St → Prop} (hx : p.tables.exec = Jvm.exec) (hb : c.code = b_Mod_readPage) (hml : c.maxLocals = 10) (hown : s.vm.findClass R_Mod = some m.cls) (hT : ∀ w ∈ TG, w.before args s = true) (hK : va_K (dC, dI) CL (TY cI cB cJ cZ) s) (hN : NW s) (hA : ∀ q : Nat, s.heap.size ≤ q → A q) (hRc : cells ≤ R.cells) (hRs : slots ≤ R.slots) (hRf : 7 ≤ R.frames) (hRl : 175 ≤ R.locals) (hret : ∀ (x : St) (H : Heap) (locs : List Loc) (pc : Nat) (ls : Array Slot), decode b_Mod_readPage pc = .ok (.return_, 1) → post x → Wd dC dI cI cB cJ cZ ad stM kcM 115 A x H → va_S A s.heap H locs → W p l e R s m args below meth c H locs cells slots Q (F0 m pc ls []))  : ∀ (l1 : Int32) (l2 : Int64) (l4 : Int64) (l6 : Int32) (l7 : Int64) (l9 : Int32) (s0 : Int32) (x : St) (H : Heap) (locs : List Loc) (ls : Array Slot), j_Mod_readPage_207 post l1 l2 l4 l6 l7 l9 s0 x → Wd dC dI cI cB cJ cZ ad stM kcM 115 A x H → va_S A s.heap H locs → lv_has ls 10 [(0, .ref (ad 0)), (1, .int l1), (2, .long l2), (4, .long l4), (6, .int l6), (7, .long l7), (9, .int l9)] → W p l e R s m args below meth c H locs cells slots Q (F0 m 207 ls [.int s0, .ref (ad 0)]) := by
  intro l1 l2 l4 l6 l7 l9 s0 x H locs ls  hw hW hS hl
  unfold j_Mod_readPage_207 at hw
  refine lv_iconst (v := 1) hx hb d_Mod_readPage_207 (by decide) ?_
  have hF := hW.free hS hA
  refine va_callv (va_runV (C := R_Mod) (As := [.int s0, .int 1]) (rest := []) ⟨hx, hb, hml, hown, hT⟩ (k_Mod_faults l dC dI cI cB cJ cZ ad H.size s0 1 x  hw) ⟨callB_of 2 hT (gwt_in w_12_107) rfl rfl rfl (hT _ w_1_15) (hT _ w_12_104) (by decide +kernel) ⟨Nat.le_trans (Nat.le_of_ble_eq_true rfl) hRf, Nat.le_trans (Nat.le_of_ble_eq_true rfl) hRl⟩, hT _ w_12_106, hT _ ws_183⟩ ⟨PW.blind, va_recv hK hW.1 (ci := 12) (q0 := 0) rfl (pic_obj ko_0.1 ko_0.2 (by decide)), PW.at _ hW hK hN⟩ rfl rfl hl.1 rfl (lv_room (Nat.le_of_ble_eq_true rfl)) d_Mod_readPage_208 ⟨hRc, hRs⟩) hS (fun q _ h => hF q h) hF (fun  x1507 t H locs ht hvm hw hB hz1 hk1 hS => ?_)
  have hW := Wd.back hB ht hF
  clear hB ht hF hz1 hk1 hvm
  refine lv_aload_n hx hb d_Mod_readPage_211 rfl (lv_at hl 0 rfl) ?_
  refine w_geti (k := 69) (t := 12) (C := R_Mod) (T := F_Mod) (N := 167) hx hb hT hown hK hW ko_0.1 ko_0.2 (by decide) in_Mod rfl rfl (by decide) rfl fr_Mod_69 w_9_5 d_Mod_readPage_212 ?_
  refine lv_if_eq (tgt := 219) hx hb d_Mod_readPage_215 (by decide) (fun c1508 => ?_) (fun c1508 => ?_)
  · have hw := hw.1 c1508
    refine lv_aload_n hx hb d_Mod_readPage_219 rfl (lv_at hl 0 rfl) ?_
    refine lv_aload_n hx hb d_Mod_readPage_220 rfl (lv_at hl 0 rfl) ?_
    refine w_geti (k := 67) (t := 12) (C := R_Mod) (T := F_Mod) (N := 167) hx hb hT hown hK hW ko_0.1 ko_0.2 (by decide) in_Mod rfl rfl (by decide) rfl fr_Mod_67 w_9_3 d_Mod_readPage_221 ?_
    refine lv_lload hx hb d_Mod_readPage_224 (lv_at hl 5 rfl) ?_
    refine lv_l2i hx hb d_Mod_readPage_226 rfl ?_
    refine lv_iadd hx hb d_Mod_readPage_227 ?_
    refine w_puti (ty := .int) (k := 68) (t := 12) (C := R_Mod) (T := F_Mod) (N := 167) hx hb hT hown hK hW hS ko_0.1 ko_0.2 (by decide) in_Mod t_Mod t_Mod_ok n_Mod rfl rfl (by decide) rfl fr_Mod_68 w_9_4 (by decide +kernel) rfl rfl d_Mod_readPage_228 (fun H locs hW hS => ?_)
    obtain ⟨x1509, ex1509⟩ : ∃ y : St, y = setI x1507 0 68 ((fI x1507 0 67) + (l7 : Int64).toInt32) := ⟨_, rfl⟩
    rw [← ex1509] at hW
    have hw := hw x1509 ex1509
    refine lv_aload_n hx hb d_Mod_readPage_231 rfl (lv_at hl 0 rfl) ?_
    refine lv_aload_n hx hb d_Mod_readPage_232 rfl (lv_at hl 0 rfl) ?_
    refine w_getf (q := 41) (k := 62) (t := 12) (C := R_Mod) (T := F_Mod) (N := 167) hx hb hT hown hK hW ko_0.1 ko_0.2 (by decide) in_Mod rfl rfl (by decide) rfl fr_Mod_62 w_8_238 d_Mod_readPage_233 rfl ?_
    refine lv_aload_n hx hb d_Mod_readPage_236 rfl (lv_at hl 0 rfl) ?_
    refine w_geti (k := 67) (t := 12) (C := R_Mod) (T := F_Mod) (N := 167) hx hb hT hown hK hW ko_0.1 ko_0.2 (by decide) in_Mod rfl rfl (by decide) rfl fr_Mod_67 w_9_3 d_Mod_readPage_237 ?_
    refine lv_aload_n hx hb d_Mod_readPage_240 rfl (lv_at hl 0 rfl) ?_
    refine w_geti (k := 68) (t := 12) (C := R_Mod) (T := F_Mod) (N := 167) hx hb hT hown hK hW ko_0.1 ko_0.2 (by decide) in_Mod rfl rfl (by decide) rfl fr_Mod_68 w_9_4 d_Mod_readPage_241 ?_
    have hF := hW.free hS hA
    refine va_calli (va_runS (As := [.ref (ad 41), .int (fI x1509 0 67), .int (fI x1509 0 68)]) (rest := [.ref (ad 0)]) ⟨hx, hb, hml, hown, hT⟩ (k_Mod_check l dC dI cI cB cJ cZ ad H.size 41 (fI x1509 0 67) (fI x1509 0 68) x1509 ko_41 hw) ⟨callB_of 3 hT (gwt_in w_12_50) rfl rfl rfl (hT _ w_1_15) (hT _ w_12_48) (by decide +kernel) ⟨Nat.le_trans (Nat.le_of_ble_eq_true rfl) hRf, Nat.le_trans (Nat.le_of_ble_eq_true rfl) hRl⟩, hT _ w_12_49⟩ ⟨PW.blind, PW.at _ hW hK hN⟩ rfl rfl hl.1 rfl (lv_room (Nat.le_of_ble_eq_true rfl)) d_Mod_readPage_244 ⟨hRc, hRs⟩) hS (fun q _ h => hF q h) hF (fun r1511 x1510 t H locs ht hvm hw hB hz1 hk1 hS => ?_)
    have hW := Wd.back hB ht hF
    clear hB ht hF hz1 hk1 hvm
    refine lv_iload hx hb d_Mod_readPage_247 (lv_at hl 6 rfl) ?_
    refine lv_icmp_eq (tgt := 256) hx hb d_Mod_readPage_249 (by decide) (fun c1512 => ?_) (fun c1512 => ?_)
    · have hw := hw.1 c1512
      refine lv_iconst (v := 0) hx hb d_Mod_readPage_256 (by decide) ?_
      exact t_Mod_readPage_257 hx hb hml hown hT hK hN hA hRc hRs hRf hRl hret  l1 l2 l4 l6 l7 l9 0 x1510 H locs ls  hw hW hS (lv_sub hl [0, 1, 2, 3, 4, 5, 6] rfl)
    · have hw := hw.2 c1512
      refine lv_iconst (v := 1) hx hb d_Mod_readPage_252 (by decide) ?_
      refine lv_goto (tgt := 257) hx hb d_Mod_readPage_253 (by decide) ?_
      exact t_Mod_readPage_257 hx hb hml hown hT hK hN hA hRc hRs hRf hRl hret  l1 l2 l4 l6 l7 l9 1 x1510 H locs ls  hw hW hS (lv_sub hl [0, 1, 2, 3, 4, 5, 6] rfl)
  · have hw := hw.2 c1508
    exact hret x1507 H locs 218 ls d_Mod_readPage_218 hw hW hS
set_option maxRecDepth 100000 in
set_option maxHeartbeats 4000000 in
set_option maxRecDepth 100000 in
theorem t_Mod_readPage_202 {p : Program} {l : Launch} {e : Env} {R : Room} {s : State} {m : MethodId} {args : Array Value} {below : List Frame} {meth : Method} {c : Code} {cells slots : Nat} {Q : State → Prop} {dC : Nat → ClassId} {dI : Nat → Nat → Nat} {cI cB cJ cZ : ClassId} {A : Nat → Prop} {ad : Nat → Nat} {post : St → Prop} (hx : p.tables.exec = Jvm.exec) (hb : c.code = b_Mod_readPage) (hml : c.maxLocals = 10) (hown : s.vm.findClass R_Mod = some m.cls) (hT : ∀ w ∈ TG, w.before args s = true) (hK : va_K (dC, dI) CL (TY cI cB cJ cZ) s) (hN : NW s) (hA : ∀ q : Nat, s.heap.size ≤ q → A q) (hRc : cells ≤ R.cells) (hRs : slots ≤ R.slots) (hRf : 7 ≤ R.frames) (hRl : 175 ≤ R.locals) (hret : ∀ (x : St) (H : Heap) (locs : List Loc) (pc : Nat) (ls : Array Slot), decode b_Mod_readPage pc = .ok (.return_, 1) → post x → Wd dC dI cI cB cJ cZ ad stM kcM 115 A x H → va_S A s.heap H locs → W p l e R s m args below meth c H locs cells slots Q (F0 m pc ls []))  : ∀ (l1 : Int32) (l2 : Int64) (l4 : Int64) (l6 : Int32) (l7 : Int64) (l9 : Int32) (x : St) (H : Heap) (locs : List Loc) (ls : Array Slot), j_Mod_readPage_202 post l1 l2 l4 l6 l7 l9 x → Wd dC dI cI cB cJ cZ ad stM kcM 115 A x H → va_S A s.heap H locs → lv_has ls 10 [(0, .ref (ad 0)), (1, .int l1), (2, .long l2), (4, .long l4), (6, .int l6), (7, .long l7), (9, .int l9)] → W p l e R s m args below meth c H locs cells slots Q (F0 m 202 ls [.ref (ad 0)]) := by
  intro l1 l2 l4 l6 l7 l9 x H locs ls  hw hW hS hl
  unfold j_Mod_readPage_202 at hw
  refine lv_iconst (v := 1) hx hb d_Mod_readPage_202 (by decide) ?_
  refine lv_goto (tgt := 207) hx hb d_Mod_readPage_203 (by decide) ?_
  exact t_Mod_readPage_207 hx hb hml hown hT hK hN hA hRc hRs hRf hRl hret  l1 l2 l4 l6 l7 l9 1 x H locs ls  hw hW hS (lv_sub hl [0, 1, 2, 3, 4, 5, 6] rfl)
set_option maxRecDepth 100000 in
set_option maxHeartbeats 4000000 in
set_option maxRecDepth 100000 in
theorem t_Mod_readPage_156 {p : Program} {l : Launch} {e : Env} {R : Room} {s : State} {m : MethodId} {args : Array Value} {below : List Frame} {meth : Method} {c : Code} {cells slots : Nat} {Q : State → Prop} {dC : Nat → ClassId} {dI : Nat → Nat → Nat} {cI cB cJ cZ : ClassId} {A : Nat → Prop} {ad : Nat → Nat} {post : St → Prop} (hx : p.tables.exec = Jvm.exec) (hb : c.code = b_Mod_readPage) (hml : c.maxLocals = 10) (hown : s.vm.findClass R_Mod = some m.cls) (hT : ∀ w ∈ TG, w.before args s = true) (hK : va_K (dC, dI) CL (TY cI cB cJ cZ) s) (hN : NW s) (hA : ∀ q : Nat, s.heap.size ≤ q → A q) (hRc : cells ≤ R.cells) (hRs : slots ≤ R.slots) (hRf : 7 ≤ R.frames) (hRl : 175 ≤ R.locals) (hret : ∀ (x : St) (H : Heap) (locs : List Loc) (pc : Nat) (ls : Array Slot), decode b_Mod_readPage pc = .ok (.return_, 1) → post x → Wd dC dI cI cB cJ cZ ad stM kcM 115 A x H → va_S A s.heap H locs → W p l e R s m args below meth c H locs cells slots Q (F0 m pc ls []))  : ∀ (l1 : Int32) (l2 : Int64) (l4 : Int64) (l6 : Int32) (l7 : Int32) (x : St) (H : Heap) (locs : List Loc) (ls : Array Slot), j_Mod_readPage_156 post l1 l2 l4 l6 l7 x → Wd dC dI cI cB cJ cZ ad stM kcM 115 A x H → va_S A s.heap H locs → lv_has ls 10 [(0, .ref (ad 0)), (1, .int l1), (2, .long l2), (4, .long l4), (6, .int l6), (7, .int l7)] → W p l e R s m args below meth c H locs cells slots Q (F0 m 156 ls []) := by
  intro l1 l2 l4 l6 l7 x H locs ls  hw hW hS hl
  unfold j_Mod_readPage_156 at hw
  refine lv_aload_n hx hb d_Mod_readPage_156 rfl (lv_at hl 0 rfl) ?_
  refine lv_aload_n hx hb d_Mod_readPage_157 rfl (lv_at hl 0 rfl) ?_
  refine w_geti (k := 68) (t := 12) (C := R_Mod) (T := F_Mod) (N := 167) hx hb hT hown hK hW ko_0.1 ko_0.2 (by decide) in_Mod rfl rfl (by decide) rfl fr_Mod_68 w_9_4 d_Mod_readPage_158 ?_
  have hF := hW.free hS hA
  refine va_calll (va_runV (C := R_Mod) (As := [.int (fI x 0 68)]) (rest := []) ⟨hx, hb, hml, hown, hT⟩ (k_Mod_varint l dC dI cI cB cJ cZ ad H.size (fI x 0 68) x  hw) ⟨callB_of 1 hT (gwt_in w_12_124) rfl rfl rfl (hT _ w_1_15) (hT _ w_12_121) (by decide +kernel) ⟨Nat.le_trans (Nat.le_of_ble_eq_true rfl) hRf, Nat.le_trans (Nat.le_of_ble_eq_true rfl) hRl⟩, hT _ w_12_123, hT _ ws_187⟩ ⟨PW.blind, va_recv hK hW.1 (ci := 12) (q0 := 0) rfl (pic_obj ko_0.1 ko_0.2 (by decide)), PW.at _ hW hK hN⟩ rfl rfl hl.1 rfl (lv_room (Nat.le_of_ble_eq_true rfl)) d_Mod_readPage_161 ⟨hRc, hRs⟩) hS (fun q _ h => hF q h) hF (fun r1514 x1513 t H locs ht hvm hw hB hz1 hk1 hS => ?_)
  have hW := Wd.back hB ht hF
  clear hB ht hF hz1 hk1 hvm
  refine lv_lstore (lv' := [(7, .long r1514), (0, .ref (ad 0)), (1, .int l1), (2, .long l2), (4, .long l4), (6, .int l6)]) hx hb d_Mod_readPage_164 hl (by decide) rfl (fun ls hl => ?_)
  refine lv_aload_n hx hb d_Mod_readPage_166 rfl (lv_at hl 1 rfl) ?_
  refine lv_iconst (v := 4) hx hb d_Mod_readPage_167 (by decide) ?_
  refine lv_aload_n hx hb d_Mod_readPage_168 rfl (lv_at hl 1 rfl) ?_
  refine w_geti (k := 68) (t := 12) (C := R_Mod) (T := F_Mod) (N := 167) hx hb hT hown hK hW ko_0.1 ko_0.2 (by decide) in_Mod rfl rfl (by decide) rfl fr_Mod_68 w_9_4 d_Mod_readPage_169 ?_
  have hF := hW.free hS hA
  refine va_calll (va_runV (C := R_Mod) (As := [.int 4, .int (fI x1513 0 68)]) (rest := []) ⟨hx, hb, hml, hown, hT⟩ (k_Mod_fixed l dC dI cI cB cJ cZ ad H.size 4 (fI x1513 0 68) x1513  hw) ⟨callB_of 2 hT (gwt_in w_12_111) rfl rfl rfl (hT _ w_1_15) (hT _ w_12_108) (by decide +kernel) ⟨Nat.le_trans (Nat.le_of_ble_eq_true rfl) hRf, Nat.le_trans (Nat.le_of_ble_eq_true rfl) hRl⟩, hT _ w_12_110, hT _ ws_184⟩ ⟨PW.blind, va_recv hK hW.1 (ci := 12) (q0 := 0) rfl (pic_obj ko_0.1 ko_0.2 (by decide)), PW.at _ hW hK hN⟩ rfl rfl hl.1 rfl (lv_room (Nat.le_of_ble_eq_true rfl)) d_Mod_readPage_172 ⟨hRc, hRs⟩) hS (fun q _ h => hF q h) hF (fun r1516 x1515 t H locs ht hvm hw hB hz1 hk1 hS => ?_)
  have hW := Wd.back hB ht hF
  clear hB ht hF hz1 hk1 hvm
  refine lv_l2i hx hb d_Mod_readPage_175 rfl ?_
  refine lv_topi (fun v1517 ev1517 => ?_)
  have hw := hw v1517 ev1517
  refine lv_istore (lv' := [(9, .int v1517), (7, .long r1514), (0, .ref (ad 0)), (1, .int l1), (2, .long l2), (4, .long l4), (6, .int l6)]) hx hb d_Mod_readPage_176 hl (by decide) rfl (fun ls hl => ?_)
  refine lv_aload_n hx hb d_Mod_readPage_178 rfl (lv_at hl 2 rfl) ?_
  refine lv_lload hx hb d_Mod_readPage_179 (lv_at hl 1 rfl) ?_
  refine lv_lconst (v := 0) hx hb d_Mod_readPage_181 (by decide) ?_
  refine W.lcmp hx hb d_Mod_readPage_182 ?_
  refine lv_if_lt (tgt := 202) hx hb d_Mod_readPage_183 (by decide) (fun c1518 => ?_) (fun c1518 => ?_)
  · have hw := hw.1 c1518
    exact t_Mod_readPage_202 hx hb hml hown hT hK hN hA hRc hRs hRf hRl hret  l1 l2 l4 l6 r1514 v1517 x1515 H locs ls  hw hW hS (lv_sub hl [2, 3, 4, 5, 6, 1, 0] rfl)
  · have hw := hw.2 c1518
    refine lv_lload hx hb d_Mod_readPage_186 (lv_at hl 1 rfl) ?_
    refine lv_aload_n hx hb d_Mod_readPage_188 rfl (lv_at hl 2 rfl) ?_
    refine w_geti (k := 68) (t := 12) (C := R_Mod) (T := F_Mod) (N := 167) hx hb hT hown hK hW ko_0.1 ko_0.2 (by decide) in_Mod rfl rfl (by decide) rfl fr_Mod_68 w_9_4 d_Mod_readPage_189 ?_
    refine lv_aload_n hx hb d_Mod_readPage_192 rfl (lv_at hl 2 rfl) ?_
    refine w_geti (k := 67) (t := 12) (C := R_Mod) (T := F_Mod) (N := 167) hx hb hT hown hK hW ko_0.1 ko_0.2 (by decide) in_Mod rfl rfl (by decide) rfl fr_Mod_67 w_9_3 d_Mod_readPage_193 ?_
    refine lv_isub hx hb d_Mod_readPage_196 ?_
    refine lv_i2l hx hb d_Mod_readPage_197 rfl ?_
    refine W.lcmp hx hb d_Mod_readPage_198 ?_
    refine lv_if_le (tgt := 206) hx hb d_Mod_readPage_199 (by decide) (fun c1519 => ?_) (fun c1519 => ?_)
    · have hw := hw.1 c1519
      refine lv_iconst (v := 0) hx hb d_Mod_readPage_206 (by decide) ?_
      exact t_Mod_readPage_207 hx hb hml hown hT hK hN hA hRc hRs hRf hRl hret  l1 l2 l4 l6 r1514 v1517 0 x1515 H locs ls  hw hW hS (lv_sub hl [2, 3, 4, 5, 6, 1, 0] rfl)
    · have hw := hw.2 c1519
      exact t_Mod_readPage_202 hx hb hml hown hT hK hN hA hRc hRs hRf hRl hret  l1 l2 l4 l6 r1514 v1517 x1515 H locs ls  hw hW hS (lv_sub hl [2, 3, 4, 5, 6, 1, 0] rfl)
set_option maxRecDepth 100000 in
set_option maxHeartbeats 4000000 in
set_option maxRecDepth 100000 in
theorem t_Mod_readPage_124 {p : Program} {l : Launch} {e : Env} {R : Room} {s : State} {m : MethodId} {args : Array Value} {below : List Frame} {meth : Method} {c : Code} {cells slots : Nat} {Q : State → Prop} {dC : Nat → ClassId} {dI : Nat → Nat → Nat} {cI cB cJ cZ : ClassId} {A : Nat → Prop} {ad : Nat → Nat} {post : St → Prop} {rec124 : Int32 → Int64 → Int64 → Int32 → Int32 → St → Prop} (hx : p.tables.exec = Jvm.exec) (hb : c.code = b_Mod_readPage) (hml : c.maxLocals = 10) (hown : s.vm.findClass R_Mod = some m.cls) (hT : ∀ w ∈ TG, w.before args s = true) (hK : va_K (dC, dI) CL (TY cI cB cJ cZ) s) (hN : NW s) (hA : ∀ q : Nat, s.heap.size ≤ q → A q) (hRc : cells ≤ R.cells) (hRs : slots ≤ R.slots) (hRf : 7 ≤ R.frames) (hRl : 175 ≤ R.locals) (hret : ∀ (x : St) (H : Heap) (locs : List Loc) (pc : Nat) (ls : Array Slot), decode b_Mod_readPage pc = .ok (.return_, 1) → post x → Wd dC dI cI cB cJ cZ ad stM kcM 115 A x H → va_S A s.heap H locs → W p l e R s m args below meth c H locs cells slots Q (F0 m pc ls [])) (hrec124 : ∀ (l1 : Int32) (l2 : Int64) (l4 : Int64) (l6 : Int32) (l7 : Int32) (x : St) (H : Heap) (locs : List Loc) (ls : Array Slot), rec124 l1 l2 l4 l6 l7 x → Wd dC dI cI cB cJ cZ ad stM kcM 115 A x H → va_S A s.heap H locs → lv_has ls 10 [(0, .ref (ad 0)), (1, .int l1), (2, .long l2), (4, .long l4), (6, .int l6), (7, .int l7)] → W p l e R s m args below meth c H locs cells slots Q (F0 m 124 ls [])) : ∀ (l1 : Int32) (l2 : Int64) (l4 : Int64) (l6 : Int32) (l7 : Int32) (x : St) (H : Heap) (locs : List Loc) (ls : Array Slot), j_Mod_readPage_124 post rec124 l1 l2 l4 l6 l7 x → Wd dC dI cI cB cJ cZ ad stM kcM 115 A x H → va_S A s.heap H locs → lv_has ls 10 [(0, .ref (ad 0)), (1, .int l1), (2, .long l2), (4, .long l4), (6, .int l6), (7, .int l7)] → W p l e R s m args below meth c H locs cells slots Q (F0 m 124 ls []) := by
  intro l1 l2 l4 l6 l7 x H locs ls  hw hW hS hl
  unfold j_Mod_readPage_124 at hw
  refine lv_iload hx hb d_Mod_readPage_124 (lv_at hl 5 rfl) ?_
  refine lv_iconst (v := 2) hx hb d_Mod_readPage_126 (by decide) ?_
  refine lv_icmp_ge (tgt := 156) hx hb d_Mod_readPage_127 (by decide) (fun c1520 => ?_) (fun c1520 => ?_)
  · have hw := hw.1 c1520
    exact t_Mod_readPage_156 hx hb hml hown hT hK hN hA hRc hRs hRf hRl hret  l1 l2 l4 l6 l7 x H locs ls  hw hW hS (lv_sub hl [0, 1, 2, 3, 4, 5] rfl)
  · have hw := hw.2 c1520
    refine lv_aload_n hx hb d_Mod_readPage_130 rfl (lv_at hl 0 rfl) ?_
    refine w_geti (k := 69) (t := 12) (C := R_Mod) (T := F_Mod) (N := 167) hx hb hT hown hK hW ko_0.1 ko_0.2 (by decide) in_Mod rfl rfl (by decide) rfl fr_Mod_69 w_9_5 d_Mod_readPage_131 ?_
    refine lv_if_ne (tgt := 156) hx hb d_Mod_readPage_134 (by decide) (fun c1521 => ?_) (fun c1521 => ?_)
    · have hw := hw.1 c1521
      exact t_Mod_readPage_156 hx hb hml hown hT hK hN hA hRc hRs hRf hRl hret  l1 l2 l4 l6 l7 x H locs ls  hw hW hS (lv_sub hl [0, 1, 2, 3, 4, 5] rfl)
    · have hw := hw.2 c1521
      refine lv_lload hx hb d_Mod_readPage_137 (lv_at hl 3 rfl) ?_
      refine lv_lload_n hx hb d_Mod_readPage_139 rfl (lv_at hl 2 rfl) ?_
      refine W.lcmp hx hb d_Mod_readPage_140 ?_
      refine lv_if_ge (tgt := 156) hx hb d_Mod_readPage_141 (by decide) (fun c1522 => ?_) (fun c1522 => ?_)
      · have hw := hw.1 c1522
        exact t_Mod_readPage_156 hx hb hml hown hT hK hN hA hRc hRs hRf hRl hret  l1 l2 l4 l6 l7 x H locs ls  hw hW hS (lv_sub hl [0, 1, 2, 3, 4, 5] rfl)
      · have hw := hw.2 c1522
        refine lv_aload_n hx hb d_Mod_readPage_144 rfl (lv_at hl 0 rfl) ?_
        refine lv_iload hx hb d_Mod_readPage_145 (lv_at hl 5 rfl) ?_
        have hF := hW.free hS hA
        refine va_callv (va_runV (C := R_Mod) (As := [.int l7]) (rest := []) ⟨hx, hb, hml, hown, hT⟩ (k_Mod_readTold l dC dI cI cB cJ cZ ad H.size l7 x  hw) ⟨callB_of 1 hT (gwt_in w_12_144) rfl rfl rfl (hT _ w_1_15) (hT _ w_12_141) (by decide +kernel) ⟨Nat.le_trans (Nat.le_of_ble_eq_true rfl) hRf, Nat.le_trans (Nat.le_of_ble_eq_true rfl) hRl⟩, hT _ w_12_143, hT _ ws_191⟩ ⟨PW.blind, va_recv hK hW.1 (ci := 12) (q0 := 0) rfl (pic_obj ko_0.1 ko_0.2 (by decide)), PW.at _ hW hK hN⟩ rfl rfl hl.1 rfl (lv_room (Nat.le_of_ble_eq_true rfl)) d_Mod_readPage_147 ⟨hRc, hRs⟩) hS (fun q _ h => hF q h) hF (fun  x1523 t H locs ht hvm hw hB hz1 hk1 hS => ?_)
        have hW := Wd.back hB ht hF
        clear hB ht hF hz1 hk1 hvm
        refine lv_iinc (v := (l7 + 1)) (lv' := [(7, .int (l7 + 1)), (0, .ref (ad 0)), (1, .int l1), (2, .long l2), (4, .long l4), (6, .int l6)]) hx hb d_Mod_readPage_150 hl (k := 5) rfl rfl (by decide) rfl (fun ls hl => ?_)
        refine lv_goto (tgt := 124) hx hb d_Mod_readPage_153 (by decide) ?_
        exact hrec124 l1 l2 l4 l6 (l7 + 1) x1523 H locs ls  hw hW hS (lv_sub hl [1, 2, 3, 4, 5, 0] rfl)
set_option maxHeartbeats 4000000 in
set_option maxRecDepth 100000 in
theorem tl_Mod_readPage_124 {p : Program} {l : Launch} {e : Env} {R : Room} {s : State} {m : MethodId} {args : Array Value} {below : List Frame} {meth : Method} {c : Code} {cells slots : Nat} {Q : State → Prop} {dC : Nat → ClassId} {dI : Nat → Nat → Nat} {cI cB cJ cZ : ClassId} {A : Nat → Prop} {ad : Nat → Nat} {post : St → Prop} (hx : p.tables.exec = Jvm.exec) (hb : c.code = b_Mod_readPage) (hml : c.maxLocals = 10) (hown : s.vm.findClass R_Mod = some m.cls) (hT : ∀ w ∈ TG, w.before args s = true) (hK : va_K (dC, dI) CL (TY cI cB cJ cZ) s) (hN : NW s) (hA : ∀ q : Nat, s.heap.size ≤ q → A q) (hRc : cells ≤ R.cells) (hRs : slots ≤ R.slots) (hRf : 7 ≤ R.frames) (hRl : 175 ≤ R.locals) (hret : ∀ (x : St) (H : Heap) (locs : List Loc) (pc : Nat) (ls : Array Slot), decode b_Mod_readPage pc = .ok (.return_, 1) → post x → Wd dC dI cI cB cJ cZ ad stM kcM 115 A x H → va_S A s.heap H locs → W p l e R s m args below meth c H locs cells slots Q (F0 m pc ls []))  : ∀ n : Nat, ∀ (l1 : Int32) (l2 : Int64) (l4 : Int64) (l6 : Int32) (l7 : Int32) (x : St) (H : Heap) (locs : List Loc) (ls : Array Slot), wl_Mod_readPage_124 post n l1 l2 l4 l6 l7 x → Wd dC dI cI cB cJ cZ ad stM kcM 115 A x H → va_S A s.heap H locs → lv_has ls 10 [(0, .ref (ad 0)), (1, .int l1), (2, .long l2), (4, .long l4), (6, .int l6), (7, .int l7)] → W p l e R s m args below meth c H locs cells slots Q (F0 m 124 ls []) := by
  intro n
  induction n with
  | zero => intro l1 l2 l4 l6 l7 x H locs ls  hw; exact hw.elim
  | succ n ih => intro l1 l2 l4 l6 l7 x H locs ls  hw hW hS hl; exact t_Mod_readPage_124 hx hb hml hown hT hK hN hA hRc hRs hRf hRl hret  ih l1 l2 l4 l6 l7 x H locs ls  hw hW hS hl
set_option maxRecDepth 100000 in
set_option maxHeartbeats 4000000 in
set_option maxRecDepth 100000 in
theorem t_Mod_readPage_116 {p : Program} {l : Launch} {e : Env} {R : Room} {s : State} {m : MethodId} {args : Array Value} {below : List Frame} {meth : Method} {c : Code} {cells slots : Nat} {Q : State → Prop} {dC : Nat → ClassId} {dI : Nat → Nat → Nat} {cI cB cJ cZ : ClassId} {A : Nat → Prop} {ad : Nat → Nat} {post : St → Prop} (hx : p.tables.exec = Jvm.exec) (hb : c.code = b_Mod_readPage) (hml : c.maxLocals = 10) (hown : s.vm.findClass R_Mod = some m.cls) (hT : ∀ w ∈ TG, w.before args s = true) (hK : va_K (dC, dI) CL (TY cI cB cJ cZ) s) (hN : NW s) (hA : ∀ q : Nat, s.heap.size ≤ q → A q) (hRc : cells ≤ R.cells) (hRs : slots ≤ R.slots) (hRf : 7 ≤ R.frames) (hRl : 175 ≤ R.locals) (hret : ∀ (x : St) (H : Heap) (locs : List Loc) (pc : Nat) (ls : Array Slot), decode b_Mod_readPage pc = .ok (.return_, 1) → post x → Wd dC dI cI cB cJ cZ ad stM kcM 115 A x H → va_S A s.heap H locs → W p l e R s m args below meth c H locs cells slots Q (F0 m pc ls []))  : ∀ (l1 : Int32) (l2 : Int64) (l4 : Int64) (l6 : Int32) (s0 : Int32) (x : St) (H : Heap) (locs : List Loc) (ls : Array Slot), j_Mod_readPage_116 post l1 l2 l4 l6 s0 x → Wd dC dI cI cB cJ cZ ad stM kcM 115 A x H → va_S A s.heap H locs → lv_has ls 10 [(0, .ref (ad 0)), (1, .int l1), (2, .long l2), (4, .long l4), (6, .int l6)] → W p l e R s m args below meth c H locs cells slots Q (F0 m 116 ls [.int s0, .ref (ad 0)]) := by
  intro l1 l2 l4 l6 s0 x H locs ls  hw hW hS hl
  unfold j_Mod_readPage_116 at hw
  refine lv_bipush (v := 7) hx hb d_Mod_readPage_116 (by decide) ?_
  have hF := hW.free hS hA
  refine va_callv (va_runV (C := R_Mod) (As := [.int s0, .int 7]) (rest := []) ⟨hx, hb, hml, hown, hT⟩ (k_Mod_faults l dC dI cI cB cJ cZ ad H.size s0 7 x  hw) ⟨callB_of 2 hT (gwt_in w_12_107) rfl rfl rfl (hT _ w_1_15) (hT _ w_12_104) (by decide +kernel) ⟨Nat.le_trans (Nat.le_of_ble_eq_true rfl) hRf, Nat.le_trans (Nat.le_of_ble_eq_true rfl) hRl⟩, hT _ w_12_106, hT _ ws_183⟩ ⟨PW.blind, va_recv hK hW.1 (ci := 12) (q0 := 0) rfl (pic_obj ko_0.1 ko_0.2 (by decide)), PW.at _ hW hK hN⟩ rfl rfl hl.1 rfl (lv_room (Nat.le_of_ble_eq_true rfl)) d_Mod_readPage_118 ⟨hRc, hRs⟩) hS (fun q _ h => hF q h) hF (fun  x1524 t H locs ht hvm hw hB hz1 hk1 hS => ?_)
  have hW := Wd.back hB ht hF
  clear hB ht hF hz1 hk1 hvm
  refine lv_iconst (v := 0) hx hb d_Mod_readPage_121 (by decide) ?_
  refine lv_istore (lv' := [(7, .int 0), (0, .ref (ad 0)), (1, .int l1), (2, .long l2), (4, .long l4), (6, .int l6)]) hx hb d_Mod_readPage_122 hl (by decide) rfl (fun ls hl => ?_)
  obtain ⟨n, hw⟩ := hw
  exact tl_Mod_readPage_124 hx hb hml hown hT hK hN hA hRc hRs hRf hRl hret  n l1 l2 l4 l6 0 x1524 H locs ls  hw hW hS (lv_sub hl [1, 2, 3, 4, 5, 0] rfl)
set_option maxRecDepth 100000 in
set_option maxHeartbeats 4000000 in
set_option maxRecDepth 100000 in
theorem t_Mod_readPage_84 {p : Program} {l : Launch} {e : Env} {R : Room} {s : State} {m : MethodId} {args : Array Value} {below : List Frame} {meth : Method} {c : Code} {cells slots : Nat} {Q : State → Prop} {dC : Nat → ClassId} {dI : Nat → Nat → Nat} {cI cB cJ cZ : ClassId} {A : Nat → Prop} {ad : Nat → Nat} {post : St → Prop} (hx : p.tables.exec = Jvm.exec) (hb : c.code = b_Mod_readPage) (hml : c.maxLocals = 10) (hown : s.vm.findClass R_Mod = some m.cls) (hT : ∀ w ∈ TG, w.before args s = true) (hK : va_K (dC, dI) CL (TY cI cB cJ cZ) s) (hN : NW s) (hA : ∀ q : Nat, s.heap.size ≤ q → A q) (hRc : cells ≤ R.cells) (hRs : slots ≤ R.slots) (hRf : 7 ≤ R.frames) (hRl : 175 ≤ R.locals) (hret : ∀ (x : St) (H : Heap) (locs : List Loc) (pc : Nat) (ls : Array Slot), decode b_Mod_readPage pc = .ok (.return_, 1) → post x → Wd dC dI cI cB cJ cZ ad stM kcM 115 A x H → va_S A s.heap H locs → W p l e R s m args below meth c H locs cells slots Q (F0 m pc ls []))  : ∀ (l1 : Int32) (l2 : Int64) (l4 : Int64) (s0 : Int32) (x : St) (H : Heap) (locs : List Loc) (ls : Array Slot), j_Mod_readPage_84 post l1 l2 l4 s0 x → Wd dC dI cI cB cJ cZ ad stM kcM 115 A x H → va_S A s.heap H locs → lv_has ls 10 [(0, .ref (ad 0)), (1, .int l1), (2, .long l2), (4, .long l4)] → W p l e R s m args below meth c H locs cells slots Q (F0 m 84 ls [.int s0, .ref (ad 0)]) := by
  intro l1 l2 l4 s0 x H locs ls  hw hW hS hl
  unfold j_Mod_readPage_84 at hw
  refine lv_bipush (v := 7) hx hb d_Mod_readPage_84 (by decide) ?_
  have hF := hW.free hS hA
  refine va_callv (va_runV (C := R_Mod) (As := [.int s0, .int 7]) (rest := []) ⟨hx, hb, hml, hown, hT⟩ (k_Mod_faults l dC dI cI cB cJ cZ ad H.size s0 7 x  hw) ⟨callB_of 2 hT (gwt_in w_12_107) rfl rfl rfl (hT _ w_1_15) (hT _ w_12_104) (by decide +kernel) ⟨Nat.le_trans (Nat.le_of_ble_eq_true rfl) hRf, Nat.le_trans (Nat.le_of_ble_eq_true rfl) hRl⟩, hT _ w_12_106, hT _ ws_183⟩ ⟨PW.blind, va_recv hK hW.1 (ci := 12) (q0 := 0) rfl (pic_obj ko_0.1 ko_0.2 (by decide)), PW.at _ hW hK hN⟩ rfl rfl hl.1 rfl (lv_room (Nat.le_of_ble_eq_true rfl)) d_Mod_readPage_86 ⟨hRc, hRs⟩) hS (fun q _ h => hF q h) hF (fun  x1525 t H locs ht hvm hw hB hz1 hk1 hS => ?_)
  have hW := Wd.back hB ht hF
  clear hB ht hF hz1 hk1 hvm
  refine lv_aload_n hx hb d_Mod_readPage_89 rfl (lv_at hl 0 rfl) ?_
  refine lv_iconst (v := 1) hx hb d_Mod_readPage_90 (by decide) ?_
  refine lv_aload_n hx hb d_Mod_readPage_91 rfl (lv_at hl 0 rfl) ?_
  refine w_geti (k := 68) (t := 12) (C := R_Mod) (T := F_Mod) (N := 167) hx hb hT hown hK hW ko_0.1 ko_0.2 (by decide) in_Mod rfl rfl (by decide) rfl fr_Mod_68 w_9_4 d_Mod_readPage_92 ?_
  have hF := hW.free hS hA
  refine va_calll (va_runV (C := R_Mod) (As := [.int 1, .int (fI x1525 0 68)]) (rest := []) ⟨hx, hb, hml, hown, hT⟩ (k_Mod_fixed l dC dI cI cB cJ cZ ad H.size 1 (fI x1525 0 68) x1525  hw) ⟨callB_of 2 hT (gwt_in w_12_111) rfl rfl rfl (hT _ w_1_15) (hT _ w_12_108) (by decide +kernel) ⟨Nat.le_trans (Nat.le_of_ble_eq_true rfl) hRf, Nat.le_trans (Nat.le_of_ble_eq_true rfl) hRl⟩, hT _ w_12_110, hT _ ws_184⟩ ⟨PW.blind, va_recv hK hW.1 (ci := 12) (q0 := 0) rfl (pic_obj ko_0.1 ko_0.2 (by decide)), PW.at _ hW hK hN⟩ rfl rfl hl.1 rfl (lv_room (Nat.le_of_ble_eq_true rfl)) d_Mod_readPage_95 ⟨hRc, hRs⟩) hS (fun q _ h => hF q h) hF (fun r1527 x1526 t H locs ht hvm hw hB hz1 hk1 hS => ?_)
  have hW := Wd.back hB ht hF
  clear hB ht hF hz1 hk1 hvm
  refine lv_l2i hx hb d_Mod_readPage_98 rfl ?_
  refine lv_topi (fun v1528 ev1528 => ?_)
  have hw := hw v1528 ev1528
  refine lv_istore (lv' := [(6, .int v1528), (0, .ref (ad 0)), (1, .int l1), (2, .long l2), (4, .long l4)]) hx hb d_Mod_readPage_99 hl (by decide) rfl (fun ls hl => ?_)
  refine lv_aload_n hx hb d_Mod_readPage_101 rfl (lv_at hl 1 rfl) ?_
  refine lv_iload hx hb d_Mod_readPage_102 (lv_at hl 0 rfl) ?_
  refine lv_aload_n hx hb d_Mod_readPage_104 rfl (lv_at hl 1 rfl) ?_
  have hF := hW.free hS hA
  refine va_calli (va_runV (C := R_Mod) (As := []) (rest := [.int v1528, .ref (ad 0)]) ⟨hx, hb, hml, hown, hT⟩ (k_Mod_codings l dC dI cI cB cJ cZ ad H.size  x1526  hw) ⟨callB_of 0 hT (gwt_in w_11_174) rfl rfl rfl (hT _ w_1_15) (hT _ w_11_171) (by decide +kernel) ⟨Nat.le_trans (Nat.le_of_ble_eq_true rfl) hRf, Nat.le_trans (Nat.le_of_ble_eq_true rfl) hRl⟩, hT _ w_11_173, hT _ ws_148⟩ ⟨PW.blind, va_recv hK hW.1 (ci := 12) (q0 := 0) rfl (pic_obj ko_0.1 ko_0.2 (by decide)), PW.at _ hW hK hN⟩ rfl rfl hl.1 rfl (lv_room (Nat.le_of_ble_eq_true rfl)) d_Mod_readPage_105 ⟨hRc, hRs⟩) hS (fun q _ h => hF q h) hF (fun r1530 x1529 t H locs ht hvm hw hB hz1 hk1 hS => ?_)
  have hW := Wd.back hB ht hF
  clear hB ht hF hz1 hk1 hvm
  refine lv_icmp_lt (tgt := 115) hx hb d_Mod_readPage_108 (by decide) (fun c1531 => ?_) (fun c1531 => ?_)
  · have hw := hw.1 c1531
    refine lv_iconst (v := 0) hx hb d_Mod_readPage_115 (by decide) ?_
    exact t_Mod_readPage_116 hx hb hml hown hT hK hN hA hRc hRs hRf hRl hret  l1 l2 l4 v1528 0 x1529 H locs ls  hw hW hS (lv_sub hl [1, 2, 3, 4, 0] rfl)
  · have hw := hw.2 c1531
    refine lv_iconst (v := 1) hx hb d_Mod_readPage_111 (by decide) ?_
    refine lv_goto (tgt := 116) hx hb d_Mod_readPage_112 (by decide) ?_
    exact t_Mod_readPage_116 hx hb hml hown hT hK hN hA hRc hRs hRf hRl hret  l1 l2 l4 v1528 1 x1529 H locs ls  hw hW hS (lv_sub hl [1, 2, 3, 4, 0] rfl)
set_option maxRecDepth 100000 in
set_option maxHeartbeats 4000000 in
set_option maxRecDepth 100000 in
theorem t_Mod_readPage_79 {p : Program} {l : Launch} {e : Env} {R : Room} {s : State} {m : MethodId} {args : Array Value} {below : List Frame} {meth : Method} {c : Code} {cells slots : Nat} {Q : State → Prop} {dC : Nat → ClassId} {dI : Nat → Nat → Nat} {cI cB cJ cZ : ClassId} {A : Nat → Prop} {ad : Nat → Nat} {post : St → Prop} (hx : p.tables.exec = Jvm.exec) (hb : c.code = b_Mod_readPage) (hml : c.maxLocals = 10) (hown : s.vm.findClass R_Mod = some m.cls) (hT : ∀ w ∈ TG, w.before args s = true) (hK : va_K (dC, dI) CL (TY cI cB cJ cZ) s) (hN : NW s) (hA : ∀ q : Nat, s.heap.size ≤ q → A q) (hRc : cells ≤ R.cells) (hRs : slots ≤ R.slots) (hRf : 7 ≤ R.frames) (hRl : 175 ≤ R.locals) (hret : ∀ (x : St) (H : Heap) (locs : List Loc) (pc : Nat) (ls : Array Slot), decode b_Mod_readPage pc = .ok (.return_, 1) → post x → Wd dC dI cI cB cJ cZ ad stM kcM 115 A x H → va_S A s.heap H locs → W p l e R s m args below meth c H locs cells slots Q (F0 m pc ls []))  : ∀ (l1 : Int32) (l2 : Int64) (l4 : Int64) (x : St) (H : Heap) (locs : List Loc) (ls : Array Slot), j_Mod_readPage_79 post l1 l2 l4 x → Wd dC dI cI cB cJ cZ ad stM kcM 115 A x H → va_S A s.heap H locs → lv_has ls 10 [(0, .ref (ad 0)), (1, .int l1), (2, .long l2), (4, .long l4)] → W p l e R s m args below meth c H locs cells slots Q (F0 m 79 ls [.ref (ad 0)]) := by
  intro l1 l2 l4 x H locs ls  hw hW hS hl
  unfold j_Mod_readPage_79 at hw
  refine lv_iconst (v := 1) hx hb d_Mod_readPage_79 (by decide) ?_
  refine lv_goto (tgt := 84) hx hb d_Mod_readPage_80 (by decide) ?_
  exact t_Mod_readPage_84 hx hb hml hown hT hK hN hA hRc hRs hRf hRl hret  l1 l2 l4 1 x H locs ls  hw hW hS (lv_sub hl [0, 1, 2, 3] rfl)
set_option maxRecDepth 100000 in
set_option maxHeartbeats 4000000 in
set_option maxRecDepth 100000 in
theorem t_Mod_readPage_50 {p : Program} {l : Launch} {e : Env} {R : Room} {s : State} {m : MethodId} {args : Array Value} {below : List Frame} {meth : Method} {c : Code} {cells slots : Nat} {Q : State → Prop} {dC : Nat → ClassId} {dI : Nat → Nat → Nat} {cI cB cJ cZ : ClassId} {A : Nat → Prop} {ad : Nat → Nat} {post : St → Prop} (hx : p.tables.exec = Jvm.exec) (hb : c.code = b_Mod_readPage) (hml : c.maxLocals = 10) (hown : s.vm.findClass R_Mod = some m.cls) (hT : ∀ w ∈ TG, w.before args s = true) (hK : va_K (dC, dI) CL (TY cI cB cJ cZ) s) (hN : NW s) (hA : ∀ q : Nat, s.heap.size ≤ q → A q) (hRc : cells ≤ R.cells) (hRs : slots ≤ R.slots) (hRf : 7 ≤ R.frames) (hRl : 175 ≤ R.locals) (hret : ∀ (x : St) (H : Heap) (locs : List Loc) (pc : Nat) (ls : Array Slot), decode b_Mod_readPage pc = .ok (.return_, 1) → post x → Wd dC dI cI cB cJ cZ ad stM kcM 115 A x H → va_S A s.heap H locs → W p l e R s m args below meth c H locs cells slots Q (F0 m pc ls []))  : ∀ (l1 : Int32) (l2 : Int64) (s0 : Int32) (x : St) (H : Heap) (locs : List Loc) (ls : Array Slot), j_Mod_readPage_50 post l1 l2 s0 x → Wd dC dI cI cB cJ cZ ad stM kcM 115 A x H → va_S A s.heap H locs → lv_has ls 10 [(0, .ref (ad 0)), (1, .int l1), (2, .long l2)] → W p l e R s m args below meth c H locs cells slots Q (F0 m 50 ls [.int s0, .ref (ad 0)]) := by
  intro l1 l2 s0 x H locs ls  hw hW hS hl
  unfold j_Mod_readPage_50 at hw
  refine lv_iconst (v := 4) hx hb d_Mod_readPage_50 (by decide) ?_
  have hF := hW.free hS hA
  refine va_callv (va_runV (C := R_Mod) (As := [.int s0, .int 4]) (rest := []) ⟨hx, hb, hml, hown, hT⟩ (k_Mod_faults l dC dI cI cB cJ cZ ad H.size s0 4 x  hw) ⟨callB_of 2 hT (gwt_in w_12_107) rfl rfl rfl (hT _ w_1_15) (hT _ w_12_104) (by decide +kernel) ⟨Nat.le_trans (Nat.le_of_ble_eq_true rfl) hRf, Nat.le_trans (Nat.le_of_ble_eq_true rfl) hRl⟩, hT _ w_12_106, hT _ ws_183⟩ ⟨PW.blind, va_recv hK hW.1 (ci := 12) (q0 := 0) rfl (pic_obj ko_0.1 ko_0.2 (by decide)), PW.at _ hW hK hN⟩ rfl rfl hl.1 rfl (lv_room (Nat.le_of_ble_eq_true rfl)) d_Mod_readPage_51 ⟨hRc, hRs⟩) hS (fun q _ h => hF q h) hF (fun  x1532 t H locs ht hvm hw hB hz1 hk1 hS => ?_)
  have hW := Wd.back hB ht hF
  clear hB ht hF hz1 hk1 hvm
  refine lv_aload_n hx hb d_Mod_readPage_54 rfl (lv_at hl 0 rfl) ?_
  refine lv_aload_n hx hb d_Mod_readPage_55 rfl (lv_at hl 0 rfl) ?_
  refine w_geti (k := 68) (t := 12) (C := R_Mod) (T := F_Mod) (N := 167) hx hb hT hown hK hW ko_0.1 ko_0.2 (by decide) in_Mod rfl rfl (by decide) rfl fr_Mod_68 w_9_4 d_Mod_readPage_56 ?_
  have hF := hW.free hS hA
  refine va_calll (va_runV (C := R_Mod) (As := [.int (fI x1532 0 68)]) (rest := []) ⟨hx, hb, hml, hown, hT⟩ (k_Mod_varint l dC dI cI cB cJ cZ ad H.size (fI x1532 0 68) x1532  hw) ⟨callB_of 1 hT (gwt_in w_12_124) rfl rfl rfl (hT _ w_1_15) (hT _ w_12_121) (by decide +kernel) ⟨Nat.le_trans (Nat.le_of_ble_eq_true rfl) hRf, Nat.le_trans (Nat.le_of_ble_eq_true rfl) hRl⟩, hT _ w_12_123, hT _ ws_187⟩ ⟨PW.blind, va_recv hK hW.1 (ci := 12) (q0 := 0) rfl (pic_obj ko_0.1 ko_0.2 (by decide)), PW.at _ hW hK hN⟩ rfl rfl hl.1 rfl (lv_room (Nat.le_of_ble_eq_true rfl)) d_Mod_readPage_59 ⟨hRc, hRs⟩) hS (fun q _ h => hF q h) hF (fun r1534 x1533 t H locs ht hvm hw hB hz1 hk1 hS => ?_)
  have hW := Wd.back hB ht hF
  clear hB ht hF hz1 hk1 hvm
  refine lv_lstore (lv' := [(4, .long r1534), (0, .ref (ad 0)), (1, .int l1), (2, .long l2)]) hx hb d_Mod_readPage_62 hl (by decide) rfl (fun ls hl => ?_)
  refine lv_aload_n hx hb d_Mod_readPage_64 rfl (lv_at hl 1 rfl) ?_
  refine lv_lload hx hb d_Mod_readPage_65 (lv_at hl 0 rfl) ?_
  refine lv_lconst (v := 0) hx hb d_Mod_readPage_67 (by decide) ?_
  refine W.lcmp hx hb d_Mod_readPage_68 ?_
  refine lv_if_lt (tgt := 79) hx hb d_Mod_readPage_69 (by decide) (fun c1535 => ?_) (fun c1535 => ?_)
  · have hw := hw.1 c1535
    exact t_Mod_readPage_79 hx hb hml hown hT hK hN hA hRc hRs hRf hRl hret  l1 l2 r1534 x1533 H locs ls  hw hW hS (lv_sub hl [1, 2, 3, 0] rfl)
  · have hw := hw.2 c1535
    refine lv_lload hx hb d_Mod_readPage_72 (lv_at hl 0 rfl) ?_
    refine lv_lload_n hx hb d_Mod_readPage_74 rfl (lv_at hl 3 rfl) ?_
    refine W.lcmp hx hb d_Mod_readPage_75 ?_
    refine lv_if_le (tgt := 83) hx hb d_Mod_readPage_76 (by decide) (fun c1536 => ?_) (fun c1536 => ?_)
    · have hw := hw.1 c1536
      refine lv_iconst (v := 0) hx hb d_Mod_readPage_83 (by decide) ?_
      exact t_Mod_readPage_84 hx hb hml hown hT hK hN hA hRc hRs hRf hRl hret  l1 l2 r1534 0 x1533 H locs ls  hw hW hS (lv_sub hl [1, 2, 3, 0] rfl)
    · have hw := hw.2 c1536
      exact t_Mod_readPage_79 hx hb hml hown hT hK hN hA hRc hRs hRf hRl hret  l1 l2 r1534 x1533 H locs ls  hw hW hS (lv_sub hl [1, 2, 3, 0] rfl)
set_option maxRecDepth 100000 in
set_option maxHeartbeats 4000000 in
set_option maxRecDepth 100000 in
theorem t_Mod_readPage_45 {p : Program} {l : Launch} {e : Env} {R : Room} {s : State} {m : MethodId} {args : Array Value} {below : List Frame} {meth : Method} {c : Code} {cells slots : Nat} {Q : State → Prop} {dC : Nat → ClassId} {dI : Nat → Nat → Nat} {cI cB cJ cZ : ClassId} {A : Nat → Prop} {ad : Nat → Nat} {post : St → Prop} (hx : p.tables.exec = Jvm.exec) (hb : c.code = b_Mod_readPage) (hml : c.maxLocals = 10) (hown : s.vm.findClass R_Mod = some m.cls) (hT : ∀ w ∈ TG, w.before args s = true) (hK : va_K (dC, dI) CL (TY cI cB cJ cZ) s) (hN : NW s) (hA : ∀ q : Nat, s.heap.size ≤ q → A q) (hRc : cells ≤ R.cells) (hRs : slots ≤ R.slots) (hRf : 7 ≤ R.frames) (hRl : 175 ≤ R.locals) (hret : ∀ (x : St) (H : Heap) (locs : List Loc) (pc : Nat) (ls : Array Slot), decode b_Mod_readPage pc = .ok (.return_, 1) → post x → Wd dC dI cI cB cJ cZ ad stM kcM 115 A x H → va_S A s.heap H locs → W p l e R s m args below meth c H locs cells slots Q (F0 m pc ls []))  : ∀ (l1 : Int32) (l2 : Int64) (x : St) (H : Heap) (locs : List Loc) (ls : Array Slot), j_Mod_readPage_45 post l1 l2 x → Wd dC dI cI cB cJ cZ ad stM kcM 115 A x H → va_S A s.heap H locs → lv_has ls 10 [(0, .ref (ad 0)), (1, .int l1), (2, .long l2)] → W p l e R s m args below meth c H locs cells slots Q (F0 m 45 ls [.ref (ad 0)]) := by
  intro l1 l2 x H locs ls  hw hW hS hl
  unfold j_Mod_readPage_45 at hw
  refine lv_iconst (v := 1) hx hb d_Mod_readPage_45 (by decide) ?_
  refine lv_goto (tgt := 50) hx hb d_Mod_readPage_46 (by decide) ?_
  exact t_Mod_readPage_50 hx hb hml hown hT hK hN hA hRc hRs hRf hRl hret  l1 l2 1 x H locs ls  hw hW hS (lv_sub hl [0, 1, 2] rfl)
set_option maxRecDepth 100000 in
set_option maxHeartbeats 4000000 in
set_option maxRecDepth 100000 in
theorem t_Mod_readPage_26 {p : Program} {l : Launch} {e : Env} {R : Room} {s : State} {m : MethodId} {args : Array Value} {below : List Frame} {meth : Method} {c : Code} {cells slots : Nat} {Q : State → Prop} {dC : Nat → ClassId} {dI : Nat → Nat → Nat} {cI cB cJ cZ : ClassId} {A : Nat → Prop} {ad : Nat → Nat} {post : St → Prop} (hx : p.tables.exec = Jvm.exec) (hb : c.code = b_Mod_readPage) (hml : c.maxLocals = 10) (hown : s.vm.findClass R_Mod = some m.cls) (hT : ∀ w ∈ TG, w.before args s = true) (hK : va_K (dC, dI) CL (TY cI cB cJ cZ) s) (hN : NW s) (hA : ∀ q : Nat, s.heap.size ≤ q → A q) (hRc : cells ≤ R.cells) (hRs : slots ≤ R.slots) (hRf : 7 ≤ R.frames) (hRl : 175 ≤ R.locals) (hret : ∀ (x : St) (H : Heap) (locs : List Loc) (pc : Nat) (ls : Array Slot), decode b_Mod_readPage pc = .ok (.return_, 1) → post x → Wd dC dI cI cB cJ cZ ad stM kcM 115 A x H → va_S A s.heap H locs → W p l e R s m args below meth c H locs cells slots Q (F0 m pc ls []))  : ∀ (l1 : Int32) (l2 : Int64) (s0 : Int32) (x : St) (H : Heap) (locs : List Loc) (ls : Array Slot), j_Mod_readPage_26 post l1 l2 s0 x → Wd dC dI cI cB cJ cZ ad stM kcM 115 A x H → va_S A s.heap H locs → lv_has ls 10 [(0, .ref (ad 0)), (1, .int l1), (2, .long l2)] → W p l e R s m args below meth c H locs cells slots Q (F0 m 26 ls [.int s0, .ref (ad 0)]) := by
  intro l1 l2 s0 x H locs ls  hw hW hS hl
  unfold j_Mod_readPage_26 at hw
  refine lv_iconst (v := 3) hx hb d_Mod_readPage_26 (by decide) ?_
  have hF := hW.free hS hA
  refine va_callv (va_runV (C := R_Mod) (As := [.int s0, .int 3]) (rest := []) ⟨hx, hb, hml, hown, hT⟩ (k_Mod_faults l dC dI cI cB cJ cZ ad H.size s0 3 x  hw) ⟨callB_of 2 hT (gwt_in w_12_107) rfl rfl rfl (hT _ w_1_15) (hT _ w_12_104) (by decide +kernel) ⟨Nat.le_trans (Nat.le_of_ble_eq_true rfl) hRf, Nat.le_trans (Nat.le_of_ble_eq_true rfl) hRl⟩, hT _ w_12_106, hT _ ws_183⟩ ⟨PW.blind, va_recv hK hW.1 (ci := 12) (q0 := 0) rfl (pic_obj ko_0.1 ko_0.2 (by decide)), PW.at _ hW hK hN⟩ rfl rfl hl.1 rfl (lv_room (Nat.le_of_ble_eq_true rfl)) d_Mod_readPage_27 ⟨hRc, hRs⟩) hS (fun q _ h => hF q h) hF (fun  x1537 t H locs ht hvm hw hB hz1 hk1 hS => ?_)
  have hW := Wd.back hB ht hF
  clear hB ht hF hz1 hk1 hvm
  refine lv_aload_n hx hb d_Mod_readPage_30 rfl (lv_at hl 0 rfl) ?_
  refine lv_lload_n hx hb d_Mod_readPage_31 rfl (lv_at hl 2 rfl) ?_
  refine lv_lconst (v := 1) hx hb d_Mod_readPage_32 (by decide) ?_
  refine W.lcmp hx hb d_Mod_readPage_33 ?_
  refine lv_if_lt (tgt := 45) hx hb d_Mod_readPage_34 (by decide) (fun c1538 => ?_) (fun c1538 => ?_)
  · have hw := hw.1 c1538
    exact t_Mod_readPage_45 hx hb hml hown hT hK hN hA hRc hRs hRf hRl hret  l1 l2 x1537 H locs ls  hw hW hS (lv_sub hl [0, 1, 2] rfl)
  · have hw := hw.2 c1538
    refine lv_lload_n hx hb d_Mod_readPage_37 rfl (lv_at hl 2 rfl) ?_
    refine lv_ldc2 hx hb hown (hT _ w_12_169) d_Mod_readPage_38 ?_
    refine W.lcmp hx hb d_Mod_readPage_41 ?_
    refine lv_if_le (tgt := 49) hx hb d_Mod_readPage_42 (by decide) (fun c1539 => ?_) (fun c1539 => ?_)
    · have hw := hw.1 c1539
      refine lv_iconst (v := 0) hx hb d_Mod_readPage_49 (by decide) ?_
      exact t_Mod_readPage_50 hx hb hml hown hT hK hN hA hRc hRs hRf hRl hret  l1 l2 0 x1537 H locs ls  hw hW hS (lv_sub hl [0, 1, 2] rfl)
    · have hw := hw.2 c1539
      exact t_Mod_readPage_45 hx hb hml hown hT hK hN hA hRc hRs hRf hRl hret  l1 l2 x1537 H locs ls  hw hW hS (lv_sub hl [0, 1, 2] rfl)
set_option maxRecDepth 100000 in
set_option maxHeartbeats 4000000 in
set_option maxRecDepth 100000 in
theorem t_Mod_readPage_e {p : Program} {l : Launch} {e : Env} {R : Room} {s : State} {m : MethodId} {args : Array Value} {below : List Frame} {meth : Method} {c : Code} {cells slots : Nat} {Q : State → Prop} {dC : Nat → ClassId} {dI : Nat → Nat → Nat} {cI cB cJ cZ : ClassId} {A : Nat → Prop} {ad : Nat → Nat} {post : St → Prop} (hx : p.tables.exec = Jvm.exec) (hb : c.code = b_Mod_readPage) (hml : c.maxLocals = 10) (hown : s.vm.findClass R_Mod = some m.cls) (hT : ∀ w ∈ TG, w.before args s = true) (hK : va_K (dC, dI) CL (TY cI cB cJ cZ) s) (hN : NW s) (hA : ∀ q : Nat, s.heap.size ≤ q → A q) (hRc : cells ≤ R.cells) (hRs : slots ≤ R.slots) (hRf : 7 ≤ R.frames) (hRl : 175 ≤ R.locals) (hret : ∀ (x : St) (H : Heap) (locs : List Loc) (pc : Nat) (ls : Array Slot), decode b_Mod_readPage pc = .ok (.return_, 1) → post x → Wd dC dI cI cB cJ cZ ad stM kcM 115 A x H → va_S A s.heap H locs → W p l e R s m args below meth c H locs cells slots Q (F0 m pc ls [])) : ∀ (l1 : Int32) (x : St) (H : Heap) (locs : List Loc) (ls : Array Slot), wp_Mod_readPage post l1 x → Wd dC dI cI cB cJ cZ ad stM kcM 115 A x H → va_S A s.heap H locs → lv_has ls 10 [(0, .ref (ad 0)), (1, .int l1)] → W p l e R s m args below meth c H locs cells slots Q (F0 m 0 ls []) := by
  intro l1 x H locs ls  hw hW hS hl
  unfold wp_Mod_readPage at hw
  refine lv_aload_n hx hb d_Mod_readPage_0 rfl (lv_at hl 0 rfl) ?_
  refine lv_iload_n hx hb d_Mod_readPage_1 rfl (lv_at hl 1 rfl) ?_
  refine w_puti (ty := .int) (k := 68) (t := 12) (C := R_Mod) (T := F_Mod) (N := 167) hx hb hT hown hK hW hS ko_0.1 ko_0.2 (by decide) in_Mod t_Mod t_Mod_ok n_Mod rfl rfl (by decide) rfl fr_Mod_68 w_9_4 (by decide +kernel) rfl rfl d_Mod_readPage_2 (fun H locs hW hS => ?_)
  obtain ⟨x1540, ex1540⟩ : ∃ y : St, y = setI x 0 68 l1 := ⟨_, rfl⟩
  rw [← ex1540] at hW
  have hw := hw x1540 ex1540
  refine lv_aload_n hx hb d_Mod_readPage_5 rfl (lv_at hl 0 rfl) ?_
  refine lv_aload_n hx hb d_Mod_readPage_6 rfl (lv_at hl 0 rfl) ?_
  refine w_geti (k := 68) (t := 12) (C := R_Mod) (T := F_Mod) (N := 167) hx hb hT hown hK hW ko_0.1 ko_0.2 (by decide) in_Mod rfl rfl (by decide) rfl fr_Mod_68 w_9_4 d_Mod_readPage_7 ?_
  have hF := hW.free hS hA
  refine va_calll (va_runV (C := R_Mod) (As := [.int (fI x1540 0 68)]) (rest := []) ⟨hx, hb, hml, hown, hT⟩ (k_Mod_varint l dC dI cI cB cJ cZ ad H.size (fI x1540 0 68) x1540  hw) ⟨callB_of 1 hT (gwt_in w_12_124) rfl rfl rfl (hT _ w_1_15) (hT _ w_12_121) (by decide +kernel) ⟨Nat.le_trans (Nat.le_of_ble_eq_true rfl) hRf, Nat.le_trans (Nat.le_of_ble_eq_true rfl) hRl⟩, hT _ w_12_123, hT _ ws_187⟩ ⟨PW.blind, va_recv hK hW.1 (ci := 12) (q0 := 0) rfl (pic_obj ko_0.1 ko_0.2 (by decide)), PW.at _ hW hK hN⟩ rfl rfl hl.1 rfl (lv_room (Nat.le_of_ble_eq_true rfl)) d_Mod_readPage_10 ⟨hRc, hRs⟩) hS (fun q _ h => hF q h) hF (fun r1542 x1541 t H locs ht hvm hw hB hz1 hk1 hS => ?_)
  have hW := Wd.back hB ht hF
  clear hB ht hF hz1 hk1 hvm
  refine lv_lstore_n (lv' := [(2, .long r1542), (0, .ref (ad 0)), (1, .int l1)]) hx hb d_Mod_readPage_13 rfl hl (by decide) rfl (fun ls hl => ?_)
  refine lv_aload_n hx hb d_Mod_readPage_14 rfl (lv_at hl 1 rfl) ?_
  refine lv_lload_n hx hb d_Mod_readPage_15 rfl (lv_at hl 0 rfl) ?_
  refine lv_lconst (v := 0) hx hb d_Mod_readPage_16 (by decide) ?_
  refine W.lcmp hx hb d_Mod_readPage_17 ?_
  refine lv_if_ne (tgt := 25) hx hb d_Mod_readPage_18 (by decide) (fun c1543 => ?_) (fun c1543 => ?_)
  · have hw := hw.1 c1543
    refine lv_iconst (v := 0) hx hb d_Mod_readPage_25 (by decide) ?_
    exact t_Mod_readPage_26 hx hb hml hown hT hK hN hA hRc hRs hRf hRl hret  l1 r1542 0 x1541 H locs ls  hw hW hS (lv_sub hl [1, 2, 0] rfl)
  · have hw := hw.2 c1543
    refine lv_iconst (v := 1) hx hb d_Mod_readPage_21 (by decide) ?_
    refine lv_goto (tgt := 26) hx hb d_Mod_readPage_22 (by decide) ?_
    exact t_Mod_readPage_26 hx hb hml hown hT hK hN hA hRc hRs hRf hRl hret  l1 r1542 1 x1541 H locs ls  hw hW hS (lv_sub hl [1, 2, 0] rfl)
set_option maxHeartbeats 4000000 in
set_option maxRecDepth 100000 in
theorem k_Mod_readPage (l : Launch) (dC : Nat → ClassId) (dI : Nat → Nat → Nat) (cI cB cJ cZ : ClassId) (ad : Nat → Nat) (sz : Nat) (l1 : Int32) (x : St) {post : St → Prop} (hw : wp_Mod_readPage post l1 x) : Met l y_Mod_readPage (wsOf y_Mod_readPage b_Mod_readPage 10 (none)) ({ frames := 7, cells := 0, slots := 0, locals := 175 }) (va_Pc [.ref (ad 0), .int l1] (PW dC dI cI cB cJ cZ ad stM kcM 115 sz x)) (va_Qv (fun (y : St) => post y) (fun y t => Wd dC dI cI cB cJ cZ ad stM kcM 115 (va_A (pic ad stM kcM 115 cI cB cJ cZ x) sz) y t.heap) (va_A (pic ad stM kcM 115 cI cB cJ cZ x) sz)) 0 0 (va_A (pic ad stM kcM 115 cI cB cJ cZ x) sz) := by
  refine Met.ofW (cc := b_Mod_readPage) (maxL := 10) (ret := none) (by decide) rfl ?_
  intro p e s m args below meth c s₁ B hml hv
  obtain ⟨rfl, hsz, hW0, hK, hN⟩ := hv
  have hx := B.exec
  have hb := B.bytes
  have hr := B.returns
  have hts := atoms_spec B.pre
  have hT : ∀ w ∈ TG, w.before _ s = true := fun w h => hts w (List.mem_cons_of_mem _ h)
  have hown : s.vm.findClass R_Mod = some m.cls := findClass_of_methodNamed B.named
  have hlocks := B.notSynchronized
  subst hsz
  have hW : Wd dC dI cI cB cJ cZ ad stM kcM 115 (va_A (pic ad stM kcM 115 cI cB cJ cZ x) s.heap.size) x s.heap := ⟨hW0.1, hW0.2.1.self (sz := s.heap.size), hW0.2.2⟩
  generalize hAe : va_A (pic ad stM kcM 115 cI cB cJ cZ x) s.heap.size = A at hW ⊢
  have hA : ∀ q : Nat, s.heap.size ≤ q → A q := fun q h => by rw [← hAe]; exact Or.inr h
  have hS : va_S A s.heap s.heap [] := va_S.rf
  have hl := lv_entry ([.ref (ad 0), .int l1]) (n := 10) (Nat.le_of_ble_eq_true rfl)
  rw [lg_entry_eq]
  generalize (lg_sl ([.ref (ad 0), .int l1]) ++ List.replicate (10 - (lg_sl ([.ref (ad 0), .int l1])).length) Slot.unset).toArray = ls at hl ⊢
  have hl : lv_has ls 10 [(0, .ref (ad 0)), (1, .int l1)] := hl
  exact t_Mod_readPage_e hx hb hml hown hT hK hN hA (Nat.le_refl 0) (Nat.le_refl 0) (Nat.le_refl 7) (Nat.le_refl 175) (fun x H locs pc ls hd hp hW hS => W.vret hx hb hr (fun t ht hM => ⟨⟨x, rfl, hp, Wd.back hW ht.symm (fun _ z => z)⟩, hS.F ht⟩) hS.2.2 hd hlocks)  l1 x _ _ ls  hw hW hS hl
set_option maxRecDepth 100000 in
set_option maxHeartbeats 4000000 in
set_option maxRecDepth 100000 in
theorem t_Mod_order_131 {p : Program} {l : Launch} {e : Env} {R : Room} {s : State} {m : MethodId} {args : Array Value} {below : List Frame} {meth : Method} {c : Code} {cells slots : Nat} {Q : State → Prop} {dC : Nat → ClassId} {dI : Nat → Nat → Nat} {cI cB cJ cZ : ClassId} {A : Nat → Prop} {ad : Nat → Nat} {post : St → Prop} {rec12 : Int32 → Int32 → Int32 → St → Prop} (hx : p.tables.exec = Jvm.exec) (hb : c.code = b_Mod_order) (hml : c.maxLocals = 7) (hown : s.vm.findClass R_Mod = some m.cls) (hT : ∀ w ∈ TG, w.before args s = true) (hK : va_K (dC, dI) CL (TY cI cB cJ cZ) s) (hN : NW s) (hA : ∀ q : Nat, s.heap.size ≤ q → A q) (hRc : cells ≤ R.cells) (hRs : slots ≤ R.slots) (hRf : 2 ≤ R.frames) (hRl : 47 ≤ R.locals) (hret : ∀ (x : St) (H : Heap) (locs : List Loc) (pc : Nat) (ls : Array Slot), decode b_Mod_order pc = .ok (.return_, 1) → post x → Wd dC dI cI cB cJ cZ ad stM kcM 115 A x H → va_S A s.heap H locs → W p l e R s m args below meth c H locs cells slots Q (F0 m pc ls [])) (hrec12 : ∀ (l1 : Int32) (l2 : Int32) (l3 : Int32) (x : St) (H : Heap) (locs : List Loc) (ls : Array Slot), rec12 l1 l2 l3 x → Wd dC dI cI cB cJ cZ ad stM kcM 115 A x H → va_S A s.heap H locs → lv_has ls 7 [(0, .ref (ad 0)), (1, .int l1), (2, .int l2), (3, .int l3)] → W p l e R s m args below meth c H locs cells slots Q (F0 m 12 ls [])) : ∀ (l1 : Int32) (l2 : Int32) (l3 : Int32) (l4 : Int32) (x : St) (H : Heap) (locs : List Loc) (ls : Array Slot), j_Mod_order_131 post rec12 l1 l2 l3 l4 x → Wd dC dI cI cB cJ cZ ad stM kcM 115 A x H → va_S A s.heap H locs → lv_has ls 7 [(0, .ref (ad 0)), (1, .int l1), (2, .int l2), (3, .int l3), (4, .int l4)] → W p l e R s m args below meth c H locs cells slots Q (F0 m 131 ls []) := by
  intro l1 l2 l3 l4 x H locs ls  hw hW hS hl
  unfold j_Mod_order_131 at hw
  refine lv_iinc (v := (l3 + 1)) (lv' := [(3, .int (l3 + 1)), (0, .ref (ad 0)), (1, .int l1), (2, .int l2), (4, .int l4)]) hx hb d_Mod_order_131 hl (k := 3) rfl rfl (by decide) rfl (fun ls hl => ?_)
  refine lv_goto (tgt := 12) hx hb d_Mod_order_134 (by decide) ?_
  exact hrec12 l1 l2 (l3 + 1) x H locs ls  hw hW hS (lv_sub hl [1, 2, 3, 0] rfl)
set_option maxRecDepth 100000 in
set_option maxHeartbeats 4000000 in
set_option maxRecDepth 100000 in
theorem t_Mod_order_126 {p : Program} {l : Launch} {e : Env} {R : Room} {s : State} {m : MethodId} {args : Array Value} {below : List Frame} {meth : Method} {c : Code} {cells slots : Nat} {Q : State → Prop} {dC : Nat → ClassId} {dI : Nat → Nat → Nat} {cI cB cJ cZ : ClassId} {A : Nat → Prop} {ad : Nat → Nat} {post : St → Prop} {rec12 : Int32 → Int32 → Int32 → St → Prop} (hx : p.tables.exec = Jvm.exec) (hb : c.code = b_Mod_order) (hml : c.maxLocals = 7) (hown : s.vm.findClass R_Mod = some m.cls) (hT : ∀ w ∈ TG, w.before args s = true) (hK : va_K (dC, dI) CL (TY cI cB cJ cZ) s) (hN : NW s) (hA : ∀ q : Nat, s.heap.size ≤ q → A q) (hRc : cells ≤ R.cells) (hRs : slots ≤ R.slots) (hRf : 2 ≤ R.frames) (hRl : 47 ≤ R.locals) (hret : ∀ (x : St) (H : Heap) (locs : List Loc) (pc : Nat) (ls : Array Slot), decode b_Mod_order pc = .ok (.return_, 1) → post x → Wd dC dI cI cB cJ cZ ad stM kcM 115 A x H → va_S A s.heap H locs → W p l e R s m args below meth c H locs cells slots Q (F0 m pc ls [])) (hrec12 : ∀ (l1 : Int32) (l2 : Int32) (l3 : Int32) (x : St) (H : Heap) (locs : List Loc) (ls : Array Slot), rec12 l1 l2 l3 x → Wd dC dI cI cB cJ cZ ad stM kcM 115 A x H → va_S A s.heap H locs → lv_has ls 7 [(0, .ref (ad 0)), (1, .int l1), (2, .int l2), (3, .int l3)] → W p l e R s m args below meth c H locs cells slots Q (F0 m 12 ls [])) : ∀ (l1 : Int32) (l2 : Int32) (l3 : Int32) (l4 : Int32) (l5 : Int32) (l6 : Int32) (s0 : Int32) (x : St) (H : Heap) (locs : List Loc) (ls : Array Slot), j_Mod_order_126 post rec12 l1 l2 l3 l4 l5 l6 s0 x → Wd dC dI cI cB cJ cZ ad stM kcM 115 A x H → va_S A s.heap H locs → lv_has ls 7 [(0, .ref (ad 0)), (1, .int l1), (2, .int l2), (3, .int l3), (4, .int l4), (5, .int l5), (6, .int l6)] → W p l e R s m args below meth c H locs cells slots Q (F0 m 126 ls [.int s0, .ref (ad 0)]) := by
  intro l1 l2 l3 l4 l5 l6 s0 x H locs ls  hw hW hS hl
  unfold j_Mod_order_126 at hw
  refine lv_bipush (v := 20) hx hb d_Mod_order_126 (by decide) ?_
  have hF := hW.free hS hA
  refine va_callv (va_runV (C := R_Mod) (As := [.int s0, .int 20]) (rest := []) ⟨hx, hb, hml, hown, hT⟩ (k_Mod_faults l dC dI cI cB cJ cZ ad H.size s0 20 x  hw) ⟨callB_of 2 hT (gwt_in w_12_107) rfl rfl rfl (hT _ w_1_15) (hT _ w_12_104) (by decide +kernel) ⟨Nat.le_trans (Nat.le_of_ble_eq_true rfl) hRf, Nat.le_trans (Nat.le_of_ble_eq_true rfl) hRl⟩, hT _ w_12_106, hT _ ws_183⟩ ⟨PW.blind, va_recv hK hW.1 (ci := 12) (q0 := 0) rfl (pic_obj ko_0.1 ko_0.2 (by decide)), PW.at _ hW hK hN⟩ rfl rfl hl.1 rfl (lv_room (Nat.le_of_ble_eq_true rfl)) d_Mod_order_128 ⟨hRc, hRs⟩) hS (fun q _ h => hF q h) hF (fun  x1544 t H locs ht hvm hw hB hz1 hk1 hS => ?_)
  have hW := Wd.back hB ht hF
  clear hB ht hF hz1 hk1 hvm
  exact t_Mod_order_131 hx hb hml hown hT hK hN hA hRc hRs hRf hRl hret hrec12 l1 l2 l3 l4 x1544 H locs ls  hw hW hS (lv_sub hl [0, 1, 2, 3, 4] rfl)
set_option maxRecDepth 100000 in
set_option maxHeartbeats 4000000 in
set_option maxRecDepth 100000 in
theorem t_Mod_order_121 {p : Program} {l : Launch} {e : Env} {R : Room} {s : State} {m : MethodId} {args : Array Value} {below : List Frame} {meth : Method} {c : Code} {cells slots : Nat} {Q : State → Prop} {dC : Nat → ClassId} {dI : Nat → Nat → Nat} {cI cB cJ cZ : ClassId} {A : Nat → Prop} {ad : Nat → Nat} {post : St → Prop} {rec12 : Int32 → Int32 → Int32 → St → Prop} (hx : p.tables.exec = Jvm.exec) (hb : c.code = b_Mod_order) (hml : c.maxLocals = 7) (hown : s.vm.findClass R_Mod = some m.cls) (hT : ∀ w ∈ TG, w.before args s = true) (hK : va_K (dC, dI) CL (TY cI cB cJ cZ) s) (hN : NW s) (hA : ∀ q : Nat, s.heap.size ≤ q → A q) (hRc : cells ≤ R.cells) (hRs : slots ≤ R.slots) (hRf : 2 ≤ R.frames) (hRl : 47 ≤ R.locals) (hret : ∀ (x : St) (H : Heap) (locs : List Loc) (pc : Nat) (ls : Array Slot), decode b_Mod_order pc = .ok (.return_, 1) → post x → Wd dC dI cI cB cJ cZ ad stM kcM 115 A x H → va_S A s.heap H locs → W p l e R s m args below meth c H locs cells slots Q (F0 m pc ls [])) (hrec12 : ∀ (l1 : Int32) (l2 : Int32) (l3 : Int32) (x : St) (H : Heap) (locs : List Loc) (ls : Array Slot), rec12 l1 l2 l3 x → Wd dC dI cI cB cJ cZ ad stM kcM 115 A x H → va_S A s.heap H locs → lv_has ls 7 [(0, .ref (ad 0)), (1, .int l1), (2, .int l2), (3, .int l3)] → W p l e R s m args below meth c H locs cells slots Q (F0 m 12 ls [])) : ∀ (l1 : Int32) (l2 : Int32) (l3 : Int32) (l4 : Int32) (l5 : Int32) (l6 : Int32) (x : St) (H : Heap) (locs : List Loc) (ls : Array Slot), j_Mod_order_121 post rec12 l1 l2 l3 l4 l5 l6 x → Wd dC dI cI cB cJ cZ ad stM kcM 115 A x H → va_S A s.heap H locs → lv_has ls 7 [(0, .ref (ad 0)), (1, .int l1), (2, .int l2), (3, .int l3), (4, .int l4), (5, .int l5), (6, .int l6)] → W p l e R s m args below meth c H locs cells slots Q (F0 m 121 ls [.ref (ad 0)]) := by
  intro l1 l2 l3 l4 l5 l6 x H locs ls  hw hW hS hl
  unfold j_Mod_order_121 at hw
  refine lv_iconst (v := 1) hx hb d_Mod_order_121 (by decide) ?_
  refine lv_goto (tgt := 126) hx hb d_Mod_order_122 (by decide) ?_
  exact t_Mod_order_126 hx hb hml hown hT hK hN hA hRc hRs hRf hRl hret hrec12 l1 l2 l3 l4 l5 l6 1 x H locs ls  hw hW hS (lv_sub hl [0, 1, 2, 3, 4, 5, 6] rfl)
set_option maxRecDepth 100000 in
set_option maxHeartbeats 4000000 in
set_option maxRecDepth 100000 in
theorem t_Mod_order_68 {p : Program} {l : Launch} {e : Env} {R : Room} {s : State} {m : MethodId} {args : Array Value} {below : List Frame} {meth : Method} {c : Code} {cells slots : Nat} {Q : State → Prop} {dC : Nat → ClassId} {dI : Nat → Nat → Nat} {cI cB cJ cZ : ClassId} {A : Nat → Prop} {ad : Nat → Nat} {post : St → Prop} {rec12 : Int32 → Int32 → Int32 → St → Prop} {rec42 : Int32 → Int32 → Int32 → Int32 → Int32 → Int32 → St → Prop} (hx : p.tables.exec = Jvm.exec) (hb : c.code = b_Mod_order) (hml : c.maxLocals = 7) (hown : s.vm.findClass R_Mod = some m.cls) (hT : ∀ w ∈ TG, w.before args s = true) (hK : va_K (dC, dI) CL (TY cI cB cJ cZ) s) (hN : NW s) (hA : ∀ q : Nat, s.heap.size ≤ q → A q) (hRc : cells ≤ R.cells) (hRs : slots ≤ R.slots) (hRf : 2 ≤ R.frames) (hRl : 47 ≤ R.locals) (hret : ∀ (x : St) (H : Heap) (locs : List Loc) (pc : Nat) (ls : Array Slot), decode b_Mod_order pc = .ok (.return_, 1) → post x → Wd dC dI cI cB cJ cZ ad stM kcM 115 A x H → va_S A s.heap H locs → W p l e R s m args below meth c H locs cells slots Q (F0 m pc ls [])) (hrec12 : ∀ (l1 : Int32) (l2 : Int32) (l3 : Int32) (x : St) (H : Heap) (locs : List Loc) (ls : Array Slot), rec12 l1 l2 l3 x → Wd dC dI cI cB cJ cZ ad stM kcM 115 A x H → va_S A s.heap H locs → lv_has ls 7 [(0, .ref (ad 0)), (1, .int l1), (2, .int l2), (3, .int l3)] → W p l e R s m args below meth c H locs cells slots Q (F0 m 12 ls [])) (hrec42 : ∀ (l1 : Int32) (l2 : Int32) (l3 : Int32) (l4 : Int32) (l5 : Int32) (l6 : Int32) (x : St) (H : Heap) (locs : List Loc) (ls : Array Slot), rec42 l1 l2 l3 l4 l5 l6 x → Wd dC dI cI cB cJ cZ ad stM kcM 115 A x H → va_S A s.heap H locs → lv_has ls 7 [(0, .ref (ad 0)), (1, .int l1), (2, .int l2), (3, .int l3), (4, .int l4), (5, .int l5), (6, .int l6)] → W p l e R s m args below meth c H locs cells slots Q (F0 m 42 ls [])) : ∀ (l1 : Int32) (l2 : Int32) (l3 : Int32) (l4 : Int32) (l5 : Int32) (l6 : Int32) (s0 : Int32) (x : St) (H : Heap) (locs : List Loc) (ls : Array Slot), j_Mod_order_68 post rec12 rec42 l1 l2 l3 l4 l5 l6 s0 x → Wd dC dI cI cB cJ cZ ad stM kcM 115 A x H → va_S A s.heap H locs → lv_has ls 7 [(0, .ref (ad 0)), (1, .int l1), (2, .int l2), (3, .int l3), (4, .int l4), (5, .int l5), (6, .int l6)] → W p l e R s m args below meth c H locs cells slots Q (F0 m 68 ls [.int s0]) := by
  intro l1 l2 l3 l4 l5 l6 s0 x H locs ls  hw hW hS hl
  unfold j_Mod_order_68 at hw
  refine lv_istore (lv' := [(5, .int s0), (0, .ref (ad 0)), (1, .int l1), (2, .int l2), (3, .int l3), (4, .int l4), (6, .int l6)]) hx hb d_Mod_order_68 hl (by decide) rfl (fun ls hl => ?_)
  refine lv_aload_n hx hb d_Mod_order_70 rfl (lv_at hl 1 rfl) ?_
  refine w_getf (q := 5) (k := 7) (t := 12) (C := R_Mod) (T := F_Mod) (N := 167) hx hb hT hown hK hW ko_0.1 ko_0.2 (by decide) in_Mod rfl rfl (by decide) rfl fr_Mod_7 w_8_183 d_Mod_order_71 rfl ?_
  refine lv_iconst (v := 1) hx hb d_Mod_order_74 (by decide) ?_
  refine lv_iload hx hb d_Mod_order_75 (lv_at hl 6 rfl) ?_
  have hF := hW.free hS hA
  refine va_calli (va_runS (As := [.int 1, .int l6]) (rest := [.ref (ad 5)]) ⟨hx, hb, hml, hown, hT⟩ (k_Mod_place l dC dI cI cB cJ cZ ad H.size 1 l6 x  hw) ⟨callB_of 2 hT (gwt_in w_11_30) rfl rfl rfl (hT _ w_1_15) (hT _ w_11_28) (by decide +kernel) ⟨Nat.le_trans (Nat.le_of_ble_eq_true rfl) hRf, Nat.le_trans (Nat.le_of_ble_eq_true rfl) hRl⟩, hT _ w_11_29⟩ ⟨PW.blind, PW.at _ hW hK hN⟩ rfl rfl hl.1 rfl (lv_room (Nat.le_of_ble_eq_true rfl)) d_Mod_order_77 ⟨hRc, hRs⟩) hS (fun q _ h => hF q h) hF (fun r1546 x1545 t H locs ht hvm hw hB hz1 hk1 hS => ?_)
  have hW := Wd.back hB ht hF
  clear hB ht hF hz1 hk1 hvm
  obtain ⟨hi, hw⟩ := hw
  refine w_iald (o := 5) hx hb hK hW ko_5.1 ko_5.2 hi d_Mod_order_80 ?_
  refine lv_topi (fun v1547 ev1547 => ?_)
  have hw := hw v1547 ev1547
  refine lv_istore (lv' := [(6, .int v1547), (5, .int s0), (0, .ref (ad 0)), (1, .int l1), (2, .int l2), (3, .int l3), (4, .int l4)]) hx hb d_Mod_order_81 hl (by decide) rfl (fun ls hl => ?_)
  refine lv_goto (tgt := 42) hx hb d_Mod_order_83 (by decide) ?_
  exact hrec42 l1 l2 l3 l4 s0 v1547 x1545 H locs ls  hw hW hS (lv_sub hl [2, 3, 4, 5, 6, 1, 0] rfl)
set_option maxRecDepth 100000 in
set_option maxHeartbeats 4000000 in
set_option maxRecDepth 100000 in
theorem t_Mod_order_42 {p : Program} {l : Launch} {e : Env} {R : Room} {s : State} {m : MethodId} {args : Array Value} {below : List Frame} {meth : Method} {c : Code} {cells slots : Nat} {Q : State → Prop} {dC : Nat → ClassId} {dI : Nat → Nat → Nat} {cI cB cJ cZ : ClassId} {A : Nat → Prop} {ad : Nat → Nat} {post : St → Prop} {rec12 : Int32 → Int32 → Int32 → St → Prop} {rec42 : Int32 → Int32 → Int32 → Int32 → Int32 → Int32 → St → Prop} (hx : p.tables.exec = Jvm.exec) (hb : c.code = b_Mod_order) (hml : c.maxLocals = 7) (hown : s.vm.findClass R_Mod = some m.cls) (hT : ∀ w ∈ TG, w.before args s = true) (hK : va_K (dC, dI) CL (TY cI cB cJ cZ) s) (hN : NW s) (hA : ∀ q : Nat, s.heap.size ≤ q → A q) (hRc : cells ≤ R.cells) (hRs : slots ≤ R.slots) (hRf : 2 ≤ R.frames) (hRl : 47 ≤ R.locals) (hret : ∀ (x : St) (H : Heap) (locs : List Loc) (pc : Nat) (ls : Array Slot), decode b_Mod_order pc = .ok (.return_, 1) → post x → Wd dC dI cI cB cJ cZ ad stM kcM 115 A x H → va_S A s.heap H locs → W p l e R s m args below meth c H locs cells slots Q (F0 m pc ls [])) (hrec12 : ∀ (l1 : Int32) (l2 : Int32) (l3 : Int32) (x : St) (H : Heap) (locs : List Loc) (ls : Array Slot), rec12 l1 l2 l3 x → Wd dC dI cI cB cJ cZ ad stM kcM 115 A x H → va_S A s.heap H locs → lv_has ls 7 [(0, .ref (ad 0)), (1, .int l1), (2, .int l2), (3, .int l3)] → W p l e R s m args below meth c H locs cells slots Q (F0 m 12 ls [])) (hrec42 : ∀ (l1 : Int32) (l2 : Int32) (l3 : Int32) (l4 : Int32) (l5 : Int32) (l6 : Int32) (x : St) (H : Heap) (locs : List Loc) (ls : Array Slot), rec42 l1 l2 l3 l4 l5 l6 x → Wd dC dI cI cB cJ cZ ad stM kcM 115 A x H → va_S A s.heap H locs → lv_has ls 7 [(0, .ref (ad 0)), (1, .int l1), (2, .int l2), (3, .int l3), (4, .int l4), (5, .int l5), (6, .int l6)] → W p l e R s m args below meth c H locs cells slots Q (F0 m 42 ls [])) : ∀ (l1 : Int32) (l2 : Int32) (l3 : Int32) (l4 : Int32) (l5 : Int32) (l6 : Int32) (x : St) (H : Heap) (locs : List Loc) (ls : Array Slot), j_Mod_order_42 post rec12 rec42 l1 l2 l3 l4 l5 l6 x → Wd dC dI cI cB cJ cZ ad stM kcM 115 A x H → va_S A s.heap H locs → lv_has ls 7 [(0, .ref (ad 0)), (1, .int l1), (2, .int l2), (3, .int l3), (4, .int l4), (5, .int l5), (6, .int l6)] → W p l e R s m args below meth c H locs cells slots Q (F0 m 42 ls []) := by
  intro l1 l2 l3 l4 l5 l6 x H locs ls  hw hW hS hl
  unfold j_Mod_order_42 at hw
  refine lv_iload hx hb d_Mod_order_42 (lv_at hl 6 rfl) ?_
  refine lv_iconst (v := (-1)) hx hb d_Mod_order_44 (by decide) ?_
  refine lv_icmp_eq (tgt := 86) hx hb d_Mod_order_45 (by decide) (fun c1548 => ?_) (fun c1548 => ?_)
  · have hw := hw.1 c1548
    refine lv_aload_n hx hb d_Mod_order_86 rfl (lv_at hl 0 rfl) ?_
    refine lv_iconst (v := 1) hx hb d_Mod_order_87 (by decide) ?_
    refine lv_iload hx hb d_Mod_order_88 (lv_at hl 5 rfl) ?_
    refine lv_iconst (v := 0) hx hb d_Mod_order_90 (by decide) ?_
    have hF := hW.free hS hA
    refine va_calli (va_runV (C := R_Mod) (As := [.int 1, .int l5, .int 0]) (rest := []) ⟨hx, hb, hml, hown, hT⟩ (k_Mod_level l dC dI cI cB cJ cZ ad H.size 1 l5 0 x  hw) ⟨callB_of 3 hT (gwt_in w_11_114) rfl rfl rfl (hT _ w_1_15) (hT _ w_11_111) (by decide +kernel) ⟨Nat.le_trans (Nat.le_of_ble_eq_true rfl) hRf, Nat.le_trans (Nat.le_of_ble_eq_true rfl) hRl⟩, hT _ w_11_113, hT _ ws_136⟩ ⟨PW.blind, va_recv hK hW.1 (ci := 12) (q0 := 0) rfl (pic_obj ko_0.1 ko_0.2 (by decide)), PW.at _ hW hK hN⟩ rfl rfl hl.1 rfl (lv_room (Nat.le_of_ble_eq_true rfl)) d_Mod_order_91 ⟨hRc, hRs⟩) hS (fun q _ h => hF q h) hF (fun r1550 x1549 t H locs ht hvm hw hB hz1 hk1 hS => ?_)
    have hW := Wd.back hB ht hF
    clear hB ht hF hz1 hk1 hvm
    refine lv_istore (lv' := [(6, .int r1550), (0, .ref (ad 0)), (1, .int l1), (2, .int l2), (3, .int l3), (4, .int l4), (5, .int l5)]) hx hb d_Mod_order_94 hl (by decide) rfl (fun ls hl => ?_)
    refine lv_aload_n hx hb d_Mod_order_96 rfl (lv_at hl 1 rfl) ?_
    refine lv_aload_n hx hb d_Mod_order_97 rfl (lv_at hl 1 rfl) ?_
    refine w_getf (q := 29) (k := 48) (t := 12) (C := R_Mod) (T := F_Mod) (N := 167) hx hb hT hown hK hW ko_0.1 ko_0.2 (by decide) in_Mod rfl rfl (by decide) rfl fr_Mod_48 w_8_224 d_Mod_order_98 rfl ?_
    refine lv_iload_n hx hb d_Mod_order_101 rfl (lv_at hl 4 rfl) ?_
    obtain ⟨hi, hw⟩ := hw
    refine w_iald (o := 29) hx hb hK hW ko_29.1 ko_29.2 hi d_Mod_order_102 ?_
    refine lv_iload hx hb d_Mod_order_103 (lv_at hl 0 rfl) ?_
    refine lv_icmp_lt (tgt := 121) hx hb d_Mod_order_105 (by decide) (fun c1551 => ?_) (fun c1551 => ?_)
    · have hw := hw.1 c1551
      exact t_Mod_order_121 hx hb hml hown hT hK hN hA hRc hRs hRf hRl hret hrec12 l1 l2 l3 l4 l5 r1550 x1549 H locs ls  hw hW hS (lv_sub hl [1, 2, 3, 4, 5, 6, 0] rfl)
    · have hw := hw.2 c1551
      refine lv_aload_n hx hb d_Mod_order_108 rfl (lv_at hl 1 rfl) ?_
      refine w_getf (q := 29) (k := 48) (t := 12) (C := R_Mod) (T := F_Mod) (N := 167) hx hb hT hown hK hW ko_0.1 ko_0.2 (by decide) in_Mod rfl rfl (by decide) rfl fr_Mod_48 w_8_224 d_Mod_order_109 rfl ?_
      refine lv_iload_n hx hb d_Mod_order_112 rfl (lv_at hl 4 rfl) ?_
      refine lv_iconst (v := 1) hx hb d_Mod_order_113 (by decide) ?_
      refine lv_isub hx hb d_Mod_order_114 ?_
      obtain ⟨hi, hw⟩ := hw
      refine w_iald (o := 29) hx hb hK hW ko_29.1 ko_29.2 hi d_Mod_order_115 ?_
      refine lv_iload hx hb d_Mod_order_116 (lv_at hl 0 rfl) ?_
      refine lv_icmp_ge (tgt := 125) hx hb d_Mod_order_118 (by decide) (fun c1552 => ?_) (fun c1552 => ?_)
      · have hw := hw.1 c1552
        refine lv_iconst (v := 0) hx hb d_Mod_order_125 (by decide) ?_
        exact t_Mod_order_126 hx hb hml hown hT hK hN hA hRc hRs hRf hRl hret hrec12 l1 l2 l3 l4 l5 r1550 0 x1549 H locs ls  hw hW hS (lv_sub hl [1, 2, 3, 4, 5, 6, 0] rfl)
      · have hw := hw.2 c1552
        exact t_Mod_order_121 hx hb hml hown hT hK hN hA hRc hRs hRf hRl hret hrec12 l1 l2 l3 l4 l5 r1550 x1549 H locs ls  hw hW hS (lv_sub hl [1, 2, 3, 4, 5, 6, 0] rfl)
  · have hw := hw.2 c1548
    refine lv_aload_n hx hb d_Mod_order_48 rfl (lv_at hl 0 rfl) ?_
    refine lv_iconst (v := 1) hx hb d_Mod_order_49 (by decide) ?_
    refine lv_iload hx hb d_Mod_order_50 (lv_at hl 6 rfl) ?_
    refine lv_iconst (v := 1) hx hb d_Mod_order_52 (by decide) ?_
    have hF := hW.free hS hA
    refine va_calli (va_runV (C := R_Mod) (As := [.int 1, .int l6, .int 1]) (rest := []) ⟨hx, hb, hml, hown, hT⟩ (k_Mod_level l dC dI cI cB cJ cZ ad H.size 1 l6 1 x  hw) ⟨callB_of 3 hT (gwt_in w_11_114) rfl rfl rfl (hT _ w_1_15) (hT _ w_11_111) (by decide +kernel) ⟨Nat.le_trans (Nat.le_of_ble_eq_true rfl) hRf, Nat.le_trans (Nat.le_of_ble_eq_true rfl) hRl⟩, hT _ w_11_113, hT _ ws_136⟩ ⟨PW.blind, va_recv hK hW.1 (ci := 12) (q0 := 0) rfl (pic_obj ko_0.1 ko_0.2 (by decide)), PW.at _ hW hK hN⟩ rfl rfl hl.1 rfl (lv_room (Nat.le_of_ble_eq_true rfl)) d_Mod_order_53 ⟨hRc, hRs⟩) hS (fun q _ h => hF q h) hF (fun r1554 x1553 t H locs ht hvm hw hB hz1 hk1 hS => ?_)
    have hW := Wd.back hB ht hF
    clear hB ht hF hz1 hk1 hvm
    refine lv_iload hx hb d_Mod_order_56 (lv_at hl 4 rfl) ?_
    refine lv_icmp_lt (tgt := 66) hx hb d_Mod_order_58 (by decide) (fun c1555 => ?_) (fun c1555 => ?_)
    · have hw := hw.1 c1555
      refine lv_iload hx hb d_Mod_order_66 (lv_at hl 5 rfl) ?_
      exact t_Mod_order_68 hx hb hml hown hT hK hN hA hRc hRs hRf hRl hret hrec12 hrec42 l1 l2 l3 l4 l5 l6 l5 x1553 H locs ls  hw hW hS (lv_sub hl [0, 1, 2, 3, 4, 5, 6] rfl)
    · have hw := hw.2 c1555
      refine lv_iload hx hb d_Mod_order_61 (lv_at hl 6 rfl) ?_
      refine lv_goto (tgt := 68) hx hb d_Mod_order_63 (by decide) ?_
      exact t_Mod_order_68 hx hb hml hown hT hK hN hA hRc hRs hRf hRl hret hrec12 hrec42 l1 l2 l3 l4 l5 l6 l6 x1553 H locs ls  hw hW hS (lv_sub hl [0, 1, 2, 3, 4, 5, 6] rfl)
set_option maxHeartbeats 4000000 in
set_option maxRecDepth 100000 in
theorem tl_Mod_order_42 {p : Program} {l : Launch} {e : Env} {R : Room} {s : State} {m : MethodId} {args : Array Value} {below : List Frame} {meth : Method} {c : Code} {cells slots : Nat} {Q : State → Prop} {dC : Nat → ClassId} {dI : Nat → Nat → Nat} {cI cB cJ cZ : ClassId} {A : Nat → Prop} {ad : Nat → Nat} {post : St → Prop} {rec12 : Int32 → Int32 → Int32 → St → Prop} (hx : p.tables.exec = Jvm.exec) (hb : c.code = b_Mod_order) (hml : c.maxLocals = 7) (hown : s.vm.findClass R_Mod = some m.cls) (hT : ∀ w ∈ TG, w.before args s = true) (hK : va_K (dC, dI) CL (TY cI cB cJ cZ) s) (hN : NW s) (hA : ∀ q : Nat, s.heap.size ≤ q → A q) (hRc : cells ≤ R.cells) (hRs : slots ≤ R.slots) (hRf : 2 ≤ R.frames) (hRl : 47 ≤ R.locals) (hret : ∀ (x : St) (H : Heap) (locs : List Loc) (pc : Nat) (ls : Array Slot), decode b_Mod_order pc = .ok (.return_, 1) → post x → Wd dC dI cI cB cJ cZ ad stM kcM 115 A x H → va_S A s.heap H locs → W p l e R s m args below meth c H locs cells slots Q (F0 m pc ls [])) (hrec12 : ∀ (l1 : Int32) (l2 : Int32) (l3 : Int32) (x : St) (H : Heap) (locs : List Loc) (ls : Array Slot), rec12 l1 l2 l3 x → Wd dC dI cI cB cJ cZ ad stM kcM 115 A x H → va_S A s.heap H locs → lv_has ls 7 [(0, .ref (ad 0)), (1, .int l1), (2, .int l2), (3, .int l3)] → W p l e R s m args below meth c H locs cells slots Q (F0 m 12 ls [])) : ∀ n : Nat, ∀ (l1 : Int32) (l2 : Int32) (l3 : Int32) (l4 : Int32) (l5 : Int32) (l6 : Int32) (x : St) (H : Heap) (locs : List Loc) (ls : Array Slot), wl_Mod_order_42 post rec12 n l1 l2 l3 l4 l5 l6 x → Wd dC dI cI cB cJ cZ ad stM kcM 115 A x H → va_S A s.heap H locs → lv_has ls 7 [(0, .ref (ad 0)), (1, .int l1), (2, .int l2), (3, .int l3), (4, .int l4), (5, .int l5), (6, .int l6)] → W p l e R s m args below meth c H locs cells slots Q (F0 m 42 ls []) := by
  intro n
  induction n with
  | zero => intro l1 l2 l3 l4 l5 l6 x H locs ls  hw; exact hw.elim
  | succ n ih => intro l1 l2 l3 l4 l5 l6 x H locs ls  hw hW hS hl; exact t_Mod_order_42 hx hb hml hown hT hK hN hA hRc hRs hRf hRl hret hrec12 ih l1 l2 l3 l4 l5 l6 x H locs ls  hw hW hS hl
set_option maxRecDepth 100000 in
set_option maxHeartbeats 4000000 in
set_option maxRecDepth 100000 in
theorem t_Mod_order_12 {p : Program} {l : Launch} {e : Env} {R : Room} {s : State} {m : MethodId} {args : Array Value} {below : List Frame} {meth : Method} {c : Code} {cells slots : Nat} {Q : State → Prop} {dC : Nat → ClassId} {dI : Nat → Nat → Nat} {cI cB cJ cZ : ClassId} {A : Nat → Prop} {ad : Nat → Nat} {post : St → Prop} {rec12 : Int32 → Int32 → Int32 → St → Prop} (hx : p.tables.exec = Jvm.exec) (hb : c.code = b_Mod_order) (hml : c.maxLocals = 7) (hown : s.vm.findClass R_Mod = some m.cls) (hT : ∀ w ∈ TG, w.before args s = true) (hK : va_K (dC, dI) CL (TY cI cB cJ cZ) s) (hN : NW s) (hA : ∀ q : Nat, s.heap.size ≤ q → A q) (hRc : cells ≤ R.cells) (hRs : slots ≤ R.slots) (hRf : 2 ≤ R.frames) (hRl : 47 ≤ R.locals) (hret : ∀ (x : St) (H : Heap) (locs : List Loc) (pc : Nat) (ls : Array Slot), decode b_Mod_order pc = .ok (.return_, 1) → post x → Wd dC dI cI cB cJ cZ ad stM kcM 115 A x H → va_S A s.heap H locs → W p l e R s m args below meth c H locs cells slots Q (F0 m pc ls [])) (hrec12 : ∀ (l1 : Int32) (l2 : Int32) (l3 : Int32) (x : St) (H : Heap) (locs : List Loc) (ls : Array Slot), rec12 l1 l2 l3 x → Wd dC dI cI cB cJ cZ ad stM kcM 115 A x H → va_S A s.heap H locs → lv_has ls 7 [(0, .ref (ad 0)), (1, .int l1), (2, .int l2), (3, .int l3)] → W p l e R s m args below meth c H locs cells slots Q (F0 m 12 ls [])) : ∀ (l1 : Int32) (l2 : Int32) (l3 : Int32) (x : St) (H : Heap) (locs : List Loc) (ls : Array Slot), j_Mod_order_12 post rec12 l1 l2 l3 x → Wd dC dI cI cB cJ cZ ad stM kcM 115 A x H → va_S A s.heap H locs → lv_has ls 7 [(0, .ref (ad 0)), (1, .int l1), (2, .int l2), (3, .int l3)] → W p l e R s m args below meth c H locs cells slots Q (F0 m 12 ls []) := by
  intro l1 l2 l3 x H locs ls  hw hW hS hl
  unfold j_Mod_order_12 at hw
  refine lv_iload_n hx hb d_Mod_order_12 rfl (lv_at hl 3 rfl) ?_
  refine lv_aload_n hx hb d_Mod_order_13 rfl (lv_at hl 0 rfl) ?_
  refine w_geti (k := 41) (t := 12) (C := R_Mod) (T := F_Mod) (N := 167) hx hb hT hown hK hW ko_0.1 ko_0.2 (by decide) in_Mod rfl rfl (by decide) rfl fr_Mod_41 w_8_217 d_Mod_order_14 ?_
  refine lv_icmp_ge (tgt := 137) hx hb d_Mod_order_17 (by decide) (fun c1556 => ?_) (fun c1556 => ?_)
  · have hw := hw.1 c1556
    exact hret x H locs 137 ls d_Mod_order_137 hw hW hS
  · have hw := hw.2 c1556
    refine lv_aload_n hx hb d_Mod_order_20 rfl (lv_at hl 0 rfl) ?_
    refine w_getf (q := 28) (k := 47) (t := 12) (C := R_Mod) (T := F_Mod) (N := 167) hx hb hT hown hK hW ko_0.1 ko_0.2 (by decide) in_Mod rfl rfl (by decide) rfl fr_Mod_47 w_8_223 d_Mod_order_21 rfl ?_
    refine lv_iload_n hx hb d_Mod_order_24 rfl (lv_at hl 3 rfl) ?_
    obtain ⟨hi, hw⟩ := hw
    refine w_iald (o := 28) hx hb hK hW ko_28.1 ko_28.2 hi d_Mod_order_25 ?_
    refine lv_topi (fun v1557 ev1557 => ?_)
    have hw := hw v1557 ev1557
    refine lv_istore (lv' := [(4, .int v1557), (0, .ref (ad 0)), (1, .int l1), (2, .int l2), (3, .int l3)]) hx hb d_Mod_order_26 hl (by decide) rfl (fun ls hl => ?_)
    refine lv_iload hx hb d_Mod_order_28 (lv_at hl 0 rfl) ?_
    refine lv_if_ne (tgt := 36) hx hb d_Mod_order_30 (by decide) (fun c1558 => ?_) (fun c1558 => ?_)
    · have hw := hw.1 c1558
      refine lv_iload_n hx hb d_Mod_order_36 rfl (lv_at hl 3 rfl) ?_
      refine lv_istore (lv' := [(5, .int l2), (4, .int v1557), (0, .ref (ad 0)), (1, .int l1), (2, .int l2), (3, .int l3)]) hx hb d_Mod_order_37 hl (by decide) rfl (fun ls hl => ?_)
      refine lv_iload_n hx hb d_Mod_order_39 rfl (lv_at hl 4 rfl) ?_
      refine lv_istore (lv' := [(6, .int l2), (5, .int l2), (4, .int v1557), (0, .ref (ad 0)), (1, .int l1), (2, .int l2), (3, .int l3)]) hx hb d_Mod_order_40 hl (by decide) rfl (fun ls hl => ?_)
      obtain ⟨n, hw⟩ := hw
      exact tl_Mod_order_42 hx hb hml hown hT hK hN hA hRc hRs hRf hRl hret hrec12 n l1 l2 l3 v1557 l2 l2 x H locs ls  hw hW hS (lv_sub hl [3, 4, 5, 6, 2, 1, 0] rfl)
    · have hw := hw.2 c1558
      refine lv_goto (tgt := 131) hx hb d_Mod_order_33 (by decide) ?_
      exact t_Mod_order_131 hx hb hml hown hT hK hN hA hRc hRs hRf hRl hret hrec12 l1 l2 l3 v1557 x H locs ls  hw hW hS (lv_sub hl [1, 2, 3, 4, 0] rfl)
set_option maxHeartbeats 4000000 in
set_option maxRecDepth 100000 in
theorem tl_Mod_order_12 {p : Program} {l : Launch} {e : Env} {R : Room} {s : State} {m : MethodId} {args : Array Value} {below : List Frame} {meth : Method} {c : Code} {cells slots : Nat} {Q : State → Prop} {dC : Nat → ClassId} {dI : Nat → Nat → Nat} {cI cB cJ cZ : ClassId} {A : Nat → Prop} {ad : Nat → Nat} {post : St → Prop} (hx : p.tables.exec = Jvm.exec) (hb : c.code = b_Mod_order) (hml : c.maxLocals = 7) (hown : s.vm.findClass R_Mod = some m.cls) (hT : ∀ w ∈ TG, w.before args s = true) (hK : va_K (dC, dI) CL (TY cI cB cJ cZ) s) (hN : NW s) (hA : ∀ q : Nat, s.heap.size ≤ q → A q) (hRc : cells ≤ R.cells) (hRs : slots ≤ R.slots) (hRf : 2 ≤ R.frames) (hRl : 47 ≤ R.locals) (hret : ∀ (x : St) (H : Heap) (locs : List Loc) (pc : Nat) (ls : Array Slot), decode b_Mod_order pc = .ok (.return_, 1) → post x → Wd dC dI cI cB cJ cZ ad stM kcM 115 A x H → va_S A s.heap H locs → W p l e R s m args below meth c H locs cells slots Q (F0 m pc ls []))  : ∀ n : Nat, ∀ (l1 : Int32) (l2 : Int32) (l3 : Int32) (x : St) (H : Heap) (locs : List Loc) (ls : Array Slot), wl_Mod_order_12 post n l1 l2 l3 x → Wd dC dI cI cB cJ cZ ad stM kcM 115 A x H → va_S A s.heap H locs → lv_has ls 7 [(0, .ref (ad 0)), (1, .int l1), (2, .int l2), (3, .int l3)] → W p l e R s m args below meth c H locs cells slots Q (F0 m 12 ls []) := by
  intro n
  induction n with
  | zero => intro l1 l2 l3 x H locs ls  hw; exact hw.elim
  | succ n ih => intro l1 l2 l3 x H locs ls  hw hW hS hl; exact t_Mod_order_12 hx hb hml hown hT hK hN hA hRc hRs hRf hRl hret  ih l1 l2 l3 x H locs ls  hw hW hS hl
set_option maxRecDepth 100000 in
set_option maxHeartbeats 4000000 in
set_option maxRecDepth 100000 in
theorem t_Mod_order_e {p : Program} {l : Launch} {e : Env} {R : Room} {s : State} {m : MethodId} {args : Array Value} {below : List Frame} {meth : Method} {c : Code} {cells slots : Nat} {Q : State → Prop} {dC : Nat → ClassId} {dI : Nat → Nat → Nat} {cI cB cJ cZ : ClassId} {A : Nat → Prop} {ad : Nat → Nat} {post : St → Prop} (hx : p.tables.exec = Jvm.exec) (hb : c.code = b_Mod_order) (hml : c.maxLocals = 7) (hown : s.vm.findClass R_Mod = some m.cls) (hT : ∀ w ∈ TG, w.before args s = true) (hK : va_K (dC, dI) CL (TY cI cB cJ cZ) s) (hN : NW s) (hA : ∀ q : Nat, s.heap.size ≤ q → A q) (hRc : cells ≤ R.cells) (hRs : slots ≤ R.slots) (hRf : 2 ≤ R.frames) (hRl : 47 ≤ R.locals) (hret : ∀ (x : St) (H : Heap) (locs : List Loc) (pc : Nat) (ls : Array Slot), decode b_Mod_order pc = .ok (.return_, 1) → post x → Wd dC dI cI cB cJ cZ ad stM kcM 115 A x H → va_S A s.heap H locs → W p l e R s m args below meth c H locs cells slots Q (F0 m pc ls [])) : ∀ (l1 : Int32) (x : St) (H : Heap) (locs : List Loc) (ls : Array Slot), wp_Mod_order post l1 x → Wd dC dI cI cB cJ cZ ad stM kcM 115 A x H → va_S A s.heap H locs → lv_has ls 7 [(0, .ref (ad 0)), (1, .int l1)] → W p l e R s m args below meth c H locs cells slots Q (F0 m 0 ls []) := by
  intro l1 x H locs ls  hw hW hS hl
  unfold wp_Mod_order at hw
  refine lv_aload_n hx hb d_Mod_order_0 rfl (lv_at hl 0 rfl) ?_
  refine w_getf (q := 11) (k := 13) (t := 12) (C := R_Mod) (T := F_Mod) (N := 167) hx hb hT hown hK hW ko_0.1 ko_0.2 (by decide) in_Mod rfl rfl (by decide) rfl fr_Mod_13 w_8_189 d_Mod_order_1 rfl ?_
  refine lv_bipush (v := 64) hx hb d_Mod_order_4 (by decide) ?_
  refine lv_iload_n hx hb d_Mod_order_6 rfl (lv_at hl 1 rfl) ?_
  refine lv_iadd hx hb d_Mod_order_7 ?_
  obtain ⟨hi, hw⟩ := hw
  refine w_iald (o := 11) hx hb hK hW ko_11.1 ko_11.2 hi d_Mod_order_8 ?_
  refine lv_topi (fun v1559 ev1559 => ?_)
  have hw := hw v1559 ev1559
  refine lv_istore_n (lv' := [(2, .int v1559), (0, .ref (ad 0)), (1, .int l1)]) hx hb d_Mod_order_9 rfl hl (by decide) rfl (fun ls hl => ?_)
  refine lv_iconst (v := 1) hx hb d_Mod_order_10 (by decide) ?_
  refine lv_istore_n (lv' := [(3, .int 1), (2, .int v1559), (0, .ref (ad 0)), (1, .int l1)]) hx hb d_Mod_order_11 rfl hl (by decide) rfl (fun ls hl => ?_)
  obtain ⟨n, hw⟩ := hw
  exact tl_Mod_order_12 hx hb hml hown hT hK hN hA hRc hRs hRf hRl hret  n l1 v1559 1 x H locs ls  hw hW hS (lv_sub hl [2, 3, 1, 0] rfl)
set_option maxHeartbeats 4000000 in
set_option maxRecDepth 100000 in
theorem k_Mod_order (l : Launch) (dC : Nat → ClassId) (dI : Nat → Nat → Nat) (cI cB cJ cZ : ClassId) (ad : Nat → Nat) (sz : Nat) (l1 : Int32) (x : St) {post : St → Prop} (hw : wp_Mod_order post l1 x) : Met l y_Mod_order (wsOf y_Mod_order b_Mod_order 7 (none)) ({ frames := 2, cells := 0, slots := 0, locals := 47 }) (va_Pc [.ref (ad 0), .int l1] (PW dC dI cI cB cJ cZ ad stM kcM 115 sz x)) (va_Qv (fun (y : St) => post y) (fun y t => Wd dC dI cI cB cJ cZ ad stM kcM 115 (va_A (pic ad stM kcM 115 cI cB cJ cZ x) sz) y t.heap) (va_A (pic ad stM kcM 115 cI cB cJ cZ x) sz)) 0 0 (va_A (pic ad stM kcM 115 cI cB cJ cZ x) sz) := by
  refine Met.ofW (cc := b_Mod_order) (maxL := 7) (ret := none) (by decide) rfl ?_
  intro p e s m args below meth c s₁ B hml hv
  obtain ⟨rfl, hsz, hW0, hK, hN⟩ := hv
  have hx := B.exec
  have hb := B.bytes
  have hr := B.returns
  have hts := atoms_spec B.pre
  have hT : ∀ w ∈ TG, w.before _ s = true := fun w h => hts w (List.mem_cons_of_mem _ h)
  have hown : s.vm.findClass R_Mod = some m.cls := findClass_of_methodNamed B.named
  have hlocks := B.notSynchronized
  subst hsz
  have hW : Wd dC dI cI cB cJ cZ ad stM kcM 115 (va_A (pic ad stM kcM 115 cI cB cJ cZ x) s.heap.size) x s.heap := ⟨hW0.1, hW0.2.1.self (sz := s.heap.size), hW0.2.2⟩
  generalize hAe : va_A (pic ad stM kcM 115 cI cB cJ cZ x) s.heap.size = A at hW ⊢
  have hA : ∀ q : Nat, s.heap.size ≤ q → A q := fun q h => by rw [← hAe]; exact Or.inr h
  have hS : va_S A s.heap s.heap [] := va_S.rf
  have hl := lv_entry ([.ref (ad 0), .int l1]) (n := 7) (Nat.le_of_ble_eq_true rfl)
  rw [lg_entry_eq]
  generalize (lg_sl ([.ref (ad 0), .int l1]) ++ List.replicate (7 - (lg_sl ([.ref (ad 0), .int l1])).length) Slot.unset).toArray = ls at hl ⊢
  have hl : lv_has ls 7 [(0, .ref (ad 0)), (1, .int l1)] := hl
  exact t_Mod_order_e hx hb hml hown hT hK hN hA (Nat.le_refl 0) (Nat.le_refl 0) (Nat.le_refl 2) (Nat.le_refl 47) (fun x H locs pc ls hd hp hW hS => W.vret hx hb hr (fun t ht hM => ⟨⟨x, rfl, hp, Wd.back hW ht.symm (fun _ z => z)⟩, hS.F ht⟩) hS.2.2 hd hlocks)  l1 x _ _ ls  hw hW hS hl
set_option maxRecDepth 100000 in
set_option maxHeartbeats 4000000 in
set_option maxRecDepth 100000 in
theorem t_Mod_compare_139 {p : Program} {l : Launch} {e : Env} {R : Room} {s : State} {m : MethodId} {args : Array Value} {below : List Frame} {meth : Method} {c : Code} {cells slots : Nat} {Q : State → Prop} {dC : Nat → ClassId} {dI : Nat → Nat → Nat} {cI cB cJ cZ : ClassId} {A : Nat → Prop} {ad : Nat → Nat} {post : Int32 → St → Prop} (hx : p.tables.exec = Jvm.exec) (hb : c.code = b_Mod_compare) (hml : c.maxLocals = 5) (hown : s.vm.findClass R_Mod = some m.cls) (hT : ∀ w ∈ TG, w.before args s = true) (hK : va_K (dC, dI) CL (TY cI cB cJ cZ) s) (hN : NW s) (hA : ∀ q : Nat, s.heap.size ≤ q → A q) (hRc : cells ≤ R.cells) (hRs : slots ≤ R.slots) (hRf : 0 ≤ R.frames) (hRl : 0 ≤ R.locals) (hret : ∀ (r : Int32) (x : St) (H : Heap) (locs : List Loc) (pc : Nat) (ls : Array Slot), decode b_Mod_compare pc = .ok (.ireturn, 1) → post r x → Wd dC dI cI cB cJ cZ ad stM kcM 115 A x H → va_S A s.heap H locs → W p l e R s m args below meth c H locs cells slots Q (F0 m pc ls [.int r]))  : ∀ (l1 : Int32) (l2 : Int32) (l3 : Int32) (l4 : Int32) (x : St) (H : Heap) (locs : List Loc) (ls : Array Slot), j_Mod_compare_139 post l1 l2 l3 l4 x → Wd dC dI cI cB cJ cZ ad stM kcM 115 A x H → va_S A s.heap H locs → lv_has ls 5 [(0, .ref (ad 0)), (1, .int l1), (2, .int l2), (3, .int l3), (4, .int l4)] → W p l e R s m args below meth c H locs cells slots Q (F0 m 139 ls []) := by
  intro l1 l2 l3 l4 x H locs ls  hw hW hS hl
  unfold j_Mod_compare_139 at hw
  refine lv_aload_n hx hb d_Mod_compare_139 rfl (lv_at hl 0 rfl) ?_
  refine w_getf (q := 56) (k := 91) (t := 12) (C := R_Mod) (T := F_Mod) (N := 167) hx hb hT hown hK hW ko_0.1 ko_0.2 (by decide) in_Mod rfl rfl (by decide) rfl fr_Mod_91 w_9_27 d_Mod_compare_140 rfl ?_
  refine lv_iload_n hx hb d_Mod_compare_143 rfl (lv_at hl 2 rfl) ?_
  obtain ⟨hi, hw⟩ := hw
  refine w_iald (o := 56) hx hb hK hW ko_56.1 ko_56.2 hi d_Mod_compare_144 ?_
  refine lv_aload_n hx hb d_Mod_compare_145 rfl (lv_at hl 0 rfl) ?_
  refine w_getf (q := 56) (k := 91) (t := 12) (C := R_Mod) (T := F_Mod) (N := 167) hx hb hT hown hK hW ko_0.1 ko_0.2 (by decide) in_Mod rfl rfl (by decide) rfl fr_Mod_91 w_9_27 d_Mod_compare_146 rfl ?_
  refine lv_iload_n hx hb d_Mod_compare_149 rfl (lv_at hl 3 rfl) ?_
  obtain ⟨hi, hw⟩ := hw
  refine w_iald (o := 56) hx hb hK hW ko_56.1 ko_56.2 hi d_Mod_compare_150 ?_
  refine lv_isub hx hb d_Mod_compare_151 ?_
  exact hret ((rA x 56 l2) - (rA x 56 l3)) x H locs 152 ls d_Mod_compare_152 hw hW hS
set_option maxRecDepth 100000 in
set_option maxHeartbeats 4000000 in
set_option maxRecDepth 100000 in
theorem t_Mod_compare_50 {p : Program} {l : Launch} {e : Env} {R : Room} {s : State} {m : MethodId} {args : Array Value} {below : List Frame} {meth : Method} {c : Code} {cells slots : Nat} {Q : State → Prop} {dC : Nat → ClassId} {dI : Nat → Nat → Nat} {cI cB cJ cZ : ClassId} {A : Nat → Prop} {ad : Nat → Nat} {post : Int32 → St → Prop} {rec50 : Int32 → Int32 → Int32 → Int32 → St → Prop} (hx : p.tables.exec = Jvm.exec) (hb : c.code = b_Mod_compare) (hml : c.maxLocals = 5) (hown : s.vm.findClass R_Mod = some m.cls) (hT : ∀ w ∈ TG, w.before args s = true) (hK : va_K (dC, dI) CL (TY cI cB cJ cZ) s) (hN : NW s) (hA : ∀ q : Nat, s.heap.size ≤ q → A q) (hRc : cells ≤ R.cells) (hRs : slots ≤ R.slots) (hRf : 0 ≤ R.frames) (hRl : 0 ≤ R.locals) (hret : ∀ (r : Int32) (x : St) (H : Heap) (locs : List Loc) (pc : Nat) (ls : Array Slot), decode b_Mod_compare pc = .ok (.ireturn, 1) → post r x → Wd dC dI cI cB cJ cZ ad stM kcM 115 A x H → va_S A s.heap H locs → W p l e R s m args below meth c H locs cells slots Q (F0 m pc ls [.int r])) (hrec50 : ∀ (l1 : Int32) (l2 : Int32) (l3 : Int32) (l4 : Int32) (x : St) (H : Heap) (locs : List Loc) (ls : Array Slot), rec50 l1 l2 l3 l4 x → Wd dC dI cI cB cJ cZ ad stM kcM 115 A x H → va_S A s.heap H locs → lv_has ls 5 [(0, .ref (ad 0)), (1, .int l1), (2, .int l2), (3, .int l3), (4, .int l4)] → W p l e R s m args below meth c H locs cells slots Q (F0 m 50 ls [])) : ∀ (l1 : Int32) (l2 : Int32) (l3 : Int32) (l4 : Int32) (x : St) (H : Heap) (locs : List Loc) (ls : Array Slot), j_Mod_compare_50 post rec50 l1 l2 l3 l4 x → Wd dC dI cI cB cJ cZ ad stM kcM 115 A x H → va_S A s.heap H locs → lv_has ls 5 [(0, .ref (ad 0)), (1, .int l1), (2, .int l2), (3, .int l3), (4, .int l4)] → W p l e R s m args below meth c H locs cells slots Q (F0 m 50 ls []) := by
  intro l1 l2 l3 l4 x H locs ls  hw hW hS hl
  unfold j_Mod_compare_50 at hw
  refine lv_iload hx hb d_Mod_compare_50 (lv_at hl 4 rfl) ?_
  refine lv_aload_n hx hb d_Mod_compare_52 rfl (lv_at hl 0 rfl) ?_
  refine w_getf (q := 56) (k := 91) (t := 12) (C := R_Mod) (T := F_Mod) (N := 167) hx hb hT hown hK hW ko_0.1 ko_0.2 (by decide) in_Mod rfl rfl (by decide) rfl fr_Mod_91 w_9_27 d_Mod_compare_53 rfl ?_
  refine lv_iload_n hx hb d_Mod_compare_56 rfl (lv_at hl 2 rfl) ?_
  obtain ⟨hi, hw⟩ := hw
  refine w_iald (o := 56) hx hb hK hW ko_56.1 ko_56.2 hi d_Mod_compare_57 ?_
  refine lv_icmp_ge (tgt := 139) hx hb d_Mod_compare_58 (by decide) (fun c1560 => ?_) (fun c1560 => ?_)
  · have hw := hw.1 c1560
    exact t_Mod_compare_139 hx hb hml hown hT hK hN hA hRc hRs hRf hRl hret  l1 l2 l3 l4 x H locs ls  hw hW hS (lv_sub hl [0, 1, 2, 3, 4] rfl)
  · have hw := hw.2 c1560
    refine lv_iload hx hb d_Mod_compare_61 (lv_at hl 4 rfl) ?_
    refine lv_aload_n hx hb d_Mod_compare_63 rfl (lv_at hl 0 rfl) ?_
    refine w_getf (q := 56) (k := 91) (t := 12) (C := R_Mod) (T := F_Mod) (N := 167) hx hb hT hown hK hW ko_0.1 ko_0.2 (by decide) in_Mod rfl rfl (by decide) rfl fr_Mod_91 w_9_27 d_Mod_compare_64 rfl ?_
    refine lv_iload_n hx hb d_Mod_compare_67 rfl (lv_at hl 3 rfl) ?_
    obtain ⟨hi, hw⟩ := hw
    refine w_iald (o := 56) hx hb hK hW ko_56.1 ko_56.2 hi d_Mod_compare_68 ?_
    refine lv_icmp_ge (tgt := 139) hx hb d_Mod_compare_69 (by decide) (fun c1561 => ?_) (fun c1561 => ?_)
    · have hw := hw.1 c1561
      exact t_Mod_compare_139 hx hb hml hown hT hK hN hA hRc hRs hRf hRl hret  l1 l2 l3 l4 x H locs ls  hw hW hS (lv_sub hl [0, 1, 2, 3, 4] rfl)
    · have hw := hw.2 c1561
      refine lv_aload_n hx hb d_Mod_compare_72 rfl (lv_at hl 0 rfl) ?_
      refine w_getf (q := 57) (k := 92) (t := 12) (C := R_Mod) (T := F_Mod) (N := 167) hx hb hT hown hK hW ko_0.1 ko_0.2 (by decide) in_Mod rfl rfl (by decide) rfl fr_Mod_92 w_9_28 d_Mod_compare_73 rfl ?_
      refine lv_aload_n hx hb d_Mod_compare_76 rfl (lv_at hl 0 rfl) ?_
      refine w_getf (q := 55) (k := 90) (t := 12) (C := R_Mod) (T := F_Mod) (N := 167) hx hb hT hown hK hW ko_0.1 ko_0.2 (by decide) in_Mod rfl rfl (by decide) rfl fr_Mod_90 w_9_26 d_Mod_compare_77 rfl ?_
      refine lv_iload_n hx hb d_Mod_compare_80 rfl (lv_at hl 2 rfl) ?_
      obtain ⟨hi, hw⟩ := hw
      refine w_iald (o := 55) hx hb hK hW ko_55.1 ko_55.2 hi d_Mod_compare_81 ?_
      refine lv_iload hx hb d_Mod_compare_82 (lv_at hl 4 rfl) ?_
      refine lv_iadd hx hb d_Mod_compare_84 ?_
      obtain ⟨hi, hw⟩ := hw
      refine w_iald (o := 57) hx hb hK hW ko_57.1 ko_57.2 hi d_Mod_compare_85 ?_
      refine lv_aload_n hx hb d_Mod_compare_86 rfl (lv_at hl 0 rfl) ?_
      refine w_getf (q := 57) (k := 92) (t := 12) (C := R_Mod) (T := F_Mod) (N := 167) hx hb hT hown hK hW ko_0.1 ko_0.2 (by decide) in_Mod rfl rfl (by decide) rfl fr_Mod_92 w_9_28 d_Mod_compare_87 rfl ?_
      refine lv_aload_n hx hb d_Mod_compare_90 rfl (lv_at hl 0 rfl) ?_
      refine w_getf (q := 55) (k := 90) (t := 12) (C := R_Mod) (T := F_Mod) (N := 167) hx hb hT hown hK hW ko_0.1 ko_0.2 (by decide) in_Mod rfl rfl (by decide) rfl fr_Mod_90 w_9_26 d_Mod_compare_91 rfl ?_
      refine lv_iload_n hx hb d_Mod_compare_94 rfl (lv_at hl 3 rfl) ?_
      obtain ⟨hi, hw⟩ := hw
      refine w_iald (o := 55) hx hb hK hW ko_55.1 ko_55.2 hi d_Mod_compare_95 ?_
      refine lv_iload hx hb d_Mod_compare_96 (lv_at hl 4 rfl) ?_
      refine lv_iadd hx hb d_Mod_compare_98 ?_
      obtain ⟨hi, hw⟩ := hw
      refine w_iald (o := 57) hx hb hK hW ko_57.1 ko_57.2 hi d_Mod_compare_99 ?_
      refine lv_icmp_eq (tgt := 133) hx hb d_Mod_compare_100 (by decide) (fun c1562 => ?_) (fun c1562 => ?_)
      · have hw := hw.1 c1562
        refine lv_iinc (v := (l4 + 1)) (lv' := [(4, .int (l4 + 1)), (0, .ref (ad 0)), (1, .int l1), (2, .int l2), (3, .int l3)]) hx hb d_Mod_compare_133 hl (k := 4) rfl rfl (by decide) rfl (fun ls hl => ?_)
        refine lv_goto (tgt := 50) hx hb d_Mod_compare_136 (by decide) ?_
        exact hrec50 l1 l2 l3 (l4 + 1) x H locs ls  hw hW hS (lv_sub hl [1, 2, 3, 4, 0] rfl)
      · have hw := hw.2 c1562
        refine lv_aload_n hx hb d_Mod_compare_103 rfl (lv_at hl 0 rfl) ?_
        refine w_getf (q := 57) (k := 92) (t := 12) (C := R_Mod) (T := F_Mod) (N := 167) hx hb hT hown hK hW ko_0.1 ko_0.2 (by decide) in_Mod rfl rfl (by decide) rfl fr_Mod_92 w_9_28 d_Mod_compare_104 rfl ?_
        refine lv_aload_n hx hb d_Mod_compare_107 rfl (lv_at hl 0 rfl) ?_
        refine w_getf (q := 55) (k := 90) (t := 12) (C := R_Mod) (T := F_Mod) (N := 167) hx hb hT hown hK hW ko_0.1 ko_0.2 (by decide) in_Mod rfl rfl (by decide) rfl fr_Mod_90 w_9_26 d_Mod_compare_108 rfl ?_
        refine lv_iload_n hx hb d_Mod_compare_111 rfl (lv_at hl 2 rfl) ?_
        obtain ⟨hi, hw⟩ := hw
        refine w_iald (o := 55) hx hb hK hW ko_55.1 ko_55.2 hi d_Mod_compare_112 ?_
        refine lv_iload hx hb d_Mod_compare_113 (lv_at hl 4 rfl) ?_
        refine lv_iadd hx hb d_Mod_compare_115 ?_
        obtain ⟨hi, hw⟩ := hw
        refine w_iald (o := 57) hx hb hK hW ko_57.1 ko_57.2 hi d_Mod_compare_116 ?_
        refine lv_aload_n hx hb d_Mod_compare_117 rfl (lv_at hl 0 rfl) ?_
        refine w_getf (q := 57) (k := 92) (t := 12) (C := R_Mod) (T := F_Mod) (N := 167) hx hb hT hown hK hW ko_0.1 ko_0.2 (by decide) in_Mod rfl rfl (by decide) rfl fr_Mod_92 w_9_28 d_Mod_compare_118 rfl ?_
        refine lv_aload_n hx hb d_Mod_compare_121 rfl (lv_at hl 0 rfl) ?_
        refine w_getf (q := 55) (k := 90) (t := 12) (C := R_Mod) (T := F_Mod) (N := 167) hx hb hT hown hK hW ko_0.1 ko_0.2 (by decide) in_Mod rfl rfl (by decide) rfl fr_Mod_90 w_9_26 d_Mod_compare_122 rfl ?_
        refine lv_iload_n hx hb d_Mod_compare_125 rfl (lv_at hl 3 rfl) ?_
        obtain ⟨hi, hw⟩ := hw
        refine w_iald (o := 55) hx hb hK hW ko_55.1 ko_55.2 hi d_Mod_compare_126 ?_
        refine lv_iload hx hb d_Mod_compare_127 (lv_at hl 4 rfl) ?_
        refine lv_iadd hx hb d_Mod_compare_129 ?_
        obtain ⟨hi, hw⟩ := hw
        refine w_iald (o := 57) hx hb hK hW ko_57.1 ko_57.2 hi d_Mod_compare_130 ?_
        refine lv_isub hx hb d_Mod_compare_131 ?_
        exact hret ((rA x 57 ((rA x 55 l2) + l4)) - (rA x 57 ((rA x 55 l3) + l4))) x H locs 132 ls d_Mod_compare_132 hw hW hS
set_option maxHeartbeats 4000000 in
set_option maxRecDepth 100000 in
theorem tl_Mod_compare_50 {p : Program} {l : Launch} {e : Env} {R : Room} {s : State} {m : MethodId} {args : Array Value} {below : List Frame} {meth : Method} {c : Code} {cells slots : Nat} {Q : State → Prop} {dC : Nat → ClassId} {dI : Nat → Nat → Nat} {cI cB cJ cZ : ClassId} {A : Nat → Prop} {ad : Nat → Nat} {post : Int32 → St → Prop} (hx : p.tables.exec = Jvm.exec) (hb : c.code = b_Mod_compare) (hml : c.maxLocals = 5) (hown : s.vm.findClass R_Mod = some m.cls) (hT : ∀ w ∈ TG, w.before args s = true) (hK : va_K (dC, dI) CL (TY cI cB cJ cZ) s) (hN : NW s) (hA : ∀ q : Nat, s.heap.size ≤ q → A q) (hRc : cells ≤ R.cells) (hRs : slots ≤ R.slots) (hRf : 0 ≤ R.frames) (hRl : 0 ≤ R.locals) (hret : ∀ (r : Int32) (x : St) (H : Heap) (locs : List Loc) (pc : Nat) (ls : Array Slot), decode b_Mod_compare pc = .ok (.ireturn, 1) → post r x → Wd dC dI cI cB cJ cZ ad stM kcM 115 A x H → va_S A s.heap H locs → W p l e R s m args below meth c H locs cells slots Q (F0 m pc ls [.int r]))  : ∀ n : Nat, ∀ (l1 : Int32) (l2 : Int32) (l3 : Int32) (l4 : Int32) (x : St) (H : Heap) (locs : List Loc) (ls : Array Slot), wl_Mod_compare_50 post n l1 l2 l3 l4 x → Wd dC dI cI cB cJ cZ ad stM kcM 115 A x H → va_S A s.heap H locs → lv_has ls 5 [(0, .ref (ad 0)), (1, .int l1), (2, .int l2), (3, .int l3), (4, .int l4)] → W p l e R s m args below meth c H locs cells slots Q (F0 m 50 ls []) := by
  intro n
  induction n with
  | zero => intro l1 l2 l3 l4 x H locs ls  hw; exact hw.elim
  | succ n ih => intro l1 l2 l3 l4 x H locs ls  hw hW hS hl; exact t_Mod_compare_50 hx hb hml hown hT hK hN hA hRc hRs hRf hRl hret  ih l1 l2 l3 l4 x H locs ls  hw hW hS hl
set_option maxRecDepth 100000 in
set_option maxHeartbeats 4000000 in
set_option maxRecDepth 100000 in
theorem t_Mod_compare_e {p : Program} {l : Launch} {e : Env} {R : Room} {s : State} {m : MethodId} {args : Array Value} {below : List Frame} {meth : Method} {c : Code} {cells slots : Nat} {Q : State → Prop} {dC : Nat → ClassId} {dI : Nat → Nat → Nat} {cI cB cJ cZ : ClassId} {A : Nat → Prop} {ad : Nat → Nat} {post : Int32 → St → Prop} (hx : p.tables.exec = Jvm.exec) (hb : c.code = b_Mod_compare) (hml : c.maxLocals = 5) (hown : s.vm.findClass R_Mod = some m.cls) (hT : ∀ w ∈ TG, w.before args s = true) (hK : va_K (dC, dI) CL (TY cI cB cJ cZ) s) (hN : NW s) (hA : ∀ q : Nat, s.heap.size ≤ q → A q) (hRc : cells ≤ R.cells) (hRs : slots ≤ R.slots) (hRf : 0 ≤ R.frames) (hRl : 0 ≤ R.locals) (hret : ∀ (r : Int32) (x : St) (H : Heap) (locs : List Loc) (pc : Nat) (ls : Array Slot), decode b_Mod_compare pc = .ok (.ireturn, 1) → post r x → Wd dC dI cI cB cJ cZ ad stM kcM 115 A x H → va_S A s.heap H locs → W p l e R s m args below meth c H locs cells slots Q (F0 m pc ls [.int r])) : ∀ (l1 : Int32) (l2 : Int32) (l3 : Int32) (x : St) (H : Heap) (locs : List Loc) (ls : Array Slot), wp_Mod_compare post l1 l2 l3 x → Wd dC dI cI cB cJ cZ ad stM kcM 115 A x H → va_S A s.heap H locs → lv_has ls 5 [(0, .ref (ad 0)), (1, .int l1), (2, .int l2), (3, .int l3)] → W p l e R s m args below meth c H locs cells slots Q (F0 m 0 ls []) := by
  intro l1 l2 l3 x H locs ls  hw hW hS hl
  unfold wp_Mod_compare at hw
  refine lv_iload_n hx hb d_Mod_compare_0 rfl (lv_at hl 1 rfl) ?_
  refine lv_iconst (v := 3) hx hb d_Mod_compare_1 (by decide) ?_
  refine lv_icmp_eq (tgt := 47) hx hb d_Mod_compare_2 (by decide) (fun c1563 => ?_) (fun c1563 => ?_)
  · have hw := hw.1 c1563
    refine lv_iconst (v := 0) hx hb d_Mod_compare_47 (by decide) ?_
    refine lv_istore (lv' := [(4, .int 0), (0, .ref (ad 0)), (1, .int l1), (2, .int l2), (3, .int l3)]) hx hb d_Mod_compare_48 hl (by decide) rfl (fun ls hl => ?_)
    obtain ⟨n, hw⟩ := hw
    exact tl_Mod_compare_50 hx hb hml hown hT hK hN hA hRc hRs hRf hRl hret  n l1 l2 l3 0 x H locs ls  hw hW hS (lv_sub hl [1, 2, 3, 4, 0] rfl)
  · have hw := hw.2 c1563
    refine lv_aload_n hx hb d_Mod_compare_5 rfl (lv_at hl 0 rfl) ?_
    refine w_getf (q := 54) (k := 89) (t := 12) (C := R_Mod) (T := F_Mod) (N := 167) hx hb hT hown hK hW ko_0.1 ko_0.2 (by decide) in_Mod rfl rfl (by decide) rfl fr_Mod_89 w_9_25 d_Mod_compare_6 rfl ?_
    refine lv_iload_n hx hb d_Mod_compare_9 rfl (lv_at hl 2 rfl) ?_
    obtain ⟨hi, hw⟩ := hw
    refine w_lald (o := 54) hx hb hK hW ko_54.1 ko_54.2 hi d_Mod_compare_10 ?_
    refine lv_aload_n hx hb d_Mod_compare_11 rfl (lv_at hl 0 rfl) ?_
    refine w_getf (q := 54) (k := 89) (t := 12) (C := R_Mod) (T := F_Mod) (N := 167) hx hb hT hown hK hW ko_0.1 ko_0.2 (by decide) in_Mod rfl rfl (by decide) rfl fr_Mod_89 w_9_25 d_Mod_compare_12 rfl ?_
    refine lv_iload_n hx hb d_Mod_compare_15 rfl (lv_at hl 3 rfl) ?_
    obtain ⟨hi, hw⟩ := hw
    refine w_lald (o := 54) hx hb hK hW ko_54.1 ko_54.2 hi d_Mod_compare_16 ?_
    refine W.lcmp hx hb d_Mod_compare_17 ?_
    refine lv_if_ge (tgt := 25) hx hb d_Mod_compare_18 (by decide) (fun c1564 => ?_) (fun c1564 => ?_)
    · have hw := hw.1 c1564
      refine lv_aload_n hx hb d_Mod_compare_25 rfl (lv_at hl 0 rfl) ?_
      refine w_getf (q := 54) (k := 89) (t := 12) (C := R_Mod) (T := F_Mod) (N := 167) hx hb hT hown hK hW ko_0.1 ko_0.2 (by decide) in_Mod rfl rfl (by decide) rfl fr_Mod_89 w_9_25 d_Mod_compare_26 rfl ?_
      refine lv_iload_n hx hb d_Mod_compare_29 rfl (lv_at hl 2 rfl) ?_
      obtain ⟨hi, hw⟩ := hw
      refine w_lald (o := 54) hx hb hK hW ko_54.1 ko_54.2 hi d_Mod_compare_30 ?_
      refine lv_aload_n hx hb d_Mod_compare_31 rfl (lv_at hl 0 rfl) ?_
      refine w_getf (q := 54) (k := 89) (t := 12) (C := R_Mod) (T := F_Mod) (N := 167) hx hb hT hown hK hW ko_0.1 ko_0.2 (by decide) in_Mod rfl rfl (by decide) rfl fr_Mod_89 w_9_25 d_Mod_compare_32 rfl ?_
      refine lv_iload_n hx hb d_Mod_compare_35 rfl (lv_at hl 3 rfl) ?_
      obtain ⟨hi, hw⟩ := hw
      refine w_lald (o := 54) hx hb hK hW ko_54.1 ko_54.2 hi d_Mod_compare_36 ?_
      refine W.lcmp hx hb d_Mod_compare_37 ?_
      refine lv_if_le (tgt := 45) hx hb d_Mod_compare_38 (by decide) (fun c1565 => ?_) (fun c1565 => ?_)
      · have hw := hw.1 c1565
        refine lv_iconst (v := 0) hx hb d_Mod_compare_45 (by decide) ?_
        exact hret 0 x H locs 46 ls d_Mod_compare_46 hw hW hS
      · have hw := hw.2 c1565
        refine lv_iconst (v := 1) hx hb d_Mod_compare_41 (by decide) ?_
        refine lv_goto (tgt := 46) hx hb d_Mod_compare_42 (by decide) ?_
        exact hret 1 x H locs 46 ls d_Mod_compare_46 hw hW hS
    · have hw := hw.2 c1564
      refine lv_iconst (v := (-1)) hx hb d_Mod_compare_21 (by decide) ?_
      refine lv_goto (tgt := 46) hx hb d_Mod_compare_22 (by decide) ?_
      exact hret (-1) x H locs 46 ls d_Mod_compare_46 hw hW hS
set_option maxHeartbeats 4000000 in
set_option maxRecDepth 100000 in
theorem k_Mod_compare (l : Launch) (dC : Nat → ClassId) (dI : Nat → Nat → Nat) (cI cB cJ cZ : ClassId) (ad : Nat → Nat) (sz : Nat) (l1 : Int32) (l2 : Int32) (l3 : Int32) (x : St) {post : Int32 → St → Prop} (hw : wp_Mod_compare post l1 l2 l3 x) : Met l y_Mod_compare (wsOf y_Mod_compare b_Mod_compare 5 (some (.int))) ({ frames := 0, cells := 0, slots := 0, locals := 0 }) (va_Pc [.ref (ad 0), .int l1, .int l2, .int l3] (PW dC dI cI cB cJ cZ ad stM kcM 115 sz x)) (va_Qi (fun (r : Int32) (y : St) => post r y) (fun y t => Wd dC dI cI cB cJ cZ ad stM kcM 115 (va_A (pic ad stM kcM 115 cI cB cJ cZ x) sz) y t.heap) (va_A (pic ad stM kcM 115 cI cB cJ cZ x) sz)) 0 0 (va_A (pic ad stM kcM 115 cI cB cJ cZ x) sz) := by
  refine Met.ofW (cc := b_Mod_compare) (maxL := 5) (ret := some (.int)) (by decide) rfl ?_
  intro p e s m args below meth c s₁ B hml hv
  obtain ⟨rfl, hsz, hW0, hK, hN⟩ := hv
  have hx := B.exec
  have hb := B.bytes
  have hr := B.returns
  have hts := atoms_spec B.pre
  have hT : ∀ w ∈ TG, w.before _ s = true := fun w h => hts w (List.mem_cons_of_mem _ h)
  have hown : s.vm.findClass R_Mod = some m.cls := findClass_of_methodNamed B.named
  have hlocks := B.notSynchronized
  subst hsz
  have hW : Wd dC dI cI cB cJ cZ ad stM kcM 115 (va_A (pic ad stM kcM 115 cI cB cJ cZ x) s.heap.size) x s.heap := ⟨hW0.1, hW0.2.1.self (sz := s.heap.size), hW0.2.2⟩
  generalize hAe : va_A (pic ad stM kcM 115 cI cB cJ cZ x) s.heap.size = A at hW ⊢
  have hA : ∀ q : Nat, s.heap.size ≤ q → A q := fun q h => by rw [← hAe]; exact Or.inr h
  have hS : va_S A s.heap s.heap [] := va_S.rf
  have hl := lv_entry ([.ref (ad 0), .int l1, .int l2, .int l3]) (n := 5) (Nat.le_of_ble_eq_true rfl)
  rw [lg_entry_eq]
  generalize (lg_sl ([.ref (ad 0), .int l1, .int l2, .int l3]) ++ List.replicate (5 - (lg_sl ([.ref (ad 0), .int l1, .int l2, .int l3])).length) Slot.unset).toArray = ls at hl ⊢
  have hl : lv_has ls 5 [(0, .ref (ad 0)), (1, .int l1), (2, .int l2), (3, .int l3)] := hl
  exact t_Mod_compare_e hx hb hml hown hT hK hN hA (Nat.le_refl 0) (Nat.le_refl 0) (Nat.le_refl 0) (Nat.le_refl 0) (fun r x H locs pc ls hd hp hW hS => W.iret (v := r) hx hb hr (fun t ht hM => ⟨⟨r, x, rfl, hp, Wd.back hW ht.symm (fun _ z => z)⟩, hS.F ht⟩) hS.2.2 hd hlocks)  l1 l2 l3 x _ _ ls  hw hW hS hl
end
