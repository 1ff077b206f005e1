theorem w_6_172 : (Jvm.Cond.methodLink "StripedVault$Opener" (210 : Nat) ({ cls := "StripedVault$Opener", name := "beginChunk", desc := "(II)I" } : Jvm.MethodName)) ∈ TG := tw_6 172 (by decide +kernel) (by decide +kernel)
theorem w_6_174 : (Jvm.Cond.instanceMethod ({ cls := "StripedVault$Opener", name := "beginChunk", desc := "(II)I" } : Jvm.MethodName)) ∈ TG := tw_6 174 (by decide +kernel) (by decide +kernel)
theorem w_6_175 : (Jvm.Cond.code ({ cls := "StripedVault$Opener", name := "beginChunk", desc := "(II)I" } : Jvm.MethodName) prog_4_method_12_code (5 : Nat) (Option.some Jvm.ClassFile.FieldType.int)) ∈ TG := tw_6 175 (by decide +kernel) (by decide +kernel)
theorem w_6_180 : (Jvm.Cond.constantLong "StripedVault$Opener" (214 : Nat) (40001 : Int64)) ∈ TG := tw_6 180 (by decide +kernel) (by decide +kernel)
theorem w_6_181 : (Jvm.Cond.methodLink "StripedVault$Opener" (222 : Nat) ({ cls := "StripedVault$Opener", name := "lookAtPage", desc := "(III)V" } : Jvm.MethodName)) ∈ TG := tw_6 181 (by decide +kernel) (by decide +kernel)
theorem w_6_183 : (Jvm.Cond.instanceMethod ({ cls := "StripedVault$Opener", name := "lookAtPage", desc := "(III)V" } : Jvm.MethodName)) ∈ TG := tw_6 183 (by decide +kernel) (by decide +kernel)
theorem w_6_184 : (Jvm.Cond.code ({ cls := "StripedVault$Opener", name := "lookAtPage", desc := "(III)V" } : Jvm.MethodName) prog_4_method_13_code (9 : Nat) (Option.none : Option Jvm.ClassFile.FieldType)) ∈ TG := tw_6 184 (by decide +kernel) (by decide +kernel)
theorem w_7_51 : (Jvm.Cond.methodLink "StripedVault$Opener" (225 : Nat) ({ cls := "StripedVault$Opener", name := "endChunk", desc := "(III)V" } : Jvm.MethodName)) ∈ TG := tw_7 51 (by decide +kernel) (by decide +kernel)
theorem w_7_53 : (Jvm.Cond.instanceMethod ({ cls := "StripedVault$Opener", name := "endChunk", desc := "(III)V" } : Jvm.MethodName)) ∈ TG := tw_7 53 (by decide +kernel) (by decide +kernel)
theorem w_7_54 : (Jvm.Cond.code ({ cls := "StripedVault$Opener", name := "endChunk", desc := "(III)V" } : Jvm.MethodName) prog_4_method_28_code (8 : Nat) (Option.none : Option Jvm.ClassFile.FieldType)) ∈ TG := tw_7 54 (by decide +kernel) (by decide +kernel)
theorem w_7_55 : (Jvm.Cond.methodLink "StripedVault$Opener" (365 : Nat) ({ cls := "StripedVault$Opener", name := "goTogether", desc := "(III)Z" } : Jvm.MethodName)) ∈ TG := tw_7 55 (by decide +kernel) (by decide +kernel)
theorem w_7_57 : (Jvm.Cond.instanceMethod ({ cls := "StripedVault$Opener", name := "goTogether", desc := "(III)Z" } : Jvm.MethodName)) ∈ TG := tw_7 57 (by decide +kernel) (by decide +kernel)
theorem w_7_58 : (Jvm.Cond.code ({ cls := "StripedVault$Opener", name := "goTogether", desc := "(III)Z" } : Jvm.MethodName) prog_4_method_29_code (13 : Nat) (Option.some Jvm.ClassFile.FieldType.boolean)) ∈ TG := tw_7 58 (by decide +kernel) (by decide +kernel)
theorem ws_38 : Cond.selects R_Opn y_Opn_beginChunk y_Opn_beginChunk ∈ TG := tw_s 38 (by decide +kernel) (by decide +kernel)
theorem ws_40 : Cond.selects R_Opn y_Opn_lookAtPage y_Opn_lookAtPage ∈ TG := tw_s 40 (by decide +kernel) (by decide +kernel)
theorem ws_59 : Cond.selects R_Opn y_Opn_endChunk y_Opn_endChunk ∈ TG := tw_s 59 (by decide +kernel) (by decide +kernel)
theorem ws_60 : Cond.selects R_Opn y_Opn_goTogether y_Opn_goTogether ∈ TG := tw_s 60 (by decide +kernel) (by decide +kernel)
theorem d_Opn_endChunk_265 : decode b_Opn_endChunk 265 = .ok (.aload_n 0, 1) := by decide +kernel
theorem d_Opn_endChunk_266 : decode b_Opn_endChunk 266 = .ok (.getfield 44, 3) := by decide +kernel
theorem d_Opn_endChunk_269 : decode b_Opn_endChunk 269 = .ok (.getfield 107, 3) := by decide +kernel
theorem d_Opn_endChunk_272 : decode b_Opn_endChunk 272 = .ok (.ifCond .ne 50, 3) := by decide +kernel
theorem d_Opn_endChunk_322 : decode b_Opn_endChunk 322 = .ok (.return_, 1) := by decide +kernel
theorem d_Opn_endChunk_275 : decode b_Opn_endChunk 275 = .ok (.iload_n 2, 1) := by decide +kernel
theorem d_Opn_endChunk_276 : decode b_Opn_endChunk 276 = .ok (.ifCond .le 46, 3) := by decide +kernel
theorem d_Opn_endChunk_279 : decode b_Opn_endChunk 279 = .ok (.aload_n 0, 1) := by decide +kernel
theorem d_Opn_endChunk_280 : decode b_Opn_endChunk 280 = .ok (.getfield 25, 3) := by decide +kernel
theorem d_Opn_endChunk_283 : decode b_Opn_endChunk 283 = .ok (.getfield 243, 3) := by decide +kernel
theorem d_Opn_endChunk_286 : decode b_Opn_endChunk 286 = .ok (.iload_n 1, 1) := by decide +kernel
theorem d_Opn_endChunk_287 : decode b_Opn_endChunk 287 = .ok (.aload_n 0, 1) := by decide +kernel
theorem d_Opn_endChunk_288 : decode b_Opn_endChunk 288 = .ok (.getfield 25, 3) := by decide +kernel
theorem d_Opn_endChunk_291 : decode b_Opn_endChunk 291 = .ok (.getfield 77, 3) := by decide +kernel
theorem d_Opn_endChunk_294 : decode b_Opn_endChunk 294 = .ok (.getfield 110, 3) := by decide +kernel
theorem d_Opn_endChunk_297 : decode b_Opn_endChunk 297 = .ok (.imul, 1) := by decide +kernel
theorem d_Opn_endChunk_298 : decode b_Opn_endChunk 298 = .ok (.iload_n 2, 1) := by decide +kernel
theorem d_Opn_endChunk_299 : decode b_Opn_endChunk 299 = .ok (.iadd, 1) := by decide +kernel
theorem d_Opn_endChunk_300 : decode b_Opn_endChunk 300 = .ok (.iconst 1, 1) := by decide +kernel
theorem d_Opn_endChunk_301 : decode b_Opn_endChunk 301 = .ok (.isub, 1) := by decide +kernel
theorem d_Opn_endChunk_302 : decode b_Opn_endChunk 302 = .ok (.iaload, 1) := by decide +kernel
theorem d_Opn_endChunk_303 : decode b_Opn_endChunk 303 = .ok (.istore 7, 2) := by decide +kernel
theorem d_Opn_endChunk_305 : decode b_Opn_endChunk 305 = .ok (.aload_n 0, 1) := by decide +kernel
theorem d_Opn_endChunk_306 : decode b_Opn_endChunk 306 = .ok (.getfield 44, 3) := by decide +kernel
theorem d_Opn_endChunk_309 : decode b_Opn_endChunk 309 = .ok (.aload_n 0, 1) := by decide +kernel
theorem d_Opn_endChunk_310 : decode b_Opn_endChunk 310 = .ok (.iload_n 2, 1) := by decide +kernel
theorem d_Opn_endChunk_311 : decode b_Opn_endChunk 311 = .ok (.iload 7, 2) := by decide +kernel
theorem d_Opn_endChunk_313 : decode b_Opn_endChunk 313 = .ok (.iload_n 3, 1) := by decide +kernel
theorem d_Opn_endChunk_314 : decode b_Opn_endChunk 314 = .ok (.invokevirtual 365, 3) := by decide +kernel
theorem d_Opn_endChunk_317 : decode b_Opn_endChunk 317 = .ok (.bipush 21, 2) := by decide +kernel
theorem d_Opn_endChunk_319 : decode b_Opn_endChunk 319 = .ok (.invokevirtual 95, 3) := by decide +kernel
theorem d_Opn_endChunk_260 : decode b_Opn_endChunk 260 = .ok (.bipush 12, 2) := by decide +kernel
theorem d_Opn_endChunk_262 : decode b_Opn_endChunk 262 = .ok (.invokevirtual 95, 3) := by decide +kernel
theorem d_Opn_endChunk_219 : decode b_Opn_endChunk 219 = .ok (.bipush 11, 2) := by decide +kernel
theorem d_Opn_endChunk_221 : decode b_Opn_endChunk 221 = .ok (.invokevirtual 95, 3) := by decide +kernel
theorem d_Opn_endChunk_224 : decode b_Opn_endChunk 224 = .ok (.aload_n 0, 1) := by decide +kernel
theorem d_Opn_endChunk_225 : decode b_Opn_endChunk 225 = .ok (.getfield 44, 3) := by decide +kernel
theorem d_Opn_endChunk_228 : decode b_Opn_endChunk 228 = .ok (.aload_n 0, 1) := by decide +kernel
theorem d_Opn_endChunk_229 : decode b_Opn_endChunk 229 = .ok (.getfield 25, 3) := by decide +kernel
theorem d_Opn_endChunk_232 : decode b_Opn_endChunk 232 = .ok (.iload 4, 2) := by decide +kernel
theorem d_Opn_endChunk_234 : decode b_Opn_endChunk 234 = .ok (.aload_n 0, 1) := by decide +kernel
theorem d_Opn_endChunk_235 : decode b_Opn_endChunk 235 = .ok (.getfield 25, 3) := by decide +kernel
theorem d_Opn_endChunk_238 : decode b_Opn_endChunk 238 = .ok (.getfield 290, 3) := by decide +kernel
theorem d_Opn_endChunk_241 : decode b_Opn_endChunk 241 = .ok (.iload_n 3, 1) := by decide +kernel
theorem d_Opn_endChunk_242 : decode b_Opn_endChunk 242 = .ok (.laload, 1) := by decide +kernel
theorem d_Opn_endChunk_243 : decode b_Opn_endChunk 243 = .ok (.aload_n 0, 1) := by decide +kernel
theorem d_Opn_endChunk_244 : decode b_Opn_endChunk 244 = .ok (.getfield 15, 3) := by decide +kernel
theorem d_Opn_endChunk_247 : decode b_Opn_endChunk 247 = .ok (.iconst 5, 1) := by decide +kernel
theorem d_Opn_endChunk_248 : decode b_Opn_endChunk 248 = .ok (.laload, 1) := by decide +kernel
theorem d_Opn_endChunk_249 : decode b_Opn_endChunk 249 = .ok (.invokevirtual 346, 3) := by decide +kernel
theorem d_Opn_endChunk_252 : decode b_Opn_endChunk 252 = .ok (.ifCond .ne 7, 3) := by decide +kernel
theorem d_Opn_endChunk_259 : decode b_Opn_endChunk 259 = .ok (.iconst 0, 1) := by decide +kernel
theorem d_Opn_endChunk_255 : decode b_Opn_endChunk 255 = .ok (.iconst 1, 1) := by decide +kernel
theorem d_Opn_endChunk_256 : decode b_Opn_endChunk 256 = .ok (.goto 4, 3) := by decide +kernel
theorem d_Opn_endChunk_152 : decode b_Opn_endChunk 152 = .ok (.bipush 10, 2) := by decide +kernel
theorem d_Opn_endChunk_154 : decode b_Opn_endChunk 154 = .ok (.invokevirtual 95, 3) := by decide +kernel
theorem d_Opn_endChunk_157 : decode b_Opn_endChunk 157 = .ok (.aload_n 0, 1) := by decide +kernel
theorem d_Opn_endChunk_158 : decode b_Opn_endChunk 158 = .ok (.getfield 44, 3) := by decide +kernel
theorem d_Opn_endChunk_161 : decode b_Opn_endChunk 161 = .ok (.getfield 107, 3) := by decide +kernel
theorem d_Opn_endChunk_164 : decode b_Opn_endChunk 164 = .ok (.ifCond .ne 101, 3) := by decide +kernel
theorem d_Opn_endChunk_167 : decode b_Opn_endChunk 167 = .ok (.aload_n 0, 1) := by decide +kernel
theorem d_Opn_endChunk_168 : decode b_Opn_endChunk 168 = .ok (.getfield 15, 3) := by decide +kernel
theorem d_Opn_endChunk_171 : decode b_Opn_endChunk 171 = .ok (.iconst 3, 1) := by decide +kernel
theorem d_Opn_endChunk_172 : decode b_Opn_endChunk 172 = .ok (.laload, 1) := by decide +kernel
theorem d_Opn_endChunk_173 : decode b_Opn_endChunk 173 = .ok (.aload_n 0, 1) := by decide +kernel
theorem d_Opn_endChunk_174 : decode b_Opn_endChunk 174 = .ok (.getfield 15, 3) := by decide +kernel
theorem d_Opn_endChunk_177 : decode b_Opn_endChunk 177 = .ok (.iconst 2, 1) := by decide +kernel
theorem d_Opn_endChunk_178 : decode b_Opn_endChunk 178 = .ok (.laload, 1) := by decide +kernel
theorem d_Opn_endChunk_179 : decode b_Opn_endChunk 179 = .ok (.lcmp, 1) := by decide +kernel
theorem d_Opn_endChunk_180 : decode b_Opn_endChunk 180 = .ok (.ifCond .ge 85, 3) := by decide +kernel
theorem d_Opn_endChunk_183 : decode b_Opn_endChunk 183 = .ok (.aload_n 0, 1) := by decide +kernel
theorem d_Opn_endChunk_184 : decode b_Opn_endChunk 184 = .ok (.getfield 44, 3) := by decide +kernel
theorem d_Opn_endChunk_187 : decode b_Opn_endChunk 187 = .ok (.aload_n 0, 1) := by decide +kernel
theorem d_Opn_endChunk_188 : decode b_Opn_endChunk 188 = .ok (.getfield 25, 3) := by decide +kernel
theorem d_Opn_endChunk_191 : decode b_Opn_endChunk 191 = .ok (.iload 4, 2) := by decide +kernel
theorem d_Opn_endChunk_193 : decode b_Opn_endChunk 193 = .ok (.aload_n 0, 1) := by decide +kernel
theorem d_Opn_endChunk_194 : decode b_Opn_endChunk 194 = .ok (.getfield 25, 3) := by decide +kernel
theorem d_Opn_endChunk_197 : decode b_Opn_endChunk 197 = .ok (.getfield 287, 3) := by decide +kernel
theorem d_Opn_endChunk_200 : decode b_Opn_endChunk 200 = .ok (.iload_n 3, 1) := by decide +kernel
theorem d_Opn_endChunk_201 : decode b_Opn_endChunk 201 = .ok (.laload, 1) := by decide +kernel
theorem d_Opn_endChunk_202 : decode b_Opn_endChunk 202 = .ok (.aload_n 0, 1) := by decide +kernel
theorem d_Opn_endChunk_203 : decode b_Opn_endChunk 203 = .ok (.getfield 15, 3) := by decide +kernel
theorem d_Opn_endChunk_206 : decode b_Opn_endChunk 206 = .ok (.iconst 4, 1) := by decide +kernel
theorem d_Opn_endChunk_207 : decode b_Opn_endChunk 207 = .ok (.laload, 1) := by decide +kernel
theorem d_Opn_endChunk_208 : decode b_Opn_endChunk 208 = .ok (.invokevirtual 346, 3) := by decide +kernel
theorem d_Opn_endChunk_211 : decode b_Opn_endChunk 211 = .ok (.ifCond .ne 7, 3) := by decide +kernel
theorem d_Opn_endChunk_218 : decode b_Opn_endChunk 218 = .ok (.iconst 0, 1) := by decide +kernel
theorem d_Opn_endChunk_214 : decode b_Opn_endChunk 214 = .ok (.iconst 1, 1) := by decide +kernel
theorem d_Opn_endChunk_215 : decode b_Opn_endChunk 215 = .ok (.goto 4, 3) := by decide +kernel
theorem d_Opn_endChunk_118 : decode b_Opn_endChunk 118 = .ok (.bipush 16, 2) := by decide +kernel
theorem d_Opn_endChunk_120 : decode b_Opn_endChunk 120 = .ok (.invokevirtual 95, 3) := by decide +kernel
theorem d_Opn_endChunk_123 : decode b_Opn_endChunk 123 = .ok (.aload_n 0, 1) := by decide +kernel
theorem d_Opn_endChunk_124 : decode b_Opn_endChunk 124 = .ok (.getfield 44, 3) := by decide +kernel
theorem d_Opn_endChunk_127 : decode b_Opn_endChunk 127 = .ok (.aload_n 0, 1) := by decide +kernel
theorem d_Opn_endChunk_128 : decode b_Opn_endChunk 128 = .ok (.getfield 25, 3) := by decide +kernel
theorem d_Opn_endChunk_131 : decode b_Opn_endChunk 131 = .ok (.getfield 237, 3) := by decide +kernel
theorem d_Opn_endChunk_134 : decode b_Opn_endChunk 134 = .ok (.iload_n 3, 1) := by decide +kernel
theorem d_Opn_endChunk_135 : decode b_Opn_endChunk 135 = .ok (.iaload, 1) := by decide +kernel
theorem d_Opn_endChunk_136 : decode b_Opn_endChunk 136 = .ok (.i2l, 1) := by decide +kernel
theorem d_Opn_endChunk_137 : decode b_Opn_endChunk 137 = .ok (.aload_n 0, 1) := by decide +kernel
theorem d_Opn_endChunk_138 : decode b_Opn_endChunk 138 = .ok (.getfield 15, 3) := by decide +kernel
theorem d_Opn_endChunk_141 : decode b_Opn_endChunk 141 = .ok (.iconst 3, 1) := by decide +kernel
theorem d_Opn_endChunk_142 : decode b_Opn_endChunk 142 = .ok (.laload, 1) := by decide +kernel
theorem d_Opn_endChunk_143 : decode b_Opn_endChunk 143 = .ok (.lcmp, 1) := by decide +kernel
theorem d_Opn_endChunk_144 : decode b_Opn_endChunk 144 = .ok (.ifCond .ne 7, 3) := by decide +kernel
theorem d_Opn_endChunk_151 : decode b_Opn_endChunk 151 = .ok (.iconst 0, 1) := by decide +kernel
theorem d_Opn_endChunk_147 : decode b_Opn_endChunk 147 = .ok (.iconst 1, 1) := by decide +kernel
theorem d_Opn_endChunk_148 : decode b_Opn_endChunk 148 = .ok (.goto 4, 3) := by decide +kernel
theorem d_Opn_endChunk_117 : decode b_Opn_endChunk 117 = .ok (.iconst 0, 1) := by decide +kernel
theorem d_Opn_endChunk_82 : decode b_Opn_endChunk 82 = .ok (.bipush 6, 2) := by decide +kernel
theorem d_Opn_endChunk_84 : decode b_Opn_endChunk 84 = .ok (.invokevirtual 95, 3) := by decide +kernel
theorem d_Opn_endChunk_87 : decode b_Opn_endChunk 87 = .ok (.aload_n 0, 1) := by decide +kernel
theorem d_Opn_endChunk_88 : decode b_Opn_endChunk 88 = .ok (.getfield 44, 3) := by decide +kernel
theorem d_Opn_endChunk_91 : decode b_Opn_endChunk 91 = .ok (.iload 5, 2) := by decide +kernel
theorem d_Opn_endChunk_93 : decode b_Opn_endChunk 93 = .ok (.i2l, 1) := by decide +kernel
theorem d_Opn_endChunk_94 : decode b_Opn_endChunk 94 = .ok (.aload_n 0, 1) := by decide +kernel
theorem d_Opn_endChunk_95 : decode b_Opn_endChunk 95 = .ok (.getfield 15, 3) := by decide +kernel
theorem d_Opn_endChunk_98 : decode b_Opn_endChunk 98 = .ok (.iconst 2, 1) := by decide +kernel
theorem d_Opn_endChunk_99 : decode b_Opn_endChunk 99 = .ok (.laload, 1) := by decide +kernel
theorem d_Opn_endChunk_100 : decode b_Opn_endChunk 100 = .ok (.lcmp, 1) := by decide +kernel
theorem d_Opn_endChunk_101 : decode b_Opn_endChunk 101 = .ok (.ifCond .ne 16, 3) := by decide +kernel
theorem d_Opn_endChunk_104 : decode b_Opn_endChunk 104 = .ok (.aload_n 0, 1) := by decide +kernel
theorem d_Opn_endChunk_105 : decode b_Opn_endChunk 105 = .ok (.getfield 246, 3) := by decide +kernel
theorem d_Opn_endChunk_108 : decode b_Opn_endChunk 108 = .ok (.iload 6, 2) := by decide +kernel
theorem d_Opn_endChunk_110 : decode b_Opn_endChunk 110 = .ok (.if_icmp .ne 7, 3) := by decide +kernel
theorem d_Opn_endChunk_113 : decode b_Opn_endChunk 113 = .ok (.iconst 1, 1) := by decide +kernel
theorem d_Opn_endChunk_114 : decode b_Opn_endChunk 114 = .ok (.goto 4, 3) := by decide +kernel
theorem d_Opn_endChunk_0 : decode b_Opn_endChunk 0 = .ok (.aload_n 0, 1) := by decide +kernel
theorem d_Opn_endChunk_1 : decode b_Opn_endChunk 1 = .ok (.getfield 25, 3) := by decide +kernel
theorem d_Opn_endChunk_4 : decode b_Opn_endChunk 4 = .ok (.getfield 77, 3) := by decide +kernel
theorem d_Opn_endChunk_7 : decode b_Opn_endChunk 7 = .ok (.getfield 115, 3) := by decide +kernel
theorem d_Opn_endChunk_10 : decode b_Opn_endChunk 10 = .ok (.aload_n 0, 1) := by decide +kernel
theorem d_Opn_endChunk_11 : decode b_Opn_endChunk 11 = .ok (.getfield 25, 3) := by decide +kernel
theorem d_Opn_endChunk_14 : decode b_Opn_endChunk 14 = .ok (.getfield 77, 3) := by decide +kernel
theorem d_Opn_endChunk_17 : decode b_Opn_endChunk 17 = .ok (.getfield 118, 3) := by decide +kernel
theorem d_Opn_endChunk_20 : decode b_Opn_endChunk 20 = .ok (.iload_n 2, 1) := by decide +kernel
theorem d_Opn_endChunk_21 : decode b_Opn_endChunk 21 = .ok (.iaload, 1) := by decide +kernel
theorem d_Opn_endChunk_22 : decode b_Opn_endChunk 22 = .ok (.iaload, 1) := by decide +kernel
theorem d_Opn_endChunk_23 : decode b_Opn_endChunk 23 = .ok (.istore 4, 2) := by decide +kernel
theorem d_Opn_endChunk_25 : decode b_Opn_endChunk 25 = .ok (.aload_n 0, 1) := by decide +kernel
theorem d_Opn_endChunk_26 : decode b_Opn_endChunk 26 = .ok (.getfield 25, 3) := by decide +kernel
theorem d_Opn_endChunk_29 : decode b_Opn_endChunk 29 = .ok (.getfield 234, 3) := by decide +kernel
theorem d_Opn_endChunk_32 : decode b_Opn_endChunk 32 = .ok (.iload_n 3, 1) := by decide +kernel
theorem d_Opn_endChunk_33 : decode b_Opn_endChunk 33 = .ok (.iaload, 1) := by decide +kernel
theorem d_Opn_endChunk_34 : decode b_Opn_endChunk 34 = .ok (.istore 5, 2) := by decide +kernel
theorem d_Opn_endChunk_36 : decode b_Opn_endChunk 36 = .ok (.aload_n 0, 1) := by decide +kernel
theorem d_Opn_endChunk_37 : decode b_Opn_endChunk 37 = .ok (.getfield 25, 3) := by decide +kernel
theorem d_Opn_endChunk_40 : decode b_Opn_endChunk 40 = .ok (.getfield 195, 3) := by decide +kernel
theorem d_Opn_endChunk_43 : decode b_Opn_endChunk 43 = .ok (.iload_n 1, 1) := by decide +kernel
theorem d_Opn_endChunk_44 : decode b_Opn_endChunk 44 = .ok (.iconst 1, 1) := by decide +kernel
theorem d_Opn_endChunk_45 : decode b_Opn_endChunk 45 = .ok (.iadd, 1) := by decide +kernel
theorem d_Opn_endChunk_46 : decode b_Opn_endChunk 46 = .ok (.iaload, 1) := by decide +kernel
theorem d_Opn_endChunk_47 : decode b_Opn_endChunk 47 = .ok (.aload_n 0, 1) := by decide +kernel
theorem d_Opn_endChunk_48 : decode b_Opn_endChunk 48 = .ok (.getfield 25, 3) := by decide +kernel
theorem d_Opn_endChunk_51 : decode b_Opn_endChunk 51 = .ok (.getfield 195, 3) := by decide +kernel
theorem d_Opn_endChunk_54 : decode b_Opn_endChunk 54 = .ok (.iload_n 1, 1) := by decide +kernel
theorem d_Opn_endChunk_55 : decode b_Opn_endChunk 55 = .ok (.iaload, 1) := by decide +kernel
theorem d_Opn_endChunk_56 : decode b_Opn_endChunk 56 = .ok (.isub, 1) := by decide +kernel
theorem d_Opn_endChunk_57 : decode b_Opn_endChunk 57 = .ok (.istore 6, 2) := by decide +kernel
theorem d_Opn_endChunk_59 : decode b_Opn_endChunk 59 = .ok (.aload_n 0, 1) := by decide +kernel
theorem d_Opn_endChunk_60 : decode b_Opn_endChunk 60 = .ok (.getfield 44, 3) := by decide +kernel
theorem d_Opn_endChunk_63 : decode b_Opn_endChunk 63 = .ok (.aload_n 0, 1) := by decide +kernel
theorem d_Opn_endChunk_64 : decode b_Opn_endChunk 64 = .ok (.getfield 44, 3) := by decide +kernel
theorem d_Opn_endChunk_67 : decode b_Opn_endChunk 67 = .ok (.getfield 101, 3) := by decide +kernel
theorem d_Opn_endChunk_70 : decode b_Opn_endChunk 70 = .ok (.aload_n 0, 1) := by decide +kernel
theorem d_Opn_endChunk_71 : decode b_Opn_endChunk 71 = .ok (.getfield 216, 3) := by decide +kernel
theorem d_Opn_endChunk_74 : decode b_Opn_endChunk 74 = .ok (.if_icmp .ne 7, 3) := by decide +kernel
theorem d_Opn_endChunk_81 : decode b_Opn_endChunk 81 = .ok (.iconst 0, 1) := by decide +kernel
theorem d_Opn_endChunk_77 : decode b_Opn_endChunk 77 = .ok (.iconst 1, 1) := by decide +kernel
theorem d_Opn_endChunk_78 : decode b_Opn_endChunk 78 = .ok (.goto 4, 3) := by decide +kernel
theorem d_Opn_lookAtChunks_260 : decode b_Opn_lookAtChunks 260 = .ok (.aload_n 0, 1) := by decide +kernel
theorem d_Opn_lookAtChunks_261 : decode b_Opn_lookAtChunks 261 = .ok (.getfield 44, 3) := by decide +kernel
theorem d_Opn_lookAtChunks_264 : decode b_Opn_lookAtChunks 264 = .ok (.getfield 107, 3) := by decide +kernel
theorem d_Opn_lookAtChunks_267 : decode b_Opn_lookAtChunks 267 = .ok (.ifCond .eq 11, 3) := by decide +kernel
theorem d_Opn_lookAtChunks_278 : decode b_Opn_lookAtChunks 278 = .ok (.iinc 2 1, 3) := by decide +kernel
theorem d_Opn_lookAtChunks_281 : decode b_Opn_lookAtChunks 281 = .ok (.goto (-179), 3) := by decide +kernel
theorem d_Opn_lookAtChunks_270 : decode b_Opn_lookAtChunks 270 = .ok (.aload_n 0, 1) := by decide +kernel
theorem d_Opn_lookAtChunks_271 : decode b_Opn_lookAtChunks 271 = .ok (.getfield 44, 3) := by decide +kernel
theorem d_Opn_lookAtChunks_274 : decode b_Opn_lookAtChunks 274 = .ok (.getfield 107, 3) := by decide +kernel
theorem d_Opn_lookAtChunks_277 : decode b_Opn_lookAtChunks 277 = .ok (.ireturn, 1) := by decide +kernel
theorem d_Opn_lookAtChunks_236 : decode b_Opn_lookAtChunks 236 = .ok (.aload_n 0, 1) := by decide +kernel
theorem d_Opn_lookAtChunks_237 : decode b_Opn_lookAtChunks 237 = .ok (.getfield 44, 3) := by decide +kernel
theorem d_Opn_lookAtChunks_240 : decode b_Opn_lookAtChunks 240 = .ok (.getfield 107, 3) := by decide +kernel
theorem d_Opn_lookAtChunks_243 : decode b_Opn_lookAtChunks 243 = .ok (.ifCond .ne 17, 3) := by decide +kernel
theorem d_Opn_lookAtChunks_246 : decode b_Opn_lookAtChunks 246 = .ok (.aload_n 0, 1) := by decide +kernel
theorem d_Opn_lookAtChunks_247 : decode b_Opn_lookAtChunks 247 = .ok (.iload_n 1, 1) := by decide +kernel
theorem d_Opn_lookAtChunks_248 : decode b_Opn_lookAtChunks 248 = .ok (.iload_n 2, 1) := by decide +kernel
theorem d_Opn_lookAtChunks_249 : decode b_Opn_lookAtChunks 249 = .ok (.iconst (-1), 1) := by decide +kernel
theorem d_Opn_lookAtChunks_250 : decode b_Opn_lookAtChunks 250 = .ok (.invokevirtual 47, 3) := by decide +kernel
theorem d_Opn_lookAtChunks_253 : decode b_Opn_lookAtChunks 253 = .ok (.aload_n 0, 1) := by decide +kernel
theorem d_Opn_lookAtChunks_254 : decode b_Opn_lookAtChunks 254 = .ok (.iload_n 1, 1) := by decide +kernel
theorem d_Opn_lookAtChunks_255 : decode b_Opn_lookAtChunks 255 = .ok (.iload_n 2, 1) := by decide +kernel
theorem d_Opn_lookAtChunks_256 : decode b_Opn_lookAtChunks 256 = .ok (.iload_n 3, 1) := by decide +kernel
theorem d_Opn_lookAtChunks_257 : decode b_Opn_lookAtChunks 257 = .ok (.invokevirtual 225, 3) := by decide +kernel
theorem d_Opn_lookAtChunks_182 : decode b_Opn_lookAtChunks 182 = .ok (.iload 6, 2) := by decide +kernel
theorem d_Opn_lookAtChunks_184 : decode b_Opn_lookAtChunks 184 = .ok (.i2l, 1) := by decide +kernel
theorem d_Opn_lookAtChunks_185 : decode b_Opn_lookAtChunks 185 = .ok (.lload 4, 2) := by decide +kernel
theorem d_Opn_lookAtChunks_187 : decode b_Opn_lookAtChunks 187 = .ok (.lcmp, 1) := by decide +kernel
theorem d_Opn_lookAtChunks_188 : decode b_Opn_lookAtChunks 188 = .ok (.ifCond .ge 48, 3) := by decide +kernel
theorem d_Opn_lookAtChunks_191 : decode b_Opn_lookAtChunks 191 = .ok (.aload_n 0, 1) := by decide +kernel
theorem d_Opn_lookAtChunks_192 : decode b_Opn_lookAtChunks 192 = .ok (.getfield 44, 3) := by decide +kernel
theorem d_Opn_lookAtChunks_195 : decode b_Opn_lookAtChunks 195 = .ok (.getfield 107, 3) := by decide +kernel
theorem d_Opn_lookAtChunks_198 : decode b_Opn_lookAtChunks 198 = .ok (.ifCond .ne 38, 3) := by decide +kernel
theorem d_Opn_lookAtChunks_201 : decode b_Opn_lookAtChunks 201 = .ok (.aload_n 0, 1) := by decide +kernel
theorem d_Opn_lookAtChunks_202 : decode b_Opn_lookAtChunks 202 = .ok (.iload_n 1, 1) := by decide +kernel
theorem d_Opn_lookAtChunks_203 : decode b_Opn_lookAtChunks 203 = .ok (.iload_n 2, 1) := by decide +kernel
theorem d_Opn_lookAtChunks_204 : decode b_Opn_lookAtChunks 204 = .ok (.iload 6, 2) := by decide +kernel
theorem d_Opn_lookAtChunks_206 : decode b_Opn_lookAtChunks 206 = .ok (.invokevirtual 47, 3) := by decide +kernel
theorem d_Opn_lookAtChunks_209 : decode b_Opn_lookAtChunks 209 = .ok (.aload_n 0, 1) := by decide +kernel
theorem d_Opn_lookAtChunks_210 : decode b_Opn_lookAtChunks 210 = .ok (.getfield 44, 3) := by decide +kernel
theorem d_Opn_lookAtChunks_213 : decode b_Opn_lookAtChunks 213 = .ok (.aload_n 0, 1) := by decide +kernel
theorem d_Opn_lookAtChunks_214 : decode b_Opn_lookAtChunks 214 = .ok (.getfield 216, 3) := by decide +kernel
theorem d_Opn_lookAtChunks_217 : decode b_Opn_lookAtChunks 217 = .ok (.putfield 130, 3) := by decide +kernel
theorem d_Opn_lookAtChunks_220 : decode b_Opn_lookAtChunks 220 = .ok (.aload_n 0, 1) := by decide +kernel
theorem d_Opn_lookAtChunks_221 : decode b_Opn_lookAtChunks 221 = .ok (.iload_n 2, 1) := by decide +kernel
theorem d_Opn_lookAtChunks_222 : decode b_Opn_lookAtChunks 222 = .ok (.iload_n 3, 1) := by decide +kernel
theorem d_Opn_lookAtChunks_223 : decode b_Opn_lookAtChunks 223 = .ok (.aload_n 0, 1) := by decide +kernel
theorem d_Opn_lookAtChunks_224 : decode b_Opn_lookAtChunks 224 = .ok (.invokevirtual 219, 3) := by decide +kernel
theorem d_Opn_lookAtChunks_227 : decode b_Opn_lookAtChunks 227 = .ok (.invokevirtual 222, 3) := by decide +kernel
theorem d_Opn_lookAtChunks_230 : decode b_Opn_lookAtChunks 230 = .ok (.iinc 6 1, 3) := by decide +kernel
theorem d_Opn_lookAtChunks_233 : decode b_Opn_lookAtChunks 233 = .ok (.goto (-51), 3) := by decide +kernel
theorem d_Opn_lookAtChunks_177 : decode b_Opn_lookAtChunks 177 = .ok (.lstore 4, 2) := by decide +kernel
theorem d_Opn_lookAtChunks_179 : decode b_Opn_lookAtChunks 179 = .ok (.iconst 0, 1) := by decide +kernel
theorem d_Opn_lookAtChunks_180 : decode b_Opn_lookAtChunks 180 = .ok (.istore 6, 2) := by decide +kernel
theorem d_Opn_lookAtChunks_102 : decode b_Opn_lookAtChunks 102 = .ok (.iload_n 2, 1) := by decide +kernel
theorem d_Opn_lookAtChunks_103 : decode b_Opn_lookAtChunks 103 = .ok (.aload_n 0, 1) := by decide +kernel
theorem d_Opn_lookAtChunks_104 : decode b_Opn_lookAtChunks 104 = .ok (.getfield 25, 3) := by decide +kernel
theorem d_Opn_lookAtChunks_107 : decode b_Opn_lookAtChunks 107 = .ok (.getfield 77, 3) := by decide +kernel
theorem d_Opn_lookAtChunks_110 : decode b_Opn_lookAtChunks 110 = .ok (.getfield 110, 3) := by decide +kernel
theorem d_Opn_lookAtChunks_113 : decode b_Opn_lookAtChunks 113 = .ok (.if_icmp .ge 171, 3) := by decide +kernel
theorem d_Opn_lookAtChunks_284 : decode b_Opn_lookAtChunks 284 = .ok (.iinc 1 1, 3) := by decide +kernel
theorem d_Opn_lookAtChunks_287 : decode b_Opn_lookAtChunks 287 = .ok (.goto (-227), 3) := by decide +kernel
theorem d_Opn_lookAtChunks_116 : decode b_Opn_lookAtChunks 116 = .ok (.aload_n 0, 1) := by decide +kernel
theorem d_Opn_lookAtChunks_117 : decode b_Opn_lookAtChunks 117 = .ok (.aload_n 0, 1) := by decide +kernel
theorem d_Opn_lookAtChunks_118 : decode b_Opn_lookAtChunks 118 = .ok (.getfield 25, 3) := by decide +kernel
theorem d_Opn_lookAtChunks_121 : decode b_Opn_lookAtChunks 121 = .ok (.getfield 77, 3) := by decide +kernel
theorem d_Opn_lookAtChunks_124 : decode b_Opn_lookAtChunks 124 = .ok (.getfield 115, 3) := by decide +kernel
theorem d_Opn_lookAtChunks_127 : decode b_Opn_lookAtChunks 127 = .ok (.aload_n 0, 1) := by decide +kernel
theorem d_Opn_lookAtChunks_128 : decode b_Opn_lookAtChunks 128 = .ok (.getfield 25, 3) := by decide +kernel
theorem d_Opn_lookAtChunks_131 : decode b_Opn_lookAtChunks 131 = .ok (.getfield 77, 3) := by decide +kernel
theorem d_Opn_lookAtChunks_134 : decode b_Opn_lookAtChunks 134 = .ok (.getfield 118, 3) := by decide +kernel
theorem d_Opn_lookAtChunks_137 : decode b_Opn_lookAtChunks 137 = .ok (.iload_n 2, 1) := by decide +kernel
theorem d_Opn_lookAtChunks_138 : decode b_Opn_lookAtChunks 138 = .ok (.iaload, 1) := by decide +kernel
theorem d_Opn_lookAtChunks_139 : decode b_Opn_lookAtChunks 139 = .ok (.iaload, 1) := by decide +kernel
theorem d_Opn_lookAtChunks_140 : decode b_Opn_lookAtChunks 140 = .ok (.invokevirtual 121, 3) := by decide +kernel
theorem d_Opn_lookAtChunks_143 : decode b_Opn_lookAtChunks 143 = .ok (.aload_n 0, 1) := by decide +kernel
theorem d_Opn_lookAtChunks_144 : decode b_Opn_lookAtChunks 144 = .ok (.iload_n 1, 1) := by decide +kernel
theorem d_Opn_lookAtChunks_145 : decode b_Opn_lookAtChunks 145 = .ok (.iload_n 2, 1) := by decide +kernel
theorem d_Opn_lookAtChunks_146 : decode b_Opn_lookAtChunks 146 = .ok (.invokevirtual 210, 3) := by decide +kernel
theorem d_Opn_lookAtChunks_149 : decode b_Opn_lookAtChunks 149 = .ok (.istore_n 3, 1) := by decide +kernel
theorem d_Opn_lookAtChunks_150 : decode b_Opn_lookAtChunks 150 = .ok (.aload_n 0, 1) := by decide +kernel
theorem d_Opn_lookAtChunks_151 : decode b_Opn_lookAtChunks 151 = .ok (.getfield 15, 3) := by decide +kernel
theorem d_Opn_lookAtChunks_154 : decode b_Opn_lookAtChunks 154 = .ok (.iconst 1, 1) := by decide +kernel
theorem d_Opn_lookAtChunks_155 : decode b_Opn_lookAtChunks 155 = .ok (.laload, 1) := by decide +kernel
theorem d_Opn_lookAtChunks_156 : decode b_Opn_lookAtChunks 156 = .ok (.ldc2_w 125, 3) := by decide +kernel
theorem d_Opn_lookAtChunks_159 : decode b_Opn_lookAtChunks 159 = .ok (.invokestatic 91, 3) := by decide +kernel
theorem d_Opn_lookAtChunks_162 : decode b_Opn_lookAtChunks 162 = .ok (.ifCond .eq 12, 3) := by decide +kernel
theorem d_Opn_lookAtChunks_174 : decode b_Opn_lookAtChunks 174 = .ok (.ldc2_w 214, 3) := by decide +kernel
theorem d_Opn_lookAtChunks_165 : decode b_Opn_lookAtChunks 165 = .ok (.aload_n 0, 1) := by decide +kernel
theorem d_Opn_lookAtChunks_166 : decode b_Opn_lookAtChunks 166 = .ok (.getfield 15, 3) := by decide +kernel
theorem d_Opn_lookAtChunks_169 : decode b_Opn_lookAtChunks 169 = .ok (.iconst 1, 1) := by decide +kernel
theorem d_Opn_lookAtChunks_170 : decode b_Opn_lookAtChunks 170 = .ok (.laload, 1) := by decide +kernel
theorem d_Opn_lookAtChunks_171 : decode b_Opn_lookAtChunks 171 = .ok (.goto 6, 3) := by decide +kernel
theorem d_Opn_lookAtChunks_60 : decode b_Opn_lookAtChunks 60 = .ok (.iload_n 1, 1) := by decide +kernel
theorem d_Opn_lookAtChunks_61 : decode b_Opn_lookAtChunks 61 = .ok (.aload_n 0, 1) := by decide +kernel
theorem d_Opn_lookAtChunks_62 : decode b_Opn_lookAtChunks 62 = .ok (.getfield 25, 3) := by decide +kernel
theorem d_Opn_lookAtChunks_65 : decode b_Opn_lookAtChunks 65 = .ok (.getfield 136, 3) := by decide +kernel
theorem d_Opn_lookAtChunks_68 : decode b_Opn_lookAtChunks 68 = .ok (.if_icmp .ge 222, 3) := by decide +kernel
theorem d_Opn_lookAtChunks_290 : decode b_Opn_lookAtChunks 290 = .ok (.aload_n 0, 1) := by decide +kernel
theorem d_Opn_lookAtChunks_291 : decode b_Opn_lookAtChunks 291 = .ok (.getfield 25, 3) := by decide +kernel
theorem d_Opn_lookAtChunks_294 : decode b_Opn_lookAtChunks 294 = .ok (.getfield 228, 3) := by decide +kernel
theorem d_Opn_lookAtChunks_297 : decode b_Opn_lookAtChunks 297 = .ok (.aload_n 0, 1) := by decide +kernel
theorem d_Opn_lookAtChunks_298 : decode b_Opn_lookAtChunks 298 = .ok (.getfield 25, 3) := by decide +kernel
theorem d_Opn_lookAtChunks_301 : decode b_Opn_lookAtChunks 301 = .ok (.getfield 189, 3) := by decide +kernel
theorem d_Opn_lookAtChunks_304 : decode b_Opn_lookAtChunks 304 = .ok (.iconst 0, 1) := by decide +kernel
theorem d_Opn_lookAtChunks_305 : decode b_Opn_lookAtChunks 305 = .ok (.bastore, 1) := by decide +kernel
theorem d_Opn_lookAtChunks_306 : decode b_Opn_lookAtChunks 306 = .ok (.aload_n 0, 1) := by decide +kernel
theorem d_Opn_lookAtChunks_307 : decode b_Opn_lookAtChunks 307 = .ok (.iconst (-1), 1) := by decide +kernel
theorem d_Opn_lookAtChunks_308 : decode b_Opn_lookAtChunks 308 = .ok (.iconst (-1), 1) := by decide +kernel
theorem d_Opn_lookAtChunks_309 : decode b_Opn_lookAtChunks 309 = .ok (.iconst (-1), 1) := by decide +kernel
theorem d_Opn_lookAtChunks_310 : decode b_Opn_lookAtChunks 310 = .ok (.invokevirtual 47, 3) := by decide +kernel
theorem d_Opn_lookAtChunks_313 : decode b_Opn_lookAtChunks 313 = .ok (.iconst 0, 1) := by decide +kernel
theorem d_Opn_lookAtChunks_314 : decode b_Opn_lookAtChunks 314 = .ok (.ireturn, 1) := by decide +kernel
theorem d_Opn_lookAtChunks_71 : decode b_Opn_lookAtChunks 71 = .ok (.aload_n 0, 1) := by decide +kernel
theorem d_Opn_lookAtChunks_72 : decode b_Opn_lookAtChunks 72 = .ok (.getfield 25, 3) := by decide +kernel
theorem d_Opn_lookAtChunks_75 : decode b_Opn_lookAtChunks 75 = .ok (.getfield 195, 3) := by decide +kernel
theorem d_Opn_lookAtChunks_78 : decode b_Opn_lookAtChunks 78 = .ok (.iload_n 1, 1) := by decide +kernel
theorem d_Opn_lookAtChunks_79 : decode b_Opn_lookAtChunks 79 = .ok (.iconst 1, 1) := by decide +kernel
theorem d_Opn_lookAtChunks_80 : decode b_Opn_lookAtChunks 80 = .ok (.iadd, 1) := by decide +kernel
theorem d_Opn_lookAtChunks_81 : decode b_Opn_lookAtChunks 81 = .ok (.aload_n 0, 1) := by decide +kernel
theorem d_Opn_lookAtChunks_82 : decode b_Opn_lookAtChunks 82 = .ok (.getfield 25, 3) := by decide +kernel
theorem d_Opn_lookAtChunks_85 : decode b_Opn_lookAtChunks 85 = .ok (.getfield 195, 3) := by decide +kernel
theorem d_Opn_lookAtChunks_88 : decode b_Opn_lookAtChunks 88 = .ok (.iload_n 1, 1) := by decide +kernel
theorem d_Opn_lookAtChunks_89 : decode b_Opn_lookAtChunks 89 = .ok (.iaload, 1) := by decide +kernel
theorem d_Opn_lookAtChunks_90 : decode b_Opn_lookAtChunks 90 = .ok (.aload_n 0, 1) := by decide +kernel
theorem d_Opn_lookAtChunks_91 : decode b_Opn_lookAtChunks 91 = .ok (.getfield 40, 3) := by decide +kernel
theorem d_Opn_lookAtChunks_94 : decode b_Opn_lookAtChunks 94 = .ok (.invokevirtual 85, 3) := by decide +kernel
theorem d_Opn_lookAtChunks_97 : decode b_Opn_lookAtChunks 97 = .ok (.l2i, 1) := by decide +kernel
theorem d_Opn_lookAtChunks_98 : decode b_Opn_lookAtChunks 98 = .ok (.iadd, 1) := by decide +kernel
theorem d_Opn_lookAtChunks_99 : decode b_Opn_lookAtChunks 99 = .ok (.iastore, 1) := by decide +kernel
theorem d_Opn_lookAtChunks_100 : decode b_Opn_lookAtChunks 100 = .ok (.iconst 0, 1) := by decide +kernel
theorem d_Opn_lookAtChunks_101 : decode b_Opn_lookAtChunks 101 = .ok (.istore_n 2, 1) := by decide +kernel
theorem d_Opn_lookAtChunks_0 : decode b_Opn_lookAtChunks 0 = .ok (.aload_n 0, 1) := by decide +kernel
theorem d_Opn_lookAtChunks_1 : decode b_Opn_lookAtChunks 1 = .ok (.getfield 25, 3) := by decide +kernel
theorem d_Opn_lookAtChunks_4 : decode b_Opn_lookAtChunks 4 = .ok (.iconst 0, 1) := by decide +kernel
theorem d_Opn_lookAtChunks_5 : decode b_Opn_lookAtChunks 5 = .ok (.putfield 189, 3) := by decide +kernel
theorem d_Opn_lookAtChunks_8 : decode b_Opn_lookAtChunks 8 = .ok (.aload_n 0, 1) := by decide +kernel
theorem d_Opn_lookAtChunks_9 : decode b_Opn_lookAtChunks 9 = .ok (.getfield 25, 3) := by decide +kernel
theorem d_Opn_lookAtChunks_12 : decode b_Opn_lookAtChunks 12 = .ok (.iconst 0, 1) := by decide +kernel
theorem d_Opn_lookAtChunks_13 : decode b_Opn_lookAtChunks 13 = .ok (.putfield 192, 3) := by decide +kernel
theorem d_Opn_lookAtChunks_16 : decode b_Opn_lookAtChunks 16 = .ok (.aload_n 0, 1) := by decide +kernel
theorem d_Opn_lookAtChunks_17 : decode b_Opn_lookAtChunks 17 = .ok (.getfield 25, 3) := by decide +kernel
theorem d_Opn_lookAtChunks_20 : decode b_Opn_lookAtChunks 20 = .ok (.getfield 195, 3) := by decide +kernel
theorem d_Opn_lookAtChunks_23 : decode b_Opn_lookAtChunks 23 = .ok (.iconst 0, 1) := by decide +kernel
theorem d_Opn_lookAtChunks_24 : decode b_Opn_lookAtChunks 24 = .ok (.iconst 0, 1) := by decide +kernel
theorem d_Opn_lookAtChunks_25 : decode b_Opn_lookAtChunks 25 = .ok (.iastore, 1) := by decide +kernel
theorem d_Opn_lookAtChunks_26 : decode b_Opn_lookAtChunks 26 = .ok (.aload_n 0, 1) := by decide +kernel
theorem d_Opn_lookAtChunks_27 : decode b_Opn_lookAtChunks 27 = .ok (.iconst 0, 1) := by decide +kernel
theorem d_Opn_lookAtChunks_28 : decode b_Opn_lookAtChunks 28 = .ok (.putfield 198, 3) := by decide +kernel
theorem d_Opn_lookAtChunks_31 : decode b_Opn_lookAtChunks 31 = .ok (.aload_n 0, 1) := by decide +kernel
theorem d_Opn_lookAtChunks_32 : decode b_Opn_lookAtChunks 32 = .ok (.iconst 0, 1) := by decide +kernel
theorem d_Opn_lookAtChunks_33 : decode b_Opn_lookAtChunks 33 = .ok (.putfield 201, 3) := by decide +kernel
theorem d_Opn_lookAtChunks_36 : decode b_Opn_lookAtChunks 36 = .ok (.aload_n 0, 1) := by decide +kernel
theorem d_Opn_lookAtChunks_37 : decode b_Opn_lookAtChunks 37 = .ok (.ldc 55, 2) := by decide +kernel
theorem d_Opn_lookAtChunks_39 : decode b_Opn_lookAtChunks 39 = .ok (.putfield 204, 3) := by decide +kernel
theorem d_Opn_lookAtChunks_42 : decode b_Opn_lookAtChunks 42 = .ok (.aload_n 0, 1) := by decide +kernel
theorem d_Opn_lookAtChunks_43 : decode b_Opn_lookAtChunks 43 = .ok (.iconst 0, 1) := by decide +kernel
theorem d_Opn_lookAtChunks_44 : decode b_Opn_lookAtChunks 44 = .ok (.putfield 207, 3) := by decide +kernel
theorem d_Opn_lookAtChunks_47 : decode b_Opn_lookAtChunks 47 = .ok (.aload_n 0, 1) := by decide +kernel
theorem d_Opn_lookAtChunks_48 : decode b_Opn_lookAtChunks 48 = .ok (.getfield 40, 3) := by decide +kernel
theorem d_Opn_lookAtChunks_51 : decode b_Opn_lookAtChunks 51 = .ok (.aload_n 0, 1) := by decide +kernel
theorem d_Opn_lookAtChunks_52 : decode b_Opn_lookAtChunks 52 = .ok (.getfield 104, 3) := by decide +kernel
theorem d_Opn_lookAtChunks_55 : decode b_Opn_lookAtChunks 55 = .ok (.putfield 101, 3) := by decide +kernel
theorem d_Opn_lookAtChunks_58 : decode b_Opn_lookAtChunks 58 = .ok (.iconst 0, 1) := by decide +kernel
theorem d_Opn_lookAtChunks_59 : decode b_Opn_lookAtChunks 59 = .ok (.istore_n 1, 1) := by decide +kernel
section
variable (l : Launch) (dC : Nat → ClassId) (dI : Nat → Nat → Nat) (cI cB cJ cZ : ClassId)
set_option maxRecDepth 100000 in
set_option maxHeartbeats 4000000 in
set_option maxRecDepth 100000 in
theorem t_Opn_endChunk_265 {p : Program} {l : Launch} {e : Env} {R : Room} {s : State} {m : MethodId} {args : Array Value} {below : List Frame} {meth : Method} {c : Code} {cells slots : Nat} {Q : State → Prop} {dC : Nat → ClassId} {dI : Nat → Nat → Nat} {cI cB cJ cZ : ClassId} {A : Nat → Prop} {ad : Nat → Nat} {NN : Nat} {E : Heap} {tM tC : Nat} {kK kV : Nat → Nat} {post : St → Prop} (hx : p.tables.exec = Jvm.exec) (hb : c.code = b_Opn_endChunk) (hml : c.maxLocals = 8) (hown : s.vm.findClass R_Opn = some m.cls) (hT : ∀ w ∈ TG, w.before args s = true) (hK : va_K (dC, dI) CL (TY cI cB cJ cZ) s) (hN : NW s) (hA : ∀ q : Nat, s.heap.size ≤ q → A q) (hRc : cells ≤ R.cells) (hRs : slots ≤ R.slots) (hRf : 3 ≤ R.frames) (hRl : 137 ≤ R.locals) (hNN : 152 ≤ NN) (hE : CE E tM tC kK kV A s) (hret : ∀ (x : St) (H : Heap) (locs : List Loc) (pc : Nat) (ls : Array Slot), decode b_Opn_endChunk pc = .ok (.return_, 1) → post x → Wd dC dI cI cB cJ cZ ad stC kcC NN A x H → va_S A s.heap H locs → W p l e R s m args below meth c H locs cells slots Q (F0 m pc ls []))  : ∀ (o : Nat) (l1 : Int32) (l2 : Int32) (l3 : Int32) (l4 : Int32) (l5 : Int32) (l6 : Int32) (x : St) (H : Heap) (locs : List Loc) (ls : Array Slot), (o < NN ∧ kcC o = 7) → j_Opn_endChunk_265 post o l1 l2 l3 l4 l5 l6 x → Wd dC dI cI cB cJ cZ ad stC kcC NN A x H → va_S A s.heap H locs → lv_has ls 8 [(0, .ref (ad o)), (1, .int l1), (2, .int l2), (3, .int l3), (4, .int l4), (5, .int l5), (6, .int l6)] → W p l e R s m args below meth c H locs cells slots Q (F0 m 265 ls []) := by
  intro o l1 l2 l3 l4 l5 l6 x H locs ls fo hw hW hS hl
  unfold j_Opn_endChunk_265 at hw
  refine lv_aload_n hx hb d_Opn_endChunk_265 rfl (lv_at hl 0 rfl) ?_
  refine w_getf (q := (stC o 2)) (k := 2) (t := 7) (C := R_Opn) (T := F_Opn) (N := 17) hx hb hT hown hK hW fo.1 fo.2 (by decide) in_Opn rfl rfl (by decide) rfl fr_Opn_2 w_3_17 d_Opn_endChunk_266 rfl ?_
  refine w_geti (k := 3) (t := 8) (C := R_Src) (T := F_Src) (N := 5) hx hb hT hown hK hW (st_ty hNN fo.1 fo.2 rfl).1 (st_ty hNN fo.1 fo.2 rfl).2 (by decide) in_Src rfl rfl (by decide) rfl fr_Src_3 w_3_2 d_Opn_endChunk_269 ?_
  refine lv_if_ne (tgt := 322) hx hb d_Opn_endChunk_272 (by decide) (fun c1 => ?_) (fun c1 => ?_)
  · have hw := hw.1 c1
    exact hret x H locs 322 ls d_Opn_endChunk_322 hw hW hS
  · have hw := hw.2 c1
    refine lv_iload_n hx hb d_Opn_endChunk_275 rfl (lv_at hl 2 rfl) ?_
    refine lv_if_le (tgt := 322) hx hb d_Opn_endChunk_276 (by decide) (fun c2 => ?_) (fun c2 => ?_)
    · have hw := hw.1 c2
      exact hret x H locs 322 ls d_Opn_endChunk_322 hw hW hS
    · have hw := hw.2 c2
      refine lv_aload_n hx hb d_Opn_endChunk_279 rfl (lv_at hl 0 rfl) ?_
      refine w_getf (q := (stC o 0)) (k := 0) (t := 7) (C := R_Opn) (T := F_Opn) (N := 17) hx hb hT hown hK hW fo.1 fo.2 (by decide) in_Opn rfl rfl (by decide) rfl fr_Opn_0 w_3_15 d_Opn_endChunk_280 rfl ?_
      refine w_getf (q := (stC (stC o 0) 12)) (k := 12) (t := 6) (C := R_Vlt) (T := F_Vlt) (N := 20) hx hb hT hown hK hW (st_ty hNN fo.1 fo.2 rfl).1 (st_ty hNN fo.1 fo.2 rfl).2 (by decide) in_Vlt rfl rfl (by decide) rfl fr_Vlt_12 w_2_160 d_Opn_endChunk_283 rfl ?_
      refine lv_iload_n hx hb d_Opn_endChunk_286 rfl (lv_at hl 1 rfl) ?_
      refine lv_aload_n hx hb d_Opn_endChunk_287 rfl (lv_at hl 0 rfl) ?_
      refine w_getf (q := (stC o 0)) (k := 0) (t := 7) (C := R_Opn) (T := F_Opn) (N := 17) hx hb hT hown hK hW fo.1 fo.2 (by decide) in_Opn rfl rfl (by decide) rfl fr_Opn_0 w_3_15 d_Opn_endChunk_288 rfl ?_
      refine w_getf (q := (stC (stC o 0) 5)) (k := 5) (t := 6) (C := R_Vlt) (T := F_Vlt) (N := 20) hx hb hT hown hK hW (st_ty hNN fo.1 fo.2 rfl).1 (st_ty hNN fo.1 fo.2 rfl).2 (by decide) in_Vlt rfl rfl (by decide) rfl fr_Vlt_5 w_2_136 d_Opn_endChunk_291 rfl ?_
      refine w_geti (k := 1) (t := 3) (C := R_Sch) (T := F_Sch) (N := 13) hx hb hT hown hK hW (st_ty hNN (st_ty hNN fo.1 fo.2 rfl).1 (st_ty hNN fo.1 fo.2 rfl).2 rfl).1 (st_ty hNN (st_ty hNN fo.1 fo.2 rfl).1 (st_ty hNN fo.1 fo.2 rfl).2 rfl).2 (by decide) in_Sch rfl rfl (by decide) rfl fr_Sch_1 w_1_137 d_Opn_endChunk_294 ?_
      refine lv_imul hx hb d_Opn_endChunk_297 ?_
      refine lv_iload_n hx hb d_Opn_endChunk_298 rfl (lv_at hl 2 rfl) ?_
      refine lv_iadd hx hb d_Opn_endChunk_299 ?_
      refine lv_iconst (v := 1) hx hb d_Opn_endChunk_300 (by decide) ?_
      refine lv_isub hx hb d_Opn_endChunk_301 ?_
      obtain ⟨hi, hw⟩ := hw
      refine w_iald (o := (stC (stC o 0) 12)) hx hb hK hW (st_ty hNN (st_ty hNN fo.1 fo.2 rfl).1 (st_ty hNN fo.1 fo.2 rfl).2 rfl).1 (st_ty hNN (st_ty hNN fo.1 fo.2 rfl).1 (st_ty hNN fo.1 fo.2 rfl).2 rfl).2 hi d_Opn_endChunk_302 ?_
      refine lv_topi (fun v3 ev3 => ?_)
      have hw := hw v3 ev3
      refine lv_istore (lv' := [(7, .int v3), (0, .ref (ad o)), (1, .int l1), (2, .int l2), (3, .int l3), (4, .int l4), (5, .int l5), (6, .int l6)]) hx hb d_Opn_endChunk_303 hl (by decide) rfl (fun ls hl => ?_)
      refine lv_aload_n hx hb d_Opn_endChunk_305 rfl (lv_at hl 1 rfl) ?_
      refine w_getf (q := (stC o 2)) (k := 2) (t := 7) (C := R_Opn) (T := F_Opn) (N := 17) hx hb hT hown hK hW fo.1 fo.2 (by decide) in_Opn rfl rfl (by decide) rfl fr_Opn_2 w_3_17 d_Opn_endChunk_306 rfl ?_
      refine lv_aload_n hx hb d_Opn_endChunk_309 rfl (lv_at hl 1 rfl) ?_
      refine lv_iload_n hx hb d_Opn_endChunk_310 rfl (lv_at hl 3 rfl) ?_
      refine lv_iload hx hb d_Opn_endChunk_311 (lv_at hl 0 rfl) ?_
      refine lv_iload_n hx hb d_Opn_endChunk_313 rfl (lv_at hl 4 rfl) ?_
      have hF := hW.free hS hA
      refine va_calli (va_runV (C := R_Opn) (As := [.int l2, .int v3, .int l3]) (rest := [.ref (ad (stC o 2))]) ⟨hx, hb, hml, hown, hT⟩ (k_Opn_goTogether l dC dI cI cB cJ cZ ad NN E tM tC kK kV hNN H.size o l2 v3 l3 x fo hw) ⟨callB_of 3 hT (gwt_in w_7_58) rfl rfl rfl (hT _ w_1_10) (hT _ w_7_55) (by decide +kernel) ⟨Nat.le_trans (Nat.le_of_ble_eq_true rfl) hRf, Nat.le_trans (Nat.le_of_ble_eq_true rfl) hRl⟩, hT _ w_7_57, hT _ ws_60⟩ ⟨PVc.blind, va_recv hK hW.1 (ci := 7) (q0 := o) rfl (pic_obj fo.1 fo.2 (by decide)), PVc.at _ hW hK hN hE hS hF⟩ rfl rfl hl.1 rfl (lv_room (Nat.le_of_ble_eq_true rfl)) d_Opn_endChunk_314 ⟨hRc, hRs⟩) hS (fun q _ h => hF q h) hF (fun r5 x4 t H locs ht hvm hw hB hz1 hk1 hS => ?_)
      have hW := Wd.back hB ht hF
      clear hB ht hF hz1 hk1 hvm
      refine lv_bipush (v := 21) hx hb d_Opn_endChunk_317 (by decide) ?_
      have hF := hW.free hS hA
      refine va_callv (va_runV (C := R_Src) (As := [.int r5, .int 21]) (rest := []) ⟨hx, hb, hml, hown, hT⟩ (k_Src_check l dC dI cI cB cJ cZ ad NN E tM tC kK kV hNN H.size (stC o 2) r5 21 x4 (st_ty hNN fo.1 fo.2 rfl) hw) ⟨callB_of 2 hT (gwt_in w_6_116) rfl rfl rfl (hT _ w_1_11) (hT _ w_6_113) (by decide +kernel) ⟨Nat.le_trans (Nat.le_of_ble_eq_true rfl) hRf, Nat.le_trans (Nat.le_of_ble_eq_true rfl) hRl⟩, hT _ w_6_114, hT _ w_6_115⟩ ⟨PVc.blind, va_recv hK hW.1 (ci := 8) (q0 := (stC o 2)) rfl (pic_obj (st_ty hNN fo.1 fo.2 rfl).1 (st_ty hNN fo.1 fo.2 rfl).2 (by decide)), PVc.at _ hW hK hN hE hS hF⟩ rfl rfl hl.1 rfl (lv_room (Nat.le_of_ble_eq_true rfl)) d_Opn_endChunk_319 ⟨hRc, hRs⟩) hS (fun q _ h => hF q h) hF (fun  x6 t H locs ht hvm hw hB hz1 hk1 hS => ?_)
      have hW := Wd.back hB ht hF
      clear hB ht hF hz1 hk1 hvm
      exact hret x6 H locs 322 ls d_Opn_endChunk_322 hw hW hS
set_option maxRecDepth 100000 in
set_option maxHeartbeats 4000000 in
set_option maxRecDepth 100000 in
theorem t_Opn_endChunk_260 {p : Program} {l : Launch} {e : Env} {R : Room} {s : State} {m : MethodId} {args : Array Value} {below : List Frame} {meth : Method} {c : Code} {cells slots : Nat} {Q : State → Prop} {dC : Nat → ClassId} {dI : Nat → Nat → Nat} {cI cB cJ cZ : ClassId} {A : Nat → Prop} {ad : Nat → Nat} {NN : Nat} {E : Heap} {tM tC : Nat} {kK kV : Nat → Nat} {post : St → Prop} (hx : p.tables.exec = Jvm.exec) (hb : c.code = b_Opn_endChunk) (hml : c.maxLocals = 8) (hown : s.vm.findClass R_Opn = some m.cls) (hT : ∀ w ∈ TG, w.before args s = true) (hK : va_K (dC, dI) CL (TY cI cB cJ cZ) s) (hN : NW s) (hA : ∀ q : Nat, s.heap.size ≤ q → A q) (hRc : cells ≤ R.cells) (hRs : slots ≤ R.slots) (hRf : 3 ≤ R.frames) (hRl : 137 ≤ R.locals) (hNN : 152 ≤ NN) (hE : CE E tM tC kK kV A s) (hret : ∀ (x : St) (H : Heap) (locs : List Loc) (pc : Nat) (ls : Array Slot), decode b_Opn_endChunk pc = .ok (.return_, 1) → post x → Wd dC dI cI cB cJ cZ ad stC kcC NN A x H → va_S A s.heap H locs → W p l e R s m args below meth c H locs cells slots Q (F0 m pc ls []))  : ∀ (o : Nat) (l1 : Int32) (l2 : Int32) (l3 : Int32) (l4 : Int32) (l5 : Int32) (l6 : Int32) (s0 : Int32) (s1 : Nat) (x : St) (H : Heap) (locs : List Loc) (ls : Array Slot), (o < NN ∧ kcC o = 7) → (s1 < NN ∧ kcC s1 = 8) → j_Opn_endChunk_260 post o l1 l2 l3 l4 l5 l6 s0 s1 x → Wd dC dI cI cB cJ cZ ad stC kcC NN A x H → va_S A s.heap H locs → lv_has ls 8 [(0, .ref (ad o)), (1, .int l1), (2, .int l2), (3, .int l3), (4, .int l4), (5, .int l5), (6, .int l6)] → W p l e R s m args below meth c H locs cells slots Q (F0 m 260 ls [.int s0, .ref (ad s1)]) := by
  intro o l1 l2 l3 l4 l5 l6 s0 s1 x H locs ls fo fs1 hw hW hS hl
  unfold j_Opn_endChunk_260 at hw
  refine lv_bipush (v := 12) hx hb d_Opn_endChunk_260 (by decide) ?_
  have hF := hW.free hS hA
  refine va_callv (va_runV (C := R_Src) (As := [.int s0, .int 12]) (rest := []) ⟨hx, hb, hml, hown, hT⟩ (k_Src_check l dC dI cI cB cJ cZ ad NN E tM tC kK kV hNN H.size s1 s0 12 x fs1 hw) ⟨callB_of 2 hT (gwt_in w_6_116) rfl rfl rfl (hT _ w_1_11) (hT _ w_6_113) (by decide +kernel) ⟨Nat.le_trans (Nat.le_of_ble_eq_true rfl) hRf, Nat.le_trans (Nat.le_of_ble_eq_true rfl) hRl⟩, hT _ w_6_114, hT _ w_6_115⟩ ⟨PVc.blind, va_recv hK hW.1 (ci := 8) (q0 := s1) rfl (pic_obj fs1.1 fs1.2 (by decide)), PVc.at _ hW hK hN hE hS hF⟩ rfl rfl hl.1 rfl (lv_room (Nat.le_of_ble_eq_true rfl)) d_Opn_endChunk_262 ⟨hRc, hRs⟩) hS (fun q _ h => hF q h) hF (fun  x7 t H locs ht hvm hw hB hz1 hk1 hS => ?_)
  have hW := Wd.back hB ht hF
  clear hB ht hF hz1 hk1 hvm
  exact t_Opn_endChunk_265 hx hb hml hown hT hK hN hA hRc hRs hRf hRl hNN hE hret  o l1 l2 l3 l4 l5 l6 x7 H locs ls fo hw hW hS (lv_sub hl [0, 1, 2, 3, 4, 5, 6] rfl)
set_option maxRecDepth 100000 in
set_option maxHeartbeats 4000000 in
set_option maxRecDepth 100000 in
theorem t_Opn_endChunk_219 {p : Program} {l : Launch} {e : Env} {R : Room} {s : State} {m : MethodId} {args : Array Value} {below : List Frame} {meth : Method} {c : Code} {cells slots : Nat} {Q : State → Prop} {dC : Nat → ClassId} {dI : Nat → Nat → Nat} {cI cB cJ cZ : ClassId} {A : Nat → Prop} {ad : Nat → Nat} {NN : Nat} {E : Heap} {tM tC : Nat} {kK kV : Nat → Nat} {post : St → Prop} (hx : p.tables.exec = Jvm.exec) (hb : c.code = b_Opn_endChunk) (hml : c.maxLocals = 8) (hown : s.vm.findClass R_Opn = some m.cls) (hT : ∀ w ∈ TG, w.before args s = true) (hK : va_K (dC, dI) CL (TY cI cB cJ cZ) s) (hN : NW s) (hA : ∀ q : Nat, s.heap.size ≤ q → A q) (hRc : cells ≤ R.cells) (hRs : slots ≤ R.slots) (hRf : 3 ≤ R.frames) (hRl : 137 ≤ R.locals) (hNN : 152 ≤ NN) (hE : CE E tM tC kK kV A s) (hret : ∀ (x : St) (H : Heap) (locs : List Loc) (pc : Nat) (ls : Array Slot), decode b_Opn_endChunk pc = .ok (.return_, 1) → post x → Wd dC dI cI cB cJ cZ ad stC kcC NN A x H → va_S A s.heap H locs → W p l e R s m args below meth c H locs cells slots Q (F0 m pc ls []))  : ∀ (o : Nat) (l1 : Int32) (l2 : Int32) (l3 : Int32) (l4 : Int32) (l5 : Int32) (l6 : Int32) (s0 : Int32) (s1 : Nat) (x : St) (H : Heap) (locs : List Loc) (ls : Array Slot), (o < NN ∧ kcC o = 7) → (s1 < NN ∧ kcC s1 = 8) → j_Opn_endChunk_219 post o l1 l2 l3 l4 l5 l6 s0 s1 x → Wd dC dI cI cB cJ cZ ad stC kcC NN A x H → va_S A s.heap H locs → lv_has ls 8 [(0, .ref (ad o)), (1, .int l1), (2, .int l2), (3, .int l3), (4, .int l4), (5, .int l5), (6, .int l6)] → W p l e R s m args below meth c H locs cells slots Q (F0 m 219 ls [.int s0, .ref (ad s1)]) := by
  intro o l1 l2 l3 l4 l5 l6 s0 s1 x H locs ls fo fs1 hw hW hS hl
  unfold j_Opn_endChunk_219 at hw
  refine lv_bipush (v := 11) hx hb d_Opn_endChunk_219 (by decide) ?_
  have hF := hW.free hS hA
  refine va_callv (va_runV (C := R_Src) (As := [.int s0, .int 11]) (rest := []) ⟨hx, hb, hml, hown, hT⟩ (k_Src_check l dC dI cI cB cJ cZ ad NN E tM tC kK kV hNN H.size s1 s0 11 x fs1 hw) ⟨callB_of 2 hT (gwt_in w_6_116) rfl rfl rfl (hT _ w_1_11) (hT _ w_6_113) (by decide +kernel) ⟨Nat.le_trans (Nat.le_of_ble_eq_true rfl) hRf, Nat.le_trans (Nat.le_of_ble_eq_true rfl) hRl⟩, hT _ w_6_114, hT _ w_6_115⟩ ⟨PVc.blind, va_recv hK hW.1 (ci := 8) (q0 := s1) rfl (pic_obj fs1.1 fs1.2 (by decide)), PVc.at _ hW hK hN hE hS hF⟩ rfl rfl hl.1 rfl (lv_room (Nat.le_of_ble_eq_true rfl)) d_Opn_endChunk_221 ⟨hRc, hRs⟩) hS (fun q _ h => hF q h) hF (fun  x8 t H locs ht hvm hw hB hz1 hk1 hS => ?_)
  have hW := Wd.back hB ht hF
  clear hB ht hF hz1 hk1 hvm
  refine lv_aload_n hx hb d_Opn_endChunk_224 rfl (lv_at hl 0 rfl) ?_
  refine w_getf (q := (stC o 2)) (k := 2) (t := 7) (C := R_Opn) (T := F_Opn) (N := 17) hx hb hT hown hK hW fo.1 fo.2 (by decide) in_Opn rfl rfl (by decide) rfl fr_Opn_2 w_3_17 d_Opn_endChunk_225 rfl ?_
  refine lv_aload_n hx hb d_Opn_endChunk_228 rfl (lv_at hl 0 rfl) ?_
  refine w_getf (q := (stC o 0)) (k := 0) (t := 7) (C := R_Opn) (T := F_Opn) (N := 17) hx hb hT hown hK hW fo.1 fo.2 (by decide) in_Opn rfl rfl (by decide) rfl fr_Opn_0 w_3_15 d_Opn_endChunk_229 rfl ?_
  refine lv_iload hx hb d_Opn_endChunk_232 (lv_at hl 4 rfl) ?_
  refine lv_aload_n hx hb d_Opn_endChunk_234 rfl (lv_at hl 0 rfl) ?_
  refine w_getf (q := (stC o 0)) (k := 0) (t := 7) (C := R_Opn) (T := F_Opn) (N := 17) hx hb hT hown hK hW fo.1 fo.2 (by decide) in_Opn rfl rfl (by decide) rfl fr_Opn_0 w_3_15 d_Opn_endChunk_235 rfl ?_
  refine w_getf (q := (stC (stC o 0) 17)) (k := 17) (t := 6) (C := R_Vlt) (T := F_Vlt) (N := 20) hx hb hT hown hK hW (st_ty hNN fo.1 fo.2 rfl).1 (st_ty hNN fo.1 fo.2 rfl).2 (by decide) in_Vlt rfl rfl (by decide) rfl fr_Vlt_17 w_2_175 d_Opn_endChunk_238 rfl ?_
  refine lv_iload_n hx hb d_Opn_endChunk_241 rfl (lv_at hl 3 rfl) ?_
  obtain ⟨hi, hw⟩ := hw
  refine w_lald (o := (stC (stC o 0) 17)) hx hb hK hW (st_ty hNN (st_ty hNN fo.1 fo.2 rfl).1 (st_ty hNN fo.1 fo.2 rfl).2 rfl).1 (st_ty hNN (st_ty hNN fo.1 fo.2 rfl).1 (st_ty hNN fo.1 fo.2 rfl).2 rfl).2 hi d_Opn_endChunk_242 ?_
  refine lv_aload_n hx hb d_Opn_endChunk_243 rfl (lv_at hl 0 rfl) ?_
  refine w_getf (q := (stC o 6)) (k := 6) (t := 7) (C := R_Opn) (T := F_Opn) (N := 17) hx hb hT hown hK hW fo.1 fo.2 (by decide) in_Opn rfl rfl (by decide) rfl fr_Opn_6 w_3_22 d_Opn_endChunk_244 rfl ?_
  refine lv_iconst (v := 5) hx hb d_Opn_endChunk_247 (by decide) ?_
  obtain ⟨hi, hw⟩ := hw
  refine w_lald (o := (stC o 6)) hx hb hK hW (st_ty hNN fo.1 fo.2 rfl).1 (st_ty hNN fo.1 fo.2 rfl).2 hi d_Opn_endChunk_248 ?_
  have hF := hW.free hS hA
  refine va_calli (va_runV (C := R_Vlt) (As := [.int l4, .long (rL x8 (stC (stC o 0) 17) l3), .long (rL x8 (stC o 6) 5)]) (rest := [.ref (ad (stC o 2))]) ⟨hx, hb, hml, hown, hT⟩ (k_Vlt_compare l dC dI cI cB cJ cZ ad NN E tM tC kK kV hNN H.size (stC o 0) l4 (rL x8 (stC (stC o 0) 17) l3) (rL x8 (stC o 6) 5) x8 (st_ty hNN fo.1 fo.2 rfl) hw) ⟨callB_of 3 hT (gwt_in w_7_32) rfl rfl rfl (hT _ w_1_9) (hT _ w_7_29) (by decide +kernel) ⟨Nat.le_trans (Nat.le_of_ble_eq_true rfl) hRf, Nat.le_trans (Nat.le_of_ble_eq_true rfl) hRl⟩, hT _ w_7_30, hT _ w_7_31⟩ ⟨PVc.blind, va_recv hK hW.1 (ci := 6) (q0 := (stC o 0)) rfl (pic_obj (st_ty hNN fo.1 fo.2 rfl).1 (st_ty hNN fo.1 fo.2 rfl).2 (by decide)), PVc.at _ hW hK hN hE hS hF⟩ rfl rfl hl.1 rfl (lv_room (Nat.le_of_ble_eq_true rfl)) d_Opn_endChunk_249 ⟨hRc, hRs⟩) hS (fun q _ h => hF q h) hF (fun r10 x9 t H locs ht hvm hw hB hz1 hk1 hS => ?_)
  have hW := Wd.back hB ht hF
  clear hB ht hF hz1 hk1 hvm
  refine lv_if_ne (tgt := 259) hx hb d_Opn_endChunk_252 (by decide) (fun c11 => ?_) (fun c11 => ?_)
  · have hw := hw.1 c11
    refine lv_iconst (v := 0) hx hb d_Opn_endChunk_259 (by decide) ?_
    exact t_Opn_endChunk_260 hx hb hml hown hT hK hN hA hRc hRs hRf hRl hNN hE hret  o l1 l2 l3 l4 l5 l6 0 (stC o 2) x9 H locs ls fo (st_ty hNN fo.1 fo.2 rfl) hw hW hS (lv_sub hl [0, 1, 2, 3, 4, 5, 6] rfl)
  · have hw := hw.2 c11
    refine lv_iconst (v := 1) hx hb d_Opn_endChunk_255 (by decide) ?_
    refine lv_goto (tgt := 260) hx hb d_Opn_endChunk_256 (by decide) ?_
    exact t_Opn_endChunk_260 hx hb hml hown hT hK hN hA hRc hRs hRf hRl hNN hE hret  o l1 l2 l3 l4 l5 l6 1 (stC o 2) x9 H locs ls fo (st_ty hNN fo.1 fo.2 rfl) hw hW hS (lv_sub hl [0, 1, 2, 3, 4, 5, 6] rfl)
set_option maxRecDepth 100000 in
set_option maxHeartbeats 4000000 in
set_option maxRecDepth 100000 in
theorem t_Opn_endChunk_152 {p : Program} {l : Launch} {e : Env} {R : Room} {s : State} {m : MethodId} {args : Array Value} {below : List Frame} {meth : Method} {c : Code} {cells slots : Nat} {Q : State → Prop} {dC : Nat → ClassId} {dI : Nat → Nat → Nat} {cI cB cJ cZ : ClassId} {A : Nat → Prop} {ad : Nat → Nat} {NN : Nat} {E : Heap} {tM tC : Nat} {kK kV : Nat → Nat} {post : St → Prop} (hx : p.tables.exec = Jvm.exec) (hb : c.code = b_Opn_endChunk) (hml : c.maxLocals = 8) (hown : s.vm.findClass R_Opn = some m.cls) (hT : ∀ w ∈ TG, w.before args s = true) (hK : va_K (dC, dI) CL (TY cI cB cJ cZ) s) (hN : NW s) (hA : ∀ q : Nat, s.heap.size ≤ q → A q) (hRc : cells ≤ R.cells) (hRs : slots ≤ R.slots) (hRf : 3 ≤ R.frames) (hRl : 137 ≤ R.locals) (hNN : 152 ≤ NN) (hE : CE E tM tC kK kV A s) (hret : ∀ (x : St) (H : Heap) (locs : List Loc) (pc : Nat) (ls : Array Slot), decode b_Opn_endChunk pc = .ok (.return_, 1) → post x → Wd dC dI cI cB cJ cZ ad stC kcC NN A x H → va_S A s.heap H locs → W p l e R s m args below meth c H locs cells slots Q (F0 m pc ls []))  : ∀ (o : Nat) (l1 : Int32) (l2 : Int32) (l3 : Int32) (l4 : Int32) (l5 : Int32) (l6 : Int32) (s0 : Int32) (s1 : Nat) (x : St) (H : Heap) (locs : List Loc) (ls : Array Slot), (o < NN ∧ kcC o = 7) → (s1 < NN ∧ kcC s1 = 8) → j_Opn_endChunk_152 post o l1 l2 l3 l4 l5 l6 s0 s1 x → Wd dC dI cI cB cJ cZ ad stC kcC NN A x H → va_S A s.heap H locs → lv_has ls 8 [(0, .ref (ad o)), (1, .int l1), (2, .int l2), (3, .int l3), (4, .int l4), (5, .int l5), (6, .int l6)] → W p l e R s m args below meth c H locs cells slots Q (F0 m 152 ls [.int s0, .ref (ad s1)]) := by
  intro o l1 l2 l3 l4 l5 l6 s0 s1 x H locs ls fo fs1 hw hW hS hl
  unfold j_Opn_endChunk_152 at hw
  refine lv_bipush (v := 10) hx hb d_Opn_endChunk_152 (by decide) ?_
  have hF := hW.free hS hA
  refine va_callv (va_runV (C := R_Src) (As := [.int s0, .int 10]) (rest := []) ⟨hx, hb, hml, hown, hT⟩ (k_Src_check l dC dI cI cB cJ cZ ad NN E tM tC kK kV hNN H.size s1 s0 10 x fs1 hw) ⟨callB_of 2 hT (gwt_in w_6_116) rfl rfl rfl (hT _ w_1_11) (hT _ w_6_113) (by decide +kernel) ⟨Nat.le_trans (Nat.le_of_ble_eq_true rfl) hRf, Nat.le_trans (Nat.le_of_ble_eq_true rfl) hRl⟩, hT _ w_6_114, hT _ w_6_115⟩ ⟨PVc.blind, va_recv hK hW.1 (ci := 8) (q0 := s1) rfl (pic_obj fs1.1 fs1.2 (by decide)), PVc.at _ hW hK hN hE hS hF⟩ rfl rfl hl.1 rfl (lv_room (Nat.le_of_ble_eq_true rfl)) d_Opn_endChunk_154 ⟨hRc, hRs⟩) hS (fun q _ h => hF q h) hF (fun  x12 t H locs ht hvm hw hB hz1 hk1 hS => ?_)
  have hW := Wd.back hB ht hF
  clear hB ht hF hz1 hk1 hvm
  refine lv_aload_n hx hb d_Opn_endChunk_157 rfl (lv_at hl 0 rfl) ?_
  refine w_getf (q := (stC o 2)) (k := 2) (t := 7) (C := R_Opn) (T := F_Opn) (N := 17) hx hb hT hown hK hW fo.1 fo.2 (by decide) in_Opn rfl rfl (by decide) rfl fr_Opn_2 w_3_17 d_Opn_endChunk_158 rfl ?_
  refine w_geti (k := 3) (t := 8) (C := R_Src) (T := F_Src) (N := 5) hx hb hT hown hK hW (st_ty hNN fo.1 fo.2 rfl).1 (st_ty hNN fo.1 fo.2 rfl).2 (by decide) in_Src rfl rfl (by decide) rfl fr_Src_3 w_3_2 d_Opn_endChunk_161 ?_
  refine lv_if_ne (tgt := 265) hx hb d_Opn_endChunk_164 (by decide) (fun c13 => ?_) (fun c13 => ?_)
  · have hw := hw.1 c13
    exact t_Opn_endChunk_265 hx hb hml hown hT hK hN hA hRc hRs hRf hRl hNN hE hret  o l1 l2 l3 l4 l5 l6 x12 H locs ls fo hw hW hS (lv_sub hl [0, 1, 2, 3, 4, 5, 6] rfl)
  · have hw := hw.2 c13
    refine lv_aload_n hx hb d_Opn_endChunk_167 rfl (lv_at hl 0 rfl) ?_
    refine w_getf (q := (stC o 6)) (k := 6) (t := 7) (C := R_Opn) (T := F_Opn) (N := 17) hx hb hT hown hK hW fo.1 fo.2 (by decide) in_Opn rfl rfl (by decide) rfl fr_Opn_6 w_3_22 d_Opn_endChunk_168 rfl ?_
    refine lv_iconst (v := 3) hx hb d_Opn_endChunk_171 (by decide) ?_
    obtain ⟨hi, hw⟩ := hw
    refine w_lald (o := (stC o 6)) hx hb hK hW (st_ty hNN fo.1 fo.2 rfl).1 (st_ty hNN fo.1 fo.2 rfl).2 hi d_Opn_endChunk_172 ?_
    refine lv_aload_n hx hb d_Opn_endChunk_173 rfl (lv_at hl 0 rfl) ?_
    refine w_getf (q := (stC o 6)) (k := 6) (t := 7) (C := R_Opn) (T := F_Opn) (N := 17) hx hb hT hown hK hW fo.1 fo.2 (by decide) in_Opn rfl rfl (by decide) rfl fr_Opn_6 w_3_22 d_Opn_endChunk_174 rfl ?_
    refine lv_iconst (v := 2) hx hb d_Opn_endChunk_177 (by decide) ?_
    obtain ⟨hi, hw⟩ := hw
    refine w_lald (o := (stC o 6)) hx hb hK hW (st_ty hNN fo.1 fo.2 rfl).1 (st_ty hNN fo.1 fo.2 rfl).2 hi d_Opn_endChunk_178 ?_
    refine W.lcmp hx hb d_Opn_endChunk_179 ?_
    refine lv_if_ge (tgt := 265) hx hb d_Opn_endChunk_180 (by decide) (fun c14 => ?_) (fun c14 => ?_)
    · have hw := hw.1 c14
      exact t_Opn_endChunk_265 hx hb hml hown hT hK hN hA hRc hRs hRf hRl hNN hE hret  o l1 l2 l3 l4 l5 l6 x12 H locs ls fo hw hW hS (lv_sub hl [0, 1, 2, 3, 4, 5, 6] rfl)
    · have hw := hw.2 c14
      refine lv_aload_n hx hb d_Opn_endChunk_183 rfl (lv_at hl 0 rfl) ?_
      refine w_getf (q := (stC o 2)) (k := 2) (t := 7) (C := R_Opn) (T := F_Opn) (N := 17) hx hb hT hown hK hW fo.1 fo.2 (by decide) in_Opn rfl rfl (by decide) rfl fr_Opn_2 w_3_17 d_Opn_endChunk_184 rfl ?_
      refine lv_aload_n hx hb d_Opn_endChunk_187 rfl (lv_at hl 0 rfl) ?_
      refine w_getf (q := (stC o 0)) (k := 0) (t := 7) (C := R_Opn) (T := F_Opn) (N := 17) hx hb hT hown hK hW fo.1 fo.2 (by decide) in_Opn rfl rfl (by decide) rfl fr_Opn_0 w_3_15 d_Opn_endChunk_188 rfl ?_
      refine lv_iload hx hb d_Opn_endChunk_191 (lv_at hl 4 rfl) ?_
      refine lv_aload_n hx hb d_Opn_endChunk_193 rfl (lv_at hl 0 rfl) ?_
      refine w_getf (q := (stC o 0)) (k := 0) (t := 7) (C := R_Opn) (T := F_Opn) (N := 17) hx hb hT hown hK hW fo.1 fo.2 (by decide) in_Opn rfl rfl (by decide) rfl fr_Opn_0 w_3_15 d_Opn_endChunk_194 rfl ?_
      refine w_getf (q := (stC (stC o 0) 16)) (k := 16) (t := 6) (C := R_Vlt) (T := F_Vlt) (N := 20) hx hb hT hown hK hW (st_ty hNN fo.1 fo.2 rfl).1 (st_ty hNN fo.1 fo.2 rfl).2 (by decide) in_Vlt rfl rfl (by decide) rfl fr_Vlt_16 w_2_172 d_Opn_endChunk_197 rfl ?_
      refine lv_iload_n hx hb d_Opn_endChunk_200 rfl (lv_at hl 3 rfl) ?_
      obtain ⟨hi, hw⟩ := hw
      refine w_lald (o := (stC (stC o 0) 16)) hx hb hK hW (st_ty hNN (st_ty hNN fo.1 fo.2 rfl).1 (st_ty hNN fo.1 fo.2 rfl).2 rfl).1 (st_ty hNN (st_ty hNN fo.1 fo.2 rfl).1 (st_ty hNN fo.1 fo.2 rfl).2 rfl).2 hi d_Opn_endChunk_201 ?_
      refine lv_aload_n hx hb d_Opn_endChunk_202 rfl (lv_at hl 0 rfl) ?_
      refine w_getf (q := (stC o 6)) (k := 6) (t := 7) (C := R_Opn) (T := F_Opn) (N := 17) hx hb hT hown hK hW fo.1 fo.2 (by decide) in_Opn rfl rfl (by decide) rfl fr_Opn_6 w_3_22 d_Opn_endChunk_203 rfl ?_
      refine lv_iconst (v := 4) hx hb d_Opn_endChunk_206 (by decide) ?_
      obtain ⟨hi, hw⟩ := hw
      refine w_lald (o := (stC o 6)) hx hb hK hW (st_ty hNN fo.1 fo.2 rfl).1 (st_ty hNN fo.1 fo.2 rfl).2 hi d_Opn_endChunk_207 ?_
      have hF := hW.free hS hA
      refine va_calli (va_runV (C := R_Vlt) (As := [.int l4, .long (rL x12 (stC (stC o 0) 16) l3), .long (rL x12 (stC o 6) 4)]) (rest := [.ref (ad (stC o 2))]) ⟨hx, hb, hml, hown, hT⟩ (k_Vlt_compare l dC dI cI cB cJ cZ ad NN E tM tC kK kV hNN H.size (stC o 0) l4 (rL x12 (stC (stC o 0) 16) l3) (rL x12 (stC o 6) 4) x12 (st_ty hNN fo.1 fo.2 rfl) hw) ⟨callB_of 3 hT (gwt_in w_7_32) rfl rfl rfl (hT _ w_1_9) (hT _ w_7_29) (by decide +kernel) ⟨Nat.le_trans (Nat.le_of_ble_eq_true rfl) hRf, Nat.le_trans (Nat.le_of_ble_eq_true rfl) hRl⟩, hT _ w_7_30, hT _ w_7_31⟩ ⟨PVc.blind, va_recv hK hW.1 (ci := 6) (q0 := (stC o 0)) rfl (pic_obj (st_ty hNN fo.1 fo.2 rfl).1 (st_ty hNN fo.1 fo.2 rfl).2 (by decide)), PVc.at _ hW hK hN hE hS hF⟩ rfl rfl hl.1 rfl (lv_room (Nat.le_of_ble_eq_true rfl)) d_Opn_endChunk_208 ⟨hRc, hRs⟩) hS (fun q _ h => hF q h) hF (fun r16 x15 t H locs ht hvm hw hB hz1 hk1 hS => ?_)
      have hW := Wd.back hB ht hF
      clear hB ht hF hz1 hk1 hvm
      refine lv_if_ne (tgt := 218) hx hb d_Opn_endChunk_211 (by decide) (fun c17 => ?_) (fun c17 => ?_)
      · have hw := hw.1 c17
        refine lv_iconst (v := 0) hx hb d_Opn_endChunk_218 (by decide) ?_
        exact t_Opn_endChunk_219 hx hb hml hown hT hK hN hA hRc hRs hRf hRl hNN hE hret  o l1 l2 l3 l4 l5 l6 0 (stC o 2) x15 H locs ls fo (st_ty hNN fo.1 fo.2 rfl) hw hW hS (lv_sub hl [0, 1, 2, 3, 4, 5, 6] rfl)
      · have hw := hw.2 c17
        refine lv_iconst (v := 1) hx hb d_Opn_endChunk_214 (by decide) ?_
        refine lv_goto (tgt := 219) hx hb d_Opn_endChunk_215 (by decide) ?_
        exact t_Opn_endChunk_219 hx hb hml hown hT hK hN hA hRc hRs hRf hRl hNN hE hret  o l1 l2 l3 l4 l5 l6 1 (stC o 2) x15 H locs ls fo (st_ty hNN fo.1 fo.2 rfl) hw hW hS (lv_sub hl [0, 1, 2, 3, 4, 5, 6] rfl)
set_option maxRecDepth 100000 in
set_option maxHeartbeats 4000000 in
set_option maxRecDepth 100000 in
theorem t_Opn_endChunk_118 {p : Program} {l : Launch} {e : Env} {R : Room} {s : State} {m : MethodId} {args : Array Value} {below : List Frame} {meth : Method} {c : Code} {cells slots : Nat} {Q : State → Prop} {dC : Nat → ClassId} {dI : Nat → Nat → Nat} {cI cB cJ cZ : ClassId} {A : Nat → Prop} {ad : Nat → Nat} {NN : Nat} {E : Heap} {tM tC : Nat} {kK kV : Nat → Nat} {post : St → Prop} (hx : p.tables.exec = Jvm.exec) (hb : c.code = b_Opn_endChunk) (hml : c.maxLocals = 8) (hown : s.vm.findClass R_Opn = some m.cls) (hT : ∀ w ∈ TG, w.before args s = true) (hK : va_K (dC, dI) CL (TY cI cB cJ cZ) s) (hN : NW s) (hA : ∀ q : Nat, s.heap.size ≤ q → A q) (hRc : cells ≤ R.cells) (hRs : slots ≤ R.slots) (hRf : 3 ≤ R.frames) (hRl : 137 ≤ R.locals) (hNN : 152 ≤ NN) (hE : CE E tM tC kK kV A s) (hret : ∀ (x : St) (H : Heap) (locs : List Loc) (pc : Nat) (ls : Array Slot), decode b_Opn_endChunk pc = .ok (.return_, 1) → post x → Wd dC dI cI cB cJ cZ ad stC kcC NN A x H → va_S A s.heap H locs → W p l e R s m args below meth c H locs cells slots Q (F0 m pc ls []))  : ∀ (o : Nat) (l1 : Int32) (l2 : Int32) (l3 : Int32) (l4 : Int32) (l5 : Int32) (l6 : Int32) (s0 : Int32) (s1 : Nat) (x : St) (H : Heap) (locs : List Loc) (ls : Array Slot), (o < NN ∧ kcC o = 7) → (s1 < NN ∧ kcC s1 = 8) → j_Opn_endChunk_118 post o l1 l2 l3 l4 l5 l6 s0 s1 x → Wd dC dI cI cB cJ cZ ad stC kcC NN A x H → va_S A s.heap H locs → lv_has ls 8 [(0, .ref (ad o)), (1, .int l1), (2, .int l2), (3, .int l3), (4, .int l4), (5, .int l5), (6, .int l6)] → W p l e R s m args below meth c H locs cells slots Q (F0 m 118 ls [.int s0, .ref (ad s1)]) := by
  intro o l1 l2 l3 l4 l5 l6 s0 s1 x H locs ls fo fs1 hw hW hS hl
  unfold j_Opn_endChunk_118 at hw
  refine lv_bipush (v := 16) hx hb d_Opn_endChunk_118 (by decide) ?_
  have hF := hW.free hS hA
  refine va_callv (va_runV (C := R_Src) (As := [.int s0, .int 16]) (rest := []) ⟨hx, hb, hml, hown, hT⟩ (k_Src_check l dC dI cI cB cJ cZ ad NN E tM tC kK kV hNN H.size s1 s0 16 x fs1 hw) ⟨callB_of 2 hT (gwt_in w_6_116) rfl rfl rfl (hT _ w_1_11) (hT _ w_6_113) (by decide +kernel) ⟨Nat.le_trans (Nat.le_of_ble_eq_true rfl) hRf, Nat.le_trans (Nat.le_of_ble_eq_true rfl) hRl⟩, hT _ w_6_114, hT _ w_6_115⟩ ⟨PVc.blind, va_recv hK hW.1 (ci := 8) (q0 := s1) rfl (pic_obj fs1.1 fs1.2 (by decide)), PVc.at _ hW hK hN hE hS hF⟩ rfl rfl hl.1 rfl (lv_room (Nat.le_of_ble_eq_true rfl)) d_Opn_endChunk_120 ⟨hRc, hRs⟩) hS (fun q _ h => hF q h) hF (fun  x18 t H locs ht hvm hw hB hz1 hk1 hS => ?_)
  have hW := Wd.back hB ht hF
  clear hB ht hF hz1 hk1 hvm
  refine lv_aload_n hx hb d_Opn_endChunk_123 rfl (lv_at hl 0 rfl) ?_
  refine w_getf (q := (stC o 2)) (k := 2) (t := 7) (C := R_Opn) (T := F_Opn) (N := 17) hx hb hT hown hK hW fo.1 fo.2 (by decide) in_Opn rfl rfl (by decide) rfl fr_Opn_2 w_3_17 d_Opn_endChunk_124 rfl ?_
  refine lv_aload_n hx hb d_Opn_endChunk_127 rfl (lv_at hl 0 rfl) ?_
  refine w_getf (q := (stC o 0)) (k := 0) (t := 7) (C := R_Opn) (T := F_Opn) (N := 17) hx hb hT hown hK hW fo.1 fo.2 (by decide) in_Opn rfl rfl (by decide) rfl fr_Opn_0 w_3_15 d_Opn_endChunk_128 rfl ?_
  refine w_getf (q := (stC (stC o 0) 15)) (k := 15) (t := 6) (C := R_Vlt) (T := F_Vlt) (N := 20) hx hb hT hown hK hW (st_ty hNN fo.1 fo.2 rfl).1 (st_ty hNN fo.1 fo.2 rfl).2 (by decide) in_Vlt rfl rfl (by decide) rfl fr_Vlt_15 w_2_169 d_Opn_endChunk_131 rfl ?_
  refine lv_iload_n hx hb d_Opn_endChunk_134 rfl (lv_at hl 3 rfl) ?_
  obtain ⟨hi, hw⟩ := hw
  refine w_iald (o := (stC (stC o 0) 15)) hx hb hK hW (st_ty hNN (st_ty hNN fo.1 fo.2 rfl).1 (st_ty hNN fo.1 fo.2 rfl).2 rfl).1 (st_ty hNN (st_ty hNN fo.1 fo.2 rfl).1 (st_ty hNN fo.1 fo.2 rfl).2 rfl).2 hi d_Opn_endChunk_135 ?_
  refine lv_i2l hx hb d_Opn_endChunk_136 rfl ?_
  refine lv_aload_n hx hb d_Opn_endChunk_137 rfl (lv_at hl 0 rfl) ?_
  refine w_getf (q := (stC o 6)) (k := 6) (t := 7) (C := R_Opn) (T := F_Opn) (N := 17) hx hb hT hown hK hW fo.1 fo.2 (by decide) in_Opn rfl rfl (by decide) rfl fr_Opn_6 w_3_22 d_Opn_endChunk_138 rfl ?_
  refine lv_iconst (v := 3) hx hb d_Opn_endChunk_141 (by decide) ?_
  obtain ⟨hi, hw⟩ := hw
  refine w_lald (o := (stC o 6)) hx hb hK hW (st_ty hNN fo.1 fo.2 rfl).1 (st_ty hNN fo.1 fo.2 rfl).2 hi d_Opn_endChunk_142 ?_
  refine W.lcmp hx hb d_Opn_endChunk_143 ?_
  refine lv_if_ne (tgt := 151) hx hb d_Opn_endChunk_144 (by decide) (fun c19 => ?_) (fun c19 => ?_)
  · have hw := hw.1 c19
    refine lv_iconst (v := 0) hx hb d_Opn_endChunk_151 (by decide) ?_
    exact t_Opn_endChunk_152 hx hb hml hown hT hK hN hA hRc hRs hRf hRl hNN hE hret  o l1 l2 l3 l4 l5 l6 0 (stC o 2) x18 H locs ls fo (st_ty hNN fo.1 fo.2 rfl) hw hW hS (lv_sub hl [0, 1, 2, 3, 4, 5, 6] rfl)
  · have hw := hw.2 c19
    refine lv_iconst (v := 1) hx hb d_Opn_endChunk_147 (by decide) ?_
    refine lv_goto (tgt := 152) hx hb d_Opn_endChunk_148 (by decide) ?_
    exact t_Opn_endChunk_152 hx hb hml hown hT hK hN hA hRc hRs hRf hRl hNN hE hret  o l1 l2 l3 l4 l5 l6 1 (stC o 2) x18 H locs ls fo (st_ty hNN fo.1 fo.2 rfl) hw hW hS (lv_sub hl [0, 1, 2, 3, 4, 5, 6] rfl)
set_option maxRecDepth 100000 in
set_option maxHeartbeats 4000000 in
set_option maxRecDepth 100000 in
theorem t_Opn_endChunk_117 {p : Program} {l : Launch} {e : Env} {R : Room} {s : State} {m : MethodId} {args : Array Value} {below : List Frame} {meth : Method} {c : Code} {cells slots : Nat} {Q : State → Prop} {dC : Nat → ClassId} {dI : Nat → Nat → Nat} {cI cB cJ cZ : ClassId} {A : Nat → Prop} {ad : Nat → Nat} {NN : Nat} {E : Heap} {tM tC : Nat} {kK kV : Nat → Nat} {post : St → Prop} (hx : p.tables.exec = Jvm.exec) (hb : c.code = b_Opn_endChunk) (hml : c.maxLocals = 8) (hown : s.vm.findClass R_Opn = some m.cls) (hT : ∀ w ∈ TG, w.before args s = true) (hK : va_K (dC, dI) CL (TY cI cB cJ cZ) s) (hN : NW s) (hA : ∀ q : Nat, s.heap.size ≤ q → A q) (hRc : cells ≤ R.cells) (hRs : slots ≤ R.slots) (hRf : 3 ≤ R.frames) (hRl : 137 ≤ R.locals) (hNN : 152 ≤ NN) (hE : CE E tM tC kK kV A s) (hret : ∀ (x : St) (H : Heap) (locs : List Loc) (pc : Nat) (ls : Array Slot), decode b_Opn_endChunk pc = .ok (.return_, 1) → post x → Wd dC dI cI cB cJ cZ ad stC kcC NN A x H → va_S A s.heap H locs → W p l e R s m args below meth c H locs cells slots Q (F0 m pc ls []))  : ∀ (o : Nat) (l1 : Int32) (l2 : Int32) (l3 : Int32) (l4 : Int32) (l5 : Int32) (l6 : Int32) (s0 : Nat) (x : St) (H : Heap) (locs : List Loc) (ls : Array Slot), (o < NN ∧ kcC o = 7) → (s0 < NN ∧ kcC s0 = 8) → j_Opn_endChunk_117 post o l1 l2 l3 l4 l5 l6 s0 x → Wd dC dI cI cB cJ cZ ad stC kcC NN A x H → va_S A s.heap H locs → lv_has ls 8 [(0, .ref (ad o)), (1, .int l1), (2, .int l2), (3, .int l3), (4, .int l4), (5, .int l5), (6, .int l6)] → W p l e R s m args below meth c H locs cells slots Q (F0 m 117 ls [.ref (ad s0)]) := by
  intro o l1 l2 l3 l4 l5 l6 s0 x H locs ls fo fs0 hw hW hS hl
  unfold j_Opn_endChunk_117 at hw
  refine lv_iconst (v := 0) hx hb d_Opn_endChunk_117 (by decide) ?_
  exact t_Opn_endChunk_118 hx hb hml hown hT hK hN hA hRc hRs hRf hRl hNN hE hret  o l1 l2 l3 l4 l5 l6 0 s0 x H locs ls fo fs0 hw hW hS (lv_sub hl [0, 1, 2, 3, 4, 5, 6] rfl)
set_option maxRecDepth 100000 in
set_option maxHeartbeats 4000000 in
set_option maxRecDepth 100000 in
theorem t_Opn_endChunk_82 {p : Program} {l : Launch} {e : Env} {R : Room} {s : State} {m : MethodId} {args : Array Value} {below : List Frame} {meth : Method} {c : Code} {cells slots : Nat} {Q : State → Prop} {dC : Nat → ClassId} {dI : Nat → Nat → Nat} {cI cB cJ cZ : ClassId} {A : Nat → Prop} {ad : Nat → Nat} {NN : Nat} {E : Heap} {tM tC : Nat} {kK kV : Nat → Nat} {post : St → Prop} (hx : p.tables.exec = Jvm.exec) (hb : c.code = b_Opn_endChunk) (hml : c.maxLocals = 8) (hown : s.vm.findClass R_Opn = some m.cls) (hT : ∀ w ∈ TG, w.before args s = true) (hK : va_K (dC, dI) CL (TY cI cB cJ cZ) s) (hN : NW s) (hA : ∀ q : Nat, s.heap.size ≤ q → A q) (hRc : cells ≤ R.cells) (hRs : slots ≤ R.slots) (hRf : 3 ≤ R.frames) (hRl : 137 ≤ R.locals) (hNN : 152 ≤ NN) (hE : CE E tM tC kK kV A s) (hret : ∀ (x : St) (H : Heap) (locs : List Loc) (pc : Nat) (ls : Array Slot), decode b_Opn_endChunk pc = .ok (.return_, 1) → post x → Wd dC dI cI cB cJ cZ ad stC kcC NN A x H → va_S A s.heap H locs → W p l e R s m args below meth c H locs cells slots Q (F0 m pc ls []))  : ∀ (o : Nat) (l1 : Int32) (l2 : Int32) (l3 : Int32) (l4 : Int32) (l5 : Int32) (l6 : Int32) (s0 : Int32) (s1 : Nat) (x : St) (H : Heap) (locs : List Loc) (ls : Array Slot), (o < NN ∧ kcC o = 7) → (s1 < NN ∧ kcC s1 = 8) → j_Opn_endChunk_82 post o l1 l2 l3 l4 l5 l6 s0 s1 x → Wd dC dI cI cB cJ cZ ad stC kcC NN A x H → va_S A s.heap H locs → lv_has ls 8 [(0, .ref (ad o)), (1, .int l1), (2, .int l2), (3, .int l3), (4, .int l4), (5, .int l5), (6, .int l6)] → W p l e R s m args below meth c H locs cells slots Q (F0 m 82 ls [.int s0, .ref (ad s1)]) := by
  intro o l1 l2 l3 l4 l5 l6 s0 s1 x H locs ls fo fs1 hw hW hS hl
  unfold j_Opn_endChunk_82 at hw
  refine lv_bipush (v := 6) hx hb d_Opn_endChunk_82 (by decide) ?_
  have hF := hW.free hS hA
  refine va_callv (va_runV (C := R_Src) (As := [.int s0, .int 6]) (rest := []) ⟨hx, hb, hml, hown, hT⟩ (k_Src_check l dC dI cI cB cJ cZ ad NN E tM tC kK kV hNN H.size s1 s0 6 x fs1 hw) ⟨callB_of 2 hT (gwt_in w_6_116) rfl rfl rfl (hT _ w_1_11) (hT _ w_6_113) (by decide +kernel) ⟨Nat.le_trans (Nat.le_of_ble_eq_true rfl) hRf, Nat.le_trans (Nat.le_of_ble_eq_true rfl) hRl⟩, hT _ w_6_114, hT _ w_6_115⟩ ⟨PVc.blind, va_recv hK hW.1 (ci := 8) (q0 := s1) rfl (pic_obj fs1.1 fs1.2 (by decide)), PVc.at _ hW hK hN hE hS hF⟩ rfl rfl hl.1 rfl (lv_room (Nat.le_of_ble_eq_true rfl)) d_Opn_endChunk_84 ⟨hRc, hRs⟩) hS (fun q _ h => hF q h) hF (fun  x20 t H locs ht hvm hw hB hz1 hk1 hS => ?_)
  have hW := Wd.back hB ht hF
  clear hB ht hF hz1 hk1 hvm
  refine lv_aload_n hx hb d_Opn_endChunk_87 rfl (lv_at hl 0 rfl) ?_
  refine w_getf (q := (stC o 2)) (k := 2) (t := 7) (C := R_Opn) (T := F_Opn) (N := 17) hx hb hT hown hK hW fo.1 fo.2 (by decide) in_Opn rfl rfl (by decide) rfl fr_Opn_2 w_3_17 d_Opn_endChunk_88 rfl ?_
  refine lv_iload hx hb d_Opn_endChunk_91 (lv_at hl 5 rfl) ?_
  refine lv_i2l hx hb d_Opn_endChunk_93 rfl ?_
  refine lv_aload_n hx hb d_Opn_endChunk_94 rfl (lv_at hl 0 rfl) ?_
  refine w_getf (q := (stC o 6)) (k := 6) (t := 7) (C := R_Opn) (T := F_Opn) (N := 17) hx hb hT hown hK hW fo.1 fo.2 (by decide) in_Opn rfl rfl (by decide) rfl fr_Opn_6 w_3_22 d_Opn_endChunk_95 rfl ?_
  refine lv_iconst (v := 2) hx hb d_Opn_endChunk_98 (by decide) ?_
  obtain ⟨hi, hw⟩ := hw
  refine w_lald (o := (stC o 6)) hx hb hK hW (st_ty hNN fo.1 fo.2 rfl).1 (st_ty hNN fo.1 fo.2 rfl).2 hi d_Opn_endChunk_99 ?_
  refine W.lcmp hx hb d_Opn_endChunk_100 ?_
  refine lv_if_ne (tgt := 117) hx hb d_Opn_endChunk_101 (by decide) (fun c21 => ?_) (fun c21 => ?_)
  · have hw := hw.1 c21
    exact t_Opn_endChunk_117 hx hb hml hown hT hK hN hA hRc hRs hRf hRl hNN hE hret  o l1 l2 l3 l4 l5 l6 (stC o 2) x20 H locs ls fo (st_ty hNN fo.1 fo.2 rfl) hw hW hS (lv_sub hl [0, 1, 2, 3, 4, 5, 6] rfl)
  · have hw := hw.2 c21
    refine lv_aload_n hx hb d_Opn_endChunk_104 rfl (lv_at hl 0 rfl) ?_
    refine w_geti (k := 12) (t := 7) (C := R_Opn) (T := F_Opn) (N := 17) hx hb hT hown hK hW fo.1 fo.2 (by decide) in_Opn rfl rfl (by decide) rfl fr_Opn_12 w_3_28 d_Opn_endChunk_105 ?_
    refine lv_iload hx hb d_Opn_endChunk_108 (lv_at hl 6 rfl) ?_
    refine lv_icmp_ne (tgt := 117) hx hb d_Opn_endChunk_110 (by decide) (fun c22 => ?_) (fun c22 => ?_)
    · have hw := hw.1 c22
      exact t_Opn_endChunk_117 hx hb hml hown hT hK hN hA hRc hRs hRf hRl hNN hE hret  o l1 l2 l3 l4 l5 l6 (stC o 2) x20 H locs ls fo (st_ty hNN fo.1 fo.2 rfl) hw hW hS (lv_sub hl [0, 1, 2, 3, 4, 5, 6] rfl)
    · have hw := hw.2 c22
      refine lv_iconst (v := 1) hx hb d_Opn_endChunk_113 (by decide) ?_
      refine lv_goto (tgt := 118) hx hb d_Opn_endChunk_114 (by decide) ?_
      exact t_Opn_endChunk_118 hx hb hml hown hT hK hN hA hRc hRs hRf hRl hNN hE hret  o l1 l2 l3 l4 l5 l6 1 (stC o 2) x20 H locs ls fo (st_ty hNN fo.1 fo.2 rfl) hw hW hS (lv_sub hl [0, 1, 2, 3, 4, 5, 6] rfl)
set_option maxRecDepth 100000 in
set_option maxHeartbeats 4000000 in
set_option maxRecDepth 100000 in
theorem t_Opn_endChunk_e {p : Program} {l : Launch} {e : Env} {R : Room} {s : State} {m : MethodId} {args : Array Value} {below : List Frame} {meth : Method} {c : Code} {cells slots : Nat} {Q : State → Prop} {dC : Nat → ClassId} {dI : Nat → Nat → Nat} {cI cB cJ cZ : ClassId} {A : Nat → Prop} {ad : Nat → Nat} {NN : Nat} {E : Heap} {tM tC : Nat} {kK kV : Nat → Nat} {post : St → Prop} (hx : p.tables.exec = Jvm.exec) (hb : c.code = b_Opn_endChunk) (hml : c.maxLocals = 8) (hown : s.vm.findClass R_Opn = some m.cls) (hT : ∀ w ∈ TG, w.before args s = true) (hK : va_K (dC, dI) CL (TY cI cB cJ cZ) s) (hN : NW s) (hA : ∀ q : Nat, s.heap.size ≤ q → A q) (hRc : cells ≤ R.cells) (hRs : slots ≤ R.slots) (hRf : 3 ≤ R.frames) (hRl : 137 ≤ R.locals) (hNN : 152 ≤ NN) (hE : CE E tM tC kK kV A s) (hret : ∀ (x : St) (H : Heap) (locs : List Loc) (pc : Nat) (ls : Array Slot), decode b_Opn_endChunk pc = .ok (.return_, 1) → post x → Wd dC dI cI cB cJ cZ ad stC kcC NN A x H → va_S A s.heap H locs → W p l e R s m args below meth c H locs cells slots Q (F0 m pc ls [])) : ∀ (o : Nat) (l1 : Int32) (l2 : Int32) (l3 : Int32) (x : St) (H : Heap) (locs : List Loc) (ls : Array Slot), (o < NN ∧ kcC o = 7) → wp_Opn_endChunk post o l1 l2 l3 x → Wd dC dI cI cB cJ cZ ad stC kcC NN A x H → va_S A s.heap H locs → lv_has ls 8 [(0, .ref (ad o)), (1, .int l1), (2, .int l2), (3, .int l3)] → W p l e R s m args below meth c H locs cells slots Q (F0 m 0 ls []) := by
  intro o l1 l2 l3 x H locs ls fo hw hW hS hl
  unfold wp_Opn_endChunk at hw
  refine lv_aload_n hx hb d_Opn_endChunk_0 rfl (lv_at hl 0 rfl) ?_
  refine w_getf (q := (stC o 0)) (k := 0) (t := 7) (C := R_Opn) (T := F_Opn) (N := 17) hx hb hT hown hK hW fo.1 fo.2 (by decide) in_Opn rfl rfl (by decide) rfl fr_Opn_0 w_3_15 d_Opn_endChunk_1 rfl ?_
  refine w_getf (q := (stC (stC o 0) 5)) (k := 5) (t := 6) (C := R_Vlt) (T := F_Vlt) (N := 20) hx hb hT hown hK hW (st_ty hNN fo.1 fo.2 rfl).1 (st_ty hNN fo.1 fo.2 rfl).2 (by decide) in_Vlt rfl rfl (by decide) rfl fr_Vlt_5 w_2_136 d_Opn_endChunk_4 rfl ?_
  refine w_getf (q := (stC (stC (stC o 0) 5) 3)) (k := 3) (t := 3) (C := R_Sch) (T := F_Sch) (N := 13) hx hb hT hown hK hW (st_ty hNN (st_ty hNN fo.1 fo.2 rfl).1 (st_ty hNN fo.1 fo.2 rfl).2 rfl).1 (st_ty hNN (st_ty hNN fo.1 fo.2 rfl).1 (st_ty hNN fo.1 fo.2 rfl).2 rfl).2 (by decide) in_Sch rfl rfl (by decide) rfl fr_Sch_3 w_1_147 d_Opn_endChunk_7 rfl ?_
  refine lv_aload_n hx hb d_Opn_endChunk_10 rfl (lv_at hl 0 rfl) ?_
  refine w_getf (q := (stC o 0)) (k := 0) (t := 7) (C := R_Opn) (T := F_Opn) (N := 17) hx hb hT hown hK hW fo.1 fo.2 (by decide) in_Opn rfl rfl (by decide) rfl fr_Opn_0 w_3_15 d_Opn_endChunk_11 rfl ?_
  refine w_getf (q := (stC (stC o 0) 5)) (k := 5) (t := 6) (C := R_Vlt) (T := F_Vlt) (N := 20) hx hb hT hown hK hW (st_ty hNN fo.1 fo.2 rfl).1 (st_ty hNN fo.1 fo.2 rfl).2 (by decide) in_Vlt rfl rfl (by decide) rfl fr_Vlt_5 w_2_136 d_Opn_endChunk_14 rfl ?_
  refine w_getf (q := (stC (stC (stC o 0) 5) 10)) (k := 10) (t := 3) (C := R_Sch) (T := F_Sch) (N := 13) hx hb hT hown hK hW (st_ty hNN (st_ty hNN fo.1 fo.2 rfl).1 (st_ty hNN fo.1 fo.2 rfl).2 rfl).1 (st_ty hNN (st_ty hNN fo.1 fo.2 rfl).1 (st_ty hNN fo.1 fo.2 rfl).2 rfl).2 (by decide) in_Sch rfl rfl (by decide) rfl fr_Sch_10 w_1_181 d_Opn_endChunk_17 rfl ?_
  refine lv_iload_n hx hb d_Opn_endChunk_20 rfl (lv_at hl 2 rfl) ?_
  obtain ⟨hi, hw⟩ := hw
  refine w_iald (o := (stC (stC (stC o 0) 5) 10)) hx hb hK hW (st_ty hNN (st_ty hNN (st_ty hNN fo.1 fo.2 rfl).1 (st_ty hNN fo.1 fo.2 rfl).2 rfl).1 (st_ty hNN (st_ty hNN fo.1 fo.2 rfl).1 (st_ty hNN fo.1 fo.2 rfl).2 rfl).2 rfl).1 (st_ty hNN (st_ty hNN (st_ty hNN fo.1 fo.2 rfl).1 (st_ty hNN fo.1 fo.2 rfl).2 rfl).1 (st_ty hNN (st_ty hNN fo.1 fo.2 rfl).1 (st_ty hNN fo.1 fo.2 rfl).2 rfl).2 rfl).2 hi d_Opn_endChunk_21 ?_
  obtain ⟨hi, hw⟩ := hw
  refine w_iald (o := (stC (stC (stC o 0) 5) 3)) hx hb hK hW (st_ty hNN (st_ty hNN (st_ty hNN fo.1 fo.2 rfl).1 (st_ty hNN fo.1 fo.2 rfl).2 rfl).1 (st_ty hNN (st_ty hNN fo.1 fo.2 rfl).1 (st_ty hNN fo.1 fo.2 rfl).2 rfl).2 rfl).1 (st_ty hNN (st_ty hNN (st_ty hNN fo.1 fo.2 rfl).1 (st_ty hNN fo.1 fo.2 rfl).2 rfl).1 (st_ty hNN (st_ty hNN fo.1 fo.2 rfl).1 (st_ty hNN fo.1 fo.2 rfl).2 rfl).2 rfl).2 hi d_Opn_endChunk_22 ?_
  refine lv_topi (fun v23 ev23 => ?_)
  have hw := hw v23 ev23
  refine lv_istore (lv' := [(4, .int v23), (0, .ref (ad o)), (1, .int l1), (2, .int l2), (3, .int l3)]) hx hb d_Opn_endChunk_23 hl (by decide) rfl (fun ls hl => ?_)
  refine lv_aload_n hx hb d_Opn_endChunk_25 rfl (lv_at hl 1 rfl) ?_
  refine w_getf (q := (stC o 0)) (k := 0) (t := 7) (C := R_Opn) (T := F_Opn) (N := 17) hx hb hT hown hK hW fo.1 fo.2 (by decide) in_Opn rfl rfl (by decide) rfl fr_Opn_0 w_3_15 d_Opn_endChunk_26 rfl ?_
  refine w_getf (q := (stC (stC o 0) 14)) (k := 14) (t := 6) (C := R_Vlt) (T := F_Vlt) (N := 20) hx hb hT hown hK hW (st_ty hNN fo.1 fo.2 rfl).1 (st_ty hNN fo.1 fo.2 rfl).2 (by decide) in_Vlt rfl rfl (by decide) rfl fr_Vlt_14 w_2_166 d_Opn_endChunk_29 rfl ?_
  refine lv_iload_n hx hb d_Opn_endChunk_32 rfl (lv_at hl 4 rfl) ?_
  obtain ⟨hi, hw⟩ := hw
  refine w_iald (o := (stC (stC o 0) 14)) hx hb hK hW (st_ty hNN (st_ty hNN fo.1 fo.2 rfl).1 (st_ty hNN fo.1 fo.2 rfl).2 rfl).1 (st_ty hNN (st_ty hNN fo.1 fo.2 rfl).1 (st_ty hNN fo.1 fo.2 rfl).2 rfl).2 hi d_Opn_endChunk_33 ?_
  refine lv_topi (fun v24 ev24 => ?_)
  have hw := hw v24 ev24
  refine lv_istore (lv' := [(5, .int v24), (4, .int v23), (0, .ref (ad o)), (1, .int l1), (2, .int l2), (3, .int l3)]) hx hb d_Opn_endChunk_34 hl (by decide) rfl (fun ls hl => ?_)
  refine lv_aload_n hx hb d_Opn_endChunk_36 rfl (lv_at hl 2 rfl) ?_
  refine w_getf (q := (stC o 0)) (k := 0) (t := 7) (C := R_Opn) (T := F_Opn) (N := 17) hx hb hT hown hK hW fo.1 fo.2 (by decide) in_Opn rfl rfl (by decide) rfl fr_Opn_0 w_3_15 d_Opn_endChunk_37 rfl ?_
  refine w_getf (q := (stC (stC o 0) 11)) (k := 11) (t := 6) (C := R_Vlt) (T := F_Vlt) (N := 20) hx hb hT hown hK hW (st_ty hNN fo.1 fo.2 rfl).1 (st_ty hNN fo.1 fo.2 rfl).2 (by decide) in_Vlt rfl rfl (by decide) rfl fr_Vlt_11 w_2_157 d_Opn_endChunk_40 rfl ?_
  refine lv_iload_n hx hb d_Opn_endChunk_43 rfl (lv_at hl 3 rfl) ?_
  refine lv_iconst (v := 1) hx hb d_Opn_endChunk_44 (by decide) ?_
  refine lv_iadd hx hb d_Opn_endChunk_45 ?_
  obtain ⟨hi, hw⟩ := hw
  refine w_iald (o := (stC (stC o 0) 11)) hx hb hK hW (st_ty hNN (st_ty hNN fo.1 fo.2 rfl).1 (st_ty hNN fo.1 fo.2 rfl).2 rfl).1 (st_ty hNN (st_ty hNN fo.1 fo.2 rfl).1 (st_ty hNN fo.1 fo.2 rfl).2 rfl).2 hi d_Opn_endChunk_46 ?_
  refine lv_aload_n hx hb d_Opn_endChunk_47 rfl (lv_at hl 2 rfl) ?_
  refine w_getf (q := (stC o 0)) (k := 0) (t := 7) (C := R_Opn) (T := F_Opn) (N := 17) hx hb hT hown hK hW fo.1 fo.2 (by decide) in_Opn rfl rfl (by decide) rfl fr_Opn_0 w_3_15 d_Opn_endChunk_48 rfl ?_
  refine w_getf (q := (stC (stC o 0) 11)) (k := 11) (t := 6) (C := R_Vlt) (T := F_Vlt) (N := 20) hx hb hT hown hK hW (st_ty hNN fo.1 fo.2 rfl).1 (st_ty hNN fo.1 fo.2 rfl).2 (by decide) in_Vlt rfl rfl (by decide) rfl fr_Vlt_11 w_2_157 d_Opn_endChunk_51 rfl ?_
  refine lv_iload_n hx hb d_Opn_endChunk_54 rfl (lv_at hl 3 rfl) ?_
  obtain ⟨hi, hw⟩ := hw
  refine w_iald (o := (stC (stC o 0) 11)) hx hb hK hW (st_ty hNN (st_ty hNN fo.1 fo.2 rfl).1 (st_ty hNN fo.1 fo.2 rfl).2 rfl).1 (st_ty hNN (st_ty hNN fo.1 fo.2 rfl).1 (st_ty hNN fo.1 fo.2 rfl).2 rfl).2 hi d_Opn_endChunk_55 ?_
  refine lv_isub hx hb d_Opn_endChunk_56 ?_
  refine lv_topi (fun v25 ev25 => ?_)
  have hw := hw v25 ev25
  refine lv_istore (lv' := [(6, .int v25), (5, .int v24), (4, .int v23), (0, .ref (ad o)), (1, .int l1), (2, .int l2), (3, .int l3)]) hx hb d_Opn_endChunk_57 hl (by decide) rfl (fun ls hl => ?_)
  refine lv_aload_n hx hb d_Opn_endChunk_59 rfl (lv_at hl 3 rfl) ?_
  refine w_getf (q := (stC o 2)) (k := 2) (t := 7) (C := R_Opn) (T := F_Opn) (N := 17) hx hb hT hown hK hW fo.1 fo.2 (by decide) in_Opn rfl rfl (by decide) rfl fr_Opn_2 w_3_17 d_Opn_endChunk_60 rfl ?_
  refine lv_aload_n hx hb d_Opn_endChunk_63 rfl (lv_at hl 3 rfl) ?_
  refine w_getf (q := (stC o 2)) (k := 2) (t := 7) (C := R_Opn) (T := F_Opn) (N := 17) hx hb hT hown hK hW fo.1 fo.2 (by decide) in_Opn rfl rfl (by decide) rfl fr_Opn_2 w_3_17 d_Opn_endChunk_64 rfl ?_
  refine w_geti (k := 1) (t := 8) (C := R_Src) (T := F_Src) (N := 5) hx hb hT hown hK hW (st_ty hNN fo.1 fo.2 rfl).1 (st_ty hNN fo.1 fo.2 rfl).2 (by decide) in_Src rfl rfl (by decide) rfl fr_Src_1 w_2_238 d_Opn_endChunk_67 ?_
  refine lv_aload_n hx hb d_Opn_endChunk_70 rfl (lv_at hl 3 rfl) ?_
  refine w_geti (k := 11) (t := 7) (C := R_Opn) (T := F_Opn) (N := 17) hx hb hT hown hK hW fo.1 fo.2 (by decide) in_Opn rfl rfl (by decide) rfl fr_Opn_11 w_3_27 d_Opn_endChunk_71 ?_
  refine lv_icmp_ne (tgt := 81) hx hb d_Opn_endChunk_74 (by decide) (fun c26 => ?_) (fun c26 => ?_)
  · have hw := hw.1 c26
    refine lv_iconst (v := 0) hx hb d_Opn_endChunk_81 (by decide) ?_
    exact t_Opn_endChunk_82 hx hb hml hown hT hK hN hA hRc hRs hRf hRl hNN hE hret  o l1 l2 l3 v23 v24 v25 0 (stC o 2) x H locs ls fo (st_ty hNN fo.1 fo.2 rfl) hw hW hS (lv_sub hl [3, 4, 5, 6, 2, 1, 0] rfl)
  · have hw := hw.2 c26
    refine lv_iconst (v := 1) hx hb d_Opn_endChunk_77 (by decide) ?_
    refine lv_goto (tgt := 82) hx hb d_Opn_endChunk_78 (by decide) ?_
    exact t_Opn_endChunk_82 hx hb hml hown hT hK hN hA hRc hRs hRf hRl hNN hE hret  o l1 l2 l3 v23 v24 v25 1 (stC o 2) x H locs ls fo (st_ty hNN fo.1 fo.2 rfl) hw hW hS (lv_sub hl [3, 4, 5, 6, 2, 1, 0] rfl)
set_option maxHeartbeats 4000000 in
set_option maxRecDepth 100000 in
theorem k_Opn_endChunk (l : Launch) (dC : Nat → ClassId) (dI : Nat → Nat → Nat) (cI cB cJ cZ : ClassId) (ad : Nat → Nat) (NN : Nat) (E : Heap) (tM tC : Nat) (kK kV : Nat → Nat) (hNN : 152 ≤ NN) (sz : Nat) (o : Nat) (l1 : Int32) (l2 : Int32) (l3 : Int32) (x : St) (fo : o < NN ∧ kcC o = 7) {post : St → Prop} (hw : wp_Opn_endChunk post o l1 l2 l3 x) : Met l y_Opn_endChunk (wsOf y_Opn_endChunk b_Opn_endChunk 8 (none)) ({ frames := 3, cells := 0, slots := 0, locals := 137 }) (va_Pc [.ref (ad o), .int l1, .int l2, .int l3] (PVc dC dI cI cB cJ cZ ad stC kcC NN E tM tC kK kV sz x)) (va_Qv (fun (y : St) => post y) (fun y t => Wd dC dI cI cB cJ cZ ad stC kcC NN (va_A (pic ad stC kcC NN cI cB cJ cZ x) sz) y t.heap) (va_A (pic ad stC kcC NN cI cB cJ cZ x) sz)) 0 0 (va_A (pic ad stC kcC NN cI cB cJ cZ x) sz) := by
  refine Met.ofW (cc := b_Opn_endChunk) (maxL := 8) (ret := none) (by decide) rfl ?_
  intro p e s m args below meth c s₁ B hml hv
  obtain ⟨rfl, ⟨hsz, hW0, hK, hN⟩, hE⟩ := hv
  have hx := B.exec
  have hb := B.bytes
  have hr := B.returns
  have hts := atoms_spec B.pre
  have hT : ∀ w ∈ TG, w.before _ s = true := fun w h => hts w (List.mem_cons_of_mem _ h)
  have hown : s.vm.findClass R_Opn = some m.cls := findClass_of_methodNamed B.named
  have hlocks := B.notSynchronized
  subst hsz
  have hW : Wd dC dI cI cB cJ cZ ad stC kcC NN (va_A (pic ad stC kcC NN cI cB cJ cZ x) s.heap.size) x s.heap := ⟨hW0.1, hW0.2.1.self (sz := s.heap.size), hW0.2.2⟩
  generalize hAe : va_A (pic ad stC kcC NN cI cB cJ cZ x) s.heap.size = A at hW hE ⊢
  have hA : ∀ q : Nat, s.heap.size ≤ q → A q := fun q h => by rw [← hAe]; exact Or.inr h
  have hS : va_S A s.heap s.heap [] := va_S.rf
  have hl := lv_entry ([.ref (ad o), .int l1, .int l2, .int l3]) (n := 8) (Nat.le_of_ble_eq_true rfl)
  rw [lg_entry_eq]
  generalize (lg_sl ([.ref (ad o), .int l1, .int l2, .int l3]) ++ List.replicate (8 - (lg_sl ([.ref (ad o), .int l1, .int l2, .int l3])).length) Slot.unset).toArray = ls at hl ⊢
  have hl : lv_has ls 8 [(0, .ref (ad o)), (1, .int l1), (2, .int l2), (3, .int l3)] := hl
  exact t_Opn_endChunk_e hx hb hml hown hT hK hN hA (Nat.le_refl 0) (Nat.le_refl 0) (Nat.le_refl 3) (Nat.le_refl 137) hNN hE (fun x H locs pc ls hd hp hW hS => W.vret hx hb hr (fun t ht hM => ⟨⟨x, rfl, hp, Wd.back hW ht.symm (fun _ z => z)⟩, hS.F ht⟩) hS.2.2 hd hlocks)  o l1 l2 l3 x _ _ ls fo hw hW hS hl
set_option maxRecDepth 100000 in
set_option maxHeartbeats 4000000 in
set_option maxRecDepth 100000 in
theorem t_Opn_lookAtChunks_260 {p : Program} {l : Launch} {e : Env} {R : Room} {s : State} {m : MethodId} {args : Array Value} {below : List Frame} {meth : Method} {c : Code} {cells slots : Nat} {Q : State → Prop} {dC : Nat → ClassId} {dI : Nat → Nat → Nat} {cI cB cJ cZ : ClassId} {A : Nat → Prop} {ad : Nat → Nat} {NN : Nat} {E : Heap} {tM tC : Nat} {kK kV : Nat → Nat} {post : Int32 → St → Prop} {rec60 : Nat → Int32 → St → Prop} {rec102 : Nat → Int32 → Int32 → St → Prop} (hx : p.tables.exec = Jvm.exec) (hb : c.code = b_Opn_lookAtChunks) (hml : c.maxLocals = 7) (hown : s.vm.findClass R_Opn = some m.cls) (hT : ∀ w ∈ TG, w.before args s = true) (hK : va_K (dC, dI) CL (TY cI cB cJ cZ) s) (hN : NW s) (hA : ∀ q : Nat, s.heap.size ≤ q → A q) (hRc : cells ≤ R.cells) (hRs : slots ≤ R.slots) (hRf : 7 ≤ R.frames) (hRl : 249 ≤ R.locals) (hNN : 152 ≤ NN) (hE : CE E tM tC kK kV A s) (hret : ∀ (r : Int32) (x : St) (H : Heap) (locs : List Loc) (pc : Nat) (ls : Array Slot), decode b_Opn_lookAtChunks pc = .ok (.ireturn, 1) → post r x → Wd dC dI cI cB cJ cZ ad stC kcC NN A x H → va_S A s.heap H locs → W p l e R s m args below meth c H locs cells slots Q (F0 m pc ls [.int r])) (hrec60 : ∀ (o : Nat) (l1 : Int32) (x : St) (H : Heap) (locs : List Loc) (ls : Array Slot), (o < NN ∧ kcC o = 7) → rec60 o l1 x → Wd dC dI cI cB cJ cZ ad stC kcC NN A x H → va_S A s.heap H locs → lv_has ls 7 [(0, .ref (ad o)), (1, .int l1)] → W p l e R s m args below meth c H locs cells slots Q (F0 m 60 ls [])) (hrec102 : ∀ (o : Nat) (l1 : Int32) (l2 : Int32) (x : St) (H : Heap) (locs : List Loc) (ls : Array Slot), (o < NN ∧ kcC o = 7) → rec102 o l1 l2 x → Wd dC dI cI cB cJ cZ ad stC kcC NN A x H → va_S A s.heap H locs → lv_has ls 7 [(0, .ref (ad o)), (1, .int l1), (2, .int l2)] → W p l e R s m args below meth c H locs cells slots Q (F0 m 102 ls [])) : ∀ (o : Nat) (l1 : Int32) (l2 : Int32) (l3 : Int32) (l4 : Int64) (l6 : Int32) (x : St) (H : Heap) (locs : List Loc) (ls : Array Slot), (o < NN ∧ kcC o = 7) → j_Opn_lookAtChunks_260 post rec60 rec102 o l1 l2 l3 l4 l6 x → Wd dC dI cI cB cJ cZ ad stC kcC NN A x H → va_S A s.heap H locs → lv_has ls 7 [(0, .ref (ad o)), (1, .int l1), (2, .int l2), (3, .int l3), (4, .long l4), (6, .int l6)] → W p l e R s m args below meth c H locs cells slots Q (F0 m 260 ls []) := by
  intro o l1 l2 l3 l4 l6 x H locs ls fo hw hW hS hl
  unfold j_Opn_lookAtChunks_260 at hw
  refine lv_aload_n hx hb d_Opn_lookAtChunks_260 rfl (lv_at hl 0 rfl) ?_
  refine w_getf (q := (stC o 2)) (k := 2) (t := 7) (C := R_Opn) (T := F_Opn) (N := 17) hx hb hT hown hK hW fo.1 fo.2 (by decide) in_Opn rfl rfl (by decide) rfl fr_Opn_2 w_3_17 d_Opn_lookAtChunks_261 rfl ?_
  refine w_geti (k := 3) (t := 8) (C := R_Src) (T := F_Src) (N := 5) hx hb hT hown hK hW (st_ty hNN fo.1 fo.2 rfl).1 (st_ty hNN fo.1 fo.2 rfl).2 (by decide) in_Src rfl rfl (by decide) rfl fr_Src_3 w_3_2 d_Opn_lookAtChunks_264 ?_
  refine lv_if_eq (tgt := 278) hx hb d_Opn_lookAtChunks_267 (by decide) (fun c1 => ?_) (fun c1 => ?_)
  · have hw := hw.1 c1
    refine lv_iinc (v := (l2 + 1)) (lv' := [(2, .int (l2 + 1)), (0, .ref (ad o)), (1, .int l1), (3, .int l3), (4, .long l4), (6, .int l6)]) hx hb d_Opn_lookAtChunks_278 hl (k := 2) rfl rfl (by decide) rfl (fun ls hl => ?_)
    refine lv_goto (tgt := 102) hx hb d_Opn_lookAtChunks_281 (by decide) ?_
    exact hrec102 o l1 (l2 + 1) x H locs ls fo hw hW hS (lv_sub hl [1, 2, 0] rfl)
  · have hw := hw.2 c1
    refine lv_aload_n hx hb d_Opn_lookAtChunks_270 rfl (lv_at hl 0 rfl) ?_
    refine w_getf (q := (stC o 2)) (k := 2) (t := 7) (C := R_Opn) (T := F_Opn) (N := 17) hx hb hT hown hK hW fo.1 fo.2 (by decide) in_Opn rfl rfl (by decide) rfl fr_Opn_2 w_3_17 d_Opn_lookAtChunks_271 rfl ?_
    refine w_geti (k := 3) (t := 8) (C := R_Src) (T := F_Src) (N := 5) hx hb hT hown hK hW (st_ty hNN fo.1 fo.2 rfl).1 (st_ty hNN fo.1 fo.2 rfl).2 (by decide) in_Src rfl rfl (by decide) rfl fr_Src_3 w_3_2 d_Opn_lookAtChunks_274 ?_
    exact hret (fI x (stC o 2) 3) x H locs 277 ls d_Opn_lookAtChunks_277 hw hW hS
set_option maxRecDepth 100000 in
set_option maxHeartbeats 4000000 in
set_option maxRecDepth 100000 in
theorem t_Opn_lookAtChunks_236 {p : Program} {l : Launch} {e : Env} {R : Room} {s : State} {m : MethodId} {args : Array Value} {below : List Frame} {meth : Method} {c : Code} {cells slots : Nat} {Q : State → Prop} {dC : Nat → ClassId} {dI : Nat → Nat → Nat} {cI cB cJ cZ : ClassId} {A : Nat → Prop} {ad : Nat → Nat} {NN : Nat} {E : Heap} {tM tC : Nat} {kK kV : Nat → Nat} {post : Int32 → St → Prop} {rec60 : Nat → Int32 → St → Prop} {rec102 : Nat → Int32 → Int32 → St → Prop} (hx : p.tables.exec = Jvm.exec) (hb : c.code = b_Opn_lookAtChunks) (hml : c.maxLocals = 7) (hown : s.vm.findClass R_Opn = some m.cls) (hT : ∀ w ∈ TG, w.before args s = true) (hK : va_K (dC, dI) CL (TY cI cB cJ cZ) s) (hN : NW s) (hA : ∀ q : Nat, s.heap.size ≤ q → A q) (hRc : cells ≤ R.cells) (hRs : slots ≤ R.slots) (hRf : 7 ≤ R.frames) (hRl : 249 ≤ R.locals) (hNN : 152 ≤ NN) (hE : CE E tM tC kK kV A s) (hret : ∀ (r : Int32) (x : St) (H : Heap) (locs : List Loc) (pc : Nat) (ls : Array Slot), decode b_Opn_lookAtChunks pc = .ok (.ireturn, 1) → post r x → Wd dC dI cI cB cJ cZ ad stC kcC NN A x H → va_S A s.heap H locs → W p l e R s m args below meth c H locs cells slots Q (F0 m pc ls [.int r])) (hrec60 : ∀ (o : Nat) (l1 : Int32) (x : St) (H : Heap) (locs : List Loc) (ls : Array Slot), (o < NN ∧ kcC o = 7) → rec60 o l1 x → Wd dC dI cI cB cJ cZ ad stC kcC NN A x H → va_S A s.heap H locs → lv_has ls 7 [(0, .ref (ad o)), (1, .int l1)] → W p l e R s m args below meth c H locs cells slots Q (F0 m 60 ls [])) (hrec102 : ∀ (o : Nat) (l1 : Int32) (l2 : Int32) (x : St) (H : Heap) (locs : List Loc) (ls : Array Slot), (o < NN ∧ kcC o = 7) → rec102 o l1 l2 x → Wd dC dI cI cB cJ cZ ad stC kcC NN A x H → va_S A s.heap H locs → lv_has ls 7 [(0, .ref (ad o)), (1, .int l1), (2, .int l2)] → W p l e R s m args below meth c H locs cells slots Q (F0 m 102 ls [])) : ∀ (o : Nat) (l1 : Int32) (l2 : Int32) (l3 : Int32) (l4 : Int64) (l6 : Int32) (x : St) (H : Heap) (locs : List Loc) (ls : Array Slot), (o < NN ∧ kcC o = 7) → j_Opn_lookAtChunks_236 post rec60 rec102 o l1 l2 l3 l4 l6 x → Wd dC dI cI cB cJ cZ ad stC kcC NN A x H → va_S A s.heap H locs → lv_has ls 7 [(0, .ref (ad o)), (1, .int l1), (2, .int l2), (3, .int l3), (4, .long l4), (6, .int l6)] → W p l e R s m args below meth c H locs cells slots Q (F0 m 236 ls []) := by
  intro o l1 l2 l3 l4 l6 x H locs ls fo hw hW hS hl
  unfold j_Opn_lookAtChunks_236 at hw
  refine lv_aload_n hx hb d_Opn_lookAtChunks_236 rfl (lv_at hl 0 rfl) ?_
  refine w_getf (q := (stC o 2)) (k := 2) (t := 7) (C := R_Opn) (T := F_Opn) (N := 17) hx hb hT hown hK hW fo.1 fo.2 (by decide) in_Opn rfl rfl (by decide) rfl fr_Opn_2 w_3_17 d_Opn_lookAtChunks_237 rfl ?_
  refine w_geti (k := 3) (t := 8) (C := R_Src) (T := F_Src) (N := 5) hx hb hT hown hK hW (st_ty hNN fo.1 fo.2 rfl).1 (st_ty hNN fo.1 fo.2 rfl).2 (by decide) in_Src rfl rfl (by decide) rfl fr_Src_3 w_3_2 d_Opn_lookAtChunks_240 ?_
  refine lv_if_ne (tgt := 260) hx hb d_Opn_lookAtChunks_243 (by decide) (fun c2 => ?_) (fun c2 => ?_)
  · have hw := hw.1 c2
    exact t_Opn_lookAtChunks_260 hx hb hml hown hT hK hN hA hRc hRs hRf hRl hNN hE hret hrec60 hrec102 o l1 l2 l3 l4 l6 x H locs ls fo hw hW hS (lv_sub hl [0, 1, 2, 3, 4, 5] rfl)
  · have hw := hw.2 c2
    refine lv_aload_n hx hb d_Opn_lookAtChunks_246 rfl (lv_at hl 0 rfl) ?_
    refine lv_iload_n hx hb d_Opn_lookAtChunks_247 rfl (lv_at hl 1 rfl) ?_
    refine lv_iload_n hx hb d_Opn_lookAtChunks_248 rfl (lv_at hl 2 rfl) ?_
    refine lv_iconst (v := (-1)) hx hb d_Opn_lookAtChunks_249 (by decide) ?_
    have hF := hW.free hS hA
    refine va_callv (va_runV (C := R_Opn) (As := [.int l1, .int l2, .int (-1)]) (rest := []) ⟨hx, hb, hml, hown, hT⟩ (k_Opn_lookAt l dC dI cI cB cJ cZ ad NN E tM tC kK kV hNN H.size o l1 l2 (-1) x fo hw) ⟨callB_of 3 hT (gwt_in w_6_81) rfl rfl rfl (hT _ w_1_10) (hT _ w_6_78) (by decide +kernel) ⟨Nat.le_trans (Nat.le_of_ble_eq_true rfl) hRf, Nat.le_trans (Nat.le_of_ble_eq_true rfl) hRl⟩, hT _ w_6_80, hT _ ws_33⟩ ⟨PVc.blind, va_recv hK hW.1 (ci := 7) (q0 := o) rfl (pic_obj fo.1 fo.2 (by decide)), PVc.at _ hW hK hN hE hS hF⟩ rfl rfl hl.1 rfl (lv_room (Nat.le_of_ble_eq_true rfl)) d_Opn_lookAtChunks_250 ⟨hRc, hRs⟩) hS (fun q _ h => hF q h) hF (fun  x3 t H locs ht hvm hw hB hz1 hk1 hS => ?_)
    have hW := Wd.back hB ht hF
    clear hB ht hF hz1 hk1 hvm
    refine lv_aload_n hx hb d_Opn_lookAtChunks_253 rfl (lv_at hl 0 rfl) ?_
    refine lv_iload_n hx hb d_Opn_lookAtChunks_254 rfl (lv_at hl 1 rfl) ?_
    refine lv_iload_n hx hb d_Opn_lookAtChunks_255 rfl (lv_at hl 2 rfl) ?_
    refine lv_iload_n hx hb d_Opn_lookAtChunks_256 rfl (lv_at hl 3 rfl) ?_
    have hF := hW.free hS hA
    refine va_callv (va_runV (C := R_Opn) (As := [.int l1, .int l2, .int l3]) (rest := []) ⟨hx, hb, hml, hown, hT⟩ (k_Opn_endChunk l dC dI cI cB cJ cZ ad NN E tM tC kK kV hNN H.size o l1 l2 l3 x3 fo hw) ⟨callB_of 3 hT (gwt_in w_7_54) rfl rfl rfl (hT _ w_1_10) (hT _ w_7_51) (by decide +kernel) ⟨Nat.le_trans (Nat.le_of_ble_eq_true rfl) hRf, Nat.le_trans (Nat.le_of_ble_eq_true rfl) hRl⟩, hT _ w_7_53, hT _ ws_59⟩ ⟨PVc.blind, va_recv hK hW.1 (ci := 7) (q0 := o) rfl (pic_obj fo.1 fo.2 (by decide)), PVc.at _ hW hK hN hE hS hF⟩ rfl rfl hl.1 rfl (lv_room (Nat.le_of_ble_eq_true rfl)) d_Opn_lookAtChunks_257 ⟨hRc, hRs⟩) hS (fun q _ h => hF q h) hF (fun  x4 t H locs ht hvm hw hB hz1 hk1 hS => ?_)
    have hW := Wd.back hB ht hF
    clear hB ht hF hz1 hk1 hvm
    exact t_Opn_lookAtChunks_260 hx hb hml hown hT hK hN hA hRc hRs hRf hRl hNN hE hret hrec60 hrec102 o l1 l2 l3 l4 l6 x4 H locs ls fo hw hW hS (lv_sub hl [0, 1, 2, 3, 4, 5] rfl)
set_option maxRecDepth 100000 in
set_option maxHeartbeats 4000000 in
set_option maxRecDepth 100000 in
theorem t_Opn_lookAtChunks_182 {p : Program} {l : Launch} {e : Env} {R : Room} {s : State} {m : MethodId} {args : Array Value} {below : List Frame} {meth : Method} {c : Code} {cells slots : Nat} {Q : State → Prop} {dC : Nat → ClassId} {dI : Nat → Nat → Nat} {cI cB cJ cZ : ClassId} {A : Nat → Prop} {ad : Nat → Nat} {NN : Nat} {E : Heap} {tM tC : Nat} {kK kV : Nat → Nat} {post : Int32 → St → Prop} {rec60 : Nat → Int32 → St → Prop} {rec102 : Nat → Int32 → Int32 → St → Prop} {rec182 : Nat → Int32 → Int32 → Int32 → Int64 → Int32 → St → Prop} (hx : p.tables.exec = Jvm.exec) (hb : c.code = b_Opn_lookAtChunks) (hml : c.maxLocals = 7) (hown : s.vm.findClass R_Opn = some m.cls) (hT : ∀ w ∈ TG, w.before args s = true) (hK : va_K (dC, dI) CL (TY cI cB cJ cZ) s) (hN : NW s) (hA : ∀ q : Nat, s.heap.size ≤ q → A q) (hRc : cells ≤ R.cells) (hRs : slots ≤ R.slots) (hRf : 7 ≤ R.frames) (hRl : 249 ≤ R.locals) (hNN : 152 ≤ NN) (hE : CE E tM tC kK kV A s) (hret : ∀ (r : Int32) (x : St) (H : Heap) (locs : List Loc) (pc : Nat) (ls : Array Slot), decode b_Opn_lookAtChunks pc = .ok (.ireturn, 1) → post r x → Wd dC dI cI cB cJ cZ ad stC kcC NN A x H → va_S A s.heap H locs → W p l e R s m args below meth c H locs cells slots Q (F0 m pc ls [.int r])) (hrec60 : ∀ (o : Nat) (l1 : Int32) (x : St) (H : Heap) (locs : List Loc) (ls : Array Slot), (o < NN ∧ kcC o = 7) → rec60 o l1 x → Wd dC dI cI cB cJ cZ ad stC kcC NN A x H → va_S A s.heap H locs → lv_has ls 7 [(0, .ref (ad o)), (1, .int l1)] → W p l e R s m args below meth c H locs cells slots Q (F0 m 60 ls [])) (hrec102 : ∀ (o : Nat) (l1 : Int32) (l2 : Int32) (x : St) (H : Heap) (locs : List Loc) (ls : Array Slot), (o < NN ∧ kcC o = 7) → rec102 o l1 l2 x → Wd dC dI cI cB cJ cZ ad stC kcC NN A x H → va_S A s.heap H locs → lv_has ls 7 [(0, .ref (ad o)), (1, .int l1), (2, .int l2)] → W p l e R s m args below meth c H locs cells slots Q (F0 m 102 ls [])) (hrec182 : ∀ (o : Nat) (l1 : Int32) (l2 : Int32) (l3 : Int32) (l4 : Int64) (l6 : Int32) (x : St) (H : Heap) (locs : List Loc) (ls : Array Slot), (o < NN ∧ kcC o = 7) → rec182 o l1 l2 l3 l4 l6 x → Wd dC dI cI cB cJ cZ ad stC kcC NN A x H → va_S A s.heap H locs → lv_has ls 7 [(0, .ref (ad o)), (1, .int l1), (2, .int l2), (3, .int l3), (4, .long l4), (6, .int l6)] → W p l e R s m args below meth c H locs cells slots Q (F0 m 182 ls [])) : ∀ (o : Nat) (l1 : Int32) (l2 : Int32) (l3 : Int32) (l4 : Int64) (l6 : Int32) (x : St) (H : Heap) (locs : List Loc) (ls : Array Slot), (o < NN ∧ kcC o = 7) → j_Opn_lookAtChunks_182 post rec60 rec102 rec182 o l1 l2 l3 l4 l6 x → Wd dC dI cI cB cJ cZ ad stC kcC NN A x H → va_S A s.heap H locs → lv_has ls 7 [(0, .ref (ad o)), (1, .int l1), (2, .int l2), (3, .int l3), (4, .long l4), (6, .int l6)] → W p l e R s m args below meth c H locs cells slots Q (F0 m 182 ls []) := by
  intro o l1 l2 l3 l4 l6 x H locs ls fo hw hW hS hl
  unfold j_Opn_lookAtChunks_182 at hw
  refine lv_iload hx hb d_Opn_lookAtChunks_182 (lv_at hl 5 rfl) ?_
  refine lv_i2l hx hb d_Opn_lookAtChunks_184 rfl ?_
  refine lv_lload hx hb d_Opn_lookAtChunks_185 (lv_at hl 4 rfl) ?_
  refine W.lcmp hx hb d_Opn_lookAtChunks_187 ?_
  refine lv_if_ge (tgt := 236) hx hb d_Opn_lookAtChunks_188 (by decide) (fun c5 => ?_) (fun c5 => ?_)
  · have hw := hw.1 c5
    exact t_Opn_lookAtChunks_236 hx hb hml hown hT hK hN hA hRc hRs hRf hRl hNN hE hret hrec60 hrec102 o l1 l2 l3 l4 l6 x H locs ls fo hw hW hS (lv_sub hl [0, 1, 2, 3, 4, 5] rfl)
  · have hw := hw.2 c5
    refine lv_aload_n hx hb d_Opn_lookAtChunks_191 rfl (lv_at hl 0 rfl) ?_
    refine w_getf (q := (stC o 2)) (k := 2) (t := 7) (C := R_Opn) (T := F_Opn) (N := 17) hx hb hT hown hK hW fo.1 fo.2 (by decide) in_Opn rfl rfl (by decide) rfl fr_Opn_2 w_3_17 d_Opn_lookAtChunks_192 rfl ?_
    refine w_geti (k := 3) (t := 8) (C := R_Src) (T := F_Src) (N := 5) hx hb hT hown hK hW (st_ty hNN fo.1 fo.2 rfl).1 (st_ty hNN fo.1 fo.2 rfl).2 (by decide) in_Src rfl rfl (by decide) rfl fr_Src_3 w_3_2 d_Opn_lookAtChunks_195 ?_
    refine lv_if_ne (tgt := 236) hx hb d_Opn_lookAtChunks_198 (by decide) (fun c6 => ?_) (fun c6 => ?_)
    · have hw := hw.1 c6
      exact t_Opn_lookAtChunks_236 hx hb hml hown hT hK hN hA hRc hRs hRf hRl hNN hE hret hrec60 hrec102 o l1 l2 l3 l4 l6 x H locs ls fo hw hW hS (lv_sub hl [0, 1, 2, 3, 4, 5] rfl)
    · have hw := hw.2 c6
      refine lv_aload_n hx hb d_Opn_lookAtChunks_201 rfl (lv_at hl 0 rfl) ?_
      refine lv_iload_n hx hb d_Opn_lookAtChunks_202 rfl (lv_at hl 1 rfl) ?_
      refine lv_iload_n hx hb d_Opn_lookAtChunks_203 rfl (lv_at hl 2 rfl) ?_
      refine lv_iload hx hb d_Opn_lookAtChunks_204 (lv_at hl 5 rfl) ?_
      have hF := hW.free hS hA
      refine va_callv (va_runV (C := R_Opn) (As := [.int l1, .int l2, .int l6]) (rest := []) ⟨hx, hb, hml, hown, hT⟩ (k_Opn_lookAt l dC dI cI cB cJ cZ ad NN E tM tC kK kV hNN H.size o l1 l2 l6 x fo hw) ⟨callB_of 3 hT (gwt_in w_6_81) rfl rfl rfl (hT _ w_1_10) (hT _ w_6_78) (by decide +kernel) ⟨Nat.le_trans (Nat.le_of_ble_eq_true rfl) hRf, Nat.le_trans (Nat.le_of_ble_eq_true rfl) hRl⟩, hT _ w_6_80, hT _ ws_33⟩ ⟨PVc.blind, va_recv hK hW.1 (ci := 7) (q0 := o) rfl (pic_obj fo.1 fo.2 (by decide)), PVc.at _ hW hK hN hE hS hF⟩ rfl rfl hl.1 rfl (lv_room (Nat.le_of_ble_eq_true rfl)) d_Opn_lookAtChunks_206 ⟨hRc, hRs⟩) hS (fun q _ h => hF q h) hF (fun  x7 t H locs ht hvm hw hB hz1 hk1 hS => ?_)
      have hW := Wd.back hB ht hF
      clear hB ht hF hz1 hk1 hvm
      refine lv_aload_n hx hb d_Opn_lookAtChunks_209 rfl (lv_at hl 0 rfl) ?_
      refine w_getf (q := (stC o 2)) (k := 2) (t := 7) (C := R_Opn) (T := F_Opn) (N := 17) hx hb hT hown hK hW fo.1 fo.2 (by decide) in_Opn rfl rfl (by decide) rfl fr_Opn_2 w_3_17 d_Opn_lookAtChunks_210 rfl ?_
      refine lv_aload_n hx hb d_Opn_lookAtChunks_213 rfl (lv_at hl 0 rfl) ?_
      refine w_geti (k := 11) (t := 7) (C := R_Opn) (T := F_Opn) (N := 17) hx hb hT hown hK hW fo.1 fo.2 (by decide) in_Opn rfl rfl (by decide) rfl fr_Opn_11 w_3_27 d_Opn_lookAtChunks_214 ?_
      refine w_puti (ty := .int) (k := 2) (t := 8) (C := R_Src) (T := F_Src) (N := 5) hx hb hT hown hK hW hS (st_ty hNN fo.1 fo.2 rfl).1 (st_ty hNN fo.1 fo.2 rfl).2 (by decide) in_Src t_Src t_Src_ok n_Src rfl rfl (by decide) rfl fr_Src_2 w_3_0 (by decide +kernel) rfl rfl d_Opn_lookAtChunks_217 (fun H locs hW hS => ?_)
      obtain ⟨x8, ex8⟩ : ∃ y : St, y = setI x7 (stC o 2) 2 (fI x7 o 11) := ⟨_, rfl⟩
      rw [← ex8] at hW
      have hw := hw x8 ex8
      refine lv_aload_n hx hb d_Opn_lookAtChunks_220 rfl (lv_at hl 0 rfl) ?_
      refine lv_iload_n hx hb d_Opn_lookAtChunks_221 rfl (lv_at hl 2 rfl) ?_
      refine lv_iload_n hx hb d_Opn_lookAtChunks_222 rfl (lv_at hl 3 rfl) ?_
      refine lv_aload_n hx hb d_Opn_lookAtChunks_223 rfl (lv_at hl 0 rfl) ?_
      have hF := hW.free hS hA
      refine va_calli (va_runV (C := R_Opn) (As := []) (rest := [.int l3, .int l2, .ref (ad o)]) ⟨hx, hb, hml, hown, hT⟩ (k_Opn_newTeller l dC dI cI cB cJ cZ ad NN E tM tC kK kV hNN H.size o x8 fo hw) ⟨callB_of 0 hT (gwt_in w_6_179) rfl rfl rfl (hT _ w_1_10) (hT _ w_6_176) (by decide +kernel) ⟨Nat.le_trans (Nat.le_of_ble_eq_true rfl) hRf, Nat.le_trans (Nat.le_of_ble_eq_true rfl) hRl⟩, hT _ w_6_178, hT _ ws_39⟩ ⟨PVc.blind, va_recv hK hW.1 (ci := 7) (q0 := o) rfl (pic_obj fo.1 fo.2 (by decide)), PVc.at _ hW hK hN hE hS hF⟩ rfl rfl hl.1 rfl (lv_room (Nat.le_of_ble_eq_true rfl)) d_Opn_lookAtChunks_224 ⟨hRc, hRs⟩) hS (fun q _ h => hF q h) hF (fun r10 x9 t H locs ht hvm hw hB hz1 hk1 hS => ?_)
      have hW := Wd.back hB ht hF
      clear hB ht hF hz1 hk1 hvm
      have hF := hW.free hS hA
      refine va_callv (va_runV (C := R_Opn) (As := [.int l2, .int l3, .int r10]) (rest := []) ⟨hx, hb, hml, hown, hT⟩ (k_Opn_lookAtPage l dC dI cI cB cJ cZ ad NN E tM tC kK kV hNN H.size o l2 l3 r10 x9 fo hw) ⟨callB_of 3 hT (gwt_in w_6_184) rfl rfl rfl (hT _ w_1_10) (hT _ w_6_181) (by decide +kernel) ⟨Nat.le_trans (Nat.le_of_ble_eq_true rfl) hRf, Nat.le_trans (Nat.le_of_ble_eq_true rfl) hRl⟩, hT _ w_6_183, hT _ ws_40⟩ ⟨PVc.blind, va_recv hK hW.1 (ci := 7) (q0 := o) rfl (pic_obj fo.1 fo.2 (by decide)), PVc.at _ hW hK hN hE hS hF⟩ rfl rfl hl.1 rfl (lv_room (Nat.le_of_ble_eq_true rfl)) d_Opn_lookAtChunks_227 ⟨hRc, hRs⟩) hS (fun q _ h => hF q h) hF (fun  x11 t H locs ht hvm hw hB hz1 hk1 hS => ?_)
      have hW := Wd.back hB ht hF
      clear hB ht hF hz1 hk1 hvm
      refine lv_iinc (v := (l6 + 1)) (lv' := [(6, .int (l6 + 1)), (0, .ref (ad o)), (1, .int l1), (2, .int l2), (3, .int l3), (4, .long l4)]) hx hb d_Opn_lookAtChunks_230 hl (k := 5) rfl rfl (by decide) rfl (fun ls hl => ?_)
      refine lv_goto (tgt := 182) hx hb d_Opn_lookAtChunks_233 (by decide) ?_
      exact hrec182 o l1 l2 l3 l4 (l6 + 1) x11 H locs ls fo hw hW hS (lv_sub hl [1, 2, 3, 4, 5, 0] rfl)
set_option maxHeartbeats 4000000 in
set_option maxRecDepth 100000 in
theorem tl_Opn_lookAtChunks_182 {p : Program} {l : Launch} {e : Env} {R : Room} {s : State} {m : MethodId} {args : Array Value} {below : List Frame} {meth : Method} {c : Code} {cells slots : Nat} {Q : State → Prop} {dC : Nat → ClassId} {dI : Nat → Nat → Nat} {cI cB cJ cZ : ClassId} {A : Nat → Prop} {ad : Nat → Nat} {NN : Nat} {E : Heap} {tM tC : Nat} {kK kV : Nat → Nat} {post : Int32 → St → Prop} {rec60 : Nat → Int32 → St → Prop} {rec102 : Nat → Int32 → Int32 → St → Prop} (hx : p.tables.exec = Jvm.exec) (hb : c.code = b_Opn_lookAtChunks) (hml : c.maxLocals = 7) (hown : s.vm.findClass R_Opn = some m.cls) (hT : ∀ w ∈ TG, w.before args s = true) (hK : va_K (dC, dI) CL (TY cI cB cJ cZ) s) (hN : NW s) (hA : ∀ q : Nat, s.heap.size ≤ q → A q) (hRc : cells ≤ R.cells) (hRs : slots ≤ R.slots) (hRf : 7 ≤ R.frames) (hRl : 249 ≤ R.locals) (hNN : 152 ≤ NN) (hE : CE E tM tC kK kV A s) (hret : ∀ (r : Int32) (x : St) (H : Heap) (locs : List Loc) (pc : Nat) (ls : Array Slot), decode b_Opn_lookAtChunks pc = .ok (.ireturn, 1) → post r x → Wd dC dI cI cB cJ cZ ad stC kcC NN A x H → va_S A s.heap H locs → W p l e R s m args below meth c H locs cells slots Q (F0 m pc ls [.int r])) (hrec60 : ∀ (o : Nat) (l1 : Int32) (x : St) (H : Heap) (locs : List Loc) (ls : Array Slot), (o < NN ∧ kcC o = 7) → rec60 o l1 x → Wd dC dI cI cB cJ cZ ad stC kcC NN A x H → va_S A s.heap H locs → lv_has ls 7 [(0, .ref (ad o)), (1, .int l1)] → W p l e R s m args below meth c H locs cells slots Q (F0 m 60 ls [])) (hrec102 : ∀ (o : Nat) (l1 : Int32) (l2 : Int32) (x : St) (H : Heap) (locs : List Loc) (ls : Array Slot), (o < NN ∧ kcC o = 7) → rec102 o l1 l2 x → Wd dC dI cI cB cJ cZ ad stC kcC NN A x H → va_S A s.heap H locs → lv_has ls 7 [(0, .ref (ad o)), (1, .int l1), (2, .int l2)] → W p l e R s m args below meth c H locs cells slots Q (F0 m 102 ls [])) : ∀ n : Nat, ∀ (o : Nat) (l1 : Int32) (l2 : Int32) (l3 : Int32) (l4 : Int64) (l6 : Int32) (x : St) (H : Heap) (locs : List Loc) (ls : Array Slot), (o < NN ∧ kcC o = 7) → wl_Opn_lookAtChunks_182 post rec60 rec102 n o l1 l2 l3 l4 l6 x → Wd dC dI cI cB cJ cZ ad stC kcC NN A x H → va_S A s.heap H locs → lv_has ls 7 [(0, .ref (ad o)), (1, .int l1), (2, .int l2), (3, .int l3), (4, .long l4), (6, .int l6)] → W p l e R s m args below meth c H locs cells slots Q (F0 m 182 ls []) := by
  intro n
  induction n with
  | zero => intro o l1 l2 l3 l4 l6 x H locs ls fo hw; exact hw.elim
  | succ n ih => intro o l1 l2 l3 l4 l6 x H locs ls fo hw hW hS hl; exact t_Opn_lookAtChunks_182 hx hb hml hown hT hK hN hA hRc hRs hRf hRl hNN hE hret hrec60 hrec102 ih o l1 l2 l3 l4 l6 x H locs ls fo hw hW hS hl
set_option maxRecDepth 100000 in
set_option maxHeartbeats 4000000 in
set_option maxRecDepth 100000 in
theorem t_Opn_lookAtChunks_177 {p : Program} {l : Launch} {e : Env} {R : Room} {s : State} {m : MethodId} {args : Array Value} {below : List Frame} {meth : Method} {c : Code} {cells slots : Nat} {Q : State → Prop} {dC : Nat → ClassId} {dI : Nat → Nat → Nat} {cI cB cJ cZ : ClassId} {A : Nat → Prop} {ad : Nat → Nat} {NN : Nat} {E : Heap} {tM tC : Nat} {kK kV : Nat → Nat} {post : Int32 → St → Prop} {rec60 : Nat → Int32 → St → Prop} {rec102 : Nat → Int32 → Int32 → St → Prop} (hx : p.tables.exec = Jvm.exec) (hb : c.code = b_Opn_lookAtChunks) (hml : c.maxLocals = 7) (hown : s.vm.findClass R_Opn = some m.cls) (hT : ∀ w ∈ TG, w.before args s = true) (hK : va_K (dC, dI) CL (TY cI cB cJ cZ) s) (hN : NW s) (hA : ∀ q : Nat, s.heap.size ≤ q → A q) (hRc : cells ≤ R.cells) (hRs : slots ≤ R.slots) (hRf : 7 ≤ R.frames) (hRl : 249 ≤ R.locals) (hNN : 152 ≤ NN) (hE : CE E tM tC kK kV A s) (hret : ∀ (r : Int32) (x : St) (H : Heap) (locs : List Loc) (pc : Nat) (ls : Array Slot), decode b_Opn_lookAtChunks pc = .ok (.ireturn, 1) → post r x → Wd dC dI cI cB cJ cZ ad stC kcC NN A x H → va_S A s.heap H locs → W p l e R s m args below meth c H locs cells slots Q (F0 m pc ls [.int r])) (hrec60 : ∀ (o : Nat) (l1 : Int32) (x : St) (H : Heap) (locs : List Loc) (ls : Array Slot), (o < NN ∧ kcC o = 7) → rec60 o l1 x → Wd dC dI cI cB cJ cZ ad stC kcC NN A x H → va_S A s.heap H locs → lv_has ls 7 [(0, .ref (ad o)), (1, .int l1)] → W p l e R s m args below meth c H locs cells slots Q (F0 m 60 ls [])) (hrec102 : ∀ (o : Nat) (l1 : Int32) (l2 : Int32) (x : St) (H : Heap) (locs : List Loc) (ls : Array Slot), (o < NN ∧ kcC o = 7) → rec102 o l1 l2 x → Wd dC dI cI cB cJ cZ ad stC kcC NN A x H → va_S A s.heap H locs → lv_has ls 7 [(0, .ref (ad o)), (1, .int l1), (2, .int l2)] → W p l e R s m args below meth c H locs cells slots Q (F0 m 102 ls [])) : ∀ (o : Nat) (l1 : Int32) (l2 : Int32) (l3 : Int32) (s0 : Int64) (x : St) (H : Heap) (locs : List Loc) (ls : Array Slot), (o < NN ∧ kcC o = 7) → j_Opn_lookAtChunks_177 post rec60 rec102 o l1 l2 l3 s0 x → Wd dC dI cI cB cJ cZ ad stC kcC NN A x H → va_S A s.heap H locs → lv_has ls 7 [(0, .ref (ad o)), (1, .int l1), (2, .int l2), (3, .int l3)] → W p l e R s m args below meth c H locs cells slots Q (F0 m 177 ls [.long s0]) := by
  intro o l1 l2 l3 s0 x H locs ls fo hw hW hS hl
  unfold j_Opn_lookAtChunks_177 at hw
  refine lv_lstore (lv' := [(4, .long s0), (0, .ref (ad o)), (1, .int l1), (2, .int l2), (3, .int l3)]) hx hb d_Opn_lookAtChunks_177 hl (by decide) rfl (fun ls hl => ?_)
  refine lv_iconst (v := 0) hx hb d_Opn_lookAtChunks_179 (by decide) ?_
  refine lv_istore (lv' := [(6, .int 0), (4, .long s0), (0, .ref (ad o)), (1, .int l1), (2, .int l2), (3, .int l3)]) hx hb d_Opn_lookAtChunks_180 hl (by decide) rfl (fun ls hl => ?_)
  obtain ⟨n, hw⟩ := hw
  exact tl_Opn_lookAtChunks_182 hx hb hml hown hT hK hN hA hRc hRs hRf hRl hNN hE hret hrec60 hrec102 n o l1 l2 l3 s0 0 x H locs ls fo hw hW hS (lv_sub hl [2, 3, 4, 5, 1, 0] rfl)
set_option maxRecDepth 100000 in
set_option maxHeartbeats 4000000 in
set_option maxRecDepth 100000 in
theorem t_Opn_lookAtChunks_102 {p : Program} {l : Launch} {e : Env} {R : Room} {s : State} {m : MethodId} {args : Array Value} {below : List Frame} {meth : Method} {c : Code} {cells slots : Nat} {Q : State → Prop} {dC : Nat → ClassId} {dI : Nat → Nat → Nat} {cI cB cJ cZ : ClassId} {A : Nat → Prop} {ad : Nat → Nat} {NN : Nat} {E : Heap} {tM tC : Nat} {kK kV : Nat → Nat} {post : Int32 → St → Prop} {rec60 : Nat → Int32 → St → Prop} {rec102 : Nat → Int32 → Int32 → St → Prop} (hx : p.tables.exec = Jvm.exec) (hb : c.code = b_Opn_lookAtChunks) (hml : c.maxLocals = 7) (hown : s.vm.findClass R_Opn = some m.cls) (hT : ∀ w ∈ TG, w.before args s = true) (hK : va_K (dC, dI) CL (TY cI cB cJ cZ) s) (hN : NW s) (hA : ∀ q : Nat, s.heap.size ≤ q → A q) (hRc : cells ≤ R.cells) (hRs : slots ≤ R.slots) (hRf : 7 ≤ R.frames) (hRl : 249 ≤ R.locals) (hNN : 152 ≤ NN) (hE : CE E tM tC kK kV A s) (hret : ∀ (r : Int32) (x : St) (H : Heap) (locs : List Loc) (pc : Nat) (ls : Array Slot), decode b_Opn_lookAtChunks pc = .ok (.ireturn, 1) → post r x → Wd dC dI cI cB cJ cZ ad stC kcC NN A x H → va_S A s.heap H locs → W p l e R s m args below meth c H locs cells slots Q (F0 m pc ls [.int r])) (hrec60 : ∀ (o : Nat) (l1 : Int32) (x : St) (H : Heap) (locs : List Loc) (ls : Array Slot), (o < NN ∧ kcC o = 7) → rec60 o l1 x → Wd dC dI cI cB cJ cZ ad stC kcC NN A x H → va_S A s.heap H locs → lv_has ls 7 [(0, .ref (ad o)), (1, .int l1)] → W p l e R s m args below meth c H locs cells slots Q (F0 m 60 ls [])) (hrec102 : ∀ (o : Nat) (l1 : Int32) (l2 : Int32) (x : St) (H : Heap) (locs : List Loc) (ls : Array Slot), (o < NN ∧ kcC o = 7) → rec102 o l1 l2 x → Wd dC dI cI cB cJ cZ ad stC kcC NN A x H → va_S A s.heap H locs → lv_has ls 7 [(0, .ref (ad o)), (1, .int l1), (2, .int l2)] → W p l e R s m args below meth c H locs cells slots Q (F0 m 102 ls [])) : ∀ (o : Nat) (l1 : Int32) (l2 : Int32) (x : St) (H : Heap) (locs : List Loc) (ls : Array Slot), (o < NN ∧ kcC o = 7) → j_Opn_lookAtChunks_102 post rec60 rec102 o l1 l2 x → Wd dC dI cI cB cJ cZ ad stC kcC NN A x H → va_S A s.heap H locs → lv_has ls 7 [(0, .ref (ad o)), (1, .int l1), (2, .int l2)] → W p l e R s m args below meth c H locs cells slots Q (F0 m 102 ls []) := by
  intro o l1 l2 x H locs ls fo hw hW hS hl
  unfold j_Opn_lookAtChunks_102 at hw
  refine lv_iload_n hx hb d_Opn_lookAtChunks_102 rfl (lv_at hl 2 rfl) ?_
  refine lv_aload_n hx hb d_Opn_lookAtChunks_103 rfl (lv_at hl 0 rfl) ?_
  refine w_getf (q := (stC o 0)) (k := 0) (t := 7) (C := R_Opn) (T := F_Opn) (N := 17) hx hb hT hown hK hW fo.1 fo.2 (by decide) in_Opn rfl rfl (by decide) rfl fr_Opn_0 w_3_15 d_Opn_lookAtChunks_104 rfl ?_
  refine w_getf (q := (stC (stC o 0) 5)) (k := 5) (t := 6) (C := R_Vlt) (T := F_Vlt) (N := 20) hx hb hT hown hK hW (st_ty hNN fo.1 fo.2 rfl).1 (st_ty hNN fo.1 fo.2 rfl).2 (by decide) in_Vlt rfl rfl (by decide) rfl fr_Vlt_5 w_2_136 d_Opn_lookAtChunks_107 rfl ?_
  refine w_geti (k := 1) (t := 3) (C := R_Sch) (T := F_Sch) (N := 13) hx hb hT hown hK hW (st_ty hNN (st_ty hNN fo.1 fo.2 rfl).1 (st_ty hNN fo.1 fo.2 rfl).2 rfl).1 (st_ty hNN (st_ty hNN fo.1 fo.2 rfl).1 (st_ty hNN fo.1 fo.2 rfl).2 rfl).2 (by decide) in_Sch rfl rfl (by decide) rfl fr_Sch_1 w_1_137 d_Opn_lookAtChunks_110 ?_
  refine lv_icmp_ge (tgt := 284) hx hb d_Opn_lookAtChunks_113 (by decide) (fun c12 => ?_) (fun c12 => ?_)
  · have hw := hw.1 c12
    refine lv_iinc (v := (l1 + 1)) (lv' := [(1, .int (l1 + 1)), (0, .ref (ad o)), (2, .int l2)]) hx hb d_Opn_lookAtChunks_284 hl (k := 1) rfl rfl (by decide) rfl (fun ls hl => ?_)
    refine lv_goto (tgt := 60) hx hb d_Opn_lookAtChunks_287 (by decide) ?_
    exact hrec60 o (l1 + 1) x H locs ls fo hw hW hS (lv_sub hl [1, 0] rfl)
  · have hw := hw.2 c12
    refine lv_aload_n hx hb d_Opn_lookAtChunks_116 rfl (lv_at hl 0 rfl) ?_
    refine lv_aload_n hx hb d_Opn_lookAtChunks_117 rfl (lv_at hl 0 rfl) ?_
    refine w_getf (q := (stC o 0)) (k := 0) (t := 7) (C := R_Opn) (T := F_Opn) (N := 17) hx hb hT hown hK hW fo.1 fo.2 (by decide) in_Opn rfl rfl (by decide) rfl fr_Opn_0 w_3_15 d_Opn_lookAtChunks_118 rfl ?_
    refine w_getf (q := (stC (stC o 0) 5)) (k := 5) (t := 6) (C := R_Vlt) (T := F_Vlt) (N := 20) hx hb hT hown hK hW (st_ty hNN fo.1 fo.2 rfl).1 (st_ty hNN fo.1 fo.2 rfl).2 (by decide) in_Vlt rfl rfl (by decide) rfl fr_Vlt_5 w_2_136 d_Opn_lookAtChunks_121 rfl ?_
    refine w_getf (q := (stC (stC (stC o 0) 5) 3)) (k := 3) (t := 3) (C := R_Sch) (T := F_Sch) (N := 13) hx hb hT hown hK hW (st_ty hNN (st_ty hNN fo.1 fo.2 rfl).1 (st_ty hNN fo.1 fo.2 rfl).2 rfl).1 (st_ty hNN (st_ty hNN fo.1 fo.2 rfl).1 (st_ty hNN fo.1 fo.2 rfl).2 rfl).2 (by decide) in_Sch rfl rfl (by decide) rfl fr_Sch_3 w_1_147 d_Opn_lookAtChunks_124 rfl ?_
    refine lv_aload_n hx hb d_Opn_lookAtChunks_127 rfl (lv_at hl 0 rfl) ?_
    refine w_getf (q := (stC o 0)) (k := 0) (t := 7) (C := R_Opn) (T := F_Opn) (N := 17) hx hb hT hown hK hW fo.1 fo.2 (by decide) in_Opn rfl rfl (by decide) rfl fr_Opn_0 w_3_15 d_Opn_lookAtChunks_128 rfl ?_
    refine w_getf (q := (stC (stC o 0) 5)) (k := 5) (t := 6) (C := R_Vlt) (T := F_Vlt) (N := 20) hx hb hT hown hK hW (st_ty hNN fo.1 fo.2 rfl).1 (st_ty hNN fo.1 fo.2 rfl).2 (by decide) in_Vlt rfl rfl (by decide) rfl fr_Vlt_5 w_2_136 d_Opn_lookAtChunks_131 rfl ?_
    refine w_getf (q := (stC (stC (stC o 0) 5) 10)) (k := 10) (t := 3) (C := R_Sch) (T := F_Sch) (N := 13) hx hb hT hown hK hW (st_ty hNN (st_ty hNN fo.1 fo.2 rfl).1 (st_ty hNN fo.1 fo.2 rfl).2 rfl).1 (st_ty hNN (st_ty hNN fo.1 fo.2 rfl).1 (st_ty hNN fo.1 fo.2 rfl).2 rfl).2 (by decide) in_Sch rfl rfl (by decide) rfl fr_Sch_10 w_1_181 d_Opn_lookAtChunks_134 rfl ?_
    refine lv_iload_n hx hb d_Opn_lookAtChunks_137 rfl (lv_at hl 2 rfl) ?_
    obtain ⟨hi, hw⟩ := hw
    refine w_iald (o := (stC (stC (stC o 0) 5) 10)) hx hb hK hW (st_ty hNN (st_ty hNN (st_ty hNN fo.1 fo.2 rfl).1 (st_ty hNN fo.1 fo.2 rfl).2 rfl).1 (st_ty hNN (st_ty hNN fo.1 fo.2 rfl).1 (st_ty hNN fo.1 fo.2 rfl).2 rfl).2 rfl).1 (st_ty hNN (st_ty hNN (st_ty hNN fo.1 fo.2 rfl).1 (st_ty hNN fo.1 fo.2 rfl).2 rfl).1 (st_ty hNN (st_ty hNN fo.1 fo.2 rfl).1 (st_ty hNN fo.1 fo.2 rfl).2 rfl).2 rfl).2 hi d_Opn_lookAtChunks_138 ?_
    obtain ⟨hi, hw⟩ := hw
    refine w_iald (o := (stC (stC (stC o 0) 5) 3)) hx hb hK hW (st_ty hNN (st_ty hNN (st_ty hNN fo.1 fo.2 rfl).1 (st_ty hNN fo.1 fo.2 rfl).2 rfl).1 (st_ty hNN (st_ty hNN fo.1 fo.2 rfl).1 (st_ty hNN fo.1 fo.2 rfl).2 rfl).2 rfl).1 (st_ty hNN (st_ty hNN (st_ty hNN fo.1 fo.2 rfl).1 (st_ty hNN fo.1 fo.2 rfl).2 rfl).1 (st_ty hNN (st_ty hNN fo.1 fo.2 rfl).1 (st_ty hNN fo.1 fo.2 rfl).2 rfl).2 rfl).2 hi d_Opn_lookAtChunks_139 ?_
    have hF := hW.free hS hA
    refine va_callv (va_runV (C := R_Opn) (As := [.int (rA x (stC (stC (stC o 0) 5) 3) (rA x (stC (stC (stC o 0) 5) 10) l2))]) (rest := []) ⟨hx, hb, hml, hown, hT⟩ (k_Opn_readChunkTold l dC dI cI cB cJ cZ ad NN E tM tC kK kV hNN H.size o (rA x (stC (stC (stC o 0) 5) 3) (rA x (stC (stC (stC o 0) 5) 10) l2)) x fo hw) ⟨callB_of 1 hT (gwt_in w_6_145) rfl rfl rfl (hT _ w_1_10) (hT _ w_6_142) (by decide +kernel) ⟨Nat.le_trans (Nat.le_of_ble_eq_true rfl) hRf, Nat.le_trans (Nat.le_of_ble_eq_true rfl) hRl⟩, hT _ w_6_144, hT _ ws_37⟩ ⟨PVc.blind, va_recv hK hW.1 (ci := 7) (q0 := o) rfl (pic_obj fo.1 fo.2 (by decide)), PVc.at _ hW hK hN hE hS hF⟩ rfl rfl hl.1 rfl (lv_room (Nat.le_of_ble_eq_true rfl)) d_Opn_lookAtChunks_140 ⟨hRc, hRs⟩) hS (fun q _ h => hF q h) hF (fun  x13 t H locs ht hvm hw hB hz1 hk1 hS => ?_)
    have hW := Wd.back hB ht hF
    clear hB ht hF hz1 hk1 hvm
    refine lv_aload_n hx hb d_Opn_lookAtChunks_143 rfl (lv_at hl 0 rfl) ?_
    refine lv_iload_n hx hb d_Opn_lookAtChunks_144 rfl (lv_at hl 1 rfl) ?_
    refine lv_iload_n hx hb d_Opn_lookAtChunks_145 rfl (lv_at hl 2 rfl) ?_
    have hF := hW.free hS hA
    refine va_calli (va_runV (C := R_Opn) (As := [.int l1, .int l2]) (rest := []) ⟨hx, hb, hml, hown, hT⟩ (k_Opn_beginChunk l dC dI cI cB cJ cZ ad NN E tM tC kK kV hNN H.size o l1 l2 x13 fo hw) ⟨callB_of 2 hT (gwt_in w_6_175) rfl rfl rfl (hT _ w_1_10) (hT _ w_6_172) (by decide +kernel) ⟨Nat.le_trans (Nat.le_of_ble_eq_true rfl) hRf, Nat.le_trans (Nat.le_of_ble_eq_true rfl) hRl⟩, hT _ w_6_174, hT _ ws_38⟩ ⟨PVc.blind, va_recv hK hW.1 (ci := 7) (q0 := o) rfl (pic_obj fo.1 fo.2 (by decide)), PVc.at _ hW hK hN hE hS hF⟩ rfl rfl hl.1 rfl (lv_room (Nat.le_of_ble_eq_true rfl)) d_Opn_lookAtChunks_146 ⟨hRc, hRs⟩) hS (fun q _ h => hF q h) hF (fun r15 x14 t H locs ht hvm hw hB hz1 hk1 hS => ?_)
    have hW := Wd.back hB ht hF
    clear hB ht hF hz1 hk1 hvm
    refine lv_istore_n (lv' := [(3, .int r15), (0, .ref (ad o)), (1, .int l1), (2, .int l2)]) hx hb d_Opn_lookAtChunks_149 rfl hl (by decide) rfl (fun ls hl => ?_)
    refine lv_aload_n hx hb d_Opn_lookAtChunks_150 rfl (lv_at hl 1 rfl) ?_
    refine w_getf (q := (stC o 6)) (k := 6) (t := 7) (C := R_Opn) (T := F_Opn) (N := 17) hx hb hT hown hK hW fo.1 fo.2 (by decide) in_Opn rfl rfl (by decide) rfl fr_Opn_6 w_3_22 d_Opn_lookAtChunks_151 rfl ?_
    refine lv_iconst (v := 1) hx hb d_Opn_lookAtChunks_154 (by decide) ?_
    obtain ⟨hi, hw⟩ := hw
    refine w_lald (o := (stC o 6)) hx hb hK hW (st_ty hNN fo.1 fo.2 rfl).1 (st_ty hNN fo.1 fo.2 rfl).2 hi d_Opn_lookAtChunks_155 ?_
    refine lv_ldc2 hx hb hown (hT _ w_6_163) d_Opn_lookAtChunks_156 ?_
    have hF := hW.free hS hA
    refine va_calli (va_runSN (As := [.long (rL x14 (stC o 6) 1), .long 40000]) (rest := []) ⟨hx, hb, hml, hown, hT⟩ (k_V_within l dC dI cI cB cJ cZ ad NN E tM tC kK kV hNN H.size (rL x14 (stC o 6) 1) 40000 x14  hw) ⟨va_cnB 2 hT (gwt_in w_6_112) rfl rfl rfl (hN _ wn_6_110 rfl) (hT _ w_1_1) (by decide +kernel) ⟨Nat.le_trans (Nat.le_of_ble_eq_true rfl) hRf, Nat.le_trans (Nat.le_of_ble_eq_true rfl) hRl⟩, hT _ w_6_111, trivial⟩ ⟨PVc.blind, PVc.at _ hW hK hN hE hS hF⟩ rfl rfl hl.1 rfl (lv_room (Nat.le_of_ble_eq_true rfl)) d_Opn_lookAtChunks_159 ⟨hRc, hRs⟩) hS (fun q _ h => hF q h) hF (fun r17 x16 t H locs ht hvm hw hB hz1 hk1 hS => ?_)
    have hW := Wd.back hB ht hF
    clear hB ht hF hz1 hk1 hvm
    refine lv_if_eq (tgt := 174) hx hb d_Opn_lookAtChunks_162 (by decide) (fun c18 => ?_) (fun c18 => ?_)
    · have hw := hw.1 c18
      refine lv_ldc2 hx hb hown (hT _ w_6_180) d_Opn_lookAtChunks_174 ?_
      exact t_Opn_lookAtChunks_177 hx hb hml hown hT hK hN hA hRc hRs hRf hRl hNN hE hret hrec60 hrec102 o l1 l2 r15 40001 x16 H locs ls fo hw hW hS (lv_sub hl [1, 2, 3, 0] rfl)
    · have hw := hw.2 c18
      refine lv_aload_n hx hb d_Opn_lookAtChunks_165 rfl (lv_at hl 1 rfl) ?_
      refine w_getf (q := (stC o 6)) (k := 6) (t := 7) (C := R_Opn) (T := F_Opn) (N := 17) hx hb hT hown hK hW fo.1 fo.2 (by decide) in_Opn rfl rfl (by decide) rfl fr_Opn_6 w_3_22 d_Opn_lookAtChunks_166 rfl ?_
      refine lv_iconst (v := 1) hx hb d_Opn_lookAtChunks_169 (by decide) ?_
      obtain ⟨hi, hw⟩ := hw
      refine w_lald (o := (stC o 6)) hx hb hK hW (st_ty hNN fo.1 fo.2 rfl).1 (st_ty hNN fo.1 fo.2 rfl).2 hi d_Opn_lookAtChunks_170 ?_
      refine lv_goto (tgt := 177) hx hb d_Opn_lookAtChunks_171 (by decide) ?_
      exact t_Opn_lookAtChunks_177 hx hb hml hown hT hK hN hA hRc hRs hRf hRl hNN hE hret hrec60 hrec102 o l1 l2 r15 (rL x16 (stC o 6) 1) x16 H locs ls fo hw hW hS (lv_sub hl [1, 2, 3, 0] rfl)
set_option maxHeartbeats 4000000 in
set_option maxRecDepth 100000 in
theorem tl_Opn_lookAtChunks_102 {p : Program} {l : Launch} {e : Env} {R : Room} {s : State} {m : MethodId} {args : Array Value} {below : List Frame} {meth : Method} {c : Code} {cells slots : Nat} {Q : State → Prop} {dC : Nat → ClassId} {dI : Nat → Nat → Nat} {cI cB cJ cZ : ClassId} {A : Nat → Prop} {ad : Nat → Nat} {NN : Nat} {E : Heap} {tM tC : Nat} {kK kV : Nat → Nat} {post : Int32 → St → Prop} {rec60 : Nat → Int32 → St → Prop} (hx : p.tables.exec = Jvm.exec) (hb : c.code = b_Opn_lookAtChunks) (hml : c.maxLocals = 7) (hown : s.vm.findClass R_Opn = some m.cls) (hT : ∀ w ∈ TG, w.before args s = true) (hK : va_K (dC, dI) CL (TY cI cB cJ cZ) s) (hN : NW s) (hA : ∀ q : Nat, s.heap.size ≤ q → A q) (hRc : cells ≤ R.cells) (hRs : slots ≤ R.slots) (hRf : 7 ≤ R.frames) (hRl : 249 ≤ R.locals) (hNN : 152 ≤ NN) (hE : CE E tM tC kK kV A s) (hret : ∀ (r : Int32) (x : St) (H : Heap) (locs : List Loc) (pc : Nat) (ls : Array Slot), decode b_Opn_lookAtChunks pc = .ok (.ireturn, 1) → post r x → Wd dC dI cI cB cJ cZ ad stC kcC NN A x H → va_S A s.heap H locs → W p l e R s m args below meth c H locs cells slots Q (F0 m pc ls [.int r])) (hrec60 : ∀ (o : Nat) (l1 : Int32) (x : St) (H : Heap) (locs : List Loc) (ls : Array Slot), (o < NN ∧ kcC o = 7) → rec60 o l1 x → Wd dC dI cI cB cJ cZ ad stC kcC NN A x H → va_S A s.heap H locs → lv_has ls 7 [(0, .ref (ad o)), (1, .int l1)] → W p l e R s m args below meth c H locs cells slots Q (F0 m 60 ls [])) : ∀ n : Nat, ∀ (o : Nat) (l1 : Int32) (l2 : Int32) (x : St) (H : Heap) (locs : List Loc) (ls : Array Slot), (o < NN ∧ kcC o = 7) → wl_Opn_lookAtChunks_102 post rec60 n o l1 l2 x → Wd dC dI cI cB cJ cZ ad stC kcC NN A x H → va_S A s.heap H locs → lv_has ls 7 [(0, .ref (ad o)), (1, .int l1), (2, .int l2)] → W p l e R s m args below meth c H locs cells slots Q (F0 m 102 ls []) := by
  intro n
  induction n with
  | zero => intro o l1 l2 x H locs ls fo hw; exact hw.elim
  | succ n ih => intro o l1 l2 x H locs ls fo hw hW hS hl; exact t_Opn_lookAtChunks_102 hx hb hml hown hT hK hN hA hRc hRs hRf hRl hNN hE hret hrec60 ih o l1 l2 x H locs ls fo hw hW hS hl
set_option maxRecDepth 100000 in
set_option maxHeartbeats 4000000 in
set_option maxRecDepth 100000 in
theorem t_Opn_lookAtChunks_60 {p : Program} {l : Launch} {e : Env} {R : Room} {s : State} {m : MethodId} {args : Array Value} {below : List Frame} {meth : Method} {c : Code} {cells slots : Nat} {Q : State → Prop} {dC : Nat → ClassId} {dI : Nat → Nat → Nat} {cI cB cJ cZ : ClassId} {A : Nat → Prop} {ad : Nat → Nat} {NN : Nat} {E : Heap} {tM tC : Nat} {kK kV : Nat → Nat} {post : Int32 → St → Prop} {rec60 : Nat → Int32 → St → Prop} (hx : p.tables.exec = Jvm.exec) (hb : c.code = b_Opn_lookAtChunks) (hml : c.maxLocals = 7) (hown : s.vm.findClass R_Opn = some m.cls) (hT : ∀ w ∈ TG, w.before args s = true) (hK : va_K (dC, dI) CL (TY cI cB cJ cZ) s) (hN : NW s) (hA : ∀ q : Nat, s.heap.size ≤ q → A q) (hRc : cells ≤ R.cells) (hRs : slots ≤ R.slots) (hRf : 7 ≤ R.frames) (hRl : 249 ≤ R.locals) (hNN : 152 ≤ NN) (hE : CE E tM tC kK kV A s) (hret : ∀ (r : Int32) (x : St) (H : Heap) (locs : List Loc) (pc : Nat) (ls : Array Slot), decode b_Opn_lookAtChunks pc = .ok (.ireturn, 1) → post r x → Wd dC dI cI cB cJ cZ ad stC kcC NN A x H → va_S A s.heap H locs → W p l e R s m args below meth c H locs cells slots Q (F0 m pc ls [.int r])) (hrec60 : ∀ (o : Nat) (l1 : Int32) (x : St) (H : Heap) (locs : List Loc) (ls : Array Slot), (o < NN ∧ kcC o = 7) → rec60 o l1 x → Wd dC dI cI cB cJ cZ ad stC kcC NN A x H → va_S A s.heap H locs → lv_has ls 7 [(0, .ref (ad o)), (1, .int l1)] → W p l e R s m args below meth c H locs cells slots Q (F0 m 60 ls [])) : ∀ (o : Nat) (l1 : Int32) (x : St) (H : Heap) (locs : List Loc) (ls : Array Slot), (o < NN ∧ kcC o = 7) → j_Opn_lookAtChunks_60 post rec60 o l1 x → Wd dC dI cI cB cJ cZ ad stC kcC NN A x H → va_S A s.heap H locs → lv_has ls 7 [(0, .ref (ad o)), (1, .int l1)] → W p l e R s m args below meth c H locs cells slots Q (F0 m 60 ls []) := by
  intro o l1 x H locs ls fo hw hW hS hl
  unfold j_Opn_lookAtChunks_60 at hw
  refine lv_iload_n hx hb d_Opn_lookAtChunks_60 rfl (lv_at hl 1 rfl) ?_
  refine lv_aload_n hx hb d_Opn_lookAtChunks_61 rfl (lv_at hl 0 rfl) ?_
  refine w_getf (q := (stC o 0)) (k := 0) (t := 7) (C := R_Opn) (T := F_Opn) (N := 17) hx hb hT hown hK hW fo.1 fo.2 (by decide) in_Opn rfl rfl (by decide) rfl fr_Opn_0 w_3_15 d_Opn_lookAtChunks_62 rfl ?_
  refine w_geti (k := 2) (t := 6) (C := R_Vlt) (T := F_Vlt) (N := 20) hx hb hT hown hK hW (st_ty hNN fo.1 fo.2 rfl).1 (st_ty hNN fo.1 fo.2 rfl).2 (by decide) in_Vlt rfl rfl (by decide) rfl fr_Vlt_2 w_2_127 d_Opn_lookAtChunks_65 ?_
  refine lv_icmp_ge (tgt := 290) hx hb d_Opn_lookAtChunks_68 (by decide) (fun c19 => ?_) (fun c19 => ?_)
  · have hw := hw.1 c19
    refine lv_aload_n hx hb d_Opn_lookAtChunks_290 rfl (lv_at hl 0 rfl) ?_
    refine w_getf (q := (stC o 0)) (k := 0) (t := 7) (C := R_Opn) (T := F_Opn) (N := 17) hx hb hT hown hK hW fo.1 fo.2 (by decide) in_Opn rfl rfl (by decide) rfl fr_Opn_0 w_3_15 d_Opn_lookAtChunks_291 rfl ?_
    refine w_getf (q := (stC (stC o 0) 7)) (k := 7) (t := 6) (C := R_Vlt) (T := F_Vlt) (N := 20) hx hb hT hown hK hW (st_ty hNN fo.1 fo.2 rfl).1 (st_ty hNN fo.1 fo.2 rfl).2 (by decide) in_Vlt rfl rfl (by decide) rfl fr_Vlt_7 w_2_146 d_Opn_lookAtChunks_294 rfl ?_
    refine lv_aload_n hx hb d_Opn_lookAtChunks_297 rfl (lv_at hl 0 rfl) ?_
    refine w_getf (q := (stC o 0)) (k := 0) (t := 7) (C := R_Opn) (T := F_Opn) (N := 17) hx hb hT hown hK hW fo.1 fo.2 (by decide) in_Opn rfl rfl (by decide) rfl fr_Opn_0 w_3_15 d_Opn_lookAtChunks_298 rfl ?_
    refine w_geti (k := 4) (t := 6) (C := R_Vlt) (T := F_Vlt) (N := 20) hx hb hT hown hK hW (st_ty hNN fo.1 fo.2 rfl).1 (st_ty hNN fo.1 fo.2 rfl).2 (by decide) in_Vlt rfl rfl (by decide) rfl fr_Vlt_4 w_2_133 d_Opn_lookAtChunks_301 ?_
    refine lv_iconst (v := 0) hx hb d_Opn_lookAtChunks_304 (by decide) ?_
    obtain ⟨hi, hw⟩ := hw
    refine w_bast (o := (stC (stC o 0) 7)) hx hb hK hW hS (st_ty hNN (st_ty hNN fo.1 fo.2 rfl).1 (st_ty hNN fo.1 fo.2 rfl).2 rfl).1 (st_ty hNN (st_ty hNN fo.1 fo.2 rfl).1 (st_ty hNN fo.1 fo.2 rfl).2 rfl).2 hi d_Opn_lookAtChunks_305 (fun H locs hW hS => ?_)
    obtain ⟨x20, ex20⟩ : ∃ y : St, y = setA x (stC (stC o 0) 7) (fI x (stC o 0) 4) (vp_nar .byte 0) := ⟨_, rfl⟩
    rw [← ex20] at hW
    have hw := hw x20 ex20
    refine lv_aload_n hx hb d_Opn_lookAtChunks_306 rfl (lv_at hl 0 rfl) ?_
    refine lv_iconst (v := (-1)) hx hb d_Opn_lookAtChunks_307 (by decide) ?_
    refine lv_iconst (v := (-1)) hx hb d_Opn_lookAtChunks_308 (by decide) ?_
    refine lv_iconst (v := (-1)) hx hb d_Opn_lookAtChunks_309 (by decide) ?_
    have hF := hW.free hS hA
    refine va_callv (va_runV (C := R_Opn) (As := [.int (-1), .int (-1), .int (-1)]) (rest := []) ⟨hx, hb, hml, hown, hT⟩ (k_Opn_lookAt l dC dI cI cB cJ cZ ad NN E tM tC kK kV hNN H.size o (-1) (-1) (-1) x20 fo hw) ⟨callB_of 3 hT (gwt_in w_6_81) rfl rfl rfl (hT _ w_1_10) (hT _ w_6_78) (by decide +kernel) ⟨Nat.le_trans (Nat.le_of_ble_eq_true rfl) hRf, Nat.le_trans (Nat.le_of_ble_eq_true rfl) hRl⟩, hT _ w_6_80, hT _ ws_33⟩ ⟨PVc.blind, va_recv hK hW.1 (ci := 7) (q0 := o) rfl (pic_obj fo.1 fo.2 (by decide)), PVc.at _ hW hK hN hE hS hF⟩ rfl rfl hl.1 rfl (lv_room (Nat.le_of_ble_eq_true rfl)) d_Opn_lookAtChunks_310 ⟨hRc, hRs⟩) hS (fun q _ h => hF q h) hF (fun  x21 t H locs ht hvm hw hB hz1 hk1 hS => ?_)
    have hW := Wd.back hB ht hF
    clear hB ht hF hz1 hk1 hvm
    refine lv_iconst (v := 0) hx hb d_Opn_lookAtChunks_313 (by decide) ?_
    exact hret 0 x21 H locs 314 ls d_Opn_lookAtChunks_314 hw hW hS
  · have hw := hw.2 c19
    refine lv_aload_n hx hb d_Opn_lookAtChunks_71 rfl (lv_at hl 0 rfl) ?_
    refine w_getf (q := (stC o 0)) (k := 0) (t := 7) (C := R_Opn) (T := F_Opn) (N := 17) hx hb hT hown hK hW fo.1 fo.2 (by decide) in_Opn rfl rfl (by decide) rfl fr_Opn_0 w_3_15 d_Opn_lookAtChunks_72 rfl ?_
    refine w_getf (q := (stC (stC o 0) 11)) (k := 11) (t := 6) (C := R_Vlt) (T := F_Vlt) (N := 20) hx hb hT hown hK hW (st_ty hNN fo.1 fo.2 rfl).1 (st_ty hNN fo.1 fo.2 rfl).2 (by decide) in_Vlt rfl rfl (by decide) rfl fr_Vlt_11 w_2_157 d_Opn_lookAtChunks_75 rfl ?_
    refine lv_iload_n hx hb d_Opn_lookAtChunks_78 rfl (lv_at hl 1 rfl) ?_
    refine lv_iconst (v := 1) hx hb d_Opn_lookAtChunks_79 (by decide) ?_
    refine lv_iadd hx hb d_Opn_lookAtChunks_80 ?_
    refine lv_aload_n hx hb d_Opn_lookAtChunks_81 rfl (lv_at hl 0 rfl) ?_
    refine w_getf (q := (stC o 0)) (k := 0) (t := 7) (C := R_Opn) (T := F_Opn) (N := 17) hx hb hT hown hK hW fo.1 fo.2 (by decide) in_Opn rfl rfl (by decide) rfl fr_Opn_0 w_3_15 d_Opn_lookAtChunks_82 rfl ?_
    refine w_getf (q := (stC (stC o 0) 11)) (k := 11) (t := 6) (C := R_Vlt) (T := F_Vlt) (N := 20) hx hb hT hown hK hW (st_ty hNN fo.1 fo.2 rfl).1 (st_ty hNN fo.1 fo.2 rfl).2 (by decide) in_Vlt rfl rfl (by decide) rfl fr_Vlt_11 w_2_157 d_Opn_lookAtChunks_85 rfl ?_
    refine lv_iload_n hx hb d_Opn_lookAtChunks_88 rfl (lv_at hl 1 rfl) ?_
    obtain ⟨hi, hw⟩ := hw
    refine w_iald (o := (stC (stC o 0) 11)) hx hb hK hW (st_ty hNN (st_ty hNN fo.1 fo.2 rfl).1 (st_ty hNN fo.1 fo.2 rfl).2 rfl).1 (st_ty hNN (st_ty hNN fo.1 fo.2 rfl).1 (st_ty hNN fo.1 fo.2 rfl).2 rfl).2 hi d_Opn_lookAtChunks_89 ?_
    refine lv_aload_n hx hb d_Opn_lookAtChunks_90 rfl (lv_at hl 0 rfl) ?_
    refine w_getf (q := (stC o 1)) (k := 1) (t := 7) (C := R_Opn) (T := F_Opn) (N := 17) hx hb hT hown hK hW fo.1 fo.2 (by decide) in_Opn rfl rfl (by decide) rfl fr_Opn_1 w_3_16 d_Opn_lookAtChunks_91 rfl ?_
    have hF := hW.free hS hA
    refine va_calll (va_runV (C := R_Src) (As := []) (rest := [.int (rA x (stC (stC o 0) 11) l1), .int (l1 + 1), .ref (ad (stC (stC o 0) 11))]) ⟨hx, hb, hml, hown, hT⟩ (k_Src_readVarint l dC dI cI cB cJ cZ ad NN E tM tC kK kV hNN H.size (stC o 1) x (st_ty hNN fo.1 fo.2 rfl) hw) ⟨callB_of 0 hT (gwt_in w_6_108) rfl rfl rfl (hT _ w_1_11) (hT _ w_6_105) (by decide +kernel) ⟨Nat.le_trans (Nat.le_of_ble_eq_true rfl) hRf, Nat.le_trans (Nat.le_of_ble_eq_true rfl) hRl⟩, hT _ w_6_106, hT _ w_6_107⟩ ⟨PVc.blind, va_recv hK hW.1 (ci := 8) (q0 := (stC o 1)) rfl (pic_obj (st_ty hNN fo.1 fo.2 rfl).1 (st_ty hNN fo.1 fo.2 rfl).2 (by decide)), PVc.at _ hW hK hN hE hS hF⟩ rfl rfl hl.1 rfl (lv_room (Nat.le_of_ble_eq_true rfl)) d_Opn_lookAtChunks_94 ⟨hRc, hRs⟩) hS (fun q _ h => hF q h) hF (fun r23 x22 t H locs ht hvm hw hB hz1 hk1 hS => ?_)
    have hW := Wd.back hB ht hF
    clear hB ht hF hz1 hk1 hvm
    refine lv_l2i hx hb d_Opn_lookAtChunks_97 rfl ?_
    refine lv_iadd hx hb d_Opn_lookAtChunks_98 ?_
    obtain ⟨hi, hw⟩ := hw
    refine w_iast (o := (stC (stC o 0) 11)) hx hb hK hW hS (st_ty hNN (st_ty hNN fo.1 fo.2 rfl).1 (st_ty hNN fo.1 fo.2 rfl).2 rfl).1 (st_ty hNN (st_ty hNN fo.1 fo.2 rfl).1 (st_ty hNN fo.1 fo.2 rfl).2 rfl).2 hi d_Opn_lookAtChunks_99 (fun H locs hW hS => ?_)
    obtain ⟨x24, ex24⟩ : ∃ y : St, y = setA x22 (stC (stC o 0) 11) (l1 + 1) ((rA x (stC (stC o 0) 11) l1) + (r23 : Int64).toInt32) := ⟨_, rfl⟩
    rw [← ex24] at hW
    have hw := hw x24 ex24
    refine lv_iconst (v := 0) hx hb d_Opn_lookAtChunks_100 (by decide) ?_
    refine lv_istore_n (lv' := [(2, .int 0), (0, .ref (ad o)), (1, .int l1)]) hx hb d_Opn_lookAtChunks_101 rfl hl (by decide) rfl (fun ls hl => ?_)
    obtain ⟨n, hw⟩ := hw
    exact tl_Opn_lookAtChunks_102 hx hb hml hown hT hK hN hA hRc hRs hRf hRl hNN hE hret hrec60 n o l1 0 x24 H locs ls fo hw hW hS (lv_sub hl [1, 2, 0] rfl)
set_option maxHeartbeats 4000000 in
set_option maxRecDepth 100000 in
theorem tl_Opn_lookAtChunks_60 {p : Program} {l : Launch} {e : Env} {R : Room} {s : State} {m : MethodId} {args : Array Value} {below : List Frame} {meth : Method} {c : Code} {cells slots : Nat} {Q : State → Prop} {dC : Nat → ClassId} {dI : Nat → Nat → Nat} {cI cB cJ cZ : ClassId} {A : Nat → Prop} {ad : Nat → Nat} {NN : Nat} {E : Heap} {tM tC : Nat} {kK kV : Nat → Nat} {post : Int32 → St → Prop} (hx : p.tables.exec = Jvm.exec) (hb : c.code = b_Opn_lookAtChunks) (hml : c.maxLocals = 7) (hown : s.vm.findClass R_Opn = some m.cls) (hT : ∀ w ∈ TG, w.before args s = true) (hK : va_K (dC, dI) CL (TY cI cB cJ cZ) s) (hN : NW s) (hA : ∀ q : Nat, s.heap.size ≤ q → A q) (hRc : cells ≤ R.cells) (hRs : slots ≤ R.slots) (hRf : 7 ≤ R.frames) (hRl : 249 ≤ R.locals) (hNN : 152 ≤ NN) (hE : CE E tM tC kK kV A s) (hret : ∀ (r : Int32) (x : St) (H : Heap) (locs : List Loc) (pc : Nat) (ls : Array Slot), decode b_Opn_lookAtChunks pc = .ok (.ireturn, 1) → post r x → Wd dC dI cI cB cJ cZ ad stC kcC NN A x H → va_S A s.heap H locs → W p l e R s m args below meth c H locs cells slots Q (F0 m pc ls [.int r]))  : ∀ n : Nat, ∀ (o : Nat) (l1 : Int32) (x : St) (H : Heap) (locs : List Loc) (ls : Array Slot), (o < NN ∧ kcC o = 7) → wl_Opn_lookAtChunks_60 post n o l1 x → Wd dC dI cI cB cJ cZ ad stC kcC NN A x H → va_S A s.heap H locs → lv_has ls 7 [(0, .ref (ad o)), (1, .int l1)] → W p l e R s m args below meth c H locs cells slots Q (F0 m 60 ls []) := by
  intro n
  induction n with
  | zero => intro o l1 x H locs ls fo hw; exact hw.elim
  | succ n ih => intro o l1 x H locs ls fo hw hW hS hl; exact t_Opn_lookAtChunks_60 hx hb hml hown hT hK hN hA hRc hRs hRf hRl hNN hE hret  ih o l1 x H locs ls fo hw hW hS hl
set_option maxRecDepth 100000 in
set_option maxHeartbeats 4000000 in
set_option maxRecDepth 100000 in
theorem t_Opn_lookAtChunks_e {p : Program} {l : Launch} {e : Env} {R : Room} {s : State} {m : MethodId} {args : Array Value} {below : List Frame} {meth : Method} {c : Code} {cells slots : Nat} {Q : State → Prop} {dC : Nat → ClassId} {dI : Nat → Nat → Nat} {cI cB cJ cZ : ClassId} {A : Nat → Prop} {ad : Nat → Nat} {NN : Nat} {E : Heap} {tM tC : Nat} {kK kV : Nat → Nat} {post : Int32 → St → Prop} (hx : p.tables.exec = Jvm.exec) (hb : c.code = b_Opn_lookAtChunks) (hml : c.maxLocals = 7) (hown : s.vm.findClass R_Opn = some m.cls) (hT : ∀ w ∈ TG, w.before args s = true) (hK : va_K (dC, dI) CL (TY cI cB cJ cZ) s) (hN : NW s) (hA : ∀ q : Nat, s.heap.size ≤ q → A q) (hRc : cells ≤ R.cells) (hRs : slots ≤ R.slots) (hRf : 7 ≤ R.frames) (hRl : 249 ≤ R.locals) (hNN : 152 ≤ NN) (hE : CE E tM tC kK kV A s) (hret : ∀ (r : Int32) (x : St) (H : Heap) (locs : List Loc) (pc : Nat) (ls : Array Slot), decode b_Opn_lookAtChunks pc = .ok (.ireturn, 1) → post r x → Wd dC dI cI cB cJ cZ ad stC kcC NN A x H → va_S A s.heap H locs → W p l e R s m args below meth c H locs cells slots Q (F0 m pc ls [.int r])) : ∀ (o : Nat) (x : St) (H : Heap) (locs : List Loc) (ls : Array Slot), (o < NN ∧ kcC o = 7) → wp_Opn_lookAtChunks post o x → Wd dC dI cI cB cJ cZ ad stC kcC NN A x H → va_S A s.heap H locs → lv_has ls 7 [(0, .ref (ad o))] → W p l e R s m args below meth c H locs cells slots Q (F0 m 0 ls []) := by
  intro o x H locs ls fo hw hW hS hl
  unfold wp_Opn_lookAtChunks at hw
  refine lv_aload_n hx hb d_Opn_lookAtChunks_0 rfl (lv_at hl 0 rfl) ?_
  refine w_getf (q := (stC o 0)) (k := 0) (t := 7) (C := R_Opn) (T := F_Opn) (N := 17) hx hb hT hown hK hW fo.1 fo.2 (by decide) in_Opn rfl rfl (by decide) rfl fr_Opn_0 w_3_15 d_Opn_lookAtChunks_1 rfl ?_
  refine lv_iconst (v := 0) hx hb d_Opn_lookAtChunks_4 (by decide) ?_
  refine w_puti (ty := .int) (k := 4) (t := 6) (C := R_Vlt) (T := F_Vlt) (N := 20) hx hb hT hown hK hW hS (st_ty hNN fo.1 fo.2 rfl).1 (st_ty hNN fo.1 fo.2 rfl).2 (by decide) in_Vlt t_Vlt t_Vlt_ok n_Vlt rfl rfl (by decide) rfl fr_Vlt_4 w_2_133 (by decide +kernel) rfl rfl d_Opn_lookAtChunks_5 (fun H locs hW hS => ?_)
  obtain ⟨x25, ex25⟩ : ∃ y : St, y = setI x (stC o 0) 4 0 := ⟨_, rfl⟩
  rw [← ex25] at hW
  have hw := hw x25 ex25
  refine lv_aload_n hx hb d_Opn_lookAtChunks_8 rfl (lv_at hl 0 rfl) ?_
  refine w_getf (q := (stC o 0)) (k := 0) (t := 7) (C := R_Opn) (T := F_Opn) (N := 17) hx hb hT hown hK hW fo.1 fo.2 (by decide) in_Opn rfl rfl (by decide) rfl fr_Opn_0 w_3_15 d_Opn_lookAtChunks_9 rfl ?_
  refine lv_iconst (v := 0) hx hb d_Opn_lookAtChunks_12 (by decide) ?_
  refine w_puti (ty := .int) (k := 3) (t := 6) (C := R_Vlt) (T := F_Vlt) (N := 20) hx hb hT hown hK hW hS (st_ty hNN fo.1 fo.2 rfl).1 (st_ty hNN fo.1 fo.2 rfl).2 (by decide) in_Vlt t_Vlt t_Vlt_ok n_Vlt rfl rfl (by decide) rfl fr_Vlt_3 w_2_130 (by decide +kernel) rfl rfl d_Opn_lookAtChunks_13 (fun H locs hW hS => ?_)
  obtain ⟨x26, ex26⟩ : ∃ y : St, y = setI x25 (stC o 0) 3 0 := ⟨_, rfl⟩
  rw [← ex26] at hW
  have hw := hw x26 ex26
  refine lv_aload_n hx hb d_Opn_lookAtChunks_16 rfl (lv_at hl 0 rfl) ?_
  refine w_getf (q := (stC o 0)) (k := 0) (t := 7) (C := R_Opn) (T := F_Opn) (N := 17) hx hb hT hown hK hW fo.1 fo.2 (by decide) in_Opn rfl rfl (by decide) rfl fr_Opn_0 w_3_15 d_Opn_lookAtChunks_17 rfl ?_
  refine w_getf (q := (stC (stC o 0) 11)) (k := 11) (t := 6) (C := R_Vlt) (T := F_Vlt) (N := 20) hx hb hT hown hK hW (st_ty hNN fo.1 fo.2 rfl).1 (st_ty hNN fo.1 fo.2 rfl).2 (by decide) in_Vlt rfl rfl (by decide) rfl fr_Vlt_11 w_2_157 d_Opn_lookAtChunks_20 rfl ?_
  refine lv_iconst (v := 0) hx hb d_Opn_lookAtChunks_23 (by decide) ?_
  refine lv_iconst (v := 0) hx hb d_Opn_lookAtChunks_24 (by decide) ?_
  obtain ⟨hi, hw⟩ := hw
  refine w_iast (o := (stC (stC o 0) 11)) hx hb hK hW hS (st_ty hNN (st_ty hNN fo.1 fo.2 rfl).1 (st_ty hNN fo.1 fo.2 rfl).2 rfl).1 (st_ty hNN (st_ty hNN fo.1 fo.2 rfl).1 (st_ty hNN fo.1 fo.2 rfl).2 rfl).2 hi d_Opn_lookAtChunks_25 (fun H locs hW hS => ?_)
  obtain ⟨x27, ex27⟩ : ∃ y : St, y = setA x26 (stC (stC o 0) 11) 0 0 := ⟨_, rfl⟩
  rw [← ex27] at hW
  have hw := hw x27 ex27
  refine lv_aload_n hx hb d_Opn_lookAtChunks_26 rfl (lv_at hl 0 rfl) ?_
  refine lv_iconst (v := 0) hx hb d_Opn_lookAtChunks_27 (by decide) ?_
  refine w_puti (ty := .int) (k := 10) (t := 7) (C := R_Opn) (T := F_Opn) (N := 17) hx hb hT hown hK hW hS fo.1 fo.2 (by decide) in_Opn t_Opn t_Opn_ok n_Opn rfl rfl (by decide) rfl fr_Opn_10 w_3_26 (by decide +kernel) rfl rfl d_Opn_lookAtChunks_28 (fun H locs hW hS => ?_)
  obtain ⟨x28, ex28⟩ : ∃ y : St, y = setI x27 o 10 0 := ⟨_, rfl⟩
  rw [← ex28] at hW
  have hw := hw x28 ex28
  refine lv_aload_n hx hb d_Opn_lookAtChunks_31 rfl (lv_at hl 0 rfl) ?_
  refine lv_iconst (v := 0) hx hb d_Opn_lookAtChunks_32 (by decide) ?_
  refine w_puti (ty := .int) (k := 13) (t := 7) (C := R_Opn) (T := F_Opn) (N := 17) hx hb hT hown hK hW hS fo.1 fo.2 (by decide) in_Opn t_Opn t_Opn_ok n_Opn rfl rfl (by decide) rfl fr_Opn_13 w_3_29 (by decide +kernel) rfl rfl d_Opn_lookAtChunks_33 (fun H locs hW hS => ?_)
  obtain ⟨x29, ex29⟩ : ∃ y : St, y = setI x28 o 13 0 := ⟨_, rfl⟩
  rw [← ex29] at hW
  have hw := hw x29 ex29
  refine lv_aload_n hx hb d_Opn_lookAtChunks_36 rfl (lv_at hl 0 rfl) ?_
  refine lv_ldc hx hb hown (hT _ w_6_82) d_Opn_lookAtChunks_37 ?_
  refine w_puti (ty := .int) (k := 14) (t := 7) (C := R_Opn) (T := F_Opn) (N := 17) hx hb hT hown hK hW hS fo.1 fo.2 (by decide) in_Opn t_Opn t_Opn_ok n_Opn rfl rfl (by decide) rfl fr_Opn_14 w_3_30 (by decide +kernel) rfl rfl d_Opn_lookAtChunks_39 (fun H locs hW hS => ?_)
  obtain ⟨x30, ex30⟩ : ∃ y : St, y = setI x29 o 14 40000 := ⟨_, rfl⟩
  rw [← ex30] at hW
  have hw := hw x30 ex30
  refine lv_aload_n hx hb d_Opn_lookAtChunks_42 rfl (lv_at hl 0 rfl) ?_
  refine lv_iconst (v := 0) hx hb d_Opn_lookAtChunks_43 (by decide) ?_
  refine w_puti (ty := .int) (k := 16) (t := 7) (C := R_Opn) (T := F_Opn) (N := 17) hx hb hT hown hK hW hS fo.1 fo.2 (by decide) in_Opn t_Opn t_Opn_ok n_Opn rfl rfl (by decide) rfl fr_Opn_16 w_3_32 (by decide +kernel) rfl rfl d_Opn_lookAtChunks_44 (fun H locs hW hS => ?_)
  obtain ⟨x31, ex31⟩ : ∃ y : St, y = setI x30 o 16 0 := ⟨_, rfl⟩
  rw [← ex31] at hW
  have hw := hw x31 ex31
  refine lv_aload_n hx hb d_Opn_lookAtChunks_47 rfl (lv_at hl 0 rfl) ?_
  refine w_getf (q := (stC o 1)) (k := 1) (t := 7) (C := R_Opn) (T := F_Opn) (N := 17) hx hb hT hown hK hW fo.1 fo.2 (by decide) in_Opn rfl rfl (by decide) rfl fr_Opn_1 w_3_16 d_Opn_lookAtChunks_48 rfl ?_
  refine lv_aload_n hx hb d_Opn_lookAtChunks_51 rfl (lv_at hl 0 rfl) ?_
  refine w_geti (k := 5) (t := 7) (C := R_Opn) (T := F_Opn) (N := 17) hx hb hT hown hK hW fo.1 fo.2 (by decide) in_Opn rfl rfl (by decide) rfl fr_Opn_5 w_3_21 d_Opn_lookAtChunks_52 ?_
  refine w_puti (ty := .int) (k := 1) (t := 8) (C := R_Src) (T := F_Src) (N := 5) hx hb hT hown hK hW hS (st_ty hNN fo.1 fo.2 rfl).1 (st_ty hNN fo.1 fo.2 rfl).2 (by decide) in_Src t_Src t_Src_ok n_Src rfl rfl (by decide) rfl fr_Src_1 w_2_238 (by decide +kernel) rfl rfl d_Opn_lookAtChunks_55 (fun H locs hW hS => ?_)
  obtain ⟨x32, ex32⟩ : ∃ y : St, y = setI x31 (stC o 1) 1 (fI x31 o 5) := ⟨_, rfl⟩
  rw [← ex32] at hW
  have hw := hw x32 ex32
  refine lv_iconst (v := 0) hx hb d_Opn_lookAtChunks_58 (by decide) ?_
  refine lv_istore_n (lv' := [(1, .int 0), (0, .ref (ad o))]) hx hb d_Opn_lookAtChunks_59 rfl hl (by decide) rfl (fun ls hl => ?_)
  obtain ⟨n, hw⟩ := hw
  exact tl_Opn_lookAtChunks_60 hx hb hml hown hT hK hN hA hRc hRs hRf hRl hNN hE hret  n o 0 x32 H locs ls fo hw hW hS (lv_sub hl [1, 0] rfl)
set_option maxHeartbeats 4000000 in
set_option maxRecDepth 100000 in
theorem k_Opn_lookAtChunks (l : Launch) (dC : Nat → ClassId) (dI : Nat → Nat → Nat) (cI cB cJ cZ : ClassId) (ad : Nat → Nat) (NN : Nat) (E : Heap) (tM tC : Nat) (kK kV : Nat → Nat) (hNN : 152 ≤ NN) (sz : Nat) (o : Nat) (x : St) (fo : o < NN ∧ kcC o = 7) {post : Int32 → St → Prop} (hw : wp_Opn_lookAtChunks post o x) : Met l y_Opn_lookAtChunks (wsOf y_Opn_lookAtChunks b_Opn_lookAtChunks 7 (some (.int))) ({ frames := 7, cells := 0, slots := 0, locals := 249 }) (va_Pc [.ref (ad o)] (PVc dC dI cI cB cJ cZ ad stC kcC NN E tM tC kK kV sz x)) (va_Qi (fun (r : Int32) (y : St) => post r y) (fun y t => Wd dC dI cI cB cJ cZ ad stC kcC NN (va_A (pic ad stC kcC NN cI cB cJ cZ x) sz) y t.heap) (va_A (pic ad stC kcC NN cI cB cJ cZ x) sz)) 0 0 (va_A (pic ad stC kcC NN cI cB cJ cZ x) sz) := by
  refine Met.ofW (cc := b_Opn_lookAtChunks) (maxL := 7) (ret := some (.int)) (by decide) rfl ?_
  intro p e s m args below meth c s₁ B hml hv
  obtain ⟨rfl, ⟨hsz, hW0, hK, hN⟩, hE⟩ := hv
  have hx := B.exec
  have hb := B.bytes
  have hr := B.returns
  have hts := atoms_spec B.pre
  have hT : ∀ w ∈ TG, w.before _ s = true := fun w h => hts w (List.mem_cons_of_mem _ h)
  have hown : s.vm.findClass R_Opn = some m.cls := findClass_of_methodNamed B.named
  have hlocks := B.notSynchronized
  subst hsz
  have hW : Wd dC dI cI cB cJ cZ ad stC kcC NN (va_A (pic ad stC kcC NN cI cB cJ cZ x) s.heap.size) x s.heap := ⟨hW0.1, hW0.2.1.self (sz := s.heap.size), hW0.2.2⟩
  generalize hAe : va_A (pic ad stC kcC NN cI cB cJ cZ x) s.heap.size = A at hW hE ⊢
  have hA : ∀ q : Nat, s.heap.size ≤ q → A q := fun q h => by rw [← hAe]; exact Or.inr h
  have hS : va_S A s.heap s.heap [] := va_S.rf
  have hl := lv_entry ([.ref (ad o)]) (n := 7) (Nat.le_of_ble_eq_true rfl)
  rw [lg_entry_eq]
  generalize (lg_sl ([.ref (ad o)]) ++ List.replicate (7 - (lg_sl ([.ref (ad o)])).length) Slot.unset).toArray = ls at hl ⊢
  have hl : lv_has ls 7 [(0, .ref (ad o))] := hl
  exact t_Opn_lookAtChunks_e hx hb hml hown hT hK hN hA (Nat.le_refl 0) (Nat.le_refl 0) (Nat.le_refl 7) (Nat.le_refl 249) hNN hE (fun r x H locs pc ls hd hp hW hS => W.iret (v := r) hx hb hr (fun t ht hM => ⟨⟨r, x, rfl, hp, Wd.back hW ht.symm (fun _ z => z)⟩, hS.F ht⟩) hS.2.2 hd hlocks)  o x _ _ ls fo hw hW hS hl
end
