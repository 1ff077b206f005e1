theorem w_6_185 : (Jvm.Cond.methodLink "StripedVault$Opener" (249 : Nat) ({ cls := "StripedVault$Opener", name := "readPageHead", desc := "(II)I" } : Jvm.MethodName)) ∈ TG := tw_6 185 (by decide +kernel) (by decide +kernel)
theorem w_6_187 : (Jvm.Cond.instanceMethod ({ cls := "StripedVault$Opener", name := "readPageHead", desc := "(II)I" } : Jvm.MethodName)) ∈ TG := tw_6 187 (by decide +kernel) (by decide +kernel)
theorem w_6_188 : (Jvm.Cond.code ({ cls := "StripedVault$Opener", name := "readPageHead", desc := "(II)I" } : Jvm.MethodName) prog_4_method_14_code (11 : Nat) (Option.some Jvm.ClassFile.FieldType.int)) ∈ TG := tw_6 188 (by decide +kernel) (by decide +kernel)
theorem w_6_194 : (Jvm.Cond.methodLink "StripedVault$Opener" (254 : Nat) ({ cls := "StripedVault$Opener", name := "readLevels", desc := "([BII)V" } : Jvm.MethodName)) ∈ TG := tw_6 194 (by decide +kernel) (by decide +kernel)
theorem w_6_196 : (Jvm.Cond.instanceMethod ({ cls := "StripedVault$Opener", name := "readLevels", desc := "([BII)V" } : Jvm.MethodName)) ∈ TG := tw_6 196 (by decide +kernel) (by decide +kernel)
theorem w_6_197 : (Jvm.Cond.code ({ cls := "StripedVault$Opener", name := "readLevels", desc := "([BII)V" } : Jvm.MethodName) prog_4_method_15_code (7 : Nat) (Option.none : Option Jvm.ClassFile.FieldType)) ∈ TG := tw_6 197 (by decide +kernel) (by decide +kernel)
theorem w_6_216 : (Jvm.Cond.methodLink "StripedVault$Opener" (263 : Nat) ({ cls := "StripedVault$Opener", name := "countNulls", desc := "(II)I" } : Jvm.MethodName)) ∈ TG := tw_6 216 (by decide +kernel) (by decide +kernel)
theorem w_6_218 : (Jvm.Cond.instanceMethod ({ cls := "StripedVault$Opener", name := "countNulls", desc := "(II)I" } : Jvm.MethodName)) ∈ TG := tw_6 218 (by decide +kernel) (by decide +kernel)
theorem w_6_219 : (Jvm.Cond.code ({ cls := "StripedVault$Opener", name := "countNulls", desc := "(II)I" } : Jvm.MethodName) prog_4_method_16_code (5 : Nat) (Option.some Jvm.ClassFile.FieldType.int)) ∈ TG := tw_6 219 (by decide +kernel) (by decide +kernel)
theorem w_6_220 : (Jvm.Cond.methodLink "StripedVault$Opener" (272 : Nat) ({ cls := "StripedVault$Opener", name := "readValues", desc := "(III)V" } : Jvm.MethodName)) ∈ TG := tw_6 220 (by decide +kernel) (by decide +kernel)
theorem w_6_222 : (Jvm.Cond.instanceMethod ({ cls := "StripedVault$Opener", name := "readValues", desc := "(III)V" } : Jvm.MethodName)) ∈ TG := tw_6 222 (by decide +kernel) (by decide +kernel)
theorem w_6_223 : (Jvm.Cond.code ({ cls := "StripedVault$Opener", name := "readValues", desc := "(III)V" } : Jvm.MethodName) prog_4_method_17_code (5 : Nat) (Option.none : Option Jvm.ClassFile.FieldType)) ∈ TG := tw_6 223 (by decide +kernel) (by decide +kernel)
theorem w_7_25 : (Jvm.Cond.methodLink "StripedVault$Opener" (275 : Nat) ({ cls := "StripedVault$Opener", name := "checkBounds", desc := "(II)V" } : Jvm.MethodName)) ∈ TG := tw_7 25 (by decide +kernel) (by decide +kernel)
theorem w_7_27 : (Jvm.Cond.instanceMethod ({ cls := "StripedVault$Opener", name := "checkBounds", desc := "(II)V" } : Jvm.MethodName)) ∈ TG := tw_7 27 (by decide +kernel) (by decide +kernel)
theorem w_7_28 : (Jvm.Cond.code ({ cls := "StripedVault$Opener", name := "checkBounds", desc := "(II)V" } : Jvm.MethodName) prog_4_method_24_code (8 : Nat) (Option.none : Option Jvm.ClassFile.FieldType)) ∈ TG := tw_7 28 (by decide +kernel) (by decide +kernel)
theorem w_7_34 : (Jvm.Cond.constant "StripedVault$Opener" (278 : Nat) (60000 : Int32)) ∈ TG := tw_7 34 (by decide +kernel) (by decide +kernel)
theorem w_7_35 : (Jvm.Cond.methodLink "StripedVault$Opener" (279 : Nat) ({ cls := "StripedVault$Opener", name := "checkOrder", desc := "(II)V" } : Jvm.MethodName)) ∈ TG := tw_7 35 (by decide +kernel) (by decide +kernel)
theorem w_7_37 : (Jvm.Cond.instanceMethod ({ cls := "StripedVault$Opener", name := "checkOrder", desc := "(II)V" } : Jvm.MethodName)) ∈ TG := tw_7 37 (by decide +kernel) (by decide +kernel)
theorem w_7_38 : (Jvm.Cond.code ({ cls := "StripedVault$Opener", name := "checkOrder", desc := "(II)V" } : Jvm.MethodName) prog_4_method_25_code (7 : Nat) (Option.none : Option Jvm.ClassFile.FieldType)) ∈ TG := tw_7 38 (by decide +kernel) (by decide +kernel)
theorem w_7_43 : (Jvm.Cond.methodLink "StripedVault$Opener" (282 : Nat) ({ cls := "StripedVault$Opener", name := "keepPage", desc := "(III)V" } : Jvm.MethodName)) ∈ TG := tw_7 43 (by decide +kernel) (by decide +kernel)
theorem w_7_45 : (Jvm.Cond.instanceMethod ({ cls := "StripedVault$Opener", name := "keepPage", desc := "(III)V" } : Jvm.MethodName)) ∈ TG := tw_7 45 (by decide +kernel) (by decide +kernel)
theorem w_7_46 : (Jvm.Cond.code ({ cls := "StripedVault$Opener", name := "keepPage", desc := "(III)V" } : Jvm.MethodName) prog_4_method_27_code (14 : Nat) (Option.none : Option Jvm.ClassFile.FieldType)) ∈ TG := tw_7 46 (by decide +kernel) (by decide +kernel)
theorem w_7_59 : (Jvm.Cond.methodLink "StripedVault$Opener" (369 : Nat) ({ cls := "StripedVault$Opener", name := "nextUpTo", desc := "(III)I" } : Jvm.MethodName)) ∈ TG := tw_7 59 (by decide +kernel) (by decide +kernel)
theorem w_7_61 : (Jvm.Cond.instanceMethod ({ cls := "StripedVault$Opener", name := "nextUpTo", desc := "(III)I" } : Jvm.MethodName)) ∈ TG := tw_7 61 (by decide +kernel) (by decide +kernel)
theorem w_7_62 : (Jvm.Cond.code ({ cls := "StripedVault$Opener", name := "nextUpTo", desc := "(III)I" } : Jvm.MethodName) prog_4_method_30_code (5 : Nat) (Option.some Jvm.ClassFile.FieldType.int)) ∈ TG := tw_7 62 (by decide +kernel) (by decide +kernel)
theorem w_7_63 : (Jvm.Cond.methodLink "StripedVault$Opener" (373 : Nat) ({ cls := "java/lang/Math", name := "min", desc := "(II)I" } : Jvm.MethodName)) ∈ TG := tw_7 63 (by decide +kernel) (by decide +kernel)
theorem ws_41 : Cond.selects R_Opn y_Opn_readPageHead y_Opn_readPageHead ∈ TG := tw_s 41 (by decide +kernel) (by decide +kernel)
theorem ws_42 : Cond.selects R_Opn y_Opn_readLevels y_Opn_readLevels ∈ TG := tw_s 42 (by decide +kernel) (by decide +kernel)
theorem ws_46 : Cond.selects R_Opn y_Opn_countNulls y_Opn_countNulls ∈ TG := tw_s 46 (by decide +kernel) (by decide +kernel)
theorem ws_47 : Cond.selects R_Opn y_Opn_readValues y_Opn_readValues ∈ TG := tw_s 47 (by decide +kernel) (by decide +kernel)
theorem ws_55 : Cond.selects R_Opn y_Opn_checkBounds y_Opn_checkBounds ∈ TG := tw_s 55 (by decide +kernel) (by decide +kernel)
theorem ws_56 : Cond.selects R_Opn y_Opn_checkOrder y_Opn_checkOrder ∈ TG := tw_s 56 (by decide +kernel) (by decide +kernel)
theorem ws_58 : Cond.selects R_Opn y_Opn_keepPage y_Opn_keepPage ∈ TG := tw_s 58 (by decide +kernel) (by decide +kernel)
theorem ws_61 : Cond.selects R_Opn y_Opn_nextUpTo y_Opn_nextUpTo ∈ TG := tw_s 61 (by decide +kernel) (by decide +kernel)
theorem d_Opn_lookAtPage_281 : decode b_Opn_lookAtPage 281 = .ok (.bipush 19, 2) := by decide +kernel
theorem d_Opn_lookAtPage_283 : decode b_Opn_lookAtPage 283 = .ok (.invokevirtual 95, 3) := by decide +kernel
theorem d_Opn_lookAtPage_286 : decode b_Opn_lookAtPage 286 = .ok (.aload_n 0, 1) := by decide +kernel
theorem d_Opn_lookAtPage_287 : decode b_Opn_lookAtPage 287 = .ok (.iload 4, 2) := by decide +kernel
theorem d_Opn_lookAtPage_289 : decode b_Opn_lookAtPage 289 = .ok (.iload 7, 2) := by decide +kernel
theorem d_Opn_lookAtPage_291 : decode b_Opn_lookAtPage 291 = .ok (.invokevirtual 279, 3) := by decide +kernel
theorem d_Opn_lookAtPage_294 : decode b_Opn_lookAtPage 294 = .ok (.aload_n 0, 1) := by decide +kernel
theorem d_Opn_lookAtPage_295 : decode b_Opn_lookAtPage 295 = .ok (.getfield 44, 3) := by decide +kernel
theorem d_Opn_lookAtPage_298 : decode b_Opn_lookAtPage 298 = .ok (.getfield 107, 3) := by decide +kernel
theorem d_Opn_lookAtPage_301 : decode b_Opn_lookAtPage 301 = .ok (.ifCond .ne 10, 3) := by decide +kernel
theorem d_Opn_lookAtPage_311 : decode b_Opn_lookAtPage 311 = .ok (.return_, 1) := by decide +kernel
theorem d_Opn_lookAtPage_304 : decode b_Opn_lookAtPage 304 = .ok (.aload_n 0, 1) := by decide +kernel
theorem d_Opn_lookAtPage_305 : decode b_Opn_lookAtPage 305 = .ok (.iload_n 1, 1) := by decide +kernel
theorem d_Opn_lookAtPage_306 : decode b_Opn_lookAtPage 306 = .ok (.iload_n 2, 1) := by decide +kernel
theorem d_Opn_lookAtPage_307 : decode b_Opn_lookAtPage 307 = .ok (.iload_n 3, 1) := by decide +kernel
theorem d_Opn_lookAtPage_308 : decode b_Opn_lookAtPage 308 = .ok (.invokevirtual 282, 3) := by decide +kernel
theorem d_Opn_lookAtPage_249 : decode b_Opn_lookAtPage 249 = .ok (.bipush 22, 2) := by decide +kernel
theorem d_Opn_lookAtPage_251 : decode b_Opn_lookAtPage 251 = .ok (.invokevirtual 95, 3) := by decide +kernel
theorem d_Opn_lookAtPage_254 : decode b_Opn_lookAtPage 254 = .ok (.aload_n 0, 1) := by decide +kernel
theorem d_Opn_lookAtPage_255 : decode b_Opn_lookAtPage 255 = .ok (.getfield 44, 3) := by decide +kernel
theorem d_Opn_lookAtPage_258 : decode b_Opn_lookAtPage 258 = .ok (.aload_n 0, 1) := by decide +kernel
theorem d_Opn_lookAtPage_259 : decode b_Opn_lookAtPage 259 = .ok (.getfield 25, 3) := by decide +kernel
theorem d_Opn_lookAtPage_262 : decode b_Opn_lookAtPage 262 = .ok (.getfield 228, 3) := by decide +kernel
theorem d_Opn_lookAtPage_265 : decode b_Opn_lookAtPage 265 = .ok (.aload_n 0, 1) := by decide +kernel
theorem d_Opn_lookAtPage_266 : decode b_Opn_lookAtPage 266 = .ok (.getfield 25, 3) := by decide +kernel
theorem d_Opn_lookAtPage_269 : decode b_Opn_lookAtPage 269 = .ok (.getfield 189, 3) := by decide +kernel
theorem d_Opn_lookAtPage_272 : decode b_Opn_lookAtPage 272 = .ok (.baload, 1) := by decide +kernel
theorem d_Opn_lookAtPage_273 : decode b_Opn_lookAtPage 273 = .ok (.ifCond .ne 7, 3) := by decide +kernel
theorem d_Opn_lookAtPage_280 : decode b_Opn_lookAtPage 280 = .ok (.iconst 0, 1) := by decide +kernel
theorem d_Opn_lookAtPage_276 : decode b_Opn_lookAtPage 276 = .ok (.iconst 1, 1) := by decide +kernel
theorem d_Opn_lookAtPage_277 : decode b_Opn_lookAtPage 277 = .ok (.goto 4, 3) := by decide +kernel
theorem d_Opn_lookAtPage_248 : decode b_Opn_lookAtPage 248 = .ok (.iconst 0, 1) := by decide +kernel
theorem d_Opn_lookAtPage_156 : decode b_Opn_lookAtPage 156 = .ok (.bipush 10, 2) := by decide +kernel
theorem d_Opn_lookAtPage_158 : decode b_Opn_lookAtPage 158 = .ok (.invokevirtual 95, 3) := by decide +kernel
theorem d_Opn_lookAtPage_161 : decode b_Opn_lookAtPage 161 = .ok (.aload_n 0, 1) := by decide +kernel
theorem d_Opn_lookAtPage_162 : decode b_Opn_lookAtPage 162 = .ok (.getfield 44, 3) := by decide +kernel
theorem d_Opn_lookAtPage_165 : decode b_Opn_lookAtPage 165 = .ok (.getfield 107, 3) := by decide +kernel
theorem d_Opn_lookAtPage_168 : decode b_Opn_lookAtPage 168 = .ok (.ifCond .eq 4, 3) := by decide +kernel
theorem d_Opn_lookAtPage_172 : decode b_Opn_lookAtPage 172 = .ok (.aload_n 0, 1) := by decide +kernel
theorem d_Opn_lookAtPage_173 : decode b_Opn_lookAtPage 173 = .ok (.iload 7, 2) := by decide +kernel
theorem d_Opn_lookAtPage_175 : decode b_Opn_lookAtPage 175 = .ok (.iload 8, 2) := by decide +kernel
theorem d_Opn_lookAtPage_177 : decode b_Opn_lookAtPage 177 = .ok (.isub, 1) := by decide +kernel
theorem d_Opn_lookAtPage_178 : decode b_Opn_lookAtPage 178 = .ok (.putfield 266, 3) := by decide +kernel
theorem d_Opn_lookAtPage_181 : decode b_Opn_lookAtPage 181 = .ok (.aload_n 0, 1) := by decide +kernel
theorem d_Opn_lookAtPage_182 : decode b_Opn_lookAtPage 182 = .ok (.iconst 0, 1) := by decide +kernel
theorem d_Opn_lookAtPage_183 : decode b_Opn_lookAtPage 183 = .ok (.putfield 269, 3) := by decide +kernel
theorem d_Opn_lookAtPage_186 : decode b_Opn_lookAtPage 186 = .ok (.aload_n 0, 1) := by decide +kernel
theorem d_Opn_lookAtPage_187 : decode b_Opn_lookAtPage 187 = .ok (.iload 5, 2) := by decide +kernel
theorem d_Opn_lookAtPage_189 : decode b_Opn_lookAtPage 189 = .ok (.iload 6, 2) := by decide +kernel
theorem d_Opn_lookAtPage_191 : decode b_Opn_lookAtPage 191 = .ok (.iload_n 3, 1) := by decide +kernel
theorem d_Opn_lookAtPage_192 : decode b_Opn_lookAtPage 192 = .ok (.invokevirtual 272, 3) := by decide +kernel
theorem d_Opn_lookAtPage_195 : decode b_Opn_lookAtPage 195 = .ok (.aload_n 0, 1) := by decide +kernel
theorem d_Opn_lookAtPage_196 : decode b_Opn_lookAtPage 196 = .ok (.getfield 44, 3) := by decide +kernel
theorem d_Opn_lookAtPage_199 : decode b_Opn_lookAtPage 199 = .ok (.invokevirtual 127, 3) := by decide +kernel
theorem d_Opn_lookAtPage_202 : decode b_Opn_lookAtPage 202 = .ok (.aload_n 0, 1) := by decide +kernel
theorem d_Opn_lookAtPage_203 : decode b_Opn_lookAtPage 203 = .ok (.iload 5, 2) := by decide +kernel
theorem d_Opn_lookAtPage_205 : decode b_Opn_lookAtPage 205 = .ok (.iload_n 3, 1) := by decide +kernel
theorem d_Opn_lookAtPage_206 : decode b_Opn_lookAtPage 206 = .ok (.invokevirtual 275, 3) := by decide +kernel
theorem d_Opn_lookAtPage_209 : decode b_Opn_lookAtPage 209 = .ok (.aload_n 0, 1) := by decide +kernel
theorem d_Opn_lookAtPage_210 : decode b_Opn_lookAtPage 210 = .ok (.getfield 44, 3) := by decide +kernel
theorem d_Opn_lookAtPage_213 : decode b_Opn_lookAtPage 213 = .ok (.aload_n 0, 1) := by decide +kernel
theorem d_Opn_lookAtPage_214 : decode b_Opn_lookAtPage 214 = .ok (.getfield 25, 3) := by decide +kernel
theorem d_Opn_lookAtPage_217 : decode b_Opn_lookAtPage 217 = .ok (.getfield 189, 3) := by decide +kernel
theorem d_Opn_lookAtPage_220 : decode b_Opn_lookAtPage 220 = .ok (.iload 7, 2) := by decide +kernel
theorem d_Opn_lookAtPage_222 : decode b_Opn_lookAtPage 222 = .ok (.iadd, 1) := by decide +kernel
theorem d_Opn_lookAtPage_223 : decode b_Opn_lookAtPage 223 = .ok (.sipush 10000, 3) := by decide +kernel
theorem d_Opn_lookAtPage_226 : decode b_Opn_lookAtPage 226 = .ok (.if_icmp .gt 22, 3) := by decide +kernel
theorem d_Opn_lookAtPage_229 : decode b_Opn_lookAtPage 229 = .ok (.aload_n 0, 1) := by decide +kernel
theorem d_Opn_lookAtPage_230 : decode b_Opn_lookAtPage 230 = .ok (.getfield 207, 3) := by decide +kernel
theorem d_Opn_lookAtPage_233 : decode b_Opn_lookAtPage 233 = .ok (.aload_n 0, 1) := by decide +kernel
theorem d_Opn_lookAtPage_234 : decode b_Opn_lookAtPage 234 = .ok (.getfield 269, 3) := by decide +kernel
theorem d_Opn_lookAtPage_237 : decode b_Opn_lookAtPage 237 = .ok (.iadd, 1) := by decide +kernel
theorem d_Opn_lookAtPage_238 : decode b_Opn_lookAtPage 238 = .ok (.ldc_w 278, 3) := by decide +kernel
theorem d_Opn_lookAtPage_241 : decode b_Opn_lookAtPage 241 = .ok (.if_icmp .gt 7, 3) := by decide +kernel
theorem d_Opn_lookAtPage_244 : decode b_Opn_lookAtPage 244 = .ok (.iconst 1, 1) := by decide +kernel
theorem d_Opn_lookAtPage_245 : decode b_Opn_lookAtPage 245 = .ok (.goto 4, 3) := by decide +kernel
theorem d_Opn_lookAtPage_171 : decode b_Opn_lookAtPage 171 = .ok (.return_, 1) := by decide +kernel
theorem d_Opn_lookAtPage_0 : decode b_Opn_lookAtPage 0 = .ok (.aload_n 0, 1) := by decide +kernel
theorem d_Opn_lookAtPage_1 : decode b_Opn_lookAtPage 1 = .ok (.getfield 25, 3) := by decide +kernel
theorem d_Opn_lookAtPage_4 : decode b_Opn_lookAtPage 4 = .ok (.getfield 77, 3) := by decide +kernel
theorem d_Opn_lookAtPage_7 : decode b_Opn_lookAtPage 7 = .ok (.getfield 118, 3) := by decide +kernel
theorem d_Opn_lookAtPage_10 : decode b_Opn_lookAtPage 10 = .ok (.iload_n 1, 1) := by decide +kernel
theorem d_Opn_lookAtPage_11 : decode b_Opn_lookAtPage 11 = .ok (.iaload, 1) := by decide +kernel
theorem d_Opn_lookAtPage_12 : decode b_Opn_lookAtPage 12 = .ok (.istore 4, 2) := by decide +kernel
theorem d_Opn_lookAtPage_14 : decode b_Opn_lookAtPage 14 = .ok (.aload_n 0, 1) := by decide +kernel
theorem d_Opn_lookAtPage_15 : decode b_Opn_lookAtPage 15 = .ok (.getfield 25, 3) := by decide +kernel
theorem d_Opn_lookAtPage_18 : decode b_Opn_lookAtPage 18 = .ok (.getfield 77, 3) := by decide +kernel
theorem d_Opn_lookAtPage_21 : decode b_Opn_lookAtPage 21 = .ok (.getfield 115, 3) := by decide +kernel
theorem d_Opn_lookAtPage_24 : decode b_Opn_lookAtPage 24 = .ok (.iload 4, 2) := by decide +kernel
theorem d_Opn_lookAtPage_26 : decode b_Opn_lookAtPage 26 = .ok (.iaload, 1) := by decide +kernel
theorem d_Opn_lookAtPage_27 : decode b_Opn_lookAtPage 27 = .ok (.istore 5, 2) := by decide +kernel
theorem d_Opn_lookAtPage_29 : decode b_Opn_lookAtPage 29 = .ok (.aload_n 0, 1) := by decide +kernel
theorem d_Opn_lookAtPage_30 : decode b_Opn_lookAtPage 30 = .ok (.iload 5, 2) := by decide +kernel
theorem d_Opn_lookAtPage_32 : decode b_Opn_lookAtPage 32 = .ok (.iload_n 3, 1) := by decide +kernel
theorem d_Opn_lookAtPage_33 : decode b_Opn_lookAtPage 33 = .ok (.invokevirtual 249, 3) := by decide +kernel
theorem d_Opn_lookAtPage_36 : decode b_Opn_lookAtPage 36 = .ok (.istore 6, 2) := by decide +kernel
theorem d_Opn_lookAtPage_38 : decode b_Opn_lookAtPage 38 = .ok (.aload_n 0, 1) := by decide +kernel
theorem d_Opn_lookAtPage_39 : decode b_Opn_lookAtPage 39 = .ok (.getfield 44, 3) := by decide +kernel
theorem d_Opn_lookAtPage_42 : decode b_Opn_lookAtPage 42 = .ok (.getfield 107, 3) := by decide +kernel
theorem d_Opn_lookAtPage_45 : decode b_Opn_lookAtPage 45 = .ok (.ifCond .eq 4, 3) := by decide +kernel
theorem d_Opn_lookAtPage_49 : decode b_Opn_lookAtPage 49 = .ok (.aload_n 0, 1) := by decide +kernel
theorem d_Opn_lookAtPage_50 : decode b_Opn_lookAtPage 50 = .ok (.getfield 25, 3) := by decide +kernel
theorem d_Opn_lookAtPage_53 : decode b_Opn_lookAtPage 53 = .ok (.getfield 234, 3) := by decide +kernel
theorem d_Opn_lookAtPage_56 : decode b_Opn_lookAtPage 56 = .ok (.iload_n 3, 1) := by decide +kernel
theorem d_Opn_lookAtPage_57 : decode b_Opn_lookAtPage 57 = .ok (.iaload, 1) := by decide +kernel
theorem d_Opn_lookAtPage_58 : decode b_Opn_lookAtPage 58 = .ok (.istore 7, 2) := by decide +kernel
theorem d_Opn_lookAtPage_60 : decode b_Opn_lookAtPage 60 = .ok (.aload_n 0, 1) := by decide +kernel
theorem d_Opn_lookAtPage_61 : decode b_Opn_lookAtPage 61 = .ok (.aload_n 0, 1) := by decide +kernel
theorem d_Opn_lookAtPage_62 : decode b_Opn_lookAtPage 62 = .ok (.getfield 25, 3) := by decide +kernel
theorem d_Opn_lookAtPage_65 : decode b_Opn_lookAtPage 65 = .ok (.getfield 228, 3) := by decide +kernel
theorem d_Opn_lookAtPage_68 : decode b_Opn_lookAtPage 68 = .ok (.iload 7, 2) := by decide +kernel
theorem d_Opn_lookAtPage_70 : decode b_Opn_lookAtPage 70 = .ok (.aload_n 0, 1) := by decide +kernel
theorem d_Opn_lookAtPage_71 : decode b_Opn_lookAtPage 71 = .ok (.getfield 25, 3) := by decide +kernel
theorem d_Opn_lookAtPage_74 : decode b_Opn_lookAtPage 74 = .ok (.getfield 77, 3) := by decide +kernel
theorem d_Opn_lookAtPage_77 : decode b_Opn_lookAtPage 77 = .ok (.getfield 252, 3) := by decide +kernel
theorem d_Opn_lookAtPage_80 : decode b_Opn_lookAtPage 80 = .ok (.iload 4, 2) := by decide +kernel
theorem d_Opn_lookAtPage_82 : decode b_Opn_lookAtPage 82 = .ok (.iaload, 1) := by decide +kernel
theorem d_Opn_lookAtPage_83 : decode b_Opn_lookAtPage 83 = .ok (.invokevirtual 254, 3) := by decide +kernel
theorem d_Opn_lookAtPage_86 : decode b_Opn_lookAtPage 86 = .ok (.aload_n 0, 1) := by decide +kernel
theorem d_Opn_lookAtPage_87 : decode b_Opn_lookAtPage 87 = .ok (.aload_n 0, 1) := by decide +kernel
theorem d_Opn_lookAtPage_88 : decode b_Opn_lookAtPage 88 = .ok (.getfield 25, 3) := by decide +kernel
theorem d_Opn_lookAtPage_91 : decode b_Opn_lookAtPage 91 = .ok (.getfield 258, 3) := by decide +kernel
theorem d_Opn_lookAtPage_94 : decode b_Opn_lookAtPage 94 = .ok (.iload 7, 2) := by decide +kernel
theorem d_Opn_lookAtPage_96 : decode b_Opn_lookAtPage 96 = .ok (.aload_n 0, 1) := by decide +kernel
theorem d_Opn_lookAtPage_97 : decode b_Opn_lookAtPage 97 = .ok (.getfield 25, 3) := by decide +kernel
theorem d_Opn_lookAtPage_100 : decode b_Opn_lookAtPage 100 = .ok (.getfield 77, 3) := by decide +kernel
theorem d_Opn_lookAtPage_103 : decode b_Opn_lookAtPage 103 = .ok (.getfield 261, 3) := by decide +kernel
theorem d_Opn_lookAtPage_106 : decode b_Opn_lookAtPage 106 = .ok (.iload 4, 2) := by decide +kernel
theorem d_Opn_lookAtPage_108 : decode b_Opn_lookAtPage 108 = .ok (.iaload, 1) := by decide +kernel
theorem d_Opn_lookAtPage_109 : decode b_Opn_lookAtPage 109 = .ok (.invokevirtual 254, 3) := by decide +kernel
theorem d_Opn_lookAtPage_112 : decode b_Opn_lookAtPage 112 = .ok (.aload_n 0, 1) := by decide +kernel
theorem d_Opn_lookAtPage_113 : decode b_Opn_lookAtPage 113 = .ok (.iload 7, 2) := by decide +kernel
theorem d_Opn_lookAtPage_115 : decode b_Opn_lookAtPage 115 = .ok (.aload_n 0, 1) := by decide +kernel
theorem d_Opn_lookAtPage_116 : decode b_Opn_lookAtPage 116 = .ok (.getfield 25, 3) := by decide +kernel
theorem d_Opn_lookAtPage_119 : decode b_Opn_lookAtPage 119 = .ok (.getfield 77, 3) := by decide +kernel
theorem d_Opn_lookAtPage_122 : decode b_Opn_lookAtPage 122 = .ok (.getfield 261, 3) := by decide +kernel
theorem d_Opn_lookAtPage_125 : decode b_Opn_lookAtPage 125 = .ok (.iload 4, 2) := by decide +kernel
theorem d_Opn_lookAtPage_127 : decode b_Opn_lookAtPage 127 = .ok (.iaload, 1) := by decide +kernel
theorem d_Opn_lookAtPage_128 : decode b_Opn_lookAtPage 128 = .ok (.invokevirtual 263, 3) := by decide +kernel
theorem d_Opn_lookAtPage_131 : decode b_Opn_lookAtPage 131 = .ok (.istore 8, 2) := by decide +kernel
theorem d_Opn_lookAtPage_133 : decode b_Opn_lookAtPage 133 = .ok (.aload_n 0, 1) := by decide +kernel
theorem d_Opn_lookAtPage_134 : decode b_Opn_lookAtPage 134 = .ok (.getfield 44, 3) := by decide +kernel
theorem d_Opn_lookAtPage_137 : decode b_Opn_lookAtPage 137 = .ok (.iload 8, 2) := by decide +kernel
theorem d_Opn_lookAtPage_139 : decode b_Opn_lookAtPage 139 = .ok (.aload_n 0, 1) := by decide +kernel
theorem d_Opn_lookAtPage_140 : decode b_Opn_lookAtPage 140 = .ok (.getfield 25, 3) := by decide +kernel
theorem d_Opn_lookAtPage_143 : decode b_Opn_lookAtPage 143 = .ok (.getfield 237, 3) := by decide +kernel
theorem d_Opn_lookAtPage_146 : decode b_Opn_lookAtPage 146 = .ok (.iload_n 3, 1) := by decide +kernel
theorem d_Opn_lookAtPage_147 : decode b_Opn_lookAtPage 147 = .ok (.iaload, 1) := by decide +kernel
theorem d_Opn_lookAtPage_148 : decode b_Opn_lookAtPage 148 = .ok (.if_icmp .ne 7, 3) := by decide +kernel
theorem d_Opn_lookAtPage_155 : decode b_Opn_lookAtPage 155 = .ok (.iconst 0, 1) := by decide +kernel
theorem d_Opn_lookAtPage_151 : decode b_Opn_lookAtPage 151 = .ok (.iconst 1, 1) := by decide +kernel
theorem d_Opn_lookAtPage_152 : decode b_Opn_lookAtPage 152 = .ok (.goto 4, 3) := by decide +kernel
theorem d_Opn_lookAtPage_48 : decode b_Opn_lookAtPage 48 = .ok (.return_, 1) := by decide +kernel
theorem d_Opn_nextUpTo_29 : decode b_Opn_nextUpTo 29 = .ok (.iload 4, 2) := by decide +kernel
theorem d_Opn_nextUpTo_31 : decode b_Opn_nextUpTo 31 = .ok (.ireturn, 1) := by decide +kernel
theorem d_Opn_nextUpTo_3 : decode b_Opn_nextUpTo 3 = .ok (.iload 4, 2) := by decide +kernel
theorem d_Opn_nextUpTo_5 : decode b_Opn_nextUpTo 5 = .ok (.iload_n 3, 1) := by decide +kernel
theorem d_Opn_nextUpTo_6 : decode b_Opn_nextUpTo 6 = .ok (.if_icmp .ge 23, 3) := by decide +kernel
theorem d_Opn_nextUpTo_9 : decode b_Opn_nextUpTo 9 = .ok (.aload_n 0, 1) := by decide +kernel
theorem d_Opn_nextUpTo_10 : decode b_Opn_nextUpTo 10 = .ok (.getfield 25, 3) := by decide +kernel
theorem d_Opn_nextUpTo_13 : decode b_Opn_nextUpTo 13 = .ok (.getfield 228, 3) := by decide +kernel
theorem d_Opn_nextUpTo_16 : decode b_Opn_nextUpTo 16 = .ok (.iload 4, 2) := by decide +kernel
theorem d_Opn_nextUpTo_18 : decode b_Opn_nextUpTo 18 = .ok (.baload, 1) := by decide +kernel
theorem d_Opn_nextUpTo_19 : decode b_Opn_nextUpTo 19 = .ok (.iload_n 1, 1) := by decide +kernel
theorem d_Opn_nextUpTo_20 : decode b_Opn_nextUpTo 20 = .ok (.if_icmp .le 9, 3) := by decide +kernel
theorem d_Opn_nextUpTo_23 : decode b_Opn_nextUpTo 23 = .ok (.iinc 4 1, 3) := by decide +kernel
theorem d_Opn_nextUpTo_26 : decode b_Opn_nextUpTo 26 = .ok (.goto (-23), 3) := by decide +kernel
theorem d_Opn_nextUpTo_0 : decode b_Opn_nextUpTo 0 = .ok (.iload_n 2, 1) := by decide +kernel
theorem d_Opn_nextUpTo_1 : decode b_Opn_nextUpTo 1 = .ok (.istore 4, 2) := by decide +kernel
theorem d_Opn_goTogether_307 : decode b_Opn_goTogether 307 = .ok (.iconst 0, 1) := by decide +kernel
theorem d_Opn_goTogether_308 : decode b_Opn_goTogether 308 = .ok (.ireturn, 1) := by decide +kernel
theorem d_Opn_goTogether_289 : decode b_Opn_goTogether 289 = .ok (.iload 10, 2) := by decide +kernel
theorem d_Opn_goTogether_291 : decode b_Opn_goTogether 291 = .ok (.iload 8, 2) := by decide +kernel
theorem d_Opn_goTogether_293 : decode b_Opn_goTogether 293 = .ok (.if_icmp .ne 14, 3) := by decide +kernel
theorem d_Opn_goTogether_296 : decode b_Opn_goTogether 296 = .ok (.iload 11, 2) := by decide +kernel
theorem d_Opn_goTogether_298 : decode b_Opn_goTogether 298 = .ok (.iload 9, 2) := by decide +kernel
theorem d_Opn_goTogether_300 : decode b_Opn_goTogether 300 = .ok (.if_icmp .ne 7, 3) := by decide +kernel
theorem d_Opn_goTogether_303 : decode b_Opn_goTogether 303 = .ok (.iconst 1, 1) := by decide +kernel
theorem d_Opn_goTogether_304 : decode b_Opn_goTogether 304 = .ok (.goto 4, 3) := by decide +kernel
theorem d_Opn_goTogether_253 : decode b_Opn_goTogether 253 = .ok (.iconst 0, 1) := by decide +kernel
theorem d_Opn_goTogether_254 : decode b_Opn_goTogether 254 = .ok (.ireturn, 1) := by decide +kernel
theorem d_Opn_goTogether_175 : decode b_Opn_goTogether 175 = .ok (.iload 12, 2) := by decide +kernel
theorem d_Opn_goTogether_177 : decode b_Opn_goTogether 177 = .ok (.sipush 10000, 3) := by decide +kernel
theorem d_Opn_goTogether_180 : decode b_Opn_goTogether 180 = .ok (.if_icmp .ge 109, 3) := by decide +kernel
theorem d_Opn_goTogether_183 : decode b_Opn_goTogether 183 = .ok (.iload 10, 2) := by decide +kernel
theorem d_Opn_goTogether_185 : decode b_Opn_goTogether 185 = .ok (.iload 8, 2) := by decide +kernel
theorem d_Opn_goTogether_187 : decode b_Opn_goTogether 187 = .ok (.if_icmp .ge 102, 3) := by decide +kernel
theorem d_Opn_goTogether_190 : decode b_Opn_goTogether 190 = .ok (.iload 11, 2) := by decide +kernel
theorem d_Opn_goTogether_192 : decode b_Opn_goTogether 192 = .ok (.iload 9, 2) := by decide +kernel
theorem d_Opn_goTogether_194 : decode b_Opn_goTogether 194 = .ok (.if_icmp .ge 95, 3) := by decide +kernel
theorem d_Opn_goTogether_197 : decode b_Opn_goTogether 197 = .ok (.aload_n 0, 1) := by decide +kernel
theorem d_Opn_goTogether_198 : decode b_Opn_goTogether 198 = .ok (.getfield 25, 3) := by decide +kernel
theorem d_Opn_goTogether_201 : decode b_Opn_goTogether 201 = .ok (.getfield 228, 3) := by decide +kernel
theorem d_Opn_goTogether_204 : decode b_Opn_goTogether 204 = .ok (.iload 10, 2) := by decide +kernel
theorem d_Opn_goTogether_206 : decode b_Opn_goTogether 206 = .ok (.baload, 1) := by decide +kernel
theorem d_Opn_goTogether_207 : decode b_Opn_goTogether 207 = .ok (.aload_n 0, 1) := by decide +kernel
theorem d_Opn_goTogether_208 : decode b_Opn_goTogether 208 = .ok (.getfield 25, 3) := by decide +kernel
theorem d_Opn_goTogether_211 : decode b_Opn_goTogether 211 = .ok (.getfield 228, 3) := by decide +kernel
theorem d_Opn_goTogether_214 : decode b_Opn_goTogether 214 = .ok (.iload 11, 2) := by decide +kernel
theorem d_Opn_goTogether_216 : decode b_Opn_goTogether 216 = .ok (.baload, 1) := by decide +kernel
theorem d_Opn_goTogether_217 : decode b_Opn_goTogether 217 = .ok (.if_icmp .ne 36, 3) := by decide +kernel
theorem d_Opn_goTogether_220 : decode b_Opn_goTogether 220 = .ok (.aload_n 0, 1) := by decide +kernel
theorem d_Opn_goTogether_221 : decode b_Opn_goTogether 221 = .ok (.getfield 25, 3) := by decide +kernel
theorem d_Opn_goTogether_224 : decode b_Opn_goTogether 224 = .ok (.getfield 258, 3) := by decide +kernel
theorem d_Opn_goTogether_227 : decode b_Opn_goTogether 227 = .ok (.iload 10, 2) := by decide +kernel
theorem d_Opn_goTogether_229 : decode b_Opn_goTogether 229 = .ok (.baload, 1) := by decide +kernel
theorem d_Opn_goTogether_230 : decode b_Opn_goTogether 230 = .ok (.iload 7, 2) := by decide +kernel
theorem d_Opn_goTogether_232 : decode b_Opn_goTogether 232 = .ok (.invokestatic 373, 3) := by decide +kernel
theorem d_Opn_goTogether_235 : decode b_Opn_goTogether 235 = .ok (.aload_n 0, 1) := by decide +kernel
theorem d_Opn_goTogether_236 : decode b_Opn_goTogether 236 = .ok (.getfield 25, 3) := by decide +kernel
theorem d_Opn_goTogether_239 : decode b_Opn_goTogether 239 = .ok (.getfield 258, 3) := by decide +kernel
theorem d_Opn_goTogether_242 : decode b_Opn_goTogether 242 = .ok (.iload 11, 2) := by decide +kernel
theorem d_Opn_goTogether_244 : decode b_Opn_goTogether 244 = .ok (.baload, 1) := by decide +kernel
theorem d_Opn_goTogether_245 : decode b_Opn_goTogether 245 = .ok (.iload 7, 2) := by decide +kernel
theorem d_Opn_goTogether_247 : decode b_Opn_goTogether 247 = .ok (.invokestatic 373, 3) := by decide +kernel
theorem d_Opn_goTogether_250 : decode b_Opn_goTogether 250 = .ok (.if_icmp .eq 5, 3) := by decide +kernel
theorem d_Opn_goTogether_255 : decode b_Opn_goTogether 255 = .ok (.aload_n 0, 1) := by decide +kernel
theorem d_Opn_goTogether_256 : decode b_Opn_goTogether 256 = .ok (.iload 6, 2) := by decide +kernel
theorem d_Opn_goTogether_258 : decode b_Opn_goTogether 258 = .ok (.iload 10, 2) := by decide +kernel
theorem d_Opn_goTogether_260 : decode b_Opn_goTogether 260 = .ok (.iconst 1, 1) := by decide +kernel
theorem d_Opn_goTogether_261 : decode b_Opn_goTogether 261 = .ok (.iadd, 1) := by decide +kernel
theorem d_Opn_goTogether_262 : decode b_Opn_goTogether 262 = .ok (.iload 8, 2) := by decide +kernel
theorem d_Opn_goTogether_264 : decode b_Opn_goTogether 264 = .ok (.invokevirtual 369, 3) := by decide +kernel
theorem d_Opn_goTogether_267 : decode b_Opn_goTogether 267 = .ok (.istore 10, 2) := by decide +kernel
theorem d_Opn_goTogether_269 : decode b_Opn_goTogether 269 = .ok (.aload_n 0, 1) := by decide +kernel
theorem d_Opn_goTogether_270 : decode b_Opn_goTogether 270 = .ok (.iload 6, 2) := by decide +kernel
theorem d_Opn_goTogether_272 : decode b_Opn_goTogether 272 = .ok (.iload 11, 2) := by decide +kernel
theorem d_Opn_goTogether_274 : decode b_Opn_goTogether 274 = .ok (.iconst 1, 1) := by decide +kernel
theorem d_Opn_goTogether_275 : decode b_Opn_goTogether 275 = .ok (.iadd, 1) := by decide +kernel
theorem d_Opn_goTogether_276 : decode b_Opn_goTogether 276 = .ok (.iload 9, 2) := by decide +kernel
theorem d_Opn_goTogether_278 : decode b_Opn_goTogether 278 = .ok (.invokevirtual 369, 3) := by decide +kernel
theorem d_Opn_goTogether_281 : decode b_Opn_goTogether 281 = .ok (.istore 11, 2) := by decide +kernel
theorem d_Opn_goTogether_283 : decode b_Opn_goTogether 283 = .ok (.iinc 12 1, 3) := by decide +kernel
theorem d_Opn_goTogether_286 : decode b_Opn_goTogether 286 = .ok (.goto (-111), 3) := by decide +kernel
theorem d_Opn_goTogether_64 : decode b_Opn_goTogether 64 = .ok (.iload 5, 2) := by decide +kernel
theorem d_Opn_goTogether_66 : decode b_Opn_goTogether 66 = .ok (.iconst (-1), 1) := by decide +kernel
theorem d_Opn_goTogether_67 : decode b_Opn_goTogether 67 = .ok (.if_icmp .ne 5, 3) := by decide +kernel
theorem d_Opn_goTogether_72 : decode b_Opn_goTogether 72 = .ok (.aload 4, 2) := by decide +kernel
theorem d_Opn_goTogether_74 : decode b_Opn_goTogether 74 = .ok (.getfield 252, 3) := by decide +kernel
theorem d_Opn_goTogether_77 : decode b_Opn_goTogether 77 = .ok (.iload 5, 2) := by decide +kernel
theorem d_Opn_goTogether_79 : decode b_Opn_goTogether 79 = .ok (.iaload, 1) := by decide +kernel
theorem d_Opn_goTogether_80 : decode b_Opn_goTogether 80 = .ok (.istore 6, 2) := by decide +kernel
theorem d_Opn_goTogether_82 : decode b_Opn_goTogether 82 = .ok (.aload 4, 2) := by decide +kernel
theorem d_Opn_goTogether_84 : decode b_Opn_goTogether 84 = .ok (.getfield 261, 3) := by decide +kernel
theorem d_Opn_goTogether_87 : decode b_Opn_goTogether 87 = .ok (.iload 5, 2) := by decide +kernel
theorem d_Opn_goTogether_89 : decode b_Opn_goTogether 89 = .ok (.iaload, 1) := by decide +kernel
theorem d_Opn_goTogether_90 : decode b_Opn_goTogether 90 = .ok (.istore 7, 2) := by decide +kernel
theorem d_Opn_goTogether_92 : decode b_Opn_goTogether 92 = .ok (.aload_n 0, 1) := by decide +kernel
theorem d_Opn_goTogether_93 : decode b_Opn_goTogether 93 = .ok (.getfield 25, 3) := by decide +kernel
theorem d_Opn_goTogether_96 : decode b_Opn_goTogether 96 = .ok (.getfield 231, 3) := by decide +kernel
theorem d_Opn_goTogether_99 : decode b_Opn_goTogether 99 = .ok (.iload_n 2, 1) := by decide +kernel
theorem d_Opn_goTogether_100 : decode b_Opn_goTogether 100 = .ok (.iaload, 1) := by decide +kernel
theorem d_Opn_goTogether_101 : decode b_Opn_goTogether 101 = .ok (.aload_n 0, 1) := by decide +kernel
theorem d_Opn_goTogether_102 : decode b_Opn_goTogether 102 = .ok (.getfield 25, 3) := by decide +kernel
theorem d_Opn_goTogether_105 : decode b_Opn_goTogether 105 = .ok (.getfield 234, 3) := by decide +kernel
theorem d_Opn_goTogether_108 : decode b_Opn_goTogether 108 = .ok (.iload_n 2, 1) := by decide +kernel
theorem d_Opn_goTogether_109 : decode b_Opn_goTogether 109 = .ok (.iaload, 1) := by decide +kernel
theorem d_Opn_goTogether_110 : decode b_Opn_goTogether 110 = .ok (.iadd, 1) := by decide +kernel
theorem d_Opn_goTogether_111 : decode b_Opn_goTogether 111 = .ok (.istore 8, 2) := by decide +kernel
theorem d_Opn_goTogether_113 : decode b_Opn_goTogether 113 = .ok (.aload_n 0, 1) := by decide +kernel
theorem d_Opn_goTogether_114 : decode b_Opn_goTogether 114 = .ok (.getfield 25, 3) := by decide +kernel
theorem d_Opn_goTogether_117 : decode b_Opn_goTogether 117 = .ok (.getfield 231, 3) := by decide +kernel
theorem d_Opn_goTogether_120 : decode b_Opn_goTogether 120 = .ok (.iload_n 3, 1) := by decide +kernel
theorem d_Opn_goTogether_121 : decode b_Opn_goTogether 121 = .ok (.iaload, 1) := by decide +kernel
theorem d_Opn_goTogether_122 : decode b_Opn_goTogether 122 = .ok (.aload_n 0, 1) := by decide +kernel
theorem d_Opn_goTogether_123 : decode b_Opn_goTogether 123 = .ok (.getfield 25, 3) := by decide +kernel
theorem d_Opn_goTogether_126 : decode b_Opn_goTogether 126 = .ok (.getfield 234, 3) := by decide +kernel
theorem d_Opn_goTogether_129 : decode b_Opn_goTogether 129 = .ok (.iload_n 3, 1) := by decide +kernel
theorem d_Opn_goTogether_130 : decode b_Opn_goTogether 130 = .ok (.iaload, 1) := by decide +kernel
theorem d_Opn_goTogether_131 : decode b_Opn_goTogether 131 = .ok (.iadd, 1) := by decide +kernel
theorem d_Opn_goTogether_132 : decode b_Opn_goTogether 132 = .ok (.istore 9, 2) := by decide +kernel
theorem d_Opn_goTogether_134 : decode b_Opn_goTogether 134 = .ok (.aload_n 0, 1) := by decide +kernel
theorem d_Opn_goTogether_135 : decode b_Opn_goTogether 135 = .ok (.iload 6, 2) := by decide +kernel
theorem d_Opn_goTogether_137 : decode b_Opn_goTogether 137 = .ok (.aload_n 0, 1) := by decide +kernel
theorem d_Opn_goTogether_138 : decode b_Opn_goTogether 138 = .ok (.getfield 25, 3) := by decide +kernel
theorem d_Opn_goTogether_141 : decode b_Opn_goTogether 141 = .ok (.getfield 231, 3) := by decide +kernel
theorem d_Opn_goTogether_144 : decode b_Opn_goTogether 144 = .ok (.iload_n 2, 1) := by decide +kernel
theorem d_Opn_goTogether_145 : decode b_Opn_goTogether 145 = .ok (.iaload, 1) := by decide +kernel
theorem d_Opn_goTogether_146 : decode b_Opn_goTogether 146 = .ok (.iload 8, 2) := by decide +kernel
theorem d_Opn_goTogether_148 : decode b_Opn_goTogether 148 = .ok (.invokevirtual 369, 3) := by decide +kernel
theorem d_Opn_goTogether_151 : decode b_Opn_goTogether 151 = .ok (.istore 10, 2) := by decide +kernel
theorem d_Opn_goTogether_153 : decode b_Opn_goTogether 153 = .ok (.aload_n 0, 1) := by decide +kernel
theorem d_Opn_goTogether_154 : decode b_Opn_goTogether 154 = .ok (.iload 6, 2) := by decide +kernel
theorem d_Opn_goTogether_156 : decode b_Opn_goTogether 156 = .ok (.aload_n 0, 1) := by decide +kernel
theorem d_Opn_goTogether_157 : decode b_Opn_goTogether 157 = .ok (.getfield 25, 3) := by decide +kernel
theorem d_Opn_goTogether_160 : decode b_Opn_goTogether 160 = .ok (.getfield 231, 3) := by decide +kernel
theorem d_Opn_goTogether_163 : decode b_Opn_goTogether 163 = .ok (.iload_n 3, 1) := by decide +kernel
theorem d_Opn_goTogether_164 : decode b_Opn_goTogether 164 = .ok (.iaload, 1) := by decide +kernel
theorem d_Opn_goTogether_165 : decode b_Opn_goTogether 165 = .ok (.iload 9, 2) := by decide +kernel
theorem d_Opn_goTogether_167 : decode b_Opn_goTogether 167 = .ok (.invokevirtual 369, 3) := by decide +kernel
theorem d_Opn_goTogether_170 : decode b_Opn_goTogether 170 = .ok (.istore 11, 2) := by decide +kernel
theorem d_Opn_goTogether_172 : decode b_Opn_goTogether 172 = .ok (.iconst 0, 1) := by decide +kernel
theorem d_Opn_goTogether_173 : decode b_Opn_goTogether 173 = .ok (.istore 12, 2) := by decide +kernel
theorem d_Opn_goTogether_70 : decode b_Opn_goTogether 70 = .ok (.iconst 1, 1) := by decide +kernel
theorem d_Opn_goTogether_71 : decode b_Opn_goTogether 71 = .ok (.ireturn, 1) := by decide +kernel
theorem d_Opn_goTogether_27 : decode b_Opn_goTogether 27 = .ok (.iload 6, 2) := by decide +kernel
theorem d_Opn_goTogether_29 : decode b_Opn_goTogether 29 = .ok (.bipush 16, 2) := by decide +kernel
theorem d_Opn_goTogether_31 : decode b_Opn_goTogether 31 = .ok (.if_icmp .gt 33, 3) := by decide +kernel
theorem d_Opn_goTogether_34 : decode b_Opn_goTogether 34 = .ok (.iload 5, 2) := by decide +kernel
theorem d_Opn_goTogether_36 : decode b_Opn_goTogether 36 = .ok (.aload 4, 2) := by decide +kernel
theorem d_Opn_goTogether_38 : decode b_Opn_goTogether 38 = .ok (.getfield 118, 3) := by decide +kernel
theorem d_Opn_goTogether_41 : decode b_Opn_goTogether 41 = .ok (.iload_n 1, 1) := by decide +kernel
theorem d_Opn_goTogether_42 : decode b_Opn_goTogether 42 = .ok (.iconst 1, 1) := by decide +kernel
theorem d_Opn_goTogether_43 : decode b_Opn_goTogether 43 = .ok (.isub, 1) := by decide +kernel
theorem d_Opn_goTogether_44 : decode b_Opn_goTogether 44 = .ok (.iaload, 1) := by decide +kernel
theorem d_Opn_goTogether_45 : decode b_Opn_goTogether 45 = .ok (.if_icmp .le 19, 3) := by decide +kernel
theorem d_Opn_goTogether_48 : decode b_Opn_goTogether 48 = .ok (.aload 4, 2) := by decide +kernel
theorem d_Opn_goTogether_50 : decode b_Opn_goTogether 50 = .ok (.getfield 175, 3) := by decide +kernel
theorem d_Opn_goTogether_53 : decode b_Opn_goTogether 53 = .ok (.iload 5, 2) := by decide +kernel
theorem d_Opn_goTogether_55 : decode b_Opn_goTogether 55 = .ok (.iaload, 1) := by decide +kernel
theorem d_Opn_goTogether_56 : decode b_Opn_goTogether 56 = .ok (.istore 5, 2) := by decide +kernel
theorem d_Opn_goTogether_58 : decode b_Opn_goTogether 58 = .ok (.iinc 6 1, 3) := by decide +kernel
theorem d_Opn_goTogether_61 : decode b_Opn_goTogether 61 = .ok (.goto (-34), 3) := by decide +kernel
theorem d_Opn_goTogether_0 : decode b_Opn_goTogether 0 = .ok (.aload_n 0, 1) := by decide +kernel
theorem d_Opn_goTogether_1 : decode b_Opn_goTogether 1 = .ok (.getfield 25, 3) := by decide +kernel
theorem d_Opn_goTogether_4 : decode b_Opn_goTogether 4 = .ok (.getfield 77, 3) := by decide +kernel
theorem d_Opn_goTogether_7 : decode b_Opn_goTogether 7 = .ok (.astore 4, 2) := by decide +kernel
theorem d_Opn_goTogether_9 : decode b_Opn_goTogether 9 = .ok (.aload 4, 2) := by decide +kernel
theorem d_Opn_goTogether_11 : decode b_Opn_goTogether 11 = .ok (.getfield 175, 3) := by decide +kernel
theorem d_Opn_goTogether_14 : decode b_Opn_goTogether 14 = .ok (.aload 4, 2) := by decide +kernel
theorem d_Opn_goTogether_16 : decode b_Opn_goTogether 16 = .ok (.getfield 118, 3) := by decide +kernel
theorem d_Opn_goTogether_19 : decode b_Opn_goTogether 19 = .ok (.iload_n 1, 1) := by decide +kernel
theorem d_Opn_goTogether_20 : decode b_Opn_goTogether 20 = .ok (.iaload, 1) := by decide +kernel
theorem d_Opn_goTogether_21 : decode b_Opn_goTogether 21 = .ok (.iaload, 1) := by decide +kernel
theorem d_Opn_goTogether_22 : decode b_Opn_goTogether 22 = .ok (.istore 5, 2) := by decide +kernel
theorem d_Opn_goTogether_24 : decode b_Opn_goTogether 24 = .ok (.iconst 0, 1) := by decide +kernel
theorem d_Opn_goTogether_25 : decode b_Opn_goTogether 25 = .ok (.istore 6, 2) := by decide +kernel
section
variable (l : Launch) (dC : Nat → ClassId) (dI : Nat → Nat → Nat) (cI cB cJ cZ : ClassId)
set_option maxRecDepth 100000 in
set_option maxHeartbeats 4000000 in
set_option maxRecDepth 100000 in
theorem t_Opn_lookAtPage_281 {p : Program} {l : Launch} {e : Env} {R : Room} {s : State} {m : MethodId} {args : Array Value} {below : List Frame} {meth : Method} {c : Code} {cells slots : Nat} {Q : State → Prop} {dC : Nat → ClassId} {dI : Nat → Nat → Nat} {cI cB cJ cZ : ClassId} {A : Nat → Prop} {ad : Nat → Nat} {NN : Nat} {E : Heap} {tM tC : Nat} {kK kV : Nat → Nat} {post : St → Prop} (hx : p.tables.exec = Jvm.exec) (hb : c.code = b_Opn_lookAtPage) (hml : c.maxLocals = 9) (hown : s.vm.findClass R_Opn = some m.cls) (hT : ∀ w ∈ TG, w.before args s = true) (hK : va_K (dC, dI) CL (TY cI cB cJ cZ) s) (hN : NW s) (hA : ∀ q : Nat, s.heap.size ≤ q → A q) (hRc : cells ≤ R.cells) (hRs : slots ≤ R.slots) (hRf : 6 ≤ R.frames) (hRl : 221 ≤ R.locals) (hNN : 152 ≤ NN) (hE : CE E tM tC kK kV A s) (hret : ∀ (x : St) (H : Heap) (locs : List Loc) (pc : Nat) (ls : Array Slot), decode b_Opn_lookAtPage pc = .ok (.return_, 1) → post x → Wd dC dI cI cB cJ cZ ad stC kcC NN A x H → va_S A s.heap H locs → W p l e R s m args below meth c H locs cells slots Q (F0 m pc ls []))  : ∀ (o : Nat) (l1 : Int32) (l2 : Int32) (l3 : Int32) (l4 : Int32) (l5 : Int32) (l6 : Int32) (l7 : Int32) (l8 : Int32) (s0 : Int32) (s1 : Nat) (x : St) (H : Heap) (locs : List Loc) (ls : Array Slot), (o < NN ∧ kcC o = 7) → (s1 < NN ∧ kcC s1 = 8) → j_Opn_lookAtPage_281 post o l1 l2 l3 l4 l5 l6 l7 l8 s0 s1 x → Wd dC dI cI cB cJ cZ ad stC kcC NN A x H → va_S A s.heap H locs → lv_has ls 9 [(0, .ref (ad o)), (1, .int l1), (2, .int l2), (3, .int l3), (4, .int l4), (5, .int l5), (6, .int l6), (7, .int l7), (8, .int l8)] → W p l e R s m args below meth c H locs cells slots Q (F0 m 281 ls [.int s0, .ref (ad s1)]) := by
  intro o l1 l2 l3 l4 l5 l6 l7 l8 s0 s1 x H locs ls fo fs1 hw hW hS hl
  unfold j_Opn_lookAtPage_281 at hw
  refine lv_bipush (v := 19) hx hb d_Opn_lookAtPage_281 (by decide) ?_
  have hF := hW.free hS hA
  refine va_callv (va_runV (C := R_Src) (As := [.int s0, .int 19]) (rest := []) ⟨hx, hb, hml, hown, hT⟩ (k_Src_check l dC dI cI cB cJ cZ ad NN E tM tC kK kV hNN H.size s1 s0 19 x fs1 hw) ⟨callB_of 2 hT (gwt_in w_6_116) rfl rfl rfl (hT _ w_1_11) (hT _ w_6_113) (by decide +kernel) ⟨Nat.le_trans (Nat.le_of_ble_eq_true rfl) hRf, Nat.le_trans (Nat.le_of_ble_eq_true rfl) hRl⟩, hT _ w_6_114, hT _ w_6_115⟩ ⟨PVc.blind, va_recv hK hW.1 (ci := 8) (q0 := s1) rfl (pic_obj fs1.1 fs1.2 (by decide)), PVc.at _ hW hK hN hE hS hF⟩ rfl rfl hl.1 rfl (lv_room (Nat.le_of_ble_eq_true rfl)) d_Opn_lookAtPage_283 ⟨hRc, hRs⟩) hS (fun q _ h => hF q h) hF (fun  x1 t H locs ht hvm hw hB hz1 hk1 hS => ?_)
  have hW := Wd.back hB ht hF
  clear hB ht hF hz1 hk1 hvm
  refine lv_aload_n hx hb d_Opn_lookAtPage_286 rfl (lv_at hl 0 rfl) ?_
  refine lv_iload hx hb d_Opn_lookAtPage_287 (lv_at hl 4 rfl) ?_
  refine lv_iload hx hb d_Opn_lookAtPage_289 (lv_at hl 7 rfl) ?_
  have hF := hW.free hS hA
  refine va_callv (va_runV (C := R_Opn) (As := [.int l4, .int l7]) (rest := []) ⟨hx, hb, hml, hown, hT⟩ (k_Opn_checkOrder l dC dI cI cB cJ cZ ad NN E tM tC kK kV hNN H.size o l4 l7 x1 fo hw) ⟨callB_of 2 hT (gwt_in w_7_38) rfl rfl rfl (hT _ w_1_10) (hT _ w_7_35) (by decide +kernel) ⟨Nat.le_trans (Nat.le_of_ble_eq_true rfl) hRf, Nat.le_trans (Nat.le_of_ble_eq_true rfl) hRl⟩, hT _ w_7_37, hT _ ws_56⟩ ⟨PVc.blind, va_recv hK hW.1 (ci := 7) (q0 := o) rfl (pic_obj fo.1 fo.2 (by decide)), PVc.at _ hW hK hN hE hS hF⟩ rfl rfl hl.1 rfl (lv_room (Nat.le_of_ble_eq_true rfl)) d_Opn_lookAtPage_291 ⟨hRc, hRs⟩) hS (fun q _ h => hF q h) hF (fun  x2 t H locs ht hvm hw hB hz1 hk1 hS => ?_)
  have hW := Wd.back hB ht hF
  clear hB ht hF hz1 hk1 hvm
  refine lv_aload_n hx hb d_Opn_lookAtPage_294 rfl (lv_at hl 0 rfl) ?_
  refine w_getf (q := (stC o 2)) (k := 2) (t := 7) (C := R_Opn) (T := F_Opn) (N := 17) hx hb hT hown hK hW fo.1 fo.2 (by decide) in_Opn rfl rfl (by decide) rfl fr_Opn_2 w_3_17 d_Opn_lookAtPage_295 rfl ?_
  refine w_geti (k := 3) (t := 8) (C := R_Src) (T := F_Src) (N := 5) hx hb hT hown hK hW (st_ty hNN fo.1 fo.2 rfl).1 (st_ty hNN fo.1 fo.2 rfl).2 (by decide) in_Src rfl rfl (by decide) rfl fr_Src_3 w_3_2 d_Opn_lookAtPage_298 ?_
  refine lv_if_ne (tgt := 311) hx hb d_Opn_lookAtPage_301 (by decide) (fun c3 => ?_) (fun c3 => ?_)
  · have hw := hw.1 c3
    exact hret x2 H locs 311 ls d_Opn_lookAtPage_311 hw hW hS
  · have hw := hw.2 c3
    refine lv_aload_n hx hb d_Opn_lookAtPage_304 rfl (lv_at hl 0 rfl) ?_
    refine lv_iload_n hx hb d_Opn_lookAtPage_305 rfl (lv_at hl 1 rfl) ?_
    refine lv_iload_n hx hb d_Opn_lookAtPage_306 rfl (lv_at hl 2 rfl) ?_
    refine lv_iload_n hx hb d_Opn_lookAtPage_307 rfl (lv_at hl 3 rfl) ?_
    have hF := hW.free hS hA
    refine va_callv (va_runV (C := R_Opn) (As := [.int l1, .int l2, .int l3]) (rest := []) ⟨hx, hb, hml, hown, hT⟩ (k_Opn_keepPage l dC dI cI cB cJ cZ ad NN E tM tC kK kV hNN H.size o l1 l2 l3 x2 fo hw) ⟨callB_of 3 hT (gwt_in w_7_46) rfl rfl rfl (hT _ w_1_10) (hT _ w_7_43) (by decide +kernel) ⟨Nat.le_trans (Nat.le_of_ble_eq_true rfl) hRf, Nat.le_trans (Nat.le_of_ble_eq_true rfl) hRl⟩, hT _ w_7_45, hT _ ws_58⟩ ⟨PVc.blind, va_recv hK hW.1 (ci := 7) (q0 := o) rfl (pic_obj fo.1 fo.2 (by decide)), PVc.at _ hW hK hN hE hS hF⟩ rfl rfl hl.1 rfl (lv_room (Nat.le_of_ble_eq_true rfl)) d_Opn_lookAtPage_308 ⟨hRc, hRs⟩) hS (fun q _ h => hF q h) hF (fun  x4 t H locs ht hvm hw hB hz1 hk1 hS => ?_)
    have hW := Wd.back hB ht hF
    clear hB ht hF hz1 hk1 hvm
    exact hret x4 H locs 311 ls d_Opn_lookAtPage_311 hw hW hS
set_option maxRecDepth 100000 in
set_option maxHeartbeats 4000000 in
set_option maxRecDepth 100000 in
theorem t_Opn_lookAtPage_249 {p : Program} {l : Launch} {e : Env} {R : Room} {s : State} {m : MethodId} {args : Array Value} {below : List Frame} {meth : Method} {c : Code} {cells slots : Nat} {Q : State → Prop} {dC : Nat → ClassId} {dI : Nat → Nat → Nat} {cI cB cJ cZ : ClassId} {A : Nat → Prop} {ad : Nat → Nat} {NN : Nat} {E : Heap} {tM tC : Nat} {kK kV : Nat → Nat} {post : St → Prop} (hx : p.tables.exec = Jvm.exec) (hb : c.code = b_Opn_lookAtPage) (hml : c.maxLocals = 9) (hown : s.vm.findClass R_Opn = some m.cls) (hT : ∀ w ∈ TG, w.before args s = true) (hK : va_K (dC, dI) CL (TY cI cB cJ cZ) s) (hN : NW s) (hA : ∀ q : Nat, s.heap.size ≤ q → A q) (hRc : cells ≤ R.cells) (hRs : slots ≤ R.slots) (hRf : 6 ≤ R.frames) (hRl : 221 ≤ R.locals) (hNN : 152 ≤ NN) (hE : CE E tM tC kK kV A s) (hret : ∀ (x : St) (H : Heap) (locs : List Loc) (pc : Nat) (ls : Array Slot), decode b_Opn_lookAtPage pc = .ok (.return_, 1) → post x → Wd dC dI cI cB cJ cZ ad stC kcC NN A x H → va_S A s.heap H locs → W p l e R s m args below meth c H locs cells slots Q (F0 m pc ls []))  : ∀ (o : Nat) (l1 : Int32) (l2 : Int32) (l3 : Int32) (l4 : Int32) (l5 : Int32) (l6 : Int32) (l7 : Int32) (l8 : Int32) (s0 : Int32) (s1 : Nat) (x : St) (H : Heap) (locs : List Loc) (ls : Array Slot), (o < NN ∧ kcC o = 7) → (s1 < NN ∧ kcC s1 = 8) → j_Opn_lookAtPage_249 post o l1 l2 l3 l4 l5 l6 l7 l8 s0 s1 x → Wd dC dI cI cB cJ cZ ad stC kcC NN A x H → va_S A s.heap H locs → lv_has ls 9 [(0, .ref (ad o)), (1, .int l1), (2, .int l2), (3, .int l3), (4, .int l4), (5, .int l5), (6, .int l6), (7, .int l7), (8, .int l8)] → W p l e R s m args below meth c H locs cells slots Q (F0 m 249 ls [.int s0, .ref (ad s1)]) := by
  intro o l1 l2 l3 l4 l5 l6 l7 l8 s0 s1 x H locs ls fo fs1 hw hW hS hl
  unfold j_Opn_lookAtPage_249 at hw
  refine lv_bipush (v := 22) hx hb d_Opn_lookAtPage_249 (by decide) ?_
  have hF := hW.free hS hA
  refine va_callv (va_runV (C := R_Src) (As := [.int s0, .int 22]) (rest := []) ⟨hx, hb, hml, hown, hT⟩ (k_Src_check l dC dI cI cB cJ cZ ad NN E tM tC kK kV hNN H.size s1 s0 22 x fs1 hw) ⟨callB_of 2 hT (gwt_in w_6_116) rfl rfl rfl (hT _ w_1_11) (hT _ w_6_113) (by decide +kernel) ⟨Nat.le_trans (Nat.le_of_ble_eq_true rfl) hRf, Nat.le_trans (Nat.le_of_ble_eq_true rfl) hRl⟩, hT _ w_6_114, hT _ w_6_115⟩ ⟨PVc.blind, va_recv hK hW.1 (ci := 8) (q0 := s1) rfl (pic_obj fs1.1 fs1.2 (by decide)), PVc.at _ hW hK hN hE hS hF⟩ rfl rfl hl.1 rfl (lv_room (Nat.le_of_ble_eq_true rfl)) d_Opn_lookAtPage_251 ⟨hRc, hRs⟩) hS (fun q _ h => hF q h) hF (fun  x5 t H locs ht hvm hw hB hz1 hk1 hS => ?_)
  have hW := Wd.back hB ht hF
  clear hB ht hF hz1 hk1 hvm
  refine lv_aload_n hx hb d_Opn_lookAtPage_254 rfl (lv_at hl 0 rfl) ?_
  refine w_getf (q := (stC o 2)) (k := 2) (t := 7) (C := R_Opn) (T := F_Opn) (N := 17) hx hb hT hown hK hW fo.1 fo.2 (by decide) in_Opn rfl rfl (by decide) rfl fr_Opn_2 w_3_17 d_Opn_lookAtPage_255 rfl ?_
  refine lv_aload_n hx hb d_Opn_lookAtPage_258 rfl (lv_at hl 0 rfl) ?_
  refine w_getf (q := (stC o 0)) (k := 0) (t := 7) (C := R_Opn) (T := F_Opn) (N := 17) hx hb hT hown hK hW fo.1 fo.2 (by decide) in_Opn rfl rfl (by decide) rfl fr_Opn_0 w_3_15 d_Opn_lookAtPage_259 rfl ?_
  refine w_getf (q := (stC (stC o 0) 7)) (k := 7) (t := 6) (C := R_Vlt) (T := F_Vlt) (N := 20) hx hb hT hown hK hW (st_ty hNN fo.1 fo.2 rfl).1 (st_ty hNN fo.1 fo.2 rfl).2 (by decide) in_Vlt rfl rfl (by decide) rfl fr_Vlt_7 w_2_146 d_Opn_lookAtPage_262 rfl ?_
  refine lv_aload_n hx hb d_Opn_lookAtPage_265 rfl (lv_at hl 0 rfl) ?_
  refine w_getf (q := (stC o 0)) (k := 0) (t := 7) (C := R_Opn) (T := F_Opn) (N := 17) hx hb hT hown hK hW fo.1 fo.2 (by decide) in_Opn rfl rfl (by decide) rfl fr_Opn_0 w_3_15 d_Opn_lookAtPage_266 rfl ?_
  refine w_geti (k := 4) (t := 6) (C := R_Vlt) (T := F_Vlt) (N := 20) hx hb hT hown hK hW (st_ty hNN fo.1 fo.2 rfl).1 (st_ty hNN fo.1 fo.2 rfl).2 (by decide) in_Vlt rfl rfl (by decide) rfl fr_Vlt_4 w_2_133 d_Opn_lookAtPage_269 ?_
  obtain ⟨hi, hw⟩ := hw
  refine w_bald (o := (stC (stC o 0) 7)) hx hb hK hW (st_ty hNN (st_ty hNN fo.1 fo.2 rfl).1 (st_ty hNN fo.1 fo.2 rfl).2 rfl).1 (st_ty hNN (st_ty hNN fo.1 fo.2 rfl).1 (st_ty hNN fo.1 fo.2 rfl).2 rfl).2 hi d_Opn_lookAtPage_272 ?_
  refine lv_if_ne (tgt := 280) hx hb d_Opn_lookAtPage_273 (by decide) (fun c6 => ?_) (fun c6 => ?_)
  · have hw := hw.1 c6
    refine lv_iconst (v := 0) hx hb d_Opn_lookAtPage_280 (by decide) ?_
    exact t_Opn_lookAtPage_281 hx hb hml hown hT hK hN hA hRc hRs hRf hRl hNN hE hret  o l1 l2 l3 l4 l5 l6 l7 l8 0 (stC o 2) x5 H locs ls fo (st_ty hNN fo.1 fo.2 rfl) hw hW hS (lv_sub hl [0, 1, 2, 3, 4, 5, 6, 7, 8] rfl)
  · have hw := hw.2 c6
    refine lv_iconst (v := 1) hx hb d_Opn_lookAtPage_276 (by decide) ?_
    refine lv_goto (tgt := 281) hx hb d_Opn_lookAtPage_277 (by decide) ?_
    exact t_Opn_lookAtPage_281 hx hb hml hown hT hK hN hA hRc hRs hRf hRl hNN hE hret  o l1 l2 l3 l4 l5 l6 l7 l8 1 (stC o 2) x5 H locs ls fo (st_ty hNN fo.1 fo.2 rfl) hw hW hS (lv_sub hl [0, 1, 2, 3, 4, 5, 6, 7, 8] rfl)
set_option maxRecDepth 100000 in
set_option maxHeartbeats 4000000 in
set_option maxRecDepth 100000 in
theorem t_Opn_lookAtPage_248 {p : Program} {l : Launch} {e : Env} {R : Room} {s : State} {m : MethodId} {args : Array Value} {below : List Frame} {meth : Method} {c : Code} {cells slots : Nat} {Q : State → Prop} {dC : Nat → ClassId} {dI : Nat → Nat → Nat} {cI cB cJ cZ : ClassId} {A : Nat → Prop} {ad : Nat → Nat} {NN : Nat} {E : Heap} {tM tC : Nat} {kK kV : Nat → Nat} {post : St → Prop} (hx : p.tables.exec = Jvm.exec) (hb : c.code = b_Opn_lookAtPage) (hml : c.maxLocals = 9) (hown : s.vm.findClass R_Opn = some m.cls) (hT : ∀ w ∈ TG, w.before args s = true) (hK : va_K (dC, dI) CL (TY cI cB cJ cZ) s) (hN : NW s) (hA : ∀ q : Nat, s.heap.size ≤ q → A q) (hRc : cells ≤ R.cells) (hRs : slots ≤ R.slots) (hRf : 6 ≤ R.frames) (hRl : 221 ≤ R.locals) (hNN : 152 ≤ NN) (hE : CE E tM tC kK kV A s) (hret : ∀ (x : St) (H : Heap) (locs : List Loc) (pc : Nat) (ls : Array Slot), decode b_Opn_lookAtPage pc = .ok (.return_, 1) → post x → Wd dC dI cI cB cJ cZ ad stC kcC NN A x H → va_S A s.heap H locs → W p l e R s m args below meth c H locs cells slots Q (F0 m pc ls []))  : ∀ (o : Nat) (l1 : Int32) (l2 : Int32) (l3 : Int32) (l4 : Int32) (l5 : Int32) (l6 : Int32) (l7 : Int32) (l8 : Int32) (s0 : Nat) (x : St) (H : Heap) (locs : List Loc) (ls : Array Slot), (o < NN ∧ kcC o = 7) → (s0 < NN ∧ kcC s0 = 8) → j_Opn_lookAtPage_248 post o l1 l2 l3 l4 l5 l6 l7 l8 s0 x → Wd dC dI cI cB cJ cZ ad stC kcC NN A x H → va_S A s.heap H locs → lv_has ls 9 [(0, .ref (ad o)), (1, .int l1), (2, .int l2), (3, .int l3), (4, .int l4), (5, .int l5), (6, .int l6), (7, .int l7), (8, .int l8)] → W p l e R s m args below meth c H locs cells slots Q (F0 m 248 ls [.ref (ad s0)]) := by
  intro o l1 l2 l3 l4 l5 l6 l7 l8 s0 x H locs ls fo fs0 hw hW hS hl
  unfold j_Opn_lookAtPage_248 at hw
  refine lv_iconst (v := 0) hx hb d_Opn_lookAtPage_248 (by decide) ?_
  exact t_Opn_lookAtPage_249 hx hb hml hown hT hK hN hA hRc hRs hRf hRl hNN hE hret  o l1 l2 l3 l4 l5 l6 l7 l8 0 s0 x H locs ls fo fs0 hw hW hS (lv_sub hl [0, 1, 2, 3, 4, 5, 6, 7, 8] rfl)
set_option maxRecDepth 100000 in
set_option maxHeartbeats 4000000 in
set_option maxRecDepth 100000 in
theorem t_Opn_lookAtPage_156 {p : Program} {l : Launch} {e : Env} {R : Room} {s : State} {m : MethodId} {args : Array Value} {below : List Frame} {meth : Method} {c : Code} {cells slots : Nat} {Q : State → Prop} {dC : Nat → ClassId} {dI : Nat → Nat → Nat} {cI cB cJ cZ : ClassId} {A : Nat → Prop} {ad : Nat → Nat} {NN : Nat} {E : Heap} {tM tC : Nat} {kK kV : Nat → Nat} {post : St → Prop} (hx : p.tables.exec = Jvm.exec) (hb : c.code = b_Opn_lookAtPage) (hml : c.maxLocals = 9) (hown : s.vm.findClass R_Opn = some m.cls) (hT : ∀ w ∈ TG, w.before args s = true) (hK : va_K (dC, dI) CL (TY cI cB cJ cZ) s) (hN : NW s) (hA : ∀ q : Nat, s.heap.size ≤ q → A q) (hRc : cells ≤ R.cells) (hRs : slots ≤ R.slots) (hRf : 6 ≤ R.frames) (hRl : 221 ≤ R.locals) (hNN : 152 ≤ NN) (hE : CE E tM tC kK kV A s) (hret : ∀ (x : St) (H : Heap) (locs : List Loc) (pc : Nat) (ls : Array Slot), decode b_Opn_lookAtPage pc = .ok (.return_, 1) → post x → Wd dC dI cI cB cJ cZ ad stC kcC NN A x H → va_S A s.heap H locs → W p l e R s m args below meth c H locs cells slots Q (F0 m pc ls []))  : ∀ (o : Nat) (l1 : Int32) (l2 : Int32) (l3 : Int32) (l4 : Int32) (l5 : Int32) (l6 : Int32) (l7 : Int32) (l8 : Int32) (s0 : Int32) (s1 : Nat) (x : St) (H : Heap) (locs : List Loc) (ls : Array Slot), (o < NN ∧ kcC o = 7) → (s1 < NN ∧ kcC s1 = 8) → j_Opn_lookAtPage_156 post o l1 l2 l3 l4 l5 l6 l7 l8 s0 s1 x → Wd dC dI cI cB cJ cZ ad stC kcC NN A x H → va_S A s.heap H locs → lv_has ls 9 [(0, .ref (ad o)), (1, .int l1), (2, .int l2), (3, .int l3), (4, .int l4), (5, .int l5), (6, .int l6), (7, .int l7), (8, .int l8)] → W p l e R s m args below meth c H locs cells slots Q (F0 m 156 ls [.int s0, .ref (ad s1)]) := by
  intro o l1 l2 l3 l4 l5 l6 l7 l8 s0 s1 x H locs ls fo fs1 hw hW hS hl
  unfold j_Opn_lookAtPage_156 at hw
  refine lv_bipush (v := 10) hx hb d_Opn_lookAtPage_156 (by decide) ?_
  have hF := hW.free hS hA
  refine va_callv (va_runV (C := R_Src) (As := [.int s0, .int 10]) (rest := []) ⟨hx, hb, hml, hown, hT⟩ (k_Src_check l dC dI cI cB cJ cZ ad NN E tM tC kK kV hNN H.size s1 s0 10 x fs1 hw) ⟨callB_of 2 hT (gwt_in w_6_116) rfl rfl rfl (hT _ w_1_11) (hT _ w_6_113) (by decide +kernel) ⟨Nat.le_trans (Nat.le_of_ble_eq_true rfl) hRf, Nat.le_trans (Nat.le_of_ble_eq_true rfl) hRl⟩, hT _ w_6_114, hT _ w_6_115⟩ ⟨PVc.blind, va_recv hK hW.1 (ci := 8) (q0 := s1) rfl (pic_obj fs1.1 fs1.2 (by decide)), PVc.at _ hW hK hN hE hS hF⟩ rfl rfl hl.1 rfl (lv_room (Nat.le_of_ble_eq_true rfl)) d_Opn_lookAtPage_158 ⟨hRc, hRs⟩) hS (fun q _ h => hF q h) hF (fun  x7 t H locs ht hvm hw hB hz1 hk1 hS => ?_)
  have hW := Wd.back hB ht hF
  clear hB ht hF hz1 hk1 hvm
  refine lv_aload_n hx hb d_Opn_lookAtPage_161 rfl (lv_at hl 0 rfl) ?_
  refine w_getf (q := (stC o 2)) (k := 2) (t := 7) (C := R_Opn) (T := F_Opn) (N := 17) hx hb hT hown hK hW fo.1 fo.2 (by decide) in_Opn rfl rfl (by decide) rfl fr_Opn_2 w_3_17 d_Opn_lookAtPage_162 rfl ?_
  refine w_geti (k := 3) (t := 8) (C := R_Src) (T := F_Src) (N := 5) hx hb hT hown hK hW (st_ty hNN fo.1 fo.2 rfl).1 (st_ty hNN fo.1 fo.2 rfl).2 (by decide) in_Src rfl rfl (by decide) rfl fr_Src_3 w_3_2 d_Opn_lookAtPage_165 ?_
  refine lv_if_eq (tgt := 172) hx hb d_Opn_lookAtPage_168 (by decide) (fun c8 => ?_) (fun c8 => ?_)
  · have hw := hw.1 c8
    refine lv_aload_n hx hb d_Opn_lookAtPage_172 rfl (lv_at hl 0 rfl) ?_
    refine lv_iload hx hb d_Opn_lookAtPage_173 (lv_at hl 7 rfl) ?_
    refine lv_iload hx hb d_Opn_lookAtPage_175 (lv_at hl 8 rfl) ?_
    refine lv_isub hx hb d_Opn_lookAtPage_177 ?_
    refine w_puti (ty := .int) (k := 9) (t := 7) (C := R_Opn) (T := F_Opn) (N := 17) hx hb hT hown hK hW hS fo.1 fo.2 (by decide) in_Opn t_Opn t_Opn_ok n_Opn rfl rfl (by decide) rfl fr_Opn_9 w_3_25 (by decide +kernel) rfl rfl d_Opn_lookAtPage_178 (fun H locs hW hS => ?_)
    obtain ⟨x9, ex9⟩ : ∃ y : St, y = setI x7 o 9 (l7 - l8) := ⟨_, rfl⟩
    rw [← ex9] at hW
    have hw := hw x9 ex9
    refine lv_aload_n hx hb d_Opn_lookAtPage_181 rfl (lv_at hl 0 rfl) ?_
    refine lv_iconst (v := 0) hx hb d_Opn_lookAtPage_182 (by decide) ?_
    refine w_puti (ty := .int) (k := 15) (t := 7) (C := R_Opn) (T := F_Opn) (N := 17) hx hb hT hown hK hW hS fo.1 fo.2 (by decide) in_Opn t_Opn t_Opn_ok n_Opn rfl rfl (by decide) rfl fr_Opn_15 w_3_31 (by decide +kernel) rfl rfl d_Opn_lookAtPage_183 (fun H locs hW hS => ?_)
    obtain ⟨x10, ex10⟩ : ∃ y : St, y = setI x9 o 15 0 := ⟨_, rfl⟩
    rw [← ex10] at hW
    have hw := hw x10 ex10
    refine lv_aload_n hx hb d_Opn_lookAtPage_186 rfl (lv_at hl 0 rfl) ?_
    refine lv_iload hx hb d_Opn_lookAtPage_187 (lv_at hl 5 rfl) ?_
    refine lv_iload hx hb d_Opn_lookAtPage_189 (lv_at hl 6 rfl) ?_
    refine lv_iload_n hx hb d_Opn_lookAtPage_191 rfl (lv_at hl 3 rfl) ?_
    have hF := hW.free hS hA
    refine va_callv (va_runV (C := R_Opn) (As := [.int l5, .int l6, .int l3]) (rest := []) ⟨hx, hb, hml, hown, hT⟩ (k_Opn_readValues l dC dI cI cB cJ cZ ad NN E tM tC kK kV hNN H.size o l5 l6 l3 x10 fo hw) ⟨callB_of 3 hT (gwt_in w_6_223) rfl rfl rfl (hT _ w_1_10) (hT _ w_6_220) (by decide +kernel) ⟨Nat.le_trans (Nat.le_of_ble_eq_true rfl) hRf, Nat.le_trans (Nat.le_of_ble_eq_true rfl) hRl⟩, hT _ w_6_222, hT _ ws_47⟩ ⟨PVc.blind, va_recv hK hW.1 (ci := 7) (q0 := o) rfl (pic_obj fo.1 fo.2 (by decide)), PVc.at _ hW hK hN hE hS hF⟩ rfl rfl hl.1 rfl (lv_room (Nat.le_of_ble_eq_true rfl)) d_Opn_lookAtPage_192 ⟨hRc, hRs⟩) hS (fun q _ h => hF q h) hF (fun  x11 t H locs ht hvm hw hB hz1 hk1 hS => ?_)
    have hW := Wd.back hB ht hF
    clear hB ht hF hz1 hk1 hvm
    refine lv_aload_n hx hb d_Opn_lookAtPage_195 rfl (lv_at hl 0 rfl) ?_
    refine w_getf (q := (stC o 2)) (k := 2) (t := 7) (C := R_Opn) (T := F_Opn) (N := 17) hx hb hT hown hK hW fo.1 fo.2 (by decide) in_Opn rfl rfl (by decide) rfl fr_Opn_2 w_3_17 d_Opn_lookAtPage_196 rfl ?_
    have hF := hW.free hS hA
    refine va_callv (va_runV (C := R_Src) (As := []) (rest := []) ⟨hx, hb, hml, hown, hT⟩ (k_Src_checkEnd l dC dI cI cB cJ cZ ad NN E tM tC kK kV hNN H.size (stC o 2) x11 (st_ty hNN fo.1 fo.2 rfl) hw) ⟨callB_of 0 hT (gwt_in w_6_167) rfl rfl rfl (hT _ w_1_11) (hT _ w_6_164) (by decide +kernel) ⟨Nat.le_trans (Nat.le_of_ble_eq_true rfl) hRf, Nat.le_trans (Nat.le_of_ble_eq_true rfl) hRl⟩, hT _ w_6_165, hT _ w_6_166⟩ ⟨PVc.blind, va_recv hK hW.1 (ci := 8) (q0 := (stC o 2)) rfl (pic_obj (st_ty hNN fo.1 fo.2 rfl).1 (st_ty hNN fo.1 fo.2 rfl).2 (by decide)), PVc.at _ hW hK hN hE hS hF⟩ rfl rfl hl.1 rfl (lv_room (Nat.le_of_ble_eq_true rfl)) d_Opn_lookAtPage_199 ⟨hRc, hRs⟩) hS (fun q _ h => hF q h) hF (fun  x12 t H locs ht hvm hw hB hz1 hk1 hS => ?_)
    have hW := Wd.back hB ht hF
    clear hB ht hF hz1 hk1 hvm
    refine lv_aload_n hx hb d_Opn_lookAtPage_202 rfl (lv_at hl 0 rfl) ?_
    refine lv_iload hx hb d_Opn_lookAtPage_203 (lv_at hl 5 rfl) ?_
    refine lv_iload_n hx hb d_Opn_lookAtPage_205 rfl (lv_at hl 3 rfl) ?_
    have hF := hW.free hS hA
    refine va_callv (va_runV (C := R_Opn) (As := [.int l5, .int l3]) (rest := []) ⟨hx, hb, hml, hown, hT⟩ (k_Opn_checkBounds l dC dI cI cB cJ cZ ad NN E tM tC kK kV hNN H.size o l5 l3 x12 fo hw) ⟨callB_of 2 hT (gwt_in w_7_28) rfl rfl rfl (hT _ w_1_10) (hT _ w_7_25) (by decide +kernel) ⟨Nat.le_trans (Nat.le_of_ble_eq_true rfl) hRf, Nat.le_trans (Nat.le_of_ble_eq_true rfl) hRl⟩, hT _ w_7_27, hT _ ws_55⟩ ⟨PVc.blind, va_recv hK hW.1 (ci := 7) (q0 := o) rfl (pic_obj fo.1 fo.2 (by decide)), PVc.at _ hW hK hN hE hS hF⟩ rfl rfl hl.1 rfl (lv_room (Nat.le_of_ble_eq_true rfl)) d_Opn_lookAtPage_206 ⟨hRc, hRs⟩) hS (fun q _ h => hF q h) hF (fun  x13 t H locs ht hvm hw hB hz1 hk1 hS => ?_)
    have hW := Wd.back hB ht hF
    clear hB ht hF hz1 hk1 hvm
    refine lv_aload_n hx hb d_Opn_lookAtPage_209 rfl (lv_at hl 0 rfl) ?_
    refine w_getf (q := (stC o 2)) (k := 2) (t := 7) (C := R_Opn) (T := F_Opn) (N := 17) hx hb hT hown hK hW fo.1 fo.2 (by decide) in_Opn rfl rfl (by decide) rfl fr_Opn_2 w_3_17 d_Opn_lookAtPage_210 rfl ?_
    refine lv_aload_n hx hb d_Opn_lookAtPage_213 rfl (lv_at hl 0 rfl) ?_
    refine w_getf (q := (stC o 0)) (k := 0) (t := 7) (C := R_Opn) (T := F_Opn) (N := 17) hx hb hT hown hK hW fo.1 fo.2 (by decide) in_Opn rfl rfl (by decide) rfl fr_Opn_0 w_3_15 d_Opn_lookAtPage_214 rfl ?_
    refine w_geti (k := 4) (t := 6) (C := R_Vlt) (T := F_Vlt) (N := 20) hx hb hT hown hK hW (st_ty hNN fo.1 fo.2 rfl).1 (st_ty hNN fo.1 fo.2 rfl).2 (by decide) in_Vlt rfl rfl (by decide) rfl fr_Vlt_4 w_2_133 d_Opn_lookAtPage_217 ?_
    refine lv_iload hx hb d_Opn_lookAtPage_220 (lv_at hl 7 rfl) ?_
    refine lv_iadd hx hb d_Opn_lookAtPage_222 ?_
    refine lv_sipush (v := 10000) hx hb d_Opn_lookAtPage_223 (by decide) ?_
    refine lv_icmp_gt (tgt := 248) hx hb d_Opn_lookAtPage_226 (by decide) (fun c14 => ?_) (fun c14 => ?_)
    · have hw := hw.1 c14
      exact t_Opn_lookAtPage_248 hx hb hml hown hT hK hN hA hRc hRs hRf hRl hNN hE hret  o l1 l2 l3 l4 l5 l6 l7 l8 (stC o 2) x13 H locs ls fo (st_ty hNN fo.1 fo.2 rfl) hw hW hS (lv_sub hl [0, 1, 2, 3, 4, 5, 6, 7, 8] rfl)
    · have hw := hw.2 c14
      refine lv_aload_n hx hb d_Opn_lookAtPage_229 rfl (lv_at hl 0 rfl) ?_
      refine w_geti (k := 16) (t := 7) (C := R_Opn) (T := F_Opn) (N := 17) hx hb hT hown hK hW fo.1 fo.2 (by decide) in_Opn rfl rfl (by decide) rfl fr_Opn_16 w_3_32 d_Opn_lookAtPage_230 ?_
      refine lv_aload_n hx hb d_Opn_lookAtPage_233 rfl (lv_at hl 0 rfl) ?_
      refine w_geti (k := 15) (t := 7) (C := R_Opn) (T := F_Opn) (N := 17) hx hb hT hown hK hW fo.1 fo.2 (by decide) in_Opn rfl rfl (by decide) rfl fr_Opn_15 w_3_31 d_Opn_lookAtPage_234 ?_
      refine lv_iadd hx hb d_Opn_lookAtPage_237 ?_
      refine lv_ldcw hx hb hown (hT _ w_7_34) d_Opn_lookAtPage_238 ?_
      refine lv_icmp_gt (tgt := 248) hx hb d_Opn_lookAtPage_241 (by decide) (fun c15 => ?_) (fun c15 => ?_)
      · have hw := hw.1 c15
        exact t_Opn_lookAtPage_248 hx hb hml hown hT hK hN hA hRc hRs hRf hRl hNN hE hret  o l1 l2 l3 l4 l5 l6 l7 l8 (stC o 2) x13 H locs ls fo (st_ty hNN fo.1 fo.2 rfl) hw hW hS (lv_sub hl [0, 1, 2, 3, 4, 5, 6, 7, 8] rfl)
      · have hw := hw.2 c15
        refine lv_iconst (v := 1) hx hb d_Opn_lookAtPage_244 (by decide) ?_
        refine lv_goto (tgt := 249) hx hb d_Opn_lookAtPage_245 (by decide) ?_
        exact t_Opn_lookAtPage_249 hx hb hml hown hT hK hN hA hRc hRs hRf hRl hNN hE hret  o l1 l2 l3 l4 l5 l6 l7 l8 1 (stC o 2) x13 H locs ls fo (st_ty hNN fo.1 fo.2 rfl) hw hW hS (lv_sub hl [0, 1, 2, 3, 4, 5, 6, 7, 8] rfl)
  · have hw := hw.2 c8
    exact hret x7 H locs 171 ls d_Opn_lookAtPage_171 hw hW hS
set_option maxRecDepth 100000 in
set_option maxHeartbeats 4000000 in
set_option maxRecDepth 100000 in
theorem t_Opn_lookAtPage_e {p : Program} {l : Launch} {e : Env} {R : Room} {s : State} {m : MethodId} {args : Array Value} {below : List Frame} {meth : Method} {c : Code} {cells slots : Nat} {Q : State → Prop} {dC : Nat → ClassId} {dI : Nat → Nat → Nat} {cI cB cJ cZ : ClassId} {A : Nat → Prop} {ad : Nat → Nat} {NN : Nat} {E : Heap} {tM tC : Nat} {kK kV : Nat → Nat} {post : St → Prop} (hx : p.tables.exec = Jvm.exec) (hb : c.code = b_Opn_lookAtPage) (hml : c.maxLocals = 9) (hown : s.vm.findClass R_Opn = some m.cls) (hT : ∀ w ∈ TG, w.before args s = true) (hK : va_K (dC, dI) CL (TY cI cB cJ cZ) s) (hN : NW s) (hA : ∀ q : Nat, s.heap.size ≤ q → A q) (hRc : cells ≤ R.cells) (hRs : slots ≤ R.slots) (hRf : 6 ≤ R.frames) (hRl : 221 ≤ R.locals) (hNN : 152 ≤ NN) (hE : CE E tM tC kK kV A s) (hret : ∀ (x : St) (H : Heap) (locs : List Loc) (pc : Nat) (ls : Array Slot), decode b_Opn_lookAtPage pc = .ok (.return_, 1) → post x → Wd dC dI cI cB cJ cZ ad stC kcC NN A x H → va_S A s.heap H locs → W p l e R s m args below meth c H locs cells slots Q (F0 m pc ls [])) : ∀ (o : Nat) (l1 : Int32) (l2 : Int32) (l3 : Int32) (x : St) (H : Heap) (locs : List Loc) (ls : Array Slot), (o < NN ∧ kcC o = 7) → wp_Opn_lookAtPage post o l1 l2 l3 x → Wd dC dI cI cB cJ cZ ad stC kcC NN A x H → va_S A s.heap H locs → lv_has ls 9 [(0, .ref (ad o)), (1, .int l1), (2, .int l2), (3, .int l3)] → W p l e R s m args below meth c H locs cells slots Q (F0 m 0 ls []) := by
  intro o l1 l2 l3 x H locs ls fo hw hW hS hl
  unfold wp_Opn_lookAtPage at hw
  refine lv_aload_n hx hb d_Opn_lookAtPage_0 rfl (lv_at hl 0 rfl) ?_
  refine w_getf (q := (stC o 0)) (k := 0) (t := 7) (C := R_Opn) (T := F_Opn) (N := 17) hx hb hT hown hK hW fo.1 fo.2 (by decide) in_Opn rfl rfl (by decide) rfl fr_Opn_0 w_3_15 d_Opn_lookAtPage_1 rfl ?_
  refine w_getf (q := (stC (stC o 0) 5)) (k := 5) (t := 6) (C := R_Vlt) (T := F_Vlt) (N := 20) hx hb hT hown hK hW (st_ty hNN fo.1 fo.2 rfl).1 (st_ty hNN fo.1 fo.2 rfl).2 (by decide) in_Vlt rfl rfl (by decide) rfl fr_Vlt_5 w_2_136 d_Opn_lookAtPage_4 rfl ?_
  refine w_getf (q := (stC (stC (stC o 0) 5) 10)) (k := 10) (t := 3) (C := R_Sch) (T := F_Sch) (N := 13) hx hb hT hown hK hW (st_ty hNN (st_ty hNN fo.1 fo.2 rfl).1 (st_ty hNN fo.1 fo.2 rfl).2 rfl).1 (st_ty hNN (st_ty hNN fo.1 fo.2 rfl).1 (st_ty hNN fo.1 fo.2 rfl).2 rfl).2 (by decide) in_Sch rfl rfl (by decide) rfl fr_Sch_10 w_1_181 d_Opn_lookAtPage_7 rfl ?_
  refine lv_iload_n hx hb d_Opn_lookAtPage_10 rfl (lv_at hl 1 rfl) ?_
  obtain ⟨hi, hw⟩ := hw
  refine w_iald (o := (stC (stC (stC o 0) 5) 10)) hx hb hK hW (st_ty hNN (st_ty hNN (st_ty hNN fo.1 fo.2 rfl).1 (st_ty hNN fo.1 fo.2 rfl).2 rfl).1 (st_ty hNN (st_ty hNN fo.1 fo.2 rfl).1 (st_ty hNN fo.1 fo.2 rfl).2 rfl).2 rfl).1 (st_ty hNN (st_ty hNN (st_ty hNN fo.1 fo.2 rfl).1 (st_ty hNN fo.1 fo.2 rfl).2 rfl).1 (st_ty hNN (st_ty hNN fo.1 fo.2 rfl).1 (st_ty hNN fo.1 fo.2 rfl).2 rfl).2 rfl).2 hi d_Opn_lookAtPage_11 ?_
  refine lv_topi (fun v16 ev16 => ?_)
  have hw := hw v16 ev16
  refine lv_istore (lv' := [(4, .int v16), (0, .ref (ad o)), (1, .int l1), (2, .int l2), (3, .int l3)]) hx hb d_Opn_lookAtPage_12 hl (by decide) rfl (fun ls hl => ?_)
  refine lv_aload_n hx hb d_Opn_lookAtPage_14 rfl (lv_at hl 1 rfl) ?_
  refine w_getf (q := (stC o 0)) (k := 0) (t := 7) (C := R_Opn) (T := F_Opn) (N := 17) hx hb hT hown hK hW fo.1 fo.2 (by decide) in_Opn rfl rfl (by decide) rfl fr_Opn_0 w_3_15 d_Opn_lookAtPage_15 rfl ?_
  refine w_getf (q := (stC (stC o 0) 5)) (k := 5) (t := 6) (C := R_Vlt) (T := F_Vlt) (N := 20) hx hb hT hown hK hW (st_ty hNN fo.1 fo.2 rfl).1 (st_ty hNN fo.1 fo.2 rfl).2 (by decide) in_Vlt rfl rfl (by decide) rfl fr_Vlt_5 w_2_136 d_Opn_lookAtPage_18 rfl ?_
  refine w_getf (q := (stC (stC (stC o 0) 5) 3)) (k := 3) (t := 3) (C := R_Sch) (T := F_Sch) (N := 13) hx hb hT hown hK hW (st_ty hNN (st_ty hNN fo.1 fo.2 rfl).1 (st_ty hNN fo.1 fo.2 rfl).2 rfl).1 (st_ty hNN (st_ty hNN fo.1 fo.2 rfl).1 (st_ty hNN fo.1 fo.2 rfl).2 rfl).2 (by decide) in_Sch rfl rfl (by decide) rfl fr_Sch_3 w_1_147 d_Opn_lookAtPage_21 rfl ?_
  refine lv_iload hx hb d_Opn_lookAtPage_24 (lv_at hl 0 rfl) ?_
  obtain ⟨hi, hw⟩ := hw
  refine w_iald (o := (stC (stC (stC o 0) 5) 3)) hx hb hK hW (st_ty hNN (st_ty hNN (st_ty hNN fo.1 fo.2 rfl).1 (st_ty hNN fo.1 fo.2 rfl).2 rfl).1 (st_ty hNN (st_ty hNN fo.1 fo.2 rfl).1 (st_ty hNN fo.1 fo.2 rfl).2 rfl).2 rfl).1 (st_ty hNN (st_ty hNN (st_ty hNN fo.1 fo.2 rfl).1 (st_ty hNN fo.1 fo.2 rfl).2 rfl).1 (st_ty hNN (st_ty hNN fo.1 fo.2 rfl).1 (st_ty hNN fo.1 fo.2 rfl).2 rfl).2 rfl).2 hi d_Opn_lookAtPage_26 ?_
  refine lv_topi (fun v17 ev17 => ?_)
  have hw := hw v17 ev17
  refine lv_istore (lv' := [(5, .int v17), (4, .int v16), (0, .ref (ad o)), (1, .int l1), (2, .int l2), (3, .int l3)]) hx hb d_Opn_lookAtPage_27 hl (by decide) rfl (fun ls hl => ?_)
  refine lv_aload_n hx hb d_Opn_lookAtPage_29 rfl (lv_at hl 2 rfl) ?_
  refine lv_iload hx hb d_Opn_lookAtPage_30 (lv_at hl 0 rfl) ?_
  refine lv_iload_n hx hb d_Opn_lookAtPage_32 rfl (lv_at hl 5 rfl) ?_
  have hF := hW.free hS hA
  refine va_calli (va_runV (C := R_Opn) (As := [.int v17, .int l3]) (rest := []) ⟨hx, hb, hml, hown, hT⟩ (k_Opn_readPageHead l dC dI cI cB cJ cZ ad NN E tM tC kK kV hNN H.size o v17 l3 x fo hw) ⟨callB_of 2 hT (gwt_in w_6_188) rfl rfl rfl (hT _ w_1_10) (hT _ w_6_185) (by decide +kernel) ⟨Nat.le_trans (Nat.le_of_ble_eq_true rfl) hRf, Nat.le_trans (Nat.le_of_ble_eq_true rfl) hRl⟩, hT _ w_6_187, hT _ ws_41⟩ ⟨PVc.blind, va_recv hK hW.1 (ci := 7) (q0 := o) rfl (pic_obj fo.1 fo.2 (by decide)), PVc.at _ hW hK hN hE hS hF⟩ rfl rfl hl.1 rfl (lv_room (Nat.le_of_ble_eq_true rfl)) d_Opn_lookAtPage_33 ⟨hRc, hRs⟩) hS (fun q _ h => hF q h) hF (fun r19 x18 t H locs ht hvm hw hB hz1 hk1 hS => ?_)
  have hW := Wd.back hB ht hF
  clear hB ht hF hz1 hk1 hvm
  refine lv_istore (lv' := [(6, .int r19), (5, .int v17), (4, .int v16), (0, .ref (ad o)), (1, .int l1), (2, .int l2), (3, .int l3)]) hx hb d_Opn_lookAtPage_36 hl (by decide) rfl (fun ls hl => ?_)
  refine lv_aload_n hx hb d_Opn_lookAtPage_38 rfl (lv_at hl 3 rfl) ?_
  refine w_getf (q := (stC o 2)) (k := 2) (t := 7) (C := R_Opn) (T := F_Opn) (N := 17) hx hb hT hown hK hW fo.1 fo.2 (by decide) in_Opn rfl rfl (by decide) rfl fr_Opn_2 w_3_17 d_Opn_lookAtPage_39 rfl ?_
  refine w_geti (k := 3) (t := 8) (C := R_Src) (T := F_Src) (N := 5) hx hb hT hown hK hW (st_ty hNN fo.1 fo.2 rfl).1 (st_ty hNN fo.1 fo.2 rfl).2 (by decide) in_Src rfl rfl (by decide) rfl fr_Src_3 w_3_2 d_Opn_lookAtPage_42 ?_
  refine lv_if_eq (tgt := 49) hx hb d_Opn_lookAtPage_45 (by decide) (fun c20 => ?_) (fun c20 => ?_)
  · have hw := hw.1 c20
    refine lv_aload_n hx hb d_Opn_lookAtPage_49 rfl (lv_at hl 3 rfl) ?_
    refine w_getf (q := (stC o 0)) (k := 0) (t := 7) (C := R_Opn) (T := F_Opn) (N := 17) hx hb hT hown hK hW fo.1 fo.2 (by decide) in_Opn rfl rfl (by decide) rfl fr_Opn_0 w_3_15 d_Opn_lookAtPage_50 rfl ?_
    refine w_getf (q := (stC (stC o 0) 14)) (k := 14) (t := 6) (C := R_Vlt) (T := F_Vlt) (N := 20) hx hb hT hown hK hW (st_ty hNN fo.1 fo.2 rfl).1 (st_ty hNN fo.1 fo.2 rfl).2 (by decide) in_Vlt rfl rfl (by decide) rfl fr_Vlt_14 w_2_166 d_Opn_lookAtPage_53 rfl ?_
    refine lv_iload_n hx hb d_Opn_lookAtPage_56 rfl (lv_at hl 6 rfl) ?_
    obtain ⟨hi, hw⟩ := hw
    refine w_iald (o := (stC (stC o 0) 14)) hx hb hK hW (st_ty hNN (st_ty hNN fo.1 fo.2 rfl).1 (st_ty hNN fo.1 fo.2 rfl).2 rfl).1 (st_ty hNN (st_ty hNN fo.1 fo.2 rfl).1 (st_ty hNN fo.1 fo.2 rfl).2 rfl).2 hi d_Opn_lookAtPage_57 ?_
    refine lv_topi (fun v21 ev21 => ?_)
    have hw := hw v21 ev21
    refine lv_istore (lv' := [(7, .int v21), (6, .int r19), (5, .int v17), (4, .int v16), (0, .ref (ad o)), (1, .int l1), (2, .int l2), (3, .int l3)]) hx hb d_Opn_lookAtPage_58 hl (by decide) rfl (fun ls hl => ?_)
    refine lv_aload_n hx hb d_Opn_lookAtPage_60 rfl (lv_at hl 4 rfl) ?_
    refine lv_aload_n hx hb d_Opn_lookAtPage_61 rfl (lv_at hl 4 rfl) ?_
    refine w_getf (q := (stC o 0)) (k := 0) (t := 7) (C := R_Opn) (T := F_Opn) (N := 17) hx hb hT hown hK hW fo.1 fo.2 (by decide) in_Opn rfl rfl (by decide) rfl fr_Opn_0 w_3_15 d_Opn_lookAtPage_62 rfl ?_
    refine w_getf (q := (stC (stC o 0) 7)) (k := 7) (t := 6) (C := R_Vlt) (T := F_Vlt) (N := 20) hx hb hT hown hK hW (st_ty hNN fo.1 fo.2 rfl).1 (st_ty hNN fo.1 fo.2 rfl).2 (by decide) in_Vlt rfl rfl (by decide) rfl fr_Vlt_7 w_2_146 d_Opn_lookAtPage_65 rfl ?_
    refine lv_iload hx hb d_Opn_lookAtPage_68 (lv_at hl 0 rfl) ?_
    refine lv_aload_n hx hb d_Opn_lookAtPage_70 rfl (lv_at hl 4 rfl) ?_
    refine w_getf (q := (stC o 0)) (k := 0) (t := 7) (C := R_Opn) (T := F_Opn) (N := 17) hx hb hT hown hK hW fo.1 fo.2 (by decide) in_Opn rfl rfl (by decide) rfl fr_Opn_0 w_3_15 d_Opn_lookAtPage_71 rfl ?_
    refine w_getf (q := (stC (stC o 0) 5)) (k := 5) (t := 6) (C := R_Vlt) (T := F_Vlt) (N := 20) hx hb hT hown hK hW (st_ty hNN fo.1 fo.2 rfl).1 (st_ty hNN fo.1 fo.2 rfl).2 (by decide) in_Vlt rfl rfl (by decide) rfl fr_Vlt_5 w_2_136 d_Opn_lookAtPage_74 rfl ?_
    refine w_getf (q := (stC (stC (stC o 0) 5) 5)) (k := 5) (t := 3) (C := R_Sch) (T := F_Sch) (N := 13) hx hb hT hown hK hW (st_ty hNN (st_ty hNN fo.1 fo.2 rfl).1 (st_ty hNN fo.1 fo.2 rfl).2 rfl).1 (st_ty hNN (st_ty hNN fo.1 fo.2 rfl).1 (st_ty hNN fo.1 fo.2 rfl).2 rfl).2 (by decide) in_Sch rfl rfl (by decide) rfl fr_Sch_5 w_1_161 d_Opn_lookAtPage_77 rfl ?_
    refine lv_iload hx hb d_Opn_lookAtPage_80 (lv_at hl 3 rfl) ?_
    obtain ⟨hi, hw⟩ := hw
    refine w_iald (o := (stC (stC (stC o 0) 5) 5)) hx hb hK hW (st_ty hNN (st_ty hNN (st_ty hNN fo.1 fo.2 rfl).1 (st_ty hNN fo.1 fo.2 rfl).2 rfl).1 (st_ty hNN (st_ty hNN fo.1 fo.2 rfl).1 (st_ty hNN fo.1 fo.2 rfl).2 rfl).2 rfl).1 (st_ty hNN (st_ty hNN (st_ty hNN fo.1 fo.2 rfl).1 (st_ty hNN fo.1 fo.2 rfl).2 rfl).1 (st_ty hNN (st_ty hNN fo.1 fo.2 rfl).1 (st_ty hNN fo.1 fo.2 rfl).2 rfl).2 rfl).2 hi d_Opn_lookAtPage_82 ?_
    have hF := hW.free hS hA
    refine va_callv (va_runV (C := R_Opn) (As := [.ref (ad (stC (stC o 0) 7)), .int v21, .int (rA x18 (stC (stC (stC o 0) 5) 5) v16)]) (rest := []) ⟨hx, hb, hml, hown, hT⟩ (k_Opn_readLevels l dC dI cI cB cJ cZ ad NN E tM tC kK kV hNN H.size o (stC (stC o 0) 7) v21 (rA x18 (stC (stC (stC o 0) 5) 5) v16) x18 fo (st_ty hNN (st_ty hNN fo.1 fo.2 rfl).1 (st_ty hNN fo.1 fo.2 rfl).2 rfl) hw) ⟨callB_of 3 hT (gwt_in w_6_197) rfl rfl rfl (hT _ w_1_10) (hT _ w_6_194) (by decide +kernel) ⟨Nat.le_trans (Nat.le_of_ble_eq_true rfl) hRf, Nat.le_trans (Nat.le_of_ble_eq_true rfl) hRl⟩, hT _ w_6_196, hT _ ws_42⟩ ⟨PVc.blind, va_recv hK hW.1 (ci := 7) (q0 := o) rfl (pic_obj fo.1 fo.2 (by decide)), PVc.at _ hW hK hN hE hS hF⟩ rfl rfl hl.1 rfl (lv_room (Nat.le_of_ble_eq_true rfl)) d_Opn_lookAtPage_83 ⟨hRc, hRs⟩) hS (fun q _ h => hF q h) hF (fun  x22 t H locs ht hvm hw hB hz1 hk1 hS => ?_)
    have hW := Wd.back hB ht hF
    clear hB ht hF hz1 hk1 hvm
    refine lv_aload_n hx hb d_Opn_lookAtPage_86 rfl (lv_at hl 4 rfl) ?_
    refine lv_aload_n hx hb d_Opn_lookAtPage_87 rfl (lv_at hl 4 rfl) ?_
    refine w_getf (q := (stC o 0)) (k := 0) (t := 7) (C := R_Opn) (T := F_Opn) (N := 17) hx hb hT hown hK hW fo.1 fo.2 (by decide) in_Opn rfl rfl (by decide) rfl fr_Opn_0 w_3_15 d_Opn_lookAtPage_88 rfl ?_
    refine w_getf (q := (stC (stC o 0) 8)) (k := 8) (t := 6) (C := R_Vlt) (T := F_Vlt) (N := 20) hx hb hT hown hK hW (st_ty hNN fo.1 fo.2 rfl).1 (st_ty hNN fo.1 fo.2 rfl).2 (by decide) in_Vlt rfl rfl (by decide) rfl fr_Vlt_8 w_2_149 d_Opn_lookAtPage_91 rfl ?_
    refine lv_iload hx hb d_Opn_lookAtPage_94 (lv_at hl 0 rfl) ?_
    refine lv_aload_n hx hb d_Opn_lookAtPage_96 rfl (lv_at hl 4 rfl) ?_
    refine w_getf (q := (stC o 0)) (k := 0) (t := 7) (C := R_Opn) (T := F_Opn) (N := 17) hx hb hT hown hK hW fo.1 fo.2 (by decide) in_Opn rfl rfl (by decide) rfl fr_Opn_0 w_3_15 d_Opn_lookAtPage_97 rfl ?_
    refine w_getf (q := (stC (stC o 0) 5)) (k := 5) (t := 6) (C := R_Vlt) (T := F_Vlt) (N := 20) hx hb hT hown hK hW (st_ty hNN fo.1 fo.2 rfl).1 (st_ty hNN fo.1 fo.2 rfl).2 (by decide) in_Vlt rfl rfl (by decide) rfl fr_Vlt_5 w_2_136 d_Opn_lookAtPage_100 rfl ?_
    refine w_getf (q := (stC (stC (stC o 0) 5) 6)) (k := 6) (t := 3) (C := R_Sch) (T := F_Sch) (N := 13) hx hb hT hown hK hW (st_ty hNN (st_ty hNN fo.1 fo.2 rfl).1 (st_ty hNN fo.1 fo.2 rfl).2 rfl).1 (st_ty hNN (st_ty hNN fo.1 fo.2 rfl).1 (st_ty hNN fo.1 fo.2 rfl).2 rfl).2 (by decide) in_Sch rfl rfl (by decide) rfl fr_Sch_6 w_1_167 d_Opn_lookAtPage_103 rfl ?_
    refine lv_iload hx hb d_Opn_lookAtPage_106 (lv_at hl 3 rfl) ?_
    obtain ⟨hi, hw⟩ := hw
    refine w_iald (o := (stC (stC (stC o 0) 5) 6)) hx hb hK hW (st_ty hNN (st_ty hNN (st_ty hNN fo.1 fo.2 rfl).1 (st_ty hNN fo.1 fo.2 rfl).2 rfl).1 (st_ty hNN (st_ty hNN fo.1 fo.2 rfl).1 (st_ty hNN fo.1 fo.2 rfl).2 rfl).2 rfl).1 (st_ty hNN (st_ty hNN (st_ty hNN fo.1 fo.2 rfl).1 (st_ty hNN fo.1 fo.2 rfl).2 rfl).1 (st_ty hNN (st_ty hNN fo.1 fo.2 rfl).1 (st_ty hNN fo.1 fo.2 rfl).2 rfl).2 rfl).2 hi d_Opn_lookAtPage_108 ?_
    have hF := hW.free hS hA
    refine va_callv (va_runV (C := R_Opn) (As := [.ref (ad (stC (stC o 0) 8)), .int v21, .int (rA x22 (stC (stC (stC o 0) 5) 6) v16)]) (rest := []) ⟨hx, hb, hml, hown, hT⟩ (k_Opn_readLevels l dC dI cI cB cJ cZ ad NN E tM tC kK kV hNN H.size o (stC (stC o 0) 8) v21 (rA x22 (stC (stC (stC o 0) 5) 6) v16) x22 fo (st_ty hNN (st_ty hNN fo.1 fo.2 rfl).1 (st_ty hNN fo.1 fo.2 rfl).2 rfl) hw) ⟨callB_of 3 hT (gwt_in w_6_197) rfl rfl rfl (hT _ w_1_10) (hT _ w_6_194) (by decide +kernel) ⟨Nat.le_trans (Nat.le_of_ble_eq_true rfl) hRf, Nat.le_trans (Nat.le_of_ble_eq_true rfl) hRl⟩, hT _ w_6_196, hT _ ws_42⟩ ⟨PVc.blind, va_recv hK hW.1 (ci := 7) (q0 := o) rfl (pic_obj fo.1 fo.2 (by decide)), PVc.at _ hW hK hN hE hS hF⟩ rfl rfl hl.1 rfl (lv_room (Nat.le_of_ble_eq_true rfl)) d_Opn_lookAtPage_109 ⟨hRc, hRs⟩) hS (fun q _ h => hF q h) hF (fun  x23 t H locs ht hvm hw hB hz1 hk1 hS => ?_)
    have hW := Wd.back hB ht hF
    clear hB ht hF hz1 hk1 hvm
    refine lv_aload_n hx hb d_Opn_lookAtPage_112 rfl (lv_at hl 4 rfl) ?_
    refine lv_iload hx hb d_Opn_lookAtPage_113 (lv_at hl 0 rfl) ?_
    refine lv_aload_n hx hb d_Opn_lookAtPage_115 rfl (lv_at hl 4 rfl) ?_
    refine w_getf (q := (stC o 0)) (k := 0) (t := 7) (C := R_Opn) (T := F_Opn) (N := 17) hx hb hT hown hK hW fo.1 fo.2 (by decide) in_Opn rfl rfl (by decide) rfl fr_Opn_0 w_3_15 d_Opn_lookAtPage_116 rfl ?_
    refine w_getf (q := (stC (stC o 0) 5)) (k := 5) (t := 6) (C := R_Vlt) (T := F_Vlt) (N := 20) hx hb hT hown hK hW (st_ty hNN fo.1 fo.2 rfl).1 (st_ty hNN fo.1 fo.2 rfl).2 (by decide) in_Vlt rfl rfl (by decide) rfl fr_Vlt_5 w_2_136 d_Opn_lookAtPage_119 rfl ?_
    refine w_getf (q := (stC (stC (stC o 0) 5) 6)) (k := 6) (t := 3) (C := R_Sch) (T := F_Sch) (N := 13) hx hb hT hown hK hW (st_ty hNN (st_ty hNN fo.1 fo.2 rfl).1 (st_ty hNN fo.1 fo.2 rfl).2 rfl).1 (st_ty hNN (st_ty hNN fo.1 fo.2 rfl).1 (st_ty hNN fo.1 fo.2 rfl).2 rfl).2 (by decide) in_Sch rfl rfl (by decide) rfl fr_Sch_6 w_1_167 d_Opn_lookAtPage_122 rfl ?_
    refine lv_iload hx hb d_Opn_lookAtPage_125 (lv_at hl 3 rfl) ?_
    obtain ⟨hi, hw⟩ := hw
    refine w_iald (o := (stC (stC (stC o 0) 5) 6)) hx hb hK hW (st_ty hNN (st_ty hNN (st_ty hNN fo.1 fo.2 rfl).1 (st_ty hNN fo.1 fo.2 rfl).2 rfl).1 (st_ty hNN (st_ty hNN fo.1 fo.2 rfl).1 (st_ty hNN fo.1 fo.2 rfl).2 rfl).2 rfl).1 (st_ty hNN (st_ty hNN (st_ty hNN fo.1 fo.2 rfl).1 (st_ty hNN fo.1 fo.2 rfl).2 rfl).1 (st_ty hNN (st_ty hNN fo.1 fo.2 rfl).1 (st_ty hNN fo.1 fo.2 rfl).2 rfl).2 rfl).2 hi d_Opn_lookAtPage_127 ?_
    have hF := hW.free hS hA
    refine va_calli (va_runV (C := R_Opn) (As := [.int v21, .int (rA x23 (stC (stC (stC o 0) 5) 6) v16)]) (rest := []) ⟨hx, hb, hml, hown, hT⟩ (k_Opn_countNulls l dC dI cI cB cJ cZ ad NN E tM tC kK kV hNN H.size o v21 (rA x23 (stC (stC (stC o 0) 5) 6) v16) x23 fo hw) ⟨callB_of 2 hT (gwt_in w_6_219) rfl rfl rfl (hT _ w_1_10) (hT _ w_6_216) (by decide +kernel) ⟨Nat.le_trans (Nat.le_of_ble_eq_true rfl) hRf, Nat.le_trans (Nat.le_of_ble_eq_true rfl) hRl⟩, hT _ w_6_218, hT _ ws_46⟩ ⟨PVc.blind, va_recv hK hW.1 (ci := 7) (q0 := o) rfl (pic_obj fo.1 fo.2 (by decide)), PVc.at _ hW hK hN hE hS hF⟩ rfl rfl hl.1 rfl (lv_room (Nat.le_of_ble_eq_true rfl)) d_Opn_lookAtPage_128 ⟨hRc, hRs⟩) hS (fun q _ h => hF q h) hF (fun r25 x24 t H locs ht hvm hw hB hz1 hk1 hS => ?_)
    have hW := Wd.back hB ht hF
    clear hB ht hF hz1 hk1 hvm
    refine lv_istore (lv' := [(8, .int r25), (7, .int v21), (6, .int r19), (5, .int v17), (4, .int v16), (0, .ref (ad o)), (1, .int l1), (2, .int l2), (3, .int l3)]) hx hb d_Opn_lookAtPage_131 hl (by decide) rfl (fun ls hl => ?_)
    refine lv_aload_n hx hb d_Opn_lookAtPage_133 rfl (lv_at hl 5 rfl) ?_
    refine w_getf (q := (stC o 2)) (k := 2) (t := 7) (C := R_Opn) (T := F_Opn) (N := 17) hx hb hT hown hK hW fo.1 fo.2 (by decide) in_Opn rfl rfl (by decide) rfl fr_Opn_2 w_3_17 d_Opn_lookAtPage_134 rfl ?_
    refine lv_iload hx hb d_Opn_lookAtPage_137 (lv_at hl 0 rfl) ?_
    refine lv_aload_n hx hb d_Opn_lookAtPage_139 rfl (lv_at hl 5 rfl) ?_
    refine w_getf (q := (stC o 0)) (k := 0) (t := 7) (C := R_Opn) (T := F_Opn) (N := 17) hx hb hT hown hK hW fo.1 fo.2 (by decide) in_Opn rfl rfl (by decide) rfl fr_Opn_0 w_3_15 d_Opn_lookAtPage_140 rfl ?_
    refine w_getf (q := (stC (stC o 0) 15)) (k := 15) (t := 6) (C := R_Vlt) (T := F_Vlt) (N := 20) hx hb hT hown hK hW (st_ty hNN fo.1 fo.2 rfl).1 (st_ty hNN fo.1 fo.2 rfl).2 (by decide) in_Vlt rfl rfl (by decide) rfl fr_Vlt_15 w_2_169 d_Opn_lookAtPage_143 rfl ?_
    refine lv_iload_n hx hb d_Opn_lookAtPage_146 rfl (lv_at hl 8 rfl) ?_
    obtain ⟨hi, hw⟩ := hw
    refine w_iald (o := (stC (stC o 0) 15)) hx hb hK hW (st_ty hNN (st_ty hNN fo.1 fo.2 rfl).1 (st_ty hNN fo.1 fo.2 rfl).2 rfl).1 (st_ty hNN (st_ty hNN fo.1 fo.2 rfl).1 (st_ty hNN fo.1 fo.2 rfl).2 rfl).2 hi d_Opn_lookAtPage_147 ?_
    refine lv_icmp_ne (tgt := 155) hx hb d_Opn_lookAtPage_148 (by decide) (fun c26 => ?_) (fun c26 => ?_)
    · have hw := hw.1 c26
      refine lv_iconst (v := 0) hx hb d_Opn_lookAtPage_155 (by decide) ?_
      exact t_Opn_lookAtPage_156 hx hb hml hown hT hK hN hA hRc hRs hRf hRl hNN hE hret  o l1 l2 l3 v16 v17 r19 v21 r25 0 (stC o 2) x24 H locs ls fo (st_ty hNN fo.1 fo.2 rfl) hw hW hS (lv_sub hl [5, 6, 7, 8, 4, 3, 2, 1, 0] rfl)
    · have hw := hw.2 c26
      refine lv_iconst (v := 1) hx hb d_Opn_lookAtPage_151 (by decide) ?_
      refine lv_goto (tgt := 156) hx hb d_Opn_lookAtPage_152 (by decide) ?_
      exact t_Opn_lookAtPage_156 hx hb hml hown hT hK hN hA hRc hRs hRf hRl hNN hE hret  o l1 l2 l3 v16 v17 r19 v21 r25 1 (stC o 2) x24 H locs ls fo (st_ty hNN fo.1 fo.2 rfl) hw hW hS (lv_sub hl [5, 6, 7, 8, 4, 3, 2, 1, 0] rfl)
  · have hw := hw.2 c20
    exact hret x18 H locs 48 ls d_Opn_lookAtPage_48 hw hW hS
set_option maxHeartbeats 4000000 in
set_option maxRecDepth 100000 in
theorem k_Opn_lookAtPage (l : Launch) (dC : Nat → ClassId) (dI : Nat → Nat → Nat) (cI cB cJ cZ : ClassId) (ad : Nat → Nat) (NN : Nat) (E : Heap) (tM tC : Nat) (kK kV : Nat → Nat) (hNN : 152 ≤ NN) (sz : Nat) (o : Nat) (l1 : Int32) (l2 : Int32) (l3 : Int32) (x : St) (fo : o < NN ∧ kcC o = 7) {post : St → Prop} (hw : wp_Opn_lookAtPage post o l1 l2 l3 x) : Met l y_Opn_lookAtPage (wsOf y_Opn_lookAtPage b_Opn_lookAtPage 9 (none)) ({ frames := 6, cells := 0, slots := 0, locals := 221 }) (va_Pc [.ref (ad o), .int l1, .int l2, .int l3] (PVc dC dI cI cB cJ cZ ad stC kcC NN E tM tC kK kV sz x)) (va_Qv (fun (y : St) => post y) (fun y t => Wd dC dI cI cB cJ cZ ad stC kcC NN (va_A (pic ad stC kcC NN cI cB cJ cZ x) sz) y t.heap) (va_A (pic ad stC kcC NN cI cB cJ cZ x) sz)) 0 0 (va_A (pic ad stC kcC NN cI cB cJ cZ x) sz) := by
  refine Met.ofW (cc := b_Opn_lookAtPage) (maxL := 9) (ret := none) (by decide) rfl ?_
  intro p e s m args below meth c s₁ B hml hv
  obtain ⟨rfl, ⟨hsz, hW0, hK, hN⟩, hE⟩ := hv
  have hx := B.exec
  have hb := B.bytes
  have hr := B.returns
  have hts := atoms_spec B.pre
  have hT : ∀ w ∈ TG, w.before _ s = true := fun w h => hts w (List.mem_cons_of_mem _ h)
  have hown : s.vm.findClass R_Opn = some m.cls := findClass_of_methodNamed B.named
  have hlocks := B.notSynchronized
  subst hsz
  have hW : Wd dC dI cI cB cJ cZ ad stC kcC NN (va_A (pic ad stC kcC NN cI cB cJ cZ x) s.heap.size) x s.heap := ⟨hW0.1, hW0.2.1.self (sz := s.heap.size), hW0.2.2⟩
  generalize hAe : va_A (pic ad stC kcC NN cI cB cJ cZ x) s.heap.size = A at hW hE ⊢
  have hA : ∀ q : Nat, s.heap.size ≤ q → A q := fun q h => by rw [← hAe]; exact Or.inr h
  have hS : va_S A s.heap s.heap [] := va_S.rf
  have hl := lv_entry ([.ref (ad o), .int l1, .int l2, .int l3]) (n := 9) (Nat.le_of_ble_eq_true rfl)
  rw [lg_entry_eq]
  generalize (lg_sl ([.ref (ad o), .int l1, .int l2, .int l3]) ++ List.replicate (9 - (lg_sl ([.ref (ad o), .int l1, .int l2, .int l3])).length) Slot.unset).toArray = ls at hl ⊢
  have hl : lv_has ls 9 [(0, .ref (ad o)), (1, .int l1), (2, .int l2), (3, .int l3)] := hl
  exact t_Opn_lookAtPage_e hx hb hml hown hT hK hN hA (Nat.le_refl 0) (Nat.le_refl 0) (Nat.le_refl 6) (Nat.le_refl 221) hNN hE (fun x H locs pc ls hd hp hW hS => W.vret hx hb hr (fun t ht hM => ⟨⟨x, rfl, hp, Wd.back hW ht.symm (fun _ z => z)⟩, hS.F ht⟩) hS.2.2 hd hlocks)  o l1 l2 l3 x _ _ ls fo hw hW hS hl
set_option maxRecDepth 100000 in
set_option maxHeartbeats 4000000 in
set_option maxRecDepth 100000 in
theorem t_Opn_nextUpTo_29 {p : Program} {l : Launch} {e : Env} {R : Room} {s : State} {m : MethodId} {args : Array Value} {below : List Frame} {meth : Method} {c : Code} {cells slots : Nat} {Q : State → Prop} {dC : Nat → ClassId} {dI : Nat → Nat → Nat} {cI cB cJ cZ : ClassId} {A : Nat → Prop} {ad : Nat → Nat} {NN : Nat} {E : Heap} {tM tC : Nat} {kK kV : Nat → Nat} {post : Int32 → St → Prop} (hx : p.tables.exec = Jvm.exec) (hb : c.code = b_Opn_nextUpTo) (hml : c.maxLocals = 5) (hown : s.vm.findClass R_Opn = some m.cls) (hT : ∀ w ∈ TG, w.before args s = true) (hK : va_K (dC, dI) CL (TY cI cB cJ cZ) s) (hN : NW s) (hA : ∀ q : Nat, s.heap.size ≤ q → A q) (hRc : cells ≤ R.cells) (hRs : slots ≤ R.slots) (hRf : 0 ≤ R.frames) (hRl : 0 ≤ R.locals) (hNN : 152 ≤ NN) (hE : CE E tM tC kK kV A s) (hret : ∀ (r : Int32) (x : St) (H : Heap) (locs : List Loc) (pc : Nat) (ls : Array Slot), decode b_Opn_nextUpTo pc = .ok (.ireturn, 1) → post r x → Wd dC dI cI cB cJ cZ ad stC kcC NN A x H → va_S A s.heap H locs → W p l e R s m args below meth c H locs cells slots Q (F0 m pc ls [.int r]))  : ∀ (o : Nat) (l1 : Int32) (l2 : Int32) (l3 : Int32) (l4 : Int32) (x : St) (H : Heap) (locs : List Loc) (ls : Array Slot), (o < NN ∧ kcC o = 7) → j_Opn_nextUpTo_29 post o l1 l2 l3 l4 x → Wd dC dI cI cB cJ cZ ad stC kcC NN A x H → va_S A s.heap H locs → lv_has ls 5 [(0, .ref (ad o)), (1, .int l1), (2, .int l2), (3, .int l3), (4, .int l4)] → W p l e R s m args below meth c H locs cells slots Q (F0 m 29 ls []) := by
  intro o l1 l2 l3 l4 x H locs ls fo hw hW hS hl
  unfold j_Opn_nextUpTo_29 at hw
  refine lv_iload hx hb d_Opn_nextUpTo_29 (lv_at hl 4 rfl) ?_
  exact hret l4 x H locs 31 ls d_Opn_nextUpTo_31 hw hW hS
set_option maxRecDepth 100000 in
set_option maxHeartbeats 4000000 in
set_option maxRecDepth 100000 in
theorem t_Opn_nextUpTo_3 {p : Program} {l : Launch} {e : Env} {R : Room} {s : State} {m : MethodId} {args : Array Value} {below : List Frame} {meth : Method} {c : Code} {cells slots : Nat} {Q : State → Prop} {dC : Nat → ClassId} {dI : Nat → Nat → Nat} {cI cB cJ cZ : ClassId} {A : Nat → Prop} {ad : Nat → Nat} {NN : Nat} {E : Heap} {tM tC : Nat} {kK kV : Nat → Nat} {post : Int32 → St → Prop} {rec3 : Nat → Int32 → Int32 → Int32 → Int32 → St → Prop} (hx : p.tables.exec = Jvm.exec) (hb : c.code = b_Opn_nextUpTo) (hml : c.maxLocals = 5) (hown : s.vm.findClass R_Opn = some m.cls) (hT : ∀ w ∈ TG, w.before args s = true) (hK : va_K (dC, dI) CL (TY cI cB cJ cZ) s) (hN : NW s) (hA : ∀ q : Nat, s.heap.size ≤ q → A q) (hRc : cells ≤ R.cells) (hRs : slots ≤ R.slots) (hRf : 0 ≤ R.frames) (hRl : 0 ≤ R.locals) (hNN : 152 ≤ NN) (hE : CE E tM tC kK kV A s) (hret : ∀ (r : Int32) (x : St) (H : Heap) (locs : List Loc) (pc : Nat) (ls : Array Slot), decode b_Opn_nextUpTo pc = .ok (.ireturn, 1) → post r x → Wd dC dI cI cB cJ cZ ad stC kcC NN A x H → va_S A s.heap H locs → W p l e R s m args below meth c H locs cells slots Q (F0 m pc ls [.int r])) (hrec3 : ∀ (o : Nat) (l1 : Int32) (l2 : Int32) (l3 : Int32) (l4 : Int32) (x : St) (H : Heap) (locs : List Loc) (ls : Array Slot), (o < NN ∧ kcC o = 7) → rec3 o l1 l2 l3 l4 x → Wd dC dI cI cB cJ cZ ad stC kcC NN A x H → va_S A s.heap H locs → lv_has ls 5 [(0, .ref (ad o)), (1, .int l1), (2, .int l2), (3, .int l3), (4, .int l4)] → W p l e R s m args below meth c H locs cells slots Q (F0 m 3 ls [])) : ∀ (o : Nat) (l1 : Int32) (l2 : Int32) (l3 : Int32) (l4 : Int32) (x : St) (H : Heap) (locs : List Loc) (ls : Array Slot), (o < NN ∧ kcC o = 7) → j_Opn_nextUpTo_3 post rec3 o l1 l2 l3 l4 x → Wd dC dI cI cB cJ cZ ad stC kcC NN A x H → va_S A s.heap H locs → lv_has ls 5 [(0, .ref (ad o)), (1, .int l1), (2, .int l2), (3, .int l3), (4, .int l4)] → W p l e R s m args below meth c H locs cells slots Q (F0 m 3 ls []) := by
  intro o l1 l2 l3 l4 x H locs ls fo hw hW hS hl
  unfold j_Opn_nextUpTo_3 at hw
  refine lv_iload hx hb d_Opn_nextUpTo_3 (lv_at hl 4 rfl) ?_
  refine lv_iload_n hx hb d_Opn_nextUpTo_5 rfl (lv_at hl 3 rfl) ?_
  refine lv_icmp_ge (tgt := 29) hx hb d_Opn_nextUpTo_6 (by decide) (fun c1 => ?_) (fun c1 => ?_)
  · have hw := hw.1 c1
    exact t_Opn_nextUpTo_29 hx hb hml hown hT hK hN hA hRc hRs hRf hRl hNN hE hret  o l1 l2 l3 l4 x H locs ls fo hw hW hS (lv_sub hl [0, 1, 2, 3, 4] rfl)
  · have hw := hw.2 c1
    refine lv_aload_n hx hb d_Opn_nextUpTo_9 rfl (lv_at hl 0 rfl) ?_
    refine w_getf (q := (stC o 0)) (k := 0) (t := 7) (C := R_Opn) (T := F_Opn) (N := 17) hx hb hT hown hK hW fo.1 fo.2 (by decide) in_Opn rfl rfl (by decide) rfl fr_Opn_0 w_3_15 d_Opn_nextUpTo_10 rfl ?_
    refine w_getf (q := (stC (stC o 0) 7)) (k := 7) (t := 6) (C := R_Vlt) (T := F_Vlt) (N := 20) hx hb hT hown hK hW (st_ty hNN fo.1 fo.2 rfl).1 (st_ty hNN fo.1 fo.2 rfl).2 (by decide) in_Vlt rfl rfl (by decide) rfl fr_Vlt_7 w_2_146 d_Opn_nextUpTo_13 rfl ?_
    refine lv_iload hx hb d_Opn_nextUpTo_16 (lv_at hl 4 rfl) ?_
    obtain ⟨hi, hw⟩ := hw
    refine w_bald (o := (stC (stC o 0) 7)) hx hb hK hW (st_ty hNN (st_ty hNN fo.1 fo.2 rfl).1 (st_ty hNN fo.1 fo.2 rfl).2 rfl).1 (st_ty hNN (st_ty hNN fo.1 fo.2 rfl).1 (st_ty hNN fo.1 fo.2 rfl).2 rfl).2 hi d_Opn_nextUpTo_18 ?_
    refine lv_iload_n hx hb d_Opn_nextUpTo_19 rfl (lv_at hl 1 rfl) ?_
    refine lv_icmp_le (tgt := 29) hx hb d_Opn_nextUpTo_20 (by decide) (fun c2 => ?_) (fun c2 => ?_)
    · have hw := hw.1 c2
      exact t_Opn_nextUpTo_29 hx hb hml hown hT hK hN hA hRc hRs hRf hRl hNN hE hret  o l1 l2 l3 l4 x H locs ls fo hw hW hS (lv_sub hl [0, 1, 2, 3, 4] rfl)
    · have hw := hw.2 c2
      refine lv_iinc (v := (l4 + 1)) (lv' := [(4, .int (l4 + 1)), (0, .ref (ad o)), (1, .int l1), (2, .int l2), (3, .int l3)]) hx hb d_Opn_nextUpTo_23 hl (k := 4) rfl rfl (by decide) rfl (fun ls hl => ?_)
      refine lv_goto (tgt := 3) hx hb d_Opn_nextUpTo_26 (by decide) ?_
      exact hrec3 o l1 l2 l3 (l4 + 1) x H locs ls fo hw hW hS (lv_sub hl [1, 2, 3, 4, 0] rfl)
set_option maxHeartbeats 4000000 in
set_option maxRecDepth 100000 in
theorem tl_Opn_nextUpTo_3 {p : Program} {l : Launch} {e : Env} {R : Room} {s : State} {m : MethodId} {args : Array Value} {below : List Frame} {meth : Method} {c : Code} {cells slots : Nat} {Q : State → Prop} {dC : Nat → ClassId} {dI : Nat → Nat → Nat} {cI cB cJ cZ : ClassId} {A : Nat → Prop} {ad : Nat → Nat} {NN : Nat} {E : Heap} {tM tC : Nat} {kK kV : Nat → Nat} {post : Int32 → St → Prop} (hx : p.tables.exec = Jvm.exec) (hb : c.code = b_Opn_nextUpTo) (hml : c.maxLocals = 5) (hown : s.vm.findClass R_Opn = some m.cls) (hT : ∀ w ∈ TG, w.before args s = true) (hK : va_K (dC, dI) CL (TY cI cB cJ cZ) s) (hN : NW s) (hA : ∀ q : Nat, s.heap.size ≤ q → A q) (hRc : cells ≤ R.cells) (hRs : slots ≤ R.slots) (hRf : 0 ≤ R.frames) (hRl : 0 ≤ R.locals) (hNN : 152 ≤ NN) (hE : CE E tM tC kK kV A s) (hret : ∀ (r : Int32) (x : St) (H : Heap) (locs : List Loc) (pc : Nat) (ls : Array Slot), decode b_Opn_nextUpTo pc = .ok (.ireturn, 1) → post r x → Wd dC dI cI cB cJ cZ ad stC kcC NN A x H → va_S A s.heap H locs → W p l e R s m args below meth c H locs cells slots Q (F0 m pc ls [.int r]))  : ∀ n : Nat, ∀ (o : Nat) (l1 : Int32) (l2 : Int32) (l3 : Int32) (l4 : Int32) (x : St) (H : Heap) (locs : List Loc) (ls : Array Slot), (o < NN ∧ kcC o = 7) → wl_Opn_nextUpTo_3 post n o l1 l2 l3 l4 x → Wd dC dI cI cB cJ cZ ad stC kcC NN A x H → va_S A s.heap H locs → lv_has ls 5 [(0, .ref (ad o)), (1, .int l1), (2, .int l2), (3, .int l3), (4, .int l4)] → W p l e R s m args below meth c H locs cells slots Q (F0 m 3 ls []) := by
  intro n
  induction n with
  | zero => intro o l1 l2 l3 l4 x H locs ls fo hw; exact hw.elim
  | succ n ih => intro o l1 l2 l3 l4 x H locs ls fo hw hW hS hl; exact t_Opn_nextUpTo_3 hx hb hml hown hT hK hN hA hRc hRs hRf hRl hNN hE hret  ih o l1 l2 l3 l4 x H locs ls fo hw hW hS hl
set_option maxRecDepth 100000 in
set_option maxHeartbeats 4000000 in
set_option maxRecDepth 100000 in
theorem t_Opn_nextUpTo_e {p : Program} {l : Launch} {e : Env} {R : Room} {s : State} {m : MethodId} {args : Array Value} {below : List Frame} {meth : Method} {c : Code} {cells slots : Nat} {Q : State → Prop} {dC : Nat → ClassId} {dI : Nat → Nat → Nat} {cI cB cJ cZ : ClassId} {A : Nat → Prop} {ad : Nat → Nat} {NN : Nat} {E : Heap} {tM tC : Nat} {kK kV : Nat → Nat} {post : Int32 → St → Prop} (hx : p.tables.exec = Jvm.exec) (hb : c.code = b_Opn_nextUpTo) (hml : c.maxLocals = 5) (hown : s.vm.findClass R_Opn = some m.cls) (hT : ∀ w ∈ TG, w.before args s = true) (hK : va_K (dC, dI) CL (TY cI cB cJ cZ) s) (hN : NW s) (hA : ∀ q : Nat, s.heap.size ≤ q → A q) (hRc : cells ≤ R.cells) (hRs : slots ≤ R.slots) (hRf : 0 ≤ R.frames) (hRl : 0 ≤ R.locals) (hNN : 152 ≤ NN) (hE : CE E tM tC kK kV A s) (hret : ∀ (r : Int32) (x : St) (H : Heap) (locs : List Loc) (pc : Nat) (ls : Array Slot), decode b_Opn_nextUpTo pc = .ok (.ireturn, 1) → post r x → Wd dC dI cI cB cJ cZ ad stC kcC NN A x H → va_S A s.heap H locs → W p l e R s m args below meth c H locs cells slots Q (F0 m pc ls [.int r])) : ∀ (o : Nat) (l1 : Int32) (l2 : Int32) (l3 : Int32) (x : St) (H : Heap) (locs : List Loc) (ls : Array Slot), (o < NN ∧ kcC o = 7) → wp_Opn_nextUpTo post o l1 l2 l3 x → Wd dC dI cI cB cJ cZ ad stC kcC NN A x H → va_S A s.heap H locs → lv_has ls 5 [(0, .ref (ad o)), (1, .int l1), (2, .int l2), (3, .int l3)] → W p l e R s m args below meth c H locs cells slots Q (F0 m 0 ls []) := by
  intro o l1 l2 l3 x H locs ls fo hw hW hS hl
  unfold wp_Opn_nextUpTo at hw
  refine lv_iload_n hx hb d_Opn_nextUpTo_0 rfl (lv_at hl 2 rfl) ?_
  refine lv_istore (lv' := [(4, .int l2), (0, .ref (ad o)), (1, .int l1), (2, .int l2), (3, .int l3)]) hx hb d_Opn_nextUpTo_1 hl (by decide) rfl (fun ls hl => ?_)
  obtain ⟨n, hw⟩ := hw
  exact tl_Opn_nextUpTo_3 hx hb hml hown hT hK hN hA hRc hRs hRf hRl hNN hE hret  n o l1 l2 l3 l2 x H locs ls fo hw hW hS (lv_sub hl [1, 2, 3, 4, 0] rfl)
set_option maxHeartbeats 4000000 in
set_option maxRecDepth 100000 in
theorem k_Opn_nextUpTo (l : Launch) (dC : Nat → ClassId) (dI : Nat → Nat → Nat) (cI cB cJ cZ : ClassId) (ad : Nat → Nat) (NN : Nat) (E : Heap) (tM tC : Nat) (kK kV : Nat → Nat) (hNN : 152 ≤ NN) (sz : Nat) (o : Nat) (l1 : Int32) (l2 : Int32) (l3 : Int32) (x : St) (fo : o < NN ∧ kcC o = 7) {post : Int32 → St → Prop} (hw : wp_Opn_nextUpTo post o l1 l2 l3 x) : Met l y_Opn_nextUpTo (wsOf y_Opn_nextUpTo b_Opn_nextUpTo 5 (some (.int))) ({ frames := 0, cells := 0, slots := 0, locals := 0 }) (va_Pc [.ref (ad o), .int l1, .int l2, .int l3] (PVc dC dI cI cB cJ cZ ad stC kcC NN E tM tC kK kV sz x)) (va_Qi (fun (r : Int32) (y : St) => post r y) (fun y t => Wd dC dI cI cB cJ cZ ad stC kcC NN (va_A (pic ad stC kcC NN cI cB cJ cZ x) sz) y t.heap) (va_A (pic ad stC kcC NN cI cB cJ cZ x) sz)) 0 0 (va_A (pic ad stC kcC NN cI cB cJ cZ x) sz) := by
  refine Met.ofW (cc := b_Opn_nextUpTo) (maxL := 5) (ret := some (.int)) (by decide) rfl ?_
  intro p e s m args below meth c s₁ B hml hv
  obtain ⟨rfl, ⟨hsz, hW0, hK, hN⟩, hE⟩ := hv
  have hx := B.exec
  have hb := B.bytes
  have hr := B.returns
  have hts := atoms_spec B.pre
  have hT : ∀ w ∈ TG, w.before _ s = true := fun w h => hts w (List.mem_cons_of_mem _ h)
  have hown : s.vm.findClass R_Opn = some m.cls := findClass_of_methodNamed B.named
  have hlocks := B.notSynchronized
  subst hsz
  have hW : Wd dC dI cI cB cJ cZ ad stC kcC NN (va_A (pic ad stC kcC NN cI cB cJ cZ x) s.heap.size) x s.heap := ⟨hW0.1, hW0.2.1.self (sz := s.heap.size), hW0.2.2⟩
  generalize hAe : va_A (pic ad stC kcC NN cI cB cJ cZ x) s.heap.size = A at hW hE ⊢
  have hA : ∀ q : Nat, s.heap.size ≤ q → A q := fun q h => by rw [← hAe]; exact Or.inr h
  have hS : va_S A s.heap s.heap [] := va_S.rf
  have hl := lv_entry ([.ref (ad o), .int l1, .int l2, .int l3]) (n := 5) (Nat.le_of_ble_eq_true rfl)
  rw [lg_entry_eq]
  generalize (lg_sl ([.ref (ad o), .int l1, .int l2, .int l3]) ++ List.replicate (5 - (lg_sl ([.ref (ad o), .int l1, .int l2, .int l3])).length) Slot.unset).toArray = ls at hl ⊢
  have hl : lv_has ls 5 [(0, .ref (ad o)), (1, .int l1), (2, .int l2), (3, .int l3)] := hl
  exact t_Opn_nextUpTo_e hx hb hml hown hT hK hN hA (Nat.le_refl 0) (Nat.le_refl 0) (Nat.le_refl 0) (Nat.le_refl 0) hNN hE (fun r x H locs pc ls hd hp hW hS => W.iret (v := r) hx hb hr (fun t ht hM => ⟨⟨r, x, rfl, hp, Wd.back hW ht.symm (fun _ z => z)⟩, hS.F ht⟩) hS.2.2 hd hlocks)  o l1 l2 l3 x _ _ ls fo hw hW hS hl
set_option maxRecDepth 100000 in
set_option maxHeartbeats 4000000 in
set_option maxRecDepth 100000 in
theorem t_Opn_goTogether_307 {p : Program} {l : Launch} {e : Env} {R : Room} {s : State} {m : MethodId} {args : Array Value} {below : List Frame} {meth : Method} {c : Code} {cells slots : Nat} {Q : State → Prop} {dC : Nat → ClassId} {dI : Nat → Nat → Nat} {cI cB cJ cZ : ClassId} {A : Nat → Prop} {ad : Nat → Nat} {NN : Nat} {E : Heap} {tM tC : Nat} {kK kV : Nat → Nat} {post : Int32 → St → Prop} (hx : p.tables.exec = Jvm.exec) (hb : c.code = b_Opn_goTogether) (hml : c.maxLocals = 13) (hown : s.vm.findClass R_Opn = some m.cls) (hT : ∀ w ∈ TG, w.before args s = true) (hK : va_K (dC, dI) CL (TY cI cB cJ cZ) s) (hN : NW s) (hA : ∀ q : Nat, s.heap.size ≤ q → A q) (hRc : cells ≤ R.cells) (hRs : slots ≤ R.slots) (hRf : 1 ≤ R.frames) (hRl : 80 ≤ R.locals) (hNN : 152 ≤ NN) (hE : CE E tM tC kK kV A s) (hret : ∀ (r : Int32) (x : St) (H : Heap) (locs : List Loc) (pc : Nat) (ls : Array Slot), decode b_Opn_goTogether pc = .ok (.ireturn, 1) → narrow .boolean (.int r) = .int r → post r x → Wd dC dI cI cB cJ cZ ad stC kcC NN A x H → va_S A s.heap H locs → W p l e R s m args below meth c H locs cells slots Q (F0 m pc ls [.int r]))  : ∀ (o : Nat) (l1 : Int32) (l2 : Int32) (l3 : Int32) (l4 : Nat) (l5 : Int32) (l6 : Int32) (l7 : Int32) (l8 : Int32) (l9 : Int32) (l10 : Int32) (l11 : Int32) (l12 : Int32) (x : St) (H : Heap) (locs : List Loc) (ls : Array Slot), (o < NN ∧ kcC o = 7) → (l4 < NN ∧ kcC l4 = 3) → j_Opn_goTogether_307 post o l1 l2 l3 l4 l5 l6 l7 l8 l9 l10 l11 l12 x → Wd dC dI cI cB cJ cZ ad stC kcC NN A x H → va_S A s.heap H locs → lv_has ls 13 [(0, .ref (ad o)), (1, .int l1), (2, .int l2), (3, .int l3), (4, .ref (ad l4)), (5, .int l5), (6, .int l6), (7, .int l7), (8, .int l8), (9, .int l9), (10, .int l10), (11, .int l11), (12, .int l12)] → W p l e R s m args below meth c H locs cells slots Q (F0 m 307 ls []) := by
  intro o l1 l2 l3 l4 l5 l6 l7 l8 l9 l10 l11 l12 x H locs ls fo fl4 hw hW hS hl
  unfold j_Opn_goTogether_307 at hw
  refine lv_iconst (v := 0) hx hb d_Opn_goTogether_307 (by decide) ?_
  exact hret 0 x H locs 308 ls d_Opn_goTogether_308 rfl hw hW hS
set_option maxRecDepth 100000 in
set_option maxHeartbeats 4000000 in
set_option maxRecDepth 100000 in
theorem t_Opn_goTogether_289 {p : Program} {l : Launch} {e : Env} {R : Room} {s : State} {m : MethodId} {args : Array Value} {below : List Frame} {meth : Method} {c : Code} {cells slots : Nat} {Q : State → Prop} {dC : Nat → ClassId} {dI : Nat → Nat → Nat} {cI cB cJ cZ : ClassId} {A : Nat → Prop} {ad : Nat → Nat} {NN : Nat} {E : Heap} {tM tC : Nat} {kK kV : Nat → Nat} {post : Int32 → St → Prop} (hx : p.tables.exec = Jvm.exec) (hb : c.code = b_Opn_goTogether) (hml : c.maxLocals = 13) (hown : s.vm.findClass R_Opn = some m.cls) (hT : ∀ w ∈ TG, w.before args s = true) (hK : va_K (dC, dI) CL (TY cI cB cJ cZ) s) (hN : NW s) (hA : ∀ q : Nat, s.heap.size ≤ q → A q) (hRc : cells ≤ R.cells) (hRs : slots ≤ R.slots) (hRf : 1 ≤ R.frames) (hRl : 80 ≤ R.locals) (hNN : 152 ≤ NN) (hE : CE E tM tC kK kV A s) (hret : ∀ (r : Int32) (x : St) (H : Heap) (locs : List Loc) (pc : Nat) (ls : Array Slot), decode b_Opn_goTogether pc = .ok (.ireturn, 1) → narrow .boolean (.int r) = .int r → post r x → Wd dC dI cI cB cJ cZ ad stC kcC NN A x H → va_S A s.heap H locs → W p l e R s m args below meth c H locs cells slots Q (F0 m pc ls [.int r]))  : ∀ (o : Nat) (l1 : Int32) (l2 : Int32) (l3 : Int32) (l4 : Nat) (l5 : Int32) (l6 : Int32) (l7 : Int32) (l8 : Int32) (l9 : Int32) (l10 : Int32) (l11 : Int32) (l12 : Int32) (x : St) (H : Heap) (locs : List Loc) (ls : Array Slot), (o < NN ∧ kcC o = 7) → (l4 < NN ∧ kcC l4 = 3) → j_Opn_goTogether_289 post o l1 l2 l3 l4 l5 l6 l7 l8 l9 l10 l11 l12 x → Wd dC dI cI cB cJ cZ ad stC kcC NN A x H → va_S A s.heap H locs → lv_has ls 13 [(0, .ref (ad o)), (1, .int l1), (2, .int l2), (3, .int l3), (4, .ref (ad l4)), (5, .int l5), (6, .int l6), (7, .int l7), (8, .int l8), (9, .int l9), (10, .int l10), (11, .int l11), (12, .int l12)] → W p l e R s m args below meth c H locs cells slots Q (F0 m 289 ls []) := by
  intro o l1 l2 l3 l4 l5 l6 l7 l8 l9 l10 l11 l12 x H locs ls fo fl4 hw hW hS hl
  unfold j_Opn_goTogether_289 at hw
  refine lv_iload hx hb d_Opn_goTogether_289 (lv_at hl 10 rfl) ?_
  refine lv_iload hx hb d_Opn_goTogether_291 (lv_at hl 8 rfl) ?_
  refine lv_icmp_ne (tgt := 307) hx hb d_Opn_goTogether_293 (by decide) (fun c1 => ?_) (fun c1 => ?_)
  · have hw := hw.1 c1
    exact t_Opn_goTogether_307 hx hb hml hown hT hK hN hA hRc hRs hRf hRl hNN hE hret  o l1 l2 l3 l4 l5 l6 l7 l8 l9 l10 l11 l12 x H locs ls fo fl4 hw hW hS (lv_sub hl [0, 1, 2, 3, 4, 5, 6, 7, 8, 9, 10, 11, 12] rfl)
  · have hw := hw.2 c1
    refine lv_iload hx hb d_Opn_goTogether_296 (lv_at hl 11 rfl) ?_
    refine lv_iload hx hb d_Opn_goTogether_298 (lv_at hl 9 rfl) ?_
    refine lv_icmp_ne (tgt := 307) hx hb d_Opn_goTogether_300 (by decide) (fun c2 => ?_) (fun c2 => ?_)
    · have hw := hw.1 c2
      exact t_Opn_goTogether_307 hx hb hml hown hT hK hN hA hRc hRs hRf hRl hNN hE hret  o l1 l2 l3 l4 l5 l6 l7 l8 l9 l10 l11 l12 x H locs ls fo fl4 hw hW hS (lv_sub hl [0, 1, 2, 3, 4, 5, 6, 7, 8, 9, 10, 11, 12] rfl)
    · have hw := hw.2 c2
      refine lv_iconst (v := 1) hx hb d_Opn_goTogether_303 (by decide) ?_
      refine lv_goto (tgt := 308) hx hb d_Opn_goTogether_304 (by decide) ?_
      exact hret 1 x H locs 308 ls d_Opn_goTogether_308 rfl hw hW hS
set_option maxRecDepth 100000 in
set_option maxHeartbeats 4000000 in
set_option maxRecDepth 100000 in
theorem t_Opn_goTogether_253 {p : Program} {l : Launch} {e : Env} {R : Room} {s : State} {m : MethodId} {args : Array Value} {below : List Frame} {meth : Method} {c : Code} {cells slots : Nat} {Q : State → Prop} {dC : Nat → ClassId} {dI : Nat → Nat → Nat} {cI cB cJ cZ : ClassId} {A : Nat → Prop} {ad : Nat → Nat} {NN : Nat} {E : Heap} {tM tC : Nat} {kK kV : Nat → Nat} {post : Int32 → St → Prop} (hx : p.tables.exec = Jvm.exec) (hb : c.code = b_Opn_goTogether) (hml : c.maxLocals = 13) (hown : s.vm.findClass R_Opn = some m.cls) (hT : ∀ w ∈ TG, w.before args s = true) (hK : va_K (dC, dI) CL (TY cI cB cJ cZ) s) (hN : NW s) (hA : ∀ q : Nat, s.heap.size ≤ q → A q) (hRc : cells ≤ R.cells) (hRs : slots ≤ R.slots) (hRf : 1 ≤ R.frames) (hRl : 80 ≤ R.locals) (hNN : 152 ≤ NN) (hE : CE E tM tC kK kV A s) (hret : ∀ (r : Int32) (x : St) (H : Heap) (locs : List Loc) (pc : Nat) (ls : Array Slot), decode b_Opn_goTogether pc = .ok (.ireturn, 1) → narrow .boolean (.int r) = .int r → post r x → Wd dC dI cI cB cJ cZ ad stC kcC NN A x H → va_S A s.heap H locs → W p l e R s m args below meth c H locs cells slots Q (F0 m pc ls [.int r]))  : ∀ (o : Nat) (l1 : Int32) (l2 : Int32) (l3 : Int32) (l4 : Nat) (l5 : Int32) (l6 : Int32) (l7 : Int32) (l8 : Int32) (l9 : Int32) (l10 : Int32) (l11 : Int32) (l12 : Int32) (x : St) (H : Heap) (locs : List Loc) (ls : Array Slot), (o < NN ∧ kcC o = 7) → (l4 < NN ∧ kcC l4 = 3) → j_Opn_goTogether_253 post o l1 l2 l3 l4 l5 l6 l7 l8 l9 l10 l11 l12 x → Wd dC dI cI cB cJ cZ ad stC kcC NN A x H → va_S A s.heap H locs → lv_has ls 13 [(0, .ref (ad o)), (1, .int l1), (2, .int l2), (3, .int l3), (4, .ref (ad l4)), (5, .int l5), (6, .int l6), (7, .int l7), (8, .int l8), (9, .int l9), (10, .int l10), (11, .int l11), (12, .int l12)] → W p l e R s m args below meth c H locs cells slots Q (F0 m 253 ls []) := by
  intro o l1 l2 l3 l4 l5 l6 l7 l8 l9 l10 l11 l12 x H locs ls fo fl4 hw hW hS hl
  unfold j_Opn_goTogether_253 at hw
  refine lv_iconst (v := 0) hx hb d_Opn_goTogether_253 (by decide) ?_
  exact hret 0 x H locs 254 ls d_Opn_goTogether_254 rfl hw hW hS
set_option maxRecDepth 100000 in
set_option maxHeartbeats 4000000 in
set_option maxRecDepth 100000 in
theorem t_Opn_goTogether_175 {p : Program} {l : Launch} {e : Env} {R : Room} {s : State} {m : MethodId} {args : Array Value} {below : List Frame} {meth : Method} {c : Code} {cells slots : Nat} {Q : State → Prop} {dC : Nat → ClassId} {dI : Nat → Nat → Nat} {cI cB cJ cZ : ClassId} {A : Nat → Prop} {ad : Nat → Nat} {NN : Nat} {E : Heap} {tM tC : Nat} {kK kV : Nat → Nat} {post : Int32 → St → Prop} {rec175 : Nat → Int32 → Int32 → Int32 → Nat → Int32 → Int32 → Int32 → Int32 → Int32 → Int32 → Int32 → Int32 → St → Prop} (hx : p.tables.exec = Jvm.exec) (hb : c.code = b_Opn_goTogether) (hml : c.maxLocals = 13) (hown : s.vm.findClass R_Opn = some m.cls) (hT : ∀ w ∈ TG, w.before args s = true) (hK : va_K (dC, dI) CL (TY cI cB cJ cZ) s) (hN : NW s) (hA : ∀ q : Nat, s.heap.size ≤ q → A q) (hRc : cells ≤ R.cells) (hRs : slots ≤ R.slots) (hRf : 1 ≤ R.frames) (hRl : 80 ≤ R.locals) (hNN : 152 ≤ NN) (hE : CE E tM tC kK kV A s) (hret : ∀ (r : Int32) (x : St) (H : Heap) (locs : List Loc) (pc : Nat) (ls : Array Slot), decode b_Opn_goTogether pc = .ok (.ireturn, 1) → narrow .boolean (.int r) = .int r → post r x → Wd dC dI cI cB cJ cZ ad stC kcC NN A x H → va_S A s.heap H locs → W p l e R s m args below meth c H locs cells slots Q (F0 m pc ls [.int r])) (hrec175 : ∀ (o : Nat) (l1 : Int32) (l2 : Int32) (l3 : Int32) (l4 : Nat) (l5 : Int32) (l6 : Int32) (l7 : Int32) (l8 : Int32) (l9 : Int32) (l10 : Int32) (l11 : Int32) (l12 : Int32) (x : St) (H : Heap) (locs : List Loc) (ls : Array Slot), (o < NN ∧ kcC o = 7) → (l4 < NN ∧ kcC l4 = 3) → rec175 o l1 l2 l3 l4 l5 l6 l7 l8 l9 l10 l11 l12 x → Wd dC dI cI cB cJ cZ ad stC kcC NN A x H → va_S A s.heap H locs → lv_has ls 13 [(0, .ref (ad o)), (1, .int l1), (2, .int l2), (3, .int l3), (4, .ref (ad l4)), (5, .int l5), (6, .int l6), (7, .int l7), (8, .int l8), (9, .int l9), (10, .int l10), (11, .int l11), (12, .int l12)] → W p l e R s m args below meth c H locs cells slots Q (F0 m 175 ls [])) : ∀ (o : Nat) (l1 : Int32) (l2 : Int32) (l3 : Int32) (l4 : Nat) (l5 : Int32) (l6 : Int32) (l7 : Int32) (l8 : Int32) (l9 : Int32) (l10 : Int32) (l11 : Int32) (l12 : Int32) (x : St) (H : Heap) (locs : List Loc) (ls : Array Slot), (o < NN ∧ kcC o = 7) → (l4 < NN ∧ kcC l4 = 3) → j_Opn_goTogether_175 post rec175 o l1 l2 l3 l4 l5 l6 l7 l8 l9 l10 l11 l12 x → Wd dC dI cI cB cJ cZ ad stC kcC NN A x H → va_S A s.heap H locs → lv_has ls 13 [(0, .ref (ad o)), (1, .int l1), (2, .int l2), (3, .int l3), (4, .ref (ad l4)), (5, .int l5), (6, .int l6), (7, .int l7), (8, .int l8), (9, .int l9), (10, .int l10), (11, .int l11), (12, .int l12)] → W p l e R s m args below meth c H locs cells slots Q (F0 m 175 ls []) := by
  intro o l1 l2 l3 l4 l5 l6 l7 l8 l9 l10 l11 l12 x H locs ls fo fl4 hw hW hS hl
  unfold j_Opn_goTogether_175 at hw
  refine lv_iload hx hb d_Opn_goTogether_175 (lv_at hl 12 rfl) ?_
  refine lv_sipush (v := 10000) hx hb d_Opn_goTogether_177 (by decide) ?_
  refine lv_icmp_ge (tgt := 289) hx hb d_Opn_goTogether_180 (by decide) (fun c3 => ?_) (fun c3 => ?_)
  · have hw := hw.1 c3
    exact t_Opn_goTogether_289 hx hb hml hown hT hK hN hA hRc hRs hRf hRl hNN hE hret  o l1 l2 l3 l4 l5 l6 l7 l8 l9 l10 l11 l12 x H locs ls fo fl4 hw hW hS (lv_sub hl [0, 1, 2, 3, 4, 5, 6, 7, 8, 9, 10, 11, 12] rfl)
  · have hw := hw.2 c3
    refine lv_iload hx hb d_Opn_goTogether_183 (lv_at hl 10 rfl) ?_
    refine lv_iload hx hb d_Opn_goTogether_185 (lv_at hl 8 rfl) ?_
    refine lv_icmp_ge (tgt := 289) hx hb d_Opn_goTogether_187 (by decide) (fun c4 => ?_) (fun c4 => ?_)
    · have hw := hw.1 c4
      exact t_Opn_goTogether_289 hx hb hml hown hT hK hN hA hRc hRs hRf hRl hNN hE hret  o l1 l2 l3 l4 l5 l6 l7 l8 l9 l10 l11 l12 x H locs ls fo fl4 hw hW hS (lv_sub hl [0, 1, 2, 3, 4, 5, 6, 7, 8, 9, 10, 11, 12] rfl)
    · have hw := hw.2 c4
      refine lv_iload hx hb d_Opn_goTogether_190 (lv_at hl 11 rfl) ?_
      refine lv_iload hx hb d_Opn_goTogether_192 (lv_at hl 9 rfl) ?_
      refine lv_icmp_ge (tgt := 289) hx hb d_Opn_goTogether_194 (by decide) (fun c5 => ?_) (fun c5 => ?_)
      · have hw := hw.1 c5
        exact t_Opn_goTogether_289 hx hb hml hown hT hK hN hA hRc hRs hRf hRl hNN hE hret  o l1 l2 l3 l4 l5 l6 l7 l8 l9 l10 l11 l12 x H locs ls fo fl4 hw hW hS (lv_sub hl [0, 1, 2, 3, 4, 5, 6, 7, 8, 9, 10, 11, 12] rfl)
      · have hw := hw.2 c5
        refine lv_aload_n hx hb d_Opn_goTogether_197 rfl (lv_at hl 0 rfl) ?_
        refine w_getf (q := (stC o 0)) (k := 0) (t := 7) (C := R_Opn) (T := F_Opn) (N := 17) hx hb hT hown hK hW fo.1 fo.2 (by decide) in_Opn rfl rfl (by decide) rfl fr_Opn_0 w_3_15 d_Opn_goTogether_198 rfl ?_
        refine w_getf (q := (stC (stC o 0) 7)) (k := 7) (t := 6) (C := R_Vlt) (T := F_Vlt) (N := 20) hx hb hT hown hK hW (st_ty hNN fo.1 fo.2 rfl).1 (st_ty hNN fo.1 fo.2 rfl).2 (by decide) in_Vlt rfl rfl (by decide) rfl fr_Vlt_7 w_2_146 d_Opn_goTogether_201 rfl ?_
        refine lv_iload hx hb d_Opn_goTogether_204 (lv_at hl 10 rfl) ?_
        obtain ⟨hi, hw⟩ := hw
        refine w_bald (o := (stC (stC o 0) 7)) hx hb hK hW (st_ty hNN (st_ty hNN fo.1 fo.2 rfl).1 (st_ty hNN fo.1 fo.2 rfl).2 rfl).1 (st_ty hNN (st_ty hNN fo.1 fo.2 rfl).1 (st_ty hNN fo.1 fo.2 rfl).2 rfl).2 hi d_Opn_goTogether_206 ?_
        refine lv_aload_n hx hb d_Opn_goTogether_207 rfl (lv_at hl 0 rfl) ?_
        refine w_getf (q := (stC o 0)) (k := 0) (t := 7) (C := R_Opn) (T := F_Opn) (N := 17) hx hb hT hown hK hW fo.1 fo.2 (by decide) in_Opn rfl rfl (by decide) rfl fr_Opn_0 w_3_15 d_Opn_goTogether_208 rfl ?_
        refine w_getf (q := (stC (stC o 0) 7)) (k := 7) (t := 6) (C := R_Vlt) (T := F_Vlt) (N := 20) hx hb hT hown hK hW (st_ty hNN fo.1 fo.2 rfl).1 (st_ty hNN fo.1 fo.2 rfl).2 (by decide) in_Vlt rfl rfl (by decide) rfl fr_Vlt_7 w_2_146 d_Opn_goTogether_211 rfl ?_
        refine lv_iload hx hb d_Opn_goTogether_214 (lv_at hl 11 rfl) ?_
        obtain ⟨hi, hw⟩ := hw
        refine w_bald (o := (stC (stC o 0) 7)) hx hb hK hW (st_ty hNN (st_ty hNN fo.1 fo.2 rfl).1 (st_ty hNN fo.1 fo.2 rfl).2 rfl).1 (st_ty hNN (st_ty hNN fo.1 fo.2 rfl).1 (st_ty hNN fo.1 fo.2 rfl).2 rfl).2 hi d_Opn_goTogether_216 ?_
        refine lv_icmp_ne (tgt := 253) hx hb d_Opn_goTogether_217 (by decide) (fun c6 => ?_) (fun c6 => ?_)
        · have hw := hw.1 c6
          exact t_Opn_goTogether_253 hx hb hml hown hT hK hN hA hRc hRs hRf hRl hNN hE hret  o l1 l2 l3 l4 l5 l6 l7 l8 l9 l10 l11 l12 x H locs ls fo fl4 hw hW hS (lv_sub hl [0, 1, 2, 3, 4, 5, 6, 7, 8, 9, 10, 11, 12] rfl)
        · have hw := hw.2 c6
          refine lv_aload_n hx hb d_Opn_goTogether_220 rfl (lv_at hl 0 rfl) ?_
          refine w_getf (q := (stC o 0)) (k := 0) (t := 7) (C := R_Opn) (T := F_Opn) (N := 17) hx hb hT hown hK hW fo.1 fo.2 (by decide) in_Opn rfl rfl (by decide) rfl fr_Opn_0 w_3_15 d_Opn_goTogether_221 rfl ?_
          refine w_getf (q := (stC (stC o 0) 8)) (k := 8) (t := 6) (C := R_Vlt) (T := F_Vlt) (N := 20) hx hb hT hown hK hW (st_ty hNN fo.1 fo.2 rfl).1 (st_ty hNN fo.1 fo.2 rfl).2 (by decide) in_Vlt rfl rfl (by decide) rfl fr_Vlt_8 w_2_149 d_Opn_goTogether_224 rfl ?_
          refine lv_iload hx hb d_Opn_goTogether_227 (lv_at hl 10 rfl) ?_
          obtain ⟨hi, hw⟩ := hw
          refine w_bald (o := (stC (stC o 0) 8)) hx hb hK hW (st_ty hNN (st_ty hNN fo.1 fo.2 rfl).1 (st_ty hNN fo.1 fo.2 rfl).2 rfl).1 (st_ty hNN (st_ty hNN fo.1 fo.2 rfl).1 (st_ty hNN fo.1 fo.2 rfl).2 rfl).2 hi d_Opn_goTogether_229 ?_
          refine lv_iload hx hb d_Opn_goTogether_230 (lv_at hl 7 rfl) ?_
          refine va_mmin hx hb (hml.trans hl.1.symm) hown (hT _ w_7_63) (hT _ w_1_38) (hT _ w_1_3) (hT _ w_1_39) (Nat.le_trans (by decide) hRf) (Nat.le_trans (Nat.le_of_ble_eq_true rfl) hRl) hRc hRs d_Opn_goTogether_232 ?_
          refine lv_aload_n hx hb d_Opn_goTogether_235 rfl (lv_at hl 0 rfl) ?_
          refine w_getf (q := (stC o 0)) (k := 0) (t := 7) (C := R_Opn) (T := F_Opn) (N := 17) hx hb hT hown hK hW fo.1 fo.2 (by decide) in_Opn rfl rfl (by decide) rfl fr_Opn_0 w_3_15 d_Opn_goTogether_236 rfl ?_
          refine w_getf (q := (stC (stC o 0) 8)) (k := 8) (t := 6) (C := R_Vlt) (T := F_Vlt) (N := 20) hx hb hT hown hK hW (st_ty hNN fo.1 fo.2 rfl).1 (st_ty hNN fo.1 fo.2 rfl).2 (by decide) in_Vlt rfl rfl (by decide) rfl fr_Vlt_8 w_2_149 d_Opn_goTogether_239 rfl ?_
          refine lv_iload hx hb d_Opn_goTogether_242 (lv_at hl 11 rfl) ?_
          obtain ⟨hi, hw⟩ := hw
          refine w_bald (o := (stC (stC o 0) 8)) hx hb hK hW (st_ty hNN (st_ty hNN fo.1 fo.2 rfl).1 (st_ty hNN fo.1 fo.2 rfl).2 rfl).1 (st_ty hNN (st_ty hNN fo.1 fo.2 rfl).1 (st_ty hNN fo.1 fo.2 rfl).2 rfl).2 hi d_Opn_goTogether_244 ?_
          refine lv_iload hx hb d_Opn_goTogether_245 (lv_at hl 7 rfl) ?_
          refine va_mmin hx hb (hml.trans hl.1.symm) hown (hT _ w_7_63) (hT _ w_1_38) (hT _ w_1_3) (hT _ w_1_39) (Nat.le_trans (by decide) hRf) (Nat.le_trans (Nat.le_of_ble_eq_true rfl) hRl) hRc hRs d_Opn_goTogether_247 ?_
          refine lv_icmp_eq (tgt := 255) hx hb d_Opn_goTogether_250 (by decide) (fun c7 => ?_) (fun c7 => ?_)
          · have hw := hw.1 c7
            refine lv_aload_n hx hb d_Opn_goTogether_255 rfl (lv_at hl 0 rfl) ?_
            refine lv_iload hx hb d_Opn_goTogether_256 (lv_at hl 6 rfl) ?_
            refine lv_iload hx hb d_Opn_goTogether_258 (lv_at hl 10 rfl) ?_
            refine lv_iconst (v := 1) hx hb d_Opn_goTogether_260 (by decide) ?_
            refine lv_iadd hx hb d_Opn_goTogether_261 ?_
            refine lv_iload hx hb d_Opn_goTogether_262 (lv_at hl 8 rfl) ?_
            have hF := hW.free hS hA
            refine va_calli (va_runV (C := R_Opn) (As := [.int l6, .int (l10 + 1), .int l8]) (rest := []) ⟨hx, hb, hml, hown, hT⟩ (k_Opn_nextUpTo l dC dI cI cB cJ cZ ad NN E tM tC kK kV hNN H.size o l6 (l10 + 1) l8 x fo hw) ⟨callB_of 3 hT (gwt_in w_7_62) rfl rfl rfl (hT _ w_1_10) (hT _ w_7_59) (by decide +kernel) ⟨Nat.le_trans (Nat.le_of_ble_eq_true rfl) hRf, Nat.le_trans (Nat.le_of_ble_eq_true rfl) hRl⟩, hT _ w_7_61, hT _ ws_61⟩ ⟨PVc.blind, va_recv hK hW.1 (ci := 7) (q0 := o) rfl (pic_obj fo.1 fo.2 (by decide)), PVc.at _ hW hK hN hE hS hF⟩ rfl rfl hl.1 rfl (lv_room (Nat.le_of_ble_eq_true rfl)) d_Opn_goTogether_264 ⟨hRc, hRs⟩) hS (fun q _ h => hF q h) hF (fun r9 x8 t H locs ht hvm hw hB hz1 hk1 hS => ?_)
            have hW := Wd.back hB ht hF
            clear hB ht hF hz1 hk1 hvm
            refine lv_istore (lv' := [(10, .int r9), (0, .ref (ad o)), (1, .int l1), (2, .int l2), (3, .int l3), (4, .ref (ad l4)), (5, .int l5), (6, .int l6), (7, .int l7), (8, .int l8), (9, .int l9), (11, .int l11), (12, .int l12)]) hx hb d_Opn_goTogether_267 hl (by decide) rfl (fun ls hl => ?_)
            refine lv_aload_n hx hb d_Opn_goTogether_269 rfl (lv_at hl 1 rfl) ?_
            refine lv_iload hx hb d_Opn_goTogether_270 (lv_at hl 7 rfl) ?_
            refine lv_iload hx hb d_Opn_goTogether_272 (lv_at hl 11 rfl) ?_
            refine lv_iconst (v := 1) hx hb d_Opn_goTogether_274 (by decide) ?_
            refine lv_iadd hx hb d_Opn_goTogether_275 ?_
            refine lv_iload hx hb d_Opn_goTogether_276 (lv_at hl 10 rfl) ?_
            have hF := hW.free hS hA
            refine va_calli (va_runV (C := R_Opn) (As := [.int l6, .int (l11 + 1), .int l9]) (rest := []) ⟨hx, hb, hml, hown, hT⟩ (k_Opn_nextUpTo l dC dI cI cB cJ cZ ad NN E tM tC kK kV hNN H.size o l6 (l11 + 1) l9 x8 fo hw) ⟨callB_of 3 hT (gwt_in w_7_62) rfl rfl rfl (hT _ w_1_10) (hT _ w_7_59) (by decide +kernel) ⟨Nat.le_trans (Nat.le_of_ble_eq_true rfl) hRf, Nat.le_trans (Nat.le_of_ble_eq_true rfl) hRl⟩, hT _ w_7_61, hT _ ws_61⟩ ⟨PVc.blind, va_recv hK hW.1 (ci := 7) (q0 := o) rfl (pic_obj fo.1 fo.2 (by decide)), PVc.at _ hW hK hN hE hS hF⟩ rfl rfl hl.1 rfl (lv_room (Nat.le_of_ble_eq_true rfl)) d_Opn_goTogether_278 ⟨hRc, hRs⟩) hS (fun q _ h => hF q h) hF (fun r11 x10 t H locs ht hvm hw hB hz1 hk1 hS => ?_)
            have hW := Wd.back hB ht hF
            clear hB ht hF hz1 hk1 hvm
            refine lv_istore (lv' := [(11, .int r11), (10, .int r9), (0, .ref (ad o)), (1, .int l1), (2, .int l2), (3, .int l3), (4, .ref (ad l4)), (5, .int l5), (6, .int l6), (7, .int l7), (8, .int l8), (9, .int l9), (12, .int l12)]) hx hb d_Opn_goTogether_281 hl (by decide) rfl (fun ls hl => ?_)
            refine lv_iinc (v := (l12 + 1)) (lv' := [(12, .int (l12 + 1)), (11, .int r11), (10, .int r9), (0, .ref (ad o)), (1, .int l1), (2, .int l2), (3, .int l3), (4, .ref (ad l4)), (5, .int l5), (6, .int l6), (7, .int l7), (8, .int l8), (9, .int l9)]) hx hb d_Opn_goTogether_283 hl (k := 12) rfl rfl (by decide) rfl (fun ls hl => ?_)
            refine lv_goto (tgt := 175) hx hb d_Opn_goTogether_286 (by decide) ?_
            exact hrec175 o l1 l2 l3 l4 l5 l6 l7 l8 l9 r9 r11 (l12 + 1) x10 H locs ls fo fl4 hw hW hS (lv_sub hl [3, 4, 5, 6, 7, 8, 9, 10, 11, 12, 2, 1, 0] rfl)
          · have hw := hw.2 c7
            exact t_Opn_goTogether_253 hx hb hml hown hT hK hN hA hRc hRs hRf hRl hNN hE hret  o l1 l2 l3 l4 l5 l6 l7 l8 l9 l10 l11 l12 x H locs ls fo fl4 hw hW hS (lv_sub hl [0, 1, 2, 3, 4, 5, 6, 7, 8, 9, 10, 11, 12] rfl)
set_option maxHeartbeats 4000000 in
set_option maxRecDepth 100000 in
theorem tl_Opn_goTogether_175 {p : Program} {l : Launch} {e : Env} {R : Room} {s : State} {m : MethodId} {args : Array Value} {below : List Frame} {meth : Method} {c : Code} {cells slots : Nat} {Q : State → Prop} {dC : Nat → ClassId} {dI : Nat → Nat → Nat} {cI cB cJ cZ : ClassId} {A : Nat → Prop} {ad : Nat → Nat} {NN : Nat} {E : Heap} {tM tC : Nat} {kK kV : Nat → Nat} {post : Int32 → St → Prop} (hx : p.tables.exec = Jvm.exec) (hb : c.code = b_Opn_goTogether) (hml : c.maxLocals = 13) (hown : s.vm.findClass R_Opn = some m.cls) (hT : ∀ w ∈ TG, w.before args s = true) (hK : va_K (dC, dI) CL (TY cI cB cJ cZ) s) (hN : NW s) (hA : ∀ q : Nat, s.heap.size ≤ q → A q) (hRc : cells ≤ R.cells) (hRs : slots ≤ R.slots) (hRf : 1 ≤ R.frames) (hRl : 80 ≤ R.locals) (hNN : 152 ≤ NN) (hE : CE E tM tC kK kV A s) (hret : ∀ (r : Int32) (x : St) (H : Heap) (locs : List Loc) (pc : Nat) (ls : Array Slot), decode b_Opn_goTogether pc = .ok (.ireturn, 1) → narrow .boolean (.int r) = .int r → post r x → Wd dC dI cI cB cJ cZ ad stC kcC NN A x H → va_S A s.heap H locs → W p l e R s m args below meth c H locs cells slots Q (F0 m pc ls [.int r]))  : ∀ n : Nat, ∀ (o : Nat) (l1 : Int32) (l2 : Int32) (l3 : Int32) (l4 : Nat) (l5 : Int32) (l6 : Int32) (l7 : Int32) (l8 : Int32) (l9 : Int32) (l10 : Int32) (l11 : Int32) (l12 : Int32) (x : St) (H : Heap) (locs : List Loc) (ls : Array Slot), (o < NN ∧ kcC o = 7) → (l4 < NN ∧ kcC l4 = 3) → wl_Opn_goTogether_175 post n o l1 l2 l3 l4 l5 l6 l7 l8 l9 l10 l11 l12 x → Wd dC dI cI cB cJ cZ ad stC kcC NN A x H → va_S A s.heap H locs → lv_has ls 13 [(0, .ref (ad o)), (1, .int l1), (2, .int l2), (3, .int l3), (4, .ref (ad l4)), (5, .int l5), (6, .int l6), (7, .int l7), (8, .int l8), (9, .int l9), (10, .int l10), (11, .int l11), (12, .int l12)] → W p l e R s m args below meth c H locs cells slots Q (F0 m 175 ls []) := by
  intro n
  induction n with
  | zero => intro o l1 l2 l3 l4 l5 l6 l7 l8 l9 l10 l11 l12 x H locs ls fo fl4 hw; exact hw.elim
  | succ n ih => intro o l1 l2 l3 l4 l5 l6 l7 l8 l9 l10 l11 l12 x H locs ls fo fl4 hw hW hS hl; exact t_Opn_goTogether_175 hx hb hml hown hT hK hN hA hRc hRs hRf hRl hNN hE hret  ih o l1 l2 l3 l4 l5 l6 l7 l8 l9 l10 l11 l12 x H locs ls fo fl4 hw hW hS hl
set_option maxRecDepth 100000 in
set_option maxHeartbeats 4000000 in
set_option maxRecDepth 100000 in
theorem t_Opn_goTogether_64 {p : Program} {l : Launch} {e : Env} {R : Room} {s : State} {m : MethodId} {args : Array Value} {below : List Frame} {meth : Method} {c : Code} {cells slots : Nat} {Q : State → Prop} {dC : Nat → ClassId} {dI : Nat → Nat → Nat} {cI cB cJ cZ : ClassId} {A : Nat → Prop} {ad : Nat → Nat} {NN : Nat} {E : Heap} {tM tC : Nat} {kK kV : Nat → Nat} {post : Int32 → St → Prop} (hx : p.tables.exec = Jvm.exec) (hb : c.code = b_Opn_goTogether) (hml : c.maxLocals = 13) (hown : s.vm.findClass R_Opn = some m.cls) (hT : ∀ w ∈ TG, w.before args s = true) (hK : va_K (dC, dI) CL (TY cI cB cJ cZ) s) (hN : NW s) (hA : ∀ q : Nat, s.heap.size ≤ q → A q) (hRc : cells ≤ R.cells) (hRs : slots ≤ R.slots) (hRf : 1 ≤ R.frames) (hRl : 80 ≤ R.locals) (hNN : 152 ≤ NN) (hE : CE E tM tC kK kV A s) (hret : ∀ (r : Int32) (x : St) (H : Heap) (locs : List Loc) (pc : Nat) (ls : Array Slot), decode b_Opn_goTogether pc = .ok (.ireturn, 1) → narrow .boolean (.int r) = .int r → post r x → Wd dC dI cI cB cJ cZ ad stC kcC NN A x H → va_S A s.heap H locs → W p l e R s m args below meth c H locs cells slots Q (F0 m pc ls [.int r]))  : ∀ (o : Nat) (l1 : Int32) (l2 : Int32) (l3 : Int32) (l4 : Nat) (l5 : Int32) (l6 : Int32) (x : St) (H : Heap) (locs : List Loc) (ls : Array Slot), (o < NN ∧ kcC o = 7) → (l4 < NN ∧ kcC l4 = 3) → j_Opn_goTogether_64 post o l1 l2 l3 l4 l5 l6 x → Wd dC dI cI cB cJ cZ ad stC kcC NN A x H → va_S A s.heap H locs → lv_has ls 13 [(0, .ref (ad o)), (1, .int l1), (2, .int l2), (3, .int l3), (4, .ref (ad l4)), (5, .int l5), (6, .int l6)] → W p l e R s m args below meth c H locs cells slots Q (F0 m 64 ls []) := by
  intro o l1 l2 l3 l4 l5 l6 x H locs ls fo fl4 hw hW hS hl
  unfold j_Opn_goTogether_64 at hw
  refine lv_iload hx hb d_Opn_goTogether_64 (lv_at hl 5 rfl) ?_
  refine lv_iconst (v := (-1)) hx hb d_Opn_goTogether_66 (by decide) ?_
  refine lv_icmp_ne (tgt := 72) hx hb d_Opn_goTogether_67 (by decide) (fun c12 => ?_) (fun c12 => ?_)
  · have hw := hw.1 c12
    refine lv_aload hx hb d_Opn_goTogether_72 (lv_at hl 4 rfl) ?_
    refine w_getf (q := (stC l4 5)) (k := 5) (t := 3) (C := R_Sch) (T := F_Sch) (N := 13) hx hb hT hown hK hW fl4.1 fl4.2 (by decide) in_Sch rfl rfl (by decide) rfl fr_Sch_5 w_1_161 d_Opn_goTogether_74 rfl ?_
    refine lv_iload hx hb d_Opn_goTogether_77 (lv_at hl 5 rfl) ?_
    obtain ⟨hi, hw⟩ := hw
    refine w_iald (o := (stC l4 5)) hx hb hK hW (st_ty hNN fl4.1 fl4.2 rfl).1 (st_ty hNN fl4.1 fl4.2 rfl).2 hi d_Opn_goTogether_79 ?_
    refine lv_topi (fun v13 ev13 => ?_)
    have hw := hw v13 ev13
    refine lv_istore (lv' := [(6, .int v13), (0, .ref (ad o)), (1, .int l1), (2, .int l2), (3, .int l3), (4, .ref (ad l4)), (5, .int l5)]) hx hb d_Opn_goTogether_80 hl (by decide) rfl (fun ls hl => ?_)
    refine lv_aload hx hb d_Opn_goTogether_82 (lv_at hl 5 rfl) ?_
    refine w_getf (q := (stC l4 6)) (k := 6) (t := 3) (C := R_Sch) (T := F_Sch) (N := 13) hx hb hT hown hK hW fl4.1 fl4.2 (by decide) in_Sch rfl rfl (by decide) rfl fr_Sch_6 w_1_167 d_Opn_goTogether_84 rfl ?_
    refine lv_iload hx hb d_Opn_goTogether_87 (lv_at hl 6 rfl) ?_
    obtain ⟨hi, hw⟩ := hw
    refine w_iald (o := (stC l4 6)) hx hb hK hW (st_ty hNN fl4.1 fl4.2 rfl).1 (st_ty hNN fl4.1 fl4.2 rfl).2 hi d_Opn_goTogether_89 ?_
    refine lv_topi (fun v14 ev14 => ?_)
    have hw := hw v14 ev14
    refine lv_istore (lv' := [(7, .int v14), (6, .int v13), (0, .ref (ad o)), (1, .int l1), (2, .int l2), (3, .int l3), (4, .ref (ad l4)), (5, .int l5)]) hx hb d_Opn_goTogether_90 hl (by decide) rfl (fun ls hl => ?_)
    refine lv_aload_n hx hb d_Opn_goTogether_92 rfl (lv_at hl 2 rfl) ?_
    refine w_getf (q := (stC o 0)) (k := 0) (t := 7) (C := R_Opn) (T := F_Opn) (N := 17) hx hb hT hown hK hW fo.1 fo.2 (by decide) in_Opn rfl rfl (by decide) rfl fr_Opn_0 w_3_15 d_Opn_goTogether_93 rfl ?_
    refine w_getf (q := (stC (stC o 0) 13)) (k := 13) (t := 6) (C := R_Vlt) (T := F_Vlt) (N := 20) hx hb hT hown hK hW (st_ty hNN fo.1 fo.2 rfl).1 (st_ty hNN fo.1 fo.2 rfl).2 (by decide) in_Vlt rfl rfl (by decide) rfl fr_Vlt_13 w_2_163 d_Opn_goTogether_96 rfl ?_
    refine lv_iload_n hx hb d_Opn_goTogether_99 rfl (lv_at hl 4 rfl) ?_
    obtain ⟨hi, hw⟩ := hw
    refine w_iald (o := (stC (stC o 0) 13)) hx hb hK hW (st_ty hNN (st_ty hNN fo.1 fo.2 rfl).1 (st_ty hNN fo.1 fo.2 rfl).2 rfl).1 (st_ty hNN (st_ty hNN fo.1 fo.2 rfl).1 (st_ty hNN fo.1 fo.2 rfl).2 rfl).2 hi d_Opn_goTogether_100 ?_
    refine lv_aload_n hx hb d_Opn_goTogether_101 rfl (lv_at hl 2 rfl) ?_
    refine w_getf (q := (stC o 0)) (k := 0) (t := 7) (C := R_Opn) (T := F_Opn) (N := 17) hx hb hT hown hK hW fo.1 fo.2 (by decide) in_Opn rfl rfl (by decide) rfl fr_Opn_0 w_3_15 d_Opn_goTogether_102 rfl ?_
    refine w_getf (q := (stC (stC o 0) 14)) (k := 14) (t := 6) (C := R_Vlt) (T := F_Vlt) (N := 20) hx hb hT hown hK hW (st_ty hNN fo.1 fo.2 rfl).1 (st_ty hNN fo.1 fo.2 rfl).2 (by decide) in_Vlt rfl rfl (by decide) rfl fr_Vlt_14 w_2_166 d_Opn_goTogether_105 rfl ?_
    refine lv_iload_n hx hb d_Opn_goTogether_108 rfl (lv_at hl 4 rfl) ?_
    obtain ⟨hi, hw⟩ := hw
    refine w_iald (o := (stC (stC o 0) 14)) hx hb hK hW (st_ty hNN (st_ty hNN fo.1 fo.2 rfl).1 (st_ty hNN fo.1 fo.2 rfl).2 rfl).1 (st_ty hNN (st_ty hNN fo.1 fo.2 rfl).1 (st_ty hNN fo.1 fo.2 rfl).2 rfl).2 hi d_Opn_goTogether_109 ?_
    refine lv_iadd hx hb d_Opn_goTogether_110 ?_
    refine lv_topi (fun v15 ev15 => ?_)
    have hw := hw v15 ev15
    refine lv_istore (lv' := [(8, .int v15), (7, .int v14), (6, .int v13), (0, .ref (ad o)), (1, .int l1), (2, .int l2), (3, .int l3), (4, .ref (ad l4)), (5, .int l5)]) hx hb d_Opn_goTogether_111 hl (by decide) rfl (fun ls hl => ?_)
    refine lv_aload_n hx hb d_Opn_goTogether_113 rfl (lv_at hl 3 rfl) ?_
    refine w_getf (q := (stC o 0)) (k := 0) (t := 7) (C := R_Opn) (T := F_Opn) (N := 17) hx hb hT hown hK hW fo.1 fo.2 (by decide) in_Opn rfl rfl (by decide) rfl fr_Opn_0 w_3_15 d_Opn_goTogether_114 rfl ?_
    refine w_getf (q := (stC (stC o 0) 13)) (k := 13) (t := 6) (C := R_Vlt) (T := F_Vlt) (N := 20) hx hb hT hown hK hW (st_ty hNN fo.1 fo.2 rfl).1 (st_ty hNN fo.1 fo.2 rfl).2 (by decide) in_Vlt rfl rfl (by decide) rfl fr_Vlt_13 w_2_163 d_Opn_goTogether_117 rfl ?_
    refine lv_iload_n hx hb d_Opn_goTogether_120 rfl (lv_at hl 6 rfl) ?_
    obtain ⟨hi, hw⟩ := hw
    refine w_iald (o := (stC (stC o 0) 13)) hx hb hK hW (st_ty hNN (st_ty hNN fo.1 fo.2 rfl).1 (st_ty hNN fo.1 fo.2 rfl).2 rfl).1 (st_ty hNN (st_ty hNN fo.1 fo.2 rfl).1 (st_ty hNN fo.1 fo.2 rfl).2 rfl).2 hi d_Opn_goTogether_121 ?_
    refine lv_aload_n hx hb d_Opn_goTogether_122 rfl (lv_at hl 3 rfl) ?_
    refine w_getf (q := (stC o 0)) (k := 0) (t := 7) (C := R_Opn) (T := F_Opn) (N := 17) hx hb hT hown hK hW fo.1 fo.2 (by decide) in_Opn rfl rfl (by decide) rfl fr_Opn_0 w_3_15 d_Opn_goTogether_123 rfl ?_
    refine w_getf (q := (stC (stC o 0) 14)) (k := 14) (t := 6) (C := R_Vlt) (T := F_Vlt) (N := 20) hx hb hT hown hK hW (st_ty hNN fo.1 fo.2 rfl).1 (st_ty hNN fo.1 fo.2 rfl).2 (by decide) in_Vlt rfl rfl (by decide) rfl fr_Vlt_14 w_2_166 d_Opn_goTogether_126 rfl ?_
    refine lv_iload_n hx hb d_Opn_goTogether_129 rfl (lv_at hl 6 rfl) ?_
    obtain ⟨hi, hw⟩ := hw
    refine w_iald (o := (stC (stC o 0) 14)) hx hb hK hW (st_ty hNN (st_ty hNN fo.1 fo.2 rfl).1 (st_ty hNN fo.1 fo.2 rfl).2 rfl).1 (st_ty hNN (st_ty hNN fo.1 fo.2 rfl).1 (st_ty hNN fo.1 fo.2 rfl).2 rfl).2 hi d_Opn_goTogether_130 ?_
    refine lv_iadd hx hb d_Opn_goTogether_131 ?_
    refine lv_topi (fun v16 ev16 => ?_)
    have hw := hw v16 ev16
    refine lv_istore (lv' := [(9, .int v16), (8, .int v15), (7, .int v14), (6, .int v13), (0, .ref (ad o)), (1, .int l1), (2, .int l2), (3, .int l3), (4, .ref (ad l4)), (5, .int l5)]) hx hb d_Opn_goTogether_132 hl (by decide) rfl (fun ls hl => ?_)
    refine lv_aload_n hx hb d_Opn_goTogether_134 rfl (lv_at hl 4 rfl) ?_
    refine lv_iload hx hb d_Opn_goTogether_135 (lv_at hl 3 rfl) ?_
    refine lv_aload_n hx hb d_Opn_goTogether_137 rfl (lv_at hl 4 rfl) ?_
    refine w_getf (q := (stC o 0)) (k := 0) (t := 7) (C := R_Opn) (T := F_Opn) (N := 17) hx hb hT hown hK hW fo.1 fo.2 (by decide) in_Opn rfl rfl (by decide) rfl fr_Opn_0 w_3_15 d_Opn_goTogether_138 rfl ?_
    refine w_getf (q := (stC (stC o 0) 13)) (k := 13) (t := 6) (C := R_Vlt) (T := F_Vlt) (N := 20) hx hb hT hown hK hW (st_ty hNN fo.1 fo.2 rfl).1 (st_ty hNN fo.1 fo.2 rfl).2 (by decide) in_Vlt rfl rfl (by decide) rfl fr_Vlt_13 w_2_163 d_Opn_goTogether_141 rfl ?_
    refine lv_iload_n hx hb d_Opn_goTogether_144 rfl (lv_at hl 6 rfl) ?_
    obtain ⟨hi, hw⟩ := hw
    refine w_iald (o := (stC (stC o 0) 13)) hx hb hK hW (st_ty hNN (st_ty hNN fo.1 fo.2 rfl).1 (st_ty hNN fo.1 fo.2 rfl).2 rfl).1 (st_ty hNN (st_ty hNN fo.1 fo.2 rfl).1 (st_ty hNN fo.1 fo.2 rfl).2 rfl).2 hi d_Opn_goTogether_145 ?_
    refine lv_iload hx hb d_Opn_goTogether_146 (lv_at hl 1 rfl) ?_
    have hF := hW.free hS hA
    refine va_calli (va_runV (C := R_Opn) (As := [.int v13, .int (rA x (stC (stC o 0) 13) l2), .int v15]) (rest := []) ⟨hx, hb, hml, hown, hT⟩ (k_Opn_nextUpTo l dC dI cI cB cJ cZ ad NN E tM tC kK kV hNN H.size o v13 (rA x (stC (stC o 0) 13) l2) v15 x fo hw) ⟨callB_of 3 hT (gwt_in w_7_62) rfl rfl rfl (hT _ w_1_10) (hT _ w_7_59) (by decide +kernel) ⟨Nat.le_trans (Nat.le_of_ble_eq_true rfl) hRf, Nat.le_trans (Nat.le_of_ble_eq_true rfl) hRl⟩, hT _ w_7_61, hT _ ws_61⟩ ⟨PVc.blind, va_recv hK hW.1 (ci := 7) (q0 := o) rfl (pic_obj fo.1 fo.2 (by decide)), PVc.at _ hW hK hN hE hS hF⟩ rfl rfl hl.1 rfl (lv_room (Nat.le_of_ble_eq_true rfl)) d_Opn_goTogether_148 ⟨hRc, hRs⟩) hS (fun q _ h => hF q h) hF (fun r18 x17 t H locs ht hvm hw hB hz1 hk1 hS => ?_)
    have hW := Wd.back hB ht hF
    clear hB ht hF hz1 hk1 hvm
    refine lv_istore (lv' := [(10, .int r18), (9, .int v16), (8, .int v15), (7, .int v14), (6, .int v13), (0, .ref (ad o)), (1, .int l1), (2, .int l2), (3, .int l3), (4, .ref (ad l4)), (5, .int l5)]) hx hb d_Opn_goTogether_151 hl (by decide) rfl (fun ls hl => ?_)
    refine lv_aload_n hx hb d_Opn_goTogether_153 rfl (lv_at hl 5 rfl) ?_
    refine lv_iload hx hb d_Opn_goTogether_154 (lv_at hl 4 rfl) ?_
    refine lv_aload_n hx hb d_Opn_goTogether_156 rfl (lv_at hl 5 rfl) ?_
    refine w_getf (q := (stC o 0)) (k := 0) (t := 7) (C := R_Opn) (T := F_Opn) (N := 17) hx hb hT hown hK hW fo.1 fo.2 (by decide) in_Opn rfl rfl (by decide) rfl fr_Opn_0 w_3_15 d_Opn_goTogether_157 rfl ?_
    refine w_getf (q := (stC (stC o 0) 13)) (k := 13) (t := 6) (C := R_Vlt) (T := F_Vlt) (N := 20) hx hb hT hown hK hW (st_ty hNN fo.1 fo.2 rfl).1 (st_ty hNN fo.1 fo.2 rfl).2 (by decide) in_Vlt rfl rfl (by decide) rfl fr_Vlt_13 w_2_163 d_Opn_goTogether_160 rfl ?_
    refine lv_iload_n hx hb d_Opn_goTogether_163 rfl (lv_at hl 8 rfl) ?_
    obtain ⟨hi, hw⟩ := hw
    refine w_iald (o := (stC (stC o 0) 13)) hx hb hK hW (st_ty hNN (st_ty hNN fo.1 fo.2 rfl).1 (st_ty hNN fo.1 fo.2 rfl).2 rfl).1 (st_ty hNN (st_ty hNN fo.1 fo.2 rfl).1 (st_ty hNN fo.1 fo.2 rfl).2 rfl).2 hi d_Opn_goTogether_164 ?_
    refine lv_iload hx hb d_Opn_goTogether_165 (lv_at hl 1 rfl) ?_
    have hF := hW.free hS hA
    refine va_calli (va_runV (C := R_Opn) (As := [.int v13, .int (rA x17 (stC (stC o 0) 13) l3), .int v16]) (rest := []) ⟨hx, hb, hml, hown, hT⟩ (k_Opn_nextUpTo l dC dI cI cB cJ cZ ad NN E tM tC kK kV hNN H.size o v13 (rA x17 (stC (stC o 0) 13) l3) v16 x17 fo hw) ⟨callB_of 3 hT (gwt_in w_7_62) rfl rfl rfl (hT _ w_1_10) (hT _ w_7_59) (by decide +kernel) ⟨Nat.le_trans (Nat.le_of_ble_eq_true rfl) hRf, Nat.le_trans (Nat.le_of_ble_eq_true rfl) hRl⟩, hT _ w_7_61, hT _ ws_61⟩ ⟨PVc.blind, va_recv hK hW.1 (ci := 7) (q0 := o) rfl (pic_obj fo.1 fo.2 (by decide)), PVc.at _ hW hK hN hE hS hF⟩ rfl rfl hl.1 rfl (lv_room (Nat.le_of_ble_eq_true rfl)) d_Opn_goTogether_167 ⟨hRc, hRs⟩) hS (fun q _ h => hF q h) hF (fun r20 x19 t H locs ht hvm hw hB hz1 hk1 hS => ?_)
    have hW := Wd.back hB ht hF
    clear hB ht hF hz1 hk1 hvm
    refine lv_istore (lv' := [(11, .int r20), (10, .int r18), (9, .int v16), (8, .int v15), (7, .int v14), (6, .int v13), (0, .ref (ad o)), (1, .int l1), (2, .int l2), (3, .int l3), (4, .ref (ad l4)), (5, .int l5)]) hx hb d_Opn_goTogether_170 hl (by decide) rfl (fun ls hl => ?_)
    refine lv_iconst (v := 0) hx hb d_Opn_goTogether_172 (by decide) ?_
    refine lv_istore (lv' := [(12, .int 0), (11, .int r20), (10, .int r18), (9, .int v16), (8, .int v15), (7, .int v14), (6, .int v13), (0, .ref (ad o)), (1, .int l1), (2, .int l2), (3, .int l3), (4, .ref (ad l4)), (5, .int l5)]) hx hb d_Opn_goTogether_173 hl (by decide) rfl (fun ls hl => ?_)
    obtain ⟨n, hw⟩ := hw
    exact tl_Opn_goTogether_175 hx hb hml hown hT hK hN hA hRc hRs hRf hRl hNN hE hret  n o l1 l2 l3 l4 l5 v13 v14 v15 v16 r18 r20 0 x19 H locs ls fo fl4 hw hW hS (lv_sub hl [7, 8, 9, 10, 11, 12, 6, 5, 4, 3, 2, 1, 0] rfl)
  · have hw := hw.2 c12
    refine lv_iconst (v := 1) hx hb d_Opn_goTogether_70 (by decide) ?_
    exact hret 1 x H locs 71 ls d_Opn_goTogether_71 rfl hw hW hS
set_option maxRecDepth 100000 in
set_option maxHeartbeats 4000000 in
set_option maxRecDepth 100000 in
theorem t_Opn_goTogether_27 {p : Program} {l : Launch} {e : Env} {R : Room} {s : State} {m : MethodId} {args : Array Value} {below : List Frame} {meth : Method} {c : Code} {cells slots : Nat} {Q : State → Prop} {dC : Nat → ClassId} {dI : Nat → Nat → Nat} {cI cB cJ cZ : ClassId} {A : Nat → Prop} {ad : Nat → Nat} {NN : Nat} {E : Heap} {tM tC : Nat} {kK kV : Nat → Nat} {post : Int32 → St → Prop} {rec27 : Nat → Int32 → Int32 → Int32 → Nat → Int32 → Int32 → St → Prop} (hx : p.tables.exec = Jvm.exec) (hb : c.code = b_Opn_goTogether) (hml : c.maxLocals = 13) (hown : s.vm.findClass R_Opn = some m.cls) (hT : ∀ w ∈ TG, w.before args s = true) (hK : va_K (dC, dI) CL (TY cI cB cJ cZ) s) (hN : NW s) (hA : ∀ q : Nat, s.heap.size ≤ q → A q) (hRc : cells ≤ R.cells) (hRs : slots ≤ R.slots) (hRf : 1 ≤ R.frames) (hRl : 80 ≤ R.locals) (hNN : 152 ≤ NN) (hE : CE E tM tC kK kV A s) (hret : ∀ (r : Int32) (x : St) (H : Heap) (locs : List Loc) (pc : Nat) (ls : Array Slot), decode b_Opn_goTogether pc = .ok (.ireturn, 1) → narrow .boolean (.int r) = .int r → post r x → Wd dC dI cI cB cJ cZ ad stC kcC NN A x H → va_S A s.heap H locs → W p l e R s m args below meth c H locs cells slots Q (F0 m pc ls [.int r])) (hrec27 : ∀ (o : Nat) (l1 : Int32) (l2 : Int32) (l3 : Int32) (l4 : Nat) (l5 : Int32) (l6 : Int32) (x : St) (H : Heap) (locs : List Loc) (ls : Array Slot), (o < NN ∧ kcC o = 7) → (l4 < NN ∧ kcC l4 = 3) → rec27 o l1 l2 l3 l4 l5 l6 x → Wd dC dI cI cB cJ cZ ad stC kcC NN A x H → va_S A s.heap H locs → lv_has ls 13 [(0, .ref (ad o)), (1, .int l1), (2, .int l2), (3, .int l3), (4, .ref (ad l4)), (5, .int l5), (6, .int l6)] → W p l e R s m args below meth c H locs cells slots Q (F0 m 27 ls [])) : ∀ (o : Nat) (l1 : Int32) (l2 : Int32) (l3 : Int32) (l4 : Nat) (l5 : Int32) (l6 : Int32) (x : St) (H : Heap) (locs : List Loc) (ls : Array Slot), (o < NN ∧ kcC o = 7) → (l4 < NN ∧ kcC l4 = 3) → j_Opn_goTogether_27 post rec27 o l1 l2 l3 l4 l5 l6 x → Wd dC dI cI cB cJ cZ ad stC kcC NN A x H → va_S A s.heap H locs → lv_has ls 13 [(0, .ref (ad o)), (1, .int l1), (2, .int l2), (3, .int l3), (4, .ref (ad l4)), (5, .int l5), (6, .int l6)] → W p l e R s m args below meth c H locs cells slots Q (F0 m 27 ls []) := by
  intro o l1 l2 l3 l4 l5 l6 x H locs ls fo fl4 hw hW hS hl
  unfold j_Opn_goTogether_27 at hw
  refine lv_iload hx hb d_Opn_goTogether_27 (lv_at hl 6 rfl) ?_
  refine lv_bipush (v := 16) hx hb d_Opn_goTogether_29 (by decide) ?_
  refine lv_icmp_gt (tgt := 64) hx hb d_Opn_goTogether_31 (by decide) (fun c21 => ?_) (fun c21 => ?_)
  · have hw := hw.1 c21
    exact t_Opn_goTogether_64 hx hb hml hown hT hK hN hA hRc hRs hRf hRl hNN hE hret  o l1 l2 l3 l4 l5 l6 x H locs ls fo fl4 hw hW hS (lv_sub hl [0, 1, 2, 3, 4, 5, 6] rfl)
  · have hw := hw.2 c21
    refine lv_iload hx hb d_Opn_goTogether_34 (lv_at hl 5 rfl) ?_
    refine lv_aload hx hb d_Opn_goTogether_36 (lv_at hl 4 rfl) ?_
    refine w_getf (q := (stC l4 10)) (k := 10) (t := 3) (C := R_Sch) (T := F_Sch) (N := 13) hx hb hT hown hK hW fl4.1 fl4.2 (by decide) in_Sch rfl rfl (by decide) rfl fr_Sch_10 w_1_181 d_Opn_goTogether_38 rfl ?_
    refine lv_iload_n hx hb d_Opn_goTogether_41 rfl (lv_at hl 1 rfl) ?_
    refine lv_iconst (v := 1) hx hb d_Opn_goTogether_42 (by decide) ?_
    refine lv_isub hx hb d_Opn_goTogether_43 ?_
    obtain ⟨hi, hw⟩ := hw
    refine w_iald (o := (stC l4 10)) hx hb hK hW (st_ty hNN fl4.1 fl4.2 rfl).1 (st_ty hNN fl4.1 fl4.2 rfl).2 hi d_Opn_goTogether_44 ?_
    refine lv_icmp_le (tgt := 64) hx hb d_Opn_goTogether_45 (by decide) (fun c22 => ?_) (fun c22 => ?_)
    · have hw := hw.1 c22
      exact t_Opn_goTogether_64 hx hb hml hown hT hK hN hA hRc hRs hRf hRl hNN hE hret  o l1 l2 l3 l4 l5 l6 x H locs ls fo fl4 hw hW hS (lv_sub hl [0, 1, 2, 3, 4, 5, 6] rfl)
    · have hw := hw.2 c22
      refine lv_aload hx hb d_Opn_goTogether_48 (lv_at hl 4 rfl) ?_
      refine w_getf (q := (stC l4 4)) (k := 4) (t := 3) (C := R_Sch) (T := F_Sch) (N := 13) hx hb hT hown hK hW fl4.1 fl4.2 (by decide) in_Sch rfl rfl (by decide) rfl fr_Sch_4 w_1_155 d_Opn_goTogether_50 rfl ?_
      refine lv_iload hx hb d_Opn_goTogether_53 (lv_at hl 5 rfl) ?_
      obtain ⟨hi, hw⟩ := hw
      refine w_iald (o := (stC l4 4)) hx hb hK hW (st_ty hNN fl4.1 fl4.2 rfl).1 (st_ty hNN fl4.1 fl4.2 rfl).2 hi d_Opn_goTogether_55 ?_
      refine lv_topi (fun v23 ev23 => ?_)
      have hw := hw v23 ev23
      refine lv_istore (lv' := [(5, .int v23), (0, .ref (ad o)), (1, .int l1), (2, .int l2), (3, .int l3), (4, .ref (ad l4)), (6, .int l6)]) hx hb d_Opn_goTogether_56 hl (by decide) rfl (fun ls hl => ?_)
      refine lv_iinc (v := (l6 + 1)) (lv' := [(6, .int (l6 + 1)), (5, .int v23), (0, .ref (ad o)), (1, .int l1), (2, .int l2), (3, .int l3), (4, .ref (ad l4))]) hx hb d_Opn_goTogether_58 hl (k := 6) rfl rfl (by decide) rfl (fun ls hl => ?_)
      refine lv_goto (tgt := 27) hx hb d_Opn_goTogether_61 (by decide) ?_
      exact hrec27 o l1 l2 l3 l4 v23 (l6 + 1) x H locs ls fo fl4 hw hW hS (lv_sub hl [2, 3, 4, 5, 6, 1, 0] rfl)
set_option maxHeartbeats 4000000 in
set_option maxRecDepth 100000 in
theorem tl_Opn_goTogether_27 {p : Program} {l : Launch} {e : Env} {R : Room} {s : State} {m : MethodId} {args : Array Value} {below : List Frame} {meth : Method} {c : Code} {cells slots : Nat} {Q : State → Prop} {dC : Nat → ClassId} {dI : Nat → Nat → Nat} {cI cB cJ cZ : ClassId} {A : Nat → Prop} {ad : Nat → Nat} {NN : Nat} {E : Heap} {tM tC : Nat} {kK kV : Nat → Nat} {post : Int32 → St → Prop} (hx : p.tables.exec = Jvm.exec) (hb : c.code = b_Opn_goTogether) (hml : c.maxLocals = 13) (hown : s.vm.findClass R_Opn = some m.cls) (hT : ∀ w ∈ TG, w.before args s = true) (hK : va_K (dC, dI) CL (TY cI cB cJ cZ) s) (hN : NW s) (hA : ∀ q : Nat, s.heap.size ≤ q → A q) (hRc : cells ≤ R.cells) (hRs : slots ≤ R.slots) (hRf : 1 ≤ R.frames) (hRl : 80 ≤ R.locals) (hNN : 152 ≤ NN) (hE : CE E tM tC kK kV A s) (hret : ∀ (r : Int32) (x : St) (H : Heap) (locs : List Loc) (pc : Nat) (ls : Array Slot), decode b_Opn_goTogether pc = .ok (.ireturn, 1) → narrow .boolean (.int r) = .int r → post r x → Wd dC dI cI cB cJ cZ ad stC kcC NN A x H → va_S A s.heap H locs → W p l e R s m args below meth c H locs cells slots Q (F0 m pc ls [.int r]))  : ∀ n : Nat, ∀ (o : Nat) (l1 : Int32) (l2 : Int32) (l3 : Int32) (l4 : Nat) (l5 : Int32) (l6 : Int32) (x : St) (H : Heap) (locs : List Loc) (ls : Array Slot), (o < NN ∧ kcC o = 7) → (l4 < NN ∧ kcC l4 = 3) → wl_Opn_goTogether_27 post n o l1 l2 l3 l4 l5 l6 x → Wd dC dI cI cB cJ cZ ad stC kcC NN A x H → va_S A s.heap H locs → lv_has ls 13 [(0, .ref (ad o)), (1, .int l1), (2, .int l2), (3, .int l3), (4, .ref (ad l4)), (5, .int l5), (6, .int l6)] → W p l e R s m args below meth c H locs cells slots Q (F0 m 27 ls []) := by
  intro n
  induction n with
  | zero => intro o l1 l2 l3 l4 l5 l6 x H locs ls fo fl4 hw; exact hw.elim
  | succ n ih => intro o l1 l2 l3 l4 l5 l6 x H locs ls fo fl4 hw hW hS hl; exact t_Opn_goTogether_27 hx hb hml hown hT hK hN hA hRc hRs hRf hRl hNN hE hret  ih o l1 l2 l3 l4 l5 l6 x H locs ls fo fl4 hw hW hS hl
set_option maxRecDepth 100000 in
set_option maxHeartbeats 4000000 in
set_option maxRecDepth 100000 in
theorem t_Opn_goTogether_e {p : Program} {l : Launch} {e : Env} {R : Room} {s : State} {m : MethodId} {args : Array Value} {below : List Frame} {meth : Method} {c : Code} {cells slots : Nat} {Q : State → Prop} {dC : Nat → ClassId} {dI : Nat → Nat → Nat} {cI cB cJ cZ : ClassId} {A : Nat → Prop} {ad : Nat → Nat} {NN : Nat} {E : Heap} {tM tC : Nat} {kK kV : Nat → Nat} {post : Int32 → St → Prop} (hx : p.tables.exec = Jvm.exec) (hb : c.code = b_Opn_goTogether) (hml : c.maxLocals = 13) (hown : s.vm.findClass R_Opn = some m.cls) (hT : ∀ w ∈ TG, w.before args s = true) (hK : va_K (dC, dI) CL (TY cI cB cJ cZ) s) (hN : NW s) (hA : ∀ q : Nat, s.heap.size ≤ q → A q) (hRc : cells ≤ R.cells) (hRs : slots ≤ R.slots) (hRf : 1 ≤ R.frames) (hRl : 80 ≤ R.locals) (hNN : 152 ≤ NN) (hE : CE E tM tC kK kV A s) (hret : ∀ (r : Int32) (x : St) (H : Heap) (locs : List Loc) (pc : Nat) (ls : Array Slot), decode b_Opn_goTogether pc = .ok (.ireturn, 1) → narrow .boolean (.int r) = .int r → post r x → Wd dC dI cI cB cJ cZ ad stC kcC NN A x H → va_S A s.heap H locs → W p l e R s m args below meth c H locs cells slots Q (F0 m pc ls [.int r])) : ∀ (o : Nat) (l1 : Int32) (l2 : Int32) (l3 : Int32) (x : St) (H : Heap) (locs : List Loc) (ls : Array Slot), (o < NN ∧ kcC o = 7) → wp_Opn_goTogether post o l1 l2 l3 x → Wd dC dI cI cB cJ cZ ad stC kcC NN A x H → va_S A s.heap H locs → lv_has ls 13 [(0, .ref (ad o)), (1, .int l1), (2, .int l2), (3, .int l3)] → W p l e R s m args below meth c H locs cells slots Q (F0 m 0 ls []) := by
  intro o l1 l2 l3 x H locs ls fo hw hW hS hl
  unfold wp_Opn_goTogether at hw
  refine lv_aload_n hx hb d_Opn_goTogether_0 rfl (lv_at hl 0 rfl) ?_
  refine w_getf (q := (stC o 0)) (k := 0) (t := 7) (C := R_Opn) (T := F_Opn) (N := 17) hx hb hT hown hK hW fo.1 fo.2 (by decide) in_Opn rfl rfl (by decide) rfl fr_Opn_0 w_3_15 d_Opn_goTogether_1 rfl ?_
  refine w_getf (q := (stC (stC o 0) 5)) (k := 5) (t := 6) (C := R_Vlt) (T := F_Vlt) (N := 20) hx hb hT hown hK hW (st_ty hNN fo.1 fo.2 rfl).1 (st_ty hNN fo.1 fo.2 rfl).2 (by decide) in_Vlt rfl rfl (by decide) rfl fr_Vlt_5 w_2_136 d_Opn_goTogether_4 rfl ?_
  refine lv_astore (lv' := [(4, .ref (ad (stC (stC o 0) 5))), (0, .ref (ad o)), (1, .int l1), (2, .int l2), (3, .int l3)]) hx hb d_Opn_goTogether_7 hl (by decide) rfl (fun ls hl => ?_)
  refine lv_aload hx hb d_Opn_goTogether_9 (lv_at hl 0 rfl) ?_
  refine w_getf (q := (stC (stC (stC o 0) 5) 4)) (k := 4) (t := 3) (C := R_Sch) (T := F_Sch) (N := 13) hx hb hT hown hK hW (st_ty hNN (st_ty hNN fo.1 fo.2 rfl).1 (st_ty hNN fo.1 fo.2 rfl).2 rfl).1 (st_ty hNN (st_ty hNN fo.1 fo.2 rfl).1 (st_ty hNN fo.1 fo.2 rfl).2 rfl).2 (by decide) in_Sch rfl rfl (by decide) rfl fr_Sch_4 w_1_155 d_Opn_goTogether_11 rfl ?_
  refine lv_aload hx hb d_Opn_goTogether_14 (lv_at hl 0 rfl) ?_
  refine w_getf (q := (stC (stC (stC o 0) 5) 10)) (k := 10) (t := 3) (C := R_Sch) (T := F_Sch) (N := 13) hx hb hT hown hK hW (st_ty hNN (st_ty hNN fo.1 fo.2 rfl).1 (st_ty hNN fo.1 fo.2 rfl).2 rfl).1 (st_ty hNN (st_ty hNN fo.1 fo.2 rfl).1 (st_ty hNN fo.1 fo.2 rfl).2 rfl).2 (by decide) in_Sch rfl rfl (by decide) rfl fr_Sch_10 w_1_181 d_Opn_goTogether_16 rfl ?_
  refine lv_iload_n hx hb d_Opn_goTogether_19 rfl (lv_at hl 2 rfl) ?_
  obtain ⟨hi, hw⟩ := hw
  refine w_iald (o := (stC (stC (stC o 0) 5) 10)) hx hb hK hW (st_ty hNN (st_ty hNN (st_ty hNN fo.1 fo.2 rfl).1 (st_ty hNN fo.1 fo.2 rfl).2 rfl).1 (st_ty hNN (st_ty hNN fo.1 fo.2 rfl).1 (st_ty hNN fo.1 fo.2 rfl).2 rfl).2 rfl).1 (st_ty hNN (st_ty hNN (st_ty hNN fo.1 fo.2 rfl).1 (st_ty hNN fo.1 fo.2 rfl).2 rfl).1 (st_ty hNN (st_ty hNN fo.1 fo.2 rfl).1 (st_ty hNN fo.1 fo.2 rfl).2 rfl).2 rfl).2 hi d_Opn_goTogether_20 ?_
  obtain ⟨hi, hw⟩ := hw
  refine w_iald (o := (stC (stC (stC o 0) 5) 4)) hx hb hK hW (st_ty hNN (st_ty hNN (st_ty hNN fo.1 fo.2 rfl).1 (st_ty hNN fo.1 fo.2 rfl).2 rfl).1 (st_ty hNN (st_ty hNN fo.1 fo.2 rfl).1 (st_ty hNN fo.1 fo.2 rfl).2 rfl).2 rfl).1 (st_ty hNN (st_ty hNN (st_ty hNN fo.1 fo.2 rfl).1 (st_ty hNN fo.1 fo.2 rfl).2 rfl).1 (st_ty hNN (st_ty hNN fo.1 fo.2 rfl).1 (st_ty hNN fo.1 fo.2 rfl).2 rfl).2 rfl).2 hi d_Opn_goTogether_21 ?_
  refine lv_topi (fun v24 ev24 => ?_)
  have hw := hw v24 ev24
  refine lv_istore (lv' := [(5, .int v24), (4, .ref (ad (stC (stC o 0) 5))), (0, .ref (ad o)), (1, .int l1), (2, .int l2), (3, .int l3)]) hx hb d_Opn_goTogether_22 hl (by decide) rfl (fun ls hl => ?_)
  refine lv_iconst (v := 0) hx hb d_Opn_goTogether_24 (by decide) ?_
  refine lv_istore (lv' := [(6, .int 0), (5, .int v24), (4, .ref (ad (stC (stC o 0) 5))), (0, .ref (ad o)), (1, .int l1), (2, .int l2), (3, .int l3)]) hx hb d_Opn_goTogether_25 hl (by decide) rfl (fun ls hl => ?_)
  obtain ⟨n, hw⟩ := hw
  exact tl_Opn_goTogether_27 hx hb hml hown hT hK hN hA hRc hRs hRf hRl hNN hE hret  n o l1 l2 l3 (stC (stC o 0) 5) v24 0 x H locs ls fo (st_ty hNN (st_ty hNN fo.1 fo.2 rfl).1 (st_ty hNN fo.1 fo.2 rfl).2 rfl) hw hW hS (lv_sub hl [3, 4, 5, 6, 2, 1, 0] rfl)
set_option maxHeartbeats 4000000 in
set_option maxRecDepth 100000 in
theorem k_Opn_goTogether (l : Launch) (dC : Nat → ClassId) (dI : Nat → Nat → Nat) (cI cB cJ cZ : ClassId) (ad : Nat → Nat) (NN : Nat) (E : Heap) (tM tC : Nat) (kK kV : Nat → Nat) (hNN : 152 ≤ NN) (sz : Nat) (o : Nat) (l1 : Int32) (l2 : Int32) (l3 : Int32) (x : St) (fo : o < NN ∧ kcC o = 7) {post : Int32 → St → Prop} (hw : wp_Opn_goTogether post o l1 l2 l3 x) : Met l y_Opn_goTogether (wsOf y_Opn_goTogether b_Opn_goTogether 13 (some (.boolean))) ({ frames := 1, cells := 0, slots := 0, locals := 80 }) (va_Pc [.ref (ad o), .int l1, .int l2, .int l3] (PVc dC dI cI cB cJ cZ ad stC kcC NN E tM tC kK kV sz x)) (va_Qi (fun (r : Int32) (y : St) => post r y) (fun y t => Wd dC dI cI cB cJ cZ ad stC kcC NN (va_A (pic ad stC kcC NN cI cB cJ cZ x) sz) y t.heap) (va_A (pic ad stC kcC NN cI cB cJ cZ x) sz)) 0 0 (va_A (pic ad stC kcC NN cI cB cJ cZ x) sz) := by
  refine Met.ofW (cc := b_Opn_goTogether) (maxL := 13) (ret := some (.boolean)) (by decide) rfl ?_
  intro p e s m args below meth c s₁ B hml hv
  obtain ⟨rfl, ⟨hsz, hW0, hK, hN⟩, hE⟩ := hv
  have hx := B.exec
  have hb := B.bytes
  have hr := B.returns
  have hts := atoms_spec B.pre
  have hT : ∀ w ∈ TG, w.before _ s = true := fun w h => hts w (List.mem_cons_of_mem _ h)
  have hown : s.vm.findClass R_Opn = some m.cls := findClass_of_methodNamed B.named
  have hlocks := B.notSynchronized
  subst hsz
  have hW : Wd dC dI cI cB cJ cZ ad stC kcC NN (va_A (pic ad stC kcC NN cI cB cJ cZ x) s.heap.size) x s.heap := ⟨hW0.1, hW0.2.1.self (sz := s.heap.size), hW0.2.2⟩
  generalize hAe : va_A (pic ad stC kcC NN cI cB cJ cZ x) s.heap.size = A at hW hE ⊢
  have hA : ∀ q : Nat, s.heap.size ≤ q → A q := fun q h => by rw [← hAe]; exact Or.inr h
  have hS : va_S A s.heap s.heap [] := va_S.rf
  have hl := lv_entry ([.ref (ad o), .int l1, .int l2, .int l3]) (n := 13) (Nat.le_of_ble_eq_true rfl)
  rw [lg_entry_eq]
  generalize (lg_sl ([.ref (ad o), .int l1, .int l2, .int l3]) ++ List.replicate (13 - (lg_sl ([.ref (ad o), .int l1, .int l2, .int l3])).length) Slot.unset).toArray = ls at hl ⊢
  have hl : lv_has ls 13 [(0, .ref (ad o)), (1, .int l1), (2, .int l2), (3, .int l3)] := hl
  exact t_Opn_goTogether_e hx hb hml hown hT hK hN hA (Nat.le_refl 0) (Nat.le_refl 0) (Nat.le_refl 1) (Nat.le_refl 80) hNN hE (fun r x H locs pc ls hd hz hp hW hS => W.zret (v := r) (ty := .boolean) hx hb hr hz (fun t ht hM => ⟨⟨r, x, rfl, hp, Wd.back hW ht.symm (fun _ z => z)⟩, hS.F ht⟩) hS.2.2 hd hlocks)  o l1 l2 l3 x _ _ ls fo hw hW hS hl
end
