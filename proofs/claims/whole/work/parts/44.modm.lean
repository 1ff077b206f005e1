theorem w_10_214 : (Jvm.Cond.methodLink "StripedVaultModel" (457 : Nat) ({ cls := "StripedVaultModel", name := "readField", desc := "(I)V" } : Jvm.MethodName)) ∈ TG := tw_10 214 (by decide +kernel) (by decide +kernel)
theorem w_10_216 : (Jvm.Cond.instanceMethod ({ cls := "StripedVaultModel", name := "readField", desc := "(I)V" } : Jvm.MethodName)) ∈ TG := tw_10 216 (by decide +kernel) (by decide +kernel)
theorem w_10_217 : (Jvm.Cond.code ({ cls := "StripedVaultModel", name := "readField", desc := "(I)V" } : Jvm.MethodName) prog_14_method_27_code (6 : Nat) (Option.none : Option Jvm.ClassFile.FieldType)) ∈ TG := tw_10 217 (by decide +kernel) (by decide +kernel)
theorem w_10_218 : (Jvm.Cond.constantLong "StripedVaultModel" (423 : Nat) (8243119442065778020 : Int64)) ∈ TG := tw_10 218 (by decide +kernel) (by decide +kernel)
theorem w_10_219 : (Jvm.Cond.methodLink "StripedVaultModel" (425 : Nat) ({ cls := "StripedVaultModel", name := "takesWord", desc := "(J)Z" } : Jvm.MethodName)) ∈ TG := tw_10 219 (by decide +kernel) (by decide +kernel)
theorem w_10_221 : (Jvm.Cond.instanceMethod ({ cls := "StripedVaultModel", name := "takesWord", desc := "(J)Z" } : Jvm.MethodName)) ∈ TG := tw_10 221 (by decide +kernel) (by decide +kernel)
theorem w_10_222 : (Jvm.Cond.code ({ cls := "StripedVaultModel", name := "takesWord", desc := "(J)Z" } : Jvm.MethodName) prog_14_method_14_code (3 : Nat) (Option.some Jvm.ClassFile.FieldType.boolean)) ∈ TG := tw_10 222 (by decide +kernel) (by decide +kernel)
theorem w_11_10 : (Jvm.Cond.constantLong "StripedVaultModel" (430 : Nat) (8243118273700586852 : Int64)) ∈ TG := tw_11 10 (by decide +kernel) (by decide +kernel)
theorem w_11_11 : (Jvm.Cond.methodLink "StripedVaultModel" (408 : Nat) ({ cls := "StripedVaultModel", name := "fail", desc := "(I)V" } : Jvm.MethodName)) ∈ TG := tw_11 11 (by decide +kernel) (by decide +kernel)
theorem w_11_13 : (Jvm.Cond.instanceMethod ({ cls := "StripedVaultModel", name := "fail", desc := "(I)V" } : Jvm.MethodName)) ∈ TG := tw_11 13 (by decide +kernel) (by decide +kernel)
theorem w_11_14 : (Jvm.Cond.code ({ cls := "StripedVaultModel", name := "fail", desc := "(I)V" } : Jvm.MethodName) prog_14_method_6_code (2 : Nat) (Option.none : Option Jvm.ClassFile.FieldType)) ∈ TG := tw_11 14 (by decide +kernel) (by decide +kernel)
theorem w_11_15 : (Jvm.Cond.constantLong "StripedVaultModel" (432 : Nat) (1651470188 : Int64)) ∈ TG := tw_11 15 (by decide +kernel) (by decide +kernel)
theorem w_11_16 : (Jvm.Cond.constantLong "StripedVaultModel" (434 : Nat) (6909556 : Int64)) ∈ TG := tw_11 16 (by decide +kernel) (by decide +kernel)
theorem w_11_17 : (Jvm.Cond.constantLong "StripedVaultModel" (436 : Nat) (1819242087 : Int64)) ∈ TG := tw_11 17 (by decide +kernel) (by decide +kernel)
theorem w_11_18 : (Jvm.Cond.constantLong "StripedVaultModel" (438 : Nat) (1952807028 : Int64)) ∈ TG := tw_11 18 (by decide +kernel) (by decide +kernel)
theorem w_11_19 : (Jvm.Cond.constantLong "StripedVaultModel" (440 : Nat) (444301538672 : Int64)) ∈ TG := tw_11 19 (by decide +kernel) (by decide +kernel)
theorem w_11_20 : (Jvm.Cond.methodLink "StripedVaultModel" (442 : Nat) ({ cls := "StripedVaultModel", name := "mayCome", desc := "(II)Z" } : Jvm.MethodName)) ∈ TG := tw_11 20 (by decide +kernel) (by decide +kernel)
theorem w_11_22 : (Jvm.Cond.instanceMethod ({ cls := "StripedVaultModel", name := "mayCome", desc := "(II)Z" } : Jvm.MethodName)) ∈ TG := tw_11 22 (by decide +kernel) (by decide +kernel)
theorem w_11_23 : (Jvm.Cond.code ({ cls := "StripedVaultModel", name := "mayCome", desc := "(II)Z" } : Jvm.MethodName) prog_14_method_25_code (3 : Nat) (Option.some Jvm.ClassFile.FieldType.boolean)) ∈ TG := tw_11 23 (by decide +kernel) (by decide +kernel)
theorem w_11_31 : (Jvm.Cond.methodLink "StripedVaultModel" (446 : Nat) ({ cls := "StripedVaultModel", name := "find", desc := "(II[III)I" } : Jvm.MethodName)) ∈ TG := tw_11 31 (by decide +kernel) (by decide +kernel)
theorem w_11_33 : (Jvm.Cond.instanceMethod ({ cls := "StripedVaultModel", name := "find", desc := "(II[III)I" } : Jvm.MethodName)) ∈ TG := tw_11 33 (by decide +kernel) (by decide +kernel)
theorem w_11_34 : (Jvm.Cond.code ({ cls := "StripedVaultModel", name := "find", desc := "(II[III)I" } : Jvm.MethodName) prog_14_method_18_code (11 : Nat) (Option.some Jvm.ClassFile.FieldType.int)) ∈ TG := tw_11 34 (by decide +kernel) (by decide +kernel)
theorem w_11_35 : (Jvm.Cond.methodLink "StripedVaultModel" (450 : Nat) ({ cls := "StripedVaultModel", name := "addField", desc := "(III[III)V" } : Jvm.MethodName)) ∈ TG := tw_11 35 (by decide +kernel) (by decide +kernel)
theorem w_11_37 : (Jvm.Cond.instanceMethod ({ cls := "StripedVaultModel", name := "addField", desc := "(III[III)V" } : Jvm.MethodName)) ∈ TG := tw_11 37 (by decide +kernel) (by decide +kernel)
theorem w_11_38 : (Jvm.Cond.code ({ cls := "StripedVaultModel", name := "addField", desc := "(III[III)V" } : Jvm.MethodName) prog_14_method_24_code (9 : Nat) (Option.none : Option Jvm.ClassFile.FieldType)) ∈ TG := tw_11 38 (by decide +kernel) (by decide +kernel)
theorem w_11_39 : (Jvm.Cond.methodLink "StripedVaultModel" (454 : Nat) ({ cls := "StripedVaultModel", name := "wantSign", desc := "(I)V" } : Jvm.MethodName)) ∈ TG := tw_11 39 (by decide +kernel) (by decide +kernel)
theorem w_11_41 : (Jvm.Cond.instanceMethod ({ cls := "StripedVaultModel", name := "wantSign", desc := "(I)V" } : Jvm.MethodName)) ∈ TG := tw_11 41 (by decide +kernel) (by decide +kernel)
theorem w_11_42 : (Jvm.Cond.code ({ cls := "StripedVaultModel", name := "wantSign", desc := "(I)V" } : Jvm.MethodName) prog_14_method_16_code (2 : Nat) (Option.none : Option Jvm.ClassFile.FieldType)) ∈ TG := tw_11 42 (by decide +kernel) (by decide +kernel)
theorem w_11_43 : (Jvm.Cond.methodLink "StripedVaultModel" (405 : Nat) ({ cls := "StripedVaultModel", name := "takesSign", desc := "(I)Z" } : Jvm.MethodName)) ∈ TG := tw_11 43 (by decide +kernel) (by decide +kernel)
theorem w_11_45 : (Jvm.Cond.instanceMethod ({ cls := "StripedVaultModel", name := "takesSign", desc := "(I)Z" } : Jvm.MethodName)) ∈ TG := tw_11 45 (by decide +kernel) (by decide +kernel)
theorem w_11_46 : (Jvm.Cond.code ({ cls := "StripedVaultModel", name := "takesSign", desc := "(I)Z" } : Jvm.MethodName) prog_14_method_15_code (2 : Nat) (Option.some Jvm.ClassFile.FieldType.boolean)) ∈ TG := tw_11 46 (by decide +kernel) (by decide +kernel)
theorem w_11_9 : (Jvm.Cond.constantLong "StripedVaultModel" (428 : Nat) (8030046131791487340 : Int64)) ∈ TG := tw_11 9 (by decide +kernel) (by decide +kernel)
theorem ws_108 : Cond.selects R_Mod y_Mod_readField y_Mod_readField ∈ TG := tw_s 108 (by decide +kernel) (by decide +kernel)
theorem ws_109 : Cond.selects R_Mod y_Mod_takesWord y_Mod_takesWord ∈ TG := tw_s 109 (by decide +kernel) (by decide +kernel)
theorem ws_115 : Cond.selects R_Mod y_Mod_fail y_Mod_fail ∈ TG := tw_s 115 (by decide +kernel) (by decide +kernel)
theorem ws_116 : Cond.selects R_Mod y_Mod_mayCome y_Mod_mayCome ∈ TG := tw_s 116 (by decide +kernel) (by decide +kernel)
theorem ws_118 : Cond.selects R_Mod y_Mod_find y_Mod_find ∈ TG := tw_s 118 (by decide +kernel) (by decide +kernel)
theorem ws_119 : Cond.selects R_Mod y_Mod_addField y_Mod_addField ∈ TG := tw_s 119 (by decide +kernel) (by decide +kernel)
theorem ws_120 : Cond.selects R_Mod y_Mod_wantSign y_Mod_wantSign ∈ TG := tw_s 120 (by decide +kernel) (by decide +kernel)
theorem ws_121 : Cond.selects R_Mod y_Mod_takesSign y_Mod_takesSign ∈ TG := tw_s 121 (by decide +kernel) (by decide +kernel)
theorem d_Mod_takesSign_20 : decode b_Mod_takesSign 20 = .ok (.iconst 0, 1) := by decide +kernel
theorem d_Mod_takesSign_21 : decode b_Mod_takesSign 21 = .ok (.ireturn, 1) := by decide +kernel
theorem d_Mod_takesSign_0 : decode b_Mod_takesSign 0 = .ok (.aload_n 0, 1) := by decide +kernel
theorem d_Mod_takesSign_1 : decode b_Mod_takesSign 1 = .ok (.invokevirtual 394, 3) := by decide +kernel
theorem d_Mod_takesSign_4 : decode b_Mod_takesSign 4 = .ok (.aload_n 0, 1) := by decide +kernel
theorem d_Mod_takesSign_5 : decode b_Mod_takesSign 5 = .ok (.getfield 376, 3) := by decide +kernel
theorem d_Mod_takesSign_8 : decode b_Mod_takesSign 8 = .ok (.iconst (-1), 1) := by decide +kernel
theorem d_Mod_takesSign_9 : decode b_Mod_takesSign 9 = .ok (.if_icmp .ne 11, 3) := by decide +kernel
theorem d_Mod_takesSign_12 : decode b_Mod_takesSign 12 = .ok (.aload_n 0, 1) := by decide +kernel
theorem d_Mod_takesSign_13 : decode b_Mod_takesSign 13 = .ok (.invokevirtual 379, 3) := by decide +kernel
theorem d_Mod_takesSign_16 : decode b_Mod_takesSign 16 = .ok (.iload_n 1, 1) := by decide +kernel
theorem d_Mod_takesSign_17 : decode b_Mod_takesSign 17 = .ok (.if_icmp .eq 5, 3) := by decide +kernel
theorem d_Mod_takesSign_22 : decode b_Mod_takesSign 22 = .ok (.aload_n 0, 1) := by decide +kernel
theorem d_Mod_takesSign_23 : decode b_Mod_takesSign 23 = .ok (.dup, 1) := by decide +kernel
theorem d_Mod_takesSign_24 : decode b_Mod_takesSign 24 = .ok (.getfield 373, 3) := by decide +kernel
theorem d_Mod_takesSign_27 : decode b_Mod_takesSign 27 = .ok (.iconst 1, 1) := by decide +kernel
theorem d_Mod_takesSign_28 : decode b_Mod_takesSign 28 = .ok (.iadd, 1) := by decide +kernel
theorem d_Mod_takesSign_29 : decode b_Mod_takesSign 29 = .ok (.putfield 373, 3) := by decide +kernel
theorem d_Mod_takesSign_32 : decode b_Mod_takesSign 32 = .ok (.iconst 1, 1) := by decide +kernel
theorem d_Mod_takesSign_33 : decode b_Mod_takesSign 33 = .ok (.ireturn, 1) := by decide +kernel
theorem d_Mod_wantSign_0 : decode b_Mod_wantSign 0 = .ok (.aload_n 0, 1) := by decide +kernel
theorem d_Mod_wantSign_1 : decode b_Mod_wantSign 1 = .ok (.iload_n 1, 1) := by decide +kernel
theorem d_Mod_wantSign_2 : decode b_Mod_wantSign 2 = .ok (.invokevirtual 405, 3) := by decide +kernel
theorem d_Mod_wantSign_5 : decode b_Mod_wantSign 5 = .ok (.ifCond .ne 11, 3) := by decide +kernel
theorem d_Mod_wantSign_16 : decode b_Mod_wantSign 16 = .ok (.return_, 1) := by decide +kernel
theorem d_Mod_wantSign_8 : decode b_Mod_wantSign 8 = .ok (.aload_n 0, 1) := by decide +kernel
theorem d_Mod_wantSign_9 : decode b_Mod_wantSign 9 = .ok (.aload_n 0, 1) := by decide +kernel
theorem d_Mod_wantSign_10 : decode b_Mod_wantSign 10 = .ok (.getfield 373, 3) := by decide +kernel
theorem d_Mod_wantSign_13 : decode b_Mod_wantSign 13 = .ok (.invokevirtual 408, 3) := by decide +kernel
theorem d_Mod_readField_268 : decode b_Mod_readField 268 = .ok (.aload_n 0, 1) := by decide +kernel
theorem d_Mod_readField_269 : decode b_Mod_readField 269 = .ok (.iload 5, 2) := by decide +kernel
theorem d_Mod_readField_271 : decode b_Mod_readField 271 = .ok (.invokevirtual 457, 3) := by decide +kernel
theorem d_Mod_readField_274 : decode b_Mod_readField 274 = .ok (.aload_n 0, 1) := by decide +kernel
theorem d_Mod_readField_275 : decode b_Mod_readField 275 = .ok (.getfield 376, 3) := by decide +kernel
theorem d_Mod_readField_278 : decode b_Mod_readField 278 = .ok (.iconst (-1), 1) := by decide +kernel
theorem d_Mod_readField_279 : decode b_Mod_readField 279 = .ok (.if_icmp .ne 12, 3) := by decide +kernel
theorem d_Mod_readField_291 : decode b_Mod_readField 291 = .ok (.return_, 1) := by decide +kernel
theorem d_Mod_readField_282 : decode b_Mod_readField 282 = .ok (.aload_n 0, 1) := by decide +kernel
theorem d_Mod_readField_283 : decode b_Mod_readField 283 = .ok (.bipush 125, 2) := by decide +kernel
theorem d_Mod_readField_285 : decode b_Mod_readField 285 = .ok (.invokevirtual 405, 3) := by decide +kernel
theorem d_Mod_readField_288 : decode b_Mod_readField 288 = .ok (.ifCond .eq (-20), 3) := by decide +kernel
theorem d_Mod_readField_205 : decode b_Mod_readField 205 = .ok (.aload_n 0, 1) := by decide +kernel
theorem d_Mod_readField_206 : decode b_Mod_readField 206 = .ok (.getfield 376, 3) := by decide +kernel
theorem d_Mod_readField_209 : decode b_Mod_readField 209 = .ok (.iconst (-1), 1) := by decide +kernel
theorem d_Mod_readField_210 : decode b_Mod_readField 210 = .ok (.if_icmp .eq 4, 3) := by decide +kernel
theorem d_Mod_readField_214 : decode b_Mod_readField 214 = .ok (.aload_n 0, 1) := by decide +kernel
theorem d_Mod_readField_215 : decode b_Mod_readField 215 = .ok (.getfield 35, 3) := by decide +kernel
theorem d_Mod_readField_218 : decode b_Mod_readField 218 = .ok (.iconst 2, 1) := by decide +kernel
theorem d_Mod_readField_219 : decode b_Mod_readField 219 = .ok (.iaload, 1) := by decide +kernel
theorem d_Mod_readField_220 : decode b_Mod_readField 220 = .ok (.istore 5, 2) := by decide +kernel
theorem d_Mod_readField_222 : decode b_Mod_readField 222 = .ok (.aload_n 0, 1) := by decide +kernel
theorem d_Mod_readField_223 : decode b_Mod_readField 223 = .ok (.iload_n 2, 1) := by decide +kernel
theorem d_Mod_readField_224 : decode b_Mod_readField 224 = .ok (.iload_n 3, 1) := by decide +kernel
theorem d_Mod_readField_225 : decode b_Mod_readField 225 = .ok (.iload_n 1, 1) := by decide +kernel
theorem d_Mod_readField_226 : decode b_Mod_readField 226 = .ok (.aload_n 0, 1) := by decide +kernel
theorem d_Mod_readField_227 : decode b_Mod_readField 227 = .ok (.getfield 14, 3) := by decide +kernel
theorem d_Mod_readField_230 : decode b_Mod_readField 230 = .ok (.aload_n 0, 1) := by decide +kernel
theorem d_Mod_readField_231 : decode b_Mod_readField 231 = .ok (.getfield 373, 3) := by decide +kernel
theorem d_Mod_readField_234 : decode b_Mod_readField 234 = .ok (.iload 4, 2) := by decide +kernel
theorem d_Mod_readField_236 : decode b_Mod_readField 236 = .ok (.invokevirtual 450, 3) := by decide +kernel
theorem d_Mod_readField_239 : decode b_Mod_readField 239 = .ok (.aload_n 0, 1) := by decide +kernel
theorem d_Mod_readField_240 : decode b_Mod_readField 240 = .ok (.dup, 1) := by decide +kernel
theorem d_Mod_readField_241 : decode b_Mod_readField 241 = .ok (.getfield 373, 3) := by decide +kernel
theorem d_Mod_readField_244 : decode b_Mod_readField 244 = .ok (.iload 4, 2) := by decide +kernel
theorem d_Mod_readField_246 : decode b_Mod_readField 246 = .ok (.iadd, 1) := by decide +kernel
theorem d_Mod_readField_247 : decode b_Mod_readField 247 = .ok (.putfield 373, 3) := by decide +kernel
theorem d_Mod_readField_250 : decode b_Mod_readField 250 = .ok (.iload_n 3, 1) := by decide +kernel
theorem d_Mod_readField_251 : decode b_Mod_readField 251 = .ok (.iconst 4, 1) := by decide +kernel
theorem d_Mod_readField_252 : decode b_Mod_readField 252 = .ok (.if_icmp .eq 10, 3) := by decide +kernel
theorem d_Mod_readField_262 : decode b_Mod_readField 262 = .ok (.aload_n 0, 1) := by decide +kernel
theorem d_Mod_readField_263 : decode b_Mod_readField 263 = .ok (.bipush 123, 2) := by decide +kernel
theorem d_Mod_readField_265 : decode b_Mod_readField 265 = .ok (.invokevirtual 454, 3) := by decide +kernel
theorem d_Mod_readField_255 : decode b_Mod_readField 255 = .ok (.aload_n 0, 1) := by decide +kernel
theorem d_Mod_readField_256 : decode b_Mod_readField 256 = .ok (.bipush 59, 2) := by decide +kernel
theorem d_Mod_readField_258 : decode b_Mod_readField 258 = .ok (.invokevirtual 454, 3) := by decide +kernel
theorem d_Mod_readField_261 : decode b_Mod_readField 261 = .ok (.return_, 1) := by decide +kernel
theorem d_Mod_readField_213 : decode b_Mod_readField 213 = .ok (.return_, 1) := by decide +kernel
theorem d_Mod_readField_197 : decode b_Mod_readField 197 = .ok (.aload_n 0, 1) := by decide +kernel
theorem d_Mod_readField_198 : decode b_Mod_readField 198 = .ok (.aload_n 0, 1) := by decide +kernel
theorem d_Mod_readField_199 : decode b_Mod_readField 199 = .ok (.getfield 373, 3) := by decide +kernel
theorem d_Mod_readField_202 : decode b_Mod_readField 202 = .ok (.invokevirtual 408, 3) := by decide +kernel
theorem d_Mod_readField_142 : decode b_Mod_readField 142 = .ok (.aload_n 0, 1) := by decide +kernel
theorem d_Mod_readField_143 : decode b_Mod_readField 143 = .ok (.invokevirtual 394, 3) := by decide +kernel
theorem d_Mod_readField_146 : decode b_Mod_readField 146 = .ok (.aload_n 0, 1) := by decide +kernel
theorem d_Mod_readField_147 : decode b_Mod_readField 147 = .ok (.aload_n 0, 1) := by decide +kernel
theorem d_Mod_readField_148 : decode b_Mod_readField 148 = .ok (.getfield 373, 3) := by decide +kernel
theorem d_Mod_readField_151 : decode b_Mod_readField 151 = .ok (.invokevirtual 390, 3) := by decide +kernel
theorem d_Mod_readField_154 : decode b_Mod_readField 154 = .ok (.istore 4, 2) := by decide +kernel
theorem d_Mod_readField_156 : decode b_Mod_readField 156 = .ok (.iload 4, 2) := by decide +kernel
theorem d_Mod_readField_158 : decode b_Mod_readField 158 = .ok (.ifCond .eq 39, 3) := by decide +kernel
theorem d_Mod_readField_161 : decode b_Mod_readField 161 = .ok (.iload 4, 2) := by decide +kernel
theorem d_Mod_readField_163 : decode b_Mod_readField 163 = .ok (.bipush 16, 2) := by decide +kernel
theorem d_Mod_readField_165 : decode b_Mod_readField 165 = .ok (.if_icmp .gt 32, 3) := by decide +kernel
theorem d_Mod_readField_168 : decode b_Mod_readField 168 = .ok (.aload_n 0, 1) := by decide +kernel
theorem d_Mod_readField_169 : decode b_Mod_readField 169 = .ok (.iload_n 3, 1) := by decide +kernel
theorem d_Mod_readField_170 : decode b_Mod_readField 170 = .ok (.iload_n 1, 1) := by decide +kernel
theorem d_Mod_readField_171 : decode b_Mod_readField 171 = .ok (.invokevirtual 442, 3) := by decide +kernel
theorem d_Mod_readField_174 : decode b_Mod_readField 174 = .ok (.ifCond .eq 23, 3) := by decide +kernel
theorem d_Mod_readField_177 : decode b_Mod_readField 177 = .ok (.aload_n 0, 1) := by decide +kernel
theorem d_Mod_readField_178 : decode b_Mod_readField 178 = .ok (.iconst 2, 1) := by decide +kernel
theorem d_Mod_readField_179 : decode b_Mod_readField 179 = .ok (.iload_n 1, 1) := by decide +kernel
theorem d_Mod_readField_180 : decode b_Mod_readField 180 = .ok (.aload_n 0, 1) := by decide +kernel
theorem d_Mod_readField_181 : decode b_Mod_readField 181 = .ok (.getfield 14, 3) := by decide +kernel
theorem d_Mod_readField_184 : decode b_Mod_readField 184 = .ok (.aload_n 0, 1) := by decide +kernel
theorem d_Mod_readField_185 : decode b_Mod_readField 185 = .ok (.getfield 373, 3) := by decide +kernel
theorem d_Mod_readField_188 : decode b_Mod_readField 188 = .ok (.iload 4, 2) := by decide +kernel
theorem d_Mod_readField_190 : decode b_Mod_readField 190 = .ok (.invokevirtual 446, 3) := by decide +kernel
theorem d_Mod_readField_193 : decode b_Mod_readField 193 = .ok (.iconst (-1), 1) := by decide +kernel
theorem d_Mod_readField_194 : decode b_Mod_readField 194 = .ok (.if_icmp .eq 11, 3) := by decide +kernel
theorem d_Mod_readField_128 : decode b_Mod_readField 128 = .ok (.istore_n 3, 1) := by decide +kernel
theorem d_Mod_readField_129 : decode b_Mod_readField 129 = .ok (.iload_n 3, 1) := by decide +kernel
theorem d_Mod_readField_130 : decode b_Mod_readField 130 = .ok (.iconst (-1), 1) := by decide +kernel
theorem d_Mod_readField_131 : decode b_Mod_readField 131 = .ok (.if_icmp .ne 11, 3) := by decide +kernel
theorem d_Mod_readField_134 : decode b_Mod_readField 134 = .ok (.aload_n 0, 1) := by decide +kernel
theorem d_Mod_readField_135 : decode b_Mod_readField 135 = .ok (.aload_n 0, 1) := by decide +kernel
theorem d_Mod_readField_136 : decode b_Mod_readField 136 = .ok (.getfield 373, 3) := by decide +kernel
theorem d_Mod_readField_139 : decode b_Mod_readField 139 = .ok (.invokevirtual 408, 3) := by decide +kernel
theorem d_Mod_readField_57 : decode b_Mod_readField 57 = .ok (.aload_n 0, 1) := by decide +kernel
theorem d_Mod_readField_58 : decode b_Mod_readField 58 = .ok (.ldc2_w 432, 3) := by decide +kernel
theorem d_Mod_readField_61 : decode b_Mod_readField 61 = .ok (.invokevirtual 425, 3) := by decide +kernel
theorem d_Mod_readField_64 : decode b_Mod_readField 64 = .ok (.ifCond .eq 7, 3) := by decide +kernel
theorem d_Mod_readField_71 : decode b_Mod_readField 71 = .ok (.aload_n 0, 1) := by decide +kernel
theorem d_Mod_readField_72 : decode b_Mod_readField 72 = .ok (.ldc2_w 434, 3) := by decide +kernel
theorem d_Mod_readField_75 : decode b_Mod_readField 75 = .ok (.invokevirtual 425, 3) := by decide +kernel
theorem d_Mod_readField_78 : decode b_Mod_readField 78 = .ok (.ifCond .eq 7, 3) := by decide +kernel
theorem d_Mod_readField_85 : decode b_Mod_readField 85 = .ok (.aload_n 0, 1) := by decide +kernel
theorem d_Mod_readField_86 : decode b_Mod_readField 86 = .ok (.ldc2_w 436, 3) := by decide +kernel
theorem d_Mod_readField_89 : decode b_Mod_readField 89 = .ok (.invokevirtual 425, 3) := by decide +kernel
theorem d_Mod_readField_92 : decode b_Mod_readField 92 = .ok (.ifCond .eq 7, 3) := by decide +kernel
theorem d_Mod_readField_99 : decode b_Mod_readField 99 = .ok (.aload_n 0, 1) := by decide +kernel
theorem d_Mod_readField_100 : decode b_Mod_readField 100 = .ok (.ldc2_w 438, 3) := by decide +kernel
theorem d_Mod_readField_103 : decode b_Mod_readField 103 = .ok (.invokevirtual 425, 3) := by decide +kernel
theorem d_Mod_readField_106 : decode b_Mod_readField 106 = .ok (.ifCond .eq 7, 3) := by decide +kernel
theorem d_Mod_readField_113 : decode b_Mod_readField 113 = .ok (.aload_n 0, 1) := by decide +kernel
theorem d_Mod_readField_114 : decode b_Mod_readField 114 = .ok (.ldc2_w 440, 3) := by decide +kernel
theorem d_Mod_readField_117 : decode b_Mod_readField 117 = .ok (.invokevirtual 425, 3) := by decide +kernel
theorem d_Mod_readField_120 : decode b_Mod_readField 120 = .ok (.ifCond .eq 7, 3) := by decide +kernel
theorem d_Mod_readField_127 : decode b_Mod_readField 127 = .ok (.iconst (-1), 1) := by decide +kernel
theorem d_Mod_readField_123 : decode b_Mod_readField 123 = .ok (.iconst 4, 1) := by decide +kernel
theorem d_Mod_readField_124 : decode b_Mod_readField 124 = .ok (.goto 4, 3) := by decide +kernel
theorem d_Mod_readField_109 : decode b_Mod_readField 109 = .ok (.iconst 3, 1) := by decide +kernel
theorem d_Mod_readField_110 : decode b_Mod_readField 110 = .ok (.goto 18, 3) := by decide +kernel
theorem d_Mod_readField_95 : decode b_Mod_readField 95 = .ok (.iconst 2, 1) := by decide +kernel
theorem d_Mod_readField_96 : decode b_Mod_readField 96 = .ok (.goto 32, 3) := by decide +kernel
theorem d_Mod_readField_81 : decode b_Mod_readField 81 = .ok (.iconst 1, 1) := by decide +kernel
theorem d_Mod_readField_82 : decode b_Mod_readField 82 = .ok (.goto 46, 3) := by decide +kernel
theorem d_Mod_readField_67 : decode b_Mod_readField 67 = .ok (.iconst 0, 1) := by decide +kernel
theorem d_Mod_readField_68 : decode b_Mod_readField 68 = .ok (.goto 60, 3) := by decide +kernel
theorem d_Mod_readField_43 : decode b_Mod_readField 43 = .ok (.istore_n 2, 1) := by decide +kernel
theorem d_Mod_readField_44 : decode b_Mod_readField 44 = .ok (.iload_n 2, 1) := by decide +kernel
theorem d_Mod_readField_45 : decode b_Mod_readField 45 = .ok (.iconst (-1), 1) := by decide +kernel
theorem d_Mod_readField_46 : decode b_Mod_readField 46 = .ok (.if_icmp .ne 11, 3) := by decide +kernel
theorem d_Mod_readField_49 : decode b_Mod_readField 49 = .ok (.aload_n 0, 1) := by decide +kernel
theorem d_Mod_readField_50 : decode b_Mod_readField 50 = .ok (.aload_n 0, 1) := by decide +kernel
theorem d_Mod_readField_51 : decode b_Mod_readField 51 = .ok (.getfield 373, 3) := by decide +kernel
theorem d_Mod_readField_54 : decode b_Mod_readField 54 = .ok (.invokevirtual 408, 3) := by decide +kernel
theorem d_Mod_readField_0 : decode b_Mod_readField 0 = .ok (.aload_n 0, 1) := by decide +kernel
theorem d_Mod_readField_1 : decode b_Mod_readField 1 = .ok (.ldc2_w 423, 3) := by decide +kernel
theorem d_Mod_readField_4 : decode b_Mod_readField 4 = .ok (.invokevirtual 425, 3) := by decide +kernel
theorem d_Mod_readField_7 : decode b_Mod_readField 7 = .ok (.ifCond .eq 7, 3) := by decide +kernel
theorem d_Mod_readField_14 : decode b_Mod_readField 14 = .ok (.aload_n 0, 1) := by decide +kernel
theorem d_Mod_readField_15 : decode b_Mod_readField 15 = .ok (.ldc2_w 428, 3) := by decide +kernel
theorem d_Mod_readField_18 : decode b_Mod_readField 18 = .ok (.invokevirtual 425, 3) := by decide +kernel
theorem d_Mod_readField_21 : decode b_Mod_readField 21 = .ok (.ifCond .eq 7, 3) := by decide +kernel
theorem d_Mod_readField_28 : decode b_Mod_readField 28 = .ok (.aload_n 0, 1) := by decide +kernel
theorem d_Mod_readField_29 : decode b_Mod_readField 29 = .ok (.ldc2_w 430, 3) := by decide +kernel
theorem d_Mod_readField_32 : decode b_Mod_readField 32 = .ok (.invokevirtual 425, 3) := by decide +kernel
theorem d_Mod_readField_35 : decode b_Mod_readField 35 = .ok (.ifCond .eq 7, 3) := by decide +kernel
theorem d_Mod_readField_42 : decode b_Mod_readField 42 = .ok (.iconst (-1), 1) := by decide +kernel
theorem d_Mod_readField_38 : decode b_Mod_readField 38 = .ok (.iconst 2, 1) := by decide +kernel
theorem d_Mod_readField_39 : decode b_Mod_readField 39 = .ok (.goto 4, 3) := by decide +kernel
theorem d_Mod_readField_24 : decode b_Mod_readField 24 = .ok (.iconst 1, 1) := by decide +kernel
theorem d_Mod_readField_25 : decode b_Mod_readField 25 = .ok (.goto 18, 3) := by decide +kernel
theorem d_Mod_readField_10 : decode b_Mod_readField 10 = .ok (.iconst 0, 1) := by decide +kernel
theorem d_Mod_readField_11 : decode b_Mod_readField 11 = .ok (.goto 32, 3) := by decide +kernel
theorem d_Mod_keepSchema_163 : decode b_Mod_keepSchema 163 = .ok (.iload_n 2, 1) := by decide +kernel
theorem d_Mod_keepSchema_164 : decode b_Mod_keepSchema 164 = .ok (.aload_n 0, 1) := by decide +kernel
theorem d_Mod_keepSchema_165 : decode b_Mod_keepSchema 165 = .ok (.getfield 38, 3) := by decide +kernel
theorem d_Mod_keepSchema_168 : decode b_Mod_keepSchema 168 = .ok (.iconst 2, 1) := by decide +kernel
theorem d_Mod_keepSchema_169 : decode b_Mod_keepSchema 169 = .ok (.iaload, 1) := by decide +kernel
theorem d_Mod_keepSchema_170 : decode b_Mod_keepSchema 170 = .ok (.if_icmp .ge 30, 3) := by decide +kernel
theorem d_Mod_keepSchema_200 : decode b_Mod_keepSchema 200 = .ok (.return_, 1) := by decide +kernel
theorem d_Mod_keepSchema_173 : decode b_Mod_keepSchema 173 = .ok (.aload_n 0, 1) := by decide +kernel
theorem d_Mod_keepSchema_174 : decode b_Mod_keepSchema 174 = .ok (.getfield 41, 3) := by decide +kernel
theorem d_Mod_keepSchema_177 : decode b_Mod_keepSchema 177 = .ok (.bipush 64, 2) := by decide +kernel
theorem d_Mod_keepSchema_179 : decode b_Mod_keepSchema 179 = .ok (.iload_n 1, 1) := by decide +kernel
theorem d_Mod_keepSchema_180 : decode b_Mod_keepSchema 180 = .ok (.imul, 1) := by decide +kernel
theorem d_Mod_keepSchema_181 : decode b_Mod_keepSchema 181 = .ok (.iload_n 2, 1) := by decide +kernel
theorem d_Mod_keepSchema_182 : decode b_Mod_keepSchema 182 = .ok (.iadd, 1) := by decide +kernel
theorem d_Mod_keepSchema_183 : decode b_Mod_keepSchema 183 = .ok (.aload_n 0, 1) := by decide +kernel
theorem d_Mod_keepSchema_184 : decode b_Mod_keepSchema 184 = .ok (.getfield 41, 3) := by decide +kernel
theorem d_Mod_keepSchema_187 : decode b_Mod_keepSchema 187 = .ok (.sipush 128, 3) := by decide +kernel
theorem d_Mod_keepSchema_190 : decode b_Mod_keepSchema 190 = .ok (.iload_n 2, 1) := by decide +kernel
theorem d_Mod_keepSchema_191 : decode b_Mod_keepSchema 191 = .ok (.iadd, 1) := by decide +kernel
theorem d_Mod_keepSchema_192 : decode b_Mod_keepSchema 192 = .ok (.iaload, 1) := by decide +kernel
theorem d_Mod_keepSchema_193 : decode b_Mod_keepSchema 193 = .ok (.iastore, 1) := by decide +kernel
theorem d_Mod_keepSchema_194 : decode b_Mod_keepSchema 194 = .ok (.iinc 2 1, 3) := by decide +kernel
theorem d_Mod_keepSchema_197 : decode b_Mod_keepSchema 197 = .ok (.goto (-34), 3) := by decide +kernel
theorem d_Mod_keepSchema_117 : decode b_Mod_keepSchema 117 = .ok (.iload 5, 2) := by decide +kernel
theorem d_Mod_keepSchema_119 : decode b_Mod_keepSchema 119 = .ok (.bipush 16, 2) := by decide +kernel
theorem d_Mod_keepSchema_121 : decode b_Mod_keepSchema 121 = .ok (.if_icmp .ge 34, 3) := by decide +kernel
theorem d_Mod_keepSchema_155 : decode b_Mod_keepSchema 155 = .ok (.iinc 2 1, 3) := by decide +kernel
theorem d_Mod_keepSchema_158 : decode b_Mod_keepSchema 158 = .ok (.goto (-132), 3) := by decide +kernel
theorem d_Mod_keepSchema_124 : decode b_Mod_keepSchema 124 = .ok (.aload_n 0, 1) := by decide +kernel
theorem d_Mod_keepSchema_125 : decode b_Mod_keepSchema 125 = .ok (.getfield 32, 3) := by decide +kernel
theorem d_Mod_keepSchema_128 : decode b_Mod_keepSchema 128 = .ok (.bipush 16, 2) := by decide +kernel
theorem d_Mod_keepSchema_130 : decode b_Mod_keepSchema 130 = .ok (.iload 4, 2) := by decide +kernel
theorem d_Mod_keepSchema_132 : decode b_Mod_keepSchema 132 = .ok (.imul, 1) := by decide +kernel
theorem d_Mod_keepSchema_133 : decode b_Mod_keepSchema 133 = .ok (.iload 5, 2) := by decide +kernel
theorem d_Mod_keepSchema_135 : decode b_Mod_keepSchema 135 = .ok (.iadd, 1) := by decide +kernel
theorem d_Mod_keepSchema_136 : decode b_Mod_keepSchema 136 = .ok (.aload_n 0, 1) := by decide +kernel
theorem d_Mod_keepSchema_137 : decode b_Mod_keepSchema 137 = .ok (.getfield 32, 3) := by decide +kernel
theorem d_Mod_keepSchema_140 : decode b_Mod_keepSchema 140 = .ok (.bipush 16, 2) := by decide +kernel
theorem d_Mod_keepSchema_142 : decode b_Mod_keepSchema 142 = .ok (.iload_n 3, 1) := by decide +kernel
theorem d_Mod_keepSchema_143 : decode b_Mod_keepSchema 143 = .ok (.imul, 1) := by decide +kernel
theorem d_Mod_keepSchema_144 : decode b_Mod_keepSchema 144 = .ok (.iload 5, 2) := by decide +kernel
theorem d_Mod_keepSchema_146 : decode b_Mod_keepSchema 146 = .ok (.iadd, 1) := by decide +kernel
theorem d_Mod_keepSchema_147 : decode b_Mod_keepSchema 147 = .ok (.iaload, 1) := by decide +kernel
theorem d_Mod_keepSchema_148 : decode b_Mod_keepSchema 148 = .ok (.iastore, 1) := by decide +kernel
theorem d_Mod_keepSchema_149 : decode b_Mod_keepSchema 149 = .ok (.iinc 5 1, 3) := by decide +kernel
theorem d_Mod_keepSchema_152 : decode b_Mod_keepSchema 152 = .ok (.goto (-35), 3) := by decide +kernel
theorem d_Mod_keepSchema_26 : decode b_Mod_keepSchema 26 = .ok (.iload_n 2, 1) := by decide +kernel
theorem d_Mod_keepSchema_27 : decode b_Mod_keepSchema 27 = .ok (.aload_n 0, 1) := by decide +kernel
theorem d_Mod_keepSchema_28 : decode b_Mod_keepSchema 28 = .ok (.getfield 35, 3) := by decide +kernel
theorem d_Mod_keepSchema_31 : decode b_Mod_keepSchema 31 = .ok (.iconst 2, 1) := by decide +kernel
theorem d_Mod_keepSchema_32 : decode b_Mod_keepSchema 32 = .ok (.iaload, 1) := by decide +kernel
theorem d_Mod_keepSchema_33 : decode b_Mod_keepSchema 33 = .ok (.if_icmp .ge 128, 3) := by decide +kernel
theorem d_Mod_keepSchema_161 : decode b_Mod_keepSchema 161 = .ok (.iconst 0, 1) := by decide +kernel
theorem d_Mod_keepSchema_162 : decode b_Mod_keepSchema 162 = .ok (.istore_n 2, 1) := by decide +kernel
theorem d_Mod_keepSchema_36 : decode b_Mod_keepSchema 36 = .ok (.iconst 2, 1) := by decide +kernel
theorem d_Mod_keepSchema_37 : decode b_Mod_keepSchema 37 = .ok (.iload_n 2, 1) := by decide +kernel
theorem d_Mod_keepSchema_38 : decode b_Mod_keepSchema 38 = .ok (.invokestatic 412, 3) := by decide +kernel
theorem d_Mod_keepSchema_41 : decode b_Mod_keepSchema 41 = .ok (.istore_n 3, 1) := by decide +kernel
theorem d_Mod_keepSchema_42 : decode b_Mod_keepSchema 42 = .ok (.iload_n 1, 1) := by decide +kernel
theorem d_Mod_keepSchema_43 : decode b_Mod_keepSchema 43 = .ok (.iload_n 2, 1) := by decide +kernel
theorem d_Mod_keepSchema_44 : decode b_Mod_keepSchema 44 = .ok (.invokestatic 412, 3) := by decide +kernel
theorem d_Mod_keepSchema_47 : decode b_Mod_keepSchema 47 = .ok (.istore 4, 2) := by decide +kernel
theorem d_Mod_keepSchema_49 : decode b_Mod_keepSchema 49 = .ok (.aload_n 0, 1) := by decide +kernel
theorem d_Mod_keepSchema_50 : decode b_Mod_keepSchema 50 = .ok (.getfield 17, 3) := by decide +kernel
theorem d_Mod_keepSchema_53 : decode b_Mod_keepSchema 53 = .ok (.iload 4, 2) := by decide +kernel
theorem d_Mod_keepSchema_55 : decode b_Mod_keepSchema 55 = .ok (.aload_n 0, 1) := by decide +kernel
theorem d_Mod_keepSchema_56 : decode b_Mod_keepSchema 56 = .ok (.getfield 17, 3) := by decide +kernel
theorem d_Mod_keepSchema_59 : decode b_Mod_keepSchema 59 = .ok (.iload_n 3, 1) := by decide +kernel
theorem d_Mod_keepSchema_60 : decode b_Mod_keepSchema 60 = .ok (.iaload, 1) := by decide +kernel
theorem d_Mod_keepSchema_61 : decode b_Mod_keepSchema 61 = .ok (.iastore, 1) := by decide +kernel
theorem d_Mod_keepSchema_62 : decode b_Mod_keepSchema 62 = .ok (.aload_n 0, 1) := by decide +kernel
theorem d_Mod_keepSchema_63 : decode b_Mod_keepSchema 63 = .ok (.getfield 20, 3) := by decide +kernel
theorem d_Mod_keepSchema_66 : decode b_Mod_keepSchema 66 = .ok (.iload 4, 2) := by decide +kernel
theorem d_Mod_keepSchema_68 : decode b_Mod_keepSchema 68 = .ok (.aload_n 0, 1) := by decide +kernel
theorem d_Mod_keepSchema_69 : decode b_Mod_keepSchema 69 = .ok (.getfield 20, 3) := by decide +kernel
theorem d_Mod_keepSchema_72 : decode b_Mod_keepSchema 72 = .ok (.iload_n 3, 1) := by decide +kernel
theorem d_Mod_keepSchema_73 : decode b_Mod_keepSchema 73 = .ok (.iaload, 1) := by decide +kernel
theorem d_Mod_keepSchema_74 : decode b_Mod_keepSchema 74 = .ok (.iastore, 1) := by decide +kernel
theorem d_Mod_keepSchema_75 : decode b_Mod_keepSchema 75 = .ok (.aload_n 0, 1) := by decide +kernel
theorem d_Mod_keepSchema_76 : decode b_Mod_keepSchema 76 = .ok (.getfield 23, 3) := by decide +kernel
theorem d_Mod_keepSchema_79 : decode b_Mod_keepSchema 79 = .ok (.iload 4, 2) := by decide +kernel
theorem d_Mod_keepSchema_81 : decode b_Mod_keepSchema 81 = .ok (.aload_n 0, 1) := by decide +kernel
theorem d_Mod_keepSchema_82 : decode b_Mod_keepSchema 82 = .ok (.getfield 23, 3) := by decide +kernel
theorem d_Mod_keepSchema_85 : decode b_Mod_keepSchema 85 = .ok (.iload_n 3, 1) := by decide +kernel
theorem d_Mod_keepSchema_86 : decode b_Mod_keepSchema 86 = .ok (.iaload, 1) := by decide +kernel
theorem d_Mod_keepSchema_87 : decode b_Mod_keepSchema 87 = .ok (.iastore, 1) := by decide +kernel
theorem d_Mod_keepSchema_88 : decode b_Mod_keepSchema 88 = .ok (.aload_n 0, 1) := by decide +kernel
theorem d_Mod_keepSchema_89 : decode b_Mod_keepSchema 89 = .ok (.getfield 29, 3) := by decide +kernel
theorem d_Mod_keepSchema_92 : decode b_Mod_keepSchema 92 = .ok (.iload 4, 2) := by decide +kernel
theorem d_Mod_keepSchema_94 : decode b_Mod_keepSchema 94 = .ok (.aload_n 0, 1) := by decide +kernel
theorem d_Mod_keepSchema_95 : decode b_Mod_keepSchema 95 = .ok (.getfield 29, 3) := by decide +kernel
theorem d_Mod_keepSchema_98 : decode b_Mod_keepSchema 98 = .ok (.iload_n 3, 1) := by decide +kernel
theorem d_Mod_keepSchema_99 : decode b_Mod_keepSchema 99 = .ok (.iaload, 1) := by decide +kernel
theorem d_Mod_keepSchema_100 : decode b_Mod_keepSchema 100 = .ok (.iastore, 1) := by decide +kernel
theorem d_Mod_keepSchema_101 : decode b_Mod_keepSchema 101 = .ok (.aload_n 0, 1) := by decide +kernel
theorem d_Mod_keepSchema_102 : decode b_Mod_keepSchema 102 = .ok (.getfield 26, 3) := by decide +kernel
theorem d_Mod_keepSchema_105 : decode b_Mod_keepSchema 105 = .ok (.iload 4, 2) := by decide +kernel
theorem d_Mod_keepSchema_107 : decode b_Mod_keepSchema 107 = .ok (.aload_n 0, 1) := by decide +kernel
theorem d_Mod_keepSchema_108 : decode b_Mod_keepSchema 108 = .ok (.getfield 26, 3) := by decide +kernel
theorem d_Mod_keepSchema_111 : decode b_Mod_keepSchema 111 = .ok (.iload_n 3, 1) := by decide +kernel
theorem d_Mod_keepSchema_112 : decode b_Mod_keepSchema 112 = .ok (.iaload, 1) := by decide +kernel
theorem d_Mod_keepSchema_113 : decode b_Mod_keepSchema 113 = .ok (.iastore, 1) := by decide +kernel
theorem d_Mod_keepSchema_114 : decode b_Mod_keepSchema 114 = .ok (.iconst 0, 1) := by decide +kernel
theorem d_Mod_keepSchema_115 : decode b_Mod_keepSchema 115 = .ok (.istore 5, 2) := by decide +kernel
theorem d_Mod_keepSchema_0 : decode b_Mod_keepSchema 0 = .ok (.aload_n 0, 1) := by decide +kernel
theorem d_Mod_keepSchema_1 : decode b_Mod_keepSchema 1 = .ok (.getfield 35, 3) := by decide +kernel
theorem d_Mod_keepSchema_4 : decode b_Mod_keepSchema 4 = .ok (.iload_n 1, 1) := by decide +kernel
theorem d_Mod_keepSchema_5 : decode b_Mod_keepSchema 5 = .ok (.aload_n 0, 1) := by decide +kernel
theorem d_Mod_keepSchema_6 : decode b_Mod_keepSchema 6 = .ok (.getfield 35, 3) := by decide +kernel
theorem d_Mod_keepSchema_9 : decode b_Mod_keepSchema 9 = .ok (.iconst 2, 1) := by decide +kernel
theorem d_Mod_keepSchema_10 : decode b_Mod_keepSchema 10 = .ok (.iaload, 1) := by decide +kernel
theorem d_Mod_keepSchema_11 : decode b_Mod_keepSchema 11 = .ok (.iastore, 1) := by decide +kernel
theorem d_Mod_keepSchema_12 : decode b_Mod_keepSchema 12 = .ok (.aload_n 0, 1) := by decide +kernel
theorem d_Mod_keepSchema_13 : decode b_Mod_keepSchema 13 = .ok (.getfield 38, 3) := by decide +kernel
theorem d_Mod_keepSchema_16 : decode b_Mod_keepSchema 16 = .ok (.iload_n 1, 1) := by decide +kernel
theorem d_Mod_keepSchema_17 : decode b_Mod_keepSchema 17 = .ok (.aload_n 0, 1) := by decide +kernel
theorem d_Mod_keepSchema_18 : decode b_Mod_keepSchema 18 = .ok (.getfield 38, 3) := by decide +kernel
theorem d_Mod_keepSchema_21 : decode b_Mod_keepSchema 21 = .ok (.iconst 2, 1) := by decide +kernel
theorem d_Mod_keepSchema_22 : decode b_Mod_keepSchema 22 = .ok (.iaload, 1) := by decide +kernel
theorem d_Mod_keepSchema_23 : decode b_Mod_keepSchema 23 = .ok (.iastore, 1) := by decide +kernel
theorem d_Mod_keepSchema_24 : decode b_Mod_keepSchema 24 = .ok (.iconst 0, 1) := by decide +kernel
theorem d_Mod_keepSchema_25 : decode b_Mod_keepSchema 25 = .ok (.istore_n 2, 1) := by decide +kernel
section
variable (l : Launch) (dC : Nat → ClassId) (dI : Nat → Nat → Nat) (cI cB cJ cZ : ClassId)
set_option maxRecDepth 100000 in
set_option maxHeartbeats 4000000 in
set_option maxRecDepth 100000 in
theorem t_Mod_takesSign_20 {p : Program} {l : Launch} {e : Env} {R : Room} {s : State} {m : MethodId} {args : Array Value} {below : List Frame} {meth : Method} {c : Code} {cells slots : Nat} {Q : State → Prop} {dC : Nat → ClassId} {dI : Nat → Nat → Nat} {cI cB cJ cZ : ClassId} {A : Nat → Prop} {ad : Nat → Nat} {post : Int32 → St → Prop} (hx : p.tables.exec = Jvm.exec) (hb : c.code = b_Mod_takesSign) (hml : c.maxLocals = 2) (hown : s.vm.findClass R_Mod = some m.cls) (hT : ∀ w ∈ TG, w.before args s = true) (hK : va_K (dC, dI) CL (TY cI cB cJ cZ) s) (hN : NW s) (hA : ∀ q : Nat, s.heap.size ≤ q → A q) (hRc : cells ≤ R.cells) (hRs : slots ≤ R.slots) (hRf : 2 ≤ R.frames) (hRl : 40 ≤ R.locals) (hret : ∀ (r : Int32) (x : St) (H : Heap) (locs : List Loc) (pc : Nat) (ls : Array Slot), decode b_Mod_takesSign pc = .ok (.ireturn, 1) → narrow .boolean (.int r) = .int r → post r x → Wd dC dI cI cB cJ cZ ad stM kcM 115 A x H → va_S A s.heap H locs → W p l e R s m args below meth c H locs cells slots Q (F0 m pc ls [.int r]))  : ∀ (l1 : Int32) (x : St) (H : Heap) (locs : List Loc) (ls : Array Slot), j_Mod_takesSign_20 post l1 x → Wd dC dI cI cB cJ cZ ad stM kcM 115 A x H → va_S A s.heap H locs → lv_has ls 2 [(0, .ref (ad 0)), (1, .int l1)] → W p l e R s m args below meth c H locs cells slots Q (F0 m 20 ls []) := by
  intro l1 x H locs ls  hw hW hS hl
  unfold j_Mod_takesSign_20 at hw
  refine lv_iconst (v := 0) hx hb d_Mod_takesSign_20 (by decide) ?_
  exact hret 0 x H locs 21 ls d_Mod_takesSign_21 rfl hw hW hS
set_option maxRecDepth 100000 in
set_option maxHeartbeats 4000000 in
set_option maxRecDepth 100000 in
theorem t_Mod_takesSign_e {p : Program} {l : Launch} {e : Env} {R : Room} {s : State} {m : MethodId} {args : Array Value} {below : List Frame} {meth : Method} {c : Code} {cells slots : Nat} {Q : State → Prop} {dC : Nat → ClassId} {dI : Nat → Nat → Nat} {cI cB cJ cZ : ClassId} {A : Nat → Prop} {ad : Nat → Nat} {post : Int32 → St → Prop} (hx : p.tables.exec = Jvm.exec) (hb : c.code = b_Mod_takesSign) (hml : c.maxLocals = 2) (hown : s.vm.findClass R_Mod = some m.cls) (hT : ∀ w ∈ TG, w.before args s = true) (hK : va_K (dC, dI) CL (TY cI cB cJ cZ) s) (hN : NW s) (hA : ∀ q : Nat, s.heap.size ≤ q → A q) (hRc : cells ≤ R.cells) (hRs : slots ≤ R.slots) (hRf : 2 ≤ R.frames) (hRl : 40 ≤ R.locals) (hret : ∀ (r : Int32) (x : St) (H : Heap) (locs : List Loc) (pc : Nat) (ls : Array Slot), decode b_Mod_takesSign pc = .ok (.ireturn, 1) → narrow .boolean (.int r) = .int r → post r x → Wd dC dI cI cB cJ cZ ad stM kcM 115 A x H → va_S A s.heap H locs → W p l e R s m args below meth c H locs cells slots Q (F0 m pc ls [.int r])) : ∀ (l1 : Int32) (x : St) (H : Heap) (locs : List Loc) (ls : Array Slot), wp_Mod_takesSign post l1 x → Wd dC dI cI cB cJ cZ ad stM kcM 115 A x H → va_S A s.heap H locs → lv_has ls 2 [(0, .ref (ad 0)), (1, .int l1)] → W p l e R s m args below meth c H locs cells slots Q (F0 m 0 ls []) := by
  intro l1 x H locs ls  hw hW hS hl
  unfold wp_Mod_takesSign at hw
  refine lv_aload_n hx hb d_Mod_takesSign_0 rfl (lv_at hl 0 rfl) ?_
  have hF := hW.free hS hA
  refine va_callv (va_runV (C := R_Mod) (As := []) (rest := []) ⟨hx, hb, hml, hown, hT⟩ (k_Mod_blanks l dC dI cI cB cJ cZ ad H.size  x  hw) ⟨callB_of 0 hT (gwt_in w_10_230) rfl rfl rfl (hT _ w_1_15) (hT _ w_10_227) (by decide +kernel) ⟨Nat.le_trans (Nat.le_of_ble_eq_true rfl) hRf, Nat.le_trans (Nat.le_of_ble_eq_true rfl) hRl⟩, hT _ w_10_229, hT _ ws_111⟩ ⟨PW.blind, va_recv hK hW.1 (ci := 12) (q0 := 0) rfl (pic_obj ko_0.1 ko_0.2 (by decide)), PW.at _ hW hK hN⟩ rfl rfl hl.1 rfl (lv_room (Nat.le_of_ble_eq_true rfl)) d_Mod_takesSign_1 ⟨hRc, hRs⟩) hS (fun q _ h => hF q h) hF (fun  x95 t H locs ht hvm hw hB hz1 hk1 hS => ?_)
  have hW := Wd.back hB ht hF
  clear hB ht hF hz1 hk1 hvm
  refine lv_aload_n hx hb d_Mod_takesSign_4 rfl (lv_at hl 0 rfl) ?_
  refine w_geti (k := 17) (t := 12) (C := R_Mod) (T := F_Mod) (N := 167) hx hb hT hown hK hW ko_0.1 ko_0.2 (by decide) in_Mod rfl rfl (by decide) rfl fr_Mod_17 w_8_193 d_Mod_takesSign_5 ?_
  refine lv_iconst (v := (-1)) hx hb d_Mod_takesSign_8 (by decide) ?_
  refine lv_icmp_ne (tgt := 20) hx hb d_Mod_takesSign_9 (by decide) (fun c96 => ?_) (fun c96 => ?_)
  · have hw := hw.1 c96
    exact t_Mod_takesSign_20 hx hb hml hown hT hK hN hA hRc hRs hRf hRl hret  l1 x95 H locs ls  hw hW hS (lv_sub hl [0, 1] rfl)
  · have hw := hw.2 c96
    refine lv_aload_n hx hb d_Mod_takesSign_12 rfl (lv_at hl 0 rfl) ?_
    have hF := hW.free hS hA
    refine va_calli (va_runV (C := R_Mod) (As := []) (rest := []) ⟨hx, hb, hml, hown, hT⟩ (k_Mod_look l dC dI cI cB cJ cZ ad H.size  x95  hw) ⟨callB_of 0 hT (gwt_in w_10_234) rfl rfl rfl (hT _ w_1_15) (hT _ w_10_231) (by decide +kernel) ⟨Nat.le_trans (Nat.le_of_ble_eq_true rfl) hRf, Nat.le_trans (Nat.le_of_ble_eq_true rfl) hRl⟩, hT _ w_10_233, hT _ ws_112⟩ ⟨PW.blind, va_recv hK hW.1 (ci := 12) (q0 := 0) rfl (pic_obj ko_0.1 ko_0.2 (by decide)), PW.at _ hW hK hN⟩ rfl rfl hl.1 rfl (lv_room (Nat.le_of_ble_eq_true rfl)) d_Mod_takesSign_13 ⟨hRc, hRs⟩) hS (fun q _ h => hF q h) hF (fun r98 x97 t H locs ht hvm hw hB hz1 hk1 hS => ?_)
    have hW := Wd.back hB ht hF
    clear hB ht hF hz1 hk1 hvm
    refine lv_iload_n hx hb d_Mod_takesSign_16 rfl (lv_at hl 1 rfl) ?_
    refine lv_icmp_eq (tgt := 22) hx hb d_Mod_takesSign_17 (by decide) (fun c99 => ?_) (fun c99 => ?_)
    · have hw := hw.1 c99
      refine lv_aload_n hx hb d_Mod_takesSign_22 rfl (lv_at hl 0 rfl) ?_
      refine lv_dup hx hb d_Mod_takesSign_23 rfl ?_
      refine w_geti (k := 16) (t := 12) (C := R_Mod) (T := F_Mod) (N := 167) hx hb hT hown hK hW ko_0.1 ko_0.2 (by decide) in_Mod rfl rfl (by decide) rfl fr_Mod_16 w_8_192 d_Mod_takesSign_24 ?_
      refine lv_iconst (v := 1) hx hb d_Mod_takesSign_27 (by decide) ?_
      refine lv_iadd hx hb d_Mod_takesSign_28 ?_
      refine w_puti (ty := .int) (k := 16) (t := 12) (C := R_Mod) (T := F_Mod) (N := 167) hx hb hT hown hK hW hS ko_0.1 ko_0.2 (by decide) in_Mod t_Mod t_Mod_ok n_Mod rfl rfl (by decide) rfl fr_Mod_16 w_8_192 (by decide +kernel) rfl rfl d_Mod_takesSign_29 (fun H locs hW hS => ?_)
      obtain ⟨x100, ex100⟩ : ∃ y : St, y = setI x97 0 16 ((fI x97 0 16) + 1) := ⟨_, rfl⟩
      rw [← ex100] at hW
      have hw := hw x100 ex100
      refine lv_iconst (v := 1) hx hb d_Mod_takesSign_32 (by decide) ?_
      exact hret 1 x100 H locs 33 ls d_Mod_takesSign_33 rfl hw hW hS
    · have hw := hw.2 c99
      exact t_Mod_takesSign_20 hx hb hml hown hT hK hN hA hRc hRs hRf hRl hret  l1 x97 H locs ls  hw hW hS (lv_sub hl [0, 1] rfl)
set_option maxHeartbeats 4000000 in
set_option maxRecDepth 100000 in
theorem k_Mod_takesSign (l : Launch) (dC : Nat → ClassId) (dI : Nat → Nat → Nat) (cI cB cJ cZ : ClassId) (ad : Nat → Nat) (sz : Nat) (l1 : Int32) (x : St) {post : Int32 → St → Prop} (hw : wp_Mod_takesSign post l1 x) : Met l y_Mod_takesSign (wsOf y_Mod_takesSign b_Mod_takesSign 2 (some (.boolean))) ({ frames := 2, cells := 0, slots := 0, locals := 40 }) (va_Pc [.ref (ad 0), .int l1] (PW dC dI cI cB cJ cZ ad stM kcM 115 sz x)) (va_Qi (fun (r : Int32) (y : St) => post r y) (fun y t => Wd dC dI cI cB cJ cZ ad stM kcM 115 (va_A (pic ad stM kcM 115 cI cB cJ cZ x) sz) y t.heap) (va_A (pic ad stM kcM 115 cI cB cJ cZ x) sz)) 0 0 (va_A (pic ad stM kcM 115 cI cB cJ cZ x) sz) := by
  refine Met.ofW (cc := b_Mod_takesSign) (maxL := 2) (ret := some (.boolean)) (by decide) rfl ?_
  intro p e s m args below meth c s₁ B hml hv
  obtain ⟨rfl, hsz, hW0, hK, hN⟩ := hv
  have hx := B.exec
  have hb := B.bytes
  have hr := B.returns
  have hts := atoms_spec B.pre
  have hT : ∀ w ∈ TG, w.before _ s = true := fun w h => hts w (List.mem_cons_of_mem _ h)
  have hown : s.vm.findClass R_Mod = some m.cls := findClass_of_methodNamed B.named
  have hlocks := B.notSynchronized
  subst hsz
  have hW : Wd dC dI cI cB cJ cZ ad stM kcM 115 (va_A (pic ad stM kcM 115 cI cB cJ cZ x) s.heap.size) x s.heap := ⟨hW0.1, hW0.2.1.self (sz := s.heap.size), hW0.2.2⟩
  generalize hAe : va_A (pic ad stM kcM 115 cI cB cJ cZ x) s.heap.size = A at hW ⊢
  have hA : ∀ q : Nat, s.heap.size ≤ q → A q := fun q h => by rw [← hAe]; exact Or.inr h
  have hS : va_S A s.heap s.heap [] := va_S.rf
  have hl := lv_entry ([.ref (ad 0), .int l1]) (n := 2) (Nat.le_of_ble_eq_true rfl)
  rw [lg_entry_eq]
  generalize (lg_sl ([.ref (ad 0), .int l1]) ++ List.replicate (2 - (lg_sl ([.ref (ad 0), .int l1])).length) Slot.unset).toArray = ls at hl ⊢
  have hl : lv_has ls 2 [(0, .ref (ad 0)), (1, .int l1)] := hl
  exact t_Mod_takesSign_e hx hb hml hown hT hK hN hA (Nat.le_refl 0) (Nat.le_refl 0) (Nat.le_refl 2) (Nat.le_refl 40) (fun r x H locs pc ls hd hz hp hW hS => W.zret (v := r) (ty := .boolean) hx hb hr hz (fun t ht hM => ⟨⟨r, x, rfl, hp, Wd.back hW ht.symm (fun _ z => z)⟩, hS.F ht⟩) hS.2.2 hd hlocks)  l1 x _ _ ls  hw hW hS hl
set_option maxRecDepth 100000 in
set_option maxHeartbeats 4000000 in
set_option maxRecDepth 100000 in
theorem t_Mod_wantSign_e {p : Program} {l : Launch} {e : Env} {R : Room} {s : State} {m : MethodId} {args : Array Value} {below : List Frame} {meth : Method} {c : Code} {cells slots : Nat} {Q : State → Prop} {dC : Nat → ClassId} {dI : Nat → Nat → Nat} {cI cB cJ cZ : ClassId} {A : Nat → Prop} {ad : Nat → Nat} {post : St → Prop} (hx : p.tables.exec = Jvm.exec) (hb : c.code = b_Mod_wantSign) (hml : c.maxLocals = 2) (hown : s.vm.findClass R_Mod = some m.cls) (hT : ∀ w ∈ TG, w.before args s = true) (hK : va_K (dC, dI) CL (TY cI cB cJ cZ) s) (hN : NW s) (hA : ∀ q : Nat, s.heap.size ≤ q → A q) (hRc : cells ≤ R.cells) (hRs : slots ≤ R.slots) (hRf : 3 ≤ R.frames) (hRl : 61 ≤ R.locals) (hret : ∀ (x : St) (H : Heap) (locs : List Loc) (pc : Nat) (ls : Array Slot), decode b_Mod_wantSign pc = .ok (.return_, 1) → post x → Wd dC dI cI cB cJ cZ ad stM kcM 115 A x H → va_S A s.heap H locs → W p l e R s m args below meth c H locs cells slots Q (F0 m pc ls [])) : ∀ (l1 : Int32) (x : St) (H : Heap) (locs : List Loc) (ls : Array Slot), wp_Mod_wantSign post l1 x → Wd dC dI cI cB cJ cZ ad stM kcM 115 A x H → va_S A s.heap H locs → lv_has ls 2 [(0, .ref (ad 0)), (1, .int l1)] → W p l e R s m args below meth c H locs cells slots Q (F0 m 0 ls []) := by
  intro l1 x H locs ls  hw hW hS hl
  unfold wp_Mod_wantSign at hw
  refine lv_aload_n hx hb d_Mod_wantSign_0 rfl (lv_at hl 0 rfl) ?_
  refine lv_iload_n hx hb d_Mod_wantSign_1 rfl (lv_at hl 1 rfl) ?_
  have hF := hW.free hS hA
  refine va_calli (va_runV (C := R_Mod) (As := [.int l1]) (rest := []) ⟨hx, hb, hml, hown, hT⟩ (k_Mod_takesSign l dC dI cI cB cJ cZ ad H.size l1 x  hw) ⟨callB_of 1 hT (gwt_in w_11_46) rfl rfl rfl (hT _ w_1_15) (hT _ w_11_43) (by decide +kernel) ⟨Nat.le_trans (Nat.le_of_ble_eq_true rfl) hRf, Nat.le_trans (Nat.le_of_ble_eq_true rfl) hRl⟩, hT _ w_11_45, hT _ ws_121⟩ ⟨PW.blind, va_recv hK hW.1 (ci := 12) (q0 := 0) rfl (pic_obj ko_0.1 ko_0.2 (by decide)), PW.at _ hW hK hN⟩ rfl rfl hl.1 rfl (lv_room (Nat.le_of_ble_eq_true rfl)) d_Mod_wantSign_2 ⟨hRc, hRs⟩) hS (fun q _ h => hF q h) hF (fun r102 x101 t H locs ht hvm hw hB hz1 hk1 hS => ?_)
  have hW := Wd.back hB ht hF
  clear hB ht hF hz1 hk1 hvm
  refine lv_if_ne (tgt := 16) hx hb d_Mod_wantSign_5 (by decide) (fun c103 => ?_) (fun c103 => ?_)
  · have hw := hw.1 c103
    exact hret x101 H locs 16 ls d_Mod_wantSign_16 hw hW hS
  · have hw := hw.2 c103
    refine lv_aload_n hx hb d_Mod_wantSign_8 rfl (lv_at hl 0 rfl) ?_
    refine lv_aload_n hx hb d_Mod_wantSign_9 rfl (lv_at hl 0 rfl) ?_
    refine w_geti (k := 16) (t := 12) (C := R_Mod) (T := F_Mod) (N := 167) hx hb hT hown hK hW ko_0.1 ko_0.2 (by decide) in_Mod rfl rfl (by decide) rfl fr_Mod_16 w_8_192 d_Mod_wantSign_10 ?_
    have hF := hW.free hS hA
    refine va_callv (va_runV (C := R_Mod) (As := [.int (fI x101 0 16)]) (rest := []) ⟨hx, hb, hml, hown, hT⟩ (k_Mod_fail l dC dI cI cB cJ cZ ad H.size (fI x101 0 16) x101  hw) ⟨callB_of 1 hT (gwt_in w_11_14) rfl rfl rfl (hT _ w_1_15) (hT _ w_11_11) (by decide +kernel) ⟨Nat.le_trans (Nat.le_of_ble_eq_true rfl) hRf, Nat.le_trans (Nat.le_of_ble_eq_true rfl) hRl⟩, hT _ w_11_13, hT _ ws_115⟩ ⟨PW.blind, va_recv hK hW.1 (ci := 12) (q0 := 0) rfl (pic_obj ko_0.1 ko_0.2 (by decide)), PW.at _ hW hK hN⟩ rfl rfl hl.1 rfl (lv_room (Nat.le_of_ble_eq_true rfl)) d_Mod_wantSign_13 ⟨hRc, hRs⟩) hS (fun q _ h => hF q h) hF (fun  x104 t H locs ht hvm hw hB hz1 hk1 hS => ?_)
    have hW := Wd.back hB ht hF
    clear hB ht hF hz1 hk1 hvm
    exact hret x104 H locs 16 ls d_Mod_wantSign_16 hw hW hS
set_option maxHeartbeats 4000000 in
set_option maxRecDepth 100000 in
theorem k_Mod_wantSign (l : Launch) (dC : Nat → ClassId) (dI : Nat → Nat → Nat) (cI cB cJ cZ : ClassId) (ad : Nat → Nat) (sz : Nat) (l1 : Int32) (x : St) {post : St → Prop} (hw : wp_Mod_wantSign post l1 x) : Met l y_Mod_wantSign (wsOf y_Mod_wantSign b_Mod_wantSign 2 (none)) ({ frames := 3, cells := 0, slots := 0, locals := 61 }) (va_Pc [.ref (ad 0), .int l1] (PW dC dI cI cB cJ cZ ad stM kcM 115 sz x)) (va_Qv (fun (y : St) => post y) (fun y t => Wd dC dI cI cB cJ cZ ad stM kcM 115 (va_A (pic ad stM kcM 115 cI cB cJ cZ x) sz) y t.heap) (va_A (pic ad stM kcM 115 cI cB cJ cZ x) sz)) 0 0 (va_A (pic ad stM kcM 115 cI cB cJ cZ x) sz) := by
  refine Met.ofW (cc := b_Mod_wantSign) (maxL := 2) (ret := none) (by decide) rfl ?_
  intro p e s m args below meth c s₁ B hml hv
  obtain ⟨rfl, hsz, hW0, hK, hN⟩ := hv
  have hx := B.exec
  have hb := B.bytes
  have hr := B.returns
  have hts := atoms_spec B.pre
  have hT : ∀ w ∈ TG, w.before _ s = true := fun w h => hts w (List.mem_cons_of_mem _ h)
  have hown : s.vm.findClass R_Mod = some m.cls := findClass_of_methodNamed B.named
  have hlocks := B.notSynchronized
  subst hsz
  have hW : Wd dC dI cI cB cJ cZ ad stM kcM 115 (va_A (pic ad stM kcM 115 cI cB cJ cZ x) s.heap.size) x s.heap := ⟨hW0.1, hW0.2.1.self (sz := s.heap.size), hW0.2.2⟩
  generalize hAe : va_A (pic ad stM kcM 115 cI cB cJ cZ x) s.heap.size = A at hW ⊢
  have hA : ∀ q : Nat, s.heap.size ≤ q → A q := fun q h => by rw [← hAe]; exact Or.inr h
  have hS : va_S A s.heap s.heap [] := va_S.rf
  have hl := lv_entry ([.ref (ad 0), .int l1]) (n := 2) (Nat.le_of_ble_eq_true rfl)
  rw [lg_entry_eq]
  generalize (lg_sl ([.ref (ad 0), .int l1]) ++ List.replicate (2 - (lg_sl ([.ref (ad 0), .int l1])).length) Slot.unset).toArray = ls at hl ⊢
  have hl : lv_has ls 2 [(0, .ref (ad 0)), (1, .int l1)] := hl
  exact t_Mod_wantSign_e hx hb hml hown hT hK hN hA (Nat.le_refl 0) (Nat.le_refl 0) (Nat.le_refl 3) (Nat.le_refl 61) (fun x H locs pc ls hd hp hW hS => W.vret hx hb hr (fun t ht hM => ⟨⟨x, rfl, hp, Wd.back hW ht.symm (fun _ z => z)⟩, hS.F ht⟩) hS.2.2 hd hlocks)  l1 x _ _ ls  hw hW hS hl
set_option maxRecDepth 100000 in
set_option maxHeartbeats 4000000 in
set_option maxRecDepth 100000 in
theorem t_Mod_readField_268 {p : Program} {l : Launch} {e : Env} {R : Room} {s : State} {m : MethodId} {args : Array Value} {below : List Frame} {meth : Method} {c : Code} {cells slots : Nat} {Q : State → Prop} {dC : Nat → ClassId} {dI : Nat → Nat → Nat} {cI cB cJ cZ : ClassId} {A : Nat → Prop} {ad : Nat → Nat} {post : St → Prop} {self_Mod_readField : (St → Prop) → Int32 → St → Prop} {fd ld : Nat} {rec268 : Int32 → Int32 → Int32 → Int32 → Int32 → St → Prop} (hx : p.tables.exec = Jvm.exec) (hb : c.code = b_Mod_readField) (hml : c.maxLocals = 6) (hown : s.vm.findClass R_Mod = some m.cls) (hT : ∀ w ∈ TG, w.before args s = true) (hK : va_K (dC, dI) CL (TY cI cB cJ cZ) s) (hN : NW s) (hA : ∀ q : Nat, s.heap.size ≤ q → A q) (hRc : cells ≤ R.cells) (hRs : slots ≤ R.slots) (hRf : 5 ≤ R.frames) (hRl : 111 ≤ R.locals) (hret : ∀ (x : St) (H : Heap) (locs : List Loc) (pc : Nat) (ls : Array Slot), decode b_Mod_readField pc = .ok (.return_, 1) → post x → Wd dC dI cI cB cJ cZ ad stM kcM 115 A x H → va_S A s.heap H locs → W p l e R s m args below meth c H locs cells slots Q (F0 m pc ls [])) (hs_Mod_readField : ∀ (sz : Nat) (l1 : Int32) (x : St), ∀ (post : St → Prop), self_Mod_readField post l1 x → Met l y_Mod_readField (wsOf y_Mod_readField b_Mod_readField 6 (none)) ({ frames := fd, cells := 0, slots := 0, locals := ld }) (va_Pc [.ref (ad 0), .int l1] (PW dC dI cI cB cJ cZ ad stM kcM 115 sz x)) (va_Qv (fun (y : St) => post y) (fun y t => Wd dC dI cI cB cJ cZ ad stM kcM 115 (va_A (pic ad stM kcM 115 cI cB cJ cZ x) sz) y t.heap) (va_A (pic ad stM kcM 115 cI cB cJ cZ x) sz)) 0 0 (va_A (pic ad stM kcM 115 cI cB cJ cZ x) sz)) (hDf : fd + 1 ≤ R.frames) (hDl : 25 + ld ≤ R.locals) (hrec268 : ∀ (l1 : Int32) (l2 : Int32) (l3 : Int32) (l4 : Int32) (l5 : Int32) (x : St) (H : Heap) (locs : List Loc) (ls : Array Slot), rec268 l1 l2 l3 l4 l5 x → Wd dC dI cI cB cJ cZ ad stM kcM 115 A x H → va_S A s.heap H locs → lv_has ls 6 [(0, .ref (ad 0)), (1, .int l1), (2, .int l2), (3, .int l3), (4, .int l4), (5, .int l5)] → W p l e R s m args below meth c H locs cells slots Q (F0 m 268 ls [])) : ∀ (l1 : Int32) (l2 : Int32) (l3 : Int32) (l4 : Int32) (l5 : Int32) (x : St) (H : Heap) (locs : List Loc) (ls : Array Slot), j_Mod_readField_268 post self_Mod_readField rec268 l1 l2 l3 l4 l5 x → Wd dC dI cI cB cJ cZ ad stM kcM 115 A x H → va_S A s.heap H locs → lv_has ls 6 [(0, .ref (ad 0)), (1, .int l1), (2, .int l2), (3, .int l3), (4, .int l4), (5, .int l5)] → W p l e R s m args below meth c H locs cells slots Q (F0 m 268 ls []) := by
  intro l1 l2 l3 l4 l5 x H locs ls  hw hW hS hl
  unfold j_Mod_readField_268 at hw
  refine lv_aload_n hx hb d_Mod_readField_268 rfl (lv_at hl 0 rfl) ?_
  refine lv_iload hx hb d_Mod_readField_269 (lv_at hl 5 rfl) ?_
  have hF := hW.free hS hA
  refine va_callv (va_runV (C := R_Mod) (As := [.int l5]) (rest := []) ⟨hx, hb, hml, hown, hT⟩ (hs_Mod_readField H.size l5 x  _ hw) ⟨callB_of 1 hT (gwt_in w_10_217) rfl rfl rfl (hT _ w_1_15) (hT _ w_10_214) (by decide +kernel) ⟨hDf, Nat.le_trans (Nat.add_le_add_right (by decide) _) hDl⟩, hT _ w_10_216, hT _ ws_108⟩ ⟨PW.blind, va_recv hK hW.1 (ci := 12) (q0 := 0) rfl (pic_obj ko_0.1 ko_0.2 (by decide)), PW.at _ hW hK hN⟩ rfl rfl hl.1 rfl (lv_room (Nat.le_of_ble_eq_true rfl)) d_Mod_readField_271 ⟨hRc, hRs⟩) hS (fun q _ h => hF q h) hF (fun  x105 t H locs ht hvm hw hB hz1 hk1 hS => ?_)
  have hW := Wd.back hB ht hF
  clear hB ht hF hz1 hk1 hvm
  refine lv_aload_n hx hb d_Mod_readField_274 rfl (lv_at hl 0 rfl) ?_
  refine w_geti (k := 17) (t := 12) (C := R_Mod) (T := F_Mod) (N := 167) hx hb hT hown hK hW ko_0.1 ko_0.2 (by decide) in_Mod rfl rfl (by decide) rfl fr_Mod_17 w_8_193 d_Mod_readField_275 ?_
  refine lv_iconst (v := (-1)) hx hb d_Mod_readField_278 (by decide) ?_
  refine lv_icmp_ne (tgt := 291) hx hb d_Mod_readField_279 (by decide) (fun c106 => ?_) (fun c106 => ?_)
  · have hw := hw.1 c106
    exact hret x105 H locs 291 ls d_Mod_readField_291 hw hW hS
  · have hw := hw.2 c106
    refine lv_aload_n hx hb d_Mod_readField_282 rfl (lv_at hl 0 rfl) ?_
    refine lv_bipush (v := 125) hx hb d_Mod_readField_283 (by decide) ?_
    have hF := hW.free hS hA
    refine va_calli (va_runV (C := R_Mod) (As := [.int 125]) (rest := []) ⟨hx, hb, hml, hown, hT⟩ (k_Mod_takesSign l dC dI cI cB cJ cZ ad H.size 125 x105  hw) ⟨callB_of 1 hT (gwt_in w_11_46) rfl rfl rfl (hT _ w_1_15) (hT _ w_11_43) (by decide +kernel) ⟨Nat.le_trans (Nat.le_of_ble_eq_true rfl) hRf, Nat.le_trans (Nat.le_of_ble_eq_true rfl) hRl⟩, hT _ w_11_45, hT _ ws_121⟩ ⟨PW.blind, va_recv hK hW.1 (ci := 12) (q0 := 0) rfl (pic_obj ko_0.1 ko_0.2 (by decide)), PW.at _ hW hK hN⟩ rfl rfl hl.1 rfl (lv_room (Nat.le_of_ble_eq_true rfl)) d_Mod_readField_285 ⟨hRc, hRs⟩) hS (fun q _ h => hF q h) hF (fun r108 x107 t H locs ht hvm hw hB hz1 hk1 hS => ?_)
    have hW := Wd.back hB ht hF
    clear hB ht hF hz1 hk1 hvm
    refine lv_if_eq (tgt := 268) hx hb d_Mod_readField_288 (by decide) (fun c109 => ?_) (fun c109 => ?_)
    · have hw := hw.1 c109
      exact hrec268 l1 l2 l3 l4 l5 x107 H locs ls  hw hW hS (lv_sub hl [0, 1, 2, 3, 4, 5] rfl)
    · have hw := hw.2 c109
      exact hret x107 H locs 291 ls d_Mod_readField_291 hw hW hS
set_option maxHeartbeats 4000000 in
set_option maxRecDepth 100000 in
theorem tl_Mod_readField_268 {p : Program} {l : Launch} {e : Env} {R : Room} {s : State} {m : MethodId} {args : Array Value} {below : List Frame} {meth : Method} {c : Code} {cells slots : Nat} {Q : State → Prop} {dC : Nat → ClassId} {dI : Nat → Nat → Nat} {cI cB cJ cZ : ClassId} {A : Nat → Prop} {ad : Nat → Nat} {post : St → Prop} {self_Mod_readField : (St → Prop) → Int32 → St → Prop} {fd ld : Nat} (hx : p.tables.exec = Jvm.exec) (hb : c.code = b_Mod_readField) (hml : c.maxLocals = 6) (hown : s.vm.findClass R_Mod = some m.cls) (hT : ∀ w ∈ TG, w.before args s = true) (hK : va_K (dC, dI) CL (TY cI cB cJ cZ) s) (hN : NW s) (hA : ∀ q : Nat, s.heap.size ≤ q → A q) (hRc : cells ≤ R.cells) (hRs : slots ≤ R.slots) (hRf : 5 ≤ R.frames) (hRl : 111 ≤ R.locals) (hret : ∀ (x : St) (H : Heap) (locs : List Loc) (pc : Nat) (ls : Array Slot), decode b_Mod_readField pc = .ok (.return_, 1) → post x → Wd dC dI cI cB cJ cZ ad stM kcM 115 A x H → va_S A s.heap H locs → W p l e R s m args below meth c H locs cells slots Q (F0 m pc ls [])) (hs_Mod_readField : ∀ (sz : Nat) (l1 : Int32) (x : St), ∀ (post : St → Prop), self_Mod_readField post l1 x → Met l y_Mod_readField (wsOf y_Mod_readField b_Mod_readField 6 (none)) ({ frames := fd, cells := 0, slots := 0, locals := ld }) (va_Pc [.ref (ad 0), .int l1] (PW dC dI cI cB cJ cZ ad stM kcM 115 sz x)) (va_Qv (fun (y : St) => post y) (fun y t => Wd dC dI cI cB cJ cZ ad stM kcM 115 (va_A (pic ad stM kcM 115 cI cB cJ cZ x) sz) y t.heap) (va_A (pic ad stM kcM 115 cI cB cJ cZ x) sz)) 0 0 (va_A (pic ad stM kcM 115 cI cB cJ cZ x) sz)) (hDf : fd + 1 ≤ R.frames) (hDl : 25 + ld ≤ R.locals)  : ∀ n : Nat, ∀ (l1 : Int32) (l2 : Int32) (l3 : Int32) (l4 : Int32) (l5 : Int32) (x : St) (H : Heap) (locs : List Loc) (ls : Array Slot), wl_Mod_readField_268 post self_Mod_readField n l1 l2 l3 l4 l5 x → Wd dC dI cI cB cJ cZ ad stM kcM 115 A x H → va_S A s.heap H locs → lv_has ls 6 [(0, .ref (ad 0)), (1, .int l1), (2, .int l2), (3, .int l3), (4, .int l4), (5, .int l5)] → W p l e R s m args below meth c H locs cells slots Q (F0 m 268 ls []) := by
  intro n
  induction n with
  | zero => intro l1 l2 l3 l4 l5 x H locs ls  hw; exact hw.elim
  | succ n ih => intro l1 l2 l3 l4 l5 x H locs ls  hw hW hS hl; exact t_Mod_readField_268 hx hb hml hown hT hK hN hA hRc hRs hRf hRl hret hs_Mod_readField hDf hDl  ih l1 l2 l3 l4 l5 x H locs ls  hw hW hS hl
set_option maxRecDepth 100000 in
set_option maxHeartbeats 4000000 in
set_option maxRecDepth 100000 in
theorem t_Mod_readField_205 {p : Program} {l : Launch} {e : Env} {R : Room} {s : State} {m : MethodId} {args : Array Value} {below : List Frame} {meth : Method} {c : Code} {cells slots : Nat} {Q : State → Prop} {dC : Nat → ClassId} {dI : Nat → Nat → Nat} {cI cB cJ cZ : ClassId} {A : Nat → Prop} {ad : Nat → Nat} {post : St → Prop} {self_Mod_readField : (St → Prop) → Int32 → St → Prop} {fd ld : Nat} (hx : p.tables.exec = Jvm.exec) (hb : c.code = b_Mod_readField) (hml : c.maxLocals = 6) (hown : s.vm.findClass R_Mod = some m.cls) (hT : ∀ w ∈ TG, w.before args s = true) (hK : va_K (dC, dI) CL (TY cI cB cJ cZ) s) (hN : NW s) (hA : ∀ q : Nat, s.heap.size ≤ q → A q) (hRc : cells ≤ R.cells) (hRs : slots ≤ R.slots) (hRf : 5 ≤ R.frames) (hRl : 111 ≤ R.locals) (hret : ∀ (x : St) (H : Heap) (locs : List Loc) (pc : Nat) (ls : Array Slot), decode b_Mod_readField pc = .ok (.return_, 1) → post x → Wd dC dI cI cB cJ cZ ad stM kcM 115 A x H → va_S A s.heap H locs → W p l e R s m args below meth c H locs cells slots Q (F0 m pc ls [])) (hs_Mod_readField : ∀ (sz : Nat) (l1 : Int32) (x : St), ∀ (post : St → Prop), self_Mod_readField post l1 x → Met l y_Mod_readField (wsOf y_Mod_readField b_Mod_readField 6 (none)) ({ frames := fd, cells := 0, slots := 0, locals := ld }) (va_Pc [.ref (ad 0), .int l1] (PW dC dI cI cB cJ cZ ad stM kcM 115 sz x)) (va_Qv (fun (y : St) => post y) (fun y t => Wd dC dI cI cB cJ cZ ad stM kcM 115 (va_A (pic ad stM kcM 115 cI cB cJ cZ x) sz) y t.heap) (va_A (pic ad stM kcM 115 cI cB cJ cZ x) sz)) 0 0 (va_A (pic ad stM kcM 115 cI cB cJ cZ x) sz)) (hDf : fd + 1 ≤ R.frames) (hDl : 25 + ld ≤ R.locals)  : ∀ (l1 : Int32) (l2 : Int32) (l3 : Int32) (l4 : Int32) (x : St) (H : Heap) (locs : List Loc) (ls : Array Slot), j_Mod_readField_205 post self_Mod_readField l1 l2 l3 l4 x → Wd dC dI cI cB cJ cZ ad stM kcM 115 A x H → va_S A s.heap H locs → lv_has ls 6 [(0, .ref (ad 0)), (1, .int l1), (2, .int l2), (3, .int l3), (4, .int l4)] → W p l e R s m args below meth c H locs cells slots Q (F0 m 205 ls []) := by
  intro l1 l2 l3 l4 x H locs ls  hw hW hS hl
  unfold j_Mod_readField_205 at hw
  refine lv_aload_n hx hb d_Mod_readField_205 rfl (lv_at hl 0 rfl) ?_
  refine w_geti (k := 17) (t := 12) (C := R_Mod) (T := F_Mod) (N := 167) hx hb hT hown hK hW ko_0.1 ko_0.2 (by decide) in_Mod rfl rfl (by decide) rfl fr_Mod_17 w_8_193 d_Mod_readField_206 ?_
  refine lv_iconst (v := (-1)) hx hb d_Mod_readField_209 (by decide) ?_
  refine lv_icmp_eq (tgt := 214) hx hb d_Mod_readField_210 (by decide) (fun c110 => ?_) (fun c110 => ?_)
  · have hw := hw.1 c110
    refine lv_aload_n hx hb d_Mod_readField_214 rfl (lv_at hl 0 rfl) ?_
    refine w_getf (q := 9) (k := 11) (t := 12) (C := R_Mod) (T := F_Mod) (N := 167) hx hb hT hown hK hW ko_0.1 ko_0.2 (by decide) in_Mod rfl rfl (by decide) rfl fr_Mod_11 w_8_187 d_Mod_readField_215 rfl ?_
    refine lv_iconst (v := 2) hx hb d_Mod_readField_218 (by decide) ?_
    obtain ⟨hi, hw⟩ := hw
    refine w_iald (o := 9) hx hb hK hW ko_9.1 ko_9.2 hi d_Mod_readField_219 ?_
    refine lv_topi (fun v111 ev111 => ?_)
    have hw := hw v111 ev111
    refine lv_istore (lv' := [(5, .int v111), (0, .ref (ad 0)), (1, .int l1), (2, .int l2), (3, .int l3), (4, .int l4)]) hx hb d_Mod_readField_220 hl (by decide) rfl (fun ls hl => ?_)
    refine lv_aload_n hx hb d_Mod_readField_222 rfl (lv_at hl 1 rfl) ?_
    refine lv_iload_n hx hb d_Mod_readField_223 rfl (lv_at hl 3 rfl) ?_
    refine lv_iload_n hx hb d_Mod_readField_224 rfl (lv_at hl 4 rfl) ?_
    refine lv_iload_n hx hb d_Mod_readField_225 rfl (lv_at hl 2 rfl) ?_
    refine lv_aload_n hx hb d_Mod_readField_226 rfl (lv_at hl 1 rfl) ?_
    refine w_getf (q := 2) (k := 2) (t := 12) (C := R_Mod) (T := F_Mod) (N := 167) hx hb hT hown hK hW ko_0.1 ko_0.2 (by decide) in_Mod rfl rfl (by decide) rfl fr_Mod_2 w_8_178 d_Mod_readField_227 rfl ?_
    refine lv_aload_n hx hb d_Mod_readField_230 rfl (lv_at hl 1 rfl) ?_
    refine w_geti (k := 16) (t := 12) (C := R_Mod) (T := F_Mod) (N := 167) hx hb hT hown hK hW ko_0.1 ko_0.2 (by decide) in_Mod rfl rfl (by decide) rfl fr_Mod_16 w_8_192 d_Mod_readField_231 ?_
    refine lv_iload hx hb d_Mod_readField_234 (lv_at hl 5 rfl) ?_
    have hF := hW.free hS hA
    refine va_callv (va_runV (C := R_Mod) (As := [.int l2, .int l3, .int l1, .ref (ad 2), .int (fI x 0 16), .int l4]) (rest := []) ⟨hx, hb, hml, hown, hT⟩ (k_Mod_addField l dC dI cI cB cJ cZ ad H.size l2 l3 l1 2 (fI x 0 16) l4 x ko_2 hw) ⟨callB_of 6 hT (gwt_in w_11_38) rfl rfl rfl (hT _ w_1_15) (hT _ w_11_35) (by decide +kernel) ⟨Nat.le_trans (Nat.le_of_ble_eq_true rfl) hRf, Nat.le_trans (Nat.le_of_ble_eq_true rfl) hRl⟩, hT _ w_11_37, hT _ ws_119⟩ ⟨PW.blind, va_recv hK hW.1 (ci := 12) (q0 := 0) rfl (pic_obj ko_0.1 ko_0.2 (by decide)), PW.at _ hW hK hN⟩ rfl rfl hl.1 rfl (lv_room (Nat.le_of_ble_eq_true rfl)) d_Mod_readField_236 ⟨hRc, hRs⟩) hS (fun q _ h => hF q h) hF (fun  x112 t H locs ht hvm hw hB hz1 hk1 hS => ?_)
    have hW := Wd.back hB ht hF
    clear hB ht hF hz1 hk1 hvm
    refine lv_aload_n hx hb d_Mod_readField_239 rfl (lv_at hl 1 rfl) ?_
    refine lv_dup hx hb d_Mod_readField_240 rfl ?_
    refine w_geti (k := 16) (t := 12) (C := R_Mod) (T := F_Mod) (N := 167) hx hb hT hown hK hW ko_0.1 ko_0.2 (by decide) in_Mod rfl rfl (by decide) rfl fr_Mod_16 w_8_192 d_Mod_readField_241 ?_
    refine lv_iload hx hb d_Mod_readField_244 (lv_at hl 5 rfl) ?_
    refine lv_iadd hx hb d_Mod_readField_246 ?_
    refine w_puti (ty := .int) (k := 16) (t := 12) (C := R_Mod) (T := F_Mod) (N := 167) hx hb hT hown hK hW hS ko_0.1 ko_0.2 (by decide) in_Mod t_Mod t_Mod_ok n_Mod rfl rfl (by decide) rfl fr_Mod_16 w_8_192 (by decide +kernel) rfl rfl d_Mod_readField_247 (fun H locs hW hS => ?_)
    obtain ⟨x113, ex113⟩ : ∃ y : St, y = setI x112 0 16 ((fI x112 0 16) + l4) := ⟨_, rfl⟩
    rw [← ex113] at hW
    have hw := hw x113 ex113
    refine lv_iload_n hx hb d_Mod_readField_250 rfl (lv_at hl 4 rfl) ?_
    refine lv_iconst (v := 4) hx hb d_Mod_readField_251 (by decide) ?_
    refine lv_icmp_eq (tgt := 262) hx hb d_Mod_readField_252 (by decide) (fun c114 => ?_) (fun c114 => ?_)
    · have hw := hw.1 c114
      refine lv_aload_n hx hb d_Mod_readField_262 rfl (lv_at hl 1 rfl) ?_
      refine lv_bipush (v := 123) hx hb d_Mod_readField_263 (by decide) ?_
      have hF := hW.free hS hA
      refine va_callv (va_runV (C := R_Mod) (As := [.int 123]) (rest := []) ⟨hx, hb, hml, hown, hT⟩ (k_Mod_wantSign l dC dI cI cB cJ cZ ad H.size 123 x113  hw) ⟨callB_of 1 hT (gwt_in w_11_42) rfl rfl rfl (hT _ w_1_15) (hT _ w_11_39) (by decide +kernel) ⟨Nat.le_trans (Nat.le_of_ble_eq_true rfl) hRf, Nat.le_trans (Nat.le_of_ble_eq_true rfl) hRl⟩, hT _ w_11_41, hT _ ws_120⟩ ⟨PW.blind, va_recv hK hW.1 (ci := 12) (q0 := 0) rfl (pic_obj ko_0.1 ko_0.2 (by decide)), PW.at _ hW hK hN⟩ rfl rfl hl.1 rfl (lv_room (Nat.le_of_ble_eq_true rfl)) d_Mod_readField_265 ⟨hRc, hRs⟩) hS (fun q _ h => hF q h) hF (fun  x115 t H locs ht hvm hw hB hz1 hk1 hS => ?_)
      have hW := Wd.back hB ht hF
      clear hB ht hF hz1 hk1 hvm
      obtain ⟨n, hw⟩ := hw
      exact tl_Mod_readField_268 hx hb hml hown hT hK hN hA hRc hRs hRf hRl hret hs_Mod_readField hDf hDl  n l1 l2 l3 l4 v111 x115 H locs ls  hw hW hS (lv_sub hl [1, 2, 3, 4, 5, 0] rfl)
    · have hw := hw.2 c114
      refine lv_aload_n hx hb d_Mod_readField_255 rfl (lv_at hl 1 rfl) ?_
      refine lv_bipush (v := 59) hx hb d_Mod_readField_256 (by decide) ?_
      have hF := hW.free hS hA
      refine va_callv (va_runV (C := R_Mod) (As := [.int 59]) (rest := []) ⟨hx, hb, hml, hown, hT⟩ (k_Mod_wantSign l dC dI cI cB cJ cZ ad H.size 59 x113  hw) ⟨callB_of 1 hT (gwt_in w_11_42) rfl rfl rfl (hT _ w_1_15) (hT _ w_11_39) (by decide +kernel) ⟨Nat.le_trans (Nat.le_of_ble_eq_true rfl) hRf, Nat.le_trans (Nat.le_of_ble_eq_true rfl) hRl⟩, hT _ w_11_41, hT _ ws_120⟩ ⟨PW.blind, va_recv hK hW.1 (ci := 12) (q0 := 0) rfl (pic_obj ko_0.1 ko_0.2 (by decide)), PW.at _ hW hK hN⟩ rfl rfl hl.1 rfl (lv_room (Nat.le_of_ble_eq_true rfl)) d_Mod_readField_258 ⟨hRc, hRs⟩) hS (fun q _ h => hF q h) hF (fun  x116 t H locs ht hvm hw hB hz1 hk1 hS => ?_)
      have hW := Wd.back hB ht hF
      clear hB ht hF hz1 hk1 hvm
      exact hret x116 H locs 261 ls d_Mod_readField_261 hw hW hS
  · have hw := hw.2 c110
    exact hret x H locs 213 ls d_Mod_readField_213 hw hW hS
set_option maxRecDepth 100000 in
set_option maxHeartbeats 4000000 in
set_option maxRecDepth 100000 in
theorem t_Mod_readField_197 {p : Program} {l : Launch} {e : Env} {R : Room} {s : State} {m : MethodId} {args : Array Value} {below : List Frame} {meth : Method} {c : Code} {cells slots : Nat} {Q : State → Prop} {dC : Nat → ClassId} {dI : Nat → Nat → Nat} {cI cB cJ cZ : ClassId} {A : Nat → Prop} {ad : Nat → Nat} {post : St → Prop} {self_Mod_readField : (St → Prop) → Int32 → St → Prop} {fd ld : Nat} (hx : p.tables.exec = Jvm.exec) (hb : c.code = b_Mod_readField) (hml : c.maxLocals = 6) (hown : s.vm.findClass R_Mod = some m.cls) (hT : ∀ w ∈ TG, w.before args s = true) (hK : va_K (dC, dI) CL (TY cI cB cJ cZ) s) (hN : NW s) (hA : ∀ q : Nat, s.heap.size ≤ q → A q) (hRc : cells ≤ R.cells) (hRs : slots ≤ R.slots) (hRf : 5 ≤ R.frames) (hRl : 111 ≤ R.locals) (hret : ∀ (x : St) (H : Heap) (locs : List Loc) (pc : Nat) (ls : Array Slot), decode b_Mod_readField pc = .ok (.return_, 1) → post x → Wd dC dI cI cB cJ cZ ad stM kcM 115 A x H → va_S A s.heap H locs → W p l e R s m args below meth c H locs cells slots Q (F0 m pc ls [])) (hs_Mod_readField : ∀ (sz : Nat) (l1 : Int32) (x : St), ∀ (post : St → Prop), self_Mod_readField post l1 x → Met l y_Mod_readField (wsOf y_Mod_readField b_Mod_readField 6 (none)) ({ frames := fd, cells := 0, slots := 0, locals := ld }) (va_Pc [.ref (ad 0), .int l1] (PW dC dI cI cB cJ cZ ad stM kcM 115 sz x)) (va_Qv (fun (y : St) => post y) (fun y t => Wd dC dI cI cB cJ cZ ad stM kcM 115 (va_A (pic ad stM kcM 115 cI cB cJ cZ x) sz) y t.heap) (va_A (pic ad stM kcM 115 cI cB cJ cZ x) sz)) 0 0 (va_A (pic ad stM kcM 115 cI cB cJ cZ x) sz)) (hDf : fd + 1 ≤ R.frames) (hDl : 25 + ld ≤ R.locals)  : ∀ (l1 : Int32) (l2 : Int32) (l3 : Int32) (l4 : Int32) (x : St) (H : Heap) (locs : List Loc) (ls : Array Slot), j_Mod_readField_197 post self_Mod_readField l1 l2 l3 l4 x → Wd dC dI cI cB cJ cZ ad stM kcM 115 A x H → va_S A s.heap H locs → lv_has ls 6 [(0, .ref (ad 0)), (1, .int l1), (2, .int l2), (3, .int l3), (4, .int l4)] → W p l e R s m args below meth c H locs cells slots Q (F0 m 197 ls []) := by
  intro l1 l2 l3 l4 x H locs ls  hw hW hS hl
  unfold j_Mod_readField_197 at hw
  refine lv_aload_n hx hb d_Mod_readField_197 rfl (lv_at hl 0 rfl) ?_
  refine lv_aload_n hx hb d_Mod_readField_198 rfl (lv_at hl 0 rfl) ?_
  refine w_geti (k := 16) (t := 12) (C := R_Mod) (T := F_Mod) (N := 167) hx hb hT hown hK hW ko_0.1 ko_0.2 (by decide) in_Mod rfl rfl (by decide) rfl fr_Mod_16 w_8_192 d_Mod_readField_199 ?_
  have hF := hW.free hS hA
  refine va_callv (va_runV (C := R_Mod) (As := [.int (fI x 0 16)]) (rest := []) ⟨hx, hb, hml, hown, hT⟩ (k_Mod_fail l dC dI cI cB cJ cZ ad H.size (fI x 0 16) x  hw) ⟨callB_of 1 hT (gwt_in w_11_14) rfl rfl rfl (hT _ w_1_15) (hT _ w_11_11) (by decide +kernel) ⟨Nat.le_trans (Nat.le_of_ble_eq_true rfl) hRf, Nat.le_trans (Nat.le_of_ble_eq_true rfl) hRl⟩, hT _ w_11_13, hT _ ws_115⟩ ⟨PW.blind, va_recv hK hW.1 (ci := 12) (q0 := 0) rfl (pic_obj ko_0.1 ko_0.2 (by decide)), PW.at _ hW hK hN⟩ rfl rfl hl.1 rfl (lv_room (Nat.le_of_ble_eq_true rfl)) d_Mod_readField_202 ⟨hRc, hRs⟩) hS (fun q _ h => hF q h) hF (fun  x117 t H locs ht hvm hw hB hz1 hk1 hS => ?_)
  have hW := Wd.back hB ht hF
  clear hB ht hF hz1 hk1 hvm
  exact t_Mod_readField_205 hx hb hml hown hT hK hN hA hRc hRs hRf hRl hret hs_Mod_readField hDf hDl  l1 l2 l3 l4 x117 H locs ls  hw hW hS (lv_sub hl [0, 1, 2, 3, 4] rfl)
set_option maxRecDepth 100000 in
set_option maxHeartbeats 4000000 in
set_option maxRecDepth 100000 in
theorem t_Mod_readField_142 {p : Program} {l : Launch} {e : Env} {R : Room} {s : State} {m : MethodId} {args : Array Value} {below : List Frame} {meth : Method} {c : Code} {cells slots : Nat} {Q : State → Prop} {dC : Nat → ClassId} {dI : Nat → Nat → Nat} {cI cB cJ cZ : ClassId} {A : Nat → Prop} {ad : Nat → Nat} {post : St → Prop} {self_Mod_readField : (St → Prop) → Int32 → St → Prop} {fd ld : Nat} (hx : p.tables.exec = Jvm.exec) (hb : c.code = b_Mod_readField) (hml : c.maxLocals = 6) (hown : s.vm.findClass R_Mod = some m.cls) (hT : ∀ w ∈ TG, w.before args s = true) (hK : va_K (dC, dI) CL (TY cI cB cJ cZ) s) (hN : NW s) (hA : ∀ q : Nat, s.heap.size ≤ q → A q) (hRc : cells ≤ R.cells) (hRs : slots ≤ R.slots) (hRf : 5 ≤ R.frames) (hRl : 111 ≤ R.locals) (hret : ∀ (x : St) (H : Heap) (locs : List Loc) (pc : Nat) (ls : Array Slot), decode b_Mod_readField pc = .ok (.return_, 1) → post x → Wd dC dI cI cB cJ cZ ad stM kcM 115 A x H → va_S A s.heap H locs → W p l e R s m args below meth c H locs cells slots Q (F0 m pc ls [])) (hs_Mod_readField : ∀ (sz : Nat) (l1 : Int32) (x : St), ∀ (post : St → Prop), self_Mod_readField post l1 x → Met l y_Mod_readField (wsOf y_Mod_readField b_Mod_readField 6 (none)) ({ frames := fd, cells := 0, slots := 0, locals := ld }) (va_Pc [.ref (ad 0), .int l1] (PW dC dI cI cB cJ cZ ad stM kcM 115 sz x)) (va_Qv (fun (y : St) => post y) (fun y t => Wd dC dI cI cB cJ cZ ad stM kcM 115 (va_A (pic ad stM kcM 115 cI cB cJ cZ x) sz) y t.heap) (va_A (pic ad stM kcM 115 cI cB cJ cZ x) sz)) 0 0 (va_A (pic ad stM kcM 115 cI cB cJ cZ x) sz)) (hDf : fd + 1 ≤ R.frames) (hDl : 25 + ld ≤ R.locals)  : ∀ (l1 : Int32) (l2 : Int32) (l3 : Int32) (x : St) (H : Heap) (locs : List Loc) (ls : Array Slot), j_Mod_readField_142 post self_Mod_readField l1 l2 l3 x → Wd dC dI cI cB cJ cZ ad stM kcM 115 A x H → va_S A s.heap H locs → lv_has ls 6 [(0, .ref (ad 0)), (1, .int l1), (2, .int l2), (3, .int l3)] → W p l e R s m args below meth c H locs cells slots Q (F0 m 142 ls []) := by
  intro l1 l2 l3 x H locs ls  hw hW hS hl
  unfold j_Mod_readField_142 at hw
  refine lv_aload_n hx hb d_Mod_readField_142 rfl (lv_at hl 0 rfl) ?_
  have hF := hW.free hS hA
  refine va_callv (va_runV (C := R_Mod) (As := []) (rest := []) ⟨hx, hb, hml, hown, hT⟩ (k_Mod_blanks l dC dI cI cB cJ cZ ad H.size  x  hw) ⟨callB_of 0 hT (gwt_in w_10_230) rfl rfl rfl (hT _ w_1_15) (hT _ w_10_227) (by decide +kernel) ⟨Nat.le_trans (Nat.le_of_ble_eq_true rfl) hRf, Nat.le_trans (Nat.le_of_ble_eq_true rfl) hRl⟩, hT _ w_10_229, hT _ ws_111⟩ ⟨PW.blind, va_recv hK hW.1 (ci := 12) (q0 := 0) rfl (pic_obj ko_0.1 ko_0.2 (by decide)), PW.at _ hW hK hN⟩ rfl rfl hl.1 rfl (lv_room (Nat.le_of_ble_eq_true rfl)) d_Mod_readField_143 ⟨hRc, hRs⟩) hS (fun q _ h => hF q h) hF (fun  x118 t H locs ht hvm hw hB hz1 hk1 hS => ?_)
  have hW := Wd.back hB ht hF
  clear hB ht hF hz1 hk1 hvm
  refine lv_aload_n hx hb d_Mod_readField_146 rfl (lv_at hl 0 rfl) ?_
  refine lv_aload_n hx hb d_Mod_readField_147 rfl (lv_at hl 0 rfl) ?_
  refine w_geti (k := 16) (t := 12) (C := R_Mod) (T := F_Mod) (N := 167) hx hb hT hown hK hW ko_0.1 ko_0.2 (by decide) in_Mod rfl rfl (by decide) rfl fr_Mod_16 w_8_192 d_Mod_readField_148 ?_
  have hF := hW.free hS hA
  refine va_calli (va_runV (C := R_Mod) (As := [.int (fI x118 0 16)]) (rest := []) ⟨hx, hb, hml, hown, hT⟩ (k_Mod_wordAt l dC dI cI cB cJ cZ ad H.size (fI x118 0 16) x118  hw) ⟨callB_of 1 hT (gwt_in w_11_2) rfl rfl rfl (hT _ w_1_15) (hT _ w_10_239) (by decide +kernel) ⟨Nat.le_trans (Nat.le_of_ble_eq_true rfl) hRf, Nat.le_trans (Nat.le_of_ble_eq_true rfl) hRl⟩, hT _ w_11_1, hT _ ws_114⟩ ⟨PW.blind, va_recv hK hW.1 (ci := 12) (q0 := 0) rfl (pic_obj ko_0.1 ko_0.2 (by decide)), PW.at _ hW hK hN⟩ rfl rfl hl.1 rfl (lv_room (Nat.le_of_ble_eq_true rfl)) d_Mod_readField_151 ⟨hRc, hRs⟩) hS (fun q _ h => hF q h) hF (fun r120 x119 t H locs ht hvm hw hB hz1 hk1 hS => ?_)
  have hW := Wd.back hB ht hF
  clear hB ht hF hz1 hk1 hvm
  refine lv_istore (lv' := [(4, .int r120), (0, .ref (ad 0)), (1, .int l1), (2, .int l2), (3, .int l3)]) hx hb d_Mod_readField_154 hl (by decide) rfl (fun ls hl => ?_)
  refine lv_iload hx hb d_Mod_readField_156 (lv_at hl 0 rfl) ?_
  refine lv_if_eq (tgt := 197) hx hb d_Mod_readField_158 (by decide) (fun c121 => ?_) (fun c121 => ?_)
  · have hw := hw.1 c121
    exact t_Mod_readField_197 hx hb hml hown hT hK hN hA hRc hRs hRf hRl hret hs_Mod_readField hDf hDl  l1 l2 l3 r120 x119 H locs ls  hw hW hS (lv_sub hl [1, 2, 3, 4, 0] rfl)
  · have hw := hw.2 c121
    refine lv_iload hx hb d_Mod_readField_161 (lv_at hl 0 rfl) ?_
    refine lv_bipush (v := 16) hx hb d_Mod_readField_163 (by decide) ?_
    refine lv_icmp_gt (tgt := 197) hx hb d_Mod_readField_165 (by decide) (fun c122 => ?_) (fun c122 => ?_)
    · have hw := hw.1 c122
      exact t_Mod_readField_197 hx hb hml hown hT hK hN hA hRc hRs hRf hRl hret hs_Mod_readField hDf hDl  l1 l2 l3 r120 x119 H locs ls  hw hW hS (lv_sub hl [1, 2, 3, 4, 0] rfl)
    · have hw := hw.2 c122
      refine lv_aload_n hx hb d_Mod_readField_168 rfl (lv_at hl 1 rfl) ?_
      refine lv_iload_n hx hb d_Mod_readField_169 rfl (lv_at hl 4 rfl) ?_
      refine lv_iload_n hx hb d_Mod_readField_170 rfl (lv_at hl 2 rfl) ?_
      have hF := hW.free hS hA
      refine va_calli (va_runV (C := R_Mod) (As := [.int l3, .int l1]) (rest := []) ⟨hx, hb, hml, hown, hT⟩ (k_Mod_mayCome l dC dI cI cB cJ cZ ad H.size l3 l1 x119  hw) ⟨callB_of 2 hT (gwt_in w_11_23) rfl rfl rfl (hT _ w_1_15) (hT _ w_11_20) (by decide +kernel) ⟨Nat.le_trans (Nat.le_of_ble_eq_true rfl) hRf, Nat.le_trans (Nat.le_of_ble_eq_true rfl) hRl⟩, hT _ w_11_22, hT _ ws_116⟩ ⟨PW.blind, va_recv hK hW.1 (ci := 12) (q0 := 0) rfl (pic_obj ko_0.1 ko_0.2 (by decide)), PW.at _ hW hK hN⟩ rfl rfl hl.1 rfl (lv_room (Nat.le_of_ble_eq_true rfl)) d_Mod_readField_171 ⟨hRc, hRs⟩) hS (fun q _ h => hF q h) hF (fun r124 x123 t H locs ht hvm hw hB hz1 hk1 hS => ?_)
      have hW := Wd.back hB ht hF
      clear hB ht hF hz1 hk1 hvm
      refine lv_if_eq (tgt := 197) hx hb d_Mod_readField_174 (by decide) (fun c125 => ?_) (fun c125 => ?_)
      · have hw := hw.1 c125
        exact t_Mod_readField_197 hx hb hml hown hT hK hN hA hRc hRs hRf hRl hret hs_Mod_readField hDf hDl  l1 l2 l3 r120 x123 H locs ls  hw hW hS (lv_sub hl [1, 2, 3, 4, 0] rfl)
      · have hw := hw.2 c125
        refine lv_aload_n hx hb d_Mod_readField_177 rfl (lv_at hl 1 rfl) ?_
        refine lv_iconst (v := 2) hx hb d_Mod_readField_178 (by decide) ?_
        refine lv_iload_n hx hb d_Mod_readField_179 rfl (lv_at hl 2 rfl) ?_
        refine lv_aload_n hx hb d_Mod_readField_180 rfl (lv_at hl 1 rfl) ?_
        refine w_getf (q := 2) (k := 2) (t := 12) (C := R_Mod) (T := F_Mod) (N := 167) hx hb hT hown hK hW ko_0.1 ko_0.2 (by decide) in_Mod rfl rfl (by decide) rfl fr_Mod_2 w_8_178 d_Mod_readField_181 rfl ?_
        refine lv_aload_n hx hb d_Mod_readField_184 rfl (lv_at hl 1 rfl) ?_
        refine w_geti (k := 16) (t := 12) (C := R_Mod) (T := F_Mod) (N := 167) hx hb hT hown hK hW ko_0.1 ko_0.2 (by decide) in_Mod rfl rfl (by decide) rfl fr_Mod_16 w_8_192 d_Mod_readField_185 ?_
        refine lv_iload hx hb d_Mod_readField_188 (lv_at hl 0 rfl) ?_
        have hF := hW.free hS hA
        refine va_calli (va_runV (C := R_Mod) (As := [.int 2, .int l1, .ref (ad 2), .int (fI x123 0 16), .int r120]) (rest := []) ⟨hx, hb, hml, hown, hT⟩ (k_Mod_find l dC dI cI cB cJ cZ ad H.size 2 l1 2 (fI x123 0 16) r120 x123 ko_2 hw) ⟨callB_of 5 hT (gwt_in w_11_34) rfl rfl rfl (hT _ w_1_15) (hT _ w_11_31) (by decide +kernel) ⟨Nat.le_trans (Nat.le_of_ble_eq_true rfl) hRf, Nat.le_trans (Nat.le_of_ble_eq_true rfl) hRl⟩, hT _ w_11_33, hT _ ws_118⟩ ⟨PW.blind, va_recv hK hW.1 (ci := 12) (q0 := 0) rfl (pic_obj ko_0.1 ko_0.2 (by decide)), PW.at _ hW hK hN⟩ rfl rfl hl.1 rfl (lv_room (Nat.le_of_ble_eq_true rfl)) d_Mod_readField_190 ⟨hRc, hRs⟩) hS (fun q _ h => hF q h) hF (fun r127 x126 t H locs ht hvm hw hB hz1 hk1 hS => ?_)
        have hW := Wd.back hB ht hF
        clear hB ht hF hz1 hk1 hvm
        refine lv_iconst (v := (-1)) hx hb d_Mod_readField_193 (by decide) ?_
        refine lv_icmp_eq (tgt := 205) hx hb d_Mod_readField_194 (by decide) (fun c128 => ?_) (fun c128 => ?_)
        · have hw := hw.1 c128
          exact t_Mod_readField_205 hx hb hml hown hT hK hN hA hRc hRs hRf hRl hret hs_Mod_readField hDf hDl  l1 l2 l3 r120 x126 H locs ls  hw hW hS (lv_sub hl [1, 2, 3, 4, 0] rfl)
        · have hw := hw.2 c128
          exact t_Mod_readField_197 hx hb hml hown hT hK hN hA hRc hRs hRf hRl hret hs_Mod_readField hDf hDl  l1 l2 l3 r120 x126 H locs ls  hw hW hS (lv_sub hl [1, 2, 3, 4, 0] rfl)
set_option maxRecDepth 100000 in
set_option maxHeartbeats 4000000 in
set_option maxRecDepth 100000 in
theorem t_Mod_readField_128 {p : Program} {l : Launch} {e : Env} {R : Room} {s : State} {m : MethodId} {args : Array Value} {below : List Frame} {meth : Method} {c : Code} {cells slots : Nat} {Q : State → Prop} {dC : Nat → ClassId} {dI : Nat → Nat → Nat} {cI cB cJ cZ : ClassId} {A : Nat → Prop} {ad : Nat → Nat} {post : St → Prop} {self_Mod_readField : (St → Prop) → Int32 → St → Prop} {fd ld : Nat} (hx : p.tables.exec = Jvm.exec) (hb : c.code = b_Mod_readField) (hml : c.maxLocals = 6) (hown : s.vm.findClass R_Mod = some m.cls) (hT : ∀ w ∈ TG, w.before args s = true) (hK : va_K (dC, dI) CL (TY cI cB cJ cZ) s) (hN : NW s) (hA : ∀ q : Nat, s.heap.size ≤ q → A q) (hRc : cells ≤ R.cells) (hRs : slots ≤ R.slots) (hRf : 5 ≤ R.frames) (hRl : 111 ≤ R.locals) (hret : ∀ (x : St) (H : Heap) (locs : List Loc) (pc : Nat) (ls : Array Slot), decode b_Mod_readField pc = .ok (.return_, 1) → post x → Wd dC dI cI cB cJ cZ ad stM kcM 115 A x H → va_S A s.heap H locs → W p l e R s m args below meth c H locs cells slots Q (F0 m pc ls [])) (hs_Mod_readField : ∀ (sz : Nat) (l1 : Int32) (x : St), ∀ (post : St → Prop), self_Mod_readField post l1 x → Met l y_Mod_readField (wsOf y_Mod_readField b_Mod_readField 6 (none)) ({ frames := fd, cells := 0, slots := 0, locals := ld }) (va_Pc [.ref (ad 0), .int l1] (PW dC dI cI cB cJ cZ ad stM kcM 115 sz x)) (va_Qv (fun (y : St) => post y) (fun y t => Wd dC dI cI cB cJ cZ ad stM kcM 115 (va_A (pic ad stM kcM 115 cI cB cJ cZ x) sz) y t.heap) (va_A (pic ad stM kcM 115 cI cB cJ cZ x) sz)) 0 0 (va_A (pic ad stM kcM 115 cI cB cJ cZ x) sz)) (hDf : fd + 1 ≤ R.frames) (hDl : 25 + ld ≤ R.locals)  : ∀ (l1 : Int32) (l2 : Int32) (s0 : Int32) (x : St) (H : Heap) (locs : List Loc) (ls : Array Slot), j_Mod_readField_128 post self_Mod_readField l1 l2 s0 x → Wd dC dI cI cB cJ cZ ad stM kcM 115 A x H → va_S A s.heap H locs → lv_has ls 6 [(0, .ref (ad 0)), (1, .int l1), (2, .int l2)] → W p l e R s m args below meth c H locs cells slots Q (F0 m 128 ls [.int s0]) := by
  intro l1 l2 s0 x H locs ls  hw hW hS hl
  unfold j_Mod_readField_128 at hw
  refine lv_istore_n (lv' := [(3, .int s0), (0, .ref (ad 0)), (1, .int l1), (2, .int l2)]) hx hb d_Mod_readField_128 rfl hl (by decide) rfl (fun ls hl => ?_)
  refine lv_iload_n hx hb d_Mod_readField_129 rfl (lv_at hl 0 rfl) ?_
  refine lv_iconst (v := (-1)) hx hb d_Mod_readField_130 (by decide) ?_
  refine lv_icmp_ne (tgt := 142) hx hb d_Mod_readField_131 (by decide) (fun c129 => ?_) (fun c129 => ?_)
  · have hw := hw.1 c129
    exact t_Mod_readField_142 hx hb hml hown hT hK hN hA hRc hRs hRf hRl hret hs_Mod_readField hDf hDl  l1 l2 s0 x H locs ls  hw hW hS (lv_sub hl [1, 2, 3, 0] rfl)
  · have hw := hw.2 c129
    refine lv_aload_n hx hb d_Mod_readField_134 rfl (lv_at hl 1 rfl) ?_
    refine lv_aload_n hx hb d_Mod_readField_135 rfl (lv_at hl 1 rfl) ?_
    refine w_geti (k := 16) (t := 12) (C := R_Mod) (T := F_Mod) (N := 167) hx hb hT hown hK hW ko_0.1 ko_0.2 (by decide) in_Mod rfl rfl (by decide) rfl fr_Mod_16 w_8_192 d_Mod_readField_136 ?_
    have hF := hW.free hS hA
    refine va_callv (va_runV (C := R_Mod) (As := [.int (fI x 0 16)]) (rest := []) ⟨hx, hb, hml, hown, hT⟩ (k_Mod_fail l dC dI cI cB cJ cZ ad H.size (fI x 0 16) x  hw) ⟨callB_of 1 hT (gwt_in w_11_14) rfl rfl rfl (hT _ w_1_15) (hT _ w_11_11) (by decide +kernel) ⟨Nat.le_trans (Nat.le_of_ble_eq_true rfl) hRf, Nat.le_trans (Nat.le_of_ble_eq_true rfl) hRl⟩, hT _ w_11_13, hT _ ws_115⟩ ⟨PW.blind, va_recv hK hW.1 (ci := 12) (q0 := 0) rfl (pic_obj ko_0.1 ko_0.2 (by decide)), PW.at _ hW hK hN⟩ rfl rfl hl.1 rfl (lv_room (Nat.le_of_ble_eq_true rfl)) d_Mod_readField_139 ⟨hRc, hRs⟩) hS (fun q _ h => hF q h) hF (fun  x130 t H locs ht hvm hw hB hz1 hk1 hS => ?_)
    have hW := Wd.back hB ht hF
    clear hB ht hF hz1 hk1 hvm
    exact t_Mod_readField_142 hx hb hml hown hT hK hN hA hRc hRs hRf hRl hret hs_Mod_readField hDf hDl  l1 l2 s0 x130 H locs ls  hw hW hS (lv_sub hl [1, 2, 3, 0] rfl)
set_option maxRecDepth 100000 in
set_option maxHeartbeats 4000000 in
set_option maxRecDepth 100000 in
theorem t_Mod_readField_57 {p : Program} {l : Launch} {e : Env} {R : Room} {s : State} {m : MethodId} {args : Array Value} {below : List Frame} {meth : Method} {c : Code} {cells slots : Nat} {Q : State → Prop} {dC : Nat → ClassId} {dI : Nat → Nat → Nat} {cI cB cJ cZ : ClassId} {A : Nat → Prop} {ad : Nat → Nat} {post : St → Prop} {self_Mod_readField : (St → Prop) → Int32 → St → Prop} {fd ld : Nat} (hx : p.tables.exec = Jvm.exec) (hb : c.code = b_Mod_readField) (hml : c.maxLocals = 6) (hown : s.vm.findClass R_Mod = some m.cls) (hT : ∀ w ∈ TG, w.before args s = true) (hK : va_K (dC, dI) CL (TY cI cB cJ cZ) s) (hN : NW s) (hA : ∀ q : Nat, s.heap.size ≤ q → A q) (hRc : cells ≤ R.cells) (hRs : slots ≤ R.slots) (hRf : 5 ≤ R.frames) (hRl : 111 ≤ R.locals) (hret : ∀ (x : St) (H : Heap) (locs : List Loc) (pc : Nat) (ls : Array Slot), decode b_Mod_readField pc = .ok (.return_, 1) → post x → Wd dC dI cI cB cJ cZ ad stM kcM 115 A x H → va_S A s.heap H locs → W p l e R s m args below meth c H locs cells slots Q (F0 m pc ls [])) (hs_Mod_readField : ∀ (sz : Nat) (l1 : Int32) (x : St), ∀ (post : St → Prop), self_Mod_readField post l1 x → Met l y_Mod_readField (wsOf y_Mod_readField b_Mod_readField 6 (none)) ({ frames := fd, cells := 0, slots := 0, locals := ld }) (va_Pc [.ref (ad 0), .int l1] (PW dC dI cI cB cJ cZ ad stM kcM 115 sz x)) (va_Qv (fun (y : St) => post y) (fun y t => Wd dC dI cI cB cJ cZ ad stM kcM 115 (va_A (pic ad stM kcM 115 cI cB cJ cZ x) sz) y t.heap) (va_A (pic ad stM kcM 115 cI cB cJ cZ x) sz)) 0 0 (va_A (pic ad stM kcM 115 cI cB cJ cZ x) sz)) (hDf : fd + 1 ≤ R.frames) (hDl : 25 + ld ≤ R.locals)  : ∀ (l1 : Int32) (l2 : Int32) (x : St) (H : Heap) (locs : List Loc) (ls : Array Slot), j_Mod_readField_57 post self_Mod_readField l1 l2 x → Wd dC dI cI cB cJ cZ ad stM kcM 115 A x H → va_S A s.heap H locs → lv_has ls 6 [(0, .ref (ad 0)), (1, .int l1), (2, .int l2)] → W p l e R s m args below meth c H locs cells slots Q (F0 m 57 ls []) := by
  intro l1 l2 x H locs ls  hw hW hS hl
  unfold j_Mod_readField_57 at hw
  refine lv_aload_n hx hb d_Mod_readField_57 rfl (lv_at hl 0 rfl) ?_
  refine lv_ldc2 hx hb hown (hT _ w_11_15) d_Mod_readField_58 ?_
  have hF := hW.free hS hA
  refine va_calli (va_runV (C := R_Mod) (As := [.long 1651470188]) (rest := []) ⟨hx, hb, hml, hown, hT⟩ (k_Mod_takesWord l dC dI cI cB cJ cZ ad H.size 1651470188 x  hw) ⟨callB_of 1 hT (gwt_in w_10_222) rfl rfl rfl (hT _ w_1_15) (hT _ w_10_219) (by decide +kernel) ⟨Nat.le_trans (Nat.le_of_ble_eq_true rfl) hRf, Nat.le_trans (Nat.le_of_ble_eq_true rfl) hRl⟩, hT _ w_10_221, hT _ ws_109⟩ ⟨PW.blind, va_recv hK hW.1 (ci := 12) (q0 := 0) rfl (pic_obj ko_0.1 ko_0.2 (by decide)), PW.at _ hW hK hN⟩ rfl rfl hl.1 rfl (lv_room (Nat.le_of_ble_eq_true rfl)) d_Mod_readField_61 ⟨hRc, hRs⟩) hS (fun q _ h => hF q h) hF (fun r132 x131 t H locs ht hvm hw hB hz1 hk1 hS => ?_)
  have hW := Wd.back hB ht hF
  clear hB ht hF hz1 hk1 hvm
  refine lv_if_eq (tgt := 71) hx hb d_Mod_readField_64 (by decide) (fun c133 => ?_) (fun c133 => ?_)
  · have hw := hw.1 c133
    refine lv_aload_n hx hb d_Mod_readField_71 rfl (lv_at hl 0 rfl) ?_
    refine lv_ldc2 hx hb hown (hT _ w_11_16) d_Mod_readField_72 ?_
    have hF := hW.free hS hA
    refine va_calli (va_runV (C := R_Mod) (As := [.long 6909556]) (rest := []) ⟨hx, hb, hml, hown, hT⟩ (k_Mod_takesWord l dC dI cI cB cJ cZ ad H.size 6909556 x131  hw) ⟨callB_of 1 hT (gwt_in w_10_222) rfl rfl rfl (hT _ w_1_15) (hT _ w_10_219) (by decide +kernel) ⟨Nat.le_trans (Nat.le_of_ble_eq_true rfl) hRf, Nat.le_trans (Nat.le_of_ble_eq_true rfl) hRl⟩, hT _ w_10_221, hT _ ws_109⟩ ⟨PW.blind, va_recv hK hW.1 (ci := 12) (q0 := 0) rfl (pic_obj ko_0.1 ko_0.2 (by decide)), PW.at _ hW hK hN⟩ rfl rfl hl.1 rfl (lv_room (Nat.le_of_ble_eq_true rfl)) d_Mod_readField_75 ⟨hRc, hRs⟩) hS (fun q _ h => hF q h) hF (fun r135 x134 t H locs ht hvm hw hB hz1 hk1 hS => ?_)
    have hW := Wd.back hB ht hF
    clear hB ht hF hz1 hk1 hvm
    refine lv_if_eq (tgt := 85) hx hb d_Mod_readField_78 (by decide) (fun c136 => ?_) (fun c136 => ?_)
    · have hw := hw.1 c136
      refine lv_aload_n hx hb d_Mod_readField_85 rfl (lv_at hl 0 rfl) ?_
      refine lv_ldc2 hx hb hown (hT _ w_11_17) d_Mod_readField_86 ?_
      have hF := hW.free hS hA
      refine va_calli (va_runV (C := R_Mod) (As := [.long 1819242087]) (rest := []) ⟨hx, hb, hml, hown, hT⟩ (k_Mod_takesWord l dC dI cI cB cJ cZ ad H.size 1819242087 x134  hw) ⟨callB_of 1 hT (gwt_in w_10_222) rfl rfl rfl (hT _ w_1_15) (hT _ w_10_219) (by decide +kernel) ⟨Nat.le_trans (Nat.le_of_ble_eq_true rfl) hRf, Nat.le_trans (Nat.le_of_ble_eq_true rfl) hRl⟩, hT _ w_10_221, hT _ ws_109⟩ ⟨PW.blind, va_recv hK hW.1 (ci := 12) (q0 := 0) rfl (pic_obj ko_0.1 ko_0.2 (by decide)), PW.at _ hW hK hN⟩ rfl rfl hl.1 rfl (lv_room (Nat.le_of_ble_eq_true rfl)) d_Mod_readField_89 ⟨hRc, hRs⟩) hS (fun q _ h => hF q h) hF (fun r138 x137 t H locs ht hvm hw hB hz1 hk1 hS => ?_)
      have hW := Wd.back hB ht hF
      clear hB ht hF hz1 hk1 hvm
      refine lv_if_eq (tgt := 99) hx hb d_Mod_readField_92 (by decide) (fun c139 => ?_) (fun c139 => ?_)
      · have hw := hw.1 c139
        refine lv_aload_n hx hb d_Mod_readField_99 rfl (lv_at hl 0 rfl) ?_
        refine lv_ldc2 hx hb hown (hT _ w_11_18) d_Mod_readField_100 ?_
        have hF := hW.free hS hA
        refine va_calli (va_runV (C := R_Mod) (As := [.long 1952807028]) (rest := []) ⟨hx, hb, hml, hown, hT⟩ (k_Mod_takesWord l dC dI cI cB cJ cZ ad H.size 1952807028 x137  hw) ⟨callB_of 1 hT (gwt_in w_10_222) rfl rfl rfl (hT _ w_1_15) (hT _ w_10_219) (by decide +kernel) ⟨Nat.le_trans (Nat.le_of_ble_eq_true rfl) hRf, Nat.le_trans (Nat.le_of_ble_eq_true rfl) hRl⟩, hT _ w_10_221, hT _ ws_109⟩ ⟨PW.blind, va_recv hK hW.1 (ci := 12) (q0 := 0) rfl (pic_obj ko_0.1 ko_0.2 (by decide)), PW.at _ hW hK hN⟩ rfl rfl hl.1 rfl (lv_room (Nat.le_of_ble_eq_true rfl)) d_Mod_readField_103 ⟨hRc, hRs⟩) hS (fun q _ h => hF q h) hF (fun r141 x140 t H locs ht hvm hw hB hz1 hk1 hS => ?_)
        have hW := Wd.back hB ht hF
        clear hB ht hF hz1 hk1 hvm
        refine lv_if_eq (tgt := 113) hx hb d_Mod_readField_106 (by decide) (fun c142 => ?_) (fun c142 => ?_)
        · have hw := hw.1 c142
          refine lv_aload_n hx hb d_Mod_readField_113 rfl (lv_at hl 0 rfl) ?_
          refine lv_ldc2 hx hb hown (hT _ w_11_19) d_Mod_readField_114 ?_
          have hF := hW.free hS hA
          refine va_calli (va_runV (C := R_Mod) (As := [.long 444301538672]) (rest := []) ⟨hx, hb, hml, hown, hT⟩ (k_Mod_takesWord l dC dI cI cB cJ cZ ad H.size 444301538672 x140  hw) ⟨callB_of 1 hT (gwt_in w_10_222) rfl rfl rfl (hT _ w_1_15) (hT _ w_10_219) (by decide +kernel) ⟨Nat.le_trans (Nat.le_of_ble_eq_true rfl) hRf, Nat.le_trans (Nat.le_of_ble_eq_true rfl) hRl⟩, hT _ w_10_221, hT _ ws_109⟩ ⟨PW.blind, va_recv hK hW.1 (ci := 12) (q0 := 0) rfl (pic_obj ko_0.1 ko_0.2 (by decide)), PW.at _ hW hK hN⟩ rfl rfl hl.1 rfl (lv_room (Nat.le_of_ble_eq_true rfl)) d_Mod_readField_117 ⟨hRc, hRs⟩) hS (fun q _ h => hF q h) hF (fun r144 x143 t H locs ht hvm hw hB hz1 hk1 hS => ?_)
          have hW := Wd.back hB ht hF
          clear hB ht hF hz1 hk1 hvm
          refine lv_if_eq (tgt := 127) hx hb d_Mod_readField_120 (by decide) (fun c145 => ?_) (fun c145 => ?_)
          · have hw := hw.1 c145
            refine lv_iconst (v := (-1)) hx hb d_Mod_readField_127 (by decide) ?_
            exact t_Mod_readField_128 hx hb hml hown hT hK hN hA hRc hRs hRf hRl hret hs_Mod_readField hDf hDl  l1 l2 (-1) x143 H locs ls  hw hW hS (lv_sub hl [0, 1, 2] rfl)
          · have hw := hw.2 c145
            refine lv_iconst (v := 4) hx hb d_Mod_readField_123 (by decide) ?_
            refine lv_goto (tgt := 128) hx hb d_Mod_readField_124 (by decide) ?_
            exact t_Mod_readField_128 hx hb hml hown hT hK hN hA hRc hRs hRf hRl hret hs_Mod_readField hDf hDl  l1 l2 4 x143 H locs ls  hw hW hS (lv_sub hl [0, 1, 2] rfl)
        · have hw := hw.2 c142
          refine lv_iconst (v := 3) hx hb d_Mod_readField_109 (by decide) ?_
          refine lv_goto (tgt := 128) hx hb d_Mod_readField_110 (by decide) ?_
          exact t_Mod_readField_128 hx hb hml hown hT hK hN hA hRc hRs hRf hRl hret hs_Mod_readField hDf hDl  l1 l2 3 x140 H locs ls  hw hW hS (lv_sub hl [0, 1, 2] rfl)
      · have hw := hw.2 c139
        refine lv_iconst (v := 2) hx hb d_Mod_readField_95 (by decide) ?_
        refine lv_goto (tgt := 128) hx hb d_Mod_readField_96 (by decide) ?_
        exact t_Mod_readField_128 hx hb hml hown hT hK hN hA hRc hRs hRf hRl hret hs_Mod_readField hDf hDl  l1 l2 2 x137 H locs ls  hw hW hS (lv_sub hl [0, 1, 2] rfl)
    · have hw := hw.2 c136
      refine lv_iconst (v := 1) hx hb d_Mod_readField_81 (by decide) ?_
      refine lv_goto (tgt := 128) hx hb d_Mod_readField_82 (by decide) ?_
      exact t_Mod_readField_128 hx hb hml hown hT hK hN hA hRc hRs hRf hRl hret hs_Mod_readField hDf hDl  l1 l2 1 x134 H locs ls  hw hW hS (lv_sub hl [0, 1, 2] rfl)
  · have hw := hw.2 c133
    refine lv_iconst (v := 0) hx hb d_Mod_readField_67 (by decide) ?_
    refine lv_goto (tgt := 128) hx hb d_Mod_readField_68 (by decide) ?_
    exact t_Mod_readField_128 hx hb hml hown hT hK hN hA hRc hRs hRf hRl hret hs_Mod_readField hDf hDl  l1 l2 0 x131 H locs ls  hw hW hS (lv_sub hl [0, 1, 2] rfl)
set_option maxRecDepth 100000 in
set_option maxHeartbeats 4000000 in
set_option maxRecDepth 100000 in
theorem t_Mod_readField_43 {p : Program} {l : Launch} {e : Env} {R : Room} {s : State} {m : MethodId} {args : Array Value} {below : List Frame} {meth : Method} {c : Code} {cells slots : Nat} {Q : State → Prop} {dC : Nat → ClassId} {dI : Nat → Nat → Nat} {cI cB cJ cZ : ClassId} {A : Nat → Prop} {ad : Nat → Nat} {post : St → Prop} {self_Mod_readField : (St → Prop) → Int32 → St → Prop} {fd ld : Nat} (hx : p.tables.exec = Jvm.exec) (hb : c.code = b_Mod_readField) (hml : c.maxLocals = 6) (hown : s.vm.findClass R_Mod = some m.cls) (hT : ∀ w ∈ TG, w.before args s = true) (hK : va_K (dC, dI) CL (TY cI cB cJ cZ) s) (hN : NW s) (hA : ∀ q : Nat, s.heap.size ≤ q → A q) (hRc : cells ≤ R.cells) (hRs : slots ≤ R.slots) (hRf : 5 ≤ R.frames) (hRl : 111 ≤ R.locals) (hret : ∀ (x : St) (H : Heap) (locs : List Loc) (pc : Nat) (ls : Array Slot), decode b_Mod_readField pc = .ok (.return_, 1) → post x → Wd dC dI cI cB cJ cZ ad stM kcM 115 A x H → va_S A s.heap H locs → W p l e R s m args below meth c H locs cells slots Q (F0 m pc ls [])) (hs_Mod_readField : ∀ (sz : Nat) (l1 : Int32) (x : St), ∀ (post : St → Prop), self_Mod_readField post l1 x → Met l y_Mod_readField (wsOf y_Mod_readField b_Mod_readField 6 (none)) ({ frames := fd, cells := 0, slots := 0, locals := ld }) (va_Pc [.ref (ad 0), .int l1] (PW dC dI cI cB cJ cZ ad stM kcM 115 sz x)) (va_Qv (fun (y : St) => post y) (fun y t => Wd dC dI cI cB cJ cZ ad stM kcM 115 (va_A (pic ad stM kcM 115 cI cB cJ cZ x) sz) y t.heap) (va_A (pic ad stM kcM 115 cI cB cJ cZ x) sz)) 0 0 (va_A (pic ad stM kcM 115 cI cB cJ cZ x) sz)) (hDf : fd + 1 ≤ R.frames) (hDl : 25 + ld ≤ R.locals)  : ∀ (l1 : Int32) (s0 : Int32) (x : St) (H : Heap) (locs : List Loc) (ls : Array Slot), j_Mod_readField_43 post self_Mod_readField l1 s0 x → Wd dC dI cI cB cJ cZ ad stM kcM 115 A x H → va_S A s.heap H locs → lv_has ls 6 [(0, .ref (ad 0)), (1, .int l1)] → W p l e R s m args below meth c H locs cells slots Q (F0 m 43 ls [.int s0]) := by
  intro l1 s0 x H locs ls  hw hW hS hl
  unfold j_Mod_readField_43 at hw
  refine lv_istore_n (lv' := [(2, .int s0), (0, .ref (ad 0)), (1, .int l1)]) hx hb d_Mod_readField_43 rfl hl (by decide) rfl (fun ls hl => ?_)
  refine lv_iload_n hx hb d_Mod_readField_44 rfl (lv_at hl 0 rfl) ?_
  refine lv_iconst (v := (-1)) hx hb d_Mod_readField_45 (by decide) ?_
  refine lv_icmp_ne (tgt := 57) hx hb d_Mod_readField_46 (by decide) (fun c146 => ?_) (fun c146 => ?_)
  · have hw := hw.1 c146
    exact t_Mod_readField_57 hx hb hml hown hT hK hN hA hRc hRs hRf hRl hret hs_Mod_readField hDf hDl  l1 s0 x H locs ls  hw hW hS (lv_sub hl [1, 2, 0] rfl)
  · have hw := hw.2 c146
    refine lv_aload_n hx hb d_Mod_readField_49 rfl (lv_at hl 1 rfl) ?_
    refine lv_aload_n hx hb d_Mod_readField_50 rfl (lv_at hl 1 rfl) ?_
    refine w_geti (k := 16) (t := 12) (C := R_Mod) (T := F_Mod) (N := 167) hx hb hT hown hK hW ko_0.1 ko_0.2 (by decide) in_Mod rfl rfl (by decide) rfl fr_Mod_16 w_8_192 d_Mod_readField_51 ?_
    have hF := hW.free hS hA
    refine va_callv (va_runV (C := R_Mod) (As := [.int (fI x 0 16)]) (rest := []) ⟨hx, hb, hml, hown, hT⟩ (k_Mod_fail l dC dI cI cB cJ cZ ad H.size (fI x 0 16) x  hw) ⟨callB_of 1 hT (gwt_in w_11_14) rfl rfl rfl (hT _ w_1_15) (hT _ w_11_11) (by decide +kernel) ⟨Nat.le_trans (Nat.le_of_ble_eq_true rfl) hRf, Nat.le_trans (Nat.le_of_ble_eq_true rfl) hRl⟩, hT _ w_11_13, hT _ ws_115⟩ ⟨PW.blind, va_recv hK hW.1 (ci := 12) (q0 := 0) rfl (pic_obj ko_0.1 ko_0.2 (by decide)), PW.at _ hW hK hN⟩ rfl rfl hl.1 rfl (lv_room (Nat.le_of_ble_eq_true rfl)) d_Mod_readField_54 ⟨hRc, hRs⟩) hS (fun q _ h => hF q h) hF (fun  x147 t H locs ht hvm hw hB hz1 hk1 hS => ?_)
    have hW := Wd.back hB ht hF
    clear hB ht hF hz1 hk1 hvm
    exact t_Mod_readField_57 hx hb hml hown hT hK hN hA hRc hRs hRf hRl hret hs_Mod_readField hDf hDl  l1 s0 x147 H locs ls  hw hW hS (lv_sub hl [1, 2, 0] rfl)
set_option maxRecDepth 100000 in
set_option maxHeartbeats 4000000 in
set_option maxRecDepth 100000 in
theorem t_Mod_readField_e {p : Program} {l : Launch} {e : Env} {R : Room} {s : State} {m : MethodId} {args : Array Value} {below : List Frame} {meth : Method} {c : Code} {cells slots : Nat} {Q : State → Prop} {dC : Nat → ClassId} {dI : Nat → Nat → Nat} {cI cB cJ cZ : ClassId} {A : Nat → Prop} {ad : Nat → Nat} {post : St → Prop} {self_Mod_readField : (St → Prop) → Int32 → St → Prop} {fd ld : Nat} (hx : p.tables.exec = Jvm.exec) (hb : c.code = b_Mod_readField) (hml : c.maxLocals = 6) (hown : s.vm.findClass R_Mod = some m.cls) (hT : ∀ w ∈ TG, w.before args s = true) (hK : va_K (dC, dI) CL (TY cI cB cJ cZ) s) (hN : NW s) (hA : ∀ q : Nat, s.heap.size ≤ q → A q) (hRc : cells ≤ R.cells) (hRs : slots ≤ R.slots) (hRf : 5 ≤ R.frames) (hRl : 111 ≤ R.locals) (hret : ∀ (x : St) (H : Heap) (locs : List Loc) (pc : Nat) (ls : Array Slot), decode b_Mod_readField pc = .ok (.return_, 1) → post x → Wd dC dI cI cB cJ cZ ad stM kcM 115 A x H → va_S A s.heap H locs → W p l e R s m args below meth c H locs cells slots Q (F0 m pc ls [])) (hs_Mod_readField : ∀ (sz : Nat) (l1 : Int32) (x : St), ∀ (post : St → Prop), self_Mod_readField post l1 x → Met l y_Mod_readField (wsOf y_Mod_readField b_Mod_readField 6 (none)) ({ frames := fd, cells := 0, slots := 0, locals := ld }) (va_Pc [.ref (ad 0), .int l1] (PW dC dI cI cB cJ cZ ad stM kcM 115 sz x)) (va_Qv (fun (y : St) => post y) (fun y t => Wd dC dI cI cB cJ cZ ad stM kcM 115 (va_A (pic ad stM kcM 115 cI cB cJ cZ x) sz) y t.heap) (va_A (pic ad stM kcM 115 cI cB cJ cZ x) sz)) 0 0 (va_A (pic ad stM kcM 115 cI cB cJ cZ x) sz)) (hDf : fd + 1 ≤ R.frames) (hDl : 25 + ld ≤ R.locals) : ∀ (l1 : Int32) (x : St) (H : Heap) (locs : List Loc) (ls : Array Slot), wb_Mod_readField post self_Mod_readField l1 x → Wd dC dI cI cB cJ cZ ad stM kcM 115 A x H → va_S A s.heap H locs → lv_has ls 6 [(0, .ref (ad 0)), (1, .int l1)] → W p l e R s m args below meth c H locs cells slots Q (F0 m 0 ls []) := by
  intro l1 x H locs ls  hw hW hS hl
  unfold wb_Mod_readField at hw
  refine lv_aload_n hx hb d_Mod_readField_0 rfl (lv_at hl 0 rfl) ?_
  refine lv_ldc2 hx hb hown (hT _ w_10_218) d_Mod_readField_1 ?_
  have hF := hW.free hS hA
  refine va_calli (va_runV (C := R_Mod) (As := [.long 8243119442065778020]) (rest := []) ⟨hx, hb, hml, hown, hT⟩ (k_Mod_takesWord l dC dI cI cB cJ cZ ad H.size 8243119442065778020 x  hw) ⟨callB_of 1 hT (gwt_in w_10_222) rfl rfl rfl (hT _ w_1_15) (hT _ w_10_219) (by decide +kernel) ⟨Nat.le_trans (Nat.le_of_ble_eq_true rfl) hRf, Nat.le_trans (Nat.le_of_ble_eq_true rfl) hRl⟩, hT _ w_10_221, hT _ ws_109⟩ ⟨PW.blind, va_recv hK hW.1 (ci := 12) (q0 := 0) rfl (pic_obj ko_0.1 ko_0.2 (by decide)), PW.at _ hW hK hN⟩ rfl rfl hl.1 rfl (lv_room (Nat.le_of_ble_eq_true rfl)) d_Mod_readField_4 ⟨hRc, hRs⟩) hS (fun q _ h => hF q h) hF (fun r149 x148 t H locs ht hvm hw hB hz1 hk1 hS => ?_)
  have hW := Wd.back hB ht hF
  clear hB ht hF hz1 hk1 hvm
  refine lv_if_eq (tgt := 14) hx hb d_Mod_readField_7 (by decide) (fun c150 => ?_) (fun c150 => ?_)
  · have hw := hw.1 c150
    refine lv_aload_n hx hb d_Mod_readField_14 rfl (lv_at hl 0 rfl) ?_
    refine lv_ldc2 hx hb hown (hT _ w_11_9) d_Mod_readField_15 ?_
    have hF := hW.free hS hA
    refine va_calli (va_runV (C := R_Mod) (As := [.long 8030046131791487340]) (rest := []) ⟨hx, hb, hml, hown, hT⟩ (k_Mod_takesWord l dC dI cI cB cJ cZ ad H.size 8030046131791487340 x148  hw) ⟨callB_of 1 hT (gwt_in w_10_222) rfl rfl rfl (hT _ w_1_15) (hT _ w_10_219) (by decide +kernel) ⟨Nat.le_trans (Nat.le_of_ble_eq_true rfl) hRf, Nat.le_trans (Nat.le_of_ble_eq_true rfl) hRl⟩, hT _ w_10_221, hT _ ws_109⟩ ⟨PW.blind, va_recv hK hW.1 (ci := 12) (q0 := 0) rfl (pic_obj ko_0.1 ko_0.2 (by decide)), PW.at _ hW hK hN⟩ rfl rfl hl.1 rfl (lv_room (Nat.le_of_ble_eq_true rfl)) d_Mod_readField_18 ⟨hRc, hRs⟩) hS (fun q _ h => hF q h) hF (fun r152 x151 t H locs ht hvm hw hB hz1 hk1 hS => ?_)
    have hW := Wd.back hB ht hF
    clear hB ht hF hz1 hk1 hvm
    refine lv_if_eq (tgt := 28) hx hb d_Mod_readField_21 (by decide) (fun c153 => ?_) (fun c153 => ?_)
    · have hw := hw.1 c153
      refine lv_aload_n hx hb d_Mod_readField_28 rfl (lv_at hl 0 rfl) ?_
      refine lv_ldc2 hx hb hown (hT _ w_11_10) d_Mod_readField_29 ?_
      have hF := hW.free hS hA
      refine va_calli (va_runV (C := R_Mod) (As := [.long 8243118273700586852]) (rest := []) ⟨hx, hb, hml, hown, hT⟩ (k_Mod_takesWord l dC dI cI cB cJ cZ ad H.size 8243118273700586852 x151  hw) ⟨callB_of 1 hT (gwt_in w_10_222) rfl rfl rfl (hT _ w_1_15) (hT _ w_10_219) (by decide +kernel) ⟨Nat.le_trans (Nat.le_of_ble_eq_true rfl) hRf, Nat.le_trans (Nat.le_of_ble_eq_true rfl) hRl⟩, hT _ w_10_221, hT _ ws_109⟩ ⟨PW.blind, va_recv hK hW.1 (ci := 12) (q0 := 0) rfl (pic_obj ko_0.1 ko_0.2 (by decide)), PW.at _ hW hK hN⟩ rfl rfl hl.1 rfl (lv_room (Nat.le_of_ble_eq_true rfl)) d_Mod_readField_32 ⟨hRc, hRs⟩) hS (fun q _ h => hF q h) hF (fun r155 x154 t H locs ht hvm hw hB hz1 hk1 hS => ?_)
      have hW := Wd.back hB ht hF
      clear hB ht hF hz1 hk1 hvm
      refine lv_if_eq (tgt := 42) hx hb d_Mod_readField_35 (by decide) (fun c156 => ?_) (fun c156 => ?_)
      · have hw := hw.1 c156
        refine lv_iconst (v := (-1)) hx hb d_Mod_readField_42 (by decide) ?_
        exact t_Mod_readField_43 hx hb hml hown hT hK hN hA hRc hRs hRf hRl hret hs_Mod_readField hDf hDl  l1 (-1) x154 H locs ls  hw hW hS (lv_sub hl [0, 1] rfl)
      · have hw := hw.2 c156
        refine lv_iconst (v := 2) hx hb d_Mod_readField_38 (by decide) ?_
        refine lv_goto (tgt := 43) hx hb d_Mod_readField_39 (by decide) ?_
        exact t_Mod_readField_43 hx hb hml hown hT hK hN hA hRc hRs hRf hRl hret hs_Mod_readField hDf hDl  l1 2 x154 H locs ls  hw hW hS (lv_sub hl [0, 1] rfl)
    · have hw := hw.2 c153
      refine lv_iconst (v := 1) hx hb d_Mod_readField_24 (by decide) ?_
      refine lv_goto (tgt := 43) hx hb d_Mod_readField_25 (by decide) ?_
      exact t_Mod_readField_43 hx hb hml hown hT hK hN hA hRc hRs hRf hRl hret hs_Mod_readField hDf hDl  l1 1 x151 H locs ls  hw hW hS (lv_sub hl [0, 1] rfl)
  · have hw := hw.2 c150
    refine lv_iconst (v := 0) hx hb d_Mod_readField_10 (by decide) ?_
    refine lv_goto (tgt := 43) hx hb d_Mod_readField_11 (by decide) ?_
    exact t_Mod_readField_43 hx hb hml hown hT hK hN hA hRc hRs hRf hRl hret hs_Mod_readField hDf hDl  l1 0 x148 H locs ls  hw hW hS (lv_sub hl [0, 1] rfl)
set_option maxHeartbeats 4000000 in
set_option maxRecDepth 100000 in
theorem kr_Mod_readField (l : Launch) (dC : Nat → ClassId) (dI : Nat → Nat → Nat) (cI cB cJ cZ : ClassId) (ad : Nat → Nat) : ∀ d : Nat, (∀ (sz : Nat) (l1 : Int32) (x : St), ∀ (post : St → Prop), (wr_Mod_readField d) post l1 x → Met l y_Mod_readField (wsOf y_Mod_readField b_Mod_readField 6 (none)) ({ frames := 5 + d, cells := 0, slots := 0, locals := 111 + d * 25 }) (va_Pc [.ref (ad 0), .int l1] (PW dC dI cI cB cJ cZ ad stM kcM 115 sz x)) (va_Qv (fun (y : St) => post y) (fun y t => Wd dC dI cI cB cJ cZ ad stM kcM 115 (va_A (pic ad stM kcM 115 cI cB cJ cZ x) sz) y t.heap) (va_A (pic ad stM kcM 115 cI cB cJ cZ x) sz)) 0 0 (va_A (pic ad stM kcM 115 cI cB cJ cZ x) sz)) := by
  intro d
  induction d with
  | zero =>
    exact fun sz l1 x  post hw => hw.elim
  | succ d ih =>
    intro sz l1 x  post hw
    have hw : wb_Mod_readField post (wr_Mod_readField d) l1 x := hw
    refine Met.ofW (cc := b_Mod_readField) (maxL := 6) (ret := none) (by decide) rfl ?_
    intro p e s m args below meth c s₁ B hml hv
    obtain ⟨rfl, hsz, hW0, hK, hN⟩ := hv
    have hx := B.exec
    have hb := B.bytes
    have hr := B.returns
    have hts := atoms_spec B.pre
    have hT : ∀ w ∈ TG, w.before _ s = true := fun w h => hts w (List.mem_cons_of_mem _ h)
    have hown : s.vm.findClass R_Mod = some m.cls := findClass_of_methodNamed B.named
    have hlocks := B.notSynchronized
    subst hsz
    have hW : Wd dC dI cI cB cJ cZ ad stM kcM 115 (va_A (pic ad stM kcM 115 cI cB cJ cZ x) s.heap.size) x s.heap := ⟨hW0.1, hW0.2.1.self (sz := s.heap.size), hW0.2.2⟩
    generalize hAe : va_A (pic ad stM kcM 115 cI cB cJ cZ x) s.heap.size = A at hW ⊢
    have hA : ∀ q : Nat, s.heap.size ≤ q → A q := fun q h => by rw [← hAe]; exact Or.inr h
    have hS : va_S A s.heap s.heap [] := va_S.rf
    have hl := lv_entry ([.ref (ad 0), .int l1]) (n := 6) (Nat.le_of_ble_eq_true rfl)
    rw [lg_entry_eq]
    generalize (lg_sl ([.ref (ad 0), .int l1]) ++ List.replicate (6 - (lg_sl ([.ref (ad 0), .int l1])).length) Slot.unset).toArray = ls at hl ⊢
    have hl : lv_has ls 6 [(0, .ref (ad 0)), (1, .int l1)] := hl
    exact t_Mod_readField_e hx hb hml hown hT hK hN hA (Nat.le_refl 0) (Nat.le_refl 0) (Nat.le_add_right 5 (d + 1)) (Nat.le_add_right 111 ((d + 1) * 25)) (fun x H locs pc ls hd hp hW hS => W.vret hx hb hr (fun t ht hM => ⟨⟨x, rfl, hp, Wd.back hW ht.symm (fun _ z => z)⟩, hS.F ht⟩) hS.2.2 hd hlocks) ih (Nat.le_of_eq (Nat.add_assoc 5 d 1)) (by show 25 + (111 + d * 25) ≤ 111 + (d + 1) * 25; omega) l1 x _ _ ls  hw hW hS hl

theorem k_Mod_readField (l : Launch) (dC : Nat → ClassId) (dI : Nat → Nat → Nat) (cI cB cJ cZ : ClassId) (ad : Nat → Nat) (sz : Nat) (l1 : Int32) (x : St) {post : St → Prop} (hw : wp_Mod_readField post l1 x) : Met l y_Mod_readField (wsOf y_Mod_readField b_Mod_readField 6 (none)) ({ frames := 205, cells := 0, slots := 0, locals := 5111 }) (va_Pc [.ref (ad 0), .int l1] (PW dC dI cI cB cJ cZ ad stM kcM 115 sz x)) (va_Qv (fun (y : St) => post y) (fun y t => Wd dC dI cI cB cJ cZ ad stM kcM 115 (va_A (pic ad stM kcM 115 cI cB cJ cZ x) sz) y t.heap) (va_A (pic ad stM kcM 115 cI cB cJ cZ x) sz)) 0 0 (va_A (pic ad stM kcM 115 cI cB cJ cZ x) sz) := (kr_Mod_readField l dC dI cI cB cJ cZ ad 200) sz l1 x  post hw
set_option maxRecDepth 100000 in
set_option maxHeartbeats 4000000 in
set_option maxRecDepth 100000 in
theorem t_Mod_keepSchema_163 {p : Program} {l : Launch} {e : Env} {R : Room} {s : State} {m : MethodId} {args : Array Value} {below : List Frame} {meth : Method} {c : Code} {cells slots : Nat} {Q : State → Prop} {dC : Nat → ClassId} {dI : Nat → Nat → Nat} {cI cB cJ cZ : ClassId} {A : Nat → Prop} {ad : Nat → Nat} {post : St → Prop} {rec163 : Int32 → Int32 → St → Prop} (hx : p.tables.exec = Jvm.exec) (hb : c.code = b_Mod_keepSchema) (hml : c.maxLocals = 6) (hown : s.vm.findClass R_Mod = some m.cls) (hT : ∀ w ∈ TG, w.before args s = true) (hK : va_K (dC, dI) CL (TY cI cB cJ cZ) s) (hN : NW s) (hA : ∀ q : Nat, s.heap.size ≤ q → A q) (hRc : cells ≤ R.cells) (hRs : slots ≤ R.slots) (hRf : 1 ≤ R.frames) (hRl : 21 ≤ R.locals) (hret : ∀ (x : St) (H : Heap) (locs : List Loc) (pc : Nat) (ls : Array Slot), decode b_Mod_keepSchema pc = .ok (.return_, 1) → post x → Wd dC dI cI cB cJ cZ ad stM kcM 115 A x H → va_S A s.heap H locs → W p l e R s m args below meth c H locs cells slots Q (F0 m pc ls [])) (hrec163 : ∀ (l1 : Int32) (l2 : Int32) (x : St) (H : Heap) (locs : List Loc) (ls : Array Slot), rec163 l1 l2 x → Wd dC dI cI cB cJ cZ ad stM kcM 115 A x H → va_S A s.heap H locs → lv_has ls 6 [(0, .ref (ad 0)), (1, .int l1), (2, .int l2)] → W p l e R s m args below meth c H locs cells slots Q (F0 m 163 ls [])) : ∀ (l1 : Int32) (l2 : Int32) (x : St) (H : Heap) (locs : List Loc) (ls : Array Slot), j_Mod_keepSchema_163 post rec163 l1 l2 x → Wd dC dI cI cB cJ cZ ad stM kcM 115 A x H → va_S A s.heap H locs → lv_has ls 6 [(0, .ref (ad 0)), (1, .int l1), (2, .int l2)] → W p l e R s m args below meth c H locs cells slots Q (F0 m 163 ls []) := by
  intro l1 l2 x H locs ls  hw hW hS hl
  unfold j_Mod_keepSchema_163 at hw
  refine lv_iload_n hx hb d_Mod_keepSchema_163 rfl (lv_at hl 2 rfl) ?_
  refine lv_aload_n hx hb d_Mod_keepSchema_164 rfl (lv_at hl 0 rfl) ?_
  refine w_getf (q := 10) (k := 12) (t := 12) (C := R_Mod) (T := F_Mod) (N := 167) hx hb hT hown hK hW ko_0.1 ko_0.2 (by decide) in_Mod rfl rfl (by decide) rfl fr_Mod_12 w_8_188 d_Mod_keepSchema_165 rfl ?_
  refine lv_iconst (v := 2) hx hb d_Mod_keepSchema_168 (by decide) ?_
  obtain ⟨hi, hw⟩ := hw
  refine w_iald (o := 10) hx hb hK hW ko_10.1 ko_10.2 hi d_Mod_keepSchema_169 ?_
  refine lv_icmp_ge (tgt := 200) hx hb d_Mod_keepSchema_170 (by decide) (fun c157 => ?_) (fun c157 => ?_)
  · have hw := hw.1 c157
    exact hret x H locs 200 ls d_Mod_keepSchema_200 hw hW hS
  · have hw := hw.2 c157
    refine lv_aload_n hx hb d_Mod_keepSchema_173 rfl (lv_at hl 0 rfl) ?_
    refine w_getf (q := 11) (k := 13) (t := 12) (C := R_Mod) (T := F_Mod) (N := 167) hx hb hT hown hK hW ko_0.1 ko_0.2 (by decide) in_Mod rfl rfl (by decide) rfl fr_Mod_13 w_8_189 d_Mod_keepSchema_174 rfl ?_
    refine lv_bipush (v := 64) hx hb d_Mod_keepSchema_177 (by decide) ?_
    refine lv_iload_n hx hb d_Mod_keepSchema_179 rfl (lv_at hl 1 rfl) ?_
    refine lv_imul hx hb d_Mod_keepSchema_180 ?_
    refine lv_iload_n hx hb d_Mod_keepSchema_181 rfl (lv_at hl 2 rfl) ?_
    refine lv_iadd hx hb d_Mod_keepSchema_182 ?_
    refine lv_aload_n hx hb d_Mod_keepSchema_183 rfl (lv_at hl 0 rfl) ?_
    refine w_getf (q := 11) (k := 13) (t := 12) (C := R_Mod) (T := F_Mod) (N := 167) hx hb hT hown hK hW ko_0.1 ko_0.2 (by decide) in_Mod rfl rfl (by decide) rfl fr_Mod_13 w_8_189 d_Mod_keepSchema_184 rfl ?_
    refine lv_sipush (v := 128) hx hb d_Mod_keepSchema_187 (by decide) ?_
    refine lv_iload_n hx hb d_Mod_keepSchema_190 rfl (lv_at hl 2 rfl) ?_
    refine lv_iadd hx hb d_Mod_keepSchema_191 ?_
    obtain ⟨hi, hw⟩ := hw
    refine w_iald (o := 11) hx hb hK hW ko_11.1 ko_11.2 hi d_Mod_keepSchema_192 ?_
    obtain ⟨hi, hw⟩ := hw
    refine w_iast (o := 11) hx hb hK hW hS ko_11.1 ko_11.2 hi d_Mod_keepSchema_193 (fun H locs hW hS => ?_)
    obtain ⟨x158, ex158⟩ : ∃ y : St, y = setA x 11 ((64 * l1) + l2) (rA x 11 (128 + l2)) := ⟨_, rfl⟩
    rw [← ex158] at hW
    have hw := hw x158 ex158
    refine lv_iinc (v := (l2 + 1)) (lv' := [(2, .int (l2 + 1)), (0, .ref (ad 0)), (1, .int l1)]) hx hb d_Mod_keepSchema_194 hl (k := 2) rfl rfl (by decide) rfl (fun ls hl => ?_)
    refine lv_goto (tgt := 163) hx hb d_Mod_keepSchema_197 (by decide) ?_
    exact hrec163 l1 (l2 + 1) x158 H locs ls  hw hW hS (lv_sub hl [1, 2, 0] rfl)
set_option maxHeartbeats 4000000 in
set_option maxRecDepth 100000 in
theorem tl_Mod_keepSchema_163 {p : Program} {l : Launch} {e : Env} {R : Room} {s : State} {m : MethodId} {args : Array Value} {below : List Frame} {meth : Method} {c : Code} {cells slots : Nat} {Q : State → Prop} {dC : Nat → ClassId} {dI : Nat → Nat → Nat} {cI cB cJ cZ : ClassId} {A : Nat → Prop} {ad : Nat → Nat} {post : St → Prop} (hx : p.tables.exec = Jvm.exec) (hb : c.code = b_Mod_keepSchema) (hml : c.maxLocals = 6) (hown : s.vm.findClass R_Mod = some m.cls) (hT : ∀ w ∈ TG, w.before args s = true) (hK : va_K (dC, dI) CL (TY cI cB cJ cZ) s) (hN : NW s) (hA : ∀ q : Nat, s.heap.size ≤ q → A q) (hRc : cells ≤ R.cells) (hRs : slots ≤ R.slots) (hRf : 1 ≤ R.frames) (hRl : 21 ≤ R.locals) (hret : ∀ (x : St) (H : Heap) (locs : List Loc) (pc : Nat) (ls : Array Slot), decode b_Mod_keepSchema pc = .ok (.return_, 1) → post x → Wd dC dI cI cB cJ cZ ad stM kcM 115 A x H → va_S A s.heap H locs → W p l e R s m args below meth c H locs cells slots Q (F0 m pc ls []))  : ∀ n : Nat, ∀ (l1 : Int32) (l2 : Int32) (x : St) (H : Heap) (locs : List Loc) (ls : Array Slot), wl_Mod_keepSchema_163 post n l1 l2 x → Wd dC dI cI cB cJ cZ ad stM kcM 115 A x H → va_S A s.heap H locs → lv_has ls 6 [(0, .ref (ad 0)), (1, .int l1), (2, .int l2)] → W p l e R s m args below meth c H locs cells slots Q (F0 m 163 ls []) := by
  intro n
  induction n with
  | zero => intro l1 l2 x H locs ls  hw; exact hw.elim
  | succ n ih => intro l1 l2 x H locs ls  hw hW hS hl; exact t_Mod_keepSchema_163 hx hb hml hown hT hK hN hA hRc hRs hRf hRl hret  ih l1 l2 x H locs ls  hw hW hS hl
set_option maxRecDepth 100000 in
set_option maxHeartbeats 4000000 in
set_option maxRecDepth 100000 in
theorem t_Mod_keepSchema_117 {p : Program} {l : Launch} {e : Env} {R : Room} {s : State} {m : MethodId} {args : Array Value} {below : List Frame} {meth : Method} {c : Code} {cells slots : Nat} {Q : State → Prop} {dC : Nat → ClassId} {dI : Nat → Nat → Nat} {cI cB cJ cZ : ClassId} {A : Nat → Prop} {ad : Nat → Nat} {post : St → Prop} {rec26 : Int32 → Int32 → St → Prop} {rec117 : Int32 → Int32 → Int32 → Int32 → Int32 → St → Prop} (hx : p.tables.exec = Jvm.exec) (hb : c.code = b_Mod_keepSchema) (hml : c.maxLocals = 6) (hown : s.vm.findClass R_Mod = some m.cls) (hT : ∀ w ∈ TG, w.before args s = true) (hK : va_K (dC, dI) CL (TY cI cB cJ cZ) s) (hN : NW s) (hA : ∀ q : Nat, s.heap.size ≤ q → A q) (hRc : cells ≤ R.cells) (hRs : slots ≤ R.slots) (hRf : 1 ≤ R.frames) (hRl : 21 ≤ R.locals) (hret : ∀ (x : St) (H : Heap) (locs : List Loc) (pc : Nat) (ls : Array Slot), decode b_Mod_keepSchema pc = .ok (.return_, 1) → post x → Wd dC dI cI cB cJ cZ ad stM kcM 115 A x H → va_S A s.heap H locs → W p l e R s m args below meth c H locs cells slots Q (F0 m pc ls [])) (hrec26 : ∀ (l1 : Int32) (l2 : Int32) (x : St) (H : Heap) (locs : List Loc) (ls : Array Slot), rec26 l1 l2 x → Wd dC dI cI cB cJ cZ ad stM kcM 115 A x H → va_S A s.heap H locs → lv_has ls 6 [(0, .ref (ad 0)), (1, .int l1), (2, .int l2)] → W p l e R s m args below meth c H locs cells slots Q (F0 m 26 ls [])) (hrec117 : ∀ (l1 : Int32) (l2 : Int32) (l3 : Int32) (l4 : Int32) (l5 : Int32) (x : St) (H : Heap) (locs : List Loc) (ls : Array Slot), rec117 l1 l2 l3 l4 l5 x → Wd dC dI cI cB cJ cZ ad stM kcM 115 A x H → va_S A s.heap H locs → lv_has ls 6 [(0, .ref (ad 0)), (1, .int l1), (2, .int l2), (3, .int l3), (4, .int l4), (5, .int l5)] → W p l e R s m args below meth c H locs cells slots Q (F0 m 117 ls [])) : ∀ (l1 : Int32) (l2 : Int32) (l3 : Int32) (l4 : Int32) (l5 : Int32) (x : St) (H : Heap) (locs : List Loc) (ls : Array Slot), j_Mod_keepSchema_117 post rec26 rec117 l1 l2 l3 l4 l5 x → Wd dC dI cI cB cJ cZ ad stM kcM 115 A x H → va_S A s.heap H locs → lv_has ls 6 [(0, .ref (ad 0)), (1, .int l1), (2, .int l2), (3, .int l3), (4, .int l4), (5, .int l5)] → W p l e R s m args below meth c H locs cells slots Q (F0 m 117 ls []) := by
  intro l1 l2 l3 l4 l5 x H locs ls  hw hW hS hl
  unfold j_Mod_keepSchema_117 at hw
  refine lv_iload hx hb d_Mod_keepSchema_117 (lv_at hl 5 rfl) ?_
  refine lv_bipush (v := 16) hx hb d_Mod_keepSchema_119 (by decide) ?_
  refine lv_icmp_ge (tgt := 155) hx hb d_Mod_keepSchema_121 (by decide) (fun c159 => ?_) (fun c159 => ?_)
  · have hw := hw.1 c159
    refine lv_iinc (v := (l2 + 1)) (lv' := [(2, .int (l2 + 1)), (0, .ref (ad 0)), (1, .int l1), (3, .int l3), (4, .int l4), (5, .int l5)]) hx hb d_Mod_keepSchema_155 hl (k := 2) rfl rfl (by decide) rfl (fun ls hl => ?_)
    refine lv_goto (tgt := 26) hx hb d_Mod_keepSchema_158 (by decide) ?_
    exact hrec26 l1 (l2 + 1) x H locs ls  hw hW hS (lv_sub hl [1, 2, 0] rfl)
  · have hw := hw.2 c159
    refine lv_aload_n hx hb d_Mod_keepSchema_124 rfl (lv_at hl 0 rfl) ?_
    refine w_getf (q := 8) (k := 10) (t := 12) (C := R_Mod) (T := F_Mod) (N := 167) hx hb hT hown hK hW ko_0.1 ko_0.2 (by decide) in_Mod rfl rfl (by decide) rfl fr_Mod_10 w_8_186 d_Mod_keepSchema_125 rfl ?_
    refine lv_bipush (v := 16) hx hb d_Mod_keepSchema_128 (by decide) ?_
    refine lv_iload hx hb d_Mod_keepSchema_130 (lv_at hl 4 rfl) ?_
    refine lv_imul hx hb d_Mod_keepSchema_132 ?_
    refine lv_iload hx hb d_Mod_keepSchema_133 (lv_at hl 5 rfl) ?_
    refine lv_iadd hx hb d_Mod_keepSchema_135 ?_
    refine lv_aload_n hx hb d_Mod_keepSchema_136 rfl (lv_at hl 0 rfl) ?_
    refine w_getf (q := 8) (k := 10) (t := 12) (C := R_Mod) (T := F_Mod) (N := 167) hx hb hT hown hK hW ko_0.1 ko_0.2 (by decide) in_Mod rfl rfl (by decide) rfl fr_Mod_10 w_8_186 d_Mod_keepSchema_137 rfl ?_
    refine lv_bipush (v := 16) hx hb d_Mod_keepSchema_140 (by decide) ?_
    refine lv_iload_n hx hb d_Mod_keepSchema_142 rfl (lv_at hl 3 rfl) ?_
    refine lv_imul hx hb d_Mod_keepSchema_143 ?_
    refine lv_iload hx hb d_Mod_keepSchema_144 (lv_at hl 5 rfl) ?_
    refine lv_iadd hx hb d_Mod_keepSchema_146 ?_
    obtain ⟨hi, hw⟩ := hw
    refine w_iald (o := 8) hx hb hK hW ko_8.1 ko_8.2 hi d_Mod_keepSchema_147 ?_
    obtain ⟨hi, hw⟩ := hw
    refine w_iast (o := 8) hx hb hK hW hS ko_8.1 ko_8.2 hi d_Mod_keepSchema_148 (fun H locs hW hS => ?_)
    obtain ⟨x160, ex160⟩ : ∃ y : St, y = setA x 8 ((16 * l4) + l5) (rA x 8 ((16 * l3) + l5)) := ⟨_, rfl⟩
    rw [← ex160] at hW
    have hw := hw x160 ex160
    refine lv_iinc (v := (l5 + 1)) (lv' := [(5, .int (l5 + 1)), (0, .ref (ad 0)), (1, .int l1), (2, .int l2), (3, .int l3), (4, .int l4)]) hx hb d_Mod_keepSchema_149 hl (k := 5) rfl rfl (by decide) rfl (fun ls hl => ?_)
    refine lv_goto (tgt := 117) hx hb d_Mod_keepSchema_152 (by decide) ?_
    exact hrec117 l1 l2 l3 l4 (l5 + 1) x160 H locs ls  hw hW hS (lv_sub hl [1, 2, 3, 4, 5, 0] rfl)
set_option maxHeartbeats 4000000 in
set_option maxRecDepth 100000 in
theorem tl_Mod_keepSchema_117 {p : Program} {l : Launch} {e : Env} {R : Room} {s : State} {m : MethodId} {args : Array Value} {below : List Frame} {meth : Method} {c : Code} {cells slots : Nat} {Q : State → Prop} {dC : Nat → ClassId} {dI : Nat → Nat → Nat} {cI cB cJ cZ : ClassId} {A : Nat → Prop} {ad : Nat → Nat} {post : St → Prop} {rec26 : Int32 → Int32 → St → Prop} (hx : p.tables.exec = Jvm.exec) (hb : c.code = b_Mod_keepSchema) (hml : c.maxLocals = 6) (hown : s.vm.findClass R_Mod = some m.cls) (hT : ∀ w ∈ TG, w.before args s = true) (hK : va_K (dC, dI) CL (TY cI cB cJ cZ) s) (hN : NW s) (hA : ∀ q : Nat, s.heap.size ≤ q → A q) (hRc : cells ≤ R.cells) (hRs : slots ≤ R.slots) (hRf : 1 ≤ R.frames) (hRl : 21 ≤ R.locals) (hret : ∀ (x : St) (H : Heap) (locs : List Loc) (pc : Nat) (ls : Array Slot), decode b_Mod_keepSchema pc = .ok (.return_, 1) → post x → Wd dC dI cI cB cJ cZ ad stM kcM 115 A x H → va_S A s.heap H locs → W p l e R s m args below meth c H locs cells slots Q (F0 m pc ls [])) (hrec26 : ∀ (l1 : Int32) (l2 : Int32) (x : St) (H : Heap) (locs : List Loc) (ls : Array Slot), rec26 l1 l2 x → Wd dC dI cI cB cJ cZ ad stM kcM 115 A x H → va_S A s.heap H locs → lv_has ls 6 [(0, .ref (ad 0)), (1, .int l1), (2, .int l2)] → W p l e R s m args below meth c H locs cells slots Q (F0 m 26 ls [])) : ∀ n : Nat, ∀ (l1 : Int32) (l2 : Int32) (l3 : Int32) (l4 : Int32) (l5 : Int32) (x : St) (H : Heap) (locs : List Loc) (ls : Array Slot), wl_Mod_keepSchema_117 post rec26 n l1 l2 l3 l4 l5 x → Wd dC dI cI cB cJ cZ ad stM kcM 115 A x H → va_S A s.heap H locs → lv_has ls 6 [(0, .ref (ad 0)), (1, .int l1), (2, .int l2), (3, .int l3), (4, .int l4), (5, .int l5)] → W p l e R s m args below meth c H locs cells slots Q (F0 m 117 ls []) := by
  intro n
  induction n with
  | zero => intro l1 l2 l3 l4 l5 x H locs ls  hw; exact hw.elim
  | succ n ih => intro l1 l2 l3 l4 l5 x H locs ls  hw hW hS hl; exact t_Mod_keepSchema_117 hx hb hml hown hT hK hN hA hRc hRs hRf hRl hret hrec26 ih l1 l2 l3 l4 l5 x H locs ls  hw hW hS hl
set_option maxRecDepth 100000 in
set_option maxHeartbeats 4000000 in
set_option maxRecDepth 100000 in
theorem t_Mod_keepSchema_26 {p : Program} {l : Launch} {e : Env} {R : Room} {s : State} {m : MethodId} {args : Array Value} {below : List Frame} {meth : Method} {c : Code} {cells slots : Nat} {Q : State → Prop} {dC : Nat → ClassId} {dI : Nat → Nat → Nat} {cI cB cJ cZ : ClassId} {A : Nat → Prop} {ad : Nat → Nat} {post : St → Prop} {rec26 : Int32 → Int32 → St → Prop} (hx : p.tables.exec = Jvm.exec) (hb : c.code = b_Mod_keepSchema) (hml : c.maxLocals = 6) (hown : s.vm.findClass R_Mod = some m.cls) (hT : ∀ w ∈ TG, w.before args s = true) (hK : va_K (dC, dI) CL (TY cI cB cJ cZ) s) (hN : NW s) (hA : ∀ q : Nat, s.heap.size ≤ q → A q) (hRc : cells ≤ R.cells) (hRs : slots ≤ R.slots) (hRf : 1 ≤ R.frames) (hRl : 21 ≤ R.locals) (hret : ∀ (x : St) (H : Heap) (locs : List Loc) (pc : Nat) (ls : Array Slot), decode b_Mod_keepSchema pc = .ok (.return_, 1) → post x → Wd dC dI cI cB cJ cZ ad stM kcM 115 A x H → va_S A s.heap H locs → W p l e R s m args below meth c H locs cells slots Q (F0 m pc ls [])) (hrec26 : ∀ (l1 : Int32) (l2 : Int32) (x : St) (H : Heap) (locs : List Loc) (ls : Array Slot), rec26 l1 l2 x → Wd dC dI cI cB cJ cZ ad stM kcM 115 A x H → va_S A s.heap H locs → lv_has ls 6 [(0, .ref (ad 0)), (1, .int l1), (2, .int l2)] → W p l e R s m args below meth c H locs cells slots Q (F0 m 26 ls [])) : ∀ (l1 : Int32) (l2 : Int32) (x : St) (H : Heap) (locs : List Loc) (ls : Array Slot), j_Mod_keepSchema_26 post rec26 l1 l2 x → Wd dC dI cI cB cJ cZ ad stM kcM 115 A x H → va_S A s.heap H locs → lv_has ls 6 [(0, .ref (ad 0)), (1, .int l1), (2, .int l2)] → W p l e R s m args below meth c H locs cells slots Q (F0 m 26 ls []) := by
  intro l1 l2 x H locs ls  hw hW hS hl
  unfold j_Mod_keepSchema_26 at hw
  refine lv_iload_n hx hb d_Mod_keepSchema_26 rfl (lv_at hl 2 rfl) ?_
  refine lv_aload_n hx hb d_Mod_keepSchema_27 rfl (lv_at hl 0 rfl) ?_
  refine w_getf (q := 9) (k := 11) (t := 12) (C := R_Mod) (T := F_Mod) (N := 167) hx hb hT hown hK hW ko_0.1 ko_0.2 (by decide) in_Mod rfl rfl (by decide) rfl fr_Mod_11 w_8_187 d_Mod_keepSchema_28 rfl ?_
  refine lv_iconst (v := 2) hx hb d_Mod_keepSchema_31 (by decide) ?_
  obtain ⟨hi, hw⟩ := hw
  refine w_iald (o := 9) hx hb hK hW ko_9.1 ko_9.2 hi d_Mod_keepSchema_32 ?_
  refine lv_icmp_ge (tgt := 161) hx hb d_Mod_keepSchema_33 (by decide) (fun c161 => ?_) (fun c161 => ?_)
  · have hw := hw.1 c161
    refine lv_iconst (v := 0) hx hb d_Mod_keepSchema_161 (by decide) ?_
    refine lv_istore_n (lv' := [(2, .int 0), (0, .ref (ad 0)), (1, .int l1)]) hx hb d_Mod_keepSchema_162 rfl hl (by decide) rfl (fun ls hl => ?_)
    obtain ⟨n, hw⟩ := hw
    exact tl_Mod_keepSchema_163 hx hb hml hown hT hK hN hA hRc hRs hRf hRl hret  n l1 0 x H locs ls  hw hW hS (lv_sub hl [1, 2, 0] rfl)
  · have hw := hw.2 c161
    refine lv_iconst (v := 2) hx hb d_Mod_keepSchema_36 (by decide) ?_
    refine lv_iload_n hx hb d_Mod_keepSchema_37 rfl (lv_at hl 2 rfl) ?_
    have hF := hW.free hS hA
    refine va_calli (va_runS (As := [.int 2, .int l2]) (rest := []) ⟨hx, hb, hml, hown, hT⟩ (k_Mod_place l dC dI cI cB cJ cZ ad H.size 2 l2 x  hw) ⟨callB_of 2 hT (gwt_in w_11_30) rfl rfl rfl (hT _ w_1_15) (hT _ w_11_28) (by decide +kernel) ⟨Nat.le_trans (Nat.le_of_ble_eq_true rfl) hRf, Nat.le_trans (Nat.le_of_ble_eq_true rfl) hRl⟩, hT _ w_11_29⟩ ⟨PW.blind, PW.at _ hW hK hN⟩ rfl rfl hl.1 rfl (lv_room (Nat.le_of_ble_eq_true rfl)) d_Mod_keepSchema_38 ⟨hRc, hRs⟩) hS (fun q _ h => hF q h) hF (fun r163 x162 t H locs ht hvm hw hB hz1 hk1 hS => ?_)
    have hW := Wd.back hB ht hF
    clear hB ht hF hz1 hk1 hvm
    refine lv_istore_n (lv' := [(3, .int r163), (0, .ref (ad 0)), (1, .int l1), (2, .int l2)]) hx hb d_Mod_keepSchema_41 rfl hl (by decide) rfl (fun ls hl => ?_)
    refine lv_iload_n hx hb d_Mod_keepSchema_42 rfl (lv_at hl 2 rfl) ?_
    refine lv_iload_n hx hb d_Mod_keepSchema_43 rfl (lv_at hl 3 rfl) ?_
    have hF := hW.free hS hA
    refine va_calli (va_runS (As := [.int l1, .int l2]) (rest := []) ⟨hx, hb, hml, hown, hT⟩ (k_Mod_place l dC dI cI cB cJ cZ ad H.size l1 l2 x162  hw) ⟨callB_of 2 hT (gwt_in w_11_30) rfl rfl rfl (hT _ w_1_15) (hT _ w_11_28) (by decide +kernel) ⟨Nat.le_trans (Nat.le_of_ble_eq_true rfl) hRf, Nat.le_trans (Nat.le_of_ble_eq_true rfl) hRl⟩, hT _ w_11_29⟩ ⟨PW.blind, PW.at _ hW hK hN⟩ rfl rfl hl.1 rfl (lv_room (Nat.le_of_ble_eq_true rfl)) d_Mod_keepSchema_44 ⟨hRc, hRs⟩) hS (fun q _ h => hF q h) hF (fun r165 x164 t H locs ht hvm hw hB hz1 hk1 hS => ?_)
    have hW := Wd.back hB ht hF
    clear hB ht hF hz1 hk1 hvm
    refine lv_istore (lv' := [(4, .int r165), (3, .int r163), (0, .ref (ad 0)), (1, .int l1), (2, .int l2)]) hx hb d_Mod_keepSchema_47 hl (by decide) rfl (fun ls hl => ?_)
    refine lv_aload_n hx hb d_Mod_keepSchema_49 rfl (lv_at hl 2 rfl) ?_
    refine w_getf (q := 3) (k := 5) (t := 12) (C := R_Mod) (T := F_Mod) (N := 167) hx hb hT hown hK hW ko_0.1 ko_0.2 (by decide) in_Mod rfl rfl (by decide) rfl fr_Mod_5 w_8_181 d_Mod_keepSchema_50 rfl ?_
    refine lv_iload hx hb d_Mod_keepSchema_53 (lv_at hl 0 rfl) ?_
    refine lv_aload_n hx hb d_Mod_keepSchema_55 rfl (lv_at hl 2 rfl) ?_
    refine w_getf (q := 3) (k := 5) (t := 12) (C := R_Mod) (T := F_Mod) (N := 167) hx hb hT hown hK hW ko_0.1 ko_0.2 (by decide) in_Mod rfl rfl (by decide) rfl fr_Mod_5 w_8_181 d_Mod_keepSchema_56 rfl ?_
    refine lv_iload_n hx hb d_Mod_keepSchema_59 rfl (lv_at hl 1 rfl) ?_
    obtain ⟨hi, hw⟩ := hw
    refine w_iald (o := 3) hx hb hK hW ko_3.1 ko_3.2 hi d_Mod_keepSchema_60 ?_
    obtain ⟨hi, hw⟩ := hw
    refine w_iast (o := 3) hx hb hK hW hS ko_3.1 ko_3.2 hi d_Mod_keepSchema_61 (fun H locs hW hS => ?_)
    obtain ⟨x166, ex166⟩ : ∃ y : St, y = setA x164 3 r165 (rA x164 3 r163) := ⟨_, rfl⟩
    rw [← ex166] at hW
    have hw := hw x166 ex166
    refine lv_aload_n hx hb d_Mod_keepSchema_62 rfl (lv_at hl 2 rfl) ?_
    refine w_getf (q := 4) (k := 6) (t := 12) (C := R_Mod) (T := F_Mod) (N := 167) hx hb hT hown hK hW ko_0.1 ko_0.2 (by decide) in_Mod rfl rfl (by decide) rfl fr_Mod_6 w_8_182 d_Mod_keepSchema_63 rfl ?_
    refine lv_iload hx hb d_Mod_keepSchema_66 (lv_at hl 0 rfl) ?_
    refine lv_aload_n hx hb d_Mod_keepSchema_68 rfl (lv_at hl 2 rfl) ?_
    refine w_getf (q := 4) (k := 6) (t := 12) (C := R_Mod) (T := F_Mod) (N := 167) hx hb hT hown hK hW ko_0.1 ko_0.2 (by decide) in_Mod rfl rfl (by decide) rfl fr_Mod_6 w_8_182 d_Mod_keepSchema_69 rfl ?_
    refine lv_iload_n hx hb d_Mod_keepSchema_72 rfl (lv_at hl 1 rfl) ?_
    obtain ⟨hi, hw⟩ := hw
    refine w_iald (o := 4) hx hb hK hW ko_4.1 ko_4.2 hi d_Mod_keepSchema_73 ?_
    obtain ⟨hi, hw⟩ := hw
    refine w_iast (o := 4) hx hb hK hW hS ko_4.1 ko_4.2 hi d_Mod_keepSchema_74 (fun H locs hW hS => ?_)
    obtain ⟨x167, ex167⟩ : ∃ y : St, y = setA x166 4 r165 (rA x166 4 r163) := ⟨_, rfl⟩
    rw [← ex167] at hW
    have hw := hw x167 ex167
    refine lv_aload_n hx hb d_Mod_keepSchema_75 rfl (lv_at hl 2 rfl) ?_
    refine w_getf (q := 5) (k := 7) (t := 12) (C := R_Mod) (T := F_Mod) (N := 167) hx hb hT hown hK hW ko_0.1 ko_0.2 (by decide) in_Mod rfl rfl (by decide) rfl fr_Mod_7 w_8_183 d_Mod_keepSchema_76 rfl ?_
    refine lv_iload hx hb d_Mod_keepSchema_79 (lv_at hl 0 rfl) ?_
    refine lv_aload_n hx hb d_Mod_keepSchema_81 rfl (lv_at hl 2 rfl) ?_
    refine w_getf (q := 5) (k := 7) (t := 12) (C := R_Mod) (T := F_Mod) (N := 167) hx hb hT hown hK hW ko_0.1 ko_0.2 (by decide) in_Mod rfl rfl (by decide) rfl fr_Mod_7 w_8_183 d_Mod_keepSchema_82 rfl ?_
    refine lv_iload_n hx hb d_Mod_keepSchema_85 rfl (lv_at hl 1 rfl) ?_
    obtain ⟨hi, hw⟩ := hw
    refine w_iald (o := 5) hx hb hK hW ko_5.1 ko_5.2 hi d_Mod_keepSchema_86 ?_
    obtain ⟨hi, hw⟩ := hw
    refine w_iast (o := 5) hx hb hK hW hS ko_5.1 ko_5.2 hi d_Mod_keepSchema_87 (fun H locs hW hS => ?_)
    obtain ⟨x168, ex168⟩ : ∃ y : St, y = setA x167 5 r165 (rA x167 5 r163) := ⟨_, rfl⟩
    rw [← ex168] at hW
    have hw := hw x168 ex168
    refine lv_aload_n hx hb d_Mod_keepSchema_88 rfl (lv_at hl 2 rfl) ?_
    refine w_getf (q := 7) (k := 9) (t := 12) (C := R_Mod) (T := F_Mod) (N := 167) hx hb hT hown hK hW ko_0.1 ko_0.2 (by decide) in_Mod rfl rfl (by decide) rfl fr_Mod_9 w_8_185 d_Mod_keepSchema_89 rfl ?_
    refine lv_iload hx hb d_Mod_keepSchema_92 (lv_at hl 0 rfl) ?_
    refine lv_aload_n hx hb d_Mod_keepSchema_94 rfl (lv_at hl 2 rfl) ?_
    refine w_getf (q := 7) (k := 9) (t := 12) (C := R_Mod) (T := F_Mod) (N := 167) hx hb hT hown hK hW ko_0.1 ko_0.2 (by decide) in_Mod rfl rfl (by decide) rfl fr_Mod_9 w_8_185 d_Mod_keepSchema_95 rfl ?_
    refine lv_iload_n hx hb d_Mod_keepSchema_98 rfl (lv_at hl 1 rfl) ?_
    obtain ⟨hi, hw⟩ := hw
    refine w_iald (o := 7) hx hb hK hW ko_7.1 ko_7.2 hi d_Mod_keepSchema_99 ?_
    obtain ⟨hi, hw⟩ := hw
    refine w_iast (o := 7) hx hb hK hW hS ko_7.1 ko_7.2 hi d_Mod_keepSchema_100 (fun H locs hW hS => ?_)
    obtain ⟨x169, ex169⟩ : ∃ y : St, y = setA x168 7 r165 (rA x168 7 r163) := ⟨_, rfl⟩
    rw [← ex169] at hW
    have hw := hw x169 ex169
    refine lv_aload_n hx hb d_Mod_keepSchema_101 rfl (lv_at hl 2 rfl) ?_
    refine w_getf (q := 6) (k := 8) (t := 12) (C := R_Mod) (T := F_Mod) (N := 167) hx hb hT hown hK hW ko_0.1 ko_0.2 (by decide) in_Mod rfl rfl (by decide) rfl fr_Mod_8 w_8_184 d_Mod_keepSchema_102 rfl ?_
    refine lv_iload hx hb d_Mod_keepSchema_105 (lv_at hl 0 rfl) ?_
    refine lv_aload_n hx hb d_Mod_keepSchema_107 rfl (lv_at hl 2 rfl) ?_
    refine w_getf (q := 6) (k := 8) (t := 12) (C := R_Mod) (T := F_Mod) (N := 167) hx hb hT hown hK hW ko_0.1 ko_0.2 (by decide) in_Mod rfl rfl (by decide) rfl fr_Mod_8 w_8_184 d_Mod_keepSchema_108 rfl ?_
    refine lv_iload_n hx hb d_Mod_keepSchema_111 rfl (lv_at hl 1 rfl) ?_
    obtain ⟨hi, hw⟩ := hw
    refine w_iald (o := 6) hx hb hK hW ko_6.1 ko_6.2 hi d_Mod_keepSchema_112 ?_
    obtain ⟨hi, hw⟩ := hw
    refine w_iast (o := 6) hx hb hK hW hS ko_6.1 ko_6.2 hi d_Mod_keepSchema_113 (fun H locs hW hS => ?_)
    obtain ⟨x170, ex170⟩ : ∃ y : St, y = setA x169 6 r165 (rA x169 6 r163) := ⟨_, rfl⟩
    rw [← ex170] at hW
    have hw := hw x170 ex170
    refine lv_iconst (v := 0) hx hb d_Mod_keepSchema_114 (by decide) ?_
    refine lv_istore (lv' := [(5, .int 0), (4, .int r165), (3, .int r163), (0, .ref (ad 0)), (1, .int l1), (2, .int l2)]) hx hb d_Mod_keepSchema_115 hl (by decide) rfl (fun ls hl => ?_)
    obtain ⟨n, hw⟩ := hw
    exact tl_Mod_keepSchema_117 hx hb hml hown hT hK hN hA hRc hRs hRf hRl hret hrec26 n l1 l2 r163 r165 0 x170 H locs ls  hw hW hS (lv_sub hl [3, 4, 5, 2, 1, 0] rfl)
set_option maxHeartbeats 4000000 in
set_option maxRecDepth 100000 in
theorem tl_Mod_keepSchema_26 {p : Program} {l : Launch} {e : Env} {R : Room} {s : State} {m : MethodId} {args : Array Value} {below : List Frame} {meth : Method} {c : Code} {cells slots : Nat} {Q : State → Prop} {dC : Nat → ClassId} {dI : Nat → Nat → Nat} {cI cB cJ cZ : ClassId} {A : Nat → Prop} {ad : Nat → Nat} {post : St → Prop} (hx : p.tables.exec = Jvm.exec) (hb : c.code = b_Mod_keepSchema) (hml : c.maxLocals = 6) (hown : s.vm.findClass R_Mod = some m.cls) (hT : ∀ w ∈ TG, w.before args s = true) (hK : va_K (dC, dI) CL (TY cI cB cJ cZ) s) (hN : NW s) (hA : ∀ q : Nat, s.heap.size ≤ q → A q) (hRc : cells ≤ R.cells) (hRs : slots ≤ R.slots) (hRf : 1 ≤ R.frames) (hRl : 21 ≤ R.locals) (hret : ∀ (x : St) (H : Heap) (locs : List Loc) (pc : Nat) (ls : Array Slot), decode b_Mod_keepSchema pc = .ok (.return_, 1) → post x → Wd dC dI cI cB cJ cZ ad stM kcM 115 A x H → va_S A s.heap H locs → W p l e R s m args below meth c H locs cells slots Q (F0 m pc ls []))  : ∀ n : Nat, ∀ (l1 : Int32) (l2 : Int32) (x : St) (H : Heap) (locs : List Loc) (ls : Array Slot), wl_Mod_keepSchema_26 post n l1 l2 x → Wd dC dI cI cB cJ cZ ad stM kcM 115 A x H → va_S A s.heap H locs → lv_has ls 6 [(0, .ref (ad 0)), (1, .int l1), (2, .int l2)] → W p l e R s m args below meth c H locs cells slots Q (F0 m 26 ls []) := by
  intro n
  induction n with
  | zero => intro l1 l2 x H locs ls  hw; exact hw.elim
  | succ n ih => intro l1 l2 x H locs ls  hw hW hS hl; exact t_Mod_keepSchema_26 hx hb hml hown hT hK hN hA hRc hRs hRf hRl hret  ih l1 l2 x H locs ls  hw hW hS hl
set_option maxRecDepth 100000 in
set_option maxHeartbeats 4000000 in
set_option maxRecDepth 100000 in
theorem t_Mod_keepSchema_e {p : Program} {l : Launch} {e : Env} {R : Room} {s : State} {m : MethodId} {args : Array Value} {below : List Frame} {meth : Method} {c : Code} {cells slots : Nat} {Q : State → Prop} {dC : Nat → ClassId} {dI : Nat → Nat → Nat} {cI cB cJ cZ : ClassId} {A : Nat → Prop} {ad : Nat → Nat} {post : St → Prop} (hx : p.tables.exec = Jvm.exec) (hb : c.code = b_Mod_keepSchema) (hml : c.maxLocals = 6) (hown : s.vm.findClass R_Mod = some m.cls) (hT : ∀ w ∈ TG, w.before args s = true) (hK : va_K (dC, dI) CL (TY cI cB cJ cZ) s) (hN : NW s) (hA : ∀ q : Nat, s.heap.size ≤ q → A q) (hRc : cells ≤ R.cells) (hRs : slots ≤ R.slots) (hRf : 1 ≤ R.frames) (hRl : 21 ≤ R.locals) (hret : ∀ (x : St) (H : Heap) (locs : List Loc) (pc : Nat) (ls : Array Slot), decode b_Mod_keepSchema pc = .ok (.return_, 1) → post x → Wd dC dI cI cB cJ cZ ad stM kcM 115 A x H → va_S A s.heap H locs → W p l e R s m args below meth c H locs cells slots Q (F0 m pc ls [])) : ∀ (l1 : Int32) (x : St) (H : Heap) (locs : List Loc) (ls : Array Slot), wp_Mod_keepSchema post l1 x → Wd dC dI cI cB cJ cZ ad stM kcM 115 A x H → va_S A s.heap H locs → lv_has ls 6 [(0, .ref (ad 0)), (1, .int l1)] → W p l e R s m args below meth c H locs cells slots Q (F0 m 0 ls []) := by
  intro l1 x H locs ls  hw hW hS hl
  unfold wp_Mod_keepSchema at hw
  refine lv_aload_n hx hb d_Mod_keepSchema_0 rfl (lv_at hl 0 rfl) ?_
  refine w_getf (q := 9) (k := 11) (t := 12) (C := R_Mod) (T := F_Mod) (N := 167) hx hb hT hown hK hW ko_0.1 ko_0.2 (by decide) in_Mod rfl rfl (by decide) rfl fr_Mod_11 w_8_187 d_Mod_keepSchema_1 rfl ?_
  refine lv_iload_n hx hb d_Mod_keepSchema_4 rfl (lv_at hl 1 rfl) ?_
  refine lv_aload_n hx hb d_Mod_keepSchema_5 rfl (lv_at hl 0 rfl) ?_
  refine w_getf (q := 9) (k := 11) (t := 12) (C := R_Mod) (T := F_Mod) (N := 167) hx hb hT hown hK hW ko_0.1 ko_0.2 (by decide) in_Mod rfl rfl (by decide) rfl fr_Mod_11 w_8_187 d_Mod_keepSchema_6 rfl ?_
  refine lv_iconst (v := 2) hx hb d_Mod_keepSchema_9 (by decide) ?_
  obtain ⟨hi, hw⟩ := hw
  refine w_iald (o := 9) hx hb hK hW ko_9.1 ko_9.2 hi d_Mod_keepSchema_10 ?_
  obtain ⟨hi, hw⟩ := hw
  refine w_iast (o := 9) hx hb hK hW hS ko_9.1 ko_9.2 hi d_Mod_keepSchema_11 (fun H locs hW hS => ?_)
  obtain ⟨x171, ex171⟩ : ∃ y : St, y = setA x 9 l1 (rA x 9 2) := ⟨_, rfl⟩
  rw [← ex171] at hW
  have hw := hw x171 ex171
  refine lv_aload_n hx hb d_Mod_keepSchema_12 rfl (lv_at hl 0 rfl) ?_
  refine w_getf (q := 10) (k := 12) (t := 12) (C := R_Mod) (T := F_Mod) (N := 167) hx hb hT hown hK hW ko_0.1 ko_0.2 (by decide) in_Mod rfl rfl (by decide) rfl fr_Mod_12 w_8_188 d_Mod_keepSchema_13 rfl ?_
  refine lv_iload_n hx hb d_Mod_keepSchema_16 rfl (lv_at hl 1 rfl) ?_
  refine lv_aload_n hx hb d_Mod_keepSchema_17 rfl (lv_at hl 0 rfl) ?_
  refine w_getf (q := 10) (k := 12) (t := 12) (C := R_Mod) (T := F_Mod) (N := 167) hx hb hT hown hK hW ko_0.1 ko_0.2 (by decide) in_Mod rfl rfl (by decide) rfl fr_Mod_12 w_8_188 d_Mod_keepSchema_18 rfl ?_
  refine lv_iconst (v := 2) hx hb d_Mod_keepSchema_21 (by decide) ?_
  obtain ⟨hi, hw⟩ := hw
  refine w_iald (o := 10) hx hb hK hW ko_10.1 ko_10.2 hi d_Mod_keepSchema_22 ?_
  obtain ⟨hi, hw⟩ := hw
  refine w_iast (o := 10) hx hb hK hW hS ko_10.1 ko_10.2 hi d_Mod_keepSchema_23 (fun H locs hW hS => ?_)
  obtain ⟨x172, ex172⟩ : ∃ y : St, y = setA x171 10 l1 (rA x171 10 2) := ⟨_, rfl⟩
  rw [← ex172] at hW
  have hw := hw x172 ex172
  refine lv_iconst (v := 0) hx hb d_Mod_keepSchema_24 (by decide) ?_
  refine lv_istore_n (lv' := [(2, .int 0), (0, .ref (ad 0)), (1, .int l1)]) hx hb d_Mod_keepSchema_25 rfl hl (by decide) rfl (fun ls hl => ?_)
  obtain ⟨n, hw⟩ := hw
  exact tl_Mod_keepSchema_26 hx hb hml hown hT hK hN hA hRc hRs hRf hRl hret  n l1 0 x172 H locs ls  hw hW hS (lv_sub hl [1, 2, 0] rfl)
set_option maxHeartbeats 4000000 in
set_option maxRecDepth 100000 in
theorem k_Mod_keepSchema (l : Launch) (dC : Nat → ClassId) (dI : Nat → Nat → Nat) (cI cB cJ cZ : ClassId) (ad : Nat → Nat) (sz : Nat) (l1 : Int32) (x : St) {post : St → Prop} (hw : wp_Mod_keepSchema post l1 x) : Met l y_Mod_keepSchema (wsOf y_Mod_keepSchema b_Mod_keepSchema 6 (none)) ({ frames := 1, cells := 0, slots := 0, locals := 21 }) (va_Pc [.ref (ad 0), .int l1] (PW dC dI cI cB cJ cZ ad stM kcM 115 sz x)) (va_Qv (fun (y : St) => post y) (fun y t => Wd dC dI cI cB cJ cZ ad stM kcM 115 (va_A (pic ad stM kcM 115 cI cB cJ cZ x) sz) y t.heap) (va_A (pic ad stM kcM 115 cI cB cJ cZ x) sz)) 0 0 (va_A (pic ad stM kcM 115 cI cB cJ cZ x) sz) := by
  refine Met.ofW (cc := b_Mod_keepSchema) (maxL := 6) (ret := none) (by decide) rfl ?_
  intro p e s m args below meth c s₁ B hml hv
  obtain ⟨rfl, hsz, hW0, hK, hN⟩ := hv
  have hx := B.exec
  have hb := B.bytes
  have hr := B.returns
  have hts := atoms_spec B.pre
  have hT : ∀ w ∈ TG, w.before _ s = true := fun w h => hts w (List.mem_cons_of_mem _ h)
  have hown : s.vm.findClass R_Mod = some m.cls := findClass_of_methodNamed B.named
  have hlocks := B.notSynchronized
  subst hsz
  have hW : Wd dC dI cI cB cJ cZ ad stM kcM 115 (va_A (pic ad stM kcM 115 cI cB cJ cZ x) s.heap.size) x s.heap := ⟨hW0.1, hW0.2.1.self (sz := s.heap.size), hW0.2.2⟩
  generalize hAe : va_A (pic ad stM kcM 115 cI cB cJ cZ x) s.heap.size = A at hW ⊢
  have hA : ∀ q : Nat, s.heap.size ≤ q → A q := fun q h => by rw [← hAe]; exact Or.inr h
  have hS : va_S A s.heap s.heap [] := va_S.rf
  have hl := lv_entry ([.ref (ad 0), .int l1]) (n := 6) (Nat.le_of_ble_eq_true rfl)
  rw [lg_entry_eq]
  generalize (lg_sl ([.ref (ad 0), .int l1]) ++ List.replicate (6 - (lg_sl ([.ref (ad 0), .int l1])).length) Slot.unset).toArray = ls at hl ⊢
  have hl : lv_has ls 6 [(0, .ref (ad 0)), (1, .int l1)] := hl
  exact t_Mod_keepSchema_e hx hb hml hown hT hK hN hA (Nat.le_refl 0) (Nat.le_refl 0) (Nat.le_refl 1) (Nat.le_refl 21) (fun x H locs pc ls hd hp hW hS => W.vret hx hb hr (fun t ht hM => ⟨⟨x, rfl, hp, Wd.back hW ht.symm (fun _ z => z)⟩, hS.F ht⟩) hS.2.2 hd hlocks)  l1 x _ _ ls  hw hW hS hl
end
