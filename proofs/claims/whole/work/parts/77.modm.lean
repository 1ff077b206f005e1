theorem w_13_216 : (Jvm.Cond.methodLink "StripedVaultModel" (1095 : Nat) ({ cls := "StripedVaultModel", name := "canOf", desc := "(I)I" } : Jvm.MethodName)) ∈ TG := tw_13 216 (by decide +kernel) (by decide +kernel)
theorem w_13_218 : (Jvm.Cond.instanceMethod ({ cls := "StripedVaultModel", name := "canOf", desc := "(I)I" } : Jvm.MethodName)) ∈ TG := tw_13 218 (by decide +kernel) (by decide +kernel)
theorem w_13_219 : (Jvm.Cond.code ({ cls := "StripedVaultModel", name := "canOf", desc := "(I)I" } : Jvm.MethodName) prog_14_method_187_code (10 : Nat) (Option.some Jvm.ClassFile.FieldType.int)) ∈ TG := tw_13 219 (by decide +kernel) (by decide +kernel)
theorem w_14_10 : (Jvm.Cond.methodLink "StripedVaultModel" (1080 : Nat) ({ cls := "StripedVaultModel", name := "valueAt", desc := "(II)I" } : Jvm.MethodName)) ∈ TG := tw_14 10 (by decide +kernel) (by decide +kernel)
theorem w_14_12 : (Jvm.Cond.instanceMethod ({ cls := "StripedVaultModel", name := "valueAt", desc := "(II)I" } : Jvm.MethodName)) ∈ TG := tw_14 12 (by decide +kernel) (by decide +kernel)
theorem w_14_13 : (Jvm.Cond.code ({ cls := "StripedVaultModel", name := "valueAt", desc := "(II)I" } : Jvm.MethodName) prog_14_method_175_code (4 : Nat) (Option.some Jvm.ClassFile.FieldType.int)) ∈ TG := tw_14 13 (by decide +kernel) (by decide +kernel)
theorem w_14_14 : (Jvm.Cond.methodLink "StripedVaultModel" (1089 : Nat) ({ cls := "StripedVaultModel", name := "not", desc := "(I)I" } : Jvm.MethodName)) ∈ TG := tw_14 14 (by decide +kernel) (by decide +kernel)
theorem w_14_15 : (Jvm.Cond.static ({ cls := "StripedVaultModel", name := "not", desc := "(I)I" } : Jvm.MethodName)) ∈ TG := tw_14 15 (by decide +kernel) (by decide +kernel)
theorem w_14_16 : (Jvm.Cond.code ({ cls := "StripedVaultModel", name := "not", desc := "(I)I" } : Jvm.MethodName) prog_14_method_180_code (1 : Nat) (Option.some Jvm.ClassFile.FieldType.int)) ∈ TG := tw_14 16 (by decide +kernel) (by decide +kernel)
theorem w_14_17 : (Jvm.Cond.methodLink "StripedVaultModel" (1092 : Nat) ({ cls := "StripedVaultModel", name := "both", desc := "(IIZ)I" } : Jvm.MethodName)) ∈ TG := tw_14 17 (by decide +kernel) (by decide +kernel)
theorem w_14_18 : (Jvm.Cond.static ({ cls := "StripedVaultModel", name := "both", desc := "(IIZ)I" } : Jvm.MethodName)) ∈ TG := tw_14 18 (by decide +kernel) (by decide +kernel)
theorem w_14_19 : (Jvm.Cond.code ({ cls := "StripedVaultModel", name := "both", desc := "(IIZ)I" } : Jvm.MethodName) prog_14_method_181_code (4 : Nat) (Option.some Jvm.ClassFile.FieldType.int)) ∈ TG := tw_14 19 (by decide +kernel) (by decide +kernel)
theorem w_14_6 : (Jvm.Cond.methodLink "StripedVaultModel" (1098 : Nat) ({ cls := "StripedVaultModel", name := "truthOf", desc := "(II)I" } : Jvm.MethodName)) ∈ TG := tw_14 6 (by decide +kernel) (by decide +kernel)
theorem w_14_8 : (Jvm.Cond.instanceMethod ({ cls := "StripedVaultModel", name := "truthOf", desc := "(II)I" } : Jvm.MethodName)) ∈ TG := tw_14 8 (by decide +kernel) (by decide +kernel)
theorem w_14_9 : (Jvm.Cond.code ({ cls := "StripedVaultModel", name := "truthOf", desc := "(II)I" } : Jvm.MethodName) prog_14_method_179_code (9 : Nat) (Option.some Jvm.ClassFile.FieldType.int)) ∈ TG := tw_14 9 (by decide +kernel) (by decide +kernel)
theorem ws_256 : Cond.selects R_Mod y_Mod_canOf y_Mod_canOf ∈ TG := tw_s 256 (by decide +kernel) (by decide +kernel)
theorem ws_262 : Cond.selects R_Mod y_Mod_truthOf y_Mod_truthOf ∈ TG := tw_s 262 (by decide +kernel) (by decide +kernel)
theorem ws_263 : Cond.selects R_Mod y_Mod_valueAt y_Mod_valueAt ∈ TG := tw_s 263 (by decide +kernel) (by decide +kernel)
theorem d_Mod_valueAt_0 : decode b_Mod_valueAt 0 = .ok (.aload_n 0, 1) := by decide +kernel
theorem d_Mod_valueAt_1 : decode b_Mod_valueAt 1 = .ok (.iload_n 2, 1) := by decide +kernel
theorem d_Mod_valueAt_2 : decode b_Mod_valueAt 2 = .ok (.invokevirtual 963, 3) := by decide +kernel
theorem d_Mod_valueAt_5 : decode b_Mod_valueAt 5 = .ok (.istore_n 3, 1) := by decide +kernel
theorem d_Mod_valueAt_6 : decode b_Mod_valueAt 6 = .ok (.aload_n 0, 1) := by decide +kernel
theorem d_Mod_valueAt_7 : decode b_Mod_valueAt 7 = .ok (.getfield 192, 3) := by decide +kernel
theorem d_Mod_valueAt_10 : decode b_Mod_valueAt 10 = .ok (.aload_n 0, 1) := by decide +kernel
theorem d_Mod_valueAt_11 : decode b_Mod_valueAt 11 = .ok (.getfield 207, 3) := by decide +kernel
theorem d_Mod_valueAt_14 : decode b_Mod_valueAt 14 = .ok (.aload_n 0, 1) := by decide +kernel
theorem d_Mod_valueAt_15 : decode b_Mod_valueAt 15 = .ok (.getfield 38, 3) := by decide +kernel
theorem d_Mod_valueAt_18 : decode b_Mod_valueAt 18 = .ok (.iconst 1, 1) := by decide +kernel
theorem d_Mod_valueAt_19 : decode b_Mod_valueAt 19 = .ok (.iaload, 1) := by decide +kernel
theorem d_Mod_valueAt_20 : decode b_Mod_valueAt 20 = .ok (.iload_n 3, 1) := by decide +kernel
theorem d_Mod_valueAt_21 : decode b_Mod_valueAt 21 = .ok (.imul, 1) := by decide +kernel
theorem d_Mod_valueAt_22 : decode b_Mod_valueAt 22 = .ok (.aload_n 0, 1) := by decide +kernel
theorem d_Mod_valueAt_23 : decode b_Mod_valueAt 23 = .ok (.getfield 26, 3) := by decide +kernel
theorem d_Mod_valueAt_26 : decode b_Mod_valueAt 26 = .ok (.iconst 1, 1) := by decide +kernel
theorem d_Mod_valueAt_27 : decode b_Mod_valueAt 27 = .ok (.iload_n 1, 1) := by decide +kernel
theorem d_Mod_valueAt_28 : decode b_Mod_valueAt 28 = .ok (.invokestatic 412, 3) := by decide +kernel
theorem d_Mod_valueAt_31 : decode b_Mod_valueAt 31 = .ok (.iaload, 1) := by decide +kernel
theorem d_Mod_valueAt_32 : decode b_Mod_valueAt 32 = .ok (.iadd, 1) := by decide +kernel
theorem d_Mod_valueAt_33 : decode b_Mod_valueAt 33 = .ok (.iaload, 1) := by decide +kernel
theorem d_Mod_valueAt_34 : decode b_Mod_valueAt 34 = .ok (.iload_n 2, 1) := by decide +kernel
theorem d_Mod_valueAt_35 : decode b_Mod_valueAt 35 = .ok (.iadd, 1) := by decide +kernel
theorem d_Mod_valueAt_36 : decode b_Mod_valueAt 36 = .ok (.aload_n 0, 1) := by decide +kernel
theorem d_Mod_valueAt_37 : decode b_Mod_valueAt 37 = .ok (.iload_n 3, 1) := by decide +kernel
theorem d_Mod_valueAt_38 : decode b_Mod_valueAt 38 = .ok (.invokevirtual 966, 3) := by decide +kernel
theorem d_Mod_valueAt_41 : decode b_Mod_valueAt 41 = .ok (.isub, 1) := by decide +kernel
theorem d_Mod_valueAt_42 : decode b_Mod_valueAt 42 = .ok (.iaload, 1) := by decide +kernel
theorem d_Mod_valueAt_43 : decode b_Mod_valueAt 43 = .ok (.ireturn, 1) := by decide +kernel
theorem d_Mod_truthOf_231 : decode b_Mod_truthOf 231 = .ok (.istore 7, 2) := by decide +kernel
theorem d_Mod_truthOf_233 : decode b_Mod_truthOf 233 = .ok (.iinc 8 1, 3) := by decide +kernel
theorem d_Mod_truthOf_236 : decode b_Mod_truthOf 236 = .ok (.goto (-46), 3) := by decide +kernel
theorem d_Mod_truthOf_226 : decode b_Mod_truthOf 226 = .ok (.iconst 1, 1) := by decide +kernel
theorem d_Mod_truthOf_227 : decode b_Mod_truthOf 227 = .ok (.goto 4, 3) := by decide +kernel
theorem d_Mod_truthOf_190 : decode b_Mod_truthOf 190 = .ok (.iload 8, 2) := by decide +kernel
theorem d_Mod_truthOf_192 : decode b_Mod_truthOf 192 = .ok (.aload_n 0, 1) := by decide +kernel
theorem d_Mod_truthOf_193 : decode b_Mod_truthOf 193 = .ok (.getfield 279, 3) := by decide +kernel
theorem d_Mod_truthOf_196 : decode b_Mod_truthOf 196 = .ok (.iload_n 1, 1) := by decide +kernel
theorem d_Mod_truthOf_197 : decode b_Mod_truthOf 197 = .ok (.iaload, 1) := by decide +kernel
theorem d_Mod_truthOf_198 : decode b_Mod_truthOf 198 = .ok (.if_icmp .ge 41, 3) := by decide +kernel
theorem d_Mod_truthOf_239 : decode b_Mod_truthOf 239 = .ok (.iload 7, 2) := by decide +kernel
theorem d_Mod_truthOf_241 : decode b_Mod_truthOf 241 = .ok (.ifCond .eq 7, 3) := by decide +kernel
theorem d_Mod_truthOf_248 : decode b_Mod_truthOf 248 = .ok (.iconst 1, 1) := by decide +kernel
theorem d_Mod_truthOf_249 : decode b_Mod_truthOf 249 = .ok (.ireturn, 1) := by decide +kernel
theorem d_Mod_truthOf_244 : decode b_Mod_truthOf 244 = .ok (.iconst 2, 1) := by decide +kernel
theorem d_Mod_truthOf_245 : decode b_Mod_truthOf 245 = .ok (.goto 4, 3) := by decide +kernel
theorem d_Mod_truthOf_201 : decode b_Mod_truthOf 201 = .ok (.iload 7, 2) := by decide +kernel
theorem d_Mod_truthOf_203 : decode b_Mod_truthOf 203 = .ok (.ifCond .ne 23, 3) := by decide +kernel
theorem d_Mod_truthOf_206 : decode b_Mod_truthOf 206 = .ok (.aload_n 0, 1) := by decide +kernel
theorem d_Mod_truthOf_207 : decode b_Mod_truthOf 207 = .ok (.iload_n 3, 1) := by decide +kernel
theorem d_Mod_truthOf_208 : decode b_Mod_truthOf 208 = .ok (.iload 6, 2) := by decide +kernel
theorem d_Mod_truthOf_210 : decode b_Mod_truthOf 210 = .ok (.aload_n 0, 1) := by decide +kernel
theorem d_Mod_truthOf_211 : decode b_Mod_truthOf 211 = .ok (.getfield 276, 3) := by decide +kernel
theorem d_Mod_truthOf_214 : decode b_Mod_truthOf 214 = .ok (.iload_n 1, 1) := by decide +kernel
theorem d_Mod_truthOf_215 : decode b_Mod_truthOf 215 = .ok (.iaload, 1) := by decide +kernel
theorem d_Mod_truthOf_216 : decode b_Mod_truthOf 216 = .ok (.iadd, 1) := by decide +kernel
theorem d_Mod_truthOf_217 : decode b_Mod_truthOf 217 = .ok (.iload 8, 2) := by decide +kernel
theorem d_Mod_truthOf_219 : decode b_Mod_truthOf 219 = .ok (.iadd, 1) := by decide +kernel
theorem d_Mod_truthOf_220 : decode b_Mod_truthOf 220 = .ok (.invokevirtual 1086, 3) := by decide +kernel
theorem d_Mod_truthOf_223 : decode b_Mod_truthOf 223 = .ok (.ifCond .ne 7, 3) := by decide +kernel
theorem d_Mod_truthOf_230 : decode b_Mod_truthOf 230 = .ok (.iconst 0, 1) := by decide +kernel
theorem d_Mod_truthOf_89 : decode b_Mod_truthOf 89 = .ok (.iconst 4, 1) := by decide +kernel
theorem d_Mod_truthOf_90 : decode b_Mod_truthOf 90 = .ok (.ireturn, 1) := by decide +kernel
theorem d_Mod_truthOf_76 : decode b_Mod_truthOf 76 = .ok (.istore 5, 2) := by decide +kernel
theorem d_Mod_truthOf_78 : decode b_Mod_truthOf 78 = .ok (.iload_n 3, 1) := by decide +kernel
theorem d_Mod_truthOf_79 : decode b_Mod_truthOf 79 = .ok (.iconst (-1), 1) := by decide +kernel
theorem d_Mod_truthOf_80 : decode b_Mod_truthOf 80 = .ok (.if_icmp .eq 9, 3) := by decide +kernel
theorem d_Mod_truthOf_83 : decode b_Mod_truthOf 83 = .ok (.iload 5, 2) := by decide +kernel
theorem d_Mod_truthOf_85 : decode b_Mod_truthOf 85 = .ok (.iconst (-1), 1) := by decide +kernel
theorem d_Mod_truthOf_86 : decode b_Mod_truthOf 86 = .ok (.if_icmp .ne 5, 3) := by decide +kernel
theorem d_Mod_truthOf_91 : decode b_Mod_truthOf 91 = .ok (.iload 4, 2) := by decide +kernel
theorem d_Mod_truthOf_93 : decode b_Mod_truthOf 93 = .ok (.iconst 4, 1) := by decide +kernel
theorem d_Mod_truthOf_94 : decode b_Mod_truthOf 94 = .ok (.if_icmp .ne 43, 3) := by decide +kernel
theorem d_Mod_truthOf_137 : decode b_Mod_truthOf 137 = .ok (.bipush 64, 2) := by decide +kernel
theorem d_Mod_truthOf_139 : decode b_Mod_truthOf 139 = .ok (.iload_n 1, 1) := by decide +kernel
theorem d_Mod_truthOf_140 : decode b_Mod_truthOf 140 = .ok (.bipush 64, 2) := by decide +kernel
theorem d_Mod_truthOf_142 : decode b_Mod_truthOf 142 = .ok (.idiv, 1) := by decide +kernel
theorem d_Mod_truthOf_143 : decode b_Mod_truthOf 143 = .ok (.imul, 1) := by decide +kernel
theorem d_Mod_truthOf_144 : decode b_Mod_truthOf 144 = .ok (.istore 6, 2) := by decide +kernel
theorem d_Mod_truthOf_146 : decode b_Mod_truthOf 146 = .ok (.iload 4, 2) := by decide +kernel
theorem d_Mod_truthOf_148 : decode b_Mod_truthOf 148 = .ok (.iconst 3, 1) := by decide +kernel
theorem d_Mod_truthOf_149 : decode b_Mod_truthOf 149 = .ok (.if_icmp .ne 35, 3) := by decide +kernel
theorem d_Mod_truthOf_184 : decode b_Mod_truthOf 184 = .ok (.iconst 0, 1) := by decide +kernel
theorem d_Mod_truthOf_185 : decode b_Mod_truthOf 185 = .ok (.istore 7, 2) := by decide +kernel
theorem d_Mod_truthOf_187 : decode b_Mod_truthOf 187 = .ok (.iconst 0, 1) := by decide +kernel
theorem d_Mod_truthOf_188 : decode b_Mod_truthOf 188 = .ok (.istore 8, 2) := by decide +kernel
theorem d_Mod_truthOf_152 : decode b_Mod_truthOf 152 = .ok (.aload_n 0, 1) := by decide +kernel
theorem d_Mod_truthOf_153 : decode b_Mod_truthOf 153 = .ok (.getfield 273, 3) := by decide +kernel
theorem d_Mod_truthOf_156 : decode b_Mod_truthOf 156 = .ok (.iload_n 1, 1) := by decide +kernel
theorem d_Mod_truthOf_157 : decode b_Mod_truthOf 157 = .ok (.iaload, 1) := by decide +kernel
theorem d_Mod_truthOf_158 : decode b_Mod_truthOf 158 = .ok (.aload_n 0, 1) := by decide +kernel
theorem d_Mod_truthOf_159 : decode b_Mod_truthOf 159 = .ok (.iload_n 3, 1) := by decide +kernel
theorem d_Mod_truthOf_160 : decode b_Mod_truthOf 160 = .ok (.iload 6, 2) := by decide +kernel
theorem d_Mod_truthOf_162 : decode b_Mod_truthOf 162 = .ok (.aload_n 0, 1) := by decide +kernel
theorem d_Mod_truthOf_163 : decode b_Mod_truthOf 163 = .ok (.getfield 276, 3) := by decide +kernel
theorem d_Mod_truthOf_166 : decode b_Mod_truthOf 166 = .ok (.iload_n 1, 1) := by decide +kernel
theorem d_Mod_truthOf_167 : decode b_Mod_truthOf 167 = .ok (.iaload, 1) := by decide +kernel
theorem d_Mod_truthOf_168 : decode b_Mod_truthOf 168 = .ok (.iadd, 1) := by decide +kernel
theorem d_Mod_truthOf_169 : decode b_Mod_truthOf 169 = .ok (.invokevirtual 1086, 3) := by decide +kernel
theorem d_Mod_truthOf_172 : decode b_Mod_truthOf 172 = .ok (.invokestatic 1083, 3) := by decide +kernel
theorem d_Mod_truthOf_175 : decode b_Mod_truthOf 175 = .ok (.ifCond .eq 7, 3) := by decide +kernel
theorem d_Mod_truthOf_182 : decode b_Mod_truthOf 182 = .ok (.iconst 1, 1) := by decide +kernel
theorem d_Mod_truthOf_183 : decode b_Mod_truthOf 183 = .ok (.ireturn, 1) := by decide +kernel
theorem d_Mod_truthOf_178 : decode b_Mod_truthOf 178 = .ok (.iconst 2, 1) := by decide +kernel
theorem d_Mod_truthOf_179 : decode b_Mod_truthOf 179 = .ok (.goto 4, 3) := by decide +kernel
theorem d_Mod_truthOf_97 : decode b_Mod_truthOf 97 = .ok (.aload_n 0, 1) := by decide +kernel
theorem d_Mod_truthOf_98 : decode b_Mod_truthOf 98 = .ok (.getfield 273, 3) := by decide +kernel
theorem d_Mod_truthOf_101 : decode b_Mod_truthOf 101 = .ok (.iload_n 1, 1) := by decide +kernel
theorem d_Mod_truthOf_102 : decode b_Mod_truthOf 102 = .ok (.iaload, 1) := by decide +kernel
theorem d_Mod_truthOf_103 : decode b_Mod_truthOf 103 = .ok (.aload_n 0, 1) := by decide +kernel
theorem d_Mod_truthOf_104 : decode b_Mod_truthOf 104 = .ok (.aload_n 0, 1) := by decide +kernel
theorem d_Mod_truthOf_105 : decode b_Mod_truthOf 105 = .ok (.getfield 20, 3) := by decide +kernel
theorem d_Mod_truthOf_108 : decode b_Mod_truthOf 108 = .ok (.iconst 1, 1) := by decide +kernel
theorem d_Mod_truthOf_109 : decode b_Mod_truthOf 109 = .ok (.aload_n 0, 1) := by decide +kernel
theorem d_Mod_truthOf_110 : decode b_Mod_truthOf 110 = .ok (.getfield 270, 3) := by decide +kernel
theorem d_Mod_truthOf_113 : decode b_Mod_truthOf 113 = .ok (.iload_n 1, 1) := by decide +kernel
theorem d_Mod_truthOf_114 : decode b_Mod_truthOf 114 = .ok (.iaload, 1) := by decide +kernel
theorem d_Mod_truthOf_115 : decode b_Mod_truthOf 115 = .ok (.invokestatic 412, 3) := by decide +kernel
theorem d_Mod_truthOf_118 : decode b_Mod_truthOf 118 = .ok (.iaload, 1) := by decide +kernel
theorem d_Mod_truthOf_119 : decode b_Mod_truthOf 119 = .ok (.iload_n 3, 1) := by decide +kernel
theorem d_Mod_truthOf_120 : decode b_Mod_truthOf 120 = .ok (.iload 5, 2) := by decide +kernel
theorem d_Mod_truthOf_122 : decode b_Mod_truthOf 122 = .ok (.invokevirtual 905, 3) := by decide +kernel
theorem d_Mod_truthOf_125 : decode b_Mod_truthOf 125 = .ok (.invokestatic 1083, 3) := by decide +kernel
theorem d_Mod_truthOf_128 : decode b_Mod_truthOf 128 = .ok (.ifCond .eq 7, 3) := by decide +kernel
theorem d_Mod_truthOf_135 : decode b_Mod_truthOf 135 = .ok (.iconst 1, 1) := by decide +kernel
theorem d_Mod_truthOf_136 : decode b_Mod_truthOf 136 = .ok (.ireturn, 1) := by decide +kernel
theorem d_Mod_truthOf_131 : decode b_Mod_truthOf 131 = .ok (.iconst 2, 1) := by decide +kernel
theorem d_Mod_truthOf_132 : decode b_Mod_truthOf 132 = .ok (.goto 4, 3) := by decide +kernel
theorem d_Mod_truthOf_46 : decode b_Mod_truthOf 46 = .ok (.if_icmp .ne 7, 3) := by decide +kernel
theorem d_Mod_truthOf_53 : decode b_Mod_truthOf 53 = .ok (.iconst 1, 1) := by decide +kernel
theorem d_Mod_truthOf_54 : decode b_Mod_truthOf 54 = .ok (.ireturn, 1) := by decide +kernel
theorem d_Mod_truthOf_49 : decode b_Mod_truthOf 49 = .ok (.iconst 2, 1) := by decide +kernel
theorem d_Mod_truthOf_50 : decode b_Mod_truthOf 50 = .ok (.goto 4, 3) := by decide +kernel
theorem d_Mod_truthOf_36 : decode b_Mod_truthOf 36 = .ok (.iload 4, 2) := by decide +kernel
theorem d_Mod_truthOf_38 : decode b_Mod_truthOf 38 = .ok (.ifCond .ne 7, 3) := by decide +kernel
theorem d_Mod_truthOf_45 : decode b_Mod_truthOf 45 = .ok (.iconst 0, 1) := by decide +kernel
theorem d_Mod_truthOf_41 : decode b_Mod_truthOf 41 = .ok (.iconst 1, 1) := by decide +kernel
theorem d_Mod_truthOf_42 : decode b_Mod_truthOf 42 = .ok (.goto 4, 3) := by decide +kernel
theorem d_Mod_truthOf_0 : decode b_Mod_truthOf 0 = .ok (.aload_n 0, 1) := by decide +kernel
theorem d_Mod_truthOf_1 : decode b_Mod_truthOf 1 = .ok (.aload_n 0, 1) := by decide +kernel
theorem d_Mod_truthOf_2 : decode b_Mod_truthOf 2 = .ok (.getfield 270, 3) := by decide +kernel
theorem d_Mod_truthOf_5 : decode b_Mod_truthOf 5 = .ok (.iload_n 1, 1) := by decide +kernel
theorem d_Mod_truthOf_6 : decode b_Mod_truthOf 6 = .ok (.iaload, 1) := by decide +kernel
theorem d_Mod_truthOf_7 : decode b_Mod_truthOf 7 = .ok (.iload_n 2, 1) := by decide +kernel
theorem d_Mod_truthOf_8 : decode b_Mod_truthOf 8 = .ok (.invokevirtual 1080, 3) := by decide +kernel
theorem d_Mod_truthOf_11 : decode b_Mod_truthOf 11 = .ok (.istore_n 3, 1) := by decide +kernel
theorem d_Mod_truthOf_12 : decode b_Mod_truthOf 12 = .ok (.aload_n 0, 1) := by decide +kernel
theorem d_Mod_truthOf_13 : decode b_Mod_truthOf 13 = .ok (.getfield 267, 3) := by decide +kernel
theorem d_Mod_truthOf_16 : decode b_Mod_truthOf 16 = .ok (.iload_n 1, 1) := by decide +kernel
theorem d_Mod_truthOf_17 : decode b_Mod_truthOf 17 = .ok (.iaload, 1) := by decide +kernel
theorem d_Mod_truthOf_18 : decode b_Mod_truthOf 18 = .ok (.istore 4, 2) := by decide +kernel
theorem d_Mod_truthOf_20 : decode b_Mod_truthOf 20 = .ok (.iload 4, 2) := by decide +kernel
theorem d_Mod_truthOf_22 : decode b_Mod_truthOf 22 = .ok (.iconst 2, 1) := by decide +kernel
theorem d_Mod_truthOf_23 : decode b_Mod_truthOf 23 = .ok (.if_icmp .ge 32, 3) := by decide +kernel
theorem d_Mod_truthOf_55 : decode b_Mod_truthOf 55 = .ok (.iload 4, 2) := by decide +kernel
theorem d_Mod_truthOf_57 : decode b_Mod_truthOf 57 = .ok (.iconst 4, 1) := by decide +kernel
theorem d_Mod_truthOf_58 : decode b_Mod_truthOf 58 = .ok (.if_icmp .ne 17, 3) := by decide +kernel
theorem d_Mod_truthOf_75 : decode b_Mod_truthOf 75 = .ok (.iload_n 3, 1) := by decide +kernel
theorem d_Mod_truthOf_61 : decode b_Mod_truthOf 61 = .ok (.aload_n 0, 1) := by decide +kernel
theorem d_Mod_truthOf_62 : decode b_Mod_truthOf 62 = .ok (.aload_n 0, 1) := by decide +kernel
theorem d_Mod_truthOf_63 : decode b_Mod_truthOf 63 = .ok (.getfield 276, 3) := by decide +kernel
theorem d_Mod_truthOf_66 : decode b_Mod_truthOf 66 = .ok (.iload_n 1, 1) := by decide +kernel
theorem d_Mod_truthOf_67 : decode b_Mod_truthOf 67 = .ok (.iaload, 1) := by decide +kernel
theorem d_Mod_truthOf_68 : decode b_Mod_truthOf 68 = .ok (.iload_n 2, 1) := by decide +kernel
theorem d_Mod_truthOf_69 : decode b_Mod_truthOf 69 = .ok (.invokevirtual 1080, 3) := by decide +kernel
theorem d_Mod_truthOf_72 : decode b_Mod_truthOf 72 = .ok (.goto 4, 3) := by decide +kernel
theorem d_Mod_truthOf_26 : decode b_Mod_truthOf 26 = .ok (.iload_n 3, 1) := by decide +kernel
theorem d_Mod_truthOf_27 : decode b_Mod_truthOf 27 = .ok (.iconst (-1), 1) := by decide +kernel
theorem d_Mod_truthOf_28 : decode b_Mod_truthOf 28 = .ok (.if_icmp .ne 7, 3) := by decide +kernel
theorem d_Mod_truthOf_35 : decode b_Mod_truthOf 35 = .ok (.iconst 0, 1) := by decide +kernel
theorem d_Mod_truthOf_31 : decode b_Mod_truthOf 31 = .ok (.iconst 1, 1) := by decide +kernel
theorem d_Mod_truthOf_32 : decode b_Mod_truthOf 32 = .ok (.goto 4, 3) := by decide +kernel
theorem d_Mod_not_0 : decode b_Mod_not 0 = .ok (.iload_n 0, 1) := by decide +kernel
theorem d_Mod_not_1 : decode b_Mod_not 1 = .ok (.iconst 1, 1) := by decide +kernel
theorem d_Mod_not_2 : decode b_Mod_not 2 = .ok (.iand, 1) := by decide +kernel
theorem d_Mod_not_3 : decode b_Mod_not 3 = .ok (.iconst 1, 1) := by decide +kernel
theorem d_Mod_not_4 : decode b_Mod_not 4 = .ok (.ishl, 1) := by decide +kernel
theorem d_Mod_not_5 : decode b_Mod_not 5 = .ok (.iload_n 0, 1) := by decide +kernel
theorem d_Mod_not_6 : decode b_Mod_not 6 = .ok (.iconst 1, 1) := by decide +kernel
theorem d_Mod_not_7 : decode b_Mod_not 7 = .ok (.ishr, 1) := by decide +kernel
theorem d_Mod_not_8 : decode b_Mod_not 8 = .ok (.iconst 1, 1) := by decide +kernel
theorem d_Mod_not_9 : decode b_Mod_not 9 = .ok (.iand, 1) := by decide +kernel
theorem d_Mod_not_10 : decode b_Mod_not 10 = .ok (.ior, 1) := by decide +kernel
theorem d_Mod_not_11 : decode b_Mod_not 11 = .ok (.iload_n 0, 1) := by decide +kernel
theorem d_Mod_not_12 : decode b_Mod_not 12 = .ok (.iconst 4, 1) := by decide +kernel
theorem d_Mod_not_13 : decode b_Mod_not 13 = .ok (.iand, 1) := by decide +kernel
theorem d_Mod_not_14 : decode b_Mod_not 14 = .ok (.ior, 1) := by decide +kernel
theorem d_Mod_not_15 : decode b_Mod_not 15 = .ok (.ireturn, 1) := by decide +kernel
theorem d_Mod_both_82 : decode b_Mod_both 82 = .ok (.ior, 1) := by decide +kernel
theorem d_Mod_both_83 : decode b_Mod_both 83 = .ok (.ireturn, 1) := by decide +kernel
theorem d_Mod_both_81 : decode b_Mod_both 81 = .ok (.iconst 0, 1) := by decide +kernel
theorem d_Mod_both_77 : decode b_Mod_both 77 = .ok (.iconst 4, 1) := by decide +kernel
theorem d_Mod_both_78 : decode b_Mod_both 78 = .ok (.goto 4, 3) := by decide +kernel
theorem d_Mod_both_64 : decode b_Mod_both 64 = .ok (.iload_n 1, 1) := by decide +kernel
theorem d_Mod_both_65 : decode b_Mod_both 65 = .ok (.iconst 4, 1) := by decide +kernel
theorem d_Mod_both_66 : decode b_Mod_both 66 = .ok (.iand, 1) := by decide +kernel
theorem d_Mod_both_67 : decode b_Mod_both 67 = .ok (.ifCond .le 14, 3) := by decide +kernel
theorem d_Mod_both_70 : decode b_Mod_both 70 = .ok (.iload_n 0, 1) := by decide +kernel
theorem d_Mod_both_71 : decode b_Mod_both 71 = .ok (.bipush 6, 2) := by decide +kernel
theorem d_Mod_both_73 : decode b_Mod_both 73 = .ok (.iand, 1) := by decide +kernel
theorem d_Mod_both_74 : decode b_Mod_both 74 = .ok (.ifCond .le 7, 3) := by decide +kernel
theorem d_Mod_both_48 : decode b_Mod_both 48 = .ok (.ior, 1) := by decide +kernel
theorem d_Mod_both_49 : decode b_Mod_both 49 = .ok (.istore_n 3, 1) := by decide +kernel
theorem d_Mod_both_50 : decode b_Mod_both 50 = .ok (.iload_n 3, 1) := by decide +kernel
theorem d_Mod_both_51 : decode b_Mod_both 51 = .ok (.iload_n 0, 1) := by decide +kernel
theorem d_Mod_both_52 : decode b_Mod_both 52 = .ok (.iconst 4, 1) := by decide +kernel
theorem d_Mod_both_53 : decode b_Mod_both 53 = .ok (.iand, 1) := by decide +kernel
theorem d_Mod_both_54 : decode b_Mod_both 54 = .ok (.ifCond .le 10, 3) := by decide +kernel
theorem d_Mod_both_57 : decode b_Mod_both 57 = .ok (.iload_n 1, 1) := by decide +kernel
theorem d_Mod_both_58 : decode b_Mod_both 58 = .ok (.bipush 6, 2) := by decide +kernel
theorem d_Mod_both_60 : decode b_Mod_both 60 = .ok (.iand, 1) := by decide +kernel
theorem d_Mod_both_61 : decode b_Mod_both 61 = .ok (.ifCond .gt 16, 3) := by decide +kernel
theorem d_Mod_both_33 : decode b_Mod_both 33 = .ok (.istore_n 3, 1) := by decide +kernel
theorem d_Mod_both_34 : decode b_Mod_both 34 = .ok (.iload_n 3, 1) := by decide +kernel
theorem d_Mod_both_35 : decode b_Mod_both 35 = .ok (.iload_n 0, 1) := by decide +kernel
theorem d_Mod_both_36 : decode b_Mod_both 36 = .ok (.iload_n 1, 1) := by decide +kernel
theorem d_Mod_both_37 : decode b_Mod_both 37 = .ok (.ior, 1) := by decide +kernel
theorem d_Mod_both_38 : decode b_Mod_both 38 = .ok (.iconst 1, 1) := by decide +kernel
theorem d_Mod_both_39 : decode b_Mod_both 39 = .ok (.iand, 1) := by decide +kernel
theorem d_Mod_both_40 : decode b_Mod_both 40 = .ok (.ifCond .le 7, 3) := by decide +kernel
theorem d_Mod_both_47 : decode b_Mod_both 47 = .ok (.iconst 0, 1) := by decide +kernel
theorem d_Mod_both_43 : decode b_Mod_both 43 = .ok (.iconst 1, 1) := by decide +kernel
theorem d_Mod_both_44 : decode b_Mod_both 44 = .ok (.goto 4, 3) := by decide +kernel
theorem d_Mod_both_0 : decode b_Mod_both 0 = .ok (.iload_n 2, 1) := by decide +kernel
theorem d_Mod_both_1 : decode b_Mod_both 1 = .ok (.ifCond .ne 19, 3) := by decide +kernel
theorem d_Mod_both_20 : decode b_Mod_both 20 = .ok (.iload_n 0, 1) := by decide +kernel
theorem d_Mod_both_21 : decode b_Mod_both 21 = .ok (.iload_n 1, 1) := by decide +kernel
theorem d_Mod_both_22 : decode b_Mod_both 22 = .ok (.iand, 1) := by decide +kernel
theorem d_Mod_both_23 : decode b_Mod_both 23 = .ok (.iconst 2, 1) := by decide +kernel
theorem d_Mod_both_24 : decode b_Mod_both 24 = .ok (.iand, 1) := by decide +kernel
theorem d_Mod_both_25 : decode b_Mod_both 25 = .ok (.ifCond .le 7, 3) := by decide +kernel
theorem d_Mod_both_32 : decode b_Mod_both 32 = .ok (.iconst 0, 1) := by decide +kernel
theorem d_Mod_both_28 : decode b_Mod_both 28 = .ok (.iconst 2, 1) := by decide +kernel
theorem d_Mod_both_29 : decode b_Mod_both 29 = .ok (.goto 4, 3) := by decide +kernel
theorem d_Mod_both_4 : decode b_Mod_both 4 = .ok (.iload_n 0, 1) := by decide +kernel
theorem d_Mod_both_5 : decode b_Mod_both 5 = .ok (.invokestatic 1089, 3) := by decide +kernel
theorem d_Mod_both_8 : decode b_Mod_both 8 = .ok (.iload_n 1, 1) := by decide +kernel
theorem d_Mod_both_9 : decode b_Mod_both 9 = .ok (.invokestatic 1089, 3) := by decide +kernel
theorem d_Mod_both_12 : decode b_Mod_both 12 = .ok (.iconst 1, 1) := by decide +kernel
theorem d_Mod_both_13 : decode b_Mod_both 13 = .ok (.invokestatic 1092, 3) := by decide +kernel
theorem d_Mod_both_16 : decode b_Mod_both 16 = .ok (.invokestatic 1089, 3) := by decide +kernel
theorem d_Mod_both_19 : decode b_Mod_both 19 = .ok (.ireturn, 1) := by decide +kernel
theorem d_Mod_condition_148 : decode b_Mod_condition 148 = .ok (.iinc 3 1, 3) := by decide +kernel
theorem d_Mod_condition_151 : decode b_Mod_condition 151 = .ok (.goto (-147), 3) := by decide +kernel
theorem d_Mod_condition_144 : decode b_Mod_condition 144 = .ok (.invokestatic 1092, 3) := by decide +kernel
theorem d_Mod_condition_147 : decode b_Mod_condition 147 = .ok (.iastore, 1) := by decide +kernel
theorem d_Mod_condition_73 : decode b_Mod_condition 73 = .ok (.iastore, 1) := by decide +kernel
theorem d_Mod_condition_74 : decode b_Mod_condition 74 = .ok (.iinc 2 1, 3) := by decide +kernel
theorem d_Mod_condition_77 : decode b_Mod_condition 77 = .ok (.goto 71, 3) := by decide +kernel
theorem d_Mod_condition_4 : decode b_Mod_condition 4 = .ok (.iload_n 3, 1) := by decide +kernel
theorem d_Mod_condition_5 : decode b_Mod_condition 5 = .ok (.aload_n 0, 1) := by decide +kernel
theorem d_Mod_condition_6 : decode b_Mod_condition 6 = .ok (.getfield 252, 3) := by decide +kernel
theorem d_Mod_condition_9 : decode b_Mod_condition 9 = .ok (.iconst 4, 1) := by decide +kernel
theorem d_Mod_condition_10 : decode b_Mod_condition 10 = .ok (.aload_n 0, 1) := by decide +kernel
theorem d_Mod_condition_11 : decode b_Mod_condition 11 = .ok (.getfield 1062, 3) := by decide +kernel
theorem d_Mod_condition_14 : decode b_Mod_condition 14 = .ok (.imul, 1) := by decide +kernel
theorem d_Mod_condition_15 : decode b_Mod_condition 15 = .ok (.iconst 2, 1) := by decide +kernel
theorem d_Mod_condition_16 : decode b_Mod_condition 16 = .ok (.iadd, 1) := by decide +kernel
theorem d_Mod_condition_17 : decode b_Mod_condition 17 = .ok (.iaload, 1) := by decide +kernel
theorem d_Mod_condition_18 : decode b_Mod_condition 18 = .ok (.if_icmp .ge 136, 3) := by decide +kernel
theorem d_Mod_condition_154 : decode b_Mod_condition 154 = .ok (.aload_n 0, 1) := by decide +kernel
theorem d_Mod_condition_155 : decode b_Mod_condition 155 = .ok (.getfield 303, 3) := by decide +kernel
theorem d_Mod_condition_158 : decode b_Mod_condition 158 = .ok (.iconst 0, 1) := by decide +kernel
theorem d_Mod_condition_159 : decode b_Mod_condition 159 = .ok (.iaload, 1) := by decide +kernel
theorem d_Mod_condition_160 : decode b_Mod_condition 160 = .ok (.ireturn, 1) := by decide +kernel
theorem d_Mod_condition_21 : decode b_Mod_condition 21 = .ok (.bipush 64, 2) := by decide +kernel
theorem d_Mod_condition_23 : decode b_Mod_condition 23 = .ok (.aload_n 0, 1) := by decide +kernel
theorem d_Mod_condition_24 : decode b_Mod_condition 24 = .ok (.getfield 1062, 3) := by decide +kernel
theorem d_Mod_condition_27 : decode b_Mod_condition 27 = .ok (.imul, 1) := by decide +kernel
theorem d_Mod_condition_28 : decode b_Mod_condition 28 = .ok (.iload_n 3, 1) := by decide +kernel
theorem d_Mod_condition_29 : decode b_Mod_condition 29 = .ok (.iadd, 1) := by decide +kernel
theorem d_Mod_condition_30 : decode b_Mod_condition 30 = .ok (.istore 4, 2) := by decide +kernel
theorem d_Mod_condition_32 : decode b_Mod_condition 32 = .ok (.aload_n 0, 1) := by decide +kernel
theorem d_Mod_condition_33 : decode b_Mod_condition 33 = .ok (.getfield 267, 3) := by decide +kernel
theorem d_Mod_condition_36 : decode b_Mod_condition 36 = .ok (.iload 4, 2) := by decide +kernel
theorem d_Mod_condition_38 : decode b_Mod_condition 38 = .ok (.iaload, 1) := by decide +kernel
theorem d_Mod_condition_39 : decode b_Mod_condition 39 = .ok (.istore 5, 2) := by decide +kernel
theorem d_Mod_condition_41 : decode b_Mod_condition 41 = .ok (.iload 5, 2) := by decide +kernel
theorem d_Mod_condition_43 : decode b_Mod_condition 43 = .ok (.iconst 5, 1) := by decide +kernel
theorem d_Mod_condition_44 : decode b_Mod_condition 44 = .ok (.if_icmp .ge 36, 3) := by decide +kernel
theorem d_Mod_condition_80 : decode b_Mod_condition 80 = .ok (.iload 5, 2) := by decide +kernel
theorem d_Mod_condition_82 : decode b_Mod_condition 82 = .ok (.iconst 5, 1) := by decide +kernel
theorem d_Mod_condition_83 : decode b_Mod_condition 83 = .ok (.if_icmp .ne 25, 3) := by decide +kernel
theorem d_Mod_condition_108 : decode b_Mod_condition 108 = .ok (.iinc 2 (-1), 3) := by decide +kernel
theorem d_Mod_condition_111 : decode b_Mod_condition 111 = .ok (.aload_n 0, 1) := by decide +kernel
theorem d_Mod_condition_112 : decode b_Mod_condition 112 = .ok (.getfield 303, 3) := by decide +kernel
theorem d_Mod_condition_115 : decode b_Mod_condition 115 = .ok (.iload_n 2, 1) := by decide +kernel
theorem d_Mod_condition_116 : decode b_Mod_condition 116 = .ok (.iconst 1, 1) := by decide +kernel
theorem d_Mod_condition_117 : decode b_Mod_condition 117 = .ok (.isub, 1) := by decide +kernel
theorem d_Mod_condition_118 : decode b_Mod_condition 118 = .ok (.aload_n 0, 1) := by decide +kernel
theorem d_Mod_condition_119 : decode b_Mod_condition 119 = .ok (.getfield 303, 3) := by decide +kernel
theorem d_Mod_condition_122 : decode b_Mod_condition 122 = .ok (.iload_n 2, 1) := by decide +kernel
theorem d_Mod_condition_123 : decode b_Mod_condition 123 = .ok (.iconst 1, 1) := by decide +kernel
theorem d_Mod_condition_124 : decode b_Mod_condition 124 = .ok (.isub, 1) := by decide +kernel
theorem d_Mod_condition_125 : decode b_Mod_condition 125 = .ok (.iaload, 1) := by decide +kernel
theorem d_Mod_condition_126 : decode b_Mod_condition 126 = .ok (.aload_n 0, 1) := by decide +kernel
theorem d_Mod_condition_127 : decode b_Mod_condition 127 = .ok (.getfield 303, 3) := by decide +kernel
theorem d_Mod_condition_130 : decode b_Mod_condition 130 = .ok (.iload_n 2, 1) := by decide +kernel
theorem d_Mod_condition_131 : decode b_Mod_condition 131 = .ok (.iaload, 1) := by decide +kernel
theorem d_Mod_condition_132 : decode b_Mod_condition 132 = .ok (.iload 5, 2) := by decide +kernel
theorem d_Mod_condition_134 : decode b_Mod_condition 134 = .ok (.bipush 6, 2) := by decide +kernel
theorem d_Mod_condition_136 : decode b_Mod_condition 136 = .ok (.if_icmp .ne 7, 3) := by decide +kernel
theorem d_Mod_condition_143 : decode b_Mod_condition 143 = .ok (.iconst 0, 1) := by decide +kernel
theorem d_Mod_condition_139 : decode b_Mod_condition 139 = .ok (.iconst 1, 1) := by decide +kernel
theorem d_Mod_condition_140 : decode b_Mod_condition 140 = .ok (.goto 4, 3) := by decide +kernel
theorem d_Mod_condition_86 : decode b_Mod_condition 86 = .ok (.aload_n 0, 1) := by decide +kernel
theorem d_Mod_condition_87 : decode b_Mod_condition 87 = .ok (.getfield 303, 3) := by decide +kernel
theorem d_Mod_condition_90 : decode b_Mod_condition 90 = .ok (.iload_n 2, 1) := by decide +kernel
theorem d_Mod_condition_91 : decode b_Mod_condition 91 = .ok (.iconst 1, 1) := by decide +kernel
theorem d_Mod_condition_92 : decode b_Mod_condition 92 = .ok (.isub, 1) := by decide +kernel
theorem d_Mod_condition_93 : decode b_Mod_condition 93 = .ok (.aload_n 0, 1) := by decide +kernel
theorem d_Mod_condition_94 : decode b_Mod_condition 94 = .ok (.getfield 303, 3) := by decide +kernel
theorem d_Mod_condition_97 : decode b_Mod_condition 97 = .ok (.iload_n 2, 1) := by decide +kernel
theorem d_Mod_condition_98 : decode b_Mod_condition 98 = .ok (.iconst 1, 1) := by decide +kernel
theorem d_Mod_condition_99 : decode b_Mod_condition 99 = .ok (.isub, 1) := by decide +kernel
theorem d_Mod_condition_100 : decode b_Mod_condition 100 = .ok (.iaload, 1) := by decide +kernel
theorem d_Mod_condition_101 : decode b_Mod_condition 101 = .ok (.invokestatic 1089, 3) := by decide +kernel
theorem d_Mod_condition_104 : decode b_Mod_condition 104 = .ok (.iastore, 1) := by decide +kernel
theorem d_Mod_condition_105 : decode b_Mod_condition 105 = .ok (.goto 43, 3) := by decide +kernel
theorem d_Mod_condition_47 : decode b_Mod_condition 47 = .ok (.aload_n 0, 1) := by decide +kernel
theorem d_Mod_condition_48 : decode b_Mod_condition 48 = .ok (.getfield 303, 3) := by decide +kernel
theorem d_Mod_condition_51 : decode b_Mod_condition 51 = .ok (.iload_n 2, 1) := by decide +kernel
theorem d_Mod_condition_52 : decode b_Mod_condition 52 = .ok (.iload_n 1, 1) := by decide +kernel
theorem d_Mod_condition_53 : decode b_Mod_condition 53 = .ok (.iconst (-1), 1) := by decide +kernel
theorem d_Mod_condition_54 : decode b_Mod_condition 54 = .ok (.if_icmp .ne 12, 3) := by decide +kernel
theorem d_Mod_condition_66 : decode b_Mod_condition 66 = .ok (.aload_n 0, 1) := by decide +kernel
theorem d_Mod_condition_67 : decode b_Mod_condition 67 = .ok (.iload 4, 2) := by decide +kernel
theorem d_Mod_condition_69 : decode b_Mod_condition 69 = .ok (.iload_n 1, 1) := by decide +kernel
theorem d_Mod_condition_70 : decode b_Mod_condition 70 = .ok (.invokevirtual 1098, 3) := by decide +kernel
theorem d_Mod_condition_57 : decode b_Mod_condition 57 = .ok (.aload_n 0, 1) := by decide +kernel
theorem d_Mod_condition_58 : decode b_Mod_condition 58 = .ok (.iload 4, 2) := by decide +kernel
theorem d_Mod_condition_60 : decode b_Mod_condition 60 = .ok (.invokevirtual 1095, 3) := by decide +kernel
theorem d_Mod_condition_63 : decode b_Mod_condition 63 = .ok (.goto 10, 3) := by decide +kernel
theorem d_Mod_condition_0 : decode b_Mod_condition 0 = .ok (.iconst 0, 1) := by decide +kernel
theorem d_Mod_condition_1 : decode b_Mod_condition 1 = .ok (.istore_n 2, 1) := by decide +kernel
theorem d_Mod_condition_2 : decode b_Mod_condition 2 = .ok (.iconst 0, 1) := by decide +kernel
theorem d_Mod_condition_3 : decode b_Mod_condition 3 = .ok (.istore_n 3, 1) := by decide +kernel
section
variable (l : Launch) (dC : Nat → ClassId) (dI : Nat → Nat → Nat) (cI cB cJ cZ : ClassId)
set_option maxRecDepth 100000 in
set_option maxHeartbeats 4000000 in
set_option maxRecDepth 100000 in
theorem t_Mod_valueAt_e {p : Program} {l : Launch} {e : Env} {R : Room} {s : State} {m : MethodId} {args : Array Value} {below : List Frame} {meth : Method} {c : Code} {cells slots : Nat} {Q : State → Prop} {dC : Nat → ClassId} {dI : Nat → Nat → Nat} {cI cB cJ cZ : ClassId} {A : Nat → Prop} {ad : Nat → Nat} {post : Int32 → St → Prop} (hx : p.tables.exec = Jvm.exec) (hb : c.code = b_Mod_valueAt) (hml : c.maxLocals = 4) (hown : s.vm.findClass R_Mod = some m.cls) (hT : ∀ w ∈ TG, w.before args s = true) (hK : va_K (dC, dI) CL (TY cI cB cJ cZ) s) (hN : NW s) (hA : ∀ q : Nat, s.heap.size ≤ q → A q) (hRc : cells ≤ R.cells) (hRs : slots ≤ R.slots) (hRf : 1 ≤ R.frames) (hRl : 23 ≤ R.locals) (hret : ∀ (r : Int32) (x : St) (H : Heap) (locs : List Loc) (pc : Nat) (ls : Array Slot), decode b_Mod_valueAt pc = .ok (.ireturn, 1) → post r x → Wd dC dI cI cB cJ cZ ad stM kcM 115 A x H → va_S A s.heap H locs → W p l e R s m args below meth c H locs cells slots Q (F0 m pc ls [.int r])) : ∀ (l1 : Int32) (l2 : Int32) (x : St) (H : Heap) (locs : List Loc) (ls : Array Slot), wp_Mod_valueAt post l1 l2 x → Wd dC dI cI cB cJ cZ ad stM kcM 115 A x H → va_S A s.heap H locs → lv_has ls 4 [(0, .ref (ad 0)), (1, .int l1), (2, .int l2)] → W p l e R s m args below meth c H locs cells slots Q (F0 m 0 ls []) := by
  intro l1 l2 x H locs ls  hw hW hS hl
  unfold wp_Mod_valueAt at hw
  refine lv_aload_n hx hb d_Mod_valueAt_0 rfl (lv_at hl 0 rfl) ?_
  refine lv_iload_n hx hb d_Mod_valueAt_1 rfl (lv_at hl 2 rfl) ?_
  have hF := hW.free hS hA
  refine va_calli (va_runV (C := R_Mod) (As := [.int l2]) (rest := []) ⟨hx, hb, hml, hown, hT⟩ (k_Mod_groupOf l dC dI cI cB cJ cZ ad H.size l2 x  hw) ⟨callB_of 1 hT (gwt_in w_13_58) rfl rfl rfl (hT _ w_1_15) (hT _ w_13_55) (by decide +kernel) ⟨Nat.le_trans (Nat.le_of_ble_eq_true rfl) hRf, Nat.le_trans (Nat.le_of_ble_eq_true rfl) hRl⟩, hT _ w_13_57, hT _ ws_224⟩ ⟨PW.blind, va_recv hK hW.1 (ci := 12) (q0 := 0) rfl (pic_obj ko_0.1 ko_0.2 (by decide)), PW.at _ hW hK hN⟩ rfl rfl hl.1 rfl (lv_room (Nat.le_of_ble_eq_true rfl)) d_Mod_valueAt_2 ⟨hRc, hRs⟩) hS (fun q _ h => hF q h) hF (fun r2420 x2419 t H locs ht hvm hw hB hz1 hk1 hS => ?_)
  have hW := Wd.back hB ht hF
  clear hB ht hF hz1 hk1 hvm
  refine lv_istore_n (lv' := [(3, .int r2420), (0, .ref (ad 0)), (1, .int l1), (2, .int l2)]) hx hb d_Mod_valueAt_5 rfl hl (by decide) rfl (fun ls hl => ?_)
  refine lv_aload_n hx hb d_Mod_valueAt_6 rfl (lv_at hl 1 rfl) ?_
  refine w_getf (q := 60) (k := 97) (t := 12) (C := R_Mod) (T := F_Mod) (N := 167) hx hb hT hown hK hW ko_0.1 ko_0.2 (by decide) in_Mod rfl rfl (by decide) rfl fr_Mod_97 w_9_33 d_Mod_valueAt_7 rfl ?_
  refine lv_aload_n hx hb d_Mod_valueAt_10 rfl (lv_at hl 1 rfl) ?_
  refine w_getf (q := 65) (k := 102) (t := 12) (C := R_Mod) (T := F_Mod) (N := 167) hx hb hT hown hK hW ko_0.1 ko_0.2 (by decide) in_Mod rfl rfl (by decide) rfl fr_Mod_102 w_9_38 d_Mod_valueAt_11 rfl ?_
  refine lv_aload_n hx hb d_Mod_valueAt_14 rfl (lv_at hl 1 rfl) ?_
  refine w_getf (q := 10) (k := 12) (t := 12) (C := R_Mod) (T := F_Mod) (N := 167) hx hb hT hown hK hW ko_0.1 ko_0.2 (by decide) in_Mod rfl rfl (by decide) rfl fr_Mod_12 w_8_188 d_Mod_valueAt_15 rfl ?_
  refine lv_iconst (v := 1) hx hb d_Mod_valueAt_18 (by decide) ?_
  obtain ⟨hi, hw⟩ := hw
  refine w_iald (o := 10) hx hb hK hW ko_10.1 ko_10.2 hi d_Mod_valueAt_19 ?_
  refine lv_iload_n hx hb d_Mod_valueAt_20 rfl (lv_at hl 0 rfl) ?_
  refine lv_imul hx hb d_Mod_valueAt_21 ?_
  refine lv_aload_n hx hb d_Mod_valueAt_22 rfl (lv_at hl 1 rfl) ?_
  refine w_getf (q := 6) (k := 8) (t := 12) (C := R_Mod) (T := F_Mod) (N := 167) hx hb hT hown hK hW ko_0.1 ko_0.2 (by decide) in_Mod rfl rfl (by decide) rfl fr_Mod_8 w_8_184 d_Mod_valueAt_23 rfl ?_
  refine lv_iconst (v := 1) hx hb d_Mod_valueAt_26 (by decide) ?_
  refine lv_iload_n hx hb d_Mod_valueAt_27 rfl (lv_at hl 2 rfl) ?_
  have hF := hW.free hS hA
  refine va_calli (va_runS (As := [.int 1, .int l1]) (rest := [.ref (ad 6), .int ((rA x2419 10 1) * r2420), .ref (ad 65), .ref (ad 60)]) ⟨hx, hb, hml, hown, hT⟩ (k_Mod_place l dC dI cI cB cJ cZ ad H.size 1 l1 x2419  hw) ⟨callB_of 2 hT (gwt_in w_11_30) rfl rfl rfl (hT _ w_1_15) (hT _ w_11_28) (by decide +kernel) ⟨Nat.le_trans (Nat.le_of_ble_eq_true rfl) hRf, Nat.le_trans (Nat.le_of_ble_eq_true rfl) hRl⟩, hT _ w_11_29⟩ ⟨PW.blind, PW.at _ hW hK hN⟩ rfl rfl hl.1 rfl (lv_room (Nat.le_of_ble_eq_true rfl)) d_Mod_valueAt_28 ⟨hRc, hRs⟩) hS (fun q _ h => hF q h) hF (fun r2422 x2421 t H locs ht hvm hw hB hz1 hk1 hS => ?_)
  have hW := Wd.back hB ht hF
  clear hB ht hF hz1 hk1 hvm
  obtain ⟨hi, hw⟩ := hw
  refine w_iald (o := 6) hx hb hK hW ko_6.1 ko_6.2 hi d_Mod_valueAt_31 ?_
  refine lv_iadd hx hb d_Mod_valueAt_32 ?_
  obtain ⟨hi, hw⟩ := hw
  refine w_iald (o := 65) hx hb hK hW ko_65.1 ko_65.2 hi d_Mod_valueAt_33 ?_
  refine lv_iload_n hx hb d_Mod_valueAt_34 rfl (lv_at hl 3 rfl) ?_
  refine lv_iadd hx hb d_Mod_valueAt_35 ?_
  refine lv_aload_n hx hb d_Mod_valueAt_36 rfl (lv_at hl 1 rfl) ?_
  refine lv_iload_n hx hb d_Mod_valueAt_37 rfl (lv_at hl 0 rfl) ?_
  have hF := hW.free hS hA
  refine va_calli (va_runV (C := R_Mod) (As := [.int r2420]) (rest := [.int ((rA x2421 65 (((rA x2419 10 1) * r2420) + (rA x2421 6 r2422))) + l2), .ref (ad 60)]) ⟨hx, hb, hml, hown, hT⟩ (k_Mod_firstRow l dC dI cI cB cJ cZ ad H.size r2420 x2421  hw) ⟨callB_of 1 hT (gwt_in w_13_62) rfl rfl rfl (hT _ w_1_15) (hT _ w_13_59) (by decide +kernel) ⟨Nat.le_trans (Nat.le_of_ble_eq_true rfl) hRf, Nat.le_trans (Nat.le_of_ble_eq_true rfl) hRl⟩, hT _ w_13_61, hT _ ws_225⟩ ⟨PW.blind, va_recv hK hW.1 (ci := 12) (q0 := 0) rfl (pic_obj ko_0.1 ko_0.2 (by decide)), PW.at _ hW hK hN⟩ rfl rfl hl.1 rfl (lv_room (Nat.le_of_ble_eq_true rfl)) d_Mod_valueAt_38 ⟨hRc, hRs⟩) hS (fun q _ h => hF q h) hF (fun r2424 x2423 t H locs ht hvm hw hB hz1 hk1 hS => ?_)
  have hW := Wd.back hB ht hF
  clear hB ht hF hz1 hk1 hvm
  refine lv_isub hx hb d_Mod_valueAt_41 ?_
  obtain ⟨hi, hw⟩ := hw
  refine w_iald (o := 60) hx hb hK hW ko_60.1 ko_60.2 hi d_Mod_valueAt_42 ?_
  exact hret (rA x2423 60 (((rA x2421 65 (((rA x2419 10 1) * r2420) + (rA x2421 6 r2422))) + l2) - r2424)) x2423 H locs 43 ls d_Mod_valueAt_43 hw hW hS
set_option maxHeartbeats 4000000 in
set_option maxRecDepth 100000 in
theorem k_Mod_valueAt (l : Launch) (dC : Nat → ClassId) (dI : Nat → Nat → Nat) (cI cB cJ cZ : ClassId) (ad : Nat → Nat) (sz : Nat) (l1 : Int32) (l2 : Int32) (x : St) {post : Int32 → St → Prop} (hw : wp_Mod_valueAt post l1 l2 x) : Met l y_Mod_valueAt (wsOf y_Mod_valueAt b_Mod_valueAt 4 (some (.int))) ({ frames := 1, cells := 0, slots := 0, locals := 23 }) (va_Pc [.ref (ad 0), .int l1, .int l2] (PW dC dI cI cB cJ cZ ad stM kcM 115 sz x)) (va_Qi (fun (r : Int32) (y : St) => post r y) (fun y t => Wd dC dI cI cB cJ cZ ad stM kcM 115 (va_A (pic ad stM kcM 115 cI cB cJ cZ x) sz) y t.heap) (va_A (pic ad stM kcM 115 cI cB cJ cZ x) sz)) 0 0 (va_A (pic ad stM kcM 115 cI cB cJ cZ x) sz) := by
  refine Met.ofW (cc := b_Mod_valueAt) (maxL := 4) (ret := some (.int)) (by decide) rfl ?_
  intro p e s m args below meth c s₁ B hml hv
  obtain ⟨rfl, hsz, hW0, hK, hN⟩ := hv
  have hx := B.exec
  have hb := B.bytes
  have hr := B.returns
  have hts := atoms_spec B.pre
  have hT : ∀ w ∈ TG, w.before _ s = true := fun w h => hts w (List.mem_cons_of_mem _ h)
  have hown : s.vm.findClass R_Mod = some m.cls := findClass_of_methodNamed B.named
  have hlocks := B.notSynchronized
  subst hsz
  have hW : Wd dC dI cI cB cJ cZ ad stM kcM 115 (va_A (pic ad stM kcM 115 cI cB cJ cZ x) s.heap.size) x s.heap := ⟨hW0.1, hW0.2.1.self (sz := s.heap.size), hW0.2.2⟩
  generalize hAe : va_A (pic ad stM kcM 115 cI cB cJ cZ x) s.heap.size = A at hW ⊢
  have hA : ∀ q : Nat, s.heap.size ≤ q → A q := fun q h => by rw [← hAe]; exact Or.inr h
  have hS : va_S A s.heap s.heap [] := va_S.rf
  have hl := lv_entry ([.ref (ad 0), .int l1, .int l2]) (n := 4) (Nat.le_of_ble_eq_true rfl)
  rw [lg_entry_eq]
  generalize (lg_sl ([.ref (ad 0), .int l1, .int l2]) ++ List.replicate (4 - (lg_sl ([.ref (ad 0), .int l1, .int l2])).length) Slot.unset).toArray = ls at hl ⊢
  have hl : lv_has ls 4 [(0, .ref (ad 0)), (1, .int l1), (2, .int l2)] := hl
  exact t_Mod_valueAt_e hx hb hml hown hT hK hN hA (Nat.le_refl 0) (Nat.le_refl 0) (Nat.le_refl 1) (Nat.le_refl 23) (fun r x H locs pc ls hd hp hW hS => W.iret (v := r) hx hb hr (fun t ht hM => ⟨⟨r, x, rfl, hp, Wd.back hW ht.symm (fun _ z => z)⟩, hS.F ht⟩) hS.2.2 hd hlocks)  l1 l2 x _ _ ls  hw hW hS hl
set_option maxRecDepth 100000 in
set_option maxHeartbeats 4000000 in
set_option maxRecDepth 100000 in
theorem t_Mod_truthOf_231 {p : Program} {l : Launch} {e : Env} {R : Room} {s : State} {m : MethodId} {args : Array Value} {below : List Frame} {meth : Method} {c : Code} {cells slots : Nat} {Q : State → Prop} {dC : Nat → ClassId} {dI : Nat → Nat → Nat} {cI cB cJ cZ : ClassId} {A : Nat → Prop} {ad : Nat → Nat} {post : Int32 → St → Prop} {rec190 : Int32 → Int32 → Int32 → Int32 → Int32 → Int32 → Int32 → Int32 → St → Prop} (hx : p.tables.exec = Jvm.exec) (hb : c.code = b_Mod_truthOf) (hml : c.maxLocals = 9) (hown : s.vm.findClass R_Mod = some m.cls) (hT : ∀ w ∈ TG, w.before args s = true) (hK : va_K (dC, dI) CL (TY cI cB cJ cZ) s) (hN : NW s) (hA : ∀ q : Nat, s.heap.size ≤ q → A q) (hRc : cells ≤ R.cells) (hRs : slots ≤ R.slots) (hRf : 2 ≤ R.frames) (hRl : 46 ≤ R.locals) (hret : ∀ (r : Int32) (x : St) (H : Heap) (locs : List Loc) (pc : Nat) (ls : Array Slot), decode b_Mod_truthOf pc = .ok (.ireturn, 1) → post r x → Wd dC dI cI cB cJ cZ ad stM kcM 115 A x H → va_S A s.heap H locs → W p l e R s m args below meth c H locs cells slots Q (F0 m pc ls [.int r])) (hrec190 : ∀ (l1 : Int32) (l2 : Int32) (l3 : Int32) (l4 : Int32) (l5 : Int32) (l6 : Int32) (l7 : Int32) (l8 : Int32) (x : St) (H : Heap) (locs : List Loc) (ls : Array Slot), rec190 l1 l2 l3 l4 l5 l6 l7 l8 x → Wd dC dI cI cB cJ cZ ad stM kcM 115 A x H → va_S A s.heap H locs → lv_has ls 9 [(0, .ref (ad 0)), (1, .int l1), (2, .int l2), (3, .int l3), (4, .int l4), (5, .int l5), (6, .int l6), (7, .int l7), (8, .int l8)] → W p l e R s m args below meth c H locs cells slots Q (F0 m 190 ls [])) : ∀ (l1 : Int32) (l2 : Int32) (l3 : Int32) (l4 : Int32) (l5 : Int32) (l6 : Int32) (l7 : Int32) (l8 : Int32) (s0 : Int32) (x : St) (H : Heap) (locs : List Loc) (ls : Array Slot), j_Mod_truthOf_231 post rec190 l1 l2 l3 l4 l5 l6 l7 l8 s0 x → Wd dC dI cI cB cJ cZ ad stM kcM 115 A x H → va_S A s.heap H locs → lv_has ls 9 [(0, .ref (ad 0)), (1, .int l1), (2, .int l2), (3, .int l3), (4, .int l4), (5, .int l5), (6, .int l6), (7, .int l7), (8, .int l8)] → W p l e R s m args below meth c H locs cells slots Q (F0 m 231 ls [.int s0]) := by
  intro l1 l2 l3 l4 l5 l6 l7 l8 s0 x H locs ls  hw hW hS hl
  unfold j_Mod_truthOf_231 at hw
  refine lv_istore (lv' := [(7, .int s0), (0, .ref (ad 0)), (1, .int l1), (2, .int l2), (3, .int l3), (4, .int l4), (5, .int l5), (6, .int l6), (8, .int l8)]) hx hb d_Mod_truthOf_231 hl (by decide) rfl (fun ls hl => ?_)
  refine lv_iinc (v := (l8 + 1)) (lv' := [(8, .int (l8 + 1)), (7, .int s0), (0, .ref (ad 0)), (1, .int l1), (2, .int l2), (3, .int l3), (4, .int l4), (5, .int l5), (6, .int l6)]) hx hb d_Mod_truthOf_233 hl (k := 8) rfl rfl (by decide) rfl (fun ls hl => ?_)
  refine lv_goto (tgt := 190) hx hb d_Mod_truthOf_236 (by decide) ?_
  exact hrec190 l1 l2 l3 l4 l5 l6 s0 (l8 + 1) x H locs ls  hw hW hS (lv_sub hl [2, 3, 4, 5, 6, 7, 8, 1, 0] rfl)
set_option maxRecDepth 100000 in
set_option maxHeartbeats 4000000 in
set_option maxRecDepth 100000 in
theorem t_Mod_truthOf_226 {p : Program} {l : Launch} {e : Env} {R : Room} {s : State} {m : MethodId} {args : Array Value} {below : List Frame} {meth : Method} {c : Code} {cells slots : Nat} {Q : State → Prop} {dC : Nat → ClassId} {dI : Nat → Nat → Nat} {cI cB cJ cZ : ClassId} {A : Nat → Prop} {ad : Nat → Nat} {post : Int32 → St → Prop} {rec190 : Int32 → Int32 → Int32 → Int32 → Int32 → Int32 → Int32 → Int32 → St → Prop} (hx : p.tables.exec = Jvm.exec) (hb : c.code = b_Mod_truthOf) (hml : c.maxLocals = 9) (hown : s.vm.findClass R_Mod = some m.cls) (hT : ∀ w ∈ TG, w.before args s = true) (hK : va_K (dC, dI) CL (TY cI cB cJ cZ) s) (hN : NW s) (hA : ∀ q : Nat, s.heap.size ≤ q → A q) (hRc : cells ≤ R.cells) (hRs : slots ≤ R.slots) (hRf : 2 ≤ R.frames) (hRl : 46 ≤ R.locals) (hret : ∀ (r : Int32) (x : St) (H : Heap) (locs : List Loc) (pc : Nat) (ls : Array Slot), decode b_Mod_truthOf pc = .ok (.ireturn, 1) → post r x → Wd dC dI cI cB cJ cZ ad stM kcM 115 A x H → va_S A s.heap H locs → W p l e R s m args below meth c H locs cells slots Q (F0 m pc ls [.int r])) (hrec190 : ∀ (l1 : Int32) (l2 : Int32) (l3 : Int32) (l4 : Int32) (l5 : Int32) (l6 : Int32) (l7 : Int32) (l8 : Int32) (x : St) (H : Heap) (locs : List Loc) (ls : Array Slot), rec190 l1 l2 l3 l4 l5 l6 l7 l8 x → Wd dC dI cI cB cJ cZ ad stM kcM 115 A x H → va_S A s.heap H locs → lv_has ls 9 [(0, .ref (ad 0)), (1, .int l1), (2, .int l2), (3, .int l3), (4, .int l4), (5, .int l5), (6, .int l6), (7, .int l7), (8, .int l8)] → W p l e R s m args below meth c H locs cells slots Q (F0 m 190 ls [])) : ∀ (l1 : Int32) (l2 : Int32) (l3 : Int32) (l4 : Int32) (l5 : Int32) (l6 : Int32) (l7 : Int32) (l8 : Int32) (x : St) (H : Heap) (locs : List Loc) (ls : Array Slot), j_Mod_truthOf_226 post rec190 l1 l2 l3 l4 l5 l6 l7 l8 x → Wd dC dI cI cB cJ cZ ad stM kcM 115 A x H → va_S A s.heap H locs → lv_has ls 9 [(0, .ref (ad 0)), (1, .int l1), (2, .int l2), (3, .int l3), (4, .int l4), (5, .int l5), (6, .int l6), (7, .int l7), (8, .int l8)] → W p l e R s m args below meth c H locs cells slots Q (F0 m 226 ls []) := by
  intro l1 l2 l3 l4 l5 l6 l7 l8 x H locs ls  hw hW hS hl
  unfold j_Mod_truthOf_226 at hw
  refine lv_iconst (v := 1) hx hb d_Mod_truthOf_226 (by decide) ?_
  refine lv_goto (tgt := 231) hx hb d_Mod_truthOf_227 (by decide) ?_
  exact t_Mod_truthOf_231 hx hb hml hown hT hK hN hA hRc hRs hRf hRl hret hrec190 l1 l2 l3 l4 l5 l6 l7 l8 1 x H locs ls  hw hW hS (lv_sub hl [0, 1, 2, 3, 4, 5, 6, 7, 8] rfl)
set_option maxRecDepth 100000 in
set_option maxHeartbeats 4000000 in
set_option maxRecDepth 100000 in
theorem t_Mod_truthOf_190 {p : Program} {l : Launch} {e : Env} {R : Room} {s : State} {m : MethodId} {args : Array Value} {below : List Frame} {meth : Method} {c : Code} {cells slots : Nat} {Q : State → Prop} {dC : Nat → ClassId} {dI : Nat → Nat → Nat} {cI cB cJ cZ : ClassId} {A : Nat → Prop} {ad : Nat → Nat} {post : Int32 → St → Prop} {rec190 : Int32 → Int32 → Int32 → Int32 → Int32 → Int32 → Int32 → Int32 → St → Prop} (hx : p.tables.exec = Jvm.exec) (hb : c.code = b_Mod_truthOf) (hml : c.maxLocals = 9) (hown : s.vm.findClass R_Mod = some m.cls) (hT : ∀ w ∈ TG, w.before args s = true) (hK : va_K (dC, dI) CL (TY cI cB cJ cZ) s) (hN : NW s) (hA : ∀ q : Nat, s.heap.size ≤ q → A q) (hRc : cells ≤ R.cells) (hRs : slots ≤ R.slots) (hRf : 2 ≤ R.frames) (hRl : 46 ≤ R.locals) (hret : ∀ (r : Int32) (x : St) (H : Heap) (locs : List Loc) (pc : Nat) (ls : Array Slot), decode b_Mod_truthOf pc = .ok (.ireturn, 1) → post r x → Wd dC dI cI cB cJ cZ ad stM kcM 115 A x H → va_S A s.heap H locs → W p l e R s m args below meth c H locs cells slots Q (F0 m pc ls [.int r])) (hrec190 : ∀ (l1 : Int32) (l2 : Int32) (l3 : Int32) (l4 : Int32) (l5 : Int32) (l6 : Int32) (l7 : Int32) (l8 : Int32) (x : St) (H : Heap) (locs : List Loc) (ls : Array Slot), rec190 l1 l2 l3 l4 l5 l6 l7 l8 x → Wd dC dI cI cB cJ cZ ad stM kcM 115 A x H → va_S A s.heap H locs → lv_has ls 9 [(0, .ref (ad 0)), (1, .int l1), (2, .int l2), (3, .int l3), (4, .int l4), (5, .int l5), (6, .int l6), (7, .int l7), (8, .int l8)] → W p l e R s m args below meth c H locs cells slots Q (F0 m 190 ls [])) : ∀ (l1 : Int32) (l2 : Int32) (l3 : Int32) (l4 : Int32) (l5 : Int32) (l6 : Int32) (l7 : Int32) (l8 : Int32) (x : St) (H : Heap) (locs : List Loc) (ls : Array Slot), j_Mod_truthOf_190 post rec190 l1 l2 l3 l4 l5 l6 l7 l8 x → Wd dC dI cI cB cJ cZ ad stM kcM 115 A x H → va_S A s.heap H locs → lv_has ls 9 [(0, .ref (ad 0)), (1, .int l1), (2, .int l2), (3, .int l3), (4, .int l4), (5, .int l5), (6, .int l6), (7, .int l7), (8, .int l8)] → W p l e R s m args below meth c H locs cells slots Q (F0 m 190 ls []) := by
  intro l1 l2 l3 l4 l5 l6 l7 l8 x H locs ls  hw hW hS hl
  unfold j_Mod_truthOf_190 at hw
  refine lv_iload hx hb d_Mod_truthOf_190 (lv_at hl 8 rfl) ?_
  refine lv_aload_n hx hb d_Mod_truthOf_192 rfl (lv_at hl 0 rfl) ?_
  refine w_getf (q := 88) (k := 131) (t := 12) (C := R_Mod) (T := F_Mod) (N := 167) hx hb hT hown hK hW ko_0.1 ko_0.2 (by decide) in_Mod rfl rfl (by decide) rfl fr_Mod_131 w_9_67 d_Mod_truthOf_193 rfl ?_
  refine lv_iload_n hx hb d_Mod_truthOf_196 rfl (lv_at hl 1 rfl) ?_
  obtain ⟨hi, hw⟩ := hw
  refine w_iald (o := 88) hx hb hK hW ko_88.1 ko_88.2 hi d_Mod_truthOf_197 ?_
  refine lv_icmp_ge (tgt := 239) hx hb d_Mod_truthOf_198 (by decide) (fun c2425 => ?_) (fun c2425 => ?_)
  · have hw := hw.1 c2425
    refine lv_iload hx hb d_Mod_truthOf_239 (lv_at hl 7 rfl) ?_
    refine lv_if_eq (tgt := 248) hx hb d_Mod_truthOf_241 (by decide) (fun c2426 => ?_) (fun c2426 => ?_)
    · have hw := hw.1 c2426
      refine lv_iconst (v := 1) hx hb d_Mod_truthOf_248 (by decide) ?_
      exact hret 1 x H locs 249 ls d_Mod_truthOf_249 hw hW hS
    · have hw := hw.2 c2426
      refine lv_iconst (v := 2) hx hb d_Mod_truthOf_244 (by decide) ?_
      refine lv_goto (tgt := 249) hx hb d_Mod_truthOf_245 (by decide) ?_
      exact hret 2 x H locs 249 ls d_Mod_truthOf_249 hw hW hS
  · have hw := hw.2 c2425
    refine lv_iload hx hb d_Mod_truthOf_201 (lv_at hl 7 rfl) ?_
    refine lv_if_ne (tgt := 226) hx hb d_Mod_truthOf_203 (by decide) (fun c2427 => ?_) (fun c2427 => ?_)
    · have hw := hw.1 c2427
      exact t_Mod_truthOf_226 hx hb hml hown hT hK hN hA hRc hRs hRf hRl hret hrec190 l1 l2 l3 l4 l5 l6 l7 l8 x H locs ls  hw hW hS (lv_sub hl [0, 1, 2, 3, 4, 5, 6, 7, 8] rfl)
    · have hw := hw.2 c2427
      refine lv_aload_n hx hb d_Mod_truthOf_206 rfl (lv_at hl 0 rfl) ?_
      refine lv_iload_n hx hb d_Mod_truthOf_207 rfl (lv_at hl 3 rfl) ?_
      refine lv_iload hx hb d_Mod_truthOf_208 (lv_at hl 6 rfl) ?_
      refine lv_aload_n hx hb d_Mod_truthOf_210 rfl (lv_at hl 0 rfl) ?_
      refine w_getf (q := 87) (k := 130) (t := 12) (C := R_Mod) (T := F_Mod) (N := 167) hx hb hT hown hK hW ko_0.1 ko_0.2 (by decide) in_Mod rfl rfl (by decide) rfl fr_Mod_130 w_9_66 d_Mod_truthOf_211 rfl ?_
      refine lv_iload_n hx hb d_Mod_truthOf_214 rfl (lv_at hl 1 rfl) ?_
      obtain ⟨hi, hw⟩ := hw
      refine w_iald (o := 87) hx hb hK hW ko_87.1 ko_87.2 hi d_Mod_truthOf_215 ?_
      refine lv_iadd hx hb d_Mod_truthOf_216 ?_
      refine lv_iload hx hb d_Mod_truthOf_217 (lv_at hl 8 rfl) ?_
      refine lv_iadd hx hb d_Mod_truthOf_219 ?_
      have hF := hW.free hS hA
      refine va_calli (va_runV (C := R_Mod) (As := [.int l3, .int ((l6 + (rA x 87 l1)) + l8)]) (rest := []) ⟨hx, hb, hml, hown, hT⟩ (k_Mod_againstLiteral l dC dI cI cB cJ cZ ad H.size l3 ((l6 + (rA x 87 l1)) + l8) x  hw) ⟨callB_of 2 hT (gwt_in w_13_237) rfl rfl rfl (hT _ w_1_15) (hT _ w_13_234) (by decide +kernel) ⟨Nat.le_trans (Nat.le_of_ble_eq_true rfl) hRf, Nat.le_trans (Nat.le_of_ble_eq_true rfl) hRl⟩, hT _ w_13_236, hT _ ws_259⟩ ⟨PW.blind, va_recv hK hW.1 (ci := 12) (q0 := 0) rfl (pic_obj ko_0.1 ko_0.2 (by decide)), PW.at _ hW hK hN⟩ rfl rfl hl.1 rfl (lv_room (Nat.le_of_ble_eq_true rfl)) d_Mod_truthOf_220 ⟨hRc, hRs⟩) hS (fun q _ h => hF q h) hF (fun r2429 x2428 t H locs ht hvm hw hB hz1 hk1 hS => ?_)
      have hW := Wd.back hB ht hF
      clear hB ht hF hz1 hk1 hvm
      refine lv_if_ne (tgt := 230) hx hb d_Mod_truthOf_223 (by decide) (fun c2430 => ?_) (fun c2430 => ?_)
      · have hw := hw.1 c2430
        refine lv_iconst (v := 0) hx hb d_Mod_truthOf_230 (by decide) ?_
        exact t_Mod_truthOf_231 hx hb hml hown hT hK hN hA hRc hRs hRf hRl hret hrec190 l1 l2 l3 l4 l5 l6 l7 l8 0 x2428 H locs ls  hw hW hS (lv_sub hl [0, 1, 2, 3, 4, 5, 6, 7, 8] rfl)
      · have hw := hw.2 c2430
        exact t_Mod_truthOf_226 hx hb hml hown hT hK hN hA hRc hRs hRf hRl hret hrec190 l1 l2 l3 l4 l5 l6 l7 l8 x2428 H locs ls  hw hW hS (lv_sub hl [0, 1, 2, 3, 4, 5, 6, 7, 8] rfl)
set_option maxHeartbeats 4000000 in
set_option maxRecDepth 100000 in
theorem tl_Mod_truthOf_190 {p : Program} {l : Launch} {e : Env} {R : Room} {s : State} {m : MethodId} {args : Array Value} {below : List Frame} {meth : Method} {c : Code} {cells slots : Nat} {Q : State → Prop} {dC : Nat → ClassId} {dI : Nat → Nat → Nat} {cI cB cJ cZ : ClassId} {A : Nat → Prop} {ad : Nat → Nat} {post : Int32 → St → Prop} (hx : p.tables.exec = Jvm.exec) (hb : c.code = b_Mod_truthOf) (hml : c.maxLocals = 9) (hown : s.vm.findClass R_Mod = some m.cls) (hT : ∀ w ∈ TG, w.before args s = true) (hK : va_K (dC, dI) CL (TY cI cB cJ cZ) s) (hN : NW s) (hA : ∀ q : Nat, s.heap.size ≤ q → A q) (hRc : cells ≤ R.cells) (hRs : slots ≤ R.slots) (hRf : 2 ≤ R.frames) (hRl : 46 ≤ R.locals) (hret : ∀ (r : Int32) (x : St) (H : Heap) (locs : List Loc) (pc : Nat) (ls : Array Slot), decode b_Mod_truthOf pc = .ok (.ireturn, 1) → post r x → Wd dC dI cI cB cJ cZ ad stM kcM 115 A x H → va_S A s.heap H locs → W p l e R s m args below meth c H locs cells slots Q (F0 m pc ls [.int r]))  : ∀ n : Nat, ∀ (l1 : Int32) (l2 : Int32) (l3 : Int32) (l4 : Int32) (l5 : Int32) (l6 : Int32) (l7 : Int32) (l8 : Int32) (x : St) (H : Heap) (locs : List Loc) (ls : Array Slot), wl_Mod_truthOf_190 post n l1 l2 l3 l4 l5 l6 l7 l8 x → Wd dC dI cI cB cJ cZ ad stM kcM 115 A x H → va_S A s.heap H locs → lv_has ls 9 [(0, .ref (ad 0)), (1, .int l1), (2, .int l2), (3, .int l3), (4, .int l4), (5, .int l5), (6, .int l6), (7, .int l7), (8, .int l8)] → W p l e R s m args below meth c H locs cells slots Q (F0 m 190 ls []) := by
  intro n
  induction n with
  | zero => intro l1 l2 l3 l4 l5 l6 l7 l8 x H locs ls  hw; exact hw.elim
  | succ n ih => intro l1 l2 l3 l4 l5 l6 l7 l8 x H locs ls  hw hW hS hl; exact t_Mod_truthOf_190 hx hb hml hown hT hK hN hA hRc hRs hRf hRl hret  ih l1 l2 l3 l4 l5 l6 l7 l8 x H locs ls  hw hW hS hl
set_option maxRecDepth 100000 in
set_option maxHeartbeats 4000000 in
set_option maxRecDepth 100000 in
theorem t_Mod_truthOf_89 {p : Program} {l : Launch} {e : Env} {R : Room} {s : State} {m : MethodId} {args : Array Value} {below : List Frame} {meth : Method} {c : Code} {cells slots : Nat} {Q : State → Prop} {dC : Nat → ClassId} {dI : Nat → Nat → Nat} {cI cB cJ cZ : ClassId} {A : Nat → Prop} {ad : Nat → Nat} {post : Int32 → St → Prop} (hx : p.tables.exec = Jvm.exec) (hb : c.code = b_Mod_truthOf) (hml : c.maxLocals = 9) (hown : s.vm.findClass R_Mod = some m.cls) (hT : ∀ w ∈ TG, w.before args s = true) (hK : va_K (dC, dI) CL (TY cI cB cJ cZ) s) (hN : NW s) (hA : ∀ q : Nat, s.heap.size ≤ q → A q) (hRc : cells ≤ R.cells) (hRs : slots ≤ R.slots) (hRf : 2 ≤ R.frames) (hRl : 46 ≤ R.locals) (hret : ∀ (r : Int32) (x : St) (H : Heap) (locs : List Loc) (pc : Nat) (ls : Array Slot), decode b_Mod_truthOf pc = .ok (.ireturn, 1) → post r x → Wd dC dI cI cB cJ cZ ad stM kcM 115 A x H → va_S A s.heap H locs → W p l e R s m args below meth c H locs cells slots Q (F0 m pc ls [.int r]))  : ∀ (l1 : Int32) (l2 : Int32) (l3 : Int32) (l4 : Int32) (l5 : Int32) (x : St) (H : Heap) (locs : List Loc) (ls : Array Slot), j_Mod_truthOf_89 post l1 l2 l3 l4 l5 x → Wd dC dI cI cB cJ cZ ad stM kcM 115 A x H → va_S A s.heap H locs → lv_has ls 9 [(0, .ref (ad 0)), (1, .int l1), (2, .int l2), (3, .int l3), (4, .int l4), (5, .int l5)] → W p l e R s m args below meth c H locs cells slots Q (F0 m 89 ls []) := by
  intro l1 l2 l3 l4 l5 x H locs ls  hw hW hS hl
  unfold j_Mod_truthOf_89 at hw
  refine lv_iconst (v := 4) hx hb d_Mod_truthOf_89 (by decide) ?_
  exact hret 4 x H locs 90 ls d_Mod_truthOf_90 hw hW hS
set_option maxRecDepth 100000 in
set_option maxHeartbeats 4000000 in
set_option maxRecDepth 100000 in
theorem t_Mod_truthOf_76 {p : Program} {l : Launch} {e : Env} {R : Room} {s : State} {m : MethodId} {args : Array Value} {below : List Frame} {meth : Method} {c : Code} {cells slots : Nat} {Q : State → Prop} {dC : Nat → ClassId} {dI : Nat → Nat → Nat} {cI cB cJ cZ : ClassId} {A : Nat → Prop} {ad : Nat → Nat} {post : Int32 → St → Prop} (hx : p.tables.exec = Jvm.exec) (hb : c.code = b_Mod_truthOf) (hml : c.maxLocals = 9) (hown : s.vm.findClass R_Mod = some m.cls) (hT : ∀ w ∈ TG, w.before args s = true) (hK : va_K (dC, dI) CL (TY cI cB cJ cZ) s) (hN : NW s) (hA : ∀ q : Nat, s.heap.size ≤ q → A q) (hRc : cells ≤ R.cells) (hRs : slots ≤ R.slots) (hRf : 2 ≤ R.frames) (hRl : 46 ≤ R.locals) (hret : ∀ (r : Int32) (x : St) (H : Heap) (locs : List Loc) (pc : Nat) (ls : Array Slot), decode b_Mod_truthOf pc = .ok (.ireturn, 1) → post r x → Wd dC dI cI cB cJ cZ ad stM kcM 115 A x H → va_S A s.heap H locs → W p l e R s m args below meth c H locs cells slots Q (F0 m pc ls [.int r]))  : ∀ (l1 : Int32) (l2 : Int32) (l3 : Int32) (l4 : Int32) (s0 : Int32) (x : St) (H : Heap) (locs : List Loc) (ls : Array Slot), j_Mod_truthOf_76 post l1 l2 l3 l4 s0 x → Wd dC dI cI cB cJ cZ ad stM kcM 115 A x H → va_S A s.heap H locs → lv_has ls 9 [(0, .ref (ad 0)), (1, .int l1), (2, .int l2), (3, .int l3), (4, .int l4)] → W p l e R s m args below meth c H locs cells slots Q (F0 m 76 ls [.int s0]) := by
  intro l1 l2 l3 l4 s0 x H locs ls  hw hW hS hl
  unfold j_Mod_truthOf_76 at hw
  refine lv_istore (lv' := [(5, .int s0), (0, .ref (ad 0)), (1, .int l1), (2, .int l2), (3, .int l3), (4, .int l4)]) hx hb d_Mod_truthOf_76 hl (by decide) rfl (fun ls hl => ?_)
  refine lv_iload_n hx hb d_Mod_truthOf_78 rfl (lv_at hl 4 rfl) ?_
  refine lv_iconst (v := (-1)) hx hb d_Mod_truthOf_79 (by decide) ?_
  refine lv_icmp_eq (tgt := 89) hx hb d_Mod_truthOf_80 (by decide) (fun c2431 => ?_) (fun c2431 => ?_)
  · have hw := hw.1 c2431
    exact t_Mod_truthOf_89 hx hb hml hown hT hK hN hA hRc hRs hRf hRl hret  l1 l2 l3 l4 s0 x H locs ls  hw hW hS (lv_sub hl [1, 2, 3, 4, 5, 0] rfl)
  · have hw := hw.2 c2431
    refine lv_iload hx hb d_Mod_truthOf_83 (lv_at hl 0 rfl) ?_
    refine lv_iconst (v := (-1)) hx hb d_Mod_truthOf_85 (by decide) ?_
    refine lv_icmp_ne (tgt := 91) hx hb d_Mod_truthOf_86 (by decide) (fun c2432 => ?_) (fun c2432 => ?_)
    · have hw := hw.1 c2432
      refine lv_iload hx hb d_Mod_truthOf_91 (lv_at hl 5 rfl) ?_
      refine lv_iconst (v := 4) hx hb d_Mod_truthOf_93 (by decide) ?_
      refine lv_icmp_ne (tgt := 137) hx hb d_Mod_truthOf_94 (by decide) (fun c2433 => ?_) (fun c2433 => ?_)
      · have hw := hw.1 c2433
        refine lv_bipush (v := 64) hx hb d_Mod_truthOf_137 (by decide) ?_
        refine lv_iload_n hx hb d_Mod_truthOf_139 rfl (lv_at hl 2 rfl) ?_
        refine lv_bipush (v := 64) hx hb d_Mod_truthOf_140 (by decide) ?_
        refine lv_idiv hx hb d_Mod_truthOf_142 (by decide) ?_
        refine lv_imul hx hb d_Mod_truthOf_143 ?_
        refine lv_topi (fun v2434 ev2434 => ?_)
        have hw := hw v2434 ev2434
        refine lv_istore (lv' := [(6, .int v2434), (5, .int s0), (0, .ref (ad 0)), (1, .int l1), (2, .int l2), (3, .int l3), (4, .int l4)]) hx hb d_Mod_truthOf_144 hl (by decide) rfl (fun ls hl => ?_)
        refine lv_iload hx hb d_Mod_truthOf_146 (lv_at hl 6 rfl) ?_
        refine lv_iconst (v := 3) hx hb d_Mod_truthOf_148 (by decide) ?_
        refine lv_icmp_ne (tgt := 184) hx hb d_Mod_truthOf_149 (by decide) (fun c2435 => ?_) (fun c2435 => ?_)
        · have hw := hw.1 c2435
          refine lv_iconst (v := 0) hx hb d_Mod_truthOf_184 (by decide) ?_
          refine lv_istore (lv' := [(7, .int 0), (6, .int v2434), (5, .int s0), (0, .ref (ad 0)), (1, .int l1), (2, .int l2), (3, .int l3), (4, .int l4)]) hx hb d_Mod_truthOf_185 hl (by decide) rfl (fun ls hl => ?_)
          refine lv_iconst (v := 0) hx hb d_Mod_truthOf_187 (by decide) ?_
          refine lv_istore (lv' := [(8, .int 0), (7, .int 0), (6, .int v2434), (5, .int s0), (0, .ref (ad 0)), (1, .int l1), (2, .int l2), (3, .int l3), (4, .int l4)]) hx hb d_Mod_truthOf_188 hl (by decide) rfl (fun ls hl => ?_)
          obtain ⟨n, hw⟩ := hw
          exact tl_Mod_truthOf_190 hx hb hml hown hT hK hN hA hRc hRs hRf hRl hret  n l1 l2 l3 l4 s0 v2434 0 0 x H locs ls  hw hW hS (lv_sub hl [4, 5, 6, 7, 8, 3, 2, 1, 0] rfl)
        · have hw := hw.2 c2435
          refine lv_aload_n hx hb d_Mod_truthOf_152 rfl (lv_at hl 2 rfl) ?_
          refine w_getf (q := 86) (k := 129) (t := 12) (C := R_Mod) (T := F_Mod) (N := 167) hx hb hT hown hK hW ko_0.1 ko_0.2 (by decide) in_Mod rfl rfl (by decide) rfl fr_Mod_129 w_9_65 d_Mod_truthOf_153 rfl ?_
          refine lv_iload_n hx hb d_Mod_truthOf_156 rfl (lv_at hl 3 rfl) ?_
          obtain ⟨hi, hw⟩ := hw
          refine w_iald (o := 86) hx hb hK hW ko_86.1 ko_86.2 hi d_Mod_truthOf_157 ?_
          refine lv_aload_n hx hb d_Mod_truthOf_158 rfl (lv_at hl 2 rfl) ?_
          refine lv_iload_n hx hb d_Mod_truthOf_159 rfl (lv_at hl 5 rfl) ?_
          refine lv_iload hx hb d_Mod_truthOf_160 (lv_at hl 0 rfl) ?_
          refine lv_aload_n hx hb d_Mod_truthOf_162 rfl (lv_at hl 2 rfl) ?_
          refine w_getf (q := 87) (k := 130) (t := 12) (C := R_Mod) (T := F_Mod) (N := 167) hx hb hT hown hK hW ko_0.1 ko_0.2 (by decide) in_Mod rfl rfl (by decide) rfl fr_Mod_130 w_9_66 d_Mod_truthOf_163 rfl ?_
          refine lv_iload_n hx hb d_Mod_truthOf_166 rfl (lv_at hl 3 rfl) ?_
          obtain ⟨hi, hw⟩ := hw
          refine w_iald (o := 87) hx hb hK hW ko_87.1 ko_87.2 hi d_Mod_truthOf_167 ?_
          refine lv_iadd hx hb d_Mod_truthOf_168 ?_
          have hF := hW.free hS hA
          refine va_calli (va_runV (C := R_Mod) (As := [.int l3, .int (v2434 + (rA x 87 l1))]) (rest := [.int (rA x 86 l1)]) ⟨hx, hb, hml, hown, hT⟩ (k_Mod_againstLiteral l dC dI cI cB cJ cZ ad H.size l3 (v2434 + (rA x 87 l1)) x  hw) ⟨callB_of 2 hT (gwt_in w_13_237) rfl rfl rfl (hT _ w_1_15) (hT _ w_13_234) (by decide +kernel) ⟨Nat.le_trans (Nat.le_of_ble_eq_true rfl) hRf, Nat.le_trans (Nat.le_of_ble_eq_true rfl) hRl⟩, hT _ w_13_236, hT _ ws_259⟩ ⟨PW.blind, va_recv hK hW.1 (ci := 12) (q0 := 0) rfl (pic_obj ko_0.1 ko_0.2 (by decide)), PW.at _ hW hK hN⟩ rfl rfl hl.1 rfl (lv_room (Nat.le_of_ble_eq_true rfl)) d_Mod_truthOf_169 ⟨hRc, hRs⟩) hS (fun q _ h => hF q h) hF (fun r2437 x2436 t H locs ht hvm hw hB hz1 hk1 hS => ?_)
          have hW := Wd.back hB ht hF
          clear hB ht hF hz1 hk1 hvm
          have hF := hW.free hS hA
          refine va_calli (va_runS (As := [.int (rA x 86 l1), .int r2437]) (rest := []) ⟨hx, hb, hml, hown, hT⟩ (k_Mod_holds l dC dI cI cB cJ cZ ad H.size (rA x 86 l1) r2437 x2436  hw) ⟨callB_of 2 hT (gwt_in w_13_226) rfl rfl rfl (hT _ w_1_15) (hT _ w_13_224) (by decide +kernel) ⟨Nat.le_trans (Nat.le_of_ble_eq_true rfl) hRf, Nat.le_trans (Nat.le_of_ble_eq_true rfl) hRl⟩, hT _ w_13_225⟩ ⟨PW.blind, PW.at _ hW hK hN⟩ rfl rfl hl.1 rfl (lv_room (Nat.le_of_ble_eq_true rfl)) d_Mod_truthOf_172 ⟨hRc, hRs⟩) hS (fun q _ h => hF q h) hF (fun r2439 x2438 t H locs ht hvm hw hB hz1 hk1 hS => ?_)
          have hW := Wd.back hB ht hF
          clear hB ht hF hz1 hk1 hvm
          refine lv_if_eq (tgt := 182) hx hb d_Mod_truthOf_175 (by decide) (fun c2440 => ?_) (fun c2440 => ?_)
          · have hw := hw.1 c2440
            refine lv_iconst (v := 1) hx hb d_Mod_truthOf_182 (by decide) ?_
            exact hret 1 x2438 H locs 183 ls d_Mod_truthOf_183 hw hW hS
          · have hw := hw.2 c2440
            refine lv_iconst (v := 2) hx hb d_Mod_truthOf_178 (by decide) ?_
            refine lv_goto (tgt := 183) hx hb d_Mod_truthOf_179 (by decide) ?_
            exact hret 2 x2438 H locs 183 ls d_Mod_truthOf_183 hw hW hS
      · have hw := hw.2 c2433
        refine lv_aload_n hx hb d_Mod_truthOf_97 rfl (lv_at hl 1 rfl) ?_
        refine w_getf (q := 86) (k := 129) (t := 12) (C := R_Mod) (T := F_Mod) (N := 167) hx hb hT hown hK hW ko_0.1 ko_0.2 (by decide) in_Mod rfl rfl (by decide) rfl fr_Mod_129 w_9_65 d_Mod_truthOf_98 rfl ?_
        refine lv_iload_n hx hb d_Mod_truthOf_101 rfl (lv_at hl 2 rfl) ?_
        obtain ⟨hi, hw⟩ := hw
        refine w_iald (o := 86) hx hb hK hW ko_86.1 ko_86.2 hi d_Mod_truthOf_102 ?_
        refine lv_aload_n hx hb d_Mod_truthOf_103 rfl (lv_at hl 1 rfl) ?_
        refine lv_aload_n hx hb d_Mod_truthOf_104 rfl (lv_at hl 1 rfl) ?_
        refine w_getf (q := 4) (k := 6) (t := 12) (C := R_Mod) (T := F_Mod) (N := 167) hx hb hT hown hK hW ko_0.1 ko_0.2 (by decide) in_Mod rfl rfl (by decide) rfl fr_Mod_6 w_8_182 d_Mod_truthOf_105 rfl ?_
        refine lv_iconst (v := 1) hx hb d_Mod_truthOf_108 (by decide) ?_
        refine lv_aload_n hx hb d_Mod_truthOf_109 rfl (lv_at hl 1 rfl) ?_
        refine w_getf (q := 85) (k := 128) (t := 12) (C := R_Mod) (T := F_Mod) (N := 167) hx hb hT hown hK hW ko_0.1 ko_0.2 (by decide) in_Mod rfl rfl (by decide) rfl fr_Mod_128 w_9_64 d_Mod_truthOf_110 rfl ?_
        refine lv_iload_n hx hb d_Mod_truthOf_113 rfl (lv_at hl 2 rfl) ?_
        obtain ⟨hi, hw⟩ := hw
        refine w_iald (o := 85) hx hb hK hW ko_85.1 ko_85.2 hi d_Mod_truthOf_114 ?_
        have hF := hW.free hS hA
        refine va_calli (va_runS (As := [.int 1, .int (rA x 85 l1)]) (rest := [.ref (ad 4), .ref (ad 0), .int (rA x 86 l1)]) ⟨hx, hb, hml, hown, hT⟩ (k_Mod_place l dC dI cI cB cJ cZ ad H.size 1 (rA x 85 l1) x  hw) ⟨callB_of 2 hT (gwt_in w_11_30) rfl rfl rfl (hT _ w_1_15) (hT _ w_11_28) (by decide +kernel) ⟨Nat.le_trans (Nat.le_of_ble_eq_true rfl) hRf, Nat.le_trans (Nat.le_of_ble_eq_true rfl) hRl⟩, hT _ w_11_29⟩ ⟨PW.blind, PW.at _ hW hK hN⟩ rfl rfl hl.1 rfl (lv_room (Nat.le_of_ble_eq_true rfl)) d_Mod_truthOf_115 ⟨hRc, hRs⟩) hS (fun q _ h => hF q h) hF (fun r2442 x2441 t H locs ht hvm hw hB hz1 hk1 hS => ?_)
        have hW := Wd.back hB ht hF
        clear hB ht hF hz1 hk1 hvm
        obtain ⟨hi, hw⟩ := hw
        refine w_iald (o := 4) hx hb hK hW ko_4.1 ko_4.2 hi d_Mod_truthOf_118 ?_
        refine lv_iload_n hx hb d_Mod_truthOf_119 rfl (lv_at hl 4 rfl) ?_
        refine lv_iload hx hb d_Mod_truthOf_120 (lv_at hl 0 rfl) ?_
        have hF := hW.free hS hA
        refine va_calli (va_runV (C := R_Mod) (As := [.int (rA x2441 4 r2442), .int l3, .int s0]) (rest := [.int (rA x 86 l1)]) ⟨hx, hb, hml, hown, hT⟩ (k_Mod_compare l dC dI cI cB cJ cZ ad H.size (rA x2441 4 r2442) l3 s0 x2441  hw) ⟨callB_of 3 hT (gwt_in w_13_26) rfl rfl rfl (hT _ w_1_15) (hT _ w_13_23) (by decide +kernel) ⟨Nat.le_trans (Nat.le_of_ble_eq_true rfl) hRf, Nat.le_trans (Nat.le_of_ble_eq_true rfl) hRl⟩, hT _ w_13_25, hT _ ws_219⟩ ⟨PW.blind, va_recv hK hW.1 (ci := 12) (q0 := 0) rfl (pic_obj ko_0.1 ko_0.2 (by decide)), PW.at _ hW hK hN⟩ rfl rfl hl.1 rfl (lv_room (Nat.le_of_ble_eq_true rfl)) d_Mod_truthOf_122 ⟨hRc, hRs⟩) hS (fun q _ h => hF q h) hF (fun r2444 x2443 t H locs ht hvm hw hB hz1 hk1 hS => ?_)
        have hW := Wd.back hB ht hF
        clear hB ht hF hz1 hk1 hvm
        have hF := hW.free hS hA
        refine va_calli (va_runS (As := [.int (rA x 86 l1), .int r2444]) (rest := []) ⟨hx, hb, hml, hown, hT⟩ (k_Mod_holds l dC dI cI cB cJ cZ ad H.size (rA x 86 l1) r2444 x2443  hw) ⟨callB_of 2 hT (gwt_in w_13_226) rfl rfl rfl (hT _ w_1_15) (hT _ w_13_224) (by decide +kernel) ⟨Nat.le_trans (Nat.le_of_ble_eq_true rfl) hRf, Nat.le_trans (Nat.le_of_ble_eq_true rfl) hRl⟩, hT _ w_13_225⟩ ⟨PW.blind, PW.at _ hW hK hN⟩ rfl rfl hl.1 rfl (lv_room (Nat.le_of_ble_eq_true rfl)) d_Mod_truthOf_125 ⟨hRc, hRs⟩) hS (fun q _ h => hF q h) hF (fun r2446 x2445 t H locs ht hvm hw hB hz1 hk1 hS => ?_)
        have hW := Wd.back hB ht hF
        clear hB ht hF hz1 hk1 hvm
        refine lv_if_eq (tgt := 135) hx hb d_Mod_truthOf_128 (by decide) (fun c2447 => ?_) (fun c2447 => ?_)
        · have hw := hw.1 c2447
          refine lv_iconst (v := 1) hx hb d_Mod_truthOf_135 (by decide) ?_
          exact hret 1 x2445 H locs 136 ls d_Mod_truthOf_136 hw hW hS
        · have hw := hw.2 c2447
          refine lv_iconst (v := 2) hx hb d_Mod_truthOf_131 (by decide) ?_
          refine lv_goto (tgt := 136) hx hb d_Mod_truthOf_132 (by decide) ?_
          exact hret 2 x2445 H locs 136 ls d_Mod_truthOf_136 hw hW hS
    · have hw := hw.2 c2432
      exact t_Mod_truthOf_89 hx hb hml hown hT hK hN hA hRc hRs hRf hRl hret  l1 l2 l3 l4 s0 x H locs ls  hw hW hS (lv_sub hl [1, 2, 3, 4, 5, 0] rfl)
set_option maxRecDepth 100000 in
set_option maxHeartbeats 4000000 in
set_option maxRecDepth 100000 in
theorem t_Mod_truthOf_46 {p : Program} {l : Launch} {e : Env} {R : Room} {s : State} {m : MethodId} {args : Array Value} {below : List Frame} {meth : Method} {c : Code} {cells slots : Nat} {Q : State → Prop} {dC : Nat → ClassId} {dI : Nat → Nat → Nat} {cI cB cJ cZ : ClassId} {A : Nat → Prop} {ad : Nat → Nat} {post : Int32 → St → Prop} (hx : p.tables.exec = Jvm.exec) (hb : c.code = b_Mod_truthOf) (hml : c.maxLocals = 9) (hown : s.vm.findClass R_Mod = some m.cls) (hT : ∀ w ∈ TG, w.before args s = true) (hK : va_K (dC, dI) CL (TY cI cB cJ cZ) s) (hN : NW s) (hA : ∀ q : Nat, s.heap.size ≤ q → A q) (hRc : cells ≤ R.cells) (hRs : slots ≤ R.slots) (hRf : 2 ≤ R.frames) (hRl : 46 ≤ R.locals) (hret : ∀ (r : Int32) (x : St) (H : Heap) (locs : List Loc) (pc : Nat) (ls : Array Slot), decode b_Mod_truthOf pc = .ok (.ireturn, 1) → post r x → Wd dC dI cI cB cJ cZ ad stM kcM 115 A x H → va_S A s.heap H locs → W p l e R s m args below meth c H locs cells slots Q (F0 m pc ls [.int r]))  : ∀ (l1 : Int32) (l2 : Int32) (l3 : Int32) (l4 : Int32) (s0 : Int32) (s1 : Int32) (x : St) (H : Heap) (locs : List Loc) (ls : Array Slot), j_Mod_truthOf_46 post l1 l2 l3 l4 s0 s1 x → Wd dC dI cI cB cJ cZ ad stM kcM 115 A x H → va_S A s.heap H locs → lv_has ls 9 [(0, .ref (ad 0)), (1, .int l1), (2, .int l2), (3, .int l3), (4, .int l4)] → W p l e R s m args below meth c H locs cells slots Q (F0 m 46 ls [.int s0, .int s1]) := by
  intro l1 l2 l3 l4 s0 s1 x H locs ls  hw hW hS hl
  unfold j_Mod_truthOf_46 at hw
  refine lv_icmp_ne (tgt := 53) hx hb d_Mod_truthOf_46 (by decide) (fun c2448 => ?_) (fun c2448 => ?_)
  · have hw := hw.1 c2448
    refine lv_iconst (v := 1) hx hb d_Mod_truthOf_53 (by decide) ?_
    exact hret 1 x H locs 54 ls d_Mod_truthOf_54 hw hW hS
  · have hw := hw.2 c2448
    refine lv_iconst (v := 2) hx hb d_Mod_truthOf_49 (by decide) ?_
    refine lv_goto (tgt := 54) hx hb d_Mod_truthOf_50 (by decide) ?_
    exact hret 2 x H locs 54 ls d_Mod_truthOf_54 hw hW hS
set_option maxRecDepth 100000 in
set_option maxHeartbeats 4000000 in
set_option maxRecDepth 100000 in
theorem t_Mod_truthOf_36 {p : Program} {l : Launch} {e : Env} {R : Room} {s : State} {m : MethodId} {args : Array Value} {below : List Frame} {meth : Method} {c : Code} {cells slots : Nat} {Q : State → Prop} {dC : Nat → ClassId} {dI : Nat → Nat → Nat} {cI cB cJ cZ : ClassId} {A : Nat → Prop} {ad : Nat → Nat} {post : Int32 → St → Prop} (hx : p.tables.exec = Jvm.exec) (hb : c.code = b_Mod_truthOf) (hml : c.maxLocals = 9) (hown : s.vm.findClass R_Mod = some m.cls) (hT : ∀ w ∈ TG, w.before args s = true) (hK : va_K (dC, dI) CL (TY cI cB cJ cZ) s) (hN : NW s) (hA : ∀ q : Nat, s.heap.size ≤ q → A q) (hRc : cells ≤ R.cells) (hRs : slots ≤ R.slots) (hRf : 2 ≤ R.frames) (hRl : 46 ≤ R.locals) (hret : ∀ (r : Int32) (x : St) (H : Heap) (locs : List Loc) (pc : Nat) (ls : Array Slot), decode b_Mod_truthOf pc = .ok (.ireturn, 1) → post r x → Wd dC dI cI cB cJ cZ ad stM kcM 115 A x H → va_S A s.heap H locs → W p l e R s m args below meth c H locs cells slots Q (F0 m pc ls [.int r]))  : ∀ (l1 : Int32) (l2 : Int32) (l3 : Int32) (l4 : Int32) (s0 : Int32) (x : St) (H : Heap) (locs : List Loc) (ls : Array Slot), j_Mod_truthOf_36 post l1 l2 l3 l4 s0 x → Wd dC dI cI cB cJ cZ ad stM kcM 115 A x H → va_S A s.heap H locs → lv_has ls 9 [(0, .ref (ad 0)), (1, .int l1), (2, .int l2), (3, .int l3), (4, .int l4)] → W p l e R s m args below meth c H locs cells slots Q (F0 m 36 ls [.int s0]) := by
  intro l1 l2 l3 l4 s0 x H locs ls  hw hW hS hl
  unfold j_Mod_truthOf_36 at hw
  refine lv_iload hx hb d_Mod_truthOf_36 (lv_at hl 4 rfl) ?_
  refine lv_if_ne (tgt := 45) hx hb d_Mod_truthOf_38 (by decide) (fun c2449 => ?_) (fun c2449 => ?_)
  · have hw := hw.1 c2449
    refine lv_iconst (v := 0) hx hb d_Mod_truthOf_45 (by decide) ?_
    exact t_Mod_truthOf_46 hx hb hml hown hT hK hN hA hRc hRs hRf hRl hret  l1 l2 l3 l4 0 s0 x H locs ls  hw hW hS (lv_sub hl [0, 1, 2, 3, 4] rfl)
  · have hw := hw.2 c2449
    refine lv_iconst (v := 1) hx hb d_Mod_truthOf_41 (by decide) ?_
    refine lv_goto (tgt := 46) hx hb d_Mod_truthOf_42 (by decide) ?_
    exact t_Mod_truthOf_46 hx hb hml hown hT hK hN hA hRc hRs hRf hRl hret  l1 l2 l3 l4 1 s0 x H locs ls  hw hW hS (lv_sub hl [0, 1, 2, 3, 4] rfl)
set_option maxRecDepth 100000 in
set_option maxHeartbeats 4000000 in
set_option maxRecDepth 100000 in
theorem t_Mod_truthOf_e {p : Program} {l : Launch} {e : Env} {R : Room} {s : State} {m : MethodId} {args : Array Value} {below : List Frame} {meth : Method} {c : Code} {cells slots : Nat} {Q : State → Prop} {dC : Nat → ClassId} {dI : Nat → Nat → Nat} {cI cB cJ cZ : ClassId} {A : Nat → Prop} {ad : Nat → Nat} {post : Int32 → St → Prop} (hx : p.tables.exec = Jvm.exec) (hb : c.code = b_Mod_truthOf) (hml : c.maxLocals = 9) (hown : s.vm.findClass R_Mod = some m.cls) (hT : ∀ w ∈ TG, w.before args s = true) (hK : va_K (dC, dI) CL (TY cI cB cJ cZ) s) (hN : NW s) (hA : ∀ q : Nat, s.heap.size ≤ q → A q) (hRc : cells ≤ R.cells) (hRs : slots ≤ R.slots) (hRf : 2 ≤ R.frames) (hRl : 46 ≤ R.locals) (hret : ∀ (r : Int32) (x : St) (H : Heap) (locs : List Loc) (pc : Nat) (ls : Array Slot), decode b_Mod_truthOf pc = .ok (.ireturn, 1) → post r x → Wd dC dI cI cB cJ cZ ad stM kcM 115 A x H → va_S A s.heap H locs → W p l e R s m args below meth c H locs cells slots Q (F0 m pc ls [.int r])) : ∀ (l1 : Int32) (l2 : Int32) (x : St) (H : Heap) (locs : List Loc) (ls : Array Slot), wp_Mod_truthOf post l1 l2 x → Wd dC dI cI cB cJ cZ ad stM kcM 115 A x H → va_S A s.heap H locs → lv_has ls 9 [(0, .ref (ad 0)), (1, .int l1), (2, .int l2)] → W p l e R s m args below meth c H locs cells slots Q (F0 m 0 ls []) := by
  intro l1 l2 x H locs ls  hw hW hS hl
  unfold wp_Mod_truthOf at hw
  refine lv_aload_n hx hb d_Mod_truthOf_0 rfl (lv_at hl 0 rfl) ?_
  refine lv_aload_n hx hb d_Mod_truthOf_1 rfl (lv_at hl 0 rfl) ?_
  refine w_getf (q := 85) (k := 128) (t := 12) (C := R_Mod) (T := F_Mod) (N := 167) hx hb hT hown hK hW ko_0.1 ko_0.2 (by decide) in_Mod rfl rfl (by decide) rfl fr_Mod_128 w_9_64 d_Mod_truthOf_2 rfl ?_
  refine lv_iload_n hx hb d_Mod_truthOf_5 rfl (lv_at hl 1 rfl) ?_
  obtain ⟨hi, hw⟩ := hw
  refine w_iald (o := 85) hx hb hK hW ko_85.1 ko_85.2 hi d_Mod_truthOf_6 ?_
  refine lv_iload_n hx hb d_Mod_truthOf_7 rfl (lv_at hl 2 rfl) ?_
  have hF := hW.free hS hA
  refine va_calli (va_runV (C := R_Mod) (As := [.int (rA x 85 l1), .int l2]) (rest := []) ⟨hx, hb, hml, hown, hT⟩ (k_Mod_valueAt l dC dI cI cB cJ cZ ad H.size (rA x 85 l1) l2 x  hw) ⟨callB_of 2 hT (gwt_in w_14_13) rfl rfl rfl (hT _ w_1_15) (hT _ w_14_10) (by decide +kernel) ⟨Nat.le_trans (Nat.le_of_ble_eq_true rfl) hRf, Nat.le_trans (Nat.le_of_ble_eq_true rfl) hRl⟩, hT _ w_14_12, hT _ ws_263⟩ ⟨PW.blind, va_recv hK hW.1 (ci := 12) (q0 := 0) rfl (pic_obj ko_0.1 ko_0.2 (by decide)), PW.at _ hW hK hN⟩ rfl rfl hl.1 rfl (lv_room (Nat.le_of_ble_eq_true rfl)) d_Mod_truthOf_8 ⟨hRc, hRs⟩) hS (fun q _ h => hF q h) hF (fun r2451 x2450 t H locs ht hvm hw hB hz1 hk1 hS => ?_)
  have hW := Wd.back hB ht hF
  clear hB ht hF hz1 hk1 hvm
  refine lv_istore_n (lv' := [(3, .int r2451), (0, .ref (ad 0)), (1, .int l1), (2, .int l2)]) hx hb d_Mod_truthOf_11 rfl hl (by decide) rfl (fun ls hl => ?_)
  refine lv_aload_n hx hb d_Mod_truthOf_12 rfl (lv_at hl 1 rfl) ?_
  refine w_getf (q := 84) (k := 127) (t := 12) (C := R_Mod) (T := F_Mod) (N := 167) hx hb hT hown hK hW ko_0.1 ko_0.2 (by decide) in_Mod rfl rfl (by decide) rfl fr_Mod_127 w_9_63 d_Mod_truthOf_13 rfl ?_
  refine lv_iload_n hx hb d_Mod_truthOf_16 rfl (lv_at hl 2 rfl) ?_
  obtain ⟨hi, hw⟩ := hw
  refine w_iald (o := 84) hx hb hK hW ko_84.1 ko_84.2 hi d_Mod_truthOf_17 ?_
  refine lv_topi (fun v2452 ev2452 => ?_)
  have hw := hw v2452 ev2452
  refine lv_istore (lv' := [(4, .int v2452), (3, .int r2451), (0, .ref (ad 0)), (1, .int l1), (2, .int l2)]) hx hb d_Mod_truthOf_18 hl (by decide) rfl (fun ls hl => ?_)
  refine lv_iload hx hb d_Mod_truthOf_20 (lv_at hl 0 rfl) ?_
  refine lv_iconst (v := 2) hx hb d_Mod_truthOf_22 (by decide) ?_
  refine lv_icmp_ge (tgt := 55) hx hb d_Mod_truthOf_23 (by decide) (fun c2453 => ?_) (fun c2453 => ?_)
  · have hw := hw.1 c2453
    refine lv_iload hx hb d_Mod_truthOf_55 (lv_at hl 0 rfl) ?_
    refine lv_iconst (v := 4) hx hb d_Mod_truthOf_57 (by decide) ?_
    refine lv_icmp_ne (tgt := 75) hx hb d_Mod_truthOf_58 (by decide) (fun c2454 => ?_) (fun c2454 => ?_)
    · have hw := hw.1 c2454
      refine lv_iload_n hx hb d_Mod_truthOf_75 rfl (lv_at hl 1 rfl) ?_
      exact t_Mod_truthOf_76 hx hb hml hown hT hK hN hA hRc hRs hRf hRl hret  l1 l2 r2451 v2452 r2451 x2450 H locs ls  hw hW hS (lv_sub hl [2, 3, 4, 1, 0] rfl)
    · have hw := hw.2 c2454
      refine lv_aload_n hx hb d_Mod_truthOf_61 rfl (lv_at hl 2 rfl) ?_
      refine lv_aload_n hx hb d_Mod_truthOf_62 rfl (lv_at hl 2 rfl) ?_
      refine w_getf (q := 87) (k := 130) (t := 12) (C := R_Mod) (T := F_Mod) (N := 167) hx hb hT hown hK hW ko_0.1 ko_0.2 (by decide) in_Mod rfl rfl (by decide) rfl fr_Mod_130 w_9_66 d_Mod_truthOf_63 rfl ?_
      refine lv_iload_n hx hb d_Mod_truthOf_66 rfl (lv_at hl 3 rfl) ?_
      obtain ⟨hi, hw⟩ := hw
      refine w_iald (o := 87) hx hb hK hW ko_87.1 ko_87.2 hi d_Mod_truthOf_67 ?_
      refine lv_iload_n hx hb d_Mod_truthOf_68 rfl (lv_at hl 4 rfl) ?_
      have hF := hW.free hS hA
      refine va_calli (va_runV (C := R_Mod) (As := [.int (rA x2450 87 l1), .int l2]) (rest := []) ⟨hx, hb, hml, hown, hT⟩ (k_Mod_valueAt l dC dI cI cB cJ cZ ad H.size (rA x2450 87 l1) l2 x2450  hw) ⟨callB_of 2 hT (gwt_in w_14_13) rfl rfl rfl (hT _ w_1_15) (hT _ w_14_10) (by decide +kernel) ⟨Nat.le_trans (Nat.le_of_ble_eq_true rfl) hRf, Nat.le_trans (Nat.le_of_ble_eq_true rfl) hRl⟩, hT _ w_14_12, hT _ ws_263⟩ ⟨PW.blind, va_recv hK hW.1 (ci := 12) (q0 := 0) rfl (pic_obj ko_0.1 ko_0.2 (by decide)), PW.at _ hW hK hN⟩ rfl rfl hl.1 rfl (lv_room (Nat.le_of_ble_eq_true rfl)) d_Mod_truthOf_69 ⟨hRc, hRs⟩) hS (fun q _ h => hF q h) hF (fun r2456 x2455 t H locs ht hvm hw hB hz1 hk1 hS => ?_)
      have hW := Wd.back hB ht hF
      clear hB ht hF hz1 hk1 hvm
      refine lv_goto (tgt := 76) hx hb d_Mod_truthOf_72 (by decide) ?_
      exact t_Mod_truthOf_76 hx hb hml hown hT hK hN hA hRc hRs hRf hRl hret  l1 l2 r2451 v2452 r2456 x2455 H locs ls  hw hW hS (lv_sub hl [2, 3, 4, 1, 0] rfl)
  · have hw := hw.2 c2453
    refine lv_iload_n hx hb d_Mod_truthOf_26 rfl (lv_at hl 1 rfl) ?_
    refine lv_iconst (v := (-1)) hx hb d_Mod_truthOf_27 (by decide) ?_
    refine lv_icmp_ne (tgt := 35) hx hb d_Mod_truthOf_28 (by decide) (fun c2457 => ?_) (fun c2457 => ?_)
    · have hw := hw.1 c2457
      refine lv_iconst (v := 0) hx hb d_Mod_truthOf_35 (by decide) ?_
      exact t_Mod_truthOf_36 hx hb hml hown hT hK hN hA hRc hRs hRf hRl hret  l1 l2 r2451 v2452 0 x2450 H locs ls  hw hW hS (lv_sub hl [2, 3, 4, 1, 0] rfl)
    · have hw := hw.2 c2457
      refine lv_iconst (v := 1) hx hb d_Mod_truthOf_31 (by decide) ?_
      refine lv_goto (tgt := 36) hx hb d_Mod_truthOf_32 (by decide) ?_
      exact t_Mod_truthOf_36 hx hb hml hown hT hK hN hA hRc hRs hRf hRl hret  l1 l2 r2451 v2452 1 x2450 H locs ls  hw hW hS (lv_sub hl [2, 3, 4, 1, 0] rfl)
set_option maxHeartbeats 4000000 in
set_option maxRecDepth 100000 in
theorem k_Mod_truthOf (l : Launch) (dC : Nat → ClassId) (dI : Nat → Nat → Nat) (cI cB cJ cZ : ClassId) (ad : Nat → Nat) (sz : Nat) (l1 : Int32) (l2 : Int32) (x : St) {post : Int32 → St → Prop} (hw : wp_Mod_truthOf post l1 l2 x) : Met l y_Mod_truthOf (wsOf y_Mod_truthOf b_Mod_truthOf 9 (some (.int))) ({ frames := 2, cells := 0, slots := 0, locals := 46 }) (va_Pc [.ref (ad 0), .int l1, .int l2] (PW dC dI cI cB cJ cZ ad stM kcM 115 sz x)) (va_Qi (fun (r : Int32) (y : St) => post r y) (fun y t => Wd dC dI cI cB cJ cZ ad stM kcM 115 (va_A (pic ad stM kcM 115 cI cB cJ cZ x) sz) y t.heap) (va_A (pic ad stM kcM 115 cI cB cJ cZ x) sz)) 0 0 (va_A (pic ad stM kcM 115 cI cB cJ cZ x) sz) := by
  refine Met.ofW (cc := b_Mod_truthOf) (maxL := 9) (ret := some (.int)) (by decide) rfl ?_
  intro p e s m args below meth c s₁ B hml hv
  obtain ⟨rfl, hsz, hW0, hK, hN⟩ := hv
  have hx := B.exec
  have hb := B.bytes
  have hr := B.returns
  have hts := atoms_spec B.pre
  have hT : ∀ w ∈ TG, w.before _ s = true := fun w h => hts w (List.mem_cons_of_mem _ h)
  have hown : s.vm.findClass R_Mod = some m.cls := findClass_of_methodNamed B.named
  have hlocks := B.notSynchronized
  subst hsz
  have hW : Wd dC dI cI cB cJ cZ ad stM kcM 115 (va_A (pic ad stM kcM 115 cI cB cJ cZ x) s.heap.size) x s.heap := ⟨hW0.1, hW0.2.1.self (sz := s.heap.size), hW0.2.2⟩
  generalize hAe : va_A (pic ad stM kcM 115 cI cB cJ cZ x) s.heap.size = A at hW ⊢
  have hA : ∀ q : Nat, s.heap.size ≤ q → A q := fun q h => by rw [← hAe]; exact Or.inr h
  have hS : va_S A s.heap s.heap [] := va_S.rf
  have hl := lv_entry ([.ref (ad 0), .int l1, .int l2]) (n := 9) (Nat.le_of_ble_eq_true rfl)
  rw [lg_entry_eq]
  generalize (lg_sl ([.ref (ad 0), .int l1, .int l2]) ++ List.replicate (9 - (lg_sl ([.ref (ad 0), .int l1, .int l2])).length) Slot.unset).toArray = ls at hl ⊢
  have hl : lv_has ls 9 [(0, .ref (ad 0)), (1, .int l1), (2, .int l2)] := hl
  exact t_Mod_truthOf_e hx hb hml hown hT hK hN hA (Nat.le_refl 0) (Nat.le_refl 0) (Nat.le_refl 2) (Nat.le_refl 46) (fun r x H locs pc ls hd hp hW hS => W.iret (v := r) hx hb hr (fun t ht hM => ⟨⟨r, x, rfl, hp, Wd.back hW ht.symm (fun _ z => z)⟩, hS.F ht⟩) hS.2.2 hd hlocks)  l1 l2 x _ _ ls  hw hW hS hl
set_option maxRecDepth 100000 in
set_option maxHeartbeats 4000000 in
set_option maxRecDepth 100000 in
theorem t_Mod_not_e {p : Program} {l : Launch} {e : Env} {R : Room} {s : State} {m : MethodId} {args : Array Value} {below : List Frame} {meth : Method} {c : Code} {cells slots : Nat} {Q : State → Prop} {dC : Nat → ClassId} {dI : Nat → Nat → Nat} {cI cB cJ cZ : ClassId} {A : Nat → Prop} {ad : Nat → Nat} {post : Int32 → St → Prop} (hx : p.tables.exec = Jvm.exec) (hb : c.code = b_Mod_not) (hml : c.maxLocals = 1) (hown : s.vm.findClass R_Mod = some m.cls) (hT : ∀ w ∈ TG, w.before args s = true) (hK : va_K (dC, dI) CL (TY cI cB cJ cZ) s) (hN : NW s) (hA : ∀ q : Nat, s.heap.size ≤ q → A q) (hRc : cells ≤ R.cells) (hRs : slots ≤ R.slots) (hRf : 0 ≤ R.frames) (hRl : 0 ≤ R.locals) (hret : ∀ (r : Int32) (x : St) (H : Heap) (locs : List Loc) (pc : Nat) (ls : Array Slot), decode b_Mod_not pc = .ok (.ireturn, 1) → post r x → Wd dC dI cI cB cJ cZ ad stM kcM 115 A x H → va_S A s.heap H locs → W p l e R s m args below meth c H locs cells slots Q (F0 m pc ls [.int r])) : ∀ (l0 : Int32) (x : St) (H : Heap) (locs : List Loc) (ls : Array Slot), wp_Mod_not post l0 x → Wd dC dI cI cB cJ cZ ad stM kcM 115 A x H → va_S A s.heap H locs → lv_has ls 1 [(0, .int l0)] → W p l e R s m args below meth c H locs cells slots Q (F0 m 0 ls []) := by
  intro l0 x H locs ls  hw hW hS hl
  unfold wp_Mod_not at hw
  refine lv_iload_n hx hb d_Mod_not_0 rfl (lv_at hl 0 rfl) ?_
  refine lv_iconst (v := 1) hx hb d_Mod_not_1 (by decide) ?_
  refine lv_iand hx hb d_Mod_not_2 ?_
  refine lv_iconst (v := 1) hx hb d_Mod_not_3 (by decide) ?_
  refine lv_ishl hx hb d_Mod_not_4 ?_
  refine lv_iload_n hx hb d_Mod_not_5 rfl (lv_at hl 0 rfl) ?_
  refine lv_iconst (v := 1) hx hb d_Mod_not_6 (by decide) ?_
  refine lv_ishr hx hb d_Mod_not_7 ?_
  refine lv_iconst (v := 1) hx hb d_Mod_not_8 (by decide) ?_
  refine lv_iand hx hb d_Mod_not_9 ?_
  refine lv_ior hx hb d_Mod_not_10 ?_
  refine lv_iload_n hx hb d_Mod_not_11 rfl (lv_at hl 0 rfl) ?_
  refine lv_iconst (v := 4) hx hb d_Mod_not_12 (by decide) ?_
  refine lv_iand hx hb d_Mod_not_13 ?_
  refine lv_ior hx hb d_Mod_not_14 ?_
  exact hret ((((l0 &&& 1) <<< (1 &&& 31)) ||| ((l0 >>> (1 &&& 31)) &&& 1)) ||| (l0 &&& 4)) x H locs 15 ls d_Mod_not_15 hw hW hS
set_option maxHeartbeats 4000000 in
set_option maxRecDepth 100000 in
theorem k_Mod_not (l : Launch) (dC : Nat → ClassId) (dI : Nat → Nat → Nat) (cI cB cJ cZ : ClassId) (ad : Nat → Nat) (sz : Nat) (l0 : Int32) (x : St) {post : Int32 → St → Prop} (hw : wp_Mod_not post l0 x) : Met l y_Mod_not (wsOf y_Mod_not b_Mod_not 1 (some (.int))) ({ frames := 0, cells := 0, slots := 0, locals := 0 }) (va_Pc [.int l0] (PW dC dI cI cB cJ cZ ad stM kcM 115 sz x)) (va_Qi (fun (r : Int32) (y : St) => post r y) (fun y t => Wd dC dI cI cB cJ cZ ad stM kcM 115 (va_A (pic ad stM kcM 115 cI cB cJ cZ x) sz) y t.heap) (va_A (pic ad stM kcM 115 cI cB cJ cZ x) sz)) 0 0 (va_A (pic ad stM kcM 115 cI cB cJ cZ x) sz) := by
  refine Met.ofW (cc := b_Mod_not) (maxL := 1) (ret := some (.int)) (by decide) rfl ?_
  intro p e s m args below meth c s₁ B hml hv
  obtain ⟨rfl, hsz, hW0, hK, hN⟩ := hv
  have hx := B.exec
  have hb := B.bytes
  have hr := B.returns
  have hts := atoms_spec B.pre
  have hT : ∀ w ∈ TG, w.before _ s = true := fun w h => hts w (List.mem_cons_of_mem _ h)
  have hown : s.vm.findClass R_Mod = some m.cls := findClass_of_methodNamed B.named
  have hlocks := B.notSynchronized
  subst hsz
  have hW : Wd dC dI cI cB cJ cZ ad stM kcM 115 (va_A (pic ad stM kcM 115 cI cB cJ cZ x) s.heap.size) x s.heap := ⟨hW0.1, hW0.2.1.self (sz := s.heap.size), hW0.2.2⟩
  generalize hAe : va_A (pic ad stM kcM 115 cI cB cJ cZ x) s.heap.size = A at hW ⊢
  have hA : ∀ q : Nat, s.heap.size ≤ q → A q := fun q h => by rw [← hAe]; exact Or.inr h
  have hS : va_S A s.heap s.heap [] := va_S.rf
  have hl := lv_entry ([.int l0]) (n := 1) (Nat.le_of_ble_eq_true rfl)
  rw [lg_entry_eq]
  generalize (lg_sl ([.int l0]) ++ List.replicate (1 - (lg_sl ([.int l0])).length) Slot.unset).toArray = ls at hl ⊢
  have hl : lv_has ls 1 [(0, .int l0)] := hl
  exact t_Mod_not_e hx hb hml hown hT hK hN hA (Nat.le_refl 0) (Nat.le_refl 0) (Nat.le_refl 0) (Nat.le_refl 0) (fun r x H locs pc ls hd hp hW hS => W.iret (v := r) hx hb hr (fun t ht hM => ⟨⟨r, x, rfl, hp, Wd.back hW ht.symm (fun _ z => z)⟩, hS.F ht⟩) hS.2.2 hd hlocks)  l0 x _ _ ls  hw hW hS hl
set_option maxRecDepth 100000 in
set_option maxHeartbeats 4000000 in
set_option maxRecDepth 100000 in
theorem t_Mod_both_82 {p : Program} {l : Launch} {e : Env} {R : Room} {s : State} {m : MethodId} {args : Array Value} {below : List Frame} {meth : Method} {c : Code} {cells slots : Nat} {Q : State → Prop} {dC : Nat → ClassId} {dI : Nat → Nat → Nat} {cI cB cJ cZ : ClassId} {A : Nat → Prop} {ad : Nat → Nat} {post : Int32 → St → Prop} {self_Mod_both : (Int32 → St → Prop) → Int32 → Int32 → Int32 → St → Prop} {fd ld : Nat} (hx : p.tables.exec = Jvm.exec) (hb : c.code = b_Mod_both) (hml : c.maxLocals = 4) (hown : s.vm.findClass R_Mod = some m.cls) (hT : ∀ w ∈ TG, w.before args s = true) (hK : va_K (dC, dI) CL (TY cI cB cJ cZ) s) (hN : NW s) (hA : ∀ q : Nat, s.heap.size ≤ q → A q) (hRc : cells ≤ R.cells) (hRs : slots ≤ R.slots) (hRf : 1 ≤ R.frames) (hRl : 20 ≤ R.locals) (hret : ∀ (r : Int32) (x : St) (H : Heap) (locs : List Loc) (pc : Nat) (ls : Array Slot), decode b_Mod_both pc = .ok (.ireturn, 1) → post r x → Wd dC dI cI cB cJ cZ ad stM kcM 115 A x H → va_S A s.heap H locs → W p l e R s m args below meth c H locs cells slots Q (F0 m pc ls [.int r])) (hs_Mod_both : ∀ (sz : Nat) (l0 : Int32) (l1 : Int32) (l2 : Int32) (x : St), ∀ (post : Int32 → St → Prop), self_Mod_both post l0 l1 l2 x → Met l y_Mod_both (wsOf y_Mod_both b_Mod_both 4 (some (.int))) ({ frames := fd, cells := 0, slots := 0, locals := ld }) (va_Pc [.int l0, .int l1, .int l2] (PW dC dI cI cB cJ cZ ad stM kcM 115 sz x)) (va_Qi (fun (r : Int32) (y : St) => post r y) (fun y t => Wd dC dI cI cB cJ cZ ad stM kcM 115 (va_A (pic ad stM kcM 115 cI cB cJ cZ x) sz) y t.heap) (va_A (pic ad stM kcM 115 cI cB cJ cZ x) sz)) 0 0 (va_A (pic ad stM kcM 115 cI cB cJ cZ x) sz)) (hDf : fd + 1 ≤ R.frames) (hDl : 23 + ld ≤ R.locals)  : ∀ (l0 : Int32) (l1 : Int32) (l2 : Int32) (l3 : Int32) (s0 : Int32) (s1 : Int32) (x : St) (H : Heap) (locs : List Loc) (ls : Array Slot), j_Mod_both_82 post self_Mod_both l0 l1 l2 l3 s0 s1 x → Wd dC dI cI cB cJ cZ ad stM kcM 115 A x H → va_S A s.heap H locs → lv_has ls 4 [(0, .int l0), (1, .int l1), (2, .int l2), (3, .int l3)] → W p l e R s m args below meth c H locs cells slots Q (F0 m 82 ls [.int s0, .int s1]) := by
  intro l0 l1 l2 l3 s0 s1 x H locs ls  hw hW hS hl
  unfold j_Mod_both_82 at hw
  refine lv_ior hx hb d_Mod_both_82 ?_
  exact hret (s1 ||| s0) x H locs 83 ls d_Mod_both_83 hw hW hS
set_option maxRecDepth 100000 in
set_option maxHeartbeats 4000000 in
set_option maxRecDepth 100000 in
theorem t_Mod_both_81 {p : Program} {l : Launch} {e : Env} {R : Room} {s : State} {m : MethodId} {args : Array Value} {below : List Frame} {meth : Method} {c : Code} {cells slots : Nat} {Q : State → Prop} {dC : Nat → ClassId} {dI : Nat → Nat → Nat} {cI cB cJ cZ : ClassId} {A : Nat → Prop} {ad : Nat → Nat} {post : Int32 → St → Prop} {self_Mod_both : (Int32 → St → Prop) → Int32 → Int32 → Int32 → St → Prop} {fd ld : Nat} (hx : p.tables.exec = Jvm.exec) (hb : c.code = b_Mod_both) (hml : c.maxLocals = 4) (hown : s.vm.findClass R_Mod = some m.cls) (hT : ∀ w ∈ TG, w.before args s = true) (hK : va_K (dC, dI) CL (TY cI cB cJ cZ) s) (hN : NW s) (hA : ∀ q : Nat, s.heap.size ≤ q → A q) (hRc : cells ≤ R.cells) (hRs : slots ≤ R.slots) (hRf : 1 ≤ R.frames) (hRl : 20 ≤ R.locals) (hret : ∀ (r : Int32) (x : St) (H : Heap) (locs : List Loc) (pc : Nat) (ls : Array Slot), decode b_Mod_both pc = .ok (.ireturn, 1) → post r x → Wd dC dI cI cB cJ cZ ad stM kcM 115 A x H → va_S A s.heap H locs → W p l e R s m args below meth c H locs cells slots Q (F0 m pc ls [.int r])) (hs_Mod_both : ∀ (sz : Nat) (l0 : Int32) (l1 : Int32) (l2 : Int32) (x : St), ∀ (post : Int32 → St → Prop), self_Mod_both post l0 l1 l2 x → Met l y_Mod_both (wsOf y_Mod_both b_Mod_both 4 (some (.int))) ({ frames := fd, cells := 0, slots := 0, locals := ld }) (va_Pc [.int l0, .int l1, .int l2] (PW dC dI cI cB cJ cZ ad stM kcM 115 sz x)) (va_Qi (fun (r : Int32) (y : St) => post r y) (fun y t => Wd dC dI cI cB cJ cZ ad stM kcM 115 (va_A (pic ad stM kcM 115 cI cB cJ cZ x) sz) y t.heap) (va_A (pic ad stM kcM 115 cI cB cJ cZ x) sz)) 0 0 (va_A (pic ad stM kcM 115 cI cB cJ cZ x) sz)) (hDf : fd + 1 ≤ R.frames) (hDl : 23 + ld ≤ R.locals)  : ∀ (l0 : Int32) (l1 : Int32) (l2 : Int32) (l3 : Int32) (s0 : Int32) (x : St) (H : Heap) (locs : List Loc) (ls : Array Slot), j_Mod_both_81 post self_Mod_both l0 l1 l2 l3 s0 x → Wd dC dI cI cB cJ cZ ad stM kcM 115 A x H → va_S A s.heap H locs → lv_has ls 4 [(0, .int l0), (1, .int l1), (2, .int l2), (3, .int l3)] → W p l e R s m args below meth c H locs cells slots Q (F0 m 81 ls [.int s0]) := by
  intro l0 l1 l2 l3 s0 x H locs ls  hw hW hS hl
  unfold j_Mod_both_81 at hw
  refine lv_iconst (v := 0) hx hb d_Mod_both_81 (by decide) ?_
  exact t_Mod_both_82 hx hb hml hown hT hK hN hA hRc hRs hRf hRl hret hs_Mod_both hDf hDl  l0 l1 l2 l3 0 s0 x H locs ls  hw hW hS (lv_sub hl [0, 1, 2, 3] rfl)
set_option maxRecDepth 100000 in
set_option maxHeartbeats 4000000 in
set_option maxRecDepth 100000 in
theorem t_Mod_both_77 {p : Program} {l : Launch} {e : Env} {R : Room} {s : State} {m : MethodId} {args : Array Value} {below : List Frame} {meth : Method} {c : Code} {cells slots : Nat} {Q : State → Prop} {dC : Nat → ClassId} {dI : Nat → Nat → Nat} {cI cB cJ cZ : ClassId} {A : Nat → Prop} {ad : Nat → Nat} {post : Int32 → St → Prop} {self_Mod_both : (Int32 → St → Prop) → Int32 → Int32 → Int32 → St → Prop} {fd ld : Nat} (hx : p.tables.exec = Jvm.exec) (hb : c.code = b_Mod_both) (hml : c.maxLocals = 4) (hown : s.vm.findClass R_Mod = some m.cls) (hT : ∀ w ∈ TG, w.before args s = true) (hK : va_K (dC, dI) CL (TY cI cB cJ cZ) s) (hN : NW s) (hA : ∀ q : Nat, s.heap.size ≤ q → A q) (hRc : cells ≤ R.cells) (hRs : slots ≤ R.slots) (hRf : 1 ≤ R.frames) (hRl : 20 ≤ R.locals) (hret : ∀ (r : Int32) (x : St) (H : Heap) (locs : List Loc) (pc : Nat) (ls : Array Slot), decode b_Mod_both pc = .ok (.ireturn, 1) → post r x → Wd dC dI cI cB cJ cZ ad stM kcM 115 A x H → va_S A s.heap H locs → W p l e R s m args below meth c H locs cells slots Q (F0 m pc ls [.int r])) (hs_Mod_both : ∀ (sz : Nat) (l0 : Int32) (l1 : Int32) (l2 : Int32) (x : St), ∀ (post : Int32 → St → Prop), self_Mod_both post l0 l1 l2 x → Met l y_Mod_both (wsOf y_Mod_both b_Mod_both 4 (some (.int))) ({ frames := fd, cells := 0, slots := 0, locals := ld }) (va_Pc [.int l0, .int l1, .int l2] (PW dC dI cI cB cJ cZ ad stM kcM 115 sz x)) (va_Qi (fun (r : Int32) (y : St) => post r y) (fun y t => Wd dC dI cI cB cJ cZ ad stM kcM 115 (va_A (pic ad stM kcM 115 cI cB cJ cZ x) sz) y t.heap) (va_A (pic ad stM kcM 115 cI cB cJ cZ x) sz)) 0 0 (va_A (pic ad stM kcM 115 cI cB cJ cZ x) sz)) (hDf : fd + 1 ≤ R.frames) (hDl : 23 + ld ≤ R.locals)  : ∀ (l0 : Int32) (l1 : Int32) (l2 : Int32) (l3 : Int32) (s0 : Int32) (x : St) (H : Heap) (locs : List Loc) (ls : Array Slot), j_Mod_both_77 post self_Mod_both l0 l1 l2 l3 s0 x → Wd dC dI cI cB cJ cZ ad stM kcM 115 A x H → va_S A s.heap H locs → lv_has ls 4 [(0, .int l0), (1, .int l1), (2, .int l2), (3, .int l3)] → W p l e R s m args below meth c H locs cells slots Q (F0 m 77 ls [.int s0]) := by
  intro l0 l1 l2 l3 s0 x H locs ls  hw hW hS hl
  unfold j_Mod_both_77 at hw
  refine lv_iconst (v := 4) hx hb d_Mod_both_77 (by decide) ?_
  refine lv_goto (tgt := 82) hx hb d_Mod_both_78 (by decide) ?_
  exact t_Mod_both_82 hx hb hml hown hT hK hN hA hRc hRs hRf hRl hret hs_Mod_both hDf hDl  l0 l1 l2 l3 4 s0 x H locs ls  hw hW hS (lv_sub hl [0, 1, 2, 3] rfl)
set_option maxRecDepth 100000 in
set_option maxHeartbeats 4000000 in
set_option maxRecDepth 100000 in
theorem t_Mod_both_64 {p : Program} {l : Launch} {e : Env} {R : Room} {s : State} {m : MethodId} {args : Array Value} {below : List Frame} {meth : Method} {c : Code} {cells slots : Nat} {Q : State → Prop} {dC : Nat → ClassId} {dI : Nat → Nat → Nat} {cI cB cJ cZ : ClassId} {A : Nat → Prop} {ad : Nat → Nat} {post : Int32 → St → Prop} {self_Mod_both : (Int32 → St → Prop) → Int32 → Int32 → Int32 → St → Prop} {fd ld : Nat} (hx : p.tables.exec = Jvm.exec) (hb : c.code = b_Mod_both) (hml : c.maxLocals = 4) (hown : s.vm.findClass R_Mod = some m.cls) (hT : ∀ w ∈ TG, w.before args s = true) (hK : va_K (dC, dI) CL (TY cI cB cJ cZ) s) (hN : NW s) (hA : ∀ q : Nat, s.heap.size ≤ q → A q) (hRc : cells ≤ R.cells) (hRs : slots ≤ R.slots) (hRf : 1 ≤ R.frames) (hRl : 20 ≤ R.locals) (hret : ∀ (r : Int32) (x : St) (H : Heap) (locs : List Loc) (pc : Nat) (ls : Array Slot), decode b_Mod_both pc = .ok (.ireturn, 1) → post r x → Wd dC dI cI cB cJ cZ ad stM kcM 115 A x H → va_S A s.heap H locs → W p l e R s m args below meth c H locs cells slots Q (F0 m pc ls [.int r])) (hs_Mod_both : ∀ (sz : Nat) (l0 : Int32) (l1 : Int32) (l2 : Int32) (x : St), ∀ (post : Int32 → St → Prop), self_Mod_both post l0 l1 l2 x → Met l y_Mod_both (wsOf y_Mod_both b_Mod_both 4 (some (.int))) ({ frames := fd, cells := 0, slots := 0, locals := ld }) (va_Pc [.int l0, .int l1, .int l2] (PW dC dI cI cB cJ cZ ad stM kcM 115 sz x)) (va_Qi (fun (r : Int32) (y : St) => post r y) (fun y t => Wd dC dI cI cB cJ cZ ad stM kcM 115 (va_A (pic ad stM kcM 115 cI cB cJ cZ x) sz) y t.heap) (va_A (pic ad stM kcM 115 cI cB cJ cZ x) sz)) 0 0 (va_A (pic ad stM kcM 115 cI cB cJ cZ x) sz)) (hDf : fd + 1 ≤ R.frames) (hDl : 23 + ld ≤ R.locals)  : ∀ (l0 : Int32) (l1 : Int32) (l2 : Int32) (l3 : Int32) (s0 : Int32) (x : St) (H : Heap) (locs : List Loc) (ls : Array Slot), j_Mod_both_64 post self_Mod_both l0 l1 l2 l3 s0 x → Wd dC dI cI cB cJ cZ ad stM kcM 115 A x H → va_S A s.heap H locs → lv_has ls 4 [(0, .int l0), (1, .int l1), (2, .int l2), (3, .int l3)] → W p l e R s m args below meth c H locs cells slots Q (F0 m 64 ls [.int s0]) := by
  intro l0 l1 l2 l3 s0 x H locs ls  hw hW hS hl
  unfold j_Mod_both_64 at hw
  refine lv_iload_n hx hb d_Mod_both_64 rfl (lv_at hl 1 rfl) ?_
  refine lv_iconst (v := 4) hx hb d_Mod_both_65 (by decide) ?_
  refine lv_iand hx hb d_Mod_both_66 ?_
  refine lv_if_le (tgt := 81) hx hb d_Mod_both_67 (by decide) (fun c2458 => ?_) (fun c2458 => ?_)
  · have hw := hw.1 c2458
    exact t_Mod_both_81 hx hb hml hown hT hK hN hA hRc hRs hRf hRl hret hs_Mod_both hDf hDl  l0 l1 l2 l3 s0 x H locs ls  hw hW hS (lv_sub hl [0, 1, 2, 3] rfl)
  · have hw := hw.2 c2458
    refine lv_iload_n hx hb d_Mod_both_70 rfl (lv_at hl 0 rfl) ?_
    refine lv_bipush (v := 6) hx hb d_Mod_both_71 (by decide) ?_
    refine lv_iand hx hb d_Mod_both_73 ?_
    refine lv_if_le (tgt := 81) hx hb d_Mod_both_74 (by decide) (fun c2459 => ?_) (fun c2459 => ?_)
    · have hw := hw.1 c2459
      exact t_Mod_both_81 hx hb hml hown hT hK hN hA hRc hRs hRf hRl hret hs_Mod_both hDf hDl  l0 l1 l2 l3 s0 x H locs ls  hw hW hS (lv_sub hl [0, 1, 2, 3] rfl)
    · have hw := hw.2 c2459
      exact t_Mod_both_77 hx hb hml hown hT hK hN hA hRc hRs hRf hRl hret hs_Mod_both hDf hDl  l0 l1 l2 l3 s0 x H locs ls  hw hW hS (lv_sub hl [0, 1, 2, 3] rfl)
set_option maxRecDepth 100000 in
set_option maxHeartbeats 4000000 in
set_option maxRecDepth 100000 in
theorem t_Mod_both_48 {p : Program} {l : Launch} {e : Env} {R : Room} {s : State} {m : MethodId} {args : Array Value} {below : List Frame} {meth : Method} {c : Code} {cells slots : Nat} {Q : State → Prop} {dC : Nat → ClassId} {dI : Nat → Nat → Nat} {cI cB cJ cZ : ClassId} {A : Nat → Prop} {ad : Nat → Nat} {post : Int32 → St → Prop} {self_Mod_both : (Int32 → St → Prop) → Int32 → Int32 → Int32 → St → Prop} {fd ld : Nat} (hx : p.tables.exec = Jvm.exec) (hb : c.code = b_Mod_both) (hml : c.maxLocals = 4) (hown : s.vm.findClass R_Mod = some m.cls) (hT : ∀ w ∈ TG, w.before args s = true) (hK : va_K (dC, dI) CL (TY cI cB cJ cZ) s) (hN : NW s) (hA : ∀ q : Nat, s.heap.size ≤ q → A q) (hRc : cells ≤ R.cells) (hRs : slots ≤ R.slots) (hRf : 1 ≤ R.frames) (hRl : 20 ≤ R.locals) (hret : ∀ (r : Int32) (x : St) (H : Heap) (locs : List Loc) (pc : Nat) (ls : Array Slot), decode b_Mod_both pc = .ok (.ireturn, 1) → post r x → Wd dC dI cI cB cJ cZ ad stM kcM 115 A x H → va_S A s.heap H locs → W p l e R s m args below meth c H locs cells slots Q (F0 m pc ls [.int r])) (hs_Mod_both : ∀ (sz : Nat) (l0 : Int32) (l1 : Int32) (l2 : Int32) (x : St), ∀ (post : Int32 → St → Prop), self_Mod_both post l0 l1 l2 x → Met l y_Mod_both (wsOf y_Mod_both b_Mod_both 4 (some (.int))) ({ frames := fd, cells := 0, slots := 0, locals := ld }) (va_Pc [.int l0, .int l1, .int l2] (PW dC dI cI cB cJ cZ ad stM kcM 115 sz x)) (va_Qi (fun (r : Int32) (y : St) => post r y) (fun y t => Wd dC dI cI cB cJ cZ ad stM kcM 115 (va_A (pic ad stM kcM 115 cI cB cJ cZ x) sz) y t.heap) (va_A (pic ad stM kcM 115 cI cB cJ cZ x) sz)) 0 0 (va_A (pic ad stM kcM 115 cI cB cJ cZ x) sz)) (hDf : fd + 1 ≤ R.frames) (hDl : 23 + ld ≤ R.locals)  : ∀ (l0 : Int32) (l1 : Int32) (l2 : Int32) (l3 : Int32) (s0 : Int32) (s1 : Int32) (x : St) (H : Heap) (locs : List Loc) (ls : Array Slot), j_Mod_both_48 post self_Mod_both l0 l1 l2 l3 s0 s1 x → Wd dC dI cI cB cJ cZ ad stM kcM 115 A x H → va_S A s.heap H locs → lv_has ls 4 [(0, .int l0), (1, .int l1), (2, .int l2), (3, .int l3)] → W p l e R s m args below meth c H locs cells slots Q (F0 m 48 ls [.int s0, .int s1]) := by
  intro l0 l1 l2 l3 s0 s1 x H locs ls  hw hW hS hl
  unfold j_Mod_both_48 at hw
  refine lv_ior hx hb d_Mod_both_48 ?_
  refine lv_topi (fun v2460 ev2460 => ?_)
  have hw := hw v2460 ev2460
  refine lv_istore_n (lv' := [(3, .int v2460), (0, .int l0), (1, .int l1), (2, .int l2)]) hx hb d_Mod_both_49 rfl hl (by decide) rfl (fun ls hl => ?_)
  refine lv_iload_n hx hb d_Mod_both_50 rfl (lv_at hl 0 rfl) ?_
  refine lv_iload_n hx hb d_Mod_both_51 rfl (lv_at hl 1 rfl) ?_
  refine lv_iconst (v := 4) hx hb d_Mod_both_52 (by decide) ?_
  refine lv_iand hx hb d_Mod_both_53 ?_
  refine lv_if_le (tgt := 64) hx hb d_Mod_both_54 (by decide) (fun c2461 => ?_) (fun c2461 => ?_)
  · have hw := hw.1 c2461
    exact t_Mod_both_64 hx hb hml hown hT hK hN hA hRc hRs hRf hRl hret hs_Mod_both hDf hDl  l0 l1 l2 v2460 v2460 x H locs ls  hw hW hS (lv_sub hl [1, 2, 3, 0] rfl)
  · have hw := hw.2 c2461
    refine lv_iload_n hx hb d_Mod_both_57 rfl (lv_at hl 2 rfl) ?_
    refine lv_bipush (v := 6) hx hb d_Mod_both_58 (by decide) ?_
    refine lv_iand hx hb d_Mod_both_60 ?_
    refine lv_if_gt (tgt := 77) hx hb d_Mod_both_61 (by decide) (fun c2462 => ?_) (fun c2462 => ?_)
    · have hw := hw.1 c2462
      exact t_Mod_both_77 hx hb hml hown hT hK hN hA hRc hRs hRf hRl hret hs_Mod_both hDf hDl  l0 l1 l2 v2460 v2460 x H locs ls  hw hW hS (lv_sub hl [1, 2, 3, 0] rfl)
    · have hw := hw.2 c2462
      exact t_Mod_both_64 hx hb hml hown hT hK hN hA hRc hRs hRf hRl hret hs_Mod_both hDf hDl  l0 l1 l2 v2460 v2460 x H locs ls  hw hW hS (lv_sub hl [1, 2, 3, 0] rfl)
set_option maxRecDepth 100000 in
set_option maxHeartbeats 4000000 in
set_option maxRecDepth 100000 in
theorem t_Mod_both_33 {p : Program} {l : Launch} {e : Env} {R : Room} {s : State} {m : MethodId} {args : Array Value} {below : List Frame} {meth : Method} {c : Code} {cells slots : Nat} {Q : State → Prop} {dC : Nat → ClassId} {dI : Nat → Nat → Nat} {cI cB cJ cZ : ClassId} {A : Nat → Prop} {ad : Nat → Nat} {post : Int32 → St → Prop} {self_Mod_both : (Int32 → St → Prop) → Int32 → Int32 → Int32 → St → Prop} {fd ld : Nat} (hx : p.tables.exec = Jvm.exec) (hb : c.code = b_Mod_both) (hml : c.maxLocals = 4) (hown : s.vm.findClass R_Mod = some m.cls) (hT : ∀ w ∈ TG, w.before args s = true) (hK : va_K (dC, dI) CL (TY cI cB cJ cZ) s) (hN : NW s) (hA : ∀ q : Nat, s.heap.size ≤ q → A q) (hRc : cells ≤ R.cells) (hRs : slots ≤ R.slots) (hRf : 1 ≤ R.frames) (hRl : 20 ≤ R.locals) (hret : ∀ (r : Int32) (x : St) (H : Heap) (locs : List Loc) (pc : Nat) (ls : Array Slot), decode b_Mod_both pc = .ok (.ireturn, 1) → post r x → Wd dC dI cI cB cJ cZ ad stM kcM 115 A x H → va_S A s.heap H locs → W p l e R s m args below meth c H locs cells slots Q (F0 m pc ls [.int r])) (hs_Mod_both : ∀ (sz : Nat) (l0 : Int32) (l1 : Int32) (l2 : Int32) (x : St), ∀ (post : Int32 → St → Prop), self_Mod_both post l0 l1 l2 x → Met l y_Mod_both (wsOf y_Mod_both b_Mod_both 4 (some (.int))) ({ frames := fd, cells := 0, slots := 0, locals := ld }) (va_Pc [.int l0, .int l1, .int l2] (PW dC dI cI cB cJ cZ ad stM kcM 115 sz x)) (va_Qi (fun (r : Int32) (y : St) => post r y) (fun y t => Wd dC dI cI cB cJ cZ ad stM kcM 115 (va_A (pic ad stM kcM 115 cI cB cJ cZ x) sz) y t.heap) (va_A (pic ad stM kcM 115 cI cB cJ cZ x) sz)) 0 0 (va_A (pic ad stM kcM 115 cI cB cJ cZ x) sz)) (hDf : fd + 1 ≤ R.frames) (hDl : 23 + ld ≤ R.locals)  : ∀ (l0 : Int32) (l1 : Int32) (l2 : Int32) (s0 : Int32) (x : St) (H : Heap) (locs : List Loc) (ls : Array Slot), j_Mod_both_33 post self_Mod_both l0 l1 l2 s0 x → Wd dC dI cI cB cJ cZ ad stM kcM 115 A x H → va_S A s.heap H locs → lv_has ls 4 [(0, .int l0), (1, .int l1), (2, .int l2)] → W p l e R s m args below meth c H locs cells slots Q (F0 m 33 ls [.int s0]) := by
  intro l0 l1 l2 s0 x H locs ls  hw hW hS hl
  unfold j_Mod_both_33 at hw
  refine lv_istore_n (lv' := [(3, .int s0), (0, .int l0), (1, .int l1), (2, .int l2)]) hx hb d_Mod_both_33 rfl hl (by decide) rfl (fun ls hl => ?_)
  refine lv_iload_n hx hb d_Mod_both_34 rfl (lv_at hl 0 rfl) ?_
  refine lv_iload_n hx hb d_Mod_both_35 rfl (lv_at hl 1 rfl) ?_
  refine lv_iload_n hx hb d_Mod_both_36 rfl (lv_at hl 2 rfl) ?_
  refine lv_ior hx hb d_Mod_both_37 ?_
  refine lv_iconst (v := 1) hx hb d_Mod_both_38 (by decide) ?_
  refine lv_iand hx hb d_Mod_both_39 ?_
  refine lv_if_le (tgt := 47) hx hb d_Mod_both_40 (by decide) (fun c2463 => ?_) (fun c2463 => ?_)
  · have hw := hw.1 c2463
    refine lv_iconst (v := 0) hx hb d_Mod_both_47 (by decide) ?_
    exact t_Mod_both_48 hx hb hml hown hT hK hN hA hRc hRs hRf hRl hret hs_Mod_both hDf hDl  l0 l1 l2 s0 0 s0 x H locs ls  hw hW hS (lv_sub hl [1, 2, 3, 0] rfl)
  · have hw := hw.2 c2463
    refine lv_iconst (v := 1) hx hb d_Mod_both_43 (by decide) ?_
    refine lv_goto (tgt := 48) hx hb d_Mod_both_44 (by decide) ?_
    exact t_Mod_both_48 hx hb hml hown hT hK hN hA hRc hRs hRf hRl hret hs_Mod_both hDf hDl  l0 l1 l2 s0 1 s0 x H locs ls  hw hW hS (lv_sub hl [1, 2, 3, 0] rfl)
set_option maxRecDepth 100000 in
set_option maxHeartbeats 4000000 in
set_option maxRecDepth 100000 in
theorem t_Mod_both_e {p : Program} {l : Launch} {e : Env} {R : Room} {s : State} {m : MethodId} {args : Array Value} {below : List Frame} {meth : Method} {c : Code} {cells slots : Nat} {Q : State → Prop} {dC : Nat → ClassId} {dI : Nat → Nat → Nat} {cI cB cJ cZ : ClassId} {A : Nat → Prop} {ad : Nat → Nat} {post : Int32 → St → Prop} {self_Mod_both : (Int32 → St → Prop) → Int32 → Int32 → Int32 → St → Prop} {fd ld : Nat} (hx : p.tables.exec = Jvm.exec) (hb : c.code = b_Mod_both) (hml : c.maxLocals = 4) (hown : s.vm.findClass R_Mod = some m.cls) (hT : ∀ w ∈ TG, w.before args s = true) (hK : va_K (dC, dI) CL (TY cI cB cJ cZ) s) (hN : NW s) (hA : ∀ q : Nat, s.heap.size ≤ q → A q) (hRc : cells ≤ R.cells) (hRs : slots ≤ R.slots) (hRf : 1 ≤ R.frames) (hRl : 20 ≤ R.locals) (hret : ∀ (r : Int32) (x : St) (H : Heap) (locs : List Loc) (pc : Nat) (ls : Array Slot), decode b_Mod_both pc = .ok (.ireturn, 1) → post r x → Wd dC dI cI cB cJ cZ ad stM kcM 115 A x H → va_S A s.heap H locs → W p l e R s m args below meth c H locs cells slots Q (F0 m pc ls [.int r])) (hs_Mod_both : ∀ (sz : Nat) (l0 : Int32) (l1 : Int32) (l2 : Int32) (x : St), ∀ (post : Int32 → St → Prop), self_Mod_both post l0 l1 l2 x → Met l y_Mod_both (wsOf y_Mod_both b_Mod_both 4 (some (.int))) ({ frames := fd, cells := 0, slots := 0, locals := ld }) (va_Pc [.int l0, .int l1, .int l2] (PW dC dI cI cB cJ cZ ad stM kcM 115 sz x)) (va_Qi (fun (r : Int32) (y : St) => post r y) (fun y t => Wd dC dI cI cB cJ cZ ad stM kcM 115 (va_A (pic ad stM kcM 115 cI cB cJ cZ x) sz) y t.heap) (va_A (pic ad stM kcM 115 cI cB cJ cZ x) sz)) 0 0 (va_A (pic ad stM kcM 115 cI cB cJ cZ x) sz)) (hDf : fd + 1 ≤ R.frames) (hDl : 23 + ld ≤ R.locals) : ∀ (l0 : Int32) (l1 : Int32) (l2 : Int32) (x : St) (H : Heap) (locs : List Loc) (ls : Array Slot), wb_Mod_both post self_Mod_both l0 l1 l2 x → Wd dC dI cI cB cJ cZ ad stM kcM 115 A x H → va_S A s.heap H locs → lv_has ls 4 [(0, .int l0), (1, .int l1), (2, .int l2)] → W p l e R s m args below meth c H locs cells slots Q (F0 m 0 ls []) := by
  intro l0 l1 l2 x H locs ls  hw hW hS hl
  unfold wb_Mod_both at hw
  refine lv_iload_n hx hb d_Mod_both_0 rfl (lv_at hl 2 rfl) ?_
  refine lv_if_ne (tgt := 20) hx hb d_Mod_both_1 (by decide) (fun c2464 => ?_) (fun c2464 => ?_)
  · have hw := hw.1 c2464
    refine lv_iload_n hx hb d_Mod_both_20 rfl (lv_at hl 0 rfl) ?_
    refine lv_iload_n hx hb d_Mod_both_21 rfl (lv_at hl 1 rfl) ?_
    refine lv_iand hx hb d_Mod_both_22 ?_
    refine lv_iconst (v := 2) hx hb d_Mod_both_23 (by decide) ?_
    refine lv_iand hx hb d_Mod_both_24 ?_
    refine lv_if_le (tgt := 32) hx hb d_Mod_both_25 (by decide) (fun c2465 => ?_) (fun c2465 => ?_)
    · have hw := hw.1 c2465
      refine lv_iconst (v := 0) hx hb d_Mod_both_32 (by decide) ?_
      exact t_Mod_both_33 hx hb hml hown hT hK hN hA hRc hRs hRf hRl hret hs_Mod_both hDf hDl  l0 l1 l2 0 x H locs ls  hw hW hS (lv_sub hl [0, 1, 2] rfl)
    · have hw := hw.2 c2465
      refine lv_iconst (v := 2) hx hb d_Mod_both_28 (by decide) ?_
      refine lv_goto (tgt := 33) hx hb d_Mod_both_29 (by decide) ?_
      exact t_Mod_both_33 hx hb hml hown hT hK hN hA hRc hRs hRf hRl hret hs_Mod_both hDf hDl  l0 l1 l2 2 x H locs ls  hw hW hS (lv_sub hl [0, 1, 2] rfl)
  · have hw := hw.2 c2464
    refine lv_iload_n hx hb d_Mod_both_4 rfl (lv_at hl 0 rfl) ?_
    have hF := hW.free hS hA
    refine va_calli (va_runS (As := [.int l0]) (rest := []) ⟨hx, hb, hml, hown, hT⟩ (k_Mod_not l dC dI cI cB cJ cZ ad H.size l0 x  hw) ⟨callB_of 1 hT (gwt_in w_14_16) rfl rfl rfl (hT _ w_1_15) (hT _ w_14_14) (by decide +kernel) ⟨Nat.le_trans (Nat.le_of_ble_eq_true rfl) hRf, Nat.le_trans (Nat.le_of_ble_eq_true rfl) hRl⟩, hT _ w_14_15⟩ ⟨PW.blind, PW.at _ hW hK hN⟩ rfl rfl hl.1 rfl (lv_room (Nat.le_of_ble_eq_true rfl)) d_Mod_both_5 ⟨hRc, hRs⟩) hS (fun q _ h => hF q h) hF (fun r2467 x2466 t H locs ht hvm hw hB hz1 hk1 hS => ?_)
    have hW := Wd.back hB ht hF
    clear hB ht hF hz1 hk1 hvm
    refine lv_iload_n hx hb d_Mod_both_8 rfl (lv_at hl 1 rfl) ?_
    have hF := hW.free hS hA
    refine va_calli (va_runS (As := [.int l1]) (rest := [.int r2467]) ⟨hx, hb, hml, hown, hT⟩ (k_Mod_not l dC dI cI cB cJ cZ ad H.size l1 x2466  hw) ⟨callB_of 1 hT (gwt_in w_14_16) rfl rfl rfl (hT _ w_1_15) (hT _ w_14_14) (by decide +kernel) ⟨Nat.le_trans (Nat.le_of_ble_eq_true rfl) hRf, Nat.le_trans (Nat.le_of_ble_eq_true rfl) hRl⟩, hT _ w_14_15⟩ ⟨PW.blind, PW.at _ hW hK hN⟩ rfl rfl hl.1 rfl (lv_room (Nat.le_of_ble_eq_true rfl)) d_Mod_both_9 ⟨hRc, hRs⟩) hS (fun q _ h => hF q h) hF (fun r2469 x2468 t H locs ht hvm hw hB hz1 hk1 hS => ?_)
    have hW := Wd.back hB ht hF
    clear hB ht hF hz1 hk1 hvm
    refine lv_iconst (v := 1) hx hb d_Mod_both_12 (by decide) ?_
    have hF := hW.free hS hA
    refine va_calli (va_runS (As := [.int r2467, .int r2469, .int 1]) (rest := []) ⟨hx, hb, hml, hown, hT⟩ (hs_Mod_both H.size r2467 r2469 1 x2468  _ hw) ⟨callB_of 3 hT (gwt_in w_14_19) rfl rfl rfl (hT _ w_1_15) (hT _ w_14_17) (by decide +kernel) ⟨hDf, Nat.le_trans (Nat.add_le_add_right (by decide) _) hDl⟩, hT _ w_14_18⟩ ⟨PW.blind, PW.at _ hW hK hN⟩ rfl rfl hl.1 rfl (lv_room (Nat.le_of_ble_eq_true rfl)) d_Mod_both_13 ⟨hRc, hRs⟩) hS (fun q _ h => hF q h) hF (fun r2471 x2470 t H locs ht hvm hw hB hz1 hk1 hS => ?_)
    have hW := Wd.back hB ht hF
    clear hB ht hF hz1 hk1 hvm
    have hF := hW.free hS hA
    refine va_calli (va_runS (As := [.int r2471]) (rest := []) ⟨hx, hb, hml, hown, hT⟩ (k_Mod_not l dC dI cI cB cJ cZ ad H.size r2471 x2470  hw) ⟨callB_of 1 hT (gwt_in w_14_16) rfl rfl rfl (hT _ w_1_15) (hT _ w_14_14) (by decide +kernel) ⟨Nat.le_trans (Nat.le_of_ble_eq_true rfl) hRf, Nat.le_trans (Nat.le_of_ble_eq_true rfl) hRl⟩, hT _ w_14_15⟩ ⟨PW.blind, PW.at _ hW hK hN⟩ rfl rfl hl.1 rfl (lv_room (Nat.le_of_ble_eq_true rfl)) d_Mod_both_16 ⟨hRc, hRs⟩) hS (fun q _ h => hF q h) hF (fun r2473 x2472 t H locs ht hvm hw hB hz1 hk1 hS => ?_)
    have hW := Wd.back hB ht hF
    clear hB ht hF hz1 hk1 hvm
    exact hret r2473 x2472 H locs 19 ls d_Mod_both_19 hw hW hS
set_option maxHeartbeats 4000000 in
set_option maxRecDepth 100000 in
theorem kr_Mod_both (l : Launch) (dC : Nat → ClassId) (dI : Nat → Nat → Nat) (cI cB cJ cZ : ClassId) (ad : Nat → Nat) : ∀ d : Nat, (∀ (sz : Nat) (l0 : Int32) (l1 : Int32) (l2 : Int32) (x : St), ∀ (post : Int32 → St → Prop), (wr_Mod_both d) post l0 l1 l2 x → Met l y_Mod_both (wsOf y_Mod_both b_Mod_both 4 (some (.int))) ({ frames := 1 + d, cells := 0, slots := 0, locals := 20 + d * 23 }) (va_Pc [.int l0, .int l1, .int l2] (PW dC dI cI cB cJ cZ ad stM kcM 115 sz x)) (va_Qi (fun (r : Int32) (y : St) => post r y) (fun y t => Wd dC dI cI cB cJ cZ ad stM kcM 115 (va_A (pic ad stM kcM 115 cI cB cJ cZ x) sz) y t.heap) (va_A (pic ad stM kcM 115 cI cB cJ cZ x) sz)) 0 0 (va_A (pic ad stM kcM 115 cI cB cJ cZ x) sz)) := by
  intro d
  induction d with
  | zero =>
    exact fun sz l0 l1 l2 x  post hw => hw.elim
  | succ d ih =>
    intro sz l0 l1 l2 x  post hw
    have hw : wb_Mod_both post (wr_Mod_both d) l0 l1 l2 x := hw
    refine Met.ofW (cc := b_Mod_both) (maxL := 4) (ret := some (.int)) (by decide) rfl ?_
    intro p e s m args below meth c s₁ B hml hv
    obtain ⟨rfl, hsz, hW0, hK, hN⟩ := hv
    have hx := B.exec
    have hb := B.bytes
    have hr := B.returns
    have hts := atoms_spec B.pre
    have hT : ∀ w ∈ TG, w.before _ s = true := fun w h => hts w (List.mem_cons_of_mem _ h)
    have hown : s.vm.findClass R_Mod = some m.cls := findClass_of_methodNamed B.named
    have hlocks := B.notSynchronized
    subst hsz
    have hW : Wd dC dI cI cB cJ cZ ad stM kcM 115 (va_A (pic ad stM kcM 115 cI cB cJ cZ x) s.heap.size) x s.heap := ⟨hW0.1, hW0.2.1.self (sz := s.heap.size), hW0.2.2⟩
    generalize hAe : va_A (pic ad stM kcM 115 cI cB cJ cZ x) s.heap.size = A at hW ⊢
    have hA : ∀ q : Nat, s.heap.size ≤ q → A q := fun q h => by rw [← hAe]; exact Or.inr h
    have hS : va_S A s.heap s.heap [] := va_S.rf
    have hl := lv_entry ([.int l0, .int l1, .int l2]) (n := 4) (Nat.le_of_ble_eq_true rfl)
    rw [lg_entry_eq]
    generalize (lg_sl ([.int l0, .int l1, .int l2]) ++ List.replicate (4 - (lg_sl ([.int l0, .int l1, .int l2])).length) Slot.unset).toArray = ls at hl ⊢
    have hl : lv_has ls 4 [(0, .int l0), (1, .int l1), (2, .int l2)] := hl
    exact t_Mod_both_e hx hb hml hown hT hK hN hA (Nat.le_refl 0) (Nat.le_refl 0) (Nat.le_add_right 1 (d + 1)) (Nat.le_add_right 20 ((d + 1) * 23)) (fun r x H locs pc ls hd hp hW hS => W.iret (v := r) hx hb hr (fun t ht hM => ⟨⟨r, x, rfl, hp, Wd.back hW ht.symm (fun _ z => z)⟩, hS.F ht⟩) hS.2.2 hd hlocks) ih (Nat.le_of_eq (Nat.add_assoc 1 d 1)) (by show 23 + (20 + d * 23) ≤ 20 + (d + 1) * 23; omega) l0 l1 l2 x _ _ ls  hw hW hS hl

theorem k_Mod_both (l : Launch) (dC : Nat → ClassId) (dI : Nat → Nat → Nat) (cI cB cJ cZ : ClassId) (ad : Nat → Nat) (sz : Nat) (l0 : Int32) (l1 : Int32) (l2 : Int32) (x : St) {post : Int32 → St → Prop} (hw : wp_Mod_both post l0 l1 l2 x) : Met l y_Mod_both (wsOf y_Mod_both b_Mod_both 4 (some (.int))) ({ frames := 201, cells := 0, slots := 0, locals := 4620 }) (va_Pc [.int l0, .int l1, .int l2] (PW dC dI cI cB cJ cZ ad stM kcM 115 sz x)) (va_Qi (fun (r : Int32) (y : St) => post r y) (fun y t => Wd dC dI cI cB cJ cZ ad stM kcM 115 (va_A (pic ad stM kcM 115 cI cB cJ cZ x) sz) y t.heap) (va_A (pic ad stM kcM 115 cI cB cJ cZ x) sz)) 0 0 (va_A (pic ad stM kcM 115 cI cB cJ cZ x) sz) := (kr_Mod_both l dC dI cI cB cJ cZ ad 200) sz l0 l1 l2 x  post hw
set_option maxRecDepth 100000 in
set_option maxHeartbeats 4000000 in
set_option maxRecDepth 100000 in
theorem t_Mod_condition_148 {p : Program} {l : Launch} {e : Env} {R : Room} {s : State} {m : MethodId} {args : Array Value} {below : List Frame} {meth : Method} {c : Code} {cells slots : Nat} {Q : State → Prop} {dC : Nat → ClassId} {dI : Nat → Nat → Nat} {cI cB cJ cZ : ClassId} {A : Nat → Prop} {ad : Nat → Nat} {post : Int32 → St → Prop} {rec4 : Int32 → Int32 → Int32 → St → Prop} (hx : p.tables.exec = Jvm.exec) (hb : c.code = b_Mod_condition) (hml : c.maxLocals = 6) (hown : s.vm.findClass R_Mod = some m.cls) (hT : ∀ w ∈ TG, w.before args s = true) (hK : va_K (dC, dI) CL (TY cI cB cJ cZ) s) (hN : NW s) (hA : ∀ q : Nat, s.heap.size ≤ q → A q) (hRc : cells ≤ R.cells) (hRs : slots ≤ R.slots) (hRf : 202 ≤ R.frames) (hRl : 4643 ≤ R.locals) (hret : ∀ (r : Int32) (x : St) (H : Heap) (locs : List Loc) (pc : Nat) (ls : Array Slot), decode b_Mod_condition pc = .ok (.ireturn, 1) → post r x → Wd dC dI cI cB cJ cZ ad stM kcM 115 A x H → va_S A s.heap H locs → W p l e R s m args below meth c H locs cells slots Q (F0 m pc ls [.int r])) (hrec4 : ∀ (l1 : Int32) (l2 : Int32) (l3 : Int32) (x : St) (H : Heap) (locs : List Loc) (ls : Array Slot), rec4 l1 l2 l3 x → Wd dC dI cI cB cJ cZ ad stM kcM 115 A x H → va_S A s.heap H locs → lv_has ls 6 [(0, .ref (ad 0)), (1, .int l1), (2, .int l2), (3, .int l3)] → W p l e R s m args below meth c H locs cells slots Q (F0 m 4 ls [])) : ∀ (l1 : Int32) (l2 : Int32) (l3 : Int32) (l4 : Int32) (l5 : Int32) (x : St) (H : Heap) (locs : List Loc) (ls : Array Slot), j_Mod_condition_148 post rec4 l1 l2 l3 l4 l5 x → Wd dC dI cI cB cJ cZ ad stM kcM 115 A x H → va_S A s.heap H locs → lv_has ls 6 [(0, .ref (ad 0)), (1, .int l1), (2, .int l2), (3, .int l3), (4, .int l4), (5, .int l5)] → W p l e R s m args below meth c H locs cells slots Q (F0 m 148 ls []) := by
  intro l1 l2 l3 l4 l5 x H locs ls  hw hW hS hl
  unfold j_Mod_condition_148 at hw
  refine lv_iinc (v := (l3 + 1)) (lv' := [(3, .int (l3 + 1)), (0, .ref (ad 0)), (1, .int l1), (2, .int l2), (4, .int l4), (5, .int l5)]) hx hb d_Mod_condition_148 hl (k := 3) rfl rfl (by decide) rfl (fun ls hl => ?_)
  refine lv_goto (tgt := 4) hx hb d_Mod_condition_151 (by decide) ?_
  exact hrec4 l1 l2 (l3 + 1) x H locs ls  hw hW hS (lv_sub hl [1, 2, 3, 0] rfl)
set_option maxRecDepth 100000 in
set_option maxHeartbeats 4000000 in
set_option maxRecDepth 100000 in
theorem t_Mod_condition_144 {p : Program} {l : Launch} {e : Env} {R : Room} {s : State} {m : MethodId} {args : Array Value} {below : List Frame} {meth : Method} {c : Code} {cells slots : Nat} {Q : State → Prop} {dC : Nat → ClassId} {dI : Nat → Nat → Nat} {cI cB cJ cZ : ClassId} {A : Nat → Prop} {ad : Nat → Nat} {post : Int32 → St → Prop} {rec4 : Int32 → Int32 → Int32 → St → Prop} (hx : p.tables.exec = Jvm.exec) (hb : c.code = b_Mod_condition) (hml : c.maxLocals = 6) (hown : s.vm.findClass R_Mod = some m.cls) (hT : ∀ w ∈ TG, w.before args s = true) (hK : va_K (dC, dI) CL (TY cI cB cJ cZ) s) (hN : NW s) (hA : ∀ q : Nat, s.heap.size ≤ q → A q) (hRc : cells ≤ R.cells) (hRs : slots ≤ R.slots) (hRf : 202 ≤ R.frames) (hRl : 4643 ≤ R.locals) (hret : ∀ (r : Int32) (x : St) (H : Heap) (locs : List Loc) (pc : Nat) (ls : Array Slot), decode b_Mod_condition pc = .ok (.ireturn, 1) → post r x → Wd dC dI cI cB cJ cZ ad stM kcM 115 A x H → va_S A s.heap H locs → W p l e R s m args below meth c H locs cells slots Q (F0 m pc ls [.int r])) (hrec4 : ∀ (l1 : Int32) (l2 : Int32) (l3 : Int32) (x : St) (H : Heap) (locs : List Loc) (ls : Array Slot), rec4 l1 l2 l3 x → Wd dC dI cI cB cJ cZ ad stM kcM 115 A x H → va_S A s.heap H locs → lv_has ls 6 [(0, .ref (ad 0)), (1, .int l1), (2, .int l2), (3, .int l3)] → W p l e R s m args below meth c H locs cells slots Q (F0 m 4 ls [])) : ∀ (l1 : Int32) (l2 : Int32) (l3 : Int32) (l4 : Int32) (l5 : Int32) (s0 : Int32) (s1 : Int32) (s2 : Int32) (s3 : Int32) (s4 : Nat) (x : St) (H : Heap) (locs : List Loc) (ls : Array Slot), (s4 < 115 ∧ kcM s4 = 20) → j_Mod_condition_144 post rec4 l1 l2 l3 l4 l5 s0 s1 s2 s3 s4 x → Wd dC dI cI cB cJ cZ ad stM kcM 115 A x H → va_S A s.heap H locs → lv_has ls 6 [(0, .ref (ad 0)), (1, .int l1), (2, .int l2), (3, .int l3), (4, .int l4), (5, .int l5)] → W p l e R s m args below meth c H locs cells slots Q (F0 m 144 ls [.int s0, .int s1, .int s2, .int s3, .ref (ad s4)]) := by
  intro l1 l2 l3 l4 l5 s0 s1 s2 s3 s4 x H locs ls fs4 hw hW hS hl
  unfold j_Mod_condition_144 at hw
  have hF := hW.free hS hA
  refine va_calli (va_runS (As := [.int s2, .int s1, .int s0]) (rest := [.int s3, .ref (ad s4)]) ⟨hx, hb, hml, hown, hT⟩ (k_Mod_both l dC dI cI cB cJ cZ ad H.size s2 s1 s0 x  hw) ⟨callB_of 3 hT (gwt_in w_14_19) rfl rfl rfl (hT _ w_1_15) (hT _ w_14_17) (by decide +kernel) ⟨Nat.le_trans (Nat.le_of_ble_eq_true rfl) hRf, Nat.le_trans (Nat.le_of_ble_eq_true rfl) hRl⟩, hT _ w_14_18⟩ ⟨PW.blind, PW.at _ hW hK hN⟩ rfl rfl hl.1 rfl (lv_room (Nat.le_of_ble_eq_true rfl)) d_Mod_condition_144 ⟨hRc, hRs⟩) hS (fun q _ h => hF q h) hF (fun r2475 x2474 t H locs ht hvm hw hB hz1 hk1 hS => ?_)
  have hW := Wd.back hB ht hF
  clear hB ht hF hz1 hk1 hvm
  obtain ⟨hi, hw⟩ := hw
  refine w_iast (o := s4) hx hb hK hW hS fs4.1 fs4.2 hi d_Mod_condition_147 (fun H locs hW hS => ?_)
  obtain ⟨x2476, ex2476⟩ : ∃ y : St, y = setA x2474 s4 s3 r2475 := ⟨_, rfl⟩
  rw [← ex2476] at hW
  have hw := hw x2476 ex2476
  exact t_Mod_condition_148 hx hb hml hown hT hK hN hA hRc hRs hRf hRl hret hrec4 l1 l2 l3 l4 l5 x2476 H locs ls  hw hW hS (lv_sub hl [0, 1, 2, 3, 4, 5] rfl)
set_option maxRecDepth 100000 in
set_option maxHeartbeats 4000000 in
set_option maxRecDepth 100000 in
theorem t_Mod_condition_73 {p : Program} {l : Launch} {e : Env} {R : Room} {s : State} {m : MethodId} {args : Array Value} {below : List Frame} {meth : Method} {c : Code} {cells slots : Nat} {Q : State → Prop} {dC : Nat → ClassId} {dI : Nat → Nat → Nat} {cI cB cJ cZ : ClassId} {A : Nat → Prop} {ad : Nat → Nat} {post : Int32 → St → Prop} {rec4 : Int32 → Int32 → Int32 → St → Prop} (hx : p.tables.exec = Jvm.exec) (hb : c.code = b_Mod_condition) (hml : c.maxLocals = 6) (hown : s.vm.findClass R_Mod = some m.cls) (hT : ∀ w ∈ TG, w.before args s = true) (hK : va_K (dC, dI) CL (TY cI cB cJ cZ) s) (hN : NW s) (hA : ∀ q : Nat, s.heap.size ≤ q → A q) (hRc : cells ≤ R.cells) (hRs : slots ≤ R.slots) (hRf : 202 ≤ R.frames) (hRl : 4643 ≤ R.locals) (hret : ∀ (r : Int32) (x : St) (H : Heap) (locs : List Loc) (pc : Nat) (ls : Array Slot), decode b_Mod_condition pc = .ok (.ireturn, 1) → post r x → Wd dC dI cI cB cJ cZ ad stM kcM 115 A x H → va_S A s.heap H locs → W p l e R s m args below meth c H locs cells slots Q (F0 m pc ls [.int r])) (hrec4 : ∀ (l1 : Int32) (l2 : Int32) (l3 : Int32) (x : St) (H : Heap) (locs : List Loc) (ls : Array Slot), rec4 l1 l2 l3 x → Wd dC dI cI cB cJ cZ ad stM kcM 115 A x H → va_S A s.heap H locs → lv_has ls 6 [(0, .ref (ad 0)), (1, .int l1), (2, .int l2), (3, .int l3)] → W p l e R s m args below meth c H locs cells slots Q (F0 m 4 ls [])) : ∀ (l1 : Int32) (l2 : Int32) (l3 : Int32) (l4 : Int32) (l5 : Int32) (s0 : Int32) (s1 : Int32) (s2 : Nat) (x : St) (H : Heap) (locs : List Loc) (ls : Array Slot), (s2 < 115 ∧ kcM s2 = 20) → j_Mod_condition_73 post rec4 l1 l2 l3 l4 l5 s0 s1 s2 x → Wd dC dI cI cB cJ cZ ad stM kcM 115 A x H → va_S A s.heap H locs → lv_has ls 6 [(0, .ref (ad 0)), (1, .int l1), (2, .int l2), (3, .int l3), (4, .int l4), (5, .int l5)] → W p l e R s m args below meth c H locs cells slots Q (F0 m 73 ls [.int s0, .int s1, .ref (ad s2)]) := by
  intro l1 l2 l3 l4 l5 s0 s1 s2 x H locs ls fs2 hw hW hS hl
  unfold j_Mod_condition_73 at hw
  obtain ⟨hi, hw⟩ := hw
  refine w_iast (o := s2) hx hb hK hW hS fs2.1 fs2.2 hi d_Mod_condition_73 (fun H locs hW hS => ?_)
  obtain ⟨x2477, ex2477⟩ : ∃ y : St, y = setA x s2 s1 s0 := ⟨_, rfl⟩
  rw [← ex2477] at hW
  have hw := hw x2477 ex2477
  refine lv_iinc (v := (l2 + 1)) (lv' := [(2, .int (l2 + 1)), (0, .ref (ad 0)), (1, .int l1), (3, .int l3), (4, .int l4), (5, .int l5)]) hx hb d_Mod_condition_74 hl (k := 2) rfl rfl (by decide) rfl (fun ls hl => ?_)
  refine lv_goto (tgt := 148) hx hb d_Mod_condition_77 (by decide) ?_
  exact t_Mod_condition_148 hx hb hml hown hT hK hN hA hRc hRs hRf hRl hret hrec4 l1 (l2 + 1) l3 l4 l5 x2477 H locs ls  hw hW hS (lv_sub hl [1, 2, 0, 3, 4, 5] rfl)
set_option maxRecDepth 100000 in
set_option maxHeartbeats 4000000 in
set_option maxRecDepth 100000 in
theorem t_Mod_condition_4 {p : Program} {l : Launch} {e : Env} {R : Room} {s : State} {m : MethodId} {args : Array Value} {below : List Frame} {meth : Method} {c : Code} {cells slots : Nat} {Q : State → Prop} {dC : Nat → ClassId} {dI : Nat → Nat → Nat} {cI cB cJ cZ : ClassId} {A : Nat → Prop} {ad : Nat → Nat} {post : Int32 → St → Prop} {rec4 : Int32 → Int32 → Int32 → St → Prop} (hx : p.tables.exec = Jvm.exec) (hb : c.code = b_Mod_condition) (hml : c.maxLocals = 6) (hown : s.vm.findClass R_Mod = some m.cls) (hT : ∀ w ∈ TG, w.before args s = true) (hK : va_K (dC, dI) CL (TY cI cB cJ cZ) s) (hN : NW s) (hA : ∀ q : Nat, s.heap.size ≤ q → A q) (hRc : cells ≤ R.cells) (hRs : slots ≤ R.slots) (hRf : 202 ≤ R.frames) (hRl : 4643 ≤ R.locals) (hret : ∀ (r : Int32) (x : St) (H : Heap) (locs : List Loc) (pc : Nat) (ls : Array Slot), decode b_Mod_condition pc = .ok (.ireturn, 1) → post r x → Wd dC dI cI cB cJ cZ ad stM kcM 115 A x H → va_S A s.heap H locs → W p l e R s m args below meth c H locs cells slots Q (F0 m pc ls [.int r])) (hrec4 : ∀ (l1 : Int32) (l2 : Int32) (l3 : Int32) (x : St) (H : Heap) (locs : List Loc) (ls : Array Slot), rec4 l1 l2 l3 x → Wd dC dI cI cB cJ cZ ad stM kcM 115 A x H → va_S A s.heap H locs → lv_has ls 6 [(0, .ref (ad 0)), (1, .int l1), (2, .int l2), (3, .int l3)] → W p l e R s m args below meth c H locs cells slots Q (F0 m 4 ls [])) : ∀ (l1 : Int32) (l2 : Int32) (l3 : Int32) (x : St) (H : Heap) (locs : List Loc) (ls : Array Slot), j_Mod_condition_4 post rec4 l1 l2 l3 x → Wd dC dI cI cB cJ cZ ad stM kcM 115 A x H → va_S A s.heap H locs → lv_has ls 6 [(0, .ref (ad 0)), (1, .int l1), (2, .int l2), (3, .int l3)] → W p l e R s m args below meth c H locs cells slots Q (F0 m 4 ls []) := by
  intro l1 l2 l3 x H locs ls  hw hW hS hl
  unfold j_Mod_condition_4 at hw
  refine lv_iload_n hx hb d_Mod_condition_4 rfl (lv_at hl 3 rfl) ?_
  refine lv_aload_n hx hb d_Mod_condition_5 rfl (lv_at hl 0 rfl) ?_
  refine w_getf (q := 79) (k := 122) (t := 12) (C := R_Mod) (T := F_Mod) (N := 167) hx hb hT hown hK hW ko_0.1 ko_0.2 (by decide) in_Mod rfl rfl (by decide) rfl fr_Mod_122 w_9_58 d_Mod_condition_6 rfl ?_
  refine lv_iconst (v := 4) hx hb d_Mod_condition_9 (by decide) ?_
  refine lv_aload_n hx hb d_Mod_condition_10 rfl (lv_at hl 0 rfl) ?_
  refine w_geti (k := 117) (t := 12) (C := R_Mod) (T := F_Mod) (N := 167) hx hb hT hown hK hW ko_0.1 ko_0.2 (by decide) in_Mod rfl rfl (by decide) rfl fr_Mod_117 w_9_53 d_Mod_condition_11 ?_
  refine lv_imul hx hb d_Mod_condition_14 ?_
  refine lv_iconst (v := 2) hx hb d_Mod_condition_15 (by decide) ?_
  refine lv_iadd hx hb d_Mod_condition_16 ?_
  obtain ⟨hi, hw⟩ := hw
  refine w_iald (o := 79) hx hb hK hW ko_79.1 ko_79.2 hi d_Mod_condition_17 ?_
  refine lv_icmp_ge (tgt := 154) hx hb d_Mod_condition_18 (by decide) (fun c2478 => ?_) (fun c2478 => ?_)
  · have hw := hw.1 c2478
    refine lv_aload_n hx hb d_Mod_condition_154 rfl (lv_at hl 0 rfl) ?_
    refine w_getf (q := 96) (k := 141) (t := 12) (C := R_Mod) (T := F_Mod) (N := 167) hx hb hT hown hK hW ko_0.1 ko_0.2 (by decide) in_Mod rfl rfl (by decide) rfl fr_Mod_141 w_9_77 d_Mod_condition_155 rfl ?_
    refine lv_iconst (v := 0) hx hb d_Mod_condition_158 (by decide) ?_
    obtain ⟨hi, hw⟩ := hw
    refine w_iald (o := 96) hx hb hK hW ko_96.1 ko_96.2 hi d_Mod_condition_159 ?_
    exact hret (rA x 96 0) x H locs 160 ls d_Mod_condition_160 hw hW hS
  · have hw := hw.2 c2478
    refine lv_bipush (v := 64) hx hb d_Mod_condition_21 (by decide) ?_
    refine lv_aload_n hx hb d_Mod_condition_23 rfl (lv_at hl 0 rfl) ?_
    refine w_geti (k := 117) (t := 12) (C := R_Mod) (T := F_Mod) (N := 167) hx hb hT hown hK hW ko_0.1 ko_0.2 (by decide) in_Mod rfl rfl (by decide) rfl fr_Mod_117 w_9_53 d_Mod_condition_24 ?_
    refine lv_imul hx hb d_Mod_condition_27 ?_
    refine lv_iload_n hx hb d_Mod_condition_28 rfl (lv_at hl 3 rfl) ?_
    refine lv_iadd hx hb d_Mod_condition_29 ?_
    refine lv_topi (fun v2479 ev2479 => ?_)
    have hw := hw v2479 ev2479
    refine lv_istore (lv' := [(4, .int v2479), (0, .ref (ad 0)), (1, .int l1), (2, .int l2), (3, .int l3)]) hx hb d_Mod_condition_30 hl (by decide) rfl (fun ls hl => ?_)
    refine lv_aload_n hx hb d_Mod_condition_32 rfl (lv_at hl 1 rfl) ?_
    refine w_getf (q := 84) (k := 127) (t := 12) (C := R_Mod) (T := F_Mod) (N := 167) hx hb hT hown hK hW ko_0.1 ko_0.2 (by decide) in_Mod rfl rfl (by decide) rfl fr_Mod_127 w_9_63 d_Mod_condition_33 rfl ?_
    refine lv_iload hx hb d_Mod_condition_36 (lv_at hl 0 rfl) ?_
    obtain ⟨hi, hw⟩ := hw
    refine w_iald (o := 84) hx hb hK hW ko_84.1 ko_84.2 hi d_Mod_condition_38 ?_
    refine lv_topi (fun v2480 ev2480 => ?_)
    have hw := hw v2480 ev2480
    refine lv_istore (lv' := [(5, .int v2480), (4, .int v2479), (0, .ref (ad 0)), (1, .int l1), (2, .int l2), (3, .int l3)]) hx hb d_Mod_condition_39 hl (by decide) rfl (fun ls hl => ?_)
    refine lv_iload hx hb d_Mod_condition_41 (lv_at hl 0 rfl) ?_
    refine lv_iconst (v := 5) hx hb d_Mod_condition_43 (by decide) ?_
    refine lv_icmp_ge (tgt := 80) hx hb d_Mod_condition_44 (by decide) (fun c2481 => ?_) (fun c2481 => ?_)
    · have hw := hw.1 c2481
      refine lv_iload hx hb d_Mod_condition_80 (lv_at hl 0 rfl) ?_
      refine lv_iconst (v := 5) hx hb d_Mod_condition_82 (by decide) ?_
      refine lv_icmp_ne (tgt := 108) hx hb d_Mod_condition_83 (by decide) (fun c2482 => ?_) (fun c2482 => ?_)
      · have hw := hw.1 c2482
        refine lv_iinc (v := (l2 + (-1))) (lv' := [(2, .int (l2 + (-1))), (5, .int v2480), (4, .int v2479), (0, .ref (ad 0)), (1, .int l1), (3, .int l3)]) hx hb d_Mod_condition_108 hl (k := 4) rfl rfl (by decide) rfl (fun ls hl => ?_)
        refine lv_aload_n hx hb d_Mod_condition_111 rfl (lv_at hl 3 rfl) ?_
        refine w_getf (q := 96) (k := 141) (t := 12) (C := R_Mod) (T := F_Mod) (N := 167) hx hb hT hown hK hW ko_0.1 ko_0.2 (by decide) in_Mod rfl rfl (by decide) rfl fr_Mod_141 w_9_77 d_Mod_condition_112 rfl ?_
        refine lv_iload_n hx hb d_Mod_condition_115 rfl (lv_at hl 0 rfl) ?_
        refine lv_iconst (v := 1) hx hb d_Mod_condition_116 (by decide) ?_
        refine lv_isub hx hb d_Mod_condition_117 ?_
        refine lv_aload_n hx hb d_Mod_condition_118 rfl (lv_at hl 3 rfl) ?_
        refine w_getf (q := 96) (k := 141) (t := 12) (C := R_Mod) (T := F_Mod) (N := 167) hx hb hT hown hK hW ko_0.1 ko_0.2 (by decide) in_Mod rfl rfl (by decide) rfl fr_Mod_141 w_9_77 d_Mod_condition_119 rfl ?_
        refine lv_iload_n hx hb d_Mod_condition_122 rfl (lv_at hl 0 rfl) ?_
        refine lv_iconst (v := 1) hx hb d_Mod_condition_123 (by decide) ?_
        refine lv_isub hx hb d_Mod_condition_124 ?_
        obtain ⟨hi, hw⟩ := hw
        refine w_iald (o := 96) hx hb hK hW ko_96.1 ko_96.2 hi d_Mod_condition_125 ?_
        refine lv_aload_n hx hb d_Mod_condition_126 rfl (lv_at hl 3 rfl) ?_
        refine w_getf (q := 96) (k := 141) (t := 12) (C := R_Mod) (T := F_Mod) (N := 167) hx hb hT hown hK hW ko_0.1 ko_0.2 (by decide) in_Mod rfl rfl (by decide) rfl fr_Mod_141 w_9_77 d_Mod_condition_127 rfl ?_
        refine lv_iload_n hx hb d_Mod_condition_130 rfl (lv_at hl 0 rfl) ?_
        obtain ⟨hi, hw⟩ := hw
        refine w_iald (o := 96) hx hb hK hW ko_96.1 ko_96.2 hi d_Mod_condition_131 ?_
        refine lv_iload hx hb d_Mod_condition_132 (lv_at hl 1 rfl) ?_
        refine lv_bipush (v := 6) hx hb d_Mod_condition_134 (by decide) ?_
        refine lv_icmp_ne (tgt := 143) hx hb d_Mod_condition_136 (by decide) (fun c2483 => ?_) (fun c2483 => ?_)
        · have hw := hw.1 c2483
          refine lv_iconst (v := 0) hx hb d_Mod_condition_143 (by decide) ?_
          exact t_Mod_condition_144 hx hb hml hown hT hK hN hA hRc hRs hRf hRl hret hrec4 l1 (l2 + (-1)) l3 v2479 v2480 0 (rA x 96 (l2 + (-1))) (rA x 96 ((l2 + (-1)) - 1)) ((l2 + (-1)) - 1) 96 x H locs ls ko_96 hw hW hS (lv_sub hl [3, 4, 0, 5, 2, 1] rfl)
        · have hw := hw.2 c2483
          refine lv_iconst (v := 1) hx hb d_Mod_condition_139 (by decide) ?_
          refine lv_goto (tgt := 144) hx hb d_Mod_condition_140 (by decide) ?_
          exact t_Mod_condition_144 hx hb hml hown hT hK hN hA hRc hRs hRf hRl hret hrec4 l1 (l2 + (-1)) l3 v2479 v2480 1 (rA x 96 (l2 + (-1))) (rA x 96 ((l2 + (-1)) - 1)) ((l2 + (-1)) - 1) 96 x H locs ls ko_96 hw hW hS (lv_sub hl [3, 4, 0, 5, 2, 1] rfl)
      · have hw := hw.2 c2482
        refine lv_aload_n hx hb d_Mod_condition_86 rfl (lv_at hl 2 rfl) ?_
        refine w_getf (q := 96) (k := 141) (t := 12) (C := R_Mod) (T := F_Mod) (N := 167) hx hb hT hown hK hW ko_0.1 ko_0.2 (by decide) in_Mod rfl rfl (by decide) rfl fr_Mod_141 w_9_77 d_Mod_condition_87 rfl ?_
        refine lv_iload_n hx hb d_Mod_condition_90 rfl (lv_at hl 4 rfl) ?_
        refine lv_iconst (v := 1) hx hb d_Mod_condition_91 (by decide) ?_
        refine lv_isub hx hb d_Mod_condition_92 ?_
        refine lv_aload_n hx hb d_Mod_condition_93 rfl (lv_at hl 2 rfl) ?_
        refine w_getf (q := 96) (k := 141) (t := 12) (C := R_Mod) (T := F_Mod) (N := 167) hx hb hT hown hK hW ko_0.1 ko_0.2 (by decide) in_Mod rfl rfl (by decide) rfl fr_Mod_141 w_9_77 d_Mod_condition_94 rfl ?_
        refine lv_iload_n hx hb d_Mod_condition_97 rfl (lv_at hl 4 rfl) ?_
        refine lv_iconst (v := 1) hx hb d_Mod_condition_98 (by decide) ?_
        refine lv_isub hx hb d_Mod_condition_99 ?_
        obtain ⟨hi, hw⟩ := hw
        refine w_iald (o := 96) hx hb hK hW ko_96.1 ko_96.2 hi d_Mod_condition_100 ?_
        have hF := hW.free hS hA
        refine va_calli (va_runS (As := [.int (rA x 96 (l2 - 1))]) (rest := [.int (l2 - 1), .ref (ad 96)]) ⟨hx, hb, hml, hown, hT⟩ (k_Mod_not l dC dI cI cB cJ cZ ad H.size (rA x 96 (l2 - 1)) x  hw) ⟨callB_of 1 hT (gwt_in w_14_16) rfl rfl rfl (hT _ w_1_15) (hT _ w_14_14) (by decide +kernel) ⟨Nat.le_trans (Nat.le_of_ble_eq_true rfl) hRf, Nat.le_trans (Nat.le_of_ble_eq_true rfl) hRl⟩, hT _ w_14_15⟩ ⟨PW.blind, PW.at _ hW hK hN⟩ rfl rfl hl.1 rfl (lv_room (Nat.le_of_ble_eq_true rfl)) d_Mod_condition_101 ⟨hRc, hRs⟩) hS (fun q _ h => hF q h) hF (fun r2485 x2484 t H locs ht hvm hw hB hz1 hk1 hS => ?_)
        have hW := Wd.back hB ht hF
        clear hB ht hF hz1 hk1 hvm
        obtain ⟨hi, hw⟩ := hw
        refine w_iast (o := 96) hx hb hK hW hS ko_96.1 ko_96.2 hi d_Mod_condition_104 (fun H locs hW hS => ?_)
        obtain ⟨x2486, ex2486⟩ : ∃ y : St, y = setA x2484 96 (l2 - 1) r2485 := ⟨_, rfl⟩
        rw [← ex2486] at hW
        have hw := hw x2486 ex2486
        refine lv_goto (tgt := 148) hx hb d_Mod_condition_105 (by decide) ?_
        exact t_Mod_condition_148 hx hb hml hown hT hK hN hA hRc hRs hRf hRl hret hrec4 l1 l2 l3 v2479 v2480 x2486 H locs ls  hw hW hS (lv_sub hl [2, 3, 4, 5, 1, 0] rfl)
    · have hw := hw.2 c2481
      refine lv_aload_n hx hb d_Mod_condition_47 rfl (lv_at hl 2 rfl) ?_
      refine w_getf (q := 96) (k := 141) (t := 12) (C := R_Mod) (T := F_Mod) (N := 167) hx hb hT hown hK hW ko_0.1 ko_0.2 (by decide) in_Mod rfl rfl (by decide) rfl fr_Mod_141 w_9_77 d_Mod_condition_48 rfl ?_
      refine lv_iload_n hx hb d_Mod_condition_51 rfl (lv_at hl 4 rfl) ?_
      refine lv_iload_n hx hb d_Mod_condition_52 rfl (lv_at hl 3 rfl) ?_
      refine lv_iconst (v := (-1)) hx hb d_Mod_condition_53 (by decide) ?_
      refine lv_icmp_ne (tgt := 66) hx hb d_Mod_condition_54 (by decide) (fun c2487 => ?_) (fun c2487 => ?_)
      · have hw := hw.1 c2487
        refine lv_aload_n hx hb d_Mod_condition_66 rfl (lv_at hl 2 rfl) ?_
        refine lv_iload hx hb d_Mod_condition_67 (lv_at hl 1 rfl) ?_
        refine lv_iload_n hx hb d_Mod_condition_69 rfl (lv_at hl 3 rfl) ?_
        have hF := hW.free hS hA
        refine va_calli (va_runV (C := R_Mod) (As := [.int v2479, .int l1]) (rest := [.int l2, .ref (ad 96)]) ⟨hx, hb, hml, hown, hT⟩ (k_Mod_truthOf l dC dI cI cB cJ cZ ad H.size v2479 l1 x  hw) ⟨callB_of 2 hT (gwt_in w_14_9) rfl rfl rfl (hT _ w_1_15) (hT _ w_14_6) (by decide +kernel) ⟨Nat.le_trans (Nat.le_of_ble_eq_true rfl) hRf, Nat.le_trans (Nat.le_of_ble_eq_true rfl) hRl⟩, hT _ w_14_8, hT _ ws_262⟩ ⟨PW.blind, va_recv hK hW.1 (ci := 12) (q0 := 0) rfl (pic_obj ko_0.1 ko_0.2 (by decide)), PW.at _ hW hK hN⟩ rfl rfl hl.1 rfl (lv_room (Nat.le_of_ble_eq_true rfl)) d_Mod_condition_70 ⟨hRc, hRs⟩) hS (fun q _ h => hF q h) hF (fun r2489 x2488 t H locs ht hvm hw hB hz1 hk1 hS => ?_)
        have hW := Wd.back hB ht hF
        clear hB ht hF hz1 hk1 hvm
        exact t_Mod_condition_73 hx hb hml hown hT hK hN hA hRc hRs hRf hRl hret hrec4 l1 l2 l3 v2479 v2480 r2489 l2 96 x2488 H locs ls ko_96 hw hW hS (lv_sub hl [2, 3, 4, 5, 1, 0] rfl)
      · have hw := hw.2 c2487
        refine lv_aload_n hx hb d_Mod_condition_57 rfl (lv_at hl 2 rfl) ?_
        refine lv_iload hx hb d_Mod_condition_58 (lv_at hl 1 rfl) ?_
        have hF := hW.free hS hA
        refine va_calli (va_runV (C := R_Mod) (As := [.int v2479]) (rest := [.int l2, .ref (ad 96)]) ⟨hx, hb, hml, hown, hT⟩ (k_Mod_canOf l dC dI cI cB cJ cZ ad H.size v2479 x  hw) ⟨callB_of 1 hT (gwt_in w_13_219) rfl rfl rfl (hT _ w_1_15) (hT _ w_13_216) (by decide +kernel) ⟨Nat.le_trans (Nat.le_of_ble_eq_true rfl) hRf, Nat.le_trans (Nat.le_of_ble_eq_true rfl) hRl⟩, hT _ w_13_218, hT _ ws_256⟩ ⟨PW.blind, va_recv hK hW.1 (ci := 12) (q0 := 0) rfl (pic_obj ko_0.1 ko_0.2 (by decide)), PW.at _ hW hK hN⟩ rfl rfl hl.1 rfl (lv_room (Nat.le_of_ble_eq_true rfl)) d_Mod_condition_60 ⟨hRc, hRs⟩) hS (fun q _ h => hF q h) hF (fun r2491 x2490 t H locs ht hvm hw hB hz1 hk1 hS => ?_)
        have hW := Wd.back hB ht hF
        clear hB ht hF hz1 hk1 hvm
        refine lv_goto (tgt := 73) hx hb d_Mod_condition_63 (by decide) ?_
        exact t_Mod_condition_73 hx hb hml hown hT hK hN hA hRc hRs hRf hRl hret hrec4 l1 l2 l3 v2479 v2480 r2491 l2 96 x2490 H locs ls ko_96 hw hW hS (lv_sub hl [2, 3, 4, 5, 1, 0] rfl)
set_option maxHeartbeats 4000000 in
set_option maxRecDepth 100000 in
theorem tl_Mod_condition_4 {p : Program} {l : Launch} {e : Env} {R : Room} {s : State} {m : MethodId} {args : Array Value} {below : List Frame} {meth : Method} {c : Code} {cells slots : Nat} {Q : State → Prop} {dC : Nat → ClassId} {dI : Nat → Nat → Nat} {cI cB cJ cZ : ClassId} {A : Nat → Prop} {ad : Nat → Nat} {post : Int32 → St → Prop} (hx : p.tables.exec = Jvm.exec) (hb : c.code = b_Mod_condition) (hml : c.maxLocals = 6) (hown : s.vm.findClass R_Mod = some m.cls) (hT : ∀ w ∈ TG, w.before args s = true) (hK : va_K (dC, dI) CL (TY cI cB cJ cZ) s) (hN : NW s) (hA : ∀ q : Nat, s.heap.size ≤ q → A q) (hRc : cells ≤ R.cells) (hRs : slots ≤ R.slots) (hRf : 202 ≤ R.frames) (hRl : 4643 ≤ R.locals) (hret : ∀ (r : Int32) (x : St) (H : Heap) (locs : List Loc) (pc : Nat) (ls : Array Slot), decode b_Mod_condition pc = .ok (.ireturn, 1) → post r x → Wd dC dI cI cB cJ cZ ad stM kcM 115 A x H → va_S A s.heap H locs → W p l e R s m args below meth c H locs cells slots Q (F0 m pc ls [.int r]))  : ∀ n : Nat, ∀ (l1 : Int32) (l2 : Int32) (l3 : Int32) (x : St) (H : Heap) (locs : List Loc) (ls : Array Slot), wl_Mod_condition_4 post n l1 l2 l3 x → Wd dC dI cI cB cJ cZ ad stM kcM 115 A x H → va_S A s.heap H locs → lv_has ls 6 [(0, .ref (ad 0)), (1, .int l1), (2, .int l2), (3, .int l3)] → W p l e R s m args below meth c H locs cells slots Q (F0 m 4 ls []) := by
  intro n
  induction n with
  | zero => intro l1 l2 l3 x H locs ls  hw; exact hw.elim
  | succ n ih => intro l1 l2 l3 x H locs ls  hw hW hS hl; exact t_Mod_condition_4 hx hb hml hown hT hK hN hA hRc hRs hRf hRl hret  ih l1 l2 l3 x H locs ls  hw hW hS hl
set_option maxRecDepth 100000 in
set_option maxHeartbeats 4000000 in
set_option maxRecDepth 100000 in
theorem t_Mod_condition_e {p : Program} {l : Launch} {e : Env} {R : Room} {s : State} {m : MethodId} {args : Array Value} {below : List Frame} {meth : Method} {c : Code} {cells slots : Nat} {Q : State → Prop} {dC : Nat → ClassId} {dI : Nat → Nat → Nat} {cI cB cJ cZ : ClassId} {A : Nat → Prop} {ad : Nat → Nat} {post : Int32 → St → Prop} (hx : p.tables.exec = Jvm.exec) (hb : c.code = b_Mod_condition) (hml : c.maxLocals = 6) (hown : s.vm.findClass R_Mod = some m.cls) (hT : ∀ w ∈ TG, w.before args s = true) (hK : va_K (dC, dI) CL (TY cI cB cJ cZ) s) (hN : NW s) (hA : ∀ q : Nat, s.heap.size ≤ q → A q) (hRc : cells ≤ R.cells) (hRs : slots ≤ R.slots) (hRf : 202 ≤ R.frames) (hRl : 4643 ≤ R.locals) (hret : ∀ (r : Int32) (x : St) (H : Heap) (locs : List Loc) (pc : Nat) (ls : Array Slot), decode b_Mod_condition pc = .ok (.ireturn, 1) → post r x → Wd dC dI cI cB cJ cZ ad stM kcM 115 A x H → va_S A s.heap H locs → W p l e R s m args below meth c H locs cells slots Q (F0 m pc ls [.int r])) : ∀ (l1 : Int32) (x : St) (H : Heap) (locs : List Loc) (ls : Array Slot), wp_Mod_condition post l1 x → Wd dC dI cI cB cJ cZ ad stM kcM 115 A x H → va_S A s.heap H locs → lv_has ls 6 [(0, .ref (ad 0)), (1, .int l1)] → W p l e R s m args below meth c H locs cells slots Q (F0 m 0 ls []) := by
  intro l1 x H locs ls  hw hW hS hl
  unfold wp_Mod_condition at hw
  refine lv_iconst (v := 0) hx hb d_Mod_condition_0 (by decide) ?_
  refine lv_istore_n (lv' := [(2, .int 0), (0, .ref (ad 0)), (1, .int l1)]) hx hb d_Mod_condition_1 rfl hl (by decide) rfl (fun ls hl => ?_)
  refine lv_iconst (v := 0) hx hb d_Mod_condition_2 (by decide) ?_
  refine lv_istore_n (lv' := [(3, .int 0), (2, .int 0), (0, .ref (ad 0)), (1, .int l1)]) hx hb d_Mod_condition_3 rfl hl (by decide) rfl (fun ls hl => ?_)
  obtain ⟨n, hw⟩ := hw
  exact tl_Mod_condition_4 hx hb hml hown hT hK hN hA hRc hRs hRf hRl hret  n l1 0 0 x H locs ls  hw hW hS (lv_sub hl [2, 3, 1, 0] rfl)
set_option maxHeartbeats 4000000 in
set_option maxRecDepth 100000 in
theorem k_Mod_condition (l : Launch) (dC : Nat → ClassId) (dI : Nat → Nat → Nat) (cI cB cJ cZ : ClassId) (ad : Nat → Nat) (sz : Nat) (l1 : Int32) (x : St) {post : Int32 → St → Prop} (hw : wp_Mod_condition post l1 x) : Met l y_Mod_condition (wsOf y_Mod_condition b_Mod_condition 6 (some (.int))) ({ frames := 202, cells := 0, slots := 0, locals := 4643 }) (va_Pc [.ref (ad 0), .int l1] (PW dC dI cI cB cJ cZ ad stM kcM 115 sz x)) (va_Qi (fun (r : Int32) (y : St) => post r y) (fun y t => Wd dC dI cI cB cJ cZ ad stM kcM 115 (va_A (pic ad stM kcM 115 cI cB cJ cZ x) sz) y t.heap) (va_A (pic ad stM kcM 115 cI cB cJ cZ x) sz)) 0 0 (va_A (pic ad stM kcM 115 cI cB cJ cZ x) sz) := by
  refine Met.ofW (cc := b_Mod_condition) (maxL := 6) (ret := some (.int)) (by decide) rfl ?_
  intro p e s m args below meth c s₁ B hml hv
  obtain ⟨rfl, hsz, hW0, hK, hN⟩ := hv
  have hx := B.exec
  have hb := B.bytes
  have hr := B.returns
  have hts := atoms_spec B.pre
  have hT : ∀ w ∈ TG, w.before _ s = true := fun w h => hts w (List.mem_cons_of_mem _ h)
  have hown : s.vm.findClass R_Mod = some m.cls := findClass_of_methodNamed B.named
  have hlocks := B.notSynchronized
  subst hsz
  have hW : Wd dC dI cI cB cJ cZ ad stM kcM 115 (va_A (pic ad stM kcM 115 cI cB cJ cZ x) s.heap.size) x s.heap := ⟨hW0.1, hW0.2.1.self (sz := s.heap.size), hW0.2.2⟩
  generalize hAe : va_A (pic ad stM kcM 115 cI cB cJ cZ x) s.heap.size = A at hW ⊢
  have hA : ∀ q : Nat, s.heap.size ≤ q → A q := fun q h => by rw [← hAe]; exact Or.inr h
  have hS : va_S A s.heap s.heap [] := va_S.rf
  have hl := lv_entry ([.ref (ad 0), .int l1]) (n := 6) (Nat.le_of_ble_eq_true rfl)
  rw [lg_entry_eq]
  generalize (lg_sl ([.ref (ad 0), .int l1]) ++ List.replicate (6 - (lg_sl ([.ref (ad 0), .int l1])).length) Slot.unset).toArray = ls at hl ⊢
  have hl : lv_has ls 6 [(0, .ref (ad 0)), (1, .int l1)] := hl
  exact t_Mod_condition_e hx hb hml hown hT hK hN hA (Nat.le_refl 0) (Nat.le_refl 0) (Nat.le_refl 202) (Nat.le_refl 4643) (fun r x H locs pc ls hd hp hW hS => W.iret (v := r) hx hb hr (fun t ht hM => ⟨⟨r, x, rfl, hp, Wd.back hW ht.symm (fun _ z => z)⟩, hS.F ht⟩) hS.2.2 hd hlocks)  l1 x _ _ ls  hw hW hS hl
end
