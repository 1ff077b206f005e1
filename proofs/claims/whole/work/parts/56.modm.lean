theorem fr_Mod_62 : F_Mod 62 = (R_Mod, "file", "[I", true) := rfl
theorem fr_Mod_65 : F_Mod 65 = (R_Mod, "fileSize", "I", false) := rfl
theorem w_11_135 : (Jvm.Cond.methodLink "StripedVaultModel" (822 : Nat) ({ cls := "StripedVaultModel", name := "addFrame", desc := "()V" } : Jvm.MethodName)) ∈ TG := tw_11 135 (by decide +kernel) (by decide +kernel)
theorem w_11_137 : (Jvm.Cond.instanceMethod ({ cls := "StripedVaultModel", name := "addFrame", desc := "()V" } : Jvm.MethodName)) ∈ TG := tw_11 137 (by decide +kernel) (by decide +kernel)
theorem w_11_138 : (Jvm.Cond.code ({ cls := "StripedVaultModel", name := "addFrame", desc := "()V" } : Jvm.MethodName) prog_14_method_115_code (1 : Nat) (Option.none : Option Jvm.ClassFile.FieldType)) ∈ TG := tw_11 138 (by decide +kernel) (by decide +kernel)
theorem w_11_143 : (Jvm.Cond.methodLink "StripedVaultModel" (825 : Nat) ({ cls := "StripedVaultModel", name := "writeChunk", desc := "(IIIII)Z" } : Jvm.MethodName)) ∈ TG := tw_11 143 (by decide +kernel) (by decide +kernel)
theorem w_11_145 : (Jvm.Cond.instanceMethod ({ cls := "StripedVaultModel", name := "writeChunk", desc := "(IIIII)Z" } : Jvm.MethodName)) ∈ TG := tw_11 145 (by decide +kernel) (by decide +kernel)
theorem w_11_146 : (Jvm.Cond.code ({ cls := "StripedVaultModel", name := "writeChunk", desc := "(IIIII)Z" } : Jvm.MethodName) prog_14_method_110_code (11 : Nat) (Option.some Jvm.ClassFile.FieldType.boolean)) ∈ TG := tw_11 146 (by decide +kernel) (by decide +kernel)
theorem w_12_60 : (Jvm.Cond.methodLink "StripedVaultModel" (829 : Nat) ({ cls := "StripedVaultModel", name := "putFooter", desc := "(I)V" } : Jvm.MethodName)) ∈ TG := tw_12 60 (by decide +kernel) (by decide +kernel)
theorem w_12_62 : (Jvm.Cond.instanceMethod ({ cls := "StripedVaultModel", name := "putFooter", desc := "(I)V" } : Jvm.MethodName)) ∈ TG := tw_12 62 (by decide +kernel) (by decide +kernel)
theorem w_12_63 : (Jvm.Cond.code ({ cls := "StripedVaultModel", name := "putFooter", desc := "(I)V" } : Jvm.MethodName) prog_14_method_114_code (6 : Nat) (Option.none : Option Jvm.ClassFile.FieldType)) ∈ TG := tw_12 63 (by decide +kernel) (by decide +kernel)
theorem w_9_2 : (Jvm.Cond.fieldLink "StripedVaultModel" (133 : Nat) "StripedVaultModel" "file" "[I") ∈ TG := tw_9 2 (by decide +kernel) (by decide +kernel)
theorem w_9_5 : (Jvm.Cond.fieldLink "StripedVaultModel" (832 : Nat) "StripedVaultModel" "fileSize" "I") ∈ TG := tw_9 5 (by decide +kernel) (by decide +kernel)
theorem ws_139 : Cond.selects R_Mod y_Mod_addFrame y_Mod_addFrame ∈ TG := tw_s 139 (by decide +kernel) (by decide +kernel)
theorem ws_141 : Cond.selects R_Mod y_Mod_writeChunk y_Mod_writeChunk ∈ TG := tw_s 141 (by decide +kernel) (by decide +kernel)
theorem ws_177 : Cond.selects R_Mod y_Mod_putFooter y_Mod_putFooter ∈ TG := tw_s 177 (by decide +kernel) (by decide +kernel)
theorem d_Mod_write_270 : decode b_Mod_write 270 = .ok (.iload 6, 2) := by decide +kernel
theorem d_Mod_write_272 : decode b_Mod_write 272 = .ok (.aload_n 0, 1) := by decide +kernel
theorem d_Mod_write_273 : decode b_Mod_write 273 = .ok (.getfield 780, 3) := by decide +kernel
theorem d_Mod_write_276 : decode b_Mod_write 276 = .ok (.if_icmp .ge 23, 3) := by decide +kernel
theorem d_Mod_write_299 : decode b_Mod_write 299 = .ok (.aload_n 0, 1) := by decide +kernel
theorem d_Mod_write_300 : decode b_Mod_write 300 = .ok (.aload_n 0, 1) := by decide +kernel
theorem d_Mod_write_301 : decode b_Mod_write 301 = .ok (.getfield 780, 3) := by decide +kernel
theorem d_Mod_write_304 : decode b_Mod_write 304 = .ok (.putfield 832, 3) := by decide +kernel
theorem d_Mod_write_307 : decode b_Mod_write 307 = .ok (.aload_n 0, 1) := by decide +kernel
theorem d_Mod_write_308 : decode b_Mod_write 308 = .ok (.getfield 832, 3) := by decide +kernel
theorem d_Mod_write_311 : decode b_Mod_write 311 = .ok (.ireturn, 1) := by decide +kernel
theorem d_Mod_write_279 : decode b_Mod_write 279 = .ok (.aload_n 0, 1) := by decide +kernel
theorem d_Mod_write_280 : decode b_Mod_write 280 = .ok (.getfield 133, 3) := by decide +kernel
theorem d_Mod_write_283 : decode b_Mod_write 283 = .ok (.iload 6, 2) := by decide +kernel
theorem d_Mod_write_285 : decode b_Mod_write 285 = .ok (.aload_n 0, 1) := by decide +kernel
theorem d_Mod_write_286 : decode b_Mod_write 286 = .ok (.getfield 136, 3) := by decide +kernel
theorem d_Mod_write_289 : decode b_Mod_write 289 = .ok (.iload 6, 2) := by decide +kernel
theorem d_Mod_write_291 : decode b_Mod_write 291 = .ok (.iaload, 1) := by decide +kernel
theorem d_Mod_write_292 : decode b_Mod_write 292 = .ok (.iastore, 1) := by decide +kernel
theorem d_Mod_write_293 : decode b_Mod_write 293 = .ok (.iinc 6 1, 3) := by decide +kernel
theorem d_Mod_write_296 : decode b_Mod_write 296 = .ok (.goto (-26), 3) := by decide +kernel
theorem d_Mod_write_235 : decode b_Mod_write 235 = .ok (.iload 6, 2) := by decide +kernel
theorem d_Mod_write_237 : decode b_Mod_write 237 = .ok (.iconst 4, 1) := by decide +kernel
theorem d_Mod_write_238 : decode b_Mod_write 238 = .ok (.if_icmp .ge 25, 3) := by decide +kernel
theorem d_Mod_write_263 : decode b_Mod_write 263 = .ok (.aload_n 0, 1) := by decide +kernel
theorem d_Mod_write_264 : decode b_Mod_write 264 = .ok (.invokevirtual 822, 3) := by decide +kernel
theorem d_Mod_write_267 : decode b_Mod_write 267 = .ok (.iconst 0, 1) := by decide +kernel
theorem d_Mod_write_268 : decode b_Mod_write 268 = .ok (.istore 6, 2) := by decide +kernel
theorem d_Mod_write_241 : decode b_Mod_write 241 = .ok (.aload_n 0, 1) := by decide +kernel
theorem d_Mod_write_242 : decode b_Mod_write 242 = .ok (.iload 5, 2) := by decide +kernel
theorem d_Mod_write_244 : decode b_Mod_write 244 = .ok (.bipush 8, 2) := by decide +kernel
theorem d_Mod_write_246 : decode b_Mod_write 246 = .ok (.iload 6, 2) := by decide +kernel
theorem d_Mod_write_248 : decode b_Mod_write 248 = .ok (.imul, 1) := by decide +kernel
theorem d_Mod_write_249 : decode b_Mod_write 249 = .ok (.ishr, 1) := by decide +kernel
theorem d_Mod_write_250 : decode b_Mod_write 250 = .ok (.sipush 255, 3) := by decide +kernel
theorem d_Mod_write_253 : decode b_Mod_write 253 = .ok (.iand, 1) := by decide +kernel
theorem d_Mod_write_254 : decode b_Mod_write 254 = .ok (.invokevirtual 783, 3) := by decide +kernel
theorem d_Mod_write_257 : decode b_Mod_write 257 = .ok (.iinc 6 1, 3) := by decide +kernel
theorem d_Mod_write_260 : decode b_Mod_write 260 = .ok (.goto (-25), 3) := by decide +kernel
theorem d_Mod_write_204 : decode b_Mod_write 204 = .ok (.iload 6, 2) := by decide +kernel
theorem d_Mod_write_206 : decode b_Mod_write 206 = .ok (.iconst 4, 1) := by decide +kernel
theorem d_Mod_write_207 : decode b_Mod_write 207 = .ok (.if_icmp .ge 25, 3) := by decide +kernel
theorem d_Mod_write_232 : decode b_Mod_write 232 = .ok (.iconst 0, 1) := by decide +kernel
theorem d_Mod_write_233 : decode b_Mod_write 233 = .ok (.istore 6, 2) := by decide +kernel
theorem d_Mod_write_210 : decode b_Mod_write 210 = .ok (.aload_n 0, 1) := by decide +kernel
theorem d_Mod_write_211 : decode b_Mod_write 211 = .ok (.iload 4, 2) := by decide +kernel
theorem d_Mod_write_213 : decode b_Mod_write 213 = .ok (.bipush 8, 2) := by decide +kernel
theorem d_Mod_write_215 : decode b_Mod_write 215 = .ok (.iload 6, 2) := by decide +kernel
theorem d_Mod_write_217 : decode b_Mod_write 217 = .ok (.imul, 1) := by decide +kernel
theorem d_Mod_write_218 : decode b_Mod_write 218 = .ok (.ishr, 1) := by decide +kernel
theorem d_Mod_write_219 : decode b_Mod_write 219 = .ok (.sipush 255, 3) := by decide +kernel
theorem d_Mod_write_222 : decode b_Mod_write 222 = .ok (.iand, 1) := by decide +kernel
theorem d_Mod_write_223 : decode b_Mod_write 223 = .ok (.invokevirtual 783, 3) := by decide +kernel
theorem d_Mod_write_226 : decode b_Mod_write 226 = .ok (.iinc 6 1, 3) := by decide +kernel
theorem d_Mod_write_229 : decode b_Mod_write 229 = .ok (.goto (-25), 3) := by decide +kernel
theorem d_Mod_write_135 : decode b_Mod_write 135 = .ok (.iconst (-1), 1) := by decide +kernel
theorem d_Mod_write_136 : decode b_Mod_write 136 = .ok (.ireturn, 1) := by decide +kernel
theorem d_Mod_write_128 : decode b_Mod_write 128 = .ok (.iload_n 1, 1) := by decide +kernel
theorem d_Mod_write_129 : decode b_Mod_write 129 = .ok (.invokevirtual 825, 3) := by decide +kernel
theorem d_Mod_write_132 : decode b_Mod_write 132 = .ok (.ifCond .ne 5, 3) := by decide +kernel
theorem d_Mod_write_137 : decode b_Mod_write 137 = .ok (.iinc 3 1, 3) := by decide +kernel
theorem d_Mod_write_140 : decode b_Mod_write 140 = .ok (.iinc 5 1, 3) := by decide +kernel
theorem d_Mod_write_143 : decode b_Mod_write 143 = .ok (.goto (-63), 3) := by decide +kernel
theorem d_Mod_write_80 : decode b_Mod_write 80 = .ok (.iload 5, 2) := by decide +kernel
theorem d_Mod_write_82 : decode b_Mod_write 82 = .ok (.aload_n 0, 1) := by decide +kernel
theorem d_Mod_write_83 : decode b_Mod_write 83 = .ok (.getfield 38, 3) := by decide +kernel
theorem d_Mod_write_86 : decode b_Mod_write 86 = .ok (.iconst 0, 1) := by decide +kernel
theorem d_Mod_write_87 : decode b_Mod_write 87 = .ok (.iaload, 1) := by decide +kernel
theorem d_Mod_write_88 : decode b_Mod_write 88 = .ok (.if_icmp .ge 58, 3) := by decide +kernel
theorem d_Mod_write_146 : decode b_Mod_write 146 = .ok (.iload 4, 2) := by decide +kernel
theorem d_Mod_write_148 : decode b_Mod_write 148 = .ok (.iload_n 2, 1) := by decide +kernel
theorem d_Mod_write_149 : decode b_Mod_write 149 = .ok (.iadd, 1) := by decide +kernel
theorem d_Mod_write_150 : decode b_Mod_write 150 = .ok (.istore 4, 2) := by decide +kernel
theorem d_Mod_write_152 : decode b_Mod_write 152 = .ok (.goto (-84), 3) := by decide +kernel
theorem d_Mod_write_91 : decode b_Mod_write 91 = .ok (.aload_n 0, 1) := by decide +kernel
theorem d_Mod_write_92 : decode b_Mod_write 92 = .ok (.getfield 780, 3) := by decide +kernel
theorem d_Mod_write_95 : decode b_Mod_write 95 = .ok (.ldc 7, 2) := by decide +kernel
theorem d_Mod_write_97 : decode b_Mod_write 97 = .ok (.if_icmp .gt 38, 3) := by decide +kernel
theorem d_Mod_write_100 : decode b_Mod_write 100 = .ok (.aload_n 0, 1) := by decide +kernel
theorem d_Mod_write_101 : decode b_Mod_write 101 = .ok (.iload_n 3, 1) := by decide +kernel
theorem d_Mod_write_102 : decode b_Mod_write 102 = .ok (.iload 5, 2) := by decide +kernel
theorem d_Mod_write_104 : decode b_Mod_write 104 = .ok (.iload 4, 2) := by decide +kernel
theorem d_Mod_write_106 : decode b_Mod_write 106 = .ok (.iload 4, 2) := by decide +kernel
theorem d_Mod_write_108 : decode b_Mod_write 108 = .ok (.iload_n 2, 1) := by decide +kernel
theorem d_Mod_write_109 : decode b_Mod_write 109 = .ok (.iadd, 1) := by decide +kernel
theorem d_Mod_write_110 : decode b_Mod_write 110 = .ok (.aload_n 0, 1) := by decide +kernel
theorem d_Mod_write_111 : decode b_Mod_write 111 = .ok (.getfield 523, 3) := by decide +kernel
theorem d_Mod_write_114 : decode b_Mod_write 114 = .ok (.if_icmp .ge 10, 3) := by decide +kernel
theorem d_Mod_write_124 : decode b_Mod_write 124 = .ok (.aload_n 0, 1) := by decide +kernel
theorem d_Mod_write_125 : decode b_Mod_write 125 = .ok (.getfield 523, 3) := by decide +kernel
theorem d_Mod_write_117 : decode b_Mod_write 117 = .ok (.iload 4, 2) := by decide +kernel
theorem d_Mod_write_119 : decode b_Mod_write 119 = .ok (.iload_n 2, 1) := by decide +kernel
theorem d_Mod_write_120 : decode b_Mod_write 120 = .ok (.iadd, 1) := by decide +kernel
theorem d_Mod_write_121 : decode b_Mod_write 121 = .ok (.goto 7, 3) := by decide +kernel
theorem d_Mod_write_68 : decode b_Mod_write 68 = .ok (.iload 4, 2) := by decide +kernel
theorem d_Mod_write_70 : decode b_Mod_write 70 = .ok (.aload_n 0, 1) := by decide +kernel
theorem d_Mod_write_71 : decode b_Mod_write 71 = .ok (.getfield 523, 3) := by decide +kernel
theorem d_Mod_write_74 : decode b_Mod_write 74 = .ok (.if_icmp .ge 81, 3) := by decide +kernel
theorem d_Mod_write_155 : decode b_Mod_write 155 = .ok (.aload_n 0, 1) := by decide +kernel
theorem d_Mod_write_156 : decode b_Mod_write 156 = .ok (.iload_n 2, 1) := by decide +kernel
theorem d_Mod_write_157 : decode b_Mod_write 157 = .ok (.invokevirtual 829, 3) := by decide +kernel
theorem d_Mod_write_160 : decode b_Mod_write 160 = .ok (.aload_n 0, 1) := by decide +kernel
theorem d_Mod_write_161 : decode b_Mod_write 161 = .ok (.getfield 780, 3) := by decide +kernel
theorem d_Mod_write_164 : decode b_Mod_write 164 = .ok (.aload_n 0, 1) := by decide +kernel
theorem d_Mod_write_165 : decode b_Mod_write 165 = .ok (.getfield 547, 3) := by decide +kernel
theorem d_Mod_write_168 : decode b_Mod_write 168 = .ok (.iadd, 1) := by decide +kernel
theorem d_Mod_write_169 : decode b_Mod_write 169 = .ok (.bipush 12, 2) := by decide +kernel
theorem d_Mod_write_171 : decode b_Mod_write 171 = .ok (.iadd, 1) := by decide +kernel
theorem d_Mod_write_172 : decode b_Mod_write 172 = .ok (.ldc 7, 2) := by decide +kernel
theorem d_Mod_write_174 : decode b_Mod_write 174 = .ok (.if_icmp .le 5, 3) := by decide +kernel
theorem d_Mod_write_179 : decode b_Mod_write 179 = .ok (.aload_n 0, 1) := by decide +kernel
theorem d_Mod_write_180 : decode b_Mod_write 180 = .ok (.invokevirtual 807, 3) := by decide +kernel
theorem d_Mod_write_183 : decode b_Mod_write 183 = .ok (.aload_n 0, 1) := by decide +kernel
theorem d_Mod_write_184 : decode b_Mod_write 184 = .ok (.getfield 547, 3) := by decide +kernel
theorem d_Mod_write_187 : decode b_Mod_write 187 = .ok (.istore 4, 2) := by decide +kernel
theorem d_Mod_write_189 : decode b_Mod_write 189 = .ok (.aload_n 0, 1) := by decide +kernel
theorem d_Mod_write_190 : decode b_Mod_write 190 = .ok (.getfield 127, 3) := by decide +kernel
theorem d_Mod_write_193 : decode b_Mod_write 193 = .ok (.iconst 0, 1) := by decide +kernel
theorem d_Mod_write_194 : decode b_Mod_write 194 = .ok (.iload 4, 2) := by decide +kernel
theorem d_Mod_write_196 : decode b_Mod_write 196 = .ok (.invokestatic 777, 3) := by decide +kernel
theorem d_Mod_write_199 : decode b_Mod_write 199 = .ok (.istore 5, 2) := by decide +kernel
theorem d_Mod_write_201 : decode b_Mod_write 201 = .ok (.iconst 0, 1) := by decide +kernel
theorem d_Mod_write_202 : decode b_Mod_write 202 = .ok (.istore 6, 2) := by decide +kernel
theorem d_Mod_write_177 : decode b_Mod_write 177 = .ok (.iconst (-1), 1) := by decide +kernel
theorem d_Mod_write_178 : decode b_Mod_write 178 = .ok (.ireturn, 1) := by decide +kernel
theorem d_Mod_write_77 : decode b_Mod_write 77 = .ok (.iconst 0, 1) := by decide +kernel
theorem d_Mod_write_78 : decode b_Mod_write 78 = .ok (.istore 5, 2) := by decide +kernel
theorem d_Mod_write_52 : decode b_Mod_write 52 = .ok (.iconst (-1), 1) := by decide +kernel
theorem d_Mod_write_53 : decode b_Mod_write 53 = .ok (.ireturn, 1) := by decide +kernel
theorem d_Mod_write_0 : decode b_Mod_write 0 = .ok (.aload_n 0, 1) := by decide +kernel
theorem d_Mod_write_1 : decode b_Mod_write 1 = .ok (.iconst 0, 1) := by decide +kernel
theorem d_Mod_write_2 : decode b_Mod_write 2 = .ok (.putfield 360, 3) := by decide +kernel
theorem d_Mod_write_5 : decode b_Mod_write 5 = .ok (.aload_n 0, 1) := by decide +kernel
theorem d_Mod_write_6 : decode b_Mod_write 6 = .ok (.getfield 466, 3) := by decide +kernel
theorem d_Mod_write_9 : decode b_Mod_write 9 = .ok (.ifCond .eq 43, 3) := by decide +kernel
theorem d_Mod_write_12 : decode b_Mod_write 12 = .ok (.iload_n 1, 1) := by decide +kernel
theorem d_Mod_write_13 : decode b_Mod_write 13 = .ok (.iconst 1, 1) := by decide +kernel
theorem d_Mod_write_14 : decode b_Mod_write 14 = .ok (.if_icmp .lt 38, 3) := by decide +kernel
theorem d_Mod_write_17 : decode b_Mod_write 17 = .ok (.iload_n 1, 1) := by decide +kernel
theorem d_Mod_write_18 : decode b_Mod_write 18 = .ok (.sipush 1000, 3) := by decide +kernel
theorem d_Mod_write_21 : decode b_Mod_write 21 = .ok (.if_icmp .gt 31, 3) := by decide +kernel
theorem d_Mod_write_24 : decode b_Mod_write 24 = .ok (.iload_n 2, 1) := by decide +kernel
theorem d_Mod_write_25 : decode b_Mod_write 25 = .ok (.iconst 1, 1) := by decide +kernel
theorem d_Mod_write_26 : decode b_Mod_write 26 = .ok (.if_icmp .lt 26, 3) := by decide +kernel
theorem d_Mod_write_29 : decode b_Mod_write 29 = .ok (.iload_n 2, 1) := by decide +kernel
theorem d_Mod_write_30 : decode b_Mod_write 30 = .ok (.sipush 2000, 3) := by decide +kernel
theorem d_Mod_write_33 : decode b_Mod_write 33 = .ok (.if_icmp .gt 19, 3) := by decide +kernel
theorem d_Mod_write_36 : decode b_Mod_write 36 = .ok (.aload_n 0, 1) := by decide +kernel
theorem d_Mod_write_37 : decode b_Mod_write 37 = .ok (.getfield 523, 3) := by decide +kernel
theorem d_Mod_write_40 : decode b_Mod_write 40 = .ok (.iload_n 2, 1) := by decide +kernel
theorem d_Mod_write_41 : decode b_Mod_write 41 = .ok (.iadd, 1) := by decide +kernel
theorem d_Mod_write_42 : decode b_Mod_write 42 = .ok (.iconst 1, 1) := by decide +kernel
theorem d_Mod_write_43 : decode b_Mod_write 43 = .ok (.isub, 1) := by decide +kernel
theorem d_Mod_write_44 : decode b_Mod_write 44 = .ok (.iload_n 2, 1) := by decide +kernel
theorem d_Mod_write_45 : decode b_Mod_write 45 = .ok (.idiv, 1) := by decide +kernel
theorem d_Mod_write_46 : decode b_Mod_write 46 = .ok (.sipush 500, 3) := by decide +kernel
theorem d_Mod_write_49 : decode b_Mod_write 49 = .ok (.if_icmp .le 5, 3) := by decide +kernel
theorem d_Mod_write_54 : decode b_Mod_write 54 = .ok (.aload_n 0, 1) := by decide +kernel
theorem d_Mod_write_55 : decode b_Mod_write 55 = .ok (.iconst 0, 1) := by decide +kernel
theorem d_Mod_write_56 : decode b_Mod_write 56 = .ok (.putfield 780, 3) := by decide +kernel
theorem d_Mod_write_59 : decode b_Mod_write 59 = .ok (.aload_n 0, 1) := by decide +kernel
theorem d_Mod_write_60 : decode b_Mod_write 60 = .ok (.invokevirtual 822, 3) := by decide +kernel
theorem d_Mod_write_63 : decode b_Mod_write 63 = .ok (.iconst 0, 1) := by decide +kernel
theorem d_Mod_write_64 : decode b_Mod_write 64 = .ok (.istore_n 3, 1) := by decide +kernel
theorem d_Mod_write_65 : decode b_Mod_write 65 = .ok (.iconst 0, 1) := by decide +kernel
theorem d_Mod_write_66 : decode b_Mod_write 66 = .ok (.istore 4, 2) := by decide +kernel
theorem d_Mod_take_7 : decode b_Mod_take 7 = .ok (.iload_n 1, 1) := by decide +kernel
theorem d_Mod_take_8 : decode b_Mod_take 8 = .ok (.aload_n 0, 1) := by decide +kernel
theorem d_Mod_take_9 : decode b_Mod_take 9 = .ok (.getfield 367, 3) := by decide +kernel
theorem d_Mod_take_12 : decode b_Mod_take 12 = .ok (.if_icmp .ge 21, 3) := by decide +kernel
theorem d_Mod_take_33 : decode b_Mod_take 33 = .ok (.aload_n 0, 1) := by decide +kernel
theorem d_Mod_take_34 : decode b_Mod_take 34 = .ok (.aload_n 0, 1) := by decide +kernel
theorem d_Mod_take_35 : decode b_Mod_take 35 = .ok (.getfield 367, 3) := by decide +kernel
theorem d_Mod_take_38 : decode b_Mod_take 38 = .ok (.putfield 832, 3) := by decide +kernel
theorem d_Mod_take_41 : decode b_Mod_take 41 = .ok (.aload_n 0, 1) := by decide +kernel
theorem d_Mod_take_42 : decode b_Mod_take 42 = .ok (.iconst 0, 1) := by decide +kernel
theorem d_Mod_take_43 : decode b_Mod_take 43 = .ok (.putfield 367, 3) := by decide +kernel
theorem d_Mod_take_46 : decode b_Mod_take 46 = .ok (.return_, 1) := by decide +kernel
theorem d_Mod_take_15 : decode b_Mod_take 15 = .ok (.aload_n 0, 1) := by decide +kernel
theorem d_Mod_take_16 : decode b_Mod_take 16 = .ok (.getfield 133, 3) := by decide +kernel
theorem d_Mod_take_19 : decode b_Mod_take 19 = .ok (.iload_n 1, 1) := by decide +kernel
theorem d_Mod_take_20 : decode b_Mod_take 20 = .ok (.aload_n 0, 1) := by decide +kernel
theorem d_Mod_take_21 : decode b_Mod_take 21 = .ok (.getfield 14, 3) := by decide +kernel
theorem d_Mod_take_24 : decode b_Mod_take 24 = .ok (.iload_n 1, 1) := by decide +kernel
theorem d_Mod_take_25 : decode b_Mod_take 25 = .ok (.iaload, 1) := by decide +kernel
theorem d_Mod_take_26 : decode b_Mod_take 26 = .ok (.iastore, 1) := by decide +kernel
theorem d_Mod_take_27 : decode b_Mod_take 27 = .ok (.iinc 1 1, 3) := by decide +kernel
theorem d_Mod_take_30 : decode b_Mod_take 30 = .ok (.goto (-23), 3) := by decide +kernel
theorem d_Mod_take_0 : decode b_Mod_take 0 = .ok (.aload_n 0, 1) := by decide +kernel
theorem d_Mod_take_1 : decode b_Mod_take 1 = .ok (.iconst 0, 1) := by decide +kernel
theorem d_Mod_take_2 : decode b_Mod_take 2 = .ok (.putfield 360, 3) := by decide +kernel
theorem d_Mod_take_5 : decode b_Mod_take 5 = .ok (.iconst 0, 1) := by decide +kernel
theorem d_Mod_take_6 : decode b_Mod_take 6 = .ok (.istore_n 1, 1) := by decide +kernel
theorem d_Mod_size_0 : decode b_Mod_size 0 = .ok (.aload_n 0, 1) := by decide +kernel
theorem d_Mod_size_1 : decode b_Mod_size 1 = .ok (.iconst 0, 1) := by decide +kernel
theorem d_Mod_size_2 : decode b_Mod_size 2 = .ok (.putfield 360, 3) := by decide +kernel
theorem d_Mod_size_5 : decode b_Mod_size 5 = .ok (.aload_n 0, 1) := by decide +kernel
theorem d_Mod_size_6 : decode b_Mod_size 6 = .ok (.getfield 832, 3) := by decide +kernel
theorem d_Mod_size_9 : decode b_Mod_size 9 = .ok (.ireturn, 1) := by decide +kernel
theorem d_Mod_byteOf_17 : decode b_Mod_byteOf 17 = .ok (.iconst (-1), 1) := by decide +kernel
theorem d_Mod_byteOf_18 : decode b_Mod_byteOf 18 = .ok (.goto 9, 3) := by decide +kernel
theorem d_Mod_byteOf_27 : decode b_Mod_byteOf 27 = .ok (.ireturn, 1) := by decide +kernel
theorem d_Mod_byteOf_0 : decode b_Mod_byteOf 0 = .ok (.aload_n 0, 1) := by decide +kernel
theorem d_Mod_byteOf_1 : decode b_Mod_byteOf 1 = .ok (.iconst 0, 1) := by decide +kernel
theorem d_Mod_byteOf_2 : decode b_Mod_byteOf 2 = .ok (.putfield 360, 3) := by decide +kernel
theorem d_Mod_byteOf_5 : decode b_Mod_byteOf 5 = .ok (.iload_n 1, 1) := by decide +kernel
theorem d_Mod_byteOf_6 : decode b_Mod_byteOf 6 = .ok (.ifCond .lt 11, 3) := by decide +kernel
theorem d_Mod_byteOf_9 : decode b_Mod_byteOf 9 = .ok (.iload_n 1, 1) := by decide +kernel
theorem d_Mod_byteOf_10 : decode b_Mod_byteOf 10 = .ok (.aload_n 0, 1) := by decide +kernel
theorem d_Mod_byteOf_11 : decode b_Mod_byteOf 11 = .ok (.getfield 832, 3) := by decide +kernel
theorem d_Mod_byteOf_14 : decode b_Mod_byteOf 14 = .ok (.if_icmp .lt 7, 3) := by decide +kernel
theorem d_Mod_byteOf_21 : decode b_Mod_byteOf 21 = .ok (.aload_n 0, 1) := by decide +kernel
theorem d_Mod_byteOf_22 : decode b_Mod_byteOf 22 = .ok (.getfield 133, 3) := by decide +kernel
theorem d_Mod_byteOf_25 : decode b_Mod_byteOf 25 = .ok (.iload_n 1, 1) := by decide +kernel
theorem d_Mod_byteOf_26 : decode b_Mod_byteOf 26 = .ok (.iaload, 1) := by decide +kernel
theorem d_Mod_poke_17 : decode b_Mod_poke 17 = .ok (.iconst 0, 1) := by decide +kernel
theorem d_Mod_poke_18 : decode b_Mod_poke 18 = .ok (.ireturn, 1) := by decide +kernel
theorem d_Mod_poke_0 : decode b_Mod_poke 0 = .ok (.aload_n 0, 1) := by decide +kernel
theorem d_Mod_poke_1 : decode b_Mod_poke 1 = .ok (.iconst 0, 1) := by decide +kernel
theorem d_Mod_poke_2 : decode b_Mod_poke 2 = .ok (.putfield 360, 3) := by decide +kernel
theorem d_Mod_poke_5 : decode b_Mod_poke 5 = .ok (.iload_n 1, 1) := by decide +kernel
theorem d_Mod_poke_6 : decode b_Mod_poke 6 = .ok (.ifCond .lt 11, 3) := by decide +kernel
theorem d_Mod_poke_9 : decode b_Mod_poke 9 = .ok (.iload_n 1, 1) := by decide +kernel
theorem d_Mod_poke_10 : decode b_Mod_poke 10 = .ok (.aload_n 0, 1) := by decide +kernel
theorem d_Mod_poke_11 : decode b_Mod_poke 11 = .ok (.getfield 832, 3) := by decide +kernel
theorem d_Mod_poke_14 : decode b_Mod_poke 14 = .ok (.if_icmp .lt 5, 3) := by decide +kernel
theorem d_Mod_poke_19 : decode b_Mod_poke 19 = .ok (.aload_n 0, 1) := by decide +kernel
theorem d_Mod_poke_20 : decode b_Mod_poke 20 = .ok (.getfield 133, 3) := by decide +kernel
theorem d_Mod_poke_23 : decode b_Mod_poke 23 = .ok (.iload_n 1, 1) := by decide +kernel
theorem d_Mod_poke_24 : decode b_Mod_poke 24 = .ok (.iload_n 2, 1) := by decide +kernel
theorem d_Mod_poke_25 : decode b_Mod_poke 25 = .ok (.sipush 255, 3) := by decide +kernel
theorem d_Mod_poke_28 : decode b_Mod_poke 28 = .ok (.iand, 1) := by decide +kernel
theorem d_Mod_poke_29 : decode b_Mod_poke 29 = .ok (.iastore, 1) := by decide +kernel
theorem d_Mod_poke_30 : decode b_Mod_poke 30 = .ok (.iconst 1, 1) := by decide +kernel
theorem d_Mod_poke_31 : decode b_Mod_poke 31 = .ok (.ireturn, 1) := by decide +kernel
theorem d_Mod_isFrame_54 : decode b_Mod_isFrame 54 = .ok (.iconst 0, 1) := by decide +kernel
theorem d_Mod_isFrame_55 : decode b_Mod_isFrame 55 = .ok (.ireturn, 1) := by decide +kernel
theorem d_Mod_isFrame_0 : decode b_Mod_isFrame 0 = .ok (.aload_n 0, 1) := by decide +kernel
theorem d_Mod_isFrame_1 : decode b_Mod_isFrame 1 = .ok (.getfield 133, 3) := by decide +kernel
theorem d_Mod_isFrame_4 : decode b_Mod_isFrame 4 = .ok (.iload_n 1, 1) := by decide +kernel
theorem d_Mod_isFrame_5 : decode b_Mod_isFrame 5 = .ok (.iaload, 1) := by decide +kernel
theorem d_Mod_isFrame_6 : decode b_Mod_isFrame 6 = .ok (.bipush 83, 2) := by decide +kernel
theorem d_Mod_isFrame_8 : decode b_Mod_isFrame 8 = .ok (.if_icmp .ne 46, 3) := by decide +kernel
theorem d_Mod_isFrame_11 : decode b_Mod_isFrame 11 = .ok (.aload_n 0, 1) := by decide +kernel
theorem d_Mod_isFrame_12 : decode b_Mod_isFrame 12 = .ok (.getfield 133, 3) := by decide +kernel
theorem d_Mod_isFrame_15 : decode b_Mod_isFrame 15 = .ok (.iload_n 1, 1) := by decide +kernel
theorem d_Mod_isFrame_16 : decode b_Mod_isFrame 16 = .ok (.iconst 1, 1) := by decide +kernel
theorem d_Mod_isFrame_17 : decode b_Mod_isFrame 17 = .ok (.iadd, 1) := by decide +kernel
theorem d_Mod_isFrame_18 : decode b_Mod_isFrame 18 = .ok (.iaload, 1) := by decide +kernel
theorem d_Mod_isFrame_19 : decode b_Mod_isFrame 19 = .ok (.bipush 84, 2) := by decide +kernel
theorem d_Mod_isFrame_21 : decode b_Mod_isFrame 21 = .ok (.if_icmp .ne 33, 3) := by decide +kernel
theorem d_Mod_isFrame_24 : decode b_Mod_isFrame 24 = .ok (.aload_n 0, 1) := by decide +kernel
theorem d_Mod_isFrame_25 : decode b_Mod_isFrame 25 = .ok (.getfield 133, 3) := by decide +kernel
theorem d_Mod_isFrame_28 : decode b_Mod_isFrame 28 = .ok (.iload_n 1, 1) := by decide +kernel
theorem d_Mod_isFrame_29 : decode b_Mod_isFrame 29 = .ok (.iconst 2, 1) := by decide +kernel
theorem d_Mod_isFrame_30 : decode b_Mod_isFrame 30 = .ok (.iadd, 1) := by decide +kernel
theorem d_Mod_isFrame_31 : decode b_Mod_isFrame 31 = .ok (.iaload, 1) := by decide +kernel
theorem d_Mod_isFrame_32 : decode b_Mod_isFrame 32 = .ok (.bipush 82, 2) := by decide +kernel
theorem d_Mod_isFrame_34 : decode b_Mod_isFrame 34 = .ok (.if_icmp .ne 20, 3) := by decide +kernel
theorem d_Mod_isFrame_37 : decode b_Mod_isFrame 37 = .ok (.aload_n 0, 1) := by decide +kernel
theorem d_Mod_isFrame_38 : decode b_Mod_isFrame 38 = .ok (.getfield 133, 3) := by decide +kernel
theorem d_Mod_isFrame_41 : decode b_Mod_isFrame 41 = .ok (.iload_n 1, 1) := by decide +kernel
theorem d_Mod_isFrame_42 : decode b_Mod_isFrame 42 = .ok (.iconst 3, 1) := by decide +kernel
theorem d_Mod_isFrame_43 : decode b_Mod_isFrame 43 = .ok (.iadd, 1) := by decide +kernel
theorem d_Mod_isFrame_44 : decode b_Mod_isFrame 44 = .ok (.iaload, 1) := by decide +kernel
theorem d_Mod_isFrame_45 : decode b_Mod_isFrame 45 = .ok (.bipush 66, 2) := by decide +kernel
theorem d_Mod_isFrame_47 : decode b_Mod_isFrame 47 = .ok (.if_icmp .ne 7, 3) := by decide +kernel
theorem d_Mod_isFrame_50 : decode b_Mod_isFrame 50 = .ok (.iconst 1, 1) := by decide +kernel
theorem d_Mod_isFrame_51 : decode b_Mod_isFrame 51 = .ok (.goto 4, 3) := by decide +kernel
section
variable (l : Launch) (dC : Nat → ClassId) (dI : Nat → Nat → Nat) (cI cB cJ cZ : ClassId)
set_option maxRecDepth 100000 in
def j_Mod_write_270 (post : Int32 → St → Prop) (rec270 : Int32 → Int32 → Int32 → Int32 → Int32 → Int32 → St → Prop) (l1 : Int32) (l2 : Int32) (l3 : Int32) (l4 : Int32) (l5 : Int32) (l6 : Int32) (x : St) : Prop := (((fI x 0 66) ≤ l6 → (∀ x862 : St, x862 = setI x 0 65 (fI x 0 66) → post (fI x862 0 65) x862)) ∧ (¬ (fI x 0 66) ≤ l6 → (vp_in l6 (fN x 42) ∧ (vp_in l6 (fN x 41) ∧ ∀ x863 : St, x863 = setA x 41 l6 (rA x 42 l6) → rec270 l1 l2 l3 l4 l5 (l6 + 1) x863))))
set_option maxHeartbeats 4000000 in
set_option maxRecDepth 100000 in
theorem t_Mod_write_270 {p : Program} {l : Launch} {e : Env} {R : Room} {s : State} {m : MethodId} {args : Array Value} {below : List Frame} {meth : Method} {c : Code} {cells slots : Nat} {Q : State → Prop} {dC : Nat → ClassId} {dI : Nat → Nat → Nat} {cI cB cJ cZ : ClassId} {A : Nat → Prop} {ad : Nat → Nat} {post : Int32 → St → Prop} {rec270 : Int32 → Int32 → Int32 → Int32 → Int32 → Int32 → St → Prop} (hx : p.tables.exec = Jvm.exec) (hb : c.code = b_Mod_write) (hml : c.maxLocals = 7) (hown : s.vm.findClass R_Mod = some m.cls) (hT : ∀ w ∈ TG, w.before args s = true) (hK : va_K (dC, dI) CL (TY cI cB cJ cZ) s) (hN : NW s) (hA : ∀ q : Nat, s.heap.size ≤ q → A q) (hRc : cells ≤ R.cells) (hRs : slots ≤ R.slots) (hRf : 8 ≤ R.frames) (hRl : 193 ≤ R.locals) (hret : ∀ (r : Int32) (x : St) (H : Heap) (locs : List Loc) (pc : Nat) (ls : Array Slot), decode b_Mod_write pc = .ok (.ireturn, 1) → post r x → Wd dC dI cI cB cJ cZ ad stM kcM 115 A x H → va_S A s.heap H locs → W p l e R s m args below meth c H locs cells slots Q (F0 m pc ls [.int r])) (hrec270 : ∀ (l1 : Int32) (l2 : Int32) (l3 : Int32) (l4 : Int32) (l5 : Int32) (l6 : Int32) (x : St) (H : Heap) (locs : List Loc) (ls : Array Slot), rec270 l1 l2 l3 l4 l5 l6 x → Wd dC dI cI cB cJ cZ ad stM kcM 115 A x H → va_S A s.heap H locs → lv_has ls 7 [(0, .ref (ad 0)), (1, .int l1), (2, .int l2), (3, .int l3), (4, .int l4), (5, .int l5), (6, .int l6)] → W p l e R s m args below meth c H locs cells slots Q (F0 m 270 ls [])) : ∀ (l1 : Int32) (l2 : Int32) (l3 : Int32) (l4 : Int32) (l5 : Int32) (l6 : Int32) (x : St) (H : Heap) (locs : List Loc) (ls : Array Slot), j_Mod_write_270 post rec270 l1 l2 l3 l4 l5 l6 x → Wd dC dI cI cB cJ cZ ad stM kcM 115 A x H → va_S A s.heap H locs → lv_has ls 7 [(0, .ref (ad 0)), (1, .int l1), (2, .int l2), (3, .int l3), (4, .int l4), (5, .int l5), (6, .int l6)] → W p l e R s m args below meth c H locs cells slots Q (F0 m 270 ls []) := by
  intro l1 l2 l3 l4 l5 l6 x H locs ls  hw hW hS hl
  unfold j_Mod_write_270 at hw
  refine lv_iload hx hb d_Mod_write_270 (lv_at hl 6 rfl) ?_
  refine lv_aload_n hx hb d_Mod_write_272 rfl (lv_at hl 0 rfl) ?_
  refine w_geti (k := 66) (t := 12) (C := R_Mod) (T := F_Mod) (N := 167) hx hb hT hown hK hW ko_0.1 ko_0.2 (by decide) in_Mod rfl rfl (by decide) rfl fr_Mod_66 w_9_6 d_Mod_write_273 ?_
  refine lv_icmp_ge (tgt := 299) hx hb d_Mod_write_276 (by decide) (fun c861 => ?_) (fun c861 => ?_)
  · have hw := hw.1 c861
    refine lv_aload_n hx hb d_Mod_write_299 rfl (lv_at hl 0 rfl) ?_
    refine lv_aload_n hx hb d_Mod_write_300 rfl (lv_at hl 0 rfl) ?_
    refine w_geti (k := 66) (t := 12) (C := R_Mod) (T := F_Mod) (N := 167) hx hb hT hown hK hW ko_0.1 ko_0.2 (by decide) in_Mod rfl rfl (by decide) rfl fr_Mod_66 w_9_6 d_Mod_write_301 ?_
    refine w_puti (ty := .int) (k := 65) (t := 12) (C := R_Mod) (T := F_Mod) (N := 167) hx hb hT hown hK hW hS ko_0.1 ko_0.2 (by decide) in_Mod t_Mod t_Mod_ok n_Mod rfl rfl (by decide) rfl fr_Mod_65 w_9_5 (by decide +kernel) rfl rfl d_Mod_write_304 (fun H locs hW hS => ?_)
    obtain ⟨x862, ex862⟩ : ∃ y : St, y = setI x 0 65 (fI x 0 66) := ⟨_, rfl⟩
    rw [← ex862] at hW
    have hw := hw x862 ex862
    refine lv_aload_n hx hb d_Mod_write_307 rfl (lv_at hl 0 rfl) ?_
    refine w_geti (k := 65) (t := 12) (C := R_Mod) (T := F_Mod) (N := 167) hx hb hT hown hK hW ko_0.1 ko_0.2 (by decide) in_Mod rfl rfl (by decide) rfl fr_Mod_65 w_9_5 d_Mod_write_308 ?_
    exact hret (fI x862 0 65) x862 H locs 311 ls d_Mod_write_311 hw hW hS
  · have hw := hw.2 c861
    refine lv_aload_n hx hb d_Mod_write_279 rfl (lv_at hl 0 rfl) ?_
    refine w_getf (q := 41) (k := 62) (t := 12) (C := R_Mod) (T := F_Mod) (N := 167) hx hb hT hown hK hW ko_0.1 ko_0.2 (by decide) in_Mod rfl rfl (by decide) rfl fr_Mod_62 w_9_2 d_Mod_write_280 rfl ?_
    refine lv_iload hx hb d_Mod_write_283 (lv_at hl 6 rfl) ?_
    refine lv_aload_n hx hb d_Mod_write_285 rfl (lv_at hl 0 rfl) ?_
    refine w_getf (q := 42) (k := 63) (t := 12) (C := R_Mod) (T := F_Mod) (N := 167) hx hb hT hown hK hW ko_0.1 ko_0.2 (by decide) in_Mod rfl rfl (by decide) rfl fr_Mod_63 w_9_3 d_Mod_write_286 rfl ?_
    refine lv_iload hx hb d_Mod_write_289 (lv_at hl 6 rfl) ?_
    obtain ⟨hi, hw⟩ := hw
    refine w_iald (o := 42) hx hb hK hW ko_42.1 ko_42.2 hi d_Mod_write_291 ?_
    obtain ⟨hi, hw⟩ := hw
    refine w_iast (o := 41) hx hb hK hW hS ko_41.1 ko_41.2 hi d_Mod_write_292 (fun H locs hW hS => ?_)
    obtain ⟨x863, ex863⟩ : ∃ y : St, y = setA x 41 l6 (rA x 42 l6) := ⟨_, rfl⟩
    rw [← ex863] at hW
    have hw := hw x863 ex863
    refine lv_iinc (v := (l6 + 1)) (lv' := [(6, .int (l6 + 1)), (0, .ref (ad 0)), (1, .int l1), (2, .int l2), (3, .int l3), (4, .int l4), (5, .int l5)]) hx hb d_Mod_write_293 hl (k := 6) rfl rfl (by decide) rfl (fun ls hl => ?_)
    refine lv_goto (tgt := 270) hx hb d_Mod_write_296 (by decide) ?_
    exact hrec270 l1 l2 l3 l4 l5 (l6 + 1) x863 H locs ls  hw hW hS (lv_sub hl [1, 2, 3, 4, 5, 6, 0] rfl)
def wl_Mod_write_270 (post : Int32 → St → Prop) : Nat → Int32 → Int32 → Int32 → Int32 → Int32 → Int32 → St → Prop
  | 0 => fun _ _ _ _ _ _ _ => False
  | n + 1 => j_Mod_write_270 post (wl_Mod_write_270 post n)
set_option maxHeartbeats 4000000 in
set_option maxRecDepth 100000 in
theorem tl_Mod_write_270 {p : Program} {l : Launch} {e : Env} {R : Room} {s : State} {m : MethodId} {args : Array Value} {below : List Frame} {meth : Method} {c : Code} {cells slots : Nat} {Q : State → Prop} {dC : Nat → ClassId} {dI : Nat → Nat → Nat} {cI cB cJ cZ : ClassId} {A : Nat → Prop} {ad : Nat → Nat} {post : Int32 → St → Prop} (hx : p.tables.exec = Jvm.exec) (hb : c.code = b_Mod_write) (hml : c.maxLocals = 7) (hown : s.vm.findClass R_Mod = some m.cls) (hT : ∀ w ∈ TG, w.before args s = true) (hK : va_K (dC, dI) CL (TY cI cB cJ cZ) s) (hN : NW s) (hA : ∀ q : Nat, s.heap.size ≤ q → A q) (hRc : cells ≤ R.cells) (hRs : slots ≤ R.slots) (hRf : 8 ≤ R.frames) (hRl : 193 ≤ R.locals) (hret : ∀ (r : Int32) (x : St) (H : Heap) (locs : List Loc) (pc : Nat) (ls : Array Slot), decode b_Mod_write pc = .ok (.ireturn, 1) → post r x → Wd dC dI cI cB cJ cZ ad stM kcM 115 A x H → va_S A s.heap H locs → W p l e R s m args below meth c H locs cells slots Q (F0 m pc ls [.int r]))  : ∀ n : Nat, ∀ (l1 : Int32) (l2 : Int32) (l3 : Int32) (l4 : Int32) (l5 : Int32) (l6 : Int32) (x : St) (H : Heap) (locs : List Loc) (ls : Array Slot), wl_Mod_write_270 post n l1 l2 l3 l4 l5 l6 x → Wd dC dI cI cB cJ cZ ad stM kcM 115 A x H → va_S A s.heap H locs → lv_has ls 7 [(0, .ref (ad 0)), (1, .int l1), (2, .int l2), (3, .int l3), (4, .int l4), (5, .int l5), (6, .int l6)] → W p l e R s m args below meth c H locs cells slots Q (F0 m 270 ls []) := by
  intro n
  induction n with
  | zero => intro l1 l2 l3 l4 l5 l6 x H locs ls  hw; exact hw.elim
  | succ n ih => intro l1 l2 l3 l4 l5 l6 x H locs ls  hw hW hS hl; exact t_Mod_write_270 hx hb hml hown hT hK hN hA hRc hRs hRf hRl hret  ih l1 l2 l3 l4 l5 l6 x H locs ls  hw hW hS hl
set_option maxRecDepth 100000 in
def j_Mod_write_235 (post : Int32 → St → Prop) (rec235 : Int32 → Int32 → Int32 → Int32 → Int32 → Int32 → St → Prop) (l1 : Int32) (l2 : Int32) (l3 : Int32) (l4 : Int32) (l5 : Int32) (l6 : Int32) (x : St) : Prop := ((4 ≤ l6 → wp_Mod_addFrame (fun (x865 : St) => ∃ n : Nat, wl_Mod_write_270 post n l1 l2 l3 l4 l5 0 x865)  x) ∧ (¬ 4 ≤ l6 → wp_Mod_addByte (fun (x866 : St) => rec235 l1 l2 l3 l4 l5 (l6 + 1) x866) ((l5 >>> ((8 * l6) &&& 31)) &&& 255) x))
set_option maxHeartbeats 4000000 in
set_option maxRecDepth 100000 in
theorem t_Mod_write_235 {p : Program} {l : Launch} {e : Env} {R : Room} {s : State} {m : MethodId} {args : Array Value} {below : List Frame} {meth : Method} {c : Code} {cells slots : Nat} {Q : State → Prop} {dC : Nat → ClassId} {dI : Nat → Nat → Nat} {cI cB cJ cZ : ClassId} {A : Nat → Prop} {ad : Nat → Nat} {post : Int32 → St → Prop} {rec235 : Int32 → Int32 → Int32 → Int32 → Int32 → Int32 → St → Prop} (hx : p.tables.exec = Jvm.exec) (hb : c.code = b_Mod_write) (hml : c.maxLocals = 7) (hown : s.vm.findClass R_Mod = some m.cls) (hT : ∀ w ∈ TG, w.before args s = true) (hK : va_K (dC, dI) CL (TY cI cB cJ cZ) s) (hN : NW s) (hA : ∀ q : Nat, s.heap.size ≤ q → A q) (hRc : cells ≤ R.cells) (hRs : slots ≤ R.slots) (hRf : 8 ≤ R.frames) (hRl : 193 ≤ R.locals) (hret : ∀ (r : Int32) (x : St) (H : Heap) (locs : List Loc) (pc : Nat) (ls : Array Slot), decode b_Mod_write pc = .ok (.ireturn, 1) → post r x → Wd dC dI cI cB cJ cZ ad stM kcM 115 A x H → va_S A s.heap H locs → W p l e R s m args below meth c H locs cells slots Q (F0 m pc ls [.int r])) (hrec235 : ∀ (l1 : Int32) (l2 : Int32) (l3 : Int32) (l4 : Int32) (l5 : Int32) (l6 : Int32) (x : St) (H : Heap) (locs : List Loc) (ls : Array Slot), rec235 l1 l2 l3 l4 l5 l6 x → Wd dC dI cI cB cJ cZ ad stM kcM 115 A x H → va_S A s.heap H locs → lv_has ls 7 [(0, .ref (ad 0)), (1, .int l1), (2, .int l2), (3, .int l3), (4, .int l4), (5, .int l5), (6, .int l6)] → W p l e R s m args below meth c H locs cells slots Q (F0 m 235 ls [])) : ∀ (l1 : Int32) (l2 : Int32) (l3 : Int32) (l4 : Int32) (l5 : Int32) (l6 : Int32) (x : St) (H : Heap) (locs : List Loc) (ls : Array Slot), j_Mod_write_235 post rec235 l1 l2 l3 l4 l5 l6 x → Wd dC dI cI cB cJ cZ ad stM kcM 115 A x H → va_S A s.heap H locs → lv_has ls 7 [(0, .ref (ad 0)), (1, .int l1), (2, .int l2), (3, .int l3), (4, .int l4), (5, .int l5), (6, .int l6)] → W p l e R s m args below meth c H locs cells slots Q (F0 m 235 ls []) := by
  intro l1 l2 l3 l4 l5 l6 x H locs ls  hw hW hS hl
  unfold j_Mod_write_235 at hw
  refine lv_iload hx hb d_Mod_write_235 (lv_at hl 6 rfl) ?_
  refine lv_iconst (v := 4) hx hb d_Mod_write_237 (by decide) ?_
  refine lv_icmp_ge (tgt := 263) hx hb d_Mod_write_238 (by decide) (fun c864 => ?_) (fun c864 => ?_)
  · have hw := hw.1 c864
    refine lv_aload_n hx hb d_Mod_write_263 rfl (lv_at hl 0 rfl) ?_
    have hF := hW.free hS hA
    refine va_callv (va_runV (C := R_Mod) (As := []) (rest := []) ⟨hx, hb, hml, hown, hT⟩ (k_Mod_addFrame l dC dI cI cB cJ cZ ad H.size  x  hw) ⟨callB_of 0 hT (gw_in w_11_138) rfl rfl rfl (hT _ w_1_15) (hT _ w_11_135) (by decide +kernel) ⟨Nat.le_trans (by decide) hRf, Nat.le_trans (by decide) hRl⟩, hT _ w_11_137, hT _ ws_139⟩ ⟨PW.blind, va_recv hK hW.1 (ci := 12) (q0 := 0) rfl (pic_obj ko_0.1 ko_0.2 (by decide)), PW.at _ hW hK hN⟩ rfl rfl hl.1 rfl (lv_room (Nat.le_of_ble_eq_true rfl)) d_Mod_write_264 ⟨hRc, hRs⟩) hS (fun q _ h => hF q h) hF (fun  x865 t H locs ht hvm hw hB hz1 hk1 hS => ?_)
    have hW := Wd.back hB ht hF
    clear hB ht hF hz1 hk1 hvm
    refine lv_iconst (v := 0) hx hb d_Mod_write_267 (by decide) ?_
    refine lv_istore (lv' := [(6, .int 0), (0, .ref (ad 0)), (1, .int l1), (2, .int l2), (3, .int l3), (4, .int l4), (5, .int l5)]) hx hb d_Mod_write_268 hl (by decide) rfl (fun ls hl => ?_)
    obtain ⟨n, hw⟩ := hw
    exact tl_Mod_write_270 hx hb hml hown hT hK hN hA hRc hRs hRf hRl hret  n l1 l2 l3 l4 l5 0 x865 H locs ls  hw hW hS (lv_sub hl [1, 2, 3, 4, 5, 6, 0] rfl)
  · have hw := hw.2 c864
    refine lv_aload_n hx hb d_Mod_write_241 rfl (lv_at hl 0 rfl) ?_
    refine lv_iload hx hb d_Mod_write_242 (lv_at hl 5 rfl) ?_
    refine lv_bipush (v := 8) hx hb d_Mod_write_244 (by decide) ?_
    refine lv_iload hx hb d_Mod_write_246 (lv_at hl 6 rfl) ?_
    refine lv_imul hx hb d_Mod_write_248 ?_
    refine lv_ishr hx hb d_Mod_write_249 ?_
    refine lv_sipush (v := 255) hx hb d_Mod_write_250 (by decide) ?_
    refine lv_iand hx hb d_Mod_write_253 ?_
    have hF := hW.free hS hA
    refine va_callv (va_runV (C := R_Mod) (As := [.int ((l5 >>> ((8 * l6) &&& 31)) &&& 255)]) (rest := []) ⟨hx, hb, hml, hown, hT⟩ (k_Mod_addByte l dC dI cI cB cJ cZ ad H.size ((l5 >>> ((8 * l6) &&& 31)) &&& 255) x  hw) ⟨callB_of 1 hT (gw_in w_11_142) rfl rfl rfl (hT _ w_1_15) (hT _ w_11_139) (by decide +kernel) ⟨Nat.le_trans (by decide) hRf, Nat.le_trans (by decide) hRl⟩, hT _ w_11_141, hT _ ws_140⟩ ⟨PW.blind, va_recv hK hW.1 (ci := 12) (q0 := 0) rfl (pic_obj ko_0.1 ko_0.2 (by decide)), PW.at _ hW hK hN⟩ rfl rfl hl.1 rfl (lv_room (Nat.le_of_ble_eq_true rfl)) d_Mod_write_254 ⟨hRc, hRs⟩) hS (fun q _ h => hF q h) hF (fun  x866 t H locs ht hvm hw hB hz1 hk1 hS => ?_)
    have hW := Wd.back hB ht hF
    clear hB ht hF hz1 hk1 hvm
    refine lv_iinc (v := (l6 + 1)) (lv' := [(6, .int (l6 + 1)), (0, .ref (ad 0)), (1, .int l1), (2, .int l2), (3, .int l3), (4, .int l4), (5, .int l5)]) hx hb d_Mod_write_257 hl (k := 6) rfl rfl (by decide) rfl (fun ls hl => ?_)
    refine lv_goto (tgt := 235) hx hb d_Mod_write_260 (by decide) ?_
    exact hrec235 l1 l2 l3 l4 l5 (l6 + 1) x866 H locs ls  hw hW hS (lv_sub hl [1, 2, 3, 4, 5, 6, 0] rfl)
def wl_Mod_write_235 (post : Int32 → St → Prop) : Nat → Int32 → Int32 → Int32 → Int32 → Int32 → Int32 → St → Prop
  | 0 => fun _ _ _ _ _ _ _ => False
  | n + 1 => j_Mod_write_235 post (wl_Mod_write_235 post n)
set_option maxHeartbeats 4000000 in
set_option maxRecDepth 100000 in
theorem tl_Mod_write_235 {p : Program} {l : Launch} {e : Env} {R : Room} {s : State} {m : MethodId} {args : Array Value} {below : List Frame} {meth : Method} {c : Code} {cells slots : Nat} {Q : State → Prop} {dC : Nat → ClassId} {dI : Nat → Nat → Nat} {cI cB cJ cZ : ClassId} {A : Nat → Prop} {ad : Nat → Nat} {post : Int32 → St → Prop} (hx : p.tables.exec = Jvm.exec) (hb : c.code = b_Mod_write) (hml : c.maxLocals = 7) (hown : s.vm.findClass R_Mod = some m.cls) (hT : ∀ w ∈ TG, w.before args s = true) (hK : va_K (dC, dI) CL (TY cI cB cJ cZ) s) (hN : NW s) (hA : ∀ q : Nat, s.heap.size ≤ q → A q) (hRc : cells ≤ R.cells) (hRs : slots ≤ R.slots) (hRf : 8 ≤ R.frames) (hRl : 193 ≤ R.locals) (hret : ∀ (r : Int32) (x : St) (H : Heap) (locs : List Loc) (pc : Nat) (ls : Array Slot), decode b_Mod_write pc = .ok (.ireturn, 1) → post r x → Wd dC dI cI cB cJ cZ ad stM kcM 115 A x H → va_S A s.heap H locs → W p l e R s m args below meth c H locs cells slots Q (F0 m pc ls [.int r]))  : ∀ n : Nat, ∀ (l1 : Int32) (l2 : Int32) (l3 : Int32) (l4 : Int32) (l5 : Int32) (l6 : Int32) (x : St) (H : Heap) (locs : List Loc) (ls : Array Slot), wl_Mod_write_235 post n l1 l2 l3 l4 l5 l6 x → Wd dC dI cI cB cJ cZ ad stM kcM 115 A x H → va_S A s.heap H locs → lv_has ls 7 [(0, .ref (ad 0)), (1, .int l1), (2, .int l2), (3, .int l3), (4, .int l4), (5, .int l5), (6, .int l6)] → W p l e R s m args below meth c H locs cells slots Q (F0 m 235 ls []) := by
  intro n
  induction n with
  | zero => intro l1 l2 l3 l4 l5 l6 x H locs ls  hw; exact hw.elim
  | succ n ih => intro l1 l2 l3 l4 l5 l6 x H locs ls  hw hW hS hl; exact t_Mod_write_235 hx hb hml hown hT hK hN hA hRc hRs hRf hRl hret  ih l1 l2 l3 l4 l5 l6 x H locs ls  hw hW hS hl
set_option maxRecDepth 100000 in
def j_Mod_write_204 (post : Int32 → St → Prop) (rec204 : Int32 → Int32 → Int32 → Int32 → Int32 → Int32 → St → Prop) (l1 : Int32) (l2 : Int32) (l3 : Int32) (l4 : Int32) (l5 : Int32) (l6 : Int32) (x : St) : Prop := ((4 ≤ l6 → ∃ n : Nat, wl_Mod_write_235 post n l1 l2 l3 l4 l5 0 x) ∧ (¬ 4 ≤ l6 → wp_Mod_addByte (fun (x868 : St) => rec204 l1 l2 l3 l4 l5 (l6 + 1) x868) ((l4 >>> ((8 * l6) &&& 31)) &&& 255) x))
set_option maxHeartbeats 4000000 in
set_option maxRecDepth 100000 in
theorem t_Mod_write_204 {p : Program} {l : Launch} {e : Env} {R : Room} {s : State} {m : MethodId} {args : Array Value} {below : List Frame} {meth : Method} {c : Code} {cells slots : Nat} {Q : State → Prop} {dC : Nat → ClassId} {dI : Nat → Nat → Nat} {cI cB cJ cZ : ClassId} {A : Nat → Prop} {ad : Nat → Nat} {post : Int32 → St → Prop} {rec204 : Int32 → Int32 → Int32 → Int32 → Int32 → Int32 → St → Prop} (hx : p.tables.exec = Jvm.exec) (hb : c.code = b_Mod_write) (hml : c.maxLocals = 7) (hown : s.vm.findClass R_Mod = some m.cls) (hT : ∀ w ∈ TG, w.before args s = true) (hK : va_K (dC, dI) CL (TY cI cB cJ cZ) s) (hN : NW s) (hA : ∀ q : Nat, s.heap.size ≤ q → A q) (hRc : cells ≤ R.cells) (hRs : slots ≤ R.slots) (hRf : 8 ≤ R.frames) (hRl : 193 ≤ R.locals) (hret : ∀ (r : Int32) (x : St) (H : Heap) (locs : List Loc) (pc : Nat) (ls : Array Slot), decode b_Mod_write pc = .ok (.ireturn, 1) → post r x → Wd dC dI cI cB cJ cZ ad stM kcM 115 A x H → va_S A s.heap H locs → W p l e R s m args below meth c H locs cells slots Q (F0 m pc ls [.int r])) (hrec204 : ∀ (l1 : Int32) (l2 : Int32) (l3 : Int32) (l4 : Int32) (l5 : Int32) (l6 : Int32) (x : St) (H : Heap) (locs : List Loc) (ls : Array Slot), rec204 l1 l2 l3 l4 l5 l6 x → Wd dC dI cI cB cJ cZ ad stM kcM 115 A x H → va_S A s.heap H locs → lv_has ls 7 [(0, .ref (ad 0)), (1, .int l1), (2, .int l2), (3, .int l3), (4, .int l4), (5, .int l5), (6, .int l6)] → W p l e R s m args below meth c H locs cells slots Q (F0 m 204 ls [])) : ∀ (l1 : Int32) (l2 : Int32) (l3 : Int32) (l4 : Int32) (l5 : Int32) (l6 : Int32) (x : St) (H : Heap) (locs : List Loc) (ls : Array Slot), j_Mod_write_204 post rec204 l1 l2 l3 l4 l5 l6 x → Wd dC dI cI cB cJ cZ ad stM kcM 115 A x H → va_S A s.heap H locs → lv_has ls 7 [(0, .ref (ad 0)), (1, .int l1), (2, .int l2), (3, .int l3), (4, .int l4), (5, .int l5), (6, .int l6)] → W p l e R s m args below meth c H locs cells slots Q (F0 m 204 ls []) := by
  intro l1 l2 l3 l4 l5 l6 x H locs ls  hw hW hS hl
  unfold j_Mod_write_204 at hw
  refine lv_iload hx hb d_Mod_write_204 (lv_at hl 6 rfl) ?_
  refine lv_iconst (v := 4) hx hb d_Mod_write_206 (by decide) ?_
  refine lv_icmp_ge (tgt := 232) hx hb d_Mod_write_207 (by decide) (fun c867 => ?_) (fun c867 => ?_)
  · have hw := hw.1 c867
    refine lv_iconst (v := 0) hx hb d_Mod_write_232 (by decide) ?_
    refine lv_istore (lv' := [(6, .int 0), (0, .ref (ad 0)), (1, .int l1), (2, .int l2), (3, .int l3), (4, .int l4), (5, .int l5)]) hx hb d_Mod_write_233 hl (by decide) rfl (fun ls hl => ?_)
    obtain ⟨n, hw⟩ := hw
    exact tl_Mod_write_235 hx hb hml hown hT hK hN hA hRc hRs hRf hRl hret  n l1 l2 l3 l4 l5 0 x H locs ls  hw hW hS (lv_sub hl [1, 2, 3, 4, 5, 6, 0] rfl)
  · have hw := hw.2 c867
    refine lv_aload_n hx hb d_Mod_write_210 rfl (lv_at hl 0 rfl) ?_
    refine lv_iload hx hb d_Mod_write_211 (lv_at hl 4 rfl) ?_
    refine lv_bipush (v := 8) hx hb d_Mod_write_213 (by decide) ?_
    refine lv_iload hx hb d_Mod_write_215 (lv_at hl 6 rfl) ?_
    refine lv_imul hx hb d_Mod_write_217 ?_
    refine lv_ishr hx hb d_Mod_write_218 ?_
    refine lv_sipush (v := 255) hx hb d_Mod_write_219 (by decide) ?_
    refine lv_iand hx hb d_Mod_write_222 ?_
    have hF := hW.free hS hA
    refine va_callv (va_runV (C := R_Mod) (As := [.int ((l4 >>> ((8 * l6) &&& 31)) &&& 255)]) (rest := []) ⟨hx, hb, hml, hown, hT⟩ (k_Mod_addByte l dC dI cI cB cJ cZ ad H.size ((l4 >>> ((8 * l6) &&& 31)) &&& 255) x  hw) ⟨callB_of 1 hT (gw_in w_11_142) rfl rfl rfl (hT _ w_1_15) (hT _ w_11_139) (by decide +kernel) ⟨Nat.le_trans (by decide) hRf, Nat.le_trans (by decide) hRl⟩, hT _ w_11_141, hT _ ws_140⟩ ⟨PW.blind, va_recv hK hW.1 (ci := 12) (q0 := 0) rfl (pic_obj ko_0.1 ko_0.2 (by decide)), PW.at _ hW hK hN⟩ rfl rfl hl.1 rfl (lv_room (Nat.le_of_ble_eq_true rfl)) d_Mod_write_223 ⟨hRc, hRs⟩) hS (fun q _ h => hF q h) hF (fun  x868 t H locs ht hvm hw hB hz1 hk1 hS => ?_)
    have hW := Wd.back hB ht hF
    clear hB ht hF hz1 hk1 hvm
    refine lv_iinc (v := (l6 + 1)) (lv' := [(6, .int (l6 + 1)), (0, .ref (ad 0)), (1, .int l1), (2, .int l2), (3, .int l3), (4, .int l4), (5, .int l5)]) hx hb d_Mod_write_226 hl (k := 6) rfl rfl (by decide) rfl (fun ls hl => ?_)
    refine lv_goto (tgt := 204) hx hb d_Mod_write_229 (by decide) ?_
    exact hrec204 l1 l2 l3 l4 l5 (l6 + 1) x868 H locs ls  hw hW hS (lv_sub hl [1, 2, 3, 4, 5, 6, 0] rfl)
def wl_Mod_write_204 (post : Int32 → St → Prop) : Nat → Int32 → Int32 → Int32 → Int32 → Int32 → Int32 → St → Prop
  | 0 => fun _ _ _ _ _ _ _ => False
  | n + 1 => j_Mod_write_204 post (wl_Mod_write_204 post n)
set_option maxHeartbeats 4000000 in
set_option maxRecDepth 100000 in
theorem tl_Mod_write_204 {p : Program} {l : Launch} {e : Env} {R : Room} {s : State} {m : MethodId} {args : Array Value} {below : List Frame} {meth : Method} {c : Code} {cells slots : Nat} {Q : State → Prop} {dC : Nat → ClassId} {dI : Nat → Nat → Nat} {cI cB cJ cZ : ClassId} {A : Nat → Prop} {ad : Nat → Nat} {post : Int32 → St → Prop} (hx : p.tables.exec = Jvm.exec) (hb : c.code = b_Mod_write) (hml : c.maxLocals = 7) (hown : s.vm.findClass R_Mod = some m.cls) (hT : ∀ w ∈ TG, w.before args s = true) (hK : va_K (dC, dI) CL (TY cI cB cJ cZ) s) (hN : NW s) (hA : ∀ q : Nat, s.heap.size ≤ q → A q) (hRc : cells ≤ R.cells) (hRs : slots ≤ R.slots) (hRf : 8 ≤ R.frames) (hRl : 193 ≤ R.locals) (hret : ∀ (r : Int32) (x : St) (H : Heap) (locs : List Loc) (pc : Nat) (ls : Array Slot), decode b_Mod_write pc = .ok (.ireturn, 1) → post r x → Wd dC dI cI cB cJ cZ ad stM kcM 115 A x H → va_S A s.heap H locs → W p l e R s m args below meth c H locs cells slots Q (F0 m pc ls [.int r]))  : ∀ n : Nat, ∀ (l1 : Int32) (l2 : Int32) (l3 : Int32) (l4 : Int32) (l5 : Int32) (l6 : Int32) (x : St) (H : Heap) (locs : List Loc) (ls : Array Slot), wl_Mod_write_204 post n l1 l2 l3 l4 l5 l6 x → Wd dC dI cI cB cJ cZ ad stM kcM 115 A x H → va_S A s.heap H locs → lv_has ls 7 [(0, .ref (ad 0)), (1, .int l1), (2, .int l2), (3, .int l3), (4, .int l4), (5, .int l5), (6, .int l6)] → W p l e R s m args below meth c H locs cells slots Q (F0 m 204 ls []) := by
  intro n
  induction n with
  | zero => intro l1 l2 l3 l4 l5 l6 x H locs ls  hw; exact hw.elim
  | succ n ih => intro l1 l2 l3 l4 l5 l6 x H locs ls  hw hW hS hl; exact t_Mod_write_204 hx hb hml hown hT hK hN hA hRc hRs hRf hRl hret  ih l1 l2 l3 l4 l5 l6 x H locs ls  hw hW hS hl
set_option maxRecDepth 100000 in
def j_Mod_write_135 (post : Int32 → St → Prop) (l1 : Int32) (l2 : Int32) (l3 : Int32) (l4 : Int32) (l5 : Int32) (x : St) : Prop := post (-1) x
set_option maxHeartbeats 4000000 in
set_option maxRecDepth 100000 in
theorem t_Mod_write_135 {p : Program} {l : Launch} {e : Env} {R : Room} {s : State} {m : MethodId} {args : Array Value} {below : List Frame} {meth : Method} {c : Code} {cells slots : Nat} {Q : State → Prop} {dC : Nat → ClassId} {dI : Nat → Nat → Nat} {cI cB cJ cZ : ClassId} {A : Nat → Prop} {ad : Nat → Nat} {post : Int32 → St → Prop} (hx : p.tables.exec = Jvm.exec) (hb : c.code = b_Mod_write) (hml : c.maxLocals = 7) (hown : s.vm.findClass R_Mod = some m.cls) (hT : ∀ w ∈ TG, w.before args s = true) (hK : va_K (dC, dI) CL (TY cI cB cJ cZ) s) (hN : NW s) (hA : ∀ q : Nat, s.heap.size ≤ q → A q) (hRc : cells ≤ R.cells) (hRs : slots ≤ R.slots) (hRf : 8 ≤ R.frames) (hRl : 193 ≤ R.locals) (hret : ∀ (r : Int32) (x : St) (H : Heap) (locs : List Loc) (pc : Nat) (ls : Array Slot), decode b_Mod_write pc = .ok (.ireturn, 1) → post r x → Wd dC dI cI cB cJ cZ ad stM kcM 115 A x H → va_S A s.heap H locs → W p l e R s m args below meth c H locs cells slots Q (F0 m pc ls [.int r]))  : ∀ (l1 : Int32) (l2 : Int32) (l3 : Int32) (l4 : Int32) (l5 : Int32) (x : St) (H : Heap) (locs : List Loc) (ls : Array Slot), j_Mod_write_135 post l1 l2 l3 l4 l5 x → Wd dC dI cI cB cJ cZ ad stM kcM 115 A x H → va_S A s.heap H locs → lv_has ls 7 [(0, .ref (ad 0)), (1, .int l1), (2, .int l2), (3, .int l3), (4, .int l4), (5, .int l5)] → W p l e R s m args below meth c H locs cells slots Q (F0 m 135 ls []) := by
  intro l1 l2 l3 l4 l5 x H locs ls  hw hW hS hl
  unfold j_Mod_write_135 at hw
  refine lv_iconst (v := (-1)) hx hb d_Mod_write_135 (by decide) ?_
  exact hret (-1) x H locs 136 ls d_Mod_write_136 hw hW hS
set_option maxRecDepth 100000 in
def j_Mod_write_128 (post : Int32 → St → Prop) (rec68 : Int32 → Int32 → Int32 → Int32 → St → Prop) (rec80 : Int32 → Int32 → Int32 → Int32 → Int32 → St → Prop) (l1 : Int32) (l2 : Int32) (l3 : Int32) (l4 : Int32) (l5 : Int32) (s0 : Int32) (s1 : Int32) (s2 : Int32) (s3 : Int32) (x : St) : Prop := wp_Mod_writeChunk (fun (r870 : Int32) (x869 : St) => ((¬ r870 = 0 → rec80 l1 l2 (l3 + 1) l4 (l5 + 1) x869) ∧ (r870 = 0 → j_Mod_write_135 post l1 l2 l3 l4 l5 x869))) s3 s2 s1 s0 l1 x
set_option maxHeartbeats 4000000 in
set_option maxRecDepth 100000 in
theorem t_Mod_write_128 {p : Program} {l : Launch} {e : Env} {R : Room} {s : State} {m : MethodId} {args : Array Value} {below : List Frame} {meth : Method} {c : Code} {cells slots : Nat} {Q : State → Prop} {dC : Nat → ClassId} {dI : Nat → Nat → Nat} {cI cB cJ cZ : ClassId} {A : Nat → Prop} {ad : Nat → Nat} {post : Int32 → St → Prop} {rec68 : Int32 → Int32 → Int32 → Int32 → St → Prop} {rec80 : Int32 → Int32 → Int32 → Int32 → Int32 → St → Prop} (hx : p.tables.exec = Jvm.exec) (hb : c.code = b_Mod_write) (hml : c.maxLocals = 7) (hown : s.vm.findClass R_Mod = some m.cls) (hT : ∀ w ∈ TG, w.before args s = true) (hK : va_K (dC, dI) CL (TY cI cB cJ cZ) s) (hN : NW s) (hA : ∀ q : Nat, s.heap.size ≤ q → A q) (hRc : cells ≤ R.cells) (hRs : slots ≤ R.slots) (hRf : 8 ≤ R.frames) (hRl : 193 ≤ R.locals) (hret : ∀ (r : Int32) (x : St) (H : Heap) (locs : List Loc) (pc : Nat) (ls : Array Slot), decode b_Mod_write pc = .ok (.ireturn, 1) → post r x → Wd dC dI cI cB cJ cZ ad stM kcM 115 A x H → va_S A s.heap H locs → W p l e R s m args below meth c H locs cells slots Q (F0 m pc ls [.int r])) (hrec68 : ∀ (l1 : Int32) (l2 : Int32) (l3 : Int32) (l4 : Int32) (x : St) (H : Heap) (locs : List Loc) (ls : Array Slot), rec68 l1 l2 l3 l4 x → Wd dC dI cI cB cJ cZ ad stM kcM 115 A x H → va_S A s.heap H locs → lv_has ls 7 [(0, .ref (ad 0)), (1, .int l1), (2, .int l2), (3, .int l3), (4, .int l4)] → W p l e R s m args below meth c H locs cells slots Q (F0 m 68 ls [])) (hrec80 : ∀ (l1 : Int32) (l2 : Int32) (l3 : Int32) (l4 : Int32) (l5 : Int32) (x : St) (H : Heap) (locs : List Loc) (ls : Array Slot), rec80 l1 l2 l3 l4 l5 x → Wd dC dI cI cB cJ cZ ad stM kcM 115 A x H → va_S A s.heap H locs → lv_has ls 7 [(0, .ref (ad 0)), (1, .int l1), (2, .int l2), (3, .int l3), (4, .int l4), (5, .int l5)] → W p l e R s m args below meth c H locs cells slots Q (F0 m 80 ls [])) : ∀ (l1 : Int32) (l2 : Int32) (l3 : Int32) (l4 : Int32) (l5 : Int32) (s0 : Int32) (s1 : Int32) (s2 : Int32) (s3 : Int32) (x : St) (H : Heap) (locs : List Loc) (ls : Array Slot), j_Mod_write_128 post rec68 rec80 l1 l2 l3 l4 l5 s0 s1 s2 s3 x → Wd dC dI cI cB cJ cZ ad stM kcM 115 A x H → va_S A s.heap H locs → lv_has ls 7 [(0, .ref (ad 0)), (1, .int l1), (2, .int l2), (3, .int l3), (4, .int l4), (5, .int l5)] → W p l e R s m args below meth c H locs cells slots Q (F0 m 128 ls [.int s0, .int s1, .int s2, .int s3, .ref (ad 0)]) := by
  intro l1 l2 l3 l4 l5 s0 s1 s2 s3 x H locs ls  hw hW hS hl
  unfold j_Mod_write_128 at hw
  refine lv_iload_n hx hb d_Mod_write_128 rfl (lv_at hl 1 rfl) ?_
  have hF := hW.free hS hA
  refine va_calli (va_runV (C := R_Mod) (As := [.int s3, .int s2, .int s1, .int s0, .int l1]) (rest := []) ⟨hx, hb, hml, hown, hT⟩ (k_Mod_writeChunk l dC dI cI cB cJ cZ ad H.size s3 s2 s1 s0 l1 x  hw) ⟨callB_of 5 hT (gw_in w_11_146) rfl rfl rfl (hT _ w_1_15) (hT _ w_11_143) (by decide +kernel) ⟨Nat.le_trans (by decide) hRf, Nat.le_trans (by decide) hRl⟩, hT _ w_11_145, hT _ ws_141⟩ ⟨PW.blind, va_recv hK hW.1 (ci := 12) (q0 := 0) rfl (pic_obj ko_0.1 ko_0.2 (by decide)), PW.at _ hW hK hN⟩ rfl rfl hl.1 rfl (lv_room (Nat.le_of_ble_eq_true rfl)) d_Mod_write_129 ⟨hRc, hRs⟩) hS (fun q _ h => hF q h) hF (fun r870 x869 t H locs ht hvm hw hB hz1 hk1 hS => ?_)
  have hW := Wd.back hB ht hF
  clear hB ht hF hz1 hk1 hvm
  refine lv_if_ne (tgt := 137) hx hb d_Mod_write_132 (by decide) (fun c871 => ?_) (fun c871 => ?_)
  · have hw := hw.1 c871
    refine lv_iinc (v := (l3 + 1)) (lv' := [(3, .int (l3 + 1)), (0, .ref (ad 0)), (1, .int l1), (2, .int l2), (4, .int l4), (5, .int l5)]) hx hb d_Mod_write_137 hl (k := 3) rfl rfl (by decide) rfl (fun ls hl => ?_)
    refine lv_iinc (v := (l5 + 1)) (lv' := [(5, .int (l5 + 1)), (3, .int (l3 + 1)), (0, .ref (ad 0)), (1, .int l1), (2, .int l2), (4, .int l4)]) hx hb d_Mod_write_140 hl (k := 5) rfl rfl (by decide) rfl (fun ls hl => ?_)
    refine lv_goto (tgt := 80) hx hb d_Mod_write_143 (by decide) ?_
    exact hrec80 l1 l2 (l3 + 1) l4 (l5 + 1) x869 H locs ls  hw hW hS (lv_sub hl [2, 3, 4, 1, 5, 0] rfl)
  · have hw := hw.2 c871
    exact t_Mod_write_135 hx hb hml hown hT hK hN hA hRc hRs hRf hRl hret  l1 l2 l3 l4 l5 x869 H locs ls  hw hW hS (lv_sub hl [0, 1, 2, 3, 4, 5] rfl)
set_option maxRecDepth 100000 in
def j_Mod_write_80 (post : Int32 → St → Prop) (rec68 : Int32 → Int32 → Int32 → Int32 → St → Prop) (rec80 : Int32 → Int32 → Int32 → Int32 → Int32 → St → Prop) (l1 : Int32) (l2 : Int32) (l3 : Int32) (l4 : Int32) (l5 : Int32) (x : St) : Prop := (vp_in 0 (fN x 10) ∧ (((rA x 10 0) ≤ l5 → (∀ v873 : Int32, v873 = (l4 + l2) → rec68 l1 l2 l3 v873 x)) ∧ (¬ (rA x 10 0) ≤ l5 → ((40000 < (fI x 0 66) → j_Mod_write_135 post l1 l2 l3 l4 l5 x) ∧ (¬ 40000 < (fI x 0 66) → (((fI x 0 34) ≤ (l4 + l2) → j_Mod_write_128 post rec68 rec80 l1 l2 l3 l4 l5 (fI x 0 34) l4 l5 l3 x) ∧ (¬ (fI x 0 34) ≤ (l4 + l2) → j_Mod_write_128 post rec68 rec80 l1 l2 l3 l4 l5 (l4 + l2) l4 l5 l3 x)))))))
set_option maxHeartbeats 4000000 in
set_option maxRecDepth 100000 in
theorem t_Mod_write_80 {p : Program} {l : Launch} {e : Env} {R : Room} {s : State} {m : MethodId} {args : Array Value} {below : List Frame} {meth : Method} {c : Code} {cells slots : Nat} {Q : State → Prop} {dC : Nat → ClassId} {dI : Nat → Nat → Nat} {cI cB cJ cZ : ClassId} {A : Nat → Prop} {ad : Nat → Nat} {post : Int32 → St → Prop} {rec68 : Int32 → Int32 → Int32 → Int32 → St → Prop} {rec80 : Int32 → Int32 → Int32 → Int32 → Int32 → St → Prop} (hx : p.tables.exec = Jvm.exec) (hb : c.code = b_Mod_write) (hml : c.maxLocals = 7) (hown : s.vm.findClass R_Mod = some m.cls) (hT : ∀ w ∈ TG, w.before args s = true) (hK : va_K (dC, dI) CL (TY cI cB cJ cZ) s) (hN : NW s) (hA : ∀ q : Nat, s.heap.size ≤ q → A q) (hRc : cells ≤ R.cells) (hRs : slots ≤ R.slots) (hRf : 8 ≤ R.frames) (hRl : 193 ≤ R.locals) (hret : ∀ (r : Int32) (x : St) (H : Heap) (locs : List Loc) (pc : Nat) (ls : Array Slot), decode b_Mod_write pc = .ok (.ireturn, 1) → post r x → Wd dC dI cI cB cJ cZ ad stM kcM 115 A x H → va_S A s.heap H locs → W p l e R s m args below meth c H locs cells slots Q (F0 m pc ls [.int r])) (hrec68 : ∀ (l1 : Int32) (l2 : Int32) (l3 : Int32) (l4 : Int32) (x : St) (H : Heap) (locs : List Loc) (ls : Array Slot), rec68 l1 l2 l3 l4 x → Wd dC dI cI cB cJ cZ ad stM kcM 115 A x H → va_S A s.heap H locs → lv_has ls 7 [(0, .ref (ad 0)), (1, .int l1), (2, .int l2), (3, .int l3), (4, .int l4)] → W p l e R s m args below meth c H locs cells slots Q (F0 m 68 ls [])) (hrec80 : ∀ (l1 : Int32) (l2 : Int32) (l3 : Int32) (l4 : Int32) (l5 : Int32) (x : St) (H : Heap) (locs : List Loc) (ls : Array Slot), rec80 l1 l2 l3 l4 l5 x → Wd dC dI cI cB cJ cZ ad stM kcM 115 A x H → va_S A s.heap H locs → lv_has ls 7 [(0, .ref (ad 0)), (1, .int l1), (2, .int l2), (3, .int l3), (4, .int l4), (5, .int l5)] → W p l e R s m args below meth c H locs cells slots Q (F0 m 80 ls [])) : ∀ (l1 : Int32) (l2 : Int32) (l3 : Int32) (l4 : Int32) (l5 : Int32) (x : St) (H : Heap) (locs : List Loc) (ls : Array Slot), j_Mod_write_80 post rec68 rec80 l1 l2 l3 l4 l5 x → Wd dC dI cI cB cJ cZ ad stM kcM 115 A x H → va_S A s.heap H locs → lv_has ls 7 [(0, .ref (ad 0)), (1, .int l1), (2, .int l2), (3, .int l3), (4, .int l4), (5, .int l5)] → W p l e R s m args below meth c H locs cells slots Q (F0 m 80 ls []) := by
  intro l1 l2 l3 l4 l5 x H locs ls  hw hW hS hl
  unfold j_Mod_write_80 at hw
  refine lv_iload hx hb d_Mod_write_80 (lv_at hl 5 rfl) ?_
  refine lv_aload_n hx hb d_Mod_write_82 rfl (lv_at hl 0 rfl) ?_
  refine w_getf (q := 10) (k := 12) (t := 12) (C := R_Mod) (T := F_Mod) (N := 167) hx hb hT hown hK hW ko_0.1 ko_0.2 (by decide) in_Mod rfl rfl (by decide) rfl fr_Mod_12 w_8_192 d_Mod_write_83 rfl ?_
  refine lv_iconst (v := 0) hx hb d_Mod_write_86 (by decide) ?_
  obtain ⟨hi, hw⟩ := hw
  refine w_iald (o := 10) hx hb hK hW ko_10.1 ko_10.2 hi d_Mod_write_87 ?_
  refine lv_icmp_ge (tgt := 146) hx hb d_Mod_write_88 (by decide) (fun c872 => ?_) (fun c872 => ?_)
  · have hw := hw.1 c872
    refine lv_iload hx hb d_Mod_write_146 (lv_at hl 4 rfl) ?_
    refine lv_iload_n hx hb d_Mod_write_148 rfl (lv_at hl 2 rfl) ?_
    refine lv_iadd hx hb d_Mod_write_149 ?_
    refine lv_topi (fun v873 ev873 => ?_)
    have hw := hw v873 ev873
    refine lv_istore (lv' := [(4, .int v873), (0, .ref (ad 0)), (1, .int l1), (2, .int l2), (3, .int l3), (5, .int l5)]) hx hb d_Mod_write_150 hl (by decide) rfl (fun ls hl => ?_)
    refine lv_goto (tgt := 68) hx hb d_Mod_write_152 (by decide) ?_
    exact hrec68 l1 l2 l3 v873 x H locs ls  hw hW hS (lv_sub hl [1, 2, 3, 4, 0] rfl)
  · have hw := hw.2 c872
    refine lv_aload_n hx hb d_Mod_write_91 rfl (lv_at hl 0 rfl) ?_
    refine w_geti (k := 66) (t := 12) (C := R_Mod) (T := F_Mod) (N := 167) hx hb hT hown hK hW ko_0.1 ko_0.2 (by decide) in_Mod rfl rfl (by decide) rfl fr_Mod_66 w_9_6 d_Mod_write_92 ?_
    refine lv_ldc hx hb hown (hT _ w_8_175) d_Mod_write_95 ?_
    refine lv_icmp_gt (tgt := 135) hx hb d_Mod_write_97 (by decide) (fun c874 => ?_) (fun c874 => ?_)
    · have hw := hw.1 c874
      exact t_Mod_write_135 hx hb hml hown hT hK hN hA hRc hRs hRf hRl hret  l1 l2 l3 l4 l5 x H locs ls  hw hW hS (lv_sub hl [0, 1, 2, 3, 4, 5] rfl)
    · have hw := hw.2 c874
      refine lv_aload_n hx hb d_Mod_write_100 rfl (lv_at hl 0 rfl) ?_
      refine lv_iload_n hx hb d_Mod_write_101 rfl (lv_at hl 3 rfl) ?_
      refine lv_iload hx hb d_Mod_write_102 (lv_at hl 5 rfl) ?_
      refine lv_iload hx hb d_Mod_write_104 (lv_at hl 4 rfl) ?_
      refine lv_iload hx hb d_Mod_write_106 (lv_at hl 4 rfl) ?_
      refine lv_iload_n hx hb d_Mod_write_108 rfl (lv_at hl 2 rfl) ?_
      refine lv_iadd hx hb d_Mod_write_109 ?_
      refine lv_aload_n hx hb d_Mod_write_110 rfl (lv_at hl 0 rfl) ?_
      refine w_geti (k := 34) (t := 12) (C := R_Mod) (T := F_Mod) (N := 167) hx hb hT hown hK hW ko_0.1 ko_0.2 (by decide) in_Mod rfl rfl (by decide) rfl fr_Mod_34 w_8_214 d_Mod_write_111 ?_
      refine lv_icmp_ge (tgt := 124) hx hb d_Mod_write_114 (by decide) (fun c875 => ?_) (fun c875 => ?_)
      · have hw := hw.1 c875
        refine lv_aload_n hx hb d_Mod_write_124 rfl (lv_at hl 0 rfl) ?_
        refine w_geti (k := 34) (t := 12) (C := R_Mod) (T := F_Mod) (N := 167) hx hb hT hown hK hW ko_0.1 ko_0.2 (by decide) in_Mod rfl rfl (by decide) rfl fr_Mod_34 w_8_214 d_Mod_write_125 ?_
        exact t_Mod_write_128 hx hb hml hown hT hK hN hA hRc hRs hRf hRl hret hrec68 hrec80 l1 l2 l3 l4 l5 (fI x 0 34) l4 l5 l3 x H locs ls  hw hW hS (lv_sub hl [0, 1, 2, 3, 4, 5] rfl)
      · have hw := hw.2 c875
        refine lv_iload hx hb d_Mod_write_117 (lv_at hl 4 rfl) ?_
        refine lv_iload_n hx hb d_Mod_write_119 rfl (lv_at hl 2 rfl) ?_
        refine lv_iadd hx hb d_Mod_write_120 ?_
        refine lv_goto (tgt := 128) hx hb d_Mod_write_121 (by decide) ?_
        exact t_Mod_write_128 hx hb hml hown hT hK hN hA hRc hRs hRf hRl hret hrec68 hrec80 l1 l2 l3 l4 l5 (l4 + l2) l4 l5 l3 x H locs ls  hw hW hS (lv_sub hl [0, 1, 2, 3, 4, 5] rfl)
def wl_Mod_write_80 (post : Int32 → St → Prop) (rec68 : Int32 → Int32 → Int32 → Int32 → St → Prop) : Nat → Int32 → Int32 → Int32 → Int32 → Int32 → St → Prop
  | 0 => fun _ _ _ _ _ _ => False
  | n + 1 => j_Mod_write_80 post rec68 (wl_Mod_write_80 post rec68 n)
set_option maxHeartbeats 4000000 in
set_option maxRecDepth 100000 in
theorem tl_Mod_write_80 {p : Program} {l : Launch} {e : Env} {R : Room} {s : State} {m : MethodId} {args : Array Value} {below : List Frame} {meth : Method} {c : Code} {cells slots : Nat} {Q : State → Prop} {dC : Nat → ClassId} {dI : Nat → Nat → Nat} {cI cB cJ cZ : ClassId} {A : Nat → Prop} {ad : Nat → Nat} {post : Int32 → St → Prop} {rec68 : Int32 → Int32 → Int32 → Int32 → St → Prop} (hx : p.tables.exec = Jvm.exec) (hb : c.code = b_Mod_write) (hml : c.maxLocals = 7) (hown : s.vm.findClass R_Mod = some m.cls) (hT : ∀ w ∈ TG, w.before args s = true) (hK : va_K (dC, dI) CL (TY cI cB cJ cZ) s) (hN : NW s) (hA : ∀ q : Nat, s.heap.size ≤ q → A q) (hRc : cells ≤ R.cells) (hRs : slots ≤ R.slots) (hRf : 8 ≤ R.frames) (hRl : 193 ≤ R.locals) (hret : ∀ (r : Int32) (x : St) (H : Heap) (locs : List Loc) (pc : Nat) (ls : Array Slot), decode b_Mod_write pc = .ok (.ireturn, 1) → post r x → Wd dC dI cI cB cJ cZ ad stM kcM 115 A x H → va_S A s.heap H locs → W p l e R s m args below meth c H locs cells slots Q (F0 m pc ls [.int r])) (hrec68 : ∀ (l1 : Int32) (l2 : Int32) (l3 : Int32) (l4 : Int32) (x : St) (H : Heap) (locs : List Loc) (ls : Array Slot), rec68 l1 l2 l3 l4 x → Wd dC dI cI cB cJ cZ ad stM kcM 115 A x H → va_S A s.heap H locs → lv_has ls 7 [(0, .ref (ad 0)), (1, .int l1), (2, .int l2), (3, .int l3), (4, .int l4)] → W p l e R s m args below meth c H locs cells slots Q (F0 m 68 ls [])) : ∀ n : Nat, ∀ (l1 : Int32) (l2 : Int32) (l3 : Int32) (l4 : Int32) (l5 : Int32) (x : St) (H : Heap) (locs : List Loc) (ls : Array Slot), wl_Mod_write_80 post rec68 n l1 l2 l3 l4 l5 x → Wd dC dI cI cB cJ cZ ad stM kcM 115 A x H → va_S A s.heap H locs → lv_has ls 7 [(0, .ref (ad 0)), (1, .int l1), (2, .int l2), (3, .int l3), (4, .int l4), (5, .int l5)] → W p l e R s m args below meth c H locs cells slots Q (F0 m 80 ls []) := by
  intro n
  induction n with
  | zero => intro l1 l2 l3 l4 l5 x H locs ls  hw; exact hw.elim
  | succ n ih => intro l1 l2 l3 l4 l5 x H locs ls  hw hW hS hl; exact t_Mod_write_80 hx hb hml hown hT hK hN hA hRc hRs hRf hRl hret hrec68 ih l1 l2 l3 l4 l5 x H locs ls  hw hW hS hl
set_option maxRecDepth 100000 in
def j_Mod_write_68 (post : Int32 → St → Prop) (rec68 : Int32 → Int32 → Int32 → Int32 → St → Prop) (l1 : Int32) (l2 : Int32) (l3 : Int32) (l4 : Int32) (x : St) : Prop := (((fI x 0 34) ≤ l4 → wp_Mod_putFooter (fun (x877 : St) => (((((fI x877 0 66) + (fI x877 0 64)) + 12) ≤ 40000 → wp_Mod_addSheet (fun (x879 : St) => (∀ v880 : Int32, v880 = (fI x879 0 64) → wp_Mod_check (fun (r882 : Int32) (x881 : St) => ∃ n : Nat, wl_Mod_write_204 post n l1 l2 l3 v880 r882 0 x881) 39 0 v880 x879))  x877) ∧ (¬ (((fI x877 0 66) + (fI x877 0 64)) + 12) ≤ 40000 → post (-1) x877))) l2 x) ∧ (¬ (fI x 0 34) ≤ l4 → ∃ n : Nat, wl_Mod_write_80 post rec68 n l1 l2 l3 l4 0 x))
set_option maxHeartbeats 4000000 in
set_option maxRecDepth 100000 in
theorem t_Mod_write_68 {p : Program} {l : Launch} {e : Env} {R : Room} {s : State} {m : MethodId} {args : Array Value} {below : List Frame} {meth : Method} {c : Code} {cells slots : Nat} {Q : State → Prop} {dC : Nat → ClassId} {dI : Nat → Nat → Nat} {cI cB cJ cZ : ClassId} {A : Nat → Prop} {ad : Nat → Nat} {post : Int32 → St → Prop} {rec68 : Int32 → Int32 → Int32 → Int32 → St → Prop} (hx : p.tables.exec = Jvm.exec) (hb : c.code = b_Mod_write) (hml : c.maxLocals = 7) (hown : s.vm.findClass R_Mod = some m.cls) (hT : ∀ w ∈ TG, w.before args s = true) (hK : va_K (dC, dI) CL (TY cI cB cJ cZ) s) (hN : NW s) (hA : ∀ q : Nat, s.heap.size ≤ q → A q) (hRc : cells ≤ R.cells) (hRs : slots ≤ R.slots) (hRf : 8 ≤ R.frames) (hRl : 193 ≤ R.locals) (hret : ∀ (r : Int32) (x : St) (H : Heap) (locs : List Loc) (pc : Nat) (ls : Array Slot), decode b_Mod_write pc = .ok (.ireturn, 1) → post r x → Wd dC dI cI cB cJ cZ ad stM kcM 115 A x H → va_S A s.heap H locs → W p l e R s m args below meth c H locs cells slots Q (F0 m pc ls [.int r])) (hrec68 : ∀ (l1 : Int32) (l2 : Int32) (l3 : Int32) (l4 : Int32) (x : St) (H : Heap) (locs : List Loc) (ls : Array Slot), rec68 l1 l2 l3 l4 x → Wd dC dI cI cB cJ cZ ad stM kcM 115 A x H → va_S A s.heap H locs → lv_has ls 7 [(0, .ref (ad 0)), (1, .int l1), (2, .int l2), (3, .int l3), (4, .int l4)] → W p l e R s m args below meth c H locs cells slots Q (F0 m 68 ls [])) : ∀ (l1 : Int32) (l2 : Int32) (l3 : Int32) (l4 : Int32) (x : St) (H : Heap) (locs : List Loc) (ls : Array Slot), j_Mod_write_68 post rec68 l1 l2 l3 l4 x → Wd dC dI cI cB cJ cZ ad stM kcM 115 A x H → va_S A s.heap H locs → lv_has ls 7 [(0, .ref (ad 0)), (1, .int l1), (2, .int l2), (3, .int l3), (4, .int l4)] → W p l e R s m args below meth c H locs cells slots Q (F0 m 68 ls []) := by
  intro l1 l2 l3 l4 x H locs ls  hw hW hS hl
  unfold j_Mod_write_68 at hw
  refine lv_iload hx hb d_Mod_write_68 (lv_at hl 4 rfl) ?_
  refine lv_aload_n hx hb d_Mod_write_70 rfl (lv_at hl 0 rfl) ?_
  refine w_geti (k := 34) (t := 12) (C := R_Mod) (T := F_Mod) (N := 167) hx hb hT hown hK hW ko_0.1 ko_0.2 (by decide) in_Mod rfl rfl (by decide) rfl fr_Mod_34 w_8_214 d_Mod_write_71 ?_
  refine lv_icmp_ge (tgt := 155) hx hb d_Mod_write_74 (by decide) (fun c876 => ?_) (fun c876 => ?_)
  · have hw := hw.1 c876
    refine lv_aload_n hx hb d_Mod_write_155 rfl (lv_at hl 0 rfl) ?_
    refine lv_iload_n hx hb d_Mod_write_156 rfl (lv_at hl 2 rfl) ?_
    have hF := hW.free hS hA
    refine va_callv (va_runV (C := R_Mod) (As := [.int l2]) (rest := []) ⟨hx, hb, hml, hown, hT⟩ (k_Mod_putFooter l dC dI cI cB cJ cZ ad H.size l2 x  hw) ⟨callB_of 1 hT (gw_in w_12_63) rfl rfl rfl (hT _ w_1_15) (hT _ w_12_60) (by decide +kernel) ⟨Nat.le_trans (by decide) hRf, Nat.le_trans (by decide) hRl⟩, hT _ w_12_62, hT _ ws_177⟩ ⟨PW.blind, va_recv hK hW.1 (ci := 12) (q0 := 0) rfl (pic_obj ko_0.1 ko_0.2 (by decide)), PW.at _ hW hK hN⟩ rfl rfl hl.1 rfl (lv_room (Nat.le_of_ble_eq_true rfl)) d_Mod_write_157 ⟨hRc, hRs⟩) hS (fun q _ h => hF q h) hF (fun  x877 t H locs ht hvm hw hB hz1 hk1 hS => ?_)
    have hW := Wd.back hB ht hF
    clear hB ht hF hz1 hk1 hvm
    refine lv_aload_n hx hb d_Mod_write_160 rfl (lv_at hl 0 rfl) ?_
    refine w_geti (k := 66) (t := 12) (C := R_Mod) (T := F_Mod) (N := 167) hx hb hT hown hK hW ko_0.1 ko_0.2 (by decide) in_Mod rfl rfl (by decide) rfl fr_Mod_66 w_9_6 d_Mod_write_161 ?_
    refine lv_aload_n hx hb d_Mod_write_164 rfl (lv_at hl 0 rfl) ?_
    refine w_geti (k := 64) (t := 12) (C := R_Mod) (T := F_Mod) (N := 167) hx hb hT hown hK hW ko_0.1 ko_0.2 (by decide) in_Mod rfl rfl (by decide) rfl fr_Mod_64 w_9_4 d_Mod_write_165 ?_
    refine lv_iadd hx hb d_Mod_write_168 ?_
    refine lv_bipush (v := 12) hx hb d_Mod_write_169 (by decide) ?_
    refine lv_iadd hx hb d_Mod_write_171 ?_
    refine lv_ldc hx hb hown (hT _ w_8_175) d_Mod_write_172 ?_
    refine lv_icmp_le (tgt := 179) hx hb d_Mod_write_174 (by decide) (fun c878 => ?_) (fun c878 => ?_)
    · have hw := hw.1 c878
      refine lv_aload_n hx hb d_Mod_write_179 rfl (lv_at hl 0 rfl) ?_
      have hF := hW.free hS hA
      refine va_callv (va_runV (C := R_Mod) (As := []) (rest := []) ⟨hx, hb, hml, hown, hT⟩ (k_Mod_addSheet l dC dI cI cB cJ cZ ad H.size  x877  hw) ⟨callB_of 0 hT (gw_in w_12_59) rfl rfl rfl (hT _ w_1_15) (hT _ w_12_56) (by decide +kernel) ⟨Nat.le_trans (by decide) hRf, Nat.le_trans (by decide) hRl⟩, hT _ w_12_58, hT _ ws_176⟩ ⟨PW.blind, va_recv hK hW.1 (ci := 12) (q0 := 0) rfl (pic_obj ko_0.1 ko_0.2 (by decide)), PW.at _ hW hK hN⟩ rfl rfl hl.1 rfl (lv_room (Nat.le_of_ble_eq_true rfl)) d_Mod_write_180 ⟨hRc, hRs⟩) hS (fun q _ h => hF q h) hF (fun  x879 t H locs ht hvm hw hB hz1 hk1 hS => ?_)
      have hW := Wd.back hB ht hF
      clear hB ht hF hz1 hk1 hvm
      refine lv_aload_n hx hb d_Mod_write_183 rfl (lv_at hl 0 rfl) ?_
      refine w_geti (k := 64) (t := 12) (C := R_Mod) (T := F_Mod) (N := 167) hx hb hT hown hK hW ko_0.1 ko_0.2 (by decide) in_Mod rfl rfl (by decide) rfl fr_Mod_64 w_9_4 d_Mod_write_184 ?_
      refine lv_topi (fun v880 ev880 => ?_)
      have hw := hw v880 ev880
      refine lv_istore (lv' := [(4, .int v880), (0, .ref (ad 0)), (1, .int l1), (2, .int l2), (3, .int l3)]) hx hb d_Mod_write_187 hl (by decide) rfl (fun ls hl => ?_)
      refine lv_aload_n hx hb d_Mod_write_189 rfl (lv_at hl 1 rfl) ?_
      refine w_getf (q := 39) (k := 60) (t := 12) (C := R_Mod) (T := F_Mod) (N := 167) hx hb hT hown hK hW ko_0.1 ko_0.2 (by decide) in_Mod rfl rfl (by decide) rfl fr_Mod_60 w_9_0 d_Mod_write_190 rfl ?_
      refine lv_iconst (v := 0) hx hb d_Mod_write_193 (by decide) ?_
      refine lv_iload hx hb d_Mod_write_194 (lv_at hl 0 rfl) ?_
      have hF := hW.free hS hA
      refine va_calli (va_runS (As := [.ref (ad 39), .int 0, .int v880]) (rest := []) ⟨hx, hb, hml, hown, hT⟩ (k_Mod_check l dC dI cI cB cJ cZ ad H.size 39 0 v880 x879 ko_39 hw) ⟨callB_of 3 hT (gw_in w_12_54) rfl rfl rfl (hT _ w_1_15) (hT _ w_12_52) (by decide +kernel) ⟨Nat.le_trans (by decide) hRf, Nat.le_trans (by decide) hRl⟩, hT _ w_12_53⟩ ⟨PW.blind, PW.at _ hW hK hN⟩ rfl rfl hl.1 rfl (lv_room (Nat.le_of_ble_eq_true rfl)) d_Mod_write_196 ⟨hRc, hRs⟩) hS (fun q _ h => hF q h) hF (fun r882 x881 t H locs ht hvm hw hB hz1 hk1 hS => ?_)
      have hW := Wd.back hB ht hF
      clear hB ht hF hz1 hk1 hvm
      refine lv_istore (lv' := [(5, .int r882), (4, .int v880), (0, .ref (ad 0)), (1, .int l1), (2, .int l2), (3, .int l3)]) hx hb d_Mod_write_199 hl (by decide) rfl (fun ls hl => ?_)
      refine lv_iconst (v := 0) hx hb d_Mod_write_201 (by decide) ?_
      refine lv_istore (lv' := [(6, .int 0), (5, .int r882), (4, .int v880), (0, .ref (ad 0)), (1, .int l1), (2, .int l2), (3, .int l3)]) hx hb d_Mod_write_202 hl (by decide) rfl (fun ls hl => ?_)
      obtain ⟨n, hw⟩ := hw
      exact tl_Mod_write_204 hx hb hml hown hT hK hN hA hRc hRs hRf hRl hret  n l1 l2 l3 v880 r882 0 x881 H locs ls  hw hW hS (lv_sub hl [3, 4, 5, 6, 2, 1, 0] rfl)
    · have hw := hw.2 c878
      refine lv_iconst (v := (-1)) hx hb d_Mod_write_177 (by decide) ?_
      exact hret (-1) x877 H locs 178 ls d_Mod_write_178 hw hW hS
  · have hw := hw.2 c876
    refine lv_iconst (v := 0) hx hb d_Mod_write_77 (by decide) ?_
    refine lv_istore (lv' := [(5, .int 0), (0, .ref (ad 0)), (1, .int l1), (2, .int l2), (3, .int l3), (4, .int l4)]) hx hb d_Mod_write_78 hl (by decide) rfl (fun ls hl => ?_)
    obtain ⟨n, hw⟩ := hw
    exact tl_Mod_write_80 hx hb hml hown hT hK hN hA hRc hRs hRf hRl hret hrec68 n l1 l2 l3 l4 0 x H locs ls  hw hW hS (lv_sub hl [1, 2, 3, 4, 5, 0] rfl)
def wl_Mod_write_68 (post : Int32 → St → Prop) : Nat → Int32 → Int32 → Int32 → Int32 → St → Prop
  | 0 => fun _ _ _ _ _ => False
  | n + 1 => j_Mod_write_68 post (wl_Mod_write_68 post n)
set_option maxHeartbeats 4000000 in
set_option maxRecDepth 100000 in
theorem tl_Mod_write_68 {p : Program} {l : Launch} {e : Env} {R : Room} {s : State} {m : MethodId} {args : Array Value} {below : List Frame} {meth : Method} {c : Code} {cells slots : Nat} {Q : State → Prop} {dC : Nat → ClassId} {dI : Nat → Nat → Nat} {cI cB cJ cZ : ClassId} {A : Nat → Prop} {ad : Nat → Nat} {post : Int32 → St → Prop} (hx : p.tables.exec = Jvm.exec) (hb : c.code = b_Mod_write) (hml : c.maxLocals = 7) (hown : s.vm.findClass R_Mod = some m.cls) (hT : ∀ w ∈ TG, w.before args s = true) (hK : va_K (dC, dI) CL (TY cI cB cJ cZ) s) (hN : NW s) (hA : ∀ q : Nat, s.heap.size ≤ q → A q) (hRc : cells ≤ R.cells) (hRs : slots ≤ R.slots) (hRf : 8 ≤ R.frames) (hRl : 193 ≤ R.locals) (hret : ∀ (r : Int32) (x : St) (H : Heap) (locs : List Loc) (pc : Nat) (ls : Array Slot), decode b_Mod_write pc = .ok (.ireturn, 1) → post r x → Wd dC dI cI cB cJ cZ ad stM kcM 115 A x H → va_S A s.heap H locs → W p l e R s m args below meth c H locs cells slots Q (F0 m pc ls [.int r]))  : ∀ n : Nat, ∀ (l1 : Int32) (l2 : Int32) (l3 : Int32) (l4 : Int32) (x : St) (H : Heap) (locs : List Loc) (ls : Array Slot), wl_Mod_write_68 post n l1 l2 l3 l4 x → Wd dC dI cI cB cJ cZ ad stM kcM 115 A x H → va_S A s.heap H locs → lv_has ls 7 [(0, .ref (ad 0)), (1, .int l1), (2, .int l2), (3, .int l3), (4, .int l4)] → W p l e R s m args below meth c H locs cells slots Q (F0 m 68 ls []) := by
  intro n
  induction n with
  | zero => intro l1 l2 l3 l4 x H locs ls  hw; exact hw.elim
  | succ n ih => intro l1 l2 l3 l4 x H locs ls  hw hW hS hl; exact t_Mod_write_68 hx hb hml hown hT hK hN hA hRc hRs hRf hRl hret  ih l1 l2 l3 l4 x H locs ls  hw hW hS hl
set_option maxRecDepth 100000 in
def j_Mod_write_52 (post : Int32 → St → Prop) (l1 : Int32) (l2 : Int32) (x : St) : Prop := post (-1) x
set_option maxHeartbeats 4000000 in
set_option maxRecDepth 100000 in
theorem t_Mod_write_52 {p : Program} {l : Launch} {e : Env} {R : Room} {s : State} {m : MethodId} {args : Array Value} {below : List Frame} {meth : Method} {c : Code} {cells slots : Nat} {Q : State → Prop} {dC : Nat → ClassId} {dI : Nat → Nat → Nat} {cI cB cJ cZ : ClassId} {A : Nat → Prop} {ad : Nat → Nat} {post : Int32 → St → Prop} (hx : p.tables.exec = Jvm.exec) (hb : c.code = b_Mod_write) (hml : c.maxLocals = 7) (hown : s.vm.findClass R_Mod = some m.cls) (hT : ∀ w ∈ TG, w.before args s = true) (hK : va_K (dC, dI) CL (TY cI cB cJ cZ) s) (hN : NW s) (hA : ∀ q : Nat, s.heap.size ≤ q → A q) (hRc : cells ≤ R.cells) (hRs : slots ≤ R.slots) (hRf : 8 ≤ R.frames) (hRl : 193 ≤ R.locals) (hret : ∀ (r : Int32) (x : St) (H : Heap) (locs : List Loc) (pc : Nat) (ls : Array Slot), decode b_Mod_write pc = .ok (.ireturn, 1) → post r x → Wd dC dI cI cB cJ cZ ad stM kcM 115 A x H → va_S A s.heap H locs → W p l e R s m args below meth c H locs cells slots Q (F0 m pc ls [.int r]))  : ∀ (l1 : Int32) (l2 : Int32) (x : St) (H : Heap) (locs : List Loc) (ls : Array Slot), j_Mod_write_52 post l1 l2 x → Wd dC dI cI cB cJ cZ ad stM kcM 115 A x H → va_S A s.heap H locs → lv_has ls 7 [(0, .ref (ad 0)), (1, .int l1), (2, .int l2)] → W p l e R s m args below meth c H locs cells slots Q (F0 m 52 ls []) := by
  intro l1 l2 x H locs ls  hw hW hS hl
  unfold j_Mod_write_52 at hw
  refine lv_iconst (v := (-1)) hx hb d_Mod_write_52 (by decide) ?_
  exact hret (-1) x H locs 53 ls d_Mod_write_53 hw hW hS
set_option maxRecDepth 100000 in
def wp_Mod_write (post : Int32 → St → Prop) (l1 : Int32) (l2 : Int32) (x : St) : Prop := (∀ x883 : St, x883 = setI x 0 0 0 → (((fI x883 0 14) = 0 → j_Mod_write_52 post l1 l2 x883) ∧ (¬ (fI x883 0 14) = 0 → ((l1 < 1 → j_Mod_write_52 post l1 l2 x883) ∧ (¬ l1 < 1 → ((1000 < l1 → j_Mod_write_52 post l1 l2 x883) ∧ (¬ 1000 < l1 → ((l2 < 1 → j_Mod_write_52 post l1 l2 x883) ∧ (¬ l2 < 1 → ((2000 < l2 → j_Mod_write_52 post l1 l2 x883) ∧ (¬ 2000 < l2 → ((¬ l2 = 0) ∧ ((((((fI x883 0 34) + l2) - 1) / l2) ≤ 500 → (∀ x890 : St, x890 = setI x883 0 66 0 → wp_Mod_addFrame (fun (x891 : St) => ∃ n : Nat, wl_Mod_write_68 post n l1 l2 0 0 x891)  x890)) ∧ (¬ ((((fI x883 0 34) + l2) - 1) / l2) ≤ 500 → j_Mod_write_52 post l1 l2 x883))))))))))))))
set_option maxHeartbeats 4000000 in
set_option maxRecDepth 100000 in
theorem t_Mod_write_e {p : Program} {l : Launch} {e : Env} {R : Room} {s : State} {m : MethodId} {args : Array Value} {below : List Frame} {meth : Method} {c : Code} {cells slots : Nat} {Q : State → Prop} {dC : Nat → ClassId} {dI : Nat → Nat → Nat} {cI cB cJ cZ : ClassId} {A : Nat → Prop} {ad : Nat → Nat} {post : Int32 → St → Prop} (hx : p.tables.exec = Jvm.exec) (hb : c.code = b_Mod_write) (hml : c.maxLocals = 7) (hown : s.vm.findClass R_Mod = some m.cls) (hT : ∀ w ∈ TG, w.before args s = true) (hK : va_K (dC, dI) CL (TY cI cB cJ cZ) s) (hN : NW s) (hA : ∀ q : Nat, s.heap.size ≤ q → A q) (hRc : cells ≤ R.cells) (hRs : slots ≤ R.slots) (hRf : 8 ≤ R.frames) (hRl : 193 ≤ R.locals) (hret : ∀ (r : Int32) (x : St) (H : Heap) (locs : List Loc) (pc : Nat) (ls : Array Slot), decode b_Mod_write pc = .ok (.ireturn, 1) → post r x → Wd dC dI cI cB cJ cZ ad stM kcM 115 A x H → va_S A s.heap H locs → W p l e R s m args below meth c H locs cells slots Q (F0 m pc ls [.int r])) : ∀ (l1 : Int32) (l2 : Int32) (x : St) (H : Heap) (locs : List Loc) (ls : Array Slot), wp_Mod_write post l1 l2 x → Wd dC dI cI cB cJ cZ ad stM kcM 115 A x H → va_S A s.heap H locs → lv_has ls 7 [(0, .ref (ad 0)), (1, .int l1), (2, .int l2)] → W p l e R s m args below meth c H locs cells slots Q (F0 m 0 ls []) := by
  intro l1 l2 x H locs ls  hw hW hS hl
  unfold wp_Mod_write at hw
  refine lv_aload_n hx hb d_Mod_write_0 rfl (lv_at hl 0 rfl) ?_
  refine lv_iconst (v := 0) hx hb d_Mod_write_1 (by decide) ?_
  refine w_puti (ty := .int) (k := 0) (t := 12) (C := R_Mod) (T := F_Mod) (N := 167) hx hb hT hown hK hW hS ko_0.1 ko_0.2 (by decide) in_Mod t_Mod t_Mod_ok n_Mod rfl rfl (by decide) rfl fr_Mod_0 w_8_180 (by decide +kernel) rfl rfl d_Mod_write_2 (fun H locs hW hS => ?_)
  obtain ⟨x883, ex883⟩ : ∃ y : St, y = setI x 0 0 0 := ⟨_, rfl⟩
  rw [← ex883] at hW
  have hw := hw x883 ex883
  refine lv_aload_n hx hb d_Mod_write_5 rfl (lv_at hl 0 rfl) ?_
  refine w_geti (k := 14) (t := 12) (C := R_Mod) (T := F_Mod) (N := 167) hx hb hT hown hK hW ko_0.1 ko_0.2 (by decide) in_Mod rfl rfl (by decide) rfl fr_Mod_14 w_8_194 d_Mod_write_6 ?_
  refine lv_if_eq (tgt := 52) hx hb d_Mod_write_9 (by decide) (fun c884 => ?_) (fun c884 => ?_)
  · have hw := hw.1 c884
    exact t_Mod_write_52 hx hb hml hown hT hK hN hA hRc hRs hRf hRl hret  l1 l2 x883 H locs ls  hw hW hS (lv_sub hl [0, 1, 2] rfl)
  · have hw := hw.2 c884
    refine lv_iload_n hx hb d_Mod_write_12 rfl (lv_at hl 1 rfl) ?_
    refine lv_iconst (v := 1) hx hb d_Mod_write_13 (by decide) ?_
    refine lv_icmp_lt (tgt := 52) hx hb d_Mod_write_14 (by decide) (fun c885 => ?_) (fun c885 => ?_)
    · have hw := hw.1 c885
      exact t_Mod_write_52 hx hb hml hown hT hK hN hA hRc hRs hRf hRl hret  l1 l2 x883 H locs ls  hw hW hS (lv_sub hl [0, 1, 2] rfl)
    · have hw := hw.2 c885
      refine lv_iload_n hx hb d_Mod_write_17 rfl (lv_at hl 1 rfl) ?_
      refine lv_sipush (v := 1000) hx hb d_Mod_write_18 (by decide) ?_
      refine lv_icmp_gt (tgt := 52) hx hb d_Mod_write_21 (by decide) (fun c886 => ?_) (fun c886 => ?_)
      · have hw := hw.1 c886
        exact t_Mod_write_52 hx hb hml hown hT hK hN hA hRc hRs hRf hRl hret  l1 l2 x883 H locs ls  hw hW hS (lv_sub hl [0, 1, 2] rfl)
      · have hw := hw.2 c886
        refine lv_iload_n hx hb d_Mod_write_24 rfl (lv_at hl 2 rfl) ?_
        refine lv_iconst (v := 1) hx hb d_Mod_write_25 (by decide) ?_
        refine lv_icmp_lt (tgt := 52) hx hb d_Mod_write_26 (by decide) (fun c887 => ?_) (fun c887 => ?_)
        · have hw := hw.1 c887
          exact t_Mod_write_52 hx hb hml hown hT hK hN hA hRc hRs hRf hRl hret  l1 l2 x883 H locs ls  hw hW hS (lv_sub hl [0, 1, 2] rfl)
        · have hw := hw.2 c887
          refine lv_iload_n hx hb d_Mod_write_29 rfl (lv_at hl 2 rfl) ?_
          refine lv_sipush (v := 2000) hx hb d_Mod_write_30 (by decide) ?_
          refine lv_icmp_gt (tgt := 52) hx hb d_Mod_write_33 (by decide) (fun c888 => ?_) (fun c888 => ?_)
          · have hw := hw.1 c888
            exact t_Mod_write_52 hx hb hml hown hT hK hN hA hRc hRs hRf hRl hret  l1 l2 x883 H locs ls  hw hW hS (lv_sub hl [0, 1, 2] rfl)
          · have hw := hw.2 c888
            refine lv_aload_n hx hb d_Mod_write_36 rfl (lv_at hl 0 rfl) ?_
            refine w_geti (k := 34) (t := 12) (C := R_Mod) (T := F_Mod) (N := 167) hx hb hT hown hK hW ko_0.1 ko_0.2 (by decide) in_Mod rfl rfl (by decide) rfl fr_Mod_34 w_8_214 d_Mod_write_37 ?_
            refine lv_iload_n hx hb d_Mod_write_40 rfl (lv_at hl 2 rfl) ?_
            refine lv_iadd hx hb d_Mod_write_41 ?_
            refine lv_iconst (v := 1) hx hb d_Mod_write_42 (by decide) ?_
            refine lv_isub hx hb d_Mod_write_43 ?_
            refine lv_iload_n hx hb d_Mod_write_44 rfl (lv_at hl 2 rfl) ?_
            obtain ⟨hz, hw⟩ := hw
            refine lv_idiv hx hb d_Mod_write_45 hz ?_
            refine lv_sipush (v := 500) hx hb d_Mod_write_46 (by decide) ?_
            refine lv_icmp_le (tgt := 54) hx hb d_Mod_write_49 (by decide) (fun c889 => ?_) (fun c889 => ?_)
            · have hw := hw.1 c889
              refine lv_aload_n hx hb d_Mod_write_54 rfl (lv_at hl 0 rfl) ?_
              refine lv_iconst (v := 0) hx hb d_Mod_write_55 (by decide) ?_
              refine w_puti (ty := .int) (k := 66) (t := 12) (C := R_Mod) (T := F_Mod) (N := 167) hx hb hT hown hK hW hS ko_0.1 ko_0.2 (by decide) in_Mod t_Mod t_Mod_ok n_Mod rfl rfl (by decide) rfl fr_Mod_66 w_9_6 (by decide +kernel) rfl rfl d_Mod_write_56 (fun H locs hW hS => ?_)
              obtain ⟨x890, ex890⟩ : ∃ y : St, y = setI x883 0 66 0 := ⟨_, rfl⟩
              rw [← ex890] at hW
              have hw := hw x890 ex890
              refine lv_aload_n hx hb d_Mod_write_59 rfl (lv_at hl 0 rfl) ?_
              have hF := hW.free hS hA
              refine va_callv (va_runV (C := R_Mod) (As := []) (rest := []) ⟨hx, hb, hml, hown, hT⟩ (k_Mod_addFrame l dC dI cI cB cJ cZ ad H.size  x890  hw) ⟨callB_of 0 hT (gw_in w_11_138) rfl rfl rfl (hT _ w_1_15) (hT _ w_11_135) (by decide +kernel) ⟨Nat.le_trans (by decide) hRf, Nat.le_trans (by decide) hRl⟩, hT _ w_11_137, hT _ ws_139⟩ ⟨PW.blind, va_recv hK hW.1 (ci := 12) (q0 := 0) rfl (pic_obj ko_0.1 ko_0.2 (by decide)), PW.at _ hW hK hN⟩ rfl rfl hl.1 rfl (lv_room (Nat.le_of_ble_eq_true rfl)) d_Mod_write_60 ⟨hRc, hRs⟩) hS (fun q _ h => hF q h) hF (fun  x891 t H locs ht hvm hw hB hz1 hk1 hS => ?_)
              have hW := Wd.back hB ht hF
              clear hB ht hF hz1 hk1 hvm
              refine lv_iconst (v := 0) hx hb d_Mod_write_63 (by decide) ?_
              refine lv_istore_n (lv' := [(3, .int 0), (0, .ref (ad 0)), (1, .int l1), (2, .int l2)]) hx hb d_Mod_write_64 rfl hl (by decide) rfl (fun ls hl => ?_)
              refine lv_iconst (v := 0) hx hb d_Mod_write_65 (by decide) ?_
              refine lv_istore (lv' := [(4, .int 0), (3, .int 0), (0, .ref (ad 0)), (1, .int l1), (2, .int l2)]) hx hb d_Mod_write_66 hl (by decide) rfl (fun ls hl => ?_)
              obtain ⟨n, hw⟩ := hw
              exact tl_Mod_write_68 hx hb hml hown hT hK hN hA hRc hRs hRf hRl hret  n l1 l2 0 0 x891 H locs ls  hw hW hS (lv_sub hl [2, 3, 4, 1, 0] rfl)
            · have hw := hw.2 c889
              exact t_Mod_write_52 hx hb hml hown hT hK hN hA hRc hRs hRf hRl hret  l1 l2 x883 H locs ls  hw hW hS (lv_sub hl [0, 1, 2] rfl)
set_option maxHeartbeats 4000000 in
set_option maxRecDepth 100000 in
theorem k_Mod_write (l : Launch) (dC : Nat → ClassId) (dI : Nat → Nat → Nat) (cI cB cJ cZ : ClassId) (ad : Nat → Nat) (sz : Nat) (l1 : Int32) (l2 : Int32) (x : St) {post : Int32 → St → Prop} (hw : wp_Mod_write post l1 l2 x) : Met l y_Mod_write (wsOf y_Mod_write b_Mod_write 7 (some (.int))) ({ frames := 8, cells := 0, slots := 0, locals := 193 }) (va_Pc [.ref (ad 0), .int l1, .int l2] (PW dC dI cI cB cJ cZ ad stM kcM 115 sz x)) (va_Qi (fun (r : Int32) (y : St) => post r y) (fun y t => Wd dC dI cI cB cJ cZ ad stM kcM 115 (va_A (pic ad stM kcM 115 cI cB cJ cZ x) sz) y t.heap) (va_A (pic ad stM kcM 115 cI cB cJ cZ x) sz)) 0 0 (va_A (pic ad stM kcM 115 cI cB cJ cZ x) sz) := by
  refine Met.ofW (cc := b_Mod_write) (maxL := 7) (ret := some (.int)) (by decide) rfl ?_
  intro p e s m args below meth c s₁ B hml hv
  obtain ⟨rfl, hsz, hW0, hK, hN⟩ := hv
  have hx := B.exec
  have hb := B.bytes
  have hr := B.returns
  have hts := atoms_spec B.pre
  have hT : ∀ w ∈ TG, w.before _ s = true := fun w h => hts w (List.mem_cons_of_mem _ h)
  have hown : s.vm.findClass R_Mod = some m.cls := findClass_of_methodNamed B.named
  have hlocks := B.notSynchronized
  subst hsz
  have hW : Wd dC dI cI cB cJ cZ ad stM kcM 115 (va_A (pic ad stM kcM 115 cI cB cJ cZ x) s.heap.size) x s.heap := ⟨hW0.1, hW0.2.1.self (sz := s.heap.size), hW0.2.2⟩
  generalize hAe : va_A (pic ad stM kcM 115 cI cB cJ cZ x) s.heap.size = A at hW ⊢
  have hA : ∀ q : Nat, s.heap.size ≤ q → A q := fun q h => by rw [← hAe]; exact Or.inr h
  have hS : va_S A s.heap s.heap [] := va_S.rf
  have hl := lv_entry ([.ref (ad 0), .int l1, .int l2]) (n := 7) (Nat.le_of_ble_eq_true rfl)
  rw [lg_entry_eq]
  generalize (lg_sl ([.ref (ad 0), .int l1, .int l2]) ++ List.replicate (7 - (lg_sl ([.ref (ad 0), .int l1, .int l2])).length) Slot.unset).toArray = ls at hl ⊢
  have hl : lv_has ls 7 [(0, .ref (ad 0)), (1, .int l1), (2, .int l2)] := hl
  exact t_Mod_write_e hx hb hml hown hT hK hN hA (Nat.le_refl 0) (Nat.le_refl 0) (Nat.le_refl 8) (Nat.le_refl 193) (fun r x H locs pc ls hd hp hW hS => W.iret (v := r) hx hb hr (fun t ht hM => ⟨⟨r, x, rfl, hp, Wd.back hW ht.symm (fun _ z => z)⟩, hS.F ht⟩) hS.2.2 hd hlocks)  l1 l2 x _ _ ls  hw hW hS hl
set_option maxRecDepth 100000 in
def j_Mod_take_7 (post : St → Prop) (rec7 : Int32 → St → Prop) (l1 : Int32) (x : St) : Prop := (((fI x 0 4) ≤ l1 → (∀ x893 : St, x893 = setI x 0 65 (fI x 0 4) → (∀ x894 : St, x894 = setI x893 0 4 0 → post x894))) ∧ (¬ (fI x 0 4) ≤ l1 → (vp_in l1 (fN x 2) ∧ (vp_in l1 (fN x 41) ∧ ∀ x895 : St, x895 = setA x 41 l1 (rA x 2 l1) → rec7 (l1 + 1) x895))))
set_option maxHeartbeats 4000000 in
set_option maxRecDepth 100000 in
theorem t_Mod_take_7 {p : Program} {l : Launch} {e : Env} {R : Room} {s : State} {m : MethodId} {args : Array Value} {below : List Frame} {meth : Method} {c : Code} {cells slots : Nat} {Q : State → Prop} {dC : Nat → ClassId} {dI : Nat → Nat → Nat} {cI cB cJ cZ : ClassId} {A : Nat → Prop} {ad : Nat → Nat} {post : St → Prop} {rec7 : Int32 → St → Prop} (hx : p.tables.exec = Jvm.exec) (hb : c.code = b_Mod_take) (hml : c.maxLocals = 2) (hown : s.vm.findClass R_Mod = some m.cls) (hT : ∀ w ∈ TG, w.before args s = true) (hK : va_K (dC, dI) CL (TY cI cB cJ cZ) s) (hN : NW s) (hA : ∀ q : Nat, s.heap.size ≤ q → A q) (hRc : cells ≤ R.cells) (hRs : slots ≤ R.slots) (hRf : 0 ≤ R.frames) (hRl : 0 ≤ R.locals) (hret : ∀ (x : St) (H : Heap) (locs : List Loc) (pc : Nat) (ls : Array Slot), decode b_Mod_take pc = .ok (.return_, 1) → post x → Wd dC dI cI cB cJ cZ ad stM kcM 115 A x H → va_S A s.heap H locs → W p l e R s m args below meth c H locs cells slots Q (F0 m pc ls [])) (hrec7 : ∀ (l1 : Int32) (x : St) (H : Heap) (locs : List Loc) (ls : Array Slot), rec7 l1 x → Wd dC dI cI cB cJ cZ ad stM kcM 115 A x H → va_S A s.heap H locs → lv_has ls 2 [(0, .ref (ad 0)), (1, .int l1)] → W p l e R s m args below meth c H locs cells slots Q (F0 m 7 ls [])) : ∀ (l1 : Int32) (x : St) (H : Heap) (locs : List Loc) (ls : Array Slot), j_Mod_take_7 post rec7 l1 x → Wd dC dI cI cB cJ cZ ad stM kcM 115 A x H → va_S A s.heap H locs → lv_has ls 2 [(0, .ref (ad 0)), (1, .int l1)] → W p l e R s m args below meth c H locs cells slots Q (F0 m 7 ls []) := by
  intro l1 x H locs ls  hw hW hS hl
  unfold j_Mod_take_7 at hw
  refine lv_iload_n hx hb d_Mod_take_7 rfl (lv_at hl 1 rfl) ?_
  refine lv_aload_n hx hb d_Mod_take_8 rfl (lv_at hl 0 rfl) ?_
  refine w_geti (k := 4) (t := 12) (C := R_Mod) (T := F_Mod) (N := 167) hx hb hT hown hK hW ko_0.1 ko_0.2 (by decide) in_Mod rfl rfl (by decide) rfl fr_Mod_4 w_8_184 d_Mod_take_9 ?_
  refine lv_icmp_ge (tgt := 33) hx hb d_Mod_take_12 (by decide) (fun c892 => ?_) (fun c892 => ?_)
  · have hw := hw.1 c892
    refine lv_aload_n hx hb d_Mod_take_33 rfl (lv_at hl 0 rfl) ?_
    refine lv_aload_n hx hb d_Mod_take_34 rfl (lv_at hl 0 rfl) ?_
    refine w_geti (k := 4) (t := 12) (C := R_Mod) (T := F_Mod) (N := 167) hx hb hT hown hK hW ko_0.1 ko_0.2 (by decide) in_Mod rfl rfl (by decide) rfl fr_Mod_4 w_8_184 d_Mod_take_35 ?_
    refine w_puti (ty := .int) (k := 65) (t := 12) (C := R_Mod) (T := F_Mod) (N := 167) hx hb hT hown hK hW hS ko_0.1 ko_0.2 (by decide) in_Mod t_Mod t_Mod_ok n_Mod rfl rfl (by decide) rfl fr_Mod_65 w_9_5 (by decide +kernel) rfl rfl d_Mod_take_38 (fun H locs hW hS => ?_)
    obtain ⟨x893, ex893⟩ : ∃ y : St, y = setI x 0 65 (fI x 0 4) := ⟨_, rfl⟩
    rw [← ex893] at hW
    have hw := hw x893 ex893
    refine lv_aload_n hx hb d_Mod_take_41 rfl (lv_at hl 0 rfl) ?_
    refine lv_iconst (v := 0) hx hb d_Mod_take_42 (by decide) ?_
    refine w_puti (ty := .int) (k := 4) (t := 12) (C := R_Mod) (T := F_Mod) (N := 167) hx hb hT hown hK hW hS ko_0.1 ko_0.2 (by decide) in_Mod t_Mod t_Mod_ok n_Mod rfl rfl (by decide) rfl fr_Mod_4 w_8_184 (by decide +kernel) rfl rfl d_Mod_take_43 (fun H locs hW hS => ?_)
    obtain ⟨x894, ex894⟩ : ∃ y : St, y = setI x893 0 4 0 := ⟨_, rfl⟩
    rw [← ex894] at hW
    have hw := hw x894 ex894
    exact hret x894 H locs 46 ls d_Mod_take_46 hw hW hS
  · have hw := hw.2 c892
    refine lv_aload_n hx hb d_Mod_take_15 rfl (lv_at hl 0 rfl) ?_
    refine w_getf (q := 41) (k := 62) (t := 12) (C := R_Mod) (T := F_Mod) (N := 167) hx hb hT hown hK hW ko_0.1 ko_0.2 (by decide) in_Mod rfl rfl (by decide) rfl fr_Mod_62 w_9_2 d_Mod_take_16 rfl ?_
    refine lv_iload_n hx hb d_Mod_take_19 rfl (lv_at hl 1 rfl) ?_
    refine lv_aload_n hx hb d_Mod_take_20 rfl (lv_at hl 0 rfl) ?_
    refine w_getf (q := 2) (k := 2) (t := 12) (C := R_Mod) (T := F_Mod) (N := 167) hx hb hT hown hK hW ko_0.1 ko_0.2 (by decide) in_Mod rfl rfl (by decide) rfl fr_Mod_2 w_8_182 d_Mod_take_21 rfl ?_
    refine lv_iload_n hx hb d_Mod_take_24 rfl (lv_at hl 1 rfl) ?_
    obtain ⟨hi, hw⟩ := hw
    refine w_iald (o := 2) hx hb hK hW ko_2.1 ko_2.2 hi d_Mod_take_25 ?_
    obtain ⟨hi, hw⟩ := hw
    refine w_iast (o := 41) hx hb hK hW hS ko_41.1 ko_41.2 hi d_Mod_take_26 (fun H locs hW hS => ?_)
    obtain ⟨x895, ex895⟩ : ∃ y : St, y = setA x 41 l1 (rA x 2 l1) := ⟨_, rfl⟩
    rw [← ex895] at hW
    have hw := hw x895 ex895
    refine lv_iinc (v := (l1 + 1)) (lv' := [(1, .int (l1 + 1)), (0, .ref (ad 0))]) hx hb d_Mod_take_27 hl (k := 1) rfl rfl (by decide) rfl (fun ls hl => ?_)
    refine lv_goto (tgt := 7) hx hb d_Mod_take_30 (by decide) ?_
    exact hrec7 (l1 + 1) x895 H locs ls  hw hW hS (lv_sub hl [1, 0] rfl)
def wl_Mod_take_7 (post : St → Prop) : Nat → Int32 → St → Prop
  | 0 => fun _ _ => False
  | n + 1 => j_Mod_take_7 post (wl_Mod_take_7 post n)
set_option maxHeartbeats 4000000 in
set_option maxRecDepth 100000 in
theorem tl_Mod_take_7 {p : Program} {l : Launch} {e : Env} {R : Room} {s : State} {m : MethodId} {args : Array Value} {below : List Frame} {meth : Method} {c : Code} {cells slots : Nat} {Q : State → Prop} {dC : Nat → ClassId} {dI : Nat → Nat → Nat} {cI cB cJ cZ : ClassId} {A : Nat → Prop} {ad : Nat → Nat} {post : St → Prop} (hx : p.tables.exec = Jvm.exec) (hb : c.code = b_Mod_take) (hml : c.maxLocals = 2) (hown : s.vm.findClass R_Mod = some m.cls) (hT : ∀ w ∈ TG, w.before args s = true) (hK : va_K (dC, dI) CL (TY cI cB cJ cZ) s) (hN : NW s) (hA : ∀ q : Nat, s.heap.size ≤ q → A q) (hRc : cells ≤ R.cells) (hRs : slots ≤ R.slots) (hRf : 0 ≤ R.frames) (hRl : 0 ≤ R.locals) (hret : ∀ (x : St) (H : Heap) (locs : List Loc) (pc : Nat) (ls : Array Slot), decode b_Mod_take pc = .ok (.return_, 1) → post x → Wd dC dI cI cB cJ cZ ad stM kcM 115 A x H → va_S A s.heap H locs → W p l e R s m args below meth c H locs cells slots Q (F0 m pc ls []))  : ∀ n : Nat, ∀ (l1 : Int32) (x : St) (H : Heap) (locs : List Loc) (ls : Array Slot), wl_Mod_take_7 post n l1 x → Wd dC dI cI cB cJ cZ ad stM kcM 115 A x H → va_S A s.heap H locs → lv_has ls 2 [(0, .ref (ad 0)), (1, .int l1)] → W p l e R s m args below meth c H locs cells slots Q (F0 m 7 ls []) := by
  intro n
  induction n with
  | zero => intro l1 x H locs ls  hw; exact hw.elim
  | succ n ih => intro l1 x H locs ls  hw hW hS hl; exact t_Mod_take_7 hx hb hml hown hT hK hN hA hRc hRs hRf hRl hret  ih l1 x H locs ls  hw hW hS hl
set_option maxRecDepth 100000 in
def wp_Mod_take (post : St → Prop)  (x : St) : Prop := (∀ x896 : St, x896 = setI x 0 0 0 → ∃ n : Nat, wl_Mod_take_7 post n 0 x896)
set_option maxHeartbeats 4000000 in
set_option maxRecDepth 100000 in
theorem t_Mod_take_e {p : Program} {l : Launch} {e : Env} {R : Room} {s : State} {m : MethodId} {args : Array Value} {below : List Frame} {meth : Method} {c : Code} {cells slots : Nat} {Q : State → Prop} {dC : Nat → ClassId} {dI : Nat → Nat → Nat} {cI cB cJ cZ : ClassId} {A : Nat → Prop} {ad : Nat → Nat} {post : St → Prop} (hx : p.tables.exec = Jvm.exec) (hb : c.code = b_Mod_take) (hml : c.maxLocals = 2) (hown : s.vm.findClass R_Mod = some m.cls) (hT : ∀ w ∈ TG, w.before args s = true) (hK : va_K (dC, dI) CL (TY cI cB cJ cZ) s) (hN : NW s) (hA : ∀ q : Nat, s.heap.size ≤ q → A q) (hRc : cells ≤ R.cells) (hRs : slots ≤ R.slots) (hRf : 0 ≤ R.frames) (hRl : 0 ≤ R.locals) (hret : ∀ (x : St) (H : Heap) (locs : List Loc) (pc : Nat) (ls : Array Slot), decode b_Mod_take pc = .ok (.return_, 1) → post x → Wd dC dI cI cB cJ cZ ad stM kcM 115 A x H → va_S A s.heap H locs → W p l e R s m args below meth c H locs cells slots Q (F0 m pc ls [])) : ∀  (x : St) (H : Heap) (locs : List Loc) (ls : Array Slot), wp_Mod_take post  x → Wd dC dI cI cB cJ cZ ad stM kcM 115 A x H → va_S A s.heap H locs → lv_has ls 2 [(0, .ref (ad 0))] → W p l e R s m args below meth c H locs cells slots Q (F0 m 0 ls []) := by
  intro  x H locs ls  hw hW hS hl
  unfold wp_Mod_take at hw
  refine lv_aload_n hx hb d_Mod_take_0 rfl (lv_at hl 0 rfl) ?_
  refine lv_iconst (v := 0) hx hb d_Mod_take_1 (by decide) ?_
  refine w_puti (ty := .int) (k := 0) (t := 12) (C := R_Mod) (T := F_Mod) (N := 167) hx hb hT hown hK hW hS ko_0.1 ko_0.2 (by decide) in_Mod t_Mod t_Mod_ok n_Mod rfl rfl (by decide) rfl fr_Mod_0 w_8_180 (by decide +kernel) rfl rfl d_Mod_take_2 (fun H locs hW hS => ?_)
  obtain ⟨x896, ex896⟩ : ∃ y : St, y = setI x 0 0 0 := ⟨_, rfl⟩
  rw [← ex896] at hW
  have hw := hw x896 ex896
  refine lv_iconst (v := 0) hx hb d_Mod_take_5 (by decide) ?_
  refine lv_istore_n (lv' := [(1, .int 0), (0, .ref (ad 0))]) hx hb d_Mod_take_6 rfl hl (by decide) rfl (fun ls hl => ?_)
  obtain ⟨n, hw⟩ := hw
  exact tl_Mod_take_7 hx hb hml hown hT hK hN hA hRc hRs hRf hRl hret  n 0 x896 H locs ls  hw hW hS (lv_sub hl [1, 0] rfl)
set_option maxHeartbeats 4000000 in
set_option maxRecDepth 100000 in
theorem k_Mod_take (l : Launch) (dC : Nat → ClassId) (dI : Nat → Nat → Nat) (cI cB cJ cZ : ClassId) (ad : Nat → Nat) (sz : Nat)  (x : St) {post : St → Prop} (hw : wp_Mod_take post  x) : Met l y_Mod_take (wsOf y_Mod_take b_Mod_take 2 (none)) ({ frames := 0, cells := 0, slots := 0, locals := 0 }) (va_Pc [.ref (ad 0)] (PW dC dI cI cB cJ cZ ad stM kcM 115 sz x)) (va_Qv (fun (y : St) => post y) (fun y t => Wd dC dI cI cB cJ cZ ad stM kcM 115 (va_A (pic ad stM kcM 115 cI cB cJ cZ x) sz) y t.heap) (va_A (pic ad stM kcM 115 cI cB cJ cZ x) sz)) 0 0 (va_A (pic ad stM kcM 115 cI cB cJ cZ x) sz) := by
  refine Met.ofW (cc := b_Mod_take) (maxL := 2) (ret := none) (by decide) rfl ?_
  intro p e s m args below meth c s₁ B hml hv
  obtain ⟨rfl, hsz, hW0, hK, hN⟩ := hv
  have hx := B.exec
  have hb := B.bytes
  have hr := B.returns
  have hts := atoms_spec B.pre
  have hT : ∀ w ∈ TG, w.before _ s = true := fun w h => hts w (List.mem_cons_of_mem _ h)
  have hown : s.vm.findClass R_Mod = some m.cls := findClass_of_methodNamed B.named
  have hlocks := B.notSynchronized
  subst hsz
  have hW : Wd dC dI cI cB cJ cZ ad stM kcM 115 (va_A (pic ad stM kcM 115 cI cB cJ cZ x) s.heap.size) x s.heap := ⟨hW0.1, hW0.2.1.self (sz := s.heap.size), hW0.2.2⟩
  generalize hAe : va_A (pic ad stM kcM 115 cI cB cJ cZ x) s.heap.size = A at hW ⊢
  have hA : ∀ q : Nat, s.heap.size ≤ q → A q := fun q h => by rw [← hAe]; exact Or.inr h
  have hS : va_S A s.heap s.heap [] := va_S.rf
  have hl := lv_entry ([.ref (ad 0)]) (n := 2) (Nat.le_of_ble_eq_true rfl)
  rw [lg_entry_eq]
  generalize (lg_sl ([.ref (ad 0)]) ++ List.replicate (2 - (lg_sl ([.ref (ad 0)])).length) Slot.unset).toArray = ls at hl ⊢
  have hl : lv_has ls 2 [(0, .ref (ad 0))] := hl
  exact t_Mod_take_e hx hb hml hown hT hK hN hA (Nat.le_refl 0) (Nat.le_refl 0) (Nat.le_refl 0) (Nat.le_refl 0) (fun x H locs pc ls hd hp hW hS => W.vret hx hb hr (fun t ht hM => ⟨⟨x, rfl, hp, Wd.back hW ht.symm (fun _ z => z)⟩, hS.F ht⟩) hS.2.2 hd hlocks)   x _ _ ls  hw hW hS hl
set_option maxRecDepth 100000 in
def wp_Mod_size (post : Int32 → St → Prop)  (x : St) : Prop := (∀ x897 : St, x897 = setI x 0 0 0 → post (fI x897 0 65) x897)
set_option maxHeartbeats 4000000 in
set_option maxRecDepth 100000 in
theorem t_Mod_size_e {p : Program} {l : Launch} {e : Env} {R : Room} {s : State} {m : MethodId} {args : Array Value} {below : List Frame} {meth : Method} {c : Code} {cells slots : Nat} {Q : State → Prop} {dC : Nat → ClassId} {dI : Nat → Nat → Nat} {cI cB cJ cZ : ClassId} {A : Nat → Prop} {ad : Nat → Nat} {post : Int32 → St → Prop} (hx : p.tables.exec = Jvm.exec) (hb : c.code = b_Mod_size) (hml : c.maxLocals = 1) (hown : s.vm.findClass R_Mod = some m.cls) (hT : ∀ w ∈ TG, w.before args s = true) (hK : va_K (dC, dI) CL (TY cI cB cJ cZ) s) (hN : NW s) (hA : ∀ q : Nat, s.heap.size ≤ q → A q) (hRc : cells ≤ R.cells) (hRs : slots ≤ R.slots) (hRf : 0 ≤ R.frames) (hRl : 0 ≤ R.locals) (hret : ∀ (r : Int32) (x : St) (H : Heap) (locs : List Loc) (pc : Nat) (ls : Array Slot), decode b_Mod_size pc = .ok (.ireturn, 1) → post r x → Wd dC dI cI cB cJ cZ ad stM kcM 115 A x H → va_S A s.heap H locs → W p l e R s m args below meth c H locs cells slots Q (F0 m pc ls [.int r])) : ∀  (x : St) (H : Heap) (locs : List Loc) (ls : Array Slot), wp_Mod_size post  x → Wd dC dI cI cB cJ cZ ad stM kcM 115 A x H → va_S A s.heap H locs → lv_has ls 1 [(0, .ref (ad 0))] → W p l e R s m args below meth c H locs cells slots Q (F0 m 0 ls []) := by
  intro  x H locs ls  hw hW hS hl
  unfold wp_Mod_size at hw
  refine lv_aload_n hx hb d_Mod_size_0 rfl (lv_at hl 0 rfl) ?_
  refine lv_iconst (v := 0) hx hb d_Mod_size_1 (by decide) ?_
  refine w_puti (ty := .int) (k := 0) (t := 12) (C := R_Mod) (T := F_Mod) (N := 167) hx hb hT hown hK hW hS ko_0.1 ko_0.2 (by decide) in_Mod t_Mod t_Mod_ok n_Mod rfl rfl (by decide) rfl fr_Mod_0 w_8_180 (by decide +kernel) rfl rfl d_Mod_size_2 (fun H locs hW hS => ?_)
  obtain ⟨x897, ex897⟩ : ∃ y : St, y = setI x 0 0 0 := ⟨_, rfl⟩
  rw [← ex897] at hW
  have hw := hw x897 ex897
  refine lv_aload_n hx hb d_Mod_size_5 rfl (lv_at hl 0 rfl) ?_
  refine w_geti (k := 65) (t := 12) (C := R_Mod) (T := F_Mod) (N := 167) hx hb hT hown hK hW ko_0.1 ko_0.2 (by decide) in_Mod rfl rfl (by decide) rfl fr_Mod_65 w_9_5 d_Mod_size_6 ?_
  exact hret (fI x897 0 65) x897 H locs 9 ls d_Mod_size_9 hw hW hS
set_option maxHeartbeats 4000000 in
set_option maxRecDepth 100000 in
theorem k_Mod_size (l : Launch) (dC : Nat → ClassId) (dI : Nat → Nat → Nat) (cI cB cJ cZ : ClassId) (ad : Nat → Nat) (sz : Nat)  (x : St) {post : Int32 → St → Prop} (hw : wp_Mod_size post  x) : Met l y_Mod_size (wsOf y_Mod_size b_Mod_size 1 (some (.int))) ({ frames := 0, cells := 0, slots := 0, locals := 0 }) (va_Pc [.ref (ad 0)] (PW dC dI cI cB cJ cZ ad stM kcM 115 sz x)) (va_Qi (fun (r : Int32) (y : St) => post r y) (fun y t => Wd dC dI cI cB cJ cZ ad stM kcM 115 (va_A (pic ad stM kcM 115 cI cB cJ cZ x) sz) y t.heap) (va_A (pic ad stM kcM 115 cI cB cJ cZ x) sz)) 0 0 (va_A (pic ad stM kcM 115 cI cB cJ cZ x) sz) := by
  refine Met.ofW (cc := b_Mod_size) (maxL := 1) (ret := some (.int)) (by decide) rfl ?_
  intro p e s m args below meth c s₁ B hml hv
  obtain ⟨rfl, hsz, hW0, hK, hN⟩ := hv
  have hx := B.exec
  have hb := B.bytes
  have hr := B.returns
  have hts := atoms_spec B.pre
  have hT : ∀ w ∈ TG, w.before _ s = true := fun w h => hts w (List.mem_cons_of_mem _ h)
  have hown : s.vm.findClass R_Mod = some m.cls := findClass_of_methodNamed B.named
  have hlocks := B.notSynchronized
  subst hsz
  have hW : Wd dC dI cI cB cJ cZ ad stM kcM 115 (va_A (pic ad stM kcM 115 cI cB cJ cZ x) s.heap.size) x s.heap := ⟨hW0.1, hW0.2.1.self (sz := s.heap.size), hW0.2.2⟩
  generalize hAe : va_A (pic ad stM kcM 115 cI cB cJ cZ x) s.heap.size = A at hW ⊢
  have hA : ∀ q : Nat, s.heap.size ≤ q → A q := fun q h => by rw [← hAe]; exact Or.inr h
  have hS : va_S A s.heap s.heap [] := va_S.rf
  have hl := lv_entry ([.ref (ad 0)]) (n := 1) (Nat.le_of_ble_eq_true rfl)
  rw [lg_entry_eq]
  generalize (lg_sl ([.ref (ad 0)]) ++ List.replicate (1 - (lg_sl ([.ref (ad 0)])).length) Slot.unset).toArray = ls at hl ⊢
  have hl : lv_has ls 1 [(0, .ref (ad 0))] := hl
  exact t_Mod_size_e hx hb hml hown hT hK hN hA (Nat.le_refl 0) (Nat.le_refl 0) (Nat.le_refl 0) (Nat.le_refl 0) (fun r x H locs pc ls hd hp hW hS => W.iret (v := r) hx hb hr (fun t ht hM => ⟨⟨r, x, rfl, hp, Wd.back hW ht.symm (fun _ z => z)⟩, hS.F ht⟩) hS.2.2 hd hlocks)   x _ _ ls  hw hW hS hl
set_option maxRecDepth 100000 in
def j_Mod_byteOf_17 (post : Int32 → St → Prop) (l1 : Int32) (x : St) : Prop := post (-1) x
set_option maxHeartbeats 4000000 in
set_option maxRecDepth 100000 in
theorem t_Mod_byteOf_17 {p : Program} {l : Launch} {e : Env} {R : Room} {s : State} {m : MethodId} {args : Array Value} {below : List Frame} {meth : Method} {c : Code} {cells slots : Nat} {Q : State → Prop} {dC : Nat → ClassId} {dI : Nat → Nat → Nat} {cI cB cJ cZ : ClassId} {A : Nat → Prop} {ad : Nat → Nat} {post : Int32 → St → Prop} (hx : p.tables.exec = Jvm.exec) (hb : c.code = b_Mod_byteOf) (hml : c.maxLocals = 2) (hown : s.vm.findClass R_Mod = some m.cls) (hT : ∀ w ∈ TG, w.before args s = true) (hK : va_K (dC, dI) CL (TY cI cB cJ cZ) s) (hN : NW s) (hA : ∀ q : Nat, s.heap.size ≤ q → A q) (hRc : cells ≤ R.cells) (hRs : slots ≤ R.slots) (hRf : 0 ≤ R.frames) (hRl : 0 ≤ R.locals) (hret : ∀ (r : Int32) (x : St) (H : Heap) (locs : List Loc) (pc : Nat) (ls : Array Slot), decode b_Mod_byteOf pc = .ok (.ireturn, 1) → post r x → Wd dC dI cI cB cJ cZ ad stM kcM 115 A x H → va_S A s.heap H locs → W p l e R s m args below meth c H locs cells slots Q (F0 m pc ls [.int r]))  : ∀ (l1 : Int32) (x : St) (H : Heap) (locs : List Loc) (ls : Array Slot), j_Mod_byteOf_17 post l1 x → Wd dC dI cI cB cJ cZ ad stM kcM 115 A x H → va_S A s.heap H locs → lv_has ls 2 [(0, .ref (ad 0)), (1, .int l1)] → W p l e R s m args below meth c H locs cells slots Q (F0 m 17 ls []) := by
  intro l1 x H locs ls  hw hW hS hl
  unfold j_Mod_byteOf_17 at hw
  refine lv_iconst (v := (-1)) hx hb d_Mod_byteOf_17 (by decide) ?_
  refine lv_goto (tgt := 27) hx hb d_Mod_byteOf_18 (by decide) ?_
  exact hret (-1) x H locs 27 ls d_Mod_byteOf_27 hw hW hS
set_option maxRecDepth 100000 in
def wp_Mod_byteOf (post : Int32 → St → Prop) (l1 : Int32) (x : St) : Prop := (∀ x898 : St, x898 = setI x 0 0 0 → ((l1 < 0 → j_Mod_byteOf_17 post l1 x898) ∧ (¬ l1 < 0 → ((l1 < (fI x898 0 65) → (vp_in l1 (fN x898 41) ∧ post (rA x898 41 l1) x898)) ∧ (¬ l1 < (fI x898 0 65) → j_Mod_byteOf_17 post l1 x898)))))
set_option maxHeartbeats 4000000 in
set_option maxRecDepth 100000 in
theorem t_Mod_byteOf_e {p : Program} {l : Launch} {e : Env} {R : Room} {s : State} {m : MethodId} {args : Array Value} {below : List Frame} {meth : Method} {c : Code} {cells slots : Nat} {Q : State → Prop} {dC : Nat → ClassId} {dI : Nat → Nat → Nat} {cI cB cJ cZ : ClassId} {A : Nat → Prop} {ad : Nat → Nat} {post : Int32 → St → Prop} (hx : p.tables.exec = Jvm.exec) (hb : c.code = b_Mod_byteOf) (hml : c.maxLocals = 2) (hown : s.vm.findClass R_Mod = some m.cls) (hT : ∀ w ∈ TG, w.before args s = true) (hK : va_K (dC, dI) CL (TY cI cB cJ cZ) s) (hN : NW s) (hA : ∀ q : Nat, s.heap.size ≤ q → A q) (hRc : cells ≤ R.cells) (hRs : slots ≤ R.slots) (hRf : 0 ≤ R.frames) (hRl : 0 ≤ R.locals) (hret : ∀ (r : Int32) (x : St) (H : Heap) (locs : List Loc) (pc : Nat) (ls : Array Slot), decode b_Mod_byteOf pc = .ok (.ireturn, 1) → post r x → Wd dC dI cI cB cJ cZ ad stM kcM 115 A x H → va_S A s.heap H locs → W p l e R s m args below meth c H locs cells slots Q (F0 m pc ls [.int r])) : ∀ (l1 : Int32) (x : St) (H : Heap) (locs : List Loc) (ls : Array Slot), wp_Mod_byteOf post l1 x → Wd dC dI cI cB cJ cZ ad stM kcM 115 A x H → va_S A s.heap H locs → lv_has ls 2 [(0, .ref (ad 0)), (1, .int l1)] → W p l e R s m args below meth c H locs cells slots Q (F0 m 0 ls []) := by
  intro l1 x H locs ls  hw hW hS hl
  unfold wp_Mod_byteOf at hw
  refine lv_aload_n hx hb d_Mod_byteOf_0 rfl (lv_at hl 0 rfl) ?_
  refine lv_iconst (v := 0) hx hb d_Mod_byteOf_1 (by decide) ?_
  refine w_puti (ty := .int) (k := 0) (t := 12) (C := R_Mod) (T := F_Mod) (N := 167) hx hb hT hown hK hW hS ko_0.1 ko_0.2 (by decide) in_Mod t_Mod t_Mod_ok n_Mod rfl rfl (by decide) rfl fr_Mod_0 w_8_180 (by decide +kernel) rfl rfl d_Mod_byteOf_2 (fun H locs hW hS => ?_)
  obtain ⟨x898, ex898⟩ : ∃ y : St, y = setI x 0 0 0 := ⟨_, rfl⟩
  rw [← ex898] at hW
  have hw := hw x898 ex898
  refine lv_iload_n hx hb d_Mod_byteOf_5 rfl (lv_at hl 1 rfl) ?_
  refine lv_if_lt (tgt := 17) hx hb d_Mod_byteOf_6 (by decide) (fun c899 => ?_) (fun c899 => ?_)
  · have hw := hw.1 c899
    exact t_Mod_byteOf_17 hx hb hml hown hT hK hN hA hRc hRs hRf hRl hret  l1 x898 H locs ls  hw hW hS (lv_sub hl [0, 1] rfl)
  · have hw := hw.2 c899
    refine lv_iload_n hx hb d_Mod_byteOf_9 rfl (lv_at hl 1 rfl) ?_
    refine lv_aload_n hx hb d_Mod_byteOf_10 rfl (lv_at hl 0 rfl) ?_
    refine w_geti (k := 65) (t := 12) (C := R_Mod) (T := F_Mod) (N := 167) hx hb hT hown hK hW ko_0.1 ko_0.2 (by decide) in_Mod rfl rfl (by decide) rfl fr_Mod_65 w_9_5 d_Mod_byteOf_11 ?_
    refine lv_icmp_lt (tgt := 21) hx hb d_Mod_byteOf_14 (by decide) (fun c900 => ?_) (fun c900 => ?_)
    · have hw := hw.1 c900
      refine lv_aload_n hx hb d_Mod_byteOf_21 rfl (lv_at hl 0 rfl) ?_
      refine w_getf (q := 41) (k := 62) (t := 12) (C := R_Mod) (T := F_Mod) (N := 167) hx hb hT hown hK hW ko_0.1 ko_0.2 (by decide) in_Mod rfl rfl (by decide) rfl fr_Mod_62 w_9_2 d_Mod_byteOf_22 rfl ?_
      refine lv_iload_n hx hb d_Mod_byteOf_25 rfl (lv_at hl 1 rfl) ?_
      obtain ⟨hi, hw⟩ := hw
      refine w_iald (o := 41) hx hb hK hW ko_41.1 ko_41.2 hi d_Mod_byteOf_26 ?_
      exact hret (rA x898 41 l1) x898 H locs 27 ls d_Mod_byteOf_27 hw hW hS
    · have hw := hw.2 c900
      exact t_Mod_byteOf_17 hx hb hml hown hT hK hN hA hRc hRs hRf hRl hret  l1 x898 H locs ls  hw hW hS (lv_sub hl [0, 1] rfl)
set_option maxHeartbeats 4000000 in
set_option maxRecDepth 100000 in
theorem k_Mod_byteOf (l : Launch) (dC : Nat → ClassId) (dI : Nat → Nat → Nat) (cI cB cJ cZ : ClassId) (ad : Nat → Nat) (sz : Nat) (l1 : Int32) (x : St) {post : Int32 → St → Prop} (hw : wp_Mod_byteOf post l1 x) : Met l y_Mod_byteOf (wsOf y_Mod_byteOf b_Mod_byteOf 2 (some (.int))) ({ frames := 0, cells := 0, slots := 0, locals := 0 }) (va_Pc [.ref (ad 0), .int l1] (PW dC dI cI cB cJ cZ ad stM kcM 115 sz x)) (va_Qi (fun (r : Int32) (y : St) => post r y) (fun y t => Wd dC dI cI cB cJ cZ ad stM kcM 115 (va_A (pic ad stM kcM 115 cI cB cJ cZ x) sz) y t.heap) (va_A (pic ad stM kcM 115 cI cB cJ cZ x) sz)) 0 0 (va_A (pic ad stM kcM 115 cI cB cJ cZ x) sz) := by
  refine Met.ofW (cc := b_Mod_byteOf) (maxL := 2) (ret := some (.int)) (by decide) rfl ?_
  intro p e s m args below meth c s₁ B hml hv
  obtain ⟨rfl, hsz, hW0, hK, hN⟩ := hv
  have hx := B.exec
  have hb := B.bytes
  have hr := B.returns
  have hts := atoms_spec B.pre
  have hT : ∀ w ∈ TG, w.before _ s = true := fun w h => hts w (List.mem_cons_of_mem _ h)
  have hown : s.vm.findClass R_Mod = some m.cls := findClass_of_methodNamed B.named
  have hlocks := B.notSynchronized
  subst hsz
  have hW : Wd dC dI cI cB cJ cZ ad stM kcM 115 (va_A (pic ad stM kcM 115 cI cB cJ cZ x) s.heap.size) x s.heap := ⟨hW0.1, hW0.2.1.self (sz := s.heap.size), hW0.2.2⟩
  generalize hAe : va_A (pic ad stM kcM 115 cI cB cJ cZ x) s.heap.size = A at hW ⊢
  have hA : ∀ q : Nat, s.heap.size ≤ q → A q := fun q h => by rw [← hAe]; exact Or.inr h
  have hS : va_S A s.heap s.heap [] := va_S.rf
  have hl := lv_entry ([.ref (ad 0), .int l1]) (n := 2) (Nat.le_of_ble_eq_true rfl)
  rw [lg_entry_eq]
  generalize (lg_sl ([.ref (ad 0), .int l1]) ++ List.replicate (2 - (lg_sl ([.ref (ad 0), .int l1])).length) Slot.unset).toArray = ls at hl ⊢
  have hl : lv_has ls 2 [(0, .ref (ad 0)), (1, .int l1)] := hl
  exact t_Mod_byteOf_e hx hb hml hown hT hK hN hA (Nat.le_refl 0) (Nat.le_refl 0) (Nat.le_refl 0) (Nat.le_refl 0) (fun r x H locs pc ls hd hp hW hS => W.iret (v := r) hx hb hr (fun t ht hM => ⟨⟨r, x, rfl, hp, Wd.back hW ht.symm (fun _ z => z)⟩, hS.F ht⟩) hS.2.2 hd hlocks)  l1 x _ _ ls  hw hW hS hl
set_option maxRecDepth 100000 in
def j_Mod_poke_17 (post : Int32 → St → Prop) (l1 : Int32) (l2 : Int32) (x : St) : Prop := post 0 x
set_option maxHeartbeats 4000000 in
set_option maxRecDepth 100000 in
theorem t_Mod_poke_17 {p : Program} {l : Launch} {e : Env} {R : Room} {s : State} {m : MethodId} {args : Array Value} {below : List Frame} {meth : Method} {c : Code} {cells slots : Nat} {Q : State → Prop} {dC : Nat → ClassId} {dI : Nat → Nat → Nat} {cI cB cJ cZ : ClassId} {A : Nat → Prop} {ad : Nat → Nat} {post : Int32 → St → Prop} (hx : p.tables.exec = Jvm.exec) (hb : c.code = b_Mod_poke) (hml : c.maxLocals = 3) (hown : s.vm.findClass R_Mod = some m.cls) (hT : ∀ w ∈ TG, w.before args s = true) (hK : va_K (dC, dI) CL (TY cI cB cJ cZ) s) (hN : NW s) (hA : ∀ q : Nat, s.heap.size ≤ q → A q) (hRc : cells ≤ R.cells) (hRs : slots ≤ R.slots) (hRf : 0 ≤ R.frames) (hRl : 0 ≤ R.locals) (hret : ∀ (r : Int32) (x : St) (H : Heap) (locs : List Loc) (pc : Nat) (ls : Array Slot), decode b_Mod_poke pc = .ok (.ireturn, 1) → narrow .boolean (.int r) = .int r → post r x → Wd dC dI cI cB cJ cZ ad stM kcM 115 A x H → va_S A s.heap H locs → W p l e R s m args below meth c H locs cells slots Q (F0 m pc ls [.int r]))  : ∀ (l1 : Int32) (l2 : Int32) (x : St) (H : Heap) (locs : List Loc) (ls : Array Slot), j_Mod_poke_17 post l1 l2 x → Wd dC dI cI cB cJ cZ ad stM kcM 115 A x H → va_S A s.heap H locs → lv_has ls 3 [(0, .ref (ad 0)), (1, .int l1), (2, .int l2)] → W p l e R s m args below meth c H locs cells slots Q (F0 m 17 ls []) := by
  intro l1 l2 x H locs ls  hw hW hS hl
  unfold j_Mod_poke_17 at hw
  refine lv_iconst (v := 0) hx hb d_Mod_poke_17 (by decide) ?_
  exact hret 0 x H locs 18 ls d_Mod_poke_18 rfl hw hW hS
set_option maxRecDepth 100000 in
def wp_Mod_poke (post : Int32 → St → Prop) (l1 : Int32) (l2 : Int32) (x : St) : Prop := (∀ x901 : St, x901 = setI x 0 0 0 → ((l1 < 0 → j_Mod_poke_17 post l1 l2 x901) ∧ (¬ l1 < 0 → ((l1 < (fI x901 0 65) → (vp_in l1 (fN x901 41) ∧ ∀ x904 : St, x904 = setA x901 41 l1 (l2 &&& 255) → post 1 x904)) ∧ (¬ l1 < (fI x901 0 65) → j_Mod_poke_17 post l1 l2 x901)))))
set_option maxHeartbeats 4000000 in
set_option maxRecDepth 100000 in
theorem t_Mod_poke_e {p : Program} {l : Launch} {e : Env} {R : Room} {s : State} {m : MethodId} {args : Array Value} {below : List Frame} {meth : Method} {c : Code} {cells slots : Nat} {Q : State → Prop} {dC : Nat → ClassId} {dI : Nat → Nat → Nat} {cI cB cJ cZ : ClassId} {A : Nat → Prop} {ad : Nat → Nat} {post : Int32 → St → Prop} (hx : p.tables.exec = Jvm.exec) (hb : c.code = b_Mod_poke) (hml : c.maxLocals = 3) (hown : s.vm.findClass R_Mod = some m.cls) (hT : ∀ w ∈ TG, w.before args s = true) (hK : va_K (dC, dI) CL (TY cI cB cJ cZ) s) (hN : NW s) (hA : ∀ q : Nat, s.heap.size ≤ q → A q) (hRc : cells ≤ R.cells) (hRs : slots ≤ R.slots) (hRf : 0 ≤ R.frames) (hRl : 0 ≤ R.locals) (hret : ∀ (r : Int32) (x : St) (H : Heap) (locs : List Loc) (pc : Nat) (ls : Array Slot), decode b_Mod_poke pc = .ok (.ireturn, 1) → narrow .boolean (.int r) = .int r → post r x → Wd dC dI cI cB cJ cZ ad stM kcM 115 A x H → va_S A s.heap H locs → W p l e R s m args below meth c H locs cells slots Q (F0 m pc ls [.int r])) : ∀ (l1 : Int32) (l2 : Int32) (x : St) (H : Heap) (locs : List Loc) (ls : Array Slot), wp_Mod_poke post l1 l2 x → Wd dC dI cI cB cJ cZ ad stM kcM 115 A x H → va_S A s.heap H locs → lv_has ls 3 [(0, .ref (ad 0)), (1, .int l1), (2, .int l2)] → W p l e R s m args below meth c H locs cells slots Q (F0 m 0 ls []) := by
  intro l1 l2 x H locs ls  hw hW hS hl
  unfold wp_Mod_poke at hw
  refine lv_aload_n hx hb d_Mod_poke_0 rfl (lv_at hl 0 rfl) ?_
  refine lv_iconst (v := 0) hx hb d_Mod_poke_1 (by decide) ?_
  refine w_puti (ty := .int) (k := 0) (t := 12) (C := R_Mod) (T := F_Mod) (N := 167) hx hb hT hown hK hW hS ko_0.1 ko_0.2 (by decide) in_Mod t_Mod t_Mod_ok n_Mod rfl rfl (by decide) rfl fr_Mod_0 w_8_180 (by decide +kernel) rfl rfl d_Mod_poke_2 (fun H locs hW hS => ?_)
  obtain ⟨x901, ex901⟩ : ∃ y : St, y = setI x 0 0 0 := ⟨_, rfl⟩
  rw [← ex901] at hW
  have hw := hw x901 ex901
  refine lv_iload_n hx hb d_Mod_poke_5 rfl (lv_at hl 1 rfl) ?_
  refine lv_if_lt (tgt := 17) hx hb d_Mod_poke_6 (by decide) (fun c902 => ?_) (fun c902 => ?_)
  · have hw := hw.1 c902
    exact t_Mod_poke_17 hx hb hml hown hT hK hN hA hRc hRs hRf hRl hret  l1 l2 x901 H locs ls  hw hW hS (lv_sub hl [0, 1, 2] rfl)
  · have hw := hw.2 c902
    refine lv_iload_n hx hb d_Mod_poke_9 rfl (lv_at hl 1 rfl) ?_
    refine lv_aload_n hx hb d_Mod_poke_10 rfl (lv_at hl 0 rfl) ?_
    refine w_geti (k := 65) (t := 12) (C := R_Mod) (T := F_Mod) (N := 167) hx hb hT hown hK hW ko_0.1 ko_0.2 (by decide) in_Mod rfl rfl (by decide) rfl fr_Mod_65 w_9_5 d_Mod_poke_11 ?_
    refine lv_icmp_lt (tgt := 19) hx hb d_Mod_poke_14 (by decide) (fun c903 => ?_) (fun c903 => ?_)
    · have hw := hw.1 c903
      refine lv_aload_n hx hb d_Mod_poke_19 rfl (lv_at hl 0 rfl) ?_
      refine w_getf (q := 41) (k := 62) (t := 12) (C := R_Mod) (T := F_Mod) (N := 167) hx hb hT hown hK hW ko_0.1 ko_0.2 (by decide) in_Mod rfl rfl (by decide) rfl fr_Mod_62 w_9_2 d_Mod_poke_20 rfl ?_
      refine lv_iload_n hx hb d_Mod_poke_23 rfl (lv_at hl 1 rfl) ?_
      refine lv_iload_n hx hb d_Mod_poke_24 rfl (lv_at hl 2 rfl) ?_
      refine lv_sipush (v := 255) hx hb d_Mod_poke_25 (by decide) ?_
      refine lv_iand hx hb d_Mod_poke_28 ?_
      obtain ⟨hi, hw⟩ := hw
      refine w_iast (o := 41) hx hb hK hW hS ko_41.1 ko_41.2 hi d_Mod_poke_29 (fun H locs hW hS => ?_)
      obtain ⟨x904, ex904⟩ : ∃ y : St, y = setA x901 41 l1 (l2 &&& 255) := ⟨_, rfl⟩
      rw [← ex904] at hW
      have hw := hw x904 ex904
      refine lv_iconst (v := 1) hx hb d_Mod_poke_30 (by decide) ?_
      exact hret 1 x904 H locs 31 ls d_Mod_poke_31 rfl hw hW hS
    · have hw := hw.2 c903
      exact t_Mod_poke_17 hx hb hml hown hT hK hN hA hRc hRs hRf hRl hret  l1 l2 x901 H locs ls  hw hW hS (lv_sub hl [0, 1, 2] rfl)
set_option maxHeartbeats 4000000 in
set_option maxRecDepth 100000 in
theorem k_Mod_poke (l : Launch) (dC : Nat → ClassId) (dI : Nat → Nat → Nat) (cI cB cJ cZ : ClassId) (ad : Nat → Nat) (sz : Nat) (l1 : Int32) (l2 : Int32) (x : St) {post : Int32 → St → Prop} (hw : wp_Mod_poke post l1 l2 x) : Met l y_Mod_poke (wsOf y_Mod_poke b_Mod_poke 3 (some (.boolean))) ({ frames := 0, cells := 0, slots := 0, locals := 0 }) (va_Pc [.ref (ad 0), .int l1, .int l2] (PW dC dI cI cB cJ cZ ad stM kcM 115 sz x)) (va_Qi (fun (r : Int32) (y : St) => post r y) (fun y t => Wd dC dI cI cB cJ cZ ad stM kcM 115 (va_A (pic ad stM kcM 115 cI cB cJ cZ x) sz) y t.heap) (va_A (pic ad stM kcM 115 cI cB cJ cZ x) sz)) 0 0 (va_A (pic ad stM kcM 115 cI cB cJ cZ x) sz) := by
  refine Met.ofW (cc := b_Mod_poke) (maxL := 3) (ret := some (.boolean)) (by decide) rfl ?_
  intro p e s m args below meth c s₁ B hml hv
  obtain ⟨rfl, hsz, hW0, hK, hN⟩ := hv
  have hx := B.exec
  have hb := B.bytes
  have hr := B.returns
  have hts := atoms_spec B.pre
  have hT : ∀ w ∈ TG, w.before _ s = true := fun w h => hts w (List.mem_cons_of_mem _ h)
  have hown : s.vm.findClass R_Mod = some m.cls := findClass_of_methodNamed B.named
  have hlocks := B.notSynchronized
  subst hsz
  have hW : Wd dC dI cI cB cJ cZ ad stM kcM 115 (va_A (pic ad stM kcM 115 cI cB cJ cZ x) s.heap.size) x s.heap := ⟨hW0.1, hW0.2.1.self (sz := s.heap.size), hW0.2.2⟩
  generalize hAe : va_A (pic ad stM kcM 115 cI cB cJ cZ x) s.heap.size = A at hW ⊢
  have hA : ∀ q : Nat, s.heap.size ≤ q → A q := fun q h => by rw [← hAe]; exact Or.inr h
  have hS : va_S A s.heap s.heap [] := va_S.rf
  have hl := lv_entry ([.ref (ad 0), .int l1, .int l2]) (n := 3) (Nat.le_of_ble_eq_true rfl)
  rw [lg_entry_eq]
  generalize (lg_sl ([.ref (ad 0), .int l1, .int l2]) ++ List.replicate (3 - (lg_sl ([.ref (ad 0), .int l1, .int l2])).length) Slot.unset).toArray = ls at hl ⊢
  have hl : lv_has ls 3 [(0, .ref (ad 0)), (1, .int l1), (2, .int l2)] := hl
  exact t_Mod_poke_e hx hb hml hown hT hK hN hA (Nat.le_refl 0) (Nat.le_refl 0) (Nat.le_refl 0) (Nat.le_refl 0) (fun r x H locs pc ls hd hz hp hW hS => W.zret (v := r) (ty := .boolean) hx hb hr hz (fun t ht hM => ⟨⟨r, x, rfl, hp, Wd.back hW ht.symm (fun _ z => z)⟩, hS.F ht⟩) hS.2.2 hd hlocks)  l1 l2 x _ _ ls  hw hW hS hl
set_option maxRecDepth 100000 in
def j_Mod_isFrame_54 (post : Int32 → St → Prop) (l1 : Int32) (x : St) : Prop := post 0 x
set_option maxHeartbeats 4000000 in
set_option maxRecDepth 100000 in
theorem t_Mod_isFrame_54 {p : Program} {l : Launch} {e : Env} {R : Room} {s : State} {m : MethodId} {args : Array Value} {below : List Frame} {meth : Method} {c : Code} {cells slots : Nat} {Q : State → Prop} {dC : Nat → ClassId} {dI : Nat → Nat → Nat} {cI cB cJ cZ : ClassId} {A : Nat → Prop} {ad : Nat → Nat} {post : Int32 → St → Prop} (hx : p.tables.exec = Jvm.exec) (hb : c.code = b_Mod_isFrame) (hml : c.maxLocals = 2) (hown : s.vm.findClass R_Mod = some m.cls) (hT : ∀ w ∈ TG, w.before args s = true) (hK : va_K (dC, dI) CL (TY cI cB cJ cZ) s) (hN : NW s) (hA : ∀ q : Nat, s.heap.size ≤ q → A q) (hRc : cells ≤ R.cells) (hRs : slots ≤ R.slots) (hRf : 0 ≤ R.frames) (hRl : 0 ≤ R.locals) (hret : ∀ (r : Int32) (x : St) (H : Heap) (locs : List Loc) (pc : Nat) (ls : Array Slot), decode b_Mod_isFrame pc = .ok (.ireturn, 1) → narrow .boolean (.int r) = .int r → post r x → Wd dC dI cI cB cJ cZ ad stM kcM 115 A x H → va_S A s.heap H locs → W p l e R s m args below meth c H locs cells slots Q (F0 m pc ls [.int r]))  : ∀ (l1 : Int32) (x : St) (H : Heap) (locs : List Loc) (ls : Array Slot), j_Mod_isFrame_54 post l1 x → Wd dC dI cI cB cJ cZ ad stM kcM 115 A x H → va_S A s.heap H locs → lv_has ls 2 [(0, .ref (ad 0)), (1, .int l1)] → W p l e R s m args below meth c H locs cells slots Q (F0 m 54 ls []) := by
  intro l1 x H locs ls  hw hW hS hl
  unfold j_Mod_isFrame_54 at hw
  refine lv_iconst (v := 0) hx hb d_Mod_isFrame_54 (by decide) ?_
  exact hret 0 x H locs 55 ls d_Mod_isFrame_55 rfl hw hW hS
set_option maxRecDepth 100000 in
def wp_Mod_isFrame (post : Int32 → St → Prop) (l1 : Int32) (x : St) : Prop := (vp_in l1 (fN x 41) ∧ ((¬ (rA x 41 l1) = 83 → j_Mod_isFrame_54 post l1 x) ∧ ((rA x 41 l1) = 83 → (vp_in (l1 + 1) (fN x 41) ∧ ((¬ (rA x 41 (l1 + 1)) = 84 → j_Mod_isFrame_54 post l1 x) ∧ ((rA x 41 (l1 + 1)) = 84 → (vp_in (l1 + 2) (fN x 41) ∧ ((¬ (rA x 41 (l1 + 2)) = 82 → j_Mod_isFrame_54 post l1 x) ∧ ((rA x 41 (l1 + 2)) = 82 → (vp_in (l1 + 3) (fN x 41) ∧ ((¬ (rA x 41 (l1 + 3)) = 66 → j_Mod_isFrame_54 post l1 x) ∧ ((rA x 41 (l1 + 3)) = 66 → post 1 x))))))))))))
set_option maxHeartbeats 4000000 in
set_option maxRecDepth 100000 in
theorem t_Mod_isFrame_e {p : Program} {l : Launch} {e : Env} {R : Room} {s : State} {m : MethodId} {args : Array Value} {below : List Frame} {meth : Method} {c : Code} {cells slots : Nat} {Q : State → Prop} {dC : Nat → ClassId} {dI : Nat → Nat → Nat} {cI cB cJ cZ : ClassId} {A : Nat → Prop} {ad : Nat → Nat} {post : Int32 → St → Prop} (hx : p.tables.exec = Jvm.exec) (hb : c.code = b_Mod_isFrame) (hml : c.maxLocals = 2) (hown : s.vm.findClass R_Mod = some m.cls) (hT : ∀ w ∈ TG, w.before args s = true) (hK : va_K (dC, dI) CL (TY cI cB cJ cZ) s) (hN : NW s) (hA : ∀ q : Nat, s.heap.size ≤ q → A q) (hRc : cells ≤ R.cells) (hRs : slots ≤ R.slots) (hRf : 0 ≤ R.frames) (hRl : 0 ≤ R.locals) (hret : ∀ (r : Int32) (x : St) (H : Heap) (locs : List Loc) (pc : Nat) (ls : Array Slot), decode b_Mod_isFrame pc = .ok (.ireturn, 1) → narrow .boolean (.int r) = .int r → post r x → Wd dC dI cI cB cJ cZ ad stM kcM 115 A x H → va_S A s.heap H locs → W p l e R s m args below meth c H locs cells slots Q (F0 m pc ls [.int r])) : ∀ (l1 : Int32) (x : St) (H : Heap) (locs : List Loc) (ls : Array Slot), wp_Mod_isFrame post l1 x → Wd dC dI cI cB cJ cZ ad stM kcM 115 A x H → va_S A s.heap H locs → lv_has ls 2 [(0, .ref (ad 0)), (1, .int l1)] → W p l e R s m args below meth c H locs cells slots Q (F0 m 0 ls []) := by
  intro l1 x H locs ls  hw hW hS hl
  unfold wp_Mod_isFrame at hw
  refine lv_aload_n hx hb d_Mod_isFrame_0 rfl (lv_at hl 0 rfl) ?_
  refine w_getf (q := 41) (k := 62) (t := 12) (C := R_Mod) (T := F_Mod) (N := 167) hx hb hT hown hK hW ko_0.1 ko_0.2 (by decide) in_Mod rfl rfl (by decide) rfl fr_Mod_62 w_9_2 d_Mod_isFrame_1 rfl ?_
  refine lv_iload_n hx hb d_Mod_isFrame_4 rfl (lv_at hl 1 rfl) ?_
  obtain ⟨hi, hw⟩ := hw
  refine w_iald (o := 41) hx hb hK hW ko_41.1 ko_41.2 hi d_Mod_isFrame_5 ?_
  refine lv_bipush (v := 83) hx hb d_Mod_isFrame_6 (by decide) ?_
  refine lv_icmp_ne (tgt := 54) hx hb d_Mod_isFrame_8 (by decide) (fun c905 => ?_) (fun c905 => ?_)
  · have hw := hw.1 c905
    exact t_Mod_isFrame_54 hx hb hml hown hT hK hN hA hRc hRs hRf hRl hret  l1 x H locs ls  hw hW hS (lv_sub hl [0, 1] rfl)
  · have hw := hw.2 c905
    refine lv_aload_n hx hb d_Mod_isFrame_11 rfl (lv_at hl 0 rfl) ?_
    refine w_getf (q := 41) (k := 62) (t := 12) (C := R_Mod) (T := F_Mod) (N := 167) hx hb hT hown hK hW ko_0.1 ko_0.2 (by decide) in_Mod rfl rfl (by decide) rfl fr_Mod_62 w_9_2 d_Mod_isFrame_12 rfl ?_
    refine lv_iload_n hx hb d_Mod_isFrame_15 rfl (lv_at hl 1 rfl) ?_
    refine lv_iconst (v := 1) hx hb d_Mod_isFrame_16 (by decide) ?_
    refine lv_iadd hx hb d_Mod_isFrame_17 ?_
    obtain ⟨hi, hw⟩ := hw
    refine w_iald (o := 41) hx hb hK hW ko_41.1 ko_41.2 hi d_Mod_isFrame_18 ?_
    refine lv_bipush (v := 84) hx hb d_Mod_isFrame_19 (by decide) ?_
    refine lv_icmp_ne (tgt := 54) hx hb d_Mod_isFrame_21 (by decide) (fun c906 => ?_) (fun c906 => ?_)
    · have hw := hw.1 c906
      exact t_Mod_isFrame_54 hx hb hml hown hT hK hN hA hRc hRs hRf hRl hret  l1 x H locs ls  hw hW hS (lv_sub hl [0, 1] rfl)
    · have hw := hw.2 c906
      refine lv_aload_n hx hb d_Mod_isFrame_24 rfl (lv_at hl 0 rfl) ?_
      refine w_getf (q := 41) (k := 62) (t := 12) (C := R_Mod) (T := F_Mod) (N := 167) hx hb hT hown hK hW ko_0.1 ko_0.2 (by decide) in_Mod rfl rfl (by decide) rfl fr_Mod_62 w_9_2 d_Mod_isFrame_25 rfl ?_
      refine lv_iload_n hx hb d_Mod_isFrame_28 rfl (lv_at hl 1 rfl) ?_
      refine lv_iconst (v := 2) hx hb d_Mod_isFrame_29 (by decide) ?_
      refine lv_iadd hx hb d_Mod_isFrame_30 ?_
      obtain ⟨hi, hw⟩ := hw
      refine w_iald (o := 41) hx hb hK hW ko_41.1 ko_41.2 hi d_Mod_isFrame_31 ?_
      refine lv_bipush (v := 82) hx hb d_Mod_isFrame_32 (by decide) ?_
      refine lv_icmp_ne (tgt := 54) hx hb d_Mod_isFrame_34 (by decide) (fun c907 => ?_) (fun c907 => ?_)
      · have hw := hw.1 c907
        exact t_Mod_isFrame_54 hx hb hml hown hT hK hN hA hRc hRs hRf hRl hret  l1 x H locs ls  hw hW hS (lv_sub hl [0, 1] rfl)
      · have hw := hw.2 c907
        refine lv_aload_n hx hb d_Mod_isFrame_37 rfl (lv_at hl 0 rfl) ?_
        refine w_getf (q := 41) (k := 62) (t := 12) (C := R_Mod) (T := F_Mod) (N := 167) hx hb hT hown hK hW ko_0.1 ko_0.2 (by decide) in_Mod rfl rfl (by decide) rfl fr_Mod_62 w_9_2 d_Mod_isFrame_38 rfl ?_
        refine lv_iload_n hx hb d_Mod_isFrame_41 rfl (lv_at hl 1 rfl) ?_
        refine lv_iconst (v := 3) hx hb d_Mod_isFrame_42 (by decide) ?_
        refine lv_iadd hx hb d_Mod_isFrame_43 ?_
        obtain ⟨hi, hw⟩ := hw
        refine w_iald (o := 41) hx hb hK hW ko_41.1 ko_41.2 hi d_Mod_isFrame_44 ?_
        refine lv_bipush (v := 66) hx hb d_Mod_isFrame_45 (by decide) ?_
        refine lv_icmp_ne (tgt := 54) hx hb d_Mod_isFrame_47 (by decide) (fun c908 => ?_) (fun c908 => ?_)
        · have hw := hw.1 c908
          exact t_Mod_isFrame_54 hx hb hml hown hT hK hN hA hRc hRs hRf hRl hret  l1 x H locs ls  hw hW hS (lv_sub hl [0, 1] rfl)
        · have hw := hw.2 c908
          refine lv_iconst (v := 1) hx hb d_Mod_isFrame_50 (by decide) ?_
          refine lv_goto (tgt := 55) hx hb d_Mod_isFrame_51 (by decide) ?_
          exact hret 1 x H locs 55 ls d_Mod_isFrame_55 rfl hw hW hS
set_option maxHeartbeats 4000000 in
set_option maxRecDepth 100000 in
theorem k_Mod_isFrame (l : Launch) (dC : Nat → ClassId) (dI : Nat → Nat → Nat) (cI cB cJ cZ : ClassId) (ad : Nat → Nat) (sz : Nat) (l1 : Int32) (x : St) {post : Int32 → St → Prop} (hw : wp_Mod_isFrame post l1 x) : Met l y_Mod_isFrame (wsOf y_Mod_isFrame b_Mod_isFrame 2 (some (.boolean))) ({ frames := 0, cells := 0, slots := 0, locals := 0 }) (va_Pc [.ref (ad 0), .int l1] (PW dC dI cI cB cJ cZ ad stM kcM 115 sz x)) (va_Qi (fun (r : Int32) (y : St) => post r y) (fun y t => Wd dC dI cI cB cJ cZ ad stM kcM 115 (va_A (pic ad stM kcM 115 cI cB cJ cZ x) sz) y t.heap) (va_A (pic ad stM kcM 115 cI cB cJ cZ x) sz)) 0 0 (va_A (pic ad stM kcM 115 cI cB cJ cZ x) sz) := by
  refine Met.ofW (cc := b_Mod_isFrame) (maxL := 2) (ret := some (.boolean)) (by decide) rfl ?_
  intro p e s m args below meth c s₁ B hml hv
  obtain ⟨rfl, hsz, hW0, hK, hN⟩ := hv
  have hx := B.exec
  have hb := B.bytes
  have hr := B.returns
  have hts := atoms_spec B.pre
  have hT : ∀ w ∈ TG, w.before _ s = true := fun w h => hts w (List.mem_cons_of_mem _ h)
  have hown : s.vm.findClass R_Mod = some m.cls := findClass_of_methodNamed B.named
  have hlocks := B.notSynchronized
  subst hsz
  have hW : Wd dC dI cI cB cJ cZ ad stM kcM 115 (va_A (pic ad stM kcM 115 cI cB cJ cZ x) s.heap.size) x s.heap := ⟨hW0.1, hW0.2.1.self (sz := s.heap.size), hW0.2.2⟩
  generalize hAe : va_A (pic ad stM kcM 115 cI cB cJ cZ x) s.heap.size = A at hW ⊢
  have hA : ∀ q : Nat, s.heap.size ≤ q → A q := fun q h => by rw [← hAe]; exact Or.inr h
  have hS : va_S A s.heap s.heap [] := va_S.rf
  have hl := lv_entry ([.ref (ad 0), .int l1]) (n := 2) (Nat.le_of_ble_eq_true rfl)
  rw [lg_entry_eq]
  generalize (lg_sl ([.ref (ad 0), .int l1]) ++ List.replicate (2 - (lg_sl ([.ref (ad 0), .int l1])).length) Slot.unset).toArray = ls at hl ⊢
  have hl : lv_has ls 2 [(0, .ref (ad 0)), (1, .int l1)] := hl
  exact t_Mod_isFrame_e hx hb hml hown hT hK hN hA (Nat.le_refl 0) (Nat.le_refl 0) (Nat.le_refl 0) (Nat.le_refl 0) (fun r x H locs pc ls hd hz hp hW hS => W.zret (v := r) (ty := .boolean) hx hb hr hz (fun t ht hM => ⟨⟨r, x, rfl, hp, Wd.back hW ht.symm (fun _ z => z)⟩, hS.F ht⟩) hS.2.2 hd hlocks)  l1 x _ _ ls  hw hW hS hl
end
