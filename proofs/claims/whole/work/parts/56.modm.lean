theorem fr_Mod_65 : F_Mod 65 = (R_Mod, "fileSize", "I", false) := rfl
theorem w_11_131 : (Jvm.Cond.methodLink "StripedVaultModel" (822 : Nat) ({ cls := "StripedVaultModel", name := "addFrame", desc := "()V" } : Jvm.MethodName)) ∈ TG := tw_11 131 (by decide +kernel) (by decide +kernel)
theorem w_11_133 : (Jvm.Cond.instanceMethod ({ cls := "StripedVaultModel", name := "addFrame", desc := "()V" } : Jvm.MethodName)) ∈ TG := tw_11 133 (by decide +kernel) (by decide +kernel)
theorem w_11_134 : (Jvm.Cond.code ({ cls := "StripedVaultModel", name := "addFrame", desc := "()V" } : Jvm.MethodName) prog_14_method_115_code (1 : Nat) (Option.none : Option Jvm.ClassFile.FieldType)) ∈ TG := tw_11 134 (by decide +kernel) (by decide +kernel)
theorem w_11_139 : (Jvm.Cond.methodLink "StripedVaultModel" (825 : Nat) ({ cls := "StripedVaultModel", name := "writeChunk", desc := "(IIIII)Z" } : Jvm.MethodName)) ∈ TG := tw_11 139 (by decide +kernel) (by decide +kernel)
theorem w_11_141 : (Jvm.Cond.instanceMethod ({ cls := "StripedVaultModel", name := "writeChunk", desc := "(IIIII)Z" } : Jvm.MethodName)) ∈ TG := tw_11 141 (by decide +kernel) (by decide +kernel)
theorem w_11_142 : (Jvm.Cond.code ({ cls := "StripedVaultModel", name := "writeChunk", desc := "(IIIII)Z" } : Jvm.MethodName) prog_14_method_110_code (11 : Nat) (Option.some Jvm.ClassFile.FieldType.boolean)) ∈ TG := tw_11 142 (by decide +kernel) (by decide +kernel)
theorem w_12_56 : (Jvm.Cond.methodLink "StripedVaultModel" (829 : Nat) ({ cls := "StripedVaultModel", name := "putFooter", desc := "(I)V" } : Jvm.MethodName)) ∈ TG := tw_12 56 (by decide +kernel) (by decide +kernel)
theorem w_12_58 : (Jvm.Cond.instanceMethod ({ cls := "StripedVaultModel", name := "putFooter", desc := "(I)V" } : Jvm.MethodName)) ∈ TG := tw_12 58 (by decide +kernel) (by decide +kernel)
theorem w_12_59 : (Jvm.Cond.code ({ cls := "StripedVaultModel", name := "putFooter", desc := "(I)V" } : Jvm.MethodName) prog_14_method_114_code (6 : Nat) (Option.none : Option Jvm.ClassFile.FieldType)) ∈ TG := tw_12 59 (by decide +kernel) (by decide +kernel)
theorem w_12_60 : (Jvm.Cond.methodLink "StripedVaultModel" (819 : Nat) ({ cls := "StripedVaultModel", name := "putChunk", desc := "(IIII)V" } : Jvm.MethodName)) ∈ TG := tw_12 60 (by decide +kernel) (by decide +kernel)
theorem w_12_62 : (Jvm.Cond.instanceMethod ({ cls := "StripedVaultModel", name := "putChunk", desc := "(IIII)V" } : Jvm.MethodName)) ∈ TG := tw_12 62 (by decide +kernel) (by decide +kernel)
theorem w_12_63 : (Jvm.Cond.code ({ cls := "StripedVaultModel", name := "putChunk", desc := "(IIII)V" } : Jvm.MethodName) prog_14_method_113_code (10 : Nat) (Option.none : Option Jvm.ClassFile.FieldType)) ∈ TG := tw_12 63 (by decide +kernel) (by decide +kernel)
theorem w_9_1 : (Jvm.Cond.fieldLink "StripedVaultModel" (832 : Nat) "StripedVaultModel" "fileSize" "I") ∈ TG := tw_9 1 (by decide +kernel) (by decide +kernel)
theorem ws_138 : Cond.selects R_Mod y_Mod_addFrame y_Mod_addFrame ∈ TG := tw_s 138 (by decide +kernel) (by decide +kernel)
theorem ws_140 : Cond.selects R_Mod y_Mod_writeChunk y_Mod_writeChunk ∈ TG := tw_s 140 (by decide +kernel) (by decide +kernel)
theorem ws_176 : Cond.selects R_Mod y_Mod_putFooter y_Mod_putFooter ∈ TG := tw_s 176 (by decide +kernel) (by decide +kernel)
theorem ws_177 : Cond.selects R_Mod y_Mod_putChunk y_Mod_putChunk ∈ TG := tw_s 177 (by decide +kernel) (by decide +kernel)
theorem d_Mod_putFooter_180 : decode b_Mod_putFooter 180 = .ok (.iload 5, 2) := by decide +kernel
theorem d_Mod_putFooter_182 : decode b_Mod_putFooter 182 = .ok (.aload_n 0, 1) := by decide +kernel
theorem d_Mod_putFooter_183 : decode b_Mod_putFooter 183 = .ok (.getfield 38, 3) := by decide +kernel
theorem d_Mod_putFooter_186 : decode b_Mod_putFooter 186 = .ok (.iconst 0, 1) := by decide +kernel
theorem d_Mod_putFooter_187 : decode b_Mod_putFooter 187 = .ok (.iaload, 1) := by decide +kernel
theorem d_Mod_putFooter_188 : decode b_Mod_putFooter 188 = .ok (.if_icmp .ge 22, 3) := by decide +kernel
theorem d_Mod_putFooter_210 : decode b_Mod_putFooter 210 = .ok (.iload_n 3, 1) := by decide +kernel
theorem d_Mod_putFooter_211 : decode b_Mod_putFooter 211 = .ok (.iload_n 1, 1) := by decide +kernel
theorem d_Mod_putFooter_212 : decode b_Mod_putFooter 212 = .ok (.iadd, 1) := by decide +kernel
theorem d_Mod_putFooter_213 : decode b_Mod_putFooter 213 = .ok (.istore_n 3, 1) := by decide +kernel
theorem d_Mod_putFooter_214 : decode b_Mod_putFooter 214 = .ok (.goto (-76), 3) := by decide +kernel
theorem d_Mod_putFooter_191 : decode b_Mod_putFooter 191 = .ok (.aload_n 0, 1) := by decide +kernel
theorem d_Mod_putFooter_192 : decode b_Mod_putFooter 192 = .ok (.iload_n 2, 1) := by decide +kernel
theorem d_Mod_putFooter_193 : decode b_Mod_putFooter 193 = .ok (.iload 5, 2) := by decide +kernel
theorem d_Mod_putFooter_195 : decode b_Mod_putFooter 195 = .ok (.iload_n 3, 1) := by decide +kernel
theorem d_Mod_putFooter_196 : decode b_Mod_putFooter 196 = .ok (.iload 4, 2) := by decide +kernel
theorem d_Mod_putFooter_198 : decode b_Mod_putFooter 198 = .ok (.invokevirtual 819, 3) := by decide +kernel
theorem d_Mod_putFooter_201 : decode b_Mod_putFooter 201 = .ok (.iinc 2 1, 3) := by decide +kernel
theorem d_Mod_putFooter_204 : decode b_Mod_putFooter 204 = .ok (.iinc 5 1, 3) := by decide +kernel
theorem d_Mod_putFooter_207 : decode b_Mod_putFooter 207 = .ok (.goto (-27), 3) := by decide +kernel
theorem d_Mod_putFooter_166 : decode b_Mod_putFooter 166 = .ok (.istore 4, 2) := by decide +kernel
theorem d_Mod_putFooter_168 : decode b_Mod_putFooter 168 = .ok (.aload_n 0, 1) := by decide +kernel
theorem d_Mod_putFooter_169 : decode b_Mod_putFooter 169 = .ok (.iload 4, 2) := by decide +kernel
theorem d_Mod_putFooter_171 : decode b_Mod_putFooter 171 = .ok (.iload_n 3, 1) := by decide +kernel
theorem d_Mod_putFooter_172 : decode b_Mod_putFooter 172 = .ok (.isub, 1) := by decide +kernel
theorem d_Mod_putFooter_173 : decode b_Mod_putFooter 173 = .ok (.i2l, 1) := by decide +kernel
theorem d_Mod_putFooter_174 : decode b_Mod_putFooter 174 = .ok (.invokevirtual 567, 3) := by decide +kernel
theorem d_Mod_putFooter_177 : decode b_Mod_putFooter 177 = .ok (.iconst 0, 1) := by decide +kernel
theorem d_Mod_putFooter_178 : decode b_Mod_putFooter 178 = .ok (.istore 5, 2) := by decide +kernel
theorem d_Mod_putFooter_138 : decode b_Mod_putFooter 138 = .ok (.iload_n 3, 1) := by decide +kernel
theorem d_Mod_putFooter_139 : decode b_Mod_putFooter 139 = .ok (.aload_n 0, 1) := by decide +kernel
theorem d_Mod_putFooter_140 : decode b_Mod_putFooter 140 = .ok (.getfield 523, 3) := by decide +kernel
theorem d_Mod_putFooter_143 : decode b_Mod_putFooter 143 = .ok (.if_icmp .ge 74, 3) := by decide +kernel
theorem d_Mod_putFooter_217 : decode b_Mod_putFooter 217 = .ok (.return_, 1) := by decide +kernel
theorem d_Mod_putFooter_146 : decode b_Mod_putFooter 146 = .ok (.iload_n 3, 1) := by decide +kernel
theorem d_Mod_putFooter_147 : decode b_Mod_putFooter 147 = .ok (.iload_n 1, 1) := by decide +kernel
theorem d_Mod_putFooter_148 : decode b_Mod_putFooter 148 = .ok (.iadd, 1) := by decide +kernel
theorem d_Mod_putFooter_149 : decode b_Mod_putFooter 149 = .ok (.aload_n 0, 1) := by decide +kernel
theorem d_Mod_putFooter_150 : decode b_Mod_putFooter 150 = .ok (.getfield 523, 3) := by decide +kernel
theorem d_Mod_putFooter_153 : decode b_Mod_putFooter 153 = .ok (.if_icmp .ge 9, 3) := by decide +kernel
theorem d_Mod_putFooter_162 : decode b_Mod_putFooter 162 = .ok (.aload_n 0, 1) := by decide +kernel
theorem d_Mod_putFooter_163 : decode b_Mod_putFooter 163 = .ok (.getfield 523, 3) := by decide +kernel
theorem d_Mod_putFooter_156 : decode b_Mod_putFooter 156 = .ok (.iload_n 3, 1) := by decide +kernel
theorem d_Mod_putFooter_157 : decode b_Mod_putFooter 157 = .ok (.iload_n 1, 1) := by decide +kernel
theorem d_Mod_putFooter_158 : decode b_Mod_putFooter 158 = .ok (.iadd, 1) := by decide +kernel
theorem d_Mod_putFooter_159 : decode b_Mod_putFooter 159 = .ok (.goto 7, 3) := by decide +kernel
theorem d_Mod_putFooter_73 : decode b_Mod_putFooter 73 = .ok (.iload_n 3, 1) := by decide +kernel
theorem d_Mod_putFooter_74 : decode b_Mod_putFooter 74 = .ok (.aload_n 0, 1) := by decide +kernel
theorem d_Mod_putFooter_75 : decode b_Mod_putFooter 75 = .ok (.getfield 29, 3) := by decide +kernel
theorem d_Mod_putFooter_78 : decode b_Mod_putFooter 78 = .ok (.iload_n 2, 1) := by decide +kernel
theorem d_Mod_putFooter_79 : decode b_Mod_putFooter 79 = .ok (.iaload, 1) := by decide +kernel
theorem d_Mod_putFooter_80 : decode b_Mod_putFooter 80 = .ok (.if_icmp .ge 24, 3) := by decide +kernel
theorem d_Mod_putFooter_104 : decode b_Mod_putFooter 104 = .ok (.iinc 2 1, 3) := by decide +kernel
theorem d_Mod_putFooter_107 : decode b_Mod_putFooter 107 = .ok (.goto (-89), 3) := by decide +kernel
theorem d_Mod_putFooter_83 : decode b_Mod_putFooter 83 = .ok (.aload_n 0, 1) := by decide +kernel
theorem d_Mod_putFooter_84 : decode b_Mod_putFooter 84 = .ok (.aload_n 0, 1) := by decide +kernel
theorem d_Mod_putFooter_85 : decode b_Mod_putFooter 85 = .ok (.getfield 32, 3) := by decide +kernel
theorem d_Mod_putFooter_88 : decode b_Mod_putFooter 88 = .ok (.bipush 16, 2) := by decide +kernel
theorem d_Mod_putFooter_90 : decode b_Mod_putFooter 90 = .ok (.iload_n 2, 1) := by decide +kernel
theorem d_Mod_putFooter_91 : decode b_Mod_putFooter 91 = .ok (.imul, 1) := by decide +kernel
theorem d_Mod_putFooter_92 : decode b_Mod_putFooter 92 = .ok (.iload_n 3, 1) := by decide +kernel
theorem d_Mod_putFooter_93 : decode b_Mod_putFooter 93 = .ok (.iadd, 1) := by decide +kernel
theorem d_Mod_putFooter_94 : decode b_Mod_putFooter 94 = .ok (.iaload, 1) := by decide +kernel
theorem d_Mod_putFooter_95 : decode b_Mod_putFooter 95 = .ok (.invokevirtual 558, 3) := by decide +kernel
theorem d_Mod_putFooter_98 : decode b_Mod_putFooter 98 = .ok (.iinc 3 1, 3) := by decide +kernel
theorem d_Mod_putFooter_101 : decode b_Mod_putFooter 101 = .ok (.goto (-28), 3) := by decide +kernel
theorem d_Mod_putFooter_18 : decode b_Mod_putFooter 18 = .ok (.iload_n 2, 1) := by decide +kernel
theorem d_Mod_putFooter_19 : decode b_Mod_putFooter 19 = .ok (.aload_n 0, 1) := by decide +kernel
theorem d_Mod_putFooter_20 : decode b_Mod_putFooter 20 = .ok (.getfield 35, 3) := by decide +kernel
theorem d_Mod_putFooter_23 : decode b_Mod_putFooter 23 = .ok (.iconst 0, 1) := by decide +kernel
theorem d_Mod_putFooter_24 : decode b_Mod_putFooter 24 = .ok (.iaload, 1) := by decide +kernel
theorem d_Mod_putFooter_25 : decode b_Mod_putFooter 25 = .ok (.if_icmp .ge 85, 3) := by decide +kernel
theorem d_Mod_putFooter_110 : decode b_Mod_putFooter 110 = .ok (.aload_n 0, 1) := by decide +kernel
theorem d_Mod_putFooter_111 : decode b_Mod_putFooter 111 = .ok (.aload_n 0, 1) := by decide +kernel
theorem d_Mod_putFooter_112 : decode b_Mod_putFooter 112 = .ok (.getfield 523, 3) := by decide +kernel
theorem d_Mod_putFooter_115 : decode b_Mod_putFooter 115 = .ok (.i2l, 1) := by decide +kernel
theorem d_Mod_putFooter_116 : decode b_Mod_putFooter 116 = .ok (.invokevirtual 567, 3) := by decide +kernel
theorem d_Mod_putFooter_119 : decode b_Mod_putFooter 119 = .ok (.aload_n 0, 1) := by decide +kernel
theorem d_Mod_putFooter_120 : decode b_Mod_putFooter 120 = .ok (.aload_n 0, 1) := by decide +kernel
theorem d_Mod_putFooter_121 : decode b_Mod_putFooter 121 = .ok (.getfield 523, 3) := by decide +kernel
theorem d_Mod_putFooter_124 : decode b_Mod_putFooter 124 = .ok (.iload_n 1, 1) := by decide +kernel
theorem d_Mod_putFooter_125 : decode b_Mod_putFooter 125 = .ok (.iadd, 1) := by decide +kernel
theorem d_Mod_putFooter_126 : decode b_Mod_putFooter 126 = .ok (.iconst 1, 1) := by decide +kernel
theorem d_Mod_putFooter_127 : decode b_Mod_putFooter 127 = .ok (.isub, 1) := by decide +kernel
theorem d_Mod_putFooter_128 : decode b_Mod_putFooter 128 = .ok (.iload_n 1, 1) := by decide +kernel
theorem d_Mod_putFooter_129 : decode b_Mod_putFooter 129 = .ok (.idiv, 1) := by decide +kernel
theorem d_Mod_putFooter_130 : decode b_Mod_putFooter 130 = .ok (.i2l, 1) := by decide +kernel
theorem d_Mod_putFooter_131 : decode b_Mod_putFooter 131 = .ok (.invokevirtual 567, 3) := by decide +kernel
theorem d_Mod_putFooter_134 : decode b_Mod_putFooter 134 = .ok (.iconst 0, 1) := by decide +kernel
theorem d_Mod_putFooter_135 : decode b_Mod_putFooter 135 = .ok (.istore_n 2, 1) := by decide +kernel
theorem d_Mod_putFooter_136 : decode b_Mod_putFooter 136 = .ok (.iconst 0, 1) := by decide +kernel
theorem d_Mod_putFooter_137 : decode b_Mod_putFooter 137 = .ok (.istore_n 3, 1) := by decide +kernel
theorem d_Mod_putFooter_28 : decode b_Mod_putFooter 28 = .ok (.aload_n 0, 1) := by decide +kernel
theorem d_Mod_putFooter_29 : decode b_Mod_putFooter 29 = .ok (.aload_n 0, 1) := by decide +kernel
theorem d_Mod_putFooter_30 : decode b_Mod_putFooter 30 = .ok (.getfield 17, 3) := by decide +kernel
theorem d_Mod_putFooter_33 : decode b_Mod_putFooter 33 = .ok (.iload_n 2, 1) := by decide +kernel
theorem d_Mod_putFooter_34 : decode b_Mod_putFooter 34 = .ok (.iaload, 1) := by decide +kernel
theorem d_Mod_putFooter_35 : decode b_Mod_putFooter 35 = .ok (.iconst 3, 1) := by decide +kernel
theorem d_Mod_putFooter_36 : decode b_Mod_putFooter 36 = .ok (.aload_n 0, 1) := by decide +kernel
theorem d_Mod_putFooter_37 : decode b_Mod_putFooter 37 = .ok (.getfield 20, 3) := by decide +kernel
theorem d_Mod_putFooter_40 : decode b_Mod_putFooter 40 = .ok (.iload_n 2, 1) := by decide +kernel
theorem d_Mod_putFooter_41 : decode b_Mod_putFooter 41 = .ok (.iaload, 1) := by decide +kernel
theorem d_Mod_putFooter_42 : decode b_Mod_putFooter 42 = .ok (.imul, 1) := by decide +kernel
theorem d_Mod_putFooter_43 : decode b_Mod_putFooter 43 = .ok (.iadd, 1) := by decide +kernel
theorem d_Mod_putFooter_44 : decode b_Mod_putFooter 44 = .ok (.invokevirtual 558, 3) := by decide +kernel
theorem d_Mod_putFooter_47 : decode b_Mod_putFooter 47 = .ok (.aload_n 0, 1) := by decide +kernel
theorem d_Mod_putFooter_48 : decode b_Mod_putFooter 48 = .ok (.aload_n 0, 1) := by decide +kernel
theorem d_Mod_putFooter_49 : decode b_Mod_putFooter 49 = .ok (.getfield 23, 3) := by decide +kernel
theorem d_Mod_putFooter_52 : decode b_Mod_putFooter 52 = .ok (.iload_n 2, 1) := by decide +kernel
theorem d_Mod_putFooter_53 : decode b_Mod_putFooter 53 = .ok (.iaload, 1) := by decide +kernel
theorem d_Mod_putFooter_54 : decode b_Mod_putFooter 54 = .ok (.iconst 1, 1) := by decide +kernel
theorem d_Mod_putFooter_55 : decode b_Mod_putFooter 55 = .ok (.iadd, 1) := by decide +kernel
theorem d_Mod_putFooter_56 : decode b_Mod_putFooter 56 = .ok (.i2l, 1) := by decide +kernel
theorem d_Mod_putFooter_57 : decode b_Mod_putFooter 57 = .ok (.invokevirtual 567, 3) := by decide +kernel
theorem d_Mod_putFooter_60 : decode b_Mod_putFooter 60 = .ok (.aload_n 0, 1) := by decide +kernel
theorem d_Mod_putFooter_61 : decode b_Mod_putFooter 61 = .ok (.aload_n 0, 1) := by decide +kernel
theorem d_Mod_putFooter_62 : decode b_Mod_putFooter 62 = .ok (.getfield 29, 3) := by decide +kernel
theorem d_Mod_putFooter_65 : decode b_Mod_putFooter 65 = .ok (.iload_n 2, 1) := by decide +kernel
theorem d_Mod_putFooter_66 : decode b_Mod_putFooter 66 = .ok (.iaload, 1) := by decide +kernel
theorem d_Mod_putFooter_67 : decode b_Mod_putFooter 67 = .ok (.i2l, 1) := by decide +kernel
theorem d_Mod_putFooter_68 : decode b_Mod_putFooter 68 = .ok (.invokevirtual 567, 3) := by decide +kernel
theorem d_Mod_putFooter_71 : decode b_Mod_putFooter 71 = .ok (.iconst 0, 1) := by decide +kernel
theorem d_Mod_putFooter_72 : decode b_Mod_putFooter 72 = .ok (.istore_n 3, 1) := by decide +kernel
theorem d_Mod_putFooter_0 : decode b_Mod_putFooter 0 = .ok (.aload_n 0, 1) := by decide +kernel
theorem d_Mod_putFooter_1 : decode b_Mod_putFooter 1 = .ok (.iconst 0, 1) := by decide +kernel
theorem d_Mod_putFooter_2 : decode b_Mod_putFooter 2 = .ok (.putfield 547, 3) := by decide +kernel
theorem d_Mod_putFooter_5 : decode b_Mod_putFooter 5 = .ok (.aload_n 0, 1) := by decide +kernel
theorem d_Mod_putFooter_6 : decode b_Mod_putFooter 6 = .ok (.aload_n 0, 1) := by decide +kernel
theorem d_Mod_putFooter_7 : decode b_Mod_putFooter 7 = .ok (.getfield 35, 3) := by decide +kernel
theorem d_Mod_putFooter_10 : decode b_Mod_putFooter 10 = .ok (.iconst 0, 1) := by decide +kernel
theorem d_Mod_putFooter_11 : decode b_Mod_putFooter 11 = .ok (.iaload, 1) := by decide +kernel
theorem d_Mod_putFooter_12 : decode b_Mod_putFooter 12 = .ok (.i2l, 1) := by decide +kernel
theorem d_Mod_putFooter_13 : decode b_Mod_putFooter 13 = .ok (.invokevirtual 567, 3) := by decide +kernel
theorem d_Mod_putFooter_16 : decode b_Mod_putFooter 16 = .ok (.iconst 0, 1) := by decide +kernel
theorem d_Mod_putFooter_17 : decode b_Mod_putFooter 17 = .ok (.istore_n 2, 1) := by decide +kernel
theorem d_Mod_write_270 : decode b_Mod_write 270 = .ok (.iload 6, 2) := by decide +kernel
theorem d_Mod_write_272 : decode b_Mod_write 272 = .ok (.aload_n 0, 1) := by decide +kernel
theorem d_Mod_write_273 : decode b_Mod_write 273 = .ok (.getfield 780, 3) := by decide +kernel
theorem d_Mod_write_276 : decode b_Mod_write 276 = .ok (.if_icmp .ge 23, 3) := by decide +kernel
theorem d_Mod_write_299 : decode b_Mod_write 299 = .ok (.aload_n 0, 1) := by decide +kernel
theorem d_Mod_write_300 : decode b_Mod_write 300 = .ok (.aload_n 0, 1) := by decide +kernel
theorem d_Mod_write_301 : decode b_Mod_write 301 = .ok (.getfield 780, 3) := by decide +kernel
theorem d_Mod_write_304 : decode b_Mod_write 304 = .ok (.putfield 832, 3) := by decide +kernel
theorem d_Mod_write_307 : decode b_Mod_write 307 = .ok (.aload_n 0, 1) := by decide +kernel
theorem d_Mod_write_308 : decode b_Mod_write 308 = .ok (.getfield 832, 3) := by decide +kernel
theorem d_Mod_write_311 : decode b_Mod_write 311 = .ok (.ireturn, 1) := by decide +kernel
theorem d_Mod_write_279 : decode b_Mod_write 279 = .ok (.aload_n 0, 1) := by decide +kernel
theorem d_Mod_write_280 : decode b_Mod_write 280 = .ok (.getfield 133, 3) := by decide +kernel
theorem d_Mod_write_283 : decode b_Mod_write 283 = .ok (.iload 6, 2) := by decide +kernel
theorem d_Mod_write_285 : decode b_Mod_write 285 = .ok (.aload_n 0, 1) := by decide +kernel
theorem d_Mod_write_286 : decode b_Mod_write 286 = .ok (.getfield 136, 3) := by decide +kernel
theorem d_Mod_write_289 : decode b_Mod_write 289 = .ok (.iload 6, 2) := by decide +kernel
theorem d_Mod_write_291 : decode b_Mod_write 291 = .ok (.iaload, 1) := by decide +kernel
theorem d_Mod_write_292 : decode b_Mod_write 292 = .ok (.iastore, 1) := by decide +kernel
theorem d_Mod_write_293 : decode b_Mod_write 293 = .ok (.iinc 6 1, 3) := by decide +kernel
theorem d_Mod_write_296 : decode b_Mod_write 296 = .ok (.goto (-26), 3) := by decide +kernel
theorem d_Mod_write_235 : decode b_Mod_write 235 = .ok (.iload 6, 2) := by decide +kernel
theorem d_Mod_write_237 : decode b_Mod_write 237 = .ok (.iconst 4, 1) := by decide +kernel
theorem d_Mod_write_238 : decode b_Mod_write 238 = .ok (.if_icmp .ge 25, 3) := by decide +kernel
theorem d_Mod_write_263 : decode b_Mod_write 263 = .ok (.aload_n 0, 1) := by decide +kernel
theorem d_Mod_write_264 : decode b_Mod_write 264 = .ok (.invokevirtual 822, 3) := by decide +kernel
theorem d_Mod_write_267 : decode b_Mod_write 267 = .ok (.iconst 0, 1) := by decide +kernel
theorem d_Mod_write_268 : decode b_Mod_write 268 = .ok (.istore 6, 2) := by decide +kernel
theorem d_Mod_write_241 : decode b_Mod_write 241 = .ok (.aload_n 0, 1) := by decide +kernel
theorem d_Mod_write_242 : decode b_Mod_write 242 = .ok (.iload 5, 2) := by decide +kernel
theorem d_Mod_write_244 : decode b_Mod_write 244 = .ok (.bipush 8, 2) := by decide +kernel
theorem d_Mod_write_246 : decode b_Mod_write 246 = .ok (.iload 6, 2) := by decide +kernel
theorem d_Mod_write_248 : decode b_Mod_write 248 = .ok (.imul, 1) := by decide +kernel
theorem d_Mod_write_249 : decode b_Mod_write 249 = .ok (.ishr, 1) := by decide +kernel
theorem d_Mod_write_250 : decode b_Mod_write 250 = .ok (.sipush 255, 3) := by decide +kernel
theorem d_Mod_write_253 : decode b_Mod_write 253 = .ok (.iand, 1) := by decide +kernel
theorem d_Mod_write_254 : decode b_Mod_write 254 = .ok (.invokevirtual 783, 3) := by decide +kernel
theorem d_Mod_write_257 : decode b_Mod_write 257 = .ok (.iinc 6 1, 3) := by decide +kernel
theorem d_Mod_write_260 : decode b_Mod_write 260 = .ok (.goto (-25), 3) := by decide +kernel
theorem d_Mod_write_204 : decode b_Mod_write 204 = .ok (.iload 6, 2) := by decide +kernel
theorem d_Mod_write_206 : decode b_Mod_write 206 = .ok (.iconst 4, 1) := by decide +kernel
theorem d_Mod_write_207 : decode b_Mod_write 207 = .ok (.if_icmp .ge 25, 3) := by decide +kernel
theorem d_Mod_write_232 : decode b_Mod_write 232 = .ok (.iconst 0, 1) := by decide +kernel
theorem d_Mod_write_233 : decode b_Mod_write 233 = .ok (.istore 6, 2) := by decide +kernel
theorem d_Mod_write_210 : decode b_Mod_write 210 = .ok (.aload_n 0, 1) := by decide +kernel
theorem d_Mod_write_211 : decode b_Mod_write 211 = .ok (.iload 4, 2) := by decide +kernel
theorem d_Mod_write_213 : decode b_Mod_write 213 = .ok (.bipush 8, 2) := by decide +kernel
theorem d_Mod_write_215 : decode b_Mod_write 215 = .ok (.iload 6, 2) := by decide +kernel
theorem d_Mod_write_217 : decode b_Mod_write 217 = .ok (.imul, 1) := by decide +kernel
theorem d_Mod_write_218 : decode b_Mod_write 218 = .ok (.ishr, 1) := by decide +kernel
theorem d_Mod_write_219 : decode b_Mod_write 219 = .ok (.sipush 255, 3) := by decide +kernel
theorem d_Mod_write_222 : decode b_Mod_write 222 = .ok (.iand, 1) := by decide +kernel
theorem d_Mod_write_223 : decode b_Mod_write 223 = .ok (.invokevirtual 783, 3) := by decide +kernel
theorem d_Mod_write_226 : decode b_Mod_write 226 = .ok (.iinc 6 1, 3) := by decide +kernel
theorem d_Mod_write_229 : decode b_Mod_write 229 = .ok (.goto (-25), 3) := by decide +kernel
theorem d_Mod_write_135 : decode b_Mod_write 135 = .ok (.iconst (-1), 1) := by decide +kernel
theorem d_Mod_write_136 : decode b_Mod_write 136 = .ok (.ireturn, 1) := by decide +kernel
theorem d_Mod_write_128 : decode b_Mod_write 128 = .ok (.iload_n 1, 1) := by decide +kernel
theorem d_Mod_write_129 : decode b_Mod_write 129 = .ok (.invokevirtual 825, 3) := by decide +kernel
theorem d_Mod_write_132 : decode b_Mod_write 132 = .ok (.ifCond .ne 5, 3) := by decide +kernel
theorem d_Mod_write_137 : decode b_Mod_write 137 = .ok (.iinc 3 1, 3) := by decide +kernel
theorem d_Mod_write_140 : decode b_Mod_write 140 = .ok (.iinc 5 1, 3) := by decide +kernel
theorem d_Mod_write_143 : decode b_Mod_write 143 = .ok (.goto (-63), 3) := by decide +kernel
theorem d_Mod_write_80 : decode b_Mod_write 80 = .ok (.iload 5, 2) := by decide +kernel
theorem d_Mod_write_82 : decode b_Mod_write 82 = .ok (.aload_n 0, 1) := by decide +kernel
theorem d_Mod_write_83 : decode b_Mod_write 83 = .ok (.getfield 38, 3) := by decide +kernel
theorem d_Mod_write_86 : decode b_Mod_write 86 = .ok (.iconst 0, 1) := by decide +kernel
theorem d_Mod_write_87 : decode b_Mod_write 87 = .ok (.iaload, 1) := by decide +kernel
theorem d_Mod_write_88 : decode b_Mod_write 88 = .ok (.if_icmp .ge 58, 3) := by decide +kernel
theorem d_Mod_write_146 : decode b_Mod_write 146 = .ok (.iload 4, 2) := by decide +kernel
theorem d_Mod_write_148 : decode b_Mod_write 148 = .ok (.iload_n 2, 1) := by decide +kernel
theorem d_Mod_write_149 : decode b_Mod_write 149 = .ok (.iadd, 1) := by decide +kernel
theorem d_Mod_write_150 : decode b_Mod_write 150 = .ok (.istore 4, 2) := by decide +kernel
theorem d_Mod_write_152 : decode b_Mod_write 152 = .ok (.goto (-84), 3) := by decide +kernel
theorem d_Mod_write_91 : decode b_Mod_write 91 = .ok (.aload_n 0, 1) := by decide +kernel
theorem d_Mod_write_92 : decode b_Mod_write 92 = .ok (.getfield 780, 3) := by decide +kernel
theorem d_Mod_write_95 : decode b_Mod_write 95 = .ok (.ldc 7, 2) := by decide +kernel
theorem d_Mod_write_97 : decode b_Mod_write 97 = .ok (.if_icmp .gt 38, 3) := by decide +kernel
theorem d_Mod_write_100 : decode b_Mod_write 100 = .ok (.aload_n 0, 1) := by decide +kernel
theorem d_Mod_write_101 : decode b_Mod_write 101 = .ok (.iload_n 3, 1) := by decide +kernel
theorem d_Mod_write_102 : decode b_Mod_write 102 = .ok (.iload 5, 2) := by decide +kernel
theorem d_Mod_write_104 : decode b_Mod_write 104 = .ok (.iload 4, 2) := by decide +kernel
theorem d_Mod_write_106 : decode b_Mod_write 106 = .ok (.iload 4, 2) := by decide +kernel
theorem d_Mod_write_108 : decode b_Mod_write 108 = .ok (.iload_n 2, 1) := by decide +kernel
theorem d_Mod_write_109 : decode b_Mod_write 109 = .ok (.iadd, 1) := by decide +kernel
theorem d_Mod_write_110 : decode b_Mod_write 110 = .ok (.aload_n 0, 1) := by decide +kernel
theorem d_Mod_write_111 : decode b_Mod_write 111 = .ok (.getfield 523, 3) := by decide +kernel
theorem d_Mod_write_114 : decode b_Mod_write 114 = .ok (.if_icmp .ge 10, 3) := by decide +kernel
theorem d_Mod_write_124 : decode b_Mod_write 124 = .ok (.aload_n 0, 1) := by decide +kernel
theorem d_Mod_write_125 : decode b_Mod_write 125 = .ok (.getfield 523, 3) := by decide +kernel
theorem d_Mod_write_117 : decode b_Mod_write 117 = .ok (.iload 4, 2) := by decide +kernel
theorem d_Mod_write_119 : decode b_Mod_write 119 = .ok (.iload_n 2, 1) := by decide +kernel
theorem d_Mod_write_120 : decode b_Mod_write 120 = .ok (.iadd, 1) := by decide +kernel
theorem d_Mod_write_121 : decode b_Mod_write 121 = .ok (.goto 7, 3) := by decide +kernel
theorem d_Mod_write_68 : decode b_Mod_write 68 = .ok (.iload 4, 2) := by decide +kernel
theorem d_Mod_write_70 : decode b_Mod_write 70 = .ok (.aload_n 0, 1) := by decide +kernel
theorem d_Mod_write_71 : decode b_Mod_write 71 = .ok (.getfield 523, 3) := by decide +kernel
theorem d_Mod_write_74 : decode b_Mod_write 74 = .ok (.if_icmp .ge 81, 3) := by decide +kernel
theorem d_Mod_write_155 : decode b_Mod_write 155 = .ok (.aload_n 0, 1) := by decide +kernel
theorem d_Mod_write_156 : decode b_Mod_write 156 = .ok (.iload_n 2, 1) := by decide +kernel
theorem d_Mod_write_157 : decode b_Mod_write 157 = .ok (.invokevirtual 829, 3) := by decide +kernel
theorem d_Mod_write_160 : decode b_Mod_write 160 = .ok (.aload_n 0, 1) := by decide +kernel
theorem d_Mod_write_161 : decode b_Mod_write 161 = .ok (.getfield 780, 3) := by decide +kernel
theorem d_Mod_write_164 : decode b_Mod_write 164 = .ok (.aload_n 0, 1) := by decide +kernel
theorem d_Mod_write_165 : decode b_Mod_write 165 = .ok (.getfield 547, 3) := by decide +kernel
theorem d_Mod_write_168 : decode b_Mod_write 168 = .ok (.iadd, 1) := by decide +kernel
theorem d_Mod_write_169 : decode b_Mod_write 169 = .ok (.bipush 12, 2) := by decide +kernel
theorem d_Mod_write_171 : decode b_Mod_write 171 = .ok (.iadd, 1) := by decide +kernel
theorem d_Mod_write_172 : decode b_Mod_write 172 = .ok (.ldc 7, 2) := by decide +kernel
theorem d_Mod_write_174 : decode b_Mod_write 174 = .ok (.if_icmp .le 5, 3) := by decide +kernel
theorem d_Mod_write_179 : decode b_Mod_write 179 = .ok (.aload_n 0, 1) := by decide +kernel
theorem d_Mod_write_180 : decode b_Mod_write 180 = .ok (.invokevirtual 807, 3) := by decide +kernel
theorem d_Mod_write_183 : decode b_Mod_write 183 = .ok (.aload_n 0, 1) := by decide +kernel
theorem d_Mod_write_184 : decode b_Mod_write 184 = .ok (.getfield 547, 3) := by decide +kernel
theorem d_Mod_write_187 : decode b_Mod_write 187 = .ok (.istore 4, 2) := by decide +kernel
theorem d_Mod_write_189 : decode b_Mod_write 189 = .ok (.aload_n 0, 1) := by decide +kernel
theorem d_Mod_write_190 : decode b_Mod_write 190 = .ok (.getfield 127, 3) := by decide +kernel
theorem d_Mod_write_193 : decode b_Mod_write 193 = .ok (.iconst 0, 1) := by decide +kernel
theorem d_Mod_write_194 : decode b_Mod_write 194 = .ok (.iload 4, 2) := by decide +kernel
theorem d_Mod_write_196 : decode b_Mod_write 196 = .ok (.invokestatic 777, 3) := by decide +kernel
theorem d_Mod_write_199 : decode b_Mod_write 199 = .ok (.istore 5, 2) := by decide +kernel
theorem d_Mod_write_201 : decode b_Mod_write 201 = .ok (.iconst 0, 1) := by decide +kernel
theorem d_Mod_write_202 : decode b_Mod_write 202 = .ok (.istore 6, 2) := by decide +kernel
theorem d_Mod_write_177 : decode b_Mod_write 177 = .ok (.iconst (-1), 1) := by decide +kernel
theorem d_Mod_write_178 : decode b_Mod_write 178 = .ok (.ireturn, 1) := by decide +kernel
theorem d_Mod_write_77 : decode b_Mod_write 77 = .ok (.iconst 0, 1) := by decide +kernel
theorem d_Mod_write_78 : decode b_Mod_write 78 = .ok (.istore 5, 2) := by decide +kernel
theorem d_Mod_write_52 : decode b_Mod_write 52 = .ok (.iconst (-1), 1) := by decide +kernel
theorem d_Mod_write_53 : decode b_Mod_write 53 = .ok (.ireturn, 1) := by decide +kernel
theorem d_Mod_write_0 : decode b_Mod_write 0 = .ok (.aload_n 0, 1) := by decide +kernel
theorem d_Mod_write_1 : decode b_Mod_write 1 = .ok (.iconst 0, 1) := by decide +kernel
theorem d_Mod_write_2 : decode b_Mod_write 2 = .ok (.putfield 360, 3) := by decide +kernel
theorem d_Mod_write_5 : decode b_Mod_write 5 = .ok (.aload_n 0, 1) := by decide +kernel
theorem d_Mod_write_6 : decode b_Mod_write 6 = .ok (.getfield 466, 3) := by decide +kernel
theorem d_Mod_write_9 : decode b_Mod_write 9 = .ok (.ifCond .eq 43, 3) := by decide +kernel
theorem d_Mod_write_12 : decode b_Mod_write 12 = .ok (.iload_n 1, 1) := by decide +kernel
theorem d_Mod_write_13 : decode b_Mod_write 13 = .ok (.iconst 1, 1) := by decide +kernel
theorem d_Mod_write_14 : decode b_Mod_write 14 = .ok (.if_icmp .lt 38, 3) := by decide +kernel
theorem d_Mod_write_17 : decode b_Mod_write 17 = .ok (.iload_n 1, 1) := by decide +kernel
theorem d_Mod_write_18 : decode b_Mod_write 18 = .ok (.sipush 1000, 3) := by decide +kernel
theorem d_Mod_write_21 : decode b_Mod_write 21 = .ok (.if_icmp .gt 31, 3) := by decide +kernel
theorem d_Mod_write_24 : decode b_Mod_write 24 = .ok (.iload_n 2, 1) := by decide +kernel
theorem d_Mod_write_25 : decode b_Mod_write 25 = .ok (.iconst 1, 1) := by decide +kernel
theorem d_Mod_write_26 : decode b_Mod_write 26 = .ok (.if_icmp .lt 26, 3) := by decide +kernel
theorem d_Mod_write_29 : decode b_Mod_write 29 = .ok (.iload_n 2, 1) := by decide +kernel
theorem d_Mod_write_30 : decode b_Mod_write 30 = .ok (.sipush 2000, 3) := by decide +kernel
theorem d_Mod_write_33 : decode b_Mod_write 33 = .ok (.if_icmp .gt 19, 3) := by decide +kernel
theorem d_Mod_write_36 : decode b_Mod_write 36 = .ok (.aload_n 0, 1) := by decide +kernel
theorem d_Mod_write_37 : decode b_Mod_write 37 = .ok (.getfield 523, 3) := by decide +kernel
theorem d_Mod_write_40 : decode b_Mod_write 40 = .ok (.iload_n 2, 1) := by decide +kernel
theorem d_Mod_write_41 : decode b_Mod_write 41 = .ok (.iadd, 1) := by decide +kernel
theorem d_Mod_write_42 : decode b_Mod_write 42 = .ok (.iconst 1, 1) := by decide +kernel
theorem d_Mod_write_43 : decode b_Mod_write 43 = .ok (.isub, 1) := by decide +kernel
theorem d_Mod_write_44 : decode b_Mod_write 44 = .ok (.iload_n 2, 1) := by decide +kernel
theorem d_Mod_write_45 : decode b_Mod_write 45 = .ok (.idiv, 1) := by decide +kernel
theorem d_Mod_write_46 : decode b_Mod_write 46 = .ok (.sipush 500, 3) := by decide +kernel
theorem d_Mod_write_49 : decode b_Mod_write 49 = .ok (.if_icmp .le 5, 3) := by decide +kernel
theorem d_Mod_write_54 : decode b_Mod_write 54 = .ok (.aload_n 0, 1) := by decide +kernel
theorem d_Mod_write_55 : decode b_Mod_write 55 = .ok (.iconst 0, 1) := by decide +kernel
theorem d_Mod_write_56 : decode b_Mod_write 56 = .ok (.putfield 780, 3) := by decide +kernel
theorem d_Mod_write_59 : decode b_Mod_write 59 = .ok (.aload_n 0, 1) := by decide +kernel
theorem d_Mod_write_60 : decode b_Mod_write 60 = .ok (.invokevirtual 822, 3) := by decide +kernel
theorem d_Mod_write_63 : decode b_Mod_write 63 = .ok (.iconst 0, 1) := by decide +kernel
theorem d_Mod_write_64 : decode b_Mod_write 64 = .ok (.istore_n 3, 1) := by decide +kernel
theorem d_Mod_write_65 : decode b_Mod_write 65 = .ok (.iconst 0, 1) := by decide +kernel
theorem d_Mod_write_66 : decode b_Mod_write 66 = .ok (.istore 4, 2) := by decide +kernel
section
variable (l : Launch) (dC : Nat → ClassId) (dI : Nat → Nat → Nat) (cI cB cJ cZ : ClassId)
set_option maxRecDepth 100000 in
set_option maxHeartbeats 4000000 in
set_option maxRecDepth 100000 in
theorem t_Mod_putFooter_180 {p : Program} {l : Launch} {e : Env} {R : Room} {s : State} {m : MethodId} {args : Array Value} {below : List Frame} {meth : Method} {c : Code} {cells slots : Nat} {Q : State → Prop} {dC : Nat → ClassId} {dI : Nat → Nat → Nat} {cI cB cJ cZ : ClassId} {A : Nat → Prop} {ad : Nat → Nat} {post : St → Prop} {rec138 : Int32 → Int32 → Int32 → St → Prop} {rec180 : Int32 → Int32 → Int32 → Int32 → Int32 → St → Prop} (hx : p.tables.exec = Jvm.exec) (hb : c.code = b_Mod_putFooter) (hml : c.maxLocals = 6) (hown : s.vm.findClass R_Mod = some m.cls) (hT : ∀ w ∈ TG, w.before args s = true) (hK : va_K (dC, dI) CL (TY cI cB cJ cZ) s) (hN : NW s) (hA : ∀ q : Nat, s.heap.size ≤ q → A q) (hRc : cells ≤ R.cells) (hRs : slots ≤ R.slots) (hRf : 5 ≤ R.frames) (hRl : 119 ≤ R.locals) (hret : ∀ (x : St) (H : Heap) (locs : List Loc) (pc : Nat) (ls : Array Slot), decode b_Mod_putFooter pc = .ok (.return_, 1) → post x → Wd dC dI cI cB cJ cZ ad stM kcM 115 A x H → va_S A s.heap H locs → W p l e R s m args below meth c H locs cells slots Q (F0 m pc ls [])) (hrec138 : ∀ (l1 : Int32) (l2 : Int32) (l3 : Int32) (x : St) (H : Heap) (locs : List Loc) (ls : Array Slot), rec138 l1 l2 l3 x → Wd dC dI cI cB cJ cZ ad stM kcM 115 A x H → va_S A s.heap H locs → lv_has ls 6 [(0, .ref (ad 0)), (1, .int l1), (2, .int l2), (3, .int l3)] → W p l e R s m args below meth c H locs cells slots Q (F0 m 138 ls [])) (hrec180 : ∀ (l1 : Int32) (l2 : Int32) (l3 : Int32) (l4 : Int32) (l5 : Int32) (x : St) (H : Heap) (locs : List Loc) (ls : Array Slot), rec180 l1 l2 l3 l4 l5 x → Wd dC dI cI cB cJ cZ ad stM kcM 115 A x H → va_S A s.heap H locs → lv_has ls 6 [(0, .ref (ad 0)), (1, .int l1), (2, .int l2), (3, .int l3), (4, .int l4), (5, .int l5)] → W p l e R s m args below meth c H locs cells slots Q (F0 m 180 ls [])) : ∀ (l1 : Int32) (l2 : Int32) (l3 : Int32) (l4 : Int32) (l5 : Int32) (x : St) (H : Heap) (locs : List Loc) (ls : Array Slot), j_Mod_putFooter_180 post rec138 rec180 l1 l2 l3 l4 l5 x → Wd dC dI cI cB cJ cZ ad stM kcM 115 A x H → va_S A s.heap H locs → lv_has ls 6 [(0, .ref (ad 0)), (1, .int l1), (2, .int l2), (3, .int l3), (4, .int l4), (5, .int l5)] → W p l e R s m args below meth c H locs cells slots Q (F0 m 180 ls []) := by
  intro l1 l2 l3 l4 l5 x H locs ls  hw hW hS hl
  unfold j_Mod_putFooter_180 at hw
  refine lv_iload hx hb d_Mod_putFooter_180 (lv_at hl 5 rfl) ?_
  refine lv_aload_n hx hb d_Mod_putFooter_182 rfl (lv_at hl 0 rfl) ?_
  refine w_getf (q := 10) (k := 12) (t := 12) (C := R_Mod) (T := F_Mod) (N := 167) hx hb hT hown hK hW ko_0.1 ko_0.2 (by decide) in_Mod rfl rfl (by decide) rfl fr_Mod_12 w_8_188 d_Mod_putFooter_183 rfl ?_
  refine lv_iconst (v := 0) hx hb d_Mod_putFooter_186 (by decide) ?_
  obtain ⟨hi, hw⟩ := hw
  refine w_iald (o := 10) hx hb hK hW ko_10.1 ko_10.2 hi d_Mod_putFooter_187 ?_
  refine lv_icmp_ge (tgt := 210) hx hb d_Mod_putFooter_188 (by decide) (fun c845 => ?_) (fun c845 => ?_)
  · have hw := hw.1 c845
    refine lv_iload_n hx hb d_Mod_putFooter_210 rfl (lv_at hl 3 rfl) ?_
    refine lv_iload_n hx hb d_Mod_putFooter_211 rfl (lv_at hl 1 rfl) ?_
    refine lv_iadd hx hb d_Mod_putFooter_212 ?_
    refine lv_topi (fun v846 ev846 => ?_)
    have hw := hw v846 ev846
    refine lv_istore_n (lv' := [(3, .int v846), (0, .ref (ad 0)), (1, .int l1), (2, .int l2), (4, .int l4), (5, .int l5)]) hx hb d_Mod_putFooter_213 rfl hl (by decide) rfl (fun ls hl => ?_)
    refine lv_goto (tgt := 138) hx hb d_Mod_putFooter_214 (by decide) ?_
    exact hrec138 l1 l2 v846 x H locs ls  hw hW hS (lv_sub hl [1, 2, 3, 0] rfl)
  · have hw := hw.2 c845
    refine lv_aload_n hx hb d_Mod_putFooter_191 rfl (lv_at hl 0 rfl) ?_
    refine lv_iload_n hx hb d_Mod_putFooter_192 rfl (lv_at hl 2 rfl) ?_
    refine lv_iload hx hb d_Mod_putFooter_193 (lv_at hl 5 rfl) ?_
    refine lv_iload_n hx hb d_Mod_putFooter_195 rfl (lv_at hl 3 rfl) ?_
    refine lv_iload hx hb d_Mod_putFooter_196 (lv_at hl 4 rfl) ?_
    have hF := hW.free hS hA
    refine va_callv (va_runV (C := R_Mod) (As := [.int l2, .int l5, .int l3, .int l4]) (rest := []) ⟨hx, hb, hml, hown, hT⟩ (k_Mod_putChunk l dC dI cI cB cJ cZ ad H.size l2 l5 l3 l4 x  hw) ⟨callB_of 4 hT (gwt_in w_12_63) rfl rfl rfl (hT _ w_1_15) (hT _ w_12_60) (by decide +kernel) ⟨Nat.le_trans (Nat.le_of_ble_eq_true rfl) hRf, Nat.le_trans (Nat.le_of_ble_eq_true rfl) hRl⟩, hT _ w_12_62, hT _ ws_177⟩ ⟨PW.blind, va_recv hK hW.1 (ci := 12) (q0 := 0) rfl (pic_obj ko_0.1 ko_0.2 (by decide)), PW.at _ hW hK hN⟩ rfl rfl hl.1 rfl (lv_room (Nat.le_of_ble_eq_true rfl)) d_Mod_putFooter_198 ⟨hRc, hRs⟩) hS (fun q _ h => hF q h) hF (fun  x847 t H locs ht hvm hw hB hz1 hk1 hS => ?_)
    have hW := Wd.back hB ht hF
    clear hB ht hF hz1 hk1 hvm
    refine lv_iinc (v := (l2 + 1)) (lv' := [(2, .int (l2 + 1)), (0, .ref (ad 0)), (1, .int l1), (3, .int l3), (4, .int l4), (5, .int l5)]) hx hb d_Mod_putFooter_201 hl (k := 2) rfl rfl (by decide) rfl (fun ls hl => ?_)
    refine lv_iinc (v := (l5 + 1)) (lv' := [(5, .int (l5 + 1)), (2, .int (l2 + 1)), (0, .ref (ad 0)), (1, .int l1), (3, .int l3), (4, .int l4)]) hx hb d_Mod_putFooter_204 hl (k := 5) rfl rfl (by decide) rfl (fun ls hl => ?_)
    refine lv_goto (tgt := 180) hx hb d_Mod_putFooter_207 (by decide) ?_
    exact hrec180 l1 (l2 + 1) l3 l4 (l5 + 1) x847 H locs ls  hw hW hS (lv_sub hl [2, 3, 1, 4, 5, 0] rfl)
set_option maxHeartbeats 4000000 in
set_option maxRecDepth 100000 in
theorem tl_Mod_putFooter_180 {p : Program} {l : Launch} {e : Env} {R : Room} {s : State} {m : MethodId} {args : Array Value} {below : List Frame} {meth : Method} {c : Code} {cells slots : Nat} {Q : State → Prop} {dC : Nat → ClassId} {dI : Nat → Nat → Nat} {cI cB cJ cZ : ClassId} {A : Nat → Prop} {ad : Nat → Nat} {post : St → Prop} {rec138 : Int32 → Int32 → Int32 → St → Prop} (hx : p.tables.exec = Jvm.exec) (hb : c.code = b_Mod_putFooter) (hml : c.maxLocals = 6) (hown : s.vm.findClass R_Mod = some m.cls) (hT : ∀ w ∈ TG, w.before args s = true) (hK : va_K (dC, dI) CL (TY cI cB cJ cZ) s) (hN : NW s) (hA : ∀ q : Nat, s.heap.size ≤ q → A q) (hRc : cells ≤ R.cells) (hRs : slots ≤ R.slots) (hRf : 5 ≤ R.frames) (hRl : 119 ≤ R.locals) (hret : ∀ (x : St) (H : Heap) (locs : List Loc) (pc : Nat) (ls : Array Slot), decode b_Mod_putFooter pc = .ok (.return_, 1) → post x → Wd dC dI cI cB cJ cZ ad stM kcM 115 A x H → va_S A s.heap H locs → W p l e R s m args below meth c H locs cells slots Q (F0 m pc ls [])) (hrec138 : ∀ (l1 : Int32) (l2 : Int32) (l3 : Int32) (x : St) (H : Heap) (locs : List Loc) (ls : Array Slot), rec138 l1 l2 l3 x → Wd dC dI cI cB cJ cZ ad stM kcM 115 A x H → va_S A s.heap H locs → lv_has ls 6 [(0, .ref (ad 0)), (1, .int l1), (2, .int l2), (3, .int l3)] → W p l e R s m args below meth c H locs cells slots Q (F0 m 138 ls [])) : ∀ n : Nat, ∀ (l1 : Int32) (l2 : Int32) (l3 : Int32) (l4 : Int32) (l5 : Int32) (x : St) (H : Heap) (locs : List Loc) (ls : Array Slot), wl_Mod_putFooter_180 post rec138 n l1 l2 l3 l4 l5 x → Wd dC dI cI cB cJ cZ ad stM kcM 115 A x H → va_S A s.heap H locs → lv_has ls 6 [(0, .ref (ad 0)), (1, .int l1), (2, .int l2), (3, .int l3), (4, .int l4), (5, .int l5)] → W p l e R s m args below meth c H locs cells slots Q (F0 m 180 ls []) := by
  intro n
  induction n with
  | zero => intro l1 l2 l3 l4 l5 x H locs ls  hw; exact hw.elim
  | succ n ih => intro l1 l2 l3 l4 l5 x H locs ls  hw hW hS hl; exact t_Mod_putFooter_180 hx hb hml hown hT hK hN hA hRc hRs hRf hRl hret hrec138 ih l1 l2 l3 l4 l5 x H locs ls  hw hW hS hl
set_option maxRecDepth 100000 in
set_option maxHeartbeats 4000000 in
set_option maxRecDepth 100000 in
theorem t_Mod_putFooter_166 {p : Program} {l : Launch} {e : Env} {R : Room} {s : State} {m : MethodId} {args : Array Value} {below : List Frame} {meth : Method} {c : Code} {cells slots : Nat} {Q : State → Prop} {dC : Nat → ClassId} {dI : Nat → Nat → Nat} {cI cB cJ cZ : ClassId} {A : Nat → Prop} {ad : Nat → Nat} {post : St → Prop} {rec138 : Int32 → Int32 → Int32 → St → Prop} (hx : p.tables.exec = Jvm.exec) (hb : c.code = b_Mod_putFooter) (hml : c.maxLocals = 6) (hown : s.vm.findClass R_Mod = some m.cls) (hT : ∀ w ∈ TG, w.before args s = true) (hK : va_K (dC, dI) CL (TY cI cB cJ cZ) s) (hN : NW s) (hA : ∀ q : Nat, s.heap.size ≤ q → A q) (hRc : cells ≤ R.cells) (hRs : slots ≤ R.slots) (hRf : 5 ≤ R.frames) (hRl : 119 ≤ R.locals) (hret : ∀ (x : St) (H : Heap) (locs : List Loc) (pc : Nat) (ls : Array Slot), decode b_Mod_putFooter pc = .ok (.return_, 1) → post x → Wd dC dI cI cB cJ cZ ad stM kcM 115 A x H → va_S A s.heap H locs → W p l e R s m args below meth c H locs cells slots Q (F0 m pc ls [])) (hrec138 : ∀ (l1 : Int32) (l2 : Int32) (l3 : Int32) (x : St) (H : Heap) (locs : List Loc) (ls : Array Slot), rec138 l1 l2 l3 x → Wd dC dI cI cB cJ cZ ad stM kcM 115 A x H → va_S A s.heap H locs → lv_has ls 6 [(0, .ref (ad 0)), (1, .int l1), (2, .int l2), (3, .int l3)] → W p l e R s m args below meth c H locs cells slots Q (F0 m 138 ls [])) : ∀ (l1 : Int32) (l2 : Int32) (l3 : Int32) (s0 : Int32) (x : St) (H : Heap) (locs : List Loc) (ls : Array Slot), j_Mod_putFooter_166 post rec138 l1 l2 l3 s0 x → Wd dC dI cI cB cJ cZ ad stM kcM 115 A x H → va_S A s.heap H locs → lv_has ls 6 [(0, .ref (ad 0)), (1, .int l1), (2, .int l2), (3, .int l3)] → W p l e R s m args below meth c H locs cells slots Q (F0 m 166 ls [.int s0]) := by
  intro l1 l2 l3 s0 x H locs ls  hw hW hS hl
  unfold j_Mod_putFooter_166 at hw
  refine lv_istore (lv' := [(4, .int s0), (0, .ref (ad 0)), (1, .int l1), (2, .int l2), (3, .int l3)]) hx hb d_Mod_putFooter_166 hl (by decide) rfl (fun ls hl => ?_)
  refine lv_aload_n hx hb d_Mod_putFooter_168 rfl (lv_at hl 1 rfl) ?_
  refine lv_iload hx hb d_Mod_putFooter_169 (lv_at hl 0 rfl) ?_
  refine lv_iload_n hx hb d_Mod_putFooter_171 rfl (lv_at hl 4 rfl) ?_
  refine lv_isub hx hb d_Mod_putFooter_172 ?_
  refine lv_i2l hx hb d_Mod_putFooter_173 rfl ?_
  have hF := hW.free hS hA
  refine va_callv (va_runV (C := R_Mod) (As := [.long ((s0 - l3) : Int32).toInt64]) (rest := []) ⟨hx, hb, hml, hown, hT⟩ (k_Mod_putVarint l dC dI cI cB cJ cZ ad H.size ((s0 - l3) : Int32).toInt64 x  hw) ⟨callB_of 1 hT (gwt_in w_11_194) rfl rfl rfl (hT _ w_1_15) (hT _ w_11_191) (by decide +kernel) ⟨Nat.le_trans (Nat.le_of_ble_eq_true rfl) hRf, Nat.le_trans (Nat.le_of_ble_eq_true rfl) hRl⟩, hT _ w_11_193, hT _ ws_152⟩ ⟨PW.blind, va_recv hK hW.1 (ci := 12) (q0 := 0) rfl (pic_obj ko_0.1 ko_0.2 (by decide)), PW.at _ hW hK hN⟩ rfl rfl hl.1 rfl (lv_room (Nat.le_of_ble_eq_true rfl)) d_Mod_putFooter_174 ⟨hRc, hRs⟩) hS (fun q _ h => hF q h) hF (fun  x848 t H locs ht hvm hw hB hz1 hk1 hS => ?_)
  have hW := Wd.back hB ht hF
  clear hB ht hF hz1 hk1 hvm
  refine lv_iconst (v := 0) hx hb d_Mod_putFooter_177 (by decide) ?_
  refine lv_istore (lv' := [(5, .int 0), (4, .int s0), (0, .ref (ad 0)), (1, .int l1), (2, .int l2), (3, .int l3)]) hx hb d_Mod_putFooter_178 hl (by decide) rfl (fun ls hl => ?_)
  obtain ⟨n, hw⟩ := hw
  exact tl_Mod_putFooter_180 hx hb hml hown hT hK hN hA hRc hRs hRf hRl hret hrec138 n l1 l2 l3 s0 0 x848 H locs ls  hw hW hS (lv_sub hl [2, 3, 4, 5, 1, 0] rfl)
set_option maxRecDepth 100000 in
set_option maxHeartbeats 4000000 in
set_option maxRecDepth 100000 in
theorem t_Mod_putFooter_138 {p : Program} {l : Launch} {e : Env} {R : Room} {s : State} {m : MethodId} {args : Array Value} {below : List Frame} {meth : Method} {c : Code} {cells slots : Nat} {Q : State → Prop} {dC : Nat → ClassId} {dI : Nat → Nat → Nat} {cI cB cJ cZ : ClassId} {A : Nat → Prop} {ad : Nat → Nat} {post : St → Prop} {rec138 : Int32 → Int32 → Int32 → St → Prop} (hx : p.tables.exec = Jvm.exec) (hb : c.code = b_Mod_putFooter) (hml : c.maxLocals = 6) (hown : s.vm.findClass R_Mod = some m.cls) (hT : ∀ w ∈ TG, w.before args s = true) (hK : va_K (dC, dI) CL (TY cI cB cJ cZ) s) (hN : NW s) (hA : ∀ q : Nat, s.heap.size ≤ q → A q) (hRc : cells ≤ R.cells) (hRs : slots ≤ R.slots) (hRf : 5 ≤ R.frames) (hRl : 119 ≤ R.locals) (hret : ∀ (x : St) (H : Heap) (locs : List Loc) (pc : Nat) (ls : Array Slot), decode b_Mod_putFooter pc = .ok (.return_, 1) → post x → Wd dC dI cI cB cJ cZ ad stM kcM 115 A x H → va_S A s.heap H locs → W p l e R s m args below meth c H locs cells slots Q (F0 m pc ls [])) (hrec138 : ∀ (l1 : Int32) (l2 : Int32) (l3 : Int32) (x : St) (H : Heap) (locs : List Loc) (ls : Array Slot), rec138 l1 l2 l3 x → Wd dC dI cI cB cJ cZ ad stM kcM 115 A x H → va_S A s.heap H locs → lv_has ls 6 [(0, .ref (ad 0)), (1, .int l1), (2, .int l2), (3, .int l3)] → W p l e R s m args below meth c H locs cells slots Q (F0 m 138 ls [])) : ∀ (l1 : Int32) (l2 : Int32) (l3 : Int32) (x : St) (H : Heap) (locs : List Loc) (ls : Array Slot), j_Mod_putFooter_138 post rec138 l1 l2 l3 x → Wd dC dI cI cB cJ cZ ad stM kcM 115 A x H → va_S A s.heap H locs → lv_has ls 6 [(0, .ref (ad 0)), (1, .int l1), (2, .int l2), (3, .int l3)] → W p l e R s m args below meth c H locs cells slots Q (F0 m 138 ls []) := by
  intro l1 l2 l3 x H locs ls  hw hW hS hl
  unfold j_Mod_putFooter_138 at hw
  refine lv_iload_n hx hb d_Mod_putFooter_138 rfl (lv_at hl 3 rfl) ?_
  refine lv_aload_n hx hb d_Mod_putFooter_139 rfl (lv_at hl 0 rfl) ?_
  refine w_geti (k := 34) (t := 12) (C := R_Mod) (T := F_Mod) (N := 167) hx hb hT hown hK hW ko_0.1 ko_0.2 (by decide) in_Mod rfl rfl (by decide) rfl fr_Mod_34 w_8_210 d_Mod_putFooter_140 ?_
  refine lv_icmp_ge (tgt := 217) hx hb d_Mod_putFooter_143 (by decide) (fun c849 => ?_) (fun c849 => ?_)
  · have hw := hw.1 c849
    exact hret x H locs 217 ls d_Mod_putFooter_217 hw hW hS
  · have hw := hw.2 c849
    refine lv_iload_n hx hb d_Mod_putFooter_146 rfl (lv_at hl 3 rfl) ?_
    refine lv_iload_n hx hb d_Mod_putFooter_147 rfl (lv_at hl 1 rfl) ?_
    refine lv_iadd hx hb d_Mod_putFooter_148 ?_
    refine lv_aload_n hx hb d_Mod_putFooter_149 rfl (lv_at hl 0 rfl) ?_
    refine w_geti (k := 34) (t := 12) (C := R_Mod) (T := F_Mod) (N := 167) hx hb hT hown hK hW ko_0.1 ko_0.2 (by decide) in_Mod rfl rfl (by decide) rfl fr_Mod_34 w_8_210 d_Mod_putFooter_150 ?_
    refine lv_icmp_ge (tgt := 162) hx hb d_Mod_putFooter_153 (by decide) (fun c850 => ?_) (fun c850 => ?_)
    · have hw := hw.1 c850
      refine lv_aload_n hx hb d_Mod_putFooter_162 rfl (lv_at hl 0 rfl) ?_
      refine w_geti (k := 34) (t := 12) (C := R_Mod) (T := F_Mod) (N := 167) hx hb hT hown hK hW ko_0.1 ko_0.2 (by decide) in_Mod rfl rfl (by decide) rfl fr_Mod_34 w_8_210 d_Mod_putFooter_163 ?_
      exact t_Mod_putFooter_166 hx hb hml hown hT hK hN hA hRc hRs hRf hRl hret hrec138 l1 l2 l3 (fI x 0 34) x H locs ls  hw hW hS (lv_sub hl [0, 1, 2, 3] rfl)
    · have hw := hw.2 c850
      refine lv_iload_n hx hb d_Mod_putFooter_156 rfl (lv_at hl 3 rfl) ?_
      refine lv_iload_n hx hb d_Mod_putFooter_157 rfl (lv_at hl 1 rfl) ?_
      refine lv_iadd hx hb d_Mod_putFooter_158 ?_
      refine lv_goto (tgt := 166) hx hb d_Mod_putFooter_159 (by decide) ?_
      exact t_Mod_putFooter_166 hx hb hml hown hT hK hN hA hRc hRs hRf hRl hret hrec138 l1 l2 l3 (l3 + l1) x H locs ls  hw hW hS (lv_sub hl [0, 1, 2, 3] rfl)
set_option maxHeartbeats 4000000 in
set_option maxRecDepth 100000 in
theorem tl_Mod_putFooter_138 {p : Program} {l : Launch} {e : Env} {R : Room} {s : State} {m : MethodId} {args : Array Value} {below : List Frame} {meth : Method} {c : Code} {cells slots : Nat} {Q : State → Prop} {dC : Nat → ClassId} {dI : Nat → Nat → Nat} {cI cB cJ cZ : ClassId} {A : Nat → Prop} {ad : Nat → Nat} {post : St → Prop} (hx : p.tables.exec = Jvm.exec) (hb : c.code = b_Mod_putFooter) (hml : c.maxLocals = 6) (hown : s.vm.findClass R_Mod = some m.cls) (hT : ∀ w ∈ TG, w.before args s = true) (hK : va_K (dC, dI) CL (TY cI cB cJ cZ) s) (hN : NW s) (hA : ∀ q : Nat, s.heap.size ≤ q → A q) (hRc : cells ≤ R.cells) (hRs : slots ≤ R.slots) (hRf : 5 ≤ R.frames) (hRl : 119 ≤ R.locals) (hret : ∀ (x : St) (H : Heap) (locs : List Loc) (pc : Nat) (ls : Array Slot), decode b_Mod_putFooter pc = .ok (.return_, 1) → post x → Wd dC dI cI cB cJ cZ ad stM kcM 115 A x H → va_S A s.heap H locs → W p l e R s m args below meth c H locs cells slots Q (F0 m pc ls []))  : ∀ n : Nat, ∀ (l1 : Int32) (l2 : Int32) (l3 : Int32) (x : St) (H : Heap) (locs : List Loc) (ls : Array Slot), wl_Mod_putFooter_138 post n l1 l2 l3 x → Wd dC dI cI cB cJ cZ ad stM kcM 115 A x H → va_S A s.heap H locs → lv_has ls 6 [(0, .ref (ad 0)), (1, .int l1), (2, .int l2), (3, .int l3)] → W p l e R s m args below meth c H locs cells slots Q (F0 m 138 ls []) := by
  intro n
  induction n with
  | zero => intro l1 l2 l3 x H locs ls  hw; exact hw.elim
  | succ n ih => intro l1 l2 l3 x H locs ls  hw hW hS hl; exact t_Mod_putFooter_138 hx hb hml hown hT hK hN hA hRc hRs hRf hRl hret  ih l1 l2 l3 x H locs ls  hw hW hS hl
set_option maxRecDepth 100000 in
set_option maxHeartbeats 4000000 in
set_option maxRecDepth 100000 in
theorem t_Mod_putFooter_73 {p : Program} {l : Launch} {e : Env} {R : Room} {s : State} {m : MethodId} {args : Array Value} {below : List Frame} {meth : Method} {c : Code} {cells slots : Nat} {Q : State → Prop} {dC : Nat → ClassId} {dI : Nat → Nat → Nat} {cI cB cJ cZ : ClassId} {A : Nat → Prop} {ad : Nat → Nat} {post : St → Prop} {rec18 : Int32 → Int32 → St → Prop} {rec73 : Int32 → Int32 → Int32 → St → Prop} (hx : p.tables.exec = Jvm.exec) (hb : c.code = b_Mod_putFooter) (hml : c.maxLocals = 6) (hown : s.vm.findClass R_Mod = some m.cls) (hT : ∀ w ∈ TG, w.before args s = true) (hK : va_K (dC, dI) CL (TY cI cB cJ cZ) s) (hN : NW s) (hA : ∀ q : Nat, s.heap.size ≤ q → A q) (hRc : cells ≤ R.cells) (hRs : slots ≤ R.slots) (hRf : 5 ≤ R.frames) (hRl : 119 ≤ R.locals) (hret : ∀ (x : St) (H : Heap) (locs : List Loc) (pc : Nat) (ls : Array Slot), decode b_Mod_putFooter pc = .ok (.return_, 1) → post x → Wd dC dI cI cB cJ cZ ad stM kcM 115 A x H → va_S A s.heap H locs → W p l e R s m args below meth c H locs cells slots Q (F0 m pc ls [])) (hrec18 : ∀ (l1 : Int32) (l2 : Int32) (x : St) (H : Heap) (locs : List Loc) (ls : Array Slot), rec18 l1 l2 x → Wd dC dI cI cB cJ cZ ad stM kcM 115 A x H → va_S A s.heap H locs → lv_has ls 6 [(0, .ref (ad 0)), (1, .int l1), (2, .int l2)] → W p l e R s m args below meth c H locs cells slots Q (F0 m 18 ls [])) (hrec73 : ∀ (l1 : Int32) (l2 : Int32) (l3 : Int32) (x : St) (H : Heap) (locs : List Loc) (ls : Array Slot), rec73 l1 l2 l3 x → Wd dC dI cI cB cJ cZ ad stM kcM 115 A x H → va_S A s.heap H locs → lv_has ls 6 [(0, .ref (ad 0)), (1, .int l1), (2, .int l2), (3, .int l3)] → W p l e R s m args below meth c H locs cells slots Q (F0 m 73 ls [])) : ∀ (l1 : Int32) (l2 : Int32) (l3 : Int32) (x : St) (H : Heap) (locs : List Loc) (ls : Array Slot), j_Mod_putFooter_73 post rec18 rec73 l1 l2 l3 x → Wd dC dI cI cB cJ cZ ad stM kcM 115 A x H → va_S A s.heap H locs → lv_has ls 6 [(0, .ref (ad 0)), (1, .int l1), (2, .int l2), (3, .int l3)] → W p l e R s m args below meth c H locs cells slots Q (F0 m 73 ls []) := by
  intro l1 l2 l3 x H locs ls  hw hW hS hl
  unfold j_Mod_putFooter_73 at hw
  refine lv_iload_n hx hb d_Mod_putFooter_73 rfl (lv_at hl 3 rfl) ?_
  refine lv_aload_n hx hb d_Mod_putFooter_74 rfl (lv_at hl 0 rfl) ?_
  refine w_getf (q := 7) (k := 9) (t := 12) (C := R_Mod) (T := F_Mod) (N := 167) hx hb hT hown hK hW ko_0.1 ko_0.2 (by decide) in_Mod rfl rfl (by decide) rfl fr_Mod_9 w_8_185 d_Mod_putFooter_75 rfl ?_
  refine lv_iload_n hx hb d_Mod_putFooter_78 rfl (lv_at hl 2 rfl) ?_
  obtain ⟨hi, hw⟩ := hw
  refine w_iald (o := 7) hx hb hK hW ko_7.1 ko_7.2 hi d_Mod_putFooter_79 ?_
  refine lv_icmp_ge (tgt := 104) hx hb d_Mod_putFooter_80 (by decide) (fun c851 => ?_) (fun c851 => ?_)
  · have hw := hw.1 c851
    refine lv_iinc (v := (l2 + 1)) (lv' := [(2, .int (l2 + 1)), (0, .ref (ad 0)), (1, .int l1), (3, .int l3)]) hx hb d_Mod_putFooter_104 hl (k := 2) rfl rfl (by decide) rfl (fun ls hl => ?_)
    refine lv_goto (tgt := 18) hx hb d_Mod_putFooter_107 (by decide) ?_
    exact hrec18 l1 (l2 + 1) x H locs ls  hw hW hS (lv_sub hl [1, 2, 0] rfl)
  · have hw := hw.2 c851
    refine lv_aload_n hx hb d_Mod_putFooter_83 rfl (lv_at hl 0 rfl) ?_
    refine lv_aload_n hx hb d_Mod_putFooter_84 rfl (lv_at hl 0 rfl) ?_
    refine w_getf (q := 8) (k := 10) (t := 12) (C := R_Mod) (T := F_Mod) (N := 167) hx hb hT hown hK hW ko_0.1 ko_0.2 (by decide) in_Mod rfl rfl (by decide) rfl fr_Mod_10 w_8_186 d_Mod_putFooter_85 rfl ?_
    refine lv_bipush (v := 16) hx hb d_Mod_putFooter_88 (by decide) ?_
    refine lv_iload_n hx hb d_Mod_putFooter_90 rfl (lv_at hl 2 rfl) ?_
    refine lv_imul hx hb d_Mod_putFooter_91 ?_
    refine lv_iload_n hx hb d_Mod_putFooter_92 rfl (lv_at hl 3 rfl) ?_
    refine lv_iadd hx hb d_Mod_putFooter_93 ?_
    obtain ⟨hi, hw⟩ := hw
    refine w_iald (o := 8) hx hb hK hW ko_8.1 ko_8.2 hi d_Mod_putFooter_94 ?_
    have hF := hW.free hS hA
    refine va_callv (va_runV (C := R_Mod) (As := [.int (rA x 8 ((16 * l2) + l3))]) (rest := []) ⟨hx, hb, hml, hown, hT⟩ (k_Mod_put l dC dI cI cB cJ cZ ad H.size (rA x 8 ((16 * l2) + l3)) x  hw) ⟨callB_of 1 hT (gwt_in w_11_199) rfl rfl rfl (hT _ w_1_15) (hT _ w_11_196) (by decide +kernel) ⟨Nat.le_trans (Nat.le_of_ble_eq_true rfl) hRf, Nat.le_trans (Nat.le_of_ble_eq_true rfl) hRl⟩, hT _ w_11_198, hT _ ws_153⟩ ⟨PW.blind, va_recv hK hW.1 (ci := 12) (q0 := 0) rfl (pic_obj ko_0.1 ko_0.2 (by decide)), PW.at _ hW hK hN⟩ rfl rfl hl.1 rfl (lv_room (Nat.le_of_ble_eq_true rfl)) d_Mod_putFooter_95 ⟨hRc, hRs⟩) hS (fun q _ h => hF q h) hF (fun  x852 t H locs ht hvm hw hB hz1 hk1 hS => ?_)
    have hW := Wd.back hB ht hF
    clear hB ht hF hz1 hk1 hvm
    refine lv_iinc (v := (l3 + 1)) (lv' := [(3, .int (l3 + 1)), (0, .ref (ad 0)), (1, .int l1), (2, .int l2)]) hx hb d_Mod_putFooter_98 hl (k := 3) rfl rfl (by decide) rfl (fun ls hl => ?_)
    refine lv_goto (tgt := 73) hx hb d_Mod_putFooter_101 (by decide) ?_
    exact hrec73 l1 l2 (l3 + 1) x852 H locs ls  hw hW hS (lv_sub hl [1, 2, 3, 0] rfl)
set_option maxHeartbeats 4000000 in
set_option maxRecDepth 100000 in
theorem tl_Mod_putFooter_73 {p : Program} {l : Launch} {e : Env} {R : Room} {s : State} {m : MethodId} {args : Array Value} {below : List Frame} {meth : Method} {c : Code} {cells slots : Nat} {Q : State → Prop} {dC : Nat → ClassId} {dI : Nat → Nat → Nat} {cI cB cJ cZ : ClassId} {A : Nat → Prop} {ad : Nat → Nat} {post : St → Prop} {rec18 : Int32 → Int32 → St → Prop} (hx : p.tables.exec = Jvm.exec) (hb : c.code = b_Mod_putFooter) (hml : c.maxLocals = 6) (hown : s.vm.findClass R_Mod = some m.cls) (hT : ∀ w ∈ TG, w.before args s = true) (hK : va_K (dC, dI) CL (TY cI cB cJ cZ) s) (hN : NW s) (hA : ∀ q : Nat, s.heap.size ≤ q → A q) (hRc : cells ≤ R.cells) (hRs : slots ≤ R.slots) (hRf : 5 ≤ R.frames) (hRl : 119 ≤ R.locals) (hret : ∀ (x : St) (H : Heap) (locs : List Loc) (pc : Nat) (ls : Array Slot), decode b_Mod_putFooter pc = .ok (.return_, 1) → post x → Wd dC dI cI cB cJ cZ ad stM kcM 115 A x H → va_S A s.heap H locs → W p l e R s m args below meth c H locs cells slots Q (F0 m pc ls [])) (hrec18 : ∀ (l1 : Int32) (l2 : Int32) (x : St) (H : Heap) (locs : List Loc) (ls : Array Slot), rec18 l1 l2 x → Wd dC dI cI cB cJ cZ ad stM kcM 115 A x H → va_S A s.heap H locs → lv_has ls 6 [(0, .ref (ad 0)), (1, .int l1), (2, .int l2)] → W p l e R s m args below meth c H locs cells slots Q (F0 m 18 ls [])) : ∀ n : Nat, ∀ (l1 : Int32) (l2 : Int32) (l3 : Int32) (x : St) (H : Heap) (locs : List Loc) (ls : Array Slot), wl_Mod_putFooter_73 post rec18 n l1 l2 l3 x → Wd dC dI cI cB cJ cZ ad stM kcM 115 A x H → va_S A s.heap H locs → lv_has ls 6 [(0, .ref (ad 0)), (1, .int l1), (2, .int l2), (3, .int l3)] → W p l e R s m args below meth c H locs cells slots Q (F0 m 73 ls []) := by
  intro n
  induction n with
  | zero => intro l1 l2 l3 x H locs ls  hw; exact hw.elim
  | succ n ih => intro l1 l2 l3 x H locs ls  hw hW hS hl; exact t_Mod_putFooter_73 hx hb hml hown hT hK hN hA hRc hRs hRf hRl hret hrec18 ih l1 l2 l3 x H locs ls  hw hW hS hl
set_option maxRecDepth 100000 in
set_option maxHeartbeats 4000000 in
set_option maxRecDepth 100000 in
theorem t_Mod_putFooter_18 {p : Program} {l : Launch} {e : Env} {R : Room} {s : State} {m : MethodId} {args : Array Value} {below : List Frame} {meth : Method} {c : Code} {cells slots : Nat} {Q : State → Prop} {dC : Nat → ClassId} {dI : Nat → Nat → Nat} {cI cB cJ cZ : ClassId} {A : Nat → Prop} {ad : Nat → Nat} {post : St → Prop} {rec18 : Int32 → Int32 → St → Prop} (hx : p.tables.exec = Jvm.exec) (hb : c.code = b_Mod_putFooter) (hml : c.maxLocals = 6) (hown : s.vm.findClass R_Mod = some m.cls) (hT : ∀ w ∈ TG, w.before args s = true) (hK : va_K (dC, dI) CL (TY cI cB cJ cZ) s) (hN : NW s) (hA : ∀ q : Nat, s.heap.size ≤ q → A q) (hRc : cells ≤ R.cells) (hRs : slots ≤ R.slots) (hRf : 5 ≤ R.frames) (hRl : 119 ≤ R.locals) (hret : ∀ (x : St) (H : Heap) (locs : List Loc) (pc : Nat) (ls : Array Slot), decode b_Mod_putFooter pc = .ok (.return_, 1) → post x → Wd dC dI cI cB cJ cZ ad stM kcM 115 A x H → va_S A s.heap H locs → W p l e R s m args below meth c H locs cells slots Q (F0 m pc ls [])) (hrec18 : ∀ (l1 : Int32) (l2 : Int32) (x : St) (H : Heap) (locs : List Loc) (ls : Array Slot), rec18 l1 l2 x → Wd dC dI cI cB cJ cZ ad stM kcM 115 A x H → va_S A s.heap H locs → lv_has ls 6 [(0, .ref (ad 0)), (1, .int l1), (2, .int l2)] → W p l e R s m args below meth c H locs cells slots Q (F0 m 18 ls [])) : ∀ (l1 : Int32) (l2 : Int32) (x : St) (H : Heap) (locs : List Loc) (ls : Array Slot), j_Mod_putFooter_18 post rec18 l1 l2 x → Wd dC dI cI cB cJ cZ ad stM kcM 115 A x H → va_S A s.heap H locs → lv_has ls 6 [(0, .ref (ad 0)), (1, .int l1), (2, .int l2)] → W p l e R s m args below meth c H locs cells slots Q (F0 m 18 ls []) := by
  intro l1 l2 x H locs ls  hw hW hS hl
  unfold j_Mod_putFooter_18 at hw
  refine lv_iload_n hx hb d_Mod_putFooter_18 rfl (lv_at hl 2 rfl) ?_
  refine lv_aload_n hx hb d_Mod_putFooter_19 rfl (lv_at hl 0 rfl) ?_
  refine w_getf (q := 9) (k := 11) (t := 12) (C := R_Mod) (T := F_Mod) (N := 167) hx hb hT hown hK hW ko_0.1 ko_0.2 (by decide) in_Mod rfl rfl (by decide) rfl fr_Mod_11 w_8_187 d_Mod_putFooter_20 rfl ?_
  refine lv_iconst (v := 0) hx hb d_Mod_putFooter_23 (by decide) ?_
  obtain ⟨hi, hw⟩ := hw
  refine w_iald (o := 9) hx hb hK hW ko_9.1 ko_9.2 hi d_Mod_putFooter_24 ?_
  refine lv_icmp_ge (tgt := 110) hx hb d_Mod_putFooter_25 (by decide) (fun c853 => ?_) (fun c853 => ?_)
  · have hw := hw.1 c853
    refine lv_aload_n hx hb d_Mod_putFooter_110 rfl (lv_at hl 0 rfl) ?_
    refine lv_aload_n hx hb d_Mod_putFooter_111 rfl (lv_at hl 0 rfl) ?_
    refine w_geti (k := 34) (t := 12) (C := R_Mod) (T := F_Mod) (N := 167) hx hb hT hown hK hW ko_0.1 ko_0.2 (by decide) in_Mod rfl rfl (by decide) rfl fr_Mod_34 w_8_210 d_Mod_putFooter_112 ?_
    refine lv_i2l hx hb d_Mod_putFooter_115 rfl ?_
    have hF := hW.free hS hA
    refine va_callv (va_runV (C := R_Mod) (As := [.long ((fI x 0 34) : Int32).toInt64]) (rest := []) ⟨hx, hb, hml, hown, hT⟩ (k_Mod_putVarint l dC dI cI cB cJ cZ ad H.size ((fI x 0 34) : Int32).toInt64 x  hw) ⟨callB_of 1 hT (gwt_in w_11_194) rfl rfl rfl (hT _ w_1_15) (hT _ w_11_191) (by decide +kernel) ⟨Nat.le_trans (Nat.le_of_ble_eq_true rfl) hRf, Nat.le_trans (Nat.le_of_ble_eq_true rfl) hRl⟩, hT _ w_11_193, hT _ ws_152⟩ ⟨PW.blind, va_recv hK hW.1 (ci := 12) (q0 := 0) rfl (pic_obj ko_0.1 ko_0.2 (by decide)), PW.at _ hW hK hN⟩ rfl rfl hl.1 rfl (lv_room (Nat.le_of_ble_eq_true rfl)) d_Mod_putFooter_116 ⟨hRc, hRs⟩) hS (fun q _ h => hF q h) hF (fun  x854 t H locs ht hvm hw hB hz1 hk1 hS => ?_)
    have hW := Wd.back hB ht hF
    clear hB ht hF hz1 hk1 hvm
    refine lv_aload_n hx hb d_Mod_putFooter_119 rfl (lv_at hl 0 rfl) ?_
    refine lv_aload_n hx hb d_Mod_putFooter_120 rfl (lv_at hl 0 rfl) ?_
    refine w_geti (k := 34) (t := 12) (C := R_Mod) (T := F_Mod) (N := 167) hx hb hT hown hK hW ko_0.1 ko_0.2 (by decide) in_Mod rfl rfl (by decide) rfl fr_Mod_34 w_8_210 d_Mod_putFooter_121 ?_
    refine lv_iload_n hx hb d_Mod_putFooter_124 rfl (lv_at hl 1 rfl) ?_
    refine lv_iadd hx hb d_Mod_putFooter_125 ?_
    refine lv_iconst (v := 1) hx hb d_Mod_putFooter_126 (by decide) ?_
    refine lv_isub hx hb d_Mod_putFooter_127 ?_
    refine lv_iload_n hx hb d_Mod_putFooter_128 rfl (lv_at hl 1 rfl) ?_
    obtain ⟨hz, hw⟩ := hw
    refine lv_idiv hx hb d_Mod_putFooter_129 hz ?_
    refine lv_i2l hx hb d_Mod_putFooter_130 rfl ?_
    have hF := hW.free hS hA
    refine va_callv (va_runV (C := R_Mod) (As := [.long (((((fI x854 0 34) + l1) - 1) / l1) : Int32).toInt64]) (rest := []) ⟨hx, hb, hml, hown, hT⟩ (k_Mod_putVarint l dC dI cI cB cJ cZ ad H.size (((((fI x854 0 34) + l1) - 1) / l1) : Int32).toInt64 x854  hw) ⟨callB_of 1 hT (gwt_in w_11_194) rfl rfl rfl (hT _ w_1_15) (hT _ w_11_191) (by decide +kernel) ⟨Nat.le_trans (Nat.le_of_ble_eq_true rfl) hRf, Nat.le_trans (Nat.le_of_ble_eq_true rfl) hRl⟩, hT _ w_11_193, hT _ ws_152⟩ ⟨PW.blind, va_recv hK hW.1 (ci := 12) (q0 := 0) rfl (pic_obj ko_0.1 ko_0.2 (by decide)), PW.at _ hW hK hN⟩ rfl rfl hl.1 rfl (lv_room (Nat.le_of_ble_eq_true rfl)) d_Mod_putFooter_131 ⟨hRc, hRs⟩) hS (fun q _ h => hF q h) hF (fun  x855 t H locs ht hvm hw hB hz1 hk1 hS => ?_)
    have hW := Wd.back hB ht hF
    clear hB ht hF hz1 hk1 hvm
    refine lv_iconst (v := 0) hx hb d_Mod_putFooter_134 (by decide) ?_
    refine lv_istore_n (lv' := [(2, .int 0), (0, .ref (ad 0)), (1, .int l1)]) hx hb d_Mod_putFooter_135 rfl hl (by decide) rfl (fun ls hl => ?_)
    refine lv_iconst (v := 0) hx hb d_Mod_putFooter_136 (by decide) ?_
    refine lv_istore_n (lv' := [(3, .int 0), (2, .int 0), (0, .ref (ad 0)), (1, .int l1)]) hx hb d_Mod_putFooter_137 rfl hl (by decide) rfl (fun ls hl => ?_)
    obtain ⟨n, hw⟩ := hw
    exact tl_Mod_putFooter_138 hx hb hml hown hT hK hN hA hRc hRs hRf hRl hret  n l1 0 0 x855 H locs ls  hw hW hS (lv_sub hl [2, 3, 1, 0] rfl)
  · have hw := hw.2 c853
    refine lv_aload_n hx hb d_Mod_putFooter_28 rfl (lv_at hl 0 rfl) ?_
    refine lv_aload_n hx hb d_Mod_putFooter_29 rfl (lv_at hl 0 rfl) ?_
    refine w_getf (q := 3) (k := 5) (t := 12) (C := R_Mod) (T := F_Mod) (N := 167) hx hb hT hown hK hW ko_0.1 ko_0.2 (by decide) in_Mod rfl rfl (by decide) rfl fr_Mod_5 w_8_181 d_Mod_putFooter_30 rfl ?_
    refine lv_iload_n hx hb d_Mod_putFooter_33 rfl (lv_at hl 2 rfl) ?_
    obtain ⟨hi, hw⟩ := hw
    refine w_iald (o := 3) hx hb hK hW ko_3.1 ko_3.2 hi d_Mod_putFooter_34 ?_
    refine lv_iconst (v := 3) hx hb d_Mod_putFooter_35 (by decide) ?_
    refine lv_aload_n hx hb d_Mod_putFooter_36 rfl (lv_at hl 0 rfl) ?_
    refine w_getf (q := 4) (k := 6) (t := 12) (C := R_Mod) (T := F_Mod) (N := 167) hx hb hT hown hK hW ko_0.1 ko_0.2 (by decide) in_Mod rfl rfl (by decide) rfl fr_Mod_6 w_8_182 d_Mod_putFooter_37 rfl ?_
    refine lv_iload_n hx hb d_Mod_putFooter_40 rfl (lv_at hl 2 rfl) ?_
    obtain ⟨hi, hw⟩ := hw
    refine w_iald (o := 4) hx hb hK hW ko_4.1 ko_4.2 hi d_Mod_putFooter_41 ?_
    refine lv_imul hx hb d_Mod_putFooter_42 ?_
    refine lv_iadd hx hb d_Mod_putFooter_43 ?_
    have hF := hW.free hS hA
    refine va_callv (va_runV (C := R_Mod) (As := [.int ((rA x 3 l2) + (3 * (rA x 4 l2)))]) (rest := []) ⟨hx, hb, hml, hown, hT⟩ (k_Mod_put l dC dI cI cB cJ cZ ad H.size ((rA x 3 l2) + (3 * (rA x 4 l2))) x  hw) ⟨callB_of 1 hT (gwt_in w_11_199) rfl rfl rfl (hT _ w_1_15) (hT _ w_11_196) (by decide +kernel) ⟨Nat.le_trans (Nat.le_of_ble_eq_true rfl) hRf, Nat.le_trans (Nat.le_of_ble_eq_true rfl) hRl⟩, hT _ w_11_198, hT _ ws_153⟩ ⟨PW.blind, va_recv hK hW.1 (ci := 12) (q0 := 0) rfl (pic_obj ko_0.1 ko_0.2 (by decide)), PW.at _ hW hK hN⟩ rfl rfl hl.1 rfl (lv_room (Nat.le_of_ble_eq_true rfl)) d_Mod_putFooter_44 ⟨hRc, hRs⟩) hS (fun q _ h => hF q h) hF (fun  x856 t H locs ht hvm hw hB hz1 hk1 hS => ?_)
    have hW := Wd.back hB ht hF
    clear hB ht hF hz1 hk1 hvm
    refine lv_aload_n hx hb d_Mod_putFooter_47 rfl (lv_at hl 0 rfl) ?_
    refine lv_aload_n hx hb d_Mod_putFooter_48 rfl (lv_at hl 0 rfl) ?_
    refine w_getf (q := 5) (k := 7) (t := 12) (C := R_Mod) (T := F_Mod) (N := 167) hx hb hT hown hK hW ko_0.1 ko_0.2 (by decide) in_Mod rfl rfl (by decide) rfl fr_Mod_7 w_8_183 d_Mod_putFooter_49 rfl ?_
    refine lv_iload_n hx hb d_Mod_putFooter_52 rfl (lv_at hl 2 rfl) ?_
    obtain ⟨hi, hw⟩ := hw
    refine w_iald (o := 5) hx hb hK hW ko_5.1 ko_5.2 hi d_Mod_putFooter_53 ?_
    refine lv_iconst (v := 1) hx hb d_Mod_putFooter_54 (by decide) ?_
    refine lv_iadd hx hb d_Mod_putFooter_55 ?_
    refine lv_i2l hx hb d_Mod_putFooter_56 rfl ?_
    have hF := hW.free hS hA
    refine va_callv (va_runV (C := R_Mod) (As := [.long (((rA x856 5 l2) + 1) : Int32).toInt64]) (rest := []) ⟨hx, hb, hml, hown, hT⟩ (k_Mod_putVarint l dC dI cI cB cJ cZ ad H.size (((rA x856 5 l2) + 1) : Int32).toInt64 x856  hw) ⟨callB_of 1 hT (gwt_in w_11_194) rfl rfl rfl (hT _ w_1_15) (hT _ w_11_191) (by decide +kernel) ⟨Nat.le_trans (Nat.le_of_ble_eq_true rfl) hRf, Nat.le_trans (Nat.le_of_ble_eq_true rfl) hRl⟩, hT _ w_11_193, hT _ ws_152⟩ ⟨PW.blind, va_recv hK hW.1 (ci := 12) (q0 := 0) rfl (pic_obj ko_0.1 ko_0.2 (by decide)), PW.at _ hW hK hN⟩ rfl rfl hl.1 rfl (lv_room (Nat.le_of_ble_eq_true rfl)) d_Mod_putFooter_57 ⟨hRc, hRs⟩) hS (fun q _ h => hF q h) hF (fun  x857 t H locs ht hvm hw hB hz1 hk1 hS => ?_)
    have hW := Wd.back hB ht hF
    clear hB ht hF hz1 hk1 hvm
    refine lv_aload_n hx hb d_Mod_putFooter_60 rfl (lv_at hl 0 rfl) ?_
    refine lv_aload_n hx hb d_Mod_putFooter_61 rfl (lv_at hl 0 rfl) ?_
    refine w_getf (q := 7) (k := 9) (t := 12) (C := R_Mod) (T := F_Mod) (N := 167) hx hb hT hown hK hW ko_0.1 ko_0.2 (by decide) in_Mod rfl rfl (by decide) rfl fr_Mod_9 w_8_185 d_Mod_putFooter_62 rfl ?_
    refine lv_iload_n hx hb d_Mod_putFooter_65 rfl (lv_at hl 2 rfl) ?_
    obtain ⟨hi, hw⟩ := hw
    refine w_iald (o := 7) hx hb hK hW ko_7.1 ko_7.2 hi d_Mod_putFooter_66 ?_
    refine lv_i2l hx hb d_Mod_putFooter_67 rfl ?_
    have hF := hW.free hS hA
    refine va_callv (va_runV (C := R_Mod) (As := [.long ((rA x857 7 l2) : Int32).toInt64]) (rest := []) ⟨hx, hb, hml, hown, hT⟩ (k_Mod_putVarint l dC dI cI cB cJ cZ ad H.size ((rA x857 7 l2) : Int32).toInt64 x857  hw) ⟨callB_of 1 hT (gwt_in w_11_194) rfl rfl rfl (hT _ w_1_15) (hT _ w_11_191) (by decide +kernel) ⟨Nat.le_trans (Nat.le_of_ble_eq_true rfl) hRf, Nat.le_trans (Nat.le_of_ble_eq_true rfl) hRl⟩, hT _ w_11_193, hT _ ws_152⟩ ⟨PW.blind, va_recv hK hW.1 (ci := 12) (q0 := 0) rfl (pic_obj ko_0.1 ko_0.2 (by decide)), PW.at _ hW hK hN⟩ rfl rfl hl.1 rfl (lv_room (Nat.le_of_ble_eq_true rfl)) d_Mod_putFooter_68 ⟨hRc, hRs⟩) hS (fun q _ h => hF q h) hF (fun  x858 t H locs ht hvm hw hB hz1 hk1 hS => ?_)
    have hW := Wd.back hB ht hF
    clear hB ht hF hz1 hk1 hvm
    refine lv_iconst (v := 0) hx hb d_Mod_putFooter_71 (by decide) ?_
    refine lv_istore_n (lv' := [(3, .int 0), (0, .ref (ad 0)), (1, .int l1), (2, .int l2)]) hx hb d_Mod_putFooter_72 rfl hl (by decide) rfl (fun ls hl => ?_)
    obtain ⟨n, hw⟩ := hw
    exact tl_Mod_putFooter_73 hx hb hml hown hT hK hN hA hRc hRs hRf hRl hret hrec18 n l1 l2 0 x858 H locs ls  hw hW hS (lv_sub hl [1, 2, 3, 0] rfl)
set_option maxHeartbeats 4000000 in
set_option maxRecDepth 100000 in
theorem tl_Mod_putFooter_18 {p : Program} {l : Launch} {e : Env} {R : Room} {s : State} {m : MethodId} {args : Array Value} {below : List Frame} {meth : Method} {c : Code} {cells slots : Nat} {Q : State → Prop} {dC : Nat → ClassId} {dI : Nat → Nat → Nat} {cI cB cJ cZ : ClassId} {A : Nat → Prop} {ad : Nat → Nat} {post : St → Prop} (hx : p.tables.exec = Jvm.exec) (hb : c.code = b_Mod_putFooter) (hml : c.maxLocals = 6) (hown : s.vm.findClass R_Mod = some m.cls) (hT : ∀ w ∈ TG, w.before args s = true) (hK : va_K (dC, dI) CL (TY cI cB cJ cZ) s) (hN : NW s) (hA : ∀ q : Nat, s.heap.size ≤ q → A q) (hRc : cells ≤ R.cells) (hRs : slots ≤ R.slots) (hRf : 5 ≤ R.frames) (hRl : 119 ≤ R.locals) (hret : ∀ (x : St) (H : Heap) (locs : List Loc) (pc : Nat) (ls : Array Slot), decode b_Mod_putFooter pc = .ok (.return_, 1) → post x → Wd dC dI cI cB cJ cZ ad stM kcM 115 A x H → va_S A s.heap H locs → W p l e R s m args below meth c H locs cells slots Q (F0 m pc ls []))  : ∀ n : Nat, ∀ (l1 : Int32) (l2 : Int32) (x : St) (H : Heap) (locs : List Loc) (ls : Array Slot), wl_Mod_putFooter_18 post n l1 l2 x → Wd dC dI cI cB cJ cZ ad stM kcM 115 A x H → va_S A s.heap H locs → lv_has ls 6 [(0, .ref (ad 0)), (1, .int l1), (2, .int l2)] → W p l e R s m args below meth c H locs cells slots Q (F0 m 18 ls []) := by
  intro n
  induction n with
  | zero => intro l1 l2 x H locs ls  hw; exact hw.elim
  | succ n ih => intro l1 l2 x H locs ls  hw hW hS hl; exact t_Mod_putFooter_18 hx hb hml hown hT hK hN hA hRc hRs hRf hRl hret  ih l1 l2 x H locs ls  hw hW hS hl
set_option maxRecDepth 100000 in
set_option maxHeartbeats 4000000 in
set_option maxRecDepth 100000 in
theorem t_Mod_putFooter_e {p : Program} {l : Launch} {e : Env} {R : Room} {s : State} {m : MethodId} {args : Array Value} {below : List Frame} {meth : Method} {c : Code} {cells slots : Nat} {Q : State → Prop} {dC : Nat → ClassId} {dI : Nat → Nat → Nat} {cI cB cJ cZ : ClassId} {A : Nat → Prop} {ad : Nat → Nat} {post : St → Prop} (hx : p.tables.exec = Jvm.exec) (hb : c.code = b_Mod_putFooter) (hml : c.maxLocals = 6) (hown : s.vm.findClass R_Mod = some m.cls) (hT : ∀ w ∈ TG, w.before args s = true) (hK : va_K (dC, dI) CL (TY cI cB cJ cZ) s) (hN : NW s) (hA : ∀ q : Nat, s.heap.size ≤ q → A q) (hRc : cells ≤ R.cells) (hRs : slots ≤ R.slots) (hRf : 5 ≤ R.frames) (hRl : 119 ≤ R.locals) (hret : ∀ (x : St) (H : Heap) (locs : List Loc) (pc : Nat) (ls : Array Slot), decode b_Mod_putFooter pc = .ok (.return_, 1) → post x → Wd dC dI cI cB cJ cZ ad stM kcM 115 A x H → va_S A s.heap H locs → W p l e R s m args below meth c H locs cells slots Q (F0 m pc ls [])) : ∀ (l1 : Int32) (x : St) (H : Heap) (locs : List Loc) (ls : Array Slot), wp_Mod_putFooter post l1 x → Wd dC dI cI cB cJ cZ ad stM kcM 115 A x H → va_S A s.heap H locs → lv_has ls 6 [(0, .ref (ad 0)), (1, .int l1)] → W p l e R s m args below meth c H locs cells slots Q (F0 m 0 ls []) := by
  intro l1 x H locs ls  hw hW hS hl
  unfold wp_Mod_putFooter at hw
  refine lv_aload_n hx hb d_Mod_putFooter_0 rfl (lv_at hl 0 rfl) ?_
  refine lv_iconst (v := 0) hx hb d_Mod_putFooter_1 (by decide) ?_
  refine w_puti (ty := .int) (k := 64) (t := 12) (C := R_Mod) (T := F_Mod) (N := 167) hx hb hT hown hK hW hS ko_0.1 ko_0.2 (by decide) in_Mod t_Mod t_Mod_ok n_Mod rfl rfl (by decide) rfl fr_Mod_64 w_9_0 (by decide +kernel) rfl rfl d_Mod_putFooter_2 (fun H locs hW hS => ?_)
  obtain ⟨x859, ex859⟩ : ∃ y : St, y = setI x 0 64 0 := ⟨_, rfl⟩
  rw [← ex859] at hW
  have hw := hw x859 ex859
  refine lv_aload_n hx hb d_Mod_putFooter_5 rfl (lv_at hl 0 rfl) ?_
  refine lv_aload_n hx hb d_Mod_putFooter_6 rfl (lv_at hl 0 rfl) ?_
  refine w_getf (q := 9) (k := 11) (t := 12) (C := R_Mod) (T := F_Mod) (N := 167) hx hb hT hown hK hW ko_0.1 ko_0.2 (by decide) in_Mod rfl rfl (by decide) rfl fr_Mod_11 w_8_187 d_Mod_putFooter_7 rfl ?_
  refine lv_iconst (v := 0) hx hb d_Mod_putFooter_10 (by decide) ?_
  obtain ⟨hi, hw⟩ := hw
  refine w_iald (o := 9) hx hb hK hW ko_9.1 ko_9.2 hi d_Mod_putFooter_11 ?_
  refine lv_i2l hx hb d_Mod_putFooter_12 rfl ?_
  have hF := hW.free hS hA
  refine va_callv (va_runV (C := R_Mod) (As := [.long ((rA x859 9 0) : Int32).toInt64]) (rest := []) ⟨hx, hb, hml, hown, hT⟩ (k_Mod_putVarint l dC dI cI cB cJ cZ ad H.size ((rA x859 9 0) : Int32).toInt64 x859  hw) ⟨callB_of 1 hT (gwt_in w_11_194) rfl rfl rfl (hT _ w_1_15) (hT _ w_11_191) (by decide +kernel) ⟨Nat.le_trans (Nat.le_of_ble_eq_true rfl) hRf, Nat.le_trans (Nat.le_of_ble_eq_true rfl) hRl⟩, hT _ w_11_193, hT _ ws_152⟩ ⟨PW.blind, va_recv hK hW.1 (ci := 12) (q0 := 0) rfl (pic_obj ko_0.1 ko_0.2 (by decide)), PW.at _ hW hK hN⟩ rfl rfl hl.1 rfl (lv_room (Nat.le_of_ble_eq_true rfl)) d_Mod_putFooter_13 ⟨hRc, hRs⟩) hS (fun q _ h => hF q h) hF (fun  x860 t H locs ht hvm hw hB hz1 hk1 hS => ?_)
  have hW := Wd.back hB ht hF
  clear hB ht hF hz1 hk1 hvm
  refine lv_iconst (v := 0) hx hb d_Mod_putFooter_16 (by decide) ?_
  refine lv_istore_n (lv' := [(2, .int 0), (0, .ref (ad 0)), (1, .int l1)]) hx hb d_Mod_putFooter_17 rfl hl (by decide) rfl (fun ls hl => ?_)
  obtain ⟨n, hw⟩ := hw
  exact tl_Mod_putFooter_18 hx hb hml hown hT hK hN hA hRc hRs hRf hRl hret  n l1 0 x860 H locs ls  hw hW hS (lv_sub hl [1, 2, 0] rfl)
set_option maxHeartbeats 4000000 in
set_option maxRecDepth 100000 in
theorem k_Mod_putFooter (l : Launch) (dC : Nat → ClassId) (dI : Nat → Nat → Nat) (cI cB cJ cZ : ClassId) (ad : Nat → Nat) (sz : Nat) (l1 : Int32) (x : St) {post : St → Prop} (hw : wp_Mod_putFooter post l1 x) : Met l y_Mod_putFooter (wsOf y_Mod_putFooter b_Mod_putFooter 6 (none)) ({ frames := 5, cells := 0, slots := 0, locals := 119 }) (va_Pc [.ref (ad 0), .int l1] (PW dC dI cI cB cJ cZ ad stM kcM 115 sz x)) (va_Qv (fun (y : St) => post y) (fun y t => Wd dC dI cI cB cJ cZ ad stM kcM 115 (va_A (pic ad stM kcM 115 cI cB cJ cZ x) sz) y t.heap) (va_A (pic ad stM kcM 115 cI cB cJ cZ x) sz)) 0 0 (va_A (pic ad stM kcM 115 cI cB cJ cZ x) sz) := by
  refine Met.ofW (cc := b_Mod_putFooter) (maxL := 6) (ret := none) (by decide) rfl ?_
  intro p e s m args below meth c s₁ B hml hv
  obtain ⟨rfl, hsz, hW0, hK, hN⟩ := hv
  have hx := B.exec
  have hb := B.bytes
  have hr := B.returns
  have hts := atoms_spec B.pre
  have hT : ∀ w ∈ TG, w.before _ s = true := fun w h => hts w (List.mem_cons_of_mem _ h)
  have hown : s.vm.findClass R_Mod = some m.cls := findClass_of_methodNamed B.named
  have hlocks := B.notSynchronized
  subst hsz
  have hW : Wd dC dI cI cB cJ cZ ad stM kcM 115 (va_A (pic ad stM kcM 115 cI cB cJ cZ x) s.heap.size) x s.heap := ⟨hW0.1, hW0.2.1.self (sz := s.heap.size), hW0.2.2⟩
  generalize hAe : va_A (pic ad stM kcM 115 cI cB cJ cZ x) s.heap.size = A at hW ⊢
  have hA : ∀ q : Nat, s.heap.size ≤ q → A q := fun q h => by rw [← hAe]; exact Or.inr h
  have hS : va_S A s.heap s.heap [] := va_S.rf
  have hl := lv_entry ([.ref (ad 0), .int l1]) (n := 6) (Nat.le_of_ble_eq_true rfl)
  rw [lg_entry_eq]
  generalize (lg_sl ([.ref (ad 0), .int l1]) ++ List.replicate (6 - (lg_sl ([.ref (ad 0), .int l1])).length) Slot.unset).toArray = ls at hl ⊢
  have hl : lv_has ls 6 [(0, .ref (ad 0)), (1, .int l1)] := hl
  exact t_Mod_putFooter_e hx hb hml hown hT hK hN hA (Nat.le_refl 0) (Nat.le_refl 0) (Nat.le_refl 5) (Nat.le_refl 119) (fun x H locs pc ls hd hp hW hS => W.vret hx hb hr (fun t ht hM => ⟨⟨x, rfl, hp, Wd.back hW ht.symm (fun _ z => z)⟩, hS.F ht⟩) hS.2.2 hd hlocks)  l1 x _ _ ls  hw hW hS hl
set_option maxRecDepth 100000 in
set_option maxHeartbeats 4000000 in
set_option maxRecDepth 100000 in
theorem t_Mod_write_270 {p : Program} {l : Launch} {e : Env} {R : Room} {s : State} {m : MethodId} {args : Array Value} {below : List Frame} {meth : Method} {c : Code} {cells slots : Nat} {Q : State → Prop} {dC : Nat → ClassId} {dI : Nat → Nat → Nat} {cI cB cJ cZ : ClassId} {A : Nat → Prop} {ad : Nat → Nat} {post : Int32 → St → Prop} {rec270 : Int32 → Int32 → Int32 → Int32 → Int32 → Int32 → St → Prop} (hx : p.tables.exec = Jvm.exec) (hb : c.code = b_Mod_write) (hml : c.maxLocals = 7) (hown : s.vm.findClass R_Mod = some m.cls) (hT : ∀ w ∈ TG, w.before args s = true) (hK : va_K (dC, dI) CL (TY cI cB cJ cZ) s) (hN : NW s) (hA : ∀ q : Nat, s.heap.size ≤ q → A q) (hRc : cells ≤ R.cells) (hRs : slots ≤ R.slots) (hRf : 8 ≤ R.frames) (hRl : 193 ≤ R.locals) (hret : ∀ (r : Int32) (x : St) (H : Heap) (locs : List Loc) (pc : Nat) (ls : Array Slot), decode b_Mod_write pc = .ok (.ireturn, 1) → post r x → Wd dC dI cI cB cJ cZ ad stM kcM 115 A x H → va_S A s.heap H locs → W p l e R s m args below meth c H locs cells slots Q (F0 m pc ls [.int r])) (hrec270 : ∀ (l1 : Int32) (l2 : Int32) (l3 : Int32) (l4 : Int32) (l5 : Int32) (l6 : Int32) (x : St) (H : Heap) (locs : List Loc) (ls : Array Slot), rec270 l1 l2 l3 l4 l5 l6 x → Wd dC dI cI cB cJ cZ ad stM kcM 115 A x H → va_S A s.heap H locs → lv_has ls 7 [(0, .ref (ad 0)), (1, .int l1), (2, .int l2), (3, .int l3), (4, .int l4), (5, .int l5), (6, .int l6)] → W p l e R s m args below meth c H locs cells slots Q (F0 m 270 ls [])) : ∀ (l1 : Int32) (l2 : Int32) (l3 : Int32) (l4 : Int32) (l5 : Int32) (l6 : Int32) (x : St) (H : Heap) (locs : List Loc) (ls : Array Slot), j_Mod_write_270 post rec270 l1 l2 l3 l4 l5 l6 x → Wd dC dI cI cB cJ cZ ad stM kcM 115 A x H → va_S A s.heap H locs → lv_has ls 7 [(0, .ref (ad 0)), (1, .int l1), (2, .int l2), (3, .int l3), (4, .int l4), (5, .int l5), (6, .int l6)] → W p l e R s m args below meth c H locs cells slots Q (F0 m 270 ls []) := by
  intro l1 l2 l3 l4 l5 l6 x H locs ls  hw hW hS hl
  unfold j_Mod_write_270 at hw
  refine lv_iload hx hb d_Mod_write_270 (lv_at hl 6 rfl) ?_
  refine lv_aload_n hx hb d_Mod_write_272 rfl (lv_at hl 0 rfl) ?_
  refine w_geti (k := 66) (t := 12) (C := R_Mod) (T := F_Mod) (N := 167) hx hb hT hown hK hW ko_0.1 ko_0.2 (by decide) in_Mod rfl rfl (by decide) rfl fr_Mod_66 w_9_2 d_Mod_write_273 ?_
  refine lv_icmp_ge (tgt := 299) hx hb d_Mod_write_276 (by decide) (fun c861 => ?_) (fun c861 => ?_)
  · have hw := hw.1 c861
    refine lv_aload_n hx hb d_Mod_write_299 rfl (lv_at hl 0 rfl) ?_
    refine lv_aload_n hx hb d_Mod_write_300 rfl (lv_at hl 0 rfl) ?_
    refine w_geti (k := 66) (t := 12) (C := R_Mod) (T := F_Mod) (N := 167) hx hb hT hown hK hW ko_0.1 ko_0.2 (by decide) in_Mod rfl rfl (by decide) rfl fr_Mod_66 w_9_2 d_Mod_write_301 ?_
    refine w_puti (ty := .int) (k := 65) (t := 12) (C := R_Mod) (T := F_Mod) (N := 167) hx hb hT hown hK hW hS ko_0.1 ko_0.2 (by decide) in_Mod t_Mod t_Mod_ok n_Mod rfl rfl (by decide) rfl fr_Mod_65 w_9_1 (by decide +kernel) rfl rfl d_Mod_write_304 (fun H locs hW hS => ?_)
    obtain ⟨x862, ex862⟩ : ∃ y : St, y = setI x 0 65 (fI x 0 66) := ⟨_, rfl⟩
    rw [← ex862] at hW
    have hw := hw x862 ex862
    refine lv_aload_n hx hb d_Mod_write_307 rfl (lv_at hl 0 rfl) ?_
    refine w_geti (k := 65) (t := 12) (C := R_Mod) (T := F_Mod) (N := 167) hx hb hT hown hK hW ko_0.1 ko_0.2 (by decide) in_Mod rfl rfl (by decide) rfl fr_Mod_65 w_9_1 d_Mod_write_308 ?_
    exact hret (fI x862 0 65) x862 H locs 311 ls d_Mod_write_311 hw hW hS
  · have hw := hw.2 c861
    refine lv_aload_n hx hb d_Mod_write_279 rfl (lv_at hl 0 rfl) ?_
    refine w_getf (q := 41) (k := 62) (t := 12) (C := R_Mod) (T := F_Mod) (N := 167) hx hb hT hown hK hW ko_0.1 ko_0.2 (by decide) in_Mod rfl rfl (by decide) rfl fr_Mod_62 w_8_238 d_Mod_write_280 rfl ?_
    refine lv_iload hx hb d_Mod_write_283 (lv_at hl 6 rfl) ?_
    refine lv_aload_n hx hb d_Mod_write_285 rfl (lv_at hl 0 rfl) ?_
    refine w_getf (q := 42) (k := 63) (t := 12) (C := R_Mod) (T := F_Mod) (N := 167) hx hb hT hown hK hW ko_0.1 ko_0.2 (by decide) in_Mod rfl rfl (by decide) rfl fr_Mod_63 w_8_239 d_Mod_write_286 rfl ?_
    refine lv_iload hx hb d_Mod_write_289 (lv_at hl 6 rfl) ?_
    obtain ⟨hi, hw⟩ := hw
    refine w_iald (o := 42) hx hb hK hW ko_42.1 ko_42.2 hi d_Mod_write_291 ?_
    obtain ⟨hi, hw⟩ := hw
    refine w_iast (o := 41) hx hb hK hW hS ko_41.1 ko_41.2 hi d_Mod_write_292 (fun H locs hW hS => ?_)
    obtain ⟨x863, ex863⟩ : ∃ y : St, y = setA x 41 l6 (rA x 42 l6) := ⟨_, rfl⟩
    rw [← ex863] at hW
    have hw := hw x863 ex863
    refine lv_iinc (v := (l6 + 1)) (lv' := [(6, .int (l6 + 1)), (0, .ref (ad 0)), (1, .int l1), (2, .int l2), (3, .int l3), (4, .int l4), (5, .int l5)]) hx hb d_Mod_write_293 hl (k := 6) rfl rfl (by decide) rfl (fun ls hl => ?_)
    refine lv_goto (tgt := 270) hx hb d_Mod_write_296 (by decide) ?_
    exact hrec270 l1 l2 l3 l4 l5 (l6 + 1) x863 H locs ls  hw hW hS (lv_sub hl [1, 2, 3, 4, 5, 6, 0] rfl)
set_option maxHeartbeats 4000000 in
set_option maxRecDepth 100000 in
theorem tl_Mod_write_270 {p : Program} {l : Launch} {e : Env} {R : Room} {s : State} {m : MethodId} {args : Array Value} {below : List Frame} {meth : Method} {c : Code} {cells slots : Nat} {Q : State → Prop} {dC : Nat → ClassId} {dI : Nat → Nat → Nat} {cI cB cJ cZ : ClassId} {A : Nat → Prop} {ad : Nat → Nat} {post : Int32 → St → Prop} (hx : p.tables.exec = Jvm.exec) (hb : c.code = b_Mod_write) (hml : c.maxLocals = 7) (hown : s.vm.findClass R_Mod = some m.cls) (hT : ∀ w ∈ TG, w.before args s = true) (hK : va_K (dC, dI) CL (TY cI cB cJ cZ) s) (hN : NW s) (hA : ∀ q : Nat, s.heap.size ≤ q → A q) (hRc : cells ≤ R.cells) (hRs : slots ≤ R.slots) (hRf : 8 ≤ R.frames) (hRl : 193 ≤ R.locals) (hret : ∀ (r : Int32) (x : St) (H : Heap) (locs : List Loc) (pc : Nat) (ls : Array Slot), decode b_Mod_write pc = .ok (.ireturn, 1) → post r x → Wd dC dI cI cB cJ cZ ad stM kcM 115 A x H → va_S A s.heap H locs → W p l e R s m args below meth c H locs cells slots Q (F0 m pc ls [.int r]))  : ∀ n : Nat, ∀ (l1 : Int32) (l2 : Int32) (l3 : Int32) (l4 : Int32) (l5 : Int32) (l6 : Int32) (x : St) (H : Heap) (locs : List Loc) (ls : Array Slot), wl_Mod_write_270 post n l1 l2 l3 l4 l5 l6 x → Wd dC dI cI cB cJ cZ ad stM kcM 115 A x H → va_S A s.heap H locs → lv_has ls 7 [(0, .ref (ad 0)), (1, .int l1), (2, .int l2), (3, .int l3), (4, .int l4), (5, .int l5), (6, .int l6)] → W p l e R s m args below meth c H locs cells slots Q (F0 m 270 ls []) := by
  intro n
  induction n with
  | zero => intro l1 l2 l3 l4 l5 l6 x H locs ls  hw; exact hw.elim
  | succ n ih => intro l1 l2 l3 l4 l5 l6 x H locs ls  hw hW hS hl; exact t_Mod_write_270 hx hb hml hown hT hK hN hA hRc hRs hRf hRl hret  ih l1 l2 l3 l4 l5 l6 x H locs ls  hw hW hS hl
set_option maxRecDepth 100000 in
set_option maxHeartbeats 4000000 in
set_option maxRecDepth 100000 in
theorem t_Mod_write_235 {p : Program} {l : Launch} {e : Env} {R : Room} {s : State} {m : MethodId} {args : Array Value} {below : List Frame} {meth : Method} {c : Code} {cells slots : Nat} {Q : State → Prop} {dC : Nat → ClassId} {dI : Nat → Nat → Nat} {cI cB cJ cZ : ClassId} {A : Nat → Prop} {ad : Nat → Nat} {post : Int32 → St → Prop} {rec235 : Int32 → Int32 → Int32 → Int32 → Int32 → Int32 → St → Prop} (hx : p.tables.exec = Jvm.exec) (hb : c.code = b_Mod_write) (hml : c.maxLocals = 7) (hown : s.vm.findClass R_Mod = some m.cls) (hT : ∀ w ∈ TG, w.before args s = true) (hK : va_K (dC, dI) CL (TY cI cB cJ cZ) s) (hN : NW s) (hA : ∀ q : Nat, s.heap.size ≤ q → A q) (hRc : cells ≤ R.cells) (hRs : slots ≤ R.slots) (hRf : 8 ≤ R.frames) (hRl : 193 ≤ R.locals) (hret : ∀ (r : Int32) (x : St) (H : Heap) (locs : List Loc) (pc : Nat) (ls : Array Slot), decode b_Mod_write pc = .ok (.ireturn, 1) → post r x → Wd dC dI cI cB cJ cZ ad stM kcM 115 A x H → va_S A s.heap H locs → W p l e R s m args below meth c H locs cells slots Q (F0 m pc ls [.int r])) (hrec235 : ∀ (l1 : Int32) (l2 : Int32) (l3 : Int32) (l4 : Int32) (l5 : Int32) (l6 : Int32) (x : St) (H : Heap) (locs : List Loc) (ls : Array Slot), rec235 l1 l2 l3 l4 l5 l6 x → Wd dC dI cI cB cJ cZ ad stM kcM 115 A x H → va_S A s.heap H locs → lv_has ls 7 [(0, .ref (ad 0)), (1, .int l1), (2, .int l2), (3, .int l3), (4, .int l4), (5, .int l5), (6, .int l6)] → W p l e R s m args below meth c H locs cells slots Q (F0 m 235 ls [])) : ∀ (l1 : Int32) (l2 : Int32) (l3 : Int32) (l4 : Int32) (l5 : Int32) (l6 : Int32) (x : St) (H : Heap) (locs : List Loc) (ls : Array Slot), j_Mod_write_235 post rec235 l1 l2 l3 l4 l5 l6 x → Wd dC dI cI cB cJ cZ ad stM kcM 115 A x H → va_S A s.heap H locs → lv_has ls 7 [(0, .ref (ad 0)), (1, .int l1), (2, .int l2), (3, .int l3), (4, .int l4), (5, .int l5), (6, .int l6)] → W p l e R s m args below meth c H locs cells slots Q (F0 m 235 ls []) := by
  intro l1 l2 l3 l4 l5 l6 x H locs ls  hw hW hS hl
  unfold j_Mod_write_235 at hw
  refine lv_iload hx hb d_Mod_write_235 (lv_at hl 6 rfl) ?_
  refine lv_iconst (v := 4) hx hb d_Mod_write_237 (by decide) ?_
  refine lv_icmp_ge (tgt := 263) hx hb d_Mod_write_238 (by decide) (fun c864 => ?_) (fun c864 => ?_)
  · have hw := hw.1 c864
    refine lv_aload_n hx hb d_Mod_write_263 rfl (lv_at hl 0 rfl) ?_
    have hF := hW.free hS hA
    refine va_callv (va_runV (C := R_Mod) (As := []) (rest := []) ⟨hx, hb, hml, hown, hT⟩ (k_Mod_addFrame l dC dI cI cB cJ cZ ad H.size  x  hw) ⟨callB_of 0 hT (gwt_in w_11_134) rfl rfl rfl (hT _ w_1_15) (hT _ w_11_131) (by decide +kernel) ⟨Nat.le_trans (Nat.le_of_ble_eq_true rfl) hRf, Nat.le_trans (Nat.le_of_ble_eq_true rfl) hRl⟩, hT _ w_11_133, hT _ ws_138⟩ ⟨PW.blind, va_recv hK hW.1 (ci := 12) (q0 := 0) rfl (pic_obj ko_0.1 ko_0.2 (by decide)), PW.at _ hW hK hN⟩ rfl rfl hl.1 rfl (lv_room (Nat.le_of_ble_eq_true rfl)) d_Mod_write_264 ⟨hRc, hRs⟩) hS (fun q _ h => hF q h) hF (fun  x865 t H locs ht hvm hw hB hz1 hk1 hS => ?_)
    have hW := Wd.back hB ht hF
    clear hB ht hF hz1 hk1 hvm
    refine lv_iconst (v := 0) hx hb d_Mod_write_267 (by decide) ?_
    refine lv_istore (lv' := [(6, .int 0), (0, .ref (ad 0)), (1, .int l1), (2, .int l2), (3, .int l3), (4, .int l4), (5, .int l5)]) hx hb d_Mod_write_268 hl (by decide) rfl (fun ls hl => ?_)
    obtain ⟨n, hw⟩ := hw
    exact tl_Mod_write_270 hx hb hml hown hT hK hN hA hRc hRs hRf hRl hret  n l1 l2 l3 l4 l5 0 x865 H locs ls  hw hW hS (lv_sub hl [1, 2, 3, 4, 5, 6, 0] rfl)
  · have hw := hw.2 c864
    refine lv_aload_n hx hb d_Mod_write_241 rfl (lv_at hl 0 rfl) ?_
    refine lv_iload hx hb d_Mod_write_242 (lv_at hl 5 rfl) ?_
    refine lv_bipush (v := 8) hx hb d_Mod_write_244 (by decide) ?_
    refine lv_iload hx hb d_Mod_write_246 (lv_at hl 6 rfl) ?_
    refine lv_imul hx hb d_Mod_write_248 ?_
    refine lv_ishr hx hb d_Mod_write_249 ?_
    refine lv_sipush (v := 255) hx hb d_Mod_write_250 (by decide) ?_
    refine lv_iand hx hb d_Mod_write_253 ?_
    have hF := hW.free hS hA
    refine va_callv (va_runV (C := R_Mod) (As := [.int ((l5 >>> ((8 * l6) &&& 31)) &&& 255)]) (rest := []) ⟨hx, hb, hml, hown, hT⟩ (k_Mod_addByte l dC dI cI cB cJ cZ ad H.size ((l5 >>> ((8 * l6) &&& 31)) &&& 255) x  hw) ⟨callB_of 1 hT (gwt_in w_11_138) rfl rfl rfl (hT _ w_1_15) (hT _ w_11_135) (by decide +kernel) ⟨Nat.le_trans (Nat.le_of_ble_eq_true rfl) hRf, Nat.le_trans (Nat.le_of_ble_eq_true rfl) hRl⟩, hT _ w_11_137, hT _ ws_139⟩ ⟨PW.blind, va_recv hK hW.1 (ci := 12) (q0 := 0) rfl (pic_obj ko_0.1 ko_0.2 (by decide)), PW.at _ hW hK hN⟩ rfl rfl hl.1 rfl (lv_room (Nat.le_of_ble_eq_true rfl)) d_Mod_write_254 ⟨hRc, hRs⟩) hS (fun q _ h => hF q h) hF (fun  x866 t H locs ht hvm hw hB hz1 hk1 hS => ?_)
    have hW := Wd.back hB ht hF
    clear hB ht hF hz1 hk1 hvm
    refine lv_iinc (v := (l6 + 1)) (lv' := [(6, .int (l6 + 1)), (0, .ref (ad 0)), (1, .int l1), (2, .int l2), (3, .int l3), (4, .int l4), (5, .int l5)]) hx hb d_Mod_write_257 hl (k := 6) rfl rfl (by decide) rfl (fun ls hl => ?_)
    refine lv_goto (tgt := 235) hx hb d_Mod_write_260 (by decide) ?_
    exact hrec235 l1 l2 l3 l4 l5 (l6 + 1) x866 H locs ls  hw hW hS (lv_sub hl [1, 2, 3, 4, 5, 6, 0] rfl)
set_option maxHeartbeats 4000000 in
set_option maxRecDepth 100000 in
theorem tl_Mod_write_235 {p : Program} {l : Launch} {e : Env} {R : Room} {s : State} {m : MethodId} {args : Array Value} {below : List Frame} {meth : Method} {c : Code} {cells slots : Nat} {Q : State → Prop} {dC : Nat → ClassId} {dI : Nat → Nat → Nat} {cI cB cJ cZ : ClassId} {A : Nat → Prop} {ad : Nat → Nat} {post : Int32 → St → Prop} (hx : p.tables.exec = Jvm.exec) (hb : c.code = b_Mod_write) (hml : c.maxLocals = 7) (hown : s.vm.findClass R_Mod = some m.cls) (hT : ∀ w ∈ TG, w.before args s = true) (hK : va_K (dC, dI) CL (TY cI cB cJ cZ) s) (hN : NW s) (hA : ∀ q : Nat, s.heap.size ≤ q → A q) (hRc : cells ≤ R.cells) (hRs : slots ≤ R.slots) (hRf : 8 ≤ R.frames) (hRl : 193 ≤ R.locals) (hret : ∀ (r : Int32) (x : St) (H : Heap) (locs : List Loc) (pc : Nat) (ls : Array Slot), decode b_Mod_write pc = .ok (.ireturn, 1) → post r x → Wd dC dI cI cB cJ cZ ad stM kcM 115 A x H → va_S A s.heap H locs → W p l e R s m args below meth c H locs cells slots Q (F0 m pc ls [.int r]))  : ∀ n : Nat, ∀ (l1 : Int32) (l2 : Int32) (l3 : Int32) (l4 : Int32) (l5 : Int32) (l6 : Int32) (x : St) (H : Heap) (locs : List Loc) (ls : Array Slot), wl_Mod_write_235 post n l1 l2 l3 l4 l5 l6 x → Wd dC dI cI cB cJ cZ ad stM kcM 115 A x H → va_S A s.heap H locs → lv_has ls 7 [(0, .ref (ad 0)), (1, .int l1), (2, .int l2), (3, .int l3), (4, .int l4), (5, .int l5), (6, .int l6)] → W p l e R s m args below meth c H locs cells slots Q (F0 m 235 ls []) := by
  intro n
  induction n with
  | zero => intro l1 l2 l3 l4 l5 l6 x H locs ls  hw; exact hw.elim
  | succ n ih => intro l1 l2 l3 l4 l5 l6 x H locs ls  hw hW hS hl; exact t_Mod_write_235 hx hb hml hown hT hK hN hA hRc hRs hRf hRl hret  ih l1 l2 l3 l4 l5 l6 x H locs ls  hw hW hS hl
set_option maxRecDepth 100000 in
set_option maxHeartbeats 4000000 in
set_option maxRecDepth 100000 in
theorem t_Mod_write_204 {p : Program} {l : Launch} {e : Env} {R : Room} {s : State} {m : MethodId} {args : Array Value} {below : List Frame} {meth : Method} {c : Code} {cells slots : Nat} {Q : State → Prop} {dC : Nat → ClassId} {dI : Nat → Nat → Nat} {cI cB cJ cZ : ClassId} {A : Nat → Prop} {ad : Nat → Nat} {post : Int32 → St → Prop} {rec204 : Int32 → Int32 → Int32 → Int32 → Int32 → Int32 → St → Prop} (hx : p.tables.exec = Jvm.exec) (hb : c.code = b_Mod_write) (hml : c.maxLocals = 7) (hown : s.vm.findClass R_Mod = some m.cls) (hT : ∀ w ∈ TG, w.before args s = true) (hK : va_K (dC, dI) CL (TY cI cB cJ cZ) s) (hN : NW s) (hA : ∀ q : Nat, s.heap.size ≤ q → A q) (hRc : cells ≤ R.cells) (hRs : slots ≤ R.slots) (hRf : 8 ≤ R.frames) (hRl : 193 ≤ R.locals) (hret : ∀ (r : Int32) (x : St) (H : Heap) (locs : List Loc) (pc : Nat) (ls : Array Slot), decode b_Mod_write pc = .ok (.ireturn, 1) → post r x → Wd dC dI cI cB cJ cZ ad stM kcM 115 A x H → va_S A s.heap H locs → W p l e R s m args below meth c H locs cells slots Q (F0 m pc ls [.int r])) (hrec204 : ∀ (l1 : Int32) (l2 : Int32) (l3 : Int32) (l4 : Int32) (l5 : Int32) (l6 : Int32) (x : St) (H : Heap) (locs : List Loc) (ls : Array Slot), rec204 l1 l2 l3 l4 l5 l6 x → Wd dC dI cI cB cJ cZ ad stM kcM 115 A x H → va_S A s.heap H locs → lv_has ls 7 [(0, .ref (ad 0)), (1, .int l1), (2, .int l2), (3, .int l3), (4, .int l4), (5, .int l5), (6, .int l6)] → W p l e R s m args below meth c H locs cells slots Q (F0 m 204 ls [])) : ∀ (l1 : Int32) (l2 : Int32) (l3 : Int32) (l4 : Int32) (l5 : Int32) (l6 : Int32) (x : St) (H : Heap) (locs : List Loc) (ls : Array Slot), j_Mod_write_204 post rec204 l1 l2 l3 l4 l5 l6 x → Wd dC dI cI cB cJ cZ ad stM kcM 115 A x H → va_S A s.heap H locs → lv_has ls 7 [(0, .ref (ad 0)), (1, .int l1), (2, .int l2), (3, .int l3), (4, .int l4), (5, .int l5), (6, .int l6)] → W p l e R s m args below meth c H locs cells slots Q (F0 m 204 ls []) := by
  intro l1 l2 l3 l4 l5 l6 x H locs ls  hw hW hS hl
  unfold j_Mod_write_204 at hw
  refine lv_iload hx hb d_Mod_write_204 (lv_at hl 6 rfl) ?_
  refine lv_iconst (v := 4) hx hb d_Mod_write_206 (by decide) ?_
  refine lv_icmp_ge (tgt := 232) hx hb d_Mod_write_207 (by decide) (fun c867 => ?_) (fun c867 => ?_)
  · have hw := hw.1 c867
    refine lv_iconst (v := 0) hx hb d_Mod_write_232 (by decide) ?_
    refine lv_istore (lv' := [(6, .int 0), (0, .ref (ad 0)), (1, .int l1), (2, .int l2), (3, .int l3), (4, .int l4), (5, .int l5)]) hx hb d_Mod_write_233 hl (by decide) rfl (fun ls hl => ?_)
    obtain ⟨n, hw⟩ := hw
    exact tl_Mod_write_235 hx hb hml hown hT hK hN hA hRc hRs hRf hRl hret  n l1 l2 l3 l4 l5 0 x H locs ls  hw hW hS (lv_sub hl [1, 2, 3, 4, 5, 6, 0] rfl)
  · have hw := hw.2 c867
    refine lv_aload_n hx hb d_Mod_write_210 rfl (lv_at hl 0 rfl) ?_
    refine lv_iload hx hb d_Mod_write_211 (lv_at hl 4 rfl) ?_
    refine lv_bipush (v := 8) hx hb d_Mod_write_213 (by decide) ?_
    refine lv_iload hx hb d_Mod_write_215 (lv_at hl 6 rfl) ?_
    refine lv_imul hx hb d_Mod_write_217 ?_
    refine lv_ishr hx hb d_Mod_write_218 ?_
    refine lv_sipush (v := 255) hx hb d_Mod_write_219 (by decide) ?_
    refine lv_iand hx hb d_Mod_write_222 ?_
    have hF := hW.free hS hA
    refine va_callv (va_runV (C := R_Mod) (As := [.int ((l4 >>> ((8 * l6) &&& 31)) &&& 255)]) (rest := []) ⟨hx, hb, hml, hown, hT⟩ (k_Mod_addByte l dC dI cI cB cJ cZ ad H.size ((l4 >>> ((8 * l6) &&& 31)) &&& 255) x  hw) ⟨callB_of 1 hT (gwt_in w_11_138) rfl rfl rfl (hT _ w_1_15) (hT _ w_11_135) (by decide +kernel) ⟨Nat.le_trans (Nat.le_of_ble_eq_true rfl) hRf, Nat.le_trans (Nat.le_of_ble_eq_true rfl) hRl⟩, hT _ w_11_137, hT _ ws_139⟩ ⟨PW.blind, va_recv hK hW.1 (ci := 12) (q0 := 0) rfl (pic_obj ko_0.1 ko_0.2 (by decide)), PW.at _ hW hK hN⟩ rfl rfl hl.1 rfl (lv_room (Nat.le_of_ble_eq_true rfl)) d_Mod_write_223 ⟨hRc, hRs⟩) hS (fun q _ h => hF q h) hF (fun  x868 t H locs ht hvm hw hB hz1 hk1 hS => ?_)
    have hW := Wd.back hB ht hF
    clear hB ht hF hz1 hk1 hvm
    refine lv_iinc (v := (l6 + 1)) (lv' := [(6, .int (l6 + 1)), (0, .ref (ad 0)), (1, .int l1), (2, .int l2), (3, .int l3), (4, .int l4), (5, .int l5)]) hx hb d_Mod_write_226 hl (k := 6) rfl rfl (by decide) rfl (fun ls hl => ?_)
    refine lv_goto (tgt := 204) hx hb d_Mod_write_229 (by decide) ?_
    exact hrec204 l1 l2 l3 l4 l5 (l6 + 1) x868 H locs ls  hw hW hS (lv_sub hl [1, 2, 3, 4, 5, 6, 0] rfl)
set_option maxHeartbeats 4000000 in
set_option maxRecDepth 100000 in
theorem tl_Mod_write_204 {p : Program} {l : Launch} {e : Env} {R : Room} {s : State} {m : MethodId} {args : Array Value} {below : List Frame} {meth : Method} {c : Code} {cells slots : Nat} {Q : State → Prop} {dC : Nat → ClassId} {dI : Nat → Nat → Nat} {cI cB cJ cZ : ClassId} {A : Nat → Prop} {ad : Nat → Nat} {post : Int32 → St → Prop} (hx : p.tables.exec = Jvm.exec) (hb : c.code = b_Mod_write) (hml : c.maxLocals = 7) (hown : s.vm.findClass R_Mod = some m.cls) (hT : ∀ w ∈ TG, w.before args s = true) (hK : va_K (dC, dI) CL (TY cI cB cJ cZ) s) (hN : NW s) (hA : ∀ q : Nat, s.heap.size ≤ q → A q) (hRc : cells ≤ R.cells) (hRs : slots ≤ R.slots) (hRf : 8 ≤ R.frames) (hRl : 193 ≤ R.locals) (hret : ∀ (r : Int32) (x : St) (H : Heap) (locs : List Loc) (pc : Nat) (ls : Array Slot), decode b_Mod_write pc = .ok (.ireturn, 1) → post r x → Wd dC dI cI cB cJ cZ ad stM kcM 115 A x H → va_S A s.heap H locs → W p l e R s m args below meth c H locs cells slots Q (F0 m pc ls [.int r]))  : ∀ n : Nat, ∀ (l1 : Int32) (l2 : Int32) (l3 : Int32) (l4 : Int32) (l5 : Int32) (l6 : Int32) (x : St) (H : Heap) (locs : List Loc) (ls : Array Slot), wl_Mod_write_204 post n l1 l2 l3 l4 l5 l6 x → Wd dC dI cI cB cJ cZ ad stM kcM 115 A x H → va_S A s.heap H locs → lv_has ls 7 [(0, .ref (ad 0)), (1, .int l1), (2, .int l2), (3, .int l3), (4, .int l4), (5, .int l5), (6, .int l6)] → W p l e R s m args below meth c H locs cells slots Q (F0 m 204 ls []) := by
  intro n
  induction n with
  | zero => intro l1 l2 l3 l4 l5 l6 x H locs ls  hw; exact hw.elim
  | succ n ih => intro l1 l2 l3 l4 l5 l6 x H locs ls  hw hW hS hl; exact t_Mod_write_204 hx hb hml hown hT hK hN hA hRc hRs hRf hRl hret  ih l1 l2 l3 l4 l5 l6 x H locs ls  hw hW hS hl
set_option maxRecDepth 100000 in
set_option maxHeartbeats 4000000 in
set_option maxRecDepth 100000 in
theorem t_Mod_write_135 {p : Program} {l : Launch} {e : Env} {R : Room} {s : State} {m : MethodId} {args : Array Value} {below : List Frame} {meth : Method} {c : Code} {cells slots : Nat} {Q : State → Prop} {dC : Nat → ClassId} {dI : Nat → Nat → Nat} {cI cB cJ cZ : ClassId} {A : Nat → Prop} {ad : Nat → Nat} {post : Int32 → St → Prop} (hx : p.tables.exec = Jvm.exec) (hb : c.code = b_Mod_write) (hml : c.maxLocals = 7) (hown : s.vm.findClass R_Mod = some m.cls) (hT : ∀ w ∈ TG, w.before args s = true) (hK : va_K (dC, dI) CL (TY cI cB cJ cZ) s) (hN : NW s) (hA : ∀ q : Nat, s.heap.size ≤ q → A q) (hRc : cells ≤ R.cells) (hRs : slots ≤ R.slots) (hRf : 8 ≤ R.frames) (hRl : 193 ≤ R.locals) (hret : ∀ (r : Int32) (x : St) (H : Heap) (locs : List Loc) (pc : Nat) (ls : Array Slot), decode b_Mod_write pc = .ok (.ireturn, 1) → post r x → Wd dC dI cI cB cJ cZ ad stM kcM 115 A x H → va_S A s.heap H locs → W p l e R s m args below meth c H locs cells slots Q (F0 m pc ls [.int r]))  : ∀ (l1 : Int32) (l2 : Int32) (l3 : Int32) (l4 : Int32) (l5 : Int32) (x : St) (H : Heap) (locs : List Loc) (ls : Array Slot), j_Mod_write_135 post l1 l2 l3 l4 l5 x → Wd dC dI cI cB cJ cZ ad stM kcM 115 A x H → va_S A s.heap H locs → lv_has ls 7 [(0, .ref (ad 0)), (1, .int l1), (2, .int l2), (3, .int l3), (4, .int l4), (5, .int l5)] → W p l e R s m args below meth c H locs cells slots Q (F0 m 135 ls []) := by
  intro l1 l2 l3 l4 l5 x H locs ls  hw hW hS hl
  unfold j_Mod_write_135 at hw
  refine lv_iconst (v := (-1)) hx hb d_Mod_write_135 (by decide) ?_
  exact hret (-1) x H locs 136 ls d_Mod_write_136 hw hW hS
set_option maxRecDepth 100000 in
set_option maxHeartbeats 4000000 in
set_option maxRecDepth 100000 in
theorem t_Mod_write_128 {p : Program} {l : Launch} {e : Env} {R : Room} {s : State} {m : MethodId} {args : Array Value} {below : List Frame} {meth : Method} {c : Code} {cells slots : Nat} {Q : State → Prop} {dC : Nat → ClassId} {dI : Nat → Nat → Nat} {cI cB cJ cZ : ClassId} {A : Nat → Prop} {ad : Nat → Nat} {post : Int32 → St → Prop} {rec68 : Int32 → Int32 → Int32 → Int32 → St → Prop} {rec80 : Int32 → Int32 → Int32 → Int32 → Int32 → St → Prop} (hx : p.tables.exec = Jvm.exec) (hb : c.code = b_Mod_write) (hml : c.maxLocals = 7) (hown : s.vm.findClass R_Mod = some m.cls) (hT : ∀ w ∈ TG, w.before args s = true) (hK : va_K (dC, dI) CL (TY cI cB cJ cZ) s) (hN : NW s) (hA : ∀ q : Nat, s.heap.size ≤ q → A q) (hRc : cells ≤ R.cells) (hRs : slots ≤ R.slots) (hRf : 8 ≤ R.frames) (hRl : 193 ≤ R.locals) (hret : ∀ (r : Int32) (x : St) (H : Heap) (locs : List Loc) (pc : Nat) (ls : Array Slot), decode b_Mod_write pc = .ok (.ireturn, 1) → post r x → Wd dC dI cI cB cJ cZ ad stM kcM 115 A x H → va_S A s.heap H locs → W p l e R s m args below meth c H locs cells slots Q (F0 m pc ls [.int r])) (hrec68 : ∀ (l1 : Int32) (l2 : Int32) (l3 : Int32) (l4 : Int32) (x : St) (H : Heap) (locs : List Loc) (ls : Array Slot), rec68 l1 l2 l3 l4 x → Wd dC dI cI cB cJ cZ ad stM kcM 115 A x H → va_S A s.heap H locs → lv_has ls 7 [(0, .ref (ad 0)), (1, .int l1), (2, .int l2), (3, .int l3), (4, .int l4)] → W p l e R s m args below meth c H locs cells slots Q (F0 m 68 ls [])) (hrec80 : ∀ (l1 : Int32) (l2 : Int32) (l3 : Int32) (l4 : Int32) (l5 : Int32) (x : St) (H : Heap) (locs : List Loc) (ls : Array Slot), rec80 l1 l2 l3 l4 l5 x → Wd dC dI cI cB cJ cZ ad stM kcM 115 A x H → va_S A s.heap H locs → lv_has ls 7 [(0, .ref (ad 0)), (1, .int l1), (2, .int l2), (3, .int l3), (4, .int l4), (5, .int l5)] → W p l e R s m args below meth c H locs cells slots Q (F0 m 80 ls [])) : ∀ (l1 : Int32) (l2 : Int32) (l3 : Int32) (l4 : Int32) (l5 : Int32) (s0 : Int32) (s1 : Int32) (s2 : Int32) (s3 : Int32) (x : St) (H : Heap) (locs : List Loc) (ls : Array Slot), j_Mod_write_128 post rec68 rec80 l1 l2 l3 l4 l5 s0 s1 s2 s3 x → Wd dC dI cI cB cJ cZ ad stM kcM 115 A x H → va_S A s.heap H locs → lv_has ls 7 [(0, .ref (ad 0)), (1, .int l1), (2, .int l2), (3, .int l3), (4, .int l4), (5, .int l5)] → W p l e R s m args below meth c H locs cells slots Q (F0 m 128 ls [.int s0, .int s1, .int s2, .int s3, .ref (ad 0)]) := by
  intro l1 l2 l3 l4 l5 s0 s1 s2 s3 x H locs ls  hw hW hS hl
  unfold j_Mod_write_128 at hw
  refine lv_iload_n hx hb d_Mod_write_128 rfl (lv_at hl 1 rfl) ?_
  have hF := hW.free hS hA
  refine va_calli (va_runV (C := R_Mod) (As := [.int s3, .int s2, .int s1, .int s0, .int l1]) (rest := []) ⟨hx, hb, hml, hown, hT⟩ (k_Mod_writeChunk l dC dI cI cB cJ cZ ad H.size s3 s2 s1 s0 l1 x  hw) ⟨callB_of 5 hT (gwt_in w_11_142) rfl rfl rfl (hT _ w_1_15) (hT _ w_11_139) (by decide +kernel) ⟨Nat.le_trans (Nat.le_of_ble_eq_true rfl) hRf, Nat.le_trans (Nat.le_of_ble_eq_true rfl) hRl⟩, hT _ w_11_141, hT _ ws_140⟩ ⟨PW.blind, va_recv hK hW.1 (ci := 12) (q0 := 0) rfl (pic_obj ko_0.1 ko_0.2 (by decide)), PW.at _ hW hK hN⟩ rfl rfl hl.1 rfl (lv_room (Nat.le_of_ble_eq_true rfl)) d_Mod_write_129 ⟨hRc, hRs⟩) hS (fun q _ h => hF q h) hF (fun r870 x869 t H locs ht hvm hw hB hz1 hk1 hS => ?_)
  have hW := Wd.back hB ht hF
  clear hB ht hF hz1 hk1 hvm
  refine lv_if_ne (tgt := 137) hx hb d_Mod_write_132 (by decide) (fun c871 => ?_) (fun c871 => ?_)
  · have hw := hw.1 c871
    refine lv_iinc (v := (l3 + 1)) (lv' := [(3, .int (l3 + 1)), (0, .ref (ad 0)), (1, .int l1), (2, .int l2), (4, .int l4), (5, .int l5)]) hx hb d_Mod_write_137 hl (k := 3) rfl rfl (by decide) rfl (fun ls hl => ?_)
    refine lv_iinc (v := (l5 + 1)) (lv' := [(5, .int (l5 + 1)), (3, .int (l3 + 1)), (0, .ref (ad 0)), (1, .int l1), (2, .int l2), (4, .int l4)]) hx hb d_Mod_write_140 hl (k := 5) rfl rfl (by decide) rfl (fun ls hl => ?_)
    refine lv_goto (tgt := 80) hx hb d_Mod_write_143 (by decide) ?_
    exact hrec80 l1 l2 (l3 + 1) l4 (l5 + 1) x869 H locs ls  hw hW hS (lv_sub hl [2, 3, 4, 1, 5, 0] rfl)
  · have hw := hw.2 c871
    exact t_Mod_write_135 hx hb hml hown hT hK hN hA hRc hRs hRf hRl hret  l1 l2 l3 l4 l5 x869 H locs ls  hw hW hS (lv_sub hl [0, 1, 2, 3, 4, 5] rfl)
set_option maxRecDepth 100000 in
set_option maxHeartbeats 4000000 in
set_option maxRecDepth 100000 in
theorem t_Mod_write_80 {p : Program} {l : Launch} {e : Env} {R : Room} {s : State} {m : MethodId} {args : Array Value} {below : List Frame} {meth : Method} {c : Code} {cells slots : Nat} {Q : State → Prop} {dC : Nat → ClassId} {dI : Nat → Nat → Nat} {cI cB cJ cZ : ClassId} {A : Nat → Prop} {ad : Nat → Nat} {post : Int32 → St → Prop} {rec68 : Int32 → Int32 → Int32 → Int32 → St → Prop} {rec80 : Int32 → Int32 → Int32 → Int32 → Int32 → St → Prop} (hx : p.tables.exec = Jvm.exec) (hb : c.code = b_Mod_write) (hml : c.maxLocals = 7) (hown : s.vm.findClass R_Mod = some m.cls) (hT : ∀ w ∈ TG, w.before args s = true) (hK : va_K (dC, dI) CL (TY cI cB cJ cZ) s) (hN : NW s) (hA : ∀ q : Nat, s.heap.size ≤ q → A q) (hRc : cells ≤ R.cells) (hRs : slots ≤ R.slots) (hRf : 8 ≤ R.frames) (hRl : 193 ≤ R.locals) (hret : ∀ (r : Int32) (x : St) (H : Heap) (locs : List Loc) (pc : Nat) (ls : Array Slot), decode b_Mod_write pc = .ok (.ireturn, 1) → post r x → Wd dC dI cI cB cJ cZ ad stM kcM 115 A x H → va_S A s.heap H locs → W p l e R s m args below meth c H locs cells slots Q (F0 m pc ls [.int r])) (hrec68 : ∀ (l1 : Int32) (l2 : Int32) (l3 : Int32) (l4 : Int32) (x : St) (H : Heap) (locs : List Loc) (ls : Array Slot), rec68 l1 l2 l3 l4 x → Wd dC dI cI cB cJ cZ ad stM kcM 115 A x H → va_S A s.heap H locs → lv_has ls 7 [(0, .ref (ad 0)), (1, .int l1), (2, .int l2), (3, .int l3), (4, .int l4)] → W p l e R s m args below meth c H locs cells slots Q (F0 m 68 ls [])) (hrec80 : ∀ (l1 : Int32) (l2 : Int32) (l3 : Int32) (l4 : Int32) (l5 : Int32) (x : St) (H : Heap) (locs : List Loc) (ls : Array Slot), rec80 l1 l2 l3 l4 l5 x → Wd dC dI cI cB cJ cZ ad stM kcM 115 A x H → va_S A s.heap H locs → lv_has ls 7 [(0, .ref (ad 0)), (1, .int l1), (2, .int l2), (3, .int l3), (4, .int l4), (5, .int l5)] → W p l e R s m args below meth c H locs cells slots Q (F0 m 80 ls [])) : ∀ (l1 : Int32) (l2 : Int32) (l3 : Int32) (l4 : Int32) (l5 : Int32) (x : St) (H : Heap) (locs : List Loc) (ls : Array Slot), j_Mod_write_80 post rec68 rec80 l1 l2 l3 l4 l5 x → Wd dC dI cI cB cJ cZ ad stM kcM 115 A x H → va_S A s.heap H locs → lv_has ls 7 [(0, .ref (ad 0)), (1, .int l1), (2, .int l2), (3, .int l3), (4, .int l4), (5, .int l5)] → W p l e R s m args below meth c H locs cells slots Q (F0 m 80 ls []) := by
  intro l1 l2 l3 l4 l5 x H locs ls  hw hW hS hl
  unfold j_Mod_write_80 at hw
  refine lv_iload hx hb d_Mod_write_80 (lv_at hl 5 rfl) ?_
  refine lv_aload_n hx hb d_Mod_write_82 rfl (lv_at hl 0 rfl) ?_
  refine w_getf (q := 10) (k := 12) (t := 12) (C := R_Mod) (T := F_Mod) (N := 167) hx hb hT hown hK hW ko_0.1 ko_0.2 (by decide) in_Mod rfl rfl (by decide) rfl fr_Mod_12 w_8_188 d_Mod_write_83 rfl ?_
  refine lv_iconst (v := 0) hx hb d_Mod_write_86 (by decide) ?_
  obtain ⟨hi, hw⟩ := hw
  refine w_iald (o := 10) hx hb hK hW ko_10.1 ko_10.2 hi d_Mod_write_87 ?_
  refine lv_icmp_ge (tgt := 146) hx hb d_Mod_write_88 (by decide) (fun c872 => ?_) (fun c872 => ?_)
  · have hw := hw.1 c872
    refine lv_iload hx hb d_Mod_write_146 (lv_at hl 4 rfl) ?_
    refine lv_iload_n hx hb d_Mod_write_148 rfl (lv_at hl 2 rfl) ?_
    refine lv_iadd hx hb d_Mod_write_149 ?_
    refine lv_topi (fun v873 ev873 => ?_)
    have hw := hw v873 ev873
    refine lv_istore (lv' := [(4, .int v873), (0, .ref (ad 0)), (1, .int l1), (2, .int l2), (3, .int l3), (5, .int l5)]) hx hb d_Mod_write_150 hl (by decide) rfl (fun ls hl => ?_)
    refine lv_goto (tgt := 68) hx hb d_Mod_write_152 (by decide) ?_
    exact hrec68 l1 l2 l3 v873 x H locs ls  hw hW hS (lv_sub hl [1, 2, 3, 4, 0] rfl)
  · have hw := hw.2 c872
    refine lv_aload_n hx hb d_Mod_write_91 rfl (lv_at hl 0 rfl) ?_
    refine w_geti (k := 66) (t := 12) (C := R_Mod) (T := F_Mod) (N := 167) hx hb hT hown hK hW ko_0.1 ko_0.2 (by decide) in_Mod rfl rfl (by decide) rfl fr_Mod_66 w_9_2 d_Mod_write_92 ?_
    refine lv_ldc hx hb hown (hT _ w_8_171) d_Mod_write_95 ?_
    refine lv_icmp_gt (tgt := 135) hx hb d_Mod_write_97 (by decide) (fun c874 => ?_) (fun c874 => ?_)
    · have hw := hw.1 c874
      exact t_Mod_write_135 hx hb hml hown hT hK hN hA hRc hRs hRf hRl hret  l1 l2 l3 l4 l5 x H locs ls  hw hW hS (lv_sub hl [0, 1, 2, 3, 4, 5] rfl)
    · have hw := hw.2 c874
      refine lv_aload_n hx hb d_Mod_write_100 rfl (lv_at hl 0 rfl) ?_
      refine lv_iload_n hx hb d_Mod_write_101 rfl (lv_at hl 3 rfl) ?_
      refine lv_iload hx hb d_Mod_write_102 (lv_at hl 5 rfl) ?_
      refine lv_iload hx hb d_Mod_write_104 (lv_at hl 4 rfl) ?_
      refine lv_iload hx hb d_Mod_write_106 (lv_at hl 4 rfl) ?_
      refine lv_iload_n hx hb d_Mod_write_108 rfl (lv_at hl 2 rfl) ?_
      refine lv_iadd hx hb d_Mod_write_109 ?_
      refine lv_aload_n hx hb d_Mod_write_110 rfl (lv_at hl 0 rfl) ?_
      refine w_geti (k := 34) (t := 12) (C := R_Mod) (T := F_Mod) (N := 167) hx hb hT hown hK hW ko_0.1 ko_0.2 (by decide) in_Mod rfl rfl (by decide) rfl fr_Mod_34 w_8_210 d_Mod_write_111 ?_
      refine lv_icmp_ge (tgt := 124) hx hb d_Mod_write_114 (by decide) (fun c875 => ?_) (fun c875 => ?_)
      · have hw := hw.1 c875
        refine lv_aload_n hx hb d_Mod_write_124 rfl (lv_at hl 0 rfl) ?_
        refine w_geti (k := 34) (t := 12) (C := R_Mod) (T := F_Mod) (N := 167) hx hb hT hown hK hW ko_0.1 ko_0.2 (by decide) in_Mod rfl rfl (by decide) rfl fr_Mod_34 w_8_210 d_Mod_write_125 ?_
        exact t_Mod_write_128 hx hb hml hown hT hK hN hA hRc hRs hRf hRl hret hrec68 hrec80 l1 l2 l3 l4 l5 (fI x 0 34) l4 l5 l3 x H locs ls  hw hW hS (lv_sub hl [0, 1, 2, 3, 4, 5] rfl)
      · have hw := hw.2 c875
        refine lv_iload hx hb d_Mod_write_117 (lv_at hl 4 rfl) ?_
        refine lv_iload_n hx hb d_Mod_write_119 rfl (lv_at hl 2 rfl) ?_
        refine lv_iadd hx hb d_Mod_write_120 ?_
        refine lv_goto (tgt := 128) hx hb d_Mod_write_121 (by decide) ?_
        exact t_Mod_write_128 hx hb hml hown hT hK hN hA hRc hRs hRf hRl hret hrec68 hrec80 l1 l2 l3 l4 l5 (l4 + l2) l4 l5 l3 x H locs ls  hw hW hS (lv_sub hl [0, 1, 2, 3, 4, 5] rfl)
set_option maxHeartbeats 4000000 in
set_option maxRecDepth 100000 in
theorem tl_Mod_write_80 {p : Program} {l : Launch} {e : Env} {R : Room} {s : State} {m : MethodId} {args : Array Value} {below : List Frame} {meth : Method} {c : Code} {cells slots : Nat} {Q : State → Prop} {dC : Nat → ClassId} {dI : Nat → Nat → Nat} {cI cB cJ cZ : ClassId} {A : Nat → Prop} {ad : Nat → Nat} {post : Int32 → St → Prop} {rec68 : Int32 → Int32 → Int32 → Int32 → St → Prop} (hx : p.tables.exec = Jvm.exec) (hb : c.code = b_Mod_write) (hml : c.maxLocals = 7) (hown : s.vm.findClass R_Mod = some m.cls) (hT : ∀ w ∈ TG, w.before args s = true) (hK : va_K (dC, dI) CL (TY cI cB cJ cZ) s) (hN : NW s) (hA : ∀ q : Nat, s.heap.size ≤ q → A q) (hRc : cells ≤ R.cells) (hRs : slots ≤ R.slots) (hRf : 8 ≤ R.frames) (hRl : 193 ≤ R.locals) (hret : ∀ (r : Int32) (x : St) (H : Heap) (locs : List Loc) (pc : Nat) (ls : Array Slot), decode b_Mod_write pc = .ok (.ireturn, 1) → post r x → Wd dC dI cI cB cJ cZ ad stM kcM 115 A x H → va_S A s.heap H locs → W p l e R s m args below meth c H locs cells slots Q (F0 m pc ls [.int r])) (hrec68 : ∀ (l1 : Int32) (l2 : Int32) (l3 : Int32) (l4 : Int32) (x : St) (H : Heap) (locs : List Loc) (ls : Array Slot), rec68 l1 l2 l3 l4 x → Wd dC dI cI cB cJ cZ ad stM kcM 115 A x H → va_S A s.heap H locs → lv_has ls 7 [(0, .ref (ad 0)), (1, .int l1), (2, .int l2), (3, .int l3), (4, .int l4)] → W p l e R s m args below meth c H locs cells slots Q (F0 m 68 ls [])) : ∀ n : Nat, ∀ (l1 : Int32) (l2 : Int32) (l3 : Int32) (l4 : Int32) (l5 : Int32) (x : St) (H : Heap) (locs : List Loc) (ls : Array Slot), wl_Mod_write_80 post rec68 n l1 l2 l3 l4 l5 x → Wd dC dI cI cB cJ cZ ad stM kcM 115 A x H → va_S A s.heap H locs → lv_has ls 7 [(0, .ref (ad 0)), (1, .int l1), (2, .int l2), (3, .int l3), (4, .int l4), (5, .int l5)] → W p l e R s m args below meth c H locs cells slots Q (F0 m 80 ls []) := by
  intro n
  induction n with
  | zero => intro l1 l2 l3 l4 l5 x H locs ls  hw; exact hw.elim
  | succ n ih => intro l1 l2 l3 l4 l5 x H locs ls  hw hW hS hl; exact t_Mod_write_80 hx hb hml hown hT hK hN hA hRc hRs hRf hRl hret hrec68 ih l1 l2 l3 l4 l5 x H locs ls  hw hW hS hl
set_option maxRecDepth 100000 in
set_option maxHeartbeats 4000000 in
set_option maxRecDepth 100000 in
theorem t_Mod_write_68 {p : Program} {l : Launch} {e : Env} {R : Room} {s : State} {m : MethodId} {args : Array Value} {below : List Frame} {meth : Method} {c : Code} {cells slots : Nat} {Q : State → Prop} {dC : Nat → ClassId} {dI : Nat → Nat → Nat} {cI cB cJ cZ : ClassId} {A : Nat → Prop} {ad : Nat → Nat} {post : Int32 → St → Prop} {rec68 : Int32 → Int32 → Int32 → Int32 → St → Prop} (hx : p.tables.exec = Jvm.exec) (hb : c.code = b_Mod_write) (hml : c.maxLocals = 7) (hown : s.vm.findClass R_Mod = some m.cls) (hT : ∀ w ∈ TG, w.before args s = true) (hK : va_K (dC, dI) CL (TY cI cB cJ cZ) s) (hN : NW s) (hA : ∀ q : Nat, s.heap.size ≤ q → A q) (hRc : cells ≤ R.cells) (hRs : slots ≤ R.slots) (hRf : 8 ≤ R.frames) (hRl : 193 ≤ R.locals) (hret : ∀ (r : Int32) (x : St) (H : Heap) (locs : List Loc) (pc : Nat) (ls : Array Slot), decode b_Mod_write pc = .ok (.ireturn, 1) → post r x → Wd dC dI cI cB cJ cZ ad stM kcM 115 A x H → va_S A s.heap H locs → W p l e R s m args below meth c H locs cells slots Q (F0 m pc ls [.int r])) (hrec68 : ∀ (l1 : Int32) (l2 : Int32) (l3 : Int32) (l4 : Int32) (x : St) (H : Heap) (locs : List Loc) (ls : Array Slot), rec68 l1 l2 l3 l4 x → Wd dC dI cI cB cJ cZ ad stM kcM 115 A x H → va_S A s.heap H locs → lv_has ls 7 [(0, .ref (ad 0)), (1, .int l1), (2, .int l2), (3, .int l3), (4, .int l4)] → W p l e R s m args below meth c H locs cells slots Q (F0 m 68 ls [])) : ∀ (l1 : Int32) (l2 : Int32) (l3 : Int32) (l4 : Int32) (x : St) (H : Heap) (locs : List Loc) (ls : Array Slot), j_Mod_write_68 post rec68 l1 l2 l3 l4 x → Wd dC dI cI cB cJ cZ ad stM kcM 115 A x H → va_S A s.heap H locs → lv_has ls 7 [(0, .ref (ad 0)), (1, .int l1), (2, .int l2), (3, .int l3), (4, .int l4)] → W p l e R s m args below meth c H locs cells slots Q (F0 m 68 ls []) := by
  intro l1 l2 l3 l4 x H locs ls  hw hW hS hl
  unfold j_Mod_write_68 at hw
  refine lv_iload hx hb d_Mod_write_68 (lv_at hl 4 rfl) ?_
  refine lv_aload_n hx hb d_Mod_write_70 rfl (lv_at hl 0 rfl) ?_
  refine w_geti (k := 34) (t := 12) (C := R_Mod) (T := F_Mod) (N := 167) hx hb hT hown hK hW ko_0.1 ko_0.2 (by decide) in_Mod rfl rfl (by decide) rfl fr_Mod_34 w_8_210 d_Mod_write_71 ?_
  refine lv_icmp_ge (tgt := 155) hx hb d_Mod_write_74 (by decide) (fun c876 => ?_) (fun c876 => ?_)
  · have hw := hw.1 c876
    refine lv_aload_n hx hb d_Mod_write_155 rfl (lv_at hl 0 rfl) ?_
    refine lv_iload_n hx hb d_Mod_write_156 rfl (lv_at hl 2 rfl) ?_
    have hF := hW.free hS hA
    refine va_callv (va_runV (C := R_Mod) (As := [.int l2]) (rest := []) ⟨hx, hb, hml, hown, hT⟩ (k_Mod_putFooter l dC dI cI cB cJ cZ ad H.size l2 x  hw) ⟨callB_of 1 hT (gwt_in w_12_59) rfl rfl rfl (hT _ w_1_15) (hT _ w_12_56) (by decide +kernel) ⟨Nat.le_trans (Nat.le_of_ble_eq_true rfl) hRf, Nat.le_trans (Nat.le_of_ble_eq_true rfl) hRl⟩, hT _ w_12_58, hT _ ws_176⟩ ⟨PW.blind, va_recv hK hW.1 (ci := 12) (q0 := 0) rfl (pic_obj ko_0.1 ko_0.2 (by decide)), PW.at _ hW hK hN⟩ rfl rfl hl.1 rfl (lv_room (Nat.le_of_ble_eq_true rfl)) d_Mod_write_157 ⟨hRc, hRs⟩) hS (fun q _ h => hF q h) hF (fun  x877 t H locs ht hvm hw hB hz1 hk1 hS => ?_)
    have hW := Wd.back hB ht hF
    clear hB ht hF hz1 hk1 hvm
    refine lv_aload_n hx hb d_Mod_write_160 rfl (lv_at hl 0 rfl) ?_
    refine w_geti (k := 66) (t := 12) (C := R_Mod) (T := F_Mod) (N := 167) hx hb hT hown hK hW ko_0.1 ko_0.2 (by decide) in_Mod rfl rfl (by decide) rfl fr_Mod_66 w_9_2 d_Mod_write_161 ?_
    refine lv_aload_n hx hb d_Mod_write_164 rfl (lv_at hl 0 rfl) ?_
    refine w_geti (k := 64) (t := 12) (C := R_Mod) (T := F_Mod) (N := 167) hx hb hT hown hK hW ko_0.1 ko_0.2 (by decide) in_Mod rfl rfl (by decide) rfl fr_Mod_64 w_9_0 d_Mod_write_165 ?_
    refine lv_iadd hx hb d_Mod_write_168 ?_
    refine lv_bipush (v := 12) hx hb d_Mod_write_169 (by decide) ?_
    refine lv_iadd hx hb d_Mod_write_171 ?_
    refine lv_ldc hx hb hown (hT _ w_8_171) d_Mod_write_172 ?_
    refine lv_icmp_le (tgt := 179) hx hb d_Mod_write_174 (by decide) (fun c878 => ?_) (fun c878 => ?_)
    · have hw := hw.1 c878
      refine lv_aload_n hx hb d_Mod_write_179 rfl (lv_at hl 0 rfl) ?_
      have hF := hW.free hS hA
      refine va_callv (va_runV (C := R_Mod) (As := []) (rest := []) ⟨hx, hb, hml, hown, hT⟩ (k_Mod_addSheet l dC dI cI cB cJ cZ ad H.size  x877  hw) ⟨callB_of 0 hT (gwt_in w_12_55) rfl rfl rfl (hT _ w_1_15) (hT _ w_12_52) (by decide +kernel) ⟨Nat.le_trans (Nat.le_of_ble_eq_true rfl) hRf, Nat.le_trans (Nat.le_of_ble_eq_true rfl) hRl⟩, hT _ w_12_54, hT _ ws_175⟩ ⟨PW.blind, va_recv hK hW.1 (ci := 12) (q0 := 0) rfl (pic_obj ko_0.1 ko_0.2 (by decide)), PW.at _ hW hK hN⟩ rfl rfl hl.1 rfl (lv_room (Nat.le_of_ble_eq_true rfl)) d_Mod_write_180 ⟨hRc, hRs⟩) hS (fun q _ h => hF q h) hF (fun  x879 t H locs ht hvm hw hB hz1 hk1 hS => ?_)
      have hW := Wd.back hB ht hF
      clear hB ht hF hz1 hk1 hvm
      refine lv_aload_n hx hb d_Mod_write_183 rfl (lv_at hl 0 rfl) ?_
      refine w_geti (k := 64) (t := 12) (C := R_Mod) (T := F_Mod) (N := 167) hx hb hT hown hK hW ko_0.1 ko_0.2 (by decide) in_Mod rfl rfl (by decide) rfl fr_Mod_64 w_9_0 d_Mod_write_184 ?_
      refine lv_topi (fun v880 ev880 => ?_)
      have hw := hw v880 ev880
      refine lv_istore (lv' := [(4, .int v880), (0, .ref (ad 0)), (1, .int l1), (2, .int l2), (3, .int l3)]) hx hb d_Mod_write_187 hl (by decide) rfl (fun ls hl => ?_)
      refine lv_aload_n hx hb d_Mod_write_189 rfl (lv_at hl 1 rfl) ?_
      refine w_getf (q := 39) (k := 60) (t := 12) (C := R_Mod) (T := F_Mod) (N := 167) hx hb hT hown hK hW ko_0.1 ko_0.2 (by decide) in_Mod rfl rfl (by decide) rfl fr_Mod_60 w_8_236 d_Mod_write_190 rfl ?_
      refine lv_iconst (v := 0) hx hb d_Mod_write_193 (by decide) ?_
      refine lv_iload hx hb d_Mod_write_194 (lv_at hl 0 rfl) ?_
      have hF := hW.free hS hA
      refine va_calli (va_runS (As := [.ref (ad 39), .int 0, .int v880]) (rest := []) ⟨hx, hb, hml, hown, hT⟩ (k_Mod_check l dC dI cI cB cJ cZ ad H.size 39 0 v880 x879 ko_39 hw) ⟨callB_of 3 hT (gwt_in w_12_50) rfl rfl rfl (hT _ w_1_15) (hT _ w_12_48) (by decide +kernel) ⟨Nat.le_trans (Nat.le_of_ble_eq_true rfl) hRf, Nat.le_trans (Nat.le_of_ble_eq_true rfl) hRl⟩, hT _ w_12_49⟩ ⟨PW.blind, PW.at _ hW hK hN⟩ rfl rfl hl.1 rfl (lv_room (Nat.le_of_ble_eq_true rfl)) d_Mod_write_196 ⟨hRc, hRs⟩) hS (fun q _ h => hF q h) hF (fun r882 x881 t H locs ht hvm hw hB hz1 hk1 hS => ?_)
      have hW := Wd.back hB ht hF
      clear hB ht hF hz1 hk1 hvm
      refine lv_istore (lv' := [(5, .int r882), (4, .int v880), (0, .ref (ad 0)), (1, .int l1), (2, .int l2), (3, .int l3)]) hx hb d_Mod_write_199 hl (by decide) rfl (fun ls hl => ?_)
      refine lv_iconst (v := 0) hx hb d_Mod_write_201 (by decide) ?_
      refine lv_istore (lv' := [(6, .int 0), (5, .int r882), (4, .int v880), (0, .ref (ad 0)), (1, .int l1), (2, .int l2), (3, .int l3)]) hx hb d_Mod_write_202 hl (by decide) rfl (fun ls hl => ?_)
      obtain ⟨n, hw⟩ := hw
      exact tl_Mod_write_204 hx hb hml hown hT hK hN hA hRc hRs hRf hRl hret  n l1 l2 l3 v880 r882 0 x881 H locs ls  hw hW hS (lv_sub hl [3, 4, 5, 6, 2, 1, 0] rfl)
    · have hw := hw.2 c878
      refine lv_iconst (v := (-1)) hx hb d_Mod_write_177 (by decide) ?_
      exact hret (-1) x877 H locs 178 ls d_Mod_write_178 hw hW hS
  · have hw := hw.2 c876
    refine lv_iconst (v := 0) hx hb d_Mod_write_77 (by decide) ?_
    refine lv_istore (lv' := [(5, .int 0), (0, .ref (ad 0)), (1, .int l1), (2, .int l2), (3, .int l3), (4, .int l4)]) hx hb d_Mod_write_78 hl (by decide) rfl (fun ls hl => ?_)
    obtain ⟨n, hw⟩ := hw
    exact tl_Mod_write_80 hx hb hml hown hT hK hN hA hRc hRs hRf hRl hret hrec68 n l1 l2 l3 l4 0 x H locs ls  hw hW hS (lv_sub hl [1, 2, 3, 4, 5, 0] rfl)
set_option maxHeartbeats 4000000 in
set_option maxRecDepth 100000 in
theorem tl_Mod_write_68 {p : Program} {l : Launch} {e : Env} {R : Room} {s : State} {m : MethodId} {args : Array Value} {below : List Frame} {meth : Method} {c : Code} {cells slots : Nat} {Q : State → Prop} {dC : Nat → ClassId} {dI : Nat → Nat → Nat} {cI cB cJ cZ : ClassId} {A : Nat → Prop} {ad : Nat → Nat} {post : Int32 → St → Prop} (hx : p.tables.exec = Jvm.exec) (hb : c.code = b_Mod_write) (hml : c.maxLocals = 7) (hown : s.vm.findClass R_Mod = some m.cls) (hT : ∀ w ∈ TG, w.before args s = true) (hK : va_K (dC, dI) CL (TY cI cB cJ cZ) s) (hN : NW s) (hA : ∀ q : Nat, s.heap.size ≤ q → A q) (hRc : cells ≤ R.cells) (hRs : slots ≤ R.slots) (hRf : 8 ≤ R.frames) (hRl : 193 ≤ R.locals) (hret : ∀ (r : Int32) (x : St) (H : Heap) (locs : List Loc) (pc : Nat) (ls : Array Slot), decode b_Mod_write pc = .ok (.ireturn, 1) → post r x → Wd dC dI cI cB cJ cZ ad stM kcM 115 A x H → va_S A s.heap H locs → W p l e R s m args below meth c H locs cells slots Q (F0 m pc ls [.int r]))  : ∀ n : Nat, ∀ (l1 : Int32) (l2 : Int32) (l3 : Int32) (l4 : Int32) (x : St) (H : Heap) (locs : List Loc) (ls : Array Slot), wl_Mod_write_68 post n l1 l2 l3 l4 x → Wd dC dI cI cB cJ cZ ad stM kcM 115 A x H → va_S A s.heap H locs → lv_has ls 7 [(0, .ref (ad 0)), (1, .int l1), (2, .int l2), (3, .int l3), (4, .int l4)] → W p l e R s m args below meth c H locs cells slots Q (F0 m 68 ls []) := by
  intro n
  induction n with
  | zero => intro l1 l2 l3 l4 x H locs ls  hw; exact hw.elim
  | succ n ih => intro l1 l2 l3 l4 x H locs ls  hw hW hS hl; exact t_Mod_write_68 hx hb hml hown hT hK hN hA hRc hRs hRf hRl hret  ih l1 l2 l3 l4 x H locs ls  hw hW hS hl
set_option maxRecDepth 100000 in
set_option maxHeartbeats 4000000 in
set_option maxRecDepth 100000 in
theorem t_Mod_write_52 {p : Program} {l : Launch} {e : Env} {R : Room} {s : State} {m : MethodId} {args : Array Value} {below : List Frame} {meth : Method} {c : Code} {cells slots : Nat} {Q : State → Prop} {dC : Nat → ClassId} {dI : Nat → Nat → Nat} {cI cB cJ cZ : ClassId} {A : Nat → Prop} {ad : Nat → Nat} {post : Int32 → St → Prop} (hx : p.tables.exec = Jvm.exec) (hb : c.code = b_Mod_write) (hml : c.maxLocals = 7) (hown : s.vm.findClass R_Mod = some m.cls) (hT : ∀ w ∈ TG, w.before args s = true) (hK : va_K (dC, dI) CL (TY cI cB cJ cZ) s) (hN : NW s) (hA : ∀ q : Nat, s.heap.size ≤ q → A q) (hRc : cells ≤ R.cells) (hRs : slots ≤ R.slots) (hRf : 8 ≤ R.frames) (hRl : 193 ≤ R.locals) (hret : ∀ (r : Int32) (x : St) (H : Heap) (locs : List Loc) (pc : Nat) (ls : Array Slot), decode b_Mod_write pc = .ok (.ireturn, 1) → post r x → Wd dC dI cI cB cJ cZ ad stM kcM 115 A x H → va_S A s.heap H locs → W p l e R s m args below meth c H locs cells slots Q (F0 m pc ls [.int r]))  : ∀ (l1 : Int32) (l2 : Int32) (x : St) (H : Heap) (locs : List Loc) (ls : Array Slot), j_Mod_write_52 post l1 l2 x → Wd dC dI cI cB cJ cZ ad stM kcM 115 A x H → va_S A s.heap H locs → lv_has ls 7 [(0, .ref (ad 0)), (1, .int l1), (2, .int l2)] → W p l e R s m args below meth c H locs cells slots Q (F0 m 52 ls []) := by
  intro l1 l2 x H locs ls  hw hW hS hl
  unfold j_Mod_write_52 at hw
  refine lv_iconst (v := (-1)) hx hb d_Mod_write_52 (by decide) ?_
  exact hret (-1) x H locs 53 ls d_Mod_write_53 hw hW hS
set_option maxRecDepth 100000 in
set_option maxHeartbeats 4000000 in
set_option maxRecDepth 100000 in
theorem t_Mod_write_e {p : Program} {l : Launch} {e : Env} {R : Room} {s : State} {m : MethodId} {args : Array Value} {below : List Frame} {meth : Method} {c : Code} {cells slots : Nat} {Q : State → Prop} {dC : Nat → ClassId} {dI : Nat → Nat → Nat} {cI cB cJ cZ : ClassId} {A : Nat → Prop} {ad : Nat → Nat} {post : Int32 → St → Prop} (hx : p.tables.exec = Jvm.exec) (hb : c.code = b_Mod_write) (hml : c.maxLocals = 7) (hown : s.vm.findClass R_Mod = some m.cls) (hT : ∀ w ∈ TG, w.before args s = true) (hK : va_K (dC, dI) CL (TY cI cB cJ cZ) s) (hN : NW s) (hA : ∀ q : Nat, s.heap.size ≤ q → A q) (hRc : cells ≤ R.cells) (hRs : slots ≤ R.slots) (hRf : 8 ≤ R.frames) (hRl : 193 ≤ R.locals) (hret : ∀ (r : Int32) (x : St) (H : Heap) (locs : List Loc) (pc : Nat) (ls : Array Slot), decode b_Mod_write pc = .ok (.ireturn, 1) → post r x → Wd dC dI cI cB cJ cZ ad stM kcM 115 A x H → va_S A s.heap H locs → W p l e R s m args below meth c H locs cells slots Q (F0 m pc ls [.int r])) : ∀ (l1 : Int32) (l2 : Int32) (x : St) (H : Heap) (locs : List Loc) (ls : Array Slot), wp_Mod_write post l1 l2 x → Wd dC dI cI cB cJ cZ ad stM kcM 115 A x H → va_S A s.heap H locs → lv_has ls 7 [(0, .ref (ad 0)), (1, .int l1), (2, .int l2)] → W p l e R s m args below meth c H locs cells slots Q (F0 m 0 ls []) := by
  intro l1 l2 x H locs ls  hw hW hS hl
  unfold wp_Mod_write at hw
  refine lv_aload_n hx hb d_Mod_write_0 rfl (lv_at hl 0 rfl) ?_
  refine lv_iconst (v := 0) hx hb d_Mod_write_1 (by decide) ?_
  refine w_puti (ty := .int) (k := 0) (t := 12) (C := R_Mod) (T := F_Mod) (N := 167) hx hb hT hown hK hW hS ko_0.1 ko_0.2 (by decide) in_Mod t_Mod t_Mod_ok n_Mod rfl rfl (by decide) rfl fr_Mod_0 w_8_176 (by decide +kernel) rfl rfl d_Mod_write_2 (fun H locs hW hS => ?_)
  obtain ⟨x883, ex883⟩ : ∃ y : St, y = setI x 0 0 0 := ⟨_, rfl⟩
  rw [← ex883] at hW
  have hw := hw x883 ex883
  refine lv_aload_n hx hb d_Mod_write_5 rfl (lv_at hl 0 rfl) ?_
  refine w_geti (k := 14) (t := 12) (C := R_Mod) (T := F_Mod) (N := 167) hx hb hT hown hK hW ko_0.1 ko_0.2 (by decide) in_Mod rfl rfl (by decide) rfl fr_Mod_14 w_8_190 d_Mod_write_6 ?_
  refine lv_if_eq (tgt := 52) hx hb d_Mod_write_9 (by decide) (fun c884 => ?_) (fun c884 => ?_)
  · have hw := hw.1 c884
    exact t_Mod_write_52 hx hb hml hown hT hK hN hA hRc hRs hRf hRl hret  l1 l2 x883 H locs ls  hw hW hS (lv_sub hl [0, 1, 2] rfl)
  · have hw := hw.2 c884
    refine lv_iload_n hx hb d_Mod_write_12 rfl (lv_at hl 1 rfl) ?_
    refine lv_iconst (v := 1) hx hb d_Mod_write_13 (by decide) ?_
    refine lv_icmp_lt (tgt := 52) hx hb d_Mod_write_14 (by decide) (fun c885 => ?_) (fun c885 => ?_)
    · have hw := hw.1 c885
      exact t_Mod_write_52 hx hb hml hown hT hK hN hA hRc hRs hRf hRl hret  l1 l2 x883 H locs ls  hw hW hS (lv_sub hl [0, 1, 2] rfl)
    · have hw := hw.2 c885
      refine lv_iload_n hx hb d_Mod_write_17 rfl (lv_at hl 1 rfl) ?_
      refine lv_sipush (v := 1000) hx hb d_Mod_write_18 (by decide) ?_
      refine lv_icmp_gt (tgt := 52) hx hb d_Mod_write_21 (by decide) (fun c886 => ?_) (fun c886 => ?_)
      · have hw := hw.1 c886
        exact t_Mod_write_52 hx hb hml hown hT hK hN hA hRc hRs hRf hRl hret  l1 l2 x883 H locs ls  hw hW hS (lv_sub hl [0, 1, 2] rfl)
      · have hw := hw.2 c886
        refine lv_iload_n hx hb d_Mod_write_24 rfl (lv_at hl 2 rfl) ?_
        refine lv_iconst (v := 1) hx hb d_Mod_write_25 (by decide) ?_
        refine lv_icmp_lt (tgt := 52) hx hb d_Mod_write_26 (by decide) (fun c887 => ?_) (fun c887 => ?_)
        · have hw := hw.1 c887
          exact t_Mod_write_52 hx hb hml hown hT hK hN hA hRc hRs hRf hRl hret  l1 l2 x883 H locs ls  hw hW hS (lv_sub hl [0, 1, 2] rfl)
        · have hw := hw.2 c887
          refine lv_iload_n hx hb d_Mod_write_29 rfl (lv_at hl 2 rfl) ?_
          refine lv_sipush (v := 2000) hx hb d_Mod_write_30 (by decide) ?_
          refine lv_icmp_gt (tgt := 52) hx hb d_Mod_write_33 (by decide) (fun c888 => ?_) (fun c888 => ?_)
          · have hw := hw.1 c888
            exact t_Mod_write_52 hx hb hml hown hT hK hN hA hRc hRs hRf hRl hret  l1 l2 x883 H locs ls  hw hW hS (lv_sub hl [0, 1, 2] rfl)
          · have hw := hw.2 c888
            refine lv_aload_n hx hb d_Mod_write_36 rfl (lv_at hl 0 rfl) ?_
            refine w_geti (k := 34) (t := 12) (C := R_Mod) (T := F_Mod) (N := 167) hx hb hT hown hK hW ko_0.1 ko_0.2 (by decide) in_Mod rfl rfl (by decide) rfl fr_Mod_34 w_8_210 d_Mod_write_37 ?_
            refine lv_iload_n hx hb d_Mod_write_40 rfl (lv_at hl 2 rfl) ?_
            refine lv_iadd hx hb d_Mod_write_41 ?_
            refine lv_iconst (v := 1) hx hb d_Mod_write_42 (by decide) ?_
            refine lv_isub hx hb d_Mod_write_43 ?_
            refine lv_iload_n hx hb d_Mod_write_44 rfl (lv_at hl 2 rfl) ?_
            obtain ⟨hz, hw⟩ := hw
            refine lv_idiv hx hb d_Mod_write_45 hz ?_
            refine lv_sipush (v := 500) hx hb d_Mod_write_46 (by decide) ?_
            refine lv_icmp_le (tgt := 54) hx hb d_Mod_write_49 (by decide) (fun c889 => ?_) (fun c889 => ?_)
            · have hw := hw.1 c889
              refine lv_aload_n hx hb d_Mod_write_54 rfl (lv_at hl 0 rfl) ?_
              refine lv_iconst (v := 0) hx hb d_Mod_write_55 (by decide) ?_
              refine w_puti (ty := .int) (k := 66) (t := 12) (C := R_Mod) (T := F_Mod) (N := 167) hx hb hT hown hK hW hS ko_0.1 ko_0.2 (by decide) in_Mod t_Mod t_Mod_ok n_Mod rfl rfl (by decide) rfl fr_Mod_66 w_9_2 (by decide +kernel) rfl rfl d_Mod_write_56 (fun H locs hW hS => ?_)
              obtain ⟨x890, ex890⟩ : ∃ y : St, y = setI x883 0 66 0 := ⟨_, rfl⟩
              rw [← ex890] at hW
              have hw := hw x890 ex890
              refine lv_aload_n hx hb d_Mod_write_59 rfl (lv_at hl 0 rfl) ?_
              have hF := hW.free hS hA
              refine va_callv (va_runV (C := R_Mod) (As := []) (rest := []) ⟨hx, hb, hml, hown, hT⟩ (k_Mod_addFrame l dC dI cI cB cJ cZ ad H.size  x890  hw) ⟨callB_of 0 hT (gwt_in w_11_134) rfl rfl rfl (hT _ w_1_15) (hT _ w_11_131) (by decide +kernel) ⟨Nat.le_trans (Nat.le_of_ble_eq_true rfl) hRf, Nat.le_trans (Nat.le_of_ble_eq_true rfl) hRl⟩, hT _ w_11_133, hT _ ws_138⟩ ⟨PW.blind, va_recv hK hW.1 (ci := 12) (q0 := 0) rfl (pic_obj ko_0.1 ko_0.2 (by decide)), PW.at _ hW hK hN⟩ rfl rfl hl.1 rfl (lv_room (Nat.le_of_ble_eq_true rfl)) d_Mod_write_60 ⟨hRc, hRs⟩) hS (fun q _ h => hF q h) hF (fun  x891 t H locs ht hvm hw hB hz1 hk1 hS => ?_)
              have hW := Wd.back hB ht hF
              clear hB ht hF hz1 hk1 hvm
              refine lv_iconst (v := 0) hx hb d_Mod_write_63 (by decide) ?_
              refine lv_istore_n (lv' := [(3, .int 0), (0, .ref (ad 0)), (1, .int l1), (2, .int l2)]) hx hb d_Mod_write_64 rfl hl (by decide) rfl (fun ls hl => ?_)
              refine lv_iconst (v := 0) hx hb d_Mod_write_65 (by decide) ?_
              refine lv_istore (lv' := [(4, .int 0), (3, .int 0), (0, .ref (ad 0)), (1, .int l1), (2, .int l2)]) hx hb d_Mod_write_66 hl (by decide) rfl (fun ls hl => ?_)
              obtain ⟨n, hw⟩ := hw
              exact tl_Mod_write_68 hx hb hml hown hT hK hN hA hRc hRs hRf hRl hret  n l1 l2 0 0 x891 H locs ls  hw hW hS (lv_sub hl [2, 3, 4, 1, 0] rfl)
            · have hw := hw.2 c889
              exact t_Mod_write_52 hx hb hml hown hT hK hN hA hRc hRs hRf hRl hret  l1 l2 x883 H locs ls  hw hW hS (lv_sub hl [0, 1, 2] rfl)
set_option maxHeartbeats 4000000 in
set_option maxRecDepth 100000 in
theorem k_Mod_write (l : Launch) (dC : Nat → ClassId) (dI : Nat → Nat → Nat) (cI cB cJ cZ : ClassId) (ad : Nat → Nat) (sz : Nat) (l1 : Int32) (l2 : Int32) (x : St) {post : Int32 → St → Prop} (hw : wp_Mod_write post l1 l2 x) : Met l y_Mod_write (wsOf y_Mod_write b_Mod_write 7 (some (.int))) ({ frames := 8, cells := 0, slots := 0, locals := 193 }) (va_Pc [.ref (ad 0), .int l1, .int l2] (PW dC dI cI cB cJ cZ ad stM kcM 115 sz x)) (va_Qi (fun (r : Int32) (y : St) => post r y) (fun y t => Wd dC dI cI cB cJ cZ ad stM kcM 115 (va_A (pic ad stM kcM 115 cI cB cJ cZ x) sz) y t.heap) (va_A (pic ad stM kcM 115 cI cB cJ cZ x) sz)) 0 0 (va_A (pic ad stM kcM 115 cI cB cJ cZ x) sz) := by
  refine Met.ofW (cc := b_Mod_write) (maxL := 7) (ret := some (.int)) (by decide) rfl ?_
  intro p e s m args below meth c s₁ B hml hv
  obtain ⟨rfl, hsz, hW0, hK, hN⟩ := hv
  have hx := B.exec
  have hb := B.bytes
  have hr := B.returns
  have hts := atoms_spec B.pre
  have hT : ∀ w ∈ TG, w.before _ s = true := fun w h => hts w (List.mem_cons_of_mem _ h)
  have hown : s.vm.findClass R_Mod = some m.cls := findClass_of_methodNamed B.named
  have hlocks := B.notSynchronized
  subst hsz
  have hW : Wd dC dI cI cB cJ cZ ad stM kcM 115 (va_A (pic ad stM kcM 115 cI cB cJ cZ x) s.heap.size) x s.heap := ⟨hW0.1, hW0.2.1.self (sz := s.heap.size), hW0.2.2⟩
  generalize hAe : va_A (pic ad stM kcM 115 cI cB cJ cZ x) s.heap.size = A at hW ⊢
  have hA : ∀ q : Nat, s.heap.size ≤ q → A q := fun q h => by rw [← hAe]; exact Or.inr h
  have hS : va_S A s.heap s.heap [] := va_S.rf
  have hl := lv_entry ([.ref (ad 0), .int l1, .int l2]) (n := 7) (Nat.le_of_ble_eq_true rfl)
  rw [lg_entry_eq]
  generalize (lg_sl ([.ref (ad 0), .int l1, .int l2]) ++ List.replicate (7 - (lg_sl ([.ref (ad 0), .int l1, .int l2])).length) Slot.unset).toArray = ls at hl ⊢
  have hl : lv_has ls 7 [(0, .ref (ad 0)), (1, .int l1), (2, .int l2)] := hl
  exact t_Mod_write_e hx hb hml hown hT hK hN hA (Nat.le_refl 0) (Nat.le_refl 0) (Nat.le_refl 8) (Nat.le_refl 193) (fun r x H locs pc ls hd hp hW hS => W.iret (v := r) hx hb hr (fun t ht hM => ⟨⟨r, x, rfl, hp, Wd.back hW ht.symm (fun _ z => z)⟩, hS.F ht⟩) hS.2.2 hd hlocks)  l1 l2 x _ _ ls  hw hW hS hl
end
