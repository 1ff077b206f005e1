theorem w_1_49 : (Jvm.Cond.fieldLink "StripedVault$Writer" (135 : Nat) "StripedVault$Sink" "over" "Z") ∈ TG := tw_1 49 (by decide +kernel) (by decide +kernel)
theorem w_5_127 : (Jvm.Cond.methodLink "StripedVault" (136 : Nat) ({ cls := "StripedVault$Writer", name := "begin", desc := "(LStripedVault$Schema;LStripedVault$Records;I)V" } : Jvm.MethodName)) ∈ TG := tw_5 127 (by decide +kernel) (by decide +kernel)
theorem w_5_128 : (Jvm.Cond.instanceMethod ({ cls := "StripedVault$Writer", name := "begin", desc := "(LStripedVault$Schema;LStripedVault$Records;I)V" } : Jvm.MethodName)) ∈ TG := tw_5 128 (by decide +kernel) (by decide +kernel)
theorem w_5_129 : (Jvm.Cond.selects "StripedVault$Writer" ({ cls := "StripedVault$Writer", name := "begin", desc := "(LStripedVault$Schema;LStripedVault$Records;I)V" } : Jvm.MethodName) ({ cls := "StripedVault$Writer", name := "begin", desc := "(LStripedVault$Schema;LStripedVault$Records;I)V" } : Jvm.MethodName)) ∈ TG := tw_5 129 (by decide +kernel) (by decide +kernel)
theorem w_5_130 : (Jvm.Cond.code ({ cls := "StripedVault$Writer", name := "begin", desc := "(LStripedVault$Schema;LStripedVault$Records;I)V" } : Jvm.MethodName) prog_12_method_2_code (5 : Nat) (Option.none : Option Jvm.ClassFile.FieldType)) ∈ TG := tw_5 130 (by decide +kernel) (by decide +kernel)
theorem w_5_147 : (Jvm.Cond.methodLink "StripedVault" (145 : Nat) ({ cls := "StripedVault$Writer", name := "beginGroup", desc := "(I)V" } : Jvm.MethodName)) ∈ TG := tw_5 147 (by decide +kernel) (by decide +kernel)
theorem w_5_148 : (Jvm.Cond.instanceMethod ({ cls := "StripedVault$Writer", name := "beginGroup", desc := "(I)V" } : Jvm.MethodName)) ∈ TG := tw_5 148 (by decide +kernel) (by decide +kernel)
theorem w_5_149 : (Jvm.Cond.selects "StripedVault$Writer" ({ cls := "StripedVault$Writer", name := "beginGroup", desc := "(I)V" } : Jvm.MethodName) ({ cls := "StripedVault$Writer", name := "beginGroup", desc := "(I)V" } : Jvm.MethodName)) ∈ TG := tw_5 149 (by decide +kernel) (by decide +kernel)
theorem w_5_150 : (Jvm.Cond.code ({ cls := "StripedVault$Writer", name := "beginGroup", desc := "(I)V" } : Jvm.MethodName) prog_12_method_3_code (2 : Nat) (Option.none : Option Jvm.ClassFile.FieldType)) ∈ TG := tw_5 150 (by decide +kernel) (by decide +kernel)
theorem w_5_151 : (Jvm.Cond.methodLink "StripedVault" (151 : Nat) ({ cls := "StripedVault$Writer", name := "putChunk", desc := "(III)Z" } : Jvm.MethodName)) ∈ TG := tw_5 151 (by decide +kernel) (by decide +kernel)
theorem w_5_152 : (Jvm.Cond.instanceMethod ({ cls := "StripedVault$Writer", name := "putChunk", desc := "(III)Z" } : Jvm.MethodName)) ∈ TG := tw_5 152 (by decide +kernel) (by decide +kernel)
theorem w_5_153 : (Jvm.Cond.selects "StripedVault$Writer" ({ cls := "StripedVault$Writer", name := "putChunk", desc := "(III)Z" } : Jvm.MethodName) ({ cls := "StripedVault$Writer", name := "putChunk", desc := "(III)Z" } : Jvm.MethodName)) ∈ TG := tw_5 153 (by decide +kernel) (by decide +kernel)
theorem w_5_154 : (Jvm.Cond.code ({ cls := "StripedVault$Writer", name := "putChunk", desc := "(III)Z" } : Jvm.MethodName) prog_12_method_6_code (16 : Nat) (Option.some Jvm.ClassFile.FieldType.boolean)) ∈ TG := tw_5 154 (by decide +kernel) (by decide +kernel)
theorem w_5_155 : (Jvm.Cond.methodLink "StripedVault$Writer" (142 : Nat) ({ cls := "StripedVault$Writer", name := "fillPage", desc := "(III)I" } : Jvm.MethodName)) ∈ TG := tw_5 155 (by decide +kernel) (by decide +kernel)
theorem w_5_157 : (Jvm.Cond.instanceMethod ({ cls := "StripedVault$Writer", name := "fillPage", desc := "(III)I" } : Jvm.MethodName)) ∈ TG := tw_5 157 (by decide +kernel) (by decide +kernel)
theorem w_5_158 : (Jvm.Cond.code ({ cls := "StripedVault$Writer", name := "fillPage", desc := "(III)I" } : Jvm.MethodName) prog_12_method_8_code (12 : Nat) (Option.some Jvm.ClassFile.FieldType.int)) ∈ TG := tw_5 158 (by decide +kernel) (by decide +kernel)
theorem w_5_167 : (Jvm.Cond.methodLink "StripedVault$Writer" (146 : Nat) ({ cls := "StripedVault$Writer", name := "chooseCoding", desc := "(I)I" } : Jvm.MethodName)) ∈ TG := tw_5 167 (by decide +kernel) (by decide +kernel)
theorem w_5_169 : (Jvm.Cond.instanceMethod ({ cls := "StripedVault$Writer", name := "chooseCoding", desc := "(I)I" } : Jvm.MethodName)) ∈ TG := tw_5 169 (by decide +kernel) (by decide +kernel)
theorem w_5_170 : (Jvm.Cond.code ({ cls := "StripedVault$Writer", name := "chooseCoding", desc := "(I)I" } : Jvm.MethodName) prog_12_method_13_code (6 : Nat) (Option.some Jvm.ClassFile.FieldType.int)) ∈ TG := tw_5 170 (by decide +kernel) (by decide +kernel)
theorem w_6_20 : (Jvm.Cond.methodLink "StripedVault$Writer" (150 : Nat) ({ cls := "StripedVault$Writer", name := "putPage", desc := "(II)V" } : Jvm.MethodName)) ∈ TG := tw_6 20 (by decide +kernel) (by decide +kernel)
theorem w_6_22 : (Jvm.Cond.instanceMethod ({ cls := "StripedVault$Writer", name := "putPage", desc := "(II)V" } : Jvm.MethodName)) ∈ TG := tw_6 22 (by decide +kernel) (by decide +kernel)
theorem w_6_23 : (Jvm.Cond.code ({ cls := "StripedVault$Writer", name := "putPage", desc := "(II)V" } : Jvm.MethodName) prog_12_method_10_code (5 : Nat) (Option.none : Option Jvm.ClassFile.FieldType)) ∈ TG := tw_6 23 (by decide +kernel) (by decide +kernel)
theorem w_6_46 : (Jvm.Cond.methodLink "StripedVault" (155 : Nat) ({ cls := "StripedVault$Writer", name := "finish", desc := "()Z" } : Jvm.MethodName)) ∈ TG := tw_6 46 (by decide +kernel) (by decide +kernel)
theorem w_6_47 : (Jvm.Cond.instanceMethod ({ cls := "StripedVault$Writer", name := "finish", desc := "()Z" } : Jvm.MethodName)) ∈ TG := tw_6 47 (by decide +kernel) (by decide +kernel)
theorem w_6_48 : (Jvm.Cond.selects "StripedVault$Writer" ({ cls := "StripedVault$Writer", name := "finish", desc := "()Z" } : Jvm.MethodName) ({ cls := "StripedVault$Writer", name := "finish", desc := "()Z" } : Jvm.MethodName)) ∈ TG := tw_6 48 (by decide +kernel) (by decide +kernel)
theorem w_6_49 : (Jvm.Cond.code ({ cls := "StripedVault$Writer", name := "finish", desc := "()Z" } : Jvm.MethodName) prog_12_method_4_code (1 : Nat) (Option.some Jvm.ClassFile.FieldType.boolean)) ∈ TG := tw_6 49 (by decide +kernel) (by decide +kernel)
theorem w_6_50 : (Jvm.Cond.methodLink "StripedVault" (159 : Nat) ({ cls := "StripedVault$Writer", name := "giveFile", desc := "(LStripedVault$Sink;)LStripedVault$Sink;" } : Jvm.MethodName)) ∈ TG := tw_6 50 (by decide +kernel) (by decide +kernel)
theorem w_6_51 : (Jvm.Cond.instanceMethod ({ cls := "StripedVault$Writer", name := "giveFile", desc := "(LStripedVault$Sink;)LStripedVault$Sink;" } : Jvm.MethodName)) ∈ TG := tw_6 51 (by decide +kernel) (by decide +kernel)
theorem w_6_52 : (Jvm.Cond.selects "StripedVault$Writer" ({ cls := "StripedVault$Writer", name := "giveFile", desc := "(LStripedVault$Sink;)LStripedVault$Sink;" } : Jvm.MethodName) ({ cls := "StripedVault$Writer", name := "giveFile", desc := "(LStripedVault$Sink;)LStripedVault$Sink;" } : Jvm.MethodName)) ∈ TG := tw_6 52 (by decide +kernel) (by decide +kernel)
theorem w_6_53 : (Jvm.Cond.code ({ cls := "StripedVault$Writer", name := "giveFile", desc := "(LStripedVault$Sink;)LStripedVault$Sink;" } : Jvm.MethodName) prog_12_method_5_code (3 : Nat) (Option.some (Jvm.ClassFile.FieldType.object "StripedVault$Sink"))) ∈ TG := tw_6 53 (by decide +kernel) (by decide +kernel)
theorem ws_18 : Cond.selects R_Wrt y_Wrt_fillPage y_Wrt_fillPage ∈ TG := tw_s 18 (by decide +kernel) (by decide +kernel)
theorem ws_20 : Cond.selects R_Wrt y_Wrt_chooseCoding y_Wrt_chooseCoding ∈ TG := tw_s 20 (by decide +kernel) (by decide +kernel)
theorem ws_29 : Cond.selects R_Wrt y_Wrt_putPage y_Wrt_putPage ∈ TG := tw_s 29 (by decide +kernel) (by decide +kernel)
theorem d_Wrt_putChunk_292 : decode b_Wrt_putChunk 292 = .ok (.aload_n 0, 1) := by decide +kernel
theorem d_Wrt_putChunk_293 : decode b_Wrt_putChunk 293 = .ok (.getfield 21, 3) := by decide +kernel
theorem d_Wrt_putChunk_296 : decode b_Wrt_putChunk 296 = .ok (.getfield 135, 3) := by decide +kernel
theorem d_Wrt_putChunk_299 : decode b_Wrt_putChunk 299 = .ok (.ifCond .ne 7, 3) := by decide +kernel
theorem d_Wrt_putChunk_306 : decode b_Wrt_putChunk 306 = .ok (.iconst 0, 1) := by decide +kernel
theorem d_Wrt_putChunk_307 : decode b_Wrt_putChunk 307 = .ok (.ireturn, 1) := by decide +kernel
theorem d_Wrt_putChunk_302 : decode b_Wrt_putChunk 302 = .ok (.iconst 1, 1) := by decide +kernel
theorem d_Wrt_putChunk_303 : decode b_Wrt_putChunk 303 = .ok (.goto 4, 3) := by decide +kernel
theorem d_Wrt_putChunk_200 : decode b_Wrt_putChunk 200 = .ok (.aload_n 0, 1) := by decide +kernel
theorem d_Wrt_putChunk_201 : decode b_Wrt_putChunk 201 = .ok (.getfield 21, 3) := by decide +kernel
theorem d_Wrt_putChunk_204 : decode b_Wrt_putChunk 204 = .ok (.aload_n 0, 1) := by decide +kernel
theorem d_Wrt_putChunk_205 : decode b_Wrt_putChunk 205 = .ok (.getfield 15, 3) := by decide +kernel
theorem d_Wrt_putChunk_208 : decode b_Wrt_putChunk 208 = .ok (.getfield 126, 3) := by decide +kernel
theorem d_Wrt_putChunk_211 : decode b_Wrt_putChunk 211 = .ok (.iload 5, 2) := by decide +kernel
theorem d_Wrt_putChunk_213 : decode b_Wrt_putChunk 213 = .ok (.isub, 1) := by decide +kernel
theorem d_Wrt_putChunk_214 : decode b_Wrt_putChunk 214 = .ok (.i2l, 1) := by decide +kernel
theorem d_Wrt_putChunk_215 : decode b_Wrt_putChunk 215 = .ok (.invokevirtual 98, 3) := by decide +kernel
theorem d_Wrt_putChunk_218 : decode b_Wrt_putChunk 218 = .ok (.aload_n 0, 1) := by decide +kernel
theorem d_Wrt_putChunk_219 : decode b_Wrt_putChunk 219 = .ok (.getfield 21, 3) := by decide +kernel
theorem d_Wrt_putChunk_222 : decode b_Wrt_putChunk 222 = .ok (.iload 6, 2) := by decide +kernel
theorem d_Wrt_putChunk_224 : decode b_Wrt_putChunk 224 = .ok (.i2l, 1) := by decide +kernel
theorem d_Wrt_putChunk_225 : decode b_Wrt_putChunk 225 = .ok (.invokevirtual 98, 3) := by decide +kernel
theorem d_Wrt_putChunk_228 : decode b_Wrt_putChunk 228 = .ok (.aload_n 0, 1) := by decide +kernel
theorem d_Wrt_putChunk_229 : decode b_Wrt_putChunk 229 = .ok (.getfield 21, 3) := by decide +kernel
theorem d_Wrt_putChunk_232 : decode b_Wrt_putChunk 232 = .ok (.iload 7, 2) := by decide +kernel
theorem d_Wrt_putChunk_234 : decode b_Wrt_putChunk 234 = .ok (.i2l, 1) := by decide +kernel
theorem d_Wrt_putChunk_235 : decode b_Wrt_putChunk 235 = .ok (.invokevirtual 98, 3) := by decide +kernel
theorem d_Wrt_putChunk_238 : decode b_Wrt_putChunk 238 = .ok (.aload_n 0, 1) := by decide +kernel
theorem d_Wrt_putChunk_239 : decode b_Wrt_putChunk 239 = .ok (.getfield 21, 3) := by decide +kernel
theorem d_Wrt_putChunk_242 : decode b_Wrt_putChunk 242 = .ok (.iload 7, 2) := by decide +kernel
theorem d_Wrt_putChunk_244 : decode b_Wrt_putChunk 244 = .ok (.iload 8, 2) := by decide +kernel
theorem d_Wrt_putChunk_246 : decode b_Wrt_putChunk 246 = .ok (.isub, 1) := by decide +kernel
theorem d_Wrt_putChunk_247 : decode b_Wrt_putChunk 247 = .ok (.i2l, 1) := by decide +kernel
theorem d_Wrt_putChunk_248 : decode b_Wrt_putChunk 248 = .ok (.invokevirtual 98, 3) := by decide +kernel
theorem d_Wrt_putChunk_251 : decode b_Wrt_putChunk 251 = .ok (.iload 8, 2) := by decide +kernel
theorem d_Wrt_putChunk_253 : decode b_Wrt_putChunk 253 = .ok (.ifCond .le 39, 3) := by decide +kernel
theorem d_Wrt_putChunk_256 : decode b_Wrt_putChunk 256 = .ok (.aload_n 0, 1) := by decide +kernel
theorem d_Wrt_putChunk_257 : decode b_Wrt_putChunk 257 = .ok (.getfield 21, 3) := by decide +kernel
theorem d_Wrt_putChunk_260 : decode b_Wrt_putChunk 260 = .ok (.iload 4, 2) := by decide +kernel
theorem d_Wrt_putChunk_262 : decode b_Wrt_putChunk 262 = .ok (.aload_n 0, 1) := by decide +kernel
theorem d_Wrt_putChunk_263 : decode b_Wrt_putChunk 263 = .ok (.getfield 66, 3) := by decide +kernel
theorem d_Wrt_putChunk_266 : decode b_Wrt_putChunk 266 = .ok (.getfield 171, 3) := by decide +kernel
theorem d_Wrt_putChunk_269 : decode b_Wrt_putChunk 269 = .ok (.lload 9, 2) := by decide +kernel
theorem d_Wrt_putChunk_271 : decode b_Wrt_putChunk 271 = .ok (.invokevirtual 174, 3) := by decide +kernel
theorem d_Wrt_putChunk_274 : decode b_Wrt_putChunk 274 = .ok (.aload_n 0, 1) := by decide +kernel
theorem d_Wrt_putChunk_275 : decode b_Wrt_putChunk 275 = .ok (.getfield 21, 3) := by decide +kernel
theorem d_Wrt_putChunk_278 : decode b_Wrt_putChunk 278 = .ok (.iload 4, 2) := by decide +kernel
theorem d_Wrt_putChunk_280 : decode b_Wrt_putChunk 280 = .ok (.aload_n 0, 1) := by decide +kernel
theorem d_Wrt_putChunk_281 : decode b_Wrt_putChunk 281 = .ok (.getfield 66, 3) := by decide +kernel
theorem d_Wrt_putChunk_284 : decode b_Wrt_putChunk 284 = .ok (.getfield 171, 3) := by decide +kernel
theorem d_Wrt_putChunk_287 : decode b_Wrt_putChunk 287 = .ok (.lload 11, 2) := by decide +kernel
theorem d_Wrt_putChunk_289 : decode b_Wrt_putChunk 289 = .ok (.invokevirtual 174, 3) := by decide +kernel
theorem d_Wrt_putChunk_176 : decode b_Wrt_putChunk 176 = .ok (.iload 7, 2) := by decide +kernel
theorem d_Wrt_putChunk_178 : decode b_Wrt_putChunk 178 = .ok (.aload_n 0, 1) := by decide +kernel
theorem d_Wrt_putChunk_179 : decode b_Wrt_putChunk 179 = .ok (.getfield 168, 3) := by decide +kernel
theorem d_Wrt_putChunk_182 : decode b_Wrt_putChunk 182 = .ok (.iadd, 1) := by decide +kernel
theorem d_Wrt_putChunk_183 : decode b_Wrt_putChunk 183 = .ok (.istore 7, 2) := by decide +kernel
theorem d_Wrt_putChunk_185 : decode b_Wrt_putChunk 185 = .ok (.iload 8, 2) := by decide +kernel
theorem d_Wrt_putChunk_187 : decode b_Wrt_putChunk 187 = .ok (.aload_n 0, 1) := by decide +kernel
theorem d_Wrt_putChunk_188 : decode b_Wrt_putChunk 188 = .ok (.getfield 154, 3) := by decide +kernel
theorem d_Wrt_putChunk_191 : decode b_Wrt_putChunk 191 = .ok (.iadd, 1) := by decide +kernel
theorem d_Wrt_putChunk_192 : decode b_Wrt_putChunk 192 = .ok (.istore 8, 2) := by decide +kernel
theorem d_Wrt_putChunk_194 : decode b_Wrt_putChunk 194 = .ok (.iinc 14 1, 3) := by decide +kernel
theorem d_Wrt_putChunk_197 : decode b_Wrt_putChunk 197 = .ok (.goto (-148), 3) := by decide +kernel
theorem d_Wrt_putChunk_170 : decode b_Wrt_putChunk 170 = .ok (.aload_n 0, 1) := by decide +kernel
theorem d_Wrt_putChunk_171 : decode b_Wrt_putChunk 171 = .ok (.getfield 165, 3) := by decide +kernel
theorem d_Wrt_putChunk_174 : decode b_Wrt_putChunk 174 = .ok (.lstore 11, 2) := by decide +kernel
theorem d_Wrt_putChunk_143 : decode b_Wrt_putChunk 143 = .ok (.aload_n 0, 1) := by decide +kernel
theorem d_Wrt_putChunk_144 : decode b_Wrt_putChunk 144 = .ok (.getfield 154, 3) := by decide +kernel
theorem d_Wrt_putChunk_147 : decode b_Wrt_putChunk 147 = .ok (.ifCond .le 29, 3) := by decide +kernel
theorem d_Wrt_putChunk_150 : decode b_Wrt_putChunk 150 = .ok (.iload 8, 2) := by decide +kernel
theorem d_Wrt_putChunk_152 : decode b_Wrt_putChunk 152 = .ok (.ifCond .eq 18, 3) := by decide +kernel
theorem d_Wrt_putChunk_155 : decode b_Wrt_putChunk 155 = .ok (.aload_n 0, 1) := by decide +kernel
theorem d_Wrt_putChunk_156 : decode b_Wrt_putChunk 156 = .ok (.iload 4, 2) := by decide +kernel
theorem d_Wrt_putChunk_158 : decode b_Wrt_putChunk 158 = .ok (.aload_n 0, 1) := by decide +kernel
theorem d_Wrt_putChunk_159 : decode b_Wrt_putChunk 159 = .ok (.getfield 165, 3) := by decide +kernel
theorem d_Wrt_putChunk_162 : decode b_Wrt_putChunk 162 = .ok (.lload 11, 2) := by decide +kernel
theorem d_Wrt_putChunk_164 : decode b_Wrt_putChunk 164 = .ok (.invokevirtual 161, 3) := by decide +kernel
theorem d_Wrt_putChunk_167 : decode b_Wrt_putChunk 167 = .ok (.ifCond .le 9, 3) := by decide +kernel
theorem d_Wrt_putChunk_137 : decode b_Wrt_putChunk 137 = .ok (.aload_n 0, 1) := by decide +kernel
theorem d_Wrt_putChunk_138 : decode b_Wrt_putChunk 138 = .ok (.getfield 157, 3) := by decide +kernel
theorem d_Wrt_putChunk_141 : decode b_Wrt_putChunk 141 = .ok (.lstore 9, 2) := by decide +kernel
theorem d_Wrt_putChunk_49 : decode b_Wrt_putChunk 49 = .ok (.iload 14, 2) := by decide +kernel
theorem d_Wrt_putChunk_51 : decode b_Wrt_putChunk 51 = .ok (.iload_n 2, 1) := by decide +kernel
theorem d_Wrt_putChunk_52 : decode b_Wrt_putChunk 52 = .ok (.if_icmp .ge 148, 3) := by decide +kernel
theorem d_Wrt_putChunk_55 : decode b_Wrt_putChunk 55 = .ok (.iload 13, 2) := by decide +kernel
theorem d_Wrt_putChunk_57 : decode b_Wrt_putChunk 57 = .ok (.ifCond .le 143, 3) := by decide +kernel
theorem d_Wrt_putChunk_60 : decode b_Wrt_putChunk 60 = .ok (.aload_n 0, 1) := by decide +kernel
theorem d_Wrt_putChunk_61 : decode b_Wrt_putChunk 61 = .ok (.iload_n 1, 1) := by decide +kernel
theorem d_Wrt_putChunk_62 : decode b_Wrt_putChunk 62 = .ok (.iload 13, 2) := by decide +kernel
theorem d_Wrt_putChunk_64 : decode b_Wrt_putChunk 64 = .ok (.iload_n 3, 1) := by decide +kernel
theorem d_Wrt_putChunk_65 : decode b_Wrt_putChunk 65 = .ok (.invokevirtual 142, 3) := by decide +kernel
theorem d_Wrt_putChunk_68 : decode b_Wrt_putChunk 68 = .ok (.istore 15, 2) := by decide +kernel
theorem d_Wrt_putChunk_70 : decode b_Wrt_putChunk 70 = .ok (.iload 15, 2) := by decide +kernel
theorem d_Wrt_putChunk_72 : decode b_Wrt_putChunk 72 = .ok (.ifCond .ne 5, 3) := by decide +kernel
theorem d_Wrt_putChunk_77 : decode b_Wrt_putChunk 77 = .ok (.iload 13, 2) := by decide +kernel
theorem d_Wrt_putChunk_79 : decode b_Wrt_putChunk 79 = .ok (.iload 15, 2) := by decide +kernel
theorem d_Wrt_putChunk_81 : decode b_Wrt_putChunk 81 = .ok (.isub, 1) := by decide +kernel
theorem d_Wrt_putChunk_82 : decode b_Wrt_putChunk 82 = .ok (.istore 13, 2) := by decide +kernel
theorem d_Wrt_putChunk_84 : decode b_Wrt_putChunk 84 = .ok (.iinc 6 1, 3) := by decide +kernel
theorem d_Wrt_putChunk_87 : decode b_Wrt_putChunk 87 = .ok (.aload_n 0, 1) := by decide +kernel
theorem d_Wrt_putChunk_88 : decode b_Wrt_putChunk 88 = .ok (.iload_n 1, 1) := by decide +kernel
theorem d_Wrt_putChunk_89 : decode b_Wrt_putChunk 89 = .ok (.aload_n 0, 1) := by decide +kernel
theorem d_Wrt_putChunk_90 : decode b_Wrt_putChunk 90 = .ok (.iload 4, 2) := by decide +kernel
theorem d_Wrt_putChunk_92 : decode b_Wrt_putChunk 92 = .ok (.invokevirtual 146, 3) := by decide +kernel
theorem d_Wrt_putChunk_95 : decode b_Wrt_putChunk 95 = .ok (.invokevirtual 150, 3) := by decide +kernel
theorem d_Wrt_putChunk_98 : decode b_Wrt_putChunk 98 = .ok (.aload_n 0, 1) := by decide +kernel
theorem d_Wrt_putChunk_99 : decode b_Wrt_putChunk 99 = .ok (.getfield 15, 3) := by decide +kernel
theorem d_Wrt_putChunk_102 : decode b_Wrt_putChunk 102 = .ok (.getfield 135, 3) := by decide +kernel
theorem d_Wrt_putChunk_105 : decode b_Wrt_putChunk 105 = .ok (.ifCond .eq 5, 3) := by decide +kernel
theorem d_Wrt_putChunk_110 : decode b_Wrt_putChunk 110 = .ok (.aload_n 0, 1) := by decide +kernel
theorem d_Wrt_putChunk_111 : decode b_Wrt_putChunk 111 = .ok (.getfield 154, 3) := by decide +kernel
theorem d_Wrt_putChunk_114 : decode b_Wrt_putChunk 114 = .ok (.ifCond .le 29, 3) := by decide +kernel
theorem d_Wrt_putChunk_117 : decode b_Wrt_putChunk 117 = .ok (.iload 8, 2) := by decide +kernel
theorem d_Wrt_putChunk_119 : decode b_Wrt_putChunk 119 = .ok (.ifCond .eq 18, 3) := by decide +kernel
theorem d_Wrt_putChunk_122 : decode b_Wrt_putChunk 122 = .ok (.aload_n 0, 1) := by decide +kernel
theorem d_Wrt_putChunk_123 : decode b_Wrt_putChunk 123 = .ok (.iload 4, 2) := by decide +kernel
theorem d_Wrt_putChunk_125 : decode b_Wrt_putChunk 125 = .ok (.aload_n 0, 1) := by decide +kernel
theorem d_Wrt_putChunk_126 : decode b_Wrt_putChunk 126 = .ok (.getfield 157, 3) := by decide +kernel
theorem d_Wrt_putChunk_129 : decode b_Wrt_putChunk 129 = .ok (.lload 9, 2) := by decide +kernel
theorem d_Wrt_putChunk_131 : decode b_Wrt_putChunk 131 = .ok (.invokevirtual 161, 3) := by decide +kernel
theorem d_Wrt_putChunk_134 : decode b_Wrt_putChunk 134 = .ok (.ifCond .ge 9, 3) := by decide +kernel
theorem d_Wrt_putChunk_108 : decode b_Wrt_putChunk 108 = .ok (.iconst 0, 1) := by decide +kernel
theorem d_Wrt_putChunk_109 : decode b_Wrt_putChunk 109 = .ok (.ireturn, 1) := by decide +kernel
theorem d_Wrt_putChunk_75 : decode b_Wrt_putChunk 75 = .ok (.iconst 0, 1) := by decide +kernel
theorem d_Wrt_putChunk_76 : decode b_Wrt_putChunk 76 = .ok (.ireturn, 1) := by decide +kernel
theorem d_Wrt_putChunk_0 : decode b_Wrt_putChunk 0 = .ok (.aload_n 0, 1) := by decide +kernel
theorem d_Wrt_putChunk_1 : decode b_Wrt_putChunk 1 = .ok (.getfield 62, 3) := by decide +kernel
theorem d_Wrt_putChunk_4 : decode b_Wrt_putChunk 4 = .ok (.getfield 105, 3) := by decide +kernel
theorem d_Wrt_putChunk_7 : decode b_Wrt_putChunk 7 = .ok (.aload_n 0, 1) := by decide +kernel
theorem d_Wrt_putChunk_8 : decode b_Wrt_putChunk 8 = .ok (.getfield 62, 3) := by decide +kernel
theorem d_Wrt_putChunk_11 : decode b_Wrt_putChunk 11 = .ok (.getfield 139, 3) := by decide +kernel
theorem d_Wrt_putChunk_14 : decode b_Wrt_putChunk 14 = .ok (.iload_n 1, 1) := by decide +kernel
theorem d_Wrt_putChunk_15 : decode b_Wrt_putChunk 15 = .ok (.iaload, 1) := by decide +kernel
theorem d_Wrt_putChunk_16 : decode b_Wrt_putChunk 16 = .ok (.iaload, 1) := by decide +kernel
theorem d_Wrt_putChunk_17 : decode b_Wrt_putChunk 17 = .ok (.istore 4, 2) := by decide +kernel
theorem d_Wrt_putChunk_19 : decode b_Wrt_putChunk 19 = .ok (.aload_n 0, 1) := by decide +kernel
theorem d_Wrt_putChunk_20 : decode b_Wrt_putChunk 20 = .ok (.getfield 15, 3) := by decide +kernel
theorem d_Wrt_putChunk_23 : decode b_Wrt_putChunk 23 = .ok (.getfield 126, 3) := by decide +kernel
theorem d_Wrt_putChunk_26 : decode b_Wrt_putChunk 26 = .ok (.istore 5, 2) := by decide +kernel
theorem d_Wrt_putChunk_28 : decode b_Wrt_putChunk 28 = .ok (.iconst 0, 1) := by decide +kernel
theorem d_Wrt_putChunk_29 : decode b_Wrt_putChunk 29 = .ok (.istore 6, 2) := by decide +kernel
theorem d_Wrt_putChunk_31 : decode b_Wrt_putChunk 31 = .ok (.iconst 0, 1) := by decide +kernel
theorem d_Wrt_putChunk_32 : decode b_Wrt_putChunk 32 = .ok (.istore 7, 2) := by decide +kernel
theorem d_Wrt_putChunk_34 : decode b_Wrt_putChunk 34 = .ok (.iconst 0, 1) := by decide +kernel
theorem d_Wrt_putChunk_35 : decode b_Wrt_putChunk 35 = .ok (.istore 8, 2) := by decide +kernel
theorem d_Wrt_putChunk_37 : decode b_Wrt_putChunk 37 = .ok (.lconst 0, 1) := by decide +kernel
theorem d_Wrt_putChunk_38 : decode b_Wrt_putChunk 38 = .ok (.lstore 9, 2) := by decide +kernel
theorem d_Wrt_putChunk_40 : decode b_Wrt_putChunk 40 = .ok (.lconst 0, 1) := by decide +kernel
theorem d_Wrt_putChunk_41 : decode b_Wrt_putChunk 41 = .ok (.lstore 11, 2) := by decide +kernel
theorem d_Wrt_putChunk_43 : decode b_Wrt_putChunk 43 = .ok (.iload_n 2, 1) := by decide +kernel
theorem d_Wrt_putChunk_44 : decode b_Wrt_putChunk 44 = .ok (.istore 13, 2) := by decide +kernel
theorem d_Wrt_putChunk_46 : decode b_Wrt_putChunk 46 = .ok (.iconst 0, 1) := by decide +kernel
theorem d_Wrt_putChunk_47 : decode b_Wrt_putChunk 47 = .ok (.istore 14, 2) := by decide +kernel
theorem d_Wrt_finish_101 : decode b_Wrt_finish 101 = .ok (.iconst 0, 1) := by decide +kernel
theorem d_Wrt_finish_102 : decode b_Wrt_finish 102 = .ok (.ireturn, 1) := by decide +kernel
theorem d_Wrt_finish_0 : decode b_Wrt_finish 0 = .ok (.aload_n 0, 1) := by decide +kernel
theorem d_Wrt_finish_1 : decode b_Wrt_finish 1 = .ok (.getfield 15, 3) := by decide +kernel
theorem d_Wrt_finish_4 : decode b_Wrt_finish 4 = .ok (.aload_n 0, 1) := by decide +kernel
theorem d_Wrt_finish_5 : decode b_Wrt_finish 5 = .ok (.getfield 21, 3) := by decide +kernel
theorem d_Wrt_finish_8 : decode b_Wrt_finish 8 = .ok (.getfield 123, 3) := by decide +kernel
theorem d_Wrt_finish_11 : decode b_Wrt_finish 11 = .ok (.iconst 0, 1) := by decide +kernel
theorem d_Wrt_finish_12 : decode b_Wrt_finish 12 = .ok (.aload_n 0, 1) := by decide +kernel
theorem d_Wrt_finish_13 : decode b_Wrt_finish 13 = .ok (.getfield 21, 3) := by decide +kernel
theorem d_Wrt_finish_16 : decode b_Wrt_finish 16 = .ok (.getfield 126, 3) := by decide +kernel
theorem d_Wrt_finish_19 : decode b_Wrt_finish 19 = .ok (.invokevirtual 88, 3) := by decide +kernel
theorem d_Wrt_finish_22 : decode b_Wrt_finish 22 = .ok (.aload_n 0, 1) := by decide +kernel
theorem d_Wrt_finish_23 : decode b_Wrt_finish 23 = .ok (.getfield 15, 3) := by decide +kernel
theorem d_Wrt_finish_26 : decode b_Wrt_finish 26 = .ok (.aload_n 0, 1) := by decide +kernel
theorem d_Wrt_finish_27 : decode b_Wrt_finish 27 = .ok (.getfield 21, 3) := by decide +kernel
theorem d_Wrt_finish_30 : decode b_Wrt_finish 30 = .ok (.getfield 126, 3) := by decide +kernel
theorem d_Wrt_finish_33 : decode b_Wrt_finish 33 = .ok (.i2l, 1) := by decide +kernel
theorem d_Wrt_finish_34 : decode b_Wrt_finish 34 = .ok (.iconst 4, 1) := by decide +kernel
theorem d_Wrt_finish_35 : decode b_Wrt_finish 35 = .ok (.invokevirtual 127, 3) := by decide +kernel
theorem d_Wrt_finish_38 : decode b_Wrt_finish 38 = .ok (.aload_n 0, 1) := by decide +kernel
theorem d_Wrt_finish_39 : decode b_Wrt_finish 39 = .ok (.getfield 15, 3) := by decide +kernel
theorem d_Wrt_finish_42 : decode b_Wrt_finish 42 = .ok (.aload_n 0, 1) := by decide +kernel
theorem d_Wrt_finish_43 : decode b_Wrt_finish 43 = .ok (.getfield 21, 3) := by decide +kernel
theorem d_Wrt_finish_46 : decode b_Wrt_finish 46 = .ok (.getfield 123, 3) := by decide +kernel
theorem d_Wrt_finish_49 : decode b_Wrt_finish 49 = .ok (.iconst 0, 1) := by decide +kernel
theorem d_Wrt_finish_50 : decode b_Wrt_finish 50 = .ok (.aload_n 0, 1) := by decide +kernel
theorem d_Wrt_finish_51 : decode b_Wrt_finish 51 = .ok (.getfield 21, 3) := by decide +kernel
theorem d_Wrt_finish_54 : decode b_Wrt_finish 54 = .ok (.getfield 126, 3) := by decide +kernel
theorem d_Wrt_finish_57 : decode b_Wrt_finish 57 = .ok (.invokestatic 131, 3) := by decide +kernel
theorem d_Wrt_finish_60 : decode b_Wrt_finish 60 = .ok (.i2l, 1) := by decide +kernel
theorem d_Wrt_finish_61 : decode b_Wrt_finish 61 = .ok (.iconst 4, 1) := by decide +kernel
theorem d_Wrt_finish_62 : decode b_Wrt_finish 62 = .ok (.invokevirtual 127, 3) := by decide +kernel
theorem d_Wrt_finish_65 : decode b_Wrt_finish 65 = .ok (.aload_n 0, 1) := by decide +kernel
theorem d_Wrt_finish_66 : decode b_Wrt_finish 66 = .ok (.getfield 15, 3) := by decide +kernel
theorem d_Wrt_finish_69 : decode b_Wrt_finish 69 = .ok (.getstatic 84, 3) := by decide +kernel
theorem d_Wrt_finish_72 : decode b_Wrt_finish 72 = .ok (.iconst 0, 1) := by decide +kernel
theorem d_Wrt_finish_73 : decode b_Wrt_finish 73 = .ok (.iconst 4, 1) := by decide +kernel
theorem d_Wrt_finish_74 : decode b_Wrt_finish 74 = .ok (.invokevirtual 88, 3) := by decide +kernel
theorem d_Wrt_finish_77 : decode b_Wrt_finish 77 = .ok (.aload_n 0, 1) := by decide +kernel
theorem d_Wrt_finish_78 : decode b_Wrt_finish 78 = .ok (.getfield 15, 3) := by decide +kernel
theorem d_Wrt_finish_81 : decode b_Wrt_finish 81 = .ok (.getfield 135, 3) := by decide +kernel
theorem d_Wrt_finish_84 : decode b_Wrt_finish 84 = .ok (.ifCond .ne 17, 3) := by decide +kernel
theorem d_Wrt_finish_87 : decode b_Wrt_finish 87 = .ok (.aload_n 0, 1) := by decide +kernel
theorem d_Wrt_finish_88 : decode b_Wrt_finish 88 = .ok (.getfield 21, 3) := by decide +kernel
theorem d_Wrt_finish_91 : decode b_Wrt_finish 91 = .ok (.getfield 135, 3) := by decide +kernel
theorem d_Wrt_finish_94 : decode b_Wrt_finish 94 = .ok (.ifCond .ne 7, 3) := by decide +kernel
theorem d_Wrt_finish_97 : decode b_Wrt_finish 97 = .ok (.iconst 1, 1) := by decide +kernel
theorem d_Wrt_finish_98 : decode b_Wrt_finish 98 = .ok (.goto 4, 3) := by decide +kernel
theorem d_V_write_114 : decode b_V_write 114 = .ok (.iload 7, 2) := by decide +kernel
theorem d_V_write_116 : decode b_V_write 116 = .ok (.aload_n 0, 1) := by decide +kernel
theorem d_V_write_117 : decode b_V_write 117 = .ok (.getfield 35, 3) := by decide +kernel
theorem d_V_write_120 : decode b_V_write 120 = .ok (.getfield 148, 3) := by decide +kernel
theorem d_V_write_123 : decode b_V_write 123 = .ok (.if_icmp .ge 26, 3) := by decide +kernel
theorem d_V_write_149 : decode b_V_write 149 = .ok (.iinc 5 1, 3) := by decide +kernel
theorem d_V_write_152 : decode b_V_write 152 = .ok (.goto (-69), 3) := by decide +kernel
theorem d_V_write_126 : decode b_V_write 126 = .ok (.aload_n 0, 1) := by decide +kernel
theorem d_V_write_127 : decode b_V_write 127 = .ok (.getfield 52, 3) := by decide +kernel
theorem d_V_write_130 : decode b_V_write 130 = .ok (.iload 7, 2) := by decide +kernel
theorem d_V_write_132 : decode b_V_write 132 = .ok (.iload 6, 2) := by decide +kernel
theorem d_V_write_134 : decode b_V_write 134 = .ok (.iload_n 1, 1) := by decide +kernel
theorem d_V_write_135 : decode b_V_write 135 = .ok (.invokevirtual 151, 3) := by decide +kernel
theorem d_V_write_138 : decode b_V_write 138 = .ok (.ifCond .ne 5, 3) := by decide +kernel
theorem d_V_write_143 : decode b_V_write 143 = .ok (.iinc 7 1, 3) := by decide +kernel
theorem d_V_write_146 : decode b_V_write 146 = .ok (.goto (-32), 3) := by decide +kernel
theorem d_V_write_141 : decode b_V_write 141 = .ok (.iconst (-1), 1) := by decide +kernel
theorem d_V_write_142 : decode b_V_write 142 = .ok (.ireturn, 1) := by decide +kernel
theorem d_V_write_83 : decode b_V_write 83 = .ok (.iload 5, 2) := by decide +kernel
theorem d_V_write_85 : decode b_V_write 85 = .ok (.iload 4, 2) := by decide +kernel
theorem d_V_write_87 : decode b_V_write 87 = .ok (.if_icmp .ge 68, 3) := by decide +kernel
theorem d_V_write_155 : decode b_V_write 155 = .ok (.aload_n 0, 1) := by decide +kernel
theorem d_V_write_156 : decode b_V_write 156 = .ok (.getfield 52, 3) := by decide +kernel
theorem d_V_write_159 : decode b_V_write 159 = .ok (.invokevirtual 155, 3) := by decide +kernel
theorem d_V_write_162 : decode b_V_write 162 = .ok (.ifCond .ne 5, 3) := by decide +kernel
theorem d_V_write_167 : decode b_V_write 167 = .ok (.aload_n 0, 1) := by decide +kernel
theorem d_V_write_168 : decode b_V_write 168 = .ok (.aload_n 0, 1) := by decide +kernel
theorem d_V_write_169 : decode b_V_write 169 = .ok (.getfield 52, 3) := by decide +kernel
theorem d_V_write_172 : decode b_V_write 172 = .ok (.aload_n 0, 1) := by decide +kernel
theorem d_V_write_173 : decode b_V_write 173 = .ok (.getfield 22, 3) := by decide +kernel
theorem d_V_write_176 : decode b_V_write 176 = .ok (.invokevirtual 159, 3) := by decide +kernel
theorem d_V_write_179 : decode b_V_write 179 = .ok (.putfield 22, 3) := by decide +kernel
theorem d_V_write_182 : decode b_V_write 182 = .ok (.aload_n 0, 1) := by decide +kernel
theorem d_V_write_183 : decode b_V_write 183 = .ok (.getfield 22, 3) := by decide +kernel
theorem d_V_write_186 : decode b_V_write 186 = .ok (.getfield 99, 3) := by decide +kernel
theorem d_V_write_189 : decode b_V_write 189 = .ok (.ireturn, 1) := by decide +kernel
theorem d_V_write_165 : decode b_V_write 165 = .ok (.iconst (-1), 1) := by decide +kernel
theorem d_V_write_166 : decode b_V_write 166 = .ok (.ireturn, 1) := by decide +kernel
theorem d_V_write_90 : decode b_V_write 90 = .ok (.iload_n 2, 1) := by decide +kernel
theorem d_V_write_91 : decode b_V_write 91 = .ok (.iload_n 3, 1) := by decide +kernel
theorem d_V_write_92 : decode b_V_write 92 = .ok (.iload 5, 2) := by decide +kernel
theorem d_V_write_94 : decode b_V_write 94 = .ok (.iload_n 2, 1) := by decide +kernel
theorem d_V_write_95 : decode b_V_write 95 = .ok (.imul, 1) := by decide +kernel
theorem d_V_write_96 : decode b_V_write 96 = .ok (.isub, 1) := by decide +kernel
theorem d_V_write_97 : decode b_V_write 97 = .ok (.invokestatic 139, 3) := by decide +kernel
theorem d_V_write_100 : decode b_V_write 100 = .ok (.istore 6, 2) := by decide +kernel
theorem d_V_write_102 : decode b_V_write 102 = .ok (.aload_n 0, 1) := by decide +kernel
theorem d_V_write_103 : decode b_V_write 103 = .ok (.getfield 52, 3) := by decide +kernel
theorem d_V_write_106 : decode b_V_write 106 = .ok (.iload 6, 2) := by decide +kernel
theorem d_V_write_108 : decode b_V_write 108 = .ok (.invokevirtual 145, 3) := by decide +kernel
theorem d_V_write_111 : decode b_V_write 111 = .ok (.iconst 0, 1) := by decide +kernel
theorem d_V_write_112 : decode b_V_write 112 = .ok (.istore 7, 2) := by decide +kernel
theorem d_V_write_34 : decode b_V_write 34 = .ok (.iconst (-1), 1) := by decide +kernel
theorem d_V_write_35 : decode b_V_write 35 = .ok (.ireturn, 1) := by decide +kernel
theorem d_V_write_0 : decode b_V_write 0 = .ok (.aload_n 0, 1) := by decide +kernel
theorem d_V_write_1 : decode b_V_write 1 = .ok (.getfield 35, 3) := by decide +kernel
theorem d_V_write_4 : decode b_V_write 4 = .ok (.getfield 129, 3) := by decide +kernel
theorem d_V_write_7 : decode b_V_write 7 = .ok (.ifCond .eq 27, 3) := by decide +kernel
theorem d_V_write_10 : decode b_V_write 10 = .ok (.iload_n 1, 1) := by decide +kernel
theorem d_V_write_11 : decode b_V_write 11 = .ok (.iconst 1, 1) := by decide +kernel
theorem d_V_write_12 : decode b_V_write 12 = .ok (.if_icmp .lt 22, 3) := by decide +kernel
theorem d_V_write_15 : decode b_V_write 15 = .ok (.iload_n 1, 1) := by decide +kernel
theorem d_V_write_16 : decode b_V_write 16 = .ok (.sipush 1000, 3) := by decide +kernel
theorem d_V_write_19 : decode b_V_write 19 = .ok (.if_icmp .gt 15, 3) := by decide +kernel
theorem d_V_write_22 : decode b_V_write 22 = .ok (.iload_n 2, 1) := by decide +kernel
theorem d_V_write_23 : decode b_V_write 23 = .ok (.iconst 1, 1) := by decide +kernel
theorem d_V_write_24 : decode b_V_write 24 = .ok (.if_icmp .lt 10, 3) := by decide +kernel
theorem d_V_write_27 : decode b_V_write 27 = .ok (.iload_n 2, 1) := by decide +kernel
theorem d_V_write_28 : decode b_V_write 28 = .ok (.sipush 2000, 3) := by decide +kernel
theorem d_V_write_31 : decode b_V_write 31 = .ok (.if_icmp .le 5, 3) := by decide +kernel
theorem d_V_write_36 : decode b_V_write 36 = .ok (.aload_n 0, 1) := by decide +kernel
theorem d_V_write_37 : decode b_V_write 37 = .ok (.getfield 45, 3) := by decide +kernel
theorem d_V_write_40 : decode b_V_write 40 = .ok (.getfield 135, 3) := by decide +kernel
theorem d_V_write_43 : decode b_V_write 43 = .ok (.istore_n 3, 1) := by decide +kernel
theorem d_V_write_44 : decode b_V_write 44 = .ok (.iload_n 3, 1) := by decide +kernel
theorem d_V_write_45 : decode b_V_write 45 = .ok (.iload_n 2, 1) := by decide +kernel
theorem d_V_write_46 : decode b_V_write 46 = .ok (.iadd, 1) := by decide +kernel
theorem d_V_write_47 : decode b_V_write 47 = .ok (.iconst 1, 1) := by decide +kernel
theorem d_V_write_48 : decode b_V_write 48 = .ok (.isub, 1) := by decide +kernel
theorem d_V_write_49 : decode b_V_write 49 = .ok (.iload_n 2, 1) := by decide +kernel
theorem d_V_write_50 : decode b_V_write 50 = .ok (.idiv, 1) := by decide +kernel
theorem d_V_write_51 : decode b_V_write 51 = .ok (.istore 4, 2) := by decide +kernel
theorem d_V_write_53 : decode b_V_write 53 = .ok (.iload 4, 2) := by decide +kernel
theorem d_V_write_55 : decode b_V_write 55 = .ok (.sipush 500, 3) := by decide +kernel
theorem d_V_write_58 : decode b_V_write 58 = .ok (.if_icmp .le 5, 3) := by decide +kernel
theorem d_V_write_63 : decode b_V_write 63 = .ok (.aload_n 0, 1) := by decide +kernel
theorem d_V_write_64 : decode b_V_write 64 = .ok (.getfield 52, 3) := by decide +kernel
theorem d_V_write_67 : decode b_V_write 67 = .ok (.aload_n 0, 1) := by decide +kernel
theorem d_V_write_68 : decode b_V_write 68 = .ok (.getfield 35, 3) := by decide +kernel
theorem d_V_write_71 : decode b_V_write 71 = .ok (.aload_n 0, 1) := by decide +kernel
theorem d_V_write_72 : decode b_V_write 72 = .ok (.getfield 45, 3) := by decide +kernel
theorem d_V_write_75 : decode b_V_write 75 = .ok (.iload 4, 2) := by decide +kernel
theorem d_V_write_77 : decode b_V_write 77 = .ok (.invokevirtual 136, 3) := by decide +kernel
theorem d_V_write_80 : decode b_V_write 80 = .ok (.iconst 0, 1) := by decide +kernel
theorem d_V_write_81 : decode b_V_write 81 = .ok (.istore 5, 2) := by decide +kernel
theorem d_V_write_61 : decode b_V_write 61 = .ok (.iconst (-1), 1) := by decide +kernel
theorem d_V_write_62 : decode b_V_write 62 = .ok (.ireturn, 1) := by decide +kernel
section
variable (l : Launch) (dC : Nat → ClassId) (dI : Nat → Nat → Nat) (cI cB cJ cZ : ClassId)
set_option maxRecDepth 100000 in
set_option maxHeartbeats 4000000 in
set_option maxRecDepth 100000 in
theorem t_Wrt_putChunk_292 {p : Program} {l : Launch} {e : Env} {R : Room} {s : State} {m : MethodId} {args : Array Value} {below : List Frame} {meth : Method} {c : Code} {Q : State → Prop} {dC : Nat → ClassId} {dI : Nat → Nat → Nat} {cI cB cJ cZ : ClassId} {A : Nat → Prop} {E : Heap} {tM tC : Nat} {kK kV : Nat → Nat} {ad0 : Nat → Nat} {NN0 : Nat} {post : Int32 → St → Prop} (hx : p.tables.exec = Jvm.exec) (hb : c.code = b_Wrt_putChunk) (hml : c.maxLocals = 16) (hown : s.vm.findClass R_Wrt = some m.cls) (hT : ∀ w ∈ TG, w.before args s = true) (hK : va_K (dC, dI) CL (TY cI cB cJ cZ) s) (hN : NW s) (hA : ∀ q : Nat, s.heap.size ≤ q → A q) (hRf : 8 ≤ R.frames) (hRl : 350 ≤ R.locals) (hE : CE E tM tC kK kV A s) (hret : ∀ (r : Int32) (ad : Nat → Nat) (NN cells slots : Nat) (x : St) (H : Heap) (locs : List Loc) (pc : Nat) (ls : Array Slot), decode b_Wrt_putChunk pc = .ok (.ireturn, 1) → narrow .boolean (.int r) = .int r → (NN0 ≤ NN ∧ ∀ o : Nat, o < NN0 → ad o = ad0 o) → cells ≤ R.cells → slots ≤ R.slots → post r x → Wd dC dI cI cB cJ cZ ad stC kcC NN A x H → va_S A s.heap H locs → W p l e R s m args below meth c H locs cells slots Q (F0 m pc ls [.int r]))  : ∀ (ad : Nat → Nat) (NN cells slots : Nat) (o : Nat) (l1 : Int32) (l2 : Int32) (l3 : Int32) (l4 : Int32) (l5 : Int32) (l6 : Int32) (l7 : Int32) (l8 : Int32) (l9 : Int64) (l11 : Int64) (l13 : Int32) (l14 : Int32) (kb : Nat) (nb : Nat) (x : St) (H : Heap) (locs : List Loc) (ls : Array Slot), (152 ≤ NN) → (NN0 ≤ NN ∧ ∀ o : Nat, o < NN0 → ad o = ad0 o) → (cells + kb ≤ R.cells) → (slots + nb ≤ R.slots) → (o < NN ∧ kcC o = 5) → j_Wrt_putChunk_292 post o l1 l2 l3 l4 l5 l6 l7 l8 l9 l11 l13 l14 kb nb x → Wd dC dI cI cB cJ cZ ad stC kcC NN A x H → va_S A s.heap H locs → lv_has ls 16 [(0, .ref (ad o)), (1, .int l1), (2, .int l2), (3, .int l3), (4, .int l4), (5, .int l5), (6, .int l6), (7, .int l7), (8, .int l8), (9, .long l9), (11, .long l11), (13, .int l13), (14, .int l14)] → W p l e R s m args below meth c H locs cells slots Q (F0 m 292 ls []) := by
  intro ad NN cells slots o l1 l2 l3 l4 l5 l6 l7 l8 l9 l11 l13 l14 kb nb x H locs ls hNN hag hRc hRs fo hw hW hS hl
  unfold j_Wrt_putChunk_292 at hw
  refine lv_aload_n hx hb d_Wrt_putChunk_292 rfl (lv_at hl 0 rfl) ?_
  refine w_getf (q := (stC o 1)) (k := 1) (t := 5) (C := R_Wrt) (T := F_Wrt) (N := 20) hx hb hT hown hK hW fo.1 fo.2 (by decide) in_Wrt rfl rfl (by decide) rfl fr_Wrt_1 w_2_52 d_Wrt_putChunk_293 rfl ?_
  refine w_geti (k := 2) (t := 1) (C := R_Snk) (T := F_Snk) (N := 7) hx hb hT hown hK hW (st_ty hNN fo.1 fo.2 rfl).1 (st_ty hNN fo.1 fo.2 rfl).2 (by decide) in_Snk rfl rfl (by decide) rfl fr_Snk_2 w_1_49 d_Wrt_putChunk_296 ?_
  refine lv_if_ne (tgt := 306) hx hb d_Wrt_putChunk_299 (by decide) (fun c1 => ?_) (fun c1 => ?_)
  · have hw := hw.1 c1
    refine lv_iconst (v := 0) hx hb d_Wrt_putChunk_306 (by decide) ?_
    exact hret 0 ad NN cells slots x H locs 307 ls d_Wrt_putChunk_307 rfl hag (Nat.le_trans (Nat.le_add_right _ _) hRc) (Nat.le_trans (Nat.le_add_right _ _) hRs) hw hW hS
  · have hw := hw.2 c1
    refine lv_iconst (v := 1) hx hb d_Wrt_putChunk_302 (by decide) ?_
    refine lv_goto (tgt := 307) hx hb d_Wrt_putChunk_303 (by decide) ?_
    exact hret 1 ad NN cells slots x H locs 307 ls d_Wrt_putChunk_307 rfl hag (Nat.le_trans (Nat.le_add_right _ _) hRc) (Nat.le_trans (Nat.le_add_right _ _) hRs) hw hW hS
set_option maxRecDepth 100000 in
set_option maxHeartbeats 4000000 in
set_option maxRecDepth 100000 in
theorem t_Wrt_putChunk_200 {p : Program} {l : Launch} {e : Env} {R : Room} {s : State} {m : MethodId} {args : Array Value} {below : List Frame} {meth : Method} {c : Code} {Q : State → Prop} {dC : Nat → ClassId} {dI : Nat → Nat → Nat} {cI cB cJ cZ : ClassId} {A : Nat → Prop} {E : Heap} {tM tC : Nat} {kK kV : Nat → Nat} {ad0 : Nat → Nat} {NN0 : Nat} {post : Int32 → St → Prop} (hx : p.tables.exec = Jvm.exec) (hb : c.code = b_Wrt_putChunk) (hml : c.maxLocals = 16) (hown : s.vm.findClass R_Wrt = some m.cls) (hT : ∀ w ∈ TG, w.before args s = true) (hK : va_K (dC, dI) CL (TY cI cB cJ cZ) s) (hN : NW s) (hA : ∀ q : Nat, s.heap.size ≤ q → A q) (hRf : 8 ≤ R.frames) (hRl : 350 ≤ R.locals) (hE : CE E tM tC kK kV A s) (hret : ∀ (r : Int32) (ad : Nat → Nat) (NN cells slots : Nat) (x : St) (H : Heap) (locs : List Loc) (pc : Nat) (ls : Array Slot), decode b_Wrt_putChunk pc = .ok (.ireturn, 1) → narrow .boolean (.int r) = .int r → (NN0 ≤ NN ∧ ∀ o : Nat, o < NN0 → ad o = ad0 o) → cells ≤ R.cells → slots ≤ R.slots → post r x → Wd dC dI cI cB cJ cZ ad stC kcC NN A x H → va_S A s.heap H locs → W p l e R s m args below meth c H locs cells slots Q (F0 m pc ls [.int r]))  : ∀ (ad : Nat → Nat) (NN cells slots : Nat) (o : Nat) (l1 : Int32) (l2 : Int32) (l3 : Int32) (l4 : Int32) (l5 : Int32) (l6 : Int32) (l7 : Int32) (l8 : Int32) (l9 : Int64) (l11 : Int64) (l13 : Int32) (l14 : Int32) (kb : Nat) (nb : Nat) (x : St) (H : Heap) (locs : List Loc) (ls : Array Slot), (152 ≤ NN) → (NN0 ≤ NN ∧ ∀ o : Nat, o < NN0 → ad o = ad0 o) → (cells + kb ≤ R.cells) → (slots + nb ≤ R.slots) → (o < NN ∧ kcC o = 5) → j_Wrt_putChunk_200 post o l1 l2 l3 l4 l5 l6 l7 l8 l9 l11 l13 l14 kb nb x → Wd dC dI cI cB cJ cZ ad stC kcC NN A x H → va_S A s.heap H locs → lv_has ls 16 [(0, .ref (ad o)), (1, .int l1), (2, .int l2), (3, .int l3), (4, .int l4), (5, .int l5), (6, .int l6), (7, .int l7), (8, .int l8), (9, .long l9), (11, .long l11), (13, .int l13), (14, .int l14)] → W p l e R s m args below meth c H locs cells slots Q (F0 m 200 ls []) := by
  intro ad NN cells slots o l1 l2 l3 l4 l5 l6 l7 l8 l9 l11 l13 l14 kb nb x H locs ls hNN hag hRc hRs fo hw hW hS hl
  unfold j_Wrt_putChunk_200 at hw
  refine lv_aload_n hx hb d_Wrt_putChunk_200 rfl (lv_at hl 0 rfl) ?_
  refine w_getf (q := (stC o 1)) (k := 1) (t := 5) (C := R_Wrt) (T := F_Wrt) (N := 20) hx hb hT hown hK hW fo.1 fo.2 (by decide) in_Wrt rfl rfl (by decide) rfl fr_Wrt_1 w_2_52 d_Wrt_putChunk_201 rfl ?_
  refine lv_aload_n hx hb d_Wrt_putChunk_204 rfl (lv_at hl 0 rfl) ?_
  obtain ⟨q2, hq2, hw⟩ := hw
  refine w_getr (q := q2) (k := 0) (t := 5) (C := R_Wrt) (T := F_Wrt) (N := 20) hx hb hT hown hK hW fo.1 fo.2 (by decide) in_Wrt rfl rfl (by decide) rfl fr_Wrt_0 w_2_51 d_Wrt_putChunk_205 hq2 (fun aq2 bq2 => ?_)
  have fq2 : q2 < NN ∧ kcC q2 = 1 := ⟨aq2, bq2⟩
  refine w_geti (k := 1) (t := 1) (C := R_Snk) (T := F_Snk) (N := 7) hx hb hT hown hK hW fq2.1 fq2.2 (by decide) in_Snk rfl rfl (by decide) rfl fr_Snk_1 w_1_46 d_Wrt_putChunk_208 ?_
  refine lv_iload hx hb d_Wrt_putChunk_211 (lv_at hl 5 rfl) ?_
  refine lv_isub hx hb d_Wrt_putChunk_213 ?_
  refine lv_i2l hx hb d_Wrt_putChunk_214 rfl ?_
  obtain ⟨k3, n4, k5, n6, ek3, en4, hw⟩ := hw
  have hF := hW.free hS hA
  refine va_callv (va_runV (C := R_Snk) (As := [.long (((fI x q2 1) - l5) : Int32).toInt64]) (rest := []) ⟨hx, hb, hml, hown, hT⟩ (k_Snk_putVarint l dC dI cI cB cJ cZ ad NN E tM tC kK kV hNN H.size (stC o 1) (((fI x q2 1) - l5) : Int32).toInt64 k3 n4 x (st_ty hNN fo.1 fo.2 rfl) hw) ⟨callB_of 1 hT (gwt_in w_5_143) rfl rfl rfl (hT _ w_1_2) (hT _ w_5_140) (by decide +kernel) ⟨Nat.le_trans (Nat.le_of_ble_eq_true rfl) hRf, Nat.le_trans (Nat.le_of_ble_eq_true rfl) hRl⟩, hT _ w_5_141, hT _ w_5_142⟩ ⟨PVc.blind, va_recv hK hW.1 (ci := 1) (q0 := (stC o 1)) rfl (pic_obj (st_ty hNN fo.1 fo.2 rfl).1 (st_ty hNN fo.1 fo.2 rfl).2 (by decide)), PVc.at _ hW hK hN hE hS hF⟩ rfl rfl hl.1 rfl (lv_room (Nat.le_of_ble_eq_true rfl)) d_Wrt_putChunk_215 ⟨show cells + k3 ≤ R.cells by omega, show slots + n4 ≤ R.slots by omega⟩) hS (fun q _ h => hF q h) hF (fun  x7 t H locs ht hvm hw hB hz1 hk1 hS => ?_)
  obtain ⟨x7, ad, NN⟩ := x7
  obtain ⟨hB, hle, hg⟩ := hB
  try dsimp only at hw hB hle hg
  have hW := Wd.back hB ht hF
  rw [← hg o fo.1] at hl
  have fo : o < NN ∧ kcC o = 5 := ⟨Nat.lt_of_lt_of_le fo.1 hle, fo.2⟩
  have fq2 : q2 < NN ∧ kcC q2 = 1 := ⟨Nat.lt_of_lt_of_le fq2.1 hle, fq2.2⟩
  have hag : NN0 ≤ NN ∧ ∀ o : Nat, o < NN0 → ad o = ad0 o := ⟨Nat.le_trans hag.1 hle, fun o h => (hg o (Nat.lt_of_lt_of_le h hag.1)).trans (hag.2 o h)⟩
  have hNN : 152 ≤ NN := Nat.le_trans hNN hle
  clear hg hle
  obtain ⟨cells, ec⟩ : ∃ z, z = cells + k3 := ⟨_, rfl⟩
  obtain ⟨slots, es⟩ : ∃ z, z = slots + n4 := ⟨_, rfl⟩
  first | rw [← ec, ← es] | rw [Nat.add_zero, Nat.add_zero, ← ec, ← es]
  have hRc : cells + k5 ≤ R.cells := by omega
  have hRs : slots + n6 ≤ R.slots := by omega
  clear ec es hB ht hF hz1 hk1 hvm ek3 en4
  refine lv_aload_n hx hb d_Wrt_putChunk_218 rfl (lv_at hl 0 rfl) ?_
  refine w_getf (q := (stC o 1)) (k := 1) (t := 5) (C := R_Wrt) (T := F_Wrt) (N := 20) hx hb hT hown hK hW fo.1 fo.2 (by decide) in_Wrt rfl rfl (by decide) rfl fr_Wrt_1 w_2_52 d_Wrt_putChunk_219 rfl ?_
  refine lv_iload hx hb d_Wrt_putChunk_222 (lv_at hl 6 rfl) ?_
  refine lv_i2l hx hb d_Wrt_putChunk_224 rfl ?_
  obtain ⟨k8, n9, k10, n11, ek8, en9, hw⟩ := hw
  have hF := hW.free hS hA
  refine va_callv (va_runV (C := R_Snk) (As := [.long (l6 : Int32).toInt64]) (rest := []) ⟨hx, hb, hml, hown, hT⟩ (k_Snk_putVarint l dC dI cI cB cJ cZ ad NN E tM tC kK kV hNN H.size (stC o 1) (l6 : Int32).toInt64 k8 n9 x7 (st_ty hNN fo.1 fo.2 rfl) hw) ⟨callB_of 1 hT (gwt_in w_5_143) rfl rfl rfl (hT _ w_1_2) (hT _ w_5_140) (by decide +kernel) ⟨Nat.le_trans (Nat.le_of_ble_eq_true rfl) hRf, Nat.le_trans (Nat.le_of_ble_eq_true rfl) hRl⟩, hT _ w_5_141, hT _ w_5_142⟩ ⟨PVc.blind, va_recv hK hW.1 (ci := 1) (q0 := (stC o 1)) rfl (pic_obj (st_ty hNN fo.1 fo.2 rfl).1 (st_ty hNN fo.1 fo.2 rfl).2 (by decide)), PVc.at _ hW hK hN hE hS hF⟩ rfl rfl hl.1 rfl (lv_room (Nat.le_of_ble_eq_true rfl)) d_Wrt_putChunk_225 ⟨show cells + k8 ≤ R.cells by omega, show slots + n9 ≤ R.slots by omega⟩) hS (fun q _ h => hF q h) hF (fun  x12 t H locs ht hvm hw hB hz1 hk1 hS => ?_)
  obtain ⟨x12, ad, NN⟩ := x12
  obtain ⟨hB, hle, hg⟩ := hB
  try dsimp only at hw hB hle hg
  have hW := Wd.back hB ht hF
  rw [← hg o fo.1] at hl
  have fo : o < NN ∧ kcC o = 5 := ⟨Nat.lt_of_lt_of_le fo.1 hle, fo.2⟩
  have fq2 : q2 < NN ∧ kcC q2 = 1 := ⟨Nat.lt_of_lt_of_le fq2.1 hle, fq2.2⟩
  have hag : NN0 ≤ NN ∧ ∀ o : Nat, o < NN0 → ad o = ad0 o := ⟨Nat.le_trans hag.1 hle, fun o h => (hg o (Nat.lt_of_lt_of_le h hag.1)).trans (hag.2 o h)⟩
  have hNN : 152 ≤ NN := Nat.le_trans hNN hle
  clear hg hle
  obtain ⟨cells, ec⟩ : ∃ z, z = cells + k8 := ⟨_, rfl⟩
  obtain ⟨slots, es⟩ : ∃ z, z = slots + n9 := ⟨_, rfl⟩
  first | rw [← ec, ← es] | rw [Nat.add_zero, Nat.add_zero, ← ec, ← es]
  have hRc : cells + k10 ≤ R.cells := by omega
  have hRs : slots + n11 ≤ R.slots := by omega
  clear ec es hB ht hF hz1 hk1 hvm ek8 en9
  refine lv_aload_n hx hb d_Wrt_putChunk_228 rfl (lv_at hl 0 rfl) ?_
  refine w_getf (q := (stC o 1)) (k := 1) (t := 5) (C := R_Wrt) (T := F_Wrt) (N := 20) hx hb hT hown hK hW fo.1 fo.2 (by decide) in_Wrt rfl rfl (by decide) rfl fr_Wrt_1 w_2_52 d_Wrt_putChunk_229 rfl ?_
  refine lv_iload hx hb d_Wrt_putChunk_232 (lv_at hl 7 rfl) ?_
  refine lv_i2l hx hb d_Wrt_putChunk_234 rfl ?_
  obtain ⟨k13, n14, k15, n16, ek13, en14, hw⟩ := hw
  have hF := hW.free hS hA
  refine va_callv (va_runV (C := R_Snk) (As := [.long (l7 : Int32).toInt64]) (rest := []) ⟨hx, hb, hml, hown, hT⟩ (k_Snk_putVarint l dC dI cI cB cJ cZ ad NN E tM tC kK kV hNN H.size (stC o 1) (l7 : Int32).toInt64 k13 n14 x12 (st_ty hNN fo.1 fo.2 rfl) hw) ⟨callB_of 1 hT (gwt_in w_5_143) rfl rfl rfl (hT _ w_1_2) (hT _ w_5_140) (by decide +kernel) ⟨Nat.le_trans (Nat.le_of_ble_eq_true rfl) hRf, Nat.le_trans (Nat.le_of_ble_eq_true rfl) hRl⟩, hT _ w_5_141, hT _ w_5_142⟩ ⟨PVc.blind, va_recv hK hW.1 (ci := 1) (q0 := (stC o 1)) rfl (pic_obj (st_ty hNN fo.1 fo.2 rfl).1 (st_ty hNN fo.1 fo.2 rfl).2 (by decide)), PVc.at _ hW hK hN hE hS hF⟩ rfl rfl hl.1 rfl (lv_room (Nat.le_of_ble_eq_true rfl)) d_Wrt_putChunk_235 ⟨show cells + k13 ≤ R.cells by omega, show slots + n14 ≤ R.slots by omega⟩) hS (fun q _ h => hF q h) hF (fun  x17 t H locs ht hvm hw hB hz1 hk1 hS => ?_)
  obtain ⟨x17, ad, NN⟩ := x17
  obtain ⟨hB, hle, hg⟩ := hB
  try dsimp only at hw hB hle hg
  have hW := Wd.back hB ht hF
  rw [← hg o fo.1] at hl
  have fo : o < NN ∧ kcC o = 5 := ⟨Nat.lt_of_lt_of_le fo.1 hle, fo.2⟩
  have fq2 : q2 < NN ∧ kcC q2 = 1 := ⟨Nat.lt_of_lt_of_le fq2.1 hle, fq2.2⟩
  have hag : NN0 ≤ NN ∧ ∀ o : Nat, o < NN0 → ad o = ad0 o := ⟨Nat.le_trans hag.1 hle, fun o h => (hg o (Nat.lt_of_lt_of_le h hag.1)).trans (hag.2 o h)⟩
  have hNN : 152 ≤ NN := Nat.le_trans hNN hle
  clear hg hle
  obtain ⟨cells, ec⟩ : ∃ z, z = cells + k13 := ⟨_, rfl⟩
  obtain ⟨slots, es⟩ : ∃ z, z = slots + n14 := ⟨_, rfl⟩
  first | rw [← ec, ← es] | rw [Nat.add_zero, Nat.add_zero, ← ec, ← es]
  have hRc : cells + k15 ≤ R.cells := by omega
  have hRs : slots + n16 ≤ R.slots := by omega
  clear ec es hB ht hF hz1 hk1 hvm ek13 en14
  refine lv_aload_n hx hb d_Wrt_putChunk_238 rfl (lv_at hl 0 rfl) ?_
  refine w_getf (q := (stC o 1)) (k := 1) (t := 5) (C := R_Wrt) (T := F_Wrt) (N := 20) hx hb hT hown hK hW fo.1 fo.2 (by decide) in_Wrt rfl rfl (by decide) rfl fr_Wrt_1 w_2_52 d_Wrt_putChunk_239 rfl ?_
  refine lv_iload hx hb d_Wrt_putChunk_242 (lv_at hl 7 rfl) ?_
  refine lv_iload hx hb d_Wrt_putChunk_244 (lv_at hl 8 rfl) ?_
  refine lv_isub hx hb d_Wrt_putChunk_246 ?_
  refine lv_i2l hx hb d_Wrt_putChunk_247 rfl ?_
  obtain ⟨k18, n19, k20, n21, ek18, en19, hw⟩ := hw
  have hF := hW.free hS hA
  refine va_callv (va_runV (C := R_Snk) (As := [.long ((l7 - l8) : Int32).toInt64]) (rest := []) ⟨hx, hb, hml, hown, hT⟩ (k_Snk_putVarint l dC dI cI cB cJ cZ ad NN E tM tC kK kV hNN H.size (stC o 1) ((l7 - l8) : Int32).toInt64 k18 n19 x17 (st_ty hNN fo.1 fo.2 rfl) hw) ⟨callB_of 1 hT (gwt_in w_5_143) rfl rfl rfl (hT _ w_1_2) (hT _ w_5_140) (by decide +kernel) ⟨Nat.le_trans (Nat.le_of_ble_eq_true rfl) hRf, Nat.le_trans (Nat.le_of_ble_eq_true rfl) hRl⟩, hT _ w_5_141, hT _ w_5_142⟩ ⟨PVc.blind, va_recv hK hW.1 (ci := 1) (q0 := (stC o 1)) rfl (pic_obj (st_ty hNN fo.1 fo.2 rfl).1 (st_ty hNN fo.1 fo.2 rfl).2 (by decide)), PVc.at _ hW hK hN hE hS hF⟩ rfl rfl hl.1 rfl (lv_room (Nat.le_of_ble_eq_true rfl)) d_Wrt_putChunk_248 ⟨show cells + k18 ≤ R.cells by omega, show slots + n19 ≤ R.slots by omega⟩) hS (fun q _ h => hF q h) hF (fun  x22 t H locs ht hvm hw hB hz1 hk1 hS => ?_)
  obtain ⟨x22, ad, NN⟩ := x22
  obtain ⟨hB, hle, hg⟩ := hB
  try dsimp only at hw hB hle hg
  have hW := Wd.back hB ht hF
  rw [← hg o fo.1] at hl
  have fo : o < NN ∧ kcC o = 5 := ⟨Nat.lt_of_lt_of_le fo.1 hle, fo.2⟩
  have fq2 : q2 < NN ∧ kcC q2 = 1 := ⟨Nat.lt_of_lt_of_le fq2.1 hle, fq2.2⟩
  have hag : NN0 ≤ NN ∧ ∀ o : Nat, o < NN0 → ad o = ad0 o := ⟨Nat.le_trans hag.1 hle, fun o h => (hg o (Nat.lt_of_lt_of_le h hag.1)).trans (hag.2 o h)⟩
  have hNN : 152 ≤ NN := Nat.le_trans hNN hle
  clear hg hle
  obtain ⟨cells, ec⟩ : ∃ z, z = cells + k18 := ⟨_, rfl⟩
  obtain ⟨slots, es⟩ : ∃ z, z = slots + n19 := ⟨_, rfl⟩
  first | rw [← ec, ← es] | rw [Nat.add_zero, Nat.add_zero, ← ec, ← es]
  have hRc : cells + k20 ≤ R.cells := by omega
  have hRs : slots + n21 ≤ R.slots := by omega
  clear ec es hB ht hF hz1 hk1 hvm ek18 en19
  refine lv_iload hx hb d_Wrt_putChunk_251 (lv_at hl 8 rfl) ?_
  refine lv_if_le (tgt := 292) hx hb d_Wrt_putChunk_253 (by decide) (fun c23 => ?_) (fun c23 => ?_)
  · have hw := hw.1 c23
    exact t_Wrt_putChunk_292 hx hb hml hown hT hK hN hA hRf hRl hE hret  ad NN cells slots o l1 l2 l3 l4 l5 l6 l7 l8 l9 l11 l13 l14 k20 n21 x22 H locs ls hNN hag hRc hRs fo hw hW hS (lv_sub hl [0, 1, 2, 3, 4, 5, 6, 7, 8, 9, 10, 11, 12] rfl)
  · have hw := hw.2 c23
    refine lv_aload_n hx hb d_Wrt_putChunk_256 rfl (lv_at hl 0 rfl) ?_
    refine w_getf (q := (stC o 1)) (k := 1) (t := 5) (C := R_Wrt) (T := F_Wrt) (N := 20) hx hb hT hown hK hW fo.1 fo.2 (by decide) in_Wrt rfl rfl (by decide) rfl fr_Wrt_1 w_2_52 d_Wrt_putChunk_257 rfl ?_
    refine lv_iload hx hb d_Wrt_putChunk_260 (lv_at hl 4 rfl) ?_
    refine lv_aload_n hx hb d_Wrt_putChunk_262 rfl (lv_at hl 0 rfl) ?_
    obtain ⟨q24, hq24, hw⟩ := hw
    refine w_getr (q := q24) (k := 6) (t := 5) (C := R_Wrt) (T := F_Wrt) (N := 20) hx hb hT hown hK hW fo.1 fo.2 (by decide) in_Wrt rfl rfl (by decide) rfl fr_Wrt_6 w_2_57 d_Wrt_putChunk_263 hq24 (fun aq24 bq24 => ?_)
    have fq24 : q24 < NN ∧ kcC q24 = 4 := ⟨aq24, bq24⟩
    refine w_getf (q := (stC q24 12)) (k := 12) (t := 4) (C := R_Rec) (T := F_Rec) (N := 15) hx hb hT hown hK hW fq24.1 fq24.2 (by decide) in_Rec rfl rfl (by decide) rfl fr_Rec_12 w_2_7 d_Wrt_putChunk_266 rfl ?_
    refine lv_lload hx hb d_Wrt_putChunk_269 (lv_at hl 9 rfl) ?_
    obtain ⟨k25, n26, k27, n28, ek25, en26, hw⟩ := hw
    have hF := hW.free hS hA
    refine va_callv (va_runV (C := R_Snk) (As := [.int l4, .ref (ad (stC q24 12)), .long l9]) (rest := []) ⟨hx, hb, hml, hown, hT⟩ (k_Snk_putTold l dC dI cI cB cJ cZ ad NN E tM tC kK kV hNN H.size (stC o 1) l4 (stC q24 12) l9 k25 n26 x22 (st_ty hNN fo.1 fo.2 rfl) (st_ty hNN fq24.1 fq24.2 rfl) hw) ⟨callB_of 3 hT (gwt_in w_6_39) rfl rfl rfl (hT _ w_1_2) (hT _ w_6_36) (by decide +kernel) ⟨Nat.le_trans (Nat.le_of_ble_eq_true rfl) hRf, Nat.le_trans (Nat.le_of_ble_eq_true rfl) hRl⟩, hT _ w_6_37, hT _ w_6_38⟩ ⟨PVc.blind, va_recv hK hW.1 (ci := 1) (q0 := (stC o 1)) rfl (pic_obj (st_ty hNN fo.1 fo.2 rfl).1 (st_ty hNN fo.1 fo.2 rfl).2 (by decide)), PVc.at _ hW hK hN hE hS hF⟩ rfl rfl hl.1 rfl (lv_room (Nat.le_of_ble_eq_true rfl)) d_Wrt_putChunk_271 ⟨show cells + k25 ≤ R.cells by omega, show slots + n26 ≤ R.slots by omega⟩) hS (fun q _ h => hF q h) hF (fun  x29 t H locs ht hvm hw hB hz1 hk1 hS => ?_)
    obtain ⟨x29, ad, NN⟩ := x29
    obtain ⟨hB, hle, hg⟩ := hB
    try dsimp only at hw hB hle hg
    have hW := Wd.back hB ht hF
    rw [← hg o fo.1] at hl
    have fo : o < NN ∧ kcC o = 5 := ⟨Nat.lt_of_lt_of_le fo.1 hle, fo.2⟩
    have fq2 : q2 < NN ∧ kcC q2 = 1 := ⟨Nat.lt_of_lt_of_le fq2.1 hle, fq2.2⟩
    have fq24 : q24 < NN ∧ kcC q24 = 4 := ⟨Nat.lt_of_lt_of_le fq24.1 hle, fq24.2⟩
    have hag : NN0 ≤ NN ∧ ∀ o : Nat, o < NN0 → ad o = ad0 o := ⟨Nat.le_trans hag.1 hle, fun o h => (hg o (Nat.lt_of_lt_of_le h hag.1)).trans (hag.2 o h)⟩
    have hNN : 152 ≤ NN := Nat.le_trans hNN hle
    clear hg hle
    obtain ⟨cells, ec⟩ : ∃ z, z = cells + k25 := ⟨_, rfl⟩
    obtain ⟨slots, es⟩ : ∃ z, z = slots + n26 := ⟨_, rfl⟩
    first | rw [← ec, ← es] | rw [Nat.add_zero, Nat.add_zero, ← ec, ← es]
    have hRc : cells + k27 ≤ R.cells := by omega
    have hRs : slots + n28 ≤ R.slots := by omega
    clear ec es hB ht hF hz1 hk1 hvm ek25 en26
    refine lv_aload_n hx hb d_Wrt_putChunk_274 rfl (lv_at hl 0 rfl) ?_
    refine w_getf (q := (stC o 1)) (k := 1) (t := 5) (C := R_Wrt) (T := F_Wrt) (N := 20) hx hb hT hown hK hW fo.1 fo.2 (by decide) in_Wrt rfl rfl (by decide) rfl fr_Wrt_1 w_2_52 d_Wrt_putChunk_275 rfl ?_
    refine lv_iload hx hb d_Wrt_putChunk_278 (lv_at hl 4 rfl) ?_
    refine lv_aload_n hx hb d_Wrt_putChunk_280 rfl (lv_at hl 0 rfl) ?_
    obtain ⟨q30, hq30, hw⟩ := hw
    refine w_getr (q := q30) (k := 6) (t := 5) (C := R_Wrt) (T := F_Wrt) (N := 20) hx hb hT hown hK hW fo.1 fo.2 (by decide) in_Wrt rfl rfl (by decide) rfl fr_Wrt_6 w_2_57 d_Wrt_putChunk_281 hq30 (fun aq30 bq30 => ?_)
    have fq30 : q30 < NN ∧ kcC q30 = 4 := ⟨aq30, bq30⟩
    refine w_getf (q := (stC q30 12)) (k := 12) (t := 4) (C := R_Rec) (T := F_Rec) (N := 15) hx hb hT hown hK hW fq30.1 fq30.2 (by decide) in_Rec rfl rfl (by decide) rfl fr_Rec_12 w_2_7 d_Wrt_putChunk_284 rfl ?_
    refine lv_lload hx hb d_Wrt_putChunk_287 (lv_at hl 10 rfl) ?_
    obtain ⟨k31, n32, k33, n34, ek31, en32, hw⟩ := hw
    have hF := hW.free hS hA
    refine va_callv (va_runV (C := R_Snk) (As := [.int l4, .ref (ad (stC q30 12)), .long l11]) (rest := []) ⟨hx, hb, hml, hown, hT⟩ (k_Snk_putTold l dC dI cI cB cJ cZ ad NN E tM tC kK kV hNN H.size (stC o 1) l4 (stC q30 12) l11 k31 n32 x29 (st_ty hNN fo.1 fo.2 rfl) (st_ty hNN fq30.1 fq30.2 rfl) hw) ⟨callB_of 3 hT (gwt_in w_6_39) rfl rfl rfl (hT _ w_1_2) (hT _ w_6_36) (by decide +kernel) ⟨Nat.le_trans (Nat.le_of_ble_eq_true rfl) hRf, Nat.le_trans (Nat.le_of_ble_eq_true rfl) hRl⟩, hT _ w_6_37, hT _ w_6_38⟩ ⟨PVc.blind, va_recv hK hW.1 (ci := 1) (q0 := (stC o 1)) rfl (pic_obj (st_ty hNN fo.1 fo.2 rfl).1 (st_ty hNN fo.1 fo.2 rfl).2 (by decide)), PVc.at _ hW hK hN hE hS hF⟩ rfl rfl hl.1 rfl (lv_room (Nat.le_of_ble_eq_true rfl)) d_Wrt_putChunk_289 ⟨show cells + k31 ≤ R.cells by omega, show slots + n32 ≤ R.slots by omega⟩) hS (fun q _ h => hF q h) hF (fun  x35 t H locs ht hvm hw hB hz1 hk1 hS => ?_)
    obtain ⟨x35, ad, NN⟩ := x35
    obtain ⟨hB, hle, hg⟩ := hB
    try dsimp only at hw hB hle hg
    have hW := Wd.back hB ht hF
    rw [← hg o fo.1] at hl
    have fo : o < NN ∧ kcC o = 5 := ⟨Nat.lt_of_lt_of_le fo.1 hle, fo.2⟩
    have fq2 : q2 < NN ∧ kcC q2 = 1 := ⟨Nat.lt_of_lt_of_le fq2.1 hle, fq2.2⟩
    have fq24 : q24 < NN ∧ kcC q24 = 4 := ⟨Nat.lt_of_lt_of_le fq24.1 hle, fq24.2⟩
    have fq30 : q30 < NN ∧ kcC q30 = 4 := ⟨Nat.lt_of_lt_of_le fq30.1 hle, fq30.2⟩
    have hag : NN0 ≤ NN ∧ ∀ o : Nat, o < NN0 → ad o = ad0 o := ⟨Nat.le_trans hag.1 hle, fun o h => (hg o (Nat.lt_of_lt_of_le h hag.1)).trans (hag.2 o h)⟩
    have hNN : 152 ≤ NN := Nat.le_trans hNN hle
    clear hg hle
    obtain ⟨cells, ec⟩ : ∃ z, z = cells + k31 := ⟨_, rfl⟩
    obtain ⟨slots, es⟩ : ∃ z, z = slots + n32 := ⟨_, rfl⟩
    first | rw [← ec, ← es] | rw [Nat.add_zero, Nat.add_zero, ← ec, ← es]
    have hRc : cells + k33 ≤ R.cells := by omega
    have hRs : slots + n34 ≤ R.slots := by omega
    clear ec es hB ht hF hz1 hk1 hvm ek31 en32
    exact t_Wrt_putChunk_292 hx hb hml hown hT hK hN hA hRf hRl hE hret  ad NN cells slots o l1 l2 l3 l4 l5 l6 l7 l8 l9 l11 l13 l14 k33 n34 x35 H locs ls hNN hag hRc hRs fo hw hW hS (lv_sub hl [0, 1, 2, 3, 4, 5, 6, 7, 8, 9, 10, 11, 12] rfl)
set_option maxRecDepth 100000 in
set_option maxHeartbeats 4000000 in
set_option maxRecDepth 100000 in
theorem t_Wrt_putChunk_176 {p : Program} {l : Launch} {e : Env} {R : Room} {s : State} {m : MethodId} {args : Array Value} {below : List Frame} {meth : Method} {c : Code} {Q : State → Prop} {dC : Nat → ClassId} {dI : Nat → Nat → Nat} {cI cB cJ cZ : ClassId} {A : Nat → Prop} {E : Heap} {tM tC : Nat} {kK kV : Nat → Nat} {ad0 : Nat → Nat} {NN0 : Nat} {post : Int32 → St → Prop} {rec49 : Nat → Int32 → Int32 → Int32 → Int32 → Int32 → Int32 → Int32 → Int32 → Int64 → Int64 → Int32 → Int32 → Nat → Nat → St → Prop} (hx : p.tables.exec = Jvm.exec) (hb : c.code = b_Wrt_putChunk) (hml : c.maxLocals = 16) (hown : s.vm.findClass R_Wrt = some m.cls) (hT : ∀ w ∈ TG, w.before args s = true) (hK : va_K (dC, dI) CL (TY cI cB cJ cZ) s) (hN : NW s) (hA : ∀ q : Nat, s.heap.size ≤ q → A q) (hRf : 8 ≤ R.frames) (hRl : 350 ≤ R.locals) (hE : CE E tM tC kK kV A s) (hret : ∀ (r : Int32) (ad : Nat → Nat) (NN cells slots : Nat) (x : St) (H : Heap) (locs : List Loc) (pc : Nat) (ls : Array Slot), decode b_Wrt_putChunk pc = .ok (.ireturn, 1) → narrow .boolean (.int r) = .int r → (NN0 ≤ NN ∧ ∀ o : Nat, o < NN0 → ad o = ad0 o) → cells ≤ R.cells → slots ≤ R.slots → post r x → Wd dC dI cI cB cJ cZ ad stC kcC NN A x H → va_S A s.heap H locs → W p l e R s m args below meth c H locs cells slots Q (F0 m pc ls [.int r])) (hrec49 : ∀ (ad : Nat → Nat) (NN cells slots : Nat) (o : Nat) (l1 : Int32) (l2 : Int32) (l3 : Int32) (l4 : Int32) (l5 : Int32) (l6 : Int32) (l7 : Int32) (l8 : Int32) (l9 : Int64) (l11 : Int64) (l13 : Int32) (l14 : Int32) (kb : Nat) (nb : Nat) (x : St) (H : Heap) (locs : List Loc) (ls : Array Slot), (152 ≤ NN) → (NN0 ≤ NN ∧ ∀ o : Nat, o < NN0 → ad o = ad0 o) → (cells + kb ≤ R.cells) → (slots + nb ≤ R.slots) → (o < NN ∧ kcC o = 5) → rec49 o l1 l2 l3 l4 l5 l6 l7 l8 l9 l11 l13 l14 kb nb x → Wd dC dI cI cB cJ cZ ad stC kcC NN A x H → va_S A s.heap H locs → lv_has ls 16 [(0, .ref (ad o)), (1, .int l1), (2, .int l2), (3, .int l3), (4, .int l4), (5, .int l5), (6, .int l6), (7, .int l7), (8, .int l8), (9, .long l9), (11, .long l11), (13, .int l13), (14, .int l14)] → W p l e R s m args below meth c H locs cells slots Q (F0 m 49 ls [])) : ∀ (ad : Nat → Nat) (NN cells slots : Nat) (o : Nat) (l1 : Int32) (l2 : Int32) (l3 : Int32) (l4 : Int32) (l5 : Int32) (l6 : Int32) (l7 : Int32) (l8 : Int32) (l9 : Int64) (l11 : Int64) (l13 : Int32) (l14 : Int32) (l15 : Int32) (kb : Nat) (nb : Nat) (x : St) (H : Heap) (locs : List Loc) (ls : Array Slot), (152 ≤ NN) → (NN0 ≤ NN ∧ ∀ o : Nat, o < NN0 → ad o = ad0 o) → (cells + kb ≤ R.cells) → (slots + nb ≤ R.slots) → (o < NN ∧ kcC o = 5) → j_Wrt_putChunk_176 post rec49 o l1 l2 l3 l4 l5 l6 l7 l8 l9 l11 l13 l14 l15 kb nb x → Wd dC dI cI cB cJ cZ ad stC kcC NN A x H → va_S A s.heap H locs → lv_has ls 16 [(0, .ref (ad o)), (1, .int l1), (2, .int l2), (3, .int l3), (4, .int l4), (5, .int l5), (6, .int l6), (7, .int l7), (8, .int l8), (9, .long l9), (11, .long l11), (13, .int l13), (14, .int l14), (15, .int l15)] → W p l e R s m args below meth c H locs cells slots Q (F0 m 176 ls []) := by
  intro ad NN cells slots o l1 l2 l3 l4 l5 l6 l7 l8 l9 l11 l13 l14 l15 kb nb x H locs ls hNN hag hRc hRs fo hw hW hS hl
  unfold j_Wrt_putChunk_176 at hw
  refine lv_iload hx hb d_Wrt_putChunk_176 (lv_at hl 7 rfl) ?_
  refine lv_aload_n hx hb d_Wrt_putChunk_178 rfl (lv_at hl 0 rfl) ?_
  refine w_geti (k := 11) (t := 5) (C := R_Wrt) (T := F_Wrt) (N := 20) hx hb hT hown hK hW fo.1 fo.2 (by decide) in_Wrt rfl rfl (by decide) rfl fr_Wrt_11 w_2_62 d_Wrt_putChunk_179 ?_
  refine lv_iadd hx hb d_Wrt_putChunk_182 ?_
  refine lv_topi (fun v36 ev36 => ?_)
  have hw := hw v36 ev36
  refine lv_istore (lv' := [(7, .int v36), (0, .ref (ad o)), (1, .int l1), (2, .int l2), (3, .int l3), (4, .int l4), (5, .int l5), (6, .int l6), (8, .int l8), (9, .long l9), (11, .long l11), (13, .int l13), (14, .int l14), (15, .int l15)]) hx hb d_Wrt_putChunk_183 hl (by decide) rfl (fun ls hl => ?_)
  refine lv_iload hx hb d_Wrt_putChunk_185 (lv_at hl 8 rfl) ?_
  refine lv_aload_n hx hb d_Wrt_putChunk_187 rfl (lv_at hl 1 rfl) ?_
  refine w_geti (k := 12) (t := 5) (C := R_Wrt) (T := F_Wrt) (N := 20) hx hb hT hown hK hW fo.1 fo.2 (by decide) in_Wrt rfl rfl (by decide) rfl fr_Wrt_12 w_2_63 d_Wrt_putChunk_188 ?_
  refine lv_iadd hx hb d_Wrt_putChunk_191 ?_
  refine lv_topi (fun v37 ev37 => ?_)
  have hw := hw v37 ev37
  refine lv_istore (lv' := [(8, .int v37), (7, .int v36), (0, .ref (ad o)), (1, .int l1), (2, .int l2), (3, .int l3), (4, .int l4), (5, .int l5), (6, .int l6), (9, .long l9), (11, .long l11), (13, .int l13), (14, .int l14), (15, .int l15)]) hx hb d_Wrt_putChunk_192 hl (by decide) rfl (fun ls hl => ?_)
  refine lv_iinc (v := (l14 + 1)) (lv' := [(14, .int (l14 + 1)), (8, .int v37), (7, .int v36), (0, .ref (ad o)), (1, .int l1), (2, .int l2), (3, .int l3), (4, .int l4), (5, .int l5), (6, .int l6), (9, .long l9), (11, .long l11), (13, .int l13), (15, .int l15)]) hx hb d_Wrt_putChunk_194 hl (k := 12) rfl rfl (by decide) rfl (fun ls hl => ?_)
  refine lv_goto (tgt := 49) hx hb d_Wrt_putChunk_197 (by decide) ?_
  exact hrec49 ad NN cells slots o l1 l2 l3 l4 l5 l6 v36 v37 l9 l11 l13 (l14 + 1) kb nb x H locs ls hNN hag hRc hRs fo hw hW hS (lv_sub hl [3, 4, 5, 6, 7, 8, 9, 2, 1, 10, 11, 12, 0] rfl)
set_option maxRecDepth 100000 in
set_option maxHeartbeats 4000000 in
set_option maxRecDepth 100000 in
theorem t_Wrt_putChunk_170 {p : Program} {l : Launch} {e : Env} {R : Room} {s : State} {m : MethodId} {args : Array Value} {below : List Frame} {meth : Method} {c : Code} {Q : State → Prop} {dC : Nat → ClassId} {dI : Nat → Nat → Nat} {cI cB cJ cZ : ClassId} {A : Nat → Prop} {E : Heap} {tM tC : Nat} {kK kV : Nat → Nat} {ad0 : Nat → Nat} {NN0 : Nat} {post : Int32 → St → Prop} {rec49 : Nat → Int32 → Int32 → Int32 → Int32 → Int32 → Int32 → Int32 → Int32 → Int64 → Int64 → Int32 → Int32 → Nat → Nat → St → Prop} (hx : p.tables.exec = Jvm.exec) (hb : c.code = b_Wrt_putChunk) (hml : c.maxLocals = 16) (hown : s.vm.findClass R_Wrt = some m.cls) (hT : ∀ w ∈ TG, w.before args s = true) (hK : va_K (dC, dI) CL (TY cI cB cJ cZ) s) (hN : NW s) (hA : ∀ q : Nat, s.heap.size ≤ q → A q) (hRf : 8 ≤ R.frames) (hRl : 350 ≤ R.locals) (hE : CE E tM tC kK kV A s) (hret : ∀ (r : Int32) (ad : Nat → Nat) (NN cells slots : Nat) (x : St) (H : Heap) (locs : List Loc) (pc : Nat) (ls : Array Slot), decode b_Wrt_putChunk pc = .ok (.ireturn, 1) → narrow .boolean (.int r) = .int r → (NN0 ≤ NN ∧ ∀ o : Nat, o < NN0 → ad o = ad0 o) → cells ≤ R.cells → slots ≤ R.slots → post r x → Wd dC dI cI cB cJ cZ ad stC kcC NN A x H → va_S A s.heap H locs → W p l e R s m args below meth c H locs cells slots Q (F0 m pc ls [.int r])) (hrec49 : ∀ (ad : Nat → Nat) (NN cells slots : Nat) (o : Nat) (l1 : Int32) (l2 : Int32) (l3 : Int32) (l4 : Int32) (l5 : Int32) (l6 : Int32) (l7 : Int32) (l8 : Int32) (l9 : Int64) (l11 : Int64) (l13 : Int32) (l14 : Int32) (kb : Nat) (nb : Nat) (x : St) (H : Heap) (locs : List Loc) (ls : Array Slot), (152 ≤ NN) → (NN0 ≤ NN ∧ ∀ o : Nat, o < NN0 → ad o = ad0 o) → (cells + kb ≤ R.cells) → (slots + nb ≤ R.slots) → (o < NN ∧ kcC o = 5) → rec49 o l1 l2 l3 l4 l5 l6 l7 l8 l9 l11 l13 l14 kb nb x → Wd dC dI cI cB cJ cZ ad stC kcC NN A x H → va_S A s.heap H locs → lv_has ls 16 [(0, .ref (ad o)), (1, .int l1), (2, .int l2), (3, .int l3), (4, .int l4), (5, .int l5), (6, .int l6), (7, .int l7), (8, .int l8), (9, .long l9), (11, .long l11), (13, .int l13), (14, .int l14)] → W p l e R s m args below meth c H locs cells slots Q (F0 m 49 ls [])) : ∀ (ad : Nat → Nat) (NN cells slots : Nat) (o : Nat) (l1 : Int32) (l2 : Int32) (l3 : Int32) (l4 : Int32) (l5 : Int32) (l6 : Int32) (l7 : Int32) (l8 : Int32) (l9 : Int64) (l11 : Int64) (l13 : Int32) (l14 : Int32) (l15 : Int32) (kb : Nat) (nb : Nat) (x : St) (H : Heap) (locs : List Loc) (ls : Array Slot), (152 ≤ NN) → (NN0 ≤ NN ∧ ∀ o : Nat, o < NN0 → ad o = ad0 o) → (cells + kb ≤ R.cells) → (slots + nb ≤ R.slots) → (o < NN ∧ kcC o = 5) → j_Wrt_putChunk_170 post rec49 o l1 l2 l3 l4 l5 l6 l7 l8 l9 l11 l13 l14 l15 kb nb x → Wd dC dI cI cB cJ cZ ad stC kcC NN A x H → va_S A s.heap H locs → lv_has ls 16 [(0, .ref (ad o)), (1, .int l1), (2, .int l2), (3, .int l3), (4, .int l4), (5, .int l5), (6, .int l6), (7, .int l7), (8, .int l8), (9, .long l9), (11, .long l11), (13, .int l13), (14, .int l14), (15, .int l15)] → W p l e R s m args below meth c H locs cells slots Q (F0 m 170 ls []) := by
  intro ad NN cells slots o l1 l2 l3 l4 l5 l6 l7 l8 l9 l11 l13 l14 l15 kb nb x H locs ls hNN hag hRc hRs fo hw hW hS hl
  unfold j_Wrt_putChunk_170 at hw
  refine lv_aload_n hx hb d_Wrt_putChunk_170 rfl (lv_at hl 0 rfl) ?_
  refine w_getj (k := 14) (t := 5) (C := R_Wrt) (T := F_Wrt) (N := 20) hx hb hT hown hK hW fo.1 fo.2 (by decide) in_Wrt rfl rfl (by decide) rfl fr_Wrt_14 w_2_65 d_Wrt_putChunk_171 ?_
  refine lv_topl (fun v38 ev38 => ?_)
  have hw := hw v38 ev38
  refine lv_lstore (lv' := [(11, .long v38), (0, .ref (ad o)), (1, .int l1), (2, .int l2), (3, .int l3), (4, .int l4), (5, .int l5), (6, .int l6), (7, .int l7), (8, .int l8), (9, .long l9), (13, .int l13), (14, .int l14), (15, .int l15)]) hx hb d_Wrt_putChunk_174 hl (by decide) rfl (fun ls hl => ?_)
  exact t_Wrt_putChunk_176 hx hb hml hown hT hK hN hA hRf hRl hE hret hrec49 ad NN cells slots o l1 l2 l3 l4 l5 l6 l7 l8 l9 v38 l13 l14 l15 kb nb x H locs ls hNN hag hRc hRs fo hw hW hS (lv_sub hl [1, 2, 3, 4, 5, 6, 7, 8, 9, 10, 0, 11, 12, 13] rfl)
set_option maxRecDepth 100000 in
set_option maxHeartbeats 4000000 in
set_option maxRecDepth 100000 in
theorem t_Wrt_putChunk_143 {p : Program} {l : Launch} {e : Env} {R : Room} {s : State} {m : MethodId} {args : Array Value} {below : List Frame} {meth : Method} {c : Code} {Q : State → Prop} {dC : Nat → ClassId} {dI : Nat → Nat → Nat} {cI cB cJ cZ : ClassId} {A : Nat → Prop} {E : Heap} {tM tC : Nat} {kK kV : Nat → Nat} {ad0 : Nat → Nat} {NN0 : Nat} {post : Int32 → St → Prop} {rec49 : Nat → Int32 → Int32 → Int32 → Int32 → Int32 → Int32 → Int32 → Int32 → Int64 → Int64 → Int32 → Int32 → Nat → Nat → St → Prop} (hx : p.tables.exec = Jvm.exec) (hb : c.code = b_Wrt_putChunk) (hml : c.maxLocals = 16) (hown : s.vm.findClass R_Wrt = some m.cls) (hT : ∀ w ∈ TG, w.before args s = true) (hK : va_K (dC, dI) CL (TY cI cB cJ cZ) s) (hN : NW s) (hA : ∀ q : Nat, s.heap.size ≤ q → A q) (hRf : 8 ≤ R.frames) (hRl : 350 ≤ R.locals) (hE : CE E tM tC kK kV A s) (hret : ∀ (r : Int32) (ad : Nat → Nat) (NN cells slots : Nat) (x : St) (H : Heap) (locs : List Loc) (pc : Nat) (ls : Array Slot), decode b_Wrt_putChunk pc = .ok (.ireturn, 1) → narrow .boolean (.int r) = .int r → (NN0 ≤ NN ∧ ∀ o : Nat, o < NN0 → ad o = ad0 o) → cells ≤ R.cells → slots ≤ R.slots → post r x → Wd dC dI cI cB cJ cZ ad stC kcC NN A x H → va_S A s.heap H locs → W p l e R s m args below meth c H locs cells slots Q (F0 m pc ls [.int r])) (hrec49 : ∀ (ad : Nat → Nat) (NN cells slots : Nat) (o : Nat) (l1 : Int32) (l2 : Int32) (l3 : Int32) (l4 : Int32) (l5 : Int32) (l6 : Int32) (l7 : Int32) (l8 : Int32) (l9 : Int64) (l11 : Int64) (l13 : Int32) (l14 : Int32) (kb : Nat) (nb : Nat) (x : St) (H : Heap) (locs : List Loc) (ls : Array Slot), (152 ≤ NN) → (NN0 ≤ NN ∧ ∀ o : Nat, o < NN0 → ad o = ad0 o) → (cells + kb ≤ R.cells) → (slots + nb ≤ R.slots) → (o < NN ∧ kcC o = 5) → rec49 o l1 l2 l3 l4 l5 l6 l7 l8 l9 l11 l13 l14 kb nb x → Wd dC dI cI cB cJ cZ ad stC kcC NN A x H → va_S A s.heap H locs → lv_has ls 16 [(0, .ref (ad o)), (1, .int l1), (2, .int l2), (3, .int l3), (4, .int l4), (5, .int l5), (6, .int l6), (7, .int l7), (8, .int l8), (9, .long l9), (11, .long l11), (13, .int l13), (14, .int l14)] → W p l e R s m args below meth c H locs cells slots Q (F0 m 49 ls [])) : ∀ (ad : Nat → Nat) (NN cells slots : Nat) (o : Nat) (l1 : Int32) (l2 : Int32) (l3 : Int32) (l4 : Int32) (l5 : Int32) (l6 : Int32) (l7 : Int32) (l8 : Int32) (l9 : Int64) (l11 : Int64) (l13 : Int32) (l14 : Int32) (l15 : Int32) (kb : Nat) (nb : Nat) (x : St) (H : Heap) (locs : List Loc) (ls : Array Slot), (152 ≤ NN) → (NN0 ≤ NN ∧ ∀ o : Nat, o < NN0 → ad o = ad0 o) → (cells + kb ≤ R.cells) → (slots + nb ≤ R.slots) → (o < NN ∧ kcC o = 5) → j_Wrt_putChunk_143 post rec49 o l1 l2 l3 l4 l5 l6 l7 l8 l9 l11 l13 l14 l15 kb nb x → Wd dC dI cI cB cJ cZ ad stC kcC NN A x H → va_S A s.heap H locs → lv_has ls 16 [(0, .ref (ad o)), (1, .int l1), (2, .int l2), (3, .int l3), (4, .int l4), (5, .int l5), (6, .int l6), (7, .int l7), (8, .int l8), (9, .long l9), (11, .long l11), (13, .int l13), (14, .int l14), (15, .int l15)] → W p l e R s m args below meth c H locs cells slots Q (F0 m 143 ls []) := by
  intro ad NN cells slots o l1 l2 l3 l4 l5 l6 l7 l8 l9 l11 l13 l14 l15 kb nb x H locs ls hNN hag hRc hRs fo hw hW hS hl
  unfold j_Wrt_putChunk_143 at hw
  refine lv_aload_n hx hb d_Wrt_putChunk_143 rfl (lv_at hl 0 rfl) ?_
  refine w_geti (k := 12) (t := 5) (C := R_Wrt) (T := F_Wrt) (N := 20) hx hb hT hown hK hW fo.1 fo.2 (by decide) in_Wrt rfl rfl (by decide) rfl fr_Wrt_12 w_2_63 d_Wrt_putChunk_144 ?_
  refine lv_if_le (tgt := 176) hx hb d_Wrt_putChunk_147 (by decide) (fun c39 => ?_) (fun c39 => ?_)
  · have hw := hw.1 c39
    exact t_Wrt_putChunk_176 hx hb hml hown hT hK hN hA hRf hRl hE hret hrec49 ad NN cells slots o l1 l2 l3 l4 l5 l6 l7 l8 l9 l11 l13 l14 l15 kb nb x H locs ls hNN hag hRc hRs fo hw hW hS (lv_sub hl [0, 1, 2, 3, 4, 5, 6, 7, 8, 9, 10, 11, 12, 13] rfl)
  · have hw := hw.2 c39
    refine lv_iload hx hb d_Wrt_putChunk_150 (lv_at hl 8 rfl) ?_
    refine lv_if_eq (tgt := 170) hx hb d_Wrt_putChunk_152 (by decide) (fun c40 => ?_) (fun c40 => ?_)
    · have hw := hw.1 c40
      exact t_Wrt_putChunk_170 hx hb hml hown hT hK hN hA hRf hRl hE hret hrec49 ad NN cells slots o l1 l2 l3 l4 l5 l6 l7 l8 l9 l11 l13 l14 l15 kb nb x H locs ls hNN hag hRc hRs fo hw hW hS (lv_sub hl [0, 1, 2, 3, 4, 5, 6, 7, 8, 9, 10, 11, 12, 13] rfl)
    · have hw := hw.2 c40
      refine lv_aload_n hx hb d_Wrt_putChunk_155 rfl (lv_at hl 0 rfl) ?_
      refine lv_iload hx hb d_Wrt_putChunk_156 (lv_at hl 4 rfl) ?_
      refine lv_aload_n hx hb d_Wrt_putChunk_158 rfl (lv_at hl 0 rfl) ?_
      refine w_getj (k := 14) (t := 5) (C := R_Wrt) (T := F_Wrt) (N := 20) hx hb hT hown hK hW fo.1 fo.2 (by decide) in_Wrt rfl rfl (by decide) rfl fr_Wrt_14 w_2_65 d_Wrt_putChunk_159 ?_
      refine lv_lload hx hb d_Wrt_putChunk_162 (lv_at hl 10 rfl) ?_
      have hF := hW.free hS hA
      refine va_calli (va_runV (C := R_Wrt) (As := [.int l4, .long (fJ x o 14), .long l11]) (rest := []) ⟨hx, hb, hml, hown, hT⟩ (k_Wrt_compare l dC dI cI cB cJ cZ ad NN E tM tC kK kV hNN H.size o l4 (fJ x o 14) l11 x fo hw) ⟨callB_of 3 hT (gwt_in w_6_35) rfl rfl rfl (hT _ w_1_8) (hT _ w_6_32) (by decide +kernel) ⟨Nat.le_trans (Nat.le_of_ble_eq_true rfl) hRf, Nat.le_trans (Nat.le_of_ble_eq_true rfl) hRl⟩, hT _ w_6_34, hT _ ws_32⟩ ⟨PVc.blind, va_recv hK hW.1 (ci := 5) (q0 := o) rfl (pic_obj fo.1 fo.2 (by decide)), PVc.at _ hW hK hN hE hS hF⟩ rfl rfl hl.1 rfl (lv_room (Nat.le_of_ble_eq_true rfl)) d_Wrt_putChunk_164 ⟨(Nat.le_trans (Nat.le_add_right _ _) hRc), (Nat.le_trans (Nat.le_add_right _ _) hRs)⟩) hS (fun q _ h => hF q h) hF (fun r42 x41 t H locs ht hvm hw hB hz1 hk1 hS => ?_)
      have hW := Wd.back hB ht hF
      clear hB ht hF hz1 hk1 hvm
      refine lv_if_le (tgt := 176) hx hb d_Wrt_putChunk_167 (by decide) (fun c43 => ?_) (fun c43 => ?_)
      · have hw := hw.1 c43
        exact t_Wrt_putChunk_176 hx hb hml hown hT hK hN hA hRf hRl hE hret hrec49 ad NN cells slots o l1 l2 l3 l4 l5 l6 l7 l8 l9 l11 l13 l14 l15 kb nb x41 H locs ls hNN hag hRc hRs fo hw hW hS (lv_sub hl [0, 1, 2, 3, 4, 5, 6, 7, 8, 9, 10, 11, 12, 13] rfl)
      · have hw := hw.2 c43
        exact t_Wrt_putChunk_170 hx hb hml hown hT hK hN hA hRf hRl hE hret hrec49 ad NN cells slots o l1 l2 l3 l4 l5 l6 l7 l8 l9 l11 l13 l14 l15 kb nb x41 H locs ls hNN hag hRc hRs fo hw hW hS (lv_sub hl [0, 1, 2, 3, 4, 5, 6, 7, 8, 9, 10, 11, 12, 13] rfl)
set_option maxRecDepth 100000 in
set_option maxHeartbeats 4000000 in
set_option maxRecDepth 100000 in
theorem t_Wrt_putChunk_137 {p : Program} {l : Launch} {e : Env} {R : Room} {s : State} {m : MethodId} {args : Array Value} {below : List Frame} {meth : Method} {c : Code} {Q : State → Prop} {dC : Nat → ClassId} {dI : Nat → Nat → Nat} {cI cB cJ cZ : ClassId} {A : Nat → Prop} {E : Heap} {tM tC : Nat} {kK kV : Nat → Nat} {ad0 : Nat → Nat} {NN0 : Nat} {post : Int32 → St → Prop} {rec49 : Nat → Int32 → Int32 → Int32 → Int32 → Int32 → Int32 → Int32 → Int32 → Int64 → Int64 → Int32 → Int32 → Nat → Nat → St → Prop} (hx : p.tables.exec = Jvm.exec) (hb : c.code = b_Wrt_putChunk) (hml : c.maxLocals = 16) (hown : s.vm.findClass R_Wrt = some m.cls) (hT : ∀ w ∈ TG, w.before args s = true) (hK : va_K (dC, dI) CL (TY cI cB cJ cZ) s) (hN : NW s) (hA : ∀ q : Nat, s.heap.size ≤ q → A q) (hRf : 8 ≤ R.frames) (hRl : 350 ≤ R.locals) (hE : CE E tM tC kK kV A s) (hret : ∀ (r : Int32) (ad : Nat → Nat) (NN cells slots : Nat) (x : St) (H : Heap) (locs : List Loc) (pc : Nat) (ls : Array Slot), decode b_Wrt_putChunk pc = .ok (.ireturn, 1) → narrow .boolean (.int r) = .int r → (NN0 ≤ NN ∧ ∀ o : Nat, o < NN0 → ad o = ad0 o) → cells ≤ R.cells → slots ≤ R.slots → post r x → Wd dC dI cI cB cJ cZ ad stC kcC NN A x H → va_S A s.heap H locs → W p l e R s m args below meth c H locs cells slots Q (F0 m pc ls [.int r])) (hrec49 : ∀ (ad : Nat → Nat) (NN cells slots : Nat) (o : Nat) (l1 : Int32) (l2 : Int32) (l3 : Int32) (l4 : Int32) (l5 : Int32) (l6 : Int32) (l7 : Int32) (l8 : Int32) (l9 : Int64) (l11 : Int64) (l13 : Int32) (l14 : Int32) (kb : Nat) (nb : Nat) (x : St) (H : Heap) (locs : List Loc) (ls : Array Slot), (152 ≤ NN) → (NN0 ≤ NN ∧ ∀ o : Nat, o < NN0 → ad o = ad0 o) → (cells + kb ≤ R.cells) → (slots + nb ≤ R.slots) → (o < NN ∧ kcC o = 5) → rec49 o l1 l2 l3 l4 l5 l6 l7 l8 l9 l11 l13 l14 kb nb x → Wd dC dI cI cB cJ cZ ad stC kcC NN A x H → va_S A s.heap H locs → lv_has ls 16 [(0, .ref (ad o)), (1, .int l1), (2, .int l2), (3, .int l3), (4, .int l4), (5, .int l5), (6, .int l6), (7, .int l7), (8, .int l8), (9, .long l9), (11, .long l11), (13, .int l13), (14, .int l14)] → W p l e R s m args below meth c H locs cells slots Q (F0 m 49 ls [])) : ∀ (ad : Nat → Nat) (NN cells slots : Nat) (o : Nat) (l1 : Int32) (l2 : Int32) (l3 : Int32) (l4 : Int32) (l5 : Int32) (l6 : Int32) (l7 : Int32) (l8 : Int32) (l9 : Int64) (l11 : Int64) (l13 : Int32) (l14 : Int32) (l15 : Int32) (kb : Nat) (nb : Nat) (x : St) (H : Heap) (locs : List Loc) (ls : Array Slot), (152 ≤ NN) → (NN0 ≤ NN ∧ ∀ o : Nat, o < NN0 → ad o = ad0 o) → (cells + kb ≤ R.cells) → (slots + nb ≤ R.slots) → (o < NN ∧ kcC o = 5) → j_Wrt_putChunk_137 post rec49 o l1 l2 l3 l4 l5 l6 l7 l8 l9 l11 l13 l14 l15 kb nb x → Wd dC dI cI cB cJ cZ ad stC kcC NN A x H → va_S A s.heap H locs → lv_has ls 16 [(0, .ref (ad o)), (1, .int l1), (2, .int l2), (3, .int l3), (4, .int l4), (5, .int l5), (6, .int l6), (7, .int l7), (8, .int l8), (9, .long l9), (11, .long l11), (13, .int l13), (14, .int l14), (15, .int l15)] → W p l e R s m args below meth c H locs cells slots Q (F0 m 137 ls []) := by
  intro ad NN cells slots o l1 l2 l3 l4 l5 l6 l7 l8 l9 l11 l13 l14 l15 kb nb x H locs ls hNN hag hRc hRs fo hw hW hS hl
  unfold j_Wrt_putChunk_137 at hw
  refine lv_aload_n hx hb d_Wrt_putChunk_137 rfl (lv_at hl 0 rfl) ?_
  refine w_getj (k := 13) (t := 5) (C := R_Wrt) (T := F_Wrt) (N := 20) hx hb hT hown hK hW fo.1 fo.2 (by decide) in_Wrt rfl rfl (by decide) rfl fr_Wrt_13 w_2_64 d_Wrt_putChunk_138 ?_
  refine lv_topl (fun v44 ev44 => ?_)
  have hw := hw v44 ev44
  refine lv_lstore (lv' := [(9, .long v44), (0, .ref (ad o)), (1, .int l1), (2, .int l2), (3, .int l3), (4, .int l4), (5, .int l5), (6, .int l6), (7, .int l7), (8, .int l8), (11, .long l11), (13, .int l13), (14, .int l14), (15, .int l15)]) hx hb d_Wrt_putChunk_141 hl (by decide) rfl (fun ls hl => ?_)
  exact t_Wrt_putChunk_143 hx hb hml hown hT hK hN hA hRf hRl hE hret hrec49 ad NN cells slots o l1 l2 l3 l4 l5 l6 l7 l8 v44 l11 l13 l14 l15 kb nb x H locs ls hNN hag hRc hRs fo hw hW hS (lv_sub hl [1, 2, 3, 4, 5, 6, 7, 8, 9, 0, 10, 11, 12, 13] rfl)
set_option maxRecDepth 100000 in
set_option maxHeartbeats 4000000 in
set_option maxRecDepth 100000 in
theorem t_Wrt_putChunk_49 {p : Program} {l : Launch} {e : Env} {R : Room} {s : State} {m : MethodId} {args : Array Value} {below : List Frame} {meth : Method} {c : Code} {Q : State → Prop} {dC : Nat → ClassId} {dI : Nat → Nat → Nat} {cI cB cJ cZ : ClassId} {A : Nat → Prop} {E : Heap} {tM tC : Nat} {kK kV : Nat → Nat} {ad0 : Nat → Nat} {NN0 : Nat} {post : Int32 → St → Prop} {rec49 : Nat → Int32 → Int32 → Int32 → Int32 → Int32 → Int32 → Int32 → Int32 → Int64 → Int64 → Int32 → Int32 → Nat → Nat → St → Prop} (hx : p.tables.exec = Jvm.exec) (hb : c.code = b_Wrt_putChunk) (hml : c.maxLocals = 16) (hown : s.vm.findClass R_Wrt = some m.cls) (hT : ∀ w ∈ TG, w.before args s = true) (hK : va_K (dC, dI) CL (TY cI cB cJ cZ) s) (hN : NW s) (hA : ∀ q : Nat, s.heap.size ≤ q → A q) (hRf : 8 ≤ R.frames) (hRl : 350 ≤ R.locals) (hE : CE E tM tC kK kV A s) (hret : ∀ (r : Int32) (ad : Nat → Nat) (NN cells slots : Nat) (x : St) (H : Heap) (locs : List Loc) (pc : Nat) (ls : Array Slot), decode b_Wrt_putChunk pc = .ok (.ireturn, 1) → narrow .boolean (.int r) = .int r → (NN0 ≤ NN ∧ ∀ o : Nat, o < NN0 → ad o = ad0 o) → cells ≤ R.cells → slots ≤ R.slots → post r x → Wd dC dI cI cB cJ cZ ad stC kcC NN A x H → va_S A s.heap H locs → W p l e R s m args below meth c H locs cells slots Q (F0 m pc ls [.int r])) (hrec49 : ∀ (ad : Nat → Nat) (NN cells slots : Nat) (o : Nat) (l1 : Int32) (l2 : Int32) (l3 : Int32) (l4 : Int32) (l5 : Int32) (l6 : Int32) (l7 : Int32) (l8 : Int32) (l9 : Int64) (l11 : Int64) (l13 : Int32) (l14 : Int32) (kb : Nat) (nb : Nat) (x : St) (H : Heap) (locs : List Loc) (ls : Array Slot), (152 ≤ NN) → (NN0 ≤ NN ∧ ∀ o : Nat, o < NN0 → ad o = ad0 o) → (cells + kb ≤ R.cells) → (slots + nb ≤ R.slots) → (o < NN ∧ kcC o = 5) → rec49 o l1 l2 l3 l4 l5 l6 l7 l8 l9 l11 l13 l14 kb nb x → Wd dC dI cI cB cJ cZ ad stC kcC NN A x H → va_S A s.heap H locs → lv_has ls 16 [(0, .ref (ad o)), (1, .int l1), (2, .int l2), (3, .int l3), (4, .int l4), (5, .int l5), (6, .int l6), (7, .int l7), (8, .int l8), (9, .long l9), (11, .long l11), (13, .int l13), (14, .int l14)] → W p l e R s m args below meth c H locs cells slots Q (F0 m 49 ls [])) : ∀ (ad : Nat → Nat) (NN cells slots : Nat) (o : Nat) (l1 : Int32) (l2 : Int32) (l3 : Int32) (l4 : Int32) (l5 : Int32) (l6 : Int32) (l7 : Int32) (l8 : Int32) (l9 : Int64) (l11 : Int64) (l13 : Int32) (l14 : Int32) (kb : Nat) (nb : Nat) (x : St) (H : Heap) (locs : List Loc) (ls : Array Slot), (152 ≤ NN) → (NN0 ≤ NN ∧ ∀ o : Nat, o < NN0 → ad o = ad0 o) → (cells + kb ≤ R.cells) → (slots + nb ≤ R.slots) → (o < NN ∧ kcC o = 5) → j_Wrt_putChunk_49 post rec49 o l1 l2 l3 l4 l5 l6 l7 l8 l9 l11 l13 l14 kb nb x → Wd dC dI cI cB cJ cZ ad stC kcC NN A x H → va_S A s.heap H locs → lv_has ls 16 [(0, .ref (ad o)), (1, .int l1), (2, .int l2), (3, .int l3), (4, .int l4), (5, .int l5), (6, .int l6), (7, .int l7), (8, .int l8), (9, .long l9), (11, .long l11), (13, .int l13), (14, .int l14)] → W p l e R s m args below meth c H locs cells slots Q (F0 m 49 ls []) := by
  intro ad NN cells slots o l1 l2 l3 l4 l5 l6 l7 l8 l9 l11 l13 l14 kb nb x H locs ls hNN hag hRc hRs fo hw hW hS hl
  unfold j_Wrt_putChunk_49 at hw
  refine lv_iload hx hb d_Wrt_putChunk_49 (lv_at hl 12 rfl) ?_
  refine lv_iload_n hx hb d_Wrt_putChunk_51 rfl (lv_at hl 2 rfl) ?_
  refine lv_icmp_ge (tgt := 200) hx hb d_Wrt_putChunk_52 (by decide) (fun c45 => ?_) (fun c45 => ?_)
  · have hw := hw.1 c45
    exact t_Wrt_putChunk_200 hx hb hml hown hT hK hN hA hRf hRl hE hret  ad NN cells slots o l1 l2 l3 l4 l5 l6 l7 l8 l9 l11 l13 l14 kb nb x H locs ls hNN hag hRc hRs fo hw hW hS (lv_sub hl [0, 1, 2, 3, 4, 5, 6, 7, 8, 9, 10, 11, 12] rfl)
  · have hw := hw.2 c45
    refine lv_iload hx hb d_Wrt_putChunk_55 (lv_at hl 11 rfl) ?_
    refine lv_if_le (tgt := 200) hx hb d_Wrt_putChunk_57 (by decide) (fun c46 => ?_) (fun c46 => ?_)
    · have hw := hw.1 c46
      exact t_Wrt_putChunk_200 hx hb hml hown hT hK hN hA hRf hRl hE hret  ad NN cells slots o l1 l2 l3 l4 l5 l6 l7 l8 l9 l11 l13 l14 kb nb x H locs ls hNN hag hRc hRs fo hw hW hS (lv_sub hl [0, 1, 2, 3, 4, 5, 6, 7, 8, 9, 10, 11, 12] rfl)
    · have hw := hw.2 c46
      refine lv_aload_n hx hb d_Wrt_putChunk_60 rfl (lv_at hl 0 rfl) ?_
      refine lv_iload_n hx hb d_Wrt_putChunk_61 rfl (lv_at hl 1 rfl) ?_
      refine lv_iload hx hb d_Wrt_putChunk_62 (lv_at hl 11 rfl) ?_
      refine lv_iload_n hx hb d_Wrt_putChunk_64 rfl (lv_at hl 3 rfl) ?_
      have hF := hW.free hS hA
      refine va_calli (va_runV (C := R_Wrt) (As := [.int l1, .int l13, .int l3]) (rest := []) ⟨hx, hb, hml, hown, hT⟩ (k_Wrt_fillPage l dC dI cI cB cJ cZ ad NN E tM tC kK kV hNN H.size o l1 l13 l3 x fo hw) ⟨callB_of 3 hT (gwt_in w_5_158) rfl rfl rfl (hT _ w_1_8) (hT _ w_5_155) (by decide +kernel) ⟨Nat.le_trans (Nat.le_of_ble_eq_true rfl) hRf, Nat.le_trans (Nat.le_of_ble_eq_true rfl) hRl⟩, hT _ w_5_157, hT _ ws_18⟩ ⟨PVc.blind, va_recv hK hW.1 (ci := 5) (q0 := o) rfl (pic_obj fo.1 fo.2 (by decide)), PVc.at _ hW hK hN hE hS hF⟩ rfl rfl hl.1 rfl (lv_room (Nat.le_of_ble_eq_true rfl)) d_Wrt_putChunk_65 ⟨(Nat.le_trans (Nat.le_add_right _ _) hRc), (Nat.le_trans (Nat.le_add_right _ _) hRs)⟩) hS (fun q _ h => hF q h) hF (fun r48 x47 t H locs ht hvm hw hB hz1 hk1 hS => ?_)
      have hW := Wd.back hB ht hF
      clear hB ht hF hz1 hk1 hvm
      refine lv_istore (lv' := [(15, .int r48), (0, .ref (ad o)), (1, .int l1), (2, .int l2), (3, .int l3), (4, .int l4), (5, .int l5), (6, .int l6), (7, .int l7), (8, .int l8), (9, .long l9), (11, .long l11), (13, .int l13), (14, .int l14)]) hx hb d_Wrt_putChunk_68 hl (by decide) rfl (fun ls hl => ?_)
      refine lv_iload hx hb d_Wrt_putChunk_70 (lv_at hl 0 rfl) ?_
      refine lv_if_ne (tgt := 77) hx hb d_Wrt_putChunk_72 (by decide) (fun c49 => ?_) (fun c49 => ?_)
      · have hw := hw.1 c49
        refine lv_iload hx hb d_Wrt_putChunk_77 (lv_at hl 12 rfl) ?_
        refine lv_iload hx hb d_Wrt_putChunk_79 (lv_at hl 0 rfl) ?_
        refine lv_isub hx hb d_Wrt_putChunk_81 ?_
        refine lv_topi (fun v50 ev50 => ?_)
        have hw := hw v50 ev50
        refine lv_istore (lv' := [(13, .int v50), (15, .int r48), (0, .ref (ad o)), (1, .int l1), (2, .int l2), (3, .int l3), (4, .int l4), (5, .int l5), (6, .int l6), (7, .int l7), (8, .int l8), (9, .long l9), (11, .long l11), (14, .int l14)]) hx hb d_Wrt_putChunk_82 hl (by decide) rfl (fun ls hl => ?_)
        refine lv_iinc (v := (l6 + 1)) (lv' := [(6, .int (l6 + 1)), (13, .int v50), (15, .int r48), (0, .ref (ad o)), (1, .int l1), (2, .int l2), (3, .int l3), (4, .int l4), (5, .int l5), (7, .int l7), (8, .int l8), (9, .long l9), (11, .long l11), (14, .int l14)]) hx hb d_Wrt_putChunk_84 hl (k := 8) rfl rfl (by decide) rfl (fun ls hl => ?_)
        refine lv_aload_n hx hb d_Wrt_putChunk_87 rfl (lv_at hl 3 rfl) ?_
        refine lv_iload_n hx hb d_Wrt_putChunk_88 rfl (lv_at hl 4 rfl) ?_
        refine lv_aload_n hx hb d_Wrt_putChunk_89 rfl (lv_at hl 3 rfl) ?_
        refine lv_iload hx hb d_Wrt_putChunk_90 (lv_at hl 7 rfl) ?_
        obtain ⟨k51, n52, k53, n54, ek51, en52, hw⟩ := hw
        have hF := hW.free hS hA
        refine va_calli (va_runV (C := R_Wrt) (As := [.int l4]) (rest := [.int l1, .ref (ad o)]) ⟨hx, hb, hml, hown, hT⟩ (k_Wrt_chooseCoding l dC dI cI cB cJ cZ ad NN E tM tC kK kV hNN H.size o l4 k51 n52 x47 fo hw) ⟨callB_of 1 hT (gwt_in w_5_170) rfl rfl rfl (hT _ w_1_8) (hT _ w_5_167) (by decide +kernel) ⟨Nat.le_trans (Nat.le_of_ble_eq_true rfl) hRf, Nat.le_trans (Nat.le_of_ble_eq_true rfl) hRl⟩, hT _ w_5_169, hT _ ws_20⟩ ⟨PVc.blind, va_recv hK hW.1 (ci := 5) (q0 := o) rfl (pic_obj fo.1 fo.2 (by decide)), PVc.at _ hW hK hN hE hS hF⟩ rfl rfl hl.1 rfl (lv_room (Nat.le_of_ble_eq_true rfl)) d_Wrt_putChunk_92 ⟨show cells + k51 ≤ R.cells by omega, show slots + n52 ≤ R.slots by omega⟩) hS (fun q _ h => hF q h) hF (fun r56 x55 t H locs ht hvm hw hB hz1 hk1 hS => ?_)
        obtain ⟨x55, ad, NN⟩ := x55
        obtain ⟨hB, hle, hg⟩ := hB
        try dsimp only at hw hB hle hg
        have hW := Wd.back hB ht hF
        rw [← hg o fo.1] at hl
        rw [← hg o fo.1]
        have fo : o < NN ∧ kcC o = 5 := ⟨Nat.lt_of_lt_of_le fo.1 hle, fo.2⟩
        have hag : NN0 ≤ NN ∧ ∀ o : Nat, o < NN0 → ad o = ad0 o := ⟨Nat.le_trans hag.1 hle, fun o h => (hg o (Nat.lt_of_lt_of_le h hag.1)).trans (hag.2 o h)⟩
        have hNN : 152 ≤ NN := Nat.le_trans hNN hle
        clear hg hle
        obtain ⟨cells, ec⟩ : ∃ z, z = cells + k51 := ⟨_, rfl⟩
        obtain ⟨slots, es⟩ : ∃ z, z = slots + n52 := ⟨_, rfl⟩
        first | rw [← ec, ← es] | rw [Nat.add_zero, Nat.add_zero, ← ec, ← es]
        have hRc : cells + k53 ≤ R.cells := by omega
        have hRs : slots + n54 ≤ R.slots := by omega
        clear ec es hB ht hF hz1 hk1 hvm ek51 en52
        obtain ⟨k57, n58, k59, n60, ek57, en58, hw⟩ := hw
        have hF := hW.free hS hA
        refine va_callv (va_runV (C := R_Wrt) (As := [.int l1, .int r56]) (rest := []) ⟨hx, hb, hml, hown, hT⟩ (k_Wrt_putPage l dC dI cI cB cJ cZ ad NN E tM tC kK kV hNN H.size o l1 r56 k57 n58 x55 fo hw) ⟨callB_of 2 hT (gwt_in w_6_23) rfl rfl rfl (hT _ w_1_8) (hT _ w_6_20) (by decide +kernel) ⟨Nat.le_trans (Nat.le_of_ble_eq_true rfl) hRf, Nat.le_trans (Nat.le_of_ble_eq_true rfl) hRl⟩, hT _ w_6_22, hT _ ws_29⟩ ⟨PVc.blind, va_recv hK hW.1 (ci := 5) (q0 := o) rfl (pic_obj fo.1 fo.2 (by decide)), PVc.at _ hW hK hN hE hS hF⟩ rfl rfl hl.1 rfl (lv_room (Nat.le_of_ble_eq_true rfl)) d_Wrt_putChunk_95 ⟨show cells + k57 ≤ R.cells by omega, show slots + n58 ≤ R.slots by omega⟩) hS (fun q _ h => hF q h) hF (fun  x61 t H locs ht hvm hw hB hz1 hk1 hS => ?_)
        obtain ⟨x61, ad, NN⟩ := x61
        obtain ⟨hB, hle, hg⟩ := hB
        try dsimp only at hw hB hle hg
        have hW := Wd.back hB ht hF
        rw [← hg o fo.1] at hl
        have fo : o < NN ∧ kcC o = 5 := ⟨Nat.lt_of_lt_of_le fo.1 hle, fo.2⟩
        have hag : NN0 ≤ NN ∧ ∀ o : Nat, o < NN0 → ad o = ad0 o := ⟨Nat.le_trans hag.1 hle, fun o h => (hg o (Nat.lt_of_lt_of_le h hag.1)).trans (hag.2 o h)⟩
        have hNN : 152 ≤ NN := Nat.le_trans hNN hle
        clear hg hle
        obtain ⟨cells, ec⟩ : ∃ z, z = cells + k57 := ⟨_, rfl⟩
        obtain ⟨slots, es⟩ : ∃ z, z = slots + n58 := ⟨_, rfl⟩
        first | rw [← ec, ← es] | rw [Nat.add_zero, Nat.add_zero, ← ec, ← es]
        have hRc : cells + k59 ≤ R.cells := by omega
        have hRs : slots + n60 ≤ R.slots := by omega
        clear ec es hB ht hF hz1 hk1 hvm ek57 en58
        refine lv_aload_n hx hb d_Wrt_putChunk_98 rfl (lv_at hl 3 rfl) ?_
        obtain ⟨q62, hq62, hw⟩ := hw
        refine w_getr (q := q62) (k := 0) (t := 5) (C := R_Wrt) (T := F_Wrt) (N := 20) hx hb hT hown hK hW fo.1 fo.2 (by decide) in_Wrt rfl rfl (by decide) rfl fr_Wrt_0 w_2_51 d_Wrt_putChunk_99 hq62 (fun aq62 bq62 => ?_)
        have fq62 : q62 < NN ∧ kcC q62 = 1 := ⟨aq62, bq62⟩
        refine w_geti (k := 2) (t := 1) (C := R_Snk) (T := F_Snk) (N := 7) hx hb hT hown hK hW fq62.1 fq62.2 (by decide) in_Snk rfl rfl (by decide) rfl fr_Snk_2 w_1_49 d_Wrt_putChunk_102 ?_
        refine lv_if_eq (tgt := 110) hx hb d_Wrt_putChunk_105 (by decide) (fun c63 => ?_) (fun c63 => ?_)
        · have hw := hw.1 c63
          refine lv_aload_n hx hb d_Wrt_putChunk_110 rfl (lv_at hl 3 rfl) ?_
          refine w_geti (k := 12) (t := 5) (C := R_Wrt) (T := F_Wrt) (N := 20) hx hb hT hown hK hW fo.1 fo.2 (by decide) in_Wrt rfl rfl (by decide) rfl fr_Wrt_12 w_2_63 d_Wrt_putChunk_111 ?_
          refine lv_if_le (tgt := 143) hx hb d_Wrt_putChunk_114 (by decide) (fun c64 => ?_) (fun c64 => ?_)
          · have hw := hw.1 c64
            exact t_Wrt_putChunk_143 hx hb hml hown hT hK hN hA hRf hRl hE hret hrec49 ad NN cells slots o l1 l2 l3 l4 l5 (l6 + 1) l7 l8 l9 l11 v50 l14 r48 k59 n60 x61 H locs ls hNN hag hRc hRs fo hw hW hS (lv_sub hl [3, 4, 5, 6, 7, 8, 0, 9, 10, 11, 12, 1, 13, 2] rfl)
          · have hw := hw.2 c64
            refine lv_iload hx hb d_Wrt_putChunk_117 (lv_at hl 10 rfl) ?_
            refine lv_if_eq (tgt := 137) hx hb d_Wrt_putChunk_119 (by decide) (fun c65 => ?_) (fun c65 => ?_)
            · have hw := hw.1 c65
              exact t_Wrt_putChunk_137 hx hb hml hown hT hK hN hA hRf hRl hE hret hrec49 ad NN cells slots o l1 l2 l3 l4 l5 (l6 + 1) l7 l8 l9 l11 v50 l14 r48 k59 n60 x61 H locs ls hNN hag hRc hRs fo hw hW hS (lv_sub hl [3, 4, 5, 6, 7, 8, 0, 9, 10, 11, 12, 1, 13, 2] rfl)
            · have hw := hw.2 c65
              refine lv_aload_n hx hb d_Wrt_putChunk_122 rfl (lv_at hl 3 rfl) ?_
              refine lv_iload hx hb d_Wrt_putChunk_123 (lv_at hl 7 rfl) ?_
              refine lv_aload_n hx hb d_Wrt_putChunk_125 rfl (lv_at hl 3 rfl) ?_
              refine w_getj (k := 13) (t := 5) (C := R_Wrt) (T := F_Wrt) (N := 20) hx hb hT hown hK hW fo.1 fo.2 (by decide) in_Wrt rfl rfl (by decide) rfl fr_Wrt_13 w_2_64 d_Wrt_putChunk_126 ?_
              refine lv_lload hx hb d_Wrt_putChunk_129 (lv_at hl 11 rfl) ?_
              have hF := hW.free hS hA
              refine va_calli (va_runV (C := R_Wrt) (As := [.int l4, .long (fJ x61 o 13), .long l9]) (rest := []) ⟨hx, hb, hml, hown, hT⟩ (k_Wrt_compare l dC dI cI cB cJ cZ ad NN E tM tC kK kV hNN H.size o l4 (fJ x61 o 13) l9 x61 fo hw) ⟨callB_of 3 hT (gwt_in w_6_35) rfl rfl rfl (hT _ w_1_8) (hT _ w_6_32) (by decide +kernel) ⟨Nat.le_trans (Nat.le_of_ble_eq_true rfl) hRf, Nat.le_trans (Nat.le_of_ble_eq_true rfl) hRl⟩, hT _ w_6_34, hT _ ws_32⟩ ⟨PVc.blind, va_recv hK hW.1 (ci := 5) (q0 := o) rfl (pic_obj fo.1 fo.2 (by decide)), PVc.at _ hW hK hN hE hS hF⟩ rfl rfl hl.1 rfl (lv_room (Nat.le_of_ble_eq_true rfl)) d_Wrt_putChunk_131 ⟨(Nat.le_trans (Nat.le_add_right _ _) hRc), (Nat.le_trans (Nat.le_add_right _ _) hRs)⟩) hS (fun q _ h => hF q h) hF (fun r67 x66 t H locs ht hvm hw hB hz1 hk1 hS => ?_)
              have hW := Wd.back hB ht hF
              clear hB ht hF hz1 hk1 hvm
              refine lv_if_ge (tgt := 143) hx hb d_Wrt_putChunk_134 (by decide) (fun c68 => ?_) (fun c68 => ?_)
              · have hw := hw.1 c68
                exact t_Wrt_putChunk_143 hx hb hml hown hT hK hN hA hRf hRl hE hret hrec49 ad NN cells slots o l1 l2 l3 l4 l5 (l6 + 1) l7 l8 l9 l11 v50 l14 r48 k59 n60 x66 H locs ls hNN hag hRc hRs fo hw hW hS (lv_sub hl [3, 4, 5, 6, 7, 8, 0, 9, 10, 11, 12, 1, 13, 2] rfl)
              · have hw := hw.2 c68
                exact t_Wrt_putChunk_137 hx hb hml hown hT hK hN hA hRf hRl hE hret hrec49 ad NN cells slots o l1 l2 l3 l4 l5 (l6 + 1) l7 l8 l9 l11 v50 l14 r48 k59 n60 x66 H locs ls hNN hag hRc hRs fo hw hW hS (lv_sub hl [3, 4, 5, 6, 7, 8, 0, 9, 10, 11, 12, 1, 13, 2] rfl)
        · have hw := hw.2 c63
          refine lv_iconst (v := 0) hx hb d_Wrt_putChunk_108 (by decide) ?_
          exact hret 0 ad NN cells slots x61 H locs 109 ls d_Wrt_putChunk_109 rfl hag (Nat.le_trans (Nat.le_add_right _ _) hRc) (Nat.le_trans (Nat.le_add_right _ _) hRs) hw hW hS
      · have hw := hw.2 c49
        refine lv_iconst (v := 0) hx hb d_Wrt_putChunk_75 (by decide) ?_
        exact hret 0 ad NN cells slots x47 H locs 76 ls d_Wrt_putChunk_76 rfl hag (Nat.le_trans (Nat.le_add_right _ _) hRc) (Nat.le_trans (Nat.le_add_right _ _) hRs) hw hW hS
set_option maxHeartbeats 4000000 in
set_option maxRecDepth 100000 in
theorem tl_Wrt_putChunk_49 {p : Program} {l : Launch} {e : Env} {R : Room} {s : State} {m : MethodId} {args : Array Value} {below : List Frame} {meth : Method} {c : Code} {Q : State → Prop} {dC : Nat → ClassId} {dI : Nat → Nat → Nat} {cI cB cJ cZ : ClassId} {A : Nat → Prop} {E : Heap} {tM tC : Nat} {kK kV : Nat → Nat} {ad0 : Nat → Nat} {NN0 : Nat} {post : Int32 → St → Prop} (hx : p.tables.exec = Jvm.exec) (hb : c.code = b_Wrt_putChunk) (hml : c.maxLocals = 16) (hown : s.vm.findClass R_Wrt = some m.cls) (hT : ∀ w ∈ TG, w.before args s = true) (hK : va_K (dC, dI) CL (TY cI cB cJ cZ) s) (hN : NW s) (hA : ∀ q : Nat, s.heap.size ≤ q → A q) (hRf : 8 ≤ R.frames) (hRl : 350 ≤ R.locals) (hE : CE E tM tC kK kV A s) (hret : ∀ (r : Int32) (ad : Nat → Nat) (NN cells slots : Nat) (x : St) (H : Heap) (locs : List Loc) (pc : Nat) (ls : Array Slot), decode b_Wrt_putChunk pc = .ok (.ireturn, 1) → narrow .boolean (.int r) = .int r → (NN0 ≤ NN ∧ ∀ o : Nat, o < NN0 → ad o = ad0 o) → cells ≤ R.cells → slots ≤ R.slots → post r x → Wd dC dI cI cB cJ cZ ad stC kcC NN A x H → va_S A s.heap H locs → W p l e R s m args below meth c H locs cells slots Q (F0 m pc ls [.int r]))  : ∀ n : Nat, ∀ (ad : Nat → Nat) (NN cells slots : Nat) (o : Nat) (l1 : Int32) (l2 : Int32) (l3 : Int32) (l4 : Int32) (l5 : Int32) (l6 : Int32) (l7 : Int32) (l8 : Int32) (l9 : Int64) (l11 : Int64) (l13 : Int32) (l14 : Int32) (kb : Nat) (nb : Nat) (x : St) (H : Heap) (locs : List Loc) (ls : Array Slot), (152 ≤ NN) → (NN0 ≤ NN ∧ ∀ o : Nat, o < NN0 → ad o = ad0 o) → (cells + kb ≤ R.cells) → (slots + nb ≤ R.slots) → (o < NN ∧ kcC o = 5) → wl_Wrt_putChunk_49 post n o l1 l2 l3 l4 l5 l6 l7 l8 l9 l11 l13 l14 kb nb x → Wd dC dI cI cB cJ cZ ad stC kcC NN A x H → va_S A s.heap H locs → lv_has ls 16 [(0, .ref (ad o)), (1, .int l1), (2, .int l2), (3, .int l3), (4, .int l4), (5, .int l5), (6, .int l6), (7, .int l7), (8, .int l8), (9, .long l9), (11, .long l11), (13, .int l13), (14, .int l14)] → W p l e R s m args below meth c H locs cells slots Q (F0 m 49 ls []) := by
  intro n
  induction n with
  | zero => intro ad NN cells slots o l1 l2 l3 l4 l5 l6 l7 l8 l9 l11 l13 l14 kb nb x H locs ls hNN hag hRc hRs fo hw; exact hw.elim
  | succ n ih => intro ad NN cells slots o l1 l2 l3 l4 l5 l6 l7 l8 l9 l11 l13 l14 kb nb x H locs ls hNN hag hRc hRs fo hw hW hS hl; exact t_Wrt_putChunk_49 hx hb hml hown hT hK hN hA hRf hRl hE hret  ih ad NN cells slots o l1 l2 l3 l4 l5 l6 l7 l8 l9 l11 l13 l14 kb nb x H locs ls hNN hag hRc hRs fo hw hW hS hl
set_option maxRecDepth 100000 in
set_option maxHeartbeats 4000000 in
set_option maxRecDepth 100000 in
theorem t_Wrt_putChunk_e {p : Program} {l : Launch} {e : Env} {R : Room} {s : State} {m : MethodId} {args : Array Value} {below : List Frame} {meth : Method} {c : Code} {Q : State → Prop} {dC : Nat → ClassId} {dI : Nat → Nat → Nat} {cI cB cJ cZ : ClassId} {A : Nat → Prop} {E : Heap} {tM tC : Nat} {kK kV : Nat → Nat} {ad0 : Nat → Nat} {NN0 : Nat} {post : Int32 → St → Prop} (hx : p.tables.exec = Jvm.exec) (hb : c.code = b_Wrt_putChunk) (hml : c.maxLocals = 16) (hown : s.vm.findClass R_Wrt = some m.cls) (hT : ∀ w ∈ TG, w.before args s = true) (hK : va_K (dC, dI) CL (TY cI cB cJ cZ) s) (hN : NW s) (hA : ∀ q : Nat, s.heap.size ≤ q → A q) (hRf : 8 ≤ R.frames) (hRl : 350 ≤ R.locals) (hE : CE E tM tC kK kV A s) (hret : ∀ (r : Int32) (ad : Nat → Nat) (NN cells slots : Nat) (x : St) (H : Heap) (locs : List Loc) (pc : Nat) (ls : Array Slot), decode b_Wrt_putChunk pc = .ok (.ireturn, 1) → narrow .boolean (.int r) = .int r → (NN0 ≤ NN ∧ ∀ o : Nat, o < NN0 → ad o = ad0 o) → cells ≤ R.cells → slots ≤ R.slots → post r x → Wd dC dI cI cB cJ cZ ad stC kcC NN A x H → va_S A s.heap H locs → W p l e R s m args below meth c H locs cells slots Q (F0 m pc ls [.int r])) : ∀ (ad : Nat → Nat) (NN cells slots : Nat) (o : Nat) (l1 : Int32) (l2 : Int32) (l3 : Int32) (kb : Nat) (nb : Nat) (x : St) (H : Heap) (locs : List Loc) (ls : Array Slot), (152 ≤ NN) → (NN0 ≤ NN ∧ ∀ o : Nat, o < NN0 → ad o = ad0 o) → (cells + kb ≤ R.cells) → (slots + nb ≤ R.slots) → (o < NN ∧ kcC o = 5) → wp_Wrt_putChunk post o l1 l2 l3 kb nb x → Wd dC dI cI cB cJ cZ ad stC kcC NN A x H → va_S A s.heap H locs → lv_has ls 16 [(0, .ref (ad o)), (1, .int l1), (2, .int l2), (3, .int l3)] → W p l e R s m args below meth c H locs cells slots Q (F0 m 0 ls []) := by
  intro ad NN cells slots o l1 l2 l3 kb nb x H locs ls hNN hag hRc hRs fo hw hW hS hl
  unfold wp_Wrt_putChunk at hw
  refine lv_aload_n hx hb d_Wrt_putChunk_0 rfl (lv_at hl 0 rfl) ?_
  obtain ⟨q69, hq69, hw⟩ := hw
  refine w_getr (q := q69) (k := 5) (t := 5) (C := R_Wrt) (T := F_Wrt) (N := 20) hx hb hT hown hK hW fo.1 fo.2 (by decide) in_Wrt rfl rfl (by decide) rfl fr_Wrt_5 w_2_56 d_Wrt_putChunk_1 hq69 (fun aq69 bq69 => ?_)
  have fq69 : q69 < NN ∧ kcC q69 = 3 := ⟨aq69, bq69⟩
  refine w_getf (q := (stC q69 3)) (k := 3) (t := 3) (C := R_Sch) (T := F_Sch) (N := 13) hx hb hT hown hK hW fq69.1 fq69.2 (by decide) in_Sch rfl rfl (by decide) rfl fr_Sch_3 w_1_146 d_Wrt_putChunk_4 rfl ?_
  refine lv_aload_n hx hb d_Wrt_putChunk_7 rfl (lv_at hl 0 rfl) ?_
  obtain ⟨q70, hq70, hw⟩ := hw
  refine w_getr (q := q70) (k := 5) (t := 5) (C := R_Wrt) (T := F_Wrt) (N := 20) hx hb hT hown hK hW fo.1 fo.2 (by decide) in_Wrt rfl rfl (by decide) rfl fr_Wrt_5 w_2_56 d_Wrt_putChunk_8 hq70 (fun aq70 bq70 => ?_)
  have fq70 : q70 < NN ∧ kcC q70 = 3 := ⟨aq70, bq70⟩
  refine w_getf (q := (stC q70 10)) (k := 10) (t := 3) (C := R_Sch) (T := F_Sch) (N := 13) hx hb hT hown hK hW fq70.1 fq70.2 (by decide) in_Sch rfl rfl (by decide) rfl fr_Sch_10 w_1_182 d_Wrt_putChunk_11 rfl ?_
  refine lv_iload_n hx hb d_Wrt_putChunk_14 rfl (lv_at hl 1 rfl) ?_
  obtain ⟨hi, hw⟩ := hw
  refine w_iald (o := (stC q70 10)) hx hb hK hW (st_ty hNN fq70.1 fq70.2 rfl).1 (st_ty hNN fq70.1 fq70.2 rfl).2 hi d_Wrt_putChunk_15 ?_
  obtain ⟨hi, hw⟩ := hw
  refine w_iald (o := (stC q69 3)) hx hb hK hW (st_ty hNN fq69.1 fq69.2 rfl).1 (st_ty hNN fq69.1 fq69.2 rfl).2 hi d_Wrt_putChunk_16 ?_
  refine lv_topi (fun v71 ev71 => ?_)
  have hw := hw v71 ev71
  refine lv_istore (lv' := [(4, .int v71), (0, .ref (ad o)), (1, .int l1), (2, .int l2), (3, .int l3)]) hx hb d_Wrt_putChunk_17 hl (by decide) rfl (fun ls hl => ?_)
  refine lv_aload_n hx hb d_Wrt_putChunk_19 rfl (lv_at hl 1 rfl) ?_
  obtain ⟨q72, hq72, hw⟩ := hw
  refine w_getr (q := q72) (k := 0) (t := 5) (C := R_Wrt) (T := F_Wrt) (N := 20) hx hb hT hown hK hW fo.1 fo.2 (by decide) in_Wrt rfl rfl (by decide) rfl fr_Wrt_0 w_2_51 d_Wrt_putChunk_20 hq72 (fun aq72 bq72 => ?_)
  have fq72 : q72 < NN ∧ kcC q72 = 1 := ⟨aq72, bq72⟩
  refine w_geti (k := 1) (t := 1) (C := R_Snk) (T := F_Snk) (N := 7) hx hb hT hown hK hW fq72.1 fq72.2 (by decide) in_Snk rfl rfl (by decide) rfl fr_Snk_1 w_1_46 d_Wrt_putChunk_23 ?_
  refine lv_topi (fun v73 ev73 => ?_)
  have hw := hw v73 ev73
  refine lv_istore (lv' := [(5, .int v73), (4, .int v71), (0, .ref (ad o)), (1, .int l1), (2, .int l2), (3, .int l3)]) hx hb d_Wrt_putChunk_26 hl (by decide) rfl (fun ls hl => ?_)
  refine lv_iconst (v := 0) hx hb d_Wrt_putChunk_28 (by decide) ?_
  refine lv_istore (lv' := [(6, .int 0), (5, .int v73), (4, .int v71), (0, .ref (ad o)), (1, .int l1), (2, .int l2), (3, .int l3)]) hx hb d_Wrt_putChunk_29 hl (by decide) rfl (fun ls hl => ?_)
  refine lv_iconst (v := 0) hx hb d_Wrt_putChunk_31 (by decide) ?_
  refine lv_istore (lv' := [(7, .int 0), (6, .int 0), (5, .int v73), (4, .int v71), (0, .ref (ad o)), (1, .int l1), (2, .int l2), (3, .int l3)]) hx hb d_Wrt_putChunk_32 hl (by decide) rfl (fun ls hl => ?_)
  refine lv_iconst (v := 0) hx hb d_Wrt_putChunk_34 (by decide) ?_
  refine lv_istore (lv' := [(8, .int 0), (7, .int 0), (6, .int 0), (5, .int v73), (4, .int v71), (0, .ref (ad o)), (1, .int l1), (2, .int l2), (3, .int l3)]) hx hb d_Wrt_putChunk_35 hl (by decide) rfl (fun ls hl => ?_)
  refine lv_lconst (v := 0) hx hb d_Wrt_putChunk_37 (by decide) ?_
  refine lv_lstore (lv' := [(9, .long 0), (8, .int 0), (7, .int 0), (6, .int 0), (5, .int v73), (4, .int v71), (0, .ref (ad o)), (1, .int l1), (2, .int l2), (3, .int l3)]) hx hb d_Wrt_putChunk_38 hl (by decide) rfl (fun ls hl => ?_)
  refine lv_lconst (v := 0) hx hb d_Wrt_putChunk_40 (by decide) ?_
  refine lv_lstore (lv' := [(11, .long 0), (9, .long 0), (8, .int 0), (7, .int 0), (6, .int 0), (5, .int v73), (4, .int v71), (0, .ref (ad o)), (1, .int l1), (2, .int l2), (3, .int l3)]) hx hb d_Wrt_putChunk_41 hl (by decide) rfl (fun ls hl => ?_)
  refine lv_iload_n hx hb d_Wrt_putChunk_43 rfl (lv_at hl 9 rfl) ?_
  refine lv_istore (lv' := [(13, .int l2), (11, .long 0), (9, .long 0), (8, .int 0), (7, .int 0), (6, .int 0), (5, .int v73), (4, .int v71), (0, .ref (ad o)), (1, .int l1), (2, .int l2), (3, .int l3)]) hx hb d_Wrt_putChunk_44 hl (by decide) rfl (fun ls hl => ?_)
  refine lv_iconst (v := 0) hx hb d_Wrt_putChunk_46 (by decide) ?_
  refine lv_istore (lv' := [(14, .int 0), (13, .int l2), (11, .long 0), (9, .long 0), (8, .int 0), (7, .int 0), (6, .int 0), (5, .int v73), (4, .int v71), (0, .ref (ad o)), (1, .int l1), (2, .int l2), (3, .int l3)]) hx hb d_Wrt_putChunk_47 hl (by decide) rfl (fun ls hl => ?_)
  obtain ⟨n, hw⟩ := hw
  exact tl_Wrt_putChunk_49 hx hb hml hown hT hK hN hA hRf hRl hE hret  n ad NN cells slots o l1 l2 l3 v71 v73 0 0 0 0 0 l2 0 kb nb x H locs ls hNN hag hRc hRs fo hw hW hS (lv_sub hl [9, 10, 11, 12, 8, 7, 6, 5, 4, 3, 2, 1, 0] rfl)
set_option maxHeartbeats 4000000 in
set_option maxRecDepth 100000 in
theorem k_Wrt_putChunk (l : Launch) (dC : Nat → ClassId) (dI : Nat → Nat → Nat) (cI cB cJ cZ : ClassId) (ad : Nat → Nat) (NN : Nat) (E : Heap) (tM tC : Nat) (kK kV : Nat → Nat) (hNN : 152 ≤ NN) (sz : Nat) (o : Nat) (l1 : Int32) (l2 : Int32) (l3 : Int32) (kb : Nat) (nb : Nat) (x : St) (fo : o < NN ∧ kcC o = 5) {post : Int32 → St → Prop} (hw : wp_Wrt_putChunk post o l1 l2 l3 kb nb x) : Met l y_Wrt_putChunk (wsOf y_Wrt_putChunk b_Wrt_putChunk 16 (some (.boolean))) ({ frames := 8, cells := kb, slots := nb, locals := 350 }) (va_Pc [.ref (ad o), .int l1, .int l2, .int l3] (PVc dC dI cI cB cJ cZ ad stC kcC NN E tM tC kK kV sz x)) (va_Qi (fun (r : Int32) (u : St × (Nat → Nat) × Nat) => post r u.1) (fun u t => Wd dC dI cI cB cJ cZ u.2.1 stC kcC u.2.2 (va_A (pic ad stC kcC NN cI cB cJ cZ x) sz) u.1 t.heap ∧ NN ≤ u.2.2 ∧ ∀ o : Nat, o < NN → u.2.1 o = ad o) (va_A (pic ad stC kcC NN cI cB cJ cZ x) sz)) kb nb (va_A (pic ad stC kcC NN cI cB cJ cZ x) sz) := by
  refine Met.ofW (cc := b_Wrt_putChunk) (maxL := 16) (ret := some (.boolean)) (by decide) rfl ?_
  intro p e s m args below meth c s₁ B hml hv
  obtain ⟨rfl, ⟨hsz, hW0, hK, hN⟩, hE⟩ := hv
  have hx := B.exec
  have hb := B.bytes
  have hr := B.returns
  have hts := atoms_spec B.pre
  have hT : ∀ w ∈ TG, w.before _ s = true := fun w h => hts w (List.mem_cons_of_mem _ h)
  have hown : s.vm.findClass R_Wrt = some m.cls := findClass_of_methodNamed B.named
  have hlocks := B.notSynchronized
  subst hsz
  have hW : Wd dC dI cI cB cJ cZ ad stC kcC NN (va_A (pic ad stC kcC NN cI cB cJ cZ x) s.heap.size) x s.heap := ⟨hW0.1, hW0.2.1.self (sz := s.heap.size), hW0.2.2⟩
  generalize hAe : va_A (pic ad stC kcC NN cI cB cJ cZ x) s.heap.size = A at hW hE ⊢
  have hA : ∀ q : Nat, s.heap.size ≤ q → A q := fun q h => by rw [← hAe]; exact Or.inr h
  have hS : va_S A s.heap s.heap [] := va_S.rf
  have hl := lv_entry ([.ref (ad o), .int l1, .int l2, .int l3]) (n := 16) (Nat.le_of_ble_eq_true rfl)
  rw [lg_entry_eq]
  generalize (lg_sl ([.ref (ad o), .int l1, .int l2, .int l3]) ++ List.replicate (16 - (lg_sl ([.ref (ad o), .int l1, .int l2, .int l3])).length) Slot.unset).toArray = ls at hl ⊢
  have hl : lv_has ls 16 [(0, .ref (ad o)), (1, .int l1), (2, .int l2), (3, .int l3)] := hl
  exact t_Wrt_putChunk_e hx hb hml hown hT hK hN hA (Nat.le_refl 8) (Nat.le_refl 350) hE (fun r ad1 NN1 cells slots x1 H locs pc ls hd hz hag hc hs hp hW hS => W.widen (k := kb) (n := nb) hc hs (W.zret (v := r) (ty := .boolean) hx hb hr hz (fun t ht hM => ⟨⟨r, (x1, ad1, NN1), rfl, hp, Wd.back hW ht.symm (fun _ z => z), hag.1, hag.2⟩, hS.F ht⟩) hS.2.2 hd hlocks))  ad NN 0 0 o l1 l2 l3 kb nb x _ _ ls hNN ⟨Nat.le_refl _, fun _ _ => rfl⟩ (Nat.le_of_eq (Nat.zero_add kb)) (Nat.le_of_eq (Nat.zero_add nb)) fo hw hW hS hl
set_option maxRecDepth 100000 in
set_option maxHeartbeats 4000000 in
set_option maxRecDepth 100000 in
theorem t_Wrt_finish_101 {p : Program} {l : Launch} {e : Env} {R : Room} {s : State} {m : MethodId} {args : Array Value} {below : List Frame} {meth : Method} {c : Code} {Q : State → Prop} {dC : Nat → ClassId} {dI : Nat → Nat → Nat} {cI cB cJ cZ : ClassId} {A : Nat → Prop} {E : Heap} {tM tC : Nat} {kK kV : Nat → Nat} {ad0 : Nat → Nat} {NN0 : Nat} {post : Int32 → St → Prop} (hx : p.tables.exec = Jvm.exec) (hb : c.code = b_Wrt_finish) (hml : c.maxLocals = 1) (hown : s.vm.findClass R_Wrt = some m.cls) (hT : ∀ w ∈ TG, w.before args s = true) (hK : va_K (dC, dI) CL (TY cI cB cJ cZ) s) (hN : NW s) (hA : ∀ q : Nat, s.heap.size ≤ q → A q) (hRf : 5 ≤ R.frames) (hRl : 266 ≤ R.locals) (hE : CE E tM tC kK kV A s) (hret : ∀ (r : Int32) (ad : Nat → Nat) (NN cells slots : Nat) (x : St) (H : Heap) (locs : List Loc) (pc : Nat) (ls : Array Slot), decode b_Wrt_finish pc = .ok (.ireturn, 1) → narrow .boolean (.int r) = .int r → (NN0 ≤ NN ∧ ∀ o : Nat, o < NN0 → ad o = ad0 o) → cells ≤ R.cells → slots ≤ R.slots → post r x → Wd dC dI cI cB cJ cZ ad stC kcC NN A x H → va_S A s.heap H locs → W p l e R s m args below meth c H locs cells slots Q (F0 m pc ls [.int r]))  : ∀ (ad : Nat → Nat) (NN cells slots : Nat) (o : Nat) (kb : Nat) (nb : Nat) (x : St) (H : Heap) (locs : List Loc) (ls : Array Slot), (152 ≤ NN) → (NN0 ≤ NN ∧ ∀ o : Nat, o < NN0 → ad o = ad0 o) → (cells + kb ≤ R.cells) → (slots + nb ≤ R.slots) → (o < NN ∧ kcC o = 5) → j_Wrt_finish_101 post o kb nb x → Wd dC dI cI cB cJ cZ ad stC kcC NN A x H → va_S A s.heap H locs → lv_has ls 1 [(0, .ref (ad o))] → W p l e R s m args below meth c H locs cells slots Q (F0 m 101 ls []) := by
  intro ad NN cells slots o kb nb x H locs ls hNN hag hRc hRs fo hw hW hS hl
  unfold j_Wrt_finish_101 at hw
  refine lv_iconst (v := 0) hx hb d_Wrt_finish_101 (by decide) ?_
  exact hret 0 ad NN cells slots x H locs 102 ls d_Wrt_finish_102 rfl hag (Nat.le_trans (Nat.le_add_right _ _) hRc) (Nat.le_trans (Nat.le_add_right _ _) hRs) hw hW hS
set_option maxRecDepth 100000 in
set_option maxHeartbeats 4000000 in
set_option maxRecDepth 100000 in
theorem t_Wrt_finish_e {p : Program} {l : Launch} {e : Env} {R : Room} {s : State} {m : MethodId} {args : Array Value} {below : List Frame} {meth : Method} {c : Code} {Q : State → Prop} {dC : Nat → ClassId} {dI : Nat → Nat → Nat} {cI cB cJ cZ : ClassId} {A : Nat → Prop} {E : Heap} {tM tC : Nat} {kK kV : Nat → Nat} {ad0 : Nat → Nat} {NN0 : Nat} {post : Int32 → St → Prop} (hx : p.tables.exec = Jvm.exec) (hb : c.code = b_Wrt_finish) (hml : c.maxLocals = 1) (hown : s.vm.findClass R_Wrt = some m.cls) (hT : ∀ w ∈ TG, w.before args s = true) (hK : va_K (dC, dI) CL (TY cI cB cJ cZ) s) (hN : NW s) (hA : ∀ q : Nat, s.heap.size ≤ q → A q) (hRf : 5 ≤ R.frames) (hRl : 266 ≤ R.locals) (hE : CE E tM tC kK kV A s) (hret : ∀ (r : Int32) (ad : Nat → Nat) (NN cells slots : Nat) (x : St) (H : Heap) (locs : List Loc) (pc : Nat) (ls : Array Slot), decode b_Wrt_finish pc = .ok (.ireturn, 1) → narrow .boolean (.int r) = .int r → (NN0 ≤ NN ∧ ∀ o : Nat, o < NN0 → ad o = ad0 o) → cells ≤ R.cells → slots ≤ R.slots → post r x → Wd dC dI cI cB cJ cZ ad stC kcC NN A x H → va_S A s.heap H locs → W p l e R s m args below meth c H locs cells slots Q (F0 m pc ls [.int r])) : ∀ (ad : Nat → Nat) (NN cells slots : Nat) (o : Nat) (kb : Nat) (nb : Nat) (x : St) (H : Heap) (locs : List Loc) (ls : Array Slot), (152 ≤ NN) → (NN0 ≤ NN ∧ ∀ o : Nat, o < NN0 → ad o = ad0 o) → (cells + kb ≤ R.cells) → (slots + nb ≤ R.slots) → (o < NN ∧ kcC o = 5) → wp_Wrt_finish post o kb nb x → Wd dC dI cI cB cJ cZ ad stC kcC NN A x H → va_S A s.heap H locs → lv_has ls 1 [(0, .ref (ad o))] → W p l e R s m args below meth c H locs cells slots Q (F0 m 0 ls []) := by
  intro ad NN cells slots o kb nb x H locs ls hNN hag hRc hRs fo hw hW hS hl
  unfold wp_Wrt_finish at hw
  refine lv_aload_n hx hb d_Wrt_finish_0 rfl (lv_at hl 0 rfl) ?_
  obtain ⟨q1, hq1, hw⟩ := hw
  refine w_getr (q := q1) (k := 0) (t := 5) (C := R_Wrt) (T := F_Wrt) (N := 20) hx hb hT hown hK hW fo.1 fo.2 (by decide) in_Wrt rfl rfl (by decide) rfl fr_Wrt_0 w_2_51 d_Wrt_finish_1 hq1 (fun aq1 bq1 => ?_)
  have fq1 : q1 < NN ∧ kcC q1 = 1 := ⟨aq1, bq1⟩
  refine lv_aload_n hx hb d_Wrt_finish_4 rfl (lv_at hl 0 rfl) ?_
  refine w_getf (q := (stC o 1)) (k := 1) (t := 5) (C := R_Wrt) (T := F_Wrt) (N := 20) hx hb hT hown hK hW fo.1 fo.2 (by decide) in_Wrt rfl rfl (by decide) rfl fr_Wrt_1 w_2_52 d_Wrt_finish_5 rfl ?_
  obtain ⟨q2, hq2, hw⟩ := hw
  refine w_getr (q := q2) (k := 0) (t := 1) (C := R_Snk) (T := F_Snk) (N := 7) hx hb hT hown hK hW (st_ty hNN fo.1 fo.2 rfl).1 (st_ty hNN fo.1 fo.2 rfl).2 (by decide) in_Snk rfl rfl (by decide) rfl fr_Snk_0 w_1_41 d_Wrt_finish_8 hq2 (fun aq2 bq2 => ?_)
  have fq2 : q2 < NN ∧ kcC q2 = 21 := ⟨aq2, bq2⟩
  refine lv_iconst (v := 0) hx hb d_Wrt_finish_11 (by decide) ?_
  refine lv_aload_n hx hb d_Wrt_finish_12 rfl (lv_at hl 0 rfl) ?_
  refine w_getf (q := (stC o 1)) (k := 1) (t := 5) (C := R_Wrt) (T := F_Wrt) (N := 20) hx hb hT hown hK hW fo.1 fo.2 (by decide) in_Wrt rfl rfl (by decide) rfl fr_Wrt_1 w_2_52 d_Wrt_finish_13 rfl ?_
  refine w_geti (k := 1) (t := 1) (C := R_Snk) (T := F_Snk) (N := 7) hx hb hT hown hK hW (st_ty hNN fo.1 fo.2 rfl).1 (st_ty hNN fo.1 fo.2 rfl).2 (by decide) in_Snk rfl rfl (by decide) rfl fr_Snk_1 w_1_46 d_Wrt_finish_16 ?_
  obtain ⟨k3, n4, k5, n6, ek3, en4, hw⟩ := hw
  have hF := hW.free hS hA
  refine va_callv (va_runV (C := R_Snk) (As := [.ref (ad q2), .int 0, .int (fI x (stC o 1) 1)]) (rest := []) ⟨hx, hb, hml, hown, hT⟩ (k_Snk_putAll l dC dI cI cB cJ cZ ad NN E tM tC kK kV hNN H.size q1 q2 0 (fI x (stC o 1) 1) k3 n4 x fq1 fq2 hw) ⟨callB_of 3 hT (gwt_in w_5_138) rfl rfl rfl (hT _ w_1_2) (hT _ w_5_135) (by decide +kernel) ⟨Nat.le_trans (Nat.le_of_ble_eq_true rfl) hRf, Nat.le_trans (Nat.le_of_ble_eq_true rfl) hRl⟩, hT _ w_5_136, hT _ w_5_137⟩ ⟨PVc.blind, va_recv hK hW.1 (ci := 1) (q0 := q1) rfl (pic_obj fq1.1 fq1.2 (by decide)), PVc.at _ hW hK hN hE hS hF⟩ rfl rfl hl.1 rfl (lv_room (Nat.le_of_ble_eq_true rfl)) d_Wrt_finish_19 ⟨show cells + k3 ≤ R.cells by omega, show slots + n4 ≤ R.slots by omega⟩) hS (fun q _ h => hF q h) hF (fun  x7 t H locs ht hvm hw hB hz1 hk1 hS => ?_)
  obtain ⟨x7, ad, NN⟩ := x7
  obtain ⟨hB, hle, hg⟩ := hB
  try dsimp only at hw hB hle hg
  have hW := Wd.back hB ht hF
  rw [← hg o fo.1] at hl
  have fo : o < NN ∧ kcC o = 5 := ⟨Nat.lt_of_lt_of_le fo.1 hle, fo.2⟩
  have fq1 : q1 < NN ∧ kcC q1 = 1 := ⟨Nat.lt_of_lt_of_le fq1.1 hle, fq1.2⟩
  have fq2 : q2 < NN ∧ kcC q2 = 21 := ⟨Nat.lt_of_lt_of_le fq2.1 hle, fq2.2⟩
  have hag : NN0 ≤ NN ∧ ∀ o : Nat, o < NN0 → ad o = ad0 o := ⟨Nat.le_trans hag.1 hle, fun o h => (hg o (Nat.lt_of_lt_of_le h hag.1)).trans (hag.2 o h)⟩
  have hNN : 152 ≤ NN := Nat.le_trans hNN hle
  clear hg hle
  obtain ⟨cells, ec⟩ : ∃ z, z = cells + k3 := ⟨_, rfl⟩
  obtain ⟨slots, es⟩ : ∃ z, z = slots + n4 := ⟨_, rfl⟩
  first | rw [← ec, ← es] | rw [Nat.add_zero, Nat.add_zero, ← ec, ← es]
  have hRc : cells + k5 ≤ R.cells := by omega
  have hRs : slots + n6 ≤ R.slots := by omega
  clear ec es hB ht hF hz1 hk1 hvm ek3 en4
  refine lv_aload_n hx hb d_Wrt_finish_22 rfl (lv_at hl 0 rfl) ?_
  obtain ⟨q8, hq8, hw⟩ := hw
  refine w_getr (q := q8) (k := 0) (t := 5) (C := R_Wrt) (T := F_Wrt) (N := 20) hx hb hT hown hK hW fo.1 fo.2 (by decide) in_Wrt rfl rfl (by decide) rfl fr_Wrt_0 w_2_51 d_Wrt_finish_23 hq8 (fun aq8 bq8 => ?_)
  have fq8 : q8 < NN ∧ kcC q8 = 1 := ⟨aq8, bq8⟩
  refine lv_aload_n hx hb d_Wrt_finish_26 rfl (lv_at hl 0 rfl) ?_
  refine w_getf (q := (stC o 1)) (k := 1) (t := 5) (C := R_Wrt) (T := F_Wrt) (N := 20) hx hb hT hown hK hW fo.1 fo.2 (by decide) in_Wrt rfl rfl (by decide) rfl fr_Wrt_1 w_2_52 d_Wrt_finish_27 rfl ?_
  refine w_geti (k := 1) (t := 1) (C := R_Snk) (T := F_Snk) (N := 7) hx hb hT hown hK hW (st_ty hNN fo.1 fo.2 rfl).1 (st_ty hNN fo.1 fo.2 rfl).2 (by decide) in_Snk rfl rfl (by decide) rfl fr_Snk_1 w_1_46 d_Wrt_finish_30 ?_
  refine lv_i2l hx hb d_Wrt_finish_33 rfl ?_
  refine lv_iconst (v := 4) hx hb d_Wrt_finish_34 (by decide) ?_
  obtain ⟨k9, n10, k11, n12, ek9, en10, hw⟩ := hw
  have hF := hW.free hS hA
  refine va_callv (va_runV (C := R_Snk) (As := [.long ((fI x7 (stC o 1) 1) : Int32).toInt64, .int 4]) (rest := []) ⟨hx, hb, hml, hown, hT⟩ (k_Snk_putFixed l dC dI cI cB cJ cZ ad NN E tM tC kK kV hNN H.size q8 ((fI x7 (stC o 1) 1) : Int32).toInt64 4 k9 n10 x7 fq8 hw) ⟨callB_of 2 hT (gwt_in w_5_188) rfl rfl rfl (hT _ w_1_2) (hT _ w_5_185) (by decide +kernel) ⟨Nat.le_trans (Nat.le_of_ble_eq_true rfl) hRf, Nat.le_trans (Nat.le_of_ble_eq_true rfl) hRl⟩, hT _ w_5_186, hT _ w_5_187⟩ ⟨PVc.blind, va_recv hK hW.1 (ci := 1) (q0 := q8) rfl (pic_obj fq8.1 fq8.2 (by decide)), PVc.at _ hW hK hN hE hS hF⟩ rfl rfl hl.1 rfl (lv_room (Nat.le_of_ble_eq_true rfl)) d_Wrt_finish_35 ⟨show cells + k9 ≤ R.cells by omega, show slots + n10 ≤ R.slots by omega⟩) hS (fun q _ h => hF q h) hF (fun  x13 t H locs ht hvm hw hB hz1 hk1 hS => ?_)
  obtain ⟨x13, ad, NN⟩ := x13
  obtain ⟨hB, hle, hg⟩ := hB
  try dsimp only at hw hB hle hg
  have hW := Wd.back hB ht hF
  rw [← hg o fo.1] at hl
  have fo : o < NN ∧ kcC o = 5 := ⟨Nat.lt_of_lt_of_le fo.1 hle, fo.2⟩
  have fq1 : q1 < NN ∧ kcC q1 = 1 := ⟨Nat.lt_of_lt_of_le fq1.1 hle, fq1.2⟩
  have fq2 : q2 < NN ∧ kcC q2 = 21 := ⟨Nat.lt_of_lt_of_le fq2.1 hle, fq2.2⟩
  have fq8 : q8 < NN ∧ kcC q8 = 1 := ⟨Nat.lt_of_lt_of_le fq8.1 hle, fq8.2⟩
  have hag : NN0 ≤ NN ∧ ∀ o : Nat, o < NN0 → ad o = ad0 o := ⟨Nat.le_trans hag.1 hle, fun o h => (hg o (Nat.lt_of_lt_of_le h hag.1)).trans (hag.2 o h)⟩
  have hNN : 152 ≤ NN := Nat.le_trans hNN hle
  clear hg hle
  obtain ⟨cells, ec⟩ : ∃ z, z = cells + k9 := ⟨_, rfl⟩
  obtain ⟨slots, es⟩ : ∃ z, z = slots + n10 := ⟨_, rfl⟩
  first | rw [← ec, ← es] | rw [Nat.add_zero, Nat.add_zero, ← ec, ← es]
  have hRc : cells + k11 ≤ R.cells := by omega
  have hRs : slots + n12 ≤ R.slots := by omega
  clear ec es hB ht hF hz1 hk1 hvm ek9 en10
  refine lv_aload_n hx hb d_Wrt_finish_38 rfl (lv_at hl 0 rfl) ?_
  obtain ⟨q14, hq14, hw⟩ := hw
  refine w_getr (q := q14) (k := 0) (t := 5) (C := R_Wrt) (T := F_Wrt) (N := 20) hx hb hT hown hK hW fo.1 fo.2 (by decide) in_Wrt rfl rfl (by decide) rfl fr_Wrt_0 w_2_51 d_Wrt_finish_39 hq14 (fun aq14 bq14 => ?_)
  have fq14 : q14 < NN ∧ kcC q14 = 1 := ⟨aq14, bq14⟩
  refine lv_aload_n hx hb d_Wrt_finish_42 rfl (lv_at hl 0 rfl) ?_
  refine w_getf (q := (stC o 1)) (k := 1) (t := 5) (C := R_Wrt) (T := F_Wrt) (N := 20) hx hb hT hown hK hW fo.1 fo.2 (by decide) in_Wrt rfl rfl (by decide) rfl fr_Wrt_1 w_2_52 d_Wrt_finish_43 rfl ?_
  obtain ⟨q15, hq15, hw⟩ := hw
  refine w_getr (q := q15) (k := 0) (t := 1) (C := R_Snk) (T := F_Snk) (N := 7) hx hb hT hown hK hW (st_ty hNN fo.1 fo.2 rfl).1 (st_ty hNN fo.1 fo.2 rfl).2 (by decide) in_Snk rfl rfl (by decide) rfl fr_Snk_0 w_1_41 d_Wrt_finish_46 hq15 (fun aq15 bq15 => ?_)
  have fq15 : q15 < NN ∧ kcC q15 = 21 := ⟨aq15, bq15⟩
  refine lv_iconst (v := 0) hx hb d_Wrt_finish_49 (by decide) ?_
  refine lv_aload_n hx hb d_Wrt_finish_50 rfl (lv_at hl 0 rfl) ?_
  refine w_getf (q := (stC o 1)) (k := 1) (t := 5) (C := R_Wrt) (T := F_Wrt) (N := 20) hx hb hT hown hK hW fo.1 fo.2 (by decide) in_Wrt rfl rfl (by decide) rfl fr_Wrt_1 w_2_52 d_Wrt_finish_51 rfl ?_
  refine w_geti (k := 1) (t := 1) (C := R_Snk) (T := F_Snk) (N := 7) hx hb hT hown hK hW (st_ty hNN fo.1 fo.2 rfl).1 (st_ty hNN fo.1 fo.2 rfl).2 (by decide) in_Snk rfl rfl (by decide) rfl fr_Snk_1 w_1_46 d_Wrt_finish_54 ?_
  have hF := hW.free hS hA
  refine va_calli (va_runSN (As := [.ref (ad q15), .int 0, .int (fI x13 (stC o 1) 1)]) (rest := [.ref (ad q14)]) ⟨hx, hb, hml, hown, hT⟩ (k_V_checkOf l dC dI cI cB cJ cZ ad NN E tM tC kK kV hNN H.size q15 0 (fI x13 (stC o 1) 1) x13 fq15 hw) ⟨va_cnB 3 hT (gwt_in w_6_43) rfl rfl rfl (hN _ wn_6_41 rfl) (hT _ w_1_1) (by decide +kernel) ⟨Nat.le_trans (Nat.le_of_ble_eq_true rfl) hRf, Nat.le_trans (Nat.le_of_ble_eq_true rfl) hRl⟩, hT _ w_6_42, trivial⟩ ⟨PVc.blind, PVc.at _ hW hK hN hE hS hF⟩ rfl rfl hl.1 rfl (lv_room (Nat.le_of_ble_eq_true rfl)) d_Wrt_finish_57 ⟨(Nat.le_trans (Nat.le_add_right _ _) hRc), (Nat.le_trans (Nat.le_add_right _ _) hRs)⟩) hS (fun q _ h => hF q h) hF (fun r17 x16 t H locs ht hvm hw hB hz1 hk1 hS => ?_)
  have hW := Wd.back hB ht hF
  clear hB ht hF hz1 hk1 hvm
  refine lv_i2l hx hb d_Wrt_finish_60 rfl ?_
  refine lv_iconst (v := 4) hx hb d_Wrt_finish_61 (by decide) ?_
  obtain ⟨k18, n19, k20, n21, ek18, en19, hw⟩ := hw
  have hF := hW.free hS hA
  refine va_callv (va_runV (C := R_Snk) (As := [.long (r17 : Int32).toInt64, .int 4]) (rest := []) ⟨hx, hb, hml, hown, hT⟩ (k_Snk_putFixed l dC dI cI cB cJ cZ ad NN E tM tC kK kV hNN H.size q14 (r17 : Int32).toInt64 4 k18 n19 x16 fq14 hw) ⟨callB_of 2 hT (gwt_in w_5_188) rfl rfl rfl (hT _ w_1_2) (hT _ w_5_185) (by decide +kernel) ⟨Nat.le_trans (Nat.le_of_ble_eq_true rfl) hRf, Nat.le_trans (Nat.le_of_ble_eq_true rfl) hRl⟩, hT _ w_5_186, hT _ w_5_187⟩ ⟨PVc.blind, va_recv hK hW.1 (ci := 1) (q0 := q14) rfl (pic_obj fq14.1 fq14.2 (by decide)), PVc.at _ hW hK hN hE hS hF⟩ rfl rfl hl.1 rfl (lv_room (Nat.le_of_ble_eq_true rfl)) d_Wrt_finish_62 ⟨show cells + k18 ≤ R.cells by omega, show slots + n19 ≤ R.slots by omega⟩) hS (fun q _ h => hF q h) hF (fun  x22 t H locs ht hvm hw hB hz1 hk1 hS => ?_)
  obtain ⟨x22, ad, NN⟩ := x22
  obtain ⟨hB, hle, hg⟩ := hB
  try dsimp only at hw hB hle hg
  have hW := Wd.back hB ht hF
  rw [← hg o fo.1] at hl
  have fo : o < NN ∧ kcC o = 5 := ⟨Nat.lt_of_lt_of_le fo.1 hle, fo.2⟩
  have fq1 : q1 < NN ∧ kcC q1 = 1 := ⟨Nat.lt_of_lt_of_le fq1.1 hle, fq1.2⟩
  have fq14 : q14 < NN ∧ kcC q14 = 1 := ⟨Nat.lt_of_lt_of_le fq14.1 hle, fq14.2⟩
  have fq15 : q15 < NN ∧ kcC q15 = 21 := ⟨Nat.lt_of_lt_of_le fq15.1 hle, fq15.2⟩
  have fq2 : q2 < NN ∧ kcC q2 = 21 := ⟨Nat.lt_of_lt_of_le fq2.1 hle, fq2.2⟩
  have fq8 : q8 < NN ∧ kcC q8 = 1 := ⟨Nat.lt_of_lt_of_le fq8.1 hle, fq8.2⟩
  have hag : NN0 ≤ NN ∧ ∀ o : Nat, o < NN0 → ad o = ad0 o := ⟨Nat.le_trans hag.1 hle, fun o h => (hg o (Nat.lt_of_lt_of_le h hag.1)).trans (hag.2 o h)⟩
  have hNN : 152 ≤ NN := Nat.le_trans hNN hle
  clear hg hle
  obtain ⟨cells, ec⟩ : ∃ z, z = cells + k18 := ⟨_, rfl⟩
  obtain ⟨slots, es⟩ : ∃ z, z = slots + n19 := ⟨_, rfl⟩
  first | rw [← ec, ← es] | rw [Nat.add_zero, Nat.add_zero, ← ec, ← es]
  have hRc : cells + k20 ≤ R.cells := by omega
  have hRs : slots + n21 ≤ R.slots := by omega
  clear ec es hB ht hF hz1 hk1 hvm ek18 en19
  refine lv_aload_n hx hb d_Wrt_finish_65 rfl (lv_at hl 0 rfl) ?_
  obtain ⟨q23, hq23, hw⟩ := hw
  refine w_getr (q := q23) (k := 0) (t := 5) (C := R_Wrt) (T := F_Wrt) (N := 20) hx hb hT hown hK hW fo.1 fo.2 (by decide) in_Wrt rfl rfl (by decide) rfl fr_Wrt_0 w_2_51 d_Wrt_finish_66 hq23 (fun aq23 bq23 => ?_)
  have fq23 : q23 < NN ∧ kcC q23 = 1 := ⟨aq23, bq23⟩
  refine va_getsN hx hb hE.zM hS hown (va_Nw.use rfl (hN _ wn_5_133 rfl)) (fun _ h => h) d_Wrt_finish_69 ?_
  refine lv_iconst (v := 0) hx hb d_Wrt_finish_72 (by decide) ?_
  refine lv_iconst (v := 4) hx hb d_Wrt_finish_73 (by decide) ?_
  obtain ⟨k24, n25, k26, n27, ek24, en25, hw⟩ := hw
  have hF := hW.free hS hA
  refine va_callv (va_runV (C := R_Snk) (As := [.ref tM, .int 0, .int 4]) (rest := []) ⟨hx, hb, hml, hown, hT⟩ (k_Snk_putAllT l dC dI cI cB cJ cZ ad NN E tM tC kK kV hNN H.size q23 0 4 k24 n25 x22 fq23 hw) ⟨callB_of 3 hT (gwt_in w_5_138) rfl rfl rfl (hT _ w_1_2) (hT _ w_5_135) (by decide +kernel) ⟨Nat.le_trans (Nat.le_of_ble_eq_true rfl) hRf, Nat.le_trans (Nat.le_of_ble_eq_true rfl) hRl⟩, hT _ w_5_136, hT _ w_5_137⟩ ⟨PVc.blind, va_recv hK hW.1 (ci := 1) (q0 := q23) rfl (pic_obj fq23.1 fq23.2 (by decide)), PVc.at _ hW hK hN hE hS hF⟩ rfl rfl hl.1 rfl (lv_room (Nat.le_of_ble_eq_true rfl)) d_Wrt_finish_74 ⟨show cells + k24 ≤ R.cells by omega, show slots + n25 ≤ R.slots by omega⟩) hS (fun q _ h => hF q h) hF (fun  x28 t H locs ht hvm hw hB hz1 hk1 hS => ?_)
  obtain ⟨x28, ad, NN⟩ := x28
  obtain ⟨hB, hle, hg⟩ := hB
  try dsimp only at hw hB hle hg
  have hW := Wd.back hB ht hF
  rw [← hg o fo.1] at hl
  have fo : o < NN ∧ kcC o = 5 := ⟨Nat.lt_of_lt_of_le fo.1 hle, fo.2⟩
  have fq1 : q1 < NN ∧ kcC q1 = 1 := ⟨Nat.lt_of_lt_of_le fq1.1 hle, fq1.2⟩
  have fq14 : q14 < NN ∧ kcC q14 = 1 := ⟨Nat.lt_of_lt_of_le fq14.1 hle, fq14.2⟩
  have fq15 : q15 < NN ∧ kcC q15 = 21 := ⟨Nat.lt_of_lt_of_le fq15.1 hle, fq15.2⟩
  have fq2 : q2 < NN ∧ kcC q2 = 21 := ⟨Nat.lt_of_lt_of_le fq2.1 hle, fq2.2⟩
  have fq23 : q23 < NN ∧ kcC q23 = 1 := ⟨Nat.lt_of_lt_of_le fq23.1 hle, fq23.2⟩
  have fq8 : q8 < NN ∧ kcC q8 = 1 := ⟨Nat.lt_of_lt_of_le fq8.1 hle, fq8.2⟩
  have hag : NN0 ≤ NN ∧ ∀ o : Nat, o < NN0 → ad o = ad0 o := ⟨Nat.le_trans hag.1 hle, fun o h => (hg o (Nat.lt_of_lt_of_le h hag.1)).trans (hag.2 o h)⟩
  have hNN : 152 ≤ NN := Nat.le_trans hNN hle
  clear hg hle
  obtain ⟨cells, ec⟩ : ∃ z, z = cells + k24 := ⟨_, rfl⟩
  obtain ⟨slots, es⟩ : ∃ z, z = slots + n25 := ⟨_, rfl⟩
  first | rw [← ec, ← es] | rw [Nat.add_zero, Nat.add_zero, ← ec, ← es]
  have hRc : cells + k26 ≤ R.cells := by omega
  have hRs : slots + n27 ≤ R.slots := by omega
  clear ec es hB ht hF hz1 hk1 hvm ek24 en25
  refine lv_aload_n hx hb d_Wrt_finish_77 rfl (lv_at hl 0 rfl) ?_
  obtain ⟨q29, hq29, hw⟩ := hw
  refine w_getr (q := q29) (k := 0) (t := 5) (C := R_Wrt) (T := F_Wrt) (N := 20) hx hb hT hown hK hW fo.1 fo.2 (by decide) in_Wrt rfl rfl (by decide) rfl fr_Wrt_0 w_2_51 d_Wrt_finish_78 hq29 (fun aq29 bq29 => ?_)
  have fq29 : q29 < NN ∧ kcC q29 = 1 := ⟨aq29, bq29⟩
  refine w_geti (k := 2) (t := 1) (C := R_Snk) (T := F_Snk) (N := 7) hx hb hT hown hK hW fq29.1 fq29.2 (by decide) in_Snk rfl rfl (by decide) rfl fr_Snk_2 w_1_49 d_Wrt_finish_81 ?_
  refine lv_if_ne (tgt := 101) hx hb d_Wrt_finish_84 (by decide) (fun c30 => ?_) (fun c30 => ?_)
  · have hw := hw.1 c30
    exact t_Wrt_finish_101 hx hb hml hown hT hK hN hA hRf hRl hE hret  ad NN cells slots o k26 n27 x28 H locs ls hNN hag hRc hRs fo hw hW hS (lv_sub hl [0] rfl)
  · have hw := hw.2 c30
    refine lv_aload_n hx hb d_Wrt_finish_87 rfl (lv_at hl 0 rfl) ?_
    refine w_getf (q := (stC o 1)) (k := 1) (t := 5) (C := R_Wrt) (T := F_Wrt) (N := 20) hx hb hT hown hK hW fo.1 fo.2 (by decide) in_Wrt rfl rfl (by decide) rfl fr_Wrt_1 w_2_52 d_Wrt_finish_88 rfl ?_
    refine w_geti (k := 2) (t := 1) (C := R_Snk) (T := F_Snk) (N := 7) hx hb hT hown hK hW (st_ty hNN fo.1 fo.2 rfl).1 (st_ty hNN fo.1 fo.2 rfl).2 (by decide) in_Snk rfl rfl (by decide) rfl fr_Snk_2 w_1_49 d_Wrt_finish_91 ?_
    refine lv_if_ne (tgt := 101) hx hb d_Wrt_finish_94 (by decide) (fun c31 => ?_) (fun c31 => ?_)
    · have hw := hw.1 c31
      exact t_Wrt_finish_101 hx hb hml hown hT hK hN hA hRf hRl hE hret  ad NN cells slots o k26 n27 x28 H locs ls hNN hag hRc hRs fo hw hW hS (lv_sub hl [0] rfl)
    · have hw := hw.2 c31
      refine lv_iconst (v := 1) hx hb d_Wrt_finish_97 (by decide) ?_
      refine lv_goto (tgt := 102) hx hb d_Wrt_finish_98 (by decide) ?_
      exact hret 1 ad NN cells slots x28 H locs 102 ls d_Wrt_finish_102 rfl hag (Nat.le_trans (Nat.le_add_right _ _) hRc) (Nat.le_trans (Nat.le_add_right _ _) hRs) hw hW hS
set_option maxHeartbeats 4000000 in
set_option maxRecDepth 100000 in
theorem k_Wrt_finish (l : Launch) (dC : Nat → ClassId) (dI : Nat → Nat → Nat) (cI cB cJ cZ : ClassId) (ad : Nat → Nat) (NN : Nat) (E : Heap) (tM tC : Nat) (kK kV : Nat → Nat) (hNN : 152 ≤ NN) (sz : Nat) (o : Nat) (kb : Nat) (nb : Nat) (x : St) (fo : o < NN ∧ kcC o = 5) {post : Int32 → St → Prop} (hw : wp_Wrt_finish post o kb nb x) : Met l y_Wrt_finish (wsOf y_Wrt_finish b_Wrt_finish 1 (some (.boolean))) ({ frames := 5, cells := kb, slots := nb, locals := 266 }) (va_Pc [.ref (ad o)] (PVc dC dI cI cB cJ cZ ad stC kcC NN E tM tC kK kV sz x)) (va_Qi (fun (r : Int32) (u : St × (Nat → Nat) × Nat) => post r u.1) (fun u t => Wd dC dI cI cB cJ cZ u.2.1 stC kcC u.2.2 (va_A (pic ad stC kcC NN cI cB cJ cZ x) sz) u.1 t.heap ∧ NN ≤ u.2.2 ∧ ∀ o : Nat, o < NN → u.2.1 o = ad o) (va_A (pic ad stC kcC NN cI cB cJ cZ x) sz)) kb nb (va_A (pic ad stC kcC NN cI cB cJ cZ x) sz) := by
  refine Met.ofW (cc := b_Wrt_finish) (maxL := 1) (ret := some (.boolean)) (by decide) rfl ?_
  intro p e s m args below meth c s₁ B hml hv
  obtain ⟨rfl, ⟨hsz, hW0, hK, hN⟩, hE⟩ := hv
  have hx := B.exec
  have hb := B.bytes
  have hr := B.returns
  have hts := atoms_spec B.pre
  have hT : ∀ w ∈ TG, w.before _ s = true := fun w h => hts w (List.mem_cons_of_mem _ h)
  have hown : s.vm.findClass R_Wrt = some m.cls := findClass_of_methodNamed B.named
  have hlocks := B.notSynchronized
  subst hsz
  have hW : Wd dC dI cI cB cJ cZ ad stC kcC NN (va_A (pic ad stC kcC NN cI cB cJ cZ x) s.heap.size) x s.heap := ⟨hW0.1, hW0.2.1.self (sz := s.heap.size), hW0.2.2⟩
  generalize hAe : va_A (pic ad stC kcC NN cI cB cJ cZ x) s.heap.size = A at hW hE ⊢
  have hA : ∀ q : Nat, s.heap.size ≤ q → A q := fun q h => by rw [← hAe]; exact Or.inr h
  have hS : va_S A s.heap s.heap [] := va_S.rf
  have hl := lv_entry ([.ref (ad o)]) (n := 1) (Nat.le_of_ble_eq_true rfl)
  rw [lg_entry_eq]
  generalize (lg_sl ([.ref (ad o)]) ++ List.replicate (1 - (lg_sl ([.ref (ad o)])).length) Slot.unset).toArray = ls at hl ⊢
  have hl : lv_has ls 1 [(0, .ref (ad o))] := hl
  exact t_Wrt_finish_e hx hb hml hown hT hK hN hA (Nat.le_refl 5) (Nat.le_refl 266) hE (fun r ad1 NN1 cells slots x1 H locs pc ls hd hz hag hc hs hp hW hS => W.widen (k := kb) (n := nb) hc hs (W.zret (v := r) (ty := .boolean) hx hb hr hz (fun t ht hM => ⟨⟨r, (x1, ad1, NN1), rfl, hp, Wd.back hW ht.symm (fun _ z => z), hag.1, hag.2⟩, hS.F ht⟩) hS.2.2 hd hlocks))  ad NN 0 0 o kb nb x _ _ ls hNN ⟨Nat.le_refl _, fun _ _ => rfl⟩ (Nat.le_of_eq (Nat.zero_add kb)) (Nat.le_of_eq (Nat.zero_add nb)) fo hw hW hS hl
set_option maxRecDepth 100000 in
set_option maxHeartbeats 4000000 in
set_option maxRecDepth 100000 in
theorem t_V_write_114 {p : Program} {l : Launch} {e : Env} {R : Room} {s : State} {m : MethodId} {args : Array Value} {below : List Frame} {meth : Method} {c : Code} {Q : State → Prop} {dC : Nat → ClassId} {dI : Nat → Nat → Nat} {cI cB cJ cZ : ClassId} {A : Nat → Prop} {E : Heap} {tM tC : Nat} {kK kV : Nat → Nat} {ad0 : Nat → Nat} {NN0 : Nat} {post : Int32 → St → Prop} {rec83 : Nat → Int32 → Int32 → Int32 → Int32 → Int32 → Nat → Nat → St → Prop} {rec114 : Nat → Int32 → Int32 → Int32 → Int32 → Int32 → Int32 → Int32 → Nat → Nat → St → Prop} (hx : p.tables.exec = Jvm.exec) (hb : c.code = b_V_write) (hml : c.maxLocals = 8) (hown : s.vm.findClass R_V = some m.cls) (hT : ∀ w ∈ TG, w.before args s = true) (hK : va_K (dC, dI) CL (TY cI cB cJ cZ) s) (hN : NW s) (hA : ∀ q : Nat, s.heap.size ≤ q → A q) (hRf : 9 ≤ R.frames) (hRl : 385 ≤ R.locals) (hE : CE E tM tC kK kV A s) (hret : ∀ (r : Int32) (ad : Nat → Nat) (NN cells slots : Nat) (x : St) (H : Heap) (locs : List Loc) (pc : Nat) (ls : Array Slot), decode b_V_write pc = .ok (.ireturn, 1) → (NN0 ≤ NN ∧ ∀ o : Nat, o < NN0 → ad o = ad0 o) → cells ≤ R.cells → slots ≤ R.slots → post r x → Wd dC dI cI cB cJ cZ ad stC kcC NN A x H → va_S A s.heap H locs → W p l e R s m args below meth c H locs cells slots Q (F0 m pc ls [.int r])) (hrec83 : ∀ (ad : Nat → Nat) (NN cells slots : Nat) (o : Nat) (l1 : Int32) (l2 : Int32) (l3 : Int32) (l4 : Int32) (l5 : Int32) (kb : Nat) (nb : Nat) (x : St) (H : Heap) (locs : List Loc) (ls : Array Slot), (152 ≤ NN) → (NN0 ≤ NN ∧ ∀ o : Nat, o < NN0 → ad o = ad0 o) → (cells + kb ≤ R.cells) → (slots + nb ≤ R.slots) → (o < NN ∧ kcC o = 0) → rec83 o l1 l2 l3 l4 l5 kb nb x → Wd dC dI cI cB cJ cZ ad stC kcC NN A x H → va_S A s.heap H locs → lv_has ls 8 [(0, .ref (ad o)), (1, .int l1), (2, .int l2), (3, .int l3), (4, .int l4), (5, .int l5)] → W p l e R s m args below meth c H locs cells slots Q (F0 m 83 ls [])) (hrec114 : ∀ (ad : Nat → Nat) (NN cells slots : Nat) (o : Nat) (l1 : Int32) (l2 : Int32) (l3 : Int32) (l4 : Int32) (l5 : Int32) (l6 : Int32) (l7 : Int32) (kb : Nat) (nb : Nat) (x : St) (H : Heap) (locs : List Loc) (ls : Array Slot), (152 ≤ NN) → (NN0 ≤ NN ∧ ∀ o : Nat, o < NN0 → ad o = ad0 o) → (cells + kb ≤ R.cells) → (slots + nb ≤ R.slots) → (o < NN ∧ kcC o = 0) → rec114 o l1 l2 l3 l4 l5 l6 l7 kb nb x → Wd dC dI cI cB cJ cZ ad stC kcC NN A x H → va_S A s.heap H locs → lv_has ls 8 [(0, .ref (ad o)), (1, .int l1), (2, .int l2), (3, .int l3), (4, .int l4), (5, .int l5), (6, .int l6), (7, .int l7)] → W p l e R s m args below meth c H locs cells slots Q (F0 m 114 ls [])) : ∀ (ad : Nat → Nat) (NN cells slots : Nat) (o : Nat) (l1 : Int32) (l2 : Int32) (l3 : Int32) (l4 : Int32) (l5 : Int32) (l6 : Int32) (l7 : Int32) (kb : Nat) (nb : Nat) (x : St) (H : Heap) (locs : List Loc) (ls : Array Slot), (152 ≤ NN) → (NN0 ≤ NN ∧ ∀ o : Nat, o < NN0 → ad o = ad0 o) → (cells + kb ≤ R.cells) → (slots + nb ≤ R.slots) → (o < NN ∧ kcC o = 0) → j_V_write_114 post rec83 rec114 o l1 l2 l3 l4 l5 l6 l7 kb nb x → Wd dC dI cI cB cJ cZ ad stC kcC NN A x H → va_S A s.heap H locs → lv_has ls 8 [(0, .ref (ad o)), (1, .int l1), (2, .int l2), (3, .int l3), (4, .int l4), (5, .int l5), (6, .int l6), (7, .int l7)] → W p l e R s m args below meth c H locs cells slots Q (F0 m 114 ls []) := by
  intro ad NN cells slots o l1 l2 l3 l4 l5 l6 l7 kb nb x H locs ls hNN hag hRc hRs fo hw hW hS hl
  unfold j_V_write_114 at hw
  refine lv_iload hx hb d_V_write_114 (lv_at hl 7 rfl) ?_
  refine lv_aload_n hx hb d_V_write_116 rfl (lv_at hl 0 rfl) ?_
  obtain ⟨q1, hq1, hw⟩ := hw
  refine w_getr (q := q1) (k := 4) (t := 0) (C := R_V) (T := F_V) (N := 15) hx hb hT hown hK hW fo.1 fo.2 (by decide) in_V rfl rfl (by decide) rfl fr_V_4 w_3_239 d_V_write_117 hq1 (fun aq1 bq1 => ?_)
  have fq1 : q1 < NN ∧ kcC q1 = 3 := ⟨aq1, bq1⟩
  refine w_geti (k := 1) (t := 3) (C := R_Sch) (T := F_Sch) (N := 13) hx hb hT hown hK hW fq1.1 fq1.2 (by decide) in_Sch rfl rfl (by decide) rfl fr_Sch_1 w_1_138 d_V_write_120 ?_
  refine lv_icmp_ge (tgt := 149) hx hb d_V_write_123 (by decide) (fun c2 => ?_) (fun c2 => ?_)
  · have hw := hw.1 c2
    refine lv_iinc (v := (l5 + 1)) (lv' := [(5, .int (l5 + 1)), (0, .ref (ad o)), (1, .int l1), (2, .int l2), (3, .int l3), (4, .int l4), (6, .int l6), (7, .int l7)]) hx hb d_V_write_149 hl (k := 5) rfl rfl (by decide) rfl (fun ls hl => ?_)
    refine lv_goto (tgt := 83) hx hb d_V_write_152 (by decide) ?_
    exact hrec83 ad NN cells slots o l1 l2 l3 l4 (l5 + 1) kb nb x H locs ls hNN hag hRc hRs fo hw hW hS (lv_sub hl [1, 2, 3, 4, 5, 0] rfl)
  · have hw := hw.2 c2
    refine lv_aload_n hx hb d_V_write_126 rfl (lv_at hl 0 rfl) ?_
    refine w_getf (q := (stC o 7)) (k := 7) (t := 0) (C := R_V) (T := F_V) (N := 15) hx hb hT hown hK hW fo.1 fo.2 (by decide) in_V rfl rfl (by decide) rfl fr_V_7 w_4_2 d_V_write_127 rfl ?_
    refine lv_iload hx hb d_V_write_130 (lv_at hl 7 rfl) ?_
    refine lv_iload hx hb d_V_write_132 (lv_at hl 6 rfl) ?_
    refine lv_iload_n hx hb d_V_write_134 rfl (lv_at hl 1 rfl) ?_
    obtain ⟨k3, n4, k5, n6, ek3, en4, hw⟩ := hw
    have hF := hW.free hS hA
    refine va_calli (va_runV (C := R_Wrt) (As := [.int l7, .int l6, .int l1]) (rest := []) ⟨hx, hb, hml, hown, hT⟩ (k_Wrt_putChunk l dC dI cI cB cJ cZ ad NN E tM tC kK kV hNN H.size (stC o 7) l7 l6 l1 k3 n4 x (st_ty hNN fo.1 fo.2 rfl) hw) ⟨callB_of 3 hT (gwt_in w_5_154) rfl rfl rfl (hT _ w_1_8) (hT _ w_5_151) (by decide +kernel) ⟨Nat.le_trans (Nat.le_of_ble_eq_true rfl) hRf, Nat.le_trans (Nat.le_of_ble_eq_true rfl) hRl⟩, hT _ w_5_152, hT _ w_5_153⟩ ⟨PVc.blind, va_recv hK hW.1 (ci := 5) (q0 := (stC o 7)) rfl (pic_obj (st_ty hNN fo.1 fo.2 rfl).1 (st_ty hNN fo.1 fo.2 rfl).2 (by decide)), PVc.at _ hW hK hN hE hS hF⟩ rfl rfl hl.1 rfl (lv_room (Nat.le_of_ble_eq_true rfl)) d_V_write_135 ⟨show cells + k3 ≤ R.cells by omega, show slots + n4 ≤ R.slots by omega⟩) hS (fun q _ h => hF q h) hF (fun r8 x7 t H locs ht hvm hw hB hz1 hk1 hS => ?_)
    obtain ⟨x7, ad, NN⟩ := x7
    obtain ⟨hB, hle, hg⟩ := hB
    try dsimp only at hw hB hle hg
    have hW := Wd.back hB ht hF
    rw [← hg o fo.1] at hl
    have fo : o < NN ∧ kcC o = 0 := ⟨Nat.lt_of_lt_of_le fo.1 hle, fo.2⟩
    have fq1 : q1 < NN ∧ kcC q1 = 3 := ⟨Nat.lt_of_lt_of_le fq1.1 hle, fq1.2⟩
    have hag : NN0 ≤ NN ∧ ∀ o : Nat, o < NN0 → ad o = ad0 o := ⟨Nat.le_trans hag.1 hle, fun o h => (hg o (Nat.lt_of_lt_of_le h hag.1)).trans (hag.2 o h)⟩
    have hNN : 152 ≤ NN := Nat.le_trans hNN hle
    clear hg hle
    obtain ⟨cells, ec⟩ : ∃ z, z = cells + k3 := ⟨_, rfl⟩
    obtain ⟨slots, es⟩ : ∃ z, z = slots + n4 := ⟨_, rfl⟩
    first | rw [← ec, ← es] | rw [Nat.add_zero, Nat.add_zero, ← ec, ← es]
    have hRc : cells + k5 ≤ R.cells := by omega
    have hRs : slots + n6 ≤ R.slots := by omega
    clear ec es hB ht hF hz1 hk1 hvm ek3 en4
    refine lv_if_ne (tgt := 143) hx hb d_V_write_138 (by decide) (fun c9 => ?_) (fun c9 => ?_)
    · have hw := hw.1 c9
      refine lv_iinc (v := (l7 + 1)) (lv' := [(7, .int (l7 + 1)), (0, .ref (ad o)), (1, .int l1), (2, .int l2), (3, .int l3), (4, .int l4), (5, .int l5), (6, .int l6)]) hx hb d_V_write_143 hl (k := 7) rfl rfl (by decide) rfl (fun ls hl => ?_)
      refine lv_goto (tgt := 114) hx hb d_V_write_146 (by decide) ?_
      exact hrec114 ad NN cells slots o l1 l2 l3 l4 l5 l6 (l7 + 1) k5 n6 x7 H locs ls hNN hag hRc hRs fo hw hW hS (lv_sub hl [1, 2, 3, 4, 5, 6, 7, 0] rfl)
    · have hw := hw.2 c9
      refine lv_iconst (v := (-1)) hx hb d_V_write_141 (by decide) ?_
      exact hret (-1) ad NN cells slots x7 H locs 142 ls d_V_write_142 hag (Nat.le_trans (Nat.le_add_right _ _) hRc) (Nat.le_trans (Nat.le_add_right _ _) hRs) hw hW hS
set_option maxHeartbeats 4000000 in
set_option maxRecDepth 100000 in
theorem tl_V_write_114 {p : Program} {l : Launch} {e : Env} {R : Room} {s : State} {m : MethodId} {args : Array Value} {below : List Frame} {meth : Method} {c : Code} {Q : State → Prop} {dC : Nat → ClassId} {dI : Nat → Nat → Nat} {cI cB cJ cZ : ClassId} {A : Nat → Prop} {E : Heap} {tM tC : Nat} {kK kV : Nat → Nat} {ad0 : Nat → Nat} {NN0 : Nat} {post : Int32 → St → Prop} {rec83 : Nat → Int32 → Int32 → Int32 → Int32 → Int32 → Nat → Nat → St → Prop} (hx : p.tables.exec = Jvm.exec) (hb : c.code = b_V_write) (hml : c.maxLocals = 8) (hown : s.vm.findClass R_V = some m.cls) (hT : ∀ w ∈ TG, w.before args s = true) (hK : va_K (dC, dI) CL (TY cI cB cJ cZ) s) (hN : NW s) (hA : ∀ q : Nat, s.heap.size ≤ q → A q) (hRf : 9 ≤ R.frames) (hRl : 385 ≤ R.locals) (hE : CE E tM tC kK kV A s) (hret : ∀ (r : Int32) (ad : Nat → Nat) (NN cells slots : Nat) (x : St) (H : Heap) (locs : List Loc) (pc : Nat) (ls : Array Slot), decode b_V_write pc = .ok (.ireturn, 1) → (NN0 ≤ NN ∧ ∀ o : Nat, o < NN0 → ad o = ad0 o) → cells ≤ R.cells → slots ≤ R.slots → post r x → Wd dC dI cI cB cJ cZ ad stC kcC NN A x H → va_S A s.heap H locs → W p l e R s m args below meth c H locs cells slots Q (F0 m pc ls [.int r])) (hrec83 : ∀ (ad : Nat → Nat) (NN cells slots : Nat) (o : Nat) (l1 : Int32) (l2 : Int32) (l3 : Int32) (l4 : Int32) (l5 : Int32) (kb : Nat) (nb : Nat) (x : St) (H : Heap) (locs : List Loc) (ls : Array Slot), (152 ≤ NN) → (NN0 ≤ NN ∧ ∀ o : Nat, o < NN0 → ad o = ad0 o) → (cells + kb ≤ R.cells) → (slots + nb ≤ R.slots) → (o < NN ∧ kcC o = 0) → rec83 o l1 l2 l3 l4 l5 kb nb x → Wd dC dI cI cB cJ cZ ad stC kcC NN A x H → va_S A s.heap H locs → lv_has ls 8 [(0, .ref (ad o)), (1, .int l1), (2, .int l2), (3, .int l3), (4, .int l4), (5, .int l5)] → W p l e R s m args below meth c H locs cells slots Q (F0 m 83 ls [])) : ∀ n : Nat, ∀ (ad : Nat → Nat) (NN cells slots : Nat) (o : Nat) (l1 : Int32) (l2 : Int32) (l3 : Int32) (l4 : Int32) (l5 : Int32) (l6 : Int32) (l7 : Int32) (kb : Nat) (nb : Nat) (x : St) (H : Heap) (locs : List Loc) (ls : Array Slot), (152 ≤ NN) → (NN0 ≤ NN ∧ ∀ o : Nat, o < NN0 → ad o = ad0 o) → (cells + kb ≤ R.cells) → (slots + nb ≤ R.slots) → (o < NN ∧ kcC o = 0) → wl_V_write_114 post rec83 n o l1 l2 l3 l4 l5 l6 l7 kb nb x → Wd dC dI cI cB cJ cZ ad stC kcC NN A x H → va_S A s.heap H locs → lv_has ls 8 [(0, .ref (ad o)), (1, .int l1), (2, .int l2), (3, .int l3), (4, .int l4), (5, .int l5), (6, .int l6), (7, .int l7)] → W p l e R s m args below meth c H locs cells slots Q (F0 m 114 ls []) := by
  intro n
  induction n with
  | zero => intro ad NN cells slots o l1 l2 l3 l4 l5 l6 l7 kb nb x H locs ls hNN hag hRc hRs fo hw; exact hw.elim
  | succ n ih => intro ad NN cells slots o l1 l2 l3 l4 l5 l6 l7 kb nb x H locs ls hNN hag hRc hRs fo hw hW hS hl; exact t_V_write_114 hx hb hml hown hT hK hN hA hRf hRl hE hret hrec83 ih ad NN cells slots o l1 l2 l3 l4 l5 l6 l7 kb nb x H locs ls hNN hag hRc hRs fo hw hW hS hl
set_option maxRecDepth 100000 in
set_option maxHeartbeats 4000000 in
set_option maxRecDepth 100000 in
theorem t_V_write_83 {p : Program} {l : Launch} {e : Env} {R : Room} {s : State} {m : MethodId} {args : Array Value} {below : List Frame} {meth : Method} {c : Code} {Q : State → Prop} {dC : Nat → ClassId} {dI : Nat → Nat → Nat} {cI cB cJ cZ : ClassId} {A : Nat → Prop} {E : Heap} {tM tC : Nat} {kK kV : Nat → Nat} {ad0 : Nat → Nat} {NN0 : Nat} {post : Int32 → St → Prop} {rec83 : Nat → Int32 → Int32 → Int32 → Int32 → Int32 → Nat → Nat → St → Prop} (hx : p.tables.exec = Jvm.exec) (hb : c.code = b_V_write) (hml : c.maxLocals = 8) (hown : s.vm.findClass R_V = some m.cls) (hT : ∀ w ∈ TG, w.before args s = true) (hK : va_K (dC, dI) CL (TY cI cB cJ cZ) s) (hN : NW s) (hA : ∀ q : Nat, s.heap.size ≤ q → A q) (hRf : 9 ≤ R.frames) (hRl : 385 ≤ R.locals) (hE : CE E tM tC kK kV A s) (hret : ∀ (r : Int32) (ad : Nat → Nat) (NN cells slots : Nat) (x : St) (H : Heap) (locs : List Loc) (pc : Nat) (ls : Array Slot), decode b_V_write pc = .ok (.ireturn, 1) → (NN0 ≤ NN ∧ ∀ o : Nat, o < NN0 → ad o = ad0 o) → cells ≤ R.cells → slots ≤ R.slots → post r x → Wd dC dI cI cB cJ cZ ad stC kcC NN A x H → va_S A s.heap H locs → W p l e R s m args below meth c H locs cells slots Q (F0 m pc ls [.int r])) (hrec83 : ∀ (ad : Nat → Nat) (NN cells slots : Nat) (o : Nat) (l1 : Int32) (l2 : Int32) (l3 : Int32) (l4 : Int32) (l5 : Int32) (kb : Nat) (nb : Nat) (x : St) (H : Heap) (locs : List Loc) (ls : Array Slot), (152 ≤ NN) → (NN0 ≤ NN ∧ ∀ o : Nat, o < NN0 → ad o = ad0 o) → (cells + kb ≤ R.cells) → (slots + nb ≤ R.slots) → (o < NN ∧ kcC o = 0) → rec83 o l1 l2 l3 l4 l5 kb nb x → Wd dC dI cI cB cJ cZ ad stC kcC NN A x H → va_S A s.heap H locs → lv_has ls 8 [(0, .ref (ad o)), (1, .int l1), (2, .int l2), (3, .int l3), (4, .int l4), (5, .int l5)] → W p l e R s m args below meth c H locs cells slots Q (F0 m 83 ls [])) : ∀ (ad : Nat → Nat) (NN cells slots : Nat) (o : Nat) (l1 : Int32) (l2 : Int32) (l3 : Int32) (l4 : Int32) (l5 : Int32) (kb : Nat) (nb : Nat) (x : St) (H : Heap) (locs : List Loc) (ls : Array Slot), (152 ≤ NN) → (NN0 ≤ NN ∧ ∀ o : Nat, o < NN0 → ad o = ad0 o) → (cells + kb ≤ R.cells) → (slots + nb ≤ R.slots) → (o < NN ∧ kcC o = 0) → j_V_write_83 post rec83 o l1 l2 l3 l4 l5 kb nb x → Wd dC dI cI cB cJ cZ ad stC kcC NN A x H → va_S A s.heap H locs → lv_has ls 8 [(0, .ref (ad o)), (1, .int l1), (2, .int l2), (3, .int l3), (4, .int l4), (5, .int l5)] → W p l e R s m args below meth c H locs cells slots Q (F0 m 83 ls []) := by
  intro ad NN cells slots o l1 l2 l3 l4 l5 kb nb x H locs ls hNN hag hRc hRs fo hw hW hS hl
  unfold j_V_write_83 at hw
  refine lv_iload hx hb d_V_write_83 (lv_at hl 5 rfl) ?_
  refine lv_iload hx hb d_V_write_85 (lv_at hl 4 rfl) ?_
  refine lv_icmp_ge (tgt := 155) hx hb d_V_write_87 (by decide) (fun c10 => ?_) (fun c10 => ?_)
  · have hw := hw.1 c10
    refine lv_aload_n hx hb d_V_write_155 rfl (lv_at hl 0 rfl) ?_
    refine w_getf (q := (stC o 7)) (k := 7) (t := 0) (C := R_V) (T := F_V) (N := 15) hx hb hT hown hK hW fo.1 fo.2 (by decide) in_V rfl rfl (by decide) rfl fr_V_7 w_4_2 d_V_write_156 rfl ?_
    obtain ⟨k11, n12, k13, n14, ek11, en12, hw⟩ := hw
    have hF := hW.free hS hA
    refine va_calli (va_runV (C := R_Wrt) (As := []) (rest := []) ⟨hx, hb, hml, hown, hT⟩ (k_Wrt_finish l dC dI cI cB cJ cZ ad NN E tM tC kK kV hNN H.size (stC o 7) k11 n12 x (st_ty hNN fo.1 fo.2 rfl) hw) ⟨callB_of 0 hT (gwt_in w_6_49) rfl rfl rfl (hT _ w_1_8) (hT _ w_6_46) (by decide +kernel) ⟨Nat.le_trans (Nat.le_of_ble_eq_true rfl) hRf, Nat.le_trans (Nat.le_of_ble_eq_true rfl) hRl⟩, hT _ w_6_47, hT _ w_6_48⟩ ⟨PVc.blind, va_recv hK hW.1 (ci := 5) (q0 := (stC o 7)) rfl (pic_obj (st_ty hNN fo.1 fo.2 rfl).1 (st_ty hNN fo.1 fo.2 rfl).2 (by decide)), PVc.at _ hW hK hN hE hS hF⟩ rfl rfl hl.1 rfl (lv_room (Nat.le_of_ble_eq_true rfl)) d_V_write_159 ⟨show cells + k11 ≤ R.cells by omega, show slots + n12 ≤ R.slots by omega⟩) hS (fun q _ h => hF q h) hF (fun r16 x15 t H locs ht hvm hw hB hz1 hk1 hS => ?_)
    obtain ⟨x15, ad, NN⟩ := x15
    obtain ⟨hB, hle, hg⟩ := hB
    try dsimp only at hw hB hle hg
    have hW := Wd.back hB ht hF
    rw [← hg o fo.1] at hl
    have fo : o < NN ∧ kcC o = 0 := ⟨Nat.lt_of_lt_of_le fo.1 hle, fo.2⟩
    have hag : NN0 ≤ NN ∧ ∀ o : Nat, o < NN0 → ad o = ad0 o := ⟨Nat.le_trans hag.1 hle, fun o h => (hg o (Nat.lt_of_lt_of_le h hag.1)).trans (hag.2 o h)⟩
    have hNN : 152 ≤ NN := Nat.le_trans hNN hle
    clear hg hle
    obtain ⟨cells, ec⟩ : ∃ z, z = cells + k11 := ⟨_, rfl⟩
    obtain ⟨slots, es⟩ : ∃ z, z = slots + n12 := ⟨_, rfl⟩
    first | rw [← ec, ← es] | rw [Nat.add_zero, Nat.add_zero, ← ec, ← es]
    have hRc : cells + k13 ≤ R.cells := by omega
    have hRs : slots + n14 ≤ R.slots := by omega
    clear ec es hB ht hF hz1 hk1 hvm ek11 en12
    refine lv_if_ne (tgt := 167) hx hb d_V_write_162 (by decide) (fun c17 => ?_) (fun c17 => ?_)
    · have hw := hw.1 c17
      refine lv_aload_n hx hb d_V_write_167 rfl (lv_at hl 0 rfl) ?_
      refine lv_aload_n hx hb d_V_write_168 rfl (lv_at hl 0 rfl) ?_
      refine w_getf (q := (stC o 7)) (k := 7) (t := 0) (C := R_V) (T := F_V) (N := 15) hx hb hT hown hK hW fo.1 fo.2 (by decide) in_V rfl rfl (by decide) rfl fr_V_7 w_4_2 d_V_write_169 rfl ?_
      refine lv_aload_n hx hb d_V_write_172 rfl (lv_at hl 0 rfl) ?_
      obtain ⟨q18, hq18, hw⟩ := hw
      refine w_getr (q := q18) (k := 2) (t := 0) (C := R_V) (T := F_V) (N := 15) hx hb hT hown hK hW fo.1 fo.2 (by decide) in_V rfl rfl (by decide) rfl fr_V_2 w_3_237 d_V_write_173 hq18 (fun aq18 bq18 => ?_)
      have fq18 : q18 < NN ∧ kcC q18 = 1 := ⟨aq18, bq18⟩
      have hF := hW.free hS hA
      refine va_callr (va_runV (C := R_Wrt) (As := [.ref (ad q18)]) (rest := [.ref (ad o)]) ⟨hx, hb, hml, hown, hT⟩ (k_Wrt_giveFile l dC dI cI cB cJ cZ ad NN E tM tC kK kV hNN H.size (stC o 7) q18 x15 (st_ty hNN fo.1 fo.2 rfl) fq18 hw) ⟨callB_of 1 hT (gwt_in w_6_53) rfl rfl rfl (hT _ w_1_8) (hT _ w_6_50) (by decide +kernel) ⟨Nat.le_trans (Nat.le_of_ble_eq_true rfl) hRf, Nat.le_trans (Nat.le_of_ble_eq_true rfl) hRl⟩, hT _ w_6_51, hT _ w_6_52⟩ ⟨PVc.blind, va_recv hK hW.1 (ci := 5) (q0 := (stC o 7)) rfl (pic_obj (st_ty hNN fo.1 fo.2 rfl).1 (st_ty hNN fo.1 fo.2 rfl).2 (by decide)), PVc.at _ hW hK hN hE hS hF⟩ rfl rfl hl.1 rfl (lv_room (Nat.le_of_ble_eq_true rfl)) d_V_write_176 ⟨(Nat.le_trans (Nat.le_add_right _ _) hRc), (Nat.le_trans (Nat.le_add_right _ _) hRs)⟩) hS (fun q _ h => hF q h) hF (fun u ra t H locs ht hvm hw hB hz1 hk1 hS => ?_)
      obtain ⟨q21, x19⟩ := u
      obtain ⟨era, fq21, hB⟩ := hB
      try dsimp only at hw era fq21 hB
      subst era
      have hW := Wd.back hB ht hF
      clear hB ht hF hz1 hk1 hvm
      refine w_putr (q := q21) (ty := .object "StripedVault$Sink") (k := 2) (t := 0) (C := R_V) (T := F_V) (N := 15) hx hb hT hown hK hW hS fo.1 fo.2 (by decide) in_V t_V t_V_ok n_V rfl rfl (by decide) rfl fr_V_2 w_3_237 (by decide +kernel) rfl rfl fq21.1 fq21.2 d_V_write_179 (fun H locs hW hS => ?_)
      obtain ⟨x22, ex22⟩ : ∃ y : St, y = setR x19 o 2 (some q21) := ⟨_, rfl⟩
      rw [← ex22] at hW
      have hw := hw x22 ex22
      refine lv_aload_n hx hb d_V_write_182 rfl (lv_at hl 0 rfl) ?_
      obtain ⟨q23, hq23, hw⟩ := hw
      refine w_getr (q := q23) (k := 2) (t := 0) (C := R_V) (T := F_V) (N := 15) hx hb hT hown hK hW fo.1 fo.2 (by decide) in_V rfl rfl (by decide) rfl fr_V_2 w_3_237 d_V_write_183 hq23 (fun aq23 bq23 => ?_)
      have fq23 : q23 < NN ∧ kcC q23 = 1 := ⟨aq23, bq23⟩
      refine w_geti (k := 1) (t := 1) (C := R_Snk) (T := F_Snk) (N := 7) hx hb hT hown hK hW fq23.1 fq23.2 (by decide) in_Snk rfl rfl (by decide) rfl fr_Snk_1 w_1_44 d_V_write_186 ?_
      exact hret (fI x22 q23 1) ad NN cells slots x22 H locs 189 ls d_V_write_189 hag (Nat.le_trans (Nat.le_add_right _ _) hRc) (Nat.le_trans (Nat.le_add_right _ _) hRs) hw hW hS
    · have hw := hw.2 c17
      refine lv_iconst (v := (-1)) hx hb d_V_write_165 (by decide) ?_
      exact hret (-1) ad NN cells slots x15 H locs 166 ls d_V_write_166 hag (Nat.le_trans (Nat.le_add_right _ _) hRc) (Nat.le_trans (Nat.le_add_right _ _) hRs) hw hW hS
  · have hw := hw.2 c10
    refine lv_iload_n hx hb d_V_write_90 rfl (lv_at hl 2 rfl) ?_
    refine lv_iload_n hx hb d_V_write_91 rfl (lv_at hl 3 rfl) ?_
    refine lv_iload hx hb d_V_write_92 (lv_at hl 5 rfl) ?_
    refine lv_iload_n hx hb d_V_write_94 rfl (lv_at hl 2 rfl) ?_
    refine lv_imul hx hb d_V_write_95 ?_
    refine lv_isub hx hb d_V_write_96 ?_
    refine va_mmin hx hb (hml.trans hl.1.symm) hown (hT _ w_5_146) (hT _ w_1_38) (hT _ w_1_3) (hT _ w_1_39) (Nat.le_trans (by decide) hRf) (Nat.le_trans (Nat.le_of_ble_eq_true rfl) hRl) (Nat.le_trans (Nat.le_add_right _ _) hRc) (Nat.le_trans (Nat.le_add_right _ _) hRs) d_V_write_97 ?_
    refine lv_topi (fun v24 ev24 => ?_)
    have hw := hw v24 ev24
    refine lv_istore (lv' := [(6, .int v24), (0, .ref (ad o)), (1, .int l1), (2, .int l2), (3, .int l3), (4, .int l4), (5, .int l5)]) hx hb d_V_write_100 hl (by decide) rfl (fun ls hl => ?_)
    refine lv_aload_n hx hb d_V_write_102 rfl (lv_at hl 1 rfl) ?_
    refine w_getf (q := (stC o 7)) (k := 7) (t := 0) (C := R_V) (T := F_V) (N := 15) hx hb hT hown hK hW fo.1 fo.2 (by decide) in_V rfl rfl (by decide) rfl fr_V_7 w_4_2 d_V_write_103 rfl ?_
    refine lv_iload hx hb d_V_write_106 (lv_at hl 0 rfl) ?_
    obtain ⟨k25, n26, k27, n28, ek25, en26, hw⟩ := hw
    have hF := hW.free hS hA
    refine va_callv (va_runV (C := R_Wrt) (As := [.int v24]) (rest := []) ⟨hx, hb, hml, hown, hT⟩ (k_Wrt_beginGroup l dC dI cI cB cJ cZ ad NN E tM tC kK kV hNN H.size (stC o 7) v24 k25 n26 x (st_ty hNN fo.1 fo.2 rfl) hw) ⟨callB_of 1 hT (gwt_in w_5_150) rfl rfl rfl (hT _ w_1_8) (hT _ w_5_147) (by decide +kernel) ⟨Nat.le_trans (Nat.le_of_ble_eq_true rfl) hRf, Nat.le_trans (Nat.le_of_ble_eq_true rfl) hRl⟩, hT _ w_5_148, hT _ w_5_149⟩ ⟨PVc.blind, va_recv hK hW.1 (ci := 5) (q0 := (stC o 7)) rfl (pic_obj (st_ty hNN fo.1 fo.2 rfl).1 (st_ty hNN fo.1 fo.2 rfl).2 (by decide)), PVc.at _ hW hK hN hE hS hF⟩ rfl rfl hl.1 rfl (lv_room (Nat.le_of_ble_eq_true rfl)) d_V_write_108 ⟨show cells + k25 ≤ R.cells by omega, show slots + n26 ≤ R.slots by omega⟩) hS (fun q _ h => hF q h) hF (fun  x29 t H locs ht hvm hw hB hz1 hk1 hS => ?_)
    obtain ⟨x29, ad, NN⟩ := x29
    obtain ⟨hB, hle, hg⟩ := hB
    try dsimp only at hw hB hle hg
    have hW := Wd.back hB ht hF
    rw [← hg o fo.1] at hl
    have fo : o < NN ∧ kcC o = 0 := ⟨Nat.lt_of_lt_of_le fo.1 hle, fo.2⟩
    have hag : NN0 ≤ NN ∧ ∀ o : Nat, o < NN0 → ad o = ad0 o := ⟨Nat.le_trans hag.1 hle, fun o h => (hg o (Nat.lt_of_lt_of_le h hag.1)).trans (hag.2 o h)⟩
    have hNN : 152 ≤ NN := Nat.le_trans hNN hle
    clear hg hle
    obtain ⟨cells, ec⟩ : ∃ z, z = cells + k25 := ⟨_, rfl⟩
    obtain ⟨slots, es⟩ : ∃ z, z = slots + n26 := ⟨_, rfl⟩
    first | rw [← ec, ← es] | rw [Nat.add_zero, Nat.add_zero, ← ec, ← es]
    have hRc : cells + k27 ≤ R.cells := by omega
    have hRs : slots + n28 ≤ R.slots := by omega
    clear ec es hB ht hF hz1 hk1 hvm ek25 en26
    refine lv_iconst (v := 0) hx hb d_V_write_111 (by decide) ?_
    refine lv_istore (lv' := [(7, .int 0), (6, .int v24), (0, .ref (ad o)), (1, .int l1), (2, .int l2), (3, .int l3), (4, .int l4), (5, .int l5)]) hx hb d_V_write_112 hl (by decide) rfl (fun ls hl => ?_)
    obtain ⟨n, hw⟩ := hw
    exact tl_V_write_114 hx hb hml hown hT hK hN hA hRf hRl hE hret hrec83 n ad NN cells slots o l1 l2 l3 l4 l5 v24 0 k27 n28 x29 H locs ls hNN hag hRc hRs fo hw hW hS (lv_sub hl [2, 3, 4, 5, 6, 7, 1, 0] rfl)
set_option maxHeartbeats 4000000 in
set_option maxRecDepth 100000 in
theorem tl_V_write_83 {p : Program} {l : Launch} {e : Env} {R : Room} {s : State} {m : MethodId} {args : Array Value} {below : List Frame} {meth : Method} {c : Code} {Q : State → Prop} {dC : Nat → ClassId} {dI : Nat → Nat → Nat} {cI cB cJ cZ : ClassId} {A : Nat → Prop} {E : Heap} {tM tC : Nat} {kK kV : Nat → Nat} {ad0 : Nat → Nat} {NN0 : Nat} {post : Int32 → St → Prop} (hx : p.tables.exec = Jvm.exec) (hb : c.code = b_V_write) (hml : c.maxLocals = 8) (hown : s.vm.findClass R_V = some m.cls) (hT : ∀ w ∈ TG, w.before args s = true) (hK : va_K (dC, dI) CL (TY cI cB cJ cZ) s) (hN : NW s) (hA : ∀ q : Nat, s.heap.size ≤ q → A q) (hRf : 9 ≤ R.frames) (hRl : 385 ≤ R.locals) (hE : CE E tM tC kK kV A s) (hret : ∀ (r : Int32) (ad : Nat → Nat) (NN cells slots : Nat) (x : St) (H : Heap) (locs : List Loc) (pc : Nat) (ls : Array Slot), decode b_V_write pc = .ok (.ireturn, 1) → (NN0 ≤ NN ∧ ∀ o : Nat, o < NN0 → ad o = ad0 o) → cells ≤ R.cells → slots ≤ R.slots → post r x → Wd dC dI cI cB cJ cZ ad stC kcC NN A x H → va_S A s.heap H locs → W p l e R s m args below meth c H locs cells slots Q (F0 m pc ls [.int r]))  : ∀ n : Nat, ∀ (ad : Nat → Nat) (NN cells slots : Nat) (o : Nat) (l1 : Int32) (l2 : Int32) (l3 : Int32) (l4 : Int32) (l5 : Int32) (kb : Nat) (nb : Nat) (x : St) (H : Heap) (locs : List Loc) (ls : Array Slot), (152 ≤ NN) → (NN0 ≤ NN ∧ ∀ o : Nat, o < NN0 → ad o = ad0 o) → (cells + kb ≤ R.cells) → (slots + nb ≤ R.slots) → (o < NN ∧ kcC o = 0) → wl_V_write_83 post n o l1 l2 l3 l4 l5 kb nb x → Wd dC dI cI cB cJ cZ ad stC kcC NN A x H → va_S A s.heap H locs → lv_has ls 8 [(0, .ref (ad o)), (1, .int l1), (2, .int l2), (3, .int l3), (4, .int l4), (5, .int l5)] → W p l e R s m args below meth c H locs cells slots Q (F0 m 83 ls []) := by
  intro n
  induction n with
  | zero => intro ad NN cells slots o l1 l2 l3 l4 l5 kb nb x H locs ls hNN hag hRc hRs fo hw; exact hw.elim
  | succ n ih => intro ad NN cells slots o l1 l2 l3 l4 l5 kb nb x H locs ls hNN hag hRc hRs fo hw hW hS hl; exact t_V_write_83 hx hb hml hown hT hK hN hA hRf hRl hE hret  ih ad NN cells slots o l1 l2 l3 l4 l5 kb nb x H locs ls hNN hag hRc hRs fo hw hW hS hl
set_option maxRecDepth 100000 in
set_option maxHeartbeats 4000000 in
set_option maxRecDepth 100000 in
theorem t_V_write_34 {p : Program} {l : Launch} {e : Env} {R : Room} {s : State} {m : MethodId} {args : Array Value} {below : List Frame} {meth : Method} {c : Code} {Q : State → Prop} {dC : Nat → ClassId} {dI : Nat → Nat → Nat} {cI cB cJ cZ : ClassId} {A : Nat → Prop} {E : Heap} {tM tC : Nat} {kK kV : Nat → Nat} {ad0 : Nat → Nat} {NN0 : Nat} {post : Int32 → St → Prop} (hx : p.tables.exec = Jvm.exec) (hb : c.code = b_V_write) (hml : c.maxLocals = 8) (hown : s.vm.findClass R_V = some m.cls) (hT : ∀ w ∈ TG, w.before args s = true) (hK : va_K (dC, dI) CL (TY cI cB cJ cZ) s) (hN : NW s) (hA : ∀ q : Nat, s.heap.size ≤ q → A q) (hRf : 9 ≤ R.frames) (hRl : 385 ≤ R.locals) (hE : CE E tM tC kK kV A s) (hret : ∀ (r : Int32) (ad : Nat → Nat) (NN cells slots : Nat) (x : St) (H : Heap) (locs : List Loc) (pc : Nat) (ls : Array Slot), decode b_V_write pc = .ok (.ireturn, 1) → (NN0 ≤ NN ∧ ∀ o : Nat, o < NN0 → ad o = ad0 o) → cells ≤ R.cells → slots ≤ R.slots → post r x → Wd dC dI cI cB cJ cZ ad stC kcC NN A x H → va_S A s.heap H locs → W p l e R s m args below meth c H locs cells slots Q (F0 m pc ls [.int r]))  : ∀ (ad : Nat → Nat) (NN cells slots : Nat) (o : Nat) (l1 : Int32) (l2 : Int32) (kb : Nat) (nb : Nat) (x : St) (H : Heap) (locs : List Loc) (ls : Array Slot), (152 ≤ NN) → (NN0 ≤ NN ∧ ∀ o : Nat, o < NN0 → ad o = ad0 o) → (cells + kb ≤ R.cells) → (slots + nb ≤ R.slots) → (o < NN ∧ kcC o = 0) → j_V_write_34 post o l1 l2 kb nb x → Wd dC dI cI cB cJ cZ ad stC kcC NN A x H → va_S A s.heap H locs → lv_has ls 8 [(0, .ref (ad o)), (1, .int l1), (2, .int l2)] → W p l e R s m args below meth c H locs cells slots Q (F0 m 34 ls []) := by
  intro ad NN cells slots o l1 l2 kb nb x H locs ls hNN hag hRc hRs fo hw hW hS hl
  unfold j_V_write_34 at hw
  refine lv_iconst (v := (-1)) hx hb d_V_write_34 (by decide) ?_
  exact hret (-1) ad NN cells slots x H locs 35 ls d_V_write_35 hag (Nat.le_trans (Nat.le_add_right _ _) hRc) (Nat.le_trans (Nat.le_add_right _ _) hRs) hw hW hS
set_option maxRecDepth 100000 in
set_option maxHeartbeats 4000000 in
set_option maxRecDepth 100000 in
theorem t_V_write_e {p : Program} {l : Launch} {e : Env} {R : Room} {s : State} {m : MethodId} {args : Array Value} {below : List Frame} {meth : Method} {c : Code} {Q : State → Prop} {dC : Nat → ClassId} {dI : Nat → Nat → Nat} {cI cB cJ cZ : ClassId} {A : Nat → Prop} {E : Heap} {tM tC : Nat} {kK kV : Nat → Nat} {ad0 : Nat → Nat} {NN0 : Nat} {post : Int32 → St → Prop} (hx : p.tables.exec = Jvm.exec) (hb : c.code = b_V_write) (hml : c.maxLocals = 8) (hown : s.vm.findClass R_V = some m.cls) (hT : ∀ w ∈ TG, w.before args s = true) (hK : va_K (dC, dI) CL (TY cI cB cJ cZ) s) (hN : NW s) (hA : ∀ q : Nat, s.heap.size ≤ q → A q) (hRf : 9 ≤ R.frames) (hRl : 385 ≤ R.locals) (hE : CE E tM tC kK kV A s) (hret : ∀ (r : Int32) (ad : Nat → Nat) (NN cells slots : Nat) (x : St) (H : Heap) (locs : List Loc) (pc : Nat) (ls : Array Slot), decode b_V_write pc = .ok (.ireturn, 1) → (NN0 ≤ NN ∧ ∀ o : Nat, o < NN0 → ad o = ad0 o) → cells ≤ R.cells → slots ≤ R.slots → post r x → Wd dC dI cI cB cJ cZ ad stC kcC NN A x H → va_S A s.heap H locs → W p l e R s m args below meth c H locs cells slots Q (F0 m pc ls [.int r])) : ∀ (ad : Nat → Nat) (NN cells slots : Nat) (o : Nat) (l1 : Int32) (l2 : Int32) (kb : Nat) (nb : Nat) (x : St) (H : Heap) (locs : List Loc) (ls : Array Slot), (152 ≤ NN) → (NN0 ≤ NN ∧ ∀ o : Nat, o < NN0 → ad o = ad0 o) → (cells + kb ≤ R.cells) → (slots + nb ≤ R.slots) → (o < NN ∧ kcC o = 0) → wp_V_write post o l1 l2 kb nb x → Wd dC dI cI cB cJ cZ ad stC kcC NN A x H → va_S A s.heap H locs → lv_has ls 8 [(0, .ref (ad o)), (1, .int l1), (2, .int l2)] → W p l e R s m args below meth c H locs cells slots Q (F0 m 0 ls []) := by
  intro ad NN cells slots o l1 l2 kb nb x H locs ls hNN hag hRc hRs fo hw hW hS hl
  unfold wp_V_write at hw
  refine lv_aload_n hx hb d_V_write_0 rfl (lv_at hl 0 rfl) ?_
  obtain ⟨q30, hq30, hw⟩ := hw
  refine w_getr (q := q30) (k := 4) (t := 0) (C := R_V) (T := F_V) (N := 15) hx hb hT hown hK hW fo.1 fo.2 (by decide) in_V rfl rfl (by decide) rfl fr_V_4 w_3_239 d_V_write_1 hq30 (fun aq30 bq30 => ?_)
  have fq30 : q30 < NN ∧ kcC q30 = 3 := ⟨aq30, bq30⟩
  refine w_geti (k := 0) (t := 3) (C := R_Sch) (T := F_Sch) (N := 13) hx hb hT hown hK hW fq30.1 fq30.2 (by decide) in_Sch rfl rfl (by decide) rfl fr_Sch_0 w_1_133 d_V_write_4 ?_
  refine lv_if_eq (tgt := 34) hx hb d_V_write_7 (by decide) (fun c31 => ?_) (fun c31 => ?_)
  · have hw := hw.1 c31
    exact t_V_write_34 hx hb hml hown hT hK hN hA hRf hRl hE hret  ad NN cells slots o l1 l2 kb nb x H locs ls hNN hag hRc hRs fo hw hW hS (lv_sub hl [0, 1, 2] rfl)
  · have hw := hw.2 c31
    refine lv_iload_n hx hb d_V_write_10 rfl (lv_at hl 1 rfl) ?_
    refine lv_iconst (v := 1) hx hb d_V_write_11 (by decide) ?_
    refine lv_icmp_lt (tgt := 34) hx hb d_V_write_12 (by decide) (fun c32 => ?_) (fun c32 => ?_)
    · have hw := hw.1 c32
      exact t_V_write_34 hx hb hml hown hT hK hN hA hRf hRl hE hret  ad NN cells slots o l1 l2 kb nb x H locs ls hNN hag hRc hRs fo hw hW hS (lv_sub hl [0, 1, 2] rfl)
    · have hw := hw.2 c32
      refine lv_iload_n hx hb d_V_write_15 rfl (lv_at hl 1 rfl) ?_
      refine lv_sipush (v := 1000) hx hb d_V_write_16 (by decide) ?_
      refine lv_icmp_gt (tgt := 34) hx hb d_V_write_19 (by decide) (fun c33 => ?_) (fun c33 => ?_)
      · have hw := hw.1 c33
        exact t_V_write_34 hx hb hml hown hT hK hN hA hRf hRl hE hret  ad NN cells slots o l1 l2 kb nb x H locs ls hNN hag hRc hRs fo hw hW hS (lv_sub hl [0, 1, 2] rfl)
      · have hw := hw.2 c33
        refine lv_iload_n hx hb d_V_write_22 rfl (lv_at hl 2 rfl) ?_
        refine lv_iconst (v := 1) hx hb d_V_write_23 (by decide) ?_
        refine lv_icmp_lt (tgt := 34) hx hb d_V_write_24 (by decide) (fun c34 => ?_) (fun c34 => ?_)
        · have hw := hw.1 c34
          exact t_V_write_34 hx hb hml hown hT hK hN hA hRf hRl hE hret  ad NN cells slots o l1 l2 kb nb x H locs ls hNN hag hRc hRs fo hw hW hS (lv_sub hl [0, 1, 2] rfl)
        · have hw := hw.2 c34
          refine lv_iload_n hx hb d_V_write_27 rfl (lv_at hl 2 rfl) ?_
          refine lv_sipush (v := 2000) hx hb d_V_write_28 (by decide) ?_
          refine lv_icmp_le (tgt := 36) hx hb d_V_write_31 (by decide) (fun c35 => ?_) (fun c35 => ?_)
          · have hw := hw.1 c35
            refine lv_aload_n hx hb d_V_write_36 rfl (lv_at hl 0 rfl) ?_
            refine w_getf (q := (stC o 6)) (k := 6) (t := 0) (C := R_V) (T := F_V) (N := 15) hx hb hT hown hK hW fo.1 fo.2 (by decide) in_V rfl rfl (by decide) rfl fr_V_6 w_4_1 d_V_write_37 rfl ?_
            refine w_geti (k := 0) (t := 4) (C := R_Rec) (T := F_Rec) (N := 15) hx hb hT hown hK hW (st_ty hNN fo.1 fo.2 rfl).1 (st_ty hNN fo.1 fo.2 rfl).2 (by decide) in_Rec rfl rfl (by decide) rfl fr_Rec_0 w_1_229 d_V_write_40 ?_
            refine lv_topi (fun v36 ev36 => ?_)
            have hw := hw v36 ev36
            refine lv_istore_n (lv' := [(3, .int v36), (0, .ref (ad o)), (1, .int l1), (2, .int l2)]) hx hb d_V_write_43 rfl hl (by decide) rfl (fun ls hl => ?_)
            refine lv_iload_n hx hb d_V_write_44 rfl (lv_at hl 0 rfl) ?_
            refine lv_iload_n hx hb d_V_write_45 rfl (lv_at hl 3 rfl) ?_
            refine lv_iadd hx hb d_V_write_46 ?_
            refine lv_iconst (v := 1) hx hb d_V_write_47 (by decide) ?_
            refine lv_isub hx hb d_V_write_48 ?_
            refine lv_iload_n hx hb d_V_write_49 rfl (lv_at hl 3 rfl) ?_
            obtain ⟨hz, hw⟩ := hw
            refine lv_idiv hx hb d_V_write_50 hz ?_
            refine lv_topi (fun v37 ev37 => ?_)
            have hw := hw v37 ev37
            refine lv_istore (lv' := [(4, .int v37), (3, .int v36), (0, .ref (ad o)), (1, .int l1), (2, .int l2)]) hx hb d_V_write_51 hl (by decide) rfl (fun ls hl => ?_)
            refine lv_iload hx hb d_V_write_53 (lv_at hl 0 rfl) ?_
            refine lv_sipush (v := 500) hx hb d_V_write_55 (by decide) ?_
            refine lv_icmp_le (tgt := 63) hx hb d_V_write_58 (by decide) (fun c38 => ?_) (fun c38 => ?_)
            · have hw := hw.1 c38
              refine lv_aload_n hx hb d_V_write_63 rfl (lv_at hl 2 rfl) ?_
              refine w_getf (q := (stC o 7)) (k := 7) (t := 0) (C := R_V) (T := F_V) (N := 15) hx hb hT hown hK hW fo.1 fo.2 (by decide) in_V rfl rfl (by decide) rfl fr_V_7 w_4_2 d_V_write_64 rfl ?_
              refine lv_aload_n hx hb d_V_write_67 rfl (lv_at hl 2 rfl) ?_
              obtain ⟨q39, hq39, hw⟩ := hw
              refine w_getr (q := q39) (k := 4) (t := 0) (C := R_V) (T := F_V) (N := 15) hx hb hT hown hK hW fo.1 fo.2 (by decide) in_V rfl rfl (by decide) rfl fr_V_4 w_3_239 d_V_write_68 hq39 (fun aq39 bq39 => ?_)
              have fq39 : q39 < NN ∧ kcC q39 = 3 := ⟨aq39, bq39⟩
              refine lv_aload_n hx hb d_V_write_71 rfl (lv_at hl 2 rfl) ?_
              refine w_getf (q := (stC o 6)) (k := 6) (t := 0) (C := R_V) (T := F_V) (N := 15) hx hb hT hown hK hW fo.1 fo.2 (by decide) in_V rfl rfl (by decide) rfl fr_V_6 w_4_1 d_V_write_72 rfl ?_
              refine lv_iload hx hb d_V_write_75 (lv_at hl 0 rfl) ?_
              obtain ⟨k40, n41, k42, n43, ek40, en41, hw⟩ := hw
              have hF := hW.free hS hA
              refine va_callv (va_runV (C := R_Wrt) (As := [.ref (ad q39), .ref (ad (stC o 6)), .int v37]) (rest := []) ⟨hx, hb, hml, hown, hT⟩ (k_Wrt_begin l dC dI cI cB cJ cZ ad NN E tM tC kK kV hNN H.size (stC o 7) q39 (stC o 6) v37 k40 n41 x (st_ty hNN fo.1 fo.2 rfl) fq39 (st_ty hNN fo.1 fo.2 rfl) hw) ⟨callB_of 3 hT (gwt_in w_5_130) rfl rfl rfl (hT _ w_1_8) (hT _ w_5_127) (by decide +kernel) ⟨Nat.le_trans (Nat.le_of_ble_eq_true rfl) hRf, Nat.le_trans (Nat.le_of_ble_eq_true rfl) hRl⟩, hT _ w_5_128, hT _ w_5_129⟩ ⟨PVc.blind, va_recv hK hW.1 (ci := 5) (q0 := (stC o 7)) rfl (pic_obj (st_ty hNN fo.1 fo.2 rfl).1 (st_ty hNN fo.1 fo.2 rfl).2 (by decide)), PVc.at _ hW hK hN hE hS hF⟩ rfl rfl hl.1 rfl (lv_room (Nat.le_of_ble_eq_true rfl)) d_V_write_77 ⟨show cells + k40 ≤ R.cells by omega, show slots + n41 ≤ R.slots by omega⟩) hS (fun q _ h => hF q h) hF (fun  x44 t H locs ht hvm hw hB hz1 hk1 hS => ?_)
              obtain ⟨x44, ad, NN⟩ := x44
              obtain ⟨hB, hle, hg⟩ := hB
              try dsimp only at hw hB hle hg
              have hW := Wd.back hB ht hF
              rw [← hg o fo.1] at hl
              have fo : o < NN ∧ kcC o = 0 := ⟨Nat.lt_of_lt_of_le fo.1 hle, fo.2⟩
              have fq30 : q30 < NN ∧ kcC q30 = 3 := ⟨Nat.lt_of_lt_of_le fq30.1 hle, fq30.2⟩
              have fq39 : q39 < NN ∧ kcC q39 = 3 := ⟨Nat.lt_of_lt_of_le fq39.1 hle, fq39.2⟩
              have hag : NN0 ≤ NN ∧ ∀ o : Nat, o < NN0 → ad o = ad0 o := ⟨Nat.le_trans hag.1 hle, fun o h => (hg o (Nat.lt_of_lt_of_le h hag.1)).trans (hag.2 o h)⟩
              have hNN : 152 ≤ NN := Nat.le_trans hNN hle
              clear hg hle
              obtain ⟨cells, ec⟩ : ∃ z, z = cells + k40 := ⟨_, rfl⟩
              obtain ⟨slots, es⟩ : ∃ z, z = slots + n41 := ⟨_, rfl⟩
              first | rw [← ec, ← es] | rw [Nat.add_zero, Nat.add_zero, ← ec, ← es]
              have hRc : cells + k42 ≤ R.cells := by omega
              have hRs : slots + n43 ≤ R.slots := by omega
              clear ec es hB ht hF hz1 hk1 hvm ek40 en41
              refine lv_iconst (v := 0) hx hb d_V_write_80 (by decide) ?_
              refine lv_istore (lv' := [(5, .int 0), (4, .int v37), (3, .int v36), (0, .ref (ad o)), (1, .int l1), (2, .int l2)]) hx hb d_V_write_81 hl (by decide) rfl (fun ls hl => ?_)
              obtain ⟨n, hw⟩ := hw
              exact tl_V_write_83 hx hb hml hown hT hK hN hA hRf hRl hE hret  n ad NN cells slots o l1 l2 v36 v37 0 k42 n43 x44 H locs ls hNN hag hRc hRs fo hw hW hS (lv_sub hl [3, 4, 5, 2, 1, 0] rfl)
            · have hw := hw.2 c38
              refine lv_iconst (v := (-1)) hx hb d_V_write_61 (by decide) ?_
              exact hret (-1) ad NN cells slots x H locs 62 ls d_V_write_62 hag (Nat.le_trans (Nat.le_add_right _ _) hRc) (Nat.le_trans (Nat.le_add_right _ _) hRs) hw hW hS
          · have hw := hw.2 c35
            exact t_V_write_34 hx hb hml hown hT hK hN hA hRf hRl hE hret  ad NN cells slots o l1 l2 kb nb x H locs ls hNN hag hRc hRs fo hw hW hS (lv_sub hl [0, 1, 2] rfl)
set_option maxHeartbeats 4000000 in
set_option maxRecDepth 100000 in
theorem k_V_write (l : Launch) (dC : Nat → ClassId) (dI : Nat → Nat → Nat) (cI cB cJ cZ : ClassId) (ad : Nat → Nat) (NN : Nat) (E : Heap) (tM tC : Nat) (kK kV : Nat → Nat) (hNN : 152 ≤ NN) (sz : Nat) (o : Nat) (l1 : Int32) (l2 : Int32) (kb : Nat) (nb : Nat) (x : St) (fo : o < NN ∧ kcC o = 0) {post : Int32 → St → Prop} (hw : wp_V_write post o l1 l2 kb nb x) : Met l y_V_write (wsOf y_V_write b_V_write 8 (some (.int))) ({ frames := 9, cells := kb, slots := nb, locals := 385 }) (va_Pc [.ref (ad o), .int l1, .int l2] (PVc dC dI cI cB cJ cZ ad stC kcC NN E tM tC kK kV sz x)) (va_Qi (fun (r : Int32) (u : St × (Nat → Nat) × Nat) => post r u.1) (fun u t => Wd dC dI cI cB cJ cZ u.2.1 stC kcC u.2.2 (va_A (pic ad stC kcC NN cI cB cJ cZ x) sz) u.1 t.heap ∧ NN ≤ u.2.2 ∧ ∀ o : Nat, o < NN → u.2.1 o = ad o) (va_A (pic ad stC kcC NN cI cB cJ cZ x) sz)) kb nb (va_A (pic ad stC kcC NN cI cB cJ cZ x) sz) := by
  refine Met.ofW (cc := b_V_write) (maxL := 8) (ret := some (.int)) (by decide) rfl ?_
  intro p e s m args below meth c s₁ B hml hv
  obtain ⟨rfl, ⟨hsz, hW0, hK, hN⟩, hE⟩ := hv
  have hx := B.exec
  have hb := B.bytes
  have hr := B.returns
  have hts := atoms_spec B.pre
  have hT : ∀ w ∈ TG, w.before _ s = true := fun w h => hts w (List.mem_cons_of_mem _ h)
  have hown : s.vm.findClass R_V = some m.cls := findClass_of_methodNamed B.named
  have hlocks := B.notSynchronized
  subst hsz
  have hW : Wd dC dI cI cB cJ cZ ad stC kcC NN (va_A (pic ad stC kcC NN cI cB cJ cZ x) s.heap.size) x s.heap := ⟨hW0.1, hW0.2.1.self (sz := s.heap.size), hW0.2.2⟩
  generalize hAe : va_A (pic ad stC kcC NN cI cB cJ cZ x) s.heap.size = A at hW hE ⊢
  have hA : ∀ q : Nat, s.heap.size ≤ q → A q := fun q h => by rw [← hAe]; exact Or.inr h
  have hS : va_S A s.heap s.heap [] := va_S.rf
  have hl := lv_entry ([.ref (ad o), .int l1, .int l2]) (n := 8) (Nat.le_of_ble_eq_true rfl)
  rw [lg_entry_eq]
  generalize (lg_sl ([.ref (ad o), .int l1, .int l2]) ++ List.replicate (8 - (lg_sl ([.ref (ad o), .int l1, .int l2])).length) Slot.unset).toArray = ls at hl ⊢
  have hl : lv_has ls 8 [(0, .ref (ad o)), (1, .int l1), (2, .int l2)] := hl
  exact t_V_write_e hx hb hml hown hT hK hN hA (Nat.le_refl 9) (Nat.le_refl 385) hE (fun r ad1 NN1 cells slots x1 H locs pc ls hd hag hc hs hp hW hS => W.widen (k := kb) (n := nb) hc hs (W.iret (v := r) hx hb hr (fun t ht hM => ⟨⟨r, (x1, ad1, NN1), rfl, hp, Wd.back hW ht.symm (fun _ z => z), hag.1, hag.2⟩, hS.F ht⟩) hS.2.2 hd hlocks))  ad NN 0 0 o l1 l2 kb nb x _ _ ls hNN ⟨Nat.le_refl _, fun _ _ => rfl⟩ (Nat.le_of_eq (Nat.zero_add kb)) (Nat.le_of_eq (Nat.zero_add nb)) fo hw hW hS hl
end
