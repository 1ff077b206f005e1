theorem fr_Mod_60 : F_Mod 60 = (R_Mod, "sheet", "[I", true) := rfl
theorem fr_Mod_64 : F_Mod 64 = (R_Mod, "sheetSize", "I", false) := rfl
theorem fr_Mod_72 : F_Mod 72 = (R_Mod, "numbers", "[I", true) := rfl
theorem w_11_187 : (Jvm.Cond.methodLink "StripedVaultModel" (647 : Nat) ({ cls := "StripedVaultModel", name := "writeRuns", desc := "([III)V" } : Jvm.MethodName)) ∈ TG := tw_11 187 (by decide +kernel) (by decide +kernel)
theorem w_11_189 : (Jvm.Cond.instanceMethod ({ cls := "StripedVaultModel", name := "writeRuns", desc := "([III)V" } : Jvm.MethodName)) ∈ TG := tw_11 189 (by decide +kernel) (by decide +kernel)
theorem w_11_190 : (Jvm.Cond.code ({ cls := "StripedVaultModel", name := "writeRuns", desc := "([III)V" } : Jvm.MethodName) prog_14_method_52_code (11 : Nat) (Option.none : Option Jvm.ClassFile.FieldType)) ∈ TG := tw_11 190 (by decide +kernel) (by decide +kernel)
theorem w_11_191 : (Jvm.Cond.methodLink "StripedVaultModel" (561 : Nat) ({ cls := "StripedVaultModel", name := "alike", desc := "([III)I" } : Jvm.MethodName)) ∈ TG := tw_11 191 (by decide +kernel) (by decide +kernel)
theorem w_11_192 : (Jvm.Cond.static ({ cls := "StripedVaultModel", name := "alike", desc := "([III)I" } : Jvm.MethodName)) ∈ TG := tw_11 192 (by decide +kernel) (by decide +kernel)
theorem w_11_193 : (Jvm.Cond.code ({ cls := "StripedVaultModel", name := "alike", desc := "([III)I" } : Jvm.MethodName) prog_14_method_51_code (4 : Nat) (Option.some Jvm.ClassFile.FieldType.int)) ∈ TG := tw_11 193 (by decide +kernel) (by decide +kernel)
theorem w_11_194 : (Jvm.Cond.constantLong "StripedVaultModel" (565 : Nat) (2 : Int64)) ∈ TG := tw_11 194 (by decide +kernel) (by decide +kernel)
theorem w_11_195 : (Jvm.Cond.methodLink "StripedVaultModel" (567 : Nat) ({ cls := "StripedVaultModel", name := "putVarint", desc := "(J)V" } : Jvm.MethodName)) ∈ TG := tw_11 195 (by decide +kernel) (by decide +kernel)
theorem w_11_197 : (Jvm.Cond.instanceMethod ({ cls := "StripedVaultModel", name := "putVarint", desc := "(J)V" } : Jvm.MethodName)) ∈ TG := tw_11 197 (by decide +kernel) (by decide +kernel)
theorem w_11_198 : (Jvm.Cond.code ({ cls := "StripedVaultModel", name := "putVarint", desc := "(J)V" } : Jvm.MethodName) prog_14_method_48_code (5 : Nat) (Option.none : Option Jvm.ClassFile.FieldType)) ∈ TG := tw_11 198 (by decide +kernel) (by decide +kernel)
theorem w_11_199 : (Jvm.Cond.constantLong "StripedVaultModel" (556 : Nat) (127 : Int64)) ∈ TG := tw_11 199 (by decide +kernel) (by decide +kernel)
theorem w_11_200 : (Jvm.Cond.methodLink "StripedVaultModel" (558 : Nat) ({ cls := "StripedVaultModel", name := "put", desc := "(I)V" } : Jvm.MethodName)) ∈ TG := tw_11 200 (by decide +kernel) (by decide +kernel)
theorem w_11_202 : (Jvm.Cond.instanceMethod ({ cls := "StripedVaultModel", name := "put", desc := "(I)V" } : Jvm.MethodName)) ∈ TG := tw_11 202 (by decide +kernel) (by decide +kernel)
theorem w_11_203 : (Jvm.Cond.code ({ cls := "StripedVaultModel", name := "put", desc := "(I)V" } : Jvm.MethodName) prog_14_method_46_code (2 : Nat) (Option.none : Option Jvm.ClassFile.FieldType)) ∈ TG := tw_11 203 (by decide +kernel) (by decide +kernel)
theorem w_9_0 : (Jvm.Cond.fieldLink "StripedVaultModel" (127 : Nat) "StripedVaultModel" "sheet" "[I") ∈ TG := tw_9 0 (by decide +kernel) (by decide +kernel)
theorem w_9_12 : (Jvm.Cond.fieldLink "StripedVaultModel" (142 : Nat) "StripedVaultModel" "numbers" "[I") ∈ TG := tw_9 12 (by decide +kernel) (by decide +kernel)
theorem w_9_4 : (Jvm.Cond.fieldLink "StripedVaultModel" (547 : Nat) "StripedVaultModel" "sheetSize" "I") ∈ TG := tw_9 4 (by decide +kernel) (by decide +kernel)
theorem ws_152 : Cond.selects R_Mod y_Mod_writeRuns y_Mod_writeRuns ∈ TG := tw_s 152 (by decide +kernel) (by decide +kernel)
theorem ws_153 : Cond.selects R_Mod y_Mod_putVarint y_Mod_putVarint ∈ TG := tw_s 153 (by decide +kernel) (by decide +kernel)
theorem ws_154 : Cond.selects R_Mod y_Mod_put y_Mod_put ∈ TG := tw_s 154 (by decide +kernel) (by decide +kernel)
theorem d_Mod_codings_0 : decode b_Mod_codings 0 = .ok (.aload_n 0, 1) := by decide +kernel
theorem d_Mod_codings_1 : decode b_Mod_codings 1 = .ok (.getfield 623, 3) := by decide +kernel
theorem d_Mod_codings_4 : decode b_Mod_codings 4 = .ok (.ifCond .ne 7, 3) := by decide +kernel
theorem d_Mod_codings_11 : decode b_Mod_codings 11 = .ok (.aload_n 0, 1) := by decide +kernel
theorem d_Mod_codings_12 : decode b_Mod_codings 12 = .ok (.getfield 623, 3) := by decide +kernel
theorem d_Mod_codings_15 : decode b_Mod_codings 15 = .ok (.iconst 3, 1) := by decide +kernel
theorem d_Mod_codings_16 : decode b_Mod_codings 16 = .ok (.if_icmp .ne 7, 3) := by decide +kernel
theorem d_Mod_codings_23 : decode b_Mod_codings 23 = .ok (.iconst 3, 1) := by decide +kernel
theorem d_Mod_codings_24 : decode b_Mod_codings 24 = .ok (.ireturn, 1) := by decide +kernel
theorem d_Mod_codings_19 : decode b_Mod_codings 19 = .ok (.iconst 4, 1) := by decide +kernel
theorem d_Mod_codings_20 : decode b_Mod_codings 20 = .ok (.goto 4, 3) := by decide +kernel
theorem d_Mod_codings_7 : decode b_Mod_codings 7 = .ok (.iconst 2, 1) := by decide +kernel
theorem d_Mod_codings_8 : decode b_Mod_codings 8 = .ok (.goto 16, 3) := by decide +kernel
theorem d_Mod_alike_22 : decode b_Mod_alike 22 = .ok (.iload_n 3, 1) := by decide +kernel
theorem d_Mod_alike_23 : decode b_Mod_alike 23 = .ok (.iload_n 1, 1) := by decide +kernel
theorem d_Mod_alike_24 : decode b_Mod_alike 24 = .ok (.isub, 1) := by decide +kernel
theorem d_Mod_alike_25 : decode b_Mod_alike 25 = .ok (.ireturn, 1) := by decide +kernel
theorem d_Mod_alike_2 : decode b_Mod_alike 2 = .ok (.iload_n 3, 1) := by decide +kernel
theorem d_Mod_alike_3 : decode b_Mod_alike 3 = .ok (.iload_n 2, 1) := by decide +kernel
theorem d_Mod_alike_4 : decode b_Mod_alike 4 = .ok (.if_icmp .ge 18, 3) := by decide +kernel
theorem d_Mod_alike_7 : decode b_Mod_alike 7 = .ok (.aload_n 0, 1) := by decide +kernel
theorem d_Mod_alike_8 : decode b_Mod_alike 8 = .ok (.iload_n 3, 1) := by decide +kernel
theorem d_Mod_alike_9 : decode b_Mod_alike 9 = .ok (.iaload, 1) := by decide +kernel
theorem d_Mod_alike_10 : decode b_Mod_alike 10 = .ok (.aload_n 0, 1) := by decide +kernel
theorem d_Mod_alike_11 : decode b_Mod_alike 11 = .ok (.iload_n 1, 1) := by decide +kernel
theorem d_Mod_alike_12 : decode b_Mod_alike 12 = .ok (.iaload, 1) := by decide +kernel
theorem d_Mod_alike_13 : decode b_Mod_alike 13 = .ok (.if_icmp .ne 9, 3) := by decide +kernel
theorem d_Mod_alike_16 : decode b_Mod_alike 16 = .ok (.iinc 3 1, 3) := by decide +kernel
theorem d_Mod_alike_19 : decode b_Mod_alike 19 = .ok (.goto (-17), 3) := by decide +kernel
theorem d_Mod_alike_0 : decode b_Mod_alike 0 = .ok (.iload_n 1, 1) := by decide +kernel
theorem d_Mod_alike_1 : decode b_Mod_alike 1 = .ok (.istore_n 3, 1) := by decide +kernel
theorem d_Mod_put_26 : decode b_Mod_put 26 = .ok (.aload_n 0, 1) := by decide +kernel
theorem d_Mod_put_27 : decode b_Mod_put 27 = .ok (.dup, 1) := by decide +kernel
theorem d_Mod_put_28 : decode b_Mod_put 28 = .ok (.getfield 547, 3) := by decide +kernel
theorem d_Mod_put_31 : decode b_Mod_put 31 = .ok (.iconst 1, 1) := by decide +kernel
theorem d_Mod_put_32 : decode b_Mod_put 32 = .ok (.iadd, 1) := by decide +kernel
theorem d_Mod_put_33 : decode b_Mod_put 33 = .ok (.putfield 547, 3) := by decide +kernel
theorem d_Mod_put_36 : decode b_Mod_put 36 = .ok (.return_, 1) := by decide +kernel
theorem d_Mod_put_0 : decode b_Mod_put 0 = .ok (.aload_n 0, 1) := by decide +kernel
theorem d_Mod_put_1 : decode b_Mod_put 1 = .ok (.getfield 547, 3) := by decide +kernel
theorem d_Mod_put_4 : decode b_Mod_put 4 = .ok (.aload_n 0, 1) := by decide +kernel
theorem d_Mod_put_5 : decode b_Mod_put 5 = .ok (.getfield 127, 3) := by decide +kernel
theorem d_Mod_put_8 : decode b_Mod_put 8 = .ok (.arraylength, 1) := by decide +kernel
theorem d_Mod_put_9 : decode b_Mod_put 9 = .ok (.if_icmp .ge 17, 3) := by decide +kernel
theorem d_Mod_put_12 : decode b_Mod_put 12 = .ok (.aload_n 0, 1) := by decide +kernel
theorem d_Mod_put_13 : decode b_Mod_put 13 = .ok (.getfield 127, 3) := by decide +kernel
theorem d_Mod_put_16 : decode b_Mod_put 16 = .ok (.aload_n 0, 1) := by decide +kernel
theorem d_Mod_put_17 : decode b_Mod_put 17 = .ok (.getfield 547, 3) := by decide +kernel
theorem d_Mod_put_20 : decode b_Mod_put 20 = .ok (.iload_n 1, 1) := by decide +kernel
theorem d_Mod_put_21 : decode b_Mod_put 21 = .ok (.sipush 255, 3) := by decide +kernel
theorem d_Mod_put_24 : decode b_Mod_put 24 = .ok (.iand, 1) := by decide +kernel
theorem d_Mod_put_25 : decode b_Mod_put 25 = .ok (.iastore, 1) := by decide +kernel
theorem d_Mod_putVarint_16 : decode b_Mod_putVarint 16 = .ok (.aload_n 0, 1) := by decide +kernel
theorem d_Mod_putVarint_17 : decode b_Mod_putVarint 17 = .ok (.lload_n 3, 1) := by decide +kernel
theorem d_Mod_putVarint_18 : decode b_Mod_putVarint 18 = .ok (.ldc2_w 556, 3) := by decide +kernel
theorem d_Mod_putVarint_21 : decode b_Mod_putVarint 21 = .ok (.land, 1) := by decide +kernel
theorem d_Mod_putVarint_22 : decode b_Mod_putVarint 22 = .ok (.l2i, 1) := by decide +kernel
theorem d_Mod_putVarint_23 : decode b_Mod_putVarint 23 = .ok (.sipush 128, 3) := by decide +kernel
theorem d_Mod_putVarint_26 : decode b_Mod_putVarint 26 = .ok (.iadd, 1) := by decide +kernel
theorem d_Mod_putVarint_27 : decode b_Mod_putVarint 27 = .ok (.invokevirtual 558, 3) := by decide +kernel
theorem d_Mod_putVarint_30 : decode b_Mod_putVarint 30 = .ok (.lload_n 3, 1) := by decide +kernel
theorem d_Mod_putVarint_31 : decode b_Mod_putVarint 31 = .ok (.bipush 7, 2) := by decide +kernel
theorem d_Mod_putVarint_33 : decode b_Mod_putVarint 33 = .ok (.lushr, 1) := by decide +kernel
theorem d_Mod_putVarint_34 : decode b_Mod_putVarint 34 = .ok (.lstore_n 3, 1) := by decide +kernel
theorem d_Mod_putVarint_35 : decode b_Mod_putVarint 35 = .ok (.goto (-33), 3) := by decide +kernel
theorem d_Mod_putVarint_2 : decode b_Mod_putVarint 2 = .ok (.lload_n 3, 1) := by decide +kernel
theorem d_Mod_putVarint_3 : decode b_Mod_putVarint 3 = .ok (.lconst 0, 1) := by decide +kernel
theorem d_Mod_putVarint_4 : decode b_Mod_putVarint 4 = .ok (.lcmp, 1) := by decide +kernel
theorem d_Mod_putVarint_5 : decode b_Mod_putVarint 5 = .ok (.ifCond .lt 11, 3) := by decide +kernel
theorem d_Mod_putVarint_8 : decode b_Mod_putVarint 8 = .ok (.lload_n 3, 1) := by decide +kernel
theorem d_Mod_putVarint_9 : decode b_Mod_putVarint 9 = .ok (.ldc2_w 556, 3) := by decide +kernel
theorem d_Mod_putVarint_12 : decode b_Mod_putVarint 12 = .ok (.lcmp, 1) := by decide +kernel
theorem d_Mod_putVarint_13 : decode b_Mod_putVarint 13 = .ok (.ifCond .le 25, 3) := by decide +kernel
theorem d_Mod_putVarint_38 : decode b_Mod_putVarint 38 = .ok (.aload_n 0, 1) := by decide +kernel
theorem d_Mod_putVarint_39 : decode b_Mod_putVarint 39 = .ok (.lload_n 3, 1) := by decide +kernel
theorem d_Mod_putVarint_40 : decode b_Mod_putVarint 40 = .ok (.l2i, 1) := by decide +kernel
theorem d_Mod_putVarint_41 : decode b_Mod_putVarint 41 = .ok (.invokevirtual 558, 3) := by decide +kernel
theorem d_Mod_putVarint_44 : decode b_Mod_putVarint 44 = .ok (.return_, 1) := by decide +kernel
theorem d_Mod_putVarint_0 : decode b_Mod_putVarint 0 = .ok (.lload_n 1, 1) := by decide +kernel
theorem d_Mod_putVarint_1 : decode b_Mod_putVarint 1 = .ok (.lstore_n 3, 1) := by decide +kernel
theorem d_Mod_writeRuns_192 : decode b_Mod_writeRuns 192 = .ok (.iinc 9 1, 3) := by decide +kernel
theorem d_Mod_writeRuns_195 : decode b_Mod_writeRuns 195 = .ok (.goto (-50), 3) := by decide +kernel
theorem d_Mod_writeRuns_145 : decode b_Mod_writeRuns 145 = .ok (.iload 9, 2) := by decide +kernel
theorem d_Mod_writeRuns_147 : decode b_Mod_writeRuns 147 = .ok (.bipush 8, 2) := by decide +kernel
theorem d_Mod_writeRuns_149 : decode b_Mod_writeRuns 149 = .ok (.if_icmp .ge 49, 3) := by decide +kernel
theorem d_Mod_writeRuns_198 : decode b_Mod_writeRuns 198 = .ok (.aload_n 0, 1) := by decide +kernel
theorem d_Mod_writeRuns_199 : decode b_Mod_writeRuns 199 = .ok (.iload 8, 2) := by decide +kernel
theorem d_Mod_writeRuns_201 : decode b_Mod_writeRuns 201 = .ok (.invokevirtual 558, 3) := by decide +kernel
theorem d_Mod_writeRuns_204 : decode b_Mod_writeRuns 204 = .ok (.iinc 7 8, 3) := by decide +kernel
theorem d_Mod_writeRuns_207 : decode b_Mod_writeRuns 207 = .ok (.goto (-80), 3) := by decide +kernel
theorem d_Mod_writeRuns_152 : decode b_Mod_writeRuns 152 = .ok (.iload 4, 2) := by decide +kernel
theorem d_Mod_writeRuns_154 : decode b_Mod_writeRuns 154 = .ok (.iload 7, 2) := by decide +kernel
theorem d_Mod_writeRuns_156 : decode b_Mod_writeRuns 156 = .ok (.iload 9, 2) := by decide +kernel
theorem d_Mod_writeRuns_158 : decode b_Mod_writeRuns 158 = .ok (.iadd, 1) := by decide +kernel
theorem d_Mod_writeRuns_159 : decode b_Mod_writeRuns 159 = .ok (.iload_n 3, 1) := by decide +kernel
theorem d_Mod_writeRuns_160 : decode b_Mod_writeRuns 160 = .ok (.idiv, 1) := by decide +kernel
theorem d_Mod_writeRuns_161 : decode b_Mod_writeRuns 161 = .ok (.iadd, 1) := by decide +kernel
theorem d_Mod_writeRuns_162 : decode b_Mod_writeRuns 162 = .ok (.istore 10, 2) := by decide +kernel
theorem d_Mod_writeRuns_164 : decode b_Mod_writeRuns 164 = .ok (.iload 10, 2) := by decide +kernel
theorem d_Mod_writeRuns_166 : decode b_Mod_writeRuns 166 = .ok (.iload_n 2, 1) := by decide +kernel
theorem d_Mod_writeRuns_167 : decode b_Mod_writeRuns 167 = .ok (.if_icmp .ge 25, 3) := by decide +kernel
theorem d_Mod_writeRuns_170 : decode b_Mod_writeRuns 170 = .ok (.iload 8, 2) := by decide +kernel
theorem d_Mod_writeRuns_172 : decode b_Mod_writeRuns 172 = .ok (.aload_n 1, 1) := by decide +kernel
theorem d_Mod_writeRuns_173 : decode b_Mod_writeRuns 173 = .ok (.iload 10, 2) := by decide +kernel
theorem d_Mod_writeRuns_175 : decode b_Mod_writeRuns 175 = .ok (.iaload, 1) := by decide +kernel
theorem d_Mod_writeRuns_176 : decode b_Mod_writeRuns 176 = .ok (.iload 7, 2) := by decide +kernel
theorem d_Mod_writeRuns_178 : decode b_Mod_writeRuns 178 = .ok (.iload 9, 2) := by decide +kernel
theorem d_Mod_writeRuns_180 : decode b_Mod_writeRuns 180 = .ok (.iadd, 1) := by decide +kernel
theorem d_Mod_writeRuns_181 : decode b_Mod_writeRuns 181 = .ok (.iload_n 3, 1) := by decide +kernel
theorem d_Mod_writeRuns_182 : decode b_Mod_writeRuns 182 = .ok (.irem, 1) := by decide +kernel
theorem d_Mod_writeRuns_183 : decode b_Mod_writeRuns 183 = .ok (.iushr, 1) := by decide +kernel
theorem d_Mod_writeRuns_184 : decode b_Mod_writeRuns 184 = .ok (.iconst 1, 1) := by decide +kernel
theorem d_Mod_writeRuns_185 : decode b_Mod_writeRuns 185 = .ok (.iand, 1) := by decide +kernel
theorem d_Mod_writeRuns_186 : decode b_Mod_writeRuns 186 = .ok (.iload 9, 2) := by decide +kernel
theorem d_Mod_writeRuns_188 : decode b_Mod_writeRuns 188 = .ok (.ishl, 1) := by decide +kernel
theorem d_Mod_writeRuns_189 : decode b_Mod_writeRuns 189 = .ok (.ior, 1) := by decide +kernel
theorem d_Mod_writeRuns_190 : decode b_Mod_writeRuns 190 = .ok (.istore 8, 2) := by decide +kernel
theorem d_Mod_writeRuns_127 : decode b_Mod_writeRuns 127 = .ok (.iload 7, 2) := by decide +kernel
theorem d_Mod_writeRuns_129 : decode b_Mod_writeRuns 129 = .ok (.bipush 8, 2) := by decide +kernel
theorem d_Mod_writeRuns_131 : decode b_Mod_writeRuns 131 = .ok (.iload_n 3, 1) := by decide +kernel
theorem d_Mod_writeRuns_132 : decode b_Mod_writeRuns 132 = .ok (.imul, 1) := by decide +kernel
theorem d_Mod_writeRuns_133 : decode b_Mod_writeRuns 133 = .ok (.iload 6, 2) := by decide +kernel
theorem d_Mod_writeRuns_135 : decode b_Mod_writeRuns 135 = .ok (.imul, 1) := by decide +kernel
theorem d_Mod_writeRuns_136 : decode b_Mod_writeRuns 136 = .ok (.if_icmp .ge 74, 3) := by decide +kernel
theorem d_Mod_writeRuns_210 : decode b_Mod_writeRuns 210 = .ok (.iload 4, 2) := by decide +kernel
theorem d_Mod_writeRuns_212 : decode b_Mod_writeRuns 212 = .ok (.bipush 8, 2) := by decide +kernel
theorem d_Mod_writeRuns_214 : decode b_Mod_writeRuns 214 = .ok (.iload 6, 2) := by decide +kernel
theorem d_Mod_writeRuns_216 : decode b_Mod_writeRuns 216 = .ok (.imul, 1) := by decide +kernel
theorem d_Mod_writeRuns_217 : decode b_Mod_writeRuns 217 = .ok (.iadd, 1) := by decide +kernel
theorem d_Mod_writeRuns_218 : decode b_Mod_writeRuns 218 = .ok (.istore 4, 2) := by decide +kernel
theorem d_Mod_writeRuns_220 : decode b_Mod_writeRuns 220 = .ok (.goto (-217), 3) := by decide +kernel
theorem d_Mod_writeRuns_139 : decode b_Mod_writeRuns 139 = .ok (.iconst 0, 1) := by decide +kernel
theorem d_Mod_writeRuns_140 : decode b_Mod_writeRuns 140 = .ok (.istore 8, 2) := by decide +kernel
theorem d_Mod_writeRuns_142 : decode b_Mod_writeRuns 142 = .ok (.iconst 0, 1) := by decide +kernel
theorem d_Mod_writeRuns_143 : decode b_Mod_writeRuns 143 = .ok (.istore 9, 2) := by decide +kernel
theorem d_Mod_writeRuns_111 : decode b_Mod_writeRuns 111 = .ok (.aload_n 0, 1) := by decide +kernel
theorem d_Mod_writeRuns_112 : decode b_Mod_writeRuns 112 = .ok (.ldc2_w 565, 3) := by decide +kernel
theorem d_Mod_writeRuns_115 : decode b_Mod_writeRuns 115 = .ok (.iload 6, 2) := by decide +kernel
theorem d_Mod_writeRuns_117 : decode b_Mod_writeRuns 117 = .ok (.i2l, 1) := by decide +kernel
theorem d_Mod_writeRuns_118 : decode b_Mod_writeRuns 118 = .ok (.lmul, 1) := by decide +kernel
theorem d_Mod_writeRuns_119 : decode b_Mod_writeRuns 119 = .ok (.lconst 1, 1) := by decide +kernel
theorem d_Mod_writeRuns_120 : decode b_Mod_writeRuns 120 = .ok (.ladd, 1) := by decide +kernel
theorem d_Mod_writeRuns_121 : decode b_Mod_writeRuns 121 = .ok (.invokevirtual 567, 3) := by decide +kernel
theorem d_Mod_writeRuns_124 : decode b_Mod_writeRuns 124 = .ok (.iconst 0, 1) := by decide +kernel
theorem d_Mod_writeRuns_125 : decode b_Mod_writeRuns 125 = .ok (.istore 7, 2) := by decide +kernel
theorem d_Mod_writeRuns_75 : decode b_Mod_writeRuns 75 = .ok (.iload 4, 2) := by decide +kernel
theorem d_Mod_writeRuns_77 : decode b_Mod_writeRuns 77 = .ok (.bipush 8, 2) := by decide +kernel
theorem d_Mod_writeRuns_79 : decode b_Mod_writeRuns 79 = .ok (.iload 6, 2) := by decide +kernel
theorem d_Mod_writeRuns_81 : decode b_Mod_writeRuns 81 = .ok (.imul, 1) := by decide +kernel
theorem d_Mod_writeRuns_82 : decode b_Mod_writeRuns 82 = .ok (.iadd, 1) := by decide +kernel
theorem d_Mod_writeRuns_83 : decode b_Mod_writeRuns 83 = .ok (.iload_n 2, 1) := by decide +kernel
theorem d_Mod_writeRuns_84 : decode b_Mod_writeRuns 84 = .ok (.if_icmp .ge 27, 3) := by decide +kernel
theorem d_Mod_writeRuns_87 : decode b_Mod_writeRuns 87 = .ok (.aload_n 1, 1) := by decide +kernel
theorem d_Mod_writeRuns_88 : decode b_Mod_writeRuns 88 = .ok (.iload 4, 2) := by decide +kernel
theorem d_Mod_writeRuns_90 : decode b_Mod_writeRuns 90 = .ok (.bipush 8, 2) := by decide +kernel
theorem d_Mod_writeRuns_92 : decode b_Mod_writeRuns 92 = .ok (.iload 6, 2) := by decide +kernel
theorem d_Mod_writeRuns_94 : decode b_Mod_writeRuns 94 = .ok (.imul, 1) := by decide +kernel
theorem d_Mod_writeRuns_95 : decode b_Mod_writeRuns 95 = .ok (.iadd, 1) := by decide +kernel
theorem d_Mod_writeRuns_96 : decode b_Mod_writeRuns 96 = .ok (.iload_n 2, 1) := by decide +kernel
theorem d_Mod_writeRuns_97 : decode b_Mod_writeRuns 97 = .ok (.invokestatic 561, 3) := by decide +kernel
theorem d_Mod_writeRuns_100 : decode b_Mod_writeRuns 100 = .ok (.bipush 8, 2) := by decide +kernel
theorem d_Mod_writeRuns_102 : decode b_Mod_writeRuns 102 = .ok (.if_icmp .ge 9, 3) := by decide +kernel
theorem d_Mod_writeRuns_105 : decode b_Mod_writeRuns 105 = .ok (.iinc 6 1, 3) := by decide +kernel
theorem d_Mod_writeRuns_108 : decode b_Mod_writeRuns 108 = .ok (.goto (-33), 3) := by decide +kernel
theorem d_Mod_writeRuns_39 : decode b_Mod_writeRuns 39 = .ok (.iload 6, 2) := by decide +kernel
theorem d_Mod_writeRuns_41 : decode b_Mod_writeRuns 41 = .ok (.iload_n 3, 1) := by decide +kernel
theorem d_Mod_writeRuns_42 : decode b_Mod_writeRuns 42 = .ok (.if_icmp .ge 20, 3) := by decide +kernel
theorem d_Mod_writeRuns_62 : decode b_Mod_writeRuns 62 = .ok (.iload 4, 2) := by decide +kernel
theorem d_Mod_writeRuns_64 : decode b_Mod_writeRuns 64 = .ok (.iload 5, 2) := by decide +kernel
theorem d_Mod_writeRuns_66 : decode b_Mod_writeRuns 66 = .ok (.iadd, 1) := by decide +kernel
theorem d_Mod_writeRuns_67 : decode b_Mod_writeRuns 67 = .ok (.istore 4, 2) := by decide +kernel
theorem d_Mod_writeRuns_69 : decode b_Mod_writeRuns 69 = .ok (.goto (-66), 3) := by decide +kernel
theorem d_Mod_writeRuns_45 : decode b_Mod_writeRuns 45 = .ok (.aload_n 0, 1) := by decide +kernel
theorem d_Mod_writeRuns_46 : decode b_Mod_writeRuns 46 = .ok (.aload_n 1, 1) := by decide +kernel
theorem d_Mod_writeRuns_47 : decode b_Mod_writeRuns 47 = .ok (.iload 4, 2) := by decide +kernel
theorem d_Mod_writeRuns_49 : decode b_Mod_writeRuns 49 = .ok (.iaload, 1) := by decide +kernel
theorem d_Mod_writeRuns_50 : decode b_Mod_writeRuns 50 = .ok (.iload 6, 2) := by decide +kernel
theorem d_Mod_writeRuns_52 : decode b_Mod_writeRuns 52 = .ok (.ishr, 1) := by decide +kernel
theorem d_Mod_writeRuns_53 : decode b_Mod_writeRuns 53 = .ok (.invokevirtual 558, 3) := by decide +kernel
theorem d_Mod_writeRuns_56 : decode b_Mod_writeRuns 56 = .ok (.iinc 6 8, 3) := by decide +kernel
theorem d_Mod_writeRuns_59 : decode b_Mod_writeRuns 59 = .ok (.goto (-20), 3) := by decide +kernel
theorem d_Mod_writeRuns_3 : decode b_Mod_writeRuns 3 = .ok (.iload 4, 2) := by decide +kernel
theorem d_Mod_writeRuns_5 : decode b_Mod_writeRuns 5 = .ok (.iload_n 2, 1) := by decide +kernel
theorem d_Mod_writeRuns_6 : decode b_Mod_writeRuns 6 = .ok (.if_icmp .ge 217, 3) := by decide +kernel
theorem d_Mod_writeRuns_223 : decode b_Mod_writeRuns 223 = .ok (.return_, 1) := by decide +kernel
theorem d_Mod_writeRuns_9 : decode b_Mod_writeRuns 9 = .ok (.aload_n 1, 1) := by decide +kernel
theorem d_Mod_writeRuns_10 : decode b_Mod_writeRuns 10 = .ok (.iload 4, 2) := by decide +kernel
theorem d_Mod_writeRuns_12 : decode b_Mod_writeRuns 12 = .ok (.iload_n 2, 1) := by decide +kernel
theorem d_Mod_writeRuns_13 : decode b_Mod_writeRuns 13 = .ok (.invokestatic 561, 3) := by decide +kernel
theorem d_Mod_writeRuns_16 : decode b_Mod_writeRuns 16 = .ok (.istore 5, 2) := by decide +kernel
theorem d_Mod_writeRuns_18 : decode b_Mod_writeRuns 18 = .ok (.iload 5, 2) := by decide +kernel
theorem d_Mod_writeRuns_20 : decode b_Mod_writeRuns 20 = .ok (.bipush 8, 2) := by decide +kernel
theorem d_Mod_writeRuns_22 : decode b_Mod_writeRuns 22 = .ok (.if_icmp .lt 50, 3) := by decide +kernel
theorem d_Mod_writeRuns_72 : decode b_Mod_writeRuns 72 = .ok (.iconst 1, 1) := by decide +kernel
theorem d_Mod_writeRuns_73 : decode b_Mod_writeRuns 73 = .ok (.istore 6, 2) := by decide +kernel
theorem d_Mod_writeRuns_25 : decode b_Mod_writeRuns 25 = .ok (.aload_n 0, 1) := by decide +kernel
theorem d_Mod_writeRuns_26 : decode b_Mod_writeRuns 26 = .ok (.ldc2_w 565, 3) := by decide +kernel
theorem d_Mod_writeRuns_29 : decode b_Mod_writeRuns 29 = .ok (.iload 5, 2) := by decide +kernel
theorem d_Mod_writeRuns_31 : decode b_Mod_writeRuns 31 = .ok (.i2l, 1) := by decide +kernel
theorem d_Mod_writeRuns_32 : decode b_Mod_writeRuns 32 = .ok (.lmul, 1) := by decide +kernel
theorem d_Mod_writeRuns_33 : decode b_Mod_writeRuns 33 = .ok (.invokevirtual 567, 3) := by decide +kernel
theorem d_Mod_writeRuns_36 : decode b_Mod_writeRuns 36 = .ok (.iconst 0, 1) := by decide +kernel
theorem d_Mod_writeRuns_37 : decode b_Mod_writeRuns 37 = .ok (.istore 6, 2) := by decide +kernel
theorem d_Mod_writeRuns_0 : decode b_Mod_writeRuns 0 = .ok (.iconst 0, 1) := by decide +kernel
theorem d_Mod_writeRuns_1 : decode b_Mod_writeRuns 1 = .ok (.istore 4, 2) := by decide +kernel
theorem d_Mod_writeBools_105 : decode b_Mod_writeBools 105 = .ok (.aload_n 0, 1) := by decide +kernel
theorem d_Mod_writeBools_106 : decode b_Mod_writeBools 106 = .ok (.iload_n 3, 1) := by decide +kernel
theorem d_Mod_writeBools_107 : decode b_Mod_writeBools 107 = .ok (.invokevirtual 558, 3) := by decide +kernel
theorem d_Mod_writeBools_110 : decode b_Mod_writeBools 110 = .ok (.iinc 2 8, 3) := by decide +kernel
theorem d_Mod_writeBools_113 : decode b_Mod_writeBools 113 = .ok (.goto (-64), 3) := by decide +kernel
theorem d_Mod_writeBools_66 : decode b_Mod_writeBools 66 = .ok (.iload 4, 2) := by decide +kernel
theorem d_Mod_writeBools_68 : decode b_Mod_writeBools 68 = .ok (.bipush 8, 2) := by decide +kernel
theorem d_Mod_writeBools_70 : decode b_Mod_writeBools 70 = .ok (.if_icmp .ge 35, 3) := by decide +kernel
theorem d_Mod_writeBools_73 : decode b_Mod_writeBools 73 = .ok (.iload_n 2, 1) := by decide +kernel
theorem d_Mod_writeBools_74 : decode b_Mod_writeBools 74 = .ok (.iload 4, 2) := by decide +kernel
theorem d_Mod_writeBools_76 : decode b_Mod_writeBools 76 = .ok (.iadd, 1) := by decide +kernel
theorem d_Mod_writeBools_77 : decode b_Mod_writeBools 77 = .ok (.aload_n 0, 1) := by decide +kernel
theorem d_Mod_writeBools_78 : decode b_Mod_writeBools 78 = .ok (.getfield 632, 3) := by decide +kernel
theorem d_Mod_writeBools_81 : decode b_Mod_writeBools 81 = .ok (.if_icmp .ge 24, 3) := by decide +kernel
theorem d_Mod_writeBools_84 : decode b_Mod_writeBools 84 = .ok (.iload_n 3, 1) := by decide +kernel
theorem d_Mod_writeBools_85 : decode b_Mod_writeBools 85 = .ok (.aload_n 0, 1) := by decide +kernel
theorem d_Mod_writeBools_86 : decode b_Mod_writeBools 86 = .ok (.getfield 142, 3) := by decide +kernel
theorem d_Mod_writeBools_89 : decode b_Mod_writeBools 89 = .ok (.iload_n 2, 1) := by decide +kernel
theorem d_Mod_writeBools_90 : decode b_Mod_writeBools 90 = .ok (.iload 4, 2) := by decide +kernel
theorem d_Mod_writeBools_92 : decode b_Mod_writeBools 92 = .ok (.iadd, 1) := by decide +kernel
theorem d_Mod_writeBools_93 : decode b_Mod_writeBools 93 = .ok (.iaload, 1) := by decide +kernel
theorem d_Mod_writeBools_94 : decode b_Mod_writeBools 94 = .ok (.iload 4, 2) := by decide +kernel
theorem d_Mod_writeBools_96 : decode b_Mod_writeBools 96 = .ok (.ishl, 1) := by decide +kernel
theorem d_Mod_writeBools_97 : decode b_Mod_writeBools 97 = .ok (.ior, 1) := by decide +kernel
theorem d_Mod_writeBools_98 : decode b_Mod_writeBools 98 = .ok (.istore_n 3, 1) := by decide +kernel
theorem d_Mod_writeBools_99 : decode b_Mod_writeBools 99 = .ok (.iinc 4 1, 3) := by decide +kernel
theorem d_Mod_writeBools_102 : decode b_Mod_writeBools 102 = .ok (.goto (-36), 3) := by decide +kernel
theorem d_Mod_writeBools_49 : decode b_Mod_writeBools 49 = .ok (.iload_n 2, 1) := by decide +kernel
theorem d_Mod_writeBools_50 : decode b_Mod_writeBools 50 = .ok (.aload_n 0, 1) := by decide +kernel
theorem d_Mod_writeBools_51 : decode b_Mod_writeBools 51 = .ok (.getfield 632, 3) := by decide +kernel
theorem d_Mod_writeBools_54 : decode b_Mod_writeBools 54 = .ok (.if_icmp .ge 62, 3) := by decide +kernel
theorem d_Mod_writeBools_116 : decode b_Mod_writeBools 116 = .ok (.return_, 1) := by decide +kernel
theorem d_Mod_writeBools_57 : decode b_Mod_writeBools 57 = .ok (.iload_n 1, 1) := by decide +kernel
theorem d_Mod_writeBools_58 : decode b_Mod_writeBools 58 = .ok (.ifCond .ne 58, 3) := by decide +kernel
theorem d_Mod_writeBools_61 : decode b_Mod_writeBools 61 = .ok (.iconst 0, 1) := by decide +kernel
theorem d_Mod_writeBools_62 : decode b_Mod_writeBools 62 = .ok (.istore_n 3, 1) := by decide +kernel
theorem d_Mod_writeBools_63 : decode b_Mod_writeBools 63 = .ok (.iconst 0, 1) := by decide +kernel
theorem d_Mod_writeBools_64 : decode b_Mod_writeBools 64 = .ok (.istore 4, 2) := by decide +kernel
theorem d_Mod_writeBools_47 : decode b_Mod_writeBools 47 = .ok (.iconst 0, 1) := by decide +kernel
theorem d_Mod_writeBools_48 : decode b_Mod_writeBools 48 = .ok (.istore_n 2, 1) := by decide +kernel
theorem d_Mod_writeBools_2 : decode b_Mod_writeBools 2 = .ok (.iload_n 2, 1) := by decide +kernel
theorem d_Mod_writeBools_3 : decode b_Mod_writeBools 3 = .ok (.aload_n 0, 1) := by decide +kernel
theorem d_Mod_writeBools_4 : decode b_Mod_writeBools 4 = .ok (.getfield 632, 3) := by decide +kernel
theorem d_Mod_writeBools_7 : decode b_Mod_writeBools 7 = .ok (.if_icmp .ge 22, 3) := by decide +kernel
theorem d_Mod_writeBools_29 : decode b_Mod_writeBools 29 = .ok (.iload_n 1, 1) := by decide +kernel
theorem d_Mod_writeBools_30 : decode b_Mod_writeBools 30 = .ok (.iconst 1, 1) := by decide +kernel
theorem d_Mod_writeBools_31 : decode b_Mod_writeBools 31 = .ok (.if_icmp .ne 16, 3) := by decide +kernel
theorem d_Mod_writeBools_34 : decode b_Mod_writeBools 34 = .ok (.aload_n 0, 1) := by decide +kernel
theorem d_Mod_writeBools_35 : decode b_Mod_writeBools 35 = .ok (.aload_n 0, 1) := by decide +kernel
theorem d_Mod_writeBools_36 : decode b_Mod_writeBools 36 = .ok (.getfield 142, 3) := by decide +kernel
theorem d_Mod_writeBools_39 : decode b_Mod_writeBools 39 = .ok (.aload_n 0, 1) := by decide +kernel
theorem d_Mod_writeBools_40 : decode b_Mod_writeBools 40 = .ok (.getfield 632, 3) := by decide +kernel
theorem d_Mod_writeBools_43 : decode b_Mod_writeBools 43 = .ok (.iconst 1, 1) := by decide +kernel
theorem d_Mod_writeBools_44 : decode b_Mod_writeBools 44 = .ok (.invokevirtual 647, 3) := by decide +kernel
theorem d_Mod_writeBools_10 : decode b_Mod_writeBools 10 = .ok (.aload_n 0, 1) := by decide +kernel
theorem d_Mod_writeBools_11 : decode b_Mod_writeBools 11 = .ok (.getfield 142, 3) := by decide +kernel
theorem d_Mod_writeBools_14 : decode b_Mod_writeBools 14 = .ok (.iload_n 2, 1) := by decide +kernel
theorem d_Mod_writeBools_15 : decode b_Mod_writeBools 15 = .ok (.aload_n 0, 1) := by decide +kernel
theorem d_Mod_writeBools_16 : decode b_Mod_writeBools 16 = .ok (.getfield 100, 3) := by decide +kernel
theorem d_Mod_writeBools_19 : decode b_Mod_writeBools 19 = .ok (.iload_n 2, 1) := by decide +kernel
theorem d_Mod_writeBools_20 : decode b_Mod_writeBools 20 = .ok (.laload, 1) := by decide +kernel
theorem d_Mod_writeBools_21 : decode b_Mod_writeBools 21 = .ok (.l2i, 1) := by decide +kernel
theorem d_Mod_writeBools_22 : decode b_Mod_writeBools 22 = .ok (.iastore, 1) := by decide +kernel
theorem d_Mod_writeBools_23 : decode b_Mod_writeBools 23 = .ok (.iinc 2 1, 3) := by decide +kernel
theorem d_Mod_writeBools_26 : decode b_Mod_writeBools 26 = .ok (.goto (-24), 3) := by decide +kernel
theorem d_Mod_writeBools_0 : decode b_Mod_writeBools 0 = .ok (.iconst 0, 1) := by decide +kernel
theorem d_Mod_writeBools_1 : decode b_Mod_writeBools 1 = .ok (.istore_n 2, 1) := by decide +kernel
section
variable (l : Launch) (dC : Nat → ClassId) (dI : Nat → Nat → Nat) (cI cB cJ cZ : ClassId)
set_option maxRecDepth 100000 in
def wp_Mod_codings (post : Int32 → St → Prop)  (x : St) : Prop := ((¬ (fI x 0 38) = 0 → ((¬ (fI x 0 38) = 3 → post 3 x) ∧ ((fI x 0 38) = 3 → post 4 x))) ∧ ((fI x 0 38) = 0 → post 2 x))
set_option maxHeartbeats 4000000 in
set_option maxRecDepth 100000 in
theorem t_Mod_codings_e {p : Program} {l : Launch} {e : Env} {R : Room} {s : State} {m : MethodId} {args : Array Value} {below : List Frame} {meth : Method} {c : Code} {cells slots : Nat} {Q : State → Prop} {dC : Nat → ClassId} {dI : Nat → Nat → Nat} {cI cB cJ cZ : ClassId} {A : Nat → Prop} {ad : Nat → Nat} {post : Int32 → St → Prop} (hx : p.tables.exec = Jvm.exec) (hb : c.code = b_Mod_codings) (hml : c.maxLocals = 1) (hown : s.vm.findClass R_Mod = some m.cls) (hT : ∀ w ∈ TG, w.before args s = true) (hK : va_K (dC, dI) CL (TY cI cB cJ cZ) s) (hN : NW s) (hA : ∀ q : Nat, s.heap.size ≤ q → A q) (hRc : cells ≤ R.cells) (hRs : slots ≤ R.slots) (hRf : 0 ≤ R.frames) (hRl : 0 ≤ R.locals) (hret : ∀ (r : Int32) (x : St) (H : Heap) (locs : List Loc) (pc : Nat) (ls : Array Slot), decode b_Mod_codings pc = .ok (.ireturn, 1) → post r x → Wd dC dI cI cB cJ cZ ad stM kcM 115 A x H → va_S A s.heap H locs → W p l e R s m args below meth c H locs cells slots Q (F0 m pc ls [.int r])) : ∀  (x : St) (H : Heap) (locs : List Loc) (ls : Array Slot), wp_Mod_codings post  x → Wd dC dI cI cB cJ cZ ad stM kcM 115 A x H → va_S A s.heap H locs → lv_has ls 1 [(0, .ref (ad 0))] → W p l e R s m args below meth c H locs cells slots Q (F0 m 0 ls []) := by
  intro  x H locs ls  hw hW hS hl
  unfold wp_Mod_codings at hw
  refine lv_aload_n hx hb d_Mod_codings_0 rfl (lv_at hl 0 rfl) ?_
  refine w_geti (k := 38) (t := 12) (C := R_Mod) (T := F_Mod) (N := 167) hx hb hT hown hK hW ko_0.1 ko_0.2 (by decide) in_Mod rfl rfl (by decide) rfl fr_Mod_38 w_8_218 d_Mod_codings_1 ?_
  refine lv_if_ne (tgt := 11) hx hb d_Mod_codings_4 (by decide) (fun c496 => ?_) (fun c496 => ?_)
  · have hw := hw.1 c496
    refine lv_aload_n hx hb d_Mod_codings_11 rfl (lv_at hl 0 rfl) ?_
    refine w_geti (k := 38) (t := 12) (C := R_Mod) (T := F_Mod) (N := 167) hx hb hT hown hK hW ko_0.1 ko_0.2 (by decide) in_Mod rfl rfl (by decide) rfl fr_Mod_38 w_8_218 d_Mod_codings_12 ?_
    refine lv_iconst (v := 3) hx hb d_Mod_codings_15 (by decide) ?_
    refine lv_icmp_ne (tgt := 23) hx hb d_Mod_codings_16 (by decide) (fun c497 => ?_) (fun c497 => ?_)
    · have hw := hw.1 c497
      refine lv_iconst (v := 3) hx hb d_Mod_codings_23 (by decide) ?_
      exact hret 3 x H locs 24 ls d_Mod_codings_24 hw hW hS
    · have hw := hw.2 c497
      refine lv_iconst (v := 4) hx hb d_Mod_codings_19 (by decide) ?_
      refine lv_goto (tgt := 24) hx hb d_Mod_codings_20 (by decide) ?_
      exact hret 4 x H locs 24 ls d_Mod_codings_24 hw hW hS
  · have hw := hw.2 c496
    refine lv_iconst (v := 2) hx hb d_Mod_codings_7 (by decide) ?_
    refine lv_goto (tgt := 24) hx hb d_Mod_codings_8 (by decide) ?_
    exact hret 2 x H locs 24 ls d_Mod_codings_24 hw hW hS
set_option maxHeartbeats 4000000 in
set_option maxRecDepth 100000 in
theorem k_Mod_codings (l : Launch) (dC : Nat → ClassId) (dI : Nat → Nat → Nat) (cI cB cJ cZ : ClassId) (ad : Nat → Nat) (sz : Nat)  (x : St) {post : Int32 → St → Prop} (hw : wp_Mod_codings post  x) : Met l y_Mod_codings (wsOf y_Mod_codings b_Mod_codings 1 (some (.int))) ({ frames := 0, cells := 0, slots := 0, locals := 0 }) (va_Pc [.ref (ad 0)] (PW dC dI cI cB cJ cZ ad stM kcM 115 sz x)) (va_Qi (fun (r : Int32) (y : St) => post r y) (fun y t => Wd dC dI cI cB cJ cZ ad stM kcM 115 (va_A (pic ad stM kcM 115 cI cB cJ cZ x) sz) y t.heap) (va_A (pic ad stM kcM 115 cI cB cJ cZ x) sz)) 0 0 (va_A (pic ad stM kcM 115 cI cB cJ cZ x) sz) := by
  refine Met.ofW (cc := b_Mod_codings) (maxL := 1) (ret := some (.int)) (by decide) rfl ?_
  intro p e s m args below meth c s₁ B hml hv
  obtain ⟨rfl, hsz, hW0, hK, hN⟩ := hv
  have hx := B.exec
  have hb := B.bytes
  have hr := B.returns
  have hts := atoms_spec B.pre
  have hT : ∀ w ∈ TG, w.before _ s = true := fun w h => hts w (List.mem_cons_of_mem _ h)
  have hown : s.vm.findClass R_Mod = some m.cls := findClass_of_methodNamed B.named
  have hlocks := B.notSynchronized
  subst hsz
  have hW : Wd dC dI cI cB cJ cZ ad stM kcM 115 (va_A (pic ad stM kcM 115 cI cB cJ cZ x) s.heap.size) x s.heap := ⟨hW0.1, hW0.2.1.self (sz := s.heap.size), hW0.2.2⟩
  generalize hAe : va_A (pic ad stM kcM 115 cI cB cJ cZ x) s.heap.size = A at hW ⊢
  have hA : ∀ q : Nat, s.heap.size ≤ q → A q := fun q h => by rw [← hAe]; exact Or.inr h
  have hS : va_S A s.heap s.heap [] := va_S.rf
  have hl := lv_entry ([.ref (ad 0)]) (n := 1) (Nat.le_of_ble_eq_true rfl)
  rw [lg_entry_eq]
  generalize (lg_sl ([.ref (ad 0)]) ++ List.replicate (1 - (lg_sl ([.ref (ad 0)])).length) Slot.unset).toArray = ls at hl ⊢
  have hl : lv_has ls 1 [(0, .ref (ad 0))] := hl
  exact t_Mod_codings_e hx hb hml hown hT hK hN hA (Nat.le_refl 0) (Nat.le_refl 0) (Nat.le_refl 0) (Nat.le_refl 0) (fun r x H locs pc ls hd hp hW hS => W.iret (v := r) hx hb hr (fun t ht hM => ⟨⟨r, x, rfl, hp, Wd.back hW ht.symm (fun _ z => z)⟩, hS.F ht⟩) hS.2.2 hd hlocks)   x _ _ ls  hw hW hS hl
set_option maxRecDepth 100000 in
def j_Mod_alike_22 (post : Int32 → St → Prop) (l0 : Nat) (l1 : Int32) (l2 : Int32) (l3 : Int32) (x : St) : Prop := post (l3 - l1) x
set_option maxHeartbeats 4000000 in
set_option maxRecDepth 100000 in
theorem t_Mod_alike_22 {p : Program} {l : Launch} {e : Env} {R : Room} {s : State} {m : MethodId} {args : Array Value} {below : List Frame} {meth : Method} {c : Code} {cells slots : Nat} {Q : State → Prop} {dC : Nat → ClassId} {dI : Nat → Nat → Nat} {cI cB cJ cZ : ClassId} {A : Nat → Prop} {ad : Nat → Nat} {post : Int32 → St → Prop} (hx : p.tables.exec = Jvm.exec) (hb : c.code = b_Mod_alike) (hml : c.maxLocals = 4) (hown : s.vm.findClass R_Mod = some m.cls) (hT : ∀ w ∈ TG, w.before args s = true) (hK : va_K (dC, dI) CL (TY cI cB cJ cZ) s) (hN : NW s) (hA : ∀ q : Nat, s.heap.size ≤ q → A q) (hRc : cells ≤ R.cells) (hRs : slots ≤ R.slots) (hRf : 0 ≤ R.frames) (hRl : 0 ≤ R.locals) (hret : ∀ (r : Int32) (x : St) (H : Heap) (locs : List Loc) (pc : Nat) (ls : Array Slot), decode b_Mod_alike pc = .ok (.ireturn, 1) → post r x → Wd dC dI cI cB cJ cZ ad stM kcM 115 A x H → va_S A s.heap H locs → W p l e R s m args below meth c H locs cells slots Q (F0 m pc ls [.int r]))  : ∀ (l0 : Nat) (l1 : Int32) (l2 : Int32) (l3 : Int32) (x : St) (H : Heap) (locs : List Loc) (ls : Array Slot), (l0 < 115 ∧ kcM l0 = 20) → j_Mod_alike_22 post l0 l1 l2 l3 x → Wd dC dI cI cB cJ cZ ad stM kcM 115 A x H → va_S A s.heap H locs → lv_has ls 4 [(0, .ref (ad l0)), (1, .int l1), (2, .int l2), (3, .int l3)] → W p l e R s m args below meth c H locs cells slots Q (F0 m 22 ls []) := by
  intro l0 l1 l2 l3 x H locs ls fl0 hw hW hS hl
  unfold j_Mod_alike_22 at hw
  refine lv_iload_n hx hb d_Mod_alike_22 rfl (lv_at hl 3 rfl) ?_
  refine lv_iload_n hx hb d_Mod_alike_23 rfl (lv_at hl 1 rfl) ?_
  refine lv_isub hx hb d_Mod_alike_24 ?_
  exact hret (l3 - l1) x H locs 25 ls d_Mod_alike_25 hw hW hS
set_option maxRecDepth 100000 in
def j_Mod_alike_2 (post : Int32 → St → Prop) (rec2 : Nat → Int32 → Int32 → Int32 → St → Prop) (l0 : Nat) (l1 : Int32) (l2 : Int32) (l3 : Int32) (x : St) : Prop := ((l2 ≤ l3 → j_Mod_alike_22 post l0 l1 l2 l3 x) ∧ (¬ l2 ≤ l3 → (vp_in l3 (fN x l0) ∧ (vp_in l1 (fN x l0) ∧ ((¬ (rA x l0 l3) = (rA x l0 l1) → j_Mod_alike_22 post l0 l1 l2 l3 x) ∧ ((rA x l0 l3) = (rA x l0 l1) → rec2 l0 l1 l2 (l3 + 1) x))))))
set_option maxHeartbeats 4000000 in
set_option maxRecDepth 100000 in
theorem t_Mod_alike_2 {p : Program} {l : Launch} {e : Env} {R : Room} {s : State} {m : MethodId} {args : Array Value} {below : List Frame} {meth : Method} {c : Code} {cells slots : Nat} {Q : State → Prop} {dC : Nat → ClassId} {dI : Nat → Nat → Nat} {cI cB cJ cZ : ClassId} {A : Nat → Prop} {ad : Nat → Nat} {post : Int32 → St → Prop} {rec2 : Nat → Int32 → Int32 → Int32 → St → Prop} (hx : p.tables.exec = Jvm.exec) (hb : c.code = b_Mod_alike) (hml : c.maxLocals = 4) (hown : s.vm.findClass R_Mod = some m.cls) (hT : ∀ w ∈ TG, w.before args s = true) (hK : va_K (dC, dI) CL (TY cI cB cJ cZ) s) (hN : NW s) (hA : ∀ q : Nat, s.heap.size ≤ q → A q) (hRc : cells ≤ R.cells) (hRs : slots ≤ R.slots) (hRf : 0 ≤ R.frames) (hRl : 0 ≤ R.locals) (hret : ∀ (r : Int32) (x : St) (H : Heap) (locs : List Loc) (pc : Nat) (ls : Array Slot), decode b_Mod_alike pc = .ok (.ireturn, 1) → post r x → Wd dC dI cI cB cJ cZ ad stM kcM 115 A x H → va_S A s.heap H locs → W p l e R s m args below meth c H locs cells slots Q (F0 m pc ls [.int r])) (hrec2 : ∀ (l0 : Nat) (l1 : Int32) (l2 : Int32) (l3 : Int32) (x : St) (H : Heap) (locs : List Loc) (ls : Array Slot), (l0 < 115 ∧ kcM l0 = 20) → rec2 l0 l1 l2 l3 x → Wd dC dI cI cB cJ cZ ad stM kcM 115 A x H → va_S A s.heap H locs → lv_has ls 4 [(0, .ref (ad l0)), (1, .int l1), (2, .int l2), (3, .int l3)] → W p l e R s m args below meth c H locs cells slots Q (F0 m 2 ls [])) : ∀ (l0 : Nat) (l1 : Int32) (l2 : Int32) (l3 : Int32) (x : St) (H : Heap) (locs : List Loc) (ls : Array Slot), (l0 < 115 ∧ kcM l0 = 20) → j_Mod_alike_2 post rec2 l0 l1 l2 l3 x → Wd dC dI cI cB cJ cZ ad stM kcM 115 A x H → va_S A s.heap H locs → lv_has ls 4 [(0, .ref (ad l0)), (1, .int l1), (2, .int l2), (3, .int l3)] → W p l e R s m args below meth c H locs cells slots Q (F0 m 2 ls []) := by
  intro l0 l1 l2 l3 x H locs ls fl0 hw hW hS hl
  unfold j_Mod_alike_2 at hw
  refine lv_iload_n hx hb d_Mod_alike_2 rfl (lv_at hl 3 rfl) ?_
  refine lv_iload_n hx hb d_Mod_alike_3 rfl (lv_at hl 2 rfl) ?_
  refine lv_icmp_ge (tgt := 22) hx hb d_Mod_alike_4 (by decide) (fun c498 => ?_) (fun c498 => ?_)
  · have hw := hw.1 c498
    exact t_Mod_alike_22 hx hb hml hown hT hK hN hA hRc hRs hRf hRl hret  l0 l1 l2 l3 x H locs ls fl0 hw hW hS (lv_sub hl [0, 1, 2, 3] rfl)
  · have hw := hw.2 c498
    refine lv_aload_n hx hb d_Mod_alike_7 rfl (lv_at hl 0 rfl) ?_
    refine lv_iload_n hx hb d_Mod_alike_8 rfl (lv_at hl 3 rfl) ?_
    obtain ⟨hi, hw⟩ := hw
    refine w_iald (o := l0) hx hb hK hW fl0.1 fl0.2 hi d_Mod_alike_9 ?_
    refine lv_aload_n hx hb d_Mod_alike_10 rfl (lv_at hl 0 rfl) ?_
    refine lv_iload_n hx hb d_Mod_alike_11 rfl (lv_at hl 1 rfl) ?_
    obtain ⟨hi, hw⟩ := hw
    refine w_iald (o := l0) hx hb hK hW fl0.1 fl0.2 hi d_Mod_alike_12 ?_
    refine lv_icmp_ne (tgt := 22) hx hb d_Mod_alike_13 (by decide) (fun c499 => ?_) (fun c499 => ?_)
    · have hw := hw.1 c499
      exact t_Mod_alike_22 hx hb hml hown hT hK hN hA hRc hRs hRf hRl hret  l0 l1 l2 l3 x H locs ls fl0 hw hW hS (lv_sub hl [0, 1, 2, 3] rfl)
    · have hw := hw.2 c499
      refine lv_iinc (v := (l3 + 1)) (lv' := [(3, .int (l3 + 1)), (0, .ref (ad l0)), (1, .int l1), (2, .int l2)]) hx hb d_Mod_alike_16 hl (k := 3) rfl rfl (by decide) rfl (fun ls hl => ?_)
      refine lv_goto (tgt := 2) hx hb d_Mod_alike_19 (by decide) ?_
      exact hrec2 l0 l1 l2 (l3 + 1) x H locs ls fl0 hw hW hS (lv_sub hl [1, 2, 3, 0] rfl)
def wl_Mod_alike_2 (post : Int32 → St → Prop) : Nat → Nat → Int32 → Int32 → Int32 → St → Prop
  | 0 => fun _ _ _ _ _ => False
  | n + 1 => j_Mod_alike_2 post (wl_Mod_alike_2 post n)
set_option maxHeartbeats 4000000 in
set_option maxRecDepth 100000 in
theorem tl_Mod_alike_2 {p : Program} {l : Launch} {e : Env} {R : Room} {s : State} {m : MethodId} {args : Array Value} {below : List Frame} {meth : Method} {c : Code} {cells slots : Nat} {Q : State → Prop} {dC : Nat → ClassId} {dI : Nat → Nat → Nat} {cI cB cJ cZ : ClassId} {A : Nat → Prop} {ad : Nat → Nat} {post : Int32 → St → Prop} (hx : p.tables.exec = Jvm.exec) (hb : c.code = b_Mod_alike) (hml : c.maxLocals = 4) (hown : s.vm.findClass R_Mod = some m.cls) (hT : ∀ w ∈ TG, w.before args s = true) (hK : va_K (dC, dI) CL (TY cI cB cJ cZ) s) (hN : NW s) (hA : ∀ q : Nat, s.heap.size ≤ q → A q) (hRc : cells ≤ R.cells) (hRs : slots ≤ R.slots) (hRf : 0 ≤ R.frames) (hRl : 0 ≤ R.locals) (hret : ∀ (r : Int32) (x : St) (H : Heap) (locs : List Loc) (pc : Nat) (ls : Array Slot), decode b_Mod_alike pc = .ok (.ireturn, 1) → post r x → Wd dC dI cI cB cJ cZ ad stM kcM 115 A x H → va_S A s.heap H locs → W p l e R s m args below meth c H locs cells slots Q (F0 m pc ls [.int r]))  : ∀ n : Nat, ∀ (l0 : Nat) (l1 : Int32) (l2 : Int32) (l3 : Int32) (x : St) (H : Heap) (locs : List Loc) (ls : Array Slot), (l0 < 115 ∧ kcM l0 = 20) → wl_Mod_alike_2 post n l0 l1 l2 l3 x → Wd dC dI cI cB cJ cZ ad stM kcM 115 A x H → va_S A s.heap H locs → lv_has ls 4 [(0, .ref (ad l0)), (1, .int l1), (2, .int l2), (3, .int l3)] → W p l e R s m args below meth c H locs cells slots Q (F0 m 2 ls []) := by
  intro n
  induction n with
  | zero => intro l0 l1 l2 l3 x H locs ls fl0 hw; exact hw.elim
  | succ n ih => intro l0 l1 l2 l3 x H locs ls fl0 hw hW hS hl; exact t_Mod_alike_2 hx hb hml hown hT hK hN hA hRc hRs hRf hRl hret  ih l0 l1 l2 l3 x H locs ls fl0 hw hW hS hl
set_option maxRecDepth 100000 in
def wp_Mod_alike (post : Int32 → St → Prop) (l0 : Nat) (l1 : Int32) (l2 : Int32) (x : St) : Prop := ∃ n : Nat, wl_Mod_alike_2 post n l0 l1 l2 l1 x
set_option maxHeartbeats 4000000 in
set_option maxRecDepth 100000 in
theorem t_Mod_alike_e {p : Program} {l : Launch} {e : Env} {R : Room} {s : State} {m : MethodId} {args : Array Value} {below : List Frame} {meth : Method} {c : Code} {cells slots : Nat} {Q : State → Prop} {dC : Nat → ClassId} {dI : Nat → Nat → Nat} {cI cB cJ cZ : ClassId} {A : Nat → Prop} {ad : Nat → Nat} {post : Int32 → St → Prop} (hx : p.tables.exec = Jvm.exec) (hb : c.code = b_Mod_alike) (hml : c.maxLocals = 4) (hown : s.vm.findClass R_Mod = some m.cls) (hT : ∀ w ∈ TG, w.before args s = true) (hK : va_K (dC, dI) CL (TY cI cB cJ cZ) s) (hN : NW s) (hA : ∀ q : Nat, s.heap.size ≤ q → A q) (hRc : cells ≤ R.cells) (hRs : slots ≤ R.slots) (hRf : 0 ≤ R.frames) (hRl : 0 ≤ R.locals) (hret : ∀ (r : Int32) (x : St) (H : Heap) (locs : List Loc) (pc : Nat) (ls : Array Slot), decode b_Mod_alike pc = .ok (.ireturn, 1) → post r x → Wd dC dI cI cB cJ cZ ad stM kcM 115 A x H → va_S A s.heap H locs → W p l e R s m args below meth c H locs cells slots Q (F0 m pc ls [.int r])) : ∀ (l0 : Nat) (l1 : Int32) (l2 : Int32) (x : St) (H : Heap) (locs : List Loc) (ls : Array Slot), (l0 < 115 ∧ kcM l0 = 20) → wp_Mod_alike post l0 l1 l2 x → Wd dC dI cI cB cJ cZ ad stM kcM 115 A x H → va_S A s.heap H locs → lv_has ls 4 [(0, .ref (ad l0)), (1, .int l1), (2, .int l2)] → W p l e R s m args below meth c H locs cells slots Q (F0 m 0 ls []) := by
  intro l0 l1 l2 x H locs ls fl0 hw hW hS hl
  unfold wp_Mod_alike at hw
  refine lv_iload_n hx hb d_Mod_alike_0 rfl (lv_at hl 1 rfl) ?_
  refine lv_istore_n (lv' := [(3, .int l1), (0, .ref (ad l0)), (1, .int l1), (2, .int l2)]) hx hb d_Mod_alike_1 rfl hl (by decide) rfl (fun ls hl => ?_)
  obtain ⟨n, hw⟩ := hw
  exact tl_Mod_alike_2 hx hb hml hown hT hK hN hA hRc hRs hRf hRl hret  n l0 l1 l2 l1 x H locs ls fl0 hw hW hS (lv_sub hl [1, 2, 3, 0] rfl)
set_option maxHeartbeats 4000000 in
set_option maxRecDepth 100000 in
theorem k_Mod_alike (l : Launch) (dC : Nat → ClassId) (dI : Nat → Nat → Nat) (cI cB cJ cZ : ClassId) (ad : Nat → Nat) (sz : Nat) (l0 : Nat) (l1 : Int32) (l2 : Int32) (x : St) (fl0 : l0 < 115 ∧ kcM l0 = 20) {post : Int32 → St → Prop} (hw : wp_Mod_alike post l0 l1 l2 x) : Met l y_Mod_alike (wsOf y_Mod_alike b_Mod_alike 4 (some (.int))) ({ frames := 0, cells := 0, slots := 0, locals := 0 }) (va_Pc [.ref (ad l0), .int l1, .int l2] (PW dC dI cI cB cJ cZ ad stM kcM 115 sz x)) (va_Qi (fun (r : Int32) (y : St) => post r y) (fun y t => Wd dC dI cI cB cJ cZ ad stM kcM 115 (va_A (pic ad stM kcM 115 cI cB cJ cZ x) sz) y t.heap) (va_A (pic ad stM kcM 115 cI cB cJ cZ x) sz)) 0 0 (va_A (pic ad stM kcM 115 cI cB cJ cZ x) sz) := by
  refine Met.ofW (cc := b_Mod_alike) (maxL := 4) (ret := some (.int)) (by decide) rfl ?_
  intro p e s m args below meth c s₁ B hml hv
  obtain ⟨rfl, hsz, hW0, hK, hN⟩ := hv
  have hx := B.exec
  have hb := B.bytes
  have hr := B.returns
  have hts := atoms_spec B.pre
  have hT : ∀ w ∈ TG, w.before _ s = true := fun w h => hts w (List.mem_cons_of_mem _ h)
  have hown : s.vm.findClass R_Mod = some m.cls := findClass_of_methodNamed B.named
  have hlocks := B.notSynchronized
  subst hsz
  have hW : Wd dC dI cI cB cJ cZ ad stM kcM 115 (va_A (pic ad stM kcM 115 cI cB cJ cZ x) s.heap.size) x s.heap := ⟨hW0.1, hW0.2.1.self (sz := s.heap.size), hW0.2.2⟩
  generalize hAe : va_A (pic ad stM kcM 115 cI cB cJ cZ x) s.heap.size = A at hW ⊢
  have hA : ∀ q : Nat, s.heap.size ≤ q → A q := fun q h => by rw [← hAe]; exact Or.inr h
  have hS : va_S A s.heap s.heap [] := va_S.rf
  have hl := lv_entry ([.ref (ad l0), .int l1, .int l2]) (n := 4) (Nat.le_of_ble_eq_true rfl)
  rw [lg_entry_eq]
  generalize (lg_sl ([.ref (ad l0), .int l1, .int l2]) ++ List.replicate (4 - (lg_sl ([.ref (ad l0), .int l1, .int l2])).length) Slot.unset).toArray = ls at hl ⊢
  have hl : lv_has ls 4 [(0, .ref (ad l0)), (1, .int l1), (2, .int l2)] := hl
  exact t_Mod_alike_e hx hb hml hown hT hK hN hA (Nat.le_refl 0) (Nat.le_refl 0) (Nat.le_refl 0) (Nat.le_refl 0) (fun r x H locs pc ls hd hp hW hS => W.iret (v := r) hx hb hr (fun t ht hM => ⟨⟨r, x, rfl, hp, Wd.back hW ht.symm (fun _ z => z)⟩, hS.F ht⟩) hS.2.2 hd hlocks)  l0 l1 l2 x _ _ ls fl0 hw hW hS hl
set_option maxRecDepth 100000 in
def j_Mod_put_26 (post : St → Prop) (l1 : Int32) (x : St) : Prop := (∀ x500 : St, x500 = setI x 0 64 ((fI x 0 64) + 1) → post x500)
set_option maxHeartbeats 4000000 in
set_option maxRecDepth 100000 in
theorem t_Mod_put_26 {p : Program} {l : Launch} {e : Env} {R : Room} {s : State} {m : MethodId} {args : Array Value} {below : List Frame} {meth : Method} {c : Code} {cells slots : Nat} {Q : State → Prop} {dC : Nat → ClassId} {dI : Nat → Nat → Nat} {cI cB cJ cZ : ClassId} {A : Nat → Prop} {ad : Nat → Nat} {post : St → Prop} (hx : p.tables.exec = Jvm.exec) (hb : c.code = b_Mod_put) (hml : c.maxLocals = 2) (hown : s.vm.findClass R_Mod = some m.cls) (hT : ∀ w ∈ TG, w.before args s = true) (hK : va_K (dC, dI) CL (TY cI cB cJ cZ) s) (hN : NW s) (hA : ∀ q : Nat, s.heap.size ≤ q → A q) (hRc : cells ≤ R.cells) (hRs : slots ≤ R.slots) (hRf : 0 ≤ R.frames) (hRl : 0 ≤ R.locals) (hret : ∀ (x : St) (H : Heap) (locs : List Loc) (pc : Nat) (ls : Array Slot), decode b_Mod_put pc = .ok (.return_, 1) → post x → Wd dC dI cI cB cJ cZ ad stM kcM 115 A x H → va_S A s.heap H locs → W p l e R s m args below meth c H locs cells slots Q (F0 m pc ls []))  : ∀ (l1 : Int32) (x : St) (H : Heap) (locs : List Loc) (ls : Array Slot), j_Mod_put_26 post l1 x → Wd dC dI cI cB cJ cZ ad stM kcM 115 A x H → va_S A s.heap H locs → lv_has ls 2 [(0, .ref (ad 0)), (1, .int l1)] → W p l e R s m args below meth c H locs cells slots Q (F0 m 26 ls []) := by
  intro l1 x H locs ls  hw hW hS hl
  unfold j_Mod_put_26 at hw
  refine lv_aload_n hx hb d_Mod_put_26 rfl (lv_at hl 0 rfl) ?_
  refine lv_dup hx hb d_Mod_put_27 rfl ?_
  refine w_geti (k := 64) (t := 12) (C := R_Mod) (T := F_Mod) (N := 167) hx hb hT hown hK hW ko_0.1 ko_0.2 (by decide) in_Mod rfl rfl (by decide) rfl fr_Mod_64 w_9_4 d_Mod_put_28 ?_
  refine lv_iconst (v := 1) hx hb d_Mod_put_31 (by decide) ?_
  refine lv_iadd hx hb d_Mod_put_32 ?_
  refine w_puti (ty := .int) (k := 64) (t := 12) (C := R_Mod) (T := F_Mod) (N := 167) hx hb hT hown hK hW hS ko_0.1 ko_0.2 (by decide) in_Mod t_Mod t_Mod_ok n_Mod rfl rfl (by decide) rfl fr_Mod_64 w_9_4 (by decide +kernel) rfl rfl d_Mod_put_33 (fun H locs hW hS => ?_)
  obtain ⟨x500, ex500⟩ : ∃ y : St, y = setI x 0 64 ((fI x 0 64) + 1) := ⟨_, rfl⟩
  rw [← ex500] at hW
  have hw := hw x500 ex500
  exact hret x500 H locs 36 ls d_Mod_put_36 hw hW hS
set_option maxRecDepth 100000 in
def wp_Mod_put (post : St → Prop) (l1 : Int32) (x : St) : Prop := (((nI (fN x 39)) ≤ (fI x 0 64) → j_Mod_put_26 post l1 x) ∧ (¬ (nI (fN x 39)) ≤ (fI x 0 64) → (vp_in (fI x 0 64) (fN x 39) ∧ ∀ x502 : St, x502 = setA x 39 (fI x 0 64) (l1 &&& 255) → j_Mod_put_26 post l1 x502)))
set_option maxHeartbeats 4000000 in
set_option maxRecDepth 100000 in
theorem t_Mod_put_e {p : Program} {l : Launch} {e : Env} {R : Room} {s : State} {m : MethodId} {args : Array Value} {below : List Frame} {meth : Method} {c : Code} {cells slots : Nat} {Q : State → Prop} {dC : Nat → ClassId} {dI : Nat → Nat → Nat} {cI cB cJ cZ : ClassId} {A : Nat → Prop} {ad : Nat → Nat} {post : St → Prop} (hx : p.tables.exec = Jvm.exec) (hb : c.code = b_Mod_put) (hml : c.maxLocals = 2) (hown : s.vm.findClass R_Mod = some m.cls) (hT : ∀ w ∈ TG, w.before args s = true) (hK : va_K (dC, dI) CL (TY cI cB cJ cZ) s) (hN : NW s) (hA : ∀ q : Nat, s.heap.size ≤ q → A q) (hRc : cells ≤ R.cells) (hRs : slots ≤ R.slots) (hRf : 0 ≤ R.frames) (hRl : 0 ≤ R.locals) (hret : ∀ (x : St) (H : Heap) (locs : List Loc) (pc : Nat) (ls : Array Slot), decode b_Mod_put pc = .ok (.return_, 1) → post x → Wd dC dI cI cB cJ cZ ad stM kcM 115 A x H → va_S A s.heap H locs → W p l e R s m args below meth c H locs cells slots Q (F0 m pc ls [])) : ∀ (l1 : Int32) (x : St) (H : Heap) (locs : List Loc) (ls : Array Slot), wp_Mod_put post l1 x → Wd dC dI cI cB cJ cZ ad stM kcM 115 A x H → va_S A s.heap H locs → lv_has ls 2 [(0, .ref (ad 0)), (1, .int l1)] → W p l e R s m args below meth c H locs cells slots Q (F0 m 0 ls []) := by
  intro l1 x H locs ls  hw hW hS hl
  unfold wp_Mod_put at hw
  refine lv_aload_n hx hb d_Mod_put_0 rfl (lv_at hl 0 rfl) ?_
  refine w_geti (k := 64) (t := 12) (C := R_Mod) (T := F_Mod) (N := 167) hx hb hT hown hK hW ko_0.1 ko_0.2 (by decide) in_Mod rfl rfl (by decide) rfl fr_Mod_64 w_9_4 d_Mod_put_1 ?_
  refine lv_aload_n hx hb d_Mod_put_4 rfl (lv_at hl 0 rfl) ?_
  refine w_getf (q := 39) (k := 60) (t := 12) (C := R_Mod) (T := F_Mod) (N := 167) hx hb hT hown hK hW ko_0.1 ko_0.2 (by decide) in_Mod rfl rfl (by decide) rfl fr_Mod_60 w_9_0 d_Mod_put_5 rfl ?_
  refine w_alen (o := 39) (t0 := 0) hx hb hK hW (pic_int ko_39.1 ko_39.2) rfl rfl d_Mod_put_8 ?_
  refine lv_icmp_ge (tgt := 26) hx hb d_Mod_put_9 (by decide) (fun c501 => ?_) (fun c501 => ?_)
  · have hw := hw.1 c501
    exact t_Mod_put_26 hx hb hml hown hT hK hN hA hRc hRs hRf hRl hret  l1 x H locs ls  hw hW hS (lv_sub hl [0, 1] rfl)
  · have hw := hw.2 c501
    refine lv_aload_n hx hb d_Mod_put_12 rfl (lv_at hl 0 rfl) ?_
    refine w_getf (q := 39) (k := 60) (t := 12) (C := R_Mod) (T := F_Mod) (N := 167) hx hb hT hown hK hW ko_0.1 ko_0.2 (by decide) in_Mod rfl rfl (by decide) rfl fr_Mod_60 w_9_0 d_Mod_put_13 rfl ?_
    refine lv_aload_n hx hb d_Mod_put_16 rfl (lv_at hl 0 rfl) ?_
    refine w_geti (k := 64) (t := 12) (C := R_Mod) (T := F_Mod) (N := 167) hx hb hT hown hK hW ko_0.1 ko_0.2 (by decide) in_Mod rfl rfl (by decide) rfl fr_Mod_64 w_9_4 d_Mod_put_17 ?_
    refine lv_iload_n hx hb d_Mod_put_20 rfl (lv_at hl 1 rfl) ?_
    refine lv_sipush (v := 255) hx hb d_Mod_put_21 (by decide) ?_
    refine lv_iand hx hb d_Mod_put_24 ?_
    obtain ⟨hi, hw⟩ := hw
    refine w_iast (o := 39) hx hb hK hW hS ko_39.1 ko_39.2 hi d_Mod_put_25 (fun H locs hW hS => ?_)
    obtain ⟨x502, ex502⟩ : ∃ y : St, y = setA x 39 (fI x 0 64) (l1 &&& 255) := ⟨_, rfl⟩
    rw [← ex502] at hW
    have hw := hw x502 ex502
    exact t_Mod_put_26 hx hb hml hown hT hK hN hA hRc hRs hRf hRl hret  l1 x502 H locs ls  hw hW hS (lv_sub hl [0, 1] rfl)
set_option maxHeartbeats 4000000 in
set_option maxRecDepth 100000 in
theorem k_Mod_put (l : Launch) (dC : Nat → ClassId) (dI : Nat → Nat → Nat) (cI cB cJ cZ : ClassId) (ad : Nat → Nat) (sz : Nat) (l1 : Int32) (x : St) {post : St → Prop} (hw : wp_Mod_put post l1 x) : Met l y_Mod_put (wsOf y_Mod_put b_Mod_put 2 (none)) ({ frames := 0, cells := 0, slots := 0, locals := 0 }) (va_Pc [.ref (ad 0), .int l1] (PW dC dI cI cB cJ cZ ad stM kcM 115 sz x)) (va_Qv (fun (y : St) => post y) (fun y t => Wd dC dI cI cB cJ cZ ad stM kcM 115 (va_A (pic ad stM kcM 115 cI cB cJ cZ x) sz) y t.heap) (va_A (pic ad stM kcM 115 cI cB cJ cZ x) sz)) 0 0 (va_A (pic ad stM kcM 115 cI cB cJ cZ x) sz) := by
  refine Met.ofW (cc := b_Mod_put) (maxL := 2) (ret := none) (by decide) rfl ?_
  intro p e s m args below meth c s₁ B hml hv
  obtain ⟨rfl, hsz, hW0, hK, hN⟩ := hv
  have hx := B.exec
  have hb := B.bytes
  have hr := B.returns
  have hts := atoms_spec B.pre
  have hT : ∀ w ∈ TG, w.before _ s = true := fun w h => hts w (List.mem_cons_of_mem _ h)
  have hown : s.vm.findClass R_Mod = some m.cls := findClass_of_methodNamed B.named
  have hlocks := B.notSynchronized
  subst hsz
  have hW : Wd dC dI cI cB cJ cZ ad stM kcM 115 (va_A (pic ad stM kcM 115 cI cB cJ cZ x) s.heap.size) x s.heap := ⟨hW0.1, hW0.2.1.self (sz := s.heap.size), hW0.2.2⟩
  generalize hAe : va_A (pic ad stM kcM 115 cI cB cJ cZ x) s.heap.size = A at hW ⊢
  have hA : ∀ q : Nat, s.heap.size ≤ q → A q := fun q h => by rw [← hAe]; exact Or.inr h
  have hS : va_S A s.heap s.heap [] := va_S.rf
  have hl := lv_entry ([.ref (ad 0), .int l1]) (n := 2) (Nat.le_of_ble_eq_true rfl)
  rw [lg_entry_eq]
  generalize (lg_sl ([.ref (ad 0), .int l1]) ++ List.replicate (2 - (lg_sl ([.ref (ad 0), .int l1])).length) Slot.unset).toArray = ls at hl ⊢
  have hl : lv_has ls 2 [(0, .ref (ad 0)), (1, .int l1)] := hl
  exact t_Mod_put_e hx hb hml hown hT hK hN hA (Nat.le_refl 0) (Nat.le_refl 0) (Nat.le_refl 0) (Nat.le_refl 0) (fun x H locs pc ls hd hp hW hS => W.vret hx hb hr (fun t ht hM => ⟨⟨x, rfl, hp, Wd.back hW ht.symm (fun _ z => z)⟩, hS.F ht⟩) hS.2.2 hd hlocks)  l1 x _ _ ls  hw hW hS hl
set_option maxRecDepth 100000 in
def j_Mod_putVarint_16 (post : St → Prop) (rec2 : Int64 → Int64 → St → Prop) (l1 : Int64) (l3 : Int64) (x : St) : Prop := wp_Mod_put (fun (x503 : St) => (∀ v504 : Int64, v504 = ((l3 : Int64).toUInt64 >>> ((7 : Int32).toInt64.toUInt64 &&& Int64.toUInt64 63)).toInt64 → rec2 l1 v504 x503)) (((l3 &&& 127) : Int64).toInt32 + 128) x
set_option maxHeartbeats 4000000 in
set_option maxRecDepth 100000 in
theorem t_Mod_putVarint_16 {p : Program} {l : Launch} {e : Env} {R : Room} {s : State} {m : MethodId} {args : Array Value} {below : List Frame} {meth : Method} {c : Code} {cells slots : Nat} {Q : State → Prop} {dC : Nat → ClassId} {dI : Nat → Nat → Nat} {cI cB cJ cZ : ClassId} {A : Nat → Prop} {ad : Nat → Nat} {post : St → Prop} {rec2 : Int64 → Int64 → St → Prop} (hx : p.tables.exec = Jvm.exec) (hb : c.code = b_Mod_putVarint) (hml : c.maxLocals = 5) (hown : s.vm.findClass R_Mod = some m.cls) (hT : ∀ w ∈ TG, w.before args s = true) (hK : va_K (dC, dI) CL (TY cI cB cJ cZ) s) (hN : NW s) (hA : ∀ q : Nat, s.heap.size ≤ q → A q) (hRc : cells ≤ R.cells) (hRs : slots ≤ R.slots) (hRf : 1 ≤ R.frames) (hRl : 21 ≤ R.locals) (hret : ∀ (x : St) (H : Heap) (locs : List Loc) (pc : Nat) (ls : Array Slot), decode b_Mod_putVarint pc = .ok (.return_, 1) → post x → Wd dC dI cI cB cJ cZ ad stM kcM 115 A x H → va_S A s.heap H locs → W p l e R s m args below meth c H locs cells slots Q (F0 m pc ls [])) (hrec2 : ∀ (l1 : Int64) (l3 : Int64) (x : St) (H : Heap) (locs : List Loc) (ls : Array Slot), rec2 l1 l3 x → Wd dC dI cI cB cJ cZ ad stM kcM 115 A x H → va_S A s.heap H locs → lv_has ls 5 [(0, .ref (ad 0)), (1, .long l1), (3, .long l3)] → W p l e R s m args below meth c H locs cells slots Q (F0 m 2 ls [])) : ∀ (l1 : Int64) (l3 : Int64) (x : St) (H : Heap) (locs : List Loc) (ls : Array Slot), j_Mod_putVarint_16 post rec2 l1 l3 x → Wd dC dI cI cB cJ cZ ad stM kcM 115 A x H → va_S A s.heap H locs → lv_has ls 5 [(0, .ref (ad 0)), (1, .long l1), (3, .long l3)] → W p l e R s m args below meth c H locs cells slots Q (F0 m 16 ls []) := by
  intro l1 l3 x H locs ls  hw hW hS hl
  unfold j_Mod_putVarint_16 at hw
  refine lv_aload_n hx hb d_Mod_putVarint_16 rfl (lv_at hl 0 rfl) ?_
  refine lv_lload_n hx hb d_Mod_putVarint_17 rfl (lv_at hl 2 rfl) ?_
  refine lv_ldc2 hx hb hown (hT _ w_11_199) d_Mod_putVarint_18 ?_
  refine lv_land hx hb d_Mod_putVarint_21 ?_
  refine lv_l2i hx hb d_Mod_putVarint_22 rfl ?_
  refine lv_sipush (v := 128) hx hb d_Mod_putVarint_23 (by decide) ?_
  refine lv_iadd hx hb d_Mod_putVarint_26 ?_
  have hF := hW.free hS hA
  refine va_callv (va_runV (C := R_Mod) (As := [.int (((l3 &&& 127) : Int64).toInt32 + 128)]) (rest := []) ⟨hx, hb, hml, hown, hT⟩ (k_Mod_put l dC dI cI cB cJ cZ ad H.size (((l3 &&& 127) : Int64).toInt32 + 128) x  hw) ⟨callB_of 1 hT (gw_in w_11_203) rfl rfl rfl (hT _ w_1_15) (hT _ w_11_200) (by decide +kernel) ⟨Nat.le_trans (by decide) hRf, Nat.le_trans (by decide) hRl⟩, hT _ w_11_202, hT _ ws_154⟩ ⟨PW.blind, va_recv hK hW.1 (ci := 12) (q0 := 0) rfl (pic_obj ko_0.1 ko_0.2 (by decide)), PW.at _ hW hK hN⟩ rfl rfl hl.1 rfl (lv_room (Nat.le_of_ble_eq_true rfl)) d_Mod_putVarint_27 ⟨hRc, hRs⟩) hS (fun q _ h => hF q h) hF (fun  x503 t H locs ht hvm hw hB hz1 hk1 hS => ?_)
  have hW := Wd.back hB ht hF
  clear hB ht hF hz1 hk1 hvm
  refine lv_lload_n hx hb d_Mod_putVarint_30 rfl (lv_at hl 2 rfl) ?_
  refine lv_bipush (v := 7) hx hb d_Mod_putVarint_31 (by decide) ?_
  refine lv_lushr hx hb d_Mod_putVarint_33 rfl ?_
  refine lv_topl (fun v504 ev504 => ?_)
  have hw := hw v504 ev504
  refine lv_lstore_n (lv' := [(3, .long v504), (0, .ref (ad 0)), (1, .long l1)]) hx hb d_Mod_putVarint_34 rfl hl (by decide) rfl (fun ls hl => ?_)
  refine lv_goto (tgt := 2) hx hb d_Mod_putVarint_35 (by decide) ?_
  exact hrec2 l1 v504 x503 H locs ls  hw hW hS (lv_sub hl [1, 2, 0] rfl)
set_option maxRecDepth 100000 in
def j_Mod_putVarint_2 (post : St → Prop) (rec2 : Int64 → Int64 → St → Prop) (l1 : Int64) (l3 : Int64) (x : St) : Prop := (((lg_cmp l3 0) < 0 → j_Mod_putVarint_16 post rec2 l1 l3 x) ∧ (¬ (lg_cmp l3 0) < 0 → (((lg_cmp l3 127) ≤ 0 → wp_Mod_put (fun (x507 : St) => post x507) (l3 : Int64).toInt32 x) ∧ (¬ (lg_cmp l3 127) ≤ 0 → j_Mod_putVarint_16 post rec2 l1 l3 x))))
set_option maxHeartbeats 4000000 in
set_option maxRecDepth 100000 in
theorem t_Mod_putVarint_2 {p : Program} {l : Launch} {e : Env} {R : Room} {s : State} {m : MethodId} {args : Array Value} {below : List Frame} {meth : Method} {c : Code} {cells slots : Nat} {Q : State → Prop} {dC : Nat → ClassId} {dI : Nat → Nat → Nat} {cI cB cJ cZ : ClassId} {A : Nat → Prop} {ad : Nat → Nat} {post : St → Prop} {rec2 : Int64 → Int64 → St → Prop} (hx : p.tables.exec = Jvm.exec) (hb : c.code = b_Mod_putVarint) (hml : c.maxLocals = 5) (hown : s.vm.findClass R_Mod = some m.cls) (hT : ∀ w ∈ TG, w.before args s = true) (hK : va_K (dC, dI) CL (TY cI cB cJ cZ) s) (hN : NW s) (hA : ∀ q : Nat, s.heap.size ≤ q → A q) (hRc : cells ≤ R.cells) (hRs : slots ≤ R.slots) (hRf : 1 ≤ R.frames) (hRl : 21 ≤ R.locals) (hret : ∀ (x : St) (H : Heap) (locs : List Loc) (pc : Nat) (ls : Array Slot), decode b_Mod_putVarint pc = .ok (.return_, 1) → post x → Wd dC dI cI cB cJ cZ ad stM kcM 115 A x H → va_S A s.heap H locs → W p l e R s m args below meth c H locs cells slots Q (F0 m pc ls [])) (hrec2 : ∀ (l1 : Int64) (l3 : Int64) (x : St) (H : Heap) (locs : List Loc) (ls : Array Slot), rec2 l1 l3 x → Wd dC dI cI cB cJ cZ ad stM kcM 115 A x H → va_S A s.heap H locs → lv_has ls 5 [(0, .ref (ad 0)), (1, .long l1), (3, .long l3)] → W p l e R s m args below meth c H locs cells slots Q (F0 m 2 ls [])) : ∀ (l1 : Int64) (l3 : Int64) (x : St) (H : Heap) (locs : List Loc) (ls : Array Slot), j_Mod_putVarint_2 post rec2 l1 l3 x → Wd dC dI cI cB cJ cZ ad stM kcM 115 A x H → va_S A s.heap H locs → lv_has ls 5 [(0, .ref (ad 0)), (1, .long l1), (3, .long l3)] → W p l e R s m args below meth c H locs cells slots Q (F0 m 2 ls []) := by
  intro l1 l3 x H locs ls  hw hW hS hl
  unfold j_Mod_putVarint_2 at hw
  refine lv_lload_n hx hb d_Mod_putVarint_2 rfl (lv_at hl 2 rfl) ?_
  refine lv_lconst (v := 0) hx hb d_Mod_putVarint_3 (by decide) ?_
  refine W.lcmp hx hb d_Mod_putVarint_4 ?_
  refine lv_if_lt (tgt := 16) hx hb d_Mod_putVarint_5 (by decide) (fun c505 => ?_) (fun c505 => ?_)
  · have hw := hw.1 c505
    exact t_Mod_putVarint_16 hx hb hml hown hT hK hN hA hRc hRs hRf hRl hret hrec2 l1 l3 x H locs ls  hw hW hS (lv_sub hl [0, 1, 2] rfl)
  · have hw := hw.2 c505
    refine lv_lload_n hx hb d_Mod_putVarint_8 rfl (lv_at hl 2 rfl) ?_
    refine lv_ldc2 hx hb hown (hT _ w_11_199) d_Mod_putVarint_9 ?_
    refine W.lcmp hx hb d_Mod_putVarint_12 ?_
    refine lv_if_le (tgt := 38) hx hb d_Mod_putVarint_13 (by decide) (fun c506 => ?_) (fun c506 => ?_)
    · have hw := hw.1 c506
      refine lv_aload_n hx hb d_Mod_putVarint_38 rfl (lv_at hl 0 rfl) ?_
      refine lv_lload_n hx hb d_Mod_putVarint_39 rfl (lv_at hl 2 rfl) ?_
      refine lv_l2i hx hb d_Mod_putVarint_40 rfl ?_
      have hF := hW.free hS hA
      refine va_callv (va_runV (C := R_Mod) (As := [.int (l3 : Int64).toInt32]) (rest := []) ⟨hx, hb, hml, hown, hT⟩ (k_Mod_put l dC dI cI cB cJ cZ ad H.size (l3 : Int64).toInt32 x  hw) ⟨callB_of 1 hT (gw_in w_11_203) rfl rfl rfl (hT _ w_1_15) (hT _ w_11_200) (by decide +kernel) ⟨Nat.le_trans (by decide) hRf, Nat.le_trans (by decide) hRl⟩, hT _ w_11_202, hT _ ws_154⟩ ⟨PW.blind, va_recv hK hW.1 (ci := 12) (q0 := 0) rfl (pic_obj ko_0.1 ko_0.2 (by decide)), PW.at _ hW hK hN⟩ rfl rfl hl.1 rfl (lv_room (Nat.le_of_ble_eq_true rfl)) d_Mod_putVarint_41 ⟨hRc, hRs⟩) hS (fun q _ h => hF q h) hF (fun  x507 t H locs ht hvm hw hB hz1 hk1 hS => ?_)
      have hW := Wd.back hB ht hF
      clear hB ht hF hz1 hk1 hvm
      exact hret x507 H locs 44 ls d_Mod_putVarint_44 hw hW hS
    · have hw := hw.2 c506
      exact t_Mod_putVarint_16 hx hb hml hown hT hK hN hA hRc hRs hRf hRl hret hrec2 l1 l3 x H locs ls  hw hW hS (lv_sub hl [0, 1, 2] rfl)
def wl_Mod_putVarint_2 (post : St → Prop) : Nat → Int64 → Int64 → St → Prop
  | 0 => fun _ _ _ => False
  | n + 1 => j_Mod_putVarint_2 post (wl_Mod_putVarint_2 post n)
set_option maxHeartbeats 4000000 in
set_option maxRecDepth 100000 in
theorem tl_Mod_putVarint_2 {p : Program} {l : Launch} {e : Env} {R : Room} {s : State} {m : MethodId} {args : Array Value} {below : List Frame} {meth : Method} {c : Code} {cells slots : Nat} {Q : State → Prop} {dC : Nat → ClassId} {dI : Nat → Nat → Nat} {cI cB cJ cZ : ClassId} {A : Nat → Prop} {ad : Nat → Nat} {post : St → Prop} (hx : p.tables.exec = Jvm.exec) (hb : c.code = b_Mod_putVarint) (hml : c.maxLocals = 5) (hown : s.vm.findClass R_Mod = some m.cls) (hT : ∀ w ∈ TG, w.before args s = true) (hK : va_K (dC, dI) CL (TY cI cB cJ cZ) s) (hN : NW s) (hA : ∀ q : Nat, s.heap.size ≤ q → A q) (hRc : cells ≤ R.cells) (hRs : slots ≤ R.slots) (hRf : 1 ≤ R.frames) (hRl : 21 ≤ R.locals) (hret : ∀ (x : St) (H : Heap) (locs : List Loc) (pc : Nat) (ls : Array Slot), decode b_Mod_putVarint pc = .ok (.return_, 1) → post x → Wd dC dI cI cB cJ cZ ad stM kcM 115 A x H → va_S A s.heap H locs → W p l e R s m args below meth c H locs cells slots Q (F0 m pc ls []))  : ∀ n : Nat, ∀ (l1 : Int64) (l3 : Int64) (x : St) (H : Heap) (locs : List Loc) (ls : Array Slot), wl_Mod_putVarint_2 post n l1 l3 x → Wd dC dI cI cB cJ cZ ad stM kcM 115 A x H → va_S A s.heap H locs → lv_has ls 5 [(0, .ref (ad 0)), (1, .long l1), (3, .long l3)] → W p l e R s m args below meth c H locs cells slots Q (F0 m 2 ls []) := by
  intro n
  induction n with
  | zero => intro l1 l3 x H locs ls  hw; exact hw.elim
  | succ n ih => intro l1 l3 x H locs ls  hw hW hS hl; exact t_Mod_putVarint_2 hx hb hml hown hT hK hN hA hRc hRs hRf hRl hret  ih l1 l3 x H locs ls  hw hW hS hl
set_option maxRecDepth 100000 in
def wp_Mod_putVarint (post : St → Prop) (l1 : Int64) (x : St) : Prop := ∃ n : Nat, wl_Mod_putVarint_2 post n l1 l1 x
set_option maxHeartbeats 4000000 in
set_option maxRecDepth 100000 in
theorem t_Mod_putVarint_e {p : Program} {l : Launch} {e : Env} {R : Room} {s : State} {m : MethodId} {args : Array Value} {below : List Frame} {meth : Method} {c : Code} {cells slots : Nat} {Q : State → Prop} {dC : Nat → ClassId} {dI : Nat → Nat → Nat} {cI cB cJ cZ : ClassId} {A : Nat → Prop} {ad : Nat → Nat} {post : St → Prop} (hx : p.tables.exec = Jvm.exec) (hb : c.code = b_Mod_putVarint) (hml : c.maxLocals = 5) (hown : s.vm.findClass R_Mod = some m.cls) (hT : ∀ w ∈ TG, w.before args s = true) (hK : va_K (dC, dI) CL (TY cI cB cJ cZ) s) (hN : NW s) (hA : ∀ q : Nat, s.heap.size ≤ q → A q) (hRc : cells ≤ R.cells) (hRs : slots ≤ R.slots) (hRf : 1 ≤ R.frames) (hRl : 21 ≤ R.locals) (hret : ∀ (x : St) (H : Heap) (locs : List Loc) (pc : Nat) (ls : Array Slot), decode b_Mod_putVarint pc = .ok (.return_, 1) → post x → Wd dC dI cI cB cJ cZ ad stM kcM 115 A x H → va_S A s.heap H locs → W p l e R s m args below meth c H locs cells slots Q (F0 m pc ls [])) : ∀ (l1 : Int64) (x : St) (H : Heap) (locs : List Loc) (ls : Array Slot), wp_Mod_putVarint post l1 x → Wd dC dI cI cB cJ cZ ad stM kcM 115 A x H → va_S A s.heap H locs → lv_has ls 5 [(0, .ref (ad 0)), (1, .long l1)] → W p l e R s m args below meth c H locs cells slots Q (F0 m 0 ls []) := by
  intro l1 x H locs ls  hw hW hS hl
  unfold wp_Mod_putVarint at hw
  refine lv_lload_n hx hb d_Mod_putVarint_0 rfl (lv_at hl 1 rfl) ?_
  refine lv_lstore_n (lv' := [(3, .long l1), (0, .ref (ad 0)), (1, .long l1)]) hx hb d_Mod_putVarint_1 rfl hl (by decide) rfl (fun ls hl => ?_)
  obtain ⟨n, hw⟩ := hw
  exact tl_Mod_putVarint_2 hx hb hml hown hT hK hN hA hRc hRs hRf hRl hret  n l1 l1 x H locs ls  hw hW hS (lv_sub hl [1, 2, 0] rfl)
set_option maxHeartbeats 4000000 in
set_option maxRecDepth 100000 in
theorem k_Mod_putVarint (l : Launch) (dC : Nat → ClassId) (dI : Nat → Nat → Nat) (cI cB cJ cZ : ClassId) (ad : Nat → Nat) (sz : Nat) (l1 : Int64) (x : St) {post : St → Prop} (hw : wp_Mod_putVarint post l1 x) : Met l y_Mod_putVarint (wsOf y_Mod_putVarint b_Mod_putVarint 5 (none)) ({ frames := 1, cells := 0, slots := 0, locals := 21 }) (va_Pc [.ref (ad 0), .long l1] (PW dC dI cI cB cJ cZ ad stM kcM 115 sz x)) (va_Qv (fun (y : St) => post y) (fun y t => Wd dC dI cI cB cJ cZ ad stM kcM 115 (va_A (pic ad stM kcM 115 cI cB cJ cZ x) sz) y t.heap) (va_A (pic ad stM kcM 115 cI cB cJ cZ x) sz)) 0 0 (va_A (pic ad stM kcM 115 cI cB cJ cZ x) sz) := by
  refine Met.ofW (cc := b_Mod_putVarint) (maxL := 5) (ret := none) (by decide) rfl ?_
  intro p e s m args below meth c s₁ B hml hv
  obtain ⟨rfl, hsz, hW0, hK, hN⟩ := hv
  have hx := B.exec
  have hb := B.bytes
  have hr := B.returns
  have hts := atoms_spec B.pre
  have hT : ∀ w ∈ TG, w.before _ s = true := fun w h => hts w (List.mem_cons_of_mem _ h)
  have hown : s.vm.findClass R_Mod = some m.cls := findClass_of_methodNamed B.named
  have hlocks := B.notSynchronized
  subst hsz
  have hW : Wd dC dI cI cB cJ cZ ad stM kcM 115 (va_A (pic ad stM kcM 115 cI cB cJ cZ x) s.heap.size) x s.heap := ⟨hW0.1, hW0.2.1.self (sz := s.heap.size), hW0.2.2⟩
  generalize hAe : va_A (pic ad stM kcM 115 cI cB cJ cZ x) s.heap.size = A at hW ⊢
  have hA : ∀ q : Nat, s.heap.size ≤ q → A q := fun q h => by rw [← hAe]; exact Or.inr h
  have hS : va_S A s.heap s.heap [] := va_S.rf
  have hl := lv_entry ([.ref (ad 0), .long l1]) (n := 5) (Nat.le_of_ble_eq_true rfl)
  rw [lg_entry_eq]
  generalize (lg_sl ([.ref (ad 0), .long l1]) ++ List.replicate (5 - (lg_sl ([.ref (ad 0), .long l1])).length) Slot.unset).toArray = ls at hl ⊢
  have hl : lv_has ls 5 [(0, .ref (ad 0)), (1, .long l1)] := hl
  exact t_Mod_putVarint_e hx hb hml hown hT hK hN hA (Nat.le_refl 0) (Nat.le_refl 0) (Nat.le_refl 1) (Nat.le_refl 21) (fun x H locs pc ls hd hp hW hS => W.vret hx hb hr (fun t ht hM => ⟨⟨x, rfl, hp, Wd.back hW ht.symm (fun _ z => z)⟩, hS.F ht⟩) hS.2.2 hd hlocks)  l1 x _ _ ls  hw hW hS hl
set_option maxRecDepth 100000 in
def j_Mod_writeRuns_192 (post : St → Prop) (rec3 : Nat → Int32 → Int32 → Int32 → St → Prop) (rec127 : Nat → Int32 → Int32 → Int32 → Int32 → Int32 → Int32 → St → Prop) (rec145 : Nat → Int32 → Int32 → Int32 → Int32 → Int32 → Int32 → Int32 → Int32 → St → Prop) (l1 : Nat) (l2 : Int32) (l3 : Int32) (l4 : Int32) (l5 : Int32) (l6 : Int32) (l7 : Int32) (l8 : Int32) (l9 : Int32) (l10 : Int32) (x : St) : Prop := rec145 l1 l2 l3 l4 l5 l6 l7 l8 (l9 + 1) x
set_option maxHeartbeats 4000000 in
set_option maxRecDepth 100000 in
theorem t_Mod_writeRuns_192 {p : Program} {l : Launch} {e : Env} {R : Room} {s : State} {m : MethodId} {args : Array Value} {below : List Frame} {meth : Method} {c : Code} {cells slots : Nat} {Q : State → Prop} {dC : Nat → ClassId} {dI : Nat → Nat → Nat} {cI cB cJ cZ : ClassId} {A : Nat → Prop} {ad : Nat → Nat} {post : St → Prop} {rec3 : Nat → Int32 → Int32 → Int32 → St → Prop} {rec127 : Nat → Int32 → Int32 → Int32 → Int32 → Int32 → Int32 → St → Prop} {rec145 : Nat → Int32 → Int32 → Int32 → Int32 → Int32 → Int32 → Int32 → Int32 → St → Prop} (hx : p.tables.exec = Jvm.exec) (hb : c.code = b_Mod_writeRuns) (hml : c.maxLocals = 11) (hown : s.vm.findClass R_Mod = some m.cls) (hT : ∀ w ∈ TG, w.before args s = true) (hK : va_K (dC, dI) CL (TY cI cB cJ cZ) s) (hN : NW s) (hA : ∀ q : Nat, s.heap.size ≤ q → A q) (hRc : cells ≤ R.cells) (hRs : slots ≤ R.slots) (hRf : 2 ≤ R.frames) (hRl : 45 ≤ R.locals) (hret : ∀ (x : St) (H : Heap) (locs : List Loc) (pc : Nat) (ls : Array Slot), decode b_Mod_writeRuns pc = .ok (.return_, 1) → post x → Wd dC dI cI cB cJ cZ ad stM kcM 115 A x H → va_S A s.heap H locs → W p l e R s m args below meth c H locs cells slots Q (F0 m pc ls [])) (hrec3 : ∀ (l1 : Nat) (l2 : Int32) (l3 : Int32) (l4 : Int32) (x : St) (H : Heap) (locs : List Loc) (ls : Array Slot), (l1 < 115 ∧ kcM l1 = 20) → rec3 l1 l2 l3 l4 x → Wd dC dI cI cB cJ cZ ad stM kcM 115 A x H → va_S A s.heap H locs → lv_has ls 11 [(0, .ref (ad 0)), (1, .ref (ad l1)), (2, .int l2), (3, .int l3), (4, .int l4)] → W p l e R s m args below meth c H locs cells slots Q (F0 m 3 ls [])) (hrec127 : ∀ (l1 : Nat) (l2 : Int32) (l3 : Int32) (l4 : Int32) (l5 : Int32) (l6 : Int32) (l7 : Int32) (x : St) (H : Heap) (locs : List Loc) (ls : Array Slot), (l1 < 115 ∧ kcM l1 = 20) → rec127 l1 l2 l3 l4 l5 l6 l7 x → Wd dC dI cI cB cJ cZ ad stM kcM 115 A x H → va_S A s.heap H locs → lv_has ls 11 [(0, .ref (ad 0)), (1, .ref (ad l1)), (2, .int l2), (3, .int l3), (4, .int l4), (5, .int l5), (6, .int l6), (7, .int l7)] → W p l e R s m args below meth c H locs cells slots Q (F0 m 127 ls [])) (hrec145 : ∀ (l1 : Nat) (l2 : Int32) (l3 : Int32) (l4 : Int32) (l5 : Int32) (l6 : Int32) (l7 : Int32) (l8 : Int32) (l9 : Int32) (x : St) (H : Heap) (locs : List Loc) (ls : Array Slot), (l1 < 115 ∧ kcM l1 = 20) → rec145 l1 l2 l3 l4 l5 l6 l7 l8 l9 x → Wd dC dI cI cB cJ cZ ad stM kcM 115 A x H → va_S A s.heap H locs → lv_has ls 11 [(0, .ref (ad 0)), (1, .ref (ad l1)), (2, .int l2), (3, .int l3), (4, .int l4), (5, .int l5), (6, .int l6), (7, .int l7), (8, .int l8), (9, .int l9)] → W p l e R s m args below meth c H locs cells slots Q (F0 m 145 ls [])) : ∀ (l1 : Nat) (l2 : Int32) (l3 : Int32) (l4 : Int32) (l5 : Int32) (l6 : Int32) (l7 : Int32) (l8 : Int32) (l9 : Int32) (l10 : Int32) (x : St) (H : Heap) (locs : List Loc) (ls : Array Slot), (l1 < 115 ∧ kcM l1 = 20) → j_Mod_writeRuns_192 post rec3 rec127 rec145 l1 l2 l3 l4 l5 l6 l7 l8 l9 l10 x → Wd dC dI cI cB cJ cZ ad stM kcM 115 A x H → va_S A s.heap H locs → lv_has ls 11 [(0, .ref (ad 0)), (1, .ref (ad l1)), (2, .int l2), (3, .int l3), (4, .int l4), (5, .int l5), (6, .int l6), (7, .int l7), (8, .int l8), (9, .int l9), (10, .int l10)] → W p l e R s m args below meth c H locs cells slots Q (F0 m 192 ls []) := by
  intro l1 l2 l3 l4 l5 l6 l7 l8 l9 l10 x H locs ls fl1 hw hW hS hl
  unfold j_Mod_writeRuns_192 at hw
  refine lv_iinc (v := (l9 + 1)) (lv' := [(9, .int (l9 + 1)), (0, .ref (ad 0)), (1, .ref (ad l1)), (2, .int l2), (3, .int l3), (4, .int l4), (5, .int l5), (6, .int l6), (7, .int l7), (8, .int l8), (10, .int l10)]) hx hb d_Mod_writeRuns_192 hl (k := 9) rfl rfl (by decide) rfl (fun ls hl => ?_)
  refine lv_goto (tgt := 145) hx hb d_Mod_writeRuns_195 (by decide) ?_
  exact hrec145 l1 l2 l3 l4 l5 l6 l7 l8 (l9 + 1) x H locs ls fl1 hw hW hS (lv_sub hl [1, 2, 3, 4, 5, 6, 7, 8, 9, 0] rfl)
set_option maxRecDepth 100000 in
def j_Mod_writeRuns_145 (post : St → Prop) (rec3 : Nat → Int32 → Int32 → Int32 → St → Prop) (rec127 : Nat → Int32 → Int32 → Int32 → Int32 → Int32 → Int32 → St → Prop) (rec145 : Nat → Int32 → Int32 → Int32 → Int32 → Int32 → Int32 → Int32 → Int32 → St → Prop) (l1 : Nat) (l2 : Int32) (l3 : Int32) (l4 : Int32) (l5 : Int32) (l6 : Int32) (l7 : Int32) (l8 : Int32) (l9 : Int32) (x : St) : Prop := ((8 ≤ l9 → wp_Mod_put (fun (x509 : St) => rec127 l1 l2 l3 l4 l5 l6 (l7 + 8) x509) l8 x) ∧ (¬ 8 ≤ l9 → ((¬ l3 = 0) ∧ (∀ v510 : Int32, v510 = (l4 + ((l7 + l9) / l3)) → ((l2 ≤ v510 → j_Mod_writeRuns_192 post rec3 rec127 rec145 l1 l2 l3 l4 l5 l6 l7 l8 l9 v510 x) ∧ (¬ l2 ≤ v510 → (vp_in v510 (fN x l1) ∧ ((¬ l3 = 0) ∧ (∀ v512 : Int32, v512 = (l8 ||| (((((rA x l1 v510) : Int32).toUInt32 >>> ((((l7 + l9) - (l7 + l9) / l3 * l3) : Int32).toUInt32 &&& Int32.toUInt32 31)).toInt32 &&& 1) <<< (l9 &&& 31))) → j_Mod_writeRuns_192 post rec3 rec127 rec145 l1 l2 l3 l4 l5 l6 l7 v512 l9 v510 x)))))))))
set_option maxHeartbeats 4000000 in
set_option maxRecDepth 100000 in
theorem t_Mod_writeRuns_145 {p : Program} {l : Launch} {e : Env} {R : Room} {s : State} {m : MethodId} {args : Array Value} {below : List Frame} {meth : Method} {c : Code} {cells slots : Nat} {Q : State → Prop} {dC : Nat → ClassId} {dI : Nat → Nat → Nat} {cI cB cJ cZ : ClassId} {A : Nat → Prop} {ad : Nat → Nat} {post : St → Prop} {rec3 : Nat → Int32 → Int32 → Int32 → St → Prop} {rec127 : Nat → Int32 → Int32 → Int32 → Int32 → Int32 → Int32 → St → Prop} {rec145 : Nat → Int32 → Int32 → Int32 → Int32 → Int32 → Int32 → Int32 → Int32 → St → Prop} (hx : p.tables.exec = Jvm.exec) (hb : c.code = b_Mod_writeRuns) (hml : c.maxLocals = 11) (hown : s.vm.findClass R_Mod = some m.cls) (hT : ∀ w ∈ TG, w.before args s = true) (hK : va_K (dC, dI) CL (TY cI cB cJ cZ) s) (hN : NW s) (hA : ∀ q : Nat, s.heap.size ≤ q → A q) (hRc : cells ≤ R.cells) (hRs : slots ≤ R.slots) (hRf : 2 ≤ R.frames) (hRl : 45 ≤ R.locals) (hret : ∀ (x : St) (H : Heap) (locs : List Loc) (pc : Nat) (ls : Array Slot), decode b_Mod_writeRuns pc = .ok (.return_, 1) → post x → Wd dC dI cI cB cJ cZ ad stM kcM 115 A x H → va_S A s.heap H locs → W p l e R s m args below meth c H locs cells slots Q (F0 m pc ls [])) (hrec3 : ∀ (l1 : Nat) (l2 : Int32) (l3 : Int32) (l4 : Int32) (x : St) (H : Heap) (locs : List Loc) (ls : Array Slot), (l1 < 115 ∧ kcM l1 = 20) → rec3 l1 l2 l3 l4 x → Wd dC dI cI cB cJ cZ ad stM kcM 115 A x H → va_S A s.heap H locs → lv_has ls 11 [(0, .ref (ad 0)), (1, .ref (ad l1)), (2, .int l2), (3, .int l3), (4, .int l4)] → W p l e R s m args below meth c H locs cells slots Q (F0 m 3 ls [])) (hrec127 : ∀ (l1 : Nat) (l2 : Int32) (l3 : Int32) (l4 : Int32) (l5 : Int32) (l6 : Int32) (l7 : Int32) (x : St) (H : Heap) (locs : List Loc) (ls : Array Slot), (l1 < 115 ∧ kcM l1 = 20) → rec127 l1 l2 l3 l4 l5 l6 l7 x → Wd dC dI cI cB cJ cZ ad stM kcM 115 A x H → va_S A s.heap H locs → lv_has ls 11 [(0, .ref (ad 0)), (1, .ref (ad l1)), (2, .int l2), (3, .int l3), (4, .int l4), (5, .int l5), (6, .int l6), (7, .int l7)] → W p l e R s m args below meth c H locs cells slots Q (F0 m 127 ls [])) (hrec145 : ∀ (l1 : Nat) (l2 : Int32) (l3 : Int32) (l4 : Int32) (l5 : Int32) (l6 : Int32) (l7 : Int32) (l8 : Int32) (l9 : Int32) (x : St) (H : Heap) (locs : List Loc) (ls : Array Slot), (l1 < 115 ∧ kcM l1 = 20) → rec145 l1 l2 l3 l4 l5 l6 l7 l8 l9 x → Wd dC dI cI cB cJ cZ ad stM kcM 115 A x H → va_S A s.heap H locs → lv_has ls 11 [(0, .ref (ad 0)), (1, .ref (ad l1)), (2, .int l2), (3, .int l3), (4, .int l4), (5, .int l5), (6, .int l6), (7, .int l7), (8, .int l8), (9, .int l9)] → W p l e R s m args below meth c H locs cells slots Q (F0 m 145 ls [])) : ∀ (l1 : Nat) (l2 : Int32) (l3 : Int32) (l4 : Int32) (l5 : Int32) (l6 : Int32) (l7 : Int32) (l8 : Int32) (l9 : Int32) (x : St) (H : Heap) (locs : List Loc) (ls : Array Slot), (l1 < 115 ∧ kcM l1 = 20) → j_Mod_writeRuns_145 post rec3 rec127 rec145 l1 l2 l3 l4 l5 l6 l7 l8 l9 x → Wd dC dI cI cB cJ cZ ad stM kcM 115 A x H → va_S A s.heap H locs → lv_has ls 11 [(0, .ref (ad 0)), (1, .ref (ad l1)), (2, .int l2), (3, .int l3), (4, .int l4), (5, .int l5), (6, .int l6), (7, .int l7), (8, .int l8), (9, .int l9)] → W p l e R s m args below meth c H locs cells slots Q (F0 m 145 ls []) := by
  intro l1 l2 l3 l4 l5 l6 l7 l8 l9 x H locs ls fl1 hw hW hS hl
  unfold j_Mod_writeRuns_145 at hw
  refine lv_iload hx hb d_Mod_writeRuns_145 (lv_at hl 9 rfl) ?_
  refine lv_bipush (v := 8) hx hb d_Mod_writeRuns_147 (by decide) ?_
  refine lv_icmp_ge (tgt := 198) hx hb d_Mod_writeRuns_149 (by decide) (fun c508 => ?_) (fun c508 => ?_)
  · have hw := hw.1 c508
    refine lv_aload_n hx hb d_Mod_writeRuns_198 rfl (lv_at hl 0 rfl) ?_
    refine lv_iload hx hb d_Mod_writeRuns_199 (lv_at hl 8 rfl) ?_
    have hF := hW.free hS hA
    refine va_callv (va_runV (C := R_Mod) (As := [.int l8]) (rest := []) ⟨hx, hb, hml, hown, hT⟩ (k_Mod_put l dC dI cI cB cJ cZ ad H.size l8 x  hw) ⟨callB_of 1 hT (gw_in w_11_203) rfl rfl rfl (hT _ w_1_15) (hT _ w_11_200) (by decide +kernel) ⟨Nat.le_trans (by decide) hRf, Nat.le_trans (by decide) hRl⟩, hT _ w_11_202, hT _ ws_154⟩ ⟨PW.blind, va_recv hK hW.1 (ci := 12) (q0 := 0) rfl (pic_obj ko_0.1 ko_0.2 (by decide)), PW.at _ hW hK hN⟩ rfl rfl hl.1 rfl (lv_room (Nat.le_of_ble_eq_true rfl)) d_Mod_writeRuns_201 ⟨hRc, hRs⟩) hS (fun q _ h => hF q h) hF (fun  x509 t H locs ht hvm hw hB hz1 hk1 hS => ?_)
    have hW := Wd.back hB ht hF
    clear hB ht hF hz1 hk1 hvm
    refine lv_iinc (v := (l7 + 8)) (lv' := [(7, .int (l7 + 8)), (0, .ref (ad 0)), (1, .ref (ad l1)), (2, .int l2), (3, .int l3), (4, .int l4), (5, .int l5), (6, .int l6), (8, .int l8), (9, .int l9)]) hx hb d_Mod_writeRuns_204 hl (k := 7) rfl rfl (by decide) rfl (fun ls hl => ?_)
    refine lv_goto (tgt := 127) hx hb d_Mod_writeRuns_207 (by decide) ?_
    exact hrec127 l1 l2 l3 l4 l5 l6 (l7 + 8) x509 H locs ls fl1 hw hW hS (lv_sub hl [1, 2, 3, 4, 5, 6, 7, 0] rfl)
  · have hw := hw.2 c508
    refine lv_iload hx hb d_Mod_writeRuns_152 (lv_at hl 4 rfl) ?_
    refine lv_iload hx hb d_Mod_writeRuns_154 (lv_at hl 7 rfl) ?_
    refine lv_iload hx hb d_Mod_writeRuns_156 (lv_at hl 9 rfl) ?_
    refine lv_iadd hx hb d_Mod_writeRuns_158 ?_
    refine lv_iload_n hx hb d_Mod_writeRuns_159 rfl (lv_at hl 3 rfl) ?_
    obtain ⟨hz, hw⟩ := hw
    refine lv_idiv hx hb d_Mod_writeRuns_160 hz ?_
    refine lv_iadd hx hb d_Mod_writeRuns_161 ?_
    refine lv_topi (fun v510 ev510 => ?_)
    have hw := hw v510 ev510
    refine lv_istore (lv' := [(10, .int v510), (0, .ref (ad 0)), (1, .ref (ad l1)), (2, .int l2), (3, .int l3), (4, .int l4), (5, .int l5), (6, .int l6), (7, .int l7), (8, .int l8), (9, .int l9)]) hx hb d_Mod_writeRuns_162 hl (by decide) rfl (fun ls hl => ?_)
    refine lv_iload hx hb d_Mod_writeRuns_164 (lv_at hl 0 rfl) ?_
    refine lv_iload_n hx hb d_Mod_writeRuns_166 rfl (lv_at hl 3 rfl) ?_
    refine lv_icmp_ge (tgt := 192) hx hb d_Mod_writeRuns_167 (by decide) (fun c511 => ?_) (fun c511 => ?_)
    · have hw := hw.1 c511
      exact t_Mod_writeRuns_192 hx hb hml hown hT hK hN hA hRc hRs hRf hRl hret hrec3 hrec127 hrec145 l1 l2 l3 l4 l5 l6 l7 l8 l9 v510 x H locs ls fl1 hw hW hS (lv_sub hl [1, 2, 3, 4, 5, 6, 7, 8, 9, 10, 0] rfl)
    · have hw := hw.2 c511
      refine lv_iload hx hb d_Mod_writeRuns_170 (lv_at hl 9 rfl) ?_
      refine lv_aload_n hx hb d_Mod_writeRuns_172 rfl (lv_at hl 2 rfl) ?_
      refine lv_iload hx hb d_Mod_writeRuns_173 (lv_at hl 0 rfl) ?_
      obtain ⟨hi, hw⟩ := hw
      refine w_iald (o := l1) hx hb hK hW fl1.1 fl1.2 hi d_Mod_writeRuns_175 ?_
      refine lv_iload hx hb d_Mod_writeRuns_176 (lv_at hl 8 rfl) ?_
      refine lv_iload hx hb d_Mod_writeRuns_178 (lv_at hl 10 rfl) ?_
      refine lv_iadd hx hb d_Mod_writeRuns_180 ?_
      refine lv_iload_n hx hb d_Mod_writeRuns_181 rfl (lv_at hl 4 rfl) ?_
      obtain ⟨hz, hw⟩ := hw
      refine lv_irem hx hb d_Mod_writeRuns_182 hz ?_
      refine lv_iushr hx hb d_Mod_writeRuns_183 rfl ?_
      refine lv_iconst (v := 1) hx hb d_Mod_writeRuns_184 (by decide) ?_
      refine lv_iand hx hb d_Mod_writeRuns_185 ?_
      refine lv_iload hx hb d_Mod_writeRuns_186 (lv_at hl 10 rfl) ?_
      refine lv_ishl hx hb d_Mod_writeRuns_188 ?_
      refine lv_ior hx hb d_Mod_writeRuns_189 ?_
      refine lv_topi (fun v512 ev512 => ?_)
      have hw := hw v512 ev512
      refine lv_istore (lv' := [(8, .int v512), (10, .int v510), (0, .ref (ad 0)), (1, .ref (ad l1)), (2, .int l2), (3, .int l3), (4, .int l4), (5, .int l5), (6, .int l6), (7, .int l7), (9, .int l9)]) hx hb d_Mod_writeRuns_190 hl (by decide) rfl (fun ls hl => ?_)
      exact t_Mod_writeRuns_192 hx hb hml hown hT hK hN hA hRc hRs hRf hRl hret hrec3 hrec127 hrec145 l1 l2 l3 l4 l5 l6 l7 v512 l9 v510 x H locs ls fl1 hw hW hS (lv_sub hl [2, 3, 4, 5, 6, 7, 8, 9, 0, 10, 1] rfl)
def wl_Mod_writeRuns_145 (post : St → Prop) (rec3 : Nat → Int32 → Int32 → Int32 → St → Prop) (rec127 : Nat → Int32 → Int32 → Int32 → Int32 → Int32 → Int32 → St → Prop) : Nat → Nat → Int32 → Int32 → Int32 → Int32 → Int32 → Int32 → Int32 → Int32 → St → Prop
  | 0 => fun _ _ _ _ _ _ _ _ _ _ => False
  | n + 1 => j_Mod_writeRuns_145 post rec3 rec127 (wl_Mod_writeRuns_145 post rec3 rec127 n)
set_option maxHeartbeats 4000000 in
set_option maxRecDepth 100000 in
theorem tl_Mod_writeRuns_145 {p : Program} {l : Launch} {e : Env} {R : Room} {s : State} {m : MethodId} {args : Array Value} {below : List Frame} {meth : Method} {c : Code} {cells slots : Nat} {Q : State → Prop} {dC : Nat → ClassId} {dI : Nat → Nat → Nat} {cI cB cJ cZ : ClassId} {A : Nat → Prop} {ad : Nat → Nat} {post : St → Prop} {rec3 : Nat → Int32 → Int32 → Int32 → St → Prop} {rec127 : Nat → Int32 → Int32 → Int32 → Int32 → Int32 → Int32 → St → Prop} (hx : p.tables.exec = Jvm.exec) (hb : c.code = b_Mod_writeRuns) (hml : c.maxLocals = 11) (hown : s.vm.findClass R_Mod = some m.cls) (hT : ∀ w ∈ TG, w.before args s = true) (hK : va_K (dC, dI) CL (TY cI cB cJ cZ) s) (hN : NW s) (hA : ∀ q : Nat, s.heap.size ≤ q → A q) (hRc : cells ≤ R.cells) (hRs : slots ≤ R.slots) (hRf : 2 ≤ R.frames) (hRl : 45 ≤ R.locals) (hret : ∀ (x : St) (H : Heap) (locs : List Loc) (pc : Nat) (ls : Array Slot), decode b_Mod_writeRuns pc = .ok (.return_, 1) → post x → Wd dC dI cI cB cJ cZ ad stM kcM 115 A x H → va_S A s.heap H locs → W p l e R s m args below meth c H locs cells slots Q (F0 m pc ls [])) (hrec3 : ∀ (l1 : Nat) (l2 : Int32) (l3 : Int32) (l4 : Int32) (x : St) (H : Heap) (locs : List Loc) (ls : Array Slot), (l1 < 115 ∧ kcM l1 = 20) → rec3 l1 l2 l3 l4 x → Wd dC dI cI cB cJ cZ ad stM kcM 115 A x H → va_S A s.heap H locs → lv_has ls 11 [(0, .ref (ad 0)), (1, .ref (ad l1)), (2, .int l2), (3, .int l3), (4, .int l4)] → W p l e R s m args below meth c H locs cells slots Q (F0 m 3 ls [])) (hrec127 : ∀ (l1 : Nat) (l2 : Int32) (l3 : Int32) (l4 : Int32) (l5 : Int32) (l6 : Int32) (l7 : Int32) (x : St) (H : Heap) (locs : List Loc) (ls : Array Slot), (l1 < 115 ∧ kcM l1 = 20) → rec127 l1 l2 l3 l4 l5 l6 l7 x → Wd dC dI cI cB cJ cZ ad stM kcM 115 A x H → va_S A s.heap H locs → lv_has ls 11 [(0, .ref (ad 0)), (1, .ref (ad l1)), (2, .int l2), (3, .int l3), (4, .int l4), (5, .int l5), (6, .int l6), (7, .int l7)] → W p l e R s m args below meth c H locs cells slots Q (F0 m 127 ls [])) : ∀ n : Nat, ∀ (l1 : Nat) (l2 : Int32) (l3 : Int32) (l4 : Int32) (l5 : Int32) (l6 : Int32) (l7 : Int32) (l8 : Int32) (l9 : Int32) (x : St) (H : Heap) (locs : List Loc) (ls : Array Slot), (l1 < 115 ∧ kcM l1 = 20) → wl_Mod_writeRuns_145 post rec3 rec127 n l1 l2 l3 l4 l5 l6 l7 l8 l9 x → Wd dC dI cI cB cJ cZ ad stM kcM 115 A x H → va_S A s.heap H locs → lv_has ls 11 [(0, .ref (ad 0)), (1, .ref (ad l1)), (2, .int l2), (3, .int l3), (4, .int l4), (5, .int l5), (6, .int l6), (7, .int l7), (8, .int l8), (9, .int l9)] → W p l e R s m args below meth c H locs cells slots Q (F0 m 145 ls []) := by
  intro n
  induction n with
  | zero => intro l1 l2 l3 l4 l5 l6 l7 l8 l9 x H locs ls fl1 hw; exact hw.elim
  | succ n ih => intro l1 l2 l3 l4 l5 l6 l7 l8 l9 x H locs ls fl1 hw hW hS hl; exact t_Mod_writeRuns_145 hx hb hml hown hT hK hN hA hRc hRs hRf hRl hret hrec3 hrec127 ih l1 l2 l3 l4 l5 l6 l7 l8 l9 x H locs ls fl1 hw hW hS hl
set_option maxRecDepth 100000 in
def j_Mod_writeRuns_127 (post : St → Prop) (rec3 : Nat → Int32 → Int32 → Int32 → St → Prop) (rec127 : Nat → Int32 → Int32 → Int32 → Int32 → Int32 → Int32 → St → Prop) (l1 : Nat) (l2 : Int32) (l3 : Int32) (l4 : Int32) (l5 : Int32) (l6 : Int32) (l7 : Int32) (x : St) : Prop := ((((8 * l3) * l6) ≤ l7 → (∀ v514 : Int32, v514 = (l4 + (8 * l6)) → rec3 l1 l2 l3 v514 x)) ∧ (¬ ((8 * l3) * l6) ≤ l7 → ∃ n : Nat, wl_Mod_writeRuns_145 post rec3 rec127 n l1 l2 l3 l4 l5 l6 l7 0 0 x))
set_option maxHeartbeats 4000000 in
set_option maxRecDepth 100000 in
theorem t_Mod_writeRuns_127 {p : Program} {l : Launch} {e : Env} {R : Room} {s : State} {m : MethodId} {args : Array Value} {below : List Frame} {meth : Method} {c : Code} {cells slots : Nat} {Q : State → Prop} {dC : Nat → ClassId} {dI : Nat → Nat → Nat} {cI cB cJ cZ : ClassId} {A : Nat → Prop} {ad : Nat → Nat} {post : St → Prop} {rec3 : Nat → Int32 → Int32 → Int32 → St → Prop} {rec127 : Nat → Int32 → Int32 → Int32 → Int32 → Int32 → Int32 → St → Prop} (hx : p.tables.exec = Jvm.exec) (hb : c.code = b_Mod_writeRuns) (hml : c.maxLocals = 11) (hown : s.vm.findClass R_Mod = some m.cls) (hT : ∀ w ∈ TG, w.before args s = true) (hK : va_K (dC, dI) CL (TY cI cB cJ cZ) s) (hN : NW s) (hA : ∀ q : Nat, s.heap.size ≤ q → A q) (hRc : cells ≤ R.cells) (hRs : slots ≤ R.slots) (hRf : 2 ≤ R.frames) (hRl : 45 ≤ R.locals) (hret : ∀ (x : St) (H : Heap) (locs : List Loc) (pc : Nat) (ls : Array Slot), decode b_Mod_writeRuns pc = .ok (.return_, 1) → post x → Wd dC dI cI cB cJ cZ ad stM kcM 115 A x H → va_S A s.heap H locs → W p l e R s m args below meth c H locs cells slots Q (F0 m pc ls [])) (hrec3 : ∀ (l1 : Nat) (l2 : Int32) (l3 : Int32) (l4 : Int32) (x : St) (H : Heap) (locs : List Loc) (ls : Array Slot), (l1 < 115 ∧ kcM l1 = 20) → rec3 l1 l2 l3 l4 x → Wd dC dI cI cB cJ cZ ad stM kcM 115 A x H → va_S A s.heap H locs → lv_has ls 11 [(0, .ref (ad 0)), (1, .ref (ad l1)), (2, .int l2), (3, .int l3), (4, .int l4)] → W p l e R s m args below meth c H locs cells slots Q (F0 m 3 ls [])) (hrec127 : ∀ (l1 : Nat) (l2 : Int32) (l3 : Int32) (l4 : Int32) (l5 : Int32) (l6 : Int32) (l7 : Int32) (x : St) (H : Heap) (locs : List Loc) (ls : Array Slot), (l1 < 115 ∧ kcM l1 = 20) → rec127 l1 l2 l3 l4 l5 l6 l7 x → Wd dC dI cI cB cJ cZ ad stM kcM 115 A x H → va_S A s.heap H locs → lv_has ls 11 [(0, .ref (ad 0)), (1, .ref (ad l1)), (2, .int l2), (3, .int l3), (4, .int l4), (5, .int l5), (6, .int l6), (7, .int l7)] → W p l e R s m args below meth c H locs cells slots Q (F0 m 127 ls [])) : ∀ (l1 : Nat) (l2 : Int32) (l3 : Int32) (l4 : Int32) (l5 : Int32) (l6 : Int32) (l7 : Int32) (x : St) (H : Heap) (locs : List Loc) (ls : Array Slot), (l1 < 115 ∧ kcM l1 = 20) → j_Mod_writeRuns_127 post rec3 rec127 l1 l2 l3 l4 l5 l6 l7 x → Wd dC dI cI cB cJ cZ ad stM kcM 115 A x H → va_S A s.heap H locs → lv_has ls 11 [(0, .ref (ad 0)), (1, .ref (ad l1)), (2, .int l2), (3, .int l3), (4, .int l4), (5, .int l5), (6, .int l6), (7, .int l7)] → W p l e R s m args below meth c H locs cells slots Q (F0 m 127 ls []) := by
  intro l1 l2 l3 l4 l5 l6 l7 x H locs ls fl1 hw hW hS hl
  unfold j_Mod_writeRuns_127 at hw
  refine lv_iload hx hb d_Mod_writeRuns_127 (lv_at hl 7 rfl) ?_
  refine lv_bipush (v := 8) hx hb d_Mod_writeRuns_129 (by decide) ?_
  refine lv_iload_n hx hb d_Mod_writeRuns_131 rfl (lv_at hl 3 rfl) ?_
  refine lv_imul hx hb d_Mod_writeRuns_132 ?_
  refine lv_iload hx hb d_Mod_writeRuns_133 (lv_at hl 6 rfl) ?_
  refine lv_imul hx hb d_Mod_writeRuns_135 ?_
  refine lv_icmp_ge (tgt := 210) hx hb d_Mod_writeRuns_136 (by decide) (fun c513 => ?_) (fun c513 => ?_)
  · have hw := hw.1 c513
    refine lv_iload hx hb d_Mod_writeRuns_210 (lv_at hl 4 rfl) ?_
    refine lv_bipush (v := 8) hx hb d_Mod_writeRuns_212 (by decide) ?_
    refine lv_iload hx hb d_Mod_writeRuns_214 (lv_at hl 6 rfl) ?_
    refine lv_imul hx hb d_Mod_writeRuns_216 ?_
    refine lv_iadd hx hb d_Mod_writeRuns_217 ?_
    refine lv_topi (fun v514 ev514 => ?_)
    have hw := hw v514 ev514
    refine lv_istore (lv' := [(4, .int v514), (0, .ref (ad 0)), (1, .ref (ad l1)), (2, .int l2), (3, .int l3), (5, .int l5), (6, .int l6), (7, .int l7)]) hx hb d_Mod_writeRuns_218 hl (by decide) rfl (fun ls hl => ?_)
    refine lv_goto (tgt := 3) hx hb d_Mod_writeRuns_220 (by decide) ?_
    exact hrec3 l1 l2 l3 v514 x H locs ls fl1 hw hW hS (lv_sub hl [1, 2, 3, 4, 0] rfl)
  · have hw := hw.2 c513
    refine lv_iconst (v := 0) hx hb d_Mod_writeRuns_139 (by decide) ?_
    refine lv_istore (lv' := [(8, .int 0), (0, .ref (ad 0)), (1, .ref (ad l1)), (2, .int l2), (3, .int l3), (4, .int l4), (5, .int l5), (6, .int l6), (7, .int l7)]) hx hb d_Mod_writeRuns_140 hl (by decide) rfl (fun ls hl => ?_)
    refine lv_iconst (v := 0) hx hb d_Mod_writeRuns_142 (by decide) ?_
    refine lv_istore (lv' := [(9, .int 0), (8, .int 0), (0, .ref (ad 0)), (1, .ref (ad l1)), (2, .int l2), (3, .int l3), (4, .int l4), (5, .int l5), (6, .int l6), (7, .int l7)]) hx hb d_Mod_writeRuns_143 hl (by decide) rfl (fun ls hl => ?_)
    obtain ⟨n, hw⟩ := hw
    exact tl_Mod_writeRuns_145 hx hb hml hown hT hK hN hA hRc hRs hRf hRl hret hrec3 hrec127 n l1 l2 l3 l4 l5 l6 l7 0 0 x H locs ls fl1 hw hW hS (lv_sub hl [2, 3, 4, 5, 6, 7, 8, 9, 1, 0] rfl)
def wl_Mod_writeRuns_127 (post : St → Prop) (rec3 : Nat → Int32 → Int32 → Int32 → St → Prop) : Nat → Nat → Int32 → Int32 → Int32 → Int32 → Int32 → Int32 → St → Prop
  | 0 => fun _ _ _ _ _ _ _ _ => False
  | n + 1 => j_Mod_writeRuns_127 post rec3 (wl_Mod_writeRuns_127 post rec3 n)
set_option maxHeartbeats 4000000 in
set_option maxRecDepth 100000 in
theorem tl_Mod_writeRuns_127 {p : Program} {l : Launch} {e : Env} {R : Room} {s : State} {m : MethodId} {args : Array Value} {below : List Frame} {meth : Method} {c : Code} {cells slots : Nat} {Q : State → Prop} {dC : Nat → ClassId} {dI : Nat → Nat → Nat} {cI cB cJ cZ : ClassId} {A : Nat → Prop} {ad : Nat → Nat} {post : St → Prop} {rec3 : Nat → Int32 → Int32 → Int32 → St → Prop} (hx : p.tables.exec = Jvm.exec) (hb : c.code = b_Mod_writeRuns) (hml : c.maxLocals = 11) (hown : s.vm.findClass R_Mod = some m.cls) (hT : ∀ w ∈ TG, w.before args s = true) (hK : va_K (dC, dI) CL (TY cI cB cJ cZ) s) (hN : NW s) (hA : ∀ q : Nat, s.heap.size ≤ q → A q) (hRc : cells ≤ R.cells) (hRs : slots ≤ R.slots) (hRf : 2 ≤ R.frames) (hRl : 45 ≤ R.locals) (hret : ∀ (x : St) (H : Heap) (locs : List Loc) (pc : Nat) (ls : Array Slot), decode b_Mod_writeRuns pc = .ok (.return_, 1) → post x → Wd dC dI cI cB cJ cZ ad stM kcM 115 A x H → va_S A s.heap H locs → W p l e R s m args below meth c H locs cells slots Q (F0 m pc ls [])) (hrec3 : ∀ (l1 : Nat) (l2 : Int32) (l3 : Int32) (l4 : Int32) (x : St) (H : Heap) (locs : List Loc) (ls : Array Slot), (l1 < 115 ∧ kcM l1 = 20) → rec3 l1 l2 l3 l4 x → Wd dC dI cI cB cJ cZ ad stM kcM 115 A x H → va_S A s.heap H locs → lv_has ls 11 [(0, .ref (ad 0)), (1, .ref (ad l1)), (2, .int l2), (3, .int l3), (4, .int l4)] → W p l e R s m args below meth c H locs cells slots Q (F0 m 3 ls [])) : ∀ n : Nat, ∀ (l1 : Nat) (l2 : Int32) (l3 : Int32) (l4 : Int32) (l5 : Int32) (l6 : Int32) (l7 : Int32) (x : St) (H : Heap) (locs : List Loc) (ls : Array Slot), (l1 < 115 ∧ kcM l1 = 20) → wl_Mod_writeRuns_127 post rec3 n l1 l2 l3 l4 l5 l6 l7 x → Wd dC dI cI cB cJ cZ ad stM kcM 115 A x H → va_S A s.heap H locs → lv_has ls 11 [(0, .ref (ad 0)), (1, .ref (ad l1)), (2, .int l2), (3, .int l3), (4, .int l4), (5, .int l5), (6, .int l6), (7, .int l7)] → W p l e R s m args below meth c H locs cells slots Q (F0 m 127 ls []) := by
  intro n
  induction n with
  | zero => intro l1 l2 l3 l4 l5 l6 l7 x H locs ls fl1 hw; exact hw.elim
  | succ n ih => intro l1 l2 l3 l4 l5 l6 l7 x H locs ls fl1 hw hW hS hl; exact t_Mod_writeRuns_127 hx hb hml hown hT hK hN hA hRc hRs hRf hRl hret hrec3 ih l1 l2 l3 l4 l5 l6 l7 x H locs ls fl1 hw hW hS hl
set_option maxRecDepth 100000 in
def j_Mod_writeRuns_111 (post : St → Prop) (rec3 : Nat → Int32 → Int32 → Int32 → St → Prop) (l1 : Nat) (l2 : Int32) (l3 : Int32) (l4 : Int32) (l5 : Int32) (l6 : Int32) (x : St) : Prop := wp_Mod_putVarint (fun (x515 : St) => ∃ n : Nat, wl_Mod_writeRuns_127 post rec3 n l1 l2 l3 l4 l5 l6 0 x515) ((2 * (l6 : Int32).toInt64) + 1) x
set_option maxHeartbeats 4000000 in
set_option maxRecDepth 100000 in
theorem t_Mod_writeRuns_111 {p : Program} {l : Launch} {e : Env} {R : Room} {s : State} {m : MethodId} {args : Array Value} {below : List Frame} {meth : Method} {c : Code} {cells slots : Nat} {Q : State → Prop} {dC : Nat → ClassId} {dI : Nat → Nat → Nat} {cI cB cJ cZ : ClassId} {A : Nat → Prop} {ad : Nat → Nat} {post : St → Prop} {rec3 : Nat → Int32 → Int32 → Int32 → St → Prop} (hx : p.tables.exec = Jvm.exec) (hb : c.code = b_Mod_writeRuns) (hml : c.maxLocals = 11) (hown : s.vm.findClass R_Mod = some m.cls) (hT : ∀ w ∈ TG, w.before args s = true) (hK : va_K (dC, dI) CL (TY cI cB cJ cZ) s) (hN : NW s) (hA : ∀ q : Nat, s.heap.size ≤ q → A q) (hRc : cells ≤ R.cells) (hRs : slots ≤ R.slots) (hRf : 2 ≤ R.frames) (hRl : 45 ≤ R.locals) (hret : ∀ (x : St) (H : Heap) (locs : List Loc) (pc : Nat) (ls : Array Slot), decode b_Mod_writeRuns pc = .ok (.return_, 1) → post x → Wd dC dI cI cB cJ cZ ad stM kcM 115 A x H → va_S A s.heap H locs → W p l e R s m args below meth c H locs cells slots Q (F0 m pc ls [])) (hrec3 : ∀ (l1 : Nat) (l2 : Int32) (l3 : Int32) (l4 : Int32) (x : St) (H : Heap) (locs : List Loc) (ls : Array Slot), (l1 < 115 ∧ kcM l1 = 20) → rec3 l1 l2 l3 l4 x → Wd dC dI cI cB cJ cZ ad stM kcM 115 A x H → va_S A s.heap H locs → lv_has ls 11 [(0, .ref (ad 0)), (1, .ref (ad l1)), (2, .int l2), (3, .int l3), (4, .int l4)] → W p l e R s m args below meth c H locs cells slots Q (F0 m 3 ls [])) : ∀ (l1 : Nat) (l2 : Int32) (l3 : Int32) (l4 : Int32) (l5 : Int32) (l6 : Int32) (x : St) (H : Heap) (locs : List Loc) (ls : Array Slot), (l1 < 115 ∧ kcM l1 = 20) → j_Mod_writeRuns_111 post rec3 l1 l2 l3 l4 l5 l6 x → Wd dC dI cI cB cJ cZ ad stM kcM 115 A x H → va_S A s.heap H locs → lv_has ls 11 [(0, .ref (ad 0)), (1, .ref (ad l1)), (2, .int l2), (3, .int l3), (4, .int l4), (5, .int l5), (6, .int l6)] → W p l e R s m args below meth c H locs cells slots Q (F0 m 111 ls []) := by
  intro l1 l2 l3 l4 l5 l6 x H locs ls fl1 hw hW hS hl
  unfold j_Mod_writeRuns_111 at hw
  refine lv_aload_n hx hb d_Mod_writeRuns_111 rfl (lv_at hl 0 rfl) ?_
  refine lv_ldc2 hx hb hown (hT _ w_11_194) d_Mod_writeRuns_112 ?_
  refine lv_iload hx hb d_Mod_writeRuns_115 (lv_at hl 6 rfl) ?_
  refine lv_i2l hx hb d_Mod_writeRuns_117 rfl ?_
  refine lv_lmul hx hb d_Mod_writeRuns_118 ?_
  refine lv_lconst (v := 1) hx hb d_Mod_writeRuns_119 (by decide) ?_
  refine lv_ladd hx hb d_Mod_writeRuns_120 ?_
  have hF := hW.free hS hA
  refine va_callv (va_runV (C := R_Mod) (As := [.long ((2 * (l6 : Int32).toInt64) + 1)]) (rest := []) ⟨hx, hb, hml, hown, hT⟩ (k_Mod_putVarint l dC dI cI cB cJ cZ ad H.size ((2 * (l6 : Int32).toInt64) + 1) x  hw) ⟨callB_of 1 hT (gw_in w_11_198) rfl rfl rfl (hT _ w_1_15) (hT _ w_11_195) (by decide +kernel) ⟨Nat.le_trans (by decide) hRf, Nat.le_trans (by decide) hRl⟩, hT _ w_11_197, hT _ ws_153⟩ ⟨PW.blind, va_recv hK hW.1 (ci := 12) (q0 := 0) rfl (pic_obj ko_0.1 ko_0.2 (by decide)), PW.at _ hW hK hN⟩ rfl rfl hl.1 rfl (lv_room (Nat.le_of_ble_eq_true rfl)) d_Mod_writeRuns_121 ⟨hRc, hRs⟩) hS (fun q _ h => hF q h) hF (fun  x515 t H locs ht hvm hw hB hz1 hk1 hS => ?_)
  have hW := Wd.back hB ht hF
  clear hB ht hF hz1 hk1 hvm
  refine lv_iconst (v := 0) hx hb d_Mod_writeRuns_124 (by decide) ?_
  refine lv_istore (lv' := [(7, .int 0), (0, .ref (ad 0)), (1, .ref (ad l1)), (2, .int l2), (3, .int l3), (4, .int l4), (5, .int l5), (6, .int l6)]) hx hb d_Mod_writeRuns_125 hl (by decide) rfl (fun ls hl => ?_)
  obtain ⟨n, hw⟩ := hw
  exact tl_Mod_writeRuns_127 hx hb hml hown hT hK hN hA hRc hRs hRf hRl hret hrec3 n l1 l2 l3 l4 l5 l6 0 x515 H locs ls fl1 hw hW hS (lv_sub hl [1, 2, 3, 4, 5, 6, 7, 0] rfl)
set_option maxRecDepth 100000 in
def j_Mod_writeRuns_75 (post : St → Prop) (rec3 : Nat → Int32 → Int32 → Int32 → St → Prop) (rec75 : Nat → Int32 → Int32 → Int32 → Int32 → Int32 → St → Prop) (l1 : Nat) (l2 : Int32) (l3 : Int32) (l4 : Int32) (l5 : Int32) (l6 : Int32) (x : St) : Prop := ((l2 ≤ (l4 + (8 * l6)) → j_Mod_writeRuns_111 post rec3 l1 l2 l3 l4 l5 l6 x) ∧ (¬ l2 ≤ (l4 + (8 * l6)) → wp_Mod_alike (fun (r518 : Int32) (x517 : St) => ((8 ≤ r518 → j_Mod_writeRuns_111 post rec3 l1 l2 l3 l4 l5 l6 x517) ∧ (¬ 8 ≤ r518 → rec75 l1 l2 l3 l4 l5 (l6 + 1) x517))) l1 (l4 + (8 * l6)) l2 x))
set_option maxHeartbeats 4000000 in
set_option maxRecDepth 100000 in
theorem t_Mod_writeRuns_75 {p : Program} {l : Launch} {e : Env} {R : Room} {s : State} {m : MethodId} {args : Array Value} {below : List Frame} {meth : Method} {c : Code} {cells slots : Nat} {Q : State → Prop} {dC : Nat → ClassId} {dI : Nat → Nat → Nat} {cI cB cJ cZ : ClassId} {A : Nat → Prop} {ad : Nat → Nat} {post : St → Prop} {rec3 : Nat → Int32 → Int32 → Int32 → St → Prop} {rec75 : Nat → Int32 → Int32 → Int32 → Int32 → Int32 → St → Prop} (hx : p.tables.exec = Jvm.exec) (hb : c.code = b_Mod_writeRuns) (hml : c.maxLocals = 11) (hown : s.vm.findClass R_Mod = some m.cls) (hT : ∀ w ∈ TG, w.before args s = true) (hK : va_K (dC, dI) CL (TY cI cB cJ cZ) s) (hN : NW s) (hA : ∀ q : Nat, s.heap.size ≤ q → A q) (hRc : cells ≤ R.cells) (hRs : slots ≤ R.slots) (hRf : 2 ≤ R.frames) (hRl : 45 ≤ R.locals) (hret : ∀ (x : St) (H : Heap) (locs : List Loc) (pc : Nat) (ls : Array Slot), decode b_Mod_writeRuns pc = .ok (.return_, 1) → post x → Wd dC dI cI cB cJ cZ ad stM kcM 115 A x H → va_S A s.heap H locs → W p l e R s m args below meth c H locs cells slots Q (F0 m pc ls [])) (hrec3 : ∀ (l1 : Nat) (l2 : Int32) (l3 : Int32) (l4 : Int32) (x : St) (H : Heap) (locs : List Loc) (ls : Array Slot), (l1 < 115 ∧ kcM l1 = 20) → rec3 l1 l2 l3 l4 x → Wd dC dI cI cB cJ cZ ad stM kcM 115 A x H → va_S A s.heap H locs → lv_has ls 11 [(0, .ref (ad 0)), (1, .ref (ad l1)), (2, .int l2), (3, .int l3), (4, .int l4)] → W p l e R s m args below meth c H locs cells slots Q (F0 m 3 ls [])) (hrec75 : ∀ (l1 : Nat) (l2 : Int32) (l3 : Int32) (l4 : Int32) (l5 : Int32) (l6 : Int32) (x : St) (H : Heap) (locs : List Loc) (ls : Array Slot), (l1 < 115 ∧ kcM l1 = 20) → rec75 l1 l2 l3 l4 l5 l6 x → Wd dC dI cI cB cJ cZ ad stM kcM 115 A x H → va_S A s.heap H locs → lv_has ls 11 [(0, .ref (ad 0)), (1, .ref (ad l1)), (2, .int l2), (3, .int l3), (4, .int l4), (5, .int l5), (6, .int l6)] → W p l e R s m args below meth c H locs cells slots Q (F0 m 75 ls [])) : ∀ (l1 : Nat) (l2 : Int32) (l3 : Int32) (l4 : Int32) (l5 : Int32) (l6 : Int32) (x : St) (H : Heap) (locs : List Loc) (ls : Array Slot), (l1 < 115 ∧ kcM l1 = 20) → j_Mod_writeRuns_75 post rec3 rec75 l1 l2 l3 l4 l5 l6 x → Wd dC dI cI cB cJ cZ ad stM kcM 115 A x H → va_S A s.heap H locs → lv_has ls 11 [(0, .ref (ad 0)), (1, .ref (ad l1)), (2, .int l2), (3, .int l3), (4, .int l4), (5, .int l5), (6, .int l6)] → W p l e R s m args below meth c H locs cells slots Q (F0 m 75 ls []) := by
  intro l1 l2 l3 l4 l5 l6 x H locs ls fl1 hw hW hS hl
  unfold j_Mod_writeRuns_75 at hw
  refine lv_iload hx hb d_Mod_writeRuns_75 (lv_at hl 4 rfl) ?_
  refine lv_bipush (v := 8) hx hb d_Mod_writeRuns_77 (by decide) ?_
  refine lv_iload hx hb d_Mod_writeRuns_79 (lv_at hl 6 rfl) ?_
  refine lv_imul hx hb d_Mod_writeRuns_81 ?_
  refine lv_iadd hx hb d_Mod_writeRuns_82 ?_
  refine lv_iload_n hx hb d_Mod_writeRuns_83 rfl (lv_at hl 2 rfl) ?_
  refine lv_icmp_ge (tgt := 111) hx hb d_Mod_writeRuns_84 (by decide) (fun c516 => ?_) (fun c516 => ?_)
  · have hw := hw.1 c516
    exact t_Mod_writeRuns_111 hx hb hml hown hT hK hN hA hRc hRs hRf hRl hret hrec3 l1 l2 l3 l4 l5 l6 x H locs ls fl1 hw hW hS (lv_sub hl [0, 1, 2, 3, 4, 5, 6] rfl)
  · have hw := hw.2 c516
    refine lv_aload_n hx hb d_Mod_writeRuns_87 rfl (lv_at hl 1 rfl) ?_
    refine lv_iload hx hb d_Mod_writeRuns_88 (lv_at hl 4 rfl) ?_
    refine lv_bipush (v := 8) hx hb d_Mod_writeRuns_90 (by decide) ?_
    refine lv_iload hx hb d_Mod_writeRuns_92 (lv_at hl 6 rfl) ?_
    refine lv_imul hx hb d_Mod_writeRuns_94 ?_
    refine lv_iadd hx hb d_Mod_writeRuns_95 ?_
    refine lv_iload_n hx hb d_Mod_writeRuns_96 rfl (lv_at hl 2 rfl) ?_
    have hF := hW.free hS hA
    refine va_calli (va_runS (As := [.ref (ad l1), .int (l4 + (8 * l6)), .int l2]) (rest := []) ⟨hx, hb, hml, hown, hT⟩ (k_Mod_alike l dC dI cI cB cJ cZ ad H.size l1 (l4 + (8 * l6)) l2 x fl1 hw) ⟨callB_of 3 hT (gw_in w_11_193) rfl rfl rfl (hT _ w_1_15) (hT _ w_11_191) (by decide +kernel) ⟨Nat.le_trans (by decide) hRf, Nat.le_trans (by decide) hRl⟩, hT _ w_11_192⟩ ⟨PW.blind, PW.at _ hW hK hN⟩ rfl rfl hl.1 rfl (lv_room (Nat.le_of_ble_eq_true rfl)) d_Mod_writeRuns_97 ⟨hRc, hRs⟩) hS (fun q _ h => hF q h) hF (fun r518 x517 t H locs ht hvm hw hB hz1 hk1 hS => ?_)
    have hW := Wd.back hB ht hF
    clear hB ht hF hz1 hk1 hvm
    refine lv_bipush (v := 8) hx hb d_Mod_writeRuns_100 (by decide) ?_
    refine lv_icmp_ge (tgt := 111) hx hb d_Mod_writeRuns_102 (by decide) (fun c519 => ?_) (fun c519 => ?_)
    · have hw := hw.1 c519
      exact t_Mod_writeRuns_111 hx hb hml hown hT hK hN hA hRc hRs hRf hRl hret hrec3 l1 l2 l3 l4 l5 l6 x517 H locs ls fl1 hw hW hS (lv_sub hl [0, 1, 2, 3, 4, 5, 6] rfl)
    · have hw := hw.2 c519
      refine lv_iinc (v := (l6 + 1)) (lv' := [(6, .int (l6 + 1)), (0, .ref (ad 0)), (1, .ref (ad l1)), (2, .int l2), (3, .int l3), (4, .int l4), (5, .int l5)]) hx hb d_Mod_writeRuns_105 hl (k := 6) rfl rfl (by decide) rfl (fun ls hl => ?_)
      refine lv_goto (tgt := 75) hx hb d_Mod_writeRuns_108 (by decide) ?_
      exact hrec75 l1 l2 l3 l4 l5 (l6 + 1) x517 H locs ls fl1 hw hW hS (lv_sub hl [1, 2, 3, 4, 5, 6, 0] rfl)
def wl_Mod_writeRuns_75 (post : St → Prop) (rec3 : Nat → Int32 → Int32 → Int32 → St → Prop) : Nat → Nat → Int32 → Int32 → Int32 → Int32 → Int32 → St → Prop
  | 0 => fun _ _ _ _ _ _ _ => False
  | n + 1 => j_Mod_writeRuns_75 post rec3 (wl_Mod_writeRuns_75 post rec3 n)
set_option maxHeartbeats 4000000 in
set_option maxRecDepth 100000 in
theorem tl_Mod_writeRuns_75 {p : Program} {l : Launch} {e : Env} {R : Room} {s : State} {m : MethodId} {args : Array Value} {below : List Frame} {meth : Method} {c : Code} {cells slots : Nat} {Q : State → Prop} {dC : Nat → ClassId} {dI : Nat → Nat → Nat} {cI cB cJ cZ : ClassId} {A : Nat → Prop} {ad : Nat → Nat} {post : St → Prop} {rec3 : Nat → Int32 → Int32 → Int32 → St → Prop} (hx : p.tables.exec = Jvm.exec) (hb : c.code = b_Mod_writeRuns) (hml : c.maxLocals = 11) (hown : s.vm.findClass R_Mod = some m.cls) (hT : ∀ w ∈ TG, w.before args s = true) (hK : va_K (dC, dI) CL (TY cI cB cJ cZ) s) (hN : NW s) (hA : ∀ q : Nat, s.heap.size ≤ q → A q) (hRc : cells ≤ R.cells) (hRs : slots ≤ R.slots) (hRf : 2 ≤ R.frames) (hRl : 45 ≤ R.locals) (hret : ∀ (x : St) (H : Heap) (locs : List Loc) (pc : Nat) (ls : Array Slot), decode b_Mod_writeRuns pc = .ok (.return_, 1) → post x → Wd dC dI cI cB cJ cZ ad stM kcM 115 A x H → va_S A s.heap H locs → W p l e R s m args below meth c H locs cells slots Q (F0 m pc ls [])) (hrec3 : ∀ (l1 : Nat) (l2 : Int32) (l3 : Int32) (l4 : Int32) (x : St) (H : Heap) (locs : List Loc) (ls : Array Slot), (l1 < 115 ∧ kcM l1 = 20) → rec3 l1 l2 l3 l4 x → Wd dC dI cI cB cJ cZ ad stM kcM 115 A x H → va_S A s.heap H locs → lv_has ls 11 [(0, .ref (ad 0)), (1, .ref (ad l1)), (2, .int l2), (3, .int l3), (4, .int l4)] → W p l e R s m args below meth c H locs cells slots Q (F0 m 3 ls [])) : ∀ n : Nat, ∀ (l1 : Nat) (l2 : Int32) (l3 : Int32) (l4 : Int32) (l5 : Int32) (l6 : Int32) (x : St) (H : Heap) (locs : List Loc) (ls : Array Slot), (l1 < 115 ∧ kcM l1 = 20) → wl_Mod_writeRuns_75 post rec3 n l1 l2 l3 l4 l5 l6 x → Wd dC dI cI cB cJ cZ ad stM kcM 115 A x H → va_S A s.heap H locs → lv_has ls 11 [(0, .ref (ad 0)), (1, .ref (ad l1)), (2, .int l2), (3, .int l3), (4, .int l4), (5, .int l5), (6, .int l6)] → W p l e R s m args below meth c H locs cells slots Q (F0 m 75 ls []) := by
  intro n
  induction n with
  | zero => intro l1 l2 l3 l4 l5 l6 x H locs ls fl1 hw; exact hw.elim
  | succ n ih => intro l1 l2 l3 l4 l5 l6 x H locs ls fl1 hw hW hS hl; exact t_Mod_writeRuns_75 hx hb hml hown hT hK hN hA hRc hRs hRf hRl hret hrec3 ih l1 l2 l3 l4 l5 l6 x H locs ls fl1 hw hW hS hl
set_option maxRecDepth 100000 in
def j_Mod_writeRuns_39 (post : St → Prop) (rec3 : Nat → Int32 → Int32 → Int32 → St → Prop) (rec39 : Nat → Int32 → Int32 → Int32 → Int32 → Int32 → St → Prop) (l1 : Nat) (l2 : Int32) (l3 : Int32) (l4 : Int32) (l5 : Int32) (l6 : Int32) (x : St) : Prop := ((l3 ≤ l6 → (∀ v521 : Int32, v521 = (l4 + l5) → rec3 l1 l2 l3 v521 x)) ∧ (¬ l3 ≤ l6 → (vp_in l4 (fN x l1) ∧ wp_Mod_put (fun (x522 : St) => rec39 l1 l2 l3 l4 l5 (l6 + 8) x522) ((rA x l1 l4) >>> (l6 &&& 31)) x)))
set_option maxHeartbeats 4000000 in
set_option maxRecDepth 100000 in
theorem t_Mod_writeRuns_39 {p : Program} {l : Launch} {e : Env} {R : Room} {s : State} {m : MethodId} {args : Array Value} {below : List Frame} {meth : Method} {c : Code} {cells slots : Nat} {Q : State → Prop} {dC : Nat → ClassId} {dI : Nat → Nat → Nat} {cI cB cJ cZ : ClassId} {A : Nat → Prop} {ad : Nat → Nat} {post : St → Prop} {rec3 : Nat → Int32 → Int32 → Int32 → St → Prop} {rec39 : Nat → Int32 → Int32 → Int32 → Int32 → Int32 → St → Prop} (hx : p.tables.exec = Jvm.exec) (hb : c.code = b_Mod_writeRuns) (hml : c.maxLocals = 11) (hown : s.vm.findClass R_Mod = some m.cls) (hT : ∀ w ∈ TG, w.before args s = true) (hK : va_K (dC, dI) CL (TY cI cB cJ cZ) s) (hN : NW s) (hA : ∀ q : Nat, s.heap.size ≤ q → A q) (hRc : cells ≤ R.cells) (hRs : slots ≤ R.slots) (hRf : 2 ≤ R.frames) (hRl : 45 ≤ R.locals) (hret : ∀ (x : St) (H : Heap) (locs : List Loc) (pc : Nat) (ls : Array Slot), decode b_Mod_writeRuns pc = .ok (.return_, 1) → post x → Wd dC dI cI cB cJ cZ ad stM kcM 115 A x H → va_S A s.heap H locs → W p l e R s m args below meth c H locs cells slots Q (F0 m pc ls [])) (hrec3 : ∀ (l1 : Nat) (l2 : Int32) (l3 : Int32) (l4 : Int32) (x : St) (H : Heap) (locs : List Loc) (ls : Array Slot), (l1 < 115 ∧ kcM l1 = 20) → rec3 l1 l2 l3 l4 x → Wd dC dI cI cB cJ cZ ad stM kcM 115 A x H → va_S A s.heap H locs → lv_has ls 11 [(0, .ref (ad 0)), (1, .ref (ad l1)), (2, .int l2), (3, .int l3), (4, .int l4)] → W p l e R s m args below meth c H locs cells slots Q (F0 m 3 ls [])) (hrec39 : ∀ (l1 : Nat) (l2 : Int32) (l3 : Int32) (l4 : Int32) (l5 : Int32) (l6 : Int32) (x : St) (H : Heap) (locs : List Loc) (ls : Array Slot), (l1 < 115 ∧ kcM l1 = 20) → rec39 l1 l2 l3 l4 l5 l6 x → Wd dC dI cI cB cJ cZ ad stM kcM 115 A x H → va_S A s.heap H locs → lv_has ls 11 [(0, .ref (ad 0)), (1, .ref (ad l1)), (2, .int l2), (3, .int l3), (4, .int l4), (5, .int l5), (6, .int l6)] → W p l e R s m args below meth c H locs cells slots Q (F0 m 39 ls [])) : ∀ (l1 : Nat) (l2 : Int32) (l3 : Int32) (l4 : Int32) (l5 : Int32) (l6 : Int32) (x : St) (H : Heap) (locs : List Loc) (ls : Array Slot), (l1 < 115 ∧ kcM l1 = 20) → j_Mod_writeRuns_39 post rec3 rec39 l1 l2 l3 l4 l5 l6 x → Wd dC dI cI cB cJ cZ ad stM kcM 115 A x H → va_S A s.heap H locs → lv_has ls 11 [(0, .ref (ad 0)), (1, .ref (ad l1)), (2, .int l2), (3, .int l3), (4, .int l4), (5, .int l5), (6, .int l6)] → W p l e R s m args below meth c H locs cells slots Q (F0 m 39 ls []) := by
  intro l1 l2 l3 l4 l5 l6 x H locs ls fl1 hw hW hS hl
  unfold j_Mod_writeRuns_39 at hw
  refine lv_iload hx hb d_Mod_writeRuns_39 (lv_at hl 6 rfl) ?_
  refine lv_iload_n hx hb d_Mod_writeRuns_41 rfl (lv_at hl 3 rfl) ?_
  refine lv_icmp_ge (tgt := 62) hx hb d_Mod_writeRuns_42 (by decide) (fun c520 => ?_) (fun c520 => ?_)
  · have hw := hw.1 c520
    refine lv_iload hx hb d_Mod_writeRuns_62 (lv_at hl 4 rfl) ?_
    refine lv_iload hx hb d_Mod_writeRuns_64 (lv_at hl 5 rfl) ?_
    refine lv_iadd hx hb d_Mod_writeRuns_66 ?_
    refine lv_topi (fun v521 ev521 => ?_)
    have hw := hw v521 ev521
    refine lv_istore (lv' := [(4, .int v521), (0, .ref (ad 0)), (1, .ref (ad l1)), (2, .int l2), (3, .int l3), (5, .int l5), (6, .int l6)]) hx hb d_Mod_writeRuns_67 hl (by decide) rfl (fun ls hl => ?_)
    refine lv_goto (tgt := 3) hx hb d_Mod_writeRuns_69 (by decide) ?_
    exact hrec3 l1 l2 l3 v521 x H locs ls fl1 hw hW hS (lv_sub hl [1, 2, 3, 4, 0] rfl)
  · have hw := hw.2 c520
    refine lv_aload_n hx hb d_Mod_writeRuns_45 rfl (lv_at hl 0 rfl) ?_
    refine lv_aload_n hx hb d_Mod_writeRuns_46 rfl (lv_at hl 1 rfl) ?_
    refine lv_iload hx hb d_Mod_writeRuns_47 (lv_at hl 4 rfl) ?_
    obtain ⟨hi, hw⟩ := hw
    refine w_iald (o := l1) hx hb hK hW fl1.1 fl1.2 hi d_Mod_writeRuns_49 ?_
    refine lv_iload hx hb d_Mod_writeRuns_50 (lv_at hl 6 rfl) ?_
    refine lv_ishr hx hb d_Mod_writeRuns_52 ?_
    have hF := hW.free hS hA
    refine va_callv (va_runV (C := R_Mod) (As := [.int ((rA x l1 l4) >>> (l6 &&& 31))]) (rest := []) ⟨hx, hb, hml, hown, hT⟩ (k_Mod_put l dC dI cI cB cJ cZ ad H.size ((rA x l1 l4) >>> (l6 &&& 31)) x  hw) ⟨callB_of 1 hT (gw_in w_11_203) rfl rfl rfl (hT _ w_1_15) (hT _ w_11_200) (by decide +kernel) ⟨Nat.le_trans (by decide) hRf, Nat.le_trans (by decide) hRl⟩, hT _ w_11_202, hT _ ws_154⟩ ⟨PW.blind, va_recv hK hW.1 (ci := 12) (q0 := 0) rfl (pic_obj ko_0.1 ko_0.2 (by decide)), PW.at _ hW hK hN⟩ rfl rfl hl.1 rfl (lv_room (Nat.le_of_ble_eq_true rfl)) d_Mod_writeRuns_53 ⟨hRc, hRs⟩) hS (fun q _ h => hF q h) hF (fun  x522 t H locs ht hvm hw hB hz1 hk1 hS => ?_)
    have hW := Wd.back hB ht hF
    clear hB ht hF hz1 hk1 hvm
    refine lv_iinc (v := (l6 + 8)) (lv' := [(6, .int (l6 + 8)), (0, .ref (ad 0)), (1, .ref (ad l1)), (2, .int l2), (3, .int l3), (4, .int l4), (5, .int l5)]) hx hb d_Mod_writeRuns_56 hl (k := 6) rfl rfl (by decide) rfl (fun ls hl => ?_)
    refine lv_goto (tgt := 39) hx hb d_Mod_writeRuns_59 (by decide) ?_
    exact hrec39 l1 l2 l3 l4 l5 (l6 + 8) x522 H locs ls fl1 hw hW hS (lv_sub hl [1, 2, 3, 4, 5, 6, 0] rfl)
def wl_Mod_writeRuns_39 (post : St → Prop) (rec3 : Nat → Int32 → Int32 → Int32 → St → Prop) : Nat → Nat → Int32 → Int32 → Int32 → Int32 → Int32 → St → Prop
  | 0 => fun _ _ _ _ _ _ _ => False
  | n + 1 => j_Mod_writeRuns_39 post rec3 (wl_Mod_writeRuns_39 post rec3 n)
set_option maxHeartbeats 4000000 in
set_option maxRecDepth 100000 in
theorem tl_Mod_writeRuns_39 {p : Program} {l : Launch} {e : Env} {R : Room} {s : State} {m : MethodId} {args : Array Value} {below : List Frame} {meth : Method} {c : Code} {cells slots : Nat} {Q : State → Prop} {dC : Nat → ClassId} {dI : Nat → Nat → Nat} {cI cB cJ cZ : ClassId} {A : Nat → Prop} {ad : Nat → Nat} {post : St → Prop} {rec3 : Nat → Int32 → Int32 → Int32 → St → Prop} (hx : p.tables.exec = Jvm.exec) (hb : c.code = b_Mod_writeRuns) (hml : c.maxLocals = 11) (hown : s.vm.findClass R_Mod = some m.cls) (hT : ∀ w ∈ TG, w.before args s = true) (hK : va_K (dC, dI) CL (TY cI cB cJ cZ) s) (hN : NW s) (hA : ∀ q : Nat, s.heap.size ≤ q → A q) (hRc : cells ≤ R.cells) (hRs : slots ≤ R.slots) (hRf : 2 ≤ R.frames) (hRl : 45 ≤ R.locals) (hret : ∀ (x : St) (H : Heap) (locs : List Loc) (pc : Nat) (ls : Array Slot), decode b_Mod_writeRuns pc = .ok (.return_, 1) → post x → Wd dC dI cI cB cJ cZ ad stM kcM 115 A x H → va_S A s.heap H locs → W p l e R s m args below meth c H locs cells slots Q (F0 m pc ls [])) (hrec3 : ∀ (l1 : Nat) (l2 : Int32) (l3 : Int32) (l4 : Int32) (x : St) (H : Heap) (locs : List Loc) (ls : Array Slot), (l1 < 115 ∧ kcM l1 = 20) → rec3 l1 l2 l3 l4 x → Wd dC dI cI cB cJ cZ ad stM kcM 115 A x H → va_S A s.heap H locs → lv_has ls 11 [(0, .ref (ad 0)), (1, .ref (ad l1)), (2, .int l2), (3, .int l3), (4, .int l4)] → W p l e R s m args below meth c H locs cells slots Q (F0 m 3 ls [])) : ∀ n : Nat, ∀ (l1 : Nat) (l2 : Int32) (l3 : Int32) (l4 : Int32) (l5 : Int32) (l6 : Int32) (x : St) (H : Heap) (locs : List Loc) (ls : Array Slot), (l1 < 115 ∧ kcM l1 = 20) → wl_Mod_writeRuns_39 post rec3 n l1 l2 l3 l4 l5 l6 x → Wd dC dI cI cB cJ cZ ad stM kcM 115 A x H → va_S A s.heap H locs → lv_has ls 11 [(0, .ref (ad 0)), (1, .ref (ad l1)), (2, .int l2), (3, .int l3), (4, .int l4), (5, .int l5), (6, .int l6)] → W p l e R s m args below meth c H locs cells slots Q (F0 m 39 ls []) := by
  intro n
  induction n with
  | zero => intro l1 l2 l3 l4 l5 l6 x H locs ls fl1 hw; exact hw.elim
  | succ n ih => intro l1 l2 l3 l4 l5 l6 x H locs ls fl1 hw hW hS hl; exact t_Mod_writeRuns_39 hx hb hml hown hT hK hN hA hRc hRs hRf hRl hret hrec3 ih l1 l2 l3 l4 l5 l6 x H locs ls fl1 hw hW hS hl
set_option maxRecDepth 100000 in
def j_Mod_writeRuns_3 (post : St → Prop) (rec3 : Nat → Int32 → Int32 → Int32 → St → Prop) (l1 : Nat) (l2 : Int32) (l3 : Int32) (l4 : Int32) (x : St) : Prop := ((l2 ≤ l4 → post x) ∧ (¬ l2 ≤ l4 → wp_Mod_alike (fun (r525 : Int32) (x524 : St) => ((r525 < 8 → ∃ n : Nat, wl_Mod_writeRuns_75 post rec3 n l1 l2 l3 l4 r525 1 x524) ∧ (¬ r525 < 8 → wp_Mod_putVarint (fun (x527 : St) => ∃ n : Nat, wl_Mod_writeRuns_39 post rec3 n l1 l2 l3 l4 r525 0 x527) (2 * (r525 : Int32).toInt64) x524))) l1 l4 l2 x))
set_option maxHeartbeats 4000000 in
set_option maxRecDepth 100000 in
theorem t_Mod_writeRuns_3 {p : Program} {l : Launch} {e : Env} {R : Room} {s : State} {m : MethodId} {args : Array Value} {below : List Frame} {meth : Method} {c : Code} {cells slots : Nat} {Q : State → Prop} {dC : Nat → ClassId} {dI : Nat → Nat → Nat} {cI cB cJ cZ : ClassId} {A : Nat → Prop} {ad : Nat → Nat} {post : St → Prop} {rec3 : Nat → Int32 → Int32 → Int32 → St → Prop} (hx : p.tables.exec = Jvm.exec) (hb : c.code = b_Mod_writeRuns) (hml : c.maxLocals = 11) (hown : s.vm.findClass R_Mod = some m.cls) (hT : ∀ w ∈ TG, w.before args s = true) (hK : va_K (dC, dI) CL (TY cI cB cJ cZ) s) (hN : NW s) (hA : ∀ q : Nat, s.heap.size ≤ q → A q) (hRc : cells ≤ R.cells) (hRs : slots ≤ R.slots) (hRf : 2 ≤ R.frames) (hRl : 45 ≤ R.locals) (hret : ∀ (x : St) (H : Heap) (locs : List Loc) (pc : Nat) (ls : Array Slot), decode b_Mod_writeRuns pc = .ok (.return_, 1) → post x → Wd dC dI cI cB cJ cZ ad stM kcM 115 A x H → va_S A s.heap H locs → W p l e R s m args below meth c H locs cells slots Q (F0 m pc ls [])) (hrec3 : ∀ (l1 : Nat) (l2 : Int32) (l3 : Int32) (l4 : Int32) (x : St) (H : Heap) (locs : List Loc) (ls : Array Slot), (l1 < 115 ∧ kcM l1 = 20) → rec3 l1 l2 l3 l4 x → Wd dC dI cI cB cJ cZ ad stM kcM 115 A x H → va_S A s.heap H locs → lv_has ls 11 [(0, .ref (ad 0)), (1, .ref (ad l1)), (2, .int l2), (3, .int l3), (4, .int l4)] → W p l e R s m args below meth c H locs cells slots Q (F0 m 3 ls [])) : ∀ (l1 : Nat) (l2 : Int32) (l3 : Int32) (l4 : Int32) (x : St) (H : Heap) (locs : List Loc) (ls : Array Slot), (l1 < 115 ∧ kcM l1 = 20) → j_Mod_writeRuns_3 post rec3 l1 l2 l3 l4 x → Wd dC dI cI cB cJ cZ ad stM kcM 115 A x H → va_S A s.heap H locs → lv_has ls 11 [(0, .ref (ad 0)), (1, .ref (ad l1)), (2, .int l2), (3, .int l3), (4, .int l4)] → W p l e R s m args below meth c H locs cells slots Q (F0 m 3 ls []) := by
  intro l1 l2 l3 l4 x H locs ls fl1 hw hW hS hl
  unfold j_Mod_writeRuns_3 at hw
  refine lv_iload hx hb d_Mod_writeRuns_3 (lv_at hl 4 rfl) ?_
  refine lv_iload_n hx hb d_Mod_writeRuns_5 rfl (lv_at hl 2 rfl) ?_
  refine lv_icmp_ge (tgt := 223) hx hb d_Mod_writeRuns_6 (by decide) (fun c523 => ?_) (fun c523 => ?_)
  · have hw := hw.1 c523
    exact hret x H locs 223 ls d_Mod_writeRuns_223 hw hW hS
  · have hw := hw.2 c523
    refine lv_aload_n hx hb d_Mod_writeRuns_9 rfl (lv_at hl 1 rfl) ?_
    refine lv_iload hx hb d_Mod_writeRuns_10 (lv_at hl 4 rfl) ?_
    refine lv_iload_n hx hb d_Mod_writeRuns_12 rfl (lv_at hl 2 rfl) ?_
    have hF := hW.free hS hA
    refine va_calli (va_runS (As := [.ref (ad l1), .int l4, .int l2]) (rest := []) ⟨hx, hb, hml, hown, hT⟩ (k_Mod_alike l dC dI cI cB cJ cZ ad H.size l1 l4 l2 x fl1 hw) ⟨callB_of 3 hT (gw_in w_11_193) rfl rfl rfl (hT _ w_1_15) (hT _ w_11_191) (by decide +kernel) ⟨Nat.le_trans (by decide) hRf, Nat.le_trans (by decide) hRl⟩, hT _ w_11_192⟩ ⟨PW.blind, PW.at _ hW hK hN⟩ rfl rfl hl.1 rfl (lv_room (Nat.le_of_ble_eq_true rfl)) d_Mod_writeRuns_13 ⟨hRc, hRs⟩) hS (fun q _ h => hF q h) hF (fun r525 x524 t H locs ht hvm hw hB hz1 hk1 hS => ?_)
    have hW := Wd.back hB ht hF
    clear hB ht hF hz1 hk1 hvm
    refine lv_istore (lv' := [(5, .int r525), (0, .ref (ad 0)), (1, .ref (ad l1)), (2, .int l2), (3, .int l3), (4, .int l4)]) hx hb d_Mod_writeRuns_16 hl (by decide) rfl (fun ls hl => ?_)
    refine lv_iload hx hb d_Mod_writeRuns_18 (lv_at hl 0 rfl) ?_
    refine lv_bipush (v := 8) hx hb d_Mod_writeRuns_20 (by decide) ?_
    refine lv_icmp_lt (tgt := 72) hx hb d_Mod_writeRuns_22 (by decide) (fun c526 => ?_) (fun c526 => ?_)
    · have hw := hw.1 c526
      refine lv_iconst (v := 1) hx hb d_Mod_writeRuns_72 (by decide) ?_
      refine lv_istore (lv' := [(6, .int 1), (5, .int r525), (0, .ref (ad 0)), (1, .ref (ad l1)), (2, .int l2), (3, .int l3), (4, .int l4)]) hx hb d_Mod_writeRuns_73 hl (by decide) rfl (fun ls hl => ?_)
      obtain ⟨n, hw⟩ := hw
      exact tl_Mod_writeRuns_75 hx hb hml hown hT hK hN hA hRc hRs hRf hRl hret hrec3 n l1 l2 l3 l4 r525 1 x524 H locs ls fl1 hw hW hS (lv_sub hl [2, 3, 4, 5, 6, 1, 0] rfl)
    · have hw := hw.2 c526
      refine lv_aload_n hx hb d_Mod_writeRuns_25 rfl (lv_at hl 1 rfl) ?_
      refine lv_ldc2 hx hb hown (hT _ w_11_194) d_Mod_writeRuns_26 ?_
      refine lv_iload hx hb d_Mod_writeRuns_29 (lv_at hl 0 rfl) ?_
      refine lv_i2l hx hb d_Mod_writeRuns_31 rfl ?_
      refine lv_lmul hx hb d_Mod_writeRuns_32 ?_
      have hF := hW.free hS hA
      refine va_callv (va_runV (C := R_Mod) (As := [.long (2 * (r525 : Int32).toInt64)]) (rest := []) ⟨hx, hb, hml, hown, hT⟩ (k_Mod_putVarint l dC dI cI cB cJ cZ ad H.size (2 * (r525 : Int32).toInt64) x524  hw) ⟨callB_of 1 hT (gw_in w_11_198) rfl rfl rfl (hT _ w_1_15) (hT _ w_11_195) (by decide +kernel) ⟨Nat.le_trans (by decide) hRf, Nat.le_trans (by decide) hRl⟩, hT _ w_11_197, hT _ ws_153⟩ ⟨PW.blind, va_recv hK hW.1 (ci := 12) (q0 := 0) rfl (pic_obj ko_0.1 ko_0.2 (by decide)), PW.at _ hW hK hN⟩ rfl rfl hl.1 rfl (lv_room (Nat.le_of_ble_eq_true rfl)) d_Mod_writeRuns_33 ⟨hRc, hRs⟩) hS (fun q _ h => hF q h) hF (fun  x527 t H locs ht hvm hw hB hz1 hk1 hS => ?_)
      have hW := Wd.back hB ht hF
      clear hB ht hF hz1 hk1 hvm
      refine lv_iconst (v := 0) hx hb d_Mod_writeRuns_36 (by decide) ?_
      refine lv_istore (lv' := [(6, .int 0), (5, .int r525), (0, .ref (ad 0)), (1, .ref (ad l1)), (2, .int l2), (3, .int l3), (4, .int l4)]) hx hb d_Mod_writeRuns_37 hl (by decide) rfl (fun ls hl => ?_)
      obtain ⟨n, hw⟩ := hw
      exact tl_Mod_writeRuns_39 hx hb hml hown hT hK hN hA hRc hRs hRf hRl hret hrec3 n l1 l2 l3 l4 r525 0 x527 H locs ls fl1 hw hW hS (lv_sub hl [2, 3, 4, 5, 6, 1, 0] rfl)
def wl_Mod_writeRuns_3 (post : St → Prop) : Nat → Nat → Int32 → Int32 → Int32 → St → Prop
  | 0 => fun _ _ _ _ _ => False
  | n + 1 => j_Mod_writeRuns_3 post (wl_Mod_writeRuns_3 post n)
set_option maxHeartbeats 4000000 in
set_option maxRecDepth 100000 in
theorem tl_Mod_writeRuns_3 {p : Program} {l : Launch} {e : Env} {R : Room} {s : State} {m : MethodId} {args : Array Value} {below : List Frame} {meth : Method} {c : Code} {cells slots : Nat} {Q : State → Prop} {dC : Nat → ClassId} {dI : Nat → Nat → Nat} {cI cB cJ cZ : ClassId} {A : Nat → Prop} {ad : Nat → Nat} {post : St → Prop} (hx : p.tables.exec = Jvm.exec) (hb : c.code = b_Mod_writeRuns) (hml : c.maxLocals = 11) (hown : s.vm.findClass R_Mod = some m.cls) (hT : ∀ w ∈ TG, w.before args s = true) (hK : va_K (dC, dI) CL (TY cI cB cJ cZ) s) (hN : NW s) (hA : ∀ q : Nat, s.heap.size ≤ q → A q) (hRc : cells ≤ R.cells) (hRs : slots ≤ R.slots) (hRf : 2 ≤ R.frames) (hRl : 45 ≤ R.locals) (hret : ∀ (x : St) (H : Heap) (locs : List Loc) (pc : Nat) (ls : Array Slot), decode b_Mod_writeRuns pc = .ok (.return_, 1) → post x → Wd dC dI cI cB cJ cZ ad stM kcM 115 A x H → va_S A s.heap H locs → W p l e R s m args below meth c H locs cells slots Q (F0 m pc ls []))  : ∀ n : Nat, ∀ (l1 : Nat) (l2 : Int32) (l3 : Int32) (l4 : Int32) (x : St) (H : Heap) (locs : List Loc) (ls : Array Slot), (l1 < 115 ∧ kcM l1 = 20) → wl_Mod_writeRuns_3 post n l1 l2 l3 l4 x → Wd dC dI cI cB cJ cZ ad stM kcM 115 A x H → va_S A s.heap H locs → lv_has ls 11 [(0, .ref (ad 0)), (1, .ref (ad l1)), (2, .int l2), (3, .int l3), (4, .int l4)] → W p l e R s m args below meth c H locs cells slots Q (F0 m 3 ls []) := by
  intro n
  induction n with
  | zero => intro l1 l2 l3 l4 x H locs ls fl1 hw; exact hw.elim
  | succ n ih => intro l1 l2 l3 l4 x H locs ls fl1 hw hW hS hl; exact t_Mod_writeRuns_3 hx hb hml hown hT hK hN hA hRc hRs hRf hRl hret  ih l1 l2 l3 l4 x H locs ls fl1 hw hW hS hl
set_option maxRecDepth 100000 in
def wp_Mod_writeRuns (post : St → Prop) (l1 : Nat) (l2 : Int32) (l3 : Int32) (x : St) : Prop := ∃ n : Nat, wl_Mod_writeRuns_3 post n l1 l2 l3 0 x
set_option maxHeartbeats 4000000 in
set_option maxRecDepth 100000 in
theorem t_Mod_writeRuns_e {p : Program} {l : Launch} {e : Env} {R : Room} {s : State} {m : MethodId} {args : Array Value} {below : List Frame} {meth : Method} {c : Code} {cells slots : Nat} {Q : State → Prop} {dC : Nat → ClassId} {dI : Nat → Nat → Nat} {cI cB cJ cZ : ClassId} {A : Nat → Prop} {ad : Nat → Nat} {post : St → Prop} (hx : p.tables.exec = Jvm.exec) (hb : c.code = b_Mod_writeRuns) (hml : c.maxLocals = 11) (hown : s.vm.findClass R_Mod = some m.cls) (hT : ∀ w ∈ TG, w.before args s = true) (hK : va_K (dC, dI) CL (TY cI cB cJ cZ) s) (hN : NW s) (hA : ∀ q : Nat, s.heap.size ≤ q → A q) (hRc : cells ≤ R.cells) (hRs : slots ≤ R.slots) (hRf : 2 ≤ R.frames) (hRl : 45 ≤ R.locals) (hret : ∀ (x : St) (H : Heap) (locs : List Loc) (pc : Nat) (ls : Array Slot), decode b_Mod_writeRuns pc = .ok (.return_, 1) → post x → Wd dC dI cI cB cJ cZ ad stM kcM 115 A x H → va_S A s.heap H locs → W p l e R s m args below meth c H locs cells slots Q (F0 m pc ls [])) : ∀ (l1 : Nat) (l2 : Int32) (l3 : Int32) (x : St) (H : Heap) (locs : List Loc) (ls : Array Slot), (l1 < 115 ∧ kcM l1 = 20) → wp_Mod_writeRuns post l1 l2 l3 x → Wd dC dI cI cB cJ cZ ad stM kcM 115 A x H → va_S A s.heap H locs → lv_has ls 11 [(0, .ref (ad 0)), (1, .ref (ad l1)), (2, .int l2), (3, .int l3)] → W p l e R s m args below meth c H locs cells slots Q (F0 m 0 ls []) := by
  intro l1 l2 l3 x H locs ls fl1 hw hW hS hl
  unfold wp_Mod_writeRuns at hw
  refine lv_iconst (v := 0) hx hb d_Mod_writeRuns_0 (by decide) ?_
  refine lv_istore (lv' := [(4, .int 0), (0, .ref (ad 0)), (1, .ref (ad l1)), (2, .int l2), (3, .int l3)]) hx hb d_Mod_writeRuns_1 hl (by decide) rfl (fun ls hl => ?_)
  obtain ⟨n, hw⟩ := hw
  exact tl_Mod_writeRuns_3 hx hb hml hown hT hK hN hA hRc hRs hRf hRl hret  n l1 l2 l3 0 x H locs ls fl1 hw hW hS (lv_sub hl [1, 2, 3, 4, 0] rfl)
set_option maxHeartbeats 4000000 in
set_option maxRecDepth 100000 in
theorem k_Mod_writeRuns (l : Launch) (dC : Nat → ClassId) (dI : Nat → Nat → Nat) (cI cB cJ cZ : ClassId) (ad : Nat → Nat) (sz : Nat) (l1 : Nat) (l2 : Int32) (l3 : Int32) (x : St) (fl1 : l1 < 115 ∧ kcM l1 = 20) {post : St → Prop} (hw : wp_Mod_writeRuns post l1 l2 l3 x) : Met l y_Mod_writeRuns (wsOf y_Mod_writeRuns b_Mod_writeRuns 11 (none)) ({ frames := 2, cells := 0, slots := 0, locals := 45 }) (va_Pc [.ref (ad 0), .ref (ad l1), .int l2, .int l3] (PW dC dI cI cB cJ cZ ad stM kcM 115 sz x)) (va_Qv (fun (y : St) => post y) (fun y t => Wd dC dI cI cB cJ cZ ad stM kcM 115 (va_A (pic ad stM kcM 115 cI cB cJ cZ x) sz) y t.heap) (va_A (pic ad stM kcM 115 cI cB cJ cZ x) sz)) 0 0 (va_A (pic ad stM kcM 115 cI cB cJ cZ x) sz) := by
  refine Met.ofW (cc := b_Mod_writeRuns) (maxL := 11) (ret := none) (by decide) rfl ?_
  intro p e s m args below meth c s₁ B hml hv
  obtain ⟨rfl, hsz, hW0, hK, hN⟩ := hv
  have hx := B.exec
  have hb := B.bytes
  have hr := B.returns
  have hts := atoms_spec B.pre
  have hT : ∀ w ∈ TG, w.before _ s = true := fun w h => hts w (List.mem_cons_of_mem _ h)
  have hown : s.vm.findClass R_Mod = some m.cls := findClass_of_methodNamed B.named
  have hlocks := B.notSynchronized
  subst hsz
  have hW : Wd dC dI cI cB cJ cZ ad stM kcM 115 (va_A (pic ad stM kcM 115 cI cB cJ cZ x) s.heap.size) x s.heap := ⟨hW0.1, hW0.2.1.self (sz := s.heap.size), hW0.2.2⟩
  generalize hAe : va_A (pic ad stM kcM 115 cI cB cJ cZ x) s.heap.size = A at hW ⊢
  have hA : ∀ q : Nat, s.heap.size ≤ q → A q := fun q h => by rw [← hAe]; exact Or.inr h
  have hS : va_S A s.heap s.heap [] := va_S.rf
  have hl := lv_entry ([.ref (ad 0), .ref (ad l1), .int l2, .int l3]) (n := 11) (Nat.le_of_ble_eq_true rfl)
  rw [lg_entry_eq]
  generalize (lg_sl ([.ref (ad 0), .ref (ad l1), .int l2, .int l3]) ++ List.replicate (11 - (lg_sl ([.ref (ad 0), .ref (ad l1), .int l2, .int l3])).length) Slot.unset).toArray = ls at hl ⊢
  have hl : lv_has ls 11 [(0, .ref (ad 0)), (1, .ref (ad l1)), (2, .int l2), (3, .int l3)] := hl
  exact t_Mod_writeRuns_e hx hb hml hown hT hK hN hA (Nat.le_refl 0) (Nat.le_refl 0) (Nat.le_refl 2) (Nat.le_refl 45) (fun x H locs pc ls hd hp hW hS => W.vret hx hb hr (fun t ht hM => ⟨⟨x, rfl, hp, Wd.back hW ht.symm (fun _ z => z)⟩, hS.F ht⟩) hS.2.2 hd hlocks)  l1 l2 l3 x _ _ ls fl1 hw hW hS hl
set_option maxRecDepth 100000 in
def j_Mod_writeBools_105 (post : St → Prop) (rec49 : Int32 → Int32 → St → Prop) (l1 : Int32) (l2 : Int32) (l3 : Int32) (l4 : Int32) (x : St) : Prop := wp_Mod_put (fun (x528 : St) => rec49 l1 (l2 + 8) x528) l3 x
set_option maxHeartbeats 4000000 in
set_option maxRecDepth 100000 in
theorem t_Mod_writeBools_105 {p : Program} {l : Launch} {e : Env} {R : Room} {s : State} {m : MethodId} {args : Array Value} {below : List Frame} {meth : Method} {c : Code} {cells slots : Nat} {Q : State → Prop} {dC : Nat → ClassId} {dI : Nat → Nat → Nat} {cI cB cJ cZ : ClassId} {A : Nat → Prop} {ad : Nat → Nat} {post : St → Prop} {rec49 : Int32 → Int32 → St → Prop} (hx : p.tables.exec = Jvm.exec) (hb : c.code = b_Mod_writeBools) (hml : c.maxLocals = 5) (hown : s.vm.findClass R_Mod = some m.cls) (hT : ∀ w ∈ TG, w.before args s = true) (hK : va_K (dC, dI) CL (TY cI cB cJ cZ) s) (hN : NW s) (hA : ∀ q : Nat, s.heap.size ≤ q → A q) (hRc : cells ≤ R.cells) (hRs : slots ≤ R.slots) (hRf : 3 ≤ R.frames) (hRl : 75 ≤ R.locals) (hret : ∀ (x : St) (H : Heap) (locs : List Loc) (pc : Nat) (ls : Array Slot), decode b_Mod_writeBools pc = .ok (.return_, 1) → post x → Wd dC dI cI cB cJ cZ ad stM kcM 115 A x H → va_S A s.heap H locs → W p l e R s m args below meth c H locs cells slots Q (F0 m pc ls [])) (hrec49 : ∀ (l1 : Int32) (l2 : Int32) (x : St) (H : Heap) (locs : List Loc) (ls : Array Slot), rec49 l1 l2 x → Wd dC dI cI cB cJ cZ ad stM kcM 115 A x H → va_S A s.heap H locs → lv_has ls 5 [(0, .ref (ad 0)), (1, .int l1), (2, .int l2)] → W p l e R s m args below meth c H locs cells slots Q (F0 m 49 ls [])) : ∀ (l1 : Int32) (l2 : Int32) (l3 : Int32) (l4 : Int32) (x : St) (H : Heap) (locs : List Loc) (ls : Array Slot), j_Mod_writeBools_105 post rec49 l1 l2 l3 l4 x → Wd dC dI cI cB cJ cZ ad stM kcM 115 A x H → va_S A s.heap H locs → lv_has ls 5 [(0, .ref (ad 0)), (1, .int l1), (2, .int l2), (3, .int l3), (4, .int l4)] → W p l e R s m args below meth c H locs cells slots Q (F0 m 105 ls []) := by
  intro l1 l2 l3 l4 x H locs ls  hw hW hS hl
  unfold j_Mod_writeBools_105 at hw
  refine lv_aload_n hx hb d_Mod_writeBools_105 rfl (lv_at hl 0 rfl) ?_
  refine lv_iload_n hx hb d_Mod_writeBools_106 rfl (lv_at hl 3 rfl) ?_
  have hF := hW.free hS hA
  refine va_callv (va_runV (C := R_Mod) (As := [.int l3]) (rest := []) ⟨hx, hb, hml, hown, hT⟩ (k_Mod_put l dC dI cI cB cJ cZ ad H.size l3 x  hw) ⟨callB_of 1 hT (gw_in w_11_203) rfl rfl rfl (hT _ w_1_15) (hT _ w_11_200) (by decide +kernel) ⟨Nat.le_trans (by decide) hRf, Nat.le_trans (by decide) hRl⟩, hT _ w_11_202, hT _ ws_154⟩ ⟨PW.blind, va_recv hK hW.1 (ci := 12) (q0 := 0) rfl (pic_obj ko_0.1 ko_0.2 (by decide)), PW.at _ hW hK hN⟩ rfl rfl hl.1 rfl (lv_room (Nat.le_of_ble_eq_true rfl)) d_Mod_writeBools_107 ⟨hRc, hRs⟩) hS (fun q _ h => hF q h) hF (fun  x528 t H locs ht hvm hw hB hz1 hk1 hS => ?_)
  have hW := Wd.back hB ht hF
  clear hB ht hF hz1 hk1 hvm
  refine lv_iinc (v := (l2 + 8)) (lv' := [(2, .int (l2 + 8)), (0, .ref (ad 0)), (1, .int l1), (3, .int l3), (4, .int l4)]) hx hb d_Mod_writeBools_110 hl (k := 2) rfl rfl (by decide) rfl (fun ls hl => ?_)
  refine lv_goto (tgt := 49) hx hb d_Mod_writeBools_113 (by decide) ?_
  exact hrec49 l1 (l2 + 8) x528 H locs ls  hw hW hS (lv_sub hl [1, 2, 0] rfl)
set_option maxRecDepth 100000 in
def j_Mod_writeBools_66 (post : St → Prop) (rec49 : Int32 → Int32 → St → Prop) (rec66 : Int32 → Int32 → Int32 → Int32 → St → Prop) (l1 : Int32) (l2 : Int32) (l3 : Int32) (l4 : Int32) (x : St) : Prop := ((8 ≤ l4 → j_Mod_writeBools_105 post rec49 l1 l2 l3 l4 x) ∧ (¬ 8 ≤ l4 → (((fI x 0 42) ≤ (l2 + l4) → j_Mod_writeBools_105 post rec49 l1 l2 l3 l4 x) ∧ (¬ (fI x 0 42) ≤ (l2 + l4) → (vp_in (l2 + l4) (fN x 44) ∧ (∀ v531 : Int32, v531 = (l3 ||| ((rA x 44 (l2 + l4)) <<< (l4 &&& 31))) → rec66 l1 l2 v531 (l4 + 1) x))))))
set_option maxHeartbeats 4000000 in
set_option maxRecDepth 100000 in
theorem t_Mod_writeBools_66 {p : Program} {l : Launch} {e : Env} {R : Room} {s : State} {m : MethodId} {args : Array Value} {below : List Frame} {meth : Method} {c : Code} {cells slots : Nat} {Q : State → Prop} {dC : Nat → ClassId} {dI : Nat → Nat → Nat} {cI cB cJ cZ : ClassId} {A : Nat → Prop} {ad : Nat → Nat} {post : St → Prop} {rec49 : Int32 → Int32 → St → Prop} {rec66 : Int32 → Int32 → Int32 → Int32 → St → Prop} (hx : p.tables.exec = Jvm.exec) (hb : c.code = b_Mod_writeBools) (hml : c.maxLocals = 5) (hown : s.vm.findClass R_Mod = some m.cls) (hT : ∀ w ∈ TG, w.before args s = true) (hK : va_K (dC, dI) CL (TY cI cB cJ cZ) s) (hN : NW s) (hA : ∀ q : Nat, s.heap.size ≤ q → A q) (hRc : cells ≤ R.cells) (hRs : slots ≤ R.slots) (hRf : 3 ≤ R.frames) (hRl : 75 ≤ R.locals) (hret : ∀ (x : St) (H : Heap) (locs : List Loc) (pc : Nat) (ls : Array Slot), decode b_Mod_writeBools pc = .ok (.return_, 1) → post x → Wd dC dI cI cB cJ cZ ad stM kcM 115 A x H → va_S A s.heap H locs → W p l e R s m args below meth c H locs cells slots Q (F0 m pc ls [])) (hrec49 : ∀ (l1 : Int32) (l2 : Int32) (x : St) (H : Heap) (locs : List Loc) (ls : Array Slot), rec49 l1 l2 x → Wd dC dI cI cB cJ cZ ad stM kcM 115 A x H → va_S A s.heap H locs → lv_has ls 5 [(0, .ref (ad 0)), (1, .int l1), (2, .int l2)] → W p l e R s m args below meth c H locs cells slots Q (F0 m 49 ls [])) (hrec66 : ∀ (l1 : Int32) (l2 : Int32) (l3 : Int32) (l4 : Int32) (x : St) (H : Heap) (locs : List Loc) (ls : Array Slot), rec66 l1 l2 l3 l4 x → Wd dC dI cI cB cJ cZ ad stM kcM 115 A x H → va_S A s.heap H locs → lv_has ls 5 [(0, .ref (ad 0)), (1, .int l1), (2, .int l2), (3, .int l3), (4, .int l4)] → W p l e R s m args below meth c H locs cells slots Q (F0 m 66 ls [])) : ∀ (l1 : Int32) (l2 : Int32) (l3 : Int32) (l4 : Int32) (x : St) (H : Heap) (locs : List Loc) (ls : Array Slot), j_Mod_writeBools_66 post rec49 rec66 l1 l2 l3 l4 x → Wd dC dI cI cB cJ cZ ad stM kcM 115 A x H → va_S A s.heap H locs → lv_has ls 5 [(0, .ref (ad 0)), (1, .int l1), (2, .int l2), (3, .int l3), (4, .int l4)] → W p l e R s m args below meth c H locs cells slots Q (F0 m 66 ls []) := by
  intro l1 l2 l3 l4 x H locs ls  hw hW hS hl
  unfold j_Mod_writeBools_66 at hw
  refine lv_iload hx hb d_Mod_writeBools_66 (lv_at hl 4 rfl) ?_
  refine lv_bipush (v := 8) hx hb d_Mod_writeBools_68 (by decide) ?_
  refine lv_icmp_ge (tgt := 105) hx hb d_Mod_writeBools_70 (by decide) (fun c529 => ?_) (fun c529 => ?_)
  · have hw := hw.1 c529
    exact t_Mod_writeBools_105 hx hb hml hown hT hK hN hA hRc hRs hRf hRl hret hrec49 l1 l2 l3 l4 x H locs ls  hw hW hS (lv_sub hl [0, 1, 2, 3, 4] rfl)
  · have hw := hw.2 c529
    refine lv_iload_n hx hb d_Mod_writeBools_73 rfl (lv_at hl 2 rfl) ?_
    refine lv_iload hx hb d_Mod_writeBools_74 (lv_at hl 4 rfl) ?_
    refine lv_iadd hx hb d_Mod_writeBools_76 ?_
    refine lv_aload_n hx hb d_Mod_writeBools_77 rfl (lv_at hl 0 rfl) ?_
    refine w_geti (k := 42) (t := 12) (C := R_Mod) (T := F_Mod) (N := 167) hx hb hT hown hK hW ko_0.1 ko_0.2 (by decide) in_Mod rfl rfl (by decide) rfl fr_Mod_42 w_8_222 d_Mod_writeBools_78 ?_
    refine lv_icmp_ge (tgt := 105) hx hb d_Mod_writeBools_81 (by decide) (fun c530 => ?_) (fun c530 => ?_)
    · have hw := hw.1 c530
      exact t_Mod_writeBools_105 hx hb hml hown hT hK hN hA hRc hRs hRf hRl hret hrec49 l1 l2 l3 l4 x H locs ls  hw hW hS (lv_sub hl [0, 1, 2, 3, 4] rfl)
    · have hw := hw.2 c530
      refine lv_iload_n hx hb d_Mod_writeBools_84 rfl (lv_at hl 3 rfl) ?_
      refine lv_aload_n hx hb d_Mod_writeBools_85 rfl (lv_at hl 0 rfl) ?_
      refine w_getf (q := 44) (k := 72) (t := 12) (C := R_Mod) (T := F_Mod) (N := 167) hx hb hT hown hK hW ko_0.1 ko_0.2 (by decide) in_Mod rfl rfl (by decide) rfl fr_Mod_72 w_9_12 d_Mod_writeBools_86 rfl ?_
      refine lv_iload_n hx hb d_Mod_writeBools_89 rfl (lv_at hl 2 rfl) ?_
      refine lv_iload hx hb d_Mod_writeBools_90 (lv_at hl 4 rfl) ?_
      refine lv_iadd hx hb d_Mod_writeBools_92 ?_
      obtain ⟨hi, hw⟩ := hw
      refine w_iald (o := 44) hx hb hK hW ko_44.1 ko_44.2 hi d_Mod_writeBools_93 ?_
      refine lv_iload hx hb d_Mod_writeBools_94 (lv_at hl 4 rfl) ?_
      refine lv_ishl hx hb d_Mod_writeBools_96 ?_
      refine lv_ior hx hb d_Mod_writeBools_97 ?_
      refine lv_topi (fun v531 ev531 => ?_)
      have hw := hw v531 ev531
      refine lv_istore_n (lv' := [(3, .int v531), (0, .ref (ad 0)), (1, .int l1), (2, .int l2), (4, .int l4)]) hx hb d_Mod_writeBools_98 rfl hl (by decide) rfl (fun ls hl => ?_)
      refine lv_iinc (v := (l4 + 1)) (lv' := [(4, .int (l4 + 1)), (3, .int v531), (0, .ref (ad 0)), (1, .int l1), (2, .int l2)]) hx hb d_Mod_writeBools_99 hl (k := 4) rfl rfl (by decide) rfl (fun ls hl => ?_)
      refine lv_goto (tgt := 66) hx hb d_Mod_writeBools_102 (by decide) ?_
      exact hrec66 l1 l2 v531 (l4 + 1) x H locs ls  hw hW hS (lv_sub hl [2, 3, 4, 1, 0] rfl)
def wl_Mod_writeBools_66 (post : St → Prop) (rec49 : Int32 → Int32 → St → Prop) : Nat → Int32 → Int32 → Int32 → Int32 → St → Prop
  | 0 => fun _ _ _ _ _ => False
  | n + 1 => j_Mod_writeBools_66 post rec49 (wl_Mod_writeBools_66 post rec49 n)
set_option maxHeartbeats 4000000 in
set_option maxRecDepth 100000 in
theorem tl_Mod_writeBools_66 {p : Program} {l : Launch} {e : Env} {R : Room} {s : State} {m : MethodId} {args : Array Value} {below : List Frame} {meth : Method} {c : Code} {cells slots : Nat} {Q : State → Prop} {dC : Nat → ClassId} {dI : Nat → Nat → Nat} {cI cB cJ cZ : ClassId} {A : Nat → Prop} {ad : Nat → Nat} {post : St → Prop} {rec49 : Int32 → Int32 → St → Prop} (hx : p.tables.exec = Jvm.exec) (hb : c.code = b_Mod_writeBools) (hml : c.maxLocals = 5) (hown : s.vm.findClass R_Mod = some m.cls) (hT : ∀ w ∈ TG, w.before args s = true) (hK : va_K (dC, dI) CL (TY cI cB cJ cZ) s) (hN : NW s) (hA : ∀ q : Nat, s.heap.size ≤ q → A q) (hRc : cells ≤ R.cells) (hRs : slots ≤ R.slots) (hRf : 3 ≤ R.frames) (hRl : 75 ≤ R.locals) (hret : ∀ (x : St) (H : Heap) (locs : List Loc) (pc : Nat) (ls : Array Slot), decode b_Mod_writeBools pc = .ok (.return_, 1) → post x → Wd dC dI cI cB cJ cZ ad stM kcM 115 A x H → va_S A s.heap H locs → W p l e R s m args below meth c H locs cells slots Q (F0 m pc ls [])) (hrec49 : ∀ (l1 : Int32) (l2 : Int32) (x : St) (H : Heap) (locs : List Loc) (ls : Array Slot), rec49 l1 l2 x → Wd dC dI cI cB cJ cZ ad stM kcM 115 A x H → va_S A s.heap H locs → lv_has ls 5 [(0, .ref (ad 0)), (1, .int l1), (2, .int l2)] → W p l e R s m args below meth c H locs cells slots Q (F0 m 49 ls [])) : ∀ n : Nat, ∀ (l1 : Int32) (l2 : Int32) (l3 : Int32) (l4 : Int32) (x : St) (H : Heap) (locs : List Loc) (ls : Array Slot), wl_Mod_writeBools_66 post rec49 n l1 l2 l3 l4 x → Wd dC dI cI cB cJ cZ ad stM kcM 115 A x H → va_S A s.heap H locs → lv_has ls 5 [(0, .ref (ad 0)), (1, .int l1), (2, .int l2), (3, .int l3), (4, .int l4)] → W p l e R s m args below meth c H locs cells slots Q (F0 m 66 ls []) := by
  intro n
  induction n with
  | zero => intro l1 l2 l3 l4 x H locs ls  hw; exact hw.elim
  | succ n ih => intro l1 l2 l3 l4 x H locs ls  hw hW hS hl; exact t_Mod_writeBools_66 hx hb hml hown hT hK hN hA hRc hRs hRf hRl hret hrec49 ih l1 l2 l3 l4 x H locs ls  hw hW hS hl
set_option maxRecDepth 100000 in
def j_Mod_writeBools_49 (post : St → Prop) (rec49 : Int32 → Int32 → St → Prop) (l1 : Int32) (l2 : Int32) (x : St) : Prop := (((fI x 0 42) ≤ l2 → post x) ∧ (¬ (fI x 0 42) ≤ l2 → ((¬ l1 = 0 → post x) ∧ (l1 = 0 → ∃ n : Nat, wl_Mod_writeBools_66 post rec49 n l1 l2 0 0 x))))
set_option maxHeartbeats 4000000 in
set_option maxRecDepth 100000 in
theorem t_Mod_writeBools_49 {p : Program} {l : Launch} {e : Env} {R : Room} {s : State} {m : MethodId} {args : Array Value} {below : List Frame} {meth : Method} {c : Code} {cells slots : Nat} {Q : State → Prop} {dC : Nat → ClassId} {dI : Nat → Nat → Nat} {cI cB cJ cZ : ClassId} {A : Nat → Prop} {ad : Nat → Nat} {post : St → Prop} {rec49 : Int32 → Int32 → St → Prop} (hx : p.tables.exec = Jvm.exec) (hb : c.code = b_Mod_writeBools) (hml : c.maxLocals = 5) (hown : s.vm.findClass R_Mod = some m.cls) (hT : ∀ w ∈ TG, w.before args s = true) (hK : va_K (dC, dI) CL (TY cI cB cJ cZ) s) (hN : NW s) (hA : ∀ q : Nat, s.heap.size ≤ q → A q) (hRc : cells ≤ R.cells) (hRs : slots ≤ R.slots) (hRf : 3 ≤ R.frames) (hRl : 75 ≤ R.locals) (hret : ∀ (x : St) (H : Heap) (locs : List Loc) (pc : Nat) (ls : Array Slot), decode b_Mod_writeBools pc = .ok (.return_, 1) → post x → Wd dC dI cI cB cJ cZ ad stM kcM 115 A x H → va_S A s.heap H locs → W p l e R s m args below meth c H locs cells slots Q (F0 m pc ls [])) (hrec49 : ∀ (l1 : Int32) (l2 : Int32) (x : St) (H : Heap) (locs : List Loc) (ls : Array Slot), rec49 l1 l2 x → Wd dC dI cI cB cJ cZ ad stM kcM 115 A x H → va_S A s.heap H locs → lv_has ls 5 [(0, .ref (ad 0)), (1, .int l1), (2, .int l2)] → W p l e R s m args below meth c H locs cells slots Q (F0 m 49 ls [])) : ∀ (l1 : Int32) (l2 : Int32) (x : St) (H : Heap) (locs : List Loc) (ls : Array Slot), j_Mod_writeBools_49 post rec49 l1 l2 x → Wd dC dI cI cB cJ cZ ad stM kcM 115 A x H → va_S A s.heap H locs → lv_has ls 5 [(0, .ref (ad 0)), (1, .int l1), (2, .int l2)] → W p l e R s m args below meth c H locs cells slots Q (F0 m 49 ls []) := by
  intro l1 l2 x H locs ls  hw hW hS hl
  unfold j_Mod_writeBools_49 at hw
  refine lv_iload_n hx hb d_Mod_writeBools_49 rfl (lv_at hl 2 rfl) ?_
  refine lv_aload_n hx hb d_Mod_writeBools_50 rfl (lv_at hl 0 rfl) ?_
  refine w_geti (k := 42) (t := 12) (C := R_Mod) (T := F_Mod) (N := 167) hx hb hT hown hK hW ko_0.1 ko_0.2 (by decide) in_Mod rfl rfl (by decide) rfl fr_Mod_42 w_8_222 d_Mod_writeBools_51 ?_
  refine lv_icmp_ge (tgt := 116) hx hb d_Mod_writeBools_54 (by decide) (fun c532 => ?_) (fun c532 => ?_)
  · have hw := hw.1 c532
    exact hret x H locs 116 ls d_Mod_writeBools_116 hw hW hS
  · have hw := hw.2 c532
    refine lv_iload_n hx hb d_Mod_writeBools_57 rfl (lv_at hl 1 rfl) ?_
    refine lv_if_ne (tgt := 116) hx hb d_Mod_writeBools_58 (by decide) (fun c533 => ?_) (fun c533 => ?_)
    · have hw := hw.1 c533
      exact hret x H locs 116 ls d_Mod_writeBools_116 hw hW hS
    · have hw := hw.2 c533
      refine lv_iconst (v := 0) hx hb d_Mod_writeBools_61 (by decide) ?_
      refine lv_istore_n (lv' := [(3, .int 0), (0, .ref (ad 0)), (1, .int l1), (2, .int l2)]) hx hb d_Mod_writeBools_62 rfl hl (by decide) rfl (fun ls hl => ?_)
      refine lv_iconst (v := 0) hx hb d_Mod_writeBools_63 (by decide) ?_
      refine lv_istore (lv' := [(4, .int 0), (3, .int 0), (0, .ref (ad 0)), (1, .int l1), (2, .int l2)]) hx hb d_Mod_writeBools_64 hl (by decide) rfl (fun ls hl => ?_)
      obtain ⟨n, hw⟩ := hw
      exact tl_Mod_writeBools_66 hx hb hml hown hT hK hN hA hRc hRs hRf hRl hret hrec49 n l1 l2 0 0 x H locs ls  hw hW hS (lv_sub hl [2, 3, 4, 1, 0] rfl)
def wl_Mod_writeBools_49 (post : St → Prop) : Nat → Int32 → Int32 → St → Prop
  | 0 => fun _ _ _ => False
  | n + 1 => j_Mod_writeBools_49 post (wl_Mod_writeBools_49 post n)
set_option maxHeartbeats 4000000 in
set_option maxRecDepth 100000 in
theorem tl_Mod_writeBools_49 {p : Program} {l : Launch} {e : Env} {R : Room} {s : State} {m : MethodId} {args : Array Value} {below : List Frame} {meth : Method} {c : Code} {cells slots : Nat} {Q : State → Prop} {dC : Nat → ClassId} {dI : Nat → Nat → Nat} {cI cB cJ cZ : ClassId} {A : Nat → Prop} {ad : Nat → Nat} {post : St → Prop} (hx : p.tables.exec = Jvm.exec) (hb : c.code = b_Mod_writeBools) (hml : c.maxLocals = 5) (hown : s.vm.findClass R_Mod = some m.cls) (hT : ∀ w ∈ TG, w.before args s = true) (hK : va_K (dC, dI) CL (TY cI cB cJ cZ) s) (hN : NW s) (hA : ∀ q : Nat, s.heap.size ≤ q → A q) (hRc : cells ≤ R.cells) (hRs : slots ≤ R.slots) (hRf : 3 ≤ R.frames) (hRl : 75 ≤ R.locals) (hret : ∀ (x : St) (H : Heap) (locs : List Loc) (pc : Nat) (ls : Array Slot), decode b_Mod_writeBools pc = .ok (.return_, 1) → post x → Wd dC dI cI cB cJ cZ ad stM kcM 115 A x H → va_S A s.heap H locs → W p l e R s m args below meth c H locs cells slots Q (F0 m pc ls []))  : ∀ n : Nat, ∀ (l1 : Int32) (l2 : Int32) (x : St) (H : Heap) (locs : List Loc) (ls : Array Slot), wl_Mod_writeBools_49 post n l1 l2 x → Wd dC dI cI cB cJ cZ ad stM kcM 115 A x H → va_S A s.heap H locs → lv_has ls 5 [(0, .ref (ad 0)), (1, .int l1), (2, .int l2)] → W p l e R s m args below meth c H locs cells slots Q (F0 m 49 ls []) := by
  intro n
  induction n with
  | zero => intro l1 l2 x H locs ls  hw; exact hw.elim
  | succ n ih => intro l1 l2 x H locs ls  hw hW hS hl; exact t_Mod_writeBools_49 hx hb hml hown hT hK hN hA hRc hRs hRf hRl hret  ih l1 l2 x H locs ls  hw hW hS hl
set_option maxRecDepth 100000 in
def j_Mod_writeBools_47 (post : St → Prop) (l1 : Int32) (l2 : Int32) (x : St) : Prop := ∃ n : Nat, wl_Mod_writeBools_49 post n l1 0 x
set_option maxHeartbeats 4000000 in
set_option maxRecDepth 100000 in
theorem t_Mod_writeBools_47 {p : Program} {l : Launch} {e : Env} {R : Room} {s : State} {m : MethodId} {args : Array Value} {below : List Frame} {meth : Method} {c : Code} {cells slots : Nat} {Q : State → Prop} {dC : Nat → ClassId} {dI : Nat → Nat → Nat} {cI cB cJ cZ : ClassId} {A : Nat → Prop} {ad : Nat → Nat} {post : St → Prop} (hx : p.tables.exec = Jvm.exec) (hb : c.code = b_Mod_writeBools) (hml : c.maxLocals = 5) (hown : s.vm.findClass R_Mod = some m.cls) (hT : ∀ w ∈ TG, w.before args s = true) (hK : va_K (dC, dI) CL (TY cI cB cJ cZ) s) (hN : NW s) (hA : ∀ q : Nat, s.heap.size ≤ q → A q) (hRc : cells ≤ R.cells) (hRs : slots ≤ R.slots) (hRf : 3 ≤ R.frames) (hRl : 75 ≤ R.locals) (hret : ∀ (x : St) (H : Heap) (locs : List Loc) (pc : Nat) (ls : Array Slot), decode b_Mod_writeBools pc = .ok (.return_, 1) → post x → Wd dC dI cI cB cJ cZ ad stM kcM 115 A x H → va_S A s.heap H locs → W p l e R s m args below meth c H locs cells slots Q (F0 m pc ls []))  : ∀ (l1 : Int32) (l2 : Int32) (x : St) (H : Heap) (locs : List Loc) (ls : Array Slot), j_Mod_writeBools_47 post l1 l2 x → Wd dC dI cI cB cJ cZ ad stM kcM 115 A x H → va_S A s.heap H locs → lv_has ls 5 [(0, .ref (ad 0)), (1, .int l1), (2, .int l2)] → W p l e R s m args below meth c H locs cells slots Q (F0 m 47 ls []) := by
  intro l1 l2 x H locs ls  hw hW hS hl
  unfold j_Mod_writeBools_47 at hw
  refine lv_iconst (v := 0) hx hb d_Mod_writeBools_47 (by decide) ?_
  refine lv_istore_n (lv' := [(2, .int 0), (0, .ref (ad 0)), (1, .int l1)]) hx hb d_Mod_writeBools_48 rfl hl (by decide) rfl (fun ls hl => ?_)
  obtain ⟨n, hw⟩ := hw
  exact tl_Mod_writeBools_49 hx hb hml hown hT hK hN hA hRc hRs hRf hRl hret  n l1 0 x H locs ls  hw hW hS (lv_sub hl [1, 2, 0] rfl)
set_option maxRecDepth 100000 in
def j_Mod_writeBools_2 (post : St → Prop) (rec2 : Int32 → Int32 → St → Prop) (l1 : Int32) (l2 : Int32) (x : St) : Prop := (((fI x 0 42) ≤ l2 → ((¬ l1 = 1 → j_Mod_writeBools_47 post l1 l2 x) ∧ (l1 = 1 → wp_Mod_writeRuns (fun (x536 : St) => j_Mod_writeBools_47 post l1 l2 x536) 44 (fI x 0 42) 1 x))) ∧ (¬ (fI x 0 42) ≤ l2 → (vp_in l2 (fN x 30) ∧ (vp_in l2 (fN x 44) ∧ ∀ x537 : St, x537 = setA x 44 l2 ((rL x 30 l2) : Int64).toInt32 → rec2 l1 (l2 + 1) x537))))
set_option maxHeartbeats 4000000 in
set_option maxRecDepth 100000 in
theorem t_Mod_writeBools_2 {p : Program} {l : Launch} {e : Env} {R : Room} {s : State} {m : MethodId} {args : Array Value} {below : List Frame} {meth : Method} {c : Code} {cells slots : Nat} {Q : State → Prop} {dC : Nat → ClassId} {dI : Nat → Nat → Nat} {cI cB cJ cZ : ClassId} {A : Nat → Prop} {ad : Nat → Nat} {post : St → Prop} {rec2 : Int32 → Int32 → St → Prop} (hx : p.tables.exec = Jvm.exec) (hb : c.code = b_Mod_writeBools) (hml : c.maxLocals = 5) (hown : s.vm.findClass R_Mod = some m.cls) (hT : ∀ w ∈ TG, w.before args s = true) (hK : va_K (dC, dI) CL (TY cI cB cJ cZ) s) (hN : NW s) (hA : ∀ q : Nat, s.heap.size ≤ q → A q) (hRc : cells ≤ R.cells) (hRs : slots ≤ R.slots) (hRf : 3 ≤ R.frames) (hRl : 75 ≤ R.locals) (hret : ∀ (x : St) (H : Heap) (locs : List Loc) (pc : Nat) (ls : Array Slot), decode b_Mod_writeBools pc = .ok (.return_, 1) → post x → Wd dC dI cI cB cJ cZ ad stM kcM 115 A x H → va_S A s.heap H locs → W p l e R s m args below meth c H locs cells slots Q (F0 m pc ls [])) (hrec2 : ∀ (l1 : Int32) (l2 : Int32) (x : St) (H : Heap) (locs : List Loc) (ls : Array Slot), rec2 l1 l2 x → Wd dC dI cI cB cJ cZ ad stM kcM 115 A x H → va_S A s.heap H locs → lv_has ls 5 [(0, .ref (ad 0)), (1, .int l1), (2, .int l2)] → W p l e R s m args below meth c H locs cells slots Q (F0 m 2 ls [])) : ∀ (l1 : Int32) (l2 : Int32) (x : St) (H : Heap) (locs : List Loc) (ls : Array Slot), j_Mod_writeBools_2 post rec2 l1 l2 x → Wd dC dI cI cB cJ cZ ad stM kcM 115 A x H → va_S A s.heap H locs → lv_has ls 5 [(0, .ref (ad 0)), (1, .int l1), (2, .int l2)] → W p l e R s m args below meth c H locs cells slots Q (F0 m 2 ls []) := by
  intro l1 l2 x H locs ls  hw hW hS hl
  unfold j_Mod_writeBools_2 at hw
  refine lv_iload_n hx hb d_Mod_writeBools_2 rfl (lv_at hl 2 rfl) ?_
  refine lv_aload_n hx hb d_Mod_writeBools_3 rfl (lv_at hl 0 rfl) ?_
  refine w_geti (k := 42) (t := 12) (C := R_Mod) (T := F_Mod) (N := 167) hx hb hT hown hK hW ko_0.1 ko_0.2 (by decide) in_Mod rfl rfl (by decide) rfl fr_Mod_42 w_8_222 d_Mod_writeBools_4 ?_
  refine lv_icmp_ge (tgt := 29) hx hb d_Mod_writeBools_7 (by decide) (fun c534 => ?_) (fun c534 => ?_)
  · have hw := hw.1 c534
    refine lv_iload_n hx hb d_Mod_writeBools_29 rfl (lv_at hl 1 rfl) ?_
    refine lv_iconst (v := 1) hx hb d_Mod_writeBools_30 (by decide) ?_
    refine lv_icmp_ne (tgt := 47) hx hb d_Mod_writeBools_31 (by decide) (fun c535 => ?_) (fun c535 => ?_)
    · have hw := hw.1 c535
      exact t_Mod_writeBools_47 hx hb hml hown hT hK hN hA hRc hRs hRf hRl hret  l1 l2 x H locs ls  hw hW hS (lv_sub hl [0, 1, 2] rfl)
    · have hw := hw.2 c535
      refine lv_aload_n hx hb d_Mod_writeBools_34 rfl (lv_at hl 0 rfl) ?_
      refine lv_aload_n hx hb d_Mod_writeBools_35 rfl (lv_at hl 0 rfl) ?_
      refine w_getf (q := 44) (k := 72) (t := 12) (C := R_Mod) (T := F_Mod) (N := 167) hx hb hT hown hK hW ko_0.1 ko_0.2 (by decide) in_Mod rfl rfl (by decide) rfl fr_Mod_72 w_9_12 d_Mod_writeBools_36 rfl ?_
      refine lv_aload_n hx hb d_Mod_writeBools_39 rfl (lv_at hl 0 rfl) ?_
      refine w_geti (k := 42) (t := 12) (C := R_Mod) (T := F_Mod) (N := 167) hx hb hT hown hK hW ko_0.1 ko_0.2 (by decide) in_Mod rfl rfl (by decide) rfl fr_Mod_42 w_8_222 d_Mod_writeBools_40 ?_
      refine lv_iconst (v := 1) hx hb d_Mod_writeBools_43 (by decide) ?_
      have hF := hW.free hS hA
      refine va_callv (va_runV (C := R_Mod) (As := [.ref (ad 44), .int (fI x 0 42), .int 1]) (rest := []) ⟨hx, hb, hml, hown, hT⟩ (k_Mod_writeRuns l dC dI cI cB cJ cZ ad H.size 44 (fI x 0 42) 1 x ko_44 hw) ⟨callB_of 3 hT (gw_in w_11_190) rfl rfl rfl (hT _ w_1_15) (hT _ w_11_187) (by decide +kernel) ⟨Nat.le_trans (by decide) hRf, Nat.le_trans (by decide) hRl⟩, hT _ w_11_189, hT _ ws_152⟩ ⟨PW.blind, va_recv hK hW.1 (ci := 12) (q0 := 0) rfl (pic_obj ko_0.1 ko_0.2 (by decide)), PW.at _ hW hK hN⟩ rfl rfl hl.1 rfl (lv_room (Nat.le_of_ble_eq_true rfl)) d_Mod_writeBools_44 ⟨hRc, hRs⟩) hS (fun q _ h => hF q h) hF (fun  x536 t H locs ht hvm hw hB hz1 hk1 hS => ?_)
      have hW := Wd.back hB ht hF
      clear hB ht hF hz1 hk1 hvm
      exact t_Mod_writeBools_47 hx hb hml hown hT hK hN hA hRc hRs hRf hRl hret  l1 l2 x536 H locs ls  hw hW hS (lv_sub hl [0, 1, 2] rfl)
  · have hw := hw.2 c534
    refine lv_aload_n hx hb d_Mod_writeBools_10 rfl (lv_at hl 0 rfl) ?_
    refine w_getf (q := 44) (k := 72) (t := 12) (C := R_Mod) (T := F_Mod) (N := 167) hx hb hT hown hK hW ko_0.1 ko_0.2 (by decide) in_Mod rfl rfl (by decide) rfl fr_Mod_72 w_9_12 d_Mod_writeBools_11 rfl ?_
    refine lv_iload_n hx hb d_Mod_writeBools_14 rfl (lv_at hl 2 rfl) ?_
    refine lv_aload_n hx hb d_Mod_writeBools_15 rfl (lv_at hl 0 rfl) ?_
    refine w_getf (q := 30) (k := 49) (t := 12) (C := R_Mod) (T := F_Mod) (N := 167) hx hb hT hown hK hW ko_0.1 ko_0.2 (by decide) in_Mod rfl rfl (by decide) rfl fr_Mod_49 w_8_229 d_Mod_writeBools_16 rfl ?_
    refine lv_iload_n hx hb d_Mod_writeBools_19 rfl (lv_at hl 2 rfl) ?_
    obtain ⟨hi, hw⟩ := hw
    refine w_lald (o := 30) hx hb hK hW ko_30.1 ko_30.2 hi d_Mod_writeBools_20 ?_
    refine lv_l2i hx hb d_Mod_writeBools_21 rfl ?_
    obtain ⟨hi, hw⟩ := hw
    refine w_iast (o := 44) hx hb hK hW hS ko_44.1 ko_44.2 hi d_Mod_writeBools_22 (fun H locs hW hS => ?_)
    obtain ⟨x537, ex537⟩ : ∃ y : St, y = setA x 44 l2 ((rL x 30 l2) : Int64).toInt32 := ⟨_, rfl⟩
    rw [← ex537] at hW
    have hw := hw x537 ex537
    refine lv_iinc (v := (l2 + 1)) (lv' := [(2, .int (l2 + 1)), (0, .ref (ad 0)), (1, .int l1)]) hx hb d_Mod_writeBools_23 hl (k := 2) rfl rfl (by decide) rfl (fun ls hl => ?_)
    refine lv_goto (tgt := 2) hx hb d_Mod_writeBools_26 (by decide) ?_
    exact hrec2 l1 (l2 + 1) x537 H locs ls  hw hW hS (lv_sub hl [1, 2, 0] rfl)
def wl_Mod_writeBools_2 (post : St → Prop) : Nat → Int32 → Int32 → St → Prop
  | 0 => fun _ _ _ => False
  | n + 1 => j_Mod_writeBools_2 post (wl_Mod_writeBools_2 post n)
set_option maxHeartbeats 4000000 in
set_option maxRecDepth 100000 in
theorem tl_Mod_writeBools_2 {p : Program} {l : Launch} {e : Env} {R : Room} {s : State} {m : MethodId} {args : Array Value} {below : List Frame} {meth : Method} {c : Code} {cells slots : Nat} {Q : State → Prop} {dC : Nat → ClassId} {dI : Nat → Nat → Nat} {cI cB cJ cZ : ClassId} {A : Nat → Prop} {ad : Nat → Nat} {post : St → Prop} (hx : p.tables.exec = Jvm.exec) (hb : c.code = b_Mod_writeBools) (hml : c.maxLocals = 5) (hown : s.vm.findClass R_Mod = some m.cls) (hT : ∀ w ∈ TG, w.before args s = true) (hK : va_K (dC, dI) CL (TY cI cB cJ cZ) s) (hN : NW s) (hA : ∀ q : Nat, s.heap.size ≤ q → A q) (hRc : cells ≤ R.cells) (hRs : slots ≤ R.slots) (hRf : 3 ≤ R.frames) (hRl : 75 ≤ R.locals) (hret : ∀ (x : St) (H : Heap) (locs : List Loc) (pc : Nat) (ls : Array Slot), decode b_Mod_writeBools pc = .ok (.return_, 1) → post x → Wd dC dI cI cB cJ cZ ad stM kcM 115 A x H → va_S A s.heap H locs → W p l e R s m args below meth c H locs cells slots Q (F0 m pc ls []))  : ∀ n : Nat, ∀ (l1 : Int32) (l2 : Int32) (x : St) (H : Heap) (locs : List Loc) (ls : Array Slot), wl_Mod_writeBools_2 post n l1 l2 x → Wd dC dI cI cB cJ cZ ad stM kcM 115 A x H → va_S A s.heap H locs → lv_has ls 5 [(0, .ref (ad 0)), (1, .int l1), (2, .int l2)] → W p l e R s m args below meth c H locs cells slots Q (F0 m 2 ls []) := by
  intro n
  induction n with
  | zero => intro l1 l2 x H locs ls  hw; exact hw.elim
  | succ n ih => intro l1 l2 x H locs ls  hw hW hS hl; exact t_Mod_writeBools_2 hx hb hml hown hT hK hN hA hRc hRs hRf hRl hret  ih l1 l2 x H locs ls  hw hW hS hl
set_option maxRecDepth 100000 in
def wp_Mod_writeBools (post : St → Prop) (l1 : Int32) (x : St) : Prop := ∃ n : Nat, wl_Mod_writeBools_2 post n l1 0 x
set_option maxHeartbeats 4000000 in
set_option maxRecDepth 100000 in
theorem t_Mod_writeBools_e {p : Program} {l : Launch} {e : Env} {R : Room} {s : State} {m : MethodId} {args : Array Value} {below : List Frame} {meth : Method} {c : Code} {cells slots : Nat} {Q : State → Prop} {dC : Nat → ClassId} {dI : Nat → Nat → Nat} {cI cB cJ cZ : ClassId} {A : Nat → Prop} {ad : Nat → Nat} {post : St → Prop} (hx : p.tables.exec = Jvm.exec) (hb : c.code = b_Mod_writeBools) (hml : c.maxLocals = 5) (hown : s.vm.findClass R_Mod = some m.cls) (hT : ∀ w ∈ TG, w.before args s = true) (hK : va_K (dC, dI) CL (TY cI cB cJ cZ) s) (hN : NW s) (hA : ∀ q : Nat, s.heap.size ≤ q → A q) (hRc : cells ≤ R.cells) (hRs : slots ≤ R.slots) (hRf : 3 ≤ R.frames) (hRl : 75 ≤ R.locals) (hret : ∀ (x : St) (H : Heap) (locs : List Loc) (pc : Nat) (ls : Array Slot), decode b_Mod_writeBools pc = .ok (.return_, 1) → post x → Wd dC dI cI cB cJ cZ ad stM kcM 115 A x H → va_S A s.heap H locs → W p l e R s m args below meth c H locs cells slots Q (F0 m pc ls [])) : ∀ (l1 : Int32) (x : St) (H : Heap) (locs : List Loc) (ls : Array Slot), wp_Mod_writeBools post l1 x → Wd dC dI cI cB cJ cZ ad stM kcM 115 A x H → va_S A s.heap H locs → lv_has ls 5 [(0, .ref (ad 0)), (1, .int l1)] → W p l e R s m args below meth c H locs cells slots Q (F0 m 0 ls []) := by
  intro l1 x H locs ls  hw hW hS hl
  unfold wp_Mod_writeBools at hw
  refine lv_iconst (v := 0) hx hb d_Mod_writeBools_0 (by decide) ?_
  refine lv_istore_n (lv' := [(2, .int 0), (0, .ref (ad 0)), (1, .int l1)]) hx hb d_Mod_writeBools_1 rfl hl (by decide) rfl (fun ls hl => ?_)
  obtain ⟨n, hw⟩ := hw
  exact tl_Mod_writeBools_2 hx hb hml hown hT hK hN hA hRc hRs hRf hRl hret  n l1 0 x H locs ls  hw hW hS (lv_sub hl [1, 2, 0] rfl)
set_option maxHeartbeats 4000000 in
set_option maxRecDepth 100000 in
theorem k_Mod_writeBools (l : Launch) (dC : Nat → ClassId) (dI : Nat → Nat → Nat) (cI cB cJ cZ : ClassId) (ad : Nat → Nat) (sz : Nat) (l1 : Int32) (x : St) {post : St → Prop} (hw : wp_Mod_writeBools post l1 x) : Met l y_Mod_writeBools (wsOf y_Mod_writeBools b_Mod_writeBools 5 (none)) ({ frames := 3, cells := 0, slots := 0, locals := 75 }) (va_Pc [.ref (ad 0), .int l1] (PW dC dI cI cB cJ cZ ad stM kcM 115 sz x)) (va_Qv (fun (y : St) => post y) (fun y t => Wd dC dI cI cB cJ cZ ad stM kcM 115 (va_A (pic ad stM kcM 115 cI cB cJ cZ x) sz) y t.heap) (va_A (pic ad stM kcM 115 cI cB cJ cZ x) sz)) 0 0 (va_A (pic ad stM kcM 115 cI cB cJ cZ x) sz) := by
  refine Met.ofW (cc := b_Mod_writeBools) (maxL := 5) (ret := none) (by decide) rfl ?_
  intro p e s m args below meth c s₁ B hml hv
  obtain ⟨rfl, hsz, hW0, hK, hN⟩ := hv
  have hx := B.exec
  have hb := B.bytes
  have hr := B.returns
  have hts := atoms_spec B.pre
  have hT : ∀ w ∈ TG, w.before _ s = true := fun w h => hts w (List.mem_cons_of_mem _ h)
  have hown : s.vm.findClass R_Mod = some m.cls := findClass_of_methodNamed B.named
  have hlocks := B.notSynchronized
  subst hsz
  have hW : Wd dC dI cI cB cJ cZ ad stM kcM 115 (va_A (pic ad stM kcM 115 cI cB cJ cZ x) s.heap.size) x s.heap := ⟨hW0.1, hW0.2.1.self (sz := s.heap.size), hW0.2.2⟩
  generalize hAe : va_A (pic ad stM kcM 115 cI cB cJ cZ x) s.heap.size = A at hW ⊢
  have hA : ∀ q : Nat, s.heap.size ≤ q → A q := fun q h => by rw [← hAe]; exact Or.inr h
  have hS : va_S A s.heap s.heap [] := va_S.rf
  have hl := lv_entry ([.ref (ad 0), .int l1]) (n := 5) (Nat.le_of_ble_eq_true rfl)
  rw [lg_entry_eq]
  generalize (lg_sl ([.ref (ad 0), .int l1]) ++ List.replicate (5 - (lg_sl ([.ref (ad 0), .int l1])).length) Slot.unset).toArray = ls at hl ⊢
  have hl : lv_has ls 5 [(0, .ref (ad 0)), (1, .int l1)] := hl
  exact t_Mod_writeBools_e hx hb hml hown hT hK hN hA (Nat.le_refl 0) (Nat.le_refl 0) (Nat.le_refl 3) (Nat.le_refl 75) (fun x H locs pc ls hd hp hW hS => W.vret hx hb hr (fun t ht hM => ⟨⟨x, rfl, hp, Wd.back hW ht.symm (fun _ z => z)⟩, hS.F ht⟩) hS.2.2 hd hlocks)  l1 x _ _ ls  hw hW hS hl
end
