theorem w_11_208 : (Jvm.Cond.methodLink "StripedVaultModel" (651 : Nat) ({ cls := "StripedVaultModel", name := "wide", desc := "()I" } : Jvm.MethodName)) ∈ TG := tw_11 208 (by decide +kernel) (by decide +kernel)
theorem w_11_210 : (Jvm.Cond.instanceMethod ({ cls := "StripedVaultModel", name := "wide", desc := "()I" } : Jvm.MethodName)) ∈ TG := tw_11 210 (by decide +kernel) (by decide +kernel)
theorem w_11_211 : (Jvm.Cond.code ({ cls := "StripedVaultModel", name := "wide", desc := "()I" } : Jvm.MethodName) prog_14_method_77_code (1 : Nat) (Option.some Jvm.ClassFile.FieldType.int)) ∈ TG := tw_11 211 (by decide +kernel) (by decide +kernel)
theorem w_11_212 : (Jvm.Cond.methodLink "StripedVaultModel" (654 : Nat) ({ cls := "StripedVaultModel", name := "putFixed", desc := "(JI)V" } : Jvm.MethodName)) ∈ TG := tw_11 212 (by decide +kernel) (by decide +kernel)
theorem w_11_214 : (Jvm.Cond.instanceMethod ({ cls := "StripedVaultModel", name := "putFixed", desc := "(JI)V" } : Jvm.MethodName)) ∈ TG := tw_11 214 (by decide +kernel) (by decide +kernel)
theorem w_11_215 : (Jvm.Cond.code ({ cls := "StripedVaultModel", name := "putFixed", desc := "(JI)V" } : Jvm.MethodName) prog_14_method_49_code (5 : Nat) (Option.none : Option Jvm.ClassFile.FieldType)) ∈ TG := tw_11 215 (by decide +kernel) (by decide +kernel)
theorem w_11_216 : (Jvm.Cond.methodLink "StripedVaultModel" (588 : Nat) ({ cls := "StripedVaultModel", name := "writeLongs", desc := "()V" } : Jvm.MethodName)) ∈ TG := tw_11 216 (by decide +kernel) (by decide +kernel)
theorem w_11_218 : (Jvm.Cond.instanceMethod ({ cls := "StripedVaultModel", name := "writeLongs", desc := "()V" } : Jvm.MethodName)) ∈ TG := tw_11 218 (by decide +kernel) (by decide +kernel)
theorem w_11_219 : (Jvm.Cond.code ({ cls := "StripedVaultModel", name := "writeLongs", desc := "()V" } : Jvm.MethodName) prog_14_method_61_code (6 : Nat) (Option.none : Option Jvm.ClassFile.FieldType)) ∈ TG := tw_11 219 (by decide +kernel) (by decide +kernel)
theorem w_11_236 : (Jvm.Cond.methodLink "StripedVaultModel" (658 : Nat) ({ cls := "StripedVaultModel", name := "firstWhole", desc := "(I)I" } : Jvm.MethodName)) ∈ TG := tw_11 236 (by decide +kernel) (by decide +kernel)
theorem w_11_238 : (Jvm.Cond.instanceMethod ({ cls := "StripedVaultModel", name := "firstWhole", desc := "(I)I" } : Jvm.MethodName)) ∈ TG := tw_11 238 (by decide +kernel) (by decide +kernel)
theorem w_11_239 : (Jvm.Cond.code ({ cls := "StripedVaultModel", name := "firstWhole", desc := "(I)I" } : Jvm.MethodName) prog_14_method_79_code (3 : Nat) (Option.some Jvm.ClassFile.FieldType.int)) ∈ TG := tw_11 239 (by decide +kernel) (by decide +kernel)
theorem w_12_10 : (Jvm.Cond.instanceMethod ({ cls := "StripedVaultModel", name := "writeCode", desc := "()V" } : Jvm.MethodName)) ∈ TG := tw_12 10 (by decide +kernel) (by decide +kernel)
theorem w_12_11 : (Jvm.Cond.code ({ cls := "StripedVaultModel", name := "writeCode", desc := "()V" } : Jvm.MethodName) prog_14_method_59_code (3 : Nat) (Option.none : Option Jvm.ClassFile.FieldType)) ∈ TG := tw_12 11 (by decide +kernel) (by decide +kernel)
theorem w_12_4 : (Jvm.Cond.methodLink "StripedVaultModel" (626 : Nat) ({ cls := "StripedVaultModel", name := "lengthOf", desc := "(I)I" } : Jvm.MethodName)) ∈ TG := tw_12 4 (by decide +kernel) (by decide +kernel)
theorem w_12_6 : (Jvm.Cond.instanceMethod ({ cls := "StripedVaultModel", name := "lengthOf", desc := "(I)I" } : Jvm.MethodName)) ∈ TG := tw_12 6 (by decide +kernel) (by decide +kernel)
theorem w_12_7 : (Jvm.Cond.code ({ cls := "StripedVaultModel", name := "lengthOf", desc := "(I)I" } : Jvm.MethodName) prog_14_method_68_code (2 : Nat) (Option.some Jvm.ClassFile.FieldType.int)) ∈ TG := tw_12 7 (by decide +kernel) (by decide +kernel)
theorem w_12_8 : (Jvm.Cond.methodLink "StripedVaultModel" (635 : Nat) ({ cls := "StripedVaultModel", name := "writeCode", desc := "()V" } : Jvm.MethodName)) ∈ TG := tw_12 8 (by decide +kernel) (by decide +kernel)
theorem ws_156 : Cond.selects R_Mod y_Mod_wide y_Mod_wide ∈ TG := tw_s 156 (by decide +kernel) (by decide +kernel)
theorem ws_157 : Cond.selects R_Mod y_Mod_putFixed y_Mod_putFixed ∈ TG := tw_s 157 (by decide +kernel) (by decide +kernel)
theorem ws_158 : Cond.selects R_Mod y_Mod_writeLongs y_Mod_writeLongs ∈ TG := tw_s 158 (by decide +kernel) (by decide +kernel)
theorem ws_162 : Cond.selects R_Mod y_Mod_firstWhole y_Mod_firstWhole ∈ TG := tw_s 162 (by decide +kernel) (by decide +kernel)
theorem ws_164 : Cond.selects R_Mod y_Mod_lengthOf y_Mod_lengthOf ∈ TG := tw_s 164 (by decide +kernel) (by decide +kernel)
theorem ws_165 : Cond.selects R_Mod y_Mod_writeCode y_Mod_writeCode ∈ TG := tw_s 165 (by decide +kernel) (by decide +kernel)
theorem d_Mod_firstWhole_2 : decode b_Mod_firstWhole 2 = .ok (.aload_n 0, 1) := by decide +kernel
theorem d_Mod_firstWhole_3 : decode b_Mod_firstWhole 3 = .ok (.getfield 100, 3) := by decide +kernel
theorem d_Mod_firstWhole_6 : decode b_Mod_firstWhole 6 = .ok (.iload_n 2, 1) := by decide +kernel
theorem d_Mod_firstWhole_7 : decode b_Mod_firstWhole 7 = .ok (.laload, 1) := by decide +kernel
theorem d_Mod_firstWhole_8 : decode b_Mod_firstWhole 8 = .ok (.aload_n 0, 1) := by decide +kernel
theorem d_Mod_firstWhole_9 : decode b_Mod_firstWhole 9 = .ok (.getfield 100, 3) := by decide +kernel
theorem d_Mod_firstWhole_12 : decode b_Mod_firstWhole 12 = .ok (.iload_n 1, 1) := by decide +kernel
theorem d_Mod_firstWhole_13 : decode b_Mod_firstWhole 13 = .ok (.laload, 1) := by decide +kernel
theorem d_Mod_firstWhole_14 : decode b_Mod_firstWhole 14 = .ok (.lcmp, 1) := by decide +kernel
theorem d_Mod_firstWhole_15 : decode b_Mod_firstWhole 15 = .ok (.ifCond .eq 9, 3) := by decide +kernel
theorem d_Mod_firstWhole_24 : decode b_Mod_firstWhole 24 = .ok (.iload_n 2, 1) := by decide +kernel
theorem d_Mod_firstWhole_25 : decode b_Mod_firstWhole 25 = .ok (.ireturn, 1) := by decide +kernel
theorem d_Mod_firstWhole_18 : decode b_Mod_firstWhole 18 = .ok (.iinc 2 1, 3) := by decide +kernel
theorem d_Mod_firstWhole_21 : decode b_Mod_firstWhole 21 = .ok (.goto (-19), 3) := by decide +kernel
theorem d_Mod_firstWhole_0 : decode b_Mod_firstWhole 0 = .ok (.iconst 0, 1) := by decide +kernel
theorem d_Mod_firstWhole_1 : decode b_Mod_firstWhole 1 = .ok (.istore_n 2, 1) := by decide +kernel
theorem d_Mod_writeWholes_194 : decode b_Mod_writeWholes 194 = .ok (.iload_n 2, 1) := by decide +kernel
theorem d_Mod_writeWholes_195 : decode b_Mod_writeWholes 195 = .ok (.iconst 1, 1) := by decide +kernel
theorem d_Mod_writeWholes_196 : decode b_Mod_writeWholes 196 = .ok (.isub, 1) := by decide +kernel
theorem d_Mod_writeWholes_197 : decode b_Mod_writeWholes 197 = .ok (.iload_n 3, 1) := by decide +kernel
theorem d_Mod_writeWholes_198 : decode b_Mod_writeWholes 198 = .ok (.ishr, 1) := by decide +kernel
theorem d_Mod_writeWholes_199 : decode b_Mod_writeWholes 199 = .ok (.ifCond .le 9, 3) := by decide +kernel
theorem d_Mod_writeWholes_208 : decode b_Mod_writeWholes 208 = .ok (.aload_n 0, 1) := by decide +kernel
theorem d_Mod_writeWholes_209 : decode b_Mod_writeWholes 209 = .ok (.iload_n 3, 1) := by decide +kernel
theorem d_Mod_writeWholes_210 : decode b_Mod_writeWholes 210 = .ok (.invokevirtual 558, 3) := by decide +kernel
theorem d_Mod_writeWholes_213 : decode b_Mod_writeWholes 213 = .ok (.aload_n 0, 1) := by decide +kernel
theorem d_Mod_writeWholes_214 : decode b_Mod_writeWholes 214 = .ok (.aload_n 0, 1) := by decide +kernel
theorem d_Mod_writeWholes_215 : decode b_Mod_writeWholes 215 = .ok (.getfield 142, 3) := by decide +kernel
theorem d_Mod_writeWholes_218 : decode b_Mod_writeWholes 218 = .ok (.aload_n 0, 1) := by decide +kernel
theorem d_Mod_writeWholes_219 : decode b_Mod_writeWholes 219 = .ok (.getfield 632, 3) := by decide +kernel
theorem d_Mod_writeWholes_222 : decode b_Mod_writeWholes 222 = .ok (.iload_n 3, 1) := by decide +kernel
theorem d_Mod_writeWholes_223 : decode b_Mod_writeWholes 223 = .ok (.invokevirtual 647, 3) := by decide +kernel
theorem d_Mod_writeWholes_226 : decode b_Mod_writeWholes 226 = .ok (.return_, 1) := by decide +kernel
theorem d_Mod_writeWholes_202 : decode b_Mod_writeWholes 202 = .ok (.iinc 3 1, 3) := by decide +kernel
theorem d_Mod_writeWholes_205 : decode b_Mod_writeWholes 205 = .ok (.goto (-11), 3) := by decide +kernel
theorem d_Mod_writeWholes_186 : decode b_Mod_writeWholes 186 = .ok (.iinc 3 1, 3) := by decide +kernel
theorem d_Mod_writeWholes_189 : decode b_Mod_writeWholes 189 = .ok (.goto (-34), 3) := by decide +kernel
theorem d_Mod_writeWholes_155 : decode b_Mod_writeWholes 155 = .ok (.iload_n 3, 1) := by decide +kernel
theorem d_Mod_writeWholes_156 : decode b_Mod_writeWholes 156 = .ok (.aload_n 0, 1) := by decide +kernel
theorem d_Mod_writeWholes_157 : decode b_Mod_writeWholes 157 = .ok (.getfield 632, 3) := by decide +kernel
theorem d_Mod_writeWholes_160 : decode b_Mod_writeWholes 160 = .ok (.if_icmp .ge 32, 3) := by decide +kernel
theorem d_Mod_writeWholes_192 : decode b_Mod_writeWholes 192 = .ok (.iconst 0, 1) := by decide +kernel
theorem d_Mod_writeWholes_193 : decode b_Mod_writeWholes 193 = .ok (.istore_n 3, 1) := by decide +kernel
theorem d_Mod_writeWholes_163 : decode b_Mod_writeWholes 163 = .ok (.aload_n 0, 1) := by decide +kernel
theorem d_Mod_writeWholes_164 : decode b_Mod_writeWholes 164 = .ok (.iload_n 3, 1) := by decide +kernel
theorem d_Mod_writeWholes_165 : decode b_Mod_writeWholes 165 = .ok (.invokevirtual 658, 3) := by decide +kernel
theorem d_Mod_writeWholes_168 : decode b_Mod_writeWholes 168 = .ok (.iload_n 3, 1) := by decide +kernel
theorem d_Mod_writeWholes_169 : decode b_Mod_writeWholes 169 = .ok (.if_icmp .ne 17, 3) := by decide +kernel
theorem d_Mod_writeWholes_172 : decode b_Mod_writeWholes 172 = .ok (.aload_n 0, 1) := by decide +kernel
theorem d_Mod_writeWholes_173 : decode b_Mod_writeWholes 173 = .ok (.aload_n 0, 1) := by decide +kernel
theorem d_Mod_writeWholes_174 : decode b_Mod_writeWholes 174 = .ok (.getfield 100, 3) := by decide +kernel
theorem d_Mod_writeWholes_177 : decode b_Mod_writeWholes 177 = .ok (.iload_n 3, 1) := by decide +kernel
theorem d_Mod_writeWholes_178 : decode b_Mod_writeWholes 178 = .ok (.laload, 1) := by decide +kernel
theorem d_Mod_writeWholes_179 : decode b_Mod_writeWholes 179 = .ok (.aload_n 0, 1) := by decide +kernel
theorem d_Mod_writeWholes_180 : decode b_Mod_writeWholes 180 = .ok (.invokevirtual 651, 3) := by decide +kernel
theorem d_Mod_writeWholes_183 : decode b_Mod_writeWholes 183 = .ok (.invokevirtual 654, 3) := by decide +kernel
theorem d_Mod_writeWholes_139 : decode b_Mod_writeWholes 139 = .ok (.iadd, 1) := by decide +kernel
theorem d_Mod_writeWholes_140 : decode b_Mod_writeWholes 140 = .ok (.istore_n 2, 1) := by decide +kernel
theorem d_Mod_writeWholes_141 : decode b_Mod_writeWholes 141 = .ok (.iinc 3 1, 3) := by decide +kernel
theorem d_Mod_writeWholes_144 : decode b_Mod_writeWholes 144 = .ok (.goto (-55), 3) := by decide +kernel
theorem d_Mod_writeWholes_126 : decode b_Mod_writeWholes 126 = .ok (.iastore, 1) := by decide +kernel
theorem d_Mod_writeWholes_127 : decode b_Mod_writeWholes 127 = .ok (.iload_n 2, 1) := by decide +kernel
theorem d_Mod_writeWholes_128 : decode b_Mod_writeWholes 128 = .ok (.iload 4, 2) := by decide +kernel
theorem d_Mod_writeWholes_130 : decode b_Mod_writeWholes 130 = .ok (.iload_n 3, 1) := by decide +kernel
theorem d_Mod_writeWholes_131 : decode b_Mod_writeWholes 131 = .ok (.if_icmp .ne 7, 3) := by decide +kernel
theorem d_Mod_writeWholes_138 : decode b_Mod_writeWholes 138 = .ok (.iconst 0, 1) := by decide +kernel
theorem d_Mod_writeWholes_134 : decode b_Mod_writeWholes 134 = .ok (.iconst 1, 1) := by decide +kernel
theorem d_Mod_writeWholes_135 : decode b_Mod_writeWholes 135 = .ok (.goto 4, 3) := by decide +kernel
theorem d_Mod_writeWholes_89 : decode b_Mod_writeWholes 89 = .ok (.iload_n 3, 1) := by decide +kernel
theorem d_Mod_writeWholes_90 : decode b_Mod_writeWholes 90 = .ok (.aload_n 0, 1) := by decide +kernel
theorem d_Mod_writeWholes_91 : decode b_Mod_writeWholes 91 = .ok (.getfield 632, 3) := by decide +kernel
theorem d_Mod_writeWholes_94 : decode b_Mod_writeWholes 94 = .ok (.if_icmp .ge 53, 3) := by decide +kernel
theorem d_Mod_writeWholes_147 : decode b_Mod_writeWholes 147 = .ok (.aload_n 0, 1) := by decide +kernel
theorem d_Mod_writeWholes_148 : decode b_Mod_writeWholes 148 = .ok (.iload_n 2, 1) := by decide +kernel
theorem d_Mod_writeWholes_149 : decode b_Mod_writeWholes 149 = .ok (.i2l, 1) := by decide +kernel
theorem d_Mod_writeWholes_150 : decode b_Mod_writeWholes 150 = .ok (.invokevirtual 567, 3) := by decide +kernel
theorem d_Mod_writeWholes_153 : decode b_Mod_writeWholes 153 = .ok (.iconst 0, 1) := by decide +kernel
theorem d_Mod_writeWholes_154 : decode b_Mod_writeWholes 154 = .ok (.istore_n 3, 1) := by decide +kernel
theorem d_Mod_writeWholes_97 : decode b_Mod_writeWholes 97 = .ok (.aload_n 0, 1) := by decide +kernel
theorem d_Mod_writeWholes_98 : decode b_Mod_writeWholes 98 = .ok (.iload_n 3, 1) := by decide +kernel
theorem d_Mod_writeWholes_99 : decode b_Mod_writeWholes 99 = .ok (.invokevirtual 658, 3) := by decide +kernel
theorem d_Mod_writeWholes_102 : decode b_Mod_writeWholes 102 = .ok (.istore 4, 2) := by decide +kernel
theorem d_Mod_writeWholes_104 : decode b_Mod_writeWholes 104 = .ok (.aload_n 0, 1) := by decide +kernel
theorem d_Mod_writeWholes_105 : decode b_Mod_writeWholes 105 = .ok (.getfield 142, 3) := by decide +kernel
theorem d_Mod_writeWholes_108 : decode b_Mod_writeWholes 108 = .ok (.iload_n 3, 1) := by decide +kernel
theorem d_Mod_writeWholes_109 : decode b_Mod_writeWholes 109 = .ok (.iload 4, 2) := by decide +kernel
theorem d_Mod_writeWholes_111 : decode b_Mod_writeWholes 111 = .ok (.iload_n 3, 1) := by decide +kernel
theorem d_Mod_writeWholes_112 : decode b_Mod_writeWholes 112 = .ok (.if_icmp .ne 7, 3) := by decide +kernel
theorem d_Mod_writeWholes_119 : decode b_Mod_writeWholes 119 = .ok (.aload_n 0, 1) := by decide +kernel
theorem d_Mod_writeWholes_120 : decode b_Mod_writeWholes 120 = .ok (.getfield 142, 3) := by decide +kernel
theorem d_Mod_writeWholes_123 : decode b_Mod_writeWholes 123 = .ok (.iload 4, 2) := by decide +kernel
theorem d_Mod_writeWholes_125 : decode b_Mod_writeWholes 125 = .ok (.iaload, 1) := by decide +kernel
theorem d_Mod_writeWholes_115 : decode b_Mod_writeWholes 115 = .ok (.iload_n 2, 1) := by decide +kernel
theorem d_Mod_writeWholes_116 : decode b_Mod_writeWholes 116 = .ok (.goto 10, 3) := by decide +kernel
theorem d_Mod_writeWholes_52 : decode b_Mod_writeWholes 52 = .ok (.iload_n 2, 1) := by decide +kernel
theorem d_Mod_writeWholes_53 : decode b_Mod_writeWholes 53 = .ok (.aload_n 0, 1) := by decide +kernel
theorem d_Mod_writeWholes_54 : decode b_Mod_writeWholes 54 = .ok (.getfield 632, 3) := by decide +kernel
theorem d_Mod_writeWholes_57 : decode b_Mod_writeWholes 57 = .ok (.if_icmp .ge 21, 3) := by decide +kernel
theorem d_Mod_writeWholes_78 : decode b_Mod_writeWholes 78 = .ok (.aload_n 0, 1) := by decide +kernel
theorem d_Mod_writeWholes_79 : decode b_Mod_writeWholes 79 = .ok (.invokevirtual 588, 3) := by decide +kernel
theorem d_Mod_writeWholes_82 : decode b_Mod_writeWholes 82 = .ok (.goto 144, 3) := by decide +kernel
theorem d_Mod_writeWholes_60 : decode b_Mod_writeWholes 60 = .ok (.aload_n 0, 1) := by decide +kernel
theorem d_Mod_writeWholes_61 : decode b_Mod_writeWholes 61 = .ok (.getfield 139, 3) := by decide +kernel
theorem d_Mod_writeWholes_64 : decode b_Mod_writeWholes 64 = .ok (.iload_n 2, 1) := by decide +kernel
theorem d_Mod_writeWholes_65 : decode b_Mod_writeWholes 65 = .ok (.aload_n 0, 1) := by decide +kernel
theorem d_Mod_writeWholes_66 : decode b_Mod_writeWholes 66 = .ok (.getfield 100, 3) := by decide +kernel
theorem d_Mod_writeWholes_69 : decode b_Mod_writeWholes 69 = .ok (.iload_n 2, 1) := by decide +kernel
theorem d_Mod_writeWholes_70 : decode b_Mod_writeWholes 70 = .ok (.laload, 1) := by decide +kernel
theorem d_Mod_writeWholes_71 : decode b_Mod_writeWholes 71 = .ok (.lastore, 1) := by decide +kernel
theorem d_Mod_writeWholes_72 : decode b_Mod_writeWholes 72 = .ok (.iinc 2 1, 3) := by decide +kernel
theorem d_Mod_writeWholes_75 : decode b_Mod_writeWholes 75 = .ok (.goto (-23), 3) := by decide +kernel
theorem d_Mod_writeWholes_6 : decode b_Mod_writeWholes 6 = .ok (.iload_n 2, 1) := by decide +kernel
theorem d_Mod_writeWholes_7 : decode b_Mod_writeWholes 7 = .ok (.aload_n 0, 1) := by decide +kernel
theorem d_Mod_writeWholes_8 : decode b_Mod_writeWholes 8 = .ok (.getfield 632, 3) := by decide +kernel
theorem d_Mod_writeWholes_11 : decode b_Mod_writeWholes 11 = .ok (.if_icmp .ge 23, 3) := by decide +kernel
theorem d_Mod_writeWholes_34 : decode b_Mod_writeWholes 34 = .ok (.goto 192, 3) := by decide +kernel
theorem d_Mod_writeWholes_14 : decode b_Mod_writeWholes 14 = .ok (.aload_n 0, 1) := by decide +kernel
theorem d_Mod_writeWholes_15 : decode b_Mod_writeWholes 15 = .ok (.aload_n 0, 1) := by decide +kernel
theorem d_Mod_writeWholes_16 : decode b_Mod_writeWholes 16 = .ok (.getfield 100, 3) := by decide +kernel
theorem d_Mod_writeWholes_19 : decode b_Mod_writeWholes 19 = .ok (.iload_n 2, 1) := by decide +kernel
theorem d_Mod_writeWholes_20 : decode b_Mod_writeWholes 20 = .ok (.laload, 1) := by decide +kernel
theorem d_Mod_writeWholes_21 : decode b_Mod_writeWholes 21 = .ok (.aload_n 0, 1) := by decide +kernel
theorem d_Mod_writeWholes_22 : decode b_Mod_writeWholes 22 = .ok (.invokevirtual 651, 3) := by decide +kernel
theorem d_Mod_writeWholes_25 : decode b_Mod_writeWholes 25 = .ok (.invokevirtual 654, 3) := by decide +kernel
theorem d_Mod_writeWholes_28 : decode b_Mod_writeWholes 28 = .ok (.iinc 2 1, 3) := by decide +kernel
theorem d_Mod_writeWholes_31 : decode b_Mod_writeWholes 31 = .ok (.goto (-25), 3) := by decide +kernel
theorem d_Mod_writeWholes_0 : decode b_Mod_writeWholes 0 = .ok (.iload_n 1, 1) := by decide +kernel
theorem d_Mod_writeWholes_1 : decode b_Mod_writeWholes 1 = .ok (.ifCond .ne 36, 3) := by decide +kernel
theorem d_Mod_writeWholes_37 : decode b_Mod_writeWholes 37 = .ok (.iload_n 1, 1) := by decide +kernel
theorem d_Mod_writeWholes_38 : decode b_Mod_writeWholes 38 = .ok (.iconst 1, 1) := by decide +kernel
theorem d_Mod_writeWholes_39 : decode b_Mod_writeWholes 39 = .ok (.if_icmp .ne 46, 3) := by decide +kernel
theorem d_Mod_writeWholes_85 : decode b_Mod_writeWholes 85 = .ok (.iconst 0, 1) := by decide +kernel
theorem d_Mod_writeWholes_86 : decode b_Mod_writeWholes 86 = .ok (.istore_n 2, 1) := by decide +kernel
theorem d_Mod_writeWholes_87 : decode b_Mod_writeWholes 87 = .ok (.iconst 0, 1) := by decide +kernel
theorem d_Mod_writeWholes_88 : decode b_Mod_writeWholes 88 = .ok (.istore_n 3, 1) := by decide +kernel
theorem d_Mod_writeWholes_42 : decode b_Mod_writeWholes 42 = .ok (.aload_n 0, 1) := by decide +kernel
theorem d_Mod_writeWholes_43 : decode b_Mod_writeWholes 43 = .ok (.aload_n 0, 1) := by decide +kernel
theorem d_Mod_writeWholes_44 : decode b_Mod_writeWholes 44 = .ok (.getfield 632, 3) := by decide +kernel
theorem d_Mod_writeWholes_47 : decode b_Mod_writeWholes 47 = .ok (.putfield 591, 3) := by decide +kernel
theorem d_Mod_writeWholes_50 : decode b_Mod_writeWholes 50 = .ok (.iconst 0, 1) := by decide +kernel
theorem d_Mod_writeWholes_51 : decode b_Mod_writeWholes 51 = .ok (.istore_n 2, 1) := by decide +kernel
theorem d_Mod_writeWholes_4 : decode b_Mod_writeWholes 4 = .ok (.iconst 0, 1) := by decide +kernel
theorem d_Mod_writeWholes_5 : decode b_Mod_writeWholes 5 = .ok (.istore_n 2, 1) := by decide +kernel
theorem d_Mod_lengthOf_0 : decode b_Mod_lengthOf 0 = .ok (.aload_n 0, 1) := by decide +kernel
theorem d_Mod_lengthOf_1 : decode b_Mod_lengthOf 1 = .ok (.getfield 109, 3) := by decide +kernel
theorem d_Mod_lengthOf_4 : decode b_Mod_lengthOf 4 = .ok (.iload_n 1, 1) := by decide +kernel
theorem d_Mod_lengthOf_5 : decode b_Mod_lengthOf 5 = .ok (.iconst 1, 1) := by decide +kernel
theorem d_Mod_lengthOf_6 : decode b_Mod_lengthOf 6 = .ok (.iadd, 1) := by decide +kernel
theorem d_Mod_lengthOf_7 : decode b_Mod_lengthOf 7 = .ok (.iaload, 1) := by decide +kernel
theorem d_Mod_lengthOf_8 : decode b_Mod_lengthOf 8 = .ok (.aload_n 0, 1) := by decide +kernel
theorem d_Mod_lengthOf_9 : decode b_Mod_lengthOf 9 = .ok (.getfield 109, 3) := by decide +kernel
theorem d_Mod_lengthOf_12 : decode b_Mod_lengthOf 12 = .ok (.iload_n 1, 1) := by decide +kernel
theorem d_Mod_lengthOf_13 : decode b_Mod_lengthOf 13 = .ok (.iaload, 1) := by decide +kernel
theorem d_Mod_lengthOf_14 : decode b_Mod_lengthOf 14 = .ok (.isub, 1) := by decide +kernel
theorem d_Mod_lengthOf_15 : decode b_Mod_lengthOf 15 = .ok (.ireturn, 1) := by decide +kernel
theorem d_Mod_writeCode_0 : decode b_Mod_writeCode 0 = .ok (.aload_n 0, 1) := by decide +kernel
theorem d_Mod_writeCode_1 : decode b_Mod_writeCode 1 = .ok (.getfield 547, 3) := by decide +kernel
theorem d_Mod_writeCode_4 : decode b_Mod_writeCode 4 = .ok (.istore_n 1, 1) := by decide +kernel
theorem d_Mod_writeCode_5 : decode b_Mod_writeCode 5 = .ok (.aload_n 0, 1) := by decide +kernel
theorem d_Mod_writeCode_6 : decode b_Mod_writeCode 6 = .ok (.invokevirtual 588, 3) := by decide +kernel
theorem d_Mod_writeCode_9 : decode b_Mod_writeCode 9 = .ok (.aload_n 0, 1) := by decide +kernel
theorem d_Mod_writeCode_10 : decode b_Mod_writeCode 10 = .ok (.getfield 547, 3) := by decide +kernel
theorem d_Mod_writeCode_13 : decode b_Mod_writeCode 13 = .ok (.iload_n 1, 1) := by decide +kernel
theorem d_Mod_writeCode_14 : decode b_Mod_writeCode 14 = .ok (.isub, 1) := by decide +kernel
theorem d_Mod_writeCode_15 : decode b_Mod_writeCode 15 = .ok (.istore_n 2, 1) := by decide +kernel
theorem d_Mod_writeCode_16 : decode b_Mod_writeCode 16 = .ok (.aload_n 0, 1) := by decide +kernel
theorem d_Mod_writeCode_17 : decode b_Mod_writeCode 17 = .ok (.iload_n 1, 1) := by decide +kernel
theorem d_Mod_writeCode_18 : decode b_Mod_writeCode 18 = .ok (.putfield 547, 3) := by decide +kernel
theorem d_Mod_writeCode_21 : decode b_Mod_writeCode 21 = .ok (.aload_n 0, 1) := by decide +kernel
theorem d_Mod_writeCode_22 : decode b_Mod_writeCode 22 = .ok (.iload_n 2, 1) := by decide +kernel
theorem d_Mod_writeCode_23 : decode b_Mod_writeCode 23 = .ok (.i2l, 1) := by decide +kernel
theorem d_Mod_writeCode_24 : decode b_Mod_writeCode 24 = .ok (.invokevirtual 567, 3) := by decide +kernel
theorem d_Mod_writeCode_27 : decode b_Mod_writeCode 27 = .ok (.aload_n 0, 1) := by decide +kernel
theorem d_Mod_writeCode_28 : decode b_Mod_writeCode 28 = .ok (.invokevirtual 588, 3) := by decide +kernel
theorem d_Mod_writeCode_31 : decode b_Mod_writeCode 31 = .ok (.return_, 1) := by decide +kernel
theorem d_Mod_writeLengths_42 : decode b_Mod_writeLengths 42 = .ok (.iload_n 1, 1) := by decide +kernel
theorem d_Mod_writeLengths_43 : decode b_Mod_writeLengths 43 = .ok (.aload_n 0, 1) := by decide +kernel
theorem d_Mod_writeLengths_44 : decode b_Mod_writeLengths 44 = .ok (.getfield 109, 3) := by decide +kernel
theorem d_Mod_writeLengths_47 : decode b_Mod_writeLengths 47 = .ok (.aload_n 0, 1) := by decide +kernel
theorem d_Mod_writeLengths_48 : decode b_Mod_writeLengths 48 = .ok (.getfield 632, 3) := by decide +kernel
theorem d_Mod_writeLengths_51 : decode b_Mod_writeLengths 51 = .ok (.iaload, 1) := by decide +kernel
theorem d_Mod_writeLengths_52 : decode b_Mod_writeLengths 52 = .ok (.if_icmp .ge 19, 3) := by decide +kernel
theorem d_Mod_writeLengths_71 : decode b_Mod_writeLengths 71 = .ok (.return_, 1) := by decide +kernel
theorem d_Mod_writeLengths_55 : decode b_Mod_writeLengths 55 = .ok (.aload_n 0, 1) := by decide +kernel
theorem d_Mod_writeLengths_56 : decode b_Mod_writeLengths 56 = .ok (.aload_n 0, 1) := by decide +kernel
theorem d_Mod_writeLengths_57 : decode b_Mod_writeLengths 57 = .ok (.getfield 118, 3) := by decide +kernel
theorem d_Mod_writeLengths_60 : decode b_Mod_writeLengths 60 = .ok (.iload_n 1, 1) := by decide +kernel
theorem d_Mod_writeLengths_61 : decode b_Mod_writeLengths 61 = .ok (.iaload, 1) := by decide +kernel
theorem d_Mod_writeLengths_62 : decode b_Mod_writeLengths 62 = .ok (.invokevirtual 558, 3) := by decide +kernel
theorem d_Mod_writeLengths_65 : decode b_Mod_writeLengths 65 = .ok (.iinc 1 1, 3) := by decide +kernel
theorem d_Mod_writeLengths_68 : decode b_Mod_writeLengths 68 = .ok (.goto (-26), 3) := by decide +kernel
theorem d_Mod_writeLengths_10 : decode b_Mod_writeLengths 10 = .ok (.iload_n 1, 1) := by decide +kernel
theorem d_Mod_writeLengths_11 : decode b_Mod_writeLengths 11 = .ok (.aload_n 0, 1) := by decide +kernel
theorem d_Mod_writeLengths_12 : decode b_Mod_writeLengths 12 = .ok (.getfield 632, 3) := by decide +kernel
theorem d_Mod_writeLengths_15 : decode b_Mod_writeLengths 15 = .ok (.if_icmp .ge 21, 3) := by decide +kernel
theorem d_Mod_writeLengths_36 : decode b_Mod_writeLengths 36 = .ok (.aload_n 0, 1) := by decide +kernel
theorem d_Mod_writeLengths_37 : decode b_Mod_writeLengths 37 = .ok (.invokevirtual 635, 3) := by decide +kernel
theorem d_Mod_writeLengths_40 : decode b_Mod_writeLengths 40 = .ok (.iconst 0, 1) := by decide +kernel
theorem d_Mod_writeLengths_41 : decode b_Mod_writeLengths 41 = .ok (.istore_n 1, 1) := by decide +kernel
theorem d_Mod_writeLengths_18 : decode b_Mod_writeLengths 18 = .ok (.aload_n 0, 1) := by decide +kernel
theorem d_Mod_writeLengths_19 : decode b_Mod_writeLengths 19 = .ok (.getfield 139, 3) := by decide +kernel
theorem d_Mod_writeLengths_22 : decode b_Mod_writeLengths 22 = .ok (.iload_n 1, 1) := by decide +kernel
theorem d_Mod_writeLengths_23 : decode b_Mod_writeLengths 23 = .ok (.aload_n 0, 1) := by decide +kernel
theorem d_Mod_writeLengths_24 : decode b_Mod_writeLengths 24 = .ok (.iload_n 1, 1) := by decide +kernel
theorem d_Mod_writeLengths_25 : decode b_Mod_writeLengths 25 = .ok (.invokevirtual 626, 3) := by decide +kernel
theorem d_Mod_writeLengths_28 : decode b_Mod_writeLengths 28 = .ok (.i2l, 1) := by decide +kernel
theorem d_Mod_writeLengths_29 : decode b_Mod_writeLengths 29 = .ok (.lastore, 1) := by decide +kernel
theorem d_Mod_writeLengths_30 : decode b_Mod_writeLengths 30 = .ok (.iinc 1 1, 3) := by decide +kernel
theorem d_Mod_writeLengths_33 : decode b_Mod_writeLengths 33 = .ok (.goto (-23), 3) := by decide +kernel
theorem d_Mod_writeLengths_0 : decode b_Mod_writeLengths 0 = .ok (.aload_n 0, 1) := by decide +kernel
theorem d_Mod_writeLengths_1 : decode b_Mod_writeLengths 1 = .ok (.aload_n 0, 1) := by decide +kernel
theorem d_Mod_writeLengths_2 : decode b_Mod_writeLengths 2 = .ok (.getfield 632, 3) := by decide +kernel
theorem d_Mod_writeLengths_5 : decode b_Mod_writeLengths 5 = .ok (.putfield 591, 3) := by decide +kernel
theorem d_Mod_writeLengths_8 : decode b_Mod_writeLengths 8 = .ok (.iconst 0, 1) := by decide +kernel
theorem d_Mod_writeLengths_9 : decode b_Mod_writeLengths 9 = .ok (.istore_n 1, 1) := by decide +kernel
theorem d_Mod_inCommon_63 : decode b_Mod_inCommon 63 = .ok (.iload_n 2, 1) := by decide +kernel
theorem d_Mod_inCommon_64 : decode b_Mod_inCommon 64 = .ok (.ireturn, 1) := by decide +kernel
theorem d_Mod_inCommon_2 : decode b_Mod_inCommon 2 = .ok (.iload_n 1, 1) := by decide +kernel
theorem d_Mod_inCommon_3 : decode b_Mod_inCommon 3 = .ok (.ifCond .le 60, 3) := by decide +kernel
theorem d_Mod_inCommon_6 : decode b_Mod_inCommon 6 = .ok (.iload_n 2, 1) := by decide +kernel
theorem d_Mod_inCommon_7 : decode b_Mod_inCommon 7 = .ok (.aload_n 0, 1) := by decide +kernel
theorem d_Mod_inCommon_8 : decode b_Mod_inCommon 8 = .ok (.iload_n 1, 1) := by decide +kernel
theorem d_Mod_inCommon_9 : decode b_Mod_inCommon 9 = .ok (.invokevirtual 626, 3) := by decide +kernel
theorem d_Mod_inCommon_12 : decode b_Mod_inCommon 12 = .ok (.if_icmp .ge 51, 3) := by decide +kernel
theorem d_Mod_inCommon_15 : decode b_Mod_inCommon 15 = .ok (.iload_n 2, 1) := by decide +kernel
theorem d_Mod_inCommon_16 : decode b_Mod_inCommon 16 = .ok (.aload_n 0, 1) := by decide +kernel
theorem d_Mod_inCommon_17 : decode b_Mod_inCommon 17 = .ok (.iload_n 1, 1) := by decide +kernel
theorem d_Mod_inCommon_18 : decode b_Mod_inCommon 18 = .ok (.iconst 1, 1) := by decide +kernel
theorem d_Mod_inCommon_19 : decode b_Mod_inCommon 19 = .ok (.isub, 1) := by decide +kernel
theorem d_Mod_inCommon_20 : decode b_Mod_inCommon 20 = .ok (.invokevirtual 626, 3) := by decide +kernel
theorem d_Mod_inCommon_23 : decode b_Mod_inCommon 23 = .ok (.if_icmp .ge 40, 3) := by decide +kernel
theorem d_Mod_inCommon_26 : decode b_Mod_inCommon 26 = .ok (.aload_n 0, 1) := by decide +kernel
theorem d_Mod_inCommon_27 : decode b_Mod_inCommon 27 = .ok (.getfield 118, 3) := by decide +kernel
theorem d_Mod_inCommon_30 : decode b_Mod_inCommon 30 = .ok (.aload_n 0, 1) := by decide +kernel
theorem d_Mod_inCommon_31 : decode b_Mod_inCommon 31 = .ok (.getfield 109, 3) := by decide +kernel
theorem d_Mod_inCommon_34 : decode b_Mod_inCommon 34 = .ok (.iload_n 1, 1) := by decide +kernel
theorem d_Mod_inCommon_35 : decode b_Mod_inCommon 35 = .ok (.iaload, 1) := by decide +kernel
theorem d_Mod_inCommon_36 : decode b_Mod_inCommon 36 = .ok (.iload_n 2, 1) := by decide +kernel
theorem d_Mod_inCommon_37 : decode b_Mod_inCommon 37 = .ok (.iadd, 1) := by decide +kernel
theorem d_Mod_inCommon_38 : decode b_Mod_inCommon 38 = .ok (.iaload, 1) := by decide +kernel
theorem d_Mod_inCommon_39 : decode b_Mod_inCommon 39 = .ok (.aload_n 0, 1) := by decide +kernel
theorem d_Mod_inCommon_40 : decode b_Mod_inCommon 40 = .ok (.getfield 118, 3) := by decide +kernel
theorem d_Mod_inCommon_43 : decode b_Mod_inCommon 43 = .ok (.aload_n 0, 1) := by decide +kernel
theorem d_Mod_inCommon_44 : decode b_Mod_inCommon 44 = .ok (.getfield 109, 3) := by decide +kernel
theorem d_Mod_inCommon_47 : decode b_Mod_inCommon 47 = .ok (.iload_n 1, 1) := by decide +kernel
theorem d_Mod_inCommon_48 : decode b_Mod_inCommon 48 = .ok (.iconst 1, 1) := by decide +kernel
theorem d_Mod_inCommon_49 : decode b_Mod_inCommon 49 = .ok (.isub, 1) := by decide +kernel
theorem d_Mod_inCommon_50 : decode b_Mod_inCommon 50 = .ok (.iaload, 1) := by decide +kernel
theorem d_Mod_inCommon_51 : decode b_Mod_inCommon 51 = .ok (.iload_n 2, 1) := by decide +kernel
theorem d_Mod_inCommon_52 : decode b_Mod_inCommon 52 = .ok (.iadd, 1) := by decide +kernel
theorem d_Mod_inCommon_53 : decode b_Mod_inCommon 53 = .ok (.iaload, 1) := by decide +kernel
theorem d_Mod_inCommon_54 : decode b_Mod_inCommon 54 = .ok (.if_icmp .ne 9, 3) := by decide +kernel
theorem d_Mod_inCommon_57 : decode b_Mod_inCommon 57 = .ok (.iinc 2 1, 3) := by decide +kernel
theorem d_Mod_inCommon_60 : decode b_Mod_inCommon 60 = .ok (.goto (-58), 3) := by decide +kernel
theorem d_Mod_inCommon_0 : decode b_Mod_inCommon 0 = .ok (.iconst 0, 1) := by decide +kernel
theorem d_Mod_inCommon_1 : decode b_Mod_inCommon 1 = .ok (.istore_n 2, 1) := by decide +kernel
section
variable (l : Launch) (dC : Nat → ClassId) (dI : Nat → Nat → Nat) (cI cB cJ cZ : ClassId)
set_option maxRecDepth 100000 in
def j_Mod_firstWhole_2 (post : Int32 → St → Prop) (rec2 : Int32 → Int32 → St → Prop) (l1 : Int32) (l2 : Int32) (x : St) : Prop := (vp_in l2 (fN x 30) ∧ (vp_in l1 (fN x 30) ∧ (((lg_cmp (rL x 30 l2) (rL x 30 l1)) = 0 → post l2 x) ∧ (¬ (lg_cmp (rL x 30 l2) (rL x 30 l1)) = 0 → rec2 l1 (l2 + 1) x))))
set_option maxHeartbeats 4000000 in
set_option maxRecDepth 100000 in
theorem t_Mod_firstWhole_2 {p : Program} {l : Launch} {e : Env} {R : Room} {s : State} {m : MethodId} {args : Array Value} {below : List Frame} {meth : Method} {c : Code} {cells slots : Nat} {Q : State → Prop} {dC : Nat → ClassId} {dI : Nat → Nat → Nat} {cI cB cJ cZ : ClassId} {A : Nat → Prop} {ad : Nat → Nat} {post : Int32 → St → Prop} {rec2 : Int32 → Int32 → St → Prop} (hx : p.tables.exec = Jvm.exec) (hb : c.code = b_Mod_firstWhole) (hml : c.maxLocals = 3) (hown : s.vm.findClass R_Mod = some m.cls) (hT : ∀ w ∈ TG, w.before args s = true) (hK : va_K (dC, dI) CL (TY cI cB cJ cZ) s) (hN : NW s) (hA : ∀ q : Nat, s.heap.size ≤ q → A q) (hRc : cells ≤ R.cells) (hRs : slots ≤ R.slots) (hRf : 0 ≤ R.frames) (hRl : 0 ≤ R.locals) (hret : ∀ (r : Int32) (x : St) (H : Heap) (locs : List Loc) (pc : Nat) (ls : Array Slot), decode b_Mod_firstWhole pc = .ok (.ireturn, 1) → post r x → Wd dC dI cI cB cJ cZ ad stM kcM 115 A x H → va_S A s.heap H locs → W p l e R s m args below meth c H locs cells slots Q (F0 m pc ls [.int r])) (hrec2 : ∀ (l1 : Int32) (l2 : Int32) (x : St) (H : Heap) (locs : List Loc) (ls : Array Slot), rec2 l1 l2 x → Wd dC dI cI cB cJ cZ ad stM kcM 115 A x H → va_S A s.heap H locs → lv_has ls 3 [(0, .ref (ad 0)), (1, .int l1), (2, .int l2)] → W p l e R s m args below meth c H locs cells slots Q (F0 m 2 ls [])) : ∀ (l1 : Int32) (l2 : Int32) (x : St) (H : Heap) (locs : List Loc) (ls : Array Slot), j_Mod_firstWhole_2 post rec2 l1 l2 x → Wd dC dI cI cB cJ cZ ad stM kcM 115 A x H → va_S A s.heap H locs → lv_has ls 3 [(0, .ref (ad 0)), (1, .int l1), (2, .int l2)] → W p l e R s m args below meth c H locs cells slots Q (F0 m 2 ls []) := by
  intro l1 l2 x H locs ls  hw hW hS hl
  unfold j_Mod_firstWhole_2 at hw
  refine lv_aload_n hx hb d_Mod_firstWhole_2 rfl (lv_at hl 0 rfl) ?_
  refine w_getf (q := 30) (k := 49) (t := 12) (C := R_Mod) (T := F_Mod) (N := 167) hx hb hT hown hK hW ko_0.1 ko_0.2 (by decide) in_Mod rfl rfl (by decide) rfl fr_Mod_49 w_8_229 d_Mod_firstWhole_3 rfl ?_
  refine lv_iload_n hx hb d_Mod_firstWhole_6 rfl (lv_at hl 2 rfl) ?_
  obtain ⟨hi, hw⟩ := hw
  refine w_lald (o := 30) hx hb hK hW ko_30.1 ko_30.2 hi d_Mod_firstWhole_7 ?_
  refine lv_aload_n hx hb d_Mod_firstWhole_8 rfl (lv_at hl 0 rfl) ?_
  refine w_getf (q := 30) (k := 49) (t := 12) (C := R_Mod) (T := F_Mod) (N := 167) hx hb hT hown hK hW ko_0.1 ko_0.2 (by decide) in_Mod rfl rfl (by decide) rfl fr_Mod_49 w_8_229 d_Mod_firstWhole_9 rfl ?_
  refine lv_iload_n hx hb d_Mod_firstWhole_12 rfl (lv_at hl 1 rfl) ?_
  obtain ⟨hi, hw⟩ := hw
  refine w_lald (o := 30) hx hb hK hW ko_30.1 ko_30.2 hi d_Mod_firstWhole_13 ?_
  refine W.lcmp hx hb d_Mod_firstWhole_14 ?_
  refine lv_if_eq (tgt := 24) hx hb d_Mod_firstWhole_15 (by decide) (fun c582 => ?_) (fun c582 => ?_)
  · have hw := hw.1 c582
    refine lv_iload_n hx hb d_Mod_firstWhole_24 rfl (lv_at hl 2 rfl) ?_
    exact hret l2 x H locs 25 ls d_Mod_firstWhole_25 hw hW hS
  · have hw := hw.2 c582
    refine lv_iinc (v := (l2 + 1)) (lv' := [(2, .int (l2 + 1)), (0, .ref (ad 0)), (1, .int l1)]) hx hb d_Mod_firstWhole_18 hl (k := 2) rfl rfl (by decide) rfl (fun ls hl => ?_)
    refine lv_goto (tgt := 2) hx hb d_Mod_firstWhole_21 (by decide) ?_
    exact hrec2 l1 (l2 + 1) x H locs ls  hw hW hS (lv_sub hl [1, 2, 0] rfl)
def wl_Mod_firstWhole_2 (post : Int32 → St → Prop) : Nat → Int32 → Int32 → St → Prop
  | 0 => fun _ _ _ => False
  | n + 1 => j_Mod_firstWhole_2 post (wl_Mod_firstWhole_2 post n)
set_option maxHeartbeats 4000000 in
set_option maxRecDepth 100000 in
theorem tl_Mod_firstWhole_2 {p : Program} {l : Launch} {e : Env} {R : Room} {s : State} {m : MethodId} {args : Array Value} {below : List Frame} {meth : Method} {c : Code} {cells slots : Nat} {Q : State → Prop} {dC : Nat → ClassId} {dI : Nat → Nat → Nat} {cI cB cJ cZ : ClassId} {A : Nat → Prop} {ad : Nat → Nat} {post : Int32 → St → Prop} (hx : p.tables.exec = Jvm.exec) (hb : c.code = b_Mod_firstWhole) (hml : c.maxLocals = 3) (hown : s.vm.findClass R_Mod = some m.cls) (hT : ∀ w ∈ TG, w.before args s = true) (hK : va_K (dC, dI) CL (TY cI cB cJ cZ) s) (hN : NW s) (hA : ∀ q : Nat, s.heap.size ≤ q → A q) (hRc : cells ≤ R.cells) (hRs : slots ≤ R.slots) (hRf : 0 ≤ R.frames) (hRl : 0 ≤ R.locals) (hret : ∀ (r : Int32) (x : St) (H : Heap) (locs : List Loc) (pc : Nat) (ls : Array Slot), decode b_Mod_firstWhole pc = .ok (.ireturn, 1) → post r x → Wd dC dI cI cB cJ cZ ad stM kcM 115 A x H → va_S A s.heap H locs → W p l e R s m args below meth c H locs cells slots Q (F0 m pc ls [.int r]))  : ∀ n : Nat, ∀ (l1 : Int32) (l2 : Int32) (x : St) (H : Heap) (locs : List Loc) (ls : Array Slot), wl_Mod_firstWhole_2 post n l1 l2 x → Wd dC dI cI cB cJ cZ ad stM kcM 115 A x H → va_S A s.heap H locs → lv_has ls 3 [(0, .ref (ad 0)), (1, .int l1), (2, .int l2)] → W p l e R s m args below meth c H locs cells slots Q (F0 m 2 ls []) := by
  intro n
  induction n with
  | zero => intro l1 l2 x H locs ls  hw; exact hw.elim
  | succ n ih => intro l1 l2 x H locs ls  hw hW hS hl; exact t_Mod_firstWhole_2 hx hb hml hown hT hK hN hA hRc hRs hRf hRl hret  ih l1 l2 x H locs ls  hw hW hS hl
set_option maxRecDepth 100000 in
def wp_Mod_firstWhole (post : Int32 → St → Prop) (l1 : Int32) (x : St) : Prop := ∃ n : Nat, wl_Mod_firstWhole_2 post n l1 0 x
set_option maxHeartbeats 4000000 in
set_option maxRecDepth 100000 in
theorem t_Mod_firstWhole_e {p : Program} {l : Launch} {e : Env} {R : Room} {s : State} {m : MethodId} {args : Array Value} {below : List Frame} {meth : Method} {c : Code} {cells slots : Nat} {Q : State → Prop} {dC : Nat → ClassId} {dI : Nat → Nat → Nat} {cI cB cJ cZ : ClassId} {A : Nat → Prop} {ad : Nat → Nat} {post : Int32 → St → Prop} (hx : p.tables.exec = Jvm.exec) (hb : c.code = b_Mod_firstWhole) (hml : c.maxLocals = 3) (hown : s.vm.findClass R_Mod = some m.cls) (hT : ∀ w ∈ TG, w.before args s = true) (hK : va_K (dC, dI) CL (TY cI cB cJ cZ) s) (hN : NW s) (hA : ∀ q : Nat, s.heap.size ≤ q → A q) (hRc : cells ≤ R.cells) (hRs : slots ≤ R.slots) (hRf : 0 ≤ R.frames) (hRl : 0 ≤ R.locals) (hret : ∀ (r : Int32) (x : St) (H : Heap) (locs : List Loc) (pc : Nat) (ls : Array Slot), decode b_Mod_firstWhole pc = .ok (.ireturn, 1) → post r x → Wd dC dI cI cB cJ cZ ad stM kcM 115 A x H → va_S A s.heap H locs → W p l e R s m args below meth c H locs cells slots Q (F0 m pc ls [.int r])) : ∀ (l1 : Int32) (x : St) (H : Heap) (locs : List Loc) (ls : Array Slot), wp_Mod_firstWhole post l1 x → Wd dC dI cI cB cJ cZ ad stM kcM 115 A x H → va_S A s.heap H locs → lv_has ls 3 [(0, .ref (ad 0)), (1, .int l1)] → W p l e R s m args below meth c H locs cells slots Q (F0 m 0 ls []) := by
  intro l1 x H locs ls  hw hW hS hl
  unfold wp_Mod_firstWhole at hw
  refine lv_iconst (v := 0) hx hb d_Mod_firstWhole_0 (by decide) ?_
  refine lv_istore_n (lv' := [(2, .int 0), (0, .ref (ad 0)), (1, .int l1)]) hx hb d_Mod_firstWhole_1 rfl hl (by decide) rfl (fun ls hl => ?_)
  obtain ⟨n, hw⟩ := hw
  exact tl_Mod_firstWhole_2 hx hb hml hown hT hK hN hA hRc hRs hRf hRl hret  n l1 0 x H locs ls  hw hW hS (lv_sub hl [1, 2, 0] rfl)
set_option maxHeartbeats 4000000 in
set_option maxRecDepth 100000 in
theorem k_Mod_firstWhole (l : Launch) (dC : Nat → ClassId) (dI : Nat → Nat → Nat) (cI cB cJ cZ : ClassId) (ad : Nat → Nat) (sz : Nat) (l1 : Int32) (x : St) {post : Int32 → St → Prop} (hw : wp_Mod_firstWhole post l1 x) : Met l y_Mod_firstWhole (wsOf y_Mod_firstWhole b_Mod_firstWhole 3 (some (.int))) ({ frames := 0, cells := 0, slots := 0, locals := 0 }) (va_Pc [.ref (ad 0), .int l1] (PW dC dI cI cB cJ cZ ad stM kcM 115 sz x)) (va_Qi (fun (r : Int32) (y : St) => post r y) (fun y t => Wd dC dI cI cB cJ cZ ad stM kcM 115 (va_A (pic ad stM kcM 115 cI cB cJ cZ x) sz) y t.heap) (va_A (pic ad stM kcM 115 cI cB cJ cZ x) sz)) 0 0 (va_A (pic ad stM kcM 115 cI cB cJ cZ x) sz) := by
  refine Met.ofW (cc := b_Mod_firstWhole) (maxL := 3) (ret := some (.int)) (by decide) rfl ?_
  intro p e s m args below meth c s₁ B hml hv
  obtain ⟨rfl, hsz, hW0, hK, hN⟩ := hv
  have hx := B.exec
  have hb := B.bytes
  have hr := B.returns
  have hts := atoms_spec B.pre
  have hT : ∀ w ∈ TG, w.before _ s = true := fun w h => hts w (List.mem_cons_of_mem _ h)
  have hown : s.vm.findClass R_Mod = some m.cls := findClass_of_methodNamed B.named
  have hlocks := B.notSynchronized
  subst hsz
  have hW : Wd dC dI cI cB cJ cZ ad stM kcM 115 (va_A (pic ad stM kcM 115 cI cB cJ cZ x) s.heap.size) x s.heap := ⟨hW0.1, hW0.2.1.self (sz := s.heap.size), hW0.2.2⟩
  generalize hAe : va_A (pic ad stM kcM 115 cI cB cJ cZ x) s.heap.size = A at hW ⊢
  have hA : ∀ q : Nat, s.heap.size ≤ q → A q := fun q h => by rw [← hAe]; exact Or.inr h
  have hS : va_S A s.heap s.heap [] := va_S.rf
  have hl := lv_entry ([.ref (ad 0), .int l1]) (n := 3) (Nat.le_of_ble_eq_true rfl)
  rw [lg_entry_eq]
  generalize (lg_sl ([.ref (ad 0), .int l1]) ++ List.replicate (3 - (lg_sl ([.ref (ad 0), .int l1])).length) Slot.unset).toArray = ls at hl ⊢
  have hl : lv_has ls 3 [(0, .ref (ad 0)), (1, .int l1)] := hl
  exact t_Mod_firstWhole_e hx hb hml hown hT hK hN hA (Nat.le_refl 0) (Nat.le_refl 0) (Nat.le_refl 0) (Nat.le_refl 0) (fun r x H locs pc ls hd hp hW hS => W.iret (v := r) hx hb hr (fun t ht hM => ⟨⟨r, x, rfl, hp, Wd.back hW ht.symm (fun _ z => z)⟩, hS.F ht⟩) hS.2.2 hd hlocks)  l1 x _ _ ls  hw hW hS hl
set_option maxRecDepth 100000 in
def j_Mod_writeWholes_194 (post : St → Prop) (rec194 : Int32 → Int32 → Int32 → St → Prop) (l1 : Int32) (l2 : Int32) (l3 : Int32) (x : St) : Prop := ((((l2 - 1) >>> (l3 &&& 31)) ≤ 0 → wp_Mod_put (fun (x584 : St) => wp_Mod_writeRuns (fun (x585 : St) => post x585) 44 (fI x584 0 42) l3 x584) l3 x) ∧ (¬ ((l2 - 1) >>> (l3 &&& 31)) ≤ 0 → rec194 l1 l2 (l3 + 1) x))
set_option maxHeartbeats 4000000 in
set_option maxRecDepth 100000 in
theorem t_Mod_writeWholes_194 {p : Program} {l : Launch} {e : Env} {R : Room} {s : State} {m : MethodId} {args : Array Value} {below : List Frame} {meth : Method} {c : Code} {cells slots : Nat} {Q : State → Prop} {dC : Nat → ClassId} {dI : Nat → Nat → Nat} {cI cB cJ cZ : ClassId} {A : Nat → Prop} {ad : Nat → Nat} {post : St → Prop} {rec194 : Int32 → Int32 → Int32 → St → Prop} (hx : p.tables.exec = Jvm.exec) (hb : c.code = b_Mod_writeWholes) (hml : c.maxLocals = 5) (hown : s.vm.findClass R_Mod = some m.cls) (hT : ∀ w ∈ TG, w.before args s = true) (hK : va_K (dC, dI) CL (TY cI cB cJ cZ) s) (hN : NW s) (hA : ∀ q : Nat, s.heap.size ≤ q → A q) (hRc : cells ≤ R.cells) (hRs : slots ≤ R.slots) (hRf : 3 ≤ R.frames) (hRl : 75 ≤ R.locals) (hret : ∀ (x : St) (H : Heap) (locs : List Loc) (pc : Nat) (ls : Array Slot), decode b_Mod_writeWholes pc = .ok (.return_, 1) → post x → Wd dC dI cI cB cJ cZ ad stM kcM 115 A x H → va_S A s.heap H locs → W p l e R s m args below meth c H locs cells slots Q (F0 m pc ls [])) (hrec194 : ∀ (l1 : Int32) (l2 : Int32) (l3 : Int32) (x : St) (H : Heap) (locs : List Loc) (ls : Array Slot), rec194 l1 l2 l3 x → Wd dC dI cI cB cJ cZ ad stM kcM 115 A x H → va_S A s.heap H locs → lv_has ls 5 [(0, .ref (ad 0)), (1, .int l1), (2, .int l2), (3, .int l3)] → W p l e R s m args below meth c H locs cells slots Q (F0 m 194 ls [])) : ∀ (l1 : Int32) (l2 : Int32) (l3 : Int32) (x : St) (H : Heap) (locs : List Loc) (ls : Array Slot), j_Mod_writeWholes_194 post rec194 l1 l2 l3 x → Wd dC dI cI cB cJ cZ ad stM kcM 115 A x H → va_S A s.heap H locs → lv_has ls 5 [(0, .ref (ad 0)), (1, .int l1), (2, .int l2), (3, .int l3)] → W p l e R s m args below meth c H locs cells slots Q (F0 m 194 ls []) := by
  intro l1 l2 l3 x H locs ls  hw hW hS hl
  unfold j_Mod_writeWholes_194 at hw
  refine lv_iload_n hx hb d_Mod_writeWholes_194 rfl (lv_at hl 2 rfl) ?_
  refine lv_iconst (v := 1) hx hb d_Mod_writeWholes_195 (by decide) ?_
  refine lv_isub hx hb d_Mod_writeWholes_196 ?_
  refine lv_iload_n hx hb d_Mod_writeWholes_197 rfl (lv_at hl 3 rfl) ?_
  refine lv_ishr hx hb d_Mod_writeWholes_198 ?_
  refine lv_if_le (tgt := 208) hx hb d_Mod_writeWholes_199 (by decide) (fun c583 => ?_) (fun c583 => ?_)
  · have hw := hw.1 c583
    refine lv_aload_n hx hb d_Mod_writeWholes_208 rfl (lv_at hl 0 rfl) ?_
    refine lv_iload_n hx hb d_Mod_writeWholes_209 rfl (lv_at hl 3 rfl) ?_
    have hF := hW.free hS hA
    refine va_callv (va_runV (C := R_Mod) (As := [.int l3]) (rest := []) ⟨hx, hb, hml, hown, hT⟩ (k_Mod_put l dC dI cI cB cJ cZ ad H.size l3 x  hw) ⟨callB_of 1 hT (gw_in w_11_203) rfl rfl rfl (hT _ w_1_15) (hT _ w_11_200) (by decide +kernel) ⟨Nat.le_trans (by decide) hRf, Nat.le_trans (by decide) hRl⟩, hT _ w_11_202, hT _ ws_154⟩ ⟨PW.blind, va_recv hK hW.1 (ci := 12) (q0 := 0) rfl (pic_obj ko_0.1 ko_0.2 (by decide)), PW.at _ hW hK hN⟩ rfl rfl hl.1 rfl (lv_room (Nat.le_of_ble_eq_true rfl)) d_Mod_writeWholes_210 ⟨hRc, hRs⟩) hS (fun q _ h => hF q h) hF (fun  x584 t H locs ht hvm hw hB hz1 hk1 hS => ?_)
    have hW := Wd.back hB ht hF
    clear hB ht hF hz1 hk1 hvm
    refine lv_aload_n hx hb d_Mod_writeWholes_213 rfl (lv_at hl 0 rfl) ?_
    refine lv_aload_n hx hb d_Mod_writeWholes_214 rfl (lv_at hl 0 rfl) ?_
    refine w_getf (q := 44) (k := 72) (t := 12) (C := R_Mod) (T := F_Mod) (N := 167) hx hb hT hown hK hW ko_0.1 ko_0.2 (by decide) in_Mod rfl rfl (by decide) rfl fr_Mod_72 w_9_12 d_Mod_writeWholes_215 rfl ?_
    refine lv_aload_n hx hb d_Mod_writeWholes_218 rfl (lv_at hl 0 rfl) ?_
    refine w_geti (k := 42) (t := 12) (C := R_Mod) (T := F_Mod) (N := 167) hx hb hT hown hK hW ko_0.1 ko_0.2 (by decide) in_Mod rfl rfl (by decide) rfl fr_Mod_42 w_8_222 d_Mod_writeWholes_219 ?_
    refine lv_iload_n hx hb d_Mod_writeWholes_222 rfl (lv_at hl 3 rfl) ?_
    have hF := hW.free hS hA
    refine va_callv (va_runV (C := R_Mod) (As := [.ref (ad 44), .int (fI x584 0 42), .int l3]) (rest := []) ⟨hx, hb, hml, hown, hT⟩ (k_Mod_writeRuns l dC dI cI cB cJ cZ ad H.size 44 (fI x584 0 42) l3 x584 ko_44 hw) ⟨callB_of 3 hT (gw_in w_11_190) rfl rfl rfl (hT _ w_1_15) (hT _ w_11_187) (by decide +kernel) ⟨Nat.le_trans (by decide) hRf, Nat.le_trans (by decide) hRl⟩, hT _ w_11_189, hT _ ws_152⟩ ⟨PW.blind, va_recv hK hW.1 (ci := 12) (q0 := 0) rfl (pic_obj ko_0.1 ko_0.2 (by decide)), PW.at _ hW hK hN⟩ rfl rfl hl.1 rfl (lv_room (Nat.le_of_ble_eq_true rfl)) d_Mod_writeWholes_223 ⟨hRc, hRs⟩) hS (fun q _ h => hF q h) hF (fun  x585 t H locs ht hvm hw hB hz1 hk1 hS => ?_)
    have hW := Wd.back hB ht hF
    clear hB ht hF hz1 hk1 hvm
    exact hret x585 H locs 226 ls d_Mod_writeWholes_226 hw hW hS
  · have hw := hw.2 c583
    refine lv_iinc (v := (l3 + 1)) (lv' := [(3, .int (l3 + 1)), (0, .ref (ad 0)), (1, .int l1), (2, .int l2)]) hx hb d_Mod_writeWholes_202 hl (k := 3) rfl rfl (by decide) rfl (fun ls hl => ?_)
    refine lv_goto (tgt := 194) hx hb d_Mod_writeWholes_205 (by decide) ?_
    exact hrec194 l1 l2 (l3 + 1) x H locs ls  hw hW hS (lv_sub hl [1, 2, 3, 0] rfl)
def wl_Mod_writeWholes_194 (post : St → Prop) : Nat → Int32 → Int32 → Int32 → St → Prop
  | 0 => fun _ _ _ _ => False
  | n + 1 => j_Mod_writeWholes_194 post (wl_Mod_writeWholes_194 post n)
set_option maxHeartbeats 4000000 in
set_option maxRecDepth 100000 in
theorem tl_Mod_writeWholes_194 {p : Program} {l : Launch} {e : Env} {R : Room} {s : State} {m : MethodId} {args : Array Value} {below : List Frame} {meth : Method} {c : Code} {cells slots : Nat} {Q : State → Prop} {dC : Nat → ClassId} {dI : Nat → Nat → Nat} {cI cB cJ cZ : ClassId} {A : Nat → Prop} {ad : Nat → Nat} {post : St → Prop} (hx : p.tables.exec = Jvm.exec) (hb : c.code = b_Mod_writeWholes) (hml : c.maxLocals = 5) (hown : s.vm.findClass R_Mod = some m.cls) (hT : ∀ w ∈ TG, w.before args s = true) (hK : va_K (dC, dI) CL (TY cI cB cJ cZ) s) (hN : NW s) (hA : ∀ q : Nat, s.heap.size ≤ q → A q) (hRc : cells ≤ R.cells) (hRs : slots ≤ R.slots) (hRf : 3 ≤ R.frames) (hRl : 75 ≤ R.locals) (hret : ∀ (x : St) (H : Heap) (locs : List Loc) (pc : Nat) (ls : Array Slot), decode b_Mod_writeWholes pc = .ok (.return_, 1) → post x → Wd dC dI cI cB cJ cZ ad stM kcM 115 A x H → va_S A s.heap H locs → W p l e R s m args below meth c H locs cells slots Q (F0 m pc ls []))  : ∀ n : Nat, ∀ (l1 : Int32) (l2 : Int32) (l3 : Int32) (x : St) (H : Heap) (locs : List Loc) (ls : Array Slot), wl_Mod_writeWholes_194 post n l1 l2 l3 x → Wd dC dI cI cB cJ cZ ad stM kcM 115 A x H → va_S A s.heap H locs → lv_has ls 5 [(0, .ref (ad 0)), (1, .int l1), (2, .int l2), (3, .int l3)] → W p l e R s m args below meth c H locs cells slots Q (F0 m 194 ls []) := by
  intro n
  induction n with
  | zero => intro l1 l2 l3 x H locs ls  hw; exact hw.elim
  | succ n ih => intro l1 l2 l3 x H locs ls  hw hW hS hl; exact t_Mod_writeWholes_194 hx hb hml hown hT hK hN hA hRc hRs hRf hRl hret  ih l1 l2 l3 x H locs ls  hw hW hS hl
set_option maxRecDepth 100000 in
def j_Mod_writeWholes_186 (post : St → Prop) (rec155 : Int32 → Int32 → Int32 → St → Prop) (l1 : Int32) (l2 : Int32) (l3 : Int32) (x : St) : Prop := rec155 l1 l2 (l3 + 1) x
set_option maxHeartbeats 4000000 in
set_option maxRecDepth 100000 in
theorem t_Mod_writeWholes_186 {p : Program} {l : Launch} {e : Env} {R : Room} {s : State} {m : MethodId} {args : Array Value} {below : List Frame} {meth : Method} {c : Code} {cells slots : Nat} {Q : State → Prop} {dC : Nat → ClassId} {dI : Nat → Nat → Nat} {cI cB cJ cZ : ClassId} {A : Nat → Prop} {ad : Nat → Nat} {post : St → Prop} {rec155 : Int32 → Int32 → Int32 → St → Prop} (hx : p.tables.exec = Jvm.exec) (hb : c.code = b_Mod_writeWholes) (hml : c.maxLocals = 5) (hown : s.vm.findClass R_Mod = some m.cls) (hT : ∀ w ∈ TG, w.before args s = true) (hK : va_K (dC, dI) CL (TY cI cB cJ cZ) s) (hN : NW s) (hA : ∀ q : Nat, s.heap.size ≤ q → A q) (hRc : cells ≤ R.cells) (hRs : slots ≤ R.slots) (hRf : 3 ≤ R.frames) (hRl : 75 ≤ R.locals) (hret : ∀ (x : St) (H : Heap) (locs : List Loc) (pc : Nat) (ls : Array Slot), decode b_Mod_writeWholes pc = .ok (.return_, 1) → post x → Wd dC dI cI cB cJ cZ ad stM kcM 115 A x H → va_S A s.heap H locs → W p l e R s m args below meth c H locs cells slots Q (F0 m pc ls [])) (hrec155 : ∀ (l1 : Int32) (l2 : Int32) (l3 : Int32) (x : St) (H : Heap) (locs : List Loc) (ls : Array Slot), rec155 l1 l2 l3 x → Wd dC dI cI cB cJ cZ ad stM kcM 115 A x H → va_S A s.heap H locs → lv_has ls 5 [(0, .ref (ad 0)), (1, .int l1), (2, .int l2), (3, .int l3)] → W p l e R s m args below meth c H locs cells slots Q (F0 m 155 ls [])) : ∀ (l1 : Int32) (l2 : Int32) (l3 : Int32) (x : St) (H : Heap) (locs : List Loc) (ls : Array Slot), j_Mod_writeWholes_186 post rec155 l1 l2 l3 x → Wd dC dI cI cB cJ cZ ad stM kcM 115 A x H → va_S A s.heap H locs → lv_has ls 5 [(0, .ref (ad 0)), (1, .int l1), (2, .int l2), (3, .int l3)] → W p l e R s m args below meth c H locs cells slots Q (F0 m 186 ls []) := by
  intro l1 l2 l3 x H locs ls  hw hW hS hl
  unfold j_Mod_writeWholes_186 at hw
  refine lv_iinc (v := (l3 + 1)) (lv' := [(3, .int (l3 + 1)), (0, .ref (ad 0)), (1, .int l1), (2, .int l2)]) hx hb d_Mod_writeWholes_186 hl (k := 3) rfl rfl (by decide) rfl (fun ls hl => ?_)
  refine lv_goto (tgt := 155) hx hb d_Mod_writeWholes_189 (by decide) ?_
  exact hrec155 l1 l2 (l3 + 1) x H locs ls  hw hW hS (lv_sub hl [1, 2, 3, 0] rfl)
set_option maxRecDepth 100000 in
def j_Mod_writeWholes_155 (post : St → Prop) (rec155 : Int32 → Int32 → Int32 → St → Prop) (l1 : Int32) (l2 : Int32) (l3 : Int32) (x : St) : Prop := (((fI x 0 42) ≤ l3 → ∃ n : Nat, wl_Mod_writeWholes_194 post n l1 l2 0 x) ∧ (¬ (fI x 0 42) ≤ l3 → wp_Mod_firstWhole (fun (r588 : Int32) (x587 : St) => ((¬ r588 = l3 → j_Mod_writeWholes_186 post rec155 l1 l2 l3 x587) ∧ (r588 = l3 → (vp_in l3 (fN x587 30) ∧ wp_Mod_wide (fun (r591 : Int32) (x590 : St) => wp_Mod_putFixed (fun (x592 : St) => j_Mod_writeWholes_186 post rec155 l1 l2 l3 x592) (rL x587 30 l3) r591 x590)  x587)))) l3 x))
set_option maxHeartbeats 4000000 in
set_option maxRecDepth 100000 in
theorem t_Mod_writeWholes_155 {p : Program} {l : Launch} {e : Env} {R : Room} {s : State} {m : MethodId} {args : Array Value} {below : List Frame} {meth : Method} {c : Code} {cells slots : Nat} {Q : State → Prop} {dC : Nat → ClassId} {dI : Nat → Nat → Nat} {cI cB cJ cZ : ClassId} {A : Nat → Prop} {ad : Nat → Nat} {post : St → Prop} {rec155 : Int32 → Int32 → Int32 → St → Prop} (hx : p.tables.exec = Jvm.exec) (hb : c.code = b_Mod_writeWholes) (hml : c.maxLocals = 5) (hown : s.vm.findClass R_Mod = some m.cls) (hT : ∀ w ∈ TG, w.before args s = true) (hK : va_K (dC, dI) CL (TY cI cB cJ cZ) s) (hN : NW s) (hA : ∀ q : Nat, s.heap.size ≤ q → A q) (hRc : cells ≤ R.cells) (hRs : slots ≤ R.slots) (hRf : 3 ≤ R.frames) (hRl : 75 ≤ R.locals) (hret : ∀ (x : St) (H : Heap) (locs : List Loc) (pc : Nat) (ls : Array Slot), decode b_Mod_writeWholes pc = .ok (.return_, 1) → post x → Wd dC dI cI cB cJ cZ ad stM kcM 115 A x H → va_S A s.heap H locs → W p l e R s m args below meth c H locs cells slots Q (F0 m pc ls [])) (hrec155 : ∀ (l1 : Int32) (l2 : Int32) (l3 : Int32) (x : St) (H : Heap) (locs : List Loc) (ls : Array Slot), rec155 l1 l2 l3 x → Wd dC dI cI cB cJ cZ ad stM kcM 115 A x H → va_S A s.heap H locs → lv_has ls 5 [(0, .ref (ad 0)), (1, .int l1), (2, .int l2), (3, .int l3)] → W p l e R s m args below meth c H locs cells slots Q (F0 m 155 ls [])) : ∀ (l1 : Int32) (l2 : Int32) (l3 : Int32) (x : St) (H : Heap) (locs : List Loc) (ls : Array Slot), j_Mod_writeWholes_155 post rec155 l1 l2 l3 x → Wd dC dI cI cB cJ cZ ad stM kcM 115 A x H → va_S A s.heap H locs → lv_has ls 5 [(0, .ref (ad 0)), (1, .int l1), (2, .int l2), (3, .int l3)] → W p l e R s m args below meth c H locs cells slots Q (F0 m 155 ls []) := by
  intro l1 l2 l3 x H locs ls  hw hW hS hl
  unfold j_Mod_writeWholes_155 at hw
  refine lv_iload_n hx hb d_Mod_writeWholes_155 rfl (lv_at hl 3 rfl) ?_
  refine lv_aload_n hx hb d_Mod_writeWholes_156 rfl (lv_at hl 0 rfl) ?_
  refine w_geti (k := 42) (t := 12) (C := R_Mod) (T := F_Mod) (N := 167) hx hb hT hown hK hW ko_0.1 ko_0.2 (by decide) in_Mod rfl rfl (by decide) rfl fr_Mod_42 w_8_222 d_Mod_writeWholes_157 ?_
  refine lv_icmp_ge (tgt := 192) hx hb d_Mod_writeWholes_160 (by decide) (fun c586 => ?_) (fun c586 => ?_)
  · have hw := hw.1 c586
    refine lv_iconst (v := 0) hx hb d_Mod_writeWholes_192 (by decide) ?_
    refine lv_istore_n (lv' := [(3, .int 0), (0, .ref (ad 0)), (1, .int l1), (2, .int l2)]) hx hb d_Mod_writeWholes_193 rfl hl (by decide) rfl (fun ls hl => ?_)
    obtain ⟨n, hw⟩ := hw
    exact tl_Mod_writeWholes_194 hx hb hml hown hT hK hN hA hRc hRs hRf hRl hret  n l1 l2 0 x H locs ls  hw hW hS (lv_sub hl [1, 2, 3, 0] rfl)
  · have hw := hw.2 c586
    refine lv_aload_n hx hb d_Mod_writeWholes_163 rfl (lv_at hl 0 rfl) ?_
    refine lv_iload_n hx hb d_Mod_writeWholes_164 rfl (lv_at hl 3 rfl) ?_
    have hF := hW.free hS hA
    refine va_calli (va_runV (C := R_Mod) (As := [.int l3]) (rest := []) ⟨hx, hb, hml, hown, hT⟩ (k_Mod_firstWhole l dC dI cI cB cJ cZ ad H.size l3 x  hw) ⟨callB_of 1 hT (gw_in w_11_239) rfl rfl rfl (hT _ w_1_15) (hT _ w_11_236) (by decide +kernel) ⟨Nat.le_trans (by decide) hRf, Nat.le_trans (by decide) hRl⟩, hT _ w_11_238, hT _ ws_162⟩ ⟨PW.blind, va_recv hK hW.1 (ci := 12) (q0 := 0) rfl (pic_obj ko_0.1 ko_0.2 (by decide)), PW.at _ hW hK hN⟩ rfl rfl hl.1 rfl (lv_room (Nat.le_of_ble_eq_true rfl)) d_Mod_writeWholes_165 ⟨hRc, hRs⟩) hS (fun q _ h => hF q h) hF (fun r588 x587 t H locs ht hvm hw hB hz1 hk1 hS => ?_)
    have hW := Wd.back hB ht hF
    clear hB ht hF hz1 hk1 hvm
    refine lv_iload_n hx hb d_Mod_writeWholes_168 rfl (lv_at hl 3 rfl) ?_
    refine lv_icmp_ne (tgt := 186) hx hb d_Mod_writeWholes_169 (by decide) (fun c589 => ?_) (fun c589 => ?_)
    · have hw := hw.1 c589
      exact t_Mod_writeWholes_186 hx hb hml hown hT hK hN hA hRc hRs hRf hRl hret hrec155 l1 l2 l3 x587 H locs ls  hw hW hS (lv_sub hl [0, 1, 2, 3] rfl)
    · have hw := hw.2 c589
      refine lv_aload_n hx hb d_Mod_writeWholes_172 rfl (lv_at hl 0 rfl) ?_
      refine lv_aload_n hx hb d_Mod_writeWholes_173 rfl (lv_at hl 0 rfl) ?_
      refine w_getf (q := 30) (k := 49) (t := 12) (C := R_Mod) (T := F_Mod) (N := 167) hx hb hT hown hK hW ko_0.1 ko_0.2 (by decide) in_Mod rfl rfl (by decide) rfl fr_Mod_49 w_8_229 d_Mod_writeWholes_174 rfl ?_
      refine lv_iload_n hx hb d_Mod_writeWholes_177 rfl (lv_at hl 3 rfl) ?_
      obtain ⟨hi, hw⟩ := hw
      refine w_lald (o := 30) hx hb hK hW ko_30.1 ko_30.2 hi d_Mod_writeWholes_178 ?_
      refine lv_aload_n hx hb d_Mod_writeWholes_179 rfl (lv_at hl 0 rfl) ?_
      have hF := hW.free hS hA
      refine va_calli (va_runV (C := R_Mod) (As := []) (rest := [.long (rL x587 30 l3), .ref (ad 0)]) ⟨hx, hb, hml, hown, hT⟩ (k_Mod_wide l dC dI cI cB cJ cZ ad H.size  x587  hw) ⟨callB_of 0 hT (gw_in w_11_211) rfl rfl rfl (hT _ w_1_15) (hT _ w_11_208) (by decide +kernel) ⟨Nat.le_trans (by decide) hRf, Nat.le_trans (by decide) hRl⟩, hT _ w_11_210, hT _ ws_156⟩ ⟨PW.blind, va_recv hK hW.1 (ci := 12) (q0 := 0) rfl (pic_obj ko_0.1 ko_0.2 (by decide)), PW.at _ hW hK hN⟩ rfl rfl hl.1 rfl (lv_room (Nat.le_of_ble_eq_true rfl)) d_Mod_writeWholes_180 ⟨hRc, hRs⟩) hS (fun q _ h => hF q h) hF (fun r591 x590 t H locs ht hvm hw hB hz1 hk1 hS => ?_)
      have hW := Wd.back hB ht hF
      clear hB ht hF hz1 hk1 hvm
      have hF := hW.free hS hA
      refine va_callv (va_runV (C := R_Mod) (As := [.long (rL x587 30 l3), .int r591]) (rest := []) ⟨hx, hb, hml, hown, hT⟩ (k_Mod_putFixed l dC dI cI cB cJ cZ ad H.size (rL x587 30 l3) r591 x590  hw) ⟨callB_of 2 hT (gw_in w_11_215) rfl rfl rfl (hT _ w_1_15) (hT _ w_11_212) (by decide +kernel) ⟨Nat.le_trans (by decide) hRf, Nat.le_trans (by decide) hRl⟩, hT _ w_11_214, hT _ ws_157⟩ ⟨PW.blind, va_recv hK hW.1 (ci := 12) (q0 := 0) rfl (pic_obj ko_0.1 ko_0.2 (by decide)), PW.at _ hW hK hN⟩ rfl rfl hl.1 rfl (lv_room (Nat.le_of_ble_eq_true rfl)) d_Mod_writeWholes_183 ⟨hRc, hRs⟩) hS (fun q _ h => hF q h) hF (fun  x592 t H locs ht hvm hw hB hz1 hk1 hS => ?_)
      have hW := Wd.back hB ht hF
      clear hB ht hF hz1 hk1 hvm
      exact t_Mod_writeWholes_186 hx hb hml hown hT hK hN hA hRc hRs hRf hRl hret hrec155 l1 l2 l3 x592 H locs ls  hw hW hS (lv_sub hl [0, 1, 2, 3] rfl)
def wl_Mod_writeWholes_155 (post : St → Prop) : Nat → Int32 → Int32 → Int32 → St → Prop
  | 0 => fun _ _ _ _ => False
  | n + 1 => j_Mod_writeWholes_155 post (wl_Mod_writeWholes_155 post n)
set_option maxHeartbeats 4000000 in
set_option maxRecDepth 100000 in
theorem tl_Mod_writeWholes_155 {p : Program} {l : Launch} {e : Env} {R : Room} {s : State} {m : MethodId} {args : Array Value} {below : List Frame} {meth : Method} {c : Code} {cells slots : Nat} {Q : State → Prop} {dC : Nat → ClassId} {dI : Nat → Nat → Nat} {cI cB cJ cZ : ClassId} {A : Nat → Prop} {ad : Nat → Nat} {post : St → Prop} (hx : p.tables.exec = Jvm.exec) (hb : c.code = b_Mod_writeWholes) (hml : c.maxLocals = 5) (hown : s.vm.findClass R_Mod = some m.cls) (hT : ∀ w ∈ TG, w.before args s = true) (hK : va_K (dC, dI) CL (TY cI cB cJ cZ) s) (hN : NW s) (hA : ∀ q : Nat, s.heap.size ≤ q → A q) (hRc : cells ≤ R.cells) (hRs : slots ≤ R.slots) (hRf : 3 ≤ R.frames) (hRl : 75 ≤ R.locals) (hret : ∀ (x : St) (H : Heap) (locs : List Loc) (pc : Nat) (ls : Array Slot), decode b_Mod_writeWholes pc = .ok (.return_, 1) → post x → Wd dC dI cI cB cJ cZ ad stM kcM 115 A x H → va_S A s.heap H locs → W p l e R s m args below meth c H locs cells slots Q (F0 m pc ls []))  : ∀ n : Nat, ∀ (l1 : Int32) (l2 : Int32) (l3 : Int32) (x : St) (H : Heap) (locs : List Loc) (ls : Array Slot), wl_Mod_writeWholes_155 post n l1 l2 l3 x → Wd dC dI cI cB cJ cZ ad stM kcM 115 A x H → va_S A s.heap H locs → lv_has ls 5 [(0, .ref (ad 0)), (1, .int l1), (2, .int l2), (3, .int l3)] → W p l e R s m args below meth c H locs cells slots Q (F0 m 155 ls []) := by
  intro n
  induction n with
  | zero => intro l1 l2 l3 x H locs ls  hw; exact hw.elim
  | succ n ih => intro l1 l2 l3 x H locs ls  hw hW hS hl; exact t_Mod_writeWholes_155 hx hb hml hown hT hK hN hA hRc hRs hRf hRl hret  ih l1 l2 l3 x H locs ls  hw hW hS hl
set_option maxRecDepth 100000 in
def j_Mod_writeWholes_139 (post : St → Prop) (rec89 : Int32 → Int32 → Int32 → St → Prop) (l1 : Int32) (l2 : Int32) (l3 : Int32) (l4 : Int32) (s0 : Int32) (s1 : Int32) (x : St) : Prop := (∀ v593 : Int32, v593 = (s1 + s0) → rec89 l1 v593 (l3 + 1) x)
set_option maxHeartbeats 4000000 in
set_option maxRecDepth 100000 in
theorem t_Mod_writeWholes_139 {p : Program} {l : Launch} {e : Env} {R : Room} {s : State} {m : MethodId} {args : Array Value} {below : List Frame} {meth : Method} {c : Code} {cells slots : Nat} {Q : State → Prop} {dC : Nat → ClassId} {dI : Nat → Nat → Nat} {cI cB cJ cZ : ClassId} {A : Nat → Prop} {ad : Nat → Nat} {post : St → Prop} {rec89 : Int32 → Int32 → Int32 → St → Prop} (hx : p.tables.exec = Jvm.exec) (hb : c.code = b_Mod_writeWholes) (hml : c.maxLocals = 5) (hown : s.vm.findClass R_Mod = some m.cls) (hT : ∀ w ∈ TG, w.before args s = true) (hK : va_K (dC, dI) CL (TY cI cB cJ cZ) s) (hN : NW s) (hA : ∀ q : Nat, s.heap.size ≤ q → A q) (hRc : cells ≤ R.cells) (hRs : slots ≤ R.slots) (hRf : 3 ≤ R.frames) (hRl : 75 ≤ R.locals) (hret : ∀ (x : St) (H : Heap) (locs : List Loc) (pc : Nat) (ls : Array Slot), decode b_Mod_writeWholes pc = .ok (.return_, 1) → post x → Wd dC dI cI cB cJ cZ ad stM kcM 115 A x H → va_S A s.heap H locs → W p l e R s m args below meth c H locs cells slots Q (F0 m pc ls [])) (hrec89 : ∀ (l1 : Int32) (l2 : Int32) (l3 : Int32) (x : St) (H : Heap) (locs : List Loc) (ls : Array Slot), rec89 l1 l2 l3 x → Wd dC dI cI cB cJ cZ ad stM kcM 115 A x H → va_S A s.heap H locs → lv_has ls 5 [(0, .ref (ad 0)), (1, .int l1), (2, .int l2), (3, .int l3)] → W p l e R s m args below meth c H locs cells slots Q (F0 m 89 ls [])) : ∀ (l1 : Int32) (l2 : Int32) (l3 : Int32) (l4 : Int32) (s0 : Int32) (s1 : Int32) (x : St) (H : Heap) (locs : List Loc) (ls : Array Slot), j_Mod_writeWholes_139 post rec89 l1 l2 l3 l4 s0 s1 x → Wd dC dI cI cB cJ cZ ad stM kcM 115 A x H → va_S A s.heap H locs → lv_has ls 5 [(0, .ref (ad 0)), (1, .int l1), (2, .int l2), (3, .int l3), (4, .int l4)] → W p l e R s m args below meth c H locs cells slots Q (F0 m 139 ls [.int s0, .int s1]) := by
  intro l1 l2 l3 l4 s0 s1 x H locs ls  hw hW hS hl
  unfold j_Mod_writeWholes_139 at hw
  refine lv_iadd hx hb d_Mod_writeWholes_139 ?_
  refine lv_topi (fun v593 ev593 => ?_)
  have hw := hw v593 ev593
  refine lv_istore_n (lv' := [(2, .int v593), (0, .ref (ad 0)), (1, .int l1), (3, .int l3), (4, .int l4)]) hx hb d_Mod_writeWholes_140 rfl hl (by decide) rfl (fun ls hl => ?_)
  refine lv_iinc (v := (l3 + 1)) (lv' := [(3, .int (l3 + 1)), (2, .int v593), (0, .ref (ad 0)), (1, .int l1), (4, .int l4)]) hx hb d_Mod_writeWholes_141 hl (k := 3) rfl rfl (by decide) rfl (fun ls hl => ?_)
  refine lv_goto (tgt := 89) hx hb d_Mod_writeWholes_144 (by decide) ?_
  exact hrec89 l1 v593 (l3 + 1) x H locs ls  hw hW hS (lv_sub hl [2, 3, 1, 0] rfl)
set_option maxRecDepth 100000 in
def j_Mod_writeWholes_126 (post : St → Prop) (rec89 : Int32 → Int32 → Int32 → St → Prop) (l1 : Int32) (l2 : Int32) (l3 : Int32) (l4 : Int32) (s0 : Int32) (s1 : Int32) (s2 : Nat) (x : St) : Prop := (vp_in s1 (fN x s2) ∧ ∀ x594 : St, x594 = setA x s2 s1 s0 → ((¬ l4 = l3 → j_Mod_writeWholes_139 post rec89 l1 l2 l3 l4 0 l2 x594) ∧ (l4 = l3 → j_Mod_writeWholes_139 post rec89 l1 l2 l3 l4 1 l2 x594)))
set_option maxHeartbeats 4000000 in
set_option maxRecDepth 100000 in
theorem t_Mod_writeWholes_126 {p : Program} {l : Launch} {e : Env} {R : Room} {s : State} {m : MethodId} {args : Array Value} {below : List Frame} {meth : Method} {c : Code} {cells slots : Nat} {Q : State → Prop} {dC : Nat → ClassId} {dI : Nat → Nat → Nat} {cI cB cJ cZ : ClassId} {A : Nat → Prop} {ad : Nat → Nat} {post : St → Prop} {rec89 : Int32 → Int32 → Int32 → St → Prop} (hx : p.tables.exec = Jvm.exec) (hb : c.code = b_Mod_writeWholes) (hml : c.maxLocals = 5) (hown : s.vm.findClass R_Mod = some m.cls) (hT : ∀ w ∈ TG, w.before args s = true) (hK : va_K (dC, dI) CL (TY cI cB cJ cZ) s) (hN : NW s) (hA : ∀ q : Nat, s.heap.size ≤ q → A q) (hRc : cells ≤ R.cells) (hRs : slots ≤ R.slots) (hRf : 3 ≤ R.frames) (hRl : 75 ≤ R.locals) (hret : ∀ (x : St) (H : Heap) (locs : List Loc) (pc : Nat) (ls : Array Slot), decode b_Mod_writeWholes pc = .ok (.return_, 1) → post x → Wd dC dI cI cB cJ cZ ad stM kcM 115 A x H → va_S A s.heap H locs → W p l e R s m args below meth c H locs cells slots Q (F0 m pc ls [])) (hrec89 : ∀ (l1 : Int32) (l2 : Int32) (l3 : Int32) (x : St) (H : Heap) (locs : List Loc) (ls : Array Slot), rec89 l1 l2 l3 x → Wd dC dI cI cB cJ cZ ad stM kcM 115 A x H → va_S A s.heap H locs → lv_has ls 5 [(0, .ref (ad 0)), (1, .int l1), (2, .int l2), (3, .int l3)] → W p l e R s m args below meth c H locs cells slots Q (F0 m 89 ls [])) : ∀ (l1 : Int32) (l2 : Int32) (l3 : Int32) (l4 : Int32) (s0 : Int32) (s1 : Int32) (s2 : Nat) (x : St) (H : Heap) (locs : List Loc) (ls : Array Slot), (s2 < 115 ∧ kcM s2 = 20) → j_Mod_writeWholes_126 post rec89 l1 l2 l3 l4 s0 s1 s2 x → Wd dC dI cI cB cJ cZ ad stM kcM 115 A x H → va_S A s.heap H locs → lv_has ls 5 [(0, .ref (ad 0)), (1, .int l1), (2, .int l2), (3, .int l3), (4, .int l4)] → W p l e R s m args below meth c H locs cells slots Q (F0 m 126 ls [.int s0, .int s1, .ref (ad s2)]) := by
  intro l1 l2 l3 l4 s0 s1 s2 x H locs ls fs2 hw hW hS hl
  unfold j_Mod_writeWholes_126 at hw
  obtain ⟨hi, hw⟩ := hw
  refine w_iast (o := s2) hx hb hK hW hS fs2.1 fs2.2 hi d_Mod_writeWholes_126 (fun H locs hW hS => ?_)
  obtain ⟨x594, ex594⟩ : ∃ y : St, y = setA x s2 s1 s0 := ⟨_, rfl⟩
  rw [← ex594] at hW
  have hw := hw x594 ex594
  refine lv_iload_n hx hb d_Mod_writeWholes_127 rfl (lv_at hl 2 rfl) ?_
  refine lv_iload hx hb d_Mod_writeWholes_128 (lv_at hl 4 rfl) ?_
  refine lv_iload_n hx hb d_Mod_writeWholes_130 rfl (lv_at hl 3 rfl) ?_
  refine lv_icmp_ne (tgt := 138) hx hb d_Mod_writeWholes_131 (by decide) (fun c595 => ?_) (fun c595 => ?_)
  · have hw := hw.1 c595
    refine lv_iconst (v := 0) hx hb d_Mod_writeWholes_138 (by decide) ?_
    exact t_Mod_writeWholes_139 hx hb hml hown hT hK hN hA hRc hRs hRf hRl hret hrec89 l1 l2 l3 l4 0 l2 x594 H locs ls  hw hW hS (lv_sub hl [0, 1, 2, 3, 4] rfl)
  · have hw := hw.2 c595
    refine lv_iconst (v := 1) hx hb d_Mod_writeWholes_134 (by decide) ?_
    refine lv_goto (tgt := 139) hx hb d_Mod_writeWholes_135 (by decide) ?_
    exact t_Mod_writeWholes_139 hx hb hml hown hT hK hN hA hRc hRs hRf hRl hret hrec89 l1 l2 l3 l4 1 l2 x594 H locs ls  hw hW hS (lv_sub hl [0, 1, 2, 3, 4] rfl)
set_option maxRecDepth 100000 in
def j_Mod_writeWholes_89 (post : St → Prop) (rec89 : Int32 → Int32 → Int32 → St → Prop) (l1 : Int32) (l2 : Int32) (l3 : Int32) (x : St) : Prop := (((fI x 0 42) ≤ l3 → wp_Mod_putVarint (fun (x597 : St) => ∃ n : Nat, wl_Mod_writeWholes_155 post n l1 l2 0 x597) (l2 : Int32).toInt64 x) ∧ (¬ (fI x 0 42) ≤ l3 → wp_Mod_firstWhole (fun (r599 : Int32) (x598 : St) => ((¬ r599 = l3 → (vp_in r599 (fN x598 44) ∧ j_Mod_writeWholes_126 post rec89 l1 l2 l3 r599 (rA x598 44 r599) l3 44 x598)) ∧ (r599 = l3 → j_Mod_writeWholes_126 post rec89 l1 l2 l3 r599 l2 l3 44 x598))) l3 x))
set_option maxHeartbeats 4000000 in
set_option maxRecDepth 100000 in
theorem t_Mod_writeWholes_89 {p : Program} {l : Launch} {e : Env} {R : Room} {s : State} {m : MethodId} {args : Array Value} {below : List Frame} {meth : Method} {c : Code} {cells slots : Nat} {Q : State → Prop} {dC : Nat → ClassId} {dI : Nat → Nat → Nat} {cI cB cJ cZ : ClassId} {A : Nat → Prop} {ad : Nat → Nat} {post : St → Prop} {rec89 : Int32 → Int32 → Int32 → St → Prop} (hx : p.tables.exec = Jvm.exec) (hb : c.code = b_Mod_writeWholes) (hml : c.maxLocals = 5) (hown : s.vm.findClass R_Mod = some m.cls) (hT : ∀ w ∈ TG, w.before args s = true) (hK : va_K (dC, dI) CL (TY cI cB cJ cZ) s) (hN : NW s) (hA : ∀ q : Nat, s.heap.size ≤ q → A q) (hRc : cells ≤ R.cells) (hRs : slots ≤ R.slots) (hRf : 3 ≤ R.frames) (hRl : 75 ≤ R.locals) (hret : ∀ (x : St) (H : Heap) (locs : List Loc) (pc : Nat) (ls : Array Slot), decode b_Mod_writeWholes pc = .ok (.return_, 1) → post x → Wd dC dI cI cB cJ cZ ad stM kcM 115 A x H → va_S A s.heap H locs → W p l e R s m args below meth c H locs cells slots Q (F0 m pc ls [])) (hrec89 : ∀ (l1 : Int32) (l2 : Int32) (l3 : Int32) (x : St) (H : Heap) (locs : List Loc) (ls : Array Slot), rec89 l1 l2 l3 x → Wd dC dI cI cB cJ cZ ad stM kcM 115 A x H → va_S A s.heap H locs → lv_has ls 5 [(0, .ref (ad 0)), (1, .int l1), (2, .int l2), (3, .int l3)] → W p l e R s m args below meth c H locs cells slots Q (F0 m 89 ls [])) : ∀ (l1 : Int32) (l2 : Int32) (l3 : Int32) (x : St) (H : Heap) (locs : List Loc) (ls : Array Slot), j_Mod_writeWholes_89 post rec89 l1 l2 l3 x → Wd dC dI cI cB cJ cZ ad stM kcM 115 A x H → va_S A s.heap H locs → lv_has ls 5 [(0, .ref (ad 0)), (1, .int l1), (2, .int l2), (3, .int l3)] → W p l e R s m args below meth c H locs cells slots Q (F0 m 89 ls []) := by
  intro l1 l2 l3 x H locs ls  hw hW hS hl
  unfold j_Mod_writeWholes_89 at hw
  refine lv_iload_n hx hb d_Mod_writeWholes_89 rfl (lv_at hl 3 rfl) ?_
  refine lv_aload_n hx hb d_Mod_writeWholes_90 rfl (lv_at hl 0 rfl) ?_
  refine w_geti (k := 42) (t := 12) (C := R_Mod) (T := F_Mod) (N := 167) hx hb hT hown hK hW ko_0.1 ko_0.2 (by decide) in_Mod rfl rfl (by decide) rfl fr_Mod_42 w_8_222 d_Mod_writeWholes_91 ?_
  refine lv_icmp_ge (tgt := 147) hx hb d_Mod_writeWholes_94 (by decide) (fun c596 => ?_) (fun c596 => ?_)
  · have hw := hw.1 c596
    refine lv_aload_n hx hb d_Mod_writeWholes_147 rfl (lv_at hl 0 rfl) ?_
    refine lv_iload_n hx hb d_Mod_writeWholes_148 rfl (lv_at hl 2 rfl) ?_
    refine lv_i2l hx hb d_Mod_writeWholes_149 rfl ?_
    have hF := hW.free hS hA
    refine va_callv (va_runV (C := R_Mod) (As := [.long (l2 : Int32).toInt64]) (rest := []) ⟨hx, hb, hml, hown, hT⟩ (k_Mod_putVarint l dC dI cI cB cJ cZ ad H.size (l2 : Int32).toInt64 x  hw) ⟨callB_of 1 hT (gw_in w_11_198) rfl rfl rfl (hT _ w_1_15) (hT _ w_11_195) (by decide +kernel) ⟨Nat.le_trans (by decide) hRf, Nat.le_trans (by decide) hRl⟩, hT _ w_11_197, hT _ ws_153⟩ ⟨PW.blind, va_recv hK hW.1 (ci := 12) (q0 := 0) rfl (pic_obj ko_0.1 ko_0.2 (by decide)), PW.at _ hW hK hN⟩ rfl rfl hl.1 rfl (lv_room (Nat.le_of_ble_eq_true rfl)) d_Mod_writeWholes_150 ⟨hRc, hRs⟩) hS (fun q _ h => hF q h) hF (fun  x597 t H locs ht hvm hw hB hz1 hk1 hS => ?_)
    have hW := Wd.back hB ht hF
    clear hB ht hF hz1 hk1 hvm
    refine lv_iconst (v := 0) hx hb d_Mod_writeWholes_153 (by decide) ?_
    refine lv_istore_n (lv' := [(3, .int 0), (0, .ref (ad 0)), (1, .int l1), (2, .int l2)]) hx hb d_Mod_writeWholes_154 rfl hl (by decide) rfl (fun ls hl => ?_)
    obtain ⟨n, hw⟩ := hw
    exact tl_Mod_writeWholes_155 hx hb hml hown hT hK hN hA hRc hRs hRf hRl hret  n l1 l2 0 x597 H locs ls  hw hW hS (lv_sub hl [1, 2, 3, 0] rfl)
  · have hw := hw.2 c596
    refine lv_aload_n hx hb d_Mod_writeWholes_97 rfl (lv_at hl 0 rfl) ?_
    refine lv_iload_n hx hb d_Mod_writeWholes_98 rfl (lv_at hl 3 rfl) ?_
    have hF := hW.free hS hA
    refine va_calli (va_runV (C := R_Mod) (As := [.int l3]) (rest := []) ⟨hx, hb, hml, hown, hT⟩ (k_Mod_firstWhole l dC dI cI cB cJ cZ ad H.size l3 x  hw) ⟨callB_of 1 hT (gw_in w_11_239) rfl rfl rfl (hT _ w_1_15) (hT _ w_11_236) (by decide +kernel) ⟨Nat.le_trans (by decide) hRf, Nat.le_trans (by decide) hRl⟩, hT _ w_11_238, hT _ ws_162⟩ ⟨PW.blind, va_recv hK hW.1 (ci := 12) (q0 := 0) rfl (pic_obj ko_0.1 ko_0.2 (by decide)), PW.at _ hW hK hN⟩ rfl rfl hl.1 rfl (lv_room (Nat.le_of_ble_eq_true rfl)) d_Mod_writeWholes_99 ⟨hRc, hRs⟩) hS (fun q _ h => hF q h) hF (fun r599 x598 t H locs ht hvm hw hB hz1 hk1 hS => ?_)
    have hW := Wd.back hB ht hF
    clear hB ht hF hz1 hk1 hvm
    refine lv_istore (lv' := [(4, .int r599), (0, .ref (ad 0)), (1, .int l1), (2, .int l2), (3, .int l3)]) hx hb d_Mod_writeWholes_102 hl (by decide) rfl (fun ls hl => ?_)
    refine lv_aload_n hx hb d_Mod_writeWholes_104 rfl (lv_at hl 1 rfl) ?_
    refine w_getf (q := 44) (k := 72) (t := 12) (C := R_Mod) (T := F_Mod) (N := 167) hx hb hT hown hK hW ko_0.1 ko_0.2 (by decide) in_Mod rfl rfl (by decide) rfl fr_Mod_72 w_9_12 d_Mod_writeWholes_105 rfl ?_
    refine lv_iload_n hx hb d_Mod_writeWholes_108 rfl (lv_at hl 4 rfl) ?_
    refine lv_iload hx hb d_Mod_writeWholes_109 (lv_at hl 0 rfl) ?_
    refine lv_iload_n hx hb d_Mod_writeWholes_111 rfl (lv_at hl 4 rfl) ?_
    refine lv_icmp_ne (tgt := 119) hx hb d_Mod_writeWholes_112 (by decide) (fun c600 => ?_) (fun c600 => ?_)
    · have hw := hw.1 c600
      refine lv_aload_n hx hb d_Mod_writeWholes_119 rfl (lv_at hl 1 rfl) ?_
      refine w_getf (q := 44) (k := 72) (t := 12) (C := R_Mod) (T := F_Mod) (N := 167) hx hb hT hown hK hW ko_0.1 ko_0.2 (by decide) in_Mod rfl rfl (by decide) rfl fr_Mod_72 w_9_12 d_Mod_writeWholes_120 rfl ?_
      refine lv_iload hx hb d_Mod_writeWholes_123 (lv_at hl 0 rfl) ?_
      obtain ⟨hi, hw⟩ := hw
      refine w_iald (o := 44) hx hb hK hW ko_44.1 ko_44.2 hi d_Mod_writeWholes_125 ?_
      exact t_Mod_writeWholes_126 hx hb hml hown hT hK hN hA hRc hRs hRf hRl hret hrec89 l1 l2 l3 r599 (rA x598 44 r599) l3 44 x598 H locs ls ko_44 hw hW hS (lv_sub hl [1, 2, 3, 4, 0] rfl)
    · have hw := hw.2 c600
      refine lv_iload_n hx hb d_Mod_writeWholes_115 rfl (lv_at hl 3 rfl) ?_
      refine lv_goto (tgt := 126) hx hb d_Mod_writeWholes_116 (by decide) ?_
      exact t_Mod_writeWholes_126 hx hb hml hown hT hK hN hA hRc hRs hRf hRl hret hrec89 l1 l2 l3 r599 l2 l3 44 x598 H locs ls ko_44 hw hW hS (lv_sub hl [1, 2, 3, 4, 0] rfl)
def wl_Mod_writeWholes_89 (post : St → Prop) : Nat → Int32 → Int32 → Int32 → St → Prop
  | 0 => fun _ _ _ _ => False
  | n + 1 => j_Mod_writeWholes_89 post (wl_Mod_writeWholes_89 post n)
set_option maxHeartbeats 4000000 in
set_option maxRecDepth 100000 in
theorem tl_Mod_writeWholes_89 {p : Program} {l : Launch} {e : Env} {R : Room} {s : State} {m : MethodId} {args : Array Value} {below : List Frame} {meth : Method} {c : Code} {cells slots : Nat} {Q : State → Prop} {dC : Nat → ClassId} {dI : Nat → Nat → Nat} {cI cB cJ cZ : ClassId} {A : Nat → Prop} {ad : Nat → Nat} {post : St → Prop} (hx : p.tables.exec = Jvm.exec) (hb : c.code = b_Mod_writeWholes) (hml : c.maxLocals = 5) (hown : s.vm.findClass R_Mod = some m.cls) (hT : ∀ w ∈ TG, w.before args s = true) (hK : va_K (dC, dI) CL (TY cI cB cJ cZ) s) (hN : NW s) (hA : ∀ q : Nat, s.heap.size ≤ q → A q) (hRc : cells ≤ R.cells) (hRs : slots ≤ R.slots) (hRf : 3 ≤ R.frames) (hRl : 75 ≤ R.locals) (hret : ∀ (x : St) (H : Heap) (locs : List Loc) (pc : Nat) (ls : Array Slot), decode b_Mod_writeWholes pc = .ok (.return_, 1) → post x → Wd dC dI cI cB cJ cZ ad stM kcM 115 A x H → va_S A s.heap H locs → W p l e R s m args below meth c H locs cells slots Q (F0 m pc ls []))  : ∀ n : Nat, ∀ (l1 : Int32) (l2 : Int32) (l3 : Int32) (x : St) (H : Heap) (locs : List Loc) (ls : Array Slot), wl_Mod_writeWholes_89 post n l1 l2 l3 x → Wd dC dI cI cB cJ cZ ad stM kcM 115 A x H → va_S A s.heap H locs → lv_has ls 5 [(0, .ref (ad 0)), (1, .int l1), (2, .int l2), (3, .int l3)] → W p l e R s m args below meth c H locs cells slots Q (F0 m 89 ls []) := by
  intro n
  induction n with
  | zero => intro l1 l2 l3 x H locs ls  hw; exact hw.elim
  | succ n ih => intro l1 l2 l3 x H locs ls  hw hW hS hl; exact t_Mod_writeWholes_89 hx hb hml hown hT hK hN hA hRc hRs hRf hRl hret  ih l1 l2 l3 x H locs ls  hw hW hS hl
set_option maxRecDepth 100000 in
def j_Mod_writeWholes_52 (post : St → Prop) (rec52 : Int32 → Int32 → St → Prop) (l1 : Int32) (l2 : Int32) (x : St) : Prop := (((fI x 0 42) ≤ l2 → wp_Mod_writeLongs (fun (x602 : St) => post x602)  x) ∧ (¬ (fI x 0 42) ≤ l2 → (vp_in l2 (fN x 30) ∧ (vp_in l2 (fN x 43) ∧ ∀ x603 : St, x603 = setL x 43 l2 (rL x 30 l2) → rec52 l1 (l2 + 1) x603))))
set_option maxHeartbeats 4000000 in
set_option maxRecDepth 100000 in
theorem t_Mod_writeWholes_52 {p : Program} {l : Launch} {e : Env} {R : Room} {s : State} {m : MethodId} {args : Array Value} {below : List Frame} {meth : Method} {c : Code} {cells slots : Nat} {Q : State → Prop} {dC : Nat → ClassId} {dI : Nat → Nat → Nat} {cI cB cJ cZ : ClassId} {A : Nat → Prop} {ad : Nat → Nat} {post : St → Prop} {rec52 : Int32 → Int32 → St → Prop} (hx : p.tables.exec = Jvm.exec) (hb : c.code = b_Mod_writeWholes) (hml : c.maxLocals = 5) (hown : s.vm.findClass R_Mod = some m.cls) (hT : ∀ w ∈ TG, w.before args s = true) (hK : va_K (dC, dI) CL (TY cI cB cJ cZ) s) (hN : NW s) (hA : ∀ q : Nat, s.heap.size ≤ q → A q) (hRc : cells ≤ R.cells) (hRs : slots ≤ R.slots) (hRf : 3 ≤ R.frames) (hRl : 75 ≤ R.locals) (hret : ∀ (x : St) (H : Heap) (locs : List Loc) (pc : Nat) (ls : Array Slot), decode b_Mod_writeWholes pc = .ok (.return_, 1) → post x → Wd dC dI cI cB cJ cZ ad stM kcM 115 A x H → va_S A s.heap H locs → W p l e R s m args below meth c H locs cells slots Q (F0 m pc ls [])) (hrec52 : ∀ (l1 : Int32) (l2 : Int32) (x : St) (H : Heap) (locs : List Loc) (ls : Array Slot), rec52 l1 l2 x → Wd dC dI cI cB cJ cZ ad stM kcM 115 A x H → va_S A s.heap H locs → lv_has ls 5 [(0, .ref (ad 0)), (1, .int l1), (2, .int l2)] → W p l e R s m args below meth c H locs cells slots Q (F0 m 52 ls [])) : ∀ (l1 : Int32) (l2 : Int32) (x : St) (H : Heap) (locs : List Loc) (ls : Array Slot), j_Mod_writeWholes_52 post rec52 l1 l2 x → Wd dC dI cI cB cJ cZ ad stM kcM 115 A x H → va_S A s.heap H locs → lv_has ls 5 [(0, .ref (ad 0)), (1, .int l1), (2, .int l2)] → W p l e R s m args below meth c H locs cells slots Q (F0 m 52 ls []) := by
  intro l1 l2 x H locs ls  hw hW hS hl
  unfold j_Mod_writeWholes_52 at hw
  refine lv_iload_n hx hb d_Mod_writeWholes_52 rfl (lv_at hl 2 rfl) ?_
  refine lv_aload_n hx hb d_Mod_writeWholes_53 rfl (lv_at hl 0 rfl) ?_
  refine w_geti (k := 42) (t := 12) (C := R_Mod) (T := F_Mod) (N := 167) hx hb hT hown hK hW ko_0.1 ko_0.2 (by decide) in_Mod rfl rfl (by decide) rfl fr_Mod_42 w_8_222 d_Mod_writeWholes_54 ?_
  refine lv_icmp_ge (tgt := 78) hx hb d_Mod_writeWholes_57 (by decide) (fun c601 => ?_) (fun c601 => ?_)
  · have hw := hw.1 c601
    refine lv_aload_n hx hb d_Mod_writeWholes_78 rfl (lv_at hl 0 rfl) ?_
    have hF := hW.free hS hA
    refine va_callv (va_runV (C := R_Mod) (As := []) (rest := []) ⟨hx, hb, hml, hown, hT⟩ (k_Mod_writeLongs l dC dI cI cB cJ cZ ad H.size  x  hw) ⟨callB_of 0 hT (gw_in w_11_219) rfl rfl rfl (hT _ w_1_15) (hT _ w_11_216) (by decide +kernel) ⟨Nat.le_trans (by decide) hRf, Nat.le_trans (by decide) hRl⟩, hT _ w_11_218, hT _ ws_158⟩ ⟨PW.blind, va_recv hK hW.1 (ci := 12) (q0 := 0) rfl (pic_obj ko_0.1 ko_0.2 (by decide)), PW.at _ hW hK hN⟩ rfl rfl hl.1 rfl (lv_room (Nat.le_of_ble_eq_true rfl)) d_Mod_writeWholes_79 ⟨hRc, hRs⟩) hS (fun q _ h => hF q h) hF (fun  x602 t H locs ht hvm hw hB hz1 hk1 hS => ?_)
    have hW := Wd.back hB ht hF
    clear hB ht hF hz1 hk1 hvm
    refine lv_goto (tgt := 226) hx hb d_Mod_writeWholes_82 (by decide) ?_
    exact hret x602 H locs 226 ls d_Mod_writeWholes_226 hw hW hS
  · have hw := hw.2 c601
    refine lv_aload_n hx hb d_Mod_writeWholes_60 rfl (lv_at hl 0 rfl) ?_
    refine w_getf (q := 43) (k := 70) (t := 12) (C := R_Mod) (T := F_Mod) (N := 167) hx hb hT hown hK hW ko_0.1 ko_0.2 (by decide) in_Mod rfl rfl (by decide) rfl fr_Mod_70 w_9_10 d_Mod_writeWholes_61 rfl ?_
    refine lv_iload_n hx hb d_Mod_writeWholes_64 rfl (lv_at hl 2 rfl) ?_
    refine lv_aload_n hx hb d_Mod_writeWholes_65 rfl (lv_at hl 0 rfl) ?_
    refine w_getf (q := 30) (k := 49) (t := 12) (C := R_Mod) (T := F_Mod) (N := 167) hx hb hT hown hK hW ko_0.1 ko_0.2 (by decide) in_Mod rfl rfl (by decide) rfl fr_Mod_49 w_8_229 d_Mod_writeWholes_66 rfl ?_
    refine lv_iload_n hx hb d_Mod_writeWholes_69 rfl (lv_at hl 2 rfl) ?_
    obtain ⟨hi, hw⟩ := hw
    refine w_lald (o := 30) hx hb hK hW ko_30.1 ko_30.2 hi d_Mod_writeWholes_70 ?_
    obtain ⟨hi, hw⟩ := hw
    refine w_last (o := 43) hx hb hK hW hS ko_43.1 ko_43.2 hi d_Mod_writeWholes_71 (fun H locs hW hS => ?_)
    obtain ⟨x603, ex603⟩ : ∃ y : St, y = setL x 43 l2 (rL x 30 l2) := ⟨_, rfl⟩
    rw [← ex603] at hW
    have hw := hw x603 ex603
    refine lv_iinc (v := (l2 + 1)) (lv' := [(2, .int (l2 + 1)), (0, .ref (ad 0)), (1, .int l1)]) hx hb d_Mod_writeWholes_72 hl (k := 2) rfl rfl (by decide) rfl (fun ls hl => ?_)
    refine lv_goto (tgt := 52) hx hb d_Mod_writeWholes_75 (by decide) ?_
    exact hrec52 l1 (l2 + 1) x603 H locs ls  hw hW hS (lv_sub hl [1, 2, 0] rfl)
def wl_Mod_writeWholes_52 (post : St → Prop) : Nat → Int32 → Int32 → St → Prop
  | 0 => fun _ _ _ => False
  | n + 1 => j_Mod_writeWholes_52 post (wl_Mod_writeWholes_52 post n)
set_option maxHeartbeats 4000000 in
set_option maxRecDepth 100000 in
theorem tl_Mod_writeWholes_52 {p : Program} {l : Launch} {e : Env} {R : Room} {s : State} {m : MethodId} {args : Array Value} {below : List Frame} {meth : Method} {c : Code} {cells slots : Nat} {Q : State → Prop} {dC : Nat → ClassId} {dI : Nat → Nat → Nat} {cI cB cJ cZ : ClassId} {A : Nat → Prop} {ad : Nat → Nat} {post : St → Prop} (hx : p.tables.exec = Jvm.exec) (hb : c.code = b_Mod_writeWholes) (hml : c.maxLocals = 5) (hown : s.vm.findClass R_Mod = some m.cls) (hT : ∀ w ∈ TG, w.before args s = true) (hK : va_K (dC, dI) CL (TY cI cB cJ cZ) s) (hN : NW s) (hA : ∀ q : Nat, s.heap.size ≤ q → A q) (hRc : cells ≤ R.cells) (hRs : slots ≤ R.slots) (hRf : 3 ≤ R.frames) (hRl : 75 ≤ R.locals) (hret : ∀ (x : St) (H : Heap) (locs : List Loc) (pc : Nat) (ls : Array Slot), decode b_Mod_writeWholes pc = .ok (.return_, 1) → post x → Wd dC dI cI cB cJ cZ ad stM kcM 115 A x H → va_S A s.heap H locs → W p l e R s m args below meth c H locs cells slots Q (F0 m pc ls []))  : ∀ n : Nat, ∀ (l1 : Int32) (l2 : Int32) (x : St) (H : Heap) (locs : List Loc) (ls : Array Slot), wl_Mod_writeWholes_52 post n l1 l2 x → Wd dC dI cI cB cJ cZ ad stM kcM 115 A x H → va_S A s.heap H locs → lv_has ls 5 [(0, .ref (ad 0)), (1, .int l1), (2, .int l2)] → W p l e R s m args below meth c H locs cells slots Q (F0 m 52 ls []) := by
  intro n
  induction n with
  | zero => intro l1 l2 x H locs ls  hw; exact hw.elim
  | succ n ih => intro l1 l2 x H locs ls  hw hW hS hl; exact t_Mod_writeWholes_52 hx hb hml hown hT hK hN hA hRc hRs hRf hRl hret  ih l1 l2 x H locs ls  hw hW hS hl
set_option maxRecDepth 100000 in
def j_Mod_writeWholes_6 (post : St → Prop) (rec6 : Int32 → Int32 → St → Prop) (l1 : Int32) (l2 : Int32) (x : St) : Prop := (((fI x 0 42) ≤ l2 → post x) ∧ (¬ (fI x 0 42) ≤ l2 → (vp_in l2 (fN x 30) ∧ wp_Mod_wide (fun (r606 : Int32) (x605 : St) => wp_Mod_putFixed (fun (x607 : St) => rec6 l1 (l2 + 1) x607) (rL x 30 l2) r606 x605)  x)))
set_option maxHeartbeats 4000000 in
set_option maxRecDepth 100000 in
theorem t_Mod_writeWholes_6 {p : Program} {l : Launch} {e : Env} {R : Room} {s : State} {m : MethodId} {args : Array Value} {below : List Frame} {meth : Method} {c : Code} {cells slots : Nat} {Q : State → Prop} {dC : Nat → ClassId} {dI : Nat → Nat → Nat} {cI cB cJ cZ : ClassId} {A : Nat → Prop} {ad : Nat → Nat} {post : St → Prop} {rec6 : Int32 → Int32 → St → Prop} (hx : p.tables.exec = Jvm.exec) (hb : c.code = b_Mod_writeWholes) (hml : c.maxLocals = 5) (hown : s.vm.findClass R_Mod = some m.cls) (hT : ∀ w ∈ TG, w.before args s = true) (hK : va_K (dC, dI) CL (TY cI cB cJ cZ) s) (hN : NW s) (hA : ∀ q : Nat, s.heap.size ≤ q → A q) (hRc : cells ≤ R.cells) (hRs : slots ≤ R.slots) (hRf : 3 ≤ R.frames) (hRl : 75 ≤ R.locals) (hret : ∀ (x : St) (H : Heap) (locs : List Loc) (pc : Nat) (ls : Array Slot), decode b_Mod_writeWholes pc = .ok (.return_, 1) → post x → Wd dC dI cI cB cJ cZ ad stM kcM 115 A x H → va_S A s.heap H locs → W p l e R s m args below meth c H locs cells slots Q (F0 m pc ls [])) (hrec6 : ∀ (l1 : Int32) (l2 : Int32) (x : St) (H : Heap) (locs : List Loc) (ls : Array Slot), rec6 l1 l2 x → Wd dC dI cI cB cJ cZ ad stM kcM 115 A x H → va_S A s.heap H locs → lv_has ls 5 [(0, .ref (ad 0)), (1, .int l1), (2, .int l2)] → W p l e R s m args below meth c H locs cells slots Q (F0 m 6 ls [])) : ∀ (l1 : Int32) (l2 : Int32) (x : St) (H : Heap) (locs : List Loc) (ls : Array Slot), j_Mod_writeWholes_6 post rec6 l1 l2 x → Wd dC dI cI cB cJ cZ ad stM kcM 115 A x H → va_S A s.heap H locs → lv_has ls 5 [(0, .ref (ad 0)), (1, .int l1), (2, .int l2)] → W p l e R s m args below meth c H locs cells slots Q (F0 m 6 ls []) := by
  intro l1 l2 x H locs ls  hw hW hS hl
  unfold j_Mod_writeWholes_6 at hw
  refine lv_iload_n hx hb d_Mod_writeWholes_6 rfl (lv_at hl 2 rfl) ?_
  refine lv_aload_n hx hb d_Mod_writeWholes_7 rfl (lv_at hl 0 rfl) ?_
  refine w_geti (k := 42) (t := 12) (C := R_Mod) (T := F_Mod) (N := 167) hx hb hT hown hK hW ko_0.1 ko_0.2 (by decide) in_Mod rfl rfl (by decide) rfl fr_Mod_42 w_8_222 d_Mod_writeWholes_8 ?_
  refine lv_icmp_ge (tgt := 34) hx hb d_Mod_writeWholes_11 (by decide) (fun c604 => ?_) (fun c604 => ?_)
  · have hw := hw.1 c604
    refine lv_goto (tgt := 226) hx hb d_Mod_writeWholes_34 (by decide) ?_
    exact hret x H locs 226 ls d_Mod_writeWholes_226 hw hW hS
  · have hw := hw.2 c604
    refine lv_aload_n hx hb d_Mod_writeWholes_14 rfl (lv_at hl 0 rfl) ?_
    refine lv_aload_n hx hb d_Mod_writeWholes_15 rfl (lv_at hl 0 rfl) ?_
    refine w_getf (q := 30) (k := 49) (t := 12) (C := R_Mod) (T := F_Mod) (N := 167) hx hb hT hown hK hW ko_0.1 ko_0.2 (by decide) in_Mod rfl rfl (by decide) rfl fr_Mod_49 w_8_229 d_Mod_writeWholes_16 rfl ?_
    refine lv_iload_n hx hb d_Mod_writeWholes_19 rfl (lv_at hl 2 rfl) ?_
    obtain ⟨hi, hw⟩ := hw
    refine w_lald (o := 30) hx hb hK hW ko_30.1 ko_30.2 hi d_Mod_writeWholes_20 ?_
    refine lv_aload_n hx hb d_Mod_writeWholes_21 rfl (lv_at hl 0 rfl) ?_
    have hF := hW.free hS hA
    refine va_calli (va_runV (C := R_Mod) (As := []) (rest := [.long (rL x 30 l2), .ref (ad 0)]) ⟨hx, hb, hml, hown, hT⟩ (k_Mod_wide l dC dI cI cB cJ cZ ad H.size  x  hw) ⟨callB_of 0 hT (gw_in w_11_211) rfl rfl rfl (hT _ w_1_15) (hT _ w_11_208) (by decide +kernel) ⟨Nat.le_trans (by decide) hRf, Nat.le_trans (by decide) hRl⟩, hT _ w_11_210, hT _ ws_156⟩ ⟨PW.blind, va_recv hK hW.1 (ci := 12) (q0 := 0) rfl (pic_obj ko_0.1 ko_0.2 (by decide)), PW.at _ hW hK hN⟩ rfl rfl hl.1 rfl (lv_room (Nat.le_of_ble_eq_true rfl)) d_Mod_writeWholes_22 ⟨hRc, hRs⟩) hS (fun q _ h => hF q h) hF (fun r606 x605 t H locs ht hvm hw hB hz1 hk1 hS => ?_)
    have hW := Wd.back hB ht hF
    clear hB ht hF hz1 hk1 hvm
    have hF := hW.free hS hA
    refine va_callv (va_runV (C := R_Mod) (As := [.long (rL x 30 l2), .int r606]) (rest := []) ⟨hx, hb, hml, hown, hT⟩ (k_Mod_putFixed l dC dI cI cB cJ cZ ad H.size (rL x 30 l2) r606 x605  hw) ⟨callB_of 2 hT (gw_in w_11_215) rfl rfl rfl (hT _ w_1_15) (hT _ w_11_212) (by decide +kernel) ⟨Nat.le_trans (by decide) hRf, Nat.le_trans (by decide) hRl⟩, hT _ w_11_214, hT _ ws_157⟩ ⟨PW.blind, va_recv hK hW.1 (ci := 12) (q0 := 0) rfl (pic_obj ko_0.1 ko_0.2 (by decide)), PW.at _ hW hK hN⟩ rfl rfl hl.1 rfl (lv_room (Nat.le_of_ble_eq_true rfl)) d_Mod_writeWholes_25 ⟨hRc, hRs⟩) hS (fun q _ h => hF q h) hF (fun  x607 t H locs ht hvm hw hB hz1 hk1 hS => ?_)
    have hW := Wd.back hB ht hF
    clear hB ht hF hz1 hk1 hvm
    refine lv_iinc (v := (l2 + 1)) (lv' := [(2, .int (l2 + 1)), (0, .ref (ad 0)), (1, .int l1)]) hx hb d_Mod_writeWholes_28 hl (k := 2) rfl rfl (by decide) rfl (fun ls hl => ?_)
    refine lv_goto (tgt := 6) hx hb d_Mod_writeWholes_31 (by decide) ?_
    exact hrec6 l1 (l2 + 1) x607 H locs ls  hw hW hS (lv_sub hl [1, 2, 0] rfl)
def wl_Mod_writeWholes_6 (post : St → Prop) : Nat → Int32 → Int32 → St → Prop
  | 0 => fun _ _ _ => False
  | n + 1 => j_Mod_writeWholes_6 post (wl_Mod_writeWholes_6 post n)
set_option maxHeartbeats 4000000 in
set_option maxRecDepth 100000 in
theorem tl_Mod_writeWholes_6 {p : Program} {l : Launch} {e : Env} {R : Room} {s : State} {m : MethodId} {args : Array Value} {below : List Frame} {meth : Method} {c : Code} {cells slots : Nat} {Q : State → Prop} {dC : Nat → ClassId} {dI : Nat → Nat → Nat} {cI cB cJ cZ : ClassId} {A : Nat → Prop} {ad : Nat → Nat} {post : St → Prop} (hx : p.tables.exec = Jvm.exec) (hb : c.code = b_Mod_writeWholes) (hml : c.maxLocals = 5) (hown : s.vm.findClass R_Mod = some m.cls) (hT : ∀ w ∈ TG, w.before args s = true) (hK : va_K (dC, dI) CL (TY cI cB cJ cZ) s) (hN : NW s) (hA : ∀ q : Nat, s.heap.size ≤ q → A q) (hRc : cells ≤ R.cells) (hRs : slots ≤ R.slots) (hRf : 3 ≤ R.frames) (hRl : 75 ≤ R.locals) (hret : ∀ (x : St) (H : Heap) (locs : List Loc) (pc : Nat) (ls : Array Slot), decode b_Mod_writeWholes pc = .ok (.return_, 1) → post x → Wd dC dI cI cB cJ cZ ad stM kcM 115 A x H → va_S A s.heap H locs → W p l e R s m args below meth c H locs cells slots Q (F0 m pc ls []))  : ∀ n : Nat, ∀ (l1 : Int32) (l2 : Int32) (x : St) (H : Heap) (locs : List Loc) (ls : Array Slot), wl_Mod_writeWholes_6 post n l1 l2 x → Wd dC dI cI cB cJ cZ ad stM kcM 115 A x H → va_S A s.heap H locs → lv_has ls 5 [(0, .ref (ad 0)), (1, .int l1), (2, .int l2)] → W p l e R s m args below meth c H locs cells slots Q (F0 m 6 ls []) := by
  intro n
  induction n with
  | zero => intro l1 l2 x H locs ls  hw; exact hw.elim
  | succ n ih => intro l1 l2 x H locs ls  hw hW hS hl; exact t_Mod_writeWholes_6 hx hb hml hown hT hK hN hA hRc hRs hRf hRl hret  ih l1 l2 x H locs ls  hw hW hS hl
set_option maxRecDepth 100000 in
def wp_Mod_writeWholes (post : St → Prop) (l1 : Int32) (x : St) : Prop := ((¬ l1 = 0 → ((¬ l1 = 1 → ∃ n : Nat, wl_Mod_writeWholes_89 post n l1 0 0 x) ∧ (l1 = 1 → (∀ x610 : St, x610 = setI x 0 71 (fI x 0 42) → ∃ n : Nat, wl_Mod_writeWholes_52 post n l1 0 x610)))) ∧ (l1 = 0 → ∃ n : Nat, wl_Mod_writeWholes_6 post n l1 0 x))
set_option maxHeartbeats 4000000 in
set_option maxRecDepth 100000 in
theorem t_Mod_writeWholes_e {p : Program} {l : Launch} {e : Env} {R : Room} {s : State} {m : MethodId} {args : Array Value} {below : List Frame} {meth : Method} {c : Code} {cells slots : Nat} {Q : State → Prop} {dC : Nat → ClassId} {dI : Nat → Nat → Nat} {cI cB cJ cZ : ClassId} {A : Nat → Prop} {ad : Nat → Nat} {post : St → Prop} (hx : p.tables.exec = Jvm.exec) (hb : c.code = b_Mod_writeWholes) (hml : c.maxLocals = 5) (hown : s.vm.findClass R_Mod = some m.cls) (hT : ∀ w ∈ TG, w.before args s = true) (hK : va_K (dC, dI) CL (TY cI cB cJ cZ) s) (hN : NW s) (hA : ∀ q : Nat, s.heap.size ≤ q → A q) (hRc : cells ≤ R.cells) (hRs : slots ≤ R.slots) (hRf : 3 ≤ R.frames) (hRl : 75 ≤ R.locals) (hret : ∀ (x : St) (H : Heap) (locs : List Loc) (pc : Nat) (ls : Array Slot), decode b_Mod_writeWholes pc = .ok (.return_, 1) → post x → Wd dC dI cI cB cJ cZ ad stM kcM 115 A x H → va_S A s.heap H locs → W p l e R s m args below meth c H locs cells slots Q (F0 m pc ls [])) : ∀ (l1 : Int32) (x : St) (H : Heap) (locs : List Loc) (ls : Array Slot), wp_Mod_writeWholes post l1 x → Wd dC dI cI cB cJ cZ ad stM kcM 115 A x H → va_S A s.heap H locs → lv_has ls 5 [(0, .ref (ad 0)), (1, .int l1)] → W p l e R s m args below meth c H locs cells slots Q (F0 m 0 ls []) := by
  intro l1 x H locs ls  hw hW hS hl
  unfold wp_Mod_writeWholes at hw
  refine lv_iload_n hx hb d_Mod_writeWholes_0 rfl (lv_at hl 1 rfl) ?_
  refine lv_if_ne (tgt := 37) hx hb d_Mod_writeWholes_1 (by decide) (fun c608 => ?_) (fun c608 => ?_)
  · have hw := hw.1 c608
    refine lv_iload_n hx hb d_Mod_writeWholes_37 rfl (lv_at hl 1 rfl) ?_
    refine lv_iconst (v := 1) hx hb d_Mod_writeWholes_38 (by decide) ?_
    refine lv_icmp_ne (tgt := 85) hx hb d_Mod_writeWholes_39 (by decide) (fun c609 => ?_) (fun c609 => ?_)
    · have hw := hw.1 c609
      refine lv_iconst (v := 0) hx hb d_Mod_writeWholes_85 (by decide) ?_
      refine lv_istore_n (lv' := [(2, .int 0), (0, .ref (ad 0)), (1, .int l1)]) hx hb d_Mod_writeWholes_86 rfl hl (by decide) rfl (fun ls hl => ?_)
      refine lv_iconst (v := 0) hx hb d_Mod_writeWholes_87 (by decide) ?_
      refine lv_istore_n (lv' := [(3, .int 0), (2, .int 0), (0, .ref (ad 0)), (1, .int l1)]) hx hb d_Mod_writeWholes_88 rfl hl (by decide) rfl (fun ls hl => ?_)
      obtain ⟨n, hw⟩ := hw
      exact tl_Mod_writeWholes_89 hx hb hml hown hT hK hN hA hRc hRs hRf hRl hret  n l1 0 0 x H locs ls  hw hW hS (lv_sub hl [2, 3, 1, 0] rfl)
    · have hw := hw.2 c609
      refine lv_aload_n hx hb d_Mod_writeWholes_42 rfl (lv_at hl 0 rfl) ?_
      refine lv_aload_n hx hb d_Mod_writeWholes_43 rfl (lv_at hl 0 rfl) ?_
      refine w_geti (k := 42) (t := 12) (C := R_Mod) (T := F_Mod) (N := 167) hx hb hT hown hK hW ko_0.1 ko_0.2 (by decide) in_Mod rfl rfl (by decide) rfl fr_Mod_42 w_8_222 d_Mod_writeWholes_44 ?_
      refine w_puti (ty := .int) (k := 71) (t := 12) (C := R_Mod) (T := F_Mod) (N := 167) hx hb hT hown hK hW hS ko_0.1 ko_0.2 (by decide) in_Mod t_Mod t_Mod_ok n_Mod rfl rfl (by decide) rfl fr_Mod_71 w_9_11 (by decide +kernel) rfl rfl d_Mod_writeWholes_47 (fun H locs hW hS => ?_)
      obtain ⟨x610, ex610⟩ : ∃ y : St, y = setI x 0 71 (fI x 0 42) := ⟨_, rfl⟩
      rw [← ex610] at hW
      have hw := hw x610 ex610
      refine lv_iconst (v := 0) hx hb d_Mod_writeWholes_50 (by decide) ?_
      refine lv_istore_n (lv' := [(2, .int 0), (0, .ref (ad 0)), (1, .int l1)]) hx hb d_Mod_writeWholes_51 rfl hl (by decide) rfl (fun ls hl => ?_)
      obtain ⟨n, hw⟩ := hw
      exact tl_Mod_writeWholes_52 hx hb hml hown hT hK hN hA hRc hRs hRf hRl hret  n l1 0 x610 H locs ls  hw hW hS (lv_sub hl [1, 2, 0] rfl)
  · have hw := hw.2 c608
    refine lv_iconst (v := 0) hx hb d_Mod_writeWholes_4 (by decide) ?_
    refine lv_istore_n (lv' := [(2, .int 0), (0, .ref (ad 0)), (1, .int l1)]) hx hb d_Mod_writeWholes_5 rfl hl (by decide) rfl (fun ls hl => ?_)
    obtain ⟨n, hw⟩ := hw
    exact tl_Mod_writeWholes_6 hx hb hml hown hT hK hN hA hRc hRs hRf hRl hret  n l1 0 x H locs ls  hw hW hS (lv_sub hl [1, 2, 0] rfl)
set_option maxHeartbeats 4000000 in
set_option maxRecDepth 100000 in
theorem k_Mod_writeWholes (l : Launch) (dC : Nat → ClassId) (dI : Nat → Nat → Nat) (cI cB cJ cZ : ClassId) (ad : Nat → Nat) (sz : Nat) (l1 : Int32) (x : St) {post : St → Prop} (hw : wp_Mod_writeWholes post l1 x) : Met l y_Mod_writeWholes (wsOf y_Mod_writeWholes b_Mod_writeWholes 5 (none)) ({ frames := 3, cells := 0, slots := 0, locals := 75 }) (va_Pc [.ref (ad 0), .int l1] (PW dC dI cI cB cJ cZ ad stM kcM 115 sz x)) (va_Qv (fun (y : St) => post y) (fun y t => Wd dC dI cI cB cJ cZ ad stM kcM 115 (va_A (pic ad stM kcM 115 cI cB cJ cZ x) sz) y t.heap) (va_A (pic ad stM kcM 115 cI cB cJ cZ x) sz)) 0 0 (va_A (pic ad stM kcM 115 cI cB cJ cZ x) sz) := by
  refine Met.ofW (cc := b_Mod_writeWholes) (maxL := 5) (ret := none) (by decide) rfl ?_
  intro p e s m args below meth c s₁ B hml hv
  obtain ⟨rfl, hsz, hW0, hK, hN⟩ := hv
  have hx := B.exec
  have hb := B.bytes
  have hr := B.returns
  have hts := atoms_spec B.pre
  have hT : ∀ w ∈ TG, w.before _ s = true := fun w h => hts w (List.mem_cons_of_mem _ h)
  have hown : s.vm.findClass R_Mod = some m.cls := findClass_of_methodNamed B.named
  have hlocks := B.notSynchronized
  subst hsz
  have hW : Wd dC dI cI cB cJ cZ ad stM kcM 115 (va_A (pic ad stM kcM 115 cI cB cJ cZ x) s.heap.size) x s.heap := ⟨hW0.1, hW0.2.1.self (sz := s.heap.size), hW0.2.2⟩
  generalize hAe : va_A (pic ad stM kcM 115 cI cB cJ cZ x) s.heap.size = A at hW ⊢
  have hA : ∀ q : Nat, s.heap.size ≤ q → A q := fun q h => by rw [← hAe]; exact Or.inr h
  have hS : va_S A s.heap s.heap [] := va_S.rf
  have hl := lv_entry ([.ref (ad 0), .int l1]) (n := 5) (Nat.le_of_ble_eq_true rfl)
  rw [lg_entry_eq]
  generalize (lg_sl ([.ref (ad 0), .int l1]) ++ List.replicate (5 - (lg_sl ([.ref (ad 0), .int l1])).length) Slot.unset).toArray = ls at hl ⊢
  have hl : lv_has ls 5 [(0, .ref (ad 0)), (1, .int l1)] := hl
  exact t_Mod_writeWholes_e hx hb hml hown hT hK hN hA (Nat.le_refl 0) (Nat.le_refl 0) (Nat.le_refl 3) (Nat.le_refl 75) (fun x H locs pc ls hd hp hW hS => W.vret hx hb hr (fun t ht hM => ⟨⟨x, rfl, hp, Wd.back hW ht.symm (fun _ z => z)⟩, hS.F ht⟩) hS.2.2 hd hlocks)  l1 x _ _ ls  hw hW hS hl
set_option maxRecDepth 100000 in
def wp_Mod_lengthOf (post : Int32 → St → Prop) (l1 : Int32) (x : St) : Prop := (vp_in (l1 + 1) (fN x 33) ∧ (vp_in l1 (fN x 33) ∧ post ((rA x 33 (l1 + 1)) - (rA x 33 l1)) x))
set_option maxHeartbeats 4000000 in
set_option maxRecDepth 100000 in
theorem t_Mod_lengthOf_e {p : Program} {l : Launch} {e : Env} {R : Room} {s : State} {m : MethodId} {args : Array Value} {below : List Frame} {meth : Method} {c : Code} {cells slots : Nat} {Q : State → Prop} {dC : Nat → ClassId} {dI : Nat → Nat → Nat} {cI cB cJ cZ : ClassId} {A : Nat → Prop} {ad : Nat → Nat} {post : Int32 → St → Prop} (hx : p.tables.exec = Jvm.exec) (hb : c.code = b_Mod_lengthOf) (hml : c.maxLocals = 2) (hown : s.vm.findClass R_Mod = some m.cls) (hT : ∀ w ∈ TG, w.before args s = true) (hK : va_K (dC, dI) CL (TY cI cB cJ cZ) s) (hN : NW s) (hA : ∀ q : Nat, s.heap.size ≤ q → A q) (hRc : cells ≤ R.cells) (hRs : slots ≤ R.slots) (hRf : 0 ≤ R.frames) (hRl : 0 ≤ R.locals) (hret : ∀ (r : Int32) (x : St) (H : Heap) (locs : List Loc) (pc : Nat) (ls : Array Slot), decode b_Mod_lengthOf pc = .ok (.ireturn, 1) → post r x → Wd dC dI cI cB cJ cZ ad stM kcM 115 A x H → va_S A s.heap H locs → W p l e R s m args below meth c H locs cells slots Q (F0 m pc ls [.int r])) : ∀ (l1 : Int32) (x : St) (H : Heap) (locs : List Loc) (ls : Array Slot), wp_Mod_lengthOf post l1 x → Wd dC dI cI cB cJ cZ ad stM kcM 115 A x H → va_S A s.heap H locs → lv_has ls 2 [(0, .ref (ad 0)), (1, .int l1)] → W p l e R s m args below meth c H locs cells slots Q (F0 m 0 ls []) := by
  intro l1 x H locs ls  hw hW hS hl
  unfold wp_Mod_lengthOf at hw
  refine lv_aload_n hx hb d_Mod_lengthOf_0 rfl (lv_at hl 0 rfl) ?_
  refine w_getf (q := 33) (k := 52) (t := 12) (C := R_Mod) (T := F_Mod) (N := 167) hx hb hT hown hK hW ko_0.1 ko_0.2 (by decide) in_Mod rfl rfl (by decide) rfl fr_Mod_52 w_8_232 d_Mod_lengthOf_1 rfl ?_
  refine lv_iload_n hx hb d_Mod_lengthOf_4 rfl (lv_at hl 1 rfl) ?_
  refine lv_iconst (v := 1) hx hb d_Mod_lengthOf_5 (by decide) ?_
  refine lv_iadd hx hb d_Mod_lengthOf_6 ?_
  obtain ⟨hi, hw⟩ := hw
  refine w_iald (o := 33) hx hb hK hW ko_33.1 ko_33.2 hi d_Mod_lengthOf_7 ?_
  refine lv_aload_n hx hb d_Mod_lengthOf_8 rfl (lv_at hl 0 rfl) ?_
  refine w_getf (q := 33) (k := 52) (t := 12) (C := R_Mod) (T := F_Mod) (N := 167) hx hb hT hown hK hW ko_0.1 ko_0.2 (by decide) in_Mod rfl rfl (by decide) rfl fr_Mod_52 w_8_232 d_Mod_lengthOf_9 rfl ?_
  refine lv_iload_n hx hb d_Mod_lengthOf_12 rfl (lv_at hl 1 rfl) ?_
  obtain ⟨hi, hw⟩ := hw
  refine w_iald (o := 33) hx hb hK hW ko_33.1 ko_33.2 hi d_Mod_lengthOf_13 ?_
  refine lv_isub hx hb d_Mod_lengthOf_14 ?_
  exact hret ((rA x 33 (l1 + 1)) - (rA x 33 l1)) x H locs 15 ls d_Mod_lengthOf_15 hw hW hS
set_option maxHeartbeats 4000000 in
set_option maxRecDepth 100000 in
theorem k_Mod_lengthOf (l : Launch) (dC : Nat → ClassId) (dI : Nat → Nat → Nat) (cI cB cJ cZ : ClassId) (ad : Nat → Nat) (sz : Nat) (l1 : Int32) (x : St) {post : Int32 → St → Prop} (hw : wp_Mod_lengthOf post l1 x) : Met l y_Mod_lengthOf (wsOf y_Mod_lengthOf b_Mod_lengthOf 2 (some (.int))) ({ frames := 0, cells := 0, slots := 0, locals := 0 }) (va_Pc [.ref (ad 0), .int l1] (PW dC dI cI cB cJ cZ ad stM kcM 115 sz x)) (va_Qi (fun (r : Int32) (y : St) => post r y) (fun y t => Wd dC dI cI cB cJ cZ ad stM kcM 115 (va_A (pic ad stM kcM 115 cI cB cJ cZ x) sz) y t.heap) (va_A (pic ad stM kcM 115 cI cB cJ cZ x) sz)) 0 0 (va_A (pic ad stM kcM 115 cI cB cJ cZ x) sz) := by
  refine Met.ofW (cc := b_Mod_lengthOf) (maxL := 2) (ret := some (.int)) (by decide) rfl ?_
  intro p e s m args below meth c s₁ B hml hv
  obtain ⟨rfl, hsz, hW0, hK, hN⟩ := hv
  have hx := B.exec
  have hb := B.bytes
  have hr := B.returns
  have hts := atoms_spec B.pre
  have hT : ∀ w ∈ TG, w.before _ s = true := fun w h => hts w (List.mem_cons_of_mem _ h)
  have hown : s.vm.findClass R_Mod = some m.cls := findClass_of_methodNamed B.named
  have hlocks := B.notSynchronized
  subst hsz
  have hW : Wd dC dI cI cB cJ cZ ad stM kcM 115 (va_A (pic ad stM kcM 115 cI cB cJ cZ x) s.heap.size) x s.heap := ⟨hW0.1, hW0.2.1.self (sz := s.heap.size), hW0.2.2⟩
  generalize hAe : va_A (pic ad stM kcM 115 cI cB cJ cZ x) s.heap.size = A at hW ⊢
  have hA : ∀ q : Nat, s.heap.size ≤ q → A q := fun q h => by rw [← hAe]; exact Or.inr h
  have hS : va_S A s.heap s.heap [] := va_S.rf
  have hl := lv_entry ([.ref (ad 0), .int l1]) (n := 2) (Nat.le_of_ble_eq_true rfl)
  rw [lg_entry_eq]
  generalize (lg_sl ([.ref (ad 0), .int l1]) ++ List.replicate (2 - (lg_sl ([.ref (ad 0), .int l1])).length) Slot.unset).toArray = ls at hl ⊢
  have hl : lv_has ls 2 [(0, .ref (ad 0)), (1, .int l1)] := hl
  exact t_Mod_lengthOf_e hx hb hml hown hT hK hN hA (Nat.le_refl 0) (Nat.le_refl 0) (Nat.le_refl 0) (Nat.le_refl 0) (fun r x H locs pc ls hd hp hW hS => W.iret (v := r) hx hb hr (fun t ht hM => ⟨⟨r, x, rfl, hp, Wd.back hW ht.symm (fun _ z => z)⟩, hS.F ht⟩) hS.2.2 hd hlocks)  l1 x _ _ ls  hw hW hS hl
set_option maxRecDepth 100000 in
def wp_Mod_writeCode (post : St → Prop)  (x : St) : Prop := (∀ v611 : Int32, v611 = (fI x 0 64) → wp_Mod_writeLongs (fun (x612 : St) => (∀ v613 : Int32, v613 = ((fI x612 0 64) - v611) → (∀ x614 : St, x614 = setI x612 0 64 v611 → wp_Mod_putVarint (fun (x615 : St) => wp_Mod_writeLongs (fun (x616 : St) => post x616)  x615) (v613 : Int32).toInt64 x614)))  x)
set_option maxHeartbeats 4000000 in
set_option maxRecDepth 100000 in
theorem t_Mod_writeCode_e {p : Program} {l : Launch} {e : Env} {R : Room} {s : State} {m : MethodId} {args : Array Value} {below : List Frame} {meth : Method} {c : Code} {cells slots : Nat} {Q : State → Prop} {dC : Nat → ClassId} {dI : Nat → Nat → Nat} {cI cB cJ cZ : ClassId} {A : Nat → Prop} {ad : Nat → Nat} {post : St → Prop} (hx : p.tables.exec = Jvm.exec) (hb : c.code = b_Mod_writeCode) (hml : c.maxLocals = 3) (hown : s.vm.findClass R_Mod = some m.cls) (hT : ∀ w ∈ TG, w.before args s = true) (hK : va_K (dC, dI) CL (TY cI cB cJ cZ) s) (hN : NW s) (hA : ∀ q : Nat, s.heap.size ≤ q → A q) (hRc : cells ≤ R.cells) (hRs : slots ≤ R.slots) (hRf : 3 ≤ R.frames) (hRl : 75 ≤ R.locals) (hret : ∀ (x : St) (H : Heap) (locs : List Loc) (pc : Nat) (ls : Array Slot), decode b_Mod_writeCode pc = .ok (.return_, 1) → post x → Wd dC dI cI cB cJ cZ ad stM kcM 115 A x H → va_S A s.heap H locs → W p l e R s m args below meth c H locs cells slots Q (F0 m pc ls [])) : ∀  (x : St) (H : Heap) (locs : List Loc) (ls : Array Slot), wp_Mod_writeCode post  x → Wd dC dI cI cB cJ cZ ad stM kcM 115 A x H → va_S A s.heap H locs → lv_has ls 3 [(0, .ref (ad 0))] → W p l e R s m args below meth c H locs cells slots Q (F0 m 0 ls []) := by
  intro  x H locs ls  hw hW hS hl
  unfold wp_Mod_writeCode at hw
  refine lv_aload_n hx hb d_Mod_writeCode_0 rfl (lv_at hl 0 rfl) ?_
  refine w_geti (k := 64) (t := 12) (C := R_Mod) (T := F_Mod) (N := 167) hx hb hT hown hK hW ko_0.1 ko_0.2 (by decide) in_Mod rfl rfl (by decide) rfl fr_Mod_64 w_9_4 d_Mod_writeCode_1 ?_
  refine lv_topi (fun v611 ev611 => ?_)
  have hw := hw v611 ev611
  refine lv_istore_n (lv' := [(1, .int v611), (0, .ref (ad 0))]) hx hb d_Mod_writeCode_4 rfl hl (by decide) rfl (fun ls hl => ?_)
  refine lv_aload_n hx hb d_Mod_writeCode_5 rfl (lv_at hl 1 rfl) ?_
  have hF := hW.free hS hA
  refine va_callv (va_runV (C := R_Mod) (As := []) (rest := []) ⟨hx, hb, hml, hown, hT⟩ (k_Mod_writeLongs l dC dI cI cB cJ cZ ad H.size  x  hw) ⟨callB_of 0 hT (gw_in w_11_219) rfl rfl rfl (hT _ w_1_15) (hT _ w_11_216) (by decide +kernel) ⟨Nat.le_trans (by decide) hRf, Nat.le_trans (by decide) hRl⟩, hT _ w_11_218, hT _ ws_158⟩ ⟨PW.blind, va_recv hK hW.1 (ci := 12) (q0 := 0) rfl (pic_obj ko_0.1 ko_0.2 (by decide)), PW.at _ hW hK hN⟩ rfl rfl hl.1 rfl (lv_room (Nat.le_of_ble_eq_true rfl)) d_Mod_writeCode_6 ⟨hRc, hRs⟩) hS (fun q _ h => hF q h) hF (fun  x612 t H locs ht hvm hw hB hz1 hk1 hS => ?_)
  have hW := Wd.back hB ht hF
  clear hB ht hF hz1 hk1 hvm
  refine lv_aload_n hx hb d_Mod_writeCode_9 rfl (lv_at hl 1 rfl) ?_
  refine w_geti (k := 64) (t := 12) (C := R_Mod) (T := F_Mod) (N := 167) hx hb hT hown hK hW ko_0.1 ko_0.2 (by decide) in_Mod rfl rfl (by decide) rfl fr_Mod_64 w_9_4 d_Mod_writeCode_10 ?_
  refine lv_iload_n hx hb d_Mod_writeCode_13 rfl (lv_at hl 0 rfl) ?_
  refine lv_isub hx hb d_Mod_writeCode_14 ?_
  refine lv_topi (fun v613 ev613 => ?_)
  have hw := hw v613 ev613
  refine lv_istore_n (lv' := [(2, .int v613), (1, .int v611), (0, .ref (ad 0))]) hx hb d_Mod_writeCode_15 rfl hl (by decide) rfl (fun ls hl => ?_)
  refine lv_aload_n hx hb d_Mod_writeCode_16 rfl (lv_at hl 2 rfl) ?_
  refine lv_iload_n hx hb d_Mod_writeCode_17 rfl (lv_at hl 1 rfl) ?_
  refine w_puti (ty := .int) (k := 64) (t := 12) (C := R_Mod) (T := F_Mod) (N := 167) hx hb hT hown hK hW hS ko_0.1 ko_0.2 (by decide) in_Mod t_Mod t_Mod_ok n_Mod rfl rfl (by decide) rfl fr_Mod_64 w_9_4 (by decide +kernel) rfl rfl d_Mod_writeCode_18 (fun H locs hW hS => ?_)
  obtain ⟨x614, ex614⟩ : ∃ y : St, y = setI x612 0 64 v611 := ⟨_, rfl⟩
  rw [← ex614] at hW
  have hw := hw x614 ex614
  refine lv_aload_n hx hb d_Mod_writeCode_21 rfl (lv_at hl 2 rfl) ?_
  refine lv_iload_n hx hb d_Mod_writeCode_22 rfl (lv_at hl 0 rfl) ?_
  refine lv_i2l hx hb d_Mod_writeCode_23 rfl ?_
  have hF := hW.free hS hA
  refine va_callv (va_runV (C := R_Mod) (As := [.long (v613 : Int32).toInt64]) (rest := []) ⟨hx, hb, hml, hown, hT⟩ (k_Mod_putVarint l dC dI cI cB cJ cZ ad H.size (v613 : Int32).toInt64 x614  hw) ⟨callB_of 1 hT (gw_in w_11_198) rfl rfl rfl (hT _ w_1_15) (hT _ w_11_195) (by decide +kernel) ⟨Nat.le_trans (by decide) hRf, Nat.le_trans (by decide) hRl⟩, hT _ w_11_197, hT _ ws_153⟩ ⟨PW.blind, va_recv hK hW.1 (ci := 12) (q0 := 0) rfl (pic_obj ko_0.1 ko_0.2 (by decide)), PW.at _ hW hK hN⟩ rfl rfl hl.1 rfl (lv_room (Nat.le_of_ble_eq_true rfl)) d_Mod_writeCode_24 ⟨hRc, hRs⟩) hS (fun q _ h => hF q h) hF (fun  x615 t H locs ht hvm hw hB hz1 hk1 hS => ?_)
  have hW := Wd.back hB ht hF
  clear hB ht hF hz1 hk1 hvm
  refine lv_aload_n hx hb d_Mod_writeCode_27 rfl (lv_at hl 2 rfl) ?_
  have hF := hW.free hS hA
  refine va_callv (va_runV (C := R_Mod) (As := []) (rest := []) ⟨hx, hb, hml, hown, hT⟩ (k_Mod_writeLongs l dC dI cI cB cJ cZ ad H.size  x615  hw) ⟨callB_of 0 hT (gw_in w_11_219) rfl rfl rfl (hT _ w_1_15) (hT _ w_11_216) (by decide +kernel) ⟨Nat.le_trans (by decide) hRf, Nat.le_trans (by decide) hRl⟩, hT _ w_11_218, hT _ ws_158⟩ ⟨PW.blind, va_recv hK hW.1 (ci := 12) (q0 := 0) rfl (pic_obj ko_0.1 ko_0.2 (by decide)), PW.at _ hW hK hN⟩ rfl rfl hl.1 rfl (lv_room (Nat.le_of_ble_eq_true rfl)) d_Mod_writeCode_28 ⟨hRc, hRs⟩) hS (fun q _ h => hF q h) hF (fun  x616 t H locs ht hvm hw hB hz1 hk1 hS => ?_)
  have hW := Wd.back hB ht hF
  clear hB ht hF hz1 hk1 hvm
  exact hret x616 H locs 31 ls d_Mod_writeCode_31 hw hW hS
set_option maxHeartbeats 4000000 in
set_option maxRecDepth 100000 in
theorem k_Mod_writeCode (l : Launch) (dC : Nat → ClassId) (dI : Nat → Nat → Nat) (cI cB cJ cZ : ClassId) (ad : Nat → Nat) (sz : Nat)  (x : St) {post : St → Prop} (hw : wp_Mod_writeCode post  x) : Met l y_Mod_writeCode (wsOf y_Mod_writeCode b_Mod_writeCode 3 (none)) ({ frames := 3, cells := 0, slots := 0, locals := 75 }) (va_Pc [.ref (ad 0)] (PW dC dI cI cB cJ cZ ad stM kcM 115 sz x)) (va_Qv (fun (y : St) => post y) (fun y t => Wd dC dI cI cB cJ cZ ad stM kcM 115 (va_A (pic ad stM kcM 115 cI cB cJ cZ x) sz) y t.heap) (va_A (pic ad stM kcM 115 cI cB cJ cZ x) sz)) 0 0 (va_A (pic ad stM kcM 115 cI cB cJ cZ x) sz) := by
  refine Met.ofW (cc := b_Mod_writeCode) (maxL := 3) (ret := none) (by decide) rfl ?_
  intro p e s m args below meth c s₁ B hml hv
  obtain ⟨rfl, hsz, hW0, hK, hN⟩ := hv
  have hx := B.exec
  have hb := B.bytes
  have hr := B.returns
  have hts := atoms_spec B.pre
  have hT : ∀ w ∈ TG, w.before _ s = true := fun w h => hts w (List.mem_cons_of_mem _ h)
  have hown : s.vm.findClass R_Mod = some m.cls := findClass_of_methodNamed B.named
  have hlocks := B.notSynchronized
  subst hsz
  have hW : Wd dC dI cI cB cJ cZ ad stM kcM 115 (va_A (pic ad stM kcM 115 cI cB cJ cZ x) s.heap.size) x s.heap := ⟨hW0.1, hW0.2.1.self (sz := s.heap.size), hW0.2.2⟩
  generalize hAe : va_A (pic ad stM kcM 115 cI cB cJ cZ x) s.heap.size = A at hW ⊢
  have hA : ∀ q : Nat, s.heap.size ≤ q → A q := fun q h => by rw [← hAe]; exact Or.inr h
  have hS : va_S A s.heap s.heap [] := va_S.rf
  have hl := lv_entry ([.ref (ad 0)]) (n := 3) (Nat.le_of_ble_eq_true rfl)
  rw [lg_entry_eq]
  generalize (lg_sl ([.ref (ad 0)]) ++ List.replicate (3 - (lg_sl ([.ref (ad 0)])).length) Slot.unset).toArray = ls at hl ⊢
  have hl : lv_has ls 3 [(0, .ref (ad 0))] := hl
  exact t_Mod_writeCode_e hx hb hml hown hT hK hN hA (Nat.le_refl 0) (Nat.le_refl 0) (Nat.le_refl 3) (Nat.le_refl 75) (fun x H locs pc ls hd hp hW hS => W.vret hx hb hr (fun t ht hM => ⟨⟨x, rfl, hp, Wd.back hW ht.symm (fun _ z => z)⟩, hS.F ht⟩) hS.2.2 hd hlocks)   x _ _ ls  hw hW hS hl
set_option maxRecDepth 100000 in
def j_Mod_writeLengths_42 (post : St → Prop) (rec42 : Int32 → St → Prop) (l1 : Int32) (x : St) : Prop := (vp_in (fI x 0 42) (fN x 33) ∧ (((rA x 33 (fI x 0 42)) ≤ l1 → post x) ∧ (¬ (rA x 33 (fI x 0 42)) ≤ l1 → (vp_in l1 (fN x 36) ∧ wp_Mod_put (fun (x618 : St) => rec42 (l1 + 1) x618) (rA x 36 l1) x))))
set_option maxHeartbeats 4000000 in
set_option maxRecDepth 100000 in
theorem t_Mod_writeLengths_42 {p : Program} {l : Launch} {e : Env} {R : Room} {s : State} {m : MethodId} {args : Array Value} {below : List Frame} {meth : Method} {c : Code} {cells slots : Nat} {Q : State → Prop} {dC : Nat → ClassId} {dI : Nat → Nat → Nat} {cI cB cJ cZ : ClassId} {A : Nat → Prop} {ad : Nat → Nat} {post : St → Prop} {rec42 : Int32 → St → Prop} (hx : p.tables.exec = Jvm.exec) (hb : c.code = b_Mod_writeLengths) (hml : c.maxLocals = 2) (hown : s.vm.findClass R_Mod = some m.cls) (hT : ∀ w ∈ TG, w.before args s = true) (hK : va_K (dC, dI) CL (TY cI cB cJ cZ) s) (hN : NW s) (hA : ∀ q : Nat, s.heap.size ≤ q → A q) (hRc : cells ≤ R.cells) (hRs : slots ≤ R.slots) (hRf : 4 ≤ R.frames) (hRl : 97 ≤ R.locals) (hret : ∀ (x : St) (H : Heap) (locs : List Loc) (pc : Nat) (ls : Array Slot), decode b_Mod_writeLengths pc = .ok (.return_, 1) → post x → Wd dC dI cI cB cJ cZ ad stM kcM 115 A x H → va_S A s.heap H locs → W p l e R s m args below meth c H locs cells slots Q (F0 m pc ls [])) (hrec42 : ∀ (l1 : Int32) (x : St) (H : Heap) (locs : List Loc) (ls : Array Slot), rec42 l1 x → Wd dC dI cI cB cJ cZ ad stM kcM 115 A x H → va_S A s.heap H locs → lv_has ls 2 [(0, .ref (ad 0)), (1, .int l1)] → W p l e R s m args below meth c H locs cells slots Q (F0 m 42 ls [])) : ∀ (l1 : Int32) (x : St) (H : Heap) (locs : List Loc) (ls : Array Slot), j_Mod_writeLengths_42 post rec42 l1 x → Wd dC dI cI cB cJ cZ ad stM kcM 115 A x H → va_S A s.heap H locs → lv_has ls 2 [(0, .ref (ad 0)), (1, .int l1)] → W p l e R s m args below meth c H locs cells slots Q (F0 m 42 ls []) := by
  intro l1 x H locs ls  hw hW hS hl
  unfold j_Mod_writeLengths_42 at hw
  refine lv_iload_n hx hb d_Mod_writeLengths_42 rfl (lv_at hl 1 rfl) ?_
  refine lv_aload_n hx hb d_Mod_writeLengths_43 rfl (lv_at hl 0 rfl) ?_
  refine w_getf (q := 33) (k := 52) (t := 12) (C := R_Mod) (T := F_Mod) (N := 167) hx hb hT hown hK hW ko_0.1 ko_0.2 (by decide) in_Mod rfl rfl (by decide) rfl fr_Mod_52 w_8_232 d_Mod_writeLengths_44 rfl ?_
  refine lv_aload_n hx hb d_Mod_writeLengths_47 rfl (lv_at hl 0 rfl) ?_
  refine w_geti (k := 42) (t := 12) (C := R_Mod) (T := F_Mod) (N := 167) hx hb hT hown hK hW ko_0.1 ko_0.2 (by decide) in_Mod rfl rfl (by decide) rfl fr_Mod_42 w_8_222 d_Mod_writeLengths_48 ?_
  obtain ⟨hi, hw⟩ := hw
  refine w_iald (o := 33) hx hb hK hW ko_33.1 ko_33.2 hi d_Mod_writeLengths_51 ?_
  refine lv_icmp_ge (tgt := 71) hx hb d_Mod_writeLengths_52 (by decide) (fun c617 => ?_) (fun c617 => ?_)
  · have hw := hw.1 c617
    exact hret x H locs 71 ls d_Mod_writeLengths_71 hw hW hS
  · have hw := hw.2 c617
    refine lv_aload_n hx hb d_Mod_writeLengths_55 rfl (lv_at hl 0 rfl) ?_
    refine lv_aload_n hx hb d_Mod_writeLengths_56 rfl (lv_at hl 0 rfl) ?_
    refine w_getf (q := 36) (k := 55) (t := 12) (C := R_Mod) (T := F_Mod) (N := 167) hx hb hT hown hK hW ko_0.1 ko_0.2 (by decide) in_Mod rfl rfl (by decide) rfl fr_Mod_55 w_8_235 d_Mod_writeLengths_57 rfl ?_
    refine lv_iload_n hx hb d_Mod_writeLengths_60 rfl (lv_at hl 1 rfl) ?_
    obtain ⟨hi, hw⟩ := hw
    refine w_iald (o := 36) hx hb hK hW ko_36.1 ko_36.2 hi d_Mod_writeLengths_61 ?_
    have hF := hW.free hS hA
    refine va_callv (va_runV (C := R_Mod) (As := [.int (rA x 36 l1)]) (rest := []) ⟨hx, hb, hml, hown, hT⟩ (k_Mod_put l dC dI cI cB cJ cZ ad H.size (rA x 36 l1) x  hw) ⟨callB_of 1 hT (gw_in w_11_203) rfl rfl rfl (hT _ w_1_15) (hT _ w_11_200) (by decide +kernel) ⟨Nat.le_trans (by decide) hRf, Nat.le_trans (by decide) hRl⟩, hT _ w_11_202, hT _ ws_154⟩ ⟨PW.blind, va_recv hK hW.1 (ci := 12) (q0 := 0) rfl (pic_obj ko_0.1 ko_0.2 (by decide)), PW.at _ hW hK hN⟩ rfl rfl hl.1 rfl (lv_room (Nat.le_of_ble_eq_true rfl)) d_Mod_writeLengths_62 ⟨hRc, hRs⟩) hS (fun q _ h => hF q h) hF (fun  x618 t H locs ht hvm hw hB hz1 hk1 hS => ?_)
    have hW := Wd.back hB ht hF
    clear hB ht hF hz1 hk1 hvm
    refine lv_iinc (v := (l1 + 1)) (lv' := [(1, .int (l1 + 1)), (0, .ref (ad 0))]) hx hb d_Mod_writeLengths_65 hl (k := 1) rfl rfl (by decide) rfl (fun ls hl => ?_)
    refine lv_goto (tgt := 42) hx hb d_Mod_writeLengths_68 (by decide) ?_
    exact hrec42 (l1 + 1) x618 H locs ls  hw hW hS (lv_sub hl [1, 0] rfl)
def wl_Mod_writeLengths_42 (post : St → Prop) : Nat → Int32 → St → Prop
  | 0 => fun _ _ => False
  | n + 1 => j_Mod_writeLengths_42 post (wl_Mod_writeLengths_42 post n)
set_option maxHeartbeats 4000000 in
set_option maxRecDepth 100000 in
theorem tl_Mod_writeLengths_42 {p : Program} {l : Launch} {e : Env} {R : Room} {s : State} {m : MethodId} {args : Array Value} {below : List Frame} {meth : Method} {c : Code} {cells slots : Nat} {Q : State → Prop} {dC : Nat → ClassId} {dI : Nat → Nat → Nat} {cI cB cJ cZ : ClassId} {A : Nat → Prop} {ad : Nat → Nat} {post : St → Prop} (hx : p.tables.exec = Jvm.exec) (hb : c.code = b_Mod_writeLengths) (hml : c.maxLocals = 2) (hown : s.vm.findClass R_Mod = some m.cls) (hT : ∀ w ∈ TG, w.before args s = true) (hK : va_K (dC, dI) CL (TY cI cB cJ cZ) s) (hN : NW s) (hA : ∀ q : Nat, s.heap.size ≤ q → A q) (hRc : cells ≤ R.cells) (hRs : slots ≤ R.slots) (hRf : 4 ≤ R.frames) (hRl : 97 ≤ R.locals) (hret : ∀ (x : St) (H : Heap) (locs : List Loc) (pc : Nat) (ls : Array Slot), decode b_Mod_writeLengths pc = .ok (.return_, 1) → post x → Wd dC dI cI cB cJ cZ ad stM kcM 115 A x H → va_S A s.heap H locs → W p l e R s m args below meth c H locs cells slots Q (F0 m pc ls []))  : ∀ n : Nat, ∀ (l1 : Int32) (x : St) (H : Heap) (locs : List Loc) (ls : Array Slot), wl_Mod_writeLengths_42 post n l1 x → Wd dC dI cI cB cJ cZ ad stM kcM 115 A x H → va_S A s.heap H locs → lv_has ls 2 [(0, .ref (ad 0)), (1, .int l1)] → W p l e R s m args below meth c H locs cells slots Q (F0 m 42 ls []) := by
  intro n
  induction n with
  | zero => intro l1 x H locs ls  hw; exact hw.elim
  | succ n ih => intro l1 x H locs ls  hw hW hS hl; exact t_Mod_writeLengths_42 hx hb hml hown hT hK hN hA hRc hRs hRf hRl hret  ih l1 x H locs ls  hw hW hS hl
set_option maxRecDepth 100000 in
def j_Mod_writeLengths_10 (post : St → Prop) (rec10 : Int32 → St → Prop) (l1 : Int32) (x : St) : Prop := (((fI x 0 42) ≤ l1 → wp_Mod_writeCode (fun (x620 : St) => ∃ n : Nat, wl_Mod_writeLengths_42 post n 0 x620)  x) ∧ (¬ (fI x 0 42) ≤ l1 → wp_Mod_lengthOf (fun (r622 : Int32) (x621 : St) => (vp_in l1 (fN x621 43) ∧ ∀ x623 : St, x623 = setL x621 43 l1 (r622 : Int32).toInt64 → rec10 (l1 + 1) x623)) l1 x))
set_option maxHeartbeats 4000000 in
set_option maxRecDepth 100000 in
theorem t_Mod_writeLengths_10 {p : Program} {l : Launch} {e : Env} {R : Room} {s : State} {m : MethodId} {args : Array Value} {below : List Frame} {meth : Method} {c : Code} {cells slots : Nat} {Q : State → Prop} {dC : Nat → ClassId} {dI : Nat → Nat → Nat} {cI cB cJ cZ : ClassId} {A : Nat → Prop} {ad : Nat → Nat} {post : St → Prop} {rec10 : Int32 → St → Prop} (hx : p.tables.exec = Jvm.exec) (hb : c.code = b_Mod_writeLengths) (hml : c.maxLocals = 2) (hown : s.vm.findClass R_Mod = some m.cls) (hT : ∀ w ∈ TG, w.before args s = true) (hK : va_K (dC, dI) CL (TY cI cB cJ cZ) s) (hN : NW s) (hA : ∀ q : Nat, s.heap.size ≤ q → A q) (hRc : cells ≤ R.cells) (hRs : slots ≤ R.slots) (hRf : 4 ≤ R.frames) (hRl : 97 ≤ R.locals) (hret : ∀ (x : St) (H : Heap) (locs : List Loc) (pc : Nat) (ls : Array Slot), decode b_Mod_writeLengths pc = .ok (.return_, 1) → post x → Wd dC dI cI cB cJ cZ ad stM kcM 115 A x H → va_S A s.heap H locs → W p l e R s m args below meth c H locs cells slots Q (F0 m pc ls [])) (hrec10 : ∀ (l1 : Int32) (x : St) (H : Heap) (locs : List Loc) (ls : Array Slot), rec10 l1 x → Wd dC dI cI cB cJ cZ ad stM kcM 115 A x H → va_S A s.heap H locs → lv_has ls 2 [(0, .ref (ad 0)), (1, .int l1)] → W p l e R s m args below meth c H locs cells slots Q (F0 m 10 ls [])) : ∀ (l1 : Int32) (x : St) (H : Heap) (locs : List Loc) (ls : Array Slot), j_Mod_writeLengths_10 post rec10 l1 x → Wd dC dI cI cB cJ cZ ad stM kcM 115 A x H → va_S A s.heap H locs → lv_has ls 2 [(0, .ref (ad 0)), (1, .int l1)] → W p l e R s m args below meth c H locs cells slots Q (F0 m 10 ls []) := by
  intro l1 x H locs ls  hw hW hS hl
  unfold j_Mod_writeLengths_10 at hw
  refine lv_iload_n hx hb d_Mod_writeLengths_10 rfl (lv_at hl 1 rfl) ?_
  refine lv_aload_n hx hb d_Mod_writeLengths_11 rfl (lv_at hl 0 rfl) ?_
  refine w_geti (k := 42) (t := 12) (C := R_Mod) (T := F_Mod) (N := 167) hx hb hT hown hK hW ko_0.1 ko_0.2 (by decide) in_Mod rfl rfl (by decide) rfl fr_Mod_42 w_8_222 d_Mod_writeLengths_12 ?_
  refine lv_icmp_ge (tgt := 36) hx hb d_Mod_writeLengths_15 (by decide) (fun c619 => ?_) (fun c619 => ?_)
  · have hw := hw.1 c619
    refine lv_aload_n hx hb d_Mod_writeLengths_36 rfl (lv_at hl 0 rfl) ?_
    have hF := hW.free hS hA
    refine va_callv (va_runV (C := R_Mod) (As := []) (rest := []) ⟨hx, hb, hml, hown, hT⟩ (k_Mod_writeCode l dC dI cI cB cJ cZ ad H.size  x  hw) ⟨callB_of 0 hT (gw_in w_12_11) rfl rfl rfl (hT _ w_1_15) (hT _ w_12_8) (by decide +kernel) ⟨Nat.le_trans (by decide) hRf, Nat.le_trans (by decide) hRl⟩, hT _ w_12_10, hT _ ws_165⟩ ⟨PW.blind, va_recv hK hW.1 (ci := 12) (q0 := 0) rfl (pic_obj ko_0.1 ko_0.2 (by decide)), PW.at _ hW hK hN⟩ rfl rfl hl.1 rfl (lv_room (Nat.le_of_ble_eq_true rfl)) d_Mod_writeLengths_37 ⟨hRc, hRs⟩) hS (fun q _ h => hF q h) hF (fun  x620 t H locs ht hvm hw hB hz1 hk1 hS => ?_)
    have hW := Wd.back hB ht hF
    clear hB ht hF hz1 hk1 hvm
    refine lv_iconst (v := 0) hx hb d_Mod_writeLengths_40 (by decide) ?_
    refine lv_istore_n (lv' := [(1, .int 0), (0, .ref (ad 0))]) hx hb d_Mod_writeLengths_41 rfl hl (by decide) rfl (fun ls hl => ?_)
    obtain ⟨n, hw⟩ := hw
    exact tl_Mod_writeLengths_42 hx hb hml hown hT hK hN hA hRc hRs hRf hRl hret  n 0 x620 H locs ls  hw hW hS (lv_sub hl [1, 0] rfl)
  · have hw := hw.2 c619
    refine lv_aload_n hx hb d_Mod_writeLengths_18 rfl (lv_at hl 0 rfl) ?_
    refine w_getf (q := 43) (k := 70) (t := 12) (C := R_Mod) (T := F_Mod) (N := 167) hx hb hT hown hK hW ko_0.1 ko_0.2 (by decide) in_Mod rfl rfl (by decide) rfl fr_Mod_70 w_9_10 d_Mod_writeLengths_19 rfl ?_
    refine lv_iload_n hx hb d_Mod_writeLengths_22 rfl (lv_at hl 1 rfl) ?_
    refine lv_aload_n hx hb d_Mod_writeLengths_23 rfl (lv_at hl 0 rfl) ?_
    refine lv_iload_n hx hb d_Mod_writeLengths_24 rfl (lv_at hl 1 rfl) ?_
    have hF := hW.free hS hA
    refine va_calli (va_runV (C := R_Mod) (As := [.int l1]) (rest := [.int l1, .ref (ad 43)]) ⟨hx, hb, hml, hown, hT⟩ (k_Mod_lengthOf l dC dI cI cB cJ cZ ad H.size l1 x  hw) ⟨callB_of 1 hT (gw_in w_12_7) rfl rfl rfl (hT _ w_1_15) (hT _ w_12_4) (by decide +kernel) ⟨Nat.le_trans (by decide) hRf, Nat.le_trans (by decide) hRl⟩, hT _ w_12_6, hT _ ws_164⟩ ⟨PW.blind, va_recv hK hW.1 (ci := 12) (q0 := 0) rfl (pic_obj ko_0.1 ko_0.2 (by decide)), PW.at _ hW hK hN⟩ rfl rfl hl.1 rfl (lv_room (Nat.le_of_ble_eq_true rfl)) d_Mod_writeLengths_25 ⟨hRc, hRs⟩) hS (fun q _ h => hF q h) hF (fun r622 x621 t H locs ht hvm hw hB hz1 hk1 hS => ?_)
    have hW := Wd.back hB ht hF
    clear hB ht hF hz1 hk1 hvm
    refine lv_i2l hx hb d_Mod_writeLengths_28 rfl ?_
    obtain ⟨hi, hw⟩ := hw
    refine w_last (o := 43) hx hb hK hW hS ko_43.1 ko_43.2 hi d_Mod_writeLengths_29 (fun H locs hW hS => ?_)
    obtain ⟨x623, ex623⟩ : ∃ y : St, y = setL x621 43 l1 (r622 : Int32).toInt64 := ⟨_, rfl⟩
    rw [← ex623] at hW
    have hw := hw x623 ex623
    refine lv_iinc (v := (l1 + 1)) (lv' := [(1, .int (l1 + 1)), (0, .ref (ad 0))]) hx hb d_Mod_writeLengths_30 hl (k := 1) rfl rfl (by decide) rfl (fun ls hl => ?_)
    refine lv_goto (tgt := 10) hx hb d_Mod_writeLengths_33 (by decide) ?_
    exact hrec10 (l1 + 1) x623 H locs ls  hw hW hS (lv_sub hl [1, 0] rfl)
def wl_Mod_writeLengths_10 (post : St → Prop) : Nat → Int32 → St → Prop
  | 0 => fun _ _ => False
  | n + 1 => j_Mod_writeLengths_10 post (wl_Mod_writeLengths_10 post n)
set_option maxHeartbeats 4000000 in
set_option maxRecDepth 100000 in
theorem tl_Mod_writeLengths_10 {p : Program} {l : Launch} {e : Env} {R : Room} {s : State} {m : MethodId} {args : Array Value} {below : List Frame} {meth : Method} {c : Code} {cells slots : Nat} {Q : State → Prop} {dC : Nat → ClassId} {dI : Nat → Nat → Nat} {cI cB cJ cZ : ClassId} {A : Nat → Prop} {ad : Nat → Nat} {post : St → Prop} (hx : p.tables.exec = Jvm.exec) (hb : c.code = b_Mod_writeLengths) (hml : c.maxLocals = 2) (hown : s.vm.findClass R_Mod = some m.cls) (hT : ∀ w ∈ TG, w.before args s = true) (hK : va_K (dC, dI) CL (TY cI cB cJ cZ) s) (hN : NW s) (hA : ∀ q : Nat, s.heap.size ≤ q → A q) (hRc : cells ≤ R.cells) (hRs : slots ≤ R.slots) (hRf : 4 ≤ R.frames) (hRl : 97 ≤ R.locals) (hret : ∀ (x : St) (H : Heap) (locs : List Loc) (pc : Nat) (ls : Array Slot), decode b_Mod_writeLengths pc = .ok (.return_, 1) → post x → Wd dC dI cI cB cJ cZ ad stM kcM 115 A x H → va_S A s.heap H locs → W p l e R s m args below meth c H locs cells slots Q (F0 m pc ls []))  : ∀ n : Nat, ∀ (l1 : Int32) (x : St) (H : Heap) (locs : List Loc) (ls : Array Slot), wl_Mod_writeLengths_10 post n l1 x → Wd dC dI cI cB cJ cZ ad stM kcM 115 A x H → va_S A s.heap H locs → lv_has ls 2 [(0, .ref (ad 0)), (1, .int l1)] → W p l e R s m args below meth c H locs cells slots Q (F0 m 10 ls []) := by
  intro n
  induction n with
  | zero => intro l1 x H locs ls  hw; exact hw.elim
  | succ n ih => intro l1 x H locs ls  hw hW hS hl; exact t_Mod_writeLengths_10 hx hb hml hown hT hK hN hA hRc hRs hRf hRl hret  ih l1 x H locs ls  hw hW hS hl
set_option maxRecDepth 100000 in
def wp_Mod_writeLengths (post : St → Prop)  (x : St) : Prop := (∀ x624 : St, x624 = setI x 0 71 (fI x 0 42) → ∃ n : Nat, wl_Mod_writeLengths_10 post n 0 x624)
set_option maxHeartbeats 4000000 in
set_option maxRecDepth 100000 in
theorem t_Mod_writeLengths_e {p : Program} {l : Launch} {e : Env} {R : Room} {s : State} {m : MethodId} {args : Array Value} {below : List Frame} {meth : Method} {c : Code} {cells slots : Nat} {Q : State → Prop} {dC : Nat → ClassId} {dI : Nat → Nat → Nat} {cI cB cJ cZ : ClassId} {A : Nat → Prop} {ad : Nat → Nat} {post : St → Prop} (hx : p.tables.exec = Jvm.exec) (hb : c.code = b_Mod_writeLengths) (hml : c.maxLocals = 2) (hown : s.vm.findClass R_Mod = some m.cls) (hT : ∀ w ∈ TG, w.before args s = true) (hK : va_K (dC, dI) CL (TY cI cB cJ cZ) s) (hN : NW s) (hA : ∀ q : Nat, s.heap.size ≤ q → A q) (hRc : cells ≤ R.cells) (hRs : slots ≤ R.slots) (hRf : 4 ≤ R.frames) (hRl : 97 ≤ R.locals) (hret : ∀ (x : St) (H : Heap) (locs : List Loc) (pc : Nat) (ls : Array Slot), decode b_Mod_writeLengths pc = .ok (.return_, 1) → post x → Wd dC dI cI cB cJ cZ ad stM kcM 115 A x H → va_S A s.heap H locs → W p l e R s m args below meth c H locs cells slots Q (F0 m pc ls [])) : ∀  (x : St) (H : Heap) (locs : List Loc) (ls : Array Slot), wp_Mod_writeLengths post  x → Wd dC dI cI cB cJ cZ ad stM kcM 115 A x H → va_S A s.heap H locs → lv_has ls 2 [(0, .ref (ad 0))] → W p l e R s m args below meth c H locs cells slots Q (F0 m 0 ls []) := by
  intro  x H locs ls  hw hW hS hl
  unfold wp_Mod_writeLengths at hw
  refine lv_aload_n hx hb d_Mod_writeLengths_0 rfl (lv_at hl 0 rfl) ?_
  refine lv_aload_n hx hb d_Mod_writeLengths_1 rfl (lv_at hl 0 rfl) ?_
  refine w_geti (k := 42) (t := 12) (C := R_Mod) (T := F_Mod) (N := 167) hx hb hT hown hK hW ko_0.1 ko_0.2 (by decide) in_Mod rfl rfl (by decide) rfl fr_Mod_42 w_8_222 d_Mod_writeLengths_2 ?_
  refine w_puti (ty := .int) (k := 71) (t := 12) (C := R_Mod) (T := F_Mod) (N := 167) hx hb hT hown hK hW hS ko_0.1 ko_0.2 (by decide) in_Mod t_Mod t_Mod_ok n_Mod rfl rfl (by decide) rfl fr_Mod_71 w_9_11 (by decide +kernel) rfl rfl d_Mod_writeLengths_5 (fun H locs hW hS => ?_)
  obtain ⟨x624, ex624⟩ : ∃ y : St, y = setI x 0 71 (fI x 0 42) := ⟨_, rfl⟩
  rw [← ex624] at hW
  have hw := hw x624 ex624
  refine lv_iconst (v := 0) hx hb d_Mod_writeLengths_8 (by decide) ?_
  refine lv_istore_n (lv' := [(1, .int 0), (0, .ref (ad 0))]) hx hb d_Mod_writeLengths_9 rfl hl (by decide) rfl (fun ls hl => ?_)
  obtain ⟨n, hw⟩ := hw
  exact tl_Mod_writeLengths_10 hx hb hml hown hT hK hN hA hRc hRs hRf hRl hret  n 0 x624 H locs ls  hw hW hS (lv_sub hl [1, 0] rfl)
set_option maxHeartbeats 4000000 in
set_option maxRecDepth 100000 in
theorem k_Mod_writeLengths (l : Launch) (dC : Nat → ClassId) (dI : Nat → Nat → Nat) (cI cB cJ cZ : ClassId) (ad : Nat → Nat) (sz : Nat)  (x : St) {post : St → Prop} (hw : wp_Mod_writeLengths post  x) : Met l y_Mod_writeLengths (wsOf y_Mod_writeLengths b_Mod_writeLengths 2 (none)) ({ frames := 4, cells := 0, slots := 0, locals := 97 }) (va_Pc [.ref (ad 0)] (PW dC dI cI cB cJ cZ ad stM kcM 115 sz x)) (va_Qv (fun (y : St) => post y) (fun y t => Wd dC dI cI cB cJ cZ ad stM kcM 115 (va_A (pic ad stM kcM 115 cI cB cJ cZ x) sz) y t.heap) (va_A (pic ad stM kcM 115 cI cB cJ cZ x) sz)) 0 0 (va_A (pic ad stM kcM 115 cI cB cJ cZ x) sz) := by
  refine Met.ofW (cc := b_Mod_writeLengths) (maxL := 2) (ret := none) (by decide) rfl ?_
  intro p e s m args below meth c s₁ B hml hv
  obtain ⟨rfl, hsz, hW0, hK, hN⟩ := hv
  have hx := B.exec
  have hb := B.bytes
  have hr := B.returns
  have hts := atoms_spec B.pre
  have hT : ∀ w ∈ TG, w.before _ s = true := fun w h => hts w (List.mem_cons_of_mem _ h)
  have hown : s.vm.findClass R_Mod = some m.cls := findClass_of_methodNamed B.named
  have hlocks := B.notSynchronized
  subst hsz
  have hW : Wd dC dI cI cB cJ cZ ad stM kcM 115 (va_A (pic ad stM kcM 115 cI cB cJ cZ x) s.heap.size) x s.heap := ⟨hW0.1, hW0.2.1.self (sz := s.heap.size), hW0.2.2⟩
  generalize hAe : va_A (pic ad stM kcM 115 cI cB cJ cZ x) s.heap.size = A at hW ⊢
  have hA : ∀ q : Nat, s.heap.size ≤ q → A q := fun q h => by rw [← hAe]; exact Or.inr h
  have hS : va_S A s.heap s.heap [] := va_S.rf
  have hl := lv_entry ([.ref (ad 0)]) (n := 2) (Nat.le_of_ble_eq_true rfl)
  rw [lg_entry_eq]
  generalize (lg_sl ([.ref (ad 0)]) ++ List.replicate (2 - (lg_sl ([.ref (ad 0)])).length) Slot.unset).toArray = ls at hl ⊢
  have hl : lv_has ls 2 [(0, .ref (ad 0))] := hl
  exact t_Mod_writeLengths_e hx hb hml hown hT hK hN hA (Nat.le_refl 0) (Nat.le_refl 0) (Nat.le_refl 4) (Nat.le_refl 97) (fun x H locs pc ls hd hp hW hS => W.vret hx hb hr (fun t ht hM => ⟨⟨x, rfl, hp, Wd.back hW ht.symm (fun _ z => z)⟩, hS.F ht⟩) hS.2.2 hd hlocks)   x _ _ ls  hw hW hS hl
set_option maxRecDepth 100000 in
def j_Mod_inCommon_63 (post : Int32 → St → Prop) (l1 : Int32) (l2 : Int32) (x : St) : Prop := post l2 x
set_option maxHeartbeats 4000000 in
set_option maxRecDepth 100000 in
theorem t_Mod_inCommon_63 {p : Program} {l : Launch} {e : Env} {R : Room} {s : State} {m : MethodId} {args : Array Value} {below : List Frame} {meth : Method} {c : Code} {cells slots : Nat} {Q : State → Prop} {dC : Nat → ClassId} {dI : Nat → Nat → Nat} {cI cB cJ cZ : ClassId} {A : Nat → Prop} {ad : Nat → Nat} {post : Int32 → St → Prop} (hx : p.tables.exec = Jvm.exec) (hb : c.code = b_Mod_inCommon) (hml : c.maxLocals = 3) (hown : s.vm.findClass R_Mod = some m.cls) (hT : ∀ w ∈ TG, w.before args s = true) (hK : va_K (dC, dI) CL (TY cI cB cJ cZ) s) (hN : NW s) (hA : ∀ q : Nat, s.heap.size ≤ q → A q) (hRc : cells ≤ R.cells) (hRs : slots ≤ R.slots) (hRf : 1 ≤ R.frames) (hRl : 21 ≤ R.locals) (hret : ∀ (r : Int32) (x : St) (H : Heap) (locs : List Loc) (pc : Nat) (ls : Array Slot), decode b_Mod_inCommon pc = .ok (.ireturn, 1) → post r x → Wd dC dI cI cB cJ cZ ad stM kcM 115 A x H → va_S A s.heap H locs → W p l e R s m args below meth c H locs cells slots Q (F0 m pc ls [.int r]))  : ∀ (l1 : Int32) (l2 : Int32) (x : St) (H : Heap) (locs : List Loc) (ls : Array Slot), j_Mod_inCommon_63 post l1 l2 x → Wd dC dI cI cB cJ cZ ad stM kcM 115 A x H → va_S A s.heap H locs → lv_has ls 3 [(0, .ref (ad 0)), (1, .int l1), (2, .int l2)] → W p l e R s m args below meth c H locs cells slots Q (F0 m 63 ls []) := by
  intro l1 l2 x H locs ls  hw hW hS hl
  unfold j_Mod_inCommon_63 at hw
  refine lv_iload_n hx hb d_Mod_inCommon_63 rfl (lv_at hl 2 rfl) ?_
  exact hret l2 x H locs 64 ls d_Mod_inCommon_64 hw hW hS
set_option maxRecDepth 100000 in
def j_Mod_inCommon_2 (post : Int32 → St → Prop) (rec2 : Int32 → Int32 → St → Prop) (l1 : Int32) (l2 : Int32) (x : St) : Prop := ((l1 ≤ 0 → j_Mod_inCommon_63 post l1 l2 x) ∧ (¬ l1 ≤ 0 → wp_Mod_lengthOf (fun (r627 : Int32) (x626 : St) => ((r627 ≤ l2 → j_Mod_inCommon_63 post l1 l2 x626) ∧ (¬ r627 ≤ l2 → wp_Mod_lengthOf (fun (r630 : Int32) (x629 : St) => ((r630 ≤ l2 → j_Mod_inCommon_63 post l1 l2 x629) ∧ (¬ r630 ≤ l2 → (vp_in l1 (fN x629 33) ∧ (vp_in ((rA x629 33 l1) + l2) (fN x629 36) ∧ (vp_in (l1 - 1) (fN x629 33) ∧ (vp_in ((rA x629 33 (l1 - 1)) + l2) (fN x629 36) ∧ ((¬ (rA x629 36 ((rA x629 33 l1) + l2)) = (rA x629 36 ((rA x629 33 (l1 - 1)) + l2)) → j_Mod_inCommon_63 post l1 l2 x629) ∧ ((rA x629 36 ((rA x629 33 l1) + l2)) = (rA x629 36 ((rA x629 33 (l1 - 1)) + l2)) → rec2 l1 (l2 + 1) x629))))))))) (l1 - 1) x626))) l1 x))
set_option maxHeartbeats 4000000 in
set_option maxRecDepth 100000 in
theorem t_Mod_inCommon_2 {p : Program} {l : Launch} {e : Env} {R : Room} {s : State} {m : MethodId} {args : Array Value} {below : List Frame} {meth : Method} {c : Code} {cells slots : Nat} {Q : State → Prop} {dC : Nat → ClassId} {dI : Nat → Nat → Nat} {cI cB cJ cZ : ClassId} {A : Nat → Prop} {ad : Nat → Nat} {post : Int32 → St → Prop} {rec2 : Int32 → Int32 → St → Prop} (hx : p.tables.exec = Jvm.exec) (hb : c.code = b_Mod_inCommon) (hml : c.maxLocals = 3) (hown : s.vm.findClass R_Mod = some m.cls) (hT : ∀ w ∈ TG, w.before args s = true) (hK : va_K (dC, dI) CL (TY cI cB cJ cZ) s) (hN : NW s) (hA : ∀ q : Nat, s.heap.size ≤ q → A q) (hRc : cells ≤ R.cells) (hRs : slots ≤ R.slots) (hRf : 1 ≤ R.frames) (hRl : 21 ≤ R.locals) (hret : ∀ (r : Int32) (x : St) (H : Heap) (locs : List Loc) (pc : Nat) (ls : Array Slot), decode b_Mod_inCommon pc = .ok (.ireturn, 1) → post r x → Wd dC dI cI cB cJ cZ ad stM kcM 115 A x H → va_S A s.heap H locs → W p l e R s m args below meth c H locs cells slots Q (F0 m pc ls [.int r])) (hrec2 : ∀ (l1 : Int32) (l2 : Int32) (x : St) (H : Heap) (locs : List Loc) (ls : Array Slot), rec2 l1 l2 x → Wd dC dI cI cB cJ cZ ad stM kcM 115 A x H → va_S A s.heap H locs → lv_has ls 3 [(0, .ref (ad 0)), (1, .int l1), (2, .int l2)] → W p l e R s m args below meth c H locs cells slots Q (F0 m 2 ls [])) : ∀ (l1 : Int32) (l2 : Int32) (x : St) (H : Heap) (locs : List Loc) (ls : Array Slot), j_Mod_inCommon_2 post rec2 l1 l2 x → Wd dC dI cI cB cJ cZ ad stM kcM 115 A x H → va_S A s.heap H locs → lv_has ls 3 [(0, .ref (ad 0)), (1, .int l1), (2, .int l2)] → W p l e R s m args below meth c H locs cells slots Q (F0 m 2 ls []) := by
  intro l1 l2 x H locs ls  hw hW hS hl
  unfold j_Mod_inCommon_2 at hw
  refine lv_iload_n hx hb d_Mod_inCommon_2 rfl (lv_at hl 1 rfl) ?_
  refine lv_if_le (tgt := 63) hx hb d_Mod_inCommon_3 (by decide) (fun c625 => ?_) (fun c625 => ?_)
  · have hw := hw.1 c625
    exact t_Mod_inCommon_63 hx hb hml hown hT hK hN hA hRc hRs hRf hRl hret  l1 l2 x H locs ls  hw hW hS (lv_sub hl [0, 1, 2] rfl)
  · have hw := hw.2 c625
    refine lv_iload_n hx hb d_Mod_inCommon_6 rfl (lv_at hl 2 rfl) ?_
    refine lv_aload_n hx hb d_Mod_inCommon_7 rfl (lv_at hl 0 rfl) ?_
    refine lv_iload_n hx hb d_Mod_inCommon_8 rfl (lv_at hl 1 rfl) ?_
    have hF := hW.free hS hA
    refine va_calli (va_runV (C := R_Mod) (As := [.int l1]) (rest := [.int l2]) ⟨hx, hb, hml, hown, hT⟩ (k_Mod_lengthOf l dC dI cI cB cJ cZ ad H.size l1 x  hw) ⟨callB_of 1 hT (gw_in w_12_7) rfl rfl rfl (hT _ w_1_15) (hT _ w_12_4) (by decide +kernel) ⟨Nat.le_trans (by decide) hRf, Nat.le_trans (by decide) hRl⟩, hT _ w_12_6, hT _ ws_164⟩ ⟨PW.blind, va_recv hK hW.1 (ci := 12) (q0 := 0) rfl (pic_obj ko_0.1 ko_0.2 (by decide)), PW.at _ hW hK hN⟩ rfl rfl hl.1 rfl (lv_room (Nat.le_of_ble_eq_true rfl)) d_Mod_inCommon_9 ⟨hRc, hRs⟩) hS (fun q _ h => hF q h) hF (fun r627 x626 t H locs ht hvm hw hB hz1 hk1 hS => ?_)
    have hW := Wd.back hB ht hF
    clear hB ht hF hz1 hk1 hvm
    refine lv_icmp_ge (tgt := 63) hx hb d_Mod_inCommon_12 (by decide) (fun c628 => ?_) (fun c628 => ?_)
    · have hw := hw.1 c628
      exact t_Mod_inCommon_63 hx hb hml hown hT hK hN hA hRc hRs hRf hRl hret  l1 l2 x626 H locs ls  hw hW hS (lv_sub hl [0, 1, 2] rfl)
    · have hw := hw.2 c628
      refine lv_iload_n hx hb d_Mod_inCommon_15 rfl (lv_at hl 2 rfl) ?_
      refine lv_aload_n hx hb d_Mod_inCommon_16 rfl (lv_at hl 0 rfl) ?_
      refine lv_iload_n hx hb d_Mod_inCommon_17 rfl (lv_at hl 1 rfl) ?_
      refine lv_iconst (v := 1) hx hb d_Mod_inCommon_18 (by decide) ?_
      refine lv_isub hx hb d_Mod_inCommon_19 ?_
      have hF := hW.free hS hA
      refine va_calli (va_runV (C := R_Mod) (As := [.int (l1 - 1)]) (rest := [.int l2]) ⟨hx, hb, hml, hown, hT⟩ (k_Mod_lengthOf l dC dI cI cB cJ cZ ad H.size (l1 - 1) x626  hw) ⟨callB_of 1 hT (gw_in w_12_7) rfl rfl rfl (hT _ w_1_15) (hT _ w_12_4) (by decide +kernel) ⟨Nat.le_trans (by decide) hRf, Nat.le_trans (by decide) hRl⟩, hT _ w_12_6, hT _ ws_164⟩ ⟨PW.blind, va_recv hK hW.1 (ci := 12) (q0 := 0) rfl (pic_obj ko_0.1 ko_0.2 (by decide)), PW.at _ hW hK hN⟩ rfl rfl hl.1 rfl (lv_room (Nat.le_of_ble_eq_true rfl)) d_Mod_inCommon_20 ⟨hRc, hRs⟩) hS (fun q _ h => hF q h) hF (fun r630 x629 t H locs ht hvm hw hB hz1 hk1 hS => ?_)
      have hW := Wd.back hB ht hF
      clear hB ht hF hz1 hk1 hvm
      refine lv_icmp_ge (tgt := 63) hx hb d_Mod_inCommon_23 (by decide) (fun c631 => ?_) (fun c631 => ?_)
      · have hw := hw.1 c631
        exact t_Mod_inCommon_63 hx hb hml hown hT hK hN hA hRc hRs hRf hRl hret  l1 l2 x629 H locs ls  hw hW hS (lv_sub hl [0, 1, 2] rfl)
      · have hw := hw.2 c631
        refine lv_aload_n hx hb d_Mod_inCommon_26 rfl (lv_at hl 0 rfl) ?_
        refine w_getf (q := 36) (k := 55) (t := 12) (C := R_Mod) (T := F_Mod) (N := 167) hx hb hT hown hK hW ko_0.1 ko_0.2 (by decide) in_Mod rfl rfl (by decide) rfl fr_Mod_55 w_8_235 d_Mod_inCommon_27 rfl ?_
        refine lv_aload_n hx hb d_Mod_inCommon_30 rfl (lv_at hl 0 rfl) ?_
        refine w_getf (q := 33) (k := 52) (t := 12) (C := R_Mod) (T := F_Mod) (N := 167) hx hb hT hown hK hW ko_0.1 ko_0.2 (by decide) in_Mod rfl rfl (by decide) rfl fr_Mod_52 w_8_232 d_Mod_inCommon_31 rfl ?_
        refine lv_iload_n hx hb d_Mod_inCommon_34 rfl (lv_at hl 1 rfl) ?_
        obtain ⟨hi, hw⟩ := hw
        refine w_iald (o := 33) hx hb hK hW ko_33.1 ko_33.2 hi d_Mod_inCommon_35 ?_
        refine lv_iload_n hx hb d_Mod_inCommon_36 rfl (lv_at hl 2 rfl) ?_
        refine lv_iadd hx hb d_Mod_inCommon_37 ?_
        obtain ⟨hi, hw⟩ := hw
        refine w_iald (o := 36) hx hb hK hW ko_36.1 ko_36.2 hi d_Mod_inCommon_38 ?_
        refine lv_aload_n hx hb d_Mod_inCommon_39 rfl (lv_at hl 0 rfl) ?_
        refine w_getf (q := 36) (k := 55) (t := 12) (C := R_Mod) (T := F_Mod) (N := 167) hx hb hT hown hK hW ko_0.1 ko_0.2 (by decide) in_Mod rfl rfl (by decide) rfl fr_Mod_55 w_8_235 d_Mod_inCommon_40 rfl ?_
        refine lv_aload_n hx hb d_Mod_inCommon_43 rfl (lv_at hl 0 rfl) ?_
        refine w_getf (q := 33) (k := 52) (t := 12) (C := R_Mod) (T := F_Mod) (N := 167) hx hb hT hown hK hW ko_0.1 ko_0.2 (by decide) in_Mod rfl rfl (by decide) rfl fr_Mod_52 w_8_232 d_Mod_inCommon_44 rfl ?_
        refine lv_iload_n hx hb d_Mod_inCommon_47 rfl (lv_at hl 1 rfl) ?_
        refine lv_iconst (v := 1) hx hb d_Mod_inCommon_48 (by decide) ?_
        refine lv_isub hx hb d_Mod_inCommon_49 ?_
        obtain ⟨hi, hw⟩ := hw
        refine w_iald (o := 33) hx hb hK hW ko_33.1 ko_33.2 hi d_Mod_inCommon_50 ?_
        refine lv_iload_n hx hb d_Mod_inCommon_51 rfl (lv_at hl 2 rfl) ?_
        refine lv_iadd hx hb d_Mod_inCommon_52 ?_
        obtain ⟨hi, hw⟩ := hw
        refine w_iald (o := 36) hx hb hK hW ko_36.1 ko_36.2 hi d_Mod_inCommon_53 ?_
        refine lv_icmp_ne (tgt := 63) hx hb d_Mod_inCommon_54 (by decide) (fun c632 => ?_) (fun c632 => ?_)
        · have hw := hw.1 c632
          exact t_Mod_inCommon_63 hx hb hml hown hT hK hN hA hRc hRs hRf hRl hret  l1 l2 x629 H locs ls  hw hW hS (lv_sub hl [0, 1, 2] rfl)
        · have hw := hw.2 c632
          refine lv_iinc (v := (l2 + 1)) (lv' := [(2, .int (l2 + 1)), (0, .ref (ad 0)), (1, .int l1)]) hx hb d_Mod_inCommon_57 hl (k := 2) rfl rfl (by decide) rfl (fun ls hl => ?_)
          refine lv_goto (tgt := 2) hx hb d_Mod_inCommon_60 (by decide) ?_
          exact hrec2 l1 (l2 + 1) x629 H locs ls  hw hW hS (lv_sub hl [1, 2, 0] rfl)
def wl_Mod_inCommon_2 (post : Int32 → St → Prop) : Nat → Int32 → Int32 → St → Prop
  | 0 => fun _ _ _ => False
  | n + 1 => j_Mod_inCommon_2 post (wl_Mod_inCommon_2 post n)
set_option maxHeartbeats 4000000 in
set_option maxRecDepth 100000 in
theorem tl_Mod_inCommon_2 {p : Program} {l : Launch} {e : Env} {R : Room} {s : State} {m : MethodId} {args : Array Value} {below : List Frame} {meth : Method} {c : Code} {cells slots : Nat} {Q : State → Prop} {dC : Nat → ClassId} {dI : Nat → Nat → Nat} {cI cB cJ cZ : ClassId} {A : Nat → Prop} {ad : Nat → Nat} {post : Int32 → St → Prop} (hx : p.tables.exec = Jvm.exec) (hb : c.code = b_Mod_inCommon) (hml : c.maxLocals = 3) (hown : s.vm.findClass R_Mod = some m.cls) (hT : ∀ w ∈ TG, w.before args s = true) (hK : va_K (dC, dI) CL (TY cI cB cJ cZ) s) (hN : NW s) (hA : ∀ q : Nat, s.heap.size ≤ q → A q) (hRc : cells ≤ R.cells) (hRs : slots ≤ R.slots) (hRf : 1 ≤ R.frames) (hRl : 21 ≤ R.locals) (hret : ∀ (r : Int32) (x : St) (H : Heap) (locs : List Loc) (pc : Nat) (ls : Array Slot), decode b_Mod_inCommon pc = .ok (.ireturn, 1) → post r x → Wd dC dI cI cB cJ cZ ad stM kcM 115 A x H → va_S A s.heap H locs → W p l e R s m args below meth c H locs cells slots Q (F0 m pc ls [.int r]))  : ∀ n : Nat, ∀ (l1 : Int32) (l2 : Int32) (x : St) (H : Heap) (locs : List Loc) (ls : Array Slot), wl_Mod_inCommon_2 post n l1 l2 x → Wd dC dI cI cB cJ cZ ad stM kcM 115 A x H → va_S A s.heap H locs → lv_has ls 3 [(0, .ref (ad 0)), (1, .int l1), (2, .int l2)] → W p l e R s m args below meth c H locs cells slots Q (F0 m 2 ls []) := by
  intro n
  induction n with
  | zero => intro l1 l2 x H locs ls  hw; exact hw.elim
  | succ n ih => intro l1 l2 x H locs ls  hw hW hS hl; exact t_Mod_inCommon_2 hx hb hml hown hT hK hN hA hRc hRs hRf hRl hret  ih l1 l2 x H locs ls  hw hW hS hl
set_option maxRecDepth 100000 in
def wp_Mod_inCommon (post : Int32 → St → Prop) (l1 : Int32) (x : St) : Prop := ∃ n : Nat, wl_Mod_inCommon_2 post n l1 0 x
set_option maxHeartbeats 4000000 in
set_option maxRecDepth 100000 in
theorem t_Mod_inCommon_e {p : Program} {l : Launch} {e : Env} {R : Room} {s : State} {m : MethodId} {args : Array Value} {below : List Frame} {meth : Method} {c : Code} {cells slots : Nat} {Q : State → Prop} {dC : Nat → ClassId} {dI : Nat → Nat → Nat} {cI cB cJ cZ : ClassId} {A : Nat → Prop} {ad : Nat → Nat} {post : Int32 → St → Prop} (hx : p.tables.exec = Jvm.exec) (hb : c.code = b_Mod_inCommon) (hml : c.maxLocals = 3) (hown : s.vm.findClass R_Mod = some m.cls) (hT : ∀ w ∈ TG, w.before args s = true) (hK : va_K (dC, dI) CL (TY cI cB cJ cZ) s) (hN : NW s) (hA : ∀ q : Nat, s.heap.size ≤ q → A q) (hRc : cells ≤ R.cells) (hRs : slots ≤ R.slots) (hRf : 1 ≤ R.frames) (hRl : 21 ≤ R.locals) (hret : ∀ (r : Int32) (x : St) (H : Heap) (locs : List Loc) (pc : Nat) (ls : Array Slot), decode b_Mod_inCommon pc = .ok (.ireturn, 1) → post r x → Wd dC dI cI cB cJ cZ ad stM kcM 115 A x H → va_S A s.heap H locs → W p l e R s m args below meth c H locs cells slots Q (F0 m pc ls [.int r])) : ∀ (l1 : Int32) (x : St) (H : Heap) (locs : List Loc) (ls : Array Slot), wp_Mod_inCommon post l1 x → Wd dC dI cI cB cJ cZ ad stM kcM 115 A x H → va_S A s.heap H locs → lv_has ls 3 [(0, .ref (ad 0)), (1, .int l1)] → W p l e R s m args below meth c H locs cells slots Q (F0 m 0 ls []) := by
  intro l1 x H locs ls  hw hW hS hl
  unfold wp_Mod_inCommon at hw
  refine lv_iconst (v := 0) hx hb d_Mod_inCommon_0 (by decide) ?_
  refine lv_istore_n (lv' := [(2, .int 0), (0, .ref (ad 0)), (1, .int l1)]) hx hb d_Mod_inCommon_1 rfl hl (by decide) rfl (fun ls hl => ?_)
  obtain ⟨n, hw⟩ := hw
  exact tl_Mod_inCommon_2 hx hb hml hown hT hK hN hA hRc hRs hRf hRl hret  n l1 0 x H locs ls  hw hW hS (lv_sub hl [1, 2, 0] rfl)
set_option maxHeartbeats 4000000 in
set_option maxRecDepth 100000 in
theorem k_Mod_inCommon (l : Launch) (dC : Nat → ClassId) (dI : Nat → Nat → Nat) (cI cB cJ cZ : ClassId) (ad : Nat → Nat) (sz : Nat) (l1 : Int32) (x : St) {post : Int32 → St → Prop} (hw : wp_Mod_inCommon post l1 x) : Met l y_Mod_inCommon (wsOf y_Mod_inCommon b_Mod_inCommon 3 (some (.int))) ({ frames := 1, cells := 0, slots := 0, locals := 21 }) (va_Pc [.ref (ad 0), .int l1] (PW dC dI cI cB cJ cZ ad stM kcM 115 sz x)) (va_Qi (fun (r : Int32) (y : St) => post r y) (fun y t => Wd dC dI cI cB cJ cZ ad stM kcM 115 (va_A (pic ad stM kcM 115 cI cB cJ cZ x) sz) y t.heap) (va_A (pic ad stM kcM 115 cI cB cJ cZ x) sz)) 0 0 (va_A (pic ad stM kcM 115 cI cB cJ cZ x) sz) := by
  refine Met.ofW (cc := b_Mod_inCommon) (maxL := 3) (ret := some (.int)) (by decide) rfl ?_
  intro p e s m args below meth c s₁ B hml hv
  obtain ⟨rfl, hsz, hW0, hK, hN⟩ := hv
  have hx := B.exec
  have hb := B.bytes
  have hr := B.returns
  have hts := atoms_spec B.pre
  have hT : ∀ w ∈ TG, w.before _ s = true := fun w h => hts w (List.mem_cons_of_mem _ h)
  have hown : s.vm.findClass R_Mod = some m.cls := findClass_of_methodNamed B.named
  have hlocks := B.notSynchronized
  subst hsz
  have hW : Wd dC dI cI cB cJ cZ ad stM kcM 115 (va_A (pic ad stM kcM 115 cI cB cJ cZ x) s.heap.size) x s.heap := ⟨hW0.1, hW0.2.1.self (sz := s.heap.size), hW0.2.2⟩
  generalize hAe : va_A (pic ad stM kcM 115 cI cB cJ cZ x) s.heap.size = A at hW ⊢
  have hA : ∀ q : Nat, s.heap.size ≤ q → A q := fun q h => by rw [← hAe]; exact Or.inr h
  have hS : va_S A s.heap s.heap [] := va_S.rf
  have hl := lv_entry ([.ref (ad 0), .int l1]) (n := 3) (Nat.le_of_ble_eq_true rfl)
  rw [lg_entry_eq]
  generalize (lg_sl ([.ref (ad 0), .int l1]) ++ List.replicate (3 - (lg_sl ([.ref (ad 0), .int l1])).length) Slot.unset).toArray = ls at hl ⊢
  have hl : lv_has ls 3 [(0, .ref (ad 0)), (1, .int l1)] := hl
  exact t_Mod_inCommon_e hx hb hml hown hT hK hN hA (Nat.le_refl 0) (Nat.le_refl 0) (Nat.le_refl 1) (Nat.le_refl 21) (fun r x H locs pc ls hd hp hW hS => W.iret (v := r) hx hb hr (fun t ht hM => ⟨⟨r, x, rfl, hp, Wd.back hW ht.symm (fun _ z => z)⟩, hS.F ht⟩) hS.2.2 hd hlocks)  l1 x _ _ ls  hw hW hS hl
end
