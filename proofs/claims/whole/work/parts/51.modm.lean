theorem fr_Mod_71 : F_Mod 71 = (R_Mod, "longCount", "I", false) := rfl
theorem w_11_204 : (Jvm.Cond.methodLink "StripedVaultModel" (651 : Nat) ({ cls := "StripedVaultModel", name := "wide", desc := "()I" } : Jvm.MethodName)) ∈ TG := tw_11 204 (by decide +kernel) (by decide +kernel)
theorem w_11_206 : (Jvm.Cond.instanceMethod ({ cls := "StripedVaultModel", name := "wide", desc := "()I" } : Jvm.MethodName)) ∈ TG := tw_11 206 (by decide +kernel) (by decide +kernel)
theorem w_11_207 : (Jvm.Cond.code ({ cls := "StripedVaultModel", name := "wide", desc := "()I" } : Jvm.MethodName) prog_14_method_77_code (1 : Nat) (Option.some Jvm.ClassFile.FieldType.int)) ∈ TG := tw_11 207 (by decide +kernel) (by decide +kernel)
theorem w_11_208 : (Jvm.Cond.methodLink "StripedVaultModel" (654 : Nat) ({ cls := "StripedVaultModel", name := "putFixed", desc := "(JI)V" } : Jvm.MethodName)) ∈ TG := tw_11 208 (by decide +kernel) (by decide +kernel)
theorem w_11_210 : (Jvm.Cond.instanceMethod ({ cls := "StripedVaultModel", name := "putFixed", desc := "(JI)V" } : Jvm.MethodName)) ∈ TG := tw_11 210 (by decide +kernel) (by decide +kernel)
theorem w_11_211 : (Jvm.Cond.code ({ cls := "StripedVaultModel", name := "putFixed", desc := "(JI)V" } : Jvm.MethodName) prog_14_method_49_code (5 : Nat) (Option.none : Option Jvm.ClassFile.FieldType)) ∈ TG := tw_11 211 (by decide +kernel) (by decide +kernel)
theorem w_11_212 : (Jvm.Cond.methodLink "StripedVaultModel" (588 : Nat) ({ cls := "StripedVaultModel", name := "writeLongs", desc := "()V" } : Jvm.MethodName)) ∈ TG := tw_11 212 (by decide +kernel) (by decide +kernel)
theorem w_11_214 : (Jvm.Cond.instanceMethod ({ cls := "StripedVaultModel", name := "writeLongs", desc := "()V" } : Jvm.MethodName)) ∈ TG := tw_11 214 (by decide +kernel) (by decide +kernel)
theorem w_11_215 : (Jvm.Cond.code ({ cls := "StripedVaultModel", name := "writeLongs", desc := "()V" } : Jvm.MethodName) prog_14_method_61_code (6 : Nat) (Option.none : Option Jvm.ClassFile.FieldType)) ∈ TG := tw_11 215 (by decide +kernel) (by decide +kernel)
theorem w_11_216 : (Jvm.Cond.methodLink "StripedVaultModel" (594 : Nat) ({ cls := "StripedVaultModel", name := "zigzag", desc := "(J)J" } : Jvm.MethodName)) ∈ TG := tw_11 216 (by decide +kernel) (by decide +kernel)
theorem w_11_217 : (Jvm.Cond.static ({ cls := "StripedVaultModel", name := "zigzag", desc := "(J)J" } : Jvm.MethodName)) ∈ TG := tw_11 217 (by decide +kernel) (by decide +kernel)
theorem w_11_218 : (Jvm.Cond.code ({ cls := "StripedVaultModel", name := "zigzag", desc := "(J)J" } : Jvm.MethodName) prog_14_method_57_code (2 : Nat) (Option.some Jvm.ClassFile.FieldType.long)) ∈ TG := tw_11 218 (by decide +kernel) (by decide +kernel)
theorem w_11_224 : (Jvm.Cond.methodLink "StripedVaultModel" (601 : Nat) ({ cls := "StripedVaultModel", name := "widthOf", desc := "(IIJ)I" } : Jvm.MethodName)) ∈ TG := tw_11 224 (by decide +kernel) (by decide +kernel)
theorem w_11_226 : (Jvm.Cond.instanceMethod ({ cls := "StripedVaultModel", name := "widthOf", desc := "(IIJ)I" } : Jvm.MethodName)) ∈ TG := tw_11 226 (by decide +kernel) (by decide +kernel)
theorem w_11_227 : (Jvm.Cond.code ({ cls := "StripedVaultModel", name := "widthOf", desc := "(IIJ)I" } : Jvm.MethodName) prog_14_method_62_code (7 : Nat) (Option.some Jvm.ClassFile.FieldType.int)) ∈ TG := tw_11 227 (by decide +kernel) (by decide +kernel)
theorem w_11_228 : (Jvm.Cond.methodLink "StripedVaultModel" (604 : Nat) ({ cls := "StripedVaultModel", name := "writePart", desc := "(IIJI)V" } : Jvm.MethodName)) ∈ TG := tw_11 228 (by decide +kernel) (by decide +kernel)
theorem w_11_230 : (Jvm.Cond.instanceMethod ({ cls := "StripedVaultModel", name := "writePart", desc := "(IIJI)V" } : Jvm.MethodName)) ∈ TG := tw_11 230 (by decide +kernel) (by decide +kernel)
theorem w_11_231 : (Jvm.Cond.code ({ cls := "StripedVaultModel", name := "writePart", desc := "(IIJI)V" } : Jvm.MethodName) prog_14_method_63_code (10 : Nat) (Option.none : Option Jvm.ClassFile.FieldType)) ∈ TG := tw_11 231 (by decide +kernel) (by decide +kernel)
theorem w_11_232 : (Jvm.Cond.methodLink "StripedVaultModel" (658 : Nat) ({ cls := "StripedVaultModel", name := "firstWhole", desc := "(I)I" } : Jvm.MethodName)) ∈ TG := tw_11 232 (by decide +kernel) (by decide +kernel)
theorem w_11_234 : (Jvm.Cond.instanceMethod ({ cls := "StripedVaultModel", name := "firstWhole", desc := "(I)I" } : Jvm.MethodName)) ∈ TG := tw_11 234 (by decide +kernel) (by decide +kernel)
theorem w_11_235 : (Jvm.Cond.code ({ cls := "StripedVaultModel", name := "firstWhole", desc := "(I)I" } : Jvm.MethodName) prog_14_method_79_code (3 : Nat) (Option.some Jvm.ClassFile.FieldType.int)) ∈ TG := tw_11 235 (by decide +kernel) (by decide +kernel)
theorem w_9_7 : (Jvm.Cond.fieldLink "StripedVaultModel" (591 : Nat) "StripedVaultModel" "longCount" "I") ∈ TG := tw_9 7 (by decide +kernel) (by decide +kernel)
theorem ws_155 : Cond.selects R_Mod y_Mod_wide y_Mod_wide ∈ TG := tw_s 155 (by decide +kernel) (by decide +kernel)
theorem ws_156 : Cond.selects R_Mod y_Mod_putFixed y_Mod_putFixed ∈ TG := tw_s 156 (by decide +kernel) (by decide +kernel)
theorem ws_157 : Cond.selects R_Mod y_Mod_writeLongs y_Mod_writeLongs ∈ TG := tw_s 157 (by decide +kernel) (by decide +kernel)
theorem ws_159 : Cond.selects R_Mod y_Mod_widthOf y_Mod_widthOf ∈ TG := tw_s 159 (by decide +kernel) (by decide +kernel)
theorem ws_160 : Cond.selects R_Mod y_Mod_writePart y_Mod_writePart ∈ TG := tw_s 160 (by decide +kernel) (by decide +kernel)
theorem ws_161 : Cond.selects R_Mod y_Mod_firstWhole y_Mod_firstWhole ∈ TG := tw_s 161 (by decide +kernel) (by decide +kernel)
theorem d_Mod_writeLongs_152 : decode b_Mod_writeLongs 152 = .ok (.iload 5, 2) := by decide +kernel
theorem d_Mod_writeLongs_154 : decode b_Mod_writeLongs 154 = .ok (.iload_n 2, 1) := by decide +kernel
theorem d_Mod_writeLongs_155 : decode b_Mod_writeLongs 155 = .ok (.if_icmp .ge 25, 3) := by decide +kernel
theorem d_Mod_writeLongs_180 : decode b_Mod_writeLongs 180 = .ok (.iinc 1 64, 3) := by decide +kernel
theorem d_Mod_writeLongs_183 : decode b_Mod_writeLongs 183 = .ok (.goto (-152), 3) := by decide +kernel
theorem d_Mod_writeLongs_158 : decode b_Mod_writeLongs 158 = .ok (.aload_n 0, 1) := by decide +kernel
theorem d_Mod_writeLongs_159 : decode b_Mod_writeLongs 159 = .ok (.iload 5, 2) := by decide +kernel
theorem d_Mod_writeLongs_161 : decode b_Mod_writeLongs 161 = .ok (.iload_n 2, 1) := by decide +kernel
theorem d_Mod_writeLongs_162 : decode b_Mod_writeLongs 162 = .ok (.lload_n 3, 1) := by decide +kernel
theorem d_Mod_writeLongs_163 : decode b_Mod_writeLongs 163 = .ok (.aload_n 0, 1) := by decide +kernel
theorem d_Mod_writeLongs_164 : decode b_Mod_writeLongs 164 = .ok (.iload 5, 2) := by decide +kernel
theorem d_Mod_writeLongs_166 : decode b_Mod_writeLongs 166 = .ok (.iload_n 2, 1) := by decide +kernel
theorem d_Mod_writeLongs_167 : decode b_Mod_writeLongs 167 = .ok (.lload_n 3, 1) := by decide +kernel
theorem d_Mod_writeLongs_168 : decode b_Mod_writeLongs 168 = .ok (.invokevirtual 601, 3) := by decide +kernel
theorem d_Mod_writeLongs_171 : decode b_Mod_writeLongs 171 = .ok (.invokevirtual 604, 3) := by decide +kernel
theorem d_Mod_writeLongs_174 : decode b_Mod_writeLongs 174 = .ok (.iinc 5 16, 3) := by decide +kernel
theorem d_Mod_writeLongs_177 : decode b_Mod_writeLongs 177 = .ok (.goto (-25), 3) := by decide +kernel
theorem d_Mod_writeLongs_122 : decode b_Mod_writeLongs 122 = .ok (.iload 5, 2) := by decide +kernel
theorem d_Mod_writeLongs_124 : decode b_Mod_writeLongs 124 = .ok (.iload_n 1, 1) := by decide +kernel
theorem d_Mod_writeLongs_125 : decode b_Mod_writeLongs 125 = .ok (.bipush 64, 2) := by decide +kernel
theorem d_Mod_writeLongs_127 : decode b_Mod_writeLongs 127 = .ok (.iadd, 1) := by decide +kernel
theorem d_Mod_writeLongs_128 : decode b_Mod_writeLongs 128 = .ok (.if_icmp .ge 21, 3) := by decide +kernel
theorem d_Mod_writeLongs_149 : decode b_Mod_writeLongs 149 = .ok (.iload_n 1, 1) := by decide +kernel
theorem d_Mod_writeLongs_150 : decode b_Mod_writeLongs 150 = .ok (.istore 5, 2) := by decide +kernel
theorem d_Mod_writeLongs_131 : decode b_Mod_writeLongs 131 = .ok (.aload_n 0, 1) := by decide +kernel
theorem d_Mod_writeLongs_132 : decode b_Mod_writeLongs 132 = .ok (.aload_n 0, 1) := by decide +kernel
theorem d_Mod_writeLongs_133 : decode b_Mod_writeLongs 133 = .ok (.iload 5, 2) := by decide +kernel
theorem d_Mod_writeLongs_135 : decode b_Mod_writeLongs 135 = .ok (.iload_n 2, 1) := by decide +kernel
theorem d_Mod_writeLongs_136 : decode b_Mod_writeLongs 136 = .ok (.lload_n 3, 1) := by decide +kernel
theorem d_Mod_writeLongs_137 : decode b_Mod_writeLongs 137 = .ok (.invokevirtual 601, 3) := by decide +kernel
theorem d_Mod_writeLongs_140 : decode b_Mod_writeLongs 140 = .ok (.invokevirtual 558, 3) := by decide +kernel
theorem d_Mod_writeLongs_143 : decode b_Mod_writeLongs 143 = .ok (.iinc 5 16, 3) := by decide +kernel
theorem d_Mod_writeLongs_146 : decode b_Mod_writeLongs 146 = .ok (.goto (-24), 3) := by decide +kernel
theorem d_Mod_writeLongs_104 : decode b_Mod_writeLongs 104 = .ok (.lstore_n 3, 1) := by decide +kernel
theorem d_Mod_writeLongs_105 : decode b_Mod_writeLongs 105 = .ok (.iinc 5 1, 3) := by decide +kernel
theorem d_Mod_writeLongs_108 : decode b_Mod_writeLongs 108 = .ok (.goto (-31), 3) := by decide +kernel
theorem d_Mod_writeLongs_77 : decode b_Mod_writeLongs 77 = .ok (.iload 5, 2) := by decide +kernel
theorem d_Mod_writeLongs_79 : decode b_Mod_writeLongs 79 = .ok (.iload_n 2, 1) := by decide +kernel
theorem d_Mod_writeLongs_80 : decode b_Mod_writeLongs 80 = .ok (.if_icmp .ge 31, 3) := by decide +kernel
theorem d_Mod_writeLongs_111 : decode b_Mod_writeLongs 111 = .ok (.aload_n 0, 1) := by decide +kernel
theorem d_Mod_writeLongs_112 : decode b_Mod_writeLongs 112 = .ok (.lload_n 3, 1) := by decide +kernel
theorem d_Mod_writeLongs_113 : decode b_Mod_writeLongs 113 = .ok (.invokestatic 594, 3) := by decide +kernel
theorem d_Mod_writeLongs_116 : decode b_Mod_writeLongs 116 = .ok (.invokevirtual 567, 3) := by decide +kernel
theorem d_Mod_writeLongs_119 : decode b_Mod_writeLongs 119 = .ok (.iload_n 1, 1) := by decide +kernel
theorem d_Mod_writeLongs_120 : decode b_Mod_writeLongs 120 = .ok (.istore 5, 2) := by decide +kernel
theorem d_Mod_writeLongs_83 : decode b_Mod_writeLongs 83 = .ok (.aload_n 0, 1) := by decide +kernel
theorem d_Mod_writeLongs_84 : decode b_Mod_writeLongs 84 = .ok (.iload 5, 2) := by decide +kernel
theorem d_Mod_writeLongs_86 : decode b_Mod_writeLongs 86 = .ok (.invokevirtual 598, 3) := by decide +kernel
theorem d_Mod_writeLongs_89 : decode b_Mod_writeLongs 89 = .ok (.lload_n 3, 1) := by decide +kernel
theorem d_Mod_writeLongs_90 : decode b_Mod_writeLongs 90 = .ok (.lcmp, 1) := by decide +kernel
theorem d_Mod_writeLongs_91 : decode b_Mod_writeLongs 91 = .ok (.ifCond .ge 12, 3) := by decide +kernel
theorem d_Mod_writeLongs_103 : decode b_Mod_writeLongs 103 = .ok (.lload_n 3, 1) := by decide +kernel
theorem d_Mod_writeLongs_94 : decode b_Mod_writeLongs 94 = .ok (.aload_n 0, 1) := by decide +kernel
theorem d_Mod_writeLongs_95 : decode b_Mod_writeLongs 95 = .ok (.iload 5, 2) := by decide +kernel
theorem d_Mod_writeLongs_97 : decode b_Mod_writeLongs 97 = .ok (.invokevirtual 598, 3) := by decide +kernel
theorem d_Mod_writeLongs_100 : decode b_Mod_writeLongs 100 = .ok (.goto 4, 3) := by decide +kernel
theorem d_Mod_writeLongs_67 : decode b_Mod_writeLongs 67 = .ok (.istore_n 2, 1) := by decide +kernel
theorem d_Mod_writeLongs_68 : decode b_Mod_writeLongs 68 = .ok (.aload_n 0, 1) := by decide +kernel
theorem d_Mod_writeLongs_69 : decode b_Mod_writeLongs 69 = .ok (.iload_n 1, 1) := by decide +kernel
theorem d_Mod_writeLongs_70 : decode b_Mod_writeLongs 70 = .ok (.invokevirtual 598, 3) := by decide +kernel
theorem d_Mod_writeLongs_73 : decode b_Mod_writeLongs 73 = .ok (.lstore_n 3, 1) := by decide +kernel
theorem d_Mod_writeLongs_74 : decode b_Mod_writeLongs 74 = .ok (.iload_n 1, 1) := by decide +kernel
theorem d_Mod_writeLongs_75 : decode b_Mod_writeLongs 75 = .ok (.istore 5, 2) := by decide +kernel
theorem d_Mod_writeLongs_31 : decode b_Mod_writeLongs 31 = .ok (.iload_n 1, 1) := by decide +kernel
theorem d_Mod_writeLongs_32 : decode b_Mod_writeLongs 32 = .ok (.aload_n 0, 1) := by decide +kernel
theorem d_Mod_writeLongs_33 : decode b_Mod_writeLongs 33 = .ok (.getfield 591, 3) := by decide +kernel
theorem d_Mod_writeLongs_36 : decode b_Mod_writeLongs 36 = .ok (.iconst 1, 1) := by decide +kernel
theorem d_Mod_writeLongs_37 : decode b_Mod_writeLongs 37 = .ok (.isub, 1) := by decide +kernel
theorem d_Mod_writeLongs_38 : decode b_Mod_writeLongs 38 = .ok (.if_icmp .ge 148, 3) := by decide +kernel
theorem d_Mod_writeLongs_186 : decode b_Mod_writeLongs 186 = .ok (.return_, 1) := by decide +kernel
theorem d_Mod_writeLongs_41 : decode b_Mod_writeLongs 41 = .ok (.iload_n 1, 1) := by decide +kernel
theorem d_Mod_writeLongs_42 : decode b_Mod_writeLongs 42 = .ok (.bipush 64, 2) := by decide +kernel
theorem d_Mod_writeLongs_44 : decode b_Mod_writeLongs 44 = .ok (.iadd, 1) := by decide +kernel
theorem d_Mod_writeLongs_45 : decode b_Mod_writeLongs 45 = .ok (.aload_n 0, 1) := by decide +kernel
theorem d_Mod_writeLongs_46 : decode b_Mod_writeLongs 46 = .ok (.getfield 591, 3) := by decide +kernel
theorem d_Mod_writeLongs_49 : decode b_Mod_writeLongs 49 = .ok (.iconst 1, 1) := by decide +kernel
theorem d_Mod_writeLongs_50 : decode b_Mod_writeLongs 50 = .ok (.isub, 1) := by decide +kernel
theorem d_Mod_writeLongs_51 : decode b_Mod_writeLongs 51 = .ok (.if_icmp .ge 10, 3) := by decide +kernel
theorem d_Mod_writeLongs_61 : decode b_Mod_writeLongs 61 = .ok (.aload_n 0, 1) := by decide +kernel
theorem d_Mod_writeLongs_62 : decode b_Mod_writeLongs 62 = .ok (.getfield 591, 3) := by decide +kernel
theorem d_Mod_writeLongs_65 : decode b_Mod_writeLongs 65 = .ok (.iconst 1, 1) := by decide +kernel
theorem d_Mod_writeLongs_66 : decode b_Mod_writeLongs 66 = .ok (.isub, 1) := by decide +kernel
theorem d_Mod_writeLongs_54 : decode b_Mod_writeLongs 54 = .ok (.iload_n 1, 1) := by decide +kernel
theorem d_Mod_writeLongs_55 : decode b_Mod_writeLongs 55 = .ok (.bipush 64, 2) := by decide +kernel
theorem d_Mod_writeLongs_57 : decode b_Mod_writeLongs 57 = .ok (.iadd, 1) := by decide +kernel
theorem d_Mod_writeLongs_58 : decode b_Mod_writeLongs 58 = .ok (.goto 9, 3) := by decide +kernel
theorem d_Mod_writeLongs_29 : decode b_Mod_writeLongs 29 = .ok (.iconst 0, 1) := by decide +kernel
theorem d_Mod_writeLongs_30 : decode b_Mod_writeLongs 30 = .ok (.istore_n 1, 1) := by decide +kernel
theorem d_Mod_writeLongs_0 : decode b_Mod_writeLongs 0 = .ok (.aload_n 0, 1) := by decide +kernel
theorem d_Mod_writeLongs_1 : decode b_Mod_writeLongs 1 = .ok (.aload_n 0, 1) := by decide +kernel
theorem d_Mod_writeLongs_2 : decode b_Mod_writeLongs 2 = .ok (.getfield 591, 3) := by decide +kernel
theorem d_Mod_writeLongs_5 : decode b_Mod_writeLongs 5 = .ok (.i2l, 1) := by decide +kernel
theorem d_Mod_writeLongs_6 : decode b_Mod_writeLongs 6 = .ok (.invokevirtual 567, 3) := by decide +kernel
theorem d_Mod_writeLongs_9 : decode b_Mod_writeLongs 9 = .ok (.aload_n 0, 1) := by decide +kernel
theorem d_Mod_writeLongs_10 : decode b_Mod_writeLongs 10 = .ok (.getfield 591, 3) := by decide +kernel
theorem d_Mod_writeLongs_13 : decode b_Mod_writeLongs 13 = .ok (.ifCond .le 16, 3) := by decide +kernel
theorem d_Mod_writeLongs_16 : decode b_Mod_writeLongs 16 = .ok (.aload_n 0, 1) := by decide +kernel
theorem d_Mod_writeLongs_17 : decode b_Mod_writeLongs 17 = .ok (.aload_n 0, 1) := by decide +kernel
theorem d_Mod_writeLongs_18 : decode b_Mod_writeLongs 18 = .ok (.getfield 139, 3) := by decide +kernel
theorem d_Mod_writeLongs_21 : decode b_Mod_writeLongs 21 = .ok (.iconst 0, 1) := by decide +kernel
theorem d_Mod_writeLongs_22 : decode b_Mod_writeLongs 22 = .ok (.laload, 1) := by decide +kernel
theorem d_Mod_writeLongs_23 : decode b_Mod_writeLongs 23 = .ok (.invokestatic 594, 3) := by decide +kernel
theorem d_Mod_writeLongs_26 : decode b_Mod_writeLongs 26 = .ok (.invokevirtual 567, 3) := by decide +kernel
theorem d_Mod_firstWhole_2 : decode b_Mod_firstWhole 2 = .ok (.aload_n 0, 1) := by decide +kernel
theorem d_Mod_firstWhole_3 : decode b_Mod_firstWhole 3 = .ok (.getfield 100, 3) := by decide +kernel
theorem d_Mod_firstWhole_6 : decode b_Mod_firstWhole 6 = .ok (.iload_n 2, 1) := by decide +kernel
theorem d_Mod_firstWhole_7 : decode b_Mod_firstWhole 7 = .ok (.laload, 1) := by decide +kernel
theorem d_Mod_firstWhole_8 : decode b_Mod_firstWhole 8 = .ok (.aload_n 0, 1) := by decide +kernel
theorem d_Mod_firstWhole_9 : decode b_Mod_firstWhole 9 = .ok (.getfield 100, 3) := by decide +kernel
theorem d_Mod_firstWhole_12 : decode b_Mod_firstWhole 12 = .ok (.iload_n 1, 1) := by decide +kernel
theorem d_Mod_firstWhole_13 : decode b_Mod_firstWhole 13 = .ok (.laload, 1) := by decide +kernel
theorem d_Mod_firstWhole_14 : decode b_Mod_firstWhole 14 = .ok (.lcmp, 1) := by decide +kernel
theorem d_Mod_firstWhole_15 : decode b_Mod_firstWhole 15 = .ok (.ifCond .eq 9, 3) := by decide +kernel
theorem d_Mod_firstWhole_24 : decode b_Mod_firstWhole 24 = .ok (.iload_n 2, 1) := by decide +kernel
theorem d_Mod_firstWhole_25 : decode b_Mod_firstWhole 25 = .ok (.ireturn, 1) := by decide +kernel
theorem d_Mod_firstWhole_18 : decode b_Mod_firstWhole 18 = .ok (.iinc 2 1, 3) := by decide +kernel
theorem d_Mod_firstWhole_21 : decode b_Mod_firstWhole 21 = .ok (.goto (-19), 3) := by decide +kernel
theorem d_Mod_firstWhole_0 : decode b_Mod_firstWhole 0 = .ok (.iconst 0, 1) := by decide +kernel
theorem d_Mod_firstWhole_1 : decode b_Mod_firstWhole 1 = .ok (.istore_n 2, 1) := by decide +kernel
theorem d_Mod_writeWholes_194 : decode b_Mod_writeWholes 194 = .ok (.iload_n 2, 1) := by decide +kernel
theorem d_Mod_writeWholes_195 : decode b_Mod_writeWholes 195 = .ok (.iconst 1, 1) := by decide +kernel
theorem d_Mod_writeWholes_196 : decode b_Mod_writeWholes 196 = .ok (.isub, 1) := by decide +kernel
theorem d_Mod_writeWholes_197 : decode b_Mod_writeWholes 197 = .ok (.iload_n 3, 1) := by decide +kernel
theorem d_Mod_writeWholes_198 : decode b_Mod_writeWholes 198 = .ok (.ishr, 1) := by decide +kernel
theorem d_Mod_writeWholes_199 : decode b_Mod_writeWholes 199 = .ok (.ifCond .le 9, 3) := by decide +kernel
theorem d_Mod_writeWholes_208 : decode b_Mod_writeWholes 208 = .ok (.aload_n 0, 1) := by decide +kernel
theorem d_Mod_writeWholes_209 : decode b_Mod_writeWholes 209 = .ok (.iload_n 3, 1) := by decide +kernel
theorem d_Mod_writeWholes_210 : decode b_Mod_writeWholes 210 = .ok (.invokevirtual 558, 3) := by decide +kernel
theorem d_Mod_writeWholes_213 : decode b_Mod_writeWholes 213 = .ok (.aload_n 0, 1) := by decide +kernel
theorem d_Mod_writeWholes_214 : decode b_Mod_writeWholes 214 = .ok (.aload_n 0, 1) := by decide +kernel
theorem d_Mod_writeWholes_215 : decode b_Mod_writeWholes 215 = .ok (.getfield 142, 3) := by decide +kernel
theorem d_Mod_writeWholes_218 : decode b_Mod_writeWholes 218 = .ok (.aload_n 0, 1) := by decide +kernel
theorem d_Mod_writeWholes_219 : decode b_Mod_writeWholes 219 = .ok (.getfield 632, 3) := by decide +kernel
theorem d_Mod_writeWholes_222 : decode b_Mod_writeWholes 222 = .ok (.iload_n 3, 1) := by decide +kernel
theorem d_Mod_writeWholes_223 : decode b_Mod_writeWholes 223 = .ok (.invokevirtual 647, 3) := by decide +kernel
theorem d_Mod_writeWholes_226 : decode b_Mod_writeWholes 226 = .ok (.return_, 1) := by decide +kernel
theorem d_Mod_writeWholes_202 : decode b_Mod_writeWholes 202 = .ok (.iinc 3 1, 3) := by decide +kernel
theorem d_Mod_writeWholes_205 : decode b_Mod_writeWholes 205 = .ok (.goto (-11), 3) := by decide +kernel
theorem d_Mod_writeWholes_186 : decode b_Mod_writeWholes 186 = .ok (.iinc 3 1, 3) := by decide +kernel
theorem d_Mod_writeWholes_189 : decode b_Mod_writeWholes 189 = .ok (.goto (-34), 3) := by decide +kernel
theorem d_Mod_writeWholes_155 : decode b_Mod_writeWholes 155 = .ok (.iload_n 3, 1) := by decide +kernel
theorem d_Mod_writeWholes_156 : decode b_Mod_writeWholes 156 = .ok (.aload_n 0, 1) := by decide +kernel
theorem d_Mod_writeWholes_157 : decode b_Mod_writeWholes 157 = .ok (.getfield 632, 3) := by decide +kernel
theorem d_Mod_writeWholes_160 : decode b_Mod_writeWholes 160 = .ok (.if_icmp .ge 32, 3) := by decide +kernel
theorem d_Mod_writeWholes_192 : decode b_Mod_writeWholes 192 = .ok (.iconst 0, 1) := by decide +kernel
theorem d_Mod_writeWholes_193 : decode b_Mod_writeWholes 193 = .ok (.istore_n 3, 1) := by decide +kernel
theorem d_Mod_writeWholes_163 : decode b_Mod_writeWholes 163 = .ok (.aload_n 0, 1) := by decide +kernel
theorem d_Mod_writeWholes_164 : decode b_Mod_writeWholes 164 = .ok (.iload_n 3, 1) := by decide +kernel
theorem d_Mod_writeWholes_165 : decode b_Mod_writeWholes 165 = .ok (.invokevirtual 658, 3) := by decide +kernel
theorem d_Mod_writeWholes_168 : decode b_Mod_writeWholes 168 = .ok (.iload_n 3, 1) := by decide +kernel
theorem d_Mod_writeWholes_169 : decode b_Mod_writeWholes 169 = .ok (.if_icmp .ne 17, 3) := by decide +kernel
theorem d_Mod_writeWholes_172 : decode b_Mod_writeWholes 172 = .ok (.aload_n 0, 1) := by decide +kernel
theorem d_Mod_writeWholes_173 : decode b_Mod_writeWholes 173 = .ok (.aload_n 0, 1) := by decide +kernel
theorem d_Mod_writeWholes_174 : decode b_Mod_writeWholes 174 = .ok (.getfield 100, 3) := by decide +kernel
theorem d_Mod_writeWholes_177 : decode b_Mod_writeWholes 177 = .ok (.iload_n 3, 1) := by decide +kernel
theorem d_Mod_writeWholes_178 : decode b_Mod_writeWholes 178 = .ok (.laload, 1) := by decide +kernel
theorem d_Mod_writeWholes_179 : decode b_Mod_writeWholes 179 = .ok (.aload_n 0, 1) := by decide +kernel
theorem d_Mod_writeWholes_180 : decode b_Mod_writeWholes 180 = .ok (.invokevirtual 651, 3) := by decide +kernel
theorem d_Mod_writeWholes_183 : decode b_Mod_writeWholes 183 = .ok (.invokevirtual 654, 3) := by decide +kernel
theorem d_Mod_writeWholes_139 : decode b_Mod_writeWholes 139 = .ok (.iadd, 1) := by decide +kernel
theorem d_Mod_writeWholes_140 : decode b_Mod_writeWholes 140 = .ok (.istore_n 2, 1) := by decide +kernel
theorem d_Mod_writeWholes_141 : decode b_Mod_writeWholes 141 = .ok (.iinc 3 1, 3) := by decide +kernel
theorem d_Mod_writeWholes_144 : decode b_Mod_writeWholes 144 = .ok (.goto (-55), 3) := by decide +kernel
theorem d_Mod_writeWholes_126 : decode b_Mod_writeWholes 126 = .ok (.iastore, 1) := by decide +kernel
theorem d_Mod_writeWholes_127 : decode b_Mod_writeWholes 127 = .ok (.iload_n 2, 1) := by decide +kernel
theorem d_Mod_writeWholes_128 : decode b_Mod_writeWholes 128 = .ok (.iload 4, 2) := by decide +kernel
theorem d_Mod_writeWholes_130 : decode b_Mod_writeWholes 130 = .ok (.iload_n 3, 1) := by decide +kernel
theorem d_Mod_writeWholes_131 : decode b_Mod_writeWholes 131 = .ok (.if_icmp .ne 7, 3) := by decide +kernel
theorem d_Mod_writeWholes_138 : decode b_Mod_writeWholes 138 = .ok (.iconst 0, 1) := by decide +kernel
theorem d_Mod_writeWholes_134 : decode b_Mod_writeWholes 134 = .ok (.iconst 1, 1) := by decide +kernel
theorem d_Mod_writeWholes_135 : decode b_Mod_writeWholes 135 = .ok (.goto 4, 3) := by decide +kernel
theorem d_Mod_writeWholes_89 : decode b_Mod_writeWholes 89 = .ok (.iload_n 3, 1) := by decide +kernel
theorem d_Mod_writeWholes_90 : decode b_Mod_writeWholes 90 = .ok (.aload_n 0, 1) := by decide +kernel
theorem d_Mod_writeWholes_91 : decode b_Mod_writeWholes 91 = .ok (.getfield 632, 3) := by decide +kernel
theorem d_Mod_writeWholes_94 : decode b_Mod_writeWholes 94 = .ok (.if_icmp .ge 53, 3) := by decide +kernel
theorem d_Mod_writeWholes_147 : decode b_Mod_writeWholes 147 = .ok (.aload_n 0, 1) := by decide +kernel
theorem d_Mod_writeWholes_148 : decode b_Mod_writeWholes 148 = .ok (.iload_n 2, 1) := by decide +kernel
theorem d_Mod_writeWholes_149 : decode b_Mod_writeWholes 149 = .ok (.i2l, 1) := by decide +kernel
theorem d_Mod_writeWholes_150 : decode b_Mod_writeWholes 150 = .ok (.invokevirtual 567, 3) := by decide +kernel
theorem d_Mod_writeWholes_153 : decode b_Mod_writeWholes 153 = .ok (.iconst 0, 1) := by decide +kernel
theorem d_Mod_writeWholes_154 : decode b_Mod_writeWholes 154 = .ok (.istore_n 3, 1) := by decide +kernel
theorem d_Mod_writeWholes_97 : decode b_Mod_writeWholes 97 = .ok (.aload_n 0, 1) := by decide +kernel
theorem d_Mod_writeWholes_98 : decode b_Mod_writeWholes 98 = .ok (.iload_n 3, 1) := by decide +kernel
theorem d_Mod_writeWholes_99 : decode b_Mod_writeWholes 99 = .ok (.invokevirtual 658, 3) := by decide +kernel
theorem d_Mod_writeWholes_102 : decode b_Mod_writeWholes 102 = .ok (.istore 4, 2) := by decide +kernel
theorem d_Mod_writeWholes_104 : decode b_Mod_writeWholes 104 = .ok (.aload_n 0, 1) := by decide +kernel
theorem d_Mod_writeWholes_105 : decode b_Mod_writeWholes 105 = .ok (.getfield 142, 3) := by decide +kernel
theorem d_Mod_writeWholes_108 : decode b_Mod_writeWholes 108 = .ok (.iload_n 3, 1) := by decide +kernel
theorem d_Mod_writeWholes_109 : decode b_Mod_writeWholes 109 = .ok (.iload 4, 2) := by decide +kernel
theorem d_Mod_writeWholes_111 : decode b_Mod_writeWholes 111 = .ok (.iload_n 3, 1) := by decide +kernel
theorem d_Mod_writeWholes_112 : decode b_Mod_writeWholes 112 = .ok (.if_icmp .ne 7, 3) := by decide +kernel
theorem d_Mod_writeWholes_119 : decode b_Mod_writeWholes 119 = .ok (.aload_n 0, 1) := by decide +kernel
theorem d_Mod_writeWholes_120 : decode b_Mod_writeWholes 120 = .ok (.getfield 142, 3) := by decide +kernel
theorem d_Mod_writeWholes_123 : decode b_Mod_writeWholes 123 = .ok (.iload 4, 2) := by decide +kernel
theorem d_Mod_writeWholes_125 : decode b_Mod_writeWholes 125 = .ok (.iaload, 1) := by decide +kernel
theorem d_Mod_writeWholes_115 : decode b_Mod_writeWholes 115 = .ok (.iload_n 2, 1) := by decide +kernel
theorem d_Mod_writeWholes_116 : decode b_Mod_writeWholes 116 = .ok (.goto 10, 3) := by decide +kernel
theorem d_Mod_writeWholes_52 : decode b_Mod_writeWholes 52 = .ok (.iload_n 2, 1) := by decide +kernel
theorem d_Mod_writeWholes_53 : decode b_Mod_writeWholes 53 = .ok (.aload_n 0, 1) := by decide +kernel
theorem d_Mod_writeWholes_54 : decode b_Mod_writeWholes 54 = .ok (.getfield 632, 3) := by decide +kernel
theorem d_Mod_writeWholes_57 : decode b_Mod_writeWholes 57 = .ok (.if_icmp .ge 21, 3) := by decide +kernel
theorem d_Mod_writeWholes_78 : decode b_Mod_writeWholes 78 = .ok (.aload_n 0, 1) := by decide +kernel
theorem d_Mod_writeWholes_79 : decode b_Mod_writeWholes 79 = .ok (.invokevirtual 588, 3) := by decide +kernel
theorem d_Mod_writeWholes_82 : decode b_Mod_writeWholes 82 = .ok (.goto 144, 3) := by decide +kernel
theorem d_Mod_writeWholes_60 : decode b_Mod_writeWholes 60 = .ok (.aload_n 0, 1) := by decide +kernel
theorem d_Mod_writeWholes_61 : decode b_Mod_writeWholes 61 = .ok (.getfield 139, 3) := by decide +kernel
theorem d_Mod_writeWholes_64 : decode b_Mod_writeWholes 64 = .ok (.iload_n 2, 1) := by decide +kernel
theorem d_Mod_writeWholes_65 : decode b_Mod_writeWholes 65 = .ok (.aload_n 0, 1) := by decide +kernel
theorem d_Mod_writeWholes_66 : decode b_Mod_writeWholes 66 = .ok (.getfield 100, 3) := by decide +kernel
theorem d_Mod_writeWholes_69 : decode b_Mod_writeWholes 69 = .ok (.iload_n 2, 1) := by decide +kernel
theorem d_Mod_writeWholes_70 : decode b_Mod_writeWholes 70 = .ok (.laload, 1) := by decide +kernel
theorem d_Mod_writeWholes_71 : decode b_Mod_writeWholes 71 = .ok (.lastore, 1) := by decide +kernel
theorem d_Mod_writeWholes_72 : decode b_Mod_writeWholes 72 = .ok (.iinc 2 1, 3) := by decide +kernel
theorem d_Mod_writeWholes_75 : decode b_Mod_writeWholes 75 = .ok (.goto (-23), 3) := by decide +kernel
theorem d_Mod_writeWholes_6 : decode b_Mod_writeWholes 6 = .ok (.iload_n 2, 1) := by decide +kernel
theorem d_Mod_writeWholes_7 : decode b_Mod_writeWholes 7 = .ok (.aload_n 0, 1) := by decide +kernel
theorem d_Mod_writeWholes_8 : decode b_Mod_writeWholes 8 = .ok (.getfield 632, 3) := by decide +kernel
theorem d_Mod_writeWholes_11 : decode b_Mod_writeWholes 11 = .ok (.if_icmp .ge 23, 3) := by decide +kernel
theorem d_Mod_writeWholes_34 : decode b_Mod_writeWholes 34 = .ok (.goto 192, 3) := by decide +kernel
theorem d_Mod_writeWholes_14 : decode b_Mod_writeWholes 14 = .ok (.aload_n 0, 1) := by decide +kernel
theorem d_Mod_writeWholes_15 : decode b_Mod_writeWholes 15 = .ok (.aload_n 0, 1) := by decide +kernel
theorem d_Mod_writeWholes_16 : decode b_Mod_writeWholes 16 = .ok (.getfield 100, 3) := by decide +kernel
theorem d_Mod_writeWholes_19 : decode b_Mod_writeWholes 19 = .ok (.iload_n 2, 1) := by decide +kernel
theorem d_Mod_writeWholes_20 : decode b_Mod_writeWholes 20 = .ok (.laload, 1) := by decide +kernel
theorem d_Mod_writeWholes_21 : decode b_Mod_writeWholes 21 = .ok (.aload_n 0, 1) := by decide +kernel
theorem d_Mod_writeWholes_22 : decode b_Mod_writeWholes 22 = .ok (.invokevirtual 651, 3) := by decide +kernel
theorem d_Mod_writeWholes_25 : decode b_Mod_writeWholes 25 = .ok (.invokevirtual 654, 3) := by decide +kernel
theorem d_Mod_writeWholes_28 : decode b_Mod_writeWholes 28 = .ok (.iinc 2 1, 3) := by decide +kernel
theorem d_Mod_writeWholes_31 : decode b_Mod_writeWholes 31 = .ok (.goto (-25), 3) := by decide +kernel
theorem d_Mod_writeWholes_0 : decode b_Mod_writeWholes 0 = .ok (.iload_n 1, 1) := by decide +kernel
theorem d_Mod_writeWholes_1 : decode b_Mod_writeWholes 1 = .ok (.ifCond .ne 36, 3) := by decide +kernel
theorem d_Mod_writeWholes_37 : decode b_Mod_writeWholes 37 = .ok (.iload_n 1, 1) := by decide +kernel
theorem d_Mod_writeWholes_38 : decode b_Mod_writeWholes 38 = .ok (.iconst 1, 1) := by decide +kernel
theorem d_Mod_writeWholes_39 : decode b_Mod_writeWholes 39 = .ok (.if_icmp .ne 46, 3) := by decide +kernel
theorem d_Mod_writeWholes_85 : decode b_Mod_writeWholes 85 = .ok (.iconst 0, 1) := by decide +kernel
theorem d_Mod_writeWholes_86 : decode b_Mod_writeWholes 86 = .ok (.istore_n 2, 1) := by decide +kernel
theorem d_Mod_writeWholes_87 : decode b_Mod_writeWholes 87 = .ok (.iconst 0, 1) := by decide +kernel
theorem d_Mod_writeWholes_88 : decode b_Mod_writeWholes 88 = .ok (.istore_n 3, 1) := by decide +kernel
theorem d_Mod_writeWholes_42 : decode b_Mod_writeWholes 42 = .ok (.aload_n 0, 1) := by decide +kernel
theorem d_Mod_writeWholes_43 : decode b_Mod_writeWholes 43 = .ok (.aload_n 0, 1) := by decide +kernel
theorem d_Mod_writeWholes_44 : decode b_Mod_writeWholes 44 = .ok (.getfield 632, 3) := by decide +kernel
theorem d_Mod_writeWholes_47 : decode b_Mod_writeWholes 47 = .ok (.putfield 591, 3) := by decide +kernel
theorem d_Mod_writeWholes_50 : decode b_Mod_writeWholes 50 = .ok (.iconst 0, 1) := by decide +kernel
theorem d_Mod_writeWholes_51 : decode b_Mod_writeWholes 51 = .ok (.istore_n 2, 1) := by decide +kernel
theorem d_Mod_writeWholes_4 : decode b_Mod_writeWholes 4 = .ok (.iconst 0, 1) := by decide +kernel
theorem d_Mod_writeWholes_5 : decode b_Mod_writeWholes 5 = .ok (.istore_n 2, 1) := by decide +kernel
section
variable (l : Launch) (dC : Nat → ClassId) (dI : Nat → Nat → Nat) (cI cB cJ cZ : ClassId)
set_option maxRecDepth 100000 in
set_option maxHeartbeats 4000000 in
set_option maxRecDepth 100000 in
theorem t_Mod_writeLongs_152 {p : Program} {l : Launch} {e : Env} {R : Room} {s : State} {m : MethodId} {args : Array Value} {below : List Frame} {meth : Method} {c : Code} {cells slots : Nat} {Q : State → Prop} {dC : Nat → ClassId} {dI : Nat → Nat → Nat} {cI cB cJ cZ : ClassId} {A : Nat → Prop} {ad : Nat → Nat} {post : St → Prop} {rec31 : Int32 → St → Prop} {rec152 : Int32 → Int32 → Int64 → Int32 → St → Prop} (hx : p.tables.exec = Jvm.exec) (hb : c.code = b_Mod_writeLongs) (hml : c.maxLocals = 6) (hown : s.vm.findClass R_Mod = some m.cls) (hT : ∀ w ∈ TG, w.before args s = true) (hK : va_K (dC, dI) CL (TY cI cB cJ cZ) s) (hN : NW s) (hA : ∀ q : Nat, s.heap.size ≤ q → A q) (hRc : cells ≤ R.cells) (hRs : slots ≤ R.slots) (hRf : 2 ≤ R.frames) (hRl : 50 ≤ R.locals) (hret : ∀ (x : St) (H : Heap) (locs : List Loc) (pc : Nat) (ls : Array Slot), decode b_Mod_writeLongs pc = .ok (.return_, 1) → post x → Wd dC dI cI cB cJ cZ ad stM kcM 115 A x H → va_S A s.heap H locs → W p l e R s m args below meth c H locs cells slots Q (F0 m pc ls [])) (hrec31 : ∀ (l1 : Int32) (x : St) (H : Heap) (locs : List Loc) (ls : Array Slot), rec31 l1 x → Wd dC dI cI cB cJ cZ ad stM kcM 115 A x H → va_S A s.heap H locs → lv_has ls 6 [(0, .ref (ad 0)), (1, .int l1)] → W p l e R s m args below meth c H locs cells slots Q (F0 m 31 ls [])) (hrec152 : ∀ (l1 : Int32) (l2 : Int32) (l3 : Int64) (l5 : Int32) (x : St) (H : Heap) (locs : List Loc) (ls : Array Slot), rec152 l1 l2 l3 l5 x → Wd dC dI cI cB cJ cZ ad stM kcM 115 A x H → va_S A s.heap H locs → lv_has ls 6 [(0, .ref (ad 0)), (1, .int l1), (2, .int l2), (3, .long l3), (5, .int l5)] → W p l e R s m args below meth c H locs cells slots Q (F0 m 152 ls [])) : ∀ (l1 : Int32) (l2 : Int32) (l3 : Int64) (l5 : Int32) (x : St) (H : Heap) (locs : List Loc) (ls : Array Slot), j_Mod_writeLongs_152 post rec31 rec152 l1 l2 l3 l5 x → Wd dC dI cI cB cJ cZ ad stM kcM 115 A x H → va_S A s.heap H locs → lv_has ls 6 [(0, .ref (ad 0)), (1, .int l1), (2, .int l2), (3, .long l3), (5, .int l5)] → W p l e R s m args below meth c H locs cells slots Q (F0 m 152 ls []) := by
  intro l1 l2 l3 l5 x H locs ls  hw hW hS hl
  unfold j_Mod_writeLongs_152 at hw
  refine lv_iload hx hb d_Mod_writeLongs_152 (lv_at hl 4 rfl) ?_
  refine lv_iload_n hx hb d_Mod_writeLongs_154 rfl (lv_at hl 2 rfl) ?_
  refine lv_icmp_ge (tgt := 180) hx hb d_Mod_writeLongs_155 (by decide) (fun c556 => ?_) (fun c556 => ?_)
  · have hw := hw.1 c556
    refine lv_iinc (v := (l1 + 64)) (lv' := [(1, .int (l1 + 64)), (0, .ref (ad 0)), (2, .int l2), (3, .long l3), (5, .int l5)]) hx hb d_Mod_writeLongs_180 hl (k := 1) rfl rfl (by decide) rfl (fun ls hl => ?_)
    refine lv_goto (tgt := 31) hx hb d_Mod_writeLongs_183 (by decide) ?_
    exact hrec31 (l1 + 64) x H locs ls  hw hW hS (lv_sub hl [1, 0] rfl)
  · have hw := hw.2 c556
    refine lv_aload_n hx hb d_Mod_writeLongs_158 rfl (lv_at hl 0 rfl) ?_
    refine lv_iload hx hb d_Mod_writeLongs_159 (lv_at hl 4 rfl) ?_
    refine lv_iload_n hx hb d_Mod_writeLongs_161 rfl (lv_at hl 2 rfl) ?_
    refine lv_lload_n hx hb d_Mod_writeLongs_162 rfl (lv_at hl 3 rfl) ?_
    refine lv_aload_n hx hb d_Mod_writeLongs_163 rfl (lv_at hl 0 rfl) ?_
    refine lv_iload hx hb d_Mod_writeLongs_164 (lv_at hl 4 rfl) ?_
    refine lv_iload_n hx hb d_Mod_writeLongs_166 rfl (lv_at hl 2 rfl) ?_
    refine lv_lload_n hx hb d_Mod_writeLongs_167 rfl (lv_at hl 3 rfl) ?_
    have hF := hW.free hS hA
    refine va_calli (va_runV (C := R_Mod) (As := [.int l5, .int l2, .long l3]) (rest := [.long l3, .int l2, .int l5, .ref (ad 0)]) ⟨hx, hb, hml, hown, hT⟩ (k_Mod_widthOf l dC dI cI cB cJ cZ ad H.size l5 l2 l3 x  hw) ⟨callB_of 3 hT (gwt_in w_11_227) rfl rfl rfl (hT _ w_1_15) (hT _ w_11_224) (by decide +kernel) ⟨Nat.le_trans (Nat.le_of_ble_eq_true rfl) hRf, Nat.le_trans (Nat.le_of_ble_eq_true rfl) hRl⟩, hT _ w_11_226, hT _ ws_159⟩ ⟨PW.blind, va_recv hK hW.1 (ci := 12) (q0 := 0) rfl (pic_obj ko_0.1 ko_0.2 (by decide)), PW.at _ hW hK hN⟩ rfl rfl hl.1 rfl (lv_room (Nat.le_of_ble_eq_true rfl)) d_Mod_writeLongs_168 ⟨hRc, hRs⟩) hS (fun q _ h => hF q h) hF (fun r558 x557 t H locs ht hvm hw hB hz1 hk1 hS => ?_)
    have hW := Wd.back hB ht hF
    clear hB ht hF hz1 hk1 hvm
    have hF := hW.free hS hA
    refine va_callv (va_runV (C := R_Mod) (As := [.int l5, .int l2, .long l3, .int r558]) (rest := []) ⟨hx, hb, hml, hown, hT⟩ (k_Mod_writePart l dC dI cI cB cJ cZ ad H.size l5 l2 l3 r558 x557  hw) ⟨callB_of 4 hT (gwt_in w_11_231) rfl rfl rfl (hT _ w_1_15) (hT _ w_11_228) (by decide +kernel) ⟨Nat.le_trans (Nat.le_of_ble_eq_true rfl) hRf, Nat.le_trans (Nat.le_of_ble_eq_true rfl) hRl⟩, hT _ w_11_230, hT _ ws_160⟩ ⟨PW.blind, va_recv hK hW.1 (ci := 12) (q0 := 0) rfl (pic_obj ko_0.1 ko_0.2 (by decide)), PW.at _ hW hK hN⟩ rfl rfl hl.1 rfl (lv_room (Nat.le_of_ble_eq_true rfl)) d_Mod_writeLongs_171 ⟨hRc, hRs⟩) hS (fun q _ h => hF q h) hF (fun  x559 t H locs ht hvm hw hB hz1 hk1 hS => ?_)
    have hW := Wd.back hB ht hF
    clear hB ht hF hz1 hk1 hvm
    refine lv_iinc (v := (l5 + 16)) (lv' := [(5, .int (l5 + 16)), (0, .ref (ad 0)), (1, .int l1), (2, .int l2), (3, .long l3)]) hx hb d_Mod_writeLongs_174 hl (k := 4) rfl rfl (by decide) rfl (fun ls hl => ?_)
    refine lv_goto (tgt := 152) hx hb d_Mod_writeLongs_177 (by decide) ?_
    exact hrec152 l1 l2 l3 (l5 + 16) x559 H locs ls  hw hW hS (lv_sub hl [1, 2, 3, 4, 0] rfl)
set_option maxHeartbeats 4000000 in
set_option maxRecDepth 100000 in
theorem tl_Mod_writeLongs_152 {p : Program} {l : Launch} {e : Env} {R : Room} {s : State} {m : MethodId} {args : Array Value} {below : List Frame} {meth : Method} {c : Code} {cells slots : Nat} {Q : State → Prop} {dC : Nat → ClassId} {dI : Nat → Nat → Nat} {cI cB cJ cZ : ClassId} {A : Nat → Prop} {ad : Nat → Nat} {post : St → Prop} {rec31 : Int32 → St → Prop} (hx : p.tables.exec = Jvm.exec) (hb : c.code = b_Mod_writeLongs) (hml : c.maxLocals = 6) (hown : s.vm.findClass R_Mod = some m.cls) (hT : ∀ w ∈ TG, w.before args s = true) (hK : va_K (dC, dI) CL (TY cI cB cJ cZ) s) (hN : NW s) (hA : ∀ q : Nat, s.heap.size ≤ q → A q) (hRc : cells ≤ R.cells) (hRs : slots ≤ R.slots) (hRf : 2 ≤ R.frames) (hRl : 50 ≤ R.locals) (hret : ∀ (x : St) (H : Heap) (locs : List Loc) (pc : Nat) (ls : Array Slot), decode b_Mod_writeLongs pc = .ok (.return_, 1) → post x → Wd dC dI cI cB cJ cZ ad stM kcM 115 A x H → va_S A s.heap H locs → W p l e R s m args below meth c H locs cells slots Q (F0 m pc ls [])) (hrec31 : ∀ (l1 : Int32) (x : St) (H : Heap) (locs : List Loc) (ls : Array Slot), rec31 l1 x → Wd dC dI cI cB cJ cZ ad stM kcM 115 A x H → va_S A s.heap H locs → lv_has ls 6 [(0, .ref (ad 0)), (1, .int l1)] → W p l e R s m args below meth c H locs cells slots Q (F0 m 31 ls [])) : ∀ n : Nat, ∀ (l1 : Int32) (l2 : Int32) (l3 : Int64) (l5 : Int32) (x : St) (H : Heap) (locs : List Loc) (ls : Array Slot), wl_Mod_writeLongs_152 post rec31 n l1 l2 l3 l5 x → Wd dC dI cI cB cJ cZ ad stM kcM 115 A x H → va_S A s.heap H locs → lv_has ls 6 [(0, .ref (ad 0)), (1, .int l1), (2, .int l2), (3, .long l3), (5, .int l5)] → W p l e R s m args below meth c H locs cells slots Q (F0 m 152 ls []) := by
  intro n
  induction n with
  | zero => intro l1 l2 l3 l5 x H locs ls  hw; exact hw.elim
  | succ n ih => intro l1 l2 l3 l5 x H locs ls  hw hW hS hl; exact t_Mod_writeLongs_152 hx hb hml hown hT hK hN hA hRc hRs hRf hRl hret hrec31 ih l1 l2 l3 l5 x H locs ls  hw hW hS hl
set_option maxRecDepth 100000 in
set_option maxHeartbeats 4000000 in
set_option maxRecDepth 100000 in
theorem t_Mod_writeLongs_122 {p : Program} {l : Launch} {e : Env} {R : Room} {s : State} {m : MethodId} {args : Array Value} {below : List Frame} {meth : Method} {c : Code} {cells slots : Nat} {Q : State → Prop} {dC : Nat → ClassId} {dI : Nat → Nat → Nat} {cI cB cJ cZ : ClassId} {A : Nat → Prop} {ad : Nat → Nat} {post : St → Prop} {rec31 : Int32 → St → Prop} {rec122 : Int32 → Int32 → Int64 → Int32 → St → Prop} (hx : p.tables.exec = Jvm.exec) (hb : c.code = b_Mod_writeLongs) (hml : c.maxLocals = 6) (hown : s.vm.findClass R_Mod = some m.cls) (hT : ∀ w ∈ TG, w.before args s = true) (hK : va_K (dC, dI) CL (TY cI cB cJ cZ) s) (hN : NW s) (hA : ∀ q : Nat, s.heap.size ≤ q → A q) (hRc : cells ≤ R.cells) (hRs : slots ≤ R.slots) (hRf : 2 ≤ R.frames) (hRl : 50 ≤ R.locals) (hret : ∀ (x : St) (H : Heap) (locs : List Loc) (pc : Nat) (ls : Array Slot), decode b_Mod_writeLongs pc = .ok (.return_, 1) → post x → Wd dC dI cI cB cJ cZ ad stM kcM 115 A x H → va_S A s.heap H locs → W p l e R s m args below meth c H locs cells slots Q (F0 m pc ls [])) (hrec31 : ∀ (l1 : Int32) (x : St) (H : Heap) (locs : List Loc) (ls : Array Slot), rec31 l1 x → Wd dC dI cI cB cJ cZ ad stM kcM 115 A x H → va_S A s.heap H locs → lv_has ls 6 [(0, .ref (ad 0)), (1, .int l1)] → W p l e R s m args below meth c H locs cells slots Q (F0 m 31 ls [])) (hrec122 : ∀ (l1 : Int32) (l2 : Int32) (l3 : Int64) (l5 : Int32) (x : St) (H : Heap) (locs : List Loc) (ls : Array Slot), rec122 l1 l2 l3 l5 x → Wd dC dI cI cB cJ cZ ad stM kcM 115 A x H → va_S A s.heap H locs → lv_has ls 6 [(0, .ref (ad 0)), (1, .int l1), (2, .int l2), (3, .long l3), (5, .int l5)] → W p l e R s m args below meth c H locs cells slots Q (F0 m 122 ls [])) : ∀ (l1 : Int32) (l2 : Int32) (l3 : Int64) (l5 : Int32) (x : St) (H : Heap) (locs : List Loc) (ls : Array Slot), j_Mod_writeLongs_122 post rec31 rec122 l1 l2 l3 l5 x → Wd dC dI cI cB cJ cZ ad stM kcM 115 A x H → va_S A s.heap H locs → lv_has ls 6 [(0, .ref (ad 0)), (1, .int l1), (2, .int l2), (3, .long l3), (5, .int l5)] → W p l e R s m args below meth c H locs cells slots Q (F0 m 122 ls []) := by
  intro l1 l2 l3 l5 x H locs ls  hw hW hS hl
  unfold j_Mod_writeLongs_122 at hw
  refine lv_iload hx hb d_Mod_writeLongs_122 (lv_at hl 4 rfl) ?_
  refine lv_iload_n hx hb d_Mod_writeLongs_124 rfl (lv_at hl 1 rfl) ?_
  refine lv_bipush (v := 64) hx hb d_Mod_writeLongs_125 (by decide) ?_
  refine lv_iadd hx hb d_Mod_writeLongs_127 ?_
  refine lv_icmp_ge (tgt := 149) hx hb d_Mod_writeLongs_128 (by decide) (fun c560 => ?_) (fun c560 => ?_)
  · have hw := hw.1 c560
    refine lv_iload_n hx hb d_Mod_writeLongs_149 rfl (lv_at hl 1 rfl) ?_
    refine lv_istore (lv' := [(5, .int l1), (0, .ref (ad 0)), (1, .int l1), (2, .int l2), (3, .long l3)]) hx hb d_Mod_writeLongs_150 hl (by decide) rfl (fun ls hl => ?_)
    obtain ⟨n, hw⟩ := hw
    exact tl_Mod_writeLongs_152 hx hb hml hown hT hK hN hA hRc hRs hRf hRl hret hrec31 n l1 l2 l3 l1 x H locs ls  hw hW hS (lv_sub hl [1, 2, 3, 4, 0] rfl)
  · have hw := hw.2 c560
    refine lv_aload_n hx hb d_Mod_writeLongs_131 rfl (lv_at hl 0 rfl) ?_
    refine lv_aload_n hx hb d_Mod_writeLongs_132 rfl (lv_at hl 0 rfl) ?_
    refine lv_iload hx hb d_Mod_writeLongs_133 (lv_at hl 4 rfl) ?_
    refine lv_iload_n hx hb d_Mod_writeLongs_135 rfl (lv_at hl 2 rfl) ?_
    refine lv_lload_n hx hb d_Mod_writeLongs_136 rfl (lv_at hl 3 rfl) ?_
    have hF := hW.free hS hA
    refine va_calli (va_runV (C := R_Mod) (As := [.int l5, .int l2, .long l3]) (rest := [.ref (ad 0)]) ⟨hx, hb, hml, hown, hT⟩ (k_Mod_widthOf l dC dI cI cB cJ cZ ad H.size l5 l2 l3 x  hw) ⟨callB_of 3 hT (gwt_in w_11_227) rfl rfl rfl (hT _ w_1_15) (hT _ w_11_224) (by decide +kernel) ⟨Nat.le_trans (Nat.le_of_ble_eq_true rfl) hRf, Nat.le_trans (Nat.le_of_ble_eq_true rfl) hRl⟩, hT _ w_11_226, hT _ ws_159⟩ ⟨PW.blind, va_recv hK hW.1 (ci := 12) (q0 := 0) rfl (pic_obj ko_0.1 ko_0.2 (by decide)), PW.at _ hW hK hN⟩ rfl rfl hl.1 rfl (lv_room (Nat.le_of_ble_eq_true rfl)) d_Mod_writeLongs_137 ⟨hRc, hRs⟩) hS (fun q _ h => hF q h) hF (fun r562 x561 t H locs ht hvm hw hB hz1 hk1 hS => ?_)
    have hW := Wd.back hB ht hF
    clear hB ht hF hz1 hk1 hvm
    have hF := hW.free hS hA
    refine va_callv (va_runV (C := R_Mod) (As := [.int r562]) (rest := []) ⟨hx, hb, hml, hown, hT⟩ (k_Mod_put l dC dI cI cB cJ cZ ad H.size r562 x561  hw) ⟨callB_of 1 hT (gwt_in w_11_199) rfl rfl rfl (hT _ w_1_15) (hT _ w_11_196) (by decide +kernel) ⟨Nat.le_trans (Nat.le_of_ble_eq_true rfl) hRf, Nat.le_trans (Nat.le_of_ble_eq_true rfl) hRl⟩, hT _ w_11_198, hT _ ws_153⟩ ⟨PW.blind, va_recv hK hW.1 (ci := 12) (q0 := 0) rfl (pic_obj ko_0.1 ko_0.2 (by decide)), PW.at _ hW hK hN⟩ rfl rfl hl.1 rfl (lv_room (Nat.le_of_ble_eq_true rfl)) d_Mod_writeLongs_140 ⟨hRc, hRs⟩) hS (fun q _ h => hF q h) hF (fun  x563 t H locs ht hvm hw hB hz1 hk1 hS => ?_)
    have hW := Wd.back hB ht hF
    clear hB ht hF hz1 hk1 hvm
    refine lv_iinc (v := (l5 + 16)) (lv' := [(5, .int (l5 + 16)), (0, .ref (ad 0)), (1, .int l1), (2, .int l2), (3, .long l3)]) hx hb d_Mod_writeLongs_143 hl (k := 4) rfl rfl (by decide) rfl (fun ls hl => ?_)
    refine lv_goto (tgt := 122) hx hb d_Mod_writeLongs_146 (by decide) ?_
    exact hrec122 l1 l2 l3 (l5 + 16) x563 H locs ls  hw hW hS (lv_sub hl [1, 2, 3, 4, 0] rfl)
set_option maxHeartbeats 4000000 in
set_option maxRecDepth 100000 in
theorem tl_Mod_writeLongs_122 {p : Program} {l : Launch} {e : Env} {R : Room} {s : State} {m : MethodId} {args : Array Value} {below : List Frame} {meth : Method} {c : Code} {cells slots : Nat} {Q : State → Prop} {dC : Nat → ClassId} {dI : Nat → Nat → Nat} {cI cB cJ cZ : ClassId} {A : Nat → Prop} {ad : Nat → Nat} {post : St → Prop} {rec31 : Int32 → St → Prop} (hx : p.tables.exec = Jvm.exec) (hb : c.code = b_Mod_writeLongs) (hml : c.maxLocals = 6) (hown : s.vm.findClass R_Mod = some m.cls) (hT : ∀ w ∈ TG, w.before args s = true) (hK : va_K (dC, dI) CL (TY cI cB cJ cZ) s) (hN : NW s) (hA : ∀ q : Nat, s.heap.size ≤ q → A q) (hRc : cells ≤ R.cells) (hRs : slots ≤ R.slots) (hRf : 2 ≤ R.frames) (hRl : 50 ≤ R.locals) (hret : ∀ (x : St) (H : Heap) (locs : List Loc) (pc : Nat) (ls : Array Slot), decode b_Mod_writeLongs pc = .ok (.return_, 1) → post x → Wd dC dI cI cB cJ cZ ad stM kcM 115 A x H → va_S A s.heap H locs → W p l e R s m args below meth c H locs cells slots Q (F0 m pc ls [])) (hrec31 : ∀ (l1 : Int32) (x : St) (H : Heap) (locs : List Loc) (ls : Array Slot), rec31 l1 x → Wd dC dI cI cB cJ cZ ad stM kcM 115 A x H → va_S A s.heap H locs → lv_has ls 6 [(0, .ref (ad 0)), (1, .int l1)] → W p l e R s m args below meth c H locs cells slots Q (F0 m 31 ls [])) : ∀ n : Nat, ∀ (l1 : Int32) (l2 : Int32) (l3 : Int64) (l5 : Int32) (x : St) (H : Heap) (locs : List Loc) (ls : Array Slot), wl_Mod_writeLongs_122 post rec31 n l1 l2 l3 l5 x → Wd dC dI cI cB cJ cZ ad stM kcM 115 A x H → va_S A s.heap H locs → lv_has ls 6 [(0, .ref (ad 0)), (1, .int l1), (2, .int l2), (3, .long l3), (5, .int l5)] → W p l e R s m args below meth c H locs cells slots Q (F0 m 122 ls []) := by
  intro n
  induction n with
  | zero => intro l1 l2 l3 l5 x H locs ls  hw; exact hw.elim
  | succ n ih => intro l1 l2 l3 l5 x H locs ls  hw hW hS hl; exact t_Mod_writeLongs_122 hx hb hml hown hT hK hN hA hRc hRs hRf hRl hret hrec31 ih l1 l2 l3 l5 x H locs ls  hw hW hS hl
set_option maxRecDepth 100000 in
set_option maxHeartbeats 4000000 in
set_option maxRecDepth 100000 in
theorem t_Mod_writeLongs_104 {p : Program} {l : Launch} {e : Env} {R : Room} {s : State} {m : MethodId} {args : Array Value} {below : List Frame} {meth : Method} {c : Code} {cells slots : Nat} {Q : State → Prop} {dC : Nat → ClassId} {dI : Nat → Nat → Nat} {cI cB cJ cZ : ClassId} {A : Nat → Prop} {ad : Nat → Nat} {post : St → Prop} {rec31 : Int32 → St → Prop} {rec77 : Int32 → Int32 → Int64 → Int32 → St → Prop} (hx : p.tables.exec = Jvm.exec) (hb : c.code = b_Mod_writeLongs) (hml : c.maxLocals = 6) (hown : s.vm.findClass R_Mod = some m.cls) (hT : ∀ w ∈ TG, w.before args s = true) (hK : va_K (dC, dI) CL (TY cI cB cJ cZ) s) (hN : NW s) (hA : ∀ q : Nat, s.heap.size ≤ q → A q) (hRc : cells ≤ R.cells) (hRs : slots ≤ R.slots) (hRf : 2 ≤ R.frames) (hRl : 50 ≤ R.locals) (hret : ∀ (x : St) (H : Heap) (locs : List Loc) (pc : Nat) (ls : Array Slot), decode b_Mod_writeLongs pc = .ok (.return_, 1) → post x → Wd dC dI cI cB cJ cZ ad stM kcM 115 A x H → va_S A s.heap H locs → W p l e R s m args below meth c H locs cells slots Q (F0 m pc ls [])) (hrec31 : ∀ (l1 : Int32) (x : St) (H : Heap) (locs : List Loc) (ls : Array Slot), rec31 l1 x → Wd dC dI cI cB cJ cZ ad stM kcM 115 A x H → va_S A s.heap H locs → lv_has ls 6 [(0, .ref (ad 0)), (1, .int l1)] → W p l e R s m args below meth c H locs cells slots Q (F0 m 31 ls [])) (hrec77 : ∀ (l1 : Int32) (l2 : Int32) (l3 : Int64) (l5 : Int32) (x : St) (H : Heap) (locs : List Loc) (ls : Array Slot), rec77 l1 l2 l3 l5 x → Wd dC dI cI cB cJ cZ ad stM kcM 115 A x H → va_S A s.heap H locs → lv_has ls 6 [(0, .ref (ad 0)), (1, .int l1), (2, .int l2), (3, .long l3), (5, .int l5)] → W p l e R s m args below meth c H locs cells slots Q (F0 m 77 ls [])) : ∀ (l1 : Int32) (l2 : Int32) (l3 : Int64) (l5 : Int32) (s0 : Int64) (x : St) (H : Heap) (locs : List Loc) (ls : Array Slot), j_Mod_writeLongs_104 post rec31 rec77 l1 l2 l3 l5 s0 x → Wd dC dI cI cB cJ cZ ad stM kcM 115 A x H → va_S A s.heap H locs → lv_has ls 6 [(0, .ref (ad 0)), (1, .int l1), (2, .int l2), (3, .long l3), (5, .int l5)] → W p l e R s m args below meth c H locs cells slots Q (F0 m 104 ls [.long s0]) := by
  intro l1 l2 l3 l5 s0 x H locs ls  hw hW hS hl
  unfold j_Mod_writeLongs_104 at hw
  refine lv_lstore_n (lv' := [(3, .long s0), (0, .ref (ad 0)), (1, .int l1), (2, .int l2), (5, .int l5)]) hx hb d_Mod_writeLongs_104 rfl hl (by decide) rfl (fun ls hl => ?_)
  refine lv_iinc (v := (l5 + 1)) (lv' := [(5, .int (l5 + 1)), (3, .long s0), (0, .ref (ad 0)), (1, .int l1), (2, .int l2)]) hx hb d_Mod_writeLongs_105 hl (k := 4) rfl rfl (by decide) rfl (fun ls hl => ?_)
  refine lv_goto (tgt := 77) hx hb d_Mod_writeLongs_108 (by decide) ?_
  exact hrec77 l1 l2 s0 (l5 + 1) x H locs ls  hw hW hS (lv_sub hl [2, 3, 4, 1, 0] rfl)
set_option maxRecDepth 100000 in
set_option maxHeartbeats 4000000 in
set_option maxRecDepth 100000 in
theorem t_Mod_writeLongs_77 {p : Program} {l : Launch} {e : Env} {R : Room} {s : State} {m : MethodId} {args : Array Value} {below : List Frame} {meth : Method} {c : Code} {cells slots : Nat} {Q : State → Prop} {dC : Nat → ClassId} {dI : Nat → Nat → Nat} {cI cB cJ cZ : ClassId} {A : Nat → Prop} {ad : Nat → Nat} {post : St → Prop} {rec31 : Int32 → St → Prop} {rec77 : Int32 → Int32 → Int64 → Int32 → St → Prop} (hx : p.tables.exec = Jvm.exec) (hb : c.code = b_Mod_writeLongs) (hml : c.maxLocals = 6) (hown : s.vm.findClass R_Mod = some m.cls) (hT : ∀ w ∈ TG, w.before args s = true) (hK : va_K (dC, dI) CL (TY cI cB cJ cZ) s) (hN : NW s) (hA : ∀ q : Nat, s.heap.size ≤ q → A q) (hRc : cells ≤ R.cells) (hRs : slots ≤ R.slots) (hRf : 2 ≤ R.frames) (hRl : 50 ≤ R.locals) (hret : ∀ (x : St) (H : Heap) (locs : List Loc) (pc : Nat) (ls : Array Slot), decode b_Mod_writeLongs pc = .ok (.return_, 1) → post x → Wd dC dI cI cB cJ cZ ad stM kcM 115 A x H → va_S A s.heap H locs → W p l e R s m args below meth c H locs cells slots Q (F0 m pc ls [])) (hrec31 : ∀ (l1 : Int32) (x : St) (H : Heap) (locs : List Loc) (ls : Array Slot), rec31 l1 x → Wd dC dI cI cB cJ cZ ad stM kcM 115 A x H → va_S A s.heap H locs → lv_has ls 6 [(0, .ref (ad 0)), (1, .int l1)] → W p l e R s m args below meth c H locs cells slots Q (F0 m 31 ls [])) (hrec77 : ∀ (l1 : Int32) (l2 : Int32) (l3 : Int64) (l5 : Int32) (x : St) (H : Heap) (locs : List Loc) (ls : Array Slot), rec77 l1 l2 l3 l5 x → Wd dC dI cI cB cJ cZ ad stM kcM 115 A x H → va_S A s.heap H locs → lv_has ls 6 [(0, .ref (ad 0)), (1, .int l1), (2, .int l2), (3, .long l3), (5, .int l5)] → W p l e R s m args below meth c H locs cells slots Q (F0 m 77 ls [])) : ∀ (l1 : Int32) (l2 : Int32) (l3 : Int64) (l5 : Int32) (x : St) (H : Heap) (locs : List Loc) (ls : Array Slot), j_Mod_writeLongs_77 post rec31 rec77 l1 l2 l3 l5 x → Wd dC dI cI cB cJ cZ ad stM kcM 115 A x H → va_S A s.heap H locs → lv_has ls 6 [(0, .ref (ad 0)), (1, .int l1), (2, .int l2), (3, .long l3), (5, .int l5)] → W p l e R s m args below meth c H locs cells slots Q (F0 m 77 ls []) := by
  intro l1 l2 l3 l5 x H locs ls  hw hW hS hl
  unfold j_Mod_writeLongs_77 at hw
  refine lv_iload hx hb d_Mod_writeLongs_77 (lv_at hl 4 rfl) ?_
  refine lv_iload_n hx hb d_Mod_writeLongs_79 rfl (lv_at hl 2 rfl) ?_
  refine lv_icmp_ge (tgt := 111) hx hb d_Mod_writeLongs_80 (by decide) (fun c564 => ?_) (fun c564 => ?_)
  · have hw := hw.1 c564
    refine lv_aload_n hx hb d_Mod_writeLongs_111 rfl (lv_at hl 0 rfl) ?_
    refine lv_lload_n hx hb d_Mod_writeLongs_112 rfl (lv_at hl 3 rfl) ?_
    have hF := hW.free hS hA
    refine va_calll (va_runS (As := [.long l3]) (rest := [.ref (ad 0)]) ⟨hx, hb, hml, hown, hT⟩ (k_Mod_zigzag l dC dI cI cB cJ cZ ad H.size l3 x  hw) ⟨callB_of 1 hT (gwt_in w_11_218) rfl rfl rfl (hT _ w_1_15) (hT _ w_11_216) (by decide +kernel) ⟨Nat.le_trans (Nat.le_of_ble_eq_true rfl) hRf, Nat.le_trans (Nat.le_of_ble_eq_true rfl) hRl⟩, hT _ w_11_217⟩ ⟨PW.blind, PW.at _ hW hK hN⟩ rfl rfl hl.1 rfl (lv_room (Nat.le_of_ble_eq_true rfl)) d_Mod_writeLongs_113 ⟨hRc, hRs⟩) hS (fun q _ h => hF q h) hF (fun r566 x565 t H locs ht hvm hw hB hz1 hk1 hS => ?_)
    have hW := Wd.back hB ht hF
    clear hB ht hF hz1 hk1 hvm
    have hF := hW.free hS hA
    refine va_callv (va_runV (C := R_Mod) (As := [.long r566]) (rest := []) ⟨hx, hb, hml, hown, hT⟩ (k_Mod_putVarint l dC dI cI cB cJ cZ ad H.size r566 x565  hw) ⟨callB_of 1 hT (gwt_in w_11_194) rfl rfl rfl (hT _ w_1_15) (hT _ w_11_191) (by decide +kernel) ⟨Nat.le_trans (Nat.le_of_ble_eq_true rfl) hRf, Nat.le_trans (Nat.le_of_ble_eq_true rfl) hRl⟩, hT _ w_11_193, hT _ ws_152⟩ ⟨PW.blind, va_recv hK hW.1 (ci := 12) (q0 := 0) rfl (pic_obj ko_0.1 ko_0.2 (by decide)), PW.at _ hW hK hN⟩ rfl rfl hl.1 rfl (lv_room (Nat.le_of_ble_eq_true rfl)) d_Mod_writeLongs_116 ⟨hRc, hRs⟩) hS (fun q _ h => hF q h) hF (fun  x567 t H locs ht hvm hw hB hz1 hk1 hS => ?_)
    have hW := Wd.back hB ht hF
    clear hB ht hF hz1 hk1 hvm
    refine lv_iload_n hx hb d_Mod_writeLongs_119 rfl (lv_at hl 1 rfl) ?_
    refine lv_istore (lv' := [(5, .int l1), (0, .ref (ad 0)), (1, .int l1), (2, .int l2), (3, .long l3)]) hx hb d_Mod_writeLongs_120 hl (by decide) rfl (fun ls hl => ?_)
    obtain ⟨n, hw⟩ := hw
    exact tl_Mod_writeLongs_122 hx hb hml hown hT hK hN hA hRc hRs hRf hRl hret hrec31 n l1 l2 l3 l1 x567 H locs ls  hw hW hS (lv_sub hl [1, 2, 3, 4, 0] rfl)
  · have hw := hw.2 c564
    refine lv_aload_n hx hb d_Mod_writeLongs_83 rfl (lv_at hl 0 rfl) ?_
    refine lv_iload hx hb d_Mod_writeLongs_84 (lv_at hl 4 rfl) ?_
    have hF := hW.free hS hA
    refine va_calll (va_runV (C := R_Mod) (As := [.int l5]) (rest := []) ⟨hx, hb, hml, hown, hT⟩ (k_Mod_difference l dC dI cI cB cJ cZ ad H.size l5 x  hw) ⟨callB_of 1 hT (gwt_in w_11_223) rfl rfl rfl (hT _ w_1_15) (hT _ w_11_220) (by decide +kernel) ⟨Nat.le_trans (Nat.le_of_ble_eq_true rfl) hRf, Nat.le_trans (Nat.le_of_ble_eq_true rfl) hRl⟩, hT _ w_11_222, hT _ ws_158⟩ ⟨PW.blind, va_recv hK hW.1 (ci := 12) (q0 := 0) rfl (pic_obj ko_0.1 ko_0.2 (by decide)), PW.at _ hW hK hN⟩ rfl rfl hl.1 rfl (lv_room (Nat.le_of_ble_eq_true rfl)) d_Mod_writeLongs_86 ⟨hRc, hRs⟩) hS (fun q _ h => hF q h) hF (fun r569 x568 t H locs ht hvm hw hB hz1 hk1 hS => ?_)
    have hW := Wd.back hB ht hF
    clear hB ht hF hz1 hk1 hvm
    refine lv_lload_n hx hb d_Mod_writeLongs_89 rfl (lv_at hl 3 rfl) ?_
    refine W.lcmp hx hb d_Mod_writeLongs_90 ?_
    refine lv_if_ge (tgt := 103) hx hb d_Mod_writeLongs_91 (by decide) (fun c570 => ?_) (fun c570 => ?_)
    · have hw := hw.1 c570
      refine lv_lload_n hx hb d_Mod_writeLongs_103 rfl (lv_at hl 3 rfl) ?_
      exact t_Mod_writeLongs_104 hx hb hml hown hT hK hN hA hRc hRs hRf hRl hret hrec31 hrec77 l1 l2 l3 l5 l3 x568 H locs ls  hw hW hS (lv_sub hl [0, 1, 2, 3, 4] rfl)
    · have hw := hw.2 c570
      refine lv_aload_n hx hb d_Mod_writeLongs_94 rfl (lv_at hl 0 rfl) ?_
      refine lv_iload hx hb d_Mod_writeLongs_95 (lv_at hl 4 rfl) ?_
      have hF := hW.free hS hA
      refine va_calll (va_runV (C := R_Mod) (As := [.int l5]) (rest := []) ⟨hx, hb, hml, hown, hT⟩ (k_Mod_difference l dC dI cI cB cJ cZ ad H.size l5 x568  hw) ⟨callB_of 1 hT (gwt_in w_11_223) rfl rfl rfl (hT _ w_1_15) (hT _ w_11_220) (by decide +kernel) ⟨Nat.le_trans (Nat.le_of_ble_eq_true rfl) hRf, Nat.le_trans (Nat.le_of_ble_eq_true rfl) hRl⟩, hT _ w_11_222, hT _ ws_158⟩ ⟨PW.blind, va_recv hK hW.1 (ci := 12) (q0 := 0) rfl (pic_obj ko_0.1 ko_0.2 (by decide)), PW.at _ hW hK hN⟩ rfl rfl hl.1 rfl (lv_room (Nat.le_of_ble_eq_true rfl)) d_Mod_writeLongs_97 ⟨hRc, hRs⟩) hS (fun q _ h => hF q h) hF (fun r572 x571 t H locs ht hvm hw hB hz1 hk1 hS => ?_)
      have hW := Wd.back hB ht hF
      clear hB ht hF hz1 hk1 hvm
      refine lv_goto (tgt := 104) hx hb d_Mod_writeLongs_100 (by decide) ?_
      exact t_Mod_writeLongs_104 hx hb hml hown hT hK hN hA hRc hRs hRf hRl hret hrec31 hrec77 l1 l2 l3 l5 r572 x571 H locs ls  hw hW hS (lv_sub hl [0, 1, 2, 3, 4] rfl)
set_option maxHeartbeats 4000000 in
set_option maxRecDepth 100000 in
theorem tl_Mod_writeLongs_77 {p : Program} {l : Launch} {e : Env} {R : Room} {s : State} {m : MethodId} {args : Array Value} {below : List Frame} {meth : Method} {c : Code} {cells slots : Nat} {Q : State → Prop} {dC : Nat → ClassId} {dI : Nat → Nat → Nat} {cI cB cJ cZ : ClassId} {A : Nat → Prop} {ad : Nat → Nat} {post : St → Prop} {rec31 : Int32 → St → Prop} (hx : p.tables.exec = Jvm.exec) (hb : c.code = b_Mod_writeLongs) (hml : c.maxLocals = 6) (hown : s.vm.findClass R_Mod = some m.cls) (hT : ∀ w ∈ TG, w.before args s = true) (hK : va_K (dC, dI) CL (TY cI cB cJ cZ) s) (hN : NW s) (hA : ∀ q : Nat, s.heap.size ≤ q → A q) (hRc : cells ≤ R.cells) (hRs : slots ≤ R.slots) (hRf : 2 ≤ R.frames) (hRl : 50 ≤ R.locals) (hret : ∀ (x : St) (H : Heap) (locs : List Loc) (pc : Nat) (ls : Array Slot), decode b_Mod_writeLongs pc = .ok (.return_, 1) → post x → Wd dC dI cI cB cJ cZ ad stM kcM 115 A x H → va_S A s.heap H locs → W p l e R s m args below meth c H locs cells slots Q (F0 m pc ls [])) (hrec31 : ∀ (l1 : Int32) (x : St) (H : Heap) (locs : List Loc) (ls : Array Slot), rec31 l1 x → Wd dC dI cI cB cJ cZ ad stM kcM 115 A x H → va_S A s.heap H locs → lv_has ls 6 [(0, .ref (ad 0)), (1, .int l1)] → W p l e R s m args below meth c H locs cells slots Q (F0 m 31 ls [])) : ∀ n : Nat, ∀ (l1 : Int32) (l2 : Int32) (l3 : Int64) (l5 : Int32) (x : St) (H : Heap) (locs : List Loc) (ls : Array Slot), wl_Mod_writeLongs_77 post rec31 n l1 l2 l3 l5 x → Wd dC dI cI cB cJ cZ ad stM kcM 115 A x H → va_S A s.heap H locs → lv_has ls 6 [(0, .ref (ad 0)), (1, .int l1), (2, .int l2), (3, .long l3), (5, .int l5)] → W p l e R s m args below meth c H locs cells slots Q (F0 m 77 ls []) := by
  intro n
  induction n with
  | zero => intro l1 l2 l3 l5 x H locs ls  hw; exact hw.elim
  | succ n ih => intro l1 l2 l3 l5 x H locs ls  hw hW hS hl; exact t_Mod_writeLongs_77 hx hb hml hown hT hK hN hA hRc hRs hRf hRl hret hrec31 ih l1 l2 l3 l5 x H locs ls  hw hW hS hl
set_option maxRecDepth 100000 in
set_option maxHeartbeats 4000000 in
set_option maxRecDepth 100000 in
theorem t_Mod_writeLongs_67 {p : Program} {l : Launch} {e : Env} {R : Room} {s : State} {m : MethodId} {args : Array Value} {below : List Frame} {meth : Method} {c : Code} {cells slots : Nat} {Q : State → Prop} {dC : Nat → ClassId} {dI : Nat → Nat → Nat} {cI cB cJ cZ : ClassId} {A : Nat → Prop} {ad : Nat → Nat} {post : St → Prop} {rec31 : Int32 → St → Prop} (hx : p.tables.exec = Jvm.exec) (hb : c.code = b_Mod_writeLongs) (hml : c.maxLocals = 6) (hown : s.vm.findClass R_Mod = some m.cls) (hT : ∀ w ∈ TG, w.before args s = true) (hK : va_K (dC, dI) CL (TY cI cB cJ cZ) s) (hN : NW s) (hA : ∀ q : Nat, s.heap.size ≤ q → A q) (hRc : cells ≤ R.cells) (hRs : slots ≤ R.slots) (hRf : 2 ≤ R.frames) (hRl : 50 ≤ R.locals) (hret : ∀ (x : St) (H : Heap) (locs : List Loc) (pc : Nat) (ls : Array Slot), decode b_Mod_writeLongs pc = .ok (.return_, 1) → post x → Wd dC dI cI cB cJ cZ ad stM kcM 115 A x H → va_S A s.heap H locs → W p l e R s m args below meth c H locs cells slots Q (F0 m pc ls [])) (hrec31 : ∀ (l1 : Int32) (x : St) (H : Heap) (locs : List Loc) (ls : Array Slot), rec31 l1 x → Wd dC dI cI cB cJ cZ ad stM kcM 115 A x H → va_S A s.heap H locs → lv_has ls 6 [(0, .ref (ad 0)), (1, .int l1)] → W p l e R s m args below meth c H locs cells slots Q (F0 m 31 ls [])) : ∀ (l1 : Int32) (s0 : Int32) (x : St) (H : Heap) (locs : List Loc) (ls : Array Slot), j_Mod_writeLongs_67 post rec31 l1 s0 x → Wd dC dI cI cB cJ cZ ad stM kcM 115 A x H → va_S A s.heap H locs → lv_has ls 6 [(0, .ref (ad 0)), (1, .int l1)] → W p l e R s m args below meth c H locs cells slots Q (F0 m 67 ls [.int s0]) := by
  intro l1 s0 x H locs ls  hw hW hS hl
  unfold j_Mod_writeLongs_67 at hw
  refine lv_istore_n (lv' := [(2, .int s0), (0, .ref (ad 0)), (1, .int l1)]) hx hb d_Mod_writeLongs_67 rfl hl (by decide) rfl (fun ls hl => ?_)
  refine lv_aload_n hx hb d_Mod_writeLongs_68 rfl (lv_at hl 1 rfl) ?_
  refine lv_iload_n hx hb d_Mod_writeLongs_69 rfl (lv_at hl 2 rfl) ?_
  have hF := hW.free hS hA
  refine va_calll (va_runV (C := R_Mod) (As := [.int l1]) (rest := []) ⟨hx, hb, hml, hown, hT⟩ (k_Mod_difference l dC dI cI cB cJ cZ ad H.size l1 x  hw) ⟨callB_of 1 hT (gwt_in w_11_223) rfl rfl rfl (hT _ w_1_15) (hT _ w_11_220) (by decide +kernel) ⟨Nat.le_trans (Nat.le_of_ble_eq_true rfl) hRf, Nat.le_trans (Nat.le_of_ble_eq_true rfl) hRl⟩, hT _ w_11_222, hT _ ws_158⟩ ⟨PW.blind, va_recv hK hW.1 (ci := 12) (q0 := 0) rfl (pic_obj ko_0.1 ko_0.2 (by decide)), PW.at _ hW hK hN⟩ rfl rfl hl.1 rfl (lv_room (Nat.le_of_ble_eq_true rfl)) d_Mod_writeLongs_70 ⟨hRc, hRs⟩) hS (fun q _ h => hF q h) hF (fun r574 x573 t H locs ht hvm hw hB hz1 hk1 hS => ?_)
  have hW := Wd.back hB ht hF
  clear hB ht hF hz1 hk1 hvm
  refine lv_lstore_n (lv' := [(3, .long r574), (2, .int s0), (0, .ref (ad 0)), (1, .int l1)]) hx hb d_Mod_writeLongs_73 rfl hl (by decide) rfl (fun ls hl => ?_)
  refine lv_iload_n hx hb d_Mod_writeLongs_74 rfl (lv_at hl 3 rfl) ?_
  refine lv_istore (lv' := [(5, .int l1), (3, .long r574), (2, .int s0), (0, .ref (ad 0)), (1, .int l1)]) hx hb d_Mod_writeLongs_75 hl (by decide) rfl (fun ls hl => ?_)
  obtain ⟨n, hw⟩ := hw
  exact tl_Mod_writeLongs_77 hx hb hml hown hT hK hN hA hRc hRs hRf hRl hret hrec31 n l1 s0 r574 l1 x573 H locs ls  hw hW hS (lv_sub hl [3, 4, 2, 1, 0] rfl)
set_option maxRecDepth 100000 in
set_option maxHeartbeats 4000000 in
set_option maxRecDepth 100000 in
theorem t_Mod_writeLongs_31 {p : Program} {l : Launch} {e : Env} {R : Room} {s : State} {m : MethodId} {args : Array Value} {below : List Frame} {meth : Method} {c : Code} {cells slots : Nat} {Q : State → Prop} {dC : Nat → ClassId} {dI : Nat → Nat → Nat} {cI cB cJ cZ : ClassId} {A : Nat → Prop} {ad : Nat → Nat} {post : St → Prop} {rec31 : Int32 → St → Prop} (hx : p.tables.exec = Jvm.exec) (hb : c.code = b_Mod_writeLongs) (hml : c.maxLocals = 6) (hown : s.vm.findClass R_Mod = some m.cls) (hT : ∀ w ∈ TG, w.before args s = true) (hK : va_K (dC, dI) CL (TY cI cB cJ cZ) s) (hN : NW s) (hA : ∀ q : Nat, s.heap.size ≤ q → A q) (hRc : cells ≤ R.cells) (hRs : slots ≤ R.slots) (hRf : 2 ≤ R.frames) (hRl : 50 ≤ R.locals) (hret : ∀ (x : St) (H : Heap) (locs : List Loc) (pc : Nat) (ls : Array Slot), decode b_Mod_writeLongs pc = .ok (.return_, 1) → post x → Wd dC dI cI cB cJ cZ ad stM kcM 115 A x H → va_S A s.heap H locs → W p l e R s m args below meth c H locs cells slots Q (F0 m pc ls [])) (hrec31 : ∀ (l1 : Int32) (x : St) (H : Heap) (locs : List Loc) (ls : Array Slot), rec31 l1 x → Wd dC dI cI cB cJ cZ ad stM kcM 115 A x H → va_S A s.heap H locs → lv_has ls 6 [(0, .ref (ad 0)), (1, .int l1)] → W p l e R s m args below meth c H locs cells slots Q (F0 m 31 ls [])) : ∀ (l1 : Int32) (x : St) (H : Heap) (locs : List Loc) (ls : Array Slot), j_Mod_writeLongs_31 post rec31 l1 x → Wd dC dI cI cB cJ cZ ad stM kcM 115 A x H → va_S A s.heap H locs → lv_has ls 6 [(0, .ref (ad 0)), (1, .int l1)] → W p l e R s m args below meth c H locs cells slots Q (F0 m 31 ls []) := by
  intro l1 x H locs ls  hw hW hS hl
  unfold j_Mod_writeLongs_31 at hw
  refine lv_iload_n hx hb d_Mod_writeLongs_31 rfl (lv_at hl 1 rfl) ?_
  refine lv_aload_n hx hb d_Mod_writeLongs_32 rfl (lv_at hl 0 rfl) ?_
  refine w_geti (k := 71) (t := 12) (C := R_Mod) (T := F_Mod) (N := 167) hx hb hT hown hK hW ko_0.1 ko_0.2 (by decide) in_Mod rfl rfl (by decide) rfl fr_Mod_71 w_9_7 d_Mod_writeLongs_33 ?_
  refine lv_iconst (v := 1) hx hb d_Mod_writeLongs_36 (by decide) ?_
  refine lv_isub hx hb d_Mod_writeLongs_37 ?_
  refine lv_icmp_ge (tgt := 186) hx hb d_Mod_writeLongs_38 (by decide) (fun c575 => ?_) (fun c575 => ?_)
  · have hw := hw.1 c575
    exact hret x H locs 186 ls d_Mod_writeLongs_186 hw hW hS
  · have hw := hw.2 c575
    refine lv_iload_n hx hb d_Mod_writeLongs_41 rfl (lv_at hl 1 rfl) ?_
    refine lv_bipush (v := 64) hx hb d_Mod_writeLongs_42 (by decide) ?_
    refine lv_iadd hx hb d_Mod_writeLongs_44 ?_
    refine lv_aload_n hx hb d_Mod_writeLongs_45 rfl (lv_at hl 0 rfl) ?_
    refine w_geti (k := 71) (t := 12) (C := R_Mod) (T := F_Mod) (N := 167) hx hb hT hown hK hW ko_0.1 ko_0.2 (by decide) in_Mod rfl rfl (by decide) rfl fr_Mod_71 w_9_7 d_Mod_writeLongs_46 ?_
    refine lv_iconst (v := 1) hx hb d_Mod_writeLongs_49 (by decide) ?_
    refine lv_isub hx hb d_Mod_writeLongs_50 ?_
    refine lv_icmp_ge (tgt := 61) hx hb d_Mod_writeLongs_51 (by decide) (fun c576 => ?_) (fun c576 => ?_)
    · have hw := hw.1 c576
      refine lv_aload_n hx hb d_Mod_writeLongs_61 rfl (lv_at hl 0 rfl) ?_
      refine w_geti (k := 71) (t := 12) (C := R_Mod) (T := F_Mod) (N := 167) hx hb hT hown hK hW ko_0.1 ko_0.2 (by decide) in_Mod rfl rfl (by decide) rfl fr_Mod_71 w_9_7 d_Mod_writeLongs_62 ?_
      refine lv_iconst (v := 1) hx hb d_Mod_writeLongs_65 (by decide) ?_
      refine lv_isub hx hb d_Mod_writeLongs_66 ?_
      exact t_Mod_writeLongs_67 hx hb hml hown hT hK hN hA hRc hRs hRf hRl hret hrec31 l1 ((fI x 0 71) - 1) x H locs ls  hw hW hS (lv_sub hl [0, 1] rfl)
    · have hw := hw.2 c576
      refine lv_iload_n hx hb d_Mod_writeLongs_54 rfl (lv_at hl 1 rfl) ?_
      refine lv_bipush (v := 64) hx hb d_Mod_writeLongs_55 (by decide) ?_
      refine lv_iadd hx hb d_Mod_writeLongs_57 ?_
      refine lv_goto (tgt := 67) hx hb d_Mod_writeLongs_58 (by decide) ?_
      exact t_Mod_writeLongs_67 hx hb hml hown hT hK hN hA hRc hRs hRf hRl hret hrec31 l1 (l1 + 64) x H locs ls  hw hW hS (lv_sub hl [0, 1] rfl)
set_option maxHeartbeats 4000000 in
set_option maxRecDepth 100000 in
theorem tl_Mod_writeLongs_31 {p : Program} {l : Launch} {e : Env} {R : Room} {s : State} {m : MethodId} {args : Array Value} {below : List Frame} {meth : Method} {c : Code} {cells slots : Nat} {Q : State → Prop} {dC : Nat → ClassId} {dI : Nat → Nat → Nat} {cI cB cJ cZ : ClassId} {A : Nat → Prop} {ad : Nat → Nat} {post : St → Prop} (hx : p.tables.exec = Jvm.exec) (hb : c.code = b_Mod_writeLongs) (hml : c.maxLocals = 6) (hown : s.vm.findClass R_Mod = some m.cls) (hT : ∀ w ∈ TG, w.before args s = true) (hK : va_K (dC, dI) CL (TY cI cB cJ cZ) s) (hN : NW s) (hA : ∀ q : Nat, s.heap.size ≤ q → A q) (hRc : cells ≤ R.cells) (hRs : slots ≤ R.slots) (hRf : 2 ≤ R.frames) (hRl : 50 ≤ R.locals) (hret : ∀ (x : St) (H : Heap) (locs : List Loc) (pc : Nat) (ls : Array Slot), decode b_Mod_writeLongs pc = .ok (.return_, 1) → post x → Wd dC dI cI cB cJ cZ ad stM kcM 115 A x H → va_S A s.heap H locs → W p l e R s m args below meth c H locs cells slots Q (F0 m pc ls []))  : ∀ n : Nat, ∀ (l1 : Int32) (x : St) (H : Heap) (locs : List Loc) (ls : Array Slot), wl_Mod_writeLongs_31 post n l1 x → Wd dC dI cI cB cJ cZ ad stM kcM 115 A x H → va_S A s.heap H locs → lv_has ls 6 [(0, .ref (ad 0)), (1, .int l1)] → W p l e R s m args below meth c H locs cells slots Q (F0 m 31 ls []) := by
  intro n
  induction n with
  | zero => intro l1 x H locs ls  hw; exact hw.elim
  | succ n ih => intro l1 x H locs ls  hw hW hS hl; exact t_Mod_writeLongs_31 hx hb hml hown hT hK hN hA hRc hRs hRf hRl hret  ih l1 x H locs ls  hw hW hS hl
set_option maxRecDepth 100000 in
set_option maxHeartbeats 4000000 in
set_option maxRecDepth 100000 in
theorem t_Mod_writeLongs_29 {p : Program} {l : Launch} {e : Env} {R : Room} {s : State} {m : MethodId} {args : Array Value} {below : List Frame} {meth : Method} {c : Code} {cells slots : Nat} {Q : State → Prop} {dC : Nat → ClassId} {dI : Nat → Nat → Nat} {cI cB cJ cZ : ClassId} {A : Nat → Prop} {ad : Nat → Nat} {post : St → Prop} (hx : p.tables.exec = Jvm.exec) (hb : c.code = b_Mod_writeLongs) (hml : c.maxLocals = 6) (hown : s.vm.findClass R_Mod = some m.cls) (hT : ∀ w ∈ TG, w.before args s = true) (hK : va_K (dC, dI) CL (TY cI cB cJ cZ) s) (hN : NW s) (hA : ∀ q : Nat, s.heap.size ≤ q → A q) (hRc : cells ≤ R.cells) (hRs : slots ≤ R.slots) (hRf : 2 ≤ R.frames) (hRl : 50 ≤ R.locals) (hret : ∀ (x : St) (H : Heap) (locs : List Loc) (pc : Nat) (ls : Array Slot), decode b_Mod_writeLongs pc = .ok (.return_, 1) → post x → Wd dC dI cI cB cJ cZ ad stM kcM 115 A x H → va_S A s.heap H locs → W p l e R s m args below meth c H locs cells slots Q (F0 m pc ls []))  : ∀  (x : St) (H : Heap) (locs : List Loc) (ls : Array Slot), j_Mod_writeLongs_29 post  x → Wd dC dI cI cB cJ cZ ad stM kcM 115 A x H → va_S A s.heap H locs → lv_has ls 6 [(0, .ref (ad 0))] → W p l e R s m args below meth c H locs cells slots Q (F0 m 29 ls []) := by
  intro  x H locs ls  hw hW hS hl
  unfold j_Mod_writeLongs_29 at hw
  refine lv_iconst (v := 0) hx hb d_Mod_writeLongs_29 (by decide) ?_
  refine lv_istore_n (lv' := [(1, .int 0), (0, .ref (ad 0))]) hx hb d_Mod_writeLongs_30 rfl hl (by decide) rfl (fun ls hl => ?_)
  obtain ⟨n, hw⟩ := hw
  exact tl_Mod_writeLongs_31 hx hb hml hown hT hK hN hA hRc hRs hRf hRl hret  n 0 x H locs ls  hw hW hS (lv_sub hl [1, 0] rfl)
set_option maxRecDepth 100000 in
set_option maxHeartbeats 4000000 in
set_option maxRecDepth 100000 in
theorem t_Mod_writeLongs_e {p : Program} {l : Launch} {e : Env} {R : Room} {s : State} {m : MethodId} {args : Array Value} {below : List Frame} {meth : Method} {c : Code} {cells slots : Nat} {Q : State → Prop} {dC : Nat → ClassId} {dI : Nat → Nat → Nat} {cI cB cJ cZ : ClassId} {A : Nat → Prop} {ad : Nat → Nat} {post : St → Prop} (hx : p.tables.exec = Jvm.exec) (hb : c.code = b_Mod_writeLongs) (hml : c.maxLocals = 6) (hown : s.vm.findClass R_Mod = some m.cls) (hT : ∀ w ∈ TG, w.before args s = true) (hK : va_K (dC, dI) CL (TY cI cB cJ cZ) s) (hN : NW s) (hA : ∀ q : Nat, s.heap.size ≤ q → A q) (hRc : cells ≤ R.cells) (hRs : slots ≤ R.slots) (hRf : 2 ≤ R.frames) (hRl : 50 ≤ R.locals) (hret : ∀ (x : St) (H : Heap) (locs : List Loc) (pc : Nat) (ls : Array Slot), decode b_Mod_writeLongs pc = .ok (.return_, 1) → post x → Wd dC dI cI cB cJ cZ ad stM kcM 115 A x H → va_S A s.heap H locs → W p l e R s m args below meth c H locs cells slots Q (F0 m pc ls [])) : ∀  (x : St) (H : Heap) (locs : List Loc) (ls : Array Slot), wp_Mod_writeLongs post  x → Wd dC dI cI cB cJ cZ ad stM kcM 115 A x H → va_S A s.heap H locs → lv_has ls 6 [(0, .ref (ad 0))] → W p l e R s m args below meth c H locs cells slots Q (F0 m 0 ls []) := by
  intro  x H locs ls  hw hW hS hl
  unfold wp_Mod_writeLongs at hw
  refine lv_aload_n hx hb d_Mod_writeLongs_0 rfl (lv_at hl 0 rfl) ?_
  refine lv_aload_n hx hb d_Mod_writeLongs_1 rfl (lv_at hl 0 rfl) ?_
  refine w_geti (k := 71) (t := 12) (C := R_Mod) (T := F_Mod) (N := 167) hx hb hT hown hK hW ko_0.1 ko_0.2 (by decide) in_Mod rfl rfl (by decide) rfl fr_Mod_71 w_9_7 d_Mod_writeLongs_2 ?_
  refine lv_i2l hx hb d_Mod_writeLongs_5 rfl ?_
  have hF := hW.free hS hA
  refine va_callv (va_runV (C := R_Mod) (As := [.long ((fI x 0 71) : Int32).toInt64]) (rest := []) ⟨hx, hb, hml, hown, hT⟩ (k_Mod_putVarint l dC dI cI cB cJ cZ ad H.size ((fI x 0 71) : Int32).toInt64 x  hw) ⟨callB_of 1 hT (gwt_in w_11_194) rfl rfl rfl (hT _ w_1_15) (hT _ w_11_191) (by decide +kernel) ⟨Nat.le_trans (Nat.le_of_ble_eq_true rfl) hRf, Nat.le_trans (Nat.le_of_ble_eq_true rfl) hRl⟩, hT _ w_11_193, hT _ ws_152⟩ ⟨PW.blind, va_recv hK hW.1 (ci := 12) (q0 := 0) rfl (pic_obj ko_0.1 ko_0.2 (by decide)), PW.at _ hW hK hN⟩ rfl rfl hl.1 rfl (lv_room (Nat.le_of_ble_eq_true rfl)) d_Mod_writeLongs_6 ⟨hRc, hRs⟩) hS (fun q _ h => hF q h) hF (fun  x577 t H locs ht hvm hw hB hz1 hk1 hS => ?_)
  have hW := Wd.back hB ht hF
  clear hB ht hF hz1 hk1 hvm
  refine lv_aload_n hx hb d_Mod_writeLongs_9 rfl (lv_at hl 0 rfl) ?_
  refine w_geti (k := 71) (t := 12) (C := R_Mod) (T := F_Mod) (N := 167) hx hb hT hown hK hW ko_0.1 ko_0.2 (by decide) in_Mod rfl rfl (by decide) rfl fr_Mod_71 w_9_7 d_Mod_writeLongs_10 ?_
  refine lv_if_le (tgt := 29) hx hb d_Mod_writeLongs_13 (by decide) (fun c578 => ?_) (fun c578 => ?_)
  · have hw := hw.1 c578
    exact t_Mod_writeLongs_29 hx hb hml hown hT hK hN hA hRc hRs hRf hRl hret   x577 H locs ls  hw hW hS (lv_sub hl [0] rfl)
  · have hw := hw.2 c578
    refine lv_aload_n hx hb d_Mod_writeLongs_16 rfl (lv_at hl 0 rfl) ?_
    refine lv_aload_n hx hb d_Mod_writeLongs_17 rfl (lv_at hl 0 rfl) ?_
    refine w_getf (q := 43) (k := 70) (t := 12) (C := R_Mod) (T := F_Mod) (N := 167) hx hb hT hown hK hW ko_0.1 ko_0.2 (by decide) in_Mod rfl rfl (by decide) rfl fr_Mod_70 w_9_6 d_Mod_writeLongs_18 rfl ?_
    refine lv_iconst (v := 0) hx hb d_Mod_writeLongs_21 (by decide) ?_
    obtain ⟨hi, hw⟩ := hw
    refine w_lald (o := 43) hx hb hK hW ko_43.1 ko_43.2 hi d_Mod_writeLongs_22 ?_
    have hF := hW.free hS hA
    refine va_calll (va_runS (As := [.long (rL x577 43 0)]) (rest := [.ref (ad 0)]) ⟨hx, hb, hml, hown, hT⟩ (k_Mod_zigzag l dC dI cI cB cJ cZ ad H.size (rL x577 43 0) x577  hw) ⟨callB_of 1 hT (gwt_in w_11_218) rfl rfl rfl (hT _ w_1_15) (hT _ w_11_216) (by decide +kernel) ⟨Nat.le_trans (Nat.le_of_ble_eq_true rfl) hRf, Nat.le_trans (Nat.le_of_ble_eq_true rfl) hRl⟩, hT _ w_11_217⟩ ⟨PW.blind, PW.at _ hW hK hN⟩ rfl rfl hl.1 rfl (lv_room (Nat.le_of_ble_eq_true rfl)) d_Mod_writeLongs_23 ⟨hRc, hRs⟩) hS (fun q _ h => hF q h) hF (fun r580 x579 t H locs ht hvm hw hB hz1 hk1 hS => ?_)
    have hW := Wd.back hB ht hF
    clear hB ht hF hz1 hk1 hvm
    have hF := hW.free hS hA
    refine va_callv (va_runV (C := R_Mod) (As := [.long r580]) (rest := []) ⟨hx, hb, hml, hown, hT⟩ (k_Mod_putVarint l dC dI cI cB cJ cZ ad H.size r580 x579  hw) ⟨callB_of 1 hT (gwt_in w_11_194) rfl rfl rfl (hT _ w_1_15) (hT _ w_11_191) (by decide +kernel) ⟨Nat.le_trans (Nat.le_of_ble_eq_true rfl) hRf, Nat.le_trans (Nat.le_of_ble_eq_true rfl) hRl⟩, hT _ w_11_193, hT _ ws_152⟩ ⟨PW.blind, va_recv hK hW.1 (ci := 12) (q0 := 0) rfl (pic_obj ko_0.1 ko_0.2 (by decide)), PW.at _ hW hK hN⟩ rfl rfl hl.1 rfl (lv_room (Nat.le_of_ble_eq_true rfl)) d_Mod_writeLongs_26 ⟨hRc, hRs⟩) hS (fun q _ h => hF q h) hF (fun  x581 t H locs ht hvm hw hB hz1 hk1 hS => ?_)
    have hW := Wd.back hB ht hF
    clear hB ht hF hz1 hk1 hvm
    exact t_Mod_writeLongs_29 hx hb hml hown hT hK hN hA hRc hRs hRf hRl hret   x581 H locs ls  hw hW hS (lv_sub hl [0] rfl)
set_option maxHeartbeats 4000000 in
set_option maxRecDepth 100000 in
theorem k_Mod_writeLongs (l : Launch) (dC : Nat → ClassId) (dI : Nat → Nat → Nat) (cI cB cJ cZ : ClassId) (ad : Nat → Nat) (sz : Nat)  (x : St) {post : St → Prop} (hw : wp_Mod_writeLongs post  x) : Met l y_Mod_writeLongs (wsOf y_Mod_writeLongs b_Mod_writeLongs 6 (none)) ({ frames := 2, cells := 0, slots := 0, locals := 50 }) (va_Pc [.ref (ad 0)] (PW dC dI cI cB cJ cZ ad stM kcM 115 sz x)) (va_Qv (fun (y : St) => post y) (fun y t => Wd dC dI cI cB cJ cZ ad stM kcM 115 (va_A (pic ad stM kcM 115 cI cB cJ cZ x) sz) y t.heap) (va_A (pic ad stM kcM 115 cI cB cJ cZ x) sz)) 0 0 (va_A (pic ad stM kcM 115 cI cB cJ cZ x) sz) := by
  refine Met.ofW (cc := b_Mod_writeLongs) (maxL := 6) (ret := none) (by decide) rfl ?_
  intro p e s m args below meth c s₁ B hml hv
  obtain ⟨rfl, hsz, hW0, hK, hN⟩ := hv
  have hx := B.exec
  have hb := B.bytes
  have hr := B.returns
  have hts := atoms_spec B.pre
  have hT : ∀ w ∈ TG, w.before _ s = true := fun w h => hts w (List.mem_cons_of_mem _ h)
  have hown : s.vm.findClass R_Mod = some m.cls := findClass_of_methodNamed B.named
  have hlocks := B.notSynchronized
  subst hsz
  have hW : Wd dC dI cI cB cJ cZ ad stM kcM 115 (va_A (pic ad stM kcM 115 cI cB cJ cZ x) s.heap.size) x s.heap := ⟨hW0.1, hW0.2.1.self (sz := s.heap.size), hW0.2.2⟩
  generalize hAe : va_A (pic ad stM kcM 115 cI cB cJ cZ x) s.heap.size = A at hW ⊢
  have hA : ∀ q : Nat, s.heap.size ≤ q → A q := fun q h => by rw [← hAe]; exact Or.inr h
  have hS : va_S A s.heap s.heap [] := va_S.rf
  have hl := lv_entry ([.ref (ad 0)]) (n := 6) (Nat.le_of_ble_eq_true rfl)
  rw [lg_entry_eq]
  generalize (lg_sl ([.ref (ad 0)]) ++ List.replicate (6 - (lg_sl ([.ref (ad 0)])).length) Slot.unset).toArray = ls at hl ⊢
  have hl : lv_has ls 6 [(0, .ref (ad 0))] := hl
  exact t_Mod_writeLongs_e hx hb hml hown hT hK hN hA (Nat.le_refl 0) (Nat.le_refl 0) (Nat.le_refl 2) (Nat.le_refl 50) (fun x H locs pc ls hd hp hW hS => W.vret hx hb hr (fun t ht hM => ⟨⟨x, rfl, hp, Wd.back hW ht.symm (fun _ z => z)⟩, hS.F ht⟩) hS.2.2 hd hlocks)   x _ _ ls  hw hW hS hl
set_option maxRecDepth 100000 in
set_option maxHeartbeats 4000000 in
set_option maxRecDepth 100000 in
theorem t_Mod_firstWhole_2 {p : Program} {l : Launch} {e : Env} {R : Room} {s : State} {m : MethodId} {args : Array Value} {below : List Frame} {meth : Method} {c : Code} {cells slots : Nat} {Q : State → Prop} {dC : Nat → ClassId} {dI : Nat → Nat → Nat} {cI cB cJ cZ : ClassId} {A : Nat → Prop} {ad : Nat → Nat} {post : Int32 → St → Prop} {rec2 : Int32 → Int32 → St → Prop} (hx : p.tables.exec = Jvm.exec) (hb : c.code = b_Mod_firstWhole) (hml : c.maxLocals = 3) (hown : s.vm.findClass R_Mod = some m.cls) (hT : ∀ w ∈ TG, w.before args s = true) (hK : va_K (dC, dI) CL (TY cI cB cJ cZ) s) (hN : NW s) (hA : ∀ q : Nat, s.heap.size ≤ q → A q) (hRc : cells ≤ R.cells) (hRs : slots ≤ R.slots) (hRf : 0 ≤ R.frames) (hRl : 0 ≤ R.locals) (hret : ∀ (r : Int32) (x : St) (H : Heap) (locs : List Loc) (pc : Nat) (ls : Array Slot), decode b_Mod_firstWhole pc = .ok (.ireturn, 1) → post r x → Wd dC dI cI cB cJ cZ ad stM kcM 115 A x H → va_S A s.heap H locs → W p l e R s m args below meth c H locs cells slots Q (F0 m pc ls [.int r])) (hrec2 : ∀ (l1 : Int32) (l2 : Int32) (x : St) (H : Heap) (locs : List Loc) (ls : Array Slot), rec2 l1 l2 x → Wd dC dI cI cB cJ cZ ad stM kcM 115 A x H → va_S A s.heap H locs → lv_has ls 3 [(0, .ref (ad 0)), (1, .int l1), (2, .int l2)] → W p l e R s m args below meth c H locs cells slots Q (F0 m 2 ls [])) : ∀ (l1 : Int32) (l2 : Int32) (x : St) (H : Heap) (locs : List Loc) (ls : Array Slot), j_Mod_firstWhole_2 post rec2 l1 l2 x → Wd dC dI cI cB cJ cZ ad stM kcM 115 A x H → va_S A s.heap H locs → lv_has ls 3 [(0, .ref (ad 0)), (1, .int l1), (2, .int l2)] → W p l e R s m args below meth c H locs cells slots Q (F0 m 2 ls []) := by
  intro l1 l2 x H locs ls  hw hW hS hl
  unfold j_Mod_firstWhole_2 at hw
  refine lv_aload_n hx hb d_Mod_firstWhole_2 rfl (lv_at hl 0 rfl) ?_
  refine w_getf (q := 30) (k := 49) (t := 12) (C := R_Mod) (T := F_Mod) (N := 167) hx hb hT hown hK hW ko_0.1 ko_0.2 (by decide) in_Mod rfl rfl (by decide) rfl fr_Mod_49 w_8_225 d_Mod_firstWhole_3 rfl ?_
  refine lv_iload_n hx hb d_Mod_firstWhole_6 rfl (lv_at hl 2 rfl) ?_
  obtain ⟨hi, hw⟩ := hw
  refine w_lald (o := 30) hx hb hK hW ko_30.1 ko_30.2 hi d_Mod_firstWhole_7 ?_
  refine lv_aload_n hx hb d_Mod_firstWhole_8 rfl (lv_at hl 0 rfl) ?_
  refine w_getf (q := 30) (k := 49) (t := 12) (C := R_Mod) (T := F_Mod) (N := 167) hx hb hT hown hK hW ko_0.1 ko_0.2 (by decide) in_Mod rfl rfl (by decide) rfl fr_Mod_49 w_8_225 d_Mod_firstWhole_9 rfl ?_
  refine lv_iload_n hx hb d_Mod_firstWhole_12 rfl (lv_at hl 1 rfl) ?_
  obtain ⟨hi, hw⟩ := hw
  refine w_lald (o := 30) hx hb hK hW ko_30.1 ko_30.2 hi d_Mod_firstWhole_13 ?_
  refine W.lcmp hx hb d_Mod_firstWhole_14 ?_
  refine lv_if_eq (tgt := 24) hx hb d_Mod_firstWhole_15 (by decide) (fun c582 => ?_) (fun c582 => ?_)
  · have hw := hw.1 c582
    refine lv_iload_n hx hb d_Mod_firstWhole_24 rfl (lv_at hl 2 rfl) ?_
    exact hret l2 x H locs 25 ls d_Mod_firstWhole_25 hw hW hS
  · have hw := hw.2 c582
    refine lv_iinc (v := (l2 + 1)) (lv' := [(2, .int (l2 + 1)), (0, .ref (ad 0)), (1, .int l1)]) hx hb d_Mod_firstWhole_18 hl (k := 2) rfl rfl (by decide) rfl (fun ls hl => ?_)
    refine lv_goto (tgt := 2) hx hb d_Mod_firstWhole_21 (by decide) ?_
    exact hrec2 l1 (l2 + 1) x H locs ls  hw hW hS (lv_sub hl [1, 2, 0] rfl)
set_option maxHeartbeats 4000000 in
set_option maxRecDepth 100000 in
theorem tl_Mod_firstWhole_2 {p : Program} {l : Launch} {e : Env} {R : Room} {s : State} {m : MethodId} {args : Array Value} {below : List Frame} {meth : Method} {c : Code} {cells slots : Nat} {Q : State → Prop} {dC : Nat → ClassId} {dI : Nat → Nat → Nat} {cI cB cJ cZ : ClassId} {A : Nat → Prop} {ad : Nat → Nat} {post : Int32 → St → Prop} (hx : p.tables.exec = Jvm.exec) (hb : c.code = b_Mod_firstWhole) (hml : c.maxLocals = 3) (hown : s.vm.findClass R_Mod = some m.cls) (hT : ∀ w ∈ TG, w.before args s = true) (hK : va_K (dC, dI) CL (TY cI cB cJ cZ) s) (hN : NW s) (hA : ∀ q : Nat, s.heap.size ≤ q → A q) (hRc : cells ≤ R.cells) (hRs : slots ≤ R.slots) (hRf : 0 ≤ R.frames) (hRl : 0 ≤ R.locals) (hret : ∀ (r : Int32) (x : St) (H : Heap) (locs : List Loc) (pc : Nat) (ls : Array Slot), decode b_Mod_firstWhole pc = .ok (.ireturn, 1) → post r x → Wd dC dI cI cB cJ cZ ad stM kcM 115 A x H → va_S A s.heap H locs → W p l e R s m args below meth c H locs cells slots Q (F0 m pc ls [.int r]))  : ∀ n : Nat, ∀ (l1 : Int32) (l2 : Int32) (x : St) (H : Heap) (locs : List Loc) (ls : Array Slot), wl_Mod_firstWhole_2 post n l1 l2 x → Wd dC dI cI cB cJ cZ ad stM kcM 115 A x H → va_S A s.heap H locs → lv_has ls 3 [(0, .ref (ad 0)), (1, .int l1), (2, .int l2)] → W p l e R s m args below meth c H locs cells slots Q (F0 m 2 ls []) := by
  intro n
  induction n with
  | zero => intro l1 l2 x H locs ls  hw; exact hw.elim
  | succ n ih => intro l1 l2 x H locs ls  hw hW hS hl; exact t_Mod_firstWhole_2 hx hb hml hown hT hK hN hA hRc hRs hRf hRl hret  ih l1 l2 x H locs ls  hw hW hS hl
set_option maxRecDepth 100000 in
set_option maxHeartbeats 4000000 in
set_option maxRecDepth 100000 in
theorem t_Mod_firstWhole_e {p : Program} {l : Launch} {e : Env} {R : Room} {s : State} {m : MethodId} {args : Array Value} {below : List Frame} {meth : Method} {c : Code} {cells slots : Nat} {Q : State → Prop} {dC : Nat → ClassId} {dI : Nat → Nat → Nat} {cI cB cJ cZ : ClassId} {A : Nat → Prop} {ad : Nat → Nat} {post : Int32 → St → Prop} (hx : p.tables.exec = Jvm.exec) (hb : c.code = b_Mod_firstWhole) (hml : c.maxLocals = 3) (hown : s.vm.findClass R_Mod = some m.cls) (hT : ∀ w ∈ TG, w.before args s = true) (hK : va_K (dC, dI) CL (TY cI cB cJ cZ) s) (hN : NW s) (hA : ∀ q : Nat, s.heap.size ≤ q → A q) (hRc : cells ≤ R.cells) (hRs : slots ≤ R.slots) (hRf : 0 ≤ R.frames) (hRl : 0 ≤ R.locals) (hret : ∀ (r : Int32) (x : St) (H : Heap) (locs : List Loc) (pc : Nat) (ls : Array Slot), decode b_Mod_firstWhole pc = .ok (.ireturn, 1) → post r x → Wd dC dI cI cB cJ cZ ad stM kcM 115 A x H → va_S A s.heap H locs → W p l e R s m args below meth c H locs cells slots Q (F0 m pc ls [.int r])) : ∀ (l1 : Int32) (x : St) (H : Heap) (locs : List Loc) (ls : Array Slot), wp_Mod_firstWhole post l1 x → Wd dC dI cI cB cJ cZ ad stM kcM 115 A x H → va_S A s.heap H locs → lv_has ls 3 [(0, .ref (ad 0)), (1, .int l1)] → W p l e R s m args below meth c H locs cells slots Q (F0 m 0 ls []) := by
  intro l1 x H locs ls  hw hW hS hl
  unfold wp_Mod_firstWhole at hw
  refine lv_iconst (v := 0) hx hb d_Mod_firstWhole_0 (by decide) ?_
  refine lv_istore_n (lv' := [(2, .int 0), (0, .ref (ad 0)), (1, .int l1)]) hx hb d_Mod_firstWhole_1 rfl hl (by decide) rfl (fun ls hl => ?_)
  obtain ⟨n, hw⟩ := hw
  exact tl_Mod_firstWhole_2 hx hb hml hown hT hK hN hA hRc hRs hRf hRl hret  n l1 0 x H locs ls  hw hW hS (lv_sub hl [1, 2, 0] rfl)
set_option maxHeartbeats 4000000 in
set_option maxRecDepth 100000 in
theorem k_Mod_firstWhole (l : Launch) (dC : Nat → ClassId) (dI : Nat → Nat → Nat) (cI cB cJ cZ : ClassId) (ad : Nat → Nat) (sz : Nat) (l1 : Int32) (x : St) {post : Int32 → St → Prop} (hw : wp_Mod_firstWhole post l1 x) : Met l y_Mod_firstWhole (wsOf y_Mod_firstWhole b_Mod_firstWhole 3 (some (.int))) ({ frames := 0, cells := 0, slots := 0, locals := 0 }) (va_Pc [.ref (ad 0), .int l1] (PW dC dI cI cB cJ cZ ad stM kcM 115 sz x)) (va_Qi (fun (r : Int32) (y : St) => post r y) (fun y t => Wd dC dI cI cB cJ cZ ad stM kcM 115 (va_A (pic ad stM kcM 115 cI cB cJ cZ x) sz) y t.heap) (va_A (pic ad stM kcM 115 cI cB cJ cZ x) sz)) 0 0 (va_A (pic ad stM kcM 115 cI cB cJ cZ x) sz) := by
  refine Met.ofW (cc := b_Mod_firstWhole) (maxL := 3) (ret := some (.int)) (by decide) rfl ?_
  intro p e s m args below meth c s₁ B hml hv
  obtain ⟨rfl, hsz, hW0, hK, hN⟩ := hv
  have hx := B.exec
  have hb := B.bytes
  have hr := B.returns
  have hts := atoms_spec B.pre
  have hT : ∀ w ∈ TG, w.before _ s = true := fun w h => hts w (List.mem_cons_of_mem _ h)
  have hown : s.vm.findClass R_Mod = some m.cls := findClass_of_methodNamed B.named
  have hlocks := B.notSynchronized
  subst hsz
  have hW : Wd dC dI cI cB cJ cZ ad stM kcM 115 (va_A (pic ad stM kcM 115 cI cB cJ cZ x) s.heap.size) x s.heap := ⟨hW0.1, hW0.2.1.self (sz := s.heap.size), hW0.2.2⟩
  generalize hAe : va_A (pic ad stM kcM 115 cI cB cJ cZ x) s.heap.size = A at hW ⊢
  have hA : ∀ q : Nat, s.heap.size ≤ q → A q := fun q h => by rw [← hAe]; exact Or.inr h
  have hS : va_S A s.heap s.heap [] := va_S.rf
  have hl := lv_entry ([.ref (ad 0), .int l1]) (n := 3) (Nat.le_of_ble_eq_true rfl)
  rw [lg_entry_eq]
  generalize (lg_sl ([.ref (ad 0), .int l1]) ++ List.replicate (3 - (lg_sl ([.ref (ad 0), .int l1])).length) Slot.unset).toArray = ls at hl ⊢
  have hl : lv_has ls 3 [(0, .ref (ad 0)), (1, .int l1)] := hl
  exact t_Mod_firstWhole_e hx hb hml hown hT hK hN hA (Nat.le_refl 0) (Nat.le_refl 0) (Nat.le_refl 0) (Nat.le_refl 0) (fun r x H locs pc ls hd hp hW hS => W.iret (v := r) hx hb hr (fun t ht hM => ⟨⟨r, x, rfl, hp, Wd.back hW ht.symm (fun _ z => z)⟩, hS.F ht⟩) hS.2.2 hd hlocks)  l1 x _ _ ls  hw hW hS hl
set_option maxRecDepth 100000 in
set_option maxHeartbeats 4000000 in
set_option maxRecDepth 100000 in
theorem t_Mod_writeWholes_194 {p : Program} {l : Launch} {e : Env} {R : Room} {s : State} {m : MethodId} {args : Array Value} {below : List Frame} {meth : Method} {c : Code} {cells slots : Nat} {Q : State → Prop} {dC : Nat → ClassId} {dI : Nat → Nat → Nat} {cI cB cJ cZ : ClassId} {A : Nat → Prop} {ad : Nat → Nat} {post : St → Prop} {rec194 : Int32 → Int32 → Int32 → St → Prop} (hx : p.tables.exec = Jvm.exec) (hb : c.code = b_Mod_writeWholes) (hml : c.maxLocals = 5) (hown : s.vm.findClass R_Mod = some m.cls) (hT : ∀ w ∈ TG, w.before args s = true) (hK : va_K (dC, dI) CL (TY cI cB cJ cZ) s) (hN : NW s) (hA : ∀ q : Nat, s.heap.size ≤ q → A q) (hRc : cells ≤ R.cells) (hRs : slots ≤ R.slots) (hRf : 3 ≤ R.frames) (hRl : 75 ≤ R.locals) (hret : ∀ (x : St) (H : Heap) (locs : List Loc) (pc : Nat) (ls : Array Slot), decode b_Mod_writeWholes pc = .ok (.return_, 1) → post x → Wd dC dI cI cB cJ cZ ad stM kcM 115 A x H → va_S A s.heap H locs → W p l e R s m args below meth c H locs cells slots Q (F0 m pc ls [])) (hrec194 : ∀ (l1 : Int32) (l2 : Int32) (l3 : Int32) (x : St) (H : Heap) (locs : List Loc) (ls : Array Slot), rec194 l1 l2 l3 x → Wd dC dI cI cB cJ cZ ad stM kcM 115 A x H → va_S A s.heap H locs → lv_has ls 5 [(0, .ref (ad 0)), (1, .int l1), (2, .int l2), (3, .int l3)] → W p l e R s m args below meth c H locs cells slots Q (F0 m 194 ls [])) : ∀ (l1 : Int32) (l2 : Int32) (l3 : Int32) (x : St) (H : Heap) (locs : List Loc) (ls : Array Slot), j_Mod_writeWholes_194 post rec194 l1 l2 l3 x → Wd dC dI cI cB cJ cZ ad stM kcM 115 A x H → va_S A s.heap H locs → lv_has ls 5 [(0, .ref (ad 0)), (1, .int l1), (2, .int l2), (3, .int l3)] → W p l e R s m args below meth c H locs cells slots Q (F0 m 194 ls []) := by
  intro l1 l2 l3 x H locs ls  hw hW hS hl
  unfold j_Mod_writeWholes_194 at hw
  refine lv_iload_n hx hb d_Mod_writeWholes_194 rfl (lv_at hl 2 rfl) ?_
  refine lv_iconst (v := 1) hx hb d_Mod_writeWholes_195 (by decide) ?_
  refine lv_isub hx hb d_Mod_writeWholes_196 ?_
  refine lv_iload_n hx hb d_Mod_writeWholes_197 rfl (lv_at hl 3 rfl) ?_
  refine lv_ishr hx hb d_Mod_writeWholes_198 ?_
  refine lv_if_le (tgt := 208) hx hb d_Mod_writeWholes_199 (by decide) (fun c583 => ?_) (fun c583 => ?_)
  · have hw := hw.1 c583
    refine lv_aload_n hx hb d_Mod_writeWholes_208 rfl (lv_at hl 0 rfl) ?_
    refine lv_iload_n hx hb d_Mod_writeWholes_209 rfl (lv_at hl 3 rfl) ?_
    have hF := hW.free hS hA
    refine va_callv (va_runV (C := R_Mod) (As := [.int l3]) (rest := []) ⟨hx, hb, hml, hown, hT⟩ (k_Mod_put l dC dI cI cB cJ cZ ad H.size l3 x  hw) ⟨callB_of 1 hT (gwt_in w_11_199) rfl rfl rfl (hT _ w_1_15) (hT _ w_11_196) (by decide +kernel) ⟨Nat.le_trans (Nat.le_of_ble_eq_true rfl) hRf, Nat.le_trans (Nat.le_of_ble_eq_true rfl) hRl⟩, hT _ w_11_198, hT _ ws_153⟩ ⟨PW.blind, va_recv hK hW.1 (ci := 12) (q0 := 0) rfl (pic_obj ko_0.1 ko_0.2 (by decide)), PW.at _ hW hK hN⟩ rfl rfl hl.1 rfl (lv_room (Nat.le_of_ble_eq_true rfl)) d_Mod_writeWholes_210 ⟨hRc, hRs⟩) hS (fun q _ h => hF q h) hF (fun  x584 t H locs ht hvm hw hB hz1 hk1 hS => ?_)
    have hW := Wd.back hB ht hF
    clear hB ht hF hz1 hk1 hvm
    refine lv_aload_n hx hb d_Mod_writeWholes_213 rfl (lv_at hl 0 rfl) ?_
    refine lv_aload_n hx hb d_Mod_writeWholes_214 rfl (lv_at hl 0 rfl) ?_
    refine w_getf (q := 44) (k := 72) (t := 12) (C := R_Mod) (T := F_Mod) (N := 167) hx hb hT hown hK hW ko_0.1 ko_0.2 (by decide) in_Mod rfl rfl (by decide) rfl fr_Mod_72 w_9_8 d_Mod_writeWholes_215 rfl ?_
    refine lv_aload_n hx hb d_Mod_writeWholes_218 rfl (lv_at hl 0 rfl) ?_
    refine w_geti (k := 42) (t := 12) (C := R_Mod) (T := F_Mod) (N := 167) hx hb hT hown hK hW ko_0.1 ko_0.2 (by decide) in_Mod rfl rfl (by decide) rfl fr_Mod_42 w_8_218 d_Mod_writeWholes_219 ?_
    refine lv_iload_n hx hb d_Mod_writeWholes_222 rfl (lv_at hl 3 rfl) ?_
    have hF := hW.free hS hA
    refine va_callv (va_runV (C := R_Mod) (As := [.ref (ad 44), .int (fI x584 0 42), .int l3]) (rest := []) ⟨hx, hb, hml, hown, hT⟩ (k_Mod_writeRuns l dC dI cI cB cJ cZ ad H.size 44 (fI x584 0 42) l3 x584 ko_44 hw) ⟨callB_of 3 hT (gwt_in w_11_186) rfl rfl rfl (hT _ w_1_15) (hT _ w_11_183) (by decide +kernel) ⟨Nat.le_trans (Nat.le_of_ble_eq_true rfl) hRf, Nat.le_trans (Nat.le_of_ble_eq_true rfl) hRl⟩, hT _ w_11_185, hT _ ws_151⟩ ⟨PW.blind, va_recv hK hW.1 (ci := 12) (q0 := 0) rfl (pic_obj ko_0.1 ko_0.2 (by decide)), PW.at _ hW hK hN⟩ rfl rfl hl.1 rfl (lv_room (Nat.le_of_ble_eq_true rfl)) d_Mod_writeWholes_223 ⟨hRc, hRs⟩) hS (fun q _ h => hF q h) hF (fun  x585 t H locs ht hvm hw hB hz1 hk1 hS => ?_)
    have hW := Wd.back hB ht hF
    clear hB ht hF hz1 hk1 hvm
    exact hret x585 H locs 226 ls d_Mod_writeWholes_226 hw hW hS
  · have hw := hw.2 c583
    refine lv_iinc (v := (l3 + 1)) (lv' := [(3, .int (l3 + 1)), (0, .ref (ad 0)), (1, .int l1), (2, .int l2)]) hx hb d_Mod_writeWholes_202 hl (k := 3) rfl rfl (by decide) rfl (fun ls hl => ?_)
    refine lv_goto (tgt := 194) hx hb d_Mod_writeWholes_205 (by decide) ?_
    exact hrec194 l1 l2 (l3 + 1) x H locs ls  hw hW hS (lv_sub hl [1, 2, 3, 0] rfl)
set_option maxHeartbeats 4000000 in
set_option maxRecDepth 100000 in
theorem tl_Mod_writeWholes_194 {p : Program} {l : Launch} {e : Env} {R : Room} {s : State} {m : MethodId} {args : Array Value} {below : List Frame} {meth : Method} {c : Code} {cells slots : Nat} {Q : State → Prop} {dC : Nat → ClassId} {dI : Nat → Nat → Nat} {cI cB cJ cZ : ClassId} {A : Nat → Prop} {ad : Nat → Nat} {post : St → Prop} (hx : p.tables.exec = Jvm.exec) (hb : c.code = b_Mod_writeWholes) (hml : c.maxLocals = 5) (hown : s.vm.findClass R_Mod = some m.cls) (hT : ∀ w ∈ TG, w.before args s = true) (hK : va_K (dC, dI) CL (TY cI cB cJ cZ) s) (hN : NW s) (hA : ∀ q : Nat, s.heap.size ≤ q → A q) (hRc : cells ≤ R.cells) (hRs : slots ≤ R.slots) (hRf : 3 ≤ R.frames) (hRl : 75 ≤ R.locals) (hret : ∀ (x : St) (H : Heap) (locs : List Loc) (pc : Nat) (ls : Array Slot), decode b_Mod_writeWholes pc = .ok (.return_, 1) → post x → Wd dC dI cI cB cJ cZ ad stM kcM 115 A x H → va_S A s.heap H locs → W p l e R s m args below meth c H locs cells slots Q (F0 m pc ls []))  : ∀ n : Nat, ∀ (l1 : Int32) (l2 : Int32) (l3 : Int32) (x : St) (H : Heap) (locs : List Loc) (ls : Array Slot), wl_Mod_writeWholes_194 post n l1 l2 l3 x → Wd dC dI cI cB cJ cZ ad stM kcM 115 A x H → va_S A s.heap H locs → lv_has ls 5 [(0, .ref (ad 0)), (1, .int l1), (2, .int l2), (3, .int l3)] → W p l e R s m args below meth c H locs cells slots Q (F0 m 194 ls []) := by
  intro n
  induction n with
  | zero => intro l1 l2 l3 x H locs ls  hw; exact hw.elim
  | succ n ih => intro l1 l2 l3 x H locs ls  hw hW hS hl; exact t_Mod_writeWholes_194 hx hb hml hown hT hK hN hA hRc hRs hRf hRl hret  ih l1 l2 l3 x H locs ls  hw hW hS hl
set_option maxRecDepth 100000 in
set_option maxHeartbeats 4000000 in
set_option maxRecDepth 100000 in
theorem t_Mod_writeWholes_186 {p : Program} {l : Launch} {e : Env} {R : Room} {s : State} {m : MethodId} {args : Array Value} {below : List Frame} {meth : Method} {c : Code} {cells slots : Nat} {Q : State → Prop} {dC : Nat → ClassId} {dI : Nat → Nat → Nat} {cI cB cJ cZ : ClassId} {A : Nat → Prop} {ad : Nat → Nat} {post : St → Prop} {rec155 : Int32 → Int32 → Int32 → St → Prop} (hx : p.tables.exec = Jvm.exec) (hb : c.code = b_Mod_writeWholes) (hml : c.maxLocals = 5) (hown : s.vm.findClass R_Mod = some m.cls) (hT : ∀ w ∈ TG, w.before args s = true) (hK : va_K (dC, dI) CL (TY cI cB cJ cZ) s) (hN : NW s) (hA : ∀ q : Nat, s.heap.size ≤ q → A q) (hRc : cells ≤ R.cells) (hRs : slots ≤ R.slots) (hRf : 3 ≤ R.frames) (hRl : 75 ≤ R.locals) (hret : ∀ (x : St) (H : Heap) (locs : List Loc) (pc : Nat) (ls : Array Slot), decode b_Mod_writeWholes pc = .ok (.return_, 1) → post x → Wd dC dI cI cB cJ cZ ad stM kcM 115 A x H → va_S A s.heap H locs → W p l e R s m args below meth c H locs cells slots Q (F0 m pc ls [])) (hrec155 : ∀ (l1 : Int32) (l2 : Int32) (l3 : Int32) (x : St) (H : Heap) (locs : List Loc) (ls : Array Slot), rec155 l1 l2 l3 x → Wd dC dI cI cB cJ cZ ad stM kcM 115 A x H → va_S A s.heap H locs → lv_has ls 5 [(0, .ref (ad 0)), (1, .int l1), (2, .int l2), (3, .int l3)] → W p l e R s m args below meth c H locs cells slots Q (F0 m 155 ls [])) : ∀ (l1 : Int32) (l2 : Int32) (l3 : Int32) (x : St) (H : Heap) (locs : List Loc) (ls : Array Slot), j_Mod_writeWholes_186 post rec155 l1 l2 l3 x → Wd dC dI cI cB cJ cZ ad stM kcM 115 A x H → va_S A s.heap H locs → lv_has ls 5 [(0, .ref (ad 0)), (1, .int l1), (2, .int l2), (3, .int l3)] → W p l e R s m args below meth c H locs cells slots Q (F0 m 186 ls []) := by
  intro l1 l2 l3 x H locs ls  hw hW hS hl
  unfold j_Mod_writeWholes_186 at hw
  refine lv_iinc (v := (l3 + 1)) (lv' := [(3, .int (l3 + 1)), (0, .ref (ad 0)), (1, .int l1), (2, .int l2)]) hx hb d_Mod_writeWholes_186 hl (k := 3) rfl rfl (by decide) rfl (fun ls hl => ?_)
  refine lv_goto (tgt := 155) hx hb d_Mod_writeWholes_189 (by decide) ?_
  exact hrec155 l1 l2 (l3 + 1) x H locs ls  hw hW hS (lv_sub hl [1, 2, 3, 0] rfl)
set_option maxRecDepth 100000 in
set_option maxHeartbeats 4000000 in
set_option maxRecDepth 100000 in
theorem t_Mod_writeWholes_155 {p : Program} {l : Launch} {e : Env} {R : Room} {s : State} {m : MethodId} {args : Array Value} {below : List Frame} {meth : Method} {c : Code} {cells slots : Nat} {Q : State → Prop} {dC : Nat → ClassId} {dI : Nat → Nat → Nat} {cI cB cJ cZ : ClassId} {A : Nat → Prop} {ad : Nat → Nat} {post : St → Prop} {rec155 : Int32 → Int32 → Int32 → St → Prop} (hx : p.tables.exec = Jvm.exec) (hb : c.code = b_Mod_writeWholes) (hml : c.maxLocals = 5) (hown : s.vm.findClass R_Mod = some m.cls) (hT : ∀ w ∈ TG, w.before args s = true) (hK : va_K (dC, dI) CL (TY cI cB cJ cZ) s) (hN : NW s) (hA : ∀ q : Nat, s.heap.size ≤ q → A q) (hRc : cells ≤ R.cells) (hRs : slots ≤ R.slots) (hRf : 3 ≤ R.frames) (hRl : 75 ≤ R.locals) (hret : ∀ (x : St) (H : Heap) (locs : List Loc) (pc : Nat) (ls : Array Slot), decode b_Mod_writeWholes pc = .ok (.return_, 1) → post x → Wd dC dI cI cB cJ cZ ad stM kcM 115 A x H → va_S A s.heap H locs → W p l e R s m args below meth c H locs cells slots Q (F0 m pc ls [])) (hrec155 : ∀ (l1 : Int32) (l2 : Int32) (l3 : Int32) (x : St) (H : Heap) (locs : List Loc) (ls : Array Slot), rec155 l1 l2 l3 x → Wd dC dI cI cB cJ cZ ad stM kcM 115 A x H → va_S A s.heap H locs → lv_has ls 5 [(0, .ref (ad 0)), (1, .int l1), (2, .int l2), (3, .int l3)] → W p l e R s m args below meth c H locs cells slots Q (F0 m 155 ls [])) : ∀ (l1 : Int32) (l2 : Int32) (l3 : Int32) (x : St) (H : Heap) (locs : List Loc) (ls : Array Slot), j_Mod_writeWholes_155 post rec155 l1 l2 l3 x → Wd dC dI cI cB cJ cZ ad stM kcM 115 A x H → va_S A s.heap H locs → lv_has ls 5 [(0, .ref (ad 0)), (1, .int l1), (2, .int l2), (3, .int l3)] → W p l e R s m args below meth c H locs cells slots Q (F0 m 155 ls []) := by
  intro l1 l2 l3 x H locs ls  hw hW hS hl
  unfold j_Mod_writeWholes_155 at hw
  refine lv_iload_n hx hb d_Mod_writeWholes_155 rfl (lv_at hl 3 rfl) ?_
  refine lv_aload_n hx hb d_Mod_writeWholes_156 rfl (lv_at hl 0 rfl) ?_
  refine w_geti (k := 42) (t := 12) (C := R_Mod) (T := F_Mod) (N := 167) hx hb hT hown hK hW ko_0.1 ko_0.2 (by decide) in_Mod rfl rfl (by decide) rfl fr_Mod_42 w_8_218 d_Mod_writeWholes_157 ?_
  refine lv_icmp_ge (tgt := 192) hx hb d_Mod_writeWholes_160 (by decide) (fun c586 => ?_) (fun c586 => ?_)
  · have hw := hw.1 c586
    refine lv_iconst (v := 0) hx hb d_Mod_writeWholes_192 (by decide) ?_
    refine lv_istore_n (lv' := [(3, .int 0), (0, .ref (ad 0)), (1, .int l1), (2, .int l2)]) hx hb d_Mod_writeWholes_193 rfl hl (by decide) rfl (fun ls hl => ?_)
    obtain ⟨n, hw⟩ := hw
    exact tl_Mod_writeWholes_194 hx hb hml hown hT hK hN hA hRc hRs hRf hRl hret  n l1 l2 0 x H locs ls  hw hW hS (lv_sub hl [1, 2, 3, 0] rfl)
  · have hw := hw.2 c586
    refine lv_aload_n hx hb d_Mod_writeWholes_163 rfl (lv_at hl 0 rfl) ?_
    refine lv_iload_n hx hb d_Mod_writeWholes_164 rfl (lv_at hl 3 rfl) ?_
    have hF := hW.free hS hA
    refine va_calli (va_runV (C := R_Mod) (As := [.int l3]) (rest := []) ⟨hx, hb, hml, hown, hT⟩ (k_Mod_firstWhole l dC dI cI cB cJ cZ ad H.size l3 x  hw) ⟨callB_of 1 hT (gwt_in w_11_235) rfl rfl rfl (hT _ w_1_15) (hT _ w_11_232) (by decide +kernel) ⟨Nat.le_trans (Nat.le_of_ble_eq_true rfl) hRf, Nat.le_trans (Nat.le_of_ble_eq_true rfl) hRl⟩, hT _ w_11_234, hT _ ws_161⟩ ⟨PW.blind, va_recv hK hW.1 (ci := 12) (q0 := 0) rfl (pic_obj ko_0.1 ko_0.2 (by decide)), PW.at _ hW hK hN⟩ rfl rfl hl.1 rfl (lv_room (Nat.le_of_ble_eq_true rfl)) d_Mod_writeWholes_165 ⟨hRc, hRs⟩) hS (fun q _ h => hF q h) hF (fun r588 x587 t H locs ht hvm hw hB hz1 hk1 hS => ?_)
    have hW := Wd.back hB ht hF
    clear hB ht hF hz1 hk1 hvm
    refine lv_iload_n hx hb d_Mod_writeWholes_168 rfl (lv_at hl 3 rfl) ?_
    refine lv_icmp_ne (tgt := 186) hx hb d_Mod_writeWholes_169 (by decide) (fun c589 => ?_) (fun c589 => ?_)
    · have hw := hw.1 c589
      exact t_Mod_writeWholes_186 hx hb hml hown hT hK hN hA hRc hRs hRf hRl hret hrec155 l1 l2 l3 x587 H locs ls  hw hW hS (lv_sub hl [0, 1, 2, 3] rfl)
    · have hw := hw.2 c589
      refine lv_aload_n hx hb d_Mod_writeWholes_172 rfl (lv_at hl 0 rfl) ?_
      refine lv_aload_n hx hb d_Mod_writeWholes_173 rfl (lv_at hl 0 rfl) ?_
      refine w_getf (q := 30) (k := 49) (t := 12) (C := R_Mod) (T := F_Mod) (N := 167) hx hb hT hown hK hW ko_0.1 ko_0.2 (by decide) in_Mod rfl rfl (by decide) rfl fr_Mod_49 w_8_225 d_Mod_writeWholes_174 rfl ?_
      refine lv_iload_n hx hb d_Mod_writeWholes_177 rfl (lv_at hl 3 rfl) ?_
      obtain ⟨hi, hw⟩ := hw
      refine w_lald (o := 30) hx hb hK hW ko_30.1 ko_30.2 hi d_Mod_writeWholes_178 ?_
      refine lv_aload_n hx hb d_Mod_writeWholes_179 rfl (lv_at hl 0 rfl) ?_
      have hF := hW.free hS hA
      refine va_calli (va_runV (C := R_Mod) (As := []) (rest := [.long (rL x587 30 l3), .ref (ad 0)]) ⟨hx, hb, hml, hown, hT⟩ (k_Mod_wide l dC dI cI cB cJ cZ ad H.size  x587  hw) ⟨callB_of 0 hT (gwt_in w_11_207) rfl rfl rfl (hT _ w_1_15) (hT _ w_11_204) (by decide +kernel) ⟨Nat.le_trans (Nat.le_of_ble_eq_true rfl) hRf, Nat.le_trans (Nat.le_of_ble_eq_true rfl) hRl⟩, hT _ w_11_206, hT _ ws_155⟩ ⟨PW.blind, va_recv hK hW.1 (ci := 12) (q0 := 0) rfl (pic_obj ko_0.1 ko_0.2 (by decide)), PW.at _ hW hK hN⟩ rfl rfl hl.1 rfl (lv_room (Nat.le_of_ble_eq_true rfl)) d_Mod_writeWholes_180 ⟨hRc, hRs⟩) hS (fun q _ h => hF q h) hF (fun r591 x590 t H locs ht hvm hw hB hz1 hk1 hS => ?_)
      have hW := Wd.back hB ht hF
      clear hB ht hF hz1 hk1 hvm
      have hF := hW.free hS hA
      refine va_callv (va_runV (C := R_Mod) (As := [.long (rL x587 30 l3), .int r591]) (rest := []) ⟨hx, hb, hml, hown, hT⟩ (k_Mod_putFixed l dC dI cI cB cJ cZ ad H.size (rL x587 30 l3) r591 x590  hw) ⟨callB_of 2 hT (gwt_in w_11_211) rfl rfl rfl (hT _ w_1_15) (hT _ w_11_208) (by decide +kernel) ⟨Nat.le_trans (Nat.le_of_ble_eq_true rfl) hRf, Nat.le_trans (Nat.le_of_ble_eq_true rfl) hRl⟩, hT _ w_11_210, hT _ ws_156⟩ ⟨PW.blind, va_recv hK hW.1 (ci := 12) (q0 := 0) rfl (pic_obj ko_0.1 ko_0.2 (by decide)), PW.at _ hW hK hN⟩ rfl rfl hl.1 rfl (lv_room (Nat.le_of_ble_eq_true rfl)) d_Mod_writeWholes_183 ⟨hRc, hRs⟩) hS (fun q _ h => hF q h) hF (fun  x592 t H locs ht hvm hw hB hz1 hk1 hS => ?_)
      have hW := Wd.back hB ht hF
      clear hB ht hF hz1 hk1 hvm
      exact t_Mod_writeWholes_186 hx hb hml hown hT hK hN hA hRc hRs hRf hRl hret hrec155 l1 l2 l3 x592 H locs ls  hw hW hS (lv_sub hl [0, 1, 2, 3] rfl)
set_option maxHeartbeats 4000000 in
set_option maxRecDepth 100000 in
theorem tl_Mod_writeWholes_155 {p : Program} {l : Launch} {e : Env} {R : Room} {s : State} {m : MethodId} {args : Array Value} {below : List Frame} {meth : Method} {c : Code} {cells slots : Nat} {Q : State → Prop} {dC : Nat → ClassId} {dI : Nat → Nat → Nat} {cI cB cJ cZ : ClassId} {A : Nat → Prop} {ad : Nat → Nat} {post : St → Prop} (hx : p.tables.exec = Jvm.exec) (hb : c.code = b_Mod_writeWholes) (hml : c.maxLocals = 5) (hown : s.vm.findClass R_Mod = some m.cls) (hT : ∀ w ∈ TG, w.before args s = true) (hK : va_K (dC, dI) CL (TY cI cB cJ cZ) s) (hN : NW s) (hA : ∀ q : Nat, s.heap.size ≤ q → A q) (hRc : cells ≤ R.cells) (hRs : slots ≤ R.slots) (hRf : 3 ≤ R.frames) (hRl : 75 ≤ R.locals) (hret : ∀ (x : St) (H : Heap) (locs : List Loc) (pc : Nat) (ls : Array Slot), decode b_Mod_writeWholes pc = .ok (.return_, 1) → post x → Wd dC dI cI cB cJ cZ ad stM kcM 115 A x H → va_S A s.heap H locs → W p l e R s m args below meth c H locs cells slots Q (F0 m pc ls []))  : ∀ n : Nat, ∀ (l1 : Int32) (l2 : Int32) (l3 : Int32) (x : St) (H : Heap) (locs : List Loc) (ls : Array Slot), wl_Mod_writeWholes_155 post n l1 l2 l3 x → Wd dC dI cI cB cJ cZ ad stM kcM 115 A x H → va_S A s.heap H locs → lv_has ls 5 [(0, .ref (ad 0)), (1, .int l1), (2, .int l2), (3, .int l3)] → W p l e R s m args below meth c H locs cells slots Q (F0 m 155 ls []) := by
  intro n
  induction n with
  | zero => intro l1 l2 l3 x H locs ls  hw; exact hw.elim
  | succ n ih => intro l1 l2 l3 x H locs ls  hw hW hS hl; exact t_Mod_writeWholes_155 hx hb hml hown hT hK hN hA hRc hRs hRf hRl hret  ih l1 l2 l3 x H locs ls  hw hW hS hl
set_option maxRecDepth 100000 in
set_option maxHeartbeats 4000000 in
set_option maxRecDepth 100000 in
theorem t_Mod_writeWholes_139 {p : Program} {l : Launch} {e : Env} {R : Room} {s : State} {m : MethodId} {args : Array Value} {below : List Frame} {meth : Method} {c : Code} {cells slots : Nat} {Q : State → Prop} {dC : Nat → ClassId} {dI : Nat → Nat → Nat} {cI cB cJ cZ : ClassId} {A : Nat → Prop} {ad : Nat → Nat} {post : St → Prop} {rec89 : Int32 → Int32 → Int32 → St → Prop} (hx : p.tables.exec = Jvm.exec) (hb : c.code = b_Mod_writeWholes) (hml : c.maxLocals = 5) (hown : s.vm.findClass R_Mod = some m.cls) (hT : ∀ w ∈ TG, w.before args s = true) (hK : va_K (dC, dI) CL (TY cI cB cJ cZ) s) (hN : NW s) (hA : ∀ q : Nat, s.heap.size ≤ q → A q) (hRc : cells ≤ R.cells) (hRs : slots ≤ R.slots) (hRf : 3 ≤ R.frames) (hRl : 75 ≤ R.locals) (hret : ∀ (x : St) (H : Heap) (locs : List Loc) (pc : Nat) (ls : Array Slot), decode b_Mod_writeWholes pc = .ok (.return_, 1) → post x → Wd dC dI cI cB cJ cZ ad stM kcM 115 A x H → va_S A s.heap H locs → W p l e R s m args below meth c H locs cells slots Q (F0 m pc ls [])) (hrec89 : ∀ (l1 : Int32) (l2 : Int32) (l3 : Int32) (x : St) (H : Heap) (locs : List Loc) (ls : Array Slot), rec89 l1 l2 l3 x → Wd dC dI cI cB cJ cZ ad stM kcM 115 A x H → va_S A s.heap H locs → lv_has ls 5 [(0, .ref (ad 0)), (1, .int l1), (2, .int l2), (3, .int l3)] → W p l e R s m args below meth c H locs cells slots Q (F0 m 89 ls [])) : ∀ (l1 : Int32) (l2 : Int32) (l3 : Int32) (l4 : Int32) (s0 : Int32) (s1 : Int32) (x : St) (H : Heap) (locs : List Loc) (ls : Array Slot), j_Mod_writeWholes_139 post rec89 l1 l2 l3 l4 s0 s1 x → Wd dC dI cI cB cJ cZ ad stM kcM 115 A x H → va_S A s.heap H locs → lv_has ls 5 [(0, .ref (ad 0)), (1, .int l1), (2, .int l2), (3, .int l3), (4, .int l4)] → W p l e R s m args below meth c H locs cells slots Q (F0 m 139 ls [.int s0, .int s1]) := by
  intro l1 l2 l3 l4 s0 s1 x H locs ls  hw hW hS hl
  unfold j_Mod_writeWholes_139 at hw
  refine lv_iadd hx hb d_Mod_writeWholes_139 ?_
  refine lv_topi (fun v593 ev593 => ?_)
  have hw := hw v593 ev593
  refine lv_istore_n (lv' := [(2, .int v593), (0, .ref (ad 0)), (1, .int l1), (3, .int l3), (4, .int l4)]) hx hb d_Mod_writeWholes_140 rfl hl (by decide) rfl (fun ls hl => ?_)
  refine lv_iinc (v := (l3 + 1)) (lv' := [(3, .int (l3 + 1)), (2, .int v593), (0, .ref (ad 0)), (1, .int l1), (4, .int l4)]) hx hb d_Mod_writeWholes_141 hl (k := 3) rfl rfl (by decide) rfl (fun ls hl => ?_)
  refine lv_goto (tgt := 89) hx hb d_Mod_writeWholes_144 (by decide) ?_
  exact hrec89 l1 v593 (l3 + 1) x H locs ls  hw hW hS (lv_sub hl [2, 3, 1, 0] rfl)
set_option maxRecDepth 100000 in
set_option maxHeartbeats 4000000 in
set_option maxRecDepth 100000 in
theorem t_Mod_writeWholes_126 {p : Program} {l : Launch} {e : Env} {R : Room} {s : State} {m : MethodId} {args : Array Value} {below : List Frame} {meth : Method} {c : Code} {cells slots : Nat} {Q : State → Prop} {dC : Nat → ClassId} {dI : Nat → Nat → Nat} {cI cB cJ cZ : ClassId} {A : Nat → Prop} {ad : Nat → Nat} {post : St → Prop} {rec89 : Int32 → Int32 → Int32 → St → Prop} (hx : p.tables.exec = Jvm.exec) (hb : c.code = b_Mod_writeWholes) (hml : c.maxLocals = 5) (hown : s.vm.findClass R_Mod = some m.cls) (hT : ∀ w ∈ TG, w.before args s = true) (hK : va_K (dC, dI) CL (TY cI cB cJ cZ) s) (hN : NW s) (hA : ∀ q : Nat, s.heap.size ≤ q → A q) (hRc : cells ≤ R.cells) (hRs : slots ≤ R.slots) (hRf : 3 ≤ R.frames) (hRl : 75 ≤ R.locals) (hret : ∀ (x : St) (H : Heap) (locs : List Loc) (pc : Nat) (ls : Array Slot), decode b_Mod_writeWholes pc = .ok (.return_, 1) → post x → Wd dC dI cI cB cJ cZ ad stM kcM 115 A x H → va_S A s.heap H locs → W p l e R s m args below meth c H locs cells slots Q (F0 m pc ls [])) (hrec89 : ∀ (l1 : Int32) (l2 : Int32) (l3 : Int32) (x : St) (H : Heap) (locs : List Loc) (ls : Array Slot), rec89 l1 l2 l3 x → Wd dC dI cI cB cJ cZ ad stM kcM 115 A x H → va_S A s.heap H locs → lv_has ls 5 [(0, .ref (ad 0)), (1, .int l1), (2, .int l2), (3, .int l3)] → W p l e R s m args below meth c H locs cells slots Q (F0 m 89 ls [])) : ∀ (l1 : Int32) (l2 : Int32) (l3 : Int32) (l4 : Int32) (s0 : Int32) (s1 : Int32) (s2 : Nat) (x : St) (H : Heap) (locs : List Loc) (ls : Array Slot), (s2 < 115 ∧ kcM s2 = 20) → j_Mod_writeWholes_126 post rec89 l1 l2 l3 l4 s0 s1 s2 x → Wd dC dI cI cB cJ cZ ad stM kcM 115 A x H → va_S A s.heap H locs → lv_has ls 5 [(0, .ref (ad 0)), (1, .int l1), (2, .int l2), (3, .int l3), (4, .int l4)] → W p l e R s m args below meth c H locs cells slots Q (F0 m 126 ls [.int s0, .int s1, .ref (ad s2)]) := by
  intro l1 l2 l3 l4 s0 s1 s2 x H locs ls fs2 hw hW hS hl
  unfold j_Mod_writeWholes_126 at hw
  obtain ⟨hi, hw⟩ := hw
  refine w_iast (o := s2) hx hb hK hW hS fs2.1 fs2.2 hi d_Mod_writeWholes_126 (fun H locs hW hS => ?_)
  obtain ⟨x594, ex594⟩ : ∃ y : St, y = setA x s2 s1 s0 := ⟨_, rfl⟩
  rw [← ex594] at hW
  have hw := hw x594 ex594
  refine lv_iload_n hx hb d_Mod_writeWholes_127 rfl (lv_at hl 2 rfl) ?_
  refine lv_iload hx hb d_Mod_writeWholes_128 (lv_at hl 4 rfl) ?_
  refine lv_iload_n hx hb d_Mod_writeWholes_130 rfl (lv_at hl 3 rfl) ?_
  refine lv_icmp_ne (tgt := 138) hx hb d_Mod_writeWholes_131 (by decide) (fun c595 => ?_) (fun c595 => ?_)
  · have hw := hw.1 c595
    refine lv_iconst (v := 0) hx hb d_Mod_writeWholes_138 (by decide) ?_
    exact t_Mod_writeWholes_139 hx hb hml hown hT hK hN hA hRc hRs hRf hRl hret hrec89 l1 l2 l3 l4 0 l2 x594 H locs ls  hw hW hS (lv_sub hl [0, 1, 2, 3, 4] rfl)
  · have hw := hw.2 c595
    refine lv_iconst (v := 1) hx hb d_Mod_writeWholes_134 (by decide) ?_
    refine lv_goto (tgt := 139) hx hb d_Mod_writeWholes_135 (by decide) ?_
    exact t_Mod_writeWholes_139 hx hb hml hown hT hK hN hA hRc hRs hRf hRl hret hrec89 l1 l2 l3 l4 1 l2 x594 H locs ls  hw hW hS (lv_sub hl [0, 1, 2, 3, 4] rfl)
set_option maxRecDepth 100000 in
set_option maxHeartbeats 4000000 in
set_option maxRecDepth 100000 in
theorem t_Mod_writeWholes_89 {p : Program} {l : Launch} {e : Env} {R : Room} {s : State} {m : MethodId} {args : Array Value} {below : List Frame} {meth : Method} {c : Code} {cells slots : Nat} {Q : State → Prop} {dC : Nat → ClassId} {dI : Nat → Nat → Nat} {cI cB cJ cZ : ClassId} {A : Nat → Prop} {ad : Nat → Nat} {post : St → Prop} {rec89 : Int32 → Int32 → Int32 → St → Prop} (hx : p.tables.exec = Jvm.exec) (hb : c.code = b_Mod_writeWholes) (hml : c.maxLocals = 5) (hown : s.vm.findClass R_Mod = some m.cls) (hT : ∀ w ∈ TG, w.before args s = true) (hK : va_K (dC, dI) CL (TY cI cB cJ cZ) s) (hN : NW s) (hA : ∀ q : Nat, s.heap.size ≤ q → A q) (hRc : cells ≤ R.cells) (hRs : slots ≤ R.slots) (hRf : 3 ≤ R.frames) (hRl : 75 ≤ R.locals) (hret : ∀ (x : St) (H : Heap) (locs : List Loc) (pc : Nat) (ls : Array Slot), decode b_Mod_writeWholes pc = .ok (.return_, 1) → post x → Wd dC dI cI cB cJ cZ ad stM kcM 115 A x H → va_S A s.heap H locs → W p l e R s m args below meth c H locs cells slots Q (F0 m pc ls [])) (hrec89 : ∀ (l1 : Int32) (l2 : Int32) (l3 : Int32) (x : St) (H : Heap) (locs : List Loc) (ls : Array Slot), rec89 l1 l2 l3 x → Wd dC dI cI cB cJ cZ ad stM kcM 115 A x H → va_S A s.heap H locs → lv_has ls 5 [(0, .ref (ad 0)), (1, .int l1), (2, .int l2), (3, .int l3)] → W p l e R s m args below meth c H locs cells slots Q (F0 m 89 ls [])) : ∀ (l1 : Int32) (l2 : Int32) (l3 : Int32) (x : St) (H : Heap) (locs : List Loc) (ls : Array Slot), j_Mod_writeWholes_89 post rec89 l1 l2 l3 x → Wd dC dI cI cB cJ cZ ad stM kcM 115 A x H → va_S A s.heap H locs → lv_has ls 5 [(0, .ref (ad 0)), (1, .int l1), (2, .int l2), (3, .int l3)] → W p l e R s m args below meth c H locs cells slots Q (F0 m 89 ls []) := by
  intro l1 l2 l3 x H locs ls  hw hW hS hl
  unfold j_Mod_writeWholes_89 at hw
  refine lv_iload_n hx hb d_Mod_writeWholes_89 rfl (lv_at hl 3 rfl) ?_
  refine lv_aload_n hx hb d_Mod_writeWholes_90 rfl (lv_at hl 0 rfl) ?_
  refine w_geti (k := 42) (t := 12) (C := R_Mod) (T := F_Mod) (N := 167) hx hb hT hown hK hW ko_0.1 ko_0.2 (by decide) in_Mod rfl rfl (by decide) rfl fr_Mod_42 w_8_218 d_Mod_writeWholes_91 ?_
  refine lv_icmp_ge (tgt := 147) hx hb d_Mod_writeWholes_94 (by decide) (fun c596 => ?_) (fun c596 => ?_)
  · have hw := hw.1 c596
    refine lv_aload_n hx hb d_Mod_writeWholes_147 rfl (lv_at hl 0 rfl) ?_
    refine lv_iload_n hx hb d_Mod_writeWholes_148 rfl (lv_at hl 2 rfl) ?_
    refine lv_i2l hx hb d_Mod_writeWholes_149 rfl ?_
    have hF := hW.free hS hA
    refine va_callv (va_runV (C := R_Mod) (As := [.long (l2 : Int32).toInt64]) (rest := []) ⟨hx, hb, hml, hown, hT⟩ (k_Mod_putVarint l dC dI cI cB cJ cZ ad H.size (l2 : Int32).toInt64 x  hw) ⟨callB_of 1 hT (gwt_in w_11_194) rfl rfl rfl (hT _ w_1_15) (hT _ w_11_191) (by decide +kernel) ⟨Nat.le_trans (Nat.le_of_ble_eq_true rfl) hRf, Nat.le_trans (Nat.le_of_ble_eq_true rfl) hRl⟩, hT _ w_11_193, hT _ ws_152⟩ ⟨PW.blind, va_recv hK hW.1 (ci := 12) (q0 := 0) rfl (pic_obj ko_0.1 ko_0.2 (by decide)), PW.at _ hW hK hN⟩ rfl rfl hl.1 rfl (lv_room (Nat.le_of_ble_eq_true rfl)) d_Mod_writeWholes_150 ⟨hRc, hRs⟩) hS (fun q _ h => hF q h) hF (fun  x597 t H locs ht hvm hw hB hz1 hk1 hS => ?_)
    have hW := Wd.back hB ht hF
    clear hB ht hF hz1 hk1 hvm
    refine lv_iconst (v := 0) hx hb d_Mod_writeWholes_153 (by decide) ?_
    refine lv_istore_n (lv' := [(3, .int 0), (0, .ref (ad 0)), (1, .int l1), (2, .int l2)]) hx hb d_Mod_writeWholes_154 rfl hl (by decide) rfl (fun ls hl => ?_)
    obtain ⟨n, hw⟩ := hw
    exact tl_Mod_writeWholes_155 hx hb hml hown hT hK hN hA hRc hRs hRf hRl hret  n l1 l2 0 x597 H locs ls  hw hW hS (lv_sub hl [1, 2, 3, 0] rfl)
  · have hw := hw.2 c596
    refine lv_aload_n hx hb d_Mod_writeWholes_97 rfl (lv_at hl 0 rfl) ?_
    refine lv_iload_n hx hb d_Mod_writeWholes_98 rfl (lv_at hl 3 rfl) ?_
    have hF := hW.free hS hA
    refine va_calli (va_runV (C := R_Mod) (As := [.int l3]) (rest := []) ⟨hx, hb, hml, hown, hT⟩ (k_Mod_firstWhole l dC dI cI cB cJ cZ ad H.size l3 x  hw) ⟨callB_of 1 hT (gwt_in w_11_235) rfl rfl rfl (hT _ w_1_15) (hT _ w_11_232) (by decide +kernel) ⟨Nat.le_trans (Nat.le_of_ble_eq_true rfl) hRf, Nat.le_trans (Nat.le_of_ble_eq_true rfl) hRl⟩, hT _ w_11_234, hT _ ws_161⟩ ⟨PW.blind, va_recv hK hW.1 (ci := 12) (q0 := 0) rfl (pic_obj ko_0.1 ko_0.2 (by decide)), PW.at _ hW hK hN⟩ rfl rfl hl.1 rfl (lv_room (Nat.le_of_ble_eq_true rfl)) d_Mod_writeWholes_99 ⟨hRc, hRs⟩) hS (fun q _ h => hF q h) hF (fun r599 x598 t H locs ht hvm hw hB hz1 hk1 hS => ?_)
    have hW := Wd.back hB ht hF
    clear hB ht hF hz1 hk1 hvm
    refine lv_istore (lv' := [(4, .int r599), (0, .ref (ad 0)), (1, .int l1), (2, .int l2), (3, .int l3)]) hx hb d_Mod_writeWholes_102 hl (by decide) rfl (fun ls hl => ?_)
    refine lv_aload_n hx hb d_Mod_writeWholes_104 rfl (lv_at hl 1 rfl) ?_
    refine w_getf (q := 44) (k := 72) (t := 12) (C := R_Mod) (T := F_Mod) (N := 167) hx hb hT hown hK hW ko_0.1 ko_0.2 (by decide) in_Mod rfl rfl (by decide) rfl fr_Mod_72 w_9_8 d_Mod_writeWholes_105 rfl ?_
    refine lv_iload_n hx hb d_Mod_writeWholes_108 rfl (lv_at hl 4 rfl) ?_
    refine lv_iload hx hb d_Mod_writeWholes_109 (lv_at hl 0 rfl) ?_
    refine lv_iload_n hx hb d_Mod_writeWholes_111 rfl (lv_at hl 4 rfl) ?_
    refine lv_icmp_ne (tgt := 119) hx hb d_Mod_writeWholes_112 (by decide) (fun c600 => ?_) (fun c600 => ?_)
    · have hw := hw.1 c600
      refine lv_aload_n hx hb d_Mod_writeWholes_119 rfl (lv_at hl 1 rfl) ?_
      refine w_getf (q := 44) (k := 72) (t := 12) (C := R_Mod) (T := F_Mod) (N := 167) hx hb hT hown hK hW ko_0.1 ko_0.2 (by decide) in_Mod rfl rfl (by decide) rfl fr_Mod_72 w_9_8 d_Mod_writeWholes_120 rfl ?_
      refine lv_iload hx hb d_Mod_writeWholes_123 (lv_at hl 0 rfl) ?_
      obtain ⟨hi, hw⟩ := hw
      refine w_iald (o := 44) hx hb hK hW ko_44.1 ko_44.2 hi d_Mod_writeWholes_125 ?_
      exact t_Mod_writeWholes_126 hx hb hml hown hT hK hN hA hRc hRs hRf hRl hret hrec89 l1 l2 l3 r599 (rA x598 44 r599) l3 44 x598 H locs ls ko_44 hw hW hS (lv_sub hl [1, 2, 3, 4, 0] rfl)
    · have hw := hw.2 c600
      refine lv_iload_n hx hb d_Mod_writeWholes_115 rfl (lv_at hl 3 rfl) ?_
      refine lv_goto (tgt := 126) hx hb d_Mod_writeWholes_116 (by decide) ?_
      exact t_Mod_writeWholes_126 hx hb hml hown hT hK hN hA hRc hRs hRf hRl hret hrec89 l1 l2 l3 r599 l2 l3 44 x598 H locs ls ko_44 hw hW hS (lv_sub hl [1, 2, 3, 4, 0] rfl)
set_option maxHeartbeats 4000000 in
set_option maxRecDepth 100000 in
theorem tl_Mod_writeWholes_89 {p : Program} {l : Launch} {e : Env} {R : Room} {s : State} {m : MethodId} {args : Array Value} {below : List Frame} {meth : Method} {c : Code} {cells slots : Nat} {Q : State → Prop} {dC : Nat → ClassId} {dI : Nat → Nat → Nat} {cI cB cJ cZ : ClassId} {A : Nat → Prop} {ad : Nat → Nat} {post : St → Prop} (hx : p.tables.exec = Jvm.exec) (hb : c.code = b_Mod_writeWholes) (hml : c.maxLocals = 5) (hown : s.vm.findClass R_Mod = some m.cls) (hT : ∀ w ∈ TG, w.before args s = true) (hK : va_K (dC, dI) CL (TY cI cB cJ cZ) s) (hN : NW s) (hA : ∀ q : Nat, s.heap.size ≤ q → A q) (hRc : cells ≤ R.cells) (hRs : slots ≤ R.slots) (hRf : 3 ≤ R.frames) (hRl : 75 ≤ R.locals) (hret : ∀ (x : St) (H : Heap) (locs : List Loc) (pc : Nat) (ls : Array Slot), decode b_Mod_writeWholes pc = .ok (.return_, 1) → post x → Wd dC dI cI cB cJ cZ ad stM kcM 115 A x H → va_S A s.heap H locs → W p l e R s m args below meth c H locs cells slots Q (F0 m pc ls []))  : ∀ n : Nat, ∀ (l1 : Int32) (l2 : Int32) (l3 : Int32) (x : St) (H : Heap) (locs : List Loc) (ls : Array Slot), wl_Mod_writeWholes_89 post n l1 l2 l3 x → Wd dC dI cI cB cJ cZ ad stM kcM 115 A x H → va_S A s.heap H locs → lv_has ls 5 [(0, .ref (ad 0)), (1, .int l1), (2, .int l2), (3, .int l3)] → W p l e R s m args below meth c H locs cells slots Q (F0 m 89 ls []) := by
  intro n
  induction n with
  | zero => intro l1 l2 l3 x H locs ls  hw; exact hw.elim
  | succ n ih => intro l1 l2 l3 x H locs ls  hw hW hS hl; exact t_Mod_writeWholes_89 hx hb hml hown hT hK hN hA hRc hRs hRf hRl hret  ih l1 l2 l3 x H locs ls  hw hW hS hl
set_option maxRecDepth 100000 in
set_option maxHeartbeats 4000000 in
set_option maxRecDepth 100000 in
theorem t_Mod_writeWholes_52 {p : Program} {l : Launch} {e : Env} {R : Room} {s : State} {m : MethodId} {args : Array Value} {below : List Frame} {meth : Method} {c : Code} {cells slots : Nat} {Q : State → Prop} {dC : Nat → ClassId} {dI : Nat → Nat → Nat} {cI cB cJ cZ : ClassId} {A : Nat → Prop} {ad : Nat → Nat} {post : St → Prop} {rec52 : Int32 → Int32 → St → Prop} (hx : p.tables.exec = Jvm.exec) (hb : c.code = b_Mod_writeWholes) (hml : c.maxLocals = 5) (hown : s.vm.findClass R_Mod = some m.cls) (hT : ∀ w ∈ TG, w.before args s = true) (hK : va_K (dC, dI) CL (TY cI cB cJ cZ) s) (hN : NW s) (hA : ∀ q : Nat, s.heap.size ≤ q → A q) (hRc : cells ≤ R.cells) (hRs : slots ≤ R.slots) (hRf : 3 ≤ R.frames) (hRl : 75 ≤ R.locals) (hret : ∀ (x : St) (H : Heap) (locs : List Loc) (pc : Nat) (ls : Array Slot), decode b_Mod_writeWholes pc = .ok (.return_, 1) → post x → Wd dC dI cI cB cJ cZ ad stM kcM 115 A x H → va_S A s.heap H locs → W p l e R s m args below meth c H locs cells slots Q (F0 m pc ls [])) (hrec52 : ∀ (l1 : Int32) (l2 : Int32) (x : St) (H : Heap) (locs : List Loc) (ls : Array Slot), rec52 l1 l2 x → Wd dC dI cI cB cJ cZ ad stM kcM 115 A x H → va_S A s.heap H locs → lv_has ls 5 [(0, .ref (ad 0)), (1, .int l1), (2, .int l2)] → W p l e R s m args below meth c H locs cells slots Q (F0 m 52 ls [])) : ∀ (l1 : Int32) (l2 : Int32) (x : St) (H : Heap) (locs : List Loc) (ls : Array Slot), j_Mod_writeWholes_52 post rec52 l1 l2 x → Wd dC dI cI cB cJ cZ ad stM kcM 115 A x H → va_S A s.heap H locs → lv_has ls 5 [(0, .ref (ad 0)), (1, .int l1), (2, .int l2)] → W p l e R s m args below meth c H locs cells slots Q (F0 m 52 ls []) := by
  intro l1 l2 x H locs ls  hw hW hS hl
  unfold j_Mod_writeWholes_52 at hw
  refine lv_iload_n hx hb d_Mod_writeWholes_52 rfl (lv_at hl 2 rfl) ?_
  refine lv_aload_n hx hb d_Mod_writeWholes_53 rfl (lv_at hl 0 rfl) ?_
  refine w_geti (k := 42) (t := 12) (C := R_Mod) (T := F_Mod) (N := 167) hx hb hT hown hK hW ko_0.1 ko_0.2 (by decide) in_Mod rfl rfl (by decide) rfl fr_Mod_42 w_8_218 d_Mod_writeWholes_54 ?_
  refine lv_icmp_ge (tgt := 78) hx hb d_Mod_writeWholes_57 (by decide) (fun c601 => ?_) (fun c601 => ?_)
  · have hw := hw.1 c601
    refine lv_aload_n hx hb d_Mod_writeWholes_78 rfl (lv_at hl 0 rfl) ?_
    have hF := hW.free hS hA
    refine va_callv (va_runV (C := R_Mod) (As := []) (rest := []) ⟨hx, hb, hml, hown, hT⟩ (k_Mod_writeLongs l dC dI cI cB cJ cZ ad H.size  x  hw) ⟨callB_of 0 hT (gwt_in w_11_215) rfl rfl rfl (hT _ w_1_15) (hT _ w_11_212) (by decide +kernel) ⟨Nat.le_trans (Nat.le_of_ble_eq_true rfl) hRf, Nat.le_trans (Nat.le_of_ble_eq_true rfl) hRl⟩, hT _ w_11_214, hT _ ws_157⟩ ⟨PW.blind, va_recv hK hW.1 (ci := 12) (q0 := 0) rfl (pic_obj ko_0.1 ko_0.2 (by decide)), PW.at _ hW hK hN⟩ rfl rfl hl.1 rfl (lv_room (Nat.le_of_ble_eq_true rfl)) d_Mod_writeWholes_79 ⟨hRc, hRs⟩) hS (fun q _ h => hF q h) hF (fun  x602 t H locs ht hvm hw hB hz1 hk1 hS => ?_)
    have hW := Wd.back hB ht hF
    clear hB ht hF hz1 hk1 hvm
    refine lv_goto (tgt := 226) hx hb d_Mod_writeWholes_82 (by decide) ?_
    exact hret x602 H locs 226 ls d_Mod_writeWholes_226 hw hW hS
  · have hw := hw.2 c601
    refine lv_aload_n hx hb d_Mod_writeWholes_60 rfl (lv_at hl 0 rfl) ?_
    refine w_getf (q := 43) (k := 70) (t := 12) (C := R_Mod) (T := F_Mod) (N := 167) hx hb hT hown hK hW ko_0.1 ko_0.2 (by decide) in_Mod rfl rfl (by decide) rfl fr_Mod_70 w_9_6 d_Mod_writeWholes_61 rfl ?_
    refine lv_iload_n hx hb d_Mod_writeWholes_64 rfl (lv_at hl 2 rfl) ?_
    refine lv_aload_n hx hb d_Mod_writeWholes_65 rfl (lv_at hl 0 rfl) ?_
    refine w_getf (q := 30) (k := 49) (t := 12) (C := R_Mod) (T := F_Mod) (N := 167) hx hb hT hown hK hW ko_0.1 ko_0.2 (by decide) in_Mod rfl rfl (by decide) rfl fr_Mod_49 w_8_225 d_Mod_writeWholes_66 rfl ?_
    refine lv_iload_n hx hb d_Mod_writeWholes_69 rfl (lv_at hl 2 rfl) ?_
    obtain ⟨hi, hw⟩ := hw
    refine w_lald (o := 30) hx hb hK hW ko_30.1 ko_30.2 hi d_Mod_writeWholes_70 ?_
    obtain ⟨hi, hw⟩ := hw
    refine w_last (o := 43) hx hb hK hW hS ko_43.1 ko_43.2 hi d_Mod_writeWholes_71 (fun H locs hW hS => ?_)
    obtain ⟨x603, ex603⟩ : ∃ y : St, y = setL x 43 l2 (rL x 30 l2) := ⟨_, rfl⟩
    rw [← ex603] at hW
    have hw := hw x603 ex603
    refine lv_iinc (v := (l2 + 1)) (lv' := [(2, .int (l2 + 1)), (0, .ref (ad 0)), (1, .int l1)]) hx hb d_Mod_writeWholes_72 hl (k := 2) rfl rfl (by decide) rfl (fun ls hl => ?_)
    refine lv_goto (tgt := 52) hx hb d_Mod_writeWholes_75 (by decide) ?_
    exact hrec52 l1 (l2 + 1) x603 H locs ls  hw hW hS (lv_sub hl [1, 2, 0] rfl)
set_option maxHeartbeats 4000000 in
set_option maxRecDepth 100000 in
theorem tl_Mod_writeWholes_52 {p : Program} {l : Launch} {e : Env} {R : Room} {s : State} {m : MethodId} {args : Array Value} {below : List Frame} {meth : Method} {c : Code} {cells slots : Nat} {Q : State → Prop} {dC : Nat → ClassId} {dI : Nat → Nat → Nat} {cI cB cJ cZ : ClassId} {A : Nat → Prop} {ad : Nat → Nat} {post : St → Prop} (hx : p.tables.exec = Jvm.exec) (hb : c.code = b_Mod_writeWholes) (hml : c.maxLocals = 5) (hown : s.vm.findClass R_Mod = some m.cls) (hT : ∀ w ∈ TG, w.before args s = true) (hK : va_K (dC, dI) CL (TY cI cB cJ cZ) s) (hN : NW s) (hA : ∀ q : Nat, s.heap.size ≤ q → A q) (hRc : cells ≤ R.cells) (hRs : slots ≤ R.slots) (hRf : 3 ≤ R.frames) (hRl : 75 ≤ R.locals) (hret : ∀ (x : St) (H : Heap) (locs : List Loc) (pc : Nat) (ls : Array Slot), decode b_Mod_writeWholes pc = .ok (.return_, 1) → post x → Wd dC dI cI cB cJ cZ ad stM kcM 115 A x H → va_S A s.heap H locs → W p l e R s m args below meth c H locs cells slots Q (F0 m pc ls []))  : ∀ n : Nat, ∀ (l1 : Int32) (l2 : Int32) (x : St) (H : Heap) (locs : List Loc) (ls : Array Slot), wl_Mod_writeWholes_52 post n l1 l2 x → Wd dC dI cI cB cJ cZ ad stM kcM 115 A x H → va_S A s.heap H locs → lv_has ls 5 [(0, .ref (ad 0)), (1, .int l1), (2, .int l2)] → W p l e R s m args below meth c H locs cells slots Q (F0 m 52 ls []) := by
  intro n
  induction n with
  | zero => intro l1 l2 x H locs ls  hw; exact hw.elim
  | succ n ih => intro l1 l2 x H locs ls  hw hW hS hl; exact t_Mod_writeWholes_52 hx hb hml hown hT hK hN hA hRc hRs hRf hRl hret  ih l1 l2 x H locs ls  hw hW hS hl
set_option maxRecDepth 100000 in
set_option maxHeartbeats 4000000 in
set_option maxRecDepth 100000 in
theorem t_Mod_writeWholes_6 {p : Program} {l : Launch} {e : Env} {R : Room} {s : State} {m : MethodId} {args : Array Value} {below : List Frame} {meth : Method} {c : Code} {cells slots : Nat} {Q : State → Prop} {dC : Nat → ClassId} {dI : Nat → Nat → Nat} {cI cB cJ cZ : ClassId} {A : Nat → Prop} {ad : Nat → Nat} {post : St → Prop} {rec6 : Int32 → Int32 → St → Prop} (hx : p.tables.exec = Jvm.exec) (hb : c.code = b_Mod_writeWholes) (hml : c.maxLocals = 5) (hown : s.vm.findClass R_Mod = some m.cls) (hT : ∀ w ∈ TG, w.before args s = true) (hK : va_K (dC, dI) CL (TY cI cB cJ cZ) s) (hN : NW s) (hA : ∀ q : Nat, s.heap.size ≤ q → A q) (hRc : cells ≤ R.cells) (hRs : slots ≤ R.slots) (hRf : 3 ≤ R.frames) (hRl : 75 ≤ R.locals) (hret : ∀ (x : St) (H : Heap) (locs : List Loc) (pc : Nat) (ls : Array Slot), decode b_Mod_writeWholes pc = .ok (.return_, 1) → post x → Wd dC dI cI cB cJ cZ ad stM kcM 115 A x H → va_S A s.heap H locs → W p l e R s m args below meth c H locs cells slots Q (F0 m pc ls [])) (hrec6 : ∀ (l1 : Int32) (l2 : Int32) (x : St) (H : Heap) (locs : List Loc) (ls : Array Slot), rec6 l1 l2 x → Wd dC dI cI cB cJ cZ ad stM kcM 115 A x H → va_S A s.heap H locs → lv_has ls 5 [(0, .ref (ad 0)), (1, .int l1), (2, .int l2)] → W p l e R s m args below meth c H locs cells slots Q (F0 m 6 ls [])) : ∀ (l1 : Int32) (l2 : Int32) (x : St) (H : Heap) (locs : List Loc) (ls : Array Slot), j_Mod_writeWholes_6 post rec6 l1 l2 x → Wd dC dI cI cB cJ cZ ad stM kcM 115 A x H → va_S A s.heap H locs → lv_has ls 5 [(0, .ref (ad 0)), (1, .int l1), (2, .int l2)] → W p l e R s m args below meth c H locs cells slots Q (F0 m 6 ls []) := by
  intro l1 l2 x H locs ls  hw hW hS hl
  unfold j_Mod_writeWholes_6 at hw
  refine lv_iload_n hx hb d_Mod_writeWholes_6 rfl (lv_at hl 2 rfl) ?_
  refine lv_aload_n hx hb d_Mod_writeWholes_7 rfl (lv_at hl 0 rfl) ?_
  refine w_geti (k := 42) (t := 12) (C := R_Mod) (T := F_Mod) (N := 167) hx hb hT hown hK hW ko_0.1 ko_0.2 (by decide) in_Mod rfl rfl (by decide) rfl fr_Mod_42 w_8_218 d_Mod_writeWholes_8 ?_
  refine lv_icmp_ge (tgt := 34) hx hb d_Mod_writeWholes_11 (by decide) (fun c604 => ?_) (fun c604 => ?_)
  · have hw := hw.1 c604
    refine lv_goto (tgt := 226) hx hb d_Mod_writeWholes_34 (by decide) ?_
    exact hret x H locs 226 ls d_Mod_writeWholes_226 hw hW hS
  · have hw := hw.2 c604
    refine lv_aload_n hx hb d_Mod_writeWholes_14 rfl (lv_at hl 0 rfl) ?_
    refine lv_aload_n hx hb d_Mod_writeWholes_15 rfl (lv_at hl 0 rfl) ?_
    refine w_getf (q := 30) (k := 49) (t := 12) (C := R_Mod) (T := F_Mod) (N := 167) hx hb hT hown hK hW ko_0.1 ko_0.2 (by decide) in_Mod rfl rfl (by decide) rfl fr_Mod_49 w_8_225 d_Mod_writeWholes_16 rfl ?_
    refine lv_iload_n hx hb d_Mod_writeWholes_19 rfl (lv_at hl 2 rfl) ?_
    obtain ⟨hi, hw⟩ := hw
    refine w_lald (o := 30) hx hb hK hW ko_30.1 ko_30.2 hi d_Mod_writeWholes_20 ?_
    refine lv_aload_n hx hb d_Mod_writeWholes_21 rfl (lv_at hl 0 rfl) ?_
    have hF := hW.free hS hA
    refine va_calli (va_runV (C := R_Mod) (As := []) (rest := [.long (rL x 30 l2), .ref (ad 0)]) ⟨hx, hb, hml, hown, hT⟩ (k_Mod_wide l dC dI cI cB cJ cZ ad H.size  x  hw) ⟨callB_of 0 hT (gwt_in w_11_207) rfl rfl rfl (hT _ w_1_15) (hT _ w_11_204) (by decide +kernel) ⟨Nat.le_trans (Nat.le_of_ble_eq_true rfl) hRf, Nat.le_trans (Nat.le_of_ble_eq_true rfl) hRl⟩, hT _ w_11_206, hT _ ws_155⟩ ⟨PW.blind, va_recv hK hW.1 (ci := 12) (q0 := 0) rfl (pic_obj ko_0.1 ko_0.2 (by decide)), PW.at _ hW hK hN⟩ rfl rfl hl.1 rfl (lv_room (Nat.le_of_ble_eq_true rfl)) d_Mod_writeWholes_22 ⟨hRc, hRs⟩) hS (fun q _ h => hF q h) hF (fun r606 x605 t H locs ht hvm hw hB hz1 hk1 hS => ?_)
    have hW := Wd.back hB ht hF
    clear hB ht hF hz1 hk1 hvm
    have hF := hW.free hS hA
    refine va_callv (va_runV (C := R_Mod) (As := [.long (rL x 30 l2), .int r606]) (rest := []) ⟨hx, hb, hml, hown, hT⟩ (k_Mod_putFixed l dC dI cI cB cJ cZ ad H.size (rL x 30 l2) r606 x605  hw) ⟨callB_of 2 hT (gwt_in w_11_211) rfl rfl rfl (hT _ w_1_15) (hT _ w_11_208) (by decide +kernel) ⟨Nat.le_trans (Nat.le_of_ble_eq_true rfl) hRf, Nat.le_trans (Nat.le_of_ble_eq_true rfl) hRl⟩, hT _ w_11_210, hT _ ws_156⟩ ⟨PW.blind, va_recv hK hW.1 (ci := 12) (q0 := 0) rfl (pic_obj ko_0.1 ko_0.2 (by decide)), PW.at _ hW hK hN⟩ rfl rfl hl.1 rfl (lv_room (Nat.le_of_ble_eq_true rfl)) d_Mod_writeWholes_25 ⟨hRc, hRs⟩) hS (fun q _ h => hF q h) hF (fun  x607 t H locs ht hvm hw hB hz1 hk1 hS => ?_)
    have hW := Wd.back hB ht hF
    clear hB ht hF hz1 hk1 hvm
    refine lv_iinc (v := (l2 + 1)) (lv' := [(2, .int (l2 + 1)), (0, .ref (ad 0)), (1, .int l1)]) hx hb d_Mod_writeWholes_28 hl (k := 2) rfl rfl (by decide) rfl (fun ls hl => ?_)
    refine lv_goto (tgt := 6) hx hb d_Mod_writeWholes_31 (by decide) ?_
    exact hrec6 l1 (l2 + 1) x607 H locs ls  hw hW hS (lv_sub hl [1, 2, 0] rfl)
set_option maxHeartbeats 4000000 in
set_option maxRecDepth 100000 in
theorem tl_Mod_writeWholes_6 {p : Program} {l : Launch} {e : Env} {R : Room} {s : State} {m : MethodId} {args : Array Value} {below : List Frame} {meth : Method} {c : Code} {cells slots : Nat} {Q : State → Prop} {dC : Nat → ClassId} {dI : Nat → Nat → Nat} {cI cB cJ cZ : ClassId} {A : Nat → Prop} {ad : Nat → Nat} {post : St → Prop} (hx : p.tables.exec = Jvm.exec) (hb : c.code = b_Mod_writeWholes) (hml : c.maxLocals = 5) (hown : s.vm.findClass R_Mod = some m.cls) (hT : ∀ w ∈ TG, w.before args s = true) (hK : va_K (dC, dI) CL (TY cI cB cJ cZ) s) (hN : NW s) (hA : ∀ q : Nat, s.heap.size ≤ q → A q) (hRc : cells ≤ R.cells) (hRs : slots ≤ R.slots) (hRf : 3 ≤ R.frames) (hRl : 75 ≤ R.locals) (hret : ∀ (x : St) (H : Heap) (locs : List Loc) (pc : Nat) (ls : Array Slot), decode b_Mod_writeWholes pc = .ok (.return_, 1) → post x → Wd dC dI cI cB cJ cZ ad stM kcM 115 A x H → va_S A s.heap H locs → W p l e R s m args below meth c H locs cells slots Q (F0 m pc ls []))  : ∀ n : Nat, ∀ (l1 : Int32) (l2 : Int32) (x : St) (H : Heap) (locs : List Loc) (ls : Array Slot), wl_Mod_writeWholes_6 post n l1 l2 x → Wd dC dI cI cB cJ cZ ad stM kcM 115 A x H → va_S A s.heap H locs → lv_has ls 5 [(0, .ref (ad 0)), (1, .int l1), (2, .int l2)] → W p l e R s m args below meth c H locs cells slots Q (F0 m 6 ls []) := by
  intro n
  induction n with
  | zero => intro l1 l2 x H locs ls  hw; exact hw.elim
  | succ n ih => intro l1 l2 x H locs ls  hw hW hS hl; exact t_Mod_writeWholes_6 hx hb hml hown hT hK hN hA hRc hRs hRf hRl hret  ih l1 l2 x H locs ls  hw hW hS hl
set_option maxRecDepth 100000 in
set_option maxHeartbeats 4000000 in
set_option maxRecDepth 100000 in
theorem t_Mod_writeWholes_e {p : Program} {l : Launch} {e : Env} {R : Room} {s : State} {m : MethodId} {args : Array Value} {below : List Frame} {meth : Method} {c : Code} {cells slots : Nat} {Q : State → Prop} {dC : Nat → ClassId} {dI : Nat → Nat → Nat} {cI cB cJ cZ : ClassId} {A : Nat → Prop} {ad : Nat → Nat} {post : St → Prop} (hx : p.tables.exec = Jvm.exec) (hb : c.code = b_Mod_writeWholes) (hml : c.maxLocals = 5) (hown : s.vm.findClass R_Mod = some m.cls) (hT : ∀ w ∈ TG, w.before args s = true) (hK : va_K (dC, dI) CL (TY cI cB cJ cZ) s) (hN : NW s) (hA : ∀ q : Nat, s.heap.size ≤ q → A q) (hRc : cells ≤ R.cells) (hRs : slots ≤ R.slots) (hRf : 3 ≤ R.frames) (hRl : 75 ≤ R.locals) (hret : ∀ (x : St) (H : Heap) (locs : List Loc) (pc : Nat) (ls : Array Slot), decode b_Mod_writeWholes pc = .ok (.return_, 1) → post x → Wd dC dI cI cB cJ cZ ad stM kcM 115 A x H → va_S A s.heap H locs → W p l e R s m args below meth c H locs cells slots Q (F0 m pc ls [])) : ∀ (l1 : Int32) (x : St) (H : Heap) (locs : List Loc) (ls : Array Slot), wp_Mod_writeWholes post l1 x → Wd dC dI cI cB cJ cZ ad stM kcM 115 A x H → va_S A s.heap H locs → lv_has ls 5 [(0, .ref (ad 0)), (1, .int l1)] → W p l e R s m args below meth c H locs cells slots Q (F0 m 0 ls []) := by
  intro l1 x H locs ls  hw hW hS hl
  unfold wp_Mod_writeWholes at hw
  refine lv_iload_n hx hb d_Mod_writeWholes_0 rfl (lv_at hl 1 rfl) ?_
  refine lv_if_ne (tgt := 37) hx hb d_Mod_writeWholes_1 (by decide) (fun c608 => ?_) (fun c608 => ?_)
  · have hw := hw.1 c608
    refine lv_iload_n hx hb d_Mod_writeWholes_37 rfl (lv_at hl 1 rfl) ?_
    refine lv_iconst (v := 1) hx hb d_Mod_writeWholes_38 (by decide) ?_
    refine lv_icmp_ne (tgt := 85) hx hb d_Mod_writeWholes_39 (by decide) (fun c609 => ?_) (fun c609 => ?_)
    · have hw := hw.1 c609
      refine lv_iconst (v := 0) hx hb d_Mod_writeWholes_85 (by decide) ?_
      refine lv_istore_n (lv' := [(2, .int 0), (0, .ref (ad 0)), (1, .int l1)]) hx hb d_Mod_writeWholes_86 rfl hl (by decide) rfl (fun ls hl => ?_)
      refine lv_iconst (v := 0) hx hb d_Mod_writeWholes_87 (by decide) ?_
      refine lv_istore_n (lv' := [(3, .int 0), (2, .int 0), (0, .ref (ad 0)), (1, .int l1)]) hx hb d_Mod_writeWholes_88 rfl hl (by decide) rfl (fun ls hl => ?_)
      obtain ⟨n, hw⟩ := hw
      exact tl_Mod_writeWholes_89 hx hb hml hown hT hK hN hA hRc hRs hRf hRl hret  n l1 0 0 x H locs ls  hw hW hS (lv_sub hl [2, 3, 1, 0] rfl)
    · have hw := hw.2 c609
      refine lv_aload_n hx hb d_Mod_writeWholes_42 rfl (lv_at hl 0 rfl) ?_
      refine lv_aload_n hx hb d_Mod_writeWholes_43 rfl (lv_at hl 0 rfl) ?_
      refine w_geti (k := 42) (t := 12) (C := R_Mod) (T := F_Mod) (N := 167) hx hb hT hown hK hW ko_0.1 ko_0.2 (by decide) in_Mod rfl rfl (by decide) rfl fr_Mod_42 w_8_218 d_Mod_writeWholes_44 ?_
      refine w_puti (ty := .int) (k := 71) (t := 12) (C := R_Mod) (T := F_Mod) (N := 167) hx hb hT hown hK hW hS ko_0.1 ko_0.2 (by decide) in_Mod t_Mod t_Mod_ok n_Mod rfl rfl (by decide) rfl fr_Mod_71 w_9_7 (by decide +kernel) rfl rfl d_Mod_writeWholes_47 (fun H locs hW hS => ?_)
      obtain ⟨x610, ex610⟩ : ∃ y : St, y = setI x 0 71 (fI x 0 42) := ⟨_, rfl⟩
      rw [← ex610] at hW
      have hw := hw x610 ex610
      refine lv_iconst (v := 0) hx hb d_Mod_writeWholes_50 (by decide) ?_
      refine lv_istore_n (lv' := [(2, .int 0), (0, .ref (ad 0)), (1, .int l1)]) hx hb d_Mod_writeWholes_51 rfl hl (by decide) rfl (fun ls hl => ?_)
      obtain ⟨n, hw⟩ := hw
      exact tl_Mod_writeWholes_52 hx hb hml hown hT hK hN hA hRc hRs hRf hRl hret  n l1 0 x610 H locs ls  hw hW hS (lv_sub hl [1, 2, 0] rfl)
  · have hw := hw.2 c608
    refine lv_iconst (v := 0) hx hb d_Mod_writeWholes_4 (by decide) ?_
    refine lv_istore_n (lv' := [(2, .int 0), (0, .ref (ad 0)), (1, .int l1)]) hx hb d_Mod_writeWholes_5 rfl hl (by decide) rfl (fun ls hl => ?_)
    obtain ⟨n, hw⟩ := hw
    exact tl_Mod_writeWholes_6 hx hb hml hown hT hK hN hA hRc hRs hRf hRl hret  n l1 0 x H locs ls  hw hW hS (lv_sub hl [1, 2, 0] rfl)
set_option maxHeartbeats 4000000 in
set_option maxRecDepth 100000 in
theorem k_Mod_writeWholes (l : Launch) (dC : Nat → ClassId) (dI : Nat → Nat → Nat) (cI cB cJ cZ : ClassId) (ad : Nat → Nat) (sz : Nat) (l1 : Int32) (x : St) {post : St → Prop} (hw : wp_Mod_writeWholes post l1 x) : Met l y_Mod_writeWholes (wsOf y_Mod_writeWholes b_Mod_writeWholes 5 (none)) ({ frames := 3, cells := 0, slots := 0, locals := 75 }) (va_Pc [.ref (ad 0), .int l1] (PW dC dI cI cB cJ cZ ad stM kcM 115 sz x)) (va_Qv (fun (y : St) => post y) (fun y t => Wd dC dI cI cB cJ cZ ad stM kcM 115 (va_A (pic ad stM kcM 115 cI cB cJ cZ x) sz) y t.heap) (va_A (pic ad stM kcM 115 cI cB cJ cZ x) sz)) 0 0 (va_A (pic ad stM kcM 115 cI cB cJ cZ x) sz) := by
  refine Met.ofW (cc := b_Mod_writeWholes) (maxL := 5) (ret := none) (by decide) rfl ?_
  intro p e s m args below meth c s₁ B hml hv
  obtain ⟨rfl, hsz, hW0, hK, hN⟩ := hv
  have hx := B.exec
  have hb := B.bytes
  have hr := B.returns
  have hts := atoms_spec B.pre
  have hT : ∀ w ∈ TG, w.before _ s = true := fun w h => hts w (List.mem_cons_of_mem _ h)
  have hown : s.vm.findClass R_Mod = some m.cls := findClass_of_methodNamed B.named
  have hlocks := B.notSynchronized
  subst hsz
  have hW : Wd dC dI cI cB cJ cZ ad stM kcM 115 (va_A (pic ad stM kcM 115 cI cB cJ cZ x) s.heap.size) x s.heap := ⟨hW0.1, hW0.2.1.self (sz := s.heap.size), hW0.2.2⟩
  generalize hAe : va_A (pic ad stM kcM 115 cI cB cJ cZ x) s.heap.size = A at hW ⊢
  have hA : ∀ q : Nat, s.heap.size ≤ q → A q := fun q h => by rw [← hAe]; exact Or.inr h
  have hS : va_S A s.heap s.heap [] := va_S.rf
  have hl := lv_entry ([.ref (ad 0), .int l1]) (n := 5) (Nat.le_of_ble_eq_true rfl)
  rw [lg_entry_eq]
  generalize (lg_sl ([.ref (ad 0), .int l1]) ++ List.replicate (5 - (lg_sl ([.ref (ad 0), .int l1])).length) Slot.unset).toArray = ls at hl ⊢
  have hl : lv_has ls 5 [(0, .ref (ad 0)), (1, .int l1)] := hl
  exact t_Mod_writeWholes_e hx hb hml hown hT hK hN hA (Nat.le_refl 0) (Nat.le_refl 0) (Nat.le_refl 3) (Nat.le_refl 75) (fun x H locs pc ls hd hp hW hS => W.vret hx hb hr (fun t ht hM => ⟨⟨x, rfl, hp, Wd.back hW ht.symm (fun _ z => z)⟩, hS.F ht⟩) hS.2.2 hd hlocks)  l1 x _ _ ls  hw hW hS hl
end
