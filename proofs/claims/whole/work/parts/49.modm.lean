theorem fr_Mod_38 : F_Mod 38 = (R_Mod, "pageType", "I", false) := rfl
theorem fr_Mod_39 : F_Mod 39 = (R_Mod, "pageR", "I", false) := rfl
theorem fr_Mod_40 : F_Mod 40 = (R_Mod, "pageD", "I", false) := rfl
theorem fr_Mod_41 : F_Mod 41 = (R_Mod, "pageEntries", "I", false) := rfl
theorem fr_Mod_42 : F_Mod 42 = (R_Mod, "values", "I", false) := rfl
theorem fr_Mod_64 : F_Mod 64 = (R_Mod, "sheetSize", "I", false) := rfl
theorem w_11_155 : (Jvm.Cond.methodLink "StripedVaultModel" (789 : Nat) ({ cls := "StripedVaultModel", name := "typeOf", desc := "(II)I" } : Jvm.MethodName)) ∈ TG := tw_11 155 (by decide +kernel) (by decide +kernel)
theorem w_11_157 : (Jvm.Cond.instanceMethod ({ cls := "StripedVaultModel", name := "typeOf", desc := "(II)I" } : Jvm.MethodName)) ∈ TG := tw_11 157 (by decide +kernel) (by decide +kernel)
theorem w_11_158 : (Jvm.Cond.code ({ cls := "StripedVaultModel", name := "typeOf", desc := "(II)I" } : Jvm.MethodName) prog_14_method_22_code (3 : Nat) (Option.some Jvm.ClassFile.FieldType.int)) ∈ TG := tw_11 158 (by decide +kernel) (by decide +kernel)
theorem w_11_159 : (Jvm.Cond.methodLink "StripedVaultModel" (792 : Nat) ({ cls := "StripedVaultModel", name := "mostR", desc := "(II)I" } : Jvm.MethodName)) ∈ TG := tw_11 159 (by decide +kernel) (by decide +kernel)
theorem w_11_161 : (Jvm.Cond.instanceMethod ({ cls := "StripedVaultModel", name := "mostR", desc := "(II)I" } : Jvm.MethodName)) ∈ TG := tw_11 161 (by decide +kernel) (by decide +kernel)
theorem w_11_162 : (Jvm.Cond.code ({ cls := "StripedVaultModel", name := "mostR", desc := "(II)I" } : Jvm.MethodName) prog_14_method_20_code (3 : Nat) (Option.some Jvm.ClassFile.FieldType.int)) ∈ TG := tw_11 162 (by decide +kernel) (by decide +kernel)
theorem w_11_163 : (Jvm.Cond.methodLink "StripedVaultModel" (786 : Nat) ({ cls := "StripedVaultModel", name := "mostD", desc := "(II)I" } : Jvm.MethodName)) ∈ TG := tw_11 163 (by decide +kernel) (by decide +kernel)
theorem w_11_165 : (Jvm.Cond.instanceMethod ({ cls := "StripedVaultModel", name := "mostD", desc := "(II)I" } : Jvm.MethodName)) ∈ TG := tw_11 165 (by decide +kernel) (by decide +kernel)
theorem w_11_166 : (Jvm.Cond.code ({ cls := "StripedVaultModel", name := "mostD", desc := "(II)I" } : Jvm.MethodName) prog_14_method_21_code (3 : Nat) (Option.some Jvm.ClassFile.FieldType.int)) ∈ TG := tw_11 166 (by decide +kernel) (by decide +kernel)
theorem w_11_187 : (Jvm.Cond.methodLink "StripedVaultModel" (561 : Nat) ({ cls := "StripedVaultModel", name := "alike", desc := "([III)I" } : Jvm.MethodName)) ∈ TG := tw_11 187 (by decide +kernel) (by decide +kernel)
theorem w_11_188 : (Jvm.Cond.static ({ cls := "StripedVaultModel", name := "alike", desc := "([III)I" } : Jvm.MethodName)) ∈ TG := tw_11 188 (by decide +kernel) (by decide +kernel)
theorem w_11_189 : (Jvm.Cond.code ({ cls := "StripedVaultModel", name := "alike", desc := "([III)I" } : Jvm.MethodName) prog_14_method_51_code (4 : Nat) (Option.some Jvm.ClassFile.FieldType.int)) ∈ TG := tw_11 189 (by decide +kernel) (by decide +kernel)
theorem w_11_190 : (Jvm.Cond.constantLong "StripedVaultModel" (565 : Nat) (2 : Int64)) ∈ TG := tw_11 190 (by decide +kernel) (by decide +kernel)
theorem w_11_191 : (Jvm.Cond.methodLink "StripedVaultModel" (567 : Nat) ({ cls := "StripedVaultModel", name := "putVarint", desc := "(J)V" } : Jvm.MethodName)) ∈ TG := tw_11 191 (by decide +kernel) (by decide +kernel)
theorem w_11_193 : (Jvm.Cond.instanceMethod ({ cls := "StripedVaultModel", name := "putVarint", desc := "(J)V" } : Jvm.MethodName)) ∈ TG := tw_11 193 (by decide +kernel) (by decide +kernel)
theorem w_11_194 : (Jvm.Cond.code ({ cls := "StripedVaultModel", name := "putVarint", desc := "(J)V" } : Jvm.MethodName) prog_14_method_48_code (5 : Nat) (Option.none : Option Jvm.ClassFile.FieldType)) ∈ TG := tw_11 194 (by decide +kernel) (by decide +kernel)
theorem w_11_195 : (Jvm.Cond.constantLong "StripedVaultModel" (556 : Nat) (127 : Int64)) ∈ TG := tw_11 195 (by decide +kernel) (by decide +kernel)
theorem w_11_196 : (Jvm.Cond.methodLink "StripedVaultModel" (558 : Nat) ({ cls := "StripedVaultModel", name := "put", desc := "(I)V" } : Jvm.MethodName)) ∈ TG := tw_11 196 (by decide +kernel) (by decide +kernel)
theorem w_11_198 : (Jvm.Cond.instanceMethod ({ cls := "StripedVaultModel", name := "put", desc := "(I)V" } : Jvm.MethodName)) ∈ TG := tw_11 198 (by decide +kernel) (by decide +kernel)
theorem w_11_199 : (Jvm.Cond.code ({ cls := "StripedVaultModel", name := "put", desc := "(I)V" } : Jvm.MethodName) prog_14_method_46_code (2 : Nat) (Option.none : Option Jvm.ClassFile.FieldType)) ∈ TG := tw_11 199 (by decide +kernel) (by decide +kernel)
theorem w_8_214 : (Jvm.Cond.fieldLink "StripedVaultModel" (623 : Nat) "StripedVaultModel" "pageType" "I") ∈ TG := tw_8 214 (by decide +kernel) (by decide +kernel)
theorem w_8_215 : (Jvm.Cond.fieldLink "StripedVaultModel" (733 : Nat) "StripedVaultModel" "pageR" "I") ∈ TG := tw_8 215 (by decide +kernel) (by decide +kernel)
theorem w_8_216 : (Jvm.Cond.fieldLink "StripedVaultModel" (739 : Nat) "StripedVaultModel" "pageD" "I") ∈ TG := tw_8 216 (by decide +kernel) (by decide +kernel)
theorem w_8_217 : (Jvm.Cond.fieldLink "StripedVaultModel" (676 : Nat) "StripedVaultModel" "pageEntries" "I") ∈ TG := tw_8 217 (by decide +kernel) (by decide +kernel)
theorem w_8_218 : (Jvm.Cond.fieldLink "StripedVaultModel" (632 : Nat) "StripedVaultModel" "values" "I") ∈ TG := tw_8 218 (by decide +kernel) (by decide +kernel)
theorem w_9_0 : (Jvm.Cond.fieldLink "StripedVaultModel" (547 : Nat) "StripedVaultModel" "sheetSize" "I") ∈ TG := tw_9 0 (by decide +kernel) (by decide +kernel)
theorem ws_144 : Cond.selects R_Mod y_Mod_typeOf y_Mod_typeOf ∈ TG := tw_s 144 (by decide +kernel) (by decide +kernel)
theorem ws_145 : Cond.selects R_Mod y_Mod_mostR y_Mod_mostR ∈ TG := tw_s 145 (by decide +kernel) (by decide +kernel)
theorem ws_146 : Cond.selects R_Mod y_Mod_mostD y_Mod_mostD ∈ TG := tw_s 146 (by decide +kernel) (by decide +kernel)
theorem ws_152 : Cond.selects R_Mod y_Mod_putVarint y_Mod_putVarint ∈ TG := tw_s 152 (by decide +kernel) (by decide +kernel)
theorem ws_153 : Cond.selects R_Mod y_Mod_put y_Mod_put ∈ TG := tw_s 153 (by decide +kernel) (by decide +kernel)
theorem d_Mod_fillPage_239 : decode b_Mod_fillPage 239 = .ok (.iinc 4 1, 3) := by decide +kernel
theorem d_Mod_fillPage_242 : decode b_Mod_fillPage 242 = .ok (.goto (-194), 3) := by decide +kernel
theorem d_Mod_fillPage_179 : decode b_Mod_fillPage 179 = .ok (.iload 5, 2) := by decide +kernel
theorem d_Mod_fillPage_181 : decode b_Mod_fillPage 181 = .ok (.aload_n 0, 1) := by decide +kernel
theorem d_Mod_fillPage_182 : decode b_Mod_fillPage 182 = .ok (.getfield 75, 3) := by decide +kernel
theorem d_Mod_fillPage_185 : decode b_Mod_fillPage 185 = .ok (.iload 4, 2) := by decide +kernel
theorem d_Mod_fillPage_187 : decode b_Mod_fillPage 187 = .ok (.iaload, 1) := by decide +kernel
theorem d_Mod_fillPage_188 : decode b_Mod_fillPage 188 = .ok (.if_icmp .ge 41, 3) := by decide +kernel
theorem d_Mod_fillPage_229 : decode b_Mod_fillPage 229 = .ok (.aload_n 0, 1) := by decide +kernel
theorem d_Mod_fillPage_230 : decode b_Mod_fillPage 230 = .ok (.dup, 1) := by decide +kernel
theorem d_Mod_fillPage_231 : decode b_Mod_fillPage 231 = .ok (.getfield 632, 3) := by decide +kernel
theorem d_Mod_fillPage_234 : decode b_Mod_fillPage 234 = .ok (.iconst 1, 1) := by decide +kernel
theorem d_Mod_fillPage_235 : decode b_Mod_fillPage 235 = .ok (.iadd, 1) := by decide +kernel
theorem d_Mod_fillPage_236 : decode b_Mod_fillPage 236 = .ok (.putfield 632, 3) := by decide +kernel
theorem d_Mod_fillPage_191 : decode b_Mod_fillPage 191 = .ok (.aload_n 0, 1) := by decide +kernel
theorem d_Mod_fillPage_192 : decode b_Mod_fillPage 192 = .ok (.getfield 118, 3) := by decide +kernel
theorem d_Mod_fillPage_195 : decode b_Mod_fillPage 195 = .ok (.aload_n 0, 1) := by decide +kernel
theorem d_Mod_fillPage_196 : decode b_Mod_fillPage 196 = .ok (.getfield 109, 3) := by decide +kernel
theorem d_Mod_fillPage_199 : decode b_Mod_fillPage 199 = .ok (.aload_n 0, 1) := by decide +kernel
theorem d_Mod_fillPage_200 : decode b_Mod_fillPage 200 = .ok (.getfield 632, 3) := by decide +kernel
theorem d_Mod_fillPage_203 : decode b_Mod_fillPage 203 = .ok (.iaload, 1) := by decide +kernel
theorem d_Mod_fillPage_204 : decode b_Mod_fillPage 204 = .ok (.iload 5, 2) := by decide +kernel
theorem d_Mod_fillPage_206 : decode b_Mod_fillPage 206 = .ok (.iadd, 1) := by decide +kernel
theorem d_Mod_fillPage_207 : decode b_Mod_fillPage 207 = .ok (.aload_n 0, 1) := by decide +kernel
theorem d_Mod_fillPage_208 : decode b_Mod_fillPage 208 = .ok (.getfield 82, 3) := by decide +kernel
theorem d_Mod_fillPage_211 : decode b_Mod_fillPage 211 = .ok (.aload_n 0, 1) := by decide +kernel
theorem d_Mod_fillPage_212 : decode b_Mod_fillPage 212 = .ok (.getfield 72, 3) := by decide +kernel
theorem d_Mod_fillPage_215 : decode b_Mod_fillPage 215 = .ok (.iload 4, 2) := by decide +kernel
theorem d_Mod_fillPage_217 : decode b_Mod_fillPage 217 = .ok (.iaload, 1) := by decide +kernel
theorem d_Mod_fillPage_218 : decode b_Mod_fillPage 218 = .ok (.iload 5, 2) := by decide +kernel
theorem d_Mod_fillPage_220 : decode b_Mod_fillPage 220 = .ok (.iadd, 1) := by decide +kernel
theorem d_Mod_fillPage_221 : decode b_Mod_fillPage 221 = .ok (.iaload, 1) := by decide +kernel
theorem d_Mod_fillPage_222 : decode b_Mod_fillPage 222 = .ok (.iastore, 1) := by decide +kernel
theorem d_Mod_fillPage_223 : decode b_Mod_fillPage 223 = .ok (.iinc 5 1, 3) := by decide +kernel
theorem d_Mod_fillPage_226 : decode b_Mod_fillPage 226 = .ok (.goto (-47), 3) := by decide +kernel
theorem d_Mod_fillPage_48 : decode b_Mod_fillPage 48 = .ok (.iload 4, 2) := by decide +kernel
theorem d_Mod_fillPage_50 : decode b_Mod_fillPage 50 = .ok (.aload_n 0, 1) := by decide +kernel
theorem d_Mod_fillPage_51 : decode b_Mod_fillPage 51 = .ok (.getfield 78, 3) := by decide +kernel
theorem d_Mod_fillPage_54 : decode b_Mod_fillPage 54 = .ok (.iload_n 3, 1) := by decide +kernel
theorem d_Mod_fillPage_55 : decode b_Mod_fillPage 55 = .ok (.iaload, 1) := by decide +kernel
theorem d_Mod_fillPage_56 : decode b_Mod_fillPage 56 = .ok (.if_icmp .ge 189, 3) := by decide +kernel
theorem d_Mod_fillPage_245 : decode b_Mod_fillPage 245 = .ok (.return_, 1) := by decide +kernel
theorem d_Mod_fillPage_59 : decode b_Mod_fillPage 59 = .ok (.aload_n 0, 1) := by decide +kernel
theorem d_Mod_fillPage_60 : decode b_Mod_fillPage 60 = .ok (.getfield 69, 3) := by decide +kernel
theorem d_Mod_fillPage_63 : decode b_Mod_fillPage 63 = .ok (.iload 4, 2) := by decide +kernel
theorem d_Mod_fillPage_65 : decode b_Mod_fillPage 65 = .ok (.iaload, 1) := by decide +kernel
theorem d_Mod_fillPage_66 : decode b_Mod_fillPage 66 = .ok (.iload_n 1, 1) := by decide +kernel
theorem d_Mod_fillPage_67 : decode b_Mod_fillPage 67 = .ok (.if_icmp .eq 6, 3) := by decide +kernel
theorem d_Mod_fillPage_73 : decode b_Mod_fillPage 73 = .ok (.aload_n 0, 1) := by decide +kernel
theorem d_Mod_fillPage_74 : decode b_Mod_fillPage 74 = .ok (.getfield 88, 3) := by decide +kernel
theorem d_Mod_fillPage_77 : decode b_Mod_fillPage 77 = .ok (.aload_n 0, 1) := by decide +kernel
theorem d_Mod_fillPage_78 : decode b_Mod_fillPage 78 = .ok (.getfield 676, 3) := by decide +kernel
theorem d_Mod_fillPage_81 : decode b_Mod_fillPage 81 = .ok (.aload_n 0, 1) := by decide +kernel
theorem d_Mod_fillPage_82 : decode b_Mod_fillPage 82 = .ok (.getfield 63, 3) := by decide +kernel
theorem d_Mod_fillPage_85 : decode b_Mod_fillPage 85 = .ok (.iload 4, 2) := by decide +kernel
theorem d_Mod_fillPage_87 : decode b_Mod_fillPage 87 = .ok (.iaload, 1) := by decide +kernel
theorem d_Mod_fillPage_88 : decode b_Mod_fillPage 88 = .ok (.iastore, 1) := by decide +kernel
theorem d_Mod_fillPage_89 : decode b_Mod_fillPage 89 = .ok (.aload_n 0, 1) := by decide +kernel
theorem d_Mod_fillPage_90 : decode b_Mod_fillPage 90 = .ok (.getfield 91, 3) := by decide +kernel
theorem d_Mod_fillPage_93 : decode b_Mod_fillPage 93 = .ok (.aload_n 0, 1) := by decide +kernel
theorem d_Mod_fillPage_94 : decode b_Mod_fillPage 94 = .ok (.getfield 676, 3) := by decide +kernel
theorem d_Mod_fillPage_97 : decode b_Mod_fillPage 97 = .ok (.aload_n 0, 1) := by decide +kernel
theorem d_Mod_fillPage_98 : decode b_Mod_fillPage 98 = .ok (.getfield 66, 3) := by decide +kernel
theorem d_Mod_fillPage_101 : decode b_Mod_fillPage 101 = .ok (.iload 4, 2) := by decide +kernel
theorem d_Mod_fillPage_103 : decode b_Mod_fillPage 103 = .ok (.iaload, 1) := by decide +kernel
theorem d_Mod_fillPage_104 : decode b_Mod_fillPage 104 = .ok (.iastore, 1) := by decide +kernel
theorem d_Mod_fillPage_105 : decode b_Mod_fillPage 105 = .ok (.aload_n 0, 1) := by decide +kernel
theorem d_Mod_fillPage_106 : decode b_Mod_fillPage 106 = .ok (.dup, 1) := by decide +kernel
theorem d_Mod_fillPage_107 : decode b_Mod_fillPage 107 = .ok (.getfield 676, 3) := by decide +kernel
theorem d_Mod_fillPage_110 : decode b_Mod_fillPage 110 = .ok (.iconst 1, 1) := by decide +kernel
theorem d_Mod_fillPage_111 : decode b_Mod_fillPage 111 = .ok (.iadd, 1) := by decide +kernel
theorem d_Mod_fillPage_112 : decode b_Mod_fillPage 112 = .ok (.putfield 676, 3) := by decide +kernel
theorem d_Mod_fillPage_115 : decode b_Mod_fillPage 115 = .ok (.aload_n 0, 1) := by decide +kernel
theorem d_Mod_fillPage_116 : decode b_Mod_fillPage 116 = .ok (.getfield 66, 3) := by decide +kernel
theorem d_Mod_fillPage_119 : decode b_Mod_fillPage 119 = .ok (.iload 4, 2) := by decide +kernel
theorem d_Mod_fillPage_121 : decode b_Mod_fillPage 121 = .ok (.iaload, 1) := by decide +kernel
theorem d_Mod_fillPage_122 : decode b_Mod_fillPage 122 = .ok (.aload_n 0, 1) := by decide +kernel
theorem d_Mod_fillPage_123 : decode b_Mod_fillPage 123 = .ok (.getfield 739, 3) := by decide +kernel
theorem d_Mod_fillPage_126 : decode b_Mod_fillPage 126 = .ok (.if_icmp .eq 6, 3) := by decide +kernel
theorem d_Mod_fillPage_132 : decode b_Mod_fillPage 132 = .ok (.aload_n 0, 1) := by decide +kernel
theorem d_Mod_fillPage_133 : decode b_Mod_fillPage 133 = .ok (.getfield 100, 3) := by decide +kernel
theorem d_Mod_fillPage_136 : decode b_Mod_fillPage 136 = .ok (.aload_n 0, 1) := by decide +kernel
theorem d_Mod_fillPage_137 : decode b_Mod_fillPage 137 = .ok (.getfield 632, 3) := by decide +kernel
theorem d_Mod_fillPage_140 : decode b_Mod_fillPage 140 = .ok (.aload_n 0, 1) := by decide +kernel
theorem d_Mod_fillPage_141 : decode b_Mod_fillPage 141 = .ok (.getfield 85, 3) := by decide +kernel
theorem d_Mod_fillPage_144 : decode b_Mod_fillPage 144 = .ok (.iload 4, 2) := by decide +kernel
theorem d_Mod_fillPage_146 : decode b_Mod_fillPage 146 = .ok (.laload, 1) := by decide +kernel
theorem d_Mod_fillPage_147 : decode b_Mod_fillPage 147 = .ok (.lastore, 1) := by decide +kernel
theorem d_Mod_fillPage_148 : decode b_Mod_fillPage 148 = .ok (.aload_n 0, 1) := by decide +kernel
theorem d_Mod_fillPage_149 : decode b_Mod_fillPage 149 = .ok (.getfield 109, 3) := by decide +kernel
theorem d_Mod_fillPage_152 : decode b_Mod_fillPage 152 = .ok (.aload_n 0, 1) := by decide +kernel
theorem d_Mod_fillPage_153 : decode b_Mod_fillPage 153 = .ok (.getfield 632, 3) := by decide +kernel
theorem d_Mod_fillPage_156 : decode b_Mod_fillPage 156 = .ok (.iconst 1, 1) := by decide +kernel
theorem d_Mod_fillPage_157 : decode b_Mod_fillPage 157 = .ok (.iadd, 1) := by decide +kernel
theorem d_Mod_fillPage_158 : decode b_Mod_fillPage 158 = .ok (.aload_n 0, 1) := by decide +kernel
theorem d_Mod_fillPage_159 : decode b_Mod_fillPage 159 = .ok (.getfield 109, 3) := by decide +kernel
theorem d_Mod_fillPage_162 : decode b_Mod_fillPage 162 = .ok (.aload_n 0, 1) := by decide +kernel
theorem d_Mod_fillPage_163 : decode b_Mod_fillPage 163 = .ok (.getfield 632, 3) := by decide +kernel
theorem d_Mod_fillPage_166 : decode b_Mod_fillPage 166 = .ok (.iaload, 1) := by decide +kernel
theorem d_Mod_fillPage_167 : decode b_Mod_fillPage 167 = .ok (.aload_n 0, 1) := by decide +kernel
theorem d_Mod_fillPage_168 : decode b_Mod_fillPage 168 = .ok (.getfield 75, 3) := by decide +kernel
theorem d_Mod_fillPage_171 : decode b_Mod_fillPage 171 = .ok (.iload 4, 2) := by decide +kernel
theorem d_Mod_fillPage_173 : decode b_Mod_fillPage 173 = .ok (.iaload, 1) := by decide +kernel
theorem d_Mod_fillPage_174 : decode b_Mod_fillPage 174 = .ok (.iadd, 1) := by decide +kernel
theorem d_Mod_fillPage_175 : decode b_Mod_fillPage 175 = .ok (.iastore, 1) := by decide +kernel
theorem d_Mod_fillPage_176 : decode b_Mod_fillPage 176 = .ok (.iconst 0, 1) := by decide +kernel
theorem d_Mod_fillPage_177 : decode b_Mod_fillPage 177 = .ok (.istore 5, 2) := by decide +kernel
theorem d_Mod_fillPage_129 : decode b_Mod_fillPage 129 = .ok (.goto 110, 3) := by decide +kernel
theorem d_Mod_fillPage_70 : decode b_Mod_fillPage 70 = .ok (.goto 169, 3) := by decide +kernel
theorem d_Mod_fillPage_0 : decode b_Mod_fillPage 0 = .ok (.aload_n 0, 1) := by decide +kernel
theorem d_Mod_fillPage_1 : decode b_Mod_fillPage 1 = .ok (.aload_n 0, 1) := by decide +kernel
theorem d_Mod_fillPage_2 : decode b_Mod_fillPage 2 = .ok (.iconst 0, 1) := by decide +kernel
theorem d_Mod_fillPage_3 : decode b_Mod_fillPage 3 = .ok (.iload_n 1, 1) := by decide +kernel
theorem d_Mod_fillPage_4 : decode b_Mod_fillPage 4 = .ok (.invokevirtual 789, 3) := by decide +kernel
theorem d_Mod_fillPage_7 : decode b_Mod_fillPage 7 = .ok (.putfield 623, 3) := by decide +kernel
theorem d_Mod_fillPage_10 : decode b_Mod_fillPage 10 = .ok (.aload_n 0, 1) := by decide +kernel
theorem d_Mod_fillPage_11 : decode b_Mod_fillPage 11 = .ok (.aload_n 0, 1) := by decide +kernel
theorem d_Mod_fillPage_12 : decode b_Mod_fillPage 12 = .ok (.iconst 0, 1) := by decide +kernel
theorem d_Mod_fillPage_13 : decode b_Mod_fillPage 13 = .ok (.iload_n 1, 1) := by decide +kernel
theorem d_Mod_fillPage_14 : decode b_Mod_fillPage 14 = .ok (.invokevirtual 792, 3) := by decide +kernel
theorem d_Mod_fillPage_17 : decode b_Mod_fillPage 17 = .ok (.putfield 733, 3) := by decide +kernel
theorem d_Mod_fillPage_20 : decode b_Mod_fillPage 20 = .ok (.aload_n 0, 1) := by decide +kernel
theorem d_Mod_fillPage_21 : decode b_Mod_fillPage 21 = .ok (.aload_n 0, 1) := by decide +kernel
theorem d_Mod_fillPage_22 : decode b_Mod_fillPage 22 = .ok (.iconst 0, 1) := by decide +kernel
theorem d_Mod_fillPage_23 : decode b_Mod_fillPage 23 = .ok (.iload_n 1, 1) := by decide +kernel
theorem d_Mod_fillPage_24 : decode b_Mod_fillPage 24 = .ok (.invokevirtual 786, 3) := by decide +kernel
theorem d_Mod_fillPage_27 : decode b_Mod_fillPage 27 = .ok (.putfield 739, 3) := by decide +kernel
theorem d_Mod_fillPage_30 : decode b_Mod_fillPage 30 = .ok (.aload_n 0, 1) := by decide +kernel
theorem d_Mod_fillPage_31 : decode b_Mod_fillPage 31 = .ok (.iconst 0, 1) := by decide +kernel
theorem d_Mod_fillPage_32 : decode b_Mod_fillPage 32 = .ok (.putfield 676, 3) := by decide +kernel
theorem d_Mod_fillPage_35 : decode b_Mod_fillPage 35 = .ok (.aload_n 0, 1) := by decide +kernel
theorem d_Mod_fillPage_36 : decode b_Mod_fillPage 36 = .ok (.iconst 0, 1) := by decide +kernel
theorem d_Mod_fillPage_37 : decode b_Mod_fillPage 37 = .ok (.putfield 632, 3) := by decide +kernel
theorem d_Mod_fillPage_40 : decode b_Mod_fillPage 40 = .ok (.aload_n 0, 1) := by decide +kernel
theorem d_Mod_fillPage_41 : decode b_Mod_fillPage 41 = .ok (.getfield 78, 3) := by decide +kernel
theorem d_Mod_fillPage_44 : decode b_Mod_fillPage 44 = .ok (.iload_n 2, 1) := by decide +kernel
theorem d_Mod_fillPage_45 : decode b_Mod_fillPage 45 = .ok (.iaload, 1) := by decide +kernel
theorem d_Mod_fillPage_46 : decode b_Mod_fillPage 46 = .ok (.istore 4, 2) := by decide +kernel
theorem d_Mod_codings_0 : decode b_Mod_codings 0 = .ok (.aload_n 0, 1) := by decide +kernel
theorem d_Mod_codings_1 : decode b_Mod_codings 1 = .ok (.getfield 623, 3) := by decide +kernel
theorem d_Mod_codings_4 : decode b_Mod_codings 4 = .ok (.ifCond .ne 7, 3) := by decide +kernel
theorem d_Mod_codings_11 : decode b_Mod_codings 11 = .ok (.aload_n 0, 1) := by decide +kernel
theorem d_Mod_codings_12 : decode b_Mod_codings 12 = .ok (.getfield 623, 3) := by decide +kernel
theorem d_Mod_codings_15 : decode b_Mod_codings 15 = .ok (.iconst 3, 1) := by decide +kernel
theorem d_Mod_codings_16 : decode b_Mod_codings 16 = .ok (.if_icmp .ne 7, 3) := by decide +kernel
theorem d_Mod_codings_23 : decode b_Mod_codings 23 = .ok (.iconst 3, 1) := by decide +kernel
theorem d_Mod_codings_24 : decode b_Mod_codings 24 = .ok (.ireturn, 1) := by decide +kernel
theorem d_Mod_codings_19 : decode b_Mod_codings 19 = .ok (.iconst 4, 1) := by decide +kernel
theorem d_Mod_codings_20 : decode b_Mod_codings 20 = .ok (.goto 4, 3) := by decide +kernel
theorem d_Mod_codings_7 : decode b_Mod_codings 7 = .ok (.iconst 2, 1) := by decide +kernel
theorem d_Mod_codings_8 : decode b_Mod_codings 8 = .ok (.goto 16, 3) := by decide +kernel
theorem d_Mod_alike_22 : decode b_Mod_alike 22 = .ok (.iload_n 3, 1) := by decide +kernel
theorem d_Mod_alike_23 : decode b_Mod_alike 23 = .ok (.iload_n 1, 1) := by decide +kernel
theorem d_Mod_alike_24 : decode b_Mod_alike 24 = .ok (.isub, 1) := by decide +kernel
theorem d_Mod_alike_25 : decode b_Mod_alike 25 = .ok (.ireturn, 1) := by decide +kernel
theorem d_Mod_alike_2 : decode b_Mod_alike 2 = .ok (.iload_n 3, 1) := by decide +kernel
theorem d_Mod_alike_3 : decode b_Mod_alike 3 = .ok (.iload_n 2, 1) := by decide +kernel
theorem d_Mod_alike_4 : decode b_Mod_alike 4 = .ok (.if_icmp .ge 18, 3) := by decide +kernel
theorem d_Mod_alike_7 : decode b_Mod_alike 7 = .ok (.aload_n 0, 1) := by decide +kernel
theorem d_Mod_alike_8 : decode b_Mod_alike 8 = .ok (.iload_n 3, 1) := by decide +kernel
theorem d_Mod_alike_9 : decode b_Mod_alike 9 = .ok (.iaload, 1) := by decide +kernel
theorem d_Mod_alike_10 : decode b_Mod_alike 10 = .ok (.aload_n 0, 1) := by decide +kernel
theorem d_Mod_alike_11 : decode b_Mod_alike 11 = .ok (.iload_n 1, 1) := by decide +kernel
theorem d_Mod_alike_12 : decode b_Mod_alike 12 = .ok (.iaload, 1) := by decide +kernel
theorem d_Mod_alike_13 : decode b_Mod_alike 13 = .ok (.if_icmp .ne 9, 3) := by decide +kernel
theorem d_Mod_alike_16 : decode b_Mod_alike 16 = .ok (.iinc 3 1, 3) := by decide +kernel
theorem d_Mod_alike_19 : decode b_Mod_alike 19 = .ok (.goto (-17), 3) := by decide +kernel
theorem d_Mod_alike_0 : decode b_Mod_alike 0 = .ok (.iload_n 1, 1) := by decide +kernel
theorem d_Mod_alike_1 : decode b_Mod_alike 1 = .ok (.istore_n 3, 1) := by decide +kernel
theorem d_Mod_put_26 : decode b_Mod_put 26 = .ok (.aload_n 0, 1) := by decide +kernel
theorem d_Mod_put_27 : decode b_Mod_put 27 = .ok (.dup, 1) := by decide +kernel
theorem d_Mod_put_28 : decode b_Mod_put 28 = .ok (.getfield 547, 3) := by decide +kernel
theorem d_Mod_put_31 : decode b_Mod_put 31 = .ok (.iconst 1, 1) := by decide +kernel
theorem d_Mod_put_32 : decode b_Mod_put 32 = .ok (.iadd, 1) := by decide +kernel
theorem d_Mod_put_33 : decode b_Mod_put 33 = .ok (.putfield 547, 3) := by decide +kernel
theorem d_Mod_put_36 : decode b_Mod_put 36 = .ok (.return_, 1) := by decide +kernel
theorem d_Mod_put_0 : decode b_Mod_put 0 = .ok (.aload_n 0, 1) := by decide +kernel
theorem d_Mod_put_1 : decode b_Mod_put 1 = .ok (.getfield 547, 3) := by decide +kernel
theorem d_Mod_put_4 : decode b_Mod_put 4 = .ok (.aload_n 0, 1) := by decide +kernel
theorem d_Mod_put_5 : decode b_Mod_put 5 = .ok (.getfield 127, 3) := by decide +kernel
theorem d_Mod_put_8 : decode b_Mod_put 8 = .ok (.arraylength, 1) := by decide +kernel
theorem d_Mod_put_9 : decode b_Mod_put 9 = .ok (.if_icmp .ge 17, 3) := by decide +kernel
theorem d_Mod_put_12 : decode b_Mod_put 12 = .ok (.aload_n 0, 1) := by decide +kernel
theorem d_Mod_put_13 : decode b_Mod_put 13 = .ok (.getfield 127, 3) := by decide +kernel
theorem d_Mod_put_16 : decode b_Mod_put 16 = .ok (.aload_n 0, 1) := by decide +kernel
theorem d_Mod_put_17 : decode b_Mod_put 17 = .ok (.getfield 547, 3) := by decide +kernel
theorem d_Mod_put_20 : decode b_Mod_put 20 = .ok (.iload_n 1, 1) := by decide +kernel
theorem d_Mod_put_21 : decode b_Mod_put 21 = .ok (.sipush 255, 3) := by decide +kernel
theorem d_Mod_put_24 : decode b_Mod_put 24 = .ok (.iand, 1) := by decide +kernel
theorem d_Mod_put_25 : decode b_Mod_put 25 = .ok (.iastore, 1) := by decide +kernel
theorem d_Mod_putVarint_16 : decode b_Mod_putVarint 16 = .ok (.aload_n 0, 1) := by decide +kernel
theorem d_Mod_putVarint_17 : decode b_Mod_putVarint 17 = .ok (.lload_n 3, 1) := by decide +kernel
theorem d_Mod_putVarint_18 : decode b_Mod_putVarint 18 = .ok (.ldc2_w 556, 3) := by decide +kernel
theorem d_Mod_putVarint_21 : decode b_Mod_putVarint 21 = .ok (.land, 1) := by decide +kernel
theorem d_Mod_putVarint_22 : decode b_Mod_putVarint 22 = .ok (.l2i, 1) := by decide +kernel
theorem d_Mod_putVarint_23 : decode b_Mod_putVarint 23 = .ok (.sipush 128, 3) := by decide +kernel
theorem d_Mod_putVarint_26 : decode b_Mod_putVarint 26 = .ok (.iadd, 1) := by decide +kernel
theorem d_Mod_putVarint_27 : decode b_Mod_putVarint 27 = .ok (.invokevirtual 558, 3) := by decide +kernel
theorem d_Mod_putVarint_30 : decode b_Mod_putVarint 30 = .ok (.lload_n 3, 1) := by decide +kernel
theorem d_Mod_putVarint_31 : decode b_Mod_putVarint 31 = .ok (.bipush 7, 2) := by decide +kernel
theorem d_Mod_putVarint_33 : decode b_Mod_putVarint 33 = .ok (.lushr, 1) := by decide +kernel
theorem d_Mod_putVarint_34 : decode b_Mod_putVarint 34 = .ok (.lstore_n 3, 1) := by decide +kernel
theorem d_Mod_putVarint_35 : decode b_Mod_putVarint 35 = .ok (.goto (-33), 3) := by decide +kernel
theorem d_Mod_putVarint_2 : decode b_Mod_putVarint 2 = .ok (.lload_n 3, 1) := by decide +kernel
theorem d_Mod_putVarint_3 : decode b_Mod_putVarint 3 = .ok (.lconst 0, 1) := by decide +kernel
theorem d_Mod_putVarint_4 : decode b_Mod_putVarint 4 = .ok (.lcmp, 1) := by decide +kernel
theorem d_Mod_putVarint_5 : decode b_Mod_putVarint 5 = .ok (.ifCond .lt 11, 3) := by decide +kernel
theorem d_Mod_putVarint_8 : decode b_Mod_putVarint 8 = .ok (.lload_n 3, 1) := by decide +kernel
theorem d_Mod_putVarint_9 : decode b_Mod_putVarint 9 = .ok (.ldc2_w 556, 3) := by decide +kernel
theorem d_Mod_putVarint_12 : decode b_Mod_putVarint 12 = .ok (.lcmp, 1) := by decide +kernel
theorem d_Mod_putVarint_13 : decode b_Mod_putVarint 13 = .ok (.ifCond .le 25, 3) := by decide +kernel
theorem d_Mod_putVarint_38 : decode b_Mod_putVarint 38 = .ok (.aload_n 0, 1) := by decide +kernel
theorem d_Mod_putVarint_39 : decode b_Mod_putVarint 39 = .ok (.lload_n 3, 1) := by decide +kernel
theorem d_Mod_putVarint_40 : decode b_Mod_putVarint 40 = .ok (.l2i, 1) := by decide +kernel
theorem d_Mod_putVarint_41 : decode b_Mod_putVarint 41 = .ok (.invokevirtual 558, 3) := by decide +kernel
theorem d_Mod_putVarint_44 : decode b_Mod_putVarint 44 = .ok (.return_, 1) := by decide +kernel
theorem d_Mod_putVarint_0 : decode b_Mod_putVarint 0 = .ok (.lload_n 1, 1) := by decide +kernel
theorem d_Mod_putVarint_1 : decode b_Mod_putVarint 1 = .ok (.lstore_n 3, 1) := by decide +kernel
theorem d_Mod_writeRuns_192 : decode b_Mod_writeRuns 192 = .ok (.iinc 9 1, 3) := by decide +kernel
theorem d_Mod_writeRuns_195 : decode b_Mod_writeRuns 195 = .ok (.goto (-50), 3) := by decide +kernel
theorem d_Mod_writeRuns_145 : decode b_Mod_writeRuns 145 = .ok (.iload 9, 2) := by decide +kernel
theorem d_Mod_writeRuns_147 : decode b_Mod_writeRuns 147 = .ok (.bipush 8, 2) := by decide +kernel
theorem d_Mod_writeRuns_149 : decode b_Mod_writeRuns 149 = .ok (.if_icmp .ge 49, 3) := by decide +kernel
theorem d_Mod_writeRuns_198 : decode b_Mod_writeRuns 198 = .ok (.aload_n 0, 1) := by decide +kernel
theorem d_Mod_writeRuns_199 : decode b_Mod_writeRuns 199 = .ok (.iload 8, 2) := by decide +kernel
theorem d_Mod_writeRuns_201 : decode b_Mod_writeRuns 201 = .ok (.invokevirtual 558, 3) := by decide +kernel
theorem d_Mod_writeRuns_204 : decode b_Mod_writeRuns 204 = .ok (.iinc 7 8, 3) := by decide +kernel
theorem d_Mod_writeRuns_207 : decode b_Mod_writeRuns 207 = .ok (.goto (-80), 3) := by decide +kernel
theorem d_Mod_writeRuns_152 : decode b_Mod_writeRuns 152 = .ok (.iload 4, 2) := by decide +kernel
theorem d_Mod_writeRuns_154 : decode b_Mod_writeRuns 154 = .ok (.iload 7, 2) := by decide +kernel
theorem d_Mod_writeRuns_156 : decode b_Mod_writeRuns 156 = .ok (.iload 9, 2) := by decide +kernel
theorem d_Mod_writeRuns_158 : decode b_Mod_writeRuns 158 = .ok (.iadd, 1) := by decide +kernel
theorem d_Mod_writeRuns_159 : decode b_Mod_writeRuns 159 = .ok (.iload_n 3, 1) := by decide +kernel
theorem d_Mod_writeRuns_160 : decode b_Mod_writeRuns 160 = .ok (.idiv, 1) := by decide +kernel
theorem d_Mod_writeRuns_161 : decode b_Mod_writeRuns 161 = .ok (.iadd, 1) := by decide +kernel
theorem d_Mod_writeRuns_162 : decode b_Mod_writeRuns 162 = .ok (.istore 10, 2) := by decide +kernel
theorem d_Mod_writeRuns_164 : decode b_Mod_writeRuns 164 = .ok (.iload 10, 2) := by decide +kernel
theorem d_Mod_writeRuns_166 : decode b_Mod_writeRuns 166 = .ok (.iload_n 2, 1) := by decide +kernel
theorem d_Mod_writeRuns_167 : decode b_Mod_writeRuns 167 = .ok (.if_icmp .ge 25, 3) := by decide +kernel
theorem d_Mod_writeRuns_170 : decode b_Mod_writeRuns 170 = .ok (.iload 8, 2) := by decide +kernel
theorem d_Mod_writeRuns_172 : decode b_Mod_writeRuns 172 = .ok (.aload_n 1, 1) := by decide +kernel
theorem d_Mod_writeRuns_173 : decode b_Mod_writeRuns 173 = .ok (.iload 10, 2) := by decide +kernel
theorem d_Mod_writeRuns_175 : decode b_Mod_writeRuns 175 = .ok (.iaload, 1) := by decide +kernel
theorem d_Mod_writeRuns_176 : decode b_Mod_writeRuns 176 = .ok (.iload 7, 2) := by decide +kernel
theorem d_Mod_writeRuns_178 : decode b_Mod_writeRuns 178 = .ok (.iload 9, 2) := by decide +kernel
theorem d_Mod_writeRuns_180 : decode b_Mod_writeRuns 180 = .ok (.iadd, 1) := by decide +kernel
theorem d_Mod_writeRuns_181 : decode b_Mod_writeRuns 181 = .ok (.iload_n 3, 1) := by decide +kernel
theorem d_Mod_writeRuns_182 : decode b_Mod_writeRuns 182 = .ok (.irem, 1) := by decide +kernel
theorem d_Mod_writeRuns_183 : decode b_Mod_writeRuns 183 = .ok (.iushr, 1) := by decide +kernel
theorem d_Mod_writeRuns_184 : decode b_Mod_writeRuns 184 = .ok (.iconst 1, 1) := by decide +kernel
theorem d_Mod_writeRuns_185 : decode b_Mod_writeRuns 185 = .ok (.iand, 1) := by decide +kernel
theorem d_Mod_writeRuns_186 : decode b_Mod_writeRuns 186 = .ok (.iload 9, 2) := by decide +kernel
theorem d_Mod_writeRuns_188 : decode b_Mod_writeRuns 188 = .ok (.ishl, 1) := by decide +kernel
theorem d_Mod_writeRuns_189 : decode b_Mod_writeRuns 189 = .ok (.ior, 1) := by decide +kernel
theorem d_Mod_writeRuns_190 : decode b_Mod_writeRuns 190 = .ok (.istore 8, 2) := by decide +kernel
theorem d_Mod_writeRuns_127 : decode b_Mod_writeRuns 127 = .ok (.iload 7, 2) := by decide +kernel
theorem d_Mod_writeRuns_129 : decode b_Mod_writeRuns 129 = .ok (.bipush 8, 2) := by decide +kernel
theorem d_Mod_writeRuns_131 : decode b_Mod_writeRuns 131 = .ok (.iload_n 3, 1) := by decide +kernel
theorem d_Mod_writeRuns_132 : decode b_Mod_writeRuns 132 = .ok (.imul, 1) := by decide +kernel
theorem d_Mod_writeRuns_133 : decode b_Mod_writeRuns 133 = .ok (.iload 6, 2) := by decide +kernel
theorem d_Mod_writeRuns_135 : decode b_Mod_writeRuns 135 = .ok (.imul, 1) := by decide +kernel
theorem d_Mod_writeRuns_136 : decode b_Mod_writeRuns 136 = .ok (.if_icmp .ge 74, 3) := by decide +kernel
theorem d_Mod_writeRuns_210 : decode b_Mod_writeRuns 210 = .ok (.iload 4, 2) := by decide +kernel
theorem d_Mod_writeRuns_212 : decode b_Mod_writeRuns 212 = .ok (.bipush 8, 2) := by decide +kernel
theorem d_Mod_writeRuns_214 : decode b_Mod_writeRuns 214 = .ok (.iload 6, 2) := by decide +kernel
theorem d_Mod_writeRuns_216 : decode b_Mod_writeRuns 216 = .ok (.imul, 1) := by decide +kernel
theorem d_Mod_writeRuns_217 : decode b_Mod_writeRuns 217 = .ok (.iadd, 1) := by decide +kernel
theorem d_Mod_writeRuns_218 : decode b_Mod_writeRuns 218 = .ok (.istore 4, 2) := by decide +kernel
theorem d_Mod_writeRuns_220 : decode b_Mod_writeRuns 220 = .ok (.goto (-217), 3) := by decide +kernel
theorem d_Mod_writeRuns_139 : decode b_Mod_writeRuns 139 = .ok (.iconst 0, 1) := by decide +kernel
theorem d_Mod_writeRuns_140 : decode b_Mod_writeRuns 140 = .ok (.istore 8, 2) := by decide +kernel
theorem d_Mod_writeRuns_142 : decode b_Mod_writeRuns 142 = .ok (.iconst 0, 1) := by decide +kernel
theorem d_Mod_writeRuns_143 : decode b_Mod_writeRuns 143 = .ok (.istore 9, 2) := by decide +kernel
theorem d_Mod_writeRuns_111 : decode b_Mod_writeRuns 111 = .ok (.aload_n 0, 1) := by decide +kernel
theorem d_Mod_writeRuns_112 : decode b_Mod_writeRuns 112 = .ok (.ldc2_w 565, 3) := by decide +kernel
theorem d_Mod_writeRuns_115 : decode b_Mod_writeRuns 115 = .ok (.iload 6, 2) := by decide +kernel
theorem d_Mod_writeRuns_117 : decode b_Mod_writeRuns 117 = .ok (.i2l, 1) := by decide +kernel
theorem d_Mod_writeRuns_118 : decode b_Mod_writeRuns 118 = .ok (.lmul, 1) := by decide +kernel
theorem d_Mod_writeRuns_119 : decode b_Mod_writeRuns 119 = .ok (.lconst 1, 1) := by decide +kernel
theorem d_Mod_writeRuns_120 : decode b_Mod_writeRuns 120 = .ok (.ladd, 1) := by decide +kernel
theorem d_Mod_writeRuns_121 : decode b_Mod_writeRuns 121 = .ok (.invokevirtual 567, 3) := by decide +kernel
theorem d_Mod_writeRuns_124 : decode b_Mod_writeRuns 124 = .ok (.iconst 0, 1) := by decide +kernel
theorem d_Mod_writeRuns_125 : decode b_Mod_writeRuns 125 = .ok (.istore 7, 2) := by decide +kernel
theorem d_Mod_writeRuns_75 : decode b_Mod_writeRuns 75 = .ok (.iload 4, 2) := by decide +kernel
theorem d_Mod_writeRuns_77 : decode b_Mod_writeRuns 77 = .ok (.bipush 8, 2) := by decide +kernel
theorem d_Mod_writeRuns_79 : decode b_Mod_writeRuns 79 = .ok (.iload 6, 2) := by decide +kernel
theorem d_Mod_writeRuns_81 : decode b_Mod_writeRuns 81 = .ok (.imul, 1) := by decide +kernel
theorem d_Mod_writeRuns_82 : decode b_Mod_writeRuns 82 = .ok (.iadd, 1) := by decide +kernel
theorem d_Mod_writeRuns_83 : decode b_Mod_writeRuns 83 = .ok (.iload_n 2, 1) := by decide +kernel
theorem d_Mod_writeRuns_84 : decode b_Mod_writeRuns 84 = .ok (.if_icmp .ge 27, 3) := by decide +kernel
theorem d_Mod_writeRuns_87 : decode b_Mod_writeRuns 87 = .ok (.aload_n 1, 1) := by decide +kernel
theorem d_Mod_writeRuns_88 : decode b_Mod_writeRuns 88 = .ok (.iload 4, 2) := by decide +kernel
theorem d_Mod_writeRuns_90 : decode b_Mod_writeRuns 90 = .ok (.bipush 8, 2) := by decide +kernel
theorem d_Mod_writeRuns_92 : decode b_Mod_writeRuns 92 = .ok (.iload 6, 2) := by decide +kernel
theorem d_Mod_writeRuns_94 : decode b_Mod_writeRuns 94 = .ok (.imul, 1) := by decide +kernel
theorem d_Mod_writeRuns_95 : decode b_Mod_writeRuns 95 = .ok (.iadd, 1) := by decide +kernel
theorem d_Mod_writeRuns_96 : decode b_Mod_writeRuns 96 = .ok (.iload_n 2, 1) := by decide +kernel
theorem d_Mod_writeRuns_97 : decode b_Mod_writeRuns 97 = .ok (.invokestatic 561, 3) := by decide +kernel
theorem d_Mod_writeRuns_100 : decode b_Mod_writeRuns 100 = .ok (.bipush 8, 2) := by decide +kernel
theorem d_Mod_writeRuns_102 : decode b_Mod_writeRuns 102 = .ok (.if_icmp .ge 9, 3) := by decide +kernel
theorem d_Mod_writeRuns_105 : decode b_Mod_writeRuns 105 = .ok (.iinc 6 1, 3) := by decide +kernel
theorem d_Mod_writeRuns_108 : decode b_Mod_writeRuns 108 = .ok (.goto (-33), 3) := by decide +kernel
theorem d_Mod_writeRuns_39 : decode b_Mod_writeRuns 39 = .ok (.iload 6, 2) := by decide +kernel
theorem d_Mod_writeRuns_41 : decode b_Mod_writeRuns 41 = .ok (.iload_n 3, 1) := by decide +kernel
theorem d_Mod_writeRuns_42 : decode b_Mod_writeRuns 42 = .ok (.if_icmp .ge 20, 3) := by decide +kernel
theorem d_Mod_writeRuns_62 : decode b_Mod_writeRuns 62 = .ok (.iload 4, 2) := by decide +kernel
theorem d_Mod_writeRuns_64 : decode b_Mod_writeRuns 64 = .ok (.iload 5, 2) := by decide +kernel
theorem d_Mod_writeRuns_66 : decode b_Mod_writeRuns 66 = .ok (.iadd, 1) := by decide +kernel
theorem d_Mod_writeRuns_67 : decode b_Mod_writeRuns 67 = .ok (.istore 4, 2) := by decide +kernel
theorem d_Mod_writeRuns_69 : decode b_Mod_writeRuns 69 = .ok (.goto (-66), 3) := by decide +kernel
theorem d_Mod_writeRuns_45 : decode b_Mod_writeRuns 45 = .ok (.aload_n 0, 1) := by decide +kernel
theorem d_Mod_writeRuns_46 : decode b_Mod_writeRuns 46 = .ok (.aload_n 1, 1) := by decide +kernel
theorem d_Mod_writeRuns_47 : decode b_Mod_writeRuns 47 = .ok (.iload 4, 2) := by decide +kernel
theorem d_Mod_writeRuns_49 : decode b_Mod_writeRuns 49 = .ok (.iaload, 1) := by decide +kernel
theorem d_Mod_writeRuns_50 : decode b_Mod_writeRuns 50 = .ok (.iload 6, 2) := by decide +kernel
theorem d_Mod_writeRuns_52 : decode b_Mod_writeRuns 52 = .ok (.ishr, 1) := by decide +kernel
theorem d_Mod_writeRuns_53 : decode b_Mod_writeRuns 53 = .ok (.invokevirtual 558, 3) := by decide +kernel
theorem d_Mod_writeRuns_56 : decode b_Mod_writeRuns 56 = .ok (.iinc 6 8, 3) := by decide +kernel
theorem d_Mod_writeRuns_59 : decode b_Mod_writeRuns 59 = .ok (.goto (-20), 3) := by decide +kernel
theorem d_Mod_writeRuns_3 : decode b_Mod_writeRuns 3 = .ok (.iload 4, 2) := by decide +kernel
theorem d_Mod_writeRuns_5 : decode b_Mod_writeRuns 5 = .ok (.iload_n 2, 1) := by decide +kernel
theorem d_Mod_writeRuns_6 : decode b_Mod_writeRuns 6 = .ok (.if_icmp .ge 217, 3) := by decide +kernel
theorem d_Mod_writeRuns_223 : decode b_Mod_writeRuns 223 = .ok (.return_, 1) := by decide +kernel
theorem d_Mod_writeRuns_9 : decode b_Mod_writeRuns 9 = .ok (.aload_n 1, 1) := by decide +kernel
theorem d_Mod_writeRuns_10 : decode b_Mod_writeRuns 10 = .ok (.iload 4, 2) := by decide +kernel
theorem d_Mod_writeRuns_12 : decode b_Mod_writeRuns 12 = .ok (.iload_n 2, 1) := by decide +kernel
theorem d_Mod_writeRuns_13 : decode b_Mod_writeRuns 13 = .ok (.invokestatic 561, 3) := by decide +kernel
theorem d_Mod_writeRuns_16 : decode b_Mod_writeRuns 16 = .ok (.istore 5, 2) := by decide +kernel
theorem d_Mod_writeRuns_18 : decode b_Mod_writeRuns 18 = .ok (.iload 5, 2) := by decide +kernel
theorem d_Mod_writeRuns_20 : decode b_Mod_writeRuns 20 = .ok (.bipush 8, 2) := by decide +kernel
theorem d_Mod_writeRuns_22 : decode b_Mod_writeRuns 22 = .ok (.if_icmp .lt 50, 3) := by decide +kernel
theorem d_Mod_writeRuns_72 : decode b_Mod_writeRuns 72 = .ok (.iconst 1, 1) := by decide +kernel
theorem d_Mod_writeRuns_73 : decode b_Mod_writeRuns 73 = .ok (.istore 6, 2) := by decide +kernel
theorem d_Mod_writeRuns_25 : decode b_Mod_writeRuns 25 = .ok (.aload_n 0, 1) := by decide +kernel
theorem d_Mod_writeRuns_26 : decode b_Mod_writeRuns 26 = .ok (.ldc2_w 565, 3) := by decide +kernel
theorem d_Mod_writeRuns_29 : decode b_Mod_writeRuns 29 = .ok (.iload 5, 2) := by decide +kernel
theorem d_Mod_writeRuns_31 : decode b_Mod_writeRuns 31 = .ok (.i2l, 1) := by decide +kernel
theorem d_Mod_writeRuns_32 : decode b_Mod_writeRuns 32 = .ok (.lmul, 1) := by decide +kernel
theorem d_Mod_writeRuns_33 : decode b_Mod_writeRuns 33 = .ok (.invokevirtual 567, 3) := by decide +kernel
theorem d_Mod_writeRuns_36 : decode b_Mod_writeRuns 36 = .ok (.iconst 0, 1) := by decide +kernel
theorem d_Mod_writeRuns_37 : decode b_Mod_writeRuns 37 = .ok (.istore 6, 2) := by decide +kernel
theorem d_Mod_writeRuns_0 : decode b_Mod_writeRuns 0 = .ok (.iconst 0, 1) := by decide +kernel
theorem d_Mod_writeRuns_1 : decode b_Mod_writeRuns 1 = .ok (.istore 4, 2) := by decide +kernel
section
variable (l : Launch) (dC : Nat → ClassId) (dI : Nat → Nat → Nat) (cI cB cJ cZ : ClassId)
set_option maxRecDepth 100000 in
set_option maxHeartbeats 4000000 in
set_option maxRecDepth 100000 in
theorem t_Mod_fillPage_239 {p : Program} {l : Launch} {e : Env} {R : Room} {s : State} {m : MethodId} {args : Array Value} {below : List Frame} {meth : Method} {c : Code} {cells slots : Nat} {Q : State → Prop} {dC : Nat → ClassId} {dI : Nat → Nat → Nat} {cI cB cJ cZ : ClassId} {A : Nat → Prop} {ad : Nat → Nat} {post : St → Prop} {rec48 : Int32 → Int32 → Int32 → Int32 → St → Prop} (hx : p.tables.exec = Jvm.exec) (hb : c.code = b_Mod_fillPage) (hml : c.maxLocals = 6) (hown : s.vm.findClass R_Mod = some m.cls) (hT : ∀ w ∈ TG, w.before args s = true) (hK : va_K (dC, dI) CL (TY cI cB cJ cZ) s) (hN : NW s) (hA : ∀ q : Nat, s.heap.size ≤ q → A q) (hRc : cells ≤ R.cells) (hRs : slots ≤ R.slots) (hRf : 3 ≤ R.frames) (hRl : 69 ≤ R.locals) (hret : ∀ (x : St) (H : Heap) (locs : List Loc) (pc : Nat) (ls : Array Slot), decode b_Mod_fillPage pc = .ok (.return_, 1) → post x → Wd dC dI cI cB cJ cZ ad stM kcM 115 A x H → va_S A s.heap H locs → W p l e R s m args below meth c H locs cells slots Q (F0 m pc ls [])) (hrec48 : ∀ (l1 : Int32) (l2 : Int32) (l3 : Int32) (l4 : Int32) (x : St) (H : Heap) (locs : List Loc) (ls : Array Slot), rec48 l1 l2 l3 l4 x → Wd dC dI cI cB cJ cZ ad stM kcM 115 A x H → va_S A s.heap H locs → lv_has ls 6 [(0, .ref (ad 0)), (1, .int l1), (2, .int l2), (3, .int l3), (4, .int l4)] → W p l e R s m args below meth c H locs cells slots Q (F0 m 48 ls [])) : ∀ (l1 : Int32) (l2 : Int32) (l3 : Int32) (l4 : Int32) (x : St) (H : Heap) (locs : List Loc) (ls : Array Slot), j_Mod_fillPage_239 post rec48 l1 l2 l3 l4 x → Wd dC dI cI cB cJ cZ ad stM kcM 115 A x H → va_S A s.heap H locs → lv_has ls 6 [(0, .ref (ad 0)), (1, .int l1), (2, .int l2), (3, .int l3), (4, .int l4)] → W p l e R s m args below meth c H locs cells slots Q (F0 m 239 ls []) := by
  intro l1 l2 l3 l4 x H locs ls  hw hW hS hl
  unfold j_Mod_fillPage_239 at hw
  refine lv_iinc (v := (l4 + 1)) (lv' := [(4, .int (l4 + 1)), (0, .ref (ad 0)), (1, .int l1), (2, .int l2), (3, .int l3)]) hx hb d_Mod_fillPage_239 hl (k := 4) rfl rfl (by decide) rfl (fun ls hl => ?_)
  refine lv_goto (tgt := 48) hx hb d_Mod_fillPage_242 (by decide) ?_
  exact hrec48 l1 l2 l3 (l4 + 1) x H locs ls  hw hW hS (lv_sub hl [1, 2, 3, 4, 0] rfl)
set_option maxRecDepth 100000 in
set_option maxHeartbeats 4000000 in
set_option maxRecDepth 100000 in
theorem t_Mod_fillPage_179 {p : Program} {l : Launch} {e : Env} {R : Room} {s : State} {m : MethodId} {args : Array Value} {below : List Frame} {meth : Method} {c : Code} {cells slots : Nat} {Q : State → Prop} {dC : Nat → ClassId} {dI : Nat → Nat → Nat} {cI cB cJ cZ : ClassId} {A : Nat → Prop} {ad : Nat → Nat} {post : St → Prop} {rec48 : Int32 → Int32 → Int32 → Int32 → St → Prop} {rec179 : Int32 → Int32 → Int32 → Int32 → Int32 → St → Prop} (hx : p.tables.exec = Jvm.exec) (hb : c.code = b_Mod_fillPage) (hml : c.maxLocals = 6) (hown : s.vm.findClass R_Mod = some m.cls) (hT : ∀ w ∈ TG, w.before args s = true) (hK : va_K (dC, dI) CL (TY cI cB cJ cZ) s) (hN : NW s) (hA : ∀ q : Nat, s.heap.size ≤ q → A q) (hRc : cells ≤ R.cells) (hRs : slots ≤ R.slots) (hRf : 3 ≤ R.frames) (hRl : 69 ≤ R.locals) (hret : ∀ (x : St) (H : Heap) (locs : List Loc) (pc : Nat) (ls : Array Slot), decode b_Mod_fillPage pc = .ok (.return_, 1) → post x → Wd dC dI cI cB cJ cZ ad stM kcM 115 A x H → va_S A s.heap H locs → W p l e R s m args below meth c H locs cells slots Q (F0 m pc ls [])) (hrec48 : ∀ (l1 : Int32) (l2 : Int32) (l3 : Int32) (l4 : Int32) (x : St) (H : Heap) (locs : List Loc) (ls : Array Slot), rec48 l1 l2 l3 l4 x → Wd dC dI cI cB cJ cZ ad stM kcM 115 A x H → va_S A s.heap H locs → lv_has ls 6 [(0, .ref (ad 0)), (1, .int l1), (2, .int l2), (3, .int l3), (4, .int l4)] → W p l e R s m args below meth c H locs cells slots Q (F0 m 48 ls [])) (hrec179 : ∀ (l1 : Int32) (l2 : Int32) (l3 : Int32) (l4 : Int32) (l5 : Int32) (x : St) (H : Heap) (locs : List Loc) (ls : Array Slot), rec179 l1 l2 l3 l4 l5 x → Wd dC dI cI cB cJ cZ ad stM kcM 115 A x H → va_S A s.heap H locs → lv_has ls 6 [(0, .ref (ad 0)), (1, .int l1), (2, .int l2), (3, .int l3), (4, .int l4), (5, .int l5)] → W p l e R s m args below meth c H locs cells slots Q (F0 m 179 ls [])) : ∀ (l1 : Int32) (l2 : Int32) (l3 : Int32) (l4 : Int32) (l5 : Int32) (x : St) (H : Heap) (locs : List Loc) (ls : Array Slot), j_Mod_fillPage_179 post rec48 rec179 l1 l2 l3 l4 l5 x → Wd dC dI cI cB cJ cZ ad stM kcM 115 A x H → va_S A s.heap H locs → lv_has ls 6 [(0, .ref (ad 0)), (1, .int l1), (2, .int l2), (3, .int l3), (4, .int l4), (5, .int l5)] → W p l e R s m args below meth c H locs cells slots Q (F0 m 179 ls []) := by
  intro l1 l2 l3 l4 l5 x H locs ls  hw hW hS hl
  unfold j_Mod_fillPage_179 at hw
  refine lv_iload hx hb d_Mod_fillPage_179 (lv_at hl 5 rfl) ?_
  refine lv_aload_n hx hb d_Mod_fillPage_181 rfl (lv_at hl 0 rfl) ?_
  refine w_getf (q := 22) (k := 30) (t := 12) (C := R_Mod) (T := F_Mod) (N := 167) hx hb hT hown hK hW ko_0.1 ko_0.2 (by decide) in_Mod rfl rfl (by decide) rfl fr_Mod_30 w_8_206 d_Mod_fillPage_182 rfl ?_
  refine lv_iload hx hb d_Mod_fillPage_185 (lv_at hl 4 rfl) ?_
  obtain ⟨hi, hw⟩ := hw
  refine w_iald (o := 22) hx hb hK hW ko_22.1 ko_22.2 hi d_Mod_fillPage_187 ?_
  refine lv_icmp_ge (tgt := 229) hx hb d_Mod_fillPage_188 (by decide) (fun c473 => ?_) (fun c473 => ?_)
  · have hw := hw.1 c473
    refine lv_aload_n hx hb d_Mod_fillPage_229 rfl (lv_at hl 0 rfl) ?_
    refine lv_dup hx hb d_Mod_fillPage_230 rfl ?_
    refine w_geti (k := 42) (t := 12) (C := R_Mod) (T := F_Mod) (N := 167) hx hb hT hown hK hW ko_0.1 ko_0.2 (by decide) in_Mod rfl rfl (by decide) rfl fr_Mod_42 w_8_218 d_Mod_fillPage_231 ?_
    refine lv_iconst (v := 1) hx hb d_Mod_fillPage_234 (by decide) ?_
    refine lv_iadd hx hb d_Mod_fillPage_235 ?_
    refine w_puti (ty := .int) (k := 42) (t := 12) (C := R_Mod) (T := F_Mod) (N := 167) hx hb hT hown hK hW hS ko_0.1 ko_0.2 (by decide) in_Mod t_Mod t_Mod_ok n_Mod rfl rfl (by decide) rfl fr_Mod_42 w_8_218 (by decide +kernel) rfl rfl d_Mod_fillPage_236 (fun H locs hW hS => ?_)
    obtain ⟨x474, ex474⟩ : ∃ y : St, y = setI x 0 42 ((fI x 0 42) + 1) := ⟨_, rfl⟩
    rw [← ex474] at hW
    have hw := hw x474 ex474
    exact t_Mod_fillPage_239 hx hb hml hown hT hK hN hA hRc hRs hRf hRl hret hrec48 l1 l2 l3 l4 x474 H locs ls  hw hW hS (lv_sub hl [0, 1, 2, 3, 4] rfl)
  · have hw := hw.2 c473
    refine lv_aload_n hx hb d_Mod_fillPage_191 rfl (lv_at hl 0 rfl) ?_
    refine w_getf (q := 36) (k := 55) (t := 12) (C := R_Mod) (T := F_Mod) (N := 167) hx hb hT hown hK hW ko_0.1 ko_0.2 (by decide) in_Mod rfl rfl (by decide) rfl fr_Mod_55 w_8_231 d_Mod_fillPage_192 rfl ?_
    refine lv_aload_n hx hb d_Mod_fillPage_195 rfl (lv_at hl 0 rfl) ?_
    refine w_getf (q := 33) (k := 52) (t := 12) (C := R_Mod) (T := F_Mod) (N := 167) hx hb hT hown hK hW ko_0.1 ko_0.2 (by decide) in_Mod rfl rfl (by decide) rfl fr_Mod_52 w_8_228 d_Mod_fillPage_196 rfl ?_
    refine lv_aload_n hx hb d_Mod_fillPage_199 rfl (lv_at hl 0 rfl) ?_
    refine w_geti (k := 42) (t := 12) (C := R_Mod) (T := F_Mod) (N := 167) hx hb hT hown hK hW ko_0.1 ko_0.2 (by decide) in_Mod rfl rfl (by decide) rfl fr_Mod_42 w_8_218 d_Mod_fillPage_200 ?_
    obtain ⟨hi, hw⟩ := hw
    refine w_iald (o := 33) hx hb hK hW ko_33.1 ko_33.2 hi d_Mod_fillPage_203 ?_
    refine lv_iload hx hb d_Mod_fillPage_204 (lv_at hl 5 rfl) ?_
    refine lv_iadd hx hb d_Mod_fillPage_206 ?_
    refine lv_aload_n hx hb d_Mod_fillPage_207 rfl (lv_at hl 0 rfl) ?_
    refine w_getf (q := 24) (k := 32) (t := 12) (C := R_Mod) (T := F_Mod) (N := 167) hx hb hT hown hK hW ko_0.1 ko_0.2 (by decide) in_Mod rfl rfl (by decide) rfl fr_Mod_32 w_8_208 d_Mod_fillPage_208 rfl ?_
    refine lv_aload_n hx hb d_Mod_fillPage_211 rfl (lv_at hl 0 rfl) ?_
    refine w_getf (q := 21) (k := 29) (t := 12) (C := R_Mod) (T := F_Mod) (N := 167) hx hb hT hown hK hW ko_0.1 ko_0.2 (by decide) in_Mod rfl rfl (by decide) rfl fr_Mod_29 w_8_205 d_Mod_fillPage_212 rfl ?_
    refine lv_iload hx hb d_Mod_fillPage_215 (lv_at hl 4 rfl) ?_
    obtain ⟨hi, hw⟩ := hw
    refine w_iald (o := 21) hx hb hK hW ko_21.1 ko_21.2 hi d_Mod_fillPage_217 ?_
    refine lv_iload hx hb d_Mod_fillPage_218 (lv_at hl 5 rfl) ?_
    refine lv_iadd hx hb d_Mod_fillPage_220 ?_
    obtain ⟨hi, hw⟩ := hw
    refine w_iald (o := 24) hx hb hK hW ko_24.1 ko_24.2 hi d_Mod_fillPage_221 ?_
    obtain ⟨hi, hw⟩ := hw
    refine w_iast (o := 36) hx hb hK hW hS ko_36.1 ko_36.2 hi d_Mod_fillPage_222 (fun H locs hW hS => ?_)
    obtain ⟨x475, ex475⟩ : ∃ y : St, y = setA x 36 ((rA x 33 (fI x 0 42)) + l5) (rA x 24 ((rA x 21 l4) + l5)) := ⟨_, rfl⟩
    rw [← ex475] at hW
    have hw := hw x475 ex475
    refine lv_iinc (v := (l5 + 1)) (lv' := [(5, .int (l5 + 1)), (0, .ref (ad 0)), (1, .int l1), (2, .int l2), (3, .int l3), (4, .int l4)]) hx hb d_Mod_fillPage_223 hl (k := 5) rfl rfl (by decide) rfl (fun ls hl => ?_)
    refine lv_goto (tgt := 179) hx hb d_Mod_fillPage_226 (by decide) ?_
    exact hrec179 l1 l2 l3 l4 (l5 + 1) x475 H locs ls  hw hW hS (lv_sub hl [1, 2, 3, 4, 5, 0] rfl)
set_option maxHeartbeats 4000000 in
set_option maxRecDepth 100000 in
theorem tl_Mod_fillPage_179 {p : Program} {l : Launch} {e : Env} {R : Room} {s : State} {m : MethodId} {args : Array Value} {below : List Frame} {meth : Method} {c : Code} {cells slots : Nat} {Q : State → Prop} {dC : Nat → ClassId} {dI : Nat → Nat → Nat} {cI cB cJ cZ : ClassId} {A : Nat → Prop} {ad : Nat → Nat} {post : St → Prop} {rec48 : Int32 → Int32 → Int32 → Int32 → St → Prop} (hx : p.tables.exec = Jvm.exec) (hb : c.code = b_Mod_fillPage) (hml : c.maxLocals = 6) (hown : s.vm.findClass R_Mod = some m.cls) (hT : ∀ w ∈ TG, w.before args s = true) (hK : va_K (dC, dI) CL (TY cI cB cJ cZ) s) (hN : NW s) (hA : ∀ q : Nat, s.heap.size ≤ q → A q) (hRc : cells ≤ R.cells) (hRs : slots ≤ R.slots) (hRf : 3 ≤ R.frames) (hRl : 69 ≤ R.locals) (hret : ∀ (x : St) (H : Heap) (locs : List Loc) (pc : Nat) (ls : Array Slot), decode b_Mod_fillPage pc = .ok (.return_, 1) → post x → Wd dC dI cI cB cJ cZ ad stM kcM 115 A x H → va_S A s.heap H locs → W p l e R s m args below meth c H locs cells slots Q (F0 m pc ls [])) (hrec48 : ∀ (l1 : Int32) (l2 : Int32) (l3 : Int32) (l4 : Int32) (x : St) (H : Heap) (locs : List Loc) (ls : Array Slot), rec48 l1 l2 l3 l4 x → Wd dC dI cI cB cJ cZ ad stM kcM 115 A x H → va_S A s.heap H locs → lv_has ls 6 [(0, .ref (ad 0)), (1, .int l1), (2, .int l2), (3, .int l3), (4, .int l4)] → W p l e R s m args below meth c H locs cells slots Q (F0 m 48 ls [])) : ∀ n : Nat, ∀ (l1 : Int32) (l2 : Int32) (l3 : Int32) (l4 : Int32) (l5 : Int32) (x : St) (H : Heap) (locs : List Loc) (ls : Array Slot), wl_Mod_fillPage_179 post rec48 n l1 l2 l3 l4 l5 x → Wd dC dI cI cB cJ cZ ad stM kcM 115 A x H → va_S A s.heap H locs → lv_has ls 6 [(0, .ref (ad 0)), (1, .int l1), (2, .int l2), (3, .int l3), (4, .int l4), (5, .int l5)] → W p l e R s m args below meth c H locs cells slots Q (F0 m 179 ls []) := by
  intro n
  induction n with
  | zero => intro l1 l2 l3 l4 l5 x H locs ls  hw; exact hw.elim
  | succ n ih => intro l1 l2 l3 l4 l5 x H locs ls  hw hW hS hl; exact t_Mod_fillPage_179 hx hb hml hown hT hK hN hA hRc hRs hRf hRl hret hrec48 ih l1 l2 l3 l4 l5 x H locs ls  hw hW hS hl
set_option maxRecDepth 100000 in
set_option maxHeartbeats 4000000 in
set_option maxRecDepth 100000 in
theorem t_Mod_fillPage_48 {p : Program} {l : Launch} {e : Env} {R : Room} {s : State} {m : MethodId} {args : Array Value} {below : List Frame} {meth : Method} {c : Code} {cells slots : Nat} {Q : State → Prop} {dC : Nat → ClassId} {dI : Nat → Nat → Nat} {cI cB cJ cZ : ClassId} {A : Nat → Prop} {ad : Nat → Nat} {post : St → Prop} {rec48 : Int32 → Int32 → Int32 → Int32 → St → Prop} (hx : p.tables.exec = Jvm.exec) (hb : c.code = b_Mod_fillPage) (hml : c.maxLocals = 6) (hown : s.vm.findClass R_Mod = some m.cls) (hT : ∀ w ∈ TG, w.before args s = true) (hK : va_K (dC, dI) CL (TY cI cB cJ cZ) s) (hN : NW s) (hA : ∀ q : Nat, s.heap.size ≤ q → A q) (hRc : cells ≤ R.cells) (hRs : slots ≤ R.slots) (hRf : 3 ≤ R.frames) (hRl : 69 ≤ R.locals) (hret : ∀ (x : St) (H : Heap) (locs : List Loc) (pc : Nat) (ls : Array Slot), decode b_Mod_fillPage pc = .ok (.return_, 1) → post x → Wd dC dI cI cB cJ cZ ad stM kcM 115 A x H → va_S A s.heap H locs → W p l e R s m args below meth c H locs cells slots Q (F0 m pc ls [])) (hrec48 : ∀ (l1 : Int32) (l2 : Int32) (l3 : Int32) (l4 : Int32) (x : St) (H : Heap) (locs : List Loc) (ls : Array Slot), rec48 l1 l2 l3 l4 x → Wd dC dI cI cB cJ cZ ad stM kcM 115 A x H → va_S A s.heap H locs → lv_has ls 6 [(0, .ref (ad 0)), (1, .int l1), (2, .int l2), (3, .int l3), (4, .int l4)] → W p l e R s m args below meth c H locs cells slots Q (F0 m 48 ls [])) : ∀ (l1 : Int32) (l2 : Int32) (l3 : Int32) (l4 : Int32) (x : St) (H : Heap) (locs : List Loc) (ls : Array Slot), j_Mod_fillPage_48 post rec48 l1 l2 l3 l4 x → Wd dC dI cI cB cJ cZ ad stM kcM 115 A x H → va_S A s.heap H locs → lv_has ls 6 [(0, .ref (ad 0)), (1, .int l1), (2, .int l2), (3, .int l3), (4, .int l4)] → W p l e R s m args below meth c H locs cells slots Q (F0 m 48 ls []) := by
  intro l1 l2 l3 l4 x H locs ls  hw hW hS hl
  unfold j_Mod_fillPage_48 at hw
  refine lv_iload hx hb d_Mod_fillPage_48 (lv_at hl 4 rfl) ?_
  refine lv_aload_n hx hb d_Mod_fillPage_50 rfl (lv_at hl 0 rfl) ?_
  refine w_getf (q := 23) (k := 31) (t := 12) (C := R_Mod) (T := F_Mod) (N := 167) hx hb hT hown hK hW ko_0.1 ko_0.2 (by decide) in_Mod rfl rfl (by decide) rfl fr_Mod_31 w_8_207 d_Mod_fillPage_51 rfl ?_
  refine lv_iload_n hx hb d_Mod_fillPage_54 rfl (lv_at hl 3 rfl) ?_
  obtain ⟨hi, hw⟩ := hw
  refine w_iald (o := 23) hx hb hK hW ko_23.1 ko_23.2 hi d_Mod_fillPage_55 ?_
  refine lv_icmp_ge (tgt := 245) hx hb d_Mod_fillPage_56 (by decide) (fun c476 => ?_) (fun c476 => ?_)
  · have hw := hw.1 c476
    exact hret x H locs 245 ls d_Mod_fillPage_245 hw hW hS
  · have hw := hw.2 c476
    refine lv_aload_n hx hb d_Mod_fillPage_59 rfl (lv_at hl 0 rfl) ?_
    refine w_getf (q := 20) (k := 28) (t := 12) (C := R_Mod) (T := F_Mod) (N := 167) hx hb hT hown hK hW ko_0.1 ko_0.2 (by decide) in_Mod rfl rfl (by decide) rfl fr_Mod_28 w_8_204 d_Mod_fillPage_60 rfl ?_
    refine lv_iload hx hb d_Mod_fillPage_63 (lv_at hl 4 rfl) ?_
    obtain ⟨hi, hw⟩ := hw
    refine w_iald (o := 20) hx hb hK hW ko_20.1 ko_20.2 hi d_Mod_fillPage_65 ?_
    refine lv_iload_n hx hb d_Mod_fillPage_66 rfl (lv_at hl 1 rfl) ?_
    refine lv_icmp_eq (tgt := 73) hx hb d_Mod_fillPage_67 (by decide) (fun c477 => ?_) (fun c477 => ?_)
    · have hw := hw.1 c477
      refine lv_aload_n hx hb d_Mod_fillPage_73 rfl (lv_at hl 0 rfl) ?_
      refine w_getf (q := 26) (k := 45) (t := 12) (C := R_Mod) (T := F_Mod) (N := 167) hx hb hT hown hK hW ko_0.1 ko_0.2 (by decide) in_Mod rfl rfl (by decide) rfl fr_Mod_45 w_8_221 d_Mod_fillPage_74 rfl ?_
      refine lv_aload_n hx hb d_Mod_fillPage_77 rfl (lv_at hl 0 rfl) ?_
      refine w_geti (k := 41) (t := 12) (C := R_Mod) (T := F_Mod) (N := 167) hx hb hT hown hK hW ko_0.1 ko_0.2 (by decide) in_Mod rfl rfl (by decide) rfl fr_Mod_41 w_8_217 d_Mod_fillPage_78 ?_
      refine lv_aload_n hx hb d_Mod_fillPage_81 rfl (lv_at hl 0 rfl) ?_
      refine w_getf (q := 18) (k := 26) (t := 12) (C := R_Mod) (T := F_Mod) (N := 167) hx hb hT hown hK hW ko_0.1 ko_0.2 (by decide) in_Mod rfl rfl (by decide) rfl fr_Mod_26 w_8_202 d_Mod_fillPage_82 rfl ?_
      refine lv_iload hx hb d_Mod_fillPage_85 (lv_at hl 4 rfl) ?_
      obtain ⟨hi, hw⟩ := hw
      refine w_iald (o := 18) hx hb hK hW ko_18.1 ko_18.2 hi d_Mod_fillPage_87 ?_
      obtain ⟨hi, hw⟩ := hw
      refine w_iast (o := 26) hx hb hK hW hS ko_26.1 ko_26.2 hi d_Mod_fillPage_88 (fun H locs hW hS => ?_)
      obtain ⟨x478, ex478⟩ : ∃ y : St, y = setA x 26 (fI x 0 41) (rA x 18 l4) := ⟨_, rfl⟩
      rw [← ex478] at hW
      have hw := hw x478 ex478
      refine lv_aload_n hx hb d_Mod_fillPage_89 rfl (lv_at hl 0 rfl) ?_
      refine w_getf (q := 27) (k := 46) (t := 12) (C := R_Mod) (T := F_Mod) (N := 167) hx hb hT hown hK hW ko_0.1 ko_0.2 (by decide) in_Mod rfl rfl (by decide) rfl fr_Mod_46 w_8_222 d_Mod_fillPage_90 rfl ?_
      refine lv_aload_n hx hb d_Mod_fillPage_93 rfl (lv_at hl 0 rfl) ?_
      refine w_geti (k := 41) (t := 12) (C := R_Mod) (T := F_Mod) (N := 167) hx hb hT hown hK hW ko_0.1 ko_0.2 (by decide) in_Mod rfl rfl (by decide) rfl fr_Mod_41 w_8_217 d_Mod_fillPage_94 ?_
      refine lv_aload_n hx hb d_Mod_fillPage_97 rfl (lv_at hl 0 rfl) ?_
      refine w_getf (q := 19) (k := 27) (t := 12) (C := R_Mod) (T := F_Mod) (N := 167) hx hb hT hown hK hW ko_0.1 ko_0.2 (by decide) in_Mod rfl rfl (by decide) rfl fr_Mod_27 w_8_203 d_Mod_fillPage_98 rfl ?_
      refine lv_iload hx hb d_Mod_fillPage_101 (lv_at hl 4 rfl) ?_
      obtain ⟨hi, hw⟩ := hw
      refine w_iald (o := 19) hx hb hK hW ko_19.1 ko_19.2 hi d_Mod_fillPage_103 ?_
      obtain ⟨hi, hw⟩ := hw
      refine w_iast (o := 27) hx hb hK hW hS ko_27.1 ko_27.2 hi d_Mod_fillPage_104 (fun H locs hW hS => ?_)
      obtain ⟨x479, ex479⟩ : ∃ y : St, y = setA x478 27 (fI x478 0 41) (rA x478 19 l4) := ⟨_, rfl⟩
      rw [← ex479] at hW
      have hw := hw x479 ex479
      refine lv_aload_n hx hb d_Mod_fillPage_105 rfl (lv_at hl 0 rfl) ?_
      refine lv_dup hx hb d_Mod_fillPage_106 rfl ?_
      refine w_geti (k := 41) (t := 12) (C := R_Mod) (T := F_Mod) (N := 167) hx hb hT hown hK hW ko_0.1 ko_0.2 (by decide) in_Mod rfl rfl (by decide) rfl fr_Mod_41 w_8_217 d_Mod_fillPage_107 ?_
      refine lv_iconst (v := 1) hx hb d_Mod_fillPage_110 (by decide) ?_
      refine lv_iadd hx hb d_Mod_fillPage_111 ?_
      refine w_puti (ty := .int) (k := 41) (t := 12) (C := R_Mod) (T := F_Mod) (N := 167) hx hb hT hown hK hW hS ko_0.1 ko_0.2 (by decide) in_Mod t_Mod t_Mod_ok n_Mod rfl rfl (by decide) rfl fr_Mod_41 w_8_217 (by decide +kernel) rfl rfl d_Mod_fillPage_112 (fun H locs hW hS => ?_)
      obtain ⟨x480, ex480⟩ : ∃ y : St, y = setI x479 0 41 ((fI x479 0 41) + 1) := ⟨_, rfl⟩
      rw [← ex480] at hW
      have hw := hw x480 ex480
      refine lv_aload_n hx hb d_Mod_fillPage_115 rfl (lv_at hl 0 rfl) ?_
      refine w_getf (q := 19) (k := 27) (t := 12) (C := R_Mod) (T := F_Mod) (N := 167) hx hb hT hown hK hW ko_0.1 ko_0.2 (by decide) in_Mod rfl rfl (by decide) rfl fr_Mod_27 w_8_203 d_Mod_fillPage_116 rfl ?_
      refine lv_iload hx hb d_Mod_fillPage_119 (lv_at hl 4 rfl) ?_
      obtain ⟨hi, hw⟩ := hw
      refine w_iald (o := 19) hx hb hK hW ko_19.1 ko_19.2 hi d_Mod_fillPage_121 ?_
      refine lv_aload_n hx hb d_Mod_fillPage_122 rfl (lv_at hl 0 rfl) ?_
      refine w_geti (k := 40) (t := 12) (C := R_Mod) (T := F_Mod) (N := 167) hx hb hT hown hK hW ko_0.1 ko_0.2 (by decide) in_Mod rfl rfl (by decide) rfl fr_Mod_40 w_8_216 d_Mod_fillPage_123 ?_
      refine lv_icmp_eq (tgt := 132) hx hb d_Mod_fillPage_126 (by decide) (fun c481 => ?_) (fun c481 => ?_)
      · have hw := hw.1 c481
        refine lv_aload_n hx hb d_Mod_fillPage_132 rfl (lv_at hl 0 rfl) ?_
        refine w_getf (q := 30) (k := 49) (t := 12) (C := R_Mod) (T := F_Mod) (N := 167) hx hb hT hown hK hW ko_0.1 ko_0.2 (by decide) in_Mod rfl rfl (by decide) rfl fr_Mod_49 w_8_225 d_Mod_fillPage_133 rfl ?_
        refine lv_aload_n hx hb d_Mod_fillPage_136 rfl (lv_at hl 0 rfl) ?_
        refine w_geti (k := 42) (t := 12) (C := R_Mod) (T := F_Mod) (N := 167) hx hb hT hown hK hW ko_0.1 ko_0.2 (by decide) in_Mod rfl rfl (by decide) rfl fr_Mod_42 w_8_218 d_Mod_fillPage_137 ?_
        refine lv_aload_n hx hb d_Mod_fillPage_140 rfl (lv_at hl 0 rfl) ?_
        refine w_getf (q := 25) (k := 33) (t := 12) (C := R_Mod) (T := F_Mod) (N := 167) hx hb hT hown hK hW ko_0.1 ko_0.2 (by decide) in_Mod rfl rfl (by decide) rfl fr_Mod_33 w_8_209 d_Mod_fillPage_141 rfl ?_
        refine lv_iload hx hb d_Mod_fillPage_144 (lv_at hl 4 rfl) ?_
        obtain ⟨hi, hw⟩ := hw
        refine w_lald (o := 25) hx hb hK hW ko_25.1 ko_25.2 hi d_Mod_fillPage_146 ?_
        obtain ⟨hi, hw⟩ := hw
        refine w_last (o := 30) hx hb hK hW hS ko_30.1 ko_30.2 hi d_Mod_fillPage_147 (fun H locs hW hS => ?_)
        obtain ⟨x482, ex482⟩ : ∃ y : St, y = setL x480 30 (fI x480 0 42) (rL x480 25 l4) := ⟨_, rfl⟩
        rw [← ex482] at hW
        have hw := hw x482 ex482
        refine lv_aload_n hx hb d_Mod_fillPage_148 rfl (lv_at hl 0 rfl) ?_
        refine w_getf (q := 33) (k := 52) (t := 12) (C := R_Mod) (T := F_Mod) (N := 167) hx hb hT hown hK hW ko_0.1 ko_0.2 (by decide) in_Mod rfl rfl (by decide) rfl fr_Mod_52 w_8_228 d_Mod_fillPage_149 rfl ?_
        refine lv_aload_n hx hb d_Mod_fillPage_152 rfl (lv_at hl 0 rfl) ?_
        refine w_geti (k := 42) (t := 12) (C := R_Mod) (T := F_Mod) (N := 167) hx hb hT hown hK hW ko_0.1 ko_0.2 (by decide) in_Mod rfl rfl (by decide) rfl fr_Mod_42 w_8_218 d_Mod_fillPage_153 ?_
        refine lv_iconst (v := 1) hx hb d_Mod_fillPage_156 (by decide) ?_
        refine lv_iadd hx hb d_Mod_fillPage_157 ?_
        refine lv_aload_n hx hb d_Mod_fillPage_158 rfl (lv_at hl 0 rfl) ?_
        refine w_getf (q := 33) (k := 52) (t := 12) (C := R_Mod) (T := F_Mod) (N := 167) hx hb hT hown hK hW ko_0.1 ko_0.2 (by decide) in_Mod rfl rfl (by decide) rfl fr_Mod_52 w_8_228 d_Mod_fillPage_159 rfl ?_
        refine lv_aload_n hx hb d_Mod_fillPage_162 rfl (lv_at hl 0 rfl) ?_
        refine w_geti (k := 42) (t := 12) (C := R_Mod) (T := F_Mod) (N := 167) hx hb hT hown hK hW ko_0.1 ko_0.2 (by decide) in_Mod rfl rfl (by decide) rfl fr_Mod_42 w_8_218 d_Mod_fillPage_163 ?_
        obtain ⟨hi, hw⟩ := hw
        refine w_iald (o := 33) hx hb hK hW ko_33.1 ko_33.2 hi d_Mod_fillPage_166 ?_
        refine lv_aload_n hx hb d_Mod_fillPage_167 rfl (lv_at hl 0 rfl) ?_
        refine w_getf (q := 22) (k := 30) (t := 12) (C := R_Mod) (T := F_Mod) (N := 167) hx hb hT hown hK hW ko_0.1 ko_0.2 (by decide) in_Mod rfl rfl (by decide) rfl fr_Mod_30 w_8_206 d_Mod_fillPage_168 rfl ?_
        refine lv_iload hx hb d_Mod_fillPage_171 (lv_at hl 4 rfl) ?_
        obtain ⟨hi, hw⟩ := hw
        refine w_iald (o := 22) hx hb hK hW ko_22.1 ko_22.2 hi d_Mod_fillPage_173 ?_
        refine lv_iadd hx hb d_Mod_fillPage_174 ?_
        obtain ⟨hi, hw⟩ := hw
        refine w_iast (o := 33) hx hb hK hW hS ko_33.1 ko_33.2 hi d_Mod_fillPage_175 (fun H locs hW hS => ?_)
        obtain ⟨x483, ex483⟩ : ∃ y : St, y = setA x482 33 ((fI x482 0 42) + 1) ((rA x482 33 (fI x482 0 42)) + (rA x482 22 l4)) := ⟨_, rfl⟩
        rw [← ex483] at hW
        have hw := hw x483 ex483
        refine lv_iconst (v := 0) hx hb d_Mod_fillPage_176 (by decide) ?_
        refine lv_istore (lv' := [(5, .int 0), (0, .ref (ad 0)), (1, .int l1), (2, .int l2), (3, .int l3), (4, .int l4)]) hx hb d_Mod_fillPage_177 hl (by decide) rfl (fun ls hl => ?_)
        obtain ⟨n, hw⟩ := hw
        exact tl_Mod_fillPage_179 hx hb hml hown hT hK hN hA hRc hRs hRf hRl hret hrec48 n l1 l2 l3 l4 0 x483 H locs ls  hw hW hS (lv_sub hl [1, 2, 3, 4, 5, 0] rfl)
      · have hw := hw.2 c481
        refine lv_goto (tgt := 239) hx hb d_Mod_fillPage_129 (by decide) ?_
        exact t_Mod_fillPage_239 hx hb hml hown hT hK hN hA hRc hRs hRf hRl hret hrec48 l1 l2 l3 l4 x480 H locs ls  hw hW hS (lv_sub hl [0, 1, 2, 3, 4] rfl)
    · have hw := hw.2 c477
      refine lv_goto (tgt := 239) hx hb d_Mod_fillPage_70 (by decide) ?_
      exact t_Mod_fillPage_239 hx hb hml hown hT hK hN hA hRc hRs hRf hRl hret hrec48 l1 l2 l3 l4 x H locs ls  hw hW hS (lv_sub hl [0, 1, 2, 3, 4] rfl)
set_option maxHeartbeats 4000000 in
set_option maxRecDepth 100000 in
theorem tl_Mod_fillPage_48 {p : Program} {l : Launch} {e : Env} {R : Room} {s : State} {m : MethodId} {args : Array Value} {below : List Frame} {meth : Method} {c : Code} {cells slots : Nat} {Q : State → Prop} {dC : Nat → ClassId} {dI : Nat → Nat → Nat} {cI cB cJ cZ : ClassId} {A : Nat → Prop} {ad : Nat → Nat} {post : St → Prop} (hx : p.tables.exec = Jvm.exec) (hb : c.code = b_Mod_fillPage) (hml : c.maxLocals = 6) (hown : s.vm.findClass R_Mod = some m.cls) (hT : ∀ w ∈ TG, w.before args s = true) (hK : va_K (dC, dI) CL (TY cI cB cJ cZ) s) (hN : NW s) (hA : ∀ q : Nat, s.heap.size ≤ q → A q) (hRc : cells ≤ R.cells) (hRs : slots ≤ R.slots) (hRf : 3 ≤ R.frames) (hRl : 69 ≤ R.locals) (hret : ∀ (x : St) (H : Heap) (locs : List Loc) (pc : Nat) (ls : Array Slot), decode b_Mod_fillPage pc = .ok (.return_, 1) → post x → Wd dC dI cI cB cJ cZ ad stM kcM 115 A x H → va_S A s.heap H locs → W p l e R s m args below meth c H locs cells slots Q (F0 m pc ls []))  : ∀ n : Nat, ∀ (l1 : Int32) (l2 : Int32) (l3 : Int32) (l4 : Int32) (x : St) (H : Heap) (locs : List Loc) (ls : Array Slot), wl_Mod_fillPage_48 post n l1 l2 l3 l4 x → Wd dC dI cI cB cJ cZ ad stM kcM 115 A x H → va_S A s.heap H locs → lv_has ls 6 [(0, .ref (ad 0)), (1, .int l1), (2, .int l2), (3, .int l3), (4, .int l4)] → W p l e R s m args below meth c H locs cells slots Q (F0 m 48 ls []) := by
  intro n
  induction n with
  | zero => intro l1 l2 l3 l4 x H locs ls  hw; exact hw.elim
  | succ n ih => intro l1 l2 l3 l4 x H locs ls  hw hW hS hl; exact t_Mod_fillPage_48 hx hb hml hown hT hK hN hA hRc hRs hRf hRl hret  ih l1 l2 l3 l4 x H locs ls  hw hW hS hl
set_option maxRecDepth 100000 in
set_option maxHeartbeats 4000000 in
set_option maxRecDepth 100000 in
theorem t_Mod_fillPage_e {p : Program} {l : Launch} {e : Env} {R : Room} {s : State} {m : MethodId} {args : Array Value} {below : List Frame} {meth : Method} {c : Code} {cells slots : Nat} {Q : State → Prop} {dC : Nat → ClassId} {dI : Nat → Nat → Nat} {cI cB cJ cZ : ClassId} {A : Nat → Prop} {ad : Nat → Nat} {post : St → Prop} (hx : p.tables.exec = Jvm.exec) (hb : c.code = b_Mod_fillPage) (hml : c.maxLocals = 6) (hown : s.vm.findClass R_Mod = some m.cls) (hT : ∀ w ∈ TG, w.before args s = true) (hK : va_K (dC, dI) CL (TY cI cB cJ cZ) s) (hN : NW s) (hA : ∀ q : Nat, s.heap.size ≤ q → A q) (hRc : cells ≤ R.cells) (hRs : slots ≤ R.slots) (hRf : 3 ≤ R.frames) (hRl : 69 ≤ R.locals) (hret : ∀ (x : St) (H : Heap) (locs : List Loc) (pc : Nat) (ls : Array Slot), decode b_Mod_fillPage pc = .ok (.return_, 1) → post x → Wd dC dI cI cB cJ cZ ad stM kcM 115 A x H → va_S A s.heap H locs → W p l e R s m args below meth c H locs cells slots Q (F0 m pc ls [])) : ∀ (l1 : Int32) (l2 : Int32) (l3 : Int32) (x : St) (H : Heap) (locs : List Loc) (ls : Array Slot), wp_Mod_fillPage post l1 l2 l3 x → Wd dC dI cI cB cJ cZ ad stM kcM 115 A x H → va_S A s.heap H locs → lv_has ls 6 [(0, .ref (ad 0)), (1, .int l1), (2, .int l2), (3, .int l3)] → W p l e R s m args below meth c H locs cells slots Q (F0 m 0 ls []) := by
  intro l1 l2 l3 x H locs ls  hw hW hS hl
  unfold wp_Mod_fillPage at hw
  refine lv_aload_n hx hb d_Mod_fillPage_0 rfl (lv_at hl 0 rfl) ?_
  refine lv_aload_n hx hb d_Mod_fillPage_1 rfl (lv_at hl 0 rfl) ?_
  refine lv_iconst (v := 0) hx hb d_Mod_fillPage_2 (by decide) ?_
  refine lv_iload_n hx hb d_Mod_fillPage_3 rfl (lv_at hl 1 rfl) ?_
  have hF := hW.free hS hA
  refine va_calli (va_runV (C := R_Mod) (As := [.int 0, .int l1]) (rest := [.ref (ad 0)]) ⟨hx, hb, hml, hown, hT⟩ (k_Mod_typeOf l dC dI cI cB cJ cZ ad H.size 0 l1 x  hw) ⟨callB_of 2 hT (gwt_in w_11_158) rfl rfl rfl (hT _ w_1_15) (hT _ w_11_155) (by decide +kernel) ⟨Nat.le_trans (Nat.le_of_ble_eq_true rfl) hRf, Nat.le_trans (Nat.le_of_ble_eq_true rfl) hRl⟩, hT _ w_11_157, hT _ ws_144⟩ ⟨PW.blind, va_recv hK hW.1 (ci := 12) (q0 := 0) rfl (pic_obj ko_0.1 ko_0.2 (by decide)), PW.at _ hW hK hN⟩ rfl rfl hl.1 rfl (lv_room (Nat.le_of_ble_eq_true rfl)) d_Mod_fillPage_4 ⟨hRc, hRs⟩) hS (fun q _ h => hF q h) hF (fun r485 x484 t H locs ht hvm hw hB hz1 hk1 hS => ?_)
  have hW := Wd.back hB ht hF
  clear hB ht hF hz1 hk1 hvm
  refine w_puti (ty := .int) (k := 38) (t := 12) (C := R_Mod) (T := F_Mod) (N := 167) hx hb hT hown hK hW hS ko_0.1 ko_0.2 (by decide) in_Mod t_Mod t_Mod_ok n_Mod rfl rfl (by decide) rfl fr_Mod_38 w_8_214 (by decide +kernel) rfl rfl d_Mod_fillPage_7 (fun H locs hW hS => ?_)
  obtain ⟨x486, ex486⟩ : ∃ y : St, y = setI x484 0 38 r485 := ⟨_, rfl⟩
  rw [← ex486] at hW
  have hw := hw x486 ex486
  refine lv_aload_n hx hb d_Mod_fillPage_10 rfl (lv_at hl 0 rfl) ?_
  refine lv_aload_n hx hb d_Mod_fillPage_11 rfl (lv_at hl 0 rfl) ?_
  refine lv_iconst (v := 0) hx hb d_Mod_fillPage_12 (by decide) ?_
  refine lv_iload_n hx hb d_Mod_fillPage_13 rfl (lv_at hl 1 rfl) ?_
  have hF := hW.free hS hA
  refine va_calli (va_runV (C := R_Mod) (As := [.int 0, .int l1]) (rest := [.ref (ad 0)]) ⟨hx, hb, hml, hown, hT⟩ (k_Mod_mostR l dC dI cI cB cJ cZ ad H.size 0 l1 x486  hw) ⟨callB_of 2 hT (gwt_in w_11_162) rfl rfl rfl (hT _ w_1_15) (hT _ w_11_159) (by decide +kernel) ⟨Nat.le_trans (Nat.le_of_ble_eq_true rfl) hRf, Nat.le_trans (Nat.le_of_ble_eq_true rfl) hRl⟩, hT _ w_11_161, hT _ ws_145⟩ ⟨PW.blind, va_recv hK hW.1 (ci := 12) (q0 := 0) rfl (pic_obj ko_0.1 ko_0.2 (by decide)), PW.at _ hW hK hN⟩ rfl rfl hl.1 rfl (lv_room (Nat.le_of_ble_eq_true rfl)) d_Mod_fillPage_14 ⟨hRc, hRs⟩) hS (fun q _ h => hF q h) hF (fun r488 x487 t H locs ht hvm hw hB hz1 hk1 hS => ?_)
  have hW := Wd.back hB ht hF
  clear hB ht hF hz1 hk1 hvm
  refine w_puti (ty := .int) (k := 39) (t := 12) (C := R_Mod) (T := F_Mod) (N := 167) hx hb hT hown hK hW hS ko_0.1 ko_0.2 (by decide) in_Mod t_Mod t_Mod_ok n_Mod rfl rfl (by decide) rfl fr_Mod_39 w_8_215 (by decide +kernel) rfl rfl d_Mod_fillPage_17 (fun H locs hW hS => ?_)
  obtain ⟨x489, ex489⟩ : ∃ y : St, y = setI x487 0 39 r488 := ⟨_, rfl⟩
  rw [← ex489] at hW
  have hw := hw x489 ex489
  refine lv_aload_n hx hb d_Mod_fillPage_20 rfl (lv_at hl 0 rfl) ?_
  refine lv_aload_n hx hb d_Mod_fillPage_21 rfl (lv_at hl 0 rfl) ?_
  refine lv_iconst (v := 0) hx hb d_Mod_fillPage_22 (by decide) ?_
  refine lv_iload_n hx hb d_Mod_fillPage_23 rfl (lv_at hl 1 rfl) ?_
  have hF := hW.free hS hA
  refine va_calli (va_runV (C := R_Mod) (As := [.int 0, .int l1]) (rest := [.ref (ad 0)]) ⟨hx, hb, hml, hown, hT⟩ (k_Mod_mostD l dC dI cI cB cJ cZ ad H.size 0 l1 x489  hw) ⟨callB_of 2 hT (gwt_in w_11_166) rfl rfl rfl (hT _ w_1_15) (hT _ w_11_163) (by decide +kernel) ⟨Nat.le_trans (Nat.le_of_ble_eq_true rfl) hRf, Nat.le_trans (Nat.le_of_ble_eq_true rfl) hRl⟩, hT _ w_11_165, hT _ ws_146⟩ ⟨PW.blind, va_recv hK hW.1 (ci := 12) (q0 := 0) rfl (pic_obj ko_0.1 ko_0.2 (by decide)), PW.at _ hW hK hN⟩ rfl rfl hl.1 rfl (lv_room (Nat.le_of_ble_eq_true rfl)) d_Mod_fillPage_24 ⟨hRc, hRs⟩) hS (fun q _ h => hF q h) hF (fun r491 x490 t H locs ht hvm hw hB hz1 hk1 hS => ?_)
  have hW := Wd.back hB ht hF
  clear hB ht hF hz1 hk1 hvm
  refine w_puti (ty := .int) (k := 40) (t := 12) (C := R_Mod) (T := F_Mod) (N := 167) hx hb hT hown hK hW hS ko_0.1 ko_0.2 (by decide) in_Mod t_Mod t_Mod_ok n_Mod rfl rfl (by decide) rfl fr_Mod_40 w_8_216 (by decide +kernel) rfl rfl d_Mod_fillPage_27 (fun H locs hW hS => ?_)
  obtain ⟨x492, ex492⟩ : ∃ y : St, y = setI x490 0 40 r491 := ⟨_, rfl⟩
  rw [← ex492] at hW
  have hw := hw x492 ex492
  refine lv_aload_n hx hb d_Mod_fillPage_30 rfl (lv_at hl 0 rfl) ?_
  refine lv_iconst (v := 0) hx hb d_Mod_fillPage_31 (by decide) ?_
  refine w_puti (ty := .int) (k := 41) (t := 12) (C := R_Mod) (T := F_Mod) (N := 167) hx hb hT hown hK hW hS ko_0.1 ko_0.2 (by decide) in_Mod t_Mod t_Mod_ok n_Mod rfl rfl (by decide) rfl fr_Mod_41 w_8_217 (by decide +kernel) rfl rfl d_Mod_fillPage_32 (fun H locs hW hS => ?_)
  obtain ⟨x493, ex493⟩ : ∃ y : St, y = setI x492 0 41 0 := ⟨_, rfl⟩
  rw [← ex493] at hW
  have hw := hw x493 ex493
  refine lv_aload_n hx hb d_Mod_fillPage_35 rfl (lv_at hl 0 rfl) ?_
  refine lv_iconst (v := 0) hx hb d_Mod_fillPage_36 (by decide) ?_
  refine w_puti (ty := .int) (k := 42) (t := 12) (C := R_Mod) (T := F_Mod) (N := 167) hx hb hT hown hK hW hS ko_0.1 ko_0.2 (by decide) in_Mod t_Mod t_Mod_ok n_Mod rfl rfl (by decide) rfl fr_Mod_42 w_8_218 (by decide +kernel) rfl rfl d_Mod_fillPage_37 (fun H locs hW hS => ?_)
  obtain ⟨x494, ex494⟩ : ∃ y : St, y = setI x493 0 42 0 := ⟨_, rfl⟩
  rw [← ex494] at hW
  have hw := hw x494 ex494
  refine lv_aload_n hx hb d_Mod_fillPage_40 rfl (lv_at hl 0 rfl) ?_
  refine w_getf (q := 23) (k := 31) (t := 12) (C := R_Mod) (T := F_Mod) (N := 167) hx hb hT hown hK hW ko_0.1 ko_0.2 (by decide) in_Mod rfl rfl (by decide) rfl fr_Mod_31 w_8_207 d_Mod_fillPage_41 rfl ?_
  refine lv_iload_n hx hb d_Mod_fillPage_44 rfl (lv_at hl 2 rfl) ?_
  obtain ⟨hi, hw⟩ := hw
  refine w_iald (o := 23) hx hb hK hW ko_23.1 ko_23.2 hi d_Mod_fillPage_45 ?_
  refine lv_topi (fun v495 ev495 => ?_)
  have hw := hw v495 ev495
  refine lv_istore (lv' := [(4, .int v495), (0, .ref (ad 0)), (1, .int l1), (2, .int l2), (3, .int l3)]) hx hb d_Mod_fillPage_46 hl (by decide) rfl (fun ls hl => ?_)
  obtain ⟨n, hw⟩ := hw
  exact tl_Mod_fillPage_48 hx hb hml hown hT hK hN hA hRc hRs hRf hRl hret  n l1 l2 l3 v495 x494 H locs ls  hw hW hS (lv_sub hl [1, 2, 3, 4, 0] rfl)
set_option maxHeartbeats 4000000 in
set_option maxRecDepth 100000 in
theorem k_Mod_fillPage (l : Launch) (dC : Nat → ClassId) (dI : Nat → Nat → Nat) (cI cB cJ cZ : ClassId) (ad : Nat → Nat) (sz : Nat) (l1 : Int32) (l2 : Int32) (l3 : Int32) (x : St) {post : St → Prop} (hw : wp_Mod_fillPage post l1 l2 l3 x) : Met l y_Mod_fillPage (wsOf y_Mod_fillPage b_Mod_fillPage 6 (none)) ({ frames := 3, cells := 0, slots := 0, locals := 69 }) (va_Pc [.ref (ad 0), .int l1, .int l2, .int l3] (PW dC dI cI cB cJ cZ ad stM kcM 115 sz x)) (va_Qv (fun (y : St) => post y) (fun y t => Wd dC dI cI cB cJ cZ ad stM kcM 115 (va_A (pic ad stM kcM 115 cI cB cJ cZ x) sz) y t.heap) (va_A (pic ad stM kcM 115 cI cB cJ cZ x) sz)) 0 0 (va_A (pic ad stM kcM 115 cI cB cJ cZ x) sz) := by
  refine Met.ofW (cc := b_Mod_fillPage) (maxL := 6) (ret := none) (by decide) rfl ?_
  intro p e s m args below meth c s₁ B hml hv
  obtain ⟨rfl, hsz, hW0, hK, hN⟩ := hv
  have hx := B.exec
  have hb := B.bytes
  have hr := B.returns
  have hts := atoms_spec B.pre
  have hT : ∀ w ∈ TG, w.before _ s = true := fun w h => hts w (List.mem_cons_of_mem _ h)
  have hown : s.vm.findClass R_Mod = some m.cls := findClass_of_methodNamed B.named
  have hlocks := B.notSynchronized
  subst hsz
  have hW : Wd dC dI cI cB cJ cZ ad stM kcM 115 (va_A (pic ad stM kcM 115 cI cB cJ cZ x) s.heap.size) x s.heap := ⟨hW0.1, hW0.2.1.self (sz := s.heap.size), hW0.2.2⟩
  generalize hAe : va_A (pic ad stM kcM 115 cI cB cJ cZ x) s.heap.size = A at hW ⊢
  have hA : ∀ q : Nat, s.heap.size ≤ q → A q := fun q h => by rw [← hAe]; exact Or.inr h
  have hS : va_S A s.heap s.heap [] := va_S.rf
  have hl := lv_entry ([.ref (ad 0), .int l1, .int l2, .int l3]) (n := 6) (Nat.le_of_ble_eq_true rfl)
  rw [lg_entry_eq]
  generalize (lg_sl ([.ref (ad 0), .int l1, .int l2, .int l3]) ++ List.replicate (6 - (lg_sl ([.ref (ad 0), .int l1, .int l2, .int l3])).length) Slot.unset).toArray = ls at hl ⊢
  have hl : lv_has ls 6 [(0, .ref (ad 0)), (1, .int l1), (2, .int l2), (3, .int l3)] := hl
  exact t_Mod_fillPage_e hx hb hml hown hT hK hN hA (Nat.le_refl 0) (Nat.le_refl 0) (Nat.le_refl 3) (Nat.le_refl 69) (fun x H locs pc ls hd hp hW hS => W.vret hx hb hr (fun t ht hM => ⟨⟨x, rfl, hp, Wd.back hW ht.symm (fun _ z => z)⟩, hS.F ht⟩) hS.2.2 hd hlocks)  l1 l2 l3 x _ _ ls  hw hW hS hl
set_option maxRecDepth 100000 in
set_option maxHeartbeats 4000000 in
set_option maxRecDepth 100000 in
theorem t_Mod_codings_e {p : Program} {l : Launch} {e : Env} {R : Room} {s : State} {m : MethodId} {args : Array Value} {below : List Frame} {meth : Method} {c : Code} {cells slots : Nat} {Q : State → Prop} {dC : Nat → ClassId} {dI : Nat → Nat → Nat} {cI cB cJ cZ : ClassId} {A : Nat → Prop} {ad : Nat → Nat} {post : Int32 → St → Prop} (hx : p.tables.exec = Jvm.exec) (hb : c.code = b_Mod_codings) (hml : c.maxLocals = 1) (hown : s.vm.findClass R_Mod = some m.cls) (hT : ∀ w ∈ TG, w.before args s = true) (hK : va_K (dC, dI) CL (TY cI cB cJ cZ) s) (hN : NW s) (hA : ∀ q : Nat, s.heap.size ≤ q → A q) (hRc : cells ≤ R.cells) (hRs : slots ≤ R.slots) (hRf : 0 ≤ R.frames) (hRl : 0 ≤ R.locals) (hret : ∀ (r : Int32) (x : St) (H : Heap) (locs : List Loc) (pc : Nat) (ls : Array Slot), decode b_Mod_codings pc = .ok (.ireturn, 1) → post r x → Wd dC dI cI cB cJ cZ ad stM kcM 115 A x H → va_S A s.heap H locs → W p l e R s m args below meth c H locs cells slots Q (F0 m pc ls [.int r])) : ∀  (x : St) (H : Heap) (locs : List Loc) (ls : Array Slot), wp_Mod_codings post  x → Wd dC dI cI cB cJ cZ ad stM kcM 115 A x H → va_S A s.heap H locs → lv_has ls 1 [(0, .ref (ad 0))] → W p l e R s m args below meth c H locs cells slots Q (F0 m 0 ls []) := by
  intro  x H locs ls  hw hW hS hl
  unfold wp_Mod_codings at hw
  refine lv_aload_n hx hb d_Mod_codings_0 rfl (lv_at hl 0 rfl) ?_
  refine w_geti (k := 38) (t := 12) (C := R_Mod) (T := F_Mod) (N := 167) hx hb hT hown hK hW ko_0.1 ko_0.2 (by decide) in_Mod rfl rfl (by decide) rfl fr_Mod_38 w_8_214 d_Mod_codings_1 ?_
  refine lv_if_ne (tgt := 11) hx hb d_Mod_codings_4 (by decide) (fun c496 => ?_) (fun c496 => ?_)
  · have hw := hw.1 c496
    refine lv_aload_n hx hb d_Mod_codings_11 rfl (lv_at hl 0 rfl) ?_
    refine w_geti (k := 38) (t := 12) (C := R_Mod) (T := F_Mod) (N := 167) hx hb hT hown hK hW ko_0.1 ko_0.2 (by decide) in_Mod rfl rfl (by decide) rfl fr_Mod_38 w_8_214 d_Mod_codings_12 ?_
    refine lv_iconst (v := 3) hx hb d_Mod_codings_15 (by decide) ?_
    refine lv_icmp_ne (tgt := 23) hx hb d_Mod_codings_16 (by decide) (fun c497 => ?_) (fun c497 => ?_)
    · have hw := hw.1 c497
      refine lv_iconst (v := 3) hx hb d_Mod_codings_23 (by decide) ?_
      exact hret 3 x H locs 24 ls d_Mod_codings_24 hw hW hS
    · have hw := hw.2 c497
      refine lv_iconst (v := 4) hx hb d_Mod_codings_19 (by decide) ?_
      refine lv_goto (tgt := 24) hx hb d_Mod_codings_20 (by decide) ?_
      exact hret 4 x H locs 24 ls d_Mod_codings_24 hw hW hS
  · have hw := hw.2 c496
    refine lv_iconst (v := 2) hx hb d_Mod_codings_7 (by decide) ?_
    refine lv_goto (tgt := 24) hx hb d_Mod_codings_8 (by decide) ?_
    exact hret 2 x H locs 24 ls d_Mod_codings_24 hw hW hS
set_option maxHeartbeats 4000000 in
set_option maxRecDepth 100000 in
theorem k_Mod_codings (l : Launch) (dC : Nat → ClassId) (dI : Nat → Nat → Nat) (cI cB cJ cZ : ClassId) (ad : Nat → Nat) (sz : Nat)  (x : St) {post : Int32 → St → Prop} (hw : wp_Mod_codings post  x) : Met l y_Mod_codings (wsOf y_Mod_codings b_Mod_codings 1 (some (.int))) ({ frames := 0, cells := 0, slots := 0, locals := 0 }) (va_Pc [.ref (ad 0)] (PW dC dI cI cB cJ cZ ad stM kcM 115 sz x)) (va_Qi (fun (r : Int32) (y : St) => post r y) (fun y t => Wd dC dI cI cB cJ cZ ad stM kcM 115 (va_A (pic ad stM kcM 115 cI cB cJ cZ x) sz) y t.heap) (va_A (pic ad stM kcM 115 cI cB cJ cZ x) sz)) 0 0 (va_A (pic ad stM kcM 115 cI cB cJ cZ x) sz) := by
  refine Met.ofW (cc := b_Mod_codings) (maxL := 1) (ret := some (.int)) (by decide) rfl ?_
  intro p e s m args below meth c s₁ B hml hv
  obtain ⟨rfl, hsz, hW0, hK, hN⟩ := hv
  have hx := B.exec
  have hb := B.bytes
  have hr := B.returns
  have hts := atoms_spec B.pre
  have hT : ∀ w ∈ TG, w.before _ s = true := fun w h => hts w (List.mem_cons_of_mem _ h)
  have hown : s.vm.findClass R_Mod = some m.cls := findClass_of_methodNamed B.named
  have hlocks := B.notSynchronized
  subst hsz
  have hW : Wd dC dI cI cB cJ cZ ad stM kcM 115 (va_A (pic ad stM kcM 115 cI cB cJ cZ x) s.heap.size) x s.heap := ⟨hW0.1, hW0.2.1.self (sz := s.heap.size), hW0.2.2⟩
  generalize hAe : va_A (pic ad stM kcM 115 cI cB cJ cZ x) s.heap.size = A at hW ⊢
  have hA : ∀ q : Nat, s.heap.size ≤ q → A q := fun q h => by rw [← hAe]; exact Or.inr h
  have hS : va_S A s.heap s.heap [] := va_S.rf
  have hl := lv_entry ([.ref (ad 0)]) (n := 1) (Nat.le_of_ble_eq_true rfl)
  rw [lg_entry_eq]
  generalize (lg_sl ([.ref (ad 0)]) ++ List.replicate (1 - (lg_sl ([.ref (ad 0)])).length) Slot.unset).toArray = ls at hl ⊢
  have hl : lv_has ls 1 [(0, .ref (ad 0))] := hl
  exact t_Mod_codings_e hx hb hml hown hT hK hN hA (Nat.le_refl 0) (Nat.le_refl 0) (Nat.le_refl 0) (Nat.le_refl 0) (fun r x H locs pc ls hd hp hW hS => W.iret (v := r) hx hb hr (fun t ht hM => ⟨⟨r, x, rfl, hp, Wd.back hW ht.symm (fun _ z => z)⟩, hS.F ht⟩) hS.2.2 hd hlocks)   x _ _ ls  hw hW hS hl
set_option maxRecDepth 100000 in
set_option maxHeartbeats 4000000 in
set_option maxRecDepth 100000 in
theorem t_Mod_alike_22 {p : Program} {l : Launch} {e : Env} {R : Room} {s : State} {m : MethodId} {args : Array Value} {below : List Frame} {meth : Method} {c : Code} {cells slots : Nat} {Q : State → Prop} {dC : Nat → ClassId} {dI : Nat → Nat → Nat} {cI cB cJ cZ : ClassId} {A : Nat → Prop} {ad : Nat → Nat} {post : Int32 → St → Prop} (hx : p.tables.exec = Jvm.exec) (hb : c.code = b_Mod_alike) (hml : c.maxLocals = 4) (hown : s.vm.findClass R_Mod = some m.cls) (hT : ∀ w ∈ TG, w.before args s = true) (hK : va_K (dC, dI) CL (TY cI cB cJ cZ) s) (hN : NW s) (hA : ∀ q : Nat, s.heap.size ≤ q → A q) (hRc : cells ≤ R.cells) (hRs : slots ≤ R.slots) (hRf : 0 ≤ R.frames) (hRl : 0 ≤ R.locals) (hret : ∀ (r : Int32) (x : St) (H : Heap) (locs : List Loc) (pc : Nat) (ls : Array Slot), decode b_Mod_alike pc = .ok (.ireturn, 1) → post r x → Wd dC dI cI cB cJ cZ ad stM kcM 115 A x H → va_S A s.heap H locs → W p l e R s m args below meth c H locs cells slots Q (F0 m pc ls [.int r]))  : ∀ (l0 : Nat) (l1 : Int32) (l2 : Int32) (l3 : Int32) (x : St) (H : Heap) (locs : List Loc) (ls : Array Slot), (l0 < 115 ∧ kcM l0 = 20) → j_Mod_alike_22 post l0 l1 l2 l3 x → Wd dC dI cI cB cJ cZ ad stM kcM 115 A x H → va_S A s.heap H locs → lv_has ls 4 [(0, .ref (ad l0)), (1, .int l1), (2, .int l2), (3, .int l3)] → W p l e R s m args below meth c H locs cells slots Q (F0 m 22 ls []) := by
  intro l0 l1 l2 l3 x H locs ls fl0 hw hW hS hl
  unfold j_Mod_alike_22 at hw
  refine lv_iload_n hx hb d_Mod_alike_22 rfl (lv_at hl 3 rfl) ?_
  refine lv_iload_n hx hb d_Mod_alike_23 rfl (lv_at hl 1 rfl) ?_
  refine lv_isub hx hb d_Mod_alike_24 ?_
  exact hret (l3 - l1) x H locs 25 ls d_Mod_alike_25 hw hW hS
set_option maxRecDepth 100000 in
set_option maxHeartbeats 4000000 in
set_option maxRecDepth 100000 in
theorem t_Mod_alike_2 {p : Program} {l : Launch} {e : Env} {R : Room} {s : State} {m : MethodId} {args : Array Value} {below : List Frame} {meth : Method} {c : Code} {cells slots : Nat} {Q : State → Prop} {dC : Nat → ClassId} {dI : Nat → Nat → Nat} {cI cB cJ cZ : ClassId} {A : Nat → Prop} {ad : Nat → Nat} {post : Int32 → St → Prop} {rec2 : Nat → Int32 → Int32 → Int32 → St → Prop} (hx : p.tables.exec = Jvm.exec) (hb : c.code = b_Mod_alike) (hml : c.maxLocals = 4) (hown : s.vm.findClass R_Mod = some m.cls) (hT : ∀ w ∈ TG, w.before args s = true) (hK : va_K (dC, dI) CL (TY cI cB cJ cZ) s) (hN : NW s) (hA : ∀ q : Nat, s.heap.size ≤ q → A q) (hRc : cells ≤ R.cells) (hRs : slots ≤ R.slots) (hRf : 0 ≤ R.frames) (hRl : 0 ≤ R.locals) (hret : ∀ (r : Int32) (x : St) (H : Heap) (locs : List Loc) (pc : Nat) (ls : Array Slot), decode b_Mod_alike pc = .ok (.ireturn, 1) → post r x → Wd dC dI cI cB cJ cZ ad stM kcM 115 A x H → va_S A s.heap H locs → W p l e R s m args below meth c H locs cells slots Q (F0 m pc ls [.int r])) (hrec2 : ∀ (l0 : Nat) (l1 : Int32) (l2 : Int32) (l3 : Int32) (x : St) (H : Heap) (locs : List Loc) (ls : Array Slot), (l0 < 115 ∧ kcM l0 = 20) → rec2 l0 l1 l2 l3 x → Wd dC dI cI cB cJ cZ ad stM kcM 115 A x H → va_S A s.heap H locs → lv_has ls 4 [(0, .ref (ad l0)), (1, .int l1), (2, .int l2), (3, .int l3)] → W p l e R s m args below meth c H locs cells slots Q (F0 m 2 ls [])) : ∀ (l0 : Nat) (l1 : Int32) (l2 : Int32) (l3 : Int32) (x : St) (H : Heap) (locs : List Loc) (ls : Array Slot), (l0 < 115 ∧ kcM l0 = 20) → j_Mod_alike_2 post rec2 l0 l1 l2 l3 x → Wd dC dI cI cB cJ cZ ad stM kcM 115 A x H → va_S A s.heap H locs → lv_has ls 4 [(0, .ref (ad l0)), (1, .int l1), (2, .int l2), (3, .int l3)] → W p l e R s m args below meth c H locs cells slots Q (F0 m 2 ls []) := by
  intro l0 l1 l2 l3 x H locs ls fl0 hw hW hS hl
  unfold j_Mod_alike_2 at hw
  refine lv_iload_n hx hb d_Mod_alike_2 rfl (lv_at hl 3 rfl) ?_
  refine lv_iload_n hx hb d_Mod_alike_3 rfl (lv_at hl 2 rfl) ?_
  refine lv_icmp_ge (tgt := 22) hx hb d_Mod_alike_4 (by decide) (fun c498 => ?_) (fun c498 => ?_)
  · have hw := hw.1 c498
    exact t_Mod_alike_22 hx hb hml hown hT hK hN hA hRc hRs hRf hRl hret  l0 l1 l2 l3 x H locs ls fl0 hw hW hS (lv_sub hl [0, 1, 2, 3] rfl)
  · have hw := hw.2 c498
    refine lv_aload_n hx hb d_Mod_alike_7 rfl (lv_at hl 0 rfl) ?_
    refine lv_iload_n hx hb d_Mod_alike_8 rfl (lv_at hl 3 rfl) ?_
    obtain ⟨hi, hw⟩ := hw
    refine w_iald (o := l0) hx hb hK hW fl0.1 fl0.2 hi d_Mod_alike_9 ?_
    refine lv_aload_n hx hb d_Mod_alike_10 rfl (lv_at hl 0 rfl) ?_
    refine lv_iload_n hx hb d_Mod_alike_11 rfl (lv_at hl 1 rfl) ?_
    obtain ⟨hi, hw⟩ := hw
    refine w_iald (o := l0) hx hb hK hW fl0.1 fl0.2 hi d_Mod_alike_12 ?_
    refine lv_icmp_ne (tgt := 22) hx hb d_Mod_alike_13 (by decide) (fun c499 => ?_) (fun c499 => ?_)
    · have hw := hw.1 c499
      exact t_Mod_alike_22 hx hb hml hown hT hK hN hA hRc hRs hRf hRl hret  l0 l1 l2 l3 x H locs ls fl0 hw hW hS (lv_sub hl [0, 1, 2, 3] rfl)
    · have hw := hw.2 c499
      refine lv_iinc (v := (l3 + 1)) (lv' := [(3, .int (l3 + 1)), (0, .ref (ad l0)), (1, .int l1), (2, .int l2)]) hx hb d_Mod_alike_16 hl (k := 3) rfl rfl (by decide) rfl (fun ls hl => ?_)
      refine lv_goto (tgt := 2) hx hb d_Mod_alike_19 (by decide) ?_
      exact hrec2 l0 l1 l2 (l3 + 1) x H locs ls fl0 hw hW hS (lv_sub hl [1, 2, 3, 0] rfl)
set_option maxHeartbeats 4000000 in
set_option maxRecDepth 100000 in
theorem tl_Mod_alike_2 {p : Program} {l : Launch} {e : Env} {R : Room} {s : State} {m : MethodId} {args : Array Value} {below : List Frame} {meth : Method} {c : Code} {cells slots : Nat} {Q : State → Prop} {dC : Nat → ClassId} {dI : Nat → Nat → Nat} {cI cB cJ cZ : ClassId} {A : Nat → Prop} {ad : Nat → Nat} {post : Int32 → St → Prop} (hx : p.tables.exec = Jvm.exec) (hb : c.code = b_Mod_alike) (hml : c.maxLocals = 4) (hown : s.vm.findClass R_Mod = some m.cls) (hT : ∀ w ∈ TG, w.before args s = true) (hK : va_K (dC, dI) CL (TY cI cB cJ cZ) s) (hN : NW s) (hA : ∀ q : Nat, s.heap.size ≤ q → A q) (hRc : cells ≤ R.cells) (hRs : slots ≤ R.slots) (hRf : 0 ≤ R.frames) (hRl : 0 ≤ R.locals) (hret : ∀ (r : Int32) (x : St) (H : Heap) (locs : List Loc) (pc : Nat) (ls : Array Slot), decode b_Mod_alike pc = .ok (.ireturn, 1) → post r x → Wd dC dI cI cB cJ cZ ad stM kcM 115 A x H → va_S A s.heap H locs → W p l e R s m args below meth c H locs cells slots Q (F0 m pc ls [.int r]))  : ∀ n : Nat, ∀ (l0 : Nat) (l1 : Int32) (l2 : Int32) (l3 : Int32) (x : St) (H : Heap) (locs : List Loc) (ls : Array Slot), (l0 < 115 ∧ kcM l0 = 20) → wl_Mod_alike_2 post n l0 l1 l2 l3 x → Wd dC dI cI cB cJ cZ ad stM kcM 115 A x H → va_S A s.heap H locs → lv_has ls 4 [(0, .ref (ad l0)), (1, .int l1), (2, .int l2), (3, .int l3)] → W p l e R s m args below meth c H locs cells slots Q (F0 m 2 ls []) := by
  intro n
  induction n with
  | zero => intro l0 l1 l2 l3 x H locs ls fl0 hw; exact hw.elim
  | succ n ih => intro l0 l1 l2 l3 x H locs ls fl0 hw hW hS hl; exact t_Mod_alike_2 hx hb hml hown hT hK hN hA hRc hRs hRf hRl hret  ih l0 l1 l2 l3 x H locs ls fl0 hw hW hS hl
set_option maxRecDepth 100000 in
set_option maxHeartbeats 4000000 in
set_option maxRecDepth 100000 in
theorem t_Mod_alike_e {p : Program} {l : Launch} {e : Env} {R : Room} {s : State} {m : MethodId} {args : Array Value} {below : List Frame} {meth : Method} {c : Code} {cells slots : Nat} {Q : State → Prop} {dC : Nat → ClassId} {dI : Nat → Nat → Nat} {cI cB cJ cZ : ClassId} {A : Nat → Prop} {ad : Nat → Nat} {post : Int32 → St → Prop} (hx : p.tables.exec = Jvm.exec) (hb : c.code = b_Mod_alike) (hml : c.maxLocals = 4) (hown : s.vm.findClass R_Mod = some m.cls) (hT : ∀ w ∈ TG, w.before args s = true) (hK : va_K (dC, dI) CL (TY cI cB cJ cZ) s) (hN : NW s) (hA : ∀ q : Nat, s.heap.size ≤ q → A q) (hRc : cells ≤ R.cells) (hRs : slots ≤ R.slots) (hRf : 0 ≤ R.frames) (hRl : 0 ≤ R.locals) (hret : ∀ (r : Int32) (x : St) (H : Heap) (locs : List Loc) (pc : Nat) (ls : Array Slot), decode b_Mod_alike pc = .ok (.ireturn, 1) → post r x → Wd dC dI cI cB cJ cZ ad stM kcM 115 A x H → va_S A s.heap H locs → W p l e R s m args below meth c H locs cells slots Q (F0 m pc ls [.int r])) : ∀ (l0 : Nat) (l1 : Int32) (l2 : Int32) (x : St) (H : Heap) (locs : List Loc) (ls : Array Slot), (l0 < 115 ∧ kcM l0 = 20) → wp_Mod_alike post l0 l1 l2 x → Wd dC dI cI cB cJ cZ ad stM kcM 115 A x H → va_S A s.heap H locs → lv_has ls 4 [(0, .ref (ad l0)), (1, .int l1), (2, .int l2)] → W p l e R s m args below meth c H locs cells slots Q (F0 m 0 ls []) := by
  intro l0 l1 l2 x H locs ls fl0 hw hW hS hl
  unfold wp_Mod_alike at hw
  refine lv_iload_n hx hb d_Mod_alike_0 rfl (lv_at hl 1 rfl) ?_
  refine lv_istore_n (lv' := [(3, .int l1), (0, .ref (ad l0)), (1, .int l1), (2, .int l2)]) hx hb d_Mod_alike_1 rfl hl (by decide) rfl (fun ls hl => ?_)
  obtain ⟨n, hw⟩ := hw
  exact tl_Mod_alike_2 hx hb hml hown hT hK hN hA hRc hRs hRf hRl hret  n l0 l1 l2 l1 x H locs ls fl0 hw hW hS (lv_sub hl [1, 2, 3, 0] rfl)
set_option maxHeartbeats 4000000 in
set_option maxRecDepth 100000 in
theorem k_Mod_alike (l : Launch) (dC : Nat → ClassId) (dI : Nat → Nat → Nat) (cI cB cJ cZ : ClassId) (ad : Nat → Nat) (sz : Nat) (l0 : Nat) (l1 : Int32) (l2 : Int32) (x : St) (fl0 : l0 < 115 ∧ kcM l0 = 20) {post : Int32 → St → Prop} (hw : wp_Mod_alike post l0 l1 l2 x) : Met l y_Mod_alike (wsOf y_Mod_alike b_Mod_alike 4 (some (.int))) ({ frames := 0, cells := 0, slots := 0, locals := 0 }) (va_Pc [.ref (ad l0), .int l1, .int l2] (PW dC dI cI cB cJ cZ ad stM kcM 115 sz x)) (va_Qi (fun (r : Int32) (y : St) => post r y) (fun y t => Wd dC dI cI cB cJ cZ ad stM kcM 115 (va_A (pic ad stM kcM 115 cI cB cJ cZ x) sz) y t.heap) (va_A (pic ad stM kcM 115 cI cB cJ cZ x) sz)) 0 0 (va_A (pic ad stM kcM 115 cI cB cJ cZ x) sz) := by
  refine Met.ofW (cc := b_Mod_alike) (maxL := 4) (ret := some (.int)) (by decide) rfl ?_
  intro p e s m args below meth c s₁ B hml hv
  obtain ⟨rfl, hsz, hW0, hK, hN⟩ := hv
  have hx := B.exec
  have hb := B.bytes
  have hr := B.returns
  have hts := atoms_spec B.pre
  have hT : ∀ w ∈ TG, w.before _ s = true := fun w h => hts w (List.mem_cons_of_mem _ h)
  have hown : s.vm.findClass R_Mod = some m.cls := findClass_of_methodNamed B.named
  have hlocks := B.notSynchronized
  subst hsz
  have hW : Wd dC dI cI cB cJ cZ ad stM kcM 115 (va_A (pic ad stM kcM 115 cI cB cJ cZ x) s.heap.size) x s.heap := ⟨hW0.1, hW0.2.1.self (sz := s.heap.size), hW0.2.2⟩
  generalize hAe : va_A (pic ad stM kcM 115 cI cB cJ cZ x) s.heap.size = A at hW ⊢
  have hA : ∀ q : Nat, s.heap.size ≤ q → A q := fun q h => by rw [← hAe]; exact Or.inr h
  have hS : va_S A s.heap s.heap [] := va_S.rf
  have hl := lv_entry ([.ref (ad l0), .int l1, .int l2]) (n := 4) (Nat.le_of_ble_eq_true rfl)
  rw [lg_entry_eq]
  generalize (lg_sl ([.ref (ad l0), .int l1, .int l2]) ++ List.replicate (4 - (lg_sl ([.ref (ad l0), .int l1, .int l2])).length) Slot.unset).toArray = ls at hl ⊢
  have hl : lv_has ls 4 [(0, .ref (ad l0)), (1, .int l1), (2, .int l2)] := hl
  exact t_Mod_alike_e hx hb hml hown hT hK hN hA (Nat.le_refl 0) (Nat.le_refl 0) (Nat.le_refl 0) (Nat.le_refl 0) (fun r x H locs pc ls hd hp hW hS => W.iret (v := r) hx hb hr (fun t ht hM => ⟨⟨r, x, rfl, hp, Wd.back hW ht.symm (fun _ z => z)⟩, hS.F ht⟩) hS.2.2 hd hlocks)  l0 l1 l2 x _ _ ls fl0 hw hW hS hl
set_option maxRecDepth 100000 in
set_option maxHeartbeats 4000000 in
set_option maxRecDepth 100000 in
theorem t_Mod_put_26 {p : Program} {l : Launch} {e : Env} {R : Room} {s : State} {m : MethodId} {args : Array Value} {below : List Frame} {meth : Method} {c : Code} {cells slots : Nat} {Q : State → Prop} {dC : Nat → ClassId} {dI : Nat → Nat → Nat} {cI cB cJ cZ : ClassId} {A : Nat → Prop} {ad : Nat → Nat} {post : St → Prop} (hx : p.tables.exec = Jvm.exec) (hb : c.code = b_Mod_put) (hml : c.maxLocals = 2) (hown : s.vm.findClass R_Mod = some m.cls) (hT : ∀ w ∈ TG, w.before args s = true) (hK : va_K (dC, dI) CL (TY cI cB cJ cZ) s) (hN : NW s) (hA : ∀ q : Nat, s.heap.size ≤ q → A q) (hRc : cells ≤ R.cells) (hRs : slots ≤ R.slots) (hRf : 0 ≤ R.frames) (hRl : 0 ≤ R.locals) (hret : ∀ (x : St) (H : Heap) (locs : List Loc) (pc : Nat) (ls : Array Slot), decode b_Mod_put pc = .ok (.return_, 1) → post x → Wd dC dI cI cB cJ cZ ad stM kcM 115 A x H → va_S A s.heap H locs → W p l e R s m args below meth c H locs cells slots Q (F0 m pc ls []))  : ∀ (l1 : Int32) (x : St) (H : Heap) (locs : List Loc) (ls : Array Slot), j_Mod_put_26 post l1 x → Wd dC dI cI cB cJ cZ ad stM kcM 115 A x H → va_S A s.heap H locs → lv_has ls 2 [(0, .ref (ad 0)), (1, .int l1)] → W p l e R s m args below meth c H locs cells slots Q (F0 m 26 ls []) := by
  intro l1 x H locs ls  hw hW hS hl
  unfold j_Mod_put_26 at hw
  refine lv_aload_n hx hb d_Mod_put_26 rfl (lv_at hl 0 rfl) ?_
  refine lv_dup hx hb d_Mod_put_27 rfl ?_
  refine w_geti (k := 64) (t := 12) (C := R_Mod) (T := F_Mod) (N := 167) hx hb hT hown hK hW ko_0.1 ko_0.2 (by decide) in_Mod rfl rfl (by decide) rfl fr_Mod_64 w_9_0 d_Mod_put_28 ?_
  refine lv_iconst (v := 1) hx hb d_Mod_put_31 (by decide) ?_
  refine lv_iadd hx hb d_Mod_put_32 ?_
  refine w_puti (ty := .int) (k := 64) (t := 12) (C := R_Mod) (T := F_Mod) (N := 167) hx hb hT hown hK hW hS ko_0.1 ko_0.2 (by decide) in_Mod t_Mod t_Mod_ok n_Mod rfl rfl (by decide) rfl fr_Mod_64 w_9_0 (by decide +kernel) rfl rfl d_Mod_put_33 (fun H locs hW hS => ?_)
  obtain ⟨x500, ex500⟩ : ∃ y : St, y = setI x 0 64 ((fI x 0 64) + 1) := ⟨_, rfl⟩
  rw [← ex500] at hW
  have hw := hw x500 ex500
  exact hret x500 H locs 36 ls d_Mod_put_36 hw hW hS
set_option maxRecDepth 100000 in
set_option maxHeartbeats 4000000 in
set_option maxRecDepth 100000 in
theorem t_Mod_put_e {p : Program} {l : Launch} {e : Env} {R : Room} {s : State} {m : MethodId} {args : Array Value} {below : List Frame} {meth : Method} {c : Code} {cells slots : Nat} {Q : State → Prop} {dC : Nat → ClassId} {dI : Nat → Nat → Nat} {cI cB cJ cZ : ClassId} {A : Nat → Prop} {ad : Nat → Nat} {post : St → Prop} (hx : p.tables.exec = Jvm.exec) (hb : c.code = b_Mod_put) (hml : c.maxLocals = 2) (hown : s.vm.findClass R_Mod = some m.cls) (hT : ∀ w ∈ TG, w.before args s = true) (hK : va_K (dC, dI) CL (TY cI cB cJ cZ) s) (hN : NW s) (hA : ∀ q : Nat, s.heap.size ≤ q → A q) (hRc : cells ≤ R.cells) (hRs : slots ≤ R.slots) (hRf : 0 ≤ R.frames) (hRl : 0 ≤ R.locals) (hret : ∀ (x : St) (H : Heap) (locs : List Loc) (pc : Nat) (ls : Array Slot), decode b_Mod_put pc = .ok (.return_, 1) → post x → Wd dC dI cI cB cJ cZ ad stM kcM 115 A x H → va_S A s.heap H locs → W p l e R s m args below meth c H locs cells slots Q (F0 m pc ls [])) : ∀ (l1 : Int32) (x : St) (H : Heap) (locs : List Loc) (ls : Array Slot), wp_Mod_put post l1 x → Wd dC dI cI cB cJ cZ ad stM kcM 115 A x H → va_S A s.heap H locs → lv_has ls 2 [(0, .ref (ad 0)), (1, .int l1)] → W p l e R s m args below meth c H locs cells slots Q (F0 m 0 ls []) := by
  intro l1 x H locs ls  hw hW hS hl
  unfold wp_Mod_put at hw
  refine lv_aload_n hx hb d_Mod_put_0 rfl (lv_at hl 0 rfl) ?_
  refine w_geti (k := 64) (t := 12) (C := R_Mod) (T := F_Mod) (N := 167) hx hb hT hown hK hW ko_0.1 ko_0.2 (by decide) in_Mod rfl rfl (by decide) rfl fr_Mod_64 w_9_0 d_Mod_put_1 ?_
  refine lv_aload_n hx hb d_Mod_put_4 rfl (lv_at hl 0 rfl) ?_
  refine w_getf (q := 39) (k := 60) (t := 12) (C := R_Mod) (T := F_Mod) (N := 167) hx hb hT hown hK hW ko_0.1 ko_0.2 (by decide) in_Mod rfl rfl (by decide) rfl fr_Mod_60 w_8_236 d_Mod_put_5 rfl ?_
  refine w_alen (o := 39) (t0 := 0) hx hb hK hW (pic_int ko_39.1 ko_39.2) rfl rfl d_Mod_put_8 ?_
  refine lv_icmp_ge (tgt := 26) hx hb d_Mod_put_9 (by decide) (fun c501 => ?_) (fun c501 => ?_)
  · have hw := hw.1 c501
    exact t_Mod_put_26 hx hb hml hown hT hK hN hA hRc hRs hRf hRl hret  l1 x H locs ls  hw hW hS (lv_sub hl [0, 1] rfl)
  · have hw := hw.2 c501
    refine lv_aload_n hx hb d_Mod_put_12 rfl (lv_at hl 0 rfl) ?_
    refine w_getf (q := 39) (k := 60) (t := 12) (C := R_Mod) (T := F_Mod) (N := 167) hx hb hT hown hK hW ko_0.1 ko_0.2 (by decide) in_Mod rfl rfl (by decide) rfl fr_Mod_60 w_8_236 d_Mod_put_13 rfl ?_
    refine lv_aload_n hx hb d_Mod_put_16 rfl (lv_at hl 0 rfl) ?_
    refine w_geti (k := 64) (t := 12) (C := R_Mod) (T := F_Mod) (N := 167) hx hb hT hown hK hW ko_0.1 ko_0.2 (by decide) in_Mod rfl rfl (by decide) rfl fr_Mod_64 w_9_0 d_Mod_put_17 ?_
    refine lv_iload_n hx hb d_Mod_put_20 rfl (lv_at hl 1 rfl) ?_
    refine lv_sipush (v := 255) hx hb d_Mod_put_21 (by decide) ?_
    refine lv_iand hx hb d_Mod_put_24 ?_
    obtain ⟨hi, hw⟩ := hw
    refine w_iast (o := 39) hx hb hK hW hS ko_39.1 ko_39.2 hi d_Mod_put_25 (fun H locs hW hS => ?_)
    obtain ⟨x502, ex502⟩ : ∃ y : St, y = setA x 39 (fI x 0 64) (l1 &&& 255) := ⟨_, rfl⟩
    rw [← ex502] at hW
    have hw := hw x502 ex502
    exact t_Mod_put_26 hx hb hml hown hT hK hN hA hRc hRs hRf hRl hret  l1 x502 H locs ls  hw hW hS (lv_sub hl [0, 1] rfl)
set_option maxHeartbeats 4000000 in
set_option maxRecDepth 100000 in
theorem k_Mod_put (l : Launch) (dC : Nat → ClassId) (dI : Nat → Nat → Nat) (cI cB cJ cZ : ClassId) (ad : Nat → Nat) (sz : Nat) (l1 : Int32) (x : St) {post : St → Prop} (hw : wp_Mod_put post l1 x) : Met l y_Mod_put (wsOf y_Mod_put b_Mod_put 2 (none)) ({ frames := 0, cells := 0, slots := 0, locals := 0 }) (va_Pc [.ref (ad 0), .int l1] (PW dC dI cI cB cJ cZ ad stM kcM 115 sz x)) (va_Qv (fun (y : St) => post y) (fun y t => Wd dC dI cI cB cJ cZ ad stM kcM 115 (va_A (pic ad stM kcM 115 cI cB cJ cZ x) sz) y t.heap) (va_A (pic ad stM kcM 115 cI cB cJ cZ x) sz)) 0 0 (va_A (pic ad stM kcM 115 cI cB cJ cZ x) sz) := by
  refine Met.ofW (cc := b_Mod_put) (maxL := 2) (ret := none) (by decide) rfl ?_
  intro p e s m args below meth c s₁ B hml hv
  obtain ⟨rfl, hsz, hW0, hK, hN⟩ := hv
  have hx := B.exec
  have hb := B.bytes
  have hr := B.returns
  have hts := atoms_spec B.pre
  have hT : ∀ w ∈ TG, w.before _ s = true := fun w h => hts w (List.mem_cons_of_mem _ h)
  have hown : s.vm.findClass R_Mod = some m.cls := findClass_of_methodNamed B.named
  have hlocks := B.notSynchronized
  subst hsz
  have hW : Wd dC dI cI cB cJ cZ ad stM kcM 115 (va_A (pic ad stM kcM 115 cI cB cJ cZ x) s.heap.size) x s.heap := ⟨hW0.1, hW0.2.1.self (sz := s.heap.size), hW0.2.2⟩
  generalize hAe : va_A (pic ad stM kcM 115 cI cB cJ cZ x) s.heap.size = A at hW ⊢
  have hA : ∀ q : Nat, s.heap.size ≤ q → A q := fun q h => by rw [← hAe]; exact Or.inr h
  have hS : va_S A s.heap s.heap [] := va_S.rf
  have hl := lv_entry ([.ref (ad 0), .int l1]) (n := 2) (Nat.le_of_ble_eq_true rfl)
  rw [lg_entry_eq]
  generalize (lg_sl ([.ref (ad 0), .int l1]) ++ List.replicate (2 - (lg_sl ([.ref (ad 0), .int l1])).length) Slot.unset).toArray = ls at hl ⊢
  have hl : lv_has ls 2 [(0, .ref (ad 0)), (1, .int l1)] := hl
  exact t_Mod_put_e hx hb hml hown hT hK hN hA (Nat.le_refl 0) (Nat.le_refl 0) (Nat.le_refl 0) (Nat.le_refl 0) (fun x H locs pc ls hd hp hW hS => W.vret hx hb hr (fun t ht hM => ⟨⟨x, rfl, hp, Wd.back hW ht.symm (fun _ z => z)⟩, hS.F ht⟩) hS.2.2 hd hlocks)  l1 x _ _ ls  hw hW hS hl
set_option maxRecDepth 100000 in
set_option maxHeartbeats 4000000 in
set_option maxRecDepth 100000 in
theorem t_Mod_putVarint_16 {p : Program} {l : Launch} {e : Env} {R : Room} {s : State} {m : MethodId} {args : Array Value} {below : List Frame} {meth : Method} {c : Code} {cells slots : Nat} {Q : State → Prop} {dC : Nat → ClassId} {dI : Nat → Nat → Nat} {cI cB cJ cZ : ClassId} {A : Nat → Prop} {ad : Nat → Nat} {post : St → Prop} {rec2 : Int64 → Int64 → St → Prop} (hx : p.tables.exec = Jvm.exec) (hb : c.code = b_Mod_putVarint) (hml : c.maxLocals = 5) (hown : s.vm.findClass R_Mod = some m.cls) (hT : ∀ w ∈ TG, w.before args s = true) (hK : va_K (dC, dI) CL (TY cI cB cJ cZ) s) (hN : NW s) (hA : ∀ q : Nat, s.heap.size ≤ q → A q) (hRc : cells ≤ R.cells) (hRs : slots ≤ R.slots) (hRf : 1 ≤ R.frames) (hRl : 21 ≤ R.locals) (hret : ∀ (x : St) (H : Heap) (locs : List Loc) (pc : Nat) (ls : Array Slot), decode b_Mod_putVarint pc = .ok (.return_, 1) → post x → Wd dC dI cI cB cJ cZ ad stM kcM 115 A x H → va_S A s.heap H locs → W p l e R s m args below meth c H locs cells slots Q (F0 m pc ls [])) (hrec2 : ∀ (l1 : Int64) (l3 : Int64) (x : St) (H : Heap) (locs : List Loc) (ls : Array Slot), rec2 l1 l3 x → Wd dC dI cI cB cJ cZ ad stM kcM 115 A x H → va_S A s.heap H locs → lv_has ls 5 [(0, .ref (ad 0)), (1, .long l1), (3, .long l3)] → W p l e R s m args below meth c H locs cells slots Q (F0 m 2 ls [])) : ∀ (l1 : Int64) (l3 : Int64) (x : St) (H : Heap) (locs : List Loc) (ls : Array Slot), j_Mod_putVarint_16 post rec2 l1 l3 x → Wd dC dI cI cB cJ cZ ad stM kcM 115 A x H → va_S A s.heap H locs → lv_has ls 5 [(0, .ref (ad 0)), (1, .long l1), (3, .long l3)] → W p l e R s m args below meth c H locs cells slots Q (F0 m 16 ls []) := by
  intro l1 l3 x H locs ls  hw hW hS hl
  unfold j_Mod_putVarint_16 at hw
  refine lv_aload_n hx hb d_Mod_putVarint_16 rfl (lv_at hl 0 rfl) ?_
  refine lv_lload_n hx hb d_Mod_putVarint_17 rfl (lv_at hl 2 rfl) ?_
  refine lv_ldc2 hx hb hown (hT _ w_11_195) d_Mod_putVarint_18 ?_
  refine lv_land hx hb d_Mod_putVarint_21 ?_
  refine lv_l2i hx hb d_Mod_putVarint_22 rfl ?_
  refine lv_sipush (v := 128) hx hb d_Mod_putVarint_23 (by decide) ?_
  refine lv_iadd hx hb d_Mod_putVarint_26 ?_
  have hF := hW.free hS hA
  refine va_callv (va_runV (C := R_Mod) (As := [.int (((l3 &&& 127) : Int64).toInt32 + 128)]) (rest := []) ⟨hx, hb, hml, hown, hT⟩ (k_Mod_put l dC dI cI cB cJ cZ ad H.size (((l3 &&& 127) : Int64).toInt32 + 128) x  hw) ⟨callB_of 1 hT (gwt_in w_11_199) rfl rfl rfl (hT _ w_1_15) (hT _ w_11_196) (by decide +kernel) ⟨Nat.le_trans (Nat.le_of_ble_eq_true rfl) hRf, Nat.le_trans (Nat.le_of_ble_eq_true rfl) hRl⟩, hT _ w_11_198, hT _ ws_153⟩ ⟨PW.blind, va_recv hK hW.1 (ci := 12) (q0 := 0) rfl (pic_obj ko_0.1 ko_0.2 (by decide)), PW.at _ hW hK hN⟩ rfl rfl hl.1 rfl (lv_room (Nat.le_of_ble_eq_true rfl)) d_Mod_putVarint_27 ⟨hRc, hRs⟩) hS (fun q _ h => hF q h) hF (fun  x503 t H locs ht hvm hw hB hz1 hk1 hS => ?_)
  have hW := Wd.back hB ht hF
  clear hB ht hF hz1 hk1 hvm
  refine lv_lload_n hx hb d_Mod_putVarint_30 rfl (lv_at hl 2 rfl) ?_
  refine lv_bipush (v := 7) hx hb d_Mod_putVarint_31 (by decide) ?_
  refine lv_lushr hx hb d_Mod_putVarint_33 rfl ?_
  refine lv_topl (fun v504 ev504 => ?_)
  have hw := hw v504 ev504
  refine lv_lstore_n (lv' := [(3, .long v504), (0, .ref (ad 0)), (1, .long l1)]) hx hb d_Mod_putVarint_34 rfl hl (by decide) rfl (fun ls hl => ?_)
  refine lv_goto (tgt := 2) hx hb d_Mod_putVarint_35 (by decide) ?_
  exact hrec2 l1 v504 x503 H locs ls  hw hW hS (lv_sub hl [1, 2, 0] rfl)
set_option maxRecDepth 100000 in
set_option maxHeartbeats 4000000 in
set_option maxRecDepth 100000 in
theorem t_Mod_putVarint_2 {p : Program} {l : Launch} {e : Env} {R : Room} {s : State} {m : MethodId} {args : Array Value} {below : List Frame} {meth : Method} {c : Code} {cells slots : Nat} {Q : State → Prop} {dC : Nat → ClassId} {dI : Nat → Nat → Nat} {cI cB cJ cZ : ClassId} {A : Nat → Prop} {ad : Nat → Nat} {post : St → Prop} {rec2 : Int64 → Int64 → St → Prop} (hx : p.tables.exec = Jvm.exec) (hb : c.code = b_Mod_putVarint) (hml : c.maxLocals = 5) (hown : s.vm.findClass R_Mod = some m.cls) (hT : ∀ w ∈ TG, w.before args s = true) (hK : va_K (dC, dI) CL (TY cI cB cJ cZ) s) (hN : NW s) (hA : ∀ q : Nat, s.heap.size ≤ q → A q) (hRc : cells ≤ R.cells) (hRs : slots ≤ R.slots) (hRf : 1 ≤ R.frames) (hRl : 21 ≤ R.locals) (hret : ∀ (x : St) (H : Heap) (locs : List Loc) (pc : Nat) (ls : Array Slot), decode b_Mod_putVarint pc = .ok (.return_, 1) → post x → Wd dC dI cI cB cJ cZ ad stM kcM 115 A x H → va_S A s.heap H locs → W p l e R s m args below meth c H locs cells slots Q (F0 m pc ls [])) (hrec2 : ∀ (l1 : Int64) (l3 : Int64) (x : St) (H : Heap) (locs : List Loc) (ls : Array Slot), rec2 l1 l3 x → Wd dC dI cI cB cJ cZ ad stM kcM 115 A x H → va_S A s.heap H locs → lv_has ls 5 [(0, .ref (ad 0)), (1, .long l1), (3, .long l3)] → W p l e R s m args below meth c H locs cells slots Q (F0 m 2 ls [])) : ∀ (l1 : Int64) (l3 : Int64) (x : St) (H : Heap) (locs : List Loc) (ls : Array Slot), j_Mod_putVarint_2 post rec2 l1 l3 x → Wd dC dI cI cB cJ cZ ad stM kcM 115 A x H → va_S A s.heap H locs → lv_has ls 5 [(0, .ref (ad 0)), (1, .long l1), (3, .long l3)] → W p l e R s m args below meth c H locs cells slots Q (F0 m 2 ls []) := by
  intro l1 l3 x H locs ls  hw hW hS hl
  unfold j_Mod_putVarint_2 at hw
  refine lv_lload_n hx hb d_Mod_putVarint_2 rfl (lv_at hl 2 rfl) ?_
  refine lv_lconst (v := 0) hx hb d_Mod_putVarint_3 (by decide) ?_
  refine W.lcmp hx hb d_Mod_putVarint_4 ?_
  refine lv_if_lt (tgt := 16) hx hb d_Mod_putVarint_5 (by decide) (fun c505 => ?_) (fun c505 => ?_)
  · have hw := hw.1 c505
    exact t_Mod_putVarint_16 hx hb hml hown hT hK hN hA hRc hRs hRf hRl hret hrec2 l1 l3 x H locs ls  hw hW hS (lv_sub hl [0, 1, 2] rfl)
  · have hw := hw.2 c505
    refine lv_lload_n hx hb d_Mod_putVarint_8 rfl (lv_at hl 2 rfl) ?_
    refine lv_ldc2 hx hb hown (hT _ w_11_195) d_Mod_putVarint_9 ?_
    refine W.lcmp hx hb d_Mod_putVarint_12 ?_
    refine lv_if_le (tgt := 38) hx hb d_Mod_putVarint_13 (by decide) (fun c506 => ?_) (fun c506 => ?_)
    · have hw := hw.1 c506
      refine lv_aload_n hx hb d_Mod_putVarint_38 rfl (lv_at hl 0 rfl) ?_
      refine lv_lload_n hx hb d_Mod_putVarint_39 rfl (lv_at hl 2 rfl) ?_
      refine lv_l2i hx hb d_Mod_putVarint_40 rfl ?_
      have hF := hW.free hS hA
      refine va_callv (va_runV (C := R_Mod) (As := [.int (l3 : Int64).toInt32]) (rest := []) ⟨hx, hb, hml, hown, hT⟩ (k_Mod_put l dC dI cI cB cJ cZ ad H.size (l3 : Int64).toInt32 x  hw) ⟨callB_of 1 hT (gwt_in w_11_199) rfl rfl rfl (hT _ w_1_15) (hT _ w_11_196) (by decide +kernel) ⟨Nat.le_trans (Nat.le_of_ble_eq_true rfl) hRf, Nat.le_trans (Nat.le_of_ble_eq_true rfl) hRl⟩, hT _ w_11_198, hT _ ws_153⟩ ⟨PW.blind, va_recv hK hW.1 (ci := 12) (q0 := 0) rfl (pic_obj ko_0.1 ko_0.2 (by decide)), PW.at _ hW hK hN⟩ rfl rfl hl.1 rfl (lv_room (Nat.le_of_ble_eq_true rfl)) d_Mod_putVarint_41 ⟨hRc, hRs⟩) hS (fun q _ h => hF q h) hF (fun  x507 t H locs ht hvm hw hB hz1 hk1 hS => ?_)
      have hW := Wd.back hB ht hF
      clear hB ht hF hz1 hk1 hvm
      exact hret x507 H locs 44 ls d_Mod_putVarint_44 hw hW hS
    · have hw := hw.2 c506
      exact t_Mod_putVarint_16 hx hb hml hown hT hK hN hA hRc hRs hRf hRl hret hrec2 l1 l3 x H locs ls  hw hW hS (lv_sub hl [0, 1, 2] rfl)
set_option maxHeartbeats 4000000 in
set_option maxRecDepth 100000 in
theorem tl_Mod_putVarint_2 {p : Program} {l : Launch} {e : Env} {R : Room} {s : State} {m : MethodId} {args : Array Value} {below : List Frame} {meth : Method} {c : Code} {cells slots : Nat} {Q : State → Prop} {dC : Nat → ClassId} {dI : Nat → Nat → Nat} {cI cB cJ cZ : ClassId} {A : Nat → Prop} {ad : Nat → Nat} {post : St → Prop} (hx : p.tables.exec = Jvm.exec) (hb : c.code = b_Mod_putVarint) (hml : c.maxLocals = 5) (hown : s.vm.findClass R_Mod = some m.cls) (hT : ∀ w ∈ TG, w.before args s = true) (hK : va_K (dC, dI) CL (TY cI cB cJ cZ) s) (hN : NW s) (hA : ∀ q : Nat, s.heap.size ≤ q → A q) (hRc : cells ≤ R.cells) (hRs : slots ≤ R.slots) (hRf : 1 ≤ R.frames) (hRl : 21 ≤ R.locals) (hret : ∀ (x : St) (H : Heap) (locs : List Loc) (pc : Nat) (ls : Array Slot), decode b_Mod_putVarint pc = .ok (.return_, 1) → post x → Wd dC dI cI cB cJ cZ ad stM kcM 115 A x H → va_S A s.heap H locs → W p l e R s m args below meth c H locs cells slots Q (F0 m pc ls []))  : ∀ n : Nat, ∀ (l1 : Int64) (l3 : Int64) (x : St) (H : Heap) (locs : List Loc) (ls : Array Slot), wl_Mod_putVarint_2 post n l1 l3 x → Wd dC dI cI cB cJ cZ ad stM kcM 115 A x H → va_S A s.heap H locs → lv_has ls 5 [(0, .ref (ad 0)), (1, .long l1), (3, .long l3)] → W p l e R s m args below meth c H locs cells slots Q (F0 m 2 ls []) := by
  intro n
  induction n with
  | zero => intro l1 l3 x H locs ls  hw; exact hw.elim
  | succ n ih => intro l1 l3 x H locs ls  hw hW hS hl; exact t_Mod_putVarint_2 hx hb hml hown hT hK hN hA hRc hRs hRf hRl hret  ih l1 l3 x H locs ls  hw hW hS hl
set_option maxRecDepth 100000 in
set_option maxHeartbeats 4000000 in
set_option maxRecDepth 100000 in
theorem t_Mod_putVarint_e {p : Program} {l : Launch} {e : Env} {R : Room} {s : State} {m : MethodId} {args : Array Value} {below : List Frame} {meth : Method} {c : Code} {cells slots : Nat} {Q : State → Prop} {dC : Nat → ClassId} {dI : Nat → Nat → Nat} {cI cB cJ cZ : ClassId} {A : Nat → Prop} {ad : Nat → Nat} {post : St → Prop} (hx : p.tables.exec = Jvm.exec) (hb : c.code = b_Mod_putVarint) (hml : c.maxLocals = 5) (hown : s.vm.findClass R_Mod = some m.cls) (hT : ∀ w ∈ TG, w.before args s = true) (hK : va_K (dC, dI) CL (TY cI cB cJ cZ) s) (hN : NW s) (hA : ∀ q : Nat, s.heap.size ≤ q → A q) (hRc : cells ≤ R.cells) (hRs : slots ≤ R.slots) (hRf : 1 ≤ R.frames) (hRl : 21 ≤ R.locals) (hret : ∀ (x : St) (H : Heap) (locs : List Loc) (pc : Nat) (ls : Array Slot), decode b_Mod_putVarint pc = .ok (.return_, 1) → post x → Wd dC dI cI cB cJ cZ ad stM kcM 115 A x H → va_S A s.heap H locs → W p l e R s m args below meth c H locs cells slots Q (F0 m pc ls [])) : ∀ (l1 : Int64) (x : St) (H : Heap) (locs : List Loc) (ls : Array Slot), wp_Mod_putVarint post l1 x → Wd dC dI cI cB cJ cZ ad stM kcM 115 A x H → va_S A s.heap H locs → lv_has ls 5 [(0, .ref (ad 0)), (1, .long l1)] → W p l e R s m args below meth c H locs cells slots Q (F0 m 0 ls []) := by
  intro l1 x H locs ls  hw hW hS hl
  unfold wp_Mod_putVarint at hw
  refine lv_lload_n hx hb d_Mod_putVarint_0 rfl (lv_at hl 1 rfl) ?_
  refine lv_lstore_n (lv' := [(3, .long l1), (0, .ref (ad 0)), (1, .long l1)]) hx hb d_Mod_putVarint_1 rfl hl (by decide) rfl (fun ls hl => ?_)
  obtain ⟨n, hw⟩ := hw
  exact tl_Mod_putVarint_2 hx hb hml hown hT hK hN hA hRc hRs hRf hRl hret  n l1 l1 x H locs ls  hw hW hS (lv_sub hl [1, 2, 0] rfl)
set_option maxHeartbeats 4000000 in
set_option maxRecDepth 100000 in
theorem k_Mod_putVarint (l : Launch) (dC : Nat → ClassId) (dI : Nat → Nat → Nat) (cI cB cJ cZ : ClassId) (ad : Nat → Nat) (sz : Nat) (l1 : Int64) (x : St) {post : St → Prop} (hw : wp_Mod_putVarint post l1 x) : Met l y_Mod_putVarint (wsOf y_Mod_putVarint b_Mod_putVarint 5 (none)) ({ frames := 1, cells := 0, slots := 0, locals := 21 }) (va_Pc [.ref (ad 0), .long l1] (PW dC dI cI cB cJ cZ ad stM kcM 115 sz x)) (va_Qv (fun (y : St) => post y) (fun y t => Wd dC dI cI cB cJ cZ ad stM kcM 115 (va_A (pic ad stM kcM 115 cI cB cJ cZ x) sz) y t.heap) (va_A (pic ad stM kcM 115 cI cB cJ cZ x) sz)) 0 0 (va_A (pic ad stM kcM 115 cI cB cJ cZ x) sz) := by
  refine Met.ofW (cc := b_Mod_putVarint) (maxL := 5) (ret := none) (by decide) rfl ?_
  intro p e s m args below meth c s₁ B hml hv
  obtain ⟨rfl, hsz, hW0, hK, hN⟩ := hv
  have hx := B.exec
  have hb := B.bytes
  have hr := B.returns
  have hts := atoms_spec B.pre
  have hT : ∀ w ∈ TG, w.before _ s = true := fun w h => hts w (List.mem_cons_of_mem _ h)
  have hown : s.vm.findClass R_Mod = some m.cls := findClass_of_methodNamed B.named
  have hlocks := B.notSynchronized
  subst hsz
  have hW : Wd dC dI cI cB cJ cZ ad stM kcM 115 (va_A (pic ad stM kcM 115 cI cB cJ cZ x) s.heap.size) x s.heap := ⟨hW0.1, hW0.2.1.self (sz := s.heap.size), hW0.2.2⟩
  generalize hAe : va_A (pic ad stM kcM 115 cI cB cJ cZ x) s.heap.size = A at hW ⊢
  have hA : ∀ q : Nat, s.heap.size ≤ q → A q := fun q h => by rw [← hAe]; exact Or.inr h
  have hS : va_S A s.heap s.heap [] := va_S.rf
  have hl := lv_entry ([.ref (ad 0), .long l1]) (n := 5) (Nat.le_of_ble_eq_true rfl)
  rw [lg_entry_eq]
  generalize (lg_sl ([.ref (ad 0), .long l1]) ++ List.replicate (5 - (lg_sl ([.ref (ad 0), .long l1])).length) Slot.unset).toArray = ls at hl ⊢
  have hl : lv_has ls 5 [(0, .ref (ad 0)), (1, .long l1)] := hl
  exact t_Mod_putVarint_e hx hb hml hown hT hK hN hA (Nat.le_refl 0) (Nat.le_refl 0) (Nat.le_refl 1) (Nat.le_refl 21) (fun x H locs pc ls hd hp hW hS => W.vret hx hb hr (fun t ht hM => ⟨⟨x, rfl, hp, Wd.back hW ht.symm (fun _ z => z)⟩, hS.F ht⟩) hS.2.2 hd hlocks)  l1 x _ _ ls  hw hW hS hl
set_option maxRecDepth 100000 in
set_option maxHeartbeats 4000000 in
set_option maxRecDepth 100000 in
theorem t_Mod_writeRuns_192 {p : Program} {l : Launch} {e : Env} {R : Room} {s : State} {m : MethodId} {args : Array Value} {below : List Frame} {meth : Method} {c : Code} {cells slots : Nat} {Q : State → Prop} {dC : Nat → ClassId} {dI : Nat → Nat → Nat} {cI cB cJ cZ : ClassId} {A : Nat → Prop} {ad : Nat → Nat} {post : St → Prop} {rec3 : Nat → Int32 → Int32 → Int32 → St → Prop} {rec127 : Nat → Int32 → Int32 → Int32 → Int32 → Int32 → Int32 → St → Prop} {rec145 : Nat → Int32 → Int32 → Int32 → Int32 → Int32 → Int32 → Int32 → Int32 → St → Prop} (hx : p.tables.exec = Jvm.exec) (hb : c.code = b_Mod_writeRuns) (hml : c.maxLocals = 11) (hown : s.vm.findClass R_Mod = some m.cls) (hT : ∀ w ∈ TG, w.before args s = true) (hK : va_K (dC, dI) CL (TY cI cB cJ cZ) s) (hN : NW s) (hA : ∀ q : Nat, s.heap.size ≤ q → A q) (hRc : cells ≤ R.cells) (hRs : slots ≤ R.slots) (hRf : 2 ≤ R.frames) (hRl : 45 ≤ R.locals) (hret : ∀ (x : St) (H : Heap) (locs : List Loc) (pc : Nat) (ls : Array Slot), decode b_Mod_writeRuns pc = .ok (.return_, 1) → post x → Wd dC dI cI cB cJ cZ ad stM kcM 115 A x H → va_S A s.heap H locs → W p l e R s m args below meth c H locs cells slots Q (F0 m pc ls [])) (hrec3 : ∀ (l1 : Nat) (l2 : Int32) (l3 : Int32) (l4 : Int32) (x : St) (H : Heap) (locs : List Loc) (ls : Array Slot), (l1 < 115 ∧ kcM l1 = 20) → rec3 l1 l2 l3 l4 x → Wd dC dI cI cB cJ cZ ad stM kcM 115 A x H → va_S A s.heap H locs → lv_has ls 11 [(0, .ref (ad 0)), (1, .ref (ad l1)), (2, .int l2), (3, .int l3), (4, .int l4)] → W p l e R s m args below meth c H locs cells slots Q (F0 m 3 ls [])) (hrec127 : ∀ (l1 : Nat) (l2 : Int32) (l3 : Int32) (l4 : Int32) (l5 : Int32) (l6 : Int32) (l7 : Int32) (x : St) (H : Heap) (locs : List Loc) (ls : Array Slot), (l1 < 115 ∧ kcM l1 = 20) → rec127 l1 l2 l3 l4 l5 l6 l7 x → Wd dC dI cI cB cJ cZ ad stM kcM 115 A x H → va_S A s.heap H locs → lv_has ls 11 [(0, .ref (ad 0)), (1, .ref (ad l1)), (2, .int l2), (3, .int l3), (4, .int l4), (5, .int l5), (6, .int l6), (7, .int l7)] → W p l e R s m args below meth c H locs cells slots Q (F0 m 127 ls [])) (hrec145 : ∀ (l1 : Nat) (l2 : Int32) (l3 : Int32) (l4 : Int32) (l5 : Int32) (l6 : Int32) (l7 : Int32) (l8 : Int32) (l9 : Int32) (x : St) (H : Heap) (locs : List Loc) (ls : Array Slot), (l1 < 115 ∧ kcM l1 = 20) → rec145 l1 l2 l3 l4 l5 l6 l7 l8 l9 x → Wd dC dI cI cB cJ cZ ad stM kcM 115 A x H → va_S A s.heap H locs → lv_has ls 11 [(0, .ref (ad 0)), (1, .ref (ad l1)), (2, .int l2), (3, .int l3), (4, .int l4), (5, .int l5), (6, .int l6), (7, .int l7), (8, .int l8), (9, .int l9)] → W p l e R s m args below meth c H locs cells slots Q (F0 m 145 ls [])) : ∀ (l1 : Nat) (l2 : Int32) (l3 : Int32) (l4 : Int32) (l5 : Int32) (l6 : Int32) (l7 : Int32) (l8 : Int32) (l9 : Int32) (l10 : Int32) (x : St) (H : Heap) (locs : List Loc) (ls : Array Slot), (l1 < 115 ∧ kcM l1 = 20) → j_Mod_writeRuns_192 post rec3 rec127 rec145 l1 l2 l3 l4 l5 l6 l7 l8 l9 l10 x → Wd dC dI cI cB cJ cZ ad stM kcM 115 A x H → va_S A s.heap H locs → lv_has ls 11 [(0, .ref (ad 0)), (1, .ref (ad l1)), (2, .int l2), (3, .int l3), (4, .int l4), (5, .int l5), (6, .int l6), (7, .int l7), (8, .int l8), (9, .int l9), (10, .int l10)] → W p l e R s m args below meth c H locs cells slots Q (F0 m 192 ls []) := by
  intro l1 l2 l3 l4 l5 l6 l7 l8 l9 l10 x H locs ls fl1 hw hW hS hl
  unfold j_Mod_writeRuns_192 at hw
  refine lv_iinc (v := (l9 + 1)) (lv' := [(9, .int (l9 + 1)), (0, .ref (ad 0)), (1, .ref (ad l1)), (2, .int l2), (3, .int l3), (4, .int l4), (5, .int l5), (6, .int l6), (7, .int l7), (8, .int l8), (10, .int l10)]) hx hb d_Mod_writeRuns_192 hl (k := 9) rfl rfl (by decide) rfl (fun ls hl => ?_)
  refine lv_goto (tgt := 145) hx hb d_Mod_writeRuns_195 (by decide) ?_
  exact hrec145 l1 l2 l3 l4 l5 l6 l7 l8 (l9 + 1) x H locs ls fl1 hw hW hS (lv_sub hl [1, 2, 3, 4, 5, 6, 7, 8, 9, 0] rfl)
set_option maxRecDepth 100000 in
set_option maxHeartbeats 4000000 in
set_option maxRecDepth 100000 in
theorem t_Mod_writeRuns_145 {p : Program} {l : Launch} {e : Env} {R : Room} {s : State} {m : MethodId} {args : Array Value} {below : List Frame} {meth : Method} {c : Code} {cells slots : Nat} {Q : State → Prop} {dC : Nat → ClassId} {dI : Nat → Nat → Nat} {cI cB cJ cZ : ClassId} {A : Nat → Prop} {ad : Nat → Nat} {post : St → Prop} {rec3 : Nat → Int32 → Int32 → Int32 → St → Prop} {rec127 : Nat → Int32 → Int32 → Int32 → Int32 → Int32 → Int32 → St → Prop} {rec145 : Nat → Int32 → Int32 → Int32 → Int32 → Int32 → Int32 → Int32 → Int32 → St → Prop} (hx : p.tables.exec = Jvm.exec) (hb : c.code = b_Mod_writeRuns) (hml : c.maxLocals = 11) (hown : s.vm.findClass R_Mod = some m.cls) (hT : ∀ w ∈ TG, w.before args s = true) (hK : va_K (dC, dI) CL (TY cI cB cJ cZ) s) (hN : NW s) (hA : ∀ q : Nat, s.heap.size ≤ q → A q) (hRc : cells ≤ R.cells) (hRs : slots ≤ R.slots) (hRf : 2 ≤ R.frames) (hRl : 45 ≤ R.locals) (hret : ∀ (x : St) (H : Heap) (locs : List Loc) (pc : Nat) (ls : Array Slot), decode b_Mod_writeRuns pc = .ok (.return_, 1) → post x → Wd dC dI cI cB cJ cZ ad stM kcM 115 A x H → va_S A s.heap H locs → W p l e R s m args below meth c H locs cells slots Q (F0 m pc ls [])) (hrec3 : ∀ (l1 : Nat) (l2 : Int32) (l3 : Int32) (l4 : Int32) (x : St) (H : Heap) (locs : List Loc) (ls : Array Slot), (l1 < 115 ∧ kcM l1 = 20) → rec3 l1 l2 l3 l4 x → Wd dC dI cI cB cJ cZ ad stM kcM 115 A x H → va_S A s.heap H locs → lv_has ls 11 [(0, .ref (ad 0)), (1, .ref (ad l1)), (2, .int l2), (3, .int l3), (4, .int l4)] → W p l e R s m args below meth c H locs cells slots Q (F0 m 3 ls [])) (hrec127 : ∀ (l1 : Nat) (l2 : Int32) (l3 : Int32) (l4 : Int32) (l5 : Int32) (l6 : Int32) (l7 : Int32) (x : St) (H : Heap) (locs : List Loc) (ls : Array Slot), (l1 < 115 ∧ kcM l1 = 20) → rec127 l1 l2 l3 l4 l5 l6 l7 x → Wd dC dI cI cB cJ cZ ad stM kcM 115 A x H → va_S A s.heap H locs → lv_has ls 11 [(0, .ref (ad 0)), (1, .ref (ad l1)), (2, .int l2), (3, .int l3), (4, .int l4), (5, .int l5), (6, .int l6), (7, .int l7)] → W p l e R s m args below meth c H locs cells slots Q (F0 m 127 ls [])) (hrec145 : ∀ (l1 : Nat) (l2 : Int32) (l3 : Int32) (l4 : Int32) (l5 : Int32) (l6 : Int32) (l7 : Int32) (l8 : Int32) (l9 : Int32) (x : St) (H : Heap) (locs : List Loc) (ls : Array Slot), (l1 < 115 ∧ kcM l1 = 20) → rec145 l1 l2 l3 l4 l5 l6 l7 l8 l9 x → Wd dC dI cI cB cJ cZ ad stM kcM 115 A x H → va_S A s.heap H locs → lv_has ls 11 [(0, .ref (ad 0)), (1, .ref (ad l1)), (2, .int l2), (3, .int l3), (4, .int l4), (5, .int l5), (6, .int l6), (7, .int l7), (8, .int l8), (9, .int l9)] → W p l e R s m args below meth c H locs cells slots Q (F0 m 145 ls [])) : ∀ (l1 : Nat) (l2 : Int32) (l3 : Int32) (l4 : Int32) (l5 : Int32) (l6 : Int32) (l7 : Int32) (l8 : Int32) (l9 : Int32) (x : St) (H : Heap) (locs : List Loc) (ls : Array Slot), (l1 < 115 ∧ kcM l1 = 20) → j_Mod_writeRuns_145 post rec3 rec127 rec145 l1 l2 l3 l4 l5 l6 l7 l8 l9 x → Wd dC dI cI cB cJ cZ ad stM kcM 115 A x H → va_S A s.heap H locs → lv_has ls 11 [(0, .ref (ad 0)), (1, .ref (ad l1)), (2, .int l2), (3, .int l3), (4, .int l4), (5, .int l5), (6, .int l6), (7, .int l7), (8, .int l8), (9, .int l9)] → W p l e R s m args below meth c H locs cells slots Q (F0 m 145 ls []) := by
  intro l1 l2 l3 l4 l5 l6 l7 l8 l9 x H locs ls fl1 hw hW hS hl
  unfold j_Mod_writeRuns_145 at hw
  refine lv_iload hx hb d_Mod_writeRuns_145 (lv_at hl 9 rfl) ?_
  refine lv_bipush (v := 8) hx hb d_Mod_writeRuns_147 (by decide) ?_
  refine lv_icmp_ge (tgt := 198) hx hb d_Mod_writeRuns_149 (by decide) (fun c508 => ?_) (fun c508 => ?_)
  · have hw := hw.1 c508
    refine lv_aload_n hx hb d_Mod_writeRuns_198 rfl (lv_at hl 0 rfl) ?_
    refine lv_iload hx hb d_Mod_writeRuns_199 (lv_at hl 8 rfl) ?_
    have hF := hW.free hS hA
    refine va_callv (va_runV (C := R_Mod) (As := [.int l8]) (rest := []) ⟨hx, hb, hml, hown, hT⟩ (k_Mod_put l dC dI cI cB cJ cZ ad H.size l8 x  hw) ⟨callB_of 1 hT (gwt_in w_11_199) rfl rfl rfl (hT _ w_1_15) (hT _ w_11_196) (by decide +kernel) ⟨Nat.le_trans (Nat.le_of_ble_eq_true rfl) hRf, Nat.le_trans (Nat.le_of_ble_eq_true rfl) hRl⟩, hT _ w_11_198, hT _ ws_153⟩ ⟨PW.blind, va_recv hK hW.1 (ci := 12) (q0 := 0) rfl (pic_obj ko_0.1 ko_0.2 (by decide)), PW.at _ hW hK hN⟩ rfl rfl hl.1 rfl (lv_room (Nat.le_of_ble_eq_true rfl)) d_Mod_writeRuns_201 ⟨hRc, hRs⟩) hS (fun q _ h => hF q h) hF (fun  x509 t H locs ht hvm hw hB hz1 hk1 hS => ?_)
    have hW := Wd.back hB ht hF
    clear hB ht hF hz1 hk1 hvm
    refine lv_iinc (v := (l7 + 8)) (lv' := [(7, .int (l7 + 8)), (0, .ref (ad 0)), (1, .ref (ad l1)), (2, .int l2), (3, .int l3), (4, .int l4), (5, .int l5), (6, .int l6), (8, .int l8), (9, .int l9)]) hx hb d_Mod_writeRuns_204 hl (k := 7) rfl rfl (by decide) rfl (fun ls hl => ?_)
    refine lv_goto (tgt := 127) hx hb d_Mod_writeRuns_207 (by decide) ?_
    exact hrec127 l1 l2 l3 l4 l5 l6 (l7 + 8) x509 H locs ls fl1 hw hW hS (lv_sub hl [1, 2, 3, 4, 5, 6, 7, 0] rfl)
  · have hw := hw.2 c508
    refine lv_iload hx hb d_Mod_writeRuns_152 (lv_at hl 4 rfl) ?_
    refine lv_iload hx hb d_Mod_writeRuns_154 (lv_at hl 7 rfl) ?_
    refine lv_iload hx hb d_Mod_writeRuns_156 (lv_at hl 9 rfl) ?_
    refine lv_iadd hx hb d_Mod_writeRuns_158 ?_
    refine lv_iload_n hx hb d_Mod_writeRuns_159 rfl (lv_at hl 3 rfl) ?_
    obtain ⟨hz, hw⟩ := hw
    refine lv_idiv hx hb d_Mod_writeRuns_160 hz ?_
    refine lv_iadd hx hb d_Mod_writeRuns_161 ?_
    refine lv_topi (fun v510 ev510 => ?_)
    have hw := hw v510 ev510
    refine lv_istore (lv' := [(10, .int v510), (0, .ref (ad 0)), (1, .ref (ad l1)), (2, .int l2), (3, .int l3), (4, .int l4), (5, .int l5), (6, .int l6), (7, .int l7), (8, .int l8), (9, .int l9)]) hx hb d_Mod_writeRuns_162 hl (by decide) rfl (fun ls hl => ?_)
    refine lv_iload hx hb d_Mod_writeRuns_164 (lv_at hl 0 rfl) ?_
    refine lv_iload_n hx hb d_Mod_writeRuns_166 rfl (lv_at hl 3 rfl) ?_
    refine lv_icmp_ge (tgt := 192) hx hb d_Mod_writeRuns_167 (by decide) (fun c511 => ?_) (fun c511 => ?_)
    · have hw := hw.1 c511
      exact t_Mod_writeRuns_192 hx hb hml hown hT hK hN hA hRc hRs hRf hRl hret hrec3 hrec127 hrec145 l1 l2 l3 l4 l5 l6 l7 l8 l9 v510 x H locs ls fl1 hw hW hS (lv_sub hl [1, 2, 3, 4, 5, 6, 7, 8, 9, 10, 0] rfl)
    · have hw := hw.2 c511
      refine lv_iload hx hb d_Mod_writeRuns_170 (lv_at hl 9 rfl) ?_
      refine lv_aload_n hx hb d_Mod_writeRuns_172 rfl (lv_at hl 2 rfl) ?_
      refine lv_iload hx hb d_Mod_writeRuns_173 (lv_at hl 0 rfl) ?_
      obtain ⟨hi, hw⟩ := hw
      refine w_iald (o := l1) hx hb hK hW fl1.1 fl1.2 hi d_Mod_writeRuns_175 ?_
      refine lv_iload hx hb d_Mod_writeRuns_176 (lv_at hl 8 rfl) ?_
      refine lv_iload hx hb d_Mod_writeRuns_178 (lv_at hl 10 rfl) ?_
      refine lv_iadd hx hb d_Mod_writeRuns_180 ?_
      refine lv_iload_n hx hb d_Mod_writeRuns_181 rfl (lv_at hl 4 rfl) ?_
      obtain ⟨hz, hw⟩ := hw
      refine lv_irem hx hb d_Mod_writeRuns_182 hz ?_
      refine lv_iushr hx hb d_Mod_writeRuns_183 rfl ?_
      refine lv_iconst (v := 1) hx hb d_Mod_writeRuns_184 (by decide) ?_
      refine lv_iand hx hb d_Mod_writeRuns_185 ?_
      refine lv_iload hx hb d_Mod_writeRuns_186 (lv_at hl 10 rfl) ?_
      refine lv_ishl hx hb d_Mod_writeRuns_188 ?_
      refine lv_ior hx hb d_Mod_writeRuns_189 ?_
      refine lv_topi (fun v512 ev512 => ?_)
      have hw := hw v512 ev512
      refine lv_istore (lv' := [(8, .int v512), (10, .int v510), (0, .ref (ad 0)), (1, .ref (ad l1)), (2, .int l2), (3, .int l3), (4, .int l4), (5, .int l5), (6, .int l6), (7, .int l7), (9, .int l9)]) hx hb d_Mod_writeRuns_190 hl (by decide) rfl (fun ls hl => ?_)
      exact t_Mod_writeRuns_192 hx hb hml hown hT hK hN hA hRc hRs hRf hRl hret hrec3 hrec127 hrec145 l1 l2 l3 l4 l5 l6 l7 v512 l9 v510 x H locs ls fl1 hw hW hS (lv_sub hl [2, 3, 4, 5, 6, 7, 8, 9, 0, 10, 1] rfl)
set_option maxHeartbeats 4000000 in
set_option maxRecDepth 100000 in
theorem tl_Mod_writeRuns_145 {p : Program} {l : Launch} {e : Env} {R : Room} {s : State} {m : MethodId} {args : Array Value} {below : List Frame} {meth : Method} {c : Code} {cells slots : Nat} {Q : State → Prop} {dC : Nat → ClassId} {dI : Nat → Nat → Nat} {cI cB cJ cZ : ClassId} {A : Nat → Prop} {ad : Nat → Nat} {post : St → Prop} {rec3 : Nat → Int32 → Int32 → Int32 → St → Prop} {rec127 : Nat → Int32 → Int32 → Int32 → Int32 → Int32 → Int32 → St → Prop} (hx : p.tables.exec = Jvm.exec) (hb : c.code = b_Mod_writeRuns) (hml : c.maxLocals = 11) (hown : s.vm.findClass R_Mod = some m.cls) (hT : ∀ w ∈ TG, w.before args s = true) (hK : va_K (dC, dI) CL (TY cI cB cJ cZ) s) (hN : NW s) (hA : ∀ q : Nat, s.heap.size ≤ q → A q) (hRc : cells ≤ R.cells) (hRs : slots ≤ R.slots) (hRf : 2 ≤ R.frames) (hRl : 45 ≤ R.locals) (hret : ∀ (x : St) (H : Heap) (locs : List Loc) (pc : Nat) (ls : Array Slot), decode b_Mod_writeRuns pc = .ok (.return_, 1) → post x → Wd dC dI cI cB cJ cZ ad stM kcM 115 A x H → va_S A s.heap H locs → W p l e R s m args below meth c H locs cells slots Q (F0 m pc ls [])) (hrec3 : ∀ (l1 : Nat) (l2 : Int32) (l3 : Int32) (l4 : Int32) (x : St) (H : Heap) (locs : List Loc) (ls : Array Slot), (l1 < 115 ∧ kcM l1 = 20) → rec3 l1 l2 l3 l4 x → Wd dC dI cI cB cJ cZ ad stM kcM 115 A x H → va_S A s.heap H locs → lv_has ls 11 [(0, .ref (ad 0)), (1, .ref (ad l1)), (2, .int l2), (3, .int l3), (4, .int l4)] → W p l e R s m args below meth c H locs cells slots Q (F0 m 3 ls [])) (hrec127 : ∀ (l1 : Nat) (l2 : Int32) (l3 : Int32) (l4 : Int32) (l5 : Int32) (l6 : Int32) (l7 : Int32) (x : St) (H : Heap) (locs : List Loc) (ls : Array Slot), (l1 < 115 ∧ kcM l1 = 20) → rec127 l1 l2 l3 l4 l5 l6 l7 x → Wd dC dI cI cB cJ cZ ad stM kcM 115 A x H → va_S A s.heap H locs → lv_has ls 11 [(0, .ref (ad 0)), (1, .ref (ad l1)), (2, .int l2), (3, .int l3), (4, .int l4), (5, .int l5), (6, .int l6), (7, .int l7)] → W p l e R s m args below meth c H locs cells slots Q (F0 m 127 ls [])) : ∀ n : Nat, ∀ (l1 : Nat) (l2 : Int32) (l3 : Int32) (l4 : Int32) (l5 : Int32) (l6 : Int32) (l7 : Int32) (l8 : Int32) (l9 : Int32) (x : St) (H : Heap) (locs : List Loc) (ls : Array Slot), (l1 < 115 ∧ kcM l1 = 20) → wl_Mod_writeRuns_145 post rec3 rec127 n l1 l2 l3 l4 l5 l6 l7 l8 l9 x → Wd dC dI cI cB cJ cZ ad stM kcM 115 A x H → va_S A s.heap H locs → lv_has ls 11 [(0, .ref (ad 0)), (1, .ref (ad l1)), (2, .int l2), (3, .int l3), (4, .int l4), (5, .int l5), (6, .int l6), (7, .int l7), (8, .int l8), (9, .int l9)] → W p l e R s m args below meth c H locs cells slots Q (F0 m 145 ls []) := by
  intro n
  induction n with
  | zero => intro l1 l2 l3 l4 l5 l6 l7 l8 l9 x H locs ls fl1 hw; exact hw.elim
  | succ n ih => intro l1 l2 l3 l4 l5 l6 l7 l8 l9 x H locs ls fl1 hw hW hS hl; exact t_Mod_writeRuns_145 hx hb hml hown hT hK hN hA hRc hRs hRf hRl hret hrec3 hrec127 ih l1 l2 l3 l4 l5 l6 l7 l8 l9 x H locs ls fl1 hw hW hS hl
set_option maxRecDepth 100000 in
set_option maxHeartbeats 4000000 in
set_option maxRecDepth 100000 in
theorem t_Mod_writeRuns_127 {p : Program} {l : Launch} {e : Env} {R : Room} {s : State} {m : MethodId} {args : Array Value} {below : List Frame} {meth : Method} {c : Code} {cells slots : Nat} {Q : State → Prop} {dC : Nat → ClassId} {dI : Nat → Nat → Nat} {cI cB cJ cZ : ClassId} {A : Nat → Prop} {ad : Nat → Nat} {post : St → Prop} {rec3 : Nat → Int32 → Int32 → Int32 → St → Prop} {rec127 : Nat → Int32 → Int32 → Int32 → Int32 → Int32 → Int32 → St → Prop} (hx : p.tables.exec = Jvm.exec) (hb : c.code = b_Mod_writeRuns) (hml : c.maxLocals = 11) (hown : s.vm.findClass R_Mod = some m.cls) (hT : ∀ w ∈ TG, w.before args s = true) (hK : va_K (dC, dI) CL (TY cI cB cJ cZ) s) (hN : NW s) (hA : ∀ q : Nat, s.heap.size ≤ q → A q) (hRc : cells ≤ R.cells) (hRs : slots ≤ R.slots) (hRf : 2 ≤ R.frames) (hRl : 45 ≤ R.locals) (hret : ∀ (x : St) (H : Heap) (locs : List Loc) (pc : Nat) (ls : Array Slot), decode b_Mod_writeRuns pc = .ok (.return_, 1) → post x → Wd dC dI cI cB cJ cZ ad stM kcM 115 A x H → va_S A s.heap H locs → W p l e R s m args below meth c H locs cells slots Q (F0 m pc ls [])) (hrec3 : ∀ (l1 : Nat) (l2 : Int32) (l3 : Int32) (l4 : Int32) (x : St) (H : Heap) (locs : List Loc) (ls : Array Slot), (l1 < 115 ∧ kcM l1 = 20) → rec3 l1 l2 l3 l4 x → Wd dC dI cI cB cJ cZ ad stM kcM 115 A x H → va_S A s.heap H locs → lv_has ls 11 [(0, .ref (ad 0)), (1, .ref (ad l1)), (2, .int l2), (3, .int l3), (4, .int l4)] → W p l e R s m args below meth c H locs cells slots Q (F0 m 3 ls [])) (hrec127 : ∀ (l1 : Nat) (l2 : Int32) (l3 : Int32) (l4 : Int32) (l5 : Int32) (l6 : Int32) (l7 : Int32) (x : St) (H : Heap) (locs : List Loc) (ls : Array Slot), (l1 < 115 ∧ kcM l1 = 20) → rec127 l1 l2 l3 l4 l5 l6 l7 x → Wd dC dI cI cB cJ cZ ad stM kcM 115 A x H → va_S A s.heap H locs → lv_has ls 11 [(0, .ref (ad 0)), (1, .ref (ad l1)), (2, .int l2), (3, .int l3), (4, .int l4), (5, .int l5), (6, .int l6), (7, .int l7)] → W p l e R s m args below meth c H locs cells slots Q (F0 m 127 ls [])) : ∀ (l1 : Nat) (l2 : Int32) (l3 : Int32) (l4 : Int32) (l5 : Int32) (l6 : Int32) (l7 : Int32) (x : St) (H : Heap) (locs : List Loc) (ls : Array Slot), (l1 < 115 ∧ kcM l1 = 20) → j_Mod_writeRuns_127 post rec3 rec127 l1 l2 l3 l4 l5 l6 l7 x → Wd dC dI cI cB cJ cZ ad stM kcM 115 A x H → va_S A s.heap H locs → lv_has ls 11 [(0, .ref (ad 0)), (1, .ref (ad l1)), (2, .int l2), (3, .int l3), (4, .int l4), (5, .int l5), (6, .int l6), (7, .int l7)] → W p l e R s m args below meth c H locs cells slots Q (F0 m 127 ls []) := by
  intro l1 l2 l3 l4 l5 l6 l7 x H locs ls fl1 hw hW hS hl
  unfold j_Mod_writeRuns_127 at hw
  refine lv_iload hx hb d_Mod_writeRuns_127 (lv_at hl 7 rfl) ?_
  refine lv_bipush (v := 8) hx hb d_Mod_writeRuns_129 (by decide) ?_
  refine lv_iload_n hx hb d_Mod_writeRuns_131 rfl (lv_at hl 3 rfl) ?_
  refine lv_imul hx hb d_Mod_writeRuns_132 ?_
  refine lv_iload hx hb d_Mod_writeRuns_133 (lv_at hl 6 rfl) ?_
  refine lv_imul hx hb d_Mod_writeRuns_135 ?_
  refine lv_icmp_ge (tgt := 210) hx hb d_Mod_writeRuns_136 (by decide) (fun c513 => ?_) (fun c513 => ?_)
  · have hw := hw.1 c513
    refine lv_iload hx hb d_Mod_writeRuns_210 (lv_at hl 4 rfl) ?_
    refine lv_bipush (v := 8) hx hb d_Mod_writeRuns_212 (by decide) ?_
    refine lv_iload hx hb d_Mod_writeRuns_214 (lv_at hl 6 rfl) ?_
    refine lv_imul hx hb d_Mod_writeRuns_216 ?_
    refine lv_iadd hx hb d_Mod_writeRuns_217 ?_
    refine lv_topi (fun v514 ev514 => ?_)
    have hw := hw v514 ev514
    refine lv_istore (lv' := [(4, .int v514), (0, .ref (ad 0)), (1, .ref (ad l1)), (2, .int l2), (3, .int l3), (5, .int l5), (6, .int l6), (7, .int l7)]) hx hb d_Mod_writeRuns_218 hl (by decide) rfl (fun ls hl => ?_)
    refine lv_goto (tgt := 3) hx hb d_Mod_writeRuns_220 (by decide) ?_
    exact hrec3 l1 l2 l3 v514 x H locs ls fl1 hw hW hS (lv_sub hl [1, 2, 3, 4, 0] rfl)
  · have hw := hw.2 c513
    refine lv_iconst (v := 0) hx hb d_Mod_writeRuns_139 (by decide) ?_
    refine lv_istore (lv' := [(8, .int 0), (0, .ref (ad 0)), (1, .ref (ad l1)), (2, .int l2), (3, .int l3), (4, .int l4), (5, .int l5), (6, .int l6), (7, .int l7)]) hx hb d_Mod_writeRuns_140 hl (by decide) rfl (fun ls hl => ?_)
    refine lv_iconst (v := 0) hx hb d_Mod_writeRuns_142 (by decide) ?_
    refine lv_istore (lv' := [(9, .int 0), (8, .int 0), (0, .ref (ad 0)), (1, .ref (ad l1)), (2, .int l2), (3, .int l3), (4, .int l4), (5, .int l5), (6, .int l6), (7, .int l7)]) hx hb d_Mod_writeRuns_143 hl (by decide) rfl (fun ls hl => ?_)
    obtain ⟨n, hw⟩ := hw
    exact tl_Mod_writeRuns_145 hx hb hml hown hT hK hN hA hRc hRs hRf hRl hret hrec3 hrec127 n l1 l2 l3 l4 l5 l6 l7 0 0 x H locs ls fl1 hw hW hS (lv_sub hl [2, 3, 4, 5, 6, 7, 8, 9, 1, 0] rfl)
set_option maxHeartbeats 4000000 in
set_option maxRecDepth 100000 in
theorem tl_Mod_writeRuns_127 {p : Program} {l : Launch} {e : Env} {R : Room} {s : State} {m : MethodId} {args : Array Value} {below : List Frame} {meth : Method} {c : Code} {cells slots : Nat} {Q : State → Prop} {dC : Nat → ClassId} {dI : Nat → Nat → Nat} {cI cB cJ cZ : ClassId} {A : Nat → Prop} {ad : Nat → Nat} {post : St → Prop} {rec3 : Nat → Int32 → Int32 → Int32 → St → Prop} (hx : p.tables.exec = Jvm.exec) (hb : c.code = b_Mod_writeRuns) (hml : c.maxLocals = 11) (hown : s.vm.findClass R_Mod = some m.cls) (hT : ∀ w ∈ TG, w.before args s = true) (hK : va_K (dC, dI) CL (TY cI cB cJ cZ) s) (hN : NW s) (hA : ∀ q : Nat, s.heap.size ≤ q → A q) (hRc : cells ≤ R.cells) (hRs : slots ≤ R.slots) (hRf : 2 ≤ R.frames) (hRl : 45 ≤ R.locals) (hret : ∀ (x : St) (H : Heap) (locs : List Loc) (pc : Nat) (ls : Array Slot), decode b_Mod_writeRuns pc = .ok (.return_, 1) → post x → Wd dC dI cI cB cJ cZ ad stM kcM 115 A x H → va_S A s.heap H locs → W p l e R s m args below meth c H locs cells slots Q (F0 m pc ls [])) (hrec3 : ∀ (l1 : Nat) (l2 : Int32) (l3 : Int32) (l4 : Int32) (x : St) (H : Heap) (locs : List Loc) (ls : Array Slot), (l1 < 115 ∧ kcM l1 = 20) → rec3 l1 l2 l3 l4 x → Wd dC dI cI cB cJ cZ ad stM kcM 115 A x H → va_S A s.heap H locs → lv_has ls 11 [(0, .ref (ad 0)), (1, .ref (ad l1)), (2, .int l2), (3, .int l3), (4, .int l4)] → W p l e R s m args below meth c H locs cells slots Q (F0 m 3 ls [])) : ∀ n : Nat, ∀ (l1 : Nat) (l2 : Int32) (l3 : Int32) (l4 : Int32) (l5 : Int32) (l6 : Int32) (l7 : Int32) (x : St) (H : Heap) (locs : List Loc) (ls : Array Slot), (l1 < 115 ∧ kcM l1 = 20) → wl_Mod_writeRuns_127 post rec3 n l1 l2 l3 l4 l5 l6 l7 x → Wd dC dI cI cB cJ cZ ad stM kcM 115 A x H → va_S A s.heap H locs → lv_has ls 11 [(0, .ref (ad 0)), (1, .ref (ad l1)), (2, .int l2), (3, .int l3), (4, .int l4), (5, .int l5), (6, .int l6), (7, .int l7)] → W p l e R s m args below meth c H locs cells slots Q (F0 m 127 ls []) := by
  intro n
  induction n with
  | zero => intro l1 l2 l3 l4 l5 l6 l7 x H locs ls fl1 hw; exact hw.elim
  | succ n ih => intro l1 l2 l3 l4 l5 l6 l7 x H locs ls fl1 hw hW hS hl; exact t_Mod_writeRuns_127 hx hb hml hown hT hK hN hA hRc hRs hRf hRl hret hrec3 ih l1 l2 l3 l4 l5 l6 l7 x H locs ls fl1 hw hW hS hl
set_option maxRecDepth 100000 in
set_option maxHeartbeats 4000000 in
set_option maxRecDepth 100000 in
theorem t_Mod_writeRuns_111 {p : Program} {l : Launch} {e : Env} {R : Room} {s : State} {m : MethodId} {args : Array Value} {below : List Frame} {meth : Method} {c : Code} {cells slots : Nat} {Q : State → Prop} {dC : Nat → ClassId} {dI : Nat → Nat → Nat} {cI cB cJ cZ : ClassId} {A : Nat → Prop} {ad : Nat → Nat} {post : St → Prop} {rec3 : Nat → Int32 → Int32 → Int32 → St → Prop} (hx : p.tables.exec = Jvm.exec) (hb : c.code = b_Mod_writeRuns) (hml : c.maxLocals = 11) (hown : s.vm.findClass R_Mod = some m.cls) (hT : ∀ w ∈ TG, w.before args s = true) (hK : va_K (dC, dI) CL (TY cI cB cJ cZ) s) (hN : NW s) (hA : ∀ q : Nat, s.heap.size ≤ q → A q) (hRc : cells ≤ R.cells) (hRs : slots ≤ R.slots) (hRf : 2 ≤ R.frames) (hRl : 45 ≤ R.locals) (hret : ∀ (x : St) (H : Heap) (locs : List Loc) (pc : Nat) (ls : Array Slot), decode b_Mod_writeRuns pc = .ok (.return_, 1) → post x → Wd dC dI cI cB cJ cZ ad stM kcM 115 A x H → va_S A s.heap H locs → W p l e R s m args below meth c H locs cells slots Q (F0 m pc ls [])) (hrec3 : ∀ (l1 : Nat) (l2 : Int32) (l3 : Int32) (l4 : Int32) (x : St) (H : Heap) (locs : List Loc) (ls : Array Slot), (l1 < 115 ∧ kcM l1 = 20) → rec3 l1 l2 l3 l4 x → Wd dC dI cI cB cJ cZ ad stM kcM 115 A x H → va_S A s.heap H locs → lv_has ls 11 [(0, .ref (ad 0)), (1, .ref (ad l1)), (2, .int l2), (3, .int l3), (4, .int l4)] → W p l e R s m args below meth c H locs cells slots Q (F0 m 3 ls [])) : ∀ (l1 : Nat) (l2 : Int32) (l3 : Int32) (l4 : Int32) (l5 : Int32) (l6 : Int32) (x : St) (H : Heap) (locs : List Loc) (ls : Array Slot), (l1 < 115 ∧ kcM l1 = 20) → j_Mod_writeRuns_111 post rec3 l1 l2 l3 l4 l5 l6 x → Wd dC dI cI cB cJ cZ ad stM kcM 115 A x H → va_S A s.heap H locs → lv_has ls 11 [(0, .ref (ad 0)), (1, .ref (ad l1)), (2, .int l2), (3, .int l3), (4, .int l4), (5, .int l5), (6, .int l6)] → W p l e R s m args below meth c H locs cells slots Q (F0 m 111 ls []) := by
  intro l1 l2 l3 l4 l5 l6 x H locs ls fl1 hw hW hS hl
  unfold j_Mod_writeRuns_111 at hw
  refine lv_aload_n hx hb d_Mod_writeRuns_111 rfl (lv_at hl 0 rfl) ?_
  refine lv_ldc2 hx hb hown (hT _ w_11_190) d_Mod_writeRuns_112 ?_
  refine lv_iload hx hb d_Mod_writeRuns_115 (lv_at hl 6 rfl) ?_
  refine lv_i2l hx hb d_Mod_writeRuns_117 rfl ?_
  refine lv_lmul hx hb d_Mod_writeRuns_118 ?_
  refine lv_lconst (v := 1) hx hb d_Mod_writeRuns_119 (by decide) ?_
  refine lv_ladd hx hb d_Mod_writeRuns_120 ?_
  have hF := hW.free hS hA
  refine va_callv (va_runV (C := R_Mod) (As := [.long ((2 * (l6 : Int32).toInt64) + 1)]) (rest := []) ⟨hx, hb, hml, hown, hT⟩ (k_Mod_putVarint l dC dI cI cB cJ cZ ad H.size ((2 * (l6 : Int32).toInt64) + 1) x  hw) ⟨callB_of 1 hT (gwt_in w_11_194) rfl rfl rfl (hT _ w_1_15) (hT _ w_11_191) (by decide +kernel) ⟨Nat.le_trans (Nat.le_of_ble_eq_true rfl) hRf, Nat.le_trans (Nat.le_of_ble_eq_true rfl) hRl⟩, hT _ w_11_193, hT _ ws_152⟩ ⟨PW.blind, va_recv hK hW.1 (ci := 12) (q0 := 0) rfl (pic_obj ko_0.1 ko_0.2 (by decide)), PW.at _ hW hK hN⟩ rfl rfl hl.1 rfl (lv_room (Nat.le_of_ble_eq_true rfl)) d_Mod_writeRuns_121 ⟨hRc, hRs⟩) hS (fun q _ h => hF q h) hF (fun  x515 t H locs ht hvm hw hB hz1 hk1 hS => ?_)
  have hW := Wd.back hB ht hF
  clear hB ht hF hz1 hk1 hvm
  refine lv_iconst (v := 0) hx hb d_Mod_writeRuns_124 (by decide) ?_
  refine lv_istore (lv' := [(7, .int 0), (0, .ref (ad 0)), (1, .ref (ad l1)), (2, .int l2), (3, .int l3), (4, .int l4), (5, .int l5), (6, .int l6)]) hx hb d_Mod_writeRuns_125 hl (by decide) rfl (fun ls hl => ?_)
  obtain ⟨n, hw⟩ := hw
  exact tl_Mod_writeRuns_127 hx hb hml hown hT hK hN hA hRc hRs hRf hRl hret hrec3 n l1 l2 l3 l4 l5 l6 0 x515 H locs ls fl1 hw hW hS (lv_sub hl [1, 2, 3, 4, 5, 6, 7, 0] rfl)
set_option maxRecDepth 100000 in
set_option maxHeartbeats 4000000 in
set_option maxRecDepth 100000 in
theorem t_Mod_writeRuns_75 {p : Program} {l : Launch} {e : Env} {R : Room} {s : State} {m : MethodId} {args : Array Value} {below : List Frame} {meth : Method} {c : Code} {cells slots : Nat} {Q : State → Prop} {dC : Nat → ClassId} {dI : Nat → Nat → Nat} {cI cB cJ cZ : ClassId} {A : Nat → Prop} {ad : Nat → Nat} {post : St → Prop} {rec3 : Nat → Int32 → Int32 → Int32 → St → Prop} {rec75 : Nat → Int32 → Int32 → Int32 → Int32 → Int32 → St → Prop} (hx : p.tables.exec = Jvm.exec) (hb : c.code = b_Mod_writeRuns) (hml : c.maxLocals = 11) (hown : s.vm.findClass R_Mod = some m.cls) (hT : ∀ w ∈ TG, w.before args s = true) (hK : va_K (dC, dI) CL (TY cI cB cJ cZ) s) (hN : NW s) (hA : ∀ q : Nat, s.heap.size ≤ q → A q) (hRc : cells ≤ R.cells) (hRs : slots ≤ R.slots) (hRf : 2 ≤ R.frames) (hRl : 45 ≤ R.locals) (hret : ∀ (x : St) (H : Heap) (locs : List Loc) (pc : Nat) (ls : Array Slot), decode b_Mod_writeRuns pc = .ok (.return_, 1) → post x → Wd dC dI cI cB cJ cZ ad stM kcM 115 A x H → va_S A s.heap H locs → W p l e R s m args below meth c H locs cells slots Q (F0 m pc ls [])) (hrec3 : ∀ (l1 : Nat) (l2 : Int32) (l3 : Int32) (l4 : Int32) (x : St) (H : Heap) (locs : List Loc) (ls : Array Slot), (l1 < 115 ∧ kcM l1 = 20) → rec3 l1 l2 l3 l4 x → Wd dC dI cI cB cJ cZ ad stM kcM 115 A x H → va_S A s.heap H locs → lv_has ls 11 [(0, .ref (ad 0)), (1, .ref (ad l1)), (2, .int l2), (3, .int l3), (4, .int l4)] → W p l e R s m args below meth c H locs cells slots Q (F0 m 3 ls [])) (hrec75 : ∀ (l1 : Nat) (l2 : Int32) (l3 : Int32) (l4 : Int32) (l5 : Int32) (l6 : Int32) (x : St) (H : Heap) (locs : List Loc) (ls : Array Slot), (l1 < 115 ∧ kcM l1 = 20) → rec75 l1 l2 l3 l4 l5 l6 x → Wd dC dI cI cB cJ cZ ad stM kcM 115 A x H → va_S A s.heap H locs → lv_has ls 11 [(0, .ref (ad 0)), (1, .ref (ad l1)), (2, .int l2), (3, .int l3), (4, .int l4), (5, .int l5), (6, .int l6)] → W p l e R s m args below meth c H locs cells slots Q (F0 m 75 ls [])) : ∀ (l1 : Nat) (l2 : Int32) (l3 : Int32) (l4 : Int32) (l5 : Int32) (l6 : Int32) (x : St) (H : Heap) (locs : List Loc) (ls : Array Slot), (l1 < 115 ∧ kcM l1 = 20) → j_Mod_writeRuns_75 post rec3 rec75 l1 l2 l3 l4 l5 l6 x → Wd dC dI cI cB cJ cZ ad stM kcM 115 A x H → va_S A s.heap H locs → lv_has ls 11 [(0, .ref (ad 0)), (1, .ref (ad l1)), (2, .int l2), (3, .int l3), (4, .int l4), (5, .int l5), (6, .int l6)] → W p l e R s m args below meth c H locs cells slots Q (F0 m 75 ls []) := by
  intro l1 l2 l3 l4 l5 l6 x H locs ls fl1 hw hW hS hl
  unfold j_Mod_writeRuns_75 at hw
  refine lv_iload hx hb d_Mod_writeRuns_75 (lv_at hl 4 rfl) ?_
  refine lv_bipush (v := 8) hx hb d_Mod_writeRuns_77 (by decide) ?_
  refine lv_iload hx hb d_Mod_writeRuns_79 (lv_at hl 6 rfl) ?_
  refine lv_imul hx hb d_Mod_writeRuns_81 ?_
  refine lv_iadd hx hb d_Mod_writeRuns_82 ?_
  refine lv_iload_n hx hb d_Mod_writeRuns_83 rfl (lv_at hl 2 rfl) ?_
  refine lv_icmp_ge (tgt := 111) hx hb d_Mod_writeRuns_84 (by decide) (fun c516 => ?_) (fun c516 => ?_)
  · have hw := hw.1 c516
    exact t_Mod_writeRuns_111 hx hb hml hown hT hK hN hA hRc hRs hRf hRl hret hrec3 l1 l2 l3 l4 l5 l6 x H locs ls fl1 hw hW hS (lv_sub hl [0, 1, 2, 3, 4, 5, 6] rfl)
  · have hw := hw.2 c516
    refine lv_aload_n hx hb d_Mod_writeRuns_87 rfl (lv_at hl 1 rfl) ?_
    refine lv_iload hx hb d_Mod_writeRuns_88 (lv_at hl 4 rfl) ?_
    refine lv_bipush (v := 8) hx hb d_Mod_writeRuns_90 (by decide) ?_
    refine lv_iload hx hb d_Mod_writeRuns_92 (lv_at hl 6 rfl) ?_
    refine lv_imul hx hb d_Mod_writeRuns_94 ?_
    refine lv_iadd hx hb d_Mod_writeRuns_95 ?_
    refine lv_iload_n hx hb d_Mod_writeRuns_96 rfl (lv_at hl 2 rfl) ?_
    have hF := hW.free hS hA
    refine va_calli (va_runS (As := [.ref (ad l1), .int (l4 + (8 * l6)), .int l2]) (rest := []) ⟨hx, hb, hml, hown, hT⟩ (k_Mod_alike l dC dI cI cB cJ cZ ad H.size l1 (l4 + (8 * l6)) l2 x fl1 hw) ⟨callB_of 3 hT (gwt_in w_11_189) rfl rfl rfl (hT _ w_1_15) (hT _ w_11_187) (by decide +kernel) ⟨Nat.le_trans (Nat.le_of_ble_eq_true rfl) hRf, Nat.le_trans (Nat.le_of_ble_eq_true rfl) hRl⟩, hT _ w_11_188⟩ ⟨PW.blind, PW.at _ hW hK hN⟩ rfl rfl hl.1 rfl (lv_room (Nat.le_of_ble_eq_true rfl)) d_Mod_writeRuns_97 ⟨hRc, hRs⟩) hS (fun q _ h => hF q h) hF (fun r518 x517 t H locs ht hvm hw hB hz1 hk1 hS => ?_)
    have hW := Wd.back hB ht hF
    clear hB ht hF hz1 hk1 hvm
    refine lv_bipush (v := 8) hx hb d_Mod_writeRuns_100 (by decide) ?_
    refine lv_icmp_ge (tgt := 111) hx hb d_Mod_writeRuns_102 (by decide) (fun c519 => ?_) (fun c519 => ?_)
    · have hw := hw.1 c519
      exact t_Mod_writeRuns_111 hx hb hml hown hT hK hN hA hRc hRs hRf hRl hret hrec3 l1 l2 l3 l4 l5 l6 x517 H locs ls fl1 hw hW hS (lv_sub hl [0, 1, 2, 3, 4, 5, 6] rfl)
    · have hw := hw.2 c519
      refine lv_iinc (v := (l6 + 1)) (lv' := [(6, .int (l6 + 1)), (0, .ref (ad 0)), (1, .ref (ad l1)), (2, .int l2), (3, .int l3), (4, .int l4), (5, .int l5)]) hx hb d_Mod_writeRuns_105 hl (k := 6) rfl rfl (by decide) rfl (fun ls hl => ?_)
      refine lv_goto (tgt := 75) hx hb d_Mod_writeRuns_108 (by decide) ?_
      exact hrec75 l1 l2 l3 l4 l5 (l6 + 1) x517 H locs ls fl1 hw hW hS (lv_sub hl [1, 2, 3, 4, 5, 6, 0] rfl)
set_option maxHeartbeats 4000000 in
set_option maxRecDepth 100000 in
theorem tl_Mod_writeRuns_75 {p : Program} {l : Launch} {e : Env} {R : Room} {s : State} {m : MethodId} {args : Array Value} {below : List Frame} {meth : Method} {c : Code} {cells slots : Nat} {Q : State → Prop} {dC : Nat → ClassId} {dI : Nat → Nat → Nat} {cI cB cJ cZ : ClassId} {A : Nat → Prop} {ad : Nat → Nat} {post : St → Prop} {rec3 : Nat → Int32 → Int32 → Int32 → St → Prop} (hx : p.tables.exec = Jvm.exec) (hb : c.code = b_Mod_writeRuns) (hml : c.maxLocals = 11) (hown : s.vm.findClass R_Mod = some m.cls) (hT : ∀ w ∈ TG, w.before args s = true) (hK : va_K (dC, dI) CL (TY cI cB cJ cZ) s) (hN : NW s) (hA : ∀ q : Nat, s.heap.size ≤ q → A q) (hRc : cells ≤ R.cells) (hRs : slots ≤ R.slots) (hRf : 2 ≤ R.frames) (hRl : 45 ≤ R.locals) (hret : ∀ (x : St) (H : Heap) (locs : List Loc) (pc : Nat) (ls : Array Slot), decode b_Mod_writeRuns pc = .ok (.return_, 1) → post x → Wd dC dI cI cB cJ cZ ad stM kcM 115 A x H → va_S A s.heap H locs → W p l e R s m args below meth c H locs cells slots Q (F0 m pc ls [])) (hrec3 : ∀ (l1 : Nat) (l2 : Int32) (l3 : Int32) (l4 : Int32) (x : St) (H : Heap) (locs : List Loc) (ls : Array Slot), (l1 < 115 ∧ kcM l1 = 20) → rec3 l1 l2 l3 l4 x → Wd dC dI cI cB cJ cZ ad stM kcM 115 A x H → va_S A s.heap H locs → lv_has ls 11 [(0, .ref (ad 0)), (1, .ref (ad l1)), (2, .int l2), (3, .int l3), (4, .int l4)] → W p l e R s m args below meth c H locs cells slots Q (F0 m 3 ls [])) : ∀ n : Nat, ∀ (l1 : Nat) (l2 : Int32) (l3 : Int32) (l4 : Int32) (l5 : Int32) (l6 : Int32) (x : St) (H : Heap) (locs : List Loc) (ls : Array Slot), (l1 < 115 ∧ kcM l1 = 20) → wl_Mod_writeRuns_75 post rec3 n l1 l2 l3 l4 l5 l6 x → Wd dC dI cI cB cJ cZ ad stM kcM 115 A x H → va_S A s.heap H locs → lv_has ls 11 [(0, .ref (ad 0)), (1, .ref (ad l1)), (2, .int l2), (3, .int l3), (4, .int l4), (5, .int l5), (6, .int l6)] → W p l e R s m args below meth c H locs cells slots Q (F0 m 75 ls []) := by
  intro n
  induction n with
  | zero => intro l1 l2 l3 l4 l5 l6 x H locs ls fl1 hw; exact hw.elim
  | succ n ih => intro l1 l2 l3 l4 l5 l6 x H locs ls fl1 hw hW hS hl; exact t_Mod_writeRuns_75 hx hb hml hown hT hK hN hA hRc hRs hRf hRl hret hrec3 ih l1 l2 l3 l4 l5 l6 x H locs ls fl1 hw hW hS hl
set_option maxRecDepth 100000 in
set_option maxHeartbeats 4000000 in
set_option maxRecDepth 100000 in
theorem t_Mod_writeRuns_39 {p : Program} {l : Launch} {e : Env} {R : Room} {s : State} {m : MethodId} {args : Array Value} {below : List Frame} {meth : Method} {c : Code} {cells slots : Nat} {Q : State → Prop} {dC : Nat → ClassId} {dI : Nat → Nat → Nat} {cI cB cJ cZ : ClassId} {A : Nat → Prop} {ad : Nat → Nat} {post : St → Prop} {rec3 : Nat → Int32 → Int32 → Int32 → St → Prop} {rec39 : Nat → Int32 → Int32 → Int32 → Int32 → Int32 → St → Prop} (hx : p.tables.exec = Jvm.exec) (hb : c.code = b_Mod_writeRuns) (hml : c.maxLocals = 11) (hown : s.vm.findClass R_Mod = some m.cls) (hT : ∀ w ∈ TG, w.before args s = true) (hK : va_K (dC, dI) CL (TY cI cB cJ cZ) s) (hN : NW s) (hA : ∀ q : Nat, s.heap.size ≤ q → A q) (hRc : cells ≤ R.cells) (hRs : slots ≤ R.slots) (hRf : 2 ≤ R.frames) (hRl : 45 ≤ R.locals) (hret : ∀ (x : St) (H : Heap) (locs : List Loc) (pc : Nat) (ls : Array Slot), decode b_Mod_writeRuns pc = .ok (.return_, 1) → post x → Wd dC dI cI cB cJ cZ ad stM kcM 115 A x H → va_S A s.heap H locs → W p l e R s m args below meth c H locs cells slots Q (F0 m pc ls [])) (hrec3 : ∀ (l1 : Nat) (l2 : Int32) (l3 : Int32) (l4 : Int32) (x : St) (H : Heap) (locs : List Loc) (ls : Array Slot), (l1 < 115 ∧ kcM l1 = 20) → rec3 l1 l2 l3 l4 x → Wd dC dI cI cB cJ cZ ad stM kcM 115 A x H → va_S A s.heap H locs → lv_has ls 11 [(0, .ref (ad 0)), (1, .ref (ad l1)), (2, .int l2), (3, .int l3), (4, .int l4)] → W p l e R s m args below meth c H locs cells slots Q (F0 m 3 ls [])) (hrec39 : ∀ (l1 : Nat) (l2 : Int32) (l3 : Int32) (l4 : Int32) (l5 : Int32) (l6 : Int32) (x : St) (H : Heap) (locs : List Loc) (ls : Array Slot), (l1 < 115 ∧ kcM l1 = 20) → rec39 l1 l2 l3 l4 l5 l6 x → Wd dC dI cI cB cJ cZ ad stM kcM 115 A x H → va_S A s.heap H locs → lv_has ls 11 [(0, .ref (ad 0)), (1, .ref (ad l1)), (2, .int l2), (3, .int l3), (4, .int l4), (5, .int l5), (6, .int l6)] → W p l e R s m args below meth c H locs cells slots Q (F0 m 39 ls [])) : ∀ (l1 : Nat) (l2 : Int32) (l3 : Int32) (l4 : Int32) (l5 : Int32) (l6 : Int32) (x : St) (H : Heap) (locs : List Loc) (ls : Array Slot), (l1 < 115 ∧ kcM l1 = 20) → j_Mod_writeRuns_39 post rec3 rec39 l1 l2 l3 l4 l5 l6 x → Wd dC dI cI cB cJ cZ ad stM kcM 115 A x H → va_S A s.heap H locs → lv_has ls 11 [(0, .ref (ad 0)), (1, .ref (ad l1)), (2, .int l2), (3, .int l3), (4, .int l4), (5, .int l5), (6, .int l6)] → W p l e R s m args below meth c H locs cells slots Q (F0 m 39 ls []) := by
  intro l1 l2 l3 l4 l5 l6 x H locs ls fl1 hw hW hS hl
  unfold j_Mod_writeRuns_39 at hw
  refine lv_iload hx hb d_Mod_writeRuns_39 (lv_at hl 6 rfl) ?_
  refine lv_iload_n hx hb d_Mod_writeRuns_41 rfl (lv_at hl 3 rfl) ?_
  refine lv_icmp_ge (tgt := 62) hx hb d_Mod_writeRuns_42 (by decide) (fun c520 => ?_) (fun c520 => ?_)
  · have hw := hw.1 c520
    refine lv_iload hx hb d_Mod_writeRuns_62 (lv_at hl 4 rfl) ?_
    refine lv_iload hx hb d_Mod_writeRuns_64 (lv_at hl 5 rfl) ?_
    refine lv_iadd hx hb d_Mod_writeRuns_66 ?_
    refine lv_topi (fun v521 ev521 => ?_)
    have hw := hw v521 ev521
    refine lv_istore (lv' := [(4, .int v521), (0, .ref (ad 0)), (1, .ref (ad l1)), (2, .int l2), (3, .int l3), (5, .int l5), (6, .int l6)]) hx hb d_Mod_writeRuns_67 hl (by decide) rfl (fun ls hl => ?_)
    refine lv_goto (tgt := 3) hx hb d_Mod_writeRuns_69 (by decide) ?_
    exact hrec3 l1 l2 l3 v521 x H locs ls fl1 hw hW hS (lv_sub hl [1, 2, 3, 4, 0] rfl)
  · have hw := hw.2 c520
    refine lv_aload_n hx hb d_Mod_writeRuns_45 rfl (lv_at hl 0 rfl) ?_
    refine lv_aload_n hx hb d_Mod_writeRuns_46 rfl (lv_at hl 1 rfl) ?_
    refine lv_iload hx hb d_Mod_writeRuns_47 (lv_at hl 4 rfl) ?_
    obtain ⟨hi, hw⟩ := hw
    refine w_iald (o := l1) hx hb hK hW fl1.1 fl1.2 hi d_Mod_writeRuns_49 ?_
    refine lv_iload hx hb d_Mod_writeRuns_50 (lv_at hl 6 rfl) ?_
    refine lv_ishr hx hb d_Mod_writeRuns_52 ?_
    have hF := hW.free hS hA
    refine va_callv (va_runV (C := R_Mod) (As := [.int ((rA x l1 l4) >>> (l6 &&& 31))]) (rest := []) ⟨hx, hb, hml, hown, hT⟩ (k_Mod_put l dC dI cI cB cJ cZ ad H.size ((rA x l1 l4) >>> (l6 &&& 31)) x  hw) ⟨callB_of 1 hT (gwt_in w_11_199) rfl rfl rfl (hT _ w_1_15) (hT _ w_11_196) (by decide +kernel) ⟨Nat.le_trans (Nat.le_of_ble_eq_true rfl) hRf, Nat.le_trans (Nat.le_of_ble_eq_true rfl) hRl⟩, hT _ w_11_198, hT _ ws_153⟩ ⟨PW.blind, va_recv hK hW.1 (ci := 12) (q0 := 0) rfl (pic_obj ko_0.1 ko_0.2 (by decide)), PW.at _ hW hK hN⟩ rfl rfl hl.1 rfl (lv_room (Nat.le_of_ble_eq_true rfl)) d_Mod_writeRuns_53 ⟨hRc, hRs⟩) hS (fun q _ h => hF q h) hF (fun  x522 t H locs ht hvm hw hB hz1 hk1 hS => ?_)
    have hW := Wd.back hB ht hF
    clear hB ht hF hz1 hk1 hvm
    refine lv_iinc (v := (l6 + 8)) (lv' := [(6, .int (l6 + 8)), (0, .ref (ad 0)), (1, .ref (ad l1)), (2, .int l2), (3, .int l3), (4, .int l4), (5, .int l5)]) hx hb d_Mod_writeRuns_56 hl (k := 6) rfl rfl (by decide) rfl (fun ls hl => ?_)
    refine lv_goto (tgt := 39) hx hb d_Mod_writeRuns_59 (by decide) ?_
    exact hrec39 l1 l2 l3 l4 l5 (l6 + 8) x522 H locs ls fl1 hw hW hS (lv_sub hl [1, 2, 3, 4, 5, 6, 0] rfl)
set_option maxHeartbeats 4000000 in
set_option maxRecDepth 100000 in
theorem tl_Mod_writeRuns_39 {p : Program} {l : Launch} {e : Env} {R : Room} {s : State} {m : MethodId} {args : Array Value} {below : List Frame} {meth : Method} {c : Code} {cells slots : Nat} {Q : State → Prop} {dC : Nat → ClassId} {dI : Nat → Nat → Nat} {cI cB cJ cZ : ClassId} {A : Nat → Prop} {ad : Nat → Nat} {post : St → Prop} {rec3 : Nat → Int32 → Int32 → Int32 → St → Prop} (hx : p.tables.exec = Jvm.exec) (hb : c.code = b_Mod_writeRuns) (hml : c.maxLocals = 11) (hown : s.vm.findClass R_Mod = some m.cls) (hT : ∀ w ∈ TG, w.before args s = true) (hK : va_K (dC, dI) CL (TY cI cB cJ cZ) s) (hN : NW s) (hA : ∀ q : Nat, s.heap.size ≤ q → A q) (hRc : cells ≤ R.cells) (hRs : slots ≤ R.slots) (hRf : 2 ≤ R.frames) (hRl : 45 ≤ R.locals) (hret : ∀ (x : St) (H : Heap) (locs : List Loc) (pc : Nat) (ls : Array Slot), decode b_Mod_writeRuns pc = .ok (.return_, 1) → post x → Wd dC dI cI cB cJ cZ ad stM kcM 115 A x H → va_S A s.heap H locs → W p l e R s m args below meth c H locs cells slots Q (F0 m pc ls [])) (hrec3 : ∀ (l1 : Nat) (l2 : Int32) (l3 : Int32) (l4 : Int32) (x : St) (H : Heap) (locs : List Loc) (ls : Array Slot), (l1 < 115 ∧ kcM l1 = 20) → rec3 l1 l2 l3 l4 x → Wd dC dI cI cB cJ cZ ad stM kcM 115 A x H → va_S A s.heap H locs → lv_has ls 11 [(0, .ref (ad 0)), (1, .ref (ad l1)), (2, .int l2), (3, .int l3), (4, .int l4)] → W p l e R s m args below meth c H locs cells slots Q (F0 m 3 ls [])) : ∀ n : Nat, ∀ (l1 : Nat) (l2 : Int32) (l3 : Int32) (l4 : Int32) (l5 : Int32) (l6 : Int32) (x : St) (H : Heap) (locs : List Loc) (ls : Array Slot), (l1 < 115 ∧ kcM l1 = 20) → wl_Mod_writeRuns_39 post rec3 n l1 l2 l3 l4 l5 l6 x → Wd dC dI cI cB cJ cZ ad stM kcM 115 A x H → va_S A s.heap H locs → lv_has ls 11 [(0, .ref (ad 0)), (1, .ref (ad l1)), (2, .int l2), (3, .int l3), (4, .int l4), (5, .int l5), (6, .int l6)] → W p l e R s m args below meth c H locs cells slots Q (F0 m 39 ls []) := by
  intro n
  induction n with
  | zero => intro l1 l2 l3 l4 l5 l6 x H locs ls fl1 hw; exact hw.elim
  | succ n ih => intro l1 l2 l3 l4 l5 l6 x H locs ls fl1 hw hW hS hl; exact t_Mod_writeRuns_39 hx hb hml hown hT hK hN hA hRc hRs hRf hRl hret hrec3 ih l1 l2 l3 l4 l5 l6 x H locs ls fl1 hw hW hS hl
set_option maxRecDepth 100000 in
set_option maxHeartbeats 4000000 in
set_option maxRecDepth 100000 in
theorem t_Mod_writeRuns_3 {p : Program} {l : Launch} {e : Env} {R : Room} {s : State} {m : MethodId} {args : Array Value} {below : List Frame} {meth : Method} {c : Code} {cells slots : Nat} {Q : State → Prop} {dC : Nat → ClassId} {dI : Nat → Nat → Nat} {cI cB cJ cZ : ClassId} {A : Nat → Prop} {ad : Nat → Nat} {post : St → Prop} {rec3 : Nat → Int32 → Int32 → Int32 → St → Prop} (hx : p.tables.exec = Jvm.exec) (hb : c.code = b_Mod_writeRuns) (hml : c.maxLocals = 11) (hown : s.vm.findClass R_Mod = some m.cls) (hT : ∀ w ∈ TG, w.before args s = true) (hK : va_K (dC, dI) CL (TY cI cB cJ cZ) s) (hN : NW s) (hA : ∀ q : Nat, s.heap.size ≤ q → A q) (hRc : cells ≤ R.cells) (hRs : slots ≤ R.slots) (hRf : 2 ≤ R.frames) (hRl : 45 ≤ R.locals) (hret : ∀ (x : St) (H : Heap) (locs : List Loc) (pc : Nat) (ls : Array Slot), decode b_Mod_writeRuns pc = .ok (.return_, 1) → post x → Wd dC dI cI cB cJ cZ ad stM kcM 115 A x H → va_S A s.heap H locs → W p l e R s m args below meth c H locs cells slots Q (F0 m pc ls [])) (hrec3 : ∀ (l1 : Nat) (l2 : Int32) (l3 : Int32) (l4 : Int32) (x : St) (H : Heap) (locs : List Loc) (ls : Array Slot), (l1 < 115 ∧ kcM l1 = 20) → rec3 l1 l2 l3 l4 x → Wd dC dI cI cB cJ cZ ad stM kcM 115 A x H → va_S A s.heap H locs → lv_has ls 11 [(0, .ref (ad 0)), (1, .ref (ad l1)), (2, .int l2), (3, .int l3), (4, .int l4)] → W p l e R s m args below meth c H locs cells slots Q (F0 m 3 ls [])) : ∀ (l1 : Nat) (l2 : Int32) (l3 : Int32) (l4 : Int32) (x : St) (H : Heap) (locs : List Loc) (ls : Array Slot), (l1 < 115 ∧ kcM l1 = 20) → j_Mod_writeRuns_3 post rec3 l1 l2 l3 l4 x → Wd dC dI cI cB cJ cZ ad stM kcM 115 A x H → va_S A s.heap H locs → lv_has ls 11 [(0, .ref (ad 0)), (1, .ref (ad l1)), (2, .int l2), (3, .int l3), (4, .int l4)] → W p l e R s m args below meth c H locs cells slots Q (F0 m 3 ls []) := by
  intro l1 l2 l3 l4 x H locs ls fl1 hw hW hS hl
  unfold j_Mod_writeRuns_3 at hw
  refine lv_iload hx hb d_Mod_writeRuns_3 (lv_at hl 4 rfl) ?_
  refine lv_iload_n hx hb d_Mod_writeRuns_5 rfl (lv_at hl 2 rfl) ?_
  refine lv_icmp_ge (tgt := 223) hx hb d_Mod_writeRuns_6 (by decide) (fun c523 => ?_) (fun c523 => ?_)
  · have hw := hw.1 c523
    exact hret x H locs 223 ls d_Mod_writeRuns_223 hw hW hS
  · have hw := hw.2 c523
    refine lv_aload_n hx hb d_Mod_writeRuns_9 rfl (lv_at hl 1 rfl) ?_
    refine lv_iload hx hb d_Mod_writeRuns_10 (lv_at hl 4 rfl) ?_
    refine lv_iload_n hx hb d_Mod_writeRuns_12 rfl (lv_at hl 2 rfl) ?_
    have hF := hW.free hS hA
    refine va_calli (va_runS (As := [.ref (ad l1), .int l4, .int l2]) (rest := []) ⟨hx, hb, hml, hown, hT⟩ (k_Mod_alike l dC dI cI cB cJ cZ ad H.size l1 l4 l2 x fl1 hw) ⟨callB_of 3 hT (gwt_in w_11_189) rfl rfl rfl (hT _ w_1_15) (hT _ w_11_187) (by decide +kernel) ⟨Nat.le_trans (Nat.le_of_ble_eq_true rfl) hRf, Nat.le_trans (Nat.le_of_ble_eq_true rfl) hRl⟩, hT _ w_11_188⟩ ⟨PW.blind, PW.at _ hW hK hN⟩ rfl rfl hl.1 rfl (lv_room (Nat.le_of_ble_eq_true rfl)) d_Mod_writeRuns_13 ⟨hRc, hRs⟩) hS (fun q _ h => hF q h) hF (fun r525 x524 t H locs ht hvm hw hB hz1 hk1 hS => ?_)
    have hW := Wd.back hB ht hF
    clear hB ht hF hz1 hk1 hvm
    refine lv_istore (lv' := [(5, .int r525), (0, .ref (ad 0)), (1, .ref (ad l1)), (2, .int l2), (3, .int l3), (4, .int l4)]) hx hb d_Mod_writeRuns_16 hl (by decide) rfl (fun ls hl => ?_)
    refine lv_iload hx hb d_Mod_writeRuns_18 (lv_at hl 0 rfl) ?_
    refine lv_bipush (v := 8) hx hb d_Mod_writeRuns_20 (by decide) ?_
    refine lv_icmp_lt (tgt := 72) hx hb d_Mod_writeRuns_22 (by decide) (fun c526 => ?_) (fun c526 => ?_)
    · have hw := hw.1 c526
      refine lv_iconst (v := 1) hx hb d_Mod_writeRuns_72 (by decide) ?_
      refine lv_istore (lv' := [(6, .int 1), (5, .int r525), (0, .ref (ad 0)), (1, .ref (ad l1)), (2, .int l2), (3, .int l3), (4, .int l4)]) hx hb d_Mod_writeRuns_73 hl (by decide) rfl (fun ls hl => ?_)
      obtain ⟨n, hw⟩ := hw
      exact tl_Mod_writeRuns_75 hx hb hml hown hT hK hN hA hRc hRs hRf hRl hret hrec3 n l1 l2 l3 l4 r525 1 x524 H locs ls fl1 hw hW hS (lv_sub hl [2, 3, 4, 5, 6, 1, 0] rfl)
    · have hw := hw.2 c526
      refine lv_aload_n hx hb d_Mod_writeRuns_25 rfl (lv_at hl 1 rfl) ?_
      refine lv_ldc2 hx hb hown (hT _ w_11_190) d_Mod_writeRuns_26 ?_
      refine lv_iload hx hb d_Mod_writeRuns_29 (lv_at hl 0 rfl) ?_
      refine lv_i2l hx hb d_Mod_writeRuns_31 rfl ?_
      refine lv_lmul hx hb d_Mod_writeRuns_32 ?_
      have hF := hW.free hS hA
      refine va_callv (va_runV (C := R_Mod) (As := [.long (2 * (r525 : Int32).toInt64)]) (rest := []) ⟨hx, hb, hml, hown, hT⟩ (k_Mod_putVarint l dC dI cI cB cJ cZ ad H.size (2 * (r525 : Int32).toInt64) x524  hw) ⟨callB_of 1 hT (gwt_in w_11_194) rfl rfl rfl (hT _ w_1_15) (hT _ w_11_191) (by decide +kernel) ⟨Nat.le_trans (Nat.le_of_ble_eq_true rfl) hRf, Nat.le_trans (Nat.le_of_ble_eq_true rfl) hRl⟩, hT _ w_11_193, hT _ ws_152⟩ ⟨PW.blind, va_recv hK hW.1 (ci := 12) (q0 := 0) rfl (pic_obj ko_0.1 ko_0.2 (by decide)), PW.at _ hW hK hN⟩ rfl rfl hl.1 rfl (lv_room (Nat.le_of_ble_eq_true rfl)) d_Mod_writeRuns_33 ⟨hRc, hRs⟩) hS (fun q _ h => hF q h) hF (fun  x527 t H locs ht hvm hw hB hz1 hk1 hS => ?_)
      have hW := Wd.back hB ht hF
      clear hB ht hF hz1 hk1 hvm
      refine lv_iconst (v := 0) hx hb d_Mod_writeRuns_36 (by decide) ?_
      refine lv_istore (lv' := [(6, .int 0), (5, .int r525), (0, .ref (ad 0)), (1, .ref (ad l1)), (2, .int l2), (3, .int l3), (4, .int l4)]) hx hb d_Mod_writeRuns_37 hl (by decide) rfl (fun ls hl => ?_)
      obtain ⟨n, hw⟩ := hw
      exact tl_Mod_writeRuns_39 hx hb hml hown hT hK hN hA hRc hRs hRf hRl hret hrec3 n l1 l2 l3 l4 r525 0 x527 H locs ls fl1 hw hW hS (lv_sub hl [2, 3, 4, 5, 6, 1, 0] rfl)
set_option maxHeartbeats 4000000 in
set_option maxRecDepth 100000 in
theorem tl_Mod_writeRuns_3 {p : Program} {l : Launch} {e : Env} {R : Room} {s : State} {m : MethodId} {args : Array Value} {below : List Frame} {meth : Method} {c : Code} {cells slots : Nat} {Q : State → Prop} {dC : Nat → ClassId} {dI : Nat → Nat → Nat} {cI cB cJ cZ : ClassId} {A : Nat → Prop} {ad : Nat → Nat} {post : St → Prop} (hx : p.tables.exec = Jvm.exec) (hb : c.code = b_Mod_writeRuns) (hml : c.maxLocals = 11) (hown : s.vm.findClass R_Mod = some m.cls) (hT : ∀ w ∈ TG, w.before args s = true) (hK : va_K (dC, dI) CL (TY cI cB cJ cZ) s) (hN : NW s) (hA : ∀ q : Nat, s.heap.size ≤ q → A q) (hRc : cells ≤ R.cells) (hRs : slots ≤ R.slots) (hRf : 2 ≤ R.frames) (hRl : 45 ≤ R.locals) (hret : ∀ (x : St) (H : Heap) (locs : List Loc) (pc : Nat) (ls : Array Slot), decode b_Mod_writeRuns pc = .ok (.return_, 1) → post x → Wd dC dI cI cB cJ cZ ad stM kcM 115 A x H → va_S A s.heap H locs → W p l e R s m args below meth c H locs cells slots Q (F0 m pc ls []))  : ∀ n : Nat, ∀ (l1 : Nat) (l2 : Int32) (l3 : Int32) (l4 : Int32) (x : St) (H : Heap) (locs : List Loc) (ls : Array Slot), (l1 < 115 ∧ kcM l1 = 20) → wl_Mod_writeRuns_3 post n l1 l2 l3 l4 x → Wd dC dI cI cB cJ cZ ad stM kcM 115 A x H → va_S A s.heap H locs → lv_has ls 11 [(0, .ref (ad 0)), (1, .ref (ad l1)), (2, .int l2), (3, .int l3), (4, .int l4)] → W p l e R s m args below meth c H locs cells slots Q (F0 m 3 ls []) := by
  intro n
  induction n with
  | zero => intro l1 l2 l3 l4 x H locs ls fl1 hw; exact hw.elim
  | succ n ih => intro l1 l2 l3 l4 x H locs ls fl1 hw hW hS hl; exact t_Mod_writeRuns_3 hx hb hml hown hT hK hN hA hRc hRs hRf hRl hret  ih l1 l2 l3 l4 x H locs ls fl1 hw hW hS hl
set_option maxRecDepth 100000 in
set_option maxHeartbeats 4000000 in
set_option maxRecDepth 100000 in
theorem t_Mod_writeRuns_e {p : Program} {l : Launch} {e : Env} {R : Room} {s : State} {m : MethodId} {args : Array Value} {below : List Frame} {meth : Method} {c : Code} {cells slots : Nat} {Q : State → Prop} {dC : Nat → ClassId} {dI : Nat → Nat → Nat} {cI cB cJ cZ : ClassId} {A : Nat → Prop} {ad : Nat → Nat} {post : St → Prop} (hx : p.tables.exec = Jvm.exec) (hb : c.code = b_Mod_writeRuns) (hml : c.maxLocals = 11) (hown : s.vm.findClass R_Mod = some m.cls) (hT : ∀ w ∈ TG, w.before args s = true) (hK : va_K (dC, dI) CL (TY cI cB cJ cZ) s) (hN : NW s) (hA : ∀ q : Nat, s.heap.size ≤ q → A q) (hRc : cells ≤ R.cells) (hRs : slots ≤ R.slots) (hRf : 2 ≤ R.frames) (hRl : 45 ≤ R.locals) (hret : ∀ (x : St) (H : Heap) (locs : List Loc) (pc : Nat) (ls : Array Slot), decode b_Mod_writeRuns pc = .ok (.return_, 1) → post x → Wd dC dI cI cB cJ cZ ad stM kcM 115 A x H → va_S A s.heap H locs → W p l e R s m args below meth c H locs cells slots Q (F0 m pc ls [])) : ∀ (l1 : Nat) (l2 : Int32) (l3 : Int32) (x : St) (H : Heap) (locs : List Loc) (ls : Array Slot), (l1 < 115 ∧ kcM l1 = 20) → wp_Mod_writeRuns post l1 l2 l3 x → Wd dC dI cI cB cJ cZ ad stM kcM 115 A x H → va_S A s.heap H locs → lv_has ls 11 [(0, .ref (ad 0)), (1, .ref (ad l1)), (2, .int l2), (3, .int l3)] → W p l e R s m args below meth c H locs cells slots Q (F0 m 0 ls []) := by
  intro l1 l2 l3 x H locs ls fl1 hw hW hS hl
  unfold wp_Mod_writeRuns at hw
  refine lv_iconst (v := 0) hx hb d_Mod_writeRuns_0 (by decide) ?_
  refine lv_istore (lv' := [(4, .int 0), (0, .ref (ad 0)), (1, .ref (ad l1)), (2, .int l2), (3, .int l3)]) hx hb d_Mod_writeRuns_1 hl (by decide) rfl (fun ls hl => ?_)
  obtain ⟨n, hw⟩ := hw
  exact tl_Mod_writeRuns_3 hx hb hml hown hT hK hN hA hRc hRs hRf hRl hret  n l1 l2 l3 0 x H locs ls fl1 hw hW hS (lv_sub hl [1, 2, 3, 4, 0] rfl)
set_option maxHeartbeats 4000000 in
set_option maxRecDepth 100000 in
theorem k_Mod_writeRuns (l : Launch) (dC : Nat → ClassId) (dI : Nat → Nat → Nat) (cI cB cJ cZ : ClassId) (ad : Nat → Nat) (sz : Nat) (l1 : Nat) (l2 : Int32) (l3 : Int32) (x : St) (fl1 : l1 < 115 ∧ kcM l1 = 20) {post : St → Prop} (hw : wp_Mod_writeRuns post l1 l2 l3 x) : Met l y_Mod_writeRuns (wsOf y_Mod_writeRuns b_Mod_writeRuns 11 (none)) ({ frames := 2, cells := 0, slots := 0, locals := 45 }) (va_Pc [.ref (ad 0), .ref (ad l1), .int l2, .int l3] (PW dC dI cI cB cJ cZ ad stM kcM 115 sz x)) (va_Qv (fun (y : St) => post y) (fun y t => Wd dC dI cI cB cJ cZ ad stM kcM 115 (va_A (pic ad stM kcM 115 cI cB cJ cZ x) sz) y t.heap) (va_A (pic ad stM kcM 115 cI cB cJ cZ x) sz)) 0 0 (va_A (pic ad stM kcM 115 cI cB cJ cZ x) sz) := by
  refine Met.ofW (cc := b_Mod_writeRuns) (maxL := 11) (ret := none) (by decide) rfl ?_
  intro p e s m args below meth c s₁ B hml hv
  obtain ⟨rfl, hsz, hW0, hK, hN⟩ := hv
  have hx := B.exec
  have hb := B.bytes
  have hr := B.returns
  have hts := atoms_spec B.pre
  have hT : ∀ w ∈ TG, w.before _ s = true := fun w h => hts w (List.mem_cons_of_mem _ h)
  have hown : s.vm.findClass R_Mod = some m.cls := findClass_of_methodNamed B.named
  have hlocks := B.notSynchronized
  subst hsz
  have hW : Wd dC dI cI cB cJ cZ ad stM kcM 115 (va_A (pic ad stM kcM 115 cI cB cJ cZ x) s.heap.size) x s.heap := ⟨hW0.1, hW0.2.1.self (sz := s.heap.size), hW0.2.2⟩
  generalize hAe : va_A (pic ad stM kcM 115 cI cB cJ cZ x) s.heap.size = A at hW ⊢
  have hA : ∀ q : Nat, s.heap.size ≤ q → A q := fun q h => by rw [← hAe]; exact Or.inr h
  have hS : va_S A s.heap s.heap [] := va_S.rf
  have hl := lv_entry ([.ref (ad 0), .ref (ad l1), .int l2, .int l3]) (n := 11) (Nat.le_of_ble_eq_true rfl)
  rw [lg_entry_eq]
  generalize (lg_sl ([.ref (ad 0), .ref (ad l1), .int l2, .int l3]) ++ List.replicate (11 - (lg_sl ([.ref (ad 0), .ref (ad l1), .int l2, .int l3])).length) Slot.unset).toArray = ls at hl ⊢
  have hl : lv_has ls 11 [(0, .ref (ad 0)), (1, .ref (ad l1)), (2, .int l2), (3, .int l3)] := hl
  exact t_Mod_writeRuns_e hx hb hml hown hT hK hN hA (Nat.le_refl 0) (Nat.le_refl 0) (Nat.le_refl 2) (Nat.le_refl 45) (fun x H locs pc ls hd hp hW hS => W.vret hx hb hr (fun t ht hM => ⟨⟨x, rfl, hp, Wd.back hW ht.symm (fun _ z => z)⟩, hS.F ht⟩) hS.2.2 hd hlocks)  l1 l2 l3 x _ _ ls fl1 hw hW hS hl
end
