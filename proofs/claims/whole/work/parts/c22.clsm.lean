theorem fr_Qry_1 : F_Qry 1 = (R_Qry, "items", "I", false) := rfl
theorem fr_Qry_18 : F_Qry 18 = (R_Qry, "schema", "LStripedVault$Schema;", false) := rfl
theorem fr_Qry_19 : F_Qry 19 = (R_Qry, "pathAt", "I", false) := rfl
theorem fr_Qry_2 : F_Qry 2 = (R_Qry, "itemForm", "[I", true) := rfl
theorem fr_Qry_3 : F_Qry 3 = (R_Qry, "itemField", "[I", true) := rfl
theorem fr_Qry_7 : F_Qry 7 = (R_Qry, "collects", "Z", false) := rfl
theorem w_1_12 : (Jvm.Cond.initialized "StripedVault$Query") ∈ TG := tw_1 12 (by decide +kernel) (by decide +kernel)
theorem w_1_149 : (Jvm.Cond.fieldLink "StripedVault$Query" (146 : Nat) "StripedVault$Schema" "type" "[I") ∈ TG := tw_1 149 (by decide +kernel) (by decide +kernel)
theorem w_1_79 : (Jvm.Cond.fieldLink "StripedVault$Query" (183 : Nat) "StripedVault$Scan" "bytes" "[B") ∈ TG := tw_1 79 (by decide +kernel) (by decide +kernel)
theorem w_1_82 : (Jvm.Cond.fieldLink "StripedVault$Query" (165 : Nat) "StripedVault$Scan" "count" "I") ∈ TG := tw_1 82 (by decide +kernel) (by decide +kernel)
theorem w_1_86 : (Jvm.Cond.fieldLink "StripedVault$Query" (110 : Nat) "StripedVault$Scan" "pos" "I") ∈ TG := tw_1 86 (by decide +kernel) (by decide +kernel)
theorem w_1_95 : (Jvm.Cond.fieldLink "StripedVault$Query" (180 : Nat) "StripedVault$Scan" "wordAt" "I") ∈ TG := tw_1 95 (by decide +kernel) (by decide +kernel)
theorem w_1_99 : (Jvm.Cond.fieldLink "StripedVault$Query" (186 : Nat) "StripedVault$Scan" "wordSize" "I") ∈ TG := tw_1 99 (by decide +kernel) (by decide +kernel)
theorem w_3_106 : (Jvm.Cond.fieldLink "StripedVault$Query" (48 : Nat) "StripedVault$Query" "schema" "LStripedVault$Schema;") ∈ TG := tw_3 106 (by decide +kernel) (by decide +kernel)
theorem w_3_107 : (Jvm.Cond.fieldLink "StripedVault$Query" (154 : Nat) "StripedVault$Query" "pathAt" "I") ∈ TG := tw_3 107 (by decide +kernel) (by decide +kernel)
theorem w_3_76 : (Jvm.Cond.fieldLink "StripedVault$Query" (56 : Nat) "StripedVault$Query" "items" "I") ∈ TG := tw_3 76 (by decide +kernel) (by decide +kernel)
theorem w_3_78 : (Jvm.Cond.fieldLink "StripedVault$Query" (9 : Nat) "StripedVault$Query" "itemForm" "[I") ∈ TG := tw_3 78 (by decide +kernel) (by decide +kernel)
theorem w_3_80 : (Jvm.Cond.fieldLink "StripedVault$Query" (15 : Nat) "StripedVault$Query" "itemField" "[I") ∈ TG := tw_3 80 (by decide +kernel) (by decide +kernel)
theorem w_3_87 : (Jvm.Cond.fieldLink "StripedVault$Query" (63 : Nat) "StripedVault$Query" "collects" "Z") ∈ TG := tw_3 87 (by decide +kernel) (by decide +kernel)
theorem w_7_147 : (Jvm.Cond.methodLink "StripedVault$Query" (86 : Nat) ({ cls := "StripedVault$Scan", name := "good", desc := "()Z" } : Jvm.MethodName)) ∈ TG := tw_7 147 (by decide +kernel) (by decide +kernel)
theorem w_7_148 : (Jvm.Cond.methodLink "StripedVault$Query" (106 : Nat) ({ cls := "StripedVault$Scan", name := "next", desc := "()I" } : Jvm.MethodName)) ∈ TG := tw_7 148 (by decide +kernel) (by decide +kernel)
theorem w_7_149 : (Jvm.Cond.methodLink "StripedVault$Query" (113 : Nat) ({ cls := "StripedVault$Scan", name := "refuse", desc := "(I)V" } : Jvm.MethodName)) ∈ TG := tw_7 149 (by decide +kernel) (by decide +kernel)
theorem w_7_154 : (Jvm.Cond.methodLink "StripedVault$Query" (133 : Nat) ({ cls := "StripedVault$Query", name := "readItemForm", desc := "()I" } : Jvm.MethodName)) ∈ TG := tw_7 154 (by decide +kernel) (by decide +kernel)
theorem w_7_156 : (Jvm.Cond.instanceMethod ({ cls := "StripedVault$Query", name := "readItemForm", desc := "()I" } : Jvm.MethodName)) ∈ TG := tw_7 156 (by decide +kernel) (by decide +kernel)
theorem w_7_157 : (Jvm.Cond.code ({ cls := "StripedVault$Query", name := "readItemForm", desc := "()I" } : Jvm.MethodName) prog_5_method_7_code (1 : Nat) (Option.some Jvm.ClassFile.FieldType.int)) ∈ TG := tw_7 157 (by decide +kernel) (by decide +kernel)
theorem w_7_163 : (Jvm.Cond.methodLink "StripedVault$Query" (136 : Nat) ({ cls := "StripedVault$Query", name := "readPath", desc := "()I" } : Jvm.MethodName)) ∈ TG := tw_7 163 (by decide +kernel) (by decide +kernel)
theorem w_7_165 : (Jvm.Cond.instanceMethod ({ cls := "StripedVault$Query", name := "readPath", desc := "()I" } : Jvm.MethodName)) ∈ TG := tw_7 165 (by decide +kernel) (by decide +kernel)
theorem w_7_166 : (Jvm.Cond.code ({ cls := "StripedVault$Query", name := "readPath", desc := "()I" } : Jvm.MethodName) prog_5_method_10_code (5 : Nat) (Option.some Jvm.ClassFile.FieldType.int)) ∈ TG := tw_7 166 (by decide +kernel) (by decide +kernel)
theorem w_7_167 : (Jvm.Cond.methodLink "StripedVault$Query" (167 : Nat) ({ cls := "StripedVault$Scan", name := "byteAt", desc := "(I)I" } : Jvm.MethodName)) ∈ TG := tw_7 167 (by decide +kernel) (by decide +kernel)
theorem w_7_169 : (Jvm.Cond.methodLink "StripedVault$Query" (174 : Nat) ({ cls := "StripedVault$Scan", name := "takeAnyWord", desc := "()Z" } : Jvm.MethodName)) ∈ TG := tw_7 169 (by decide +kernel) (by decide +kernel)
theorem w_7_170 : (Jvm.Cond.methodLink "StripedVault$Query" (177 : Nat) ({ cls := "StripedVault$Query", name := "isOwnWord", desc := "()Z" } : Jvm.MethodName)) ∈ TG := tw_7 170 (by decide +kernel) (by decide +kernel)
theorem w_7_172 : (Jvm.Cond.instanceMethod ({ cls := "StripedVault$Query", name := "isOwnWord", desc := "()Z" } : Jvm.MethodName)) ∈ TG := tw_7 172 (by decide +kernel) (by decide +kernel)
theorem w_7_173 : (Jvm.Cond.code ({ cls := "StripedVault$Query", name := "isOwnWord", desc := "()Z" } : Jvm.MethodName) prog_5_method_11_code (1 : Nat) (Option.some Jvm.ClassFile.FieldType.boolean)) ∈ TG := tw_7 173 (by decide +kernel) (by decide +kernel)
theorem w_7_186 : (Jvm.Cond.methodLink "StripedVault$Query" (189 : Nat) ({ cls := "StripedVault$Schema", name := "find", desc := "(I[BII)I" } : Jvm.MethodName)) ∈ TG := tw_7 186 (by decide +kernel) (by decide +kernel)
theorem w_7_187 : (Jvm.Cond.methodLink "StripedVault$Query" (139 : Nat) ({ cls := "StripedVault$Scan", name := "needSign", desc := "(C)V" } : Jvm.MethodName)) ∈ TG := tw_7 187 (by decide +kernel) (by decide +kernel)
theorem w_7_188 : (Jvm.Cond.methodLink "StripedVault$Query" (143 : Nat) ({ cls := "StripedVault$Query", name := "readColumn", desc := "()I" } : Jvm.MethodName)) ∈ TG := tw_7 188 (by decide +kernel) (by decide +kernel)
theorem w_7_190 : (Jvm.Cond.instanceMethod ({ cls := "StripedVault$Query", name := "readColumn", desc := "()I" } : Jvm.MethodName)) ∈ TG := tw_7 190 (by decide +kernel) (by decide +kernel)
theorem w_7_191 : (Jvm.Cond.code ({ cls := "StripedVault$Query", name := "readColumn", desc := "()I" } : Jvm.MethodName) prog_5_method_12_code (2 : Nat) (Option.some Jvm.ClassFile.FieldType.int)) ∈ TG := tw_7 191 (by decide +kernel) (by decide +kernel)
theorem w_7_192 : (Jvm.Cond.methodLink "StripedVault$Query" (212 : Nat) ({ cls := "StripedVault$Schema", name := "isFlatColumn", desc := "(I)Z" } : Jvm.MethodName)) ∈ TG := tw_7 192 (by decide +kernel) (by decide +kernel)
theorem w_7_193 : (Jvm.Cond.instanceMethod ({ cls := "StripedVault$Schema", name := "isFlatColumn", desc := "(I)Z" } : Jvm.MethodName)) ∈ TG := tw_7 193 (by decide +kernel) (by decide +kernel)
theorem w_7_194 : (Jvm.Cond.selects "StripedVault$Schema" ({ cls := "StripedVault$Schema", name := "isFlatColumn", desc := "(I)Z" } : Jvm.MethodName) ({ cls := "StripedVault$Schema", name := "isFlatColumn", desc := "(I)Z" } : Jvm.MethodName)) ∈ TG := tw_7 194 (by decide +kernel) (by decide +kernel)
theorem w_7_195 : (Jvm.Cond.code ({ cls := "StripedVault$Schema", name := "isFlatColumn", desc := "(I)Z" } : Jvm.MethodName) prog_8_method_9_code (2 : Nat) (Option.some Jvm.ClassFile.FieldType.boolean)) ∈ TG := tw_7 195 (by decide +kernel) (by decide +kernel)
theorem w_7_196 : (Jvm.Cond.methodLink "StripedVault$Query" (151 : Nat) ({ cls := "StripedVault$Query", name := "isNumber", desc := "(I)Z" } : Jvm.MethodName)) ∈ TG := tw_7 196 (by decide +kernel) (by decide +kernel)
theorem w_7_197 : (Jvm.Cond.static ({ cls := "StripedVault$Query", name := "isNumber", desc := "(I)Z" } : Jvm.MethodName)) ∈ TG := tw_7 197 (by decide +kernel) (by decide +kernel)
theorem w_7_198 : (Jvm.Cond.code ({ cls := "StripedVault$Query", name := "isNumber", desc := "(I)Z" } : Jvm.MethodName) prog_5_method_8_code (1 : Nat) (Option.some Jvm.ClassFile.FieldType.boolean)) ∈ TG := tw_7 198 (by decide +kernel) (by decide +kernel)
theorem wn_7_168 : (Jvm.Cond.methodLinkNest "StripedVault$Query" (171 : Nat) ({ cls := "StripedVault", name := "isLetter", desc := "(I)Z" } : Jvm.MethodName) "StripedVault") ∈ lw_tbl := tb_7 _ (List.mem_of_getElem? (i := 168) (by decide +kernel))
theorem ws_70 : Cond.selects R_Qry y_Qry_readItemForm y_Qry_readItemForm ∈ TG := tw_s 70 (by decide +kernel) (by decide +kernel)
theorem ws_71 : Cond.selects R_Qry y_Qry_readPath y_Qry_readPath ∈ TG := tw_s 71 (by decide +kernel) (by decide +kernel)
theorem ws_72 : Cond.selects R_Qry y_Qry_isOwnWord y_Qry_isOwnWord ∈ TG := tw_s 72 (by decide +kernel) (by decide +kernel)
theorem ws_73 : Cond.selects R_Qry y_Qry_readColumn y_Qry_readColumn ∈ TG := tw_s 73 (by decide +kernel) (by decide +kernel)
theorem d_Qry_readPath_242 : decode b_Qry_readPath 242 = .ok (.iload_n 1, 1) := by decide +kernel
theorem d_Qry_readPath_243 : decode b_Qry_readPath 243 = .ok (.ireturn, 1) := by decide +kernel
theorem d_Qry_readPath_226 : decode b_Qry_readPath 226 = .ok (.iload_n 1, 1) := by decide +kernel
theorem d_Qry_readPath_227 : decode b_Qry_readPath 227 = .ok (.iconst (-1), 1) := by decide +kernel
theorem d_Qry_readPath_228 : decode b_Qry_readPath 228 = .ok (.if_icmp .ne 14, 3) := by decide +kernel
theorem d_Qry_readPath_231 : decode b_Qry_readPath 231 = .ok (.aload_n 0, 1) := by decide +kernel
theorem d_Qry_readPath_232 : decode b_Qry_readPath 232 = .ok (.getfield 44, 3) := by decide +kernel
theorem d_Qry_readPath_235 : decode b_Qry_readPath 235 = .ok (.aload_n 0, 1) := by decide +kernel
theorem d_Qry_readPath_236 : decode b_Qry_readPath 236 = .ok (.getfield 154, 3) := by decide +kernel
theorem d_Qry_readPath_239 : decode b_Qry_readPath 239 = .ok (.invokevirtual 113, 3) := by decide +kernel
theorem d_Qry_readPath_216 : decode b_Qry_readPath 216 = .ok (.iadd, 1) := by decide +kernel
theorem d_Qry_readPath_217 : decode b_Qry_readPath 217 = .ok (.putfield 110, 3) := by decide +kernel
theorem d_Qry_readPath_220 : decode b_Qry_readPath 220 = .ok (.iinc 3 1, 3) := by decide +kernel
theorem d_Qry_readPath_223 : decode b_Qry_readPath 223 = .ok (.goto (-186), 3) := by decide +kernel
theorem d_Qry_readPath_198 : decode b_Qry_readPath 198 = .ok (.istore_n 2, 1) := by decide +kernel
theorem d_Qry_readPath_199 : decode b_Qry_readPath 199 = .ok (.aload_n 0, 1) := by decide +kernel
theorem d_Qry_readPath_200 : decode b_Qry_readPath 200 = .ok (.getfield 44, 3) := by decide +kernel
theorem d_Qry_readPath_203 : decode b_Qry_readPath 203 = .ok (.dup, 1) := by decide +kernel
theorem d_Qry_readPath_204 : decode b_Qry_readPath 204 = .ok (.getfield 110, 3) := by decide +kernel
theorem d_Qry_readPath_207 : decode b_Qry_readPath 207 = .ok (.iload_n 2, 1) := by decide +kernel
theorem d_Qry_readPath_208 : decode b_Qry_readPath 208 = .ok (.ifCond .eq 7, 3) := by decide +kernel
theorem d_Qry_readPath_215 : decode b_Qry_readPath 215 = .ok (.iconst 0, 1) := by decide +kernel
theorem d_Qry_readPath_211 : decode b_Qry_readPath 211 = .ok (.iconst 1, 1) := by decide +kernel
theorem d_Qry_readPath_212 : decode b_Qry_readPath 212 = .ok (.goto 4, 3) := by decide +kernel
theorem d_Qry_readPath_173 : decode b_Qry_readPath 173 = .ok (.istore_n 1, 1) := by decide +kernel
theorem d_Qry_readPath_174 : decode b_Qry_readPath 174 = .ok (.aload_n 0, 1) := by decide +kernel
theorem d_Qry_readPath_175 : decode b_Qry_readPath 175 = .ok (.getfield 44, 3) := by decide +kernel
theorem d_Qry_readPath_178 : decode b_Qry_readPath 178 = .ok (.aload_n 0, 1) := by decide +kernel
theorem d_Qry_readPath_179 : decode b_Qry_readPath 179 = .ok (.getfield 44, 3) := by decide +kernel
theorem d_Qry_readPath_182 : decode b_Qry_readPath 182 = .ok (.getfield 110, 3) := by decide +kernel
theorem d_Qry_readPath_185 : decode b_Qry_readPath 185 = .ok (.invokevirtual 167, 3) := by decide +kernel
theorem d_Qry_readPath_188 : decode b_Qry_readPath 188 = .ok (.bipush 46, 2) := by decide +kernel
theorem d_Qry_readPath_190 : decode b_Qry_readPath 190 = .ok (.if_icmp .ne 7, 3) := by decide +kernel
theorem d_Qry_readPath_197 : decode b_Qry_readPath 197 = .ok (.iconst 0, 1) := by decide +kernel
theorem d_Qry_readPath_193 : decode b_Qry_readPath 193 = .ok (.iconst 1, 1) := by decide +kernel
theorem d_Qry_readPath_194 : decode b_Qry_readPath 194 = .ok (.goto 4, 3) := by decide +kernel
theorem d_Qry_readPath_133 : decode b_Qry_readPath 133 = .ok (.istore 4, 2) := by decide +kernel
theorem d_Qry_readPath_135 : decode b_Qry_readPath 135 = .ok (.iload 4, 2) := by decide +kernel
theorem d_Qry_readPath_137 : decode b_Qry_readPath 137 = .ok (.ifCond .eq 7, 3) := by decide +kernel
theorem d_Qry_readPath_144 : decode b_Qry_readPath 144 = .ok (.aload_n 0, 1) := by decide +kernel
theorem d_Qry_readPath_145 : decode b_Qry_readPath 145 = .ok (.getfield 48, 3) := by decide +kernel
theorem d_Qry_readPath_148 : decode b_Qry_readPath 148 = .ok (.iload_n 1, 1) := by decide +kernel
theorem d_Qry_readPath_149 : decode b_Qry_readPath 149 = .ok (.aload_n 0, 1) := by decide +kernel
theorem d_Qry_readPath_150 : decode b_Qry_readPath 150 = .ok (.getfield 44, 3) := by decide +kernel
theorem d_Qry_readPath_153 : decode b_Qry_readPath 153 = .ok (.getfield 183, 3) := by decide +kernel
theorem d_Qry_readPath_156 : decode b_Qry_readPath 156 = .ok (.aload_n 0, 1) := by decide +kernel
theorem d_Qry_readPath_157 : decode b_Qry_readPath 157 = .ok (.getfield 44, 3) := by decide +kernel
theorem d_Qry_readPath_160 : decode b_Qry_readPath 160 = .ok (.getfield 180, 3) := by decide +kernel
theorem d_Qry_readPath_163 : decode b_Qry_readPath 163 = .ok (.aload_n 0, 1) := by decide +kernel
theorem d_Qry_readPath_164 : decode b_Qry_readPath 164 = .ok (.getfield 44, 3) := by decide +kernel
theorem d_Qry_readPath_167 : decode b_Qry_readPath 167 = .ok (.getfield 186, 3) := by decide +kernel
theorem d_Qry_readPath_170 : decode b_Qry_readPath 170 = .ok (.invokevirtual 189, 3) := by decide +kernel
theorem d_Qry_readPath_140 : decode b_Qry_readPath 140 = .ok (.iconst (-1), 1) := by decide +kernel
theorem d_Qry_readPath_141 : decode b_Qry_readPath 141 = .ok (.goto 32, 3) := by decide +kernel
theorem d_Qry_readPath_132 : decode b_Qry_readPath 132 = .ok (.iconst 0, 1) := by decide +kernel
theorem d_Qry_readPath_37 : decode b_Qry_readPath 37 = .ok (.iload_n 3, 1) := by decide +kernel
theorem d_Qry_readPath_38 : decode b_Qry_readPath 38 = .ok (.aload_n 0, 1) := by decide +kernel
theorem d_Qry_readPath_39 : decode b_Qry_readPath 39 = .ok (.getfield 44, 3) := by decide +kernel
theorem d_Qry_readPath_42 : decode b_Qry_readPath 42 = .ok (.getfield 165, 3) := by decide +kernel
theorem d_Qry_readPath_45 : decode b_Qry_readPath 45 = .ok (.if_icmp .gt 181, 3) := by decide +kernel
theorem d_Qry_readPath_48 : decode b_Qry_readPath 48 = .ok (.iload_n 2, 1) := by decide +kernel
theorem d_Qry_readPath_49 : decode b_Qry_readPath 49 = .ok (.ifCond .eq 177, 3) := by decide +kernel
theorem d_Qry_readPath_52 : decode b_Qry_readPath 52 = .ok (.aload_n 0, 1) := by decide +kernel
theorem d_Qry_readPath_53 : decode b_Qry_readPath 53 = .ok (.getfield 44, 3) := by decide +kernel
theorem d_Qry_readPath_56 : decode b_Qry_readPath 56 = .ok (.aload_n 0, 1) := by decide +kernel
theorem d_Qry_readPath_57 : decode b_Qry_readPath 57 = .ok (.getfield 44, 3) := by decide +kernel
theorem d_Qry_readPath_60 : decode b_Qry_readPath 60 = .ok (.getfield 110, 3) := by decide +kernel
theorem d_Qry_readPath_63 : decode b_Qry_readPath 63 = .ok (.invokevirtual 167, 3) := by decide +kernel
theorem d_Qry_readPath_66 : decode b_Qry_readPath 66 = .ok (.invokestatic 171, 3) := by decide +kernel
theorem d_Qry_readPath_69 : decode b_Qry_readPath 69 = .ok (.ifCond .ne 19, 3) := by decide +kernel
theorem d_Qry_readPath_88 : decode b_Qry_readPath 88 = .ok (.aload_n 0, 1) := by decide +kernel
theorem d_Qry_readPath_89 : decode b_Qry_readPath 89 = .ok (.getfield 44, 3) := by decide +kernel
theorem d_Qry_readPath_92 : decode b_Qry_readPath 92 = .ok (.invokevirtual 174, 3) := by decide +kernel
theorem d_Qry_readPath_95 : decode b_Qry_readPath 95 = .ok (.pop, 1) := by decide +kernel
theorem d_Qry_readPath_96 : decode b_Qry_readPath 96 = .ok (.aload_n 0, 1) := by decide +kernel
theorem d_Qry_readPath_97 : decode b_Qry_readPath 97 = .ok (.invokevirtual 177, 3) := by decide +kernel
theorem d_Qry_readPath_100 : decode b_Qry_readPath 100 = .ok (.ifCond .eq 19, 3) := by decide +kernel
theorem d_Qry_readPath_119 : decode b_Qry_readPath 119 = .ok (.iload_n 3, 1) := by decide +kernel
theorem d_Qry_readPath_120 : decode b_Qry_readPath 120 = .ok (.ifCond .le 12, 3) := by decide +kernel
theorem d_Qry_readPath_123 : decode b_Qry_readPath 123 = .ok (.iload_n 1, 1) := by decide +kernel
theorem d_Qry_readPath_124 : decode b_Qry_readPath 124 = .ok (.iconst (-1), 1) := by decide +kernel
theorem d_Qry_readPath_125 : decode b_Qry_readPath 125 = .ok (.if_icmp .ne 7, 3) := by decide +kernel
theorem d_Qry_readPath_128 : decode b_Qry_readPath 128 = .ok (.iconst 1, 1) := by decide +kernel
theorem d_Qry_readPath_129 : decode b_Qry_readPath 129 = .ok (.goto 4, 3) := by decide +kernel
theorem d_Qry_readPath_103 : decode b_Qry_readPath 103 = .ok (.aload_n 0, 1) := by decide +kernel
theorem d_Qry_readPath_104 : decode b_Qry_readPath 104 = .ok (.getfield 44, 3) := by decide +kernel
theorem d_Qry_readPath_107 : decode b_Qry_readPath 107 = .ok (.aload_n 0, 1) := by decide +kernel
theorem d_Qry_readPath_108 : decode b_Qry_readPath 108 = .ok (.getfield 44, 3) := by decide +kernel
theorem d_Qry_readPath_111 : decode b_Qry_readPath 111 = .ok (.getfield 180, 3) := by decide +kernel
theorem d_Qry_readPath_114 : decode b_Qry_readPath 114 = .ok (.invokevirtual 113, 3) := by decide +kernel
theorem d_Qry_readPath_117 : decode b_Qry_readPath 117 = .ok (.iconst (-1), 1) := by decide +kernel
theorem d_Qry_readPath_118 : decode b_Qry_readPath 118 = .ok (.ireturn, 1) := by decide +kernel
theorem d_Qry_readPath_72 : decode b_Qry_readPath 72 = .ok (.aload_n 0, 1) := by decide +kernel
theorem d_Qry_readPath_73 : decode b_Qry_readPath 73 = .ok (.getfield 44, 3) := by decide +kernel
theorem d_Qry_readPath_76 : decode b_Qry_readPath 76 = .ok (.aload_n 0, 1) := by decide +kernel
theorem d_Qry_readPath_77 : decode b_Qry_readPath 77 = .ok (.getfield 44, 3) := by decide +kernel
theorem d_Qry_readPath_80 : decode b_Qry_readPath 80 = .ok (.getfield 110, 3) := by decide +kernel
theorem d_Qry_readPath_83 : decode b_Qry_readPath 83 = .ok (.invokevirtual 113, 3) := by decide +kernel
theorem d_Qry_readPath_86 : decode b_Qry_readPath 86 = .ok (.iconst (-1), 1) := by decide +kernel
theorem d_Qry_readPath_87 : decode b_Qry_readPath 87 = .ok (.ireturn, 1) := by decide +kernel
theorem d_Qry_readPath_0 : decode b_Qry_readPath 0 = .ok (.aload_n 0, 1) := by decide +kernel
theorem d_Qry_readPath_1 : decode b_Qry_readPath 1 = .ok (.getfield 44, 3) := by decide +kernel
theorem d_Qry_readPath_4 : decode b_Qry_readPath 4 = .ok (.invokevirtual 86, 3) := by decide +kernel
theorem d_Qry_readPath_7 : decode b_Qry_readPath 7 = .ok (.ifCond .ne 5, 3) := by decide +kernel
theorem d_Qry_readPath_12 : decode b_Qry_readPath 12 = .ok (.aload_n 0, 1) := by decide +kernel
theorem d_Qry_readPath_13 : decode b_Qry_readPath 13 = .ok (.getfield 44, 3) := by decide +kernel
theorem d_Qry_readPath_16 : decode b_Qry_readPath 16 = .ok (.invokevirtual 106, 3) := by decide +kernel
theorem d_Qry_readPath_19 : decode b_Qry_readPath 19 = .ok (.pop, 1) := by decide +kernel
theorem d_Qry_readPath_20 : decode b_Qry_readPath 20 = .ok (.aload_n 0, 1) := by decide +kernel
theorem d_Qry_readPath_21 : decode b_Qry_readPath 21 = .ok (.aload_n 0, 1) := by decide +kernel
theorem d_Qry_readPath_22 : decode b_Qry_readPath 22 = .ok (.getfield 44, 3) := by decide +kernel
theorem d_Qry_readPath_25 : decode b_Qry_readPath 25 = .ok (.getfield 110, 3) := by decide +kernel
theorem d_Qry_readPath_28 : decode b_Qry_readPath 28 = .ok (.putfield 154, 3) := by decide +kernel
theorem d_Qry_readPath_31 : decode b_Qry_readPath 31 = .ok (.iconst (-1), 1) := by decide +kernel
theorem d_Qry_readPath_32 : decode b_Qry_readPath 32 = .ok (.istore_n 1, 1) := by decide +kernel
theorem d_Qry_readPath_33 : decode b_Qry_readPath 33 = .ok (.iconst 1, 1) := by decide +kernel
theorem d_Qry_readPath_34 : decode b_Qry_readPath 34 = .ok (.istore_n 2, 1) := by decide +kernel
theorem d_Qry_readPath_35 : decode b_Qry_readPath 35 = .ok (.iconst 0, 1) := by decide +kernel
theorem d_Qry_readPath_36 : decode b_Qry_readPath 36 = .ok (.istore_n 3, 1) := by decide +kernel
theorem d_Qry_readPath_10 : decode b_Qry_readPath 10 = .ok (.iconst (-1), 1) := by decide +kernel
theorem d_Qry_readPath_11 : decode b_Qry_readPath 11 = .ok (.ireturn, 1) := by decide +kernel
theorem d_Sch_isFlatColumn_23 : decode b_Sch_isFlatColumn 23 = .ok (.iconst 0, 1) := by decide +kernel
theorem d_Sch_isFlatColumn_24 : decode b_Sch_isFlatColumn 24 = .ok (.ireturn, 1) := by decide +kernel
theorem d_Sch_isFlatColumn_0 : decode b_Sch_isFlatColumn 0 = .ok (.aload_n 0, 1) := by decide +kernel
theorem d_Sch_isFlatColumn_1 : decode b_Sch_isFlatColumn 1 = .ok (.getfield 21, 3) := by decide +kernel
theorem d_Sch_isFlatColumn_4 : decode b_Sch_isFlatColumn 4 = .ok (.iload_n 1, 1) := by decide +kernel
theorem d_Sch_isFlatColumn_5 : decode b_Sch_isFlatColumn 5 = .ok (.iaload, 1) := by decide +kernel
theorem d_Sch_isFlatColumn_6 : decode b_Sch_isFlatColumn 6 = .ok (.ifCond .ne 17, 3) := by decide +kernel
theorem d_Sch_isFlatColumn_9 : decode b_Sch_isFlatColumn 9 = .ok (.aload_n 0, 1) := by decide +kernel
theorem d_Sch_isFlatColumn_10 : decode b_Sch_isFlatColumn 10 = .ok (.getfield 15, 3) := by decide +kernel
theorem d_Sch_isFlatColumn_13 : decode b_Sch_isFlatColumn 13 = .ok (.iload_n 1, 1) := by decide +kernel
theorem d_Sch_isFlatColumn_14 : decode b_Sch_isFlatColumn 14 = .ok (.iaload, 1) := by decide +kernel
theorem d_Sch_isFlatColumn_15 : decode b_Sch_isFlatColumn 15 = .ok (.iconst 4, 1) := by decide +kernel
theorem d_Sch_isFlatColumn_16 : decode b_Sch_isFlatColumn 16 = .ok (.if_icmp .eq 7, 3) := by decide +kernel
theorem d_Sch_isFlatColumn_19 : decode b_Sch_isFlatColumn 19 = .ok (.iconst 1, 1) := by decide +kernel
theorem d_Sch_isFlatColumn_20 : decode b_Sch_isFlatColumn 20 = .ok (.goto 4, 3) := by decide +kernel
theorem d_Qry_readColumn_37 : decode b_Qry_readColumn 37 = .ok (.iload_n 1, 1) := by decide +kernel
theorem d_Qry_readColumn_38 : decode b_Qry_readColumn 38 = .ok (.ireturn, 1) := by decide +kernel
theorem d_Qry_readColumn_0 : decode b_Qry_readColumn 0 = .ok (.aload_n 0, 1) := by decide +kernel
theorem d_Qry_readColumn_1 : decode b_Qry_readColumn 1 = .ok (.invokevirtual 136, 3) := by decide +kernel
theorem d_Qry_readColumn_4 : decode b_Qry_readColumn 4 = .ok (.istore_n 1, 1) := by decide +kernel
theorem d_Qry_readColumn_5 : decode b_Qry_readColumn 5 = .ok (.aload_n 0, 1) := by decide +kernel
theorem d_Qry_readColumn_6 : decode b_Qry_readColumn 6 = .ok (.getfield 44, 3) := by decide +kernel
theorem d_Qry_readColumn_9 : decode b_Qry_readColumn 9 = .ok (.invokevirtual 86, 3) := by decide +kernel
theorem d_Qry_readColumn_12 : decode b_Qry_readColumn 12 = .ok (.ifCond .eq 25, 3) := by decide +kernel
theorem d_Qry_readColumn_15 : decode b_Qry_readColumn 15 = .ok (.aload_n 0, 1) := by decide +kernel
theorem d_Qry_readColumn_16 : decode b_Qry_readColumn 16 = .ok (.getfield 48, 3) := by decide +kernel
theorem d_Qry_readColumn_19 : decode b_Qry_readColumn 19 = .ok (.iload_n 1, 1) := by decide +kernel
theorem d_Qry_readColumn_20 : decode b_Qry_readColumn 20 = .ok (.invokevirtual 212, 3) := by decide +kernel
theorem d_Qry_readColumn_23 : decode b_Qry_readColumn 23 = .ok (.ifCond .ne 14, 3) := by decide +kernel
theorem d_Qry_readColumn_26 : decode b_Qry_readColumn 26 = .ok (.aload_n 0, 1) := by decide +kernel
theorem d_Qry_readColumn_27 : decode b_Qry_readColumn 27 = .ok (.getfield 44, 3) := by decide +kernel
theorem d_Qry_readColumn_30 : decode b_Qry_readColumn 30 = .ok (.aload_n 0, 1) := by decide +kernel
theorem d_Qry_readColumn_31 : decode b_Qry_readColumn 31 = .ok (.getfield 154, 3) := by decide +kernel
theorem d_Qry_readColumn_34 : decode b_Qry_readColumn 34 = .ok (.invokevirtual 113, 3) := by decide +kernel
theorem d_Qry_isNumber_10 : decode b_Qry_isNumber 10 = .ok (.iconst 1, 1) := by decide +kernel
theorem d_Qry_isNumber_11 : decode b_Qry_isNumber 11 = .ok (.goto 4, 3) := by decide +kernel
theorem d_Qry_isNumber_15 : decode b_Qry_isNumber 15 = .ok (.ireturn, 1) := by decide +kernel
theorem d_Qry_isNumber_0 : decode b_Qry_isNumber 0 = .ok (.iload_n 0, 1) := by decide +kernel
theorem d_Qry_isNumber_1 : decode b_Qry_isNumber 1 = .ok (.iconst 1, 1) := by decide +kernel
theorem d_Qry_isNumber_2 : decode b_Qry_isNumber 2 = .ok (.if_icmp .eq 8, 3) := by decide +kernel
theorem d_Qry_isNumber_5 : decode b_Qry_isNumber 5 = .ok (.iload_n 0, 1) := by decide +kernel
theorem d_Qry_isNumber_6 : decode b_Qry_isNumber 6 = .ok (.iconst 2, 1) := by decide +kernel
theorem d_Qry_isNumber_7 : decode b_Qry_isNumber 7 = .ok (.if_icmp .ne 7, 3) := by decide +kernel
theorem d_Qry_isNumber_14 : decode b_Qry_isNumber 14 = .ok (.iconst 0, 1) := by decide +kernel
theorem d_Qry_readItem_110 : decode b_Qry_readItem 110 = .ok (.aload_n 0, 1) := by decide +kernel
theorem d_Qry_readItem_111 : decode b_Qry_readItem 111 = .ok (.getfield 9, 3) := by decide +kernel
theorem d_Qry_readItem_114 : decode b_Qry_readItem 114 = .ok (.aload_n 0, 1) := by decide +kernel
theorem d_Qry_readItem_115 : decode b_Qry_readItem 115 = .ok (.getfield 56, 3) := by decide +kernel
theorem d_Qry_readItem_118 : decode b_Qry_readItem 118 = .ok (.iload_n 1, 1) := by decide +kernel
theorem d_Qry_readItem_119 : decode b_Qry_readItem 119 = .ok (.iastore, 1) := by decide +kernel
theorem d_Qry_readItem_120 : decode b_Qry_readItem 120 = .ok (.aload_n 0, 1) := by decide +kernel
theorem d_Qry_readItem_121 : decode b_Qry_readItem 121 = .ok (.getfield 15, 3) := by decide +kernel
theorem d_Qry_readItem_124 : decode b_Qry_readItem 124 = .ok (.aload_n 0, 1) := by decide +kernel
theorem d_Qry_readItem_125 : decode b_Qry_readItem 125 = .ok (.getfield 56, 3) := by decide +kernel
theorem d_Qry_readItem_128 : decode b_Qry_readItem 128 = .ok (.iload_n 2, 1) := by decide +kernel
theorem d_Qry_readItem_129 : decode b_Qry_readItem 129 = .ok (.iastore, 1) := by decide +kernel
theorem d_Qry_readItem_130 : decode b_Qry_readItem 130 = .ok (.return_, 1) := by decide +kernel
theorem d_Qry_readItem_101 : decode b_Qry_readItem 101 = .ok (.aload_n 0, 1) := by decide +kernel
theorem d_Qry_readItem_102 : decode b_Qry_readItem 102 = .ok (.getfield 44, 3) := by decide +kernel
theorem d_Qry_readItem_105 : decode b_Qry_readItem 105 = .ok (.bipush 41, 2) := by decide +kernel
theorem d_Qry_readItem_107 : decode b_Qry_readItem 107 = .ok (.invokevirtual 139, 3) := by decide +kernel
theorem d_Qry_readItem_46 : decode b_Qry_readItem 46 = .ok (.aload_n 0, 1) := by decide +kernel
theorem d_Qry_readItem_47 : decode b_Qry_readItem 47 = .ok (.getfield 44, 3) := by decide +kernel
theorem d_Qry_readItem_50 : decode b_Qry_readItem 50 = .ok (.bipush 40, 2) := by decide +kernel
theorem d_Qry_readItem_52 : decode b_Qry_readItem 52 = .ok (.invokevirtual 139, 3) := by decide +kernel
theorem d_Qry_readItem_55 : decode b_Qry_readItem 55 = .ok (.aload_n 0, 1) := by decide +kernel
theorem d_Qry_readItem_56 : decode b_Qry_readItem 56 = .ok (.invokevirtual 143, 3) := by decide +kernel
theorem d_Qry_readItem_59 : decode b_Qry_readItem 59 = .ok (.istore_n 2, 1) := by decide +kernel
theorem d_Qry_readItem_60 : decode b_Qry_readItem 60 = .ok (.iload_n 1, 1) := by decide +kernel
theorem d_Qry_readItem_61 : decode b_Qry_readItem 61 = .ok (.iconst 3, 1) := by decide +kernel
theorem d_Qry_readItem_62 : decode b_Qry_readItem 62 = .ok (.if_icmp .ne 39, 3) := by decide +kernel
theorem d_Qry_readItem_65 : decode b_Qry_readItem 65 = .ok (.aload_n 0, 1) := by decide +kernel
theorem d_Qry_readItem_66 : decode b_Qry_readItem 66 = .ok (.getfield 44, 3) := by decide +kernel
theorem d_Qry_readItem_69 : decode b_Qry_readItem 69 = .ok (.invokevirtual 86, 3) := by decide +kernel
theorem d_Qry_readItem_72 : decode b_Qry_readItem 72 = .ok (.ifCond .eq 29, 3) := by decide +kernel
theorem d_Qry_readItem_75 : decode b_Qry_readItem 75 = .ok (.aload_n 0, 1) := by decide +kernel
theorem d_Qry_readItem_76 : decode b_Qry_readItem 76 = .ok (.getfield 48, 3) := by decide +kernel
theorem d_Qry_readItem_79 : decode b_Qry_readItem 79 = .ok (.getfield 146, 3) := by decide +kernel
theorem d_Qry_readItem_82 : decode b_Qry_readItem 82 = .ok (.iload_n 2, 1) := by decide +kernel
theorem d_Qry_readItem_83 : decode b_Qry_readItem 83 = .ok (.iaload, 1) := by decide +kernel
theorem d_Qry_readItem_84 : decode b_Qry_readItem 84 = .ok (.invokestatic 151, 3) := by decide +kernel
theorem d_Qry_readItem_87 : decode b_Qry_readItem 87 = .ok (.ifCond .ne 14, 3) := by decide +kernel
theorem d_Qry_readItem_90 : decode b_Qry_readItem 90 = .ok (.aload_n 0, 1) := by decide +kernel
theorem d_Qry_readItem_91 : decode b_Qry_readItem 91 = .ok (.getfield 44, 3) := by decide +kernel
theorem d_Qry_readItem_94 : decode b_Qry_readItem 94 = .ok (.aload_n 0, 1) := by decide +kernel
theorem d_Qry_readItem_95 : decode b_Qry_readItem 95 = .ok (.getfield 154, 3) := by decide +kernel
theorem d_Qry_readItem_98 : decode b_Qry_readItem 98 = .ok (.invokevirtual 113, 3) := by decide +kernel
theorem d_Qry_readItem_0 : decode b_Qry_readItem 0 = .ok (.aload_n 0, 1) := by decide +kernel
theorem d_Qry_readItem_1 : decode b_Qry_readItem 1 = .ok (.invokevirtual 133, 3) := by decide +kernel
theorem d_Qry_readItem_4 : decode b_Qry_readItem 4 = .ok (.istore_n 1, 1) := by decide +kernel
theorem d_Qry_readItem_5 : decode b_Qry_readItem 5 = .ok (.iconst (-1), 1) := by decide +kernel
theorem d_Qry_readItem_6 : decode b_Qry_readItem 6 = .ok (.istore_n 2, 1) := by decide +kernel
theorem d_Qry_readItem_7 : decode b_Qry_readItem 7 = .ok (.iload_n 1, 1) := by decide +kernel
theorem d_Qry_readItem_8 : decode b_Qry_readItem 8 = .ok (.ifCond .ne 11, 3) := by decide +kernel
theorem d_Qry_readItem_19 : decode b_Qry_readItem 19 = .ok (.aload_n 0, 1) := by decide +kernel
theorem d_Qry_readItem_20 : decode b_Qry_readItem 20 = .ok (.iconst 1, 1) := by decide +kernel
theorem d_Qry_readItem_21 : decode b_Qry_readItem 21 = .ok (.putfield 63, 3) := by decide +kernel
theorem d_Qry_readItem_24 : decode b_Qry_readItem 24 = .ok (.iload_n 1, 1) := by decide +kernel
theorem d_Qry_readItem_25 : decode b_Qry_readItem 25 = .ok (.iconst 2, 1) := by decide +kernel
theorem d_Qry_readItem_26 : decode b_Qry_readItem 26 = .ok (.if_icmp .ne 20, 3) := by decide +kernel
theorem d_Qry_readItem_29 : decode b_Qry_readItem 29 = .ok (.aload_n 0, 1) := by decide +kernel
theorem d_Qry_readItem_30 : decode b_Qry_readItem 30 = .ok (.getfield 44, 3) := by decide +kernel
theorem d_Qry_readItem_33 : decode b_Qry_readItem 33 = .ok (.invokevirtual 106, 3) := by decide +kernel
theorem d_Qry_readItem_36 : decode b_Qry_readItem 36 = .ok (.bipush 40, 2) := by decide +kernel
theorem d_Qry_readItem_38 : decode b_Qry_readItem 38 = .ok (.if_icmp .eq 8, 3) := by decide +kernel
theorem d_Qry_readItem_41 : decode b_Qry_readItem 41 = .ok (.iconst 1, 1) := by decide +kernel
theorem d_Qry_readItem_42 : decode b_Qry_readItem 42 = .ok (.istore_n 1, 1) := by decide +kernel
theorem d_Qry_readItem_43 : decode b_Qry_readItem 43 = .ok (.goto 67, 3) := by decide +kernel
theorem d_Qry_readItem_11 : decode b_Qry_readItem 11 = .ok (.aload_n 0, 1) := by decide +kernel
theorem d_Qry_readItem_12 : decode b_Qry_readItem 12 = .ok (.invokevirtual 136, 3) := by decide +kernel
theorem d_Qry_readItem_15 : decode b_Qry_readItem 15 = .ok (.istore_n 2, 1) := by decide +kernel
theorem d_Qry_readItem_16 : decode b_Qry_readItem 16 = .ok (.goto 94, 3) := by decide +kernel
section
variable (l : Launch) (dC : Nat → ClassId) (dI : Nat → Nat → Nat) (cI cB cJ cZ : ClassId)
set_option maxRecDepth 100000 in
def j_Qry_readPath_242 (post : Int32 → St → Prop) (o : Nat) (l1 : Int32) (l2 : Int32) (l3 : Int32) (x : St) : Prop := post l1 x
set_option maxHeartbeats 4000000 in
set_option maxRecDepth 100000 in
theorem t_Qry_readPath_242 {p : Program} {l : Launch} {e : Env} {R : Room} {s : State} {m : MethodId} {args : Array Value} {below : List Frame} {meth : Method} {c : Code} {cells slots : Nat} {Q : State → Prop} {dC : Nat → ClassId} {dI : Nat → Nat → Nat} {cI cB cJ cZ : ClassId} {A : Nat → Prop} {ad : Nat → Nat} {NN : Nat} {E : Heap} {tM tC : Nat} {kK kV : Nat → Nat} {post : Int32 → St → Prop} (hx : p.tables.exec = Jvm.exec) (hb : c.code = b_Qry_readPath) (hml : c.maxLocals = 5) (hown : s.vm.findClass R_Qry = some m.cls) (hT : ∀ w ∈ TG, w.before args s = true) (hK : va_K (dC, dI) CL (TY cI cB cJ cZ) s) (hN : NW s) (hA : ∀ q : Nat, s.heap.size ≤ q → A q) (hRc : cells ≤ R.cells) (hRs : slots ≤ R.slots) (hRf : 6 ≤ R.frames) (hRl : 242 ≤ R.locals) (hNN : 152 ≤ NN) (hE : CE E tM tC kK kV A s) (hret : ∀ (r : Int32) (x : St) (H : Heap) (locs : List Loc) (pc : Nat) (ls : Array Slot), decode b_Qry_readPath pc = .ok (.ireturn, 1) → post r x → Wd dC dI cI cB cJ cZ ad stC kcC NN A x H → va_S A s.heap H locs → W p l e R s m args below meth c H locs cells slots Q (F0 m pc ls [.int r]))  : ∀ (o : Nat) (l1 : Int32) (l2 : Int32) (l3 : Int32) (x : St) (H : Heap) (locs : List Loc) (ls : Array Slot), (o < NN ∧ kcC o = 9) → j_Qry_readPath_242 post o l1 l2 l3 x → Wd dC dI cI cB cJ cZ ad stC kcC NN A x H → va_S A s.heap H locs → lv_has ls 5 [(0, .ref (ad o)), (1, .int l1), (2, .int l2), (3, .int l3)] → W p l e R s m args below meth c H locs cells slots Q (F0 m 242 ls []) := by
  intro o l1 l2 l3 x H locs ls fo hw hW hS hl
  unfold j_Qry_readPath_242 at hw
  refine lv_iload_n hx hb d_Qry_readPath_242 rfl (lv_at hl 1 rfl) ?_
  exact hret l1 x H locs 243 ls d_Qry_readPath_243 hw hW hS
set_option maxRecDepth 100000 in
def j_Qry_readPath_226 (post : Int32 → St → Prop) (o : Nat) (l1 : Int32) (l2 : Int32) (l3 : Int32) (x : St) : Prop := ((¬ l1 = (-1) → j_Qry_readPath_242 post o l1 l2 l3 x) ∧ (l1 = (-1) → (∃ q4214 : Nat, fR x o 17 = some q4214 ∧ wp_Scn_refuse (fun (x4215 : St) => j_Qry_readPath_242 post o l1 l2 l3 x4215) q4214 (fI x o 19) x)))
set_option maxHeartbeats 4000000 in
set_option maxRecDepth 100000 in
theorem t_Qry_readPath_226 {p : Program} {l : Launch} {e : Env} {R : Room} {s : State} {m : MethodId} {args : Array Value} {below : List Frame} {meth : Method} {c : Code} {cells slots : Nat} {Q : State → Prop} {dC : Nat → ClassId} {dI : Nat → Nat → Nat} {cI cB cJ cZ : ClassId} {A : Nat → Prop} {ad : Nat → Nat} {NN : Nat} {E : Heap} {tM tC : Nat} {kK kV : Nat → Nat} {post : Int32 → St → Prop} (hx : p.tables.exec = Jvm.exec) (hb : c.code = b_Qry_readPath) (hml : c.maxLocals = 5) (hown : s.vm.findClass R_Qry = some m.cls) (hT : ∀ w ∈ TG, w.before args s = true) (hK : va_K (dC, dI) CL (TY cI cB cJ cZ) s) (hN : NW s) (hA : ∀ q : Nat, s.heap.size ≤ q → A q) (hRc : cells ≤ R.cells) (hRs : slots ≤ R.slots) (hRf : 6 ≤ R.frames) (hRl : 242 ≤ R.locals) (hNN : 152 ≤ NN) (hE : CE E tM tC kK kV A s) (hret : ∀ (r : Int32) (x : St) (H : Heap) (locs : List Loc) (pc : Nat) (ls : Array Slot), decode b_Qry_readPath pc = .ok (.ireturn, 1) → post r x → Wd dC dI cI cB cJ cZ ad stC kcC NN A x H → va_S A s.heap H locs → W p l e R s m args below meth c H locs cells slots Q (F0 m pc ls [.int r]))  : ∀ (o : Nat) (l1 : Int32) (l2 : Int32) (l3 : Int32) (x : St) (H : Heap) (locs : List Loc) (ls : Array Slot), (o < NN ∧ kcC o = 9) → j_Qry_readPath_226 post o l1 l2 l3 x → Wd dC dI cI cB cJ cZ ad stC kcC NN A x H → va_S A s.heap H locs → lv_has ls 5 [(0, .ref (ad o)), (1, .int l1), (2, .int l2), (3, .int l3)] → W p l e R s m args below meth c H locs cells slots Q (F0 m 226 ls []) := by
  intro o l1 l2 l3 x H locs ls fo hw hW hS hl
  unfold j_Qry_readPath_226 at hw
  refine lv_iload_n hx hb d_Qry_readPath_226 rfl (lv_at hl 1 rfl) ?_
  refine lv_iconst (v := (-1)) hx hb d_Qry_readPath_227 (by decide) ?_
  refine lv_icmp_ne (tgt := 242) hx hb d_Qry_readPath_228 (by decide) (fun c4213 => ?_) (fun c4213 => ?_)
  · have hw := hw.1 c4213
    exact t_Qry_readPath_242 hx hb hml hown hT hK hN hA hRc hRs hRf hRl hNN hE hret  o l1 l2 l3 x H locs ls fo hw hW hS (lv_sub hl [0, 1, 2, 3] rfl)
  · have hw := hw.2 c4213
    refine lv_aload_n hx hb d_Qry_readPath_231 rfl (lv_at hl 0 rfl) ?_
    obtain ⟨q4214, hq4214, hw⟩ := hw
    refine w_getr (q := q4214) (k := 17) (t := 9) (C := R_Qry) (T := F_Qry) (N := 20) hx hb hT hown hK hW fo.1 fo.2 (by decide) in_Qry rfl rfl (by decide) rfl fr_Qry_17 w_3_105 d_Qry_readPath_232 hq4214 (fun aq4214 bq4214 => ?_)
    have fq4214 : q4214 < NN ∧ kcC q4214 = 2 := ⟨aq4214, bq4214⟩
    refine lv_aload_n hx hb d_Qry_readPath_235 rfl (lv_at hl 0 rfl) ?_
    refine w_geti (k := 19) (t := 9) (C := R_Qry) (T := F_Qry) (N := 20) hx hb hT hown hK hW fo.1 fo.2 (by decide) in_Qry rfl rfl (by decide) rfl fr_Qry_19 w_3_107 d_Qry_readPath_236 ?_
    have hF := hW.free hS hA
    refine va_callv (va_runV (C := R_Scn) (As := [.int (fI x o 19)]) (rest := []) ⟨hx, hb, hml, hown, hT⟩ (k_Scn_refuse l dC dI cI cB cJ cZ ad NN E tM tC kK kV hNN H.size q4214 (fI x o 19) x fq4214 hw) ⟨callB_of 1 hT (gw_in w_4_128) rfl rfl rfl (hT _ w_1_4) (hT _ w_7_149) (by decide +kernel) ⟨Nat.le_trans (by decide) hRf, Nat.le_trans (by decide) hRl⟩, hT _ w_4_126, hT _ w_4_127⟩ ⟨PV.blind, va_recv hK hW.1 (ci := 2) (q0 := q4214) rfl (pic_obj fq4214.1 fq4214.2 (by decide)), PV.at _ hW hK hN hE hS hF⟩ rfl rfl hl.1 rfl (lv_room (Nat.le_of_ble_eq_true rfl)) d_Qry_readPath_239 ⟨hRc, hRs⟩) hS (fun q _ h => hF q h) hF (fun  x4215 t H locs ht hvm hw hB hz1 hk1 hS => ?_)
    have hW := Wd.back hB ht hF
    clear hB ht hF hz1 hk1 hvm
    exact t_Qry_readPath_242 hx hb hml hown hT hK hN hA hRc hRs hRf hRl hNN hE hret  o l1 l2 l3 x4215 H locs ls fo hw hW hS (lv_sub hl [0, 1, 2, 3] rfl)
set_option maxRecDepth 100000 in
def j_Qry_readPath_216 (post : Int32 → St → Prop) (rec37 : Nat → Int32 → Int32 → Int32 → St → Prop) (o : Nat) (l1 : Int32) (l2 : Int32) (l3 : Int32) (l4 : Int32) (s0 : Int32) (s1 : Int32) (s2 : Nat) (x : St) : Prop := (∀ x4216 : St, x4216 = setI x s2 2 (s1 + s0) → rec37 o l1 l2 (l3 + 1) x4216)
set_option maxHeartbeats 4000000 in
set_option maxRecDepth 100000 in
theorem t_Qry_readPath_216 {p : Program} {l : Launch} {e : Env} {R : Room} {s : State} {m : MethodId} {args : Array Value} {below : List Frame} {meth : Method} {c : Code} {cells slots : Nat} {Q : State → Prop} {dC : Nat → ClassId} {dI : Nat → Nat → Nat} {cI cB cJ cZ : ClassId} {A : Nat → Prop} {ad : Nat → Nat} {NN : Nat} {E : Heap} {tM tC : Nat} {kK kV : Nat → Nat} {post : Int32 → St → Prop} {rec37 : Nat → Int32 → Int32 → Int32 → St → Prop} (hx : p.tables.exec = Jvm.exec) (hb : c.code = b_Qry_readPath) (hml : c.maxLocals = 5) (hown : s.vm.findClass R_Qry = some m.cls) (hT : ∀ w ∈ TG, w.before args s = true) (hK : va_K (dC, dI) CL (TY cI cB cJ cZ) s) (hN : NW s) (hA : ∀ q : Nat, s.heap.size ≤ q → A q) (hRc : cells ≤ R.cells) (hRs : slots ≤ R.slots) (hRf : 6 ≤ R.frames) (hRl : 242 ≤ R.locals) (hNN : 152 ≤ NN) (hE : CE E tM tC kK kV A s) (hret : ∀ (r : Int32) (x : St) (H : Heap) (locs : List Loc) (pc : Nat) (ls : Array Slot), decode b_Qry_readPath pc = .ok (.ireturn, 1) → post r x → Wd dC dI cI cB cJ cZ ad stC kcC NN A x H → va_S A s.heap H locs → W p l e R s m args below meth c H locs cells slots Q (F0 m pc ls [.int r])) (hrec37 : ∀ (o : Nat) (l1 : Int32) (l2 : Int32) (l3 : Int32) (x : St) (H : Heap) (locs : List Loc) (ls : Array Slot), (o < NN ∧ kcC o = 9) → rec37 o l1 l2 l3 x → Wd dC dI cI cB cJ cZ ad stC kcC NN A x H → va_S A s.heap H locs → lv_has ls 5 [(0, .ref (ad o)), (1, .int l1), (2, .int l2), (3, .int l3)] → W p l e R s m args below meth c H locs cells slots Q (F0 m 37 ls [])) : ∀ (o : Nat) (l1 : Int32) (l2 : Int32) (l3 : Int32) (l4 : Int32) (s0 : Int32) (s1 : Int32) (s2 : Nat) (x : St) (H : Heap) (locs : List Loc) (ls : Array Slot), (o < NN ∧ kcC o = 9) → (s2 < NN ∧ kcC s2 = 2) → j_Qry_readPath_216 post rec37 o l1 l2 l3 l4 s0 s1 s2 x → Wd dC dI cI cB cJ cZ ad stC kcC NN A x H → va_S A s.heap H locs → lv_has ls 5 [(0, .ref (ad o)), (1, .int l1), (2, .int l2), (3, .int l3), (4, .int l4)] → W p l e R s m args below meth c H locs cells slots Q (F0 m 216 ls [.int s0, .int s1, .ref (ad s2)]) := by
  intro o l1 l2 l3 l4 s0 s1 s2 x H locs ls fo fs2 hw hW hS hl
  unfold j_Qry_readPath_216 at hw
  refine lv_iadd hx hb d_Qry_readPath_216 ?_
  refine w_puti (ty := .int) (k := 2) (t := 2) (C := R_Scn) (T := F_Scn) (N := 8) hx hb hT hown hK hW hS fs2.1 fs2.2 (by decide) in_Scn t_Scn t_Scn_ok n_Scn rfl rfl (by decide) rfl fr_Scn_2 w_1_86 (by decide +kernel) rfl rfl d_Qry_readPath_217 (fun H locs hW hS => ?_)
  obtain ⟨x4216, ex4216⟩ : ∃ y : St, y = setI x s2 2 (s1 + s0) := ⟨_, rfl⟩
  rw [← ex4216] at hW
  have hw := hw x4216 ex4216
  refine lv_iinc (v := (l3 + 1)) (lv' := [(3, .int (l3 + 1)), (0, .ref (ad o)), (1, .int l1), (2, .int l2), (4, .int l4)]) hx hb d_Qry_readPath_220 hl (k := 3) rfl rfl (by decide) rfl (fun ls hl => ?_)
  refine lv_goto (tgt := 37) hx hb d_Qry_readPath_223 (by decide) ?_
  exact hrec37 o l1 l2 (l3 + 1) x4216 H locs ls fo hw hW hS (lv_sub hl [1, 2, 3, 0] rfl)
set_option maxRecDepth 100000 in
def j_Qry_readPath_198 (post : Int32 → St → Prop) (rec37 : Nat → Int32 → Int32 → Int32 → St → Prop) (o : Nat) (l1 : Int32) (l2 : Int32) (l3 : Int32) (l4 : Int32) (s0 : Int32) (x : St) : Prop := (∃ q4217 : Nat, fR x o 17 = some q4217 ∧ ((s0 = 0 → j_Qry_readPath_216 post rec37 o l1 s0 l3 l4 0 (fI x q4217 2) q4217 x) ∧ (¬ s0 = 0 → j_Qry_readPath_216 post rec37 o l1 s0 l3 l4 1 (fI x q4217 2) q4217 x)))
set_option maxHeartbeats 4000000 in
set_option maxRecDepth 100000 in
theorem t_Qry_readPath_198 {p : Program} {l : Launch} {e : Env} {R : Room} {s : State} {m : MethodId} {args : Array Value} {below : List Frame} {meth : Method} {c : Code} {cells slots : Nat} {Q : State → Prop} {dC : Nat → ClassId} {dI : Nat → Nat → Nat} {cI cB cJ cZ : ClassId} {A : Nat → Prop} {ad : Nat → Nat} {NN : Nat} {E : Heap} {tM tC : Nat} {kK kV : Nat → Nat} {post : Int32 → St → Prop} {rec37 : Nat → Int32 → Int32 → Int32 → St → Prop} (hx : p.tables.exec = Jvm.exec) (hb : c.code = b_Qry_readPath) (hml : c.maxLocals = 5) (hown : s.vm.findClass R_Qry = some m.cls) (hT : ∀ w ∈ TG, w.before args s = true) (hK : va_K (dC, dI) CL (TY cI cB cJ cZ) s) (hN : NW s) (hA : ∀ q : Nat, s.heap.size ≤ q → A q) (hRc : cells ≤ R.cells) (hRs : slots ≤ R.slots) (hRf : 6 ≤ R.frames) (hRl : 242 ≤ R.locals) (hNN : 152 ≤ NN) (hE : CE E tM tC kK kV A s) (hret : ∀ (r : Int32) (x : St) (H : Heap) (locs : List Loc) (pc : Nat) (ls : Array Slot), decode b_Qry_readPath pc = .ok (.ireturn, 1) → post r x → Wd dC dI cI cB cJ cZ ad stC kcC NN A x H → va_S A s.heap H locs → W p l e R s m args below meth c H locs cells slots Q (F0 m pc ls [.int r])) (hrec37 : ∀ (o : Nat) (l1 : Int32) (l2 : Int32) (l3 : Int32) (x : St) (H : Heap) (locs : List Loc) (ls : Array Slot), (o < NN ∧ kcC o = 9) → rec37 o l1 l2 l3 x → Wd dC dI cI cB cJ cZ ad stC kcC NN A x H → va_S A s.heap H locs → lv_has ls 5 [(0, .ref (ad o)), (1, .int l1), (2, .int l2), (3, .int l3)] → W p l e R s m args below meth c H locs cells slots Q (F0 m 37 ls [])) : ∀ (o : Nat) (l1 : Int32) (l2 : Int32) (l3 : Int32) (l4 : Int32) (s0 : Int32) (x : St) (H : Heap) (locs : List Loc) (ls : Array Slot), (o < NN ∧ kcC o = 9) → j_Qry_readPath_198 post rec37 o l1 l2 l3 l4 s0 x → Wd dC dI cI cB cJ cZ ad stC kcC NN A x H → va_S A s.heap H locs → lv_has ls 5 [(0, .ref (ad o)), (1, .int l1), (2, .int l2), (3, .int l3), (4, .int l4)] → W p l e R s m args below meth c H locs cells slots Q (F0 m 198 ls [.int s0]) := by
  intro o l1 l2 l3 l4 s0 x H locs ls fo hw hW hS hl
  unfold j_Qry_readPath_198 at hw
  refine lv_istore_n (lv' := [(2, .int s0), (0, .ref (ad o)), (1, .int l1), (3, .int l3), (4, .int l4)]) hx hb d_Qry_readPath_198 rfl hl (by decide) rfl (fun ls hl => ?_)
  refine lv_aload_n hx hb d_Qry_readPath_199 rfl (lv_at hl 1 rfl) ?_
  obtain ⟨q4217, hq4217, hw⟩ := hw
  refine w_getr (q := q4217) (k := 17) (t := 9) (C := R_Qry) (T := F_Qry) (N := 20) hx hb hT hown hK hW fo.1 fo.2 (by decide) in_Qry rfl rfl (by decide) rfl fr_Qry_17 w_3_105 d_Qry_readPath_200 hq4217 (fun aq4217 bq4217 => ?_)
  have fq4217 : q4217 < NN ∧ kcC q4217 = 2 := ⟨aq4217, bq4217⟩
  refine lv_dup hx hb d_Qry_readPath_203 rfl ?_
  refine w_geti (k := 2) (t := 2) (C := R_Scn) (T := F_Scn) (N := 8) hx hb hT hown hK hW fq4217.1 fq4217.2 (by decide) in_Scn rfl rfl (by decide) rfl fr_Scn_2 w_1_86 d_Qry_readPath_204 ?_
  refine lv_iload_n hx hb d_Qry_readPath_207 rfl (lv_at hl 0 rfl) ?_
  refine lv_if_eq (tgt := 215) hx hb d_Qry_readPath_208 (by decide) (fun c4218 => ?_) (fun c4218 => ?_)
  · have hw := hw.1 c4218
    refine lv_iconst (v := 0) hx hb d_Qry_readPath_215 (by decide) ?_
    exact t_Qry_readPath_216 hx hb hml hown hT hK hN hA hRc hRs hRf hRl hNN hE hret hrec37 o l1 s0 l3 l4 0 (fI x q4217 2) q4217 x H locs ls fo fq4217 hw hW hS (lv_sub hl [1, 2, 0, 3, 4] rfl)
  · have hw := hw.2 c4218
    refine lv_iconst (v := 1) hx hb d_Qry_readPath_211 (by decide) ?_
    refine lv_goto (tgt := 216) hx hb d_Qry_readPath_212 (by decide) ?_
    exact t_Qry_readPath_216 hx hb hml hown hT hK hN hA hRc hRs hRf hRl hNN hE hret hrec37 o l1 s0 l3 l4 1 (fI x q4217 2) q4217 x H locs ls fo fq4217 hw hW hS (lv_sub hl [1, 2, 0, 3, 4] rfl)
set_option maxRecDepth 100000 in
def j_Qry_readPath_173 (post : Int32 → St → Prop) (rec37 : Nat → Int32 → Int32 → Int32 → St → Prop) (o : Nat) (l1 : Int32) (l2 : Int32) (l3 : Int32) (l4 : Int32) (s0 : Int32) (x : St) : Prop := (∃ q4219 : Nat, fR x o 17 = some q4219 ∧ (∃ q4220 : Nat, fR x o 17 = some q4220 ∧ wp_Scn_byteAt (fun (r4222 : Int32) (x4221 : St) => ((¬ r4222 = 46 → j_Qry_readPath_198 post rec37 o s0 l2 l3 l4 0 x4221) ∧ (r4222 = 46 → j_Qry_readPath_198 post rec37 o s0 l2 l3 l4 1 x4221))) q4219 (fI x q4220 2) x))
set_option maxHeartbeats 4000000 in
set_option maxRecDepth 100000 in
theorem t_Qry_readPath_173 {p : Program} {l : Launch} {e : Env} {R : Room} {s : State} {m : MethodId} {args : Array Value} {below : List Frame} {meth : Method} {c : Code} {cells slots : Nat} {Q : State → Prop} {dC : Nat → ClassId} {dI : Nat → Nat → Nat} {cI cB cJ cZ : ClassId} {A : Nat → Prop} {ad : Nat → Nat} {NN : Nat} {E : Heap} {tM tC : Nat} {kK kV : Nat → Nat} {post : Int32 → St → Prop} {rec37 : Nat → Int32 → Int32 → Int32 → St → Prop} (hx : p.tables.exec = Jvm.exec) (hb : c.code = b_Qry_readPath) (hml : c.maxLocals = 5) (hown : s.vm.findClass R_Qry = some m.cls) (hT : ∀ w ∈ TG, w.before args s = true) (hK : va_K (dC, dI) CL (TY cI cB cJ cZ) s) (hN : NW s) (hA : ∀ q : Nat, s.heap.size ≤ q → A q) (hRc : cells ≤ R.cells) (hRs : slots ≤ R.slots) (hRf : 6 ≤ R.frames) (hRl : 242 ≤ R.locals) (hNN : 152 ≤ NN) (hE : CE E tM tC kK kV A s) (hret : ∀ (r : Int32) (x : St) (H : Heap) (locs : List Loc) (pc : Nat) (ls : Array Slot), decode b_Qry_readPath pc = .ok (.ireturn, 1) → post r x → Wd dC dI cI cB cJ cZ ad stC kcC NN A x H → va_S A s.heap H locs → W p l e R s m args below meth c H locs cells slots Q (F0 m pc ls [.int r])) (hrec37 : ∀ (o : Nat) (l1 : Int32) (l2 : Int32) (l3 : Int32) (x : St) (H : Heap) (locs : List Loc) (ls : Array Slot), (o < NN ∧ kcC o = 9) → rec37 o l1 l2 l3 x → Wd dC dI cI cB cJ cZ ad stC kcC NN A x H → va_S A s.heap H locs → lv_has ls 5 [(0, .ref (ad o)), (1, .int l1), (2, .int l2), (3, .int l3)] → W p l e R s m args below meth c H locs cells slots Q (F0 m 37 ls [])) : ∀ (o : Nat) (l1 : Int32) (l2 : Int32) (l3 : Int32) (l4 : Int32) (s0 : Int32) (x : St) (H : Heap) (locs : List Loc) (ls : Array Slot), (o < NN ∧ kcC o = 9) → j_Qry_readPath_173 post rec37 o l1 l2 l3 l4 s0 x → Wd dC dI cI cB cJ cZ ad stC kcC NN A x H → va_S A s.heap H locs → lv_has ls 5 [(0, .ref (ad o)), (1, .int l1), (2, .int l2), (3, .int l3), (4, .int l4)] → W p l e R s m args below meth c H locs cells slots Q (F0 m 173 ls [.int s0]) := by
  intro o l1 l2 l3 l4 s0 x H locs ls fo hw hW hS hl
  unfold j_Qry_readPath_173 at hw
  refine lv_istore_n (lv' := [(1, .int s0), (0, .ref (ad o)), (2, .int l2), (3, .int l3), (4, .int l4)]) hx hb d_Qry_readPath_173 rfl hl (by decide) rfl (fun ls hl => ?_)
  refine lv_aload_n hx hb d_Qry_readPath_174 rfl (lv_at hl 1 rfl) ?_
  obtain ⟨q4219, hq4219, hw⟩ := hw
  refine w_getr (q := q4219) (k := 17) (t := 9) (C := R_Qry) (T := F_Qry) (N := 20) hx hb hT hown hK hW fo.1 fo.2 (by decide) in_Qry rfl rfl (by decide) rfl fr_Qry_17 w_3_105 d_Qry_readPath_175 hq4219 (fun aq4219 bq4219 => ?_)
  have fq4219 : q4219 < NN ∧ kcC q4219 = 2 := ⟨aq4219, bq4219⟩
  refine lv_aload_n hx hb d_Qry_readPath_178 rfl (lv_at hl 1 rfl) ?_
  obtain ⟨q4220, hq4220, hw⟩ := hw
  refine w_getr (q := q4220) (k := 17) (t := 9) (C := R_Qry) (T := F_Qry) (N := 20) hx hb hT hown hK hW fo.1 fo.2 (by decide) in_Qry rfl rfl (by decide) rfl fr_Qry_17 w_3_105 d_Qry_readPath_179 hq4220 (fun aq4220 bq4220 => ?_)
  have fq4220 : q4220 < NN ∧ kcC q4220 = 2 := ⟨aq4220, bq4220⟩
  refine w_geti (k := 2) (t := 2) (C := R_Scn) (T := F_Scn) (N := 8) hx hb hT hown hK hW fq4220.1 fq4220.2 (by decide) in_Scn rfl rfl (by decide) rfl fr_Scn_2 w_1_86 d_Qry_readPath_182 ?_
  have hF := hW.free hS hA
  refine va_calli (va_runV (C := R_Scn) (As := [.int (fI x q4220 2)]) (rest := []) ⟨hx, hb, hml, hown, hT⟩ (k_Scn_byteAt l dC dI cI cB cJ cZ ad NN E tM tC kK kV hNN H.size q4219 (fI x q4220 2) x fq4219 hw) ⟨callB_of 1 hT (gw_in w_5_75) rfl rfl rfl (hT _ w_1_4) (hT _ w_7_167) (by decide +kernel) ⟨Nat.le_trans (by decide) hRf, Nat.le_trans (by decide) hRl⟩, hT _ w_5_73, hT _ w_5_74⟩ ⟨PV.blind, va_recv hK hW.1 (ci := 2) (q0 := q4219) rfl (pic_obj fq4219.1 fq4219.2 (by decide)), PV.at _ hW hK hN hE hS hF⟩ rfl rfl hl.1 rfl (lv_room (Nat.le_of_ble_eq_true rfl)) d_Qry_readPath_185 ⟨hRc, hRs⟩) hS (fun q _ h => hF q h) hF (fun r4222 x4221 t H locs ht hvm hw hB hz1 hk1 hS => ?_)
  have hW := Wd.back hB ht hF
  clear hB ht hF hz1 hk1 hvm
  refine lv_bipush (v := 46) hx hb d_Qry_readPath_188 (by decide) ?_
  refine lv_icmp_ne (tgt := 197) hx hb d_Qry_readPath_190 (by decide) (fun c4223 => ?_) (fun c4223 => ?_)
  · have hw := hw.1 c4223
    refine lv_iconst (v := 0) hx hb d_Qry_readPath_197 (by decide) ?_
    exact t_Qry_readPath_198 hx hb hml hown hT hK hN hA hRc hRs hRf hRl hNN hE hret hrec37 o s0 l2 l3 l4 0 x4221 H locs ls fo hw hW hS (lv_sub hl [1, 0, 2, 3, 4] rfl)
  · have hw := hw.2 c4223
    refine lv_iconst (v := 1) hx hb d_Qry_readPath_193 (by decide) ?_
    refine lv_goto (tgt := 198) hx hb d_Qry_readPath_194 (by decide) ?_
    exact t_Qry_readPath_198 hx hb hml hown hT hK hN hA hRc hRs hRf hRl hNN hE hret hrec37 o s0 l2 l3 l4 1 x4221 H locs ls fo hw hW hS (lv_sub hl [1, 0, 2, 3, 4] rfl)
set_option maxRecDepth 100000 in
def j_Qry_readPath_133 (post : Int32 → St → Prop) (rec37 : Nat → Int32 → Int32 → Int32 → St → Prop) (o : Nat) (l1 : Int32) (l2 : Int32) (l3 : Int32) (s0 : Int32) (x : St) : Prop := ((s0 = 0 → (∃ q4225 : Nat, fR x o 18 = some q4225 ∧ (∃ q4226 : Nat, fR x o 17 = some q4226 ∧ (∃ q4227 : Nat, fR x q4226 0 = some q4227 ∧ (∃ q4228 : Nat, fR x o 17 = some q4228 ∧ (∃ q4229 : Nat, fR x o 17 = some q4229 ∧ wp_Sch_find (fun (r4231 : Int32) (x4230 : St) => j_Qry_readPath_173 post rec37 o l1 l2 l3 s0 r4231 x4230) q4225 l1 q4227 (fI x q4228 4) (fI x q4229 5) x)))))) ∧ (¬ s0 = 0 → j_Qry_readPath_173 post rec37 o l1 l2 l3 s0 (-1) x))
set_option maxHeartbeats 4000000 in
set_option maxRecDepth 100000 in
theorem t_Qry_readPath_133 {p : Program} {l : Launch} {e : Env} {R : Room} {s : State} {m : MethodId} {args : Array Value} {below : List Frame} {meth : Method} {c : Code} {cells slots : Nat} {Q : State → Prop} {dC : Nat → ClassId} {dI : Nat → Nat → Nat} {cI cB cJ cZ : ClassId} {A : Nat → Prop} {ad : Nat → Nat} {NN : Nat} {E : Heap} {tM tC : Nat} {kK kV : Nat → Nat} {post : Int32 → St → Prop} {rec37 : Nat → Int32 → Int32 → Int32 → St → Prop} (hx : p.tables.exec = Jvm.exec) (hb : c.code = b_Qry_readPath) (hml : c.maxLocals = 5) (hown : s.vm.findClass R_Qry = some m.cls) (hT : ∀ w ∈ TG, w.before args s = true) (hK : va_K (dC, dI) CL (TY cI cB cJ cZ) s) (hN : NW s) (hA : ∀ q : Nat, s.heap.size ≤ q → A q) (hRc : cells ≤ R.cells) (hRs : slots ≤ R.slots) (hRf : 6 ≤ R.frames) (hRl : 242 ≤ R.locals) (hNN : 152 ≤ NN) (hE : CE E tM tC kK kV A s) (hret : ∀ (r : Int32) (x : St) (H : Heap) (locs : List Loc) (pc : Nat) (ls : Array Slot), decode b_Qry_readPath pc = .ok (.ireturn, 1) → post r x → Wd dC dI cI cB cJ cZ ad stC kcC NN A x H → va_S A s.heap H locs → W p l e R s m args below meth c H locs cells slots Q (F0 m pc ls [.int r])) (hrec37 : ∀ (o : Nat) (l1 : Int32) (l2 : Int32) (l3 : Int32) (x : St) (H : Heap) (locs : List Loc) (ls : Array Slot), (o < NN ∧ kcC o = 9) → rec37 o l1 l2 l3 x → Wd dC dI cI cB cJ cZ ad stC kcC NN A x H → va_S A s.heap H locs → lv_has ls 5 [(0, .ref (ad o)), (1, .int l1), (2, .int l2), (3, .int l3)] → W p l e R s m args below meth c H locs cells slots Q (F0 m 37 ls [])) : ∀ (o : Nat) (l1 : Int32) (l2 : Int32) (l3 : Int32) (s0 : Int32) (x : St) (H : Heap) (locs : List Loc) (ls : Array Slot), (o < NN ∧ kcC o = 9) → j_Qry_readPath_133 post rec37 o l1 l2 l3 s0 x → Wd dC dI cI cB cJ cZ ad stC kcC NN A x H → va_S A s.heap H locs → lv_has ls 5 [(0, .ref (ad o)), (1, .int l1), (2, .int l2), (3, .int l3)] → W p l e R s m args below meth c H locs cells slots Q (F0 m 133 ls [.int s0]) := by
  intro o l1 l2 l3 s0 x H locs ls fo hw hW hS hl
  unfold j_Qry_readPath_133 at hw
  refine lv_istore (lv' := [(4, .int s0), (0, .ref (ad o)), (1, .int l1), (2, .int l2), (3, .int l3)]) hx hb d_Qry_readPath_133 hl (by decide) rfl (fun ls hl => ?_)
  refine lv_iload hx hb d_Qry_readPath_135 (lv_at hl 0 rfl) ?_
  refine lv_if_eq (tgt := 144) hx hb d_Qry_readPath_137 (by decide) (fun c4224 => ?_) (fun c4224 => ?_)
  · have hw := hw.1 c4224
    refine lv_aload_n hx hb d_Qry_readPath_144 rfl (lv_at hl 1 rfl) ?_
    obtain ⟨q4225, hq4225, hw⟩ := hw
    refine w_getr (q := q4225) (k := 18) (t := 9) (C := R_Qry) (T := F_Qry) (N := 20) hx hb hT hown hK hW fo.1 fo.2 (by decide) in_Qry rfl rfl (by decide) rfl fr_Qry_18 w_3_106 d_Qry_readPath_145 hq4225 (fun aq4225 bq4225 => ?_)
    have fq4225 : q4225 < NN ∧ kcC q4225 = 3 := ⟨aq4225, bq4225⟩
    refine lv_iload_n hx hb d_Qry_readPath_148 rfl (lv_at hl 2 rfl) ?_
    refine lv_aload_n hx hb d_Qry_readPath_149 rfl (lv_at hl 1 rfl) ?_
    obtain ⟨q4226, hq4226, hw⟩ := hw
    refine w_getr (q := q4226) (k := 17) (t := 9) (C := R_Qry) (T := F_Qry) (N := 20) hx hb hT hown hK hW fo.1 fo.2 (by decide) in_Qry rfl rfl (by decide) rfl fr_Qry_17 w_3_105 d_Qry_readPath_150 hq4226 (fun aq4226 bq4226 => ?_)
    have fq4226 : q4226 < NN ∧ kcC q4226 = 2 := ⟨aq4226, bq4226⟩
    obtain ⟨q4227, hq4227, hw⟩ := hw
    refine w_getr (q := q4227) (k := 0) (t := 2) (C := R_Scn) (T := F_Scn) (N := 8) hx hb hT hown hK hW fq4226.1 fq4226.2 (by decide) in_Scn rfl rfl (by decide) rfl fr_Scn_0 w_1_79 d_Qry_readPath_153 hq4227 (fun aq4227 bq4227 => ?_)
    have fq4227 : q4227 < NN ∧ kcC q4227 = 21 := ⟨aq4227, bq4227⟩
    refine lv_aload_n hx hb d_Qry_readPath_156 rfl (lv_at hl 1 rfl) ?_
    obtain ⟨q4228, hq4228, hw⟩ := hw
    refine w_getr (q := q4228) (k := 17) (t := 9) (C := R_Qry) (T := F_Qry) (N := 20) hx hb hT hown hK hW fo.1 fo.2 (by decide) in_Qry rfl rfl (by decide) rfl fr_Qry_17 w_3_105 d_Qry_readPath_157 hq4228 (fun aq4228 bq4228 => ?_)
    have fq4228 : q4228 < NN ∧ kcC q4228 = 2 := ⟨aq4228, bq4228⟩
    refine w_geti (k := 4) (t := 2) (C := R_Scn) (T := F_Scn) (N := 8) hx hb hT hown hK hW fq4228.1 fq4228.2 (by decide) in_Scn rfl rfl (by decide) rfl fr_Scn_4 w_1_95 d_Qry_readPath_160 ?_
    refine lv_aload_n hx hb d_Qry_readPath_163 rfl (lv_at hl 1 rfl) ?_
    obtain ⟨q4229, hq4229, hw⟩ := hw
    refine w_getr (q := q4229) (k := 17) (t := 9) (C := R_Qry) (T := F_Qry) (N := 20) hx hb hT hown hK hW fo.1 fo.2 (by decide) in_Qry rfl rfl (by decide) rfl fr_Qry_17 w_3_105 d_Qry_readPath_164 hq4229 (fun aq4229 bq4229 => ?_)
    have fq4229 : q4229 < NN ∧ kcC q4229 = 2 := ⟨aq4229, bq4229⟩
    refine w_geti (k := 5) (t := 2) (C := R_Scn) (T := F_Scn) (N := 8) hx hb hT hown hK hW fq4229.1 fq4229.2 (by decide) in_Scn rfl rfl (by decide) rfl fr_Scn_5 w_1_99 d_Qry_readPath_167 ?_
    have hF := hW.free hS hA
    refine va_calli (va_runV (C := R_Sch) (As := [.int l1, .ref (ad q4227), .int (fI x q4228 4), .int (fI x q4229 5)]) (rest := []) ⟨hx, hb, hml, hown, hT⟩ (k_Sch_find l dC dI cI cB cJ cZ ad NN E tM tC kK kV hNN H.size q4225 l1 q4227 (fI x q4228 4) (fI x q4229 5) x fq4225 fq4227 hw) ⟨callB_of 4 hT (gw_in w_4_229) rfl rfl rfl (hT _ w_1_5) (hT _ w_7_186) (by decide +kernel) ⟨Nat.le_trans (by decide) hRf, Nat.le_trans (by decide) hRl⟩, hT _ w_4_227, hT _ w_4_228⟩ ⟨PV.blind, va_recv hK hW.1 (ci := 3) (q0 := q4225) rfl (pic_obj fq4225.1 fq4225.2 (by decide)), PV.at _ hW hK hN hE hS hF⟩ rfl rfl hl.1 rfl (lv_room (Nat.le_of_ble_eq_true rfl)) d_Qry_readPath_170 ⟨hRc, hRs⟩) hS (fun q _ h => hF q h) hF (fun r4231 x4230 t H locs ht hvm hw hB hz1 hk1 hS => ?_)
    have hW := Wd.back hB ht hF
    clear hB ht hF hz1 hk1 hvm
    exact t_Qry_readPath_173 hx hb hml hown hT hK hN hA hRc hRs hRf hRl hNN hE hret hrec37 o l1 l2 l3 s0 r4231 x4230 H locs ls fo hw hW hS (lv_sub hl [1, 2, 3, 4, 0] rfl)
  · have hw := hw.2 c4224
    refine lv_iconst (v := (-1)) hx hb d_Qry_readPath_140 (by decide) ?_
    refine lv_goto (tgt := 173) hx hb d_Qry_readPath_141 (by decide) ?_
    exact t_Qry_readPath_173 hx hb hml hown hT hK hN hA hRc hRs hRf hRl hNN hE hret hrec37 o l1 l2 l3 s0 (-1) x H locs ls fo hw hW hS (lv_sub hl [1, 2, 3, 4, 0] rfl)
set_option maxRecDepth 100000 in
def j_Qry_readPath_132 (post : Int32 → St → Prop) (rec37 : Nat → Int32 → Int32 → Int32 → St → Prop) (o : Nat) (l1 : Int32) (l2 : Int32) (l3 : Int32) (x : St) : Prop := j_Qry_readPath_133 post rec37 o l1 l2 l3 0 x
set_option maxHeartbeats 4000000 in
set_option maxRecDepth 100000 in
theorem t_Qry_readPath_132 {p : Program} {l : Launch} {e : Env} {R : Room} {s : State} {m : MethodId} {args : Array Value} {below : List Frame} {meth : Method} {c : Code} {cells slots : Nat} {Q : State → Prop} {dC : Nat → ClassId} {dI : Nat → Nat → Nat} {cI cB cJ cZ : ClassId} {A : Nat → Prop} {ad : Nat → Nat} {NN : Nat} {E : Heap} {tM tC : Nat} {kK kV : Nat → Nat} {post : Int32 → St → Prop} {rec37 : Nat → Int32 → Int32 → Int32 → St → Prop} (hx : p.tables.exec = Jvm.exec) (hb : c.code = b_Qry_readPath) (hml : c.maxLocals = 5) (hown : s.vm.findClass R_Qry = some m.cls) (hT : ∀ w ∈ TG, w.before args s = true) (hK : va_K (dC, dI) CL (TY cI cB cJ cZ) s) (hN : NW s) (hA : ∀ q : Nat, s.heap.size ≤ q → A q) (hRc : cells ≤ R.cells) (hRs : slots ≤ R.slots) (hRf : 6 ≤ R.frames) (hRl : 242 ≤ R.locals) (hNN : 152 ≤ NN) (hE : CE E tM tC kK kV A s) (hret : ∀ (r : Int32) (x : St) (H : Heap) (locs : List Loc) (pc : Nat) (ls : Array Slot), decode b_Qry_readPath pc = .ok (.ireturn, 1) → post r x → Wd dC dI cI cB cJ cZ ad stC kcC NN A x H → va_S A s.heap H locs → W p l e R s m args below meth c H locs cells slots Q (F0 m pc ls [.int r])) (hrec37 : ∀ (o : Nat) (l1 : Int32) (l2 : Int32) (l3 : Int32) (x : St) (H : Heap) (locs : List Loc) (ls : Array Slot), (o < NN ∧ kcC o = 9) → rec37 o l1 l2 l3 x → Wd dC dI cI cB cJ cZ ad stC kcC NN A x H → va_S A s.heap H locs → lv_has ls 5 [(0, .ref (ad o)), (1, .int l1), (2, .int l2), (3, .int l3)] → W p l e R s m args below meth c H locs cells slots Q (F0 m 37 ls [])) : ∀ (o : Nat) (l1 : Int32) (l2 : Int32) (l3 : Int32) (x : St) (H : Heap) (locs : List Loc) (ls : Array Slot), (o < NN ∧ kcC o = 9) → j_Qry_readPath_132 post rec37 o l1 l2 l3 x → Wd dC dI cI cB cJ cZ ad stC kcC NN A x H → va_S A s.heap H locs → lv_has ls 5 [(0, .ref (ad o)), (1, .int l1), (2, .int l2), (3, .int l3)] → W p l e R s m args below meth c H locs cells slots Q (F0 m 132 ls []) := by
  intro o l1 l2 l3 x H locs ls fo hw hW hS hl
  unfold j_Qry_readPath_132 at hw
  refine lv_iconst (v := 0) hx hb d_Qry_readPath_132 (by decide) ?_
  exact t_Qry_readPath_133 hx hb hml hown hT hK hN hA hRc hRs hRf hRl hNN hE hret hrec37 o l1 l2 l3 0 x H locs ls fo hw hW hS (lv_sub hl [0, 1, 2, 3] rfl)
set_option maxRecDepth 100000 in
def j_Qry_readPath_37 (post : Int32 → St → Prop) (rec37 : Nat → Int32 → Int32 → Int32 → St → Prop) (o : Nat) (l1 : Int32) (l2 : Int32) (l3 : Int32) (x : St) : Prop := (∃ q4232 : Nat, fR x o 17 = some q4232 ∧ (((fI x q4232 1) < l3 → j_Qry_readPath_226 post o l1 l2 l3 x) ∧ (¬ (fI x q4232 1) < l3 → ((l2 = 0 → j_Qry_readPath_226 post o l1 l2 l3 x) ∧ (¬ l2 = 0 → (∃ q4235 : Nat, fR x o 17 = some q4235 ∧ (∃ q4236 : Nat, fR x o 17 = some q4236 ∧ wp_Scn_byteAt (fun (r4238 : Int32) (x4237 : St) => wp_V_isLetter (fun (r4240 : Int32) (x4239 : St) => ((¬ r4240 = 0 → (∃ q4242 : Nat, fR x4239 o 17 = some q4242 ∧ wp_Scn_takeAnyWord (fun (r4244 : Int32) (x4243 : St) => wp_Qry_isOwnWord (fun (r4246 : Int32) (x4245 : St) => ((r4246 = 0 → ((l3 ≤ 0 → j_Qry_readPath_132 post rec37 o l1 l2 l3 x4245) ∧ (¬ l3 ≤ 0 → ((¬ l1 = (-1) → j_Qry_readPath_132 post rec37 o l1 l2 l3 x4245) ∧ (l1 = (-1) → j_Qry_readPath_133 post rec37 o l1 l2 l3 1 x4245))))) ∧ (¬ r4246 = 0 → (∃ q4250 : Nat, fR x4245 o 17 = some q4250 ∧ (∃ q4251 : Nat, fR x4245 o 17 = some q4251 ∧ wp_Scn_refuse (fun (x4252 : St) => post (-1) x4252) q4250 (fI x4245 q4251 4) x4245))))) o x4243) q4242 x4239)) ∧ (r4240 = 0 → (∃ q4253 : Nat, fR x4239 o 17 = some q4253 ∧ (∃ q4254 : Nat, fR x4239 o 17 = some q4254 ∧ wp_Scn_refuse (fun (x4255 : St) => post (-1) x4255) q4253 (fI x4239 q4254 2) x4239))))) r4238 x4237) q4235 (fI x q4236 2) x)))))))
set_option maxHeartbeats 4000000 in
set_option maxRecDepth 100000 in
theorem t_Qry_readPath_37 {p : Program} {l : Launch} {e : Env} {R : Room} {s : State} {m : MethodId} {args : Array Value} {below : List Frame} {meth : Method} {c : Code} {cells slots : Nat} {Q : State → Prop} {dC : Nat → ClassId} {dI : Nat → Nat → Nat} {cI cB cJ cZ : ClassId} {A : Nat → Prop} {ad : Nat → Nat} {NN : Nat} {E : Heap} {tM tC : Nat} {kK kV : Nat → Nat} {post : Int32 → St → Prop} {rec37 : Nat → Int32 → Int32 → Int32 → St → Prop} (hx : p.tables.exec = Jvm.exec) (hb : c.code = b_Qry_readPath) (hml : c.maxLocals = 5) (hown : s.vm.findClass R_Qry = some m.cls) (hT : ∀ w ∈ TG, w.before args s = true) (hK : va_K (dC, dI) CL (TY cI cB cJ cZ) s) (hN : NW s) (hA : ∀ q : Nat, s.heap.size ≤ q → A q) (hRc : cells ≤ R.cells) (hRs : slots ≤ R.slots) (hRf : 6 ≤ R.frames) (hRl : 242 ≤ R.locals) (hNN : 152 ≤ NN) (hE : CE E tM tC kK kV A s) (hret : ∀ (r : Int32) (x : St) (H : Heap) (locs : List Loc) (pc : Nat) (ls : Array Slot), decode b_Qry_readPath pc = .ok (.ireturn, 1) → post r x → Wd dC dI cI cB cJ cZ ad stC kcC NN A x H → va_S A s.heap H locs → W p l e R s m args below meth c H locs cells slots Q (F0 m pc ls [.int r])) (hrec37 : ∀ (o : Nat) (l1 : Int32) (l2 : Int32) (l3 : Int32) (x : St) (H : Heap) (locs : List Loc) (ls : Array Slot), (o < NN ∧ kcC o = 9) → rec37 o l1 l2 l3 x → Wd dC dI cI cB cJ cZ ad stC kcC NN A x H → va_S A s.heap H locs → lv_has ls 5 [(0, .ref (ad o)), (1, .int l1), (2, .int l2), (3, .int l3)] → W p l e R s m args below meth c H locs cells slots Q (F0 m 37 ls [])) : ∀ (o : Nat) (l1 : Int32) (l2 : Int32) (l3 : Int32) (x : St) (H : Heap) (locs : List Loc) (ls : Array Slot), (o < NN ∧ kcC o = 9) → j_Qry_readPath_37 post rec37 o l1 l2 l3 x → Wd dC dI cI cB cJ cZ ad stC kcC NN A x H → va_S A s.heap H locs → lv_has ls 5 [(0, .ref (ad o)), (1, .int l1), (2, .int l2), (3, .int l3)] → W p l e R s m args below meth c H locs cells slots Q (F0 m 37 ls []) := by
  intro o l1 l2 l3 x H locs ls fo hw hW hS hl
  unfold j_Qry_readPath_37 at hw
  refine lv_iload_n hx hb d_Qry_readPath_37 rfl (lv_at hl 3 rfl) ?_
  refine lv_aload_n hx hb d_Qry_readPath_38 rfl (lv_at hl 0 rfl) ?_
  obtain ⟨q4232, hq4232, hw⟩ := hw
  refine w_getr (q := q4232) (k := 17) (t := 9) (C := R_Qry) (T := F_Qry) (N := 20) hx hb hT hown hK hW fo.1 fo.2 (by decide) in_Qry rfl rfl (by decide) rfl fr_Qry_17 w_3_105 d_Qry_readPath_39 hq4232 (fun aq4232 bq4232 => ?_)
  have fq4232 : q4232 < NN ∧ kcC q4232 = 2 := ⟨aq4232, bq4232⟩
  refine w_geti (k := 1) (t := 2) (C := R_Scn) (T := F_Scn) (N := 8) hx hb hT hown hK hW fq4232.1 fq4232.2 (by decide) in_Scn rfl rfl (by decide) rfl fr_Scn_1 w_1_82 d_Qry_readPath_42 ?_
  refine lv_icmp_gt (tgt := 226) hx hb d_Qry_readPath_45 (by decide) (fun c4233 => ?_) (fun c4233 => ?_)
  · have hw := hw.1 c4233
    exact t_Qry_readPath_226 hx hb hml hown hT hK hN hA hRc hRs hRf hRl hNN hE hret  o l1 l2 l3 x H locs ls fo hw hW hS (lv_sub hl [0, 1, 2, 3] rfl)
  · have hw := hw.2 c4233
    refine lv_iload_n hx hb d_Qry_readPath_48 rfl (lv_at hl 2 rfl) ?_
    refine lv_if_eq (tgt := 226) hx hb d_Qry_readPath_49 (by decide) (fun c4234 => ?_) (fun c4234 => ?_)
    · have hw := hw.1 c4234
      exact t_Qry_readPath_226 hx hb hml hown hT hK hN hA hRc hRs hRf hRl hNN hE hret  o l1 l2 l3 x H locs ls fo hw hW hS (lv_sub hl [0, 1, 2, 3] rfl)
    · have hw := hw.2 c4234
      refine lv_aload_n hx hb d_Qry_readPath_52 rfl (lv_at hl 0 rfl) ?_
      obtain ⟨q4235, hq4235, hw⟩ := hw
      refine w_getr (q := q4235) (k := 17) (t := 9) (C := R_Qry) (T := F_Qry) (N := 20) hx hb hT hown hK hW fo.1 fo.2 (by decide) in_Qry rfl rfl (by decide) rfl fr_Qry_17 w_3_105 d_Qry_readPath_53 hq4235 (fun aq4235 bq4235 => ?_)
      have fq4235 : q4235 < NN ∧ kcC q4235 = 2 := ⟨aq4235, bq4235⟩
      refine lv_aload_n hx hb d_Qry_readPath_56 rfl (lv_at hl 0 rfl) ?_
      obtain ⟨q4236, hq4236, hw⟩ := hw
      refine w_getr (q := q4236) (k := 17) (t := 9) (C := R_Qry) (T := F_Qry) (N := 20) hx hb hT hown hK hW fo.1 fo.2 (by decide) in_Qry rfl rfl (by decide) rfl fr_Qry_17 w_3_105 d_Qry_readPath_57 hq4236 (fun aq4236 bq4236 => ?_)
      have fq4236 : q4236 < NN ∧ kcC q4236 = 2 := ⟨aq4236, bq4236⟩
      refine w_geti (k := 2) (t := 2) (C := R_Scn) (T := F_Scn) (N := 8) hx hb hT hown hK hW fq4236.1 fq4236.2 (by decide) in_Scn rfl rfl (by decide) rfl fr_Scn_2 w_1_86 d_Qry_readPath_60 ?_
      have hF := hW.free hS hA
      refine va_calli (va_runV (C := R_Scn) (As := [.int (fI x q4236 2)]) (rest := []) ⟨hx, hb, hml, hown, hT⟩ (k_Scn_byteAt l dC dI cI cB cJ cZ ad NN E tM tC kK kV hNN H.size q4235 (fI x q4236 2) x fq4235 hw) ⟨callB_of 1 hT (gw_in w_5_75) rfl rfl rfl (hT _ w_1_4) (hT _ w_7_167) (by decide +kernel) ⟨Nat.le_trans (by decide) hRf, Nat.le_trans (by decide) hRl⟩, hT _ w_5_73, hT _ w_5_74⟩ ⟨PV.blind, va_recv hK hW.1 (ci := 2) (q0 := q4235) rfl (pic_obj fq4235.1 fq4235.2 (by decide)), PV.at _ hW hK hN hE hS hF⟩ rfl rfl hl.1 rfl (lv_room (Nat.le_of_ble_eq_true rfl)) d_Qry_readPath_63 ⟨hRc, hRs⟩) hS (fun q _ h => hF q h) hF (fun r4238 x4237 t H locs ht hvm hw hB hz1 hk1 hS => ?_)
      have hW := Wd.back hB ht hF
      clear hB ht hF hz1 hk1 hvm
      have hF := hW.free hS hA
      refine va_calli (va_runSN (As := [.int r4238]) (rest := []) ⟨hx, hb, hml, hown, hT⟩ (k_V_isLetter l dC dI cI cB cJ cZ ad NN E tM tC kK kV hNN H.size r4238 x4237  hw) ⟨va_cnB 1 hT (gw_in w_4_148) rfl rfl rfl (hN _ wn_7_168 rfl) (hT _ w_1_1) (by decide +kernel) ⟨Nat.le_trans (by decide) hRf, Nat.le_trans (by decide) hRl⟩, hT _ w_4_147, trivial⟩ ⟨PV.blind, PV.at _ hW hK hN hE hS hF⟩ rfl rfl hl.1 rfl (lv_room (Nat.le_of_ble_eq_true rfl)) d_Qry_readPath_66 ⟨hRc, hRs⟩) hS (fun q _ h => hF q h) hF (fun r4240 x4239 t H locs ht hvm hw hB hz1 hk1 hS => ?_)
      have hW := Wd.back hB ht hF
      clear hB ht hF hz1 hk1 hvm
      refine lv_if_ne (tgt := 88) hx hb d_Qry_readPath_69 (by decide) (fun c4241 => ?_) (fun c4241 => ?_)
      · have hw := hw.1 c4241
        refine lv_aload_n hx hb d_Qry_readPath_88 rfl (lv_at hl 0 rfl) ?_
        obtain ⟨q4242, hq4242, hw⟩ := hw
        refine w_getr (q := q4242) (k := 17) (t := 9) (C := R_Qry) (T := F_Qry) (N := 20) hx hb hT hown hK hW fo.1 fo.2 (by decide) in_Qry rfl rfl (by decide) rfl fr_Qry_17 w_3_105 d_Qry_readPath_89 hq4242 (fun aq4242 bq4242 => ?_)
        have fq4242 : q4242 < NN ∧ kcC q4242 = 2 := ⟨aq4242, bq4242⟩
        have hF := hW.free hS hA
        refine va_calli (va_runV (C := R_Scn) (As := []) (rest := []) ⟨hx, hb, hml, hown, hT⟩ (k_Scn_takeAnyWord l dC dI cI cB cJ cZ ad NN E tM tC kK kV hNN H.size q4242 x4239 fq4242 hw) ⟨callB_of 0 hT (gw_in w_4_145) rfl rfl rfl (hT _ w_1_4) (hT _ w_7_169) (by decide +kernel) ⟨Nat.le_trans (by decide) hRf, Nat.le_trans (by decide) hRl⟩, hT _ w_4_143, hT _ w_4_144⟩ ⟨PV.blind, va_recv hK hW.1 (ci := 2) (q0 := q4242) rfl (pic_obj fq4242.1 fq4242.2 (by decide)), PV.at _ hW hK hN hE hS hF⟩ rfl rfl hl.1 rfl (lv_room (Nat.le_of_ble_eq_true rfl)) d_Qry_readPath_92 ⟨hRc, hRs⟩) hS (fun q _ h => hF q h) hF (fun r4244 x4243 t H locs ht hvm hw hB hz1 hk1 hS => ?_)
        have hW := Wd.back hB ht hF
        clear hB ht hF hz1 hk1 hvm
        refine lv_pop hx hb d_Qry_readPath_95 rfl ?_
        refine lv_aload_n hx hb d_Qry_readPath_96 rfl (lv_at hl 0 rfl) ?_
        have hF := hW.free hS hA
        refine va_calli (va_runV (C := R_Qry) (As := []) (rest := []) ⟨hx, hb, hml, hown, hT⟩ (k_Qry_isOwnWord l dC dI cI cB cJ cZ ad NN E tM tC kK kV hNN H.size o x4243 fo hw) ⟨callB_of 0 hT (gw_in w_7_173) rfl rfl rfl (hT _ w_1_12) (hT _ w_7_170) (by decide +kernel) ⟨Nat.le_trans (by decide) hRf, Nat.le_trans (by decide) hRl⟩, hT _ w_7_172, hT _ ws_72⟩ ⟨PV.blind, va_recv hK hW.1 (ci := 9) (q0 := o) rfl (pic_obj fo.1 fo.2 (by decide)), PV.at _ hW hK hN hE hS hF⟩ rfl rfl hl.1 rfl (lv_room (Nat.le_of_ble_eq_true rfl)) d_Qry_readPath_97 ⟨hRc, hRs⟩) hS (fun q _ h => hF q h) hF (fun r4246 x4245 t H locs ht hvm hw hB hz1 hk1 hS => ?_)
        have hW := Wd.back hB ht hF
        clear hB ht hF hz1 hk1 hvm
        refine lv_if_eq (tgt := 119) hx hb d_Qry_readPath_100 (by decide) (fun c4247 => ?_) (fun c4247 => ?_)
        · have hw := hw.1 c4247
          refine lv_iload_n hx hb d_Qry_readPath_119 rfl (lv_at hl 3 rfl) ?_
          refine lv_if_le (tgt := 132) hx hb d_Qry_readPath_120 (by decide) (fun c4248 => ?_) (fun c4248 => ?_)
          · have hw := hw.1 c4248
            exact t_Qry_readPath_132 hx hb hml hown hT hK hN hA hRc hRs hRf hRl hNN hE hret hrec37 o l1 l2 l3 x4245 H locs ls fo hw hW hS (lv_sub hl [0, 1, 2, 3] rfl)
          · have hw := hw.2 c4248
            refine lv_iload_n hx hb d_Qry_readPath_123 rfl (lv_at hl 1 rfl) ?_
            refine lv_iconst (v := (-1)) hx hb d_Qry_readPath_124 (by decide) ?_
            refine lv_icmp_ne (tgt := 132) hx hb d_Qry_readPath_125 (by decide) (fun c4249 => ?_) (fun c4249 => ?_)
            · have hw := hw.1 c4249
              exact t_Qry_readPath_132 hx hb hml hown hT hK hN hA hRc hRs hRf hRl hNN hE hret hrec37 o l1 l2 l3 x4245 H locs ls fo hw hW hS (lv_sub hl [0, 1, 2, 3] rfl)
            · have hw := hw.2 c4249
              refine lv_iconst (v := 1) hx hb d_Qry_readPath_128 (by decide) ?_
              refine lv_goto (tgt := 133) hx hb d_Qry_readPath_129 (by decide) ?_
              exact t_Qry_readPath_133 hx hb hml hown hT hK hN hA hRc hRs hRf hRl hNN hE hret hrec37 o l1 l2 l3 1 x4245 H locs ls fo hw hW hS (lv_sub hl [0, 1, 2, 3] rfl)
        · have hw := hw.2 c4247
          refine lv_aload_n hx hb d_Qry_readPath_103 rfl (lv_at hl 0 rfl) ?_
          obtain ⟨q4250, hq4250, hw⟩ := hw
          refine w_getr (q := q4250) (k := 17) (t := 9) (C := R_Qry) (T := F_Qry) (N := 20) hx hb hT hown hK hW fo.1 fo.2 (by decide) in_Qry rfl rfl (by decide) rfl fr_Qry_17 w_3_105 d_Qry_readPath_104 hq4250 (fun aq4250 bq4250 => ?_)
          have fq4250 : q4250 < NN ∧ kcC q4250 = 2 := ⟨aq4250, bq4250⟩
          refine lv_aload_n hx hb d_Qry_readPath_107 rfl (lv_at hl 0 rfl) ?_
          obtain ⟨q4251, hq4251, hw⟩ := hw
          refine w_getr (q := q4251) (k := 17) (t := 9) (C := R_Qry) (T := F_Qry) (N := 20) hx hb hT hown hK hW fo.1 fo.2 (by decide) in_Qry rfl rfl (by decide) rfl fr_Qry_17 w_3_105 d_Qry_readPath_108 hq4251 (fun aq4251 bq4251 => ?_)
          have fq4251 : q4251 < NN ∧ kcC q4251 = 2 := ⟨aq4251, bq4251⟩
          refine w_geti (k := 4) (t := 2) (C := R_Scn) (T := F_Scn) (N := 8) hx hb hT hown hK hW fq4251.1 fq4251.2 (by decide) in_Scn rfl rfl (by decide) rfl fr_Scn_4 w_1_95 d_Qry_readPath_111 ?_
          have hF := hW.free hS hA
          refine va_callv (va_runV (C := R_Scn) (As := [.int (fI x4245 q4251 4)]) (rest := []) ⟨hx, hb, hml, hown, hT⟩ (k_Scn_refuse l dC dI cI cB cJ cZ ad NN E tM tC kK kV hNN H.size q4250 (fI x4245 q4251 4) x4245 fq4250 hw) ⟨callB_of 1 hT (gw_in w_4_128) rfl rfl rfl (hT _ w_1_4) (hT _ w_7_149) (by decide +kernel) ⟨Nat.le_trans (by decide) hRf, Nat.le_trans (by decide) hRl⟩, hT _ w_4_126, hT _ w_4_127⟩ ⟨PV.blind, va_recv hK hW.1 (ci := 2) (q0 := q4250) rfl (pic_obj fq4250.1 fq4250.2 (by decide)), PV.at _ hW hK hN hE hS hF⟩ rfl rfl hl.1 rfl (lv_room (Nat.le_of_ble_eq_true rfl)) d_Qry_readPath_114 ⟨hRc, hRs⟩) hS (fun q _ h => hF q h) hF (fun  x4252 t H locs ht hvm hw hB hz1 hk1 hS => ?_)
          have hW := Wd.back hB ht hF
          clear hB ht hF hz1 hk1 hvm
          refine lv_iconst (v := (-1)) hx hb d_Qry_readPath_117 (by decide) ?_
          exact hret (-1) x4252 H locs 118 ls d_Qry_readPath_118 hw hW hS
      · have hw := hw.2 c4241
        refine lv_aload_n hx hb d_Qry_readPath_72 rfl (lv_at hl 0 rfl) ?_
        obtain ⟨q4253, hq4253, hw⟩ := hw
        refine w_getr (q := q4253) (k := 17) (t := 9) (C := R_Qry) (T := F_Qry) (N := 20) hx hb hT hown hK hW fo.1 fo.2 (by decide) in_Qry rfl rfl (by decide) rfl fr_Qry_17 w_3_105 d_Qry_readPath_73 hq4253 (fun aq4253 bq4253 => ?_)
        have fq4253 : q4253 < NN ∧ kcC q4253 = 2 := ⟨aq4253, bq4253⟩
        refine lv_aload_n hx hb d_Qry_readPath_76 rfl (lv_at hl 0 rfl) ?_
        obtain ⟨q4254, hq4254, hw⟩ := hw
        refine w_getr (q := q4254) (k := 17) (t := 9) (C := R_Qry) (T := F_Qry) (N := 20) hx hb hT hown hK hW fo.1 fo.2 (by decide) in_Qry rfl rfl (by decide) rfl fr_Qry_17 w_3_105 d_Qry_readPath_77 hq4254 (fun aq4254 bq4254 => ?_)
        have fq4254 : q4254 < NN ∧ kcC q4254 = 2 := ⟨aq4254, bq4254⟩
        refine w_geti (k := 2) (t := 2) (C := R_Scn) (T := F_Scn) (N := 8) hx hb hT hown hK hW fq4254.1 fq4254.2 (by decide) in_Scn rfl rfl (by decide) rfl fr_Scn_2 w_1_86 d_Qry_readPath_80 ?_
        have hF := hW.free hS hA
        refine va_callv (va_runV (C := R_Scn) (As := [.int (fI x4239 q4254 2)]) (rest := []) ⟨hx, hb, hml, hown, hT⟩ (k_Scn_refuse l dC dI cI cB cJ cZ ad NN E tM tC kK kV hNN H.size q4253 (fI x4239 q4254 2) x4239 fq4253 hw) ⟨callB_of 1 hT (gw_in w_4_128) rfl rfl rfl (hT _ w_1_4) (hT _ w_7_149) (by decide +kernel) ⟨Nat.le_trans (by decide) hRf, Nat.le_trans (by decide) hRl⟩, hT _ w_4_126, hT _ w_4_127⟩ ⟨PV.blind, va_recv hK hW.1 (ci := 2) (q0 := q4253) rfl (pic_obj fq4253.1 fq4253.2 (by decide)), PV.at _ hW hK hN hE hS hF⟩ rfl rfl hl.1 rfl (lv_room (Nat.le_of_ble_eq_true rfl)) d_Qry_readPath_83 ⟨hRc, hRs⟩) hS (fun q _ h => hF q h) hF (fun  x4255 t H locs ht hvm hw hB hz1 hk1 hS => ?_)
        have hW := Wd.back hB ht hF
        clear hB ht hF hz1 hk1 hvm
        refine lv_iconst (v := (-1)) hx hb d_Qry_readPath_86 (by decide) ?_
        exact hret (-1) x4255 H locs 87 ls d_Qry_readPath_87 hw hW hS
def wl_Qry_readPath_37 (post : Int32 → St → Prop) : Nat → Nat → Int32 → Int32 → Int32 → St → Prop
  | 0 => fun _ _ _ _ _ => False
  | n + 1 => j_Qry_readPath_37 post (wl_Qry_readPath_37 post n)
set_option maxHeartbeats 4000000 in
set_option maxRecDepth 100000 in
theorem tl_Qry_readPath_37 {p : Program} {l : Launch} {e : Env} {R : Room} {s : State} {m : MethodId} {args : Array Value} {below : List Frame} {meth : Method} {c : Code} {cells slots : Nat} {Q : State → Prop} {dC : Nat → ClassId} {dI : Nat → Nat → Nat} {cI cB cJ cZ : ClassId} {A : Nat → Prop} {ad : Nat → Nat} {NN : Nat} {E : Heap} {tM tC : Nat} {kK kV : Nat → Nat} {post : Int32 → St → Prop} (hx : p.tables.exec = Jvm.exec) (hb : c.code = b_Qry_readPath) (hml : c.maxLocals = 5) (hown : s.vm.findClass R_Qry = some m.cls) (hT : ∀ w ∈ TG, w.before args s = true) (hK : va_K (dC, dI) CL (TY cI cB cJ cZ) s) (hN : NW s) (hA : ∀ q : Nat, s.heap.size ≤ q → A q) (hRc : cells ≤ R.cells) (hRs : slots ≤ R.slots) (hRf : 6 ≤ R.frames) (hRl : 242 ≤ R.locals) (hNN : 152 ≤ NN) (hE : CE E tM tC kK kV A s) (hret : ∀ (r : Int32) (x : St) (H : Heap) (locs : List Loc) (pc : Nat) (ls : Array Slot), decode b_Qry_readPath pc = .ok (.ireturn, 1) → post r x → Wd dC dI cI cB cJ cZ ad stC kcC NN A x H → va_S A s.heap H locs → W p l e R s m args below meth c H locs cells slots Q (F0 m pc ls [.int r]))  : ∀ n : Nat, ∀ (o : Nat) (l1 : Int32) (l2 : Int32) (l3 : Int32) (x : St) (H : Heap) (locs : List Loc) (ls : Array Slot), (o < NN ∧ kcC o = 9) → wl_Qry_readPath_37 post n o l1 l2 l3 x → Wd dC dI cI cB cJ cZ ad stC kcC NN A x H → va_S A s.heap H locs → lv_has ls 5 [(0, .ref (ad o)), (1, .int l1), (2, .int l2), (3, .int l3)] → W p l e R s m args below meth c H locs cells slots Q (F0 m 37 ls []) := by
  intro n
  induction n with
  | zero => intro o l1 l2 l3 x H locs ls fo hw; exact hw.elim
  | succ n ih => intro o l1 l2 l3 x H locs ls fo hw hW hS hl; exact t_Qry_readPath_37 hx hb hml hown hT hK hN hA hRc hRs hRf hRl hNN hE hret  ih o l1 l2 l3 x H locs ls fo hw hW hS hl
set_option maxRecDepth 100000 in
def wp_Qry_readPath (post : Int32 → St → Prop) (o : Nat) (x : St) : Prop := (∃ q4256 : Nat, fR x o 17 = some q4256 ∧ wp_Scn_good (fun (r4258 : Int32) (x4257 : St) => ((¬ r4258 = 0 → (∃ q4260 : Nat, fR x4257 o 17 = some q4260 ∧ wp_Scn_next (fun (r4262 : Int32) (x4261 : St) => (∃ q4263 : Nat, fR x4261 o 17 = some q4263 ∧ (∀ x4264 : St, x4264 = setI x4261 o 19 (fI x4261 q4263 2) → ∃ n : Nat, wl_Qry_readPath_37 post n o (-1) 1 0 x4264))) q4260 x4257)) ∧ (r4258 = 0 → post (-1) x4257))) q4256 x)
set_option maxHeartbeats 4000000 in
set_option maxRecDepth 100000 in
theorem t_Qry_readPath_e {p : Program} {l : Launch} {e : Env} {R : Room} {s : State} {m : MethodId} {args : Array Value} {below : List Frame} {meth : Method} {c : Code} {cells slots : Nat} {Q : State → Prop} {dC : Nat → ClassId} {dI : Nat → Nat → Nat} {cI cB cJ cZ : ClassId} {A : Nat → Prop} {ad : Nat → Nat} {NN : Nat} {E : Heap} {tM tC : Nat} {kK kV : Nat → Nat} {post : Int32 → St → Prop} (hx : p.tables.exec = Jvm.exec) (hb : c.code = b_Qry_readPath) (hml : c.maxLocals = 5) (hown : s.vm.findClass R_Qry = some m.cls) (hT : ∀ w ∈ TG, w.before args s = true) (hK : va_K (dC, dI) CL (TY cI cB cJ cZ) s) (hN : NW s) (hA : ∀ q : Nat, s.heap.size ≤ q → A q) (hRc : cells ≤ R.cells) (hRs : slots ≤ R.slots) (hRf : 6 ≤ R.frames) (hRl : 242 ≤ R.locals) (hNN : 152 ≤ NN) (hE : CE E tM tC kK kV A s) (hret : ∀ (r : Int32) (x : St) (H : Heap) (locs : List Loc) (pc : Nat) (ls : Array Slot), decode b_Qry_readPath pc = .ok (.ireturn, 1) → post r x → Wd dC dI cI cB cJ cZ ad stC kcC NN A x H → va_S A s.heap H locs → W p l e R s m args below meth c H locs cells slots Q (F0 m pc ls [.int r])) : ∀ (o : Nat) (x : St) (H : Heap) (locs : List Loc) (ls : Array Slot), (o < NN ∧ kcC o = 9) → wp_Qry_readPath post o x → Wd dC dI cI cB cJ cZ ad stC kcC NN A x H → va_S A s.heap H locs → lv_has ls 5 [(0, .ref (ad o))] → W p l e R s m args below meth c H locs cells slots Q (F0 m 0 ls []) := by
  intro o x H locs ls fo hw hW hS hl
  unfold wp_Qry_readPath at hw
  refine lv_aload_n hx hb d_Qry_readPath_0 rfl (lv_at hl 0 rfl) ?_
  obtain ⟨q4256, hq4256, hw⟩ := hw
  refine w_getr (q := q4256) (k := 17) (t := 9) (C := R_Qry) (T := F_Qry) (N := 20) hx hb hT hown hK hW fo.1 fo.2 (by decide) in_Qry rfl rfl (by decide) rfl fr_Qry_17 w_3_105 d_Qry_readPath_1 hq4256 (fun aq4256 bq4256 => ?_)
  have fq4256 : q4256 < NN ∧ kcC q4256 = 2 := ⟨aq4256, bq4256⟩
  have hF := hW.free hS hA
  refine va_calli (va_runV (C := R_Scn) (As := []) (rest := []) ⟨hx, hb, hml, hown, hT⟩ (k_Scn_good l dC dI cI cB cJ cZ ad NN E tM tC kK kV hNN H.size q4256 x fq4256 hw) ⟨callB_of 0 hT (gw_in w_4_106) rfl rfl rfl (hT _ w_1_4) (hT _ w_7_147) (by decide +kernel) ⟨Nat.le_trans (by decide) hRf, Nat.le_trans (by decide) hRl⟩, hT _ w_4_104, hT _ w_4_105⟩ ⟨PV.blind, va_recv hK hW.1 (ci := 2) (q0 := q4256) rfl (pic_obj fq4256.1 fq4256.2 (by decide)), PV.at _ hW hK hN hE hS hF⟩ rfl rfl hl.1 rfl (lv_room (Nat.le_of_ble_eq_true rfl)) d_Qry_readPath_4 ⟨hRc, hRs⟩) hS (fun q _ h => hF q h) hF (fun r4258 x4257 t H locs ht hvm hw hB hz1 hk1 hS => ?_)
  have hW := Wd.back hB ht hF
  clear hB ht hF hz1 hk1 hvm
  refine lv_if_ne (tgt := 12) hx hb d_Qry_readPath_7 (by decide) (fun c4259 => ?_) (fun c4259 => ?_)
  · have hw := hw.1 c4259
    refine lv_aload_n hx hb d_Qry_readPath_12 rfl (lv_at hl 0 rfl) ?_
    obtain ⟨q4260, hq4260, hw⟩ := hw
    refine w_getr (q := q4260) (k := 17) (t := 9) (C := R_Qry) (T := F_Qry) (N := 20) hx hb hT hown hK hW fo.1 fo.2 (by decide) in_Qry rfl rfl (by decide) rfl fr_Qry_17 w_3_105 d_Qry_readPath_13 hq4260 (fun aq4260 bq4260 => ?_)
    have fq4260 : q4260 < NN ∧ kcC q4260 = 2 := ⟨aq4260, bq4260⟩
    have hF := hW.free hS hA
    refine va_calli (va_runV (C := R_Scn) (As := []) (rest := []) ⟨hx, hb, hml, hown, hT⟩ (k_Scn_next l dC dI cI cB cJ cZ ad NN E tM tC kK kV hNN H.size q4260 x4257 fq4260 hw) ⟨callB_of 0 hT (gw_in w_4_110) rfl rfl rfl (hT _ w_1_4) (hT _ w_7_148) (by decide +kernel) ⟨Nat.le_trans (by decide) hRf, Nat.le_trans (by decide) hRl⟩, hT _ w_4_108, hT _ w_4_109⟩ ⟨PV.blind, va_recv hK hW.1 (ci := 2) (q0 := q4260) rfl (pic_obj fq4260.1 fq4260.2 (by decide)), PV.at _ hW hK hN hE hS hF⟩ rfl rfl hl.1 rfl (lv_room (Nat.le_of_ble_eq_true rfl)) d_Qry_readPath_16 ⟨hRc, hRs⟩) hS (fun q _ h => hF q h) hF (fun r4262 x4261 t H locs ht hvm hw hB hz1 hk1 hS => ?_)
    have hW := Wd.back hB ht hF
    clear hB ht hF hz1 hk1 hvm
    refine lv_pop hx hb d_Qry_readPath_19 rfl ?_
    refine lv_aload_n hx hb d_Qry_readPath_20 rfl (lv_at hl 0 rfl) ?_
    refine lv_aload_n hx hb d_Qry_readPath_21 rfl (lv_at hl 0 rfl) ?_
    obtain ⟨q4263, hq4263, hw⟩ := hw
    refine w_getr (q := q4263) (k := 17) (t := 9) (C := R_Qry) (T := F_Qry) (N := 20) hx hb hT hown hK hW fo.1 fo.2 (by decide) in_Qry rfl rfl (by decide) rfl fr_Qry_17 w_3_105 d_Qry_readPath_22 hq4263 (fun aq4263 bq4263 => ?_)
    have fq4263 : q4263 < NN ∧ kcC q4263 = 2 := ⟨aq4263, bq4263⟩
    refine w_geti (k := 2) (t := 2) (C := R_Scn) (T := F_Scn) (N := 8) hx hb hT hown hK hW fq4263.1 fq4263.2 (by decide) in_Scn rfl rfl (by decide) rfl fr_Scn_2 w_1_86 d_Qry_readPath_25 ?_
    refine w_puti (ty := .int) (k := 19) (t := 9) (C := R_Qry) (T := F_Qry) (N := 20) hx hb hT hown hK hW hS fo.1 fo.2 (by decide) in_Qry t_Qry t_Qry_ok n_Qry rfl rfl (by decide) rfl fr_Qry_19 w_3_107 (by decide +kernel) rfl rfl d_Qry_readPath_28 (fun H locs hW hS => ?_)
    obtain ⟨x4264, ex4264⟩ : ∃ y : St, y = setI x4261 o 19 (fI x4261 q4263 2) := ⟨_, rfl⟩
    rw [← ex4264] at hW
    have hw := hw x4264 ex4264
    refine lv_iconst (v := (-1)) hx hb d_Qry_readPath_31 (by decide) ?_
    refine lv_istore_n (lv' := [(1, .int (-1)), (0, .ref (ad o))]) hx hb d_Qry_readPath_32 rfl hl (by decide) rfl (fun ls hl => ?_)
    refine lv_iconst (v := 1) hx hb d_Qry_readPath_33 (by decide) ?_
    refine lv_istore_n (lv' := [(2, .int 1), (1, .int (-1)), (0, .ref (ad o))]) hx hb d_Qry_readPath_34 rfl hl (by decide) rfl (fun ls hl => ?_)
    refine lv_iconst (v := 0) hx hb d_Qry_readPath_35 (by decide) ?_
    refine lv_istore_n (lv' := [(3, .int 0), (2, .int 1), (1, .int (-1)), (0, .ref (ad o))]) hx hb d_Qry_readPath_36 rfl hl (by decide) rfl (fun ls hl => ?_)
    obtain ⟨n, hw⟩ := hw
    exact tl_Qry_readPath_37 hx hb hml hown hT hK hN hA hRc hRs hRf hRl hNN hE hret  n o (-1) 1 0 x4264 H locs ls fo hw hW hS (lv_sub hl [3, 2, 1, 0] rfl)
  · have hw := hw.2 c4259
    refine lv_iconst (v := (-1)) hx hb d_Qry_readPath_10 (by decide) ?_
    exact hret (-1) x4257 H locs 11 ls d_Qry_readPath_11 hw hW hS
set_option maxHeartbeats 4000000 in
set_option maxRecDepth 100000 in
theorem k_Qry_readPath (l : Launch) (dC : Nat → ClassId) (dI : Nat → Nat → Nat) (cI cB cJ cZ : ClassId) (ad : Nat → Nat) (NN : Nat) (E : Heap) (tM tC : Nat) (kK kV : Nat → Nat) (hNN : 152 ≤ NN) (sz : Nat) (o : Nat) (x : St) (fo : o < NN ∧ kcC o = 9) {post : Int32 → St → Prop} (hw : wp_Qry_readPath post o x) : Met l y_Qry_readPath (wsOf y_Qry_readPath b_Qry_readPath 5 (some (.int))) ({ frames := 6, cells := 0, slots := 0, locals := 242 }) (va_Pc [.ref (ad o)] (PV dC dI cI cB cJ cZ ad stC kcC NN E tM tC kK kV sz x)) (va_Qi (fun (r : Int32) (y : St) => post r y) (fun y t => Wd dC dI cI cB cJ cZ ad stC kcC NN (va_A (pic ad stC kcC NN cI cB cJ cZ x) sz) y t.heap) (va_A (pic ad stC kcC NN cI cB cJ cZ x) sz)) 0 0 (va_A (pic ad stC kcC NN cI cB cJ cZ x) sz) := by
  refine Met.ofW (cc := b_Qry_readPath) (maxL := 5) (ret := some (.int)) (by decide) rfl ?_
  intro p e s m args below meth c s₁ B hml hv
  obtain ⟨rfl, ⟨hsz, hW0, hK, hN⟩, hE⟩ := hv
  have hx := B.exec
  have hb := B.bytes
  have hr := B.returns
  have hts := atoms_spec B.pre
  have hT : ∀ w ∈ TG, w.before _ s = true := fun w h => hts w (List.mem_cons_of_mem _ h)
  have hown : s.vm.findClass R_Qry = some m.cls := findClass_of_methodNamed B.named
  have hlocks := B.notSynchronized
  subst hsz
  have hW : Wd dC dI cI cB cJ cZ ad stC kcC NN (va_A (pic ad stC kcC NN cI cB cJ cZ x) s.heap.size) x s.heap := ⟨hW0.1, hW0.2.1.self (sz := s.heap.size), hW0.2.2⟩
  generalize hAe : va_A (pic ad stC kcC NN cI cB cJ cZ x) s.heap.size = A at hW hE ⊢
  have hA : ∀ q : Nat, s.heap.size ≤ q → A q := fun q h => by rw [← hAe]; exact Or.inr h
  have hS : va_S A s.heap s.heap [] := va_S.rf
  have hl := lv_entry ([.ref (ad o)]) (n := 5) (Nat.le_of_ble_eq_true rfl)
  rw [lg_entry_eq]
  generalize (lg_sl ([.ref (ad o)]) ++ List.replicate (5 - (lg_sl ([.ref (ad o)])).length) Slot.unset).toArray = ls at hl ⊢
  have hl : lv_has ls 5 [(0, .ref (ad o))] := hl
  exact t_Qry_readPath_e hx hb hml hown hT hK hN hA (Nat.le_refl 0) (Nat.le_refl 0) (Nat.le_refl 6) (Nat.le_refl 242) hNN hE (fun r x H locs pc ls hd hp hW hS => W.iret (v := r) hx hb hr (fun t ht hM => ⟨⟨r, x, rfl, hp, Wd.back hW ht.symm (fun _ z => z)⟩, hS.F ht⟩) hS.2.2 hd hlocks)  o x _ _ ls fo hw hW hS hl
set_option maxRecDepth 100000 in
def j_Sch_isFlatColumn_23 (post : Int32 → St → Prop) (o : Nat) (l1 : Int32) (x : St) : Prop := post 0 x
set_option maxHeartbeats 4000000 in
set_option maxRecDepth 100000 in
theorem t_Sch_isFlatColumn_23 {p : Program} {l : Launch} {e : Env} {R : Room} {s : State} {m : MethodId} {args : Array Value} {below : List Frame} {meth : Method} {c : Code} {cells slots : Nat} {Q : State → Prop} {dC : Nat → ClassId} {dI : Nat → Nat → Nat} {cI cB cJ cZ : ClassId} {A : Nat → Prop} {ad : Nat → Nat} {NN : Nat} {E : Heap} {tM tC : Nat} {kK kV : Nat → Nat} {post : Int32 → St → Prop} (hx : p.tables.exec = Jvm.exec) (hb : c.code = b_Sch_isFlatColumn) (hml : c.maxLocals = 2) (hown : s.vm.findClass R_Sch = some m.cls) (hT : ∀ w ∈ TG, w.before args s = true) (hK : va_K (dC, dI) CL (TY cI cB cJ cZ) s) (hN : NW s) (hA : ∀ q : Nat, s.heap.size ≤ q → A q) (hRc : cells ≤ R.cells) (hRs : slots ≤ R.slots) (hRf : 0 ≤ R.frames) (hRl : 0 ≤ R.locals) (hNN : 152 ≤ NN) (hE : CE E tM tC kK kV A s) (hret : ∀ (r : Int32) (x : St) (H : Heap) (locs : List Loc) (pc : Nat) (ls : Array Slot), decode b_Sch_isFlatColumn pc = .ok (.ireturn, 1) → narrow .boolean (.int r) = .int r → post r x → Wd dC dI cI cB cJ cZ ad stC kcC NN A x H → va_S A s.heap H locs → W p l e R s m args below meth c H locs cells slots Q (F0 m pc ls [.int r]))  : ∀ (o : Nat) (l1 : Int32) (x : St) (H : Heap) (locs : List Loc) (ls : Array Slot), (o < NN ∧ kcC o = 3) → j_Sch_isFlatColumn_23 post o l1 x → Wd dC dI cI cB cJ cZ ad stC kcC NN A x H → va_S A s.heap H locs → lv_has ls 2 [(0, .ref (ad o)), (1, .int l1)] → W p l e R s m args below meth c H locs cells slots Q (F0 m 23 ls []) := by
  intro o l1 x H locs ls fo hw hW hS hl
  unfold j_Sch_isFlatColumn_23 at hw
  refine lv_iconst (v := 0) hx hb d_Sch_isFlatColumn_23 (by decide) ?_
  exact hret 0 x H locs 24 ls d_Sch_isFlatColumn_24 rfl hw hW hS
set_option maxRecDepth 100000 in
def wp_Sch_isFlatColumn (post : Int32 → St → Prop) (o : Nat) (l1 : Int32) (x : St) : Prop := (vp_in l1 (fN x (stC o 5)) ∧ ((¬ (rA x (stC o 5) l1) = 0 → j_Sch_isFlatColumn_23 post o l1 x) ∧ ((rA x (stC o 5) l1) = 0 → (vp_in l1 (fN x (stC o 3)) ∧ (((rA x (stC o 3) l1) = 4 → j_Sch_isFlatColumn_23 post o l1 x) ∧ (¬ (rA x (stC o 3) l1) = 4 → post 1 x))))))
set_option maxHeartbeats 4000000 in
set_option maxRecDepth 100000 in
theorem t_Sch_isFlatColumn_e {p : Program} {l : Launch} {e : Env} {R : Room} {s : State} {m : MethodId} {args : Array Value} {below : List Frame} {meth : Method} {c : Code} {cells slots : Nat} {Q : State → Prop} {dC : Nat → ClassId} {dI : Nat → Nat → Nat} {cI cB cJ cZ : ClassId} {A : Nat → Prop} {ad : Nat → Nat} {NN : Nat} {E : Heap} {tM tC : Nat} {kK kV : Nat → Nat} {post : Int32 → St → Prop} (hx : p.tables.exec = Jvm.exec) (hb : c.code = b_Sch_isFlatColumn) (hml : c.maxLocals = 2) (hown : s.vm.findClass R_Sch = some m.cls) (hT : ∀ w ∈ TG, w.before args s = true) (hK : va_K (dC, dI) CL (TY cI cB cJ cZ) s) (hN : NW s) (hA : ∀ q : Nat, s.heap.size ≤ q → A q) (hRc : cells ≤ R.cells) (hRs : slots ≤ R.slots) (hRf : 0 ≤ R.frames) (hRl : 0 ≤ R.locals) (hNN : 152 ≤ NN) (hE : CE E tM tC kK kV A s) (hret : ∀ (r : Int32) (x : St) (H : Heap) (locs : List Loc) (pc : Nat) (ls : Array Slot), decode b_Sch_isFlatColumn pc = .ok (.ireturn, 1) → narrow .boolean (.int r) = .int r → post r x → Wd dC dI cI cB cJ cZ ad stC kcC NN A x H → va_S A s.heap H locs → W p l e R s m args below meth c H locs cells slots Q (F0 m pc ls [.int r])) : ∀ (o : Nat) (l1 : Int32) (x : St) (H : Heap) (locs : List Loc) (ls : Array Slot), (o < NN ∧ kcC o = 3) → wp_Sch_isFlatColumn post o l1 x → Wd dC dI cI cB cJ cZ ad stC kcC NN A x H → va_S A s.heap H locs → lv_has ls 2 [(0, .ref (ad o)), (1, .int l1)] → W p l e R s m args below meth c H locs cells slots Q (F0 m 0 ls []) := by
  intro o l1 x H locs ls fo hw hW hS hl
  unfold wp_Sch_isFlatColumn at hw
  refine lv_aload_n hx hb d_Sch_isFlatColumn_0 rfl (lv_at hl 0 rfl) ?_
  refine w_getf (q := (stC o 5)) (k := 5) (t := 3) (C := R_Sch) (T := F_Sch) (N := 13) hx hb hT hown hK hW fo.1 fo.2 (by decide) in_Sch rfl rfl (by decide) rfl fr_Sch_5 w_1_157 d_Sch_isFlatColumn_1 rfl ?_
  refine lv_iload_n hx hb d_Sch_isFlatColumn_4 rfl (lv_at hl 1 rfl) ?_
  obtain ⟨hi, hw⟩ := hw
  refine w_iald (o := (stC o 5)) hx hb hK hW (st_ty hNN fo.1 fo.2 rfl).1 (st_ty hNN fo.1 fo.2 rfl).2 hi d_Sch_isFlatColumn_5 ?_
  refine lv_if_ne (tgt := 23) hx hb d_Sch_isFlatColumn_6 (by decide) (fun c4265 => ?_) (fun c4265 => ?_)
  · have hw := hw.1 c4265
    exact t_Sch_isFlatColumn_23 hx hb hml hown hT hK hN hA hRc hRs hRf hRl hNN hE hret  o l1 x H locs ls fo hw hW hS (lv_sub hl [0, 1] rfl)
  · have hw := hw.2 c4265
    refine lv_aload_n hx hb d_Sch_isFlatColumn_9 rfl (lv_at hl 0 rfl) ?_
    refine w_getf (q := (stC o 3)) (k := 3) (t := 3) (C := R_Sch) (T := F_Sch) (N := 13) hx hb hT hown hK hW fo.1 fo.2 (by decide) in_Sch rfl rfl (by decide) rfl fr_Sch_3 w_1_145 d_Sch_isFlatColumn_10 rfl ?_
    refine lv_iload_n hx hb d_Sch_isFlatColumn_13 rfl (lv_at hl 1 rfl) ?_
    obtain ⟨hi, hw⟩ := hw
    refine w_iald (o := (stC o 3)) hx hb hK hW (st_ty hNN fo.1 fo.2 rfl).1 (st_ty hNN fo.1 fo.2 rfl).2 hi d_Sch_isFlatColumn_14 ?_
    refine lv_iconst (v := 4) hx hb d_Sch_isFlatColumn_15 (by decide) ?_
    refine lv_icmp_eq (tgt := 23) hx hb d_Sch_isFlatColumn_16 (by decide) (fun c4266 => ?_) (fun c4266 => ?_)
    · have hw := hw.1 c4266
      exact t_Sch_isFlatColumn_23 hx hb hml hown hT hK hN hA hRc hRs hRf hRl hNN hE hret  o l1 x H locs ls fo hw hW hS (lv_sub hl [0, 1] rfl)
    · have hw := hw.2 c4266
      refine lv_iconst (v := 1) hx hb d_Sch_isFlatColumn_19 (by decide) ?_
      refine lv_goto (tgt := 24) hx hb d_Sch_isFlatColumn_20 (by decide) ?_
      exact hret 1 x H locs 24 ls d_Sch_isFlatColumn_24 rfl hw hW hS
set_option maxHeartbeats 4000000 in
set_option maxRecDepth 100000 in
theorem k_Sch_isFlatColumn (l : Launch) (dC : Nat → ClassId) (dI : Nat → Nat → Nat) (cI cB cJ cZ : ClassId) (ad : Nat → Nat) (NN : Nat) (E : Heap) (tM tC : Nat) (kK kV : Nat → Nat) (hNN : 152 ≤ NN) (sz : Nat) (o : Nat) (l1 : Int32) (x : St) (fo : o < NN ∧ kcC o = 3) {post : Int32 → St → Prop} (hw : wp_Sch_isFlatColumn post o l1 x) : Met l y_Sch_isFlatColumn (wsOf y_Sch_isFlatColumn b_Sch_isFlatColumn 2 (some (.boolean))) ({ frames := 0, cells := 0, slots := 0, locals := 0 }) (va_Pc [.ref (ad o), .int l1] (PV dC dI cI cB cJ cZ ad stC kcC NN E tM tC kK kV sz x)) (va_Qi (fun (r : Int32) (y : St) => post r y) (fun y t => Wd dC dI cI cB cJ cZ ad stC kcC NN (va_A (pic ad stC kcC NN cI cB cJ cZ x) sz) y t.heap) (va_A (pic ad stC kcC NN cI cB cJ cZ x) sz)) 0 0 (va_A (pic ad stC kcC NN cI cB cJ cZ x) sz) := by
  refine Met.ofW (cc := b_Sch_isFlatColumn) (maxL := 2) (ret := some (.boolean)) (by decide) rfl ?_
  intro p e s m args below meth c s₁ B hml hv
  obtain ⟨rfl, ⟨hsz, hW0, hK, hN⟩, hE⟩ := hv
  have hx := B.exec
  have hb := B.bytes
  have hr := B.returns
  have hts := atoms_spec B.pre
  have hT : ∀ w ∈ TG, w.before _ s = true := fun w h => hts w (List.mem_cons_of_mem _ h)
  have hown : s.vm.findClass R_Sch = some m.cls := findClass_of_methodNamed B.named
  have hlocks := B.notSynchronized
  subst hsz
  have hW : Wd dC dI cI cB cJ cZ ad stC kcC NN (va_A (pic ad stC kcC NN cI cB cJ cZ x) s.heap.size) x s.heap := ⟨hW0.1, hW0.2.1.self (sz := s.heap.size), hW0.2.2⟩
  generalize hAe : va_A (pic ad stC kcC NN cI cB cJ cZ x) s.heap.size = A at hW hE ⊢
  have hA : ∀ q : Nat, s.heap.size ≤ q → A q := fun q h => by rw [← hAe]; exact Or.inr h
  have hS : va_S A s.heap s.heap [] := va_S.rf
  have hl := lv_entry ([.ref (ad o), .int l1]) (n := 2) (Nat.le_of_ble_eq_true rfl)
  rw [lg_entry_eq]
  generalize (lg_sl ([.ref (ad o), .int l1]) ++ List.replicate (2 - (lg_sl ([.ref (ad o), .int l1])).length) Slot.unset).toArray = ls at hl ⊢
  have hl : lv_has ls 2 [(0, .ref (ad o)), (1, .int l1)] := hl
  exact t_Sch_isFlatColumn_e hx hb hml hown hT hK hN hA (Nat.le_refl 0) (Nat.le_refl 0) (Nat.le_refl 0) (Nat.le_refl 0) hNN hE (fun r x H locs pc ls hd hz hp hW hS => W.zret (v := r) (ty := .boolean) hx hb hr hz (fun t ht hM => ⟨⟨r, x, rfl, hp, Wd.back hW ht.symm (fun _ z => z)⟩, hS.F ht⟩) hS.2.2 hd hlocks)  o l1 x _ _ ls fo hw hW hS hl
set_option maxRecDepth 100000 in
def j_Qry_readColumn_37 (post : Int32 → St → Prop) (o : Nat) (l1 : Int32) (x : St) : Prop := post l1 x
set_option maxHeartbeats 4000000 in
set_option maxRecDepth 100000 in
theorem t_Qry_readColumn_37 {p : Program} {l : Launch} {e : Env} {R : Room} {s : State} {m : MethodId} {args : Array Value} {below : List Frame} {meth : Method} {c : Code} {cells slots : Nat} {Q : State → Prop} {dC : Nat → ClassId} {dI : Nat → Nat → Nat} {cI cB cJ cZ : ClassId} {A : Nat → Prop} {ad : Nat → Nat} {NN : Nat} {E : Heap} {tM tC : Nat} {kK kV : Nat → Nat} {post : Int32 → St → Prop} (hx : p.tables.exec = Jvm.exec) (hb : c.code = b_Qry_readColumn) (hml : c.maxLocals = 2) (hown : s.vm.findClass R_Qry = some m.cls) (hT : ∀ w ∈ TG, w.before args s = true) (hK : va_K (dC, dI) CL (TY cI cB cJ cZ) s) (hN : NW s) (hA : ∀ q : Nat, s.heap.size ≤ q → A q) (hRc : cells ≤ R.cells) (hRs : slots ≤ R.slots) (hRf : 7 ≤ R.frames) (hRl : 266 ≤ R.locals) (hNN : 152 ≤ NN) (hE : CE E tM tC kK kV A s) (hret : ∀ (r : Int32) (x : St) (H : Heap) (locs : List Loc) (pc : Nat) (ls : Array Slot), decode b_Qry_readColumn pc = .ok (.ireturn, 1) → post r x → Wd dC dI cI cB cJ cZ ad stC kcC NN A x H → va_S A s.heap H locs → W p l e R s m args below meth c H locs cells slots Q (F0 m pc ls [.int r]))  : ∀ (o : Nat) (l1 : Int32) (x : St) (H : Heap) (locs : List Loc) (ls : Array Slot), (o < NN ∧ kcC o = 9) → j_Qry_readColumn_37 post o l1 x → Wd dC dI cI cB cJ cZ ad stC kcC NN A x H → va_S A s.heap H locs → lv_has ls 2 [(0, .ref (ad o)), (1, .int l1)] → W p l e R s m args below meth c H locs cells slots Q (F0 m 37 ls []) := by
  intro o l1 x H locs ls fo hw hW hS hl
  unfold j_Qry_readColumn_37 at hw
  refine lv_iload_n hx hb d_Qry_readColumn_37 rfl (lv_at hl 1 rfl) ?_
  exact hret l1 x H locs 38 ls d_Qry_readColumn_38 hw hW hS
set_option maxRecDepth 100000 in
def wp_Qry_readColumn (post : Int32 → St → Prop) (o : Nat) (x : St) : Prop := wp_Qry_readPath (fun (r4268 : Int32) (x4267 : St) => (∃ q4269 : Nat, fR x4267 o 17 = some q4269 ∧ wp_Scn_good (fun (r4271 : Int32) (x4270 : St) => ((r4271 = 0 → j_Qry_readColumn_37 post o r4268 x4270) ∧ (¬ r4271 = 0 → (∃ q4273 : Nat, fR x4270 o 18 = some q4273 ∧ wp_Sch_isFlatColumn (fun (r4275 : Int32) (x4274 : St) => ((¬ r4275 = 0 → j_Qry_readColumn_37 post o r4268 x4274) ∧ (r4275 = 0 → (∃ q4277 : Nat, fR x4274 o 17 = some q4277 ∧ wp_Scn_refuse (fun (x4278 : St) => j_Qry_readColumn_37 post o r4268 x4278) q4277 (fI x4274 o 19) x4274)))) q4273 r4268 x4270)))) q4269 x4267)) o x
set_option maxHeartbeats 4000000 in
set_option maxRecDepth 100000 in
theorem t_Qry_readColumn_e {p : Program} {l : Launch} {e : Env} {R : Room} {s : State} {m : MethodId} {args : Array Value} {below : List Frame} {meth : Method} {c : Code} {cells slots : Nat} {Q : State → Prop} {dC : Nat → ClassId} {dI : Nat → Nat → Nat} {cI cB cJ cZ : ClassId} {A : Nat → Prop} {ad : Nat → Nat} {NN : Nat} {E : Heap} {tM tC : Nat} {kK kV : Nat → Nat} {post : Int32 → St → Prop} (hx : p.tables.exec = Jvm.exec) (hb : c.code = b_Qry_readColumn) (hml : c.maxLocals = 2) (hown : s.vm.findClass R_Qry = some m.cls) (hT : ∀ w ∈ TG, w.before args s = true) (hK : va_K (dC, dI) CL (TY cI cB cJ cZ) s) (hN : NW s) (hA : ∀ q : Nat, s.heap.size ≤ q → A q) (hRc : cells ≤ R.cells) (hRs : slots ≤ R.slots) (hRf : 7 ≤ R.frames) (hRl : 266 ≤ R.locals) (hNN : 152 ≤ NN) (hE : CE E tM tC kK kV A s) (hret : ∀ (r : Int32) (x : St) (H : Heap) (locs : List Loc) (pc : Nat) (ls : Array Slot), decode b_Qry_readColumn pc = .ok (.ireturn, 1) → post r x → Wd dC dI cI cB cJ cZ ad stC kcC NN A x H → va_S A s.heap H locs → W p l e R s m args below meth c H locs cells slots Q (F0 m pc ls [.int r])) : ∀ (o : Nat) (x : St) (H : Heap) (locs : List Loc) (ls : Array Slot), (o < NN ∧ kcC o = 9) → wp_Qry_readColumn post o x → Wd dC dI cI cB cJ cZ ad stC kcC NN A x H → va_S A s.heap H locs → lv_has ls 2 [(0, .ref (ad o))] → W p l e R s m args below meth c H locs cells slots Q (F0 m 0 ls []) := by
  intro o x H locs ls fo hw hW hS hl
  unfold wp_Qry_readColumn at hw
  refine lv_aload_n hx hb d_Qry_readColumn_0 rfl (lv_at hl 0 rfl) ?_
  have hF := hW.free hS hA
  refine va_calli (va_runV (C := R_Qry) (As := []) (rest := []) ⟨hx, hb, hml, hown, hT⟩ (k_Qry_readPath l dC dI cI cB cJ cZ ad NN E tM tC kK kV hNN H.size o x fo hw) ⟨callB_of 0 hT (gw_in w_7_166) rfl rfl rfl (hT _ w_1_12) (hT _ w_7_163) (by decide +kernel) ⟨Nat.le_trans (by decide) hRf, Nat.le_trans (by decide) hRl⟩, hT _ w_7_165, hT _ ws_71⟩ ⟨PV.blind, va_recv hK hW.1 (ci := 9) (q0 := o) rfl (pic_obj fo.1 fo.2 (by decide)), PV.at _ hW hK hN hE hS hF⟩ rfl rfl hl.1 rfl (lv_room (Nat.le_of_ble_eq_true rfl)) d_Qry_readColumn_1 ⟨hRc, hRs⟩) hS (fun q _ h => hF q h) hF (fun r4268 x4267 t H locs ht hvm hw hB hz1 hk1 hS => ?_)
  have hW := Wd.back hB ht hF
  clear hB ht hF hz1 hk1 hvm
  refine lv_istore_n (lv' := [(1, .int r4268), (0, .ref (ad o))]) hx hb d_Qry_readColumn_4 rfl hl (by decide) rfl (fun ls hl => ?_)
  refine lv_aload_n hx hb d_Qry_readColumn_5 rfl (lv_at hl 1 rfl) ?_
  obtain ⟨q4269, hq4269, hw⟩ := hw
  refine w_getr (q := q4269) (k := 17) (t := 9) (C := R_Qry) (T := F_Qry) (N := 20) hx hb hT hown hK hW fo.1 fo.2 (by decide) in_Qry rfl rfl (by decide) rfl fr_Qry_17 w_3_105 d_Qry_readColumn_6 hq4269 (fun aq4269 bq4269 => ?_)
  have fq4269 : q4269 < NN ∧ kcC q4269 = 2 := ⟨aq4269, bq4269⟩
  have hF := hW.free hS hA
  refine va_calli (va_runV (C := R_Scn) (As := []) (rest := []) ⟨hx, hb, hml, hown, hT⟩ (k_Scn_good l dC dI cI cB cJ cZ ad NN E tM tC kK kV hNN H.size q4269 x4267 fq4269 hw) ⟨callB_of 0 hT (gw_in w_4_106) rfl rfl rfl (hT _ w_1_4) (hT _ w_7_147) (by decide +kernel) ⟨Nat.le_trans (by decide) hRf, Nat.le_trans (by decide) hRl⟩, hT _ w_4_104, hT _ w_4_105⟩ ⟨PV.blind, va_recv hK hW.1 (ci := 2) (q0 := q4269) rfl (pic_obj fq4269.1 fq4269.2 (by decide)), PV.at _ hW hK hN hE hS hF⟩ rfl rfl hl.1 rfl (lv_room (Nat.le_of_ble_eq_true rfl)) d_Qry_readColumn_9 ⟨hRc, hRs⟩) hS (fun q _ h => hF q h) hF (fun r4271 x4270 t H locs ht hvm hw hB hz1 hk1 hS => ?_)
  have hW := Wd.back hB ht hF
  clear hB ht hF hz1 hk1 hvm
  refine lv_if_eq (tgt := 37) hx hb d_Qry_readColumn_12 (by decide) (fun c4272 => ?_) (fun c4272 => ?_)
  · have hw := hw.1 c4272
    exact t_Qry_readColumn_37 hx hb hml hown hT hK hN hA hRc hRs hRf hRl hNN hE hret  o r4268 x4270 H locs ls fo hw hW hS (lv_sub hl [1, 0] rfl)
  · have hw := hw.2 c4272
    refine lv_aload_n hx hb d_Qry_readColumn_15 rfl (lv_at hl 1 rfl) ?_
    obtain ⟨q4273, hq4273, hw⟩ := hw
    refine w_getr (q := q4273) (k := 18) (t := 9) (C := R_Qry) (T := F_Qry) (N := 20) hx hb hT hown hK hW fo.1 fo.2 (by decide) in_Qry rfl rfl (by decide) rfl fr_Qry_18 w_3_106 d_Qry_readColumn_16 hq4273 (fun aq4273 bq4273 => ?_)
    have fq4273 : q4273 < NN ∧ kcC q4273 = 3 := ⟨aq4273, bq4273⟩
    refine lv_iload_n hx hb d_Qry_readColumn_19 rfl (lv_at hl 0 rfl) ?_
    have hF := hW.free hS hA
    refine va_calli (va_runV (C := R_Sch) (As := [.int r4268]) (rest := []) ⟨hx, hb, hml, hown, hT⟩ (k_Sch_isFlatColumn l dC dI cI cB cJ cZ ad NN E tM tC kK kV hNN H.size q4273 r4268 x4270 fq4273 hw) ⟨callB_of 1 hT (gw_in w_7_195) rfl rfl rfl (hT _ w_1_5) (hT _ w_7_192) (by decide +kernel) ⟨Nat.le_trans (by decide) hRf, Nat.le_trans (by decide) hRl⟩, hT _ w_7_193, hT _ w_7_194⟩ ⟨PV.blind, va_recv hK hW.1 (ci := 3) (q0 := q4273) rfl (pic_obj fq4273.1 fq4273.2 (by decide)), PV.at _ hW hK hN hE hS hF⟩ rfl rfl hl.1 rfl (lv_room (Nat.le_of_ble_eq_true rfl)) d_Qry_readColumn_20 ⟨hRc, hRs⟩) hS (fun q _ h => hF q h) hF (fun r4275 x4274 t H locs ht hvm hw hB hz1 hk1 hS => ?_)
    have hW := Wd.back hB ht hF
    clear hB ht hF hz1 hk1 hvm
    refine lv_if_ne (tgt := 37) hx hb d_Qry_readColumn_23 (by decide) (fun c4276 => ?_) (fun c4276 => ?_)
    · have hw := hw.1 c4276
      exact t_Qry_readColumn_37 hx hb hml hown hT hK hN hA hRc hRs hRf hRl hNN hE hret  o r4268 x4274 H locs ls fo hw hW hS (lv_sub hl [1, 0] rfl)
    · have hw := hw.2 c4276
      refine lv_aload_n hx hb d_Qry_readColumn_26 rfl (lv_at hl 1 rfl) ?_
      obtain ⟨q4277, hq4277, hw⟩ := hw
      refine w_getr (q := q4277) (k := 17) (t := 9) (C := R_Qry) (T := F_Qry) (N := 20) hx hb hT hown hK hW fo.1 fo.2 (by decide) in_Qry rfl rfl (by decide) rfl fr_Qry_17 w_3_105 d_Qry_readColumn_27 hq4277 (fun aq4277 bq4277 => ?_)
      have fq4277 : q4277 < NN ∧ kcC q4277 = 2 := ⟨aq4277, bq4277⟩
      refine lv_aload_n hx hb d_Qry_readColumn_30 rfl (lv_at hl 1 rfl) ?_
      refine w_geti (k := 19) (t := 9) (C := R_Qry) (T := F_Qry) (N := 20) hx hb hT hown hK hW fo.1 fo.2 (by decide) in_Qry rfl rfl (by decide) rfl fr_Qry_19 w_3_107 d_Qry_readColumn_31 ?_
      have hF := hW.free hS hA
      refine va_callv (va_runV (C := R_Scn) (As := [.int (fI x4274 o 19)]) (rest := []) ⟨hx, hb, hml, hown, hT⟩ (k_Scn_refuse l dC dI cI cB cJ cZ ad NN E tM tC kK kV hNN H.size q4277 (fI x4274 o 19) x4274 fq4277 hw) ⟨callB_of 1 hT (gw_in w_4_128) rfl rfl rfl (hT _ w_1_4) (hT _ w_7_149) (by decide +kernel) ⟨Nat.le_trans (by decide) hRf, Nat.le_trans (by decide) hRl⟩, hT _ w_4_126, hT _ w_4_127⟩ ⟨PV.blind, va_recv hK hW.1 (ci := 2) (q0 := q4277) rfl (pic_obj fq4277.1 fq4277.2 (by decide)), PV.at _ hW hK hN hE hS hF⟩ rfl rfl hl.1 rfl (lv_room (Nat.le_of_ble_eq_true rfl)) d_Qry_readColumn_34 ⟨hRc, hRs⟩) hS (fun q _ h => hF q h) hF (fun  x4278 t H locs ht hvm hw hB hz1 hk1 hS => ?_)
      have hW := Wd.back hB ht hF
      clear hB ht hF hz1 hk1 hvm
      exact t_Qry_readColumn_37 hx hb hml hown hT hK hN hA hRc hRs hRf hRl hNN hE hret  o r4268 x4278 H locs ls fo hw hW hS (lv_sub hl [1, 0] rfl)
set_option maxHeartbeats 4000000 in
set_option maxRecDepth 100000 in
theorem k_Qry_readColumn (l : Launch) (dC : Nat → ClassId) (dI : Nat → Nat → Nat) (cI cB cJ cZ : ClassId) (ad : Nat → Nat) (NN : Nat) (E : Heap) (tM tC : Nat) (kK kV : Nat → Nat) (hNN : 152 ≤ NN) (sz : Nat) (o : Nat) (x : St) (fo : o < NN ∧ kcC o = 9) {post : Int32 → St → Prop} (hw : wp_Qry_readColumn post o x) : Met l y_Qry_readColumn (wsOf y_Qry_readColumn b_Qry_readColumn 2 (some (.int))) ({ frames := 7, cells := 0, slots := 0, locals := 266 }) (va_Pc [.ref (ad o)] (PV dC dI cI cB cJ cZ ad stC kcC NN E tM tC kK kV sz x)) (va_Qi (fun (r : Int32) (y : St) => post r y) (fun y t => Wd dC dI cI cB cJ cZ ad stC kcC NN (va_A (pic ad stC kcC NN cI cB cJ cZ x) sz) y t.heap) (va_A (pic ad stC kcC NN cI cB cJ cZ x) sz)) 0 0 (va_A (pic ad stC kcC NN cI cB cJ cZ x) sz) := by
  refine Met.ofW (cc := b_Qry_readColumn) (maxL := 2) (ret := some (.int)) (by decide) rfl ?_
  intro p e s m args below meth c s₁ B hml hv
  obtain ⟨rfl, ⟨hsz, hW0, hK, hN⟩, hE⟩ := hv
  have hx := B.exec
  have hb := B.bytes
  have hr := B.returns
  have hts := atoms_spec B.pre
  have hT : ∀ w ∈ TG, w.before _ s = true := fun w h => hts w (List.mem_cons_of_mem _ h)
  have hown : s.vm.findClass R_Qry = some m.cls := findClass_of_methodNamed B.named
  have hlocks := B.notSynchronized
  subst hsz
  have hW : Wd dC dI cI cB cJ cZ ad stC kcC NN (va_A (pic ad stC kcC NN cI cB cJ cZ x) s.heap.size) x s.heap := ⟨hW0.1, hW0.2.1.self (sz := s.heap.size), hW0.2.2⟩
  generalize hAe : va_A (pic ad stC kcC NN cI cB cJ cZ x) s.heap.size = A at hW hE ⊢
  have hA : ∀ q : Nat, s.heap.size ≤ q → A q := fun q h => by rw [← hAe]; exact Or.inr h
  have hS : va_S A s.heap s.heap [] := va_S.rf
  have hl := lv_entry ([.ref (ad o)]) (n := 2) (Nat.le_of_ble_eq_true rfl)
  rw [lg_entry_eq]
  generalize (lg_sl ([.ref (ad o)]) ++ List.replicate (2 - (lg_sl ([.ref (ad o)])).length) Slot.unset).toArray = ls at hl ⊢
  have hl : lv_has ls 2 [(0, .ref (ad o))] := hl
  exact t_Qry_readColumn_e hx hb hml hown hT hK hN hA (Nat.le_refl 0) (Nat.le_refl 0) (Nat.le_refl 7) (Nat.le_refl 266) hNN hE (fun r x H locs pc ls hd hp hW hS => W.iret (v := r) hx hb hr (fun t ht hM => ⟨⟨r, x, rfl, hp, Wd.back hW ht.symm (fun _ z => z)⟩, hS.F ht⟩) hS.2.2 hd hlocks)  o x _ _ ls fo hw hW hS hl
set_option maxRecDepth 100000 in
def j_Qry_isNumber_10 (post : Int32 → St → Prop) (l0 : Int32) (x : St) : Prop := post 1 x
set_option maxHeartbeats 4000000 in
set_option maxRecDepth 100000 in
theorem t_Qry_isNumber_10 {p : Program} {l : Launch} {e : Env} {R : Room} {s : State} {m : MethodId} {args : Array Value} {below : List Frame} {meth : Method} {c : Code} {cells slots : Nat} {Q : State → Prop} {dC : Nat → ClassId} {dI : Nat → Nat → Nat} {cI cB cJ cZ : ClassId} {A : Nat → Prop} {ad : Nat → Nat} {NN : Nat} {E : Heap} {tM tC : Nat} {kK kV : Nat → Nat} {post : Int32 → St → Prop} (hx : p.tables.exec = Jvm.exec) (hb : c.code = b_Qry_isNumber) (hml : c.maxLocals = 1) (hown : s.vm.findClass R_Qry = some m.cls) (hT : ∀ w ∈ TG, w.before args s = true) (hK : va_K (dC, dI) CL (TY cI cB cJ cZ) s) (hN : NW s) (hA : ∀ q : Nat, s.heap.size ≤ q → A q) (hRc : cells ≤ R.cells) (hRs : slots ≤ R.slots) (hRf : 0 ≤ R.frames) (hRl : 0 ≤ R.locals) (hNN : 152 ≤ NN) (hE : CE E tM tC kK kV A s) (hret : ∀ (r : Int32) (x : St) (H : Heap) (locs : List Loc) (pc : Nat) (ls : Array Slot), decode b_Qry_isNumber pc = .ok (.ireturn, 1) → narrow .boolean (.int r) = .int r → post r x → Wd dC dI cI cB cJ cZ ad stC kcC NN A x H → va_S A s.heap H locs → W p l e R s m args below meth c H locs cells slots Q (F0 m pc ls [.int r]))  : ∀ (l0 : Int32) (x : St) (H : Heap) (locs : List Loc) (ls : Array Slot), j_Qry_isNumber_10 post l0 x → Wd dC dI cI cB cJ cZ ad stC kcC NN A x H → va_S A s.heap H locs → lv_has ls 1 [(0, .int l0)] → W p l e R s m args below meth c H locs cells slots Q (F0 m 10 ls []) := by
  intro l0 x H locs ls  hw hW hS hl
  unfold j_Qry_isNumber_10 at hw
  refine lv_iconst (v := 1) hx hb d_Qry_isNumber_10 (by decide) ?_
  refine lv_goto (tgt := 15) hx hb d_Qry_isNumber_11 (by decide) ?_
  exact hret 1 x H locs 15 ls d_Qry_isNumber_15 rfl hw hW hS
set_option maxRecDepth 100000 in
def wp_Qry_isNumber (post : Int32 → St → Prop) (l0 : Int32) (x : St) : Prop := ((l0 = 1 → j_Qry_isNumber_10 post l0 x) ∧ (¬ l0 = 1 → ((¬ l0 = 2 → post 0 x) ∧ (l0 = 2 → j_Qry_isNumber_10 post l0 x))))
set_option maxHeartbeats 4000000 in
set_option maxRecDepth 100000 in
theorem t_Qry_isNumber_e {p : Program} {l : Launch} {e : Env} {R : Room} {s : State} {m : MethodId} {args : Array Value} {below : List Frame} {meth : Method} {c : Code} {cells slots : Nat} {Q : State → Prop} {dC : Nat → ClassId} {dI : Nat → Nat → Nat} {cI cB cJ cZ : ClassId} {A : Nat → Prop} {ad : Nat → Nat} {NN : Nat} {E : Heap} {tM tC : Nat} {kK kV : Nat → Nat} {post : Int32 → St → Prop} (hx : p.tables.exec = Jvm.exec) (hb : c.code = b_Qry_isNumber) (hml : c.maxLocals = 1) (hown : s.vm.findClass R_Qry = some m.cls) (hT : ∀ w ∈ TG, w.before args s = true) (hK : va_K (dC, dI) CL (TY cI cB cJ cZ) s) (hN : NW s) (hA : ∀ q : Nat, s.heap.size ≤ q → A q) (hRc : cells ≤ R.cells) (hRs : slots ≤ R.slots) (hRf : 0 ≤ R.frames) (hRl : 0 ≤ R.locals) (hNN : 152 ≤ NN) (hE : CE E tM tC kK kV A s) (hret : ∀ (r : Int32) (x : St) (H : Heap) (locs : List Loc) (pc : Nat) (ls : Array Slot), decode b_Qry_isNumber pc = .ok (.ireturn, 1) → narrow .boolean (.int r) = .int r → post r x → Wd dC dI cI cB cJ cZ ad stC kcC NN A x H → va_S A s.heap H locs → W p l e R s m args below meth c H locs cells slots Q (F0 m pc ls [.int r])) : ∀ (l0 : Int32) (x : St) (H : Heap) (locs : List Loc) (ls : Array Slot), wp_Qry_isNumber post l0 x → Wd dC dI cI cB cJ cZ ad stC kcC NN A x H → va_S A s.heap H locs → lv_has ls 1 [(0, .int l0)] → W p l e R s m args below meth c H locs cells slots Q (F0 m 0 ls []) := by
  intro l0 x H locs ls  hw hW hS hl
  unfold wp_Qry_isNumber at hw
  refine lv_iload_n hx hb d_Qry_isNumber_0 rfl (lv_at hl 0 rfl) ?_
  refine lv_iconst (v := 1) hx hb d_Qry_isNumber_1 (by decide) ?_
  refine lv_icmp_eq (tgt := 10) hx hb d_Qry_isNumber_2 (by decide) (fun c4279 => ?_) (fun c4279 => ?_)
  · have hw := hw.1 c4279
    exact t_Qry_isNumber_10 hx hb hml hown hT hK hN hA hRc hRs hRf hRl hNN hE hret  l0 x H locs ls  hw hW hS (lv_sub hl [0] rfl)
  · have hw := hw.2 c4279
    refine lv_iload_n hx hb d_Qry_isNumber_5 rfl (lv_at hl 0 rfl) ?_
    refine lv_iconst (v := 2) hx hb d_Qry_isNumber_6 (by decide) ?_
    refine lv_icmp_ne (tgt := 14) hx hb d_Qry_isNumber_7 (by decide) (fun c4280 => ?_) (fun c4280 => ?_)
    · have hw := hw.1 c4280
      refine lv_iconst (v := 0) hx hb d_Qry_isNumber_14 (by decide) ?_
      exact hret 0 x H locs 15 ls d_Qry_isNumber_15 rfl hw hW hS
    · have hw := hw.2 c4280
      exact t_Qry_isNumber_10 hx hb hml hown hT hK hN hA hRc hRs hRf hRl hNN hE hret  l0 x H locs ls  hw hW hS (lv_sub hl [0] rfl)
set_option maxHeartbeats 4000000 in
set_option maxRecDepth 100000 in
theorem k_Qry_isNumber (l : Launch) (dC : Nat → ClassId) (dI : Nat → Nat → Nat) (cI cB cJ cZ : ClassId) (ad : Nat → Nat) (NN : Nat) (E : Heap) (tM tC : Nat) (kK kV : Nat → Nat) (hNN : 152 ≤ NN) (sz : Nat) (l0 : Int32) (x : St) {post : Int32 → St → Prop} (hw : wp_Qry_isNumber post l0 x) : Met l y_Qry_isNumber (wsOf y_Qry_isNumber b_Qry_isNumber 1 (some (.boolean))) ({ frames := 0, cells := 0, slots := 0, locals := 0 }) (va_Pc [.int l0] (PV dC dI cI cB cJ cZ ad stC kcC NN E tM tC kK kV sz x)) (va_Qi (fun (r : Int32) (y : St) => post r y) (fun y t => Wd dC dI cI cB cJ cZ ad stC kcC NN (va_A (pic ad stC kcC NN cI cB cJ cZ x) sz) y t.heap) (va_A (pic ad stC kcC NN cI cB cJ cZ x) sz)) 0 0 (va_A (pic ad stC kcC NN cI cB cJ cZ x) sz) := by
  refine Met.ofW (cc := b_Qry_isNumber) (maxL := 1) (ret := some (.boolean)) (by decide) rfl ?_
  intro p e s m args below meth c s₁ B hml hv
  obtain ⟨rfl, ⟨hsz, hW0, hK, hN⟩, hE⟩ := hv
  have hx := B.exec
  have hb := B.bytes
  have hr := B.returns
  have hts := atoms_spec B.pre
  have hT : ∀ w ∈ TG, w.before _ s = true := fun w h => hts w (List.mem_cons_of_mem _ h)
  have hown : s.vm.findClass R_Qry = some m.cls := findClass_of_methodNamed B.named
  have hlocks := B.notSynchronized
  subst hsz
  have hW : Wd dC dI cI cB cJ cZ ad stC kcC NN (va_A (pic ad stC kcC NN cI cB cJ cZ x) s.heap.size) x s.heap := ⟨hW0.1, hW0.2.1.self (sz := s.heap.size), hW0.2.2⟩
  generalize hAe : va_A (pic ad stC kcC NN cI cB cJ cZ x) s.heap.size = A at hW hE ⊢
  have hA : ∀ q : Nat, s.heap.size ≤ q → A q := fun q h => by rw [← hAe]; exact Or.inr h
  have hS : va_S A s.heap s.heap [] := va_S.rf
  have hl := lv_entry ([.int l0]) (n := 1) (Nat.le_of_ble_eq_true rfl)
  rw [lg_entry_eq]
  generalize (lg_sl ([.int l0]) ++ List.replicate (1 - (lg_sl ([.int l0])).length) Slot.unset).toArray = ls at hl ⊢
  have hl : lv_has ls 1 [(0, .int l0)] := hl
  exact t_Qry_isNumber_e hx hb hml hown hT hK hN hA (Nat.le_refl 0) (Nat.le_refl 0) (Nat.le_refl 0) (Nat.le_refl 0) hNN hE (fun r x H locs pc ls hd hz hp hW hS => W.zret (v := r) (ty := .boolean) hx hb hr hz (fun t ht hM => ⟨⟨r, x, rfl, hp, Wd.back hW ht.symm (fun _ z => z)⟩, hS.F ht⟩) hS.2.2 hd hlocks)  l0 x _ _ ls  hw hW hS hl
set_option maxRecDepth 100000 in
def j_Qry_readItem_110 (post : St → Prop) (o : Nat) (l1 : Int32) (l2 : Int32) (x : St) : Prop := (vp_in (fI x o 1) (fN x (stC o 2)) ∧ ∀ x4281 : St, x4281 = setA x (stC o 2) (fI x o 1) l1 → (vp_in (fI x4281 o 1) (fN x4281 (stC o 3)) ∧ ∀ x4282 : St, x4282 = setA x4281 (stC o 3) (fI x4281 o 1) l2 → post x4282))
set_option maxHeartbeats 4000000 in
set_option maxRecDepth 100000 in
theorem t_Qry_readItem_110 {p : Program} {l : Launch} {e : Env} {R : Room} {s : State} {m : MethodId} {args : Array Value} {below : List Frame} {meth : Method} {c : Code} {cells slots : Nat} {Q : State → Prop} {dC : Nat → ClassId} {dI : Nat → Nat → Nat} {cI cB cJ cZ : ClassId} {A : Nat → Prop} {ad : Nat → Nat} {NN : Nat} {E : Heap} {tM tC : Nat} {kK kV : Nat → Nat} {post : St → Prop} (hx : p.tables.exec = Jvm.exec) (hb : c.code = b_Qry_readItem) (hml : c.maxLocals = 3) (hown : s.vm.findClass R_Qry = some m.cls) (hT : ∀ w ∈ TG, w.before args s = true) (hK : va_K (dC, dI) CL (TY cI cB cJ cZ) s) (hN : NW s) (hA : ∀ q : Nat, s.heap.size ≤ q → A q) (hRc : cells ≤ R.cells) (hRs : slots ≤ R.slots) (hRf : 8 ≤ R.frames) (hRl : 287 ≤ R.locals) (hNN : 152 ≤ NN) (hE : CE E tM tC kK kV A s) (hret : ∀ (x : St) (H : Heap) (locs : List Loc) (pc : Nat) (ls : Array Slot), decode b_Qry_readItem pc = .ok (.return_, 1) → post x → Wd dC dI cI cB cJ cZ ad stC kcC NN A x H → va_S A s.heap H locs → W p l e R s m args below meth c H locs cells slots Q (F0 m pc ls []))  : ∀ (o : Nat) (l1 : Int32) (l2 : Int32) (x : St) (H : Heap) (locs : List Loc) (ls : Array Slot), (o < NN ∧ kcC o = 9) → j_Qry_readItem_110 post o l1 l2 x → Wd dC dI cI cB cJ cZ ad stC kcC NN A x H → va_S A s.heap H locs → lv_has ls 3 [(0, .ref (ad o)), (1, .int l1), (2, .int l2)] → W p l e R s m args below meth c H locs cells slots Q (F0 m 110 ls []) := by
  intro o l1 l2 x H locs ls fo hw hW hS hl
  unfold j_Qry_readItem_110 at hw
  refine lv_aload_n hx hb d_Qry_readItem_110 rfl (lv_at hl 0 rfl) ?_
  refine w_getf (q := (stC o 2)) (k := 2) (t := 9) (C := R_Qry) (T := F_Qry) (N := 20) hx hb hT hown hK hW fo.1 fo.2 (by decide) in_Qry rfl rfl (by decide) rfl fr_Qry_2 w_3_78 d_Qry_readItem_111 rfl ?_
  refine lv_aload_n hx hb d_Qry_readItem_114 rfl (lv_at hl 0 rfl) ?_
  refine w_geti (k := 1) (t := 9) (C := R_Qry) (T := F_Qry) (N := 20) hx hb hT hown hK hW fo.1 fo.2 (by decide) in_Qry rfl rfl (by decide) rfl fr_Qry_1 w_3_76 d_Qry_readItem_115 ?_
  refine lv_iload_n hx hb d_Qry_readItem_118 rfl (lv_at hl 1 rfl) ?_
  obtain ⟨hi, hw⟩ := hw
  refine w_iast (o := (stC o 2)) hx hb hK hW hS (st_ty hNN fo.1 fo.2 rfl).1 (st_ty hNN fo.1 fo.2 rfl).2 hi d_Qry_readItem_119 (fun H locs hW hS => ?_)
  obtain ⟨x4281, ex4281⟩ : ∃ y : St, y = setA x (stC o 2) (fI x o 1) l1 := ⟨_, rfl⟩
  rw [← ex4281] at hW
  have hw := hw x4281 ex4281
  refine lv_aload_n hx hb d_Qry_readItem_120 rfl (lv_at hl 0 rfl) ?_
  refine w_getf (q := (stC o 3)) (k := 3) (t := 9) (C := R_Qry) (T := F_Qry) (N := 20) hx hb hT hown hK hW fo.1 fo.2 (by decide) in_Qry rfl rfl (by decide) rfl fr_Qry_3 w_3_80 d_Qry_readItem_121 rfl ?_
  refine lv_aload_n hx hb d_Qry_readItem_124 rfl (lv_at hl 0 rfl) ?_
  refine w_geti (k := 1) (t := 9) (C := R_Qry) (T := F_Qry) (N := 20) hx hb hT hown hK hW fo.1 fo.2 (by decide) in_Qry rfl rfl (by decide) rfl fr_Qry_1 w_3_76 d_Qry_readItem_125 ?_
  refine lv_iload_n hx hb d_Qry_readItem_128 rfl (lv_at hl 2 rfl) ?_
  obtain ⟨hi, hw⟩ := hw
  refine w_iast (o := (stC o 3)) hx hb hK hW hS (st_ty hNN fo.1 fo.2 rfl).1 (st_ty hNN fo.1 fo.2 rfl).2 hi d_Qry_readItem_129 (fun H locs hW hS => ?_)
  obtain ⟨x4282, ex4282⟩ : ∃ y : St, y = setA x4281 (stC o 3) (fI x4281 o 1) l2 := ⟨_, rfl⟩
  rw [← ex4282] at hW
  have hw := hw x4282 ex4282
  exact hret x4282 H locs 130 ls d_Qry_readItem_130 hw hW hS
set_option maxRecDepth 100000 in
def j_Qry_readItem_101 (post : St → Prop) (o : Nat) (l1 : Int32) (l2 : Int32) (x : St) : Prop := (∃ q4283 : Nat, fR x o 17 = some q4283 ∧ wp_Scn_needSign (fun (x4284 : St) => j_Qry_readItem_110 post o l1 l2 x4284) q4283 41 x)
set_option maxHeartbeats 4000000 in
set_option maxRecDepth 100000 in
theorem t_Qry_readItem_101 {p : Program} {l : Launch} {e : Env} {R : Room} {s : State} {m : MethodId} {args : Array Value} {below : List Frame} {meth : Method} {c : Code} {cells slots : Nat} {Q : State → Prop} {dC : Nat → ClassId} {dI : Nat → Nat → Nat} {cI cB cJ cZ : ClassId} {A : Nat → Prop} {ad : Nat → Nat} {NN : Nat} {E : Heap} {tM tC : Nat} {kK kV : Nat → Nat} {post : St → Prop} (hx : p.tables.exec = Jvm.exec) (hb : c.code = b_Qry_readItem) (hml : c.maxLocals = 3) (hown : s.vm.findClass R_Qry = some m.cls) (hT : ∀ w ∈ TG, w.before args s = true) (hK : va_K (dC, dI) CL (TY cI cB cJ cZ) s) (hN : NW s) (hA : ∀ q : Nat, s.heap.size ≤ q → A q) (hRc : cells ≤ R.cells) (hRs : slots ≤ R.slots) (hRf : 8 ≤ R.frames) (hRl : 287 ≤ R.locals) (hNN : 152 ≤ NN) (hE : CE E tM tC kK kV A s) (hret : ∀ (x : St) (H : Heap) (locs : List Loc) (pc : Nat) (ls : Array Slot), decode b_Qry_readItem pc = .ok (.return_, 1) → post x → Wd dC dI cI cB cJ cZ ad stC kcC NN A x H → va_S A s.heap H locs → W p l e R s m args below meth c H locs cells slots Q (F0 m pc ls []))  : ∀ (o : Nat) (l1 : Int32) (l2 : Int32) (x : St) (H : Heap) (locs : List Loc) (ls : Array Slot), (o < NN ∧ kcC o = 9) → j_Qry_readItem_101 post o l1 l2 x → Wd dC dI cI cB cJ cZ ad stC kcC NN A x H → va_S A s.heap H locs → lv_has ls 3 [(0, .ref (ad o)), (1, .int l1), (2, .int l2)] → W p l e R s m args below meth c H locs cells slots Q (F0 m 101 ls []) := by
  intro o l1 l2 x H locs ls fo hw hW hS hl
  unfold j_Qry_readItem_101 at hw
  refine lv_aload_n hx hb d_Qry_readItem_101 rfl (lv_at hl 0 rfl) ?_
  obtain ⟨q4283, hq4283, hw⟩ := hw
  refine w_getr (q := q4283) (k := 17) (t := 9) (C := R_Qry) (T := F_Qry) (N := 20) hx hb hT hown hK hW fo.1 fo.2 (by decide) in_Qry rfl rfl (by decide) rfl fr_Qry_17 w_3_105 d_Qry_readItem_102 hq4283 (fun aq4283 bq4283 => ?_)
  have fq4283 : q4283 < NN ∧ kcC q4283 = 2 := ⟨aq4283, bq4283⟩
  refine lv_bipush (v := 41) hx hb d_Qry_readItem_105 (by decide) ?_
  have hF := hW.free hS hA
  refine va_callv (va_runV (C := R_Scn) (As := [.int 41]) (rest := []) ⟨hx, hb, hml, hown, hT⟩ (k_Scn_needSign l dC dI cI cB cJ cZ ad NN E tM tC kK kV hNN H.size q4283 41 x fq4283 hw) ⟨callB_of 1 hT (gw_in w_4_118) rfl rfl rfl (hT _ w_1_4) (hT _ w_7_187) (by decide +kernel) ⟨Nat.le_trans (by decide) hRf, Nat.le_trans (by decide) hRl⟩, hT _ w_4_116, hT _ w_4_117⟩ ⟨PV.blind, va_recv hK hW.1 (ci := 2) (q0 := q4283) rfl (pic_obj fq4283.1 fq4283.2 (by decide)), PV.at _ hW hK hN hE hS hF⟩ rfl rfl hl.1 rfl (lv_room (Nat.le_of_ble_eq_true rfl)) d_Qry_readItem_107 ⟨hRc, hRs⟩) hS (fun q _ h => hF q h) hF (fun  x4284 t H locs ht hvm hw hB hz1 hk1 hS => ?_)
  have hW := Wd.back hB ht hF
  clear hB ht hF hz1 hk1 hvm
  exact t_Qry_readItem_110 hx hb hml hown hT hK hN hA hRc hRs hRf hRl hNN hE hret  o l1 l2 x4284 H locs ls fo hw hW hS (lv_sub hl [0, 1, 2] rfl)
set_option maxRecDepth 100000 in
def j_Qry_readItem_46 (post : St → Prop) (o : Nat) (l1 : Int32) (l2 : Int32) (x : St) : Prop := (∃ q4285 : Nat, fR x o 17 = some q4285 ∧ wp_Scn_needSign (fun (x4286 : St) => wp_Qry_readColumn (fun (r4288 : Int32) (x4287 : St) => ((¬ l1 = 3 → j_Qry_readItem_101 post o l1 r4288 x4287) ∧ (l1 = 3 → (∃ q4290 : Nat, fR x4287 o 17 = some q4290 ∧ wp_Scn_good (fun (r4292 : Int32) (x4291 : St) => ((r4292 = 0 → j_Qry_readItem_101 post o l1 r4288 x4291) ∧ (¬ r4292 = 0 → (∃ q4294 : Nat, fR x4291 o 18 = some q4294 ∧ (vp_in r4288 (fN x4291 (stC q4294 3)) ∧ wp_Qry_isNumber (fun (r4296 : Int32) (x4295 : St) => ((¬ r4296 = 0 → j_Qry_readItem_101 post o l1 r4288 x4295) ∧ (r4296 = 0 → (∃ q4298 : Nat, fR x4295 o 17 = some q4298 ∧ wp_Scn_refuse (fun (x4299 : St) => j_Qry_readItem_101 post o l1 r4288 x4299) q4298 (fI x4295 o 19) x4295)))) (rA x4291 (stC q4294 3) r4288) x4291))))) q4290 x4287)))) o x4286) q4285 40 x)
set_option maxHeartbeats 4000000 in
set_option maxRecDepth 100000 in
theorem t_Qry_readItem_46 {p : Program} {l : Launch} {e : Env} {R : Room} {s : State} {m : MethodId} {args : Array Value} {below : List Frame} {meth : Method} {c : Code} {cells slots : Nat} {Q : State → Prop} {dC : Nat → ClassId} {dI : Nat → Nat → Nat} {cI cB cJ cZ : ClassId} {A : Nat → Prop} {ad : Nat → Nat} {NN : Nat} {E : Heap} {tM tC : Nat} {kK kV : Nat → Nat} {post : St → Prop} (hx : p.tables.exec = Jvm.exec) (hb : c.code = b_Qry_readItem) (hml : c.maxLocals = 3) (hown : s.vm.findClass R_Qry = some m.cls) (hT : ∀ w ∈ TG, w.before args s = true) (hK : va_K (dC, dI) CL (TY cI cB cJ cZ) s) (hN : NW s) (hA : ∀ q : Nat, s.heap.size ≤ q → A q) (hRc : cells ≤ R.cells) (hRs : slots ≤ R.slots) (hRf : 8 ≤ R.frames) (hRl : 287 ≤ R.locals) (hNN : 152 ≤ NN) (hE : CE E tM tC kK kV A s) (hret : ∀ (x : St) (H : Heap) (locs : List Loc) (pc : Nat) (ls : Array Slot), decode b_Qry_readItem pc = .ok (.return_, 1) → post x → Wd dC dI cI cB cJ cZ ad stC kcC NN A x H → va_S A s.heap H locs → W p l e R s m args below meth c H locs cells slots Q (F0 m pc ls []))  : ∀ (o : Nat) (l1 : Int32) (l2 : Int32) (x : St) (H : Heap) (locs : List Loc) (ls : Array Slot), (o < NN ∧ kcC o = 9) → j_Qry_readItem_46 post o l1 l2 x → Wd dC dI cI cB cJ cZ ad stC kcC NN A x H → va_S A s.heap H locs → lv_has ls 3 [(0, .ref (ad o)), (1, .int l1), (2, .int l2)] → W p l e R s m args below meth c H locs cells slots Q (F0 m 46 ls []) := by
  intro o l1 l2 x H locs ls fo hw hW hS hl
  unfold j_Qry_readItem_46 at hw
  refine lv_aload_n hx hb d_Qry_readItem_46 rfl (lv_at hl 0 rfl) ?_
  obtain ⟨q4285, hq4285, hw⟩ := hw
  refine w_getr (q := q4285) (k := 17) (t := 9) (C := R_Qry) (T := F_Qry) (N := 20) hx hb hT hown hK hW fo.1 fo.2 (by decide) in_Qry rfl rfl (by decide) rfl fr_Qry_17 w_3_105 d_Qry_readItem_47 hq4285 (fun aq4285 bq4285 => ?_)
  have fq4285 : q4285 < NN ∧ kcC q4285 = 2 := ⟨aq4285, bq4285⟩
  refine lv_bipush (v := 40) hx hb d_Qry_readItem_50 (by decide) ?_
  have hF := hW.free hS hA
  refine va_callv (va_runV (C := R_Scn) (As := [.int 40]) (rest := []) ⟨hx, hb, hml, hown, hT⟩ (k_Scn_needSign l dC dI cI cB cJ cZ ad NN E tM tC kK kV hNN H.size q4285 40 x fq4285 hw) ⟨callB_of 1 hT (gw_in w_4_118) rfl rfl rfl (hT _ w_1_4) (hT _ w_7_187) (by decide +kernel) ⟨Nat.le_trans (by decide) hRf, Nat.le_trans (by decide) hRl⟩, hT _ w_4_116, hT _ w_4_117⟩ ⟨PV.blind, va_recv hK hW.1 (ci := 2) (q0 := q4285) rfl (pic_obj fq4285.1 fq4285.2 (by decide)), PV.at _ hW hK hN hE hS hF⟩ rfl rfl hl.1 rfl (lv_room (Nat.le_of_ble_eq_true rfl)) d_Qry_readItem_52 ⟨hRc, hRs⟩) hS (fun q _ h => hF q h) hF (fun  x4286 t H locs ht hvm hw hB hz1 hk1 hS => ?_)
  have hW := Wd.back hB ht hF
  clear hB ht hF hz1 hk1 hvm
  refine lv_aload_n hx hb d_Qry_readItem_55 rfl (lv_at hl 0 rfl) ?_
  have hF := hW.free hS hA
  refine va_calli (va_runV (C := R_Qry) (As := []) (rest := []) ⟨hx, hb, hml, hown, hT⟩ (k_Qry_readColumn l dC dI cI cB cJ cZ ad NN E tM tC kK kV hNN H.size o x4286 fo hw) ⟨callB_of 0 hT (gw_in w_7_191) rfl rfl rfl (hT _ w_1_12) (hT _ w_7_188) (by decide +kernel) ⟨Nat.le_trans (by decide) hRf, Nat.le_trans (by decide) hRl⟩, hT _ w_7_190, hT _ ws_73⟩ ⟨PV.blind, va_recv hK hW.1 (ci := 9) (q0 := o) rfl (pic_obj fo.1 fo.2 (by decide)), PV.at _ hW hK hN hE hS hF⟩ rfl rfl hl.1 rfl (lv_room (Nat.le_of_ble_eq_true rfl)) d_Qry_readItem_56 ⟨hRc, hRs⟩) hS (fun q _ h => hF q h) hF (fun r4288 x4287 t H locs ht hvm hw hB hz1 hk1 hS => ?_)
  have hW := Wd.back hB ht hF
  clear hB ht hF hz1 hk1 hvm
  refine lv_istore_n (lv' := [(2, .int r4288), (0, .ref (ad o)), (1, .int l1)]) hx hb d_Qry_readItem_59 rfl hl (by decide) rfl (fun ls hl => ?_)
  refine lv_iload_n hx hb d_Qry_readItem_60 rfl (lv_at hl 2 rfl) ?_
  refine lv_iconst (v := 3) hx hb d_Qry_readItem_61 (by decide) ?_
  refine lv_icmp_ne (tgt := 101) hx hb d_Qry_readItem_62 (by decide) (fun c4289 => ?_) (fun c4289 => ?_)
  · have hw := hw.1 c4289
    exact t_Qry_readItem_101 hx hb hml hown hT hK hN hA hRc hRs hRf hRl hNN hE hret  o l1 r4288 x4287 H locs ls fo hw hW hS (lv_sub hl [1, 2, 0] rfl)
  · have hw := hw.2 c4289
    refine lv_aload_n hx hb d_Qry_readItem_65 rfl (lv_at hl 1 rfl) ?_
    obtain ⟨q4290, hq4290, hw⟩ := hw
    refine w_getr (q := q4290) (k := 17) (t := 9) (C := R_Qry) (T := F_Qry) (N := 20) hx hb hT hown hK hW fo.1 fo.2 (by decide) in_Qry rfl rfl (by decide) rfl fr_Qry_17 w_3_105 d_Qry_readItem_66 hq4290 (fun aq4290 bq4290 => ?_)
    have fq4290 : q4290 < NN ∧ kcC q4290 = 2 := ⟨aq4290, bq4290⟩
    have hF := hW.free hS hA
    refine va_calli (va_runV (C := R_Scn) (As := []) (rest := []) ⟨hx, hb, hml, hown, hT⟩ (k_Scn_good l dC dI cI cB cJ cZ ad NN E tM tC kK kV hNN H.size q4290 x4287 fq4290 hw) ⟨callB_of 0 hT (gw_in w_4_106) rfl rfl rfl (hT _ w_1_4) (hT _ w_7_147) (by decide +kernel) ⟨Nat.le_trans (by decide) hRf, Nat.le_trans (by decide) hRl⟩, hT _ w_4_104, hT _ w_4_105⟩ ⟨PV.blind, va_recv hK hW.1 (ci := 2) (q0 := q4290) rfl (pic_obj fq4290.1 fq4290.2 (by decide)), PV.at _ hW hK hN hE hS hF⟩ rfl rfl hl.1 rfl (lv_room (Nat.le_of_ble_eq_true rfl)) d_Qry_readItem_69 ⟨hRc, hRs⟩) hS (fun q _ h => hF q h) hF (fun r4292 x4291 t H locs ht hvm hw hB hz1 hk1 hS => ?_)
    have hW := Wd.back hB ht hF
    clear hB ht hF hz1 hk1 hvm
    refine lv_if_eq (tgt := 101) hx hb d_Qry_readItem_72 (by decide) (fun c4293 => ?_) (fun c4293 => ?_)
    · have hw := hw.1 c4293
      exact t_Qry_readItem_101 hx hb hml hown hT hK hN hA hRc hRs hRf hRl hNN hE hret  o l1 r4288 x4291 H locs ls fo hw hW hS (lv_sub hl [1, 2, 0] rfl)
    · have hw := hw.2 c4293
      refine lv_aload_n hx hb d_Qry_readItem_75 rfl (lv_at hl 1 rfl) ?_
      obtain ⟨q4294, hq4294, hw⟩ := hw
      refine w_getr (q := q4294) (k := 18) (t := 9) (C := R_Qry) (T := F_Qry) (N := 20) hx hb hT hown hK hW fo.1 fo.2 (by decide) in_Qry rfl rfl (by decide) rfl fr_Qry_18 w_3_106 d_Qry_readItem_76 hq4294 (fun aq4294 bq4294 => ?_)
      have fq4294 : q4294 < NN ∧ kcC q4294 = 3 := ⟨aq4294, bq4294⟩
      refine w_getf (q := (stC q4294 3)) (k := 3) (t := 3) (C := R_Sch) (T := F_Sch) (N := 13) hx hb hT hown hK hW fq4294.1 fq4294.2 (by decide) in_Sch rfl rfl (by decide) rfl fr_Sch_3 w_1_149 d_Qry_readItem_79 rfl ?_
      refine lv_iload_n hx hb d_Qry_readItem_82 rfl (lv_at hl 0 rfl) ?_
      obtain ⟨hi, hw⟩ := hw
      refine w_iald (o := (stC q4294 3)) hx hb hK hW (st_ty hNN fq4294.1 fq4294.2 rfl).1 (st_ty hNN fq4294.1 fq4294.2 rfl).2 hi d_Qry_readItem_83 ?_
      have hF := hW.free hS hA
      refine va_calli (va_runS (As := [.int (rA x4291 (stC q4294 3) r4288)]) (rest := []) ⟨hx, hb, hml, hown, hT⟩ (k_Qry_isNumber l dC dI cI cB cJ cZ ad NN E tM tC kK kV hNN H.size (rA x4291 (stC q4294 3) r4288) x4291  hw) ⟨callB_of 1 hT (gw_in w_7_198) rfl rfl rfl (hT _ w_1_12) (hT _ w_7_196) (by decide +kernel) ⟨Nat.le_trans (by decide) hRf, Nat.le_trans (by decide) hRl⟩, hT _ w_7_197⟩ ⟨PV.blind, PV.at _ hW hK hN hE hS hF⟩ rfl rfl hl.1 rfl (lv_room (Nat.le_of_ble_eq_true rfl)) d_Qry_readItem_84 ⟨hRc, hRs⟩) hS (fun q _ h => hF q h) hF (fun r4296 x4295 t H locs ht hvm hw hB hz1 hk1 hS => ?_)
      have hW := Wd.back hB ht hF
      clear hB ht hF hz1 hk1 hvm
      refine lv_if_ne (tgt := 101) hx hb d_Qry_readItem_87 (by decide) (fun c4297 => ?_) (fun c4297 => ?_)
      · have hw := hw.1 c4297
        exact t_Qry_readItem_101 hx hb hml hown hT hK hN hA hRc hRs hRf hRl hNN hE hret  o l1 r4288 x4295 H locs ls fo hw hW hS (lv_sub hl [1, 2, 0] rfl)
      · have hw := hw.2 c4297
        refine lv_aload_n hx hb d_Qry_readItem_90 rfl (lv_at hl 1 rfl) ?_
        obtain ⟨q4298, hq4298, hw⟩ := hw
        refine w_getr (q := q4298) (k := 17) (t := 9) (C := R_Qry) (T := F_Qry) (N := 20) hx hb hT hown hK hW fo.1 fo.2 (by decide) in_Qry rfl rfl (by decide) rfl fr_Qry_17 w_3_105 d_Qry_readItem_91 hq4298 (fun aq4298 bq4298 => ?_)
        have fq4298 : q4298 < NN ∧ kcC q4298 = 2 := ⟨aq4298, bq4298⟩
        refine lv_aload_n hx hb d_Qry_readItem_94 rfl (lv_at hl 1 rfl) ?_
        refine w_geti (k := 19) (t := 9) (C := R_Qry) (T := F_Qry) (N := 20) hx hb hT hown hK hW fo.1 fo.2 (by decide) in_Qry rfl rfl (by decide) rfl fr_Qry_19 w_3_107 d_Qry_readItem_95 ?_
        have hF := hW.free hS hA
        refine va_callv (va_runV (C := R_Scn) (As := [.int (fI x4295 o 19)]) (rest := []) ⟨hx, hb, hml, hown, hT⟩ (k_Scn_refuse l dC dI cI cB cJ cZ ad NN E tM tC kK kV hNN H.size q4298 (fI x4295 o 19) x4295 fq4298 hw) ⟨callB_of 1 hT (gw_in w_4_128) rfl rfl rfl (hT _ w_1_4) (hT _ w_7_149) (by decide +kernel) ⟨Nat.le_trans (by decide) hRf, Nat.le_trans (by decide) hRl⟩, hT _ w_4_126, hT _ w_4_127⟩ ⟨PV.blind, va_recv hK hW.1 (ci := 2) (q0 := q4298) rfl (pic_obj fq4298.1 fq4298.2 (by decide)), PV.at _ hW hK hN hE hS hF⟩ rfl rfl hl.1 rfl (lv_room (Nat.le_of_ble_eq_true rfl)) d_Qry_readItem_98 ⟨hRc, hRs⟩) hS (fun q _ h => hF q h) hF (fun  x4299 t H locs ht hvm hw hB hz1 hk1 hS => ?_)
        have hW := Wd.back hB ht hF
        clear hB ht hF hz1 hk1 hvm
        exact t_Qry_readItem_101 hx hb hml hown hT hK hN hA hRc hRs hRf hRl hNN hE hret  o l1 r4288 x4299 H locs ls fo hw hW hS (lv_sub hl [1, 2, 0] rfl)
set_option maxRecDepth 100000 in
def wp_Qry_readItem (post : St → Prop) (o : Nat) (x : St) : Prop := wp_Qry_readItemForm (fun (r4301 : Int32) (x4300 : St) => ((¬ r4301 = 0 → (∀ x4303 : St, x4303 = setI x4300 o 7 1 → ((¬ r4301 = 2 → j_Qry_readItem_46 post o r4301 (-1) x4303) ∧ (r4301 = 2 → (∃ q4305 : Nat, fR x4303 o 17 = some q4305 ∧ wp_Scn_next (fun (r4307 : Int32) (x4306 : St) => ((r4307 = 40 → j_Qry_readItem_46 post o r4301 (-1) x4306) ∧ (¬ r4307 = 40 → j_Qry_readItem_110 post o 1 (-1) x4306))) q4305 x4303))))) ∧ (r4301 = 0 → wp_Qry_readPath (fun (r4310 : Int32) (x4309 : St) => j_Qry_readItem_110 post o r4301 r4310 x4309) o x4300))) o x
set_option maxHeartbeats 4000000 in
set_option maxRecDepth 100000 in
theorem t_Qry_readItem_e {p : Program} {l : Launch} {e : Env} {R : Room} {s : State} {m : MethodId} {args : Array Value} {below : List Frame} {meth : Method} {c : Code} {cells slots : Nat} {Q : State → Prop} {dC : Nat → ClassId} {dI : Nat → Nat → Nat} {cI cB cJ cZ : ClassId} {A : Nat → Prop} {ad : Nat → Nat} {NN : Nat} {E : Heap} {tM tC : Nat} {kK kV : Nat → Nat} {post : St → Prop} (hx : p.tables.exec = Jvm.exec) (hb : c.code = b_Qry_readItem) (hml : c.maxLocals = 3) (hown : s.vm.findClass R_Qry = some m.cls) (hT : ∀ w ∈ TG, w.before args s = true) (hK : va_K (dC, dI) CL (TY cI cB cJ cZ) s) (hN : NW s) (hA : ∀ q : Nat, s.heap.size ≤ q → A q) (hRc : cells ≤ R.cells) (hRs : slots ≤ R.slots) (hRf : 8 ≤ R.frames) (hRl : 287 ≤ R.locals) (hNN : 152 ≤ NN) (hE : CE E tM tC kK kV A s) (hret : ∀ (x : St) (H : Heap) (locs : List Loc) (pc : Nat) (ls : Array Slot), decode b_Qry_readItem pc = .ok (.return_, 1) → post x → Wd dC dI cI cB cJ cZ ad stC kcC NN A x H → va_S A s.heap H locs → W p l e R s m args below meth c H locs cells slots Q (F0 m pc ls [])) : ∀ (o : Nat) (x : St) (H : Heap) (locs : List Loc) (ls : Array Slot), (o < NN ∧ kcC o = 9) → wp_Qry_readItem post o x → Wd dC dI cI cB cJ cZ ad stC kcC NN A x H → va_S A s.heap H locs → lv_has ls 3 [(0, .ref (ad o))] → W p l e R s m args below meth c H locs cells slots Q (F0 m 0 ls []) := by
  intro o x H locs ls fo hw hW hS hl
  unfold wp_Qry_readItem at hw
  refine lv_aload_n hx hb d_Qry_readItem_0 rfl (lv_at hl 0 rfl) ?_
  have hF := hW.free hS hA
  refine va_calli (va_runV (C := R_Qry) (As := []) (rest := []) ⟨hx, hb, hml, hown, hT⟩ (k_Qry_readItemForm l dC dI cI cB cJ cZ ad NN E tM tC kK kV hNN H.size o x fo hw) ⟨callB_of 0 hT (gw_in w_7_157) rfl rfl rfl (hT _ w_1_12) (hT _ w_7_154) (by decide +kernel) ⟨Nat.le_trans (by decide) hRf, Nat.le_trans (by decide) hRl⟩, hT _ w_7_156, hT _ ws_70⟩ ⟨PV.blind, va_recv hK hW.1 (ci := 9) (q0 := o) rfl (pic_obj fo.1 fo.2 (by decide)), PV.at _ hW hK hN hE hS hF⟩ rfl rfl hl.1 rfl (lv_room (Nat.le_of_ble_eq_true rfl)) d_Qry_readItem_1 ⟨hRc, hRs⟩) hS (fun q _ h => hF q h) hF (fun r4301 x4300 t H locs ht hvm hw hB hz1 hk1 hS => ?_)
  have hW := Wd.back hB ht hF
  clear hB ht hF hz1 hk1 hvm
  refine lv_istore_n (lv' := [(1, .int r4301), (0, .ref (ad o))]) hx hb d_Qry_readItem_4 rfl hl (by decide) rfl (fun ls hl => ?_)
  refine lv_iconst (v := (-1)) hx hb d_Qry_readItem_5 (by decide) ?_
  refine lv_istore_n (lv' := [(2, .int (-1)), (1, .int r4301), (0, .ref (ad o))]) hx hb d_Qry_readItem_6 rfl hl (by decide) rfl (fun ls hl => ?_)
  refine lv_iload_n hx hb d_Qry_readItem_7 rfl (lv_at hl 1 rfl) ?_
  refine lv_if_ne (tgt := 19) hx hb d_Qry_readItem_8 (by decide) (fun c4302 => ?_) (fun c4302 => ?_)
  · have hw := hw.1 c4302
    refine lv_aload_n hx hb d_Qry_readItem_19 rfl (lv_at hl 2 rfl) ?_
    refine lv_iconst (v := 1) hx hb d_Qry_readItem_20 (by decide) ?_
    refine w_puti (ty := .boolean) (k := 7) (t := 9) (C := R_Qry) (T := F_Qry) (N := 20) hx hb hT hown hK hW hS fo.1 fo.2 (by decide) in_Qry t_Qry t_Qry_ok n_Qry rfl rfl (by decide) rfl fr_Qry_7 w_3_87 (by decide +kernel) rfl rfl d_Qry_readItem_21 (fun H locs hW hS => ?_)
    obtain ⟨x4303, ex4303⟩ : ∃ y : St, y = setI x4300 o 7 1 := ⟨_, rfl⟩
    rw [← ex4303] at hW
    have hw := hw x4303 ex4303
    refine lv_iload_n hx hb d_Qry_readItem_24 rfl (lv_at hl 1 rfl) ?_
    refine lv_iconst (v := 2) hx hb d_Qry_readItem_25 (by decide) ?_
    refine lv_icmp_ne (tgt := 46) hx hb d_Qry_readItem_26 (by decide) (fun c4304 => ?_) (fun c4304 => ?_)
    · have hw := hw.1 c4304
      exact t_Qry_readItem_46 hx hb hml hown hT hK hN hA hRc hRs hRf hRl hNN hE hret  o r4301 (-1) x4303 H locs ls fo hw hW hS (lv_sub hl [2, 1, 0] rfl)
    · have hw := hw.2 c4304
      refine lv_aload_n hx hb d_Qry_readItem_29 rfl (lv_at hl 2 rfl) ?_
      obtain ⟨q4305, hq4305, hw⟩ := hw
      refine w_getr (q := q4305) (k := 17) (t := 9) (C := R_Qry) (T := F_Qry) (N := 20) hx hb hT hown hK hW fo.1 fo.2 (by decide) in_Qry rfl rfl (by decide) rfl fr_Qry_17 w_3_105 d_Qry_readItem_30 hq4305 (fun aq4305 bq4305 => ?_)
      have fq4305 : q4305 < NN ∧ kcC q4305 = 2 := ⟨aq4305, bq4305⟩
      have hF := hW.free hS hA
      refine va_calli (va_runV (C := R_Scn) (As := []) (rest := []) ⟨hx, hb, hml, hown, hT⟩ (k_Scn_next l dC dI cI cB cJ cZ ad NN E tM tC kK kV hNN H.size q4305 x4303 fq4305 hw) ⟨callB_of 0 hT (gw_in w_4_110) rfl rfl rfl (hT _ w_1_4) (hT _ w_7_148) (by decide +kernel) ⟨Nat.le_trans (by decide) hRf, Nat.le_trans (by decide) hRl⟩, hT _ w_4_108, hT _ w_4_109⟩ ⟨PV.blind, va_recv hK hW.1 (ci := 2) (q0 := q4305) rfl (pic_obj fq4305.1 fq4305.2 (by decide)), PV.at _ hW hK hN hE hS hF⟩ rfl rfl hl.1 rfl (lv_room (Nat.le_of_ble_eq_true rfl)) d_Qry_readItem_33 ⟨hRc, hRs⟩) hS (fun q _ h => hF q h) hF (fun r4307 x4306 t H locs ht hvm hw hB hz1 hk1 hS => ?_)
      have hW := Wd.back hB ht hF
      clear hB ht hF hz1 hk1 hvm
      refine lv_bipush (v := 40) hx hb d_Qry_readItem_36 (by decide) ?_
      refine lv_icmp_eq (tgt := 46) hx hb d_Qry_readItem_38 (by decide) (fun c4308 => ?_) (fun c4308 => ?_)
      · have hw := hw.1 c4308
        exact t_Qry_readItem_46 hx hb hml hown hT hK hN hA hRc hRs hRf hRl hNN hE hret  o r4301 (-1) x4306 H locs ls fo hw hW hS (lv_sub hl [2, 1, 0] rfl)
      · have hw := hw.2 c4308
        refine lv_iconst (v := 1) hx hb d_Qry_readItem_41 (by decide) ?_
        refine lv_istore_n (lv' := [(1, .int 1), (2, .int (-1)), (0, .ref (ad o))]) hx hb d_Qry_readItem_42 rfl hl (by decide) rfl (fun ls hl => ?_)
        refine lv_goto (tgt := 110) hx hb d_Qry_readItem_43 (by decide) ?_
        exact t_Qry_readItem_110 hx hb hml hown hT hK hN hA hRc hRs hRf hRl hNN hE hret  o 1 (-1) x4306 H locs ls fo hw hW hS (lv_sub hl [2, 0, 1] rfl)
  · have hw := hw.2 c4302
    refine lv_aload_n hx hb d_Qry_readItem_11 rfl (lv_at hl 2 rfl) ?_
    have hF := hW.free hS hA
    refine va_calli (va_runV (C := R_Qry) (As := []) (rest := []) ⟨hx, hb, hml, hown, hT⟩ (k_Qry_readPath l dC dI cI cB cJ cZ ad NN E tM tC kK kV hNN H.size o x4300 fo hw) ⟨callB_of 0 hT (gw_in w_7_166) rfl rfl rfl (hT _ w_1_12) (hT _ w_7_163) (by decide +kernel) ⟨Nat.le_trans (by decide) hRf, Nat.le_trans (by decide) hRl⟩, hT _ w_7_165, hT _ ws_71⟩ ⟨PV.blind, va_recv hK hW.1 (ci := 9) (q0 := o) rfl (pic_obj fo.1 fo.2 (by decide)), PV.at _ hW hK hN hE hS hF⟩ rfl rfl hl.1 rfl (lv_room (Nat.le_of_ble_eq_true rfl)) d_Qry_readItem_12 ⟨hRc, hRs⟩) hS (fun q _ h => hF q h) hF (fun r4310 x4309 t H locs ht hvm hw hB hz1 hk1 hS => ?_)
    have hW := Wd.back hB ht hF
    clear hB ht hF hz1 hk1 hvm
    refine lv_istore_n (lv' := [(2, .int r4310), (1, .int r4301), (0, .ref (ad o))]) hx hb d_Qry_readItem_15 rfl hl (by decide) rfl (fun ls hl => ?_)
    refine lv_goto (tgt := 110) hx hb d_Qry_readItem_16 (by decide) ?_
    exact t_Qry_readItem_110 hx hb hml hown hT hK hN hA hRc hRs hRf hRl hNN hE hret  o r4301 r4310 x4309 H locs ls fo hw hW hS (lv_sub hl [2, 1, 0] rfl)
set_option maxHeartbeats 4000000 in
set_option maxRecDepth 100000 in
theorem k_Qry_readItem (l : Launch) (dC : Nat → ClassId) (dI : Nat → Nat → Nat) (cI cB cJ cZ : ClassId) (ad : Nat → Nat) (NN : Nat) (E : Heap) (tM tC : Nat) (kK kV : Nat → Nat) (hNN : 152 ≤ NN) (sz : Nat) (o : Nat) (x : St) (fo : o < NN ∧ kcC o = 9) {post : St → Prop} (hw : wp_Qry_readItem post o x) : Met l y_Qry_readItem (wsOf y_Qry_readItem b_Qry_readItem 3 (none)) ({ frames := 8, cells := 0, slots := 0, locals := 287 }) (va_Pc [.ref (ad o)] (PV dC dI cI cB cJ cZ ad stC kcC NN E tM tC kK kV sz x)) (va_Qv (fun (y : St) => post y) (fun y t => Wd dC dI cI cB cJ cZ ad stC kcC NN (va_A (pic ad stC kcC NN cI cB cJ cZ x) sz) y t.heap) (va_A (pic ad stC kcC NN cI cB cJ cZ x) sz)) 0 0 (va_A (pic ad stC kcC NN cI cB cJ cZ x) sz) := by
  refine Met.ofW (cc := b_Qry_readItem) (maxL := 3) (ret := none) (by decide) rfl ?_
  intro p e s m args below meth c s₁ B hml hv
  obtain ⟨rfl, ⟨hsz, hW0, hK, hN⟩, hE⟩ := hv
  have hx := B.exec
  have hb := B.bytes
  have hr := B.returns
  have hts := atoms_spec B.pre
  have hT : ∀ w ∈ TG, w.before _ s = true := fun w h => hts w (List.mem_cons_of_mem _ h)
  have hown : s.vm.findClass R_Qry = some m.cls := findClass_of_methodNamed B.named
  have hlocks := B.notSynchronized
  subst hsz
  have hW : Wd dC dI cI cB cJ cZ ad stC kcC NN (va_A (pic ad stC kcC NN cI cB cJ cZ x) s.heap.size) x s.heap := ⟨hW0.1, hW0.2.1.self (sz := s.heap.size), hW0.2.2⟩
  generalize hAe : va_A (pic ad stC kcC NN cI cB cJ cZ x) s.heap.size = A at hW hE ⊢
  have hA : ∀ q : Nat, s.heap.size ≤ q → A q := fun q h => by rw [← hAe]; exact Or.inr h
  have hS : va_S A s.heap s.heap [] := va_S.rf
  have hl := lv_entry ([.ref (ad o)]) (n := 3) (Nat.le_of_ble_eq_true rfl)
  rw [lg_entry_eq]
  generalize (lg_sl ([.ref (ad o)]) ++ List.replicate (3 - (lg_sl ([.ref (ad o)])).length) Slot.unset).toArray = ls at hl ⊢
  have hl : lv_has ls 3 [(0, .ref (ad o))] := hl
  exact t_Qry_readItem_e hx hb hml hown hT hK hN hA (Nat.le_refl 0) (Nat.le_refl 0) (Nat.le_refl 8) (Nat.le_refl 287) hNN hE (fun x H locs pc ls hd hp hW hS => W.vret hx hb hr (fun t ht hM => ⟨⟨x, rfl, hp, Wd.back hW ht.symm (fun _ z => z)⟩, hS.F ht⟩) hS.2.2 hd hlocks)  o x _ _ ls fo hw hW hS hl
end
