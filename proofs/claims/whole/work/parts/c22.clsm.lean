theorem fr_Qry_1 : F_Qry 1 = (R_Qry, "items", "I", false) := rfl
theorem fr_Qry_18 : F_Qry 18 = (R_Qry, "schema", "LStripedVault$Schema;", false) := rfl
theorem fr_Qry_19 : F_Qry 19 = (R_Qry, "pathAt", "I", false) := rfl
theorem fr_Qry_7 : F_Qry 7 = (R_Qry, "collects", "Z", false) := rfl
theorem w_1_149 : (Jvm.Cond.fieldLink "StripedVault$Query" (146 : Nat) "StripedVault$Schema" "type" "[I") ∈ TG := tw_1 149 (by decide +kernel) (by decide +kernel)
theorem w_1_79 : (Jvm.Cond.fieldLink "StripedVault$Query" (183 : Nat) "StripedVault$Scan" "bytes" "[B") ∈ TG := tw_1 79 (by decide +kernel) (by decide +kernel)
theorem w_1_82 : (Jvm.Cond.fieldLink "StripedVault$Query" (165 : Nat) "StripedVault$Scan" "count" "I") ∈ TG := tw_1 82 (by decide +kernel) (by decide +kernel)
theorem w_1_86 : (Jvm.Cond.fieldLink "StripedVault$Query" (110 : Nat) "StripedVault$Scan" "pos" "I") ∈ TG := tw_1 86 (by decide +kernel) (by decide +kernel)
theorem w_1_95 : (Jvm.Cond.fieldLink "StripedVault$Query" (180 : Nat) "StripedVault$Scan" "wordAt" "I") ∈ TG := tw_1 95 (by decide +kernel) (by decide +kernel)
theorem w_1_99 : (Jvm.Cond.fieldLink "StripedVault$Query" (186 : Nat) "StripedVault$Scan" "wordSize" "I") ∈ TG := tw_1 99 (by decide +kernel) (by decide +kernel)
theorem w_3_106 : (Jvm.Cond.fieldLink "StripedVault$Query" (48 : Nat) "StripedVault$Query" "schema" "LStripedVault$Schema;") ∈ TG := tw_3 106 (by decide +kernel) (by decide +kernel)
theorem w_3_107 : (Jvm.Cond.fieldLink "StripedVault$Query" (154 : Nat) "StripedVault$Query" "pathAt" "I") ∈ TG := tw_3 107 (by decide +kernel) (by decide +kernel)
theorem w_3_76 : (Jvm.Cond.fieldLink "StripedVault$Query" (56 : Nat) "StripedVault$Query" "items" "I") ∈ TG := tw_3 76 (by decide +kernel) (by decide +kernel)
theorem w_3_87 : (Jvm.Cond.fieldLink "StripedVault$Query" (63 : Nat) "StripedVault$Query" "collects" "Z") ∈ TG := tw_3 87 (by decide +kernel) (by decide +kernel)
theorem w_7_147 : (Jvm.Cond.methodLink "StripedVault$Query" (86 : Nat) ({ cls := "StripedVault$Scan", name := "good", desc := "()Z" } : Jvm.MethodName)) ∈ TG := tw_7 147 (by decide +kernel) (by decide +kernel)
theorem w_7_148 : (Jvm.Cond.methodLink "StripedVault$Query" (106 : Nat) ({ cls := "StripedVault$Scan", name := "next", desc := "()I" } : Jvm.MethodName)) ∈ TG := tw_7 148 (by decide +kernel) (by decide +kernel)
theorem w_7_149 : (Jvm.Cond.methodLink "StripedVault$Query" (113 : Nat) ({ cls := "StripedVault$Scan", name := "refuse", desc := "(I)V" } : Jvm.MethodName)) ∈ TG := tw_7 149 (by decide +kernel) (by decide +kernel)
theorem w_7_154 : (Jvm.Cond.methodLink "StripedVault$Query" (133 : Nat) ({ cls := "StripedVault$Query", name := "readItemForm", desc := "()I" } : Jvm.MethodName)) ∈ TG := tw_7 154 (by decide +kernel) (by decide +kernel)
theorem w_7_156 : (Jvm.Cond.instanceMethod ({ cls := "StripedVault$Query", name := "readItemForm", desc := "()I" } : Jvm.MethodName)) ∈ TG := tw_7 156 (by decide +kernel) (by decide +kernel)
theorem w_7_157 : (Jvm.Cond.code ({ cls := "StripedVault$Query", name := "readItemForm", desc := "()I" } : Jvm.MethodName) prog_5_method_7_code (1 : Nat) (Option.some Jvm.ClassFile.FieldType.int)) ∈ TG := tw_7 157 (by decide +kernel) (by decide +kernel)
theorem w_7_163 : (Jvm.Cond.methodLink "StripedVault$Query" (136 : Nat) ({ cls := "StripedVault$Query", name := "readPath", desc := "()I" } : Jvm.MethodName)) ∈ TG := tw_7 163 (by decide +kernel) (by decide +kernel)
theorem w_7_165 : (Jvm.Cond.instanceMethod ({ cls := "StripedVault$Query", name := "readPath", desc := "()I" } : Jvm.MethodName)) ∈ TG := tw_7 165 (by decide +kernel) (by decide +kernel)
theorem w_7_166 : (Jvm.Cond.code ({ cls := "StripedVault$Query", name := "readPath", desc := "()I" } : Jvm.MethodName) prog_5_method_10_code (5 : Nat) (Option.some Jvm.ClassFile.FieldType.int)) ∈ TG := tw_7 166 (by decide +kernel) (by decide +kernel)
theorem w_7_167 : (Jvm.Cond.methodLink "StripedVault$Query" (167 : Nat) ({ cls := "StripedVault$Scan", name := "byteAt", desc := "(I)I" } : Jvm.MethodName)) ∈ TG := tw_7 167 (by decide +kernel) (by decide +kernel)
theorem w_7_169 : (Jvm.Cond.methodLink "StripedVault$Query" (174 : Nat) ({ cls := "StripedVault$Scan", name := "takeAnyWord", desc := "()Z" } : Jvm.MethodName)) ∈ TG := tw_7 169 (by decide +kernel) (by decide +kernel)
theorem w_7_170 : (Jvm.Cond.methodLink "StripedVault$Query" (177 : Nat) ({ cls := "StripedVault$Query", name := "isOwnWord", desc := "()Z" } : Jvm.MethodName)) ∈ TG := tw_7 170 (by decide +kernel) (by decide +kernel)
theorem w_7_172 : (Jvm.Cond.instanceMethod ({ cls := "StripedVault$Query", name := "isOwnWord", desc := "()Z" } : Jvm.MethodName)) ∈ TG := tw_7 172 (by decide +kernel) (by decide +kernel)
theorem w_7_173 : (Jvm.Cond.code ({ cls := "StripedVault$Query", name := "isOwnWord", desc := "()Z" } : Jvm.MethodName) prog_5_method_11_code (1 : Nat) (Option.some Jvm.ClassFile.FieldType.boolean)) ∈ TG := tw_7 173 (by decide +kernel) (by decide +kernel)
theorem w_7_186 : (Jvm.Cond.methodLink "StripedVault$Query" (189 : Nat) ({ cls := "StripedVault$Schema", name := "find", desc := "(I[BII)I" } : Jvm.MethodName)) ∈ TG := tw_7 186 (by decide +kernel) (by decide +kernel)
theorem w_7_187 : (Jvm.Cond.methodLink "StripedVault$Query" (139 : Nat) ({ cls := "StripedVault$Scan", name := "needSign", desc := "(C)V" } : Jvm.MethodName)) ∈ TG := tw_7 187 (by decide +kernel) (by decide +kernel)
theorem w_7_188 : (Jvm.Cond.methodLink "StripedVault$Query" (143 : Nat) ({ cls := "StripedVault$Query", name := "readColumn", desc := "()I" } : Jvm.MethodName)) ∈ TG := tw_7 188 (by decide +kernel) (by decide +kernel)
theorem w_7_190 : (Jvm.Cond.instanceMethod ({ cls := "StripedVault$Query", name := "readColumn", desc := "()I" } : Jvm.MethodName)) ∈ TG := tw_7 190 (by decide +kernel) (by decide +kernel)
theorem w_7_191 : (Jvm.Cond.code ({ cls := "StripedVault$Query", name := "readColumn", desc := "()I" } : Jvm.MethodName) prog_5_method_12_code (2 : Nat) (Option.some Jvm.ClassFile.FieldType.int)) ∈ TG := tw_7 191 (by decide +kernel) (by decide +kernel)
theorem w_7_192 : (Jvm.Cond.methodLink "StripedVault$Query" (212 : Nat) ({ cls := "StripedVault$Schema", name := "isFlatColumn", desc := "(I)Z" } : Jvm.MethodName)) ∈ TG := tw_7 192 (by decide +kernel) (by decide +kernel)
theorem w_7_193 : (Jvm.Cond.instanceMethod ({ cls := "StripedVault$Schema", name := "isFlatColumn", desc := "(I)Z" } : Jvm.MethodName)) ∈ TG := tw_7 193 (by decide +kernel) (by decide +kernel)
theorem w_7_194 : (Jvm.Cond.selects "StripedVault$Schema" ({ cls := "StripedVault$Schema", name := "isFlatColumn", desc := "(I)Z" } : Jvm.MethodName) ({ cls := "StripedVault$Schema", name := "isFlatColumn", desc := "(I)Z" } : Jvm.MethodName)) ∈ TG := tw_7 194 (by decide +kernel) (by decide +kernel)
theorem w_7_195 : (Jvm.Cond.code ({ cls := "StripedVault$Schema", name := "isFlatColumn", desc := "(I)Z" } : Jvm.MethodName) prog_8_method_9_code (2 : Nat) (Option.some Jvm.ClassFile.FieldType.boolean)) ∈ TG := tw_7 195 (by decide +kernel) (by decide +kernel)
theorem w_7_196 : (Jvm.Cond.methodLink "StripedVault$Query" (151 : Nat) ({ cls := "StripedVault$Query", name := "isNumber", desc := "(I)Z" } : Jvm.MethodName)) ∈ TG := tw_7 196 (by decide +kernel) (by decide +kernel)
theorem w_7_197 : (Jvm.Cond.static ({ cls := "StripedVault$Query", name := "isNumber", desc := "(I)Z" } : Jvm.MethodName)) ∈ TG := tw_7 197 (by decide +kernel) (by decide +kernel)
theorem w_7_198 : (Jvm.Cond.code ({ cls := "StripedVault$Query", name := "isNumber", desc := "(I)Z" } : Jvm.MethodName) prog_5_method_8_code (1 : Nat) (Option.some Jvm.ClassFile.FieldType.boolean)) ∈ TG := tw_7 198 (by decide +kernel) (by decide +kernel)
theorem wn_7_168 : (Jvm.Cond.methodLinkNest "StripedVault$Query" (171 : Nat) ({ cls := "StripedVault", name := "isLetter", desc := "(I)Z" } : Jvm.MethodName) "StripedVault") ∈ lw_tbl := tb_7 _ (List.mem_of_getElem? (i := 168) (by decide +kernel))
theorem ws_70 : Cond.selects R_Qry y_Qry_readItemForm y_Qry_readItemForm ∈ TG := tw_s 70 (by decide +kernel) (by decide +kernel)
theorem ws_71 : Cond.selects R_Qry y_Qry_readPath y_Qry_readPath ∈ TG := tw_s 71 (by decide +kernel) (by decide +kernel)
theorem ws_72 : Cond.selects R_Qry y_Qry_isOwnWord y_Qry_isOwnWord ∈ TG := tw_s 72 (by decide +kernel) (by decide +kernel)
theorem ws_73 : Cond.selects R_Qry y_Qry_readColumn y_Qry_readColumn ∈ TG := tw_s 73 (by decide +kernel) (by decide +kernel)
theorem d_Qry_readPath_242 : decode b_Qry_readPath 242 = .ok (.iload_n 1, 1) := by decide +kernel
theorem d_Qry_readPath_243 : decode b_Qry_readPath 243 = .ok (.ireturn, 1) := by decide +kernel
theorem d_Qry_readPath_226 : decode b_Qry_readPath 226 = .ok (.iload_n 1, 1) := by decide +kernel
theorem d_Qry_readPath_227 : decode b_Qry_readPath 227 = .ok (.iconst (-1), 1) := by decide +kernel
theorem d_Qry_readPath_228 : decode b_Qry_readPath 228 = .ok (.if_icmp .ne 14, 3) := by decide +kernel
theorem d_Qry_readPath_231 : decode b_Qry_readPath 231 = .ok (.aload_n 0, 1) := by decide +kernel
theorem d_Qry_readPath_232 : decode b_Qry_readPath 232 = .ok (.getfield 44, 3) := by decide +kernel
theorem d_Qry_readPath_235 : decode b_Qry_readPath 235 = .ok (.aload_n 0, 1) := by decide +kernel
theorem d_Qry_readPath_236 : decode b_Qry_readPath 236 = .ok (.getfield 154, 3) := by decide +kernel
theorem d_Qry_readPath_239 : decode b_Qry_readPath 239 = .ok (.invokevirtual 113, 3) := by decide +kernel
theorem d_Qry_readPath_216 : decode b_Qry_readPath 216 = .ok (.iadd, 1) := by decide +kernel
theorem d_Qry_readPath_217 : decode b_Qry_readPath 217 = .ok (.putfield 110, 3) := by decide +kernel
theorem d_Qry_readPath_220 : decode b_Qry_readPath 220 = .ok (.iinc 3 1, 3) := by decide +kernel
theorem d_Qry_readPath_223 : decode b_Qry_readPath 223 = .ok (.goto (-186), 3) := by decide +kernel
theorem d_Qry_readPath_198 : decode b_Qry_readPath 198 = .ok (.istore_n 2, 1) := by decide +kernel
theorem d_Qry_readPath_199 : decode b_Qry_readPath 199 = .ok (.aload_n 0, 1) := by decide +kernel
theorem d_Qry_readPath_200 : decode b_Qry_readPath 200 = .ok (.getfield 44, 3) := by decide +kernel
theorem d_Qry_readPath_203 : decode b_Qry_readPath 203 = .ok (.dup, 1) := by decide +kernel
theorem d_Qry_readPath_204 : decode b_Qry_readPath 204 = .ok (.getfield 110, 3) := by decide +kernel
theorem d_Qry_readPath_207 : decode b_Qry_readPath 207 = .ok (.iload_n 2, 1) := by decide +kernel
theorem d_Qry_readPath_208 : decode b_Qry_readPath 208 = .ok (.ifCond .eq 7, 3) := by decide +kernel
theorem d_Qry_readPath_215 : decode b_Qry_readPath 215 = .ok (.iconst 0, 1) := by decide +kernel
theorem d_Qry_readPath_211 : decode b_Qry_readPath 211 = .ok (.iconst 1, 1) := by decide +kernel
theorem d_Qry_readPath_212 : decode b_Qry_readPath 212 = .ok (.goto 4, 3) := by decide +kernel
theorem d_Qry_readPath_173 : decode b_Qry_readPath 173 = .ok (.istore_n 1, 1) := by decide +kernel
theorem d_Qry_readPath_174 : decode b_Qry_readPath 174 = .ok (.aload_n 0, 1) := by decide +kernel
theorem d_Qry_readPath_175 : decode b_Qry_readPath 175 = .ok (.getfield 44, 3) := by decide +kernel
theorem d_Qry_readPath_178 : decode b_Qry_readPath 178 = .ok (.aload_n 0, 1) := by decide +kernel
theorem d_Qry_readPath_179 : decode b_Qry_readPath 179 = .ok (.getfield 44, 3) := by decide +kernel
theorem d_Qry_readPath_182 : decode b_Qry_readPath 182 = .ok (.getfield 110, 3) := by decide +kernel
theorem d_Qry_readPath_185 : decode b_Qry_readPath 185 = .ok (.invokevirtual 167, 3) := by decide +kernel
theorem d_Qry_readPath_188 : decode b_Qry_readPath 188 = .ok (.bipush 46, 2) := by decide +kernel
theorem d_Qry_readPath_190 : decode b_Qry_readPath 190 = .ok (.if_icmp .ne 7, 3) := by decide +kernel
theorem d_Qry_readPath_197 : decode b_Qry_readPath 197 = .ok (.iconst 0, 1) := by decide +kernel
theorem d_Qry_readPath_193 : decode b_Qry_readPath 193 = .ok (.iconst 1, 1) := by decide +kernel
theorem d_Qry_readPath_194 : decode b_Qry_readPath 194 = .ok (.goto 4, 3) := by decide +kernel
theorem d_Qry_readPath_133 : decode b_Qry_readPath 133 = .ok (.istore 4, 2) := by decide +kernel
theorem d_Qry_readPath_135 : decode b_Qry_readPath 135 = .ok (.iload 4, 2) := by decide +kernel
theorem d_Qry_readPath_137 : decode b_Qry_readPath 137 = .ok (.ifCond .eq 7, 3) := by decide +kernel
theorem d_Qry_readPath_144 : decode b_Qry_readPath 144 = .ok (.aload_n 0, 1) := by decide +kernel
theorem d_Qry_readPath_145 : decode b_Qry_readPath 145 = .ok (.getfield 48, 3) := by decide +kernel
theorem d_Qry_readPath_148 : decode b_Qry_readPath 148 = .ok (.iload_n 1, 1) := by decide +kernel
theorem d_Qry_readPath_149 : decode b_Qry_readPath 149 = .ok (.aload_n 0, 1) := by decide +kernel
theorem d_Qry_readPath_150 : decode b_Qry_readPath 150 = .ok (.getfield 44, 3) := by decide +kernel
theorem d_Qry_readPath_153 : decode b_Qry_readPath 153 = .ok (.getfield 183, 3) := by decide +kernel
theorem d_Qry_readPath_156 : decode b_Qry_readPath 156 = .ok (.aload_n 0, 1) := by decide +kernel
theorem d_Qry_readPath_157 : decode b_Qry_readPath 157 = .ok (.getfield 44, 3) := by decide +kernel
theorem d_Qry_readPath_160 : decode b_Qry_readPath 160 = .ok (.getfield 180, 3) := by decide +kernel
theorem d_Qry_readPath_163 : decode b_Qry_readPath 163 = .ok (.aload_n 0, 1) := by decide +kernel
theorem d_Qry_readPath_164 : decode b_Qry_readPath 164 = .ok (.getfield 44, 3) := by decide +kernel
theorem d_Qry_readPath_167 : decode b_Qry_readPath 167 = .ok (.getfield 186, 3) := by decide +kernel
theorem d_Qry_readPath_170 : decode b_Qry_readPath 170 = .ok (.invokevirtual 189, 3) := by decide +kernel
theorem d_Qry_readPath_140 : decode b_Qry_readPath 140 = .ok (.iconst (-1), 1) := by decide +kernel
theorem d_Qry_readPath_141 : decode b_Qry_readPath 141 = .ok (.goto 32, 3) := by decide +kernel
theorem d_Qry_readPath_132 : decode b_Qry_readPath 132 = .ok (.iconst 0, 1) := by decide +kernel
theorem d_Qry_readPath_37 : decode b_Qry_readPath 37 = .ok (.iload_n 3, 1) := by decide +kernel
theorem d_Qry_readPath_38 : decode b_Qry_readPath 38 = .ok (.aload_n 0, 1) := by decide +kernel
theorem d_Qry_readPath_39 : decode b_Qry_readPath 39 = .ok (.getfield 44, 3) := by decide +kernel
theorem d_Qry_readPath_42 : decode b_Qry_readPath 42 = .ok (.getfield 165, 3) := by decide +kernel
theorem d_Qry_readPath_45 : decode b_Qry_readPath 45 = .ok (.if_icmp .gt 181, 3) := by decide +kernel
theorem d_Qry_readPath_48 : decode b_Qry_readPath 48 = .ok (.iload_n 2, 1) := by decide +kernel
theorem d_Qry_readPath_49 : decode b_Qry_readPath 49 = .ok (.ifCond .eq 177, 3) := by decide +kernel
theorem d_Qry_readPath_52 : decode b_Qry_readPath 52 = .ok (.aload_n 0, 1) := by decide +kernel
theorem d_Qry_readPath_53 : decode b_Qry_readPath 53 = .ok (.getfield 44, 3) := by decide +kernel
theorem d_Qry_readPath_56 : decode b_Qry_readPath 56 = .ok (.aload_n 0, 1) := by decide +kernel
theorem d_Qry_readPath_57 : decode b_Qry_readPath 57 = .ok (.getfield 44, 3) := by decide +kernel
theorem d_Qry_readPath_60 : decode b_Qry_readPath 60 = .ok (.getfield 110, 3) := by decide +kernel
theorem d_Qry_readPath_63 : decode b_Qry_readPath 63 = .ok (.invokevirtual 167, 3) := by decide +kernel
theorem d_Qry_readPath_66 : decode b_Qry_readPath 66 = .ok (.invokestatic 171, 3) := by decide +kernel
theorem d_Qry_readPath_69 : decode b_Qry_readPath 69 = .ok (.ifCond .ne 19, 3) := by decide +kernel
theorem d_Qry_readPath_88 : decode b_Qry_readPath 88 = .ok (.aload_n 0, 1) := by decide +kernel
theorem d_Qry_readPath_89 : decode b_Qry_readPath 89 = .ok (.getfield 44, 3) := by decide +kernel
theorem d_Qry_readPath_92 : decode b_Qry_readPath 92 = .ok (.invokevirtual 174, 3) := by decide +kernel
theorem d_Qry_readPath_95 : decode b_Qry_readPath 95 = .ok (.pop, 1) := by decide +kernel
theorem d_Qry_readPath_96 : decode b_Qry_readPath 96 = .ok (.aload_n 0, 1) := by decide +kernel
theorem d_Qry_readPath_97 : decode b_Qry_readPath 97 = .ok (.invokevirtual 177, 3) := by decide +kernel
theorem d_Qry_readPath_100 : decode b_Qry_readPath 100 = .ok (.ifCond .eq 19, 3) := by decide +kernel
theorem d_Qry_readPath_119 : decode b_Qry_readPath 119 = .ok (.iload_n 3, 1) := by decide +kernel
theorem d_Qry_readPath_120 : decode b_Qry_readPath 120 = .ok (.ifCond .le 12, 3) := by decide +kernel
theorem d_Qry_readPath_123 : decode b_Qry_readPath 123 = .ok (.iload_n 1, 1) := by decide +kernel
theorem d_Qry_readPath_124 : decode b_Qry_readPath 124 = .ok (.iconst (-1), 1) := by decide +kernel
theorem d_Qry_readPath_125 : decode b_Qry_readPath 125 = .ok (.if_icmp .ne 7, 3) := by decide +kernel
theorem d_Qry_readPath_128 : decode b_Qry_readPath 128 = .ok (.iconst 1, 1) := by decide +kernel
theorem d_Qry_readPath_129 : decode b_Qry_readPath 129 = .ok (.goto 4, 3) := by decide +kernel
theorem d_Qry_readPath_103 : decode b_Qry_readPath 103 = .ok (.aload_n 0, 1) := by decide +kernel
theorem d_Qry_readPath_104 : decode b_Qry_readPath 104 = .ok (.getfield 44, 3) := by decide +kernel
theorem d_Qry_readPath_107 : decode b_Qry_readPath 107 = .ok (.aload_n 0, 1) := by decide +kernel
theorem d_Qry_readPath_108 : decode b_Qry_readPath 108 = .ok (.getfield 44, 3) := by decide +kernel
theorem d_Qry_readPath_111 : decode b_Qry_readPath 111 = .ok (.getfield 180, 3) := by decide +kernel
theorem d_Qry_readPath_114 : decode b_Qry_readPath 114 = .ok (.invokevirtual 113, 3) := by decide +kernel
theorem d_Qry_readPath_117 : decode b_Qry_readPath 117 = .ok (.iconst (-1), 1) := by decide +kernel
theorem d_Qry_readPath_118 : decode b_Qry_readPath 118 = .ok (.ireturn, 1) := by decide +kernel
theorem d_Qry_readPath_72 : decode b_Qry_readPath 72 = .ok (.aload_n 0, 1) := by decide +kernel
theorem d_Qry_readPath_73 : decode b_Qry_readPath 73 = .ok (.getfield 44, 3) := by decide +kernel
theorem d_Qry_readPath_76 : decode b_Qry_readPath 76 = .ok (.aload_n 0, 1) := by decide +kernel
theorem d_Qry_readPath_77 : decode b_Qry_readPath 77 = .ok (.getfield 44, 3) := by decide +kernel
theorem d_Qry_readPath_80 : decode b_Qry_readPath 80 = .ok (.getfield 110, 3) := by decide +kernel
theorem d_Qry_readPath_83 : decode b_Qry_readPath 83 = .ok (.invokevirtual 113, 3) := by decide +kernel
theorem d_Qry_readPath_86 : decode b_Qry_readPath 86 = .ok (.iconst (-1), 1) := by decide +kernel
theorem d_Qry_readPath_87 : decode b_Qry_readPath 87 = .ok (.ireturn, 1) := by decide +kernel
theorem d_Qry_readPath_0 : decode b_Qry_readPath 0 = .ok (.aload_n 0, 1) := by decide +kernel
theorem d_Qry_readPath_1 : decode b_Qry_readPath 1 = .ok (.getfield 44, 3) := by decide +kernel
theorem d_Qry_readPath_4 : decode b_Qry_readPath 4 = .ok (.invokevirtual 86, 3) := by decide +kernel
theorem d_Qry_readPath_7 : decode b_Qry_readPath 7 = .ok (.ifCond .ne 5, 3) := by decide +kernel
theorem d_Qry_readPath_12 : decode b_Qry_readPath 12 = .ok (.aload_n 0, 1) := by decide +kernel
theorem d_Qry_readPath_13 : decode b_Qry_readPath 13 = .ok (.getfield 44, 3) := by decide +kernel
theorem d_Qry_readPath_16 : decode b_Qry_readPath 16 = .ok (.invokevirtual 106, 3) := by decide +kernel
theorem d_Qry_readPath_19 : decode b_Qry_readPath 19 = .ok (.pop, 1) := by decide +kernel
theorem d_Qry_readPath_20 : decode b_Qry_readPath 20 = .ok (.aload_n 0, 1) := by decide +kernel
theorem d_Qry_readPath_21 : decode b_Qry_readPath 21 = .ok (.aload_n 0, 1) := by decide +kernel
theorem d_Qry_readPath_22 : decode b_Qry_readPath 22 = .ok (.getfield 44, 3) := by decide +kernel
theorem d_Qry_readPath_25 : decode b_Qry_readPath 25 = .ok (.getfield 110, 3) := by decide +kernel
theorem d_Qry_readPath_28 : decode b_Qry_readPath 28 = .ok (.putfield 154, 3) := by decide +kernel
theorem d_Qry_readPath_31 : decode b_Qry_readPath 31 = .ok (.iconst (-1), 1) := by decide +kernel
theorem d_Qry_readPath_32 : decode b_Qry_readPath 32 = .ok (.istore_n 1, 1) := by decide +kernel
theorem d_Qry_readPath_33 : decode b_Qry_readPath 33 = .ok (.iconst 1, 1) := by decide +kernel
theorem d_Qry_readPath_34 : decode b_Qry_readPath 34 = .ok (.istore_n 2, 1) := by decide +kernel
theorem d_Qry_readPath_35 : decode b_Qry_readPath 35 = .ok (.iconst 0, 1) := by decide +kernel
theorem d_Qry_readPath_36 : decode b_Qry_readPath 36 = .ok (.istore_n 3, 1) := by decide +kernel
theorem d_Qry_readPath_10 : decode b_Qry_readPath 10 = .ok (.iconst (-1), 1) := by decide +kernel
theorem d_Qry_readPath_11 : decode b_Qry_readPath 11 = .ok (.ireturn, 1) := by decide +kernel
theorem d_Sch_isFlatColumn_23 : decode b_Sch_isFlatColumn 23 = .ok (.iconst 0, 1) := by decide +kernel
theorem d_Sch_isFlatColumn_24 : decode b_Sch_isFlatColumn 24 = .ok (.ireturn, 1) := by decide +kernel
theorem d_Sch_isFlatColumn_0 : decode b_Sch_isFlatColumn 0 = .ok (.aload_n 0, 1) := by decide +kernel
theorem d_Sch_isFlatColumn_1 : decode b_Sch_isFlatColumn 1 = .ok (.getfield 21, 3) := by decide +kernel
theorem d_Sch_isFlatColumn_4 : decode b_Sch_isFlatColumn 4 = .ok (.iload_n 1, 1) := by decide +kernel
theorem d_Sch_isFlatColumn_5 : decode b_Sch_isFlatColumn 5 = .ok (.iaload, 1) := by decide +kernel
theorem d_Sch_isFlatColumn_6 : decode b_Sch_isFlatColumn 6 = .ok (.ifCond .ne 17, 3) := by decide +kernel
theorem d_Sch_isFlatColumn_9 : decode b_Sch_isFlatColumn 9 = .ok (.aload_n 0, 1) := by decide +kernel
theorem d_Sch_isFlatColumn_10 : decode b_Sch_isFlatColumn 10 = .ok (.getfield 15, 3) := by decide +kernel
theorem d_Sch_isFlatColumn_13 : decode b_Sch_isFlatColumn 13 = .ok (.iload_n 1, 1) := by decide +kernel
theorem d_Sch_isFlatColumn_14 : decode b_Sch_isFlatColumn 14 = .ok (.iaload, 1) := by decide +kernel
theorem d_Sch_isFlatColumn_15 : decode b_Sch_isFlatColumn 15 = .ok (.iconst 4, 1) := by decide +kernel
theorem d_Sch_isFlatColumn_16 : decode b_Sch_isFlatColumn 16 = .ok (.if_icmp .eq 7, 3) := by decide +kernel
theorem d_Sch_isFlatColumn_19 : decode b_Sch_isFlatColumn 19 = .ok (.iconst 1, 1) := by decide +kernel
theorem d_Sch_isFlatColumn_20 : decode b_Sch_isFlatColumn 20 = .ok (.goto 4, 3) := by decide +kernel
theorem d_Qry_readColumn_37 : decode b_Qry_readColumn 37 = .ok (.iload_n 1, 1) := by decide +kernel
theorem d_Qry_readColumn_38 : decode b_Qry_readColumn 38 = .ok (.ireturn, 1) := by decide +kernel
theorem d_Qry_readColumn_0 : decode b_Qry_readColumn 0 = .ok (.aload_n 0, 1) := by decide +kernel
theorem d_Qry_readColumn_1 : decode b_Qry_readColumn 1 = .ok (.invokevirtual 136, 3) := by decide +kernel
theorem d_Qry_readColumn_4 : decode b_Qry_readColumn 4 = .ok (.istore_n 1, 1) := by decide +kernel
theorem d_Qry_readColumn_5 : decode b_Qry_readColumn 5 = .ok (.aload_n 0, 1) := by decide +kernel
theorem d_Qry_readColumn_6 : decode b_Qry_readColumn 6 = .ok (.getfield 44, 3) := by decide +kernel
theorem d_Qry_readColumn_9 : decode b_Qry_readColumn 9 = .ok (.invokevirtual 86, 3) := by decide +kernel
theorem d_Qry_readColumn_12 : decode b_Qry_readColumn 12 = .ok (.ifCond .eq 25, 3) := by decide +kernel
theorem d_Qry_readColumn_15 : decode b_Qry_readColumn 15 = .ok (.aload_n 0, 1) := by decide +kernel
theorem d_Qry_readColumn_16 : decode b_Qry_readColumn 16 = .ok (.getfield 48, 3) := by decide +kernel
theorem d_Qry_readColumn_19 : decode b_Qry_readColumn 19 = .ok (.iload_n 1, 1) := by decide +kernel
theorem d_Qry_readColumn_20 : decode b_Qry_readColumn 20 = .ok (.invokevirtual 212, 3) := by decide +kernel
theorem d_Qry_readColumn_23 : decode b_Qry_readColumn 23 = .ok (.ifCond .ne 14, 3) := by decide +kernel
theorem d_Qry_readColumn_26 : decode b_Qry_readColumn 26 = .ok (.aload_n 0, 1) := by decide +kernel
theorem d_Qry_readColumn_27 : decode b_Qry_readColumn 27 = .ok (.getfield 44, 3) := by decide +kernel
theorem d_Qry_readColumn_30 : decode b_Qry_readColumn 30 = .ok (.aload_n 0, 1) := by decide +kernel
theorem d_Qry_readColumn_31 : decode b_Qry_readColumn 31 = .ok (.getfield 154, 3) := by decide +kernel
theorem d_Qry_readColumn_34 : decode b_Qry_readColumn 34 = .ok (.invokevirtual 113, 3) := by decide +kernel
theorem d_Qry_isNumber_10 : decode b_Qry_isNumber 10 = .ok (.iconst 1, 1) := by decide +kernel
theorem d_Qry_isNumber_11 : decode b_Qry_isNumber 11 = .ok (.goto 4, 3) := by decide +kernel
theorem d_Qry_isNumber_15 : decode b_Qry_isNumber 15 = .ok (.ireturn, 1) := by decide +kernel
theorem d_Qry_isNumber_0 : decode b_Qry_isNumber 0 = .ok (.iload_n 0, 1) := by decide +kernel
theorem d_Qry_isNumber_1 : decode b_Qry_isNumber 1 = .ok (.iconst 1, 1) := by decide +kernel
theorem d_Qry_isNumber_2 : decode b_Qry_isNumber 2 = .ok (.if_icmp .eq 8, 3) := by decide +kernel
theorem d_Qry_isNumber_5 : decode b_Qry_isNumber 5 = .ok (.iload_n 0, 1) := by decide +kernel
theorem d_Qry_isNumber_6 : decode b_Qry_isNumber 6 = .ok (.iconst 2, 1) := by decide +kernel
theorem d_Qry_isNumber_7 : decode b_Qry_isNumber 7 = .ok (.if_icmp .ne 7, 3) := by decide +kernel
theorem d_Qry_isNumber_14 : decode b_Qry_isNumber 14 = .ok (.iconst 0, 1) := by decide +kernel
theorem d_Qry_readItem_110 : decode b_Qry_readItem 110 = .ok (.aload_n 0, 1) := by decide +kernel
theorem d_Qry_readItem_111 : decode b_Qry_readItem 111 = .ok (.getfield 9, 3) := by decide +kernel
theorem d_Qry_readItem_114 : decode b_Qry_readItem 114 = .ok (.aload_n 0, 1) := by decide +kernel
theorem d_Qry_readItem_115 : decode b_Qry_readItem 115 = .ok (.getfield 56, 3) := by decide +kernel
theorem d_Qry_readItem_118 : decode b_Qry_readItem 118 = .ok (.iload_n 1, 1) := by decide +kernel
theorem d_Qry_readItem_119 : decode b_Qry_readItem 119 = .ok (.iastore, 1) := by decide +kernel
theorem d_Qry_readItem_120 : decode b_Qry_readItem 120 = .ok (.aload_n 0, 1) := by decide +kernel
theorem d_Qry_readItem_121 : decode b_Qry_readItem 121 = .ok (.getfield 15, 3) := by decide +kernel
theorem d_Qry_readItem_124 : decode b_Qry_readItem 124 = .ok (.aload_n 0, 1) := by decide +kernel
theorem d_Qry_readItem_125 : decode b_Qry_readItem 125 = .ok (.getfield 56, 3) := by decide +kernel
theorem d_Qry_readItem_128 : decode b_Qry_readItem 128 = .ok (.iload_n 2, 1) := by decide +kernel
theorem d_Qry_readItem_129 : decode b_Qry_readItem 129 = .ok (.iastore, 1) := by decide +kernel
theorem d_Qry_readItem_130 : decode b_Qry_readItem 130 = .ok (.return_, 1) := by decide +kernel
theorem d_Qry_readItem_101 : decode b_Qry_readItem 101 = .ok (.aload_n 0, 1) := by decide +kernel
theorem d_Qry_readItem_102 : decode b_Qry_readItem 102 = .ok (.getfield 44, 3) := by decide +kernel
theorem d_Qry_readItem_105 : decode b_Qry_readItem 105 = .ok (.bipush 41, 2) := by decide +kernel
theorem d_Qry_readItem_107 : decode b_Qry_readItem 107 = .ok (.invokevirtual 139, 3) := by decide +kernel
theorem d_Qry_readItem_46 : decode b_Qry_readItem 46 = .ok (.aload_n 0, 1) := by decide +kernel
theorem d_Qry_readItem_47 : decode b_Qry_readItem 47 = .ok (.getfield 44, 3) := by decide +kernel
theorem d_Qry_readItem_50 : decode b_Qry_readItem 50 = .ok (.bipush 40, 2) := by decide +kernel
theorem d_Qry_readItem_52 : decode b_Qry_readItem 52 = .ok (.invokevirtual 139, 3) := by decide +kernel
theorem d_Qry_readItem_55 : decode b_Qry_readItem 55 = .ok (.aload_n 0, 1) := by decide +kernel
theorem d_Qry_readItem_56 : decode b_Qry_readItem 56 = .ok (.invokevirtual 143, 3) := by decide +kernel
theorem d_Qry_readItem_59 : decode b_Qry_readItem 59 = .ok (.istore_n 2, 1) := by decide +kernel
theorem d_Qry_readItem_60 : decode b_Qry_readItem 60 = .ok (.iload_n 1, 1) := by decide +kernel
theorem d_Qry_readItem_61 : decode b_Qry_readItem 61 = .ok (.iconst 3, 1) := by decide +kernel
theorem d_Qry_readItem_62 : decode b_Qry_readItem 62 = .ok (.if_icmp .ne 39, 3) := by decide +kernel
theorem d_Qry_readItem_65 : decode b_Qry_readItem 65 = .ok (.aload_n 0, 1) := by decide +kernel
theorem d_Qry_readItem_66 : decode b_Qry_readItem 66 = .ok (.getfield 44, 3) := by decide +kernel
theorem d_Qry_readItem_69 : decode b_Qry_readItem 69 = .ok (.invokevirtual 86, 3) := by decide +kernel
theorem d_Qry_readItem_72 : decode b_Qry_readItem 72 = .ok (.ifCond .eq 29, 3) := by decide +kernel
theorem d_Qry_readItem_75 : decode b_Qry_readItem 75 = .ok (.aload_n 0, 1) := by decide +kernel
theorem d_Qry_readItem_76 : decode b_Qry_readItem 76 = .ok (.getfield 48, 3) := by decide +kernel
theorem d_Qry_readItem_79 : decode b_Qry_readItem 79 = .ok (.getfield 146, 3) := by decide +kernel
theorem d_Qry_readItem_82 : decode b_Qry_readItem 82 = .ok (.iload_n 2, 1) := by decide +kernel
theorem d_Qry_readItem_83 : decode b_Qry_readItem 83 = .ok (.iaload, 1) := by decide +kernel
theorem d_Qry_readItem_84 : decode b_Qry_readItem 84 = .ok (.invokestatic 151, 3) := by decide +kernel
theorem d_Qry_readItem_87 : decode b_Qry_readItem 87 = .ok (.ifCond .ne 14, 3) := by decide +kernel
theorem d_Qry_readItem_90 : decode b_Qry_readItem 90 = .ok (.aload_n 0, 1) := by decide +kernel
theorem d_Qry_readItem_91 : decode b_Qry_readItem 91 = .ok (.getfield 44, 3) := by decide +kernel
theorem d_Qry_readItem_94 : decode b_Qry_readItem 94 = .ok (.aload_n 0, 1) := by decide +kernel
theorem d_Qry_readItem_95 : decode b_Qry_readItem 95 = .ok (.getfield 154, 3) := by decide +kernel
theorem d_Qry_readItem_98 : decode b_Qry_readItem 98 = .ok (.invokevirtual 113, 3) := by decide +kernel
theorem d_Qry_readItem_0 : decode b_Qry_readItem 0 = .ok (.aload_n 0, 1) := by decide +kernel
theorem d_Qry_readItem_1 : decode b_Qry_readItem 1 = .ok (.invokevirtual 133, 3) := by decide +kernel
theorem d_Qry_readItem_4 : decode b_Qry_readItem 4 = .ok (.istore_n 1, 1) := by decide +kernel
theorem d_Qry_readItem_5 : decode b_Qry_readItem 5 = .ok (.iconst (-1), 1) := by decide +kernel
theorem d_Qry_readItem_6 : decode b_Qry_readItem 6 = .ok (.istore_n 2, 1) := by decide +kernel
theorem d_Qry_readItem_7 : decode b_Qry_readItem 7 = .ok (.iload_n 1, 1) := by decide +kernel
theorem d_Qry_readItem_8 : decode b_Qry_readItem 8 = .ok (.ifCond .ne 11, 3) := by decide +kernel
theorem d_Qry_readItem_19 : decode b_Qry_readItem 19 = .ok (.aload_n 0, 1) := by decide +kernel
theorem d_Qry_readItem_20 : decode b_Qry_readItem 20 = .ok (.iconst 1, 1) := by decide +kernel
theorem d_Qry_readItem_21 : decode b_Qry_readItem 21 = .ok (.putfield 63, 3) := by decide +kernel
theorem d_Qry_readItem_24 : decode b_Qry_readItem 24 = .ok (.iload_n 1, 1) := by decide +kernel
theorem d_Qry_readItem_25 : decode b_Qry_readItem 25 = .ok (.iconst 2, 1) := by decide +kernel
theorem d_Qry_readItem_26 : decode b_Qry_readItem 26 = .ok (.if_icmp .ne 20, 3) := by decide +kernel
theorem d_Qry_readItem_29 : decode b_Qry_readItem 29 = .ok (.aload_n 0, 1) := by decide +kernel
theorem d_Qry_readItem_30 : decode b_Qry_readItem 30 = .ok (.getfield 44, 3) := by decide +kernel
theorem d_Qry_readItem_33 : decode b_Qry_readItem 33 = .ok (.invokevirtual 106, 3) := by decide +kernel
theorem d_Qry_readItem_36 : decode b_Qry_readItem 36 = .ok (.bipush 40, 2) := by decide +kernel
theorem d_Qry_readItem_38 : decode b_Qry_readItem 38 = .ok (.if_icmp .eq 8, 3) := by decide +kernel
theorem d_Qry_readItem_41 : decode b_Qry_readItem 41 = .ok (.iconst 1, 1) := by decide +kernel
theorem d_Qry_readItem_42 : decode b_Qry_readItem 42 = .ok (.istore_n 1, 1) := by decide +kernel
theorem d_Qry_readItem_43 : decode b_Qry_readItem 43 = .ok (.goto 67, 3) := by decide +kernel
theorem d_Qry_readItem_11 : decode b_Qry_readItem 11 = .ok (.aload_n 0, 1) := by decide +kernel
theorem d_Qry_readItem_12 : decode b_Qry_readItem 12 = .ok (.invokevirtual 136, 3) := by decide +kernel
theorem d_Qry_readItem_15 : decode b_Qry_readItem 15 = .ok (.istore_n 2, 1) := by decide +kernel
theorem d_Qry_readItem_16 : decode b_Qry_readItem 16 = .ok (.goto 94, 3) := by decide +kernel
section
variable (l : Launch) (dC : Nat → ClassId) (dI : Nat → Nat → Nat) (cI cB cJ cZ : ClassId)
set_option maxRecDepth 100000 in
set_option maxHeartbeats 4000000 in
set_option maxRecDepth 100000 in
theorem t_Qry_readPath_242 {p : Program} {l : Launch} {e : Env} {R : Room} {s : State} {m : MethodId} {args : Array Value} {below : List Frame} {meth : Method} {c : Code} {cells slots : Nat} {Q : State → Prop} {dC : Nat → ClassId} {dI : Nat → Nat → Nat} {cI cB cJ cZ : ClassId} {A : Nat → Prop} {ad : Nat → Nat} {NN : Nat} {E : Heap} {tM tC : Nat} {kK kV : Nat → Nat} {post : Int32 → St → Prop} (hx : p.tables.exec = Jvm.exec) (hb : c.code = b_Qry_readPath) (hml : c.maxLocals = 5) (hown : s.vm.findClass R_Qry = some m.cls) (hT : ∀ w ∈ TG, w.before args s = true) (hK : va_K (dC, dI) CL (TY cI cB cJ cZ) s) (hN : NW s) (hA : ∀ q : Nat, s.heap.size ≤ q → A q) (hRc : cells ≤ R.cells) (hRs : slots ≤ R.slots) (hRf : 6 ≤ R.frames) (hRl : 242 ≤ R.locals) (hNN : 152 ≤ NN) (hE : CE E tM tC kK kV A s) (hret : ∀ (r : Int32) (x : St) (H : Heap) (locs : List Loc) (pc : Nat) (ls : Array Slot), decode b_Qry_readPath pc = .ok (.ireturn, 1) → post r x → Wd dC dI cI cB cJ cZ ad stC kcC NN A x H → va_S A s.heap H locs → W p l e R s m args below meth c H locs cells slots Q (F0 m pc ls [.int r]))  : ∀ (o : Nat) (l1 : Int32) (l2 : Int32) (l3 : Int32) (x : St) (H : Heap) (locs : List Loc) (ls : Array Slot), (o < NN ∧ kcC o = 9) → j_Qry_readPath_242 post o l1 l2 l3 x → Wd dC dI cI cB cJ cZ ad stC kcC NN A x H → va_S A s.heap H locs → lv_has ls 5 [(0, .ref (ad o)), (1, .int l1), (2, .int l2), (3, .int l3)] → W p l e R s m args below meth c H locs cells slots Q (F0 m 242 ls []) := by
  intro o l1 l2 l3 x H locs ls fo hw hW hS hl
  unfold j_Qry_readPath_242 at hw
  refine lv_iload_n hx hb d_Qry_readPath_242 rfl (lv_at hl 1 rfl) ?_
  exact hret l1 x H locs 243 ls d_Qry_readPath_243 hw hW hS
set_option maxRecDepth 100000 in
set_option maxHeartbeats 4000000 in
set_option maxRecDepth 100000 in
theorem t_Qry_readPath_226 {p : Program} {l : Launch} {e : Env} {R : Room} {s : State} {m : MethodId} {args : Array Value} {below : List Frame} {meth : Method} {c : Code} {cells slots : Nat} {Q : State → Prop} {dC : Nat → ClassId} {dI : Nat → Nat → Nat} {cI cB cJ cZ : ClassId} {A : Nat → Prop} {ad : Nat → Nat} {NN : Nat} {E : Heap} {tM tC : Nat} {kK kV : Nat → Nat} {post : Int32 → St → Prop} (hx : p.tables.exec = Jvm.exec) (hb : c.code = b_Qry_readPath) (hml : c.maxLocals = 5) (hown : s.vm.findClass R_Qry = some m.cls) (hT : ∀ w ∈ TG, w.before args s = true) (hK : va_K (dC, dI) CL (TY cI cB cJ cZ) s) (hN : NW s) (hA : ∀ q : Nat, s.heap.size ≤ q → A q) (hRc : cells ≤ R.cells) (hRs : slots ≤ R.slots) (hRf : 6 ≤ R.frames) (hRl : 242 ≤ R.locals) (hNN : 152 ≤ NN) (hE : CE E tM tC kK kV A s) (hret : ∀ (r : Int32) (x : St) (H : Heap) (locs : List Loc) (pc : Nat) (ls : Array Slot), decode b_Qry_readPath pc = .ok (.ireturn, 1) → post r x → Wd dC dI cI cB cJ cZ ad stC kcC NN A x H → va_S A s.heap H locs → W p l e R s m args below meth c H locs cells slots Q (F0 m pc ls [.int r]))  : ∀ (o : Nat) (l1 : Int32) (l2 : Int32) (l3 : Int32) (x : St) (H : Heap) (locs : List Loc) (ls : Array Slot), (o < NN ∧ kcC o = 9) → j_Qry_readPath_226 post o l1 l2 l3 x → Wd dC dI cI cB cJ cZ ad stC kcC NN A x H → va_S A s.heap H locs → lv_has ls 5 [(0, .ref (ad o)), (1, .int l1), (2, .int l2), (3, .int l3)] → W p l e R s m args below meth c H locs cells slots Q (F0 m 226 ls []) := by
  intro o l1 l2 l3 x H locs ls fo hw hW hS hl
  unfold j_Qry_readPath_226 at hw
  refine lv_iload_n hx hb d_Qry_readPath_226 rfl (lv_at hl 1 rfl) ?_
  refine lv_iconst (v := (-1)) hx hb d_Qry_readPath_227 (by decide) ?_
  refine lv_icmp_ne (tgt := 242) hx hb d_Qry_readPath_228 (by decide) (fun c1 => ?_) (fun c1 => ?_)
  · have hw := hw.1 c1
    exact t_Qry_readPath_242 hx hb hml hown hT hK hN hA hRc hRs hRf hRl hNN hE hret  o l1 l2 l3 x H locs ls fo hw hW hS (lv_sub hl [0, 1, 2, 3] rfl)
  · have hw := hw.2 c1
    refine lv_aload_n hx hb d_Qry_readPath_231 rfl (lv_at hl 0 rfl) ?_
    obtain ⟨q2, hq2, hw⟩ := hw
    refine w_getr (q := q2) (k := 17) (t := 9) (C := R_Qry) (T := F_Qry) (N := 20) hx hb hT hown hK hW fo.1 fo.2 (by decide) in_Qry rfl rfl (by decide) rfl fr_Qry_17 w_3_105 d_Qry_readPath_232 hq2 (fun aq2 bq2 => ?_)
    have fq2 : q2 < NN ∧ kcC q2 = 2 := ⟨aq2, bq2⟩
    refine lv_aload_n hx hb d_Qry_readPath_235 rfl (lv_at hl 0 rfl) ?_
    refine w_geti (k := 19) (t := 9) (C := R_Qry) (T := F_Qry) (N := 20) hx hb hT hown hK hW fo.1 fo.2 (by decide) in_Qry rfl rfl (by decide) rfl fr_Qry_19 w_3_107 d_Qry_readPath_236 ?_
    have hF := hW.free hS hA
    refine va_callv (va_runV (C := R_Scn) (As := [.int (fI x o 19)]) (rest := []) ⟨hx, hb, hml, hown, hT⟩ (k_Scn_refuse l dC dI cI cB cJ cZ ad NN E tM tC kK kV hNN H.size q2 (fI x o 19) x fq2 hw) ⟨callB_of 1 hT (gwt_in w_4_128) rfl rfl rfl (hT _ w_1_4) (hT _ w_7_149) (by decide +kernel) ⟨Nat.le_trans (Nat.le_of_ble_eq_true rfl) hRf, Nat.le_trans (Nat.le_of_ble_eq_true rfl) hRl⟩, hT _ w_4_126, hT _ w_4_127⟩ ⟨PVc.blind, va_recv hK hW.1 (ci := 2) (q0 := q2) rfl (pic_obj fq2.1 fq2.2 (by decide)), PVc.at _ hW hK hN hE hS hF⟩ rfl rfl hl.1 rfl (lv_room (Nat.le_of_ble_eq_true rfl)) d_Qry_readPath_239 ⟨hRc, hRs⟩) hS (fun q _ h => hF q h) hF (fun  x3 t H locs ht hvm hw hB hz1 hk1 hS => ?_)
    have hW := Wd.back hB ht hF
    clear hB ht hF hz1 hk1 hvm
    exact t_Qry_readPath_242 hx hb hml hown hT hK hN hA hRc hRs hRf hRl hNN hE hret  o l1 l2 l3 x3 H locs ls fo hw hW hS (lv_sub hl [0, 1, 2, 3] rfl)
set_option maxRecDepth 100000 in
set_option maxHeartbeats 4000000 in
set_option maxRecDepth 100000 in
theorem t_Qry_readPath_216 {p : Program} {l : Launch} {e : Env} {R : Room} {s : State} {m : MethodId} {args : Array Value} {below : List Frame} {meth : Method} {c : Code} {cells slots : Nat} {Q : State → Prop} {dC : Nat → ClassId} {dI : Nat → Nat → Nat} {cI cB cJ cZ : ClassId} {A : Nat → Prop} {ad : Nat → Nat} {NN : Nat} {E : Heap} {tM tC : Nat} {kK kV : Nat → Nat} {post : Int32 → St → Prop} {rec37 : Nat → Int32 → Int32 → Int32 → St → Prop} (hx : p.tables.exec = Jvm.exec) (hb : c.code = b_Qry_readPath) (hml : c.maxLocals = 5) (hown : s.vm.findClass R_Qry = some m.cls) (hT : ∀ w ∈ TG, w.before args s = true) (hK : va_K (dC, dI) CL (TY cI cB cJ cZ) s) (hN : NW s) (hA : ∀ q : Nat, s.heap.size ≤ q → A q) (hRc : cells ≤ R.cells) (hRs : slots ≤ R.slots) (hRf : 6 ≤ R.frames) (hRl : 242 ≤ R.locals) (hNN : 152 ≤ NN) (hE : CE E tM tC kK kV A s) (hret : ∀ (r : Int32) (x : St) (H : Heap) (locs : List Loc) (pc : Nat) (ls : Array Slot), decode b_Qry_readPath pc = .ok (.ireturn, 1) → post r x → Wd dC dI cI cB cJ cZ ad stC kcC NN A x H → va_S A s.heap H locs → W p l e R s m args below meth c H locs cells slots Q (F0 m pc ls [.int r])) (hrec37 : ∀ (o : Nat) (l1 : Int32) (l2 : Int32) (l3 : Int32) (x : St) (H : Heap) (locs : List Loc) (ls : Array Slot), (o < NN ∧ kcC o = 9) → rec37 o l1 l2 l3 x → Wd dC dI cI cB cJ cZ ad stC kcC NN A x H → va_S A s.heap H locs → lv_has ls 5 [(0, .ref (ad o)), (1, .int l1), (2, .int l2), (3, .int l3)] → W p l e R s m args below meth c H locs cells slots Q (F0 m 37 ls [])) : ∀ (o : Nat) (l1 : Int32) (l2 : Int32) (l3 : Int32) (l4 : Int32) (s0 : Int32) (s1 : Int32) (s2 : Nat) (x : St) (H : Heap) (locs : List Loc) (ls : Array Slot), (o < NN ∧ kcC o = 9) → (s2 < NN ∧ kcC s2 = 2) → j_Qry_readPath_216 post rec37 o l1 l2 l3 l4 s0 s1 s2 x → Wd dC dI cI cB cJ cZ ad stC kcC NN A x H → va_S A s.heap H locs → lv_has ls 5 [(0, .ref (ad o)), (1, .int l1), (2, .int l2), (3, .int l3), (4, .int l4)] → W p l e R s m args below meth c H locs cells slots Q (F0 m 216 ls [.int s0, .int s1, .ref (ad s2)]) := by
  intro o l1 l2 l3 l4 s0 s1 s2 x H locs ls fo fs2 hw hW hS hl
  unfold j_Qry_readPath_216 at hw
  refine lv_iadd hx hb d_Qry_readPath_216 ?_
  refine w_puti (ty := .int) (k := 2) (t := 2) (C := R_Scn) (T := F_Scn) (N := 8) hx hb hT hown hK hW hS fs2.1 fs2.2 (by decide) in_Scn t_Scn t_Scn_ok n_Scn rfl rfl (by decide) rfl fr_Scn_2 w_1_86 (by decide +kernel) rfl rfl d_Qry_readPath_217 (fun H locs hW hS => ?_)
  obtain ⟨x4, ex4⟩ : ∃ y : St, y = setI x s2 2 (s1 + s0) := ⟨_, rfl⟩
  rw [← ex4] at hW
  have hw := hw x4 ex4
  refine lv_iinc (v := (l3 + 1)) (lv' := [(3, .int (l3 + 1)), (0, .ref (ad o)), (1, .int l1), (2, .int l2), (4, .int l4)]) hx hb d_Qry_readPath_220 hl (k := 3) rfl rfl (by decide) rfl (fun ls hl => ?_)
  refine lv_goto (tgt := 37) hx hb d_Qry_readPath_223 (by decide) ?_
  exact hrec37 o l1 l2 (l3 + 1) x4 H locs ls fo hw hW hS (lv_sub hl [1, 2, 3, 0] rfl)
set_option maxRecDepth 100000 in
set_option maxHeartbeats 4000000 in
set_option maxRecDepth 100000 in
theorem t_Qry_readPath_198 {p : Program} {l : Launch} {e : Env} {R : Room} {s : State} {m : MethodId} {args : Array Value} {below : List Frame} {meth : Method} {c : Code} {cells slots : Nat} {Q : State → Prop} {dC : Nat → ClassId} {dI : Nat → Nat → Nat} {cI cB cJ cZ : ClassId} {A : Nat → Prop} {ad : Nat → Nat} {NN : Nat} {E : Heap} {tM tC : Nat} {kK kV : Nat → Nat} {post : Int32 → St → Prop} {rec37 : Nat → Int32 → Int32 → Int32 → St → Prop} (hx : p.tables.exec = Jvm.exec) (hb : c.code = b_Qry_readPath) (hml : c.maxLocals = 5) (hown : s.vm.findClass R_Qry = some m.cls) (hT : ∀ w ∈ TG, w.before args s = true) (hK : va_K (dC, dI) CL (TY cI cB cJ cZ) s) (hN : NW s) (hA : ∀ q : Nat, s.heap.size ≤ q → A q) (hRc : cells ≤ R.cells) (hRs : slots ≤ R.slots) (hRf : 6 ≤ R.frames) (hRl : 242 ≤ R.locals) (hNN : 152 ≤ NN) (hE : CE E tM tC kK kV A s) (hret : ∀ (r : Int32) (x : St) (H : Heap) (locs : List Loc) (pc : Nat) (ls : Array Slot), decode b_Qry_readPath pc = .ok (.ireturn, 1) → post r x → Wd dC dI cI cB cJ cZ ad stC kcC NN A x H → va_S A s.heap H locs → W p l e R s m args below meth c H locs cells slots Q (F0 m pc ls [.int r])) (hrec37 : ∀ (o : Nat) (l1 : Int32) (l2 : Int32) (l3 : Int32) (x : St) (H : Heap) (locs : List Loc) (ls : Array Slot), (o < NN ∧ kcC o = 9) → rec37 o l1 l2 l3 x → Wd dC dI cI cB cJ cZ ad stC kcC NN A x H → va_S A s.heap H locs → lv_has ls 5 [(0, .ref (ad o)), (1, .int l1), (2, .int l2), (3, .int l3)] → W p l e R s m args below meth c H locs cells slots Q (F0 m 37 ls [])) : ∀ (o : Nat) (l1 : Int32) (l2 : Int32) (l3 : Int32) (l4 : Int32) (s0 : Int32) (x : St) (H : Heap) (locs : List Loc) (ls : Array Slot), (o < NN ∧ kcC o = 9) → j_Qry_readPath_198 post rec37 o l1 l2 l3 l4 s0 x → Wd dC dI cI cB cJ cZ ad stC kcC NN A x H → va_S A s.heap H locs → lv_has ls 5 [(0, .ref (ad o)), (1, .int l1), (2, .int l2), (3, .int l3), (4, .int l4)] → W p l e R s m args below meth c H locs cells slots Q (F0 m 198 ls [.int s0]) := by
  intro o l1 l2 l3 l4 s0 x H locs ls fo hw hW hS hl
  unfold j_Qry_readPath_198 at hw
  refine lv_istore_n (lv' := [(2, .int s0), (0, .ref (ad o)), (1, .int l1), (3, .int l3), (4, .int l4)]) hx hb d_Qry_readPath_198 rfl hl (by decide) rfl (fun ls hl => ?_)
  refine lv_aload_n hx hb d_Qry_readPath_199 rfl (lv_at hl 1 rfl) ?_
  obtain ⟨q5, hq5, hw⟩ := hw
  refine w_getr (q := q5) (k := 17) (t := 9) (C := R_Qry) (T := F_Qry) (N := 20) hx hb hT hown hK hW fo.1 fo.2 (by decide) in_Qry rfl rfl (by decide) rfl fr_Qry_17 w_3_105 d_Qry_readPath_200 hq5 (fun aq5 bq5 => ?_)
  have fq5 : q5 < NN ∧ kcC q5 = 2 := ⟨aq5, bq5⟩
  refine lv_dup hx hb d_Qry_readPath_203 rfl ?_
  refine w_geti (k := 2) (t := 2) (C := R_Scn) (T := F_Scn) (N := 8) hx hb hT hown hK hW fq5.1 fq5.2 (by decide) in_Scn rfl rfl (by decide) rfl fr_Scn_2 w_1_86 d_Qry_readPath_204 ?_
  refine lv_iload_n hx hb d_Qry_readPath_207 rfl (lv_at hl 0 rfl) ?_
  refine lv_if_eq (tgt := 215) hx hb d_Qry_readPath_208 (by decide) (fun c6 => ?_) (fun c6 => ?_)
  · have hw := hw.1 c6
    refine lv_iconst (v := 0) hx hb d_Qry_readPath_215 (by decide) ?_
    exact t_Qry_readPath_216 hx hb hml hown hT hK hN hA hRc hRs hRf hRl hNN hE hret hrec37 o l1 s0 l3 l4 0 (fI x q5 2) q5 x H locs ls fo fq5 hw hW hS (lv_sub hl [1, 2, 0, 3, 4] rfl)
  · have hw := hw.2 c6
    refine lv_iconst (v := 1) hx hb d_Qry_readPath_211 (by decide) ?_
    refine lv_goto (tgt := 216) hx hb d_Qry_readPath_212 (by decide) ?_
    exact t_Qry_readPath_216 hx hb hml hown hT hK hN hA hRc hRs hRf hRl hNN hE hret hrec37 o l1 s0 l3 l4 1 (fI x q5 2) q5 x H locs ls fo fq5 hw hW hS (lv_sub hl [1, 2, 0, 3, 4] rfl)
set_option maxRecDepth 100000 in
set_option maxHeartbeats 4000000 in
set_option maxRecDepth 100000 in
theorem t_Qry_readPath_173 {p : Program} {l : Launch} {e : Env} {R : Room} {s : State} {m : MethodId} {args : Array Value} {below : List Frame} {meth : Method} {c : Code} {cells slots : Nat} {Q : State → Prop} {dC : Nat → ClassId} {dI : Nat → Nat → Nat} {cI cB cJ cZ : ClassId} {A : Nat → Prop} {ad : Nat → Nat} {NN : Nat} {E : Heap} {tM tC : Nat} {kK kV : Nat → Nat} {post : Int32 → St → Prop} {rec37 : Nat → Int32 → Int32 → Int32 → St → Prop} (hx : p.tables.exec = Jvm.exec) (hb : c.code = b_Qry_readPath) (hml : c.maxLocals = 5) (hown : s.vm.findClass R_Qry = some m.cls) (hT : ∀ w ∈ TG, w.before args s = true) (hK : va_K (dC, dI) CL (TY cI cB cJ cZ) s) (hN : NW s) (hA : ∀ q : Nat, s.heap.size ≤ q → A q) (hRc : cells ≤ R.cells) (hRs : slots ≤ R.slots) (hRf : 6 ≤ R.frames) (hRl : 242 ≤ R.locals) (hNN : 152 ≤ NN) (hE : CE E tM tC kK kV A s) (hret : ∀ (r : Int32) (x : St) (H : Heap) (locs : List Loc) (pc : Nat) (ls : Array Slot), decode b_Qry_readPath pc = .ok (.ireturn, 1) → post r x → Wd dC dI cI cB cJ cZ ad stC kcC NN A x H → va_S A s.heap H locs → W p l e R s m args below meth c H locs cells slots Q (F0 m pc ls [.int r])) (hrec37 : ∀ (o : Nat) (l1 : Int32) (l2 : Int32) (l3 : Int32) (x : St) (H : Heap) (locs : List Loc) (ls : Array Slot), (o < NN ∧ kcC o = 9) → rec37 o l1 l2 l3 x → Wd dC dI cI cB cJ cZ ad stC kcC NN A x H → va_S A s.heap H locs → lv_has ls 5 [(0, .ref (ad o)), (1, .int l1), (2, .int l2), (3, .int l3)] → W p l e R s m args below meth c H locs cells slots Q (F0 m 37 ls [])) : ∀ (o : Nat) (l1 : Int32) (l2 : Int32) (l3 : Int32) (l4 : Int32) (s0 : Int32) (x : St) (H : Heap) (locs : List Loc) (ls : Array Slot), (o < NN ∧ kcC o = 9) → j_Qry_readPath_173 post rec37 o l1 l2 l3 l4 s0 x → Wd dC dI cI cB cJ cZ ad stC kcC NN A x H → va_S A s.heap H locs → lv_has ls 5 [(0, .ref (ad o)), (1, .int l1), (2, .int l2), (3, .int l3), (4, .int l4)] → W p l e R s m args below meth c H locs cells slots Q (F0 m 173 ls [.int s0]) := by
  intro o l1 l2 l3 l4 s0 x H locs ls fo hw hW hS hl
  unfold j_Qry_readPath_173 at hw
  refine lv_istore_n (lv' := [(1, .int s0), (0, .ref (ad o)), (2, .int l2), (3, .int l3), (4, .int l4)]) hx hb d_Qry_readPath_173 rfl hl (by decide) rfl (fun ls hl => ?_)
  refine lv_aload_n hx hb d_Qry_readPath_174 rfl (lv_at hl 1 rfl) ?_
  obtain ⟨q7, hq7, hw⟩ := hw
  refine w_getr (q := q7) (k := 17) (t := 9) (C := R_Qry) (T := F_Qry) (N := 20) hx hb hT hown hK hW fo.1 fo.2 (by decide) in_Qry rfl rfl (by decide) rfl fr_Qry_17 w_3_105 d_Qry_readPath_175 hq7 (fun aq7 bq7 => ?_)
  have fq7 : q7 < NN ∧ kcC q7 = 2 := ⟨aq7, bq7⟩
  refine lv_aload_n hx hb d_Qry_readPath_178 rfl (lv_at hl 1 rfl) ?_
  obtain ⟨q8, hq8, hw⟩ := hw
  refine w_getr (q := q8) (k := 17) (t := 9) (C := R_Qry) (T := F_Qry) (N := 20) hx hb hT hown hK hW fo.1 fo.2 (by decide) in_Qry rfl rfl (by decide) rfl fr_Qry_17 w_3_105 d_Qry_readPath_179 hq8 (fun aq8 bq8 => ?_)
  have fq8 : q8 < NN ∧ kcC q8 = 2 := ⟨aq8, bq8⟩
  refine w_geti (k := 2) (t := 2) (C := R_Scn) (T := F_Scn) (N := 8) hx hb hT hown hK hW fq8.1 fq8.2 (by decide) in_Scn rfl rfl (by decide) rfl fr_Scn_2 w_1_86 d_Qry_readPath_182 ?_
  have hF := hW.free hS hA
  refine va_calli (va_runV (C := R_Scn) (As := [.int (fI x q8 2)]) (rest := []) ⟨hx, hb, hml, hown, hT⟩ (k_Scn_byteAt l dC dI cI cB cJ cZ ad NN E tM tC kK kV hNN H.size q7 (fI x q8 2) x fq7 hw) ⟨callB_of 1 hT (gwt_in w_5_75) rfl rfl rfl (hT _ w_1_4) (hT _ w_7_167) (by decide +kernel) ⟨Nat.le_trans (Nat.le_of_ble_eq_true rfl) hRf, Nat.le_trans (Nat.le_of_ble_eq_true rfl) hRl⟩, hT _ w_5_73, hT _ w_5_74⟩ ⟨PVc.blind, va_recv hK hW.1 (ci := 2) (q0 := q7) rfl (pic_obj fq7.1 fq7.2 (by decide)), PVc.at _ hW hK hN hE hS hF⟩ rfl rfl hl.1 rfl (lv_room (Nat.le_of_ble_eq_true rfl)) d_Qry_readPath_185 ⟨hRc, hRs⟩) hS (fun q _ h => hF q h) hF (fun r10 x9 t H locs ht hvm hw hB hz1 hk1 hS => ?_)
  have hW := Wd.back hB ht hF
  clear hB ht hF hz1 hk1 hvm
  refine lv_bipush (v := 46) hx hb d_Qry_readPath_188 (by decide) ?_
  refine lv_icmp_ne (tgt := 197) hx hb d_Qry_readPath_190 (by decide) (fun c11 => ?_) (fun c11 => ?_)
  · have hw := hw.1 c11
    refine lv_iconst (v := 0) hx hb d_Qry_readPath_197 (by decide) ?_
    exact t_Qry_readPath_198 hx hb hml hown hT hK hN hA hRc hRs hRf hRl hNN hE hret hrec37 o s0 l2 l3 l4 0 x9 H locs ls fo hw hW hS (lv_sub hl [1, 0, 2, 3, 4] rfl)
  · have hw := hw.2 c11
    refine lv_iconst (v := 1) hx hb d_Qry_readPath_193 (by decide) ?_
    refine lv_goto (tgt := 198) hx hb d_Qry_readPath_194 (by decide) ?_
    exact t_Qry_readPath_198 hx hb hml hown hT hK hN hA hRc hRs hRf hRl hNN hE hret hrec37 o s0 l2 l3 l4 1 x9 H locs ls fo hw hW hS (lv_sub hl [1, 0, 2, 3, 4] rfl)
set_option maxRecDepth 100000 in
set_option maxHeartbeats 4000000 in
set_option maxRecDepth 100000 in
theorem t_Qry_readPath_133 {p : Program} {l : Launch} {e : Env} {R : Room} {s : State} {m : MethodId} {args : Array Value} {below : List Frame} {meth : Method} {c : Code} {cells slots : Nat} {Q : State → Prop} {dC : Nat → ClassId} {dI : Nat → Nat → Nat} {cI cB cJ cZ : ClassId} {A : Nat → Prop} {ad : Nat → Nat} {NN : Nat} {E : Heap} {tM tC : Nat} {kK kV : Nat → Nat} {post : Int32 → St → Prop} {rec37 : Nat → Int32 → Int32 → Int32 → St → Prop} (hx : p.tables.exec = Jvm.exec) (hb : c.code = b_Qry_readPath) (hml : c.maxLocals = 5) (hown : s.vm.findClass R_Qry = some m.cls) (hT : ∀ w ∈ TG, w.before args s = true) (hK : va_K (dC, dI) CL (TY cI cB cJ cZ) s) (hN : NW s) (hA : ∀ q : Nat, s.heap.size ≤ q → A q) (hRc : cells ≤ R.cells) (hRs : slots ≤ R.slots) (hRf : 6 ≤ R.frames) (hRl : 242 ≤ R.locals) (hNN : 152 ≤ NN) (hE : CE E tM tC kK kV A s) (hret : ∀ (r : Int32) (x : St) (H : Heap) (locs : List Loc) (pc : Nat) (ls : Array Slot), decode b_Qry_readPath pc = .ok (.ireturn, 1) → post r x → Wd dC dI cI cB cJ cZ ad stC kcC NN A x H → va_S A s.heap H locs → W p l e R s m args below meth c H locs cells slots Q (F0 m pc ls [.int r])) (hrec37 : ∀ (o : Nat) (l1 : Int32) (l2 : Int32) (l3 : Int32) (x : St) (H : Heap) (locs : List Loc) (ls : Array Slot), (o < NN ∧ kcC o = 9) → rec37 o l1 l2 l3 x → Wd dC dI cI cB cJ cZ ad stC kcC NN A x H → va_S A s.heap H locs → lv_has ls 5 [(0, .ref (ad o)), (1, .int l1), (2, .int l2), (3, .int l3)] → W p l e R s m args below meth c H locs cells slots Q (F0 m 37 ls [])) : ∀ (o : Nat) (l1 : Int32) (l2 : Int32) (l3 : Int32) (s0 : Int32) (x : St) (H : Heap) (locs : List Loc) (ls : Array Slot), (o < NN ∧ kcC o = 9) → j_Qry_readPath_133 post rec37 o l1 l2 l3 s0 x → Wd dC dI cI cB cJ cZ ad stC kcC NN A x H → va_S A s.heap H locs → lv_has ls 5 [(0, .ref (ad o)), (1, .int l1), (2, .int l2), (3, .int l3)] → W p l e R s m args below meth c H locs cells slots Q (F0 m 133 ls [.int s0]) := by
  intro o l1 l2 l3 s0 x H locs ls fo hw hW hS hl
  unfold j_Qry_readPath_133 at hw
  refine lv_istore (lv' := [(4, .int s0), (0, .ref (ad o)), (1, .int l1), (2, .int l2), (3, .int l3)]) hx hb d_Qry_readPath_133 hl (by decide) rfl (fun ls hl => ?_)
  refine lv_iload hx hb d_Qry_readPath_135 (lv_at hl 0 rfl) ?_
  refine lv_if_eq (tgt := 144) hx hb d_Qry_readPath_137 (by decide) (fun c12 => ?_) (fun c12 => ?_)
  · have hw := hw.1 c12
    refine lv_aload_n hx hb d_Qry_readPath_144 rfl (lv_at hl 1 rfl) ?_
    obtain ⟨q13, hq13, hw⟩ := hw
    refine w_getr (q := q13) (k := 18) (t := 9) (C := R_Qry) (T := F_Qry) (N := 20) hx hb hT hown hK hW fo.1 fo.2 (by decide) in_Qry rfl rfl (by decide) rfl fr_Qry_18 w_3_106 d_Qry_readPath_145 hq13 (fun aq13 bq13 => ?_)
    have fq13 : q13 < NN ∧ kcC q13 = 3 := ⟨aq13, bq13⟩
    refine lv_iload_n hx hb d_Qry_readPath_148 rfl (lv_at hl 2 rfl) ?_
    refine lv_aload_n hx hb d_Qry_readPath_149 rfl (lv_at hl 1 rfl) ?_
    obtain ⟨q14, hq14, hw⟩ := hw
    refine w_getr (q := q14) (k := 17) (t := 9) (C := R_Qry) (T := F_Qry) (N := 20) hx hb hT hown hK hW fo.1 fo.2 (by decide) in_Qry rfl rfl (by decide) rfl fr_Qry_17 w_3_105 d_Qry_readPath_150 hq14 (fun aq14 bq14 => ?_)
    have fq14 : q14 < NN ∧ kcC q14 = 2 := ⟨aq14, bq14⟩
    obtain ⟨q15, hq15, hw⟩ := hw
    refine w_getr (q := q15) (k := 0) (t := 2) (C := R_Scn) (T := F_Scn) (N := 8) hx hb hT hown hK hW fq14.1 fq14.2 (by decide) in_Scn rfl rfl (by decide) rfl fr_Scn_0 w_1_79 d_Qry_readPath_153 hq15 (fun aq15 bq15 => ?_)
    have fq15 : q15 < NN ∧ kcC q15 = 21 := ⟨aq15, bq15⟩
    refine lv_aload_n hx hb d_Qry_readPath_156 rfl (lv_at hl 1 rfl) ?_
    obtain ⟨q16, hq16, hw⟩ := hw
    refine w_getr (q := q16) (k := 17) (t := 9) (C := R_Qry) (T := F_Qry) (N := 20) hx hb hT hown hK hW fo.1 fo.2 (by decide) in_Qry rfl rfl (by decide) rfl fr_Qry_17 w_3_105 d_Qry_readPath_157 hq16 (fun aq16 bq16 => ?_)
    have fq16 : q16 < NN ∧ kcC q16 = 2 := ⟨aq16, bq16⟩
    refine w_geti (k := 4) (t := 2) (C := R_Scn) (T := F_Scn) (N := 8) hx hb hT hown hK hW fq16.1 fq16.2 (by decide) in_Scn rfl rfl (by decide) rfl fr_Scn_4 w_1_95 d_Qry_readPath_160 ?_
    refine lv_aload_n hx hb d_Qry_readPath_163 rfl (lv_at hl 1 rfl) ?_
    obtain ⟨q17, hq17, hw⟩ := hw
    refine w_getr (q := q17) (k := 17) (t := 9) (C := R_Qry) (T := F_Qry) (N := 20) hx hb hT hown hK hW fo.1 fo.2 (by decide) in_Qry rfl rfl (by decide) rfl fr_Qry_17 w_3_105 d_Qry_readPath_164 hq17 (fun aq17 bq17 => ?_)
    have fq17 : q17 < NN ∧ kcC q17 = 2 := ⟨aq17, bq17⟩
    refine w_geti (k := 5) (t := 2) (C := R_Scn) (T := F_Scn) (N := 8) hx hb hT hown hK hW fq17.1 fq17.2 (by decide) in_Scn rfl rfl (by decide) rfl fr_Scn_5 w_1_99 d_Qry_readPath_167 ?_
    have hF := hW.free hS hA
    refine va_calli (va_runV (C := R_Sch) (As := [.int l1, .ref (ad q15), .int (fI x q16 4), .int (fI x q17 5)]) (rest := []) ⟨hx, hb, hml, hown, hT⟩ (k_Sch_find l dC dI cI cB cJ cZ ad NN E tM tC kK kV hNN H.size q13 l1 q15 (fI x q16 4) (fI x q17 5) x fq13 fq15 hw) ⟨callB_of 4 hT (gwt_in w_4_229) rfl rfl rfl (hT _ w_1_5) (hT _ w_7_186) (by decide +kernel) ⟨Nat.le_trans (Nat.le_of_ble_eq_true rfl) hRf, Nat.le_trans (Nat.le_of_ble_eq_true rfl) hRl⟩, hT _ w_4_227, hT _ w_4_228⟩ ⟨PVc.blind, va_recv hK hW.1 (ci := 3) (q0 := q13) rfl (pic_obj fq13.1 fq13.2 (by decide)), PVc.at _ hW hK hN hE hS hF⟩ rfl rfl hl.1 rfl (lv_room (Nat.le_of_ble_eq_true rfl)) d_Qry_readPath_170 ⟨hRc, hRs⟩) hS (fun q _ h => hF q h) hF (fun r19 x18 t H locs ht hvm hw hB hz1 hk1 hS => ?_)
    have hW := Wd.back hB ht hF
    clear hB ht hF hz1 hk1 hvm
    exact t_Qry_readPath_173 hx hb hml hown hT hK hN hA hRc hRs hRf hRl hNN hE hret hrec37 o l1 l2 l3 s0 r19 x18 H locs ls fo hw hW hS (lv_sub hl [1, 2, 3, 4, 0] rfl)
  · have hw := hw.2 c12
    refine lv_iconst (v := (-1)) hx hb d_Qry_readPath_140 (by decide) ?_
    refine lv_goto (tgt := 173) hx hb d_Qry_readPath_141 (by decide) ?_
    exact t_Qry_readPath_173 hx hb hml hown hT hK hN hA hRc hRs hRf hRl hNN hE hret hrec37 o l1 l2 l3 s0 (-1) x H locs ls fo hw hW hS (lv_sub hl [1, 2, 3, 4, 0] rfl)
set_option maxRecDepth 100000 in
set_option maxHeartbeats 4000000 in
set_option maxRecDepth 100000 in
theorem t_Qry_readPath_132 {p : Program} {l : Launch} {e : Env} {R : Room} {s : State} {m : MethodId} {args : Array Value} {below : List Frame} {meth : Method} {c : Code} {cells slots : Nat} {Q : State → Prop} {dC : Nat → ClassId} {dI : Nat → Nat → Nat} {cI cB cJ cZ : ClassId} {A : Nat → Prop} {ad : Nat → Nat} {NN : Nat} {E : Heap} {tM tC : Nat} {kK kV : Nat → Nat} {post : Int32 → St → Prop} {rec37 : Nat → Int32 → Int32 → Int32 → St → Prop} (hx : p.tables.exec = Jvm.exec) (hb : c.code = b_Qry_readPath) (hml : c.maxLocals = 5) (hown : s.vm.findClass R_Qry = some m.cls) (hT : ∀ w ∈ TG, w.before args s = true) (hK : va_K (dC, dI) CL (TY cI cB cJ cZ) s) (hN : NW s) (hA : ∀ q : Nat, s.heap.size ≤ q → A q) (hRc : cells ≤ R.cells) (hRs : slots ≤ R.slots) (hRf : 6 ≤ R.frames) (hRl : 242 ≤ R.locals) (hNN : 152 ≤ NN) (hE : CE E tM tC kK kV A s) (hret : ∀ (r : Int32) (x : St) (H : Heap) (locs : List Loc) (pc : Nat) (ls : Array Slot), decode b_Qry_readPath pc = .ok (.ireturn, 1) → post r x → Wd dC dI cI cB cJ cZ ad stC kcC NN A x H → va_S A s.heap H locs → W p l e R s m args below meth c H locs cells slots Q (F0 m pc ls [.int r])) (hrec37 : ∀ (o : Nat) (l1 : Int32) (l2 : Int32) (l3 : Int32) (x : St) (H : Heap) (locs : List Loc) (ls : Array Slot), (o < NN ∧ kcC o = 9) → rec37 o l1 l2 l3 x → Wd dC dI cI cB cJ cZ ad stC kcC NN A x H → va_S A s.heap H locs → lv_has ls 5 [(0, .ref (ad o)), (1, .int l1), (2, .int l2), (3, .int l3)] → W p l e R s m args below meth c H locs cells slots Q (F0 m 37 ls [])) : ∀ (o : Nat) (l1 : Int32) (l2 : Int32) (l3 : Int32) (x : St) (H : Heap) (locs : List Loc) (ls : Array Slot), (o < NN ∧ kcC o = 9) → j_Qry_readPath_132 post rec37 o l1 l2 l3 x → Wd dC dI cI cB cJ cZ ad stC kcC NN A x H → va_S A s.heap H locs → lv_has ls 5 [(0, .ref (ad o)), (1, .int l1), (2, .int l2), (3, .int l3)] → W p l e R s m args below meth c H locs cells slots Q (F0 m 132 ls []) := by
  intro o l1 l2 l3 x H locs ls fo hw hW hS hl
  unfold j_Qry_readPath_132 at hw
  refine lv_iconst (v := 0) hx hb d_Qry_readPath_132 (by decide) ?_
  exact t_Qry_readPath_133 hx hb hml hown hT hK hN hA hRc hRs hRf hRl hNN hE hret hrec37 o l1 l2 l3 0 x H locs ls fo hw hW hS (lv_sub hl [0, 1, 2, 3] rfl)
set_option maxRecDepth 100000 in
set_option maxHeartbeats 4000000 in
set_option maxRecDepth 100000 in
theorem t_Qry_readPath_37 {p : Program} {l : Launch} {e : Env} {R : Room} {s : State} {m : MethodId} {args : Array Value} {below : List Frame} {meth : Method} {c : Code} {cells slots : Nat} {Q : State → Prop} {dC : Nat → ClassId} {dI : Nat → Nat → Nat} {cI cB cJ cZ : ClassId} {A : Nat → Prop} {ad : Nat → Nat} {NN : Nat} {E : Heap} {tM tC : Nat} {kK kV : Nat → Nat} {post : Int32 → St → Prop} {rec37 : Nat → Int32 → Int32 → Int32 → St → Prop} (hx : p.tables.exec = Jvm.exec) (hb : c.code = b_Qry_readPath) (hml : c.maxLocals = 5) (hown : s.vm.findClass R_Qry = some m.cls) (hT : ∀ w ∈ TG, w.before args s = true) (hK : va_K (dC, dI) CL (TY cI cB cJ cZ) s) (hN : NW s) (hA : ∀ q : Nat, s.heap.size ≤ q → A q) (hRc : cells ≤ R.cells) (hRs : slots ≤ R.slots) (hRf : 6 ≤ R.frames) (hRl : 242 ≤ R.locals) (hNN : 152 ≤ NN) (hE : CE E tM tC kK kV A s) (hret : ∀ (r : Int32) (x : St) (H : Heap) (locs : List Loc) (pc : Nat) (ls : Array Slot), decode b_Qry_readPath pc = .ok (.ireturn, 1) → post r x → Wd dC dI cI cB cJ cZ ad stC kcC NN A x H → va_S A s.heap H locs → W p l e R s m args below meth c H locs cells slots Q (F0 m pc ls [.int r])) (hrec37 : ∀ (o : Nat) (l1 : Int32) (l2 : Int32) (l3 : Int32) (x : St) (H : Heap) (locs : List Loc) (ls : Array Slot), (o < NN ∧ kcC o = 9) → rec37 o l1 l2 l3 x → Wd dC dI cI cB cJ cZ ad stC kcC NN A x H → va_S A s.heap H locs → lv_has ls 5 [(0, .ref (ad o)), (1, .int l1), (2, .int l2), (3, .int l3)] → W p l e R s m args below meth c H locs cells slots Q (F0 m 37 ls [])) : ∀ (o : Nat) (l1 : Int32) (l2 : Int32) (l3 : Int32) (x : St) (H : Heap) (locs : List Loc) (ls : Array Slot), (o < NN ∧ kcC o = 9) → j_Qry_readPath_37 post rec37 o l1 l2 l3 x → Wd dC dI cI cB cJ cZ ad stC kcC NN A x H → va_S A s.heap H locs → lv_has ls 5 [(0, .ref (ad o)), (1, .int l1), (2, .int l2), (3, .int l3)] → W p l e R s m args below meth c H locs cells slots Q (F0 m 37 ls []) := by
  intro o l1 l2 l3 x H locs ls fo hw hW hS hl
  unfold j_Qry_readPath_37 at hw
  refine lv_iload_n hx hb d_Qry_readPath_37 rfl (lv_at hl 3 rfl) ?_
  refine lv_aload_n hx hb d_Qry_readPath_38 rfl (lv_at hl 0 rfl) ?_
  obtain ⟨q20, hq20, hw⟩ := hw
  refine w_getr (q := q20) (k := 17) (t := 9) (C := R_Qry) (T := F_Qry) (N := 20) hx hb hT hown hK hW fo.1 fo.2 (by decide) in_Qry rfl rfl (by decide) rfl fr_Qry_17 w_3_105 d_Qry_readPath_39 hq20 (fun aq20 bq20 => ?_)
  have fq20 : q20 < NN ∧ kcC q20 = 2 := ⟨aq20, bq20⟩
  refine w_geti (k := 1) (t := 2) (C := R_Scn) (T := F_Scn) (N := 8) hx hb hT hown hK hW fq20.1 fq20.2 (by decide) in_Scn rfl rfl (by decide) rfl fr_Scn_1 w_1_82 d_Qry_readPath_42 ?_
  refine lv_icmp_gt (tgt := 226) hx hb d_Qry_readPath_45 (by decide) (fun c21 => ?_) (fun c21 => ?_)
  · have hw := hw.1 c21
    exact t_Qry_readPath_226 hx hb hml hown hT hK hN hA hRc hRs hRf hRl hNN hE hret  o l1 l2 l3 x H locs ls fo hw hW hS (lv_sub hl [0, 1, 2, 3] rfl)
  · have hw := hw.2 c21
    refine lv_iload_n hx hb d_Qry_readPath_48 rfl (lv_at hl 2 rfl) ?_
    refine lv_if_eq (tgt := 226) hx hb d_Qry_readPath_49 (by decide) (fun c22 => ?_) (fun c22 => ?_)
    · have hw := hw.1 c22
      exact t_Qry_readPath_226 hx hb hml hown hT hK hN hA hRc hRs hRf hRl hNN hE hret  o l1 l2 l3 x H locs ls fo hw hW hS (lv_sub hl [0, 1, 2, 3] rfl)
    · have hw := hw.2 c22
      refine lv_aload_n hx hb d_Qry_readPath_52 rfl (lv_at hl 0 rfl) ?_
      obtain ⟨q23, hq23, hw⟩ := hw
      refine w_getr (q := q23) (k := 17) (t := 9) (C := R_Qry) (T := F_Qry) (N := 20) hx hb hT hown hK hW fo.1 fo.2 (by decide) in_Qry rfl rfl (by decide) rfl fr_Qry_17 w_3_105 d_Qry_readPath_53 hq23 (fun aq23 bq23 => ?_)
      have fq23 : q23 < NN ∧ kcC q23 = 2 := ⟨aq23, bq23⟩
      refine lv_aload_n hx hb d_Qry_readPath_56 rfl (lv_at hl 0 rfl) ?_
      obtain ⟨q24, hq24, hw⟩ := hw
      refine w_getr (q := q24) (k := 17) (t := 9) (C := R_Qry) (T := F_Qry) (N := 20) hx hb hT hown hK hW fo.1 fo.2 (by decide) in_Qry rfl rfl (by decide) rfl fr_Qry_17 w_3_105 d_Qry_readPath_57 hq24 (fun aq24 bq24 => ?_)
      have fq24 : q24 < NN ∧ kcC q24 = 2 := ⟨aq24, bq24⟩
      refine w_geti (k := 2) (t := 2) (C := R_Scn) (T := F_Scn) (N := 8) hx hb hT hown hK hW fq24.1 fq24.2 (by decide) in_Scn rfl rfl (by decide) rfl fr_Scn_2 w_1_86 d_Qry_readPath_60 ?_
      have hF := hW.free hS hA
      refine va_calli (va_runV (C := R_Scn) (As := [.int (fI x q24 2)]) (rest := []) ⟨hx, hb, hml, hown, hT⟩ (k_Scn_byteAt l dC dI cI cB cJ cZ ad NN E tM tC kK kV hNN H.size q23 (fI x q24 2) x fq23 hw) ⟨callB_of 1 hT (gwt_in w_5_75) rfl rfl rfl (hT _ w_1_4) (hT _ w_7_167) (by decide +kernel) ⟨Nat.le_trans (Nat.le_of_ble_eq_true rfl) hRf, Nat.le_trans (Nat.le_of_ble_eq_true rfl) hRl⟩, hT _ w_5_73, hT _ w_5_74⟩ ⟨PVc.blind, va_recv hK hW.1 (ci := 2) (q0 := q23) rfl (pic_obj fq23.1 fq23.2 (by decide)), PVc.at _ hW hK hN hE hS hF⟩ rfl rfl hl.1 rfl (lv_room (Nat.le_of_ble_eq_true rfl)) d_Qry_readPath_63 ⟨hRc, hRs⟩) hS (fun q _ h => hF q h) hF (fun r26 x25 t H locs ht hvm hw hB hz1 hk1 hS => ?_)
      have hW := Wd.back hB ht hF
      clear hB ht hF hz1 hk1 hvm
      have hF := hW.free hS hA
      refine va_calli (va_runSN (As := [.int r26]) (rest := []) ⟨hx, hb, hml, hown, hT⟩ (k_V_isLetter l dC dI cI cB cJ cZ ad NN E tM tC kK kV hNN H.size r26 x25  hw) ⟨va_cnB 1 hT (gwt_in w_4_148) rfl rfl rfl (hN _ wn_7_168 rfl) (hT _ w_1_1) (by decide +kernel) ⟨Nat.le_trans (Nat.le_of_ble_eq_true rfl) hRf, Nat.le_trans (Nat.le_of_ble_eq_true rfl) hRl⟩, hT _ w_4_147, trivial⟩ ⟨PVc.blind, PVc.at _ hW hK hN hE hS hF⟩ rfl rfl hl.1 rfl (lv_room (Nat.le_of_ble_eq_true rfl)) d_Qry_readPath_66 ⟨hRc, hRs⟩) hS (fun q _ h => hF q h) hF (fun r28 x27 t H locs ht hvm hw hB hz1 hk1 hS => ?_)
      have hW := Wd.back hB ht hF
      clear hB ht hF hz1 hk1 hvm
      refine lv_if_ne (tgt := 88) hx hb d_Qry_readPath_69 (by decide) (fun c29 => ?_) (fun c29 => ?_)
      · have hw := hw.1 c29
        refine lv_aload_n hx hb d_Qry_readPath_88 rfl (lv_at hl 0 rfl) ?_
        obtain ⟨q30, hq30, hw⟩ := hw
        refine w_getr (q := q30) (k := 17) (t := 9) (C := R_Qry) (T := F_Qry) (N := 20) hx hb hT hown hK hW fo.1 fo.2 (by decide) in_Qry rfl rfl (by decide) rfl fr_Qry_17 w_3_105 d_Qry_readPath_89 hq30 (fun aq30 bq30 => ?_)
        have fq30 : q30 < NN ∧ kcC q30 = 2 := ⟨aq30, bq30⟩
        have hF := hW.free hS hA
        refine va_calli (va_runV (C := R_Scn) (As := []) (rest := []) ⟨hx, hb, hml, hown, hT⟩ (k_Scn_takeAnyWord l dC dI cI cB cJ cZ ad NN E tM tC kK kV hNN H.size q30 x27 fq30 hw) ⟨callB_of 0 hT (gwt_in w_4_145) rfl rfl rfl (hT _ w_1_4) (hT _ w_7_169) (by decide +kernel) ⟨Nat.le_trans (Nat.le_of_ble_eq_true rfl) hRf, Nat.le_trans (Nat.le_of_ble_eq_true rfl) hRl⟩, hT _ w_4_143, hT _ w_4_144⟩ ⟨PVc.blind, va_recv hK hW.1 (ci := 2) (q0 := q30) rfl (pic_obj fq30.1 fq30.2 (by decide)), PVc.at _ hW hK hN hE hS hF⟩ rfl rfl hl.1 rfl (lv_room (Nat.le_of_ble_eq_true rfl)) d_Qry_readPath_92 ⟨hRc, hRs⟩) hS (fun q _ h => hF q h) hF (fun r32 x31 t H locs ht hvm hw hB hz1 hk1 hS => ?_)
        have hW := Wd.back hB ht hF
        clear hB ht hF hz1 hk1 hvm
        refine lv_pop hx hb d_Qry_readPath_95 rfl ?_
        refine lv_aload_n hx hb d_Qry_readPath_96 rfl (lv_at hl 0 rfl) ?_
        have hF := hW.free hS hA
        refine va_calli (va_runV (C := R_Qry) (As := []) (rest := []) ⟨hx, hb, hml, hown, hT⟩ (k_Qry_isOwnWord l dC dI cI cB cJ cZ ad NN E tM tC kK kV hNN H.size o x31 fo hw) ⟨callB_of 0 hT (gwt_in w_7_173) rfl rfl rfl (hT _ w_1_12) (hT _ w_7_170) (by decide +kernel) ⟨Nat.le_trans (Nat.le_of_ble_eq_true rfl) hRf, Nat.le_trans (Nat.le_of_ble_eq_true rfl) hRl⟩, hT _ w_7_172, hT _ ws_72⟩ ⟨PVc.blind, va_recv hK hW.1 (ci := 9) (q0 := o) rfl (pic_obj fo.1 fo.2 (by decide)), PVc.at _ hW hK hN hE hS hF⟩ rfl rfl hl.1 rfl (lv_room (Nat.le_of_ble_eq_true rfl)) d_Qry_readPath_97 ⟨hRc, hRs⟩) hS (fun q _ h => hF q h) hF (fun r34 x33 t H locs ht hvm hw hB hz1 hk1 hS => ?_)
        have hW := Wd.back hB ht hF
        clear hB ht hF hz1 hk1 hvm
        refine lv_if_eq (tgt := 119) hx hb d_Qry_readPath_100 (by decide) (fun c35 => ?_) (fun c35 => ?_)
        · have hw := hw.1 c35
          refine lv_iload_n hx hb d_Qry_readPath_119 rfl (lv_at hl 3 rfl) ?_
          refine lv_if_le (tgt := 132) hx hb d_Qry_readPath_120 (by decide) (fun c36 => ?_) (fun c36 => ?_)
          · have hw := hw.1 c36
            exact t_Qry_readPath_132 hx hb hml hown hT hK hN hA hRc hRs hRf hRl hNN hE hret hrec37 o l1 l2 l3 x33 H locs ls fo hw hW hS (lv_sub hl [0, 1, 2, 3] rfl)
          · have hw := hw.2 c36
            refine lv_iload_n hx hb d_Qry_readPath_123 rfl (lv_at hl 1 rfl) ?_
            refine lv_iconst (v := (-1)) hx hb d_Qry_readPath_124 (by decide) ?_
            refine lv_icmp_ne (tgt := 132) hx hb d_Qry_readPath_125 (by decide) (fun c37 => ?_) (fun c37 => ?_)
            · have hw := hw.1 c37
              exact t_Qry_readPath_132 hx hb hml hown hT hK hN hA hRc hRs hRf hRl hNN hE hret hrec37 o l1 l2 l3 x33 H locs ls fo hw hW hS (lv_sub hl [0, 1, 2, 3] rfl)
            · have hw := hw.2 c37
              refine lv_iconst (v := 1) hx hb d_Qry_readPath_128 (by decide) ?_
              refine lv_goto (tgt := 133) hx hb d_Qry_readPath_129 (by decide) ?_
              exact t_Qry_readPath_133 hx hb hml hown hT hK hN hA hRc hRs hRf hRl hNN hE hret hrec37 o l1 l2 l3 1 x33 H locs ls fo hw hW hS (lv_sub hl [0, 1, 2, 3] rfl)
        · have hw := hw.2 c35
          refine lv_aload_n hx hb d_Qry_readPath_103 rfl (lv_at hl 0 rfl) ?_
          obtain ⟨q38, hq38, hw⟩ := hw
          refine w_getr (q := q38) (k := 17) (t := 9) (C := R_Qry) (T := F_Qry) (N := 20) hx hb hT hown hK hW fo.1 fo.2 (by decide) in_Qry rfl rfl (by decide) rfl fr_Qry_17 w_3_105 d_Qry_readPath_104 hq38 (fun aq38 bq38 => ?_)
          have fq38 : q38 < NN ∧ kcC q38 = 2 := ⟨aq38, bq38⟩
          refine lv_aload_n hx hb d_Qry_readPath_107 rfl (lv_at hl 0 rfl) ?_
          obtain ⟨q39, hq39, hw⟩ := hw
          refine w_getr (q := q39) (k := 17) (t := 9) (C := R_Qry) (T := F_Qry) (N := 20) hx hb hT hown hK hW fo.1 fo.2 (by decide) in_Qry rfl rfl (by decide) rfl fr_Qry_17 w_3_105 d_Qry_readPath_108 hq39 (fun aq39 bq39 => ?_)
          have fq39 : q39 < NN ∧ kcC q39 = 2 := ⟨aq39, bq39⟩
          refine w_geti (k := 4) (t := 2) (C := R_Scn) (T := F_Scn) (N := 8) hx hb hT hown hK hW fq39.1 fq39.2 (by decide) in_Scn rfl rfl (by decide) rfl fr_Scn_4 w_1_95 d_Qry_readPath_111 ?_
          have hF := hW.free hS hA
          refine va_callv (va_runV (C := R_Scn) (As := [.int (fI x33 q39 4)]) (rest := []) ⟨hx, hb, hml, hown, hT⟩ (k_Scn_refuse l dC dI cI cB cJ cZ ad NN E tM tC kK kV hNN H.size q38 (fI x33 q39 4) x33 fq38 hw) ⟨callB_of 1 hT (gwt_in w_4_128) rfl rfl rfl (hT _ w_1_4) (hT _ w_7_149) (by decide +kernel) ⟨Nat.le_trans (Nat.le_of_ble_eq_true rfl) hRf, Nat.le_trans (Nat.le_of_ble_eq_true rfl) hRl⟩, hT _ w_4_126, hT _ w_4_127⟩ ⟨PVc.blind, va_recv hK hW.1 (ci := 2) (q0 := q38) rfl (pic_obj fq38.1 fq38.2 (by decide)), PVc.at _ hW hK hN hE hS hF⟩ rfl rfl hl.1 rfl (lv_room (Nat.le_of_ble_eq_true rfl)) d_Qry_readPath_114 ⟨hRc, hRs⟩) hS (fun q _ h => hF q h) hF (fun  x40 t H locs ht hvm hw hB hz1 hk1 hS => ?_)
          have hW := Wd.back hB ht hF
          clear hB ht hF hz1 hk1 hvm
          refine lv_iconst (v := (-1)) hx hb d_Qry_readPath_117 (by decide) ?_
          exact hret (-1) x40 H locs 118 ls d_Qry_readPath_118 hw hW hS
      · have hw := hw.2 c29
        refine lv_aload_n hx hb d_Qry_readPath_72 rfl (lv_at hl 0 rfl) ?_
        obtain ⟨q41, hq41, hw⟩ := hw
        refine w_getr (q := q41) (k := 17) (t := 9) (C := R_Qry) (T := F_Qry) (N := 20) hx hb hT hown hK hW fo.1 fo.2 (by decide) in_Qry rfl rfl (by decide) rfl fr_Qry_17 w_3_105 d_Qry_readPath_73 hq41 (fun aq41 bq41 => ?_)
        have fq41 : q41 < NN ∧ kcC q41 = 2 := ⟨aq41, bq41⟩
        refine lv_aload_n hx hb d_Qry_readPath_76 rfl (lv_at hl 0 rfl) ?_
        obtain ⟨q42, hq42, hw⟩ := hw
        refine w_getr (q := q42) (k := 17) (t := 9) (C := R_Qry) (T := F_Qry) (N := 20) hx hb hT hown hK hW fo.1 fo.2 (by decide) in_Qry rfl rfl (by decide) rfl fr_Qry_17 w_3_105 d_Qry_readPath_77 hq42 (fun aq42 bq42 => ?_)
        have fq42 : q42 < NN ∧ kcC q42 = 2 := ⟨aq42, bq42⟩
        refine w_geti (k := 2) (t := 2) (C := R_Scn) (T := F_Scn) (N := 8) hx hb hT hown hK hW fq42.1 fq42.2 (by decide) in_Scn rfl rfl (by decide) rfl fr_Scn_2 w_1_86 d_Qry_readPath_80 ?_
        have hF := hW.free hS hA
        refine va_callv (va_runV (C := R_Scn) (As := [.int (fI x27 q42 2)]) (rest := []) ⟨hx, hb, hml, hown, hT⟩ (k_Scn_refuse l dC dI cI cB cJ cZ ad NN E tM tC kK kV hNN H.size q41 (fI x27 q42 2) x27 fq41 hw) ⟨callB_of 1 hT (gwt_in w_4_128) rfl rfl rfl (hT _ w_1_4) (hT _ w_7_149) (by decide +kernel) ⟨Nat.le_trans (Nat.le_of_ble_eq_true rfl) hRf, Nat.le_trans (Nat.le_of_ble_eq_true rfl) hRl⟩, hT _ w_4_126, hT _ w_4_127⟩ ⟨PVc.blind, va_recv hK hW.1 (ci := 2) (q0 := q41) rfl (pic_obj fq41.1 fq41.2 (by decide)), PVc.at _ hW hK hN hE hS hF⟩ rfl rfl hl.1 rfl (lv_room (Nat.le_of_ble_eq_true rfl)) d_Qry_readPath_83 ⟨hRc, hRs⟩) hS (fun q _ h => hF q h) hF (fun  x43 t H locs ht hvm hw hB hz1 hk1 hS => ?_)
        have hW := Wd.back hB ht hF
        clear hB ht hF hz1 hk1 hvm
        refine lv_iconst (v := (-1)) hx hb d_Qry_readPath_86 (by decide) ?_
        exact hret (-1) x43 H locs 87 ls d_Qry_readPath_87 hw hW hS
set_option maxHeartbeats 4000000 in
set_option maxRecDepth 100000 in
theorem tl_Qry_readPath_37 {p : Program} {l : Launch} {e : Env} {R : Room} {s : State} {m : MethodId} {args : Array Value} {below : List Frame} {meth : Method} {c : Code} {cells slots : Nat} {Q : State → Prop} {dC : Nat → ClassId} {dI : Nat → Nat → Nat} {cI cB cJ cZ : ClassId} {A : Nat → Prop} {ad : Nat → Nat} {NN : Nat} {E : Heap} {tM tC : Nat} {kK kV : Nat → Nat} {post : Int32 → St → Prop} (hx : p.tables.exec = Jvm.exec) (hb : c.code = b_Qry_readPath) (hml : c.maxLocals = 5) (hown : s.vm.findClass R_Qry = some m.cls) (hT : ∀ w ∈ TG, w.before args s = true) (hK : va_K (dC, dI) CL (TY cI cB cJ cZ) s) (hN : NW s) (hA : ∀ q : Nat, s.heap.size ≤ q → A q) (hRc : cells ≤ R.cells) (hRs : slots ≤ R.slots) (hRf : 6 ≤ R.frames) (hRl : 242 ≤ R.locals) (hNN : 152 ≤ NN) (hE : CE E tM tC kK kV A s) (hret : ∀ (r : Int32) (x : St) (H : Heap) (locs : List Loc) (pc : Nat) (ls : Array Slot), decode b_Qry_readPath pc = .ok (.ireturn, 1) → post r x → Wd dC dI cI cB cJ cZ ad stC kcC NN A x H → va_S A s.heap H locs → W p l e R s m args below meth c H locs cells slots Q (F0 m pc ls [.int r]))  : ∀ n : Nat, ∀ (o : Nat) (l1 : Int32) (l2 : Int32) (l3 : Int32) (x : St) (H : Heap) (locs : List Loc) (ls : Array Slot), (o < NN ∧ kcC o = 9) → wl_Qry_readPath_37 post n o l1 l2 l3 x → Wd dC dI cI cB cJ cZ ad stC kcC NN A x H → va_S A s.heap H locs → lv_has ls 5 [(0, .ref (ad o)), (1, .int l1), (2, .int l2), (3, .int l3)] → W p l e R s m args below meth c H locs cells slots Q (F0 m 37 ls []) := by
  intro n
  induction n with
  | zero => intro o l1 l2 l3 x H locs ls fo hw; exact hw.elim
  | succ n ih => intro o l1 l2 l3 x H locs ls fo hw hW hS hl; exact t_Qry_readPath_37 hx hb hml hown hT hK hN hA hRc hRs hRf hRl hNN hE hret  ih o l1 l2 l3 x H locs ls fo hw hW hS hl
set_option maxRecDepth 100000 in
set_option maxHeartbeats 4000000 in
set_option maxRecDepth 100000 in
theorem t_Qry_readPath_e {p : Program} {l : Launch} {e : Env} {R : Room} {s : State} {m : MethodId} {args : Array Value} {below : List Frame} {meth : Method} {c : Code} {cells slots : Nat} {Q : State → Prop} {dC : Nat → ClassId} {dI : Nat → Nat → Nat} {cI cB cJ cZ : ClassId} {A : Nat → Prop} {ad : Nat → Nat} {NN : Nat} {E : Heap} {tM tC : Nat} {kK kV : Nat → Nat} {post : Int32 → St → Prop} (hx : p.tables.exec = Jvm.exec) (hb : c.code = b_Qry_readPath) (hml : c.maxLocals = 5) (hown : s.vm.findClass R_Qry = some m.cls) (hT : ∀ w ∈ TG, w.before args s = true) (hK : va_K (dC, dI) CL (TY cI cB cJ cZ) s) (hN : NW s) (hA : ∀ q : Nat, s.heap.size ≤ q → A q) (hRc : cells ≤ R.cells) (hRs : slots ≤ R.slots) (hRf : 6 ≤ R.frames) (hRl : 242 ≤ R.locals) (hNN : 152 ≤ NN) (hE : CE E tM tC kK kV A s) (hret : ∀ (r : Int32) (x : St) (H : Heap) (locs : List Loc) (pc : Nat) (ls : Array Slot), decode b_Qry_readPath pc = .ok (.ireturn, 1) → post r x → Wd dC dI cI cB cJ cZ ad stC kcC NN A x H → va_S A s.heap H locs → W p l e R s m args below meth c H locs cells slots Q (F0 m pc ls [.int r])) : ∀ (o : Nat) (x : St) (H : Heap) (locs : List Loc) (ls : Array Slot), (o < NN ∧ kcC o = 9) → wp_Qry_readPath post o x → Wd dC dI cI cB cJ cZ ad stC kcC NN A x H → va_S A s.heap H locs → lv_has ls 5 [(0, .ref (ad o))] → W p l e R s m args below meth c H locs cells slots Q (F0 m 0 ls []) := by
  intro o x H locs ls fo hw hW hS hl
  unfold wp_Qry_readPath at hw
  refine lv_aload_n hx hb d_Qry_readPath_0 rfl (lv_at hl 0 rfl) ?_
  obtain ⟨q44, hq44, hw⟩ := hw
  refine w_getr (q := q44) (k := 17) (t := 9) (C := R_Qry) (T := F_Qry) (N := 20) hx hb hT hown hK hW fo.1 fo.2 (by decide) in_Qry rfl rfl (by decide) rfl fr_Qry_17 w_3_105 d_Qry_readPath_1 hq44 (fun aq44 bq44 => ?_)
  have fq44 : q44 < NN ∧ kcC q44 = 2 := ⟨aq44, bq44⟩
  have hF := hW.free hS hA
  refine va_calli (va_runV (C := R_Scn) (As := []) (rest := []) ⟨hx, hb, hml, hown, hT⟩ (k_Scn_good l dC dI cI cB cJ cZ ad NN E tM tC kK kV hNN H.size q44 x fq44 hw) ⟨callB_of 0 hT (gwt_in w_4_106) rfl rfl rfl (hT _ w_1_4) (hT _ w_7_147) (by decide +kernel) ⟨Nat.le_trans (Nat.le_of_ble_eq_true rfl) hRf, Nat.le_trans (Nat.le_of_ble_eq_true rfl) hRl⟩, hT _ w_4_104, hT _ w_4_105⟩ ⟨PVc.blind, va_recv hK hW.1 (ci := 2) (q0 := q44) rfl (pic_obj fq44.1 fq44.2 (by decide)), PVc.at _ hW hK hN hE hS hF⟩ rfl rfl hl.1 rfl (lv_room (Nat.le_of_ble_eq_true rfl)) d_Qry_readPath_4 ⟨hRc, hRs⟩) hS (fun q _ h => hF q h) hF (fun r46 x45 t H locs ht hvm hw hB hz1 hk1 hS => ?_)
  have hW := Wd.back hB ht hF
  clear hB ht hF hz1 hk1 hvm
  refine lv_if_ne (tgt := 12) hx hb d_Qry_readPath_7 (by decide) (fun c47 => ?_) (fun c47 => ?_)
  · have hw := hw.1 c47
    refine lv_aload_n hx hb d_Qry_readPath_12 rfl (lv_at hl 0 rfl) ?_
    obtain ⟨q48, hq48, hw⟩ := hw
    refine w_getr (q := q48) (k := 17) (t := 9) (C := R_Qry) (T := F_Qry) (N := 20) hx hb hT hown hK hW fo.1 fo.2 (by decide) in_Qry rfl rfl (by decide) rfl fr_Qry_17 w_3_105 d_Qry_readPath_13 hq48 (fun aq48 bq48 => ?_)
    have fq48 : q48 < NN ∧ kcC q48 = 2 := ⟨aq48, bq48⟩
    have hF := hW.free hS hA
    refine va_calli (va_runV (C := R_Scn) (As := []) (rest := []) ⟨hx, hb, hml, hown, hT⟩ (k_Scn_next l dC dI cI cB cJ cZ ad NN E tM tC kK kV hNN H.size q48 x45 fq48 hw) ⟨callB_of 0 hT (gwt_in w_4_110) rfl rfl rfl (hT _ w_1_4) (hT _ w_7_148) (by decide +kernel) ⟨Nat.le_trans (Nat.le_of_ble_eq_true rfl) hRf, Nat.le_trans (Nat.le_of_ble_eq_true rfl) hRl⟩, hT _ w_4_108, hT _ w_4_109⟩ ⟨PVc.blind, va_recv hK hW.1 (ci := 2) (q0 := q48) rfl (pic_obj fq48.1 fq48.2 (by decide)), PVc.at _ hW hK hN hE hS hF⟩ rfl rfl hl.1 rfl (lv_room (Nat.le_of_ble_eq_true rfl)) d_Qry_readPath_16 ⟨hRc, hRs⟩) hS (fun q _ h => hF q h) hF (fun r50 x49 t H locs ht hvm hw hB hz1 hk1 hS => ?_)
    have hW := Wd.back hB ht hF
    clear hB ht hF hz1 hk1 hvm
    refine lv_pop hx hb d_Qry_readPath_19 rfl ?_
    refine lv_aload_n hx hb d_Qry_readPath_20 rfl (lv_at hl 0 rfl) ?_
    refine lv_aload_n hx hb d_Qry_readPath_21 rfl (lv_at hl 0 rfl) ?_
    obtain ⟨q51, hq51, hw⟩ := hw
    refine w_getr (q := q51) (k := 17) (t := 9) (C := R_Qry) (T := F_Qry) (N := 20) hx hb hT hown hK hW fo.1 fo.2 (by decide) in_Qry rfl rfl (by decide) rfl fr_Qry_17 w_3_105 d_Qry_readPath_22 hq51 (fun aq51 bq51 => ?_)
    have fq51 : q51 < NN ∧ kcC q51 = 2 := ⟨aq51, bq51⟩
    refine w_geti (k := 2) (t := 2) (C := R_Scn) (T := F_Scn) (N := 8) hx hb hT hown hK hW fq51.1 fq51.2 (by decide) in_Scn rfl rfl (by decide) rfl fr_Scn_2 w_1_86 d_Qry_readPath_25 ?_
    refine w_puti (ty := .int) (k := 19) (t := 9) (C := R_Qry) (T := F_Qry) (N := 20) hx hb hT hown hK hW hS fo.1 fo.2 (by decide) in_Qry t_Qry t_Qry_ok n_Qry rfl rfl (by decide) rfl fr_Qry_19 w_3_107 (by decide +kernel) rfl rfl d_Qry_readPath_28 (fun H locs hW hS => ?_)
    obtain ⟨x52, ex52⟩ : ∃ y : St, y = setI x49 o 19 (fI x49 q51 2) := ⟨_, rfl⟩
    rw [← ex52] at hW
    have hw := hw x52 ex52
    refine lv_iconst (v := (-1)) hx hb d_Qry_readPath_31 (by decide) ?_
    refine lv_istore_n (lv' := [(1, .int (-1)), (0, .ref (ad o))]) hx hb d_Qry_readPath_32 rfl hl (by decide) rfl (fun ls hl => ?_)
    refine lv_iconst (v := 1) hx hb d_Qry_readPath_33 (by decide) ?_
    refine lv_istore_n (lv' := [(2, .int 1), (1, .int (-1)), (0, .ref (ad o))]) hx hb d_Qry_readPath_34 rfl hl (by decide) rfl (fun ls hl => ?_)
    refine lv_iconst (v := 0) hx hb d_Qry_readPath_35 (by decide) ?_
    refine lv_istore_n (lv' := [(3, .int 0), (2, .int 1), (1, .int (-1)), (0, .ref (ad o))]) hx hb d_Qry_readPath_36 rfl hl (by decide) rfl (fun ls hl => ?_)
    obtain ⟨n, hw⟩ := hw
    exact tl_Qry_readPath_37 hx hb hml hown hT hK hN hA hRc hRs hRf hRl hNN hE hret  n o (-1) 1 0 x52 H locs ls fo hw hW hS (lv_sub hl [3, 2, 1, 0] rfl)
  · have hw := hw.2 c47
    refine lv_iconst (v := (-1)) hx hb d_Qry_readPath_10 (by decide) ?_
    exact hret (-1) x45 H locs 11 ls d_Qry_readPath_11 hw hW hS
set_option maxHeartbeats 4000000 in
set_option maxRecDepth 100000 in
theorem k_Qry_readPath (l : Launch) (dC : Nat → ClassId) (dI : Nat → Nat → Nat) (cI cB cJ cZ : ClassId) (ad : Nat → Nat) (NN : Nat) (E : Heap) (tM tC : Nat) (kK kV : Nat → Nat) (hNN : 152 ≤ NN) (sz : Nat) (o : Nat) (x : St) (fo : o < NN ∧ kcC o = 9) {post : Int32 → St → Prop} (hw : wp_Qry_readPath post o x) : Met l y_Qry_readPath (wsOf y_Qry_readPath b_Qry_readPath 5 (some (.int))) ({ frames := 6, cells := 0, slots := 0, locals := 242 }) (va_Pc [.ref (ad o)] (PVc dC dI cI cB cJ cZ ad stC kcC NN E tM tC kK kV sz x)) (va_Qi (fun (r : Int32) (y : St) => post r y) (fun y t => Wd dC dI cI cB cJ cZ ad stC kcC NN (va_A (pic ad stC kcC NN cI cB cJ cZ x) sz) y t.heap) (va_A (pic ad stC kcC NN cI cB cJ cZ x) sz)) 0 0 (va_A (pic ad stC kcC NN cI cB cJ cZ x) sz) := by
  refine Met.ofW (cc := b_Qry_readPath) (maxL := 5) (ret := some (.int)) (by decide) rfl ?_
  intro p e s m args below meth c s₁ B hml hv
  obtain ⟨rfl, ⟨hsz, hW0, hK, hN⟩, hE⟩ := hv
  have hx := B.exec
  have hb := B.bytes
  have hr := B.returns
  have hts := atoms_spec B.pre
  have hT : ∀ w ∈ TG, w.before _ s = true := fun w h => hts w (List.mem_cons_of_mem _ h)
  have hown : s.vm.findClass R_Qry = some m.cls := findClass_of_methodNamed B.named
  have hlocks := B.notSynchronized
  subst hsz
  have hW : Wd dC dI cI cB cJ cZ ad stC kcC NN (va_A (pic ad stC kcC NN cI cB cJ cZ x) s.heap.size) x s.heap := ⟨hW0.1, hW0.2.1.self (sz := s.heap.size), hW0.2.2⟩
  generalize hAe : va_A (pic ad stC kcC NN cI cB cJ cZ x) s.heap.size = A at hW hE ⊢
  have hA : ∀ q : Nat, s.heap.size ≤ q → A q := fun q h => by rw [← hAe]; exact Or.inr h
  have hS : va_S A s.heap s.heap [] := va_S.rf
  have hl := lv_entry ([.ref (ad o)]) (n := 5) (Nat.le_of_ble_eq_true rfl)
  rw [lg_entry_eq]
  generalize (lg_sl ([.ref (ad o)]) ++ List.replicate (5 - (lg_sl ([.ref (ad o)])).length) Slot.unset).toArray = ls at hl ⊢
  have hl : lv_has ls 5 [(0, .ref (ad o))] := hl
  exact t_Qry_readPath_e hx hb hml hown hT hK hN hA (Nat.le_refl 0) (Nat.le_refl 0) (Nat.le_refl 6) (Nat.le_refl 242) hNN hE (fun r x H locs pc ls hd hp hW hS => W.iret (v := r) hx hb hr (fun t ht hM => ⟨⟨r, x, rfl, hp, Wd.back hW ht.symm (fun _ z => z)⟩, hS.F ht⟩) hS.2.2 hd hlocks)  o x _ _ ls fo hw hW hS hl
set_option maxRecDepth 100000 in
set_option maxHeartbeats 4000000 in
set_option maxRecDepth 100000 in
theorem t_Sch_isFlatColumn_23 {p : Program} {l : Launch} {e : Env} {R : Room} {s : State} {m : MethodId} {args : Array Value} {below : List Frame} {meth : Method} {c : Code} {cells slots : Nat} {Q : State → Prop} {dC : Nat → ClassId} {dI : Nat → Nat → Nat} {cI cB cJ cZ : ClassId} {A : Nat → Prop} {ad : Nat → Nat} {NN : Nat} {E : Heap} {tM tC : Nat} {kK kV : Nat → Nat} {post : Int32 → St → Prop} (hx : p.tables.exec = Jvm.exec) (hb : c.code = b_Sch_isFlatColumn) (hml : c.maxLocals = 2) (hown : s.vm.findClass R_Sch = some m.cls) (hT : ∀ w ∈ TG, w.before args s = true) (hK : va_K (dC, dI) CL (TY cI cB cJ cZ) s) (hN : NW s) (hA : ∀ q : Nat, s.heap.size ≤ q → A q) (hRc : cells ≤ R.cells) (hRs : slots ≤ R.slots) (hRf : 0 ≤ R.frames) (hRl : 0 ≤ R.locals) (hNN : 152 ≤ NN) (hE : CE E tM tC kK kV A s) (hret : ∀ (r : Int32) (x : St) (H : Heap) (locs : List Loc) (pc : Nat) (ls : Array Slot), decode b_Sch_isFlatColumn pc = .ok (.ireturn, 1) → narrow .boolean (.int r) = .int r → post r x → Wd dC dI cI cB cJ cZ ad stC kcC NN A x H → va_S A s.heap H locs → W p l e R s m args below meth c H locs cells slots Q (F0 m pc ls [.int r]))  : ∀ (o : Nat) (l1 : Int32) (x : St) (H : Heap) (locs : List Loc) (ls : Array Slot), (o < NN ∧ kcC o = 3) → j_Sch_isFlatColumn_23 post o l1 x → Wd dC dI cI cB cJ cZ ad stC kcC NN A x H → va_S A s.heap H locs → lv_has ls 2 [(0, .ref (ad o)), (1, .int l1)] → W p l e R s m args below meth c H locs cells slots Q (F0 m 23 ls []) := by
  intro o l1 x H locs ls fo hw hW hS hl
  unfold j_Sch_isFlatColumn_23 at hw
  refine lv_iconst (v := 0) hx hb d_Sch_isFlatColumn_23 (by decide) ?_
  exact hret 0 x H locs 24 ls d_Sch_isFlatColumn_24 rfl hw hW hS
set_option maxRecDepth 100000 in
set_option maxHeartbeats 4000000 in
set_option maxRecDepth 100000 in
theorem t_Sch_isFlatColumn_e {p : Program} {l : Launch} {e : Env} {R : Room} {s : State} {m : MethodId} {args : Array Value} {below : List Frame} {meth : Method} {c : Code} {cells slots : Nat} {Q : State → Prop} {dC : Nat → ClassId} {dI : Nat → Nat → Nat} {cI cB cJ cZ : ClassId} {A : Nat → Prop} {ad : Nat → Nat} {NN : Nat} {E : Heap} {tM tC : Nat} {kK kV : Nat → Nat} {post : Int32 → St → Prop} (hx : p.tables.exec = Jvm.exec) (hb : c.code = b_Sch_isFlatColumn) (hml : c.maxLocals = 2) (hown : s.vm.findClass R_Sch = some m.cls) (hT : ∀ w ∈ TG, w.before args s = true) (hK : va_K (dC, dI) CL (TY cI cB cJ cZ) s) (hN : NW s) (hA : ∀ q : Nat, s.heap.size ≤ q → A q) (hRc : cells ≤ R.cells) (hRs : slots ≤ R.slots) (hRf : 0 ≤ R.frames) (hRl : 0 ≤ R.locals) (hNN : 152 ≤ NN) (hE : CE E tM tC kK kV A s) (hret : ∀ (r : Int32) (x : St) (H : Heap) (locs : List Loc) (pc : Nat) (ls : Array Slot), decode b_Sch_isFlatColumn pc = .ok (.ireturn, 1) → narrow .boolean (.int r) = .int r → post r x → Wd dC dI cI cB cJ cZ ad stC kcC NN A x H → va_S A s.heap H locs → W p l e R s m args below meth c H locs cells slots Q (F0 m pc ls [.int r])) : ∀ (o : Nat) (l1 : Int32) (x : St) (H : Heap) (locs : List Loc) (ls : Array Slot), (o < NN ∧ kcC o = 3) → wp_Sch_isFlatColumn post o l1 x → Wd dC dI cI cB cJ cZ ad stC kcC NN A x H → va_S A s.heap H locs → lv_has ls 2 [(0, .ref (ad o)), (1, .int l1)] → W p l e R s m args below meth c H locs cells slots Q (F0 m 0 ls []) := by
  intro o l1 x H locs ls fo hw hW hS hl
  unfold wp_Sch_isFlatColumn at hw
  refine lv_aload_n hx hb d_Sch_isFlatColumn_0 rfl (lv_at hl 0 rfl) ?_
  refine w_getf (q := (stC o 5)) (k := 5) (t := 3) (C := R_Sch) (T := F_Sch) (N := 13) hx hb hT hown hK hW fo.1 fo.2 (by decide) in_Sch rfl rfl (by decide) rfl fr_Sch_5 w_1_157 d_Sch_isFlatColumn_1 rfl ?_
  refine lv_iload_n hx hb d_Sch_isFlatColumn_4 rfl (lv_at hl 1 rfl) ?_
  obtain ⟨hi, hw⟩ := hw
  refine w_iald (o := (stC o 5)) hx hb hK hW (st_ty hNN fo.1 fo.2 rfl).1 (st_ty hNN fo.1 fo.2 rfl).2 hi d_Sch_isFlatColumn_5 ?_
  refine lv_if_ne (tgt := 23) hx hb d_Sch_isFlatColumn_6 (by decide) (fun c1 => ?_) (fun c1 => ?_)
  · have hw := hw.1 c1
    exact t_Sch_isFlatColumn_23 hx hb hml hown hT hK hN hA hRc hRs hRf hRl hNN hE hret  o l1 x H locs ls fo hw hW hS (lv_sub hl [0, 1] rfl)
  · have hw := hw.2 c1
    refine lv_aload_n hx hb d_Sch_isFlatColumn_9 rfl (lv_at hl 0 rfl) ?_
    refine w_getf (q := (stC o 3)) (k := 3) (t := 3) (C := R_Sch) (T := F_Sch) (N := 13) hx hb hT hown hK hW fo.1 fo.2 (by decide) in_Sch rfl rfl (by decide) rfl fr_Sch_3 w_1_145 d_Sch_isFlatColumn_10 rfl ?_
    refine lv_iload_n hx hb d_Sch_isFlatColumn_13 rfl (lv_at hl 1 rfl) ?_
    obtain ⟨hi, hw⟩ := hw
    refine w_iald (o := (stC o 3)) hx hb hK hW (st_ty hNN fo.1 fo.2 rfl).1 (st_ty hNN fo.1 fo.2 rfl).2 hi d_Sch_isFlatColumn_14 ?_
    refine lv_iconst (v := 4) hx hb d_Sch_isFlatColumn_15 (by decide) ?_
    refine lv_icmp_eq (tgt := 23) hx hb d_Sch_isFlatColumn_16 (by decide) (fun c2 => ?_) (fun c2 => ?_)
    · have hw := hw.1 c2
      exact t_Sch_isFlatColumn_23 hx hb hml hown hT hK hN hA hRc hRs hRf hRl hNN hE hret  o l1 x H locs ls fo hw hW hS (lv_sub hl [0, 1] rfl)
    · have hw := hw.2 c2
      refine lv_iconst (v := 1) hx hb d_Sch_isFlatColumn_19 (by decide) ?_
      refine lv_goto (tgt := 24) hx hb d_Sch_isFlatColumn_20 (by decide) ?_
      exact hret 1 x H locs 24 ls d_Sch_isFlatColumn_24 rfl hw hW hS
set_option maxHeartbeats 4000000 in
set_option maxRecDepth 100000 in
theorem k_Sch_isFlatColumn (l : Launch) (dC : Nat → ClassId) (dI : Nat → Nat → Nat) (cI cB cJ cZ : ClassId) (ad : Nat → Nat) (NN : Nat) (E : Heap) (tM tC : Nat) (kK kV : Nat → Nat) (hNN : 152 ≤ NN) (sz : Nat) (o : Nat) (l1 : Int32) (x : St) (fo : o < NN ∧ kcC o = 3) {post : Int32 → St → Prop} (hw : wp_Sch_isFlatColumn post o l1 x) : Met l y_Sch_isFlatColumn (wsOf y_Sch_isFlatColumn b_Sch_isFlatColumn 2 (some (.boolean))) ({ frames := 0, cells := 0, slots := 0, locals := 0 }) (va_Pc [.ref (ad o), .int l1] (PVc dC dI cI cB cJ cZ ad stC kcC NN E tM tC kK kV sz x)) (va_Qi (fun (r : Int32) (y : St) => post r y) (fun y t => Wd dC dI cI cB cJ cZ ad stC kcC NN (va_A (pic ad stC kcC NN cI cB cJ cZ x) sz) y t.heap) (va_A (pic ad stC kcC NN cI cB cJ cZ x) sz)) 0 0 (va_A (pic ad stC kcC NN cI cB cJ cZ x) sz) := by
  refine Met.ofW (cc := b_Sch_isFlatColumn) (maxL := 2) (ret := some (.boolean)) (by decide) rfl ?_
  intro p e s m args below meth c s₁ B hml hv
  obtain ⟨rfl, ⟨hsz, hW0, hK, hN⟩, hE⟩ := hv
  have hx := B.exec
  have hb := B.bytes
  have hr := B.returns
  have hts := atoms_spec B.pre
  have hT : ∀ w ∈ TG, w.before _ s = true := fun w h => hts w (List.mem_cons_of_mem _ h)
  have hown : s.vm.findClass R_Sch = some m.cls := findClass_of_methodNamed B.named
  have hlocks := B.notSynchronized
  subst hsz
  have hW : Wd dC dI cI cB cJ cZ ad stC kcC NN (va_A (pic ad stC kcC NN cI cB cJ cZ x) s.heap.size) x s.heap := ⟨hW0.1, hW0.2.1.self (sz := s.heap.size), hW0.2.2⟩
  generalize hAe : va_A (pic ad stC kcC NN cI cB cJ cZ x) s.heap.size = A at hW hE ⊢
  have hA : ∀ q : Nat, s.heap.size ≤ q → A q := fun q h => by rw [← hAe]; exact Or.inr h
  have hS : va_S A s.heap s.heap [] := va_S.rf
  have hl := lv_entry ([.ref (ad o), .int l1]) (n := 2) (Nat.le_of_ble_eq_true rfl)
  rw [lg_entry_eq]
  generalize (lg_sl ([.ref (ad o), .int l1]) ++ List.replicate (2 - (lg_sl ([.ref (ad o), .int l1])).length) Slot.unset).toArray = ls at hl ⊢
  have hl : lv_has ls 2 [(0, .ref (ad o)), (1, .int l1)] := hl
  exact t_Sch_isFlatColumn_e hx hb hml hown hT hK hN hA (Nat.le_refl 0) (Nat.le_refl 0) (Nat.le_refl 0) (Nat.le_refl 0) hNN hE (fun r x H locs pc ls hd hz hp hW hS => W.zret (v := r) (ty := .boolean) hx hb hr hz (fun t ht hM => ⟨⟨r, x, rfl, hp, Wd.back hW ht.symm (fun _ z => z)⟩, hS.F ht⟩) hS.2.2 hd hlocks)  o l1 x _ _ ls fo hw hW hS hl
set_option maxRecDepth 100000 in
set_option maxHeartbeats 4000000 in
set_option maxRecDepth 100000 in
theorem t_Qry_readColumn_37 {p : Program} {l : Launch} {e : Env} {R : Room} {s : State} {m : MethodId} {args : Array Value} {below : List Frame} {meth : Method} {c : Code} {cells slots : Nat} {Q : State → Prop} {dC : Nat → ClassId} {dI : Nat → Nat → Nat} {cI cB cJ cZ : ClassId} {A : Nat → Prop} {ad : Nat → Nat} {NN : Nat} {E : Heap} {tM tC : Nat} {kK kV : Nat → Nat} {post : Int32 → St → Prop} (hx : p.tables.exec = Jvm.exec) (hb : c.code = b_Qry_readColumn) (hml : c.maxLocals = 2) (hown : s.vm.findClass R_Qry = some m.cls) (hT : ∀ w ∈ TG, w.before args s = true) (hK : va_K (dC, dI) CL (TY cI cB cJ cZ) s) (hN : NW s) (hA : ∀ q : Nat, s.heap.size ≤ q → A q) (hRc : cells ≤ R.cells) (hRs : slots ≤ R.slots) (hRf : 7 ≤ R.frames) (hRl : 266 ≤ R.locals) (hNN : 152 ≤ NN) (hE : CE E tM tC kK kV A s) (hret : ∀ (r : Int32) (x : St) (H : Heap) (locs : List Loc) (pc : Nat) (ls : Array Slot), decode b_Qry_readColumn pc = .ok (.ireturn, 1) → post r x → Wd dC dI cI cB cJ cZ ad stC kcC NN A x H → va_S A s.heap H locs → W p l e R s m args below meth c H locs cells slots Q (F0 m pc ls [.int r]))  : ∀ (o : Nat) (l1 : Int32) (x : St) (H : Heap) (locs : List Loc) (ls : Array Slot), (o < NN ∧ kcC o = 9) → j_Qry_readColumn_37 post o l1 x → Wd dC dI cI cB cJ cZ ad stC kcC NN A x H → va_S A s.heap H locs → lv_has ls 2 [(0, .ref (ad o)), (1, .int l1)] → W p l e R s m args below meth c H locs cells slots Q (F0 m 37 ls []) := by
  intro o l1 x H locs ls fo hw hW hS hl
  unfold j_Qry_readColumn_37 at hw
  refine lv_iload_n hx hb d_Qry_readColumn_37 rfl (lv_at hl 1 rfl) ?_
  exact hret l1 x H locs 38 ls d_Qry_readColumn_38 hw hW hS
set_option maxRecDepth 100000 in
set_option maxHeartbeats 4000000 in
set_option maxRecDepth 100000 in
theorem t_Qry_readColumn_e {p : Program} {l : Launch} {e : Env} {R : Room} {s : State} {m : MethodId} {args : Array Value} {below : List Frame} {meth : Method} {c : Code} {cells slots : Nat} {Q : State → Prop} {dC : Nat → ClassId} {dI : Nat → Nat → Nat} {cI cB cJ cZ : ClassId} {A : Nat → Prop} {ad : Nat → Nat} {NN : Nat} {E : Heap} {tM tC : Nat} {kK kV : Nat → Nat} {post : Int32 → St → Prop} (hx : p.tables.exec = Jvm.exec) (hb : c.code = b_Qry_readColumn) (hml : c.maxLocals = 2) (hown : s.vm.findClass R_Qry = some m.cls) (hT : ∀ w ∈ TG, w.before args s = true) (hK : va_K (dC, dI) CL (TY cI cB cJ cZ) s) (hN : NW s) (hA : ∀ q : Nat, s.heap.size ≤ q → A q) (hRc : cells ≤ R.cells) (hRs : slots ≤ R.slots) (hRf : 7 ≤ R.frames) (hRl : 266 ≤ R.locals) (hNN : 152 ≤ NN) (hE : CE E tM tC kK kV A s) (hret : ∀ (r : Int32) (x : St) (H : Heap) (locs : List Loc) (pc : Nat) (ls : Array Slot), decode b_Qry_readColumn pc = .ok (.ireturn, 1) → post r x → Wd dC dI cI cB cJ cZ ad stC kcC NN A x H → va_S A s.heap H locs → W p l e R s m args below meth c H locs cells slots Q (F0 m pc ls [.int r])) : ∀ (o : Nat) (x : St) (H : Heap) (locs : List Loc) (ls : Array Slot), (o < NN ∧ kcC o = 9) → wp_Qry_readColumn post o x → Wd dC dI cI cB cJ cZ ad stC kcC NN A x H → va_S A s.heap H locs → lv_has ls 2 [(0, .ref (ad o))] → W p l e R s m args below meth c H locs cells slots Q (F0 m 0 ls []) := by
  intro o x H locs ls fo hw hW hS hl
  unfold wp_Qry_readColumn at hw
  refine lv_aload_n hx hb d_Qry_readColumn_0 rfl (lv_at hl 0 rfl) ?_
  have hF := hW.free hS hA
  refine va_calli (va_runV (C := R_Qry) (As := []) (rest := []) ⟨hx, hb, hml, hown, hT⟩ (k_Qry_readPath l dC dI cI cB cJ cZ ad NN E tM tC kK kV hNN H.size o x fo hw) ⟨callB_of 0 hT (gwt_in w_7_166) rfl rfl rfl (hT _ w_1_12) (hT _ w_7_163) (by decide +kernel) ⟨Nat.le_trans (Nat.le_of_ble_eq_true rfl) hRf, Nat.le_trans (Nat.le_of_ble_eq_true rfl) hRl⟩, hT _ w_7_165, hT _ ws_71⟩ ⟨PVc.blind, va_recv hK hW.1 (ci := 9) (q0 := o) rfl (pic_obj fo.1 fo.2 (by decide)), PVc.at _ hW hK hN hE hS hF⟩ rfl rfl hl.1 rfl (lv_room (Nat.le_of_ble_eq_true rfl)) d_Qry_readColumn_1 ⟨hRc, hRs⟩) hS (fun q _ h => hF q h) hF (fun r2 x1 t H locs ht hvm hw hB hz1 hk1 hS => ?_)
  have hW := Wd.back hB ht hF
  clear hB ht hF hz1 hk1 hvm
  refine lv_istore_n (lv' := [(1, .int r2), (0, .ref (ad o))]) hx hb d_Qry_readColumn_4 rfl hl (by decide) rfl (fun ls hl => ?_)
  refine lv_aload_n hx hb d_Qry_readColumn_5 rfl (lv_at hl 1 rfl) ?_
  obtain ⟨q3, hq3, hw⟩ := hw
  refine w_getr (q := q3) (k := 17) (t := 9) (C := R_Qry) (T := F_Qry) (N := 20) hx hb hT hown hK hW fo.1 fo.2 (by decide) in_Qry rfl rfl (by decide) rfl fr_Qry_17 w_3_105 d_Qry_readColumn_6 hq3 (fun aq3 bq3 => ?_)
  have fq3 : q3 < NN ∧ kcC q3 = 2 := ⟨aq3, bq3⟩
  have hF := hW.free hS hA
  refine va_calli (va_runV (C := R_Scn) (As := []) (rest := []) ⟨hx, hb, hml, hown, hT⟩ (k_Scn_good l dC dI cI cB cJ cZ ad NN E tM tC kK kV hNN H.size q3 x1 fq3 hw) ⟨callB_of 0 hT (gwt_in w_4_106) rfl rfl rfl (hT _ w_1_4) (hT _ w_7_147) (by decide +kernel) ⟨Nat.le_trans (Nat.le_of_ble_eq_true rfl) hRf, Nat.le_trans (Nat.le_of_ble_eq_true rfl) hRl⟩, hT _ w_4_104, hT _ w_4_105⟩ ⟨PVc.blind, va_recv hK hW.1 (ci := 2) (q0 := q3) rfl (pic_obj fq3.1 fq3.2 (by decide)), PVc.at _ hW hK hN hE hS hF⟩ rfl rfl hl.1 rfl (lv_room (Nat.le_of_ble_eq_true rfl)) d_Qry_readColumn_9 ⟨hRc, hRs⟩) hS (fun q _ h => hF q h) hF (fun r5 x4 t H locs ht hvm hw hB hz1 hk1 hS => ?_)
  have hW := Wd.back hB ht hF
  clear hB ht hF hz1 hk1 hvm
  refine lv_if_eq (tgt := 37) hx hb d_Qry_readColumn_12 (by decide) (fun c6 => ?_) (fun c6 => ?_)
  · have hw := hw.1 c6
    exact t_Qry_readColumn_37 hx hb hml hown hT hK hN hA hRc hRs hRf hRl hNN hE hret  o r2 x4 H locs ls fo hw hW hS (lv_sub hl [1, 0] rfl)
  · have hw := hw.2 c6
    refine lv_aload_n hx hb d_Qry_readColumn_15 rfl (lv_at hl 1 rfl) ?_
    obtain ⟨q7, hq7, hw⟩ := hw
    refine w_getr (q := q7) (k := 18) (t := 9) (C := R_Qry) (T := F_Qry) (N := 20) hx hb hT hown hK hW fo.1 fo.2 (by decide) in_Qry rfl rfl (by decide) rfl fr_Qry_18 w_3_106 d_Qry_readColumn_16 hq7 (fun aq7 bq7 => ?_)
    have fq7 : q7 < NN ∧ kcC q7 = 3 := ⟨aq7, bq7⟩
    refine lv_iload_n hx hb d_Qry_readColumn_19 rfl (lv_at hl 0 rfl) ?_
    have hF := hW.free hS hA
    refine va_calli (va_runV (C := R_Sch) (As := [.int r2]) (rest := []) ⟨hx, hb, hml, hown, hT⟩ (k_Sch_isFlatColumn l dC dI cI cB cJ cZ ad NN E tM tC kK kV hNN H.size q7 r2 x4 fq7 hw) ⟨callB_of 1 hT (gwt_in w_7_195) rfl rfl rfl (hT _ w_1_5) (hT _ w_7_192) (by decide +kernel) ⟨Nat.le_trans (Nat.le_of_ble_eq_true rfl) hRf, Nat.le_trans (Nat.le_of_ble_eq_true rfl) hRl⟩, hT _ w_7_193, hT _ w_7_194⟩ ⟨PVc.blind, va_recv hK hW.1 (ci := 3) (q0 := q7) rfl (pic_obj fq7.1 fq7.2 (by decide)), PVc.at _ hW hK hN hE hS hF⟩ rfl rfl hl.1 rfl (lv_room (Nat.le_of_ble_eq_true rfl)) d_Qry_readColumn_20 ⟨hRc, hRs⟩) hS (fun q _ h => hF q h) hF (fun r9 x8 t H locs ht hvm hw hB hz1 hk1 hS => ?_)
    have hW := Wd.back hB ht hF
    clear hB ht hF hz1 hk1 hvm
    refine lv_if_ne (tgt := 37) hx hb d_Qry_readColumn_23 (by decide) (fun c10 => ?_) (fun c10 => ?_)
    · have hw := hw.1 c10
      exact t_Qry_readColumn_37 hx hb hml hown hT hK hN hA hRc hRs hRf hRl hNN hE hret  o r2 x8 H locs ls fo hw hW hS (lv_sub hl [1, 0] rfl)
    · have hw := hw.2 c10
      refine lv_aload_n hx hb d_Qry_readColumn_26 rfl (lv_at hl 1 rfl) ?_
      obtain ⟨q11, hq11, hw⟩ := hw
      refine w_getr (q := q11) (k := 17) (t := 9) (C := R_Qry) (T := F_Qry) (N := 20) hx hb hT hown hK hW fo.1 fo.2 (by decide) in_Qry rfl rfl (by decide) rfl fr_Qry_17 w_3_105 d_Qry_readColumn_27 hq11 (fun aq11 bq11 => ?_)
      have fq11 : q11 < NN ∧ kcC q11 = 2 := ⟨aq11, bq11⟩
      refine lv_aload_n hx hb d_Qry_readColumn_30 rfl (lv_at hl 1 rfl) ?_
      refine w_geti (k := 19) (t := 9) (C := R_Qry) (T := F_Qry) (N := 20) hx hb hT hown hK hW fo.1 fo.2 (by decide) in_Qry rfl rfl (by decide) rfl fr_Qry_19 w_3_107 d_Qry_readColumn_31 ?_
      have hF := hW.free hS hA
      refine va_callv (va_runV (C := R_Scn) (As := [.int (fI x8 o 19)]) (rest := []) ⟨hx, hb, hml, hown, hT⟩ (k_Scn_refuse l dC dI cI cB cJ cZ ad NN E tM tC kK kV hNN H.size q11 (fI x8 o 19) x8 fq11 hw) ⟨callB_of 1 hT (gwt_in w_4_128) rfl rfl rfl (hT _ w_1_4) (hT _ w_7_149) (by decide +kernel) ⟨Nat.le_trans (Nat.le_of_ble_eq_true rfl) hRf, Nat.le_trans (Nat.le_of_ble_eq_true rfl) hRl⟩, hT _ w_4_126, hT _ w_4_127⟩ ⟨PVc.blind, va_recv hK hW.1 (ci := 2) (q0 := q11) rfl (pic_obj fq11.1 fq11.2 (by decide)), PVc.at _ hW hK hN hE hS hF⟩ rfl rfl hl.1 rfl (lv_room (Nat.le_of_ble_eq_true rfl)) d_Qry_readColumn_34 ⟨hRc, hRs⟩) hS (fun q _ h => hF q h) hF (fun  x12 t H locs ht hvm hw hB hz1 hk1 hS => ?_)
      have hW := Wd.back hB ht hF
      clear hB ht hF hz1 hk1 hvm
      exact t_Qry_readColumn_37 hx hb hml hown hT hK hN hA hRc hRs hRf hRl hNN hE hret  o r2 x12 H locs ls fo hw hW hS (lv_sub hl [1, 0] rfl)
set_option maxHeartbeats 4000000 in
set_option maxRecDepth 100000 in
theorem k_Qry_readColumn (l : Launch) (dC : Nat → ClassId) (dI : Nat → Nat → Nat) (cI cB cJ cZ : ClassId) (ad : Nat → Nat) (NN : Nat) (E : Heap) (tM tC : Nat) (kK kV : Nat → Nat) (hNN : 152 ≤ NN) (sz : Nat) (o : Nat) (x : St) (fo : o < NN ∧ kcC o = 9) {post : Int32 → St → Prop} (hw : wp_Qry_readColumn post o x) : Met l y_Qry_readColumn (wsOf y_Qry_readColumn b_Qry_readColumn 2 (some (.int))) ({ frames := 7, cells := 0, slots := 0, locals := 266 }) (va_Pc [.ref (ad o)] (PVc dC dI cI cB cJ cZ ad stC kcC NN E tM tC kK kV sz x)) (va_Qi (fun (r : Int32) (y : St) => post r y) (fun y t => Wd dC dI cI cB cJ cZ ad stC kcC NN (va_A (pic ad stC kcC NN cI cB cJ cZ x) sz) y t.heap) (va_A (pic ad stC kcC NN cI cB cJ cZ x) sz)) 0 0 (va_A (pic ad stC kcC NN cI cB cJ cZ x) sz) := by
  refine Met.ofW (cc := b_Qry_readColumn) (maxL := 2) (ret := some (.int)) (by decide) rfl ?_
  intro p e s m args below meth c s₁ B hml hv
  obtain ⟨rfl, ⟨hsz, hW0, hK, hN⟩, hE⟩ := hv
  have hx := B.exec
  have hb := B.bytes
  have hr := B.returns
  have hts := atoms_spec B.pre
  have hT : ∀ w ∈ TG, w.before _ s = true := fun w h => hts w (List.mem_cons_of_mem _ h)
  have hown : s.vm.findClass R_Qry = some m.cls := findClass_of_methodNamed B.named
  have hlocks := B.notSynchronized
  subst hsz
  have hW : Wd dC dI cI cB cJ cZ ad stC kcC NN (va_A (pic ad stC kcC NN cI cB cJ cZ x) s.heap.size) x s.heap := ⟨hW0.1, hW0.2.1.self (sz := s.heap.size), hW0.2.2⟩
  generalize hAe : va_A (pic ad stC kcC NN cI cB cJ cZ x) s.heap.size = A at hW hE ⊢
  have hA : ∀ q : Nat, s.heap.size ≤ q → A q := fun q h => by rw [← hAe]; exact Or.inr h
  have hS : va_S A s.heap s.heap [] := va_S.rf
  have hl := lv_entry ([.ref (ad o)]) (n := 2) (Nat.le_of_ble_eq_true rfl)
  rw [lg_entry_eq]
  generalize (lg_sl ([.ref (ad o)]) ++ List.replicate (2 - (lg_sl ([.ref (ad o)])).length) Slot.unset).toArray = ls at hl ⊢
  have hl : lv_has ls 2 [(0, .ref (ad o))] := hl
  exact t_Qry_readColumn_e hx hb hml hown hT hK hN hA (Nat.le_refl 0) (Nat.le_refl 0) (Nat.le_refl 7) (Nat.le_refl 266) hNN hE (fun r x H locs pc ls hd hp hW hS => W.iret (v := r) hx hb hr (fun t ht hM => ⟨⟨r, x, rfl, hp, Wd.back hW ht.symm (fun _ z => z)⟩, hS.F ht⟩) hS.2.2 hd hlocks)  o x _ _ ls fo hw hW hS hl
set_option maxRecDepth 100000 in
set_option maxHeartbeats 4000000 in
set_option maxRecDepth 100000 in
theorem t_Qry_isNumber_10 {p : Program} {l : Launch} {e : Env} {R : Room} {s : State} {m : MethodId} {args : Array Value} {below : List Frame} {meth : Method} {c : Code} {cells slots : Nat} {Q : State → Prop} {dC : Nat → ClassId} {dI : Nat → Nat → Nat} {cI cB cJ cZ : ClassId} {A : Nat → Prop} {ad : Nat → Nat} {NN : Nat} {E : Heap} {tM tC : Nat} {kK kV : Nat → Nat} {post : Int32 → St → Prop} (hx : p.tables.exec = Jvm.exec) (hb : c.code = b_Qry_isNumber) (hml : c.maxLocals = 1) (hown : s.vm.findClass R_Qry = some m.cls) (hT : ∀ w ∈ TG, w.before args s = true) (hK : va_K (dC, dI) CL (TY cI cB cJ cZ) s) (hN : NW s) (hA : ∀ q : Nat, s.heap.size ≤ q → A q) (hRc : cells ≤ R.cells) (hRs : slots ≤ R.slots) (hRf : 0 ≤ R.frames) (hRl : 0 ≤ R.locals) (hNN : 152 ≤ NN) (hE : CE E tM tC kK kV A s) (hret : ∀ (r : Int32) (x : St) (H : Heap) (locs : List Loc) (pc : Nat) (ls : Array Slot), decode b_Qry_isNumber pc = .ok (.ireturn, 1) → narrow .boolean (.int r) = .int r → post r x → Wd dC dI cI cB cJ cZ ad stC kcC NN A x H → va_S A s.heap H locs → W p l e R s m args below meth c H locs cells slots Q (F0 m pc ls [.int r]))  : ∀ (l0 : Int32) (x : St) (H : Heap) (locs : List Loc) (ls : Array Slot), j_Qry_isNumber_10 post l0 x → Wd dC dI cI cB cJ cZ ad stC kcC NN A x H → va_S A s.heap H locs → lv_has ls 1 [(0, .int l0)] → W p l e R s m args below meth c H locs cells slots Q (F0 m 10 ls []) := by
  intro l0 x H locs ls  hw hW hS hl
  unfold j_Qry_isNumber_10 at hw
  refine lv_iconst (v := 1) hx hb d_Qry_isNumber_10 (by decide) ?_
  refine lv_goto (tgt := 15) hx hb d_Qry_isNumber_11 (by decide) ?_
  exact hret 1 x H locs 15 ls d_Qry_isNumber_15 rfl hw hW hS
set_option maxRecDepth 100000 in
set_option maxHeartbeats 4000000 in
set_option maxRecDepth 100000 in
theorem t_Qry_isNumber_e {p : Program} {l : Launch} {e : Env} {R : Room} {s : State} {m : MethodId} {args : Array Value} {below : List Frame} {meth : Method} {c : Code} {cells slots : Nat} {Q : State → Prop} {dC : Nat → ClassId} {dI : Nat → Nat → Nat} {cI cB cJ cZ : ClassId} {A : Nat → Prop} {ad : Nat → Nat} {NN : Nat} {E : Heap} {tM tC : Nat} {kK kV : Nat → Nat} {post : Int32 → St → Prop} (hx : p.tables.exec = Jvm.exec) (hb : c.code = b_Qry_isNumber) (hml : c.maxLocals = 1) (hown : s.vm.findClass R_Qry = some m.cls) (hT : ∀ w ∈ TG, w.before args s = true) (hK : va_K (dC, dI) CL (TY cI cB cJ cZ) s) (hN : NW s) (hA : ∀ q : Nat, s.heap.size ≤ q → A q) (hRc : cells ≤ R.cells) (hRs : slots ≤ R.slots) (hRf : 0 ≤ R.frames) (hRl : 0 ≤ R.locals) (hNN : 152 ≤ NN) (hE : CE E tM tC kK kV A s) (hret : ∀ (r : Int32) (x : St) (H : Heap) (locs : List Loc) (pc : Nat) (ls : Array Slot), decode b_Qry_isNumber pc = .ok (.ireturn, 1) → narrow .boolean (.int r) = .int r → post r x → Wd dC dI cI cB cJ cZ ad stC kcC NN A x H → va_S A s.heap H locs → W p l e R s m args below meth c H locs cells slots Q (F0 m pc ls [.int r])) : ∀ (l0 : Int32) (x : St) (H : Heap) (locs : List Loc) (ls : Array Slot), wp_Qry_isNumber post l0 x → Wd dC dI cI cB cJ cZ ad stC kcC NN A x H → va_S A s.heap H locs → lv_has ls 1 [(0, .int l0)] → W p l e R s m args below meth c H locs cells slots Q (F0 m 0 ls []) := by
  intro l0 x H locs ls  hw hW hS hl
  unfold wp_Qry_isNumber at hw
  refine lv_iload_n hx hb d_Qry_isNumber_0 rfl (lv_at hl 0 rfl) ?_
  refine lv_iconst (v := 1) hx hb d_Qry_isNumber_1 (by decide) ?_
  refine lv_icmp_eq (tgt := 10) hx hb d_Qry_isNumber_2 (by decide) (fun c1 => ?_) (fun c1 => ?_)
  · have hw := hw.1 c1
    exact t_Qry_isNumber_10 hx hb hml hown hT hK hN hA hRc hRs hRf hRl hNN hE hret  l0 x H locs ls  hw hW hS (lv_sub hl [0] rfl)
  · have hw := hw.2 c1
    refine lv_iload_n hx hb d_Qry_isNumber_5 rfl (lv_at hl 0 rfl) ?_
    refine lv_iconst (v := 2) hx hb d_Qry_isNumber_6 (by decide) ?_
    refine lv_icmp_ne (tgt := 14) hx hb d_Qry_isNumber_7 (by decide) (fun c2 => ?_) (fun c2 => ?_)
    · have hw := hw.1 c2
      refine lv_iconst (v := 0) hx hb d_Qry_isNumber_14 (by decide) ?_
      exact hret 0 x H locs 15 ls d_Qry_isNumber_15 rfl hw hW hS
    · have hw := hw.2 c2
      exact t_Qry_isNumber_10 hx hb hml hown hT hK hN hA hRc hRs hRf hRl hNN hE hret  l0 x H locs ls  hw hW hS (lv_sub hl [0] rfl)
set_option maxHeartbeats 4000000 in
set_option maxRecDepth 100000 in
theorem k_Qry_isNumber (l : Launch) (dC : Nat → ClassId) (dI : Nat → Nat → Nat) (cI cB cJ cZ : ClassId) (ad : Nat → Nat) (NN : Nat) (E : Heap) (tM tC : Nat) (kK kV : Nat → Nat) (hNN : 152 ≤ NN) (sz : Nat) (l0 : Int32) (x : St) {post : Int32 → St → Prop} (hw : wp_Qry_isNumber post l0 x) : Met l y_Qry_isNumber (wsOf y_Qry_isNumber b_Qry_isNumber 1 (some (.boolean))) ({ frames := 0, cells := 0, slots := 0, locals := 0 }) (va_Pc [.int l0] (PVc dC dI cI cB cJ cZ ad stC kcC NN E tM tC kK kV sz x)) (va_Qi (fun (r : Int32) (y : St) => post r y) (fun y t => Wd dC dI cI cB cJ cZ ad stC kcC NN (va_A (pic ad stC kcC NN cI cB cJ cZ x) sz) y t.heap) (va_A (pic ad stC kcC NN cI cB cJ cZ x) sz)) 0 0 (va_A (pic ad stC kcC NN cI cB cJ cZ x) sz) := by
  refine Met.ofW (cc := b_Qry_isNumber) (maxL := 1) (ret := some (.boolean)) (by decide) rfl ?_
  intro p e s m args below meth c s₁ B hml hv
  obtain ⟨rfl, ⟨hsz, hW0, hK, hN⟩, hE⟩ := hv
  have hx := B.exec
  have hb := B.bytes
  have hr := B.returns
  have hts := atoms_spec B.pre
  have hT : ∀ w ∈ TG, w.before _ s = true := fun w h => hts w (List.mem_cons_of_mem _ h)
  have hown : s.vm.findClass R_Qry = some m.cls := findClass_of_methodNamed B.named
  have hlocks := B.notSynchronized
  subst hsz
  have hW : Wd dC dI cI cB cJ cZ ad stC kcC NN (va_A (pic ad stC kcC NN cI cB cJ cZ x) s.heap.size) x s.heap := ⟨hW0.1, hW0.2.1.self (sz := s.heap.size), hW0.2.2⟩
  generalize hAe : va_A (pic ad stC kcC NN cI cB cJ cZ x) s.heap.size = A at hW hE ⊢
  have hA : ∀ q : Nat, s.heap.size ≤ q → A q := fun q h => by rw [← hAe]; exact Or.inr h
  have hS : va_S A s.heap s.heap [] := va_S.rf
  have hl := lv_entry ([.int l0]) (n := 1) (Nat.le_of_ble_eq_true rfl)
  rw [lg_entry_eq]
  generalize (lg_sl ([.int l0]) ++ List.replicate (1 - (lg_sl ([.int l0])).length) Slot.unset).toArray = ls at hl ⊢
  have hl : lv_has ls 1 [(0, .int l0)] := hl
  exact t_Qry_isNumber_e hx hb hml hown hT hK hN hA (Nat.le_refl 0) (Nat.le_refl 0) (Nat.le_refl 0) (Nat.le_refl 0) hNN hE (fun r x H locs pc ls hd hz hp hW hS => W.zret (v := r) (ty := .boolean) hx hb hr hz (fun t ht hM => ⟨⟨r, x, rfl, hp, Wd.back hW ht.symm (fun _ z => z)⟩, hS.F ht⟩) hS.2.2 hd hlocks)  l0 x _ _ ls  hw hW hS hl
set_option maxRecDepth 100000 in
set_option maxHeartbeats 4000000 in
set_option maxRecDepth 100000 in
theorem t_Qry_readItem_110 {p : Program} {l : Launch} {e : Env} {R : Room} {s : State} {m : MethodId} {args : Array Value} {below : List Frame} {meth : Method} {c : Code} {cells slots : Nat} {Q : State → Prop} {dC : Nat → ClassId} {dI : Nat → Nat → Nat} {cI cB cJ cZ : ClassId} {A : Nat → Prop} {ad : Nat → Nat} {NN : Nat} {E : Heap} {tM tC : Nat} {kK kV : Nat → Nat} {post : St → Prop} (hx : p.tables.exec = Jvm.exec) (hb : c.code = b_Qry_readItem) (hml : c.maxLocals = 3) (hown : s.vm.findClass R_Qry = some m.cls) (hT : ∀ w ∈ TG, w.before args s = true) (hK : va_K (dC, dI) CL (TY cI cB cJ cZ) s) (hN : NW s) (hA : ∀ q : Nat, s.heap.size ≤ q → A q) (hRc : cells ≤ R.cells) (hRs : slots ≤ R.slots) (hRf : 8 ≤ R.frames) (hRl : 287 ≤ R.locals) (hNN : 152 ≤ NN) (hE : CE E tM tC kK kV A s) (hret : ∀ (x : St) (H : Heap) (locs : List Loc) (pc : Nat) (ls : Array Slot), decode b_Qry_readItem pc = .ok (.return_, 1) → post x → Wd dC dI cI cB cJ cZ ad stC kcC NN A x H → va_S A s.heap H locs → W p l e R s m args below meth c H locs cells slots Q (F0 m pc ls []))  : ∀ (o : Nat) (l1 : Int32) (l2 : Int32) (x : St) (H : Heap) (locs : List Loc) (ls : Array Slot), (o < NN ∧ kcC o = 9) → j_Qry_readItem_110 post o l1 l2 x → Wd dC dI cI cB cJ cZ ad stC kcC NN A x H → va_S A s.heap H locs → lv_has ls 3 [(0, .ref (ad o)), (1, .int l1), (2, .int l2)] → W p l e R s m args below meth c H locs cells slots Q (F0 m 110 ls []) := by
  intro o l1 l2 x H locs ls fo hw hW hS hl
  unfold j_Qry_readItem_110 at hw
  refine lv_aload_n hx hb d_Qry_readItem_110 rfl (lv_at hl 0 rfl) ?_
  refine w_getf (q := (stC o 2)) (k := 2) (t := 9) (C := R_Qry) (T := F_Qry) (N := 20) hx hb hT hown hK hW fo.1 fo.2 (by decide) in_Qry rfl rfl (by decide) rfl fr_Qry_2 w_3_78 d_Qry_readItem_111 rfl ?_
  refine lv_aload_n hx hb d_Qry_readItem_114 rfl (lv_at hl 0 rfl) ?_
  refine w_geti (k := 1) (t := 9) (C := R_Qry) (T := F_Qry) (N := 20) hx hb hT hown hK hW fo.1 fo.2 (by decide) in_Qry rfl rfl (by decide) rfl fr_Qry_1 w_3_76 d_Qry_readItem_115 ?_
  refine lv_iload_n hx hb d_Qry_readItem_118 rfl (lv_at hl 1 rfl) ?_
  obtain ⟨hi, hw⟩ := hw
  refine w_iast (o := (stC o 2)) hx hb hK hW hS (st_ty hNN fo.1 fo.2 rfl).1 (st_ty hNN fo.1 fo.2 rfl).2 hi d_Qry_readItem_119 (fun H locs hW hS => ?_)
  obtain ⟨x1, ex1⟩ : ∃ y : St, y = setA x (stC o 2) (fI x o 1) l1 := ⟨_, rfl⟩
  rw [← ex1] at hW
  have hw := hw x1 ex1
  refine lv_aload_n hx hb d_Qry_readItem_120 rfl (lv_at hl 0 rfl) ?_
  refine w_getf (q := (stC o 3)) (k := 3) (t := 9) (C := R_Qry) (T := F_Qry) (N := 20) hx hb hT hown hK hW fo.1 fo.2 (by decide) in_Qry rfl rfl (by decide) rfl fr_Qry_3 w_3_80 d_Qry_readItem_121 rfl ?_
  refine lv_aload_n hx hb d_Qry_readItem_124 rfl (lv_at hl 0 rfl) ?_
  refine w_geti (k := 1) (t := 9) (C := R_Qry) (T := F_Qry) (N := 20) hx hb hT hown hK hW fo.1 fo.2 (by decide) in_Qry rfl rfl (by decide) rfl fr_Qry_1 w_3_76 d_Qry_readItem_125 ?_
  refine lv_iload_n hx hb d_Qry_readItem_128 rfl (lv_at hl 2 rfl) ?_
  obtain ⟨hi, hw⟩ := hw
  refine w_iast (o := (stC o 3)) hx hb hK hW hS (st_ty hNN fo.1 fo.2 rfl).1 (st_ty hNN fo.1 fo.2 rfl).2 hi d_Qry_readItem_129 (fun H locs hW hS => ?_)
  obtain ⟨x2, ex2⟩ : ∃ y : St, y = setA x1 (stC o 3) (fI x1 o 1) l2 := ⟨_, rfl⟩
  rw [← ex2] at hW
  have hw := hw x2 ex2
  exact hret x2 H locs 130 ls d_Qry_readItem_130 hw hW hS
set_option maxRecDepth 100000 in
set_option maxHeartbeats 4000000 in
set_option maxRecDepth 100000 in
theorem t_Qry_readItem_101 {p : Program} {l : Launch} {e : Env} {R : Room} {s : State} {m : MethodId} {args : Array Value} {below : List Frame} {meth : Method} {c : Code} {cells slots : Nat} {Q : State → Prop} {dC : Nat → ClassId} {dI : Nat → Nat → Nat} {cI cB cJ cZ : ClassId} {A : Nat → Prop} {ad : Nat → Nat} {NN : Nat} {E : Heap} {tM tC : Nat} {kK kV : Nat → Nat} {post : St → Prop} (hx : p.tables.exec = Jvm.exec) (hb : c.code = b_Qry_readItem) (hml : c.maxLocals = 3) (hown : s.vm.findClass R_Qry = some m.cls) (hT : ∀ w ∈ TG, w.before args s = true) (hK : va_K (dC, dI) CL (TY cI cB cJ cZ) s) (hN : NW s) (hA : ∀ q : Nat, s.heap.size ≤ q → A q) (hRc : cells ≤ R.cells) (hRs : slots ≤ R.slots) (hRf : 8 ≤ R.frames) (hRl : 287 ≤ R.locals) (hNN : 152 ≤ NN) (hE : CE E tM tC kK kV A s) (hret : ∀ (x : St) (H : Heap) (locs : List Loc) (pc : Nat) (ls : Array Slot), decode b_Qry_readItem pc = .ok (.return_, 1) → post x → Wd dC dI cI cB cJ cZ ad stC kcC NN A x H → va_S A s.heap H locs → W p l e R s m args below meth c H locs cells slots Q (F0 m pc ls []))  : ∀ (o : Nat) (l1 : Int32) (l2 : Int32) (x : St) (H : Heap) (locs : List Loc) (ls : Array Slot), (o < NN ∧ kcC o = 9) → j_Qry_readItem_101 post o l1 l2 x → Wd dC dI cI cB cJ cZ ad stC kcC NN A x H → va_S A s.heap H locs → lv_has ls 3 [(0, .ref (ad o)), (1, .int l1), (2, .int l2)] → W p l e R s m args below meth c H locs cells slots Q (F0 m 101 ls []) := by
  intro o l1 l2 x H locs ls fo hw hW hS hl
  unfold j_Qry_readItem_101 at hw
  refine lv_aload_n hx hb d_Qry_readItem_101 rfl (lv_at hl 0 rfl) ?_
  obtain ⟨q3, hq3, hw⟩ := hw
  refine w_getr (q := q3) (k := 17) (t := 9) (C := R_Qry) (T := F_Qry) (N := 20) hx hb hT hown hK hW fo.1 fo.2 (by decide) in_Qry rfl rfl (by decide) rfl fr_Qry_17 w_3_105 d_Qry_readItem_102 hq3 (fun aq3 bq3 => ?_)
  have fq3 : q3 < NN ∧ kcC q3 = 2 := ⟨aq3, bq3⟩
  refine lv_bipush (v := 41) hx hb d_Qry_readItem_105 (by decide) ?_
  have hF := hW.free hS hA
  refine va_callv (va_runV (C := R_Scn) (As := [.int 41]) (rest := []) ⟨hx, hb, hml, hown, hT⟩ (k_Scn_needSign l dC dI cI cB cJ cZ ad NN E tM tC kK kV hNN H.size q3 41 x fq3 hw) ⟨callB_of 1 hT (gwt_in w_4_118) rfl rfl rfl (hT _ w_1_4) (hT _ w_7_187) (by decide +kernel) ⟨Nat.le_trans (Nat.le_of_ble_eq_true rfl) hRf, Nat.le_trans (Nat.le_of_ble_eq_true rfl) hRl⟩, hT _ w_4_116, hT _ w_4_117⟩ ⟨PVc.blind, va_recv hK hW.1 (ci := 2) (q0 := q3) rfl (pic_obj fq3.1 fq3.2 (by decide)), PVc.at _ hW hK hN hE hS hF⟩ rfl rfl hl.1 rfl (lv_room (Nat.le_of_ble_eq_true rfl)) d_Qry_readItem_107 ⟨hRc, hRs⟩) hS (fun q _ h => hF q h) hF (fun  x4 t H locs ht hvm hw hB hz1 hk1 hS => ?_)
  have hW := Wd.back hB ht hF
  clear hB ht hF hz1 hk1 hvm
  exact t_Qry_readItem_110 hx hb hml hown hT hK hN hA hRc hRs hRf hRl hNN hE hret  o l1 l2 x4 H locs ls fo hw hW hS (lv_sub hl [0, 1, 2] rfl)
set_option maxRecDepth 100000 in
set_option maxHeartbeats 4000000 in
set_option maxRecDepth 100000 in
theorem t_Qry_readItem_46 {p : Program} {l : Launch} {e : Env} {R : Room} {s : State} {m : MethodId} {args : Array Value} {below : List Frame} {meth : Method} {c : Code} {cells slots : Nat} {Q : State → Prop} {dC : Nat → ClassId} {dI : Nat → Nat → Nat} {cI cB cJ cZ : ClassId} {A : Nat → Prop} {ad : Nat → Nat} {NN : Nat} {E : Heap} {tM tC : Nat} {kK kV : Nat → Nat} {post : St → Prop} (hx : p.tables.exec = Jvm.exec) (hb : c.code = b_Qry_readItem) (hml : c.maxLocals = 3) (hown : s.vm.findClass R_Qry = some m.cls) (hT : ∀ w ∈ TG, w.before args s = true) (hK : va_K (dC, dI) CL (TY cI cB cJ cZ) s) (hN : NW s) (hA : ∀ q : Nat, s.heap.size ≤ q → A q) (hRc : cells ≤ R.cells) (hRs : slots ≤ R.slots) (hRf : 8 ≤ R.frames) (hRl : 287 ≤ R.locals) (hNN : 152 ≤ NN) (hE : CE E tM tC kK kV A s) (hret : ∀ (x : St) (H : Heap) (locs : List Loc) (pc : Nat) (ls : Array Slot), decode b_Qry_readItem pc = .ok (.return_, 1) → post x → Wd dC dI cI cB cJ cZ ad stC kcC NN A x H → va_S A s.heap H locs → W p l e R s m args below meth c H locs cells slots Q (F0 m pc ls []))  : ∀ (o : Nat) (l1 : Int32) (l2 : Int32) (x : St) (H : Heap) (locs : List Loc) (ls : Array Slot), (o < NN ∧ kcC o = 9) → j_Qry_readItem_46 post o l1 l2 x → Wd dC dI cI cB cJ cZ ad stC kcC NN A x H → va_S A s.heap H locs → lv_has ls 3 [(0, .ref (ad o)), (1, .int l1), (2, .int l2)] → W p l e R s m args below meth c H locs cells slots Q (F0 m 46 ls []) := by
  intro o l1 l2 x H locs ls fo hw hW hS hl
  unfold j_Qry_readItem_46 at hw
  refine lv_aload_n hx hb d_Qry_readItem_46 rfl (lv_at hl 0 rfl) ?_
  obtain ⟨q5, hq5, hw⟩ := hw
  refine w_getr (q := q5) (k := 17) (t := 9) (C := R_Qry) (T := F_Qry) (N := 20) hx hb hT hown hK hW fo.1 fo.2 (by decide) in_Qry rfl rfl (by decide) rfl fr_Qry_17 w_3_105 d_Qry_readItem_47 hq5 (fun aq5 bq5 => ?_)
  have fq5 : q5 < NN ∧ kcC q5 = 2 := ⟨aq5, bq5⟩
  refine lv_bipush (v := 40) hx hb d_Qry_readItem_50 (by decide) ?_
  have hF := hW.free hS hA
  refine va_callv (va_runV (C := R_Scn) (As := [.int 40]) (rest := []) ⟨hx, hb, hml, hown, hT⟩ (k_Scn_needSign l dC dI cI cB cJ cZ ad NN E tM tC kK kV hNN H.size q5 40 x fq5 hw) ⟨callB_of 1 hT (gwt_in w_4_118) rfl rfl rfl (hT _ w_1_4) (hT _ w_7_187) (by decide +kernel) ⟨Nat.le_trans (Nat.le_of_ble_eq_true rfl) hRf, Nat.le_trans (Nat.le_of_ble_eq_true rfl) hRl⟩, hT _ w_4_116, hT _ w_4_117⟩ ⟨PVc.blind, va_recv hK hW.1 (ci := 2) (q0 := q5) rfl (pic_obj fq5.1 fq5.2 (by decide)), PVc.at _ hW hK hN hE hS hF⟩ rfl rfl hl.1 rfl (lv_room (Nat.le_of_ble_eq_true rfl)) d_Qry_readItem_52 ⟨hRc, hRs⟩) hS (fun q _ h => hF q h) hF (fun  x6 t H locs ht hvm hw hB hz1 hk1 hS => ?_)
  have hW := Wd.back hB ht hF
  clear hB ht hF hz1 hk1 hvm
  refine lv_aload_n hx hb d_Qry_readItem_55 rfl (lv_at hl 0 rfl) ?_
  have hF := hW.free hS hA
  refine va_calli (va_runV (C := R_Qry) (As := []) (rest := []) ⟨hx, hb, hml, hown, hT⟩ (k_Qry_readColumn l dC dI cI cB cJ cZ ad NN E tM tC kK kV hNN H.size o x6 fo hw) ⟨callB_of 0 hT (gwt_in w_7_191) rfl rfl rfl (hT _ w_1_12) (hT _ w_7_188) (by decide +kernel) ⟨Nat.le_trans (Nat.le_of_ble_eq_true rfl) hRf, Nat.le_trans (Nat.le_of_ble_eq_true rfl) hRl⟩, hT _ w_7_190, hT _ ws_73⟩ ⟨PVc.blind, va_recv hK hW.1 (ci := 9) (q0 := o) rfl (pic_obj fo.1 fo.2 (by decide)), PVc.at _ hW hK hN hE hS hF⟩ rfl rfl hl.1 rfl (lv_room (Nat.le_of_ble_eq_true rfl)) d_Qry_readItem_56 ⟨hRc, hRs⟩) hS (fun q _ h => hF q h) hF (fun r8 x7 t H locs ht hvm hw hB hz1 hk1 hS => ?_)
  have hW := Wd.back hB ht hF
  clear hB ht hF hz1 hk1 hvm
  refine lv_istore_n (lv' := [(2, .int r8), (0, .ref (ad o)), (1, .int l1)]) hx hb d_Qry_readItem_59 rfl hl (by decide) rfl (fun ls hl => ?_)
  refine lv_iload_n hx hb d_Qry_readItem_60 rfl (lv_at hl 2 rfl) ?_
  refine lv_iconst (v := 3) hx hb d_Qry_readItem_61 (by decide) ?_
  refine lv_icmp_ne (tgt := 101) hx hb d_Qry_readItem_62 (by decide) (fun c9 => ?_) (fun c9 => ?_)
  · have hw := hw.1 c9
    exact t_Qry_readItem_101 hx hb hml hown hT hK hN hA hRc hRs hRf hRl hNN hE hret  o l1 r8 x7 H locs ls fo hw hW hS (lv_sub hl [1, 2, 0] rfl)
  · have hw := hw.2 c9
    refine lv_aload_n hx hb d_Qry_readItem_65 rfl (lv_at hl 1 rfl) ?_
    obtain ⟨q10, hq10, hw⟩ := hw
    refine w_getr (q := q10) (k := 17) (t := 9) (C := R_Qry) (T := F_Qry) (N := 20) hx hb hT hown hK hW fo.1 fo.2 (by decide) in_Qry rfl rfl (by decide) rfl fr_Qry_17 w_3_105 d_Qry_readItem_66 hq10 (fun aq10 bq10 => ?_)
    have fq10 : q10 < NN ∧ kcC q10 = 2 := ⟨aq10, bq10⟩
    have hF := hW.free hS hA
    refine va_calli (va_runV (C := R_Scn) (As := []) (rest := []) ⟨hx, hb, hml, hown, hT⟩ (k_Scn_good l dC dI cI cB cJ cZ ad NN E tM tC kK kV hNN H.size q10 x7 fq10 hw) ⟨callB_of 0 hT (gwt_in w_4_106) rfl rfl rfl (hT _ w_1_4) (hT _ w_7_147) (by decide +kernel) ⟨Nat.le_trans (Nat.le_of_ble_eq_true rfl) hRf, Nat.le_trans (Nat.le_of_ble_eq_true rfl) hRl⟩, hT _ w_4_104, hT _ w_4_105⟩ ⟨PVc.blind, va_recv hK hW.1 (ci := 2) (q0 := q10) rfl (pic_obj fq10.1 fq10.2 (by decide)), PVc.at _ hW hK hN hE hS hF⟩ rfl rfl hl.1 rfl (lv_room (Nat.le_of_ble_eq_true rfl)) d_Qry_readItem_69 ⟨hRc, hRs⟩) hS (fun q _ h => hF q h) hF (fun r12 x11 t H locs ht hvm hw hB hz1 hk1 hS => ?_)
    have hW := Wd.back hB ht hF
    clear hB ht hF hz1 hk1 hvm
    refine lv_if_eq (tgt := 101) hx hb d_Qry_readItem_72 (by decide) (fun c13 => ?_) (fun c13 => ?_)
    · have hw := hw.1 c13
      exact t_Qry_readItem_101 hx hb hml hown hT hK hN hA hRc hRs hRf hRl hNN hE hret  o l1 r8 x11 H locs ls fo hw hW hS (lv_sub hl [1, 2, 0] rfl)
    · have hw := hw.2 c13
      refine lv_aload_n hx hb d_Qry_readItem_75 rfl (lv_at hl 1 rfl) ?_
      obtain ⟨q14, hq14, hw⟩ := hw
      refine w_getr (q := q14) (k := 18) (t := 9) (C := R_Qry) (T := F_Qry) (N := 20) hx hb hT hown hK hW fo.1 fo.2 (by decide) in_Qry rfl rfl (by decide) rfl fr_Qry_18 w_3_106 d_Qry_readItem_76 hq14 (fun aq14 bq14 => ?_)
      have fq14 : q14 < NN ∧ kcC q14 = 3 := ⟨aq14, bq14⟩
      refine w_getf (q := (stC q14 3)) (k := 3) (t := 3) (C := R_Sch) (T := F_Sch) (N := 13) hx hb hT hown hK hW fq14.1 fq14.2 (by decide) in_Sch rfl rfl (by decide) rfl fr_Sch_3 w_1_149 d_Qry_readItem_79 rfl ?_
      refine lv_iload_n hx hb d_Qry_readItem_82 rfl (lv_at hl 0 rfl) ?_
      obtain ⟨hi, hw⟩ := hw
      refine w_iald (o := (stC q14 3)) hx hb hK hW (st_ty hNN fq14.1 fq14.2 rfl).1 (st_ty hNN fq14.1 fq14.2 rfl).2 hi d_Qry_readItem_83 ?_
      have hF := hW.free hS hA
      refine va_calli (va_runS (As := [.int (rA x11 (stC q14 3) r8)]) (rest := []) ⟨hx, hb, hml, hown, hT⟩ (k_Qry_isNumber l dC dI cI cB cJ cZ ad NN E tM tC kK kV hNN H.size (rA x11 (stC q14 3) r8) x11  hw) ⟨callB_of 1 hT (gwt_in w_7_198) rfl rfl rfl (hT _ w_1_12) (hT _ w_7_196) (by decide +kernel) ⟨Nat.le_trans (Nat.le_of_ble_eq_true rfl) hRf, Nat.le_trans (Nat.le_of_ble_eq_true rfl) hRl⟩, hT _ w_7_197⟩ ⟨PVc.blind, PVc.at _ hW hK hN hE hS hF⟩ rfl rfl hl.1 rfl (lv_room (Nat.le_of_ble_eq_true rfl)) d_Qry_readItem_84 ⟨hRc, hRs⟩) hS (fun q _ h => hF q h) hF (fun r16 x15 t H locs ht hvm hw hB hz1 hk1 hS => ?_)
      have hW := Wd.back hB ht hF
      clear hB ht hF hz1 hk1 hvm
      refine lv_if_ne (tgt := 101) hx hb d_Qry_readItem_87 (by decide) (fun c17 => ?_) (fun c17 => ?_)
      · have hw := hw.1 c17
        exact t_Qry_readItem_101 hx hb hml hown hT hK hN hA hRc hRs hRf hRl hNN hE hret  o l1 r8 x15 H locs ls fo hw hW hS (lv_sub hl [1, 2, 0] rfl)
      · have hw := hw.2 c17
        refine lv_aload_n hx hb d_Qry_readItem_90 rfl (lv_at hl 1 rfl) ?_
        obtain ⟨q18, hq18, hw⟩ := hw
        refine w_getr (q := q18) (k := 17) (t := 9) (C := R_Qry) (T := F_Qry) (N := 20) hx hb hT hown hK hW fo.1 fo.2 (by decide) in_Qry rfl rfl (by decide) rfl fr_Qry_17 w_3_105 d_Qry_readItem_91 hq18 (fun aq18 bq18 => ?_)
        have fq18 : q18 < NN ∧ kcC q18 = 2 := ⟨aq18, bq18⟩
        refine lv_aload_n hx hb d_Qry_readItem_94 rfl (lv_at hl 1 rfl) ?_
        refine w_geti (k := 19) (t := 9) (C := R_Qry) (T := F_Qry) (N := 20) hx hb hT hown hK hW fo.1 fo.2 (by decide) in_Qry rfl rfl (by decide) rfl fr_Qry_19 w_3_107 d_Qry_readItem_95 ?_
        have hF := hW.free hS hA
        refine va_callv (va_runV (C := R_Scn) (As := [.int (fI x15 o 19)]) (rest := []) ⟨hx, hb, hml, hown, hT⟩ (k_Scn_refuse l dC dI cI cB cJ cZ ad NN E tM tC kK kV hNN H.size q18 (fI x15 o 19) x15 fq18 hw) ⟨callB_of 1 hT (gwt_in w_4_128) rfl rfl rfl (hT _ w_1_4) (hT _ w_7_149) (by decide +kernel) ⟨Nat.le_trans (Nat.le_of_ble_eq_true rfl) hRf, Nat.le_trans (Nat.le_of_ble_eq_true rfl) hRl⟩, hT _ w_4_126, hT _ w_4_127⟩ ⟨PVc.blind, va_recv hK hW.1 (ci := 2) (q0 := q18) rfl (pic_obj fq18.1 fq18.2 (by decide)), PVc.at _ hW hK hN hE hS hF⟩ rfl rfl hl.1 rfl (lv_room (Nat.le_of_ble_eq_true rfl)) d_Qry_readItem_98 ⟨hRc, hRs⟩) hS (fun q _ h => hF q h) hF (fun  x19 t H locs ht hvm hw hB hz1 hk1 hS => ?_)
        have hW := Wd.back hB ht hF
        clear hB ht hF hz1 hk1 hvm
        exact t_Qry_readItem_101 hx hb hml hown hT hK hN hA hRc hRs hRf hRl hNN hE hret  o l1 r8 x19 H locs ls fo hw hW hS (lv_sub hl [1, 2, 0] rfl)
set_option maxRecDepth 100000 in
set_option maxHeartbeats 4000000 in
set_option maxRecDepth 100000 in
theorem t_Qry_readItem_e {p : Program} {l : Launch} {e : Env} {R : Room} {s : State} {m : MethodId} {args : Array Value} {below : List Frame} {meth : Method} {c : Code} {cells slots : Nat} {Q : State → Prop} {dC : Nat → ClassId} {dI : Nat → Nat → Nat} {cI cB cJ cZ : ClassId} {A : Nat → Prop} {ad : Nat → Nat} {NN : Nat} {E : Heap} {tM tC : Nat} {kK kV : Nat → Nat} {post : St → Prop} (hx : p.tables.exec = Jvm.exec) (hb : c.code = b_Qry_readItem) (hml : c.maxLocals = 3) (hown : s.vm.findClass R_Qry = some m.cls) (hT : ∀ w ∈ TG, w.before args s = true) (hK : va_K (dC, dI) CL (TY cI cB cJ cZ) s) (hN : NW s) (hA : ∀ q : Nat, s.heap.size ≤ q → A q) (hRc : cells ≤ R.cells) (hRs : slots ≤ R.slots) (hRf : 8 ≤ R.frames) (hRl : 287 ≤ R.locals) (hNN : 152 ≤ NN) (hE : CE E tM tC kK kV A s) (hret : ∀ (x : St) (H : Heap) (locs : List Loc) (pc : Nat) (ls : Array Slot), decode b_Qry_readItem pc = .ok (.return_, 1) → post x → Wd dC dI cI cB cJ cZ ad stC kcC NN A x H → va_S A s.heap H locs → W p l e R s m args below meth c H locs cells slots Q (F0 m pc ls [])) : ∀ (o : Nat) (x : St) (H : Heap) (locs : List Loc) (ls : Array Slot), (o < NN ∧ kcC o = 9) → wp_Qry_readItem post o x → Wd dC dI cI cB cJ cZ ad stC kcC NN A x H → va_S A s.heap H locs → lv_has ls 3 [(0, .ref (ad o))] → W p l e R s m args below meth c H locs cells slots Q (F0 m 0 ls []) := by
  intro o x H locs ls fo hw hW hS hl
  unfold wp_Qry_readItem at hw
  refine lv_aload_n hx hb d_Qry_readItem_0 rfl (lv_at hl 0 rfl) ?_
  have hF := hW.free hS hA
  refine va_calli (va_runV (C := R_Qry) (As := []) (rest := []) ⟨hx, hb, hml, hown, hT⟩ (k_Qry_readItemForm l dC dI cI cB cJ cZ ad NN E tM tC kK kV hNN H.size o x fo hw) ⟨callB_of 0 hT (gwt_in w_7_157) rfl rfl rfl (hT _ w_1_12) (hT _ w_7_154) (by decide +kernel) ⟨Nat.le_trans (Nat.le_of_ble_eq_true rfl) hRf, Nat.le_trans (Nat.le_of_ble_eq_true rfl) hRl⟩, hT _ w_7_156, hT _ ws_70⟩ ⟨PVc.blind, va_recv hK hW.1 (ci := 9) (q0 := o) rfl (pic_obj fo.1 fo.2 (by decide)), PVc.at _ hW hK hN hE hS hF⟩ rfl rfl hl.1 rfl (lv_room (Nat.le_of_ble_eq_true rfl)) d_Qry_readItem_1 ⟨hRc, hRs⟩) hS (fun q _ h => hF q h) hF (fun r21 x20 t H locs ht hvm hw hB hz1 hk1 hS => ?_)
  have hW := Wd.back hB ht hF
  clear hB ht hF hz1 hk1 hvm
  refine lv_istore_n (lv' := [(1, .int r21), (0, .ref (ad o))]) hx hb d_Qry_readItem_4 rfl hl (by decide) rfl (fun ls hl => ?_)
  refine lv_iconst (v := (-1)) hx hb d_Qry_readItem_5 (by decide) ?_
  refine lv_istore_n (lv' := [(2, .int (-1)), (1, .int r21), (0, .ref (ad o))]) hx hb d_Qry_readItem_6 rfl hl (by decide) rfl (fun ls hl => ?_)
  refine lv_iload_n hx hb d_Qry_readItem_7 rfl (lv_at hl 1 rfl) ?_
  refine lv_if_ne (tgt := 19) hx hb d_Qry_readItem_8 (by decide) (fun c22 => ?_) (fun c22 => ?_)
  · have hw := hw.1 c22
    refine lv_aload_n hx hb d_Qry_readItem_19 rfl (lv_at hl 2 rfl) ?_
    refine lv_iconst (v := 1) hx hb d_Qry_readItem_20 (by decide) ?_
    refine w_puti (ty := .boolean) (k := 7) (t := 9) (C := R_Qry) (T := F_Qry) (N := 20) hx hb hT hown hK hW hS fo.1 fo.2 (by decide) in_Qry t_Qry t_Qry_ok n_Qry rfl rfl (by decide) rfl fr_Qry_7 w_3_87 (by decide +kernel) rfl rfl d_Qry_readItem_21 (fun H locs hW hS => ?_)
    obtain ⟨x23, ex23⟩ : ∃ y : St, y = setI x20 o 7 1 := ⟨_, rfl⟩
    rw [← ex23] at hW
    have hw := hw x23 ex23
    refine lv_iload_n hx hb d_Qry_readItem_24 rfl (lv_at hl 1 rfl) ?_
    refine lv_iconst (v := 2) hx hb d_Qry_readItem_25 (by decide) ?_
    refine lv_icmp_ne (tgt := 46) hx hb d_Qry_readItem_26 (by decide) (fun c24 => ?_) (fun c24 => ?_)
    · have hw := hw.1 c24
      exact t_Qry_readItem_46 hx hb hml hown hT hK hN hA hRc hRs hRf hRl hNN hE hret  o r21 (-1) x23 H locs ls fo hw hW hS (lv_sub hl [2, 1, 0] rfl)
    · have hw := hw.2 c24
      refine lv_aload_n hx hb d_Qry_readItem_29 rfl (lv_at hl 2 rfl) ?_
      obtain ⟨q25, hq25, hw⟩ := hw
      refine w_getr (q := q25) (k := 17) (t := 9) (C := R_Qry) (T := F_Qry) (N := 20) hx hb hT hown hK hW fo.1 fo.2 (by decide) in_Qry rfl rfl (by decide) rfl fr_Qry_17 w_3_105 d_Qry_readItem_30 hq25 (fun aq25 bq25 => ?_)
      have fq25 : q25 < NN ∧ kcC q25 = 2 := ⟨aq25, bq25⟩
      have hF := hW.free hS hA
      refine va_calli (va_runV (C := R_Scn) (As := []) (rest := []) ⟨hx, hb, hml, hown, hT⟩ (k_Scn_next l dC dI cI cB cJ cZ ad NN E tM tC kK kV hNN H.size q25 x23 fq25 hw) ⟨callB_of 0 hT (gwt_in w_4_110) rfl rfl rfl (hT _ w_1_4) (hT _ w_7_148) (by decide +kernel) ⟨Nat.le_trans (Nat.le_of_ble_eq_true rfl) hRf, Nat.le_trans (Nat.le_of_ble_eq_true rfl) hRl⟩, hT _ w_4_108, hT _ w_4_109⟩ ⟨PVc.blind, va_recv hK hW.1 (ci := 2) (q0 := q25) rfl (pic_obj fq25.1 fq25.2 (by decide)), PVc.at _ hW hK hN hE hS hF⟩ rfl rfl hl.1 rfl (lv_room (Nat.le_of_ble_eq_true rfl)) d_Qry_readItem_33 ⟨hRc, hRs⟩) hS (fun q _ h => hF q h) hF (fun r27 x26 t H locs ht hvm hw hB hz1 hk1 hS => ?_)
      have hW := Wd.back hB ht hF
      clear hB ht hF hz1 hk1 hvm
      refine lv_bipush (v := 40) hx hb d_Qry_readItem_36 (by decide) ?_
      refine lv_icmp_eq (tgt := 46) hx hb d_Qry_readItem_38 (by decide) (fun c28 => ?_) (fun c28 => ?_)
      · have hw := hw.1 c28
        exact t_Qry_readItem_46 hx hb hml hown hT hK hN hA hRc hRs hRf hRl hNN hE hret  o r21 (-1) x26 H locs ls fo hw hW hS (lv_sub hl [2, 1, 0] rfl)
      · have hw := hw.2 c28
        refine lv_iconst (v := 1) hx hb d_Qry_readItem_41 (by decide) ?_
        refine lv_istore_n (lv' := [(1, .int 1), (2, .int (-1)), (0, .ref (ad o))]) hx hb d_Qry_readItem_42 rfl hl (by decide) rfl (fun ls hl => ?_)
        refine lv_goto (tgt := 110) hx hb d_Qry_readItem_43 (by decide) ?_
        exact t_Qry_readItem_110 hx hb hml hown hT hK hN hA hRc hRs hRf hRl hNN hE hret  o 1 (-1) x26 H locs ls fo hw hW hS (lv_sub hl [2, 0, 1] rfl)
  · have hw := hw.2 c22
    refine lv_aload_n hx hb d_Qry_readItem_11 rfl (lv_at hl 2 rfl) ?_
    have hF := hW.free hS hA
    refine va_calli (va_runV (C := R_Qry) (As := []) (rest := []) ⟨hx, hb, hml, hown, hT⟩ (k_Qry_readPath l dC dI cI cB cJ cZ ad NN E tM tC kK kV hNN H.size o x20 fo hw) ⟨callB_of 0 hT (gwt_in w_7_166) rfl rfl rfl (hT _ w_1_12) (hT _ w_7_163) (by decide +kernel) ⟨Nat.le_trans (Nat.le_of_ble_eq_true rfl) hRf, Nat.le_trans (Nat.le_of_ble_eq_true rfl) hRl⟩, hT _ w_7_165, hT _ ws_71⟩ ⟨PVc.blind, va_recv hK hW.1 (ci := 9) (q0 := o) rfl (pic_obj fo.1 fo.2 (by decide)), PVc.at _ hW hK hN hE hS hF⟩ rfl rfl hl.1 rfl (lv_room (Nat.le_of_ble_eq_true rfl)) d_Qry_readItem_12 ⟨hRc, hRs⟩) hS (fun q _ h => hF q h) hF (fun r30 x29 t H locs ht hvm hw hB hz1 hk1 hS => ?_)
    have hW := Wd.back hB ht hF
    clear hB ht hF hz1 hk1 hvm
    refine lv_istore_n (lv' := [(2, .int r30), (1, .int r21), (0, .ref (ad o))]) hx hb d_Qry_readItem_15 rfl hl (by decide) rfl (fun ls hl => ?_)
    refine lv_goto (tgt := 110) hx hb d_Qry_readItem_16 (by decide) ?_
    exact t_Qry_readItem_110 hx hb hml hown hT hK hN hA hRc hRs hRf hRl hNN hE hret  o r21 r30 x29 H locs ls fo hw hW hS (lv_sub hl [2, 1, 0] rfl)
set_option maxHeartbeats 4000000 in
set_option maxRecDepth 100000 in
theorem k_Qry_readItem (l : Launch) (dC : Nat → ClassId) (dI : Nat → Nat → Nat) (cI cB cJ cZ : ClassId) (ad : Nat → Nat) (NN : Nat) (E : Heap) (tM tC : Nat) (kK kV : Nat → Nat) (hNN : 152 ≤ NN) (sz : Nat) (o : Nat) (x : St) (fo : o < NN ∧ kcC o = 9) {post : St → Prop} (hw : wp_Qry_readItem post o x) : Met l y_Qry_readItem (wsOf y_Qry_readItem b_Qry_readItem 3 (none)) ({ frames := 8, cells := 0, slots := 0, locals := 287 }) (va_Pc [.ref (ad o)] (PVc dC dI cI cB cJ cZ ad stC kcC NN E tM tC kK kV sz x)) (va_Qv (fun (y : St) => post y) (fun y t => Wd dC dI cI cB cJ cZ ad stC kcC NN (va_A (pic ad stC kcC NN cI cB cJ cZ x) sz) y t.heap) (va_A (pic ad stC kcC NN cI cB cJ cZ x) sz)) 0 0 (va_A (pic ad stC kcC NN cI cB cJ cZ x) sz) := by
  refine Met.ofW (cc := b_Qry_readItem) (maxL := 3) (ret := none) (by decide) rfl ?_
  intro p e s m args below meth c s₁ B hml hv
  obtain ⟨rfl, ⟨hsz, hW0, hK, hN⟩, hE⟩ := hv
  have hx := B.exec
  have hb := B.bytes
  have hr := B.returns
  have hts := atoms_spec B.pre
  have hT : ∀ w ∈ TG, w.before _ s = true := fun w h => hts w (List.mem_cons_of_mem _ h)
  have hown : s.vm.findClass R_Qry = some m.cls := findClass_of_methodNamed B.named
  have hlocks := B.notSynchronized
  subst hsz
  have hW : Wd dC dI cI cB cJ cZ ad stC kcC NN (va_A (pic ad stC kcC NN cI cB cJ cZ x) s.heap.size) x s.heap := ⟨hW0.1, hW0.2.1.self (sz := s.heap.size), hW0.2.2⟩
  generalize hAe : va_A (pic ad stC kcC NN cI cB cJ cZ x) s.heap.size = A at hW hE ⊢
  have hA : ∀ q : Nat, s.heap.size ≤ q → A q := fun q h => by rw [← hAe]; exact Or.inr h
  have hS : va_S A s.heap s.heap [] := va_S.rf
  have hl := lv_entry ([.ref (ad o)]) (n := 3) (Nat.le_of_ble_eq_true rfl)
  rw [lg_entry_eq]
  generalize (lg_sl ([.ref (ad o)]) ++ List.replicate (3 - (lg_sl ([.ref (ad o)])).length) Slot.unset).toArray = ls at hl ⊢
  have hl : lv_has ls 3 [(0, .ref (ad o))] := hl
  exact t_Qry_readItem_e hx hb hml hown hT hK hN hA (Nat.le_refl 0) (Nat.le_refl 0) (Nat.le_refl 8) (Nat.le_refl 287) hNN hE (fun x H locs pc ls hd hp hW hS => W.vret hx hb hr (fun t ht hM => ⟨⟨x, rfl, hp, Wd.back hW ht.symm (fun _ z => z)⟩, hS.F ht⟩) hS.2.2 hd hlocks)  o x _ _ ls fo hw hW hS hl
end
