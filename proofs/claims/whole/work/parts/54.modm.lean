theorem fr_Mod_43 : F_Mod 43 = (R_Mod, "pageCoding", "I", false) := rfl
theorem fr_Mod_44 : F_Mod 44 = (R_Mod, "bodySize", "I", false) := rfl
theorem fr_Mod_61 : F_Mod 61 = (R_Mod, "body", "[I", true) := rfl
theorem fr_Mod_78 : F_Mod 78 = (R_Mod, "chunkBytes", "[I", true) := rfl
theorem fr_Mod_79 : F_Mod 79 = (R_Mod, "chunkPages", "[I", true) := rfl
theorem w_11_147 : (Jvm.Cond.methodLink "StripedVaultModel" (795 : Nat) ({ cls := "StripedVaultModel", name := "many", desc := "(III)I" } : Jvm.MethodName)) ∈ TG := tw_11 147 (by decide +kernel) (by decide +kernel)
theorem w_11_149 : (Jvm.Cond.instanceMethod ({ cls := "StripedVaultModel", name := "many", desc := "(III)I" } : Jvm.MethodName)) ∈ TG := tw_11 149 (by decide +kernel) (by decide +kernel)
theorem w_11_150 : (Jvm.Cond.code ({ cls := "StripedVaultModel", name := "many", desc := "(III)I" } : Jvm.MethodName) prog_14_method_106_code (6 : Nat) (Option.some Jvm.ClassFile.FieldType.int)) ∈ TG := tw_11 150 (by decide +kernel) (by decide +kernel)
theorem w_11_151 : (Jvm.Cond.methodLink "StripedVaultModel" (798 : Nat) ({ cls := "StripedVaultModel", name := "textsOf", desc := "(III)I" } : Jvm.MethodName)) ∈ TG := tw_11 151 (by decide +kernel) (by decide +kernel)
theorem w_11_153 : (Jvm.Cond.instanceMethod ({ cls := "StripedVaultModel", name := "textsOf", desc := "(III)I" } : Jvm.MethodName)) ∈ TG := tw_11 153 (by decide +kernel) (by decide +kernel)
theorem w_11_154 : (Jvm.Cond.code ({ cls := "StripedVaultModel", name := "textsOf", desc := "(III)I" } : Jvm.MethodName) prog_14_method_108_code (6 : Nat) (Option.some Jvm.ClassFile.FieldType.int)) ∈ TG := tw_11 154 (by decide +kernel) (by decide +kernel)
theorem w_11_155 : (Jvm.Cond.methodLink "StripedVaultModel" (801 : Nat) ({ cls := "StripedVaultModel", name := "fillPage", desc := "(III)V" } : Jvm.MethodName)) ∈ TG := tw_11 155 (by decide +kernel) (by decide +kernel)
theorem w_11_157 : (Jvm.Cond.instanceMethod ({ cls := "StripedVaultModel", name := "fillPage", desc := "(III)V" } : Jvm.MethodName)) ∈ TG := tw_11 157 (by decide +kernel) (by decide +kernel)
theorem w_11_158 : (Jvm.Cond.code ({ cls := "StripedVaultModel", name := "fillPage", desc := "(III)V" } : Jvm.MethodName) prog_14_method_109_code (6 : Nat) (Option.none : Option Jvm.ClassFile.FieldType)) ∈ TG := tw_11 158 (by decide +kernel) (by decide +kernel)
theorem w_11_171 : (Jvm.Cond.methodLink "StripedVaultModel" (804 : Nat) ({ cls := "StripedVaultModel", name := "writePage", desc := "()V" } : Jvm.MethodName)) ∈ TG := tw_11 171 (by decide +kernel) (by decide +kernel)
theorem w_11_173 : (Jvm.Cond.instanceMethod ({ cls := "StripedVaultModel", name := "writePage", desc := "()V" } : Jvm.MethodName)) ∈ TG := tw_11 173 (by decide +kernel) (by decide +kernel)
theorem w_11_174 : (Jvm.Cond.code ({ cls := "StripedVaultModel", name := "writePage", desc := "()V" } : Jvm.MethodName) prog_14_method_103_code (3 : Nat) (Option.none : Option Jvm.ClassFile.FieldType)) ∈ TG := tw_11 174 (by decide +kernel) (by decide +kernel)
theorem w_11_175 : (Jvm.Cond.methodLink "StripedVaultModel" (754 : Nat) ({ cls := "StripedVaultModel", name := "codings", desc := "()I" } : Jvm.MethodName)) ∈ TG := tw_11 175 (by decide +kernel) (by decide +kernel)
theorem w_11_177 : (Jvm.Cond.instanceMethod ({ cls := "StripedVaultModel", name := "codings", desc := "()I" } : Jvm.MethodName)) ∈ TG := tw_11 177 (by decide +kernel) (by decide +kernel)
theorem w_11_178 : (Jvm.Cond.code ({ cls := "StripedVaultModel", name := "codings", desc := "()I" } : Jvm.MethodName) prog_14_method_76_code (1 : Nat) (Option.some Jvm.ClassFile.FieldType.int)) ∈ TG := tw_11 178 (by decide +kernel) (by decide +kernel)
theorem w_11_179 : (Jvm.Cond.methodLink "StripedVaultModel" (757 : Nat) ({ cls := "StripedVaultModel", name := "writeValues", desc := "(I)V" } : Jvm.MethodName)) ∈ TG := tw_11 179 (by decide +kernel) (by decide +kernel)
theorem w_11_181 : (Jvm.Cond.instanceMethod ({ cls := "StripedVaultModel", name := "writeValues", desc := "(I)V" } : Jvm.MethodName)) ∈ TG := tw_11 181 (by decide +kernel) (by decide +kernel)
theorem w_11_182 : (Jvm.Cond.code ({ cls := "StripedVaultModel", name := "writeValues", desc := "(I)V" } : Jvm.MethodName) prog_14_method_81_code (3 : Nat) (Option.none : Option Jvm.ClassFile.FieldType)) ∈ TG := tw_11 182 (by decide +kernel) (by decide +kernel)
theorem w_12_36 : (Jvm.Cond.methodLink "StripedVaultModel" (763 : Nat) ({ cls := "StripedVaultModel", name := "putLevels", desc := "([II)V" } : Jvm.MethodName)) ∈ TG := tw_12 36 (by decide +kernel) (by decide +kernel)
theorem w_12_38 : (Jvm.Cond.instanceMethod ({ cls := "StripedVaultModel", name := "putLevels", desc := "([II)V" } : Jvm.MethodName)) ∈ TG := tw_12 38 (by decide +kernel) (by decide +kernel)
theorem w_12_39 : (Jvm.Cond.code ({ cls := "StripedVaultModel", name := "putLevels", desc := "([II)V" } : Jvm.MethodName) prog_14_method_82_code (6 : Nat) (Option.none : Option Jvm.ClassFile.FieldType)) ∈ TG := tw_12 39 (by decide +kernel) (by decide +kernel)
theorem w_12_40 : (Jvm.Cond.methodLink "StripedVaultModel" (770 : Nat) ({ cls := "StripedVaultModel", name := "mostOf", desc := "(Z)I" } : Jvm.MethodName)) ∈ TG := tw_12 40 (by decide +kernel) (by decide +kernel)
theorem w_12_42 : (Jvm.Cond.instanceMethod ({ cls := "StripedVaultModel", name := "mostOf", desc := "(Z)I" } : Jvm.MethodName)) ∈ TG := tw_12 42 (by decide +kernel) (by decide +kernel)
theorem w_12_43 : (Jvm.Cond.code ({ cls := "StripedVaultModel", name := "mostOf", desc := "(Z)I" } : Jvm.MethodName) prog_14_method_84_code (5 : Nat) (Option.some Jvm.ClassFile.FieldType.int)) ∈ TG := tw_12 43 (by decide +kernel) (by decide +kernel)
theorem w_12_48 : (Jvm.Cond.methodLink "StripedVaultModel" (774 : Nat) ({ cls := "StripedVaultModel", name := "putOne", desc := "(I)V" } : Jvm.MethodName)) ∈ TG := tw_12 48 (by decide +kernel) (by decide +kernel)
theorem w_12_50 : (Jvm.Cond.instanceMethod ({ cls := "StripedVaultModel", name := "putOne", desc := "(I)V" } : Jvm.MethodName)) ∈ TG := tw_12 50 (by decide +kernel) (by decide +kernel)
theorem w_12_51 : (Jvm.Cond.code ({ cls := "StripedVaultModel", name := "putOne", desc := "(I)V" } : Jvm.MethodName) prog_14_method_85_code (2 : Nat) (Option.none : Option Jvm.ClassFile.FieldType)) ∈ TG := tw_12 51 (by decide +kernel) (by decide +kernel)
theorem w_12_52 : (Jvm.Cond.methodLink "StripedVaultModel" (777 : Nat) ({ cls := "StripedVaultModel", name := "check", desc := "([III)I" } : Jvm.MethodName)) ∈ TG := tw_12 52 (by decide +kernel) (by decide +kernel)
theorem w_12_53 : (Jvm.Cond.static ({ cls := "StripedVaultModel", name := "check", desc := "([III)I" } : Jvm.MethodName)) ∈ TG := tw_12 53 (by decide +kernel) (by decide +kernel)
theorem w_12_54 : (Jvm.Cond.code ({ cls := "StripedVaultModel", name := "check", desc := "([III)I" } : Jvm.MethodName) prog_14_method_86_code (7 : Nat) (Option.some Jvm.ClassFile.FieldType.int)) ∈ TG := tw_12 54 (by decide +kernel) (by decide +kernel)
theorem w_12_56 : (Jvm.Cond.methodLink "StripedVaultModel" (807 : Nat) ({ cls := "StripedVaultModel", name := "addSheet", desc := "()V" } : Jvm.MethodName)) ∈ TG := tw_12 56 (by decide +kernel) (by decide +kernel)
theorem w_12_58 : (Jvm.Cond.instanceMethod ({ cls := "StripedVaultModel", name := "addSheet", desc := "()V" } : Jvm.MethodName)) ∈ TG := tw_12 58 (by decide +kernel) (by decide +kernel)
theorem w_12_59 : (Jvm.Cond.code ({ cls := "StripedVaultModel", name := "addSheet", desc := "()V" } : Jvm.MethodName) prog_14_method_105_code (2 : Nat) (Option.none : Option Jvm.ClassFile.FieldType)) ∈ TG := tw_12 59 (by decide +kernel) (by decide +kernel)
theorem w_8_223 : (Jvm.Cond.fieldLink "StripedVaultModel" (760 : Nat) "StripedVaultModel" "pageCoding" "I") ∈ TG := tw_8 223 (by decide +kernel) (by decide +kernel)
theorem w_8_224 : (Jvm.Cond.fieldLink "StripedVaultModel" (767 : Nat) "StripedVaultModel" "bodySize" "I") ∈ TG := tw_8 224 (by decide +kernel) (by decide +kernel)
theorem w_9_1 : (Jvm.Cond.fieldLink "StripedVaultModel" (130 : Nat) "StripedVaultModel" "body" "[I") ∈ TG := tw_9 1 (by decide +kernel) (by decide +kernel)
theorem w_9_18 : (Jvm.Cond.fieldLink "StripedVaultModel" (160 : Nat) "StripedVaultModel" "chunkBytes" "[I") ∈ TG := tw_9 18 (by decide +kernel) (by decide +kernel)
theorem w_9_19 : (Jvm.Cond.fieldLink "StripedVaultModel" (163 : Nat) "StripedVaultModel" "chunkPages" "[I") ∈ TG := tw_9 19 (by decide +kernel) (by decide +kernel)
theorem ws_142 : Cond.selects R_Mod y_Mod_many y_Mod_many ∈ TG := tw_s 142 (by decide +kernel) (by decide +kernel)
theorem ws_143 : Cond.selects R_Mod y_Mod_textsOf y_Mod_textsOf ∈ TG := tw_s 143 (by decide +kernel) (by decide +kernel)
theorem ws_144 : Cond.selects R_Mod y_Mod_fillPage y_Mod_fillPage ∈ TG := tw_s 144 (by decide +kernel) (by decide +kernel)
theorem ws_148 : Cond.selects R_Mod y_Mod_writePage y_Mod_writePage ∈ TG := tw_s 148 (by decide +kernel) (by decide +kernel)
theorem ws_149 : Cond.selects R_Mod y_Mod_codings y_Mod_codings ∈ TG := tw_s 149 (by decide +kernel) (by decide +kernel)
theorem ws_150 : Cond.selects R_Mod y_Mod_writeValues y_Mod_writeValues ∈ TG := tw_s 150 (by decide +kernel) (by decide +kernel)
theorem ws_172 : Cond.selects R_Mod y_Mod_putLevels y_Mod_putLevels ∈ TG := tw_s 172 (by decide +kernel) (by decide +kernel)
theorem ws_173 : Cond.selects R_Mod y_Mod_mostOf y_Mod_mostOf ∈ TG := tw_s 173 (by decide +kernel) (by decide +kernel)
theorem ws_175 : Cond.selects R_Mod y_Mod_putOne y_Mod_putOne ∈ TG := tw_s 175 (by decide +kernel) (by decide +kernel)
theorem ws_176 : Cond.selects R_Mod y_Mod_addSheet y_Mod_addSheet ∈ TG := tw_s 176 (by decide +kernel) (by decide +kernel)
theorem d_Mod_writePage_217 : decode b_Mod_writePage 217 = .ok (.iload_n 2, 1) := by decide +kernel
theorem d_Mod_writePage_218 : decode b_Mod_writePage 218 = .ok (.aload_n 0, 1) := by decide +kernel
theorem d_Mod_writePage_219 : decode b_Mod_writePage 219 = .ok (.getfield 767, 3) := by decide +kernel
theorem d_Mod_writePage_222 : decode b_Mod_writePage 222 = .ok (.if_icmp .ge 19, 3) := by decide +kernel
theorem d_Mod_writePage_241 : decode b_Mod_writePage 241 = .ok (.return_, 1) := by decide +kernel
theorem d_Mod_writePage_225 : decode b_Mod_writePage 225 = .ok (.aload_n 0, 1) := by decide +kernel
theorem d_Mod_writePage_226 : decode b_Mod_writePage 226 = .ok (.aload_n 0, 1) := by decide +kernel
theorem d_Mod_writePage_227 : decode b_Mod_writePage 227 = .ok (.getfield 130, 3) := by decide +kernel
theorem d_Mod_writePage_230 : decode b_Mod_writePage 230 = .ok (.iload_n 2, 1) := by decide +kernel
theorem d_Mod_writePage_231 : decode b_Mod_writePage 231 = .ok (.iaload, 1) := by decide +kernel
theorem d_Mod_writePage_232 : decode b_Mod_writePage 232 = .ok (.invokevirtual 558, 3) := by decide +kernel
theorem d_Mod_writePage_235 : decode b_Mod_writePage 235 = .ok (.iinc 2 1, 3) := by decide +kernel
theorem d_Mod_writePage_238 : decode b_Mod_writePage 238 = .ok (.goto (-21), 3) := by decide +kernel
theorem d_Mod_writePage_188 : decode b_Mod_writePage 188 = .ok (.aload_n 0, 1) := by decide +kernel
theorem d_Mod_writePage_189 : decode b_Mod_writePage 189 = .ok (.aload_n 0, 1) := by decide +kernel
theorem d_Mod_writePage_190 : decode b_Mod_writePage 190 = .ok (.getfield 767, 3) := by decide +kernel
theorem d_Mod_writePage_193 : decode b_Mod_writePage 193 = .ok (.i2l, 1) := by decide +kernel
theorem d_Mod_writePage_194 : decode b_Mod_writePage 194 = .ok (.invokevirtual 567, 3) := by decide +kernel
theorem d_Mod_writePage_197 : decode b_Mod_writePage 197 = .ok (.aload_n 0, 1) := by decide +kernel
theorem d_Mod_writePage_198 : decode b_Mod_writePage 198 = .ok (.aload_n 0, 1) := by decide +kernel
theorem d_Mod_writePage_199 : decode b_Mod_writePage 199 = .ok (.getfield 130, 3) := by decide +kernel
theorem d_Mod_writePage_202 : decode b_Mod_writePage 202 = .ok (.iconst 0, 1) := by decide +kernel
theorem d_Mod_writePage_203 : decode b_Mod_writePage 203 = .ok (.aload_n 0, 1) := by decide +kernel
theorem d_Mod_writePage_204 : decode b_Mod_writePage 204 = .ok (.getfield 767, 3) := by decide +kernel
theorem d_Mod_writePage_207 : decode b_Mod_writePage 207 = .ok (.invokestatic 777, 3) := by decide +kernel
theorem d_Mod_writePage_210 : decode b_Mod_writePage 210 = .ok (.i2l, 1) := by decide +kernel
theorem d_Mod_writePage_211 : decode b_Mod_writePage 211 = .ok (.iconst 4, 1) := by decide +kernel
theorem d_Mod_writePage_212 : decode b_Mod_writePage 212 = .ok (.invokevirtual 654, 3) := by decide +kernel
theorem d_Mod_writePage_215 : decode b_Mod_writePage 215 = .ok (.iconst 0, 1) := by decide +kernel
theorem d_Mod_writePage_216 : decode b_Mod_writePage 216 = .ok (.istore_n 2, 1) := by decide +kernel
theorem d_Mod_writePage_101 : decode b_Mod_writePage 101 = .ok (.iload_n 2, 1) := by decide +kernel
theorem d_Mod_writePage_102 : decode b_Mod_writePage 102 = .ok (.aload_n 0, 1) := by decide +kernel
theorem d_Mod_writePage_103 : decode b_Mod_writePage 103 = .ok (.getfield 767, 3) := by decide +kernel
theorem d_Mod_writePage_106 : decode b_Mod_writePage 106 = .ok (.if_icmp .ge 21, 3) := by decide +kernel
theorem d_Mod_writePage_127 : decode b_Mod_writePage 127 = .ok (.aload_n 0, 1) := by decide +kernel
theorem d_Mod_writePage_128 : decode b_Mod_writePage 128 = .ok (.iconst 0, 1) := by decide +kernel
theorem d_Mod_writePage_129 : decode b_Mod_writePage 129 = .ok (.putfield 547, 3) := by decide +kernel
theorem d_Mod_writePage_132 : decode b_Mod_writePage 132 = .ok (.aload_n 0, 1) := by decide +kernel
theorem d_Mod_writePage_133 : decode b_Mod_writePage 133 = .ok (.aload_n 0, 1) := by decide +kernel
theorem d_Mod_writePage_134 : decode b_Mod_writePage 134 = .ok (.getfield 676, 3) := by decide +kernel
theorem d_Mod_writePage_137 : decode b_Mod_writePage 137 = .ok (.i2l, 1) := by decide +kernel
theorem d_Mod_writePage_138 : decode b_Mod_writePage 138 = .ok (.invokevirtual 567, 3) := by decide +kernel
theorem d_Mod_writePage_141 : decode b_Mod_writePage 141 = .ok (.aload_n 0, 1) := by decide +kernel
theorem d_Mod_writePage_142 : decode b_Mod_writePage 142 = .ok (.aload_n 0, 1) := by decide +kernel
theorem d_Mod_writePage_143 : decode b_Mod_writePage 143 = .ok (.getfield 676, 3) := by decide +kernel
theorem d_Mod_writePage_146 : decode b_Mod_writePage 146 = .ok (.aload_n 0, 1) := by decide +kernel
theorem d_Mod_writePage_147 : decode b_Mod_writePage 147 = .ok (.getfield 632, 3) := by decide +kernel
theorem d_Mod_writePage_150 : decode b_Mod_writePage 150 = .ok (.isub, 1) := by decide +kernel
theorem d_Mod_writePage_151 : decode b_Mod_writePage 151 = .ok (.i2l, 1) := by decide +kernel
theorem d_Mod_writePage_152 : decode b_Mod_writePage 152 = .ok (.invokevirtual 567, 3) := by decide +kernel
theorem d_Mod_writePage_155 : decode b_Mod_writePage 155 = .ok (.aload_n 0, 1) := by decide +kernel
theorem d_Mod_writePage_156 : decode b_Mod_writePage 156 = .ok (.aload_n 0, 1) := by decide +kernel
theorem d_Mod_writePage_157 : decode b_Mod_writePage 157 = .ok (.getfield 760, 3) := by decide +kernel
theorem d_Mod_writePage_160 : decode b_Mod_writePage 160 = .ok (.invokevirtual 558, 3) := by decide +kernel
theorem d_Mod_writePage_163 : decode b_Mod_writePage 163 = .ok (.aload_n 0, 1) := by decide +kernel
theorem d_Mod_writePage_164 : decode b_Mod_writePage 164 = .ok (.getfield 632, 3) := by decide +kernel
theorem d_Mod_writePage_167 : decode b_Mod_writePage 167 = .ok (.ifCond .le 21, 3) := by decide +kernel
theorem d_Mod_writePage_170 : decode b_Mod_writePage 170 = .ok (.aload_n 0, 1) := by decide +kernel
theorem d_Mod_writePage_171 : decode b_Mod_writePage 171 = .ok (.aload_n 0, 1) := by decide +kernel
theorem d_Mod_writePage_172 : decode b_Mod_writePage 172 = .ok (.iconst 0, 1) := by decide +kernel
theorem d_Mod_writePage_173 : decode b_Mod_writePage 173 = .ok (.invokevirtual 770, 3) := by decide +kernel
theorem d_Mod_writePage_176 : decode b_Mod_writePage 176 = .ok (.invokevirtual 774, 3) := by decide +kernel
theorem d_Mod_writePage_179 : decode b_Mod_writePage 179 = .ok (.aload_n 0, 1) := by decide +kernel
theorem d_Mod_writePage_180 : decode b_Mod_writePage 180 = .ok (.aload_n 0, 1) := by decide +kernel
theorem d_Mod_writePage_181 : decode b_Mod_writePage 181 = .ok (.iconst 1, 1) := by decide +kernel
theorem d_Mod_writePage_182 : decode b_Mod_writePage 182 = .ok (.invokevirtual 770, 3) := by decide +kernel
theorem d_Mod_writePage_185 : decode b_Mod_writePage 185 = .ok (.invokevirtual 774, 3) := by decide +kernel
theorem d_Mod_writePage_109 : decode b_Mod_writePage 109 = .ok (.aload_n 0, 1) := by decide +kernel
theorem d_Mod_writePage_110 : decode b_Mod_writePage 110 = .ok (.getfield 130, 3) := by decide +kernel
theorem d_Mod_writePage_113 : decode b_Mod_writePage 113 = .ok (.iload_n 2, 1) := by decide +kernel
theorem d_Mod_writePage_114 : decode b_Mod_writePage 114 = .ok (.aload_n 0, 1) := by decide +kernel
theorem d_Mod_writePage_115 : decode b_Mod_writePage 115 = .ok (.getfield 127, 3) := by decide +kernel
theorem d_Mod_writePage_118 : decode b_Mod_writePage 118 = .ok (.iload_n 2, 1) := by decide +kernel
theorem d_Mod_writePage_119 : decode b_Mod_writePage 119 = .ok (.iaload, 1) := by decide +kernel
theorem d_Mod_writePage_120 : decode b_Mod_writePage 120 = .ok (.iastore, 1) := by decide +kernel
theorem d_Mod_writePage_121 : decode b_Mod_writePage 121 = .ok (.iinc 2 1, 3) := by decide +kernel
theorem d_Mod_writePage_124 : decode b_Mod_writePage 124 = .ok (.goto (-23), 3) := by decide +kernel
theorem d_Mod_writePage_48 : decode b_Mod_writePage 48 = .ok (.iinc 2 1, 3) := by decide +kernel
theorem d_Mod_writePage_51 : decode b_Mod_writePage 51 = .ok (.goto (-47), 3) := by decide +kernel
theorem d_Mod_writePage_38 : decode b_Mod_writePage 38 = .ok (.aload_n 0, 1) := by decide +kernel
theorem d_Mod_writePage_39 : decode b_Mod_writePage 39 = .ok (.getfield 547, 3) := by decide +kernel
theorem d_Mod_writePage_42 : decode b_Mod_writePage 42 = .ok (.istore_n 1, 1) := by decide +kernel
theorem d_Mod_writePage_43 : decode b_Mod_writePage 43 = .ok (.aload_n 0, 1) := by decide +kernel
theorem d_Mod_writePage_44 : decode b_Mod_writePage 44 = .ok (.iload_n 2, 1) := by decide +kernel
theorem d_Mod_writePage_45 : decode b_Mod_writePage 45 = .ok (.putfield 760, 3) := by decide +kernel
theorem d_Mod_writePage_4 : decode b_Mod_writePage 4 = .ok (.iload_n 2, 1) := by decide +kernel
theorem d_Mod_writePage_5 : decode b_Mod_writePage 5 = .ok (.aload_n 0, 1) := by decide +kernel
theorem d_Mod_writePage_6 : decode b_Mod_writePage 6 = .ok (.invokevirtual 754, 3) := by decide +kernel
theorem d_Mod_writePage_9 : decode b_Mod_writePage 9 = .ok (.if_icmp .ge 45, 3) := by decide +kernel
theorem d_Mod_writePage_54 : decode b_Mod_writePage 54 = .ok (.aload_n 0, 1) := by decide +kernel
theorem d_Mod_writePage_55 : decode b_Mod_writePage 55 = .ok (.iconst 0, 1) := by decide +kernel
theorem d_Mod_writePage_56 : decode b_Mod_writePage 56 = .ok (.putfield 547, 3) := by decide +kernel
theorem d_Mod_writePage_59 : decode b_Mod_writePage 59 = .ok (.aload_n 0, 1) := by decide +kernel
theorem d_Mod_writePage_60 : decode b_Mod_writePage 60 = .ok (.aload_n 0, 1) := by decide +kernel
theorem d_Mod_writePage_61 : decode b_Mod_writePage 61 = .ok (.getfield 88, 3) := by decide +kernel
theorem d_Mod_writePage_64 : decode b_Mod_writePage 64 = .ok (.aload_n 0, 1) := by decide +kernel
theorem d_Mod_writePage_65 : decode b_Mod_writePage 65 = .ok (.getfield 733, 3) := by decide +kernel
theorem d_Mod_writePage_68 : decode b_Mod_writePage 68 = .ok (.invokevirtual 763, 3) := by decide +kernel
theorem d_Mod_writePage_71 : decode b_Mod_writePage 71 = .ok (.aload_n 0, 1) := by decide +kernel
theorem d_Mod_writePage_72 : decode b_Mod_writePage 72 = .ok (.aload_n 0, 1) := by decide +kernel
theorem d_Mod_writePage_73 : decode b_Mod_writePage 73 = .ok (.getfield 91, 3) := by decide +kernel
theorem d_Mod_writePage_76 : decode b_Mod_writePage 76 = .ok (.aload_n 0, 1) := by decide +kernel
theorem d_Mod_writePage_77 : decode b_Mod_writePage 77 = .ok (.getfield 739, 3) := by decide +kernel
theorem d_Mod_writePage_80 : decode b_Mod_writePage 80 = .ok (.invokevirtual 763, 3) := by decide +kernel
theorem d_Mod_writePage_83 : decode b_Mod_writePage 83 = .ok (.aload_n 0, 1) := by decide +kernel
theorem d_Mod_writePage_84 : decode b_Mod_writePage 84 = .ok (.aload_n 0, 1) := by decide +kernel
theorem d_Mod_writePage_85 : decode b_Mod_writePage 85 = .ok (.getfield 760, 3) := by decide +kernel
theorem d_Mod_writePage_88 : decode b_Mod_writePage 88 = .ok (.invokevirtual 757, 3) := by decide +kernel
theorem d_Mod_writePage_91 : decode b_Mod_writePage 91 = .ok (.aload_n 0, 1) := by decide +kernel
theorem d_Mod_writePage_92 : decode b_Mod_writePage 92 = .ok (.aload_n 0, 1) := by decide +kernel
theorem d_Mod_writePage_93 : decode b_Mod_writePage 93 = .ok (.getfield 547, 3) := by decide +kernel
theorem d_Mod_writePage_96 : decode b_Mod_writePage 96 = .ok (.putfield 767, 3) := by decide +kernel
theorem d_Mod_writePage_99 : decode b_Mod_writePage 99 = .ok (.iconst 0, 1) := by decide +kernel
theorem d_Mod_writePage_100 : decode b_Mod_writePage 100 = .ok (.istore_n 2, 1) := by decide +kernel
theorem d_Mod_writePage_12 : decode b_Mod_writePage 12 = .ok (.aload_n 0, 1) := by decide +kernel
theorem d_Mod_writePage_13 : decode b_Mod_writePage 13 = .ok (.iconst 0, 1) := by decide +kernel
theorem d_Mod_writePage_14 : decode b_Mod_writePage 14 = .ok (.putfield 547, 3) := by decide +kernel
theorem d_Mod_writePage_17 : decode b_Mod_writePage 17 = .ok (.aload_n 0, 1) := by decide +kernel
theorem d_Mod_writePage_18 : decode b_Mod_writePage 18 = .ok (.iload_n 2, 1) := by decide +kernel
theorem d_Mod_writePage_19 : decode b_Mod_writePage 19 = .ok (.invokevirtual 757, 3) := by decide +kernel
theorem d_Mod_writePage_22 : decode b_Mod_writePage 22 = .ok (.iload_n 1, 1) := by decide +kernel
theorem d_Mod_writePage_23 : decode b_Mod_writePage 23 = .ok (.iconst (-1), 1) := by decide +kernel
theorem d_Mod_writePage_24 : decode b_Mod_writePage 24 = .ok (.if_icmp .eq 14, 3) := by decide +kernel
theorem d_Mod_writePage_27 : decode b_Mod_writePage 27 = .ok (.aload_n 0, 1) := by decide +kernel
theorem d_Mod_writePage_28 : decode b_Mod_writePage 28 = .ok (.getfield 547, 3) := by decide +kernel
theorem d_Mod_writePage_31 : decode b_Mod_writePage 31 = .ok (.iload_n 1, 1) := by decide +kernel
theorem d_Mod_writePage_32 : decode b_Mod_writePage 32 = .ok (.if_icmp .lt 6, 3) := by decide +kernel
theorem d_Mod_writePage_35 : decode b_Mod_writePage 35 = .ok (.goto 13, 3) := by decide +kernel
theorem d_Mod_writePage_0 : decode b_Mod_writePage 0 = .ok (.iconst (-1), 1) := by decide +kernel
theorem d_Mod_writePage_1 : decode b_Mod_writePage 1 = .ok (.istore_n 1, 1) := by decide +kernel
theorem d_Mod_writePage_2 : decode b_Mod_writePage 2 = .ok (.iconst 0, 1) := by decide +kernel
theorem d_Mod_writePage_3 : decode b_Mod_writePage 3 = .ok (.istore_n 2, 1) := by decide +kernel
theorem d_Mod_addSheet_30 : decode b_Mod_addSheet 30 = .ok (.invokevirtual 783, 3) := by decide +kernel
theorem d_Mod_addSheet_33 : decode b_Mod_addSheet 33 = .ok (.iinc 1 1, 3) := by decide +kernel
theorem d_Mod_addSheet_36 : decode b_Mod_addSheet 36 = .ok (.goto (-34), 3) := by decide +kernel
theorem d_Mod_addSheet_2 : decode b_Mod_addSheet 2 = .ok (.iload_n 1, 1) := by decide +kernel
theorem d_Mod_addSheet_3 : decode b_Mod_addSheet 3 = .ok (.aload_n 0, 1) := by decide +kernel
theorem d_Mod_addSheet_4 : decode b_Mod_addSheet 4 = .ok (.getfield 547, 3) := by decide +kernel
theorem d_Mod_addSheet_7 : decode b_Mod_addSheet 7 = .ok (.if_icmp .ge 32, 3) := by decide +kernel
theorem d_Mod_addSheet_39 : decode b_Mod_addSheet 39 = .ok (.return_, 1) := by decide +kernel
theorem d_Mod_addSheet_10 : decode b_Mod_addSheet 10 = .ok (.aload_n 0, 1) := by decide +kernel
theorem d_Mod_addSheet_11 : decode b_Mod_addSheet 11 = .ok (.iload_n 1, 1) := by decide +kernel
theorem d_Mod_addSheet_12 : decode b_Mod_addSheet 12 = .ok (.aload_n 0, 1) := by decide +kernel
theorem d_Mod_addSheet_13 : decode b_Mod_addSheet 13 = .ok (.getfield 127, 3) := by decide +kernel
theorem d_Mod_addSheet_16 : decode b_Mod_addSheet 16 = .ok (.arraylength, 1) := by decide +kernel
theorem d_Mod_addSheet_17 : decode b_Mod_addSheet 17 = .ok (.if_icmp .ge 12, 3) := by decide +kernel
theorem d_Mod_addSheet_29 : decode b_Mod_addSheet 29 = .ok (.iconst 0, 1) := by decide +kernel
theorem d_Mod_addSheet_20 : decode b_Mod_addSheet 20 = .ok (.aload_n 0, 1) := by decide +kernel
theorem d_Mod_addSheet_21 : decode b_Mod_addSheet 21 = .ok (.getfield 127, 3) := by decide +kernel
theorem d_Mod_addSheet_24 : decode b_Mod_addSheet 24 = .ok (.iload_n 1, 1) := by decide +kernel
theorem d_Mod_addSheet_25 : decode b_Mod_addSheet 25 = .ok (.iaload, 1) := by decide +kernel
theorem d_Mod_addSheet_26 : decode b_Mod_addSheet 26 = .ok (.goto 4, 3) := by decide +kernel
theorem d_Mod_addSheet_0 : decode b_Mod_addSheet 0 = .ok (.iconst 0, 1) := by decide +kernel
theorem d_Mod_addSheet_1 : decode b_Mod_addSheet 1 = .ok (.istore_n 1, 1) := by decide +kernel
theorem d_Mod_writeChunk_124 : decode b_Mod_writeChunk 124 = .ok (.aload_n 0, 1) := by decide +kernel
theorem d_Mod_writeChunk_125 : decode b_Mod_writeChunk 125 = .ok (.iload_n 2, 1) := by decide +kernel
theorem d_Mod_writeChunk_126 : decode b_Mod_writeChunk 126 = .ok (.iload 7, 2) := by decide +kernel
theorem d_Mod_writeChunk_128 : decode b_Mod_writeChunk 128 = .ok (.iload 8, 2) := by decide +kernel
theorem d_Mod_writeChunk_130 : decode b_Mod_writeChunk 130 = .ok (.invokevirtual 801, 3) := by decide +kernel
theorem d_Mod_writeChunk_133 : decode b_Mod_writeChunk 133 = .ok (.aload_n 0, 1) := by decide +kernel
theorem d_Mod_writeChunk_134 : decode b_Mod_writeChunk 134 = .ok (.invokevirtual 804, 3) := by decide +kernel
theorem d_Mod_writeChunk_137 : decode b_Mod_writeChunk 137 = .ok (.aload_n 0, 1) := by decide +kernel
theorem d_Mod_writeChunk_138 : decode b_Mod_writeChunk 138 = .ok (.invokevirtual 807, 3) := by decide +kernel
theorem d_Mod_writeChunk_141 : decode b_Mod_writeChunk 141 = .ok (.aload_n 0, 1) := by decide +kernel
theorem d_Mod_writeChunk_142 : decode b_Mod_writeChunk 142 = .ok (.getfield 163, 3) := by decide +kernel
theorem d_Mod_writeChunk_145 : decode b_Mod_writeChunk 145 = .ok (.iload_n 1, 1) := by decide +kernel
theorem d_Mod_writeChunk_146 : decode b_Mod_writeChunk 146 = .ok (.dup2, 1) := by decide +kernel
theorem d_Mod_writeChunk_147 : decode b_Mod_writeChunk 147 = .ok (.iaload, 1) := by decide +kernel
theorem d_Mod_writeChunk_148 : decode b_Mod_writeChunk 148 = .ok (.iconst 1, 1) := by decide +kernel
theorem d_Mod_writeChunk_149 : decode b_Mod_writeChunk 149 = .ok (.iadd, 1) := by decide +kernel
theorem d_Mod_writeChunk_150 : decode b_Mod_writeChunk 150 = .ok (.iastore, 1) := by decide +kernel
theorem d_Mod_writeChunk_151 : decode b_Mod_writeChunk 151 = .ok (.iload 8, 2) := by decide +kernel
theorem d_Mod_writeChunk_153 : decode b_Mod_writeChunk 153 = .ok (.istore 7, 2) := by decide +kernel
theorem d_Mod_writeChunk_155 : decode b_Mod_writeChunk 155 = .ok (.goto (-139), 3) := by decide +kernel
theorem d_Mod_writeChunk_61 : decode b_Mod_writeChunk 61 = .ok (.iload 8, 2) := by decide +kernel
theorem d_Mod_writeChunk_63 : decode b_Mod_writeChunk 63 = .ok (.iload 4, 2) := by decide +kernel
theorem d_Mod_writeChunk_65 : decode b_Mod_writeChunk 65 = .ok (.if_icmp .ge 59, 3) := by decide +kernel
theorem d_Mod_writeChunk_68 : decode b_Mod_writeChunk 68 = .ok (.iload 9, 2) := by decide +kernel
theorem d_Mod_writeChunk_70 : decode b_Mod_writeChunk 70 = .ok (.aload_n 0, 1) := by decide +kernel
theorem d_Mod_writeChunk_71 : decode b_Mod_writeChunk 71 = .ok (.iload_n 2, 1) := by decide +kernel
theorem d_Mod_writeChunk_72 : decode b_Mod_writeChunk 72 = .ok (.iload 8, 2) := by decide +kernel
theorem d_Mod_writeChunk_74 : decode b_Mod_writeChunk 74 = .ok (.iload 8, 2) := by decide +kernel
theorem d_Mod_writeChunk_76 : decode b_Mod_writeChunk 76 = .ok (.iconst 1, 1) := by decide +kernel
theorem d_Mod_writeChunk_77 : decode b_Mod_writeChunk 77 = .ok (.iadd, 1) := by decide +kernel
theorem d_Mod_writeChunk_78 : decode b_Mod_writeChunk 78 = .ok (.invokevirtual 795, 3) := by decide +kernel
theorem d_Mod_writeChunk_81 : decode b_Mod_writeChunk 81 = .ok (.iadd, 1) := by decide +kernel
theorem d_Mod_writeChunk_82 : decode b_Mod_writeChunk 82 = .ok (.istore 9, 2) := by decide +kernel
theorem d_Mod_writeChunk_84 : decode b_Mod_writeChunk 84 = .ok (.iload 10, 2) := by decide +kernel
theorem d_Mod_writeChunk_86 : decode b_Mod_writeChunk 86 = .ok (.aload_n 0, 1) := by decide +kernel
theorem d_Mod_writeChunk_87 : decode b_Mod_writeChunk 87 = .ok (.iload_n 2, 1) := by decide +kernel
theorem d_Mod_writeChunk_88 : decode b_Mod_writeChunk 88 = .ok (.iload 8, 2) := by decide +kernel
theorem d_Mod_writeChunk_90 : decode b_Mod_writeChunk 90 = .ok (.iload 8, 2) := by decide +kernel
theorem d_Mod_writeChunk_92 : decode b_Mod_writeChunk 92 = .ok (.iconst 1, 1) := by decide +kernel
theorem d_Mod_writeChunk_93 : decode b_Mod_writeChunk 93 = .ok (.iadd, 1) := by decide +kernel
theorem d_Mod_writeChunk_94 : decode b_Mod_writeChunk 94 = .ok (.invokevirtual 798, 3) := by decide +kernel
theorem d_Mod_writeChunk_97 : decode b_Mod_writeChunk 97 = .ok (.iadd, 1) := by decide +kernel
theorem d_Mod_writeChunk_98 : decode b_Mod_writeChunk 98 = .ok (.istore 10, 2) := by decide +kernel
theorem d_Mod_writeChunk_100 : decode b_Mod_writeChunk 100 = .ok (.iload 9, 2) := by decide +kernel
theorem d_Mod_writeChunk_102 : decode b_Mod_writeChunk 102 = .ok (.iload 5, 2) := by decide +kernel
theorem d_Mod_writeChunk_104 : decode b_Mod_writeChunk 104 = .ok (.if_icmp .gt 20, 3) := by decide +kernel
theorem d_Mod_writeChunk_107 : decode b_Mod_writeChunk 107 = .ok (.iload 10, 2) := by decide +kernel
theorem d_Mod_writeChunk_109 : decode b_Mod_writeChunk 109 = .ok (.sipush 20000, 3) := by decide +kernel
theorem d_Mod_writeChunk_112 : decode b_Mod_writeChunk 112 = .ok (.if_icmp .le 6, 3) := by decide +kernel
theorem d_Mod_writeChunk_118 : decode b_Mod_writeChunk 118 = .ok (.iinc 8 1, 3) := by decide +kernel
theorem d_Mod_writeChunk_121 : decode b_Mod_writeChunk 121 = .ok (.goto (-60), 3) := by decide +kernel
theorem d_Mod_writeChunk_115 : decode b_Mod_writeChunk 115 = .ok (.goto 9, 3) := by decide +kernel
theorem d_Mod_writeChunk_16 : decode b_Mod_writeChunk 16 = .ok (.iload 7, 2) := by decide +kernel
theorem d_Mod_writeChunk_18 : decode b_Mod_writeChunk 18 = .ok (.iload 4, 2) := by decide +kernel
theorem d_Mod_writeChunk_20 : decode b_Mod_writeChunk 20 = .ok (.if_icmp .ge 138, 3) := by decide +kernel
theorem d_Mod_writeChunk_158 : decode b_Mod_writeChunk 158 = .ok (.aload_n 0, 1) := by decide +kernel
theorem d_Mod_writeChunk_159 : decode b_Mod_writeChunk 159 = .ok (.getfield 160, 3) := by decide +kernel
theorem d_Mod_writeChunk_162 : decode b_Mod_writeChunk 162 = .ok (.iload_n 1, 1) := by decide +kernel
theorem d_Mod_writeChunk_163 : decode b_Mod_writeChunk 163 = .ok (.aload_n 0, 1) := by decide +kernel
theorem d_Mod_writeChunk_164 : decode b_Mod_writeChunk 164 = .ok (.getfield 780, 3) := by decide +kernel
theorem d_Mod_writeChunk_167 : decode b_Mod_writeChunk 167 = .ok (.iload 6, 2) := by decide +kernel
theorem d_Mod_writeChunk_169 : decode b_Mod_writeChunk 169 = .ok (.isub, 1) := by decide +kernel
theorem d_Mod_writeChunk_170 : decode b_Mod_writeChunk 170 = .ok (.iastore, 1) := by decide +kernel
theorem d_Mod_writeChunk_171 : decode b_Mod_writeChunk 171 = .ok (.iconst 1, 1) := by decide +kernel
theorem d_Mod_writeChunk_172 : decode b_Mod_writeChunk 172 = .ok (.ireturn, 1) := by decide +kernel
theorem d_Mod_writeChunk_23 : decode b_Mod_writeChunk 23 = .ok (.iload 7, 2) := by decide +kernel
theorem d_Mod_writeChunk_25 : decode b_Mod_writeChunk 25 = .ok (.iconst 1, 1) := by decide +kernel
theorem d_Mod_writeChunk_26 : decode b_Mod_writeChunk 26 = .ok (.iadd, 1) := by decide +kernel
theorem d_Mod_writeChunk_27 : decode b_Mod_writeChunk 27 = .ok (.istore 8, 2) := by decide +kernel
theorem d_Mod_writeChunk_29 : decode b_Mod_writeChunk 29 = .ok (.aload_n 0, 1) := by decide +kernel
theorem d_Mod_writeChunk_30 : decode b_Mod_writeChunk 30 = .ok (.iload_n 2, 1) := by decide +kernel
theorem d_Mod_writeChunk_31 : decode b_Mod_writeChunk 31 = .ok (.iload 7, 2) := by decide +kernel
theorem d_Mod_writeChunk_33 : decode b_Mod_writeChunk 33 = .ok (.iload 8, 2) := by decide +kernel
theorem d_Mod_writeChunk_35 : decode b_Mod_writeChunk 35 = .ok (.invokevirtual 795, 3) := by decide +kernel
theorem d_Mod_writeChunk_38 : decode b_Mod_writeChunk 38 = .ok (.istore 9, 2) := by decide +kernel
theorem d_Mod_writeChunk_40 : decode b_Mod_writeChunk 40 = .ok (.aload_n 0, 1) := by decide +kernel
theorem d_Mod_writeChunk_41 : decode b_Mod_writeChunk 41 = .ok (.iload_n 2, 1) := by decide +kernel
theorem d_Mod_writeChunk_42 : decode b_Mod_writeChunk 42 = .ok (.iload 7, 2) := by decide +kernel
theorem d_Mod_writeChunk_44 : decode b_Mod_writeChunk 44 = .ok (.iload 8, 2) := by decide +kernel
theorem d_Mod_writeChunk_46 : decode b_Mod_writeChunk 46 = .ok (.invokevirtual 798, 3) := by decide +kernel
theorem d_Mod_writeChunk_49 : decode b_Mod_writeChunk 49 = .ok (.istore 10, 2) := by decide +kernel
theorem d_Mod_writeChunk_51 : decode b_Mod_writeChunk 51 = .ok (.iload 9, 2) := by decide +kernel
theorem d_Mod_writeChunk_53 : decode b_Mod_writeChunk 53 = .ok (.sipush 1000, 3) := by decide +kernel
theorem d_Mod_writeChunk_56 : decode b_Mod_writeChunk 56 = .ok (.if_icmp .le 5, 3) := by decide +kernel
theorem d_Mod_writeChunk_59 : decode b_Mod_writeChunk 59 = .ok (.iconst 0, 1) := by decide +kernel
theorem d_Mod_writeChunk_60 : decode b_Mod_writeChunk 60 = .ok (.ireturn, 1) := by decide +kernel
theorem d_Mod_writeChunk_0 : decode b_Mod_writeChunk 0 = .ok (.aload_n 0, 1) := by decide +kernel
theorem d_Mod_writeChunk_1 : decode b_Mod_writeChunk 1 = .ok (.getfield 780, 3) := by decide +kernel
theorem d_Mod_writeChunk_4 : decode b_Mod_writeChunk 4 = .ok (.istore 6, 2) := by decide +kernel
theorem d_Mod_writeChunk_6 : decode b_Mod_writeChunk 6 = .ok (.aload_n 0, 1) := by decide +kernel
theorem d_Mod_writeChunk_7 : decode b_Mod_writeChunk 7 = .ok (.getfield 163, 3) := by decide +kernel
theorem d_Mod_writeChunk_10 : decode b_Mod_writeChunk 10 = .ok (.iload_n 1, 1) := by decide +kernel
theorem d_Mod_writeChunk_11 : decode b_Mod_writeChunk 11 = .ok (.iconst 0, 1) := by decide +kernel
theorem d_Mod_writeChunk_12 : decode b_Mod_writeChunk 12 = .ok (.iastore, 1) := by decide +kernel
theorem d_Mod_writeChunk_13 : decode b_Mod_writeChunk 13 = .ok (.iload_n 3, 1) := by decide +kernel
theorem d_Mod_writeChunk_14 : decode b_Mod_writeChunk 14 = .ok (.istore 7, 2) := by decide +kernel
theorem d_Mod_has_0 : decode b_Mod_has 0 = .ok (.aload_n 0, 1) := by decide +kernel
theorem d_Mod_has_1 : decode b_Mod_has 1 = .ok (.getfield 66, 3) := by decide +kernel
theorem d_Mod_has_4 : decode b_Mod_has 4 = .ok (.iload_n 1, 1) := by decide +kernel
theorem d_Mod_has_5 : decode b_Mod_has 5 = .ok (.iaload, 1) := by decide +kernel
theorem d_Mod_has_6 : decode b_Mod_has 6 = .ok (.aload_n 0, 1) := by decide +kernel
theorem d_Mod_has_7 : decode b_Mod_has 7 = .ok (.iconst 0, 1) := by decide +kernel
theorem d_Mod_has_8 : decode b_Mod_has 8 = .ok (.aload_n 0, 1) := by decide +kernel
theorem d_Mod_has_9 : decode b_Mod_has 9 = .ok (.getfield 69, 3) := by decide +kernel
theorem d_Mod_has_12 : decode b_Mod_has 12 = .ok (.iload_n 1, 1) := by decide +kernel
theorem d_Mod_has_13 : decode b_Mod_has 13 = .ok (.iaload, 1) := by decide +kernel
theorem d_Mod_has_14 : decode b_Mod_has 14 = .ok (.invokevirtual 786, 3) := by decide +kernel
theorem d_Mod_has_17 : decode b_Mod_has 17 = .ok (.if_icmp .ne 7, 3) := by decide +kernel
theorem d_Mod_has_24 : decode b_Mod_has 24 = .ok (.iconst 0, 1) := by decide +kernel
theorem d_Mod_has_25 : decode b_Mod_has 25 = .ok (.ireturn, 1) := by decide +kernel
theorem d_Mod_has_20 : decode b_Mod_has 20 = .ok (.iconst 1, 1) := by decide +kernel
theorem d_Mod_has_21 : decode b_Mod_has 21 = .ok (.goto 4, 3) := by decide +kernel
section
variable (l : Launch) (dC : Nat → ClassId) (dI : Nat → Nat → Nat) (cI cB cJ cZ : ClassId)
set_option maxRecDepth 100000 in
def j_Mod_writePage_217 (post : St → Prop) (rec217 : Int32 → Int32 → St → Prop) (l1 : Int32) (l2 : Int32) (x : St) : Prop := (((fI x 0 44) ≤ l2 → post x) ∧ (¬ (fI x 0 44) ≤ l2 → (vp_in l2 (fN x 40) ∧ wp_Mod_put (fun (x744 : St) => rec217 l1 (l2 + 1) x744) (rA x 40 l2) x)))
set_option maxHeartbeats 4000000 in
set_option maxRecDepth 100000 in
theorem t_Mod_writePage_217 {p : Program} {l : Launch} {e : Env} {R : Room} {s : State} {m : MethodId} {args : Array Value} {below : List Frame} {meth : Method} {c : Code} {cells slots : Nat} {Q : State → Prop} {dC : Nat → ClassId} {dI : Nat → Nat → Nat} {cI cB cJ cZ : ClassId} {A : Nat → Prop} {ad : Nat → Nat} {post : St → Prop} {rec217 : Int32 → Int32 → St → Prop} (hx : p.tables.exec = Jvm.exec) (hb : c.code = b_Mod_writePage) (hml : c.maxLocals = 3) (hown : s.vm.findClass R_Mod = some m.cls) (hT : ∀ w ∈ TG, w.before args s = true) (hK : va_K (dC, dI) CL (TY cI cB cJ cZ) s) (hN : NW s) (hA : ∀ q : Nat, s.heap.size ≤ q → A q) (hRc : cells ≤ R.cells) (hRs : slots ≤ R.slots) (hRf : 6 ≤ R.frames) (hRl : 141 ≤ R.locals) (hret : ∀ (x : St) (H : Heap) (locs : List Loc) (pc : Nat) (ls : Array Slot), decode b_Mod_writePage pc = .ok (.return_, 1) → post x → Wd dC dI cI cB cJ cZ ad stM kcM 115 A x H → va_S A s.heap H locs → W p l e R s m args below meth c H locs cells slots Q (F0 m pc ls [])) (hrec217 : ∀ (l1 : Int32) (l2 : Int32) (x : St) (H : Heap) (locs : List Loc) (ls : Array Slot), rec217 l1 l2 x → Wd dC dI cI cB cJ cZ ad stM kcM 115 A x H → va_S A s.heap H locs → lv_has ls 3 [(0, .ref (ad 0)), (1, .int l1), (2, .int l2)] → W p l e R s m args below meth c H locs cells slots Q (F0 m 217 ls [])) : ∀ (l1 : Int32) (l2 : Int32) (x : St) (H : Heap) (locs : List Loc) (ls : Array Slot), j_Mod_writePage_217 post rec217 l1 l2 x → Wd dC dI cI cB cJ cZ ad stM kcM 115 A x H → va_S A s.heap H locs → lv_has ls 3 [(0, .ref (ad 0)), (1, .int l1), (2, .int l2)] → W p l e R s m args below meth c H locs cells slots Q (F0 m 217 ls []) := by
  intro l1 l2 x H locs ls  hw hW hS hl
  unfold j_Mod_writePage_217 at hw
  refine lv_iload_n hx hb d_Mod_writePage_217 rfl (lv_at hl 2 rfl) ?_
  refine lv_aload_n hx hb d_Mod_writePage_218 rfl (lv_at hl 0 rfl) ?_
  refine w_geti (k := 44) (t := 12) (C := R_Mod) (T := F_Mod) (N := 167) hx hb hT hown hK hW ko_0.1 ko_0.2 (by decide) in_Mod rfl rfl (by decide) rfl fr_Mod_44 w_8_224 d_Mod_writePage_219 ?_
  refine lv_icmp_ge (tgt := 241) hx hb d_Mod_writePage_222 (by decide) (fun c743 => ?_) (fun c743 => ?_)
  · have hw := hw.1 c743
    exact hret x H locs 241 ls d_Mod_writePage_241 hw hW hS
  · have hw := hw.2 c743
    refine lv_aload_n hx hb d_Mod_writePage_225 rfl (lv_at hl 0 rfl) ?_
    refine lv_aload_n hx hb d_Mod_writePage_226 rfl (lv_at hl 0 rfl) ?_
    refine w_getf (q := 40) (k := 61) (t := 12) (C := R_Mod) (T := F_Mod) (N := 167) hx hb hT hown hK hW ko_0.1 ko_0.2 (by decide) in_Mod rfl rfl (by decide) rfl fr_Mod_61 w_9_1 d_Mod_writePage_227 rfl ?_
    refine lv_iload_n hx hb d_Mod_writePage_230 rfl (lv_at hl 2 rfl) ?_
    obtain ⟨hi, hw⟩ := hw
    refine w_iald (o := 40) hx hb hK hW ko_40.1 ko_40.2 hi d_Mod_writePage_231 ?_
    have hF := hW.free hS hA
    refine va_callv (va_runV (C := R_Mod) (As := [.int (rA x 40 l2)]) (rest := []) ⟨hx, hb, hml, hown, hT⟩ (k_Mod_put l dC dI cI cB cJ cZ ad H.size (rA x 40 l2) x  hw) ⟨callB_of 1 hT (gw_in w_11_203) rfl rfl rfl (hT _ w_1_15) (hT _ w_11_200) (by decide +kernel) ⟨Nat.le_trans (by decide) hRf, Nat.le_trans (by decide) hRl⟩, hT _ w_11_202, hT _ ws_154⟩ ⟨PW.blind, va_recv hK hW.1 (ci := 12) (q0 := 0) rfl (pic_obj ko_0.1 ko_0.2 (by decide)), PW.at _ hW hK hN⟩ rfl rfl hl.1 rfl (lv_room (Nat.le_of_ble_eq_true rfl)) d_Mod_writePage_232 ⟨hRc, hRs⟩) hS (fun q _ h => hF q h) hF (fun  x744 t H locs ht hvm hw hB hz1 hk1 hS => ?_)
    have hW := Wd.back hB ht hF
    clear hB ht hF hz1 hk1 hvm
    refine lv_iinc (v := (l2 + 1)) (lv' := [(2, .int (l2 + 1)), (0, .ref (ad 0)), (1, .int l1)]) hx hb d_Mod_writePage_235 hl (k := 2) rfl rfl (by decide) rfl (fun ls hl => ?_)
    refine lv_goto (tgt := 217) hx hb d_Mod_writePage_238 (by decide) ?_
    exact hrec217 l1 (l2 + 1) x744 H locs ls  hw hW hS (lv_sub hl [1, 2, 0] rfl)
def wl_Mod_writePage_217 (post : St → Prop) : Nat → Int32 → Int32 → St → Prop
  | 0 => fun _ _ _ => False
  | n + 1 => j_Mod_writePage_217 post (wl_Mod_writePage_217 post n)
set_option maxHeartbeats 4000000 in
set_option maxRecDepth 100000 in
theorem tl_Mod_writePage_217 {p : Program} {l : Launch} {e : Env} {R : Room} {s : State} {m : MethodId} {args : Array Value} {below : List Frame} {meth : Method} {c : Code} {cells slots : Nat} {Q : State → Prop} {dC : Nat → ClassId} {dI : Nat → Nat → Nat} {cI cB cJ cZ : ClassId} {A : Nat → Prop} {ad : Nat → Nat} {post : St → Prop} (hx : p.tables.exec = Jvm.exec) (hb : c.code = b_Mod_writePage) (hml : c.maxLocals = 3) (hown : s.vm.findClass R_Mod = some m.cls) (hT : ∀ w ∈ TG, w.before args s = true) (hK : va_K (dC, dI) CL (TY cI cB cJ cZ) s) (hN : NW s) (hA : ∀ q : Nat, s.heap.size ≤ q → A q) (hRc : cells ≤ R.cells) (hRs : slots ≤ R.slots) (hRf : 6 ≤ R.frames) (hRl : 141 ≤ R.locals) (hret : ∀ (x : St) (H : Heap) (locs : List Loc) (pc : Nat) (ls : Array Slot), decode b_Mod_writePage pc = .ok (.return_, 1) → post x → Wd dC dI cI cB cJ cZ ad stM kcM 115 A x H → va_S A s.heap H locs → W p l e R s m args below meth c H locs cells slots Q (F0 m pc ls []))  : ∀ n : Nat, ∀ (l1 : Int32) (l2 : Int32) (x : St) (H : Heap) (locs : List Loc) (ls : Array Slot), wl_Mod_writePage_217 post n l1 l2 x → Wd dC dI cI cB cJ cZ ad stM kcM 115 A x H → va_S A s.heap H locs → lv_has ls 3 [(0, .ref (ad 0)), (1, .int l1), (2, .int l2)] → W p l e R s m args below meth c H locs cells slots Q (F0 m 217 ls []) := by
  intro n
  induction n with
  | zero => intro l1 l2 x H locs ls  hw; exact hw.elim
  | succ n ih => intro l1 l2 x H locs ls  hw hW hS hl; exact t_Mod_writePage_217 hx hb hml hown hT hK hN hA hRc hRs hRf hRl hret  ih l1 l2 x H locs ls  hw hW hS hl
set_option maxRecDepth 100000 in
def j_Mod_writePage_188 (post : St → Prop) (l1 : Int32) (l2 : Int32) (x : St) : Prop := wp_Mod_putVarint (fun (x745 : St) => wp_Mod_check (fun (r747 : Int32) (x746 : St) => wp_Mod_putFixed (fun (x748 : St) => ∃ n : Nat, wl_Mod_writePage_217 post n l1 0 x748) (r747 : Int32).toInt64 4 x746) 40 0 (fI x745 0 44) x745) ((fI x 0 44) : Int32).toInt64 x
set_option maxHeartbeats 4000000 in
set_option maxRecDepth 100000 in
theorem t_Mod_writePage_188 {p : Program} {l : Launch} {e : Env} {R : Room} {s : State} {m : MethodId} {args : Array Value} {below : List Frame} {meth : Method} {c : Code} {cells slots : Nat} {Q : State → Prop} {dC : Nat → ClassId} {dI : Nat → Nat → Nat} {cI cB cJ cZ : ClassId} {A : Nat → Prop} {ad : Nat → Nat} {post : St → Prop} (hx : p.tables.exec = Jvm.exec) (hb : c.code = b_Mod_writePage) (hml : c.maxLocals = 3) (hown : s.vm.findClass R_Mod = some m.cls) (hT : ∀ w ∈ TG, w.before args s = true) (hK : va_K (dC, dI) CL (TY cI cB cJ cZ) s) (hN : NW s) (hA : ∀ q : Nat, s.heap.size ≤ q → A q) (hRc : cells ≤ R.cells) (hRs : slots ≤ R.slots) (hRf : 6 ≤ R.frames) (hRl : 141 ≤ R.locals) (hret : ∀ (x : St) (H : Heap) (locs : List Loc) (pc : Nat) (ls : Array Slot), decode b_Mod_writePage pc = .ok (.return_, 1) → post x → Wd dC dI cI cB cJ cZ ad stM kcM 115 A x H → va_S A s.heap H locs → W p l e R s m args below meth c H locs cells slots Q (F0 m pc ls []))  : ∀ (l1 : Int32) (l2 : Int32) (x : St) (H : Heap) (locs : List Loc) (ls : Array Slot), j_Mod_writePage_188 post l1 l2 x → Wd dC dI cI cB cJ cZ ad stM kcM 115 A x H → va_S A s.heap H locs → lv_has ls 3 [(0, .ref (ad 0)), (1, .int l1), (2, .int l2)] → W p l e R s m args below meth c H locs cells slots Q (F0 m 188 ls []) := by
  intro l1 l2 x H locs ls  hw hW hS hl
  unfold j_Mod_writePage_188 at hw
  refine lv_aload_n hx hb d_Mod_writePage_188 rfl (lv_at hl 0 rfl) ?_
  refine lv_aload_n hx hb d_Mod_writePage_189 rfl (lv_at hl 0 rfl) ?_
  refine w_geti (k := 44) (t := 12) (C := R_Mod) (T := F_Mod) (N := 167) hx hb hT hown hK hW ko_0.1 ko_0.2 (by decide) in_Mod rfl rfl (by decide) rfl fr_Mod_44 w_8_224 d_Mod_writePage_190 ?_
  refine lv_i2l hx hb d_Mod_writePage_193 rfl ?_
  have hF := hW.free hS hA
  refine va_callv (va_runV (C := R_Mod) (As := [.long ((fI x 0 44) : Int32).toInt64]) (rest := []) ⟨hx, hb, hml, hown, hT⟩ (k_Mod_putVarint l dC dI cI cB cJ cZ ad H.size ((fI x 0 44) : Int32).toInt64 x  hw) ⟨callB_of 1 hT (gw_in w_11_198) rfl rfl rfl (hT _ w_1_15) (hT _ w_11_195) (by decide +kernel) ⟨Nat.le_trans (by decide) hRf, Nat.le_trans (by decide) hRl⟩, hT _ w_11_197, hT _ ws_153⟩ ⟨PW.blind, va_recv hK hW.1 (ci := 12) (q0 := 0) rfl (pic_obj ko_0.1 ko_0.2 (by decide)), PW.at _ hW hK hN⟩ rfl rfl hl.1 rfl (lv_room (Nat.le_of_ble_eq_true rfl)) d_Mod_writePage_194 ⟨hRc, hRs⟩) hS (fun q _ h => hF q h) hF (fun  x745 t H locs ht hvm hw hB hz1 hk1 hS => ?_)
  have hW := Wd.back hB ht hF
  clear hB ht hF hz1 hk1 hvm
  refine lv_aload_n hx hb d_Mod_writePage_197 rfl (lv_at hl 0 rfl) ?_
  refine lv_aload_n hx hb d_Mod_writePage_198 rfl (lv_at hl 0 rfl) ?_
  refine w_getf (q := 40) (k := 61) (t := 12) (C := R_Mod) (T := F_Mod) (N := 167) hx hb hT hown hK hW ko_0.1 ko_0.2 (by decide) in_Mod rfl rfl (by decide) rfl fr_Mod_61 w_9_1 d_Mod_writePage_199 rfl ?_
  refine lv_iconst (v := 0) hx hb d_Mod_writePage_202 (by decide) ?_
  refine lv_aload_n hx hb d_Mod_writePage_203 rfl (lv_at hl 0 rfl) ?_
  refine w_geti (k := 44) (t := 12) (C := R_Mod) (T := F_Mod) (N := 167) hx hb hT hown hK hW ko_0.1 ko_0.2 (by decide) in_Mod rfl rfl (by decide) rfl fr_Mod_44 w_8_224 d_Mod_writePage_204 ?_
  have hF := hW.free hS hA
  refine va_calli (va_runS (As := [.ref (ad 40), .int 0, .int (fI x745 0 44)]) (rest := [.ref (ad 0)]) ⟨hx, hb, hml, hown, hT⟩ (k_Mod_check l dC dI cI cB cJ cZ ad H.size 40 0 (fI x745 0 44) x745 ko_40 hw) ⟨callB_of 3 hT (gw_in w_12_54) rfl rfl rfl (hT _ w_1_15) (hT _ w_12_52) (by decide +kernel) ⟨Nat.le_trans (by decide) hRf, Nat.le_trans (by decide) hRl⟩, hT _ w_12_53⟩ ⟨PW.blind, PW.at _ hW hK hN⟩ rfl rfl hl.1 rfl (lv_room (Nat.le_of_ble_eq_true rfl)) d_Mod_writePage_207 ⟨hRc, hRs⟩) hS (fun q _ h => hF q h) hF (fun r747 x746 t H locs ht hvm hw hB hz1 hk1 hS => ?_)
  have hW := Wd.back hB ht hF
  clear hB ht hF hz1 hk1 hvm
  refine lv_i2l hx hb d_Mod_writePage_210 rfl ?_
  refine lv_iconst (v := 4) hx hb d_Mod_writePage_211 (by decide) ?_
  have hF := hW.free hS hA
  refine va_callv (va_runV (C := R_Mod) (As := [.long (r747 : Int32).toInt64, .int 4]) (rest := []) ⟨hx, hb, hml, hown, hT⟩ (k_Mod_putFixed l dC dI cI cB cJ cZ ad H.size (r747 : Int32).toInt64 4 x746  hw) ⟨callB_of 2 hT (gw_in w_11_215) rfl rfl rfl (hT _ w_1_15) (hT _ w_11_212) (by decide +kernel) ⟨Nat.le_trans (by decide) hRf, Nat.le_trans (by decide) hRl⟩, hT _ w_11_214, hT _ ws_157⟩ ⟨PW.blind, va_recv hK hW.1 (ci := 12) (q0 := 0) rfl (pic_obj ko_0.1 ko_0.2 (by decide)), PW.at _ hW hK hN⟩ rfl rfl hl.1 rfl (lv_room (Nat.le_of_ble_eq_true rfl)) d_Mod_writePage_212 ⟨hRc, hRs⟩) hS (fun q _ h => hF q h) hF (fun  x748 t H locs ht hvm hw hB hz1 hk1 hS => ?_)
  have hW := Wd.back hB ht hF
  clear hB ht hF hz1 hk1 hvm
  refine lv_iconst (v := 0) hx hb d_Mod_writePage_215 (by decide) ?_
  refine lv_istore_n (lv' := [(2, .int 0), (0, .ref (ad 0)), (1, .int l1)]) hx hb d_Mod_writePage_216 rfl hl (by decide) rfl (fun ls hl => ?_)
  obtain ⟨n, hw⟩ := hw
  exact tl_Mod_writePage_217 hx hb hml hown hT hK hN hA hRc hRs hRf hRl hret  n l1 0 x748 H locs ls  hw hW hS (lv_sub hl [1, 2, 0] rfl)
set_option maxRecDepth 100000 in
def j_Mod_writePage_101 (post : St → Prop) (rec101 : Int32 → Int32 → St → Prop) (l1 : Int32) (l2 : Int32) (x : St) : Prop := (((fI x 0 44) ≤ l2 → (∀ x750 : St, x750 = setI x 0 64 0 → wp_Mod_putVarint (fun (x751 : St) => wp_Mod_putVarint (fun (x752 : St) => wp_Mod_put (fun (x753 : St) => (((fI x753 0 42) ≤ 0 → j_Mod_writePage_188 post l1 l2 x753) ∧ (¬ (fI x753 0 42) ≤ 0 → wp_Mod_mostOf (fun (r756 : Int32) (x755 : St) => wp_Mod_putOne (fun (x757 : St) => wp_Mod_mostOf (fun (r759 : Int32) (x758 : St) => wp_Mod_putOne (fun (x760 : St) => j_Mod_writePage_188 post l1 l2 x760) r759 x758) 1 x757) r756 x755) 0 x753))) (fI x752 0 43) x752) (((fI x751 0 41) - (fI x751 0 42)) : Int32).toInt64 x751) ((fI x750 0 41) : Int32).toInt64 x750)) ∧ (¬ (fI x 0 44) ≤ l2 → (vp_in l2 (fN x 39) ∧ (vp_in l2 (fN x 40) ∧ ∀ x761 : St, x761 = setA x 40 l2 (rA x 39 l2) → rec101 l1 (l2 + 1) x761))))
set_option maxHeartbeats 4000000 in
set_option maxRecDepth 100000 in
theorem t_Mod_writePage_101 {p : Program} {l : Launch} {e : Env} {R : Room} {s : State} {m : MethodId} {args : Array Value} {below : List Frame} {meth : Method} {c : Code} {cells slots : Nat} {Q : State → Prop} {dC : Nat → ClassId} {dI : Nat → Nat → Nat} {cI cB cJ cZ : ClassId} {A : Nat → Prop} {ad : Nat → Nat} {post : St → Prop} {rec101 : Int32 → Int32 → St → Prop} (hx : p.tables.exec = Jvm.exec) (hb : c.code = b_Mod_writePage) (hml : c.maxLocals = 3) (hown : s.vm.findClass R_Mod = some m.cls) (hT : ∀ w ∈ TG, w.before args s = true) (hK : va_K (dC, dI) CL (TY cI cB cJ cZ) s) (hN : NW s) (hA : ∀ q : Nat, s.heap.size ≤ q → A q) (hRc : cells ≤ R.cells) (hRs : slots ≤ R.slots) (hRf : 6 ≤ R.frames) (hRl : 141 ≤ R.locals) (hret : ∀ (x : St) (H : Heap) (locs : List Loc) (pc : Nat) (ls : Array Slot), decode b_Mod_writePage pc = .ok (.return_, 1) → post x → Wd dC dI cI cB cJ cZ ad stM kcM 115 A x H → va_S A s.heap H locs → W p l e R s m args below meth c H locs cells slots Q (F0 m pc ls [])) (hrec101 : ∀ (l1 : Int32) (l2 : Int32) (x : St) (H : Heap) (locs : List Loc) (ls : Array Slot), rec101 l1 l2 x → Wd dC dI cI cB cJ cZ ad stM kcM 115 A x H → va_S A s.heap H locs → lv_has ls 3 [(0, .ref (ad 0)), (1, .int l1), (2, .int l2)] → W p l e R s m args below meth c H locs cells slots Q (F0 m 101 ls [])) : ∀ (l1 : Int32) (l2 : Int32) (x : St) (H : Heap) (locs : List Loc) (ls : Array Slot), j_Mod_writePage_101 post rec101 l1 l2 x → Wd dC dI cI cB cJ cZ ad stM kcM 115 A x H → va_S A s.heap H locs → lv_has ls 3 [(0, .ref (ad 0)), (1, .int l1), (2, .int l2)] → W p l e R s m args below meth c H locs cells slots Q (F0 m 101 ls []) := by
  intro l1 l2 x H locs ls  hw hW hS hl
  unfold j_Mod_writePage_101 at hw
  refine lv_iload_n hx hb d_Mod_writePage_101 rfl (lv_at hl 2 rfl) ?_
  refine lv_aload_n hx hb d_Mod_writePage_102 rfl (lv_at hl 0 rfl) ?_
  refine w_geti (k := 44) (t := 12) (C := R_Mod) (T := F_Mod) (N := 167) hx hb hT hown hK hW ko_0.1 ko_0.2 (by decide) in_Mod rfl rfl (by decide) rfl fr_Mod_44 w_8_224 d_Mod_writePage_103 ?_
  refine lv_icmp_ge (tgt := 127) hx hb d_Mod_writePage_106 (by decide) (fun c749 => ?_) (fun c749 => ?_)
  · have hw := hw.1 c749
    refine lv_aload_n hx hb d_Mod_writePage_127 rfl (lv_at hl 0 rfl) ?_
    refine lv_iconst (v := 0) hx hb d_Mod_writePage_128 (by decide) ?_
    refine w_puti (ty := .int) (k := 64) (t := 12) (C := R_Mod) (T := F_Mod) (N := 167) hx hb hT hown hK hW hS ko_0.1 ko_0.2 (by decide) in_Mod t_Mod t_Mod_ok n_Mod rfl rfl (by decide) rfl fr_Mod_64 w_9_4 (by decide +kernel) rfl rfl d_Mod_writePage_129 (fun H locs hW hS => ?_)
    obtain ⟨x750, ex750⟩ : ∃ y : St, y = setI x 0 64 0 := ⟨_, rfl⟩
    rw [← ex750] at hW
    have hw := hw x750 ex750
    refine lv_aload_n hx hb d_Mod_writePage_132 rfl (lv_at hl 0 rfl) ?_
    refine lv_aload_n hx hb d_Mod_writePage_133 rfl (lv_at hl 0 rfl) ?_
    refine w_geti (k := 41) (t := 12) (C := R_Mod) (T := F_Mod) (N := 167) hx hb hT hown hK hW ko_0.1 ko_0.2 (by decide) in_Mod rfl rfl (by decide) rfl fr_Mod_41 w_8_221 d_Mod_writePage_134 ?_
    refine lv_i2l hx hb d_Mod_writePage_137 rfl ?_
    have hF := hW.free hS hA
    refine va_callv (va_runV (C := R_Mod) (As := [.long ((fI x750 0 41) : Int32).toInt64]) (rest := []) ⟨hx, hb, hml, hown, hT⟩ (k_Mod_putVarint l dC dI cI cB cJ cZ ad H.size ((fI x750 0 41) : Int32).toInt64 x750  hw) ⟨callB_of 1 hT (gw_in w_11_198) rfl rfl rfl (hT _ w_1_15) (hT _ w_11_195) (by decide +kernel) ⟨Nat.le_trans (by decide) hRf, Nat.le_trans (by decide) hRl⟩, hT _ w_11_197, hT _ ws_153⟩ ⟨PW.blind, va_recv hK hW.1 (ci := 12) (q0 := 0) rfl (pic_obj ko_0.1 ko_0.2 (by decide)), PW.at _ hW hK hN⟩ rfl rfl hl.1 rfl (lv_room (Nat.le_of_ble_eq_true rfl)) d_Mod_writePage_138 ⟨hRc, hRs⟩) hS (fun q _ h => hF q h) hF (fun  x751 t H locs ht hvm hw hB hz1 hk1 hS => ?_)
    have hW := Wd.back hB ht hF
    clear hB ht hF hz1 hk1 hvm
    refine lv_aload_n hx hb d_Mod_writePage_141 rfl (lv_at hl 0 rfl) ?_
    refine lv_aload_n hx hb d_Mod_writePage_142 rfl (lv_at hl 0 rfl) ?_
    refine w_geti (k := 41) (t := 12) (C := R_Mod) (T := F_Mod) (N := 167) hx hb hT hown hK hW ko_0.1 ko_0.2 (by decide) in_Mod rfl rfl (by decide) rfl fr_Mod_41 w_8_221 d_Mod_writePage_143 ?_
    refine lv_aload_n hx hb d_Mod_writePage_146 rfl (lv_at hl 0 rfl) ?_
    refine w_geti (k := 42) (t := 12) (C := R_Mod) (T := F_Mod) (N := 167) hx hb hT hown hK hW ko_0.1 ko_0.2 (by decide) in_Mod rfl rfl (by decide) rfl fr_Mod_42 w_8_222 d_Mod_writePage_147 ?_
    refine lv_isub hx hb d_Mod_writePage_150 ?_
    refine lv_i2l hx hb d_Mod_writePage_151 rfl ?_
    have hF := hW.free hS hA
    refine va_callv (va_runV (C := R_Mod) (As := [.long (((fI x751 0 41) - (fI x751 0 42)) : Int32).toInt64]) (rest := []) ⟨hx, hb, hml, hown, hT⟩ (k_Mod_putVarint l dC dI cI cB cJ cZ ad H.size (((fI x751 0 41) - (fI x751 0 42)) : Int32).toInt64 x751  hw) ⟨callB_of 1 hT (gw_in w_11_198) rfl rfl rfl (hT _ w_1_15) (hT _ w_11_195) (by decide +kernel) ⟨Nat.le_trans (by decide) hRf, Nat.le_trans (by decide) hRl⟩, hT _ w_11_197, hT _ ws_153⟩ ⟨PW.blind, va_recv hK hW.1 (ci := 12) (q0 := 0) rfl (pic_obj ko_0.1 ko_0.2 (by decide)), PW.at _ hW hK hN⟩ rfl rfl hl.1 rfl (lv_room (Nat.le_of_ble_eq_true rfl)) d_Mod_writePage_152 ⟨hRc, hRs⟩) hS (fun q _ h => hF q h) hF (fun  x752 t H locs ht hvm hw hB hz1 hk1 hS => ?_)
    have hW := Wd.back hB ht hF
    clear hB ht hF hz1 hk1 hvm
    refine lv_aload_n hx hb d_Mod_writePage_155 rfl (lv_at hl 0 rfl) ?_
    refine lv_aload_n hx hb d_Mod_writePage_156 rfl (lv_at hl 0 rfl) ?_
    refine w_geti (k := 43) (t := 12) (C := R_Mod) (T := F_Mod) (N := 167) hx hb hT hown hK hW ko_0.1 ko_0.2 (by decide) in_Mod rfl rfl (by decide) rfl fr_Mod_43 w_8_223 d_Mod_writePage_157 ?_
    have hF := hW.free hS hA
    refine va_callv (va_runV (C := R_Mod) (As := [.int (fI x752 0 43)]) (rest := []) ⟨hx, hb, hml, hown, hT⟩ (k_Mod_put l dC dI cI cB cJ cZ ad H.size (fI x752 0 43) x752  hw) ⟨callB_of 1 hT (gw_in w_11_203) rfl rfl rfl (hT _ w_1_15) (hT _ w_11_200) (by decide +kernel) ⟨Nat.le_trans (by decide) hRf, Nat.le_trans (by decide) hRl⟩, hT _ w_11_202, hT _ ws_154⟩ ⟨PW.blind, va_recv hK hW.1 (ci := 12) (q0 := 0) rfl (pic_obj ko_0.1 ko_0.2 (by decide)), PW.at _ hW hK hN⟩ rfl rfl hl.1 rfl (lv_room (Nat.le_of_ble_eq_true rfl)) d_Mod_writePage_160 ⟨hRc, hRs⟩) hS (fun q _ h => hF q h) hF (fun  x753 t H locs ht hvm hw hB hz1 hk1 hS => ?_)
    have hW := Wd.back hB ht hF
    clear hB ht hF hz1 hk1 hvm
    refine lv_aload_n hx hb d_Mod_writePage_163 rfl (lv_at hl 0 rfl) ?_
    refine w_geti (k := 42) (t := 12) (C := R_Mod) (T := F_Mod) (N := 167) hx hb hT hown hK hW ko_0.1 ko_0.2 (by decide) in_Mod rfl rfl (by decide) rfl fr_Mod_42 w_8_222 d_Mod_writePage_164 ?_
    refine lv_if_le (tgt := 188) hx hb d_Mod_writePage_167 (by decide) (fun c754 => ?_) (fun c754 => ?_)
    · have hw := hw.1 c754
      exact t_Mod_writePage_188 hx hb hml hown hT hK hN hA hRc hRs hRf hRl hret  l1 l2 x753 H locs ls  hw hW hS (lv_sub hl [0, 1, 2] rfl)
    · have hw := hw.2 c754
      refine lv_aload_n hx hb d_Mod_writePage_170 rfl (lv_at hl 0 rfl) ?_
      refine lv_aload_n hx hb d_Mod_writePage_171 rfl (lv_at hl 0 rfl) ?_
      refine lv_iconst (v := 0) hx hb d_Mod_writePage_172 (by decide) ?_
      have hF := hW.free hS hA
      refine va_calli (va_runV (C := R_Mod) (As := [.int 0]) (rest := [.ref (ad 0)]) ⟨hx, hb, hml, hown, hT⟩ (k_Mod_mostOf l dC dI cI cB cJ cZ ad H.size 0 x753  hw) ⟨callB_of 1 hT (gw_in w_12_43) rfl rfl rfl (hT _ w_1_15) (hT _ w_12_40) (by decide +kernel) ⟨Nat.le_trans (by decide) hRf, Nat.le_trans (by decide) hRl⟩, hT _ w_12_42, hT _ ws_173⟩ ⟨PW.blind, va_recv hK hW.1 (ci := 12) (q0 := 0) rfl (pic_obj ko_0.1 ko_0.2 (by decide)), PW.at _ hW hK hN⟩ rfl rfl hl.1 rfl (lv_room (Nat.le_of_ble_eq_true rfl)) d_Mod_writePage_173 ⟨hRc, hRs⟩) hS (fun q _ h => hF q h) hF (fun r756 x755 t H locs ht hvm hw hB hz1 hk1 hS => ?_)
      have hW := Wd.back hB ht hF
      clear hB ht hF hz1 hk1 hvm
      have hF := hW.free hS hA
      refine va_callv (va_runV (C := R_Mod) (As := [.int r756]) (rest := []) ⟨hx, hb, hml, hown, hT⟩ (k_Mod_putOne l dC dI cI cB cJ cZ ad H.size r756 x755  hw) ⟨callB_of 1 hT (gw_in w_12_51) rfl rfl rfl (hT _ w_1_15) (hT _ w_12_48) (by decide +kernel) ⟨Nat.le_trans (by decide) hRf, Nat.le_trans (by decide) hRl⟩, hT _ w_12_50, hT _ ws_175⟩ ⟨PW.blind, va_recv hK hW.1 (ci := 12) (q0 := 0) rfl (pic_obj ko_0.1 ko_0.2 (by decide)), PW.at _ hW hK hN⟩ rfl rfl hl.1 rfl (lv_room (Nat.le_of_ble_eq_true rfl)) d_Mod_writePage_176 ⟨hRc, hRs⟩) hS (fun q _ h => hF q h) hF (fun  x757 t H locs ht hvm hw hB hz1 hk1 hS => ?_)
      have hW := Wd.back hB ht hF
      clear hB ht hF hz1 hk1 hvm
      refine lv_aload_n hx hb d_Mod_writePage_179 rfl (lv_at hl 0 rfl) ?_
      refine lv_aload_n hx hb d_Mod_writePage_180 rfl (lv_at hl 0 rfl) ?_
      refine lv_iconst (v := 1) hx hb d_Mod_writePage_181 (by decide) ?_
      have hF := hW.free hS hA
      refine va_calli (va_runV (C := R_Mod) (As := [.int 1]) (rest := [.ref (ad 0)]) ⟨hx, hb, hml, hown, hT⟩ (k_Mod_mostOf l dC dI cI cB cJ cZ ad H.size 1 x757  hw) ⟨callB_of 1 hT (gw_in w_12_43) rfl rfl rfl (hT _ w_1_15) (hT _ w_12_40) (by decide +kernel) ⟨Nat.le_trans (by decide) hRf, Nat.le_trans (by decide) hRl⟩, hT _ w_12_42, hT _ ws_173⟩ ⟨PW.blind, va_recv hK hW.1 (ci := 12) (q0 := 0) rfl (pic_obj ko_0.1 ko_0.2 (by decide)), PW.at _ hW hK hN⟩ rfl rfl hl.1 rfl (lv_room (Nat.le_of_ble_eq_true rfl)) d_Mod_writePage_182 ⟨hRc, hRs⟩) hS (fun q _ h => hF q h) hF (fun r759 x758 t H locs ht hvm hw hB hz1 hk1 hS => ?_)
      have hW := Wd.back hB ht hF
      clear hB ht hF hz1 hk1 hvm
      have hF := hW.free hS hA
      refine va_callv (va_runV (C := R_Mod) (As := [.int r759]) (rest := []) ⟨hx, hb, hml, hown, hT⟩ (k_Mod_putOne l dC dI cI cB cJ cZ ad H.size r759 x758  hw) ⟨callB_of 1 hT (gw_in w_12_51) rfl rfl rfl (hT _ w_1_15) (hT _ w_12_48) (by decide +kernel) ⟨Nat.le_trans (by decide) hRf, Nat.le_trans (by decide) hRl⟩, hT _ w_12_50, hT _ ws_175⟩ ⟨PW.blind, va_recv hK hW.1 (ci := 12) (q0 := 0) rfl (pic_obj ko_0.1 ko_0.2 (by decide)), PW.at _ hW hK hN⟩ rfl rfl hl.1 rfl (lv_room (Nat.le_of_ble_eq_true rfl)) d_Mod_writePage_185 ⟨hRc, hRs⟩) hS (fun q _ h => hF q h) hF (fun  x760 t H locs ht hvm hw hB hz1 hk1 hS => ?_)
      have hW := Wd.back hB ht hF
      clear hB ht hF hz1 hk1 hvm
      exact t_Mod_writePage_188 hx hb hml hown hT hK hN hA hRc hRs hRf hRl hret  l1 l2 x760 H locs ls  hw hW hS (lv_sub hl [0, 1, 2] rfl)
  · have hw := hw.2 c749
    refine lv_aload_n hx hb d_Mod_writePage_109 rfl (lv_at hl 0 rfl) ?_
    refine w_getf (q := 40) (k := 61) (t := 12) (C := R_Mod) (T := F_Mod) (N := 167) hx hb hT hown hK hW ko_0.1 ko_0.2 (by decide) in_Mod rfl rfl (by decide) rfl fr_Mod_61 w_9_1 d_Mod_writePage_110 rfl ?_
    refine lv_iload_n hx hb d_Mod_writePage_113 rfl (lv_at hl 2 rfl) ?_
    refine lv_aload_n hx hb d_Mod_writePage_114 rfl (lv_at hl 0 rfl) ?_
    refine w_getf (q := 39) (k := 60) (t := 12) (C := R_Mod) (T := F_Mod) (N := 167) hx hb hT hown hK hW ko_0.1 ko_0.2 (by decide) in_Mod rfl rfl (by decide) rfl fr_Mod_60 w_9_0 d_Mod_writePage_115 rfl ?_
    refine lv_iload_n hx hb d_Mod_writePage_118 rfl (lv_at hl 2 rfl) ?_
    obtain ⟨hi, hw⟩ := hw
    refine w_iald (o := 39) hx hb hK hW ko_39.1 ko_39.2 hi d_Mod_writePage_119 ?_
    obtain ⟨hi, hw⟩ := hw
    refine w_iast (o := 40) hx hb hK hW hS ko_40.1 ko_40.2 hi d_Mod_writePage_120 (fun H locs hW hS => ?_)
    obtain ⟨x761, ex761⟩ : ∃ y : St, y = setA x 40 l2 (rA x 39 l2) := ⟨_, rfl⟩
    rw [← ex761] at hW
    have hw := hw x761 ex761
    refine lv_iinc (v := (l2 + 1)) (lv' := [(2, .int (l2 + 1)), (0, .ref (ad 0)), (1, .int l1)]) hx hb d_Mod_writePage_121 hl (k := 2) rfl rfl (by decide) rfl (fun ls hl => ?_)
    refine lv_goto (tgt := 101) hx hb d_Mod_writePage_124 (by decide) ?_
    exact hrec101 l1 (l2 + 1) x761 H locs ls  hw hW hS (lv_sub hl [1, 2, 0] rfl)
def wl_Mod_writePage_101 (post : St → Prop) : Nat → Int32 → Int32 → St → Prop
  | 0 => fun _ _ _ => False
  | n + 1 => j_Mod_writePage_101 post (wl_Mod_writePage_101 post n)
set_option maxHeartbeats 4000000 in
set_option maxRecDepth 100000 in
theorem tl_Mod_writePage_101 {p : Program} {l : Launch} {e : Env} {R : Room} {s : State} {m : MethodId} {args : Array Value} {below : List Frame} {meth : Method} {c : Code} {cells slots : Nat} {Q : State → Prop} {dC : Nat → ClassId} {dI : Nat → Nat → Nat} {cI cB cJ cZ : ClassId} {A : Nat → Prop} {ad : Nat → Nat} {post : St → Prop} (hx : p.tables.exec = Jvm.exec) (hb : c.code = b_Mod_writePage) (hml : c.maxLocals = 3) (hown : s.vm.findClass R_Mod = some m.cls) (hT : ∀ w ∈ TG, w.before args s = true) (hK : va_K (dC, dI) CL (TY cI cB cJ cZ) s) (hN : NW s) (hA : ∀ q : Nat, s.heap.size ≤ q → A q) (hRc : cells ≤ R.cells) (hRs : slots ≤ R.slots) (hRf : 6 ≤ R.frames) (hRl : 141 ≤ R.locals) (hret : ∀ (x : St) (H : Heap) (locs : List Loc) (pc : Nat) (ls : Array Slot), decode b_Mod_writePage pc = .ok (.return_, 1) → post x → Wd dC dI cI cB cJ cZ ad stM kcM 115 A x H → va_S A s.heap H locs → W p l e R s m args below meth c H locs cells slots Q (F0 m pc ls []))  : ∀ n : Nat, ∀ (l1 : Int32) (l2 : Int32) (x : St) (H : Heap) (locs : List Loc) (ls : Array Slot), wl_Mod_writePage_101 post n l1 l2 x → Wd dC dI cI cB cJ cZ ad stM kcM 115 A x H → va_S A s.heap H locs → lv_has ls 3 [(0, .ref (ad 0)), (1, .int l1), (2, .int l2)] → W p l e R s m args below meth c H locs cells slots Q (F0 m 101 ls []) := by
  intro n
  induction n with
  | zero => intro l1 l2 x H locs ls  hw; exact hw.elim
  | succ n ih => intro l1 l2 x H locs ls  hw hW hS hl; exact t_Mod_writePage_101 hx hb hml hown hT hK hN hA hRc hRs hRf hRl hret  ih l1 l2 x H locs ls  hw hW hS hl
set_option maxRecDepth 100000 in
def j_Mod_writePage_48 (post : St → Prop) (rec4 : Int32 → Int32 → St → Prop) (l1 : Int32) (l2 : Int32) (x : St) : Prop := rec4 l1 (l2 + 1) x
set_option maxHeartbeats 4000000 in
set_option maxRecDepth 100000 in
theorem t_Mod_writePage_48 {p : Program} {l : Launch} {e : Env} {R : Room} {s : State} {m : MethodId} {args : Array Value} {below : List Frame} {meth : Method} {c : Code} {cells slots : Nat} {Q : State → Prop} {dC : Nat → ClassId} {dI : Nat → Nat → Nat} {cI cB cJ cZ : ClassId} {A : Nat → Prop} {ad : Nat → Nat} {post : St → Prop} {rec4 : Int32 → Int32 → St → Prop} (hx : p.tables.exec = Jvm.exec) (hb : c.code = b_Mod_writePage) (hml : c.maxLocals = 3) (hown : s.vm.findClass R_Mod = some m.cls) (hT : ∀ w ∈ TG, w.before args s = true) (hK : va_K (dC, dI) CL (TY cI cB cJ cZ) s) (hN : NW s) (hA : ∀ q : Nat, s.heap.size ≤ q → A q) (hRc : cells ≤ R.cells) (hRs : slots ≤ R.slots) (hRf : 6 ≤ R.frames) (hRl : 141 ≤ R.locals) (hret : ∀ (x : St) (H : Heap) (locs : List Loc) (pc : Nat) (ls : Array Slot), decode b_Mod_writePage pc = .ok (.return_, 1) → post x → Wd dC dI cI cB cJ cZ ad stM kcM 115 A x H → va_S A s.heap H locs → W p l e R s m args below meth c H locs cells slots Q (F0 m pc ls [])) (hrec4 : ∀ (l1 : Int32) (l2 : Int32) (x : St) (H : Heap) (locs : List Loc) (ls : Array Slot), rec4 l1 l2 x → Wd dC dI cI cB cJ cZ ad stM kcM 115 A x H → va_S A s.heap H locs → lv_has ls 3 [(0, .ref (ad 0)), (1, .int l1), (2, .int l2)] → W p l e R s m args below meth c H locs cells slots Q (F0 m 4 ls [])) : ∀ (l1 : Int32) (l2 : Int32) (x : St) (H : Heap) (locs : List Loc) (ls : Array Slot), j_Mod_writePage_48 post rec4 l1 l2 x → Wd dC dI cI cB cJ cZ ad stM kcM 115 A x H → va_S A s.heap H locs → lv_has ls 3 [(0, .ref (ad 0)), (1, .int l1), (2, .int l2)] → W p l e R s m args below meth c H locs cells slots Q (F0 m 48 ls []) := by
  intro l1 l2 x H locs ls  hw hW hS hl
  unfold j_Mod_writePage_48 at hw
  refine lv_iinc (v := (l2 + 1)) (lv' := [(2, .int (l2 + 1)), (0, .ref (ad 0)), (1, .int l1)]) hx hb d_Mod_writePage_48 hl (k := 2) rfl rfl (by decide) rfl (fun ls hl => ?_)
  refine lv_goto (tgt := 4) hx hb d_Mod_writePage_51 (by decide) ?_
  exact hrec4 l1 (l2 + 1) x H locs ls  hw hW hS (lv_sub hl [1, 2, 0] rfl)
set_option maxRecDepth 100000 in
def j_Mod_writePage_38 (post : St → Prop) (rec4 : Int32 → Int32 → St → Prop) (l1 : Int32) (l2 : Int32) (x : St) : Prop := (∀ v762 : Int32, v762 = (fI x 0 64) → (∀ x763 : St, x763 = setI x 0 43 l2 → j_Mod_writePage_48 post rec4 v762 l2 x763))
set_option maxHeartbeats 4000000 in
set_option maxRecDepth 100000 in
theorem t_Mod_writePage_38 {p : Program} {l : Launch} {e : Env} {R : Room} {s : State} {m : MethodId} {args : Array Value} {below : List Frame} {meth : Method} {c : Code} {cells slots : Nat} {Q : State → Prop} {dC : Nat → ClassId} {dI : Nat → Nat → Nat} {cI cB cJ cZ : ClassId} {A : Nat → Prop} {ad : Nat → Nat} {post : St → Prop} {rec4 : Int32 → Int32 → St → Prop} (hx : p.tables.exec = Jvm.exec) (hb : c.code = b_Mod_writePage) (hml : c.maxLocals = 3) (hown : s.vm.findClass R_Mod = some m.cls) (hT : ∀ w ∈ TG, w.before args s = true) (hK : va_K (dC, dI) CL (TY cI cB cJ cZ) s) (hN : NW s) (hA : ∀ q : Nat, s.heap.size ≤ q → A q) (hRc : cells ≤ R.cells) (hRs : slots ≤ R.slots) (hRf : 6 ≤ R.frames) (hRl : 141 ≤ R.locals) (hret : ∀ (x : St) (H : Heap) (locs : List Loc) (pc : Nat) (ls : Array Slot), decode b_Mod_writePage pc = .ok (.return_, 1) → post x → Wd dC dI cI cB cJ cZ ad stM kcM 115 A x H → va_S A s.heap H locs → W p l e R s m args below meth c H locs cells slots Q (F0 m pc ls [])) (hrec4 : ∀ (l1 : Int32) (l2 : Int32) (x : St) (H : Heap) (locs : List Loc) (ls : Array Slot), rec4 l1 l2 x → Wd dC dI cI cB cJ cZ ad stM kcM 115 A x H → va_S A s.heap H locs → lv_has ls 3 [(0, .ref (ad 0)), (1, .int l1), (2, .int l2)] → W p l e R s m args below meth c H locs cells slots Q (F0 m 4 ls [])) : ∀ (l1 : Int32) (l2 : Int32) (x : St) (H : Heap) (locs : List Loc) (ls : Array Slot), j_Mod_writePage_38 post rec4 l1 l2 x → Wd dC dI cI cB cJ cZ ad stM kcM 115 A x H → va_S A s.heap H locs → lv_has ls 3 [(0, .ref (ad 0)), (1, .int l1), (2, .int l2)] → W p l e R s m args below meth c H locs cells slots Q (F0 m 38 ls []) := by
  intro l1 l2 x H locs ls  hw hW hS hl
  unfold j_Mod_writePage_38 at hw
  refine lv_aload_n hx hb d_Mod_writePage_38 rfl (lv_at hl 0 rfl) ?_
  refine w_geti (k := 64) (t := 12) (C := R_Mod) (T := F_Mod) (N := 167) hx hb hT hown hK hW ko_0.1 ko_0.2 (by decide) in_Mod rfl rfl (by decide) rfl fr_Mod_64 w_9_4 d_Mod_writePage_39 ?_
  refine lv_topi (fun v762 ev762 => ?_)
  have hw := hw v762 ev762
  refine lv_istore_n (lv' := [(1, .int v762), (0, .ref (ad 0)), (2, .int l2)]) hx hb d_Mod_writePage_42 rfl hl (by decide) rfl (fun ls hl => ?_)
  refine lv_aload_n hx hb d_Mod_writePage_43 rfl (lv_at hl 1 rfl) ?_
  refine lv_iload_n hx hb d_Mod_writePage_44 rfl (lv_at hl 2 rfl) ?_
  refine w_puti (ty := .int) (k := 43) (t := 12) (C := R_Mod) (T := F_Mod) (N := 167) hx hb hT hown hK hW hS ko_0.1 ko_0.2 (by decide) in_Mod t_Mod t_Mod_ok n_Mod rfl rfl (by decide) rfl fr_Mod_43 w_8_223 (by decide +kernel) rfl rfl d_Mod_writePage_45 (fun H locs hW hS => ?_)
  obtain ⟨x763, ex763⟩ : ∃ y : St, y = setI x 0 43 l2 := ⟨_, rfl⟩
  rw [← ex763] at hW
  have hw := hw x763 ex763
  exact t_Mod_writePage_48 hx hb hml hown hT hK hN hA hRc hRs hRf hRl hret hrec4 v762 l2 x763 H locs ls  hw hW hS (lv_sub hl [1, 0, 2] rfl)
set_option maxRecDepth 100000 in
def j_Mod_writePage_4 (post : St → Prop) (rec4 : Int32 → Int32 → St → Prop) (l1 : Int32) (l2 : Int32) (x : St) : Prop := wp_Mod_codings (fun (r765 : Int32) (x764 : St) => ((r765 ≤ l2 → (∀ x767 : St, x767 = setI x764 0 64 0 → wp_Mod_putLevels (fun (x768 : St) => wp_Mod_putLevels (fun (x769 : St) => wp_Mod_writeValues (fun (x770 : St) => (∀ x771 : St, x771 = setI x770 0 44 (fI x770 0 64) → ∃ n : Nat, wl_Mod_writePage_101 post n l1 0 x771)) (fI x769 0 43) x769) 27 (fI x768 0 40) x768) 26 (fI x767 0 39) x767)) ∧ (¬ r765 ≤ l2 → (∀ x772 : St, x772 = setI x764 0 64 0 → wp_Mod_writeValues (fun (x773 : St) => ((l1 = (-1) → j_Mod_writePage_38 post rec4 l1 l2 x773) ∧ (¬ l1 = (-1) → (((fI x773 0 64) < l1 → j_Mod_writePage_38 post rec4 l1 l2 x773) ∧ (¬ (fI x773 0 64) < l1 → j_Mod_writePage_48 post rec4 l1 l2 x773))))) l2 x772))))  x
set_option maxHeartbeats 4000000 in
set_option maxRecDepth 100000 in
theorem t_Mod_writePage_4 {p : Program} {l : Launch} {e : Env} {R : Room} {s : State} {m : MethodId} {args : Array Value} {below : List Frame} {meth : Method} {c : Code} {cells slots : Nat} {Q : State → Prop} {dC : Nat → ClassId} {dI : Nat → Nat → Nat} {cI cB cJ cZ : ClassId} {A : Nat → Prop} {ad : Nat → Nat} {post : St → Prop} {rec4 : Int32 → Int32 → St → Prop} (hx : p.tables.exec = Jvm.exec) (hb : c.code = b_Mod_writePage) (hml : c.maxLocals = 3) (hown : s.vm.findClass R_Mod = some m.cls) (hT : ∀ w ∈ TG, w.before args s = true) (hK : va_K (dC, dI) CL (TY cI cB cJ cZ) s) (hN : NW s) (hA : ∀ q : Nat, s.heap.size ≤ q → A q) (hRc : cells ≤ R.cells) (hRs : slots ≤ R.slots) (hRf : 6 ≤ R.frames) (hRl : 141 ≤ R.locals) (hret : ∀ (x : St) (H : Heap) (locs : List Loc) (pc : Nat) (ls : Array Slot), decode b_Mod_writePage pc = .ok (.return_, 1) → post x → Wd dC dI cI cB cJ cZ ad stM kcM 115 A x H → va_S A s.heap H locs → W p l e R s m args below meth c H locs cells slots Q (F0 m pc ls [])) (hrec4 : ∀ (l1 : Int32) (l2 : Int32) (x : St) (H : Heap) (locs : List Loc) (ls : Array Slot), rec4 l1 l2 x → Wd dC dI cI cB cJ cZ ad stM kcM 115 A x H → va_S A s.heap H locs → lv_has ls 3 [(0, .ref (ad 0)), (1, .int l1), (2, .int l2)] → W p l e R s m args below meth c H locs cells slots Q (F0 m 4 ls [])) : ∀ (l1 : Int32) (l2 : Int32) (x : St) (H : Heap) (locs : List Loc) (ls : Array Slot), j_Mod_writePage_4 post rec4 l1 l2 x → Wd dC dI cI cB cJ cZ ad stM kcM 115 A x H → va_S A s.heap H locs → lv_has ls 3 [(0, .ref (ad 0)), (1, .int l1), (2, .int l2)] → W p l e R s m args below meth c H locs cells slots Q (F0 m 4 ls []) := by
  intro l1 l2 x H locs ls  hw hW hS hl
  unfold j_Mod_writePage_4 at hw
  refine lv_iload_n hx hb d_Mod_writePage_4 rfl (lv_at hl 2 rfl) ?_
  refine lv_aload_n hx hb d_Mod_writePage_5 rfl (lv_at hl 0 rfl) ?_
  have hF := hW.free hS hA
  refine va_calli (va_runV (C := R_Mod) (As := []) (rest := [.int l2]) ⟨hx, hb, hml, hown, hT⟩ (k_Mod_codings l dC dI cI cB cJ cZ ad H.size  x  hw) ⟨callB_of 0 hT (gw_in w_11_178) rfl rfl rfl (hT _ w_1_15) (hT _ w_11_175) (by decide +kernel) ⟨Nat.le_trans (by decide) hRf, Nat.le_trans (by decide) hRl⟩, hT _ w_11_177, hT _ ws_149⟩ ⟨PW.blind, va_recv hK hW.1 (ci := 12) (q0 := 0) rfl (pic_obj ko_0.1 ko_0.2 (by decide)), PW.at _ hW hK hN⟩ rfl rfl hl.1 rfl (lv_room (Nat.le_of_ble_eq_true rfl)) d_Mod_writePage_6 ⟨hRc, hRs⟩) hS (fun q _ h => hF q h) hF (fun r765 x764 t H locs ht hvm hw hB hz1 hk1 hS => ?_)
  have hW := Wd.back hB ht hF
  clear hB ht hF hz1 hk1 hvm
  refine lv_icmp_ge (tgt := 54) hx hb d_Mod_writePage_9 (by decide) (fun c766 => ?_) (fun c766 => ?_)
  · have hw := hw.1 c766
    refine lv_aload_n hx hb d_Mod_writePage_54 rfl (lv_at hl 0 rfl) ?_
    refine lv_iconst (v := 0) hx hb d_Mod_writePage_55 (by decide) ?_
    refine w_puti (ty := .int) (k := 64) (t := 12) (C := R_Mod) (T := F_Mod) (N := 167) hx hb hT hown hK hW hS ko_0.1 ko_0.2 (by decide) in_Mod t_Mod t_Mod_ok n_Mod rfl rfl (by decide) rfl fr_Mod_64 w_9_4 (by decide +kernel) rfl rfl d_Mod_writePage_56 (fun H locs hW hS => ?_)
    obtain ⟨x767, ex767⟩ : ∃ y : St, y = setI x764 0 64 0 := ⟨_, rfl⟩
    rw [← ex767] at hW
    have hw := hw x767 ex767
    refine lv_aload_n hx hb d_Mod_writePage_59 rfl (lv_at hl 0 rfl) ?_
    refine lv_aload_n hx hb d_Mod_writePage_60 rfl (lv_at hl 0 rfl) ?_
    refine w_getf (q := 26) (k := 45) (t := 12) (C := R_Mod) (T := F_Mod) (N := 167) hx hb hT hown hK hW ko_0.1 ko_0.2 (by decide) in_Mod rfl rfl (by decide) rfl fr_Mod_45 w_8_225 d_Mod_writePage_61 rfl ?_
    refine lv_aload_n hx hb d_Mod_writePage_64 rfl (lv_at hl 0 rfl) ?_
    refine w_geti (k := 39) (t := 12) (C := R_Mod) (T := F_Mod) (N := 167) hx hb hT hown hK hW ko_0.1 ko_0.2 (by decide) in_Mod rfl rfl (by decide) rfl fr_Mod_39 w_8_219 d_Mod_writePage_65 ?_
    have hF := hW.free hS hA
    refine va_callv (va_runV (C := R_Mod) (As := [.ref (ad 26), .int (fI x767 0 39)]) (rest := []) ⟨hx, hb, hml, hown, hT⟩ (k_Mod_putLevels l dC dI cI cB cJ cZ ad H.size 26 (fI x767 0 39) x767 ko_26 hw) ⟨callB_of 2 hT (gw_in w_12_39) rfl rfl rfl (hT _ w_1_15) (hT _ w_12_36) (by decide +kernel) ⟨Nat.le_trans (by decide) hRf, Nat.le_trans (by decide) hRl⟩, hT _ w_12_38, hT _ ws_172⟩ ⟨PW.blind, va_recv hK hW.1 (ci := 12) (q0 := 0) rfl (pic_obj ko_0.1 ko_0.2 (by decide)), PW.at _ hW hK hN⟩ rfl rfl hl.1 rfl (lv_room (Nat.le_of_ble_eq_true rfl)) d_Mod_writePage_68 ⟨hRc, hRs⟩) hS (fun q _ h => hF q h) hF (fun  x768 t H locs ht hvm hw hB hz1 hk1 hS => ?_)
    have hW := Wd.back hB ht hF
    clear hB ht hF hz1 hk1 hvm
    refine lv_aload_n hx hb d_Mod_writePage_71 rfl (lv_at hl 0 rfl) ?_
    refine lv_aload_n hx hb d_Mod_writePage_72 rfl (lv_at hl 0 rfl) ?_
    refine w_getf (q := 27) (k := 46) (t := 12) (C := R_Mod) (T := F_Mod) (N := 167) hx hb hT hown hK hW ko_0.1 ko_0.2 (by decide) in_Mod rfl rfl (by decide) rfl fr_Mod_46 w_8_226 d_Mod_writePage_73 rfl ?_
    refine lv_aload_n hx hb d_Mod_writePage_76 rfl (lv_at hl 0 rfl) ?_
    refine w_geti (k := 40) (t := 12) (C := R_Mod) (T := F_Mod) (N := 167) hx hb hT hown hK hW ko_0.1 ko_0.2 (by decide) in_Mod rfl rfl (by decide) rfl fr_Mod_40 w_8_220 d_Mod_writePage_77 ?_
    have hF := hW.free hS hA
    refine va_callv (va_runV (C := R_Mod) (As := [.ref (ad 27), .int (fI x768 0 40)]) (rest := []) ⟨hx, hb, hml, hown, hT⟩ (k_Mod_putLevels l dC dI cI cB cJ cZ ad H.size 27 (fI x768 0 40) x768 ko_27 hw) ⟨callB_of 2 hT (gw_in w_12_39) rfl rfl rfl (hT _ w_1_15) (hT _ w_12_36) (by decide +kernel) ⟨Nat.le_trans (by decide) hRf, Nat.le_trans (by decide) hRl⟩, hT _ w_12_38, hT _ ws_172⟩ ⟨PW.blind, va_recv hK hW.1 (ci := 12) (q0 := 0) rfl (pic_obj ko_0.1 ko_0.2 (by decide)), PW.at _ hW hK hN⟩ rfl rfl hl.1 rfl (lv_room (Nat.le_of_ble_eq_true rfl)) d_Mod_writePage_80 ⟨hRc, hRs⟩) hS (fun q _ h => hF q h) hF (fun  x769 t H locs ht hvm hw hB hz1 hk1 hS => ?_)
    have hW := Wd.back hB ht hF
    clear hB ht hF hz1 hk1 hvm
    refine lv_aload_n hx hb d_Mod_writePage_83 rfl (lv_at hl 0 rfl) ?_
    refine lv_aload_n hx hb d_Mod_writePage_84 rfl (lv_at hl 0 rfl) ?_
    refine w_geti (k := 43) (t := 12) (C := R_Mod) (T := F_Mod) (N := 167) hx hb hT hown hK hW ko_0.1 ko_0.2 (by decide) in_Mod rfl rfl (by decide) rfl fr_Mod_43 w_8_223 d_Mod_writePage_85 ?_
    have hF := hW.free hS hA
    refine va_callv (va_runV (C := R_Mod) (As := [.int (fI x769 0 43)]) (rest := []) ⟨hx, hb, hml, hown, hT⟩ (k_Mod_writeValues l dC dI cI cB cJ cZ ad H.size (fI x769 0 43) x769  hw) ⟨callB_of 1 hT (gw_in w_11_182) rfl rfl rfl (hT _ w_1_15) (hT _ w_11_179) (by decide +kernel) ⟨Nat.le_trans (by decide) hRf, Nat.le_trans (by decide) hRl⟩, hT _ w_11_181, hT _ ws_150⟩ ⟨PW.blind, va_recv hK hW.1 (ci := 12) (q0 := 0) rfl (pic_obj ko_0.1 ko_0.2 (by decide)), PW.at _ hW hK hN⟩ rfl rfl hl.1 rfl (lv_room (Nat.le_of_ble_eq_true rfl)) d_Mod_writePage_88 ⟨hRc, hRs⟩) hS (fun q _ h => hF q h) hF (fun  x770 t H locs ht hvm hw hB hz1 hk1 hS => ?_)
    have hW := Wd.back hB ht hF
    clear hB ht hF hz1 hk1 hvm
    refine lv_aload_n hx hb d_Mod_writePage_91 rfl (lv_at hl 0 rfl) ?_
    refine lv_aload_n hx hb d_Mod_writePage_92 rfl (lv_at hl 0 rfl) ?_
    refine w_geti (k := 64) (t := 12) (C := R_Mod) (T := F_Mod) (N := 167) hx hb hT hown hK hW ko_0.1 ko_0.2 (by decide) in_Mod rfl rfl (by decide) rfl fr_Mod_64 w_9_4 d_Mod_writePage_93 ?_
    refine w_puti (ty := .int) (k := 44) (t := 12) (C := R_Mod) (T := F_Mod) (N := 167) hx hb hT hown hK hW hS ko_0.1 ko_0.2 (by decide) in_Mod t_Mod t_Mod_ok n_Mod rfl rfl (by decide) rfl fr_Mod_44 w_8_224 (by decide +kernel) rfl rfl d_Mod_writePage_96 (fun H locs hW hS => ?_)
    obtain ⟨x771, ex771⟩ : ∃ y : St, y = setI x770 0 44 (fI x770 0 64) := ⟨_, rfl⟩
    rw [← ex771] at hW
    have hw := hw x771 ex771
    refine lv_iconst (v := 0) hx hb d_Mod_writePage_99 (by decide) ?_
    refine lv_istore_n (lv' := [(2, .int 0), (0, .ref (ad 0)), (1, .int l1)]) hx hb d_Mod_writePage_100 rfl hl (by decide) rfl (fun ls hl => ?_)
    obtain ⟨n, hw⟩ := hw
    exact tl_Mod_writePage_101 hx hb hml hown hT hK hN hA hRc hRs hRf hRl hret  n l1 0 x771 H locs ls  hw hW hS (lv_sub hl [1, 2, 0] rfl)
  · have hw := hw.2 c766
    refine lv_aload_n hx hb d_Mod_writePage_12 rfl (lv_at hl 0 rfl) ?_
    refine lv_iconst (v := 0) hx hb d_Mod_writePage_13 (by decide) ?_
    refine w_puti (ty := .int) (k := 64) (t := 12) (C := R_Mod) (T := F_Mod) (N := 167) hx hb hT hown hK hW hS ko_0.1 ko_0.2 (by decide) in_Mod t_Mod t_Mod_ok n_Mod rfl rfl (by decide) rfl fr_Mod_64 w_9_4 (by decide +kernel) rfl rfl d_Mod_writePage_14 (fun H locs hW hS => ?_)
    obtain ⟨x772, ex772⟩ : ∃ y : St, y = setI x764 0 64 0 := ⟨_, rfl⟩
    rw [← ex772] at hW
    have hw := hw x772 ex772
    refine lv_aload_n hx hb d_Mod_writePage_17 rfl (lv_at hl 0 rfl) ?_
    refine lv_iload_n hx hb d_Mod_writePage_18 rfl (lv_at hl 2 rfl) ?_
    have hF := hW.free hS hA
    refine va_callv (va_runV (C := R_Mod) (As := [.int l2]) (rest := []) ⟨hx, hb, hml, hown, hT⟩ (k_Mod_writeValues l dC dI cI cB cJ cZ ad H.size l2 x772  hw) ⟨callB_of 1 hT (gw_in w_11_182) rfl rfl rfl (hT _ w_1_15) (hT _ w_11_179) (by decide +kernel) ⟨Nat.le_trans (by decide) hRf, Nat.le_trans (by decide) hRl⟩, hT _ w_11_181, hT _ ws_150⟩ ⟨PW.blind, va_recv hK hW.1 (ci := 12) (q0 := 0) rfl (pic_obj ko_0.1 ko_0.2 (by decide)), PW.at _ hW hK hN⟩ rfl rfl hl.1 rfl (lv_room (Nat.le_of_ble_eq_true rfl)) d_Mod_writePage_19 ⟨hRc, hRs⟩) hS (fun q _ h => hF q h) hF (fun  x773 t H locs ht hvm hw hB hz1 hk1 hS => ?_)
    have hW := Wd.back hB ht hF
    clear hB ht hF hz1 hk1 hvm
    refine lv_iload_n hx hb d_Mod_writePage_22 rfl (lv_at hl 1 rfl) ?_
    refine lv_iconst (v := (-1)) hx hb d_Mod_writePage_23 (by decide) ?_
    refine lv_icmp_eq (tgt := 38) hx hb d_Mod_writePage_24 (by decide) (fun c774 => ?_) (fun c774 => ?_)
    · have hw := hw.1 c774
      exact t_Mod_writePage_38 hx hb hml hown hT hK hN hA hRc hRs hRf hRl hret hrec4 l1 l2 x773 H locs ls  hw hW hS (lv_sub hl [0, 1, 2] rfl)
    · have hw := hw.2 c774
      refine lv_aload_n hx hb d_Mod_writePage_27 rfl (lv_at hl 0 rfl) ?_
      refine w_geti (k := 64) (t := 12) (C := R_Mod) (T := F_Mod) (N := 167) hx hb hT hown hK hW ko_0.1 ko_0.2 (by decide) in_Mod rfl rfl (by decide) rfl fr_Mod_64 w_9_4 d_Mod_writePage_28 ?_
      refine lv_iload_n hx hb d_Mod_writePage_31 rfl (lv_at hl 1 rfl) ?_
      refine lv_icmp_lt (tgt := 38) hx hb d_Mod_writePage_32 (by decide) (fun c775 => ?_) (fun c775 => ?_)
      · have hw := hw.1 c775
        exact t_Mod_writePage_38 hx hb hml hown hT hK hN hA hRc hRs hRf hRl hret hrec4 l1 l2 x773 H locs ls  hw hW hS (lv_sub hl [0, 1, 2] rfl)
      · have hw := hw.2 c775
        refine lv_goto (tgt := 48) hx hb d_Mod_writePage_35 (by decide) ?_
        exact t_Mod_writePage_48 hx hb hml hown hT hK hN hA hRc hRs hRf hRl hret hrec4 l1 l2 x773 H locs ls  hw hW hS (lv_sub hl [0, 1, 2] rfl)
def wl_Mod_writePage_4 (post : St → Prop) : Nat → Int32 → Int32 → St → Prop
  | 0 => fun _ _ _ => False
  | n + 1 => j_Mod_writePage_4 post (wl_Mod_writePage_4 post n)
set_option maxHeartbeats 4000000 in
set_option maxRecDepth 100000 in
theorem tl_Mod_writePage_4 {p : Program} {l : Launch} {e : Env} {R : Room} {s : State} {m : MethodId} {args : Array Value} {below : List Frame} {meth : Method} {c : Code} {cells slots : Nat} {Q : State → Prop} {dC : Nat → ClassId} {dI : Nat → Nat → Nat} {cI cB cJ cZ : ClassId} {A : Nat → Prop} {ad : Nat → Nat} {post : St → Prop} (hx : p.tables.exec = Jvm.exec) (hb : c.code = b_Mod_writePage) (hml : c.maxLocals = 3) (hown : s.vm.findClass R_Mod = some m.cls) (hT : ∀ w ∈ TG, w.before args s = true) (hK : va_K (dC, dI) CL (TY cI cB cJ cZ) s) (hN : NW s) (hA : ∀ q : Nat, s.heap.size ≤ q → A q) (hRc : cells ≤ R.cells) (hRs : slots ≤ R.slots) (hRf : 6 ≤ R.frames) (hRl : 141 ≤ R.locals) (hret : ∀ (x : St) (H : Heap) (locs : List Loc) (pc : Nat) (ls : Array Slot), decode b_Mod_writePage pc = .ok (.return_, 1) → post x → Wd dC dI cI cB cJ cZ ad stM kcM 115 A x H → va_S A s.heap H locs → W p l e R s m args below meth c H locs cells slots Q (F0 m pc ls []))  : ∀ n : Nat, ∀ (l1 : Int32) (l2 : Int32) (x : St) (H : Heap) (locs : List Loc) (ls : Array Slot), wl_Mod_writePage_4 post n l1 l2 x → Wd dC dI cI cB cJ cZ ad stM kcM 115 A x H → va_S A s.heap H locs → lv_has ls 3 [(0, .ref (ad 0)), (1, .int l1), (2, .int l2)] → W p l e R s m args below meth c H locs cells slots Q (F0 m 4 ls []) := by
  intro n
  induction n with
  | zero => intro l1 l2 x H locs ls  hw; exact hw.elim
  | succ n ih => intro l1 l2 x H locs ls  hw hW hS hl; exact t_Mod_writePage_4 hx hb hml hown hT hK hN hA hRc hRs hRf hRl hret  ih l1 l2 x H locs ls  hw hW hS hl
set_option maxRecDepth 100000 in
def wp_Mod_writePage (post : St → Prop)  (x : St) : Prop := ∃ n : Nat, wl_Mod_writePage_4 post n (-1) 0 x
set_option maxHeartbeats 4000000 in
set_option maxRecDepth 100000 in
theorem t_Mod_writePage_e {p : Program} {l : Launch} {e : Env} {R : Room} {s : State} {m : MethodId} {args : Array Value} {below : List Frame} {meth : Method} {c : Code} {cells slots : Nat} {Q : State → Prop} {dC : Nat → ClassId} {dI : Nat → Nat → Nat} {cI cB cJ cZ : ClassId} {A : Nat → Prop} {ad : Nat → Nat} {post : St → Prop} (hx : p.tables.exec = Jvm.exec) (hb : c.code = b_Mod_writePage) (hml : c.maxLocals = 3) (hown : s.vm.findClass R_Mod = some m.cls) (hT : ∀ w ∈ TG, w.before args s = true) (hK : va_K (dC, dI) CL (TY cI cB cJ cZ) s) (hN : NW s) (hA : ∀ q : Nat, s.heap.size ≤ q → A q) (hRc : cells ≤ R.cells) (hRs : slots ≤ R.slots) (hRf : 6 ≤ R.frames) (hRl : 141 ≤ R.locals) (hret : ∀ (x : St) (H : Heap) (locs : List Loc) (pc : Nat) (ls : Array Slot), decode b_Mod_writePage pc = .ok (.return_, 1) → post x → Wd dC dI cI cB cJ cZ ad stM kcM 115 A x H → va_S A s.heap H locs → W p l e R s m args below meth c H locs cells slots Q (F0 m pc ls [])) : ∀  (x : St) (H : Heap) (locs : List Loc) (ls : Array Slot), wp_Mod_writePage post  x → Wd dC dI cI cB cJ cZ ad stM kcM 115 A x H → va_S A s.heap H locs → lv_has ls 3 [(0, .ref (ad 0))] → W p l e R s m args below meth c H locs cells slots Q (F0 m 0 ls []) := by
  intro  x H locs ls  hw hW hS hl
  unfold wp_Mod_writePage at hw
  refine lv_iconst (v := (-1)) hx hb d_Mod_writePage_0 (by decide) ?_
  refine lv_istore_n (lv' := [(1, .int (-1)), (0, .ref (ad 0))]) hx hb d_Mod_writePage_1 rfl hl (by decide) rfl (fun ls hl => ?_)
  refine lv_iconst (v := 0) hx hb d_Mod_writePage_2 (by decide) ?_
  refine lv_istore_n (lv' := [(2, .int 0), (1, .int (-1)), (0, .ref (ad 0))]) hx hb d_Mod_writePage_3 rfl hl (by decide) rfl (fun ls hl => ?_)
  obtain ⟨n, hw⟩ := hw
  exact tl_Mod_writePage_4 hx hb hml hown hT hK hN hA hRc hRs hRf hRl hret  n (-1) 0 x H locs ls  hw hW hS (lv_sub hl [2, 1, 0] rfl)
set_option maxHeartbeats 4000000 in
set_option maxRecDepth 100000 in
theorem k_Mod_writePage (l : Launch) (dC : Nat → ClassId) (dI : Nat → Nat → Nat) (cI cB cJ cZ : ClassId) (ad : Nat → Nat) (sz : Nat)  (x : St) {post : St → Prop} (hw : wp_Mod_writePage post  x) : Met l y_Mod_writePage (wsOf y_Mod_writePage b_Mod_writePage 3 (none)) ({ frames := 6, cells := 0, slots := 0, locals := 141 }) (va_Pc [.ref (ad 0)] (PW dC dI cI cB cJ cZ ad stM kcM 115 sz x)) (va_Qv (fun (y : St) => post y) (fun y t => Wd dC dI cI cB cJ cZ ad stM kcM 115 (va_A (pic ad stM kcM 115 cI cB cJ cZ x) sz) y t.heap) (va_A (pic ad stM kcM 115 cI cB cJ cZ x) sz)) 0 0 (va_A (pic ad stM kcM 115 cI cB cJ cZ x) sz) := by
  refine Met.ofW (cc := b_Mod_writePage) (maxL := 3) (ret := none) (by decide) rfl ?_
  intro p e s m args below meth c s₁ B hml hv
  obtain ⟨rfl, hsz, hW0, hK, hN⟩ := hv
  have hx := B.exec
  have hb := B.bytes
  have hr := B.returns
  have hts := atoms_spec B.pre
  have hT : ∀ w ∈ TG, w.before _ s = true := fun w h => hts w (List.mem_cons_of_mem _ h)
  have hown : s.vm.findClass R_Mod = some m.cls := findClass_of_methodNamed B.named
  have hlocks := B.notSynchronized
  subst hsz
  have hW : Wd dC dI cI cB cJ cZ ad stM kcM 115 (va_A (pic ad stM kcM 115 cI cB cJ cZ x) s.heap.size) x s.heap := ⟨hW0.1, hW0.2.1.self (sz := s.heap.size), hW0.2.2⟩
  generalize hAe : va_A (pic ad stM kcM 115 cI cB cJ cZ x) s.heap.size = A at hW ⊢
  have hA : ∀ q : Nat, s.heap.size ≤ q → A q := fun q h => by rw [← hAe]; exact Or.inr h
  have hS : va_S A s.heap s.heap [] := va_S.rf
  have hl := lv_entry ([.ref (ad 0)]) (n := 3) (Nat.le_of_ble_eq_true rfl)
  rw [lg_entry_eq]
  generalize (lg_sl ([.ref (ad 0)]) ++ List.replicate (3 - (lg_sl ([.ref (ad 0)])).length) Slot.unset).toArray = ls at hl ⊢
  have hl : lv_has ls 3 [(0, .ref (ad 0))] := hl
  exact t_Mod_writePage_e hx hb hml hown hT hK hN hA (Nat.le_refl 0) (Nat.le_refl 0) (Nat.le_refl 6) (Nat.le_refl 141) (fun x H locs pc ls hd hp hW hS => W.vret hx hb hr (fun t ht hM => ⟨⟨x, rfl, hp, Wd.back hW ht.symm (fun _ z => z)⟩, hS.F ht⟩) hS.2.2 hd hlocks)   x _ _ ls  hw hW hS hl
set_option maxRecDepth 100000 in
def j_Mod_addSheet_30 (post : St → Prop) (rec2 : Int32 → St → Prop) (l1 : Int32) (s0 : Int32) (x : St) : Prop := wp_Mod_addByte (fun (x776 : St) => rec2 (l1 + 1) x776) s0 x
set_option maxHeartbeats 4000000 in
set_option maxRecDepth 100000 in
theorem t_Mod_addSheet_30 {p : Program} {l : Launch} {e : Env} {R : Room} {s : State} {m : MethodId} {args : Array Value} {below : List Frame} {meth : Method} {c : Code} {cells slots : Nat} {Q : State → Prop} {dC : Nat → ClassId} {dI : Nat → Nat → Nat} {cI cB cJ cZ : ClassId} {A : Nat → Prop} {ad : Nat → Nat} {post : St → Prop} {rec2 : Int32 → St → Prop} (hx : p.tables.exec = Jvm.exec) (hb : c.code = b_Mod_addSheet) (hml : c.maxLocals = 2) (hown : s.vm.findClass R_Mod = some m.cls) (hT : ∀ w ∈ TG, w.before args s = true) (hK : va_K (dC, dI) CL (TY cI cB cJ cZ) s) (hN : NW s) (hA : ∀ q : Nat, s.heap.size ≤ q → A q) (hRc : cells ≤ R.cells) (hRs : slots ≤ R.slots) (hRf : 1 ≤ R.frames) (hRl : 21 ≤ R.locals) (hret : ∀ (x : St) (H : Heap) (locs : List Loc) (pc : Nat) (ls : Array Slot), decode b_Mod_addSheet pc = .ok (.return_, 1) → post x → Wd dC dI cI cB cJ cZ ad stM kcM 115 A x H → va_S A s.heap H locs → W p l e R s m args below meth c H locs cells slots Q (F0 m pc ls [])) (hrec2 : ∀ (l1 : Int32) (x : St) (H : Heap) (locs : List Loc) (ls : Array Slot), rec2 l1 x → Wd dC dI cI cB cJ cZ ad stM kcM 115 A x H → va_S A s.heap H locs → lv_has ls 2 [(0, .ref (ad 0)), (1, .int l1)] → W p l e R s m args below meth c H locs cells slots Q (F0 m 2 ls [])) : ∀ (l1 : Int32) (s0 : Int32) (x : St) (H : Heap) (locs : List Loc) (ls : Array Slot), j_Mod_addSheet_30 post rec2 l1 s0 x → Wd dC dI cI cB cJ cZ ad stM kcM 115 A x H → va_S A s.heap H locs → lv_has ls 2 [(0, .ref (ad 0)), (1, .int l1)] → W p l e R s m args below meth c H locs cells slots Q (F0 m 30 ls [.int s0, .ref (ad 0)]) := by
  intro l1 s0 x H locs ls  hw hW hS hl
  unfold j_Mod_addSheet_30 at hw
  have hF := hW.free hS hA
  refine va_callv (va_runV (C := R_Mod) (As := [.int s0]) (rest := []) ⟨hx, hb, hml, hown, hT⟩ (k_Mod_addByte l dC dI cI cB cJ cZ ad H.size s0 x  hw) ⟨callB_of 1 hT (gw_in w_11_142) rfl rfl rfl (hT _ w_1_15) (hT _ w_11_139) (by decide +kernel) ⟨Nat.le_trans (by decide) hRf, Nat.le_trans (by decide) hRl⟩, hT _ w_11_141, hT _ ws_140⟩ ⟨PW.blind, va_recv hK hW.1 (ci := 12) (q0 := 0) rfl (pic_obj ko_0.1 ko_0.2 (by decide)), PW.at _ hW hK hN⟩ rfl rfl hl.1 rfl (lv_room (Nat.le_of_ble_eq_true rfl)) d_Mod_addSheet_30 ⟨hRc, hRs⟩) hS (fun q _ h => hF q h) hF (fun  x776 t H locs ht hvm hw hB hz1 hk1 hS => ?_)
  have hW := Wd.back hB ht hF
  clear hB ht hF hz1 hk1 hvm
  refine lv_iinc (v := (l1 + 1)) (lv' := [(1, .int (l1 + 1)), (0, .ref (ad 0))]) hx hb d_Mod_addSheet_33 hl (k := 1) rfl rfl (by decide) rfl (fun ls hl => ?_)
  refine lv_goto (tgt := 2) hx hb d_Mod_addSheet_36 (by decide) ?_
  exact hrec2 (l1 + 1) x776 H locs ls  hw hW hS (lv_sub hl [1, 0] rfl)
set_option maxRecDepth 100000 in
def j_Mod_addSheet_2 (post : St → Prop) (rec2 : Int32 → St → Prop) (l1 : Int32) (x : St) : Prop := (((fI x 0 64) ≤ l1 → post x) ∧ (¬ (fI x 0 64) ≤ l1 → (((nI (fN x 39)) ≤ l1 → j_Mod_addSheet_30 post rec2 l1 0 x) ∧ (¬ (nI (fN x 39)) ≤ l1 → (vp_in l1 (fN x 39) ∧ j_Mod_addSheet_30 post rec2 l1 (rA x 39 l1) x)))))
set_option maxHeartbeats 4000000 in
set_option maxRecDepth 100000 in
theorem t_Mod_addSheet_2 {p : Program} {l : Launch} {e : Env} {R : Room} {s : State} {m : MethodId} {args : Array Value} {below : List Frame} {meth : Method} {c : Code} {cells slots : Nat} {Q : State → Prop} {dC : Nat → ClassId} {dI : Nat → Nat → Nat} {cI cB cJ cZ : ClassId} {A : Nat → Prop} {ad : Nat → Nat} {post : St → Prop} {rec2 : Int32 → St → Prop} (hx : p.tables.exec = Jvm.exec) (hb : c.code = b_Mod_addSheet) (hml : c.maxLocals = 2) (hown : s.vm.findClass R_Mod = some m.cls) (hT : ∀ w ∈ TG, w.before args s = true) (hK : va_K (dC, dI) CL (TY cI cB cJ cZ) s) (hN : NW s) (hA : ∀ q : Nat, s.heap.size ≤ q → A q) (hRc : cells ≤ R.cells) (hRs : slots ≤ R.slots) (hRf : 1 ≤ R.frames) (hRl : 21 ≤ R.locals) (hret : ∀ (x : St) (H : Heap) (locs : List Loc) (pc : Nat) (ls : Array Slot), decode b_Mod_addSheet pc = .ok (.return_, 1) → post x → Wd dC dI cI cB cJ cZ ad stM kcM 115 A x H → va_S A s.heap H locs → W p l e R s m args below meth c H locs cells slots Q (F0 m pc ls [])) (hrec2 : ∀ (l1 : Int32) (x : St) (H : Heap) (locs : List Loc) (ls : Array Slot), rec2 l1 x → Wd dC dI cI cB cJ cZ ad stM kcM 115 A x H → va_S A s.heap H locs → lv_has ls 2 [(0, .ref (ad 0)), (1, .int l1)] → W p l e R s m args below meth c H locs cells slots Q (F0 m 2 ls [])) : ∀ (l1 : Int32) (x : St) (H : Heap) (locs : List Loc) (ls : Array Slot), j_Mod_addSheet_2 post rec2 l1 x → Wd dC dI cI cB cJ cZ ad stM kcM 115 A x H → va_S A s.heap H locs → lv_has ls 2 [(0, .ref (ad 0)), (1, .int l1)] → W p l e R s m args below meth c H locs cells slots Q (F0 m 2 ls []) := by
  intro l1 x H locs ls  hw hW hS hl
  unfold j_Mod_addSheet_2 at hw
  refine lv_iload_n hx hb d_Mod_addSheet_2 rfl (lv_at hl 1 rfl) ?_
  refine lv_aload_n hx hb d_Mod_addSheet_3 rfl (lv_at hl 0 rfl) ?_
  refine w_geti (k := 64) (t := 12) (C := R_Mod) (T := F_Mod) (N := 167) hx hb hT hown hK hW ko_0.1 ko_0.2 (by decide) in_Mod rfl rfl (by decide) rfl fr_Mod_64 w_9_4 d_Mod_addSheet_4 ?_
  refine lv_icmp_ge (tgt := 39) hx hb d_Mod_addSheet_7 (by decide) (fun c777 => ?_) (fun c777 => ?_)
  · have hw := hw.1 c777
    exact hret x H locs 39 ls d_Mod_addSheet_39 hw hW hS
  · have hw := hw.2 c777
    refine lv_aload_n hx hb d_Mod_addSheet_10 rfl (lv_at hl 0 rfl) ?_
    refine lv_iload_n hx hb d_Mod_addSheet_11 rfl (lv_at hl 1 rfl) ?_
    refine lv_aload_n hx hb d_Mod_addSheet_12 rfl (lv_at hl 0 rfl) ?_
    refine w_getf (q := 39) (k := 60) (t := 12) (C := R_Mod) (T := F_Mod) (N := 167) hx hb hT hown hK hW ko_0.1 ko_0.2 (by decide) in_Mod rfl rfl (by decide) rfl fr_Mod_60 w_9_0 d_Mod_addSheet_13 rfl ?_
    refine w_alen (o := 39) (t0 := 0) hx hb hK hW (pic_int ko_39.1 ko_39.2) rfl rfl d_Mod_addSheet_16 ?_
    refine lv_icmp_ge (tgt := 29) hx hb d_Mod_addSheet_17 (by decide) (fun c778 => ?_) (fun c778 => ?_)
    · have hw := hw.1 c778
      refine lv_iconst (v := 0) hx hb d_Mod_addSheet_29 (by decide) ?_
      exact t_Mod_addSheet_30 hx hb hml hown hT hK hN hA hRc hRs hRf hRl hret hrec2 l1 0 x H locs ls  hw hW hS (lv_sub hl [0, 1] rfl)
    · have hw := hw.2 c778
      refine lv_aload_n hx hb d_Mod_addSheet_20 rfl (lv_at hl 0 rfl) ?_
      refine w_getf (q := 39) (k := 60) (t := 12) (C := R_Mod) (T := F_Mod) (N := 167) hx hb hT hown hK hW ko_0.1 ko_0.2 (by decide) in_Mod rfl rfl (by decide) rfl fr_Mod_60 w_9_0 d_Mod_addSheet_21 rfl ?_
      refine lv_iload_n hx hb d_Mod_addSheet_24 rfl (lv_at hl 1 rfl) ?_
      obtain ⟨hi, hw⟩ := hw
      refine w_iald (o := 39) hx hb hK hW ko_39.1 ko_39.2 hi d_Mod_addSheet_25 ?_
      refine lv_goto (tgt := 30) hx hb d_Mod_addSheet_26 (by decide) ?_
      exact t_Mod_addSheet_30 hx hb hml hown hT hK hN hA hRc hRs hRf hRl hret hrec2 l1 (rA x 39 l1) x H locs ls  hw hW hS (lv_sub hl [0, 1] rfl)
def wl_Mod_addSheet_2 (post : St → Prop) : Nat → Int32 → St → Prop
  | 0 => fun _ _ => False
  | n + 1 => j_Mod_addSheet_2 post (wl_Mod_addSheet_2 post n)
set_option maxHeartbeats 4000000 in
set_option maxRecDepth 100000 in
theorem tl_Mod_addSheet_2 {p : Program} {l : Launch} {e : Env} {R : Room} {s : State} {m : MethodId} {args : Array Value} {below : List Frame} {meth : Method} {c : Code} {cells slots : Nat} {Q : State → Prop} {dC : Nat → ClassId} {dI : Nat → Nat → Nat} {cI cB cJ cZ : ClassId} {A : Nat → Prop} {ad : Nat → Nat} {post : St → Prop} (hx : p.tables.exec = Jvm.exec) (hb : c.code = b_Mod_addSheet) (hml : c.maxLocals = 2) (hown : s.vm.findClass R_Mod = some m.cls) (hT : ∀ w ∈ TG, w.before args s = true) (hK : va_K (dC, dI) CL (TY cI cB cJ cZ) s) (hN : NW s) (hA : ∀ q : Nat, s.heap.size ≤ q → A q) (hRc : cells ≤ R.cells) (hRs : slots ≤ R.slots) (hRf : 1 ≤ R.frames) (hRl : 21 ≤ R.locals) (hret : ∀ (x : St) (H : Heap) (locs : List Loc) (pc : Nat) (ls : Array Slot), decode b_Mod_addSheet pc = .ok (.return_, 1) → post x → Wd dC dI cI cB cJ cZ ad stM kcM 115 A x H → va_S A s.heap H locs → W p l e R s m args below meth c H locs cells slots Q (F0 m pc ls []))  : ∀ n : Nat, ∀ (l1 : Int32) (x : St) (H : Heap) (locs : List Loc) (ls : Array Slot), wl_Mod_addSheet_2 post n l1 x → Wd dC dI cI cB cJ cZ ad stM kcM 115 A x H → va_S A s.heap H locs → lv_has ls 2 [(0, .ref (ad 0)), (1, .int l1)] → W p l e R s m args below meth c H locs cells slots Q (F0 m 2 ls []) := by
  intro n
  induction n with
  | zero => intro l1 x H locs ls  hw; exact hw.elim
  | succ n ih => intro l1 x H locs ls  hw hW hS hl; exact t_Mod_addSheet_2 hx hb hml hown hT hK hN hA hRc hRs hRf hRl hret  ih l1 x H locs ls  hw hW hS hl
set_option maxRecDepth 100000 in
def wp_Mod_addSheet (post : St → Prop)  (x : St) : Prop := ∃ n : Nat, wl_Mod_addSheet_2 post n 0 x
set_option maxHeartbeats 4000000 in
set_option maxRecDepth 100000 in
theorem t_Mod_addSheet_e {p : Program} {l : Launch} {e : Env} {R : Room} {s : State} {m : MethodId} {args : Array Value} {below : List Frame} {meth : Method} {c : Code} {cells slots : Nat} {Q : State → Prop} {dC : Nat → ClassId} {dI : Nat → Nat → Nat} {cI cB cJ cZ : ClassId} {A : Nat → Prop} {ad : Nat → Nat} {post : St → Prop} (hx : p.tables.exec = Jvm.exec) (hb : c.code = b_Mod_addSheet) (hml : c.maxLocals = 2) (hown : s.vm.findClass R_Mod = some m.cls) (hT : ∀ w ∈ TG, w.before args s = true) (hK : va_K (dC, dI) CL (TY cI cB cJ cZ) s) (hN : NW s) (hA : ∀ q : Nat, s.heap.size ≤ q → A q) (hRc : cells ≤ R.cells) (hRs : slots ≤ R.slots) (hRf : 1 ≤ R.frames) (hRl : 21 ≤ R.locals) (hret : ∀ (x : St) (H : Heap) (locs : List Loc) (pc : Nat) (ls : Array Slot), decode b_Mod_addSheet pc = .ok (.return_, 1) → post x → Wd dC dI cI cB cJ cZ ad stM kcM 115 A x H → va_S A s.heap H locs → W p l e R s m args below meth c H locs cells slots Q (F0 m pc ls [])) : ∀  (x : St) (H : Heap) (locs : List Loc) (ls : Array Slot), wp_Mod_addSheet post  x → Wd dC dI cI cB cJ cZ ad stM kcM 115 A x H → va_S A s.heap H locs → lv_has ls 2 [(0, .ref (ad 0))] → W p l e R s m args below meth c H locs cells slots Q (F0 m 0 ls []) := by
  intro  x H locs ls  hw hW hS hl
  unfold wp_Mod_addSheet at hw
  refine lv_iconst (v := 0) hx hb d_Mod_addSheet_0 (by decide) ?_
  refine lv_istore_n (lv' := [(1, .int 0), (0, .ref (ad 0))]) hx hb d_Mod_addSheet_1 rfl hl (by decide) rfl (fun ls hl => ?_)
  obtain ⟨n, hw⟩ := hw
  exact tl_Mod_addSheet_2 hx hb hml hown hT hK hN hA hRc hRs hRf hRl hret  n 0 x H locs ls  hw hW hS (lv_sub hl [1, 0] rfl)
set_option maxHeartbeats 4000000 in
set_option maxRecDepth 100000 in
theorem k_Mod_addSheet (l : Launch) (dC : Nat → ClassId) (dI : Nat → Nat → Nat) (cI cB cJ cZ : ClassId) (ad : Nat → Nat) (sz : Nat)  (x : St) {post : St → Prop} (hw : wp_Mod_addSheet post  x) : Met l y_Mod_addSheet (wsOf y_Mod_addSheet b_Mod_addSheet 2 (none)) ({ frames := 1, cells := 0, slots := 0, locals := 21 }) (va_Pc [.ref (ad 0)] (PW dC dI cI cB cJ cZ ad stM kcM 115 sz x)) (va_Qv (fun (y : St) => post y) (fun y t => Wd dC dI cI cB cJ cZ ad stM kcM 115 (va_A (pic ad stM kcM 115 cI cB cJ cZ x) sz) y t.heap) (va_A (pic ad stM kcM 115 cI cB cJ cZ x) sz)) 0 0 (va_A (pic ad stM kcM 115 cI cB cJ cZ x) sz) := by
  refine Met.ofW (cc := b_Mod_addSheet) (maxL := 2) (ret := none) (by decide) rfl ?_
  intro p e s m args below meth c s₁ B hml hv
  obtain ⟨rfl, hsz, hW0, hK, hN⟩ := hv
  have hx := B.exec
  have hb := B.bytes
  have hr := B.returns
  have hts := atoms_spec B.pre
  have hT : ∀ w ∈ TG, w.before _ s = true := fun w h => hts w (List.mem_cons_of_mem _ h)
  have hown : s.vm.findClass R_Mod = some m.cls := findClass_of_methodNamed B.named
  have hlocks := B.notSynchronized
  subst hsz
  have hW : Wd dC dI cI cB cJ cZ ad stM kcM 115 (va_A (pic ad stM kcM 115 cI cB cJ cZ x) s.heap.size) x s.heap := ⟨hW0.1, hW0.2.1.self (sz := s.heap.size), hW0.2.2⟩
  generalize hAe : va_A (pic ad stM kcM 115 cI cB cJ cZ x) s.heap.size = A at hW ⊢
  have hA : ∀ q : Nat, s.heap.size ≤ q → A q := fun q h => by rw [← hAe]; exact Or.inr h
  have hS : va_S A s.heap s.heap [] := va_S.rf
  have hl := lv_entry ([.ref (ad 0)]) (n := 2) (Nat.le_of_ble_eq_true rfl)
  rw [lg_entry_eq]
  generalize (lg_sl ([.ref (ad 0)]) ++ List.replicate (2 - (lg_sl ([.ref (ad 0)])).length) Slot.unset).toArray = ls at hl ⊢
  have hl : lv_has ls 2 [(0, .ref (ad 0))] := hl
  exact t_Mod_addSheet_e hx hb hml hown hT hK hN hA (Nat.le_refl 0) (Nat.le_refl 0) (Nat.le_refl 1) (Nat.le_refl 21) (fun x H locs pc ls hd hp hW hS => W.vret hx hb hr (fun t ht hM => ⟨⟨x, rfl, hp, Wd.back hW ht.symm (fun _ z => z)⟩, hS.F ht⟩) hS.2.2 hd hlocks)   x _ _ ls  hw hW hS hl
set_option maxRecDepth 100000 in
def j_Mod_writeChunk_124 (post : Int32 → St → Prop) (rec16 : Int32 → Int32 → Int32 → Int32 → Int32 → Int32 → Int32 → St → Prop) (l1 : Int32) (l2 : Int32) (l3 : Int32) (l4 : Int32) (l5 : Int32) (l6 : Int32) (l7 : Int32) (l8 : Int32) (l9 : Int32) (l10 : Int32) (x : St) : Prop := wp_Mod_fillPage (fun (x779 : St) => wp_Mod_writePage (fun (x780 : St) => wp_Mod_addSheet (fun (x781 : St) => (vp_in l1 (fN x781 51) ∧ (vp_in l1 (fN x781 51) ∧ ∀ x782 : St, x782 = setA x781 51 l1 ((rA x781 51 l1) + 1) → rec16 l1 l2 l3 l4 l5 l6 l8 x782)))  x780)  x779) l2 l7 l8 x
set_option maxHeartbeats 4000000 in
set_option maxRecDepth 100000 in
theorem t_Mod_writeChunk_124 {p : Program} {l : Launch} {e : Env} {R : Room} {s : State} {m : MethodId} {args : Array Value} {below : List Frame} {meth : Method} {c : Code} {cells slots : Nat} {Q : State → Prop} {dC : Nat → ClassId} {dI : Nat → Nat → Nat} {cI cB cJ cZ : ClassId} {A : Nat → Prop} {ad : Nat → Nat} {post : Int32 → St → Prop} {rec16 : Int32 → Int32 → Int32 → Int32 → Int32 → Int32 → Int32 → St → Prop} (hx : p.tables.exec = Jvm.exec) (hb : c.code = b_Mod_writeChunk) (hml : c.maxLocals = 11) (hown : s.vm.findClass R_Mod = some m.cls) (hT : ∀ w ∈ TG, w.before args s = true) (hK : va_K (dC, dI) CL (TY cI cB cJ cZ) s) (hN : NW s) (hA : ∀ q : Nat, s.heap.size ≤ q → A q) (hRc : cells ≤ R.cells) (hRs : slots ≤ R.slots) (hRf : 7 ≤ R.frames) (hRl : 163 ≤ R.locals) (hret : ∀ (r : Int32) (x : St) (H : Heap) (locs : List Loc) (pc : Nat) (ls : Array Slot), decode b_Mod_writeChunk pc = .ok (.ireturn, 1) → narrow .boolean (.int r) = .int r → post r x → Wd dC dI cI cB cJ cZ ad stM kcM 115 A x H → va_S A s.heap H locs → W p l e R s m args below meth c H locs cells slots Q (F0 m pc ls [.int r])) (hrec16 : ∀ (l1 : Int32) (l2 : Int32) (l3 : Int32) (l4 : Int32) (l5 : Int32) (l6 : Int32) (l7 : Int32) (x : St) (H : Heap) (locs : List Loc) (ls : Array Slot), rec16 l1 l2 l3 l4 l5 l6 l7 x → Wd dC dI cI cB cJ cZ ad stM kcM 115 A x H → va_S A s.heap H locs → lv_has ls 11 [(0, .ref (ad 0)), (1, .int l1), (2, .int l2), (3, .int l3), (4, .int l4), (5, .int l5), (6, .int l6), (7, .int l7)] → W p l e R s m args below meth c H locs cells slots Q (F0 m 16 ls [])) : ∀ (l1 : Int32) (l2 : Int32) (l3 : Int32) (l4 : Int32) (l5 : Int32) (l6 : Int32) (l7 : Int32) (l8 : Int32) (l9 : Int32) (l10 : Int32) (x : St) (H : Heap) (locs : List Loc) (ls : Array Slot), j_Mod_writeChunk_124 post rec16 l1 l2 l3 l4 l5 l6 l7 l8 l9 l10 x → Wd dC dI cI cB cJ cZ ad stM kcM 115 A x H → va_S A s.heap H locs → lv_has ls 11 [(0, .ref (ad 0)), (1, .int l1), (2, .int l2), (3, .int l3), (4, .int l4), (5, .int l5), (6, .int l6), (7, .int l7), (8, .int l8), (9, .int l9), (10, .int l10)] → W p l e R s m args below meth c H locs cells slots Q (F0 m 124 ls []) := by
  intro l1 l2 l3 l4 l5 l6 l7 l8 l9 l10 x H locs ls  hw hW hS hl
  unfold j_Mod_writeChunk_124 at hw
  refine lv_aload_n hx hb d_Mod_writeChunk_124 rfl (lv_at hl 0 rfl) ?_
  refine lv_iload_n hx hb d_Mod_writeChunk_125 rfl (lv_at hl 2 rfl) ?_
  refine lv_iload hx hb d_Mod_writeChunk_126 (lv_at hl 7 rfl) ?_
  refine lv_iload hx hb d_Mod_writeChunk_128 (lv_at hl 8 rfl) ?_
  have hF := hW.free hS hA
  refine va_callv (va_runV (C := R_Mod) (As := [.int l2, .int l7, .int l8]) (rest := []) ⟨hx, hb, hml, hown, hT⟩ (k_Mod_fillPage l dC dI cI cB cJ cZ ad H.size l2 l7 l8 x  hw) ⟨callB_of 3 hT (gw_in w_11_158) rfl rfl rfl (hT _ w_1_15) (hT _ w_11_155) (by decide +kernel) ⟨Nat.le_trans (by decide) hRf, Nat.le_trans (by decide) hRl⟩, hT _ w_11_157, hT _ ws_144⟩ ⟨PW.blind, va_recv hK hW.1 (ci := 12) (q0 := 0) rfl (pic_obj ko_0.1 ko_0.2 (by decide)), PW.at _ hW hK hN⟩ rfl rfl hl.1 rfl (lv_room (Nat.le_of_ble_eq_true rfl)) d_Mod_writeChunk_130 ⟨hRc, hRs⟩) hS (fun q _ h => hF q h) hF (fun  x779 t H locs ht hvm hw hB hz1 hk1 hS => ?_)
  have hW := Wd.back hB ht hF
  clear hB ht hF hz1 hk1 hvm
  refine lv_aload_n hx hb d_Mod_writeChunk_133 rfl (lv_at hl 0 rfl) ?_
  have hF := hW.free hS hA
  refine va_callv (va_runV (C := R_Mod) (As := []) (rest := []) ⟨hx, hb, hml, hown, hT⟩ (k_Mod_writePage l dC dI cI cB cJ cZ ad H.size  x779  hw) ⟨callB_of 0 hT (gw_in w_11_174) rfl rfl rfl (hT _ w_1_15) (hT _ w_11_171) (by decide +kernel) ⟨Nat.le_trans (by decide) hRf, Nat.le_trans (by decide) hRl⟩, hT _ w_11_173, hT _ ws_148⟩ ⟨PW.blind, va_recv hK hW.1 (ci := 12) (q0 := 0) rfl (pic_obj ko_0.1 ko_0.2 (by decide)), PW.at _ hW hK hN⟩ rfl rfl hl.1 rfl (lv_room (Nat.le_of_ble_eq_true rfl)) d_Mod_writeChunk_134 ⟨hRc, hRs⟩) hS (fun q _ h => hF q h) hF (fun  x780 t H locs ht hvm hw hB hz1 hk1 hS => ?_)
  have hW := Wd.back hB ht hF
  clear hB ht hF hz1 hk1 hvm
  refine lv_aload_n hx hb d_Mod_writeChunk_137 rfl (lv_at hl 0 rfl) ?_
  have hF := hW.free hS hA
  refine va_callv (va_runV (C := R_Mod) (As := []) (rest := []) ⟨hx, hb, hml, hown, hT⟩ (k_Mod_addSheet l dC dI cI cB cJ cZ ad H.size  x780  hw) ⟨callB_of 0 hT (gw_in w_12_59) rfl rfl rfl (hT _ w_1_15) (hT _ w_12_56) (by decide +kernel) ⟨Nat.le_trans (by decide) hRf, Nat.le_trans (by decide) hRl⟩, hT _ w_12_58, hT _ ws_176⟩ ⟨PW.blind, va_recv hK hW.1 (ci := 12) (q0 := 0) rfl (pic_obj ko_0.1 ko_0.2 (by decide)), PW.at _ hW hK hN⟩ rfl rfl hl.1 rfl (lv_room (Nat.le_of_ble_eq_true rfl)) d_Mod_writeChunk_138 ⟨hRc, hRs⟩) hS (fun q _ h => hF q h) hF (fun  x781 t H locs ht hvm hw hB hz1 hk1 hS => ?_)
  have hW := Wd.back hB ht hF
  clear hB ht hF hz1 hk1 hvm
  refine lv_aload_n hx hb d_Mod_writeChunk_141 rfl (lv_at hl 0 rfl) ?_
  refine w_getf (q := 51) (k := 79) (t := 12) (C := R_Mod) (T := F_Mod) (N := 167) hx hb hT hown hK hW ko_0.1 ko_0.2 (by decide) in_Mod rfl rfl (by decide) rfl fr_Mod_79 w_9_19 d_Mod_writeChunk_142 rfl ?_
  refine lv_iload_n hx hb d_Mod_writeChunk_145 rfl (lv_at hl 1 rfl) ?_
  refine lv_dup2_11 hx hb d_Mod_writeChunk_146 rfl rfl ?_
  obtain ⟨hi, hw⟩ := hw
  refine w_iald (o := 51) hx hb hK hW ko_51.1 ko_51.2 hi d_Mod_writeChunk_147 ?_
  refine lv_iconst (v := 1) hx hb d_Mod_writeChunk_148 (by decide) ?_
  refine lv_iadd hx hb d_Mod_writeChunk_149 ?_
  obtain ⟨hi, hw⟩ := hw
  refine w_iast (o := 51) hx hb hK hW hS ko_51.1 ko_51.2 hi d_Mod_writeChunk_150 (fun H locs hW hS => ?_)
  obtain ⟨x782, ex782⟩ : ∃ y : St, y = setA x781 51 l1 ((rA x781 51 l1) + 1) := ⟨_, rfl⟩
  rw [← ex782] at hW
  have hw := hw x782 ex782
  refine lv_iload hx hb d_Mod_writeChunk_151 (lv_at hl 8 rfl) ?_
  refine lv_istore (lv' := [(7, .int l8), (0, .ref (ad 0)), (1, .int l1), (2, .int l2), (3, .int l3), (4, .int l4), (5, .int l5), (6, .int l6), (8, .int l8), (9, .int l9), (10, .int l10)]) hx hb d_Mod_writeChunk_153 hl (by decide) rfl (fun ls hl => ?_)
  refine lv_goto (tgt := 16) hx hb d_Mod_writeChunk_155 (by decide) ?_
  exact hrec16 l1 l2 l3 l4 l5 l6 l8 x782 H locs ls  hw hW hS (lv_sub hl [1, 2, 3, 4, 5, 6, 7, 0] rfl)
set_option maxRecDepth 100000 in
def j_Mod_writeChunk_61 (post : Int32 → St → Prop) (rec16 : Int32 → Int32 → Int32 → Int32 → Int32 → Int32 → Int32 → St → Prop) (rec61 : Int32 → Int32 → Int32 → Int32 → Int32 → Int32 → Int32 → Int32 → Int32 → Int32 → St → Prop) (l1 : Int32) (l2 : Int32) (l3 : Int32) (l4 : Int32) (l5 : Int32) (l6 : Int32) (l7 : Int32) (l8 : Int32) (l9 : Int32) (l10 : Int32) (x : St) : Prop := ((l4 ≤ l8 → j_Mod_writeChunk_124 post rec16 l1 l2 l3 l4 l5 l6 l7 l8 l9 l10 x) ∧ (¬ l4 ≤ l8 → wp_Mod_many (fun (r785 : Int32) (x784 : St) => (∀ v786 : Int32, v786 = (l9 + r785) → wp_Mod_textsOf (fun (r788 : Int32) (x787 : St) => (∀ v789 : Int32, v789 = (l10 + r788) → ((l5 < v786 → j_Mod_writeChunk_124 post rec16 l1 l2 l3 l4 l5 l6 l7 l8 v786 v789 x787) ∧ (¬ l5 < v786 → ((v789 ≤ 20000 → rec61 l1 l2 l3 l4 l5 l6 l7 (l8 + 1) v786 v789 x787) ∧ (¬ v789 ≤ 20000 → j_Mod_writeChunk_124 post rec16 l1 l2 l3 l4 l5 l6 l7 l8 v786 v789 x787)))))) l2 l8 (l8 + 1) x784)) l2 l8 (l8 + 1) x))
set_option maxHeartbeats 4000000 in
set_option maxRecDepth 100000 in
theorem t_Mod_writeChunk_61 {p : Program} {l : Launch} {e : Env} {R : Room} {s : State} {m : MethodId} {args : Array Value} {below : List Frame} {meth : Method} {c : Code} {cells slots : Nat} {Q : State → Prop} {dC : Nat → ClassId} {dI : Nat → Nat → Nat} {cI cB cJ cZ : ClassId} {A : Nat → Prop} {ad : Nat → Nat} {post : Int32 → St → Prop} {rec16 : Int32 → Int32 → Int32 → Int32 → Int32 → Int32 → Int32 → St → Prop} {rec61 : Int32 → Int32 → Int32 → Int32 → Int32 → Int32 → Int32 → Int32 → Int32 → Int32 → St → Prop} (hx : p.tables.exec = Jvm.exec) (hb : c.code = b_Mod_writeChunk) (hml : c.maxLocals = 11) (hown : s.vm.findClass R_Mod = some m.cls) (hT : ∀ w ∈ TG, w.before args s = true) (hK : va_K (dC, dI) CL (TY cI cB cJ cZ) s) (hN : NW s) (hA : ∀ q : Nat, s.heap.size ≤ q → A q) (hRc : cells ≤ R.cells) (hRs : slots ≤ R.slots) (hRf : 7 ≤ R.frames) (hRl : 163 ≤ R.locals) (hret : ∀ (r : Int32) (x : St) (H : Heap) (locs : List Loc) (pc : Nat) (ls : Array Slot), decode b_Mod_writeChunk pc = .ok (.ireturn, 1) → narrow .boolean (.int r) = .int r → post r x → Wd dC dI cI cB cJ cZ ad stM kcM 115 A x H → va_S A s.heap H locs → W p l e R s m args below meth c H locs cells slots Q (F0 m pc ls [.int r])) (hrec16 : ∀ (l1 : Int32) (l2 : Int32) (l3 : Int32) (l4 : Int32) (l5 : Int32) (l6 : Int32) (l7 : Int32) (x : St) (H : Heap) (locs : List Loc) (ls : Array Slot), rec16 l1 l2 l3 l4 l5 l6 l7 x → Wd dC dI cI cB cJ cZ ad stM kcM 115 A x H → va_S A s.heap H locs → lv_has ls 11 [(0, .ref (ad 0)), (1, .int l1), (2, .int l2), (3, .int l3), (4, .int l4), (5, .int l5), (6, .int l6), (7, .int l7)] → W p l e R s m args below meth c H locs cells slots Q (F0 m 16 ls [])) (hrec61 : ∀ (l1 : Int32) (l2 : Int32) (l3 : Int32) (l4 : Int32) (l5 : Int32) (l6 : Int32) (l7 : Int32) (l8 : Int32) (l9 : Int32) (l10 : Int32) (x : St) (H : Heap) (locs : List Loc) (ls : Array Slot), rec61 l1 l2 l3 l4 l5 l6 l7 l8 l9 l10 x → Wd dC dI cI cB cJ cZ ad stM kcM 115 A x H → va_S A s.heap H locs → lv_has ls 11 [(0, .ref (ad 0)), (1, .int l1), (2, .int l2), (3, .int l3), (4, .int l4), (5, .int l5), (6, .int l6), (7, .int l7), (8, .int l8), (9, .int l9), (10, .int l10)] → W p l e R s m args below meth c H locs cells slots Q (F0 m 61 ls [])) : ∀ (l1 : Int32) (l2 : Int32) (l3 : Int32) (l4 : Int32) (l5 : Int32) (l6 : Int32) (l7 : Int32) (l8 : Int32) (l9 : Int32) (l10 : Int32) (x : St) (H : Heap) (locs : List Loc) (ls : Array Slot), j_Mod_writeChunk_61 post rec16 rec61 l1 l2 l3 l4 l5 l6 l7 l8 l9 l10 x → Wd dC dI cI cB cJ cZ ad stM kcM 115 A x H → va_S A s.heap H locs → lv_has ls 11 [(0, .ref (ad 0)), (1, .int l1), (2, .int l2), (3, .int l3), (4, .int l4), (5, .int l5), (6, .int l6), (7, .int l7), (8, .int l8), (9, .int l9), (10, .int l10)] → W p l e R s m args below meth c H locs cells slots Q (F0 m 61 ls []) := by
  intro l1 l2 l3 l4 l5 l6 l7 l8 l9 l10 x H locs ls  hw hW hS hl
  unfold j_Mod_writeChunk_61 at hw
  refine lv_iload hx hb d_Mod_writeChunk_61 (lv_at hl 8 rfl) ?_
  refine lv_iload hx hb d_Mod_writeChunk_63 (lv_at hl 4 rfl) ?_
  refine lv_icmp_ge (tgt := 124) hx hb d_Mod_writeChunk_65 (by decide) (fun c783 => ?_) (fun c783 => ?_)
  · have hw := hw.1 c783
    exact t_Mod_writeChunk_124 hx hb hml hown hT hK hN hA hRc hRs hRf hRl hret hrec16 l1 l2 l3 l4 l5 l6 l7 l8 l9 l10 x H locs ls  hw hW hS (lv_sub hl [0, 1, 2, 3, 4, 5, 6, 7, 8, 9, 10] rfl)
  · have hw := hw.2 c783
    refine lv_iload hx hb d_Mod_writeChunk_68 (lv_at hl 9 rfl) ?_
    refine lv_aload_n hx hb d_Mod_writeChunk_70 rfl (lv_at hl 0 rfl) ?_
    refine lv_iload_n hx hb d_Mod_writeChunk_71 rfl (lv_at hl 2 rfl) ?_
    refine lv_iload hx hb d_Mod_writeChunk_72 (lv_at hl 8 rfl) ?_
    refine lv_iload hx hb d_Mod_writeChunk_74 (lv_at hl 8 rfl) ?_
    refine lv_iconst (v := 1) hx hb d_Mod_writeChunk_76 (by decide) ?_
    refine lv_iadd hx hb d_Mod_writeChunk_77 ?_
    have hF := hW.free hS hA
    refine va_calli (va_runV (C := R_Mod) (As := [.int l2, .int l8, .int (l8 + 1)]) (rest := [.int l9]) ⟨hx, hb, hml, hown, hT⟩ (k_Mod_many l dC dI cI cB cJ cZ ad H.size l2 l8 (l8 + 1) x  hw) ⟨callB_of 3 hT (gw_in w_11_150) rfl rfl rfl (hT _ w_1_15) (hT _ w_11_147) (by decide +kernel) ⟨Nat.le_trans (by decide) hRf, Nat.le_trans (by decide) hRl⟩, hT _ w_11_149, hT _ ws_142⟩ ⟨PW.blind, va_recv hK hW.1 (ci := 12) (q0 := 0) rfl (pic_obj ko_0.1 ko_0.2 (by decide)), PW.at _ hW hK hN⟩ rfl rfl hl.1 rfl (lv_room (Nat.le_of_ble_eq_true rfl)) d_Mod_writeChunk_78 ⟨hRc, hRs⟩) hS (fun q _ h => hF q h) hF (fun r785 x784 t H locs ht hvm hw hB hz1 hk1 hS => ?_)
    have hW := Wd.back hB ht hF
    clear hB ht hF hz1 hk1 hvm
    refine lv_iadd hx hb d_Mod_writeChunk_81 ?_
    refine lv_topi (fun v786 ev786 => ?_)
    have hw := hw v786 ev786
    refine lv_istore (lv' := [(9, .int v786), (0, .ref (ad 0)), (1, .int l1), (2, .int l2), (3, .int l3), (4, .int l4), (5, .int l5), (6, .int l6), (7, .int l7), (8, .int l8), (10, .int l10)]) hx hb d_Mod_writeChunk_82 hl (by decide) rfl (fun ls hl => ?_)
    refine lv_iload hx hb d_Mod_writeChunk_84 (lv_at hl 10 rfl) ?_
    refine lv_aload_n hx hb d_Mod_writeChunk_86 rfl (lv_at hl 1 rfl) ?_
    refine lv_iload_n hx hb d_Mod_writeChunk_87 rfl (lv_at hl 3 rfl) ?_
    refine lv_iload hx hb d_Mod_writeChunk_88 (lv_at hl 9 rfl) ?_
    refine lv_iload hx hb d_Mod_writeChunk_90 (lv_at hl 9 rfl) ?_
    refine lv_iconst (v := 1) hx hb d_Mod_writeChunk_92 (by decide) ?_
    refine lv_iadd hx hb d_Mod_writeChunk_93 ?_
    have hF := hW.free hS hA
    refine va_calli (va_runV (C := R_Mod) (As := [.int l2, .int l8, .int (l8 + 1)]) (rest := [.int l10]) ⟨hx, hb, hml, hown, hT⟩ (k_Mod_textsOf l dC dI cI cB cJ cZ ad H.size l2 l8 (l8 + 1) x784  hw) ⟨callB_of 3 hT (gw_in w_11_154) rfl rfl rfl (hT _ w_1_15) (hT _ w_11_151) (by decide +kernel) ⟨Nat.le_trans (by decide) hRf, Nat.le_trans (by decide) hRl⟩, hT _ w_11_153, hT _ ws_143⟩ ⟨PW.blind, va_recv hK hW.1 (ci := 12) (q0 := 0) rfl (pic_obj ko_0.1 ko_0.2 (by decide)), PW.at _ hW hK hN⟩ rfl rfl hl.1 rfl (lv_room (Nat.le_of_ble_eq_true rfl)) d_Mod_writeChunk_94 ⟨hRc, hRs⟩) hS (fun q _ h => hF q h) hF (fun r788 x787 t H locs ht hvm hw hB hz1 hk1 hS => ?_)
    have hW := Wd.back hB ht hF
    clear hB ht hF hz1 hk1 hvm
    refine lv_iadd hx hb d_Mod_writeChunk_97 ?_
    refine lv_topi (fun v789 ev789 => ?_)
    have hw := hw v789 ev789
    refine lv_istore (lv' := [(10, .int v789), (9, .int v786), (0, .ref (ad 0)), (1, .int l1), (2, .int l2), (3, .int l3), (4, .int l4), (5, .int l5), (6, .int l6), (7, .int l7), (8, .int l8)]) hx hb d_Mod_writeChunk_98 hl (by decide) rfl (fun ls hl => ?_)
    refine lv_iload hx hb d_Mod_writeChunk_100 (lv_at hl 1 rfl) ?_
    refine lv_iload hx hb d_Mod_writeChunk_102 (lv_at hl 7 rfl) ?_
    refine lv_icmp_gt (tgt := 124) hx hb d_Mod_writeChunk_104 (by decide) (fun c790 => ?_) (fun c790 => ?_)
    · have hw := hw.1 c790
      exact t_Mod_writeChunk_124 hx hb hml hown hT hK hN hA hRc hRs hRf hRl hret hrec16 l1 l2 l3 l4 l5 l6 l7 l8 v786 v789 x787 H locs ls  hw hW hS (lv_sub hl [2, 3, 4, 5, 6, 7, 8, 9, 10, 1, 0] rfl)
    · have hw := hw.2 c790
      refine lv_iload hx hb d_Mod_writeChunk_107 (lv_at hl 0 rfl) ?_
      refine lv_sipush (v := 20000) hx hb d_Mod_writeChunk_109 (by decide) ?_
      refine lv_icmp_le (tgt := 118) hx hb d_Mod_writeChunk_112 (by decide) (fun c791 => ?_) (fun c791 => ?_)
      · have hw := hw.1 c791
        refine lv_iinc (v := (l8 + 1)) (lv' := [(8, .int (l8 + 1)), (10, .int v789), (9, .int v786), (0, .ref (ad 0)), (1, .int l1), (2, .int l2), (3, .int l3), (4, .int l4), (5, .int l5), (6, .int l6), (7, .int l7)]) hx hb d_Mod_writeChunk_118 hl (k := 10) rfl rfl (by decide) rfl (fun ls hl => ?_)
        refine lv_goto (tgt := 61) hx hb d_Mod_writeChunk_121 (by decide) ?_
        exact hrec61 l1 l2 l3 l4 l5 l6 l7 (l8 + 1) v786 v789 x787 H locs ls  hw hW hS (lv_sub hl [3, 4, 5, 6, 7, 8, 9, 10, 0, 2, 1] rfl)
      · have hw := hw.2 c791
        refine lv_goto (tgt := 124) hx hb d_Mod_writeChunk_115 (by decide) ?_
        exact t_Mod_writeChunk_124 hx hb hml hown hT hK hN hA hRc hRs hRf hRl hret hrec16 l1 l2 l3 l4 l5 l6 l7 l8 v786 v789 x787 H locs ls  hw hW hS (lv_sub hl [2, 3, 4, 5, 6, 7, 8, 9, 10, 1, 0] rfl)
def wl_Mod_writeChunk_61 (post : Int32 → St → Prop) (rec16 : Int32 → Int32 → Int32 → Int32 → Int32 → Int32 → Int32 → St → Prop) : Nat → Int32 → Int32 → Int32 → Int32 → Int32 → Int32 → Int32 → Int32 → Int32 → Int32 → St → Prop
  | 0 => fun _ _ _ _ _ _ _ _ _ _ _ => False
  | n + 1 => j_Mod_writeChunk_61 post rec16 (wl_Mod_writeChunk_61 post rec16 n)
set_option maxHeartbeats 4000000 in
set_option maxRecDepth 100000 in
theorem tl_Mod_writeChunk_61 {p : Program} {l : Launch} {e : Env} {R : Room} {s : State} {m : MethodId} {args : Array Value} {below : List Frame} {meth : Method} {c : Code} {cells slots : Nat} {Q : State → Prop} {dC : Nat → ClassId} {dI : Nat → Nat → Nat} {cI cB cJ cZ : ClassId} {A : Nat → Prop} {ad : Nat → Nat} {post : Int32 → St → Prop} {rec16 : Int32 → Int32 → Int32 → Int32 → Int32 → Int32 → Int32 → St → Prop} (hx : p.tables.exec = Jvm.exec) (hb : c.code = b_Mod_writeChunk) (hml : c.maxLocals = 11) (hown : s.vm.findClass R_Mod = some m.cls) (hT : ∀ w ∈ TG, w.before args s = true) (hK : va_K (dC, dI) CL (TY cI cB cJ cZ) s) (hN : NW s) (hA : ∀ q : Nat, s.heap.size ≤ q → A q) (hRc : cells ≤ R.cells) (hRs : slots ≤ R.slots) (hRf : 7 ≤ R.frames) (hRl : 163 ≤ R.locals) (hret : ∀ (r : Int32) (x : St) (H : Heap) (locs : List Loc) (pc : Nat) (ls : Array Slot), decode b_Mod_writeChunk pc = .ok (.ireturn, 1) → narrow .boolean (.int r) = .int r → post r x → Wd dC dI cI cB cJ cZ ad stM kcM 115 A x H → va_S A s.heap H locs → W p l e R s m args below meth c H locs cells slots Q (F0 m pc ls [.int r])) (hrec16 : ∀ (l1 : Int32) (l2 : Int32) (l3 : Int32) (l4 : Int32) (l5 : Int32) (l6 : Int32) (l7 : Int32) (x : St) (H : Heap) (locs : List Loc) (ls : Array Slot), rec16 l1 l2 l3 l4 l5 l6 l7 x → Wd dC dI cI cB cJ cZ ad stM kcM 115 A x H → va_S A s.heap H locs → lv_has ls 11 [(0, .ref (ad 0)), (1, .int l1), (2, .int l2), (3, .int l3), (4, .int l4), (5, .int l5), (6, .int l6), (7, .int l7)] → W p l e R s m args below meth c H locs cells slots Q (F0 m 16 ls [])) : ∀ n : Nat, ∀ (l1 : Int32) (l2 : Int32) (l3 : Int32) (l4 : Int32) (l5 : Int32) (l6 : Int32) (l7 : Int32) (l8 : Int32) (l9 : Int32) (l10 : Int32) (x : St) (H : Heap) (locs : List Loc) (ls : Array Slot), wl_Mod_writeChunk_61 post rec16 n l1 l2 l3 l4 l5 l6 l7 l8 l9 l10 x → Wd dC dI cI cB cJ cZ ad stM kcM 115 A x H → va_S A s.heap H locs → lv_has ls 11 [(0, .ref (ad 0)), (1, .int l1), (2, .int l2), (3, .int l3), (4, .int l4), (5, .int l5), (6, .int l6), (7, .int l7), (8, .int l8), (9, .int l9), (10, .int l10)] → W p l e R s m args below meth c H locs cells slots Q (F0 m 61 ls []) := by
  intro n
  induction n with
  | zero => intro l1 l2 l3 l4 l5 l6 l7 l8 l9 l10 x H locs ls  hw; exact hw.elim
  | succ n ih => intro l1 l2 l3 l4 l5 l6 l7 l8 l9 l10 x H locs ls  hw hW hS hl; exact t_Mod_writeChunk_61 hx hb hml hown hT hK hN hA hRc hRs hRf hRl hret hrec16 ih l1 l2 l3 l4 l5 l6 l7 l8 l9 l10 x H locs ls  hw hW hS hl
set_option maxRecDepth 100000 in
def j_Mod_writeChunk_16 (post : Int32 → St → Prop) (rec16 : Int32 → Int32 → Int32 → Int32 → Int32 → Int32 → Int32 → St → Prop) (l1 : Int32) (l2 : Int32) (l3 : Int32) (l4 : Int32) (l5 : Int32) (l6 : Int32) (l7 : Int32) (x : St) : Prop := ((l4 ≤ l7 → (vp_in l1 (fN x 50) ∧ ∀ x793 : St, x793 = setA x 50 l1 ((fI x 0 66) - l6) → post 1 x793)) ∧ (¬ l4 ≤ l7 → (∀ v794 : Int32, v794 = (l7 + 1) → wp_Mod_many (fun (r796 : Int32) (x795 : St) => wp_Mod_textsOf (fun (r798 : Int32) (x797 : St) => ((r796 ≤ 1000 → ∃ n : Nat, wl_Mod_writeChunk_61 post rec16 n l1 l2 l3 l4 l5 l6 l7 v794 r796 r798 x797) ∧ (¬ r796 ≤ 1000 → post 0 x797))) l2 l7 v794 x795) l2 l7 v794 x)))
set_option maxHeartbeats 4000000 in
set_option maxRecDepth 100000 in
theorem t_Mod_writeChunk_16 {p : Program} {l : Launch} {e : Env} {R : Room} {s : State} {m : MethodId} {args : Array Value} {below : List Frame} {meth : Method} {c : Code} {cells slots : Nat} {Q : State → Prop} {dC : Nat → ClassId} {dI : Nat → Nat → Nat} {cI cB cJ cZ : ClassId} {A : Nat → Prop} {ad : Nat → Nat} {post : Int32 → St → Prop} {rec16 : Int32 → Int32 → Int32 → Int32 → Int32 → Int32 → Int32 → St → Prop} (hx : p.tables.exec = Jvm.exec) (hb : c.code = b_Mod_writeChunk) (hml : c.maxLocals = 11) (hown : s.vm.findClass R_Mod = some m.cls) (hT : ∀ w ∈ TG, w.before args s = true) (hK : va_K (dC, dI) CL (TY cI cB cJ cZ) s) (hN : NW s) (hA : ∀ q : Nat, s.heap.size ≤ q → A q) (hRc : cells ≤ R.cells) (hRs : slots ≤ R.slots) (hRf : 7 ≤ R.frames) (hRl : 163 ≤ R.locals) (hret : ∀ (r : Int32) (x : St) (H : Heap) (locs : List Loc) (pc : Nat) (ls : Array Slot), decode b_Mod_writeChunk pc = .ok (.ireturn, 1) → narrow .boolean (.int r) = .int r → post r x → Wd dC dI cI cB cJ cZ ad stM kcM 115 A x H → va_S A s.heap H locs → W p l e R s m args below meth c H locs cells slots Q (F0 m pc ls [.int r])) (hrec16 : ∀ (l1 : Int32) (l2 : Int32) (l3 : Int32) (l4 : Int32) (l5 : Int32) (l6 : Int32) (l7 : Int32) (x : St) (H : Heap) (locs : List Loc) (ls : Array Slot), rec16 l1 l2 l3 l4 l5 l6 l7 x → Wd dC dI cI cB cJ cZ ad stM kcM 115 A x H → va_S A s.heap H locs → lv_has ls 11 [(0, .ref (ad 0)), (1, .int l1), (2, .int l2), (3, .int l3), (4, .int l4), (5, .int l5), (6, .int l6), (7, .int l7)] → W p l e R s m args below meth c H locs cells slots Q (F0 m 16 ls [])) : ∀ (l1 : Int32) (l2 : Int32) (l3 : Int32) (l4 : Int32) (l5 : Int32) (l6 : Int32) (l7 : Int32) (x : St) (H : Heap) (locs : List Loc) (ls : Array Slot), j_Mod_writeChunk_16 post rec16 l1 l2 l3 l4 l5 l6 l7 x → Wd dC dI cI cB cJ cZ ad stM kcM 115 A x H → va_S A s.heap H locs → lv_has ls 11 [(0, .ref (ad 0)), (1, .int l1), (2, .int l2), (3, .int l3), (4, .int l4), (5, .int l5), (6, .int l6), (7, .int l7)] → W p l e R s m args below meth c H locs cells slots Q (F0 m 16 ls []) := by
  intro l1 l2 l3 l4 l5 l6 l7 x H locs ls  hw hW hS hl
  unfold j_Mod_writeChunk_16 at hw
  refine lv_iload hx hb d_Mod_writeChunk_16 (lv_at hl 7 rfl) ?_
  refine lv_iload hx hb d_Mod_writeChunk_18 (lv_at hl 4 rfl) ?_
  refine lv_icmp_ge (tgt := 158) hx hb d_Mod_writeChunk_20 (by decide) (fun c792 => ?_) (fun c792 => ?_)
  · have hw := hw.1 c792
    refine lv_aload_n hx hb d_Mod_writeChunk_158 rfl (lv_at hl 0 rfl) ?_
    refine w_getf (q := 50) (k := 78) (t := 12) (C := R_Mod) (T := F_Mod) (N := 167) hx hb hT hown hK hW ko_0.1 ko_0.2 (by decide) in_Mod rfl rfl (by decide) rfl fr_Mod_78 w_9_18 d_Mod_writeChunk_159 rfl ?_
    refine lv_iload_n hx hb d_Mod_writeChunk_162 rfl (lv_at hl 1 rfl) ?_
    refine lv_aload_n hx hb d_Mod_writeChunk_163 rfl (lv_at hl 0 rfl) ?_
    refine w_geti (k := 66) (t := 12) (C := R_Mod) (T := F_Mod) (N := 167) hx hb hT hown hK hW ko_0.1 ko_0.2 (by decide) in_Mod rfl rfl (by decide) rfl fr_Mod_66 w_9_6 d_Mod_writeChunk_164 ?_
    refine lv_iload hx hb d_Mod_writeChunk_167 (lv_at hl 6 rfl) ?_
    refine lv_isub hx hb d_Mod_writeChunk_169 ?_
    obtain ⟨hi, hw⟩ := hw
    refine w_iast (o := 50) hx hb hK hW hS ko_50.1 ko_50.2 hi d_Mod_writeChunk_170 (fun H locs hW hS => ?_)
    obtain ⟨x793, ex793⟩ : ∃ y : St, y = setA x 50 l1 ((fI x 0 66) - l6) := ⟨_, rfl⟩
    rw [← ex793] at hW
    have hw := hw x793 ex793
    refine lv_iconst (v := 1) hx hb d_Mod_writeChunk_171 (by decide) ?_
    exact hret 1 x793 H locs 172 ls d_Mod_writeChunk_172 rfl hw hW hS
  · have hw := hw.2 c792
    refine lv_iload hx hb d_Mod_writeChunk_23 (lv_at hl 7 rfl) ?_
    refine lv_iconst (v := 1) hx hb d_Mod_writeChunk_25 (by decide) ?_
    refine lv_iadd hx hb d_Mod_writeChunk_26 ?_
    refine lv_topi (fun v794 ev794 => ?_)
    have hw := hw v794 ev794
    refine lv_istore (lv' := [(8, .int v794), (0, .ref (ad 0)), (1, .int l1), (2, .int l2), (3, .int l3), (4, .int l4), (5, .int l5), (6, .int l6), (7, .int l7)]) hx hb d_Mod_writeChunk_27 hl (by decide) rfl (fun ls hl => ?_)
    refine lv_aload_n hx hb d_Mod_writeChunk_29 rfl (lv_at hl 1 rfl) ?_
    refine lv_iload_n hx hb d_Mod_writeChunk_30 rfl (lv_at hl 3 rfl) ?_
    refine lv_iload hx hb d_Mod_writeChunk_31 (lv_at hl 8 rfl) ?_
    refine lv_iload hx hb d_Mod_writeChunk_33 (lv_at hl 0 rfl) ?_
    have hF := hW.free hS hA
    refine va_calli (va_runV (C := R_Mod) (As := [.int l2, .int l7, .int v794]) (rest := []) ⟨hx, hb, hml, hown, hT⟩ (k_Mod_many l dC dI cI cB cJ cZ ad H.size l2 l7 v794 x  hw) ⟨callB_of 3 hT (gw_in w_11_150) rfl rfl rfl (hT _ w_1_15) (hT _ w_11_147) (by decide +kernel) ⟨Nat.le_trans (by decide) hRf, Nat.le_trans (by decide) hRl⟩, hT _ w_11_149, hT _ ws_142⟩ ⟨PW.blind, va_recv hK hW.1 (ci := 12) (q0 := 0) rfl (pic_obj ko_0.1 ko_0.2 (by decide)), PW.at _ hW hK hN⟩ rfl rfl hl.1 rfl (lv_room (Nat.le_of_ble_eq_true rfl)) d_Mod_writeChunk_35 ⟨hRc, hRs⟩) hS (fun q _ h => hF q h) hF (fun r796 x795 t H locs ht hvm hw hB hz1 hk1 hS => ?_)
    have hW := Wd.back hB ht hF
    clear hB ht hF hz1 hk1 hvm
    refine lv_istore (lv' := [(9, .int r796), (8, .int v794), (0, .ref (ad 0)), (1, .int l1), (2, .int l2), (3, .int l3), (4, .int l4), (5, .int l5), (6, .int l6), (7, .int l7)]) hx hb d_Mod_writeChunk_38 hl (by decide) rfl (fun ls hl => ?_)
    refine lv_aload_n hx hb d_Mod_writeChunk_40 rfl (lv_at hl 2 rfl) ?_
    refine lv_iload_n hx hb d_Mod_writeChunk_41 rfl (lv_at hl 4 rfl) ?_
    refine lv_iload hx hb d_Mod_writeChunk_42 (lv_at hl 9 rfl) ?_
    refine lv_iload hx hb d_Mod_writeChunk_44 (lv_at hl 1 rfl) ?_
    have hF := hW.free hS hA
    refine va_calli (va_runV (C := R_Mod) (As := [.int l2, .int l7, .int v794]) (rest := []) ⟨hx, hb, hml, hown, hT⟩ (k_Mod_textsOf l dC dI cI cB cJ cZ ad H.size l2 l7 v794 x795  hw) ⟨callB_of 3 hT (gw_in w_11_154) rfl rfl rfl (hT _ w_1_15) (hT _ w_11_151) (by decide +kernel) ⟨Nat.le_trans (by decide) hRf, Nat.le_trans (by decide) hRl⟩, hT _ w_11_153, hT _ ws_143⟩ ⟨PW.blind, va_recv hK hW.1 (ci := 12) (q0 := 0) rfl (pic_obj ko_0.1 ko_0.2 (by decide)), PW.at _ hW hK hN⟩ rfl rfl hl.1 rfl (lv_room (Nat.le_of_ble_eq_true rfl)) d_Mod_writeChunk_46 ⟨hRc, hRs⟩) hS (fun q _ h => hF q h) hF (fun r798 x797 t H locs ht hvm hw hB hz1 hk1 hS => ?_)
    have hW := Wd.back hB ht hF
    clear hB ht hF hz1 hk1 hvm
    refine lv_istore (lv' := [(10, .int r798), (9, .int r796), (8, .int v794), (0, .ref (ad 0)), (1, .int l1), (2, .int l2), (3, .int l3), (4, .int l4), (5, .int l5), (6, .int l6), (7, .int l7)]) hx hb d_Mod_writeChunk_49 hl (by decide) rfl (fun ls hl => ?_)
    refine lv_iload hx hb d_Mod_writeChunk_51 (lv_at hl 1 rfl) ?_
    refine lv_sipush (v := 1000) hx hb d_Mod_writeChunk_53 (by decide) ?_
    refine lv_icmp_le (tgt := 61) hx hb d_Mod_writeChunk_56 (by decide) (fun c799 => ?_) (fun c799 => ?_)
    · have hw := hw.1 c799
      obtain ⟨n, hw⟩ := hw
      exact tl_Mod_writeChunk_61 hx hb hml hown hT hK hN hA hRc hRs hRf hRl hret hrec16 n l1 l2 l3 l4 l5 l6 l7 v794 r796 r798 x797 H locs ls  hw hW hS (lv_sub hl [3, 4, 5, 6, 7, 8, 9, 10, 2, 1, 0] rfl)
    · have hw := hw.2 c799
      refine lv_iconst (v := 0) hx hb d_Mod_writeChunk_59 (by decide) ?_
      exact hret 0 x797 H locs 60 ls d_Mod_writeChunk_60 rfl hw hW hS
def wl_Mod_writeChunk_16 (post : Int32 → St → Prop) : Nat → Int32 → Int32 → Int32 → Int32 → Int32 → Int32 → Int32 → St → Prop
  | 0 => fun _ _ _ _ _ _ _ _ => False
  | n + 1 => j_Mod_writeChunk_16 post (wl_Mod_writeChunk_16 post n)
set_option maxHeartbeats 4000000 in
set_option maxRecDepth 100000 in
theorem tl_Mod_writeChunk_16 {p : Program} {l : Launch} {e : Env} {R : Room} {s : State} {m : MethodId} {args : Array Value} {below : List Frame} {meth : Method} {c : Code} {cells slots : Nat} {Q : State → Prop} {dC : Nat → ClassId} {dI : Nat → Nat → Nat} {cI cB cJ cZ : ClassId} {A : Nat → Prop} {ad : Nat → Nat} {post : Int32 → St → Prop} (hx : p.tables.exec = Jvm.exec) (hb : c.code = b_Mod_writeChunk) (hml : c.maxLocals = 11) (hown : s.vm.findClass R_Mod = some m.cls) (hT : ∀ w ∈ TG, w.before args s = true) (hK : va_K (dC, dI) CL (TY cI cB cJ cZ) s) (hN : NW s) (hA : ∀ q : Nat, s.heap.size ≤ q → A q) (hRc : cells ≤ R.cells) (hRs : slots ≤ R.slots) (hRf : 7 ≤ R.frames) (hRl : 163 ≤ R.locals) (hret : ∀ (r : Int32) (x : St) (H : Heap) (locs : List Loc) (pc : Nat) (ls : Array Slot), decode b_Mod_writeChunk pc = .ok (.ireturn, 1) → narrow .boolean (.int r) = .int r → post r x → Wd dC dI cI cB cJ cZ ad stM kcM 115 A x H → va_S A s.heap H locs → W p l e R s m args below meth c H locs cells slots Q (F0 m pc ls [.int r]))  : ∀ n : Nat, ∀ (l1 : Int32) (l2 : Int32) (l3 : Int32) (l4 : Int32) (l5 : Int32) (l6 : Int32) (l7 : Int32) (x : St) (H : Heap) (locs : List Loc) (ls : Array Slot), wl_Mod_writeChunk_16 post n l1 l2 l3 l4 l5 l6 l7 x → Wd dC dI cI cB cJ cZ ad stM kcM 115 A x H → va_S A s.heap H locs → lv_has ls 11 [(0, .ref (ad 0)), (1, .int l1), (2, .int l2), (3, .int l3), (4, .int l4), (5, .int l5), (6, .int l6), (7, .int l7)] → W p l e R s m args below meth c H locs cells slots Q (F0 m 16 ls []) := by
  intro n
  induction n with
  | zero => intro l1 l2 l3 l4 l5 l6 l7 x H locs ls  hw; exact hw.elim
  | succ n ih => intro l1 l2 l3 l4 l5 l6 l7 x H locs ls  hw hW hS hl; exact t_Mod_writeChunk_16 hx hb hml hown hT hK hN hA hRc hRs hRf hRl hret  ih l1 l2 l3 l4 l5 l6 l7 x H locs ls  hw hW hS hl
set_option maxRecDepth 100000 in
def wp_Mod_writeChunk (post : Int32 → St → Prop) (l1 : Int32) (l2 : Int32) (l3 : Int32) (l4 : Int32) (l5 : Int32) (x : St) : Prop := (∀ v800 : Int32, v800 = (fI x 0 66) → (vp_in l1 (fN x 51) ∧ ∀ x801 : St, x801 = setA x 51 l1 0 → ∃ n : Nat, wl_Mod_writeChunk_16 post n l1 l2 l3 l4 l5 v800 l3 x801))
set_option maxHeartbeats 4000000 in
set_option maxRecDepth 100000 in
theorem t_Mod_writeChunk_e {p : Program} {l : Launch} {e : Env} {R : Room} {s : State} {m : MethodId} {args : Array Value} {below : List Frame} {meth : Method} {c : Code} {cells slots : Nat} {Q : State → Prop} {dC : Nat → ClassId} {dI : Nat → Nat → Nat} {cI cB cJ cZ : ClassId} {A : Nat → Prop} {ad : Nat → Nat} {post : Int32 → St → Prop} (hx : p.tables.exec = Jvm.exec) (hb : c.code = b_Mod_writeChunk) (hml : c.maxLocals = 11) (hown : s.vm.findClass R_Mod = some m.cls) (hT : ∀ w ∈ TG, w.before args s = true) (hK : va_K (dC, dI) CL (TY cI cB cJ cZ) s) (hN : NW s) (hA : ∀ q : Nat, s.heap.size ≤ q → A q) (hRc : cells ≤ R.cells) (hRs : slots ≤ R.slots) (hRf : 7 ≤ R.frames) (hRl : 163 ≤ R.locals) (hret : ∀ (r : Int32) (x : St) (H : Heap) (locs : List Loc) (pc : Nat) (ls : Array Slot), decode b_Mod_writeChunk pc = .ok (.ireturn, 1) → narrow .boolean (.int r) = .int r → post r x → Wd dC dI cI cB cJ cZ ad stM kcM 115 A x H → va_S A s.heap H locs → W p l e R s m args below meth c H locs cells slots Q (F0 m pc ls [.int r])) : ∀ (l1 : Int32) (l2 : Int32) (l3 : Int32) (l4 : Int32) (l5 : Int32) (x : St) (H : Heap) (locs : List Loc) (ls : Array Slot), wp_Mod_writeChunk post l1 l2 l3 l4 l5 x → Wd dC dI cI cB cJ cZ ad stM kcM 115 A x H → va_S A s.heap H locs → lv_has ls 11 [(0, .ref (ad 0)), (1, .int l1), (2, .int l2), (3, .int l3), (4, .int l4), (5, .int l5)] → W p l e R s m args below meth c H locs cells slots Q (F0 m 0 ls []) := by
  intro l1 l2 l3 l4 l5 x H locs ls  hw hW hS hl
  unfold wp_Mod_writeChunk at hw
  refine lv_aload_n hx hb d_Mod_writeChunk_0 rfl (lv_at hl 0 rfl) ?_
  refine w_geti (k := 66) (t := 12) (C := R_Mod) (T := F_Mod) (N := 167) hx hb hT hown hK hW ko_0.1 ko_0.2 (by decide) in_Mod rfl rfl (by decide) rfl fr_Mod_66 w_9_6 d_Mod_writeChunk_1 ?_
  refine lv_topi (fun v800 ev800 => ?_)
  have hw := hw v800 ev800
  refine lv_istore (lv' := [(6, .int v800), (0, .ref (ad 0)), (1, .int l1), (2, .int l2), (3, .int l3), (4, .int l4), (5, .int l5)]) hx hb d_Mod_writeChunk_4 hl (by decide) rfl (fun ls hl => ?_)
  refine lv_aload_n hx hb d_Mod_writeChunk_6 rfl (lv_at hl 1 rfl) ?_
  refine w_getf (q := 51) (k := 79) (t := 12) (C := R_Mod) (T := F_Mod) (N := 167) hx hb hT hown hK hW ko_0.1 ko_0.2 (by decide) in_Mod rfl rfl (by decide) rfl fr_Mod_79 w_9_19 d_Mod_writeChunk_7 rfl ?_
  refine lv_iload_n hx hb d_Mod_writeChunk_10 rfl (lv_at hl 2 rfl) ?_
  refine lv_iconst (v := 0) hx hb d_Mod_writeChunk_11 (by decide) ?_
  obtain ⟨hi, hw⟩ := hw
  refine w_iast (o := 51) hx hb hK hW hS ko_51.1 ko_51.2 hi d_Mod_writeChunk_12 (fun H locs hW hS => ?_)
  obtain ⟨x801, ex801⟩ : ∃ y : St, y = setA x 51 l1 0 := ⟨_, rfl⟩
  rw [← ex801] at hW
  have hw := hw x801 ex801
  refine lv_iload_n hx hb d_Mod_writeChunk_13 rfl (lv_at hl 4 rfl) ?_
  refine lv_istore (lv' := [(7, .int l3), (6, .int v800), (0, .ref (ad 0)), (1, .int l1), (2, .int l2), (3, .int l3), (4, .int l4), (5, .int l5)]) hx hb d_Mod_writeChunk_14 hl (by decide) rfl (fun ls hl => ?_)
  obtain ⟨n, hw⟩ := hw
  exact tl_Mod_writeChunk_16 hx hb hml hown hT hK hN hA hRc hRs hRf hRl hret  n l1 l2 l3 l4 l5 v800 l3 x801 H locs ls  hw hW hS (lv_sub hl [2, 3, 4, 5, 6, 7, 1, 0] rfl)
set_option maxHeartbeats 4000000 in
set_option maxRecDepth 100000 in
theorem k_Mod_writeChunk (l : Launch) (dC : Nat → ClassId) (dI : Nat → Nat → Nat) (cI cB cJ cZ : ClassId) (ad : Nat → Nat) (sz : Nat) (l1 : Int32) (l2 : Int32) (l3 : Int32) (l4 : Int32) (l5 : Int32) (x : St) {post : Int32 → St → Prop} (hw : wp_Mod_writeChunk post l1 l2 l3 l4 l5 x) : Met l y_Mod_writeChunk (wsOf y_Mod_writeChunk b_Mod_writeChunk 11 (some (.boolean))) ({ frames := 7, cells := 0, slots := 0, locals := 163 }) (va_Pc [.ref (ad 0), .int l1, .int l2, .int l3, .int l4, .int l5] (PW dC dI cI cB cJ cZ ad stM kcM 115 sz x)) (va_Qi (fun (r : Int32) (y : St) => post r y) (fun y t => Wd dC dI cI cB cJ cZ ad stM kcM 115 (va_A (pic ad stM kcM 115 cI cB cJ cZ x) sz) y t.heap) (va_A (pic ad stM kcM 115 cI cB cJ cZ x) sz)) 0 0 (va_A (pic ad stM kcM 115 cI cB cJ cZ x) sz) := by
  refine Met.ofW (cc := b_Mod_writeChunk) (maxL := 11) (ret := some (.boolean)) (by decide) rfl ?_
  intro p e s m args below meth c s₁ B hml hv
  obtain ⟨rfl, hsz, hW0, hK, hN⟩ := hv
  have hx := B.exec
  have hb := B.bytes
  have hr := B.returns
  have hts := atoms_spec B.pre
  have hT : ∀ w ∈ TG, w.before _ s = true := fun w h => hts w (List.mem_cons_of_mem _ h)
  have hown : s.vm.findClass R_Mod = some m.cls := findClass_of_methodNamed B.named
  have hlocks := B.notSynchronized
  subst hsz
  have hW : Wd dC dI cI cB cJ cZ ad stM kcM 115 (va_A (pic ad stM kcM 115 cI cB cJ cZ x) s.heap.size) x s.heap := ⟨hW0.1, hW0.2.1.self (sz := s.heap.size), hW0.2.2⟩
  generalize hAe : va_A (pic ad stM kcM 115 cI cB cJ cZ x) s.heap.size = A at hW ⊢
  have hA : ∀ q : Nat, s.heap.size ≤ q → A q := fun q h => by rw [← hAe]; exact Or.inr h
  have hS : va_S A s.heap s.heap [] := va_S.rf
  have hl := lv_entry ([.ref (ad 0), .int l1, .int l2, .int l3, .int l4, .int l5]) (n := 11) (Nat.le_of_ble_eq_true rfl)
  rw [lg_entry_eq]
  generalize (lg_sl ([.ref (ad 0), .int l1, .int l2, .int l3, .int l4, .int l5]) ++ List.replicate (11 - (lg_sl ([.ref (ad 0), .int l1, .int l2, .int l3, .int l4, .int l5])).length) Slot.unset).toArray = ls at hl ⊢
  have hl : lv_has ls 11 [(0, .ref (ad 0)), (1, .int l1), (2, .int l2), (3, .int l3), (4, .int l4), (5, .int l5)] := hl
  exact t_Mod_writeChunk_e hx hb hml hown hT hK hN hA (Nat.le_refl 0) (Nat.le_refl 0) (Nat.le_refl 7) (Nat.le_refl 163) (fun r x H locs pc ls hd hz hp hW hS => W.zret (v := r) (ty := .boolean) hx hb hr hz (fun t ht hM => ⟨⟨r, x, rfl, hp, Wd.back hW ht.symm (fun _ z => z)⟩, hS.F ht⟩) hS.2.2 hd hlocks)  l1 l2 l3 l4 l5 x _ _ ls  hw hW hS hl
set_option maxRecDepth 100000 in
def wp_Mod_has (post : Int32 → St → Prop) (l1 : Int32) (x : St) : Prop := (vp_in l1 (fN x 19) ∧ (vp_in l1 (fN x 20) ∧ wp_Mod_mostD (fun (r803 : Int32) (x802 : St) => ((¬ (rA x 19 l1) = r803 → post 0 x802) ∧ ((rA x 19 l1) = r803 → post 1 x802))) 0 (rA x 20 l1) x))
set_option maxHeartbeats 4000000 in
set_option maxRecDepth 100000 in
theorem t_Mod_has_e {p : Program} {l : Launch} {e : Env} {R : Room} {s : State} {m : MethodId} {args : Array Value} {below : List Frame} {meth : Method} {c : Code} {cells slots : Nat} {Q : State → Prop} {dC : Nat → ClassId} {dI : Nat → Nat → Nat} {cI cB cJ cZ : ClassId} {A : Nat → Prop} {ad : Nat → Nat} {post : Int32 → St → Prop} (hx : p.tables.exec = Jvm.exec) (hb : c.code = b_Mod_has) (hml : c.maxLocals = 2) (hown : s.vm.findClass R_Mod = some m.cls) (hT : ∀ w ∈ TG, w.before args s = true) (hK : va_K (dC, dI) CL (TY cI cB cJ cZ) s) (hN : NW s) (hA : ∀ q : Nat, s.heap.size ≤ q → A q) (hRc : cells ≤ R.cells) (hRs : slots ≤ R.slots) (hRf : 3 ≤ R.frames) (hRl : 69 ≤ R.locals) (hret : ∀ (r : Int32) (x : St) (H : Heap) (locs : List Loc) (pc : Nat) (ls : Array Slot), decode b_Mod_has pc = .ok (.ireturn, 1) → narrow .boolean (.int r) = .int r → post r x → Wd dC dI cI cB cJ cZ ad stM kcM 115 A x H → va_S A s.heap H locs → W p l e R s m args below meth c H locs cells slots Q (F0 m pc ls [.int r])) : ∀ (l1 : Int32) (x : St) (H : Heap) (locs : List Loc) (ls : Array Slot), wp_Mod_has post l1 x → Wd dC dI cI cB cJ cZ ad stM kcM 115 A x H → va_S A s.heap H locs → lv_has ls 2 [(0, .ref (ad 0)), (1, .int l1)] → W p l e R s m args below meth c H locs cells slots Q (F0 m 0 ls []) := by
  intro l1 x H locs ls  hw hW hS hl
  unfold wp_Mod_has at hw
  refine lv_aload_n hx hb d_Mod_has_0 rfl (lv_at hl 0 rfl) ?_
  refine w_getf (q := 19) (k := 27) (t := 12) (C := R_Mod) (T := F_Mod) (N := 167) hx hb hT hown hK hW ko_0.1 ko_0.2 (by decide) in_Mod rfl rfl (by decide) rfl fr_Mod_27 w_8_207 d_Mod_has_1 rfl ?_
  refine lv_iload_n hx hb d_Mod_has_4 rfl (lv_at hl 1 rfl) ?_
  obtain ⟨hi, hw⟩ := hw
  refine w_iald (o := 19) hx hb hK hW ko_19.1 ko_19.2 hi d_Mod_has_5 ?_
  refine lv_aload_n hx hb d_Mod_has_6 rfl (lv_at hl 0 rfl) ?_
  refine lv_iconst (v := 0) hx hb d_Mod_has_7 (by decide) ?_
  refine lv_aload_n hx hb d_Mod_has_8 rfl (lv_at hl 0 rfl) ?_
  refine w_getf (q := 20) (k := 28) (t := 12) (C := R_Mod) (T := F_Mod) (N := 167) hx hb hT hown hK hW ko_0.1 ko_0.2 (by decide) in_Mod rfl rfl (by decide) rfl fr_Mod_28 w_8_208 d_Mod_has_9 rfl ?_
  refine lv_iload_n hx hb d_Mod_has_12 rfl (lv_at hl 1 rfl) ?_
  obtain ⟨hi, hw⟩ := hw
  refine w_iald (o := 20) hx hb hK hW ko_20.1 ko_20.2 hi d_Mod_has_13 ?_
  have hF := hW.free hS hA
  refine va_calli (va_runV (C := R_Mod) (As := [.int 0, .int (rA x 20 l1)]) (rest := [.int (rA x 19 l1)]) ⟨hx, hb, hml, hown, hT⟩ (k_Mod_mostD l dC dI cI cB cJ cZ ad H.size 0 (rA x 20 l1) x  hw) ⟨callB_of 2 hT (gw_in w_11_170) rfl rfl rfl (hT _ w_1_15) (hT _ w_11_167) (by decide +kernel) ⟨Nat.le_trans (by decide) hRf, Nat.le_trans (by decide) hRl⟩, hT _ w_11_169, hT _ ws_147⟩ ⟨PW.blind, va_recv hK hW.1 (ci := 12) (q0 := 0) rfl (pic_obj ko_0.1 ko_0.2 (by decide)), PW.at _ hW hK hN⟩ rfl rfl hl.1 rfl (lv_room (Nat.le_of_ble_eq_true rfl)) d_Mod_has_14 ⟨hRc, hRs⟩) hS (fun q _ h => hF q h) hF (fun r803 x802 t H locs ht hvm hw hB hz1 hk1 hS => ?_)
  have hW := Wd.back hB ht hF
  clear hB ht hF hz1 hk1 hvm
  refine lv_icmp_ne (tgt := 24) hx hb d_Mod_has_17 (by decide) (fun c804 => ?_) (fun c804 => ?_)
  · have hw := hw.1 c804
    refine lv_iconst (v := 0) hx hb d_Mod_has_24 (by decide) ?_
    exact hret 0 x802 H locs 25 ls d_Mod_has_25 rfl hw hW hS
  · have hw := hw.2 c804
    refine lv_iconst (v := 1) hx hb d_Mod_has_20 (by decide) ?_
    refine lv_goto (tgt := 25) hx hb d_Mod_has_21 (by decide) ?_
    exact hret 1 x802 H locs 25 ls d_Mod_has_25 rfl hw hW hS
set_option maxHeartbeats 4000000 in
set_option maxRecDepth 100000 in
theorem k_Mod_has (l : Launch) (dC : Nat → ClassId) (dI : Nat → Nat → Nat) (cI cB cJ cZ : ClassId) (ad : Nat → Nat) (sz : Nat) (l1 : Int32) (x : St) {post : Int32 → St → Prop} (hw : wp_Mod_has post l1 x) : Met l y_Mod_has (wsOf y_Mod_has b_Mod_has 2 (some (.boolean))) ({ frames := 3, cells := 0, slots := 0, locals := 69 }) (va_Pc [.ref (ad 0), .int l1] (PW dC dI cI cB cJ cZ ad stM kcM 115 sz x)) (va_Qi (fun (r : Int32) (y : St) => post r y) (fun y t => Wd dC dI cI cB cJ cZ ad stM kcM 115 (va_A (pic ad stM kcM 115 cI cB cJ cZ x) sz) y t.heap) (va_A (pic ad stM kcM 115 cI cB cJ cZ x) sz)) 0 0 (va_A (pic ad stM kcM 115 cI cB cJ cZ x) sz) := by
  refine Met.ofW (cc := b_Mod_has) (maxL := 2) (ret := some (.boolean)) (by decide) rfl ?_
  intro p e s m args below meth c s₁ B hml hv
  obtain ⟨rfl, hsz, hW0, hK, hN⟩ := hv
  have hx := B.exec
  have hb := B.bytes
  have hr := B.returns
  have hts := atoms_spec B.pre
  have hT : ∀ w ∈ TG, w.before _ s = true := fun w h => hts w (List.mem_cons_of_mem _ h)
  have hown : s.vm.findClass R_Mod = some m.cls := findClass_of_methodNamed B.named
  have hlocks := B.notSynchronized
  subst hsz
  have hW : Wd dC dI cI cB cJ cZ ad stM kcM 115 (va_A (pic ad stM kcM 115 cI cB cJ cZ x) s.heap.size) x s.heap := ⟨hW0.1, hW0.2.1.self (sz := s.heap.size), hW0.2.2⟩
  generalize hAe : va_A (pic ad stM kcM 115 cI cB cJ cZ x) s.heap.size = A at hW ⊢
  have hA : ∀ q : Nat, s.heap.size ≤ q → A q := fun q h => by rw [← hAe]; exact Or.inr h
  have hS : va_S A s.heap s.heap [] := va_S.rf
  have hl := lv_entry ([.ref (ad 0), .int l1]) (n := 2) (Nat.le_of_ble_eq_true rfl)
  rw [lg_entry_eq]
  generalize (lg_sl ([.ref (ad 0), .int l1]) ++ List.replicate (2 - (lg_sl ([.ref (ad 0), .int l1])).length) Slot.unset).toArray = ls at hl ⊢
  have hl : lv_has ls 2 [(0, .ref (ad 0)), (1, .int l1)] := hl
  exact t_Mod_has_e hx hb hml hown hT hK hN hA (Nat.le_refl 0) (Nat.le_refl 0) (Nat.le_refl 3) (Nat.le_refl 69) (fun r x H locs pc ls hd hz hp hW hS => W.zret (v := r) (ty := .boolean) hx hb hr hz (fun t ht hM => ⟨⟨r, x, rfl, hp, Wd.back hW ht.symm (fun _ z => z)⟩, hS.F ht⟩) hS.2.2 hd hlocks)  l1 x _ _ ls  hw hW hS hl
end
