theorem fr_Mod_38 : F_Mod 38 = (R_Mod, "pageType", "I", false) := rfl
theorem fr_Mod_39 : F_Mod 39 = (R_Mod, "pageR", "I", false) := rfl
theorem fr_Mod_40 : F_Mod 40 = (R_Mod, "pageD", "I", false) := rfl
theorem fr_Mod_41 : F_Mod 41 = (R_Mod, "pageEntries", "I", false) := rfl
theorem fr_Mod_42 : F_Mod 42 = (R_Mod, "values", "I", false) := rfl
theorem fr_Mod_45 : F_Mod 45 = (R_Mod, "repetitions", "[I", true) := rfl
theorem fr_Mod_46 : F_Mod 46 = (R_Mod, "definitions", "[I", true) := rfl
theorem fr_Mod_49 : F_Mod 49 = (R_Mod, "wholes", "[J", true) := rfl
theorem fr_Mod_52 : F_Mod 52 = (R_Mod, "textAt", "[I", true) := rfl
theorem fr_Mod_55 : F_Mod 55 = (R_Mod, "bytes", "[I", true) := rfl
theorem fr_Mod_63 : F_Mod 63 = (R_Mod, "work", "[I", true) := rfl
theorem fr_Mod_66 : F_Mod 66 = (R_Mod, "workSize", "I", false) := rfl
theorem w_11_139 : (Jvm.Cond.methodLink "StripedVaultModel" (783 : Nat) ({ cls := "StripedVaultModel", name := "addByte", desc := "(I)V" } : Jvm.MethodName)) ∈ TG := tw_11 139 (by decide +kernel) (by decide +kernel)
theorem w_11_141 : (Jvm.Cond.instanceMethod ({ cls := "StripedVaultModel", name := "addByte", desc := "(I)V" } : Jvm.MethodName)) ∈ TG := tw_11 141 (by decide +kernel) (by decide +kernel)
theorem w_11_142 : (Jvm.Cond.code ({ cls := "StripedVaultModel", name := "addByte", desc := "(I)V" } : Jvm.MethodName) prog_14_method_104_code (2 : Nat) (Option.none : Option Jvm.ClassFile.FieldType)) ∈ TG := tw_11 142 (by decide +kernel) (by decide +kernel)
theorem w_11_159 : (Jvm.Cond.methodLink "StripedVaultModel" (789 : Nat) ({ cls := "StripedVaultModel", name := "typeOf", desc := "(II)I" } : Jvm.MethodName)) ∈ TG := tw_11 159 (by decide +kernel) (by decide +kernel)
theorem w_11_161 : (Jvm.Cond.instanceMethod ({ cls := "StripedVaultModel", name := "typeOf", desc := "(II)I" } : Jvm.MethodName)) ∈ TG := tw_11 161 (by decide +kernel) (by decide +kernel)
theorem w_11_162 : (Jvm.Cond.code ({ cls := "StripedVaultModel", name := "typeOf", desc := "(II)I" } : Jvm.MethodName) prog_14_method_22_code (3 : Nat) (Option.some Jvm.ClassFile.FieldType.int)) ∈ TG := tw_11 162 (by decide +kernel) (by decide +kernel)
theorem w_11_163 : (Jvm.Cond.methodLink "StripedVaultModel" (792 : Nat) ({ cls := "StripedVaultModel", name := "mostR", desc := "(II)I" } : Jvm.MethodName)) ∈ TG := tw_11 163 (by decide +kernel) (by decide +kernel)
theorem w_11_165 : (Jvm.Cond.instanceMethod ({ cls := "StripedVaultModel", name := "mostR", desc := "(II)I" } : Jvm.MethodName)) ∈ TG := tw_11 165 (by decide +kernel) (by decide +kernel)
theorem w_11_166 : (Jvm.Cond.code ({ cls := "StripedVaultModel", name := "mostR", desc := "(II)I" } : Jvm.MethodName) prog_14_method_20_code (3 : Nat) (Option.some Jvm.ClassFile.FieldType.int)) ∈ TG := tw_11 166 (by decide +kernel) (by decide +kernel)
theorem w_11_167 : (Jvm.Cond.methodLink "StripedVaultModel" (786 : Nat) ({ cls := "StripedVaultModel", name := "mostD", desc := "(II)I" } : Jvm.MethodName)) ∈ TG := tw_11 167 (by decide +kernel) (by decide +kernel)
theorem w_11_169 : (Jvm.Cond.instanceMethod ({ cls := "StripedVaultModel", name := "mostD", desc := "(II)I" } : Jvm.MethodName)) ∈ TG := tw_11 169 (by decide +kernel) (by decide +kernel)
theorem w_11_170 : (Jvm.Cond.code ({ cls := "StripedVaultModel", name := "mostD", desc := "(II)I" } : Jvm.MethodName) prog_14_method_21_code (3 : Nat) (Option.some Jvm.ClassFile.FieldType.int)) ∈ TG := tw_11 170 (by decide +kernel) (by decide +kernel)
theorem w_8_218 : (Jvm.Cond.fieldLink "StripedVaultModel" (623 : Nat) "StripedVaultModel" "pageType" "I") ∈ TG := tw_8 218 (by decide +kernel) (by decide +kernel)
theorem w_8_219 : (Jvm.Cond.fieldLink "StripedVaultModel" (733 : Nat) "StripedVaultModel" "pageR" "I") ∈ TG := tw_8 219 (by decide +kernel) (by decide +kernel)
theorem w_8_220 : (Jvm.Cond.fieldLink "StripedVaultModel" (739 : Nat) "StripedVaultModel" "pageD" "I") ∈ TG := tw_8 220 (by decide +kernel) (by decide +kernel)
theorem w_8_221 : (Jvm.Cond.fieldLink "StripedVaultModel" (676 : Nat) "StripedVaultModel" "pageEntries" "I") ∈ TG := tw_8 221 (by decide +kernel) (by decide +kernel)
theorem w_8_222 : (Jvm.Cond.fieldLink "StripedVaultModel" (632 : Nat) "StripedVaultModel" "values" "I") ∈ TG := tw_8 222 (by decide +kernel) (by decide +kernel)
theorem w_8_225 : (Jvm.Cond.fieldLink "StripedVaultModel" (88 : Nat) "StripedVaultModel" "repetitions" "[I") ∈ TG := tw_8 225 (by decide +kernel) (by decide +kernel)
theorem w_8_226 : (Jvm.Cond.fieldLink "StripedVaultModel" (91 : Nat) "StripedVaultModel" "definitions" "[I") ∈ TG := tw_8 226 (by decide +kernel) (by decide +kernel)
theorem w_8_229 : (Jvm.Cond.fieldLink "StripedVaultModel" (100 : Nat) "StripedVaultModel" "wholes" "[J") ∈ TG := tw_8 229 (by decide +kernel) (by decide +kernel)
theorem w_8_232 : (Jvm.Cond.fieldLink "StripedVaultModel" (109 : Nat) "StripedVaultModel" "textAt" "[I") ∈ TG := tw_8 232 (by decide +kernel) (by decide +kernel)
theorem w_8_235 : (Jvm.Cond.fieldLink "StripedVaultModel" (118 : Nat) "StripedVaultModel" "bytes" "[I") ∈ TG := tw_8 235 (by decide +kernel) (by decide +kernel)
theorem w_9_3 : (Jvm.Cond.fieldLink "StripedVaultModel" (136 : Nat) "StripedVaultModel" "work" "[I") ∈ TG := tw_9 3 (by decide +kernel) (by decide +kernel)
theorem w_9_6 : (Jvm.Cond.fieldLink "StripedVaultModel" (780 : Nat) "StripedVaultModel" "workSize" "I") ∈ TG := tw_9 6 (by decide +kernel) (by decide +kernel)
theorem ws_140 : Cond.selects R_Mod y_Mod_addByte y_Mod_addByte ∈ TG := tw_s 140 (by decide +kernel) (by decide +kernel)
theorem ws_145 : Cond.selects R_Mod y_Mod_typeOf y_Mod_typeOf ∈ TG := tw_s 145 (by decide +kernel) (by decide +kernel)
theorem ws_146 : Cond.selects R_Mod y_Mod_mostR y_Mod_mostR ∈ TG := tw_s 146 (by decide +kernel) (by decide +kernel)
theorem ws_147 : Cond.selects R_Mod y_Mod_mostD y_Mod_mostD ∈ TG := tw_s 147 (by decide +kernel) (by decide +kernel)
theorem d_Mod_record_137 : decode b_Mod_record 137 = .ok (.iload_n 3, 1) := by decide +kernel
theorem d_Mod_record_138 : decode b_Mod_record 138 = .ok (.aload_n 0, 1) := by decide +kernel
theorem d_Mod_record_139 : decode b_Mod_record 139 = .ok (.getfield 38, 3) := by decide +kernel
theorem d_Mod_record_142 : decode b_Mod_record 142 = .ok (.iconst 0, 1) := by decide +kernel
theorem d_Mod_record_143 : decode b_Mod_record 143 = .ok (.iaload, 1) := by decide +kernel
theorem d_Mod_record_144 : decode b_Mod_record 144 = .ok (.if_icmp .ge 18, 3) := by decide +kernel
theorem d_Mod_record_162 : decode b_Mod_record 162 = .ok (.aload_n 0, 1) := by decide +kernel
theorem d_Mod_record_163 : decode b_Mod_record 163 = .ok (.getfield 532, 3) := by decide +kernel
theorem d_Mod_record_166 : decode b_Mod_record 166 = .ok (.ifCond .eq 16, 3) := by decide +kernel
theorem d_Mod_record_182 : decode b_Mod_record 182 = .ok (.aload_n 0, 1) := by decide +kernel
theorem d_Mod_record_183 : decode b_Mod_record 183 = .ok (.dup, 1) := by decide +kernel
theorem d_Mod_record_184 : decode b_Mod_record 184 = .ok (.getfield 523, 3) := by decide +kernel
theorem d_Mod_record_187 : decode b_Mod_record 187 = .ok (.iconst 1, 1) := by decide +kernel
theorem d_Mod_record_188 : decode b_Mod_record 188 = .ok (.iadd, 1) := by decide +kernel
theorem d_Mod_record_189 : decode b_Mod_record 189 = .ok (.putfield 523, 3) := by decide +kernel
theorem d_Mod_record_192 : decode b_Mod_record 192 = .ok (.aload_n 0, 1) := by decide +kernel
theorem d_Mod_record_193 : decode b_Mod_record 193 = .ok (.getfield 78, 3) := by decide +kernel
theorem d_Mod_record_196 : decode b_Mod_record 196 = .ok (.aload_n 0, 1) := by decide +kernel
theorem d_Mod_record_197 : decode b_Mod_record 197 = .ok (.getfield 523, 3) := by decide +kernel
theorem d_Mod_record_200 : decode b_Mod_record 200 = .ok (.aload_n 0, 1) := by decide +kernel
theorem d_Mod_record_201 : decode b_Mod_record 201 = .ok (.getfield 526, 3) := by decide +kernel
theorem d_Mod_record_204 : decode b_Mod_record 204 = .ok (.iastore, 1) := by decide +kernel
theorem d_Mod_record_205 : decode b_Mod_record 205 = .ok (.iconst (-1), 1) := by decide +kernel
theorem d_Mod_record_206 : decode b_Mod_record 206 = .ok (.ireturn, 1) := by decide +kernel
theorem d_Mod_record_169 : decode b_Mod_record 169 = .ok (.aload_n 0, 1) := by decide +kernel
theorem d_Mod_record_170 : decode b_Mod_record 170 = .ok (.iload_n 1, 1) := by decide +kernel
theorem d_Mod_record_171 : decode b_Mod_record 171 = .ok (.putfield 526, 3) := by decide +kernel
theorem d_Mod_record_174 : decode b_Mod_record 174 = .ok (.aload_n 0, 1) := by decide +kernel
theorem d_Mod_record_175 : decode b_Mod_record 175 = .ok (.iload_n 2, 1) := by decide +kernel
theorem d_Mod_record_176 : decode b_Mod_record 176 = .ok (.putfield 529, 3) := by decide +kernel
theorem d_Mod_record_179 : decode b_Mod_record 179 = .ok (.bipush (-2), 2) := by decide +kernel
theorem d_Mod_record_181 : decode b_Mod_record 181 = .ok (.ireturn, 1) := by decide +kernel
theorem d_Mod_record_147 : decode b_Mod_record 147 = .ok (.aload_n 0, 1) := by decide +kernel
theorem d_Mod_record_148 : decode b_Mod_record 148 = .ok (.iload_n 3, 1) := by decide +kernel
theorem d_Mod_record_149 : decode b_Mod_record 149 = .ok (.iconst 0, 1) := by decide +kernel
theorem d_Mod_record_150 : decode b_Mod_record 150 = .ok (.iconst 0, 1) := by decide +kernel
theorem d_Mod_record_151 : decode b_Mod_record 151 = .ok (.iconst 0, 1) := by decide +kernel
theorem d_Mod_record_152 : decode b_Mod_record 152 = .ok (.iconst 0, 1) := by decide +kernel
theorem d_Mod_record_153 : decode b_Mod_record 153 = .ok (.invokevirtual 543, 3) := by decide +kernel
theorem d_Mod_record_156 : decode b_Mod_record 156 = .ok (.iinc 3 1, 3) := by decide +kernel
theorem d_Mod_record_159 : decode b_Mod_record 159 = .ok (.goto (-22), 3) := by decide +kernel
theorem d_Mod_record_94 : decode b_Mod_record 94 = .ok (.aload_n 0, 1) := by decide +kernel
theorem d_Mod_record_95 : decode b_Mod_record 95 = .ok (.getfield 376, 3) := by decide +kernel
theorem d_Mod_record_98 : decode b_Mod_record 98 = .ok (.iconst (-1), 1) := by decide +kernel
theorem d_Mod_record_99 : decode b_Mod_record 99 = .ok (.if_icmp .eq 8, 3) := by decide +kernel
theorem d_Mod_record_107 : decode b_Mod_record 107 = .ok (.aload_n 0, 1) := by decide +kernel
theorem d_Mod_record_108 : decode b_Mod_record 108 = .ok (.getfield 523, 3) := by decide +kernel
theorem d_Mod_record_111 : decode b_Mod_record 111 = .ok (.sipush 2000, 3) := by decide +kernel
theorem d_Mod_record_114 : decode b_Mod_record 114 = .ok (.if_icmp .ne 6, 3) := by decide +kernel
theorem d_Mod_record_120 : decode b_Mod_record 120 = .ok (.aload_n 0, 1) := by decide +kernel
theorem d_Mod_record_121 : decode b_Mod_record 121 = .ok (.getfield 526, 3) := by decide +kernel
theorem d_Mod_record_124 : decode b_Mod_record 124 = .ok (.istore_n 1, 1) := by decide +kernel
theorem d_Mod_record_125 : decode b_Mod_record 125 = .ok (.aload_n 0, 1) := by decide +kernel
theorem d_Mod_record_126 : decode b_Mod_record 126 = .ok (.getfield 529, 3) := by decide +kernel
theorem d_Mod_record_129 : decode b_Mod_record 129 = .ok (.istore_n 2, 1) := by decide +kernel
theorem d_Mod_record_130 : decode b_Mod_record 130 = .ok (.aload_n 0, 1) := by decide +kernel
theorem d_Mod_record_131 : decode b_Mod_record 131 = .ok (.iconst 0, 1) := by decide +kernel
theorem d_Mod_record_132 : decode b_Mod_record 132 = .ok (.putfield 532, 3) := by decide +kernel
theorem d_Mod_record_135 : decode b_Mod_record 135 = .ok (.iconst 0, 1) := by decide +kernel
theorem d_Mod_record_136 : decode b_Mod_record 136 = .ok (.istore_n 3, 1) := by decide +kernel
theorem d_Mod_record_117 : decode b_Mod_record 117 = .ok (.bipush (-2), 2) := by decide +kernel
theorem d_Mod_record_119 : decode b_Mod_record 119 = .ok (.ireturn, 1) := by decide +kernel
theorem d_Mod_record_102 : decode b_Mod_record 102 = .ok (.aload_n 0, 1) := by decide +kernel
theorem d_Mod_record_103 : decode b_Mod_record 103 = .ok (.getfield 376, 3) := by decide +kernel
theorem d_Mod_record_106 : decode b_Mod_record 106 = .ok (.ireturn, 1) := by decide +kernel
theorem d_Mod_record_0 : decode b_Mod_record 0 = .ok (.aload_n 0, 1) := by decide +kernel
theorem d_Mod_record_1 : decode b_Mod_record 1 = .ok (.iconst 0, 1) := by decide +kernel
theorem d_Mod_record_2 : decode b_Mod_record 2 = .ok (.putfield 360, 3) := by decide +kernel
theorem d_Mod_record_5 : decode b_Mod_record 5 = .ok (.aload_n 0, 1) := by decide +kernel
theorem d_Mod_record_6 : decode b_Mod_record 6 = .ok (.invokevirtual 460, 3) := by decide +kernel
theorem d_Mod_record_9 : decode b_Mod_record 9 = .ok (.aload_n 0, 1) := by decide +kernel
theorem d_Mod_record_10 : decode b_Mod_record 10 = .ok (.getfield 466, 3) := by decide +kernel
theorem d_Mod_record_13 : decode b_Mod_record 13 = .ok (.ifCond .ne 6, 3) := by decide +kernel
theorem d_Mod_record_19 : decode b_Mod_record 19 = .ok (.aload_n 0, 1) := by decide +kernel
theorem d_Mod_record_20 : decode b_Mod_record 20 = .ok (.getfield 370, 3) := by decide +kernel
theorem d_Mod_record_23 : decode b_Mod_record 23 = .ok (.sipush 4000, 3) := by decide +kernel
theorem d_Mod_record_26 : decode b_Mod_record 26 = .ok (.if_icmp .le 7, 3) := by decide +kernel
theorem d_Mod_record_33 : decode b_Mod_record 33 = .ok (.aload_n 0, 1) := by decide +kernel
theorem d_Mod_record_34 : decode b_Mod_record 34 = .ok (.iconst 1, 1) := by decide +kernel
theorem d_Mod_record_35 : decode b_Mod_record 35 = .ok (.putfield 473, 3) := by decide +kernel
theorem d_Mod_record_38 : decode b_Mod_record 38 = .ok (.aload_n 0, 1) := by decide +kernel
theorem d_Mod_record_39 : decode b_Mod_record 39 = .ok (.iconst 0, 1) := by decide +kernel
theorem d_Mod_record_40 : decode b_Mod_record 40 = .ok (.putfield 476, 3) := by decide +kernel
theorem d_Mod_record_43 : decode b_Mod_record 43 = .ok (.aload_n 0, 1) := by decide +kernel
theorem d_Mod_record_44 : decode b_Mod_record 44 = .ok (.getfield 44, 3) := by decide +kernel
theorem d_Mod_record_47 : decode b_Mod_record 47 = .ok (.iconst 0, 1) := by decide +kernel
theorem d_Mod_record_48 : decode b_Mod_record 48 = .ok (.iconst (-1), 1) := by decide +kernel
theorem d_Mod_record_49 : decode b_Mod_record 49 = .ok (.iastore, 1) := by decide +kernel
theorem d_Mod_record_50 : decode b_Mod_record 50 = .ok (.aload_n 0, 1) := by decide +kernel
theorem d_Mod_record_51 : decode b_Mod_record 51 = .ok (.getfield 47, 3) := by decide +kernel
theorem d_Mod_record_54 : decode b_Mod_record 54 = .ok (.iconst 0, 1) := by decide +kernel
theorem d_Mod_record_55 : decode b_Mod_record 55 = .ok (.iconst (-1), 1) := by decide +kernel
theorem d_Mod_record_56 : decode b_Mod_record 56 = .ok (.iastore, 1) := by decide +kernel
theorem d_Mod_record_57 : decode b_Mod_record 57 = .ok (.aload_n 0, 1) := by decide +kernel
theorem d_Mod_record_58 : decode b_Mod_record 58 = .ok (.iconst 0, 1) := by decide +kernel
theorem d_Mod_record_59 : decode b_Mod_record 59 = .ok (.iconst (-1), 1) := by decide +kernel
theorem d_Mod_record_60 : decode b_Mod_record 60 = .ok (.invokevirtual 495, 3) := by decide +kernel
theorem d_Mod_record_63 : decode b_Mod_record 63 = .ok (.aload_n 0, 1) := by decide +kernel
theorem d_Mod_record_64 : decode b_Mod_record 64 = .ok (.invokevirtual 394, 3) := by decide +kernel
theorem d_Mod_record_67 : decode b_Mod_record 67 = .ok (.aload_n 0, 1) := by decide +kernel
theorem d_Mod_record_68 : decode b_Mod_record 68 = .ok (.getfield 376, 3) := by decide +kernel
theorem d_Mod_record_71 : decode b_Mod_record 71 = .ok (.iconst (-1), 1) := by decide +kernel
theorem d_Mod_record_72 : decode b_Mod_record 72 = .ok (.if_icmp .ne 22, 3) := by decide +kernel
theorem d_Mod_record_75 : decode b_Mod_record 75 = .ok (.aload_n 0, 1) := by decide +kernel
theorem d_Mod_record_76 : decode b_Mod_record 76 = .ok (.getfield 373, 3) := by decide +kernel
theorem d_Mod_record_79 : decode b_Mod_record 79 = .ok (.aload_n 0, 1) := by decide +kernel
theorem d_Mod_record_80 : decode b_Mod_record 80 = .ok (.getfield 370, 3) := by decide +kernel
theorem d_Mod_record_83 : decode b_Mod_record 83 = .ok (.if_icmp .ge 11, 3) := by decide +kernel
theorem d_Mod_record_86 : decode b_Mod_record 86 = .ok (.aload_n 0, 1) := by decide +kernel
theorem d_Mod_record_87 : decode b_Mod_record 87 = .ok (.aload_n 0, 1) := by decide +kernel
theorem d_Mod_record_88 : decode b_Mod_record 88 = .ok (.getfield 373, 3) := by decide +kernel
theorem d_Mod_record_91 : decode b_Mod_record 91 = .ok (.invokevirtual 408, 3) := by decide +kernel
theorem d_Mod_record_29 : decode b_Mod_record 29 = .ok (.sipush 4000, 3) := by decide +kernel
theorem d_Mod_record_32 : decode b_Mod_record 32 = .ok (.ireturn, 1) := by decide +kernel
theorem d_Mod_record_16 : decode b_Mod_record 16 = .ok (.bipush (-2), 2) := by decide +kernel
theorem d_Mod_record_18 : decode b_Mod_record 18 = .ok (.ireturn, 1) := by decide +kernel
theorem d_Mod_records_0 : decode b_Mod_records 0 = .ok (.aload_n 0, 1) := by decide +kernel
theorem d_Mod_records_1 : decode b_Mod_records 1 = .ok (.iconst 0, 1) := by decide +kernel
theorem d_Mod_records_2 : decode b_Mod_records 2 = .ok (.putfield 360, 3) := by decide +kernel
theorem d_Mod_records_5 : decode b_Mod_records 5 = .ok (.aload_n 0, 1) := by decide +kernel
theorem d_Mod_records_6 : decode b_Mod_records 6 = .ok (.getfield 523, 3) := by decide +kernel
theorem d_Mod_records_9 : decode b_Mod_records 9 = .ok (.ireturn, 1) := by decide +kernel
theorem d_Mod_clear_0 : decode b_Mod_clear 0 = .ok (.aload_n 0, 1) := by decide +kernel
theorem d_Mod_clear_1 : decode b_Mod_clear 1 = .ok (.iconst 0, 1) := by decide +kernel
theorem d_Mod_clear_2 : decode b_Mod_clear 2 = .ok (.putfield 360, 3) := by decide +kernel
theorem d_Mod_clear_5 : decode b_Mod_clear 5 = .ok (.aload_n 0, 1) := by decide +kernel
theorem d_Mod_clear_6 : decode b_Mod_clear 6 = .ok (.invokevirtual 470, 3) := by decide +kernel
theorem d_Mod_clear_9 : decode b_Mod_clear 9 = .ok (.return_, 1) := by decide +kernel
theorem d_Mod_addByte_19 : decode b_Mod_addByte 19 = .ok (.aload_n 0, 1) := by decide +kernel
theorem d_Mod_addByte_20 : decode b_Mod_addByte 20 = .ok (.dup, 1) := by decide +kernel
theorem d_Mod_addByte_21 : decode b_Mod_addByte 21 = .ok (.getfield 780, 3) := by decide +kernel
theorem d_Mod_addByte_24 : decode b_Mod_addByte 24 = .ok (.iconst 1, 1) := by decide +kernel
theorem d_Mod_addByte_25 : decode b_Mod_addByte 25 = .ok (.iadd, 1) := by decide +kernel
theorem d_Mod_addByte_26 : decode b_Mod_addByte 26 = .ok (.putfield 780, 3) := by decide +kernel
theorem d_Mod_addByte_29 : decode b_Mod_addByte 29 = .ok (.return_, 1) := by decide +kernel
theorem d_Mod_addByte_0 : decode b_Mod_addByte 0 = .ok (.aload_n 0, 1) := by decide +kernel
theorem d_Mod_addByte_1 : decode b_Mod_addByte 1 = .ok (.getfield 780, 3) := by decide +kernel
theorem d_Mod_addByte_4 : decode b_Mod_addByte 4 = .ok (.ldc 7, 2) := by decide +kernel
theorem d_Mod_addByte_6 : decode b_Mod_addByte 6 = .ok (.if_icmp .ge 13, 3) := by decide +kernel
theorem d_Mod_addByte_9 : decode b_Mod_addByte 9 = .ok (.aload_n 0, 1) := by decide +kernel
theorem d_Mod_addByte_10 : decode b_Mod_addByte 10 = .ok (.getfield 136, 3) := by decide +kernel
theorem d_Mod_addByte_13 : decode b_Mod_addByte 13 = .ok (.aload_n 0, 1) := by decide +kernel
theorem d_Mod_addByte_14 : decode b_Mod_addByte 14 = .ok (.getfield 780, 3) := by decide +kernel
theorem d_Mod_addByte_17 : decode b_Mod_addByte 17 = .ok (.iload_n 1, 1) := by decide +kernel
theorem d_Mod_addByte_18 : decode b_Mod_addByte 18 = .ok (.iastore, 1) := by decide +kernel
theorem d_Mod_addFrame_0 : decode b_Mod_addFrame 0 = .ok (.aload_n 0, 1) := by decide +kernel
theorem d_Mod_addFrame_1 : decode b_Mod_addFrame 1 = .ok (.bipush 83, 2) := by decide +kernel
theorem d_Mod_addFrame_3 : decode b_Mod_addFrame 3 = .ok (.invokevirtual 783, 3) := by decide +kernel
theorem d_Mod_addFrame_6 : decode b_Mod_addFrame 6 = .ok (.aload_n 0, 1) := by decide +kernel
theorem d_Mod_addFrame_7 : decode b_Mod_addFrame 7 = .ok (.bipush 84, 2) := by decide +kernel
theorem d_Mod_addFrame_9 : decode b_Mod_addFrame 9 = .ok (.invokevirtual 783, 3) := by decide +kernel
theorem d_Mod_addFrame_12 : decode b_Mod_addFrame 12 = .ok (.aload_n 0, 1) := by decide +kernel
theorem d_Mod_addFrame_13 : decode b_Mod_addFrame 13 = .ok (.bipush 82, 2) := by decide +kernel
theorem d_Mod_addFrame_15 : decode b_Mod_addFrame 15 = .ok (.invokevirtual 783, 3) := by decide +kernel
theorem d_Mod_addFrame_18 : decode b_Mod_addFrame 18 = .ok (.aload_n 0, 1) := by decide +kernel
theorem d_Mod_addFrame_19 : decode b_Mod_addFrame 19 = .ok (.bipush 66, 2) := by decide +kernel
theorem d_Mod_addFrame_21 : decode b_Mod_addFrame 21 = .ok (.invokevirtual 783, 3) := by decide +kernel
theorem d_Mod_addFrame_24 : decode b_Mod_addFrame 24 = .ok (.return_, 1) := by decide +kernel
theorem d_Mod_many_40 : decode b_Mod_many 40 = .ok (.iadd, 1) := by decide +kernel
theorem d_Mod_many_41 : decode b_Mod_many 41 = .ok (.istore 4, 2) := by decide +kernel
theorem d_Mod_many_43 : decode b_Mod_many 43 = .ok (.iinc 5 1, 3) := by decide +kernel
theorem d_Mod_many_46 : decode b_Mod_many 46 = .ok (.goto (-35), 3) := by decide +kernel
theorem d_Mod_many_11 : decode b_Mod_many 11 = .ok (.iload 5, 2) := by decide +kernel
theorem d_Mod_many_13 : decode b_Mod_many 13 = .ok (.aload_n 0, 1) := by decide +kernel
theorem d_Mod_many_14 : decode b_Mod_many 14 = .ok (.getfield 78, 3) := by decide +kernel
theorem d_Mod_many_17 : decode b_Mod_many 17 = .ok (.iload_n 3, 1) := by decide +kernel
theorem d_Mod_many_18 : decode b_Mod_many 18 = .ok (.iaload, 1) := by decide +kernel
theorem d_Mod_many_19 : decode b_Mod_many 19 = .ok (.if_icmp .ge 30, 3) := by decide +kernel
theorem d_Mod_many_49 : decode b_Mod_many 49 = .ok (.iload 4, 2) := by decide +kernel
theorem d_Mod_many_51 : decode b_Mod_many 51 = .ok (.ireturn, 1) := by decide +kernel
theorem d_Mod_many_22 : decode b_Mod_many 22 = .ok (.iload 4, 2) := by decide +kernel
theorem d_Mod_many_24 : decode b_Mod_many 24 = .ok (.aload_n 0, 1) := by decide +kernel
theorem d_Mod_many_25 : decode b_Mod_many 25 = .ok (.getfield 69, 3) := by decide +kernel
theorem d_Mod_many_28 : decode b_Mod_many 28 = .ok (.iload 5, 2) := by decide +kernel
theorem d_Mod_many_30 : decode b_Mod_many 30 = .ok (.iaload, 1) := by decide +kernel
theorem d_Mod_many_31 : decode b_Mod_many 31 = .ok (.iload_n 1, 1) := by decide +kernel
theorem d_Mod_many_32 : decode b_Mod_many 32 = .ok (.if_icmp .ne 7, 3) := by decide +kernel
theorem d_Mod_many_39 : decode b_Mod_many 39 = .ok (.iconst 0, 1) := by decide +kernel
theorem d_Mod_many_35 : decode b_Mod_many 35 = .ok (.iconst 1, 1) := by decide +kernel
theorem d_Mod_many_36 : decode b_Mod_many 36 = .ok (.goto 4, 3) := by decide +kernel
theorem d_Mod_many_0 : decode b_Mod_many 0 = .ok (.iconst 0, 1) := by decide +kernel
theorem d_Mod_many_1 : decode b_Mod_many 1 = .ok (.istore 4, 2) := by decide +kernel
theorem d_Mod_many_3 : decode b_Mod_many 3 = .ok (.aload_n 0, 1) := by decide +kernel
theorem d_Mod_many_4 : decode b_Mod_many 4 = .ok (.getfield 78, 3) := by decide +kernel
theorem d_Mod_many_7 : decode b_Mod_many 7 = .ok (.iload_n 2, 1) := by decide +kernel
theorem d_Mod_many_8 : decode b_Mod_many 8 = .ok (.iaload, 1) := by decide +kernel
theorem d_Mod_many_9 : decode b_Mod_many 9 = .ok (.istore 5, 2) := by decide +kernel
theorem d_Mod_textsOf_46 : decode b_Mod_textsOf 46 = .ok (.iadd, 1) := by decide +kernel
theorem d_Mod_textsOf_47 : decode b_Mod_textsOf 47 = .ok (.istore 4, 2) := by decide +kernel
theorem d_Mod_textsOf_49 : decode b_Mod_textsOf 49 = .ok (.iinc 5 1, 3) := by decide +kernel
theorem d_Mod_textsOf_52 : decode b_Mod_textsOf 52 = .ok (.goto (-41), 3) := by decide +kernel
theorem d_Mod_textsOf_11 : decode b_Mod_textsOf 11 = .ok (.iload 5, 2) := by decide +kernel
theorem d_Mod_textsOf_13 : decode b_Mod_textsOf 13 = .ok (.aload_n 0, 1) := by decide +kernel
theorem d_Mod_textsOf_14 : decode b_Mod_textsOf 14 = .ok (.getfield 78, 3) := by decide +kernel
theorem d_Mod_textsOf_17 : decode b_Mod_textsOf 17 = .ok (.iload_n 3, 1) := by decide +kernel
theorem d_Mod_textsOf_18 : decode b_Mod_textsOf 18 = .ok (.iaload, 1) := by decide +kernel
theorem d_Mod_textsOf_19 : decode b_Mod_textsOf 19 = .ok (.if_icmp .ge 36, 3) := by decide +kernel
theorem d_Mod_textsOf_55 : decode b_Mod_textsOf 55 = .ok (.iload 4, 2) := by decide +kernel
theorem d_Mod_textsOf_57 : decode b_Mod_textsOf 57 = .ok (.ireturn, 1) := by decide +kernel
theorem d_Mod_textsOf_22 : decode b_Mod_textsOf 22 = .ok (.iload 4, 2) := by decide +kernel
theorem d_Mod_textsOf_24 : decode b_Mod_textsOf 24 = .ok (.aload_n 0, 1) := by decide +kernel
theorem d_Mod_textsOf_25 : decode b_Mod_textsOf 25 = .ok (.getfield 69, 3) := by decide +kernel
theorem d_Mod_textsOf_28 : decode b_Mod_textsOf 28 = .ok (.iload 5, 2) := by decide +kernel
theorem d_Mod_textsOf_30 : decode b_Mod_textsOf 30 = .ok (.iaload, 1) := by decide +kernel
theorem d_Mod_textsOf_31 : decode b_Mod_textsOf 31 = .ok (.iload_n 1, 1) := by decide +kernel
theorem d_Mod_textsOf_32 : decode b_Mod_textsOf 32 = .ok (.if_icmp .ne 13, 3) := by decide +kernel
theorem d_Mod_textsOf_45 : decode b_Mod_textsOf 45 = .ok (.iconst 0, 1) := by decide +kernel
theorem d_Mod_textsOf_35 : decode b_Mod_textsOf 35 = .ok (.aload_n 0, 1) := by decide +kernel
theorem d_Mod_textsOf_36 : decode b_Mod_textsOf 36 = .ok (.getfield 75, 3) := by decide +kernel
theorem d_Mod_textsOf_39 : decode b_Mod_textsOf 39 = .ok (.iload 5, 2) := by decide +kernel
theorem d_Mod_textsOf_41 : decode b_Mod_textsOf 41 = .ok (.iaload, 1) := by decide +kernel
theorem d_Mod_textsOf_42 : decode b_Mod_textsOf 42 = .ok (.goto 4, 3) := by decide +kernel
theorem d_Mod_textsOf_0 : decode b_Mod_textsOf 0 = .ok (.iconst 0, 1) := by decide +kernel
theorem d_Mod_textsOf_1 : decode b_Mod_textsOf 1 = .ok (.istore 4, 2) := by decide +kernel
theorem d_Mod_textsOf_3 : decode b_Mod_textsOf 3 = .ok (.aload_n 0, 1) := by decide +kernel
theorem d_Mod_textsOf_4 : decode b_Mod_textsOf 4 = .ok (.getfield 78, 3) := by decide +kernel
theorem d_Mod_textsOf_7 : decode b_Mod_textsOf 7 = .ok (.iload_n 2, 1) := by decide +kernel
theorem d_Mod_textsOf_8 : decode b_Mod_textsOf 8 = .ok (.iaload, 1) := by decide +kernel
theorem d_Mod_textsOf_9 : decode b_Mod_textsOf 9 = .ok (.istore 5, 2) := by decide +kernel
theorem d_Mod_typeOf_0 : decode b_Mod_typeOf 0 = .ok (.aload_n 0, 1) := by decide +kernel
theorem d_Mod_typeOf_1 : decode b_Mod_typeOf 1 = .ok (.getfield 20, 3) := by decide +kernel
theorem d_Mod_typeOf_4 : decode b_Mod_typeOf 4 = .ok (.iload_n 1, 1) := by decide +kernel
theorem d_Mod_typeOf_5 : decode b_Mod_typeOf 5 = .ok (.aload_n 0, 1) := by decide +kernel
theorem d_Mod_typeOf_6 : decode b_Mod_typeOf 6 = .ok (.getfield 41, 3) := by decide +kernel
theorem d_Mod_typeOf_9 : decode b_Mod_typeOf 9 = .ok (.bipush 64, 2) := by decide +kernel
theorem d_Mod_typeOf_11 : decode b_Mod_typeOf 11 = .ok (.iload_n 1, 1) := by decide +kernel
theorem d_Mod_typeOf_12 : decode b_Mod_typeOf 12 = .ok (.imul, 1) := by decide +kernel
theorem d_Mod_typeOf_13 : decode b_Mod_typeOf 13 = .ok (.iload_n 2, 1) := by decide +kernel
theorem d_Mod_typeOf_14 : decode b_Mod_typeOf 14 = .ok (.iadd, 1) := by decide +kernel
theorem d_Mod_typeOf_15 : decode b_Mod_typeOf 15 = .ok (.iaload, 1) := by decide +kernel
theorem d_Mod_typeOf_16 : decode b_Mod_typeOf 16 = .ok (.invokestatic 412, 3) := by decide +kernel
theorem d_Mod_typeOf_19 : decode b_Mod_typeOf 19 = .ok (.iaload, 1) := by decide +kernel
theorem d_Mod_typeOf_20 : decode b_Mod_typeOf 20 = .ok (.ireturn, 1) := by decide +kernel
theorem d_Mod_mostR_0 : decode b_Mod_mostR 0 = .ok (.aload_n 0, 1) := by decide +kernel
theorem d_Mod_mostR_1 : decode b_Mod_mostR 1 = .ok (.iload_n 1, 1) := by decide +kernel
theorem d_Mod_mostR_2 : decode b_Mod_mostR 2 = .ok (.aload_n 0, 1) := by decide +kernel
theorem d_Mod_mostR_3 : decode b_Mod_mostR 3 = .ok (.getfield 41, 3) := by decide +kernel
theorem d_Mod_mostR_6 : decode b_Mod_mostR 6 = .ok (.bipush 64, 2) := by decide +kernel
theorem d_Mod_mostR_8 : decode b_Mod_mostR 8 = .ok (.iload_n 1, 1) := by decide +kernel
theorem d_Mod_mostR_9 : decode b_Mod_mostR 9 = .ok (.imul, 1) := by decide +kernel
theorem d_Mod_mostR_10 : decode b_Mod_mostR 10 = .ok (.iload_n 2, 1) := by decide +kernel
theorem d_Mod_mostR_11 : decode b_Mod_mostR 11 = .ok (.iadd, 1) := by decide +kernel
theorem d_Mod_mostR_12 : decode b_Mod_mostR 12 = .ok (.iaload, 1) := by decide +kernel
theorem d_Mod_mostR_13 : decode b_Mod_mostR 13 = .ok (.iconst 1, 1) := by decide +kernel
theorem d_Mod_mostR_14 : decode b_Mod_mostR 14 = .ok (.invokevirtual 416, 3) := by decide +kernel
theorem d_Mod_mostR_17 : decode b_Mod_mostR 17 = .ok (.ireturn, 1) := by decide +kernel
theorem d_Mod_mostD_0 : decode b_Mod_mostD 0 = .ok (.aload_n 0, 1) := by decide +kernel
theorem d_Mod_mostD_1 : decode b_Mod_mostD 1 = .ok (.iload_n 1, 1) := by decide +kernel
theorem d_Mod_mostD_2 : decode b_Mod_mostD 2 = .ok (.aload_n 0, 1) := by decide +kernel
theorem d_Mod_mostD_3 : decode b_Mod_mostD 3 = .ok (.getfield 41, 3) := by decide +kernel
theorem d_Mod_mostD_6 : decode b_Mod_mostD 6 = .ok (.bipush 64, 2) := by decide +kernel
theorem d_Mod_mostD_8 : decode b_Mod_mostD 8 = .ok (.iload_n 1, 1) := by decide +kernel
theorem d_Mod_mostD_9 : decode b_Mod_mostD 9 = .ok (.imul, 1) := by decide +kernel
theorem d_Mod_mostD_10 : decode b_Mod_mostD 10 = .ok (.iload_n 2, 1) := by decide +kernel
theorem d_Mod_mostD_11 : decode b_Mod_mostD 11 = .ok (.iadd, 1) := by decide +kernel
theorem d_Mod_mostD_12 : decode b_Mod_mostD 12 = .ok (.iaload, 1) := by decide +kernel
theorem d_Mod_mostD_13 : decode b_Mod_mostD 13 = .ok (.iconst 0, 1) := by decide +kernel
theorem d_Mod_mostD_14 : decode b_Mod_mostD 14 = .ok (.invokevirtual 416, 3) := by decide +kernel
theorem d_Mod_mostD_17 : decode b_Mod_mostD 17 = .ok (.ireturn, 1) := by decide +kernel
theorem d_Mod_fillPage_239 : decode b_Mod_fillPage 239 = .ok (.iinc 4 1, 3) := by decide +kernel
theorem d_Mod_fillPage_242 : decode b_Mod_fillPage 242 = .ok (.goto (-194), 3) := by decide +kernel
theorem d_Mod_fillPage_179 : decode b_Mod_fillPage 179 = .ok (.iload 5, 2) := by decide +kernel
theorem d_Mod_fillPage_181 : decode b_Mod_fillPage 181 = .ok (.aload_n 0, 1) := by decide +kernel
theorem d_Mod_fillPage_182 : decode b_Mod_fillPage 182 = .ok (.getfield 75, 3) := by decide +kernel
theorem d_Mod_fillPage_185 : decode b_Mod_fillPage 185 = .ok (.iload 4, 2) := by decide +kernel
theorem d_Mod_fillPage_187 : decode b_Mod_fillPage 187 = .ok (.iaload, 1) := by decide +kernel
theorem d_Mod_fillPage_188 : decode b_Mod_fillPage 188 = .ok (.if_icmp .ge 41, 3) := by decide +kernel
theorem d_Mod_fillPage_229 : decode b_Mod_fillPage 229 = .ok (.aload_n 0, 1) := by decide +kernel
theorem d_Mod_fillPage_230 : decode b_Mod_fillPage 230 = .ok (.dup, 1) := by decide +kernel
theorem d_Mod_fillPage_231 : decode b_Mod_fillPage 231 = .ok (.getfield 632, 3) := by decide +kernel
theorem d_Mod_fillPage_234 : decode b_Mod_fillPage 234 = .ok (.iconst 1, 1) := by decide +kernel
theorem d_Mod_fillPage_235 : decode b_Mod_fillPage 235 = .ok (.iadd, 1) := by decide +kernel
theorem d_Mod_fillPage_236 : decode b_Mod_fillPage 236 = .ok (.putfield 632, 3) := by decide +kernel
theorem d_Mod_fillPage_191 : decode b_Mod_fillPage 191 = .ok (.aload_n 0, 1) := by decide +kernel
theorem d_Mod_fillPage_192 : decode b_Mod_fillPage 192 = .ok (.getfield 118, 3) := by decide +kernel
theorem d_Mod_fillPage_195 : decode b_Mod_fillPage 195 = .ok (.aload_n 0, 1) := by decide +kernel
theorem d_Mod_fillPage_196 : decode b_Mod_fillPage 196 = .ok (.getfield 109, 3) := by decide +kernel
theorem d_Mod_fillPage_199 : decode b_Mod_fillPage 199 = .ok (.aload_n 0, 1) := by decide +kernel
theorem d_Mod_fillPage_200 : decode b_Mod_fillPage 200 = .ok (.getfield 632, 3) := by decide +kernel
theorem d_Mod_fillPage_203 : decode b_Mod_fillPage 203 = .ok (.iaload, 1) := by decide +kernel
theorem d_Mod_fillPage_204 : decode b_Mod_fillPage 204 = .ok (.iload 5, 2) := by decide +kernel
theorem d_Mod_fillPage_206 : decode b_Mod_fillPage 206 = .ok (.iadd, 1) := by decide +kernel
theorem d_Mod_fillPage_207 : decode b_Mod_fillPage 207 = .ok (.aload_n 0, 1) := by decide +kernel
theorem d_Mod_fillPage_208 : decode b_Mod_fillPage 208 = .ok (.getfield 82, 3) := by decide +kernel
theorem d_Mod_fillPage_211 : decode b_Mod_fillPage 211 = .ok (.aload_n 0, 1) := by decide +kernel
theorem d_Mod_fillPage_212 : decode b_Mod_fillPage 212 = .ok (.getfield 72, 3) := by decide +kernel
theorem d_Mod_fillPage_215 : decode b_Mod_fillPage 215 = .ok (.iload 4, 2) := by decide +kernel
theorem d_Mod_fillPage_217 : decode b_Mod_fillPage 217 = .ok (.iaload, 1) := by decide +kernel
theorem d_Mod_fillPage_218 : decode b_Mod_fillPage 218 = .ok (.iload 5, 2) := by decide +kernel
theorem d_Mod_fillPage_220 : decode b_Mod_fillPage 220 = .ok (.iadd, 1) := by decide +kernel
theorem d_Mod_fillPage_221 : decode b_Mod_fillPage 221 = .ok (.iaload, 1) := by decide +kernel
theorem d_Mod_fillPage_222 : decode b_Mod_fillPage 222 = .ok (.iastore, 1) := by decide +kernel
theorem d_Mod_fillPage_223 : decode b_Mod_fillPage 223 = .ok (.iinc 5 1, 3) := by decide +kernel
theorem d_Mod_fillPage_226 : decode b_Mod_fillPage 226 = .ok (.goto (-47), 3) := by decide +kernel
theorem d_Mod_fillPage_48 : decode b_Mod_fillPage 48 = .ok (.iload 4, 2) := by decide +kernel
theorem d_Mod_fillPage_50 : decode b_Mod_fillPage 50 = .ok (.aload_n 0, 1) := by decide +kernel
theorem d_Mod_fillPage_51 : decode b_Mod_fillPage 51 = .ok (.getfield 78, 3) := by decide +kernel
theorem d_Mod_fillPage_54 : decode b_Mod_fillPage 54 = .ok (.iload_n 3, 1) := by decide +kernel
theorem d_Mod_fillPage_55 : decode b_Mod_fillPage 55 = .ok (.iaload, 1) := by decide +kernel
theorem d_Mod_fillPage_56 : decode b_Mod_fillPage 56 = .ok (.if_icmp .ge 189, 3) := by decide +kernel
theorem d_Mod_fillPage_245 : decode b_Mod_fillPage 245 = .ok (.return_, 1) := by decide +kernel
theorem d_Mod_fillPage_59 : decode b_Mod_fillPage 59 = .ok (.aload_n 0, 1) := by decide +kernel
theorem d_Mod_fillPage_60 : decode b_Mod_fillPage 60 = .ok (.getfield 69, 3) := by decide +kernel
theorem d_Mod_fillPage_63 : decode b_Mod_fillPage 63 = .ok (.iload 4, 2) := by decide +kernel
theorem d_Mod_fillPage_65 : decode b_Mod_fillPage 65 = .ok (.iaload, 1) := by decide +kernel
theorem d_Mod_fillPage_66 : decode b_Mod_fillPage 66 = .ok (.iload_n 1, 1) := by decide +kernel
theorem d_Mod_fillPage_67 : decode b_Mod_fillPage 67 = .ok (.if_icmp .eq 6, 3) := by decide +kernel
theorem d_Mod_fillPage_73 : decode b_Mod_fillPage 73 = .ok (.aload_n 0, 1) := by decide +kernel
theorem d_Mod_fillPage_74 : decode b_Mod_fillPage 74 = .ok (.getfield 88, 3) := by decide +kernel
theorem d_Mod_fillPage_77 : decode b_Mod_fillPage 77 = .ok (.aload_n 0, 1) := by decide +kernel
theorem d_Mod_fillPage_78 : decode b_Mod_fillPage 78 = .ok (.getfield 676, 3) := by decide +kernel
theorem d_Mod_fillPage_81 : decode b_Mod_fillPage 81 = .ok (.aload_n 0, 1) := by decide +kernel
theorem d_Mod_fillPage_82 : decode b_Mod_fillPage 82 = .ok (.getfield 63, 3) := by decide +kernel
theorem d_Mod_fillPage_85 : decode b_Mod_fillPage 85 = .ok (.iload 4, 2) := by decide +kernel
theorem d_Mod_fillPage_87 : decode b_Mod_fillPage 87 = .ok (.iaload, 1) := by decide +kernel
theorem d_Mod_fillPage_88 : decode b_Mod_fillPage 88 = .ok (.iastore, 1) := by decide +kernel
theorem d_Mod_fillPage_89 : decode b_Mod_fillPage 89 = .ok (.aload_n 0, 1) := by decide +kernel
theorem d_Mod_fillPage_90 : decode b_Mod_fillPage 90 = .ok (.getfield 91, 3) := by decide +kernel
theorem d_Mod_fillPage_93 : decode b_Mod_fillPage 93 = .ok (.aload_n 0, 1) := by decide +kernel
theorem d_Mod_fillPage_94 : decode b_Mod_fillPage 94 = .ok (.getfield 676, 3) := by decide +kernel
theorem d_Mod_fillPage_97 : decode b_Mod_fillPage 97 = .ok (.aload_n 0, 1) := by decide +kernel
theorem d_Mod_fillPage_98 : decode b_Mod_fillPage 98 = .ok (.getfield 66, 3) := by decide +kernel
theorem d_Mod_fillPage_101 : decode b_Mod_fillPage 101 = .ok (.iload 4, 2) := by decide +kernel
theorem d_Mod_fillPage_103 : decode b_Mod_fillPage 103 = .ok (.iaload, 1) := by decide +kernel
theorem d_Mod_fillPage_104 : decode b_Mod_fillPage 104 = .ok (.iastore, 1) := by decide +kernel
theorem d_Mod_fillPage_105 : decode b_Mod_fillPage 105 = .ok (.aload_n 0, 1) := by decide +kernel
theorem d_Mod_fillPage_106 : decode b_Mod_fillPage 106 = .ok (.dup, 1) := by decide +kernel
theorem d_Mod_fillPage_107 : decode b_Mod_fillPage 107 = .ok (.getfield 676, 3) := by decide +kernel
theorem d_Mod_fillPage_110 : decode b_Mod_fillPage 110 = .ok (.iconst 1, 1) := by decide +kernel
theorem d_Mod_fillPage_111 : decode b_Mod_fillPage 111 = .ok (.iadd, 1) := by decide +kernel
theorem d_Mod_fillPage_112 : decode b_Mod_fillPage 112 = .ok (.putfield 676, 3) := by decide +kernel
theorem d_Mod_fillPage_115 : decode b_Mod_fillPage 115 = .ok (.aload_n 0, 1) := by decide +kernel
theorem d_Mod_fillPage_116 : decode b_Mod_fillPage 116 = .ok (.getfield 66, 3) := by decide +kernel
theorem d_Mod_fillPage_119 : decode b_Mod_fillPage 119 = .ok (.iload 4, 2) := by decide +kernel
theorem d_Mod_fillPage_121 : decode b_Mod_fillPage 121 = .ok (.iaload, 1) := by decide +kernel
theorem d_Mod_fillPage_122 : decode b_Mod_fillPage 122 = .ok (.aload_n 0, 1) := by decide +kernel
theorem d_Mod_fillPage_123 : decode b_Mod_fillPage 123 = .ok (.getfield 739, 3) := by decide +kernel
theorem d_Mod_fillPage_126 : decode b_Mod_fillPage 126 = .ok (.if_icmp .eq 6, 3) := by decide +kernel
theorem d_Mod_fillPage_132 : decode b_Mod_fillPage 132 = .ok (.aload_n 0, 1) := by decide +kernel
theorem d_Mod_fillPage_133 : decode b_Mod_fillPage 133 = .ok (.getfield 100, 3) := by decide +kernel
theorem d_Mod_fillPage_136 : decode b_Mod_fillPage 136 = .ok (.aload_n 0, 1) := by decide +kernel
theorem d_Mod_fillPage_137 : decode b_Mod_fillPage 137 = .ok (.getfield 632, 3) := by decide +kernel
theorem d_Mod_fillPage_140 : decode b_Mod_fillPage 140 = .ok (.aload_n 0, 1) := by decide +kernel
theorem d_Mod_fillPage_141 : decode b_Mod_fillPage 141 = .ok (.getfield 85, 3) := by decide +kernel
theorem d_Mod_fillPage_144 : decode b_Mod_fillPage 144 = .ok (.iload 4, 2) := by decide +kernel
theorem d_Mod_fillPage_146 : decode b_Mod_fillPage 146 = .ok (.laload, 1) := by decide +kernel
theorem d_Mod_fillPage_147 : decode b_Mod_fillPage 147 = .ok (.lastore, 1) := by decide +kernel
theorem d_Mod_fillPage_148 : decode b_Mod_fillPage 148 = .ok (.aload_n 0, 1) := by decide +kernel
theorem d_Mod_fillPage_149 : decode b_Mod_fillPage 149 = .ok (.getfield 109, 3) := by decide +kernel
theorem d_Mod_fillPage_152 : decode b_Mod_fillPage 152 = .ok (.aload_n 0, 1) := by decide +kernel
theorem d_Mod_fillPage_153 : decode b_Mod_fillPage 153 = .ok (.getfield 632, 3) := by decide +kernel
theorem d_Mod_fillPage_156 : decode b_Mod_fillPage 156 = .ok (.iconst 1, 1) := by decide +kernel
theorem d_Mod_fillPage_157 : decode b_Mod_fillPage 157 = .ok (.iadd, 1) := by decide +kernel
theorem d_Mod_fillPage_158 : decode b_Mod_fillPage 158 = .ok (.aload_n 0, 1) := by decide +kernel
theorem d_Mod_fillPage_159 : decode b_Mod_fillPage 159 = .ok (.getfield 109, 3) := by decide +kernel
theorem d_Mod_fillPage_162 : decode b_Mod_fillPage 162 = .ok (.aload_n 0, 1) := by decide +kernel
theorem d_Mod_fillPage_163 : decode b_Mod_fillPage 163 = .ok (.getfield 632, 3) := by decide +kernel
theorem d_Mod_fillPage_166 : decode b_Mod_fillPage 166 = .ok (.iaload, 1) := by decide +kernel
theorem d_Mod_fillPage_167 : decode b_Mod_fillPage 167 = .ok (.aload_n 0, 1) := by decide +kernel
theorem d_Mod_fillPage_168 : decode b_Mod_fillPage 168 = .ok (.getfield 75, 3) := by decide +kernel
theorem d_Mod_fillPage_171 : decode b_Mod_fillPage 171 = .ok (.iload 4, 2) := by decide +kernel
theorem d_Mod_fillPage_173 : decode b_Mod_fillPage 173 = .ok (.iaload, 1) := by decide +kernel
theorem d_Mod_fillPage_174 : decode b_Mod_fillPage 174 = .ok (.iadd, 1) := by decide +kernel
theorem d_Mod_fillPage_175 : decode b_Mod_fillPage 175 = .ok (.iastore, 1) := by decide +kernel
theorem d_Mod_fillPage_176 : decode b_Mod_fillPage 176 = .ok (.iconst 0, 1) := by decide +kernel
theorem d_Mod_fillPage_177 : decode b_Mod_fillPage 177 = .ok (.istore 5, 2) := by decide +kernel
theorem d_Mod_fillPage_129 : decode b_Mod_fillPage 129 = .ok (.goto 110, 3) := by decide +kernel
theorem d_Mod_fillPage_70 : decode b_Mod_fillPage 70 = .ok (.goto 169, 3) := by decide +kernel
theorem d_Mod_fillPage_0 : decode b_Mod_fillPage 0 = .ok (.aload_n 0, 1) := by decide +kernel
theorem d_Mod_fillPage_1 : decode b_Mod_fillPage 1 = .ok (.aload_n 0, 1) := by decide +kernel
theorem d_Mod_fillPage_2 : decode b_Mod_fillPage 2 = .ok (.iconst 0, 1) := by decide +kernel
theorem d_Mod_fillPage_3 : decode b_Mod_fillPage 3 = .ok (.iload_n 1, 1) := by decide +kernel
theorem d_Mod_fillPage_4 : decode b_Mod_fillPage 4 = .ok (.invokevirtual 789, 3) := by decide +kernel
theorem d_Mod_fillPage_7 : decode b_Mod_fillPage 7 = .ok (.putfield 623, 3) := by decide +kernel
theorem d_Mod_fillPage_10 : decode b_Mod_fillPage 10 = .ok (.aload_n 0, 1) := by decide +kernel
theorem d_Mod_fillPage_11 : decode b_Mod_fillPage 11 = .ok (.aload_n 0, 1) := by decide +kernel
theorem d_Mod_fillPage_12 : decode b_Mod_fillPage 12 = .ok (.iconst 0, 1) := by decide +kernel
theorem d_Mod_fillPage_13 : decode b_Mod_fillPage 13 = .ok (.iload_n 1, 1) := by decide +kernel
theorem d_Mod_fillPage_14 : decode b_Mod_fillPage 14 = .ok (.invokevirtual 792, 3) := by decide +kernel
theorem d_Mod_fillPage_17 : decode b_Mod_fillPage 17 = .ok (.putfield 733, 3) := by decide +kernel
theorem d_Mod_fillPage_20 : decode b_Mod_fillPage 20 = .ok (.aload_n 0, 1) := by decide +kernel
theorem d_Mod_fillPage_21 : decode b_Mod_fillPage 21 = .ok (.aload_n 0, 1) := by decide +kernel
theorem d_Mod_fillPage_22 : decode b_Mod_fillPage 22 = .ok (.iconst 0, 1) := by decide +kernel
theorem d_Mod_fillPage_23 : decode b_Mod_fillPage 23 = .ok (.iload_n 1, 1) := by decide +kernel
theorem d_Mod_fillPage_24 : decode b_Mod_fillPage 24 = .ok (.invokevirtual 786, 3) := by decide +kernel
theorem d_Mod_fillPage_27 : decode b_Mod_fillPage 27 = .ok (.putfield 739, 3) := by decide +kernel
theorem d_Mod_fillPage_30 : decode b_Mod_fillPage 30 = .ok (.aload_n 0, 1) := by decide +kernel
theorem d_Mod_fillPage_31 : decode b_Mod_fillPage 31 = .ok (.iconst 0, 1) := by decide +kernel
theorem d_Mod_fillPage_32 : decode b_Mod_fillPage 32 = .ok (.putfield 676, 3) := by decide +kernel
theorem d_Mod_fillPage_35 : decode b_Mod_fillPage 35 = .ok (.aload_n 0, 1) := by decide +kernel
theorem d_Mod_fillPage_36 : decode b_Mod_fillPage 36 = .ok (.iconst 0, 1) := by decide +kernel
theorem d_Mod_fillPage_37 : decode b_Mod_fillPage 37 = .ok (.putfield 632, 3) := by decide +kernel
theorem d_Mod_fillPage_40 : decode b_Mod_fillPage 40 = .ok (.aload_n 0, 1) := by decide +kernel
theorem d_Mod_fillPage_41 : decode b_Mod_fillPage 41 = .ok (.getfield 78, 3) := by decide +kernel
theorem d_Mod_fillPage_44 : decode b_Mod_fillPage 44 = .ok (.iload_n 2, 1) := by decide +kernel
theorem d_Mod_fillPage_45 : decode b_Mod_fillPage 45 = .ok (.iaload, 1) := by decide +kernel
theorem d_Mod_fillPage_46 : decode b_Mod_fillPage 46 = .ok (.istore 4, 2) := by decide +kernel
section
variable (l : Launch) (dC : Nat → ClassId) (dI : Nat → Nat → Nat) (cI cB cJ cZ : ClassId)
set_option maxRecDepth 100000 in
def j_Mod_record_137 (post : Int32 → St → Prop) (rec137 : Int32 → Int32 → Int32 → St → Prop) (l1 : Int32) (l2 : Int32) (l3 : Int32) (x : St) : Prop := (vp_in 0 (fN x 10) ∧ (((rA x 10 0) ≤ l3 → (((fI x 0 37) = 0 → (∀ x426 : St, x426 = setI x 0 34 ((fI x 0 34) + 1) → (vp_in (fI x426 0 34) (fN x426 23) ∧ ∀ x427 : St, x427 = setA x426 23 (fI x426 0 34) (fI x426 0 35) → post (-1) x427))) ∧ (¬ (fI x 0 37) = 0 → (∀ x428 : St, x428 = setI x 0 35 l1 → (∀ x429 : St, x429 = setI x428 0 36 l2 → post (-2) x429))))) ∧ (¬ (rA x 10 0) ≤ l3 → wp_Mod_stripe (fun (x430 : St) => rec137 l1 l2 (l3 + 1) x430) l3 0 0 0 0 x)))
set_option maxHeartbeats 4000000 in
set_option maxRecDepth 100000 in
theorem t_Mod_record_137 {p : Program} {l : Launch} {e : Env} {R : Room} {s : State} {m : MethodId} {args : Array Value} {below : List Frame} {meth : Method} {c : Code} {cells slots : Nat} {Q : State → Prop} {dC : Nat → ClassId} {dI : Nat → Nat → Nat} {cI cB cJ cZ : ClassId} {A : Nat → Prop} {ad : Nat → Nat} {post : Int32 → St → Prop} {rec137 : Int32 → Int32 → Int32 → St → Prop} (hx : p.tables.exec = Jvm.exec) (hb : c.code = b_Mod_record) (hml : c.maxLocals = 4) (hown : s.vm.findClass R_Mod = some m.cls) (hT : ∀ w ∈ TG, w.before args s = true) (hK : va_K (dC, dI) CL (TY cI cB cJ cZ) s) (hN : NW s) (hA : ∀ q : Nat, s.heap.size ≤ q → A q) (hRc : cells ≤ R.cells) (hRs : slots ≤ R.slots) (hRf : 206 ≤ R.frames) (hRl : 6100 ≤ R.locals) (hret : ∀ (r : Int32) (x : St) (H : Heap) (locs : List Loc) (pc : Nat) (ls : Array Slot), decode b_Mod_record pc = .ok (.ireturn, 1) → post r x → Wd dC dI cI cB cJ cZ ad stM kcM 115 A x H → va_S A s.heap H locs → W p l e R s m args below meth c H locs cells slots Q (F0 m pc ls [.int r])) (hrec137 : ∀ (l1 : Int32) (l2 : Int32) (l3 : Int32) (x : St) (H : Heap) (locs : List Loc) (ls : Array Slot), rec137 l1 l2 l3 x → Wd dC dI cI cB cJ cZ ad stM kcM 115 A x H → va_S A s.heap H locs → lv_has ls 4 [(0, .ref (ad 0)), (1, .int l1), (2, .int l2), (3, .int l3)] → W p l e R s m args below meth c H locs cells slots Q (F0 m 137 ls [])) : ∀ (l1 : Int32) (l2 : Int32) (l3 : Int32) (x : St) (H : Heap) (locs : List Loc) (ls : Array Slot), j_Mod_record_137 post rec137 l1 l2 l3 x → Wd dC dI cI cB cJ cZ ad stM kcM 115 A x H → va_S A s.heap H locs → lv_has ls 4 [(0, .ref (ad 0)), (1, .int l1), (2, .int l2), (3, .int l3)] → W p l e R s m args below meth c H locs cells slots Q (F0 m 137 ls []) := by
  intro l1 l2 l3 x H locs ls  hw hW hS hl
  unfold j_Mod_record_137 at hw
  refine lv_iload_n hx hb d_Mod_record_137 rfl (lv_at hl 3 rfl) ?_
  refine lv_aload_n hx hb d_Mod_record_138 rfl (lv_at hl 0 rfl) ?_
  refine w_getf (q := 10) (k := 12) (t := 12) (C := R_Mod) (T := F_Mod) (N := 167) hx hb hT hown hK hW ko_0.1 ko_0.2 (by decide) in_Mod rfl rfl (by decide) rfl fr_Mod_12 w_8_192 d_Mod_record_139 rfl ?_
  refine lv_iconst (v := 0) hx hb d_Mod_record_142 (by decide) ?_
  obtain ⟨hi, hw⟩ := hw
  refine w_iald (o := 10) hx hb hK hW ko_10.1 ko_10.2 hi d_Mod_record_143 ?_
  refine lv_icmp_ge (tgt := 162) hx hb d_Mod_record_144 (by decide) (fun c424 => ?_) (fun c424 => ?_)
  · have hw := hw.1 c424
    refine lv_aload_n hx hb d_Mod_record_162 rfl (lv_at hl 0 rfl) ?_
    refine w_geti (k := 37) (t := 12) (C := R_Mod) (T := F_Mod) (N := 167) hx hb hT hown hK hW ko_0.1 ko_0.2 (by decide) in_Mod rfl rfl (by decide) rfl fr_Mod_37 w_8_217 d_Mod_record_163 ?_
    refine lv_if_eq (tgt := 182) hx hb d_Mod_record_166 (by decide) (fun c425 => ?_) (fun c425 => ?_)
    · have hw := hw.1 c425
      refine lv_aload_n hx hb d_Mod_record_182 rfl (lv_at hl 0 rfl) ?_
      refine lv_dup hx hb d_Mod_record_183 rfl ?_
      refine w_geti (k := 34) (t := 12) (C := R_Mod) (T := F_Mod) (N := 167) hx hb hT hown hK hW ko_0.1 ko_0.2 (by decide) in_Mod rfl rfl (by decide) rfl fr_Mod_34 w_8_214 d_Mod_record_184 ?_
      refine lv_iconst (v := 1) hx hb d_Mod_record_187 (by decide) ?_
      refine lv_iadd hx hb d_Mod_record_188 ?_
      refine w_puti (ty := .int) (k := 34) (t := 12) (C := R_Mod) (T := F_Mod) (N := 167) hx hb hT hown hK hW hS ko_0.1 ko_0.2 (by decide) in_Mod t_Mod t_Mod_ok n_Mod rfl rfl (by decide) rfl fr_Mod_34 w_8_214 (by decide +kernel) rfl rfl d_Mod_record_189 (fun H locs hW hS => ?_)
      obtain ⟨x426, ex426⟩ : ∃ y : St, y = setI x 0 34 ((fI x 0 34) + 1) := ⟨_, rfl⟩
      rw [← ex426] at hW
      have hw := hw x426 ex426
      refine lv_aload_n hx hb d_Mod_record_192 rfl (lv_at hl 0 rfl) ?_
      refine w_getf (q := 23) (k := 31) (t := 12) (C := R_Mod) (T := F_Mod) (N := 167) hx hb hT hown hK hW ko_0.1 ko_0.2 (by decide) in_Mod rfl rfl (by decide) rfl fr_Mod_31 w_8_211 d_Mod_record_193 rfl ?_
      refine lv_aload_n hx hb d_Mod_record_196 rfl (lv_at hl 0 rfl) ?_
      refine w_geti (k := 34) (t := 12) (C := R_Mod) (T := F_Mod) (N := 167) hx hb hT hown hK hW ko_0.1 ko_0.2 (by decide) in_Mod rfl rfl (by decide) rfl fr_Mod_34 w_8_214 d_Mod_record_197 ?_
      refine lv_aload_n hx hb d_Mod_record_200 rfl (lv_at hl 0 rfl) ?_
      refine w_geti (k := 35) (t := 12) (C := R_Mod) (T := F_Mod) (N := 167) hx hb hT hown hK hW ko_0.1 ko_0.2 (by decide) in_Mod rfl rfl (by decide) rfl fr_Mod_35 w_8_215 d_Mod_record_201 ?_
      obtain ⟨hi, hw⟩ := hw
      refine w_iast (o := 23) hx hb hK hW hS ko_23.1 ko_23.2 hi d_Mod_record_204 (fun H locs hW hS => ?_)
      obtain ⟨x427, ex427⟩ : ∃ y : St, y = setA x426 23 (fI x426 0 34) (fI x426 0 35) := ⟨_, rfl⟩
      rw [← ex427] at hW
      have hw := hw x427 ex427
      refine lv_iconst (v := (-1)) hx hb d_Mod_record_205 (by decide) ?_
      exact hret (-1) x427 H locs 206 ls d_Mod_record_206 hw hW hS
    · have hw := hw.2 c425
      refine lv_aload_n hx hb d_Mod_record_169 rfl (lv_at hl 0 rfl) ?_
      refine lv_iload_n hx hb d_Mod_record_170 rfl (lv_at hl 1 rfl) ?_
      refine w_puti (ty := .int) (k := 35) (t := 12) (C := R_Mod) (T := F_Mod) (N := 167) hx hb hT hown hK hW hS ko_0.1 ko_0.2 (by decide) in_Mod t_Mod t_Mod_ok n_Mod rfl rfl (by decide) rfl fr_Mod_35 w_8_215 (by decide +kernel) rfl rfl d_Mod_record_171 (fun H locs hW hS => ?_)
      obtain ⟨x428, ex428⟩ : ∃ y : St, y = setI x 0 35 l1 := ⟨_, rfl⟩
      rw [← ex428] at hW
      have hw := hw x428 ex428
      refine lv_aload_n hx hb d_Mod_record_174 rfl (lv_at hl 0 rfl) ?_
      refine lv_iload_n hx hb d_Mod_record_175 rfl (lv_at hl 2 rfl) ?_
      refine w_puti (ty := .int) (k := 36) (t := 12) (C := R_Mod) (T := F_Mod) (N := 167) hx hb hT hown hK hW hS ko_0.1 ko_0.2 (by decide) in_Mod t_Mod t_Mod_ok n_Mod rfl rfl (by decide) rfl fr_Mod_36 w_8_216 (by decide +kernel) rfl rfl d_Mod_record_176 (fun H locs hW hS => ?_)
      obtain ⟨x429, ex429⟩ : ∃ y : St, y = setI x428 0 36 l2 := ⟨_, rfl⟩
      rw [← ex429] at hW
      have hw := hw x429 ex429
      refine lv_bipush (v := (-2)) hx hb d_Mod_record_179 (by decide) ?_
      exact hret (-2) x429 H locs 181 ls d_Mod_record_181 hw hW hS
  · have hw := hw.2 c424
    refine lv_aload_n hx hb d_Mod_record_147 rfl (lv_at hl 0 rfl) ?_
    refine lv_iload_n hx hb d_Mod_record_148 rfl (lv_at hl 3 rfl) ?_
    refine lv_iconst (v := 0) hx hb d_Mod_record_149 (by decide) ?_
    refine lv_iconst (v := 0) hx hb d_Mod_record_150 (by decide) ?_
    refine lv_iconst (v := 0) hx hb d_Mod_record_151 (by decide) ?_
    refine lv_iconst (v := 0) hx hb d_Mod_record_152 (by decide) ?_
    have hF := hW.free hS hA
    refine va_callv (va_runV (C := R_Mod) (As := [.int l3, .int 0, .int 0, .int 0, .int 0]) (rest := []) ⟨hx, hb, hml, hown, hT⟩ (k_Mod_stripe l dC dI cI cB cJ cZ ad H.size l3 0 0 0 0 x  hw) ⟨callB_of 5 hT (gw_in w_11_110) rfl rfl rfl (hT _ w_1_15) (hT _ w_11_107) (by decide +kernel) ⟨Nat.le_trans (by decide) hRf, Nat.le_trans (by decide) hRl⟩, hT _ w_11_109, hT _ ws_135⟩ ⟨PW.blind, va_recv hK hW.1 (ci := 12) (q0 := 0) rfl (pic_obj ko_0.1 ko_0.2 (by decide)), PW.at _ hW hK hN⟩ rfl rfl hl.1 rfl (lv_room (Nat.le_of_ble_eq_true rfl)) d_Mod_record_153 ⟨hRc, hRs⟩) hS (fun q _ h => hF q h) hF (fun  x430 t H locs ht hvm hw hB hz1 hk1 hS => ?_)
    have hW := Wd.back hB ht hF
    clear hB ht hF hz1 hk1 hvm
    refine lv_iinc (v := (l3 + 1)) (lv' := [(3, .int (l3 + 1)), (0, .ref (ad 0)), (1, .int l1), (2, .int l2)]) hx hb d_Mod_record_156 hl (k := 3) rfl rfl (by decide) rfl (fun ls hl => ?_)
    refine lv_goto (tgt := 137) hx hb d_Mod_record_159 (by decide) ?_
    exact hrec137 l1 l2 (l3 + 1) x430 H locs ls  hw hW hS (lv_sub hl [1, 2, 3, 0] rfl)
def wl_Mod_record_137 (post : Int32 → St → Prop) : Nat → Int32 → Int32 → Int32 → St → Prop
  | 0 => fun _ _ _ _ => False
  | n + 1 => j_Mod_record_137 post (wl_Mod_record_137 post n)
set_option maxHeartbeats 4000000 in
set_option maxRecDepth 100000 in
theorem tl_Mod_record_137 {p : Program} {l : Launch} {e : Env} {R : Room} {s : State} {m : MethodId} {args : Array Value} {below : List Frame} {meth : Method} {c : Code} {cells slots : Nat} {Q : State → Prop} {dC : Nat → ClassId} {dI : Nat → Nat → Nat} {cI cB cJ cZ : ClassId} {A : Nat → Prop} {ad : Nat → Nat} {post : Int32 → St → Prop} (hx : p.tables.exec = Jvm.exec) (hb : c.code = b_Mod_record) (hml : c.maxLocals = 4) (hown : s.vm.findClass R_Mod = some m.cls) (hT : ∀ w ∈ TG, w.before args s = true) (hK : va_K (dC, dI) CL (TY cI cB cJ cZ) s) (hN : NW s) (hA : ∀ q : Nat, s.heap.size ≤ q → A q) (hRc : cells ≤ R.cells) (hRs : slots ≤ R.slots) (hRf : 206 ≤ R.frames) (hRl : 6100 ≤ R.locals) (hret : ∀ (r : Int32) (x : St) (H : Heap) (locs : List Loc) (pc : Nat) (ls : Array Slot), decode b_Mod_record pc = .ok (.ireturn, 1) → post r x → Wd dC dI cI cB cJ cZ ad stM kcM 115 A x H → va_S A s.heap H locs → W p l e R s m args below meth c H locs cells slots Q (F0 m pc ls [.int r]))  : ∀ n : Nat, ∀ (l1 : Int32) (l2 : Int32) (l3 : Int32) (x : St) (H : Heap) (locs : List Loc) (ls : Array Slot), wl_Mod_record_137 post n l1 l2 l3 x → Wd dC dI cI cB cJ cZ ad stM kcM 115 A x H → va_S A s.heap H locs → lv_has ls 4 [(0, .ref (ad 0)), (1, .int l1), (2, .int l2), (3, .int l3)] → W p l e R s m args below meth c H locs cells slots Q (F0 m 137 ls []) := by
  intro n
  induction n with
  | zero => intro l1 l2 l3 x H locs ls  hw; exact hw.elim
  | succ n ih => intro l1 l2 l3 x H locs ls  hw hW hS hl; exact t_Mod_record_137 hx hb hml hown hT hK hN hA hRc hRs hRf hRl hret  ih l1 l2 l3 x H locs ls  hw hW hS hl
set_option maxRecDepth 100000 in
def j_Mod_record_94 (post : Int32 → St → Prop)  (x : St) : Prop := (((fI x 0 17) = (-1) → ((¬ (fI x 0 34) = 2000 → (∀ v433 : Int32, v433 = (fI x 0 35) → (∀ v434 : Int32, v434 = (fI x 0 36) → (∀ x435 : St, x435 = setI x 0 37 0 → ∃ n : Nat, wl_Mod_record_137 post n v433 v434 0 x435)))) ∧ ((fI x 0 34) = 2000 → post (-2) x))) ∧ (¬ (fI x 0 17) = (-1) → post (fI x 0 17) x))
set_option maxHeartbeats 4000000 in
set_option maxRecDepth 100000 in
theorem t_Mod_record_94 {p : Program} {l : Launch} {e : Env} {R : Room} {s : State} {m : MethodId} {args : Array Value} {below : List Frame} {meth : Method} {c : Code} {cells slots : Nat} {Q : State → Prop} {dC : Nat → ClassId} {dI : Nat → Nat → Nat} {cI cB cJ cZ : ClassId} {A : Nat → Prop} {ad : Nat → Nat} {post : Int32 → St → Prop} (hx : p.tables.exec = Jvm.exec) (hb : c.code = b_Mod_record) (hml : c.maxLocals = 4) (hown : s.vm.findClass R_Mod = some m.cls) (hT : ∀ w ∈ TG, w.before args s = true) (hK : va_K (dC, dI) CL (TY cI cB cJ cZ) s) (hN : NW s) (hA : ∀ q : Nat, s.heap.size ≤ q → A q) (hRc : cells ≤ R.cells) (hRs : slots ≤ R.slots) (hRf : 206 ≤ R.frames) (hRl : 6100 ≤ R.locals) (hret : ∀ (r : Int32) (x : St) (H : Heap) (locs : List Loc) (pc : Nat) (ls : Array Slot), decode b_Mod_record pc = .ok (.ireturn, 1) → post r x → Wd dC dI cI cB cJ cZ ad stM kcM 115 A x H → va_S A s.heap H locs → W p l e R s m args below meth c H locs cells slots Q (F0 m pc ls [.int r]))  : ∀  (x : St) (H : Heap) (locs : List Loc) (ls : Array Slot), j_Mod_record_94 post  x → Wd dC dI cI cB cJ cZ ad stM kcM 115 A x H → va_S A s.heap H locs → lv_has ls 4 [(0, .ref (ad 0))] → W p l e R s m args below meth c H locs cells slots Q (F0 m 94 ls []) := by
  intro  x H locs ls  hw hW hS hl
  unfold j_Mod_record_94 at hw
  refine lv_aload_n hx hb d_Mod_record_94 rfl (lv_at hl 0 rfl) ?_
  refine w_geti (k := 17) (t := 12) (C := R_Mod) (T := F_Mod) (N := 167) hx hb hT hown hK hW ko_0.1 ko_0.2 (by decide) in_Mod rfl rfl (by decide) rfl fr_Mod_17 w_8_197 d_Mod_record_95 ?_
  refine lv_iconst (v := (-1)) hx hb d_Mod_record_98 (by decide) ?_
  refine lv_icmp_eq (tgt := 107) hx hb d_Mod_record_99 (by decide) (fun c431 => ?_) (fun c431 => ?_)
  · have hw := hw.1 c431
    refine lv_aload_n hx hb d_Mod_record_107 rfl (lv_at hl 0 rfl) ?_
    refine w_geti (k := 34) (t := 12) (C := R_Mod) (T := F_Mod) (N := 167) hx hb hT hown hK hW ko_0.1 ko_0.2 (by decide) in_Mod rfl rfl (by decide) rfl fr_Mod_34 w_8_214 d_Mod_record_108 ?_
    refine lv_sipush (v := 2000) hx hb d_Mod_record_111 (by decide) ?_
    refine lv_icmp_ne (tgt := 120) hx hb d_Mod_record_114 (by decide) (fun c432 => ?_) (fun c432 => ?_)
    · have hw := hw.1 c432
      refine lv_aload_n hx hb d_Mod_record_120 rfl (lv_at hl 0 rfl) ?_
      refine w_geti (k := 35) (t := 12) (C := R_Mod) (T := F_Mod) (N := 167) hx hb hT hown hK hW ko_0.1 ko_0.2 (by decide) in_Mod rfl rfl (by decide) rfl fr_Mod_35 w_8_215 d_Mod_record_121 ?_
      refine lv_topi (fun v433 ev433 => ?_)
      have hw := hw v433 ev433
      refine lv_istore_n (lv' := [(1, .int v433), (0, .ref (ad 0))]) hx hb d_Mod_record_124 rfl hl (by decide) rfl (fun ls hl => ?_)
      refine lv_aload_n hx hb d_Mod_record_125 rfl (lv_at hl 1 rfl) ?_
      refine w_geti (k := 36) (t := 12) (C := R_Mod) (T := F_Mod) (N := 167) hx hb hT hown hK hW ko_0.1 ko_0.2 (by decide) in_Mod rfl rfl (by decide) rfl fr_Mod_36 w_8_216 d_Mod_record_126 ?_
      refine lv_topi (fun v434 ev434 => ?_)
      have hw := hw v434 ev434
      refine lv_istore_n (lv' := [(2, .int v434), (1, .int v433), (0, .ref (ad 0))]) hx hb d_Mod_record_129 rfl hl (by decide) rfl (fun ls hl => ?_)
      refine lv_aload_n hx hb d_Mod_record_130 rfl (lv_at hl 2 rfl) ?_
      refine lv_iconst (v := 0) hx hb d_Mod_record_131 (by decide) ?_
      refine w_puti (ty := .boolean) (k := 37) (t := 12) (C := R_Mod) (T := F_Mod) (N := 167) hx hb hT hown hK hW hS ko_0.1 ko_0.2 (by decide) in_Mod t_Mod t_Mod_ok n_Mod rfl rfl (by decide) rfl fr_Mod_37 w_8_217 (by decide +kernel) rfl rfl d_Mod_record_132 (fun H locs hW hS => ?_)
      obtain ⟨x435, ex435⟩ : ∃ y : St, y = setI x 0 37 0 := ⟨_, rfl⟩
      rw [← ex435] at hW
      have hw := hw x435 ex435
      refine lv_iconst (v := 0) hx hb d_Mod_record_135 (by decide) ?_
      refine lv_istore_n (lv' := [(3, .int 0), (2, .int v434), (1, .int v433), (0, .ref (ad 0))]) hx hb d_Mod_record_136 rfl hl (by decide) rfl (fun ls hl => ?_)
      obtain ⟨n, hw⟩ := hw
      exact tl_Mod_record_137 hx hb hml hown hT hK hN hA hRc hRs hRf hRl hret  n v433 v434 0 x435 H locs ls  hw hW hS (lv_sub hl [3, 2, 1, 0] rfl)
    · have hw := hw.2 c432
      refine lv_bipush (v := (-2)) hx hb d_Mod_record_117 (by decide) ?_
      exact hret (-2) x H locs 119 ls d_Mod_record_119 hw hW hS
  · have hw := hw.2 c431
    refine lv_aload_n hx hb d_Mod_record_102 rfl (lv_at hl 0 rfl) ?_
    refine w_geti (k := 17) (t := 12) (C := R_Mod) (T := F_Mod) (N := 167) hx hb hT hown hK hW ko_0.1 ko_0.2 (by decide) in_Mod rfl rfl (by decide) rfl fr_Mod_17 w_8_197 d_Mod_record_103 ?_
    exact hret (fI x 0 17) x H locs 106 ls d_Mod_record_106 hw hW hS
set_option maxRecDepth 100000 in
def wp_Mod_record (post : Int32 → St → Prop)  (x : St) : Prop := (∀ x436 : St, x436 = setI x 0 0 0 → wp_Mod_begins (fun (x437 : St) => ((¬ (fI x437 0 14) = 0 → (((fI x437 0 15) ≤ 4000 → (∀ x440 : St, x440 = setI x437 0 24 1 → (∀ x441 : St, x441 = setI x440 0 25 0 → (vp_in 0 (fN x441 12) ∧ ∀ x442 : St, x442 = setA x441 12 0 (-1) → (vp_in 0 (fN x442 13) ∧ ∀ x443 : St, x443 = setA x442 13 0 (-1) → wp_Mod_readGroup (fun (x444 : St) => wp_Mod_blanks (fun (x445 : St) => ((¬ (fI x445 0 17) = (-1) → j_Mod_record_94 post  x445) ∧ ((fI x445 0 17) = (-1) → (((fI x445 0 15) ≤ (fI x445 0 16) → j_Mod_record_94 post  x445) ∧ (¬ (fI x445 0 15) ≤ (fI x445 0 16) → wp_Mod_fail (fun (x448 : St) => j_Mod_record_94 post  x448) (fI x445 0 16) x445)))))  x444) 0 (-1) x443))))) ∧ (¬ (fI x437 0 15) ≤ 4000 → post 4000 x437))) ∧ ((fI x437 0 14) = 0 → post (-2) x437)))  x436)
set_option maxHeartbeats 4000000 in
set_option maxRecDepth 100000 in
theorem t_Mod_record_e {p : Program} {l : Launch} {e : Env} {R : Room} {s : State} {m : MethodId} {args : Array Value} {below : List Frame} {meth : Method} {c : Code} {cells slots : Nat} {Q : State → Prop} {dC : Nat → ClassId} {dI : Nat → Nat → Nat} {cI cB cJ cZ : ClassId} {A : Nat → Prop} {ad : Nat → Nat} {post : Int32 → St → Prop} (hx : p.tables.exec = Jvm.exec) (hb : c.code = b_Mod_record) (hml : c.maxLocals = 4) (hown : s.vm.findClass R_Mod = some m.cls) (hT : ∀ w ∈ TG, w.before args s = true) (hK : va_K (dC, dI) CL (TY cI cB cJ cZ) s) (hN : NW s) (hA : ∀ q : Nat, s.heap.size ≤ q → A q) (hRc : cells ≤ R.cells) (hRs : slots ≤ R.slots) (hRf : 206 ≤ R.frames) (hRl : 6100 ≤ R.locals) (hret : ∀ (r : Int32) (x : St) (H : Heap) (locs : List Loc) (pc : Nat) (ls : Array Slot), decode b_Mod_record pc = .ok (.ireturn, 1) → post r x → Wd dC dI cI cB cJ cZ ad stM kcM 115 A x H → va_S A s.heap H locs → W p l e R s m args below meth c H locs cells slots Q (F0 m pc ls [.int r])) : ∀  (x : St) (H : Heap) (locs : List Loc) (ls : Array Slot), wp_Mod_record post  x → Wd dC dI cI cB cJ cZ ad stM kcM 115 A x H → va_S A s.heap H locs → lv_has ls 4 [(0, .ref (ad 0))] → W p l e R s m args below meth c H locs cells slots Q (F0 m 0 ls []) := by
  intro  x H locs ls  hw hW hS hl
  unfold wp_Mod_record at hw
  refine lv_aload_n hx hb d_Mod_record_0 rfl (lv_at hl 0 rfl) ?_
  refine lv_iconst (v := 0) hx hb d_Mod_record_1 (by decide) ?_
  refine w_puti (ty := .int) (k := 0) (t := 12) (C := R_Mod) (T := F_Mod) (N := 167) hx hb hT hown hK hW hS ko_0.1 ko_0.2 (by decide) in_Mod t_Mod t_Mod_ok n_Mod rfl rfl (by decide) rfl fr_Mod_0 w_8_180 (by decide +kernel) rfl rfl d_Mod_record_2 (fun H locs hW hS => ?_)
  obtain ⟨x436, ex436⟩ : ∃ y : St, y = setI x 0 0 0 := ⟨_, rfl⟩
  rw [← ex436] at hW
  have hw := hw x436 ex436
  refine lv_aload_n hx hb d_Mod_record_5 rfl (lv_at hl 0 rfl) ?_
  have hF := hW.free hS hA
  refine va_callv (va_runV (C := R_Mod) (As := []) (rest := []) ⟨hx, hb, hml, hown, hT⟩ (k_Mod_begins l dC dI cI cB cJ cZ ad H.size  x436  hw) ⟨callB_of 0 hT (gw_in w_10_217) rfl rfl rfl (hT _ w_1_15) (hT _ w_10_214) (by decide +kernel) ⟨Nat.le_trans (by decide) hRf, Nat.le_trans (by decide) hRl⟩, hT _ w_10_216, hT _ ws_108⟩ ⟨PW.blind, va_recv hK hW.1 (ci := 12) (q0 := 0) rfl (pic_obj ko_0.1 ko_0.2 (by decide)), PW.at _ hW hK hN⟩ rfl rfl hl.1 rfl (lv_room (Nat.le_of_ble_eq_true rfl)) d_Mod_record_6 ⟨hRc, hRs⟩) hS (fun q _ h => hF q h) hF (fun  x437 t H locs ht hvm hw hB hz1 hk1 hS => ?_)
  have hW := Wd.back hB ht hF
  clear hB ht hF hz1 hk1 hvm
  refine lv_aload_n hx hb d_Mod_record_9 rfl (lv_at hl 0 rfl) ?_
  refine w_geti (k := 14) (t := 12) (C := R_Mod) (T := F_Mod) (N := 167) hx hb hT hown hK hW ko_0.1 ko_0.2 (by decide) in_Mod rfl rfl (by decide) rfl fr_Mod_14 w_8_194 d_Mod_record_10 ?_
  refine lv_if_ne (tgt := 19) hx hb d_Mod_record_13 (by decide) (fun c438 => ?_) (fun c438 => ?_)
  · have hw := hw.1 c438
    refine lv_aload_n hx hb d_Mod_record_19 rfl (lv_at hl 0 rfl) ?_
    refine w_geti (k := 15) (t := 12) (C := R_Mod) (T := F_Mod) (N := 167) hx hb hT hown hK hW ko_0.1 ko_0.2 (by decide) in_Mod rfl rfl (by decide) rfl fr_Mod_15 w_8_195 d_Mod_record_20 ?_
    refine lv_sipush (v := 4000) hx hb d_Mod_record_23 (by decide) ?_
    refine lv_icmp_le (tgt := 33) hx hb d_Mod_record_26 (by decide) (fun c439 => ?_) (fun c439 => ?_)
    · have hw := hw.1 c439
      refine lv_aload_n hx hb d_Mod_record_33 rfl (lv_at hl 0 rfl) ?_
      refine lv_iconst (v := 1) hx hb d_Mod_record_34 (by decide) ?_
      refine w_puti (ty := .int) (k := 24) (t := 12) (C := R_Mod) (T := F_Mod) (N := 167) hx hb hT hown hK hW hS ko_0.1 ko_0.2 (by decide) in_Mod t_Mod t_Mod_ok n_Mod rfl rfl (by decide) rfl fr_Mod_24 w_8_204 (by decide +kernel) rfl rfl d_Mod_record_35 (fun H locs hW hS => ?_)
      obtain ⟨x440, ex440⟩ : ∃ y : St, y = setI x437 0 24 1 := ⟨_, rfl⟩
      rw [← ex440] at hW
      have hw := hw x440 ex440
      refine lv_aload_n hx hb d_Mod_record_38 rfl (lv_at hl 0 rfl) ?_
      refine lv_iconst (v := 0) hx hb d_Mod_record_39 (by decide) ?_
      refine w_puti (ty := .int) (k := 25) (t := 12) (C := R_Mod) (T := F_Mod) (N := 167) hx hb hT hown hK hW hS ko_0.1 ko_0.2 (by decide) in_Mod t_Mod t_Mod_ok n_Mod rfl rfl (by decide) rfl fr_Mod_25 w_8_205 (by decide +kernel) rfl rfl d_Mod_record_40 (fun H locs hW hS => ?_)
      obtain ⟨x441, ex441⟩ : ∃ y : St, y = setI x440 0 25 0 := ⟨_, rfl⟩
      rw [← ex441] at hW
      have hw := hw x441 ex441
      refine lv_aload_n hx hb d_Mod_record_43 rfl (lv_at hl 0 rfl) ?_
      refine w_getf (q := 12) (k := 18) (t := 12) (C := R_Mod) (T := F_Mod) (N := 167) hx hb hT hown hK hW ko_0.1 ko_0.2 (by decide) in_Mod rfl rfl (by decide) rfl fr_Mod_18 w_8_198 d_Mod_record_44 rfl ?_
      refine lv_iconst (v := 0) hx hb d_Mod_record_47 (by decide) ?_
      refine lv_iconst (v := (-1)) hx hb d_Mod_record_48 (by decide) ?_
      obtain ⟨hi, hw⟩ := hw
      refine w_iast (o := 12) hx hb hK hW hS ko_12.1 ko_12.2 hi d_Mod_record_49 (fun H locs hW hS => ?_)
      obtain ⟨x442, ex442⟩ : ∃ y : St, y = setA x441 12 0 (-1) := ⟨_, rfl⟩
      rw [← ex442] at hW
      have hw := hw x442 ex442
      refine lv_aload_n hx hb d_Mod_record_50 rfl (lv_at hl 0 rfl) ?_
      refine w_getf (q := 13) (k := 19) (t := 12) (C := R_Mod) (T := F_Mod) (N := 167) hx hb hT hown hK hW ko_0.1 ko_0.2 (by decide) in_Mod rfl rfl (by decide) rfl fr_Mod_19 w_8_199 d_Mod_record_51 rfl ?_
      refine lv_iconst (v := 0) hx hb d_Mod_record_54 (by decide) ?_
      refine lv_iconst (v := (-1)) hx hb d_Mod_record_55 (by decide) ?_
      obtain ⟨hi, hw⟩ := hw
      refine w_iast (o := 13) hx hb hK hW hS ko_13.1 ko_13.2 hi d_Mod_record_56 (fun H locs hW hS => ?_)
      obtain ⟨x443, ex443⟩ : ∃ y : St, y = setA x442 13 0 (-1) := ⟨_, rfl⟩
      rw [← ex443] at hW
      have hw := hw x443 ex443
      refine lv_aload_n hx hb d_Mod_record_57 rfl (lv_at hl 0 rfl) ?_
      refine lv_iconst (v := 0) hx hb d_Mod_record_58 (by decide) ?_
      refine lv_iconst (v := (-1)) hx hb d_Mod_record_59 (by decide) ?_
      have hF := hW.free hS hA
      refine va_callv (va_runV (C := R_Mod) (As := [.int 0, .int (-1)]) (rest := []) ⟨hx, hb, hml, hown, hT⟩ (k_Mod_readGroup l dC dI cI cB cJ cZ ad H.size 0 (-1) x443  hw) ⟨callB_of 2 hT (gw_in w_11_66) rfl rfl rfl (hT _ w_1_15) (hT _ w_11_63) (by decide +kernel) ⟨Nat.le_trans (by decide) hRf, Nat.le_trans (by decide) hRl⟩, hT _ w_11_65, hT _ ws_125⟩ ⟨PW.blind, va_recv hK hW.1 (ci := 12) (q0 := 0) rfl (pic_obj ko_0.1 ko_0.2 (by decide)), PW.at _ hW hK hN⟩ rfl rfl hl.1 rfl (lv_room (Nat.le_of_ble_eq_true rfl)) d_Mod_record_60 ⟨hRc, hRs⟩) hS (fun q _ h => hF q h) hF (fun  x444 t H locs ht hvm hw hB hz1 hk1 hS => ?_)
      have hW := Wd.back hB ht hF
      clear hB ht hF hz1 hk1 hvm
      refine lv_aload_n hx hb d_Mod_record_63 rfl (lv_at hl 0 rfl) ?_
      have hF := hW.free hS hA
      refine va_callv (va_runV (C := R_Mod) (As := []) (rest := []) ⟨hx, hb, hml, hown, hT⟩ (k_Mod_blanks l dC dI cI cB cJ cZ ad H.size  x444  hw) ⟨callB_of 0 hT (gw_in w_10_234) rfl rfl rfl (hT _ w_1_15) (hT _ w_10_231) (by decide +kernel) ⟨Nat.le_trans (by decide) hRf, Nat.le_trans (by decide) hRl⟩, hT _ w_10_233, hT _ ws_112⟩ ⟨PW.blind, va_recv hK hW.1 (ci := 12) (q0 := 0) rfl (pic_obj ko_0.1 ko_0.2 (by decide)), PW.at _ hW hK hN⟩ rfl rfl hl.1 rfl (lv_room (Nat.le_of_ble_eq_true rfl)) d_Mod_record_64 ⟨hRc, hRs⟩) hS (fun q _ h => hF q h) hF (fun  x445 t H locs ht hvm hw hB hz1 hk1 hS => ?_)
      have hW := Wd.back hB ht hF
      clear hB ht hF hz1 hk1 hvm
      refine lv_aload_n hx hb d_Mod_record_67 rfl (lv_at hl 0 rfl) ?_
      refine w_geti (k := 17) (t := 12) (C := R_Mod) (T := F_Mod) (N := 167) hx hb hT hown hK hW ko_0.1 ko_0.2 (by decide) in_Mod rfl rfl (by decide) rfl fr_Mod_17 w_8_197 d_Mod_record_68 ?_
      refine lv_iconst (v := (-1)) hx hb d_Mod_record_71 (by decide) ?_
      refine lv_icmp_ne (tgt := 94) hx hb d_Mod_record_72 (by decide) (fun c446 => ?_) (fun c446 => ?_)
      · have hw := hw.1 c446
        exact t_Mod_record_94 hx hb hml hown hT hK hN hA hRc hRs hRf hRl hret   x445 H locs ls  hw hW hS (lv_sub hl [0] rfl)
      · have hw := hw.2 c446
        refine lv_aload_n hx hb d_Mod_record_75 rfl (lv_at hl 0 rfl) ?_
        refine w_geti (k := 16) (t := 12) (C := R_Mod) (T := F_Mod) (N := 167) hx hb hT hown hK hW ko_0.1 ko_0.2 (by decide) in_Mod rfl rfl (by decide) rfl fr_Mod_16 w_8_196 d_Mod_record_76 ?_
        refine lv_aload_n hx hb d_Mod_record_79 rfl (lv_at hl 0 rfl) ?_
        refine w_geti (k := 15) (t := 12) (C := R_Mod) (T := F_Mod) (N := 167) hx hb hT hown hK hW ko_0.1 ko_0.2 (by decide) in_Mod rfl rfl (by decide) rfl fr_Mod_15 w_8_195 d_Mod_record_80 ?_
        refine lv_icmp_ge (tgt := 94) hx hb d_Mod_record_83 (by decide) (fun c447 => ?_) (fun c447 => ?_)
        · have hw := hw.1 c447
          exact t_Mod_record_94 hx hb hml hown hT hK hN hA hRc hRs hRf hRl hret   x445 H locs ls  hw hW hS (lv_sub hl [0] rfl)
        · have hw := hw.2 c447
          refine lv_aload_n hx hb d_Mod_record_86 rfl (lv_at hl 0 rfl) ?_
          refine lv_aload_n hx hb d_Mod_record_87 rfl (lv_at hl 0 rfl) ?_
          refine w_geti (k := 16) (t := 12) (C := R_Mod) (T := F_Mod) (N := 167) hx hb hT hown hK hW ko_0.1 ko_0.2 (by decide) in_Mod rfl rfl (by decide) rfl fr_Mod_16 w_8_196 d_Mod_record_88 ?_
          have hF := hW.free hS hA
          refine va_callv (va_runV (C := R_Mod) (As := [.int (fI x445 0 16)]) (rest := []) ⟨hx, hb, hml, hown, hT⟩ (k_Mod_fail l dC dI cI cB cJ cZ ad H.size (fI x445 0 16) x445  hw) ⟨callB_of 1 hT (gw_in w_11_18) rfl rfl rfl (hT _ w_1_15) (hT _ w_11_15) (by decide +kernel) ⟨Nat.le_trans (by decide) hRf, Nat.le_trans (by decide) hRl⟩, hT _ w_11_17, hT _ ws_116⟩ ⟨PW.blind, va_recv hK hW.1 (ci := 12) (q0 := 0) rfl (pic_obj ko_0.1 ko_0.2 (by decide)), PW.at _ hW hK hN⟩ rfl rfl hl.1 rfl (lv_room (Nat.le_of_ble_eq_true rfl)) d_Mod_record_91 ⟨hRc, hRs⟩) hS (fun q _ h => hF q h) hF (fun  x448 t H locs ht hvm hw hB hz1 hk1 hS => ?_)
          have hW := Wd.back hB ht hF
          clear hB ht hF hz1 hk1 hvm
          exact t_Mod_record_94 hx hb hml hown hT hK hN hA hRc hRs hRf hRl hret   x448 H locs ls  hw hW hS (lv_sub hl [0] rfl)
    · have hw := hw.2 c439
      refine lv_sipush (v := 4000) hx hb d_Mod_record_29 (by decide) ?_
      exact hret 4000 x437 H locs 32 ls d_Mod_record_32 hw hW hS
  · have hw := hw.2 c438
    refine lv_bipush (v := (-2)) hx hb d_Mod_record_16 (by decide) ?_
    exact hret (-2) x437 H locs 18 ls d_Mod_record_18 hw hW hS
set_option maxHeartbeats 4000000 in
set_option maxRecDepth 100000 in
theorem k_Mod_record (l : Launch) (dC : Nat → ClassId) (dI : Nat → Nat → Nat) (cI cB cJ cZ : ClassId) (ad : Nat → Nat) (sz : Nat)  (x : St) {post : Int32 → St → Prop} (hw : wp_Mod_record post  x) : Met l y_Mod_record (wsOf y_Mod_record b_Mod_record 4 (some (.int))) ({ frames := 206, cells := 0, slots := 0, locals := 6100 }) (va_Pc [.ref (ad 0)] (PW dC dI cI cB cJ cZ ad stM kcM 115 sz x)) (va_Qi (fun (r : Int32) (y : St) => post r y) (fun y t => Wd dC dI cI cB cJ cZ ad stM kcM 115 (va_A (pic ad stM kcM 115 cI cB cJ cZ x) sz) y t.heap) (va_A (pic ad stM kcM 115 cI cB cJ cZ x) sz)) 0 0 (va_A (pic ad stM kcM 115 cI cB cJ cZ x) sz) := by
  refine Met.ofW (cc := b_Mod_record) (maxL := 4) (ret := some (.int)) (by decide) rfl ?_
  intro p e s m args below meth c s₁ B hml hv
  obtain ⟨rfl, hsz, hW0, hK, hN⟩ := hv
  have hx := B.exec
  have hb := B.bytes
  have hr := B.returns
  have hts := atoms_spec B.pre
  have hT : ∀ w ∈ TG, w.before _ s = true := fun w h => hts w (List.mem_cons_of_mem _ h)
  have hown : s.vm.findClass R_Mod = some m.cls := findClass_of_methodNamed B.named
  have hlocks := B.notSynchronized
  subst hsz
  have hW : Wd dC dI cI cB cJ cZ ad stM kcM 115 (va_A (pic ad stM kcM 115 cI cB cJ cZ x) s.heap.size) x s.heap := ⟨hW0.1, hW0.2.1.self (sz := s.heap.size), hW0.2.2⟩
  generalize hAe : va_A (pic ad stM kcM 115 cI cB cJ cZ x) s.heap.size = A at hW ⊢
  have hA : ∀ q : Nat, s.heap.size ≤ q → A q := fun q h => by rw [← hAe]; exact Or.inr h
  have hS : va_S A s.heap s.heap [] := va_S.rf
  have hl := lv_entry ([.ref (ad 0)]) (n := 4) (Nat.le_of_ble_eq_true rfl)
  rw [lg_entry_eq]
  generalize (lg_sl ([.ref (ad 0)]) ++ List.replicate (4 - (lg_sl ([.ref (ad 0)])).length) Slot.unset).toArray = ls at hl ⊢
  have hl : lv_has ls 4 [(0, .ref (ad 0))] := hl
  exact t_Mod_record_e hx hb hml hown hT hK hN hA (Nat.le_refl 0) (Nat.le_refl 0) (Nat.le_refl 206) (Nat.le_refl 6100) (fun r x H locs pc ls hd hp hW hS => W.iret (v := r) hx hb hr (fun t ht hM => ⟨⟨r, x, rfl, hp, Wd.back hW ht.symm (fun _ z => z)⟩, hS.F ht⟩) hS.2.2 hd hlocks)   x _ _ ls  hw hW hS hl
set_option maxRecDepth 100000 in
def wp_Mod_records (post : Int32 → St → Prop)  (x : St) : Prop := (∀ x449 : St, x449 = setI x 0 0 0 → post (fI x449 0 34) x449)
set_option maxHeartbeats 4000000 in
set_option maxRecDepth 100000 in
theorem t_Mod_records_e {p : Program} {l : Launch} {e : Env} {R : Room} {s : State} {m : MethodId} {args : Array Value} {below : List Frame} {meth : Method} {c : Code} {cells slots : Nat} {Q : State → Prop} {dC : Nat → ClassId} {dI : Nat → Nat → Nat} {cI cB cJ cZ : ClassId} {A : Nat → Prop} {ad : Nat → Nat} {post : Int32 → St → Prop} (hx : p.tables.exec = Jvm.exec) (hb : c.code = b_Mod_records) (hml : c.maxLocals = 1) (hown : s.vm.findClass R_Mod = some m.cls) (hT : ∀ w ∈ TG, w.before args s = true) (hK : va_K (dC, dI) CL (TY cI cB cJ cZ) s) (hN : NW s) (hA : ∀ q : Nat, s.heap.size ≤ q → A q) (hRc : cells ≤ R.cells) (hRs : slots ≤ R.slots) (hRf : 0 ≤ R.frames) (hRl : 0 ≤ R.locals) (hret : ∀ (r : Int32) (x : St) (H : Heap) (locs : List Loc) (pc : Nat) (ls : Array Slot), decode b_Mod_records pc = .ok (.ireturn, 1) → post r x → Wd dC dI cI cB cJ cZ ad stM kcM 115 A x H → va_S A s.heap H locs → W p l e R s m args below meth c H locs cells slots Q (F0 m pc ls [.int r])) : ∀  (x : St) (H : Heap) (locs : List Loc) (ls : Array Slot), wp_Mod_records post  x → Wd dC dI cI cB cJ cZ ad stM kcM 115 A x H → va_S A s.heap H locs → lv_has ls 1 [(0, .ref (ad 0))] → W p l e R s m args below meth c H locs cells slots Q (F0 m 0 ls []) := by
  intro  x H locs ls  hw hW hS hl
  unfold wp_Mod_records at hw
  refine lv_aload_n hx hb d_Mod_records_0 rfl (lv_at hl 0 rfl) ?_
  refine lv_iconst (v := 0) hx hb d_Mod_records_1 (by decide) ?_
  refine w_puti (ty := .int) (k := 0) (t := 12) (C := R_Mod) (T := F_Mod) (N := 167) hx hb hT hown hK hW hS ko_0.1 ko_0.2 (by decide) in_Mod t_Mod t_Mod_ok n_Mod rfl rfl (by decide) rfl fr_Mod_0 w_8_180 (by decide +kernel) rfl rfl d_Mod_records_2 (fun H locs hW hS => ?_)
  obtain ⟨x449, ex449⟩ : ∃ y : St, y = setI x 0 0 0 := ⟨_, rfl⟩
  rw [← ex449] at hW
  have hw := hw x449 ex449
  refine lv_aload_n hx hb d_Mod_records_5 rfl (lv_at hl 0 rfl) ?_
  refine w_geti (k := 34) (t := 12) (C := R_Mod) (T := F_Mod) (N := 167) hx hb hT hown hK hW ko_0.1 ko_0.2 (by decide) in_Mod rfl rfl (by decide) rfl fr_Mod_34 w_8_214 d_Mod_records_6 ?_
  exact hret (fI x449 0 34) x449 H locs 9 ls d_Mod_records_9 hw hW hS
set_option maxHeartbeats 4000000 in
set_option maxRecDepth 100000 in
theorem k_Mod_records (l : Launch) (dC : Nat → ClassId) (dI : Nat → Nat → Nat) (cI cB cJ cZ : ClassId) (ad : Nat → Nat) (sz : Nat)  (x : St) {post : Int32 → St → Prop} (hw : wp_Mod_records post  x) : Met l y_Mod_records (wsOf y_Mod_records b_Mod_records 1 (some (.int))) ({ frames := 0, cells := 0, slots := 0, locals := 0 }) (va_Pc [.ref (ad 0)] (PW dC dI cI cB cJ cZ ad stM kcM 115 sz x)) (va_Qi (fun (r : Int32) (y : St) => post r y) (fun y t => Wd dC dI cI cB cJ cZ ad stM kcM 115 (va_A (pic ad stM kcM 115 cI cB cJ cZ x) sz) y t.heap) (va_A (pic ad stM kcM 115 cI cB cJ cZ x) sz)) 0 0 (va_A (pic ad stM kcM 115 cI cB cJ cZ x) sz) := by
  refine Met.ofW (cc := b_Mod_records) (maxL := 1) (ret := some (.int)) (by decide) rfl ?_
  intro p e s m args below meth c s₁ B hml hv
  obtain ⟨rfl, hsz, hW0, hK, hN⟩ := hv
  have hx := B.exec
  have hb := B.bytes
  have hr := B.returns
  have hts := atoms_spec B.pre
  have hT : ∀ w ∈ TG, w.before _ s = true := fun w h => hts w (List.mem_cons_of_mem _ h)
  have hown : s.vm.findClass R_Mod = some m.cls := findClass_of_methodNamed B.named
  have hlocks := B.notSynchronized
  subst hsz
  have hW : Wd dC dI cI cB cJ cZ ad stM kcM 115 (va_A (pic ad stM kcM 115 cI cB cJ cZ x) s.heap.size) x s.heap := ⟨hW0.1, hW0.2.1.self (sz := s.heap.size), hW0.2.2⟩
  generalize hAe : va_A (pic ad stM kcM 115 cI cB cJ cZ x) s.heap.size = A at hW ⊢
  have hA : ∀ q : Nat, s.heap.size ≤ q → A q := fun q h => by rw [← hAe]; exact Or.inr h
  have hS : va_S A s.heap s.heap [] := va_S.rf
  have hl := lv_entry ([.ref (ad 0)]) (n := 1) (Nat.le_of_ble_eq_true rfl)
  rw [lg_entry_eq]
  generalize (lg_sl ([.ref (ad 0)]) ++ List.replicate (1 - (lg_sl ([.ref (ad 0)])).length) Slot.unset).toArray = ls at hl ⊢
  have hl : lv_has ls 1 [(0, .ref (ad 0))] := hl
  exact t_Mod_records_e hx hb hml hown hT hK hN hA (Nat.le_refl 0) (Nat.le_refl 0) (Nat.le_refl 0) (Nat.le_refl 0) (fun r x H locs pc ls hd hp hW hS => W.iret (v := r) hx hb hr (fun t ht hM => ⟨⟨r, x, rfl, hp, Wd.back hW ht.symm (fun _ z => z)⟩, hS.F ht⟩) hS.2.2 hd hlocks)   x _ _ ls  hw hW hS hl
set_option maxRecDepth 100000 in
def wp_Mod_clear (post : St → Prop)  (x : St) : Prop := (∀ x450 : St, x450 = setI x 0 0 0 → wp_Mod_empty (fun (x451 : St) => post x451)  x450)
set_option maxHeartbeats 4000000 in
set_option maxRecDepth 100000 in
theorem t_Mod_clear_e {p : Program} {l : Launch} {e : Env} {R : Room} {s : State} {m : MethodId} {args : Array Value} {below : List Frame} {meth : Method} {c : Code} {cells slots : Nat} {Q : State → Prop} {dC : Nat → ClassId} {dI : Nat → Nat → Nat} {cI cB cJ cZ : ClassId} {A : Nat → Prop} {ad : Nat → Nat} {post : St → Prop} (hx : p.tables.exec = Jvm.exec) (hb : c.code = b_Mod_clear) (hml : c.maxLocals = 1) (hown : s.vm.findClass R_Mod = some m.cls) (hT : ∀ w ∈ TG, w.before args s = true) (hK : va_K (dC, dI) CL (TY cI cB cJ cZ) s) (hN : NW s) (hA : ∀ q : Nat, s.heap.size ≤ q → A q) (hRc : cells ≤ R.cells) (hRs : slots ≤ R.slots) (hRf : 1 ≤ R.frames) (hRl : 20 ≤ R.locals) (hret : ∀ (x : St) (H : Heap) (locs : List Loc) (pc : Nat) (ls : Array Slot), decode b_Mod_clear pc = .ok (.return_, 1) → post x → Wd dC dI cI cB cJ cZ ad stM kcM 115 A x H → va_S A s.heap H locs → W p l e R s m args below meth c H locs cells slots Q (F0 m pc ls [])) : ∀  (x : St) (H : Heap) (locs : List Loc) (ls : Array Slot), wp_Mod_clear post  x → Wd dC dI cI cB cJ cZ ad stM kcM 115 A x H → va_S A s.heap H locs → lv_has ls 1 [(0, .ref (ad 0))] → W p l e R s m args below meth c H locs cells slots Q (F0 m 0 ls []) := by
  intro  x H locs ls  hw hW hS hl
  unfold wp_Mod_clear at hw
  refine lv_aload_n hx hb d_Mod_clear_0 rfl (lv_at hl 0 rfl) ?_
  refine lv_iconst (v := 0) hx hb d_Mod_clear_1 (by decide) ?_
  refine w_puti (ty := .int) (k := 0) (t := 12) (C := R_Mod) (T := F_Mod) (N := 167) hx hb hT hown hK hW hS ko_0.1 ko_0.2 (by decide) in_Mod t_Mod t_Mod_ok n_Mod rfl rfl (by decide) rfl fr_Mod_0 w_8_180 (by decide +kernel) rfl rfl d_Mod_clear_2 (fun H locs hW hS => ?_)
  obtain ⟨x450, ex450⟩ : ∃ y : St, y = setI x 0 0 0 := ⟨_, rfl⟩
  rw [← ex450] at hW
  have hw := hw x450 ex450
  refine lv_aload_n hx hb d_Mod_clear_5 rfl (lv_at hl 0 rfl) ?_
  have hF := hW.free hS hA
  refine va_callv (va_runV (C := R_Mod) (As := []) (rest := []) ⟨hx, hb, hml, hown, hT⟩ (k_Mod_empty l dC dI cI cB cJ cZ ad H.size  x450  hw) ⟨callB_of 0 hT (gw_in w_11_58) rfl rfl rfl (hT _ w_1_15) (hT _ w_11_55) (by decide +kernel) ⟨Nat.le_trans (by decide) hRf, Nat.le_trans (by decide) hRl⟩, hT _ w_11_57, hT _ ws_124⟩ ⟨PW.blind, va_recv hK hW.1 (ci := 12) (q0 := 0) rfl (pic_obj ko_0.1 ko_0.2 (by decide)), PW.at _ hW hK hN⟩ rfl rfl hl.1 rfl (lv_room (Nat.le_of_ble_eq_true rfl)) d_Mod_clear_6 ⟨hRc, hRs⟩) hS (fun q _ h => hF q h) hF (fun  x451 t H locs ht hvm hw hB hz1 hk1 hS => ?_)
  have hW := Wd.back hB ht hF
  clear hB ht hF hz1 hk1 hvm
  exact hret x451 H locs 9 ls d_Mod_clear_9 hw hW hS
set_option maxHeartbeats 4000000 in
set_option maxRecDepth 100000 in
theorem k_Mod_clear (l : Launch) (dC : Nat → ClassId) (dI : Nat → Nat → Nat) (cI cB cJ cZ : ClassId) (ad : Nat → Nat) (sz : Nat)  (x : St) {post : St → Prop} (hw : wp_Mod_clear post  x) : Met l y_Mod_clear (wsOf y_Mod_clear b_Mod_clear 1 (none)) ({ frames := 1, cells := 0, slots := 0, locals := 20 }) (va_Pc [.ref (ad 0)] (PW dC dI cI cB cJ cZ ad stM kcM 115 sz x)) (va_Qv (fun (y : St) => post y) (fun y t => Wd dC dI cI cB cJ cZ ad stM kcM 115 (va_A (pic ad stM kcM 115 cI cB cJ cZ x) sz) y t.heap) (va_A (pic ad stM kcM 115 cI cB cJ cZ x) sz)) 0 0 (va_A (pic ad stM kcM 115 cI cB cJ cZ x) sz) := by
  refine Met.ofW (cc := b_Mod_clear) (maxL := 1) (ret := none) (by decide) rfl ?_
  intro p e s m args below meth c s₁ B hml hv
  obtain ⟨rfl, hsz, hW0, hK, hN⟩ := hv
  have hx := B.exec
  have hb := B.bytes
  have hr := B.returns
  have hts := atoms_spec B.pre
  have hT : ∀ w ∈ TG, w.before _ s = true := fun w h => hts w (List.mem_cons_of_mem _ h)
  have hown : s.vm.findClass R_Mod = some m.cls := findClass_of_methodNamed B.named
  have hlocks := B.notSynchronized
  subst hsz
  have hW : Wd dC dI cI cB cJ cZ ad stM kcM 115 (va_A (pic ad stM kcM 115 cI cB cJ cZ x) s.heap.size) x s.heap := ⟨hW0.1, hW0.2.1.self (sz := s.heap.size), hW0.2.2⟩
  generalize hAe : va_A (pic ad stM kcM 115 cI cB cJ cZ x) s.heap.size = A at hW ⊢
  have hA : ∀ q : Nat, s.heap.size ≤ q → A q := fun q h => by rw [← hAe]; exact Or.inr h
  have hS : va_S A s.heap s.heap [] := va_S.rf
  have hl := lv_entry ([.ref (ad 0)]) (n := 1) (Nat.le_of_ble_eq_true rfl)
  rw [lg_entry_eq]
  generalize (lg_sl ([.ref (ad 0)]) ++ List.replicate (1 - (lg_sl ([.ref (ad 0)])).length) Slot.unset).toArray = ls at hl ⊢
  have hl : lv_has ls 1 [(0, .ref (ad 0))] := hl
  exact t_Mod_clear_e hx hb hml hown hT hK hN hA (Nat.le_refl 0) (Nat.le_refl 0) (Nat.le_refl 1) (Nat.le_refl 20) (fun x H locs pc ls hd hp hW hS => W.vret hx hb hr (fun t ht hM => ⟨⟨x, rfl, hp, Wd.back hW ht.symm (fun _ z => z)⟩, hS.F ht⟩) hS.2.2 hd hlocks)   x _ _ ls  hw hW hS hl
set_option maxRecDepth 100000 in
def j_Mod_addByte_19 (post : St → Prop) (l1 : Int32) (x : St) : Prop := (∀ x452 : St, x452 = setI x 0 66 ((fI x 0 66) + 1) → post x452)
set_option maxHeartbeats 4000000 in
set_option maxRecDepth 100000 in
theorem t_Mod_addByte_19 {p : Program} {l : Launch} {e : Env} {R : Room} {s : State} {m : MethodId} {args : Array Value} {below : List Frame} {meth : Method} {c : Code} {cells slots : Nat} {Q : State → Prop} {dC : Nat → ClassId} {dI : Nat → Nat → Nat} {cI cB cJ cZ : ClassId} {A : Nat → Prop} {ad : Nat → Nat} {post : St → Prop} (hx : p.tables.exec = Jvm.exec) (hb : c.code = b_Mod_addByte) (hml : c.maxLocals = 2) (hown : s.vm.findClass R_Mod = some m.cls) (hT : ∀ w ∈ TG, w.before args s = true) (hK : va_K (dC, dI) CL (TY cI cB cJ cZ) s) (hN : NW s) (hA : ∀ q : Nat, s.heap.size ≤ q → A q) (hRc : cells ≤ R.cells) (hRs : slots ≤ R.slots) (hRf : 0 ≤ R.frames) (hRl : 0 ≤ R.locals) (hret : ∀ (x : St) (H : Heap) (locs : List Loc) (pc : Nat) (ls : Array Slot), decode b_Mod_addByte pc = .ok (.return_, 1) → post x → Wd dC dI cI cB cJ cZ ad stM kcM 115 A x H → va_S A s.heap H locs → W p l e R s m args below meth c H locs cells slots Q (F0 m pc ls []))  : ∀ (l1 : Int32) (x : St) (H : Heap) (locs : List Loc) (ls : Array Slot), j_Mod_addByte_19 post l1 x → Wd dC dI cI cB cJ cZ ad stM kcM 115 A x H → va_S A s.heap H locs → lv_has ls 2 [(0, .ref (ad 0)), (1, .int l1)] → W p l e R s m args below meth c H locs cells slots Q (F0 m 19 ls []) := by
  intro l1 x H locs ls  hw hW hS hl
  unfold j_Mod_addByte_19 at hw
  refine lv_aload_n hx hb d_Mod_addByte_19 rfl (lv_at hl 0 rfl) ?_
  refine lv_dup hx hb d_Mod_addByte_20 rfl ?_
  refine w_geti (k := 66) (t := 12) (C := R_Mod) (T := F_Mod) (N := 167) hx hb hT hown hK hW ko_0.1 ko_0.2 (by decide) in_Mod rfl rfl (by decide) rfl fr_Mod_66 w_9_6 d_Mod_addByte_21 ?_
  refine lv_iconst (v := 1) hx hb d_Mod_addByte_24 (by decide) ?_
  refine lv_iadd hx hb d_Mod_addByte_25 ?_
  refine w_puti (ty := .int) (k := 66) (t := 12) (C := R_Mod) (T := F_Mod) (N := 167) hx hb hT hown hK hW hS ko_0.1 ko_0.2 (by decide) in_Mod t_Mod t_Mod_ok n_Mod rfl rfl (by decide) rfl fr_Mod_66 w_9_6 (by decide +kernel) rfl rfl d_Mod_addByte_26 (fun H locs hW hS => ?_)
  obtain ⟨x452, ex452⟩ : ∃ y : St, y = setI x 0 66 ((fI x 0 66) + 1) := ⟨_, rfl⟩
  rw [← ex452] at hW
  have hw := hw x452 ex452
  exact hret x452 H locs 29 ls d_Mod_addByte_29 hw hW hS
set_option maxRecDepth 100000 in
def wp_Mod_addByte (post : St → Prop) (l1 : Int32) (x : St) : Prop := ((40000 ≤ (fI x 0 66) → j_Mod_addByte_19 post l1 x) ∧ (¬ 40000 ≤ (fI x 0 66) → (vp_in (fI x 0 66) (fN x 42) ∧ ∀ x454 : St, x454 = setA x 42 (fI x 0 66) l1 → j_Mod_addByte_19 post l1 x454)))
set_option maxHeartbeats 4000000 in
set_option maxRecDepth 100000 in
theorem t_Mod_addByte_e {p : Program} {l : Launch} {e : Env} {R : Room} {s : State} {m : MethodId} {args : Array Value} {below : List Frame} {meth : Method} {c : Code} {cells slots : Nat} {Q : State → Prop} {dC : Nat → ClassId} {dI : Nat → Nat → Nat} {cI cB cJ cZ : ClassId} {A : Nat → Prop} {ad : Nat → Nat} {post : St → Prop} (hx : p.tables.exec = Jvm.exec) (hb : c.code = b_Mod_addByte) (hml : c.maxLocals = 2) (hown : s.vm.findClass R_Mod = some m.cls) (hT : ∀ w ∈ TG, w.before args s = true) (hK : va_K (dC, dI) CL (TY cI cB cJ cZ) s) (hN : NW s) (hA : ∀ q : Nat, s.heap.size ≤ q → A q) (hRc : cells ≤ R.cells) (hRs : slots ≤ R.slots) (hRf : 0 ≤ R.frames) (hRl : 0 ≤ R.locals) (hret : ∀ (x : St) (H : Heap) (locs : List Loc) (pc : Nat) (ls : Array Slot), decode b_Mod_addByte pc = .ok (.return_, 1) → post x → Wd dC dI cI cB cJ cZ ad stM kcM 115 A x H → va_S A s.heap H locs → W p l e R s m args below meth c H locs cells slots Q (F0 m pc ls [])) : ∀ (l1 : Int32) (x : St) (H : Heap) (locs : List Loc) (ls : Array Slot), wp_Mod_addByte post l1 x → Wd dC dI cI cB cJ cZ ad stM kcM 115 A x H → va_S A s.heap H locs → lv_has ls 2 [(0, .ref (ad 0)), (1, .int l1)] → W p l e R s m args below meth c H locs cells slots Q (F0 m 0 ls []) := by
  intro l1 x H locs ls  hw hW hS hl
  unfold wp_Mod_addByte at hw
  refine lv_aload_n hx hb d_Mod_addByte_0 rfl (lv_at hl 0 rfl) ?_
  refine w_geti (k := 66) (t := 12) (C := R_Mod) (T := F_Mod) (N := 167) hx hb hT hown hK hW ko_0.1 ko_0.2 (by decide) in_Mod rfl rfl (by decide) rfl fr_Mod_66 w_9_6 d_Mod_addByte_1 ?_
  refine lv_ldc hx hb hown (hT _ w_8_175) d_Mod_addByte_4 ?_
  refine lv_icmp_ge (tgt := 19) hx hb d_Mod_addByte_6 (by decide) (fun c453 => ?_) (fun c453 => ?_)
  · have hw := hw.1 c453
    exact t_Mod_addByte_19 hx hb hml hown hT hK hN hA hRc hRs hRf hRl hret  l1 x H locs ls  hw hW hS (lv_sub hl [0, 1] rfl)
  · have hw := hw.2 c453
    refine lv_aload_n hx hb d_Mod_addByte_9 rfl (lv_at hl 0 rfl) ?_
    refine w_getf (q := 42) (k := 63) (t := 12) (C := R_Mod) (T := F_Mod) (N := 167) hx hb hT hown hK hW ko_0.1 ko_0.2 (by decide) in_Mod rfl rfl (by decide) rfl fr_Mod_63 w_9_3 d_Mod_addByte_10 rfl ?_
    refine lv_aload_n hx hb d_Mod_addByte_13 rfl (lv_at hl 0 rfl) ?_
    refine w_geti (k := 66) (t := 12) (C := R_Mod) (T := F_Mod) (N := 167) hx hb hT hown hK hW ko_0.1 ko_0.2 (by decide) in_Mod rfl rfl (by decide) rfl fr_Mod_66 w_9_6 d_Mod_addByte_14 ?_
    refine lv_iload_n hx hb d_Mod_addByte_17 rfl (lv_at hl 1 rfl) ?_
    obtain ⟨hi, hw⟩ := hw
    refine w_iast (o := 42) hx hb hK hW hS ko_42.1 ko_42.2 hi d_Mod_addByte_18 (fun H locs hW hS => ?_)
    obtain ⟨x454, ex454⟩ : ∃ y : St, y = setA x 42 (fI x 0 66) l1 := ⟨_, rfl⟩
    rw [← ex454] at hW
    have hw := hw x454 ex454
    exact t_Mod_addByte_19 hx hb hml hown hT hK hN hA hRc hRs hRf hRl hret  l1 x454 H locs ls  hw hW hS (lv_sub hl [0, 1] rfl)
set_option maxHeartbeats 4000000 in
set_option maxRecDepth 100000 in
theorem k_Mod_addByte (l : Launch) (dC : Nat → ClassId) (dI : Nat → Nat → Nat) (cI cB cJ cZ : ClassId) (ad : Nat → Nat) (sz : Nat) (l1 : Int32) (x : St) {post : St → Prop} (hw : wp_Mod_addByte post l1 x) : Met l y_Mod_addByte (wsOf y_Mod_addByte b_Mod_addByte 2 (none)) ({ frames := 0, cells := 0, slots := 0, locals := 0 }) (va_Pc [.ref (ad 0), .int l1] (PW dC dI cI cB cJ cZ ad stM kcM 115 sz x)) (va_Qv (fun (y : St) => post y) (fun y t => Wd dC dI cI cB cJ cZ ad stM kcM 115 (va_A (pic ad stM kcM 115 cI cB cJ cZ x) sz) y t.heap) (va_A (pic ad stM kcM 115 cI cB cJ cZ x) sz)) 0 0 (va_A (pic ad stM kcM 115 cI cB cJ cZ x) sz) := by
  refine Met.ofW (cc := b_Mod_addByte) (maxL := 2) (ret := none) (by decide) rfl ?_
  intro p e s m args below meth c s₁ B hml hv
  obtain ⟨rfl, hsz, hW0, hK, hN⟩ := hv
  have hx := B.exec
  have hb := B.bytes
  have hr := B.returns
  have hts := atoms_spec B.pre
  have hT : ∀ w ∈ TG, w.before _ s = true := fun w h => hts w (List.mem_cons_of_mem _ h)
  have hown : s.vm.findClass R_Mod = some m.cls := findClass_of_methodNamed B.named
  have hlocks := B.notSynchronized
  subst hsz
  have hW : Wd dC dI cI cB cJ cZ ad stM kcM 115 (va_A (pic ad stM kcM 115 cI cB cJ cZ x) s.heap.size) x s.heap := ⟨hW0.1, hW0.2.1.self (sz := s.heap.size), hW0.2.2⟩
  generalize hAe : va_A (pic ad stM kcM 115 cI cB cJ cZ x) s.heap.size = A at hW ⊢
  have hA : ∀ q : Nat, s.heap.size ≤ q → A q := fun q h => by rw [← hAe]; exact Or.inr h
  have hS : va_S A s.heap s.heap [] := va_S.rf
  have hl := lv_entry ([.ref (ad 0), .int l1]) (n := 2) (Nat.le_of_ble_eq_true rfl)
  rw [lg_entry_eq]
  generalize (lg_sl ([.ref (ad 0), .int l1]) ++ List.replicate (2 - (lg_sl ([.ref (ad 0), .int l1])).length) Slot.unset).toArray = ls at hl ⊢
  have hl : lv_has ls 2 [(0, .ref (ad 0)), (1, .int l1)] := hl
  exact t_Mod_addByte_e hx hb hml hown hT hK hN hA (Nat.le_refl 0) (Nat.le_refl 0) (Nat.le_refl 0) (Nat.le_refl 0) (fun x H locs pc ls hd hp hW hS => W.vret hx hb hr (fun t ht hM => ⟨⟨x, rfl, hp, Wd.back hW ht.symm (fun _ z => z)⟩, hS.F ht⟩) hS.2.2 hd hlocks)  l1 x _ _ ls  hw hW hS hl
set_option maxRecDepth 100000 in
def wp_Mod_addFrame (post : St → Prop)  (x : St) : Prop := wp_Mod_addByte (fun (x455 : St) => wp_Mod_addByte (fun (x456 : St) => wp_Mod_addByte (fun (x457 : St) => wp_Mod_addByte (fun (x458 : St) => post x458) 66 x457) 82 x456) 84 x455) 83 x
set_option maxHeartbeats 4000000 in
set_option maxRecDepth 100000 in
theorem t_Mod_addFrame_e {p : Program} {l : Launch} {e : Env} {R : Room} {s : State} {m : MethodId} {args : Array Value} {below : List Frame} {meth : Method} {c : Code} {cells slots : Nat} {Q : State → Prop} {dC : Nat → ClassId} {dI : Nat → Nat → Nat} {cI cB cJ cZ : ClassId} {A : Nat → Prop} {ad : Nat → Nat} {post : St → Prop} (hx : p.tables.exec = Jvm.exec) (hb : c.code = b_Mod_addFrame) (hml : c.maxLocals = 1) (hown : s.vm.findClass R_Mod = some m.cls) (hT : ∀ w ∈ TG, w.before args s = true) (hK : va_K (dC, dI) CL (TY cI cB cJ cZ) s) (hN : NW s) (hA : ∀ q : Nat, s.heap.size ≤ q → A q) (hRc : cells ≤ R.cells) (hRs : slots ≤ R.slots) (hRf : 1 ≤ R.frames) (hRl : 21 ≤ R.locals) (hret : ∀ (x : St) (H : Heap) (locs : List Loc) (pc : Nat) (ls : Array Slot), decode b_Mod_addFrame pc = .ok (.return_, 1) → post x → Wd dC dI cI cB cJ cZ ad stM kcM 115 A x H → va_S A s.heap H locs → W p l e R s m args below meth c H locs cells slots Q (F0 m pc ls [])) : ∀  (x : St) (H : Heap) (locs : List Loc) (ls : Array Slot), wp_Mod_addFrame post  x → Wd dC dI cI cB cJ cZ ad stM kcM 115 A x H → va_S A s.heap H locs → lv_has ls 1 [(0, .ref (ad 0))] → W p l e R s m args below meth c H locs cells slots Q (F0 m 0 ls []) := by
  intro  x H locs ls  hw hW hS hl
  unfold wp_Mod_addFrame at hw
  refine lv_aload_n hx hb d_Mod_addFrame_0 rfl (lv_at hl 0 rfl) ?_
  refine lv_bipush (v := 83) hx hb d_Mod_addFrame_1 (by decide) ?_
  have hF := hW.free hS hA
  refine va_callv (va_runV (C := R_Mod) (As := [.int 83]) (rest := []) ⟨hx, hb, hml, hown, hT⟩ (k_Mod_addByte l dC dI cI cB cJ cZ ad H.size 83 x  hw) ⟨callB_of 1 hT (gw_in w_11_142) rfl rfl rfl (hT _ w_1_15) (hT _ w_11_139) (by decide +kernel) ⟨Nat.le_trans (by decide) hRf, Nat.le_trans (by decide) hRl⟩, hT _ w_11_141, hT _ ws_140⟩ ⟨PW.blind, va_recv hK hW.1 (ci := 12) (q0 := 0) rfl (pic_obj ko_0.1 ko_0.2 (by decide)), PW.at _ hW hK hN⟩ rfl rfl hl.1 rfl (lv_room (Nat.le_of_ble_eq_true rfl)) d_Mod_addFrame_3 ⟨hRc, hRs⟩) hS (fun q _ h => hF q h) hF (fun  x455 t H locs ht hvm hw hB hz1 hk1 hS => ?_)
  have hW := Wd.back hB ht hF
  clear hB ht hF hz1 hk1 hvm
  refine lv_aload_n hx hb d_Mod_addFrame_6 rfl (lv_at hl 0 rfl) ?_
  refine lv_bipush (v := 84) hx hb d_Mod_addFrame_7 (by decide) ?_
  have hF := hW.free hS hA
  refine va_callv (va_runV (C := R_Mod) (As := [.int 84]) (rest := []) ⟨hx, hb, hml, hown, hT⟩ (k_Mod_addByte l dC dI cI cB cJ cZ ad H.size 84 x455  hw) ⟨callB_of 1 hT (gw_in w_11_142) rfl rfl rfl (hT _ w_1_15) (hT _ w_11_139) (by decide +kernel) ⟨Nat.le_trans (by decide) hRf, Nat.le_trans (by decide) hRl⟩, hT _ w_11_141, hT _ ws_140⟩ ⟨PW.blind, va_recv hK hW.1 (ci := 12) (q0 := 0) rfl (pic_obj ko_0.1 ko_0.2 (by decide)), PW.at _ hW hK hN⟩ rfl rfl hl.1 rfl (lv_room (Nat.le_of_ble_eq_true rfl)) d_Mod_addFrame_9 ⟨hRc, hRs⟩) hS (fun q _ h => hF q h) hF (fun  x456 t H locs ht hvm hw hB hz1 hk1 hS => ?_)
  have hW := Wd.back hB ht hF
  clear hB ht hF hz1 hk1 hvm
  refine lv_aload_n hx hb d_Mod_addFrame_12 rfl (lv_at hl 0 rfl) ?_
  refine lv_bipush (v := 82) hx hb d_Mod_addFrame_13 (by decide) ?_
  have hF := hW.free hS hA
  refine va_callv (va_runV (C := R_Mod) (As := [.int 82]) (rest := []) ⟨hx, hb, hml, hown, hT⟩ (k_Mod_addByte l dC dI cI cB cJ cZ ad H.size 82 x456  hw) ⟨callB_of 1 hT (gw_in w_11_142) rfl rfl rfl (hT _ w_1_15) (hT _ w_11_139) (by decide +kernel) ⟨Nat.le_trans (by decide) hRf, Nat.le_trans (by decide) hRl⟩, hT _ w_11_141, hT _ ws_140⟩ ⟨PW.blind, va_recv hK hW.1 (ci := 12) (q0 := 0) rfl (pic_obj ko_0.1 ko_0.2 (by decide)), PW.at _ hW hK hN⟩ rfl rfl hl.1 rfl (lv_room (Nat.le_of_ble_eq_true rfl)) d_Mod_addFrame_15 ⟨hRc, hRs⟩) hS (fun q _ h => hF q h) hF (fun  x457 t H locs ht hvm hw hB hz1 hk1 hS => ?_)
  have hW := Wd.back hB ht hF
  clear hB ht hF hz1 hk1 hvm
  refine lv_aload_n hx hb d_Mod_addFrame_18 rfl (lv_at hl 0 rfl) ?_
  refine lv_bipush (v := 66) hx hb d_Mod_addFrame_19 (by decide) ?_
  have hF := hW.free hS hA
  refine va_callv (va_runV (C := R_Mod) (As := [.int 66]) (rest := []) ⟨hx, hb, hml, hown, hT⟩ (k_Mod_addByte l dC dI cI cB cJ cZ ad H.size 66 x457  hw) ⟨callB_of 1 hT (gw_in w_11_142) rfl rfl rfl (hT _ w_1_15) (hT _ w_11_139) (by decide +kernel) ⟨Nat.le_trans (by decide) hRf, Nat.le_trans (by decide) hRl⟩, hT _ w_11_141, hT _ ws_140⟩ ⟨PW.blind, va_recv hK hW.1 (ci := 12) (q0 := 0) rfl (pic_obj ko_0.1 ko_0.2 (by decide)), PW.at _ hW hK hN⟩ rfl rfl hl.1 rfl (lv_room (Nat.le_of_ble_eq_true rfl)) d_Mod_addFrame_21 ⟨hRc, hRs⟩) hS (fun q _ h => hF q h) hF (fun  x458 t H locs ht hvm hw hB hz1 hk1 hS => ?_)
  have hW := Wd.back hB ht hF
  clear hB ht hF hz1 hk1 hvm
  exact hret x458 H locs 24 ls d_Mod_addFrame_24 hw hW hS
set_option maxHeartbeats 4000000 in
set_option maxRecDepth 100000 in
theorem k_Mod_addFrame (l : Launch) (dC : Nat → ClassId) (dI : Nat → Nat → Nat) (cI cB cJ cZ : ClassId) (ad : Nat → Nat) (sz : Nat)  (x : St) {post : St → Prop} (hw : wp_Mod_addFrame post  x) : Met l y_Mod_addFrame (wsOf y_Mod_addFrame b_Mod_addFrame 1 (none)) ({ frames := 1, cells := 0, slots := 0, locals := 21 }) (va_Pc [.ref (ad 0)] (PW dC dI cI cB cJ cZ ad stM kcM 115 sz x)) (va_Qv (fun (y : St) => post y) (fun y t => Wd dC dI cI cB cJ cZ ad stM kcM 115 (va_A (pic ad stM kcM 115 cI cB cJ cZ x) sz) y t.heap) (va_A (pic ad stM kcM 115 cI cB cJ cZ x) sz)) 0 0 (va_A (pic ad stM kcM 115 cI cB cJ cZ x) sz) := by
  refine Met.ofW (cc := b_Mod_addFrame) (maxL := 1) (ret := none) (by decide) rfl ?_
  intro p e s m args below meth c s₁ B hml hv
  obtain ⟨rfl, hsz, hW0, hK, hN⟩ := hv
  have hx := B.exec
  have hb := B.bytes
  have hr := B.returns
  have hts := atoms_spec B.pre
  have hT : ∀ w ∈ TG, w.before _ s = true := fun w h => hts w (List.mem_cons_of_mem _ h)
  have hown : s.vm.findClass R_Mod = some m.cls := findClass_of_methodNamed B.named
  have hlocks := B.notSynchronized
  subst hsz
  have hW : Wd dC dI cI cB cJ cZ ad stM kcM 115 (va_A (pic ad stM kcM 115 cI cB cJ cZ x) s.heap.size) x s.heap := ⟨hW0.1, hW0.2.1.self (sz := s.heap.size), hW0.2.2⟩
  generalize hAe : va_A (pic ad stM kcM 115 cI cB cJ cZ x) s.heap.size = A at hW ⊢
  have hA : ∀ q : Nat, s.heap.size ≤ q → A q := fun q h => by rw [← hAe]; exact Or.inr h
  have hS : va_S A s.heap s.heap [] := va_S.rf
  have hl := lv_entry ([.ref (ad 0)]) (n := 1) (Nat.le_of_ble_eq_true rfl)
  rw [lg_entry_eq]
  generalize (lg_sl ([.ref (ad 0)]) ++ List.replicate (1 - (lg_sl ([.ref (ad 0)])).length) Slot.unset).toArray = ls at hl ⊢
  have hl : lv_has ls 1 [(0, .ref (ad 0))] := hl
  exact t_Mod_addFrame_e hx hb hml hown hT hK hN hA (Nat.le_refl 0) (Nat.le_refl 0) (Nat.le_refl 1) (Nat.le_refl 21) (fun x H locs pc ls hd hp hW hS => W.vret hx hb hr (fun t ht hM => ⟨⟨x, rfl, hp, Wd.back hW ht.symm (fun _ z => z)⟩, hS.F ht⟩) hS.2.2 hd hlocks)   x _ _ ls  hw hW hS hl
set_option maxRecDepth 100000 in
def j_Mod_many_40 (post : Int32 → St → Prop) (rec11 : Int32 → Int32 → Int32 → Int32 → Int32 → St → Prop) (l1 : Int32) (l2 : Int32) (l3 : Int32) (l4 : Int32) (l5 : Int32) (s0 : Int32) (s1 : Int32) (x : St) : Prop := (∀ v459 : Int32, v459 = (s1 + s0) → rec11 l1 l2 l3 v459 (l5 + 1) x)
set_option maxHeartbeats 4000000 in
set_option maxRecDepth 100000 in
theorem t_Mod_many_40 {p : Program} {l : Launch} {e : Env} {R : Room} {s : State} {m : MethodId} {args : Array Value} {below : List Frame} {meth : Method} {c : Code} {cells slots : Nat} {Q : State → Prop} {dC : Nat → ClassId} {dI : Nat → Nat → Nat} {cI cB cJ cZ : ClassId} {A : Nat → Prop} {ad : Nat → Nat} {post : Int32 → St → Prop} {rec11 : Int32 → Int32 → Int32 → Int32 → Int32 → St → Prop} (hx : p.tables.exec = Jvm.exec) (hb : c.code = b_Mod_many) (hml : c.maxLocals = 6) (hown : s.vm.findClass R_Mod = some m.cls) (hT : ∀ w ∈ TG, w.before args s = true) (hK : va_K (dC, dI) CL (TY cI cB cJ cZ) s) (hN : NW s) (hA : ∀ q : Nat, s.heap.size ≤ q → A q) (hRc : cells ≤ R.cells) (hRs : slots ≤ R.slots) (hRf : 0 ≤ R.frames) (hRl : 0 ≤ R.locals) (hret : ∀ (r : Int32) (x : St) (H : Heap) (locs : List Loc) (pc : Nat) (ls : Array Slot), decode b_Mod_many pc = .ok (.ireturn, 1) → post r x → Wd dC dI cI cB cJ cZ ad stM kcM 115 A x H → va_S A s.heap H locs → W p l e R s m args below meth c H locs cells slots Q (F0 m pc ls [.int r])) (hrec11 : ∀ (l1 : Int32) (l2 : Int32) (l3 : Int32) (l4 : Int32) (l5 : Int32) (x : St) (H : Heap) (locs : List Loc) (ls : Array Slot), rec11 l1 l2 l3 l4 l5 x → Wd dC dI cI cB cJ cZ ad stM kcM 115 A x H → va_S A s.heap H locs → lv_has ls 6 [(0, .ref (ad 0)), (1, .int l1), (2, .int l2), (3, .int l3), (4, .int l4), (5, .int l5)] → W p l e R s m args below meth c H locs cells slots Q (F0 m 11 ls [])) : ∀ (l1 : Int32) (l2 : Int32) (l3 : Int32) (l4 : Int32) (l5 : Int32) (s0 : Int32) (s1 : Int32) (x : St) (H : Heap) (locs : List Loc) (ls : Array Slot), j_Mod_many_40 post rec11 l1 l2 l3 l4 l5 s0 s1 x → Wd dC dI cI cB cJ cZ ad stM kcM 115 A x H → va_S A s.heap H locs → lv_has ls 6 [(0, .ref (ad 0)), (1, .int l1), (2, .int l2), (3, .int l3), (4, .int l4), (5, .int l5)] → W p l e R s m args below meth c H locs cells slots Q (F0 m 40 ls [.int s0, .int s1]) := by
  intro l1 l2 l3 l4 l5 s0 s1 x H locs ls  hw hW hS hl
  unfold j_Mod_many_40 at hw
  refine lv_iadd hx hb d_Mod_many_40 ?_
  refine lv_topi (fun v459 ev459 => ?_)
  have hw := hw v459 ev459
  refine lv_istore (lv' := [(4, .int v459), (0, .ref (ad 0)), (1, .int l1), (2, .int l2), (3, .int l3), (5, .int l5)]) hx hb d_Mod_many_41 hl (by decide) rfl (fun ls hl => ?_)
  refine lv_iinc (v := (l5 + 1)) (lv' := [(5, .int (l5 + 1)), (4, .int v459), (0, .ref (ad 0)), (1, .int l1), (2, .int l2), (3, .int l3)]) hx hb d_Mod_many_43 hl (k := 5) rfl rfl (by decide) rfl (fun ls hl => ?_)
  refine lv_goto (tgt := 11) hx hb d_Mod_many_46 (by decide) ?_
  exact hrec11 l1 l2 l3 v459 (l5 + 1) x H locs ls  hw hW hS (lv_sub hl [2, 3, 4, 5, 1, 0] rfl)
set_option maxRecDepth 100000 in
def j_Mod_many_11 (post : Int32 → St → Prop) (rec11 : Int32 → Int32 → Int32 → Int32 → Int32 → St → Prop) (l1 : Int32) (l2 : Int32) (l3 : Int32) (l4 : Int32) (l5 : Int32) (x : St) : Prop := (vp_in l3 (fN x 23) ∧ (((rA x 23 l3) ≤ l5 → post l4 x) ∧ (¬ (rA x 23 l3) ≤ l5 → (vp_in l5 (fN x 20) ∧ ((¬ (rA x 20 l5) = l1 → j_Mod_many_40 post rec11 l1 l2 l3 l4 l5 0 l4 x) ∧ ((rA x 20 l5) = l1 → j_Mod_many_40 post rec11 l1 l2 l3 l4 l5 1 l4 x))))))
set_option maxHeartbeats 4000000 in
set_option maxRecDepth 100000 in
theorem t_Mod_many_11 {p : Program} {l : Launch} {e : Env} {R : Room} {s : State} {m : MethodId} {args : Array Value} {below : List Frame} {meth : Method} {c : Code} {cells slots : Nat} {Q : State → Prop} {dC : Nat → ClassId} {dI : Nat → Nat → Nat} {cI cB cJ cZ : ClassId} {A : Nat → Prop} {ad : Nat → Nat} {post : Int32 → St → Prop} {rec11 : Int32 → Int32 → Int32 → Int32 → Int32 → St → Prop} (hx : p.tables.exec = Jvm.exec) (hb : c.code = b_Mod_many) (hml : c.maxLocals = 6) (hown : s.vm.findClass R_Mod = some m.cls) (hT : ∀ w ∈ TG, w.before args s = true) (hK : va_K (dC, dI) CL (TY cI cB cJ cZ) s) (hN : NW s) (hA : ∀ q : Nat, s.heap.size ≤ q → A q) (hRc : cells ≤ R.cells) (hRs : slots ≤ R.slots) (hRf : 0 ≤ R.frames) (hRl : 0 ≤ R.locals) (hret : ∀ (r : Int32) (x : St) (H : Heap) (locs : List Loc) (pc : Nat) (ls : Array Slot), decode b_Mod_many pc = .ok (.ireturn, 1) → post r x → Wd dC dI cI cB cJ cZ ad stM kcM 115 A x H → va_S A s.heap H locs → W p l e R s m args below meth c H locs cells slots Q (F0 m pc ls [.int r])) (hrec11 : ∀ (l1 : Int32) (l2 : Int32) (l3 : Int32) (l4 : Int32) (l5 : Int32) (x : St) (H : Heap) (locs : List Loc) (ls : Array Slot), rec11 l1 l2 l3 l4 l5 x → Wd dC dI cI cB cJ cZ ad stM kcM 115 A x H → va_S A s.heap H locs → lv_has ls 6 [(0, .ref (ad 0)), (1, .int l1), (2, .int l2), (3, .int l3), (4, .int l4), (5, .int l5)] → W p l e R s m args below meth c H locs cells slots Q (F0 m 11 ls [])) : ∀ (l1 : Int32) (l2 : Int32) (l3 : Int32) (l4 : Int32) (l5 : Int32) (x : St) (H : Heap) (locs : List Loc) (ls : Array Slot), j_Mod_many_11 post rec11 l1 l2 l3 l4 l5 x → Wd dC dI cI cB cJ cZ ad stM kcM 115 A x H → va_S A s.heap H locs → lv_has ls 6 [(0, .ref (ad 0)), (1, .int l1), (2, .int l2), (3, .int l3), (4, .int l4), (5, .int l5)] → W p l e R s m args below meth c H locs cells slots Q (F0 m 11 ls []) := by
  intro l1 l2 l3 l4 l5 x H locs ls  hw hW hS hl
  unfold j_Mod_many_11 at hw
  refine lv_iload hx hb d_Mod_many_11 (lv_at hl 5 rfl) ?_
  refine lv_aload_n hx hb d_Mod_many_13 rfl (lv_at hl 0 rfl) ?_
  refine w_getf (q := 23) (k := 31) (t := 12) (C := R_Mod) (T := F_Mod) (N := 167) hx hb hT hown hK hW ko_0.1 ko_0.2 (by decide) in_Mod rfl rfl (by decide) rfl fr_Mod_31 w_8_211 d_Mod_many_14 rfl ?_
  refine lv_iload_n hx hb d_Mod_many_17 rfl (lv_at hl 3 rfl) ?_
  obtain ⟨hi, hw⟩ := hw
  refine w_iald (o := 23) hx hb hK hW ko_23.1 ko_23.2 hi d_Mod_many_18 ?_
  refine lv_icmp_ge (tgt := 49) hx hb d_Mod_many_19 (by decide) (fun c460 => ?_) (fun c460 => ?_)
  · have hw := hw.1 c460
    refine lv_iload hx hb d_Mod_many_49 (lv_at hl 4 rfl) ?_
    exact hret l4 x H locs 51 ls d_Mod_many_51 hw hW hS
  · have hw := hw.2 c460
    refine lv_iload hx hb d_Mod_many_22 (lv_at hl 4 rfl) ?_
    refine lv_aload_n hx hb d_Mod_many_24 rfl (lv_at hl 0 rfl) ?_
    refine w_getf (q := 20) (k := 28) (t := 12) (C := R_Mod) (T := F_Mod) (N := 167) hx hb hT hown hK hW ko_0.1 ko_0.2 (by decide) in_Mod rfl rfl (by decide) rfl fr_Mod_28 w_8_208 d_Mod_many_25 rfl ?_
    refine lv_iload hx hb d_Mod_many_28 (lv_at hl 5 rfl) ?_
    obtain ⟨hi, hw⟩ := hw
    refine w_iald (o := 20) hx hb hK hW ko_20.1 ko_20.2 hi d_Mod_many_30 ?_
    refine lv_iload_n hx hb d_Mod_many_31 rfl (lv_at hl 1 rfl) ?_
    refine lv_icmp_ne (tgt := 39) hx hb d_Mod_many_32 (by decide) (fun c461 => ?_) (fun c461 => ?_)
    · have hw := hw.1 c461
      refine lv_iconst (v := 0) hx hb d_Mod_many_39 (by decide) ?_
      exact t_Mod_many_40 hx hb hml hown hT hK hN hA hRc hRs hRf hRl hret hrec11 l1 l2 l3 l4 l5 0 l4 x H locs ls  hw hW hS (lv_sub hl [0, 1, 2, 3, 4, 5] rfl)
    · have hw := hw.2 c461
      refine lv_iconst (v := 1) hx hb d_Mod_many_35 (by decide) ?_
      refine lv_goto (tgt := 40) hx hb d_Mod_many_36 (by decide) ?_
      exact t_Mod_many_40 hx hb hml hown hT hK hN hA hRc hRs hRf hRl hret hrec11 l1 l2 l3 l4 l5 1 l4 x H locs ls  hw hW hS (lv_sub hl [0, 1, 2, 3, 4, 5] rfl)
def wl_Mod_many_11 (post : Int32 → St → Prop) : Nat → Int32 → Int32 → Int32 → Int32 → Int32 → St → Prop
  | 0 => fun _ _ _ _ _ _ => False
  | n + 1 => j_Mod_many_11 post (wl_Mod_many_11 post n)
set_option maxHeartbeats 4000000 in
set_option maxRecDepth 100000 in
theorem tl_Mod_many_11 {p : Program} {l : Launch} {e : Env} {R : Room} {s : State} {m : MethodId} {args : Array Value} {below : List Frame} {meth : Method} {c : Code} {cells slots : Nat} {Q : State → Prop} {dC : Nat → ClassId} {dI : Nat → Nat → Nat} {cI cB cJ cZ : ClassId} {A : Nat → Prop} {ad : Nat → Nat} {post : Int32 → St → Prop} (hx : p.tables.exec = Jvm.exec) (hb : c.code = b_Mod_many) (hml : c.maxLocals = 6) (hown : s.vm.findClass R_Mod = some m.cls) (hT : ∀ w ∈ TG, w.before args s = true) (hK : va_K (dC, dI) CL (TY cI cB cJ cZ) s) (hN : NW s) (hA : ∀ q : Nat, s.heap.size ≤ q → A q) (hRc : cells ≤ R.cells) (hRs : slots ≤ R.slots) (hRf : 0 ≤ R.frames) (hRl : 0 ≤ R.locals) (hret : ∀ (r : Int32) (x : St) (H : Heap) (locs : List Loc) (pc : Nat) (ls : Array Slot), decode b_Mod_many pc = .ok (.ireturn, 1) → post r x → Wd dC dI cI cB cJ cZ ad stM kcM 115 A x H → va_S A s.heap H locs → W p l e R s m args below meth c H locs cells slots Q (F0 m pc ls [.int r]))  : ∀ n : Nat, ∀ (l1 : Int32) (l2 : Int32) (l3 : Int32) (l4 : Int32) (l5 : Int32) (x : St) (H : Heap) (locs : List Loc) (ls : Array Slot), wl_Mod_many_11 post n l1 l2 l3 l4 l5 x → Wd dC dI cI cB cJ cZ ad stM kcM 115 A x H → va_S A s.heap H locs → lv_has ls 6 [(0, .ref (ad 0)), (1, .int l1), (2, .int l2), (3, .int l3), (4, .int l4), (5, .int l5)] → W p l e R s m args below meth c H locs cells slots Q (F0 m 11 ls []) := by
  intro n
  induction n with
  | zero => intro l1 l2 l3 l4 l5 x H locs ls  hw; exact hw.elim
  | succ n ih => intro l1 l2 l3 l4 l5 x H locs ls  hw hW hS hl; exact t_Mod_many_11 hx hb hml hown hT hK hN hA hRc hRs hRf hRl hret  ih l1 l2 l3 l4 l5 x H locs ls  hw hW hS hl
set_option maxRecDepth 100000 in
def wp_Mod_many (post : Int32 → St → Prop) (l1 : Int32) (l2 : Int32) (l3 : Int32) (x : St) : Prop := (vp_in l2 (fN x 23) ∧ (∀ v462 : Int32, v462 = (rA x 23 l2) → ∃ n : Nat, wl_Mod_many_11 post n l1 l2 l3 0 v462 x))
set_option maxHeartbeats 4000000 in
set_option maxRecDepth 100000 in
theorem t_Mod_many_e {p : Program} {l : Launch} {e : Env} {R : Room} {s : State} {m : MethodId} {args : Array Value} {below : List Frame} {meth : Method} {c : Code} {cells slots : Nat} {Q : State → Prop} {dC : Nat → ClassId} {dI : Nat → Nat → Nat} {cI cB cJ cZ : ClassId} {A : Nat → Prop} {ad : Nat → Nat} {post : Int32 → St → Prop} (hx : p.tables.exec = Jvm.exec) (hb : c.code = b_Mod_many) (hml : c.maxLocals = 6) (hown : s.vm.findClass R_Mod = some m.cls) (hT : ∀ w ∈ TG, w.before args s = true) (hK : va_K (dC, dI) CL (TY cI cB cJ cZ) s) (hN : NW s) (hA : ∀ q : Nat, s.heap.size ≤ q → A q) (hRc : cells ≤ R.cells) (hRs : slots ≤ R.slots) (hRf : 0 ≤ R.frames) (hRl : 0 ≤ R.locals) (hret : ∀ (r : Int32) (x : St) (H : Heap) (locs : List Loc) (pc : Nat) (ls : Array Slot), decode b_Mod_many pc = .ok (.ireturn, 1) → post r x → Wd dC dI cI cB cJ cZ ad stM kcM 115 A x H → va_S A s.heap H locs → W p l e R s m args below meth c H locs cells slots Q (F0 m pc ls [.int r])) : ∀ (l1 : Int32) (l2 : Int32) (l3 : Int32) (x : St) (H : Heap) (locs : List Loc) (ls : Array Slot), wp_Mod_many post l1 l2 l3 x → Wd dC dI cI cB cJ cZ ad stM kcM 115 A x H → va_S A s.heap H locs → lv_has ls 6 [(0, .ref (ad 0)), (1, .int l1), (2, .int l2), (3, .int l3)] → W p l e R s m args below meth c H locs cells slots Q (F0 m 0 ls []) := by
  intro l1 l2 l3 x H locs ls  hw hW hS hl
  unfold wp_Mod_many at hw
  refine lv_iconst (v := 0) hx hb d_Mod_many_0 (by decide) ?_
  refine lv_istore (lv' := [(4, .int 0), (0, .ref (ad 0)), (1, .int l1), (2, .int l2), (3, .int l3)]) hx hb d_Mod_many_1 hl (by decide) rfl (fun ls hl => ?_)
  refine lv_aload_n hx hb d_Mod_many_3 rfl (lv_at hl 1 rfl) ?_
  refine w_getf (q := 23) (k := 31) (t := 12) (C := R_Mod) (T := F_Mod) (N := 167) hx hb hT hown hK hW ko_0.1 ko_0.2 (by decide) in_Mod rfl rfl (by decide) rfl fr_Mod_31 w_8_211 d_Mod_many_4 rfl ?_
  refine lv_iload_n hx hb d_Mod_many_7 rfl (lv_at hl 3 rfl) ?_
  obtain ⟨hi, hw⟩ := hw
  refine w_iald (o := 23) hx hb hK hW ko_23.1 ko_23.2 hi d_Mod_many_8 ?_
  refine lv_topi (fun v462 ev462 => ?_)
  have hw := hw v462 ev462
  refine lv_istore (lv' := [(5, .int v462), (4, .int 0), (0, .ref (ad 0)), (1, .int l1), (2, .int l2), (3, .int l3)]) hx hb d_Mod_many_9 hl (by decide) rfl (fun ls hl => ?_)
  obtain ⟨n, hw⟩ := hw
  exact tl_Mod_many_11 hx hb hml hown hT hK hN hA hRc hRs hRf hRl hret  n l1 l2 l3 0 v462 x H locs ls  hw hW hS (lv_sub hl [2, 3, 4, 5, 1, 0] rfl)
set_option maxHeartbeats 4000000 in
set_option maxRecDepth 100000 in
theorem k_Mod_many (l : Launch) (dC : Nat → ClassId) (dI : Nat → Nat → Nat) (cI cB cJ cZ : ClassId) (ad : Nat → Nat) (sz : Nat) (l1 : Int32) (l2 : Int32) (l3 : Int32) (x : St) {post : Int32 → St → Prop} (hw : wp_Mod_many post l1 l2 l3 x) : Met l y_Mod_many (wsOf y_Mod_many b_Mod_many 6 (some (.int))) ({ frames := 0, cells := 0, slots := 0, locals := 0 }) (va_Pc [.ref (ad 0), .int l1, .int l2, .int l3] (PW dC dI cI cB cJ cZ ad stM kcM 115 sz x)) (va_Qi (fun (r : Int32) (y : St) => post r y) (fun y t => Wd dC dI cI cB cJ cZ ad stM kcM 115 (va_A (pic ad stM kcM 115 cI cB cJ cZ x) sz) y t.heap) (va_A (pic ad stM kcM 115 cI cB cJ cZ x) sz)) 0 0 (va_A (pic ad stM kcM 115 cI cB cJ cZ x) sz) := by
  refine Met.ofW (cc := b_Mod_many) (maxL := 6) (ret := some (.int)) (by decide) rfl ?_
  intro p e s m args below meth c s₁ B hml hv
  obtain ⟨rfl, hsz, hW0, hK, hN⟩ := hv
  have hx := B.exec
  have hb := B.bytes
  have hr := B.returns
  have hts := atoms_spec B.pre
  have hT : ∀ w ∈ TG, w.before _ s = true := fun w h => hts w (List.mem_cons_of_mem _ h)
  have hown : s.vm.findClass R_Mod = some m.cls := findClass_of_methodNamed B.named
  have hlocks := B.notSynchronized
  subst hsz
  have hW : Wd dC dI cI cB cJ cZ ad stM kcM 115 (va_A (pic ad stM kcM 115 cI cB cJ cZ x) s.heap.size) x s.heap := ⟨hW0.1, hW0.2.1.self (sz := s.heap.size), hW0.2.2⟩
  generalize hAe : va_A (pic ad stM kcM 115 cI cB cJ cZ x) s.heap.size = A at hW ⊢
  have hA : ∀ q : Nat, s.heap.size ≤ q → A q := fun q h => by rw [← hAe]; exact Or.inr h
  have hS : va_S A s.heap s.heap [] := va_S.rf
  have hl := lv_entry ([.ref (ad 0), .int l1, .int l2, .int l3]) (n := 6) (Nat.le_of_ble_eq_true rfl)
  rw [lg_entry_eq]
  generalize (lg_sl ([.ref (ad 0), .int l1, .int l2, .int l3]) ++ List.replicate (6 - (lg_sl ([.ref (ad 0), .int l1, .int l2, .int l3])).length) Slot.unset).toArray = ls at hl ⊢
  have hl : lv_has ls 6 [(0, .ref (ad 0)), (1, .int l1), (2, .int l2), (3, .int l3)] := hl
  exact t_Mod_many_e hx hb hml hown hT hK hN hA (Nat.le_refl 0) (Nat.le_refl 0) (Nat.le_refl 0) (Nat.le_refl 0) (fun r x H locs pc ls hd hp hW hS => W.iret (v := r) hx hb hr (fun t ht hM => ⟨⟨r, x, rfl, hp, Wd.back hW ht.symm (fun _ z => z)⟩, hS.F ht⟩) hS.2.2 hd hlocks)  l1 l2 l3 x _ _ ls  hw hW hS hl
set_option maxRecDepth 100000 in
def j_Mod_textsOf_46 (post : Int32 → St → Prop) (rec11 : Int32 → Int32 → Int32 → Int32 → Int32 → St → Prop) (l1 : Int32) (l2 : Int32) (l3 : Int32) (l4 : Int32) (l5 : Int32) (s0 : Int32) (s1 : Int32) (x : St) : Prop := (∀ v463 : Int32, v463 = (s1 + s0) → rec11 l1 l2 l3 v463 (l5 + 1) x)
set_option maxHeartbeats 4000000 in
set_option maxRecDepth 100000 in
theorem t_Mod_textsOf_46 {p : Program} {l : Launch} {e : Env} {R : Room} {s : State} {m : MethodId} {args : Array Value} {below : List Frame} {meth : Method} {c : Code} {cells slots : Nat} {Q : State → Prop} {dC : Nat → ClassId} {dI : Nat → Nat → Nat} {cI cB cJ cZ : ClassId} {A : Nat → Prop} {ad : Nat → Nat} {post : Int32 → St → Prop} {rec11 : Int32 → Int32 → Int32 → Int32 → Int32 → St → Prop} (hx : p.tables.exec = Jvm.exec) (hb : c.code = b_Mod_textsOf) (hml : c.maxLocals = 6) (hown : s.vm.findClass R_Mod = some m.cls) (hT : ∀ w ∈ TG, w.before args s = true) (hK : va_K (dC, dI) CL (TY cI cB cJ cZ) s) (hN : NW s) (hA : ∀ q : Nat, s.heap.size ≤ q → A q) (hRc : cells ≤ R.cells) (hRs : slots ≤ R.slots) (hRf : 0 ≤ R.frames) (hRl : 0 ≤ R.locals) (hret : ∀ (r : Int32) (x : St) (H : Heap) (locs : List Loc) (pc : Nat) (ls : Array Slot), decode b_Mod_textsOf pc = .ok (.ireturn, 1) → post r x → Wd dC dI cI cB cJ cZ ad stM kcM 115 A x H → va_S A s.heap H locs → W p l e R s m args below meth c H locs cells slots Q (F0 m pc ls [.int r])) (hrec11 : ∀ (l1 : Int32) (l2 : Int32) (l3 : Int32) (l4 : Int32) (l5 : Int32) (x : St) (H : Heap) (locs : List Loc) (ls : Array Slot), rec11 l1 l2 l3 l4 l5 x → Wd dC dI cI cB cJ cZ ad stM kcM 115 A x H → va_S A s.heap H locs → lv_has ls 6 [(0, .ref (ad 0)), (1, .int l1), (2, .int l2), (3, .int l3), (4, .int l4), (5, .int l5)] → W p l e R s m args below meth c H locs cells slots Q (F0 m 11 ls [])) : ∀ (l1 : Int32) (l2 : Int32) (l3 : Int32) (l4 : Int32) (l5 : Int32) (s0 : Int32) (s1 : Int32) (x : St) (H : Heap) (locs : List Loc) (ls : Array Slot), j_Mod_textsOf_46 post rec11 l1 l2 l3 l4 l5 s0 s1 x → Wd dC dI cI cB cJ cZ ad stM kcM 115 A x H → va_S A s.heap H locs → lv_has ls 6 [(0, .ref (ad 0)), (1, .int l1), (2, .int l2), (3, .int l3), (4, .int l4), (5, .int l5)] → W p l e R s m args below meth c H locs cells slots Q (F0 m 46 ls [.int s0, .int s1]) := by
  intro l1 l2 l3 l4 l5 s0 s1 x H locs ls  hw hW hS hl
  unfold j_Mod_textsOf_46 at hw
  refine lv_iadd hx hb d_Mod_textsOf_46 ?_
  refine lv_topi (fun v463 ev463 => ?_)
  have hw := hw v463 ev463
  refine lv_istore (lv' := [(4, .int v463), (0, .ref (ad 0)), (1, .int l1), (2, .int l2), (3, .int l3), (5, .int l5)]) hx hb d_Mod_textsOf_47 hl (by decide) rfl (fun ls hl => ?_)
  refine lv_iinc (v := (l5 + 1)) (lv' := [(5, .int (l5 + 1)), (4, .int v463), (0, .ref (ad 0)), (1, .int l1), (2, .int l2), (3, .int l3)]) hx hb d_Mod_textsOf_49 hl (k := 5) rfl rfl (by decide) rfl (fun ls hl => ?_)
  refine lv_goto (tgt := 11) hx hb d_Mod_textsOf_52 (by decide) ?_
  exact hrec11 l1 l2 l3 v463 (l5 + 1) x H locs ls  hw hW hS (lv_sub hl [2, 3, 4, 5, 1, 0] rfl)
set_option maxRecDepth 100000 in
def j_Mod_textsOf_11 (post : Int32 → St → Prop) (rec11 : Int32 → Int32 → Int32 → Int32 → Int32 → St → Prop) (l1 : Int32) (l2 : Int32) (l3 : Int32) (l4 : Int32) (l5 : Int32) (x : St) : Prop := (vp_in l3 (fN x 23) ∧ (((rA x 23 l3) ≤ l5 → post l4 x) ∧ (¬ (rA x 23 l3) ≤ l5 → (vp_in l5 (fN x 20) ∧ ((¬ (rA x 20 l5) = l1 → j_Mod_textsOf_46 post rec11 l1 l2 l3 l4 l5 0 l4 x) ∧ ((rA x 20 l5) = l1 → (vp_in l5 (fN x 22) ∧ j_Mod_textsOf_46 post rec11 l1 l2 l3 l4 l5 (rA x 22 l5) l4 x)))))))
set_option maxHeartbeats 4000000 in
set_option maxRecDepth 100000 in
theorem t_Mod_textsOf_11 {p : Program} {l : Launch} {e : Env} {R : Room} {s : State} {m : MethodId} {args : Array Value} {below : List Frame} {meth : Method} {c : Code} {cells slots : Nat} {Q : State → Prop} {dC : Nat → ClassId} {dI : Nat → Nat → Nat} {cI cB cJ cZ : ClassId} {A : Nat → Prop} {ad : Nat → Nat} {post : Int32 → St → Prop} {rec11 : Int32 → Int32 → Int32 → Int32 → Int32 → St → Prop} (hx : p.tables.exec = Jvm.exec) (hb : c.code = b_Mod_textsOf) (hml : c.maxLocals = 6) (hown : s.vm.findClass R_Mod = some m.cls) (hT : ∀ w ∈ TG, w.before args s = true) (hK : va_K (dC, dI) CL (TY cI cB cJ cZ) s) (hN : NW s) (hA : ∀ q : Nat, s.heap.size ≤ q → A q) (hRc : cells ≤ R.cells) (hRs : slots ≤ R.slots) (hRf : 0 ≤ R.frames) (hRl : 0 ≤ R.locals) (hret : ∀ (r : Int32) (x : St) (H : Heap) (locs : List Loc) (pc : Nat) (ls : Array Slot), decode b_Mod_textsOf pc = .ok (.ireturn, 1) → post r x → Wd dC dI cI cB cJ cZ ad stM kcM 115 A x H → va_S A s.heap H locs → W p l e R s m args below meth c H locs cells slots Q (F0 m pc ls [.int r])) (hrec11 : ∀ (l1 : Int32) (l2 : Int32) (l3 : Int32) (l4 : Int32) (l5 : Int32) (x : St) (H : Heap) (locs : List Loc) (ls : Array Slot), rec11 l1 l2 l3 l4 l5 x → Wd dC dI cI cB cJ cZ ad stM kcM 115 A x H → va_S A s.heap H locs → lv_has ls 6 [(0, .ref (ad 0)), (1, .int l1), (2, .int l2), (3, .int l3), (4, .int l4), (5, .int l5)] → W p l e R s m args below meth c H locs cells slots Q (F0 m 11 ls [])) : ∀ (l1 : Int32) (l2 : Int32) (l3 : Int32) (l4 : Int32) (l5 : Int32) (x : St) (H : Heap) (locs : List Loc) (ls : Array Slot), j_Mod_textsOf_11 post rec11 l1 l2 l3 l4 l5 x → Wd dC dI cI cB cJ cZ ad stM kcM 115 A x H → va_S A s.heap H locs → lv_has ls 6 [(0, .ref (ad 0)), (1, .int l1), (2, .int l2), (3, .int l3), (4, .int l4), (5, .int l5)] → W p l e R s m args below meth c H locs cells slots Q (F0 m 11 ls []) := by
  intro l1 l2 l3 l4 l5 x H locs ls  hw hW hS hl
  unfold j_Mod_textsOf_11 at hw
  refine lv_iload hx hb d_Mod_textsOf_11 (lv_at hl 5 rfl) ?_
  refine lv_aload_n hx hb d_Mod_textsOf_13 rfl (lv_at hl 0 rfl) ?_
  refine w_getf (q := 23) (k := 31) (t := 12) (C := R_Mod) (T := F_Mod) (N := 167) hx hb hT hown hK hW ko_0.1 ko_0.2 (by decide) in_Mod rfl rfl (by decide) rfl fr_Mod_31 w_8_211 d_Mod_textsOf_14 rfl ?_
  refine lv_iload_n hx hb d_Mod_textsOf_17 rfl (lv_at hl 3 rfl) ?_
  obtain ⟨hi, hw⟩ := hw
  refine w_iald (o := 23) hx hb hK hW ko_23.1 ko_23.2 hi d_Mod_textsOf_18 ?_
  refine lv_icmp_ge (tgt := 55) hx hb d_Mod_textsOf_19 (by decide) (fun c464 => ?_) (fun c464 => ?_)
  · have hw := hw.1 c464
    refine lv_iload hx hb d_Mod_textsOf_55 (lv_at hl 4 rfl) ?_
    exact hret l4 x H locs 57 ls d_Mod_textsOf_57 hw hW hS
  · have hw := hw.2 c464
    refine lv_iload hx hb d_Mod_textsOf_22 (lv_at hl 4 rfl) ?_
    refine lv_aload_n hx hb d_Mod_textsOf_24 rfl (lv_at hl 0 rfl) ?_
    refine w_getf (q := 20) (k := 28) (t := 12) (C := R_Mod) (T := F_Mod) (N := 167) hx hb hT hown hK hW ko_0.1 ko_0.2 (by decide) in_Mod rfl rfl (by decide) rfl fr_Mod_28 w_8_208 d_Mod_textsOf_25 rfl ?_
    refine lv_iload hx hb d_Mod_textsOf_28 (lv_at hl 5 rfl) ?_
    obtain ⟨hi, hw⟩ := hw
    refine w_iald (o := 20) hx hb hK hW ko_20.1 ko_20.2 hi d_Mod_textsOf_30 ?_
    refine lv_iload_n hx hb d_Mod_textsOf_31 rfl (lv_at hl 1 rfl) ?_
    refine lv_icmp_ne (tgt := 45) hx hb d_Mod_textsOf_32 (by decide) (fun c465 => ?_) (fun c465 => ?_)
    · have hw := hw.1 c465
      refine lv_iconst (v := 0) hx hb d_Mod_textsOf_45 (by decide) ?_
      exact t_Mod_textsOf_46 hx hb hml hown hT hK hN hA hRc hRs hRf hRl hret hrec11 l1 l2 l3 l4 l5 0 l4 x H locs ls  hw hW hS (lv_sub hl [0, 1, 2, 3, 4, 5] rfl)
    · have hw := hw.2 c465
      refine lv_aload_n hx hb d_Mod_textsOf_35 rfl (lv_at hl 0 rfl) ?_
      refine w_getf (q := 22) (k := 30) (t := 12) (C := R_Mod) (T := F_Mod) (N := 167) hx hb hT hown hK hW ko_0.1 ko_0.2 (by decide) in_Mod rfl rfl (by decide) rfl fr_Mod_30 w_8_210 d_Mod_textsOf_36 rfl ?_
      refine lv_iload hx hb d_Mod_textsOf_39 (lv_at hl 5 rfl) ?_
      obtain ⟨hi, hw⟩ := hw
      refine w_iald (o := 22) hx hb hK hW ko_22.1 ko_22.2 hi d_Mod_textsOf_41 ?_
      refine lv_goto (tgt := 46) hx hb d_Mod_textsOf_42 (by decide) ?_
      exact t_Mod_textsOf_46 hx hb hml hown hT hK hN hA hRc hRs hRf hRl hret hrec11 l1 l2 l3 l4 l5 (rA x 22 l5) l4 x H locs ls  hw hW hS (lv_sub hl [0, 1, 2, 3, 4, 5] rfl)
def wl_Mod_textsOf_11 (post : Int32 → St → Prop) : Nat → Int32 → Int32 → Int32 → Int32 → Int32 → St → Prop
  | 0 => fun _ _ _ _ _ _ => False
  | n + 1 => j_Mod_textsOf_11 post (wl_Mod_textsOf_11 post n)
set_option maxHeartbeats 4000000 in
set_option maxRecDepth 100000 in
theorem tl_Mod_textsOf_11 {p : Program} {l : Launch} {e : Env} {R : Room} {s : State} {m : MethodId} {args : Array Value} {below : List Frame} {meth : Method} {c : Code} {cells slots : Nat} {Q : State → Prop} {dC : Nat → ClassId} {dI : Nat → Nat → Nat} {cI cB cJ cZ : ClassId} {A : Nat → Prop} {ad : Nat → Nat} {post : Int32 → St → Prop} (hx : p.tables.exec = Jvm.exec) (hb : c.code = b_Mod_textsOf) (hml : c.maxLocals = 6) (hown : s.vm.findClass R_Mod = some m.cls) (hT : ∀ w ∈ TG, w.before args s = true) (hK : va_K (dC, dI) CL (TY cI cB cJ cZ) s) (hN : NW s) (hA : ∀ q : Nat, s.heap.size ≤ q → A q) (hRc : cells ≤ R.cells) (hRs : slots ≤ R.slots) (hRf : 0 ≤ R.frames) (hRl : 0 ≤ R.locals) (hret : ∀ (r : Int32) (x : St) (H : Heap) (locs : List Loc) (pc : Nat) (ls : Array Slot), decode b_Mod_textsOf pc = .ok (.ireturn, 1) → post r x → Wd dC dI cI cB cJ cZ ad stM kcM 115 A x H → va_S A s.heap H locs → W p l e R s m args below meth c H locs cells slots Q (F0 m pc ls [.int r]))  : ∀ n : Nat, ∀ (l1 : Int32) (l2 : Int32) (l3 : Int32) (l4 : Int32) (l5 : Int32) (x : St) (H : Heap) (locs : List Loc) (ls : Array Slot), wl_Mod_textsOf_11 post n l1 l2 l3 l4 l5 x → Wd dC dI cI cB cJ cZ ad stM kcM 115 A x H → va_S A s.heap H locs → lv_has ls 6 [(0, .ref (ad 0)), (1, .int l1), (2, .int l2), (3, .int l3), (4, .int l4), (5, .int l5)] → W p l e R s m args below meth c H locs cells slots Q (F0 m 11 ls []) := by
  intro n
  induction n with
  | zero => intro l1 l2 l3 l4 l5 x H locs ls  hw; exact hw.elim
  | succ n ih => intro l1 l2 l3 l4 l5 x H locs ls  hw hW hS hl; exact t_Mod_textsOf_11 hx hb hml hown hT hK hN hA hRc hRs hRf hRl hret  ih l1 l2 l3 l4 l5 x H locs ls  hw hW hS hl
set_option maxRecDepth 100000 in
def wp_Mod_textsOf (post : Int32 → St → Prop) (l1 : Int32) (l2 : Int32) (l3 : Int32) (x : St) : Prop := (vp_in l2 (fN x 23) ∧ (∀ v466 : Int32, v466 = (rA x 23 l2) → ∃ n : Nat, wl_Mod_textsOf_11 post n l1 l2 l3 0 v466 x))
set_option maxHeartbeats 4000000 in
set_option maxRecDepth 100000 in
theorem t_Mod_textsOf_e {p : Program} {l : Launch} {e : Env} {R : Room} {s : State} {m : MethodId} {args : Array Value} {below : List Frame} {meth : Method} {c : Code} {cells slots : Nat} {Q : State → Prop} {dC : Nat → ClassId} {dI : Nat → Nat → Nat} {cI cB cJ cZ : ClassId} {A : Nat → Prop} {ad : Nat → Nat} {post : Int32 → St → Prop} (hx : p.tables.exec = Jvm.exec) (hb : c.code = b_Mod_textsOf) (hml : c.maxLocals = 6) (hown : s.vm.findClass R_Mod = some m.cls) (hT : ∀ w ∈ TG, w.before args s = true) (hK : va_K (dC, dI) CL (TY cI cB cJ cZ) s) (hN : NW s) (hA : ∀ q : Nat, s.heap.size ≤ q → A q) (hRc : cells ≤ R.cells) (hRs : slots ≤ R.slots) (hRf : 0 ≤ R.frames) (hRl : 0 ≤ R.locals) (hret : ∀ (r : Int32) (x : St) (H : Heap) (locs : List Loc) (pc : Nat) (ls : Array Slot), decode b_Mod_textsOf pc = .ok (.ireturn, 1) → post r x → Wd dC dI cI cB cJ cZ ad stM kcM 115 A x H → va_S A s.heap H locs → W p l e R s m args below meth c H locs cells slots Q (F0 m pc ls [.int r])) : ∀ (l1 : Int32) (l2 : Int32) (l3 : Int32) (x : St) (H : Heap) (locs : List Loc) (ls : Array Slot), wp_Mod_textsOf post l1 l2 l3 x → Wd dC dI cI cB cJ cZ ad stM kcM 115 A x H → va_S A s.heap H locs → lv_has ls 6 [(0, .ref (ad 0)), (1, .int l1), (2, .int l2), (3, .int l3)] → W p l e R s m args below meth c H locs cells slots Q (F0 m 0 ls []) := by
  intro l1 l2 l3 x H locs ls  hw hW hS hl
  unfold wp_Mod_textsOf at hw
  refine lv_iconst (v := 0) hx hb d_Mod_textsOf_0 (by decide) ?_
  refine lv_istore (lv' := [(4, .int 0), (0, .ref (ad 0)), (1, .int l1), (2, .int l2), (3, .int l3)]) hx hb d_Mod_textsOf_1 hl (by decide) rfl (fun ls hl => ?_)
  refine lv_aload_n hx hb d_Mod_textsOf_3 rfl (lv_at hl 1 rfl) ?_
  refine w_getf (q := 23) (k := 31) (t := 12) (C := R_Mod) (T := F_Mod) (N := 167) hx hb hT hown hK hW ko_0.1 ko_0.2 (by decide) in_Mod rfl rfl (by decide) rfl fr_Mod_31 w_8_211 d_Mod_textsOf_4 rfl ?_
  refine lv_iload_n hx hb d_Mod_textsOf_7 rfl (lv_at hl 3 rfl) ?_
  obtain ⟨hi, hw⟩ := hw
  refine w_iald (o := 23) hx hb hK hW ko_23.1 ko_23.2 hi d_Mod_textsOf_8 ?_
  refine lv_topi (fun v466 ev466 => ?_)
  have hw := hw v466 ev466
  refine lv_istore (lv' := [(5, .int v466), (4, .int 0), (0, .ref (ad 0)), (1, .int l1), (2, .int l2), (3, .int l3)]) hx hb d_Mod_textsOf_9 hl (by decide) rfl (fun ls hl => ?_)
  obtain ⟨n, hw⟩ := hw
  exact tl_Mod_textsOf_11 hx hb hml hown hT hK hN hA hRc hRs hRf hRl hret  n l1 l2 l3 0 v466 x H locs ls  hw hW hS (lv_sub hl [2, 3, 4, 5, 1, 0] rfl)
set_option maxHeartbeats 4000000 in
set_option maxRecDepth 100000 in
theorem k_Mod_textsOf (l : Launch) (dC : Nat → ClassId) (dI : Nat → Nat → Nat) (cI cB cJ cZ : ClassId) (ad : Nat → Nat) (sz : Nat) (l1 : Int32) (l2 : Int32) (l3 : Int32) (x : St) {post : Int32 → St → Prop} (hw : wp_Mod_textsOf post l1 l2 l3 x) : Met l y_Mod_textsOf (wsOf y_Mod_textsOf b_Mod_textsOf 6 (some (.int))) ({ frames := 0, cells := 0, slots := 0, locals := 0 }) (va_Pc [.ref (ad 0), .int l1, .int l2, .int l3] (PW dC dI cI cB cJ cZ ad stM kcM 115 sz x)) (va_Qi (fun (r : Int32) (y : St) => post r y) (fun y t => Wd dC dI cI cB cJ cZ ad stM kcM 115 (va_A (pic ad stM kcM 115 cI cB cJ cZ x) sz) y t.heap) (va_A (pic ad stM kcM 115 cI cB cJ cZ x) sz)) 0 0 (va_A (pic ad stM kcM 115 cI cB cJ cZ x) sz) := by
  refine Met.ofW (cc := b_Mod_textsOf) (maxL := 6) (ret := some (.int)) (by decide) rfl ?_
  intro p e s m args below meth c s₁ B hml hv
  obtain ⟨rfl, hsz, hW0, hK, hN⟩ := hv
  have hx := B.exec
  have hb := B.bytes
  have hr := B.returns
  have hts := atoms_spec B.pre
  have hT : ∀ w ∈ TG, w.before _ s = true := fun w h => hts w (List.mem_cons_of_mem _ h)
  have hown : s.vm.findClass R_Mod = some m.cls := findClass_of_methodNamed B.named
  have hlocks := B.notSynchronized
  subst hsz
  have hW : Wd dC dI cI cB cJ cZ ad stM kcM 115 (va_A (pic ad stM kcM 115 cI cB cJ cZ x) s.heap.size) x s.heap := ⟨hW0.1, hW0.2.1.self (sz := s.heap.size), hW0.2.2⟩
  generalize hAe : va_A (pic ad stM kcM 115 cI cB cJ cZ x) s.heap.size = A at hW ⊢
  have hA : ∀ q : Nat, s.heap.size ≤ q → A q := fun q h => by rw [← hAe]; exact Or.inr h
  have hS : va_S A s.heap s.heap [] := va_S.rf
  have hl := lv_entry ([.ref (ad 0), .int l1, .int l2, .int l3]) (n := 6) (Nat.le_of_ble_eq_true rfl)
  rw [lg_entry_eq]
  generalize (lg_sl ([.ref (ad 0), .int l1, .int l2, .int l3]) ++ List.replicate (6 - (lg_sl ([.ref (ad 0), .int l1, .int l2, .int l3])).length) Slot.unset).toArray = ls at hl ⊢
  have hl : lv_has ls 6 [(0, .ref (ad 0)), (1, .int l1), (2, .int l2), (3, .int l3)] := hl
  exact t_Mod_textsOf_e hx hb hml hown hT hK hN hA (Nat.le_refl 0) (Nat.le_refl 0) (Nat.le_refl 0) (Nat.le_refl 0) (fun r x H locs pc ls hd hp hW hS => W.iret (v := r) hx hb hr (fun t ht hM => ⟨⟨r, x, rfl, hp, Wd.back hW ht.symm (fun _ z => z)⟩, hS.F ht⟩) hS.2.2 hd hlocks)  l1 l2 l3 x _ _ ls  hw hW hS hl
set_option maxRecDepth 100000 in
def wp_Mod_typeOf (post : Int32 → St → Prop) (l1 : Int32) (l2 : Int32) (x : St) : Prop := (vp_in ((64 * l1) + l2) (fN x 11) ∧ wp_Mod_place (fun (r468 : Int32) (x467 : St) => (vp_in r468 (fN x467 4) ∧ post (rA x467 4 r468) x467)) l1 (rA x 11 ((64 * l1) + l2)) x)
set_option maxHeartbeats 4000000 in
set_option maxRecDepth 100000 in
theorem t_Mod_typeOf_e {p : Program} {l : Launch} {e : Env} {R : Room} {s : State} {m : MethodId} {args : Array Value} {below : List Frame} {meth : Method} {c : Code} {cells slots : Nat} {Q : State → Prop} {dC : Nat → ClassId} {dI : Nat → Nat → Nat} {cI cB cJ cZ : ClassId} {A : Nat → Prop} {ad : Nat → Nat} {post : Int32 → St → Prop} (hx : p.tables.exec = Jvm.exec) (hb : c.code = b_Mod_typeOf) (hml : c.maxLocals = 3) (hown : s.vm.findClass R_Mod = some m.cls) (hT : ∀ w ∈ TG, w.before args s = true) (hK : va_K (dC, dI) CL (TY cI cB cJ cZ) s) (hN : NW s) (hA : ∀ q : Nat, s.heap.size ≤ q → A q) (hRc : cells ≤ R.cells) (hRs : slots ≤ R.slots) (hRf : 1 ≤ R.frames) (hRl : 21 ≤ R.locals) (hret : ∀ (r : Int32) (x : St) (H : Heap) (locs : List Loc) (pc : Nat) (ls : Array Slot), decode b_Mod_typeOf pc = .ok (.ireturn, 1) → post r x → Wd dC dI cI cB cJ cZ ad stM kcM 115 A x H → va_S A s.heap H locs → W p l e R s m args below meth c H locs cells slots Q (F0 m pc ls [.int r])) : ∀ (l1 : Int32) (l2 : Int32) (x : St) (H : Heap) (locs : List Loc) (ls : Array Slot), wp_Mod_typeOf post l1 l2 x → Wd dC dI cI cB cJ cZ ad stM kcM 115 A x H → va_S A s.heap H locs → lv_has ls 3 [(0, .ref (ad 0)), (1, .int l1), (2, .int l2)] → W p l e R s m args below meth c H locs cells slots Q (F0 m 0 ls []) := by
  intro l1 l2 x H locs ls  hw hW hS hl
  unfold wp_Mod_typeOf at hw
  refine lv_aload_n hx hb d_Mod_typeOf_0 rfl (lv_at hl 0 rfl) ?_
  refine w_getf (q := 4) (k := 6) (t := 12) (C := R_Mod) (T := F_Mod) (N := 167) hx hb hT hown hK hW ko_0.1 ko_0.2 (by decide) in_Mod rfl rfl (by decide) rfl fr_Mod_6 w_8_186 d_Mod_typeOf_1 rfl ?_
  refine lv_iload_n hx hb d_Mod_typeOf_4 rfl (lv_at hl 1 rfl) ?_
  refine lv_aload_n hx hb d_Mod_typeOf_5 rfl (lv_at hl 0 rfl) ?_
  refine w_getf (q := 11) (k := 13) (t := 12) (C := R_Mod) (T := F_Mod) (N := 167) hx hb hT hown hK hW ko_0.1 ko_0.2 (by decide) in_Mod rfl rfl (by decide) rfl fr_Mod_13 w_8_193 d_Mod_typeOf_6 rfl ?_
  refine lv_bipush (v := 64) hx hb d_Mod_typeOf_9 (by decide) ?_
  refine lv_iload_n hx hb d_Mod_typeOf_11 rfl (lv_at hl 1 rfl) ?_
  refine lv_imul hx hb d_Mod_typeOf_12 ?_
  refine lv_iload_n hx hb d_Mod_typeOf_13 rfl (lv_at hl 2 rfl) ?_
  refine lv_iadd hx hb d_Mod_typeOf_14 ?_
  obtain ⟨hi, hw⟩ := hw
  refine w_iald (o := 11) hx hb hK hW ko_11.1 ko_11.2 hi d_Mod_typeOf_15 ?_
  have hF := hW.free hS hA
  refine va_calli (va_runS (As := [.int l1, .int (rA x 11 ((64 * l1) + l2))]) (rest := [.ref (ad 4)]) ⟨hx, hb, hml, hown, hT⟩ (k_Mod_place l dC dI cI cB cJ cZ ad H.size l1 (rA x 11 ((64 * l1) + l2)) x  hw) ⟨callB_of 2 hT (gw_in w_11_34) rfl rfl rfl (hT _ w_1_15) (hT _ w_11_32) (by decide +kernel) ⟨Nat.le_trans (by decide) hRf, Nat.le_trans (by decide) hRl⟩, hT _ w_11_33⟩ ⟨PW.blind, PW.at _ hW hK hN⟩ rfl rfl hl.1 rfl (lv_room (Nat.le_of_ble_eq_true rfl)) d_Mod_typeOf_16 ⟨hRc, hRs⟩) hS (fun q _ h => hF q h) hF (fun r468 x467 t H locs ht hvm hw hB hz1 hk1 hS => ?_)
  have hW := Wd.back hB ht hF
  clear hB ht hF hz1 hk1 hvm
  obtain ⟨hi, hw⟩ := hw
  refine w_iald (o := 4) hx hb hK hW ko_4.1 ko_4.2 hi d_Mod_typeOf_19 ?_
  exact hret (rA x467 4 r468) x467 H locs 20 ls d_Mod_typeOf_20 hw hW hS
set_option maxHeartbeats 4000000 in
set_option maxRecDepth 100000 in
theorem k_Mod_typeOf (l : Launch) (dC : Nat → ClassId) (dI : Nat → Nat → Nat) (cI cB cJ cZ : ClassId) (ad : Nat → Nat) (sz : Nat) (l1 : Int32) (l2 : Int32) (x : St) {post : Int32 → St → Prop} (hw : wp_Mod_typeOf post l1 l2 x) : Met l y_Mod_typeOf (wsOf y_Mod_typeOf b_Mod_typeOf 3 (some (.int))) ({ frames := 1, cells := 0, slots := 0, locals := 21 }) (va_Pc [.ref (ad 0), .int l1, .int l2] (PW dC dI cI cB cJ cZ ad stM kcM 115 sz x)) (va_Qi (fun (r : Int32) (y : St) => post r y) (fun y t => Wd dC dI cI cB cJ cZ ad stM kcM 115 (va_A (pic ad stM kcM 115 cI cB cJ cZ x) sz) y t.heap) (va_A (pic ad stM kcM 115 cI cB cJ cZ x) sz)) 0 0 (va_A (pic ad stM kcM 115 cI cB cJ cZ x) sz) := by
  refine Met.ofW (cc := b_Mod_typeOf) (maxL := 3) (ret := some (.int)) (by decide) rfl ?_
  intro p e s m args below meth c s₁ B hml hv
  obtain ⟨rfl, hsz, hW0, hK, hN⟩ := hv
  have hx := B.exec
  have hb := B.bytes
  have hr := B.returns
  have hts := atoms_spec B.pre
  have hT : ∀ w ∈ TG, w.before _ s = true := fun w h => hts w (List.mem_cons_of_mem _ h)
  have hown : s.vm.findClass R_Mod = some m.cls := findClass_of_methodNamed B.named
  have hlocks := B.notSynchronized
  subst hsz
  have hW : Wd dC dI cI cB cJ cZ ad stM kcM 115 (va_A (pic ad stM kcM 115 cI cB cJ cZ x) s.heap.size) x s.heap := ⟨hW0.1, hW0.2.1.self (sz := s.heap.size), hW0.2.2⟩
  generalize hAe : va_A (pic ad stM kcM 115 cI cB cJ cZ x) s.heap.size = A at hW ⊢
  have hA : ∀ q : Nat, s.heap.size ≤ q → A q := fun q h => by rw [← hAe]; exact Or.inr h
  have hS : va_S A s.heap s.heap [] := va_S.rf
  have hl := lv_entry ([.ref (ad 0), .int l1, .int l2]) (n := 3) (Nat.le_of_ble_eq_true rfl)
  rw [lg_entry_eq]
  generalize (lg_sl ([.ref (ad 0), .int l1, .int l2]) ++ List.replicate (3 - (lg_sl ([.ref (ad 0), .int l1, .int l2])).length) Slot.unset).toArray = ls at hl ⊢
  have hl : lv_has ls 3 [(0, .ref (ad 0)), (1, .int l1), (2, .int l2)] := hl
  exact t_Mod_typeOf_e hx hb hml hown hT hK hN hA (Nat.le_refl 0) (Nat.le_refl 0) (Nat.le_refl 1) (Nat.le_refl 21) (fun r x H locs pc ls hd hp hW hS => W.iret (v := r) hx hb hr (fun t ht hM => ⟨⟨r, x, rfl, hp, Wd.back hW ht.symm (fun _ z => z)⟩, hS.F ht⟩) hS.2.2 hd hlocks)  l1 l2 x _ _ ls  hw hW hS hl
set_option maxRecDepth 100000 in
def wp_Mod_mostR (post : Int32 → St → Prop) (l1 : Int32) (l2 : Int32) (x : St) : Prop := (vp_in ((64 * l1) + l2) (fN x 11) ∧ wp_Mod_level (fun (r470 : Int32) (x469 : St) => post r470 x469) l1 (rA x 11 ((64 * l1) + l2)) 1 x)
set_option maxHeartbeats 4000000 in
set_option maxRecDepth 100000 in
theorem t_Mod_mostR_e {p : Program} {l : Launch} {e : Env} {R : Room} {s : State} {m : MethodId} {args : Array Value} {below : List Frame} {meth : Method} {c : Code} {cells slots : Nat} {Q : State → Prop} {dC : Nat → ClassId} {dI : Nat → Nat → Nat} {cI cB cJ cZ : ClassId} {A : Nat → Prop} {ad : Nat → Nat} {post : Int32 → St → Prop} (hx : p.tables.exec = Jvm.exec) (hb : c.code = b_Mod_mostR) (hml : c.maxLocals = 3) (hown : s.vm.findClass R_Mod = some m.cls) (hT : ∀ w ∈ TG, w.before args s = true) (hK : va_K (dC, dI) CL (TY cI cB cJ cZ) s) (hN : NW s) (hA : ∀ q : Nat, s.heap.size ≤ q → A q) (hRc : cells ≤ R.cells) (hRs : slots ≤ R.slots) (hRf : 2 ≤ R.frames) (hRl : 47 ≤ R.locals) (hret : ∀ (r : Int32) (x : St) (H : Heap) (locs : List Loc) (pc : Nat) (ls : Array Slot), decode b_Mod_mostR pc = .ok (.ireturn, 1) → post r x → Wd dC dI cI cB cJ cZ ad stM kcM 115 A x H → va_S A s.heap H locs → W p l e R s m args below meth c H locs cells slots Q (F0 m pc ls [.int r])) : ∀ (l1 : Int32) (l2 : Int32) (x : St) (H : Heap) (locs : List Loc) (ls : Array Slot), wp_Mod_mostR post l1 l2 x → Wd dC dI cI cB cJ cZ ad stM kcM 115 A x H → va_S A s.heap H locs → lv_has ls 3 [(0, .ref (ad 0)), (1, .int l1), (2, .int l2)] → W p l e R s m args below meth c H locs cells slots Q (F0 m 0 ls []) := by
  intro l1 l2 x H locs ls  hw hW hS hl
  unfold wp_Mod_mostR at hw
  refine lv_aload_n hx hb d_Mod_mostR_0 rfl (lv_at hl 0 rfl) ?_
  refine lv_iload_n hx hb d_Mod_mostR_1 rfl (lv_at hl 1 rfl) ?_
  refine lv_aload_n hx hb d_Mod_mostR_2 rfl (lv_at hl 0 rfl) ?_
  refine w_getf (q := 11) (k := 13) (t := 12) (C := R_Mod) (T := F_Mod) (N := 167) hx hb hT hown hK hW ko_0.1 ko_0.2 (by decide) in_Mod rfl rfl (by decide) rfl fr_Mod_13 w_8_193 d_Mod_mostR_3 rfl ?_
  refine lv_bipush (v := 64) hx hb d_Mod_mostR_6 (by decide) ?_
  refine lv_iload_n hx hb d_Mod_mostR_8 rfl (lv_at hl 1 rfl) ?_
  refine lv_imul hx hb d_Mod_mostR_9 ?_
  refine lv_iload_n hx hb d_Mod_mostR_10 rfl (lv_at hl 2 rfl) ?_
  refine lv_iadd hx hb d_Mod_mostR_11 ?_
  obtain ⟨hi, hw⟩ := hw
  refine w_iald (o := 11) hx hb hK hW ko_11.1 ko_11.2 hi d_Mod_mostR_12 ?_
  refine lv_iconst (v := 1) hx hb d_Mod_mostR_13 (by decide) ?_
  have hF := hW.free hS hA
  refine va_calli (va_runV (C := R_Mod) (As := [.int l1, .int (rA x 11 ((64 * l1) + l2)), .int 1]) (rest := []) ⟨hx, hb, hml, hown, hT⟩ (k_Mod_level l dC dI cI cB cJ cZ ad H.size l1 (rA x 11 ((64 * l1) + l2)) 1 x  hw) ⟨callB_of 3 hT (gw_in w_11_118) rfl rfl rfl (hT _ w_1_15) (hT _ w_11_115) (by decide +kernel) ⟨Nat.le_trans (by decide) hRf, Nat.le_trans (by decide) hRl⟩, hT _ w_11_117, hT _ ws_137⟩ ⟨PW.blind, va_recv hK hW.1 (ci := 12) (q0 := 0) rfl (pic_obj ko_0.1 ko_0.2 (by decide)), PW.at _ hW hK hN⟩ rfl rfl hl.1 rfl (lv_room (Nat.le_of_ble_eq_true rfl)) d_Mod_mostR_14 ⟨hRc, hRs⟩) hS (fun q _ h => hF q h) hF (fun r470 x469 t H locs ht hvm hw hB hz1 hk1 hS => ?_)
  have hW := Wd.back hB ht hF
  clear hB ht hF hz1 hk1 hvm
  exact hret r470 x469 H locs 17 ls d_Mod_mostR_17 hw hW hS
set_option maxHeartbeats 4000000 in
set_option maxRecDepth 100000 in
theorem k_Mod_mostR (l : Launch) (dC : Nat → ClassId) (dI : Nat → Nat → Nat) (cI cB cJ cZ : ClassId) (ad : Nat → Nat) (sz : Nat) (l1 : Int32) (l2 : Int32) (x : St) {post : Int32 → St → Prop} (hw : wp_Mod_mostR post l1 l2 x) : Met l y_Mod_mostR (wsOf y_Mod_mostR b_Mod_mostR 3 (some (.int))) ({ frames := 2, cells := 0, slots := 0, locals := 47 }) (va_Pc [.ref (ad 0), .int l1, .int l2] (PW dC dI cI cB cJ cZ ad stM kcM 115 sz x)) (va_Qi (fun (r : Int32) (y : St) => post r y) (fun y t => Wd dC dI cI cB cJ cZ ad stM kcM 115 (va_A (pic ad stM kcM 115 cI cB cJ cZ x) sz) y t.heap) (va_A (pic ad stM kcM 115 cI cB cJ cZ x) sz)) 0 0 (va_A (pic ad stM kcM 115 cI cB cJ cZ x) sz) := by
  refine Met.ofW (cc := b_Mod_mostR) (maxL := 3) (ret := some (.int)) (by decide) rfl ?_
  intro p e s m args below meth c s₁ B hml hv
  obtain ⟨rfl, hsz, hW0, hK, hN⟩ := hv
  have hx := B.exec
  have hb := B.bytes
  have hr := B.returns
  have hts := atoms_spec B.pre
  have hT : ∀ w ∈ TG, w.before _ s = true := fun w h => hts w (List.mem_cons_of_mem _ h)
  have hown : s.vm.findClass R_Mod = some m.cls := findClass_of_methodNamed B.named
  have hlocks := B.notSynchronized
  subst hsz
  have hW : Wd dC dI cI cB cJ cZ ad stM kcM 115 (va_A (pic ad stM kcM 115 cI cB cJ cZ x) s.heap.size) x s.heap := ⟨hW0.1, hW0.2.1.self (sz := s.heap.size), hW0.2.2⟩
  generalize hAe : va_A (pic ad stM kcM 115 cI cB cJ cZ x) s.heap.size = A at hW ⊢
  have hA : ∀ q : Nat, s.heap.size ≤ q → A q := fun q h => by rw [← hAe]; exact Or.inr h
  have hS : va_S A s.heap s.heap [] := va_S.rf
  have hl := lv_entry ([.ref (ad 0), .int l1, .int l2]) (n := 3) (Nat.le_of_ble_eq_true rfl)
  rw [lg_entry_eq]
  generalize (lg_sl ([.ref (ad 0), .int l1, .int l2]) ++ List.replicate (3 - (lg_sl ([.ref (ad 0), .int l1, .int l2])).length) Slot.unset).toArray = ls at hl ⊢
  have hl : lv_has ls 3 [(0, .ref (ad 0)), (1, .int l1), (2, .int l2)] := hl
  exact t_Mod_mostR_e hx hb hml hown hT hK hN hA (Nat.le_refl 0) (Nat.le_refl 0) (Nat.le_refl 2) (Nat.le_refl 47) (fun r x H locs pc ls hd hp hW hS => W.iret (v := r) hx hb hr (fun t ht hM => ⟨⟨r, x, rfl, hp, Wd.back hW ht.symm (fun _ z => z)⟩, hS.F ht⟩) hS.2.2 hd hlocks)  l1 l2 x _ _ ls  hw hW hS hl
set_option maxRecDepth 100000 in
def wp_Mod_mostD (post : Int32 → St → Prop) (l1 : Int32) (l2 : Int32) (x : St) : Prop := (vp_in ((64 * l1) + l2) (fN x 11) ∧ wp_Mod_level (fun (r472 : Int32) (x471 : St) => post r472 x471) l1 (rA x 11 ((64 * l1) + l2)) 0 x)
set_option maxHeartbeats 4000000 in
set_option maxRecDepth 100000 in
theorem t_Mod_mostD_e {p : Program} {l : Launch} {e : Env} {R : Room} {s : State} {m : MethodId} {args : Array Value} {below : List Frame} {meth : Method} {c : Code} {cells slots : Nat} {Q : State → Prop} {dC : Nat → ClassId} {dI : Nat → Nat → Nat} {cI cB cJ cZ : ClassId} {A : Nat → Prop} {ad : Nat → Nat} {post : Int32 → St → Prop} (hx : p.tables.exec = Jvm.exec) (hb : c.code = b_Mod_mostD) (hml : c.maxLocals = 3) (hown : s.vm.findClass R_Mod = some m.cls) (hT : ∀ w ∈ TG, w.before args s = true) (hK : va_K (dC, dI) CL (TY cI cB cJ cZ) s) (hN : NW s) (hA : ∀ q : Nat, s.heap.size ≤ q → A q) (hRc : cells ≤ R.cells) (hRs : slots ≤ R.slots) (hRf : 2 ≤ R.frames) (hRl : 47 ≤ R.locals) (hret : ∀ (r : Int32) (x : St) (H : Heap) (locs : List Loc) (pc : Nat) (ls : Array Slot), decode b_Mod_mostD pc = .ok (.ireturn, 1) → post r x → Wd dC dI cI cB cJ cZ ad stM kcM 115 A x H → va_S A s.heap H locs → W p l e R s m args below meth c H locs cells slots Q (F0 m pc ls [.int r])) : ∀ (l1 : Int32) (l2 : Int32) (x : St) (H : Heap) (locs : List Loc) (ls : Array Slot), wp_Mod_mostD post l1 l2 x → Wd dC dI cI cB cJ cZ ad stM kcM 115 A x H → va_S A s.heap H locs → lv_has ls 3 [(0, .ref (ad 0)), (1, .int l1), (2, .int l2)] → W p l e R s m args below meth c H locs cells slots Q (F0 m 0 ls []) := by
  intro l1 l2 x H locs ls  hw hW hS hl
  unfold wp_Mod_mostD at hw
  refine lv_aload_n hx hb d_Mod_mostD_0 rfl (lv_at hl 0 rfl) ?_
  refine lv_iload_n hx hb d_Mod_mostD_1 rfl (lv_at hl 1 rfl) ?_
  refine lv_aload_n hx hb d_Mod_mostD_2 rfl (lv_at hl 0 rfl) ?_
  refine w_getf (q := 11) (k := 13) (t := 12) (C := R_Mod) (T := F_Mod) (N := 167) hx hb hT hown hK hW ko_0.1 ko_0.2 (by decide) in_Mod rfl rfl (by decide) rfl fr_Mod_13 w_8_193 d_Mod_mostD_3 rfl ?_
  refine lv_bipush (v := 64) hx hb d_Mod_mostD_6 (by decide) ?_
  refine lv_iload_n hx hb d_Mod_mostD_8 rfl (lv_at hl 1 rfl) ?_
  refine lv_imul hx hb d_Mod_mostD_9 ?_
  refine lv_iload_n hx hb d_Mod_mostD_10 rfl (lv_at hl 2 rfl) ?_
  refine lv_iadd hx hb d_Mod_mostD_11 ?_
  obtain ⟨hi, hw⟩ := hw
  refine w_iald (o := 11) hx hb hK hW ko_11.1 ko_11.2 hi d_Mod_mostD_12 ?_
  refine lv_iconst (v := 0) hx hb d_Mod_mostD_13 (by decide) ?_
  have hF := hW.free hS hA
  refine va_calli (va_runV (C := R_Mod) (As := [.int l1, .int (rA x 11 ((64 * l1) + l2)), .int 0]) (rest := []) ⟨hx, hb, hml, hown, hT⟩ (k_Mod_level l dC dI cI cB cJ cZ ad H.size l1 (rA x 11 ((64 * l1) + l2)) 0 x  hw) ⟨callB_of 3 hT (gw_in w_11_118) rfl rfl rfl (hT _ w_1_15) (hT _ w_11_115) (by decide +kernel) ⟨Nat.le_trans (by decide) hRf, Nat.le_trans (by decide) hRl⟩, hT _ w_11_117, hT _ ws_137⟩ ⟨PW.blind, va_recv hK hW.1 (ci := 12) (q0 := 0) rfl (pic_obj ko_0.1 ko_0.2 (by decide)), PW.at _ hW hK hN⟩ rfl rfl hl.1 rfl (lv_room (Nat.le_of_ble_eq_true rfl)) d_Mod_mostD_14 ⟨hRc, hRs⟩) hS (fun q _ h => hF q h) hF (fun r472 x471 t H locs ht hvm hw hB hz1 hk1 hS => ?_)
  have hW := Wd.back hB ht hF
  clear hB ht hF hz1 hk1 hvm
  exact hret r472 x471 H locs 17 ls d_Mod_mostD_17 hw hW hS
set_option maxHeartbeats 4000000 in
set_option maxRecDepth 100000 in
theorem k_Mod_mostD (l : Launch) (dC : Nat → ClassId) (dI : Nat → Nat → Nat) (cI cB cJ cZ : ClassId) (ad : Nat → Nat) (sz : Nat) (l1 : Int32) (l2 : Int32) (x : St) {post : Int32 → St → Prop} (hw : wp_Mod_mostD post l1 l2 x) : Met l y_Mod_mostD (wsOf y_Mod_mostD b_Mod_mostD 3 (some (.int))) ({ frames := 2, cells := 0, slots := 0, locals := 47 }) (va_Pc [.ref (ad 0), .int l1, .int l2] (PW dC dI cI cB cJ cZ ad stM kcM 115 sz x)) (va_Qi (fun (r : Int32) (y : St) => post r y) (fun y t => Wd dC dI cI cB cJ cZ ad stM kcM 115 (va_A (pic ad stM kcM 115 cI cB cJ cZ x) sz) y t.heap) (va_A (pic ad stM kcM 115 cI cB cJ cZ x) sz)) 0 0 (va_A (pic ad stM kcM 115 cI cB cJ cZ x) sz) := by
  refine Met.ofW (cc := b_Mod_mostD) (maxL := 3) (ret := some (.int)) (by decide) rfl ?_
  intro p e s m args below meth c s₁ B hml hv
  obtain ⟨rfl, hsz, hW0, hK, hN⟩ := hv
  have hx := B.exec
  have hb := B.bytes
  have hr := B.returns
  have hts := atoms_spec B.pre
  have hT : ∀ w ∈ TG, w.before _ s = true := fun w h => hts w (List.mem_cons_of_mem _ h)
  have hown : s.vm.findClass R_Mod = some m.cls := findClass_of_methodNamed B.named
  have hlocks := B.notSynchronized
  subst hsz
  have hW : Wd dC dI cI cB cJ cZ ad stM kcM 115 (va_A (pic ad stM kcM 115 cI cB cJ cZ x) s.heap.size) x s.heap := ⟨hW0.1, hW0.2.1.self (sz := s.heap.size), hW0.2.2⟩
  generalize hAe : va_A (pic ad stM kcM 115 cI cB cJ cZ x) s.heap.size = A at hW ⊢
  have hA : ∀ q : Nat, s.heap.size ≤ q → A q := fun q h => by rw [← hAe]; exact Or.inr h
  have hS : va_S A s.heap s.heap [] := va_S.rf
  have hl := lv_entry ([.ref (ad 0), .int l1, .int l2]) (n := 3) (Nat.le_of_ble_eq_true rfl)
  rw [lg_entry_eq]
  generalize (lg_sl ([.ref (ad 0), .int l1, .int l2]) ++ List.replicate (3 - (lg_sl ([.ref (ad 0), .int l1, .int l2])).length) Slot.unset).toArray = ls at hl ⊢
  have hl : lv_has ls 3 [(0, .ref (ad 0)), (1, .int l1), (2, .int l2)] := hl
  exact t_Mod_mostD_e hx hb hml hown hT hK hN hA (Nat.le_refl 0) (Nat.le_refl 0) (Nat.le_refl 2) (Nat.le_refl 47) (fun r x H locs pc ls hd hp hW hS => W.iret (v := r) hx hb hr (fun t ht hM => ⟨⟨r, x, rfl, hp, Wd.back hW ht.symm (fun _ z => z)⟩, hS.F ht⟩) hS.2.2 hd hlocks)  l1 l2 x _ _ ls  hw hW hS hl
set_option maxRecDepth 100000 in
def j_Mod_fillPage_239 (post : St → Prop) (rec48 : Int32 → Int32 → Int32 → Int32 → St → Prop) (l1 : Int32) (l2 : Int32) (l3 : Int32) (l4 : Int32) (x : St) : Prop := rec48 l1 l2 l3 (l4 + 1) x
set_option maxHeartbeats 4000000 in
set_option maxRecDepth 100000 in
theorem t_Mod_fillPage_239 {p : Program} {l : Launch} {e : Env} {R : Room} {s : State} {m : MethodId} {args : Array Value} {below : List Frame} {meth : Method} {c : Code} {cells slots : Nat} {Q : State → Prop} {dC : Nat → ClassId} {dI : Nat → Nat → Nat} {cI cB cJ cZ : ClassId} {A : Nat → Prop} {ad : Nat → Nat} {post : St → Prop} {rec48 : Int32 → Int32 → Int32 → Int32 → St → Prop} (hx : p.tables.exec = Jvm.exec) (hb : c.code = b_Mod_fillPage) (hml : c.maxLocals = 6) (hown : s.vm.findClass R_Mod = some m.cls) (hT : ∀ w ∈ TG, w.before args s = true) (hK : va_K (dC, dI) CL (TY cI cB cJ cZ) s) (hN : NW s) (hA : ∀ q : Nat, s.heap.size ≤ q → A q) (hRc : cells ≤ R.cells) (hRs : slots ≤ R.slots) (hRf : 3 ≤ R.frames) (hRl : 69 ≤ R.locals) (hret : ∀ (x : St) (H : Heap) (locs : List Loc) (pc : Nat) (ls : Array Slot), decode b_Mod_fillPage pc = .ok (.return_, 1) → post x → Wd dC dI cI cB cJ cZ ad stM kcM 115 A x H → va_S A s.heap H locs → W p l e R s m args below meth c H locs cells slots Q (F0 m pc ls [])) (hrec48 : ∀ (l1 : Int32) (l2 : Int32) (l3 : Int32) (l4 : Int32) (x : St) (H : Heap) (locs : List Loc) (ls : Array Slot), rec48 l1 l2 l3 l4 x → Wd dC dI cI cB cJ cZ ad stM kcM 115 A x H → va_S A s.heap H locs → lv_has ls 6 [(0, .ref (ad 0)), (1, .int l1), (2, .int l2), (3, .int l3), (4, .int l4)] → W p l e R s m args below meth c H locs cells slots Q (F0 m 48 ls [])) : ∀ (l1 : Int32) (l2 : Int32) (l3 : Int32) (l4 : Int32) (x : St) (H : Heap) (locs : List Loc) (ls : Array Slot), j_Mod_fillPage_239 post rec48 l1 l2 l3 l4 x → Wd dC dI cI cB cJ cZ ad stM kcM 115 A x H → va_S A s.heap H locs → lv_has ls 6 [(0, .ref (ad 0)), (1, .int l1), (2, .int l2), (3, .int l3), (4, .int l4)] → W p l e R s m args below meth c H locs cells slots Q (F0 m 239 ls []) := by
  intro l1 l2 l3 l4 x H locs ls  hw hW hS hl
  unfold j_Mod_fillPage_239 at hw
  refine lv_iinc (v := (l4 + 1)) (lv' := [(4, .int (l4 + 1)), (0, .ref (ad 0)), (1, .int l1), (2, .int l2), (3, .int l3)]) hx hb d_Mod_fillPage_239 hl (k := 4) rfl rfl (by decide) rfl (fun ls hl => ?_)
  refine lv_goto (tgt := 48) hx hb d_Mod_fillPage_242 (by decide) ?_
  exact hrec48 l1 l2 l3 (l4 + 1) x H locs ls  hw hW hS (lv_sub hl [1, 2, 3, 4, 0] rfl)
set_option maxRecDepth 100000 in
def j_Mod_fillPage_179 (post : St → Prop) (rec48 : Int32 → Int32 → Int32 → Int32 → St → Prop) (rec179 : Int32 → Int32 → Int32 → Int32 → Int32 → St → Prop) (l1 : Int32) (l2 : Int32) (l3 : Int32) (l4 : Int32) (l5 : Int32) (x : St) : Prop := (vp_in l4 (fN x 22) ∧ (((rA x 22 l4) ≤ l5 → (∀ x474 : St, x474 = setI x 0 42 ((fI x 0 42) + 1) → j_Mod_fillPage_239 post rec48 l1 l2 l3 l4 x474)) ∧ (¬ (rA x 22 l4) ≤ l5 → (vp_in (fI x 0 42) (fN x 33) ∧ (vp_in l4 (fN x 21) ∧ (vp_in ((rA x 21 l4) + l5) (fN x 24) ∧ (vp_in ((rA x 33 (fI x 0 42)) + l5) (fN x 36) ∧ ∀ x475 : St, x475 = setA x 36 ((rA x 33 (fI x 0 42)) + l5) (rA x 24 ((rA x 21 l4) + l5)) → rec179 l1 l2 l3 l4 (l5 + 1) x475)))))))
set_option maxHeartbeats 4000000 in
set_option maxRecDepth 100000 in
theorem t_Mod_fillPage_179 {p : Program} {l : Launch} {e : Env} {R : Room} {s : State} {m : MethodId} {args : Array Value} {below : List Frame} {meth : Method} {c : Code} {cells slots : Nat} {Q : State → Prop} {dC : Nat → ClassId} {dI : Nat → Nat → Nat} {cI cB cJ cZ : ClassId} {A : Nat → Prop} {ad : Nat → Nat} {post : St → Prop} {rec48 : Int32 → Int32 → Int32 → Int32 → St → Prop} {rec179 : Int32 → Int32 → Int32 → Int32 → Int32 → St → Prop} (hx : p.tables.exec = Jvm.exec) (hb : c.code = b_Mod_fillPage) (hml : c.maxLocals = 6) (hown : s.vm.findClass R_Mod = some m.cls) (hT : ∀ w ∈ TG, w.before args s = true) (hK : va_K (dC, dI) CL (TY cI cB cJ cZ) s) (hN : NW s) (hA : ∀ q : Nat, s.heap.size ≤ q → A q) (hRc : cells ≤ R.cells) (hRs : slots ≤ R.slots) (hRf : 3 ≤ R.frames) (hRl : 69 ≤ R.locals) (hret : ∀ (x : St) (H : Heap) (locs : List Loc) (pc : Nat) (ls : Array Slot), decode b_Mod_fillPage pc = .ok (.return_, 1) → post x → Wd dC dI cI cB cJ cZ ad stM kcM 115 A x H → va_S A s.heap H locs → W p l e R s m args below meth c H locs cells slots Q (F0 m pc ls [])) (hrec48 : ∀ (l1 : Int32) (l2 : Int32) (l3 : Int32) (l4 : Int32) (x : St) (H : Heap) (locs : List Loc) (ls : Array Slot), rec48 l1 l2 l3 l4 x → Wd dC dI cI cB cJ cZ ad stM kcM 115 A x H → va_S A s.heap H locs → lv_has ls 6 [(0, .ref (ad 0)), (1, .int l1), (2, .int l2), (3, .int l3), (4, .int l4)] → W p l e R s m args below meth c H locs cells slots Q (F0 m 48 ls [])) (hrec179 : ∀ (l1 : Int32) (l2 : Int32) (l3 : Int32) (l4 : Int32) (l5 : Int32) (x : St) (H : Heap) (locs : List Loc) (ls : Array Slot), rec179 l1 l2 l3 l4 l5 x → Wd dC dI cI cB cJ cZ ad stM kcM 115 A x H → va_S A s.heap H locs → lv_has ls 6 [(0, .ref (ad 0)), (1, .int l1), (2, .int l2), (3, .int l3), (4, .int l4), (5, .int l5)] → W p l e R s m args below meth c H locs cells slots Q (F0 m 179 ls [])) : ∀ (l1 : Int32) (l2 : Int32) (l3 : Int32) (l4 : Int32) (l5 : Int32) (x : St) (H : Heap) (locs : List Loc) (ls : Array Slot), j_Mod_fillPage_179 post rec48 rec179 l1 l2 l3 l4 l5 x → Wd dC dI cI cB cJ cZ ad stM kcM 115 A x H → va_S A s.heap H locs → lv_has ls 6 [(0, .ref (ad 0)), (1, .int l1), (2, .int l2), (3, .int l3), (4, .int l4), (5, .int l5)] → W p l e R s m args below meth c H locs cells slots Q (F0 m 179 ls []) := by
  intro l1 l2 l3 l4 l5 x H locs ls  hw hW hS hl
  unfold j_Mod_fillPage_179 at hw
  refine lv_iload hx hb d_Mod_fillPage_179 (lv_at hl 5 rfl) ?_
  refine lv_aload_n hx hb d_Mod_fillPage_181 rfl (lv_at hl 0 rfl) ?_
  refine w_getf (q := 22) (k := 30) (t := 12) (C := R_Mod) (T := F_Mod) (N := 167) hx hb hT hown hK hW ko_0.1 ko_0.2 (by decide) in_Mod rfl rfl (by decide) rfl fr_Mod_30 w_8_210 d_Mod_fillPage_182 rfl ?_
  refine lv_iload hx hb d_Mod_fillPage_185 (lv_at hl 4 rfl) ?_
  obtain ⟨hi, hw⟩ := hw
  refine w_iald (o := 22) hx hb hK hW ko_22.1 ko_22.2 hi d_Mod_fillPage_187 ?_
  refine lv_icmp_ge (tgt := 229) hx hb d_Mod_fillPage_188 (by decide) (fun c473 => ?_) (fun c473 => ?_)
  · have hw := hw.1 c473
    refine lv_aload_n hx hb d_Mod_fillPage_229 rfl (lv_at hl 0 rfl) ?_
    refine lv_dup hx hb d_Mod_fillPage_230 rfl ?_
    refine w_geti (k := 42) (t := 12) (C := R_Mod) (T := F_Mod) (N := 167) hx hb hT hown hK hW ko_0.1 ko_0.2 (by decide) in_Mod rfl rfl (by decide) rfl fr_Mod_42 w_8_222 d_Mod_fillPage_231 ?_
    refine lv_iconst (v := 1) hx hb d_Mod_fillPage_234 (by decide) ?_
    refine lv_iadd hx hb d_Mod_fillPage_235 ?_
    refine w_puti (ty := .int) (k := 42) (t := 12) (C := R_Mod) (T := F_Mod) (N := 167) hx hb hT hown hK hW hS ko_0.1 ko_0.2 (by decide) in_Mod t_Mod t_Mod_ok n_Mod rfl rfl (by decide) rfl fr_Mod_42 w_8_222 (by decide +kernel) rfl rfl d_Mod_fillPage_236 (fun H locs hW hS => ?_)
    obtain ⟨x474, ex474⟩ : ∃ y : St, y = setI x 0 42 ((fI x 0 42) + 1) := ⟨_, rfl⟩
    rw [← ex474] at hW
    have hw := hw x474 ex474
    exact t_Mod_fillPage_239 hx hb hml hown hT hK hN hA hRc hRs hRf hRl hret hrec48 l1 l2 l3 l4 x474 H locs ls  hw hW hS (lv_sub hl [0, 1, 2, 3, 4] rfl)
  · have hw := hw.2 c473
    refine lv_aload_n hx hb d_Mod_fillPage_191 rfl (lv_at hl 0 rfl) ?_
    refine w_getf (q := 36) (k := 55) (t := 12) (C := R_Mod) (T := F_Mod) (N := 167) hx hb hT hown hK hW ko_0.1 ko_0.2 (by decide) in_Mod rfl rfl (by decide) rfl fr_Mod_55 w_8_235 d_Mod_fillPage_192 rfl ?_
    refine lv_aload_n hx hb d_Mod_fillPage_195 rfl (lv_at hl 0 rfl) ?_
    refine w_getf (q := 33) (k := 52) (t := 12) (C := R_Mod) (T := F_Mod) (N := 167) hx hb hT hown hK hW ko_0.1 ko_0.2 (by decide) in_Mod rfl rfl (by decide) rfl fr_Mod_52 w_8_232 d_Mod_fillPage_196 rfl ?_
    refine lv_aload_n hx hb d_Mod_fillPage_199 rfl (lv_at hl 0 rfl) ?_
    refine w_geti (k := 42) (t := 12) (C := R_Mod) (T := F_Mod) (N := 167) hx hb hT hown hK hW ko_0.1 ko_0.2 (by decide) in_Mod rfl rfl (by decide) rfl fr_Mod_42 w_8_222 d_Mod_fillPage_200 ?_
    obtain ⟨hi, hw⟩ := hw
    refine w_iald (o := 33) hx hb hK hW ko_33.1 ko_33.2 hi d_Mod_fillPage_203 ?_
    refine lv_iload hx hb d_Mod_fillPage_204 (lv_at hl 5 rfl) ?_
    refine lv_iadd hx hb d_Mod_fillPage_206 ?_
    refine lv_aload_n hx hb d_Mod_fillPage_207 rfl (lv_at hl 0 rfl) ?_
    refine w_getf (q := 24) (k := 32) (t := 12) (C := R_Mod) (T := F_Mod) (N := 167) hx hb hT hown hK hW ko_0.1 ko_0.2 (by decide) in_Mod rfl rfl (by decide) rfl fr_Mod_32 w_8_212 d_Mod_fillPage_208 rfl ?_
    refine lv_aload_n hx hb d_Mod_fillPage_211 rfl (lv_at hl 0 rfl) ?_
    refine w_getf (q := 21) (k := 29) (t := 12) (C := R_Mod) (T := F_Mod) (N := 167) hx hb hT hown hK hW ko_0.1 ko_0.2 (by decide) in_Mod rfl rfl (by decide) rfl fr_Mod_29 w_8_209 d_Mod_fillPage_212 rfl ?_
    refine lv_iload hx hb d_Mod_fillPage_215 (lv_at hl 4 rfl) ?_
    obtain ⟨hi, hw⟩ := hw
    refine w_iald (o := 21) hx hb hK hW ko_21.1 ko_21.2 hi d_Mod_fillPage_217 ?_
    refine lv_iload hx hb d_Mod_fillPage_218 (lv_at hl 5 rfl) ?_
    refine lv_iadd hx hb d_Mod_fillPage_220 ?_
    obtain ⟨hi, hw⟩ := hw
    refine w_iald (o := 24) hx hb hK hW ko_24.1 ko_24.2 hi d_Mod_fillPage_221 ?_
    obtain ⟨hi, hw⟩ := hw
    refine w_iast (o := 36) hx hb hK hW hS ko_36.1 ko_36.2 hi d_Mod_fillPage_222 (fun H locs hW hS => ?_)
    obtain ⟨x475, ex475⟩ : ∃ y : St, y = setA x 36 ((rA x 33 (fI x 0 42)) + l5) (rA x 24 ((rA x 21 l4) + l5)) := ⟨_, rfl⟩
    rw [← ex475] at hW
    have hw := hw x475 ex475
    refine lv_iinc (v := (l5 + 1)) (lv' := [(5, .int (l5 + 1)), (0, .ref (ad 0)), (1, .int l1), (2, .int l2), (3, .int l3), (4, .int l4)]) hx hb d_Mod_fillPage_223 hl (k := 5) rfl rfl (by decide) rfl (fun ls hl => ?_)
    refine lv_goto (tgt := 179) hx hb d_Mod_fillPage_226 (by decide) ?_
    exact hrec179 l1 l2 l3 l4 (l5 + 1) x475 H locs ls  hw hW hS (lv_sub hl [1, 2, 3, 4, 5, 0] rfl)
def wl_Mod_fillPage_179 (post : St → Prop) (rec48 : Int32 → Int32 → Int32 → Int32 → St → Prop) : Nat → Int32 → Int32 → Int32 → Int32 → Int32 → St → Prop
  | 0 => fun _ _ _ _ _ _ => False
  | n + 1 => j_Mod_fillPage_179 post rec48 (wl_Mod_fillPage_179 post rec48 n)
set_option maxHeartbeats 4000000 in
set_option maxRecDepth 100000 in
theorem tl_Mod_fillPage_179 {p : Program} {l : Launch} {e : Env} {R : Room} {s : State} {m : MethodId} {args : Array Value} {below : List Frame} {meth : Method} {c : Code} {cells slots : Nat} {Q : State → Prop} {dC : Nat → ClassId} {dI : Nat → Nat → Nat} {cI cB cJ cZ : ClassId} {A : Nat → Prop} {ad : Nat → Nat} {post : St → Prop} {rec48 : Int32 → Int32 → Int32 → Int32 → St → Prop} (hx : p.tables.exec = Jvm.exec) (hb : c.code = b_Mod_fillPage) (hml : c.maxLocals = 6) (hown : s.vm.findClass R_Mod = some m.cls) (hT : ∀ w ∈ TG, w.before args s = true) (hK : va_K (dC, dI) CL (TY cI cB cJ cZ) s) (hN : NW s) (hA : ∀ q : Nat, s.heap.size ≤ q → A q) (hRc : cells ≤ R.cells) (hRs : slots ≤ R.slots) (hRf : 3 ≤ R.frames) (hRl : 69 ≤ R.locals) (hret : ∀ (x : St) (H : Heap) (locs : List Loc) (pc : Nat) (ls : Array Slot), decode b_Mod_fillPage pc = .ok (.return_, 1) → post x → Wd dC dI cI cB cJ cZ ad stM kcM 115 A x H → va_S A s.heap H locs → W p l e R s m args below meth c H locs cells slots Q (F0 m pc ls [])) (hrec48 : ∀ (l1 : Int32) (l2 : Int32) (l3 : Int32) (l4 : Int32) (x : St) (H : Heap) (locs : List Loc) (ls : Array Slot), rec48 l1 l2 l3 l4 x → Wd dC dI cI cB cJ cZ ad stM kcM 115 A x H → va_S A s.heap H locs → lv_has ls 6 [(0, .ref (ad 0)), (1, .int l1), (2, .int l2), (3, .int l3), (4, .int l4)] → W p l e R s m args below meth c H locs cells slots Q (F0 m 48 ls [])) : ∀ n : Nat, ∀ (l1 : Int32) (l2 : Int32) (l3 : Int32) (l4 : Int32) (l5 : Int32) (x : St) (H : Heap) (locs : List Loc) (ls : Array Slot), wl_Mod_fillPage_179 post rec48 n l1 l2 l3 l4 l5 x → Wd dC dI cI cB cJ cZ ad stM kcM 115 A x H → va_S A s.heap H locs → lv_has ls 6 [(0, .ref (ad 0)), (1, .int l1), (2, .int l2), (3, .int l3), (4, .int l4), (5, .int l5)] → W p l e R s m args below meth c H locs cells slots Q (F0 m 179 ls []) := by
  intro n
  induction n with
  | zero => intro l1 l2 l3 l4 l5 x H locs ls  hw; exact hw.elim
  | succ n ih => intro l1 l2 l3 l4 l5 x H locs ls  hw hW hS hl; exact t_Mod_fillPage_179 hx hb hml hown hT hK hN hA hRc hRs hRf hRl hret hrec48 ih l1 l2 l3 l4 l5 x H locs ls  hw hW hS hl
set_option maxRecDepth 100000 in
def j_Mod_fillPage_48 (post : St → Prop) (rec48 : Int32 → Int32 → Int32 → Int32 → St → Prop) (l1 : Int32) (l2 : Int32) (l3 : Int32) (l4 : Int32) (x : St) : Prop := (vp_in l3 (fN x 23) ∧ (((rA x 23 l3) ≤ l4 → post x) ∧ (¬ (rA x 23 l3) ≤ l4 → (vp_in l4 (fN x 20) ∧ (((rA x 20 l4) = l1 → (vp_in l4 (fN x 18) ∧ (vp_in (fI x 0 41) (fN x 26) ∧ ∀ x478 : St, x478 = setA x 26 (fI x 0 41) (rA x 18 l4) → (vp_in l4 (fN x478 19) ∧ (vp_in (fI x478 0 41) (fN x478 27) ∧ ∀ x479 : St, x479 = setA x478 27 (fI x478 0 41) (rA x478 19 l4) → (∀ x480 : St, x480 = setI x479 0 41 ((fI x479 0 41) + 1) → (vp_in l4 (fN x480 19) ∧ (((rA x480 19 l4) = (fI x480 0 40) → (vp_in l4 (fN x480 25) ∧ (vp_in (fI x480 0 42) (fN x480 30) ∧ ∀ x482 : St, x482 = setL x480 30 (fI x480 0 42) (rL x480 25 l4) → (vp_in (fI x482 0 42) (fN x482 33) ∧ (vp_in l4 (fN x482 22) ∧ (vp_in ((fI x482 0 42) + 1) (fN x482 33) ∧ ∀ x483 : St, x483 = setA x482 33 ((fI x482 0 42) + 1) ((rA x482 33 (fI x482 0 42)) + (rA x482 22 l4)) → ∃ n : Nat, wl_Mod_fillPage_179 post rec48 n l1 l2 l3 l4 0 x483)))))) ∧ (¬ (rA x480 19 l4) = (fI x480 0 40) → j_Mod_fillPage_239 post rec48 l1 l2 l3 l4 x480))))))))) ∧ (¬ (rA x 20 l4) = l1 → j_Mod_fillPage_239 post rec48 l1 l2 l3 l4 x))))))
set_option maxHeartbeats 4000000 in
set_option maxRecDepth 100000 in
theorem t_Mod_fillPage_48 {p : Program} {l : Launch} {e : Env} {R : Room} {s : State} {m : MethodId} {args : Array Value} {below : List Frame} {meth : Method} {c : Code} {cells slots : Nat} {Q : State → Prop} {dC : Nat → ClassId} {dI : Nat → Nat → Nat} {cI cB cJ cZ : ClassId} {A : Nat → Prop} {ad : Nat → Nat} {post : St → Prop} {rec48 : Int32 → Int32 → Int32 → Int32 → St → Prop} (hx : p.tables.exec = Jvm.exec) (hb : c.code = b_Mod_fillPage) (hml : c.maxLocals = 6) (hown : s.vm.findClass R_Mod = some m.cls) (hT : ∀ w ∈ TG, w.before args s = true) (hK : va_K (dC, dI) CL (TY cI cB cJ cZ) s) (hN : NW s) (hA : ∀ q : Nat, s.heap.size ≤ q → A q) (hRc : cells ≤ R.cells) (hRs : slots ≤ R.slots) (hRf : 3 ≤ R.frames) (hRl : 69 ≤ R.locals) (hret : ∀ (x : St) (H : Heap) (locs : List Loc) (pc : Nat) (ls : Array Slot), decode b_Mod_fillPage pc = .ok (.return_, 1) → post x → Wd dC dI cI cB cJ cZ ad stM kcM 115 A x H → va_S A s.heap H locs → W p l e R s m args below meth c H locs cells slots Q (F0 m pc ls [])) (hrec48 : ∀ (l1 : Int32) (l2 : Int32) (l3 : Int32) (l4 : Int32) (x : St) (H : Heap) (locs : List Loc) (ls : Array Slot), rec48 l1 l2 l3 l4 x → Wd dC dI cI cB cJ cZ ad stM kcM 115 A x H → va_S A s.heap H locs → lv_has ls 6 [(0, .ref (ad 0)), (1, .int l1), (2, .int l2), (3, .int l3), (4, .int l4)] → W p l e R s m args below meth c H locs cells slots Q (F0 m 48 ls [])) : ∀ (l1 : Int32) (l2 : Int32) (l3 : Int32) (l4 : Int32) (x : St) (H : Heap) (locs : List Loc) (ls : Array Slot), j_Mod_fillPage_48 post rec48 l1 l2 l3 l4 x → Wd dC dI cI cB cJ cZ ad stM kcM 115 A x H → va_S A s.heap H locs → lv_has ls 6 [(0, .ref (ad 0)), (1, .int l1), (2, .int l2), (3, .int l3), (4, .int l4)] → W p l e R s m args below meth c H locs cells slots Q (F0 m 48 ls []) := by
  intro l1 l2 l3 l4 x H locs ls  hw hW hS hl
  unfold j_Mod_fillPage_48 at hw
  refine lv_iload hx hb d_Mod_fillPage_48 (lv_at hl 4 rfl) ?_
  refine lv_aload_n hx hb d_Mod_fillPage_50 rfl (lv_at hl 0 rfl) ?_
  refine w_getf (q := 23) (k := 31) (t := 12) (C := R_Mod) (T := F_Mod) (N := 167) hx hb hT hown hK hW ko_0.1 ko_0.2 (by decide) in_Mod rfl rfl (by decide) rfl fr_Mod_31 w_8_211 d_Mod_fillPage_51 rfl ?_
  refine lv_iload_n hx hb d_Mod_fillPage_54 rfl (lv_at hl 3 rfl) ?_
  obtain ⟨hi, hw⟩ := hw
  refine w_iald (o := 23) hx hb hK hW ko_23.1 ko_23.2 hi d_Mod_fillPage_55 ?_
  refine lv_icmp_ge (tgt := 245) hx hb d_Mod_fillPage_56 (by decide) (fun c476 => ?_) (fun c476 => ?_)
  · have hw := hw.1 c476
    exact hret x H locs 245 ls d_Mod_fillPage_245 hw hW hS
  · have hw := hw.2 c476
    refine lv_aload_n hx hb d_Mod_fillPage_59 rfl (lv_at hl 0 rfl) ?_
    refine w_getf (q := 20) (k := 28) (t := 12) (C := R_Mod) (T := F_Mod) (N := 167) hx hb hT hown hK hW ko_0.1 ko_0.2 (by decide) in_Mod rfl rfl (by decide) rfl fr_Mod_28 w_8_208 d_Mod_fillPage_60 rfl ?_
    refine lv_iload hx hb d_Mod_fillPage_63 (lv_at hl 4 rfl) ?_
    obtain ⟨hi, hw⟩ := hw
    refine w_iald (o := 20) hx hb hK hW ko_20.1 ko_20.2 hi d_Mod_fillPage_65 ?_
    refine lv_iload_n hx hb d_Mod_fillPage_66 rfl (lv_at hl 1 rfl) ?_
    refine lv_icmp_eq (tgt := 73) hx hb d_Mod_fillPage_67 (by decide) (fun c477 => ?_) (fun c477 => ?_)
    · have hw := hw.1 c477
      refine lv_aload_n hx hb d_Mod_fillPage_73 rfl (lv_at hl 0 rfl) ?_
      refine w_getf (q := 26) (k := 45) (t := 12) (C := R_Mod) (T := F_Mod) (N := 167) hx hb hT hown hK hW ko_0.1 ko_0.2 (by decide) in_Mod rfl rfl (by decide) rfl fr_Mod_45 w_8_225 d_Mod_fillPage_74 rfl ?_
      refine lv_aload_n hx hb d_Mod_fillPage_77 rfl (lv_at hl 0 rfl) ?_
      refine w_geti (k := 41) (t := 12) (C := R_Mod) (T := F_Mod) (N := 167) hx hb hT hown hK hW ko_0.1 ko_0.2 (by decide) in_Mod rfl rfl (by decide) rfl fr_Mod_41 w_8_221 d_Mod_fillPage_78 ?_
      refine lv_aload_n hx hb d_Mod_fillPage_81 rfl (lv_at hl 0 rfl) ?_
      refine w_getf (q := 18) (k := 26) (t := 12) (C := R_Mod) (T := F_Mod) (N := 167) hx hb hT hown hK hW ko_0.1 ko_0.2 (by decide) in_Mod rfl rfl (by decide) rfl fr_Mod_26 w_8_206 d_Mod_fillPage_82 rfl ?_
      refine lv_iload hx hb d_Mod_fillPage_85 (lv_at hl 4 rfl) ?_
      obtain ⟨hi, hw⟩ := hw
      refine w_iald (o := 18) hx hb hK hW ko_18.1 ko_18.2 hi d_Mod_fillPage_87 ?_
      obtain ⟨hi, hw⟩ := hw
      refine w_iast (o := 26) hx hb hK hW hS ko_26.1 ko_26.2 hi d_Mod_fillPage_88 (fun H locs hW hS => ?_)
      obtain ⟨x478, ex478⟩ : ∃ y : St, y = setA x 26 (fI x 0 41) (rA x 18 l4) := ⟨_, rfl⟩
      rw [← ex478] at hW
      have hw := hw x478 ex478
      refine lv_aload_n hx hb d_Mod_fillPage_89 rfl (lv_at hl 0 rfl) ?_
      refine w_getf (q := 27) (k := 46) (t := 12) (C := R_Mod) (T := F_Mod) (N := 167) hx hb hT hown hK hW ko_0.1 ko_0.2 (by decide) in_Mod rfl rfl (by decide) rfl fr_Mod_46 w_8_226 d_Mod_fillPage_90 rfl ?_
      refine lv_aload_n hx hb d_Mod_fillPage_93 rfl (lv_at hl 0 rfl) ?_
      refine w_geti (k := 41) (t := 12) (C := R_Mod) (T := F_Mod) (N := 167) hx hb hT hown hK hW ko_0.1 ko_0.2 (by decide) in_Mod rfl rfl (by decide) rfl fr_Mod_41 w_8_221 d_Mod_fillPage_94 ?_
      refine lv_aload_n hx hb d_Mod_fillPage_97 rfl (lv_at hl 0 rfl) ?_
      refine w_getf (q := 19) (k := 27) (t := 12) (C := R_Mod) (T := F_Mod) (N := 167) hx hb hT hown hK hW ko_0.1 ko_0.2 (by decide) in_Mod rfl rfl (by decide) rfl fr_Mod_27 w_8_207 d_Mod_fillPage_98 rfl ?_
      refine lv_iload hx hb d_Mod_fillPage_101 (lv_at hl 4 rfl) ?_
      obtain ⟨hi, hw⟩ := hw
      refine w_iald (o := 19) hx hb hK hW ko_19.1 ko_19.2 hi d_Mod_fillPage_103 ?_
      obtain ⟨hi, hw⟩ := hw
      refine w_iast (o := 27) hx hb hK hW hS ko_27.1 ko_27.2 hi d_Mod_fillPage_104 (fun H locs hW hS => ?_)
      obtain ⟨x479, ex479⟩ : ∃ y : St, y = setA x478 27 (fI x478 0 41) (rA x478 19 l4) := ⟨_, rfl⟩
      rw [← ex479] at hW
      have hw := hw x479 ex479
      refine lv_aload_n hx hb d_Mod_fillPage_105 rfl (lv_at hl 0 rfl) ?_
      refine lv_dup hx hb d_Mod_fillPage_106 rfl ?_
      refine w_geti (k := 41) (t := 12) (C := R_Mod) (T := F_Mod) (N := 167) hx hb hT hown hK hW ko_0.1 ko_0.2 (by decide) in_Mod rfl rfl (by decide) rfl fr_Mod_41 w_8_221 d_Mod_fillPage_107 ?_
      refine lv_iconst (v := 1) hx hb d_Mod_fillPage_110 (by decide) ?_
      refine lv_iadd hx hb d_Mod_fillPage_111 ?_
      refine w_puti (ty := .int) (k := 41) (t := 12) (C := R_Mod) (T := F_Mod) (N := 167) hx hb hT hown hK hW hS ko_0.1 ko_0.2 (by decide) in_Mod t_Mod t_Mod_ok n_Mod rfl rfl (by decide) rfl fr_Mod_41 w_8_221 (by decide +kernel) rfl rfl d_Mod_fillPage_112 (fun H locs hW hS => ?_)
      obtain ⟨x480, ex480⟩ : ∃ y : St, y = setI x479 0 41 ((fI x479 0 41) + 1) := ⟨_, rfl⟩
      rw [← ex480] at hW
      have hw := hw x480 ex480
      refine lv_aload_n hx hb d_Mod_fillPage_115 rfl (lv_at hl 0 rfl) ?_
      refine w_getf (q := 19) (k := 27) (t := 12) (C := R_Mod) (T := F_Mod) (N := 167) hx hb hT hown hK hW ko_0.1 ko_0.2 (by decide) in_Mod rfl rfl (by decide) rfl fr_Mod_27 w_8_207 d_Mod_fillPage_116 rfl ?_
      refine lv_iload hx hb d_Mod_fillPage_119 (lv_at hl 4 rfl) ?_
      obtain ⟨hi, hw⟩ := hw
      refine w_iald (o := 19) hx hb hK hW ko_19.1 ko_19.2 hi d_Mod_fillPage_121 ?_
      refine lv_aload_n hx hb d_Mod_fillPage_122 rfl (lv_at hl 0 rfl) ?_
      refine w_geti (k := 40) (t := 12) (C := R_Mod) (T := F_Mod) (N := 167) hx hb hT hown hK hW ko_0.1 ko_0.2 (by decide) in_Mod rfl rfl (by decide) rfl fr_Mod_40 w_8_220 d_Mod_fillPage_123 ?_
      refine lv_icmp_eq (tgt := 132) hx hb d_Mod_fillPage_126 (by decide) (fun c481 => ?_) (fun c481 => ?_)
      · have hw := hw.1 c481
        refine lv_aload_n hx hb d_Mod_fillPage_132 rfl (lv_at hl 0 rfl) ?_
        refine w_getf (q := 30) (k := 49) (t := 12) (C := R_Mod) (T := F_Mod) (N := 167) hx hb hT hown hK hW ko_0.1 ko_0.2 (by decide) in_Mod rfl rfl (by decide) rfl fr_Mod_49 w_8_229 d_Mod_fillPage_133 rfl ?_
        refine lv_aload_n hx hb d_Mod_fillPage_136 rfl (lv_at hl 0 rfl) ?_
        refine w_geti (k := 42) (t := 12) (C := R_Mod) (T := F_Mod) (N := 167) hx hb hT hown hK hW ko_0.1 ko_0.2 (by decide) in_Mod rfl rfl (by decide) rfl fr_Mod_42 w_8_222 d_Mod_fillPage_137 ?_
        refine lv_aload_n hx hb d_Mod_fillPage_140 rfl (lv_at hl 0 rfl) ?_
        refine w_getf (q := 25) (k := 33) (t := 12) (C := R_Mod) (T := F_Mod) (N := 167) hx hb hT hown hK hW ko_0.1 ko_0.2 (by decide) in_Mod rfl rfl (by decide) rfl fr_Mod_33 w_8_213 d_Mod_fillPage_141 rfl ?_
        refine lv_iload hx hb d_Mod_fillPage_144 (lv_at hl 4 rfl) ?_
        obtain ⟨hi, hw⟩ := hw
        refine w_lald (o := 25) hx hb hK hW ko_25.1 ko_25.2 hi d_Mod_fillPage_146 ?_
        obtain ⟨hi, hw⟩ := hw
        refine w_last (o := 30) hx hb hK hW hS ko_30.1 ko_30.2 hi d_Mod_fillPage_147 (fun H locs hW hS => ?_)
        obtain ⟨x482, ex482⟩ : ∃ y : St, y = setL x480 30 (fI x480 0 42) (rL x480 25 l4) := ⟨_, rfl⟩
        rw [← ex482] at hW
        have hw := hw x482 ex482
        refine lv_aload_n hx hb d_Mod_fillPage_148 rfl (lv_at hl 0 rfl) ?_
        refine w_getf (q := 33) (k := 52) (t := 12) (C := R_Mod) (T := F_Mod) (N := 167) hx hb hT hown hK hW ko_0.1 ko_0.2 (by decide) in_Mod rfl rfl (by decide) rfl fr_Mod_52 w_8_232 d_Mod_fillPage_149 rfl ?_
        refine lv_aload_n hx hb d_Mod_fillPage_152 rfl (lv_at hl 0 rfl) ?_
        refine w_geti (k := 42) (t := 12) (C := R_Mod) (T := F_Mod) (N := 167) hx hb hT hown hK hW ko_0.1 ko_0.2 (by decide) in_Mod rfl rfl (by decide) rfl fr_Mod_42 w_8_222 d_Mod_fillPage_153 ?_
        refine lv_iconst (v := 1) hx hb d_Mod_fillPage_156 (by decide) ?_
        refine lv_iadd hx hb d_Mod_fillPage_157 ?_
        refine lv_aload_n hx hb d_Mod_fillPage_158 rfl (lv_at hl 0 rfl) ?_
        refine w_getf (q := 33) (k := 52) (t := 12) (C := R_Mod) (T := F_Mod) (N := 167) hx hb hT hown hK hW ko_0.1 ko_0.2 (by decide) in_Mod rfl rfl (by decide) rfl fr_Mod_52 w_8_232 d_Mod_fillPage_159 rfl ?_
        refine lv_aload_n hx hb d_Mod_fillPage_162 rfl (lv_at hl 0 rfl) ?_
        refine w_geti (k := 42) (t := 12) (C := R_Mod) (T := F_Mod) (N := 167) hx hb hT hown hK hW ko_0.1 ko_0.2 (by decide) in_Mod rfl rfl (by decide) rfl fr_Mod_42 w_8_222 d_Mod_fillPage_163 ?_
        obtain ⟨hi, hw⟩ := hw
        refine w_iald (o := 33) hx hb hK hW ko_33.1 ko_33.2 hi d_Mod_fillPage_166 ?_
        refine lv_aload_n hx hb d_Mod_fillPage_167 rfl (lv_at hl 0 rfl) ?_
        refine w_getf (q := 22) (k := 30) (t := 12) (C := R_Mod) (T := F_Mod) (N := 167) hx hb hT hown hK hW ko_0.1 ko_0.2 (by decide) in_Mod rfl rfl (by decide) rfl fr_Mod_30 w_8_210 d_Mod_fillPage_168 rfl ?_
        refine lv_iload hx hb d_Mod_fillPage_171 (lv_at hl 4 rfl) ?_
        obtain ⟨hi, hw⟩ := hw
        refine w_iald (o := 22) hx hb hK hW ko_22.1 ko_22.2 hi d_Mod_fillPage_173 ?_
        refine lv_iadd hx hb d_Mod_fillPage_174 ?_
        obtain ⟨hi, hw⟩ := hw
        refine w_iast (o := 33) hx hb hK hW hS ko_33.1 ko_33.2 hi d_Mod_fillPage_175 (fun H locs hW hS => ?_)
        obtain ⟨x483, ex483⟩ : ∃ y : St, y = setA x482 33 ((fI x482 0 42) + 1) ((rA x482 33 (fI x482 0 42)) + (rA x482 22 l4)) := ⟨_, rfl⟩
        rw [← ex483] at hW
        have hw := hw x483 ex483
        refine lv_iconst (v := 0) hx hb d_Mod_fillPage_176 (by decide) ?_
        refine lv_istore (lv' := [(5, .int 0), (0, .ref (ad 0)), (1, .int l1), (2, .int l2), (3, .int l3), (4, .int l4)]) hx hb d_Mod_fillPage_177 hl (by decide) rfl (fun ls hl => ?_)
        obtain ⟨n, hw⟩ := hw
        exact tl_Mod_fillPage_179 hx hb hml hown hT hK hN hA hRc hRs hRf hRl hret hrec48 n l1 l2 l3 l4 0 x483 H locs ls  hw hW hS (lv_sub hl [1, 2, 3, 4, 5, 0] rfl)
      · have hw := hw.2 c481
        refine lv_goto (tgt := 239) hx hb d_Mod_fillPage_129 (by decide) ?_
        exact t_Mod_fillPage_239 hx hb hml hown hT hK hN hA hRc hRs hRf hRl hret hrec48 l1 l2 l3 l4 x480 H locs ls  hw hW hS (lv_sub hl [0, 1, 2, 3, 4] rfl)
    · have hw := hw.2 c477
      refine lv_goto (tgt := 239) hx hb d_Mod_fillPage_70 (by decide) ?_
      exact t_Mod_fillPage_239 hx hb hml hown hT hK hN hA hRc hRs hRf hRl hret hrec48 l1 l2 l3 l4 x H locs ls  hw hW hS (lv_sub hl [0, 1, 2, 3, 4] rfl)
def wl_Mod_fillPage_48 (post : St → Prop) : Nat → Int32 → Int32 → Int32 → Int32 → St → Prop
  | 0 => fun _ _ _ _ _ => False
  | n + 1 => j_Mod_fillPage_48 post (wl_Mod_fillPage_48 post n)
set_option maxHeartbeats 4000000 in
set_option maxRecDepth 100000 in
theorem tl_Mod_fillPage_48 {p : Program} {l : Launch} {e : Env} {R : Room} {s : State} {m : MethodId} {args : Array Value} {below : List Frame} {meth : Method} {c : Code} {cells slots : Nat} {Q : State → Prop} {dC : Nat → ClassId} {dI : Nat → Nat → Nat} {cI cB cJ cZ : ClassId} {A : Nat → Prop} {ad : Nat → Nat} {post : St → Prop} (hx : p.tables.exec = Jvm.exec) (hb : c.code = b_Mod_fillPage) (hml : c.maxLocals = 6) (hown : s.vm.findClass R_Mod = some m.cls) (hT : ∀ w ∈ TG, w.before args s = true) (hK : va_K (dC, dI) CL (TY cI cB cJ cZ) s) (hN : NW s) (hA : ∀ q : Nat, s.heap.size ≤ q → A q) (hRc : cells ≤ R.cells) (hRs : slots ≤ R.slots) (hRf : 3 ≤ R.frames) (hRl : 69 ≤ R.locals) (hret : ∀ (x : St) (H : Heap) (locs : List Loc) (pc : Nat) (ls : Array Slot), decode b_Mod_fillPage pc = .ok (.return_, 1) → post x → Wd dC dI cI cB cJ cZ ad stM kcM 115 A x H → va_S A s.heap H locs → W p l e R s m args below meth c H locs cells slots Q (F0 m pc ls []))  : ∀ n : Nat, ∀ (l1 : Int32) (l2 : Int32) (l3 : Int32) (l4 : Int32) (x : St) (H : Heap) (locs : List Loc) (ls : Array Slot), wl_Mod_fillPage_48 post n l1 l2 l3 l4 x → Wd dC dI cI cB cJ cZ ad stM kcM 115 A x H → va_S A s.heap H locs → lv_has ls 6 [(0, .ref (ad 0)), (1, .int l1), (2, .int l2), (3, .int l3), (4, .int l4)] → W p l e R s m args below meth c H locs cells slots Q (F0 m 48 ls []) := by
  intro n
  induction n with
  | zero => intro l1 l2 l3 l4 x H locs ls  hw; exact hw.elim
  | succ n ih => intro l1 l2 l3 l4 x H locs ls  hw hW hS hl; exact t_Mod_fillPage_48 hx hb hml hown hT hK hN hA hRc hRs hRf hRl hret  ih l1 l2 l3 l4 x H locs ls  hw hW hS hl
set_option maxRecDepth 100000 in
def wp_Mod_fillPage (post : St → Prop) (l1 : Int32) (l2 : Int32) (l3 : Int32) (x : St) : Prop := wp_Mod_typeOf (fun (r485 : Int32) (x484 : St) => (∀ x486 : St, x486 = setI x484 0 38 r485 → wp_Mod_mostR (fun (r488 : Int32) (x487 : St) => (∀ x489 : St, x489 = setI x487 0 39 r488 → wp_Mod_mostD (fun (r491 : Int32) (x490 : St) => (∀ x492 : St, x492 = setI x490 0 40 r491 → (∀ x493 : St, x493 = setI x492 0 41 0 → (∀ x494 : St, x494 = setI x493 0 42 0 → (vp_in l2 (fN x494 23) ∧ (∀ v495 : Int32, v495 = (rA x494 23 l2) → ∃ n : Nat, wl_Mod_fillPage_48 post n l1 l2 l3 v495 x494)))))) 0 l1 x489)) 0 l1 x486)) 0 l1 x
set_option maxHeartbeats 4000000 in
set_option maxRecDepth 100000 in
theorem t_Mod_fillPage_e {p : Program} {l : Launch} {e : Env} {R : Room} {s : State} {m : MethodId} {args : Array Value} {below : List Frame} {meth : Method} {c : Code} {cells slots : Nat} {Q : State → Prop} {dC : Nat → ClassId} {dI : Nat → Nat → Nat} {cI cB cJ cZ : ClassId} {A : Nat → Prop} {ad : Nat → Nat} {post : St → Prop} (hx : p.tables.exec = Jvm.exec) (hb : c.code = b_Mod_fillPage) (hml : c.maxLocals = 6) (hown : s.vm.findClass R_Mod = some m.cls) (hT : ∀ w ∈ TG, w.before args s = true) (hK : va_K (dC, dI) CL (TY cI cB cJ cZ) s) (hN : NW s) (hA : ∀ q : Nat, s.heap.size ≤ q → A q) (hRc : cells ≤ R.cells) (hRs : slots ≤ R.slots) (hRf : 3 ≤ R.frames) (hRl : 69 ≤ R.locals) (hret : ∀ (x : St) (H : Heap) (locs : List Loc) (pc : Nat) (ls : Array Slot), decode b_Mod_fillPage pc = .ok (.return_, 1) → post x → Wd dC dI cI cB cJ cZ ad stM kcM 115 A x H → va_S A s.heap H locs → W p l e R s m args below meth c H locs cells slots Q (F0 m pc ls [])) : ∀ (l1 : Int32) (l2 : Int32) (l3 : Int32) (x : St) (H : Heap) (locs : List Loc) (ls : Array Slot), wp_Mod_fillPage post l1 l2 l3 x → Wd dC dI cI cB cJ cZ ad stM kcM 115 A x H → va_S A s.heap H locs → lv_has ls 6 [(0, .ref (ad 0)), (1, .int l1), (2, .int l2), (3, .int l3)] → W p l e R s m args below meth c H locs cells slots Q (F0 m 0 ls []) := by
  intro l1 l2 l3 x H locs ls  hw hW hS hl
  unfold wp_Mod_fillPage at hw
  refine lv_aload_n hx hb d_Mod_fillPage_0 rfl (lv_at hl 0 rfl) ?_
  refine lv_aload_n hx hb d_Mod_fillPage_1 rfl (lv_at hl 0 rfl) ?_
  refine lv_iconst (v := 0) hx hb d_Mod_fillPage_2 (by decide) ?_
  refine lv_iload_n hx hb d_Mod_fillPage_3 rfl (lv_at hl 1 rfl) ?_
  have hF := hW.free hS hA
  refine va_calli (va_runV (C := R_Mod) (As := [.int 0, .int l1]) (rest := [.ref (ad 0)]) ⟨hx, hb, hml, hown, hT⟩ (k_Mod_typeOf l dC dI cI cB cJ cZ ad H.size 0 l1 x  hw) ⟨callB_of 2 hT (gw_in w_11_162) rfl rfl rfl (hT _ w_1_15) (hT _ w_11_159) (by decide +kernel) ⟨Nat.le_trans (by decide) hRf, Nat.le_trans (by decide) hRl⟩, hT _ w_11_161, hT _ ws_145⟩ ⟨PW.blind, va_recv hK hW.1 (ci := 12) (q0 := 0) rfl (pic_obj ko_0.1 ko_0.2 (by decide)), PW.at _ hW hK hN⟩ rfl rfl hl.1 rfl (lv_room (Nat.le_of_ble_eq_true rfl)) d_Mod_fillPage_4 ⟨hRc, hRs⟩) hS (fun q _ h => hF q h) hF (fun r485 x484 t H locs ht hvm hw hB hz1 hk1 hS => ?_)
  have hW := Wd.back hB ht hF
  clear hB ht hF hz1 hk1 hvm
  refine w_puti (ty := .int) (k := 38) (t := 12) (C := R_Mod) (T := F_Mod) (N := 167) hx hb hT hown hK hW hS ko_0.1 ko_0.2 (by decide) in_Mod t_Mod t_Mod_ok n_Mod rfl rfl (by decide) rfl fr_Mod_38 w_8_218 (by decide +kernel) rfl rfl d_Mod_fillPage_7 (fun H locs hW hS => ?_)
  obtain ⟨x486, ex486⟩ : ∃ y : St, y = setI x484 0 38 r485 := ⟨_, rfl⟩
  rw [← ex486] at hW
  have hw := hw x486 ex486
  refine lv_aload_n hx hb d_Mod_fillPage_10 rfl (lv_at hl 0 rfl) ?_
  refine lv_aload_n hx hb d_Mod_fillPage_11 rfl (lv_at hl 0 rfl) ?_
  refine lv_iconst (v := 0) hx hb d_Mod_fillPage_12 (by decide) ?_
  refine lv_iload_n hx hb d_Mod_fillPage_13 rfl (lv_at hl 1 rfl) ?_
  have hF := hW.free hS hA
  refine va_calli (va_runV (C := R_Mod) (As := [.int 0, .int l1]) (rest := [.ref (ad 0)]) ⟨hx, hb, hml, hown, hT⟩ (k_Mod_mostR l dC dI cI cB cJ cZ ad H.size 0 l1 x486  hw) ⟨callB_of 2 hT (gw_in w_11_166) rfl rfl rfl (hT _ w_1_15) (hT _ w_11_163) (by decide +kernel) ⟨Nat.le_trans (by decide) hRf, Nat.le_trans (by decide) hRl⟩, hT _ w_11_165, hT _ ws_146⟩ ⟨PW.blind, va_recv hK hW.1 (ci := 12) (q0 := 0) rfl (pic_obj ko_0.1 ko_0.2 (by decide)), PW.at _ hW hK hN⟩ rfl rfl hl.1 rfl (lv_room (Nat.le_of_ble_eq_true rfl)) d_Mod_fillPage_14 ⟨hRc, hRs⟩) hS (fun q _ h => hF q h) hF (fun r488 x487 t H locs ht hvm hw hB hz1 hk1 hS => ?_)
  have hW := Wd.back hB ht hF
  clear hB ht hF hz1 hk1 hvm
  refine w_puti (ty := .int) (k := 39) (t := 12) (C := R_Mod) (T := F_Mod) (N := 167) hx hb hT hown hK hW hS ko_0.1 ko_0.2 (by decide) in_Mod t_Mod t_Mod_ok n_Mod rfl rfl (by decide) rfl fr_Mod_39 w_8_219 (by decide +kernel) rfl rfl d_Mod_fillPage_17 (fun H locs hW hS => ?_)
  obtain ⟨x489, ex489⟩ : ∃ y : St, y = setI x487 0 39 r488 := ⟨_, rfl⟩
  rw [← ex489] at hW
  have hw := hw x489 ex489
  refine lv_aload_n hx hb d_Mod_fillPage_20 rfl (lv_at hl 0 rfl) ?_
  refine lv_aload_n hx hb d_Mod_fillPage_21 rfl (lv_at hl 0 rfl) ?_
  refine lv_iconst (v := 0) hx hb d_Mod_fillPage_22 (by decide) ?_
  refine lv_iload_n hx hb d_Mod_fillPage_23 rfl (lv_at hl 1 rfl) ?_
  have hF := hW.free hS hA
  refine va_calli (va_runV (C := R_Mod) (As := [.int 0, .int l1]) (rest := [.ref (ad 0)]) ⟨hx, hb, hml, hown, hT⟩ (k_Mod_mostD l dC dI cI cB cJ cZ ad H.size 0 l1 x489  hw) ⟨callB_of 2 hT (gw_in w_11_170) rfl rfl rfl (hT _ w_1_15) (hT _ w_11_167) (by decide +kernel) ⟨Nat.le_trans (by decide) hRf, Nat.le_trans (by decide) hRl⟩, hT _ w_11_169, hT _ ws_147⟩ ⟨PW.blind, va_recv hK hW.1 (ci := 12) (q0 := 0) rfl (pic_obj ko_0.1 ko_0.2 (by decide)), PW.at _ hW hK hN⟩ rfl rfl hl.1 rfl (lv_room (Nat.le_of_ble_eq_true rfl)) d_Mod_fillPage_24 ⟨hRc, hRs⟩) hS (fun q _ h => hF q h) hF (fun r491 x490 t H locs ht hvm hw hB hz1 hk1 hS => ?_)
  have hW := Wd.back hB ht hF
  clear hB ht hF hz1 hk1 hvm
  refine w_puti (ty := .int) (k := 40) (t := 12) (C := R_Mod) (T := F_Mod) (N := 167) hx hb hT hown hK hW hS ko_0.1 ko_0.2 (by decide) in_Mod t_Mod t_Mod_ok n_Mod rfl rfl (by decide) rfl fr_Mod_40 w_8_220 (by decide +kernel) rfl rfl d_Mod_fillPage_27 (fun H locs hW hS => ?_)
  obtain ⟨x492, ex492⟩ : ∃ y : St, y = setI x490 0 40 r491 := ⟨_, rfl⟩
  rw [← ex492] at hW
  have hw := hw x492 ex492
  refine lv_aload_n hx hb d_Mod_fillPage_30 rfl (lv_at hl 0 rfl) ?_
  refine lv_iconst (v := 0) hx hb d_Mod_fillPage_31 (by decide) ?_
  refine w_puti (ty := .int) (k := 41) (t := 12) (C := R_Mod) (T := F_Mod) (N := 167) hx hb hT hown hK hW hS ko_0.1 ko_0.2 (by decide) in_Mod t_Mod t_Mod_ok n_Mod rfl rfl (by decide) rfl fr_Mod_41 w_8_221 (by decide +kernel) rfl rfl d_Mod_fillPage_32 (fun H locs hW hS => ?_)
  obtain ⟨x493, ex493⟩ : ∃ y : St, y = setI x492 0 41 0 := ⟨_, rfl⟩
  rw [← ex493] at hW
  have hw := hw x493 ex493
  refine lv_aload_n hx hb d_Mod_fillPage_35 rfl (lv_at hl 0 rfl) ?_
  refine lv_iconst (v := 0) hx hb d_Mod_fillPage_36 (by decide) ?_
  refine w_puti (ty := .int) (k := 42) (t := 12) (C := R_Mod) (T := F_Mod) (N := 167) hx hb hT hown hK hW hS ko_0.1 ko_0.2 (by decide) in_Mod t_Mod t_Mod_ok n_Mod rfl rfl (by decide) rfl fr_Mod_42 w_8_222 (by decide +kernel) rfl rfl d_Mod_fillPage_37 (fun H locs hW hS => ?_)
  obtain ⟨x494, ex494⟩ : ∃ y : St, y = setI x493 0 42 0 := ⟨_, rfl⟩
  rw [← ex494] at hW
  have hw := hw x494 ex494
  refine lv_aload_n hx hb d_Mod_fillPage_40 rfl (lv_at hl 0 rfl) ?_
  refine w_getf (q := 23) (k := 31) (t := 12) (C := R_Mod) (T := F_Mod) (N := 167) hx hb hT hown hK hW ko_0.1 ko_0.2 (by decide) in_Mod rfl rfl (by decide) rfl fr_Mod_31 w_8_211 d_Mod_fillPage_41 rfl ?_
  refine lv_iload_n hx hb d_Mod_fillPage_44 rfl (lv_at hl 2 rfl) ?_
  obtain ⟨hi, hw⟩ := hw
  refine w_iald (o := 23) hx hb hK hW ko_23.1 ko_23.2 hi d_Mod_fillPage_45 ?_
  refine lv_topi (fun v495 ev495 => ?_)
  have hw := hw v495 ev495
  refine lv_istore (lv' := [(4, .int v495), (0, .ref (ad 0)), (1, .int l1), (2, .int l2), (3, .int l3)]) hx hb d_Mod_fillPage_46 hl (by decide) rfl (fun ls hl => ?_)
  obtain ⟨n, hw⟩ := hw
  exact tl_Mod_fillPage_48 hx hb hml hown hT hK hN hA hRc hRs hRf hRl hret  n l1 l2 l3 v495 x494 H locs ls  hw hW hS (lv_sub hl [1, 2, 3, 4, 0] rfl)
set_option maxHeartbeats 4000000 in
set_option maxRecDepth 100000 in
theorem k_Mod_fillPage (l : Launch) (dC : Nat → ClassId) (dI : Nat → Nat → Nat) (cI cB cJ cZ : ClassId) (ad : Nat → Nat) (sz : Nat) (l1 : Int32) (l2 : Int32) (l3 : Int32) (x : St) {post : St → Prop} (hw : wp_Mod_fillPage post l1 l2 l3 x) : Met l y_Mod_fillPage (wsOf y_Mod_fillPage b_Mod_fillPage 6 (none)) ({ frames := 3, cells := 0, slots := 0, locals := 69 }) (va_Pc [.ref (ad 0), .int l1, .int l2, .int l3] (PW dC dI cI cB cJ cZ ad stM kcM 115 sz x)) (va_Qv (fun (y : St) => post y) (fun y t => Wd dC dI cI cB cJ cZ ad stM kcM 115 (va_A (pic ad stM kcM 115 cI cB cJ cZ x) sz) y t.heap) (va_A (pic ad stM kcM 115 cI cB cJ cZ x) sz)) 0 0 (va_A (pic ad stM kcM 115 cI cB cJ cZ x) sz) := by
  refine Met.ofW (cc := b_Mod_fillPage) (maxL := 6) (ret := none) (by decide) rfl ?_
  intro p e s m args below meth c s₁ B hml hv
  obtain ⟨rfl, hsz, hW0, hK, hN⟩ := hv
  have hx := B.exec
  have hb := B.bytes
  have hr := B.returns
  have hts := atoms_spec B.pre
  have hT : ∀ w ∈ TG, w.before _ s = true := fun w h => hts w (List.mem_cons_of_mem _ h)
  have hown : s.vm.findClass R_Mod = some m.cls := findClass_of_methodNamed B.named
  have hlocks := B.notSynchronized
  subst hsz
  have hW : Wd dC dI cI cB cJ cZ ad stM kcM 115 (va_A (pic ad stM kcM 115 cI cB cJ cZ x) s.heap.size) x s.heap := ⟨hW0.1, hW0.2.1.self (sz := s.heap.size), hW0.2.2⟩
  generalize hAe : va_A (pic ad stM kcM 115 cI cB cJ cZ x) s.heap.size = A at hW ⊢
  have hA : ∀ q : Nat, s.heap.size ≤ q → A q := fun q h => by rw [← hAe]; exact Or.inr h
  have hS : va_S A s.heap s.heap [] := va_S.rf
  have hl := lv_entry ([.ref (ad 0), .int l1, .int l2, .int l3]) (n := 6) (Nat.le_of_ble_eq_true rfl)
  rw [lg_entry_eq]
  generalize (lg_sl ([.ref (ad 0), .int l1, .int l2, .int l3]) ++ List.replicate (6 - (lg_sl ([.ref (ad 0), .int l1, .int l2, .int l3])).length) Slot.unset).toArray = ls at hl ⊢
  have hl : lv_has ls 6 [(0, .ref (ad 0)), (1, .int l1), (2, .int l2), (3, .int l3)] := hl
  exact t_Mod_fillPage_e hx hb hml hown hT hK hN hA (Nat.le_refl 0) (Nat.le_refl 0) (Nat.le_refl 3) (Nat.le_refl 69) (fun x H locs pc ls hd hp hW hS => W.vret hx hb hr (fun t ht hM => ⟨⟨x, rfl, hp, Wd.back hW ht.symm (fun _ z => z)⟩, hS.F ht⟩) hS.2.2 hd hlocks)  l1 l2 l3 x _ _ ls  hw hW hS hl
end
