theorem fr_Mod_139 : F_Mod 139 = (R_Mod, "top", "I", false) := rfl
theorem fr_Mod_140 : F_Mod 140 = (R_Mod, "open", "I", false) := rfl
theorem w_13_160 : (Jvm.Cond.methodLink "StripedVaultModel" (1044 : Nat) ({ cls := "StripedVaultModel", name := "readAsked", desc := "(I)V" } : Jvm.MethodName)) ∈ TG := tw_13 160 (by decide +kernel) (by decide +kernel)
theorem w_13_162 : (Jvm.Cond.instanceMethod ({ cls := "StripedVaultModel", name := "readAsked", desc := "(I)V" } : Jvm.MethodName)) ∈ TG := tw_13 162 (by decide +kernel) (by decide +kernel)
theorem w_13_163 : (Jvm.Cond.code ({ cls := "StripedVaultModel", name := "readAsked", desc := "(I)V" } : Jvm.MethodName) prog_14_method_170_code (7 : Nat) (Option.none : Option Jvm.ClassFile.FieldType)) ∈ TG := tw_13 163 (by decide +kernel) (by decide +kernel)
theorem w_13_164 : (Jvm.Cond.methodLink "StripedVaultModel" (1040 : Nat) ({ cls := "StripedVaultModel", name := "addStep", desc := "(IIIIII)V" } : Jvm.MethodName)) ∈ TG := tw_13 164 (by decide +kernel) (by decide +kernel)
theorem w_13_166 : (Jvm.Cond.instanceMethod ({ cls := "StripedVaultModel", name := "addStep", desc := "(IIIIII)V" } : Jvm.MethodName)) ∈ TG := tw_13 166 (by decide +kernel) (by decide +kernel)
theorem w_13_167 : (Jvm.Cond.code ({ cls := "StripedVaultModel", name := "addStep", desc := "(IIIIII)V" } : Jvm.MethodName) prog_14_method_165_code (8 : Nat) (Option.none : Option Jvm.ClassFile.FieldType)) ∈ TG := tw_13 167 (by decide +kernel) (by decide +kernel)
theorem w_13_168 : (Jvm.Cond.methodLink "StripedVaultModel" (1056 : Nat) ({ cls := "StripedVaultModel", name := "readLiteral", desc := "(I)V" } : Jvm.MethodName)) ∈ TG := tw_13 168 (by decide +kernel) (by decide +kernel)
theorem w_13_170 : (Jvm.Cond.instanceMethod ({ cls := "StripedVaultModel", name := "readLiteral", desc := "(I)V" } : Jvm.MethodName)) ∈ TG := tw_13 170 (by decide +kernel) (by decide +kernel)
theorem w_13_171 : (Jvm.Cond.code ({ cls := "StripedVaultModel", name := "readLiteral", desc := "(I)V" } : Jvm.MethodName) prog_14_method_172_code (8 : Nat) (Option.none : Option Jvm.ClassFile.FieldType)) ∈ TG := tw_13 171 (by decide +kernel) (by decide +kernel)
theorem w_13_172 : (Jvm.Cond.methodLink "StripedVaultModel" (1059 : Nat) ({ cls := "StripedVaultModel", name := "operator", desc := "()I" } : Jvm.MethodName)) ∈ TG := tw_13 172 (by decide +kernel) (by decide +kernel)
theorem w_13_174 : (Jvm.Cond.instanceMethod ({ cls := "StripedVaultModel", name := "operator", desc := "()I" } : Jvm.MethodName)) ∈ TG := tw_13 174 (by decide +kernel) (by decide +kernel)
theorem w_13_175 : (Jvm.Cond.code ({ cls := "StripedVaultModel", name := "operator", desc := "()I" } : Jvm.MethodName) prog_14_method_171_code (4 : Nat) (Option.some Jvm.ClassFile.FieldType.int)) ∈ TG := tw_13 175 (by decide +kernel) (by decide +kernel)
theorem w_13_176 : (Jvm.Cond.methodLink "StripedVaultModel" (1047 : Nat) ({ cls := "StripedVaultModel", name := "push", desc := "(II)V" } : Jvm.MethodName)) ∈ TG := tw_13 176 (by decide +kernel) (by decide +kernel)
theorem w_13_178 : (Jvm.Cond.instanceMethod ({ cls := "StripedVaultModel", name := "push", desc := "(II)V" } : Jvm.MethodName)) ∈ TG := tw_13 178 (by decide +kernel) (by decide +kernel)
theorem w_13_179 : (Jvm.Cond.code ({ cls := "StripedVaultModel", name := "push", desc := "(II)V" } : Jvm.MethodName) prog_14_method_166_code (3 : Nat) (Option.none : Option Jvm.ClassFile.FieldType)) ∈ TG := tw_13 179 (by decide +kernel) (by decide +kernel)
theorem w_9_75 : (Jvm.Cond.fieldLink "StripedVaultModel" (1034 : Nat) "StripedVaultModel" "top" "I") ∈ TG := tw_9 75 (by decide +kernel) (by decide +kernel)
theorem w_9_76 : (Jvm.Cond.fieldLink "StripedVaultModel" (1037 : Nat) "StripedVaultModel" "open" "I") ∈ TG := tw_9 76 (by decide +kernel) (by decide +kernel)
theorem ws_243 : Cond.selects R_Mod y_Mod_readAsked y_Mod_readAsked ∈ TG := tw_s 243 (by decide +kernel) (by decide +kernel)
theorem ws_244 : Cond.selects R_Mod y_Mod_addStep y_Mod_addStep ∈ TG := tw_s 244 (by decide +kernel) (by decide +kernel)
theorem ws_245 : Cond.selects R_Mod y_Mod_readLiteral y_Mod_readLiteral ∈ TG := tw_s 245 (by decide +kernel) (by decide +kernel)
theorem ws_246 : Cond.selects R_Mod y_Mod_operator y_Mod_operator ∈ TG := tw_s 246 (by decide +kernel) (by decide +kernel)
theorem ws_247 : Cond.selects R_Mod y_Mod_push y_Mod_push ∈ TG := tw_s 247 (by decide +kernel) (by decide +kernel)
theorem d_Mod_operator_108 : decode b_Mod_operator 108 = .ok (.iadd, 1) := by decide +kernel
theorem d_Mod_operator_109 : decode b_Mod_operator 109 = .ok (.putfield 373, 3) := by decide +kernel
theorem d_Mod_operator_112 : decode b_Mod_operator 112 = .ok (.iload_n 1, 1) := by decide +kernel
theorem d_Mod_operator_113 : decode b_Mod_operator 113 = .ok (.bipush 61, 2) := by decide +kernel
theorem d_Mod_operator_115 : decode b_Mod_operator 115 = .ok (.if_icmp .ne 7, 3) := by decide +kernel
theorem d_Mod_operator_122 : decode b_Mod_operator 122 = .ok (.iload_n 1, 1) := by decide +kernel
theorem d_Mod_operator_123 : decode b_Mod_operator 123 = .ok (.bipush 60, 2) := by decide +kernel
theorem d_Mod_operator_125 : decode b_Mod_operator 125 = .ok (.if_icmp .ne 25, 3) := by decide +kernel
theorem d_Mod_operator_150 : decode b_Mod_operator 150 = .ok (.iload_n 3, 1) := by decide +kernel
theorem d_Mod_operator_151 : decode b_Mod_operator 151 = .ok (.ifCond .eq 7, 3) := by decide +kernel
theorem d_Mod_operator_158 : decode b_Mod_operator 158 = .ok (.iconst 4, 1) := by decide +kernel
theorem d_Mod_operator_159 : decode b_Mod_operator 159 = .ok (.ireturn, 1) := by decide +kernel
theorem d_Mod_operator_154 : decode b_Mod_operator 154 = .ok (.iconst 5, 1) := by decide +kernel
theorem d_Mod_operator_155 : decode b_Mod_operator 155 = .ok (.goto 4, 3) := by decide +kernel
theorem d_Mod_operator_128 : decode b_Mod_operator 128 = .ok (.iload_n 2, 1) := by decide +kernel
theorem d_Mod_operator_129 : decode b_Mod_operator 129 = .ok (.bipush 62, 2) := by decide +kernel
theorem d_Mod_operator_131 : decode b_Mod_operator 131 = .ok (.if_icmp .ne 7, 3) := by decide +kernel
theorem d_Mod_operator_138 : decode b_Mod_operator 138 = .ok (.iload_n 3, 1) := by decide +kernel
theorem d_Mod_operator_139 : decode b_Mod_operator 139 = .ok (.ifCond .eq 7, 3) := by decide +kernel
theorem d_Mod_operator_146 : decode b_Mod_operator 146 = .ok (.iconst 2, 1) := by decide +kernel
theorem d_Mod_operator_147 : decode b_Mod_operator 147 = .ok (.goto 12, 3) := by decide +kernel
theorem d_Mod_operator_142 : decode b_Mod_operator 142 = .ok (.iconst 3, 1) := by decide +kernel
theorem d_Mod_operator_143 : decode b_Mod_operator 143 = .ok (.goto 16, 3) := by decide +kernel
theorem d_Mod_operator_134 : decode b_Mod_operator 134 = .ok (.iconst 1, 1) := by decide +kernel
theorem d_Mod_operator_135 : decode b_Mod_operator 135 = .ok (.goto 24, 3) := by decide +kernel
theorem d_Mod_operator_118 : decode b_Mod_operator 118 = .ok (.iconst 0, 1) := by decide +kernel
theorem d_Mod_operator_119 : decode b_Mod_operator 119 = .ok (.goto 40, 3) := by decide +kernel
theorem d_Mod_operator_93 : decode b_Mod_operator 93 = .ok (.istore_n 3, 1) := by decide +kernel
theorem d_Mod_operator_94 : decode b_Mod_operator 94 = .ok (.aload_n 0, 1) := by decide +kernel
theorem d_Mod_operator_95 : decode b_Mod_operator 95 = .ok (.dup, 1) := by decide +kernel
theorem d_Mod_operator_96 : decode b_Mod_operator 96 = .ok (.getfield 373, 3) := by decide +kernel
theorem d_Mod_operator_99 : decode b_Mod_operator 99 = .ok (.iload_n 3, 1) := by decide +kernel
theorem d_Mod_operator_100 : decode b_Mod_operator 100 = .ok (.ifCond .eq 7, 3) := by decide +kernel
theorem d_Mod_operator_107 : decode b_Mod_operator 107 = .ok (.iconst 0, 1) := by decide +kernel
theorem d_Mod_operator_103 : decode b_Mod_operator 103 = .ok (.iconst 1, 1) := by decide +kernel
theorem d_Mod_operator_104 : decode b_Mod_operator 104 = .ok (.goto 4, 3) := by decide +kernel
theorem d_Mod_operator_92 : decode b_Mod_operator 92 = .ok (.iconst 0, 1) := by decide +kernel
theorem d_Mod_operator_88 : decode b_Mod_operator 88 = .ok (.iconst 1, 1) := by decide +kernel
theorem d_Mod_operator_89 : decode b_Mod_operator 89 = .ok (.goto 4, 3) := by decide +kernel
theorem d_Mod_operator_69 : decode b_Mod_operator 69 = .ok (.istore_n 2, 1) := by decide +kernel
theorem d_Mod_operator_70 : decode b_Mod_operator 70 = .ok (.iload_n 2, 1) := by decide +kernel
theorem d_Mod_operator_71 : decode b_Mod_operator 71 = .ok (.bipush 61, 2) := by decide +kernel
theorem d_Mod_operator_73 : decode b_Mod_operator 73 = .ok (.if_icmp .eq 15, 3) := by decide +kernel
theorem d_Mod_operator_76 : decode b_Mod_operator 76 = .ok (.iload_n 1, 1) := by decide +kernel
theorem d_Mod_operator_77 : decode b_Mod_operator 77 = .ok (.bipush 60, 2) := by decide +kernel
theorem d_Mod_operator_79 : decode b_Mod_operator 79 = .ok (.if_icmp .ne 13, 3) := by decide +kernel
theorem d_Mod_operator_82 : decode b_Mod_operator 82 = .ok (.iload_n 2, 1) := by decide +kernel
theorem d_Mod_operator_83 : decode b_Mod_operator 83 = .ok (.bipush 62, 2) := by decide +kernel
theorem d_Mod_operator_85 : decode b_Mod_operator 85 = .ok (.if_icmp .ne 7, 3) := by decide +kernel
theorem d_Mod_operator_35 : decode b_Mod_operator 35 = .ok (.aload_n 0, 1) := by decide +kernel
theorem d_Mod_operator_36 : decode b_Mod_operator 36 = .ok (.getfield 376, 3) := by decide +kernel
theorem d_Mod_operator_39 : decode b_Mod_operator 39 = .ok (.iconst (-1), 1) := by decide +kernel
theorem d_Mod_operator_40 : decode b_Mod_operator 40 = .ok (.if_icmp .eq 5, 3) := by decide +kernel
theorem d_Mod_operator_45 : decode b_Mod_operator 45 = .ok (.aload_n 0, 1) := by decide +kernel
theorem d_Mod_operator_46 : decode b_Mod_operator 46 = .ok (.dup, 1) := by decide +kernel
theorem d_Mod_operator_47 : decode b_Mod_operator 47 = .ok (.getfield 373, 3) := by decide +kernel
theorem d_Mod_operator_50 : decode b_Mod_operator 50 = .ok (.iconst 1, 1) := by decide +kernel
theorem d_Mod_operator_51 : decode b_Mod_operator 51 = .ok (.iadd, 1) := by decide +kernel
theorem d_Mod_operator_52 : decode b_Mod_operator 52 = .ok (.putfield 373, 3) := by decide +kernel
theorem d_Mod_operator_55 : decode b_Mod_operator 55 = .ok (.iload_n 1, 1) := by decide +kernel
theorem d_Mod_operator_56 : decode b_Mod_operator 56 = .ok (.bipush 61, 2) := by decide +kernel
theorem d_Mod_operator_58 : decode b_Mod_operator 58 = .ok (.if_icmp .ne 7, 3) := by decide +kernel
theorem d_Mod_operator_65 : decode b_Mod_operator 65 = .ok (.aload_n 0, 1) := by decide +kernel
theorem d_Mod_operator_66 : decode b_Mod_operator 66 = .ok (.invokevirtual 379, 3) := by decide +kernel
theorem d_Mod_operator_61 : decode b_Mod_operator 61 = .ok (.iconst (-1), 1) := by decide +kernel
theorem d_Mod_operator_62 : decode b_Mod_operator 62 = .ok (.goto 7, 3) := by decide +kernel
theorem d_Mod_operator_43 : decode b_Mod_operator 43 = .ok (.iconst (-1), 1) := by decide +kernel
theorem d_Mod_operator_44 : decode b_Mod_operator 44 = .ok (.ireturn, 1) := by decide +kernel
theorem d_Mod_operator_0 : decode b_Mod_operator 0 = .ok (.aload_n 0, 1) := by decide +kernel
theorem d_Mod_operator_1 : decode b_Mod_operator 1 = .ok (.invokevirtual 394, 3) := by decide +kernel
theorem d_Mod_operator_4 : decode b_Mod_operator 4 = .ok (.aload_n 0, 1) := by decide +kernel
theorem d_Mod_operator_5 : decode b_Mod_operator 5 = .ok (.invokevirtual 379, 3) := by decide +kernel
theorem d_Mod_operator_8 : decode b_Mod_operator 8 = .ok (.istore_n 1, 1) := by decide +kernel
theorem d_Mod_operator_9 : decode b_Mod_operator 9 = .ok (.iload_n 1, 1) := by decide +kernel
theorem d_Mod_operator_10 : decode b_Mod_operator 10 = .ok (.bipush 61, 2) := by decide +kernel
theorem d_Mod_operator_12 : decode b_Mod_operator 12 = .ok (.if_icmp .eq 23, 3) := by decide +kernel
theorem d_Mod_operator_15 : decode b_Mod_operator 15 = .ok (.iload_n 1, 1) := by decide +kernel
theorem d_Mod_operator_16 : decode b_Mod_operator 16 = .ok (.bipush 60, 2) := by decide +kernel
theorem d_Mod_operator_18 : decode b_Mod_operator 18 = .ok (.if_icmp .eq 17, 3) := by decide +kernel
theorem d_Mod_operator_21 : decode b_Mod_operator 21 = .ok (.iload_n 1, 1) := by decide +kernel
theorem d_Mod_operator_22 : decode b_Mod_operator 22 = .ok (.bipush 62, 2) := by decide +kernel
theorem d_Mod_operator_24 : decode b_Mod_operator 24 = .ok (.if_icmp .eq 11, 3) := by decide +kernel
theorem d_Mod_operator_27 : decode b_Mod_operator 27 = .ok (.aload_n 0, 1) := by decide +kernel
theorem d_Mod_operator_28 : decode b_Mod_operator 28 = .ok (.aload_n 0, 1) := by decide +kernel
theorem d_Mod_operator_29 : decode b_Mod_operator 29 = .ok (.getfield 373, 3) := by decide +kernel
theorem d_Mod_operator_32 : decode b_Mod_operator 32 = .ok (.invokevirtual 408, 3) := by decide +kernel
theorem d_Mod_readAsked_326 : decode b_Mod_readAsked 326 = .ok (.aload_n 0, 1) := by decide +kernel
theorem d_Mod_readAsked_327 : decode b_Mod_readAsked 327 = .ok (.aload_n 0, 1) := by decide +kernel
theorem d_Mod_readAsked_328 : decode b_Mod_readAsked 328 = .ok (.getfield 20, 3) := by decide +kernel
theorem d_Mod_readAsked_331 : decode b_Mod_readAsked 331 = .ok (.iconst 1, 1) := by decide +kernel
theorem d_Mod_readAsked_332 : decode b_Mod_readAsked 332 = .ok (.iload_n 2, 1) := by decide +kernel
theorem d_Mod_readAsked_333 : decode b_Mod_readAsked 333 = .ok (.invokestatic 412, 3) := by decide +kernel
theorem d_Mod_readAsked_336 : decode b_Mod_readAsked 336 = .ok (.iaload, 1) := by decide +kernel
theorem d_Mod_readAsked_337 : decode b_Mod_readAsked 337 = .ok (.invokevirtual 1056, 3) := by decide +kernel
theorem d_Mod_readAsked_340 : decode b_Mod_readAsked 340 = .ok (.aload_n 0, 1) := by decide +kernel
theorem d_Mod_readAsked_341 : decode b_Mod_readAsked 341 = .ok (.iload_n 1, 1) := by decide +kernel
theorem d_Mod_readAsked_342 : decode b_Mod_readAsked 342 = .ok (.iconst 3, 1) := by decide +kernel
theorem d_Mod_readAsked_343 : decode b_Mod_readAsked 343 = .ok (.iload_n 2, 1) := by decide +kernel
theorem d_Mod_readAsked_344 : decode b_Mod_readAsked 344 = .ok (.iload 4, 2) := by decide +kernel
theorem d_Mod_readAsked_346 : decode b_Mod_readAsked 346 = .ok (.iload_n 3, 1) := by decide +kernel
theorem d_Mod_readAsked_347 : decode b_Mod_readAsked 347 = .ok (.iconst 1, 1) := by decide +kernel
theorem d_Mod_readAsked_348 : decode b_Mod_readAsked 348 = .ok (.invokevirtual 1040, 3) := by decide +kernel
theorem d_Mod_readAsked_351 : decode b_Mod_readAsked 351 = .ok (.return_, 1) := by decide +kernel
theorem d_Mod_readAsked_311 : decode b_Mod_readAsked 311 = .ok (.aload_n 0, 1) := by decide +kernel
theorem d_Mod_readAsked_312 : decode b_Mod_readAsked 312 = .ok (.iload_n 1, 1) := by decide +kernel
theorem d_Mod_readAsked_313 : decode b_Mod_readAsked 313 = .ok (.iconst 4, 1) := by decide +kernel
theorem d_Mod_readAsked_314 : decode b_Mod_readAsked 314 = .ok (.iload_n 2, 1) := by decide +kernel
theorem d_Mod_readAsked_315 : decode b_Mod_readAsked 315 = .ok (.iload 4, 2) := by decide +kernel
theorem d_Mod_readAsked_317 : decode b_Mod_readAsked 317 = .ok (.iload 6, 2) := by decide +kernel
theorem d_Mod_readAsked_319 : decode b_Mod_readAsked 319 = .ok (.iconst 0, 1) := by decide +kernel
theorem d_Mod_readAsked_320 : decode b_Mod_readAsked 320 = .ok (.invokevirtual 1040, 3) := by decide +kernel
theorem d_Mod_readAsked_323 : decode b_Mod_readAsked 323 = .ok (.goto 28, 3) := by decide +kernel
theorem d_Mod_readAsked_305 : decode b_Mod_readAsked 305 = .ok (.aload_n 0, 1) := by decide +kernel
theorem d_Mod_readAsked_306 : decode b_Mod_readAsked 306 = .ok (.iload 5, 2) := by decide +kernel
theorem d_Mod_readAsked_308 : decode b_Mod_readAsked 308 = .ok (.invokevirtual 408, 3) := by decide +kernel
theorem d_Mod_readAsked_121 : decode b_Mod_readAsked 121 = .ok (.aload_n 0, 1) := by decide +kernel
theorem d_Mod_readAsked_122 : decode b_Mod_readAsked 122 = .ok (.bipush 44, 2) := by decide +kernel
theorem d_Mod_readAsked_124 : decode b_Mod_readAsked 124 = .ok (.invokevirtual 405, 3) := by decide +kernel
theorem d_Mod_readAsked_127 : decode b_Mod_readAsked 127 = .ok (.ifCond .eq 20, 3) := by decide +kernel
theorem d_Mod_readAsked_147 : decode b_Mod_readAsked 147 = .ok (.aload_n 0, 1) := by decide +kernel
theorem d_Mod_readAsked_148 : decode b_Mod_readAsked 148 = .ok (.bipush 41, 2) := by decide +kernel
theorem d_Mod_readAsked_150 : decode b_Mod_readAsked 150 = .ok (.invokevirtual 454, 3) := by decide +kernel
theorem d_Mod_readAsked_153 : decode b_Mod_readAsked 153 = .ok (.aload_n 0, 1) := by decide +kernel
theorem d_Mod_readAsked_154 : decode b_Mod_readAsked 154 = .ok (.iload_n 1, 1) := by decide +kernel
theorem d_Mod_readAsked_155 : decode b_Mod_readAsked 155 = .ok (.iconst 2, 1) := by decide +kernel
theorem d_Mod_readAsked_156 : decode b_Mod_readAsked 156 = .ok (.iload_n 2, 1) := by decide +kernel
theorem d_Mod_readAsked_157 : decode b_Mod_readAsked 157 = .ok (.iconst (-1), 1) := by decide +kernel
theorem d_Mod_readAsked_158 : decode b_Mod_readAsked 158 = .ok (.iload_n 3, 1) := by decide +kernel
theorem d_Mod_readAsked_159 : decode b_Mod_readAsked 159 = .ok (.aload_n 0, 1) := by decide +kernel
theorem d_Mod_readAsked_160 : decode b_Mod_readAsked 160 = .ok (.getfield 252, 3) := by decide +kernel
theorem d_Mod_readAsked_163 : decode b_Mod_readAsked 163 = .ok (.iconst 4, 1) := by decide +kernel
theorem d_Mod_readAsked_164 : decode b_Mod_readAsked 164 = .ok (.aload_n 0, 1) := by decide +kernel
theorem d_Mod_readAsked_165 : decode b_Mod_readAsked 165 = .ok (.getfield 1022, 3) := by decide +kernel
theorem d_Mod_readAsked_168 : decode b_Mod_readAsked 168 = .ok (.imul, 1) := by decide +kernel
theorem d_Mod_readAsked_169 : decode b_Mod_readAsked 169 = .ok (.iconst 3, 1) := by decide +kernel
theorem d_Mod_readAsked_170 : decode b_Mod_readAsked 170 = .ok (.iadd, 1) := by decide +kernel
theorem d_Mod_readAsked_171 : decode b_Mod_readAsked 171 = .ok (.iaload, 1) := by decide +kernel
theorem d_Mod_readAsked_172 : decode b_Mod_readAsked 172 = .ok (.iload_n 3, 1) := by decide +kernel
theorem d_Mod_readAsked_173 : decode b_Mod_readAsked 173 = .ok (.isub, 1) := by decide +kernel
theorem d_Mod_readAsked_174 : decode b_Mod_readAsked 174 = .ok (.invokevirtual 1040, 3) := by decide +kernel
theorem d_Mod_readAsked_177 : decode b_Mod_readAsked 177 = .ok (.return_, 1) := by decide +kernel
theorem d_Mod_readAsked_130 : decode b_Mod_readAsked 130 = .ok (.aload_n 0, 1) := by decide +kernel
theorem d_Mod_readAsked_131 : decode b_Mod_readAsked 131 = .ok (.aload_n 0, 1) := by decide +kernel
theorem d_Mod_readAsked_132 : decode b_Mod_readAsked 132 = .ok (.getfield 20, 3) := by decide +kernel
theorem d_Mod_readAsked_135 : decode b_Mod_readAsked 135 = .ok (.iconst 1, 1) := by decide +kernel
theorem d_Mod_readAsked_136 : decode b_Mod_readAsked 136 = .ok (.iload_n 2, 1) := by decide +kernel
theorem d_Mod_readAsked_137 : decode b_Mod_readAsked 137 = .ok (.invokestatic 412, 3) := by decide +kernel
theorem d_Mod_readAsked_140 : decode b_Mod_readAsked 140 = .ok (.iaload, 1) := by decide +kernel
theorem d_Mod_readAsked_141 : decode b_Mod_readAsked 141 = .ok (.invokevirtual 1056, 3) := by decide +kernel
theorem d_Mod_readAsked_144 : decode b_Mod_readAsked 144 = .ok (.goto (-23), 3) := by decide +kernel
theorem d_Mod_readAsked_61 : decode b_Mod_readAsked 61 = .ok (.iload_n 2, 1) := by decide +kernel
theorem d_Mod_readAsked_62 : decode b_Mod_readAsked 62 = .ok (.iconst (-1), 1) := by decide +kernel
theorem d_Mod_readAsked_63 : decode b_Mod_readAsked 63 = .ok (.iconst (-1), 1) := by decide +kernel
theorem d_Mod_readAsked_64 : decode b_Mod_readAsked 64 = .ok (.iconst 0, 1) := by decide +kernel
theorem d_Mod_readAsked_65 : decode b_Mod_readAsked 65 = .ok (.invokevirtual 1040, 3) := by decide +kernel
theorem d_Mod_readAsked_68 : decode b_Mod_readAsked 68 = .ok (.return_, 1) := by decide +kernel
theorem d_Mod_readAsked_50 : decode b_Mod_readAsked 50 = .ok (.aload_n 0, 1) := by decide +kernel
theorem d_Mod_readAsked_51 : decode b_Mod_readAsked 51 = .ok (.iload_n 1, 1) := by decide +kernel
theorem d_Mod_readAsked_52 : decode b_Mod_readAsked 52 = .ok (.iload_n 3, 1) := by decide +kernel
theorem d_Mod_readAsked_53 : decode b_Mod_readAsked 53 = .ok (.ifCond .eq 7, 3) := by decide +kernel
theorem d_Mod_readAsked_60 : decode b_Mod_readAsked 60 = .ok (.iconst 0, 1) := by decide +kernel
theorem d_Mod_readAsked_56 : decode b_Mod_readAsked 56 = .ok (.iconst 1, 1) := by decide +kernel
theorem d_Mod_readAsked_57 : decode b_Mod_readAsked 57 = .ok (.goto 4, 3) := by decide +kernel
theorem d_Mod_readAsked_0 : decode b_Mod_readAsked 0 = .ok (.aload_n 0, 1) := by decide +kernel
theorem d_Mod_readAsked_1 : decode b_Mod_readAsked 1 = .ok (.invokevirtual 1025, 3) := by decide +kernel
theorem d_Mod_readAsked_4 : decode b_Mod_readAsked 4 = .ok (.istore_n 2, 1) := by decide +kernel
theorem d_Mod_readAsked_5 : decode b_Mod_readAsked 5 = .ok (.aload_n 0, 1) := by decide +kernel
theorem d_Mod_readAsked_6 : decode b_Mod_readAsked 6 = .ok (.getfield 376, 3) := by decide +kernel
theorem d_Mod_readAsked_9 : decode b_Mod_readAsked 9 = .ok (.iconst (-1), 1) := by decide +kernel
theorem d_Mod_readAsked_10 : decode b_Mod_readAsked 10 = .ok (.if_icmp .eq 4, 3) := by decide +kernel
theorem d_Mod_readAsked_14 : decode b_Mod_readAsked 14 = .ok (.aload_n 0, 1) := by decide +kernel
theorem d_Mod_readAsked_15 : decode b_Mod_readAsked 15 = .ok (.ldc2_w 999, 3) := by decide +kernel
theorem d_Mod_readAsked_18 : decode b_Mod_readAsked 18 = .ok (.invokevirtual 425, 3) := by decide +kernel
theorem d_Mod_readAsked_21 : decode b_Mod_readAsked 21 = .ok (.ifCond .eq 48, 3) := by decide +kernel
theorem d_Mod_readAsked_69 : decode b_Mod_readAsked 69 = .ok (.aload_n 0, 1) := by decide +kernel
theorem d_Mod_readAsked_70 : decode b_Mod_readAsked 70 = .ok (.getfield 252, 3) := by decide +kernel
theorem d_Mod_readAsked_73 : decode b_Mod_readAsked 73 = .ok (.iconst 4, 1) := by decide +kernel
theorem d_Mod_readAsked_74 : decode b_Mod_readAsked 74 = .ok (.aload_n 0, 1) := by decide +kernel
theorem d_Mod_readAsked_75 : decode b_Mod_readAsked 75 = .ok (.getfield 1022, 3) := by decide +kernel
theorem d_Mod_readAsked_78 : decode b_Mod_readAsked 78 = .ok (.imul, 1) := by decide +kernel
theorem d_Mod_readAsked_79 : decode b_Mod_readAsked 79 = .ok (.iconst 3, 1) := by decide +kernel
theorem d_Mod_readAsked_80 : decode b_Mod_readAsked 80 = .ok (.iadd, 1) := by decide +kernel
theorem d_Mod_readAsked_81 : decode b_Mod_readAsked 81 = .ok (.iaload, 1) := by decide +kernel
theorem d_Mod_readAsked_82 : decode b_Mod_readAsked 82 = .ok (.istore_n 3, 1) := by decide +kernel
theorem d_Mod_readAsked_83 : decode b_Mod_readAsked 83 = .ok (.aload_n 0, 1) := by decide +kernel
theorem d_Mod_readAsked_84 : decode b_Mod_readAsked 84 = .ok (.ldc2_w 1003, 3) := by decide +kernel
theorem d_Mod_readAsked_87 : decode b_Mod_readAsked 87 = .ok (.invokevirtual 425, 3) := by decide +kernel
theorem d_Mod_readAsked_90 : decode b_Mod_readAsked 90 = .ok (.ifCond .eq 88, 3) := by decide +kernel
theorem d_Mod_readAsked_178 : decode b_Mod_readAsked 178 = .ok (.aload_n 0, 1) := by decide +kernel
theorem d_Mod_readAsked_179 : decode b_Mod_readAsked 179 = .ok (.invokevirtual 1059, 3) := by decide +kernel
theorem d_Mod_readAsked_182 : decode b_Mod_readAsked 182 = .ok (.istore 4, 2) := by decide +kernel
theorem d_Mod_readAsked_184 : decode b_Mod_readAsked 184 = .ok (.aload_n 0, 1) := by decide +kernel
theorem d_Mod_readAsked_185 : decode b_Mod_readAsked 185 = .ok (.getfield 376, 3) := by decide +kernel
theorem d_Mod_readAsked_188 : decode b_Mod_readAsked 188 = .ok (.iconst (-1), 1) := by decide +kernel
theorem d_Mod_readAsked_189 : decode b_Mod_readAsked 189 = .ok (.if_icmp .eq 4, 3) := by decide +kernel
theorem d_Mod_readAsked_193 : decode b_Mod_readAsked 193 = .ok (.aload_n 0, 1) := by decide +kernel
theorem d_Mod_readAsked_194 : decode b_Mod_readAsked 194 = .ok (.invokevirtual 394, 3) := by decide +kernel
theorem d_Mod_readAsked_197 : decode b_Mod_readAsked 197 = .ok (.aload_n 0, 1) := by decide +kernel
theorem d_Mod_readAsked_198 : decode b_Mod_readAsked 198 = .ok (.aload_n 0, 1) := by decide +kernel
theorem d_Mod_readAsked_199 : decode b_Mod_readAsked 199 = .ok (.getfield 373, 3) := by decide +kernel
theorem d_Mod_readAsked_202 : decode b_Mod_readAsked 202 = .ok (.invokevirtual 390, 3) := by decide +kernel
theorem d_Mod_readAsked_205 : decode b_Mod_readAsked 205 = .ok (.ifCond .le 121, 3) := by decide +kernel
theorem d_Mod_readAsked_208 : decode b_Mod_readAsked 208 = .ok (.aload_n 0, 1) := by decide +kernel
theorem d_Mod_readAsked_209 : decode b_Mod_readAsked 209 = .ok (.ldc2_w 502, 3) := by decide +kernel
theorem d_Mod_readAsked_212 : decode b_Mod_readAsked 212 = .ok (.invokevirtual 401, 3) := by decide +kernel
theorem d_Mod_readAsked_215 : decode b_Mod_readAsked 215 = .ok (.ifCond .ne 111, 3) := by decide +kernel
theorem d_Mod_readAsked_218 : decode b_Mod_readAsked 218 = .ok (.aload_n 0, 1) := by decide +kernel
theorem d_Mod_readAsked_219 : decode b_Mod_readAsked 219 = .ok (.ldc2_w 504, 3) := by decide +kernel
theorem d_Mod_readAsked_222 : decode b_Mod_readAsked 222 = .ok (.invokevirtual 401, 3) := by decide +kernel
theorem d_Mod_readAsked_225 : decode b_Mod_readAsked 225 = .ok (.ifCond .ne 101, 3) := by decide +kernel
theorem d_Mod_readAsked_228 : decode b_Mod_readAsked 228 = .ok (.aload_n 0, 1) := by decide +kernel
theorem d_Mod_readAsked_229 : decode b_Mod_readAsked 229 = .ok (.getfield 373, 3) := by decide +kernel
theorem d_Mod_readAsked_232 : decode b_Mod_readAsked 232 = .ok (.istore 5, 2) := by decide +kernel
theorem d_Mod_readAsked_234 : decode b_Mod_readAsked 234 = .ok (.aload_n 0, 1) := by decide +kernel
theorem d_Mod_readAsked_235 : decode b_Mod_readAsked 235 = .ok (.invokevirtual 1025, 3) := by decide +kernel
theorem d_Mod_readAsked_238 : decode b_Mod_readAsked 238 = .ok (.istore 6, 2) := by decide +kernel
theorem d_Mod_readAsked_240 : decode b_Mod_readAsked 240 = .ok (.aload_n 0, 1) := by decide +kernel
theorem d_Mod_readAsked_241 : decode b_Mod_readAsked 241 = .ok (.getfield 376, 3) := by decide +kernel
theorem d_Mod_readAsked_244 : decode b_Mod_readAsked 244 = .ok (.iconst (-1), 1) := by decide +kernel
theorem d_Mod_readAsked_245 : decode b_Mod_readAsked 245 = .ok (.if_icmp .ne 66, 3) := by decide +kernel
theorem d_Mod_readAsked_248 : decode b_Mod_readAsked 248 = .ok (.aload_n 0, 1) := by decide +kernel
theorem d_Mod_readAsked_249 : decode b_Mod_readAsked 249 = .ok (.getfield 20, 3) := by decide +kernel
theorem d_Mod_readAsked_252 : decode b_Mod_readAsked 252 = .ok (.iconst 1, 1) := by decide +kernel
theorem d_Mod_readAsked_253 : decode b_Mod_readAsked 253 = .ok (.iload_n 2, 1) := by decide +kernel
theorem d_Mod_readAsked_254 : decode b_Mod_readAsked 254 = .ok (.invokestatic 412, 3) := by decide +kernel
theorem d_Mod_readAsked_257 : decode b_Mod_readAsked 257 = .ok (.iaload, 1) := by decide +kernel
theorem d_Mod_readAsked_258 : decode b_Mod_readAsked 258 = .ok (.aload_n 0, 1) := by decide +kernel
theorem d_Mod_readAsked_259 : decode b_Mod_readAsked 259 = .ok (.getfield 20, 3) := by decide +kernel
theorem d_Mod_readAsked_262 : decode b_Mod_readAsked 262 = .ok (.iconst 1, 1) := by decide +kernel
theorem d_Mod_readAsked_263 : decode b_Mod_readAsked 263 = .ok (.iload 6, 2) := by decide +kernel
theorem d_Mod_readAsked_265 : decode b_Mod_readAsked 265 = .ok (.invokestatic 412, 3) := by decide +kernel
theorem d_Mod_readAsked_268 : decode b_Mod_readAsked 268 = .ok (.iaload, 1) := by decide +kernel
theorem d_Mod_readAsked_269 : decode b_Mod_readAsked 269 = .ok (.if_icmp .eq 42, 3) := by decide +kernel
theorem d_Mod_readAsked_272 : decode b_Mod_readAsked 272 = .ok (.aload_n 0, 1) := by decide +kernel
theorem d_Mod_readAsked_273 : decode b_Mod_readAsked 273 = .ok (.getfield 20, 3) := by decide +kernel
theorem d_Mod_readAsked_276 : decode b_Mod_readAsked 276 = .ok (.iconst 1, 1) := by decide +kernel
theorem d_Mod_readAsked_277 : decode b_Mod_readAsked 277 = .ok (.iload_n 2, 1) := by decide +kernel
theorem d_Mod_readAsked_278 : decode b_Mod_readAsked 278 = .ok (.invokestatic 412, 3) := by decide +kernel
theorem d_Mod_readAsked_281 : decode b_Mod_readAsked 281 = .ok (.iaload, 1) := by decide +kernel
theorem d_Mod_readAsked_282 : decode b_Mod_readAsked 282 = .ok (.invokestatic 1028, 3) := by decide +kernel
theorem d_Mod_readAsked_285 : decode b_Mod_readAsked 285 = .ok (.ifCond .eq 20, 3) := by decide +kernel
theorem d_Mod_readAsked_288 : decode b_Mod_readAsked 288 = .ok (.aload_n 0, 1) := by decide +kernel
theorem d_Mod_readAsked_289 : decode b_Mod_readAsked 289 = .ok (.getfield 20, 3) := by decide +kernel
theorem d_Mod_readAsked_292 : decode b_Mod_readAsked 292 = .ok (.iconst 1, 1) := by decide +kernel
theorem d_Mod_readAsked_293 : decode b_Mod_readAsked 293 = .ok (.iload 6, 2) := by decide +kernel
theorem d_Mod_readAsked_295 : decode b_Mod_readAsked 295 = .ok (.invokestatic 412, 3) := by decide +kernel
theorem d_Mod_readAsked_298 : decode b_Mod_readAsked 298 = .ok (.iaload, 1) := by decide +kernel
theorem d_Mod_readAsked_299 : decode b_Mod_readAsked 299 = .ok (.invokestatic 1028, 3) := by decide +kernel
theorem d_Mod_readAsked_302 : decode b_Mod_readAsked 302 = .ok (.ifCond .ne 9, 3) := by decide +kernel
theorem d_Mod_readAsked_192 : decode b_Mod_readAsked 192 = .ok (.return_, 1) := by decide +kernel
theorem d_Mod_readAsked_93 : decode b_Mod_readAsked 93 = .ok (.aload_n 0, 1) := by decide +kernel
theorem d_Mod_readAsked_94 : decode b_Mod_readAsked 94 = .ok (.bipush 40, 2) := by decide +kernel
theorem d_Mod_readAsked_96 : decode b_Mod_readAsked 96 = .ok (.invokevirtual 454, 3) := by decide +kernel
theorem d_Mod_readAsked_99 : decode b_Mod_readAsked 99 = .ok (.aload_n 0, 1) := by decide +kernel
theorem d_Mod_readAsked_100 : decode b_Mod_readAsked 100 = .ok (.getfield 376, 3) := by decide +kernel
theorem d_Mod_readAsked_103 : decode b_Mod_readAsked 103 = .ok (.iconst (-1), 1) := by decide +kernel
theorem d_Mod_readAsked_104 : decode b_Mod_readAsked 104 = .ok (.if_icmp .ne 17, 3) := by decide +kernel
theorem d_Mod_readAsked_107 : decode b_Mod_readAsked 107 = .ok (.aload_n 0, 1) := by decide +kernel
theorem d_Mod_readAsked_108 : decode b_Mod_readAsked 108 = .ok (.aload_n 0, 1) := by decide +kernel
theorem d_Mod_readAsked_109 : decode b_Mod_readAsked 109 = .ok (.getfield 20, 3) := by decide +kernel
theorem d_Mod_readAsked_112 : decode b_Mod_readAsked 112 = .ok (.iconst 1, 1) := by decide +kernel
theorem d_Mod_readAsked_113 : decode b_Mod_readAsked 113 = .ok (.iload_n 2, 1) := by decide +kernel
theorem d_Mod_readAsked_114 : decode b_Mod_readAsked 114 = .ok (.invokestatic 412, 3) := by decide +kernel
theorem d_Mod_readAsked_117 : decode b_Mod_readAsked 117 = .ok (.iaload, 1) := by decide +kernel
theorem d_Mod_readAsked_118 : decode b_Mod_readAsked 118 = .ok (.invokevirtual 1056, 3) := by decide +kernel
theorem d_Mod_readAsked_24 : decode b_Mod_readAsked 24 = .ok (.aload_n 0, 1) := by decide +kernel
theorem d_Mod_readAsked_25 : decode b_Mod_readAsked 25 = .ok (.ldc2_w 997, 3) := by decide +kernel
theorem d_Mod_readAsked_28 : decode b_Mod_readAsked 28 = .ok (.invokevirtual 425, 3) := by decide +kernel
theorem d_Mod_readAsked_31 : decode b_Mod_readAsked 31 = .ok (.istore_n 3, 1) := by decide +kernel
theorem d_Mod_readAsked_32 : decode b_Mod_readAsked 32 = .ok (.aload_n 0, 1) := by decide +kernel
theorem d_Mod_readAsked_33 : decode b_Mod_readAsked 33 = .ok (.ldc2_w 1001, 3) := by decide +kernel
theorem d_Mod_readAsked_36 : decode b_Mod_readAsked 36 = .ok (.invokevirtual 425, 3) := by decide +kernel
theorem d_Mod_readAsked_39 : decode b_Mod_readAsked 39 = .ok (.ifCond .ne 11, 3) := by decide +kernel
theorem d_Mod_readAsked_42 : decode b_Mod_readAsked 42 = .ok (.aload_n 0, 1) := by decide +kernel
theorem d_Mod_readAsked_43 : decode b_Mod_readAsked 43 = .ok (.aload_n 0, 1) := by decide +kernel
theorem d_Mod_readAsked_44 : decode b_Mod_readAsked 44 = .ok (.getfield 373, 3) := by decide +kernel
theorem d_Mod_readAsked_47 : decode b_Mod_readAsked 47 = .ok (.invokevirtual 408, 3) := by decide +kernel
theorem d_Mod_readAsked_13 : decode b_Mod_readAsked 13 = .ok (.return_, 1) := by decide +kernel
theorem d_Mod_push_0 : decode b_Mod_push 0 = .ok (.aload_n 0, 1) := by decide +kernel
theorem d_Mod_push_1 : decode b_Mod_push 1 = .ok (.getfield 297, 3) := by decide +kernel
theorem d_Mod_push_4 : decode b_Mod_push 4 = .ok (.aload_n 0, 1) := by decide +kernel
theorem d_Mod_push_5 : decode b_Mod_push 5 = .ok (.getfield 1034, 3) := by decide +kernel
theorem d_Mod_push_8 : decode b_Mod_push 8 = .ok (.iload_n 1, 1) := by decide +kernel
theorem d_Mod_push_9 : decode b_Mod_push 9 = .ok (.iastore, 1) := by decide +kernel
theorem d_Mod_push_10 : decode b_Mod_push 10 = .ok (.aload_n 0, 1) := by decide +kernel
theorem d_Mod_push_11 : decode b_Mod_push 11 = .ok (.getfield 300, 3) := by decide +kernel
theorem d_Mod_push_14 : decode b_Mod_push 14 = .ok (.aload_n 0, 1) := by decide +kernel
theorem d_Mod_push_15 : decode b_Mod_push 15 = .ok (.getfield 1034, 3) := by decide +kernel
theorem d_Mod_push_18 : decode b_Mod_push 18 = .ok (.iload_n 2, 1) := by decide +kernel
theorem d_Mod_push_19 : decode b_Mod_push 19 = .ok (.iastore, 1) := by decide +kernel
theorem d_Mod_push_20 : decode b_Mod_push 20 = .ok (.aload_n 0, 1) := by decide +kernel
theorem d_Mod_push_21 : decode b_Mod_push 21 = .ok (.dup, 1) := by decide +kernel
theorem d_Mod_push_22 : decode b_Mod_push 22 = .ok (.getfield 1034, 3) := by decide +kernel
theorem d_Mod_push_25 : decode b_Mod_push 25 = .ok (.iconst 1, 1) := by decide +kernel
theorem d_Mod_push_26 : decode b_Mod_push 26 = .ok (.iadd, 1) := by decide +kernel
theorem d_Mod_push_27 : decode b_Mod_push 27 = .ok (.putfield 1034, 3) := by decide +kernel
theorem d_Mod_push_30 : decode b_Mod_push 30 = .ok (.return_, 1) := by decide +kernel
theorem d_Mod_readTest_71 : decode b_Mod_readTest 71 = .ok (.aload_n 0, 1) := by decide +kernel
theorem d_Mod_readTest_72 : decode b_Mod_readTest 72 = .ok (.dup, 1) := by decide +kernel
theorem d_Mod_readTest_73 : decode b_Mod_readTest 73 = .ok (.getfield 1037, 3) := by decide +kernel
theorem d_Mod_readTest_76 : decode b_Mod_readTest 76 = .ok (.iconst 1, 1) := by decide +kernel
theorem d_Mod_readTest_77 : decode b_Mod_readTest 77 = .ok (.iadd, 1) := by decide +kernel
theorem d_Mod_readTest_78 : decode b_Mod_readTest 78 = .ok (.putfield 1037, 3) := by decide +kernel
theorem d_Mod_readTest_81 : decode b_Mod_readTest 81 = .ok (.aload_n 0, 1) := by decide +kernel
theorem d_Mod_readTest_82 : decode b_Mod_readTest 82 = .ok (.iload_n 2, 1) := by decide +kernel
theorem d_Mod_readTest_83 : decode b_Mod_readTest 83 = .ok (.iload_n 1, 1) := by decide +kernel
theorem d_Mod_readTest_84 : decode b_Mod_readTest 84 = .ok (.invokevirtual 1047, 3) := by decide +kernel
theorem d_Mod_readTest_87 : decode b_Mod_readTest 87 = .ok (.goto (-87), 3) := by decide +kernel
theorem d_Mod_readTest_45 : decode b_Mod_readTest 45 = .ok (.istore_n 2, 1) := by decide +kernel
theorem d_Mod_readTest_46 : decode b_Mod_readTest 46 = .ok (.iload_n 2, 1) := by decide +kernel
theorem d_Mod_readTest_47 : decode b_Mod_readTest 47 = .ok (.iconst (-1), 1) := by decide +kernel
theorem d_Mod_readTest_48 : decode b_Mod_readTest 48 = .ok (.if_icmp .ne 9, 3) := by decide +kernel
theorem d_Mod_readTest_57 : decode b_Mod_readTest 57 = .ok (.aload_n 0, 1) := by decide +kernel
theorem d_Mod_readTest_58 : decode b_Mod_readTest 58 = .ok (.getfield 1037, 3) := by decide +kernel
theorem d_Mod_readTest_61 : decode b_Mod_readTest 61 = .ok (.bipush 32, 2) := by decide +kernel
theorem d_Mod_readTest_63 : decode b_Mod_readTest 63 = .ok (.if_icmp .ne 8, 3) := by decide +kernel
theorem d_Mod_readTest_66 : decode b_Mod_readTest 66 = .ok (.aload_n 0, 1) := by decide +kernel
theorem d_Mod_readTest_67 : decode b_Mod_readTest 67 = .ok (.iload_n 1, 1) := by decide +kernel
theorem d_Mod_readTest_68 : decode b_Mod_readTest 68 = .ok (.invokevirtual 408, 3) := by decide +kernel
theorem d_Mod_readTest_51 : decode b_Mod_readTest 51 = .ok (.aload_n 0, 1) := by decide +kernel
theorem d_Mod_readTest_52 : decode b_Mod_readTest 52 = .ok (.iload_n 1, 1) := by decide +kernel
theorem d_Mod_readTest_53 : decode b_Mod_readTest 53 = .ok (.invokevirtual 1044, 3) := by decide +kernel
theorem d_Mod_readTest_56 : decode b_Mod_readTest 56 = .ok (.return_, 1) := by decide +kernel
theorem d_Mod_readTest_0 : decode b_Mod_readTest 0 = .ok (.aload_n 0, 1) := by decide +kernel
theorem d_Mod_readTest_1 : decode b_Mod_readTest 1 = .ok (.getfield 376, 3) := by decide +kernel
theorem d_Mod_readTest_4 : decode b_Mod_readTest 4 = .ok (.iconst (-1), 1) := by decide +kernel
theorem d_Mod_readTest_5 : decode b_Mod_readTest 5 = .ok (.if_icmp .ne 85, 3) := by decide +kernel
theorem d_Mod_readTest_90 : decode b_Mod_readTest 90 = .ok (.return_, 1) := by decide +kernel
theorem d_Mod_readTest_8 : decode b_Mod_readTest 8 = .ok (.aload_n 0, 1) := by decide +kernel
theorem d_Mod_readTest_9 : decode b_Mod_readTest 9 = .ok (.invokevirtual 394, 3) := by decide +kernel
theorem d_Mod_readTest_12 : decode b_Mod_readTest 12 = .ok (.aload_n 0, 1) := by decide +kernel
theorem d_Mod_readTest_13 : decode b_Mod_readTest 13 = .ok (.getfield 373, 3) := by decide +kernel
theorem d_Mod_readTest_16 : decode b_Mod_readTest 16 = .ok (.istore_n 1, 1) := by decide +kernel
theorem d_Mod_readTest_17 : decode b_Mod_readTest 17 = .ok (.aload_n 0, 1) := by decide +kernel
theorem d_Mod_readTest_18 : decode b_Mod_readTest 18 = .ok (.ldc2_w 997, 3) := by decide +kernel
theorem d_Mod_readTest_21 : decode b_Mod_readTest 21 = .ok (.invokevirtual 425, 3) := by decide +kernel
theorem d_Mod_readTest_24 : decode b_Mod_readTest 24 = .ok (.ifCond .eq 7, 3) := by decide +kernel
theorem d_Mod_readTest_31 : decode b_Mod_readTest 31 = .ok (.aload_n 0, 1) := by decide +kernel
theorem d_Mod_readTest_32 : decode b_Mod_readTest 32 = .ok (.bipush 40, 2) := by decide +kernel
theorem d_Mod_readTest_34 : decode b_Mod_readTest 34 = .ok (.invokevirtual 405, 3) := by decide +kernel
theorem d_Mod_readTest_37 : decode b_Mod_readTest 37 = .ok (.ifCond .eq 7, 3) := by decide +kernel
theorem d_Mod_readTest_44 : decode b_Mod_readTest 44 = .ok (.iconst (-1), 1) := by decide +kernel
theorem d_Mod_readTest_40 : decode b_Mod_readTest 40 = .ok (.iconst 0, 1) := by decide +kernel
theorem d_Mod_readTest_41 : decode b_Mod_readTest 41 = .ok (.goto 4, 3) := by decide +kernel
theorem d_Mod_readTest_27 : decode b_Mod_readTest 27 = .ok (.iconst 1, 1) := by decide +kernel
theorem d_Mod_readTest_28 : decode b_Mod_readTest 28 = .ok (.goto 17, 3) := by decide +kernel
section
variable (l : Launch) (dC : Nat → ClassId) (dI : Nat → Nat → Nat) (cI cB cJ cZ : ClassId)
set_option maxRecDepth 100000 in
set_option maxHeartbeats 4000000 in
set_option maxRecDepth 100000 in
theorem t_Mod_operator_108 {p : Program} {l : Launch} {e : Env} {R : Room} {s : State} {m : MethodId} {args : Array Value} {below : List Frame} {meth : Method} {c : Code} {cells slots : Nat} {Q : State → Prop} {dC : Nat → ClassId} {dI : Nat → Nat → Nat} {cI cB cJ cZ : ClassId} {A : Nat → Prop} {ad : Nat → Nat} {post : Int32 → St → Prop} (hx : p.tables.exec = Jvm.exec) (hb : c.code = b_Mod_operator) (hml : c.maxLocals = 4) (hown : s.vm.findClass R_Mod = some m.cls) (hT : ∀ w ∈ TG, w.before args s = true) (hK : va_K (dC, dI) CL (TY cI cB cJ cZ) s) (hN : NW s) (hA : ∀ q : Nat, s.heap.size ≤ q → A q) (hRc : cells ≤ R.cells) (hRs : slots ≤ R.slots) (hRf : 2 ≤ R.frames) (hRl : 40 ≤ R.locals) (hret : ∀ (r : Int32) (x : St) (H : Heap) (locs : List Loc) (pc : Nat) (ls : Array Slot), decode b_Mod_operator pc = .ok (.ireturn, 1) → post r x → Wd dC dI cI cB cJ cZ ad stM kcM 115 A x H → va_S A s.heap H locs → W p l e R s m args below meth c H locs cells slots Q (F0 m pc ls [.int r]))  : ∀ (l1 : Int32) (l2 : Int32) (l3 : Int32) (s0 : Int32) (s1 : Int32) (x : St) (H : Heap) (locs : List Loc) (ls : Array Slot), j_Mod_operator_108 post l1 l2 l3 s0 s1 x → Wd dC dI cI cB cJ cZ ad stM kcM 115 A x H → va_S A s.heap H locs → lv_has ls 4 [(0, .ref (ad 0)), (1, .int l1), (2, .int l2), (3, .int l3)] → W p l e R s m args below meth c H locs cells slots Q (F0 m 108 ls [.int s0, .int s1, .ref (ad 0)]) := by
  intro l1 l2 l3 s0 s1 x H locs ls  hw hW hS hl
  unfold j_Mod_operator_108 at hw
  refine lv_iadd hx hb d_Mod_operator_108 ?_
  refine w_puti (ty := .int) (k := 16) (t := 12) (C := R_Mod) (T := F_Mod) (N := 167) hx hb hT hown hK hW hS ko_0.1 ko_0.2 (by decide) in_Mod t_Mod t_Mod_ok n_Mod rfl rfl (by decide) rfl fr_Mod_16 w_8_192 (by decide +kernel) rfl rfl d_Mod_operator_109 (fun H locs hW hS => ?_)
  obtain ⟨x2043, ex2043⟩ : ∃ y : St, y = setI x 0 16 (s1 + s0) := ⟨_, rfl⟩
  rw [← ex2043] at hW
  have hw := hw x2043 ex2043
  refine lv_iload_n hx hb d_Mod_operator_112 rfl (lv_at hl 1 rfl) ?_
  refine lv_bipush (v := 61) hx hb d_Mod_operator_113 (by decide) ?_
  refine lv_icmp_ne (tgt := 122) hx hb d_Mod_operator_115 (by decide) (fun c2044 => ?_) (fun c2044 => ?_)
  · have hw := hw.1 c2044
    refine lv_iload_n hx hb d_Mod_operator_122 rfl (lv_at hl 1 rfl) ?_
    refine lv_bipush (v := 60) hx hb d_Mod_operator_123 (by decide) ?_
    refine lv_icmp_ne (tgt := 150) hx hb d_Mod_operator_125 (by decide) (fun c2045 => ?_) (fun c2045 => ?_)
    · have hw := hw.1 c2045
      refine lv_iload_n hx hb d_Mod_operator_150 rfl (lv_at hl 3 rfl) ?_
      refine lv_if_eq (tgt := 158) hx hb d_Mod_operator_151 (by decide) (fun c2046 => ?_) (fun c2046 => ?_)
      · have hw := hw.1 c2046
        refine lv_iconst (v := 4) hx hb d_Mod_operator_158 (by decide) ?_
        exact hret 4 x2043 H locs 159 ls d_Mod_operator_159 hw hW hS
      · have hw := hw.2 c2046
        refine lv_iconst (v := 5) hx hb d_Mod_operator_154 (by decide) ?_
        refine lv_goto (tgt := 159) hx hb d_Mod_operator_155 (by decide) ?_
        exact hret 5 x2043 H locs 159 ls d_Mod_operator_159 hw hW hS
    · have hw := hw.2 c2045
      refine lv_iload_n hx hb d_Mod_operator_128 rfl (lv_at hl 2 rfl) ?_
      refine lv_bipush (v := 62) hx hb d_Mod_operator_129 (by decide) ?_
      refine lv_icmp_ne (tgt := 138) hx hb d_Mod_operator_131 (by decide) (fun c2047 => ?_) (fun c2047 => ?_)
      · have hw := hw.1 c2047
        refine lv_iload_n hx hb d_Mod_operator_138 rfl (lv_at hl 3 rfl) ?_
        refine lv_if_eq (tgt := 146) hx hb d_Mod_operator_139 (by decide) (fun c2048 => ?_) (fun c2048 => ?_)
        · have hw := hw.1 c2048
          refine lv_iconst (v := 2) hx hb d_Mod_operator_146 (by decide) ?_
          refine lv_goto (tgt := 159) hx hb d_Mod_operator_147 (by decide) ?_
          exact hret 2 x2043 H locs 159 ls d_Mod_operator_159 hw hW hS
        · have hw := hw.2 c2048
          refine lv_iconst (v := 3) hx hb d_Mod_operator_142 (by decide) ?_
          refine lv_goto (tgt := 159) hx hb d_Mod_operator_143 (by decide) ?_
          exact hret 3 x2043 H locs 159 ls d_Mod_operator_159 hw hW hS
      · have hw := hw.2 c2047
        refine lv_iconst (v := 1) hx hb d_Mod_operator_134 (by decide) ?_
        refine lv_goto (tgt := 159) hx hb d_Mod_operator_135 (by decide) ?_
        exact hret 1 x2043 H locs 159 ls d_Mod_operator_159 hw hW hS
  · have hw := hw.2 c2044
    refine lv_iconst (v := 0) hx hb d_Mod_operator_118 (by decide) ?_
    refine lv_goto (tgt := 159) hx hb d_Mod_operator_119 (by decide) ?_
    exact hret 0 x2043 H locs 159 ls d_Mod_operator_159 hw hW hS
set_option maxRecDepth 100000 in
set_option maxHeartbeats 4000000 in
set_option maxRecDepth 100000 in
theorem t_Mod_operator_93 {p : Program} {l : Launch} {e : Env} {R : Room} {s : State} {m : MethodId} {args : Array Value} {below : List Frame} {meth : Method} {c : Code} {cells slots : Nat} {Q : State → Prop} {dC : Nat → ClassId} {dI : Nat → Nat → Nat} {cI cB cJ cZ : ClassId} {A : Nat → Prop} {ad : Nat → Nat} {post : Int32 → St → Prop} (hx : p.tables.exec = Jvm.exec) (hb : c.code = b_Mod_operator) (hml : c.maxLocals = 4) (hown : s.vm.findClass R_Mod = some m.cls) (hT : ∀ w ∈ TG, w.before args s = true) (hK : va_K (dC, dI) CL (TY cI cB cJ cZ) s) (hN : NW s) (hA : ∀ q : Nat, s.heap.size ≤ q → A q) (hRc : cells ≤ R.cells) (hRs : slots ≤ R.slots) (hRf : 2 ≤ R.frames) (hRl : 40 ≤ R.locals) (hret : ∀ (r : Int32) (x : St) (H : Heap) (locs : List Loc) (pc : Nat) (ls : Array Slot), decode b_Mod_operator pc = .ok (.ireturn, 1) → post r x → Wd dC dI cI cB cJ cZ ad stM kcM 115 A x H → va_S A s.heap H locs → W p l e R s m args below meth c H locs cells slots Q (F0 m pc ls [.int r]))  : ∀ (l1 : Int32) (l2 : Int32) (s0 : Int32) (x : St) (H : Heap) (locs : List Loc) (ls : Array Slot), j_Mod_operator_93 post l1 l2 s0 x → Wd dC dI cI cB cJ cZ ad stM kcM 115 A x H → va_S A s.heap H locs → lv_has ls 4 [(0, .ref (ad 0)), (1, .int l1), (2, .int l2)] → W p l e R s m args below meth c H locs cells slots Q (F0 m 93 ls [.int s0]) := by
  intro l1 l2 s0 x H locs ls  hw hW hS hl
  unfold j_Mod_operator_93 at hw
  refine lv_istore_n (lv' := [(3, .int s0), (0, .ref (ad 0)), (1, .int l1), (2, .int l2)]) hx hb d_Mod_operator_93 rfl hl (by decide) rfl (fun ls hl => ?_)
  refine lv_aload_n hx hb d_Mod_operator_94 rfl (lv_at hl 1 rfl) ?_
  refine lv_dup hx hb d_Mod_operator_95 rfl ?_
  refine w_geti (k := 16) (t := 12) (C := R_Mod) (T := F_Mod) (N := 167) hx hb hT hown hK hW ko_0.1 ko_0.2 (by decide) in_Mod rfl rfl (by decide) rfl fr_Mod_16 w_8_192 d_Mod_operator_96 ?_
  refine lv_iload_n hx hb d_Mod_operator_99 rfl (lv_at hl 0 rfl) ?_
  refine lv_if_eq (tgt := 107) hx hb d_Mod_operator_100 (by decide) (fun c2049 => ?_) (fun c2049 => ?_)
  · have hw := hw.1 c2049
    refine lv_iconst (v := 0) hx hb d_Mod_operator_107 (by decide) ?_
    exact t_Mod_operator_108 hx hb hml hown hT hK hN hA hRc hRs hRf hRl hret  l1 l2 s0 0 (fI x 0 16) x H locs ls  hw hW hS (lv_sub hl [1, 2, 3, 0] rfl)
  · have hw := hw.2 c2049
    refine lv_iconst (v := 1) hx hb d_Mod_operator_103 (by decide) ?_
    refine lv_goto (tgt := 108) hx hb d_Mod_operator_104 (by decide) ?_
    exact t_Mod_operator_108 hx hb hml hown hT hK hN hA hRc hRs hRf hRl hret  l1 l2 s0 1 (fI x 0 16) x H locs ls  hw hW hS (lv_sub hl [1, 2, 3, 0] rfl)
set_option maxRecDepth 100000 in
set_option maxHeartbeats 4000000 in
set_option maxRecDepth 100000 in
theorem t_Mod_operator_92 {p : Program} {l : Launch} {e : Env} {R : Room} {s : State} {m : MethodId} {args : Array Value} {below : List Frame} {meth : Method} {c : Code} {cells slots : Nat} {Q : State → Prop} {dC : Nat → ClassId} {dI : Nat → Nat → Nat} {cI cB cJ cZ : ClassId} {A : Nat → Prop} {ad : Nat → Nat} {post : Int32 → St → Prop} (hx : p.tables.exec = Jvm.exec) (hb : c.code = b_Mod_operator) (hml : c.maxLocals = 4) (hown : s.vm.findClass R_Mod = some m.cls) (hT : ∀ w ∈ TG, w.before args s = true) (hK : va_K (dC, dI) CL (TY cI cB cJ cZ) s) (hN : NW s) (hA : ∀ q : Nat, s.heap.size ≤ q → A q) (hRc : cells ≤ R.cells) (hRs : slots ≤ R.slots) (hRf : 2 ≤ R.frames) (hRl : 40 ≤ R.locals) (hret : ∀ (r : Int32) (x : St) (H : Heap) (locs : List Loc) (pc : Nat) (ls : Array Slot), decode b_Mod_operator pc = .ok (.ireturn, 1) → post r x → Wd dC dI cI cB cJ cZ ad stM kcM 115 A x H → va_S A s.heap H locs → W p l e R s m args below meth c H locs cells slots Q (F0 m pc ls [.int r]))  : ∀ (l1 : Int32) (l2 : Int32) (x : St) (H : Heap) (locs : List Loc) (ls : Array Slot), j_Mod_operator_92 post l1 l2 x → Wd dC dI cI cB cJ cZ ad stM kcM 115 A x H → va_S A s.heap H locs → lv_has ls 4 [(0, .ref (ad 0)), (1, .int l1), (2, .int l2)] → W p l e R s m args below meth c H locs cells slots Q (F0 m 92 ls []) := by
  intro l1 l2 x H locs ls  hw hW hS hl
  unfold j_Mod_operator_92 at hw
  refine lv_iconst (v := 0) hx hb d_Mod_operator_92 (by decide) ?_
  exact t_Mod_operator_93 hx hb hml hown hT hK hN hA hRc hRs hRf hRl hret  l1 l2 0 x H locs ls  hw hW hS (lv_sub hl [0, 1, 2] rfl)
set_option maxRecDepth 100000 in
set_option maxHeartbeats 4000000 in
set_option maxRecDepth 100000 in
theorem t_Mod_operator_88 {p : Program} {l : Launch} {e : Env} {R : Room} {s : State} {m : MethodId} {args : Array Value} {below : List Frame} {meth : Method} {c : Code} {cells slots : Nat} {Q : State → Prop} {dC : Nat → ClassId} {dI : Nat → Nat → Nat} {cI cB cJ cZ : ClassId} {A : Nat → Prop} {ad : Nat → Nat} {post : Int32 → St → Prop} (hx : p.tables.exec = Jvm.exec) (hb : c.code = b_Mod_operator) (hml : c.maxLocals = 4) (hown : s.vm.findClass R_Mod = some m.cls) (hT : ∀ w ∈ TG, w.before args s = true) (hK : va_K (dC, dI) CL (TY cI cB cJ cZ) s) (hN : NW s) (hA : ∀ q : Nat, s.heap.size ≤ q → A q) (hRc : cells ≤ R.cells) (hRs : slots ≤ R.slots) (hRf : 2 ≤ R.frames) (hRl : 40 ≤ R.locals) (hret : ∀ (r : Int32) (x : St) (H : Heap) (locs : List Loc) (pc : Nat) (ls : Array Slot), decode b_Mod_operator pc = .ok (.ireturn, 1) → post r x → Wd dC dI cI cB cJ cZ ad stM kcM 115 A x H → va_S A s.heap H locs → W p l e R s m args below meth c H locs cells slots Q (F0 m pc ls [.int r]))  : ∀ (l1 : Int32) (l2 : Int32) (x : St) (H : Heap) (locs : List Loc) (ls : Array Slot), j_Mod_operator_88 post l1 l2 x → Wd dC dI cI cB cJ cZ ad stM kcM 115 A x H → va_S A s.heap H locs → lv_has ls 4 [(0, .ref (ad 0)), (1, .int l1), (2, .int l2)] → W p l e R s m args below meth c H locs cells slots Q (F0 m 88 ls []) := by
  intro l1 l2 x H locs ls  hw hW hS hl
  unfold j_Mod_operator_88 at hw
  refine lv_iconst (v := 1) hx hb d_Mod_operator_88 (by decide) ?_
  refine lv_goto (tgt := 93) hx hb d_Mod_operator_89 (by decide) ?_
  exact t_Mod_operator_93 hx hb hml hown hT hK hN hA hRc hRs hRf hRl hret  l1 l2 1 x H locs ls  hw hW hS (lv_sub hl [0, 1, 2] rfl)
set_option maxRecDepth 100000 in
set_option maxHeartbeats 4000000 in
set_option maxRecDepth 100000 in
theorem t_Mod_operator_69 {p : Program} {l : Launch} {e : Env} {R : Room} {s : State} {m : MethodId} {args : Array Value} {below : List Frame} {meth : Method} {c : Code} {cells slots : Nat} {Q : State → Prop} {dC : Nat → ClassId} {dI : Nat → Nat → Nat} {cI cB cJ cZ : ClassId} {A : Nat → Prop} {ad : Nat → Nat} {post : Int32 → St → Prop} (hx : p.tables.exec = Jvm.exec) (hb : c.code = b_Mod_operator) (hml : c.maxLocals = 4) (hown : s.vm.findClass R_Mod = some m.cls) (hT : ∀ w ∈ TG, w.before args s = true) (hK : va_K (dC, dI) CL (TY cI cB cJ cZ) s) (hN : NW s) (hA : ∀ q : Nat, s.heap.size ≤ q → A q) (hRc : cells ≤ R.cells) (hRs : slots ≤ R.slots) (hRf : 2 ≤ R.frames) (hRl : 40 ≤ R.locals) (hret : ∀ (r : Int32) (x : St) (H : Heap) (locs : List Loc) (pc : Nat) (ls : Array Slot), decode b_Mod_operator pc = .ok (.ireturn, 1) → post r x → Wd dC dI cI cB cJ cZ ad stM kcM 115 A x H → va_S A s.heap H locs → W p l e R s m args below meth c H locs cells slots Q (F0 m pc ls [.int r]))  : ∀ (l1 : Int32) (s0 : Int32) (x : St) (H : Heap) (locs : List Loc) (ls : Array Slot), j_Mod_operator_69 post l1 s0 x → Wd dC dI cI cB cJ cZ ad stM kcM 115 A x H → va_S A s.heap H locs → lv_has ls 4 [(0, .ref (ad 0)), (1, .int l1)] → W p l e R s m args below meth c H locs cells slots Q (F0 m 69 ls [.int s0]) := by
  intro l1 s0 x H locs ls  hw hW hS hl
  unfold j_Mod_operator_69 at hw
  refine lv_istore_n (lv' := [(2, .int s0), (0, .ref (ad 0)), (1, .int l1)]) hx hb d_Mod_operator_69 rfl hl (by decide) rfl (fun ls hl => ?_)
  refine lv_iload_n hx hb d_Mod_operator_70 rfl (lv_at hl 0 rfl) ?_
  refine lv_bipush (v := 61) hx hb d_Mod_operator_71 (by decide) ?_
  refine lv_icmp_eq (tgt := 88) hx hb d_Mod_operator_73 (by decide) (fun c2050 => ?_) (fun c2050 => ?_)
  · have hw := hw.1 c2050
    exact t_Mod_operator_88 hx hb hml hown hT hK hN hA hRc hRs hRf hRl hret  l1 s0 x H locs ls  hw hW hS (lv_sub hl [1, 2, 0] rfl)
  · have hw := hw.2 c2050
    refine lv_iload_n hx hb d_Mod_operator_76 rfl (lv_at hl 2 rfl) ?_
    refine lv_bipush (v := 60) hx hb d_Mod_operator_77 (by decide) ?_
    refine lv_icmp_ne (tgt := 92) hx hb d_Mod_operator_79 (by decide) (fun c2051 => ?_) (fun c2051 => ?_)
    · have hw := hw.1 c2051
      exact t_Mod_operator_92 hx hb hml hown hT hK hN hA hRc hRs hRf hRl hret  l1 s0 x H locs ls  hw hW hS (lv_sub hl [1, 2, 0] rfl)
    · have hw := hw.2 c2051
      refine lv_iload_n hx hb d_Mod_operator_82 rfl (lv_at hl 0 rfl) ?_
      refine lv_bipush (v := 62) hx hb d_Mod_operator_83 (by decide) ?_
      refine lv_icmp_ne (tgt := 92) hx hb d_Mod_operator_85 (by decide) (fun c2052 => ?_) (fun c2052 => ?_)
      · have hw := hw.1 c2052
        exact t_Mod_operator_92 hx hb hml hown hT hK hN hA hRc hRs hRf hRl hret  l1 s0 x H locs ls  hw hW hS (lv_sub hl [1, 2, 0] rfl)
      · have hw := hw.2 c2052
        exact t_Mod_operator_88 hx hb hml hown hT hK hN hA hRc hRs hRf hRl hret  l1 s0 x H locs ls  hw hW hS (lv_sub hl [1, 2, 0] rfl)
set_option maxRecDepth 100000 in
set_option maxHeartbeats 4000000 in
set_option maxRecDepth 100000 in
theorem t_Mod_operator_35 {p : Program} {l : Launch} {e : Env} {R : Room} {s : State} {m : MethodId} {args : Array Value} {below : List Frame} {meth : Method} {c : Code} {cells slots : Nat} {Q : State → Prop} {dC : Nat → ClassId} {dI : Nat → Nat → Nat} {cI cB cJ cZ : ClassId} {A : Nat → Prop} {ad : Nat → Nat} {post : Int32 → St → Prop} (hx : p.tables.exec = Jvm.exec) (hb : c.code = b_Mod_operator) (hml : c.maxLocals = 4) (hown : s.vm.findClass R_Mod = some m.cls) (hT : ∀ w ∈ TG, w.before args s = true) (hK : va_K (dC, dI) CL (TY cI cB cJ cZ) s) (hN : NW s) (hA : ∀ q : Nat, s.heap.size ≤ q → A q) (hRc : cells ≤ R.cells) (hRs : slots ≤ R.slots) (hRf : 2 ≤ R.frames) (hRl : 40 ≤ R.locals) (hret : ∀ (r : Int32) (x : St) (H : Heap) (locs : List Loc) (pc : Nat) (ls : Array Slot), decode b_Mod_operator pc = .ok (.ireturn, 1) → post r x → Wd dC dI cI cB cJ cZ ad stM kcM 115 A x H → va_S A s.heap H locs → W p l e R s m args below meth c H locs cells slots Q (F0 m pc ls [.int r]))  : ∀ (l1 : Int32) (x : St) (H : Heap) (locs : List Loc) (ls : Array Slot), j_Mod_operator_35 post l1 x → Wd dC dI cI cB cJ cZ ad stM kcM 115 A x H → va_S A s.heap H locs → lv_has ls 4 [(0, .ref (ad 0)), (1, .int l1)] → W p l e R s m args below meth c H locs cells slots Q (F0 m 35 ls []) := by
  intro l1 x H locs ls  hw hW hS hl
  unfold j_Mod_operator_35 at hw
  refine lv_aload_n hx hb d_Mod_operator_35 rfl (lv_at hl 0 rfl) ?_
  refine w_geti (k := 17) (t := 12) (C := R_Mod) (T := F_Mod) (N := 167) hx hb hT hown hK hW ko_0.1 ko_0.2 (by decide) in_Mod rfl rfl (by decide) rfl fr_Mod_17 w_8_193 d_Mod_operator_36 ?_
  refine lv_iconst (v := (-1)) hx hb d_Mod_operator_39 (by decide) ?_
  refine lv_icmp_eq (tgt := 45) hx hb d_Mod_operator_40 (by decide) (fun c2053 => ?_) (fun c2053 => ?_)
  · have hw := hw.1 c2053
    refine lv_aload_n hx hb d_Mod_operator_45 rfl (lv_at hl 0 rfl) ?_
    refine lv_dup hx hb d_Mod_operator_46 rfl ?_
    refine w_geti (k := 16) (t := 12) (C := R_Mod) (T := F_Mod) (N := 167) hx hb hT hown hK hW ko_0.1 ko_0.2 (by decide) in_Mod rfl rfl (by decide) rfl fr_Mod_16 w_8_192 d_Mod_operator_47 ?_
    refine lv_iconst (v := 1) hx hb d_Mod_operator_50 (by decide) ?_
    refine lv_iadd hx hb d_Mod_operator_51 ?_
    refine w_puti (ty := .int) (k := 16) (t := 12) (C := R_Mod) (T := F_Mod) (N := 167) hx hb hT hown hK hW hS ko_0.1 ko_0.2 (by decide) in_Mod t_Mod t_Mod_ok n_Mod rfl rfl (by decide) rfl fr_Mod_16 w_8_192 (by decide +kernel) rfl rfl d_Mod_operator_52 (fun H locs hW hS => ?_)
    obtain ⟨x2054, ex2054⟩ : ∃ y : St, y = setI x 0 16 ((fI x 0 16) + 1) := ⟨_, rfl⟩
    rw [← ex2054] at hW
    have hw := hw x2054 ex2054
    refine lv_iload_n hx hb d_Mod_operator_55 rfl (lv_at hl 1 rfl) ?_
    refine lv_bipush (v := 61) hx hb d_Mod_operator_56 (by decide) ?_
    refine lv_icmp_ne (tgt := 65) hx hb d_Mod_operator_58 (by decide) (fun c2055 => ?_) (fun c2055 => ?_)
    · have hw := hw.1 c2055
      refine lv_aload_n hx hb d_Mod_operator_65 rfl (lv_at hl 0 rfl) ?_
      have hF := hW.free hS hA
      refine va_calli (va_runV (C := R_Mod) (As := []) (rest := []) ⟨hx, hb, hml, hown, hT⟩ (k_Mod_look l dC dI cI cB cJ cZ ad H.size  x2054  hw) ⟨callB_of 0 hT (gwt_in w_10_234) rfl rfl rfl (hT _ w_1_15) (hT _ w_10_231) (by decide +kernel) ⟨Nat.le_trans (Nat.le_of_ble_eq_true rfl) hRf, Nat.le_trans (Nat.le_of_ble_eq_true rfl) hRl⟩, hT _ w_10_233, hT _ ws_112⟩ ⟨PW.blind, va_recv hK hW.1 (ci := 12) (q0 := 0) rfl (pic_obj ko_0.1 ko_0.2 (by decide)), PW.at _ hW hK hN⟩ rfl rfl hl.1 rfl (lv_room (Nat.le_of_ble_eq_true rfl)) d_Mod_operator_66 ⟨hRc, hRs⟩) hS (fun q _ h => hF q h) hF (fun r2057 x2056 t H locs ht hvm hw hB hz1 hk1 hS => ?_)
      have hW := Wd.back hB ht hF
      clear hB ht hF hz1 hk1 hvm
      exact t_Mod_operator_69 hx hb hml hown hT hK hN hA hRc hRs hRf hRl hret  l1 r2057 x2056 H locs ls  hw hW hS (lv_sub hl [0, 1] rfl)
    · have hw := hw.2 c2055
      refine lv_iconst (v := (-1)) hx hb d_Mod_operator_61 (by decide) ?_
      refine lv_goto (tgt := 69) hx hb d_Mod_operator_62 (by decide) ?_
      exact t_Mod_operator_69 hx hb hml hown hT hK hN hA hRc hRs hRf hRl hret  l1 (-1) x2054 H locs ls  hw hW hS (lv_sub hl [0, 1] rfl)
  · have hw := hw.2 c2053
    refine lv_iconst (v := (-1)) hx hb d_Mod_operator_43 (by decide) ?_
    exact hret (-1) x H locs 44 ls d_Mod_operator_44 hw hW hS
set_option maxRecDepth 100000 in
set_option maxHeartbeats 4000000 in
set_option maxRecDepth 100000 in
theorem t_Mod_operator_e {p : Program} {l : Launch} {e : Env} {R : Room} {s : State} {m : MethodId} {args : Array Value} {below : List Frame} {meth : Method} {c : Code} {cells slots : Nat} {Q : State → Prop} {dC : Nat → ClassId} {dI : Nat → Nat → Nat} {cI cB cJ cZ : ClassId} {A : Nat → Prop} {ad : Nat → Nat} {post : Int32 → St → Prop} (hx : p.tables.exec = Jvm.exec) (hb : c.code = b_Mod_operator) (hml : c.maxLocals = 4) (hown : s.vm.findClass R_Mod = some m.cls) (hT : ∀ w ∈ TG, w.before args s = true) (hK : va_K (dC, dI) CL (TY cI cB cJ cZ) s) (hN : NW s) (hA : ∀ q : Nat, s.heap.size ≤ q → A q) (hRc : cells ≤ R.cells) (hRs : slots ≤ R.slots) (hRf : 2 ≤ R.frames) (hRl : 40 ≤ R.locals) (hret : ∀ (r : Int32) (x : St) (H : Heap) (locs : List Loc) (pc : Nat) (ls : Array Slot), decode b_Mod_operator pc = .ok (.ireturn, 1) → post r x → Wd dC dI cI cB cJ cZ ad stM kcM 115 A x H → va_S A s.heap H locs → W p l e R s m args below meth c H locs cells slots Q (F0 m pc ls [.int r])) : ∀  (x : St) (H : Heap) (locs : List Loc) (ls : Array Slot), wp_Mod_operator post  x → Wd dC dI cI cB cJ cZ ad stM kcM 115 A x H → va_S A s.heap H locs → lv_has ls 4 [(0, .ref (ad 0))] → W p l e R s m args below meth c H locs cells slots Q (F0 m 0 ls []) := by
  intro  x H locs ls  hw hW hS hl
  unfold wp_Mod_operator at hw
  refine lv_aload_n hx hb d_Mod_operator_0 rfl (lv_at hl 0 rfl) ?_
  have hF := hW.free hS hA
  refine va_callv (va_runV (C := R_Mod) (As := []) (rest := []) ⟨hx, hb, hml, hown, hT⟩ (k_Mod_blanks l dC dI cI cB cJ cZ ad H.size  x  hw) ⟨callB_of 0 hT (gwt_in w_10_230) rfl rfl rfl (hT _ w_1_15) (hT _ w_10_227) (by decide +kernel) ⟨Nat.le_trans (Nat.le_of_ble_eq_true rfl) hRf, Nat.le_trans (Nat.le_of_ble_eq_true rfl) hRl⟩, hT _ w_10_229, hT _ ws_111⟩ ⟨PW.blind, va_recv hK hW.1 (ci := 12) (q0 := 0) rfl (pic_obj ko_0.1 ko_0.2 (by decide)), PW.at _ hW hK hN⟩ rfl rfl hl.1 rfl (lv_room (Nat.le_of_ble_eq_true rfl)) d_Mod_operator_1 ⟨hRc, hRs⟩) hS (fun q _ h => hF q h) hF (fun  x2058 t H locs ht hvm hw hB hz1 hk1 hS => ?_)
  have hW := Wd.back hB ht hF
  clear hB ht hF hz1 hk1 hvm
  refine lv_aload_n hx hb d_Mod_operator_4 rfl (lv_at hl 0 rfl) ?_
  have hF := hW.free hS hA
  refine va_calli (va_runV (C := R_Mod) (As := []) (rest := []) ⟨hx, hb, hml, hown, hT⟩ (k_Mod_look l dC dI cI cB cJ cZ ad H.size  x2058  hw) ⟨callB_of 0 hT (gwt_in w_10_234) rfl rfl rfl (hT _ w_1_15) (hT _ w_10_231) (by decide +kernel) ⟨Nat.le_trans (Nat.le_of_ble_eq_true rfl) hRf, Nat.le_trans (Nat.le_of_ble_eq_true rfl) hRl⟩, hT _ w_10_233, hT _ ws_112⟩ ⟨PW.blind, va_recv hK hW.1 (ci := 12) (q0 := 0) rfl (pic_obj ko_0.1 ko_0.2 (by decide)), PW.at _ hW hK hN⟩ rfl rfl hl.1 rfl (lv_room (Nat.le_of_ble_eq_true rfl)) d_Mod_operator_5 ⟨hRc, hRs⟩) hS (fun q _ h => hF q h) hF (fun r2060 x2059 t H locs ht hvm hw hB hz1 hk1 hS => ?_)
  have hW := Wd.back hB ht hF
  clear hB ht hF hz1 hk1 hvm
  refine lv_istore_n (lv' := [(1, .int r2060), (0, .ref (ad 0))]) hx hb d_Mod_operator_8 rfl hl (by decide) rfl (fun ls hl => ?_)
  refine lv_iload_n hx hb d_Mod_operator_9 rfl (lv_at hl 0 rfl) ?_
  refine lv_bipush (v := 61) hx hb d_Mod_operator_10 (by decide) ?_
  refine lv_icmp_eq (tgt := 35) hx hb d_Mod_operator_12 (by decide) (fun c2061 => ?_) (fun c2061 => ?_)
  · have hw := hw.1 c2061
    exact t_Mod_operator_35 hx hb hml hown hT hK hN hA hRc hRs hRf hRl hret  r2060 x2059 H locs ls  hw hW hS (lv_sub hl [1, 0] rfl)
  · have hw := hw.2 c2061
    refine lv_iload_n hx hb d_Mod_operator_15 rfl (lv_at hl 0 rfl) ?_
    refine lv_bipush (v := 60) hx hb d_Mod_operator_16 (by decide) ?_
    refine lv_icmp_eq (tgt := 35) hx hb d_Mod_operator_18 (by decide) (fun c2062 => ?_) (fun c2062 => ?_)
    · have hw := hw.1 c2062
      exact t_Mod_operator_35 hx hb hml hown hT hK hN hA hRc hRs hRf hRl hret  r2060 x2059 H locs ls  hw hW hS (lv_sub hl [1, 0] rfl)
    · have hw := hw.2 c2062
      refine lv_iload_n hx hb d_Mod_operator_21 rfl (lv_at hl 0 rfl) ?_
      refine lv_bipush (v := 62) hx hb d_Mod_operator_22 (by decide) ?_
      refine lv_icmp_eq (tgt := 35) hx hb d_Mod_operator_24 (by decide) (fun c2063 => ?_) (fun c2063 => ?_)
      · have hw := hw.1 c2063
        exact t_Mod_operator_35 hx hb hml hown hT hK hN hA hRc hRs hRf hRl hret  r2060 x2059 H locs ls  hw hW hS (lv_sub hl [1, 0] rfl)
      · have hw := hw.2 c2063
        refine lv_aload_n hx hb d_Mod_operator_27 rfl (lv_at hl 1 rfl) ?_
        refine lv_aload_n hx hb d_Mod_operator_28 rfl (lv_at hl 1 rfl) ?_
        refine w_geti (k := 16) (t := 12) (C := R_Mod) (T := F_Mod) (N := 167) hx hb hT hown hK hW ko_0.1 ko_0.2 (by decide) in_Mod rfl rfl (by decide) rfl fr_Mod_16 w_8_192 d_Mod_operator_29 ?_
        have hF := hW.free hS hA
        refine va_callv (va_runV (C := R_Mod) (As := [.int (fI x2059 0 16)]) (rest := []) ⟨hx, hb, hml, hown, hT⟩ (k_Mod_fail l dC dI cI cB cJ cZ ad H.size (fI x2059 0 16) x2059  hw) ⟨callB_of 1 hT (gwt_in w_11_14) rfl rfl rfl (hT _ w_1_15) (hT _ w_11_11) (by decide +kernel) ⟨Nat.le_trans (Nat.le_of_ble_eq_true rfl) hRf, Nat.le_trans (Nat.le_of_ble_eq_true rfl) hRl⟩, hT _ w_11_13, hT _ ws_115⟩ ⟨PW.blind, va_recv hK hW.1 (ci := 12) (q0 := 0) rfl (pic_obj ko_0.1 ko_0.2 (by decide)), PW.at _ hW hK hN⟩ rfl rfl hl.1 rfl (lv_room (Nat.le_of_ble_eq_true rfl)) d_Mod_operator_32 ⟨hRc, hRs⟩) hS (fun q _ h => hF q h) hF (fun  x2064 t H locs ht hvm hw hB hz1 hk1 hS => ?_)
        have hW := Wd.back hB ht hF
        clear hB ht hF hz1 hk1 hvm
        exact t_Mod_operator_35 hx hb hml hown hT hK hN hA hRc hRs hRf hRl hret  r2060 x2064 H locs ls  hw hW hS (lv_sub hl [1, 0] rfl)
set_option maxHeartbeats 4000000 in
set_option maxRecDepth 100000 in
theorem k_Mod_operator (l : Launch) (dC : Nat → ClassId) (dI : Nat → Nat → Nat) (cI cB cJ cZ : ClassId) (ad : Nat → Nat) (sz : Nat)  (x : St) {post : Int32 → St → Prop} (hw : wp_Mod_operator post  x) : Met l y_Mod_operator (wsOf y_Mod_operator b_Mod_operator 4 (some (.int))) ({ frames := 2, cells := 0, slots := 0, locals := 40 }) (va_Pc [.ref (ad 0)] (PW dC dI cI cB cJ cZ ad stM kcM 115 sz x)) (va_Qi (fun (r : Int32) (y : St) => post r y) (fun y t => Wd dC dI cI cB cJ cZ ad stM kcM 115 (va_A (pic ad stM kcM 115 cI cB cJ cZ x) sz) y t.heap) (va_A (pic ad stM kcM 115 cI cB cJ cZ x) sz)) 0 0 (va_A (pic ad stM kcM 115 cI cB cJ cZ x) sz) := by
  refine Met.ofW (cc := b_Mod_operator) (maxL := 4) (ret := some (.int)) (by decide) rfl ?_
  intro p e s m args below meth c s₁ B hml hv
  obtain ⟨rfl, hsz, hW0, hK, hN⟩ := hv
  have hx := B.exec
  have hb := B.bytes
  have hr := B.returns
  have hts := atoms_spec B.pre
  have hT : ∀ w ∈ TG, w.before _ s = true := fun w h => hts w (List.mem_cons_of_mem _ h)
  have hown : s.vm.findClass R_Mod = some m.cls := findClass_of_methodNamed B.named
  have hlocks := B.notSynchronized
  subst hsz
  have hW : Wd dC dI cI cB cJ cZ ad stM kcM 115 (va_A (pic ad stM kcM 115 cI cB cJ cZ x) s.heap.size) x s.heap := ⟨hW0.1, hW0.2.1.self (sz := s.heap.size), hW0.2.2⟩
  generalize hAe : va_A (pic ad stM kcM 115 cI cB cJ cZ x) s.heap.size = A at hW ⊢
  have hA : ∀ q : Nat, s.heap.size ≤ q → A q := fun q h => by rw [← hAe]; exact Or.inr h
  have hS : va_S A s.heap s.heap [] := va_S.rf
  have hl := lv_entry ([.ref (ad 0)]) (n := 4) (Nat.le_of_ble_eq_true rfl)
  rw [lg_entry_eq]
  generalize (lg_sl ([.ref (ad 0)]) ++ List.replicate (4 - (lg_sl ([.ref (ad 0)])).length) Slot.unset).toArray = ls at hl ⊢
  have hl : lv_has ls 4 [(0, .ref (ad 0))] := hl
  exact t_Mod_operator_e hx hb hml hown hT hK hN hA (Nat.le_refl 0) (Nat.le_refl 0) (Nat.le_refl 2) (Nat.le_refl 40) (fun r x H locs pc ls hd hp hW hS => W.iret (v := r) hx hb hr (fun t ht hM => ⟨⟨r, x, rfl, hp, Wd.back hW ht.symm (fun _ z => z)⟩, hS.F ht⟩) hS.2.2 hd hlocks)   x _ _ ls  hw hW hS hl
set_option maxRecDepth 100000 in
set_option maxHeartbeats 4000000 in
set_option maxRecDepth 100000 in
theorem t_Mod_readAsked_326 {p : Program} {l : Launch} {e : Env} {R : Room} {s : State} {m : MethodId} {args : Array Value} {below : List Frame} {meth : Method} {c : Code} {cells slots : Nat} {Q : State → Prop} {dC : Nat → ClassId} {dI : Nat → Nat → Nat} {cI cB cJ cZ : ClassId} {A : Nat → Prop} {ad : Nat → Nat} {post : St → Prop} (hx : p.tables.exec = Jvm.exec) (hb : c.code = b_Mod_readAsked) (hml : c.maxLocals = 7) (hown : s.vm.findClass R_Mod = some m.cls) (hT : ∀ w ∈ TG, w.before args s = true) (hK : va_K (dC, dI) CL (TY cI cB cJ cZ) s) (hN : NW s) (hA : ∀ q : Nat, s.heap.size ≤ q → A q) (hRc : cells ≤ R.cells) (hRs : slots ≤ R.slots) (hRf : 6 ≤ R.frames) (hRl : 138 ≤ R.locals) (hret : ∀ (x : St) (H : Heap) (locs : List Loc) (pc : Nat) (ls : Array Slot), decode b_Mod_readAsked pc = .ok (.return_, 1) → post x → Wd dC dI cI cB cJ cZ ad stM kcM 115 A x H → va_S A s.heap H locs → W p l e R s m args below meth c H locs cells slots Q (F0 m pc ls []))  : ∀ (l1 : Int32) (l2 : Int32) (l3 : Int32) (l4 : Int32) (x : St) (H : Heap) (locs : List Loc) (ls : Array Slot), j_Mod_readAsked_326 post l1 l2 l3 l4 x → Wd dC dI cI cB cJ cZ ad stM kcM 115 A x H → va_S A s.heap H locs → lv_has ls 7 [(0, .ref (ad 0)), (1, .int l1), (2, .int l2), (3, .int l3), (4, .int l4)] → W p l e R s m args below meth c H locs cells slots Q (F0 m 326 ls []) := by
  intro l1 l2 l3 l4 x H locs ls  hw hW hS hl
  unfold j_Mod_readAsked_326 at hw
  refine lv_aload_n hx hb d_Mod_readAsked_326 rfl (lv_at hl 0 rfl) ?_
  refine lv_aload_n hx hb d_Mod_readAsked_327 rfl (lv_at hl 0 rfl) ?_
  refine w_getf (q := 4) (k := 6) (t := 12) (C := R_Mod) (T := F_Mod) (N := 167) hx hb hT hown hK hW ko_0.1 ko_0.2 (by decide) in_Mod rfl rfl (by decide) rfl fr_Mod_6 w_8_182 d_Mod_readAsked_328 rfl ?_
  refine lv_iconst (v := 1) hx hb d_Mod_readAsked_331 (by decide) ?_
  refine lv_iload_n hx hb d_Mod_readAsked_332 rfl (lv_at hl 2 rfl) ?_
  have hF := hW.free hS hA
  refine va_calli (va_runS (As := [.int 1, .int l2]) (rest := [.ref (ad 4), .ref (ad 0)]) ⟨hx, hb, hml, hown, hT⟩ (k_Mod_place l dC dI cI cB cJ cZ ad H.size 1 l2 x  hw) ⟨callB_of 2 hT (gwt_in w_11_30) rfl rfl rfl (hT _ w_1_15) (hT _ w_11_28) (by decide +kernel) ⟨Nat.le_trans (Nat.le_of_ble_eq_true rfl) hRf, Nat.le_trans (Nat.le_of_ble_eq_true rfl) hRl⟩, hT _ w_11_29⟩ ⟨PW.blind, PW.at _ hW hK hN⟩ rfl rfl hl.1 rfl (lv_room (Nat.le_of_ble_eq_true rfl)) d_Mod_readAsked_333 ⟨hRc, hRs⟩) hS (fun q _ h => hF q h) hF (fun r2066 x2065 t H locs ht hvm hw hB hz1 hk1 hS => ?_)
  have hW := Wd.back hB ht hF
  clear hB ht hF hz1 hk1 hvm
  obtain ⟨hi, hw⟩ := hw
  refine w_iald (o := 4) hx hb hK hW ko_4.1 ko_4.2 hi d_Mod_readAsked_336 ?_
  have hF := hW.free hS hA
  refine va_callv (va_runV (C := R_Mod) (As := [.int (rA x2065 4 r2066)]) (rest := []) ⟨hx, hb, hml, hown, hT⟩ (k_Mod_readLiteral l dC dI cI cB cJ cZ ad H.size (rA x2065 4 r2066) x2065  hw) ⟨callB_of 1 hT (gwt_in w_13_171) rfl rfl rfl (hT _ w_1_15) (hT _ w_13_168) (by decide +kernel) ⟨Nat.le_trans (Nat.le_of_ble_eq_true rfl) hRf, Nat.le_trans (Nat.le_of_ble_eq_true rfl) hRl⟩, hT _ w_13_170, hT _ ws_245⟩ ⟨PW.blind, va_recv hK hW.1 (ci := 12) (q0 := 0) rfl (pic_obj ko_0.1 ko_0.2 (by decide)), PW.at _ hW hK hN⟩ rfl rfl hl.1 rfl (lv_room (Nat.le_of_ble_eq_true rfl)) d_Mod_readAsked_337 ⟨hRc, hRs⟩) hS (fun q _ h => hF q h) hF (fun  x2067 t H locs ht hvm hw hB hz1 hk1 hS => ?_)
  have hW := Wd.back hB ht hF
  clear hB ht hF hz1 hk1 hvm
  refine lv_aload_n hx hb d_Mod_readAsked_340 rfl (lv_at hl 0 rfl) ?_
  refine lv_iload_n hx hb d_Mod_readAsked_341 rfl (lv_at hl 1 rfl) ?_
  refine lv_iconst (v := 3) hx hb d_Mod_readAsked_342 (by decide) ?_
  refine lv_iload_n hx hb d_Mod_readAsked_343 rfl (lv_at hl 2 rfl) ?_
  refine lv_iload hx hb d_Mod_readAsked_344 (lv_at hl 4 rfl) ?_
  refine lv_iload_n hx hb d_Mod_readAsked_346 rfl (lv_at hl 3 rfl) ?_
  refine lv_iconst (v := 1) hx hb d_Mod_readAsked_347 (by decide) ?_
  have hF := hW.free hS hA
  refine va_callv (va_runV (C := R_Mod) (As := [.int l1, .int 3, .int l2, .int l4, .int l3, .int 1]) (rest := []) ⟨hx, hb, hml, hown, hT⟩ (k_Mod_addStep l dC dI cI cB cJ cZ ad H.size l1 3 l2 l4 l3 1 x2067  hw) ⟨callB_of 6 hT (gwt_in w_13_167) rfl rfl rfl (hT _ w_1_15) (hT _ w_13_164) (by decide +kernel) ⟨Nat.le_trans (Nat.le_of_ble_eq_true rfl) hRf, Nat.le_trans (Nat.le_of_ble_eq_true rfl) hRl⟩, hT _ w_13_166, hT _ ws_244⟩ ⟨PW.blind, va_recv hK hW.1 (ci := 12) (q0 := 0) rfl (pic_obj ko_0.1 ko_0.2 (by decide)), PW.at _ hW hK hN⟩ rfl rfl hl.1 rfl (lv_room (Nat.le_of_ble_eq_true rfl)) d_Mod_readAsked_348 ⟨hRc, hRs⟩) hS (fun q _ h => hF q h) hF (fun  x2068 t H locs ht hvm hw hB hz1 hk1 hS => ?_)
  have hW := Wd.back hB ht hF
  clear hB ht hF hz1 hk1 hvm
  exact hret x2068 H locs 351 ls d_Mod_readAsked_351 hw hW hS
set_option maxRecDepth 100000 in
set_option maxHeartbeats 4000000 in
set_option maxRecDepth 100000 in
theorem t_Mod_readAsked_311 {p : Program} {l : Launch} {e : Env} {R : Room} {s : State} {m : MethodId} {args : Array Value} {below : List Frame} {meth : Method} {c : Code} {cells slots : Nat} {Q : State → Prop} {dC : Nat → ClassId} {dI : Nat → Nat → Nat} {cI cB cJ cZ : ClassId} {A : Nat → Prop} {ad : Nat → Nat} {post : St → Prop} (hx : p.tables.exec = Jvm.exec) (hb : c.code = b_Mod_readAsked) (hml : c.maxLocals = 7) (hown : s.vm.findClass R_Mod = some m.cls) (hT : ∀ w ∈ TG, w.before args s = true) (hK : va_K (dC, dI) CL (TY cI cB cJ cZ) s) (hN : NW s) (hA : ∀ q : Nat, s.heap.size ≤ q → A q) (hRc : cells ≤ R.cells) (hRs : slots ≤ R.slots) (hRf : 6 ≤ R.frames) (hRl : 138 ≤ R.locals) (hret : ∀ (x : St) (H : Heap) (locs : List Loc) (pc : Nat) (ls : Array Slot), decode b_Mod_readAsked pc = .ok (.return_, 1) → post x → Wd dC dI cI cB cJ cZ ad stM kcM 115 A x H → va_S A s.heap H locs → W p l e R s m args below meth c H locs cells slots Q (F0 m pc ls []))  : ∀ (l1 : Int32) (l2 : Int32) (l3 : Int32) (l4 : Int32) (l5 : Int32) (l6 : Int32) (x : St) (H : Heap) (locs : List Loc) (ls : Array Slot), j_Mod_readAsked_311 post l1 l2 l3 l4 l5 l6 x → Wd dC dI cI cB cJ cZ ad stM kcM 115 A x H → va_S A s.heap H locs → lv_has ls 7 [(0, .ref (ad 0)), (1, .int l1), (2, .int l2), (3, .int l3), (4, .int l4), (5, .int l5), (6, .int l6)] → W p l e R s m args below meth c H locs cells slots Q (F0 m 311 ls []) := by
  intro l1 l2 l3 l4 l5 l6 x H locs ls  hw hW hS hl
  unfold j_Mod_readAsked_311 at hw
  refine lv_aload_n hx hb d_Mod_readAsked_311 rfl (lv_at hl 0 rfl) ?_
  refine lv_iload_n hx hb d_Mod_readAsked_312 rfl (lv_at hl 1 rfl) ?_
  refine lv_iconst (v := 4) hx hb d_Mod_readAsked_313 (by decide) ?_
  refine lv_iload_n hx hb d_Mod_readAsked_314 rfl (lv_at hl 2 rfl) ?_
  refine lv_iload hx hb d_Mod_readAsked_315 (lv_at hl 4 rfl) ?_
  refine lv_iload hx hb d_Mod_readAsked_317 (lv_at hl 6 rfl) ?_
  refine lv_iconst (v := 0) hx hb d_Mod_readAsked_319 (by decide) ?_
  have hF := hW.free hS hA
  refine va_callv (va_runV (C := R_Mod) (As := [.int l1, .int 4, .int l2, .int l4, .int l6, .int 0]) (rest := []) ⟨hx, hb, hml, hown, hT⟩ (k_Mod_addStep l dC dI cI cB cJ cZ ad H.size l1 4 l2 l4 l6 0 x  hw) ⟨callB_of 6 hT (gwt_in w_13_167) rfl rfl rfl (hT _ w_1_15) (hT _ w_13_164) (by decide +kernel) ⟨Nat.le_trans (Nat.le_of_ble_eq_true rfl) hRf, Nat.le_trans (Nat.le_of_ble_eq_true rfl) hRl⟩, hT _ w_13_166, hT _ ws_244⟩ ⟨PW.blind, va_recv hK hW.1 (ci := 12) (q0 := 0) rfl (pic_obj ko_0.1 ko_0.2 (by decide)), PW.at _ hW hK hN⟩ rfl rfl hl.1 rfl (lv_room (Nat.le_of_ble_eq_true rfl)) d_Mod_readAsked_320 ⟨hRc, hRs⟩) hS (fun q _ h => hF q h) hF (fun  x2069 t H locs ht hvm hw hB hz1 hk1 hS => ?_)
  have hW := Wd.back hB ht hF
  clear hB ht hF hz1 hk1 hvm
  refine lv_goto (tgt := 351) hx hb d_Mod_readAsked_323 (by decide) ?_
  exact hret x2069 H locs 351 ls d_Mod_readAsked_351 hw hW hS
set_option maxRecDepth 100000 in
set_option maxHeartbeats 4000000 in
set_option maxRecDepth 100000 in
theorem t_Mod_readAsked_305 {p : Program} {l : Launch} {e : Env} {R : Room} {s : State} {m : MethodId} {args : Array Value} {below : List Frame} {meth : Method} {c : Code} {cells slots : Nat} {Q : State → Prop} {dC : Nat → ClassId} {dI : Nat → Nat → Nat} {cI cB cJ cZ : ClassId} {A : Nat → Prop} {ad : Nat → Nat} {post : St → Prop} (hx : p.tables.exec = Jvm.exec) (hb : c.code = b_Mod_readAsked) (hml : c.maxLocals = 7) (hown : s.vm.findClass R_Mod = some m.cls) (hT : ∀ w ∈ TG, w.before args s = true) (hK : va_K (dC, dI) CL (TY cI cB cJ cZ) s) (hN : NW s) (hA : ∀ q : Nat, s.heap.size ≤ q → A q) (hRc : cells ≤ R.cells) (hRs : slots ≤ R.slots) (hRf : 6 ≤ R.frames) (hRl : 138 ≤ R.locals) (hret : ∀ (x : St) (H : Heap) (locs : List Loc) (pc : Nat) (ls : Array Slot), decode b_Mod_readAsked pc = .ok (.return_, 1) → post x → Wd dC dI cI cB cJ cZ ad stM kcM 115 A x H → va_S A s.heap H locs → W p l e R s m args below meth c H locs cells slots Q (F0 m pc ls []))  : ∀ (l1 : Int32) (l2 : Int32) (l3 : Int32) (l4 : Int32) (l5 : Int32) (l6 : Int32) (x : St) (H : Heap) (locs : List Loc) (ls : Array Slot), j_Mod_readAsked_305 post l1 l2 l3 l4 l5 l6 x → Wd dC dI cI cB cJ cZ ad stM kcM 115 A x H → va_S A s.heap H locs → lv_has ls 7 [(0, .ref (ad 0)), (1, .int l1), (2, .int l2), (3, .int l3), (4, .int l4), (5, .int l5), (6, .int l6)] → W p l e R s m args below meth c H locs cells slots Q (F0 m 305 ls []) := by
  intro l1 l2 l3 l4 l5 l6 x H locs ls  hw hW hS hl
  unfold j_Mod_readAsked_305 at hw
  refine lv_aload_n hx hb d_Mod_readAsked_305 rfl (lv_at hl 0 rfl) ?_
  refine lv_iload hx hb d_Mod_readAsked_306 (lv_at hl 5 rfl) ?_
  have hF := hW.free hS hA
  refine va_callv (va_runV (C := R_Mod) (As := [.int l5]) (rest := []) ⟨hx, hb, hml, hown, hT⟩ (k_Mod_fail l dC dI cI cB cJ cZ ad H.size l5 x  hw) ⟨callB_of 1 hT (gwt_in w_11_14) rfl rfl rfl (hT _ w_1_15) (hT _ w_11_11) (by decide +kernel) ⟨Nat.le_trans (Nat.le_of_ble_eq_true rfl) hRf, Nat.le_trans (Nat.le_of_ble_eq_true rfl) hRl⟩, hT _ w_11_13, hT _ ws_115⟩ ⟨PW.blind, va_recv hK hW.1 (ci := 12) (q0 := 0) rfl (pic_obj ko_0.1 ko_0.2 (by decide)), PW.at _ hW hK hN⟩ rfl rfl hl.1 rfl (lv_room (Nat.le_of_ble_eq_true rfl)) d_Mod_readAsked_308 ⟨hRc, hRs⟩) hS (fun q _ h => hF q h) hF (fun  x2070 t H locs ht hvm hw hB hz1 hk1 hS => ?_)
  have hW := Wd.back hB ht hF
  clear hB ht hF hz1 hk1 hvm
  exact t_Mod_readAsked_311 hx hb hml hown hT hK hN hA hRc hRs hRf hRl hret  l1 l2 l3 l4 l5 l6 x2070 H locs ls  hw hW hS (lv_sub hl [0, 1, 2, 3, 4, 5, 6] rfl)
set_option maxRecDepth 100000 in
set_option maxHeartbeats 4000000 in
set_option maxRecDepth 100000 in
theorem t_Mod_readAsked_121 {p : Program} {l : Launch} {e : Env} {R : Room} {s : State} {m : MethodId} {args : Array Value} {below : List Frame} {meth : Method} {c : Code} {cells slots : Nat} {Q : State → Prop} {dC : Nat → ClassId} {dI : Nat → Nat → Nat} {cI cB cJ cZ : ClassId} {A : Nat → Prop} {ad : Nat → Nat} {post : St → Prop} {rec121 : Int32 → Int32 → Int32 → St → Prop} (hx : p.tables.exec = Jvm.exec) (hb : c.code = b_Mod_readAsked) (hml : c.maxLocals = 7) (hown : s.vm.findClass R_Mod = some m.cls) (hT : ∀ w ∈ TG, w.before args s = true) (hK : va_K (dC, dI) CL (TY cI cB cJ cZ) s) (hN : NW s) (hA : ∀ q : Nat, s.heap.size ≤ q → A q) (hRc : cells ≤ R.cells) (hRs : slots ≤ R.slots) (hRf : 6 ≤ R.frames) (hRl : 138 ≤ R.locals) (hret : ∀ (x : St) (H : Heap) (locs : List Loc) (pc : Nat) (ls : Array Slot), decode b_Mod_readAsked pc = .ok (.return_, 1) → post x → Wd dC dI cI cB cJ cZ ad stM kcM 115 A x H → va_S A s.heap H locs → W p l e R s m args below meth c H locs cells slots Q (F0 m pc ls [])) (hrec121 : ∀ (l1 : Int32) (l2 : Int32) (l3 : Int32) (x : St) (H : Heap) (locs : List Loc) (ls : Array Slot), rec121 l1 l2 l3 x → Wd dC dI cI cB cJ cZ ad stM kcM 115 A x H → va_S A s.heap H locs → lv_has ls 7 [(0, .ref (ad 0)), (1, .int l1), (2, .int l2), (3, .int l3)] → W p l e R s m args below meth c H locs cells slots Q (F0 m 121 ls [])) : ∀ (l1 : Int32) (l2 : Int32) (l3 : Int32) (x : St) (H : Heap) (locs : List Loc) (ls : Array Slot), j_Mod_readAsked_121 post rec121 l1 l2 l3 x → Wd dC dI cI cB cJ cZ ad stM kcM 115 A x H → va_S A s.heap H locs → lv_has ls 7 [(0, .ref (ad 0)), (1, .int l1), (2, .int l2), (3, .int l3)] → W p l e R s m args below meth c H locs cells slots Q (F0 m 121 ls []) := by
  intro l1 l2 l3 x H locs ls  hw hW hS hl
  unfold j_Mod_readAsked_121 at hw
  refine lv_aload_n hx hb d_Mod_readAsked_121 rfl (lv_at hl 0 rfl) ?_
  refine lv_bipush (v := 44) hx hb d_Mod_readAsked_122 (by decide) ?_
  have hF := hW.free hS hA
  refine va_calli (va_runV (C := R_Mod) (As := [.int 44]) (rest := []) ⟨hx, hb, hml, hown, hT⟩ (k_Mod_takesSign l dC dI cI cB cJ cZ ad H.size 44 x  hw) ⟨callB_of 1 hT (gwt_in w_11_46) rfl rfl rfl (hT _ w_1_15) (hT _ w_11_43) (by decide +kernel) ⟨Nat.le_trans (Nat.le_of_ble_eq_true rfl) hRf, Nat.le_trans (Nat.le_of_ble_eq_true rfl) hRl⟩, hT _ w_11_45, hT _ ws_121⟩ ⟨PW.blind, va_recv hK hW.1 (ci := 12) (q0 := 0) rfl (pic_obj ko_0.1 ko_0.2 (by decide)), PW.at _ hW hK hN⟩ rfl rfl hl.1 rfl (lv_room (Nat.le_of_ble_eq_true rfl)) d_Mod_readAsked_124 ⟨hRc, hRs⟩) hS (fun q _ h => hF q h) hF (fun r2072 x2071 t H locs ht hvm hw hB hz1 hk1 hS => ?_)
  have hW := Wd.back hB ht hF
  clear hB ht hF hz1 hk1 hvm
  refine lv_if_eq (tgt := 147) hx hb d_Mod_readAsked_127 (by decide) (fun c2073 => ?_) (fun c2073 => ?_)
  · have hw := hw.1 c2073
    refine lv_aload_n hx hb d_Mod_readAsked_147 rfl (lv_at hl 0 rfl) ?_
    refine lv_bipush (v := 41) hx hb d_Mod_readAsked_148 (by decide) ?_
    have hF := hW.free hS hA
    refine va_callv (va_runV (C := R_Mod) (As := [.int 41]) (rest := []) ⟨hx, hb, hml, hown, hT⟩ (k_Mod_wantSign l dC dI cI cB cJ cZ ad H.size 41 x2071  hw) ⟨callB_of 1 hT (gwt_in w_11_42) rfl rfl rfl (hT _ w_1_15) (hT _ w_11_39) (by decide +kernel) ⟨Nat.le_trans (Nat.le_of_ble_eq_true rfl) hRf, Nat.le_trans (Nat.le_of_ble_eq_true rfl) hRl⟩, hT _ w_11_41, hT _ ws_120⟩ ⟨PW.blind, va_recv hK hW.1 (ci := 12) (q0 := 0) rfl (pic_obj ko_0.1 ko_0.2 (by decide)), PW.at _ hW hK hN⟩ rfl rfl hl.1 rfl (lv_room (Nat.le_of_ble_eq_true rfl)) d_Mod_readAsked_150 ⟨hRc, hRs⟩) hS (fun q _ h => hF q h) hF (fun  x2074 t H locs ht hvm hw hB hz1 hk1 hS => ?_)
    have hW := Wd.back hB ht hF
    clear hB ht hF hz1 hk1 hvm
    refine lv_aload_n hx hb d_Mod_readAsked_153 rfl (lv_at hl 0 rfl) ?_
    refine lv_iload_n hx hb d_Mod_readAsked_154 rfl (lv_at hl 1 rfl) ?_
    refine lv_iconst (v := 2) hx hb d_Mod_readAsked_155 (by decide) ?_
    refine lv_iload_n hx hb d_Mod_readAsked_156 rfl (lv_at hl 2 rfl) ?_
    refine lv_iconst (v := (-1)) hx hb d_Mod_readAsked_157 (by decide) ?_
    refine lv_iload_n hx hb d_Mod_readAsked_158 rfl (lv_at hl 3 rfl) ?_
    refine lv_aload_n hx hb d_Mod_readAsked_159 rfl (lv_at hl 0 rfl) ?_
    refine w_getf (q := 79) (k := 122) (t := 12) (C := R_Mod) (T := F_Mod) (N := 167) hx hb hT hown hK hW ko_0.1 ko_0.2 (by decide) in_Mod rfl rfl (by decide) rfl fr_Mod_122 w_9_58 d_Mod_readAsked_160 rfl ?_
    refine lv_iconst (v := 4) hx hb d_Mod_readAsked_163 (by decide) ?_
    refine lv_aload_n hx hb d_Mod_readAsked_164 rfl (lv_at hl 0 rfl) ?_
    refine w_geti (k := 118) (t := 12) (C := R_Mod) (T := F_Mod) (N := 167) hx hb hT hown hK hW ko_0.1 ko_0.2 (by decide) in_Mod rfl rfl (by decide) rfl fr_Mod_118 w_9_54 d_Mod_readAsked_165 ?_
    refine lv_imul hx hb d_Mod_readAsked_168 ?_
    refine lv_iconst (v := 3) hx hb d_Mod_readAsked_169 (by decide) ?_
    refine lv_iadd hx hb d_Mod_readAsked_170 ?_
    obtain ⟨hi, hw⟩ := hw
    refine w_iald (o := 79) hx hb hK hW ko_79.1 ko_79.2 hi d_Mod_readAsked_171 ?_
    refine lv_iload_n hx hb d_Mod_readAsked_172 rfl (lv_at hl 3 rfl) ?_
    refine lv_isub hx hb d_Mod_readAsked_173 ?_
    have hF := hW.free hS hA
    refine va_callv (va_runV (C := R_Mod) (As := [.int l1, .int 2, .int l2, .int (-1), .int l3, .int ((rA x2074 79 ((4 * (fI x2074 0 118)) + 3)) - l3)]) (rest := []) ⟨hx, hb, hml, hown, hT⟩ (k_Mod_addStep l dC dI cI cB cJ cZ ad H.size l1 2 l2 (-1) l3 ((rA x2074 79 ((4 * (fI x2074 0 118)) + 3)) - l3) x2074  hw) ⟨callB_of 6 hT (gwt_in w_13_167) rfl rfl rfl (hT _ w_1_15) (hT _ w_13_164) (by decide +kernel) ⟨Nat.le_trans (Nat.le_of_ble_eq_true rfl) hRf, Nat.le_trans (Nat.le_of_ble_eq_true rfl) hRl⟩, hT _ w_13_166, hT _ ws_244⟩ ⟨PW.blind, va_recv hK hW.1 (ci := 12) (q0 := 0) rfl (pic_obj ko_0.1 ko_0.2 (by decide)), PW.at _ hW hK hN⟩ rfl rfl hl.1 rfl (lv_room (Nat.le_of_ble_eq_true rfl)) d_Mod_readAsked_174 ⟨hRc, hRs⟩) hS (fun q _ h => hF q h) hF (fun  x2075 t H locs ht hvm hw hB hz1 hk1 hS => ?_)
    have hW := Wd.back hB ht hF
    clear hB ht hF hz1 hk1 hvm
    exact hret x2075 H locs 177 ls d_Mod_readAsked_177 hw hW hS
  · have hw := hw.2 c2073
    refine lv_aload_n hx hb d_Mod_readAsked_130 rfl (lv_at hl 0 rfl) ?_
    refine lv_aload_n hx hb d_Mod_readAsked_131 rfl (lv_at hl 0 rfl) ?_
    refine w_getf (q := 4) (k := 6) (t := 12) (C := R_Mod) (T := F_Mod) (N := 167) hx hb hT hown hK hW ko_0.1 ko_0.2 (by decide) in_Mod rfl rfl (by decide) rfl fr_Mod_6 w_8_182 d_Mod_readAsked_132 rfl ?_
    refine lv_iconst (v := 1) hx hb d_Mod_readAsked_135 (by decide) ?_
    refine lv_iload_n hx hb d_Mod_readAsked_136 rfl (lv_at hl 2 rfl) ?_
    have hF := hW.free hS hA
    refine va_calli (va_runS (As := [.int 1, .int l2]) (rest := [.ref (ad 4), .ref (ad 0)]) ⟨hx, hb, hml, hown, hT⟩ (k_Mod_place l dC dI cI cB cJ cZ ad H.size 1 l2 x2071  hw) ⟨callB_of 2 hT (gwt_in w_11_30) rfl rfl rfl (hT _ w_1_15) (hT _ w_11_28) (by decide +kernel) ⟨Nat.le_trans (Nat.le_of_ble_eq_true rfl) hRf, Nat.le_trans (Nat.le_of_ble_eq_true rfl) hRl⟩, hT _ w_11_29⟩ ⟨PW.blind, PW.at _ hW hK hN⟩ rfl rfl hl.1 rfl (lv_room (Nat.le_of_ble_eq_true rfl)) d_Mod_readAsked_137 ⟨hRc, hRs⟩) hS (fun q _ h => hF q h) hF (fun r2077 x2076 t H locs ht hvm hw hB hz1 hk1 hS => ?_)
    have hW := Wd.back hB ht hF
    clear hB ht hF hz1 hk1 hvm
    obtain ⟨hi, hw⟩ := hw
    refine w_iald (o := 4) hx hb hK hW ko_4.1 ko_4.2 hi d_Mod_readAsked_140 ?_
    have hF := hW.free hS hA
    refine va_callv (va_runV (C := R_Mod) (As := [.int (rA x2076 4 r2077)]) (rest := []) ⟨hx, hb, hml, hown, hT⟩ (k_Mod_readLiteral l dC dI cI cB cJ cZ ad H.size (rA x2076 4 r2077) x2076  hw) ⟨callB_of 1 hT (gwt_in w_13_171) rfl rfl rfl (hT _ w_1_15) (hT _ w_13_168) (by decide +kernel) ⟨Nat.le_trans (Nat.le_of_ble_eq_true rfl) hRf, Nat.le_trans (Nat.le_of_ble_eq_true rfl) hRl⟩, hT _ w_13_170, hT _ ws_245⟩ ⟨PW.blind, va_recv hK hW.1 (ci := 12) (q0 := 0) rfl (pic_obj ko_0.1 ko_0.2 (by decide)), PW.at _ hW hK hN⟩ rfl rfl hl.1 rfl (lv_room (Nat.le_of_ble_eq_true rfl)) d_Mod_readAsked_141 ⟨hRc, hRs⟩) hS (fun q _ h => hF q h) hF (fun  x2078 t H locs ht hvm hw hB hz1 hk1 hS => ?_)
    have hW := Wd.back hB ht hF
    clear hB ht hF hz1 hk1 hvm
    refine lv_goto (tgt := 121) hx hb d_Mod_readAsked_144 (by decide) ?_
    exact hrec121 l1 l2 l3 x2078 H locs ls  hw hW hS (lv_sub hl [0, 1, 2, 3] rfl)
set_option maxHeartbeats 4000000 in
set_option maxRecDepth 100000 in
theorem tl_Mod_readAsked_121 {p : Program} {l : Launch} {e : Env} {R : Room} {s : State} {m : MethodId} {args : Array Value} {below : List Frame} {meth : Method} {c : Code} {cells slots : Nat} {Q : State → Prop} {dC : Nat → ClassId} {dI : Nat → Nat → Nat} {cI cB cJ cZ : ClassId} {A : Nat → Prop} {ad : Nat → Nat} {post : St → Prop} (hx : p.tables.exec = Jvm.exec) (hb : c.code = b_Mod_readAsked) (hml : c.maxLocals = 7) (hown : s.vm.findClass R_Mod = some m.cls) (hT : ∀ w ∈ TG, w.before args s = true) (hK : va_K (dC, dI) CL (TY cI cB cJ cZ) s) (hN : NW s) (hA : ∀ q : Nat, s.heap.size ≤ q → A q) (hRc : cells ≤ R.cells) (hRs : slots ≤ R.slots) (hRf : 6 ≤ R.frames) (hRl : 138 ≤ R.locals) (hret : ∀ (x : St) (H : Heap) (locs : List Loc) (pc : Nat) (ls : Array Slot), decode b_Mod_readAsked pc = .ok (.return_, 1) → post x → Wd dC dI cI cB cJ cZ ad stM kcM 115 A x H → va_S A s.heap H locs → W p l e R s m args below meth c H locs cells slots Q (F0 m pc ls []))  : ∀ n : Nat, ∀ (l1 : Int32) (l2 : Int32) (l3 : Int32) (x : St) (H : Heap) (locs : List Loc) (ls : Array Slot), wl_Mod_readAsked_121 post n l1 l2 l3 x → Wd dC dI cI cB cJ cZ ad stM kcM 115 A x H → va_S A s.heap H locs → lv_has ls 7 [(0, .ref (ad 0)), (1, .int l1), (2, .int l2), (3, .int l3)] → W p l e R s m args below meth c H locs cells slots Q (F0 m 121 ls []) := by
  intro n
  induction n with
  | zero => intro l1 l2 l3 x H locs ls  hw; exact hw.elim
  | succ n ih => intro l1 l2 l3 x H locs ls  hw hW hS hl; exact t_Mod_readAsked_121 hx hb hml hown hT hK hN hA hRc hRs hRf hRl hret  ih l1 l2 l3 x H locs ls  hw hW hS hl
set_option maxRecDepth 100000 in
set_option maxHeartbeats 4000000 in
set_option maxRecDepth 100000 in
theorem t_Mod_readAsked_61 {p : Program} {l : Launch} {e : Env} {R : Room} {s : State} {m : MethodId} {args : Array Value} {below : List Frame} {meth : Method} {c : Code} {cells slots : Nat} {Q : State → Prop} {dC : Nat → ClassId} {dI : Nat → Nat → Nat} {cI cB cJ cZ : ClassId} {A : Nat → Prop} {ad : Nat → Nat} {post : St → Prop} (hx : p.tables.exec = Jvm.exec) (hb : c.code = b_Mod_readAsked) (hml : c.maxLocals = 7) (hown : s.vm.findClass R_Mod = some m.cls) (hT : ∀ w ∈ TG, w.before args s = true) (hK : va_K (dC, dI) CL (TY cI cB cJ cZ) s) (hN : NW s) (hA : ∀ q : Nat, s.heap.size ≤ q → A q) (hRc : cells ≤ R.cells) (hRs : slots ≤ R.slots) (hRf : 6 ≤ R.frames) (hRl : 138 ≤ R.locals) (hret : ∀ (x : St) (H : Heap) (locs : List Loc) (pc : Nat) (ls : Array Slot), decode b_Mod_readAsked pc = .ok (.return_, 1) → post x → Wd dC dI cI cB cJ cZ ad stM kcM 115 A x H → va_S A s.heap H locs → W p l e R s m args below meth c H locs cells slots Q (F0 m pc ls []))  : ∀ (l1 : Int32) (l2 : Int32) (l3 : Int32) (s0 : Int32) (s1 : Int32) (x : St) (H : Heap) (locs : List Loc) (ls : Array Slot), j_Mod_readAsked_61 post l1 l2 l3 s0 s1 x → Wd dC dI cI cB cJ cZ ad stM kcM 115 A x H → va_S A s.heap H locs → lv_has ls 7 [(0, .ref (ad 0)), (1, .int l1), (2, .int l2), (3, .int l3)] → W p l e R s m args below meth c H locs cells slots Q (F0 m 61 ls [.int s0, .int s1, .ref (ad 0)]) := by
  intro l1 l2 l3 s0 s1 x H locs ls  hw hW hS hl
  unfold j_Mod_readAsked_61 at hw
  refine lv_iload_n hx hb d_Mod_readAsked_61 rfl (lv_at hl 2 rfl) ?_
  refine lv_iconst (v := (-1)) hx hb d_Mod_readAsked_62 (by decide) ?_
  refine lv_iconst (v := (-1)) hx hb d_Mod_readAsked_63 (by decide) ?_
  refine lv_iconst (v := 0) hx hb d_Mod_readAsked_64 (by decide) ?_
  have hF := hW.free hS hA
  refine va_callv (va_runV (C := R_Mod) (As := [.int s1, .int s0, .int l2, .int (-1), .int (-1), .int 0]) (rest := []) ⟨hx, hb, hml, hown, hT⟩ (k_Mod_addStep l dC dI cI cB cJ cZ ad H.size s1 s0 l2 (-1) (-1) 0 x  hw) ⟨callB_of 6 hT (gwt_in w_13_167) rfl rfl rfl (hT _ w_1_15) (hT _ w_13_164) (by decide +kernel) ⟨Nat.le_trans (Nat.le_of_ble_eq_true rfl) hRf, Nat.le_trans (Nat.le_of_ble_eq_true rfl) hRl⟩, hT _ w_13_166, hT _ ws_244⟩ ⟨PW.blind, va_recv hK hW.1 (ci := 12) (q0 := 0) rfl (pic_obj ko_0.1 ko_0.2 (by decide)), PW.at _ hW hK hN⟩ rfl rfl hl.1 rfl (lv_room (Nat.le_of_ble_eq_true rfl)) d_Mod_readAsked_65 ⟨hRc, hRs⟩) hS (fun q _ h => hF q h) hF (fun  x2079 t H locs ht hvm hw hB hz1 hk1 hS => ?_)
  have hW := Wd.back hB ht hF
  clear hB ht hF hz1 hk1 hvm
  exact hret x2079 H locs 68 ls d_Mod_readAsked_68 hw hW hS
set_option maxRecDepth 100000 in
set_option maxHeartbeats 4000000 in
set_option maxRecDepth 100000 in
theorem t_Mod_readAsked_50 {p : Program} {l : Launch} {e : Env} {R : Room} {s : State} {m : MethodId} {args : Array Value} {below : List Frame} {meth : Method} {c : Code} {cells slots : Nat} {Q : State → Prop} {dC : Nat → ClassId} {dI : Nat → Nat → Nat} {cI cB cJ cZ : ClassId} {A : Nat → Prop} {ad : Nat → Nat} {post : St → Prop} (hx : p.tables.exec = Jvm.exec) (hb : c.code = b_Mod_readAsked) (hml : c.maxLocals = 7) (hown : s.vm.findClass R_Mod = some m.cls) (hT : ∀ w ∈ TG, w.before args s = true) (hK : va_K (dC, dI) CL (TY cI cB cJ cZ) s) (hN : NW s) (hA : ∀ q : Nat, s.heap.size ≤ q → A q) (hRc : cells ≤ R.cells) (hRs : slots ≤ R.slots) (hRf : 6 ≤ R.frames) (hRl : 138 ≤ R.locals) (hret : ∀ (x : St) (H : Heap) (locs : List Loc) (pc : Nat) (ls : Array Slot), decode b_Mod_readAsked pc = .ok (.return_, 1) → post x → Wd dC dI cI cB cJ cZ ad stM kcM 115 A x H → va_S A s.heap H locs → W p l e R s m args below meth c H locs cells slots Q (F0 m pc ls []))  : ∀ (l1 : Int32) (l2 : Int32) (l3 : Int32) (x : St) (H : Heap) (locs : List Loc) (ls : Array Slot), j_Mod_readAsked_50 post l1 l2 l3 x → Wd dC dI cI cB cJ cZ ad stM kcM 115 A x H → va_S A s.heap H locs → lv_has ls 7 [(0, .ref (ad 0)), (1, .int l1), (2, .int l2), (3, .int l3)] → W p l e R s m args below meth c H locs cells slots Q (F0 m 50 ls []) := by
  intro l1 l2 l3 x H locs ls  hw hW hS hl
  unfold j_Mod_readAsked_50 at hw
  refine lv_aload_n hx hb d_Mod_readAsked_50 rfl (lv_at hl 0 rfl) ?_
  refine lv_iload_n hx hb d_Mod_readAsked_51 rfl (lv_at hl 1 rfl) ?_
  refine lv_iload_n hx hb d_Mod_readAsked_52 rfl (lv_at hl 3 rfl) ?_
  refine lv_if_eq (tgt := 60) hx hb d_Mod_readAsked_53 (by decide) (fun c2080 => ?_) (fun c2080 => ?_)
  · have hw := hw.1 c2080
    refine lv_iconst (v := 0) hx hb d_Mod_readAsked_60 (by decide) ?_
    exact t_Mod_readAsked_61 hx hb hml hown hT hK hN hA hRc hRs hRf hRl hret  l1 l2 l3 0 l1 x H locs ls  hw hW hS (lv_sub hl [0, 1, 2, 3] rfl)
  · have hw := hw.2 c2080
    refine lv_iconst (v := 1) hx hb d_Mod_readAsked_56 (by decide) ?_
    refine lv_goto (tgt := 61) hx hb d_Mod_readAsked_57 (by decide) ?_
    exact t_Mod_readAsked_61 hx hb hml hown hT hK hN hA hRc hRs hRf hRl hret  l1 l2 l3 1 l1 x H locs ls  hw hW hS (lv_sub hl [0, 1, 2, 3] rfl)
set_option maxRecDepth 100000 in
set_option maxHeartbeats 4000000 in
set_option maxRecDepth 100000 in
theorem t_Mod_readAsked_e {p : Program} {l : Launch} {e : Env} {R : Room} {s : State} {m : MethodId} {args : Array Value} {below : List Frame} {meth : Method} {c : Code} {cells slots : Nat} {Q : State → Prop} {dC : Nat → ClassId} {dI : Nat → Nat → Nat} {cI cB cJ cZ : ClassId} {A : Nat → Prop} {ad : Nat → Nat} {post : St → Prop} (hx : p.tables.exec = Jvm.exec) (hb : c.code = b_Mod_readAsked) (hml : c.maxLocals = 7) (hown : s.vm.findClass R_Mod = some m.cls) (hT : ∀ w ∈ TG, w.before args s = true) (hK : va_K (dC, dI) CL (TY cI cB cJ cZ) s) (hN : NW s) (hA : ∀ q : Nat, s.heap.size ≤ q → A q) (hRc : cells ≤ R.cells) (hRs : slots ≤ R.slots) (hRf : 6 ≤ R.frames) (hRl : 138 ≤ R.locals) (hret : ∀ (x : St) (H : Heap) (locs : List Loc) (pc : Nat) (ls : Array Slot), decode b_Mod_readAsked pc = .ok (.return_, 1) → post x → Wd dC dI cI cB cJ cZ ad stM kcM 115 A x H → va_S A s.heap H locs → W p l e R s m args below meth c H locs cells slots Q (F0 m pc ls [])) : ∀ (l1 : Int32) (x : St) (H : Heap) (locs : List Loc) (ls : Array Slot), wp_Mod_readAsked post l1 x → Wd dC dI cI cB cJ cZ ad stM kcM 115 A x H → va_S A s.heap H locs → lv_has ls 7 [(0, .ref (ad 0)), (1, .int l1)] → W p l e R s m args below meth c H locs cells slots Q (F0 m 0 ls []) := by
  intro l1 x H locs ls  hw hW hS hl
  unfold wp_Mod_readAsked at hw
  refine lv_aload_n hx hb d_Mod_readAsked_0 rfl (lv_at hl 0 rfl) ?_
  have hF := hW.free hS hA
  refine va_calli (va_runV (C := R_Mod) (As := []) (rest := []) ⟨hx, hb, hml, hown, hT⟩ (k_Mod_flatColumn l dC dI cI cB cJ cZ ad H.size  x  hw) ⟨callB_of 0 hT (gwt_in w_13_144) rfl rfl rfl (hT _ w_1_15) (hT _ w_13_141) (by decide +kernel) ⟨Nat.le_trans (Nat.le_of_ble_eq_true rfl) hRf, Nat.le_trans (Nat.le_of_ble_eq_true rfl) hRl⟩, hT _ w_13_143, hT _ ws_239⟩ ⟨PW.blind, va_recv hK hW.1 (ci := 12) (q0 := 0) rfl (pic_obj ko_0.1 ko_0.2 (by decide)), PW.at _ hW hK hN⟩ rfl rfl hl.1 rfl (lv_room (Nat.le_of_ble_eq_true rfl)) d_Mod_readAsked_1 ⟨hRc, hRs⟩) hS (fun q _ h => hF q h) hF (fun r2082 x2081 t H locs ht hvm hw hB hz1 hk1 hS => ?_)
  have hW := Wd.back hB ht hF
  clear hB ht hF hz1 hk1 hvm
  refine lv_istore_n (lv' := [(2, .int r2082), (0, .ref (ad 0)), (1, .int l1)]) hx hb d_Mod_readAsked_4 rfl hl (by decide) rfl (fun ls hl => ?_)
  refine lv_aload_n hx hb d_Mod_readAsked_5 rfl (lv_at hl 1 rfl) ?_
  refine w_geti (k := 17) (t := 12) (C := R_Mod) (T := F_Mod) (N := 167) hx hb hT hown hK hW ko_0.1 ko_0.2 (by decide) in_Mod rfl rfl (by decide) rfl fr_Mod_17 w_8_193 d_Mod_readAsked_6 ?_
  refine lv_iconst (v := (-1)) hx hb d_Mod_readAsked_9 (by decide) ?_
  refine lv_icmp_eq (tgt := 14) hx hb d_Mod_readAsked_10 (by decide) (fun c2083 => ?_) (fun c2083 => ?_)
  · have hw := hw.1 c2083
    refine lv_aload_n hx hb d_Mod_readAsked_14 rfl (lv_at hl 1 rfl) ?_
    refine lv_ldc2 hx hb hown (hT _ w_13_138) d_Mod_readAsked_15 ?_
    have hF := hW.free hS hA
    refine va_calli (va_runV (C := R_Mod) (As := [.long 26995]) (rest := []) ⟨hx, hb, hml, hown, hT⟩ (k_Mod_takesWord l dC dI cI cB cJ cZ ad H.size 26995 x2081  hw) ⟨callB_of 1 hT (gwt_in w_10_222) rfl rfl rfl (hT _ w_1_15) (hT _ w_10_219) (by decide +kernel) ⟨Nat.le_trans (Nat.le_of_ble_eq_true rfl) hRf, Nat.le_trans (Nat.le_of_ble_eq_true rfl) hRl⟩, hT _ w_10_221, hT _ ws_109⟩ ⟨PW.blind, va_recv hK hW.1 (ci := 12) (q0 := 0) rfl (pic_obj ko_0.1 ko_0.2 (by decide)), PW.at _ hW hK hN⟩ rfl rfl hl.1 rfl (lv_room (Nat.le_of_ble_eq_true rfl)) d_Mod_readAsked_18 ⟨hRc, hRs⟩) hS (fun q _ h => hF q h) hF (fun r2085 x2084 t H locs ht hvm hw hB hz1 hk1 hS => ?_)
    have hW := Wd.back hB ht hF
    clear hB ht hF hz1 hk1 hvm
    refine lv_if_eq (tgt := 69) hx hb d_Mod_readAsked_21 (by decide) (fun c2086 => ?_) (fun c2086 => ?_)
    · have hw := hw.1 c2086
      refine lv_aload_n hx hb d_Mod_readAsked_69 rfl (lv_at hl 1 rfl) ?_
      refine w_getf (q := 79) (k := 122) (t := 12) (C := R_Mod) (T := F_Mod) (N := 167) hx hb hT hown hK hW ko_0.1 ko_0.2 (by decide) in_Mod rfl rfl (by decide) rfl fr_Mod_122 w_9_58 d_Mod_readAsked_70 rfl ?_
      refine lv_iconst (v := 4) hx hb d_Mod_readAsked_73 (by decide) ?_
      refine lv_aload_n hx hb d_Mod_readAsked_74 rfl (lv_at hl 1 rfl) ?_
      refine w_geti (k := 118) (t := 12) (C := R_Mod) (T := F_Mod) (N := 167) hx hb hT hown hK hW ko_0.1 ko_0.2 (by decide) in_Mod rfl rfl (by decide) rfl fr_Mod_118 w_9_54 d_Mod_readAsked_75 ?_
      refine lv_imul hx hb d_Mod_readAsked_78 ?_
      refine lv_iconst (v := 3) hx hb d_Mod_readAsked_79 (by decide) ?_
      refine lv_iadd hx hb d_Mod_readAsked_80 ?_
      obtain ⟨hi, hw⟩ := hw
      refine w_iald (o := 79) hx hb hK hW ko_79.1 ko_79.2 hi d_Mod_readAsked_81 ?_
      refine lv_topi (fun v2087 ev2087 => ?_)
      have hw := hw v2087 ev2087
      refine lv_istore_n (lv' := [(3, .int v2087), (2, .int r2082), (0, .ref (ad 0)), (1, .int l1)]) hx hb d_Mod_readAsked_82 rfl hl (by decide) rfl (fun ls hl => ?_)
      refine lv_aload_n hx hb d_Mod_readAsked_83 rfl (lv_at hl 2 rfl) ?_
      refine lv_ldc2 hx hb hown (hT _ w_13_140) d_Mod_readAsked_84 ?_
      have hF := hW.free hS hA
      refine va_calli (va_runV (C := R_Mod) (As := [.long 26990]) (rest := []) ⟨hx, hb, hml, hown, hT⟩ (k_Mod_takesWord l dC dI cI cB cJ cZ ad H.size 26990 x2084  hw) ⟨callB_of 1 hT (gwt_in w_10_222) rfl rfl rfl (hT _ w_1_15) (hT _ w_10_219) (by decide +kernel) ⟨Nat.le_trans (Nat.le_of_ble_eq_true rfl) hRf, Nat.le_trans (Nat.le_of_ble_eq_true rfl) hRl⟩, hT _ w_10_221, hT _ ws_109⟩ ⟨PW.blind, va_recv hK hW.1 (ci := 12) (q0 := 0) rfl (pic_obj ko_0.1 ko_0.2 (by decide)), PW.at _ hW hK hN⟩ rfl rfl hl.1 rfl (lv_room (Nat.le_of_ble_eq_true rfl)) d_Mod_readAsked_87 ⟨hRc, hRs⟩) hS (fun q _ h => hF q h) hF (fun r2089 x2088 t H locs ht hvm hw hB hz1 hk1 hS => ?_)
      have hW := Wd.back hB ht hF
      clear hB ht hF hz1 hk1 hvm
      refine lv_if_eq (tgt := 178) hx hb d_Mod_readAsked_90 (by decide) (fun c2090 => ?_) (fun c2090 => ?_)
      · have hw := hw.1 c2090
        refine lv_aload_n hx hb d_Mod_readAsked_178 rfl (lv_at hl 2 rfl) ?_
        have hF := hW.free hS hA
        refine va_calli (va_runV (C := R_Mod) (As := []) (rest := []) ⟨hx, hb, hml, hown, hT⟩ (k_Mod_operator l dC dI cI cB cJ cZ ad H.size  x2088  hw) ⟨callB_of 0 hT (gwt_in w_13_175) rfl rfl rfl (hT _ w_1_15) (hT _ w_13_172) (by decide +kernel) ⟨Nat.le_trans (Nat.le_of_ble_eq_true rfl) hRf, Nat.le_trans (Nat.le_of_ble_eq_true rfl) hRl⟩, hT _ w_13_174, hT _ ws_246⟩ ⟨PW.blind, va_recv hK hW.1 (ci := 12) (q0 := 0) rfl (pic_obj ko_0.1 ko_0.2 (by decide)), PW.at _ hW hK hN⟩ rfl rfl hl.1 rfl (lv_room (Nat.le_of_ble_eq_true rfl)) d_Mod_readAsked_179 ⟨hRc, hRs⟩) hS (fun q _ h => hF q h) hF (fun r2092 x2091 t H locs ht hvm hw hB hz1 hk1 hS => ?_)
        have hW := Wd.back hB ht hF
        clear hB ht hF hz1 hk1 hvm
        refine lv_istore (lv' := [(4, .int r2092), (3, .int v2087), (2, .int r2082), (0, .ref (ad 0)), (1, .int l1)]) hx hb d_Mod_readAsked_182 hl (by decide) rfl (fun ls hl => ?_)
        refine lv_aload_n hx hb d_Mod_readAsked_184 rfl (lv_at hl 3 rfl) ?_
        refine w_geti (k := 17) (t := 12) (C := R_Mod) (T := F_Mod) (N := 167) hx hb hT hown hK hW ko_0.1 ko_0.2 (by decide) in_Mod rfl rfl (by decide) rfl fr_Mod_17 w_8_193 d_Mod_readAsked_185 ?_
        refine lv_iconst (v := (-1)) hx hb d_Mod_readAsked_188 (by decide) ?_
        refine lv_icmp_eq (tgt := 193) hx hb d_Mod_readAsked_189 (by decide) (fun c2093 => ?_) (fun c2093 => ?_)
        · have hw := hw.1 c2093
          refine lv_aload_n hx hb d_Mod_readAsked_193 rfl (lv_at hl 3 rfl) ?_
          have hF := hW.free hS hA
          refine va_callv (va_runV (C := R_Mod) (As := []) (rest := []) ⟨hx, hb, hml, hown, hT⟩ (k_Mod_blanks l dC dI cI cB cJ cZ ad H.size  x2091  hw) ⟨callB_of 0 hT (gwt_in w_10_230) rfl rfl rfl (hT _ w_1_15) (hT _ w_10_227) (by decide +kernel) ⟨Nat.le_trans (Nat.le_of_ble_eq_true rfl) hRf, Nat.le_trans (Nat.le_of_ble_eq_true rfl) hRl⟩, hT _ w_10_229, hT _ ws_111⟩ ⟨PW.blind, va_recv hK hW.1 (ci := 12) (q0 := 0) rfl (pic_obj ko_0.1 ko_0.2 (by decide)), PW.at _ hW hK hN⟩ rfl rfl hl.1 rfl (lv_room (Nat.le_of_ble_eq_true rfl)) d_Mod_readAsked_194 ⟨hRc, hRs⟩) hS (fun q _ h => hF q h) hF (fun  x2094 t H locs ht hvm hw hB hz1 hk1 hS => ?_)
          have hW := Wd.back hB ht hF
          clear hB ht hF hz1 hk1 hvm
          refine lv_aload_n hx hb d_Mod_readAsked_197 rfl (lv_at hl 3 rfl) ?_
          refine lv_aload_n hx hb d_Mod_readAsked_198 rfl (lv_at hl 3 rfl) ?_
          refine w_geti (k := 16) (t := 12) (C := R_Mod) (T := F_Mod) (N := 167) hx hb hT hown hK hW ko_0.1 ko_0.2 (by decide) in_Mod rfl rfl (by decide) rfl fr_Mod_16 w_8_192 d_Mod_readAsked_199 ?_
          have hF := hW.free hS hA
          refine va_calli (va_runV (C := R_Mod) (As := [.int (fI x2094 0 16)]) (rest := []) ⟨hx, hb, hml, hown, hT⟩ (k_Mod_wordAt l dC dI cI cB cJ cZ ad H.size (fI x2094 0 16) x2094  hw) ⟨callB_of 1 hT (gwt_in w_11_2) rfl rfl rfl (hT _ w_1_15) (hT _ w_10_239) (by decide +kernel) ⟨Nat.le_trans (Nat.le_of_ble_eq_true rfl) hRf, Nat.le_trans (Nat.le_of_ble_eq_true rfl) hRl⟩, hT _ w_11_1, hT _ ws_114⟩ ⟨PW.blind, va_recv hK hW.1 (ci := 12) (q0 := 0) rfl (pic_obj ko_0.1 ko_0.2 (by decide)), PW.at _ hW hK hN⟩ rfl rfl hl.1 rfl (lv_room (Nat.le_of_ble_eq_true rfl)) d_Mod_readAsked_202 ⟨hRc, hRs⟩) hS (fun q _ h => hF q h) hF (fun r2096 x2095 t H locs ht hvm hw hB hz1 hk1 hS => ?_)
          have hW := Wd.back hB ht hF
          clear hB ht hF hz1 hk1 hvm
          refine lv_if_le (tgt := 326) hx hb d_Mod_readAsked_205 (by decide) (fun c2097 => ?_) (fun c2097 => ?_)
          · have hw := hw.1 c2097
            exact t_Mod_readAsked_326 hx hb hml hown hT hK hN hA hRc hRs hRf hRl hret  l1 r2082 v2087 r2092 x2095 H locs ls  hw hW hS (lv_sub hl [3, 4, 2, 1, 0] rfl)
          · have hw := hw.2 c2097
            refine lv_aload_n hx hb d_Mod_readAsked_208 rfl (lv_at hl 3 rfl) ?_
            refine lv_ldc2 hx hb hown (hT _ w_11_95) d_Mod_readAsked_209 ?_
            have hF := hW.free hS hA
            refine va_calli (va_runV (C := R_Mod) (As := [.long 1953658213]) (rest := []) ⟨hx, hb, hml, hown, hT⟩ (k_Mod_sees l dC dI cI cB cJ cZ ad H.size 1953658213 x2095  hw) ⟨callB_of 1 hT (gwt_in w_10_226) rfl rfl rfl (hT _ w_1_15) (hT _ w_10_223) (by decide +kernel) ⟨Nat.le_trans (Nat.le_of_ble_eq_true rfl) hRf, Nat.le_trans (Nat.le_of_ble_eq_true rfl) hRl⟩, hT _ w_10_225, hT _ ws_110⟩ ⟨PW.blind, va_recv hK hW.1 (ci := 12) (q0 := 0) rfl (pic_obj ko_0.1 ko_0.2 (by decide)), PW.at _ hW hK hN⟩ rfl rfl hl.1 rfl (lv_room (Nat.le_of_ble_eq_true rfl)) d_Mod_readAsked_212 ⟨hRc, hRs⟩) hS (fun q _ h => hF q h) hF (fun r2099 x2098 t H locs ht hvm hw hB hz1 hk1 hS => ?_)
            have hW := Wd.back hB ht hF
            clear hB ht hF hz1 hk1 hvm
            refine lv_if_ne (tgt := 326) hx hb d_Mod_readAsked_215 (by decide) (fun c2100 => ?_) (fun c2100 => ?_)
            · have hw := hw.1 c2100
              exact t_Mod_readAsked_326 hx hb hml hown hT hK hN hA hRc hRs hRf hRl hret  l1 r2082 v2087 r2092 x2098 H locs ls  hw hW hS (lv_sub hl [3, 4, 2, 1, 0] rfl)
            · have hw := hw.2 c2100
              refine lv_aload_n hx hb d_Mod_readAsked_218 rfl (lv_at hl 3 rfl) ?_
              refine lv_ldc2 hx hb hown (hT _ w_11_96) d_Mod_readAsked_219 ?_
              have hF := hW.free hS hA
              refine va_calli (va_runV (C := R_Mod) (As := [.long 439721161573]) (rest := []) ⟨hx, hb, hml, hown, hT⟩ (k_Mod_sees l dC dI cI cB cJ cZ ad H.size 439721161573 x2098  hw) ⟨callB_of 1 hT (gwt_in w_10_226) rfl rfl rfl (hT _ w_1_15) (hT _ w_10_223) (by decide +kernel) ⟨Nat.le_trans (Nat.le_of_ble_eq_true rfl) hRf, Nat.le_trans (Nat.le_of_ble_eq_true rfl) hRl⟩, hT _ w_10_225, hT _ ws_110⟩ ⟨PW.blind, va_recv hK hW.1 (ci := 12) (q0 := 0) rfl (pic_obj ko_0.1 ko_0.2 (by decide)), PW.at _ hW hK hN⟩ rfl rfl hl.1 rfl (lv_room (Nat.le_of_ble_eq_true rfl)) d_Mod_readAsked_222 ⟨hRc, hRs⟩) hS (fun q _ h => hF q h) hF (fun r2102 x2101 t H locs ht hvm hw hB hz1 hk1 hS => ?_)
              have hW := Wd.back hB ht hF
              clear hB ht hF hz1 hk1 hvm
              refine lv_if_ne (tgt := 326) hx hb d_Mod_readAsked_225 (by decide) (fun c2103 => ?_) (fun c2103 => ?_)
              · have hw := hw.1 c2103
                exact t_Mod_readAsked_326 hx hb hml hown hT hK hN hA hRc hRs hRf hRl hret  l1 r2082 v2087 r2092 x2101 H locs ls  hw hW hS (lv_sub hl [3, 4, 2, 1, 0] rfl)
              · have hw := hw.2 c2103
                refine lv_aload_n hx hb d_Mod_readAsked_228 rfl (lv_at hl 3 rfl) ?_
                refine w_geti (k := 16) (t := 12) (C := R_Mod) (T := F_Mod) (N := 167) hx hb hT hown hK hW ko_0.1 ko_0.2 (by decide) in_Mod rfl rfl (by decide) rfl fr_Mod_16 w_8_192 d_Mod_readAsked_229 ?_
                refine lv_topi (fun v2104 ev2104 => ?_)
                have hw := hw v2104 ev2104
                refine lv_istore (lv' := [(5, .int v2104), (4, .int r2092), (3, .int v2087), (2, .int r2082), (0, .ref (ad 0)), (1, .int l1)]) hx hb d_Mod_readAsked_232 hl (by decide) rfl (fun ls hl => ?_)
                refine lv_aload_n hx hb d_Mod_readAsked_234 rfl (lv_at hl 4 rfl) ?_
                have hF := hW.free hS hA
                refine va_calli (va_runV (C := R_Mod) (As := []) (rest := []) ⟨hx, hb, hml, hown, hT⟩ (k_Mod_flatColumn l dC dI cI cB cJ cZ ad H.size  x2101  hw) ⟨callB_of 0 hT (gwt_in w_13_144) rfl rfl rfl (hT _ w_1_15) (hT _ w_13_141) (by decide +kernel) ⟨Nat.le_trans (Nat.le_of_ble_eq_true rfl) hRf, Nat.le_trans (Nat.le_of_ble_eq_true rfl) hRl⟩, hT _ w_13_143, hT _ ws_239⟩ ⟨PW.blind, va_recv hK hW.1 (ci := 12) (q0 := 0) rfl (pic_obj ko_0.1 ko_0.2 (by decide)), PW.at _ hW hK hN⟩ rfl rfl hl.1 rfl (lv_room (Nat.le_of_ble_eq_true rfl)) d_Mod_readAsked_235 ⟨hRc, hRs⟩) hS (fun q _ h => hF q h) hF (fun r2106 x2105 t H locs ht hvm hw hB hz1 hk1 hS => ?_)
                have hW := Wd.back hB ht hF
                clear hB ht hF hz1 hk1 hvm
                refine lv_istore (lv' := [(6, .int r2106), (5, .int v2104), (4, .int r2092), (3, .int v2087), (2, .int r2082), (0, .ref (ad 0)), (1, .int l1)]) hx hb d_Mod_readAsked_238 hl (by decide) rfl (fun ls hl => ?_)
                refine lv_aload_n hx hb d_Mod_readAsked_240 rfl (lv_at hl 5 rfl) ?_
                refine w_geti (k := 17) (t := 12) (C := R_Mod) (T := F_Mod) (N := 167) hx hb hT hown hK hW ko_0.1 ko_0.2 (by decide) in_Mod rfl rfl (by decide) rfl fr_Mod_17 w_8_193 d_Mod_readAsked_241 ?_
                refine lv_iconst (v := (-1)) hx hb d_Mod_readAsked_244 (by decide) ?_
                refine lv_icmp_ne (tgt := 311) hx hb d_Mod_readAsked_245 (by decide) (fun c2107 => ?_) (fun c2107 => ?_)
                · have hw := hw.1 c2107
                  exact t_Mod_readAsked_311 hx hb hml hown hT hK hN hA hRc hRs hRf hRl hret  l1 r2082 v2087 r2092 v2104 r2106 x2105 H locs ls  hw hW hS (lv_sub hl [5, 6, 4, 3, 2, 1, 0] rfl)
                · have hw := hw.2 c2107
                  refine lv_aload_n hx hb d_Mod_readAsked_248 rfl (lv_at hl 5 rfl) ?_
                  refine w_getf (q := 4) (k := 6) (t := 12) (C := R_Mod) (T := F_Mod) (N := 167) hx hb hT hown hK hW ko_0.1 ko_0.2 (by decide) in_Mod rfl rfl (by decide) rfl fr_Mod_6 w_8_182 d_Mod_readAsked_249 rfl ?_
                  refine lv_iconst (v := 1) hx hb d_Mod_readAsked_252 (by decide) ?_
                  refine lv_iload_n hx hb d_Mod_readAsked_253 rfl (lv_at hl 4 rfl) ?_
                  have hF := hW.free hS hA
                  refine va_calli (va_runS (As := [.int 1, .int r2082]) (rest := [.ref (ad 4)]) ⟨hx, hb, hml, hown, hT⟩ (k_Mod_place l dC dI cI cB cJ cZ ad H.size 1 r2082 x2105  hw) ⟨callB_of 2 hT (gwt_in w_11_30) rfl rfl rfl (hT _ w_1_15) (hT _ w_11_28) (by decide +kernel) ⟨Nat.le_trans (Nat.le_of_ble_eq_true rfl) hRf, Nat.le_trans (Nat.le_of_ble_eq_true rfl) hRl⟩, hT _ w_11_29⟩ ⟨PW.blind, PW.at _ hW hK hN⟩ rfl rfl hl.1 rfl (lv_room (Nat.le_of_ble_eq_true rfl)) d_Mod_readAsked_254 ⟨hRc, hRs⟩) hS (fun q _ h => hF q h) hF (fun r2109 x2108 t H locs ht hvm hw hB hz1 hk1 hS => ?_)
                  have hW := Wd.back hB ht hF
                  clear hB ht hF hz1 hk1 hvm
                  obtain ⟨hi, hw⟩ := hw
                  refine w_iald (o := 4) hx hb hK hW ko_4.1 ko_4.2 hi d_Mod_readAsked_257 ?_
                  refine lv_aload_n hx hb d_Mod_readAsked_258 rfl (lv_at hl 5 rfl) ?_
                  refine w_getf (q := 4) (k := 6) (t := 12) (C := R_Mod) (T := F_Mod) (N := 167) hx hb hT hown hK hW ko_0.1 ko_0.2 (by decide) in_Mod rfl rfl (by decide) rfl fr_Mod_6 w_8_182 d_Mod_readAsked_259 rfl ?_
                  refine lv_iconst (v := 1) hx hb d_Mod_readAsked_262 (by decide) ?_
                  refine lv_iload hx hb d_Mod_readAsked_263 (lv_at hl 0 rfl) ?_
                  have hF := hW.free hS hA
                  refine va_calli (va_runS (As := [.int 1, .int r2106]) (rest := [.ref (ad 4), .int (rA x2108 4 r2109)]) ⟨hx, hb, hml, hown, hT⟩ (k_Mod_place l dC dI cI cB cJ cZ ad H.size 1 r2106 x2108  hw) ⟨callB_of 2 hT (gwt_in w_11_30) rfl rfl rfl (hT _ w_1_15) (hT _ w_11_28) (by decide +kernel) ⟨Nat.le_trans (Nat.le_of_ble_eq_true rfl) hRf, Nat.le_trans (Nat.le_of_ble_eq_true rfl) hRl⟩, hT _ w_11_29⟩ ⟨PW.blind, PW.at _ hW hK hN⟩ rfl rfl hl.1 rfl (lv_room (Nat.le_of_ble_eq_true rfl)) d_Mod_readAsked_265 ⟨hRc, hRs⟩) hS (fun q _ h => hF q h) hF (fun r2111 x2110 t H locs ht hvm hw hB hz1 hk1 hS => ?_)
                  have hW := Wd.back hB ht hF
                  clear hB ht hF hz1 hk1 hvm
                  obtain ⟨hi, hw⟩ := hw
                  refine w_iald (o := 4) hx hb hK hW ko_4.1 ko_4.2 hi d_Mod_readAsked_268 ?_
                  refine lv_icmp_eq (tgt := 311) hx hb d_Mod_readAsked_269 (by decide) (fun c2112 => ?_) (fun c2112 => ?_)
                  · have hw := hw.1 c2112
                    exact t_Mod_readAsked_311 hx hb hml hown hT hK hN hA hRc hRs hRf hRl hret  l1 r2082 v2087 r2092 v2104 r2106 x2110 H locs ls  hw hW hS (lv_sub hl [5, 6, 4, 3, 2, 1, 0] rfl)
                  · have hw := hw.2 c2112
                    refine lv_aload_n hx hb d_Mod_readAsked_272 rfl (lv_at hl 5 rfl) ?_
                    refine w_getf (q := 4) (k := 6) (t := 12) (C := R_Mod) (T := F_Mod) (N := 167) hx hb hT hown hK hW ko_0.1 ko_0.2 (by decide) in_Mod rfl rfl (by decide) rfl fr_Mod_6 w_8_182 d_Mod_readAsked_273 rfl ?_
                    refine lv_iconst (v := 1) hx hb d_Mod_readAsked_276 (by decide) ?_
                    refine lv_iload_n hx hb d_Mod_readAsked_277 rfl (lv_at hl 4 rfl) ?_
                    have hF := hW.free hS hA
                    refine va_calli (va_runS (As := [.int 1, .int r2082]) (rest := [.ref (ad 4)]) ⟨hx, hb, hml, hown, hT⟩ (k_Mod_place l dC dI cI cB cJ cZ ad H.size 1 r2082 x2110  hw) ⟨callB_of 2 hT (gwt_in w_11_30) rfl rfl rfl (hT _ w_1_15) (hT _ w_11_28) (by decide +kernel) ⟨Nat.le_trans (Nat.le_of_ble_eq_true rfl) hRf, Nat.le_trans (Nat.le_of_ble_eq_true rfl) hRl⟩, hT _ w_11_29⟩ ⟨PW.blind, PW.at _ hW hK hN⟩ rfl rfl hl.1 rfl (lv_room (Nat.le_of_ble_eq_true rfl)) d_Mod_readAsked_278 ⟨hRc, hRs⟩) hS (fun q _ h => hF q h) hF (fun r2114 x2113 t H locs ht hvm hw hB hz1 hk1 hS => ?_)
                    have hW := Wd.back hB ht hF
                    clear hB ht hF hz1 hk1 hvm
                    obtain ⟨hi, hw⟩ := hw
                    refine w_iald (o := 4) hx hb hK hW ko_4.1 ko_4.2 hi d_Mod_readAsked_281 ?_
                    have hF := hW.free hS hA
                    refine va_calli (va_runS (As := [.int (rA x2113 4 r2114)]) (rest := []) ⟨hx, hb, hml, hown, hT⟩ (k_Mod_isWhole l dC dI cI cB cJ cZ ad H.size (rA x2113 4 r2114) x2113  hw) ⟨callB_of 1 hT (gwt_in w_13_151) rfl rfl rfl (hT _ w_1_15) (hT _ w_13_149) (by decide +kernel) ⟨Nat.le_trans (Nat.le_of_ble_eq_true rfl) hRf, Nat.le_trans (Nat.le_of_ble_eq_true rfl) hRl⟩, hT _ w_13_150⟩ ⟨PW.blind, PW.at _ hW hK hN⟩ rfl rfl hl.1 rfl (lv_room (Nat.le_of_ble_eq_true rfl)) d_Mod_readAsked_282 ⟨hRc, hRs⟩) hS (fun q _ h => hF q h) hF (fun r2116 x2115 t H locs ht hvm hw hB hz1 hk1 hS => ?_)
                    have hW := Wd.back hB ht hF
                    clear hB ht hF hz1 hk1 hvm
                    refine lv_if_eq (tgt := 305) hx hb d_Mod_readAsked_285 (by decide) (fun c2117 => ?_) (fun c2117 => ?_)
                    · have hw := hw.1 c2117
                      exact t_Mod_readAsked_305 hx hb hml hown hT hK hN hA hRc hRs hRf hRl hret  l1 r2082 v2087 r2092 v2104 r2106 x2115 H locs ls  hw hW hS (lv_sub hl [5, 6, 4, 3, 2, 1, 0] rfl)
                    · have hw := hw.2 c2117
                      refine lv_aload_n hx hb d_Mod_readAsked_288 rfl (lv_at hl 5 rfl) ?_
                      refine w_getf (q := 4) (k := 6) (t := 12) (C := R_Mod) (T := F_Mod) (N := 167) hx hb hT hown hK hW ko_0.1 ko_0.2 (by decide) in_Mod rfl rfl (by decide) rfl fr_Mod_6 w_8_182 d_Mod_readAsked_289 rfl ?_
                      refine lv_iconst (v := 1) hx hb d_Mod_readAsked_292 (by decide) ?_
                      refine lv_iload hx hb d_Mod_readAsked_293 (lv_at hl 0 rfl) ?_
                      have hF := hW.free hS hA
                      refine va_calli (va_runS (As := [.int 1, .int r2106]) (rest := [.ref (ad 4)]) ⟨hx, hb, hml, hown, hT⟩ (k_Mod_place l dC dI cI cB cJ cZ ad H.size 1 r2106 x2115  hw) ⟨callB_of 2 hT (gwt_in w_11_30) rfl rfl rfl (hT _ w_1_15) (hT _ w_11_28) (by decide +kernel) ⟨Nat.le_trans (Nat.le_of_ble_eq_true rfl) hRf, Nat.le_trans (Nat.le_of_ble_eq_true rfl) hRl⟩, hT _ w_11_29⟩ ⟨PW.blind, PW.at _ hW hK hN⟩ rfl rfl hl.1 rfl (lv_room (Nat.le_of_ble_eq_true rfl)) d_Mod_readAsked_295 ⟨hRc, hRs⟩) hS (fun q _ h => hF q h) hF (fun r2119 x2118 t H locs ht hvm hw hB hz1 hk1 hS => ?_)
                      have hW := Wd.back hB ht hF
                      clear hB ht hF hz1 hk1 hvm
                      obtain ⟨hi, hw⟩ := hw
                      refine w_iald (o := 4) hx hb hK hW ko_4.1 ko_4.2 hi d_Mod_readAsked_298 ?_
                      have hF := hW.free hS hA
                      refine va_calli (va_runS (As := [.int (rA x2118 4 r2119)]) (rest := []) ⟨hx, hb, hml, hown, hT⟩ (k_Mod_isWhole l dC dI cI cB cJ cZ ad H.size (rA x2118 4 r2119) x2118  hw) ⟨callB_of 1 hT (gwt_in w_13_151) rfl rfl rfl (hT _ w_1_15) (hT _ w_13_149) (by decide +kernel) ⟨Nat.le_trans (Nat.le_of_ble_eq_true rfl) hRf, Nat.le_trans (Nat.le_of_ble_eq_true rfl) hRl⟩, hT _ w_13_150⟩ ⟨PW.blind, PW.at _ hW hK hN⟩ rfl rfl hl.1 rfl (lv_room (Nat.le_of_ble_eq_true rfl)) d_Mod_readAsked_299 ⟨hRc, hRs⟩) hS (fun q _ h => hF q h) hF (fun r2121 x2120 t H locs ht hvm hw hB hz1 hk1 hS => ?_)
                      have hW := Wd.back hB ht hF
                      clear hB ht hF hz1 hk1 hvm
                      refine lv_if_ne (tgt := 311) hx hb d_Mod_readAsked_302 (by decide) (fun c2122 => ?_) (fun c2122 => ?_)
                      · have hw := hw.1 c2122
                        exact t_Mod_readAsked_311 hx hb hml hown hT hK hN hA hRc hRs hRf hRl hret  l1 r2082 v2087 r2092 v2104 r2106 x2120 H locs ls  hw hW hS (lv_sub hl [5, 6, 4, 3, 2, 1, 0] rfl)
                      · have hw := hw.2 c2122
                        exact t_Mod_readAsked_305 hx hb hml hown hT hK hN hA hRc hRs hRf hRl hret  l1 r2082 v2087 r2092 v2104 r2106 x2120 H locs ls  hw hW hS (lv_sub hl [5, 6, 4, 3, 2, 1, 0] rfl)
        · have hw := hw.2 c2093
          exact hret x2091 H locs 192 ls d_Mod_readAsked_192 hw hW hS
      · have hw := hw.2 c2090
        refine lv_aload_n hx hb d_Mod_readAsked_93 rfl (lv_at hl 2 rfl) ?_
        refine lv_bipush (v := 40) hx hb d_Mod_readAsked_94 (by decide) ?_
        have hF := hW.free hS hA
        refine va_callv (va_runV (C := R_Mod) (As := [.int 40]) (rest := []) ⟨hx, hb, hml, hown, hT⟩ (k_Mod_wantSign l dC dI cI cB cJ cZ ad H.size 40 x2088  hw) ⟨callB_of 1 hT (gwt_in w_11_42) rfl rfl rfl (hT _ w_1_15) (hT _ w_11_39) (by decide +kernel) ⟨Nat.le_trans (Nat.le_of_ble_eq_true rfl) hRf, Nat.le_trans (Nat.le_of_ble_eq_true rfl) hRl⟩, hT _ w_11_41, hT _ ws_120⟩ ⟨PW.blind, va_recv hK hW.1 (ci := 12) (q0 := 0) rfl (pic_obj ko_0.1 ko_0.2 (by decide)), PW.at _ hW hK hN⟩ rfl rfl hl.1 rfl (lv_room (Nat.le_of_ble_eq_true rfl)) d_Mod_readAsked_96 ⟨hRc, hRs⟩) hS (fun q _ h => hF q h) hF (fun  x2123 t H locs ht hvm hw hB hz1 hk1 hS => ?_)
        have hW := Wd.back hB ht hF
        clear hB ht hF hz1 hk1 hvm
        refine lv_aload_n hx hb d_Mod_readAsked_99 rfl (lv_at hl 2 rfl) ?_
        refine w_geti (k := 17) (t := 12) (C := R_Mod) (T := F_Mod) (N := 167) hx hb hT hown hK hW ko_0.1 ko_0.2 (by decide) in_Mod rfl rfl (by decide) rfl fr_Mod_17 w_8_193 d_Mod_readAsked_100 ?_
        refine lv_iconst (v := (-1)) hx hb d_Mod_readAsked_103 (by decide) ?_
        refine lv_icmp_ne (tgt := 121) hx hb d_Mod_readAsked_104 (by decide) (fun c2124 => ?_) (fun c2124 => ?_)
        · have hw := hw.1 c2124
          obtain ⟨n, hw⟩ := hw
          exact tl_Mod_readAsked_121 hx hb hml hown hT hK hN hA hRc hRs hRf hRl hret  n l1 r2082 v2087 x2123 H locs ls  hw hW hS (lv_sub hl [2, 3, 1, 0] rfl)
        · have hw := hw.2 c2124
          refine lv_aload_n hx hb d_Mod_readAsked_107 rfl (lv_at hl 2 rfl) ?_
          refine lv_aload_n hx hb d_Mod_readAsked_108 rfl (lv_at hl 2 rfl) ?_
          refine w_getf (q := 4) (k := 6) (t := 12) (C := R_Mod) (T := F_Mod) (N := 167) hx hb hT hown hK hW ko_0.1 ko_0.2 (by decide) in_Mod rfl rfl (by decide) rfl fr_Mod_6 w_8_182 d_Mod_readAsked_109 rfl ?_
          refine lv_iconst (v := 1) hx hb d_Mod_readAsked_112 (by decide) ?_
          refine lv_iload_n hx hb d_Mod_readAsked_113 rfl (lv_at hl 1 rfl) ?_
          have hF := hW.free hS hA
          refine va_calli (va_runS (As := [.int 1, .int r2082]) (rest := [.ref (ad 4), .ref (ad 0)]) ⟨hx, hb, hml, hown, hT⟩ (k_Mod_place l dC dI cI cB cJ cZ ad H.size 1 r2082 x2123  hw) ⟨callB_of 2 hT (gwt_in w_11_30) rfl rfl rfl (hT _ w_1_15) (hT _ w_11_28) (by decide +kernel) ⟨Nat.le_trans (Nat.le_of_ble_eq_true rfl) hRf, Nat.le_trans (Nat.le_of_ble_eq_true rfl) hRl⟩, hT _ w_11_29⟩ ⟨PW.blind, PW.at _ hW hK hN⟩ rfl rfl hl.1 rfl (lv_room (Nat.le_of_ble_eq_true rfl)) d_Mod_readAsked_114 ⟨hRc, hRs⟩) hS (fun q _ h => hF q h) hF (fun r2126 x2125 t H locs ht hvm hw hB hz1 hk1 hS => ?_)
          have hW := Wd.back hB ht hF
          clear hB ht hF hz1 hk1 hvm
          obtain ⟨hi, hw⟩ := hw
          refine w_iald (o := 4) hx hb hK hW ko_4.1 ko_4.2 hi d_Mod_readAsked_117 ?_
          have hF := hW.free hS hA
          refine va_callv (va_runV (C := R_Mod) (As := [.int (rA x2125 4 r2126)]) (rest := []) ⟨hx, hb, hml, hown, hT⟩ (k_Mod_readLiteral l dC dI cI cB cJ cZ ad H.size (rA x2125 4 r2126) x2125  hw) ⟨callB_of 1 hT (gwt_in w_13_171) rfl rfl rfl (hT _ w_1_15) (hT _ w_13_168) (by decide +kernel) ⟨Nat.le_trans (Nat.le_of_ble_eq_true rfl) hRf, Nat.le_trans (Nat.le_of_ble_eq_true rfl) hRl⟩, hT _ w_13_170, hT _ ws_245⟩ ⟨PW.blind, va_recv hK hW.1 (ci := 12) (q0 := 0) rfl (pic_obj ko_0.1 ko_0.2 (by decide)), PW.at _ hW hK hN⟩ rfl rfl hl.1 rfl (lv_room (Nat.le_of_ble_eq_true rfl)) d_Mod_readAsked_118 ⟨hRc, hRs⟩) hS (fun q _ h => hF q h) hF (fun  x2127 t H locs ht hvm hw hB hz1 hk1 hS => ?_)
          have hW := Wd.back hB ht hF
          clear hB ht hF hz1 hk1 hvm
          obtain ⟨n, hw⟩ := hw
          exact tl_Mod_readAsked_121 hx hb hml hown hT hK hN hA hRc hRs hRf hRl hret  n l1 r2082 v2087 x2127 H locs ls  hw hW hS (lv_sub hl [2, 3, 1, 0] rfl)
    · have hw := hw.2 c2086
      refine lv_aload_n hx hb d_Mod_readAsked_24 rfl (lv_at hl 1 rfl) ?_
      refine lv_ldc2 hx hb hown (hT _ w_13_137) d_Mod_readAsked_25 ?_
      have hF := hW.free hS hA
      refine va_calli (va_runV (C := R_Mod) (As := [.long 7237492]) (rest := []) ⟨hx, hb, hml, hown, hT⟩ (k_Mod_takesWord l dC dI cI cB cJ cZ ad H.size 7237492 x2084  hw) ⟨callB_of 1 hT (gwt_in w_10_222) rfl rfl rfl (hT _ w_1_15) (hT _ w_10_219) (by decide +kernel) ⟨Nat.le_trans (Nat.le_of_ble_eq_true rfl) hRf, Nat.le_trans (Nat.le_of_ble_eq_true rfl) hRl⟩, hT _ w_10_221, hT _ ws_109⟩ ⟨PW.blind, va_recv hK hW.1 (ci := 12) (q0 := 0) rfl (pic_obj ko_0.1 ko_0.2 (by decide)), PW.at _ hW hK hN⟩ rfl rfl hl.1 rfl (lv_room (Nat.le_of_ble_eq_true rfl)) d_Mod_readAsked_28 ⟨hRc, hRs⟩) hS (fun q _ h => hF q h) hF (fun r2129 x2128 t H locs ht hvm hw hB hz1 hk1 hS => ?_)
      have hW := Wd.back hB ht hF
      clear hB ht hF hz1 hk1 hvm
      refine lv_istore_n (lv' := [(3, .int r2129), (2, .int r2082), (0, .ref (ad 0)), (1, .int l1)]) hx hb d_Mod_readAsked_31 rfl hl (by decide) rfl (fun ls hl => ?_)
      refine lv_aload_n hx hb d_Mod_readAsked_32 rfl (lv_at hl 2 rfl) ?_
      refine lv_ldc2 hx hb hown (hT _ w_13_139) d_Mod_readAsked_33 ?_
      have hF := hW.free hS hA
      refine va_calli (va_runV (C := R_Mod) (As := [.long 1853189228]) (rest := []) ⟨hx, hb, hml, hown, hT⟩ (k_Mod_takesWord l dC dI cI cB cJ cZ ad H.size 1853189228 x2128  hw) ⟨callB_of 1 hT (gwt_in w_10_222) rfl rfl rfl (hT _ w_1_15) (hT _ w_10_219) (by decide +kernel) ⟨Nat.le_trans (Nat.le_of_ble_eq_true rfl) hRf, Nat.le_trans (Nat.le_of_ble_eq_true rfl) hRl⟩, hT _ w_10_221, hT _ ws_109⟩ ⟨PW.blind, va_recv hK hW.1 (ci := 12) (q0 := 0) rfl (pic_obj ko_0.1 ko_0.2 (by decide)), PW.at _ hW hK hN⟩ rfl rfl hl.1 rfl (lv_room (Nat.le_of_ble_eq_true rfl)) d_Mod_readAsked_36 ⟨hRc, hRs⟩) hS (fun q _ h => hF q h) hF (fun r2131 x2130 t H locs ht hvm hw hB hz1 hk1 hS => ?_)
      have hW := Wd.back hB ht hF
      clear hB ht hF hz1 hk1 hvm
      refine lv_if_ne (tgt := 50) hx hb d_Mod_readAsked_39 (by decide) (fun c2132 => ?_) (fun c2132 => ?_)
      · have hw := hw.1 c2132
        exact t_Mod_readAsked_50 hx hb hml hown hT hK hN hA hRc hRs hRf hRl hret  l1 r2082 r2129 x2130 H locs ls  hw hW hS (lv_sub hl [2, 3, 1, 0] rfl)
      · have hw := hw.2 c2132
        refine lv_aload_n hx hb d_Mod_readAsked_42 rfl (lv_at hl 2 rfl) ?_
        refine lv_aload_n hx hb d_Mod_readAsked_43 rfl (lv_at hl 2 rfl) ?_
        refine w_geti (k := 16) (t := 12) (C := R_Mod) (T := F_Mod) (N := 167) hx hb hT hown hK hW ko_0.1 ko_0.2 (by decide) in_Mod rfl rfl (by decide) rfl fr_Mod_16 w_8_192 d_Mod_readAsked_44 ?_
        have hF := hW.free hS hA
        refine va_callv (va_runV (C := R_Mod) (As := [.int (fI x2130 0 16)]) (rest := []) ⟨hx, hb, hml, hown, hT⟩ (k_Mod_fail l dC dI cI cB cJ cZ ad H.size (fI x2130 0 16) x2130  hw) ⟨callB_of 1 hT (gwt_in w_11_14) rfl rfl rfl (hT _ w_1_15) (hT _ w_11_11) (by decide +kernel) ⟨Nat.le_trans (Nat.le_of_ble_eq_true rfl) hRf, Nat.le_trans (Nat.le_of_ble_eq_true rfl) hRl⟩, hT _ w_11_13, hT _ ws_115⟩ ⟨PW.blind, va_recv hK hW.1 (ci := 12) (q0 := 0) rfl (pic_obj ko_0.1 ko_0.2 (by decide)), PW.at _ hW hK hN⟩ rfl rfl hl.1 rfl (lv_room (Nat.le_of_ble_eq_true rfl)) d_Mod_readAsked_47 ⟨hRc, hRs⟩) hS (fun q _ h => hF q h) hF (fun  x2133 t H locs ht hvm hw hB hz1 hk1 hS => ?_)
        have hW := Wd.back hB ht hF
        clear hB ht hF hz1 hk1 hvm
        exact t_Mod_readAsked_50 hx hb hml hown hT hK hN hA hRc hRs hRf hRl hret  l1 r2082 r2129 x2133 H locs ls  hw hW hS (lv_sub hl [2, 3, 1, 0] rfl)
  · have hw := hw.2 c2083
    exact hret x2081 H locs 13 ls d_Mod_readAsked_13 hw hW hS
set_option maxHeartbeats 4000000 in
set_option maxRecDepth 100000 in
theorem k_Mod_readAsked (l : Launch) (dC : Nat → ClassId) (dI : Nat → Nat → Nat) (cI cB cJ cZ : ClassId) (ad : Nat → Nat) (sz : Nat) (l1 : Int32) (x : St) {post : St → Prop} (hw : wp_Mod_readAsked post l1 x) : Met l y_Mod_readAsked (wsOf y_Mod_readAsked b_Mod_readAsked 7 (none)) ({ frames := 6, cells := 0, slots := 0, locals := 138 }) (va_Pc [.ref (ad 0), .int l1] (PW dC dI cI cB cJ cZ ad stM kcM 115 sz x)) (va_Qv (fun (y : St) => post y) (fun y t => Wd dC dI cI cB cJ cZ ad stM kcM 115 (va_A (pic ad stM kcM 115 cI cB cJ cZ x) sz) y t.heap) (va_A (pic ad stM kcM 115 cI cB cJ cZ x) sz)) 0 0 (va_A (pic ad stM kcM 115 cI cB cJ cZ x) sz) := by
  refine Met.ofW (cc := b_Mod_readAsked) (maxL := 7) (ret := none) (by decide) rfl ?_
  intro p e s m args below meth c s₁ B hml hv
  obtain ⟨rfl, hsz, hW0, hK, hN⟩ := hv
  have hx := B.exec
  have hb := B.bytes
  have hr := B.returns
  have hts := atoms_spec B.pre
  have hT : ∀ w ∈ TG, w.before _ s = true := fun w h => hts w (List.mem_cons_of_mem _ h)
  have hown : s.vm.findClass R_Mod = some m.cls := findClass_of_methodNamed B.named
  have hlocks := B.notSynchronized
  subst hsz
  have hW : Wd dC dI cI cB cJ cZ ad stM kcM 115 (va_A (pic ad stM kcM 115 cI cB cJ cZ x) s.heap.size) x s.heap := ⟨hW0.1, hW0.2.1.self (sz := s.heap.size), hW0.2.2⟩
  generalize hAe : va_A (pic ad stM kcM 115 cI cB cJ cZ x) s.heap.size = A at hW ⊢
  have hA : ∀ q : Nat, s.heap.size ≤ q → A q := fun q h => by rw [← hAe]; exact Or.inr h
  have hS : va_S A s.heap s.heap [] := va_S.rf
  have hl := lv_entry ([.ref (ad 0), .int l1]) (n := 7) (Nat.le_of_ble_eq_true rfl)
  rw [lg_entry_eq]
  generalize (lg_sl ([.ref (ad 0), .int l1]) ++ List.replicate (7 - (lg_sl ([.ref (ad 0), .int l1])).length) Slot.unset).toArray = ls at hl ⊢
  have hl : lv_has ls 7 [(0, .ref (ad 0)), (1, .int l1)] := hl
  exact t_Mod_readAsked_e hx hb hml hown hT hK hN hA (Nat.le_refl 0) (Nat.le_refl 0) (Nat.le_refl 6) (Nat.le_refl 138) (fun x H locs pc ls hd hp hW hS => W.vret hx hb hr (fun t ht hM => ⟨⟨x, rfl, hp, Wd.back hW ht.symm (fun _ z => z)⟩, hS.F ht⟩) hS.2.2 hd hlocks)  l1 x _ _ ls  hw hW hS hl
set_option maxRecDepth 100000 in
set_option maxHeartbeats 4000000 in
set_option maxRecDepth 100000 in
theorem t_Mod_push_e {p : Program} {l : Launch} {e : Env} {R : Room} {s : State} {m : MethodId} {args : Array Value} {below : List Frame} {meth : Method} {c : Code} {cells slots : Nat} {Q : State → Prop} {dC : Nat → ClassId} {dI : Nat → Nat → Nat} {cI cB cJ cZ : ClassId} {A : Nat → Prop} {ad : Nat → Nat} {post : St → Prop} (hx : p.tables.exec = Jvm.exec) (hb : c.code = b_Mod_push) (hml : c.maxLocals = 3) (hown : s.vm.findClass R_Mod = some m.cls) (hT : ∀ w ∈ TG, w.before args s = true) (hK : va_K (dC, dI) CL (TY cI cB cJ cZ) s) (hN : NW s) (hA : ∀ q : Nat, s.heap.size ≤ q → A q) (hRc : cells ≤ R.cells) (hRs : slots ≤ R.slots) (hRf : 0 ≤ R.frames) (hRl : 0 ≤ R.locals) (hret : ∀ (x : St) (H : Heap) (locs : List Loc) (pc : Nat) (ls : Array Slot), decode b_Mod_push pc = .ok (.return_, 1) → post x → Wd dC dI cI cB cJ cZ ad stM kcM 115 A x H → va_S A s.heap H locs → W p l e R s m args below meth c H locs cells slots Q (F0 m pc ls [])) : ∀ (l1 : Int32) (l2 : Int32) (x : St) (H : Heap) (locs : List Loc) (ls : Array Slot), wp_Mod_push post l1 l2 x → Wd dC dI cI cB cJ cZ ad stM kcM 115 A x H → va_S A s.heap H locs → lv_has ls 3 [(0, .ref (ad 0)), (1, .int l1), (2, .int l2)] → W p l e R s m args below meth c H locs cells slots Q (F0 m 0 ls []) := by
  intro l1 l2 x H locs ls  hw hW hS hl
  unfold wp_Mod_push at hw
  refine lv_aload_n hx hb d_Mod_push_0 rfl (lv_at hl 0 rfl) ?_
  refine w_getf (q := 94) (k := 137) (t := 12) (C := R_Mod) (T := F_Mod) (N := 167) hx hb hT hown hK hW ko_0.1 ko_0.2 (by decide) in_Mod rfl rfl (by decide) rfl fr_Mod_137 w_9_73 d_Mod_push_1 rfl ?_
  refine lv_aload_n hx hb d_Mod_push_4 rfl (lv_at hl 0 rfl) ?_
  refine w_geti (k := 139) (t := 12) (C := R_Mod) (T := F_Mod) (N := 167) hx hb hT hown hK hW ko_0.1 ko_0.2 (by decide) in_Mod rfl rfl (by decide) rfl fr_Mod_139 w_9_75 d_Mod_push_5 ?_
  refine lv_iload_n hx hb d_Mod_push_8 rfl (lv_at hl 1 rfl) ?_
  obtain ⟨hi, hw⟩ := hw
  refine w_iast (o := 94) hx hb hK hW hS ko_94.1 ko_94.2 hi d_Mod_push_9 (fun H locs hW hS => ?_)
  obtain ⟨x2134, ex2134⟩ : ∃ y : St, y = setA x 94 (fI x 0 139) l1 := ⟨_, rfl⟩
  rw [← ex2134] at hW
  have hw := hw x2134 ex2134
  refine lv_aload_n hx hb d_Mod_push_10 rfl (lv_at hl 0 rfl) ?_
  refine w_getf (q := 95) (k := 138) (t := 12) (C := R_Mod) (T := F_Mod) (N := 167) hx hb hT hown hK hW ko_0.1 ko_0.2 (by decide) in_Mod rfl rfl (by decide) rfl fr_Mod_138 w_9_74 d_Mod_push_11 rfl ?_
  refine lv_aload_n hx hb d_Mod_push_14 rfl (lv_at hl 0 rfl) ?_
  refine w_geti (k := 139) (t := 12) (C := R_Mod) (T := F_Mod) (N := 167) hx hb hT hown hK hW ko_0.1 ko_0.2 (by decide) in_Mod rfl rfl (by decide) rfl fr_Mod_139 w_9_75 d_Mod_push_15 ?_
  refine lv_iload_n hx hb d_Mod_push_18 rfl (lv_at hl 2 rfl) ?_
  obtain ⟨hi, hw⟩ := hw
  refine w_iast (o := 95) hx hb hK hW hS ko_95.1 ko_95.2 hi d_Mod_push_19 (fun H locs hW hS => ?_)
  obtain ⟨x2135, ex2135⟩ : ∃ y : St, y = setA x2134 95 (fI x2134 0 139) l2 := ⟨_, rfl⟩
  rw [← ex2135] at hW
  have hw := hw x2135 ex2135
  refine lv_aload_n hx hb d_Mod_push_20 rfl (lv_at hl 0 rfl) ?_
  refine lv_dup hx hb d_Mod_push_21 rfl ?_
  refine w_geti (k := 139) (t := 12) (C := R_Mod) (T := F_Mod) (N := 167) hx hb hT hown hK hW ko_0.1 ko_0.2 (by decide) in_Mod rfl rfl (by decide) rfl fr_Mod_139 w_9_75 d_Mod_push_22 ?_
  refine lv_iconst (v := 1) hx hb d_Mod_push_25 (by decide) ?_
  refine lv_iadd hx hb d_Mod_push_26 ?_
  refine w_puti (ty := .int) (k := 139) (t := 12) (C := R_Mod) (T := F_Mod) (N := 167) hx hb hT hown hK hW hS ko_0.1 ko_0.2 (by decide) in_Mod t_Mod t_Mod_ok n_Mod rfl rfl (by decide) rfl fr_Mod_139 w_9_75 (by decide +kernel) rfl rfl d_Mod_push_27 (fun H locs hW hS => ?_)
  obtain ⟨x2136, ex2136⟩ : ∃ y : St, y = setI x2135 0 139 ((fI x2135 0 139) + 1) := ⟨_, rfl⟩
  rw [← ex2136] at hW
  have hw := hw x2136 ex2136
  exact hret x2136 H locs 30 ls d_Mod_push_30 hw hW hS
set_option maxHeartbeats 4000000 in
set_option maxRecDepth 100000 in
theorem k_Mod_push (l : Launch) (dC : Nat → ClassId) (dI : Nat → Nat → Nat) (cI cB cJ cZ : ClassId) (ad : Nat → Nat) (sz : Nat) (l1 : Int32) (l2 : Int32) (x : St) {post : St → Prop} (hw : wp_Mod_push post l1 l2 x) : Met l y_Mod_push (wsOf y_Mod_push b_Mod_push 3 (none)) ({ frames := 0, cells := 0, slots := 0, locals := 0 }) (va_Pc [.ref (ad 0), .int l1, .int l2] (PW dC dI cI cB cJ cZ ad stM kcM 115 sz x)) (va_Qv (fun (y : St) => post y) (fun y t => Wd dC dI cI cB cJ cZ ad stM kcM 115 (va_A (pic ad stM kcM 115 cI cB cJ cZ x) sz) y t.heap) (va_A (pic ad stM kcM 115 cI cB cJ cZ x) sz)) 0 0 (va_A (pic ad stM kcM 115 cI cB cJ cZ x) sz) := by
  refine Met.ofW (cc := b_Mod_push) (maxL := 3) (ret := none) (by decide) rfl ?_
  intro p e s m args below meth c s₁ B hml hv
  obtain ⟨rfl, hsz, hW0, hK, hN⟩ := hv
  have hx := B.exec
  have hb := B.bytes
  have hr := B.returns
  have hts := atoms_spec B.pre
  have hT : ∀ w ∈ TG, w.before _ s = true := fun w h => hts w (List.mem_cons_of_mem _ h)
  have hown : s.vm.findClass R_Mod = some m.cls := findClass_of_methodNamed B.named
  have hlocks := B.notSynchronized
  subst hsz
  have hW : Wd dC dI cI cB cJ cZ ad stM kcM 115 (va_A (pic ad stM kcM 115 cI cB cJ cZ x) s.heap.size) x s.heap := ⟨hW0.1, hW0.2.1.self (sz := s.heap.size), hW0.2.2⟩
  generalize hAe : va_A (pic ad stM kcM 115 cI cB cJ cZ x) s.heap.size = A at hW ⊢
  have hA : ∀ q : Nat, s.heap.size ≤ q → A q := fun q h => by rw [← hAe]; exact Or.inr h
  have hS : va_S A s.heap s.heap [] := va_S.rf
  have hl := lv_entry ([.ref (ad 0), .int l1, .int l2]) (n := 3) (Nat.le_of_ble_eq_true rfl)
  rw [lg_entry_eq]
  generalize (lg_sl ([.ref (ad 0), .int l1, .int l2]) ++ List.replicate (3 - (lg_sl ([.ref (ad 0), .int l1, .int l2])).length) Slot.unset).toArray = ls at hl ⊢
  have hl : lv_has ls 3 [(0, .ref (ad 0)), (1, .int l1), (2, .int l2)] := hl
  exact t_Mod_push_e hx hb hml hown hT hK hN hA (Nat.le_refl 0) (Nat.le_refl 0) (Nat.le_refl 0) (Nat.le_refl 0) (fun x H locs pc ls hd hp hW hS => W.vret hx hb hr (fun t ht hM => ⟨⟨x, rfl, hp, Wd.back hW ht.symm (fun _ z => z)⟩, hS.F ht⟩) hS.2.2 hd hlocks)  l1 l2 x _ _ ls  hw hW hS hl
set_option maxRecDepth 100000 in
set_option maxHeartbeats 4000000 in
set_option maxRecDepth 100000 in
theorem t_Mod_readTest_71 {p : Program} {l : Launch} {e : Env} {R : Room} {s : State} {m : MethodId} {args : Array Value} {below : List Frame} {meth : Method} {c : Code} {cells slots : Nat} {Q : State → Prop} {dC : Nat → ClassId} {dI : Nat → Nat → Nat} {cI cB cJ cZ : ClassId} {A : Nat → Prop} {ad : Nat → Nat} {post : St → Prop} {rec0 : St → Prop} (hx : p.tables.exec = Jvm.exec) (hb : c.code = b_Mod_readTest) (hml : c.maxLocals = 3) (hown : s.vm.findClass R_Mod = some m.cls) (hT : ∀ w ∈ TG, w.before args s = true) (hK : va_K (dC, dI) CL (TY cI cB cJ cZ) s) (hN : NW s) (hA : ∀ q : Nat, s.heap.size ≤ q → A q) (hRc : cells ≤ R.cells) (hRs : slots ≤ R.slots) (hRf : 7 ≤ R.frames) (hRl : 164 ≤ R.locals) (hret : ∀ (x : St) (H : Heap) (locs : List Loc) (pc : Nat) (ls : Array Slot), decode b_Mod_readTest pc = .ok (.return_, 1) → post x → Wd dC dI cI cB cJ cZ ad stM kcM 115 A x H → va_S A s.heap H locs → W p l e R s m args below meth c H locs cells slots Q (F0 m pc ls [])) (hrec0 : ∀  (x : St) (H : Heap) (locs : List Loc) (ls : Array Slot), rec0  x → Wd dC dI cI cB cJ cZ ad stM kcM 115 A x H → va_S A s.heap H locs → lv_has ls 3 [(0, .ref (ad 0))] → W p l e R s m args below meth c H locs cells slots Q (F0 m 0 ls [])) : ∀ (l1 : Int32) (l2 : Int32) (x : St) (H : Heap) (locs : List Loc) (ls : Array Slot), j_Mod_readTest_71 post rec0 l1 l2 x → Wd dC dI cI cB cJ cZ ad stM kcM 115 A x H → va_S A s.heap H locs → lv_has ls 3 [(0, .ref (ad 0)), (1, .int l1), (2, .int l2)] → W p l e R s m args below meth c H locs cells slots Q (F0 m 71 ls []) := by
  intro l1 l2 x H locs ls  hw hW hS hl
  unfold j_Mod_readTest_71 at hw
  refine lv_aload_n hx hb d_Mod_readTest_71 rfl (lv_at hl 0 rfl) ?_
  refine lv_dup hx hb d_Mod_readTest_72 rfl ?_
  refine w_geti (k := 140) (t := 12) (C := R_Mod) (T := F_Mod) (N := 167) hx hb hT hown hK hW ko_0.1 ko_0.2 (by decide) in_Mod rfl rfl (by decide) rfl fr_Mod_140 w_9_76 d_Mod_readTest_73 ?_
  refine lv_iconst (v := 1) hx hb d_Mod_readTest_76 (by decide) ?_
  refine lv_iadd hx hb d_Mod_readTest_77 ?_
  refine w_puti (ty := .int) (k := 140) (t := 12) (C := R_Mod) (T := F_Mod) (N := 167) hx hb hT hown hK hW hS ko_0.1 ko_0.2 (by decide) in_Mod t_Mod t_Mod_ok n_Mod rfl rfl (by decide) rfl fr_Mod_140 w_9_76 (by decide +kernel) rfl rfl d_Mod_readTest_78 (fun H locs hW hS => ?_)
  obtain ⟨x2137, ex2137⟩ : ∃ y : St, y = setI x 0 140 ((fI x 0 140) + 1) := ⟨_, rfl⟩
  rw [← ex2137] at hW
  have hw := hw x2137 ex2137
  refine lv_aload_n hx hb d_Mod_readTest_81 rfl (lv_at hl 0 rfl) ?_
  refine lv_iload_n hx hb d_Mod_readTest_82 rfl (lv_at hl 2 rfl) ?_
  refine lv_iload_n hx hb d_Mod_readTest_83 rfl (lv_at hl 1 rfl) ?_
  have hF := hW.free hS hA
  refine va_callv (va_runV (C := R_Mod) (As := [.int l2, .int l1]) (rest := []) ⟨hx, hb, hml, hown, hT⟩ (k_Mod_push l dC dI cI cB cJ cZ ad H.size l2 l1 x2137  hw) ⟨callB_of 2 hT (gwt_in w_13_179) rfl rfl rfl (hT _ w_1_15) (hT _ w_13_176) (by decide +kernel) ⟨Nat.le_trans (Nat.le_of_ble_eq_true rfl) hRf, Nat.le_trans (Nat.le_of_ble_eq_true rfl) hRl⟩, hT _ w_13_178, hT _ ws_247⟩ ⟨PW.blind, va_recv hK hW.1 (ci := 12) (q0 := 0) rfl (pic_obj ko_0.1 ko_0.2 (by decide)), PW.at _ hW hK hN⟩ rfl rfl hl.1 rfl (lv_room (Nat.le_of_ble_eq_true rfl)) d_Mod_readTest_84 ⟨hRc, hRs⟩) hS (fun q _ h => hF q h) hF (fun  x2138 t H locs ht hvm hw hB hz1 hk1 hS => ?_)
  have hW := Wd.back hB ht hF
  clear hB ht hF hz1 hk1 hvm
  refine lv_goto (tgt := 0) hx hb d_Mod_readTest_87 (by decide) ?_
  exact hrec0  x2138 H locs ls  hw hW hS (lv_sub hl [0] rfl)
set_option maxRecDepth 100000 in
set_option maxHeartbeats 4000000 in
set_option maxRecDepth 100000 in
theorem t_Mod_readTest_45 {p : Program} {l : Launch} {e : Env} {R : Room} {s : State} {m : MethodId} {args : Array Value} {below : List Frame} {meth : Method} {c : Code} {cells slots : Nat} {Q : State → Prop} {dC : Nat → ClassId} {dI : Nat → Nat → Nat} {cI cB cJ cZ : ClassId} {A : Nat → Prop} {ad : Nat → Nat} {post : St → Prop} {rec0 : St → Prop} (hx : p.tables.exec = Jvm.exec) (hb : c.code = b_Mod_readTest) (hml : c.maxLocals = 3) (hown : s.vm.findClass R_Mod = some m.cls) (hT : ∀ w ∈ TG, w.before args s = true) (hK : va_K (dC, dI) CL (TY cI cB cJ cZ) s) (hN : NW s) (hA : ∀ q : Nat, s.heap.size ≤ q → A q) (hRc : cells ≤ R.cells) (hRs : slots ≤ R.slots) (hRf : 7 ≤ R.frames) (hRl : 164 ≤ R.locals) (hret : ∀ (x : St) (H : Heap) (locs : List Loc) (pc : Nat) (ls : Array Slot), decode b_Mod_readTest pc = .ok (.return_, 1) → post x → Wd dC dI cI cB cJ cZ ad stM kcM 115 A x H → va_S A s.heap H locs → W p l e R s m args below meth c H locs cells slots Q (F0 m pc ls [])) (hrec0 : ∀  (x : St) (H : Heap) (locs : List Loc) (ls : Array Slot), rec0  x → Wd dC dI cI cB cJ cZ ad stM kcM 115 A x H → va_S A s.heap H locs → lv_has ls 3 [(0, .ref (ad 0))] → W p l e R s m args below meth c H locs cells slots Q (F0 m 0 ls [])) : ∀ (l1 : Int32) (s0 : Int32) (x : St) (H : Heap) (locs : List Loc) (ls : Array Slot), j_Mod_readTest_45 post rec0 l1 s0 x → Wd dC dI cI cB cJ cZ ad stM kcM 115 A x H → va_S A s.heap H locs → lv_has ls 3 [(0, .ref (ad 0)), (1, .int l1)] → W p l e R s m args below meth c H locs cells slots Q (F0 m 45 ls [.int s0]) := by
  intro l1 s0 x H locs ls  hw hW hS hl
  unfold j_Mod_readTest_45 at hw
  refine lv_istore_n (lv' := [(2, .int s0), (0, .ref (ad 0)), (1, .int l1)]) hx hb d_Mod_readTest_45 rfl hl (by decide) rfl (fun ls hl => ?_)
  refine lv_iload_n hx hb d_Mod_readTest_46 rfl (lv_at hl 0 rfl) ?_
  refine lv_iconst (v := (-1)) hx hb d_Mod_readTest_47 (by decide) ?_
  refine lv_icmp_ne (tgt := 57) hx hb d_Mod_readTest_48 (by decide) (fun c2139 => ?_) (fun c2139 => ?_)
  · have hw := hw.1 c2139
    refine lv_aload_n hx hb d_Mod_readTest_57 rfl (lv_at hl 1 rfl) ?_
    refine w_geti (k := 140) (t := 12) (C := R_Mod) (T := F_Mod) (N := 167) hx hb hT hown hK hW ko_0.1 ko_0.2 (by decide) in_Mod rfl rfl (by decide) rfl fr_Mod_140 w_9_76 d_Mod_readTest_58 ?_
    refine lv_bipush (v := 32) hx hb d_Mod_readTest_61 (by decide) ?_
    refine lv_icmp_ne (tgt := 71) hx hb d_Mod_readTest_63 (by decide) (fun c2140 => ?_) (fun c2140 => ?_)
    · have hw := hw.1 c2140
      exact t_Mod_readTest_71 hx hb hml hown hT hK hN hA hRc hRs hRf hRl hret hrec0 l1 s0 x H locs ls  hw hW hS (lv_sub hl [1, 2, 0] rfl)
    · have hw := hw.2 c2140
      refine lv_aload_n hx hb d_Mod_readTest_66 rfl (lv_at hl 1 rfl) ?_
      refine lv_iload_n hx hb d_Mod_readTest_67 rfl (lv_at hl 2 rfl) ?_
      have hF := hW.free hS hA
      refine va_callv (va_runV (C := R_Mod) (As := [.int l1]) (rest := []) ⟨hx, hb, hml, hown, hT⟩ (k_Mod_fail l dC dI cI cB cJ cZ ad H.size l1 x  hw) ⟨callB_of 1 hT (gwt_in w_11_14) rfl rfl rfl (hT _ w_1_15) (hT _ w_11_11) (by decide +kernel) ⟨Nat.le_trans (Nat.le_of_ble_eq_true rfl) hRf, Nat.le_trans (Nat.le_of_ble_eq_true rfl) hRl⟩, hT _ w_11_13, hT _ ws_115⟩ ⟨PW.blind, va_recv hK hW.1 (ci := 12) (q0 := 0) rfl (pic_obj ko_0.1 ko_0.2 (by decide)), PW.at _ hW hK hN⟩ rfl rfl hl.1 rfl (lv_room (Nat.le_of_ble_eq_true rfl)) d_Mod_readTest_68 ⟨hRc, hRs⟩) hS (fun q _ h => hF q h) hF (fun  x2141 t H locs ht hvm hw hB hz1 hk1 hS => ?_)
      have hW := Wd.back hB ht hF
      clear hB ht hF hz1 hk1 hvm
      exact t_Mod_readTest_71 hx hb hml hown hT hK hN hA hRc hRs hRf hRl hret hrec0 l1 s0 x2141 H locs ls  hw hW hS (lv_sub hl [1, 2, 0] rfl)
  · have hw := hw.2 c2139
    refine lv_aload_n hx hb d_Mod_readTest_51 rfl (lv_at hl 1 rfl) ?_
    refine lv_iload_n hx hb d_Mod_readTest_52 rfl (lv_at hl 2 rfl) ?_
    have hF := hW.free hS hA
    refine va_callv (va_runV (C := R_Mod) (As := [.int l1]) (rest := []) ⟨hx, hb, hml, hown, hT⟩ (k_Mod_readAsked l dC dI cI cB cJ cZ ad H.size l1 x  hw) ⟨callB_of 1 hT (gwt_in w_13_163) rfl rfl rfl (hT _ w_1_15) (hT _ w_13_160) (by decide +kernel) ⟨Nat.le_trans (Nat.le_of_ble_eq_true rfl) hRf, Nat.le_trans (Nat.le_of_ble_eq_true rfl) hRl⟩, hT _ w_13_162, hT _ ws_243⟩ ⟨PW.blind, va_recv hK hW.1 (ci := 12) (q0 := 0) rfl (pic_obj ko_0.1 ko_0.2 (by decide)), PW.at _ hW hK hN⟩ rfl rfl hl.1 rfl (lv_room (Nat.le_of_ble_eq_true rfl)) d_Mod_readTest_53 ⟨hRc, hRs⟩) hS (fun q _ h => hF q h) hF (fun  x2142 t H locs ht hvm hw hB hz1 hk1 hS => ?_)
    have hW := Wd.back hB ht hF
    clear hB ht hF hz1 hk1 hvm
    exact hret x2142 H locs 56 ls d_Mod_readTest_56 hw hW hS
set_option maxRecDepth 100000 in
set_option maxHeartbeats 4000000 in
set_option maxRecDepth 100000 in
theorem t_Mod_readTest_0 {p : Program} {l : Launch} {e : Env} {R : Room} {s : State} {m : MethodId} {args : Array Value} {below : List Frame} {meth : Method} {c : Code} {cells slots : Nat} {Q : State → Prop} {dC : Nat → ClassId} {dI : Nat → Nat → Nat} {cI cB cJ cZ : ClassId} {A : Nat → Prop} {ad : Nat → Nat} {post : St → Prop} {rec0 : St → Prop} (hx : p.tables.exec = Jvm.exec) (hb : c.code = b_Mod_readTest) (hml : c.maxLocals = 3) (hown : s.vm.findClass R_Mod = some m.cls) (hT : ∀ w ∈ TG, w.before args s = true) (hK : va_K (dC, dI) CL (TY cI cB cJ cZ) s) (hN : NW s) (hA : ∀ q : Nat, s.heap.size ≤ q → A q) (hRc : cells ≤ R.cells) (hRs : slots ≤ R.slots) (hRf : 7 ≤ R.frames) (hRl : 164 ≤ R.locals) (hret : ∀ (x : St) (H : Heap) (locs : List Loc) (pc : Nat) (ls : Array Slot), decode b_Mod_readTest pc = .ok (.return_, 1) → post x → Wd dC dI cI cB cJ cZ ad stM kcM 115 A x H → va_S A s.heap H locs → W p l e R s m args below meth c H locs cells slots Q (F0 m pc ls [])) (hrec0 : ∀  (x : St) (H : Heap) (locs : List Loc) (ls : Array Slot), rec0  x → Wd dC dI cI cB cJ cZ ad stM kcM 115 A x H → va_S A s.heap H locs → lv_has ls 3 [(0, .ref (ad 0))] → W p l e R s m args below meth c H locs cells slots Q (F0 m 0 ls [])) : ∀  (x : St) (H : Heap) (locs : List Loc) (ls : Array Slot), j_Mod_readTest_0 post rec0  x → Wd dC dI cI cB cJ cZ ad stM kcM 115 A x H → va_S A s.heap H locs → lv_has ls 3 [(0, .ref (ad 0))] → W p l e R s m args below meth c H locs cells slots Q (F0 m 0 ls []) := by
  intro  x H locs ls  hw hW hS hl
  unfold j_Mod_readTest_0 at hw
  refine lv_aload_n hx hb d_Mod_readTest_0 rfl (lv_at hl 0 rfl) ?_
  refine w_geti (k := 17) (t := 12) (C := R_Mod) (T := F_Mod) (N := 167) hx hb hT hown hK hW ko_0.1 ko_0.2 (by decide) in_Mod rfl rfl (by decide) rfl fr_Mod_17 w_8_193 d_Mod_readTest_1 ?_
  refine lv_iconst (v := (-1)) hx hb d_Mod_readTest_4 (by decide) ?_
  refine lv_icmp_ne (tgt := 90) hx hb d_Mod_readTest_5 (by decide) (fun c2143 => ?_) (fun c2143 => ?_)
  · have hw := hw.1 c2143
    exact hret x H locs 90 ls d_Mod_readTest_90 hw hW hS
  · have hw := hw.2 c2143
    refine lv_aload_n hx hb d_Mod_readTest_8 rfl (lv_at hl 0 rfl) ?_
    have hF := hW.free hS hA
    refine va_callv (va_runV (C := R_Mod) (As := []) (rest := []) ⟨hx, hb, hml, hown, hT⟩ (k_Mod_blanks l dC dI cI cB cJ cZ ad H.size  x  hw) ⟨callB_of 0 hT (gwt_in w_10_230) rfl rfl rfl (hT _ w_1_15) (hT _ w_10_227) (by decide +kernel) ⟨Nat.le_trans (Nat.le_of_ble_eq_true rfl) hRf, Nat.le_trans (Nat.le_of_ble_eq_true rfl) hRl⟩, hT _ w_10_229, hT _ ws_111⟩ ⟨PW.blind, va_recv hK hW.1 (ci := 12) (q0 := 0) rfl (pic_obj ko_0.1 ko_0.2 (by decide)), PW.at _ hW hK hN⟩ rfl rfl hl.1 rfl (lv_room (Nat.le_of_ble_eq_true rfl)) d_Mod_readTest_9 ⟨hRc, hRs⟩) hS (fun q _ h => hF q h) hF (fun  x2144 t H locs ht hvm hw hB hz1 hk1 hS => ?_)
    have hW := Wd.back hB ht hF
    clear hB ht hF hz1 hk1 hvm
    refine lv_aload_n hx hb d_Mod_readTest_12 rfl (lv_at hl 0 rfl) ?_
    refine w_geti (k := 16) (t := 12) (C := R_Mod) (T := F_Mod) (N := 167) hx hb hT hown hK hW ko_0.1 ko_0.2 (by decide) in_Mod rfl rfl (by decide) rfl fr_Mod_16 w_8_192 d_Mod_readTest_13 ?_
    refine lv_topi (fun v2145 ev2145 => ?_)
    have hw := hw v2145 ev2145
    refine lv_istore_n (lv' := [(1, .int v2145), (0, .ref (ad 0))]) hx hb d_Mod_readTest_16 rfl hl (by decide) rfl (fun ls hl => ?_)
    refine lv_aload_n hx hb d_Mod_readTest_17 rfl (lv_at hl 1 rfl) ?_
    refine lv_ldc2 hx hb hown (hT _ w_13_137) d_Mod_readTest_18 ?_
    have hF := hW.free hS hA
    refine va_calli (va_runV (C := R_Mod) (As := [.long 7237492]) (rest := []) ⟨hx, hb, hml, hown, hT⟩ (k_Mod_takesWord l dC dI cI cB cJ cZ ad H.size 7237492 x2144  hw) ⟨callB_of 1 hT (gwt_in w_10_222) rfl rfl rfl (hT _ w_1_15) (hT _ w_10_219) (by decide +kernel) ⟨Nat.le_trans (Nat.le_of_ble_eq_true rfl) hRf, Nat.le_trans (Nat.le_of_ble_eq_true rfl) hRl⟩, hT _ w_10_221, hT _ ws_109⟩ ⟨PW.blind, va_recv hK hW.1 (ci := 12) (q0 := 0) rfl (pic_obj ko_0.1 ko_0.2 (by decide)), PW.at _ hW hK hN⟩ rfl rfl hl.1 rfl (lv_room (Nat.le_of_ble_eq_true rfl)) d_Mod_readTest_21 ⟨hRc, hRs⟩) hS (fun q _ h => hF q h) hF (fun r2147 x2146 t H locs ht hvm hw hB hz1 hk1 hS => ?_)
    have hW := Wd.back hB ht hF
    clear hB ht hF hz1 hk1 hvm
    refine lv_if_eq (tgt := 31) hx hb d_Mod_readTest_24 (by decide) (fun c2148 => ?_) (fun c2148 => ?_)
    · have hw := hw.1 c2148
      refine lv_aload_n hx hb d_Mod_readTest_31 rfl (lv_at hl 1 rfl) ?_
      refine lv_bipush (v := 40) hx hb d_Mod_readTest_32 (by decide) ?_
      have hF := hW.free hS hA
      refine va_calli (va_runV (C := R_Mod) (As := [.int 40]) (rest := []) ⟨hx, hb, hml, hown, hT⟩ (k_Mod_takesSign l dC dI cI cB cJ cZ ad H.size 40 x2146  hw) ⟨callB_of 1 hT (gwt_in w_11_46) rfl rfl rfl (hT _ w_1_15) (hT _ w_11_43) (by decide +kernel) ⟨Nat.le_trans (Nat.le_of_ble_eq_true rfl) hRf, Nat.le_trans (Nat.le_of_ble_eq_true rfl) hRl⟩, hT _ w_11_45, hT _ ws_121⟩ ⟨PW.blind, va_recv hK hW.1 (ci := 12) (q0 := 0) rfl (pic_obj ko_0.1 ko_0.2 (by decide)), PW.at _ hW hK hN⟩ rfl rfl hl.1 rfl (lv_room (Nat.le_of_ble_eq_true rfl)) d_Mod_readTest_34 ⟨hRc, hRs⟩) hS (fun q _ h => hF q h) hF (fun r2150 x2149 t H locs ht hvm hw hB hz1 hk1 hS => ?_)
      have hW := Wd.back hB ht hF
      clear hB ht hF hz1 hk1 hvm
      refine lv_if_eq (tgt := 44) hx hb d_Mod_readTest_37 (by decide) (fun c2151 => ?_) (fun c2151 => ?_)
      · have hw := hw.1 c2151
        refine lv_iconst (v := (-1)) hx hb d_Mod_readTest_44 (by decide) ?_
        exact t_Mod_readTest_45 hx hb hml hown hT hK hN hA hRc hRs hRf hRl hret hrec0 v2145 (-1) x2149 H locs ls  hw hW hS (lv_sub hl [1, 0] rfl)
      · have hw := hw.2 c2151
        refine lv_iconst (v := 0) hx hb d_Mod_readTest_40 (by decide) ?_
        refine lv_goto (tgt := 45) hx hb d_Mod_readTest_41 (by decide) ?_
        exact t_Mod_readTest_45 hx hb hml hown hT hK hN hA hRc hRs hRf hRl hret hrec0 v2145 0 x2149 H locs ls  hw hW hS (lv_sub hl [1, 0] rfl)
    · have hw := hw.2 c2148
      refine lv_iconst (v := 1) hx hb d_Mod_readTest_27 (by decide) ?_
      refine lv_goto (tgt := 45) hx hb d_Mod_readTest_28 (by decide) ?_
      exact t_Mod_readTest_45 hx hb hml hown hT hK hN hA hRc hRs hRf hRl hret hrec0 v2145 1 x2146 H locs ls  hw hW hS (lv_sub hl [1, 0] rfl)
set_option maxHeartbeats 4000000 in
set_option maxRecDepth 100000 in
theorem tl_Mod_readTest_0 {p : Program} {l : Launch} {e : Env} {R : Room} {s : State} {m : MethodId} {args : Array Value} {below : List Frame} {meth : Method} {c : Code} {cells slots : Nat} {Q : State → Prop} {dC : Nat → ClassId} {dI : Nat → Nat → Nat} {cI cB cJ cZ : ClassId} {A : Nat → Prop} {ad : Nat → Nat} {post : St → Prop} (hx : p.tables.exec = Jvm.exec) (hb : c.code = b_Mod_readTest) (hml : c.maxLocals = 3) (hown : s.vm.findClass R_Mod = some m.cls) (hT : ∀ w ∈ TG, w.before args s = true) (hK : va_K (dC, dI) CL (TY cI cB cJ cZ) s) (hN : NW s) (hA : ∀ q : Nat, s.heap.size ≤ q → A q) (hRc : cells ≤ R.cells) (hRs : slots ≤ R.slots) (hRf : 7 ≤ R.frames) (hRl : 164 ≤ R.locals) (hret : ∀ (x : St) (H : Heap) (locs : List Loc) (pc : Nat) (ls : Array Slot), decode b_Mod_readTest pc = .ok (.return_, 1) → post x → Wd dC dI cI cB cJ cZ ad stM kcM 115 A x H → va_S A s.heap H locs → W p l e R s m args below meth c H locs cells slots Q (F0 m pc ls []))  : ∀ n : Nat, ∀  (x : St) (H : Heap) (locs : List Loc) (ls : Array Slot), wl_Mod_readTest_0 post n  x → Wd dC dI cI cB cJ cZ ad stM kcM 115 A x H → va_S A s.heap H locs → lv_has ls 3 [(0, .ref (ad 0))] → W p l e R s m args below meth c H locs cells slots Q (F0 m 0 ls []) := by
  intro n
  induction n with
  | zero => intro  x H locs ls  hw; exact hw.elim
  | succ n ih => intro  x H locs ls  hw hW hS hl; exact t_Mod_readTest_0 hx hb hml hown hT hK hN hA hRc hRs hRf hRl hret  ih  x H locs ls  hw hW hS hl
set_option maxRecDepth 100000 in
set_option maxHeartbeats 4000000 in
set_option maxRecDepth 100000 in
theorem t_Mod_readTest_e {p : Program} {l : Launch} {e : Env} {R : Room} {s : State} {m : MethodId} {args : Array Value} {below : List Frame} {meth : Method} {c : Code} {cells slots : Nat} {Q : State → Prop} {dC : Nat → ClassId} {dI : Nat → Nat → Nat} {cI cB cJ cZ : ClassId} {A : Nat → Prop} {ad : Nat → Nat} {post : St → Prop} (hx : p.tables.exec = Jvm.exec) (hb : c.code = b_Mod_readTest) (hml : c.maxLocals = 3) (hown : s.vm.findClass R_Mod = some m.cls) (hT : ∀ w ∈ TG, w.before args s = true) (hK : va_K (dC, dI) CL (TY cI cB cJ cZ) s) (hN : NW s) (hA : ∀ q : Nat, s.heap.size ≤ q → A q) (hRc : cells ≤ R.cells) (hRs : slots ≤ R.slots) (hRf : 7 ≤ R.frames) (hRl : 164 ≤ R.locals) (hret : ∀ (x : St) (H : Heap) (locs : List Loc) (pc : Nat) (ls : Array Slot), decode b_Mod_readTest pc = .ok (.return_, 1) → post x → Wd dC dI cI cB cJ cZ ad stM kcM 115 A x H → va_S A s.heap H locs → W p l e R s m args below meth c H locs cells slots Q (F0 m pc ls [])) : ∀  (x : St) (H : Heap) (locs : List Loc) (ls : Array Slot), wp_Mod_readTest post  x → Wd dC dI cI cB cJ cZ ad stM kcM 115 A x H → va_S A s.heap H locs → lv_has ls 3 [(0, .ref (ad 0))] → W p l e R s m args below meth c H locs cells slots Q (F0 m 0 ls []) := by
  intro  x H locs ls  hw hW hS hl
  unfold wp_Mod_readTest at hw
  obtain ⟨n, hw⟩ := hw
  exact tl_Mod_readTest_0 hx hb hml hown hT hK hN hA hRc hRs hRf hRl hret  n  x H locs ls  hw hW hS (lv_sub hl [0] rfl)
set_option maxHeartbeats 4000000 in
set_option maxRecDepth 100000 in
theorem k_Mod_readTest (l : Launch) (dC : Nat → ClassId) (dI : Nat → Nat → Nat) (cI cB cJ cZ : ClassId) (ad : Nat → Nat) (sz : Nat)  (x : St) {post : St → Prop} (hw : wp_Mod_readTest post  x) : Met l y_Mod_readTest (wsOf y_Mod_readTest b_Mod_readTest 3 (none)) ({ frames := 7, cells := 0, slots := 0, locals := 164 }) (va_Pc [.ref (ad 0)] (PW dC dI cI cB cJ cZ ad stM kcM 115 sz x)) (va_Qv (fun (y : St) => post y) (fun y t => Wd dC dI cI cB cJ cZ ad stM kcM 115 (va_A (pic ad stM kcM 115 cI cB cJ cZ x) sz) y t.heap) (va_A (pic ad stM kcM 115 cI cB cJ cZ x) sz)) 0 0 (va_A (pic ad stM kcM 115 cI cB cJ cZ x) sz) := by
  refine Met.ofW (cc := b_Mod_readTest) (maxL := 3) (ret := none) (by decide) rfl ?_
  intro p e s m args below meth c s₁ B hml hv
  obtain ⟨rfl, hsz, hW0, hK, hN⟩ := hv
  have hx := B.exec
  have hb := B.bytes
  have hr := B.returns
  have hts := atoms_spec B.pre
  have hT : ∀ w ∈ TG, w.before _ s = true := fun w h => hts w (List.mem_cons_of_mem _ h)
  have hown : s.vm.findClass R_Mod = some m.cls := findClass_of_methodNamed B.named
  have hlocks := B.notSynchronized
  subst hsz
  have hW : Wd dC dI cI cB cJ cZ ad stM kcM 115 (va_A (pic ad stM kcM 115 cI cB cJ cZ x) s.heap.size) x s.heap := ⟨hW0.1, hW0.2.1.self (sz := s.heap.size), hW0.2.2⟩
  generalize hAe : va_A (pic ad stM kcM 115 cI cB cJ cZ x) s.heap.size = A at hW ⊢
  have hA : ∀ q : Nat, s.heap.size ≤ q → A q := fun q h => by rw [← hAe]; exact Or.inr h
  have hS : va_S A s.heap s.heap [] := va_S.rf
  have hl := lv_entry ([.ref (ad 0)]) (n := 3) (Nat.le_of_ble_eq_true rfl)
  rw [lg_entry_eq]
  generalize (lg_sl ([.ref (ad 0)]) ++ List.replicate (3 - (lg_sl ([.ref (ad 0)])).length) Slot.unset).toArray = ls at hl ⊢
  have hl : lv_has ls 3 [(0, .ref (ad 0))] := hl
  exact t_Mod_readTest_e hx hb hml hown hT hK hN hA (Nat.le_refl 0) (Nat.le_refl 0) (Nat.le_refl 7) (Nat.le_refl 164) (fun x H locs pc ls hd hp hW hS => W.vret hx hb hr (fun t ht hM => ⟨⟨x, rfl, hp, Wd.back hW ht.symm (fun _ z => z)⟩, hS.F ht⟩) hS.2.2 hd hlocks)   x _ _ ls  hw hW hS hl
end
