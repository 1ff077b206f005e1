theorem w_13_220 : (Jvm.Cond.methodLink "StripedVaultModel" (1101 : Nat) ({ cls := "StripedVaultModel", name := "canMeet", desc := "(IIII)Z" } : Jvm.MethodName)) ∈ TG := tw_13 220 (by decide +kernel) (by decide +kernel)
theorem w_13_222 : (Jvm.Cond.instanceMethod ({ cls := "StripedVaultModel", name := "canMeet", desc := "(IIII)Z" } : Jvm.MethodName)) ∈ TG := tw_13 222 (by decide +kernel) (by decide +kernel)
theorem w_13_223 : (Jvm.Cond.code ({ cls := "StripedVaultModel", name := "canMeet", desc := "(IIII)Z" } : Jvm.MethodName) prog_14_method_185_code (7 : Nat) (Option.some Jvm.ClassFile.FieldType.boolean)) ∈ TG := tw_13 223 (by decide +kernel) (by decide +kernel)
theorem w_13_227 : (Jvm.Cond.methodLink "StripedVaultModel" (1105 : Nat) ({ cls := "StripedVaultModel", name := "contrary", desc := "(I)I" } : Jvm.MethodName)) ∈ TG := tw_13 227 (by decide +kernel) (by decide +kernel)
theorem w_13_228 : (Jvm.Cond.static ({ cls := "StripedVaultModel", name := "contrary", desc := "(I)I" } : Jvm.MethodName)) ∈ TG := tw_13 228 (by decide +kernel) (by decide +kernel)
theorem w_13_229 : (Jvm.Cond.code ({ cls := "StripedVaultModel", name := "contrary", desc := "(I)I" } : Jvm.MethodName) prog_14_method_178_code (1 : Nat) (Option.some Jvm.ClassFile.FieldType.int)) ∈ TG := tw_13 229 (by decide +kernel) (by decide +kernel)
theorem w_13_230 : (Jvm.Cond.methodLink "StripedVaultModel" (1108 : Nat) ({ cls := "StripedVaultModel", name := "canCompare", desc := "(III)Z" } : Jvm.MethodName)) ∈ TG := tw_13 230 (by decide +kernel) (by decide +kernel)
theorem w_13_232 : (Jvm.Cond.instanceMethod ({ cls := "StripedVaultModel", name := "canCompare", desc := "(III)Z" } : Jvm.MethodName)) ∈ TG := tw_13 232 (by decide +kernel) (by decide +kernel)
theorem w_13_233 : (Jvm.Cond.code ({ cls := "StripedVaultModel", name := "canCompare", desc := "(III)Z" } : Jvm.MethodName) prog_14_method_184_code (7 : Nat) (Option.some Jvm.ClassFile.FieldType.boolean)) ∈ TG := tw_13 233 (by decide +kernel) (by decide +kernel)
theorem w_13_238 : (Jvm.Cond.methodLink "StripedVaultModel" (1111 : Nat) ({ cls := "StripedVaultModel", name := "mayBe", desc := "(II)Z" } : Jvm.MethodName)) ∈ TG := tw_13 238 (by decide +kernel) (by decide +kernel)
theorem w_14_0 : (Jvm.Cond.instanceMethod ({ cls := "StripedVaultModel", name := "mayBe", desc := "(II)Z" } : Jvm.MethodName)) ∈ TG := tw_14 0 (by decide +kernel) (by decide +kernel)
theorem w_14_1 : (Jvm.Cond.code ({ cls := "StripedVaultModel", name := "mayBe", desc := "(II)Z" } : Jvm.MethodName) prog_14_method_183_code (5 : Nat) (Option.some Jvm.ClassFile.FieldType.boolean)) ∈ TG := tw_14 1 (by decide +kernel) (by decide +kernel)
theorem w_14_2 : (Jvm.Cond.methodLink "StripedVaultModel" (1114 : Nat) ({ cls := "StripedVaultModel", name := "canBeOther", desc := "(II)Z" } : Jvm.MethodName)) ∈ TG := tw_14 2 (by decide +kernel) (by decide +kernel)
theorem w_14_4 : (Jvm.Cond.instanceMethod ({ cls := "StripedVaultModel", name := "canBeOther", desc := "(II)Z" } : Jvm.MethodName)) ∈ TG := tw_14 4 (by decide +kernel) (by decide +kernel)
theorem w_14_5 : (Jvm.Cond.code ({ cls := "StripedVaultModel", name := "canBeOther", desc := "(II)Z" } : Jvm.MethodName) prog_14_method_186_code (9 : Nat) (Option.some Jvm.ClassFile.FieldType.boolean)) ∈ TG := tw_14 5 (by decide +kernel) (by decide +kernel)
theorem ws_257 : Cond.selects R_Mod y_Mod_canMeet y_Mod_canMeet ∈ TG := tw_s 257 (by decide +kernel) (by decide +kernel)
theorem ws_258 : Cond.selects R_Mod y_Mod_canCompare y_Mod_canCompare ∈ TG := tw_s 258 (by decide +kernel) (by decide +kernel)
theorem ws_260 : Cond.selects R_Mod y_Mod_mayBe y_Mod_mayBe ∈ TG := tw_s 260 (by decide +kernel) (by decide +kernel)
theorem ws_261 : Cond.selects R_Mod y_Mod_canBeOther y_Mod_canBeOther ∈ TG := tw_s 261 (by decide +kernel) (by decide +kernel)
theorem d_Mod_mayBe_83 : decode b_Mod_mayBe 83 = .ok (.istore_n 3, 1) := by decide +kernel
theorem d_Mod_mayBe_84 : decode b_Mod_mayBe 84 = .ok (.iinc 4 1, 3) := by decide +kernel
theorem d_Mod_mayBe_87 : decode b_Mod_mayBe 87 = .ok (.goto (-41), 3) := by decide +kernel
theorem d_Mod_mayBe_78 : decode b_Mod_mayBe 78 = .ok (.iconst 1, 1) := by decide +kernel
theorem d_Mod_mayBe_79 : decode b_Mod_mayBe 79 = .ok (.goto 4, 3) := by decide +kernel
theorem d_Mod_mayBe_46 : decode b_Mod_mayBe 46 = .ok (.iload 4, 2) := by decide +kernel
theorem d_Mod_mayBe_48 : decode b_Mod_mayBe 48 = .ok (.aload_n 0, 1) := by decide +kernel
theorem d_Mod_mayBe_49 : decode b_Mod_mayBe 49 = .ok (.getfield 321, 3) := by decide +kernel
theorem d_Mod_mayBe_52 : decode b_Mod_mayBe 52 = .ok (.iload_n 1, 1) := by decide +kernel
theorem d_Mod_mayBe_53 : decode b_Mod_mayBe 53 = .ok (.iaload, 1) := by decide +kernel
theorem d_Mod_mayBe_54 : decode b_Mod_mayBe 54 = .ok (.if_icmp .ge 36, 3) := by decide +kernel
theorem d_Mod_mayBe_90 : decode b_Mod_mayBe 90 = .ok (.iload_n 3, 1) := by decide +kernel
theorem d_Mod_mayBe_91 : decode b_Mod_mayBe 91 = .ok (.ireturn, 1) := by decide +kernel
theorem d_Mod_mayBe_57 : decode b_Mod_mayBe 57 = .ok (.iload_n 3, 1) := by decide +kernel
theorem d_Mod_mayBe_58 : decode b_Mod_mayBe 58 = .ok (.ifCond .ne 20, 3) := by decide +kernel
theorem d_Mod_mayBe_61 : decode b_Mod_mayBe 61 = .ok (.aload_n 0, 1) := by decide +kernel
theorem d_Mod_mayBe_62 : decode b_Mod_mayBe 62 = .ok (.aload_n 0, 1) := by decide +kernel
theorem d_Mod_mayBe_63 : decode b_Mod_mayBe 63 = .ok (.getfield 318, 3) := by decide +kernel
theorem d_Mod_mayBe_66 : decode b_Mod_mayBe 66 = .ok (.iload_n 1, 1) := by decide +kernel
theorem d_Mod_mayBe_67 : decode b_Mod_mayBe 67 = .ok (.iaload, 1) := by decide +kernel
theorem d_Mod_mayBe_68 : decode b_Mod_mayBe 68 = .ok (.iload 4, 2) := by decide +kernel
theorem d_Mod_mayBe_70 : decode b_Mod_mayBe 70 = .ok (.iadd, 1) := by decide +kernel
theorem d_Mod_mayBe_71 : decode b_Mod_mayBe 71 = .ok (.iload_n 2, 1) := by decide +kernel
theorem d_Mod_mayBe_72 : decode b_Mod_mayBe 72 = .ok (.invokevirtual 1086, 3) := by decide +kernel
theorem d_Mod_mayBe_75 : decode b_Mod_mayBe 75 = .ok (.ifCond .ne 7, 3) := by decide +kernel
theorem d_Mod_mayBe_82 : decode b_Mod_mayBe 82 = .ok (.iconst 0, 1) := by decide +kernel
theorem d_Mod_mayBe_42 : decode b_Mod_mayBe 42 = .ok (.istore_n 3, 1) := by decide +kernel
theorem d_Mod_mayBe_43 : decode b_Mod_mayBe 43 = .ok (.iconst 0, 1) := by decide +kernel
theorem d_Mod_mayBe_44 : decode b_Mod_mayBe 44 = .ok (.istore 4, 2) := by decide +kernel
theorem d_Mod_mayBe_41 : decode b_Mod_mayBe 41 = .ok (.iconst 0, 1) := by decide +kernel
theorem d_Mod_mayBe_0 : decode b_Mod_mayBe 0 = .ok (.aload_n 0, 1) := by decide +kernel
theorem d_Mod_mayBe_1 : decode b_Mod_mayBe 1 = .ok (.getfield 321, 3) := by decide +kernel
theorem d_Mod_mayBe_4 : decode b_Mod_mayBe 4 = .ok (.iload_n 1, 1) := by decide +kernel
theorem d_Mod_mayBe_5 : decode b_Mod_mayBe 5 = .ok (.iaload, 1) := by decide +kernel
theorem d_Mod_mayBe_6 : decode b_Mod_mayBe 6 = .ok (.ifCond .ne 35, 3) := by decide +kernel
theorem d_Mod_mayBe_9 : decode b_Mod_mayBe 9 = .ok (.aload_n 0, 1) := by decide +kernel
theorem d_Mod_mayBe_10 : decode b_Mod_mayBe 10 = .ok (.aload_n 0, 1) := by decide +kernel
theorem d_Mod_mayBe_11 : decode b_Mod_mayBe 11 = .ok (.getfield 312, 3) := by decide +kernel
theorem d_Mod_mayBe_14 : decode b_Mod_mayBe 14 = .ok (.iload_n 1, 1) := by decide +kernel
theorem d_Mod_mayBe_15 : decode b_Mod_mayBe 15 = .ok (.iaload, 1) := by decide +kernel
theorem d_Mod_mayBe_16 : decode b_Mod_mayBe 16 = .ok (.iload_n 2, 1) := by decide +kernel
theorem d_Mod_mayBe_17 : decode b_Mod_mayBe 17 = .ok (.invokevirtual 1086, 3) := by decide +kernel
theorem d_Mod_mayBe_20 : decode b_Mod_mayBe 20 = .ok (.ifCond .gt 21, 3) := by decide +kernel
theorem d_Mod_mayBe_23 : decode b_Mod_mayBe 23 = .ok (.aload_n 0, 1) := by decide +kernel
theorem d_Mod_mayBe_24 : decode b_Mod_mayBe 24 = .ok (.aload_n 0, 1) := by decide +kernel
theorem d_Mod_mayBe_25 : decode b_Mod_mayBe 25 = .ok (.getfield 315, 3) := by decide +kernel
theorem d_Mod_mayBe_28 : decode b_Mod_mayBe 28 = .ok (.iload_n 1, 1) := by decide +kernel
theorem d_Mod_mayBe_29 : decode b_Mod_mayBe 29 = .ok (.iaload, 1) := by decide +kernel
theorem d_Mod_mayBe_30 : decode b_Mod_mayBe 30 = .ok (.iload_n 2, 1) := by decide +kernel
theorem d_Mod_mayBe_31 : decode b_Mod_mayBe 31 = .ok (.invokevirtual 1086, 3) := by decide +kernel
theorem d_Mod_mayBe_34 : decode b_Mod_mayBe 34 = .ok (.ifCond .lt 7, 3) := by decide +kernel
theorem d_Mod_mayBe_37 : decode b_Mod_mayBe 37 = .ok (.iconst 1, 1) := by decide +kernel
theorem d_Mod_mayBe_38 : decode b_Mod_mayBe 38 = .ok (.goto 4, 3) := by decide +kernel
theorem d_Mod_canBeOther_175 : decode b_Mod_canBeOther 175 = .ok (.istore 4, 2) := by decide +kernel
theorem d_Mod_canBeOther_177 : decode b_Mod_canBeOther 177 = .ok (.iinc 6 1, 3) := by decide +kernel
theorem d_Mod_canBeOther_180 : decode b_Mod_canBeOther 180 = .ok (.goto (-100), 3) := by decide +kernel
theorem d_Mod_canBeOther_170 : decode b_Mod_canBeOther 170 = .ok (.iconst 1, 1) := by decide +kernel
theorem d_Mod_canBeOther_171 : decode b_Mod_canBeOther 171 = .ok (.goto 4, 3) := by decide +kernel
theorem d_Mod_canBeOther_152 : decode b_Mod_canBeOther 152 = .ok (.istore 7, 2) := by decide +kernel
theorem d_Mod_canBeOther_154 : decode b_Mod_canBeOther 154 = .ok (.iinc 8 1, 3) := by decide +kernel
theorem d_Mod_canBeOther_157 : decode b_Mod_canBeOther 157 = .ok (.goto (-64), 3) := by decide +kernel
theorem d_Mod_canBeOther_147 : decode b_Mod_canBeOther 147 = .ok (.iconst 1, 1) := by decide +kernel
theorem d_Mod_canBeOther_148 : decode b_Mod_canBeOther 148 = .ok (.goto 4, 3) := by decide +kernel
theorem d_Mod_canBeOther_137 : decode b_Mod_canBeOther 137 = .ok (.iload_n 3, 1) := by decide +kernel
theorem d_Mod_canBeOther_138 : decode b_Mod_canBeOther 138 = .ok (.iload 8, 2) := by decide +kernel
theorem d_Mod_canBeOther_140 : decode b_Mod_canBeOther 140 = .ok (.iadd, 1) := by decide +kernel
theorem d_Mod_canBeOther_141 : decode b_Mod_canBeOther 141 = .ok (.invokevirtual 1086, 3) := by decide +kernel
theorem d_Mod_canBeOther_144 : decode b_Mod_canBeOther 144 = .ok (.ifCond .ne 7, 3) := by decide +kernel
theorem d_Mod_canBeOther_151 : decode b_Mod_canBeOther 151 = .ok (.iconst 0, 1) := by decide +kernel
theorem d_Mod_canBeOther_93 : decode b_Mod_canBeOther 93 = .ok (.iload 8, 2) := by decide +kernel
theorem d_Mod_canBeOther_95 : decode b_Mod_canBeOther 95 = .ok (.aload_n 0, 1) := by decide +kernel
theorem d_Mod_canBeOther_96 : decode b_Mod_canBeOther 96 = .ok (.getfield 279, 3) := by decide +kernel
theorem d_Mod_canBeOther_99 : decode b_Mod_canBeOther 99 = .ok (.iload_n 2, 1) := by decide +kernel
theorem d_Mod_canBeOther_100 : decode b_Mod_canBeOther 100 = .ok (.iaload, 1) := by decide +kernel
theorem d_Mod_canBeOther_101 : decode b_Mod_canBeOther 101 = .ok (.if_icmp .ge 59, 3) := by decide +kernel
theorem d_Mod_canBeOther_160 : decode b_Mod_canBeOther 160 = .ok (.iload 4, 2) := by decide +kernel
theorem d_Mod_canBeOther_162 : decode b_Mod_canBeOther 162 = .ok (.ifCond .ne 8, 3) := by decide +kernel
theorem d_Mod_canBeOther_165 : decode b_Mod_canBeOther 165 = .ok (.iload 7, 2) := by decide +kernel
theorem d_Mod_canBeOther_167 : decode b_Mod_canBeOther 167 = .ok (.ifCond .ne 7, 3) := by decide +kernel
theorem d_Mod_canBeOther_174 : decode b_Mod_canBeOther 174 = .ok (.iconst 0, 1) := by decide +kernel
theorem d_Mod_canBeOther_104 : decode b_Mod_canBeOther 104 = .ok (.iload 7, 2) := by decide +kernel
theorem d_Mod_canBeOther_106 : decode b_Mod_canBeOther 106 = .ok (.ifCond .ne 41, 3) := by decide +kernel
theorem d_Mod_canBeOther_109 : decode b_Mod_canBeOther 109 = .ok (.aload_n 0, 1) := by decide +kernel
theorem d_Mod_canBeOther_110 : decode b_Mod_canBeOther 110 = .ok (.aload_n 0, 1) := by decide +kernel
theorem d_Mod_canBeOther_111 : decode b_Mod_canBeOther 111 = .ok (.getfield 321, 3) := by decide +kernel
theorem d_Mod_canBeOther_114 : decode b_Mod_canBeOther 114 = .ok (.iload_n 1, 1) := by decide +kernel
theorem d_Mod_canBeOther_115 : decode b_Mod_canBeOther 115 = .ok (.iaload, 1) := by decide +kernel
theorem d_Mod_canBeOther_116 : decode b_Mod_canBeOther 116 = .ok (.ifCond .ne 12, 3) := by decide +kernel
theorem d_Mod_canBeOther_128 : decode b_Mod_canBeOther 128 = .ok (.aload_n 0, 1) := by decide +kernel
theorem d_Mod_canBeOther_129 : decode b_Mod_canBeOther 129 = .ok (.getfield 318, 3) := by decide +kernel
theorem d_Mod_canBeOther_132 : decode b_Mod_canBeOther 132 = .ok (.iload_n 1, 1) := by decide +kernel
theorem d_Mod_canBeOther_133 : decode b_Mod_canBeOther 133 = .ok (.iaload, 1) := by decide +kernel
theorem d_Mod_canBeOther_134 : decode b_Mod_canBeOther 134 = .ok (.iload 6, 2) := by decide +kernel
theorem d_Mod_canBeOther_136 : decode b_Mod_canBeOther 136 = .ok (.iadd, 1) := by decide +kernel
theorem d_Mod_canBeOther_119 : decode b_Mod_canBeOther 119 = .ok (.aload_n 0, 1) := by decide +kernel
theorem d_Mod_canBeOther_120 : decode b_Mod_canBeOther 120 = .ok (.getfield 312, 3) := by decide +kernel
theorem d_Mod_canBeOther_123 : decode b_Mod_canBeOther 123 = .ok (.iload_n 1, 1) := by decide +kernel
theorem d_Mod_canBeOther_124 : decode b_Mod_canBeOther 124 = .ok (.iaload, 1) := by decide +kernel
theorem d_Mod_canBeOther_125 : decode b_Mod_canBeOther 125 = .ok (.goto 12, 3) := by decide +kernel
theorem d_Mod_canBeOther_80 : decode b_Mod_canBeOther 80 = .ok (.iload 6, 2) := by decide +kernel
theorem d_Mod_canBeOther_82 : decode b_Mod_canBeOther 82 = .ok (.iload 5, 2) := by decide +kernel
theorem d_Mod_canBeOther_84 : decode b_Mod_canBeOther 84 = .ok (.if_icmp .ge 99, 3) := by decide +kernel
theorem d_Mod_canBeOther_183 : decode b_Mod_canBeOther 183 = .ok (.iload 4, 2) := by decide +kernel
theorem d_Mod_canBeOther_185 : decode b_Mod_canBeOther 185 = .ok (.ireturn, 1) := by decide +kernel
theorem d_Mod_canBeOther_87 : decode b_Mod_canBeOther 87 = .ok (.iconst 0, 1) := by decide +kernel
theorem d_Mod_canBeOther_88 : decode b_Mod_canBeOther 88 = .ok (.istore 7, 2) := by decide +kernel
theorem d_Mod_canBeOther_90 : decode b_Mod_canBeOther 90 = .ok (.iconst 0, 1) := by decide +kernel
theorem d_Mod_canBeOther_91 : decode b_Mod_canBeOther 91 = .ok (.istore 8, 2) := by decide +kernel
theorem d_Mod_canBeOther_75 : decode b_Mod_canBeOther 75 = .ok (.istore 5, 2) := by decide +kernel
theorem d_Mod_canBeOther_77 : decode b_Mod_canBeOther 77 = .ok (.iconst 0, 1) := by decide +kernel
theorem d_Mod_canBeOther_78 : decode b_Mod_canBeOther 78 = .ok (.istore 6, 2) := by decide +kernel
theorem d_Mod_canBeOther_54 : decode b_Mod_canBeOther 54 = .ok (.istore 4, 2) := by decide +kernel
theorem d_Mod_canBeOther_56 : decode b_Mod_canBeOther 56 = .ok (.aload_n 0, 1) := by decide +kernel
theorem d_Mod_canBeOther_57 : decode b_Mod_canBeOther 57 = .ok (.getfield 321, 3) := by decide +kernel
theorem d_Mod_canBeOther_60 : decode b_Mod_canBeOther 60 = .ok (.iload_n 1, 1) := by decide +kernel
theorem d_Mod_canBeOther_61 : decode b_Mod_canBeOther 61 = .ok (.iaload, 1) := by decide +kernel
theorem d_Mod_canBeOther_62 : decode b_Mod_canBeOther 62 = .ok (.ifCond .ne 7, 3) := by decide +kernel
theorem d_Mod_canBeOther_69 : decode b_Mod_canBeOther 69 = .ok (.aload_n 0, 1) := by decide +kernel
theorem d_Mod_canBeOther_70 : decode b_Mod_canBeOther 70 = .ok (.getfield 321, 3) := by decide +kernel
theorem d_Mod_canBeOther_73 : decode b_Mod_canBeOther 73 = .ok (.iload_n 1, 1) := by decide +kernel
theorem d_Mod_canBeOther_74 : decode b_Mod_canBeOther 74 = .ok (.iaload, 1) := by decide +kernel
theorem d_Mod_canBeOther_65 : decode b_Mod_canBeOther 65 = .ok (.iconst 1, 1) := by decide +kernel
theorem d_Mod_canBeOther_66 : decode b_Mod_canBeOther 66 = .ok (.goto 9, 3) := by decide +kernel
theorem d_Mod_canBeOther_53 : decode b_Mod_canBeOther 53 = .ok (.iconst 0, 1) := by decide +kernel
theorem d_Mod_canBeOther_0 : decode b_Mod_canBeOther 0 = .ok (.bipush 64, 2) := by decide +kernel
theorem d_Mod_canBeOther_2 : decode b_Mod_canBeOther 2 = .ok (.iload_n 2, 1) := by decide +kernel
theorem d_Mod_canBeOther_3 : decode b_Mod_canBeOther 3 = .ok (.bipush 64, 2) := by decide +kernel
theorem d_Mod_canBeOther_5 : decode b_Mod_canBeOther 5 = .ok (.idiv, 1) := by decide +kernel
theorem d_Mod_canBeOther_6 : decode b_Mod_canBeOther 6 = .ok (.imul, 1) := by decide +kernel
theorem d_Mod_canBeOther_7 : decode b_Mod_canBeOther 7 = .ok (.aload_n 0, 1) := by decide +kernel
theorem d_Mod_canBeOther_8 : decode b_Mod_canBeOther 8 = .ok (.getfield 276, 3) := by decide +kernel
theorem d_Mod_canBeOther_11 : decode b_Mod_canBeOther 11 = .ok (.iload_n 2, 1) := by decide +kernel
theorem d_Mod_canBeOther_12 : decode b_Mod_canBeOther 12 = .ok (.iaload, 1) := by decide +kernel
theorem d_Mod_canBeOther_13 : decode b_Mod_canBeOther 13 = .ok (.iadd, 1) := by decide +kernel
theorem d_Mod_canBeOther_14 : decode b_Mod_canBeOther 14 = .ok (.istore_n 3, 1) := by decide +kernel
theorem d_Mod_canBeOther_15 : decode b_Mod_canBeOther 15 = .ok (.aload_n 0, 1) := by decide +kernel
theorem d_Mod_canBeOther_16 : decode b_Mod_canBeOther 16 = .ok (.getfield 321, 3) := by decide +kernel
theorem d_Mod_canBeOther_19 : decode b_Mod_canBeOther 19 = .ok (.iload_n 1, 1) := by decide +kernel
theorem d_Mod_canBeOther_20 : decode b_Mod_canBeOther 20 = .ok (.iaload, 1) := by decide +kernel
theorem d_Mod_canBeOther_21 : decode b_Mod_canBeOther 21 = .ok (.ifCond .ne 32, 3) := by decide +kernel
theorem d_Mod_canBeOther_24 : decode b_Mod_canBeOther 24 = .ok (.aload_n 0, 1) := by decide +kernel
theorem d_Mod_canBeOther_25 : decode b_Mod_canBeOther 25 = .ok (.aload_n 0, 1) := by decide +kernel
theorem d_Mod_canBeOther_26 : decode b_Mod_canBeOther 26 = .ok (.iconst 1, 1) := by decide +kernel
theorem d_Mod_canBeOther_27 : decode b_Mod_canBeOther 27 = .ok (.iload_n 1, 1) := by decide +kernel
theorem d_Mod_canBeOther_28 : decode b_Mod_canBeOther 28 = .ok (.invokevirtual 789, 3) := by decide +kernel
theorem d_Mod_canBeOther_31 : decode b_Mod_canBeOther 31 = .ok (.aload_n 0, 1) := by decide +kernel
theorem d_Mod_canBeOther_32 : decode b_Mod_canBeOther 32 = .ok (.getfield 312, 3) := by decide +kernel
theorem d_Mod_canBeOther_35 : decode b_Mod_canBeOther 35 = .ok (.iload_n 1, 1) := by decide +kernel
theorem d_Mod_canBeOther_36 : decode b_Mod_canBeOther 36 = .ok (.iaload, 1) := by decide +kernel
theorem d_Mod_canBeOther_37 : decode b_Mod_canBeOther 37 = .ok (.aload_n 0, 1) := by decide +kernel
theorem d_Mod_canBeOther_38 : decode b_Mod_canBeOther 38 = .ok (.getfield 315, 3) := by decide +kernel
theorem d_Mod_canBeOther_41 : decode b_Mod_canBeOther 41 = .ok (.iload_n 1, 1) := by decide +kernel
theorem d_Mod_canBeOther_42 : decode b_Mod_canBeOther 42 = .ok (.iaload, 1) := by decide +kernel
theorem d_Mod_canBeOther_43 : decode b_Mod_canBeOther 43 = .ok (.invokevirtual 905, 3) := by decide +kernel
theorem d_Mod_canBeOther_46 : decode b_Mod_canBeOther 46 = .ok (.ifCond .eq 7, 3) := by decide +kernel
theorem d_Mod_canBeOther_49 : decode b_Mod_canBeOther 49 = .ok (.iconst 1, 1) := by decide +kernel
theorem d_Mod_canBeOther_50 : decode b_Mod_canBeOther 50 = .ok (.goto 4, 3) := by decide +kernel
theorem d_Mod_canOf_396 : decode b_Mod_canOf 396 = .ok (.ior, 1) := by decide +kernel
theorem d_Mod_canOf_397 : decode b_Mod_canOf 397 = .ok (.ireturn, 1) := by decide +kernel
theorem d_Mod_canOf_385 : decode b_Mod_canOf 385 = .ok (.ior, 1) := by decide +kernel
theorem d_Mod_canOf_386 : decode b_Mod_canOf 386 = .ok (.iload 8, 2) := by decide +kernel
theorem d_Mod_canOf_388 : decode b_Mod_canOf 388 = .ok (.ifCond .eq 7, 3) := by decide +kernel
theorem d_Mod_canOf_395 : decode b_Mod_canOf 395 = .ok (.iconst 0, 1) := by decide +kernel
theorem d_Mod_canOf_391 : decode b_Mod_canOf 391 = .ok (.iconst 1, 1) := by decide +kernel
theorem d_Mod_canOf_392 : decode b_Mod_canOf 392 = .ok (.goto 4, 3) := by decide +kernel
theorem d_Mod_canOf_373 : decode b_Mod_canOf 373 = .ok (.iload 6, 2) := by decide +kernel
theorem d_Mod_canOf_375 : decode b_Mod_canOf 375 = .ok (.iload 7, 2) := by decide +kernel
theorem d_Mod_canOf_377 : decode b_Mod_canOf 377 = .ok (.ifCond .eq 7, 3) := by decide +kernel
theorem d_Mod_canOf_384 : decode b_Mod_canOf 384 = .ok (.iconst 0, 1) := by decide +kernel
theorem d_Mod_canOf_380 : decode b_Mod_canOf 380 = .ok (.iconst 2, 1) := by decide +kernel
theorem d_Mod_canOf_381 : decode b_Mod_canOf 381 = .ok (.goto 4, 3) := by decide +kernel
theorem d_Mod_canOf_357 : decode b_Mod_canOf 357 = .ok (.istore 7, 2) := by decide +kernel
theorem d_Mod_canOf_359 : decode b_Mod_canOf 359 = .ok (.iinc 9 1, 3) := by decide +kernel
theorem d_Mod_canOf_362 : decode b_Mod_canOf 362 = .ok (.goto (-51), 3) := by decide +kernel
theorem d_Mod_canOf_352 : decode b_Mod_canOf 352 = .ok (.iconst 1, 1) := by decide +kernel
theorem d_Mod_canOf_353 : decode b_Mod_canOf 353 = .ok (.goto 4, 3) := by decide +kernel
theorem d_Mod_canOf_311 : decode b_Mod_canOf 311 = .ok (.iload 9, 2) := by decide +kernel
theorem d_Mod_canOf_313 : decode b_Mod_canOf 313 = .ok (.aload_n 0, 1) := by decide +kernel
theorem d_Mod_canOf_314 : decode b_Mod_canOf 314 = .ok (.getfield 279, 3) := by decide +kernel
theorem d_Mod_canOf_317 : decode b_Mod_canOf 317 = .ok (.iload_n 1, 1) := by decide +kernel
theorem d_Mod_canOf_318 : decode b_Mod_canOf 318 = .ok (.iaload, 1) := by decide +kernel
theorem d_Mod_canOf_319 : decode b_Mod_canOf 319 = .ok (.if_icmp .ge 46, 3) := by decide +kernel
theorem d_Mod_canOf_365 : decode b_Mod_canOf 365 = .ok (.aload_n 0, 1) := by decide +kernel
theorem d_Mod_canOf_366 : decode b_Mod_canOf 366 = .ok (.iload_n 2, 1) := by decide +kernel
theorem d_Mod_canOf_367 : decode b_Mod_canOf 367 = .ok (.iload_n 1, 1) := by decide +kernel
theorem d_Mod_canOf_368 : decode b_Mod_canOf 368 = .ok (.invokevirtual 1114, 3) := by decide +kernel
theorem d_Mod_canOf_371 : decode b_Mod_canOf 371 = .ok (.istore 8, 2) := by decide +kernel
theorem d_Mod_canOf_322 : decode b_Mod_canOf 322 = .ok (.iload 7, 2) := by decide +kernel
theorem d_Mod_canOf_324 : decode b_Mod_canOf 324 = .ok (.ifCond .ne 28, 3) := by decide +kernel
theorem d_Mod_canOf_327 : decode b_Mod_canOf 327 = .ok (.aload_n 0, 1) := by decide +kernel
theorem d_Mod_canOf_328 : decode b_Mod_canOf 328 = .ok (.iload_n 2, 1) := by decide +kernel
theorem d_Mod_canOf_329 : decode b_Mod_canOf 329 = .ok (.bipush 64, 2) := by decide +kernel
theorem d_Mod_canOf_331 : decode b_Mod_canOf 331 = .ok (.iload_n 1, 1) := by decide +kernel
theorem d_Mod_canOf_332 : decode b_Mod_canOf 332 = .ok (.bipush 64, 2) := by decide +kernel
theorem d_Mod_canOf_334 : decode b_Mod_canOf 334 = .ok (.idiv, 1) := by decide +kernel
theorem d_Mod_canOf_335 : decode b_Mod_canOf 335 = .ok (.imul, 1) := by decide +kernel
theorem d_Mod_canOf_336 : decode b_Mod_canOf 336 = .ok (.aload_n 0, 1) := by decide +kernel
theorem d_Mod_canOf_337 : decode b_Mod_canOf 337 = .ok (.getfield 276, 3) := by decide +kernel
theorem d_Mod_canOf_340 : decode b_Mod_canOf 340 = .ok (.iload_n 1, 1) := by decide +kernel
theorem d_Mod_canOf_341 : decode b_Mod_canOf 341 = .ok (.iaload, 1) := by decide +kernel
theorem d_Mod_canOf_342 : decode b_Mod_canOf 342 = .ok (.iadd, 1) := by decide +kernel
theorem d_Mod_canOf_343 : decode b_Mod_canOf 343 = .ok (.iload 9, 2) := by decide +kernel
theorem d_Mod_canOf_345 : decode b_Mod_canOf 345 = .ok (.iadd, 1) := by decide +kernel
theorem d_Mod_canOf_346 : decode b_Mod_canOf 346 = .ok (.invokevirtual 1111, 3) := by decide +kernel
theorem d_Mod_canOf_349 : decode b_Mod_canOf 349 = .ok (.ifCond .eq 7, 3) := by decide +kernel
theorem d_Mod_canOf_356 : decode b_Mod_canOf 356 = .ok (.iconst 0, 1) := by decide +kernel
theorem d_Mod_canOf_192 : decode b_Mod_canOf 192 = .ok (.iload 6, 2) := by decide +kernel
theorem d_Mod_canOf_194 : decode b_Mod_canOf 194 = .ok (.ireturn, 1) := by decide +kernel
theorem d_Mod_canOf_167 : decode b_Mod_canOf 167 = .ok (.ior, 1) := by decide +kernel
theorem d_Mod_canOf_168 : decode b_Mod_canOf 168 = .ok (.istore 6, 2) := by decide +kernel
theorem d_Mod_canOf_170 : decode b_Mod_canOf 170 = .ok (.iload 4, 2) := by decide +kernel
theorem d_Mod_canOf_172 : decode b_Mod_canOf 172 = .ok (.ifCond .eq 20, 3) := by decide +kernel
theorem d_Mod_canOf_175 : decode b_Mod_canOf 175 = .ok (.aload_n 0, 1) := by decide +kernel
theorem d_Mod_canOf_176 : decode b_Mod_canOf 176 = .ok (.getfield 306, 3) := by decide +kernel
theorem d_Mod_canOf_179 : decode b_Mod_canOf 179 = .ok (.iload 9, 2) := by decide +kernel
theorem d_Mod_canOf_181 : decode b_Mod_canOf 181 = .ok (.iaload, 1) := by decide +kernel
theorem d_Mod_canOf_182 : decode b_Mod_canOf 182 = .ok (.aload_n 0, 1) := by decide +kernel
theorem d_Mod_canOf_183 : decode b_Mod_canOf 183 = .ok (.getfield 309, 3) := by decide +kernel
theorem d_Mod_canOf_186 : decode b_Mod_canOf 186 = .ok (.iload 9, 2) := by decide +kernel
theorem d_Mod_canOf_188 : decode b_Mod_canOf 188 = .ok (.iaload, 1) := by decide +kernel
theorem d_Mod_canOf_189 : decode b_Mod_canOf 189 = .ok (.if_icmp .ne 6, 3) := by decide +kernel
theorem d_Mod_canOf_195 : decode b_Mod_canOf 195 = .ok (.aload_n 0, 1) := by decide +kernel
theorem d_Mod_canOf_196 : decode b_Mod_canOf 196 = .ok (.aload_n 0, 1) := by decide +kernel
theorem d_Mod_canOf_197 : decode b_Mod_canOf 197 = .ok (.iconst 1, 1) := by decide +kernel
theorem d_Mod_canOf_198 : decode b_Mod_canOf 198 = .ok (.iload_n 2, 1) := by decide +kernel
theorem d_Mod_canOf_199 : decode b_Mod_canOf 199 = .ok (.invokevirtual 789, 3) := by decide +kernel
theorem d_Mod_canOf_202 : decode b_Mod_canOf 202 = .ok (.iload_n 2, 1) := by decide +kernel
theorem d_Mod_canOf_203 : decode b_Mod_canOf 203 = .ok (.aload_n 0, 1) := by decide +kernel
theorem d_Mod_canOf_204 : decode b_Mod_canOf 204 = .ok (.getfield 273, 3) := by decide +kernel
theorem d_Mod_canOf_207 : decode b_Mod_canOf 207 = .ok (.iload_n 1, 1) := by decide +kernel
theorem d_Mod_canOf_208 : decode b_Mod_canOf 208 = .ok (.iaload, 1) := by decide +kernel
theorem d_Mod_canOf_209 : decode b_Mod_canOf 209 = .ok (.iload 9, 2) := by decide +kernel
theorem d_Mod_canOf_211 : decode b_Mod_canOf 211 = .ok (.invokevirtual 1101, 3) := by decide +kernel
theorem d_Mod_canOf_214 : decode b_Mod_canOf 214 = .ok (.istore 7, 2) := by decide +kernel
theorem d_Mod_canOf_216 : decode b_Mod_canOf 216 = .ok (.aload_n 0, 1) := by decide +kernel
theorem d_Mod_canOf_217 : decode b_Mod_canOf 217 = .ok (.aload_n 0, 1) := by decide +kernel
theorem d_Mod_canOf_218 : decode b_Mod_canOf 218 = .ok (.iconst 1, 1) := by decide +kernel
theorem d_Mod_canOf_219 : decode b_Mod_canOf 219 = .ok (.iload_n 2, 1) := by decide +kernel
theorem d_Mod_canOf_220 : decode b_Mod_canOf 220 = .ok (.invokevirtual 789, 3) := by decide +kernel
theorem d_Mod_canOf_223 : decode b_Mod_canOf 223 = .ok (.iload_n 2, 1) := by decide +kernel
theorem d_Mod_canOf_224 : decode b_Mod_canOf 224 = .ok (.aload_n 0, 1) := by decide +kernel
theorem d_Mod_canOf_225 : decode b_Mod_canOf 225 = .ok (.getfield 273, 3) := by decide +kernel
theorem d_Mod_canOf_228 : decode b_Mod_canOf 228 = .ok (.iload_n 1, 1) := by decide +kernel
theorem d_Mod_canOf_229 : decode b_Mod_canOf 229 = .ok (.iaload, 1) := by decide +kernel
theorem d_Mod_canOf_230 : decode b_Mod_canOf 230 = .ok (.invokestatic 1105, 3) := by decide +kernel
theorem d_Mod_canOf_233 : decode b_Mod_canOf 233 = .ok (.iload 9, 2) := by decide +kernel
theorem d_Mod_canOf_235 : decode b_Mod_canOf 235 = .ok (.invokevirtual 1101, 3) := by decide +kernel
theorem d_Mod_canOf_238 : decode b_Mod_canOf 238 = .ok (.istore 8, 2) := by decide +kernel
theorem d_Mod_canOf_240 : decode b_Mod_canOf 240 = .ok (.goto 133, 3) := by decide +kernel
theorem d_Mod_canOf_120 : decode b_Mod_canOf 120 = .ok (.istore 6, 2) := by decide +kernel
theorem d_Mod_canOf_122 : decode b_Mod_canOf 122 = .ok (.iconst 0, 1) := by decide +kernel
theorem d_Mod_canOf_123 : decode b_Mod_canOf 123 = .ok (.istore 7, 2) := by decide +kernel
theorem d_Mod_canOf_125 : decode b_Mod_canOf 125 = .ok (.iconst 0, 1) := by decide +kernel
theorem d_Mod_canOf_126 : decode b_Mod_canOf 126 = .ok (.istore 8, 2) := by decide +kernel
theorem d_Mod_canOf_128 : decode b_Mod_canOf 128 = .ok (.iload_n 3, 1) := by decide +kernel
theorem d_Mod_canOf_129 : decode b_Mod_canOf 129 = .ok (.iconst 4, 1) := by decide +kernel
theorem d_Mod_canOf_130 : decode b_Mod_canOf 130 = .ok (.if_icmp .ne 113, 3) := by decide +kernel
theorem d_Mod_canOf_243 : decode b_Mod_canOf 243 = .ok (.iload 4, 2) := by decide +kernel
theorem d_Mod_canOf_245 : decode b_Mod_canOf 245 = .ok (.ifCond .ne 6, 3) := by decide +kernel
theorem d_Mod_canOf_251 : decode b_Mod_canOf 251 = .ok (.iload_n 3, 1) := by decide +kernel
theorem d_Mod_canOf_252 : decode b_Mod_canOf 252 = .ok (.iconst 3, 1) := by decide +kernel
theorem d_Mod_canOf_253 : decode b_Mod_canOf 253 = .ok (.if_icmp .ne 55, 3) := by decide +kernel
theorem d_Mod_canOf_308 : decode b_Mod_canOf 308 = .ok (.iconst 0, 1) := by decide +kernel
theorem d_Mod_canOf_309 : decode b_Mod_canOf 309 = .ok (.istore 9, 2) := by decide +kernel
theorem d_Mod_canOf_256 : decode b_Mod_canOf 256 = .ok (.bipush 64, 2) := by decide +kernel
theorem d_Mod_canOf_258 : decode b_Mod_canOf 258 = .ok (.iload_n 1, 1) := by decide +kernel
theorem d_Mod_canOf_259 : decode b_Mod_canOf 259 = .ok (.bipush 64, 2) := by decide +kernel
theorem d_Mod_canOf_261 : decode b_Mod_canOf 261 = .ok (.idiv, 1) := by decide +kernel
theorem d_Mod_canOf_262 : decode b_Mod_canOf 262 = .ok (.imul, 1) := by decide +kernel
theorem d_Mod_canOf_263 : decode b_Mod_canOf 263 = .ok (.aload_n 0, 1) := by decide +kernel
theorem d_Mod_canOf_264 : decode b_Mod_canOf 264 = .ok (.getfield 276, 3) := by decide +kernel
theorem d_Mod_canOf_267 : decode b_Mod_canOf 267 = .ok (.iload_n 1, 1) := by decide +kernel
theorem d_Mod_canOf_268 : decode b_Mod_canOf 268 = .ok (.iaload, 1) := by decide +kernel
theorem d_Mod_canOf_269 : decode b_Mod_canOf 269 = .ok (.iadd, 1) := by decide +kernel
theorem d_Mod_canOf_270 : decode b_Mod_canOf 270 = .ok (.istore 9, 2) := by decide +kernel
theorem d_Mod_canOf_272 : decode b_Mod_canOf 272 = .ok (.aload_n 0, 1) := by decide +kernel
theorem d_Mod_canOf_273 : decode b_Mod_canOf 273 = .ok (.iload_n 2, 1) := by decide +kernel
theorem d_Mod_canOf_274 : decode b_Mod_canOf 274 = .ok (.aload_n 0, 1) := by decide +kernel
theorem d_Mod_canOf_275 : decode b_Mod_canOf 275 = .ok (.getfield 273, 3) := by decide +kernel
theorem d_Mod_canOf_278 : decode b_Mod_canOf 278 = .ok (.iload_n 1, 1) := by decide +kernel
theorem d_Mod_canOf_279 : decode b_Mod_canOf 279 = .ok (.iaload, 1) := by decide +kernel
theorem d_Mod_canOf_280 : decode b_Mod_canOf 280 = .ok (.iload 9, 2) := by decide +kernel
theorem d_Mod_canOf_282 : decode b_Mod_canOf 282 = .ok (.invokevirtual 1108, 3) := by decide +kernel
theorem d_Mod_canOf_285 : decode b_Mod_canOf 285 = .ok (.istore 7, 2) := by decide +kernel
theorem d_Mod_canOf_287 : decode b_Mod_canOf 287 = .ok (.aload_n 0, 1) := by decide +kernel
theorem d_Mod_canOf_288 : decode b_Mod_canOf 288 = .ok (.iload_n 2, 1) := by decide +kernel
theorem d_Mod_canOf_289 : decode b_Mod_canOf 289 = .ok (.aload_n 0, 1) := by decide +kernel
theorem d_Mod_canOf_290 : decode b_Mod_canOf 290 = .ok (.getfield 273, 3) := by decide +kernel
theorem d_Mod_canOf_293 : decode b_Mod_canOf 293 = .ok (.iload_n 1, 1) := by decide +kernel
theorem d_Mod_canOf_294 : decode b_Mod_canOf 294 = .ok (.iaload, 1) := by decide +kernel
theorem d_Mod_canOf_295 : decode b_Mod_canOf 295 = .ok (.invokestatic 1105, 3) := by decide +kernel
theorem d_Mod_canOf_298 : decode b_Mod_canOf 298 = .ok (.iload 9, 2) := by decide +kernel
theorem d_Mod_canOf_300 : decode b_Mod_canOf 300 = .ok (.invokevirtual 1108, 3) := by decide +kernel
theorem d_Mod_canOf_303 : decode b_Mod_canOf 303 = .ok (.istore 8, 2) := by decide +kernel
theorem d_Mod_canOf_305 : decode b_Mod_canOf 305 = .ok (.goto 68, 3) := by decide +kernel
theorem d_Mod_canOf_248 : decode b_Mod_canOf 248 = .ok (.iload 6, 2) := by decide +kernel
theorem d_Mod_canOf_250 : decode b_Mod_canOf 250 = .ok (.ireturn, 1) := by decide +kernel
theorem d_Mod_canOf_133 : decode b_Mod_canOf 133 = .ok (.aload_n 0, 1) := by decide +kernel
theorem d_Mod_canOf_134 : decode b_Mod_canOf 134 = .ok (.getfield 26, 3) := by decide +kernel
theorem d_Mod_canOf_137 : decode b_Mod_canOf 137 = .ok (.iconst 1, 1) := by decide +kernel
theorem d_Mod_canOf_138 : decode b_Mod_canOf 138 = .ok (.aload_n 0, 1) := by decide +kernel
theorem d_Mod_canOf_139 : decode b_Mod_canOf 139 = .ok (.getfield 276, 3) := by decide +kernel
theorem d_Mod_canOf_142 : decode b_Mod_canOf 142 = .ok (.iload_n 1, 1) := by decide +kernel
theorem d_Mod_canOf_143 : decode b_Mod_canOf 143 = .ok (.iaload, 1) := by decide +kernel
theorem d_Mod_canOf_144 : decode b_Mod_canOf 144 = .ok (.invokestatic 412, 3) := by decide +kernel
theorem d_Mod_canOf_147 : decode b_Mod_canOf 147 = .ok (.iaload, 1) := by decide +kernel
theorem d_Mod_canOf_148 : decode b_Mod_canOf 148 = .ok (.istore 9, 2) := by decide +kernel
theorem d_Mod_canOf_150 : decode b_Mod_canOf 150 = .ok (.iload 6, 2) := by decide +kernel
theorem d_Mod_canOf_152 : decode b_Mod_canOf 152 = .ok (.aload_n 0, 1) := by decide +kernel
theorem d_Mod_canOf_153 : decode b_Mod_canOf 153 = .ok (.getfield 309, 3) := by decide +kernel
theorem d_Mod_canOf_156 : decode b_Mod_canOf 156 = .ok (.iload 9, 2) := by decide +kernel
theorem d_Mod_canOf_158 : decode b_Mod_canOf 158 = .ok (.iaload, 1) := by decide +kernel
theorem d_Mod_canOf_159 : decode b_Mod_canOf 159 = .ok (.ifCond .le 7, 3) := by decide +kernel
theorem d_Mod_canOf_166 : decode b_Mod_canOf 166 = .ok (.iconst 0, 1) := by decide +kernel
theorem d_Mod_canOf_162 : decode b_Mod_canOf 162 = .ok (.iconst 4, 1) := by decide +kernel
theorem d_Mod_canOf_163 : decode b_Mod_canOf 163 = .ok (.goto 4, 3) := by decide +kernel
theorem d_Mod_canOf_108 : decode b_Mod_canOf 108 = .ok (.iconst 1, 1) := by decide +kernel
theorem d_Mod_canOf_109 : decode b_Mod_canOf 109 = .ok (.ireturn, 1) := by decide +kernel
theorem d_Mod_canOf_104 : decode b_Mod_canOf 104 = .ok (.iconst 2, 1) := by decide +kernel
theorem d_Mod_canOf_105 : decode b_Mod_canOf 105 = .ok (.goto 4, 3) := by decide +kernel
theorem d_Mod_canOf_100 : decode b_Mod_canOf 100 = .ok (.iconst 3, 1) := by decide +kernel
theorem d_Mod_canOf_101 : decode b_Mod_canOf 101 = .ok (.goto 8, 3) := by decide +kernel
theorem d_Mod_canOf_83 : decode b_Mod_canOf 83 = .ok (.iload_n 3, 1) := by decide +kernel
theorem d_Mod_canOf_84 : decode b_Mod_canOf 84 = .ok (.ifCond .ne 11, 3) := by decide +kernel
theorem d_Mod_canOf_95 : decode b_Mod_canOf 95 = .ok (.iload 5, 2) := by decide +kernel
theorem d_Mod_canOf_97 : decode b_Mod_canOf 97 = .ok (.ifCond .eq 7, 3) := by decide +kernel
theorem d_Mod_canOf_87 : decode b_Mod_canOf 87 = .ok (.iload 4, 2) := by decide +kernel
theorem d_Mod_canOf_89 : decode b_Mod_canOf 89 = .ok (.ifCond .eq 15, 3) := by decide +kernel
theorem d_Mod_canOf_92 : decode b_Mod_canOf 92 = .ok (.goto 8, 3) := by decide +kernel
theorem d_Mod_canOf_59 : decode b_Mod_canOf 59 = .ok (.istore 5, 2) := by decide +kernel
theorem d_Mod_canOf_61 : decode b_Mod_canOf 61 = .ok (.iload_n 3, 1) := by decide +kernel
theorem d_Mod_canOf_62 : decode b_Mod_canOf 62 = .ok (.iconst 2, 1) := by decide +kernel
theorem d_Mod_canOf_63 : decode b_Mod_canOf 63 = .ok (.if_icmp .ge 47, 3) := by decide +kernel
theorem d_Mod_canOf_110 : decode b_Mod_canOf 110 = .ok (.iload 5, 2) := by decide +kernel
theorem d_Mod_canOf_112 : decode b_Mod_canOf 112 = .ok (.ifCond .eq 7, 3) := by decide +kernel
theorem d_Mod_canOf_119 : decode b_Mod_canOf 119 = .ok (.iconst 0, 1) := by decide +kernel
theorem d_Mod_canOf_115 : decode b_Mod_canOf 115 = .ok (.iconst 4, 1) := by decide +kernel
theorem d_Mod_canOf_116 : decode b_Mod_canOf 116 = .ok (.goto 4, 3) := by decide +kernel
theorem d_Mod_canOf_66 : decode b_Mod_canOf 66 = .ok (.iload_n 3, 1) := by decide +kernel
theorem d_Mod_canOf_67 : decode b_Mod_canOf 67 = .ok (.ifCond .ne 11, 3) := by decide +kernel
theorem d_Mod_canOf_78 : decode b_Mod_canOf 78 = .ok (.iload 4, 2) := by decide +kernel
theorem d_Mod_canOf_80 : decode b_Mod_canOf 80 = .ok (.ifCond .eq 28, 3) := by decide +kernel
theorem d_Mod_canOf_70 : decode b_Mod_canOf 70 = .ok (.iload 5, 2) := by decide +kernel
theorem d_Mod_canOf_72 : decode b_Mod_canOf 72 = .ok (.ifCond .eq 36, 3) := by decide +kernel
theorem d_Mod_canOf_75 : decode b_Mod_canOf 75 = .ok (.goto 8, 3) := by decide +kernel
theorem d_Mod_canOf_43 : decode b_Mod_canOf 43 = .ok (.istore 4, 2) := by decide +kernel
theorem d_Mod_canOf_45 : decode b_Mod_canOf 45 = .ok (.aload_n 0, 1) := by decide +kernel
theorem d_Mod_canOf_46 : decode b_Mod_canOf 46 = .ok (.getfield 309, 3) := by decide +kernel
theorem d_Mod_canOf_49 : decode b_Mod_canOf 49 = .ok (.iload_n 2, 1) := by decide +kernel
theorem d_Mod_canOf_50 : decode b_Mod_canOf 50 = .ok (.iaload, 1) := by decide +kernel
theorem d_Mod_canOf_51 : decode b_Mod_canOf 51 = .ok (.ifCond .le 7, 3) := by decide +kernel
theorem d_Mod_canOf_58 : decode b_Mod_canOf 58 = .ok (.iconst 0, 1) := by decide +kernel
theorem d_Mod_canOf_54 : decode b_Mod_canOf 54 = .ok (.iconst 1, 1) := by decide +kernel
theorem d_Mod_canOf_55 : decode b_Mod_canOf 55 = .ok (.goto 4, 3) := by decide +kernel
theorem d_Mod_canOf_0 : decode b_Mod_canOf 0 = .ok (.aload_n 0, 1) := by decide +kernel
theorem d_Mod_canOf_1 : decode b_Mod_canOf 1 = .ok (.getfield 26, 3) := by decide +kernel
theorem d_Mod_canOf_4 : decode b_Mod_canOf 4 = .ok (.iconst 1, 1) := by decide +kernel
theorem d_Mod_canOf_5 : decode b_Mod_canOf 5 = .ok (.aload_n 0, 1) := by decide +kernel
theorem d_Mod_canOf_6 : decode b_Mod_canOf 6 = .ok (.getfield 270, 3) := by decide +kernel
theorem d_Mod_canOf_9 : decode b_Mod_canOf 9 = .ok (.iload_n 1, 1) := by decide +kernel
theorem d_Mod_canOf_10 : decode b_Mod_canOf 10 = .ok (.iaload, 1) := by decide +kernel
theorem d_Mod_canOf_11 : decode b_Mod_canOf 11 = .ok (.invokestatic 412, 3) := by decide +kernel
theorem d_Mod_canOf_14 : decode b_Mod_canOf 14 = .ok (.iaload, 1) := by decide +kernel
theorem d_Mod_canOf_15 : decode b_Mod_canOf 15 = .ok (.istore_n 2, 1) := by decide +kernel
theorem d_Mod_canOf_16 : decode b_Mod_canOf 16 = .ok (.aload_n 0, 1) := by decide +kernel
theorem d_Mod_canOf_17 : decode b_Mod_canOf 17 = .ok (.getfield 267, 3) := by decide +kernel
theorem d_Mod_canOf_20 : decode b_Mod_canOf 20 = .ok (.iload_n 1, 1) := by decide +kernel
theorem d_Mod_canOf_21 : decode b_Mod_canOf 21 = .ok (.iaload, 1) := by decide +kernel
theorem d_Mod_canOf_22 : decode b_Mod_canOf 22 = .ok (.istore_n 3, 1) := by decide +kernel
theorem d_Mod_canOf_23 : decode b_Mod_canOf 23 = .ok (.aload_n 0, 1) := by decide +kernel
theorem d_Mod_canOf_24 : decode b_Mod_canOf 24 = .ok (.getfield 306, 3) := by decide +kernel
theorem d_Mod_canOf_27 : decode b_Mod_canOf 27 = .ok (.iload_n 2, 1) := by decide +kernel
theorem d_Mod_canOf_28 : decode b_Mod_canOf 28 = .ok (.iaload, 1) := by decide +kernel
theorem d_Mod_canOf_29 : decode b_Mod_canOf 29 = .ok (.aload_n 0, 1) := by decide +kernel
theorem d_Mod_canOf_30 : decode b_Mod_canOf 30 = .ok (.getfield 309, 3) := by decide +kernel
theorem d_Mod_canOf_33 : decode b_Mod_canOf 33 = .ok (.iload_n 2, 1) := by decide +kernel
theorem d_Mod_canOf_34 : decode b_Mod_canOf 34 = .ok (.iaload, 1) := by decide +kernel
theorem d_Mod_canOf_35 : decode b_Mod_canOf 35 = .ok (.if_icmp .le 7, 3) := by decide +kernel
theorem d_Mod_canOf_42 : decode b_Mod_canOf 42 = .ok (.iconst 0, 1) := by decide +kernel
theorem d_Mod_canOf_38 : decode b_Mod_canOf 38 = .ok (.iconst 1, 1) := by decide +kernel
theorem d_Mod_canOf_39 : decode b_Mod_canOf 39 = .ok (.goto 4, 3) := by decide +kernel
section
variable (l : Launch) (dC : Nat → ClassId) (dI : Nat → Nat → Nat) (cI cB cJ cZ : ClassId)
set_option maxRecDepth 100000 in
set_option maxHeartbeats 4000000 in
set_option maxRecDepth 100000 in
theorem t_Mod_mayBe_83 {p : Program} {l : Launch} {e : Env} {R : Room} {s : State} {m : MethodId} {args : Array Value} {below : List Frame} {meth : Method} {c : Code} {cells slots : Nat} {Q : State → Prop} {dC : Nat → ClassId} {dI : Nat → Nat → Nat} {cI cB cJ cZ : ClassId} {A : Nat → Prop} {ad : Nat → Nat} {post : Int32 → St → Prop} {rec46 : Int32 → Int32 → Int32 → Int32 → St → Prop} (hx : p.tables.exec = Jvm.exec) (hb : c.code = b_Mod_mayBe) (hml : c.maxLocals = 5) (hown : s.vm.findClass R_Mod = some m.cls) (hT : ∀ w ∈ TG, w.before args s = true) (hK : va_K (dC, dI) CL (TY cI cB cJ cZ) s) (hN : NW s) (hA : ∀ q : Nat, s.heap.size ≤ q → A q) (hRc : cells ≤ R.cells) (hRs : slots ≤ R.slots) (hRf : 1 ≤ R.frames) (hRl : 25 ≤ R.locals) (hret : ∀ (r : Int32) (x : St) (H : Heap) (locs : List Loc) (pc : Nat) (ls : Array Slot), decode b_Mod_mayBe pc = .ok (.ireturn, 1) → narrow .boolean (.int r) = .int r → post r x → Wd dC dI cI cB cJ cZ ad stM kcM 115 A x H → va_S A s.heap H locs → W p l e R s m args below meth c H locs cells slots Q (F0 m pc ls [.int r])) (hrec46 : ∀ (l1 : Int32) (l2 : Int32) (l3 : Int32) (l4 : Int32) (x : St) (H : Heap) (locs : List Loc) (ls : Array Slot), rec46 l1 l2 l3 l4 x → Wd dC dI cI cB cJ cZ ad stM kcM 115 A x H → va_S A s.heap H locs → lv_has ls 5 [(0, .ref (ad 0)), (1, .int l1), (2, .int l2), (3, .int l3), (4, .int l4)] → W p l e R s m args below meth c H locs cells slots Q (F0 m 46 ls [])) : ∀ (l1 : Int32) (l2 : Int32) (l3 : Int32) (l4 : Int32) (s0 : Int32) (x : St) (H : Heap) (locs : List Loc) (ls : Array Slot), j_Mod_mayBe_83 post rec46 l1 l2 l3 l4 s0 x → Wd dC dI cI cB cJ cZ ad stM kcM 115 A x H → va_S A s.heap H locs → lv_has ls 5 [(0, .ref (ad 0)), (1, .int l1), (2, .int l2), (3, .int l3), (4, .int l4)] → W p l e R s m args below meth c H locs cells slots Q (F0 m 83 ls [.int s0]) := by
  intro l1 l2 l3 l4 s0 x H locs ls  hw hW hS hl
  unfold j_Mod_mayBe_83 at hw
  refine lv_istore_n (lv' := [(3, .int s0), (0, .ref (ad 0)), (1, .int l1), (2, .int l2), (4, .int l4)]) hx hb d_Mod_mayBe_83 rfl hl (by decide) rfl (fun ls hl => ?_)
  refine lv_iinc (v := (l4 + 1)) (lv' := [(4, .int (l4 + 1)), (3, .int s0), (0, .ref (ad 0)), (1, .int l1), (2, .int l2)]) hx hb d_Mod_mayBe_84 hl (k := 4) rfl rfl (by decide) rfl (fun ls hl => ?_)
  refine lv_goto (tgt := 46) hx hb d_Mod_mayBe_87 (by decide) ?_
  exact hrec46 l1 l2 s0 (l4 + 1) x H locs ls  hw hW hS (lv_sub hl [2, 3, 4, 1, 0] rfl)
set_option maxRecDepth 100000 in
set_option maxHeartbeats 4000000 in
set_option maxRecDepth 100000 in
theorem t_Mod_mayBe_78 {p : Program} {l : Launch} {e : Env} {R : Room} {s : State} {m : MethodId} {args : Array Value} {below : List Frame} {meth : Method} {c : Code} {cells slots : Nat} {Q : State → Prop} {dC : Nat → ClassId} {dI : Nat → Nat → Nat} {cI cB cJ cZ : ClassId} {A : Nat → Prop} {ad : Nat → Nat} {post : Int32 → St → Prop} {rec46 : Int32 → Int32 → Int32 → Int32 → St → Prop} (hx : p.tables.exec = Jvm.exec) (hb : c.code = b_Mod_mayBe) (hml : c.maxLocals = 5) (hown : s.vm.findClass R_Mod = some m.cls) (hT : ∀ w ∈ TG, w.before args s = true) (hK : va_K (dC, dI) CL (TY cI cB cJ cZ) s) (hN : NW s) (hA : ∀ q : Nat, s.heap.size ≤ q → A q) (hRc : cells ≤ R.cells) (hRs : slots ≤ R.slots) (hRf : 1 ≤ R.frames) (hRl : 25 ≤ R.locals) (hret : ∀ (r : Int32) (x : St) (H : Heap) (locs : List Loc) (pc : Nat) (ls : Array Slot), decode b_Mod_mayBe pc = .ok (.ireturn, 1) → narrow .boolean (.int r) = .int r → post r x → Wd dC dI cI cB cJ cZ ad stM kcM 115 A x H → va_S A s.heap H locs → W p l e R s m args below meth c H locs cells slots Q (F0 m pc ls [.int r])) (hrec46 : ∀ (l1 : Int32) (l2 : Int32) (l3 : Int32) (l4 : Int32) (x : St) (H : Heap) (locs : List Loc) (ls : Array Slot), rec46 l1 l2 l3 l4 x → Wd dC dI cI cB cJ cZ ad stM kcM 115 A x H → va_S A s.heap H locs → lv_has ls 5 [(0, .ref (ad 0)), (1, .int l1), (2, .int l2), (3, .int l3), (4, .int l4)] → W p l e R s m args below meth c H locs cells slots Q (F0 m 46 ls [])) : ∀ (l1 : Int32) (l2 : Int32) (l3 : Int32) (l4 : Int32) (x : St) (H : Heap) (locs : List Loc) (ls : Array Slot), j_Mod_mayBe_78 post rec46 l1 l2 l3 l4 x → Wd dC dI cI cB cJ cZ ad stM kcM 115 A x H → va_S A s.heap H locs → lv_has ls 5 [(0, .ref (ad 0)), (1, .int l1), (2, .int l2), (3, .int l3), (4, .int l4)] → W p l e R s m args below meth c H locs cells slots Q (F0 m 78 ls []) := by
  intro l1 l2 l3 l4 x H locs ls  hw hW hS hl
  unfold j_Mod_mayBe_78 at hw
  refine lv_iconst (v := 1) hx hb d_Mod_mayBe_78 (by decide) ?_
  refine lv_goto (tgt := 83) hx hb d_Mod_mayBe_79 (by decide) ?_
  exact t_Mod_mayBe_83 hx hb hml hown hT hK hN hA hRc hRs hRf hRl hret hrec46 l1 l2 l3 l4 1 x H locs ls  hw hW hS (lv_sub hl [0, 1, 2, 3, 4] rfl)
set_option maxRecDepth 100000 in
set_option maxHeartbeats 4000000 in
set_option maxRecDepth 100000 in
theorem t_Mod_mayBe_46 {p : Program} {l : Launch} {e : Env} {R : Room} {s : State} {m : MethodId} {args : Array Value} {below : List Frame} {meth : Method} {c : Code} {cells slots : Nat} {Q : State → Prop} {dC : Nat → ClassId} {dI : Nat → Nat → Nat} {cI cB cJ cZ : ClassId} {A : Nat → Prop} {ad : Nat → Nat} {post : Int32 → St → Prop} {rec46 : Int32 → Int32 → Int32 → Int32 → St → Prop} (hx : p.tables.exec = Jvm.exec) (hb : c.code = b_Mod_mayBe) (hml : c.maxLocals = 5) (hown : s.vm.findClass R_Mod = some m.cls) (hT : ∀ w ∈ TG, w.before args s = true) (hK : va_K (dC, dI) CL (TY cI cB cJ cZ) s) (hN : NW s) (hA : ∀ q : Nat, s.heap.size ≤ q → A q) (hRc : cells ≤ R.cells) (hRs : slots ≤ R.slots) (hRf : 1 ≤ R.frames) (hRl : 25 ≤ R.locals) (hret : ∀ (r : Int32) (x : St) (H : Heap) (locs : List Loc) (pc : Nat) (ls : Array Slot), decode b_Mod_mayBe pc = .ok (.ireturn, 1) → narrow .boolean (.int r) = .int r → post r x → Wd dC dI cI cB cJ cZ ad stM kcM 115 A x H → va_S A s.heap H locs → W p l e R s m args below meth c H locs cells slots Q (F0 m pc ls [.int r])) (hrec46 : ∀ (l1 : Int32) (l2 : Int32) (l3 : Int32) (l4 : Int32) (x : St) (H : Heap) (locs : List Loc) (ls : Array Slot), rec46 l1 l2 l3 l4 x → Wd dC dI cI cB cJ cZ ad stM kcM 115 A x H → va_S A s.heap H locs → lv_has ls 5 [(0, .ref (ad 0)), (1, .int l1), (2, .int l2), (3, .int l3), (4, .int l4)] → W p l e R s m args below meth c H locs cells slots Q (F0 m 46 ls [])) : ∀ (l1 : Int32) (l2 : Int32) (l3 : Int32) (l4 : Int32) (x : St) (H : Heap) (locs : List Loc) (ls : Array Slot), j_Mod_mayBe_46 post rec46 l1 l2 l3 l4 x → Wd dC dI cI cB cJ cZ ad stM kcM 115 A x H → va_S A s.heap H locs → lv_has ls 5 [(0, .ref (ad 0)), (1, .int l1), (2, .int l2), (3, .int l3), (4, .int l4)] → W p l e R s m args below meth c H locs cells slots Q (F0 m 46 ls []) := by
  intro l1 l2 l3 l4 x H locs ls  hw hW hS hl
  unfold j_Mod_mayBe_46 at hw
  refine lv_iload hx hb d_Mod_mayBe_46 (lv_at hl 4 rfl) ?_
  refine lv_aload_n hx hb d_Mod_mayBe_48 rfl (lv_at hl 0 rfl) ?_
  refine w_getf (q := 102) (k := 147) (t := 12) (C := R_Mod) (T := F_Mod) (N := 167) hx hb hT hown hK hW ko_0.1 ko_0.2 (by decide) in_Mod rfl rfl (by decide) rfl fr_Mod_147 w_9_83 d_Mod_mayBe_49 rfl ?_
  refine lv_iload_n hx hb d_Mod_mayBe_52 rfl (lv_at hl 1 rfl) ?_
  obtain ⟨hi, hw⟩ := hw
  refine w_iald (o := 102) hx hb hK hW ko_102.1 ko_102.2 hi d_Mod_mayBe_53 ?_
  refine lv_icmp_ge (tgt := 90) hx hb d_Mod_mayBe_54 (by decide) (fun c2340 => ?_) (fun c2340 => ?_)
  · have hw := hw.1 c2340
    refine lv_iload_n hx hb d_Mod_mayBe_90 rfl (lv_at hl 3 rfl) ?_
    exact hret l3 x H locs 91 ls d_Mod_mayBe_91 hw.1 hw.2 hW hS
  · have hw := hw.2 c2340
    refine lv_iload_n hx hb d_Mod_mayBe_57 rfl (lv_at hl 3 rfl) ?_
    refine lv_if_ne (tgt := 78) hx hb d_Mod_mayBe_58 (by decide) (fun c2341 => ?_) (fun c2341 => ?_)
    · have hw := hw.1 c2341
      exact t_Mod_mayBe_78 hx hb hml hown hT hK hN hA hRc hRs hRf hRl hret hrec46 l1 l2 l3 l4 x H locs ls  hw hW hS (lv_sub hl [0, 1, 2, 3, 4] rfl)
    · have hw := hw.2 c2341
      refine lv_aload_n hx hb d_Mod_mayBe_61 rfl (lv_at hl 0 rfl) ?_
      refine lv_aload_n hx hb d_Mod_mayBe_62 rfl (lv_at hl 0 rfl) ?_
      refine w_getf (q := 101) (k := 146) (t := 12) (C := R_Mod) (T := F_Mod) (N := 167) hx hb hT hown hK hW ko_0.1 ko_0.2 (by decide) in_Mod rfl rfl (by decide) rfl fr_Mod_146 w_9_82 d_Mod_mayBe_63 rfl ?_
      refine lv_iload_n hx hb d_Mod_mayBe_66 rfl (lv_at hl 1 rfl) ?_
      obtain ⟨hi, hw⟩ := hw
      refine w_iald (o := 101) hx hb hK hW ko_101.1 ko_101.2 hi d_Mod_mayBe_67 ?_
      refine lv_iload hx hb d_Mod_mayBe_68 (lv_at hl 4 rfl) ?_
      refine lv_iadd hx hb d_Mod_mayBe_70 ?_
      refine lv_iload_n hx hb d_Mod_mayBe_71 rfl (lv_at hl 2 rfl) ?_
      have hF := hW.free hS hA
      refine va_calli (va_runV (C := R_Mod) (As := [.int ((rA x 101 l1) + l4), .int l2]) (rest := []) ⟨hx, hb, hml, hown, hT⟩ (k_Mod_againstLiteral l dC dI cI cB cJ cZ ad H.size ((rA x 101 l1) + l4) l2 x  hw) ⟨callB_of 2 hT (gwt_in w_13_237) rfl rfl rfl (hT _ w_1_15) (hT _ w_13_234) (by decide +kernel) ⟨Nat.le_trans (Nat.le_of_ble_eq_true rfl) hRf, Nat.le_trans (Nat.le_of_ble_eq_true rfl) hRl⟩, hT _ w_13_236, hT _ ws_259⟩ ⟨PW.blind, va_recv hK hW.1 (ci := 12) (q0 := 0) rfl (pic_obj ko_0.1 ko_0.2 (by decide)), PW.at _ hW hK hN⟩ rfl rfl hl.1 rfl (lv_room (Nat.le_of_ble_eq_true rfl)) d_Mod_mayBe_72 ⟨hRc, hRs⟩) hS (fun q _ h => hF q h) hF (fun r2343 x2342 t H locs ht hvm hw hB hz1 hk1 hS => ?_)
      have hW := Wd.back hB ht hF
      clear hB ht hF hz1 hk1 hvm
      refine lv_if_ne (tgt := 82) hx hb d_Mod_mayBe_75 (by decide) (fun c2344 => ?_) (fun c2344 => ?_)
      · have hw := hw.1 c2344
        refine lv_iconst (v := 0) hx hb d_Mod_mayBe_82 (by decide) ?_
        exact t_Mod_mayBe_83 hx hb hml hown hT hK hN hA hRc hRs hRf hRl hret hrec46 l1 l2 l3 l4 0 x2342 H locs ls  hw hW hS (lv_sub hl [0, 1, 2, 3, 4] rfl)
      · have hw := hw.2 c2344
        exact t_Mod_mayBe_78 hx hb hml hown hT hK hN hA hRc hRs hRf hRl hret hrec46 l1 l2 l3 l4 x2342 H locs ls  hw hW hS (lv_sub hl [0, 1, 2, 3, 4] rfl)
set_option maxHeartbeats 4000000 in
set_option maxRecDepth 100000 in
theorem tl_Mod_mayBe_46 {p : Program} {l : Launch} {e : Env} {R : Room} {s : State} {m : MethodId} {args : Array Value} {below : List Frame} {meth : Method} {c : Code} {cells slots : Nat} {Q : State → Prop} {dC : Nat → ClassId} {dI : Nat → Nat → Nat} {cI cB cJ cZ : ClassId} {A : Nat → Prop} {ad : Nat → Nat} {post : Int32 → St → Prop} (hx : p.tables.exec = Jvm.exec) (hb : c.code = b_Mod_mayBe) (hml : c.maxLocals = 5) (hown : s.vm.findClass R_Mod = some m.cls) (hT : ∀ w ∈ TG, w.before args s = true) (hK : va_K (dC, dI) CL (TY cI cB cJ cZ) s) (hN : NW s) (hA : ∀ q : Nat, s.heap.size ≤ q → A q) (hRc : cells ≤ R.cells) (hRs : slots ≤ R.slots) (hRf : 1 ≤ R.frames) (hRl : 25 ≤ R.locals) (hret : ∀ (r : Int32) (x : St) (H : Heap) (locs : List Loc) (pc : Nat) (ls : Array Slot), decode b_Mod_mayBe pc = .ok (.ireturn, 1) → narrow .boolean (.int r) = .int r → post r x → Wd dC dI cI cB cJ cZ ad stM kcM 115 A x H → va_S A s.heap H locs → W p l e R s m args below meth c H locs cells slots Q (F0 m pc ls [.int r]))  : ∀ n : Nat, ∀ (l1 : Int32) (l2 : Int32) (l3 : Int32) (l4 : Int32) (x : St) (H : Heap) (locs : List Loc) (ls : Array Slot), wl_Mod_mayBe_46 post n l1 l2 l3 l4 x → Wd dC dI cI cB cJ cZ ad stM kcM 115 A x H → va_S A s.heap H locs → lv_has ls 5 [(0, .ref (ad 0)), (1, .int l1), (2, .int l2), (3, .int l3), (4, .int l4)] → W p l e R s m args below meth c H locs cells slots Q (F0 m 46 ls []) := by
  intro n
  induction n with
  | zero => intro l1 l2 l3 l4 x H locs ls  hw; exact hw.elim
  | succ n ih => intro l1 l2 l3 l4 x H locs ls  hw hW hS hl; exact t_Mod_mayBe_46 hx hb hml hown hT hK hN hA hRc hRs hRf hRl hret  ih l1 l2 l3 l4 x H locs ls  hw hW hS hl
set_option maxRecDepth 100000 in
set_option maxHeartbeats 4000000 in
set_option maxRecDepth 100000 in
theorem t_Mod_mayBe_42 {p : Program} {l : Launch} {e : Env} {R : Room} {s : State} {m : MethodId} {args : Array Value} {below : List Frame} {meth : Method} {c : Code} {cells slots : Nat} {Q : State → Prop} {dC : Nat → ClassId} {dI : Nat → Nat → Nat} {cI cB cJ cZ : ClassId} {A : Nat → Prop} {ad : Nat → Nat} {post : Int32 → St → Prop} (hx : p.tables.exec = Jvm.exec) (hb : c.code = b_Mod_mayBe) (hml : c.maxLocals = 5) (hown : s.vm.findClass R_Mod = some m.cls) (hT : ∀ w ∈ TG, w.before args s = true) (hK : va_K (dC, dI) CL (TY cI cB cJ cZ) s) (hN : NW s) (hA : ∀ q : Nat, s.heap.size ≤ q → A q) (hRc : cells ≤ R.cells) (hRs : slots ≤ R.slots) (hRf : 1 ≤ R.frames) (hRl : 25 ≤ R.locals) (hret : ∀ (r : Int32) (x : St) (H : Heap) (locs : List Loc) (pc : Nat) (ls : Array Slot), decode b_Mod_mayBe pc = .ok (.ireturn, 1) → narrow .boolean (.int r) = .int r → post r x → Wd dC dI cI cB cJ cZ ad stM kcM 115 A x H → va_S A s.heap H locs → W p l e R s m args below meth c H locs cells slots Q (F0 m pc ls [.int r]))  : ∀ (l1 : Int32) (l2 : Int32) (s0 : Int32) (x : St) (H : Heap) (locs : List Loc) (ls : Array Slot), j_Mod_mayBe_42 post l1 l2 s0 x → Wd dC dI cI cB cJ cZ ad stM kcM 115 A x H → va_S A s.heap H locs → lv_has ls 5 [(0, .ref (ad 0)), (1, .int l1), (2, .int l2)] → W p l e R s m args below meth c H locs cells slots Q (F0 m 42 ls [.int s0]) := by
  intro l1 l2 s0 x H locs ls  hw hW hS hl
  unfold j_Mod_mayBe_42 at hw
  refine lv_istore_n (lv' := [(3, .int s0), (0, .ref (ad 0)), (1, .int l1), (2, .int l2)]) hx hb d_Mod_mayBe_42 rfl hl (by decide) rfl (fun ls hl => ?_)
  refine lv_iconst (v := 0) hx hb d_Mod_mayBe_43 (by decide) ?_
  refine lv_istore (lv' := [(4, .int 0), (3, .int s0), (0, .ref (ad 0)), (1, .int l1), (2, .int l2)]) hx hb d_Mod_mayBe_44 hl (by decide) rfl (fun ls hl => ?_)
  obtain ⟨n, hw⟩ := hw
  exact tl_Mod_mayBe_46 hx hb hml hown hT hK hN hA hRc hRs hRf hRl hret  n l1 l2 s0 0 x H locs ls  hw hW hS (lv_sub hl [2, 3, 4, 1, 0] rfl)
set_option maxRecDepth 100000 in
set_option maxHeartbeats 4000000 in
set_option maxRecDepth 100000 in
theorem t_Mod_mayBe_41 {p : Program} {l : Launch} {e : Env} {R : Room} {s : State} {m : MethodId} {args : Array Value} {below : List Frame} {meth : Method} {c : Code} {cells slots : Nat} {Q : State → Prop} {dC : Nat → ClassId} {dI : Nat → Nat → Nat} {cI cB cJ cZ : ClassId} {A : Nat → Prop} {ad : Nat → Nat} {post : Int32 → St → Prop} (hx : p.tables.exec = Jvm.exec) (hb : c.code = b_Mod_mayBe) (hml : c.maxLocals = 5) (hown : s.vm.findClass R_Mod = some m.cls) (hT : ∀ w ∈ TG, w.before args s = true) (hK : va_K (dC, dI) CL (TY cI cB cJ cZ) s) (hN : NW s) (hA : ∀ q : Nat, s.heap.size ≤ q → A q) (hRc : cells ≤ R.cells) (hRs : slots ≤ R.slots) (hRf : 1 ≤ R.frames) (hRl : 25 ≤ R.locals) (hret : ∀ (r : Int32) (x : St) (H : Heap) (locs : List Loc) (pc : Nat) (ls : Array Slot), decode b_Mod_mayBe pc = .ok (.ireturn, 1) → narrow .boolean (.int r) = .int r → post r x → Wd dC dI cI cB cJ cZ ad stM kcM 115 A x H → va_S A s.heap H locs → W p l e R s m args below meth c H locs cells slots Q (F0 m pc ls [.int r]))  : ∀ (l1 : Int32) (l2 : Int32) (x : St) (H : Heap) (locs : List Loc) (ls : Array Slot), j_Mod_mayBe_41 post l1 l2 x → Wd dC dI cI cB cJ cZ ad stM kcM 115 A x H → va_S A s.heap H locs → lv_has ls 5 [(0, .ref (ad 0)), (1, .int l1), (2, .int l2)] → W p l e R s m args below meth c H locs cells slots Q (F0 m 41 ls []) := by
  intro l1 l2 x H locs ls  hw hW hS hl
  unfold j_Mod_mayBe_41 at hw
  refine lv_iconst (v := 0) hx hb d_Mod_mayBe_41 (by decide) ?_
  exact t_Mod_mayBe_42 hx hb hml hown hT hK hN hA hRc hRs hRf hRl hret  l1 l2 0 x H locs ls  hw hW hS (lv_sub hl [0, 1, 2] rfl)
set_option maxRecDepth 100000 in
set_option maxHeartbeats 4000000 in
set_option maxRecDepth 100000 in
theorem t_Mod_mayBe_e {p : Program} {l : Launch} {e : Env} {R : Room} {s : State} {m : MethodId} {args : Array Value} {below : List Frame} {meth : Method} {c : Code} {cells slots : Nat} {Q : State → Prop} {dC : Nat → ClassId} {dI : Nat → Nat → Nat} {cI cB cJ cZ : ClassId} {A : Nat → Prop} {ad : Nat → Nat} {post : Int32 → St → Prop} (hx : p.tables.exec = Jvm.exec) (hb : c.code = b_Mod_mayBe) (hml : c.maxLocals = 5) (hown : s.vm.findClass R_Mod = some m.cls) (hT : ∀ w ∈ TG, w.before args s = true) (hK : va_K (dC, dI) CL (TY cI cB cJ cZ) s) (hN : NW s) (hA : ∀ q : Nat, s.heap.size ≤ q → A q) (hRc : cells ≤ R.cells) (hRs : slots ≤ R.slots) (hRf : 1 ≤ R.frames) (hRl : 25 ≤ R.locals) (hret : ∀ (r : Int32) (x : St) (H : Heap) (locs : List Loc) (pc : Nat) (ls : Array Slot), decode b_Mod_mayBe pc = .ok (.ireturn, 1) → narrow .boolean (.int r) = .int r → post r x → Wd dC dI cI cB cJ cZ ad stM kcM 115 A x H → va_S A s.heap H locs → W p l e R s m args below meth c H locs cells slots Q (F0 m pc ls [.int r])) : ∀ (l1 : Int32) (l2 : Int32) (x : St) (H : Heap) (locs : List Loc) (ls : Array Slot), wp_Mod_mayBe post l1 l2 x → Wd dC dI cI cB cJ cZ ad stM kcM 115 A x H → va_S A s.heap H locs → lv_has ls 5 [(0, .ref (ad 0)), (1, .int l1), (2, .int l2)] → W p l e R s m args below meth c H locs cells slots Q (F0 m 0 ls []) := by
  intro l1 l2 x H locs ls  hw hW hS hl
  unfold wp_Mod_mayBe at hw
  refine lv_aload_n hx hb d_Mod_mayBe_0 rfl (lv_at hl 0 rfl) ?_
  refine w_getf (q := 102) (k := 147) (t := 12) (C := R_Mod) (T := F_Mod) (N := 167) hx hb hT hown hK hW ko_0.1 ko_0.2 (by decide) in_Mod rfl rfl (by decide) rfl fr_Mod_147 w_9_83 d_Mod_mayBe_1 rfl ?_
  refine lv_iload_n hx hb d_Mod_mayBe_4 rfl (lv_at hl 1 rfl) ?_
  obtain ⟨hi, hw⟩ := hw
  refine w_iald (o := 102) hx hb hK hW ko_102.1 ko_102.2 hi d_Mod_mayBe_5 ?_
  refine lv_if_ne (tgt := 41) hx hb d_Mod_mayBe_6 (by decide) (fun c2345 => ?_) (fun c2345 => ?_)
  · have hw := hw.1 c2345
    exact t_Mod_mayBe_41 hx hb hml hown hT hK hN hA hRc hRs hRf hRl hret  l1 l2 x H locs ls  hw hW hS (lv_sub hl [0, 1, 2] rfl)
  · have hw := hw.2 c2345
    refine lv_aload_n hx hb d_Mod_mayBe_9 rfl (lv_at hl 0 rfl) ?_
    refine lv_aload_n hx hb d_Mod_mayBe_10 rfl (lv_at hl 0 rfl) ?_
    refine w_getf (q := 99) (k := 144) (t := 12) (C := R_Mod) (T := F_Mod) (N := 167) hx hb hT hown hK hW ko_0.1 ko_0.2 (by decide) in_Mod rfl rfl (by decide) rfl fr_Mod_144 w_9_80 d_Mod_mayBe_11 rfl ?_
    refine lv_iload_n hx hb d_Mod_mayBe_14 rfl (lv_at hl 1 rfl) ?_
    obtain ⟨hi, hw⟩ := hw
    refine w_iald (o := 99) hx hb hK hW ko_99.1 ko_99.2 hi d_Mod_mayBe_15 ?_
    refine lv_iload_n hx hb d_Mod_mayBe_16 rfl (lv_at hl 2 rfl) ?_
    have hF := hW.free hS hA
    refine va_calli (va_runV (C := R_Mod) (As := [.int (rA x 99 l1), .int l2]) (rest := []) ⟨hx, hb, hml, hown, hT⟩ (k_Mod_againstLiteral l dC dI cI cB cJ cZ ad H.size (rA x 99 l1) l2 x  hw) ⟨callB_of 2 hT (gwt_in w_13_237) rfl rfl rfl (hT _ w_1_15) (hT _ w_13_234) (by decide +kernel) ⟨Nat.le_trans (Nat.le_of_ble_eq_true rfl) hRf, Nat.le_trans (Nat.le_of_ble_eq_true rfl) hRl⟩, hT _ w_13_236, hT _ ws_259⟩ ⟨PW.blind, va_recv hK hW.1 (ci := 12) (q0 := 0) rfl (pic_obj ko_0.1 ko_0.2 (by decide)), PW.at _ hW hK hN⟩ rfl rfl hl.1 rfl (lv_room (Nat.le_of_ble_eq_true rfl)) d_Mod_mayBe_17 ⟨hRc, hRs⟩) hS (fun q _ h => hF q h) hF (fun r2347 x2346 t H locs ht hvm hw hB hz1 hk1 hS => ?_)
    have hW := Wd.back hB ht hF
    clear hB ht hF hz1 hk1 hvm
    refine lv_if_gt (tgt := 41) hx hb d_Mod_mayBe_20 (by decide) (fun c2348 => ?_) (fun c2348 => ?_)
    · have hw := hw.1 c2348
      exact t_Mod_mayBe_41 hx hb hml hown hT hK hN hA hRc hRs hRf hRl hret  l1 l2 x2346 H locs ls  hw hW hS (lv_sub hl [0, 1, 2] rfl)
    · have hw := hw.2 c2348
      refine lv_aload_n hx hb d_Mod_mayBe_23 rfl (lv_at hl 0 rfl) ?_
      refine lv_aload_n hx hb d_Mod_mayBe_24 rfl (lv_at hl 0 rfl) ?_
      refine w_getf (q := 100) (k := 145) (t := 12) (C := R_Mod) (T := F_Mod) (N := 167) hx hb hT hown hK hW ko_0.1 ko_0.2 (by decide) in_Mod rfl rfl (by decide) rfl fr_Mod_145 w_9_81 d_Mod_mayBe_25 rfl ?_
      refine lv_iload_n hx hb d_Mod_mayBe_28 rfl (lv_at hl 1 rfl) ?_
      obtain ⟨hi, hw⟩ := hw
      refine w_iald (o := 100) hx hb hK hW ko_100.1 ko_100.2 hi d_Mod_mayBe_29 ?_
      refine lv_iload_n hx hb d_Mod_mayBe_30 rfl (lv_at hl 2 rfl) ?_
      have hF := hW.free hS hA
      refine va_calli (va_runV (C := R_Mod) (As := [.int (rA x2346 100 l1), .int l2]) (rest := []) ⟨hx, hb, hml, hown, hT⟩ (k_Mod_againstLiteral l dC dI cI cB cJ cZ ad H.size (rA x2346 100 l1) l2 x2346  hw) ⟨callB_of 2 hT (gwt_in w_13_237) rfl rfl rfl (hT _ w_1_15) (hT _ w_13_234) (by decide +kernel) ⟨Nat.le_trans (Nat.le_of_ble_eq_true rfl) hRf, Nat.le_trans (Nat.le_of_ble_eq_true rfl) hRl⟩, hT _ w_13_236, hT _ ws_259⟩ ⟨PW.blind, va_recv hK hW.1 (ci := 12) (q0 := 0) rfl (pic_obj ko_0.1 ko_0.2 (by decide)), PW.at _ hW hK hN⟩ rfl rfl hl.1 rfl (lv_room (Nat.le_of_ble_eq_true rfl)) d_Mod_mayBe_31 ⟨hRc, hRs⟩) hS (fun q _ h => hF q h) hF (fun r2350 x2349 t H locs ht hvm hw hB hz1 hk1 hS => ?_)
      have hW := Wd.back hB ht hF
      clear hB ht hF hz1 hk1 hvm
      refine lv_if_lt (tgt := 41) hx hb d_Mod_mayBe_34 (by decide) (fun c2351 => ?_) (fun c2351 => ?_)
      · have hw := hw.1 c2351
        exact t_Mod_mayBe_41 hx hb hml hown hT hK hN hA hRc hRs hRf hRl hret  l1 l2 x2349 H locs ls  hw hW hS (lv_sub hl [0, 1, 2] rfl)
      · have hw := hw.2 c2351
        refine lv_iconst (v := 1) hx hb d_Mod_mayBe_37 (by decide) ?_
        refine lv_goto (tgt := 42) hx hb d_Mod_mayBe_38 (by decide) ?_
        exact t_Mod_mayBe_42 hx hb hml hown hT hK hN hA hRc hRs hRf hRl hret  l1 l2 1 x2349 H locs ls  hw hW hS (lv_sub hl [0, 1, 2] rfl)
set_option maxHeartbeats 4000000 in
set_option maxRecDepth 100000 in
theorem k_Mod_mayBe (l : Launch) (dC : Nat → ClassId) (dI : Nat → Nat → Nat) (cI cB cJ cZ : ClassId) (ad : Nat → Nat) (sz : Nat) (l1 : Int32) (l2 : Int32) (x : St) {post : Int32 → St → Prop} (hw : wp_Mod_mayBe post l1 l2 x) : Met l y_Mod_mayBe (wsOf y_Mod_mayBe b_Mod_mayBe 5 (some (.boolean))) ({ frames := 1, cells := 0, slots := 0, locals := 25 }) (va_Pc [.ref (ad 0), .int l1, .int l2] (PW dC dI cI cB cJ cZ ad stM kcM 115 sz x)) (va_Qi (fun (r : Int32) (y : St) => post r y) (fun y t => Wd dC dI cI cB cJ cZ ad stM kcM 115 (va_A (pic ad stM kcM 115 cI cB cJ cZ x) sz) y t.heap) (va_A (pic ad stM kcM 115 cI cB cJ cZ x) sz)) 0 0 (va_A (pic ad stM kcM 115 cI cB cJ cZ x) sz) := by
  refine Met.ofW (cc := b_Mod_mayBe) (maxL := 5) (ret := some (.boolean)) (by decide) rfl ?_
  intro p e s m args below meth c s₁ B hml hv
  obtain ⟨rfl, hsz, hW0, hK, hN⟩ := hv
  have hx := B.exec
  have hb := B.bytes
  have hr := B.returns
  have hts := atoms_spec B.pre
  have hT : ∀ w ∈ TG, w.before _ s = true := fun w h => hts w (List.mem_cons_of_mem _ h)
  have hown : s.vm.findClass R_Mod = some m.cls := findClass_of_methodNamed B.named
  have hlocks := B.notSynchronized
  subst hsz
  have hW : Wd dC dI cI cB cJ cZ ad stM kcM 115 (va_A (pic ad stM kcM 115 cI cB cJ cZ x) s.heap.size) x s.heap := ⟨hW0.1, hW0.2.1.self (sz := s.heap.size), hW0.2.2⟩
  generalize hAe : va_A (pic ad stM kcM 115 cI cB cJ cZ x) s.heap.size = A at hW ⊢
  have hA : ∀ q : Nat, s.heap.size ≤ q → A q := fun q h => by rw [← hAe]; exact Or.inr h
  have hS : va_S A s.heap s.heap [] := va_S.rf
  have hl := lv_entry ([.ref (ad 0), .int l1, .int l2]) (n := 5) (Nat.le_of_ble_eq_true rfl)
  rw [lg_entry_eq]
  generalize (lg_sl ([.ref (ad 0), .int l1, .int l2]) ++ List.replicate (5 - (lg_sl ([.ref (ad 0), .int l1, .int l2])).length) Slot.unset).toArray = ls at hl ⊢
  have hl : lv_has ls 5 [(0, .ref (ad 0)), (1, .int l1), (2, .int l2)] := hl
  exact t_Mod_mayBe_e hx hb hml hown hT hK hN hA (Nat.le_refl 0) (Nat.le_refl 0) (Nat.le_refl 1) (Nat.le_refl 25) (fun r x H locs pc ls hd hz hp hW hS => W.zret (v := r) (ty := .boolean) hx hb hr hz (fun t ht hM => ⟨⟨r, x, rfl, hp, Wd.back hW ht.symm (fun _ z => z)⟩, hS.F ht⟩) hS.2.2 hd hlocks)  l1 l2 x _ _ ls  hw hW hS hl
set_option maxRecDepth 100000 in
set_option maxHeartbeats 4000000 in
set_option maxRecDepth 100000 in
theorem t_Mod_canBeOther_175 {p : Program} {l : Launch} {e : Env} {R : Room} {s : State} {m : MethodId} {args : Array Value} {below : List Frame} {meth : Method} {c : Code} {cells slots : Nat} {Q : State → Prop} {dC : Nat → ClassId} {dI : Nat → Nat → Nat} {cI cB cJ cZ : ClassId} {A : Nat → Prop} {ad : Nat → Nat} {post : Int32 → St → Prop} {rec80 : Int32 → Int32 → Int32 → Int32 → Int32 → Int32 → St → Prop} (hx : p.tables.exec = Jvm.exec) (hb : c.code = b_Mod_canBeOther) (hml : c.maxLocals = 9) (hown : s.vm.findClass R_Mod = some m.cls) (hT : ∀ w ∈ TG, w.before args s = true) (hK : va_K (dC, dI) CL (TY cI cB cJ cZ) s) (hN : NW s) (hA : ∀ q : Nat, s.heap.size ≤ q → A q) (hRc : cells ≤ R.cells) (hRs : slots ≤ R.slots) (hRf : 2 ≤ R.frames) (hRl : 43 ≤ R.locals) (hret : ∀ (r : Int32) (x : St) (H : Heap) (locs : List Loc) (pc : Nat) (ls : Array Slot), decode b_Mod_canBeOther pc = .ok (.ireturn, 1) → narrow .boolean (.int r) = .int r → post r x → Wd dC dI cI cB cJ cZ ad stM kcM 115 A x H → va_S A s.heap H locs → W p l e R s m args below meth c H locs cells slots Q (F0 m pc ls [.int r])) (hrec80 : ∀ (l1 : Int32) (l2 : Int32) (l3 : Int32) (l4 : Int32) (l5 : Int32) (l6 : Int32) (x : St) (H : Heap) (locs : List Loc) (ls : Array Slot), rec80 l1 l2 l3 l4 l5 l6 x → Wd dC dI cI cB cJ cZ ad stM kcM 115 A x H → va_S A s.heap H locs → lv_has ls 9 [(0, .ref (ad 0)), (1, .int l1), (2, .int l2), (3, .int l3), (4, .int l4), (5, .int l5), (6, .int l6)] → W p l e R s m args below meth c H locs cells slots Q (F0 m 80 ls [])) : ∀ (l1 : Int32) (l2 : Int32) (l3 : Int32) (l4 : Int32) (l5 : Int32) (l6 : Int32) (l7 : Int32) (l8 : Int32) (s0 : Int32) (x : St) (H : Heap) (locs : List Loc) (ls : Array Slot), j_Mod_canBeOther_175 post rec80 l1 l2 l3 l4 l5 l6 l7 l8 s0 x → Wd dC dI cI cB cJ cZ ad stM kcM 115 A x H → va_S A s.heap H locs → lv_has ls 9 [(0, .ref (ad 0)), (1, .int l1), (2, .int l2), (3, .int l3), (4, .int l4), (5, .int l5), (6, .int l6), (7, .int l7), (8, .int l8)] → W p l e R s m args below meth c H locs cells slots Q (F0 m 175 ls [.int s0]) := by
  intro l1 l2 l3 l4 l5 l6 l7 l8 s0 x H locs ls  hw hW hS hl
  unfold j_Mod_canBeOther_175 at hw
  refine lv_istore (lv' := [(4, .int s0), (0, .ref (ad 0)), (1, .int l1), (2, .int l2), (3, .int l3), (5, .int l5), (6, .int l6), (7, .int l7), (8, .int l8)]) hx hb d_Mod_canBeOther_175 hl (by decide) rfl (fun ls hl => ?_)
  refine lv_iinc (v := (l6 + 1)) (lv' := [(6, .int (l6 + 1)), (4, .int s0), (0, .ref (ad 0)), (1, .int l1), (2, .int l2), (3, .int l3), (5, .int l5), (7, .int l7), (8, .int l8)]) hx hb d_Mod_canBeOther_177 hl (k := 6) rfl rfl (by decide) rfl (fun ls hl => ?_)
  refine lv_goto (tgt := 80) hx hb d_Mod_canBeOther_180 (by decide) ?_
  exact hrec80 l1 l2 l3 s0 l5 (l6 + 1) x H locs ls  hw hW hS (lv_sub hl [2, 3, 4, 5, 1, 6, 0] rfl)
set_option maxRecDepth 100000 in
set_option maxHeartbeats 4000000 in
set_option maxRecDepth 100000 in
theorem t_Mod_canBeOther_170 {p : Program} {l : Launch} {e : Env} {R : Room} {s : State} {m : MethodId} {args : Array Value} {below : List Frame} {meth : Method} {c : Code} {cells slots : Nat} {Q : State → Prop} {dC : Nat → ClassId} {dI : Nat → Nat → Nat} {cI cB cJ cZ : ClassId} {A : Nat → Prop} {ad : Nat → Nat} {post : Int32 → St → Prop} {rec80 : Int32 → Int32 → Int32 → Int32 → Int32 → Int32 → St → Prop} (hx : p.tables.exec = Jvm.exec) (hb : c.code = b_Mod_canBeOther) (hml : c.maxLocals = 9) (hown : s.vm.findClass R_Mod = some m.cls) (hT : ∀ w ∈ TG, w.before args s = true) (hK : va_K (dC, dI) CL (TY cI cB cJ cZ) s) (hN : NW s) (hA : ∀ q : Nat, s.heap.size ≤ q → A q) (hRc : cells ≤ R.cells) (hRs : slots ≤ R.slots) (hRf : 2 ≤ R.frames) (hRl : 43 ≤ R.locals) (hret : ∀ (r : Int32) (x : St) (H : Heap) (locs : List Loc) (pc : Nat) (ls : Array Slot), decode b_Mod_canBeOther pc = .ok (.ireturn, 1) → narrow .boolean (.int r) = .int r → post r x → Wd dC dI cI cB cJ cZ ad stM kcM 115 A x H → va_S A s.heap H locs → W p l e R s m args below meth c H locs cells slots Q (F0 m pc ls [.int r])) (hrec80 : ∀ (l1 : Int32) (l2 : Int32) (l3 : Int32) (l4 : Int32) (l5 : Int32) (l6 : Int32) (x : St) (H : Heap) (locs : List Loc) (ls : Array Slot), rec80 l1 l2 l3 l4 l5 l6 x → Wd dC dI cI cB cJ cZ ad stM kcM 115 A x H → va_S A s.heap H locs → lv_has ls 9 [(0, .ref (ad 0)), (1, .int l1), (2, .int l2), (3, .int l3), (4, .int l4), (5, .int l5), (6, .int l6)] → W p l e R s m args below meth c H locs cells slots Q (F0 m 80 ls [])) : ∀ (l1 : Int32) (l2 : Int32) (l3 : Int32) (l4 : Int32) (l5 : Int32) (l6 : Int32) (l7 : Int32) (l8 : Int32) (x : St) (H : Heap) (locs : List Loc) (ls : Array Slot), j_Mod_canBeOther_170 post rec80 l1 l2 l3 l4 l5 l6 l7 l8 x → Wd dC dI cI cB cJ cZ ad stM kcM 115 A x H → va_S A s.heap H locs → lv_has ls 9 [(0, .ref (ad 0)), (1, .int l1), (2, .int l2), (3, .int l3), (4, .int l4), (5, .int l5), (6, .int l6), (7, .int l7), (8, .int l8)] → W p l e R s m args below meth c H locs cells slots Q (F0 m 170 ls []) := by
  intro l1 l2 l3 l4 l5 l6 l7 l8 x H locs ls  hw hW hS hl
  unfold j_Mod_canBeOther_170 at hw
  refine lv_iconst (v := 1) hx hb d_Mod_canBeOther_170 (by decide) ?_
  refine lv_goto (tgt := 175) hx hb d_Mod_canBeOther_171 (by decide) ?_
  exact t_Mod_canBeOther_175 hx hb hml hown hT hK hN hA hRc hRs hRf hRl hret hrec80 l1 l2 l3 l4 l5 l6 l7 l8 1 x H locs ls  hw hW hS (lv_sub hl [0, 1, 2, 3, 4, 5, 6, 7, 8] rfl)
set_option maxRecDepth 100000 in
set_option maxHeartbeats 4000000 in
set_option maxRecDepth 100000 in
theorem t_Mod_canBeOther_152 {p : Program} {l : Launch} {e : Env} {R : Room} {s : State} {m : MethodId} {args : Array Value} {below : List Frame} {meth : Method} {c : Code} {cells slots : Nat} {Q : State → Prop} {dC : Nat → ClassId} {dI : Nat → Nat → Nat} {cI cB cJ cZ : ClassId} {A : Nat → Prop} {ad : Nat → Nat} {post : Int32 → St → Prop} {rec80 : Int32 → Int32 → Int32 → Int32 → Int32 → Int32 → St → Prop} {rec93 : Int32 → Int32 → Int32 → Int32 → Int32 → Int32 → Int32 → Int32 → St → Prop} (hx : p.tables.exec = Jvm.exec) (hb : c.code = b_Mod_canBeOther) (hml : c.maxLocals = 9) (hown : s.vm.findClass R_Mod = some m.cls) (hT : ∀ w ∈ TG, w.before args s = true) (hK : va_K (dC, dI) CL (TY cI cB cJ cZ) s) (hN : NW s) (hA : ∀ q : Nat, s.heap.size ≤ q → A q) (hRc : cells ≤ R.cells) (hRs : slots ≤ R.slots) (hRf : 2 ≤ R.frames) (hRl : 43 ≤ R.locals) (hret : ∀ (r : Int32) (x : St) (H : Heap) (locs : List Loc) (pc : Nat) (ls : Array Slot), decode b_Mod_canBeOther pc = .ok (.ireturn, 1) → narrow .boolean (.int r) = .int r → post r x → Wd dC dI cI cB cJ cZ ad stM kcM 115 A x H → va_S A s.heap H locs → W p l e R s m args below meth c H locs cells slots Q (F0 m pc ls [.int r])) (hrec80 : ∀ (l1 : Int32) (l2 : Int32) (l3 : Int32) (l4 : Int32) (l5 : Int32) (l6 : Int32) (x : St) (H : Heap) (locs : List Loc) (ls : Array Slot), rec80 l1 l2 l3 l4 l5 l6 x → Wd dC dI cI cB cJ cZ ad stM kcM 115 A x H → va_S A s.heap H locs → lv_has ls 9 [(0, .ref (ad 0)), (1, .int l1), (2, .int l2), (3, .int l3), (4, .int l4), (5, .int l5), (6, .int l6)] → W p l e R s m args below meth c H locs cells slots Q (F0 m 80 ls [])) (hrec93 : ∀ (l1 : Int32) (l2 : Int32) (l3 : Int32) (l4 : Int32) (l5 : Int32) (l6 : Int32) (l7 : Int32) (l8 : Int32) (x : St) (H : Heap) (locs : List Loc) (ls : Array Slot), rec93 l1 l2 l3 l4 l5 l6 l7 l8 x → Wd dC dI cI cB cJ cZ ad stM kcM 115 A x H → va_S A s.heap H locs → lv_has ls 9 [(0, .ref (ad 0)), (1, .int l1), (2, .int l2), (3, .int l3), (4, .int l4), (5, .int l5), (6, .int l6), (7, .int l7), (8, .int l8)] → W p l e R s m args below meth c H locs cells slots Q (F0 m 93 ls [])) : ∀ (l1 : Int32) (l2 : Int32) (l3 : Int32) (l4 : Int32) (l5 : Int32) (l6 : Int32) (l7 : Int32) (l8 : Int32) (s0 : Int32) (x : St) (H : Heap) (locs : List Loc) (ls : Array Slot), j_Mod_canBeOther_152 post rec80 rec93 l1 l2 l3 l4 l5 l6 l7 l8 s0 x → Wd dC dI cI cB cJ cZ ad stM kcM 115 A x H → va_S A s.heap H locs → lv_has ls 9 [(0, .ref (ad 0)), (1, .int l1), (2, .int l2), (3, .int l3), (4, .int l4), (5, .int l5), (6, .int l6), (7, .int l7), (8, .int l8)] → W p l e R s m args below meth c H locs cells slots Q (F0 m 152 ls [.int s0]) := by
  intro l1 l2 l3 l4 l5 l6 l7 l8 s0 x H locs ls  hw hW hS hl
  unfold j_Mod_canBeOther_152 at hw
  refine lv_istore (lv' := [(7, .int s0), (0, .ref (ad 0)), (1, .int l1), (2, .int l2), (3, .int l3), (4, .int l4), (5, .int l5), (6, .int l6), (8, .int l8)]) hx hb d_Mod_canBeOther_152 hl (by decide) rfl (fun ls hl => ?_)
  refine lv_iinc (v := (l8 + 1)) (lv' := [(8, .int (l8 + 1)), (7, .int s0), (0, .ref (ad 0)), (1, .int l1), (2, .int l2), (3, .int l3), (4, .int l4), (5, .int l5), (6, .int l6)]) hx hb d_Mod_canBeOther_154 hl (k := 8) rfl rfl (by decide) rfl (fun ls hl => ?_)
  refine lv_goto (tgt := 93) hx hb d_Mod_canBeOther_157 (by decide) ?_
  exact hrec93 l1 l2 l3 l4 l5 l6 s0 (l8 + 1) x H locs ls  hw hW hS (lv_sub hl [2, 3, 4, 5, 6, 7, 8, 1, 0] rfl)
set_option maxRecDepth 100000 in
set_option maxHeartbeats 4000000 in
set_option maxRecDepth 100000 in
theorem t_Mod_canBeOther_147 {p : Program} {l : Launch} {e : Env} {R : Room} {s : State} {m : MethodId} {args : Array Value} {below : List Frame} {meth : Method} {c : Code} {cells slots : Nat} {Q : State → Prop} {dC : Nat → ClassId} {dI : Nat → Nat → Nat} {cI cB cJ cZ : ClassId} {A : Nat → Prop} {ad : Nat → Nat} {post : Int32 → St → Prop} {rec80 : Int32 → Int32 → Int32 → Int32 → Int32 → Int32 → St → Prop} {rec93 : Int32 → Int32 → Int32 → Int32 → Int32 → Int32 → Int32 → Int32 → St → Prop} (hx : p.tables.exec = Jvm.exec) (hb : c.code = b_Mod_canBeOther) (hml : c.maxLocals = 9) (hown : s.vm.findClass R_Mod = some m.cls) (hT : ∀ w ∈ TG, w.before args s = true) (hK : va_K (dC, dI) CL (TY cI cB cJ cZ) s) (hN : NW s) (hA : ∀ q : Nat, s.heap.size ≤ q → A q) (hRc : cells ≤ R.cells) (hRs : slots ≤ R.slots) (hRf : 2 ≤ R.frames) (hRl : 43 ≤ R.locals) (hret : ∀ (r : Int32) (x : St) (H : Heap) (locs : List Loc) (pc : Nat) (ls : Array Slot), decode b_Mod_canBeOther pc = .ok (.ireturn, 1) → narrow .boolean (.int r) = .int r → post r x → Wd dC dI cI cB cJ cZ ad stM kcM 115 A x H → va_S A s.heap H locs → W p l e R s m args below meth c H locs cells slots Q (F0 m pc ls [.int r])) (hrec80 : ∀ (l1 : Int32) (l2 : Int32) (l3 : Int32) (l4 : Int32) (l5 : Int32) (l6 : Int32) (x : St) (H : Heap) (locs : List Loc) (ls : Array Slot), rec80 l1 l2 l3 l4 l5 l6 x → Wd dC dI cI cB cJ cZ ad stM kcM 115 A x H → va_S A s.heap H locs → lv_has ls 9 [(0, .ref (ad 0)), (1, .int l1), (2, .int l2), (3, .int l3), (4, .int l4), (5, .int l5), (6, .int l6)] → W p l e R s m args below meth c H locs cells slots Q (F0 m 80 ls [])) (hrec93 : ∀ (l1 : Int32) (l2 : Int32) (l3 : Int32) (l4 : Int32) (l5 : Int32) (l6 : Int32) (l7 : Int32) (l8 : Int32) (x : St) (H : Heap) (locs : List Loc) (ls : Array Slot), rec93 l1 l2 l3 l4 l5 l6 l7 l8 x → Wd dC dI cI cB cJ cZ ad stM kcM 115 A x H → va_S A s.heap H locs → lv_has ls 9 [(0, .ref (ad 0)), (1, .int l1), (2, .int l2), (3, .int l3), (4, .int l4), (5, .int l5), (6, .int l6), (7, .int l7), (8, .int l8)] → W p l e R s m args below meth c H locs cells slots Q (F0 m 93 ls [])) : ∀ (l1 : Int32) (l2 : Int32) (l3 : Int32) (l4 : Int32) (l5 : Int32) (l6 : Int32) (l7 : Int32) (l8 : Int32) (x : St) (H : Heap) (locs : List Loc) (ls : Array Slot), j_Mod_canBeOther_147 post rec80 rec93 l1 l2 l3 l4 l5 l6 l7 l8 x → Wd dC dI cI cB cJ cZ ad stM kcM 115 A x H → va_S A s.heap H locs → lv_has ls 9 [(0, .ref (ad 0)), (1, .int l1), (2, .int l2), (3, .int l3), (4, .int l4), (5, .int l5), (6, .int l6), (7, .int l7), (8, .int l8)] → W p l e R s m args below meth c H locs cells slots Q (F0 m 147 ls []) := by
  intro l1 l2 l3 l4 l5 l6 l7 l8 x H locs ls  hw hW hS hl
  unfold j_Mod_canBeOther_147 at hw
  refine lv_iconst (v := 1) hx hb d_Mod_canBeOther_147 (by decide) ?_
  refine lv_goto (tgt := 152) hx hb d_Mod_canBeOther_148 (by decide) ?_
  exact t_Mod_canBeOther_152 hx hb hml hown hT hK hN hA hRc hRs hRf hRl hret hrec80 hrec93 l1 l2 l3 l4 l5 l6 l7 l8 1 x H locs ls  hw hW hS (lv_sub hl [0, 1, 2, 3, 4, 5, 6, 7, 8] rfl)
set_option maxRecDepth 100000 in
set_option maxHeartbeats 4000000 in
set_option maxRecDepth 100000 in
theorem t_Mod_canBeOther_137 {p : Program} {l : Launch} {e : Env} {R : Room} {s : State} {m : MethodId} {args : Array Value} {below : List Frame} {meth : Method} {c : Code} {cells slots : Nat} {Q : State → Prop} {dC : Nat → ClassId} {dI : Nat → Nat → Nat} {cI cB cJ cZ : ClassId} {A : Nat → Prop} {ad : Nat → Nat} {post : Int32 → St → Prop} {rec80 : Int32 → Int32 → Int32 → Int32 → Int32 → Int32 → St → Prop} {rec93 : Int32 → Int32 → Int32 → Int32 → Int32 → Int32 → Int32 → Int32 → St → Prop} (hx : p.tables.exec = Jvm.exec) (hb : c.code = b_Mod_canBeOther) (hml : c.maxLocals = 9) (hown : s.vm.findClass R_Mod = some m.cls) (hT : ∀ w ∈ TG, w.before args s = true) (hK : va_K (dC, dI) CL (TY cI cB cJ cZ) s) (hN : NW s) (hA : ∀ q : Nat, s.heap.size ≤ q → A q) (hRc : cells ≤ R.cells) (hRs : slots ≤ R.slots) (hRf : 2 ≤ R.frames) (hRl : 43 ≤ R.locals) (hret : ∀ (r : Int32) (x : St) (H : Heap) (locs : List Loc) (pc : Nat) (ls : Array Slot), decode b_Mod_canBeOther pc = .ok (.ireturn, 1) → narrow .boolean (.int r) = .int r → post r x → Wd dC dI cI cB cJ cZ ad stM kcM 115 A x H → va_S A s.heap H locs → W p l e R s m args below meth c H locs cells slots Q (F0 m pc ls [.int r])) (hrec80 : ∀ (l1 : Int32) (l2 : Int32) (l3 : Int32) (l4 : Int32) (l5 : Int32) (l6 : Int32) (x : St) (H : Heap) (locs : List Loc) (ls : Array Slot), rec80 l1 l2 l3 l4 l5 l6 x → Wd dC dI cI cB cJ cZ ad stM kcM 115 A x H → va_S A s.heap H locs → lv_has ls 9 [(0, .ref (ad 0)), (1, .int l1), (2, .int l2), (3, .int l3), (4, .int l4), (5, .int l5), (6, .int l6)] → W p l e R s m args below meth c H locs cells slots Q (F0 m 80 ls [])) (hrec93 : ∀ (l1 : Int32) (l2 : Int32) (l3 : Int32) (l4 : Int32) (l5 : Int32) (l6 : Int32) (l7 : Int32) (l8 : Int32) (x : St) (H : Heap) (locs : List Loc) (ls : Array Slot), rec93 l1 l2 l3 l4 l5 l6 l7 l8 x → Wd dC dI cI cB cJ cZ ad stM kcM 115 A x H → va_S A s.heap H locs → lv_has ls 9 [(0, .ref (ad 0)), (1, .int l1), (2, .int l2), (3, .int l3), (4, .int l4), (5, .int l5), (6, .int l6), (7, .int l7), (8, .int l8)] → W p l e R s m args below meth c H locs cells slots Q (F0 m 93 ls [])) : ∀ (l1 : Int32) (l2 : Int32) (l3 : Int32) (l4 : Int32) (l5 : Int32) (l6 : Int32) (l7 : Int32) (l8 : Int32) (s0 : Int32) (x : St) (H : Heap) (locs : List Loc) (ls : Array Slot), j_Mod_canBeOther_137 post rec80 rec93 l1 l2 l3 l4 l5 l6 l7 l8 s0 x → Wd dC dI cI cB cJ cZ ad stM kcM 115 A x H → va_S A s.heap H locs → lv_has ls 9 [(0, .ref (ad 0)), (1, .int l1), (2, .int l2), (3, .int l3), (4, .int l4), (5, .int l5), (6, .int l6), (7, .int l7), (8, .int l8)] → W p l e R s m args below meth c H locs cells slots Q (F0 m 137 ls [.int s0, .ref (ad 0)]) := by
  intro l1 l2 l3 l4 l5 l6 l7 l8 s0 x H locs ls  hw hW hS hl
  unfold j_Mod_canBeOther_137 at hw
  refine lv_iload_n hx hb d_Mod_canBeOther_137 rfl (lv_at hl 3 rfl) ?_
  refine lv_iload hx hb d_Mod_canBeOther_138 (lv_at hl 8 rfl) ?_
  refine lv_iadd hx hb d_Mod_canBeOther_140 ?_
  have hF := hW.free hS hA
  refine va_calli (va_runV (C := R_Mod) (As := [.int s0, .int (l3 + l8)]) (rest := []) ⟨hx, hb, hml, hown, hT⟩ (k_Mod_againstLiteral l dC dI cI cB cJ cZ ad H.size s0 (l3 + l8) x  hw) ⟨callB_of 2 hT (gwt_in w_13_237) rfl rfl rfl (hT _ w_1_15) (hT _ w_13_234) (by decide +kernel) ⟨Nat.le_trans (Nat.le_of_ble_eq_true rfl) hRf, Nat.le_trans (Nat.le_of_ble_eq_true rfl) hRl⟩, hT _ w_13_236, hT _ ws_259⟩ ⟨PW.blind, va_recv hK hW.1 (ci := 12) (q0 := 0) rfl (pic_obj ko_0.1 ko_0.2 (by decide)), PW.at _ hW hK hN⟩ rfl rfl hl.1 rfl (lv_room (Nat.le_of_ble_eq_true rfl)) d_Mod_canBeOther_141 ⟨hRc, hRs⟩) hS (fun q _ h => hF q h) hF (fun r2353 x2352 t H locs ht hvm hw hB hz1 hk1 hS => ?_)
  have hW := Wd.back hB ht hF
  clear hB ht hF hz1 hk1 hvm
  refine lv_if_ne (tgt := 151) hx hb d_Mod_canBeOther_144 (by decide) (fun c2354 => ?_) (fun c2354 => ?_)
  · have hw := hw.1 c2354
    refine lv_iconst (v := 0) hx hb d_Mod_canBeOther_151 (by decide) ?_
    exact t_Mod_canBeOther_152 hx hb hml hown hT hK hN hA hRc hRs hRf hRl hret hrec80 hrec93 l1 l2 l3 l4 l5 l6 l7 l8 0 x2352 H locs ls  hw hW hS (lv_sub hl [0, 1, 2, 3, 4, 5, 6, 7, 8] rfl)
  · have hw := hw.2 c2354
    exact t_Mod_canBeOther_147 hx hb hml hown hT hK hN hA hRc hRs hRf hRl hret hrec80 hrec93 l1 l2 l3 l4 l5 l6 l7 l8 x2352 H locs ls  hw hW hS (lv_sub hl [0, 1, 2, 3, 4, 5, 6, 7, 8] rfl)
set_option maxRecDepth 100000 in
set_option maxHeartbeats 4000000 in
set_option maxRecDepth 100000 in
theorem t_Mod_canBeOther_93 {p : Program} {l : Launch} {e : Env} {R : Room} {s : State} {m : MethodId} {args : Array Value} {below : List Frame} {meth : Method} {c : Code} {cells slots : Nat} {Q : State → Prop} {dC : Nat → ClassId} {dI : Nat → Nat → Nat} {cI cB cJ cZ : ClassId} {A : Nat → Prop} {ad : Nat → Nat} {post : Int32 → St → Prop} {rec80 : Int32 → Int32 → Int32 → Int32 → Int32 → Int32 → St → Prop} {rec93 : Int32 → Int32 → Int32 → Int32 → Int32 → Int32 → Int32 → Int32 → St → Prop} (hx : p.tables.exec = Jvm.exec) (hb : c.code = b_Mod_canBeOther) (hml : c.maxLocals = 9) (hown : s.vm.findClass R_Mod = some m.cls) (hT : ∀ w ∈ TG, w.before args s = true) (hK : va_K (dC, dI) CL (TY cI cB cJ cZ) s) (hN : NW s) (hA : ∀ q : Nat, s.heap.size ≤ q → A q) (hRc : cells ≤ R.cells) (hRs : slots ≤ R.slots) (hRf : 2 ≤ R.frames) (hRl : 43 ≤ R.locals) (hret : ∀ (r : Int32) (x : St) (H : Heap) (locs : List Loc) (pc : Nat) (ls : Array Slot), decode b_Mod_canBeOther pc = .ok (.ireturn, 1) → narrow .boolean (.int r) = .int r → post r x → Wd dC dI cI cB cJ cZ ad stM kcM 115 A x H → va_S A s.heap H locs → W p l e R s m args below meth c H locs cells slots Q (F0 m pc ls [.int r])) (hrec80 : ∀ (l1 : Int32) (l2 : Int32) (l3 : Int32) (l4 : Int32) (l5 : Int32) (l6 : Int32) (x : St) (H : Heap) (locs : List Loc) (ls : Array Slot), rec80 l1 l2 l3 l4 l5 l6 x → Wd dC dI cI cB cJ cZ ad stM kcM 115 A x H → va_S A s.heap H locs → lv_has ls 9 [(0, .ref (ad 0)), (1, .int l1), (2, .int l2), (3, .int l3), (4, .int l4), (5, .int l5), (6, .int l6)] → W p l e R s m args below meth c H locs cells slots Q (F0 m 80 ls [])) (hrec93 : ∀ (l1 : Int32) (l2 : Int32) (l3 : Int32) (l4 : Int32) (l5 : Int32) (l6 : Int32) (l7 : Int32) (l8 : Int32) (x : St) (H : Heap) (locs : List Loc) (ls : Array Slot), rec93 l1 l2 l3 l4 l5 l6 l7 l8 x → Wd dC dI cI cB cJ cZ ad stM kcM 115 A x H → va_S A s.heap H locs → lv_has ls 9 [(0, .ref (ad 0)), (1, .int l1), (2, .int l2), (3, .int l3), (4, .int l4), (5, .int l5), (6, .int l6), (7, .int l7), (8, .int l8)] → W p l e R s m args below meth c H locs cells slots Q (F0 m 93 ls [])) : ∀ (l1 : Int32) (l2 : Int32) (l3 : Int32) (l4 : Int32) (l5 : Int32) (l6 : Int32) (l7 : Int32) (l8 : Int32) (x : St) (H : Heap) (locs : List Loc) (ls : Array Slot), j_Mod_canBeOther_93 post rec80 rec93 l1 l2 l3 l4 l5 l6 l7 l8 x → Wd dC dI cI cB cJ cZ ad stM kcM 115 A x H → va_S A s.heap H locs → lv_has ls 9 [(0, .ref (ad 0)), (1, .int l1), (2, .int l2), (3, .int l3), (4, .int l4), (5, .int l5), (6, .int l6), (7, .int l7), (8, .int l8)] → W p l e R s m args below meth c H locs cells slots Q (F0 m 93 ls []) := by
  intro l1 l2 l3 l4 l5 l6 l7 l8 x H locs ls  hw hW hS hl
  unfold j_Mod_canBeOther_93 at hw
  refine lv_iload hx hb d_Mod_canBeOther_93 (lv_at hl 8 rfl) ?_
  refine lv_aload_n hx hb d_Mod_canBeOther_95 rfl (lv_at hl 0 rfl) ?_
  refine w_getf (q := 88) (k := 131) (t := 12) (C := R_Mod) (T := F_Mod) (N := 167) hx hb hT hown hK hW ko_0.1 ko_0.2 (by decide) in_Mod rfl rfl (by decide) rfl fr_Mod_131 w_9_67 d_Mod_canBeOther_96 rfl ?_
  refine lv_iload_n hx hb d_Mod_canBeOther_99 rfl (lv_at hl 2 rfl) ?_
  obtain ⟨hi, hw⟩ := hw
  refine w_iald (o := 88) hx hb hK hW ko_88.1 ko_88.2 hi d_Mod_canBeOther_100 ?_
  refine lv_icmp_ge (tgt := 160) hx hb d_Mod_canBeOther_101 (by decide) (fun c2355 => ?_) (fun c2355 => ?_)
  · have hw := hw.1 c2355
    refine lv_iload hx hb d_Mod_canBeOther_160 (lv_at hl 4 rfl) ?_
    refine lv_if_ne (tgt := 170) hx hb d_Mod_canBeOther_162 (by decide) (fun c2356 => ?_) (fun c2356 => ?_)
    · have hw := hw.1 c2356
      exact t_Mod_canBeOther_170 hx hb hml hown hT hK hN hA hRc hRs hRf hRl hret hrec80 l1 l2 l3 l4 l5 l6 l7 l8 x H locs ls  hw hW hS (lv_sub hl [0, 1, 2, 3, 4, 5, 6, 7, 8] rfl)
    · have hw := hw.2 c2356
      refine lv_iload hx hb d_Mod_canBeOther_165 (lv_at hl 7 rfl) ?_
      refine lv_if_ne (tgt := 174) hx hb d_Mod_canBeOther_167 (by decide) (fun c2357 => ?_) (fun c2357 => ?_)
      · have hw := hw.1 c2357
        refine lv_iconst (v := 0) hx hb d_Mod_canBeOther_174 (by decide) ?_
        exact t_Mod_canBeOther_175 hx hb hml hown hT hK hN hA hRc hRs hRf hRl hret hrec80 l1 l2 l3 l4 l5 l6 l7 l8 0 x H locs ls  hw hW hS (lv_sub hl [0, 1, 2, 3, 4, 5, 6, 7, 8] rfl)
      · have hw := hw.2 c2357
        exact t_Mod_canBeOther_170 hx hb hml hown hT hK hN hA hRc hRs hRf hRl hret hrec80 l1 l2 l3 l4 l5 l6 l7 l8 x H locs ls  hw hW hS (lv_sub hl [0, 1, 2, 3, 4, 5, 6, 7, 8] rfl)
  · have hw := hw.2 c2355
    refine lv_iload hx hb d_Mod_canBeOther_104 (lv_at hl 7 rfl) ?_
    refine lv_if_ne (tgt := 147) hx hb d_Mod_canBeOther_106 (by decide) (fun c2358 => ?_) (fun c2358 => ?_)
    · have hw := hw.1 c2358
      exact t_Mod_canBeOther_147 hx hb hml hown hT hK hN hA hRc hRs hRf hRl hret hrec80 hrec93 l1 l2 l3 l4 l5 l6 l7 l8 x H locs ls  hw hW hS (lv_sub hl [0, 1, 2, 3, 4, 5, 6, 7, 8] rfl)
    · have hw := hw.2 c2358
      refine lv_aload_n hx hb d_Mod_canBeOther_109 rfl (lv_at hl 0 rfl) ?_
      refine lv_aload_n hx hb d_Mod_canBeOther_110 rfl (lv_at hl 0 rfl) ?_
      refine w_getf (q := 102) (k := 147) (t := 12) (C := R_Mod) (T := F_Mod) (N := 167) hx hb hT hown hK hW ko_0.1 ko_0.2 (by decide) in_Mod rfl rfl (by decide) rfl fr_Mod_147 w_9_83 d_Mod_canBeOther_111 rfl ?_
      refine lv_iload_n hx hb d_Mod_canBeOther_114 rfl (lv_at hl 1 rfl) ?_
      obtain ⟨hi, hw⟩ := hw
      refine w_iald (o := 102) hx hb hK hW ko_102.1 ko_102.2 hi d_Mod_canBeOther_115 ?_
      refine lv_if_ne (tgt := 128) hx hb d_Mod_canBeOther_116 (by decide) (fun c2359 => ?_) (fun c2359 => ?_)
      · have hw := hw.1 c2359
        refine lv_aload_n hx hb d_Mod_canBeOther_128 rfl (lv_at hl 0 rfl) ?_
        refine w_getf (q := 101) (k := 146) (t := 12) (C := R_Mod) (T := F_Mod) (N := 167) hx hb hT hown hK hW ko_0.1 ko_0.2 (by decide) in_Mod rfl rfl (by decide) rfl fr_Mod_146 w_9_82 d_Mod_canBeOther_129 rfl ?_
        refine lv_iload_n hx hb d_Mod_canBeOther_132 rfl (lv_at hl 1 rfl) ?_
        obtain ⟨hi, hw⟩ := hw
        refine w_iald (o := 101) hx hb hK hW ko_101.1 ko_101.2 hi d_Mod_canBeOther_133 ?_
        refine lv_iload hx hb d_Mod_canBeOther_134 (lv_at hl 6 rfl) ?_
        refine lv_iadd hx hb d_Mod_canBeOther_136 ?_
        exact t_Mod_canBeOther_137 hx hb hml hown hT hK hN hA hRc hRs hRf hRl hret hrec80 hrec93 l1 l2 l3 l4 l5 l6 l7 l8 ((rA x 101 l1) + l6) x H locs ls  hw hW hS (lv_sub hl [0, 1, 2, 3, 4, 5, 6, 7, 8] rfl)
      · have hw := hw.2 c2359
        refine lv_aload_n hx hb d_Mod_canBeOther_119 rfl (lv_at hl 0 rfl) ?_
        refine w_getf (q := 99) (k := 144) (t := 12) (C := R_Mod) (T := F_Mod) (N := 167) hx hb hT hown hK hW ko_0.1 ko_0.2 (by decide) in_Mod rfl rfl (by decide) rfl fr_Mod_144 w_9_80 d_Mod_canBeOther_120 rfl ?_
        refine lv_iload_n hx hb d_Mod_canBeOther_123 rfl (lv_at hl 1 rfl) ?_
        obtain ⟨hi, hw⟩ := hw
        refine w_iald (o := 99) hx hb hK hW ko_99.1 ko_99.2 hi d_Mod_canBeOther_124 ?_
        refine lv_goto (tgt := 137) hx hb d_Mod_canBeOther_125 (by decide) ?_
        exact t_Mod_canBeOther_137 hx hb hml hown hT hK hN hA hRc hRs hRf hRl hret hrec80 hrec93 l1 l2 l3 l4 l5 l6 l7 l8 (rA x 99 l1) x H locs ls  hw hW hS (lv_sub hl [0, 1, 2, 3, 4, 5, 6, 7, 8] rfl)
set_option maxHeartbeats 4000000 in
set_option maxRecDepth 100000 in
theorem tl_Mod_canBeOther_93 {p : Program} {l : Launch} {e : Env} {R : Room} {s : State} {m : MethodId} {args : Array Value} {below : List Frame} {meth : Method} {c : Code} {cells slots : Nat} {Q : State → Prop} {dC : Nat → ClassId} {dI : Nat → Nat → Nat} {cI cB cJ cZ : ClassId} {A : Nat → Prop} {ad : Nat → Nat} {post : Int32 → St → Prop} {rec80 : Int32 → Int32 → Int32 → Int32 → Int32 → Int32 → St → Prop} (hx : p.tables.exec = Jvm.exec) (hb : c.code = b_Mod_canBeOther) (hml : c.maxLocals = 9) (hown : s.vm.findClass R_Mod = some m.cls) (hT : ∀ w ∈ TG, w.before args s = true) (hK : va_K (dC, dI) CL (TY cI cB cJ cZ) s) (hN : NW s) (hA : ∀ q : Nat, s.heap.size ≤ q → A q) (hRc : cells ≤ R.cells) (hRs : slots ≤ R.slots) (hRf : 2 ≤ R.frames) (hRl : 43 ≤ R.locals) (hret : ∀ (r : Int32) (x : St) (H : Heap) (locs : List Loc) (pc : Nat) (ls : Array Slot), decode b_Mod_canBeOther pc = .ok (.ireturn, 1) → narrow .boolean (.int r) = .int r → post r x → Wd dC dI cI cB cJ cZ ad stM kcM 115 A x H → va_S A s.heap H locs → W p l e R s m args below meth c H locs cells slots Q (F0 m pc ls [.int r])) (hrec80 : ∀ (l1 : Int32) (l2 : Int32) (l3 : Int32) (l4 : Int32) (l5 : Int32) (l6 : Int32) (x : St) (H : Heap) (locs : List Loc) (ls : Array Slot), rec80 l1 l2 l3 l4 l5 l6 x → Wd dC dI cI cB cJ cZ ad stM kcM 115 A x H → va_S A s.heap H locs → lv_has ls 9 [(0, .ref (ad 0)), (1, .int l1), (2, .int l2), (3, .int l3), (4, .int l4), (5, .int l5), (6, .int l6)] → W p l e R s m args below meth c H locs cells slots Q (F0 m 80 ls [])) : ∀ n : Nat, ∀ (l1 : Int32) (l2 : Int32) (l3 : Int32) (l4 : Int32) (l5 : Int32) (l6 : Int32) (l7 : Int32) (l8 : Int32) (x : St) (H : Heap) (locs : List Loc) (ls : Array Slot), wl_Mod_canBeOther_93 post rec80 n l1 l2 l3 l4 l5 l6 l7 l8 x → Wd dC dI cI cB cJ cZ ad stM kcM 115 A x H → va_S A s.heap H locs → lv_has ls 9 [(0, .ref (ad 0)), (1, .int l1), (2, .int l2), (3, .int l3), (4, .int l4), (5, .int l5), (6, .int l6), (7, .int l7), (8, .int l8)] → W p l e R s m args below meth c H locs cells slots Q (F0 m 93 ls []) := by
  intro n
  induction n with
  | zero => intro l1 l2 l3 l4 l5 l6 l7 l8 x H locs ls  hw; exact hw.elim
  | succ n ih => intro l1 l2 l3 l4 l5 l6 l7 l8 x H locs ls  hw hW hS hl; exact t_Mod_canBeOther_93 hx hb hml hown hT hK hN hA hRc hRs hRf hRl hret hrec80 ih l1 l2 l3 l4 l5 l6 l7 l8 x H locs ls  hw hW hS hl
set_option maxRecDepth 100000 in
set_option maxHeartbeats 4000000 in
set_option maxRecDepth 100000 in
theorem t_Mod_canBeOther_80 {p : Program} {l : Launch} {e : Env} {R : Room} {s : State} {m : MethodId} {args : Array Value} {below : List Frame} {meth : Method} {c : Code} {cells slots : Nat} {Q : State → Prop} {dC : Nat → ClassId} {dI : Nat → Nat → Nat} {cI cB cJ cZ : ClassId} {A : Nat → Prop} {ad : Nat → Nat} {post : Int32 → St → Prop} {rec80 : Int32 → Int32 → Int32 → Int32 → Int32 → Int32 → St → Prop} (hx : p.tables.exec = Jvm.exec) (hb : c.code = b_Mod_canBeOther) (hml : c.maxLocals = 9) (hown : s.vm.findClass R_Mod = some m.cls) (hT : ∀ w ∈ TG, w.before args s = true) (hK : va_K (dC, dI) CL (TY cI cB cJ cZ) s) (hN : NW s) (hA : ∀ q : Nat, s.heap.size ≤ q → A q) (hRc : cells ≤ R.cells) (hRs : slots ≤ R.slots) (hRf : 2 ≤ R.frames) (hRl : 43 ≤ R.locals) (hret : ∀ (r : Int32) (x : St) (H : Heap) (locs : List Loc) (pc : Nat) (ls : Array Slot), decode b_Mod_canBeOther pc = .ok (.ireturn, 1) → narrow .boolean (.int r) = .int r → post r x → Wd dC dI cI cB cJ cZ ad stM kcM 115 A x H → va_S A s.heap H locs → W p l e R s m args below meth c H locs cells slots Q (F0 m pc ls [.int r])) (hrec80 : ∀ (l1 : Int32) (l2 : Int32) (l3 : Int32) (l4 : Int32) (l5 : Int32) (l6 : Int32) (x : St) (H : Heap) (locs : List Loc) (ls : Array Slot), rec80 l1 l2 l3 l4 l5 l6 x → Wd dC dI cI cB cJ cZ ad stM kcM 115 A x H → va_S A s.heap H locs → lv_has ls 9 [(0, .ref (ad 0)), (1, .int l1), (2, .int l2), (3, .int l3), (4, .int l4), (5, .int l5), (6, .int l6)] → W p l e R s m args below meth c H locs cells slots Q (F0 m 80 ls [])) : ∀ (l1 : Int32) (l2 : Int32) (l3 : Int32) (l4 : Int32) (l5 : Int32) (l6 : Int32) (x : St) (H : Heap) (locs : List Loc) (ls : Array Slot), j_Mod_canBeOther_80 post rec80 l1 l2 l3 l4 l5 l6 x → Wd dC dI cI cB cJ cZ ad stM kcM 115 A x H → va_S A s.heap H locs → lv_has ls 9 [(0, .ref (ad 0)), (1, .int l1), (2, .int l2), (3, .int l3), (4, .int l4), (5, .int l5), (6, .int l6)] → W p l e R s m args below meth c H locs cells slots Q (F0 m 80 ls []) := by
  intro l1 l2 l3 l4 l5 l6 x H locs ls  hw hW hS hl
  unfold j_Mod_canBeOther_80 at hw
  refine lv_iload hx hb d_Mod_canBeOther_80 (lv_at hl 6 rfl) ?_
  refine lv_iload hx hb d_Mod_canBeOther_82 (lv_at hl 5 rfl) ?_
  refine lv_icmp_ge (tgt := 183) hx hb d_Mod_canBeOther_84 (by decide) (fun c2360 => ?_) (fun c2360 => ?_)
  · have hw := hw.1 c2360
    refine lv_iload hx hb d_Mod_canBeOther_183 (lv_at hl 4 rfl) ?_
    exact hret l4 x H locs 185 ls d_Mod_canBeOther_185 hw.1 hw.2 hW hS
  · have hw := hw.2 c2360
    refine lv_iconst (v := 0) hx hb d_Mod_canBeOther_87 (by decide) ?_
    refine lv_istore (lv' := [(7, .int 0), (0, .ref (ad 0)), (1, .int l1), (2, .int l2), (3, .int l3), (4, .int l4), (5, .int l5), (6, .int l6)]) hx hb d_Mod_canBeOther_88 hl (by decide) rfl (fun ls hl => ?_)
    refine lv_iconst (v := 0) hx hb d_Mod_canBeOther_90 (by decide) ?_
    refine lv_istore (lv' := [(8, .int 0), (7, .int 0), (0, .ref (ad 0)), (1, .int l1), (2, .int l2), (3, .int l3), (4, .int l4), (5, .int l5), (6, .int l6)]) hx hb d_Mod_canBeOther_91 hl (by decide) rfl (fun ls hl => ?_)
    obtain ⟨n, hw⟩ := hw
    exact tl_Mod_canBeOther_93 hx hb hml hown hT hK hN hA hRc hRs hRf hRl hret hrec80 n l1 l2 l3 l4 l5 l6 0 0 x H locs ls  hw hW hS (lv_sub hl [2, 3, 4, 5, 6, 7, 8, 1, 0] rfl)
set_option maxHeartbeats 4000000 in
set_option maxRecDepth 100000 in
theorem tl_Mod_canBeOther_80 {p : Program} {l : Launch} {e : Env} {R : Room} {s : State} {m : MethodId} {args : Array Value} {below : List Frame} {meth : Method} {c : Code} {cells slots : Nat} {Q : State → Prop} {dC : Nat → ClassId} {dI : Nat → Nat → Nat} {cI cB cJ cZ : ClassId} {A : Nat → Prop} {ad : Nat → Nat} {post : Int32 → St → Prop} (hx : p.tables.exec = Jvm.exec) (hb : c.code = b_Mod_canBeOther) (hml : c.maxLocals = 9) (hown : s.vm.findClass R_Mod = some m.cls) (hT : ∀ w ∈ TG, w.before args s = true) (hK : va_K (dC, dI) CL (TY cI cB cJ cZ) s) (hN : NW s) (hA : ∀ q : Nat, s.heap.size ≤ q → A q) (hRc : cells ≤ R.cells) (hRs : slots ≤ R.slots) (hRf : 2 ≤ R.frames) (hRl : 43 ≤ R.locals) (hret : ∀ (r : Int32) (x : St) (H : Heap) (locs : List Loc) (pc : Nat) (ls : Array Slot), decode b_Mod_canBeOther pc = .ok (.ireturn, 1) → narrow .boolean (.int r) = .int r → post r x → Wd dC dI cI cB cJ cZ ad stM kcM 115 A x H → va_S A s.heap H locs → W p l e R s m args below meth c H locs cells slots Q (F0 m pc ls [.int r]))  : ∀ n : Nat, ∀ (l1 : Int32) (l2 : Int32) (l3 : Int32) (l4 : Int32) (l5 : Int32) (l6 : Int32) (x : St) (H : Heap) (locs : List Loc) (ls : Array Slot), wl_Mod_canBeOther_80 post n l1 l2 l3 l4 l5 l6 x → Wd dC dI cI cB cJ cZ ad stM kcM 115 A x H → va_S A s.heap H locs → lv_has ls 9 [(0, .ref (ad 0)), (1, .int l1), (2, .int l2), (3, .int l3), (4, .int l4), (5, .int l5), (6, .int l6)] → W p l e R s m args below meth c H locs cells slots Q (F0 m 80 ls []) := by
  intro n
  induction n with
  | zero => intro l1 l2 l3 l4 l5 l6 x H locs ls  hw; exact hw.elim
  | succ n ih => intro l1 l2 l3 l4 l5 l6 x H locs ls  hw hW hS hl; exact t_Mod_canBeOther_80 hx hb hml hown hT hK hN hA hRc hRs hRf hRl hret  ih l1 l2 l3 l4 l5 l6 x H locs ls  hw hW hS hl
set_option maxRecDepth 100000 in
set_option maxHeartbeats 4000000 in
set_option maxRecDepth 100000 in
theorem t_Mod_canBeOther_75 {p : Program} {l : Launch} {e : Env} {R : Room} {s : State} {m : MethodId} {args : Array Value} {below : List Frame} {meth : Method} {c : Code} {cells slots : Nat} {Q : State → Prop} {dC : Nat → ClassId} {dI : Nat → Nat → Nat} {cI cB cJ cZ : ClassId} {A : Nat → Prop} {ad : Nat → Nat} {post : Int32 → St → Prop} (hx : p.tables.exec = Jvm.exec) (hb : c.code = b_Mod_canBeOther) (hml : c.maxLocals = 9) (hown : s.vm.findClass R_Mod = some m.cls) (hT : ∀ w ∈ TG, w.before args s = true) (hK : va_K (dC, dI) CL (TY cI cB cJ cZ) s) (hN : NW s) (hA : ∀ q : Nat, s.heap.size ≤ q → A q) (hRc : cells ≤ R.cells) (hRs : slots ≤ R.slots) (hRf : 2 ≤ R.frames) (hRl : 43 ≤ R.locals) (hret : ∀ (r : Int32) (x : St) (H : Heap) (locs : List Loc) (pc : Nat) (ls : Array Slot), decode b_Mod_canBeOther pc = .ok (.ireturn, 1) → narrow .boolean (.int r) = .int r → post r x → Wd dC dI cI cB cJ cZ ad stM kcM 115 A x H → va_S A s.heap H locs → W p l e R s m args below meth c H locs cells slots Q (F0 m pc ls [.int r]))  : ∀ (l1 : Int32) (l2 : Int32) (l3 : Int32) (l4 : Int32) (s0 : Int32) (x : St) (H : Heap) (locs : List Loc) (ls : Array Slot), j_Mod_canBeOther_75 post l1 l2 l3 l4 s0 x → Wd dC dI cI cB cJ cZ ad stM kcM 115 A x H → va_S A s.heap H locs → lv_has ls 9 [(0, .ref (ad 0)), (1, .int l1), (2, .int l2), (3, .int l3), (4, .int l4)] → W p l e R s m args below meth c H locs cells slots Q (F0 m 75 ls [.int s0]) := by
  intro l1 l2 l3 l4 s0 x H locs ls  hw hW hS hl
  unfold j_Mod_canBeOther_75 at hw
  refine lv_istore (lv' := [(5, .int s0), (0, .ref (ad 0)), (1, .int l1), (2, .int l2), (3, .int l3), (4, .int l4)]) hx hb d_Mod_canBeOther_75 hl (by decide) rfl (fun ls hl => ?_)
  refine lv_iconst (v := 0) hx hb d_Mod_canBeOther_77 (by decide) ?_
  refine lv_istore (lv' := [(6, .int 0), (5, .int s0), (0, .ref (ad 0)), (1, .int l1), (2, .int l2), (3, .int l3), (4, .int l4)]) hx hb d_Mod_canBeOther_78 hl (by decide) rfl (fun ls hl => ?_)
  obtain ⟨n, hw⟩ := hw
  exact tl_Mod_canBeOther_80 hx hb hml hown hT hK hN hA hRc hRs hRf hRl hret  n l1 l2 l3 l4 s0 0 x H locs ls  hw hW hS (lv_sub hl [2, 3, 4, 5, 6, 1, 0] rfl)
set_option maxRecDepth 100000 in
set_option maxHeartbeats 4000000 in
set_option maxRecDepth 100000 in
theorem t_Mod_canBeOther_54 {p : Program} {l : Launch} {e : Env} {R : Room} {s : State} {m : MethodId} {args : Array Value} {below : List Frame} {meth : Method} {c : Code} {cells slots : Nat} {Q : State → Prop} {dC : Nat → ClassId} {dI : Nat → Nat → Nat} {cI cB cJ cZ : ClassId} {A : Nat → Prop} {ad : Nat → Nat} {post : Int32 → St → Prop} (hx : p.tables.exec = Jvm.exec) (hb : c.code = b_Mod_canBeOther) (hml : c.maxLocals = 9) (hown : s.vm.findClass R_Mod = some m.cls) (hT : ∀ w ∈ TG, w.before args s = true) (hK : va_K (dC, dI) CL (TY cI cB cJ cZ) s) (hN : NW s) (hA : ∀ q : Nat, s.heap.size ≤ q → A q) (hRc : cells ≤ R.cells) (hRs : slots ≤ R.slots) (hRf : 2 ≤ R.frames) (hRl : 43 ≤ R.locals) (hret : ∀ (r : Int32) (x : St) (H : Heap) (locs : List Loc) (pc : Nat) (ls : Array Slot), decode b_Mod_canBeOther pc = .ok (.ireturn, 1) → narrow .boolean (.int r) = .int r → post r x → Wd dC dI cI cB cJ cZ ad stM kcM 115 A x H → va_S A s.heap H locs → W p l e R s m args below meth c H locs cells slots Q (F0 m pc ls [.int r]))  : ∀ (l1 : Int32) (l2 : Int32) (l3 : Int32) (s0 : Int32) (x : St) (H : Heap) (locs : List Loc) (ls : Array Slot), j_Mod_canBeOther_54 post l1 l2 l3 s0 x → Wd dC dI cI cB cJ cZ ad stM kcM 115 A x H → va_S A s.heap H locs → lv_has ls 9 [(0, .ref (ad 0)), (1, .int l1), (2, .int l2), (3, .int l3)] → W p l e R s m args below meth c H locs cells slots Q (F0 m 54 ls [.int s0]) := by
  intro l1 l2 l3 s0 x H locs ls  hw hW hS hl
  unfold j_Mod_canBeOther_54 at hw
  refine lv_istore (lv' := [(4, .int s0), (0, .ref (ad 0)), (1, .int l1), (2, .int l2), (3, .int l3)]) hx hb d_Mod_canBeOther_54 hl (by decide) rfl (fun ls hl => ?_)
  refine lv_aload_n hx hb d_Mod_canBeOther_56 rfl (lv_at hl 1 rfl) ?_
  refine w_getf (q := 102) (k := 147) (t := 12) (C := R_Mod) (T := F_Mod) (N := 167) hx hb hT hown hK hW ko_0.1 ko_0.2 (by decide) in_Mod rfl rfl (by decide) rfl fr_Mod_147 w_9_83 d_Mod_canBeOther_57 rfl ?_
  refine lv_iload_n hx hb d_Mod_canBeOther_60 rfl (lv_at hl 2 rfl) ?_
  obtain ⟨hi, hw⟩ := hw
  refine w_iald (o := 102) hx hb hK hW ko_102.1 ko_102.2 hi d_Mod_canBeOther_61 ?_
  refine lv_if_ne (tgt := 69) hx hb d_Mod_canBeOther_62 (by decide) (fun c2361 => ?_) (fun c2361 => ?_)
  · have hw := hw.1 c2361
    refine lv_aload_n hx hb d_Mod_canBeOther_69 rfl (lv_at hl 1 rfl) ?_
    refine w_getf (q := 102) (k := 147) (t := 12) (C := R_Mod) (T := F_Mod) (N := 167) hx hb hT hown hK hW ko_0.1 ko_0.2 (by decide) in_Mod rfl rfl (by decide) rfl fr_Mod_147 w_9_83 d_Mod_canBeOther_70 rfl ?_
    refine lv_iload_n hx hb d_Mod_canBeOther_73 rfl (lv_at hl 2 rfl) ?_
    obtain ⟨hi, hw⟩ := hw
    refine w_iald (o := 102) hx hb hK hW ko_102.1 ko_102.2 hi d_Mod_canBeOther_74 ?_
    exact t_Mod_canBeOther_75 hx hb hml hown hT hK hN hA hRc hRs hRf hRl hret  l1 l2 l3 s0 (rA x 102 l1) x H locs ls  hw hW hS (lv_sub hl [1, 2, 3, 4, 0] rfl)
  · have hw := hw.2 c2361
    refine lv_iconst (v := 1) hx hb d_Mod_canBeOther_65 (by decide) ?_
    refine lv_goto (tgt := 75) hx hb d_Mod_canBeOther_66 (by decide) ?_
    exact t_Mod_canBeOther_75 hx hb hml hown hT hK hN hA hRc hRs hRf hRl hret  l1 l2 l3 s0 1 x H locs ls  hw hW hS (lv_sub hl [1, 2, 3, 4, 0] rfl)
set_option maxRecDepth 100000 in
set_option maxHeartbeats 4000000 in
set_option maxRecDepth 100000 in
theorem t_Mod_canBeOther_53 {p : Program} {l : Launch} {e : Env} {R : Room} {s : State} {m : MethodId} {args : Array Value} {below : List Frame} {meth : Method} {c : Code} {cells slots : Nat} {Q : State → Prop} {dC : Nat → ClassId} {dI : Nat → Nat → Nat} {cI cB cJ cZ : ClassId} {A : Nat → Prop} {ad : Nat → Nat} {post : Int32 → St → Prop} (hx : p.tables.exec = Jvm.exec) (hb : c.code = b_Mod_canBeOther) (hml : c.maxLocals = 9) (hown : s.vm.findClass R_Mod = some m.cls) (hT : ∀ w ∈ TG, w.before args s = true) (hK : va_K (dC, dI) CL (TY cI cB cJ cZ) s) (hN : NW s) (hA : ∀ q : Nat, s.heap.size ≤ q → A q) (hRc : cells ≤ R.cells) (hRs : slots ≤ R.slots) (hRf : 2 ≤ R.frames) (hRl : 43 ≤ R.locals) (hret : ∀ (r : Int32) (x : St) (H : Heap) (locs : List Loc) (pc : Nat) (ls : Array Slot), decode b_Mod_canBeOther pc = .ok (.ireturn, 1) → narrow .boolean (.int r) = .int r → post r x → Wd dC dI cI cB cJ cZ ad stM kcM 115 A x H → va_S A s.heap H locs → W p l e R s m args below meth c H locs cells slots Q (F0 m pc ls [.int r]))  : ∀ (l1 : Int32) (l2 : Int32) (l3 : Int32) (x : St) (H : Heap) (locs : List Loc) (ls : Array Slot), j_Mod_canBeOther_53 post l1 l2 l3 x → Wd dC dI cI cB cJ cZ ad stM kcM 115 A x H → va_S A s.heap H locs → lv_has ls 9 [(0, .ref (ad 0)), (1, .int l1), (2, .int l2), (3, .int l3)] → W p l e R s m args below meth c H locs cells slots Q (F0 m 53 ls []) := by
  intro l1 l2 l3 x H locs ls  hw hW hS hl
  unfold j_Mod_canBeOther_53 at hw
  refine lv_iconst (v := 0) hx hb d_Mod_canBeOther_53 (by decide) ?_
  exact t_Mod_canBeOther_54 hx hb hml hown hT hK hN hA hRc hRs hRf hRl hret  l1 l2 l3 0 x H locs ls  hw hW hS (lv_sub hl [0, 1, 2, 3] rfl)
set_option maxRecDepth 100000 in
set_option maxHeartbeats 4000000 in
set_option maxRecDepth 100000 in
theorem t_Mod_canBeOther_e {p : Program} {l : Launch} {e : Env} {R : Room} {s : State} {m : MethodId} {args : Array Value} {below : List Frame} {meth : Method} {c : Code} {cells slots : Nat} {Q : State → Prop} {dC : Nat → ClassId} {dI : Nat → Nat → Nat} {cI cB cJ cZ : ClassId} {A : Nat → Prop} {ad : Nat → Nat} {post : Int32 → St → Prop} (hx : p.tables.exec = Jvm.exec) (hb : c.code = b_Mod_canBeOther) (hml : c.maxLocals = 9) (hown : s.vm.findClass R_Mod = some m.cls) (hT : ∀ w ∈ TG, w.before args s = true) (hK : va_K (dC, dI) CL (TY cI cB cJ cZ) s) (hN : NW s) (hA : ∀ q : Nat, s.heap.size ≤ q → A q) (hRc : cells ≤ R.cells) (hRs : slots ≤ R.slots) (hRf : 2 ≤ R.frames) (hRl : 43 ≤ R.locals) (hret : ∀ (r : Int32) (x : St) (H : Heap) (locs : List Loc) (pc : Nat) (ls : Array Slot), decode b_Mod_canBeOther pc = .ok (.ireturn, 1) → narrow .boolean (.int r) = .int r → post r x → Wd dC dI cI cB cJ cZ ad stM kcM 115 A x H → va_S A s.heap H locs → W p l e R s m args below meth c H locs cells slots Q (F0 m pc ls [.int r])) : ∀ (l1 : Int32) (l2 : Int32) (x : St) (H : Heap) (locs : List Loc) (ls : Array Slot), wp_Mod_canBeOther post l1 l2 x → Wd dC dI cI cB cJ cZ ad stM kcM 115 A x H → va_S A s.heap H locs → lv_has ls 9 [(0, .ref (ad 0)), (1, .int l1), (2, .int l2)] → W p l e R s m args below meth c H locs cells slots Q (F0 m 0 ls []) := by
  intro l1 l2 x H locs ls  hw hW hS hl
  unfold wp_Mod_canBeOther at hw
  refine lv_bipush (v := 64) hx hb d_Mod_canBeOther_0 (by decide) ?_
  refine lv_iload_n hx hb d_Mod_canBeOther_2 rfl (lv_at hl 2 rfl) ?_
  refine lv_bipush (v := 64) hx hb d_Mod_canBeOther_3 (by decide) ?_
  refine lv_idiv hx hb d_Mod_canBeOther_5 (by decide) ?_
  refine lv_imul hx hb d_Mod_canBeOther_6 ?_
  refine lv_aload_n hx hb d_Mod_canBeOther_7 rfl (lv_at hl 0 rfl) ?_
  refine w_getf (q := 87) (k := 130) (t := 12) (C := R_Mod) (T := F_Mod) (N := 167) hx hb hT hown hK hW ko_0.1 ko_0.2 (by decide) in_Mod rfl rfl (by decide) rfl fr_Mod_130 w_9_66 d_Mod_canBeOther_8 rfl ?_
  refine lv_iload_n hx hb d_Mod_canBeOther_11 rfl (lv_at hl 2 rfl) ?_
  obtain ⟨hi, hw⟩ := hw
  refine w_iald (o := 87) hx hb hK hW ko_87.1 ko_87.2 hi d_Mod_canBeOther_12 ?_
  refine lv_iadd hx hb d_Mod_canBeOther_13 ?_
  refine lv_topi (fun v2362 ev2362 => ?_)
  have hw := hw v2362 ev2362
  refine lv_istore_n (lv' := [(3, .int v2362), (0, .ref (ad 0)), (1, .int l1), (2, .int l2)]) hx hb d_Mod_canBeOther_14 rfl hl (by decide) rfl (fun ls hl => ?_)
  refine lv_aload_n hx hb d_Mod_canBeOther_15 rfl (lv_at hl 1 rfl) ?_
  refine w_getf (q := 102) (k := 147) (t := 12) (C := R_Mod) (T := F_Mod) (N := 167) hx hb hT hown hK hW ko_0.1 ko_0.2 (by decide) in_Mod rfl rfl (by decide) rfl fr_Mod_147 w_9_83 d_Mod_canBeOther_16 rfl ?_
  refine lv_iload_n hx hb d_Mod_canBeOther_19 rfl (lv_at hl 2 rfl) ?_
  obtain ⟨hi, hw⟩ := hw
  refine w_iald (o := 102) hx hb hK hW ko_102.1 ko_102.2 hi d_Mod_canBeOther_20 ?_
  refine lv_if_ne (tgt := 53) hx hb d_Mod_canBeOther_21 (by decide) (fun c2363 => ?_) (fun c2363 => ?_)
  · have hw := hw.1 c2363
    exact t_Mod_canBeOther_53 hx hb hml hown hT hK hN hA hRc hRs hRf hRl hret  l1 l2 v2362 x H locs ls  hw hW hS (lv_sub hl [1, 2, 3, 0] rfl)
  · have hw := hw.2 c2363
    refine lv_aload_n hx hb d_Mod_canBeOther_24 rfl (lv_at hl 1 rfl) ?_
    refine lv_aload_n hx hb d_Mod_canBeOther_25 rfl (lv_at hl 1 rfl) ?_
    refine lv_iconst (v := 1) hx hb d_Mod_canBeOther_26 (by decide) ?_
    refine lv_iload_n hx hb d_Mod_canBeOther_27 rfl (lv_at hl 2 rfl) ?_
    have hF := hW.free hS hA
    refine va_calli (va_runV (C := R_Mod) (As := [.int 1, .int l1]) (rest := [.ref (ad 0)]) ⟨hx, hb, hml, hown, hT⟩ (k_Mod_typeOf l dC dI cI cB cJ cZ ad H.size 1 l1 x  hw) ⟨callB_of 2 hT (gwt_in w_11_158) rfl rfl rfl (hT _ w_1_15) (hT _ w_11_155) (by decide +kernel) ⟨Nat.le_trans (Nat.le_of_ble_eq_true rfl) hRf, Nat.le_trans (Nat.le_of_ble_eq_true rfl) hRl⟩, hT _ w_11_157, hT _ ws_144⟩ ⟨PW.blind, va_recv hK hW.1 (ci := 12) (q0 := 0) rfl (pic_obj ko_0.1 ko_0.2 (by decide)), PW.at _ hW hK hN⟩ rfl rfl hl.1 rfl (lv_room (Nat.le_of_ble_eq_true rfl)) d_Mod_canBeOther_28 ⟨hRc, hRs⟩) hS (fun q _ h => hF q h) hF (fun r2365 x2364 t H locs ht hvm hw hB hz1 hk1 hS => ?_)
    have hW := Wd.back hB ht hF
    clear hB ht hF hz1 hk1 hvm
    refine lv_aload_n hx hb d_Mod_canBeOther_31 rfl (lv_at hl 1 rfl) ?_
    refine w_getf (q := 99) (k := 144) (t := 12) (C := R_Mod) (T := F_Mod) (N := 167) hx hb hT hown hK hW ko_0.1 ko_0.2 (by decide) in_Mod rfl rfl (by decide) rfl fr_Mod_144 w_9_80 d_Mod_canBeOther_32 rfl ?_
    refine lv_iload_n hx hb d_Mod_canBeOther_35 rfl (lv_at hl 2 rfl) ?_
    obtain ⟨hi, hw⟩ := hw
    refine w_iald (o := 99) hx hb hK hW ko_99.1 ko_99.2 hi d_Mod_canBeOther_36 ?_
    refine lv_aload_n hx hb d_Mod_canBeOther_37 rfl (lv_at hl 1 rfl) ?_
    refine w_getf (q := 100) (k := 145) (t := 12) (C := R_Mod) (T := F_Mod) (N := 167) hx hb hT hown hK hW ko_0.1 ko_0.2 (by decide) in_Mod rfl rfl (by decide) rfl fr_Mod_145 w_9_81 d_Mod_canBeOther_38 rfl ?_
    refine lv_iload_n hx hb d_Mod_canBeOther_41 rfl (lv_at hl 2 rfl) ?_
    obtain ⟨hi, hw⟩ := hw
    refine w_iald (o := 100) hx hb hK hW ko_100.1 ko_100.2 hi d_Mod_canBeOther_42 ?_
    have hF := hW.free hS hA
    refine va_calli (va_runV (C := R_Mod) (As := [.int r2365, .int (rA x2364 99 l1), .int (rA x2364 100 l1)]) (rest := []) ⟨hx, hb, hml, hown, hT⟩ (k_Mod_compare l dC dI cI cB cJ cZ ad H.size r2365 (rA x2364 99 l1) (rA x2364 100 l1) x2364  hw) ⟨callB_of 3 hT (gwt_in w_13_26) rfl rfl rfl (hT _ w_1_15) (hT _ w_13_23) (by decide +kernel) ⟨Nat.le_trans (Nat.le_of_ble_eq_true rfl) hRf, Nat.le_trans (Nat.le_of_ble_eq_true rfl) hRl⟩, hT _ w_13_25, hT _ ws_219⟩ ⟨PW.blind, va_recv hK hW.1 (ci := 12) (q0 := 0) rfl (pic_obj ko_0.1 ko_0.2 (by decide)), PW.at _ hW hK hN⟩ rfl rfl hl.1 rfl (lv_room (Nat.le_of_ble_eq_true rfl)) d_Mod_canBeOther_43 ⟨hRc, hRs⟩) hS (fun q _ h => hF q h) hF (fun r2367 x2366 t H locs ht hvm hw hB hz1 hk1 hS => ?_)
    have hW := Wd.back hB ht hF
    clear hB ht hF hz1 hk1 hvm
    refine lv_if_eq (tgt := 53) hx hb d_Mod_canBeOther_46 (by decide) (fun c2368 => ?_) (fun c2368 => ?_)
    · have hw := hw.1 c2368
      exact t_Mod_canBeOther_53 hx hb hml hown hT hK hN hA hRc hRs hRf hRl hret  l1 l2 v2362 x2366 H locs ls  hw hW hS (lv_sub hl [1, 2, 3, 0] rfl)
    · have hw := hw.2 c2368
      refine lv_iconst (v := 1) hx hb d_Mod_canBeOther_49 (by decide) ?_
      refine lv_goto (tgt := 54) hx hb d_Mod_canBeOther_50 (by decide) ?_
      exact t_Mod_canBeOther_54 hx hb hml hown hT hK hN hA hRc hRs hRf hRl hret  l1 l2 v2362 1 x2366 H locs ls  hw hW hS (lv_sub hl [1, 2, 3, 0] rfl)
set_option maxHeartbeats 4000000 in
set_option maxRecDepth 100000 in
theorem k_Mod_canBeOther (l : Launch) (dC : Nat → ClassId) (dI : Nat → Nat → Nat) (cI cB cJ cZ : ClassId) (ad : Nat → Nat) (sz : Nat) (l1 : Int32) (l2 : Int32) (x : St) {post : Int32 → St → Prop} (hw : wp_Mod_canBeOther post l1 l2 x) : Met l y_Mod_canBeOther (wsOf y_Mod_canBeOther b_Mod_canBeOther 9 (some (.boolean))) ({ frames := 2, cells := 0, slots := 0, locals := 43 }) (va_Pc [.ref (ad 0), .int l1, .int l2] (PW dC dI cI cB cJ cZ ad stM kcM 115 sz x)) (va_Qi (fun (r : Int32) (y : St) => post r y) (fun y t => Wd dC dI cI cB cJ cZ ad stM kcM 115 (va_A (pic ad stM kcM 115 cI cB cJ cZ x) sz) y t.heap) (va_A (pic ad stM kcM 115 cI cB cJ cZ x) sz)) 0 0 (va_A (pic ad stM kcM 115 cI cB cJ cZ x) sz) := by
  refine Met.ofW (cc := b_Mod_canBeOther) (maxL := 9) (ret := some (.boolean)) (by decide) rfl ?_
  intro p e s m args below meth c s₁ B hml hv
  obtain ⟨rfl, hsz, hW0, hK, hN⟩ := hv
  have hx := B.exec
  have hb := B.bytes
  have hr := B.returns
  have hts := atoms_spec B.pre
  have hT : ∀ w ∈ TG, w.before _ s = true := fun w h => hts w (List.mem_cons_of_mem _ h)
  have hown : s.vm.findClass R_Mod = some m.cls := findClass_of_methodNamed B.named
  have hlocks := B.notSynchronized
  subst hsz
  have hW : Wd dC dI cI cB cJ cZ ad stM kcM 115 (va_A (pic ad stM kcM 115 cI cB cJ cZ x) s.heap.size) x s.heap := ⟨hW0.1, hW0.2.1.self (sz := s.heap.size), hW0.2.2⟩
  generalize hAe : va_A (pic ad stM kcM 115 cI cB cJ cZ x) s.heap.size = A at hW ⊢
  have hA : ∀ q : Nat, s.heap.size ≤ q → A q := fun q h => by rw [← hAe]; exact Or.inr h
  have hS : va_S A s.heap s.heap [] := va_S.rf
  have hl := lv_entry ([.ref (ad 0), .int l1, .int l2]) (n := 9) (Nat.le_of_ble_eq_true rfl)
  rw [lg_entry_eq]
  generalize (lg_sl ([.ref (ad 0), .int l1, .int l2]) ++ List.replicate (9 - (lg_sl ([.ref (ad 0), .int l1, .int l2])).length) Slot.unset).toArray = ls at hl ⊢
  have hl : lv_has ls 9 [(0, .ref (ad 0)), (1, .int l1), (2, .int l2)] := hl
  exact t_Mod_canBeOther_e hx hb hml hown hT hK hN hA (Nat.le_refl 0) (Nat.le_refl 0) (Nat.le_refl 2) (Nat.le_refl 43) (fun r x H locs pc ls hd hz hp hW hS => W.zret (v := r) (ty := .boolean) hx hb hr hz (fun t ht hM => ⟨⟨r, x, rfl, hp, Wd.back hW ht.symm (fun _ z => z)⟩, hS.F ht⟩) hS.2.2 hd hlocks)  l1 l2 x _ _ ls  hw hW hS hl
set_option maxRecDepth 100000 in
set_option maxHeartbeats 4000000 in
set_option maxRecDepth 100000 in
theorem t_Mod_canOf_396 {p : Program} {l : Launch} {e : Env} {R : Room} {s : State} {m : MethodId} {args : Array Value} {below : List Frame} {meth : Method} {c : Code} {cells slots : Nat} {Q : State → Prop} {dC : Nat → ClassId} {dI : Nat → Nat → Nat} {cI cB cJ cZ : ClassId} {A : Nat → Prop} {ad : Nat → Nat} {post : Int32 → St → Prop} (hx : p.tables.exec = Jvm.exec) (hb : c.code = b_Mod_canOf) (hml : c.maxLocals = 10) (hown : s.vm.findClass R_Mod = some m.cls) (hT : ∀ w ∈ TG, w.before args s = true) (hK : va_K (dC, dI) CL (TY cI cB cJ cZ) s) (hN : NW s) (hA : ∀ q : Nat, s.heap.size ≤ q → A q) (hRc : cells ≤ R.cells) (hRs : slots ≤ R.slots) (hRf : 3 ≤ R.frames) (hRl : 71 ≤ R.locals) (hret : ∀ (r : Int32) (x : St) (H : Heap) (locs : List Loc) (pc : Nat) (ls : Array Slot), decode b_Mod_canOf pc = .ok (.ireturn, 1) → post r x → Wd dC dI cI cB cJ cZ ad stM kcM 115 A x H → va_S A s.heap H locs → W p l e R s m args below meth c H locs cells slots Q (F0 m pc ls [.int r]))  : ∀ (l1 : Int32) (l2 : Int32) (l3 : Int32) (l4 : Int32) (l5 : Int32) (l6 : Int32) (l7 : Int32) (l8 : Int32) (l9 : Int32) (s0 : Int32) (s1 : Int32) (x : St) (H : Heap) (locs : List Loc) (ls : Array Slot), j_Mod_canOf_396 post l1 l2 l3 l4 l5 l6 l7 l8 l9 s0 s1 x → Wd dC dI cI cB cJ cZ ad stM kcM 115 A x H → va_S A s.heap H locs → lv_has ls 10 [(0, .ref (ad 0)), (1, .int l1), (2, .int l2), (3, .int l3), (4, .int l4), (5, .int l5), (6, .int l6), (7, .int l7), (8, .int l8), (9, .int l9)] → W p l e R s m args below meth c H locs cells slots Q (F0 m 396 ls [.int s0, .int s1]) := by
  intro l1 l2 l3 l4 l5 l6 l7 l8 l9 s0 s1 x H locs ls  hw hW hS hl
  unfold j_Mod_canOf_396 at hw
  refine lv_ior hx hb d_Mod_canOf_396 ?_
  exact hret (s1 ||| s0) x H locs 397 ls d_Mod_canOf_397 hw hW hS
set_option maxRecDepth 100000 in
set_option maxHeartbeats 4000000 in
set_option maxRecDepth 100000 in
theorem t_Mod_canOf_385 {p : Program} {l : Launch} {e : Env} {R : Room} {s : State} {m : MethodId} {args : Array Value} {below : List Frame} {meth : Method} {c : Code} {cells slots : Nat} {Q : State → Prop} {dC : Nat → ClassId} {dI : Nat → Nat → Nat} {cI cB cJ cZ : ClassId} {A : Nat → Prop} {ad : Nat → Nat} {post : Int32 → St → Prop} (hx : p.tables.exec = Jvm.exec) (hb : c.code = b_Mod_canOf) (hml : c.maxLocals = 10) (hown : s.vm.findClass R_Mod = some m.cls) (hT : ∀ w ∈ TG, w.before args s = true) (hK : va_K (dC, dI) CL (TY cI cB cJ cZ) s) (hN : NW s) (hA : ∀ q : Nat, s.heap.size ≤ q → A q) (hRc : cells ≤ R.cells) (hRs : slots ≤ R.slots) (hRf : 3 ≤ R.frames) (hRl : 71 ≤ R.locals) (hret : ∀ (r : Int32) (x : St) (H : Heap) (locs : List Loc) (pc : Nat) (ls : Array Slot), decode b_Mod_canOf pc = .ok (.ireturn, 1) → post r x → Wd dC dI cI cB cJ cZ ad stM kcM 115 A x H → va_S A s.heap H locs → W p l e R s m args below meth c H locs cells slots Q (F0 m pc ls [.int r]))  : ∀ (l1 : Int32) (l2 : Int32) (l3 : Int32) (l4 : Int32) (l5 : Int32) (l6 : Int32) (l7 : Int32) (l8 : Int32) (l9 : Int32) (s0 : Int32) (s1 : Int32) (x : St) (H : Heap) (locs : List Loc) (ls : Array Slot), j_Mod_canOf_385 post l1 l2 l3 l4 l5 l6 l7 l8 l9 s0 s1 x → Wd dC dI cI cB cJ cZ ad stM kcM 115 A x H → va_S A s.heap H locs → lv_has ls 10 [(0, .ref (ad 0)), (1, .int l1), (2, .int l2), (3, .int l3), (4, .int l4), (5, .int l5), (6, .int l6), (7, .int l7), (8, .int l8), (9, .int l9)] → W p l e R s m args below meth c H locs cells slots Q (F0 m 385 ls [.int s0, .int s1]) := by
  intro l1 l2 l3 l4 l5 l6 l7 l8 l9 s0 s1 x H locs ls  hw hW hS hl
  unfold j_Mod_canOf_385 at hw
  refine lv_ior hx hb d_Mod_canOf_385 ?_
  refine lv_iload hx hb d_Mod_canOf_386 (lv_at hl 8 rfl) ?_
  refine lv_if_eq (tgt := 395) hx hb d_Mod_canOf_388 (by decide) (fun c2369 => ?_) (fun c2369 => ?_)
  · have hw := hw.1 c2369
    refine lv_iconst (v := 0) hx hb d_Mod_canOf_395 (by decide) ?_
    exact t_Mod_canOf_396 hx hb hml hown hT hK hN hA hRc hRs hRf hRl hret  l1 l2 l3 l4 l5 l6 l7 l8 l9 0 (s1 ||| s0) x H locs ls  hw hW hS (lv_sub hl [0, 1, 2, 3, 4, 5, 6, 7, 8, 9] rfl)
  · have hw := hw.2 c2369
    refine lv_iconst (v := 1) hx hb d_Mod_canOf_391 (by decide) ?_
    refine lv_goto (tgt := 396) hx hb d_Mod_canOf_392 (by decide) ?_
    exact t_Mod_canOf_396 hx hb hml hown hT hK hN hA hRc hRs hRf hRl hret  l1 l2 l3 l4 l5 l6 l7 l8 l9 1 (s1 ||| s0) x H locs ls  hw hW hS (lv_sub hl [0, 1, 2, 3, 4, 5, 6, 7, 8, 9] rfl)
set_option maxRecDepth 100000 in
set_option maxHeartbeats 4000000 in
set_option maxRecDepth 100000 in
theorem t_Mod_canOf_373 {p : Program} {l : Launch} {e : Env} {R : Room} {s : State} {m : MethodId} {args : Array Value} {below : List Frame} {meth : Method} {c : Code} {cells slots : Nat} {Q : State → Prop} {dC : Nat → ClassId} {dI : Nat → Nat → Nat} {cI cB cJ cZ : ClassId} {A : Nat → Prop} {ad : Nat → Nat} {post : Int32 → St → Prop} (hx : p.tables.exec = Jvm.exec) (hb : c.code = b_Mod_canOf) (hml : c.maxLocals = 10) (hown : s.vm.findClass R_Mod = some m.cls) (hT : ∀ w ∈ TG, w.before args s = true) (hK : va_K (dC, dI) CL (TY cI cB cJ cZ) s) (hN : NW s) (hA : ∀ q : Nat, s.heap.size ≤ q → A q) (hRc : cells ≤ R.cells) (hRs : slots ≤ R.slots) (hRf : 3 ≤ R.frames) (hRl : 71 ≤ R.locals) (hret : ∀ (r : Int32) (x : St) (H : Heap) (locs : List Loc) (pc : Nat) (ls : Array Slot), decode b_Mod_canOf pc = .ok (.ireturn, 1) → post r x → Wd dC dI cI cB cJ cZ ad stM kcM 115 A x H → va_S A s.heap H locs → W p l e R s m args below meth c H locs cells slots Q (F0 m pc ls [.int r]))  : ∀ (l1 : Int32) (l2 : Int32) (l3 : Int32) (l4 : Int32) (l5 : Int32) (l6 : Int32) (l7 : Int32) (l8 : Int32) (l9 : Int32) (x : St) (H : Heap) (locs : List Loc) (ls : Array Slot), j_Mod_canOf_373 post l1 l2 l3 l4 l5 l6 l7 l8 l9 x → Wd dC dI cI cB cJ cZ ad stM kcM 115 A x H → va_S A s.heap H locs → lv_has ls 10 [(0, .ref (ad 0)), (1, .int l1), (2, .int l2), (3, .int l3), (4, .int l4), (5, .int l5), (6, .int l6), (7, .int l7), (8, .int l8), (9, .int l9)] → W p l e R s m args below meth c H locs cells slots Q (F0 m 373 ls []) := by
  intro l1 l2 l3 l4 l5 l6 l7 l8 l9 x H locs ls  hw hW hS hl
  unfold j_Mod_canOf_373 at hw
  refine lv_iload hx hb d_Mod_canOf_373 (lv_at hl 6 rfl) ?_
  refine lv_iload hx hb d_Mod_canOf_375 (lv_at hl 7 rfl) ?_
  refine lv_if_eq (tgt := 384) hx hb d_Mod_canOf_377 (by decide) (fun c2370 => ?_) (fun c2370 => ?_)
  · have hw := hw.1 c2370
    refine lv_iconst (v := 0) hx hb d_Mod_canOf_384 (by decide) ?_
    exact t_Mod_canOf_385 hx hb hml hown hT hK hN hA hRc hRs hRf hRl hret  l1 l2 l3 l4 l5 l6 l7 l8 l9 0 l6 x H locs ls  hw hW hS (lv_sub hl [0, 1, 2, 3, 4, 5, 6, 7, 8, 9] rfl)
  · have hw := hw.2 c2370
    refine lv_iconst (v := 2) hx hb d_Mod_canOf_380 (by decide) ?_
    refine lv_goto (tgt := 385) hx hb d_Mod_canOf_381 (by decide) ?_
    exact t_Mod_canOf_385 hx hb hml hown hT hK hN hA hRc hRs hRf hRl hret  l1 l2 l3 l4 l5 l6 l7 l8 l9 2 l6 x H locs ls  hw hW hS (lv_sub hl [0, 1, 2, 3, 4, 5, 6, 7, 8, 9] rfl)
set_option maxRecDepth 100000 in
set_option maxHeartbeats 4000000 in
set_option maxRecDepth 100000 in
theorem t_Mod_canOf_357 {p : Program} {l : Launch} {e : Env} {R : Room} {s : State} {m : MethodId} {args : Array Value} {below : List Frame} {meth : Method} {c : Code} {cells slots : Nat} {Q : State → Prop} {dC : Nat → ClassId} {dI : Nat → Nat → Nat} {cI cB cJ cZ : ClassId} {A : Nat → Prop} {ad : Nat → Nat} {post : Int32 → St → Prop} {rec311 : Int32 → Int32 → Int32 → Int32 → Int32 → Int32 → Int32 → Int32 → Int32 → St → Prop} (hx : p.tables.exec = Jvm.exec) (hb : c.code = b_Mod_canOf) (hml : c.maxLocals = 10) (hown : s.vm.findClass R_Mod = some m.cls) (hT : ∀ w ∈ TG, w.before args s = true) (hK : va_K (dC, dI) CL (TY cI cB cJ cZ) s) (hN : NW s) (hA : ∀ q : Nat, s.heap.size ≤ q → A q) (hRc : cells ≤ R.cells) (hRs : slots ≤ R.slots) (hRf : 3 ≤ R.frames) (hRl : 71 ≤ R.locals) (hret : ∀ (r : Int32) (x : St) (H : Heap) (locs : List Loc) (pc : Nat) (ls : Array Slot), decode b_Mod_canOf pc = .ok (.ireturn, 1) → post r x → Wd dC dI cI cB cJ cZ ad stM kcM 115 A x H → va_S A s.heap H locs → W p l e R s m args below meth c H locs cells slots Q (F0 m pc ls [.int r])) (hrec311 : ∀ (l1 : Int32) (l2 : Int32) (l3 : Int32) (l4 : Int32) (l5 : Int32) (l6 : Int32) (l7 : Int32) (l8 : Int32) (l9 : Int32) (x : St) (H : Heap) (locs : List Loc) (ls : Array Slot), rec311 l1 l2 l3 l4 l5 l6 l7 l8 l9 x → Wd dC dI cI cB cJ cZ ad stM kcM 115 A x H → va_S A s.heap H locs → lv_has ls 10 [(0, .ref (ad 0)), (1, .int l1), (2, .int l2), (3, .int l3), (4, .int l4), (5, .int l5), (6, .int l6), (7, .int l7), (8, .int l8), (9, .int l9)] → W p l e R s m args below meth c H locs cells slots Q (F0 m 311 ls [])) : ∀ (l1 : Int32) (l2 : Int32) (l3 : Int32) (l4 : Int32) (l5 : Int32) (l6 : Int32) (l7 : Int32) (l8 : Int32) (l9 : Int32) (s0 : Int32) (x : St) (H : Heap) (locs : List Loc) (ls : Array Slot), j_Mod_canOf_357 post rec311 l1 l2 l3 l4 l5 l6 l7 l8 l9 s0 x → Wd dC dI cI cB cJ cZ ad stM kcM 115 A x H → va_S A s.heap H locs → lv_has ls 10 [(0, .ref (ad 0)), (1, .int l1), (2, .int l2), (3, .int l3), (4, .int l4), (5, .int l5), (6, .int l6), (7, .int l7), (8, .int l8), (9, .int l9)] → W p l e R s m args below meth c H locs cells slots Q (F0 m 357 ls [.int s0]) := by
  intro l1 l2 l3 l4 l5 l6 l7 l8 l9 s0 x H locs ls  hw hW hS hl
  unfold j_Mod_canOf_357 at hw
  refine lv_istore (lv' := [(7, .int s0), (0, .ref (ad 0)), (1, .int l1), (2, .int l2), (3, .int l3), (4, .int l4), (5, .int l5), (6, .int l6), (8, .int l8), (9, .int l9)]) hx hb d_Mod_canOf_357 hl (by decide) rfl (fun ls hl => ?_)
  refine lv_iinc (v := (l9 + 1)) (lv' := [(9, .int (l9 + 1)), (7, .int s0), (0, .ref (ad 0)), (1, .int l1), (2, .int l2), (3, .int l3), (4, .int l4), (5, .int l5), (6, .int l6), (8, .int l8)]) hx hb d_Mod_canOf_359 hl (k := 9) rfl rfl (by decide) rfl (fun ls hl => ?_)
  refine lv_goto (tgt := 311) hx hb d_Mod_canOf_362 (by decide) ?_
  exact hrec311 l1 l2 l3 l4 l5 l6 s0 l8 (l9 + 1) x H locs ls  hw hW hS (lv_sub hl [2, 3, 4, 5, 6, 7, 8, 1, 9, 0] rfl)
set_option maxRecDepth 100000 in
set_option maxHeartbeats 4000000 in
set_option maxRecDepth 100000 in
theorem t_Mod_canOf_352 {p : Program} {l : Launch} {e : Env} {R : Room} {s : State} {m : MethodId} {args : Array Value} {below : List Frame} {meth : Method} {c : Code} {cells slots : Nat} {Q : State → Prop} {dC : Nat → ClassId} {dI : Nat → Nat → Nat} {cI cB cJ cZ : ClassId} {A : Nat → Prop} {ad : Nat → Nat} {post : Int32 → St → Prop} {rec311 : Int32 → Int32 → Int32 → Int32 → Int32 → Int32 → Int32 → Int32 → Int32 → St → Prop} (hx : p.tables.exec = Jvm.exec) (hb : c.code = b_Mod_canOf) (hml : c.maxLocals = 10) (hown : s.vm.findClass R_Mod = some m.cls) (hT : ∀ w ∈ TG, w.before args s = true) (hK : va_K (dC, dI) CL (TY cI cB cJ cZ) s) (hN : NW s) (hA : ∀ q : Nat, s.heap.size ≤ q → A q) (hRc : cells ≤ R.cells) (hRs : slots ≤ R.slots) (hRf : 3 ≤ R.frames) (hRl : 71 ≤ R.locals) (hret : ∀ (r : Int32) (x : St) (H : Heap) (locs : List Loc) (pc : Nat) (ls : Array Slot), decode b_Mod_canOf pc = .ok (.ireturn, 1) → post r x → Wd dC dI cI cB cJ cZ ad stM kcM 115 A x H → va_S A s.heap H locs → W p l e R s m args below meth c H locs cells slots Q (F0 m pc ls [.int r])) (hrec311 : ∀ (l1 : Int32) (l2 : Int32) (l3 : Int32) (l4 : Int32) (l5 : Int32) (l6 : Int32) (l7 : Int32) (l8 : Int32) (l9 : Int32) (x : St) (H : Heap) (locs : List Loc) (ls : Array Slot), rec311 l1 l2 l3 l4 l5 l6 l7 l8 l9 x → Wd dC dI cI cB cJ cZ ad stM kcM 115 A x H → va_S A s.heap H locs → lv_has ls 10 [(0, .ref (ad 0)), (1, .int l1), (2, .int l2), (3, .int l3), (4, .int l4), (5, .int l5), (6, .int l6), (7, .int l7), (8, .int l8), (9, .int l9)] → W p l e R s m args below meth c H locs cells slots Q (F0 m 311 ls [])) : ∀ (l1 : Int32) (l2 : Int32) (l3 : Int32) (l4 : Int32) (l5 : Int32) (l6 : Int32) (l7 : Int32) (l8 : Int32) (l9 : Int32) (x : St) (H : Heap) (locs : List Loc) (ls : Array Slot), j_Mod_canOf_352 post rec311 l1 l2 l3 l4 l5 l6 l7 l8 l9 x → Wd dC dI cI cB cJ cZ ad stM kcM 115 A x H → va_S A s.heap H locs → lv_has ls 10 [(0, .ref (ad 0)), (1, .int l1), (2, .int l2), (3, .int l3), (4, .int l4), (5, .int l5), (6, .int l6), (7, .int l7), (8, .int l8), (9, .int l9)] → W p l e R s m args below meth c H locs cells slots Q (F0 m 352 ls []) := by
  intro l1 l2 l3 l4 l5 l6 l7 l8 l9 x H locs ls  hw hW hS hl
  unfold j_Mod_canOf_352 at hw
  refine lv_iconst (v := 1) hx hb d_Mod_canOf_352 (by decide) ?_
  refine lv_goto (tgt := 357) hx hb d_Mod_canOf_353 (by decide) ?_
  exact t_Mod_canOf_357 hx hb hml hown hT hK hN hA hRc hRs hRf hRl hret hrec311 l1 l2 l3 l4 l5 l6 l7 l8 l9 1 x H locs ls  hw hW hS (lv_sub hl [0, 1, 2, 3, 4, 5, 6, 7, 8, 9] rfl)
set_option maxRecDepth 100000 in
set_option maxHeartbeats 4000000 in
set_option maxRecDepth 100000 in
theorem t_Mod_canOf_311 {p : Program} {l : Launch} {e : Env} {R : Room} {s : State} {m : MethodId} {args : Array Value} {below : List Frame} {meth : Method} {c : Code} {cells slots : Nat} {Q : State → Prop} {dC : Nat → ClassId} {dI : Nat → Nat → Nat} {cI cB cJ cZ : ClassId} {A : Nat → Prop} {ad : Nat → Nat} {post : Int32 → St → Prop} {rec311 : Int32 → Int32 → Int32 → Int32 → Int32 → Int32 → Int32 → Int32 → Int32 → St → Prop} (hx : p.tables.exec = Jvm.exec) (hb : c.code = b_Mod_canOf) (hml : c.maxLocals = 10) (hown : s.vm.findClass R_Mod = some m.cls) (hT : ∀ w ∈ TG, w.before args s = true) (hK : va_K (dC, dI) CL (TY cI cB cJ cZ) s) (hN : NW s) (hA : ∀ q : Nat, s.heap.size ≤ q → A q) (hRc : cells ≤ R.cells) (hRs : slots ≤ R.slots) (hRf : 3 ≤ R.frames) (hRl : 71 ≤ R.locals) (hret : ∀ (r : Int32) (x : St) (H : Heap) (locs : List Loc) (pc : Nat) (ls : Array Slot), decode b_Mod_canOf pc = .ok (.ireturn, 1) → post r x → Wd dC dI cI cB cJ cZ ad stM kcM 115 A x H → va_S A s.heap H locs → W p l e R s m args below meth c H locs cells slots Q (F0 m pc ls [.int r])) (hrec311 : ∀ (l1 : Int32) (l2 : Int32) (l3 : Int32) (l4 : Int32) (l5 : Int32) (l6 : Int32) (l7 : Int32) (l8 : Int32) (l9 : Int32) (x : St) (H : Heap) (locs : List Loc) (ls : Array Slot), rec311 l1 l2 l3 l4 l5 l6 l7 l8 l9 x → Wd dC dI cI cB cJ cZ ad stM kcM 115 A x H → va_S A s.heap H locs → lv_has ls 10 [(0, .ref (ad 0)), (1, .int l1), (2, .int l2), (3, .int l3), (4, .int l4), (5, .int l5), (6, .int l6), (7, .int l7), (8, .int l8), (9, .int l9)] → W p l e R s m args below meth c H locs cells slots Q (F0 m 311 ls [])) : ∀ (l1 : Int32) (l2 : Int32) (l3 : Int32) (l4 : Int32) (l5 : Int32) (l6 : Int32) (l7 : Int32) (l8 : Int32) (l9 : Int32) (x : St) (H : Heap) (locs : List Loc) (ls : Array Slot), j_Mod_canOf_311 post rec311 l1 l2 l3 l4 l5 l6 l7 l8 l9 x → Wd dC dI cI cB cJ cZ ad stM kcM 115 A x H → va_S A s.heap H locs → lv_has ls 10 [(0, .ref (ad 0)), (1, .int l1), (2, .int l2), (3, .int l3), (4, .int l4), (5, .int l5), (6, .int l6), (7, .int l7), (8, .int l8), (9, .int l9)] → W p l e R s m args below meth c H locs cells slots Q (F0 m 311 ls []) := by
  intro l1 l2 l3 l4 l5 l6 l7 l8 l9 x H locs ls  hw hW hS hl
  unfold j_Mod_canOf_311 at hw
  refine lv_iload hx hb d_Mod_canOf_311 (lv_at hl 9 rfl) ?_
  refine lv_aload_n hx hb d_Mod_canOf_313 rfl (lv_at hl 0 rfl) ?_
  refine w_getf (q := 88) (k := 131) (t := 12) (C := R_Mod) (T := F_Mod) (N := 167) hx hb hT hown hK hW ko_0.1 ko_0.2 (by decide) in_Mod rfl rfl (by decide) rfl fr_Mod_131 w_9_67 d_Mod_canOf_314 rfl ?_
  refine lv_iload_n hx hb d_Mod_canOf_317 rfl (lv_at hl 1 rfl) ?_
  obtain ⟨hi, hw⟩ := hw
  refine w_iald (o := 88) hx hb hK hW ko_88.1 ko_88.2 hi d_Mod_canOf_318 ?_
  refine lv_icmp_ge (tgt := 365) hx hb d_Mod_canOf_319 (by decide) (fun c2371 => ?_) (fun c2371 => ?_)
  · have hw := hw.1 c2371
    refine lv_aload_n hx hb d_Mod_canOf_365 rfl (lv_at hl 0 rfl) ?_
    refine lv_iload_n hx hb d_Mod_canOf_366 rfl (lv_at hl 2 rfl) ?_
    refine lv_iload_n hx hb d_Mod_canOf_367 rfl (lv_at hl 1 rfl) ?_
    have hF := hW.free hS hA
    refine va_calli (va_runV (C := R_Mod) (As := [.int l2, .int l1]) (rest := []) ⟨hx, hb, hml, hown, hT⟩ (k_Mod_canBeOther l dC dI cI cB cJ cZ ad H.size l2 l1 x  hw) ⟨callB_of 2 hT (gwt_in w_14_5) rfl rfl rfl (hT _ w_1_15) (hT _ w_14_2) (by decide +kernel) ⟨Nat.le_trans (Nat.le_of_ble_eq_true rfl) hRf, Nat.le_trans (Nat.le_of_ble_eq_true rfl) hRl⟩, hT _ w_14_4, hT _ ws_261⟩ ⟨PW.blind, va_recv hK hW.1 (ci := 12) (q0 := 0) rfl (pic_obj ko_0.1 ko_0.2 (by decide)), PW.at _ hW hK hN⟩ rfl rfl hl.1 rfl (lv_room (Nat.le_of_ble_eq_true rfl)) d_Mod_canOf_368 ⟨hRc, hRs⟩) hS (fun q _ h => hF q h) hF (fun r2373 x2372 t H locs ht hvm hw hB hz1 hk1 hS => ?_)
    have hW := Wd.back hB ht hF
    clear hB ht hF hz1 hk1 hvm
    refine lv_istore (lv' := [(8, .int r2373), (0, .ref (ad 0)), (1, .int l1), (2, .int l2), (3, .int l3), (4, .int l4), (5, .int l5), (6, .int l6), (7, .int l7), (9, .int l9)]) hx hb d_Mod_canOf_371 hl (by decide) rfl (fun ls hl => ?_)
    exact t_Mod_canOf_373 hx hb hml hown hT hK hN hA hRc hRs hRf hRl hret  l1 l2 l3 l4 l5 l6 l7 r2373 l9 x2372 H locs ls  hw hW hS (lv_sub hl [1, 2, 3, 4, 5, 6, 7, 8, 0, 9] rfl)
  · have hw := hw.2 c2371
    refine lv_iload hx hb d_Mod_canOf_322 (lv_at hl 7 rfl) ?_
    refine lv_if_ne (tgt := 352) hx hb d_Mod_canOf_324 (by decide) (fun c2374 => ?_) (fun c2374 => ?_)
    · have hw := hw.1 c2374
      exact t_Mod_canOf_352 hx hb hml hown hT hK hN hA hRc hRs hRf hRl hret hrec311 l1 l2 l3 l4 l5 l6 l7 l8 l9 x H locs ls  hw hW hS (lv_sub hl [0, 1, 2, 3, 4, 5, 6, 7, 8, 9] rfl)
    · have hw := hw.2 c2374
      refine lv_aload_n hx hb d_Mod_canOf_327 rfl (lv_at hl 0 rfl) ?_
      refine lv_iload_n hx hb d_Mod_canOf_328 rfl (lv_at hl 2 rfl) ?_
      refine lv_bipush (v := 64) hx hb d_Mod_canOf_329 (by decide) ?_
      refine lv_iload_n hx hb d_Mod_canOf_331 rfl (lv_at hl 1 rfl) ?_
      refine lv_bipush (v := 64) hx hb d_Mod_canOf_332 (by decide) ?_
      refine lv_idiv hx hb d_Mod_canOf_334 (by decide) ?_
      refine lv_imul hx hb d_Mod_canOf_335 ?_
      refine lv_aload_n hx hb d_Mod_canOf_336 rfl (lv_at hl 0 rfl) ?_
      refine w_getf (q := 87) (k := 130) (t := 12) (C := R_Mod) (T := F_Mod) (N := 167) hx hb hT hown hK hW ko_0.1 ko_0.2 (by decide) in_Mod rfl rfl (by decide) rfl fr_Mod_130 w_9_66 d_Mod_canOf_337 rfl ?_
      refine lv_iload_n hx hb d_Mod_canOf_340 rfl (lv_at hl 1 rfl) ?_
      obtain ⟨hi, hw⟩ := hw
      refine w_iald (o := 87) hx hb hK hW ko_87.1 ko_87.2 hi d_Mod_canOf_341 ?_
      refine lv_iadd hx hb d_Mod_canOf_342 ?_
      refine lv_iload hx hb d_Mod_canOf_343 (lv_at hl 9 rfl) ?_
      refine lv_iadd hx hb d_Mod_canOf_345 ?_
      have hF := hW.free hS hA
      refine va_calli (va_runV (C := R_Mod) (As := [.int l2, .int (((64 * (l1 / 64)) + (rA x 87 l1)) + l9)]) (rest := []) ⟨hx, hb, hml, hown, hT⟩ (k_Mod_mayBe l dC dI cI cB cJ cZ ad H.size l2 (((64 * (l1 / 64)) + (rA x 87 l1)) + l9) x  hw) ⟨callB_of 2 hT (gwt_in w_14_1) rfl rfl rfl (hT _ w_1_15) (hT _ w_13_238) (by decide +kernel) ⟨Nat.le_trans (Nat.le_of_ble_eq_true rfl) hRf, Nat.le_trans (Nat.le_of_ble_eq_true rfl) hRl⟩, hT _ w_14_0, hT _ ws_260⟩ ⟨PW.blind, va_recv hK hW.1 (ci := 12) (q0 := 0) rfl (pic_obj ko_0.1 ko_0.2 (by decide)), PW.at _ hW hK hN⟩ rfl rfl hl.1 rfl (lv_room (Nat.le_of_ble_eq_true rfl)) d_Mod_canOf_346 ⟨hRc, hRs⟩) hS (fun q _ h => hF q h) hF (fun r2376 x2375 t H locs ht hvm hw hB hz1 hk1 hS => ?_)
      have hW := Wd.back hB ht hF
      clear hB ht hF hz1 hk1 hvm
      refine lv_if_eq (tgt := 356) hx hb d_Mod_canOf_349 (by decide) (fun c2377 => ?_) (fun c2377 => ?_)
      · have hw := hw.1 c2377
        refine lv_iconst (v := 0) hx hb d_Mod_canOf_356 (by decide) ?_
        exact t_Mod_canOf_357 hx hb hml hown hT hK hN hA hRc hRs hRf hRl hret hrec311 l1 l2 l3 l4 l5 l6 l7 l8 l9 0 x2375 H locs ls  hw hW hS (lv_sub hl [0, 1, 2, 3, 4, 5, 6, 7, 8, 9] rfl)
      · have hw := hw.2 c2377
        exact t_Mod_canOf_352 hx hb hml hown hT hK hN hA hRc hRs hRf hRl hret hrec311 l1 l2 l3 l4 l5 l6 l7 l8 l9 x2375 H locs ls  hw hW hS (lv_sub hl [0, 1, 2, 3, 4, 5, 6, 7, 8, 9] rfl)
set_option maxHeartbeats 4000000 in
set_option maxRecDepth 100000 in
theorem tl_Mod_canOf_311 {p : Program} {l : Launch} {e : Env} {R : Room} {s : State} {m : MethodId} {args : Array Value} {below : List Frame} {meth : Method} {c : Code} {cells slots : Nat} {Q : State → Prop} {dC : Nat → ClassId} {dI : Nat → Nat → Nat} {cI cB cJ cZ : ClassId} {A : Nat → Prop} {ad : Nat → Nat} {post : Int32 → St → Prop} (hx : p.tables.exec = Jvm.exec) (hb : c.code = b_Mod_canOf) (hml : c.maxLocals = 10) (hown : s.vm.findClass R_Mod = some m.cls) (hT : ∀ w ∈ TG, w.before args s = true) (hK : va_K (dC, dI) CL (TY cI cB cJ cZ) s) (hN : NW s) (hA : ∀ q : Nat, s.heap.size ≤ q → A q) (hRc : cells ≤ R.cells) (hRs : slots ≤ R.slots) (hRf : 3 ≤ R.frames) (hRl : 71 ≤ R.locals) (hret : ∀ (r : Int32) (x : St) (H : Heap) (locs : List Loc) (pc : Nat) (ls : Array Slot), decode b_Mod_canOf pc = .ok (.ireturn, 1) → post r x → Wd dC dI cI cB cJ cZ ad stM kcM 115 A x H → va_S A s.heap H locs → W p l e R s m args below meth c H locs cells slots Q (F0 m pc ls [.int r]))  : ∀ n : Nat, ∀ (l1 : Int32) (l2 : Int32) (l3 : Int32) (l4 : Int32) (l5 : Int32) (l6 : Int32) (l7 : Int32) (l8 : Int32) (l9 : Int32) (x : St) (H : Heap) (locs : List Loc) (ls : Array Slot), wl_Mod_canOf_311 post n l1 l2 l3 l4 l5 l6 l7 l8 l9 x → Wd dC dI cI cB cJ cZ ad stM kcM 115 A x H → va_S A s.heap H locs → lv_has ls 10 [(0, .ref (ad 0)), (1, .int l1), (2, .int l2), (3, .int l3), (4, .int l4), (5, .int l5), (6, .int l6), (7, .int l7), (8, .int l8), (9, .int l9)] → W p l e R s m args below meth c H locs cells slots Q (F0 m 311 ls []) := by
  intro n
  induction n with
  | zero => intro l1 l2 l3 l4 l5 l6 l7 l8 l9 x H locs ls  hw; exact hw.elim
  | succ n ih => intro l1 l2 l3 l4 l5 l6 l7 l8 l9 x H locs ls  hw hW hS hl; exact t_Mod_canOf_311 hx hb hml hown hT hK hN hA hRc hRs hRf hRl hret  ih l1 l2 l3 l4 l5 l6 l7 l8 l9 x H locs ls  hw hW hS hl
set_option maxRecDepth 100000 in
set_option maxHeartbeats 4000000 in
set_option maxRecDepth 100000 in
theorem t_Mod_canOf_192 {p : Program} {l : Launch} {e : Env} {R : Room} {s : State} {m : MethodId} {args : Array Value} {below : List Frame} {meth : Method} {c : Code} {cells slots : Nat} {Q : State → Prop} {dC : Nat → ClassId} {dI : Nat → Nat → Nat} {cI cB cJ cZ : ClassId} {A : Nat → Prop} {ad : Nat → Nat} {post : Int32 → St → Prop} (hx : p.tables.exec = Jvm.exec) (hb : c.code = b_Mod_canOf) (hml : c.maxLocals = 10) (hown : s.vm.findClass R_Mod = some m.cls) (hT : ∀ w ∈ TG, w.before args s = true) (hK : va_K (dC, dI) CL (TY cI cB cJ cZ) s) (hN : NW s) (hA : ∀ q : Nat, s.heap.size ≤ q → A q) (hRc : cells ≤ R.cells) (hRs : slots ≤ R.slots) (hRf : 3 ≤ R.frames) (hRl : 71 ≤ R.locals) (hret : ∀ (r : Int32) (x : St) (H : Heap) (locs : List Loc) (pc : Nat) (ls : Array Slot), decode b_Mod_canOf pc = .ok (.ireturn, 1) → post r x → Wd dC dI cI cB cJ cZ ad stM kcM 115 A x H → va_S A s.heap H locs → W p l e R s m args below meth c H locs cells slots Q (F0 m pc ls [.int r]))  : ∀ (l1 : Int32) (l2 : Int32) (l3 : Int32) (l4 : Int32) (l5 : Int32) (l6 : Int32) (l7 : Int32) (l8 : Int32) (l9 : Int32) (x : St) (H : Heap) (locs : List Loc) (ls : Array Slot), j_Mod_canOf_192 post l1 l2 l3 l4 l5 l6 l7 l8 l9 x → Wd dC dI cI cB cJ cZ ad stM kcM 115 A x H → va_S A s.heap H locs → lv_has ls 10 [(0, .ref (ad 0)), (1, .int l1), (2, .int l2), (3, .int l3), (4, .int l4), (5, .int l5), (6, .int l6), (7, .int l7), (8, .int l8), (9, .int l9)] → W p l e R s m args below meth c H locs cells slots Q (F0 m 192 ls []) := by
  intro l1 l2 l3 l4 l5 l6 l7 l8 l9 x H locs ls  hw hW hS hl
  unfold j_Mod_canOf_192 at hw
  refine lv_iload hx hb d_Mod_canOf_192 (lv_at hl 6 rfl) ?_
  exact hret l6 x H locs 194 ls d_Mod_canOf_194 hw hW hS
set_option maxRecDepth 100000 in
set_option maxHeartbeats 4000000 in
set_option maxRecDepth 100000 in
theorem t_Mod_canOf_167 {p : Program} {l : Launch} {e : Env} {R : Room} {s : State} {m : MethodId} {args : Array Value} {below : List Frame} {meth : Method} {c : Code} {cells slots : Nat} {Q : State → Prop} {dC : Nat → ClassId} {dI : Nat → Nat → Nat} {cI cB cJ cZ : ClassId} {A : Nat → Prop} {ad : Nat → Nat} {post : Int32 → St → Prop} (hx : p.tables.exec = Jvm.exec) (hb : c.code = b_Mod_canOf) (hml : c.maxLocals = 10) (hown : s.vm.findClass R_Mod = some m.cls) (hT : ∀ w ∈ TG, w.before args s = true) (hK : va_K (dC, dI) CL (TY cI cB cJ cZ) s) (hN : NW s) (hA : ∀ q : Nat, s.heap.size ≤ q → A q) (hRc : cells ≤ R.cells) (hRs : slots ≤ R.slots) (hRf : 3 ≤ R.frames) (hRl : 71 ≤ R.locals) (hret : ∀ (r : Int32) (x : St) (H : Heap) (locs : List Loc) (pc : Nat) (ls : Array Slot), decode b_Mod_canOf pc = .ok (.ireturn, 1) → post r x → Wd dC dI cI cB cJ cZ ad stM kcM 115 A x H → va_S A s.heap H locs → W p l e R s m args below meth c H locs cells slots Q (F0 m pc ls [.int r]))  : ∀ (l1 : Int32) (l2 : Int32) (l3 : Int32) (l4 : Int32) (l5 : Int32) (l6 : Int32) (l7 : Int32) (l8 : Int32) (l9 : Int32) (s0 : Int32) (s1 : Int32) (x : St) (H : Heap) (locs : List Loc) (ls : Array Slot), j_Mod_canOf_167 post l1 l2 l3 l4 l5 l6 l7 l8 l9 s0 s1 x → Wd dC dI cI cB cJ cZ ad stM kcM 115 A x H → va_S A s.heap H locs → lv_has ls 10 [(0, .ref (ad 0)), (1, .int l1), (2, .int l2), (3, .int l3), (4, .int l4), (5, .int l5), (6, .int l6), (7, .int l7), (8, .int l8), (9, .int l9)] → W p l e R s m args below meth c H locs cells slots Q (F0 m 167 ls [.int s0, .int s1]) := by
  intro l1 l2 l3 l4 l5 l6 l7 l8 l9 s0 s1 x H locs ls  hw hW hS hl
  unfold j_Mod_canOf_167 at hw
  refine lv_ior hx hb d_Mod_canOf_167 ?_
  refine lv_topi (fun v2378 ev2378 => ?_)
  have hw := hw v2378 ev2378
  refine lv_istore (lv' := [(6, .int v2378), (0, .ref (ad 0)), (1, .int l1), (2, .int l2), (3, .int l3), (4, .int l4), (5, .int l5), (7, .int l7), (8, .int l8), (9, .int l9)]) hx hb d_Mod_canOf_168 hl (by decide) rfl (fun ls hl => ?_)
  refine lv_iload hx hb d_Mod_canOf_170 (lv_at hl 5 rfl) ?_
  refine lv_if_eq (tgt := 192) hx hb d_Mod_canOf_172 (by decide) (fun c2379 => ?_) (fun c2379 => ?_)
  · have hw := hw.1 c2379
    exact t_Mod_canOf_192 hx hb hml hown hT hK hN hA hRc hRs hRf hRl hret  l1 l2 l3 l4 l5 v2378 l7 l8 l9 x H locs ls  hw hW hS (lv_sub hl [1, 2, 3, 4, 5, 6, 0, 7, 8, 9] rfl)
  · have hw := hw.2 c2379
    refine lv_aload_n hx hb d_Mod_canOf_175 rfl (lv_at hl 1 rfl) ?_
    refine w_getf (q := 97) (k := 142) (t := 12) (C := R_Mod) (T := F_Mod) (N := 167) hx hb hT hown hK hW ko_0.1 ko_0.2 (by decide) in_Mod rfl rfl (by decide) rfl fr_Mod_142 w_9_78 d_Mod_canOf_176 rfl ?_
    refine lv_iload hx hb d_Mod_canOf_179 (lv_at hl 9 rfl) ?_
    obtain ⟨hi, hw⟩ := hw
    refine w_iald (o := 97) hx hb hK hW ko_97.1 ko_97.2 hi d_Mod_canOf_181 ?_
    refine lv_aload_n hx hb d_Mod_canOf_182 rfl (lv_at hl 1 rfl) ?_
    refine w_getf (q := 98) (k := 143) (t := 12) (C := R_Mod) (T := F_Mod) (N := 167) hx hb hT hown hK hW ko_0.1 ko_0.2 (by decide) in_Mod rfl rfl (by decide) rfl fr_Mod_143 w_9_79 d_Mod_canOf_183 rfl ?_
    refine lv_iload hx hb d_Mod_canOf_186 (lv_at hl 9 rfl) ?_
    obtain ⟨hi, hw⟩ := hw
    refine w_iald (o := 98) hx hb hK hW ko_98.1 ko_98.2 hi d_Mod_canOf_188 ?_
    refine lv_icmp_ne (tgt := 195) hx hb d_Mod_canOf_189 (by decide) (fun c2380 => ?_) (fun c2380 => ?_)
    · have hw := hw.1 c2380
      refine lv_aload_n hx hb d_Mod_canOf_195 rfl (lv_at hl 1 rfl) ?_
      refine lv_aload_n hx hb d_Mod_canOf_196 rfl (lv_at hl 1 rfl) ?_
      refine lv_iconst (v := 1) hx hb d_Mod_canOf_197 (by decide) ?_
      refine lv_iload_n hx hb d_Mod_canOf_198 rfl (lv_at hl 3 rfl) ?_
      have hF := hW.free hS hA
      refine va_calli (va_runV (C := R_Mod) (As := [.int 1, .int l2]) (rest := [.ref (ad 0)]) ⟨hx, hb, hml, hown, hT⟩ (k_Mod_typeOf l dC dI cI cB cJ cZ ad H.size 1 l2 x  hw) ⟨callB_of 2 hT (gwt_in w_11_158) rfl rfl rfl (hT _ w_1_15) (hT _ w_11_155) (by decide +kernel) ⟨Nat.le_trans (Nat.le_of_ble_eq_true rfl) hRf, Nat.le_trans (Nat.le_of_ble_eq_true rfl) hRl⟩, hT _ w_11_157, hT _ ws_144⟩ ⟨PW.blind, va_recv hK hW.1 (ci := 12) (q0 := 0) rfl (pic_obj ko_0.1 ko_0.2 (by decide)), PW.at _ hW hK hN⟩ rfl rfl hl.1 rfl (lv_room (Nat.le_of_ble_eq_true rfl)) d_Mod_canOf_199 ⟨hRc, hRs⟩) hS (fun q _ h => hF q h) hF (fun r2382 x2381 t H locs ht hvm hw hB hz1 hk1 hS => ?_)
      have hW := Wd.back hB ht hF
      clear hB ht hF hz1 hk1 hvm
      refine lv_iload_n hx hb d_Mod_canOf_202 rfl (lv_at hl 3 rfl) ?_
      refine lv_aload_n hx hb d_Mod_canOf_203 rfl (lv_at hl 1 rfl) ?_
      refine w_getf (q := 86) (k := 129) (t := 12) (C := R_Mod) (T := F_Mod) (N := 167) hx hb hT hown hK hW ko_0.1 ko_0.2 (by decide) in_Mod rfl rfl (by decide) rfl fr_Mod_129 w_9_65 d_Mod_canOf_204 rfl ?_
      refine lv_iload_n hx hb d_Mod_canOf_207 rfl (lv_at hl 2 rfl) ?_
      obtain ⟨hi, hw⟩ := hw
      refine w_iald (o := 86) hx hb hK hW ko_86.1 ko_86.2 hi d_Mod_canOf_208 ?_
      refine lv_iload hx hb d_Mod_canOf_209 (lv_at hl 9 rfl) ?_
      have hF := hW.free hS hA
      refine va_calli (va_runV (C := R_Mod) (As := [.int r2382, .int l2, .int (rA x2381 86 l1), .int l9]) (rest := []) ⟨hx, hb, hml, hown, hT⟩ (k_Mod_canMeet l dC dI cI cB cJ cZ ad H.size r2382 l2 (rA x2381 86 l1) l9 x2381  hw) ⟨callB_of 4 hT (gwt_in w_13_223) rfl rfl rfl (hT _ w_1_15) (hT _ w_13_220) (by decide +kernel) ⟨Nat.le_trans (Nat.le_of_ble_eq_true rfl) hRf, Nat.le_trans (Nat.le_of_ble_eq_true rfl) hRl⟩, hT _ w_13_222, hT _ ws_257⟩ ⟨PW.blind, va_recv hK hW.1 (ci := 12) (q0 := 0) rfl (pic_obj ko_0.1 ko_0.2 (by decide)), PW.at _ hW hK hN⟩ rfl rfl hl.1 rfl (lv_room (Nat.le_of_ble_eq_true rfl)) d_Mod_canOf_211 ⟨hRc, hRs⟩) hS (fun q _ h => hF q h) hF (fun r2384 x2383 t H locs ht hvm hw hB hz1 hk1 hS => ?_)
      have hW := Wd.back hB ht hF
      clear hB ht hF hz1 hk1 hvm
      refine lv_istore (lv' := [(7, .int r2384), (6, .int v2378), (0, .ref (ad 0)), (1, .int l1), (2, .int l2), (3, .int l3), (4, .int l4), (5, .int l5), (8, .int l8), (9, .int l9)]) hx hb d_Mod_canOf_214 hl (by decide) rfl (fun ls hl => ?_)
      refine lv_aload_n hx hb d_Mod_canOf_216 rfl (lv_at hl 2 rfl) ?_
      refine lv_aload_n hx hb d_Mod_canOf_217 rfl (lv_at hl 2 rfl) ?_
      refine lv_iconst (v := 1) hx hb d_Mod_canOf_218 (by decide) ?_
      refine lv_iload_n hx hb d_Mod_canOf_219 rfl (lv_at hl 4 rfl) ?_
      have hF := hW.free hS hA
      refine va_calli (va_runV (C := R_Mod) (As := [.int 1, .int l2]) (rest := [.ref (ad 0)]) ⟨hx, hb, hml, hown, hT⟩ (k_Mod_typeOf l dC dI cI cB cJ cZ ad H.size 1 l2 x2383  hw) ⟨callB_of 2 hT (gwt_in w_11_158) rfl rfl rfl (hT _ w_1_15) (hT _ w_11_155) (by decide +kernel) ⟨Nat.le_trans (Nat.le_of_ble_eq_true rfl) hRf, Nat.le_trans (Nat.le_of_ble_eq_true rfl) hRl⟩, hT _ w_11_157, hT _ ws_144⟩ ⟨PW.blind, va_recv hK hW.1 (ci := 12) (q0 := 0) rfl (pic_obj ko_0.1 ko_0.2 (by decide)), PW.at _ hW hK hN⟩ rfl rfl hl.1 rfl (lv_room (Nat.le_of_ble_eq_true rfl)) d_Mod_canOf_220 ⟨hRc, hRs⟩) hS (fun q _ h => hF q h) hF (fun r2386 x2385 t H locs ht hvm hw hB hz1 hk1 hS => ?_)
      have hW := Wd.back hB ht hF
      clear hB ht hF hz1 hk1 hvm
      refine lv_iload_n hx hb d_Mod_canOf_223 rfl (lv_at hl 4 rfl) ?_
      refine lv_aload_n hx hb d_Mod_canOf_224 rfl (lv_at hl 2 rfl) ?_
      refine w_getf (q := 86) (k := 129) (t := 12) (C := R_Mod) (T := F_Mod) (N := 167) hx hb hT hown hK hW ko_0.1 ko_0.2 (by decide) in_Mod rfl rfl (by decide) rfl fr_Mod_129 w_9_65 d_Mod_canOf_225 rfl ?_
      refine lv_iload_n hx hb d_Mod_canOf_228 rfl (lv_at hl 3 rfl) ?_
      obtain ⟨hi, hw⟩ := hw
      refine w_iald (o := 86) hx hb hK hW ko_86.1 ko_86.2 hi d_Mod_canOf_229 ?_
      have hF := hW.free hS hA
      refine va_calli (va_runS (As := [.int (rA x2385 86 l1)]) (rest := [.int l2, .int r2386, .ref (ad 0)]) ⟨hx, hb, hml, hown, hT⟩ (k_Mod_contrary l dC dI cI cB cJ cZ ad H.size (rA x2385 86 l1) x2385  hw) ⟨callB_of 1 hT (gwt_in w_13_229) rfl rfl rfl (hT _ w_1_15) (hT _ w_13_227) (by decide +kernel) ⟨Nat.le_trans (Nat.le_of_ble_eq_true rfl) hRf, Nat.le_trans (Nat.le_of_ble_eq_true rfl) hRl⟩, hT _ w_13_228⟩ ⟨PW.blind, PW.at _ hW hK hN⟩ rfl rfl hl.1 rfl (lv_room (Nat.le_of_ble_eq_true rfl)) d_Mod_canOf_230 ⟨hRc, hRs⟩) hS (fun q _ h => hF q h) hF (fun r2388 x2387 t H locs ht hvm hw hB hz1 hk1 hS => ?_)
      have hW := Wd.back hB ht hF
      clear hB ht hF hz1 hk1 hvm
      refine lv_iload hx hb d_Mod_canOf_233 (lv_at hl 9 rfl) ?_
      have hF := hW.free hS hA
      refine va_calli (va_runV (C := R_Mod) (As := [.int r2386, .int l2, .int r2388, .int l9]) (rest := []) ⟨hx, hb, hml, hown, hT⟩ (k_Mod_canMeet l dC dI cI cB cJ cZ ad H.size r2386 l2 r2388 l9 x2387  hw) ⟨callB_of 4 hT (gwt_in w_13_223) rfl rfl rfl (hT _ w_1_15) (hT _ w_13_220) (by decide +kernel) ⟨Nat.le_trans (Nat.le_of_ble_eq_true rfl) hRf, Nat.le_trans (Nat.le_of_ble_eq_true rfl) hRl⟩, hT _ w_13_222, hT _ ws_257⟩ ⟨PW.blind, va_recv hK hW.1 (ci := 12) (q0 := 0) rfl (pic_obj ko_0.1 ko_0.2 (by decide)), PW.at _ hW hK hN⟩ rfl rfl hl.1 rfl (lv_room (Nat.le_of_ble_eq_true rfl)) d_Mod_canOf_235 ⟨hRc, hRs⟩) hS (fun q _ h => hF q h) hF (fun r2390 x2389 t H locs ht hvm hw hB hz1 hk1 hS => ?_)
      have hW := Wd.back hB ht hF
      clear hB ht hF hz1 hk1 hvm
      refine lv_istore (lv' := [(8, .int r2390), (7, .int r2384), (6, .int v2378), (0, .ref (ad 0)), (1, .int l1), (2, .int l2), (3, .int l3), (4, .int l4), (5, .int l5), (9, .int l9)]) hx hb d_Mod_canOf_238 hl (by decide) rfl (fun ls hl => ?_)
      refine lv_goto (tgt := 373) hx hb d_Mod_canOf_240 (by decide) ?_
      exact t_Mod_canOf_373 hx hb hml hown hT hK hN hA hRc hRs hRf hRl hret  l1 l2 l3 l4 l5 v2378 r2384 r2390 l9 x2389 H locs ls  hw hW hS (lv_sub hl [3, 4, 5, 6, 7, 8, 2, 1, 0, 9] rfl)
    · have hw := hw.2 c2380
      exact t_Mod_canOf_192 hx hb hml hown hT hK hN hA hRc hRs hRf hRl hret  l1 l2 l3 l4 l5 v2378 l7 l8 l9 x H locs ls  hw hW hS (lv_sub hl [1, 2, 3, 4, 5, 6, 0, 7, 8, 9] rfl)
set_option maxRecDepth 100000 in
set_option maxHeartbeats 4000000 in
set_option maxRecDepth 100000 in
theorem t_Mod_canOf_120 {p : Program} {l : Launch} {e : Env} {R : Room} {s : State} {m : MethodId} {args : Array Value} {below : List Frame} {meth : Method} {c : Code} {cells slots : Nat} {Q : State → Prop} {dC : Nat → ClassId} {dI : Nat → Nat → Nat} {cI cB cJ cZ : ClassId} {A : Nat → Prop} {ad : Nat → Nat} {post : Int32 → St → Prop} (hx : p.tables.exec = Jvm.exec) (hb : c.code = b_Mod_canOf) (hml : c.maxLocals = 10) (hown : s.vm.findClass R_Mod = some m.cls) (hT : ∀ w ∈ TG, w.before args s = true) (hK : va_K (dC, dI) CL (TY cI cB cJ cZ) s) (hN : NW s) (hA : ∀ q : Nat, s.heap.size ≤ q → A q) (hRc : cells ≤ R.cells) (hRs : slots ≤ R.slots) (hRf : 3 ≤ R.frames) (hRl : 71 ≤ R.locals) (hret : ∀ (r : Int32) (x : St) (H : Heap) (locs : List Loc) (pc : Nat) (ls : Array Slot), decode b_Mod_canOf pc = .ok (.ireturn, 1) → post r x → Wd dC dI cI cB cJ cZ ad stM kcM 115 A x H → va_S A s.heap H locs → W p l e R s m args below meth c H locs cells slots Q (F0 m pc ls [.int r]))  : ∀ (l1 : Int32) (l2 : Int32) (l3 : Int32) (l4 : Int32) (l5 : Int32) (s0 : Int32) (x : St) (H : Heap) (locs : List Loc) (ls : Array Slot), j_Mod_canOf_120 post l1 l2 l3 l4 l5 s0 x → Wd dC dI cI cB cJ cZ ad stM kcM 115 A x H → va_S A s.heap H locs → lv_has ls 10 [(0, .ref (ad 0)), (1, .int l1), (2, .int l2), (3, .int l3), (4, .int l4), (5, .int l5)] → W p l e R s m args below meth c H locs cells slots Q (F0 m 120 ls [.int s0]) := by
  intro l1 l2 l3 l4 l5 s0 x H locs ls  hw hW hS hl
  unfold j_Mod_canOf_120 at hw
  refine lv_istore (lv' := [(6, .int s0), (0, .ref (ad 0)), (1, .int l1), (2, .int l2), (3, .int l3), (4, .int l4), (5, .int l5)]) hx hb d_Mod_canOf_120 hl (by decide) rfl (fun ls hl => ?_)
  refine lv_iconst (v := 0) hx hb d_Mod_canOf_122 (by decide) ?_
  refine lv_istore (lv' := [(7, .int 0), (6, .int s0), (0, .ref (ad 0)), (1, .int l1), (2, .int l2), (3, .int l3), (4, .int l4), (5, .int l5)]) hx hb d_Mod_canOf_123 hl (by decide) rfl (fun ls hl => ?_)
  refine lv_iconst (v := 0) hx hb d_Mod_canOf_125 (by decide) ?_
  refine lv_istore (lv' := [(8, .int 0), (7, .int 0), (6, .int s0), (0, .ref (ad 0)), (1, .int l1), (2, .int l2), (3, .int l3), (4, .int l4), (5, .int l5)]) hx hb d_Mod_canOf_126 hl (by decide) rfl (fun ls hl => ?_)
  refine lv_iload_n hx hb d_Mod_canOf_128 rfl (lv_at hl 6 rfl) ?_
  refine lv_iconst (v := 4) hx hb d_Mod_canOf_129 (by decide) ?_
  refine lv_icmp_ne (tgt := 243) hx hb d_Mod_canOf_130 (by decide) (fun c2391 => ?_) (fun c2391 => ?_)
  · have hw := hw.1 c2391
    refine lv_iload hx hb d_Mod_canOf_243 (lv_at hl 7 rfl) ?_
    refine lv_if_ne (tgt := 251) hx hb d_Mod_canOf_245 (by decide) (fun c2392 => ?_) (fun c2392 => ?_)
    · have hw := hw.1 c2392
      refine lv_iload_n hx hb d_Mod_canOf_251 rfl (lv_at hl 6 rfl) ?_
      refine lv_iconst (v := 3) hx hb d_Mod_canOf_252 (by decide) ?_
      refine lv_icmp_ne (tgt := 308) hx hb d_Mod_canOf_253 (by decide) (fun c2393 => ?_) (fun c2393 => ?_)
      · have hw := hw.1 c2393
        refine lv_iconst (v := 0) hx hb d_Mod_canOf_308 (by decide) ?_
        refine lv_istore (lv' := [(9, .int 0), (8, .int 0), (7, .int 0), (6, .int s0), (0, .ref (ad 0)), (1, .int l1), (2, .int l2), (3, .int l3), (4, .int l4), (5, .int l5)]) hx hb d_Mod_canOf_309 hl (by decide) rfl (fun ls hl => ?_)
        obtain ⟨n, hw⟩ := hw
        exact tl_Mod_canOf_311 hx hb hml hown hT hK hN hA hRc hRs hRf hRl hret  n l1 l2 l3 l4 l5 s0 0 0 0 x H locs ls  hw hW hS (lv_sub hl [4, 5, 6, 7, 8, 9, 3, 2, 1, 0] rfl)
      · have hw := hw.2 c2393
        refine lv_bipush (v := 64) hx hb d_Mod_canOf_256 (by decide) ?_
        refine lv_iload_n hx hb d_Mod_canOf_258 rfl (lv_at hl 4 rfl) ?_
        refine lv_bipush (v := 64) hx hb d_Mod_canOf_259 (by decide) ?_
        refine lv_idiv hx hb d_Mod_canOf_261 (by decide) ?_
        refine lv_imul hx hb d_Mod_canOf_262 ?_
        refine lv_aload_n hx hb d_Mod_canOf_263 rfl (lv_at hl 3 rfl) ?_
        refine w_getf (q := 87) (k := 130) (t := 12) (C := R_Mod) (T := F_Mod) (N := 167) hx hb hT hown hK hW ko_0.1 ko_0.2 (by decide) in_Mod rfl rfl (by decide) rfl fr_Mod_130 w_9_66 d_Mod_canOf_264 rfl ?_
        refine lv_iload_n hx hb d_Mod_canOf_267 rfl (lv_at hl 4 rfl) ?_
        obtain ⟨hi, hw⟩ := hw
        refine w_iald (o := 87) hx hb hK hW ko_87.1 ko_87.2 hi d_Mod_canOf_268 ?_
        refine lv_iadd hx hb d_Mod_canOf_269 ?_
        refine lv_topi (fun v2394 ev2394 => ?_)
        have hw := hw v2394 ev2394
        refine lv_istore (lv' := [(9, .int v2394), (8, .int 0), (7, .int 0), (6, .int s0), (0, .ref (ad 0)), (1, .int l1), (2, .int l2), (3, .int l3), (4, .int l4), (5, .int l5)]) hx hb d_Mod_canOf_270 hl (by decide) rfl (fun ls hl => ?_)
        refine lv_aload_n hx hb d_Mod_canOf_272 rfl (lv_at hl 4 rfl) ?_
        refine lv_iload_n hx hb d_Mod_canOf_273 rfl (lv_at hl 6 rfl) ?_
        refine lv_aload_n hx hb d_Mod_canOf_274 rfl (lv_at hl 4 rfl) ?_
        refine w_getf (q := 86) (k := 129) (t := 12) (C := R_Mod) (T := F_Mod) (N := 167) hx hb hT hown hK hW ko_0.1 ko_0.2 (by decide) in_Mod rfl rfl (by decide) rfl fr_Mod_129 w_9_65 d_Mod_canOf_275 rfl ?_
        refine lv_iload_n hx hb d_Mod_canOf_278 rfl (lv_at hl 5 rfl) ?_
        obtain ⟨hi, hw⟩ := hw
        refine w_iald (o := 86) hx hb hK hW ko_86.1 ko_86.2 hi d_Mod_canOf_279 ?_
        refine lv_iload hx hb d_Mod_canOf_280 (lv_at hl 0 rfl) ?_
        have hF := hW.free hS hA
        refine va_calli (va_runV (C := R_Mod) (As := [.int l2, .int (rA x 86 l1), .int v2394]) (rest := []) ⟨hx, hb, hml, hown, hT⟩ (k_Mod_canCompare l dC dI cI cB cJ cZ ad H.size l2 (rA x 86 l1) v2394 x  hw) ⟨callB_of 3 hT (gwt_in w_13_233) rfl rfl rfl (hT _ w_1_15) (hT _ w_13_230) (by decide +kernel) ⟨Nat.le_trans (Nat.le_of_ble_eq_true rfl) hRf, Nat.le_trans (Nat.le_of_ble_eq_true rfl) hRl⟩, hT _ w_13_232, hT _ ws_258⟩ ⟨PW.blind, va_recv hK hW.1 (ci := 12) (q0 := 0) rfl (pic_obj ko_0.1 ko_0.2 (by decide)), PW.at _ hW hK hN⟩ rfl rfl hl.1 rfl (lv_room (Nat.le_of_ble_eq_true rfl)) d_Mod_canOf_282 ⟨hRc, hRs⟩) hS (fun q _ h => hF q h) hF (fun r2396 x2395 t H locs ht hvm hw hB hz1 hk1 hS => ?_)
        have hW := Wd.back hB ht hF
        clear hB ht hF hz1 hk1 hvm
        refine lv_istore (lv' := [(7, .int r2396), (9, .int v2394), (8, .int 0), (6, .int s0), (0, .ref (ad 0)), (1, .int l1), (2, .int l2), (3, .int l3), (4, .int l4), (5, .int l5)]) hx hb d_Mod_canOf_285 hl (by decide) rfl (fun ls hl => ?_)
        refine lv_aload_n hx hb d_Mod_canOf_287 rfl (lv_at hl 4 rfl) ?_
        refine lv_iload_n hx hb d_Mod_canOf_288 rfl (lv_at hl 6 rfl) ?_
        refine lv_aload_n hx hb d_Mod_canOf_289 rfl (lv_at hl 4 rfl) ?_
        refine w_getf (q := 86) (k := 129) (t := 12) (C := R_Mod) (T := F_Mod) (N := 167) hx hb hT hown hK hW ko_0.1 ko_0.2 (by decide) in_Mod rfl rfl (by decide) rfl fr_Mod_129 w_9_65 d_Mod_canOf_290 rfl ?_
        refine lv_iload_n hx hb d_Mod_canOf_293 rfl (lv_at hl 5 rfl) ?_
        obtain ⟨hi, hw⟩ := hw
        refine w_iald (o := 86) hx hb hK hW ko_86.1 ko_86.2 hi d_Mod_canOf_294 ?_
        have hF := hW.free hS hA
        refine va_calli (va_runS (As := [.int (rA x2395 86 l1)]) (rest := [.int l2, .ref (ad 0)]) ⟨hx, hb, hml, hown, hT⟩ (k_Mod_contrary l dC dI cI cB cJ cZ ad H.size (rA x2395 86 l1) x2395  hw) ⟨callB_of 1 hT (gwt_in w_13_229) rfl rfl rfl (hT _ w_1_15) (hT _ w_13_227) (by decide +kernel) ⟨Nat.le_trans (Nat.le_of_ble_eq_true rfl) hRf, Nat.le_trans (Nat.le_of_ble_eq_true rfl) hRl⟩, hT _ w_13_228⟩ ⟨PW.blind, PW.at _ hW hK hN⟩ rfl rfl hl.1 rfl (lv_room (Nat.le_of_ble_eq_true rfl)) d_Mod_canOf_295 ⟨hRc, hRs⟩) hS (fun q _ h => hF q h) hF (fun r2398 x2397 t H locs ht hvm hw hB hz1 hk1 hS => ?_)
        have hW := Wd.back hB ht hF
        clear hB ht hF hz1 hk1 hvm
        refine lv_iload hx hb d_Mod_canOf_298 (lv_at hl 1 rfl) ?_
        have hF := hW.free hS hA
        refine va_calli (va_runV (C := R_Mod) (As := [.int l2, .int r2398, .int v2394]) (rest := []) ⟨hx, hb, hml, hown, hT⟩ (k_Mod_canCompare l dC dI cI cB cJ cZ ad H.size l2 r2398 v2394 x2397  hw) ⟨callB_of 3 hT (gwt_in w_13_233) rfl rfl rfl (hT _ w_1_15) (hT _ w_13_230) (by decide +kernel) ⟨Nat.le_trans (Nat.le_of_ble_eq_true rfl) hRf, Nat.le_trans (Nat.le_of_ble_eq_true rfl) hRl⟩, hT _ w_13_232, hT _ ws_258⟩ ⟨PW.blind, va_recv hK hW.1 (ci := 12) (q0 := 0) rfl (pic_obj ko_0.1 ko_0.2 (by decide)), PW.at _ hW hK hN⟩ rfl rfl hl.1 rfl (lv_room (Nat.le_of_ble_eq_true rfl)) d_Mod_canOf_300 ⟨hRc, hRs⟩) hS (fun q _ h => hF q h) hF (fun r2400 x2399 t H locs ht hvm hw hB hz1 hk1 hS => ?_)
        have hW := Wd.back hB ht hF
        clear hB ht hF hz1 hk1 hvm
        refine lv_istore (lv' := [(8, .int r2400), (7, .int r2396), (9, .int v2394), (6, .int s0), (0, .ref (ad 0)), (1, .int l1), (2, .int l2), (3, .int l3), (4, .int l4), (5, .int l5)]) hx hb d_Mod_canOf_303 hl (by decide) rfl (fun ls hl => ?_)
        refine lv_goto (tgt := 373) hx hb d_Mod_canOf_305 (by decide) ?_
        exact t_Mod_canOf_373 hx hb hml hown hT hK hN hA hRc hRs hRf hRl hret  l1 l2 l3 l4 l5 s0 r2396 r2400 v2394 x2399 H locs ls  hw hW hS (lv_sub hl [4, 5, 6, 7, 8, 9, 3, 1, 0, 2] rfl)
    · have hw := hw.2 c2392
      refine lv_iload hx hb d_Mod_canOf_248 (lv_at hl 2 rfl) ?_
      exact hret s0 x H locs 250 ls d_Mod_canOf_250 hw hW hS
  · have hw := hw.2 c2391
    refine lv_aload_n hx hb d_Mod_canOf_133 rfl (lv_at hl 3 rfl) ?_
    refine w_getf (q := 6) (k := 8) (t := 12) (C := R_Mod) (T := F_Mod) (N := 167) hx hb hT hown hK hW ko_0.1 ko_0.2 (by decide) in_Mod rfl rfl (by decide) rfl fr_Mod_8 w_8_184 d_Mod_canOf_134 rfl ?_
    refine lv_iconst (v := 1) hx hb d_Mod_canOf_137 (by decide) ?_
    refine lv_aload_n hx hb d_Mod_canOf_138 rfl (lv_at hl 3 rfl) ?_
    refine w_getf (q := 87) (k := 130) (t := 12) (C := R_Mod) (T := F_Mod) (N := 167) hx hb hT hown hK hW ko_0.1 ko_0.2 (by decide) in_Mod rfl rfl (by decide) rfl fr_Mod_130 w_9_66 d_Mod_canOf_139 rfl ?_
    refine lv_iload_n hx hb d_Mod_canOf_142 rfl (lv_at hl 4 rfl) ?_
    obtain ⟨hi, hw⟩ := hw
    refine w_iald (o := 87) hx hb hK hW ko_87.1 ko_87.2 hi d_Mod_canOf_143 ?_
    have hF := hW.free hS hA
    refine va_calli (va_runS (As := [.int 1, .int (rA x 87 l1)]) (rest := [.ref (ad 6)]) ⟨hx, hb, hml, hown, hT⟩ (k_Mod_place l dC dI cI cB cJ cZ ad H.size 1 (rA x 87 l1) x  hw) ⟨callB_of 2 hT (gwt_in w_11_30) rfl rfl rfl (hT _ w_1_15) (hT _ w_11_28) (by decide +kernel) ⟨Nat.le_trans (Nat.le_of_ble_eq_true rfl) hRf, Nat.le_trans (Nat.le_of_ble_eq_true rfl) hRl⟩, hT _ w_11_29⟩ ⟨PW.blind, PW.at _ hW hK hN⟩ rfl rfl hl.1 rfl (lv_room (Nat.le_of_ble_eq_true rfl)) d_Mod_canOf_144 ⟨hRc, hRs⟩) hS (fun q _ h => hF q h) hF (fun r2402 x2401 t H locs ht hvm hw hB hz1 hk1 hS => ?_)
    have hW := Wd.back hB ht hF
    clear hB ht hF hz1 hk1 hvm
    obtain ⟨hi, hw⟩ := hw
    refine w_iald (o := 6) hx hb hK hW ko_6.1 ko_6.2 hi d_Mod_canOf_147 ?_
    refine lv_topi (fun v2403 ev2403 => ?_)
    have hw := hw v2403 ev2403
    refine lv_istore (lv' := [(9, .int v2403), (8, .int 0), (7, .int 0), (6, .int s0), (0, .ref (ad 0)), (1, .int l1), (2, .int l2), (3, .int l3), (4, .int l4), (5, .int l5)]) hx hb d_Mod_canOf_148 hl (by decide) rfl (fun ls hl => ?_)
    refine lv_iload hx hb d_Mod_canOf_150 (lv_at hl 3 rfl) ?_
    refine lv_aload_n hx hb d_Mod_canOf_152 rfl (lv_at hl 4 rfl) ?_
    refine w_getf (q := 98) (k := 143) (t := 12) (C := R_Mod) (T := F_Mod) (N := 167) hx hb hT hown hK hW ko_0.1 ko_0.2 (by decide) in_Mod rfl rfl (by decide) rfl fr_Mod_143 w_9_79 d_Mod_canOf_153 rfl ?_
    refine lv_iload hx hb d_Mod_canOf_156 (lv_at hl 0 rfl) ?_
    obtain ⟨hi, hw⟩ := hw
    refine w_iald (o := 98) hx hb hK hW ko_98.1 ko_98.2 hi d_Mod_canOf_158 ?_
    refine lv_if_le (tgt := 166) hx hb d_Mod_canOf_159 (by decide) (fun c2404 => ?_) (fun c2404 => ?_)
    · have hw := hw.1 c2404
      refine lv_iconst (v := 0) hx hb d_Mod_canOf_166 (by decide) ?_
      exact t_Mod_canOf_167 hx hb hml hown hT hK hN hA hRc hRs hRf hRl hret  l1 l2 l3 l4 l5 s0 0 0 v2403 0 s0 x2401 H locs ls  hw hW hS (lv_sub hl [4, 5, 6, 7, 8, 9, 3, 2, 1, 0] rfl)
    · have hw := hw.2 c2404
      refine lv_iconst (v := 4) hx hb d_Mod_canOf_162 (by decide) ?_
      refine lv_goto (tgt := 167) hx hb d_Mod_canOf_163 (by decide) ?_
      exact t_Mod_canOf_167 hx hb hml hown hT hK hN hA hRc hRs hRf hRl hret  l1 l2 l3 l4 l5 s0 0 0 v2403 4 s0 x2401 H locs ls  hw hW hS (lv_sub hl [4, 5, 6, 7, 8, 9, 3, 2, 1, 0] rfl)
set_option maxRecDepth 100000 in
set_option maxHeartbeats 4000000 in
set_option maxRecDepth 100000 in
theorem t_Mod_canOf_108 {p : Program} {l : Launch} {e : Env} {R : Room} {s : State} {m : MethodId} {args : Array Value} {below : List Frame} {meth : Method} {c : Code} {cells slots : Nat} {Q : State → Prop} {dC : Nat → ClassId} {dI : Nat → Nat → Nat} {cI cB cJ cZ : ClassId} {A : Nat → Prop} {ad : Nat → Nat} {post : Int32 → St → Prop} (hx : p.tables.exec = Jvm.exec) (hb : c.code = b_Mod_canOf) (hml : c.maxLocals = 10) (hown : s.vm.findClass R_Mod = some m.cls) (hT : ∀ w ∈ TG, w.before args s = true) (hK : va_K (dC, dI) CL (TY cI cB cJ cZ) s) (hN : NW s) (hA : ∀ q : Nat, s.heap.size ≤ q → A q) (hRc : cells ≤ R.cells) (hRs : slots ≤ R.slots) (hRf : 3 ≤ R.frames) (hRl : 71 ≤ R.locals) (hret : ∀ (r : Int32) (x : St) (H : Heap) (locs : List Loc) (pc : Nat) (ls : Array Slot), decode b_Mod_canOf pc = .ok (.ireturn, 1) → post r x → Wd dC dI cI cB cJ cZ ad stM kcM 115 A x H → va_S A s.heap H locs → W p l e R s m args below meth c H locs cells slots Q (F0 m pc ls [.int r]))  : ∀ (l1 : Int32) (l2 : Int32) (l3 : Int32) (l4 : Int32) (l5 : Int32) (x : St) (H : Heap) (locs : List Loc) (ls : Array Slot), j_Mod_canOf_108 post l1 l2 l3 l4 l5 x → Wd dC dI cI cB cJ cZ ad stM kcM 115 A x H → va_S A s.heap H locs → lv_has ls 10 [(0, .ref (ad 0)), (1, .int l1), (2, .int l2), (3, .int l3), (4, .int l4), (5, .int l5)] → W p l e R s m args below meth c H locs cells slots Q (F0 m 108 ls []) := by
  intro l1 l2 l3 l4 l5 x H locs ls  hw hW hS hl
  unfold j_Mod_canOf_108 at hw
  refine lv_iconst (v := 1) hx hb d_Mod_canOf_108 (by decide) ?_
  exact hret 1 x H locs 109 ls d_Mod_canOf_109 hw hW hS
set_option maxRecDepth 100000 in
set_option maxHeartbeats 4000000 in
set_option maxRecDepth 100000 in
theorem t_Mod_canOf_104 {p : Program} {l : Launch} {e : Env} {R : Room} {s : State} {m : MethodId} {args : Array Value} {below : List Frame} {meth : Method} {c : Code} {cells slots : Nat} {Q : State → Prop} {dC : Nat → ClassId} {dI : Nat → Nat → Nat} {cI cB cJ cZ : ClassId} {A : Nat → Prop} {ad : Nat → Nat} {post : Int32 → St → Prop} (hx : p.tables.exec = Jvm.exec) (hb : c.code = b_Mod_canOf) (hml : c.maxLocals = 10) (hown : s.vm.findClass R_Mod = some m.cls) (hT : ∀ w ∈ TG, w.before args s = true) (hK : va_K (dC, dI) CL (TY cI cB cJ cZ) s) (hN : NW s) (hA : ∀ q : Nat, s.heap.size ≤ q → A q) (hRc : cells ≤ R.cells) (hRs : slots ≤ R.slots) (hRf : 3 ≤ R.frames) (hRl : 71 ≤ R.locals) (hret : ∀ (r : Int32) (x : St) (H : Heap) (locs : List Loc) (pc : Nat) (ls : Array Slot), decode b_Mod_canOf pc = .ok (.ireturn, 1) → post r x → Wd dC dI cI cB cJ cZ ad stM kcM 115 A x H → va_S A s.heap H locs → W p l e R s m args below meth c H locs cells slots Q (F0 m pc ls [.int r]))  : ∀ (l1 : Int32) (l2 : Int32) (l3 : Int32) (l4 : Int32) (l5 : Int32) (x : St) (H : Heap) (locs : List Loc) (ls : Array Slot), j_Mod_canOf_104 post l1 l2 l3 l4 l5 x → Wd dC dI cI cB cJ cZ ad stM kcM 115 A x H → va_S A s.heap H locs → lv_has ls 10 [(0, .ref (ad 0)), (1, .int l1), (2, .int l2), (3, .int l3), (4, .int l4), (5, .int l5)] → W p l e R s m args below meth c H locs cells slots Q (F0 m 104 ls []) := by
  intro l1 l2 l3 l4 l5 x H locs ls  hw hW hS hl
  unfold j_Mod_canOf_104 at hw
  refine lv_iconst (v := 2) hx hb d_Mod_canOf_104 (by decide) ?_
  refine lv_goto (tgt := 109) hx hb d_Mod_canOf_105 (by decide) ?_
  exact hret 2 x H locs 109 ls d_Mod_canOf_109 hw hW hS
set_option maxRecDepth 100000 in
set_option maxHeartbeats 4000000 in
set_option maxRecDepth 100000 in
theorem t_Mod_canOf_100 {p : Program} {l : Launch} {e : Env} {R : Room} {s : State} {m : MethodId} {args : Array Value} {below : List Frame} {meth : Method} {c : Code} {cells slots : Nat} {Q : State → Prop} {dC : Nat → ClassId} {dI : Nat → Nat → Nat} {cI cB cJ cZ : ClassId} {A : Nat → Prop} {ad : Nat → Nat} {post : Int32 → St → Prop} (hx : p.tables.exec = Jvm.exec) (hb : c.code = b_Mod_canOf) (hml : c.maxLocals = 10) (hown : s.vm.findClass R_Mod = some m.cls) (hT : ∀ w ∈ TG, w.before args s = true) (hK : va_K (dC, dI) CL (TY cI cB cJ cZ) s) (hN : NW s) (hA : ∀ q : Nat, s.heap.size ≤ q → A q) (hRc : cells ≤ R.cells) (hRs : slots ≤ R.slots) (hRf : 3 ≤ R.frames) (hRl : 71 ≤ R.locals) (hret : ∀ (r : Int32) (x : St) (H : Heap) (locs : List Loc) (pc : Nat) (ls : Array Slot), decode b_Mod_canOf pc = .ok (.ireturn, 1) → post r x → Wd dC dI cI cB cJ cZ ad stM kcM 115 A x H → va_S A s.heap H locs → W p l e R s m args below meth c H locs cells slots Q (F0 m pc ls [.int r]))  : ∀ (l1 : Int32) (l2 : Int32) (l3 : Int32) (l4 : Int32) (l5 : Int32) (x : St) (H : Heap) (locs : List Loc) (ls : Array Slot), j_Mod_canOf_100 post l1 l2 l3 l4 l5 x → Wd dC dI cI cB cJ cZ ad stM kcM 115 A x H → va_S A s.heap H locs → lv_has ls 10 [(0, .ref (ad 0)), (1, .int l1), (2, .int l2), (3, .int l3), (4, .int l4), (5, .int l5)] → W p l e R s m args below meth c H locs cells slots Q (F0 m 100 ls []) := by
  intro l1 l2 l3 l4 l5 x H locs ls  hw hW hS hl
  unfold j_Mod_canOf_100 at hw
  refine lv_iconst (v := 3) hx hb d_Mod_canOf_100 (by decide) ?_
  refine lv_goto (tgt := 109) hx hb d_Mod_canOf_101 (by decide) ?_
  exact hret 3 x H locs 109 ls d_Mod_canOf_109 hw hW hS
set_option maxRecDepth 100000 in
set_option maxHeartbeats 4000000 in
set_option maxRecDepth 100000 in
theorem t_Mod_canOf_83 {p : Program} {l : Launch} {e : Env} {R : Room} {s : State} {m : MethodId} {args : Array Value} {below : List Frame} {meth : Method} {c : Code} {cells slots : Nat} {Q : State → Prop} {dC : Nat → ClassId} {dI : Nat → Nat → Nat} {cI cB cJ cZ : ClassId} {A : Nat → Prop} {ad : Nat → Nat} {post : Int32 → St → Prop} (hx : p.tables.exec = Jvm.exec) (hb : c.code = b_Mod_canOf) (hml : c.maxLocals = 10) (hown : s.vm.findClass R_Mod = some m.cls) (hT : ∀ w ∈ TG, w.before args s = true) (hK : va_K (dC, dI) CL (TY cI cB cJ cZ) s) (hN : NW s) (hA : ∀ q : Nat, s.heap.size ≤ q → A q) (hRc : cells ≤ R.cells) (hRs : slots ≤ R.slots) (hRf : 3 ≤ R.frames) (hRl : 71 ≤ R.locals) (hret : ∀ (r : Int32) (x : St) (H : Heap) (locs : List Loc) (pc : Nat) (ls : Array Slot), decode b_Mod_canOf pc = .ok (.ireturn, 1) → post r x → Wd dC dI cI cB cJ cZ ad stM kcM 115 A x H → va_S A s.heap H locs → W p l e R s m args below meth c H locs cells slots Q (F0 m pc ls [.int r]))  : ∀ (l1 : Int32) (l2 : Int32) (l3 : Int32) (l4 : Int32) (l5 : Int32) (x : St) (H : Heap) (locs : List Loc) (ls : Array Slot), j_Mod_canOf_83 post l1 l2 l3 l4 l5 x → Wd dC dI cI cB cJ cZ ad stM kcM 115 A x H → va_S A s.heap H locs → lv_has ls 10 [(0, .ref (ad 0)), (1, .int l1), (2, .int l2), (3, .int l3), (4, .int l4), (5, .int l5)] → W p l e R s m args below meth c H locs cells slots Q (F0 m 83 ls []) := by
  intro l1 l2 l3 l4 l5 x H locs ls  hw hW hS hl
  unfold j_Mod_canOf_83 at hw
  refine lv_iload_n hx hb d_Mod_canOf_83 rfl (lv_at hl 3 rfl) ?_
  refine lv_if_ne (tgt := 95) hx hb d_Mod_canOf_84 (by decide) (fun c2405 => ?_) (fun c2405 => ?_)
  · have hw := hw.1 c2405
    refine lv_iload hx hb d_Mod_canOf_95 (lv_at hl 5 rfl) ?_
    refine lv_if_eq (tgt := 104) hx hb d_Mod_canOf_97 (by decide) (fun c2406 => ?_) (fun c2406 => ?_)
    · have hw := hw.1 c2406
      exact t_Mod_canOf_104 hx hb hml hown hT hK hN hA hRc hRs hRf hRl hret  l1 l2 l3 l4 l5 x H locs ls  hw hW hS (lv_sub hl [0, 1, 2, 3, 4, 5] rfl)
    · have hw := hw.2 c2406
      exact t_Mod_canOf_100 hx hb hml hown hT hK hN hA hRc hRs hRf hRl hret  l1 l2 l3 l4 l5 x H locs ls  hw hW hS (lv_sub hl [0, 1, 2, 3, 4, 5] rfl)
  · have hw := hw.2 c2405
    refine lv_iload hx hb d_Mod_canOf_87 (lv_at hl 4 rfl) ?_
    refine lv_if_eq (tgt := 104) hx hb d_Mod_canOf_89 (by decide) (fun c2407 => ?_) (fun c2407 => ?_)
    · have hw := hw.1 c2407
      exact t_Mod_canOf_104 hx hb hml hown hT hK hN hA hRc hRs hRf hRl hret  l1 l2 l3 l4 l5 x H locs ls  hw hW hS (lv_sub hl [0, 1, 2, 3, 4, 5] rfl)
    · have hw := hw.2 c2407
      refine lv_goto (tgt := 100) hx hb d_Mod_canOf_92 (by decide) ?_
      exact t_Mod_canOf_100 hx hb hml hown hT hK hN hA hRc hRs hRf hRl hret  l1 l2 l3 l4 l5 x H locs ls  hw hW hS (lv_sub hl [0, 1, 2, 3, 4, 5] rfl)
set_option maxRecDepth 100000 in
set_option maxHeartbeats 4000000 in
set_option maxRecDepth 100000 in
theorem t_Mod_canOf_59 {p : Program} {l : Launch} {e : Env} {R : Room} {s : State} {m : MethodId} {args : Array Value} {below : List Frame} {meth : Method} {c : Code} {cells slots : Nat} {Q : State → Prop} {dC : Nat → ClassId} {dI : Nat → Nat → Nat} {cI cB cJ cZ : ClassId} {A : Nat → Prop} {ad : Nat → Nat} {post : Int32 → St → Prop} (hx : p.tables.exec = Jvm.exec) (hb : c.code = b_Mod_canOf) (hml : c.maxLocals = 10) (hown : s.vm.findClass R_Mod = some m.cls) (hT : ∀ w ∈ TG, w.before args s = true) (hK : va_K (dC, dI) CL (TY cI cB cJ cZ) s) (hN : NW s) (hA : ∀ q : Nat, s.heap.size ≤ q → A q) (hRc : cells ≤ R.cells) (hRs : slots ≤ R.slots) (hRf : 3 ≤ R.frames) (hRl : 71 ≤ R.locals) (hret : ∀ (r : Int32) (x : St) (H : Heap) (locs : List Loc) (pc : Nat) (ls : Array Slot), decode b_Mod_canOf pc = .ok (.ireturn, 1) → post r x → Wd dC dI cI cB cJ cZ ad stM kcM 115 A x H → va_S A s.heap H locs → W p l e R s m args below meth c H locs cells slots Q (F0 m pc ls [.int r]))  : ∀ (l1 : Int32) (l2 : Int32) (l3 : Int32) (l4 : Int32) (s0 : Int32) (x : St) (H : Heap) (locs : List Loc) (ls : Array Slot), j_Mod_canOf_59 post l1 l2 l3 l4 s0 x → Wd dC dI cI cB cJ cZ ad stM kcM 115 A x H → va_S A s.heap H locs → lv_has ls 10 [(0, .ref (ad 0)), (1, .int l1), (2, .int l2), (3, .int l3), (4, .int l4)] → W p l e R s m args below meth c H locs cells slots Q (F0 m 59 ls [.int s0]) := by
  intro l1 l2 l3 l4 s0 x H locs ls  hw hW hS hl
  unfold j_Mod_canOf_59 at hw
  refine lv_istore (lv' := [(5, .int s0), (0, .ref (ad 0)), (1, .int l1), (2, .int l2), (3, .int l3), (4, .int l4)]) hx hb d_Mod_canOf_59 hl (by decide) rfl (fun ls hl => ?_)
  refine lv_iload_n hx hb d_Mod_canOf_61 rfl (lv_at hl 4 rfl) ?_
  refine lv_iconst (v := 2) hx hb d_Mod_canOf_62 (by decide) ?_
  refine lv_icmp_ge (tgt := 110) hx hb d_Mod_canOf_63 (by decide) (fun c2408 => ?_) (fun c2408 => ?_)
  · have hw := hw.1 c2408
    refine lv_iload hx hb d_Mod_canOf_110 (lv_at hl 0 rfl) ?_
    refine lv_if_eq (tgt := 119) hx hb d_Mod_canOf_112 (by decide) (fun c2409 => ?_) (fun c2409 => ?_)
    · have hw := hw.1 c2409
      refine lv_iconst (v := 0) hx hb d_Mod_canOf_119 (by decide) ?_
      exact t_Mod_canOf_120 hx hb hml hown hT hK hN hA hRc hRs hRf hRl hret  l1 l2 l3 l4 s0 0 x H locs ls  hw hW hS (lv_sub hl [1, 2, 3, 4, 5, 0] rfl)
    · have hw := hw.2 c2409
      refine lv_iconst (v := 4) hx hb d_Mod_canOf_115 (by decide) ?_
      refine lv_goto (tgt := 120) hx hb d_Mod_canOf_116 (by decide) ?_
      exact t_Mod_canOf_120 hx hb hml hown hT hK hN hA hRc hRs hRf hRl hret  l1 l2 l3 l4 s0 4 x H locs ls  hw hW hS (lv_sub hl [1, 2, 3, 4, 5, 0] rfl)
  · have hw := hw.2 c2408
    refine lv_iload_n hx hb d_Mod_canOf_66 rfl (lv_at hl 4 rfl) ?_
    refine lv_if_ne (tgt := 78) hx hb d_Mod_canOf_67 (by decide) (fun c2410 => ?_) (fun c2410 => ?_)
    · have hw := hw.1 c2410
      refine lv_iload hx hb d_Mod_canOf_78 (lv_at hl 5 rfl) ?_
      refine lv_if_eq (tgt := 108) hx hb d_Mod_canOf_80 (by decide) (fun c2411 => ?_) (fun c2411 => ?_)
      · have hw := hw.1 c2411
        exact t_Mod_canOf_108 hx hb hml hown hT hK hN hA hRc hRs hRf hRl hret  l1 l2 l3 l4 s0 x H locs ls  hw hW hS (lv_sub hl [1, 2, 3, 4, 5, 0] rfl)
      · have hw := hw.2 c2411
        exact t_Mod_canOf_83 hx hb hml hown hT hK hN hA hRc hRs hRf hRl hret  l1 l2 l3 l4 s0 x H locs ls  hw hW hS (lv_sub hl [1, 2, 3, 4, 5, 0] rfl)
    · have hw := hw.2 c2410
      refine lv_iload hx hb d_Mod_canOf_70 (lv_at hl 0 rfl) ?_
      refine lv_if_eq (tgt := 108) hx hb d_Mod_canOf_72 (by decide) (fun c2412 => ?_) (fun c2412 => ?_)
      · have hw := hw.1 c2412
        exact t_Mod_canOf_108 hx hb hml hown hT hK hN hA hRc hRs hRf hRl hret  l1 l2 l3 l4 s0 x H locs ls  hw hW hS (lv_sub hl [1, 2, 3, 4, 5, 0] rfl)
      · have hw := hw.2 c2412
        refine lv_goto (tgt := 83) hx hb d_Mod_canOf_75 (by decide) ?_
        exact t_Mod_canOf_83 hx hb hml hown hT hK hN hA hRc hRs hRf hRl hret  l1 l2 l3 l4 s0 x H locs ls  hw hW hS (lv_sub hl [1, 2, 3, 4, 5, 0] rfl)
set_option maxRecDepth 100000 in
set_option maxHeartbeats 4000000 in
set_option maxRecDepth 100000 in
theorem t_Mod_canOf_43 {p : Program} {l : Launch} {e : Env} {R : Room} {s : State} {m : MethodId} {args : Array Value} {below : List Frame} {meth : Method} {c : Code} {cells slots : Nat} {Q : State → Prop} {dC : Nat → ClassId} {dI : Nat → Nat → Nat} {cI cB cJ cZ : ClassId} {A : Nat → Prop} {ad : Nat → Nat} {post : Int32 → St → Prop} (hx : p.tables.exec = Jvm.exec) (hb : c.code = b_Mod_canOf) (hml : c.maxLocals = 10) (hown : s.vm.findClass R_Mod = some m.cls) (hT : ∀ w ∈ TG, w.before args s = true) (hK : va_K (dC, dI) CL (TY cI cB cJ cZ) s) (hN : NW s) (hA : ∀ q : Nat, s.heap.size ≤ q → A q) (hRc : cells ≤ R.cells) (hRs : slots ≤ R.slots) (hRf : 3 ≤ R.frames) (hRl : 71 ≤ R.locals) (hret : ∀ (r : Int32) (x : St) (H : Heap) (locs : List Loc) (pc : Nat) (ls : Array Slot), decode b_Mod_canOf pc = .ok (.ireturn, 1) → post r x → Wd dC dI cI cB cJ cZ ad stM kcM 115 A x H → va_S A s.heap H locs → W p l e R s m args below meth c H locs cells slots Q (F0 m pc ls [.int r]))  : ∀ (l1 : Int32) (l2 : Int32) (l3 : Int32) (s0 : Int32) (x : St) (H : Heap) (locs : List Loc) (ls : Array Slot), j_Mod_canOf_43 post l1 l2 l3 s0 x → Wd dC dI cI cB cJ cZ ad stM kcM 115 A x H → va_S A s.heap H locs → lv_has ls 10 [(0, .ref (ad 0)), (1, .int l1), (2, .int l2), (3, .int l3)] → W p l e R s m args below meth c H locs cells slots Q (F0 m 43 ls [.int s0]) := by
  intro l1 l2 l3 s0 x H locs ls  hw hW hS hl
  unfold j_Mod_canOf_43 at hw
  refine lv_istore (lv' := [(4, .int s0), (0, .ref (ad 0)), (1, .int l1), (2, .int l2), (3, .int l3)]) hx hb d_Mod_canOf_43 hl (by decide) rfl (fun ls hl => ?_)
  refine lv_aload_n hx hb d_Mod_canOf_45 rfl (lv_at hl 1 rfl) ?_
  refine w_getf (q := 98) (k := 143) (t := 12) (C := R_Mod) (T := F_Mod) (N := 167) hx hb hT hown hK hW ko_0.1 ko_0.2 (by decide) in_Mod rfl rfl (by decide) rfl fr_Mod_143 w_9_79 d_Mod_canOf_46 rfl ?_
  refine lv_iload_n hx hb d_Mod_canOf_49 rfl (lv_at hl 3 rfl) ?_
  obtain ⟨hi, hw⟩ := hw
  refine w_iald (o := 98) hx hb hK hW ko_98.1 ko_98.2 hi d_Mod_canOf_50 ?_
  refine lv_if_le (tgt := 58) hx hb d_Mod_canOf_51 (by decide) (fun c2413 => ?_) (fun c2413 => ?_)
  · have hw := hw.1 c2413
    refine lv_iconst (v := 0) hx hb d_Mod_canOf_58 (by decide) ?_
    exact t_Mod_canOf_59 hx hb hml hown hT hK hN hA hRc hRs hRf hRl hret  l1 l2 l3 s0 0 x H locs ls  hw hW hS (lv_sub hl [1, 2, 3, 4, 0] rfl)
  · have hw := hw.2 c2413
    refine lv_iconst (v := 1) hx hb d_Mod_canOf_54 (by decide) ?_
    refine lv_goto (tgt := 59) hx hb d_Mod_canOf_55 (by decide) ?_
    exact t_Mod_canOf_59 hx hb hml hown hT hK hN hA hRc hRs hRf hRl hret  l1 l2 l3 s0 1 x H locs ls  hw hW hS (lv_sub hl [1, 2, 3, 4, 0] rfl)
set_option maxRecDepth 100000 in
set_option maxHeartbeats 4000000 in
set_option maxRecDepth 100000 in
theorem t_Mod_canOf_e {p : Program} {l : Launch} {e : Env} {R : Room} {s : State} {m : MethodId} {args : Array Value} {below : List Frame} {meth : Method} {c : Code} {cells slots : Nat} {Q : State → Prop} {dC : Nat → ClassId} {dI : Nat → Nat → Nat} {cI cB cJ cZ : ClassId} {A : Nat → Prop} {ad : Nat → Nat} {post : Int32 → St → Prop} (hx : p.tables.exec = Jvm.exec) (hb : c.code = b_Mod_canOf) (hml : c.maxLocals = 10) (hown : s.vm.findClass R_Mod = some m.cls) (hT : ∀ w ∈ TG, w.before args s = true) (hK : va_K (dC, dI) CL (TY cI cB cJ cZ) s) (hN : NW s) (hA : ∀ q : Nat, s.heap.size ≤ q → A q) (hRc : cells ≤ R.cells) (hRs : slots ≤ R.slots) (hRf : 3 ≤ R.frames) (hRl : 71 ≤ R.locals) (hret : ∀ (r : Int32) (x : St) (H : Heap) (locs : List Loc) (pc : Nat) (ls : Array Slot), decode b_Mod_canOf pc = .ok (.ireturn, 1) → post r x → Wd dC dI cI cB cJ cZ ad stM kcM 115 A x H → va_S A s.heap H locs → W p l e R s m args below meth c H locs cells slots Q (F0 m pc ls [.int r])) : ∀ (l1 : Int32) (x : St) (H : Heap) (locs : List Loc) (ls : Array Slot), wp_Mod_canOf post l1 x → Wd dC dI cI cB cJ cZ ad stM kcM 115 A x H → va_S A s.heap H locs → lv_has ls 10 [(0, .ref (ad 0)), (1, .int l1)] → W p l e R s m args below meth c H locs cells slots Q (F0 m 0 ls []) := by
  intro l1 x H locs ls  hw hW hS hl
  unfold wp_Mod_canOf at hw
  refine lv_aload_n hx hb d_Mod_canOf_0 rfl (lv_at hl 0 rfl) ?_
  refine w_getf (q := 6) (k := 8) (t := 12) (C := R_Mod) (T := F_Mod) (N := 167) hx hb hT hown hK hW ko_0.1 ko_0.2 (by decide) in_Mod rfl rfl (by decide) rfl fr_Mod_8 w_8_184 d_Mod_canOf_1 rfl ?_
  refine lv_iconst (v := 1) hx hb d_Mod_canOf_4 (by decide) ?_
  refine lv_aload_n hx hb d_Mod_canOf_5 rfl (lv_at hl 0 rfl) ?_
  refine w_getf (q := 85) (k := 128) (t := 12) (C := R_Mod) (T := F_Mod) (N := 167) hx hb hT hown hK hW ko_0.1 ko_0.2 (by decide) in_Mod rfl rfl (by decide) rfl fr_Mod_128 w_9_64 d_Mod_canOf_6 rfl ?_
  refine lv_iload_n hx hb d_Mod_canOf_9 rfl (lv_at hl 1 rfl) ?_
  obtain ⟨hi, hw⟩ := hw
  refine w_iald (o := 85) hx hb hK hW ko_85.1 ko_85.2 hi d_Mod_canOf_10 ?_
  have hF := hW.free hS hA
  refine va_calli (va_runS (As := [.int 1, .int (rA x 85 l1)]) (rest := [.ref (ad 6)]) ⟨hx, hb, hml, hown, hT⟩ (k_Mod_place l dC dI cI cB cJ cZ ad H.size 1 (rA x 85 l1) x  hw) ⟨callB_of 2 hT (gwt_in w_11_30) rfl rfl rfl (hT _ w_1_15) (hT _ w_11_28) (by decide +kernel) ⟨Nat.le_trans (Nat.le_of_ble_eq_true rfl) hRf, Nat.le_trans (Nat.le_of_ble_eq_true rfl) hRl⟩, hT _ w_11_29⟩ ⟨PW.blind, PW.at _ hW hK hN⟩ rfl rfl hl.1 rfl (lv_room (Nat.le_of_ble_eq_true rfl)) d_Mod_canOf_11 ⟨hRc, hRs⟩) hS (fun q _ h => hF q h) hF (fun r2415 x2414 t H locs ht hvm hw hB hz1 hk1 hS => ?_)
  have hW := Wd.back hB ht hF
  clear hB ht hF hz1 hk1 hvm
  obtain ⟨hi, hw⟩ := hw
  refine w_iald (o := 6) hx hb hK hW ko_6.1 ko_6.2 hi d_Mod_canOf_14 ?_
  refine lv_topi (fun v2416 ev2416 => ?_)
  have hw := hw v2416 ev2416
  refine lv_istore_n (lv' := [(2, .int v2416), (0, .ref (ad 0)), (1, .int l1)]) hx hb d_Mod_canOf_15 rfl hl (by decide) rfl (fun ls hl => ?_)
  refine lv_aload_n hx hb d_Mod_canOf_16 rfl (lv_at hl 1 rfl) ?_
  refine w_getf (q := 84) (k := 127) (t := 12) (C := R_Mod) (T := F_Mod) (N := 167) hx hb hT hown hK hW ko_0.1 ko_0.2 (by decide) in_Mod rfl rfl (by decide) rfl fr_Mod_127 w_9_63 d_Mod_canOf_17 rfl ?_
  refine lv_iload_n hx hb d_Mod_canOf_20 rfl (lv_at hl 2 rfl) ?_
  obtain ⟨hi, hw⟩ := hw
  refine w_iald (o := 84) hx hb hK hW ko_84.1 ko_84.2 hi d_Mod_canOf_21 ?_
  refine lv_topi (fun v2417 ev2417 => ?_)
  have hw := hw v2417 ev2417
  refine lv_istore_n (lv' := [(3, .int v2417), (2, .int v2416), (0, .ref (ad 0)), (1, .int l1)]) hx hb d_Mod_canOf_22 rfl hl (by decide) rfl (fun ls hl => ?_)
  refine lv_aload_n hx hb d_Mod_canOf_23 rfl (lv_at hl 2 rfl) ?_
  refine w_getf (q := 97) (k := 142) (t := 12) (C := R_Mod) (T := F_Mod) (N := 167) hx hb hT hown hK hW ko_0.1 ko_0.2 (by decide) in_Mod rfl rfl (by decide) rfl fr_Mod_142 w_9_78 d_Mod_canOf_24 rfl ?_
  refine lv_iload_n hx hb d_Mod_canOf_27 rfl (lv_at hl 1 rfl) ?_
  obtain ⟨hi, hw⟩ := hw
  refine w_iald (o := 97) hx hb hK hW ko_97.1 ko_97.2 hi d_Mod_canOf_28 ?_
  refine lv_aload_n hx hb d_Mod_canOf_29 rfl (lv_at hl 2 rfl) ?_
  refine w_getf (q := 98) (k := 143) (t := 12) (C := R_Mod) (T := F_Mod) (N := 167) hx hb hT hown hK hW ko_0.1 ko_0.2 (by decide) in_Mod rfl rfl (by decide) rfl fr_Mod_143 w_9_79 d_Mod_canOf_30 rfl ?_
  refine lv_iload_n hx hb d_Mod_canOf_33 rfl (lv_at hl 1 rfl) ?_
  obtain ⟨hi, hw⟩ := hw
  refine w_iald (o := 98) hx hb hK hW ko_98.1 ko_98.2 hi d_Mod_canOf_34 ?_
  refine lv_icmp_le (tgt := 42) hx hb d_Mod_canOf_35 (by decide) (fun c2418 => ?_) (fun c2418 => ?_)
  · have hw := hw.1 c2418
    refine lv_iconst (v := 0) hx hb d_Mod_canOf_42 (by decide) ?_
    exact t_Mod_canOf_43 hx hb hml hown hT hK hN hA hRc hRs hRf hRl hret  l1 v2416 v2417 0 x2414 H locs ls  hw hW hS (lv_sub hl [2, 3, 1, 0] rfl)
  · have hw := hw.2 c2418
    refine lv_iconst (v := 1) hx hb d_Mod_canOf_38 (by decide) ?_
    refine lv_goto (tgt := 43) hx hb d_Mod_canOf_39 (by decide) ?_
    exact t_Mod_canOf_43 hx hb hml hown hT hK hN hA hRc hRs hRf hRl hret  l1 v2416 v2417 1 x2414 H locs ls  hw hW hS (lv_sub hl [2, 3, 1, 0] rfl)
set_option maxHeartbeats 4000000 in
set_option maxRecDepth 100000 in
theorem k_Mod_canOf (l : Launch) (dC : Nat → ClassId) (dI : Nat → Nat → Nat) (cI cB cJ cZ : ClassId) (ad : Nat → Nat) (sz : Nat) (l1 : Int32) (x : St) {post : Int32 → St → Prop} (hw : wp_Mod_canOf post l1 x) : Met l y_Mod_canOf (wsOf y_Mod_canOf b_Mod_canOf 10 (some (.int))) ({ frames := 3, cells := 0, slots := 0, locals := 71 }) (va_Pc [.ref (ad 0), .int l1] (PW dC dI cI cB cJ cZ ad stM kcM 115 sz x)) (va_Qi (fun (r : Int32) (y : St) => post r y) (fun y t => Wd dC dI cI cB cJ cZ ad stM kcM 115 (va_A (pic ad stM kcM 115 cI cB cJ cZ x) sz) y t.heap) (va_A (pic ad stM kcM 115 cI cB cJ cZ x) sz)) 0 0 (va_A (pic ad stM kcM 115 cI cB cJ cZ x) sz) := by
  refine Met.ofW (cc := b_Mod_canOf) (maxL := 10) (ret := some (.int)) (by decide) rfl ?_
  intro p e s m args below meth c s₁ B hml hv
  obtain ⟨rfl, hsz, hW0, hK, hN⟩ := hv
  have hx := B.exec
  have hb := B.bytes
  have hr := B.returns
  have hts := atoms_spec B.pre
  have hT : ∀ w ∈ TG, w.before _ s = true := fun w h => hts w (List.mem_cons_of_mem _ h)
  have hown : s.vm.findClass R_Mod = some m.cls := findClass_of_methodNamed B.named
  have hlocks := B.notSynchronized
  subst hsz
  have hW : Wd dC dI cI cB cJ cZ ad stM kcM 115 (va_A (pic ad stM kcM 115 cI cB cJ cZ x) s.heap.size) x s.heap := ⟨hW0.1, hW0.2.1.self (sz := s.heap.size), hW0.2.2⟩
  generalize hAe : va_A (pic ad stM kcM 115 cI cB cJ cZ x) s.heap.size = A at hW ⊢
  have hA : ∀ q : Nat, s.heap.size ≤ q → A q := fun q h => by rw [← hAe]; exact Or.inr h
  have hS : va_S A s.heap s.heap [] := va_S.rf
  have hl := lv_entry ([.ref (ad 0), .int l1]) (n := 10) (Nat.le_of_ble_eq_true rfl)
  rw [lg_entry_eq]
  generalize (lg_sl ([.ref (ad 0), .int l1]) ++ List.replicate (10 - (lg_sl ([.ref (ad 0), .int l1])).length) Slot.unset).toArray = ls at hl ⊢
  have hl : lv_has ls 10 [(0, .ref (ad 0)), (1, .int l1)] := hl
  exact t_Mod_canOf_e hx hb hml hown hT hK hN hA (Nat.le_refl 0) (Nat.le_refl 0) (Nat.le_refl 3) (Nat.le_refl 71) (fun r x H locs pc ls hd hp hW hS => W.iret (v := r) hx hb hr (fun t ht hM => ⟨⟨r, x, rfl, hp, Wd.back hW ht.symm (fun _ z => z)⟩, hS.F ht⟩) hS.2.2 hd hlocks)  l1 x _ _ ls  hw hW hS hl
end
