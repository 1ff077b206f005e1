theorem w_12_178 : (Jvm.Cond.methodLink "StripedVaultModel" (704 : Nat) ({ cls := "StripedVaultModel", name := "readRuns", desc := "([IIII)V" } : Jvm.MethodName)) ∈ TG := tw_12 178 (by decide +kernel) (by decide +kernel)
theorem w_12_180 : (Jvm.Cond.instanceMethod ({ cls := "StripedVaultModel", name := "readRuns", desc := "([IIII)V" } : Jvm.MethodName)) ∈ TG := tw_12 180 (by decide +kernel) (by decide +kernel)
theorem w_12_181 : (Jvm.Cond.code ({ cls := "StripedVaultModel", name := "readRuns", desc := "([IIII)V" } : Jvm.MethodName) prog_14_method_54_code (10 : Nat) (Option.none : Option Jvm.ClassFile.FieldType)) ∈ TG := tw_12 181 (by decide +kernel) (by decide +kernel)
theorem w_12_182 : (Jvm.Cond.methodLink "StripedVaultModel" (574 : Nat) ({ cls := "StripedVaultModel", name := "readOne", desc := "([IIIIIJ)I" } : Jvm.MethodName)) ∈ TG := tw_12 182 (by decide +kernel) (by decide +kernel)
theorem w_12_184 : (Jvm.Cond.instanceMethod ({ cls := "StripedVaultModel", name := "readOne", desc := "([IIIIIJ)I" } : Jvm.MethodName)) ∈ TG := tw_12 184 (by decide +kernel) (by decide +kernel)
theorem w_12_185 : (Jvm.Cond.code ({ cls := "StripedVaultModel", name := "readOne", desc := "([IIIIIJ)I" } : Jvm.MethodName) prog_14_method_55_code (11 : Nat) (Option.some Jvm.ClassFile.FieldType.int)) ∈ TG := tw_12 185 (by decide +kernel) (by decide +kernel)
theorem w_12_186 : (Jvm.Cond.methodLink "StripedVaultModel" (581 : Nat) ({ cls := "StripedVaultModel", name := "bitsAt", desc := "(III)I" } : Jvm.MethodName)) ∈ TG := tw_12 186 (by decide +kernel) (by decide +kernel)
theorem w_12_188 : (Jvm.Cond.instanceMethod ({ cls := "StripedVaultModel", name := "bitsAt", desc := "(III)I" } : Jvm.MethodName)) ∈ TG := tw_12 188 (by decide +kernel) (by decide +kernel)
theorem w_12_189 : (Jvm.Cond.code ({ cls := "StripedVaultModel", name := "bitsAt", desc := "(III)I" } : Jvm.MethodName) prog_14_method_53_code (6 : Nat) (Option.some Jvm.ClassFile.FieldType.int)) ∈ TG := tw_12 189 (by decide +kernel) (by decide +kernel)
theorem w_12_190 : (Jvm.Cond.methodLink "StripedVaultModel" (578 : Nat) ({ cls := "StripedVaultModel", name := "readGroups", desc := "([IIIIIJ)I" } : Jvm.MethodName)) ∈ TG := tw_12 190 (by decide +kernel) (by decide +kernel)
theorem w_12_192 : (Jvm.Cond.instanceMethod ({ cls := "StripedVaultModel", name := "readGroups", desc := "([IIIIIJ)I" } : Jvm.MethodName)) ∈ TG := tw_12 192 (by decide +kernel) (by decide +kernel)
theorem w_12_193 : (Jvm.Cond.code ({ cls := "StripedVaultModel", name := "readGroups", desc := "([IIIIIJ)I" } : Jvm.MethodName) prog_14_method_56_code (10 : Nat) (Option.some Jvm.ClassFile.FieldType.int)) ∈ TG := tw_12 193 (by decide +kernel) (by decide +kernel)
theorem w_12_194 : (Jvm.Cond.constantLong "StripedVaultModel" (584 : Nat) (8 : Int64)) ∈ TG := tw_12 194 (by decide +kernel) (by decide +kernel)
theorem ws_199 : Cond.selects R_Mod y_Mod_readRuns y_Mod_readRuns ∈ TG := tw_s 199 (by decide +kernel) (by decide +kernel)
theorem ws_200 : Cond.selects R_Mod y_Mod_readOne y_Mod_readOne ∈ TG := tw_s 200 (by decide +kernel) (by decide +kernel)
theorem ws_201 : Cond.selects R_Mod y_Mod_bitsAt y_Mod_bitsAt ∈ TG := tw_s 201 (by decide +kernel) (by decide +kernel)
theorem ws_202 : Cond.selects R_Mod y_Mod_readGroups y_Mod_readGroups ∈ TG := tw_s 202 (by decide +kernel) (by decide +kernel)
theorem d_Mod_bitsAt_6 : decode b_Mod_bitsAt 6 = .ok (.iload 5, 2) := by decide +kernel
theorem d_Mod_bitsAt_8 : decode b_Mod_bitsAt 8 = .ok (.iload_n 3, 1) := by decide +kernel
theorem d_Mod_bitsAt_9 : decode b_Mod_bitsAt 9 = .ok (.if_icmp .ge 41, 3) := by decide +kernel
theorem d_Mod_bitsAt_50 : decode b_Mod_bitsAt 50 = .ok (.iload 4, 2) := by decide +kernel
theorem d_Mod_bitsAt_52 : decode b_Mod_bitsAt 52 = .ok (.ireturn, 1) := by decide +kernel
theorem d_Mod_bitsAt_12 : decode b_Mod_bitsAt 12 = .ok (.iload 4, 2) := by decide +kernel
theorem d_Mod_bitsAt_14 : decode b_Mod_bitsAt 14 = .ok (.aload_n 0, 1) := by decide +kernel
theorem d_Mod_bitsAt_15 : decode b_Mod_bitsAt 15 = .ok (.getfield 133, 3) := by decide +kernel
theorem d_Mod_bitsAt_18 : decode b_Mod_bitsAt 18 = .ok (.iload_n 1, 1) := by decide +kernel
theorem d_Mod_bitsAt_19 : decode b_Mod_bitsAt 19 = .ok (.iload_n 2, 1) := by decide +kernel
theorem d_Mod_bitsAt_20 : decode b_Mod_bitsAt 20 = .ok (.iload 5, 2) := by decide +kernel
theorem d_Mod_bitsAt_22 : decode b_Mod_bitsAt 22 = .ok (.iadd, 1) := by decide +kernel
theorem d_Mod_bitsAt_23 : decode b_Mod_bitsAt 23 = .ok (.bipush 8, 2) := by decide +kernel
theorem d_Mod_bitsAt_25 : decode b_Mod_bitsAt 25 = .ok (.idiv, 1) := by decide +kernel
theorem d_Mod_bitsAt_26 : decode b_Mod_bitsAt 26 = .ok (.iadd, 1) := by decide +kernel
theorem d_Mod_bitsAt_27 : decode b_Mod_bitsAt 27 = .ok (.iaload, 1) := by decide +kernel
theorem d_Mod_bitsAt_28 : decode b_Mod_bitsAt 28 = .ok (.iload_n 2, 1) := by decide +kernel
theorem d_Mod_bitsAt_29 : decode b_Mod_bitsAt 29 = .ok (.iload 5, 2) := by decide +kernel
theorem d_Mod_bitsAt_31 : decode b_Mod_bitsAt 31 = .ok (.iadd, 1) := by decide +kernel
theorem d_Mod_bitsAt_32 : decode b_Mod_bitsAt 32 = .ok (.bipush 8, 2) := by decide +kernel
theorem d_Mod_bitsAt_34 : decode b_Mod_bitsAt 34 = .ok (.irem, 1) := by decide +kernel
theorem d_Mod_bitsAt_35 : decode b_Mod_bitsAt 35 = .ok (.ishr, 1) := by decide +kernel
theorem d_Mod_bitsAt_36 : decode b_Mod_bitsAt 36 = .ok (.iconst 1, 1) := by decide +kernel
theorem d_Mod_bitsAt_37 : decode b_Mod_bitsAt 37 = .ok (.iand, 1) := by decide +kernel
theorem d_Mod_bitsAt_38 : decode b_Mod_bitsAt 38 = .ok (.iload 5, 2) := by decide +kernel
theorem d_Mod_bitsAt_40 : decode b_Mod_bitsAt 40 = .ok (.ishl, 1) := by decide +kernel
theorem d_Mod_bitsAt_41 : decode b_Mod_bitsAt 41 = .ok (.ior, 1) := by decide +kernel
theorem d_Mod_bitsAt_42 : decode b_Mod_bitsAt 42 = .ok (.istore 4, 2) := by decide +kernel
theorem d_Mod_bitsAt_44 : decode b_Mod_bitsAt 44 = .ok (.iinc 5 1, 3) := by decide +kernel
theorem d_Mod_bitsAt_47 : decode b_Mod_bitsAt 47 = .ok (.goto (-41), 3) := by decide +kernel
theorem d_Mod_bitsAt_0 : decode b_Mod_bitsAt 0 = .ok (.iconst 0, 1) := by decide +kernel
theorem d_Mod_bitsAt_1 : decode b_Mod_bitsAt 1 = .ok (.istore 4, 2) := by decide +kernel
theorem d_Mod_bitsAt_3 : decode b_Mod_bitsAt 3 = .ok (.iconst 0, 1) := by decide +kernel
theorem d_Mod_bitsAt_4 : decode b_Mod_bitsAt 4 = .ok (.istore 5, 2) := by decide +kernel
theorem d_Mod_readOne_133 : decode b_Mod_readOne 133 = .ok (.iload 10, 2) := by decide +kernel
theorem d_Mod_readOne_135 : decode b_Mod_readOne 135 = .ok (.i2l, 1) := by decide +kernel
theorem d_Mod_readOne_136 : decode b_Mod_readOne 136 = .ok (.lload 6, 2) := by decide +kernel
theorem d_Mod_readOne_138 : decode b_Mod_readOne 138 = .ok (.lcmp, 1) := by decide +kernel
theorem d_Mod_readOne_139 : decode b_Mod_readOne 139 = .ok (.ifCond .ge 17, 3) := by decide +kernel
theorem d_Mod_readOne_156 : decode b_Mod_readOne 156 = .ok (.iload_n 2, 1) := by decide +kernel
theorem d_Mod_readOne_157 : decode b_Mod_readOne 157 = .ok (.lload 6, 2) := by decide +kernel
theorem d_Mod_readOne_159 : decode b_Mod_readOne 159 = .ok (.l2i, 1) := by decide +kernel
theorem d_Mod_readOne_160 : decode b_Mod_readOne 160 = .ok (.iadd, 1) := by decide +kernel
theorem d_Mod_readOne_161 : decode b_Mod_readOne 161 = .ok (.ireturn, 1) := by decide +kernel
theorem d_Mod_readOne_142 : decode b_Mod_readOne 142 = .ok (.aload_n 1, 1) := by decide +kernel
theorem d_Mod_readOne_143 : decode b_Mod_readOne 143 = .ok (.iload_n 2, 1) := by decide +kernel
theorem d_Mod_readOne_144 : decode b_Mod_readOne 144 = .ok (.iload 10, 2) := by decide +kernel
theorem d_Mod_readOne_146 : decode b_Mod_readOne 146 = .ok (.iadd, 1) := by decide +kernel
theorem d_Mod_readOne_147 : decode b_Mod_readOne 147 = .ok (.iload 9, 2) := by decide +kernel
theorem d_Mod_readOne_149 : decode b_Mod_readOne 149 = .ok (.iastore, 1) := by decide +kernel
theorem d_Mod_readOne_150 : decode b_Mod_readOne 150 = .ok (.iinc 10 1, 3) := by decide +kernel
theorem d_Mod_readOne_153 : decode b_Mod_readOne 153 = .ok (.goto (-20), 3) := by decide +kernel
theorem d_Mod_readOne_113 : decode b_Mod_readOne 113 = .ok (.iinc 10 1, 3) := by decide +kernel
theorem d_Mod_readOne_116 : decode b_Mod_readOne 116 = .ok (.goto (-45), 3) := by decide +kernel
theorem d_Mod_readOne_71 : decode b_Mod_readOne 71 = .ok (.iload 10, 2) := by decide +kernel
theorem d_Mod_readOne_73 : decode b_Mod_readOne 73 = .ok (.bipush 8, 2) := by decide +kernel
theorem d_Mod_readOne_75 : decode b_Mod_readOne 75 = .ok (.iload 8, 2) := by decide +kernel
theorem d_Mod_readOne_77 : decode b_Mod_readOne 77 = .ok (.imul, 1) := by decide +kernel
theorem d_Mod_readOne_78 : decode b_Mod_readOne 78 = .ok (.if_icmp .ge 41, 3) := by decide +kernel
theorem d_Mod_readOne_119 : decode b_Mod_readOne 119 = .ok (.aload_n 0, 1) := by decide +kernel
theorem d_Mod_readOne_120 : decode b_Mod_readOne 120 = .ok (.dup, 1) := by decide +kernel
theorem d_Mod_readOne_121 : decode b_Mod_readOne 121 = .ok (.getfield 553, 3) := by decide +kernel
theorem d_Mod_readOne_124 : decode b_Mod_readOne 124 = .ok (.iload 8, 2) := by decide +kernel
theorem d_Mod_readOne_126 : decode b_Mod_readOne 126 = .ok (.iadd, 1) := by decide +kernel
theorem d_Mod_readOne_127 : decode b_Mod_readOne 127 = .ok (.putfield 553, 3) := by decide +kernel
theorem d_Mod_readOne_130 : decode b_Mod_readOne 130 = .ok (.iconst 0, 1) := by decide +kernel
theorem d_Mod_readOne_131 : decode b_Mod_readOne 131 = .ok (.istore 10, 2) := by decide +kernel
theorem d_Mod_readOne_81 : decode b_Mod_readOne 81 = .ok (.aload_n 0, 1) := by decide +kernel
theorem d_Mod_readOne_82 : decode b_Mod_readOne 82 = .ok (.getfield 133, 3) := by decide +kernel
theorem d_Mod_readOne_85 : decode b_Mod_readOne 85 = .ok (.aload_n 0, 1) := by decide +kernel
theorem d_Mod_readOne_86 : decode b_Mod_readOne 86 = .ok (.getfield 553, 3) := by decide +kernel
theorem d_Mod_readOne_89 : decode b_Mod_readOne 89 = .ok (.iload 10, 2) := by decide +kernel
theorem d_Mod_readOne_91 : decode b_Mod_readOne 91 = .ok (.bipush 8, 2) := by decide +kernel
theorem d_Mod_readOne_93 : decode b_Mod_readOne 93 = .ok (.idiv, 1) := by decide +kernel
theorem d_Mod_readOne_94 : decode b_Mod_readOne 94 = .ok (.iadd, 1) := by decide +kernel
theorem d_Mod_readOne_95 : decode b_Mod_readOne 95 = .ok (.iaload, 1) := by decide +kernel
theorem d_Mod_readOne_96 : decode b_Mod_readOne 96 = .ok (.iload 10, 2) := by decide +kernel
theorem d_Mod_readOne_98 : decode b_Mod_readOne 98 = .ok (.bipush 8, 2) := by decide +kernel
theorem d_Mod_readOne_100 : decode b_Mod_readOne 100 = .ok (.irem, 1) := by decide +kernel
theorem d_Mod_readOne_101 : decode b_Mod_readOne 101 = .ok (.ishr, 1) := by decide +kernel
theorem d_Mod_readOne_102 : decode b_Mod_readOne 102 = .ok (.iconst 1, 1) := by decide +kernel
theorem d_Mod_readOne_103 : decode b_Mod_readOne 103 = .ok (.iand, 1) := by decide +kernel
theorem d_Mod_readOne_104 : decode b_Mod_readOne 104 = .ok (.iconst 1, 1) := by decide +kernel
theorem d_Mod_readOne_105 : decode b_Mod_readOne 105 = .ok (.if_icmp .ne 8, 3) := by decide +kernel
theorem d_Mod_readOne_108 : decode b_Mod_readOne 108 = .ok (.aload_n 0, 1) := by decide +kernel
theorem d_Mod_readOne_109 : decode b_Mod_readOne 109 = .ok (.iconst 5, 1) := by decide +kernel
theorem d_Mod_readOne_110 : decode b_Mod_readOne 110 = .ok (.putfield 550, 3) := by decide +kernel
theorem d_Mod_readOne_45 : decode b_Mod_readOne 45 = .ok (.aload_n 0, 1) := by decide +kernel
theorem d_Mod_readOne_46 : decode b_Mod_readOne 46 = .ok (.getfield 550, 3) := by decide +kernel
theorem d_Mod_readOne_49 : decode b_Mod_readOne 49 = .ok (.ifCond .eq 5, 3) := by decide +kernel
theorem d_Mod_readOne_54 : decode b_Mod_readOne 54 = .ok (.aload_n 0, 1) := by decide +kernel
theorem d_Mod_readOne_55 : decode b_Mod_readOne 55 = .ok (.aload_n 0, 1) := by decide +kernel
theorem d_Mod_readOne_56 : decode b_Mod_readOne 56 = .ok (.getfield 553, 3) := by decide +kernel
theorem d_Mod_readOne_59 : decode b_Mod_readOne 59 = .ok (.iconst 0, 1) := by decide +kernel
theorem d_Mod_readOne_60 : decode b_Mod_readOne 60 = .ok (.iload 4, 2) := by decide +kernel
theorem d_Mod_readOne_62 : decode b_Mod_readOne 62 = .ok (.invokevirtual 581, 3) := by decide +kernel
theorem d_Mod_readOne_65 : decode b_Mod_readOne 65 = .ok (.istore 9, 2) := by decide +kernel
theorem d_Mod_readOne_67 : decode b_Mod_readOne 67 = .ok (.iload 4, 2) := by decide +kernel
theorem d_Mod_readOne_69 : decode b_Mod_readOne 69 = .ok (.istore 10, 2) := by decide +kernel
theorem d_Mod_readOne_52 : decode b_Mod_readOne 52 = .ok (.iload_n 2, 1) := by decide +kernel
theorem d_Mod_readOne_53 : decode b_Mod_readOne 53 = .ok (.ireturn, 1) := by decide +kernel
theorem d_Mod_readOne_0 : decode b_Mod_readOne 0 = .ok (.iload 4, 2) := by decide +kernel
theorem d_Mod_readOne_2 : decode b_Mod_readOne 2 = .ok (.bipush 7, 2) := by decide +kernel
theorem d_Mod_readOne_4 : decode b_Mod_readOne 4 = .ok (.iadd, 1) := by decide +kernel
theorem d_Mod_readOne_5 : decode b_Mod_readOne 5 = .ok (.bipush 8, 2) := by decide +kernel
theorem d_Mod_readOne_7 : decode b_Mod_readOne 7 = .ok (.idiv, 1) := by decide +kernel
theorem d_Mod_readOne_8 : decode b_Mod_readOne 8 = .ok (.istore 8, 2) := by decide +kernel
theorem d_Mod_readOne_10 : decode b_Mod_readOne 10 = .ok (.lload 6, 2) := by decide +kernel
theorem d_Mod_readOne_12 : decode b_Mod_readOne 12 = .ok (.iload_n 3, 1) := by decide +kernel
theorem d_Mod_readOne_13 : decode b_Mod_readOne 13 = .ok (.iload_n 2, 1) := by decide +kernel
theorem d_Mod_readOne_14 : decode b_Mod_readOne 14 = .ok (.isub, 1) := by decide +kernel
theorem d_Mod_readOne_15 : decode b_Mod_readOne 15 = .ok (.i2l, 1) := by decide +kernel
theorem d_Mod_readOne_16 : decode b_Mod_readOne 16 = .ok (.lcmp, 1) := by decide +kernel
theorem d_Mod_readOne_17 : decode b_Mod_readOne 17 = .ok (.ifCond .le 11, 3) := by decide +kernel
theorem d_Mod_readOne_28 : decode b_Mod_readOne 28 = .ok (.iload 5, 2) := by decide +kernel
theorem d_Mod_readOne_30 : decode b_Mod_readOne 30 = .ok (.aload_n 0, 1) := by decide +kernel
theorem d_Mod_readOne_31 : decode b_Mod_readOne 31 = .ok (.getfield 553, 3) := by decide +kernel
theorem d_Mod_readOne_34 : decode b_Mod_readOne 34 = .ok (.isub, 1) := by decide +kernel
theorem d_Mod_readOne_35 : decode b_Mod_readOne 35 = .ok (.iload 8, 2) := by decide +kernel
theorem d_Mod_readOne_37 : decode b_Mod_readOne 37 = .ok (.if_icmp .ge 8, 3) := by decide +kernel
theorem d_Mod_readOne_40 : decode b_Mod_readOne 40 = .ok (.aload_n 0, 1) := by decide +kernel
theorem d_Mod_readOne_41 : decode b_Mod_readOne 41 = .ok (.iconst 1, 1) := by decide +kernel
theorem d_Mod_readOne_42 : decode b_Mod_readOne 42 = .ok (.putfield 550, 3) := by decide +kernel
theorem d_Mod_readOne_20 : decode b_Mod_readOne 20 = .ok (.aload_n 0, 1) := by decide +kernel
theorem d_Mod_readOne_21 : decode b_Mod_readOne 21 = .ok (.iconst 4, 1) := by decide +kernel
theorem d_Mod_readOne_22 : decode b_Mod_readOne 22 = .ok (.putfield 550, 3) := by decide +kernel
theorem d_Mod_readOne_25 : decode b_Mod_readOne 25 = .ok (.goto 20, 3) := by decide +kernel
theorem d_Mod_readGroups_118 : decode b_Mod_readGroups 118 = .ok (.iinc 8 1, 3) := by decide +kernel
theorem d_Mod_readGroups_121 : decode b_Mod_readGroups 121 = .ok (.goto (-62), 3) := by decide +kernel
theorem d_Mod_readGroups_59 : decode b_Mod_readGroups 59 = .ok (.iload 8, 2) := by decide +kernel
theorem d_Mod_readGroups_61 : decode b_Mod_readGroups 61 = .ok (.i2l, 1) := by decide +kernel
theorem d_Mod_readGroups_62 : decode b_Mod_readGroups 62 = .ok (.ldc2_w 584, 3) := by decide +kernel
theorem d_Mod_readGroups_65 : decode b_Mod_readGroups 65 = .ok (.lload 6, 2) := by decide +kernel
theorem d_Mod_readGroups_67 : decode b_Mod_readGroups 67 = .ok (.lmul, 1) := by decide +kernel
theorem d_Mod_readGroups_68 : decode b_Mod_readGroups 68 = .ok (.lcmp, 1) := by decide +kernel
theorem d_Mod_readGroups_69 : decode b_Mod_readGroups 69 = .ok (.ifCond .ge 55, 3) := by decide +kernel
theorem d_Mod_readGroups_124 : decode b_Mod_readGroups 124 = .ok (.aload_n 0, 1) := by decide +kernel
theorem d_Mod_readGroups_125 : decode b_Mod_readGroups 125 = .ok (.dup, 1) := by decide +kernel
theorem d_Mod_readGroups_126 : decode b_Mod_readGroups 126 = .ok (.getfield 553, 3) := by decide +kernel
theorem d_Mod_readGroups_129 : decode b_Mod_readGroups 129 = .ok (.lload 6, 2) := by decide +kernel
theorem d_Mod_readGroups_131 : decode b_Mod_readGroups 131 = .ok (.l2i, 1) := by decide +kernel
theorem d_Mod_readGroups_132 : decode b_Mod_readGroups 132 = .ok (.iload 4, 2) := by decide +kernel
theorem d_Mod_readGroups_134 : decode b_Mod_readGroups 134 = .ok (.imul, 1) := by decide +kernel
theorem d_Mod_readGroups_135 : decode b_Mod_readGroups 135 = .ok (.iadd, 1) := by decide +kernel
theorem d_Mod_readGroups_136 : decode b_Mod_readGroups 136 = .ok (.putfield 553, 3) := by decide +kernel
theorem d_Mod_readGroups_139 : decode b_Mod_readGroups 139 = .ok (.iload_n 2, 1) := by decide +kernel
theorem d_Mod_readGroups_140 : decode b_Mod_readGroups 140 = .ok (.bipush 8, 2) := by decide +kernel
theorem d_Mod_readGroups_142 : decode b_Mod_readGroups 142 = .ok (.lload 6, 2) := by decide +kernel
theorem d_Mod_readGroups_144 : decode b_Mod_readGroups 144 = .ok (.l2i, 1) := by decide +kernel
theorem d_Mod_readGroups_145 : decode b_Mod_readGroups 145 = .ok (.imul, 1) := by decide +kernel
theorem d_Mod_readGroups_146 : decode b_Mod_readGroups 146 = .ok (.iadd, 1) := by decide +kernel
theorem d_Mod_readGroups_147 : decode b_Mod_readGroups 147 = .ok (.ireturn, 1) := by decide +kernel
theorem d_Mod_readGroups_72 : decode b_Mod_readGroups 72 = .ok (.aload_n 0, 1) := by decide +kernel
theorem d_Mod_readGroups_73 : decode b_Mod_readGroups 73 = .ok (.aload_n 0, 1) := by decide +kernel
theorem d_Mod_readGroups_74 : decode b_Mod_readGroups 74 = .ok (.getfield 553, 3) := by decide +kernel
theorem d_Mod_readGroups_77 : decode b_Mod_readGroups 77 = .ok (.iload 4, 2) := by decide +kernel
theorem d_Mod_readGroups_79 : decode b_Mod_readGroups 79 = .ok (.iload 8, 2) := by decide +kernel
theorem d_Mod_readGroups_81 : decode b_Mod_readGroups 81 = .ok (.imul, 1) := by decide +kernel
theorem d_Mod_readGroups_82 : decode b_Mod_readGroups 82 = .ok (.iload 4, 2) := by decide +kernel
theorem d_Mod_readGroups_84 : decode b_Mod_readGroups 84 = .ok (.invokevirtual 581, 3) := by decide +kernel
theorem d_Mod_readGroups_87 : decode b_Mod_readGroups 87 = .ok (.istore 9, 2) := by decide +kernel
theorem d_Mod_readGroups_89 : decode b_Mod_readGroups 89 = .ok (.iload_n 2, 1) := by decide +kernel
theorem d_Mod_readGroups_90 : decode b_Mod_readGroups 90 = .ok (.iload 8, 2) := by decide +kernel
theorem d_Mod_readGroups_92 : decode b_Mod_readGroups 92 = .ok (.iadd, 1) := by decide +kernel
theorem d_Mod_readGroups_93 : decode b_Mod_readGroups 93 = .ok (.iload_n 3, 1) := by decide +kernel
theorem d_Mod_readGroups_94 : decode b_Mod_readGroups 94 = .ok (.if_icmp .ge 14, 3) := by decide +kernel
theorem d_Mod_readGroups_108 : decode b_Mod_readGroups 108 = .ok (.iload 9, 2) := by decide +kernel
theorem d_Mod_readGroups_110 : decode b_Mod_readGroups 110 = .ok (.ifCond .eq 8, 3) := by decide +kernel
theorem d_Mod_readGroups_113 : decode b_Mod_readGroups 113 = .ok (.aload_n 0, 1) := by decide +kernel
theorem d_Mod_readGroups_114 : decode b_Mod_readGroups 114 = .ok (.iconst 5, 1) := by decide +kernel
theorem d_Mod_readGroups_115 : decode b_Mod_readGroups 115 = .ok (.putfield 550, 3) := by decide +kernel
theorem d_Mod_readGroups_97 : decode b_Mod_readGroups 97 = .ok (.aload_n 1, 1) := by decide +kernel
theorem d_Mod_readGroups_98 : decode b_Mod_readGroups 98 = .ok (.iload_n 2, 1) := by decide +kernel
theorem d_Mod_readGroups_99 : decode b_Mod_readGroups 99 = .ok (.iload 8, 2) := by decide +kernel
theorem d_Mod_readGroups_101 : decode b_Mod_readGroups 101 = .ok (.iadd, 1) := by decide +kernel
theorem d_Mod_readGroups_102 : decode b_Mod_readGroups 102 = .ok (.iload 9, 2) := by decide +kernel
theorem d_Mod_readGroups_104 : decode b_Mod_readGroups 104 = .ok (.iastore, 1) := by decide +kernel
theorem d_Mod_readGroups_105 : decode b_Mod_readGroups 105 = .ok (.goto 13, 3) := by decide +kernel
theorem d_Mod_readGroups_47 : decode b_Mod_readGroups 47 = .ok (.aload_n 0, 1) := by decide +kernel
theorem d_Mod_readGroups_48 : decode b_Mod_readGroups 48 = .ok (.getfield 550, 3) := by decide +kernel
theorem d_Mod_readGroups_51 : decode b_Mod_readGroups 51 = .ok (.ifCond .eq 5, 3) := by decide +kernel
theorem d_Mod_readGroups_56 : decode b_Mod_readGroups 56 = .ok (.iconst 0, 1) := by decide +kernel
theorem d_Mod_readGroups_57 : decode b_Mod_readGroups 57 = .ok (.istore 8, 2) := by decide +kernel
theorem d_Mod_readGroups_54 : decode b_Mod_readGroups 54 = .ok (.iload_n 2, 1) := by decide +kernel
theorem d_Mod_readGroups_55 : decode b_Mod_readGroups 55 = .ok (.ireturn, 1) := by decide +kernel
theorem d_Mod_readGroups_0 : decode b_Mod_readGroups 0 = .ok (.lload 6, 2) := by decide +kernel
theorem d_Mod_readGroups_2 : decode b_Mod_readGroups 2 = .ok (.iload_n 3, 1) := by decide +kernel
theorem d_Mod_readGroups_3 : decode b_Mod_readGroups 3 = .ok (.iload_n 2, 1) := by decide +kernel
theorem d_Mod_readGroups_4 : decode b_Mod_readGroups 4 = .ok (.isub, 1) := by decide +kernel
theorem d_Mod_readGroups_5 : decode b_Mod_readGroups 5 = .ok (.bipush 7, 2) := by decide +kernel
theorem d_Mod_readGroups_7 : decode b_Mod_readGroups 7 = .ok (.iadd, 1) := by decide +kernel
theorem d_Mod_readGroups_8 : decode b_Mod_readGroups 8 = .ok (.bipush 8, 2) := by decide +kernel
theorem d_Mod_readGroups_10 : decode b_Mod_readGroups 10 = .ok (.idiv, 1) := by decide +kernel
theorem d_Mod_readGroups_11 : decode b_Mod_readGroups 11 = .ok (.i2l, 1) := by decide +kernel
theorem d_Mod_readGroups_12 : decode b_Mod_readGroups 12 = .ok (.lcmp, 1) := by decide +kernel
theorem d_Mod_readGroups_13 : decode b_Mod_readGroups 13 = .ok (.ifCond .le 11, 3) := by decide +kernel
theorem d_Mod_readGroups_24 : decode b_Mod_readGroups 24 = .ok (.iload 5, 2) := by decide +kernel
theorem d_Mod_readGroups_26 : decode b_Mod_readGroups 26 = .ok (.aload_n 0, 1) := by decide +kernel
theorem d_Mod_readGroups_27 : decode b_Mod_readGroups 27 = .ok (.getfield 553, 3) := by decide +kernel
theorem d_Mod_readGroups_30 : decode b_Mod_readGroups 30 = .ok (.isub, 1) := by decide +kernel
theorem d_Mod_readGroups_31 : decode b_Mod_readGroups 31 = .ok (.i2l, 1) := by decide +kernel
theorem d_Mod_readGroups_32 : decode b_Mod_readGroups 32 = .ok (.lload 6, 2) := by decide +kernel
theorem d_Mod_readGroups_34 : decode b_Mod_readGroups 34 = .ok (.iload 4, 2) := by decide +kernel
theorem d_Mod_readGroups_36 : decode b_Mod_readGroups 36 = .ok (.i2l, 1) := by decide +kernel
theorem d_Mod_readGroups_37 : decode b_Mod_readGroups 37 = .ok (.lmul, 1) := by decide +kernel
theorem d_Mod_readGroups_38 : decode b_Mod_readGroups 38 = .ok (.lcmp, 1) := by decide +kernel
theorem d_Mod_readGroups_39 : decode b_Mod_readGroups 39 = .ok (.ifCond .ge 8, 3) := by decide +kernel
theorem d_Mod_readGroups_42 : decode b_Mod_readGroups 42 = .ok (.aload_n 0, 1) := by decide +kernel
theorem d_Mod_readGroups_43 : decode b_Mod_readGroups 43 = .ok (.iconst 1, 1) := by decide +kernel
theorem d_Mod_readGroups_44 : decode b_Mod_readGroups 44 = .ok (.putfield 550, 3) := by decide +kernel
theorem d_Mod_readGroups_16 : decode b_Mod_readGroups 16 = .ok (.aload_n 0, 1) := by decide +kernel
theorem d_Mod_readGroups_17 : decode b_Mod_readGroups 17 = .ok (.iconst 4, 1) := by decide +kernel
theorem d_Mod_readGroups_18 : decode b_Mod_readGroups 18 = .ok (.putfield 550, 3) := by decide +kernel
theorem d_Mod_readGroups_21 : decode b_Mod_readGroups 21 = .ok (.goto 26, 3) := by decide +kernel
theorem d_Mod_readRuns_95 : decode b_Mod_readRuns 95 = .ok (.goto (-92), 3) := by decide +kernel
theorem d_Mod_readRuns_3 : decode b_Mod_readRuns 3 = .ok (.iload 5, 2) := by decide +kernel
theorem d_Mod_readRuns_5 : decode b_Mod_readRuns 5 = .ok (.iload_n 2, 1) := by decide +kernel
theorem d_Mod_readRuns_6 : decode b_Mod_readRuns 6 = .ok (.if_icmp .ge 92, 3) := by decide +kernel
theorem d_Mod_readRuns_98 : decode b_Mod_readRuns 98 = .ok (.return_, 1) := by decide +kernel
theorem d_Mod_readRuns_9 : decode b_Mod_readRuns 9 = .ok (.aload_n 0, 1) := by decide +kernel
theorem d_Mod_readRuns_10 : decode b_Mod_readRuns 10 = .ok (.getfield 550, 3) := by decide +kernel
theorem d_Mod_readRuns_13 : decode b_Mod_readRuns 13 = .ok (.ifCond .ne 85, 3) := by decide +kernel
theorem d_Mod_readRuns_16 : decode b_Mod_readRuns 16 = .ok (.aload_n 0, 1) := by decide +kernel
theorem d_Mod_readRuns_17 : decode b_Mod_readRuns 17 = .ok (.iload 4, 2) := by decide +kernel
theorem d_Mod_readRuns_19 : decode b_Mod_readRuns 19 = .ok (.invokevirtual 571, 3) := by decide +kernel
theorem d_Mod_readRuns_22 : decode b_Mod_readRuns 22 = .ok (.lstore 6, 2) := by decide +kernel
theorem d_Mod_readRuns_24 : decode b_Mod_readRuns 24 = .ok (.aload_n 0, 1) := by decide +kernel
theorem d_Mod_readRuns_25 : decode b_Mod_readRuns 25 = .ok (.getfield 550, 3) := by decide +kernel
theorem d_Mod_readRuns_28 : decode b_Mod_readRuns 28 = .ok (.ifCond .eq 4, 3) := by decide +kernel
theorem d_Mod_readRuns_32 : decode b_Mod_readRuns 32 = .ok (.lload 6, 2) := by decide +kernel
theorem d_Mod_readRuns_34 : decode b_Mod_readRuns 34 = .ok (.iconst 1, 1) := by decide +kernel
theorem d_Mod_readRuns_35 : decode b_Mod_readRuns 35 = .ok (.lushr, 1) := by decide +kernel
theorem d_Mod_readRuns_36 : decode b_Mod_readRuns 36 = .ok (.lstore 8, 2) := by decide +kernel
theorem d_Mod_readRuns_38 : decode b_Mod_readRuns 38 = .ok (.lload 8, 2) := by decide +kernel
theorem d_Mod_readRuns_40 : decode b_Mod_readRuns 40 = .ok (.lconst 0, 1) := by decide +kernel
theorem d_Mod_readRuns_41 : decode b_Mod_readRuns 41 = .ok (.lcmp, 1) := by decide +kernel
theorem d_Mod_readRuns_42 : decode b_Mod_readRuns 42 = .ok (.ifCond .ne 11, 3) := by decide +kernel
theorem d_Mod_readRuns_53 : decode b_Mod_readRuns 53 = .ok (.lload 6, 2) := by decide +kernel
theorem d_Mod_readRuns_55 : decode b_Mod_readRuns 55 = .ok (.lconst 1, 1) := by decide +kernel
theorem d_Mod_readRuns_56 : decode b_Mod_readRuns 56 = .ok (.land, 1) := by decide +kernel
theorem d_Mod_readRuns_57 : decode b_Mod_readRuns 57 = .ok (.lconst 0, 1) := by decide +kernel
theorem d_Mod_readRuns_58 : decode b_Mod_readRuns 58 = .ok (.lcmp, 1) := by decide +kernel
theorem d_Mod_readRuns_59 : decode b_Mod_readRuns 59 = .ok (.ifCond .ne 21, 3) := by decide +kernel
theorem d_Mod_readRuns_80 : decode b_Mod_readRuns 80 = .ok (.aload_n 0, 1) := by decide +kernel
theorem d_Mod_readRuns_81 : decode b_Mod_readRuns 81 = .ok (.aload_n 1, 1) := by decide +kernel
theorem d_Mod_readRuns_82 : decode b_Mod_readRuns 82 = .ok (.iload 5, 2) := by decide +kernel
theorem d_Mod_readRuns_84 : decode b_Mod_readRuns 84 = .ok (.iload_n 2, 1) := by decide +kernel
theorem d_Mod_readRuns_85 : decode b_Mod_readRuns 85 = .ok (.iload_n 3, 1) := by decide +kernel
theorem d_Mod_readRuns_86 : decode b_Mod_readRuns 86 = .ok (.iload 4, 2) := by decide +kernel
theorem d_Mod_readRuns_88 : decode b_Mod_readRuns 88 = .ok (.lload 8, 2) := by decide +kernel
theorem d_Mod_readRuns_90 : decode b_Mod_readRuns 90 = .ok (.invokevirtual 578, 3) := by decide +kernel
theorem d_Mod_readRuns_93 : decode b_Mod_readRuns 93 = .ok (.istore 5, 2) := by decide +kernel
theorem d_Mod_readRuns_62 : decode b_Mod_readRuns 62 = .ok (.aload_n 0, 1) := by decide +kernel
theorem d_Mod_readRuns_63 : decode b_Mod_readRuns 63 = .ok (.aload_n 1, 1) := by decide +kernel
theorem d_Mod_readRuns_64 : decode b_Mod_readRuns 64 = .ok (.iload 5, 2) := by decide +kernel
theorem d_Mod_readRuns_66 : decode b_Mod_readRuns 66 = .ok (.iload_n 2, 1) := by decide +kernel
theorem d_Mod_readRuns_67 : decode b_Mod_readRuns 67 = .ok (.iload_n 3, 1) := by decide +kernel
theorem d_Mod_readRuns_68 : decode b_Mod_readRuns 68 = .ok (.iload 4, 2) := by decide +kernel
theorem d_Mod_readRuns_70 : decode b_Mod_readRuns 70 = .ok (.lload 8, 2) := by decide +kernel
theorem d_Mod_readRuns_72 : decode b_Mod_readRuns 72 = .ok (.invokevirtual 574, 3) := by decide +kernel
theorem d_Mod_readRuns_75 : decode b_Mod_readRuns 75 = .ok (.istore 5, 2) := by decide +kernel
theorem d_Mod_readRuns_77 : decode b_Mod_readRuns 77 = .ok (.goto 18, 3) := by decide +kernel
theorem d_Mod_readRuns_45 : decode b_Mod_readRuns 45 = .ok (.aload_n 0, 1) := by decide +kernel
theorem d_Mod_readRuns_46 : decode b_Mod_readRuns 46 = .ok (.iconst 3, 1) := by decide +kernel
theorem d_Mod_readRuns_47 : decode b_Mod_readRuns 47 = .ok (.putfield 550, 3) := by decide +kernel
theorem d_Mod_readRuns_50 : decode b_Mod_readRuns 50 = .ok (.goto 45, 3) := by decide +kernel
theorem d_Mod_readRuns_31 : decode b_Mod_readRuns 31 = .ok (.return_, 1) := by decide +kernel
theorem d_Mod_readRuns_0 : decode b_Mod_readRuns 0 = .ok (.iconst 0, 1) := by decide +kernel
theorem d_Mod_readRuns_1 : decode b_Mod_readRuns 1 = .ok (.istore 5, 2) := by decide +kernel
theorem d_Mod_readLevels_184 : decode b_Mod_readLevels 184 = .ok (.iinc 8 1, 3) := by decide +kernel
theorem d_Mod_readLevels_187 : decode b_Mod_readLevels 187 = .ok (.goto (-37), 3) := by decide +kernel
theorem d_Mod_readLevels_178 : decode b_Mod_readLevels 178 = .ok (.aload_n 0, 1) := by decide +kernel
theorem d_Mod_readLevels_179 : decode b_Mod_readLevels 179 = .ok (.bipush 9, 2) := by decide +kernel
theorem d_Mod_readLevels_181 : decode b_Mod_readLevels 181 = .ok (.putfield 550, 3) := by decide +kernel
theorem d_Mod_readLevels_150 : decode b_Mod_readLevels 150 = .ok (.iload 8, 2) := by decide +kernel
theorem d_Mod_readLevels_152 : decode b_Mod_readLevels 152 = .ok (.iload_n 2, 1) := by decide +kernel
theorem d_Mod_readLevels_153 : decode b_Mod_readLevels 153 = .ok (.if_icmp .ge 37, 3) := by decide +kernel
theorem d_Mod_readLevels_190 : decode b_Mod_readLevels 190 = .ok (.return_, 1) := by decide +kernel
theorem d_Mod_readLevels_156 : decode b_Mod_readLevels 156 = .ok (.aload_n 0, 1) := by decide +kernel
theorem d_Mod_readLevels_157 : decode b_Mod_readLevels 157 = .ok (.getfield 550, 3) := by decide +kernel
theorem d_Mod_readLevels_160 : decode b_Mod_readLevels 160 = .ok (.ifCond .ne 30, 3) := by decide +kernel
theorem d_Mod_readLevels_163 : decode b_Mod_readLevels 163 = .ok (.aload_n 1, 1) := by decide +kernel
theorem d_Mod_readLevels_164 : decode b_Mod_readLevels 164 = .ok (.iload 8, 2) := by decide +kernel
theorem d_Mod_readLevels_166 : decode b_Mod_readLevels 166 = .ok (.iaload, 1) := by decide +kernel
theorem d_Mod_readLevels_167 : decode b_Mod_readLevels 167 = .ok (.ifCond .lt 11, 3) := by decide +kernel
theorem d_Mod_readLevels_170 : decode b_Mod_readLevels 170 = .ok (.aload_n 1, 1) := by decide +kernel
theorem d_Mod_readLevels_171 : decode b_Mod_readLevels 171 = .ok (.iload 8, 2) := by decide +kernel
theorem d_Mod_readLevels_173 : decode b_Mod_readLevels 173 = .ok (.iaload, 1) := by decide +kernel
theorem d_Mod_readLevels_174 : decode b_Mod_readLevels 174 = .ok (.iload_n 3, 1) := by decide +kernel
theorem d_Mod_readLevels_175 : decode b_Mod_readLevels 175 = .ok (.if_icmp .le 9, 3) := by decide +kernel
theorem d_Mod_readLevels_147 : decode b_Mod_readLevels 147 = .ok (.iconst 0, 1) := by decide +kernel
theorem d_Mod_readLevels_148 : decode b_Mod_readLevels 148 = .ok (.istore 8, 2) := by decide +kernel
theorem d_Mod_readLevels_102 : decode b_Mod_readLevels 102 = .ok (.iload_n 3, 1) := by decide +kernel
theorem d_Mod_readLevels_103 : decode b_Mod_readLevels 103 = .ok (.iload 7, 2) := by decide +kernel
theorem d_Mod_readLevels_105 : decode b_Mod_readLevels 105 = .ok (.ishr, 1) := by decide +kernel
theorem d_Mod_readLevels_106 : decode b_Mod_readLevels 106 = .ok (.ifCond .le 9, 3) := by decide +kernel
theorem d_Mod_readLevels_115 : decode b_Mod_readLevels 115 = .ok (.aload_n 0, 1) := by decide +kernel
theorem d_Mod_readLevels_116 : decode b_Mod_readLevels 116 = .ok (.aload_n 1, 1) := by decide +kernel
theorem d_Mod_readLevels_117 : decode b_Mod_readLevels 117 = .ok (.iload_n 2, 1) := by decide +kernel
theorem d_Mod_readLevels_118 : decode b_Mod_readLevels 118 = .ok (.iload 7, 2) := by decide +kernel
theorem d_Mod_readLevels_120 : decode b_Mod_readLevels 120 = .ok (.iload 6, 2) := by decide +kernel
theorem d_Mod_readLevels_122 : decode b_Mod_readLevels 122 = .ok (.invokevirtual 704, 3) := by decide +kernel
theorem d_Mod_readLevels_125 : decode b_Mod_readLevels 125 = .ok (.aload_n 0, 1) := by decide +kernel
theorem d_Mod_readLevels_126 : decode b_Mod_readLevels 126 = .ok (.getfield 550, 3) := by decide +kernel
theorem d_Mod_readLevels_129 : decode b_Mod_readLevels 129 = .ok (.ifCond .ne 18, 3) := by decide +kernel
theorem d_Mod_readLevels_132 : decode b_Mod_readLevels 132 = .ok (.aload_n 0, 1) := by decide +kernel
theorem d_Mod_readLevels_133 : decode b_Mod_readLevels 133 = .ok (.getfield 553, 3) := by decide +kernel
theorem d_Mod_readLevels_136 : decode b_Mod_readLevels 136 = .ok (.iload 6, 2) := by decide +kernel
theorem d_Mod_readLevels_138 : decode b_Mod_readLevels 138 = .ok (.if_icmp .ge 9, 3) := by decide +kernel
theorem d_Mod_readLevels_141 : decode b_Mod_readLevels 141 = .ok (.aload_n 0, 1) := by decide +kernel
theorem d_Mod_readLevels_142 : decode b_Mod_readLevels 142 = .ok (.bipush 6, 2) := by decide +kernel
theorem d_Mod_readLevels_144 : decode b_Mod_readLevels 144 = .ok (.putfield 550, 3) := by decide +kernel
theorem d_Mod_readLevels_109 : decode b_Mod_readLevels 109 = .ok (.iinc 7 1, 3) := by decide +kernel
theorem d_Mod_readLevels_112 : decode b_Mod_readLevels 112 = .ok (.goto (-10), 3) := by decide +kernel
theorem d_Mod_readLevels_81 : decode b_Mod_readLevels 81 = .ok (.aload_n 0, 1) := by decide +kernel
theorem d_Mod_readLevels_82 : decode b_Mod_readLevels 82 = .ok (.getfield 550, 3) := by decide +kernel
theorem d_Mod_readLevels_85 : decode b_Mod_readLevels 85 = .ok (.ifCond .eq 4, 3) := by decide +kernel
theorem d_Mod_readLevels_89 : decode b_Mod_readLevels 89 = .ok (.aload_n 0, 1) := by decide +kernel
theorem d_Mod_readLevels_90 : decode b_Mod_readLevels 90 = .ok (.getfield 553, 3) := by decide +kernel
theorem d_Mod_readLevels_93 : decode b_Mod_readLevels 93 = .ok (.lload 4, 2) := by decide +kernel
theorem d_Mod_readLevels_95 : decode b_Mod_readLevels 95 = .ok (.l2i, 1) := by decide +kernel
theorem d_Mod_readLevels_96 : decode b_Mod_readLevels 96 = .ok (.iadd, 1) := by decide +kernel
theorem d_Mod_readLevels_97 : decode b_Mod_readLevels 97 = .ok (.istore 6, 2) := by decide +kernel
theorem d_Mod_readLevels_99 : decode b_Mod_readLevels 99 = .ok (.iconst 0, 1) := by decide +kernel
theorem d_Mod_readLevels_100 : decode b_Mod_readLevels 100 = .ok (.istore 7, 2) := by decide +kernel
theorem d_Mod_readLevels_88 : decode b_Mod_readLevels 88 = .ok (.return_, 1) := by decide +kernel
theorem d_Mod_readLevels_76 : decode b_Mod_readLevels 76 = .ok (.aload_n 0, 1) := by decide +kernel
theorem d_Mod_readLevels_77 : decode b_Mod_readLevels 77 = .ok (.iconst 1, 1) := by decide +kernel
theorem d_Mod_readLevels_78 : decode b_Mod_readLevels 78 = .ok (.putfield 550, 3) := by decide +kernel
theorem d_Mod_readLevels_24 : decode b_Mod_readLevels 24 = .ok (.iload_n 3, 1) := by decide +kernel
theorem d_Mod_readLevels_25 : decode b_Mod_readLevels 25 = .ok (.ifCond .eq 10, 3) := by decide +kernel
theorem d_Mod_readLevels_35 : decode b_Mod_readLevels 35 = .ok (.return_, 1) := by decide +kernel
theorem d_Mod_readLevels_28 : decode b_Mod_readLevels 28 = .ok (.aload_n 0, 1) := by decide +kernel
theorem d_Mod_readLevels_29 : decode b_Mod_readLevels 29 = .ok (.getfield 550, 3) := by decide +kernel
theorem d_Mod_readLevels_32 : decode b_Mod_readLevels 32 = .ok (.ifCond .eq 4, 3) := by decide +kernel
theorem d_Mod_readLevels_36 : decode b_Mod_readLevels 36 = .ok (.aload_n 0, 1) := by decide +kernel
theorem d_Mod_readLevels_37 : decode b_Mod_readLevels 37 = .ok (.aload_n 0, 1) := by decide +kernel
theorem d_Mod_readLevels_38 : decode b_Mod_readLevels 38 = .ok (.getfield 608, 3) := by decide +kernel
theorem d_Mod_readLevels_41 : decode b_Mod_readLevels 41 = .ok (.invokevirtual 571, 3) := by decide +kernel
theorem d_Mod_readLevels_44 : decode b_Mod_readLevels 44 = .ok (.lstore 4, 2) := by decide +kernel
theorem d_Mod_readLevels_46 : decode b_Mod_readLevels 46 = .ok (.aload_n 0, 1) := by decide +kernel
theorem d_Mod_readLevels_47 : decode b_Mod_readLevels 47 = .ok (.getfield 550, 3) := by decide +kernel
theorem d_Mod_readLevels_50 : decode b_Mod_readLevels 50 = .ok (.ifCond .ne 31, 3) := by decide +kernel
theorem d_Mod_readLevels_53 : decode b_Mod_readLevels 53 = .ok (.lload 4, 2) := by decide +kernel
theorem d_Mod_readLevels_55 : decode b_Mod_readLevels 55 = .ok (.lconst 0, 1) := by decide +kernel
theorem d_Mod_readLevels_56 : decode b_Mod_readLevels 56 = .ok (.lcmp, 1) := by decide +kernel
theorem d_Mod_readLevels_57 : decode b_Mod_readLevels 57 = .ok (.ifCond .lt 19, 3) := by decide +kernel
theorem d_Mod_readLevels_60 : decode b_Mod_readLevels 60 = .ok (.lload 4, 2) := by decide +kernel
theorem d_Mod_readLevels_62 : decode b_Mod_readLevels 62 = .ok (.aload_n 0, 1) := by decide +kernel
theorem d_Mod_readLevels_63 : decode b_Mod_readLevels 63 = .ok (.getfield 608, 3) := by decide +kernel
theorem d_Mod_readLevels_66 : decode b_Mod_readLevels 66 = .ok (.aload_n 0, 1) := by decide +kernel
theorem d_Mod_readLevels_67 : decode b_Mod_readLevels 67 = .ok (.getfield 553, 3) := by decide +kernel
theorem d_Mod_readLevels_70 : decode b_Mod_readLevels 70 = .ok (.isub, 1) := by decide +kernel
theorem d_Mod_readLevels_71 : decode b_Mod_readLevels 71 = .ok (.i2l, 1) := by decide +kernel
theorem d_Mod_readLevels_72 : decode b_Mod_readLevels 72 = .ok (.lcmp, 1) := by decide +kernel
theorem d_Mod_readLevels_73 : decode b_Mod_readLevels 73 = .ok (.ifCond .le 8, 3) := by decide +kernel
theorem d_Mod_readLevels_3 : decode b_Mod_readLevels 3 = .ok (.iload 4, 2) := by decide +kernel
theorem d_Mod_readLevels_5 : decode b_Mod_readLevels 5 = .ok (.iload_n 2, 1) := by decide +kernel
theorem d_Mod_readLevels_6 : decode b_Mod_readLevels 6 = .ok (.if_icmp .ge 18, 3) := by decide +kernel
theorem d_Mod_readLevels_9 : decode b_Mod_readLevels 9 = .ok (.iload_n 3, 1) := by decide +kernel
theorem d_Mod_readLevels_10 : decode b_Mod_readLevels 10 = .ok (.ifCond .ne 14, 3) := by decide +kernel
theorem d_Mod_readLevels_13 : decode b_Mod_readLevels 13 = .ok (.aload_n 1, 1) := by decide +kernel
theorem d_Mod_readLevels_14 : decode b_Mod_readLevels 14 = .ok (.iload 4, 2) := by decide +kernel
theorem d_Mod_readLevels_16 : decode b_Mod_readLevels 16 = .ok (.iconst 0, 1) := by decide +kernel
theorem d_Mod_readLevels_17 : decode b_Mod_readLevels 17 = .ok (.iastore, 1) := by decide +kernel
theorem d_Mod_readLevels_18 : decode b_Mod_readLevels 18 = .ok (.iinc 4 1, 3) := by decide +kernel
theorem d_Mod_readLevels_21 : decode b_Mod_readLevels 21 = .ok (.goto (-18), 3) := by decide +kernel
theorem d_Mod_readLevels_0 : decode b_Mod_readLevels 0 = .ok (.iconst 0, 1) := by decide +kernel
theorem d_Mod_readLevels_1 : decode b_Mod_readLevels 1 = .ok (.istore 4, 2) := by decide +kernel
section
variable (l : Launch) (dC : Nat → ClassId) (dI : Nat → Nat → Nat) (cI cB cJ cZ : ClassId)
set_option maxRecDepth 100000 in
set_option maxHeartbeats 4000000 in
set_option maxRecDepth 100000 in
theorem t_Mod_bitsAt_6 {p : Program} {l : Launch} {e : Env} {R : Room} {s : State} {m : MethodId} {args : Array Value} {below : List Frame} {meth : Method} {c : Code} {cells slots : Nat} {Q : State → Prop} {dC : Nat → ClassId} {dI : Nat → Nat → Nat} {cI cB cJ cZ : ClassId} {A : Nat → Prop} {ad : Nat → Nat} {post : Int32 → St → Prop} {rec6 : Int32 → Int32 → Int32 → Int32 → Int32 → St → Prop} (hx : p.tables.exec = Jvm.exec) (hb : c.code = b_Mod_bitsAt) (hml : c.maxLocals = 6) (hown : s.vm.findClass R_Mod = some m.cls) (hT : ∀ w ∈ TG, w.before args s = true) (hK : va_K (dC, dI) CL (TY cI cB cJ cZ) s) (hN : NW s) (hA : ∀ q : Nat, s.heap.size ≤ q → A q) (hRc : cells ≤ R.cells) (hRs : slots ≤ R.slots) (hRf : 0 ≤ R.frames) (hRl : 0 ≤ R.locals) (hret : ∀ (r : Int32) (x : St) (H : Heap) (locs : List Loc) (pc : Nat) (ls : Array Slot), decode b_Mod_bitsAt pc = .ok (.ireturn, 1) → post r x → Wd dC dI cI cB cJ cZ ad stM kcM 115 A x H → va_S A s.heap H locs → W p l e R s m args below meth c H locs cells slots Q (F0 m pc ls [.int r])) (hrec6 : ∀ (l1 : Int32) (l2 : Int32) (l3 : Int32) (l4 : Int32) (l5 : Int32) (x : St) (H : Heap) (locs : List Loc) (ls : Array Slot), rec6 l1 l2 l3 l4 l5 x → Wd dC dI cI cB cJ cZ ad stM kcM 115 A x H → va_S A s.heap H locs → lv_has ls 6 [(0, .ref (ad 0)), (1, .int l1), (2, .int l2), (3, .int l3), (4, .int l4), (5, .int l5)] → W p l e R s m args below meth c H locs cells slots Q (F0 m 6 ls [])) : ∀ (l1 : Int32) (l2 : Int32) (l3 : Int32) (l4 : Int32) (l5 : Int32) (x : St) (H : Heap) (locs : List Loc) (ls : Array Slot), j_Mod_bitsAt_6 post rec6 l1 l2 l3 l4 l5 x → Wd dC dI cI cB cJ cZ ad stM kcM 115 A x H → va_S A s.heap H locs → lv_has ls 6 [(0, .ref (ad 0)), (1, .int l1), (2, .int l2), (3, .int l3), (4, .int l4), (5, .int l5)] → W p l e R s m args below meth c H locs cells slots Q (F0 m 6 ls []) := by
  intro l1 l2 l3 l4 l5 x H locs ls  hw hW hS hl
  unfold j_Mod_bitsAt_6 at hw
  refine lv_iload hx hb d_Mod_bitsAt_6 (lv_at hl 5 rfl) ?_
  refine lv_iload_n hx hb d_Mod_bitsAt_8 rfl (lv_at hl 3 rfl) ?_
  refine lv_icmp_ge (tgt := 50) hx hb d_Mod_bitsAt_9 (by decide) (fun c1154 => ?_) (fun c1154 => ?_)
  · have hw := hw.1 c1154
    refine lv_iload hx hb d_Mod_bitsAt_50 (lv_at hl 4 rfl) ?_
    exact hret l4 x H locs 52 ls d_Mod_bitsAt_52 hw hW hS
  · have hw := hw.2 c1154
    refine lv_iload hx hb d_Mod_bitsAt_12 (lv_at hl 4 rfl) ?_
    refine lv_aload_n hx hb d_Mod_bitsAt_14 rfl (lv_at hl 0 rfl) ?_
    refine w_getf (q := 41) (k := 62) (t := 12) (C := R_Mod) (T := F_Mod) (N := 167) hx hb hT hown hK hW ko_0.1 ko_0.2 (by decide) in_Mod rfl rfl (by decide) rfl fr_Mod_62 w_8_238 d_Mod_bitsAt_15 rfl ?_
    refine lv_iload_n hx hb d_Mod_bitsAt_18 rfl (lv_at hl 1 rfl) ?_
    refine lv_iload_n hx hb d_Mod_bitsAt_19 rfl (lv_at hl 2 rfl) ?_
    refine lv_iload hx hb d_Mod_bitsAt_20 (lv_at hl 5 rfl) ?_
    refine lv_iadd hx hb d_Mod_bitsAt_22 ?_
    refine lv_bipush (v := 8) hx hb d_Mod_bitsAt_23 (by decide) ?_
    refine lv_idiv hx hb d_Mod_bitsAt_25 (by decide) ?_
    refine lv_iadd hx hb d_Mod_bitsAt_26 ?_
    obtain ⟨hi, hw⟩ := hw
    refine w_iald (o := 41) hx hb hK hW ko_41.1 ko_41.2 hi d_Mod_bitsAt_27 ?_
    refine lv_iload_n hx hb d_Mod_bitsAt_28 rfl (lv_at hl 2 rfl) ?_
    refine lv_iload hx hb d_Mod_bitsAt_29 (lv_at hl 5 rfl) ?_
    refine lv_iadd hx hb d_Mod_bitsAt_31 ?_
    refine lv_bipush (v := 8) hx hb d_Mod_bitsAt_32 (by decide) ?_
    refine lv_irem hx hb d_Mod_bitsAt_34 (by decide) ?_
    refine lv_ishr hx hb d_Mod_bitsAt_35 ?_
    refine lv_iconst (v := 1) hx hb d_Mod_bitsAt_36 (by decide) ?_
    refine lv_iand hx hb d_Mod_bitsAt_37 ?_
    refine lv_iload hx hb d_Mod_bitsAt_38 (lv_at hl 5 rfl) ?_
    refine lv_ishl hx hb d_Mod_bitsAt_40 ?_
    refine lv_ior hx hb d_Mod_bitsAt_41 ?_
    refine lv_topi (fun v1155 ev1155 => ?_)
    have hw := hw v1155 ev1155
    refine lv_istore (lv' := [(4, .int v1155), (0, .ref (ad 0)), (1, .int l1), (2, .int l2), (3, .int l3), (5, .int l5)]) hx hb d_Mod_bitsAt_42 hl (by decide) rfl (fun ls hl => ?_)
    refine lv_iinc (v := (l5 + 1)) (lv' := [(5, .int (l5 + 1)), (4, .int v1155), (0, .ref (ad 0)), (1, .int l1), (2, .int l2), (3, .int l3)]) hx hb d_Mod_bitsAt_44 hl (k := 5) rfl rfl (by decide) rfl (fun ls hl => ?_)
    refine lv_goto (tgt := 6) hx hb d_Mod_bitsAt_47 (by decide) ?_
    exact hrec6 l1 l2 l3 v1155 (l5 + 1) x H locs ls  hw hW hS (lv_sub hl [2, 3, 4, 5, 1, 0] rfl)
set_option maxHeartbeats 4000000 in
set_option maxRecDepth 100000 in
theorem tl_Mod_bitsAt_6 {p : Program} {l : Launch} {e : Env} {R : Room} {s : State} {m : MethodId} {args : Array Value} {below : List Frame} {meth : Method} {c : Code} {cells slots : Nat} {Q : State → Prop} {dC : Nat → ClassId} {dI : Nat → Nat → Nat} {cI cB cJ cZ : ClassId} {A : Nat → Prop} {ad : Nat → Nat} {post : Int32 → St → Prop} (hx : p.tables.exec = Jvm.exec) (hb : c.code = b_Mod_bitsAt) (hml : c.maxLocals = 6) (hown : s.vm.findClass R_Mod = some m.cls) (hT : ∀ w ∈ TG, w.before args s = true) (hK : va_K (dC, dI) CL (TY cI cB cJ cZ) s) (hN : NW s) (hA : ∀ q : Nat, s.heap.size ≤ q → A q) (hRc : cells ≤ R.cells) (hRs : slots ≤ R.slots) (hRf : 0 ≤ R.frames) (hRl : 0 ≤ R.locals) (hret : ∀ (r : Int32) (x : St) (H : Heap) (locs : List Loc) (pc : Nat) (ls : Array Slot), decode b_Mod_bitsAt pc = .ok (.ireturn, 1) → post r x → Wd dC dI cI cB cJ cZ ad stM kcM 115 A x H → va_S A s.heap H locs → W p l e R s m args below meth c H locs cells slots Q (F0 m pc ls [.int r]))  : ∀ n : Nat, ∀ (l1 : Int32) (l2 : Int32) (l3 : Int32) (l4 : Int32) (l5 : Int32) (x : St) (H : Heap) (locs : List Loc) (ls : Array Slot), wl_Mod_bitsAt_6 post n l1 l2 l3 l4 l5 x → Wd dC dI cI cB cJ cZ ad stM kcM 115 A x H → va_S A s.heap H locs → lv_has ls 6 [(0, .ref (ad 0)), (1, .int l1), (2, .int l2), (3, .int l3), (4, .int l4), (5, .int l5)] → W p l e R s m args below meth c H locs cells slots Q (F0 m 6 ls []) := by
  intro n
  induction n with
  | zero => intro l1 l2 l3 l4 l5 x H locs ls  hw; exact hw.elim
  | succ n ih => intro l1 l2 l3 l4 l5 x H locs ls  hw hW hS hl; exact t_Mod_bitsAt_6 hx hb hml hown hT hK hN hA hRc hRs hRf hRl hret  ih l1 l2 l3 l4 l5 x H locs ls  hw hW hS hl
set_option maxRecDepth 100000 in
set_option maxHeartbeats 4000000 in
set_option maxRecDepth 100000 in
theorem t_Mod_bitsAt_e {p : Program} {l : Launch} {e : Env} {R : Room} {s : State} {m : MethodId} {args : Array Value} {below : List Frame} {meth : Method} {c : Code} {cells slots : Nat} {Q : State → Prop} {dC : Nat → ClassId} {dI : Nat → Nat → Nat} {cI cB cJ cZ : ClassId} {A : Nat → Prop} {ad : Nat → Nat} {post : Int32 → St → Prop} (hx : p.tables.exec = Jvm.exec) (hb : c.code = b_Mod_bitsAt) (hml : c.maxLocals = 6) (hown : s.vm.findClass R_Mod = some m.cls) (hT : ∀ w ∈ TG, w.before args s = true) (hK : va_K (dC, dI) CL (TY cI cB cJ cZ) s) (hN : NW s) (hA : ∀ q : Nat, s.heap.size ≤ q → A q) (hRc : cells ≤ R.cells) (hRs : slots ≤ R.slots) (hRf : 0 ≤ R.frames) (hRl : 0 ≤ R.locals) (hret : ∀ (r : Int32) (x : St) (H : Heap) (locs : List Loc) (pc : Nat) (ls : Array Slot), decode b_Mod_bitsAt pc = .ok (.ireturn, 1) → post r x → Wd dC dI cI cB cJ cZ ad stM kcM 115 A x H → va_S A s.heap H locs → W p l e R s m args below meth c H locs cells slots Q (F0 m pc ls [.int r])) : ∀ (l1 : Int32) (l2 : Int32) (l3 : Int32) (x : St) (H : Heap) (locs : List Loc) (ls : Array Slot), wp_Mod_bitsAt post l1 l2 l3 x → Wd dC dI cI cB cJ cZ ad stM kcM 115 A x H → va_S A s.heap H locs → lv_has ls 6 [(0, .ref (ad 0)), (1, .int l1), (2, .int l2), (3, .int l3)] → W p l e R s m args below meth c H locs cells slots Q (F0 m 0 ls []) := by
  intro l1 l2 l3 x H locs ls  hw hW hS hl
  unfold wp_Mod_bitsAt at hw
  refine lv_iconst (v := 0) hx hb d_Mod_bitsAt_0 (by decide) ?_
  refine lv_istore (lv' := [(4, .int 0), (0, .ref (ad 0)), (1, .int l1), (2, .int l2), (3, .int l3)]) hx hb d_Mod_bitsAt_1 hl (by decide) rfl (fun ls hl => ?_)
  refine lv_iconst (v := 0) hx hb d_Mod_bitsAt_3 (by decide) ?_
  refine lv_istore (lv' := [(5, .int 0), (4, .int 0), (0, .ref (ad 0)), (1, .int l1), (2, .int l2), (3, .int l3)]) hx hb d_Mod_bitsAt_4 hl (by decide) rfl (fun ls hl => ?_)
  obtain ⟨n, hw⟩ := hw
  exact tl_Mod_bitsAt_6 hx hb hml hown hT hK hN hA hRc hRs hRf hRl hret  n l1 l2 l3 0 0 x H locs ls  hw hW hS (lv_sub hl [2, 3, 4, 5, 1, 0] rfl)
set_option maxHeartbeats 4000000 in
set_option maxRecDepth 100000 in
theorem k_Mod_bitsAt (l : Launch) (dC : Nat → ClassId) (dI : Nat → Nat → Nat) (cI cB cJ cZ : ClassId) (ad : Nat → Nat) (sz : Nat) (l1 : Int32) (l2 : Int32) (l3 : Int32) (x : St) {post : Int32 → St → Prop} (hw : wp_Mod_bitsAt post l1 l2 l3 x) : Met l y_Mod_bitsAt (wsOf y_Mod_bitsAt b_Mod_bitsAt 6 (some (.int))) ({ frames := 0, cells := 0, slots := 0, locals := 0 }) (va_Pc [.ref (ad 0), .int l1, .int l2, .int l3] (PW dC dI cI cB cJ cZ ad stM kcM 115 sz x)) (va_Qi (fun (r : Int32) (y : St) => post r y) (fun y t => Wd dC dI cI cB cJ cZ ad stM kcM 115 (va_A (pic ad stM kcM 115 cI cB cJ cZ x) sz) y t.heap) (va_A (pic ad stM kcM 115 cI cB cJ cZ x) sz)) 0 0 (va_A (pic ad stM kcM 115 cI cB cJ cZ x) sz) := by
  refine Met.ofW (cc := b_Mod_bitsAt) (maxL := 6) (ret := some (.int)) (by decide) rfl ?_
  intro p e s m args below meth c s₁ B hml hv
  obtain ⟨rfl, hsz, hW0, hK, hN⟩ := hv
  have hx := B.exec
  have hb := B.bytes
  have hr := B.returns
  have hts := atoms_spec B.pre
  have hT : ∀ w ∈ TG, w.before _ s = true := fun w h => hts w (List.mem_cons_of_mem _ h)
  have hown : s.vm.findClass R_Mod = some m.cls := findClass_of_methodNamed B.named
  have hlocks := B.notSynchronized
  subst hsz
  have hW : Wd dC dI cI cB cJ cZ ad stM kcM 115 (va_A (pic ad stM kcM 115 cI cB cJ cZ x) s.heap.size) x s.heap := ⟨hW0.1, hW0.2.1.self (sz := s.heap.size), hW0.2.2⟩
  generalize hAe : va_A (pic ad stM kcM 115 cI cB cJ cZ x) s.heap.size = A at hW ⊢
  have hA : ∀ q : Nat, s.heap.size ≤ q → A q := fun q h => by rw [← hAe]; exact Or.inr h
  have hS : va_S A s.heap s.heap [] := va_S.rf
  have hl := lv_entry ([.ref (ad 0), .int l1, .int l2, .int l3]) (n := 6) (Nat.le_of_ble_eq_true rfl)
  rw [lg_entry_eq]
  generalize (lg_sl ([.ref (ad 0), .int l1, .int l2, .int l3]) ++ List.replicate (6 - (lg_sl ([.ref (ad 0), .int l1, .int l2, .int l3])).length) Slot.unset).toArray = ls at hl ⊢
  have hl : lv_has ls 6 [(0, .ref (ad 0)), (1, .int l1), (2, .int l2), (3, .int l3)] := hl
  exact t_Mod_bitsAt_e hx hb hml hown hT hK hN hA (Nat.le_refl 0) (Nat.le_refl 0) (Nat.le_refl 0) (Nat.le_refl 0) (fun r x H locs pc ls hd hp hW hS => W.iret (v := r) hx hb hr (fun t ht hM => ⟨⟨r, x, rfl, hp, Wd.back hW ht.symm (fun _ z => z)⟩, hS.F ht⟩) hS.2.2 hd hlocks)  l1 l2 l3 x _ _ ls  hw hW hS hl
set_option maxRecDepth 100000 in
set_option maxHeartbeats 4000000 in
set_option maxRecDepth 100000 in
theorem t_Mod_readOne_133 {p : Program} {l : Launch} {e : Env} {R : Room} {s : State} {m : MethodId} {args : Array Value} {below : List Frame} {meth : Method} {c : Code} {cells slots : Nat} {Q : State → Prop} {dC : Nat → ClassId} {dI : Nat → Nat → Nat} {cI cB cJ cZ : ClassId} {A : Nat → Prop} {ad : Nat → Nat} {post : Int32 → St → Prop} {rec133 : Nat → Int32 → Int32 → Int32 → Int32 → Int64 → Int32 → Int32 → Int32 → St → Prop} (hx : p.tables.exec = Jvm.exec) (hb : c.code = b_Mod_readOne) (hml : c.maxLocals = 11) (hown : s.vm.findClass R_Mod = some m.cls) (hT : ∀ w ∈ TG, w.before args s = true) (hK : va_K (dC, dI) CL (TY cI cB cJ cZ) s) (hN : NW s) (hA : ∀ q : Nat, s.heap.size ≤ q → A q) (hRc : cells ≤ R.cells) (hRs : slots ≤ R.slots) (hRf : 1 ≤ R.frames) (hRl : 25 ≤ R.locals) (hret : ∀ (r : Int32) (x : St) (H : Heap) (locs : List Loc) (pc : Nat) (ls : Array Slot), decode b_Mod_readOne pc = .ok (.ireturn, 1) → post r x → Wd dC dI cI cB cJ cZ ad stM kcM 115 A x H → va_S A s.heap H locs → W p l e R s m args below meth c H locs cells slots Q (F0 m pc ls [.int r])) (hrec133 : ∀ (l1 : Nat) (l2 : Int32) (l3 : Int32) (l4 : Int32) (l5 : Int32) (l6 : Int64) (l8 : Int32) (l9 : Int32) (l10 : Int32) (x : St) (H : Heap) (locs : List Loc) (ls : Array Slot), (l1 < 115 ∧ kcM l1 = 20) → rec133 l1 l2 l3 l4 l5 l6 l8 l9 l10 x → Wd dC dI cI cB cJ cZ ad stM kcM 115 A x H → va_S A s.heap H locs → lv_has ls 11 [(0, .ref (ad 0)), (1, .ref (ad l1)), (2, .int l2), (3, .int l3), (4, .int l4), (5, .int l5), (6, .long l6), (8, .int l8), (9, .int l9), (10, .int l10)] → W p l e R s m args below meth c H locs cells slots Q (F0 m 133 ls [])) : ∀ (l1 : Nat) (l2 : Int32) (l3 : Int32) (l4 : Int32) (l5 : Int32) (l6 : Int64) (l8 : Int32) (l9 : Int32) (l10 : Int32) (x : St) (H : Heap) (locs : List Loc) (ls : Array Slot), (l1 < 115 ∧ kcM l1 = 20) → j_Mod_readOne_133 post rec133 l1 l2 l3 l4 l5 l6 l8 l9 l10 x → Wd dC dI cI cB cJ cZ ad stM kcM 115 A x H → va_S A s.heap H locs → lv_has ls 11 [(0, .ref (ad 0)), (1, .ref (ad l1)), (2, .int l2), (3, .int l3), (4, .int l4), (5, .int l5), (6, .long l6), (8, .int l8), (9, .int l9), (10, .int l10)] → W p l e R s m args below meth c H locs cells slots Q (F0 m 133 ls []) := by
  intro l1 l2 l3 l4 l5 l6 l8 l9 l10 x H locs ls fl1 hw hW hS hl
  unfold j_Mod_readOne_133 at hw
  refine lv_iload hx hb d_Mod_readOne_133 (lv_at hl 9 rfl) ?_
  refine lv_i2l hx hb d_Mod_readOne_135 rfl ?_
  refine lv_lload hx hb d_Mod_readOne_136 (lv_at hl 6 rfl) ?_
  refine W.lcmp hx hb d_Mod_readOne_138 ?_
  refine lv_if_ge (tgt := 156) hx hb d_Mod_readOne_139 (by decide) (fun c1156 => ?_) (fun c1156 => ?_)
  · have hw := hw.1 c1156
    refine lv_iload_n hx hb d_Mod_readOne_156 rfl (lv_at hl 2 rfl) ?_
    refine lv_lload hx hb d_Mod_readOne_157 (lv_at hl 6 rfl) ?_
    refine lv_l2i hx hb d_Mod_readOne_159 rfl ?_
    refine lv_iadd hx hb d_Mod_readOne_160 ?_
    exact hret (l2 + (l6 : Int64).toInt32) x H locs 161 ls d_Mod_readOne_161 hw hW hS
  · have hw := hw.2 c1156
    refine lv_aload_n hx hb d_Mod_readOne_142 rfl (lv_at hl 1 rfl) ?_
    refine lv_iload_n hx hb d_Mod_readOne_143 rfl (lv_at hl 2 rfl) ?_
    refine lv_iload hx hb d_Mod_readOne_144 (lv_at hl 9 rfl) ?_
    refine lv_iadd hx hb d_Mod_readOne_146 ?_
    refine lv_iload hx hb d_Mod_readOne_147 (lv_at hl 8 rfl) ?_
    obtain ⟨hi, hw⟩ := hw
    refine w_iast (o := l1) hx hb hK hW hS fl1.1 fl1.2 hi d_Mod_readOne_149 (fun H locs hW hS => ?_)
    obtain ⟨x1157, ex1157⟩ : ∃ y : St, y = setA x l1 (l2 + l10) l9 := ⟨_, rfl⟩
    rw [← ex1157] at hW
    have hw := hw x1157 ex1157
    refine lv_iinc (v := (l10 + 1)) (lv' := [(10, .int (l10 + 1)), (0, .ref (ad 0)), (1, .ref (ad l1)), (2, .int l2), (3, .int l3), (4, .int l4), (5, .int l5), (6, .long l6), (8, .int l8), (9, .int l9)]) hx hb d_Mod_readOne_150 hl (k := 9) rfl rfl (by decide) rfl (fun ls hl => ?_)
    refine lv_goto (tgt := 133) hx hb d_Mod_readOne_153 (by decide) ?_
    exact hrec133 l1 l2 l3 l4 l5 l6 l8 l9 (l10 + 1) x1157 H locs ls fl1 hw hW hS (lv_sub hl [1, 2, 3, 4, 5, 6, 7, 8, 9, 0] rfl)
set_option maxHeartbeats 4000000 in
set_option maxRecDepth 100000 in
theorem tl_Mod_readOne_133 {p : Program} {l : Launch} {e : Env} {R : Room} {s : State} {m : MethodId} {args : Array Value} {below : List Frame} {meth : Method} {c : Code} {cells slots : Nat} {Q : State → Prop} {dC : Nat → ClassId} {dI : Nat → Nat → Nat} {cI cB cJ cZ : ClassId} {A : Nat → Prop} {ad : Nat → Nat} {post : Int32 → St → Prop} (hx : p.tables.exec = Jvm.exec) (hb : c.code = b_Mod_readOne) (hml : c.maxLocals = 11) (hown : s.vm.findClass R_Mod = some m.cls) (hT : ∀ w ∈ TG, w.before args s = true) (hK : va_K (dC, dI) CL (TY cI cB cJ cZ) s) (hN : NW s) (hA : ∀ q : Nat, s.heap.size ≤ q → A q) (hRc : cells ≤ R.cells) (hRs : slots ≤ R.slots) (hRf : 1 ≤ R.frames) (hRl : 25 ≤ R.locals) (hret : ∀ (r : Int32) (x : St) (H : Heap) (locs : List Loc) (pc : Nat) (ls : Array Slot), decode b_Mod_readOne pc = .ok (.ireturn, 1) → post r x → Wd dC dI cI cB cJ cZ ad stM kcM 115 A x H → va_S A s.heap H locs → W p l e R s m args below meth c H locs cells slots Q (F0 m pc ls [.int r]))  : ∀ n : Nat, ∀ (l1 : Nat) (l2 : Int32) (l3 : Int32) (l4 : Int32) (l5 : Int32) (l6 : Int64) (l8 : Int32) (l9 : Int32) (l10 : Int32) (x : St) (H : Heap) (locs : List Loc) (ls : Array Slot), (l1 < 115 ∧ kcM l1 = 20) → wl_Mod_readOne_133 post n l1 l2 l3 l4 l5 l6 l8 l9 l10 x → Wd dC dI cI cB cJ cZ ad stM kcM 115 A x H → va_S A s.heap H locs → lv_has ls 11 [(0, .ref (ad 0)), (1, .ref (ad l1)), (2, .int l2), (3, .int l3), (4, .int l4), (5, .int l5), (6, .long l6), (8, .int l8), (9, .int l9), (10, .int l10)] → W p l e R s m args below meth c H locs cells slots Q (F0 m 133 ls []) := by
  intro n
  induction n with
  | zero => intro l1 l2 l3 l4 l5 l6 l8 l9 l10 x H locs ls fl1 hw; exact hw.elim
  | succ n ih => intro l1 l2 l3 l4 l5 l6 l8 l9 l10 x H locs ls fl1 hw hW hS hl; exact t_Mod_readOne_133 hx hb hml hown hT hK hN hA hRc hRs hRf hRl hret  ih l1 l2 l3 l4 l5 l6 l8 l9 l10 x H locs ls fl1 hw hW hS hl
set_option maxRecDepth 100000 in
set_option maxHeartbeats 4000000 in
set_option maxRecDepth 100000 in
theorem t_Mod_readOne_113 {p : Program} {l : Launch} {e : Env} {R : Room} {s : State} {m : MethodId} {args : Array Value} {below : List Frame} {meth : Method} {c : Code} {cells slots : Nat} {Q : State → Prop} {dC : Nat → ClassId} {dI : Nat → Nat → Nat} {cI cB cJ cZ : ClassId} {A : Nat → Prop} {ad : Nat → Nat} {post : Int32 → St → Prop} {rec71 : Nat → Int32 → Int32 → Int32 → Int32 → Int64 → Int32 → Int32 → Int32 → St → Prop} (hx : p.tables.exec = Jvm.exec) (hb : c.code = b_Mod_readOne) (hml : c.maxLocals = 11) (hown : s.vm.findClass R_Mod = some m.cls) (hT : ∀ w ∈ TG, w.before args s = true) (hK : va_K (dC, dI) CL (TY cI cB cJ cZ) s) (hN : NW s) (hA : ∀ q : Nat, s.heap.size ≤ q → A q) (hRc : cells ≤ R.cells) (hRs : slots ≤ R.slots) (hRf : 1 ≤ R.frames) (hRl : 25 ≤ R.locals) (hret : ∀ (r : Int32) (x : St) (H : Heap) (locs : List Loc) (pc : Nat) (ls : Array Slot), decode b_Mod_readOne pc = .ok (.ireturn, 1) → post r x → Wd dC dI cI cB cJ cZ ad stM kcM 115 A x H → va_S A s.heap H locs → W p l e R s m args below meth c H locs cells slots Q (F0 m pc ls [.int r])) (hrec71 : ∀ (l1 : Nat) (l2 : Int32) (l3 : Int32) (l4 : Int32) (l5 : Int32) (l6 : Int64) (l8 : Int32) (l9 : Int32) (l10 : Int32) (x : St) (H : Heap) (locs : List Loc) (ls : Array Slot), (l1 < 115 ∧ kcM l1 = 20) → rec71 l1 l2 l3 l4 l5 l6 l8 l9 l10 x → Wd dC dI cI cB cJ cZ ad stM kcM 115 A x H → va_S A s.heap H locs → lv_has ls 11 [(0, .ref (ad 0)), (1, .ref (ad l1)), (2, .int l2), (3, .int l3), (4, .int l4), (5, .int l5), (6, .long l6), (8, .int l8), (9, .int l9), (10, .int l10)] → W p l e R s m args below meth c H locs cells slots Q (F0 m 71 ls [])) : ∀ (l1 : Nat) (l2 : Int32) (l3 : Int32) (l4 : Int32) (l5 : Int32) (l6 : Int64) (l8 : Int32) (l9 : Int32) (l10 : Int32) (x : St) (H : Heap) (locs : List Loc) (ls : Array Slot), (l1 < 115 ∧ kcM l1 = 20) → j_Mod_readOne_113 post rec71 l1 l2 l3 l4 l5 l6 l8 l9 l10 x → Wd dC dI cI cB cJ cZ ad stM kcM 115 A x H → va_S A s.heap H locs → lv_has ls 11 [(0, .ref (ad 0)), (1, .ref (ad l1)), (2, .int l2), (3, .int l3), (4, .int l4), (5, .int l5), (6, .long l6), (8, .int l8), (9, .int l9), (10, .int l10)] → W p l e R s m args below meth c H locs cells slots Q (F0 m 113 ls []) := by
  intro l1 l2 l3 l4 l5 l6 l8 l9 l10 x H locs ls fl1 hw hW hS hl
  unfold j_Mod_readOne_113 at hw
  refine lv_iinc (v := (l10 + 1)) (lv' := [(10, .int (l10 + 1)), (0, .ref (ad 0)), (1, .ref (ad l1)), (2, .int l2), (3, .int l3), (4, .int l4), (5, .int l5), (6, .long l6), (8, .int l8), (9, .int l9)]) hx hb d_Mod_readOne_113 hl (k := 9) rfl rfl (by decide) rfl (fun ls hl => ?_)
  refine lv_goto (tgt := 71) hx hb d_Mod_readOne_116 (by decide) ?_
  exact hrec71 l1 l2 l3 l4 l5 l6 l8 l9 (l10 + 1) x H locs ls fl1 hw hW hS (lv_sub hl [1, 2, 3, 4, 5, 6, 7, 8, 9, 0] rfl)
set_option maxRecDepth 100000 in
set_option maxHeartbeats 4000000 in
set_option maxRecDepth 100000 in
theorem t_Mod_readOne_71 {p : Program} {l : Launch} {e : Env} {R : Room} {s : State} {m : MethodId} {args : Array Value} {below : List Frame} {meth : Method} {c : Code} {cells slots : Nat} {Q : State → Prop} {dC : Nat → ClassId} {dI : Nat → Nat → Nat} {cI cB cJ cZ : ClassId} {A : Nat → Prop} {ad : Nat → Nat} {post : Int32 → St → Prop} {rec71 : Nat → Int32 → Int32 → Int32 → Int32 → Int64 → Int32 → Int32 → Int32 → St → Prop} (hx : p.tables.exec = Jvm.exec) (hb : c.code = b_Mod_readOne) (hml : c.maxLocals = 11) (hown : s.vm.findClass R_Mod = some m.cls) (hT : ∀ w ∈ TG, w.before args s = true) (hK : va_K (dC, dI) CL (TY cI cB cJ cZ) s) (hN : NW s) (hA : ∀ q : Nat, s.heap.size ≤ q → A q) (hRc : cells ≤ R.cells) (hRs : slots ≤ R.slots) (hRf : 1 ≤ R.frames) (hRl : 25 ≤ R.locals) (hret : ∀ (r : Int32) (x : St) (H : Heap) (locs : List Loc) (pc : Nat) (ls : Array Slot), decode b_Mod_readOne pc = .ok (.ireturn, 1) → post r x → Wd dC dI cI cB cJ cZ ad stM kcM 115 A x H → va_S A s.heap H locs → W p l e R s m args below meth c H locs cells slots Q (F0 m pc ls [.int r])) (hrec71 : ∀ (l1 : Nat) (l2 : Int32) (l3 : Int32) (l4 : Int32) (l5 : Int32) (l6 : Int64) (l8 : Int32) (l9 : Int32) (l10 : Int32) (x : St) (H : Heap) (locs : List Loc) (ls : Array Slot), (l1 < 115 ∧ kcM l1 = 20) → rec71 l1 l2 l3 l4 l5 l6 l8 l9 l10 x → Wd dC dI cI cB cJ cZ ad stM kcM 115 A x H → va_S A s.heap H locs → lv_has ls 11 [(0, .ref (ad 0)), (1, .ref (ad l1)), (2, .int l2), (3, .int l3), (4, .int l4), (5, .int l5), (6, .long l6), (8, .int l8), (9, .int l9), (10, .int l10)] → W p l e R s m args below meth c H locs cells slots Q (F0 m 71 ls [])) : ∀ (l1 : Nat) (l2 : Int32) (l3 : Int32) (l4 : Int32) (l5 : Int32) (l6 : Int64) (l8 : Int32) (l9 : Int32) (l10 : Int32) (x : St) (H : Heap) (locs : List Loc) (ls : Array Slot), (l1 < 115 ∧ kcM l1 = 20) → j_Mod_readOne_71 post rec71 l1 l2 l3 l4 l5 l6 l8 l9 l10 x → Wd dC dI cI cB cJ cZ ad stM kcM 115 A x H → va_S A s.heap H locs → lv_has ls 11 [(0, .ref (ad 0)), (1, .ref (ad l1)), (2, .int l2), (3, .int l3), (4, .int l4), (5, .int l5), (6, .long l6), (8, .int l8), (9, .int l9), (10, .int l10)] → W p l e R s m args below meth c H locs cells slots Q (F0 m 71 ls []) := by
  intro l1 l2 l3 l4 l5 l6 l8 l9 l10 x H locs ls fl1 hw hW hS hl
  unfold j_Mod_readOne_71 at hw
  refine lv_iload hx hb d_Mod_readOne_71 (lv_at hl 9 rfl) ?_
  refine lv_bipush (v := 8) hx hb d_Mod_readOne_73 (by decide) ?_
  refine lv_iload hx hb d_Mod_readOne_75 (lv_at hl 7 rfl) ?_
  refine lv_imul hx hb d_Mod_readOne_77 ?_
  refine lv_icmp_ge (tgt := 119) hx hb d_Mod_readOne_78 (by decide) (fun c1158 => ?_) (fun c1158 => ?_)
  · have hw := hw.1 c1158
    refine lv_aload_n hx hb d_Mod_readOne_119 rfl (lv_at hl 0 rfl) ?_
    refine lv_dup hx hb d_Mod_readOne_120 rfl ?_
    refine w_geti (k := 67) (t := 12) (C := R_Mod) (T := F_Mod) (N := 167) hx hb hT hown hK hW ko_0.1 ko_0.2 (by decide) in_Mod rfl rfl (by decide) rfl fr_Mod_67 w_9_3 d_Mod_readOne_121 ?_
    refine lv_iload hx hb d_Mod_readOne_124 (lv_at hl 7 rfl) ?_
    refine lv_iadd hx hb d_Mod_readOne_126 ?_
    refine w_puti (ty := .int) (k := 67) (t := 12) (C := R_Mod) (T := F_Mod) (N := 167) hx hb hT hown hK hW hS ko_0.1 ko_0.2 (by decide) in_Mod t_Mod t_Mod_ok n_Mod rfl rfl (by decide) rfl fr_Mod_67 w_9_3 (by decide +kernel) rfl rfl d_Mod_readOne_127 (fun H locs hW hS => ?_)
    obtain ⟨x1159, ex1159⟩ : ∃ y : St, y = setI x 0 67 ((fI x 0 67) + l8) := ⟨_, rfl⟩
    rw [← ex1159] at hW
    have hw := hw x1159 ex1159
    refine lv_iconst (v := 0) hx hb d_Mod_readOne_130 (by decide) ?_
    refine lv_istore (lv' := [(10, .int 0), (0, .ref (ad 0)), (1, .ref (ad l1)), (2, .int l2), (3, .int l3), (4, .int l4), (5, .int l5), (6, .long l6), (8, .int l8), (9, .int l9)]) hx hb d_Mod_readOne_131 hl (by decide) rfl (fun ls hl => ?_)
    obtain ⟨n, hw⟩ := hw
    exact tl_Mod_readOne_133 hx hb hml hown hT hK hN hA hRc hRs hRf hRl hret  n l1 l2 l3 l4 l5 l6 l8 l9 0 x1159 H locs ls fl1 hw hW hS (lv_sub hl [1, 2, 3, 4, 5, 6, 7, 8, 9, 0] rfl)
  · have hw := hw.2 c1158
    refine lv_aload_n hx hb d_Mod_readOne_81 rfl (lv_at hl 0 rfl) ?_
    refine w_getf (q := 41) (k := 62) (t := 12) (C := R_Mod) (T := F_Mod) (N := 167) hx hb hT hown hK hW ko_0.1 ko_0.2 (by decide) in_Mod rfl rfl (by decide) rfl fr_Mod_62 w_8_238 d_Mod_readOne_82 rfl ?_
    refine lv_aload_n hx hb d_Mod_readOne_85 rfl (lv_at hl 0 rfl) ?_
    refine w_geti (k := 67) (t := 12) (C := R_Mod) (T := F_Mod) (N := 167) hx hb hT hown hK hW ko_0.1 ko_0.2 (by decide) in_Mod rfl rfl (by decide) rfl fr_Mod_67 w_9_3 d_Mod_readOne_86 ?_
    refine lv_iload hx hb d_Mod_readOne_89 (lv_at hl 9 rfl) ?_
    refine lv_bipush (v := 8) hx hb d_Mod_readOne_91 (by decide) ?_
    refine lv_idiv hx hb d_Mod_readOne_93 (by decide) ?_
    refine lv_iadd hx hb d_Mod_readOne_94 ?_
    obtain ⟨hi, hw⟩ := hw
    refine w_iald (o := 41) hx hb hK hW ko_41.1 ko_41.2 hi d_Mod_readOne_95 ?_
    refine lv_iload hx hb d_Mod_readOne_96 (lv_at hl 9 rfl) ?_
    refine lv_bipush (v := 8) hx hb d_Mod_readOne_98 (by decide) ?_
    refine lv_irem hx hb d_Mod_readOne_100 (by decide) ?_
    refine lv_ishr hx hb d_Mod_readOne_101 ?_
    refine lv_iconst (v := 1) hx hb d_Mod_readOne_102 (by decide) ?_
    refine lv_iand hx hb d_Mod_readOne_103 ?_
    refine lv_iconst (v := 1) hx hb d_Mod_readOne_104 (by decide) ?_
    refine lv_icmp_ne (tgt := 113) hx hb d_Mod_readOne_105 (by decide) (fun c1160 => ?_) (fun c1160 => ?_)
    · have hw := hw.1 c1160
      exact t_Mod_readOne_113 hx hb hml hown hT hK hN hA hRc hRs hRf hRl hret hrec71 l1 l2 l3 l4 l5 l6 l8 l9 l10 x H locs ls fl1 hw hW hS (lv_sub hl [0, 1, 2, 3, 4, 5, 6, 7, 8, 9] rfl)
    · have hw := hw.2 c1160
      refine lv_aload_n hx hb d_Mod_readOne_108 rfl (lv_at hl 0 rfl) ?_
      refine lv_iconst (v := 5) hx hb d_Mod_readOne_109 (by decide) ?_
      refine w_puti (ty := .int) (k := 69) (t := 12) (C := R_Mod) (T := F_Mod) (N := 167) hx hb hT hown hK hW hS ko_0.1 ko_0.2 (by decide) in_Mod t_Mod t_Mod_ok n_Mod rfl rfl (by decide) rfl fr_Mod_69 w_9_5 (by decide +kernel) rfl rfl d_Mod_readOne_110 (fun H locs hW hS => ?_)
      obtain ⟨x1161, ex1161⟩ : ∃ y : St, y = setI x 0 69 5 := ⟨_, rfl⟩
      rw [← ex1161] at hW
      have hw := hw x1161 ex1161
      exact t_Mod_readOne_113 hx hb hml hown hT hK hN hA hRc hRs hRf hRl hret hrec71 l1 l2 l3 l4 l5 l6 l8 l9 l10 x1161 H locs ls fl1 hw hW hS (lv_sub hl [0, 1, 2, 3, 4, 5, 6, 7, 8, 9] rfl)
set_option maxHeartbeats 4000000 in
set_option maxRecDepth 100000 in
theorem tl_Mod_readOne_71 {p : Program} {l : Launch} {e : Env} {R : Room} {s : State} {m : MethodId} {args : Array Value} {below : List Frame} {meth : Method} {c : Code} {cells slots : Nat} {Q : State → Prop} {dC : Nat → ClassId} {dI : Nat → Nat → Nat} {cI cB cJ cZ : ClassId} {A : Nat → Prop} {ad : Nat → Nat} {post : Int32 → St → Prop} (hx : p.tables.exec = Jvm.exec) (hb : c.code = b_Mod_readOne) (hml : c.maxLocals = 11) (hown : s.vm.findClass R_Mod = some m.cls) (hT : ∀ w ∈ TG, w.before args s = true) (hK : va_K (dC, dI) CL (TY cI cB cJ cZ) s) (hN : NW s) (hA : ∀ q : Nat, s.heap.size ≤ q → A q) (hRc : cells ≤ R.cells) (hRs : slots ≤ R.slots) (hRf : 1 ≤ R.frames) (hRl : 25 ≤ R.locals) (hret : ∀ (r : Int32) (x : St) (H : Heap) (locs : List Loc) (pc : Nat) (ls : Array Slot), decode b_Mod_readOne pc = .ok (.ireturn, 1) → post r x → Wd dC dI cI cB cJ cZ ad stM kcM 115 A x H → va_S A s.heap H locs → W p l e R s m args below meth c H locs cells slots Q (F0 m pc ls [.int r]))  : ∀ n : Nat, ∀ (l1 : Nat) (l2 : Int32) (l3 : Int32) (l4 : Int32) (l5 : Int32) (l6 : Int64) (l8 : Int32) (l9 : Int32) (l10 : Int32) (x : St) (H : Heap) (locs : List Loc) (ls : Array Slot), (l1 < 115 ∧ kcM l1 = 20) → wl_Mod_readOne_71 post n l1 l2 l3 l4 l5 l6 l8 l9 l10 x → Wd dC dI cI cB cJ cZ ad stM kcM 115 A x H → va_S A s.heap H locs → lv_has ls 11 [(0, .ref (ad 0)), (1, .ref (ad l1)), (2, .int l2), (3, .int l3), (4, .int l4), (5, .int l5), (6, .long l6), (8, .int l8), (9, .int l9), (10, .int l10)] → W p l e R s m args below meth c H locs cells slots Q (F0 m 71 ls []) := by
  intro n
  induction n with
  | zero => intro l1 l2 l3 l4 l5 l6 l8 l9 l10 x H locs ls fl1 hw; exact hw.elim
  | succ n ih => intro l1 l2 l3 l4 l5 l6 l8 l9 l10 x H locs ls fl1 hw hW hS hl; exact t_Mod_readOne_71 hx hb hml hown hT hK hN hA hRc hRs hRf hRl hret  ih l1 l2 l3 l4 l5 l6 l8 l9 l10 x H locs ls fl1 hw hW hS hl
set_option maxRecDepth 100000 in
set_option maxHeartbeats 4000000 in
set_option maxRecDepth 100000 in
theorem t_Mod_readOne_45 {p : Program} {l : Launch} {e : Env} {R : Room} {s : State} {m : MethodId} {args : Array Value} {below : List Frame} {meth : Method} {c : Code} {cells slots : Nat} {Q : State → Prop} {dC : Nat → ClassId} {dI : Nat → Nat → Nat} {cI cB cJ cZ : ClassId} {A : Nat → Prop} {ad : Nat → Nat} {post : Int32 → St → Prop} (hx : p.tables.exec = Jvm.exec) (hb : c.code = b_Mod_readOne) (hml : c.maxLocals = 11) (hown : s.vm.findClass R_Mod = some m.cls) (hT : ∀ w ∈ TG, w.before args s = true) (hK : va_K (dC, dI) CL (TY cI cB cJ cZ) s) (hN : NW s) (hA : ∀ q : Nat, s.heap.size ≤ q → A q) (hRc : cells ≤ R.cells) (hRs : slots ≤ R.slots) (hRf : 1 ≤ R.frames) (hRl : 25 ≤ R.locals) (hret : ∀ (r : Int32) (x : St) (H : Heap) (locs : List Loc) (pc : Nat) (ls : Array Slot), decode b_Mod_readOne pc = .ok (.ireturn, 1) → post r x → Wd dC dI cI cB cJ cZ ad stM kcM 115 A x H → va_S A s.heap H locs → W p l e R s m args below meth c H locs cells slots Q (F0 m pc ls [.int r]))  : ∀ (l1 : Nat) (l2 : Int32) (l3 : Int32) (l4 : Int32) (l5 : Int32) (l6 : Int64) (l8 : Int32) (x : St) (H : Heap) (locs : List Loc) (ls : Array Slot), (l1 < 115 ∧ kcM l1 = 20) → j_Mod_readOne_45 post l1 l2 l3 l4 l5 l6 l8 x → Wd dC dI cI cB cJ cZ ad stM kcM 115 A x H → va_S A s.heap H locs → lv_has ls 11 [(0, .ref (ad 0)), (1, .ref (ad l1)), (2, .int l2), (3, .int l3), (4, .int l4), (5, .int l5), (6, .long l6), (8, .int l8)] → W p l e R s m args below meth c H locs cells slots Q (F0 m 45 ls []) := by
  intro l1 l2 l3 l4 l5 l6 l8 x H locs ls fl1 hw hW hS hl
  unfold j_Mod_readOne_45 at hw
  refine lv_aload_n hx hb d_Mod_readOne_45 rfl (lv_at hl 0 rfl) ?_
  refine w_geti (k := 69) (t := 12) (C := R_Mod) (T := F_Mod) (N := 167) hx hb hT hown hK hW ko_0.1 ko_0.2 (by decide) in_Mod rfl rfl (by decide) rfl fr_Mod_69 w_9_5 d_Mod_readOne_46 ?_
  refine lv_if_eq (tgt := 54) hx hb d_Mod_readOne_49 (by decide) (fun c1162 => ?_) (fun c1162 => ?_)
  · have hw := hw.1 c1162
    refine lv_aload_n hx hb d_Mod_readOne_54 rfl (lv_at hl 0 rfl) ?_
    refine lv_aload_n hx hb d_Mod_readOne_55 rfl (lv_at hl 0 rfl) ?_
    refine w_geti (k := 67) (t := 12) (C := R_Mod) (T := F_Mod) (N := 167) hx hb hT hown hK hW ko_0.1 ko_0.2 (by decide) in_Mod rfl rfl (by decide) rfl fr_Mod_67 w_9_3 d_Mod_readOne_56 ?_
    refine lv_iconst (v := 0) hx hb d_Mod_readOne_59 (by decide) ?_
    refine lv_iload hx hb d_Mod_readOne_60 (lv_at hl 4 rfl) ?_
    have hF := hW.free hS hA
    refine va_calli (va_runV (C := R_Mod) (As := [.int (fI x 0 67), .int 0, .int l4]) (rest := []) ⟨hx, hb, hml, hown, hT⟩ (k_Mod_bitsAt l dC dI cI cB cJ cZ ad H.size (fI x 0 67) 0 l4 x  hw) ⟨callB_of 3 hT (gwt_in w_12_189) rfl rfl rfl (hT _ w_1_15) (hT _ w_12_186) (by decide +kernel) ⟨Nat.le_trans (Nat.le_of_ble_eq_true rfl) hRf, Nat.le_trans (Nat.le_of_ble_eq_true rfl) hRl⟩, hT _ w_12_188, hT _ ws_201⟩ ⟨PW.blind, va_recv hK hW.1 (ci := 12) (q0 := 0) rfl (pic_obj ko_0.1 ko_0.2 (by decide)), PW.at _ hW hK hN⟩ rfl rfl hl.1 rfl (lv_room (Nat.le_of_ble_eq_true rfl)) d_Mod_readOne_62 ⟨hRc, hRs⟩) hS (fun q _ h => hF q h) hF (fun r1164 x1163 t H locs ht hvm hw hB hz1 hk1 hS => ?_)
    have hW := Wd.back hB ht hF
    clear hB ht hF hz1 hk1 hvm
    refine lv_istore (lv' := [(9, .int r1164), (0, .ref (ad 0)), (1, .ref (ad l1)), (2, .int l2), (3, .int l3), (4, .int l4), (5, .int l5), (6, .long l6), (8, .int l8)]) hx hb d_Mod_readOne_65 hl (by decide) rfl (fun ls hl => ?_)
    refine lv_iload hx hb d_Mod_readOne_67 (lv_at hl 5 rfl) ?_
    refine lv_istore (lv' := [(10, .int l4), (9, .int r1164), (0, .ref (ad 0)), (1, .ref (ad l1)), (2, .int l2), (3, .int l3), (4, .int l4), (5, .int l5), (6, .long l6), (8, .int l8)]) hx hb d_Mod_readOne_69 hl (by decide) rfl (fun ls hl => ?_)
    obtain ⟨n, hw⟩ := hw
    exact tl_Mod_readOne_71 hx hb hml hown hT hK hN hA hRc hRs hRf hRl hret  n l1 l2 l3 l4 l5 l6 l8 r1164 l4 x1163 H locs ls fl1 hw hW hS (lv_sub hl [2, 3, 4, 5, 6, 7, 8, 9, 1, 0] rfl)
  · have hw := hw.2 c1162
    refine lv_iload_n hx hb d_Mod_readOne_52 rfl (lv_at hl 2 rfl) ?_
    exact hret l2 x H locs 53 ls d_Mod_readOne_53 hw hW hS
set_option maxRecDepth 100000 in
set_option maxHeartbeats 4000000 in
set_option maxRecDepth 100000 in
theorem t_Mod_readOne_e {p : Program} {l : Launch} {e : Env} {R : Room} {s : State} {m : MethodId} {args : Array Value} {below : List Frame} {meth : Method} {c : Code} {cells slots : Nat} {Q : State → Prop} {dC : Nat → ClassId} {dI : Nat → Nat → Nat} {cI cB cJ cZ : ClassId} {A : Nat → Prop} {ad : Nat → Nat} {post : Int32 → St → Prop} (hx : p.tables.exec = Jvm.exec) (hb : c.code = b_Mod_readOne) (hml : c.maxLocals = 11) (hown : s.vm.findClass R_Mod = some m.cls) (hT : ∀ w ∈ TG, w.before args s = true) (hK : va_K (dC, dI) CL (TY cI cB cJ cZ) s) (hN : NW s) (hA : ∀ q : Nat, s.heap.size ≤ q → A q) (hRc : cells ≤ R.cells) (hRs : slots ≤ R.slots) (hRf : 1 ≤ R.frames) (hRl : 25 ≤ R.locals) (hret : ∀ (r : Int32) (x : St) (H : Heap) (locs : List Loc) (pc : Nat) (ls : Array Slot), decode b_Mod_readOne pc = .ok (.ireturn, 1) → post r x → Wd dC dI cI cB cJ cZ ad stM kcM 115 A x H → va_S A s.heap H locs → W p l e R s m args below meth c H locs cells slots Q (F0 m pc ls [.int r])) : ∀ (l1 : Nat) (l2 : Int32) (l3 : Int32) (l4 : Int32) (l5 : Int32) (l6 : Int64) (x : St) (H : Heap) (locs : List Loc) (ls : Array Slot), (l1 < 115 ∧ kcM l1 = 20) → wp_Mod_readOne post l1 l2 l3 l4 l5 l6 x → Wd dC dI cI cB cJ cZ ad stM kcM 115 A x H → va_S A s.heap H locs → lv_has ls 11 [(0, .ref (ad 0)), (1, .ref (ad l1)), (2, .int l2), (3, .int l3), (4, .int l4), (5, .int l5), (6, .long l6)] → W p l e R s m args below meth c H locs cells slots Q (F0 m 0 ls []) := by
  intro l1 l2 l3 l4 l5 l6 x H locs ls fl1 hw hW hS hl
  unfold wp_Mod_readOne at hw
  refine lv_iload hx hb d_Mod_readOne_0 (lv_at hl 4 rfl) ?_
  refine lv_bipush (v := 7) hx hb d_Mod_readOne_2 (by decide) ?_
  refine lv_iadd hx hb d_Mod_readOne_4 ?_
  refine lv_bipush (v := 8) hx hb d_Mod_readOne_5 (by decide) ?_
  refine lv_idiv hx hb d_Mod_readOne_7 (by decide) ?_
  refine lv_topi (fun v1165 ev1165 => ?_)
  have hw := hw v1165 ev1165
  refine lv_istore (lv' := [(8, .int v1165), (0, .ref (ad 0)), (1, .ref (ad l1)), (2, .int l2), (3, .int l3), (4, .int l4), (5, .int l5), (6, .long l6)]) hx hb d_Mod_readOne_8 hl (by decide) rfl (fun ls hl => ?_)
  refine lv_lload hx hb d_Mod_readOne_10 (lv_at hl 7 rfl) ?_
  refine lv_iload_n hx hb d_Mod_readOne_12 rfl (lv_at hl 4 rfl) ?_
  refine lv_iload_n hx hb d_Mod_readOne_13 rfl (lv_at hl 3 rfl) ?_
  refine lv_isub hx hb d_Mod_readOne_14 ?_
  refine lv_i2l hx hb d_Mod_readOne_15 rfl ?_
  refine W.lcmp hx hb d_Mod_readOne_16 ?_
  refine lv_if_le (tgt := 28) hx hb d_Mod_readOne_17 (by decide) (fun c1166 => ?_) (fun c1166 => ?_)
  · have hw := hw.1 c1166
    refine lv_iload hx hb d_Mod_readOne_28 (lv_at hl 6 rfl) ?_
    refine lv_aload_n hx hb d_Mod_readOne_30 rfl (lv_at hl 1 rfl) ?_
    refine w_geti (k := 67) (t := 12) (C := R_Mod) (T := F_Mod) (N := 167) hx hb hT hown hK hW ko_0.1 ko_0.2 (by decide) in_Mod rfl rfl (by decide) rfl fr_Mod_67 w_9_3 d_Mod_readOne_31 ?_
    refine lv_isub hx hb d_Mod_readOne_34 ?_
    refine lv_iload hx hb d_Mod_readOne_35 (lv_at hl 0 rfl) ?_
    refine lv_icmp_ge (tgt := 45) hx hb d_Mod_readOne_37 (by decide) (fun c1167 => ?_) (fun c1167 => ?_)
    · have hw := hw.1 c1167
      exact t_Mod_readOne_45 hx hb hml hown hT hK hN hA hRc hRs hRf hRl hret  l1 l2 l3 l4 l5 l6 v1165 x H locs ls fl1 hw hW hS (lv_sub hl [1, 2, 3, 4, 5, 6, 7, 0] rfl)
    · have hw := hw.2 c1167
      refine lv_aload_n hx hb d_Mod_readOne_40 rfl (lv_at hl 1 rfl) ?_
      refine lv_iconst (v := 1) hx hb d_Mod_readOne_41 (by decide) ?_
      refine w_puti (ty := .int) (k := 69) (t := 12) (C := R_Mod) (T := F_Mod) (N := 167) hx hb hT hown hK hW hS ko_0.1 ko_0.2 (by decide) in_Mod t_Mod t_Mod_ok n_Mod rfl rfl (by decide) rfl fr_Mod_69 w_9_5 (by decide +kernel) rfl rfl d_Mod_readOne_42 (fun H locs hW hS => ?_)
      obtain ⟨x1168, ex1168⟩ : ∃ y : St, y = setI x 0 69 1 := ⟨_, rfl⟩
      rw [← ex1168] at hW
      have hw := hw x1168 ex1168
      exact t_Mod_readOne_45 hx hb hml hown hT hK hN hA hRc hRs hRf hRl hret  l1 l2 l3 l4 l5 l6 v1165 x1168 H locs ls fl1 hw hW hS (lv_sub hl [1, 2, 3, 4, 5, 6, 7, 0] rfl)
  · have hw := hw.2 c1166
    refine lv_aload_n hx hb d_Mod_readOne_20 rfl (lv_at hl 1 rfl) ?_
    refine lv_iconst (v := 4) hx hb d_Mod_readOne_21 (by decide) ?_
    refine w_puti (ty := .int) (k := 69) (t := 12) (C := R_Mod) (T := F_Mod) (N := 167) hx hb hT hown hK hW hS ko_0.1 ko_0.2 (by decide) in_Mod t_Mod t_Mod_ok n_Mod rfl rfl (by decide) rfl fr_Mod_69 w_9_5 (by decide +kernel) rfl rfl d_Mod_readOne_22 (fun H locs hW hS => ?_)
    obtain ⟨x1169, ex1169⟩ : ∃ y : St, y = setI x 0 69 4 := ⟨_, rfl⟩
    rw [← ex1169] at hW
    have hw := hw x1169 ex1169
    refine lv_goto (tgt := 45) hx hb d_Mod_readOne_25 (by decide) ?_
    exact t_Mod_readOne_45 hx hb hml hown hT hK hN hA hRc hRs hRf hRl hret  l1 l2 l3 l4 l5 l6 v1165 x1169 H locs ls fl1 hw hW hS (lv_sub hl [1, 2, 3, 4, 5, 6, 7, 0] rfl)
set_option maxHeartbeats 4000000 in
set_option maxRecDepth 100000 in
theorem k_Mod_readOne (l : Launch) (dC : Nat → ClassId) (dI : Nat → Nat → Nat) (cI cB cJ cZ : ClassId) (ad : Nat → Nat) (sz : Nat) (l1 : Nat) (l2 : Int32) (l3 : Int32) (l4 : Int32) (l5 : Int32) (l6 : Int64) (x : St) (fl1 : l1 < 115 ∧ kcM l1 = 20) {post : Int32 → St → Prop} (hw : wp_Mod_readOne post l1 l2 l3 l4 l5 l6 x) : Met l y_Mod_readOne (wsOf y_Mod_readOne b_Mod_readOne 11 (some (.int))) ({ frames := 1, cells := 0, slots := 0, locals := 25 }) (va_Pc [.ref (ad 0), .ref (ad l1), .int l2, .int l3, .int l4, .int l5, .long l6] (PW dC dI cI cB cJ cZ ad stM kcM 115 sz x)) (va_Qi (fun (r : Int32) (y : St) => post r y) (fun y t => Wd dC dI cI cB cJ cZ ad stM kcM 115 (va_A (pic ad stM kcM 115 cI cB cJ cZ x) sz) y t.heap) (va_A (pic ad stM kcM 115 cI cB cJ cZ x) sz)) 0 0 (va_A (pic ad stM kcM 115 cI cB cJ cZ x) sz) := by
  refine Met.ofW (cc := b_Mod_readOne) (maxL := 11) (ret := some (.int)) (by decide) rfl ?_
  intro p e s m args below meth c s₁ B hml hv
  obtain ⟨rfl, hsz, hW0, hK, hN⟩ := hv
  have hx := B.exec
  have hb := B.bytes
  have hr := B.returns
  have hts := atoms_spec B.pre
  have hT : ∀ w ∈ TG, w.before _ s = true := fun w h => hts w (List.mem_cons_of_mem _ h)
  have hown : s.vm.findClass R_Mod = some m.cls := findClass_of_methodNamed B.named
  have hlocks := B.notSynchronized
  subst hsz
  have hW : Wd dC dI cI cB cJ cZ ad stM kcM 115 (va_A (pic ad stM kcM 115 cI cB cJ cZ x) s.heap.size) x s.heap := ⟨hW0.1, hW0.2.1.self (sz := s.heap.size), hW0.2.2⟩
  generalize hAe : va_A (pic ad stM kcM 115 cI cB cJ cZ x) s.heap.size = A at hW ⊢
  have hA : ∀ q : Nat, s.heap.size ≤ q → A q := fun q h => by rw [← hAe]; exact Or.inr h
  have hS : va_S A s.heap s.heap [] := va_S.rf
  have hl := lv_entry ([.ref (ad 0), .ref (ad l1), .int l2, .int l3, .int l4, .int l5, .long l6]) (n := 11) (Nat.le_of_ble_eq_true rfl)
  rw [lg_entry_eq]
  generalize (lg_sl ([.ref (ad 0), .ref (ad l1), .int l2, .int l3, .int l4, .int l5, .long l6]) ++ List.replicate (11 - (lg_sl ([.ref (ad 0), .ref (ad l1), .int l2, .int l3, .int l4, .int l5, .long l6])).length) Slot.unset).toArray = ls at hl ⊢
  have hl : lv_has ls 11 [(0, .ref (ad 0)), (1, .ref (ad l1)), (2, .int l2), (3, .int l3), (4, .int l4), (5, .int l5), (6, .long l6)] := hl
  exact t_Mod_readOne_e hx hb hml hown hT hK hN hA (Nat.le_refl 0) (Nat.le_refl 0) (Nat.le_refl 1) (Nat.le_refl 25) (fun r x H locs pc ls hd hp hW hS => W.iret (v := r) hx hb hr (fun t ht hM => ⟨⟨r, x, rfl, hp, Wd.back hW ht.symm (fun _ z => z)⟩, hS.F ht⟩) hS.2.2 hd hlocks)  l1 l2 l3 l4 l5 l6 x _ _ ls fl1 hw hW hS hl
set_option maxRecDepth 100000 in
set_option maxHeartbeats 4000000 in
set_option maxRecDepth 100000 in
theorem t_Mod_readGroups_118 {p : Program} {l : Launch} {e : Env} {R : Room} {s : State} {m : MethodId} {args : Array Value} {below : List Frame} {meth : Method} {c : Code} {cells slots : Nat} {Q : State → Prop} {dC : Nat → ClassId} {dI : Nat → Nat → Nat} {cI cB cJ cZ : ClassId} {A : Nat → Prop} {ad : Nat → Nat} {post : Int32 → St → Prop} {rec59 : Nat → Int32 → Int32 → Int32 → Int32 → Int64 → Int32 → St → Prop} (hx : p.tables.exec = Jvm.exec) (hb : c.code = b_Mod_readGroups) (hml : c.maxLocals = 10) (hown : s.vm.findClass R_Mod = some m.cls) (hT : ∀ w ∈ TG, w.before args s = true) (hK : va_K (dC, dI) CL (TY cI cB cJ cZ) s) (hN : NW s) (hA : ∀ q : Nat, s.heap.size ≤ q → A q) (hRc : cells ≤ R.cells) (hRs : slots ≤ R.slots) (hRf : 1 ≤ R.frames) (hRl : 25 ≤ R.locals) (hret : ∀ (r : Int32) (x : St) (H : Heap) (locs : List Loc) (pc : Nat) (ls : Array Slot), decode b_Mod_readGroups pc = .ok (.ireturn, 1) → post r x → Wd dC dI cI cB cJ cZ ad stM kcM 115 A x H → va_S A s.heap H locs → W p l e R s m args below meth c H locs cells slots Q (F0 m pc ls [.int r])) (hrec59 : ∀ (l1 : Nat) (l2 : Int32) (l3 : Int32) (l4 : Int32) (l5 : Int32) (l6 : Int64) (l8 : Int32) (x : St) (H : Heap) (locs : List Loc) (ls : Array Slot), (l1 < 115 ∧ kcM l1 = 20) → rec59 l1 l2 l3 l4 l5 l6 l8 x → Wd dC dI cI cB cJ cZ ad stM kcM 115 A x H → va_S A s.heap H locs → lv_has ls 10 [(0, .ref (ad 0)), (1, .ref (ad l1)), (2, .int l2), (3, .int l3), (4, .int l4), (5, .int l5), (6, .long l6), (8, .int l8)] → W p l e R s m args below meth c H locs cells slots Q (F0 m 59 ls [])) : ∀ (l1 : Nat) (l2 : Int32) (l3 : Int32) (l4 : Int32) (l5 : Int32) (l6 : Int64) (l8 : Int32) (l9 : Int32) (x : St) (H : Heap) (locs : List Loc) (ls : Array Slot), (l1 < 115 ∧ kcM l1 = 20) → j_Mod_readGroups_118 post rec59 l1 l2 l3 l4 l5 l6 l8 l9 x → Wd dC dI cI cB cJ cZ ad stM kcM 115 A x H → va_S A s.heap H locs → lv_has ls 10 [(0, .ref (ad 0)), (1, .ref (ad l1)), (2, .int l2), (3, .int l3), (4, .int l4), (5, .int l5), (6, .long l6), (8, .int l8), (9, .int l9)] → W p l e R s m args below meth c H locs cells slots Q (F0 m 118 ls []) := by
  intro l1 l2 l3 l4 l5 l6 l8 l9 x H locs ls fl1 hw hW hS hl
  unfold j_Mod_readGroups_118 at hw
  refine lv_iinc (v := (l8 + 1)) (lv' := [(8, .int (l8 + 1)), (0, .ref (ad 0)), (1, .ref (ad l1)), (2, .int l2), (3, .int l3), (4, .int l4), (5, .int l5), (6, .long l6), (9, .int l9)]) hx hb d_Mod_readGroups_118 hl (k := 7) rfl rfl (by decide) rfl (fun ls hl => ?_)
  refine lv_goto (tgt := 59) hx hb d_Mod_readGroups_121 (by decide) ?_
  exact hrec59 l1 l2 l3 l4 l5 l6 (l8 + 1) x H locs ls fl1 hw hW hS (lv_sub hl [1, 2, 3, 4, 5, 6, 7, 0] rfl)
set_option maxRecDepth 100000 in
set_option maxHeartbeats 4000000 in
set_option maxRecDepth 100000 in
theorem t_Mod_readGroups_59 {p : Program} {l : Launch} {e : Env} {R : Room} {s : State} {m : MethodId} {args : Array Value} {below : List Frame} {meth : Method} {c : Code} {cells slots : Nat} {Q : State → Prop} {dC : Nat → ClassId} {dI : Nat → Nat → Nat} {cI cB cJ cZ : ClassId} {A : Nat → Prop} {ad : Nat → Nat} {post : Int32 → St → Prop} {rec59 : Nat → Int32 → Int32 → Int32 → Int32 → Int64 → Int32 → St → Prop} (hx : p.tables.exec = Jvm.exec) (hb : c.code = b_Mod_readGroups) (hml : c.maxLocals = 10) (hown : s.vm.findClass R_Mod = some m.cls) (hT : ∀ w ∈ TG, w.before args s = true) (hK : va_K (dC, dI) CL (TY cI cB cJ cZ) s) (hN : NW s) (hA : ∀ q : Nat, s.heap.size ≤ q → A q) (hRc : cells ≤ R.cells) (hRs : slots ≤ R.slots) (hRf : 1 ≤ R.frames) (hRl : 25 ≤ R.locals) (hret : ∀ (r : Int32) (x : St) (H : Heap) (locs : List Loc) (pc : Nat) (ls : Array Slot), decode b_Mod_readGroups pc = .ok (.ireturn, 1) → post r x → Wd dC dI cI cB cJ cZ ad stM kcM 115 A x H → va_S A s.heap H locs → W p l e R s m args below meth c H locs cells slots Q (F0 m pc ls [.int r])) (hrec59 : ∀ (l1 : Nat) (l2 : Int32) (l3 : Int32) (l4 : Int32) (l5 : Int32) (l6 : Int64) (l8 : Int32) (x : St) (H : Heap) (locs : List Loc) (ls : Array Slot), (l1 < 115 ∧ kcM l1 = 20) → rec59 l1 l2 l3 l4 l5 l6 l8 x → Wd dC dI cI cB cJ cZ ad stM kcM 115 A x H → va_S A s.heap H locs → lv_has ls 10 [(0, .ref (ad 0)), (1, .ref (ad l1)), (2, .int l2), (3, .int l3), (4, .int l4), (5, .int l5), (6, .long l6), (8, .int l8)] → W p l e R s m args below meth c H locs cells slots Q (F0 m 59 ls [])) : ∀ (l1 : Nat) (l2 : Int32) (l3 : Int32) (l4 : Int32) (l5 : Int32) (l6 : Int64) (l8 : Int32) (x : St) (H : Heap) (locs : List Loc) (ls : Array Slot), (l1 < 115 ∧ kcM l1 = 20) → j_Mod_readGroups_59 post rec59 l1 l2 l3 l4 l5 l6 l8 x → Wd dC dI cI cB cJ cZ ad stM kcM 115 A x H → va_S A s.heap H locs → lv_has ls 10 [(0, .ref (ad 0)), (1, .ref (ad l1)), (2, .int l2), (3, .int l3), (4, .int l4), (5, .int l5), (6, .long l6), (8, .int l8)] → W p l e R s m args below meth c H locs cells slots Q (F0 m 59 ls []) := by
  intro l1 l2 l3 l4 l5 l6 l8 x H locs ls fl1 hw hW hS hl
  unfold j_Mod_readGroups_59 at hw
  refine lv_iload hx hb d_Mod_readGroups_59 (lv_at hl 7 rfl) ?_
  refine lv_i2l hx hb d_Mod_readGroups_61 rfl ?_
  refine lv_ldc2 hx hb hown (hT _ w_12_194) d_Mod_readGroups_62 ?_
  refine lv_lload hx hb d_Mod_readGroups_65 (lv_at hl 6 rfl) ?_
  refine lv_lmul hx hb d_Mod_readGroups_67 ?_
  refine W.lcmp hx hb d_Mod_readGroups_68 ?_
  refine lv_if_ge (tgt := 124) hx hb d_Mod_readGroups_69 (by decide) (fun c1170 => ?_) (fun c1170 => ?_)
  · have hw := hw.1 c1170
    refine lv_aload_n hx hb d_Mod_readGroups_124 rfl (lv_at hl 0 rfl) ?_
    refine lv_dup hx hb d_Mod_readGroups_125 rfl ?_
    refine w_geti (k := 67) (t := 12) (C := R_Mod) (T := F_Mod) (N := 167) hx hb hT hown hK hW ko_0.1 ko_0.2 (by decide) in_Mod rfl rfl (by decide) rfl fr_Mod_67 w_9_3 d_Mod_readGroups_126 ?_
    refine lv_lload hx hb d_Mod_readGroups_129 (lv_at hl 6 rfl) ?_
    refine lv_l2i hx hb d_Mod_readGroups_131 rfl ?_
    refine lv_iload hx hb d_Mod_readGroups_132 (lv_at hl 4 rfl) ?_
    refine lv_imul hx hb d_Mod_readGroups_134 ?_
    refine lv_iadd hx hb d_Mod_readGroups_135 ?_
    refine w_puti (ty := .int) (k := 67) (t := 12) (C := R_Mod) (T := F_Mod) (N := 167) hx hb hT hown hK hW hS ko_0.1 ko_0.2 (by decide) in_Mod t_Mod t_Mod_ok n_Mod rfl rfl (by decide) rfl fr_Mod_67 w_9_3 (by decide +kernel) rfl rfl d_Mod_readGroups_136 (fun H locs hW hS => ?_)
    obtain ⟨x1171, ex1171⟩ : ∃ y : St, y = setI x 0 67 ((fI x 0 67) + ((l6 : Int64).toInt32 * l4)) := ⟨_, rfl⟩
    rw [← ex1171] at hW
    have hw := hw x1171 ex1171
    refine lv_iload_n hx hb d_Mod_readGroups_139 rfl (lv_at hl 2 rfl) ?_
    refine lv_bipush (v := 8) hx hb d_Mod_readGroups_140 (by decide) ?_
    refine lv_lload hx hb d_Mod_readGroups_142 (lv_at hl 6 rfl) ?_
    refine lv_l2i hx hb d_Mod_readGroups_144 rfl ?_
    refine lv_imul hx hb d_Mod_readGroups_145 ?_
    refine lv_iadd hx hb d_Mod_readGroups_146 ?_
    exact hret (l2 + (8 * (l6 : Int64).toInt32)) x1171 H locs 147 ls d_Mod_readGroups_147 hw hW hS
  · have hw := hw.2 c1170
    refine lv_aload_n hx hb d_Mod_readGroups_72 rfl (lv_at hl 0 rfl) ?_
    refine lv_aload_n hx hb d_Mod_readGroups_73 rfl (lv_at hl 0 rfl) ?_
    refine w_geti (k := 67) (t := 12) (C := R_Mod) (T := F_Mod) (N := 167) hx hb hT hown hK hW ko_0.1 ko_0.2 (by decide) in_Mod rfl rfl (by decide) rfl fr_Mod_67 w_9_3 d_Mod_readGroups_74 ?_
    refine lv_iload hx hb d_Mod_readGroups_77 (lv_at hl 4 rfl) ?_
    refine lv_iload hx hb d_Mod_readGroups_79 (lv_at hl 7 rfl) ?_
    refine lv_imul hx hb d_Mod_readGroups_81 ?_
    refine lv_iload hx hb d_Mod_readGroups_82 (lv_at hl 4 rfl) ?_
    have hF := hW.free hS hA
    refine va_calli (va_runV (C := R_Mod) (As := [.int (fI x 0 67), .int (l4 * l8), .int l4]) (rest := []) ⟨hx, hb, hml, hown, hT⟩ (k_Mod_bitsAt l dC dI cI cB cJ cZ ad H.size (fI x 0 67) (l4 * l8) l4 x  hw) ⟨callB_of 3 hT (gwt_in w_12_189) rfl rfl rfl (hT _ w_1_15) (hT _ w_12_186) (by decide +kernel) ⟨Nat.le_trans (Nat.le_of_ble_eq_true rfl) hRf, Nat.le_trans (Nat.le_of_ble_eq_true rfl) hRl⟩, hT _ w_12_188, hT _ ws_201⟩ ⟨PW.blind, va_recv hK hW.1 (ci := 12) (q0 := 0) rfl (pic_obj ko_0.1 ko_0.2 (by decide)), PW.at _ hW hK hN⟩ rfl rfl hl.1 rfl (lv_room (Nat.le_of_ble_eq_true rfl)) d_Mod_readGroups_84 ⟨hRc, hRs⟩) hS (fun q _ h => hF q h) hF (fun r1173 x1172 t H locs ht hvm hw hB hz1 hk1 hS => ?_)
    have hW := Wd.back hB ht hF
    clear hB ht hF hz1 hk1 hvm
    refine lv_istore (lv' := [(9, .int r1173), (0, .ref (ad 0)), (1, .ref (ad l1)), (2, .int l2), (3, .int l3), (4, .int l4), (5, .int l5), (6, .long l6), (8, .int l8)]) hx hb d_Mod_readGroups_87 hl (by decide) rfl (fun ls hl => ?_)
    refine lv_iload_n hx hb d_Mod_readGroups_89 rfl (lv_at hl 3 rfl) ?_
    refine lv_iload hx hb d_Mod_readGroups_90 (lv_at hl 8 rfl) ?_
    refine lv_iadd hx hb d_Mod_readGroups_92 ?_
    refine lv_iload_n hx hb d_Mod_readGroups_93 rfl (lv_at hl 4 rfl) ?_
    refine lv_icmp_ge (tgt := 108) hx hb d_Mod_readGroups_94 (by decide) (fun c1174 => ?_) (fun c1174 => ?_)
    · have hw := hw.1 c1174
      refine lv_iload hx hb d_Mod_readGroups_108 (lv_at hl 0 rfl) ?_
      refine lv_if_eq (tgt := 118) hx hb d_Mod_readGroups_110 (by decide) (fun c1175 => ?_) (fun c1175 => ?_)
      · have hw := hw.1 c1175
        exact t_Mod_readGroups_118 hx hb hml hown hT hK hN hA hRc hRs hRf hRl hret hrec59 l1 l2 l3 l4 l5 l6 l8 r1173 x1172 H locs ls fl1 hw hW hS (lv_sub hl [1, 2, 3, 4, 5, 6, 7, 8, 0] rfl)
      · have hw := hw.2 c1175
        refine lv_aload_n hx hb d_Mod_readGroups_113 rfl (lv_at hl 1 rfl) ?_
        refine lv_iconst (v := 5) hx hb d_Mod_readGroups_114 (by decide) ?_
        refine w_puti (ty := .int) (k := 69) (t := 12) (C := R_Mod) (T := F_Mod) (N := 167) hx hb hT hown hK hW hS ko_0.1 ko_0.2 (by decide) in_Mod t_Mod t_Mod_ok n_Mod rfl rfl (by decide) rfl fr_Mod_69 w_9_5 (by decide +kernel) rfl rfl d_Mod_readGroups_115 (fun H locs hW hS => ?_)
        obtain ⟨x1176, ex1176⟩ : ∃ y : St, y = setI x1172 0 69 5 := ⟨_, rfl⟩
        rw [← ex1176] at hW
        have hw := hw x1176 ex1176
        exact t_Mod_readGroups_118 hx hb hml hown hT hK hN hA hRc hRs hRf hRl hret hrec59 l1 l2 l3 l4 l5 l6 l8 r1173 x1176 H locs ls fl1 hw hW hS (lv_sub hl [1, 2, 3, 4, 5, 6, 7, 8, 0] rfl)
    · have hw := hw.2 c1174
      refine lv_aload_n hx hb d_Mod_readGroups_97 rfl (lv_at hl 2 rfl) ?_
      refine lv_iload_n hx hb d_Mod_readGroups_98 rfl (lv_at hl 3 rfl) ?_
      refine lv_iload hx hb d_Mod_readGroups_99 (lv_at hl 8 rfl) ?_
      refine lv_iadd hx hb d_Mod_readGroups_101 ?_
      refine lv_iload hx hb d_Mod_readGroups_102 (lv_at hl 0 rfl) ?_
      obtain ⟨hi, hw⟩ := hw
      refine w_iast (o := l1) hx hb hK hW hS fl1.1 fl1.2 hi d_Mod_readGroups_104 (fun H locs hW hS => ?_)
      obtain ⟨x1177, ex1177⟩ : ∃ y : St, y = setA x1172 l1 (l2 + l8) r1173 := ⟨_, rfl⟩
      rw [← ex1177] at hW
      have hw := hw x1177 ex1177
      refine lv_goto (tgt := 118) hx hb d_Mod_readGroups_105 (by decide) ?_
      exact t_Mod_readGroups_118 hx hb hml hown hT hK hN hA hRc hRs hRf hRl hret hrec59 l1 l2 l3 l4 l5 l6 l8 r1173 x1177 H locs ls fl1 hw hW hS (lv_sub hl [1, 2, 3, 4, 5, 6, 7, 8, 0] rfl)
set_option maxHeartbeats 4000000 in
set_option maxRecDepth 100000 in
theorem tl_Mod_readGroups_59 {p : Program} {l : Launch} {e : Env} {R : Room} {s : State} {m : MethodId} {args : Array Value} {below : List Frame} {meth : Method} {c : Code} {cells slots : Nat} {Q : State → Prop} {dC : Nat → ClassId} {dI : Nat → Nat → Nat} {cI cB cJ cZ : ClassId} {A : Nat → Prop} {ad : Nat → Nat} {post : Int32 → St → Prop} (hx : p.tables.exec = Jvm.exec) (hb : c.code = b_Mod_readGroups) (hml : c.maxLocals = 10) (hown : s.vm.findClass R_Mod = some m.cls) (hT : ∀ w ∈ TG, w.before args s = true) (hK : va_K (dC, dI) CL (TY cI cB cJ cZ) s) (hN : NW s) (hA : ∀ q : Nat, s.heap.size ≤ q → A q) (hRc : cells ≤ R.cells) (hRs : slots ≤ R.slots) (hRf : 1 ≤ R.frames) (hRl : 25 ≤ R.locals) (hret : ∀ (r : Int32) (x : St) (H : Heap) (locs : List Loc) (pc : Nat) (ls : Array Slot), decode b_Mod_readGroups pc = .ok (.ireturn, 1) → post r x → Wd dC dI cI cB cJ cZ ad stM kcM 115 A x H → va_S A s.heap H locs → W p l e R s m args below meth c H locs cells slots Q (F0 m pc ls [.int r]))  : ∀ n : Nat, ∀ (l1 : Nat) (l2 : Int32) (l3 : Int32) (l4 : Int32) (l5 : Int32) (l6 : Int64) (l8 : Int32) (x : St) (H : Heap) (locs : List Loc) (ls : Array Slot), (l1 < 115 ∧ kcM l1 = 20) → wl_Mod_readGroups_59 post n l1 l2 l3 l4 l5 l6 l8 x → Wd dC dI cI cB cJ cZ ad stM kcM 115 A x H → va_S A s.heap H locs → lv_has ls 10 [(0, .ref (ad 0)), (1, .ref (ad l1)), (2, .int l2), (3, .int l3), (4, .int l4), (5, .int l5), (6, .long l6), (8, .int l8)] → W p l e R s m args below meth c H locs cells slots Q (F0 m 59 ls []) := by
  intro n
  induction n with
  | zero => intro l1 l2 l3 l4 l5 l6 l8 x H locs ls fl1 hw; exact hw.elim
  | succ n ih => intro l1 l2 l3 l4 l5 l6 l8 x H locs ls fl1 hw hW hS hl; exact t_Mod_readGroups_59 hx hb hml hown hT hK hN hA hRc hRs hRf hRl hret  ih l1 l2 l3 l4 l5 l6 l8 x H locs ls fl1 hw hW hS hl
set_option maxRecDepth 100000 in
set_option maxHeartbeats 4000000 in
set_option maxRecDepth 100000 in
theorem t_Mod_readGroups_47 {p : Program} {l : Launch} {e : Env} {R : Room} {s : State} {m : MethodId} {args : Array Value} {below : List Frame} {meth : Method} {c : Code} {cells slots : Nat} {Q : State → Prop} {dC : Nat → ClassId} {dI : Nat → Nat → Nat} {cI cB cJ cZ : ClassId} {A : Nat → Prop} {ad : Nat → Nat} {post : Int32 → St → Prop} (hx : p.tables.exec = Jvm.exec) (hb : c.code = b_Mod_readGroups) (hml : c.maxLocals = 10) (hown : s.vm.findClass R_Mod = some m.cls) (hT : ∀ w ∈ TG, w.before args s = true) (hK : va_K (dC, dI) CL (TY cI cB cJ cZ) s) (hN : NW s) (hA : ∀ q : Nat, s.heap.size ≤ q → A q) (hRc : cells ≤ R.cells) (hRs : slots ≤ R.slots) (hRf : 1 ≤ R.frames) (hRl : 25 ≤ R.locals) (hret : ∀ (r : Int32) (x : St) (H : Heap) (locs : List Loc) (pc : Nat) (ls : Array Slot), decode b_Mod_readGroups pc = .ok (.ireturn, 1) → post r x → Wd dC dI cI cB cJ cZ ad stM kcM 115 A x H → va_S A s.heap H locs → W p l e R s m args below meth c H locs cells slots Q (F0 m pc ls [.int r]))  : ∀ (l1 : Nat) (l2 : Int32) (l3 : Int32) (l4 : Int32) (l5 : Int32) (l6 : Int64) (x : St) (H : Heap) (locs : List Loc) (ls : Array Slot), (l1 < 115 ∧ kcM l1 = 20) → j_Mod_readGroups_47 post l1 l2 l3 l4 l5 l6 x → Wd dC dI cI cB cJ cZ ad stM kcM 115 A x H → va_S A s.heap H locs → lv_has ls 10 [(0, .ref (ad 0)), (1, .ref (ad l1)), (2, .int l2), (3, .int l3), (4, .int l4), (5, .int l5), (6, .long l6)] → W p l e R s m args below meth c H locs cells slots Q (F0 m 47 ls []) := by
  intro l1 l2 l3 l4 l5 l6 x H locs ls fl1 hw hW hS hl
  unfold j_Mod_readGroups_47 at hw
  refine lv_aload_n hx hb d_Mod_readGroups_47 rfl (lv_at hl 0 rfl) ?_
  refine w_geti (k := 69) (t := 12) (C := R_Mod) (T := F_Mod) (N := 167) hx hb hT hown hK hW ko_0.1 ko_0.2 (by decide) in_Mod rfl rfl (by decide) rfl fr_Mod_69 w_9_5 d_Mod_readGroups_48 ?_
  refine lv_if_eq (tgt := 56) hx hb d_Mod_readGroups_51 (by decide) (fun c1178 => ?_) (fun c1178 => ?_)
  · have hw := hw.1 c1178
    refine lv_iconst (v := 0) hx hb d_Mod_readGroups_56 (by decide) ?_
    refine lv_istore (lv' := [(8, .int 0), (0, .ref (ad 0)), (1, .ref (ad l1)), (2, .int l2), (3, .int l3), (4, .int l4), (5, .int l5), (6, .long l6)]) hx hb d_Mod_readGroups_57 hl (by decide) rfl (fun ls hl => ?_)
    obtain ⟨n, hw⟩ := hw
    exact tl_Mod_readGroups_59 hx hb hml hown hT hK hN hA hRc hRs hRf hRl hret  n l1 l2 l3 l4 l5 l6 0 x H locs ls fl1 hw hW hS (lv_sub hl [1, 2, 3, 4, 5, 6, 7, 0] rfl)
  · have hw := hw.2 c1178
    refine lv_iload_n hx hb d_Mod_readGroups_54 rfl (lv_at hl 2 rfl) ?_
    exact hret l2 x H locs 55 ls d_Mod_readGroups_55 hw hW hS
set_option maxRecDepth 100000 in
set_option maxHeartbeats 4000000 in
set_option maxRecDepth 100000 in
theorem t_Mod_readGroups_e {p : Program} {l : Launch} {e : Env} {R : Room} {s : State} {m : MethodId} {args : Array Value} {below : List Frame} {meth : Method} {c : Code} {cells slots : Nat} {Q : State → Prop} {dC : Nat → ClassId} {dI : Nat → Nat → Nat} {cI cB cJ cZ : ClassId} {A : Nat → Prop} {ad : Nat → Nat} {post : Int32 → St → Prop} (hx : p.tables.exec = Jvm.exec) (hb : c.code = b_Mod_readGroups) (hml : c.maxLocals = 10) (hown : s.vm.findClass R_Mod = some m.cls) (hT : ∀ w ∈ TG, w.before args s = true) (hK : va_K (dC, dI) CL (TY cI cB cJ cZ) s) (hN : NW s) (hA : ∀ q : Nat, s.heap.size ≤ q → A q) (hRc : cells ≤ R.cells) (hRs : slots ≤ R.slots) (hRf : 1 ≤ R.frames) (hRl : 25 ≤ R.locals) (hret : ∀ (r : Int32) (x : St) (H : Heap) (locs : List Loc) (pc : Nat) (ls : Array Slot), decode b_Mod_readGroups pc = .ok (.ireturn, 1) → post r x → Wd dC dI cI cB cJ cZ ad stM kcM 115 A x H → va_S A s.heap H locs → W p l e R s m args below meth c H locs cells slots Q (F0 m pc ls [.int r])) : ∀ (l1 : Nat) (l2 : Int32) (l3 : Int32) (l4 : Int32) (l5 : Int32) (l6 : Int64) (x : St) (H : Heap) (locs : List Loc) (ls : Array Slot), (l1 < 115 ∧ kcM l1 = 20) → wp_Mod_readGroups post l1 l2 l3 l4 l5 l6 x → Wd dC dI cI cB cJ cZ ad stM kcM 115 A x H → va_S A s.heap H locs → lv_has ls 10 [(0, .ref (ad 0)), (1, .ref (ad l1)), (2, .int l2), (3, .int l3), (4, .int l4), (5, .int l5), (6, .long l6)] → W p l e R s m args below meth c H locs cells slots Q (F0 m 0 ls []) := by
  intro l1 l2 l3 l4 l5 l6 x H locs ls fl1 hw hW hS hl
  unfold wp_Mod_readGroups at hw
  refine lv_lload hx hb d_Mod_readGroups_0 (lv_at hl 6 rfl) ?_
  refine lv_iload_n hx hb d_Mod_readGroups_2 rfl (lv_at hl 3 rfl) ?_
  refine lv_iload_n hx hb d_Mod_readGroups_3 rfl (lv_at hl 2 rfl) ?_
  refine lv_isub hx hb d_Mod_readGroups_4 ?_
  refine lv_bipush (v := 7) hx hb d_Mod_readGroups_5 (by decide) ?_
  refine lv_iadd hx hb d_Mod_readGroups_7 ?_
  refine lv_bipush (v := 8) hx hb d_Mod_readGroups_8 (by decide) ?_
  refine lv_idiv hx hb d_Mod_readGroups_10 (by decide) ?_
  refine lv_i2l hx hb d_Mod_readGroups_11 rfl ?_
  refine W.lcmp hx hb d_Mod_readGroups_12 ?_
  refine lv_if_le (tgt := 24) hx hb d_Mod_readGroups_13 (by decide) (fun c1179 => ?_) (fun c1179 => ?_)
  · have hw := hw.1 c1179
    refine lv_iload hx hb d_Mod_readGroups_24 (lv_at hl 5 rfl) ?_
    refine lv_aload_n hx hb d_Mod_readGroups_26 rfl (lv_at hl 0 rfl) ?_
    refine w_geti (k := 67) (t := 12) (C := R_Mod) (T := F_Mod) (N := 167) hx hb hT hown hK hW ko_0.1 ko_0.2 (by decide) in_Mod rfl rfl (by decide) rfl fr_Mod_67 w_9_3 d_Mod_readGroups_27 ?_
    refine lv_isub hx hb d_Mod_readGroups_30 ?_
    refine lv_i2l hx hb d_Mod_readGroups_31 rfl ?_
    refine lv_lload hx hb d_Mod_readGroups_32 (lv_at hl 6 rfl) ?_
    refine lv_iload hx hb d_Mod_readGroups_34 (lv_at hl 4 rfl) ?_
    refine lv_i2l hx hb d_Mod_readGroups_36 rfl ?_
    refine lv_lmul hx hb d_Mod_readGroups_37 ?_
    refine W.lcmp hx hb d_Mod_readGroups_38 ?_
    refine lv_if_ge (tgt := 47) hx hb d_Mod_readGroups_39 (by decide) (fun c1180 => ?_) (fun c1180 => ?_)
    · have hw := hw.1 c1180
      exact t_Mod_readGroups_47 hx hb hml hown hT hK hN hA hRc hRs hRf hRl hret  l1 l2 l3 l4 l5 l6 x H locs ls fl1 hw hW hS (lv_sub hl [0, 1, 2, 3, 4, 5, 6] rfl)
    · have hw := hw.2 c1180
      refine lv_aload_n hx hb d_Mod_readGroups_42 rfl (lv_at hl 0 rfl) ?_
      refine lv_iconst (v := 1) hx hb d_Mod_readGroups_43 (by decide) ?_
      refine w_puti (ty := .int) (k := 69) (t := 12) (C := R_Mod) (T := F_Mod) (N := 167) hx hb hT hown hK hW hS ko_0.1 ko_0.2 (by decide) in_Mod t_Mod t_Mod_ok n_Mod rfl rfl (by decide) rfl fr_Mod_69 w_9_5 (by decide +kernel) rfl rfl d_Mod_readGroups_44 (fun H locs hW hS => ?_)
      obtain ⟨x1181, ex1181⟩ : ∃ y : St, y = setI x 0 69 1 := ⟨_, rfl⟩
      rw [← ex1181] at hW
      have hw := hw x1181 ex1181
      exact t_Mod_readGroups_47 hx hb hml hown hT hK hN hA hRc hRs hRf hRl hret  l1 l2 l3 l4 l5 l6 x1181 H locs ls fl1 hw hW hS (lv_sub hl [0, 1, 2, 3, 4, 5, 6] rfl)
  · have hw := hw.2 c1179
    refine lv_aload_n hx hb d_Mod_readGroups_16 rfl (lv_at hl 0 rfl) ?_
    refine lv_iconst (v := 4) hx hb d_Mod_readGroups_17 (by decide) ?_
    refine w_puti (ty := .int) (k := 69) (t := 12) (C := R_Mod) (T := F_Mod) (N := 167) hx hb hT hown hK hW hS ko_0.1 ko_0.2 (by decide) in_Mod t_Mod t_Mod_ok n_Mod rfl rfl (by decide) rfl fr_Mod_69 w_9_5 (by decide +kernel) rfl rfl d_Mod_readGroups_18 (fun H locs hW hS => ?_)
    obtain ⟨x1182, ex1182⟩ : ∃ y : St, y = setI x 0 69 4 := ⟨_, rfl⟩
    rw [← ex1182] at hW
    have hw := hw x1182 ex1182
    refine lv_goto (tgt := 47) hx hb d_Mod_readGroups_21 (by decide) ?_
    exact t_Mod_readGroups_47 hx hb hml hown hT hK hN hA hRc hRs hRf hRl hret  l1 l2 l3 l4 l5 l6 x1182 H locs ls fl1 hw hW hS (lv_sub hl [0, 1, 2, 3, 4, 5, 6] rfl)
set_option maxHeartbeats 4000000 in
set_option maxRecDepth 100000 in
theorem k_Mod_readGroups (l : Launch) (dC : Nat → ClassId) (dI : Nat → Nat → Nat) (cI cB cJ cZ : ClassId) (ad : Nat → Nat) (sz : Nat) (l1 : Nat) (l2 : Int32) (l3 : Int32) (l4 : Int32) (l5 : Int32) (l6 : Int64) (x : St) (fl1 : l1 < 115 ∧ kcM l1 = 20) {post : Int32 → St → Prop} (hw : wp_Mod_readGroups post l1 l2 l3 l4 l5 l6 x) : Met l y_Mod_readGroups (wsOf y_Mod_readGroups b_Mod_readGroups 10 (some (.int))) ({ frames := 1, cells := 0, slots := 0, locals := 25 }) (va_Pc [.ref (ad 0), .ref (ad l1), .int l2, .int l3, .int l4, .int l5, .long l6] (PW dC dI cI cB cJ cZ ad stM kcM 115 sz x)) (va_Qi (fun (r : Int32) (y : St) => post r y) (fun y t => Wd dC dI cI cB cJ cZ ad stM kcM 115 (va_A (pic ad stM kcM 115 cI cB cJ cZ x) sz) y t.heap) (va_A (pic ad stM kcM 115 cI cB cJ cZ x) sz)) 0 0 (va_A (pic ad stM kcM 115 cI cB cJ cZ x) sz) := by
  refine Met.ofW (cc := b_Mod_readGroups) (maxL := 10) (ret := some (.int)) (by decide) rfl ?_
  intro p e s m args below meth c s₁ B hml hv
  obtain ⟨rfl, hsz, hW0, hK, hN⟩ := hv
  have hx := B.exec
  have hb := B.bytes
  have hr := B.returns
  have hts := atoms_spec B.pre
  have hT : ∀ w ∈ TG, w.before _ s = true := fun w h => hts w (List.mem_cons_of_mem _ h)
  have hown : s.vm.findClass R_Mod = some m.cls := findClass_of_methodNamed B.named
  have hlocks := B.notSynchronized
  subst hsz
  have hW : Wd dC dI cI cB cJ cZ ad stM kcM 115 (va_A (pic ad stM kcM 115 cI cB cJ cZ x) s.heap.size) x s.heap := ⟨hW0.1, hW0.2.1.self (sz := s.heap.size), hW0.2.2⟩
  generalize hAe : va_A (pic ad stM kcM 115 cI cB cJ cZ x) s.heap.size = A at hW ⊢
  have hA : ∀ q : Nat, s.heap.size ≤ q → A q := fun q h => by rw [← hAe]; exact Or.inr h
  have hS : va_S A s.heap s.heap [] := va_S.rf
  have hl := lv_entry ([.ref (ad 0), .ref (ad l1), .int l2, .int l3, .int l4, .int l5, .long l6]) (n := 10) (Nat.le_of_ble_eq_true rfl)
  rw [lg_entry_eq]
  generalize (lg_sl ([.ref (ad 0), .ref (ad l1), .int l2, .int l3, .int l4, .int l5, .long l6]) ++ List.replicate (10 - (lg_sl ([.ref (ad 0), .ref (ad l1), .int l2, .int l3, .int l4, .int l5, .long l6])).length) Slot.unset).toArray = ls at hl ⊢
  have hl : lv_has ls 10 [(0, .ref (ad 0)), (1, .ref (ad l1)), (2, .int l2), (3, .int l3), (4, .int l4), (5, .int l5), (6, .long l6)] := hl
  exact t_Mod_readGroups_e hx hb hml hown hT hK hN hA (Nat.le_refl 0) (Nat.le_refl 0) (Nat.le_refl 1) (Nat.le_refl 25) (fun r x H locs pc ls hd hp hW hS => W.iret (v := r) hx hb hr (fun t ht hM => ⟨⟨r, x, rfl, hp, Wd.back hW ht.symm (fun _ z => z)⟩, hS.F ht⟩) hS.2.2 hd hlocks)  l1 l2 l3 l4 l5 l6 x _ _ ls fl1 hw hW hS hl
set_option maxRecDepth 100000 in
set_option maxHeartbeats 4000000 in
set_option maxRecDepth 100000 in
theorem t_Mod_readRuns_95 {p : Program} {l : Launch} {e : Env} {R : Room} {s : State} {m : MethodId} {args : Array Value} {below : List Frame} {meth : Method} {c : Code} {cells slots : Nat} {Q : State → Prop} {dC : Nat → ClassId} {dI : Nat → Nat → Nat} {cI cB cJ cZ : ClassId} {A : Nat → Prop} {ad : Nat → Nat} {post : St → Prop} {rec3 : Nat → Int32 → Int32 → Int32 → Int32 → St → Prop} (hx : p.tables.exec = Jvm.exec) (hb : c.code = b_Mod_readRuns) (hml : c.maxLocals = 10) (hown : s.vm.findClass R_Mod = some m.cls) (hT : ∀ w ∈ TG, w.before args s = true) (hK : va_K (dC, dI) CL (TY cI cB cJ cZ) s) (hN : NW s) (hA : ∀ q : Nat, s.heap.size ≤ q → A q) (hRc : cells ≤ R.cells) (hRs : slots ≤ R.slots) (hRf : 2 ≤ R.frames) (hRl : 55 ≤ R.locals) (hret : ∀ (x : St) (H : Heap) (locs : List Loc) (pc : Nat) (ls : Array Slot), decode b_Mod_readRuns pc = .ok (.return_, 1) → post x → Wd dC dI cI cB cJ cZ ad stM kcM 115 A x H → va_S A s.heap H locs → W p l e R s m args below meth c H locs cells slots Q (F0 m pc ls [])) (hrec3 : ∀ (l1 : Nat) (l2 : Int32) (l3 : Int32) (l4 : Int32) (l5 : Int32) (x : St) (H : Heap) (locs : List Loc) (ls : Array Slot), (l1 < 115 ∧ kcM l1 = 20) → rec3 l1 l2 l3 l4 l5 x → Wd dC dI cI cB cJ cZ ad stM kcM 115 A x H → va_S A s.heap H locs → lv_has ls 10 [(0, .ref (ad 0)), (1, .ref (ad l1)), (2, .int l2), (3, .int l3), (4, .int l4), (5, .int l5)] → W p l e R s m args below meth c H locs cells slots Q (F0 m 3 ls [])) : ∀ (l1 : Nat) (l2 : Int32) (l3 : Int32) (l4 : Int32) (l5 : Int32) (l6 : Int64) (l8 : Int64) (x : St) (H : Heap) (locs : List Loc) (ls : Array Slot), (l1 < 115 ∧ kcM l1 = 20) → j_Mod_readRuns_95 post rec3 l1 l2 l3 l4 l5 l6 l8 x → Wd dC dI cI cB cJ cZ ad stM kcM 115 A x H → va_S A s.heap H locs → lv_has ls 10 [(0, .ref (ad 0)), (1, .ref (ad l1)), (2, .int l2), (3, .int l3), (4, .int l4), (5, .int l5), (6, .long l6), (8, .long l8)] → W p l e R s m args below meth c H locs cells slots Q (F0 m 95 ls []) := by
  intro l1 l2 l3 l4 l5 l6 l8 x H locs ls fl1 hw hW hS hl
  unfold j_Mod_readRuns_95 at hw
  refine lv_goto (tgt := 3) hx hb d_Mod_readRuns_95 (by decide) ?_
  exact hrec3 l1 l2 l3 l4 l5 x H locs ls fl1 hw hW hS (lv_sub hl [0, 1, 2, 3, 4, 5] rfl)
set_option maxRecDepth 100000 in
set_option maxHeartbeats 4000000 in
set_option maxRecDepth 100000 in
theorem t_Mod_readRuns_3 {p : Program} {l : Launch} {e : Env} {R : Room} {s : State} {m : MethodId} {args : Array Value} {below : List Frame} {meth : Method} {c : Code} {cells slots : Nat} {Q : State → Prop} {dC : Nat → ClassId} {dI : Nat → Nat → Nat} {cI cB cJ cZ : ClassId} {A : Nat → Prop} {ad : Nat → Nat} {post : St → Prop} {rec3 : Nat → Int32 → Int32 → Int32 → Int32 → St → Prop} (hx : p.tables.exec = Jvm.exec) (hb : c.code = b_Mod_readRuns) (hml : c.maxLocals = 10) (hown : s.vm.findClass R_Mod = some m.cls) (hT : ∀ w ∈ TG, w.before args s = true) (hK : va_K (dC, dI) CL (TY cI cB cJ cZ) s) (hN : NW s) (hA : ∀ q : Nat, s.heap.size ≤ q → A q) (hRc : cells ≤ R.cells) (hRs : slots ≤ R.slots) (hRf : 2 ≤ R.frames) (hRl : 55 ≤ R.locals) (hret : ∀ (x : St) (H : Heap) (locs : List Loc) (pc : Nat) (ls : Array Slot), decode b_Mod_readRuns pc = .ok (.return_, 1) → post x → Wd dC dI cI cB cJ cZ ad stM kcM 115 A x H → va_S A s.heap H locs → W p l e R s m args below meth c H locs cells slots Q (F0 m pc ls [])) (hrec3 : ∀ (l1 : Nat) (l2 : Int32) (l3 : Int32) (l4 : Int32) (l5 : Int32) (x : St) (H : Heap) (locs : List Loc) (ls : Array Slot), (l1 < 115 ∧ kcM l1 = 20) → rec3 l1 l2 l3 l4 l5 x → Wd dC dI cI cB cJ cZ ad stM kcM 115 A x H → va_S A s.heap H locs → lv_has ls 10 [(0, .ref (ad 0)), (1, .ref (ad l1)), (2, .int l2), (3, .int l3), (4, .int l4), (5, .int l5)] → W p l e R s m args below meth c H locs cells slots Q (F0 m 3 ls [])) : ∀ (l1 : Nat) (l2 : Int32) (l3 : Int32) (l4 : Int32) (l5 : Int32) (x : St) (H : Heap) (locs : List Loc) (ls : Array Slot), (l1 < 115 ∧ kcM l1 = 20) → j_Mod_readRuns_3 post rec3 l1 l2 l3 l4 l5 x → Wd dC dI cI cB cJ cZ ad stM kcM 115 A x H → va_S A s.heap H locs → lv_has ls 10 [(0, .ref (ad 0)), (1, .ref (ad l1)), (2, .int l2), (3, .int l3), (4, .int l4), (5, .int l5)] → W p l e R s m args below meth c H locs cells slots Q (F0 m 3 ls []) := by
  intro l1 l2 l3 l4 l5 x H locs ls fl1 hw hW hS hl
  unfold j_Mod_readRuns_3 at hw
  refine lv_iload hx hb d_Mod_readRuns_3 (lv_at hl 5 rfl) ?_
  refine lv_iload_n hx hb d_Mod_readRuns_5 rfl (lv_at hl 2 rfl) ?_
  refine lv_icmp_ge (tgt := 98) hx hb d_Mod_readRuns_6 (by decide) (fun c1183 => ?_) (fun c1183 => ?_)
  · have hw := hw.1 c1183
    exact hret x H locs 98 ls d_Mod_readRuns_98 hw hW hS
  · have hw := hw.2 c1183
    refine lv_aload_n hx hb d_Mod_readRuns_9 rfl (lv_at hl 0 rfl) ?_
    refine w_geti (k := 69) (t := 12) (C := R_Mod) (T := F_Mod) (N := 167) hx hb hT hown hK hW ko_0.1 ko_0.2 (by decide) in_Mod rfl rfl (by decide) rfl fr_Mod_69 w_9_5 d_Mod_readRuns_10 ?_
    refine lv_if_ne (tgt := 98) hx hb d_Mod_readRuns_13 (by decide) (fun c1184 => ?_) (fun c1184 => ?_)
    · have hw := hw.1 c1184
      exact hret x H locs 98 ls d_Mod_readRuns_98 hw hW hS
    · have hw := hw.2 c1184
      refine lv_aload_n hx hb d_Mod_readRuns_16 rfl (lv_at hl 0 rfl) ?_
      refine lv_iload hx hb d_Mod_readRuns_17 (lv_at hl 4 rfl) ?_
      have hF := hW.free hS hA
      refine va_calll (va_runV (C := R_Mod) (As := [.int l4]) (rest := []) ⟨hx, hb, hml, hown, hT⟩ (k_Mod_varint l dC dI cI cB cJ cZ ad H.size l4 x  hw) ⟨callB_of 1 hT (gwt_in w_12_124) rfl rfl rfl (hT _ w_1_15) (hT _ w_12_121) (by decide +kernel) ⟨Nat.le_trans (Nat.le_of_ble_eq_true rfl) hRf, Nat.le_trans (Nat.le_of_ble_eq_true rfl) hRl⟩, hT _ w_12_123, hT _ ws_187⟩ ⟨PW.blind, va_recv hK hW.1 (ci := 12) (q0 := 0) rfl (pic_obj ko_0.1 ko_0.2 (by decide)), PW.at _ hW hK hN⟩ rfl rfl hl.1 rfl (lv_room (Nat.le_of_ble_eq_true rfl)) d_Mod_readRuns_19 ⟨hRc, hRs⟩) hS (fun q _ h => hF q h) hF (fun r1186 x1185 t H locs ht hvm hw hB hz1 hk1 hS => ?_)
      have hW := Wd.back hB ht hF
      clear hB ht hF hz1 hk1 hvm
      refine lv_lstore (lv' := [(6, .long r1186), (0, .ref (ad 0)), (1, .ref (ad l1)), (2, .int l2), (3, .int l3), (4, .int l4), (5, .int l5)]) hx hb d_Mod_readRuns_22 hl (by decide) rfl (fun ls hl => ?_)
      refine lv_aload_n hx hb d_Mod_readRuns_24 rfl (lv_at hl 1 rfl) ?_
      refine w_geti (k := 69) (t := 12) (C := R_Mod) (T := F_Mod) (N := 167) hx hb hT hown hK hW ko_0.1 ko_0.2 (by decide) in_Mod rfl rfl (by decide) rfl fr_Mod_69 w_9_5 d_Mod_readRuns_25 ?_
      refine lv_if_eq (tgt := 32) hx hb d_Mod_readRuns_28 (by decide) (fun c1187 => ?_) (fun c1187 => ?_)
      · have hw := hw.1 c1187
        refine lv_lload hx hb d_Mod_readRuns_32 (lv_at hl 0 rfl) ?_
        refine lv_iconst (v := 1) hx hb d_Mod_readRuns_34 (by decide) ?_
        refine lv_lushr hx hb d_Mod_readRuns_35 rfl ?_
        refine lv_topl (fun v1188 ev1188 => ?_)
        have hw := hw v1188 ev1188
        refine lv_lstore (lv' := [(8, .long v1188), (6, .long r1186), (0, .ref (ad 0)), (1, .ref (ad l1)), (2, .int l2), (3, .int l3), (4, .int l4), (5, .int l5)]) hx hb d_Mod_readRuns_36 hl (by decide) rfl (fun ls hl => ?_)
        refine lv_lload hx hb d_Mod_readRuns_38 (lv_at hl 0 rfl) ?_
        refine lv_lconst (v := 0) hx hb d_Mod_readRuns_40 (by decide) ?_
        refine W.lcmp hx hb d_Mod_readRuns_41 ?_
        refine lv_if_ne (tgt := 53) hx hb d_Mod_readRuns_42 (by decide) (fun c1189 => ?_) (fun c1189 => ?_)
        · have hw := hw.1 c1189
          refine lv_lload hx hb d_Mod_readRuns_53 (lv_at hl 1 rfl) ?_
          refine lv_lconst (v := 1) hx hb d_Mod_readRuns_55 (by decide) ?_
          refine lv_land hx hb d_Mod_readRuns_56 ?_
          refine lv_lconst (v := 0) hx hb d_Mod_readRuns_57 (by decide) ?_
          refine W.lcmp hx hb d_Mod_readRuns_58 ?_
          refine lv_if_ne (tgt := 80) hx hb d_Mod_readRuns_59 (by decide) (fun c1190 => ?_) (fun c1190 => ?_)
          · have hw := hw.1 c1190
            refine lv_aload_n hx hb d_Mod_readRuns_80 rfl (lv_at hl 2 rfl) ?_
            refine lv_aload_n hx hb d_Mod_readRuns_81 rfl (lv_at hl 3 rfl) ?_
            refine lv_iload hx hb d_Mod_readRuns_82 (lv_at hl 7 rfl) ?_
            refine lv_iload_n hx hb d_Mod_readRuns_84 rfl (lv_at hl 4 rfl) ?_
            refine lv_iload_n hx hb d_Mod_readRuns_85 rfl (lv_at hl 5 rfl) ?_
            refine lv_iload hx hb d_Mod_readRuns_86 (lv_at hl 6 rfl) ?_
            refine lv_lload hx hb d_Mod_readRuns_88 (lv_at hl 0 rfl) ?_
            have hF := hW.free hS hA
            refine va_calli (va_runV (C := R_Mod) (As := [.ref (ad l1), .int l5, .int l2, .int l3, .int l4, .long v1188]) (rest := []) ⟨hx, hb, hml, hown, hT⟩ (k_Mod_readGroups l dC dI cI cB cJ cZ ad H.size l1 l5 l2 l3 l4 v1188 x1185 fl1 hw) ⟨callB_of 6 hT (gwt_in w_12_193) rfl rfl rfl (hT _ w_1_15) (hT _ w_12_190) (by decide +kernel) ⟨Nat.le_trans (Nat.le_of_ble_eq_true rfl) hRf, Nat.le_trans (Nat.le_of_ble_eq_true rfl) hRl⟩, hT _ w_12_192, hT _ ws_202⟩ ⟨PW.blind, va_recv hK hW.1 (ci := 12) (q0 := 0) rfl (pic_obj ko_0.1 ko_0.2 (by decide)), PW.at _ hW hK hN⟩ rfl rfl hl.1 rfl (lv_room (Nat.le_of_ble_eq_true rfl)) d_Mod_readRuns_90 ⟨hRc, hRs⟩) hS (fun q _ h => hF q h) hF (fun r1192 x1191 t H locs ht hvm hw hB hz1 hk1 hS => ?_)
            have hW := Wd.back hB ht hF
            clear hB ht hF hz1 hk1 hvm
            refine lv_istore (lv' := [(5, .int r1192), (8, .long v1188), (6, .long r1186), (0, .ref (ad 0)), (1, .ref (ad l1)), (2, .int l2), (3, .int l3), (4, .int l4)]) hx hb d_Mod_readRuns_93 hl (by decide) rfl (fun ls hl => ?_)
            exact t_Mod_readRuns_95 hx hb hml hown hT hK hN hA hRc hRs hRf hRl hret hrec3 l1 l2 l3 l4 r1192 r1186 v1188 x1191 H locs ls fl1 hw hW hS (lv_sub hl [3, 4, 5, 6, 7, 0, 2, 1] rfl)
          · have hw := hw.2 c1190
            refine lv_aload_n hx hb d_Mod_readRuns_62 rfl (lv_at hl 2 rfl) ?_
            refine lv_aload_n hx hb d_Mod_readRuns_63 rfl (lv_at hl 3 rfl) ?_
            refine lv_iload hx hb d_Mod_readRuns_64 (lv_at hl 7 rfl) ?_
            refine lv_iload_n hx hb d_Mod_readRuns_66 rfl (lv_at hl 4 rfl) ?_
            refine lv_iload_n hx hb d_Mod_readRuns_67 rfl (lv_at hl 5 rfl) ?_
            refine lv_iload hx hb d_Mod_readRuns_68 (lv_at hl 6 rfl) ?_
            refine lv_lload hx hb d_Mod_readRuns_70 (lv_at hl 0 rfl) ?_
            have hF := hW.free hS hA
            refine va_calli (va_runV (C := R_Mod) (As := [.ref (ad l1), .int l5, .int l2, .int l3, .int l4, .long v1188]) (rest := []) ⟨hx, hb, hml, hown, hT⟩ (k_Mod_readOne l dC dI cI cB cJ cZ ad H.size l1 l5 l2 l3 l4 v1188 x1185 fl1 hw) ⟨callB_of 6 hT (gwt_in w_12_185) rfl rfl rfl (hT _ w_1_15) (hT _ w_12_182) (by decide +kernel) ⟨Nat.le_trans (Nat.le_of_ble_eq_true rfl) hRf, Nat.le_trans (Nat.le_of_ble_eq_true rfl) hRl⟩, hT _ w_12_184, hT _ ws_200⟩ ⟨PW.blind, va_recv hK hW.1 (ci := 12) (q0 := 0) rfl (pic_obj ko_0.1 ko_0.2 (by decide)), PW.at _ hW hK hN⟩ rfl rfl hl.1 rfl (lv_room (Nat.le_of_ble_eq_true rfl)) d_Mod_readRuns_72 ⟨hRc, hRs⟩) hS (fun q _ h => hF q h) hF (fun r1194 x1193 t H locs ht hvm hw hB hz1 hk1 hS => ?_)
            have hW := Wd.back hB ht hF
            clear hB ht hF hz1 hk1 hvm
            refine lv_istore (lv' := [(5, .int r1194), (8, .long v1188), (6, .long r1186), (0, .ref (ad 0)), (1, .ref (ad l1)), (2, .int l2), (3, .int l3), (4, .int l4)]) hx hb d_Mod_readRuns_75 hl (by decide) rfl (fun ls hl => ?_)
            refine lv_goto (tgt := 95) hx hb d_Mod_readRuns_77 (by decide) ?_
            exact t_Mod_readRuns_95 hx hb hml hown hT hK hN hA hRc hRs hRf hRl hret hrec3 l1 l2 l3 l4 r1194 r1186 v1188 x1193 H locs ls fl1 hw hW hS (lv_sub hl [3, 4, 5, 6, 7, 0, 2, 1] rfl)
        · have hw := hw.2 c1189
          refine lv_aload_n hx hb d_Mod_readRuns_45 rfl (lv_at hl 2 rfl) ?_
          refine lv_iconst (v := 3) hx hb d_Mod_readRuns_46 (by decide) ?_
          refine w_puti (ty := .int) (k := 69) (t := 12) (C := R_Mod) (T := F_Mod) (N := 167) hx hb hT hown hK hW hS ko_0.1 ko_0.2 (by decide) in_Mod t_Mod t_Mod_ok n_Mod rfl rfl (by decide) rfl fr_Mod_69 w_9_5 (by decide +kernel) rfl rfl d_Mod_readRuns_47 (fun H locs hW hS => ?_)
          obtain ⟨x1195, ex1195⟩ : ∃ y : St, y = setI x1185 0 69 3 := ⟨_, rfl⟩
          rw [← ex1195] at hW
          have hw := hw x1195 ex1195
          refine lv_goto (tgt := 95) hx hb d_Mod_readRuns_50 (by decide) ?_
          exact t_Mod_readRuns_95 hx hb hml hown hT hK hN hA hRc hRs hRf hRl hret hrec3 l1 l2 l3 l4 l5 r1186 v1188 x1195 H locs ls fl1 hw hW hS (lv_sub hl [2, 3, 4, 5, 6, 7, 1, 0] rfl)
      · have hw := hw.2 c1187
        exact hret x1185 H locs 31 ls d_Mod_readRuns_31 hw hW hS
set_option maxHeartbeats 4000000 in
set_option maxRecDepth 100000 in
theorem tl_Mod_readRuns_3 {p : Program} {l : Launch} {e : Env} {R : Room} {s : State} {m : MethodId} {args : Array Value} {below : List Frame} {meth : Method} {c : Code} {cells slots : Nat} {Q : State → Prop} {dC : Nat → ClassId} {dI : Nat → Nat → Nat} {cI cB cJ cZ : ClassId} {A : Nat → Prop} {ad : Nat → Nat} {post : St → Prop} (hx : p.tables.exec = Jvm.exec) (hb : c.code = b_Mod_readRuns) (hml : c.maxLocals = 10) (hown : s.vm.findClass R_Mod = some m.cls) (hT : ∀ w ∈ TG, w.before args s = true) (hK : va_K (dC, dI) CL (TY cI cB cJ cZ) s) (hN : NW s) (hA : ∀ q : Nat, s.heap.size ≤ q → A q) (hRc : cells ≤ R.cells) (hRs : slots ≤ R.slots) (hRf : 2 ≤ R.frames) (hRl : 55 ≤ R.locals) (hret : ∀ (x : St) (H : Heap) (locs : List Loc) (pc : Nat) (ls : Array Slot), decode b_Mod_readRuns pc = .ok (.return_, 1) → post x → Wd dC dI cI cB cJ cZ ad stM kcM 115 A x H → va_S A s.heap H locs → W p l e R s m args below meth c H locs cells slots Q (F0 m pc ls []))  : ∀ n : Nat, ∀ (l1 : Nat) (l2 : Int32) (l3 : Int32) (l4 : Int32) (l5 : Int32) (x : St) (H : Heap) (locs : List Loc) (ls : Array Slot), (l1 < 115 ∧ kcM l1 = 20) → wl_Mod_readRuns_3 post n l1 l2 l3 l4 l5 x → Wd dC dI cI cB cJ cZ ad stM kcM 115 A x H → va_S A s.heap H locs → lv_has ls 10 [(0, .ref (ad 0)), (1, .ref (ad l1)), (2, .int l2), (3, .int l3), (4, .int l4), (5, .int l5)] → W p l e R s m args below meth c H locs cells slots Q (F0 m 3 ls []) := by
  intro n
  induction n with
  | zero => intro l1 l2 l3 l4 l5 x H locs ls fl1 hw; exact hw.elim
  | succ n ih => intro l1 l2 l3 l4 l5 x H locs ls fl1 hw hW hS hl; exact t_Mod_readRuns_3 hx hb hml hown hT hK hN hA hRc hRs hRf hRl hret  ih l1 l2 l3 l4 l5 x H locs ls fl1 hw hW hS hl
set_option maxRecDepth 100000 in
set_option maxHeartbeats 4000000 in
set_option maxRecDepth 100000 in
theorem t_Mod_readRuns_e {p : Program} {l : Launch} {e : Env} {R : Room} {s : State} {m : MethodId} {args : Array Value} {below : List Frame} {meth : Method} {c : Code} {cells slots : Nat} {Q : State → Prop} {dC : Nat → ClassId} {dI : Nat → Nat → Nat} {cI cB cJ cZ : ClassId} {A : Nat → Prop} {ad : Nat → Nat} {post : St → Prop} (hx : p.tables.exec = Jvm.exec) (hb : c.code = b_Mod_readRuns) (hml : c.maxLocals = 10) (hown : s.vm.findClass R_Mod = some m.cls) (hT : ∀ w ∈ TG, w.before args s = true) (hK : va_K (dC, dI) CL (TY cI cB cJ cZ) s) (hN : NW s) (hA : ∀ q : Nat, s.heap.size ≤ q → A q) (hRc : cells ≤ R.cells) (hRs : slots ≤ R.slots) (hRf : 2 ≤ R.frames) (hRl : 55 ≤ R.locals) (hret : ∀ (x : St) (H : Heap) (locs : List Loc) (pc : Nat) (ls : Array Slot), decode b_Mod_readRuns pc = .ok (.return_, 1) → post x → Wd dC dI cI cB cJ cZ ad stM kcM 115 A x H → va_S A s.heap H locs → W p l e R s m args below meth c H locs cells slots Q (F0 m pc ls [])) : ∀ (l1 : Nat) (l2 : Int32) (l3 : Int32) (l4 : Int32) (x : St) (H : Heap) (locs : List Loc) (ls : Array Slot), (l1 < 115 ∧ kcM l1 = 20) → wp_Mod_readRuns post l1 l2 l3 l4 x → Wd dC dI cI cB cJ cZ ad stM kcM 115 A x H → va_S A s.heap H locs → lv_has ls 10 [(0, .ref (ad 0)), (1, .ref (ad l1)), (2, .int l2), (3, .int l3), (4, .int l4)] → W p l e R s m args below meth c H locs cells slots Q (F0 m 0 ls []) := by
  intro l1 l2 l3 l4 x H locs ls fl1 hw hW hS hl
  unfold wp_Mod_readRuns at hw
  refine lv_iconst (v := 0) hx hb d_Mod_readRuns_0 (by decide) ?_
  refine lv_istore (lv' := [(5, .int 0), (0, .ref (ad 0)), (1, .ref (ad l1)), (2, .int l2), (3, .int l3), (4, .int l4)]) hx hb d_Mod_readRuns_1 hl (by decide) rfl (fun ls hl => ?_)
  obtain ⟨n, hw⟩ := hw
  exact tl_Mod_readRuns_3 hx hb hml hown hT hK hN hA hRc hRs hRf hRl hret  n l1 l2 l3 l4 0 x H locs ls fl1 hw hW hS (lv_sub hl [1, 2, 3, 4, 5, 0] rfl)
set_option maxHeartbeats 4000000 in
set_option maxRecDepth 100000 in
theorem k_Mod_readRuns (l : Launch) (dC : Nat → ClassId) (dI : Nat → Nat → Nat) (cI cB cJ cZ : ClassId) (ad : Nat → Nat) (sz : Nat) (l1 : Nat) (l2 : Int32) (l3 : Int32) (l4 : Int32) (x : St) (fl1 : l1 < 115 ∧ kcM l1 = 20) {post : St → Prop} (hw : wp_Mod_readRuns post l1 l2 l3 l4 x) : Met l y_Mod_readRuns (wsOf y_Mod_readRuns b_Mod_readRuns 10 (none)) ({ frames := 2, cells := 0, slots := 0, locals := 55 }) (va_Pc [.ref (ad 0), .ref (ad l1), .int l2, .int l3, .int l4] (PW dC dI cI cB cJ cZ ad stM kcM 115 sz x)) (va_Qv (fun (y : St) => post y) (fun y t => Wd dC dI cI cB cJ cZ ad stM kcM 115 (va_A (pic ad stM kcM 115 cI cB cJ cZ x) sz) y t.heap) (va_A (pic ad stM kcM 115 cI cB cJ cZ x) sz)) 0 0 (va_A (pic ad stM kcM 115 cI cB cJ cZ x) sz) := by
  refine Met.ofW (cc := b_Mod_readRuns) (maxL := 10) (ret := none) (by decide) rfl ?_
  intro p e s m args below meth c s₁ B hml hv
  obtain ⟨rfl, hsz, hW0, hK, hN⟩ := hv
  have hx := B.exec
  have hb := B.bytes
  have hr := B.returns
  have hts := atoms_spec B.pre
  have hT : ∀ w ∈ TG, w.before _ s = true := fun w h => hts w (List.mem_cons_of_mem _ h)
  have hown : s.vm.findClass R_Mod = some m.cls := findClass_of_methodNamed B.named
  have hlocks := B.notSynchronized
  subst hsz
  have hW : Wd dC dI cI cB cJ cZ ad stM kcM 115 (va_A (pic ad stM kcM 115 cI cB cJ cZ x) s.heap.size) x s.heap := ⟨hW0.1, hW0.2.1.self (sz := s.heap.size), hW0.2.2⟩
  generalize hAe : va_A (pic ad stM kcM 115 cI cB cJ cZ x) s.heap.size = A at hW ⊢
  have hA : ∀ q : Nat, s.heap.size ≤ q → A q := fun q h => by rw [← hAe]; exact Or.inr h
  have hS : va_S A s.heap s.heap [] := va_S.rf
  have hl := lv_entry ([.ref (ad 0), .ref (ad l1), .int l2, .int l3, .int l4]) (n := 10) (Nat.le_of_ble_eq_true rfl)
  rw [lg_entry_eq]
  generalize (lg_sl ([.ref (ad 0), .ref (ad l1), .int l2, .int l3, .int l4]) ++ List.replicate (10 - (lg_sl ([.ref (ad 0), .ref (ad l1), .int l2, .int l3, .int l4])).length) Slot.unset).toArray = ls at hl ⊢
  have hl : lv_has ls 10 [(0, .ref (ad 0)), (1, .ref (ad l1)), (2, .int l2), (3, .int l3), (4, .int l4)] := hl
  exact t_Mod_readRuns_e hx hb hml hown hT hK hN hA (Nat.le_refl 0) (Nat.le_refl 0) (Nat.le_refl 2) (Nat.le_refl 55) (fun x H locs pc ls hd hp hW hS => W.vret hx hb hr (fun t ht hM => ⟨⟨x, rfl, hp, Wd.back hW ht.symm (fun _ z => z)⟩, hS.F ht⟩) hS.2.2 hd hlocks)  l1 l2 l3 l4 x _ _ ls fl1 hw hW hS hl
set_option maxRecDepth 100000 in
set_option maxHeartbeats 4000000 in
set_option maxRecDepth 100000 in
theorem t_Mod_readLevels_184 {p : Program} {l : Launch} {e : Env} {R : Room} {s : State} {m : MethodId} {args : Array Value} {below : List Frame} {meth : Method} {c : Code} {cells slots : Nat} {Q : State → Prop} {dC : Nat → ClassId} {dI : Nat → Nat → Nat} {cI cB cJ cZ : ClassId} {A : Nat → Prop} {ad : Nat → Nat} {post : St → Prop} {rec150 : Nat → Int32 → Int32 → Int64 → Int32 → Int32 → Int32 → St → Prop} (hx : p.tables.exec = Jvm.exec) (hb : c.code = b_Mod_readLevels) (hml : c.maxLocals = 9) (hown : s.vm.findClass R_Mod = some m.cls) (hT : ∀ w ∈ TG, w.before args s = true) (hK : va_K (dC, dI) CL (TY cI cB cJ cZ) s) (hN : NW s) (hA : ∀ q : Nat, s.heap.size ≤ q → A q) (hRc : cells ≤ R.cells) (hRs : slots ≤ R.slots) (hRf : 3 ≤ R.frames) (hRl : 84 ≤ R.locals) (hret : ∀ (x : St) (H : Heap) (locs : List Loc) (pc : Nat) (ls : Array Slot), decode b_Mod_readLevels pc = .ok (.return_, 1) → post x → Wd dC dI cI cB cJ cZ ad stM kcM 115 A x H → va_S A s.heap H locs → W p l e R s m args below meth c H locs cells slots Q (F0 m pc ls [])) (hrec150 : ∀ (l1 : Nat) (l2 : Int32) (l3 : Int32) (l4 : Int64) (l6 : Int32) (l7 : Int32) (l8 : Int32) (x : St) (H : Heap) (locs : List Loc) (ls : Array Slot), (l1 < 115 ∧ kcM l1 = 20) → rec150 l1 l2 l3 l4 l6 l7 l8 x → Wd dC dI cI cB cJ cZ ad stM kcM 115 A x H → va_S A s.heap H locs → lv_has ls 9 [(0, .ref (ad 0)), (1, .ref (ad l1)), (2, .int l2), (3, .int l3), (4, .long l4), (6, .int l6), (7, .int l7), (8, .int l8)] → W p l e R s m args below meth c H locs cells slots Q (F0 m 150 ls [])) : ∀ (l1 : Nat) (l2 : Int32) (l3 : Int32) (l4 : Int64) (l6 : Int32) (l7 : Int32) (l8 : Int32) (x : St) (H : Heap) (locs : List Loc) (ls : Array Slot), (l1 < 115 ∧ kcM l1 = 20) → j_Mod_readLevels_184 post rec150 l1 l2 l3 l4 l6 l7 l8 x → Wd dC dI cI cB cJ cZ ad stM kcM 115 A x H → va_S A s.heap H locs → lv_has ls 9 [(0, .ref (ad 0)), (1, .ref (ad l1)), (2, .int l2), (3, .int l3), (4, .long l4), (6, .int l6), (7, .int l7), (8, .int l8)] → W p l e R s m args below meth c H locs cells slots Q (F0 m 184 ls []) := by
  intro l1 l2 l3 l4 l6 l7 l8 x H locs ls fl1 hw hW hS hl
  unfold j_Mod_readLevels_184 at hw
  refine lv_iinc (v := (l8 + 1)) (lv' := [(8, .int (l8 + 1)), (0, .ref (ad 0)), (1, .ref (ad l1)), (2, .int l2), (3, .int l3), (4, .long l4), (6, .int l6), (7, .int l7)]) hx hb d_Mod_readLevels_184 hl (k := 7) rfl rfl (by decide) rfl (fun ls hl => ?_)
  refine lv_goto (tgt := 150) hx hb d_Mod_readLevels_187 (by decide) ?_
  exact hrec150 l1 l2 l3 l4 l6 l7 (l8 + 1) x H locs ls fl1 hw hW hS (lv_sub hl [1, 2, 3, 4, 5, 6, 7, 0] rfl)
set_option maxRecDepth 100000 in
set_option maxHeartbeats 4000000 in
set_option maxRecDepth 100000 in
theorem t_Mod_readLevels_178 {p : Program} {l : Launch} {e : Env} {R : Room} {s : State} {m : MethodId} {args : Array Value} {below : List Frame} {meth : Method} {c : Code} {cells slots : Nat} {Q : State → Prop} {dC : Nat → ClassId} {dI : Nat → Nat → Nat} {cI cB cJ cZ : ClassId} {A : Nat → Prop} {ad : Nat → Nat} {post : St → Prop} {rec150 : Nat → Int32 → Int32 → Int64 → Int32 → Int32 → Int32 → St → Prop} (hx : p.tables.exec = Jvm.exec) (hb : c.code = b_Mod_readLevels) (hml : c.maxLocals = 9) (hown : s.vm.findClass R_Mod = some m.cls) (hT : ∀ w ∈ TG, w.before args s = true) (hK : va_K (dC, dI) CL (TY cI cB cJ cZ) s) (hN : NW s) (hA : ∀ q : Nat, s.heap.size ≤ q → A q) (hRc : cells ≤ R.cells) (hRs : slots ≤ R.slots) (hRf : 3 ≤ R.frames) (hRl : 84 ≤ R.locals) (hret : ∀ (x : St) (H : Heap) (locs : List Loc) (pc : Nat) (ls : Array Slot), decode b_Mod_readLevels pc = .ok (.return_, 1) → post x → Wd dC dI cI cB cJ cZ ad stM kcM 115 A x H → va_S A s.heap H locs → W p l e R s m args below meth c H locs cells slots Q (F0 m pc ls [])) (hrec150 : ∀ (l1 : Nat) (l2 : Int32) (l3 : Int32) (l4 : Int64) (l6 : Int32) (l7 : Int32) (l8 : Int32) (x : St) (H : Heap) (locs : List Loc) (ls : Array Slot), (l1 < 115 ∧ kcM l1 = 20) → rec150 l1 l2 l3 l4 l6 l7 l8 x → Wd dC dI cI cB cJ cZ ad stM kcM 115 A x H → va_S A s.heap H locs → lv_has ls 9 [(0, .ref (ad 0)), (1, .ref (ad l1)), (2, .int l2), (3, .int l3), (4, .long l4), (6, .int l6), (7, .int l7), (8, .int l8)] → W p l e R s m args below meth c H locs cells slots Q (F0 m 150 ls [])) : ∀ (l1 : Nat) (l2 : Int32) (l3 : Int32) (l4 : Int64) (l6 : Int32) (l7 : Int32) (l8 : Int32) (x : St) (H : Heap) (locs : List Loc) (ls : Array Slot), (l1 < 115 ∧ kcM l1 = 20) → j_Mod_readLevels_178 post rec150 l1 l2 l3 l4 l6 l7 l8 x → Wd dC dI cI cB cJ cZ ad stM kcM 115 A x H → va_S A s.heap H locs → lv_has ls 9 [(0, .ref (ad 0)), (1, .ref (ad l1)), (2, .int l2), (3, .int l3), (4, .long l4), (6, .int l6), (7, .int l7), (8, .int l8)] → W p l e R s m args below meth c H locs cells slots Q (F0 m 178 ls []) := by
  intro l1 l2 l3 l4 l6 l7 l8 x H locs ls fl1 hw hW hS hl
  unfold j_Mod_readLevels_178 at hw
  refine lv_aload_n hx hb d_Mod_readLevels_178 rfl (lv_at hl 0 rfl) ?_
  refine lv_bipush (v := 9) hx hb d_Mod_readLevels_179 (by decide) ?_
  refine w_puti (ty := .int) (k := 69) (t := 12) (C := R_Mod) (T := F_Mod) (N := 167) hx hb hT hown hK hW hS ko_0.1 ko_0.2 (by decide) in_Mod t_Mod t_Mod_ok n_Mod rfl rfl (by decide) rfl fr_Mod_69 w_9_5 (by decide +kernel) rfl rfl d_Mod_readLevels_181 (fun H locs hW hS => ?_)
  obtain ⟨x1196, ex1196⟩ : ∃ y : St, y = setI x 0 69 9 := ⟨_, rfl⟩
  rw [← ex1196] at hW
  have hw := hw x1196 ex1196
  exact t_Mod_readLevels_184 hx hb hml hown hT hK hN hA hRc hRs hRf hRl hret hrec150 l1 l2 l3 l4 l6 l7 l8 x1196 H locs ls fl1 hw hW hS (lv_sub hl [0, 1, 2, 3, 4, 5, 6, 7] rfl)
set_option maxRecDepth 100000 in
set_option maxHeartbeats 4000000 in
set_option maxRecDepth 100000 in
theorem t_Mod_readLevels_150 {p : Program} {l : Launch} {e : Env} {R : Room} {s : State} {m : MethodId} {args : Array Value} {below : List Frame} {meth : Method} {c : Code} {cells slots : Nat} {Q : State → Prop} {dC : Nat → ClassId} {dI : Nat → Nat → Nat} {cI cB cJ cZ : ClassId} {A : Nat → Prop} {ad : Nat → Nat} {post : St → Prop} {rec150 : Nat → Int32 → Int32 → Int64 → Int32 → Int32 → Int32 → St → Prop} (hx : p.tables.exec = Jvm.exec) (hb : c.code = b_Mod_readLevels) (hml : c.maxLocals = 9) (hown : s.vm.findClass R_Mod = some m.cls) (hT : ∀ w ∈ TG, w.before args s = true) (hK : va_K (dC, dI) CL (TY cI cB cJ cZ) s) (hN : NW s) (hA : ∀ q : Nat, s.heap.size ≤ q → A q) (hRc : cells ≤ R.cells) (hRs : slots ≤ R.slots) (hRf : 3 ≤ R.frames) (hRl : 84 ≤ R.locals) (hret : ∀ (x : St) (H : Heap) (locs : List Loc) (pc : Nat) (ls : Array Slot), decode b_Mod_readLevels pc = .ok (.return_, 1) → post x → Wd dC dI cI cB cJ cZ ad stM kcM 115 A x H → va_S A s.heap H locs → W p l e R s m args below meth c H locs cells slots Q (F0 m pc ls [])) (hrec150 : ∀ (l1 : Nat) (l2 : Int32) (l3 : Int32) (l4 : Int64) (l6 : Int32) (l7 : Int32) (l8 : Int32) (x : St) (H : Heap) (locs : List Loc) (ls : Array Slot), (l1 < 115 ∧ kcM l1 = 20) → rec150 l1 l2 l3 l4 l6 l7 l8 x → Wd dC dI cI cB cJ cZ ad stM kcM 115 A x H → va_S A s.heap H locs → lv_has ls 9 [(0, .ref (ad 0)), (1, .ref (ad l1)), (2, .int l2), (3, .int l3), (4, .long l4), (6, .int l6), (7, .int l7), (8, .int l8)] → W p l e R s m args below meth c H locs cells slots Q (F0 m 150 ls [])) : ∀ (l1 : Nat) (l2 : Int32) (l3 : Int32) (l4 : Int64) (l6 : Int32) (l7 : Int32) (l8 : Int32) (x : St) (H : Heap) (locs : List Loc) (ls : Array Slot), (l1 < 115 ∧ kcM l1 = 20) → j_Mod_readLevels_150 post rec150 l1 l2 l3 l4 l6 l7 l8 x → Wd dC dI cI cB cJ cZ ad stM kcM 115 A x H → va_S A s.heap H locs → lv_has ls 9 [(0, .ref (ad 0)), (1, .ref (ad l1)), (2, .int l2), (3, .int l3), (4, .long l4), (6, .int l6), (7, .int l7), (8, .int l8)] → W p l e R s m args below meth c H locs cells slots Q (F0 m 150 ls []) := by
  intro l1 l2 l3 l4 l6 l7 l8 x H locs ls fl1 hw hW hS hl
  unfold j_Mod_readLevels_150 at hw
  refine lv_iload hx hb d_Mod_readLevels_150 (lv_at hl 7 rfl) ?_
  refine lv_iload_n hx hb d_Mod_readLevels_152 rfl (lv_at hl 2 rfl) ?_
  refine lv_icmp_ge (tgt := 190) hx hb d_Mod_readLevels_153 (by decide) (fun c1197 => ?_) (fun c1197 => ?_)
  · have hw := hw.1 c1197
    exact hret x H locs 190 ls d_Mod_readLevels_190 hw hW hS
  · have hw := hw.2 c1197
    refine lv_aload_n hx hb d_Mod_readLevels_156 rfl (lv_at hl 0 rfl) ?_
    refine w_geti (k := 69) (t := 12) (C := R_Mod) (T := F_Mod) (N := 167) hx hb hT hown hK hW ko_0.1 ko_0.2 (by decide) in_Mod rfl rfl (by decide) rfl fr_Mod_69 w_9_5 d_Mod_readLevels_157 ?_
    refine lv_if_ne (tgt := 190) hx hb d_Mod_readLevels_160 (by decide) (fun c1198 => ?_) (fun c1198 => ?_)
    · have hw := hw.1 c1198
      exact hret x H locs 190 ls d_Mod_readLevels_190 hw hW hS
    · have hw := hw.2 c1198
      refine lv_aload_n hx hb d_Mod_readLevels_163 rfl (lv_at hl 1 rfl) ?_
      refine lv_iload hx hb d_Mod_readLevels_164 (lv_at hl 7 rfl) ?_
      obtain ⟨hi, hw⟩ := hw
      refine w_iald (o := l1) hx hb hK hW fl1.1 fl1.2 hi d_Mod_readLevels_166 ?_
      refine lv_if_lt (tgt := 178) hx hb d_Mod_readLevels_167 (by decide) (fun c1199 => ?_) (fun c1199 => ?_)
      · have hw := hw.1 c1199
        exact t_Mod_readLevels_178 hx hb hml hown hT hK hN hA hRc hRs hRf hRl hret hrec150 l1 l2 l3 l4 l6 l7 l8 x H locs ls fl1 hw hW hS (lv_sub hl [0, 1, 2, 3, 4, 5, 6, 7] rfl)
      · have hw := hw.2 c1199
        refine lv_aload_n hx hb d_Mod_readLevels_170 rfl (lv_at hl 1 rfl) ?_
        refine lv_iload hx hb d_Mod_readLevels_171 (lv_at hl 7 rfl) ?_
        obtain ⟨hi, hw⟩ := hw
        refine w_iald (o := l1) hx hb hK hW fl1.1 fl1.2 hi d_Mod_readLevels_173 ?_
        refine lv_iload_n hx hb d_Mod_readLevels_174 rfl (lv_at hl 3 rfl) ?_
        refine lv_icmp_le (tgt := 184) hx hb d_Mod_readLevels_175 (by decide) (fun c1200 => ?_) (fun c1200 => ?_)
        · have hw := hw.1 c1200
          exact t_Mod_readLevels_184 hx hb hml hown hT hK hN hA hRc hRs hRf hRl hret hrec150 l1 l2 l3 l4 l6 l7 l8 x H locs ls fl1 hw hW hS (lv_sub hl [0, 1, 2, 3, 4, 5, 6, 7] rfl)
        · have hw := hw.2 c1200
          exact t_Mod_readLevels_178 hx hb hml hown hT hK hN hA hRc hRs hRf hRl hret hrec150 l1 l2 l3 l4 l6 l7 l8 x H locs ls fl1 hw hW hS (lv_sub hl [0, 1, 2, 3, 4, 5, 6, 7] rfl)
set_option maxHeartbeats 4000000 in
set_option maxRecDepth 100000 in
theorem tl_Mod_readLevels_150 {p : Program} {l : Launch} {e : Env} {R : Room} {s : State} {m : MethodId} {args : Array Value} {below : List Frame} {meth : Method} {c : Code} {cells slots : Nat} {Q : State → Prop} {dC : Nat → ClassId} {dI : Nat → Nat → Nat} {cI cB cJ cZ : ClassId} {A : Nat → Prop} {ad : Nat → Nat} {post : St → Prop} (hx : p.tables.exec = Jvm.exec) (hb : c.code = b_Mod_readLevels) (hml : c.maxLocals = 9) (hown : s.vm.findClass R_Mod = some m.cls) (hT : ∀ w ∈ TG, w.before args s = true) (hK : va_K (dC, dI) CL (TY cI cB cJ cZ) s) (hN : NW s) (hA : ∀ q : Nat, s.heap.size ≤ q → A q) (hRc : cells ≤ R.cells) (hRs : slots ≤ R.slots) (hRf : 3 ≤ R.frames) (hRl : 84 ≤ R.locals) (hret : ∀ (x : St) (H : Heap) (locs : List Loc) (pc : Nat) (ls : Array Slot), decode b_Mod_readLevels pc = .ok (.return_, 1) → post x → Wd dC dI cI cB cJ cZ ad stM kcM 115 A x H → va_S A s.heap H locs → W p l e R s m args below meth c H locs cells slots Q (F0 m pc ls []))  : ∀ n : Nat, ∀ (l1 : Nat) (l2 : Int32) (l3 : Int32) (l4 : Int64) (l6 : Int32) (l7 : Int32) (l8 : Int32) (x : St) (H : Heap) (locs : List Loc) (ls : Array Slot), (l1 < 115 ∧ kcM l1 = 20) → wl_Mod_readLevels_150 post n l1 l2 l3 l4 l6 l7 l8 x → Wd dC dI cI cB cJ cZ ad stM kcM 115 A x H → va_S A s.heap H locs → lv_has ls 9 [(0, .ref (ad 0)), (1, .ref (ad l1)), (2, .int l2), (3, .int l3), (4, .long l4), (6, .int l6), (7, .int l7), (8, .int l8)] → W p l e R s m args below meth c H locs cells slots Q (F0 m 150 ls []) := by
  intro n
  induction n with
  | zero => intro l1 l2 l3 l4 l6 l7 l8 x H locs ls fl1 hw; exact hw.elim
  | succ n ih => intro l1 l2 l3 l4 l6 l7 l8 x H locs ls fl1 hw hW hS hl; exact t_Mod_readLevels_150 hx hb hml hown hT hK hN hA hRc hRs hRf hRl hret  ih l1 l2 l3 l4 l6 l7 l8 x H locs ls fl1 hw hW hS hl
set_option maxRecDepth 100000 in
set_option maxHeartbeats 4000000 in
set_option maxRecDepth 100000 in
theorem t_Mod_readLevels_147 {p : Program} {l : Launch} {e : Env} {R : Room} {s : State} {m : MethodId} {args : Array Value} {below : List Frame} {meth : Method} {c : Code} {cells slots : Nat} {Q : State → Prop} {dC : Nat → ClassId} {dI : Nat → Nat → Nat} {cI cB cJ cZ : ClassId} {A : Nat → Prop} {ad : Nat → Nat} {post : St → Prop} (hx : p.tables.exec = Jvm.exec) (hb : c.code = b_Mod_readLevels) (hml : c.maxLocals = 9) (hown : s.vm.findClass R_Mod = some m.cls) (hT : ∀ w ∈ TG, w.before args s = true) (hK : va_K (dC, dI) CL (TY cI cB cJ cZ) s) (hN : NW s) (hA : ∀ q : Nat, s.heap.size ≤ q → A q) (hRc : cells ≤ R.cells) (hRs : slots ≤ R.slots) (hRf : 3 ≤ R.frames) (hRl : 84 ≤ R.locals) (hret : ∀ (x : St) (H : Heap) (locs : List Loc) (pc : Nat) (ls : Array Slot), decode b_Mod_readLevels pc = .ok (.return_, 1) → post x → Wd dC dI cI cB cJ cZ ad stM kcM 115 A x H → va_S A s.heap H locs → W p l e R s m args below meth c H locs cells slots Q (F0 m pc ls []))  : ∀ (l1 : Nat) (l2 : Int32) (l3 : Int32) (l4 : Int64) (l6 : Int32) (l7 : Int32) (x : St) (H : Heap) (locs : List Loc) (ls : Array Slot), (l1 < 115 ∧ kcM l1 = 20) → j_Mod_readLevels_147 post l1 l2 l3 l4 l6 l7 x → Wd dC dI cI cB cJ cZ ad stM kcM 115 A x H → va_S A s.heap H locs → lv_has ls 9 [(0, .ref (ad 0)), (1, .ref (ad l1)), (2, .int l2), (3, .int l3), (4, .long l4), (6, .int l6), (7, .int l7)] → W p l e R s m args below meth c H locs cells slots Q (F0 m 147 ls []) := by
  intro l1 l2 l3 l4 l6 l7 x H locs ls fl1 hw hW hS hl
  unfold j_Mod_readLevels_147 at hw
  refine lv_iconst (v := 0) hx hb d_Mod_readLevels_147 (by decide) ?_
  refine lv_istore (lv' := [(8, .int 0), (0, .ref (ad 0)), (1, .ref (ad l1)), (2, .int l2), (3, .int l3), (4, .long l4), (6, .int l6), (7, .int l7)]) hx hb d_Mod_readLevels_148 hl (by decide) rfl (fun ls hl => ?_)
  obtain ⟨n, hw⟩ := hw
  exact tl_Mod_readLevels_150 hx hb hml hown hT hK hN hA hRc hRs hRf hRl hret  n l1 l2 l3 l4 l6 l7 0 x H locs ls fl1 hw hW hS (lv_sub hl [1, 2, 3, 4, 5, 6, 7, 0] rfl)
set_option maxRecDepth 100000 in
set_option maxHeartbeats 4000000 in
set_option maxRecDepth 100000 in
theorem t_Mod_readLevels_102 {p : Program} {l : Launch} {e : Env} {R : Room} {s : State} {m : MethodId} {args : Array Value} {below : List Frame} {meth : Method} {c : Code} {cells slots : Nat} {Q : State → Prop} {dC : Nat → ClassId} {dI : Nat → Nat → Nat} {cI cB cJ cZ : ClassId} {A : Nat → Prop} {ad : Nat → Nat} {post : St → Prop} {rec102 : Nat → Int32 → Int32 → Int64 → Int32 → Int32 → St → Prop} (hx : p.tables.exec = Jvm.exec) (hb : c.code = b_Mod_readLevels) (hml : c.maxLocals = 9) (hown : s.vm.findClass R_Mod = some m.cls) (hT : ∀ w ∈ TG, w.before args s = true) (hK : va_K (dC, dI) CL (TY cI cB cJ cZ) s) (hN : NW s) (hA : ∀ q : Nat, s.heap.size ≤ q → A q) (hRc : cells ≤ R.cells) (hRs : slots ≤ R.slots) (hRf : 3 ≤ R.frames) (hRl : 84 ≤ R.locals) (hret : ∀ (x : St) (H : Heap) (locs : List Loc) (pc : Nat) (ls : Array Slot), decode b_Mod_readLevels pc = .ok (.return_, 1) → post x → Wd dC dI cI cB cJ cZ ad stM kcM 115 A x H → va_S A s.heap H locs → W p l e R s m args below meth c H locs cells slots Q (F0 m pc ls [])) (hrec102 : ∀ (l1 : Nat) (l2 : Int32) (l3 : Int32) (l4 : Int64) (l6 : Int32) (l7 : Int32) (x : St) (H : Heap) (locs : List Loc) (ls : Array Slot), (l1 < 115 ∧ kcM l1 = 20) → rec102 l1 l2 l3 l4 l6 l7 x → Wd dC dI cI cB cJ cZ ad stM kcM 115 A x H → va_S A s.heap H locs → lv_has ls 9 [(0, .ref (ad 0)), (1, .ref (ad l1)), (2, .int l2), (3, .int l3), (4, .long l4), (6, .int l6), (7, .int l7)] → W p l e R s m args below meth c H locs cells slots Q (F0 m 102 ls [])) : ∀ (l1 : Nat) (l2 : Int32) (l3 : Int32) (l4 : Int64) (l6 : Int32) (l7 : Int32) (x : St) (H : Heap) (locs : List Loc) (ls : Array Slot), (l1 < 115 ∧ kcM l1 = 20) → j_Mod_readLevels_102 post rec102 l1 l2 l3 l4 l6 l7 x → Wd dC dI cI cB cJ cZ ad stM kcM 115 A x H → va_S A s.heap H locs → lv_has ls 9 [(0, .ref (ad 0)), (1, .ref (ad l1)), (2, .int l2), (3, .int l3), (4, .long l4), (6, .int l6), (7, .int l7)] → W p l e R s m args below meth c H locs cells slots Q (F0 m 102 ls []) := by
  intro l1 l2 l3 l4 l6 l7 x H locs ls fl1 hw hW hS hl
  unfold j_Mod_readLevels_102 at hw
  refine lv_iload_n hx hb d_Mod_readLevels_102 rfl (lv_at hl 3 rfl) ?_
  refine lv_iload hx hb d_Mod_readLevels_103 (lv_at hl 6 rfl) ?_
  refine lv_ishr hx hb d_Mod_readLevels_105 ?_
  refine lv_if_le (tgt := 115) hx hb d_Mod_readLevels_106 (by decide) (fun c1201 => ?_) (fun c1201 => ?_)
  · have hw := hw.1 c1201
    refine lv_aload_n hx hb d_Mod_readLevels_115 rfl (lv_at hl 0 rfl) ?_
    refine lv_aload_n hx hb d_Mod_readLevels_116 rfl (lv_at hl 1 rfl) ?_
    refine lv_iload_n hx hb d_Mod_readLevels_117 rfl (lv_at hl 2 rfl) ?_
    refine lv_iload hx hb d_Mod_readLevels_118 (lv_at hl 6 rfl) ?_
    refine lv_iload hx hb d_Mod_readLevels_120 (lv_at hl 5 rfl) ?_
    have hF := hW.free hS hA
    refine va_callv (va_runV (C := R_Mod) (As := [.ref (ad l1), .int l2, .int l7, .int l6]) (rest := []) ⟨hx, hb, hml, hown, hT⟩ (k_Mod_readRuns l dC dI cI cB cJ cZ ad H.size l1 l2 l7 l6 x fl1 hw) ⟨callB_of 4 hT (gwt_in w_12_181) rfl rfl rfl (hT _ w_1_15) (hT _ w_12_178) (by decide +kernel) ⟨Nat.le_trans (Nat.le_of_ble_eq_true rfl) hRf, Nat.le_trans (Nat.le_of_ble_eq_true rfl) hRl⟩, hT _ w_12_180, hT _ ws_199⟩ ⟨PW.blind, va_recv hK hW.1 (ci := 12) (q0 := 0) rfl (pic_obj ko_0.1 ko_0.2 (by decide)), PW.at _ hW hK hN⟩ rfl rfl hl.1 rfl (lv_room (Nat.le_of_ble_eq_true rfl)) d_Mod_readLevels_122 ⟨hRc, hRs⟩) hS (fun q _ h => hF q h) hF (fun  x1202 t H locs ht hvm hw hB hz1 hk1 hS => ?_)
    have hW := Wd.back hB ht hF
    clear hB ht hF hz1 hk1 hvm
    refine lv_aload_n hx hb d_Mod_readLevels_125 rfl (lv_at hl 0 rfl) ?_
    refine w_geti (k := 69) (t := 12) (C := R_Mod) (T := F_Mod) (N := 167) hx hb hT hown hK hW ko_0.1 ko_0.2 (by decide) in_Mod rfl rfl (by decide) rfl fr_Mod_69 w_9_5 d_Mod_readLevels_126 ?_
    refine lv_if_ne (tgt := 147) hx hb d_Mod_readLevels_129 (by decide) (fun c1203 => ?_) (fun c1203 => ?_)
    · have hw := hw.1 c1203
      exact t_Mod_readLevels_147 hx hb hml hown hT hK hN hA hRc hRs hRf hRl hret  l1 l2 l3 l4 l6 l7 x1202 H locs ls fl1 hw hW hS (lv_sub hl [0, 1, 2, 3, 4, 5, 6] rfl)
    · have hw := hw.2 c1203
      refine lv_aload_n hx hb d_Mod_readLevels_132 rfl (lv_at hl 0 rfl) ?_
      refine w_geti (k := 67) (t := 12) (C := R_Mod) (T := F_Mod) (N := 167) hx hb hT hown hK hW ko_0.1 ko_0.2 (by decide) in_Mod rfl rfl (by decide) rfl fr_Mod_67 w_9_3 d_Mod_readLevels_133 ?_
      refine lv_iload hx hb d_Mod_readLevels_136 (lv_at hl 5 rfl) ?_
      refine lv_icmp_ge (tgt := 147) hx hb d_Mod_readLevels_138 (by decide) (fun c1204 => ?_) (fun c1204 => ?_)
      · have hw := hw.1 c1204
        exact t_Mod_readLevels_147 hx hb hml hown hT hK hN hA hRc hRs hRf hRl hret  l1 l2 l3 l4 l6 l7 x1202 H locs ls fl1 hw hW hS (lv_sub hl [0, 1, 2, 3, 4, 5, 6] rfl)
      · have hw := hw.2 c1204
        refine lv_aload_n hx hb d_Mod_readLevels_141 rfl (lv_at hl 0 rfl) ?_
        refine lv_bipush (v := 6) hx hb d_Mod_readLevels_142 (by decide) ?_
        refine w_puti (ty := .int) (k := 69) (t := 12) (C := R_Mod) (T := F_Mod) (N := 167) hx hb hT hown hK hW hS ko_0.1 ko_0.2 (by decide) in_Mod t_Mod t_Mod_ok n_Mod rfl rfl (by decide) rfl fr_Mod_69 w_9_5 (by decide +kernel) rfl rfl d_Mod_readLevels_144 (fun H locs hW hS => ?_)
        obtain ⟨x1205, ex1205⟩ : ∃ y : St, y = setI x1202 0 69 6 := ⟨_, rfl⟩
        rw [← ex1205] at hW
        have hw := hw x1205 ex1205
        exact t_Mod_readLevels_147 hx hb hml hown hT hK hN hA hRc hRs hRf hRl hret  l1 l2 l3 l4 l6 l7 x1205 H locs ls fl1 hw hW hS (lv_sub hl [0, 1, 2, 3, 4, 5, 6] rfl)
  · have hw := hw.2 c1201
    refine lv_iinc (v := (l7 + 1)) (lv' := [(7, .int (l7 + 1)), (0, .ref (ad 0)), (1, .ref (ad l1)), (2, .int l2), (3, .int l3), (4, .long l4), (6, .int l6)]) hx hb d_Mod_readLevels_109 hl (k := 6) rfl rfl (by decide) rfl (fun ls hl => ?_)
    refine lv_goto (tgt := 102) hx hb d_Mod_readLevels_112 (by decide) ?_
    exact hrec102 l1 l2 l3 l4 l6 (l7 + 1) x H locs ls fl1 hw hW hS (lv_sub hl [1, 2, 3, 4, 5, 6, 0] rfl)
set_option maxHeartbeats 4000000 in
set_option maxRecDepth 100000 in
theorem tl_Mod_readLevels_102 {p : Program} {l : Launch} {e : Env} {R : Room} {s : State} {m : MethodId} {args : Array Value} {below : List Frame} {meth : Method} {c : Code} {cells slots : Nat} {Q : State → Prop} {dC : Nat → ClassId} {dI : Nat → Nat → Nat} {cI cB cJ cZ : ClassId} {A : Nat → Prop} {ad : Nat → Nat} {post : St → Prop} (hx : p.tables.exec = Jvm.exec) (hb : c.code = b_Mod_readLevels) (hml : c.maxLocals = 9) (hown : s.vm.findClass R_Mod = some m.cls) (hT : ∀ w ∈ TG, w.before args s = true) (hK : va_K (dC, dI) CL (TY cI cB cJ cZ) s) (hN : NW s) (hA : ∀ q : Nat, s.heap.size ≤ q → A q) (hRc : cells ≤ R.cells) (hRs : slots ≤ R.slots) (hRf : 3 ≤ R.frames) (hRl : 84 ≤ R.locals) (hret : ∀ (x : St) (H : Heap) (locs : List Loc) (pc : Nat) (ls : Array Slot), decode b_Mod_readLevels pc = .ok (.return_, 1) → post x → Wd dC dI cI cB cJ cZ ad stM kcM 115 A x H → va_S A s.heap H locs → W p l e R s m args below meth c H locs cells slots Q (F0 m pc ls []))  : ∀ n : Nat, ∀ (l1 : Nat) (l2 : Int32) (l3 : Int32) (l4 : Int64) (l6 : Int32) (l7 : Int32) (x : St) (H : Heap) (locs : List Loc) (ls : Array Slot), (l1 < 115 ∧ kcM l1 = 20) → wl_Mod_readLevels_102 post n l1 l2 l3 l4 l6 l7 x → Wd dC dI cI cB cJ cZ ad stM kcM 115 A x H → va_S A s.heap H locs → lv_has ls 9 [(0, .ref (ad 0)), (1, .ref (ad l1)), (2, .int l2), (3, .int l3), (4, .long l4), (6, .int l6), (7, .int l7)] → W p l e R s m args below meth c H locs cells slots Q (F0 m 102 ls []) := by
  intro n
  induction n with
  | zero => intro l1 l2 l3 l4 l6 l7 x H locs ls fl1 hw; exact hw.elim
  | succ n ih => intro l1 l2 l3 l4 l6 l7 x H locs ls fl1 hw hW hS hl; exact t_Mod_readLevels_102 hx hb hml hown hT hK hN hA hRc hRs hRf hRl hret  ih l1 l2 l3 l4 l6 l7 x H locs ls fl1 hw hW hS hl
set_option maxRecDepth 100000 in
set_option maxHeartbeats 4000000 in
set_option maxRecDepth 100000 in
theorem t_Mod_readLevels_81 {p : Program} {l : Launch} {e : Env} {R : Room} {s : State} {m : MethodId} {args : Array Value} {below : List Frame} {meth : Method} {c : Code} {cells slots : Nat} {Q : State → Prop} {dC : Nat → ClassId} {dI : Nat → Nat → Nat} {cI cB cJ cZ : ClassId} {A : Nat → Prop} {ad : Nat → Nat} {post : St → Prop} (hx : p.tables.exec = Jvm.exec) (hb : c.code = b_Mod_readLevels) (hml : c.maxLocals = 9) (hown : s.vm.findClass R_Mod = some m.cls) (hT : ∀ w ∈ TG, w.before args s = true) (hK : va_K (dC, dI) CL (TY cI cB cJ cZ) s) (hN : NW s) (hA : ∀ q : Nat, s.heap.size ≤ q → A q) (hRc : cells ≤ R.cells) (hRs : slots ≤ R.slots) (hRf : 3 ≤ R.frames) (hRl : 84 ≤ R.locals) (hret : ∀ (x : St) (H : Heap) (locs : List Loc) (pc : Nat) (ls : Array Slot), decode b_Mod_readLevels pc = .ok (.return_, 1) → post x → Wd dC dI cI cB cJ cZ ad stM kcM 115 A x H → va_S A s.heap H locs → W p l e R s m args below meth c H locs cells slots Q (F0 m pc ls []))  : ∀ (l1 : Nat) (l2 : Int32) (l3 : Int32) (l4 : Int64) (x : St) (H : Heap) (locs : List Loc) (ls : Array Slot), (l1 < 115 ∧ kcM l1 = 20) → j_Mod_readLevels_81 post l1 l2 l3 l4 x → Wd dC dI cI cB cJ cZ ad stM kcM 115 A x H → va_S A s.heap H locs → lv_has ls 9 [(0, .ref (ad 0)), (1, .ref (ad l1)), (2, .int l2), (3, .int l3), (4, .long l4)] → W p l e R s m args below meth c H locs cells slots Q (F0 m 81 ls []) := by
  intro l1 l2 l3 l4 x H locs ls fl1 hw hW hS hl
  unfold j_Mod_readLevels_81 at hw
  refine lv_aload_n hx hb d_Mod_readLevels_81 rfl (lv_at hl 0 rfl) ?_
  refine w_geti (k := 69) (t := 12) (C := R_Mod) (T := F_Mod) (N := 167) hx hb hT hown hK hW ko_0.1 ko_0.2 (by decide) in_Mod rfl rfl (by decide) rfl fr_Mod_69 w_9_5 d_Mod_readLevels_82 ?_
  refine lv_if_eq (tgt := 89) hx hb d_Mod_readLevels_85 (by decide) (fun c1206 => ?_) (fun c1206 => ?_)
  · have hw := hw.1 c1206
    refine lv_aload_n hx hb d_Mod_readLevels_89 rfl (lv_at hl 0 rfl) ?_
    refine w_geti (k := 67) (t := 12) (C := R_Mod) (T := F_Mod) (N := 167) hx hb hT hown hK hW ko_0.1 ko_0.2 (by decide) in_Mod rfl rfl (by decide) rfl fr_Mod_67 w_9_3 d_Mod_readLevels_90 ?_
    refine lv_lload hx hb d_Mod_readLevels_93 (lv_at hl 4 rfl) ?_
    refine lv_l2i hx hb d_Mod_readLevels_95 rfl ?_
    refine lv_iadd hx hb d_Mod_readLevels_96 ?_
    refine lv_topi (fun v1207 ev1207 => ?_)
    have hw := hw v1207 ev1207
    refine lv_istore (lv' := [(6, .int v1207), (0, .ref (ad 0)), (1, .ref (ad l1)), (2, .int l2), (3, .int l3), (4, .long l4)]) hx hb d_Mod_readLevels_97 hl (by decide) rfl (fun ls hl => ?_)
    refine lv_iconst (v := 0) hx hb d_Mod_readLevels_99 (by decide) ?_
    refine lv_istore (lv' := [(7, .int 0), (6, .int v1207), (0, .ref (ad 0)), (1, .ref (ad l1)), (2, .int l2), (3, .int l3), (4, .long l4)]) hx hb d_Mod_readLevels_100 hl (by decide) rfl (fun ls hl => ?_)
    obtain ⟨n, hw⟩ := hw
    exact tl_Mod_readLevels_102 hx hb hml hown hT hK hN hA hRc hRs hRf hRl hret  n l1 l2 l3 l4 v1207 0 x H locs ls fl1 hw hW hS (lv_sub hl [2, 3, 4, 5, 6, 1, 0] rfl)
  · have hw := hw.2 c1206
    exact hret x H locs 88 ls d_Mod_readLevels_88 hw hW hS
set_option maxRecDepth 100000 in
set_option maxHeartbeats 4000000 in
set_option maxRecDepth 100000 in
theorem t_Mod_readLevels_76 {p : Program} {l : Launch} {e : Env} {R : Room} {s : State} {m : MethodId} {args : Array Value} {below : List Frame} {meth : Method} {c : Code} {cells slots : Nat} {Q : State → Prop} {dC : Nat → ClassId} {dI : Nat → Nat → Nat} {cI cB cJ cZ : ClassId} {A : Nat → Prop} {ad : Nat → Nat} {post : St → Prop} (hx : p.tables.exec = Jvm.exec) (hb : c.code = b_Mod_readLevels) (hml : c.maxLocals = 9) (hown : s.vm.findClass R_Mod = some m.cls) (hT : ∀ w ∈ TG, w.before args s = true) (hK : va_K (dC, dI) CL (TY cI cB cJ cZ) s) (hN : NW s) (hA : ∀ q : Nat, s.heap.size ≤ q → A q) (hRc : cells ≤ R.cells) (hRs : slots ≤ R.slots) (hRf : 3 ≤ R.frames) (hRl : 84 ≤ R.locals) (hret : ∀ (x : St) (H : Heap) (locs : List Loc) (pc : Nat) (ls : Array Slot), decode b_Mod_readLevels pc = .ok (.return_, 1) → post x → Wd dC dI cI cB cJ cZ ad stM kcM 115 A x H → va_S A s.heap H locs → W p l e R s m args below meth c H locs cells slots Q (F0 m pc ls []))  : ∀ (l1 : Nat) (l2 : Int32) (l3 : Int32) (l4 : Int64) (x : St) (H : Heap) (locs : List Loc) (ls : Array Slot), (l1 < 115 ∧ kcM l1 = 20) → j_Mod_readLevels_76 post l1 l2 l3 l4 x → Wd dC dI cI cB cJ cZ ad stM kcM 115 A x H → va_S A s.heap H locs → lv_has ls 9 [(0, .ref (ad 0)), (1, .ref (ad l1)), (2, .int l2), (3, .int l3), (4, .long l4)] → W p l e R s m args below meth c H locs cells slots Q (F0 m 76 ls []) := by
  intro l1 l2 l3 l4 x H locs ls fl1 hw hW hS hl
  unfold j_Mod_readLevels_76 at hw
  refine lv_aload_n hx hb d_Mod_readLevels_76 rfl (lv_at hl 0 rfl) ?_
  refine lv_iconst (v := 1) hx hb d_Mod_readLevels_77 (by decide) ?_
  refine w_puti (ty := .int) (k := 69) (t := 12) (C := R_Mod) (T := F_Mod) (N := 167) hx hb hT hown hK hW hS ko_0.1 ko_0.2 (by decide) in_Mod t_Mod t_Mod_ok n_Mod rfl rfl (by decide) rfl fr_Mod_69 w_9_5 (by decide +kernel) rfl rfl d_Mod_readLevels_78 (fun H locs hW hS => ?_)
  obtain ⟨x1208, ex1208⟩ : ∃ y : St, y = setI x 0 69 1 := ⟨_, rfl⟩
  rw [← ex1208] at hW
  have hw := hw x1208 ex1208
  exact t_Mod_readLevels_81 hx hb hml hown hT hK hN hA hRc hRs hRf hRl hret  l1 l2 l3 l4 x1208 H locs ls fl1 hw hW hS (lv_sub hl [0, 1, 2, 3, 4] rfl)
set_option maxRecDepth 100000 in
set_option maxHeartbeats 4000000 in
set_option maxRecDepth 100000 in
theorem t_Mod_readLevels_24 {p : Program} {l : Launch} {e : Env} {R : Room} {s : State} {m : MethodId} {args : Array Value} {below : List Frame} {meth : Method} {c : Code} {cells slots : Nat} {Q : State → Prop} {dC : Nat → ClassId} {dI : Nat → Nat → Nat} {cI cB cJ cZ : ClassId} {A : Nat → Prop} {ad : Nat → Nat} {post : St → Prop} (hx : p.tables.exec = Jvm.exec) (hb : c.code = b_Mod_readLevels) (hml : c.maxLocals = 9) (hown : s.vm.findClass R_Mod = some m.cls) (hT : ∀ w ∈ TG, w.before args s = true) (hK : va_K (dC, dI) CL (TY cI cB cJ cZ) s) (hN : NW s) (hA : ∀ q : Nat, s.heap.size ≤ q → A q) (hRc : cells ≤ R.cells) (hRs : slots ≤ R.slots) (hRf : 3 ≤ R.frames) (hRl : 84 ≤ R.locals) (hret : ∀ (x : St) (H : Heap) (locs : List Loc) (pc : Nat) (ls : Array Slot), decode b_Mod_readLevels pc = .ok (.return_, 1) → post x → Wd dC dI cI cB cJ cZ ad stM kcM 115 A x H → va_S A s.heap H locs → W p l e R s m args below meth c H locs cells slots Q (F0 m pc ls []))  : ∀ (l1 : Nat) (l2 : Int32) (l3 : Int32) (l4 : Int32) (x : St) (H : Heap) (locs : List Loc) (ls : Array Slot), (l1 < 115 ∧ kcM l1 = 20) → j_Mod_readLevels_24 post l1 l2 l3 l4 x → Wd dC dI cI cB cJ cZ ad stM kcM 115 A x H → va_S A s.heap H locs → lv_has ls 9 [(0, .ref (ad 0)), (1, .ref (ad l1)), (2, .int l2), (3, .int l3), (4, .int l4)] → W p l e R s m args below meth c H locs cells slots Q (F0 m 24 ls []) := by
  intro l1 l2 l3 l4 x H locs ls fl1 hw hW hS hl
  unfold j_Mod_readLevels_24 at hw
  refine lv_iload_n hx hb d_Mod_readLevels_24 rfl (lv_at hl 3 rfl) ?_
  refine lv_if_eq (tgt := 35) hx hb d_Mod_readLevels_25 (by decide) (fun c1209 => ?_) (fun c1209 => ?_)
  · have hw := hw.1 c1209
    exact hret x H locs 35 ls d_Mod_readLevels_35 hw hW hS
  · have hw := hw.2 c1209
    refine lv_aload_n hx hb d_Mod_readLevels_28 rfl (lv_at hl 0 rfl) ?_
    refine w_geti (k := 69) (t := 12) (C := R_Mod) (T := F_Mod) (N := 167) hx hb hT hown hK hW ko_0.1 ko_0.2 (by decide) in_Mod rfl rfl (by decide) rfl fr_Mod_69 w_9_5 d_Mod_readLevels_29 ?_
    refine lv_if_eq (tgt := 36) hx hb d_Mod_readLevels_32 (by decide) (fun c1210 => ?_) (fun c1210 => ?_)
    · have hw := hw.1 c1210
      refine lv_aload_n hx hb d_Mod_readLevels_36 rfl (lv_at hl 0 rfl) ?_
      refine lv_aload_n hx hb d_Mod_readLevels_37 rfl (lv_at hl 0 rfl) ?_
      refine w_geti (k := 68) (t := 12) (C := R_Mod) (T := F_Mod) (N := 167) hx hb hT hown hK hW ko_0.1 ko_0.2 (by decide) in_Mod rfl rfl (by decide) rfl fr_Mod_68 w_9_4 d_Mod_readLevels_38 ?_
      have hF := hW.free hS hA
      refine va_calll (va_runV (C := R_Mod) (As := [.int (fI x 0 68)]) (rest := []) ⟨hx, hb, hml, hown, hT⟩ (k_Mod_varint l dC dI cI cB cJ cZ ad H.size (fI x 0 68) x  hw) ⟨callB_of 1 hT (gwt_in w_12_124) rfl rfl rfl (hT _ w_1_15) (hT _ w_12_121) (by decide +kernel) ⟨Nat.le_trans (Nat.le_of_ble_eq_true rfl) hRf, Nat.le_trans (Nat.le_of_ble_eq_true rfl) hRl⟩, hT _ w_12_123, hT _ ws_187⟩ ⟨PW.blind, va_recv hK hW.1 (ci := 12) (q0 := 0) rfl (pic_obj ko_0.1 ko_0.2 (by decide)), PW.at _ hW hK hN⟩ rfl rfl hl.1 rfl (lv_room (Nat.le_of_ble_eq_true rfl)) d_Mod_readLevels_41 ⟨hRc, hRs⟩) hS (fun q _ h => hF q h) hF (fun r1212 x1211 t H locs ht hvm hw hB hz1 hk1 hS => ?_)
      have hW := Wd.back hB ht hF
      clear hB ht hF hz1 hk1 hvm
      refine lv_lstore (lv' := [(4, .long r1212), (0, .ref (ad 0)), (1, .ref (ad l1)), (2, .int l2), (3, .int l3)]) hx hb d_Mod_readLevels_44 hl (by decide) rfl (fun ls hl => ?_)
      refine lv_aload_n hx hb d_Mod_readLevels_46 rfl (lv_at hl 1 rfl) ?_
      refine w_geti (k := 69) (t := 12) (C := R_Mod) (T := F_Mod) (N := 167) hx hb hT hown hK hW ko_0.1 ko_0.2 (by decide) in_Mod rfl rfl (by decide) rfl fr_Mod_69 w_9_5 d_Mod_readLevels_47 ?_
      refine lv_if_ne (tgt := 81) hx hb d_Mod_readLevels_50 (by decide) (fun c1213 => ?_) (fun c1213 => ?_)
      · have hw := hw.1 c1213
        exact t_Mod_readLevels_81 hx hb hml hown hT hK hN hA hRc hRs hRf hRl hret  l1 l2 l3 r1212 x1211 H locs ls fl1 hw hW hS (lv_sub hl [1, 2, 3, 4, 0] rfl)
      · have hw := hw.2 c1213
        refine lv_lload hx hb d_Mod_readLevels_53 (lv_at hl 0 rfl) ?_
        refine lv_lconst (v := 0) hx hb d_Mod_readLevels_55 (by decide) ?_
        refine W.lcmp hx hb d_Mod_readLevels_56 ?_
        refine lv_if_lt (tgt := 76) hx hb d_Mod_readLevels_57 (by decide) (fun c1214 => ?_) (fun c1214 => ?_)
        · have hw := hw.1 c1214
          exact t_Mod_readLevels_76 hx hb hml hown hT hK hN hA hRc hRs hRf hRl hret  l1 l2 l3 r1212 x1211 H locs ls fl1 hw hW hS (lv_sub hl [1, 2, 3, 4, 0] rfl)
        · have hw := hw.2 c1214
          refine lv_lload hx hb d_Mod_readLevels_60 (lv_at hl 0 rfl) ?_
          refine lv_aload_n hx hb d_Mod_readLevels_62 rfl (lv_at hl 1 rfl) ?_
          refine w_geti (k := 68) (t := 12) (C := R_Mod) (T := F_Mod) (N := 167) hx hb hT hown hK hW ko_0.1 ko_0.2 (by decide) in_Mod rfl rfl (by decide) rfl fr_Mod_68 w_9_4 d_Mod_readLevels_63 ?_
          refine lv_aload_n hx hb d_Mod_readLevels_66 rfl (lv_at hl 1 rfl) ?_
          refine w_geti (k := 67) (t := 12) (C := R_Mod) (T := F_Mod) (N := 167) hx hb hT hown hK hW ko_0.1 ko_0.2 (by decide) in_Mod rfl rfl (by decide) rfl fr_Mod_67 w_9_3 d_Mod_readLevels_67 ?_
          refine lv_isub hx hb d_Mod_readLevels_70 ?_
          refine lv_i2l hx hb d_Mod_readLevels_71 rfl ?_
          refine W.lcmp hx hb d_Mod_readLevels_72 ?_
          refine lv_if_le (tgt := 81) hx hb d_Mod_readLevels_73 (by decide) (fun c1215 => ?_) (fun c1215 => ?_)
          · have hw := hw.1 c1215
            exact t_Mod_readLevels_81 hx hb hml hown hT hK hN hA hRc hRs hRf hRl hret  l1 l2 l3 r1212 x1211 H locs ls fl1 hw hW hS (lv_sub hl [1, 2, 3, 4, 0] rfl)
          · have hw := hw.2 c1215
            exact t_Mod_readLevels_76 hx hb hml hown hT hK hN hA hRc hRs hRf hRl hret  l1 l2 l3 r1212 x1211 H locs ls fl1 hw hW hS (lv_sub hl [1, 2, 3, 4, 0] rfl)
    · have hw := hw.2 c1210
      exact hret x H locs 35 ls d_Mod_readLevels_35 hw hW hS
set_option maxRecDepth 100000 in
set_option maxHeartbeats 4000000 in
set_option maxRecDepth 100000 in
theorem t_Mod_readLevels_3 {p : Program} {l : Launch} {e : Env} {R : Room} {s : State} {m : MethodId} {args : Array Value} {below : List Frame} {meth : Method} {c : Code} {cells slots : Nat} {Q : State → Prop} {dC : Nat → ClassId} {dI : Nat → Nat → Nat} {cI cB cJ cZ : ClassId} {A : Nat → Prop} {ad : Nat → Nat} {post : St → Prop} {rec3 : Nat → Int32 → Int32 → Int32 → St → Prop} (hx : p.tables.exec = Jvm.exec) (hb : c.code = b_Mod_readLevels) (hml : c.maxLocals = 9) (hown : s.vm.findClass R_Mod = some m.cls) (hT : ∀ w ∈ TG, w.before args s = true) (hK : va_K (dC, dI) CL (TY cI cB cJ cZ) s) (hN : NW s) (hA : ∀ q : Nat, s.heap.size ≤ q → A q) (hRc : cells ≤ R.cells) (hRs : slots ≤ R.slots) (hRf : 3 ≤ R.frames) (hRl : 84 ≤ R.locals) (hret : ∀ (x : St) (H : Heap) (locs : List Loc) (pc : Nat) (ls : Array Slot), decode b_Mod_readLevels pc = .ok (.return_, 1) → post x → Wd dC dI cI cB cJ cZ ad stM kcM 115 A x H → va_S A s.heap H locs → W p l e R s m args below meth c H locs cells slots Q (F0 m pc ls [])) (hrec3 : ∀ (l1 : Nat) (l2 : Int32) (l3 : Int32) (l4 : Int32) (x : St) (H : Heap) (locs : List Loc) (ls : Array Slot), (l1 < 115 ∧ kcM l1 = 20) → rec3 l1 l2 l3 l4 x → Wd dC dI cI cB cJ cZ ad stM kcM 115 A x H → va_S A s.heap H locs → lv_has ls 9 [(0, .ref (ad 0)), (1, .ref (ad l1)), (2, .int l2), (3, .int l3), (4, .int l4)] → W p l e R s m args below meth c H locs cells slots Q (F0 m 3 ls [])) : ∀ (l1 : Nat) (l2 : Int32) (l3 : Int32) (l4 : Int32) (x : St) (H : Heap) (locs : List Loc) (ls : Array Slot), (l1 < 115 ∧ kcM l1 = 20) → j_Mod_readLevels_3 post rec3 l1 l2 l3 l4 x → Wd dC dI cI cB cJ cZ ad stM kcM 115 A x H → va_S A s.heap H locs → lv_has ls 9 [(0, .ref (ad 0)), (1, .ref (ad l1)), (2, .int l2), (3, .int l3), (4, .int l4)] → W p l e R s m args below meth c H locs cells slots Q (F0 m 3 ls []) := by
  intro l1 l2 l3 l4 x H locs ls fl1 hw hW hS hl
  unfold j_Mod_readLevels_3 at hw
  refine lv_iload hx hb d_Mod_readLevels_3 (lv_at hl 4 rfl) ?_
  refine lv_iload_n hx hb d_Mod_readLevels_5 rfl (lv_at hl 2 rfl) ?_
  refine lv_icmp_ge (tgt := 24) hx hb d_Mod_readLevels_6 (by decide) (fun c1216 => ?_) (fun c1216 => ?_)
  · have hw := hw.1 c1216
    exact t_Mod_readLevels_24 hx hb hml hown hT hK hN hA hRc hRs hRf hRl hret  l1 l2 l3 l4 x H locs ls fl1 hw hW hS (lv_sub hl [0, 1, 2, 3, 4] rfl)
  · have hw := hw.2 c1216
    refine lv_iload_n hx hb d_Mod_readLevels_9 rfl (lv_at hl 3 rfl) ?_
    refine lv_if_ne (tgt := 24) hx hb d_Mod_readLevels_10 (by decide) (fun c1217 => ?_) (fun c1217 => ?_)
    · have hw := hw.1 c1217
      exact t_Mod_readLevels_24 hx hb hml hown hT hK hN hA hRc hRs hRf hRl hret  l1 l2 l3 l4 x H locs ls fl1 hw hW hS (lv_sub hl [0, 1, 2, 3, 4] rfl)
    · have hw := hw.2 c1217
      refine lv_aload_n hx hb d_Mod_readLevels_13 rfl (lv_at hl 1 rfl) ?_
      refine lv_iload hx hb d_Mod_readLevels_14 (lv_at hl 4 rfl) ?_
      refine lv_iconst (v := 0) hx hb d_Mod_readLevels_16 (by decide) ?_
      obtain ⟨hi, hw⟩ := hw
      refine w_iast (o := l1) hx hb hK hW hS fl1.1 fl1.2 hi d_Mod_readLevels_17 (fun H locs hW hS => ?_)
      obtain ⟨x1218, ex1218⟩ : ∃ y : St, y = setA x l1 l4 0 := ⟨_, rfl⟩
      rw [← ex1218] at hW
      have hw := hw x1218 ex1218
      refine lv_iinc (v := (l4 + 1)) (lv' := [(4, .int (l4 + 1)), (0, .ref (ad 0)), (1, .ref (ad l1)), (2, .int l2), (3, .int l3)]) hx hb d_Mod_readLevels_18 hl (k := 4) rfl rfl (by decide) rfl (fun ls hl => ?_)
      refine lv_goto (tgt := 3) hx hb d_Mod_readLevels_21 (by decide) ?_
      exact hrec3 l1 l2 l3 (l4 + 1) x1218 H locs ls fl1 hw hW hS (lv_sub hl [1, 2, 3, 4, 0] rfl)
set_option maxHeartbeats 4000000 in
set_option maxRecDepth 100000 in
theorem tl_Mod_readLevels_3 {p : Program} {l : Launch} {e : Env} {R : Room} {s : State} {m : MethodId} {args : Array Value} {below : List Frame} {meth : Method} {c : Code} {cells slots : Nat} {Q : State → Prop} {dC : Nat → ClassId} {dI : Nat → Nat → Nat} {cI cB cJ cZ : ClassId} {A : Nat → Prop} {ad : Nat → Nat} {post : St → Prop} (hx : p.tables.exec = Jvm.exec) (hb : c.code = b_Mod_readLevels) (hml : c.maxLocals = 9) (hown : s.vm.findClass R_Mod = some m.cls) (hT : ∀ w ∈ TG, w.before args s = true) (hK : va_K (dC, dI) CL (TY cI cB cJ cZ) s) (hN : NW s) (hA : ∀ q : Nat, s.heap.size ≤ q → A q) (hRc : cells ≤ R.cells) (hRs : slots ≤ R.slots) (hRf : 3 ≤ R.frames) (hRl : 84 ≤ R.locals) (hret : ∀ (x : St) (H : Heap) (locs : List Loc) (pc : Nat) (ls : Array Slot), decode b_Mod_readLevels pc = .ok (.return_, 1) → post x → Wd dC dI cI cB cJ cZ ad stM kcM 115 A x H → va_S A s.heap H locs → W p l e R s m args below meth c H locs cells slots Q (F0 m pc ls []))  : ∀ n : Nat, ∀ (l1 : Nat) (l2 : Int32) (l3 : Int32) (l4 : Int32) (x : St) (H : Heap) (locs : List Loc) (ls : Array Slot), (l1 < 115 ∧ kcM l1 = 20) → wl_Mod_readLevels_3 post n l1 l2 l3 l4 x → Wd dC dI cI cB cJ cZ ad stM kcM 115 A x H → va_S A s.heap H locs → lv_has ls 9 [(0, .ref (ad 0)), (1, .ref (ad l1)), (2, .int l2), (3, .int l3), (4, .int l4)] → W p l e R s m args below meth c H locs cells slots Q (F0 m 3 ls []) := by
  intro n
  induction n with
  | zero => intro l1 l2 l3 l4 x H locs ls fl1 hw; exact hw.elim
  | succ n ih => intro l1 l2 l3 l4 x H locs ls fl1 hw hW hS hl; exact t_Mod_readLevels_3 hx hb hml hown hT hK hN hA hRc hRs hRf hRl hret  ih l1 l2 l3 l4 x H locs ls fl1 hw hW hS hl
set_option maxRecDepth 100000 in
set_option maxHeartbeats 4000000 in
set_option maxRecDepth 100000 in
theorem t_Mod_readLevels_e {p : Program} {l : Launch} {e : Env} {R : Room} {s : State} {m : MethodId} {args : Array Value} {below : List Frame} {meth : Method} {c : Code} {cells slots : Nat} {Q : State → Prop} {dC : Nat → ClassId} {dI : Nat → Nat → Nat} {cI cB cJ cZ : ClassId} {A : Nat → Prop} {ad : Nat → Nat} {post : St → Prop} (hx : p.tables.exec = Jvm.exec) (hb : c.code = b_Mod_readLevels) (hml : c.maxLocals = 9) (hown : s.vm.findClass R_Mod = some m.cls) (hT : ∀ w ∈ TG, w.before args s = true) (hK : va_K (dC, dI) CL (TY cI cB cJ cZ) s) (hN : NW s) (hA : ∀ q : Nat, s.heap.size ≤ q → A q) (hRc : cells ≤ R.cells) (hRs : slots ≤ R.slots) (hRf : 3 ≤ R.frames) (hRl : 84 ≤ R.locals) (hret : ∀ (x : St) (H : Heap) (locs : List Loc) (pc : Nat) (ls : Array Slot), decode b_Mod_readLevels pc = .ok (.return_, 1) → post x → Wd dC dI cI cB cJ cZ ad stM kcM 115 A x H → va_S A s.heap H locs → W p l e R s m args below meth c H locs cells slots Q (F0 m pc ls [])) : ∀ (l1 : Nat) (l2 : Int32) (l3 : Int32) (x : St) (H : Heap) (locs : List Loc) (ls : Array Slot), (l1 < 115 ∧ kcM l1 = 20) → wp_Mod_readLevels post l1 l2 l3 x → Wd dC dI cI cB cJ cZ ad stM kcM 115 A x H → va_S A s.heap H locs → lv_has ls 9 [(0, .ref (ad 0)), (1, .ref (ad l1)), (2, .int l2), (3, .int l3)] → W p l e R s m args below meth c H locs cells slots Q (F0 m 0 ls []) := by
  intro l1 l2 l3 x H locs ls fl1 hw hW hS hl
  unfold wp_Mod_readLevels at hw
  refine lv_iconst (v := 0) hx hb d_Mod_readLevels_0 (by decide) ?_
  refine lv_istore (lv' := [(4, .int 0), (0, .ref (ad 0)), (1, .ref (ad l1)), (2, .int l2), (3, .int l3)]) hx hb d_Mod_readLevels_1 hl (by decide) rfl (fun ls hl => ?_)
  obtain ⟨n, hw⟩ := hw
  exact tl_Mod_readLevels_3 hx hb hml hown hT hK hN hA hRc hRs hRf hRl hret  n l1 l2 l3 0 x H locs ls fl1 hw hW hS (lv_sub hl [1, 2, 3, 4, 0] rfl)
set_option maxHeartbeats 4000000 in
set_option maxRecDepth 100000 in
theorem k_Mod_readLevels (l : Launch) (dC : Nat → ClassId) (dI : Nat → Nat → Nat) (cI cB cJ cZ : ClassId) (ad : Nat → Nat) (sz : Nat) (l1 : Nat) (l2 : Int32) (l3 : Int32) (x : St) (fl1 : l1 < 115 ∧ kcM l1 = 20) {post : St → Prop} (hw : wp_Mod_readLevels post l1 l2 l3 x) : Met l y_Mod_readLevels (wsOf y_Mod_readLevels b_Mod_readLevels 9 (none)) ({ frames := 3, cells := 0, slots := 0, locals := 84 }) (va_Pc [.ref (ad 0), .ref (ad l1), .int l2, .int l3] (PW dC dI cI cB cJ cZ ad stM kcM 115 sz x)) (va_Qv (fun (y : St) => post y) (fun y t => Wd dC dI cI cB cJ cZ ad stM kcM 115 (va_A (pic ad stM kcM 115 cI cB cJ cZ x) sz) y t.heap) (va_A (pic ad stM kcM 115 cI cB cJ cZ x) sz)) 0 0 (va_A (pic ad stM kcM 115 cI cB cJ cZ x) sz) := by
  refine Met.ofW (cc := b_Mod_readLevels) (maxL := 9) (ret := none) (by decide) rfl ?_
  intro p e s m args below meth c s₁ B hml hv
  obtain ⟨rfl, hsz, hW0, hK, hN⟩ := hv
  have hx := B.exec
  have hb := B.bytes
  have hr := B.returns
  have hts := atoms_spec B.pre
  have hT : ∀ w ∈ TG, w.before _ s = true := fun w h => hts w (List.mem_cons_of_mem _ h)
  have hown : s.vm.findClass R_Mod = some m.cls := findClass_of_methodNamed B.named
  have hlocks := B.notSynchronized
  subst hsz
  have hW : Wd dC dI cI cB cJ cZ ad stM kcM 115 (va_A (pic ad stM kcM 115 cI cB cJ cZ x) s.heap.size) x s.heap := ⟨hW0.1, hW0.2.1.self (sz := s.heap.size), hW0.2.2⟩
  generalize hAe : va_A (pic ad stM kcM 115 cI cB cJ cZ x) s.heap.size = A at hW ⊢
  have hA : ∀ q : Nat, s.heap.size ≤ q → A q := fun q h => by rw [← hAe]; exact Or.inr h
  have hS : va_S A s.heap s.heap [] := va_S.rf
  have hl := lv_entry ([.ref (ad 0), .ref (ad l1), .int l2, .int l3]) (n := 9) (Nat.le_of_ble_eq_true rfl)
  rw [lg_entry_eq]
  generalize (lg_sl ([.ref (ad 0), .ref (ad l1), .int l2, .int l3]) ++ List.replicate (9 - (lg_sl ([.ref (ad 0), .ref (ad l1), .int l2, .int l3])).length) Slot.unset).toArray = ls at hl ⊢
  have hl : lv_has ls 9 [(0, .ref (ad 0)), (1, .ref (ad l1)), (2, .int l2), (3, .int l3)] := hl
  exact t_Mod_readLevels_e hx hb hml hown hT hK hN hA (Nat.le_refl 0) (Nat.le_refl 0) (Nat.le_refl 3) (Nat.le_refl 84) (fun x H locs pc ls hd hp hW hS => W.vret hx hb hr (fun t ht hM => ⟨⟨x, rfl, hp, Wd.back hW ht.symm (fun _ z => z)⟩, hS.F ht⟩) hS.2.2 hd hlocks)  l1 l2 l3 x _ _ ls fl1 hw hW hS hl
end
