theorem fr_Mod_161 : F_Mod 161 = (R_Mod, "answers", "I", false) := rfl
theorem fr_Mod_163 : F_Mod 163 = (R_Mod, "skippedGroups", "I", false) := rfl
theorem fr_Mod_164 : F_Mod 164 = (R_Mod, "skippedStretches", "I", false) := rfl
theorem w_13_200 : (Jvm.Cond.methodLink "StripedVaultModel" (1156 : Nat) ({ cls := "StripedVaultModel", name := "lookAtAll", desc := "()V" } : Jvm.MethodName)) ∈ TG := tw_13 200 (by decide +kernel) (by decide +kernel)
theorem w_13_202 : (Jvm.Cond.instanceMethod ({ cls := "StripedVaultModel", name := "lookAtAll", desc := "()V" } : Jvm.MethodName)) ∈ TG := tw_13 202 (by decide +kernel) (by decide +kernel)
theorem w_13_203 : (Jvm.Cond.code ({ cls := "StripedVaultModel", name := "lookAtAll", desc := "()V" } : Jvm.MethodName) prog_14_method_193_code (6 : Nat) (Option.none : Option Jvm.ClassFile.FieldType)) ∈ TG := tw_13 203 (by decide +kernel) (by decide +kernel)
theorem w_14_32 : (Jvm.Cond.methodLink "StripedVaultModel" (1159 : Nat) ({ cls := "StripedVaultModel", name := "collectAll", desc := "()Z" } : Jvm.MethodName)) ∈ TG := tw_14 32 (by decide +kernel) (by decide +kernel)
theorem w_14_34 : (Jvm.Cond.instanceMethod ({ cls := "StripedVaultModel", name := "collectAll", desc := "()Z" } : Jvm.MethodName)) ∈ TG := tw_14 34 (by decide +kernel) (by decide +kernel)
theorem w_14_35 : (Jvm.Cond.code ({ cls := "StripedVaultModel", name := "collectAll", desc := "()Z" } : Jvm.MethodName) prog_14_method_197_code (4 : Nat) (Option.some Jvm.ClassFile.FieldType.boolean)) ∈ TG := tw_14 35 (by decide +kernel) (by decide +kernel)
theorem w_14_52 : (Jvm.Cond.methodLink "StripedVaultModel" (1172 : Nat) ({ cls := "StripedVaultModel", name := "isRow", desc := "(I)Z" } : Jvm.MethodName)) ∈ TG := tw_14 52 (by decide +kernel) (by decide +kernel)
theorem w_14_54 : (Jvm.Cond.instanceMethod ({ cls := "StripedVaultModel", name := "isRow", desc := "(I)Z" } : Jvm.MethodName)) ∈ TG := tw_14 54 (by decide +kernel) (by decide +kernel)
theorem w_14_55 : (Jvm.Cond.code ({ cls := "StripedVaultModel", name := "isRow", desc := "(I)Z" } : Jvm.MethodName) prog_14_method_199_code (2 : Nat) (Option.some Jvm.ClassFile.FieldType.boolean)) ∈ TG := tw_14 55 (by decide +kernel) (by decide +kernel)
theorem w_9_100 : (Jvm.Cond.fieldLink "StripedVaultModel" (1169 : Nat) "StripedVaultModel" "skippedStretches" "I") ∈ TG := tw_9 100 (by decide +kernel) (by decide +kernel)
theorem w_9_97 : (Jvm.Cond.fieldLink "StripedVaultModel" (1163 : Nat) "StripedVaultModel" "answers" "I") ∈ TG := tw_9 97 (by decide +kernel) (by decide +kernel)
theorem w_9_99 : (Jvm.Cond.fieldLink "StripedVaultModel" (1166 : Nat) "StripedVaultModel" "skippedGroups" "I") ∈ TG := tw_9 99 (by decide +kernel) (by decide +kernel)
theorem ws_252 : Cond.selects R_Mod y_Mod_lookAtAll y_Mod_lookAtAll ∈ TG := tw_s 252 (by decide +kernel) (by decide +kernel)
theorem ws_267 : Cond.selects R_Mod y_Mod_collectAll y_Mod_collectAll ∈ TG := tw_s 267 (by decide +kernel) (by decide +kernel)
theorem ws_271 : Cond.selects R_Mod y_Mod_isRow y_Mod_isRow ∈ TG := tw_s 271 (by decide +kernel) (by decide +kernel)
theorem d_Mod_run_183 : decode b_Mod_run 183 = .ok (.aload_n 0, 1) := by decide +kernel
theorem d_Mod_run_184 : decode b_Mod_run 184 = .ok (.iconst 1, 1) := by decide +kernel
theorem d_Mod_run_185 : decode b_Mod_run 185 = .ok (.putfield 923, 3) := by decide +kernel
theorem d_Mod_run_188 : decode b_Mod_run 188 = .ok (.aload_n 0, 1) := by decide +kernel
theorem d_Mod_run_189 : decode b_Mod_run 189 = .ok (.aload_n 0, 1) := by decide +kernel
theorem d_Mod_run_190 : decode b_Mod_run 190 = .ok (.getfield 1062, 3) := by decide +kernel
theorem d_Mod_run_193 : decode b_Mod_run 193 = .ok (.putfield 1065, 3) := by decide +kernel
theorem d_Mod_run_196 : decode b_Mod_run 196 = .ok (.aload_n 0, 1) := by decide +kernel
theorem d_Mod_run_197 : decode b_Mod_run 197 = .ok (.aload_n 0, 1) := by decide +kernel
theorem d_Mod_run_198 : decode b_Mod_run 198 = .ok (.getfield 1135, 3) := by decide +kernel
theorem d_Mod_run_201 : decode b_Mod_run 201 = .ok (.putfield 1166, 3) := by decide +kernel
theorem d_Mod_run_204 : decode b_Mod_run 204 = .ok (.aload_n 0, 1) := by decide +kernel
theorem d_Mod_run_205 : decode b_Mod_run 205 = .ok (.aload_n 0, 1) := by decide +kernel
theorem d_Mod_run_206 : decode b_Mod_run 206 = .ok (.getfield 1132, 3) := by decide +kernel
theorem d_Mod_run_209 : decode b_Mod_run 209 = .ok (.putfield 1169, 3) := by decide +kernel
theorem d_Mod_run_212 : decode b_Mod_run 212 = .ok (.aload_n 0, 1) := by decide +kernel
theorem d_Mod_run_213 : decode b_Mod_run 213 = .ok (.getfield 1163, 3) := by decide +kernel
theorem d_Mod_run_216 : decode b_Mod_run 216 = .ok (.ireturn, 1) := by decide +kernel
theorem d_Mod_run_157 : decode b_Mod_run 157 = .ok (.iload_n 1, 1) := by decide +kernel
theorem d_Mod_run_158 : decode b_Mod_run 158 = .ok (.aload_n 0, 1) := by decide +kernel
theorem d_Mod_run_159 : decode b_Mod_run 159 = .ok (.getfield 1163, 3) := by decide +kernel
theorem d_Mod_run_162 : decode b_Mod_run 162 = .ok (.if_icmp .ge 21, 3) := by decide +kernel
theorem d_Mod_run_165 : decode b_Mod_run 165 = .ok (.aload_n 0, 1) := by decide +kernel
theorem d_Mod_run_166 : decode b_Mod_run 166 = .ok (.getfield 327, 3) := by decide +kernel
theorem d_Mod_run_169 : decode b_Mod_run 169 = .ok (.iload_n 1, 1) := by decide +kernel
theorem d_Mod_run_170 : decode b_Mod_run 170 = .ok (.aload_n 0, 1) := by decide +kernel
theorem d_Mod_run_171 : decode b_Mod_run 171 = .ok (.getfield 324, 3) := by decide +kernel
theorem d_Mod_run_174 : decode b_Mod_run 174 = .ok (.iload_n 1, 1) := by decide +kernel
theorem d_Mod_run_175 : decode b_Mod_run 175 = .ok (.iaload, 1) := by decide +kernel
theorem d_Mod_run_176 : decode b_Mod_run 176 = .ok (.iastore, 1) := by decide +kernel
theorem d_Mod_run_177 : decode b_Mod_run 177 = .ok (.iinc 1 1, 3) := by decide +kernel
theorem d_Mod_run_180 : decode b_Mod_run 180 = .ok (.goto (-23), 3) := by decide +kernel
theorem d_Mod_run_85 : decode b_Mod_run 85 = .ok (.iload_n 2, 1) := by decide +kernel
theorem d_Mod_run_86 : decode b_Mod_run 86 = .ok (.bipush 16, 2) := by decide +kernel
theorem d_Mod_run_88 : decode b_Mod_run 88 = .ok (.iload_n 1, 1) := by decide +kernel
theorem d_Mod_run_89 : decode b_Mod_run 89 = .ok (.imul, 1) := by decide +kernel
theorem d_Mod_run_90 : decode b_Mod_run 90 = .ok (.bipush 16, 2) := by decide +kernel
theorem d_Mod_run_92 : decode b_Mod_run 92 = .ok (.iadd, 1) := by decide +kernel
theorem d_Mod_run_93 : decode b_Mod_run 93 = .ok (.if_icmp .ge 45, 3) := by decide +kernel
theorem d_Mod_run_138 : decode b_Mod_run 138 = .ok (.iinc 1 1, 3) := by decide +kernel
theorem d_Mod_run_141 : decode b_Mod_run 141 = .ok (.goto (-93), 3) := by decide +kernel
theorem d_Mod_run_96 : decode b_Mod_run 96 = .ok (.aload_n 0, 1) := by decide +kernel
theorem d_Mod_run_97 : decode b_Mod_run 97 = .ok (.getfield 348, 3) := by decide +kernel
theorem d_Mod_run_100 : decode b_Mod_run 100 = .ok (.iload_n 2, 1) := by decide +kernel
theorem d_Mod_run_101 : decode b_Mod_run 101 = .ok (.aload_n 0, 1) := by decide +kernel
theorem d_Mod_run_102 : decode b_Mod_run 102 = .ok (.getfield 336, 3) := by decide +kernel
theorem d_Mod_run_105 : decode b_Mod_run 105 = .ok (.iload_n 2, 1) := by decide +kernel
theorem d_Mod_run_106 : decode b_Mod_run 106 = .ok (.iaload, 1) := by decide +kernel
theorem d_Mod_run_107 : decode b_Mod_run 107 = .ok (.iastore, 1) := by decide +kernel
theorem d_Mod_run_108 : decode b_Mod_run 108 = .ok (.aload_n 0, 1) := by decide +kernel
theorem d_Mod_run_109 : decode b_Mod_run 109 = .ok (.getfield 357, 3) := by decide +kernel
theorem d_Mod_run_112 : decode b_Mod_run 112 = .ok (.iload_n 2, 1) := by decide +kernel
theorem d_Mod_run_113 : decode b_Mod_run 113 = .ok (.aload_n 0, 1) := by decide +kernel
theorem d_Mod_run_114 : decode b_Mod_run 114 = .ok (.getfield 354, 3) := by decide +kernel
theorem d_Mod_run_117 : decode b_Mod_run 117 = .ok (.iload_n 2, 1) := by decide +kernel
theorem d_Mod_run_118 : decode b_Mod_run 118 = .ok (.laload, 1) := by decide +kernel
theorem d_Mod_run_119 : decode b_Mod_run 119 = .ok (.lastore, 1) := by decide +kernel
theorem d_Mod_run_120 : decode b_Mod_run 120 = .ok (.aload_n 0, 1) := by decide +kernel
theorem d_Mod_run_121 : decode b_Mod_run 121 = .ok (.getfield 351, 3) := by decide +kernel
theorem d_Mod_run_124 : decode b_Mod_run 124 = .ok (.iload_n 2, 1) := by decide +kernel
theorem d_Mod_run_125 : decode b_Mod_run 125 = .ok (.aload_n 0, 1) := by decide +kernel
theorem d_Mod_run_126 : decode b_Mod_run 126 = .ok (.getfield 339, 3) := by decide +kernel
theorem d_Mod_run_129 : decode b_Mod_run 129 = .ok (.iload_n 2, 1) := by decide +kernel
theorem d_Mod_run_130 : decode b_Mod_run 130 = .ok (.iaload, 1) := by decide +kernel
theorem d_Mod_run_131 : decode b_Mod_run 131 = .ok (.iastore, 1) := by decide +kernel
theorem d_Mod_run_132 : decode b_Mod_run 132 = .ok (.iinc 2 1, 3) := by decide +kernel
theorem d_Mod_run_135 : decode b_Mod_run 135 = .ok (.goto (-50), 3) := by decide +kernel
theorem d_Mod_run_48 : decode b_Mod_run 48 = .ok (.iload_n 1, 1) := by decide +kernel
theorem d_Mod_run_49 : decode b_Mod_run 49 = .ok (.aload_n 0, 1) := by decide +kernel
theorem d_Mod_run_50 : decode b_Mod_run 50 = .ok (.getfield 1163, 3) := by decide +kernel
theorem d_Mod_run_53 : decode b_Mod_run 53 = .ok (.if_icmp .ge 91, 3) := by decide +kernel
theorem d_Mod_run_144 : decode b_Mod_run 144 = .ok (.goto 39, 3) := by decide +kernel
theorem d_Mod_run_56 : decode b_Mod_run 56 = .ok (.aload_n 0, 1) := by decide +kernel
theorem d_Mod_run_57 : decode b_Mod_run 57 = .ok (.getfield 342, 3) := by decide +kernel
theorem d_Mod_run_60 : decode b_Mod_run 60 = .ok (.iload_n 1, 1) := by decide +kernel
theorem d_Mod_run_61 : decode b_Mod_run 61 = .ok (.aload_n 0, 1) := by decide +kernel
theorem d_Mod_run_62 : decode b_Mod_run 62 = .ok (.getfield 330, 3) := by decide +kernel
theorem d_Mod_run_65 : decode b_Mod_run 65 = .ok (.iload_n 1, 1) := by decide +kernel
theorem d_Mod_run_66 : decode b_Mod_run 66 = .ok (.iaload, 1) := by decide +kernel
theorem d_Mod_run_67 : decode b_Mod_run 67 = .ok (.iastore, 1) := by decide +kernel
theorem d_Mod_run_68 : decode b_Mod_run 68 = .ok (.aload_n 0, 1) := by decide +kernel
theorem d_Mod_run_69 : decode b_Mod_run 69 = .ok (.getfield 345, 3) := by decide +kernel
theorem d_Mod_run_72 : decode b_Mod_run 72 = .ok (.iload_n 1, 1) := by decide +kernel
theorem d_Mod_run_73 : decode b_Mod_run 73 = .ok (.aload_n 0, 1) := by decide +kernel
theorem d_Mod_run_74 : decode b_Mod_run 74 = .ok (.getfield 333, 3) := by decide +kernel
theorem d_Mod_run_77 : decode b_Mod_run 77 = .ok (.iload_n 1, 1) := by decide +kernel
theorem d_Mod_run_78 : decode b_Mod_run 78 = .ok (.iaload, 1) := by decide +kernel
theorem d_Mod_run_79 : decode b_Mod_run 79 = .ok (.iastore, 1) := by decide +kernel
theorem d_Mod_run_80 : decode b_Mod_run 80 = .ok (.bipush 16, 2) := by decide +kernel
theorem d_Mod_run_82 : decode b_Mod_run 82 = .ok (.iload_n 1, 1) := by decide +kernel
theorem d_Mod_run_83 : decode b_Mod_run 83 = .ok (.imul, 1) := by decide +kernel
theorem d_Mod_run_84 : decode b_Mod_run 84 = .ok (.istore_n 2, 1) := by decide +kernel
theorem d_Mod_run_0 : decode b_Mod_run 0 = .ok (.aload_n 0, 1) := by decide +kernel
theorem d_Mod_run_1 : decode b_Mod_run 1 = .ok (.iconst 0, 1) := by decide +kernel
theorem d_Mod_run_2 : decode b_Mod_run 2 = .ok (.putfield 360, 3) := by decide +kernel
theorem d_Mod_run_5 : decode b_Mod_run 5 = .ok (.aload_n 0, 1) := by decide +kernel
theorem d_Mod_run_6 : decode b_Mod_run 6 = .ok (.getfield 920, 3) := by decide +kernel
theorem d_Mod_run_9 : decode b_Mod_run 9 = .ok (.ifCond .ne 5, 3) := by decide +kernel
theorem d_Mod_run_14 : decode b_Mod_run 14 = .ok (.aload_n 0, 1) := by decide +kernel
theorem d_Mod_run_15 : decode b_Mod_run 15 = .ok (.invokevirtual 1156, 3) := by decide +kernel
theorem d_Mod_run_18 : decode b_Mod_run 18 = .ok (.aload_n 0, 1) := by decide +kernel
theorem d_Mod_run_19 : decode b_Mod_run 19 = .ok (.aload_n 0, 1) := by decide +kernel
theorem d_Mod_run_20 : decode b_Mod_run 20 = .ok (.getfield 1062, 3) := by decide +kernel
theorem d_Mod_run_23 : decode b_Mod_run 23 = .ok (.invokevirtual 1077, 3) := by decide +kernel
theorem d_Mod_run_26 : decode b_Mod_run 26 = .ok (.ifCond .eq 121, 3) := by decide +kernel
theorem d_Mod_run_147 : decode b_Mod_run 147 = .ok (.aload_n 0, 1) := by decide +kernel
theorem d_Mod_run_148 : decode b_Mod_run 148 = .ok (.aload_n 0, 1) := by decide +kernel
theorem d_Mod_run_149 : decode b_Mod_run 149 = .ok (.getfield 1120, 3) := by decide +kernel
theorem d_Mod_run_152 : decode b_Mod_run 152 = .ok (.putfield 1163, 3) := by decide +kernel
theorem d_Mod_run_155 : decode b_Mod_run 155 = .ok (.iconst 0, 1) := by decide +kernel
theorem d_Mod_run_156 : decode b_Mod_run 156 = .ok (.istore_n 1, 1) := by decide +kernel
theorem d_Mod_run_29 : decode b_Mod_run 29 = .ok (.aload_n 0, 1) := by decide +kernel
theorem d_Mod_run_30 : decode b_Mod_run 30 = .ok (.invokevirtual 1159, 3) := by decide +kernel
theorem d_Mod_run_33 : decode b_Mod_run 33 = .ok (.ifCond .ne 5, 3) := by decide +kernel
theorem d_Mod_run_38 : decode b_Mod_run 38 = .ok (.aload_n 0, 1) := by decide +kernel
theorem d_Mod_run_39 : decode b_Mod_run 39 = .ok (.aload_n 0, 1) := by decide +kernel
theorem d_Mod_run_40 : decode b_Mod_run 40 = .ok (.getfield 1144, 3) := by decide +kernel
theorem d_Mod_run_43 : decode b_Mod_run 43 = .ok (.putfield 1163, 3) := by decide +kernel
theorem d_Mod_run_46 : decode b_Mod_run 46 = .ok (.iconst 0, 1) := by decide +kernel
theorem d_Mod_run_47 : decode b_Mod_run 47 = .ok (.istore_n 1, 1) := by decide +kernel
theorem d_Mod_run_36 : decode b_Mod_run 36 = .ok (.iconst (-1), 1) := by decide +kernel
theorem d_Mod_run_37 : decode b_Mod_run 37 = .ok (.ireturn, 1) := by decide +kernel
theorem d_Mod_run_12 : decode b_Mod_run 12 = .ok (.iconst (-1), 1) := by decide +kernel
theorem d_Mod_run_13 : decode b_Mod_run 13 = .ok (.ireturn, 1) := by decide +kernel
theorem d_Mod_isRow_34 : decode b_Mod_isRow 34 = .ok (.iconst 0, 1) := by decide +kernel
theorem d_Mod_isRow_35 : decode b_Mod_isRow 35 = .ok (.ireturn, 1) := by decide +kernel
theorem d_Mod_isRow_0 : decode b_Mod_isRow 0 = .ok (.aload_n 0, 1) := by decide +kernel
theorem d_Mod_isRow_1 : decode b_Mod_isRow 1 = .ok (.getfield 923, 3) := by decide +kernel
theorem d_Mod_isRow_4 : decode b_Mod_isRow 4 = .ok (.ifCond .eq 30, 3) := by decide +kernel
theorem d_Mod_isRow_7 : decode b_Mod_isRow 7 = .ok (.aload_n 0, 1) := by decide +kernel
theorem d_Mod_isRow_8 : decode b_Mod_isRow 8 = .ok (.aload_n 0, 1) := by decide +kernel
theorem d_Mod_isRow_9 : decode b_Mod_isRow 9 = .ok (.getfield 1065, 3) := by decide +kernel
theorem d_Mod_isRow_12 : decode b_Mod_isRow 12 = .ok (.invokevirtual 1077, 3) := by decide +kernel
theorem d_Mod_isRow_15 : decode b_Mod_isRow 15 = .ok (.ifCond .ne 19, 3) := by decide +kernel
theorem d_Mod_isRow_18 : decode b_Mod_isRow 18 = .ok (.iload_n 1, 1) := by decide +kernel
theorem d_Mod_isRow_19 : decode b_Mod_isRow 19 = .ok (.ifCond .lt 15, 3) := by decide +kernel
theorem d_Mod_isRow_22 : decode b_Mod_isRow 22 = .ok (.iload_n 1, 1) := by decide +kernel
theorem d_Mod_isRow_23 : decode b_Mod_isRow 23 = .ok (.aload_n 0, 1) := by decide +kernel
theorem d_Mod_isRow_24 : decode b_Mod_isRow 24 = .ok (.getfield 1163, 3) := by decide +kernel
theorem d_Mod_isRow_27 : decode b_Mod_isRow 27 = .ok (.if_icmp .ge 7, 3) := by decide +kernel
theorem d_Mod_isRow_30 : decode b_Mod_isRow 30 = .ok (.iconst 1, 1) := by decide +kernel
theorem d_Mod_isRow_31 : decode b_Mod_isRow 31 = .ok (.goto 4, 3) := by decide +kernel
theorem d_Mod_row_0 : decode b_Mod_row 0 = .ok (.aload_n 0, 1) := by decide +kernel
theorem d_Mod_row_1 : decode b_Mod_row 1 = .ok (.iconst 0, 1) := by decide +kernel
theorem d_Mod_row_2 : decode b_Mod_row 2 = .ok (.putfield 360, 3) := by decide +kernel
theorem d_Mod_row_5 : decode b_Mod_row 5 = .ok (.aload_n 0, 1) := by decide +kernel
theorem d_Mod_row_6 : decode b_Mod_row 6 = .ok (.iload_n 1, 1) := by decide +kernel
theorem d_Mod_row_7 : decode b_Mod_row 7 = .ok (.invokevirtual 1172, 3) := by decide +kernel
theorem d_Mod_row_10 : decode b_Mod_row 10 = .ok (.ifCond .eq 12, 3) := by decide +kernel
theorem d_Mod_row_22 : decode b_Mod_row 22 = .ok (.iconst (-1), 1) := by decide +kernel
theorem d_Mod_row_23 : decode b_Mod_row 23 = .ok (.ireturn, 1) := by decide +kernel
theorem d_Mod_row_13 : decode b_Mod_row 13 = .ok (.aload_n 0, 1) := by decide +kernel
theorem d_Mod_row_14 : decode b_Mod_row 14 = .ok (.getfield 327, 3) := by decide +kernel
theorem d_Mod_row_17 : decode b_Mod_row 17 = .ok (.iload_n 1, 1) := by decide +kernel
theorem d_Mod_row_18 : decode b_Mod_row 18 = .ok (.iaload, 1) := by decide +kernel
theorem d_Mod_row_19 : decode b_Mod_row 19 = .ok (.goto 4, 3) := by decide +kernel
theorem d_Mod_answer_97 : decode b_Mod_answer 97 = .ok (.bastore, 1) := by decide +kernel
theorem d_Mod_answer_98 : decode b_Mod_answer 98 = .ok (.iinc 3 1, 3) := by decide +kernel
theorem d_Mod_answer_101 : decode b_Mod_answer 101 = .ok (.goto (-60), 3) := by decide +kernel
theorem d_Mod_answer_92 : decode b_Mod_answer 92 = .ok (.iconst 1, 1) := by decide +kernel
theorem d_Mod_answer_93 : decode b_Mod_answer 93 = .ok (.goto 4, 3) := by decide +kernel
theorem d_Mod_answer_41 : decode b_Mod_answer 41 = .ok (.iload_n 3, 1) := by decide +kernel
theorem d_Mod_answer_42 : decode b_Mod_answer 42 = .ok (.aload_n 0, 1) := by decide +kernel
theorem d_Mod_answer_43 : decode b_Mod_answer 43 = .ok (.getfield 252, 3) := by decide +kernel
theorem d_Mod_answer_46 : decode b_Mod_answer 46 = .ok (.iconst 4, 1) := by decide +kernel
theorem d_Mod_answer_47 : decode b_Mod_answer 47 = .ok (.aload_n 0, 1) := by decide +kernel
theorem d_Mod_answer_48 : decode b_Mod_answer 48 = .ok (.getfield 1065, 3) := by decide +kernel
theorem d_Mod_answer_51 : decode b_Mod_answer 51 = .ok (.imul, 1) := by decide +kernel
theorem d_Mod_answer_52 : decode b_Mod_answer 52 = .ok (.iaload, 1) := by decide +kernel
theorem d_Mod_answer_53 : decode b_Mod_answer 53 = .ok (.if_icmp .ge 51, 3) := by decide +kernel
theorem d_Mod_answer_104 : decode b_Mod_answer 104 = .ok (.iinc 2 1, 3) := by decide +kernel
theorem d_Mod_answer_107 : decode b_Mod_answer 107 = .ok (.goto (-85), 3) := by decide +kernel
theorem d_Mod_answer_56 : decode b_Mod_answer 56 = .ok (.aload_n 0, 1) := by decide +kernel
theorem d_Mod_answer_57 : decode b_Mod_answer 57 = .ok (.getfield 248, 3) := by decide +kernel
theorem d_Mod_answer_60 : decode b_Mod_answer 60 = .ok (.iload_n 2, 1) := by decide +kernel
theorem d_Mod_answer_61 : decode b_Mod_answer 61 = .ok (.aload_n 0, 1) := by decide +kernel
theorem d_Mod_answer_62 : decode b_Mod_answer 62 = .ok (.getfield 248, 3) := by decide +kernel
theorem d_Mod_answer_65 : decode b_Mod_answer 65 = .ok (.iload_n 2, 1) := by decide +kernel
theorem d_Mod_answer_66 : decode b_Mod_answer 66 = .ok (.baload, 1) := by decide +kernel
theorem d_Mod_answer_67 : decode b_Mod_answer 67 = .ok (.ifCond .ne 25, 3) := by decide +kernel
theorem d_Mod_answer_70 : decode b_Mod_answer 70 = .ok (.aload_n 0, 1) := by decide +kernel
theorem d_Mod_answer_71 : decode b_Mod_answer 71 = .ok (.iload_n 2, 1) := by decide +kernel
theorem d_Mod_answer_72 : decode b_Mod_answer 72 = .ok (.aload_n 0, 1) := by decide +kernel
theorem d_Mod_answer_73 : decode b_Mod_answer 73 = .ok (.getfield 258, 3) := by decide +kernel
theorem d_Mod_answer_76 : decode b_Mod_answer 76 = .ok (.bipush 16, 2) := by decide +kernel
theorem d_Mod_answer_78 : decode b_Mod_answer 78 = .ok (.aload_n 0, 1) := by decide +kernel
theorem d_Mod_answer_79 : decode b_Mod_answer 79 = .ok (.getfield 1065, 3) := by decide +kernel
theorem d_Mod_answer_82 : decode b_Mod_answer 82 = .ok (.imul, 1) := by decide +kernel
theorem d_Mod_answer_83 : decode b_Mod_answer 83 = .ok (.iload_n 3, 1) := by decide +kernel
theorem d_Mod_answer_84 : decode b_Mod_answer 84 = .ok (.iadd, 1) := by decide +kernel
theorem d_Mod_answer_85 : decode b_Mod_answer 85 = .ok (.iaload, 1) := by decide +kernel
theorem d_Mod_answer_86 : decode b_Mod_answer 86 = .ok (.invokevirtual 969, 3) := by decide +kernel
theorem d_Mod_answer_89 : decode b_Mod_answer 89 = .ok (.ifCond .eq 7, 3) := by decide +kernel
theorem d_Mod_answer_96 : decode b_Mod_answer 96 = .ok (.iconst 0, 1) := by decide +kernel
theorem d_Mod_answer_22 : decode b_Mod_answer 22 = .ok (.iload_n 2, 1) := by decide +kernel
theorem d_Mod_answer_23 : decode b_Mod_answer 23 = .ok (.aload_n 0, 1) := by decide +kernel
theorem d_Mod_answer_24 : decode b_Mod_answer 24 = .ok (.getfield 38, 3) := by decide +kernel
theorem d_Mod_answer_27 : decode b_Mod_answer 27 = .ok (.iconst 1, 1) := by decide +kernel
theorem d_Mod_answer_28 : decode b_Mod_answer 28 = .ok (.iaload, 1) := by decide +kernel
theorem d_Mod_answer_29 : decode b_Mod_answer 29 = .ok (.if_icmp .ge 81, 3) := by decide +kernel
theorem d_Mod_answer_110 : decode b_Mod_answer 110 = .ok (.aload_n 0, 1) := by decide +kernel
theorem d_Mod_answer_111 : decode b_Mod_answer 111 = .ok (.aload_n 0, 1) := by decide +kernel
theorem d_Mod_answer_112 : decode b_Mod_answer 112 = .ok (.getfield 327, 3) := by decide +kernel
theorem d_Mod_answer_115 : decode b_Mod_answer 115 = .ok (.iload_n 1, 1) := by decide +kernel
theorem d_Mod_answer_116 : decode b_Mod_answer 116 = .ok (.iaload, 1) := by decide +kernel
theorem d_Mod_answer_117 : decode b_Mod_answer 117 = .ok (.invokevirtual 984, 3) := by decide +kernel
theorem d_Mod_answer_120 : decode b_Mod_answer 120 = .ok (.ireturn, 1) := by decide +kernel
theorem d_Mod_answer_32 : decode b_Mod_answer 32 = .ok (.aload_n 0, 1) := by decide +kernel
theorem d_Mod_answer_33 : decode b_Mod_answer 33 = .ok (.getfield 248, 3) := by decide +kernel
theorem d_Mod_answer_36 : decode b_Mod_answer 36 = .ok (.iload_n 2, 1) := by decide +kernel
theorem d_Mod_answer_37 : decode b_Mod_answer 37 = .ok (.iconst 0, 1) := by decide +kernel
theorem d_Mod_answer_38 : decode b_Mod_answer 38 = .ok (.bastore, 1) := by decide +kernel
theorem d_Mod_answer_39 : decode b_Mod_answer 39 = .ok (.iconst 0, 1) := by decide +kernel
theorem d_Mod_answer_40 : decode b_Mod_answer 40 = .ok (.istore_n 3, 1) := by decide +kernel
theorem d_Mod_answer_0 : decode b_Mod_answer 0 = .ok (.aload_n 0, 1) := by decide +kernel
theorem d_Mod_answer_1 : decode b_Mod_answer 1 = .ok (.iconst 0, 1) := by decide +kernel
theorem d_Mod_answer_2 : decode b_Mod_answer 2 = .ok (.putfield 360, 3) := by decide +kernel
theorem d_Mod_answer_5 : decode b_Mod_answer 5 = .ok (.aload_n 0, 1) := by decide +kernel
theorem d_Mod_answer_6 : decode b_Mod_answer 6 = .ok (.iconst 0, 1) := by decide +kernel
theorem d_Mod_answer_7 : decode b_Mod_answer 7 = .ok (.putfield 935, 3) := by decide +kernel
theorem d_Mod_answer_10 : decode b_Mod_answer 10 = .ok (.aload_n 0, 1) := by decide +kernel
theorem d_Mod_answer_11 : decode b_Mod_answer 11 = .ok (.iload_n 1, 1) := by decide +kernel
theorem d_Mod_answer_12 : decode b_Mod_answer 12 = .ok (.invokevirtual 1172, 3) := by decide +kernel
theorem d_Mod_answer_15 : decode b_Mod_answer 15 = .ok (.ifCond .ne 5, 3) := by decide +kernel
theorem d_Mod_answer_20 : decode b_Mod_answer 20 = .ok (.iconst 0, 1) := by decide +kernel
theorem d_Mod_answer_21 : decode b_Mod_answer 21 = .ok (.istore_n 2, 1) := by decide +kernel
theorem d_Mod_answer_18 : decode b_Mod_answer 18 = .ok (.iconst (-1), 1) := by decide +kernel
theorem d_Mod_answer_19 : decode b_Mod_answer 19 = .ok (.ireturn, 1) := by decide +kernel
theorem d_Mod_isItem_53 : decode b_Mod_isItem 53 = .ok (.iconst 0, 1) := by decide +kernel
theorem d_Mod_isItem_54 : decode b_Mod_isItem 54 = .ok (.ireturn, 1) := by decide +kernel
theorem d_Mod_isItem_0 : decode b_Mod_isItem 0 = .ok (.aload_n 0, 1) := by decide +kernel
theorem d_Mod_isItem_1 : decode b_Mod_isItem 1 = .ok (.getfield 923, 3) := by decide +kernel
theorem d_Mod_isItem_4 : decode b_Mod_isItem 4 = .ok (.ifCond .eq 49, 3) := by decide +kernel
theorem d_Mod_isItem_7 : decode b_Mod_isItem 7 = .ok (.aload_n 0, 1) := by decide +kernel
theorem d_Mod_isItem_8 : decode b_Mod_isItem 8 = .ok (.aload_n 0, 1) := by decide +kernel
theorem d_Mod_isItem_9 : decode b_Mod_isItem 9 = .ok (.getfield 1065, 3) := by decide +kernel
theorem d_Mod_isItem_12 : decode b_Mod_isItem 12 = .ok (.invokevirtual 1077, 3) := by decide +kernel
theorem d_Mod_isItem_15 : decode b_Mod_isItem 15 = .ok (.ifCond .eq 38, 3) := by decide +kernel
theorem d_Mod_isItem_18 : decode b_Mod_isItem 18 = .ok (.iload_n 1, 1) := by decide +kernel
theorem d_Mod_isItem_19 : decode b_Mod_isItem 19 = .ok (.ifCond .lt 34, 3) := by decide +kernel
theorem d_Mod_isItem_22 : decode b_Mod_isItem 22 = .ok (.iload_n 1, 1) := by decide +kernel
theorem d_Mod_isItem_23 : decode b_Mod_isItem 23 = .ok (.aload_n 0, 1) := by decide +kernel
theorem d_Mod_isItem_24 : decode b_Mod_isItem 24 = .ok (.getfield 1163, 3) := by decide +kernel
theorem d_Mod_isItem_27 : decode b_Mod_isItem 27 = .ok (.if_icmp .ge 26, 3) := by decide +kernel
theorem d_Mod_isItem_30 : decode b_Mod_isItem 30 = .ok (.iload_n 2, 1) := by decide +kernel
theorem d_Mod_isItem_31 : decode b_Mod_isItem 31 = .ok (.ifCond .lt 22, 3) := by decide +kernel
theorem d_Mod_isItem_34 : decode b_Mod_isItem 34 = .ok (.iload_n 2, 1) := by decide +kernel
theorem d_Mod_isItem_35 : decode b_Mod_isItem 35 = .ok (.aload_n 0, 1) := by decide +kernel
theorem d_Mod_isItem_36 : decode b_Mod_isItem 36 = .ok (.getfield 252, 3) := by decide +kernel
theorem d_Mod_isItem_39 : decode b_Mod_isItem 39 = .ok (.iconst 4, 1) := by decide +kernel
theorem d_Mod_isItem_40 : decode b_Mod_isItem 40 = .ok (.aload_n 0, 1) := by decide +kernel
theorem d_Mod_isItem_41 : decode b_Mod_isItem 41 = .ok (.getfield 1065, 3) := by decide +kernel
theorem d_Mod_isItem_44 : decode b_Mod_isItem 44 = .ok (.imul, 1) := by decide +kernel
theorem d_Mod_isItem_45 : decode b_Mod_isItem 45 = .ok (.iaload, 1) := by decide +kernel
theorem d_Mod_isItem_46 : decode b_Mod_isItem 46 = .ok (.if_icmp .ge 7, 3) := by decide +kernel
theorem d_Mod_isItem_49 : decode b_Mod_isItem 49 = .ok (.iconst 1, 1) := by decide +kernel
theorem d_Mod_isItem_50 : decode b_Mod_isItem 50 = .ok (.goto 4, 3) := by decide +kernel
theorem d_Mod_bestOf_0 : decode b_Mod_bestOf 0 = .ok (.aload_n 0, 1) := by decide +kernel
theorem d_Mod_bestOf_1 : decode b_Mod_bestOf 1 = .ok (.getfield 255, 3) := by decide +kernel
theorem d_Mod_bestOf_4 : decode b_Mod_bestOf 4 = .ok (.bipush 16, 2) := by decide +kernel
theorem d_Mod_bestOf_6 : decode b_Mod_bestOf 6 = .ok (.aload_n 0, 1) := by decide +kernel
theorem d_Mod_bestOf_7 : decode b_Mod_bestOf 7 = .ok (.getfield 1065, 3) := by decide +kernel
theorem d_Mod_bestOf_10 : decode b_Mod_bestOf 10 = .ok (.imul, 1) := by decide +kernel
theorem d_Mod_bestOf_11 : decode b_Mod_bestOf 11 = .ok (.iload_n 2, 1) := by decide +kernel
theorem d_Mod_bestOf_12 : decode b_Mod_bestOf 12 = .ok (.iadd, 1) := by decide +kernel
theorem d_Mod_bestOf_13 : decode b_Mod_bestOf 13 = .ok (.iaload, 1) := by decide +kernel
theorem d_Mod_bestOf_14 : decode b_Mod_bestOf 14 = .ok (.istore_n 3, 1) := by decide +kernel
theorem d_Mod_bestOf_15 : decode b_Mod_bestOf 15 = .ok (.iload_n 3, 1) := by decide +kernel
theorem d_Mod_bestOf_16 : decode b_Mod_bestOf 16 = .ok (.ifCond .ne 28, 3) := by decide +kernel
theorem d_Mod_bestOf_44 : decode b_Mod_bestOf 44 = .ok (.iload_n 3, 1) := by decide +kernel
theorem d_Mod_bestOf_45 : decode b_Mod_bestOf 45 = .ok (.iconst 3, 1) := by decide +kernel
theorem d_Mod_bestOf_46 : decode b_Mod_bestOf 46 = .ok (.if_icmp .le 17, 3) := by decide +kernel
theorem d_Mod_bestOf_63 : decode b_Mod_bestOf 63 = .ok (.iconst (-1), 1) := by decide +kernel
theorem d_Mod_bestOf_64 : decode b_Mod_bestOf 64 = .ok (.ireturn, 1) := by decide +kernel
theorem d_Mod_bestOf_49 : decode b_Mod_bestOf 49 = .ok (.aload_n 0, 1) := by decide +kernel
theorem d_Mod_bestOf_50 : decode b_Mod_bestOf 50 = .ok (.getfield 351, 3) := by decide +kernel
theorem d_Mod_bestOf_53 : decode b_Mod_bestOf 53 = .ok (.bipush 16, 2) := by decide +kernel
theorem d_Mod_bestOf_55 : decode b_Mod_bestOf 55 = .ok (.iload_n 1, 1) := by decide +kernel
theorem d_Mod_bestOf_56 : decode b_Mod_bestOf 56 = .ok (.imul, 1) := by decide +kernel
theorem d_Mod_bestOf_57 : decode b_Mod_bestOf 57 = .ok (.iload_n 2, 1) := by decide +kernel
theorem d_Mod_bestOf_58 : decode b_Mod_bestOf 58 = .ok (.iadd, 1) := by decide +kernel
theorem d_Mod_bestOf_59 : decode b_Mod_bestOf 59 = .ok (.iaload, 1) := by decide +kernel
theorem d_Mod_bestOf_60 : decode b_Mod_bestOf 60 = .ok (.goto 4, 3) := by decide +kernel
theorem d_Mod_bestOf_19 : decode b_Mod_bestOf 19 = .ok (.aload_n 0, 1) := by decide +kernel
theorem d_Mod_bestOf_20 : decode b_Mod_bestOf 20 = .ok (.aload_n 0, 1) := by decide +kernel
theorem d_Mod_bestOf_21 : decode b_Mod_bestOf 21 = .ok (.getfield 258, 3) := by decide +kernel
theorem d_Mod_bestOf_24 : decode b_Mod_bestOf 24 = .ok (.bipush 16, 2) := by decide +kernel
theorem d_Mod_bestOf_26 : decode b_Mod_bestOf 26 = .ok (.aload_n 0, 1) := by decide +kernel
theorem d_Mod_bestOf_27 : decode b_Mod_bestOf 27 = .ok (.getfield 1065, 3) := by decide +kernel
theorem d_Mod_bestOf_30 : decode b_Mod_bestOf 30 = .ok (.imul, 1) := by decide +kernel
theorem d_Mod_bestOf_31 : decode b_Mod_bestOf 31 = .ok (.iload_n 2, 1) := by decide +kernel
theorem d_Mod_bestOf_32 : decode b_Mod_bestOf 32 = .ok (.iadd, 1) := by decide +kernel
theorem d_Mod_bestOf_33 : decode b_Mod_bestOf 33 = .ok (.iaload, 1) := by decide +kernel
theorem d_Mod_bestOf_34 : decode b_Mod_bestOf 34 = .ok (.aload_n 0, 1) := by decide +kernel
theorem d_Mod_bestOf_35 : decode b_Mod_bestOf 35 = .ok (.getfield 342, 3) := by decide +kernel
theorem d_Mod_bestOf_38 : decode b_Mod_bestOf 38 = .ok (.iload_n 1, 1) := by decide +kernel
theorem d_Mod_bestOf_39 : decode b_Mod_bestOf 39 = .ok (.iaload, 1) := by decide +kernel
theorem d_Mod_bestOf_40 : decode b_Mod_bestOf 40 = .ok (.invokevirtual 1080, 3) := by decide +kernel
theorem d_Mod_bestOf_43 : decode b_Mod_bestOf 43 = .ok (.ireturn, 1) := by decide +kernel
section
variable (l : Launch) (dC : Nat → ClassId) (dI : Nat → Nat → Nat) (cI cB cJ cZ : ClassId)
set_option maxRecDepth 100000 in
set_option maxHeartbeats 4000000 in
set_option maxRecDepth 100000 in
theorem t_Mod_run_183 {p : Program} {l : Launch} {e : Env} {R : Room} {s : State} {m : MethodId} {args : Array Value} {below : List Frame} {meth : Method} {c : Code} {cells slots : Nat} {Q : State → Prop} {dC : Nat → ClassId} {dI : Nat → Nat → Nat} {cI cB cJ cZ : ClassId} {A : Nat → Prop} {ad : Nat → Nat} {post : Int32 → St → Prop} (hx : p.tables.exec = Jvm.exec) (hb : c.code = b_Mod_run) (hml : c.maxLocals = 3) (hown : s.vm.findClass R_Mod = some m.cls) (hT : ∀ w ∈ TG, w.before args s = true) (hK : va_K (dC, dI) CL (TY cI cB cJ cZ) s) (hN : NW s) (hA : ∀ q : Nat, s.heap.size ≤ q → A q) (hRc : cells ≤ R.cells) (hRs : slots ≤ R.slots) (hRf : 206 ≤ R.frames) (hRl : 4742 ≤ R.locals) (hret : ∀ (r : Int32) (x : St) (H : Heap) (locs : List Loc) (pc : Nat) (ls : Array Slot), decode b_Mod_run pc = .ok (.ireturn, 1) → post r x → Wd dC dI cI cB cJ cZ ad stM kcM 115 A x H → va_S A s.heap H locs → W p l e R s m args below meth c H locs cells slots Q (F0 m pc ls [.int r]))  : ∀ (l1 : Int32) (x : St) (H : Heap) (locs : List Loc) (ls : Array Slot), j_Mod_run_183 post l1 x → Wd dC dI cI cB cJ cZ ad stM kcM 115 A x H → va_S A s.heap H locs → lv_has ls 3 [(0, .ref (ad 0)), (1, .int l1)] → W p l e R s m args below meth c H locs cells slots Q (F0 m 183 ls []) := by
  intro l1 x H locs ls  hw hW hS hl
  unfold j_Mod_run_183 at hw
  refine lv_aload_n hx hb d_Mod_run_183 rfl (lv_at hl 0 rfl) ?_
  refine lv_iconst (v := 1) hx hb d_Mod_run_184 (by decide) ?_
  refine w_puti (ty := .boolean) (k := 121) (t := 12) (C := R_Mod) (T := F_Mod) (N := 167) hx hb hT hown hK hW hS ko_0.1 ko_0.2 (by decide) in_Mod t_Mod t_Mod_ok n_Mod rfl rfl (by decide) rfl fr_Mod_121 w_9_57 (by decide +kernel) rfl rfl d_Mod_run_185 (fun H locs hW hS => ?_)
  obtain ⟨x2598, ex2598⟩ : ∃ y : St, y = setI x 0 121 1 := ⟨_, rfl⟩
  rw [← ex2598] at hW
  have hw := hw x2598 ex2598
  refine lv_aload_n hx hb d_Mod_run_188 rfl (lv_at hl 0 rfl) ?_
  refine lv_aload_n hx hb d_Mod_run_189 rfl (lv_at hl 0 rfl) ?_
  refine w_geti (k := 117) (t := 12) (C := R_Mod) (T := F_Mod) (N := 167) hx hb hT hown hK hW ko_0.1 ko_0.2 (by decide) in_Mod rfl rfl (by decide) rfl fr_Mod_117 w_9_53 d_Mod_run_190 ?_
  refine w_puti (ty := .int) (k := 119) (t := 12) (C := R_Mod) (T := F_Mod) (N := 167) hx hb hT hown hK hW hS ko_0.1 ko_0.2 (by decide) in_Mod t_Mod t_Mod_ok n_Mod rfl rfl (by decide) rfl fr_Mod_119 w_9_55 (by decide +kernel) rfl rfl d_Mod_run_193 (fun H locs hW hS => ?_)
  obtain ⟨x2599, ex2599⟩ : ∃ y : St, y = setI x2598 0 119 (fI x2598 0 117) := ⟨_, rfl⟩
  rw [← ex2599] at hW
  have hw := hw x2599 ex2599
  refine lv_aload_n hx hb d_Mod_run_196 rfl (lv_at hl 0 rfl) ?_
  refine lv_aload_n hx hb d_Mod_run_197 rfl (lv_at hl 0 rfl) ?_
  refine w_geti (k := 165) (t := 12) (C := R_Mod) (T := F_Mod) (N := 167) hx hb hT hown hK hW ko_0.1 ko_0.2 (by decide) in_Mod rfl rfl (by decide) rfl fr_Mod_165 w_9_101 d_Mod_run_198 ?_
  refine w_puti (ty := .int) (k := 163) (t := 12) (C := R_Mod) (T := F_Mod) (N := 167) hx hb hT hown hK hW hS ko_0.1 ko_0.2 (by decide) in_Mod t_Mod t_Mod_ok n_Mod rfl rfl (by decide) rfl fr_Mod_163 w_9_99 (by decide +kernel) rfl rfl d_Mod_run_201 (fun H locs hW hS => ?_)
  obtain ⟨x2600, ex2600⟩ : ∃ y : St, y = setI x2599 0 163 (fI x2599 0 165) := ⟨_, rfl⟩
  rw [← ex2600] at hW
  have hw := hw x2600 ex2600
  refine lv_aload_n hx hb d_Mod_run_204 rfl (lv_at hl 0 rfl) ?_
  refine lv_aload_n hx hb d_Mod_run_205 rfl (lv_at hl 0 rfl) ?_
  refine w_geti (k := 166) (t := 12) (C := R_Mod) (T := F_Mod) (N := 167) hx hb hT hown hK hW ko_0.1 ko_0.2 (by decide) in_Mod rfl rfl (by decide) rfl fr_Mod_166 w_9_102 d_Mod_run_206 ?_
  refine w_puti (ty := .int) (k := 164) (t := 12) (C := R_Mod) (T := F_Mod) (N := 167) hx hb hT hown hK hW hS ko_0.1 ko_0.2 (by decide) in_Mod t_Mod t_Mod_ok n_Mod rfl rfl (by decide) rfl fr_Mod_164 w_9_100 (by decide +kernel) rfl rfl d_Mod_run_209 (fun H locs hW hS => ?_)
  obtain ⟨x2601, ex2601⟩ : ∃ y : St, y = setI x2600 0 164 (fI x2600 0 166) := ⟨_, rfl⟩
  rw [← ex2601] at hW
  have hw := hw x2601 ex2601
  refine lv_aload_n hx hb d_Mod_run_212 rfl (lv_at hl 0 rfl) ?_
  refine w_geti (k := 161) (t := 12) (C := R_Mod) (T := F_Mod) (N := 167) hx hb hT hown hK hW ko_0.1 ko_0.2 (by decide) in_Mod rfl rfl (by decide) rfl fr_Mod_161 w_9_97 d_Mod_run_213 ?_
  exact hret (fI x2601 0 161) x2601 H locs 216 ls d_Mod_run_216 hw hW hS
set_option maxRecDepth 100000 in
set_option maxHeartbeats 4000000 in
set_option maxRecDepth 100000 in
theorem t_Mod_run_157 {p : Program} {l : Launch} {e : Env} {R : Room} {s : State} {m : MethodId} {args : Array Value} {below : List Frame} {meth : Method} {c : Code} {cells slots : Nat} {Q : State → Prop} {dC : Nat → ClassId} {dI : Nat → Nat → Nat} {cI cB cJ cZ : ClassId} {A : Nat → Prop} {ad : Nat → Nat} {post : Int32 → St → Prop} {rec157 : Int32 → St → Prop} (hx : p.tables.exec = Jvm.exec) (hb : c.code = b_Mod_run) (hml : c.maxLocals = 3) (hown : s.vm.findClass R_Mod = some m.cls) (hT : ∀ w ∈ TG, w.before args s = true) (hK : va_K (dC, dI) CL (TY cI cB cJ cZ) s) (hN : NW s) (hA : ∀ q : Nat, s.heap.size ≤ q → A q) (hRc : cells ≤ R.cells) (hRs : slots ≤ R.slots) (hRf : 206 ≤ R.frames) (hRl : 4742 ≤ R.locals) (hret : ∀ (r : Int32) (x : St) (H : Heap) (locs : List Loc) (pc : Nat) (ls : Array Slot), decode b_Mod_run pc = .ok (.ireturn, 1) → post r x → Wd dC dI cI cB cJ cZ ad stM kcM 115 A x H → va_S A s.heap H locs → W p l e R s m args below meth c H locs cells slots Q (F0 m pc ls [.int r])) (hrec157 : ∀ (l1 : Int32) (x : St) (H : Heap) (locs : List Loc) (ls : Array Slot), rec157 l1 x → Wd dC dI cI cB cJ cZ ad stM kcM 115 A x H → va_S A s.heap H locs → lv_has ls 3 [(0, .ref (ad 0)), (1, .int l1)] → W p l e R s m args below meth c H locs cells slots Q (F0 m 157 ls [])) : ∀ (l1 : Int32) (x : St) (H : Heap) (locs : List Loc) (ls : Array Slot), j_Mod_run_157 post rec157 l1 x → Wd dC dI cI cB cJ cZ ad stM kcM 115 A x H → va_S A s.heap H locs → lv_has ls 3 [(0, .ref (ad 0)), (1, .int l1)] → W p l e R s m args below meth c H locs cells slots Q (F0 m 157 ls []) := by
  intro l1 x H locs ls  hw hW hS hl
  unfold j_Mod_run_157 at hw
  refine lv_iload_n hx hb d_Mod_run_157 rfl (lv_at hl 1 rfl) ?_
  refine lv_aload_n hx hb d_Mod_run_158 rfl (lv_at hl 0 rfl) ?_
  refine w_geti (k := 161) (t := 12) (C := R_Mod) (T := F_Mod) (N := 167) hx hb hT hown hK hW ko_0.1 ko_0.2 (by decide) in_Mod rfl rfl (by decide) rfl fr_Mod_161 w_9_97 d_Mod_run_159 ?_
  refine lv_icmp_ge (tgt := 183) hx hb d_Mod_run_162 (by decide) (fun c2602 => ?_) (fun c2602 => ?_)
  · have hw := hw.1 c2602
    exact t_Mod_run_183 hx hb hml hown hT hK hN hA hRc hRs hRf hRl hret  l1 x H locs ls  hw hW hS (lv_sub hl [0, 1] rfl)
  · have hw := hw.2 c2602
    refine lv_aload_n hx hb d_Mod_run_165 rfl (lv_at hl 0 rfl) ?_
    refine w_getf (q := 104) (k := 149) (t := 12) (C := R_Mod) (T := F_Mod) (N := 167) hx hb hT hown hK hW ko_0.1 ko_0.2 (by decide) in_Mod rfl rfl (by decide) rfl fr_Mod_149 w_9_85 d_Mod_run_166 rfl ?_
    refine lv_iload_n hx hb d_Mod_run_169 rfl (lv_at hl 1 rfl) ?_
    refine lv_aload_n hx hb d_Mod_run_170 rfl (lv_at hl 0 rfl) ?_
    refine w_getf (q := 103) (k := 148) (t := 12) (C := R_Mod) (T := F_Mod) (N := 167) hx hb hT hown hK hW ko_0.1 ko_0.2 (by decide) in_Mod rfl rfl (by decide) rfl fr_Mod_148 w_9_84 d_Mod_run_171 rfl ?_
    refine lv_iload_n hx hb d_Mod_run_174 rfl (lv_at hl 1 rfl) ?_
    obtain ⟨hi, hw⟩ := hw
    refine w_iald (o := 103) hx hb hK hW ko_103.1 ko_103.2 hi d_Mod_run_175 ?_
    obtain ⟨hi, hw⟩ := hw
    refine w_iast (o := 104) hx hb hK hW hS ko_104.1 ko_104.2 hi d_Mod_run_176 (fun H locs hW hS => ?_)
    obtain ⟨x2603, ex2603⟩ : ∃ y : St, y = setA x 104 l1 (rA x 103 l1) := ⟨_, rfl⟩
    rw [← ex2603] at hW
    have hw := hw x2603 ex2603
    refine lv_iinc (v := (l1 + 1)) (lv' := [(1, .int (l1 + 1)), (0, .ref (ad 0))]) hx hb d_Mod_run_177 hl (k := 1) rfl rfl (by decide) rfl (fun ls hl => ?_)
    refine lv_goto (tgt := 157) hx hb d_Mod_run_180 (by decide) ?_
    exact hrec157 (l1 + 1) x2603 H locs ls  hw hW hS (lv_sub hl [1, 0] rfl)
set_option maxHeartbeats 4000000 in
set_option maxRecDepth 100000 in
theorem tl_Mod_run_157 {p : Program} {l : Launch} {e : Env} {R : Room} {s : State} {m : MethodId} {args : Array Value} {below : List Frame} {meth : Method} {c : Code} {cells slots : Nat} {Q : State → Prop} {dC : Nat → ClassId} {dI : Nat → Nat → Nat} {cI cB cJ cZ : ClassId} {A : Nat → Prop} {ad : Nat → Nat} {post : Int32 → St → Prop} (hx : p.tables.exec = Jvm.exec) (hb : c.code = b_Mod_run) (hml : c.maxLocals = 3) (hown : s.vm.findClass R_Mod = some m.cls) (hT : ∀ w ∈ TG, w.before args s = true) (hK : va_K (dC, dI) CL (TY cI cB cJ cZ) s) (hN : NW s) (hA : ∀ q : Nat, s.heap.size ≤ q → A q) (hRc : cells ≤ R.cells) (hRs : slots ≤ R.slots) (hRf : 206 ≤ R.frames) (hRl : 4742 ≤ R.locals) (hret : ∀ (r : Int32) (x : St) (H : Heap) (locs : List Loc) (pc : Nat) (ls : Array Slot), decode b_Mod_run pc = .ok (.ireturn, 1) → post r x → Wd dC dI cI cB cJ cZ ad stM kcM 115 A x H → va_S A s.heap H locs → W p l e R s m args below meth c H locs cells slots Q (F0 m pc ls [.int r]))  : ∀ n : Nat, ∀ (l1 : Int32) (x : St) (H : Heap) (locs : List Loc) (ls : Array Slot), wl_Mod_run_157 post n l1 x → Wd dC dI cI cB cJ cZ ad stM kcM 115 A x H → va_S A s.heap H locs → lv_has ls 3 [(0, .ref (ad 0)), (1, .int l1)] → W p l e R s m args below meth c H locs cells slots Q (F0 m 157 ls []) := by
  intro n
  induction n with
  | zero => intro l1 x H locs ls  hw; exact hw.elim
  | succ n ih => intro l1 x H locs ls  hw hW hS hl; exact t_Mod_run_157 hx hb hml hown hT hK hN hA hRc hRs hRf hRl hret  ih l1 x H locs ls  hw hW hS hl
set_option maxRecDepth 100000 in
set_option maxHeartbeats 4000000 in
set_option maxRecDepth 100000 in
theorem t_Mod_run_85 {p : Program} {l : Launch} {e : Env} {R : Room} {s : State} {m : MethodId} {args : Array Value} {below : List Frame} {meth : Method} {c : Code} {cells slots : Nat} {Q : State → Prop} {dC : Nat → ClassId} {dI : Nat → Nat → Nat} {cI cB cJ cZ : ClassId} {A : Nat → Prop} {ad : Nat → Nat} {post : Int32 → St → Prop} {rec48 : Int32 → St → Prop} {rec85 : Int32 → Int32 → St → Prop} (hx : p.tables.exec = Jvm.exec) (hb : c.code = b_Mod_run) (hml : c.maxLocals = 3) (hown : s.vm.findClass R_Mod = some m.cls) (hT : ∀ w ∈ TG, w.before args s = true) (hK : va_K (dC, dI) CL (TY cI cB cJ cZ) s) (hN : NW s) (hA : ∀ q : Nat, s.heap.size ≤ q → A q) (hRc : cells ≤ R.cells) (hRs : slots ≤ R.slots) (hRf : 206 ≤ R.frames) (hRl : 4742 ≤ R.locals) (hret : ∀ (r : Int32) (x : St) (H : Heap) (locs : List Loc) (pc : Nat) (ls : Array Slot), decode b_Mod_run pc = .ok (.ireturn, 1) → post r x → Wd dC dI cI cB cJ cZ ad stM kcM 115 A x H → va_S A s.heap H locs → W p l e R s m args below meth c H locs cells slots Q (F0 m pc ls [.int r])) (hrec48 : ∀ (l1 : Int32) (x : St) (H : Heap) (locs : List Loc) (ls : Array Slot), rec48 l1 x → Wd dC dI cI cB cJ cZ ad stM kcM 115 A x H → va_S A s.heap H locs → lv_has ls 3 [(0, .ref (ad 0)), (1, .int l1)] → W p l e R s m args below meth c H locs cells slots Q (F0 m 48 ls [])) (hrec85 : ∀ (l1 : Int32) (l2 : Int32) (x : St) (H : Heap) (locs : List Loc) (ls : Array Slot), rec85 l1 l2 x → Wd dC dI cI cB cJ cZ ad stM kcM 115 A x H → va_S A s.heap H locs → lv_has ls 3 [(0, .ref (ad 0)), (1, .int l1), (2, .int l2)] → W p l e R s m args below meth c H locs cells slots Q (F0 m 85 ls [])) : ∀ (l1 : Int32) (l2 : Int32) (x : St) (H : Heap) (locs : List Loc) (ls : Array Slot), j_Mod_run_85 post rec48 rec85 l1 l2 x → Wd dC dI cI cB cJ cZ ad stM kcM 115 A x H → va_S A s.heap H locs → lv_has ls 3 [(0, .ref (ad 0)), (1, .int l1), (2, .int l2)] → W p l e R s m args below meth c H locs cells slots Q (F0 m 85 ls []) := by
  intro l1 l2 x H locs ls  hw hW hS hl
  unfold j_Mod_run_85 at hw
  refine lv_iload_n hx hb d_Mod_run_85 rfl (lv_at hl 2 rfl) ?_
  refine lv_bipush (v := 16) hx hb d_Mod_run_86 (by decide) ?_
  refine lv_iload_n hx hb d_Mod_run_88 rfl (lv_at hl 1 rfl) ?_
  refine lv_imul hx hb d_Mod_run_89 ?_
  refine lv_bipush (v := 16) hx hb d_Mod_run_90 (by decide) ?_
  refine lv_iadd hx hb d_Mod_run_92 ?_
  refine lv_icmp_ge (tgt := 138) hx hb d_Mod_run_93 (by decide) (fun c2604 => ?_) (fun c2604 => ?_)
  · have hw := hw.1 c2604
    refine lv_iinc (v := (l1 + 1)) (lv' := [(1, .int (l1 + 1)), (0, .ref (ad 0)), (2, .int l2)]) hx hb d_Mod_run_138 hl (k := 1) rfl rfl (by decide) rfl (fun ls hl => ?_)
    refine lv_goto (tgt := 48) hx hb d_Mod_run_141 (by decide) ?_
    exact hrec48 (l1 + 1) x H locs ls  hw hW hS (lv_sub hl [1, 0] rfl)
  · have hw := hw.2 c2604
    refine lv_aload_n hx hb d_Mod_run_96 rfl (lv_at hl 0 rfl) ?_
    refine w_getf (q := 111) (k := 156) (t := 12) (C := R_Mod) (T := F_Mod) (N := 167) hx hb hT hown hK hW ko_0.1 ko_0.2 (by decide) in_Mod rfl rfl (by decide) rfl fr_Mod_156 w_9_92 d_Mod_run_97 rfl ?_
    refine lv_iload_n hx hb d_Mod_run_100 rfl (lv_at hl 2 rfl) ?_
    refine lv_aload_n hx hb d_Mod_run_101 rfl (lv_at hl 0 rfl) ?_
    refine w_getf (q := 107) (k := 152) (t := 12) (C := R_Mod) (T := F_Mod) (N := 167) hx hb hT hown hK hW ko_0.1 ko_0.2 (by decide) in_Mod rfl rfl (by decide) rfl fr_Mod_152 w_9_88 d_Mod_run_102 rfl ?_
    refine lv_iload_n hx hb d_Mod_run_105 rfl (lv_at hl 2 rfl) ?_
    obtain ⟨hi, hw⟩ := hw
    refine w_iald (o := 107) hx hb hK hW ko_107.1 ko_107.2 hi d_Mod_run_106 ?_
    obtain ⟨hi, hw⟩ := hw
    refine w_iast (o := 111) hx hb hK hW hS ko_111.1 ko_111.2 hi d_Mod_run_107 (fun H locs hW hS => ?_)
    obtain ⟨x2605, ex2605⟩ : ∃ y : St, y = setA x 111 l2 (rA x 107 l2) := ⟨_, rfl⟩
    rw [← ex2605] at hW
    have hw := hw x2605 ex2605
    refine lv_aload_n hx hb d_Mod_run_108 rfl (lv_at hl 0 rfl) ?_
    refine w_getf (q := 114) (k := 159) (t := 12) (C := R_Mod) (T := F_Mod) (N := 167) hx hb hT hown hK hW ko_0.1 ko_0.2 (by decide) in_Mod rfl rfl (by decide) rfl fr_Mod_159 w_9_95 d_Mod_run_109 rfl ?_
    refine lv_iload_n hx hb d_Mod_run_112 rfl (lv_at hl 2 rfl) ?_
    refine lv_aload_n hx hb d_Mod_run_113 rfl (lv_at hl 0 rfl) ?_
    refine w_getf (q := 113) (k := 158) (t := 12) (C := R_Mod) (T := F_Mod) (N := 167) hx hb hT hown hK hW ko_0.1 ko_0.2 (by decide) in_Mod rfl rfl (by decide) rfl fr_Mod_158 w_9_94 d_Mod_run_114 rfl ?_
    refine lv_iload_n hx hb d_Mod_run_117 rfl (lv_at hl 2 rfl) ?_
    obtain ⟨hi, hw⟩ := hw
    refine w_lald (o := 113) hx hb hK hW ko_113.1 ko_113.2 hi d_Mod_run_118 ?_
    obtain ⟨hi, hw⟩ := hw
    refine w_last (o := 114) hx hb hK hW hS ko_114.1 ko_114.2 hi d_Mod_run_119 (fun H locs hW hS => ?_)
    obtain ⟨x2606, ex2606⟩ : ∃ y : St, y = setL x2605 114 l2 (rL x2605 113 l2) := ⟨_, rfl⟩
    rw [← ex2606] at hW
    have hw := hw x2606 ex2606
    refine lv_aload_n hx hb d_Mod_run_120 rfl (lv_at hl 0 rfl) ?_
    refine w_getf (q := 112) (k := 157) (t := 12) (C := R_Mod) (T := F_Mod) (N := 167) hx hb hT hown hK hW ko_0.1 ko_0.2 (by decide) in_Mod rfl rfl (by decide) rfl fr_Mod_157 w_9_93 d_Mod_run_121 rfl ?_
    refine lv_iload_n hx hb d_Mod_run_124 rfl (lv_at hl 2 rfl) ?_
    refine lv_aload_n hx hb d_Mod_run_125 rfl (lv_at hl 0 rfl) ?_
    refine w_getf (q := 108) (k := 153) (t := 12) (C := R_Mod) (T := F_Mod) (N := 167) hx hb hT hown hK hW ko_0.1 ko_0.2 (by decide) in_Mod rfl rfl (by decide) rfl fr_Mod_153 w_9_89 d_Mod_run_126 rfl ?_
    refine lv_iload_n hx hb d_Mod_run_129 rfl (lv_at hl 2 rfl) ?_
    obtain ⟨hi, hw⟩ := hw
    refine w_iald (o := 108) hx hb hK hW ko_108.1 ko_108.2 hi d_Mod_run_130 ?_
    obtain ⟨hi, hw⟩ := hw
    refine w_iast (o := 112) hx hb hK hW hS ko_112.1 ko_112.2 hi d_Mod_run_131 (fun H locs hW hS => ?_)
    obtain ⟨x2607, ex2607⟩ : ∃ y : St, y = setA x2606 112 l2 (rA x2606 108 l2) := ⟨_, rfl⟩
    rw [← ex2607] at hW
    have hw := hw x2607 ex2607
    refine lv_iinc (v := (l2 + 1)) (lv' := [(2, .int (l2 + 1)), (0, .ref (ad 0)), (1, .int l1)]) hx hb d_Mod_run_132 hl (k := 2) rfl rfl (by decide) rfl (fun ls hl => ?_)
    refine lv_goto (tgt := 85) hx hb d_Mod_run_135 (by decide) ?_
    exact hrec85 l1 (l2 + 1) x2607 H locs ls  hw hW hS (lv_sub hl [1, 2, 0] rfl)
set_option maxHeartbeats 4000000 in
set_option maxRecDepth 100000 in
theorem tl_Mod_run_85 {p : Program} {l : Launch} {e : Env} {R : Room} {s : State} {m : MethodId} {args : Array Value} {below : List Frame} {meth : Method} {c : Code} {cells slots : Nat} {Q : State → Prop} {dC : Nat → ClassId} {dI : Nat → Nat → Nat} {cI cB cJ cZ : ClassId} {A : Nat → Prop} {ad : Nat → Nat} {post : Int32 → St → Prop} {rec48 : Int32 → St → Prop} (hx : p.tables.exec = Jvm.exec) (hb : c.code = b_Mod_run) (hml : c.maxLocals = 3) (hown : s.vm.findClass R_Mod = some m.cls) (hT : ∀ w ∈ TG, w.before args s = true) (hK : va_K (dC, dI) CL (TY cI cB cJ cZ) s) (hN : NW s) (hA : ∀ q : Nat, s.heap.size ≤ q → A q) (hRc : cells ≤ R.cells) (hRs : slots ≤ R.slots) (hRf : 206 ≤ R.frames) (hRl : 4742 ≤ R.locals) (hret : ∀ (r : Int32) (x : St) (H : Heap) (locs : List Loc) (pc : Nat) (ls : Array Slot), decode b_Mod_run pc = .ok (.ireturn, 1) → post r x → Wd dC dI cI cB cJ cZ ad stM kcM 115 A x H → va_S A s.heap H locs → W p l e R s m args below meth c H locs cells slots Q (F0 m pc ls [.int r])) (hrec48 : ∀ (l1 : Int32) (x : St) (H : Heap) (locs : List Loc) (ls : Array Slot), rec48 l1 x → Wd dC dI cI cB cJ cZ ad stM kcM 115 A x H → va_S A s.heap H locs → lv_has ls 3 [(0, .ref (ad 0)), (1, .int l1)] → W p l e R s m args below meth c H locs cells slots Q (F0 m 48 ls [])) : ∀ n : Nat, ∀ (l1 : Int32) (l2 : Int32) (x : St) (H : Heap) (locs : List Loc) (ls : Array Slot), wl_Mod_run_85 post rec48 n l1 l2 x → Wd dC dI cI cB cJ cZ ad stM kcM 115 A x H → va_S A s.heap H locs → lv_has ls 3 [(0, .ref (ad 0)), (1, .int l1), (2, .int l2)] → W p l e R s m args below meth c H locs cells slots Q (F0 m 85 ls []) := by
  intro n
  induction n with
  | zero => intro l1 l2 x H locs ls  hw; exact hw.elim
  | succ n ih => intro l1 l2 x H locs ls  hw hW hS hl; exact t_Mod_run_85 hx hb hml hown hT hK hN hA hRc hRs hRf hRl hret hrec48 ih l1 l2 x H locs ls  hw hW hS hl
set_option maxRecDepth 100000 in
set_option maxHeartbeats 4000000 in
set_option maxRecDepth 100000 in
theorem t_Mod_run_48 {p : Program} {l : Launch} {e : Env} {R : Room} {s : State} {m : MethodId} {args : Array Value} {below : List Frame} {meth : Method} {c : Code} {cells slots : Nat} {Q : State → Prop} {dC : Nat → ClassId} {dI : Nat → Nat → Nat} {cI cB cJ cZ : ClassId} {A : Nat → Prop} {ad : Nat → Nat} {post : Int32 → St → Prop} {rec48 : Int32 → St → Prop} (hx : p.tables.exec = Jvm.exec) (hb : c.code = b_Mod_run) (hml : c.maxLocals = 3) (hown : s.vm.findClass R_Mod = some m.cls) (hT : ∀ w ∈ TG, w.before args s = true) (hK : va_K (dC, dI) CL (TY cI cB cJ cZ) s) (hN : NW s) (hA : ∀ q : Nat, s.heap.size ≤ q → A q) (hRc : cells ≤ R.cells) (hRs : slots ≤ R.slots) (hRf : 206 ≤ R.frames) (hRl : 4742 ≤ R.locals) (hret : ∀ (r : Int32) (x : St) (H : Heap) (locs : List Loc) (pc : Nat) (ls : Array Slot), decode b_Mod_run pc = .ok (.ireturn, 1) → post r x → Wd dC dI cI cB cJ cZ ad stM kcM 115 A x H → va_S A s.heap H locs → W p l e R s m args below meth c H locs cells slots Q (F0 m pc ls [.int r])) (hrec48 : ∀ (l1 : Int32) (x : St) (H : Heap) (locs : List Loc) (ls : Array Slot), rec48 l1 x → Wd dC dI cI cB cJ cZ ad stM kcM 115 A x H → va_S A s.heap H locs → lv_has ls 3 [(0, .ref (ad 0)), (1, .int l1)] → W p l e R s m args below meth c H locs cells slots Q (F0 m 48 ls [])) : ∀ (l1 : Int32) (x : St) (H : Heap) (locs : List Loc) (ls : Array Slot), j_Mod_run_48 post rec48 l1 x → Wd dC dI cI cB cJ cZ ad stM kcM 115 A x H → va_S A s.heap H locs → lv_has ls 3 [(0, .ref (ad 0)), (1, .int l1)] → W p l e R s m args below meth c H locs cells slots Q (F0 m 48 ls []) := by
  intro l1 x H locs ls  hw hW hS hl
  unfold j_Mod_run_48 at hw
  refine lv_iload_n hx hb d_Mod_run_48 rfl (lv_at hl 1 rfl) ?_
  refine lv_aload_n hx hb d_Mod_run_49 rfl (lv_at hl 0 rfl) ?_
  refine w_geti (k := 161) (t := 12) (C := R_Mod) (T := F_Mod) (N := 167) hx hb hT hown hK hW ko_0.1 ko_0.2 (by decide) in_Mod rfl rfl (by decide) rfl fr_Mod_161 w_9_97 d_Mod_run_50 ?_
  refine lv_icmp_ge (tgt := 144) hx hb d_Mod_run_53 (by decide) (fun c2608 => ?_) (fun c2608 => ?_)
  · have hw := hw.1 c2608
    refine lv_goto (tgt := 183) hx hb d_Mod_run_144 (by decide) ?_
    exact t_Mod_run_183 hx hb hml hown hT hK hN hA hRc hRs hRf hRl hret  l1 x H locs ls  hw hW hS (lv_sub hl [0, 1] rfl)
  · have hw := hw.2 c2608
    refine lv_aload_n hx hb d_Mod_run_56 rfl (lv_at hl 0 rfl) ?_
    refine w_getf (q := 109) (k := 154) (t := 12) (C := R_Mod) (T := F_Mod) (N := 167) hx hb hT hown hK hW ko_0.1 ko_0.2 (by decide) in_Mod rfl rfl (by decide) rfl fr_Mod_154 w_9_90 d_Mod_run_57 rfl ?_
    refine lv_iload_n hx hb d_Mod_run_60 rfl (lv_at hl 1 rfl) ?_
    refine lv_aload_n hx hb d_Mod_run_61 rfl (lv_at hl 0 rfl) ?_
    refine w_getf (q := 105) (k := 150) (t := 12) (C := R_Mod) (T := F_Mod) (N := 167) hx hb hT hown hK hW ko_0.1 ko_0.2 (by decide) in_Mod rfl rfl (by decide) rfl fr_Mod_150 w_9_86 d_Mod_run_62 rfl ?_
    refine lv_iload_n hx hb d_Mod_run_65 rfl (lv_at hl 1 rfl) ?_
    obtain ⟨hi, hw⟩ := hw
    refine w_iald (o := 105) hx hb hK hW ko_105.1 ko_105.2 hi d_Mod_run_66 ?_
    obtain ⟨hi, hw⟩ := hw
    refine w_iast (o := 109) hx hb hK hW hS ko_109.1 ko_109.2 hi d_Mod_run_67 (fun H locs hW hS => ?_)
    obtain ⟨x2609, ex2609⟩ : ∃ y : St, y = setA x 109 l1 (rA x 105 l1) := ⟨_, rfl⟩
    rw [← ex2609] at hW
    have hw := hw x2609 ex2609
    refine lv_aload_n hx hb d_Mod_run_68 rfl (lv_at hl 0 rfl) ?_
    refine w_getf (q := 110) (k := 155) (t := 12) (C := R_Mod) (T := F_Mod) (N := 167) hx hb hT hown hK hW ko_0.1 ko_0.2 (by decide) in_Mod rfl rfl (by decide) rfl fr_Mod_155 w_9_91 d_Mod_run_69 rfl ?_
    refine lv_iload_n hx hb d_Mod_run_72 rfl (lv_at hl 1 rfl) ?_
    refine lv_aload_n hx hb d_Mod_run_73 rfl (lv_at hl 0 rfl) ?_
    refine w_getf (q := 106) (k := 151) (t := 12) (C := R_Mod) (T := F_Mod) (N := 167) hx hb hT hown hK hW ko_0.1 ko_0.2 (by decide) in_Mod rfl rfl (by decide) rfl fr_Mod_151 w_9_87 d_Mod_run_74 rfl ?_
    refine lv_iload_n hx hb d_Mod_run_77 rfl (lv_at hl 1 rfl) ?_
    obtain ⟨hi, hw⟩ := hw
    refine w_iald (o := 106) hx hb hK hW ko_106.1 ko_106.2 hi d_Mod_run_78 ?_
    obtain ⟨hi, hw⟩ := hw
    refine w_iast (o := 110) hx hb hK hW hS ko_110.1 ko_110.2 hi d_Mod_run_79 (fun H locs hW hS => ?_)
    obtain ⟨x2610, ex2610⟩ : ∃ y : St, y = setA x2609 110 l1 (rA x2609 106 l1) := ⟨_, rfl⟩
    rw [← ex2610] at hW
    have hw := hw x2610 ex2610
    refine lv_bipush (v := 16) hx hb d_Mod_run_80 (by decide) ?_
    refine lv_iload_n hx hb d_Mod_run_82 rfl (lv_at hl 1 rfl) ?_
    refine lv_imul hx hb d_Mod_run_83 ?_
    refine lv_topi (fun v2611 ev2611 => ?_)
    have hw := hw v2611 ev2611
    refine lv_istore_n (lv' := [(2, .int v2611), (0, .ref (ad 0)), (1, .int l1)]) hx hb d_Mod_run_84 rfl hl (by decide) rfl (fun ls hl => ?_)
    obtain ⟨n, hw⟩ := hw
    exact tl_Mod_run_85 hx hb hml hown hT hK hN hA hRc hRs hRf hRl hret hrec48 n l1 v2611 x2610 H locs ls  hw hW hS (lv_sub hl [1, 2, 0] rfl)
set_option maxHeartbeats 4000000 in
set_option maxRecDepth 100000 in
theorem tl_Mod_run_48 {p : Program} {l : Launch} {e : Env} {R : Room} {s : State} {m : MethodId} {args : Array Value} {below : List Frame} {meth : Method} {c : Code} {cells slots : Nat} {Q : State → Prop} {dC : Nat → ClassId} {dI : Nat → Nat → Nat} {cI cB cJ cZ : ClassId} {A : Nat → Prop} {ad : Nat → Nat} {post : Int32 → St → Prop} (hx : p.tables.exec = Jvm.exec) (hb : c.code = b_Mod_run) (hml : c.maxLocals = 3) (hown : s.vm.findClass R_Mod = some m.cls) (hT : ∀ w ∈ TG, w.before args s = true) (hK : va_K (dC, dI) CL (TY cI cB cJ cZ) s) (hN : NW s) (hA : ∀ q : Nat, s.heap.size ≤ q → A q) (hRc : cells ≤ R.cells) (hRs : slots ≤ R.slots) (hRf : 206 ≤ R.frames) (hRl : 4742 ≤ R.locals) (hret : ∀ (r : Int32) (x : St) (H : Heap) (locs : List Loc) (pc : Nat) (ls : Array Slot), decode b_Mod_run pc = .ok (.ireturn, 1) → post r x → Wd dC dI cI cB cJ cZ ad stM kcM 115 A x H → va_S A s.heap H locs → W p l e R s m args below meth c H locs cells slots Q (F0 m pc ls [.int r]))  : ∀ n : Nat, ∀ (l1 : Int32) (x : St) (H : Heap) (locs : List Loc) (ls : Array Slot), wl_Mod_run_48 post n l1 x → Wd dC dI cI cB cJ cZ ad stM kcM 115 A x H → va_S A s.heap H locs → lv_has ls 3 [(0, .ref (ad 0)), (1, .int l1)] → W p l e R s m args below meth c H locs cells slots Q (F0 m 48 ls []) := by
  intro n
  induction n with
  | zero => intro l1 x H locs ls  hw; exact hw.elim
  | succ n ih => intro l1 x H locs ls  hw hW hS hl; exact t_Mod_run_48 hx hb hml hown hT hK hN hA hRc hRs hRf hRl hret  ih l1 x H locs ls  hw hW hS hl
set_option maxRecDepth 100000 in
set_option maxHeartbeats 4000000 in
set_option maxRecDepth 100000 in
theorem t_Mod_run_e {p : Program} {l : Launch} {e : Env} {R : Room} {s : State} {m : MethodId} {args : Array Value} {below : List Frame} {meth : Method} {c : Code} {cells slots : Nat} {Q : State → Prop} {dC : Nat → ClassId} {dI : Nat → Nat → Nat} {cI cB cJ cZ : ClassId} {A : Nat → Prop} {ad : Nat → Nat} {post : Int32 → St → Prop} (hx : p.tables.exec = Jvm.exec) (hb : c.code = b_Mod_run) (hml : c.maxLocals = 3) (hown : s.vm.findClass R_Mod = some m.cls) (hT : ∀ w ∈ TG, w.before args s = true) (hK : va_K (dC, dI) CL (TY cI cB cJ cZ) s) (hN : NW s) (hA : ∀ q : Nat, s.heap.size ≤ q → A q) (hRc : cells ≤ R.cells) (hRs : slots ≤ R.slots) (hRf : 206 ≤ R.frames) (hRl : 4742 ≤ R.locals) (hret : ∀ (r : Int32) (x : St) (H : Heap) (locs : List Loc) (pc : Nat) (ls : Array Slot), decode b_Mod_run pc = .ok (.ireturn, 1) → post r x → Wd dC dI cI cB cJ cZ ad stM kcM 115 A x H → va_S A s.heap H locs → W p l e R s m args below meth c H locs cells slots Q (F0 m pc ls [.int r])) : ∀  (x : St) (H : Heap) (locs : List Loc) (ls : Array Slot), wp_Mod_run post  x → Wd dC dI cI cB cJ cZ ad stM kcM 115 A x H → va_S A s.heap H locs → lv_has ls 3 [(0, .ref (ad 0))] → W p l e R s m args below meth c H locs cells slots Q (F0 m 0 ls []) := by
  intro  x H locs ls  hw hW hS hl
  unfold wp_Mod_run at hw
  refine lv_aload_n hx hb d_Mod_run_0 rfl (lv_at hl 0 rfl) ?_
  refine lv_iconst (v := 0) hx hb d_Mod_run_1 (by decide) ?_
  refine w_puti (ty := .int) (k := 0) (t := 12) (C := R_Mod) (T := F_Mod) (N := 167) hx hb hT hown hK hW hS ko_0.1 ko_0.2 (by decide) in_Mod t_Mod t_Mod_ok n_Mod rfl rfl (by decide) rfl fr_Mod_0 w_8_176 (by decide +kernel) rfl rfl d_Mod_run_2 (fun H locs hW hS => ?_)
  obtain ⟨x2612, ex2612⟩ : ∃ y : St, y = setI x 0 0 0 := ⟨_, rfl⟩
  rw [← ex2612] at hW
  have hw := hw x2612 ex2612
  refine lv_aload_n hx hb d_Mod_run_5 rfl (lv_at hl 0 rfl) ?_
  refine w_geti (k := 120) (t := 12) (C := R_Mod) (T := F_Mod) (N := 167) hx hb hT hown hK hW ko_0.1 ko_0.2 (by decide) in_Mod rfl rfl (by decide) rfl fr_Mod_120 w_9_56 d_Mod_run_6 ?_
  refine lv_if_ne (tgt := 14) hx hb d_Mod_run_9 (by decide) (fun c2613 => ?_) (fun c2613 => ?_)
  · have hw := hw.1 c2613
    refine lv_aload_n hx hb d_Mod_run_14 rfl (lv_at hl 0 rfl) ?_
    have hF := hW.free hS hA
    refine va_callv (va_runV (C := R_Mod) (As := []) (rest := []) ⟨hx, hb, hml, hown, hT⟩ (k_Mod_lookAtAll l dC dI cI cB cJ cZ ad H.size  x2612  hw) ⟨callB_of 0 hT (gwt_in w_13_203) rfl rfl rfl (hT _ w_1_15) (hT _ w_13_200) (by decide +kernel) ⟨Nat.le_trans (Nat.le_of_ble_eq_true rfl) hRf, Nat.le_trans (Nat.le_of_ble_eq_true rfl) hRl⟩, hT _ w_13_202, hT _ ws_252⟩ ⟨PW.blind, va_recv hK hW.1 (ci := 12) (q0 := 0) rfl (pic_obj ko_0.1 ko_0.2 (by decide)), PW.at _ hW hK hN⟩ rfl rfl hl.1 rfl (lv_room (Nat.le_of_ble_eq_true rfl)) d_Mod_run_15 ⟨hRc, hRs⟩) hS (fun q _ h => hF q h) hF (fun  x2614 t H locs ht hvm hw hB hz1 hk1 hS => ?_)
    have hW := Wd.back hB ht hF
    clear hB ht hF hz1 hk1 hvm
    refine lv_aload_n hx hb d_Mod_run_18 rfl (lv_at hl 0 rfl) ?_
    refine lv_aload_n hx hb d_Mod_run_19 rfl (lv_at hl 0 rfl) ?_
    refine w_geti (k := 117) (t := 12) (C := R_Mod) (T := F_Mod) (N := 167) hx hb hT hown hK hW ko_0.1 ko_0.2 (by decide) in_Mod rfl rfl (by decide) rfl fr_Mod_117 w_9_53 d_Mod_run_20 ?_
    have hF := hW.free hS hA
    refine va_calli (va_runV (C := R_Mod) (As := [.int (fI x2614 0 117)]) (rest := []) ⟨hx, hb, hml, hown, hT⟩ (k_Mod_collects l dC dI cI cB cJ cZ ad H.size (fI x2614 0 117) x2614  hw) ⟨callB_of 1 hT (gwt_in w_13_195) rfl rfl rfl (hT _ w_1_15) (hT _ w_13_192) (by decide +kernel) ⟨Nat.le_trans (Nat.le_of_ble_eq_true rfl) hRf, Nat.le_trans (Nat.le_of_ble_eq_true rfl) hRl⟩, hT _ w_13_194, hT _ ws_251⟩ ⟨PW.blind, va_recv hK hW.1 (ci := 12) (q0 := 0) rfl (pic_obj ko_0.1 ko_0.2 (by decide)), PW.at _ hW hK hN⟩ rfl rfl hl.1 rfl (lv_room (Nat.le_of_ble_eq_true rfl)) d_Mod_run_23 ⟨hRc, hRs⟩) hS (fun q _ h => hF q h) hF (fun r2616 x2615 t H locs ht hvm hw hB hz1 hk1 hS => ?_)
    have hW := Wd.back hB ht hF
    clear hB ht hF hz1 hk1 hvm
    refine lv_if_eq (tgt := 147) hx hb d_Mod_run_26 (by decide) (fun c2617 => ?_) (fun c2617 => ?_)
    · have hw := hw.1 c2617
      refine lv_aload_n hx hb d_Mod_run_147 rfl (lv_at hl 0 rfl) ?_
      refine lv_aload_n hx hb d_Mod_run_148 rfl (lv_at hl 0 rfl) ?_
      refine w_geti (k := 160) (t := 12) (C := R_Mod) (T := F_Mod) (N := 167) hx hb hT hown hK hW ko_0.1 ko_0.2 (by decide) in_Mod rfl rfl (by decide) rfl fr_Mod_160 w_9_96 d_Mod_run_149 ?_
      refine w_puti (ty := .int) (k := 161) (t := 12) (C := R_Mod) (T := F_Mod) (N := 167) hx hb hT hown hK hW hS ko_0.1 ko_0.2 (by decide) in_Mod t_Mod t_Mod_ok n_Mod rfl rfl (by decide) rfl fr_Mod_161 w_9_97 (by decide +kernel) rfl rfl d_Mod_run_152 (fun H locs hW hS => ?_)
      obtain ⟨x2618, ex2618⟩ : ∃ y : St, y = setI x2615 0 161 (fI x2615 0 160) := ⟨_, rfl⟩
      rw [← ex2618] at hW
      have hw := hw x2618 ex2618
      refine lv_iconst (v := 0) hx hb d_Mod_run_155 (by decide) ?_
      refine lv_istore_n (lv' := [(1, .int 0), (0, .ref (ad 0))]) hx hb d_Mod_run_156 rfl hl (by decide) rfl (fun ls hl => ?_)
      obtain ⟨n, hw⟩ := hw
      exact tl_Mod_run_157 hx hb hml hown hT hK hN hA hRc hRs hRf hRl hret  n 0 x2618 H locs ls  hw hW hS (lv_sub hl [1, 0] rfl)
    · have hw := hw.2 c2617
      refine lv_aload_n hx hb d_Mod_run_29 rfl (lv_at hl 0 rfl) ?_
      have hF := hW.free hS hA
      refine va_calli (va_runV (C := R_Mod) (As := []) (rest := []) ⟨hx, hb, hml, hown, hT⟩ (k_Mod_collectAll l dC dI cI cB cJ cZ ad H.size  x2615  hw) ⟨callB_of 0 hT (gwt_in w_14_35) rfl rfl rfl (hT _ w_1_15) (hT _ w_14_32) (by decide +kernel) ⟨Nat.le_trans (Nat.le_of_ble_eq_true rfl) hRf, Nat.le_trans (Nat.le_of_ble_eq_true rfl) hRl⟩, hT _ w_14_34, hT _ ws_267⟩ ⟨PW.blind, va_recv hK hW.1 (ci := 12) (q0 := 0) rfl (pic_obj ko_0.1 ko_0.2 (by decide)), PW.at _ hW hK hN⟩ rfl rfl hl.1 rfl (lv_room (Nat.le_of_ble_eq_true rfl)) d_Mod_run_30 ⟨hRc, hRs⟩) hS (fun q _ h => hF q h) hF (fun r2620 x2619 t H locs ht hvm hw hB hz1 hk1 hS => ?_)
      have hW := Wd.back hB ht hF
      clear hB ht hF hz1 hk1 hvm
      refine lv_if_ne (tgt := 38) hx hb d_Mod_run_33 (by decide) (fun c2621 => ?_) (fun c2621 => ?_)
      · have hw := hw.1 c2621
        refine lv_aload_n hx hb d_Mod_run_38 rfl (lv_at hl 0 rfl) ?_
        refine lv_aload_n hx hb d_Mod_run_39 rfl (lv_at hl 0 rfl) ?_
        refine w_geti (k := 162) (t := 12) (C := R_Mod) (T := F_Mod) (N := 167) hx hb hT hown hK hW ko_0.1 ko_0.2 (by decide) in_Mod rfl rfl (by decide) rfl fr_Mod_162 w_9_98 d_Mod_run_40 ?_
        refine w_puti (ty := .int) (k := 161) (t := 12) (C := R_Mod) (T := F_Mod) (N := 167) hx hb hT hown hK hW hS ko_0.1 ko_0.2 (by decide) in_Mod t_Mod t_Mod_ok n_Mod rfl rfl (by decide) rfl fr_Mod_161 w_9_97 (by decide +kernel) rfl rfl d_Mod_run_43 (fun H locs hW hS => ?_)
        obtain ⟨x2622, ex2622⟩ : ∃ y : St, y = setI x2619 0 161 (fI x2619 0 162) := ⟨_, rfl⟩
        rw [← ex2622] at hW
        have hw := hw x2622 ex2622
        refine lv_iconst (v := 0) hx hb d_Mod_run_46 (by decide) ?_
        refine lv_istore_n (lv' := [(1, .int 0), (0, .ref (ad 0))]) hx hb d_Mod_run_47 rfl hl (by decide) rfl (fun ls hl => ?_)
        obtain ⟨n, hw⟩ := hw
        exact tl_Mod_run_48 hx hb hml hown hT hK hN hA hRc hRs hRf hRl hret  n 0 x2622 H locs ls  hw hW hS (lv_sub hl [1, 0] rfl)
      · have hw := hw.2 c2621
        refine lv_iconst (v := (-1)) hx hb d_Mod_run_36 (by decide) ?_
        exact hret (-1) x2619 H locs 37 ls d_Mod_run_37 hw hW hS
  · have hw := hw.2 c2613
    refine lv_iconst (v := (-1)) hx hb d_Mod_run_12 (by decide) ?_
    exact hret (-1) x2612 H locs 13 ls d_Mod_run_13 hw hW hS
set_option maxHeartbeats 4000000 in
set_option maxRecDepth 100000 in
theorem k_Mod_run (l : Launch) (dC : Nat → ClassId) (dI : Nat → Nat → Nat) (cI cB cJ cZ : ClassId) (ad : Nat → Nat) (sz : Nat)  (x : St) {post : Int32 → St → Prop} (hw : wp_Mod_run post  x) : Met l y_Mod_run (wsOf y_Mod_run b_Mod_run 3 (some (.int))) ({ frames := 206, cells := 0, slots := 0, locals := 4742 }) (va_Pc [.ref (ad 0)] (PW dC dI cI cB cJ cZ ad stM kcM 115 sz x)) (va_Qi (fun (r : Int32) (y : St) => post r y) (fun y t => Wd dC dI cI cB cJ cZ ad stM kcM 115 (va_A (pic ad stM kcM 115 cI cB cJ cZ x) sz) y t.heap) (va_A (pic ad stM kcM 115 cI cB cJ cZ x) sz)) 0 0 (va_A (pic ad stM kcM 115 cI cB cJ cZ x) sz) := by
  refine Met.ofW (cc := b_Mod_run) (maxL := 3) (ret := some (.int)) (by decide) rfl ?_
  intro p e s m args below meth c s₁ B hml hv
  obtain ⟨rfl, hsz, hW0, hK, hN⟩ := hv
  have hx := B.exec
  have hb := B.bytes
  have hr := B.returns
  have hts := atoms_spec B.pre
  have hT : ∀ w ∈ TG, w.before _ s = true := fun w h => hts w (List.mem_cons_of_mem _ h)
  have hown : s.vm.findClass R_Mod = some m.cls := findClass_of_methodNamed B.named
  have hlocks := B.notSynchronized
  subst hsz
  have hW : Wd dC dI cI cB cJ cZ ad stM kcM 115 (va_A (pic ad stM kcM 115 cI cB cJ cZ x) s.heap.size) x s.heap := ⟨hW0.1, hW0.2.1.self (sz := s.heap.size), hW0.2.2⟩
  generalize hAe : va_A (pic ad stM kcM 115 cI cB cJ cZ x) s.heap.size = A at hW ⊢
  have hA : ∀ q : Nat, s.heap.size ≤ q → A q := fun q h => by rw [← hAe]; exact Or.inr h
  have hS : va_S A s.heap s.heap [] := va_S.rf
  have hl := lv_entry ([.ref (ad 0)]) (n := 3) (Nat.le_of_ble_eq_true rfl)
  rw [lg_entry_eq]
  generalize (lg_sl ([.ref (ad 0)]) ++ List.replicate (3 - (lg_sl ([.ref (ad 0)])).length) Slot.unset).toArray = ls at hl ⊢
  have hl : lv_has ls 3 [(0, .ref (ad 0))] := hl
  exact t_Mod_run_e hx hb hml hown hT hK hN hA (Nat.le_refl 0) (Nat.le_refl 0) (Nat.le_refl 206) (Nat.le_refl 4742) (fun r x H locs pc ls hd hp hW hS => W.iret (v := r) hx hb hr (fun t ht hM => ⟨⟨r, x, rfl, hp, Wd.back hW ht.symm (fun _ z => z)⟩, hS.F ht⟩) hS.2.2 hd hlocks)   x _ _ ls  hw hW hS hl
set_option maxRecDepth 100000 in
set_option maxHeartbeats 4000000 in
set_option maxRecDepth 100000 in
theorem t_Mod_isRow_34 {p : Program} {l : Launch} {e : Env} {R : Room} {s : State} {m : MethodId} {args : Array Value} {below : List Frame} {meth : Method} {c : Code} {cells slots : Nat} {Q : State → Prop} {dC : Nat → ClassId} {dI : Nat → Nat → Nat} {cI cB cJ cZ : ClassId} {A : Nat → Prop} {ad : Nat → Nat} {post : Int32 → St → Prop} (hx : p.tables.exec = Jvm.exec) (hb : c.code = b_Mod_isRow) (hml : c.maxLocals = 2) (hown : s.vm.findClass R_Mod = some m.cls) (hT : ∀ w ∈ TG, w.before args s = true) (hK : va_K (dC, dI) CL (TY cI cB cJ cZ) s) (hN : NW s) (hA : ∀ q : Nat, s.heap.size ≤ q → A q) (hRc : cells ≤ R.cells) (hRs : slots ≤ R.slots) (hRf : 1 ≤ R.frames) (hRl : 23 ≤ R.locals) (hret : ∀ (r : Int32) (x : St) (H : Heap) (locs : List Loc) (pc : Nat) (ls : Array Slot), decode b_Mod_isRow pc = .ok (.ireturn, 1) → narrow .boolean (.int r) = .int r → post r x → Wd dC dI cI cB cJ cZ ad stM kcM 115 A x H → va_S A s.heap H locs → W p l e R s m args below meth c H locs cells slots Q (F0 m pc ls [.int r]))  : ∀ (l1 : Int32) (x : St) (H : Heap) (locs : List Loc) (ls : Array Slot), j_Mod_isRow_34 post l1 x → Wd dC dI cI cB cJ cZ ad stM kcM 115 A x H → va_S A s.heap H locs → lv_has ls 2 [(0, .ref (ad 0)), (1, .int l1)] → W p l e R s m args below meth c H locs cells slots Q (F0 m 34 ls []) := by
  intro l1 x H locs ls  hw hW hS hl
  unfold j_Mod_isRow_34 at hw
  refine lv_iconst (v := 0) hx hb d_Mod_isRow_34 (by decide) ?_
  exact hret 0 x H locs 35 ls d_Mod_isRow_35 rfl hw hW hS
set_option maxRecDepth 100000 in
set_option maxHeartbeats 4000000 in
set_option maxRecDepth 100000 in
theorem t_Mod_isRow_e {p : Program} {l : Launch} {e : Env} {R : Room} {s : State} {m : MethodId} {args : Array Value} {below : List Frame} {meth : Method} {c : Code} {cells slots : Nat} {Q : State → Prop} {dC : Nat → ClassId} {dI : Nat → Nat → Nat} {cI cB cJ cZ : ClassId} {A : Nat → Prop} {ad : Nat → Nat} {post : Int32 → St → Prop} (hx : p.tables.exec = Jvm.exec) (hb : c.code = b_Mod_isRow) (hml : c.maxLocals = 2) (hown : s.vm.findClass R_Mod = some m.cls) (hT : ∀ w ∈ TG, w.before args s = true) (hK : va_K (dC, dI) CL (TY cI cB cJ cZ) s) (hN : NW s) (hA : ∀ q : Nat, s.heap.size ≤ q → A q) (hRc : cells ≤ R.cells) (hRs : slots ≤ R.slots) (hRf : 1 ≤ R.frames) (hRl : 23 ≤ R.locals) (hret : ∀ (r : Int32) (x : St) (H : Heap) (locs : List Loc) (pc : Nat) (ls : Array Slot), decode b_Mod_isRow pc = .ok (.ireturn, 1) → narrow .boolean (.int r) = .int r → post r x → Wd dC dI cI cB cJ cZ ad stM kcM 115 A x H → va_S A s.heap H locs → W p l e R s m args below meth c H locs cells slots Q (F0 m pc ls [.int r])) : ∀ (l1 : Int32) (x : St) (H : Heap) (locs : List Loc) (ls : Array Slot), wp_Mod_isRow post l1 x → Wd dC dI cI cB cJ cZ ad stM kcM 115 A x H → va_S A s.heap H locs → lv_has ls 2 [(0, .ref (ad 0)), (1, .int l1)] → W p l e R s m args below meth c H locs cells slots Q (F0 m 0 ls []) := by
  intro l1 x H locs ls  hw hW hS hl
  unfold wp_Mod_isRow at hw
  refine lv_aload_n hx hb d_Mod_isRow_0 rfl (lv_at hl 0 rfl) ?_
  refine w_geti (k := 121) (t := 12) (C := R_Mod) (T := F_Mod) (N := 167) hx hb hT hown hK hW ko_0.1 ko_0.2 (by decide) in_Mod rfl rfl (by decide) rfl fr_Mod_121 w_9_57 d_Mod_isRow_1 ?_
  refine lv_if_eq (tgt := 34) hx hb d_Mod_isRow_4 (by decide) (fun c2623 => ?_) (fun c2623 => ?_)
  · have hw := hw.1 c2623
    exact t_Mod_isRow_34 hx hb hml hown hT hK hN hA hRc hRs hRf hRl hret  l1 x H locs ls  hw hW hS (lv_sub hl [0, 1] rfl)
  · have hw := hw.2 c2623
    refine lv_aload_n hx hb d_Mod_isRow_7 rfl (lv_at hl 0 rfl) ?_
    refine lv_aload_n hx hb d_Mod_isRow_8 rfl (lv_at hl 0 rfl) ?_
    refine w_geti (k := 119) (t := 12) (C := R_Mod) (T := F_Mod) (N := 167) hx hb hT hown hK hW ko_0.1 ko_0.2 (by decide) in_Mod rfl rfl (by decide) rfl fr_Mod_119 w_9_55 d_Mod_isRow_9 ?_
    have hF := hW.free hS hA
    refine va_calli (va_runV (C := R_Mod) (As := [.int (fI x 0 119)]) (rest := []) ⟨hx, hb, hml, hown, hT⟩ (k_Mod_collects l dC dI cI cB cJ cZ ad H.size (fI x 0 119) x  hw) ⟨callB_of 1 hT (gwt_in w_13_195) rfl rfl rfl (hT _ w_1_15) (hT _ w_13_192) (by decide +kernel) ⟨Nat.le_trans (Nat.le_of_ble_eq_true rfl) hRf, Nat.le_trans (Nat.le_of_ble_eq_true rfl) hRl⟩, hT _ w_13_194, hT _ ws_251⟩ ⟨PW.blind, va_recv hK hW.1 (ci := 12) (q0 := 0) rfl (pic_obj ko_0.1 ko_0.2 (by decide)), PW.at _ hW hK hN⟩ rfl rfl hl.1 rfl (lv_room (Nat.le_of_ble_eq_true rfl)) d_Mod_isRow_12 ⟨hRc, hRs⟩) hS (fun q _ h => hF q h) hF (fun r2625 x2624 t H locs ht hvm hw hB hz1 hk1 hS => ?_)
    have hW := Wd.back hB ht hF
    clear hB ht hF hz1 hk1 hvm
    refine lv_if_ne (tgt := 34) hx hb d_Mod_isRow_15 (by decide) (fun c2626 => ?_) (fun c2626 => ?_)
    · have hw := hw.1 c2626
      exact t_Mod_isRow_34 hx hb hml hown hT hK hN hA hRc hRs hRf hRl hret  l1 x2624 H locs ls  hw hW hS (lv_sub hl [0, 1] rfl)
    · have hw := hw.2 c2626
      refine lv_iload_n hx hb d_Mod_isRow_18 rfl (lv_at hl 1 rfl) ?_
      refine lv_if_lt (tgt := 34) hx hb d_Mod_isRow_19 (by decide) (fun c2627 => ?_) (fun c2627 => ?_)
      · have hw := hw.1 c2627
        exact t_Mod_isRow_34 hx hb hml hown hT hK hN hA hRc hRs hRf hRl hret  l1 x2624 H locs ls  hw hW hS (lv_sub hl [0, 1] rfl)
      · have hw := hw.2 c2627
        refine lv_iload_n hx hb d_Mod_isRow_22 rfl (lv_at hl 1 rfl) ?_
        refine lv_aload_n hx hb d_Mod_isRow_23 rfl (lv_at hl 0 rfl) ?_
        refine w_geti (k := 161) (t := 12) (C := R_Mod) (T := F_Mod) (N := 167) hx hb hT hown hK hW ko_0.1 ko_0.2 (by decide) in_Mod rfl rfl (by decide) rfl fr_Mod_161 w_9_97 d_Mod_isRow_24 ?_
        refine lv_icmp_ge (tgt := 34) hx hb d_Mod_isRow_27 (by decide) (fun c2628 => ?_) (fun c2628 => ?_)
        · have hw := hw.1 c2628
          exact t_Mod_isRow_34 hx hb hml hown hT hK hN hA hRc hRs hRf hRl hret  l1 x2624 H locs ls  hw hW hS (lv_sub hl [0, 1] rfl)
        · have hw := hw.2 c2628
          refine lv_iconst (v := 1) hx hb d_Mod_isRow_30 (by decide) ?_
          refine lv_goto (tgt := 35) hx hb d_Mod_isRow_31 (by decide) ?_
          exact hret 1 x2624 H locs 35 ls d_Mod_isRow_35 rfl hw hW hS
set_option maxHeartbeats 4000000 in
set_option maxRecDepth 100000 in
theorem k_Mod_isRow (l : Launch) (dC : Nat → ClassId) (dI : Nat → Nat → Nat) (cI cB cJ cZ : ClassId) (ad : Nat → Nat) (sz : Nat) (l1 : Int32) (x : St) {post : Int32 → St → Prop} (hw : wp_Mod_isRow post l1 x) : Met l y_Mod_isRow (wsOf y_Mod_isRow b_Mod_isRow 2 (some (.boolean))) ({ frames := 1, cells := 0, slots := 0, locals := 23 }) (va_Pc [.ref (ad 0), .int l1] (PW dC dI cI cB cJ cZ ad stM kcM 115 sz x)) (va_Qi (fun (r : Int32) (y : St) => post r y) (fun y t => Wd dC dI cI cB cJ cZ ad stM kcM 115 (va_A (pic ad stM kcM 115 cI cB cJ cZ x) sz) y t.heap) (va_A (pic ad stM kcM 115 cI cB cJ cZ x) sz)) 0 0 (va_A (pic ad stM kcM 115 cI cB cJ cZ x) sz) := by
  refine Met.ofW (cc := b_Mod_isRow) (maxL := 2) (ret := some (.boolean)) (by decide) rfl ?_
  intro p e s m args below meth c s₁ B hml hv
  obtain ⟨rfl, hsz, hW0, hK, hN⟩ := hv
  have hx := B.exec
  have hb := B.bytes
  have hr := B.returns
  have hts := atoms_spec B.pre
  have hT : ∀ w ∈ TG, w.before _ s = true := fun w h => hts w (List.mem_cons_of_mem _ h)
  have hown : s.vm.findClass R_Mod = some m.cls := findClass_of_methodNamed B.named
  have hlocks := B.notSynchronized
  subst hsz
  have hW : Wd dC dI cI cB cJ cZ ad stM kcM 115 (va_A (pic ad stM kcM 115 cI cB cJ cZ x) s.heap.size) x s.heap := ⟨hW0.1, hW0.2.1.self (sz := s.heap.size), hW0.2.2⟩
  generalize hAe : va_A (pic ad stM kcM 115 cI cB cJ cZ x) s.heap.size = A at hW ⊢
  have hA : ∀ q : Nat, s.heap.size ≤ q → A q := fun q h => by rw [← hAe]; exact Or.inr h
  have hS : va_S A s.heap s.heap [] := va_S.rf
  have hl := lv_entry ([.ref (ad 0), .int l1]) (n := 2) (Nat.le_of_ble_eq_true rfl)
  rw [lg_entry_eq]
  generalize (lg_sl ([.ref (ad 0), .int l1]) ++ List.replicate (2 - (lg_sl ([.ref (ad 0), .int l1])).length) Slot.unset).toArray = ls at hl ⊢
  have hl : lv_has ls 2 [(0, .ref (ad 0)), (1, .int l1)] := hl
  exact t_Mod_isRow_e hx hb hml hown hT hK hN hA (Nat.le_refl 0) (Nat.le_refl 0) (Nat.le_refl 1) (Nat.le_refl 23) (fun r x H locs pc ls hd hz hp hW hS => W.zret (v := r) (ty := .boolean) hx hb hr hz (fun t ht hM => ⟨⟨r, x, rfl, hp, Wd.back hW ht.symm (fun _ z => z)⟩, hS.F ht⟩) hS.2.2 hd hlocks)  l1 x _ _ ls  hw hW hS hl
set_option maxRecDepth 100000 in
set_option maxHeartbeats 4000000 in
set_option maxRecDepth 100000 in
theorem t_Mod_row_e {p : Program} {l : Launch} {e : Env} {R : Room} {s : State} {m : MethodId} {args : Array Value} {below : List Frame} {meth : Method} {c : Code} {cells slots : Nat} {Q : State → Prop} {dC : Nat → ClassId} {dI : Nat → Nat → Nat} {cI cB cJ cZ : ClassId} {A : Nat → Prop} {ad : Nat → Nat} {post : Int32 → St → Prop} (hx : p.tables.exec = Jvm.exec) (hb : c.code = b_Mod_row) (hml : c.maxLocals = 2) (hown : s.vm.findClass R_Mod = some m.cls) (hT : ∀ w ∈ TG, w.before args s = true) (hK : va_K (dC, dI) CL (TY cI cB cJ cZ) s) (hN : NW s) (hA : ∀ q : Nat, s.heap.size ≤ q → A q) (hRc : cells ≤ R.cells) (hRs : slots ≤ R.slots) (hRf : 2 ≤ R.frames) (hRl : 44 ≤ R.locals) (hret : ∀ (r : Int32) (x : St) (H : Heap) (locs : List Loc) (pc : Nat) (ls : Array Slot), decode b_Mod_row pc = .ok (.ireturn, 1) → post r x → Wd dC dI cI cB cJ cZ ad stM kcM 115 A x H → va_S A s.heap H locs → W p l e R s m args below meth c H locs cells slots Q (F0 m pc ls [.int r])) : ∀ (l1 : Int32) (x : St) (H : Heap) (locs : List Loc) (ls : Array Slot), wp_Mod_row post l1 x → Wd dC dI cI cB cJ cZ ad stM kcM 115 A x H → va_S A s.heap H locs → lv_has ls 2 [(0, .ref (ad 0)), (1, .int l1)] → W p l e R s m args below meth c H locs cells slots Q (F0 m 0 ls []) := by
  intro l1 x H locs ls  hw hW hS hl
  unfold wp_Mod_row at hw
  refine lv_aload_n hx hb d_Mod_row_0 rfl (lv_at hl 0 rfl) ?_
  refine lv_iconst (v := 0) hx hb d_Mod_row_1 (by decide) ?_
  refine w_puti (ty := .int) (k := 0) (t := 12) (C := R_Mod) (T := F_Mod) (N := 167) hx hb hT hown hK hW hS ko_0.1 ko_0.2 (by decide) in_Mod t_Mod t_Mod_ok n_Mod rfl rfl (by decide) rfl fr_Mod_0 w_8_176 (by decide +kernel) rfl rfl d_Mod_row_2 (fun H locs hW hS => ?_)
  obtain ⟨x2629, ex2629⟩ : ∃ y : St, y = setI x 0 0 0 := ⟨_, rfl⟩
  rw [← ex2629] at hW
  have hw := hw x2629 ex2629
  refine lv_aload_n hx hb d_Mod_row_5 rfl (lv_at hl 0 rfl) ?_
  refine lv_iload_n hx hb d_Mod_row_6 rfl (lv_at hl 1 rfl) ?_
  have hF := hW.free hS hA
  refine va_calli (va_runV (C := R_Mod) (As := [.int l1]) (rest := []) ⟨hx, hb, hml, hown, hT⟩ (k_Mod_isRow l dC dI cI cB cJ cZ ad H.size l1 x2629  hw) ⟨callB_of 1 hT (gwt_in w_14_55) rfl rfl rfl (hT _ w_1_15) (hT _ w_14_52) (by decide +kernel) ⟨Nat.le_trans (Nat.le_of_ble_eq_true rfl) hRf, Nat.le_trans (Nat.le_of_ble_eq_true rfl) hRl⟩, hT _ w_14_54, hT _ ws_271⟩ ⟨PW.blind, va_recv hK hW.1 (ci := 12) (q0 := 0) rfl (pic_obj ko_0.1 ko_0.2 (by decide)), PW.at _ hW hK hN⟩ rfl rfl hl.1 rfl (lv_room (Nat.le_of_ble_eq_true rfl)) d_Mod_row_7 ⟨hRc, hRs⟩) hS (fun q _ h => hF q h) hF (fun r2631 x2630 t H locs ht hvm hw hB hz1 hk1 hS => ?_)
  have hW := Wd.back hB ht hF
  clear hB ht hF hz1 hk1 hvm
  refine lv_if_eq (tgt := 22) hx hb d_Mod_row_10 (by decide) (fun c2632 => ?_) (fun c2632 => ?_)
  · have hw := hw.1 c2632
    refine lv_iconst (v := (-1)) hx hb d_Mod_row_22 (by decide) ?_
    exact hret (-1) x2630 H locs 23 ls d_Mod_row_23 hw hW hS
  · have hw := hw.2 c2632
    refine lv_aload_n hx hb d_Mod_row_13 rfl (lv_at hl 0 rfl) ?_
    refine w_getf (q := 104) (k := 149) (t := 12) (C := R_Mod) (T := F_Mod) (N := 167) hx hb hT hown hK hW ko_0.1 ko_0.2 (by decide) in_Mod rfl rfl (by decide) rfl fr_Mod_149 w_9_85 d_Mod_row_14 rfl ?_
    refine lv_iload_n hx hb d_Mod_row_17 rfl (lv_at hl 1 rfl) ?_
    obtain ⟨hi, hw⟩ := hw
    refine w_iald (o := 104) hx hb hK hW ko_104.1 ko_104.2 hi d_Mod_row_18 ?_
    refine lv_goto (tgt := 23) hx hb d_Mod_row_19 (by decide) ?_
    exact hret (rA x2630 104 l1) x2630 H locs 23 ls d_Mod_row_23 hw hW hS
set_option maxHeartbeats 4000000 in
set_option maxRecDepth 100000 in
theorem k_Mod_row (l : Launch) (dC : Nat → ClassId) (dI : Nat → Nat → Nat) (cI cB cJ cZ : ClassId) (ad : Nat → Nat) (sz : Nat) (l1 : Int32) (x : St) {post : Int32 → St → Prop} (hw : wp_Mod_row post l1 x) : Met l y_Mod_row (wsOf y_Mod_row b_Mod_row 2 (some (.int))) ({ frames := 2, cells := 0, slots := 0, locals := 44 }) (va_Pc [.ref (ad 0), .int l1] (PW dC dI cI cB cJ cZ ad stM kcM 115 sz x)) (va_Qi (fun (r : Int32) (y : St) => post r y) (fun y t => Wd dC dI cI cB cJ cZ ad stM kcM 115 (va_A (pic ad stM kcM 115 cI cB cJ cZ x) sz) y t.heap) (va_A (pic ad stM kcM 115 cI cB cJ cZ x) sz)) 0 0 (va_A (pic ad stM kcM 115 cI cB cJ cZ x) sz) := by
  refine Met.ofW (cc := b_Mod_row) (maxL := 2) (ret := some (.int)) (by decide) rfl ?_
  intro p e s m args below meth c s₁ B hml hv
  obtain ⟨rfl, hsz, hW0, hK, hN⟩ := hv
  have hx := B.exec
  have hb := B.bytes
  have hr := B.returns
  have hts := atoms_spec B.pre
  have hT : ∀ w ∈ TG, w.before _ s = true := fun w h => hts w (List.mem_cons_of_mem _ h)
  have hown : s.vm.findClass R_Mod = some m.cls := findClass_of_methodNamed B.named
  have hlocks := B.notSynchronized
  subst hsz
  have hW : Wd dC dI cI cB cJ cZ ad stM kcM 115 (va_A (pic ad stM kcM 115 cI cB cJ cZ x) s.heap.size) x s.heap := ⟨hW0.1, hW0.2.1.self (sz := s.heap.size), hW0.2.2⟩
  generalize hAe : va_A (pic ad stM kcM 115 cI cB cJ cZ x) s.heap.size = A at hW ⊢
  have hA : ∀ q : Nat, s.heap.size ≤ q → A q := fun q h => by rw [← hAe]; exact Or.inr h
  have hS : va_S A s.heap s.heap [] := va_S.rf
  have hl := lv_entry ([.ref (ad 0), .int l1]) (n := 2) (Nat.le_of_ble_eq_true rfl)
  rw [lg_entry_eq]
  generalize (lg_sl ([.ref (ad 0), .int l1]) ++ List.replicate (2 - (lg_sl ([.ref (ad 0), .int l1])).length) Slot.unset).toArray = ls at hl ⊢
  have hl : lv_has ls 2 [(0, .ref (ad 0)), (1, .int l1)] := hl
  exact t_Mod_row_e hx hb hml hown hT hK hN hA (Nat.le_refl 0) (Nat.le_refl 0) (Nat.le_refl 2) (Nat.le_refl 44) (fun r x H locs pc ls hd hp hW hS => W.iret (v := r) hx hb hr (fun t ht hM => ⟨⟨r, x, rfl, hp, Wd.back hW ht.symm (fun _ z => z)⟩, hS.F ht⟩) hS.2.2 hd hlocks)  l1 x _ _ ls  hw hW hS hl
set_option maxRecDepth 100000 in
set_option maxHeartbeats 4000000 in
set_option maxRecDepth 100000 in
theorem t_Mod_answer_97 {p : Program} {l : Launch} {e : Env} {R : Room} {s : State} {m : MethodId} {args : Array Value} {below : List Frame} {meth : Method} {c : Code} {cells slots : Nat} {Q : State → Prop} {dC : Nat → ClassId} {dI : Nat → Nat → Nat} {cI cB cJ cZ : ClassId} {A : Nat → Prop} {ad : Nat → Nat} {post : Int32 → St → Prop} {rec22 : Int32 → Int32 → St → Prop} {rec41 : Int32 → Int32 → Int32 → St → Prop} (hx : p.tables.exec = Jvm.exec) (hb : c.code = b_Mod_answer) (hml : c.maxLocals = 4) (hown : s.vm.findClass R_Mod = some m.cls) (hT : ∀ w ∈ TG, w.before args s = true) (hK : va_K (dC, dI) CL (TY cI cB cJ cZ) s) (hN : NW s) (hA : ∀ q : Nat, s.heap.size ≤ q → A q) (hRc : cells ≤ R.cells) (hRs : slots ≤ R.slots) (hRf : 206 ≤ R.frames) (hRl : 5133 ≤ R.locals) (hret : ∀ (r : Int32) (x : St) (H : Heap) (locs : List Loc) (pc : Nat) (ls : Array Slot), decode b_Mod_answer pc = .ok (.ireturn, 1) → post r x → Wd dC dI cI cB cJ cZ ad stM kcM 115 A x H → va_S A s.heap H locs → W p l e R s m args below meth c H locs cells slots Q (F0 m pc ls [.int r])) (hrec22 : ∀ (l1 : Int32) (l2 : Int32) (x : St) (H : Heap) (locs : List Loc) (ls : Array Slot), rec22 l1 l2 x → Wd dC dI cI cB cJ cZ ad stM kcM 115 A x H → va_S A s.heap H locs → lv_has ls 4 [(0, .ref (ad 0)), (1, .int l1), (2, .int l2)] → W p l e R s m args below meth c H locs cells slots Q (F0 m 22 ls [])) (hrec41 : ∀ (l1 : Int32) (l2 : Int32) (l3 : Int32) (x : St) (H : Heap) (locs : List Loc) (ls : Array Slot), rec41 l1 l2 l3 x → Wd dC dI cI cB cJ cZ ad stM kcM 115 A x H → va_S A s.heap H locs → lv_has ls 4 [(0, .ref (ad 0)), (1, .int l1), (2, .int l2), (3, .int l3)] → W p l e R s m args below meth c H locs cells slots Q (F0 m 41 ls [])) : ∀ (l1 : Int32) (l2 : Int32) (l3 : Int32) (s0 : Int32) (s1 : Int32) (s2 : Nat) (x : St) (H : Heap) (locs : List Loc) (ls : Array Slot), (s2 < 115 ∧ kcM s2 = 23) → j_Mod_answer_97 post rec22 rec41 l1 l2 l3 s0 s1 s2 x → Wd dC dI cI cB cJ cZ ad stM kcM 115 A x H → va_S A s.heap H locs → lv_has ls 4 [(0, .ref (ad 0)), (1, .int l1), (2, .int l2), (3, .int l3)] → W p l e R s m args below meth c H locs cells slots Q (F0 m 97 ls [.int s0, .int s1, .ref (ad s2)]) := by
  intro l1 l2 l3 s0 s1 s2 x H locs ls fs2 hw hW hS hl
  unfold j_Mod_answer_97 at hw
  obtain ⟨hi, hw⟩ := hw
  refine w_zast (o := s2) hx hb hK hW hS fs2.1 fs2.2 hi d_Mod_answer_97 (fun H locs hW hS => ?_)
  obtain ⟨x2633, ex2633⟩ : ∃ y : St, y = setA x s2 s1 (vp_nar .boolean s0) := ⟨_, rfl⟩
  rw [← ex2633] at hW
  have hw := hw x2633 ex2633
  refine lv_iinc (v := (l3 + 1)) (lv' := [(3, .int (l3 + 1)), (0, .ref (ad 0)), (1, .int l1), (2, .int l2)]) hx hb d_Mod_answer_98 hl (k := 3) rfl rfl (by decide) rfl (fun ls hl => ?_)
  refine lv_goto (tgt := 41) hx hb d_Mod_answer_101 (by decide) ?_
  exact hrec41 l1 l2 (l3 + 1) x2633 H locs ls  hw hW hS (lv_sub hl [1, 2, 3, 0] rfl)
set_option maxRecDepth 100000 in
set_option maxHeartbeats 4000000 in
set_option maxRecDepth 100000 in
theorem t_Mod_answer_92 {p : Program} {l : Launch} {e : Env} {R : Room} {s : State} {m : MethodId} {args : Array Value} {below : List Frame} {meth : Method} {c : Code} {cells slots : Nat} {Q : State → Prop} {dC : Nat → ClassId} {dI : Nat → Nat → Nat} {cI cB cJ cZ : ClassId} {A : Nat → Prop} {ad : Nat → Nat} {post : Int32 → St → Prop} {rec22 : Int32 → Int32 → St → Prop} {rec41 : Int32 → Int32 → Int32 → St → Prop} (hx : p.tables.exec = Jvm.exec) (hb : c.code = b_Mod_answer) (hml : c.maxLocals = 4) (hown : s.vm.findClass R_Mod = some m.cls) (hT : ∀ w ∈ TG, w.before args s = true) (hK : va_K (dC, dI) CL (TY cI cB cJ cZ) s) (hN : NW s) (hA : ∀ q : Nat, s.heap.size ≤ q → A q) (hRc : cells ≤ R.cells) (hRs : slots ≤ R.slots) (hRf : 206 ≤ R.frames) (hRl : 5133 ≤ R.locals) (hret : ∀ (r : Int32) (x : St) (H : Heap) (locs : List Loc) (pc : Nat) (ls : Array Slot), decode b_Mod_answer pc = .ok (.ireturn, 1) → post r x → Wd dC dI cI cB cJ cZ ad stM kcM 115 A x H → va_S A s.heap H locs → W p l e R s m args below meth c H locs cells slots Q (F0 m pc ls [.int r])) (hrec22 : ∀ (l1 : Int32) (l2 : Int32) (x : St) (H : Heap) (locs : List Loc) (ls : Array Slot), rec22 l1 l2 x → Wd dC dI cI cB cJ cZ ad stM kcM 115 A x H → va_S A s.heap H locs → lv_has ls 4 [(0, .ref (ad 0)), (1, .int l1), (2, .int l2)] → W p l e R s m args below meth c H locs cells slots Q (F0 m 22 ls [])) (hrec41 : ∀ (l1 : Int32) (l2 : Int32) (l3 : Int32) (x : St) (H : Heap) (locs : List Loc) (ls : Array Slot), rec41 l1 l2 l3 x → Wd dC dI cI cB cJ cZ ad stM kcM 115 A x H → va_S A s.heap H locs → lv_has ls 4 [(0, .ref (ad 0)), (1, .int l1), (2, .int l2), (3, .int l3)] → W p l e R s m args below meth c H locs cells slots Q (F0 m 41 ls [])) : ∀ (l1 : Int32) (l2 : Int32) (l3 : Int32) (s0 : Int32) (s1 : Nat) (x : St) (H : Heap) (locs : List Loc) (ls : Array Slot), (s1 < 115 ∧ kcM s1 = 23) → j_Mod_answer_92 post rec22 rec41 l1 l2 l3 s0 s1 x → Wd dC dI cI cB cJ cZ ad stM kcM 115 A x H → va_S A s.heap H locs → lv_has ls 4 [(0, .ref (ad 0)), (1, .int l1), (2, .int l2), (3, .int l3)] → W p l e R s m args below meth c H locs cells slots Q (F0 m 92 ls [.int s0, .ref (ad s1)]) := by
  intro l1 l2 l3 s0 s1 x H locs ls fs1 hw hW hS hl
  unfold j_Mod_answer_92 at hw
  refine lv_iconst (v := 1) hx hb d_Mod_answer_92 (by decide) ?_
  refine lv_goto (tgt := 97) hx hb d_Mod_answer_93 (by decide) ?_
  exact t_Mod_answer_97 hx hb hml hown hT hK hN hA hRc hRs hRf hRl hret hrec22 hrec41 l1 l2 l3 1 s0 s1 x H locs ls fs1 hw hW hS (lv_sub hl [0, 1, 2, 3] rfl)
set_option maxRecDepth 100000 in
set_option maxHeartbeats 4000000 in
set_option maxRecDepth 100000 in
theorem t_Mod_answer_41 {p : Program} {l : Launch} {e : Env} {R : Room} {s : State} {m : MethodId} {args : Array Value} {below : List Frame} {meth : Method} {c : Code} {cells slots : Nat} {Q : State → Prop} {dC : Nat → ClassId} {dI : Nat → Nat → Nat} {cI cB cJ cZ : ClassId} {A : Nat → Prop} {ad : Nat → Nat} {post : Int32 → St → Prop} {rec22 : Int32 → Int32 → St → Prop} {rec41 : Int32 → Int32 → Int32 → St → Prop} (hx : p.tables.exec = Jvm.exec) (hb : c.code = b_Mod_answer) (hml : c.maxLocals = 4) (hown : s.vm.findClass R_Mod = some m.cls) (hT : ∀ w ∈ TG, w.before args s = true) (hK : va_K (dC, dI) CL (TY cI cB cJ cZ) s) (hN : NW s) (hA : ∀ q : Nat, s.heap.size ≤ q → A q) (hRc : cells ≤ R.cells) (hRs : slots ≤ R.slots) (hRf : 206 ≤ R.frames) (hRl : 5133 ≤ R.locals) (hret : ∀ (r : Int32) (x : St) (H : Heap) (locs : List Loc) (pc : Nat) (ls : Array Slot), decode b_Mod_answer pc = .ok (.ireturn, 1) → post r x → Wd dC dI cI cB cJ cZ ad stM kcM 115 A x H → va_S A s.heap H locs → W p l e R s m args below meth c H locs cells slots Q (F0 m pc ls [.int r])) (hrec22 : ∀ (l1 : Int32) (l2 : Int32) (x : St) (H : Heap) (locs : List Loc) (ls : Array Slot), rec22 l1 l2 x → Wd dC dI cI cB cJ cZ ad stM kcM 115 A x H → va_S A s.heap H locs → lv_has ls 4 [(0, .ref (ad 0)), (1, .int l1), (2, .int l2)] → W p l e R s m args below meth c H locs cells slots Q (F0 m 22 ls [])) (hrec41 : ∀ (l1 : Int32) (l2 : Int32) (l3 : Int32) (x : St) (H : Heap) (locs : List Loc) (ls : Array Slot), rec41 l1 l2 l3 x → Wd dC dI cI cB cJ cZ ad stM kcM 115 A x H → va_S A s.heap H locs → lv_has ls 4 [(0, .ref (ad 0)), (1, .int l1), (2, .int l2), (3, .int l3)] → W p l e R s m args below meth c H locs cells slots Q (F0 m 41 ls [])) : ∀ (l1 : Int32) (l2 : Int32) (l3 : Int32) (x : St) (H : Heap) (locs : List Loc) (ls : Array Slot), j_Mod_answer_41 post rec22 rec41 l1 l2 l3 x → Wd dC dI cI cB cJ cZ ad stM kcM 115 A x H → va_S A s.heap H locs → lv_has ls 4 [(0, .ref (ad 0)), (1, .int l1), (2, .int l2), (3, .int l3)] → W p l e R s m args below meth c H locs cells slots Q (F0 m 41 ls []) := by
  intro l1 l2 l3 x H locs ls  hw hW hS hl
  unfold j_Mod_answer_41 at hw
  refine lv_iload_n hx hb d_Mod_answer_41 rfl (lv_at hl 3 rfl) ?_
  refine lv_aload_n hx hb d_Mod_answer_42 rfl (lv_at hl 0 rfl) ?_
  refine w_getf (q := 79) (k := 122) (t := 12) (C := R_Mod) (T := F_Mod) (N := 167) hx hb hT hown hK hW ko_0.1 ko_0.2 (by decide) in_Mod rfl rfl (by decide) rfl fr_Mod_122 w_9_58 d_Mod_answer_43 rfl ?_
  refine lv_iconst (v := 4) hx hb d_Mod_answer_46 (by decide) ?_
  refine lv_aload_n hx hb d_Mod_answer_47 rfl (lv_at hl 0 rfl) ?_
  refine w_geti (k := 119) (t := 12) (C := R_Mod) (T := F_Mod) (N := 167) hx hb hT hown hK hW ko_0.1 ko_0.2 (by decide) in_Mod rfl rfl (by decide) rfl fr_Mod_119 w_9_55 d_Mod_answer_48 ?_
  refine lv_imul hx hb d_Mod_answer_51 ?_
  obtain ⟨hi, hw⟩ := hw
  refine w_iald (o := 79) hx hb hK hW ko_79.1 ko_79.2 hi d_Mod_answer_52 ?_
  refine lv_icmp_ge (tgt := 104) hx hb d_Mod_answer_53 (by decide) (fun c2634 => ?_) (fun c2634 => ?_)
  · have hw := hw.1 c2634
    refine lv_iinc (v := (l2 + 1)) (lv' := [(2, .int (l2 + 1)), (0, .ref (ad 0)), (1, .int l1), (3, .int l3)]) hx hb d_Mod_answer_104 hl (k := 2) rfl rfl (by decide) rfl (fun ls hl => ?_)
    refine lv_goto (tgt := 22) hx hb d_Mod_answer_107 (by decide) ?_
    exact hrec22 l1 (l2 + 1) x H locs ls  hw hW hS (lv_sub hl [1, 2, 0] rfl)
  · have hw := hw.2 c2634
    refine lv_aload_n hx hb d_Mod_answer_56 rfl (lv_at hl 0 rfl) ?_
    refine w_getf (q := 78) (k := 116) (t := 12) (C := R_Mod) (T := F_Mod) (N := 167) hx hb hT hown hK hW ko_0.1 ko_0.2 (by decide) in_Mod rfl rfl (by decide) rfl fr_Mod_116 w_9_52 d_Mod_answer_57 rfl ?_
    refine lv_iload_n hx hb d_Mod_answer_60 rfl (lv_at hl 2 rfl) ?_
    refine lv_aload_n hx hb d_Mod_answer_61 rfl (lv_at hl 0 rfl) ?_
    refine w_getf (q := 78) (k := 116) (t := 12) (C := R_Mod) (T := F_Mod) (N := 167) hx hb hT hown hK hW ko_0.1 ko_0.2 (by decide) in_Mod rfl rfl (by decide) rfl fr_Mod_116 w_9_52 d_Mod_answer_62 rfl ?_
    refine lv_iload_n hx hb d_Mod_answer_65 rfl (lv_at hl 2 rfl) ?_
    obtain ⟨hi, hw⟩ := hw
    refine w_zald (o := 78) hx hb hK hW ko_78.1 ko_78.2 hi d_Mod_answer_66 ?_
    refine lv_if_ne (tgt := 92) hx hb d_Mod_answer_67 (by decide) (fun c2635 => ?_) (fun c2635 => ?_)
    · have hw := hw.1 c2635
      exact t_Mod_answer_92 hx hb hml hown hT hK hN hA hRc hRs hRf hRl hret hrec22 hrec41 l1 l2 l3 l2 78 x H locs ls ko_78 hw hW hS (lv_sub hl [0, 1, 2, 3] rfl)
    · have hw := hw.2 c2635
      refine lv_aload_n hx hb d_Mod_answer_70 rfl (lv_at hl 0 rfl) ?_
      refine lv_iload_n hx hb d_Mod_answer_71 rfl (lv_at hl 2 rfl) ?_
      refine lv_aload_n hx hb d_Mod_answer_72 rfl (lv_at hl 0 rfl) ?_
      refine w_getf (q := 81) (k := 124) (t := 12) (C := R_Mod) (T := F_Mod) (N := 167) hx hb hT hown hK hW ko_0.1 ko_0.2 (by decide) in_Mod rfl rfl (by decide) rfl fr_Mod_124 w_9_60 d_Mod_answer_73 rfl ?_
      refine lv_bipush (v := 16) hx hb d_Mod_answer_76 (by decide) ?_
      refine lv_aload_n hx hb d_Mod_answer_78 rfl (lv_at hl 0 rfl) ?_
      refine w_geti (k := 119) (t := 12) (C := R_Mod) (T := F_Mod) (N := 167) hx hb hT hown hK hW ko_0.1 ko_0.2 (by decide) in_Mod rfl rfl (by decide) rfl fr_Mod_119 w_9_55 d_Mod_answer_79 ?_
      refine lv_imul hx hb d_Mod_answer_82 ?_
      refine lv_iload_n hx hb d_Mod_answer_83 rfl (lv_at hl 3 rfl) ?_
      refine lv_iadd hx hb d_Mod_answer_84 ?_
      obtain ⟨hi, hw⟩ := hw
      refine w_iald (o := 81) hx hb hK hW ko_81.1 ko_81.2 hi d_Mod_answer_85 ?_
      have hF := hW.free hS hA
      refine va_calli (va_runV (C := R_Mod) (As := [.int l2, .int (rA x 81 ((16 * (fI x 0 119)) + l3))]) (rest := [.int l2, .ref (ad 78)]) ⟨hx, hb, hml, hown, hT⟩ (k_Mod_isUnder l dC dI cI cB cJ cZ ad H.size l2 (rA x 81 ((16 * (fI x 0 119)) + l3)) x  hw) ⟨callB_of 2 hT (gwt_in w_13_78) rfl rfl rfl (hT _ w_1_15) (hT _ w_13_75) (by decide +kernel) ⟨Nat.le_trans (Nat.le_of_ble_eq_true rfl) hRf, Nat.le_trans (Nat.le_of_ble_eq_true rfl) hRl⟩, hT _ w_13_77, hT _ ws_229⟩ ⟨PW.blind, va_recv hK hW.1 (ci := 12) (q0 := 0) rfl (pic_obj ko_0.1 ko_0.2 (by decide)), PW.at _ hW hK hN⟩ rfl rfl hl.1 rfl (lv_room (Nat.le_of_ble_eq_true rfl)) d_Mod_answer_86 ⟨hRc, hRs⟩) hS (fun q _ h => hF q h) hF (fun r2637 x2636 t H locs ht hvm hw hB hz1 hk1 hS => ?_)
      have hW := Wd.back hB ht hF
      clear hB ht hF hz1 hk1 hvm
      refine lv_if_eq (tgt := 96) hx hb d_Mod_answer_89 (by decide) (fun c2638 => ?_) (fun c2638 => ?_)
      · have hw := hw.1 c2638
        refine lv_iconst (v := 0) hx hb d_Mod_answer_96 (by decide) ?_
        exact t_Mod_answer_97 hx hb hml hown hT hK hN hA hRc hRs hRf hRl hret hrec22 hrec41 l1 l2 l3 0 l2 78 x2636 H locs ls ko_78 hw hW hS (lv_sub hl [0, 1, 2, 3] rfl)
      · have hw := hw.2 c2638
        exact t_Mod_answer_92 hx hb hml hown hT hK hN hA hRc hRs hRf hRl hret hrec22 hrec41 l1 l2 l3 l2 78 x2636 H locs ls ko_78 hw hW hS (lv_sub hl [0, 1, 2, 3] rfl)
set_option maxHeartbeats 4000000 in
set_option maxRecDepth 100000 in
theorem tl_Mod_answer_41 {p : Program} {l : Launch} {e : Env} {R : Room} {s : State} {m : MethodId} {args : Array Value} {below : List Frame} {meth : Method} {c : Code} {cells slots : Nat} {Q : State → Prop} {dC : Nat → ClassId} {dI : Nat → Nat → Nat} {cI cB cJ cZ : ClassId} {A : Nat → Prop} {ad : Nat → Nat} {post : Int32 → St → Prop} {rec22 : Int32 → Int32 → St → Prop} (hx : p.tables.exec = Jvm.exec) (hb : c.code = b_Mod_answer) (hml : c.maxLocals = 4) (hown : s.vm.findClass R_Mod = some m.cls) (hT : ∀ w ∈ TG, w.before args s = true) (hK : va_K (dC, dI) CL (TY cI cB cJ cZ) s) (hN : NW s) (hA : ∀ q : Nat, s.heap.size ≤ q → A q) (hRc : cells ≤ R.cells) (hRs : slots ≤ R.slots) (hRf : 206 ≤ R.frames) (hRl : 5133 ≤ R.locals) (hret : ∀ (r : Int32) (x : St) (H : Heap) (locs : List Loc) (pc : Nat) (ls : Array Slot), decode b_Mod_answer pc = .ok (.ireturn, 1) → post r x → Wd dC dI cI cB cJ cZ ad stM kcM 115 A x H → va_S A s.heap H locs → W p l e R s m args below meth c H locs cells slots Q (F0 m pc ls [.int r])) (hrec22 : ∀ (l1 : Int32) (l2 : Int32) (x : St) (H : Heap) (locs : List Loc) (ls : Array Slot), rec22 l1 l2 x → Wd dC dI cI cB cJ cZ ad stM kcM 115 A x H → va_S A s.heap H locs → lv_has ls 4 [(0, .ref (ad 0)), (1, .int l1), (2, .int l2)] → W p l e R s m args below meth c H locs cells slots Q (F0 m 22 ls [])) : ∀ n : Nat, ∀ (l1 : Int32) (l2 : Int32) (l3 : Int32) (x : St) (H : Heap) (locs : List Loc) (ls : Array Slot), wl_Mod_answer_41 post rec22 n l1 l2 l3 x → Wd dC dI cI cB cJ cZ ad stM kcM 115 A x H → va_S A s.heap H locs → lv_has ls 4 [(0, .ref (ad 0)), (1, .int l1), (2, .int l2), (3, .int l3)] → W p l e R s m args below meth c H locs cells slots Q (F0 m 41 ls []) := by
  intro n
  induction n with
  | zero => intro l1 l2 l3 x H locs ls  hw; exact hw.elim
  | succ n ih => intro l1 l2 l3 x H locs ls  hw hW hS hl; exact t_Mod_answer_41 hx hb hml hown hT hK hN hA hRc hRs hRf hRl hret hrec22 ih l1 l2 l3 x H locs ls  hw hW hS hl
set_option maxRecDepth 100000 in
set_option maxHeartbeats 4000000 in
set_option maxRecDepth 100000 in
theorem t_Mod_answer_22 {p : Program} {l : Launch} {e : Env} {R : Room} {s : State} {m : MethodId} {args : Array Value} {below : List Frame} {meth : Method} {c : Code} {cells slots : Nat} {Q : State → Prop} {dC : Nat → ClassId} {dI : Nat → Nat → Nat} {cI cB cJ cZ : ClassId} {A : Nat → Prop} {ad : Nat → Nat} {post : Int32 → St → Prop} {rec22 : Int32 → Int32 → St → Prop} (hx : p.tables.exec = Jvm.exec) (hb : c.code = b_Mod_answer) (hml : c.maxLocals = 4) (hown : s.vm.findClass R_Mod = some m.cls) (hT : ∀ w ∈ TG, w.before args s = true) (hK : va_K (dC, dI) CL (TY cI cB cJ cZ) s) (hN : NW s) (hA : ∀ q : Nat, s.heap.size ≤ q → A q) (hRc : cells ≤ R.cells) (hRs : slots ≤ R.slots) (hRf : 206 ≤ R.frames) (hRl : 5133 ≤ R.locals) (hret : ∀ (r : Int32) (x : St) (H : Heap) (locs : List Loc) (pc : Nat) (ls : Array Slot), decode b_Mod_answer pc = .ok (.ireturn, 1) → post r x → Wd dC dI cI cB cJ cZ ad stM kcM 115 A x H → va_S A s.heap H locs → W p l e R s m args below meth c H locs cells slots Q (F0 m pc ls [.int r])) (hrec22 : ∀ (l1 : Int32) (l2 : Int32) (x : St) (H : Heap) (locs : List Loc) (ls : Array Slot), rec22 l1 l2 x → Wd dC dI cI cB cJ cZ ad stM kcM 115 A x H → va_S A s.heap H locs → lv_has ls 4 [(0, .ref (ad 0)), (1, .int l1), (2, .int l2)] → W p l e R s m args below meth c H locs cells slots Q (F0 m 22 ls [])) : ∀ (l1 : Int32) (l2 : Int32) (x : St) (H : Heap) (locs : List Loc) (ls : Array Slot), j_Mod_answer_22 post rec22 l1 l2 x → Wd dC dI cI cB cJ cZ ad stM kcM 115 A x H → va_S A s.heap H locs → lv_has ls 4 [(0, .ref (ad 0)), (1, .int l1), (2, .int l2)] → W p l e R s m args below meth c H locs cells slots Q (F0 m 22 ls []) := by
  intro l1 l2 x H locs ls  hw hW hS hl
  unfold j_Mod_answer_22 at hw
  refine lv_iload_n hx hb d_Mod_answer_22 rfl (lv_at hl 2 rfl) ?_
  refine lv_aload_n hx hb d_Mod_answer_23 rfl (lv_at hl 0 rfl) ?_
  refine w_getf (q := 10) (k := 12) (t := 12) (C := R_Mod) (T := F_Mod) (N := 167) hx hb hT hown hK hW ko_0.1 ko_0.2 (by decide) in_Mod rfl rfl (by decide) rfl fr_Mod_12 w_8_188 d_Mod_answer_24 rfl ?_
  refine lv_iconst (v := 1) hx hb d_Mod_answer_27 (by decide) ?_
  obtain ⟨hi, hw⟩ := hw
  refine w_iald (o := 10) hx hb hK hW ko_10.1 ko_10.2 hi d_Mod_answer_28 ?_
  refine lv_icmp_ge (tgt := 110) hx hb d_Mod_answer_29 (by decide) (fun c2639 => ?_) (fun c2639 => ?_)
  · have hw := hw.1 c2639
    refine lv_aload_n hx hb d_Mod_answer_110 rfl (lv_at hl 0 rfl) ?_
    refine lv_aload_n hx hb d_Mod_answer_111 rfl (lv_at hl 0 rfl) ?_
    refine w_getf (q := 104) (k := 149) (t := 12) (C := R_Mod) (T := F_Mod) (N := 167) hx hb hT hown hK hW ko_0.1 ko_0.2 (by decide) in_Mod rfl rfl (by decide) rfl fr_Mod_149 w_9_85 d_Mod_answer_112 rfl ?_
    refine lv_iload_n hx hb d_Mod_answer_115 rfl (lv_at hl 1 rfl) ?_
    obtain ⟨hi, hw⟩ := hw
    refine w_iald (o := 104) hx hb hK hW ko_104.1 ko_104.2 hi d_Mod_answer_116 ?_
    have hF := hW.free hS hA
    refine va_calli (va_runV (C := R_Mod) (As := [.int (rA x 104 l1)]) (rest := []) ⟨hx, hb, hml, hown, hT⟩ (k_Mod_tellRecord l dC dI cI cB cJ cZ ad H.size (rA x 104 l1) x  hw) ⟨callB_of 1 hT (gwt_in w_13_50) rfl rfl rfl (hT _ w_1_15) (hT _ w_13_47) (by decide +kernel) ⟨Nat.le_trans (Nat.le_of_ble_eq_true rfl) hRf, Nat.le_trans (Nat.le_of_ble_eq_true rfl) hRl⟩, hT _ w_13_49, hT _ ws_222⟩ ⟨PW.blind, va_recv hK hW.1 (ci := 12) (q0 := 0) rfl (pic_obj ko_0.1 ko_0.2 (by decide)), PW.at _ hW hK hN⟩ rfl rfl hl.1 rfl (lv_room (Nat.le_of_ble_eq_true rfl)) d_Mod_answer_117 ⟨hRc, hRs⟩) hS (fun q _ h => hF q h) hF (fun r2641 x2640 t H locs ht hvm hw hB hz1 hk1 hS => ?_)
    have hW := Wd.back hB ht hF
    clear hB ht hF hz1 hk1 hvm
    exact hret r2641 x2640 H locs 120 ls d_Mod_answer_120 hw hW hS
  · have hw := hw.2 c2639
    refine lv_aload_n hx hb d_Mod_answer_32 rfl (lv_at hl 0 rfl) ?_
    refine w_getf (q := 78) (k := 116) (t := 12) (C := R_Mod) (T := F_Mod) (N := 167) hx hb hT hown hK hW ko_0.1 ko_0.2 (by decide) in_Mod rfl rfl (by decide) rfl fr_Mod_116 w_9_52 d_Mod_answer_33 rfl ?_
    refine lv_iload_n hx hb d_Mod_answer_36 rfl (lv_at hl 2 rfl) ?_
    refine lv_iconst (v := 0) hx hb d_Mod_answer_37 (by decide) ?_
    obtain ⟨hi, hw⟩ := hw
    refine w_zast (o := 78) hx hb hK hW hS ko_78.1 ko_78.2 hi d_Mod_answer_38 (fun H locs hW hS => ?_)
    obtain ⟨x2642, ex2642⟩ : ∃ y : St, y = setA x 78 l2 (vp_nar .boolean 0) := ⟨_, rfl⟩
    rw [← ex2642] at hW
    have hw := hw x2642 ex2642
    refine lv_iconst (v := 0) hx hb d_Mod_answer_39 (by decide) ?_
    refine lv_istore_n (lv' := [(3, .int 0), (0, .ref (ad 0)), (1, .int l1), (2, .int l2)]) hx hb d_Mod_answer_40 rfl hl (by decide) rfl (fun ls hl => ?_)
    obtain ⟨n, hw⟩ := hw
    exact tl_Mod_answer_41 hx hb hml hown hT hK hN hA hRc hRs hRf hRl hret hrec22 n l1 l2 0 x2642 H locs ls  hw hW hS (lv_sub hl [1, 2, 3, 0] rfl)
set_option maxHeartbeats 4000000 in
set_option maxRecDepth 100000 in
theorem tl_Mod_answer_22 {p : Program} {l : Launch} {e : Env} {R : Room} {s : State} {m : MethodId} {args : Array Value} {below : List Frame} {meth : Method} {c : Code} {cells slots : Nat} {Q : State → Prop} {dC : Nat → ClassId} {dI : Nat → Nat → Nat} {cI cB cJ cZ : ClassId} {A : Nat → Prop} {ad : Nat → Nat} {post : Int32 → St → Prop} (hx : p.tables.exec = Jvm.exec) (hb : c.code = b_Mod_answer) (hml : c.maxLocals = 4) (hown : s.vm.findClass R_Mod = some m.cls) (hT : ∀ w ∈ TG, w.before args s = true) (hK : va_K (dC, dI) CL (TY cI cB cJ cZ) s) (hN : NW s) (hA : ∀ q : Nat, s.heap.size ≤ q → A q) (hRc : cells ≤ R.cells) (hRs : slots ≤ R.slots) (hRf : 206 ≤ R.frames) (hRl : 5133 ≤ R.locals) (hret : ∀ (r : Int32) (x : St) (H : Heap) (locs : List Loc) (pc : Nat) (ls : Array Slot), decode b_Mod_answer pc = .ok (.ireturn, 1) → post r x → Wd dC dI cI cB cJ cZ ad stM kcM 115 A x H → va_S A s.heap H locs → W p l e R s m args below meth c H locs cells slots Q (F0 m pc ls [.int r]))  : ∀ n : Nat, ∀ (l1 : Int32) (l2 : Int32) (x : St) (H : Heap) (locs : List Loc) (ls : Array Slot), wl_Mod_answer_22 post n l1 l2 x → Wd dC dI cI cB cJ cZ ad stM kcM 115 A x H → va_S A s.heap H locs → lv_has ls 4 [(0, .ref (ad 0)), (1, .int l1), (2, .int l2)] → W p l e R s m args below meth c H locs cells slots Q (F0 m 22 ls []) := by
  intro n
  induction n with
  | zero => intro l1 l2 x H locs ls  hw; exact hw.elim
  | succ n ih => intro l1 l2 x H locs ls  hw hW hS hl; exact t_Mod_answer_22 hx hb hml hown hT hK hN hA hRc hRs hRf hRl hret  ih l1 l2 x H locs ls  hw hW hS hl
set_option maxRecDepth 100000 in
set_option maxHeartbeats 4000000 in
set_option maxRecDepth 100000 in
theorem t_Mod_answer_e {p : Program} {l : Launch} {e : Env} {R : Room} {s : State} {m : MethodId} {args : Array Value} {below : List Frame} {meth : Method} {c : Code} {cells slots : Nat} {Q : State → Prop} {dC : Nat → ClassId} {dI : Nat → Nat → Nat} {cI cB cJ cZ : ClassId} {A : Nat → Prop} {ad : Nat → Nat} {post : Int32 → St → Prop} (hx : p.tables.exec = Jvm.exec) (hb : c.code = b_Mod_answer) (hml : c.maxLocals = 4) (hown : s.vm.findClass R_Mod = some m.cls) (hT : ∀ w ∈ TG, w.before args s = true) (hK : va_K (dC, dI) CL (TY cI cB cJ cZ) s) (hN : NW s) (hA : ∀ q : Nat, s.heap.size ≤ q → A q) (hRc : cells ≤ R.cells) (hRs : slots ≤ R.slots) (hRf : 206 ≤ R.frames) (hRl : 5133 ≤ R.locals) (hret : ∀ (r : Int32) (x : St) (H : Heap) (locs : List Loc) (pc : Nat) (ls : Array Slot), decode b_Mod_answer pc = .ok (.ireturn, 1) → post r x → Wd dC dI cI cB cJ cZ ad stM kcM 115 A x H → va_S A s.heap H locs → W p l e R s m args below meth c H locs cells slots Q (F0 m pc ls [.int r])) : ∀ (l1 : Int32) (x : St) (H : Heap) (locs : List Loc) (ls : Array Slot), wp_Mod_answer post l1 x → Wd dC dI cI cB cJ cZ ad stM kcM 115 A x H → va_S A s.heap H locs → lv_has ls 4 [(0, .ref (ad 0)), (1, .int l1)] → W p l e R s m args below meth c H locs cells slots Q (F0 m 0 ls []) := by
  intro l1 x H locs ls  hw hW hS hl
  unfold wp_Mod_answer at hw
  refine lv_aload_n hx hb d_Mod_answer_0 rfl (lv_at hl 0 rfl) ?_
  refine lv_iconst (v := 0) hx hb d_Mod_answer_1 (by decide) ?_
  refine w_puti (ty := .int) (k := 0) (t := 12) (C := R_Mod) (T := F_Mod) (N := 167) hx hb hT hown hK hW hS ko_0.1 ko_0.2 (by decide) in_Mod t_Mod t_Mod_ok n_Mod rfl rfl (by decide) rfl fr_Mod_0 w_8_176 (by decide +kernel) rfl rfl d_Mod_answer_2 (fun H locs hW hS => ?_)
  obtain ⟨x2643, ex2643⟩ : ∃ y : St, y = setI x 0 0 0 := ⟨_, rfl⟩
  rw [← ex2643] at hW
  have hw := hw x2643 ex2643
  refine lv_aload_n hx hb d_Mod_answer_5 rfl (lv_at hl 0 rfl) ?_
  refine lv_iconst (v := 0) hx hb d_Mod_answer_6 (by decide) ?_
  refine w_puti (ty := .int) (k := 113) (t := 12) (C := R_Mod) (T := F_Mod) (N := 167) hx hb hT hown hK hW hS ko_0.1 ko_0.2 (by decide) in_Mod t_Mod t_Mod_ok n_Mod rfl rfl (by decide) rfl fr_Mod_113 w_9_49 (by decide +kernel) rfl rfl d_Mod_answer_7 (fun H locs hW hS => ?_)
  obtain ⟨x2644, ex2644⟩ : ∃ y : St, y = setI x2643 0 113 0 := ⟨_, rfl⟩
  rw [← ex2644] at hW
  have hw := hw x2644 ex2644
  refine lv_aload_n hx hb d_Mod_answer_10 rfl (lv_at hl 0 rfl) ?_
  refine lv_iload_n hx hb d_Mod_answer_11 rfl (lv_at hl 1 rfl) ?_
  have hF := hW.free hS hA
  refine va_calli (va_runV (C := R_Mod) (As := [.int l1]) (rest := []) ⟨hx, hb, hml, hown, hT⟩ (k_Mod_isRow l dC dI cI cB cJ cZ ad H.size l1 x2644  hw) ⟨callB_of 1 hT (gwt_in w_14_55) rfl rfl rfl (hT _ w_1_15) (hT _ w_14_52) (by decide +kernel) ⟨Nat.le_trans (Nat.le_of_ble_eq_true rfl) hRf, Nat.le_trans (Nat.le_of_ble_eq_true rfl) hRl⟩, hT _ w_14_54, hT _ ws_271⟩ ⟨PW.blind, va_recv hK hW.1 (ci := 12) (q0 := 0) rfl (pic_obj ko_0.1 ko_0.2 (by decide)), PW.at _ hW hK hN⟩ rfl rfl hl.1 rfl (lv_room (Nat.le_of_ble_eq_true rfl)) d_Mod_answer_12 ⟨hRc, hRs⟩) hS (fun q _ h => hF q h) hF (fun r2646 x2645 t H locs ht hvm hw hB hz1 hk1 hS => ?_)
  have hW := Wd.back hB ht hF
  clear hB ht hF hz1 hk1 hvm
  refine lv_if_ne (tgt := 20) hx hb d_Mod_answer_15 (by decide) (fun c2647 => ?_) (fun c2647 => ?_)
  · have hw := hw.1 c2647
    refine lv_iconst (v := 0) hx hb d_Mod_answer_20 (by decide) ?_
    refine lv_istore_n (lv' := [(2, .int 0), (0, .ref (ad 0)), (1, .int l1)]) hx hb d_Mod_answer_21 rfl hl (by decide) rfl (fun ls hl => ?_)
    obtain ⟨n, hw⟩ := hw
    exact tl_Mod_answer_22 hx hb hml hown hT hK hN hA hRc hRs hRf hRl hret  n l1 0 x2645 H locs ls  hw hW hS (lv_sub hl [1, 2, 0] rfl)
  · have hw := hw.2 c2647
    refine lv_iconst (v := (-1)) hx hb d_Mod_answer_18 (by decide) ?_
    exact hret (-1) x2645 H locs 19 ls d_Mod_answer_19 hw hW hS
set_option maxHeartbeats 4000000 in
set_option maxRecDepth 100000 in
theorem k_Mod_answer (l : Launch) (dC : Nat → ClassId) (dI : Nat → Nat → Nat) (cI cB cJ cZ : ClassId) (ad : Nat → Nat) (sz : Nat) (l1 : Int32) (x : St) {post : Int32 → St → Prop} (hw : wp_Mod_answer post l1 x) : Met l y_Mod_answer (wsOf y_Mod_answer b_Mod_answer 4 (some (.int))) ({ frames := 206, cells := 0, slots := 0, locals := 5133 }) (va_Pc [.ref (ad 0), .int l1] (PW dC dI cI cB cJ cZ ad stM kcM 115 sz x)) (va_Qi (fun (r : Int32) (y : St) => post r y) (fun y t => Wd dC dI cI cB cJ cZ ad stM kcM 115 (va_A (pic ad stM kcM 115 cI cB cJ cZ x) sz) y t.heap) (va_A (pic ad stM kcM 115 cI cB cJ cZ x) sz)) 0 0 (va_A (pic ad stM kcM 115 cI cB cJ cZ x) sz) := by
  refine Met.ofW (cc := b_Mod_answer) (maxL := 4) (ret := some (.int)) (by decide) rfl ?_
  intro p e s m args below meth c s₁ B hml hv
  obtain ⟨rfl, hsz, hW0, hK, hN⟩ := hv
  have hx := B.exec
  have hb := B.bytes
  have hr := B.returns
  have hts := atoms_spec B.pre
  have hT : ∀ w ∈ TG, w.before _ s = true := fun w h => hts w (List.mem_cons_of_mem _ h)
  have hown : s.vm.findClass R_Mod = some m.cls := findClass_of_methodNamed B.named
  have hlocks := B.notSynchronized
  subst hsz
  have hW : Wd dC dI cI cB cJ cZ ad stM kcM 115 (va_A (pic ad stM kcM 115 cI cB cJ cZ x) s.heap.size) x s.heap := ⟨hW0.1, hW0.2.1.self (sz := s.heap.size), hW0.2.2⟩
  generalize hAe : va_A (pic ad stM kcM 115 cI cB cJ cZ x) s.heap.size = A at hW ⊢
  have hA : ∀ q : Nat, s.heap.size ≤ q → A q := fun q h => by rw [← hAe]; exact Or.inr h
  have hS : va_S A s.heap s.heap [] := va_S.rf
  have hl := lv_entry ([.ref (ad 0), .int l1]) (n := 4) (Nat.le_of_ble_eq_true rfl)
  rw [lg_entry_eq]
  generalize (lg_sl ([.ref (ad 0), .int l1]) ++ List.replicate (4 - (lg_sl ([.ref (ad 0), .int l1])).length) Slot.unset).toArray = ls at hl ⊢
  have hl : lv_has ls 4 [(0, .ref (ad 0)), (1, .int l1)] := hl
  exact t_Mod_answer_e hx hb hml hown hT hK hN hA (Nat.le_refl 0) (Nat.le_refl 0) (Nat.le_refl 206) (Nat.le_refl 5133) (fun r x H locs pc ls hd hp hW hS => W.iret (v := r) hx hb hr (fun t ht hM => ⟨⟨r, x, rfl, hp, Wd.back hW ht.symm (fun _ z => z)⟩, hS.F ht⟩) hS.2.2 hd hlocks)  l1 x _ _ ls  hw hW hS hl
set_option maxRecDepth 100000 in
set_option maxHeartbeats 4000000 in
set_option maxRecDepth 100000 in
theorem t_Mod_isItem_53 {p : Program} {l : Launch} {e : Env} {R : Room} {s : State} {m : MethodId} {args : Array Value} {below : List Frame} {meth : Method} {c : Code} {cells slots : Nat} {Q : State → Prop} {dC : Nat → ClassId} {dI : Nat → Nat → Nat} {cI cB cJ cZ : ClassId} {A : Nat → Prop} {ad : Nat → Nat} {post : Int32 → St → Prop} (hx : p.tables.exec = Jvm.exec) (hb : c.code = b_Mod_isItem) (hml : c.maxLocals = 3) (hown : s.vm.findClass R_Mod = some m.cls) (hT : ∀ w ∈ TG, w.before args s = true) (hK : va_K (dC, dI) CL (TY cI cB cJ cZ) s) (hN : NW s) (hA : ∀ q : Nat, s.heap.size ≤ q → A q) (hRc : cells ≤ R.cells) (hRs : slots ≤ R.slots) (hRf : 1 ≤ R.frames) (hRl : 23 ≤ R.locals) (hret : ∀ (r : Int32) (x : St) (H : Heap) (locs : List Loc) (pc : Nat) (ls : Array Slot), decode b_Mod_isItem pc = .ok (.ireturn, 1) → narrow .boolean (.int r) = .int r → post r x → Wd dC dI cI cB cJ cZ ad stM kcM 115 A x H → va_S A s.heap H locs → W p l e R s m args below meth c H locs cells slots Q (F0 m pc ls [.int r]))  : ∀ (l1 : Int32) (l2 : Int32) (x : St) (H : Heap) (locs : List Loc) (ls : Array Slot), j_Mod_isItem_53 post l1 l2 x → Wd dC dI cI cB cJ cZ ad stM kcM 115 A x H → va_S A s.heap H locs → lv_has ls 3 [(0, .ref (ad 0)), (1, .int l1), (2, .int l2)] → W p l e R s m args below meth c H locs cells slots Q (F0 m 53 ls []) := by
  intro l1 l2 x H locs ls  hw hW hS hl
  unfold j_Mod_isItem_53 at hw
  refine lv_iconst (v := 0) hx hb d_Mod_isItem_53 (by decide) ?_
  exact hret 0 x H locs 54 ls d_Mod_isItem_54 rfl hw hW hS
set_option maxRecDepth 100000 in
set_option maxHeartbeats 4000000 in
set_option maxRecDepth 100000 in
theorem t_Mod_isItem_e {p : Program} {l : Launch} {e : Env} {R : Room} {s : State} {m : MethodId} {args : Array Value} {below : List Frame} {meth : Method} {c : Code} {cells slots : Nat} {Q : State → Prop} {dC : Nat → ClassId} {dI : Nat → Nat → Nat} {cI cB cJ cZ : ClassId} {A : Nat → Prop} {ad : Nat → Nat} {post : Int32 → St → Prop} (hx : p.tables.exec = Jvm.exec) (hb : c.code = b_Mod_isItem) (hml : c.maxLocals = 3) (hown : s.vm.findClass R_Mod = some m.cls) (hT : ∀ w ∈ TG, w.before args s = true) (hK : va_K (dC, dI) CL (TY cI cB cJ cZ) s) (hN : NW s) (hA : ∀ q : Nat, s.heap.size ≤ q → A q) (hRc : cells ≤ R.cells) (hRs : slots ≤ R.slots) (hRf : 1 ≤ R.frames) (hRl : 23 ≤ R.locals) (hret : ∀ (r : Int32) (x : St) (H : Heap) (locs : List Loc) (pc : Nat) (ls : Array Slot), decode b_Mod_isItem pc = .ok (.ireturn, 1) → narrow .boolean (.int r) = .int r → post r x → Wd dC dI cI cB cJ cZ ad stM kcM 115 A x H → va_S A s.heap H locs → W p l e R s m args below meth c H locs cells slots Q (F0 m pc ls [.int r])) : ∀ (l1 : Int32) (l2 : Int32) (x : St) (H : Heap) (locs : List Loc) (ls : Array Slot), wp_Mod_isItem post l1 l2 x → Wd dC dI cI cB cJ cZ ad stM kcM 115 A x H → va_S A s.heap H locs → lv_has ls 3 [(0, .ref (ad 0)), (1, .int l1), (2, .int l2)] → W p l e R s m args below meth c H locs cells slots Q (F0 m 0 ls []) := by
  intro l1 l2 x H locs ls  hw hW hS hl
  unfold wp_Mod_isItem at hw
  refine lv_aload_n hx hb d_Mod_isItem_0 rfl (lv_at hl 0 rfl) ?_
  refine w_geti (k := 121) (t := 12) (C := R_Mod) (T := F_Mod) (N := 167) hx hb hT hown hK hW ko_0.1 ko_0.2 (by decide) in_Mod rfl rfl (by decide) rfl fr_Mod_121 w_9_57 d_Mod_isItem_1 ?_
  refine lv_if_eq (tgt := 53) hx hb d_Mod_isItem_4 (by decide) (fun c2648 => ?_) (fun c2648 => ?_)
  · have hw := hw.1 c2648
    exact t_Mod_isItem_53 hx hb hml hown hT hK hN hA hRc hRs hRf hRl hret  l1 l2 x H locs ls  hw hW hS (lv_sub hl [0, 1, 2] rfl)
  · have hw := hw.2 c2648
    refine lv_aload_n hx hb d_Mod_isItem_7 rfl (lv_at hl 0 rfl) ?_
    refine lv_aload_n hx hb d_Mod_isItem_8 rfl (lv_at hl 0 rfl) ?_
    refine w_geti (k := 119) (t := 12) (C := R_Mod) (T := F_Mod) (N := 167) hx hb hT hown hK hW ko_0.1 ko_0.2 (by decide) in_Mod rfl rfl (by decide) rfl fr_Mod_119 w_9_55 d_Mod_isItem_9 ?_
    have hF := hW.free hS hA
    refine va_calli (va_runV (C := R_Mod) (As := [.int (fI x 0 119)]) (rest := []) ⟨hx, hb, hml, hown, hT⟩ (k_Mod_collects l dC dI cI cB cJ cZ ad H.size (fI x 0 119) x  hw) ⟨callB_of 1 hT (gwt_in w_13_195) rfl rfl rfl (hT _ w_1_15) (hT _ w_13_192) (by decide +kernel) ⟨Nat.le_trans (Nat.le_of_ble_eq_true rfl) hRf, Nat.le_trans (Nat.le_of_ble_eq_true rfl) hRl⟩, hT _ w_13_194, hT _ ws_251⟩ ⟨PW.blind, va_recv hK hW.1 (ci := 12) (q0 := 0) rfl (pic_obj ko_0.1 ko_0.2 (by decide)), PW.at _ hW hK hN⟩ rfl rfl hl.1 rfl (lv_room (Nat.le_of_ble_eq_true rfl)) d_Mod_isItem_12 ⟨hRc, hRs⟩) hS (fun q _ h => hF q h) hF (fun r2650 x2649 t H locs ht hvm hw hB hz1 hk1 hS => ?_)
    have hW := Wd.back hB ht hF
    clear hB ht hF hz1 hk1 hvm
    refine lv_if_eq (tgt := 53) hx hb d_Mod_isItem_15 (by decide) (fun c2651 => ?_) (fun c2651 => ?_)
    · have hw := hw.1 c2651
      exact t_Mod_isItem_53 hx hb hml hown hT hK hN hA hRc hRs hRf hRl hret  l1 l2 x2649 H locs ls  hw hW hS (lv_sub hl [0, 1, 2] rfl)
    · have hw := hw.2 c2651
      refine lv_iload_n hx hb d_Mod_isItem_18 rfl (lv_at hl 1 rfl) ?_
      refine lv_if_lt (tgt := 53) hx hb d_Mod_isItem_19 (by decide) (fun c2652 => ?_) (fun c2652 => ?_)
      · have hw := hw.1 c2652
        exact t_Mod_isItem_53 hx hb hml hown hT hK hN hA hRc hRs hRf hRl hret  l1 l2 x2649 H locs ls  hw hW hS (lv_sub hl [0, 1, 2] rfl)
      · have hw := hw.2 c2652
        refine lv_iload_n hx hb d_Mod_isItem_22 rfl (lv_at hl 1 rfl) ?_
        refine lv_aload_n hx hb d_Mod_isItem_23 rfl (lv_at hl 0 rfl) ?_
        refine w_geti (k := 161) (t := 12) (C := R_Mod) (T := F_Mod) (N := 167) hx hb hT hown hK hW ko_0.1 ko_0.2 (by decide) in_Mod rfl rfl (by decide) rfl fr_Mod_161 w_9_97 d_Mod_isItem_24 ?_
        refine lv_icmp_ge (tgt := 53) hx hb d_Mod_isItem_27 (by decide) (fun c2653 => ?_) (fun c2653 => ?_)
        · have hw := hw.1 c2653
          exact t_Mod_isItem_53 hx hb hml hown hT hK hN hA hRc hRs hRf hRl hret  l1 l2 x2649 H locs ls  hw hW hS (lv_sub hl [0, 1, 2] rfl)
        · have hw := hw.2 c2653
          refine lv_iload_n hx hb d_Mod_isItem_30 rfl (lv_at hl 2 rfl) ?_
          refine lv_if_lt (tgt := 53) hx hb d_Mod_isItem_31 (by decide) (fun c2654 => ?_) (fun c2654 => ?_)
          · have hw := hw.1 c2654
            exact t_Mod_isItem_53 hx hb hml hown hT hK hN hA hRc hRs hRf hRl hret  l1 l2 x2649 H locs ls  hw hW hS (lv_sub hl [0, 1, 2] rfl)
          · have hw := hw.2 c2654
            refine lv_iload_n hx hb d_Mod_isItem_34 rfl (lv_at hl 2 rfl) ?_
            refine lv_aload_n hx hb d_Mod_isItem_35 rfl (lv_at hl 0 rfl) ?_
            refine w_getf (q := 79) (k := 122) (t := 12) (C := R_Mod) (T := F_Mod) (N := 167) hx hb hT hown hK hW ko_0.1 ko_0.2 (by decide) in_Mod rfl rfl (by decide) rfl fr_Mod_122 w_9_58 d_Mod_isItem_36 rfl ?_
            refine lv_iconst (v := 4) hx hb d_Mod_isItem_39 (by decide) ?_
            refine lv_aload_n hx hb d_Mod_isItem_40 rfl (lv_at hl 0 rfl) ?_
            refine w_geti (k := 119) (t := 12) (C := R_Mod) (T := F_Mod) (N := 167) hx hb hT hown hK hW ko_0.1 ko_0.2 (by decide) in_Mod rfl rfl (by decide) rfl fr_Mod_119 w_9_55 d_Mod_isItem_41 ?_
            refine lv_imul hx hb d_Mod_isItem_44 ?_
            obtain ⟨hi, hw⟩ := hw
            refine w_iald (o := 79) hx hb hK hW ko_79.1 ko_79.2 hi d_Mod_isItem_45 ?_
            refine lv_icmp_ge (tgt := 53) hx hb d_Mod_isItem_46 (by decide) (fun c2655 => ?_) (fun c2655 => ?_)
            · have hw := hw.1 c2655
              exact t_Mod_isItem_53 hx hb hml hown hT hK hN hA hRc hRs hRf hRl hret  l1 l2 x2649 H locs ls  hw hW hS (lv_sub hl [0, 1, 2] rfl)
            · have hw := hw.2 c2655
              refine lv_iconst (v := 1) hx hb d_Mod_isItem_49 (by decide) ?_
              refine lv_goto (tgt := 54) hx hb d_Mod_isItem_50 (by decide) ?_
              exact hret 1 x2649 H locs 54 ls d_Mod_isItem_54 rfl hw hW hS
set_option maxHeartbeats 4000000 in
set_option maxRecDepth 100000 in
theorem k_Mod_isItem (l : Launch) (dC : Nat → ClassId) (dI : Nat → Nat → Nat) (cI cB cJ cZ : ClassId) (ad : Nat → Nat) (sz : Nat) (l1 : Int32) (l2 : Int32) (x : St) {post : Int32 → St → Prop} (hw : wp_Mod_isItem post l1 l2 x) : Met l y_Mod_isItem (wsOf y_Mod_isItem b_Mod_isItem 3 (some (.boolean))) ({ frames := 1, cells := 0, slots := 0, locals := 23 }) (va_Pc [.ref (ad 0), .int l1, .int l2] (PW dC dI cI cB cJ cZ ad stM kcM 115 sz x)) (va_Qi (fun (r : Int32) (y : St) => post r y) (fun y t => Wd dC dI cI cB cJ cZ ad stM kcM 115 (va_A (pic ad stM kcM 115 cI cB cJ cZ x) sz) y t.heap) (va_A (pic ad stM kcM 115 cI cB cJ cZ x) sz)) 0 0 (va_A (pic ad stM kcM 115 cI cB cJ cZ x) sz) := by
  refine Met.ofW (cc := b_Mod_isItem) (maxL := 3) (ret := some (.boolean)) (by decide) rfl ?_
  intro p e s m args below meth c s₁ B hml hv
  obtain ⟨rfl, hsz, hW0, hK, hN⟩ := hv
  have hx := B.exec
  have hb := B.bytes
  have hr := B.returns
  have hts := atoms_spec B.pre
  have hT : ∀ w ∈ TG, w.before _ s = true := fun w h => hts w (List.mem_cons_of_mem _ h)
  have hown : s.vm.findClass R_Mod = some m.cls := findClass_of_methodNamed B.named
  have hlocks := B.notSynchronized
  subst hsz
  have hW : Wd dC dI cI cB cJ cZ ad stM kcM 115 (va_A (pic ad stM kcM 115 cI cB cJ cZ x) s.heap.size) x s.heap := ⟨hW0.1, hW0.2.1.self (sz := s.heap.size), hW0.2.2⟩
  generalize hAe : va_A (pic ad stM kcM 115 cI cB cJ cZ x) s.heap.size = A at hW ⊢
  have hA : ∀ q : Nat, s.heap.size ≤ q → A q := fun q h => by rw [← hAe]; exact Or.inr h
  have hS : va_S A s.heap s.heap [] := va_S.rf
  have hl := lv_entry ([.ref (ad 0), .int l1, .int l2]) (n := 3) (Nat.le_of_ble_eq_true rfl)
  rw [lg_entry_eq]
  generalize (lg_sl ([.ref (ad 0), .int l1, .int l2]) ++ List.replicate (3 - (lg_sl ([.ref (ad 0), .int l1, .int l2])).length) Slot.unset).toArray = ls at hl ⊢
  have hl : lv_has ls 3 [(0, .ref (ad 0)), (1, .int l1), (2, .int l2)] := hl
  exact t_Mod_isItem_e hx hb hml hown hT hK hN hA (Nat.le_refl 0) (Nat.le_refl 0) (Nat.le_refl 1) (Nat.le_refl 23) (fun r x H locs pc ls hd hz hp hW hS => W.zret (v := r) (ty := .boolean) hx hb hr hz (fun t ht hM => ⟨⟨r, x, rfl, hp, Wd.back hW ht.symm (fun _ z => z)⟩, hS.F ht⟩) hS.2.2 hd hlocks)  l1 l2 x _ _ ls  hw hW hS hl
set_option maxRecDepth 100000 in
set_option maxHeartbeats 4000000 in
set_option maxRecDepth 100000 in
theorem t_Mod_bestOf_e {p : Program} {l : Launch} {e : Env} {R : Room} {s : State} {m : MethodId} {args : Array Value} {below : List Frame} {meth : Method} {c : Code} {cells slots : Nat} {Q : State → Prop} {dC : Nat → ClassId} {dI : Nat → Nat → Nat} {cI cB cJ cZ : ClassId} {A : Nat → Prop} {ad : Nat → Nat} {post : Int32 → St → Prop} (hx : p.tables.exec = Jvm.exec) (hb : c.code = b_Mod_bestOf) (hml : c.maxLocals = 4) (hown : s.vm.findClass R_Mod = some m.cls) (hT : ∀ w ∈ TG, w.before args s = true) (hK : va_K (dC, dI) CL (TY cI cB cJ cZ) s) (hN : NW s) (hA : ∀ q : Nat, s.heap.size ≤ q → A q) (hRc : cells ≤ R.cells) (hRs : slots ≤ R.slots) (hRf : 2 ≤ R.frames) (hRl : 46 ≤ R.locals) (hret : ∀ (r : Int32) (x : St) (H : Heap) (locs : List Loc) (pc : Nat) (ls : Array Slot), decode b_Mod_bestOf pc = .ok (.ireturn, 1) → post r x → Wd dC dI cI cB cJ cZ ad stM kcM 115 A x H → va_S A s.heap H locs → W p l e R s m args below meth c H locs cells slots Q (F0 m pc ls [.int r])) : ∀ (l1 : Int32) (l2 : Int32) (x : St) (H : Heap) (locs : List Loc) (ls : Array Slot), wp_Mod_bestOf post l1 l2 x → Wd dC dI cI cB cJ cZ ad stM kcM 115 A x H → va_S A s.heap H locs → lv_has ls 4 [(0, .ref (ad 0)), (1, .int l1), (2, .int l2)] → W p l e R s m args below meth c H locs cells slots Q (F0 m 0 ls []) := by
  intro l1 l2 x H locs ls  hw hW hS hl
  unfold wp_Mod_bestOf at hw
  refine lv_aload_n hx hb d_Mod_bestOf_0 rfl (lv_at hl 0 rfl) ?_
  refine w_getf (q := 80) (k := 123) (t := 12) (C := R_Mod) (T := F_Mod) (N := 167) hx hb hT hown hK hW ko_0.1 ko_0.2 (by decide) in_Mod rfl rfl (by decide) rfl fr_Mod_123 w_9_59 d_Mod_bestOf_1 rfl ?_
  refine lv_bipush (v := 16) hx hb d_Mod_bestOf_4 (by decide) ?_
  refine lv_aload_n hx hb d_Mod_bestOf_6 rfl (lv_at hl 0 rfl) ?_
  refine w_geti (k := 119) (t := 12) (C := R_Mod) (T := F_Mod) (N := 167) hx hb hT hown hK hW ko_0.1 ko_0.2 (by decide) in_Mod rfl rfl (by decide) rfl fr_Mod_119 w_9_55 d_Mod_bestOf_7 ?_
  refine lv_imul hx hb d_Mod_bestOf_10 ?_
  refine lv_iload_n hx hb d_Mod_bestOf_11 rfl (lv_at hl 2 rfl) ?_
  refine lv_iadd hx hb d_Mod_bestOf_12 ?_
  obtain ⟨hi, hw⟩ := hw
  refine w_iald (o := 80) hx hb hK hW ko_80.1 ko_80.2 hi d_Mod_bestOf_13 ?_
  refine lv_topi (fun v2656 ev2656 => ?_)
  have hw := hw v2656 ev2656
  refine lv_istore_n (lv' := [(3, .int v2656), (0, .ref (ad 0)), (1, .int l1), (2, .int l2)]) hx hb d_Mod_bestOf_14 rfl hl (by decide) rfl (fun ls hl => ?_)
  refine lv_iload_n hx hb d_Mod_bestOf_15 rfl (lv_at hl 0 rfl) ?_
  refine lv_if_ne (tgt := 44) hx hb d_Mod_bestOf_16 (by decide) (fun c2657 => ?_) (fun c2657 => ?_)
  · have hw := hw.1 c2657
    refine lv_iload_n hx hb d_Mod_bestOf_44 rfl (lv_at hl 0 rfl) ?_
    refine lv_iconst (v := 3) hx hb d_Mod_bestOf_45 (by decide) ?_
    refine lv_icmp_le (tgt := 63) hx hb d_Mod_bestOf_46 (by decide) (fun c2658 => ?_) (fun c2658 => ?_)
    · have hw := hw.1 c2658
      refine lv_iconst (v := (-1)) hx hb d_Mod_bestOf_63 (by decide) ?_
      exact hret (-1) x H locs 64 ls d_Mod_bestOf_64 hw hW hS
    · have hw := hw.2 c2658
      refine lv_aload_n hx hb d_Mod_bestOf_49 rfl (lv_at hl 1 rfl) ?_
      refine w_getf (q := 112) (k := 157) (t := 12) (C := R_Mod) (T := F_Mod) (N := 167) hx hb hT hown hK hW ko_0.1 ko_0.2 (by decide) in_Mod rfl rfl (by decide) rfl fr_Mod_157 w_9_93 d_Mod_bestOf_50 rfl ?_
      refine lv_bipush (v := 16) hx hb d_Mod_bestOf_53 (by decide) ?_
      refine lv_iload_n hx hb d_Mod_bestOf_55 rfl (lv_at hl 2 rfl) ?_
      refine lv_imul hx hb d_Mod_bestOf_56 ?_
      refine lv_iload_n hx hb d_Mod_bestOf_57 rfl (lv_at hl 3 rfl) ?_
      refine lv_iadd hx hb d_Mod_bestOf_58 ?_
      obtain ⟨hi, hw⟩ := hw
      refine w_iald (o := 112) hx hb hK hW ko_112.1 ko_112.2 hi d_Mod_bestOf_59 ?_
      refine lv_goto (tgt := 64) hx hb d_Mod_bestOf_60 (by decide) ?_
      exact hret (rA x 112 ((16 * l1) + l2)) x H locs 64 ls d_Mod_bestOf_64 hw hW hS
  · have hw := hw.2 c2657
    refine lv_aload_n hx hb d_Mod_bestOf_19 rfl (lv_at hl 1 rfl) ?_
    refine lv_aload_n hx hb d_Mod_bestOf_20 rfl (lv_at hl 1 rfl) ?_
    refine w_getf (q := 81) (k := 124) (t := 12) (C := R_Mod) (T := F_Mod) (N := 167) hx hb hT hown hK hW ko_0.1 ko_0.2 (by decide) in_Mod rfl rfl (by decide) rfl fr_Mod_124 w_9_60 d_Mod_bestOf_21 rfl ?_
    refine lv_bipush (v := 16) hx hb d_Mod_bestOf_24 (by decide) ?_
    refine lv_aload_n hx hb d_Mod_bestOf_26 rfl (lv_at hl 1 rfl) ?_
    refine w_geti (k := 119) (t := 12) (C := R_Mod) (T := F_Mod) (N := 167) hx hb hT hown hK hW ko_0.1 ko_0.2 (by decide) in_Mod rfl rfl (by decide) rfl fr_Mod_119 w_9_55 d_Mod_bestOf_27 ?_
    refine lv_imul hx hb d_Mod_bestOf_30 ?_
    refine lv_iload_n hx hb d_Mod_bestOf_31 rfl (lv_at hl 3 rfl) ?_
    refine lv_iadd hx hb d_Mod_bestOf_32 ?_
    obtain ⟨hi, hw⟩ := hw
    refine w_iald (o := 81) hx hb hK hW ko_81.1 ko_81.2 hi d_Mod_bestOf_33 ?_
    refine lv_aload_n hx hb d_Mod_bestOf_34 rfl (lv_at hl 1 rfl) ?_
    refine w_getf (q := 109) (k := 154) (t := 12) (C := R_Mod) (T := F_Mod) (N := 167) hx hb hT hown hK hW ko_0.1 ko_0.2 (by decide) in_Mod rfl rfl (by decide) rfl fr_Mod_154 w_9_90 d_Mod_bestOf_35 rfl ?_
    refine lv_iload_n hx hb d_Mod_bestOf_38 rfl (lv_at hl 2 rfl) ?_
    obtain ⟨hi, hw⟩ := hw
    refine w_iald (o := 109) hx hb hK hW ko_109.1 ko_109.2 hi d_Mod_bestOf_39 ?_
    have hF := hW.free hS hA
    refine va_calli (va_runV (C := R_Mod) (As := [.int (rA x 81 ((16 * (fI x 0 119)) + l2)), .int (rA x 109 l1)]) (rest := []) ⟨hx, hb, hml, hown, hT⟩ (k_Mod_valueAt l dC dI cI cB cJ cZ ad H.size (rA x 81 ((16 * (fI x 0 119)) + l2)) (rA x 109 l1) x  hw) ⟨callB_of 2 hT (gwt_in w_14_13) rfl rfl rfl (hT _ w_1_15) (hT _ w_14_10) (by decide +kernel) ⟨Nat.le_trans (Nat.le_of_ble_eq_true rfl) hRf, Nat.le_trans (Nat.le_of_ble_eq_true rfl) hRl⟩, hT _ w_14_12, hT _ ws_263⟩ ⟨PW.blind, va_recv hK hW.1 (ci := 12) (q0 := 0) rfl (pic_obj ko_0.1 ko_0.2 (by decide)), PW.at _ hW hK hN⟩ rfl rfl hl.1 rfl (lv_room (Nat.le_of_ble_eq_true rfl)) d_Mod_bestOf_40 ⟨hRc, hRs⟩) hS (fun q _ h => hF q h) hF (fun r2660 x2659 t H locs ht hvm hw hB hz1 hk1 hS => ?_)
    have hW := Wd.back hB ht hF
    clear hB ht hF hz1 hk1 hvm
    exact hret r2660 x2659 H locs 43 ls d_Mod_bestOf_43 hw hW hS
set_option maxHeartbeats 4000000 in
set_option maxRecDepth 100000 in
theorem k_Mod_bestOf (l : Launch) (dC : Nat → ClassId) (dI : Nat → Nat → Nat) (cI cB cJ cZ : ClassId) (ad : Nat → Nat) (sz : Nat) (l1 : Int32) (l2 : Int32) (x : St) {post : Int32 → St → Prop} (hw : wp_Mod_bestOf post l1 l2 x) : Met l y_Mod_bestOf (wsOf y_Mod_bestOf b_Mod_bestOf 4 (some (.int))) ({ frames := 2, cells := 0, slots := 0, locals := 46 }) (va_Pc [.ref (ad 0), .int l1, .int l2] (PW dC dI cI cB cJ cZ ad stM kcM 115 sz x)) (va_Qi (fun (r : Int32) (y : St) => post r y) (fun y t => Wd dC dI cI cB cJ cZ ad stM kcM 115 (va_A (pic ad stM kcM 115 cI cB cJ cZ x) sz) y t.heap) (va_A (pic ad stM kcM 115 cI cB cJ cZ x) sz)) 0 0 (va_A (pic ad stM kcM 115 cI cB cJ cZ x) sz) := by
  refine Met.ofW (cc := b_Mod_bestOf) (maxL := 4) (ret := some (.int)) (by decide) rfl ?_
  intro p e s m args below meth c s₁ B hml hv
  obtain ⟨rfl, hsz, hW0, hK, hN⟩ := hv
  have hx := B.exec
  have hb := B.bytes
  have hr := B.returns
  have hts := atoms_spec B.pre
  have hT : ∀ w ∈ TG, w.before _ s = true := fun w h => hts w (List.mem_cons_of_mem _ h)
  have hown : s.vm.findClass R_Mod = some m.cls := findClass_of_methodNamed B.named
  have hlocks := B.notSynchronized
  subst hsz
  have hW : Wd dC dI cI cB cJ cZ ad stM kcM 115 (va_A (pic ad stM kcM 115 cI cB cJ cZ x) s.heap.size) x s.heap := ⟨hW0.1, hW0.2.1.self (sz := s.heap.size), hW0.2.2⟩
  generalize hAe : va_A (pic ad stM kcM 115 cI cB cJ cZ x) s.heap.size = A at hW ⊢
  have hA : ∀ q : Nat, s.heap.size ≤ q → A q := fun q h => by rw [← hAe]; exact Or.inr h
  have hS : va_S A s.heap s.heap [] := va_S.rf
  have hl := lv_entry ([.ref (ad 0), .int l1, .int l2]) (n := 4) (Nat.le_of_ble_eq_true rfl)
  rw [lg_entry_eq]
  generalize (lg_sl ([.ref (ad 0), .int l1, .int l2]) ++ List.replicate (4 - (lg_sl ([.ref (ad 0), .int l1, .int l2])).length) Slot.unset).toArray = ls at hl ⊢
  have hl : lv_has ls 4 [(0, .ref (ad 0)), (1, .int l1), (2, .int l2)] := hl
  exact t_Mod_bestOf_e hx hb hml hown hT hK hN hA (Nat.le_refl 0) (Nat.le_refl 0) (Nat.le_refl 2) (Nat.le_refl 46) (fun r x H locs pc ls hd hp hW hS => W.iret (v := r) hx hb hr (fun t ht hM => ⟨⟨r, x, rfl, hp, Wd.back hW ht.symm (fun _ z => z)⟩, hS.F ht⟩) hS.2.2 hd hlocks)  l1 l2 x _ _ ls  hw hW hS hl
end
