theorem fr_Ans_2 : F_Ans 2 = (R_Ans, "skippedGroups", "I", false) := rfl
theorem fr_Ans_3 : F_Ans 3 = (R_Ans, "skippedStretches", "I", false) := rfl
theorem fr_V_13 : F_V 13 = (R_V, "spareAnswer", "LStripedVault$Answer;", false) := rfl
theorem w_1_139 : (Jvm.Cond.fieldLink "StripedVault$Answer" (219 : Nat) "StripedVault$Schema" "columns" "I") ∈ TG := tw_1 139 (by decide +kernel) (by decide +kernel)
theorem w_2_129 : (Jvm.Cond.fieldLink "StripedVault$Answer" (216 : Nat) "StripedVault$Vault" "groups" "I") ∈ TG := tw_2 129 (by decide +kernel) (by decide +kernel)
theorem w_2_158 : (Jvm.Cond.fieldLink "StripedVault$Answer" (232 : Nat) "StripedVault$Vault" "groupRow" "[I") ∈ TG := tw_2 158 (by decide +kernel) (by decide +kernel)
theorem w_2_161 : (Jvm.Cond.fieldLink "StripedVault$Answer" (222 : Nat) "StripedVault$Vault" "chunkTeller" "[I") ∈ TG := tw_2 161 (by decide +kernel) (by decide +kernel)
theorem w_2_164 : (Jvm.Cond.fieldLink "StripedVault$Answer" (243 : Nat) "StripedVault$Vault" "tellerFirst" "[I") ∈ TG := tw_2 164 (by decide +kernel) (by decide +kernel)
theorem w_3_158 : (Jvm.Cond.fieldLink "StripedVault" (205 : Nat) "StripedVault$Answer" "count" "I") ∈ TG := tw_3 158 (by decide +kernel) (by decide +kernel)
theorem w_3_159 : (Jvm.Cond.fieldLink "StripedVault$Answer" (207 : Nat) "StripedVault$Answer" "skippedGroups" "I") ∈ TG := tw_3 159 (by decide +kernel) (by decide +kernel)
theorem w_3_161 : (Jvm.Cond.fieldLink "StripedVault$Answer" (210 : Nat) "StripedVault$Answer" "skippedStretches" "I") ∈ TG := tw_3 161 (by decide +kernel) (by decide +kernel)
theorem w_4_8 : (Jvm.Cond.fieldLink "StripedVault" (89 : Nat) "StripedVault" "spareAnswer" "LStripedVault$Answer;") ∈ TG := tw_4 8 (by decide +kernel) (by decide +kernel)
theorem w_8_114 : (Jvm.Cond.methodLink "StripedVault" (202 : Nat) ({ cls := "StripedVault$Answer", name := "countSkipped", desc := "()V" } : Jvm.MethodName)) ∈ TG := tw_8 114 (by decide +kernel) (by decide +kernel)
theorem w_8_115 : (Jvm.Cond.instanceMethod ({ cls := "StripedVault$Answer", name := "countSkipped", desc := "()V" } : Jvm.MethodName)) ∈ TG := tw_8 115 (by decide +kernel) (by decide +kernel)
theorem w_8_116 : (Jvm.Cond.selects "StripedVault$Answer" ({ cls := "StripedVault$Answer", name := "countSkipped", desc := "()V" } : Jvm.MethodName) ({ cls := "StripedVault$Answer", name := "countSkipped", desc := "()V" } : Jvm.MethodName)) ∈ TG := tw_8 116 (by decide +kernel) (by decide +kernel)
theorem w_8_117 : (Jvm.Cond.code ({ cls := "StripedVault$Answer", name := "countSkipped", desc := "()V" } : Jvm.MethodName) prog_2_method_20_code (3 : Nat) (Option.none : Option Jvm.ClassFile.FieldType)) ∈ TG := tw_8 117 (by decide +kernel) (by decide +kernel)
theorem w_8_118 : (Jvm.Cond.methodLink "StripedVault$Answer" (213 : Nat) ({ cls := "StripedVault$Answer", name := "markAsked", desc := "()V" } : Jvm.MethodName)) ∈ TG := tw_8 118 (by decide +kernel) (by decide +kernel)
theorem w_8_120 : (Jvm.Cond.instanceMethod ({ cls := "StripedVault$Answer", name := "markAsked", desc := "()V" } : Jvm.MethodName)) ∈ TG := tw_8 120 (by decide +kernel) (by decide +kernel)
theorem w_8_121 : (Jvm.Cond.code ({ cls := "StripedVault$Answer", name := "markAsked", desc := "()V" } : Jvm.MethodName) prog_2_method_21_code (3 : Nat) (Option.none : Option Jvm.ClassFile.FieldType)) ∈ TG := tw_8 121 (by decide +kernel) (by decide +kernel)
theorem w_8_122 : (Jvm.Cond.methodLink "StripedVault$Answer" (225 : Nat) ({ cls := "StripedVault$Answer", name := "countStretches", desc := "(I)V" } : Jvm.MethodName)) ∈ TG := tw_8 122 (by decide +kernel) (by decide +kernel)
theorem w_8_124 : (Jvm.Cond.instanceMethod ({ cls := "StripedVault$Answer", name := "countStretches", desc := "(I)V" } : Jvm.MethodName)) ∈ TG := tw_8 124 (by decide +kernel) (by decide +kernel)
theorem w_8_125 : (Jvm.Cond.code ({ cls := "StripedVault$Answer", name := "countStretches", desc := "(I)V" } : Jvm.MethodName) prog_2_method_23_code (7 : Nat) (Option.none : Option Jvm.ClassFile.FieldType)) ∈ TG := tw_8 125 (by decide +kernel) (by decide +kernel)
theorem w_8_126 : (Jvm.Cond.methodLink "StripedVault$Answer" (235 : Nat) ({ cls := "StripedVault$Answer", name := "pageEnd", desc := "(II)I" } : Jvm.MethodName)) ∈ TG := tw_8 126 (by decide +kernel) (by decide +kernel)
theorem w_8_128 : (Jvm.Cond.instanceMethod ({ cls := "StripedVault$Answer", name := "pageEnd", desc := "(II)I" } : Jvm.MethodName)) ∈ TG := tw_8 128 (by decide +kernel) (by decide +kernel)
theorem w_8_129 : (Jvm.Cond.code ({ cls := "StripedVault$Answer", name := "pageEnd", desc := "(II)I" } : Jvm.MethodName) prog_2_method_24_code (5 : Nat) (Option.some Jvm.ClassFile.FieldType.int)) ∈ TG := tw_8 129 (by decide +kernel) (by decide +kernel)
theorem w_8_130 : (Jvm.Cond.methodLink "StripedVault$Answer" (238 : Nat) ({ cls := "java/lang/Math", name := "min", desc := "(II)I" } : Jvm.MethodName)) ∈ TG := tw_8 130 (by decide +kernel) (by decide +kernel)
theorem w_8_20 : (Jvm.Cond.methodLink "StripedVault" (198 : Nat) ({ cls := "StripedVault$Answer", name := "fill", desc := "(LStripedVault$Vault;LStripedVault$Query;)Z" } : Jvm.MethodName)) ∈ TG := tw_8 20 (by decide +kernel) (by decide +kernel)
theorem w_8_21 : (Jvm.Cond.instanceMethod ({ cls := "StripedVault$Answer", name := "fill", desc := "(LStripedVault$Vault;LStripedVault$Query;)Z" } : Jvm.MethodName)) ∈ TG := tw_8 21 (by decide +kernel) (by decide +kernel)
theorem w_8_22 : (Jvm.Cond.selects "StripedVault$Answer" ({ cls := "StripedVault$Answer", name := "fill", desc := "(LStripedVault$Vault;LStripedVault$Query;)Z" } : Jvm.MethodName) ({ cls := "StripedVault$Answer", name := "fill", desc := "(LStripedVault$Vault;LStripedVault$Query;)Z" } : Jvm.MethodName)) ∈ TG := tw_8 22 (by decide +kernel) (by decide +kernel)
theorem w_8_23 : (Jvm.Cond.code ({ cls := "StripedVault$Answer", name := "fill", desc := "(LStripedVault$Vault;LStripedVault$Query;)Z" } : Jvm.MethodName) prog_2_method_4_code (5 : Nat) (Option.some Jvm.ClassFile.FieldType.boolean)) ∈ TG := tw_8 23 (by decide +kernel) (by decide +kernel)
theorem ws_105 : Cond.selects R_Ans y_Ans_markAsked y_Ans_markAsked ∈ TG := tw_s 105 (by decide +kernel) (by decide +kernel)
theorem ws_106 : Cond.selects R_Ans y_Ans_countStretches y_Ans_countStretches ∈ TG := tw_s 106 (by decide +kernel) (by decide +kernel)
theorem ws_107 : Cond.selects R_Ans y_Ans_pageEnd y_Ans_pageEnd ∈ TG := tw_s 107 (by decide +kernel) (by decide +kernel)
theorem d_Ans_pageEnd_0 : decode b_Ans_pageEnd 0 = .ok (.aload_n 0, 1) := by decide +kernel
theorem d_Ans_pageEnd_1 : decode b_Ans_pageEnd 1 = .ok (.getfield 53, 3) := by decide +kernel
theorem d_Ans_pageEnd_4 : decode b_Ans_pageEnd 4 = .ok (.getfield 222, 3) := by decide +kernel
theorem d_Ans_pageEnd_7 : decode b_Ans_pageEnd 7 = .ok (.iload_n 1, 1) := by decide +kernel
theorem d_Ans_pageEnd_8 : decode b_Ans_pageEnd 8 = .ok (.aload_n 0, 1) := by decide +kernel
theorem d_Ans_pageEnd_9 : decode b_Ans_pageEnd 9 = .ok (.getfield 53, 3) := by decide +kernel
theorem d_Ans_pageEnd_12 : decode b_Ans_pageEnd 12 = .ok (.getfield 99, 3) := by decide +kernel
theorem d_Ans_pageEnd_15 : decode b_Ans_pageEnd 15 = .ok (.getfield 219, 3) := by decide +kernel
theorem d_Ans_pageEnd_18 : decode b_Ans_pageEnd 18 = .ok (.imul, 1) := by decide +kernel
theorem d_Ans_pageEnd_19 : decode b_Ans_pageEnd 19 = .ok (.iload_n 2, 1) := by decide +kernel
theorem d_Ans_pageEnd_20 : decode b_Ans_pageEnd 20 = .ok (.iadd, 1) := by decide +kernel
theorem d_Ans_pageEnd_21 : decode b_Ans_pageEnd 21 = .ok (.iaload, 1) := by decide +kernel
theorem d_Ans_pageEnd_22 : decode b_Ans_pageEnd 22 = .ok (.istore_n 3, 1) := by decide +kernel
theorem d_Ans_pageEnd_23 : decode b_Ans_pageEnd 23 = .ok (.aload_n 0, 1) := by decide +kernel
theorem d_Ans_pageEnd_24 : decode b_Ans_pageEnd 24 = .ok (.getfield 33, 3) := by decide +kernel
theorem d_Ans_pageEnd_27 : decode b_Ans_pageEnd 27 = .ok (.iload_n 2, 1) := by decide +kernel
theorem d_Ans_pageEnd_28 : decode b_Ans_pageEnd 28 = .ok (.iaload, 1) := by decide +kernel
theorem d_Ans_pageEnd_29 : decode b_Ans_pageEnd 29 = .ok (.istore 4, 2) := by decide +kernel
theorem d_Ans_pageEnd_31 : decode b_Ans_pageEnd 31 = .ok (.aload_n 0, 1) := by decide +kernel
theorem d_Ans_pageEnd_32 : decode b_Ans_pageEnd 32 = .ok (.getfield 53, 3) := by decide +kernel
theorem d_Ans_pageEnd_35 : decode b_Ans_pageEnd 35 = .ok (.getfield 243, 3) := by decide +kernel
theorem d_Ans_pageEnd_38 : decode b_Ans_pageEnd 38 = .ok (.iload 4, 2) := by decide +kernel
theorem d_Ans_pageEnd_40 : decode b_Ans_pageEnd 40 = .ok (.iaload, 1) := by decide +kernel
theorem d_Ans_pageEnd_41 : decode b_Ans_pageEnd 41 = .ok (.aload_n 0, 1) := by decide +kernel
theorem d_Ans_pageEnd_42 : decode b_Ans_pageEnd 42 = .ok (.getfield 53, 3) := by decide +kernel
theorem d_Ans_pageEnd_45 : decode b_Ans_pageEnd 45 = .ok (.getfield 246, 3) := by decide +kernel
theorem d_Ans_pageEnd_48 : decode b_Ans_pageEnd 48 = .ok (.iload 4, 2) := by decide +kernel
theorem d_Ans_pageEnd_50 : decode b_Ans_pageEnd 50 = .ok (.iaload, 1) := by decide +kernel
theorem d_Ans_pageEnd_51 : decode b_Ans_pageEnd 51 = .ok (.iadd, 1) := by decide +kernel
theorem d_Ans_pageEnd_52 : decode b_Ans_pageEnd 52 = .ok (.aload_n 0, 1) := by decide +kernel
theorem d_Ans_pageEnd_53 : decode b_Ans_pageEnd 53 = .ok (.getfield 53, 3) := by decide +kernel
theorem d_Ans_pageEnd_56 : decode b_Ans_pageEnd 56 = .ok (.getfield 243, 3) := by decide +kernel
theorem d_Ans_pageEnd_59 : decode b_Ans_pageEnd 59 = .ok (.iload_n 3, 1) := by decide +kernel
theorem d_Ans_pageEnd_60 : decode b_Ans_pageEnd 60 = .ok (.iaload, 1) := by decide +kernel
theorem d_Ans_pageEnd_61 : decode b_Ans_pageEnd 61 = .ok (.isub, 1) := by decide +kernel
theorem d_Ans_pageEnd_62 : decode b_Ans_pageEnd 62 = .ok (.ireturn, 1) := by decide +kernel
theorem d_Ans_countStretches_187 : decode b_Ans_countStretches 187 = .ok (.iinc 6 1, 3) := by decide +kernel
theorem d_Ans_countStretches_190 : decode b_Ans_countStretches 190 = .ok (.goto (-48), 3) := by decide +kernel
theorem d_Ans_countStretches_142 : decode b_Ans_countStretches 142 = .ok (.iload 6, 2) := by decide +kernel
theorem d_Ans_countStretches_144 : decode b_Ans_countStretches 144 = .ok (.iload_n 2, 1) := by decide +kernel
theorem d_Ans_countStretches_145 : decode b_Ans_countStretches 145 = .ok (.if_icmp .ge 48, 3) := by decide +kernel
theorem d_Ans_countStretches_193 : decode b_Ans_countStretches 193 = .ok (.iinc 5 1, 3) := by decide +kernel
theorem d_Ans_countStretches_196 : decode b_Ans_countStretches 196 = .ok (.goto (-131), 3) := by decide +kernel
theorem d_Ans_countStretches_148 : decode b_Ans_countStretches 148 = .ok (.aload_n 0, 1) := by decide +kernel
theorem d_Ans_countStretches_149 : decode b_Ans_countStretches 149 = .ok (.getfield 36, 3) := by decide +kernel
theorem d_Ans_countStretches_152 : decode b_Ans_countStretches 152 = .ok (.iload 6, 2) := by decide +kernel
theorem d_Ans_countStretches_154 : decode b_Ans_countStretches 154 = .ok (.baload, 1) := by decide +kernel
theorem d_Ans_countStretches_155 : decode b_Ans_countStretches 155 = .ok (.ifCond .eq 32, 3) := by decide +kernel
theorem d_Ans_countStretches_158 : decode b_Ans_countStretches 158 = .ok (.iload 4, 2) := by decide +kernel
theorem d_Ans_countStretches_160 : decode b_Ans_countStretches 160 = .ok (.iload_n 3, 1) := by decide +kernel
theorem d_Ans_countStretches_161 : decode b_Ans_countStretches 161 = .ok (.if_icmp .ge 26, 3) := by decide +kernel
theorem d_Ans_countStretches_164 : decode b_Ans_countStretches 164 = .ok (.aload_n 0, 1) := by decide +kernel
theorem d_Ans_countStretches_165 : decode b_Ans_countStretches 165 = .ok (.iload_n 1, 1) := by decide +kernel
theorem d_Ans_countStretches_166 : decode b_Ans_countStretches 166 = .ok (.iload 6, 2) := by decide +kernel
theorem d_Ans_countStretches_168 : decode b_Ans_countStretches 168 = .ok (.invokevirtual 235, 3) := by decide +kernel
theorem d_Ans_countStretches_171 : decode b_Ans_countStretches 171 = .ok (.iload 4, 2) := by decide +kernel
theorem d_Ans_countStretches_173 : decode b_Ans_countStretches 173 = .ok (.if_icmp .ne 14, 3) := by decide +kernel
theorem d_Ans_countStretches_176 : decode b_Ans_countStretches 176 = .ok (.aload_n 0, 1) := by decide +kernel
theorem d_Ans_countStretches_177 : decode b_Ans_countStretches 177 = .ok (.getfield 33, 3) := by decide +kernel
theorem d_Ans_countStretches_180 : decode b_Ans_countStretches 180 = .ok (.iload 6, 2) := by decide +kernel
theorem d_Ans_countStretches_182 : decode b_Ans_countStretches 182 = .ok (.dup2, 1) := by decide +kernel
theorem d_Ans_countStretches_183 : decode b_Ans_countStretches 183 = .ok (.iaload, 1) := by decide +kernel
theorem d_Ans_countStretches_184 : decode b_Ans_countStretches 184 = .ok (.iconst 1, 1) := by decide +kernel
theorem d_Ans_countStretches_185 : decode b_Ans_countStretches 185 = .ok (.iadd, 1) := by decide +kernel
theorem d_Ans_countStretches_186 : decode b_Ans_countStretches 186 = .ok (.iastore, 1) := by decide +kernel
theorem d_Ans_countStretches_133 : decode b_Ans_countStretches 133 = .ok (.iinc 6 1, 3) := by decide +kernel
theorem d_Ans_countStretches_136 : decode b_Ans_countStretches 136 = .ok (.goto (-33), 3) := by decide +kernel
theorem d_Ans_countStretches_103 : decode b_Ans_countStretches 103 = .ok (.iload 6, 2) := by decide +kernel
theorem d_Ans_countStretches_105 : decode b_Ans_countStretches 105 = .ok (.iload_n 2, 1) := by decide +kernel
theorem d_Ans_countStretches_106 : decode b_Ans_countStretches 106 = .ok (.if_icmp .ge 33, 3) := by decide +kernel
theorem d_Ans_countStretches_139 : decode b_Ans_countStretches 139 = .ok (.iconst 0, 1) := by decide +kernel
theorem d_Ans_countStretches_140 : decode b_Ans_countStretches 140 = .ok (.istore 6, 2) := by decide +kernel
theorem d_Ans_countStretches_109 : decode b_Ans_countStretches 109 = .ok (.aload_n 0, 1) := by decide +kernel
theorem d_Ans_countStretches_110 : decode b_Ans_countStretches 110 = .ok (.getfield 36, 3) := by decide +kernel
theorem d_Ans_countStretches_113 : decode b_Ans_countStretches 113 = .ok (.iload 6, 2) := by decide +kernel
theorem d_Ans_countStretches_115 : decode b_Ans_countStretches 115 = .ok (.baload, 1) := by decide +kernel
theorem d_Ans_countStretches_116 : decode b_Ans_countStretches 116 = .ok (.ifCond .eq 17, 3) := by decide +kernel
theorem d_Ans_countStretches_119 : decode b_Ans_countStretches 119 = .ok (.iload 4, 2) := by decide +kernel
theorem d_Ans_countStretches_121 : decode b_Ans_countStretches 121 = .ok (.aload_n 0, 1) := by decide +kernel
theorem d_Ans_countStretches_122 : decode b_Ans_countStretches 122 = .ok (.iload_n 1, 1) := by decide +kernel
theorem d_Ans_countStretches_123 : decode b_Ans_countStretches 123 = .ok (.iload 6, 2) := by decide +kernel
theorem d_Ans_countStretches_125 : decode b_Ans_countStretches 125 = .ok (.invokevirtual 235, 3) := by decide +kernel
theorem d_Ans_countStretches_128 : decode b_Ans_countStretches 128 = .ok (.invokestatic 238, 3) := by decide +kernel
theorem d_Ans_countStretches_131 : decode b_Ans_countStretches 131 = .ok (.istore 4, 2) := by decide +kernel
theorem d_Ans_countStretches_97 : decode b_Ans_countStretches 97 = .ok (.iload_n 3, 1) := by decide +kernel
theorem d_Ans_countStretches_98 : decode b_Ans_countStretches 98 = .ok (.istore 4, 2) := by decide +kernel
theorem d_Ans_countStretches_100 : decode b_Ans_countStretches 100 = .ok (.iconst 0, 1) := by decide +kernel
theorem d_Ans_countStretches_101 : decode b_Ans_countStretches 101 = .ok (.istore 6, 2) := by decide +kernel
theorem d_Ans_countStretches_65 : decode b_Ans_countStretches 65 = .ok (.iload 5, 2) := by decide +kernel
theorem d_Ans_countStretches_67 : decode b_Ans_countStretches 67 = .ok (.iload_n 3, 1) := by decide +kernel
theorem d_Ans_countStretches_68 : decode b_Ans_countStretches 68 = .ok (.if_icmp .ge 131, 3) := by decide +kernel
theorem d_Ans_countStretches_199 : decode b_Ans_countStretches 199 = .ok (.return_, 1) := by decide +kernel
theorem d_Ans_countStretches_71 : decode b_Ans_countStretches 71 = .ok (.iload 4, 2) := by decide +kernel
theorem d_Ans_countStretches_73 : decode b_Ans_countStretches 73 = .ok (.iload_n 3, 1) := by decide +kernel
theorem d_Ans_countStretches_74 : decode b_Ans_countStretches 74 = .ok (.if_icmp .ge 125, 3) := by decide +kernel
theorem d_Ans_countStretches_77 : decode b_Ans_countStretches 77 = .ok (.aload_n 0, 1) := by decide +kernel
theorem d_Ans_countStretches_78 : decode b_Ans_countStretches 78 = .ok (.iconst (-1), 1) := by decide +kernel
theorem d_Ans_countStretches_79 : decode b_Ans_countStretches 79 = .ok (.invokevirtual 85, 3) := by decide +kernel
theorem d_Ans_countStretches_82 : decode b_Ans_countStretches 82 = .ok (.iconst 2, 1) := by decide +kernel
theorem d_Ans_countStretches_83 : decode b_Ans_countStretches 83 = .ok (.iand, 1) := by decide +kernel
theorem d_Ans_countStretches_84 : decode b_Ans_countStretches 84 = .ok (.ifCond .ne 13, 3) := by decide +kernel
theorem d_Ans_countStretches_87 : decode b_Ans_countStretches 87 = .ok (.aload_n 0, 1) := by decide +kernel
theorem d_Ans_countStretches_88 : decode b_Ans_countStretches 88 = .ok (.dup, 1) := by decide +kernel
theorem d_Ans_countStretches_89 : decode b_Ans_countStretches 89 = .ok (.getfield 210, 3) := by decide +kernel
theorem d_Ans_countStretches_92 : decode b_Ans_countStretches 92 = .ok (.iconst 1, 1) := by decide +kernel
theorem d_Ans_countStretches_93 : decode b_Ans_countStretches 93 = .ok (.iadd, 1) := by decide +kernel
theorem d_Ans_countStretches_94 : decode b_Ans_countStretches 94 = .ok (.putfield 210, 3) := by decide +kernel
theorem d_Ans_countStretches_36 : decode b_Ans_countStretches 36 = .ok (.iload 4, 2) := by decide +kernel
theorem d_Ans_countStretches_38 : decode b_Ans_countStretches 38 = .ok (.iload_n 2, 1) := by decide +kernel
theorem d_Ans_countStretches_39 : decode b_Ans_countStretches 39 = .ok (.if_icmp .ge 20, 3) := by decide +kernel
theorem d_Ans_countStretches_59 : decode b_Ans_countStretches 59 = .ok (.iconst 0, 1) := by decide +kernel
theorem d_Ans_countStretches_60 : decode b_Ans_countStretches 60 = .ok (.istore 4, 2) := by decide +kernel
theorem d_Ans_countStretches_62 : decode b_Ans_countStretches 62 = .ok (.iconst 0, 1) := by decide +kernel
theorem d_Ans_countStretches_63 : decode b_Ans_countStretches 63 = .ok (.istore 5, 2) := by decide +kernel
theorem d_Ans_countStretches_42 : decode b_Ans_countStretches 42 = .ok (.aload_n 0, 1) := by decide +kernel
theorem d_Ans_countStretches_43 : decode b_Ans_countStretches 43 = .ok (.getfield 33, 3) := by decide +kernel
theorem d_Ans_countStretches_46 : decode b_Ans_countStretches 46 = .ok (.iload 4, 2) := by decide +kernel
theorem d_Ans_countStretches_48 : decode b_Ans_countStretches 48 = .ok (.dup2, 1) := by decide +kernel
theorem d_Ans_countStretches_49 : decode b_Ans_countStretches 49 = .ok (.iaload, 1) := by decide +kernel
theorem d_Ans_countStretches_50 : decode b_Ans_countStretches 50 = .ok (.iconst 1, 1) := by decide +kernel
theorem d_Ans_countStretches_51 : decode b_Ans_countStretches 51 = .ok (.iadd, 1) := by decide +kernel
theorem d_Ans_countStretches_52 : decode b_Ans_countStretches 52 = .ok (.iastore, 1) := by decide +kernel
theorem d_Ans_countStretches_53 : decode b_Ans_countStretches 53 = .ok (.iinc 4 1, 3) := by decide +kernel
theorem d_Ans_countStretches_56 : decode b_Ans_countStretches 56 = .ok (.goto (-20), 3) := by decide +kernel
theorem d_Ans_countStretches_0 : decode b_Ans_countStretches 0 = .ok (.aload_n 0, 1) := by decide +kernel
theorem d_Ans_countStretches_1 : decode b_Ans_countStretches 1 = .ok (.getfield 53, 3) := by decide +kernel
theorem d_Ans_countStretches_4 : decode b_Ans_countStretches 4 = .ok (.getfield 99, 3) := by decide +kernel
theorem d_Ans_countStretches_7 : decode b_Ans_countStretches 7 = .ok (.getfield 219, 3) := by decide +kernel
theorem d_Ans_countStretches_10 : decode b_Ans_countStretches 10 = .ok (.istore_n 2, 1) := by decide +kernel
theorem d_Ans_countStretches_11 : decode b_Ans_countStretches 11 = .ok (.aload_n 0, 1) := by decide +kernel
theorem d_Ans_countStretches_12 : decode b_Ans_countStretches 12 = .ok (.getfield 53, 3) := by decide +kernel
theorem d_Ans_countStretches_15 : decode b_Ans_countStretches 15 = .ok (.getfield 232, 3) := by decide +kernel
theorem d_Ans_countStretches_18 : decode b_Ans_countStretches 18 = .ok (.iload_n 1, 1) := by decide +kernel
theorem d_Ans_countStretches_19 : decode b_Ans_countStretches 19 = .ok (.iconst 1, 1) := by decide +kernel
theorem d_Ans_countStretches_20 : decode b_Ans_countStretches 20 = .ok (.iadd, 1) := by decide +kernel
theorem d_Ans_countStretches_21 : decode b_Ans_countStretches 21 = .ok (.iaload, 1) := by decide +kernel
theorem d_Ans_countStretches_22 : decode b_Ans_countStretches 22 = .ok (.aload_n 0, 1) := by decide +kernel
theorem d_Ans_countStretches_23 : decode b_Ans_countStretches 23 = .ok (.getfield 53, 3) := by decide +kernel
theorem d_Ans_countStretches_26 : decode b_Ans_countStretches 26 = .ok (.getfield 232, 3) := by decide +kernel
theorem d_Ans_countStretches_29 : decode b_Ans_countStretches 29 = .ok (.iload_n 1, 1) := by decide +kernel
theorem d_Ans_countStretches_30 : decode b_Ans_countStretches 30 = .ok (.iaload, 1) := by decide +kernel
theorem d_Ans_countStretches_31 : decode b_Ans_countStretches 31 = .ok (.isub, 1) := by decide +kernel
theorem d_Ans_countStretches_32 : decode b_Ans_countStretches 32 = .ok (.istore_n 3, 1) := by decide +kernel
theorem d_Ans_countStretches_33 : decode b_Ans_countStretches 33 = .ok (.iconst 0, 1) := by decide +kernel
theorem d_Ans_countStretches_34 : decode b_Ans_countStretches 34 = .ok (.istore 4, 2) := by decide +kernel
theorem d_Ans_countSkipped_115 : decode b_Ans_countSkipped 115 = .ok (.iinc 1 1, 3) := by decide +kernel
theorem d_Ans_countSkipped_118 : decode b_Ans_countSkipped 118 = .ok (.goto (-102), 3) := by decide +kernel
theorem d_Ans_countSkipped_39 : decode b_Ans_countSkipped 39 = .ok (.iload_n 2, 1) := by decide +kernel
theorem d_Ans_countSkipped_40 : decode b_Ans_countSkipped 40 = .ok (.aload_n 0, 1) := by decide +kernel
theorem d_Ans_countSkipped_41 : decode b_Ans_countSkipped 41 = .ok (.getfield 53, 3) := by decide +kernel
theorem d_Ans_countSkipped_44 : decode b_Ans_countSkipped 44 = .ok (.getfield 99, 3) := by decide +kernel
theorem d_Ans_countSkipped_47 : decode b_Ans_countSkipped 47 = .ok (.getfield 219, 3) := by decide +kernel
theorem d_Ans_countSkipped_50 : decode b_Ans_countSkipped 50 = .ok (.if_icmp .ge 37, 3) := by decide +kernel
theorem d_Ans_countSkipped_87 : decode b_Ans_countSkipped 87 = .ok (.aload_n 0, 1) := by decide +kernel
theorem d_Ans_countSkipped_88 : decode b_Ans_countSkipped 88 = .ok (.iconst (-1), 1) := by decide +kernel
theorem d_Ans_countSkipped_89 : decode b_Ans_countSkipped 89 = .ok (.invokevirtual 85, 3) := by decide +kernel
theorem d_Ans_countSkipped_92 : decode b_Ans_countSkipped 92 = .ok (.iconst 2, 1) := by decide +kernel
theorem d_Ans_countSkipped_93 : decode b_Ans_countSkipped 93 = .ok (.iand, 1) := by decide +kernel
theorem d_Ans_countSkipped_94 : decode b_Ans_countSkipped 94 = .ok (.ifCond .ne 16, 3) := by decide +kernel
theorem d_Ans_countSkipped_110 : decode b_Ans_countSkipped 110 = .ok (.aload_n 0, 1) := by decide +kernel
theorem d_Ans_countSkipped_111 : decode b_Ans_countSkipped 111 = .ok (.iload_n 1, 1) := by decide +kernel
theorem d_Ans_countSkipped_112 : decode b_Ans_countSkipped 112 = .ok (.invokevirtual 225, 3) := by decide +kernel
theorem d_Ans_countSkipped_97 : decode b_Ans_countSkipped 97 = .ok (.aload_n 0, 1) := by decide +kernel
theorem d_Ans_countSkipped_98 : decode b_Ans_countSkipped 98 = .ok (.dup, 1) := by decide +kernel
theorem d_Ans_countSkipped_99 : decode b_Ans_countSkipped 99 = .ok (.getfield 207, 3) := by decide +kernel
theorem d_Ans_countSkipped_102 : decode b_Ans_countSkipped 102 = .ok (.iconst 1, 1) := by decide +kernel
theorem d_Ans_countSkipped_103 : decode b_Ans_countSkipped 103 = .ok (.iadd, 1) := by decide +kernel
theorem d_Ans_countSkipped_104 : decode b_Ans_countSkipped 104 = .ok (.putfield 207, 3) := by decide +kernel
theorem d_Ans_countSkipped_107 : decode b_Ans_countSkipped 107 = .ok (.goto 8, 3) := by decide +kernel
theorem d_Ans_countSkipped_53 : decode b_Ans_countSkipped 53 = .ok (.aload_n 0, 1) := by decide +kernel
theorem d_Ans_countSkipped_54 : decode b_Ans_countSkipped 54 = .ok (.getfield 33, 3) := by decide +kernel
theorem d_Ans_countSkipped_57 : decode b_Ans_countSkipped 57 = .ok (.iload_n 2, 1) := by decide +kernel
theorem d_Ans_countSkipped_58 : decode b_Ans_countSkipped 58 = .ok (.aload_n 0, 1) := by decide +kernel
theorem d_Ans_countSkipped_59 : decode b_Ans_countSkipped 59 = .ok (.getfield 53, 3) := by decide +kernel
theorem d_Ans_countSkipped_62 : decode b_Ans_countSkipped 62 = .ok (.getfield 222, 3) := by decide +kernel
theorem d_Ans_countSkipped_65 : decode b_Ans_countSkipped 65 = .ok (.iload_n 1, 1) := by decide +kernel
theorem d_Ans_countSkipped_66 : decode b_Ans_countSkipped 66 = .ok (.aload_n 0, 1) := by decide +kernel
theorem d_Ans_countSkipped_67 : decode b_Ans_countSkipped 67 = .ok (.getfield 53, 3) := by decide +kernel
theorem d_Ans_countSkipped_70 : decode b_Ans_countSkipped 70 = .ok (.getfield 99, 3) := by decide +kernel
theorem d_Ans_countSkipped_73 : decode b_Ans_countSkipped 73 = .ok (.getfield 219, 3) := by decide +kernel
theorem d_Ans_countSkipped_76 : decode b_Ans_countSkipped 76 = .ok (.imul, 1) := by decide +kernel
theorem d_Ans_countSkipped_77 : decode b_Ans_countSkipped 77 = .ok (.iload_n 2, 1) := by decide +kernel
theorem d_Ans_countSkipped_78 : decode b_Ans_countSkipped 78 = .ok (.iadd, 1) := by decide +kernel
theorem d_Ans_countSkipped_79 : decode b_Ans_countSkipped 79 = .ok (.iaload, 1) := by decide +kernel
theorem d_Ans_countSkipped_80 : decode b_Ans_countSkipped 80 = .ok (.iastore, 1) := by decide +kernel
theorem d_Ans_countSkipped_81 : decode b_Ans_countSkipped 81 = .ok (.iinc 2 1, 3) := by decide +kernel
theorem d_Ans_countSkipped_84 : decode b_Ans_countSkipped 84 = .ok (.goto (-45), 3) := by decide +kernel
theorem d_Ans_countSkipped_16 : decode b_Ans_countSkipped 16 = .ok (.iload_n 1, 1) := by decide +kernel
theorem d_Ans_countSkipped_17 : decode b_Ans_countSkipped 17 = .ok (.aload_n 0, 1) := by decide +kernel
theorem d_Ans_countSkipped_18 : decode b_Ans_countSkipped 18 = .ok (.getfield 53, 3) := by decide +kernel
theorem d_Ans_countSkipped_21 : decode b_Ans_countSkipped 21 = .ok (.getfield 216, 3) := by decide +kernel
theorem d_Ans_countSkipped_24 : decode b_Ans_countSkipped 24 = .ok (.if_icmp .ge 97, 3) := by decide +kernel
theorem d_Ans_countSkipped_121 : decode b_Ans_countSkipped 121 = .ok (.return_, 1) := by decide +kernel
theorem d_Ans_countSkipped_27 : decode b_Ans_countSkipped 27 = .ok (.aload_n 0, 1) := by decide +kernel
theorem d_Ans_countSkipped_28 : decode b_Ans_countSkipped 28 = .ok (.getfield 57, 3) := by decide +kernel
theorem d_Ans_countSkipped_31 : decode b_Ans_countSkipped 31 = .ok (.getfield 82, 3) := by decide +kernel
theorem d_Ans_countSkipped_34 : decode b_Ans_countSkipped 34 = .ok (.ifCond .le 87, 3) := by decide +kernel
theorem d_Ans_countSkipped_37 : decode b_Ans_countSkipped 37 = .ok (.iconst 0, 1) := by decide +kernel
theorem d_Ans_countSkipped_38 : decode b_Ans_countSkipped 38 = .ok (.istore_n 2, 1) := by decide +kernel
theorem d_Ans_countSkipped_0 : decode b_Ans_countSkipped 0 = .ok (.aload_n 0, 1) := by decide +kernel
theorem d_Ans_countSkipped_1 : decode b_Ans_countSkipped 1 = .ok (.iconst 0, 1) := by decide +kernel
theorem d_Ans_countSkipped_2 : decode b_Ans_countSkipped 2 = .ok (.putfield 207, 3) := by decide +kernel
theorem d_Ans_countSkipped_5 : decode b_Ans_countSkipped 5 = .ok (.aload_n 0, 1) := by decide +kernel
theorem d_Ans_countSkipped_6 : decode b_Ans_countSkipped 6 = .ok (.iconst 0, 1) := by decide +kernel
theorem d_Ans_countSkipped_7 : decode b_Ans_countSkipped 7 = .ok (.putfield 210, 3) := by decide +kernel
theorem d_Ans_countSkipped_10 : decode b_Ans_countSkipped 10 = .ok (.aload_n 0, 1) := by decide +kernel
theorem d_Ans_countSkipped_11 : decode b_Ans_countSkipped 11 = .ok (.invokevirtual 213, 3) := by decide +kernel
theorem d_Ans_countSkipped_14 : decode b_Ans_countSkipped 14 = .ok (.iconst 0, 1) := by decide +kernel
theorem d_Ans_countSkipped_15 : decode b_Ans_countSkipped 15 = .ok (.istore_n 1, 1) := by decide +kernel
theorem d_V_run_28 : decode b_V_run 28 = .ok (.iconst (-1), 1) := by decide +kernel
theorem d_V_run_29 : decode b_V_run 29 = .ok (.ireturn, 1) := by decide +kernel
theorem d_V_run_0 : decode b_V_run 0 = .ok (.aload_n 0, 1) := by decide +kernel
theorem d_V_run_1 : decode b_V_run 1 = .ok (.getfield 75, 3) := by decide +kernel
theorem d_V_run_4 : decode b_V_run 4 = .ok (.getfield 167, 3) := by decide +kernel
theorem d_V_run_7 : decode b_V_run 7 = .ok (.ifCond .eq 21, 3) := by decide +kernel
theorem d_V_run_10 : decode b_V_run 10 = .ok (.aload_n 0, 1) := by decide +kernel
theorem d_V_run_11 : decode b_V_run 11 = .ok (.getfield 89, 3) := by decide +kernel
theorem d_V_run_14 : decode b_V_run 14 = .ok (.aload_n 0, 1) := by decide +kernel
theorem d_V_run_15 : decode b_V_run 15 = .ok (.getfield 59, 3) := by decide +kernel
theorem d_V_run_18 : decode b_V_run 18 = .ok (.aload_n 0, 1) := by decide +kernel
theorem d_V_run_19 : decode b_V_run 19 = .ok (.getfield 75, 3) := by decide +kernel
theorem d_V_run_22 : decode b_V_run 22 = .ok (.invokevirtual 198, 3) := by decide +kernel
theorem d_V_run_25 : decode b_V_run 25 = .ok (.ifCond .ne 5, 3) := by decide +kernel
theorem d_V_run_30 : decode b_V_run 30 = .ok (.aload_n 0, 1) := by decide +kernel
theorem d_V_run_31 : decode b_V_run 31 = .ok (.getfield 85, 3) := by decide +kernel
theorem d_V_run_34 : decode b_V_run 34 = .ok (.astore_n 1, 1) := by decide +kernel
theorem d_V_run_35 : decode b_V_run 35 = .ok (.aload_n 0, 1) := by decide +kernel
theorem d_V_run_36 : decode b_V_run 36 = .ok (.aload_n 0, 1) := by decide +kernel
theorem d_V_run_37 : decode b_V_run 37 = .ok (.getfield 89, 3) := by decide +kernel
theorem d_V_run_40 : decode b_V_run 40 = .ok (.putfield 85, 3) := by decide +kernel
theorem d_V_run_43 : decode b_V_run 43 = .ok (.aload_n 0, 1) := by decide +kernel
theorem d_V_run_44 : decode b_V_run 44 = .ok (.aload_n 1, 1) := by decide +kernel
theorem d_V_run_45 : decode b_V_run 45 = .ok (.putfield 89, 3) := by decide +kernel
theorem d_V_run_48 : decode b_V_run 48 = .ok (.aload_n 0, 1) := by decide +kernel
theorem d_V_run_49 : decode b_V_run 49 = .ok (.getfield 85, 3) := by decide +kernel
theorem d_V_run_52 : decode b_V_run 52 = .ok (.invokevirtual 202, 3) := by decide +kernel
theorem d_V_run_55 : decode b_V_run 55 = .ok (.aload_n 0, 1) := by decide +kernel
theorem d_V_run_56 : decode b_V_run 56 = .ok (.getfield 85, 3) := by decide +kernel
theorem d_V_run_59 : decode b_V_run 59 = .ok (.iconst 1, 1) := by decide +kernel
theorem d_V_run_60 : decode b_V_run 60 = .ok (.putfield 168, 3) := by decide +kernel
theorem d_V_run_63 : decode b_V_run 63 = .ok (.aload_n 0, 1) := by decide +kernel
theorem d_V_run_64 : decode b_V_run 64 = .ok (.getfield 85, 3) := by decide +kernel
theorem d_V_run_67 : decode b_V_run 67 = .ok (.getfield 205, 3) := by decide +kernel
theorem d_V_run_70 : decode b_V_run 70 = .ok (.ireturn, 1) := by decide +kernel
section
variable (l : Launch) (dC : Nat → ClassId) (dI : Nat → Nat → Nat) (cI cB cJ cZ : ClassId)
set_option maxRecDepth 100000 in
def wp_Ans_pageEnd (post : Int32 → St → Prop) (o : Nat) (l1 : Int32) (l2 : Int32) (x : St) : Prop := (∃ q5087 : Nat, fR x o 14 = some q5087 ∧ (∃ q5088 : Nat, fR x o 14 = some q5088 ∧ (vp_in ((l1 * (fI x (stC q5088 5) 1)) + l2) (fN x (stC q5087 12)) ∧ (∀ v5089 : Int32, v5089 = (rA x (stC q5087 12) ((l1 * (fI x (stC q5088 5) 1)) + l2)) → (vp_in l2 (fN x (stC o 12)) ∧ (∀ v5090 : Int32, v5090 = (rA x (stC o 12) l2) → (∃ q5091 : Nat, fR x o 14 = some q5091 ∧ (vp_in v5090 (fN x (stC q5091 13)) ∧ (∃ q5092 : Nat, fR x o 14 = some q5092 ∧ (vp_in v5090 (fN x (stC q5092 14)) ∧ (∃ q5093 : Nat, fR x o 14 = some q5093 ∧ (vp_in v5089 (fN x (stC q5093 13)) ∧ post (((rA x (stC q5091 13) v5090) + (rA x (stC q5092 14) v5090)) - (rA x (stC q5093 13) v5089)) x))))))))))))
set_option maxHeartbeats 4000000 in
set_option maxRecDepth 100000 in
theorem t_Ans_pageEnd_e {p : Program} {l : Launch} {e : Env} {R : Room} {s : State} {m : MethodId} {args : Array Value} {below : List Frame} {meth : Method} {c : Code} {cells slots : Nat} {Q : State → Prop} {dC : Nat → ClassId} {dI : Nat → Nat → Nat} {cI cB cJ cZ : ClassId} {A : Nat → Prop} {ad : Nat → Nat} {NN : Nat} {E : Heap} {tM tC : Nat} {kK kV : Nat → Nat} {post : Int32 → St → Prop} (hx : p.tables.exec = Jvm.exec) (hb : c.code = b_Ans_pageEnd) (hml : c.maxLocals = 5) (hown : s.vm.findClass R_Ans = some m.cls) (hT : ∀ w ∈ TG, w.before args s = true) (hK : va_K (dC, dI) CL (TY cI cB cJ cZ) s) (hN : NW s) (hA : ∀ q : Nat, s.heap.size ≤ q → A q) (hRc : cells ≤ R.cells) (hRs : slots ≤ R.slots) (hRf : 0 ≤ R.frames) (hRl : 0 ≤ R.locals) (hNN : 152 ≤ NN) (hE : CE E tM tC kK kV A s) (hret : ∀ (r : Int32) (x : St) (H : Heap) (locs : List Loc) (pc : Nat) (ls : Array Slot), decode b_Ans_pageEnd pc = .ok (.ireturn, 1) → post r x → Wd dC dI cI cB cJ cZ ad stC kcC NN A x H → va_S A s.heap H locs → W p l e R s m args below meth c H locs cells slots Q (F0 m pc ls [.int r])) : ∀ (o : Nat) (l1 : Int32) (l2 : Int32) (x : St) (H : Heap) (locs : List Loc) (ls : Array Slot), (o < NN ∧ kcC o = 10) → wp_Ans_pageEnd post o l1 l2 x → Wd dC dI cI cB cJ cZ ad stC kcC NN A x H → va_S A s.heap H locs → lv_has ls 5 [(0, .ref (ad o)), (1, .int l1), (2, .int l2)] → W p l e R s m args below meth c H locs cells slots Q (F0 m 0 ls []) := by
  intro o l1 l2 x H locs ls fo hw hW hS hl
  unfold wp_Ans_pageEnd at hw
  refine lv_aload_n hx hb d_Ans_pageEnd_0 rfl (lv_at hl 0 rfl) ?_
  obtain ⟨q5087, hq5087, hw⟩ := hw
  refine w_getr (q := q5087) (k := 14) (t := 10) (C := R_Ans) (T := F_Ans) (N := 16) hx hb hT hown hK hW fo.1 fo.2 (by decide) in_Ans rfl rfl (by decide) rfl fr_Ans_14 w_3_176 d_Ans_pageEnd_1 hq5087 (fun aq5087 bq5087 => ?_)
  have fq5087 : q5087 < NN ∧ kcC q5087 = 6 := ⟨aq5087, bq5087⟩
  refine w_getf (q := (stC q5087 12)) (k := 12) (t := 6) (C := R_Vlt) (T := F_Vlt) (N := 20) hx hb hT hown hK hW fq5087.1 fq5087.2 (by decide) in_Vlt rfl rfl (by decide) rfl fr_Vlt_12 w_2_161 d_Ans_pageEnd_4 rfl ?_
  refine lv_iload_n hx hb d_Ans_pageEnd_7 rfl (lv_at hl 1 rfl) ?_
  refine lv_aload_n hx hb d_Ans_pageEnd_8 rfl (lv_at hl 0 rfl) ?_
  obtain ⟨q5088, hq5088, hw⟩ := hw
  refine w_getr (q := q5088) (k := 14) (t := 10) (C := R_Ans) (T := F_Ans) (N := 16) hx hb hT hown hK hW fo.1 fo.2 (by decide) in_Ans rfl rfl (by decide) rfl fr_Ans_14 w_3_176 d_Ans_pageEnd_9 hq5088 (fun aq5088 bq5088 => ?_)
  have fq5088 : q5088 < NN ∧ kcC q5088 = 6 := ⟨aq5088, bq5088⟩
  refine w_getf (q := (stC q5088 5)) (k := 5) (t := 6) (C := R_Vlt) (T := F_Vlt) (N := 20) hx hb hT hown hK hW fq5088.1 fq5088.2 (by decide) in_Vlt rfl rfl (by decide) rfl fr_Vlt_5 w_2_137 d_Ans_pageEnd_12 rfl ?_
  refine w_geti (k := 1) (t := 3) (C := R_Sch) (T := F_Sch) (N := 13) hx hb hT hown hK hW (st_ty hNN fq5088.1 fq5088.2 rfl).1 (st_ty hNN fq5088.1 fq5088.2 rfl).2 (by decide) in_Sch rfl rfl (by decide) rfl fr_Sch_1 w_1_139 d_Ans_pageEnd_15 ?_
  refine lv_imul hx hb d_Ans_pageEnd_18 ?_
  refine lv_iload_n hx hb d_Ans_pageEnd_19 rfl (lv_at hl 2 rfl) ?_
  refine lv_iadd hx hb d_Ans_pageEnd_20 ?_
  obtain ⟨hi, hw⟩ := hw
  refine w_iald (o := (stC q5087 12)) hx hb hK hW (st_ty hNN fq5087.1 fq5087.2 rfl).1 (st_ty hNN fq5087.1 fq5087.2 rfl).2 hi d_Ans_pageEnd_21 ?_
  refine lv_topi (fun v5089 ev5089 => ?_)
  have hw := hw v5089 ev5089
  refine lv_istore_n (lv' := [(3, .int v5089), (0, .ref (ad o)), (1, .int l1), (2, .int l2)]) hx hb d_Ans_pageEnd_22 rfl hl (by decide) rfl (fun ls hl => ?_)
  refine lv_aload_n hx hb d_Ans_pageEnd_23 rfl (lv_at hl 1 rfl) ?_
  refine w_getf (q := (stC o 12)) (k := 12) (t := 10) (C := R_Ans) (T := F_Ans) (N := 16) hx hb hT hown hK hW fo.1 fo.2 (by decide) in_Ans rfl rfl (by decide) rfl fr_Ans_12 w_3_174 d_Ans_pageEnd_24 rfl ?_
  refine lv_iload_n hx hb d_Ans_pageEnd_27 rfl (lv_at hl 3 rfl) ?_
  obtain ⟨hi, hw⟩ := hw
  refine w_iald (o := (stC o 12)) hx hb hK hW (st_ty hNN fo.1 fo.2 rfl).1 (st_ty hNN fo.1 fo.2 rfl).2 hi d_Ans_pageEnd_28 ?_
  refine lv_topi (fun v5090 ev5090 => ?_)
  have hw := hw v5090 ev5090
  refine lv_istore (lv' := [(4, .int v5090), (3, .int v5089), (0, .ref (ad o)), (1, .int l1), (2, .int l2)]) hx hb d_Ans_pageEnd_29 hl (by decide) rfl (fun ls hl => ?_)
  refine lv_aload_n hx hb d_Ans_pageEnd_31 rfl (lv_at hl 2 rfl) ?_
  obtain ⟨q5091, hq5091, hw⟩ := hw
  refine w_getr (q := q5091) (k := 14) (t := 10) (C := R_Ans) (T := F_Ans) (N := 16) hx hb hT hown hK hW fo.1 fo.2 (by decide) in_Ans rfl rfl (by decide) rfl fr_Ans_14 w_3_176 d_Ans_pageEnd_32 hq5091 (fun aq5091 bq5091 => ?_)
  have fq5091 : q5091 < NN ∧ kcC q5091 = 6 := ⟨aq5091, bq5091⟩
  refine w_getf (q := (stC q5091 13)) (k := 13) (t := 6) (C := R_Vlt) (T := F_Vlt) (N := 20) hx hb hT hown hK hW fq5091.1 fq5091.2 (by decide) in_Vlt rfl rfl (by decide) rfl fr_Vlt_13 w_2_164 d_Ans_pageEnd_35 rfl ?_
  refine lv_iload hx hb d_Ans_pageEnd_38 (lv_at hl 0 rfl) ?_
  obtain ⟨hi, hw⟩ := hw
  refine w_iald (o := (stC q5091 13)) hx hb hK hW (st_ty hNN fq5091.1 fq5091.2 rfl).1 (st_ty hNN fq5091.1 fq5091.2 rfl).2 hi d_Ans_pageEnd_40 ?_
  refine lv_aload_n hx hb d_Ans_pageEnd_41 rfl (lv_at hl 2 rfl) ?_
  obtain ⟨q5092, hq5092, hw⟩ := hw
  refine w_getr (q := q5092) (k := 14) (t := 10) (C := R_Ans) (T := F_Ans) (N := 16) hx hb hT hown hK hW fo.1 fo.2 (by decide) in_Ans rfl rfl (by decide) rfl fr_Ans_14 w_3_176 d_Ans_pageEnd_42 hq5092 (fun aq5092 bq5092 => ?_)
  have fq5092 : q5092 < NN ∧ kcC q5092 = 6 := ⟨aq5092, bq5092⟩
  refine w_getf (q := (stC q5092 14)) (k := 14) (t := 6) (C := R_Vlt) (T := F_Vlt) (N := 20) hx hb hT hown hK hW fq5092.1 fq5092.2 (by decide) in_Vlt rfl rfl (by decide) rfl fr_Vlt_14 w_2_167 d_Ans_pageEnd_45 rfl ?_
  refine lv_iload hx hb d_Ans_pageEnd_48 (lv_at hl 0 rfl) ?_
  obtain ⟨hi, hw⟩ := hw
  refine w_iald (o := (stC q5092 14)) hx hb hK hW (st_ty hNN fq5092.1 fq5092.2 rfl).1 (st_ty hNN fq5092.1 fq5092.2 rfl).2 hi d_Ans_pageEnd_50 ?_
  refine lv_iadd hx hb d_Ans_pageEnd_51 ?_
  refine lv_aload_n hx hb d_Ans_pageEnd_52 rfl (lv_at hl 2 rfl) ?_
  obtain ⟨q5093, hq5093, hw⟩ := hw
  refine w_getr (q := q5093) (k := 14) (t := 10) (C := R_Ans) (T := F_Ans) (N := 16) hx hb hT hown hK hW fo.1 fo.2 (by decide) in_Ans rfl rfl (by decide) rfl fr_Ans_14 w_3_176 d_Ans_pageEnd_53 hq5093 (fun aq5093 bq5093 => ?_)
  have fq5093 : q5093 < NN ∧ kcC q5093 = 6 := ⟨aq5093, bq5093⟩
  refine w_getf (q := (stC q5093 13)) (k := 13) (t := 6) (C := R_Vlt) (T := F_Vlt) (N := 20) hx hb hT hown hK hW fq5093.1 fq5093.2 (by decide) in_Vlt rfl rfl (by decide) rfl fr_Vlt_13 w_2_164 d_Ans_pageEnd_56 rfl ?_
  refine lv_iload_n hx hb d_Ans_pageEnd_59 rfl (lv_at hl 1 rfl) ?_
  obtain ⟨hi, hw⟩ := hw
  refine w_iald (o := (stC q5093 13)) hx hb hK hW (st_ty hNN fq5093.1 fq5093.2 rfl).1 (st_ty hNN fq5093.1 fq5093.2 rfl).2 hi d_Ans_pageEnd_60 ?_
  refine lv_isub hx hb d_Ans_pageEnd_61 ?_
  exact hret (((rA x (stC q5091 13) v5090) + (rA x (stC q5092 14) v5090)) - (rA x (stC q5093 13) v5089)) x H locs 62 ls d_Ans_pageEnd_62 hw hW hS
set_option maxHeartbeats 4000000 in
set_option maxRecDepth 100000 in
theorem k_Ans_pageEnd (l : Launch) (dC : Nat → ClassId) (dI : Nat → Nat → Nat) (cI cB cJ cZ : ClassId) (ad : Nat → Nat) (NN : Nat) (E : Heap) (tM tC : Nat) (kK kV : Nat → Nat) (hNN : 152 ≤ NN) (sz : Nat) (o : Nat) (l1 : Int32) (l2 : Int32) (x : St) (fo : o < NN ∧ kcC o = 10) {post : Int32 → St → Prop} (hw : wp_Ans_pageEnd post o l1 l2 x) : Met l y_Ans_pageEnd (wsOf y_Ans_pageEnd b_Ans_pageEnd 5 (some (.int))) ({ frames := 0, cells := 0, slots := 0, locals := 0 }) (va_Pc [.ref (ad o), .int l1, .int l2] (PV dC dI cI cB cJ cZ ad stC kcC NN E tM tC kK kV sz x)) (va_Qi (fun (r : Int32) (y : St) => post r y) (fun y t => Wd dC dI cI cB cJ cZ ad stC kcC NN (va_A (pic ad stC kcC NN cI cB cJ cZ x) sz) y t.heap) (va_A (pic ad stC kcC NN cI cB cJ cZ x) sz)) 0 0 (va_A (pic ad stC kcC NN cI cB cJ cZ x) sz) := by
  refine Met.ofW (cc := b_Ans_pageEnd) (maxL := 5) (ret := some (.int)) (by decide) rfl ?_
  intro p e s m args below meth c s₁ B hml hv
  obtain ⟨rfl, ⟨hsz, hW0, hK, hN⟩, hE⟩ := hv
  have hx := B.exec
  have hb := B.bytes
  have hr := B.returns
  have hts := atoms_spec B.pre
  have hT : ∀ w ∈ TG, w.before _ s = true := fun w h => hts w (List.mem_cons_of_mem _ h)
  have hown : s.vm.findClass R_Ans = some m.cls := findClass_of_methodNamed B.named
  have hlocks := B.notSynchronized
  subst hsz
  have hW : Wd dC dI cI cB cJ cZ ad stC kcC NN (va_A (pic ad stC kcC NN cI cB cJ cZ x) s.heap.size) x s.heap := ⟨hW0.1, hW0.2.1.self (sz := s.heap.size), hW0.2.2⟩
  generalize hAe : va_A (pic ad stC kcC NN cI cB cJ cZ x) s.heap.size = A at hW hE ⊢
  have hA : ∀ q : Nat, s.heap.size ≤ q → A q := fun q h => by rw [← hAe]; exact Or.inr h
  have hS : va_S A s.heap s.heap [] := va_S.rf
  have hl := lv_entry ([.ref (ad o), .int l1, .int l2]) (n := 5) (Nat.le_of_ble_eq_true rfl)
  rw [lg_entry_eq]
  generalize (lg_sl ([.ref (ad o), .int l1, .int l2]) ++ List.replicate (5 - (lg_sl ([.ref (ad o), .int l1, .int l2])).length) Slot.unset).toArray = ls at hl ⊢
  have hl : lv_has ls 5 [(0, .ref (ad o)), (1, .int l1), (2, .int l2)] := hl
  exact t_Ans_pageEnd_e hx hb hml hown hT hK hN hA (Nat.le_refl 0) (Nat.le_refl 0) (Nat.le_refl 0) (Nat.le_refl 0) hNN hE (fun r x H locs pc ls hd hp hW hS => W.iret (v := r) hx hb hr (fun t ht hM => ⟨⟨r, x, rfl, hp, Wd.back hW ht.symm (fun _ z => z)⟩, hS.F ht⟩) hS.2.2 hd hlocks)  o l1 l2 x _ _ ls fo hw hW hS hl
set_option maxRecDepth 100000 in
def j_Ans_countStretches_187 (post : St → Prop) (rec65 : Nat → Int32 → Int32 → Int32 → Int32 → Int32 → St → Prop) (rec142 : Nat → Int32 → Int32 → Int32 → Int32 → Int32 → Int32 → St → Prop) (o : Nat) (l1 : Int32) (l2 : Int32) (l3 : Int32) (l4 : Int32) (l5 : Int32) (l6 : Int32) (x : St) : Prop := rec142 o l1 l2 l3 l4 l5 (l6 + 1) x
set_option maxHeartbeats 4000000 in
set_option maxRecDepth 100000 in
theorem t_Ans_countStretches_187 {p : Program} {l : Launch} {e : Env} {R : Room} {s : State} {m : MethodId} {args : Array Value} {below : List Frame} {meth : Method} {c : Code} {cells slots : Nat} {Q : State → Prop} {dC : Nat → ClassId} {dI : Nat → Nat → Nat} {cI cB cJ cZ : ClassId} {A : Nat → Prop} {ad : Nat → Nat} {NN : Nat} {E : Heap} {tM tC : Nat} {kK kV : Nat → Nat} {post : St → Prop} {rec65 : Nat → Int32 → Int32 → Int32 → Int32 → Int32 → St → Prop} {rec142 : Nat → Int32 → Int32 → Int32 → Int32 → Int32 → Int32 → St → Prop} (hx : p.tables.exec = Jvm.exec) (hb : c.code = b_Ans_countStretches) (hml : c.maxLocals = 7) (hown : s.vm.findClass R_Ans = some m.cls) (hT : ∀ w ∈ TG, w.before args s = true) (hK : va_K (dC, dI) CL (TY cI cB cJ cZ) s) (hN : NW s) (hA : ∀ q : Nat, s.heap.size ≤ q → A q) (hRc : cells ≤ R.cells) (hRs : slots ≤ R.slots) (hRf : 6 ≤ R.frames) (hRl : 224 ≤ R.locals) (hNN : 152 ≤ NN) (hE : CE E tM tC kK kV A s) (hret : ∀ (x : St) (H : Heap) (locs : List Loc) (pc : Nat) (ls : Array Slot), decode b_Ans_countStretches pc = .ok (.return_, 1) → post x → Wd dC dI cI cB cJ cZ ad stC kcC NN A x H → va_S A s.heap H locs → W p l e R s m args below meth c H locs cells slots Q (F0 m pc ls [])) (hrec65 : ∀ (o : Nat) (l1 : Int32) (l2 : Int32) (l3 : Int32) (l4 : Int32) (l5 : Int32) (x : St) (H : Heap) (locs : List Loc) (ls : Array Slot), (o < NN ∧ kcC o = 10) → rec65 o l1 l2 l3 l4 l5 x → Wd dC dI cI cB cJ cZ ad stC kcC NN A x H → va_S A s.heap H locs → lv_has ls 7 [(0, .ref (ad o)), (1, .int l1), (2, .int l2), (3, .int l3), (4, .int l4), (5, .int l5)] → W p l e R s m args below meth c H locs cells slots Q (F0 m 65 ls [])) (hrec142 : ∀ (o : Nat) (l1 : Int32) (l2 : Int32) (l3 : Int32) (l4 : Int32) (l5 : Int32) (l6 : Int32) (x : St) (H : Heap) (locs : List Loc) (ls : Array Slot), (o < NN ∧ kcC o = 10) → rec142 o l1 l2 l3 l4 l5 l6 x → Wd dC dI cI cB cJ cZ ad stC kcC NN A x H → va_S A s.heap H locs → lv_has ls 7 [(0, .ref (ad o)), (1, .int l1), (2, .int l2), (3, .int l3), (4, .int l4), (5, .int l5), (6, .int l6)] → W p l e R s m args below meth c H locs cells slots Q (F0 m 142 ls [])) : ∀ (o : Nat) (l1 : Int32) (l2 : Int32) (l3 : Int32) (l4 : Int32) (l5 : Int32) (l6 : Int32) (x : St) (H : Heap) (locs : List Loc) (ls : Array Slot), (o < NN ∧ kcC o = 10) → j_Ans_countStretches_187 post rec65 rec142 o l1 l2 l3 l4 l5 l6 x → Wd dC dI cI cB cJ cZ ad stC kcC NN A x H → va_S A s.heap H locs → lv_has ls 7 [(0, .ref (ad o)), (1, .int l1), (2, .int l2), (3, .int l3), (4, .int l4), (5, .int l5), (6, .int l6)] → W p l e R s m args below meth c H locs cells slots Q (F0 m 187 ls []) := by
  intro o l1 l2 l3 l4 l5 l6 x H locs ls fo hw hW hS hl
  unfold j_Ans_countStretches_187 at hw
  refine lv_iinc (v := (l6 + 1)) (lv' := [(6, .int (l6 + 1)), (0, .ref (ad o)), (1, .int l1), (2, .int l2), (3, .int l3), (4, .int l4), (5, .int l5)]) hx hb d_Ans_countStretches_187 hl (k := 6) rfl rfl (by decide) rfl (fun ls hl => ?_)
  refine lv_goto (tgt := 142) hx hb d_Ans_countStretches_190 (by decide) ?_
  exact hrec142 o l1 l2 l3 l4 l5 (l6 + 1) x H locs ls fo hw hW hS (lv_sub hl [1, 2, 3, 4, 5, 6, 0] rfl)
set_option maxRecDepth 100000 in
def j_Ans_countStretches_142 (post : St → Prop) (rec65 : Nat → Int32 → Int32 → Int32 → Int32 → Int32 → St → Prop) (rec142 : Nat → Int32 → Int32 → Int32 → Int32 → Int32 → Int32 → St → Prop) (o : Nat) (l1 : Int32) (l2 : Int32) (l3 : Int32) (l4 : Int32) (l5 : Int32) (l6 : Int32) (x : St) : Prop := ((l2 ≤ l6 → rec65 o l1 l2 l3 l4 (l5 + 1) x) ∧ (¬ l2 ≤ l6 → (vp_in l6 (fN x (stC o 13)) ∧ (((rA x (stC o 13) l6) = 0 → j_Ans_countStretches_187 post rec65 rec142 o l1 l2 l3 l4 l5 l6 x) ∧ (¬ (rA x (stC o 13) l6) = 0 → ((l3 ≤ l4 → j_Ans_countStretches_187 post rec65 rec142 o l1 l2 l3 l4 l5 l6 x) ∧ (¬ l3 ≤ l4 → wp_Ans_pageEnd (fun (r5098 : Int32) (x5097 : St) => ((¬ r5098 = l4 → j_Ans_countStretches_187 post rec65 rec142 o l1 l2 l3 l4 l5 l6 x5097) ∧ (r5098 = l4 → (vp_in l6 (fN x5097 (stC o 12)) ∧ (vp_in l6 (fN x5097 (stC o 12)) ∧ ∀ x5100 : St, x5100 = setA x5097 (stC o 12) l6 ((rA x5097 (stC o 12) l6) + 1) → j_Ans_countStretches_187 post rec65 rec142 o l1 l2 l3 l4 l5 l6 x5100))))) o l1 l6 x)))))))
set_option maxHeartbeats 4000000 in
set_option maxRecDepth 100000 in
theorem t_Ans_countStretches_142 {p : Program} {l : Launch} {e : Env} {R : Room} {s : State} {m : MethodId} {args : Array Value} {below : List Frame} {meth : Method} {c : Code} {cells slots : Nat} {Q : State → Prop} {dC : Nat → ClassId} {dI : Nat → Nat → Nat} {cI cB cJ cZ : ClassId} {A : Nat → Prop} {ad : Nat → Nat} {NN : Nat} {E : Heap} {tM tC : Nat} {kK kV : Nat → Nat} {post : St → Prop} {rec65 : Nat → Int32 → Int32 → Int32 → Int32 → Int32 → St → Prop} {rec142 : Nat → Int32 → Int32 → Int32 → Int32 → Int32 → Int32 → St → Prop} (hx : p.tables.exec = Jvm.exec) (hb : c.code = b_Ans_countStretches) (hml : c.maxLocals = 7) (hown : s.vm.findClass R_Ans = some m.cls) (hT : ∀ w ∈ TG, w.before args s = true) (hK : va_K (dC, dI) CL (TY cI cB cJ cZ) s) (hN : NW s) (hA : ∀ q : Nat, s.heap.size ≤ q → A q) (hRc : cells ≤ R.cells) (hRs : slots ≤ R.slots) (hRf : 6 ≤ R.frames) (hRl : 224 ≤ R.locals) (hNN : 152 ≤ NN) (hE : CE E tM tC kK kV A s) (hret : ∀ (x : St) (H : Heap) (locs : List Loc) (pc : Nat) (ls : Array Slot), decode b_Ans_countStretches pc = .ok (.return_, 1) → post x → Wd dC dI cI cB cJ cZ ad stC kcC NN A x H → va_S A s.heap H locs → W p l e R s m args below meth c H locs cells slots Q (F0 m pc ls [])) (hrec65 : ∀ (o : Nat) (l1 : Int32) (l2 : Int32) (l3 : Int32) (l4 : Int32) (l5 : Int32) (x : St) (H : Heap) (locs : List Loc) (ls : Array Slot), (o < NN ∧ kcC o = 10) → rec65 o l1 l2 l3 l4 l5 x → Wd dC dI cI cB cJ cZ ad stC kcC NN A x H → va_S A s.heap H locs → lv_has ls 7 [(0, .ref (ad o)), (1, .int l1), (2, .int l2), (3, .int l3), (4, .int l4), (5, .int l5)] → W p l e R s m args below meth c H locs cells slots Q (F0 m 65 ls [])) (hrec142 : ∀ (o : Nat) (l1 : Int32) (l2 : Int32) (l3 : Int32) (l4 : Int32) (l5 : Int32) (l6 : Int32) (x : St) (H : Heap) (locs : List Loc) (ls : Array Slot), (o < NN ∧ kcC o = 10) → rec142 o l1 l2 l3 l4 l5 l6 x → Wd dC dI cI cB cJ cZ ad stC kcC NN A x H → va_S A s.heap H locs → lv_has ls 7 [(0, .ref (ad o)), (1, .int l1), (2, .int l2), (3, .int l3), (4, .int l4), (5, .int l5), (6, .int l6)] → W p l e R s m args below meth c H locs cells slots Q (F0 m 142 ls [])) : ∀ (o : Nat) (l1 : Int32) (l2 : Int32) (l3 : Int32) (l4 : Int32) (l5 : Int32) (l6 : Int32) (x : St) (H : Heap) (locs : List Loc) (ls : Array Slot), (o < NN ∧ kcC o = 10) → j_Ans_countStretches_142 post rec65 rec142 o l1 l2 l3 l4 l5 l6 x → Wd dC dI cI cB cJ cZ ad stC kcC NN A x H → va_S A s.heap H locs → lv_has ls 7 [(0, .ref (ad o)), (1, .int l1), (2, .int l2), (3, .int l3), (4, .int l4), (5, .int l5), (6, .int l6)] → W p l e R s m args below meth c H locs cells slots Q (F0 m 142 ls []) := by
  intro o l1 l2 l3 l4 l5 l6 x H locs ls fo hw hW hS hl
  unfold j_Ans_countStretches_142 at hw
  refine lv_iload hx hb d_Ans_countStretches_142 (lv_at hl 6 rfl) ?_
  refine lv_iload_n hx hb d_Ans_countStretches_144 rfl (lv_at hl 2 rfl) ?_
  refine lv_icmp_ge (tgt := 193) hx hb d_Ans_countStretches_145 (by decide) (fun c5094 => ?_) (fun c5094 => ?_)
  · have hw := hw.1 c5094
    refine lv_iinc (v := (l5 + 1)) (lv' := [(5, .int (l5 + 1)), (0, .ref (ad o)), (1, .int l1), (2, .int l2), (3, .int l3), (4, .int l4), (6, .int l6)]) hx hb d_Ans_countStretches_193 hl (k := 5) rfl rfl (by decide) rfl (fun ls hl => ?_)
    refine lv_goto (tgt := 65) hx hb d_Ans_countStretches_196 (by decide) ?_
    exact hrec65 o l1 l2 l3 l4 (l5 + 1) x H locs ls fo hw hW hS (lv_sub hl [1, 2, 3, 4, 5, 0] rfl)
  · have hw := hw.2 c5094
    refine lv_aload_n hx hb d_Ans_countStretches_148 rfl (lv_at hl 0 rfl) ?_
    refine w_getf (q := (stC o 13)) (k := 13) (t := 10) (C := R_Ans) (T := F_Ans) (N := 16) hx hb hT hown hK hW fo.1 fo.2 (by decide) in_Ans rfl rfl (by decide) rfl fr_Ans_13 w_3_175 d_Ans_countStretches_149 rfl ?_
    refine lv_iload hx hb d_Ans_countStretches_152 (lv_at hl 6 rfl) ?_
    obtain ⟨hi, hw⟩ := hw
    refine w_zald (o := (stC o 13)) hx hb hK hW (st_ty hNN fo.1 fo.2 rfl).1 (st_ty hNN fo.1 fo.2 rfl).2 hi d_Ans_countStretches_154 ?_
    refine lv_if_eq (tgt := 187) hx hb d_Ans_countStretches_155 (by decide) (fun c5095 => ?_) (fun c5095 => ?_)
    · have hw := hw.1 c5095
      exact t_Ans_countStretches_187 hx hb hml hown hT hK hN hA hRc hRs hRf hRl hNN hE hret hrec65 hrec142 o l1 l2 l3 l4 l5 l6 x H locs ls fo hw hW hS (lv_sub hl [0, 1, 2, 3, 4, 5, 6] rfl)
    · have hw := hw.2 c5095
      refine lv_iload hx hb d_Ans_countStretches_158 (lv_at hl 4 rfl) ?_
      refine lv_iload_n hx hb d_Ans_countStretches_160 rfl (lv_at hl 3 rfl) ?_
      refine lv_icmp_ge (tgt := 187) hx hb d_Ans_countStretches_161 (by decide) (fun c5096 => ?_) (fun c5096 => ?_)
      · have hw := hw.1 c5096
        exact t_Ans_countStretches_187 hx hb hml hown hT hK hN hA hRc hRs hRf hRl hNN hE hret hrec65 hrec142 o l1 l2 l3 l4 l5 l6 x H locs ls fo hw hW hS (lv_sub hl [0, 1, 2, 3, 4, 5, 6] rfl)
      · have hw := hw.2 c5096
        refine lv_aload_n hx hb d_Ans_countStretches_164 rfl (lv_at hl 0 rfl) ?_
        refine lv_iload_n hx hb d_Ans_countStretches_165 rfl (lv_at hl 1 rfl) ?_
        refine lv_iload hx hb d_Ans_countStretches_166 (lv_at hl 6 rfl) ?_
        have hF := hW.free hS hA
        refine va_calli (va_runV (C := R_Ans) (As := [.int l1, .int l6]) (rest := []) ⟨hx, hb, hml, hown, hT⟩ (k_Ans_pageEnd l dC dI cI cB cJ cZ ad NN E tM tC kK kV hNN H.size o l1 l6 x fo hw) ⟨callB_of 2 hT (gw_in w_8_129) rfl rfl rfl (hT _ w_1_13) (hT _ w_8_126) (by decide +kernel) ⟨Nat.le_trans (by decide) hRf, Nat.le_trans (by decide) hRl⟩, hT _ w_8_128, hT _ ws_107⟩ ⟨PV.blind, va_recv hK hW.1 (ci := 10) (q0 := o) rfl (pic_obj fo.1 fo.2 (by decide)), PV.at _ hW hK hN hE hS hF⟩ rfl rfl hl.1 rfl (lv_room (Nat.le_of_ble_eq_true rfl)) d_Ans_countStretches_168 ⟨hRc, hRs⟩) hS (fun q _ h => hF q h) hF (fun r5098 x5097 t H locs ht hvm hw hB hz1 hk1 hS => ?_)
        have hW := Wd.back hB ht hF
        clear hB ht hF hz1 hk1 hvm
        refine lv_iload hx hb d_Ans_countStretches_171 (lv_at hl 4 rfl) ?_
        refine lv_icmp_ne (tgt := 187) hx hb d_Ans_countStretches_173 (by decide) (fun c5099 => ?_) (fun c5099 => ?_)
        · have hw := hw.1 c5099
          exact t_Ans_countStretches_187 hx hb hml hown hT hK hN hA hRc hRs hRf hRl hNN hE hret hrec65 hrec142 o l1 l2 l3 l4 l5 l6 x5097 H locs ls fo hw hW hS (lv_sub hl [0, 1, 2, 3, 4, 5, 6] rfl)
        · have hw := hw.2 c5099
          refine lv_aload_n hx hb d_Ans_countStretches_176 rfl (lv_at hl 0 rfl) ?_
          refine w_getf (q := (stC o 12)) (k := 12) (t := 10) (C := R_Ans) (T := F_Ans) (N := 16) hx hb hT hown hK hW fo.1 fo.2 (by decide) in_Ans rfl rfl (by decide) rfl fr_Ans_12 w_3_174 d_Ans_countStretches_177 rfl ?_
          refine lv_iload hx hb d_Ans_countStretches_180 (lv_at hl 6 rfl) ?_
          refine lv_dup2_11 hx hb d_Ans_countStretches_182 rfl rfl ?_
          obtain ⟨hi, hw⟩ := hw
          refine w_iald (o := (stC o 12)) hx hb hK hW (st_ty hNN fo.1 fo.2 rfl).1 (st_ty hNN fo.1 fo.2 rfl).2 hi d_Ans_countStretches_183 ?_
          refine lv_iconst (v := 1) hx hb d_Ans_countStretches_184 (by decide) ?_
          refine lv_iadd hx hb d_Ans_countStretches_185 ?_
          obtain ⟨hi, hw⟩ := hw
          refine w_iast (o := (stC o 12)) hx hb hK hW hS (st_ty hNN fo.1 fo.2 rfl).1 (st_ty hNN fo.1 fo.2 rfl).2 hi d_Ans_countStretches_186 (fun H locs hW hS => ?_)
          obtain ⟨x5100, ex5100⟩ : ∃ y : St, y = setA x5097 (stC o 12) l6 ((rA x5097 (stC o 12) l6) + 1) := ⟨_, rfl⟩
          rw [← ex5100] at hW
          have hw := hw x5100 ex5100
          exact t_Ans_countStretches_187 hx hb hml hown hT hK hN hA hRc hRs hRf hRl hNN hE hret hrec65 hrec142 o l1 l2 l3 l4 l5 l6 x5100 H locs ls fo hw hW hS (lv_sub hl [0, 1, 2, 3, 4, 5, 6] rfl)
def wl_Ans_countStretches_142 (post : St → Prop) (rec65 : Nat → Int32 → Int32 → Int32 → Int32 → Int32 → St → Prop) : Nat → Nat → Int32 → Int32 → Int32 → Int32 → Int32 → Int32 → St → Prop
  | 0 => fun _ _ _ _ _ _ _ _ => False
  | n + 1 => j_Ans_countStretches_142 post rec65 (wl_Ans_countStretches_142 post rec65 n)
set_option maxHeartbeats 4000000 in
set_option maxRecDepth 100000 in
theorem tl_Ans_countStretches_142 {p : Program} {l : Launch} {e : Env} {R : Room} {s : State} {m : MethodId} {args : Array Value} {below : List Frame} {meth : Method} {c : Code} {cells slots : Nat} {Q : State → Prop} {dC : Nat → ClassId} {dI : Nat → Nat → Nat} {cI cB cJ cZ : ClassId} {A : Nat → Prop} {ad : Nat → Nat} {NN : Nat} {E : Heap} {tM tC : Nat} {kK kV : Nat → Nat} {post : St → Prop} {rec65 : Nat → Int32 → Int32 → Int32 → Int32 → Int32 → St → Prop} (hx : p.tables.exec = Jvm.exec) (hb : c.code = b_Ans_countStretches) (hml : c.maxLocals = 7) (hown : s.vm.findClass R_Ans = some m.cls) (hT : ∀ w ∈ TG, w.before args s = true) (hK : va_K (dC, dI) CL (TY cI cB cJ cZ) s) (hN : NW s) (hA : ∀ q : Nat, s.heap.size ≤ q → A q) (hRc : cells ≤ R.cells) (hRs : slots ≤ R.slots) (hRf : 6 ≤ R.frames) (hRl : 224 ≤ R.locals) (hNN : 152 ≤ NN) (hE : CE E tM tC kK kV A s) (hret : ∀ (x : St) (H : Heap) (locs : List Loc) (pc : Nat) (ls : Array Slot), decode b_Ans_countStretches pc = .ok (.return_, 1) → post x → Wd dC dI cI cB cJ cZ ad stC kcC NN A x H → va_S A s.heap H locs → W p l e R s m args below meth c H locs cells slots Q (F0 m pc ls [])) (hrec65 : ∀ (o : Nat) (l1 : Int32) (l2 : Int32) (l3 : Int32) (l4 : Int32) (l5 : Int32) (x : St) (H : Heap) (locs : List Loc) (ls : Array Slot), (o < NN ∧ kcC o = 10) → rec65 o l1 l2 l3 l4 l5 x → Wd dC dI cI cB cJ cZ ad stC kcC NN A x H → va_S A s.heap H locs → lv_has ls 7 [(0, .ref (ad o)), (1, .int l1), (2, .int l2), (3, .int l3), (4, .int l4), (5, .int l5)] → W p l e R s m args below meth c H locs cells slots Q (F0 m 65 ls [])) : ∀ n : Nat, ∀ (o : Nat) (l1 : Int32) (l2 : Int32) (l3 : Int32) (l4 : Int32) (l5 : Int32) (l6 : Int32) (x : St) (H : Heap) (locs : List Loc) (ls : Array Slot), (o < NN ∧ kcC o = 10) → wl_Ans_countStretches_142 post rec65 n o l1 l2 l3 l4 l5 l6 x → Wd dC dI cI cB cJ cZ ad stC kcC NN A x H → va_S A s.heap H locs → lv_has ls 7 [(0, .ref (ad o)), (1, .int l1), (2, .int l2), (3, .int l3), (4, .int l4), (5, .int l5), (6, .int l6)] → W p l e R s m args below meth c H locs cells slots Q (F0 m 142 ls []) := by
  intro n
  induction n with
  | zero => intro o l1 l2 l3 l4 l5 l6 x H locs ls fo hw; exact hw.elim
  | succ n ih => intro o l1 l2 l3 l4 l5 l6 x H locs ls fo hw hW hS hl; exact t_Ans_countStretches_142 hx hb hml hown hT hK hN hA hRc hRs hRf hRl hNN hE hret hrec65 ih o l1 l2 l3 l4 l5 l6 x H locs ls fo hw hW hS hl
set_option maxRecDepth 100000 in
def j_Ans_countStretches_133 (post : St → Prop) (rec65 : Nat → Int32 → Int32 → Int32 → Int32 → Int32 → St → Prop) (rec103 : Nat → Int32 → Int32 → Int32 → Int32 → Int32 → Int32 → St → Prop) (o : Nat) (l1 : Int32) (l2 : Int32) (l3 : Int32) (l4 : Int32) (l5 : Int32) (l6 : Int32) (x : St) : Prop := rec103 o l1 l2 l3 l4 l5 (l6 + 1) x
set_option maxHeartbeats 4000000 in
set_option maxRecDepth 100000 in
theorem t_Ans_countStretches_133 {p : Program} {l : Launch} {e : Env} {R : Room} {s : State} {m : MethodId} {args : Array Value} {below : List Frame} {meth : Method} {c : Code} {cells slots : Nat} {Q : State → Prop} {dC : Nat → ClassId} {dI : Nat → Nat → Nat} {cI cB cJ cZ : ClassId} {A : Nat → Prop} {ad : Nat → Nat} {NN : Nat} {E : Heap} {tM tC : Nat} {kK kV : Nat → Nat} {post : St → Prop} {rec65 : Nat → Int32 → Int32 → Int32 → Int32 → Int32 → St → Prop} {rec103 : Nat → Int32 → Int32 → Int32 → Int32 → Int32 → Int32 → St → Prop} (hx : p.tables.exec = Jvm.exec) (hb : c.code = b_Ans_countStretches) (hml : c.maxLocals = 7) (hown : s.vm.findClass R_Ans = some m.cls) (hT : ∀ w ∈ TG, w.before args s = true) (hK : va_K (dC, dI) CL (TY cI cB cJ cZ) s) (hN : NW s) (hA : ∀ q : Nat, s.heap.size ≤ q → A q) (hRc : cells ≤ R.cells) (hRs : slots ≤ R.slots) (hRf : 6 ≤ R.frames) (hRl : 224 ≤ R.locals) (hNN : 152 ≤ NN) (hE : CE E tM tC kK kV A s) (hret : ∀ (x : St) (H : Heap) (locs : List Loc) (pc : Nat) (ls : Array Slot), decode b_Ans_countStretches pc = .ok (.return_, 1) → post x → Wd dC dI cI cB cJ cZ ad stC kcC NN A x H → va_S A s.heap H locs → W p l e R s m args below meth c H locs cells slots Q (F0 m pc ls [])) (hrec65 : ∀ (o : Nat) (l1 : Int32) (l2 : Int32) (l3 : Int32) (l4 : Int32) (l5 : Int32) (x : St) (H : Heap) (locs : List Loc) (ls : Array Slot), (o < NN ∧ kcC o = 10) → rec65 o l1 l2 l3 l4 l5 x → Wd dC dI cI cB cJ cZ ad stC kcC NN A x H → va_S A s.heap H locs → lv_has ls 7 [(0, .ref (ad o)), (1, .int l1), (2, .int l2), (3, .int l3), (4, .int l4), (5, .int l5)] → W p l e R s m args below meth c H locs cells slots Q (F0 m 65 ls [])) (hrec103 : ∀ (o : Nat) (l1 : Int32) (l2 : Int32) (l3 : Int32) (l4 : Int32) (l5 : Int32) (l6 : Int32) (x : St) (H : Heap) (locs : List Loc) (ls : Array Slot), (o < NN ∧ kcC o = 10) → rec103 o l1 l2 l3 l4 l5 l6 x → Wd dC dI cI cB cJ cZ ad stC kcC NN A x H → va_S A s.heap H locs → lv_has ls 7 [(0, .ref (ad o)), (1, .int l1), (2, .int l2), (3, .int l3), (4, .int l4), (5, .int l5), (6, .int l6)] → W p l e R s m args below meth c H locs cells slots Q (F0 m 103 ls [])) : ∀ (o : Nat) (l1 : Int32) (l2 : Int32) (l3 : Int32) (l4 : Int32) (l5 : Int32) (l6 : Int32) (x : St) (H : Heap) (locs : List Loc) (ls : Array Slot), (o < NN ∧ kcC o = 10) → j_Ans_countStretches_133 post rec65 rec103 o l1 l2 l3 l4 l5 l6 x → Wd dC dI cI cB cJ cZ ad stC kcC NN A x H → va_S A s.heap H locs → lv_has ls 7 [(0, .ref (ad o)), (1, .int l1), (2, .int l2), (3, .int l3), (4, .int l4), (5, .int l5), (6, .int l6)] → W p l e R s m args below meth c H locs cells slots Q (F0 m 133 ls []) := by
  intro o l1 l2 l3 l4 l5 l6 x H locs ls fo hw hW hS hl
  unfold j_Ans_countStretches_133 at hw
  refine lv_iinc (v := (l6 + 1)) (lv' := [(6, .int (l6 + 1)), (0, .ref (ad o)), (1, .int l1), (2, .int l2), (3, .int l3), (4, .int l4), (5, .int l5)]) hx hb d_Ans_countStretches_133 hl (k := 6) rfl rfl (by decide) rfl (fun ls hl => ?_)
  refine lv_goto (tgt := 103) hx hb d_Ans_countStretches_136 (by decide) ?_
  exact hrec103 o l1 l2 l3 l4 l5 (l6 + 1) x H locs ls fo hw hW hS (lv_sub hl [1, 2, 3, 4, 5, 6, 0] rfl)
set_option maxRecDepth 100000 in
def j_Ans_countStretches_103 (post : St → Prop) (rec65 : Nat → Int32 → Int32 → Int32 → Int32 → Int32 → St → Prop) (rec103 : Nat → Int32 → Int32 → Int32 → Int32 → Int32 → Int32 → St → Prop) (o : Nat) (l1 : Int32) (l2 : Int32) (l3 : Int32) (l4 : Int32) (l5 : Int32) (l6 : Int32) (x : St) : Prop := ((l2 ≤ l6 → ∃ n : Nat, wl_Ans_countStretches_142 post rec65 n o l1 l2 l3 l4 l5 0 x) ∧ (¬ l2 ≤ l6 → (vp_in l6 (fN x (stC o 13)) ∧ (((rA x (stC o 13) l6) = 0 → j_Ans_countStretches_133 post rec65 rec103 o l1 l2 l3 l4 l5 l6 x) ∧ (¬ (rA x (stC o 13) l6) = 0 → wp_Ans_pageEnd (fun (r5104 : Int32) (x5103 : St) => (∀ v5105 : Int32, v5105 = (if r5104 < l4 then r5104 else l4) → j_Ans_countStretches_133 post rec65 rec103 o l1 l2 l3 v5105 l5 l6 x5103)) o l1 l6 x)))))
set_option maxHeartbeats 4000000 in
set_option maxRecDepth 100000 in
theorem t_Ans_countStretches_103 {p : Program} {l : Launch} {e : Env} {R : Room} {s : State} {m : MethodId} {args : Array Value} {below : List Frame} {meth : Method} {c : Code} {cells slots : Nat} {Q : State → Prop} {dC : Nat → ClassId} {dI : Nat → Nat → Nat} {cI cB cJ cZ : ClassId} {A : Nat → Prop} {ad : Nat → Nat} {NN : Nat} {E : Heap} {tM tC : Nat} {kK kV : Nat → Nat} {post : St → Prop} {rec65 : Nat → Int32 → Int32 → Int32 → Int32 → Int32 → St → Prop} {rec103 : Nat → Int32 → Int32 → Int32 → Int32 → Int32 → Int32 → St → Prop} (hx : p.tables.exec = Jvm.exec) (hb : c.code = b_Ans_countStretches) (hml : c.maxLocals = 7) (hown : s.vm.findClass R_Ans = some m.cls) (hT : ∀ w ∈ TG, w.before args s = true) (hK : va_K (dC, dI) CL (TY cI cB cJ cZ) s) (hN : NW s) (hA : ∀ q : Nat, s.heap.size ≤ q → A q) (hRc : cells ≤ R.cells) (hRs : slots ≤ R.slots) (hRf : 6 ≤ R.frames) (hRl : 224 ≤ R.locals) (hNN : 152 ≤ NN) (hE : CE E tM tC kK kV A s) (hret : ∀ (x : St) (H : Heap) (locs : List Loc) (pc : Nat) (ls : Array Slot), decode b_Ans_countStretches pc = .ok (.return_, 1) → post x → Wd dC dI cI cB cJ cZ ad stC kcC NN A x H → va_S A s.heap H locs → W p l e R s m args below meth c H locs cells slots Q (F0 m pc ls [])) (hrec65 : ∀ (o : Nat) (l1 : Int32) (l2 : Int32) (l3 : Int32) (l4 : Int32) (l5 : Int32) (x : St) (H : Heap) (locs : List Loc) (ls : Array Slot), (o < NN ∧ kcC o = 10) → rec65 o l1 l2 l3 l4 l5 x → Wd dC dI cI cB cJ cZ ad stC kcC NN A x H → va_S A s.heap H locs → lv_has ls 7 [(0, .ref (ad o)), (1, .int l1), (2, .int l2), (3, .int l3), (4, .int l4), (5, .int l5)] → W p l e R s m args below meth c H locs cells slots Q (F0 m 65 ls [])) (hrec103 : ∀ (o : Nat) (l1 : Int32) (l2 : Int32) (l3 : Int32) (l4 : Int32) (l5 : Int32) (l6 : Int32) (x : St) (H : Heap) (locs : List Loc) (ls : Array Slot), (o < NN ∧ kcC o = 10) → rec103 o l1 l2 l3 l4 l5 l6 x → Wd dC dI cI cB cJ cZ ad stC kcC NN A x H → va_S A s.heap H locs → lv_has ls 7 [(0, .ref (ad o)), (1, .int l1), (2, .int l2), (3, .int l3), (4, .int l4), (5, .int l5), (6, .int l6)] → W p l e R s m args below meth c H locs cells slots Q (F0 m 103 ls [])) : ∀ (o : Nat) (l1 : Int32) (l2 : Int32) (l3 : Int32) (l4 : Int32) (l5 : Int32) (l6 : Int32) (x : St) (H : Heap) (locs : List Loc) (ls : Array Slot), (o < NN ∧ kcC o = 10) → j_Ans_countStretches_103 post rec65 rec103 o l1 l2 l3 l4 l5 l6 x → Wd dC dI cI cB cJ cZ ad stC kcC NN A x H → va_S A s.heap H locs → lv_has ls 7 [(0, .ref (ad o)), (1, .int l1), (2, .int l2), (3, .int l3), (4, .int l4), (5, .int l5), (6, .int l6)] → W p l e R s m args below meth c H locs cells slots Q (F0 m 103 ls []) := by
  intro o l1 l2 l3 l4 l5 l6 x H locs ls fo hw hW hS hl
  unfold j_Ans_countStretches_103 at hw
  refine lv_iload hx hb d_Ans_countStretches_103 (lv_at hl 6 rfl) ?_
  refine lv_iload_n hx hb d_Ans_countStretches_105 rfl (lv_at hl 2 rfl) ?_
  refine lv_icmp_ge (tgt := 139) hx hb d_Ans_countStretches_106 (by decide) (fun c5101 => ?_) (fun c5101 => ?_)
  · have hw := hw.1 c5101
    refine lv_iconst (v := 0) hx hb d_Ans_countStretches_139 (by decide) ?_
    refine lv_istore (lv' := [(6, .int 0), (0, .ref (ad o)), (1, .int l1), (2, .int l2), (3, .int l3), (4, .int l4), (5, .int l5)]) hx hb d_Ans_countStretches_140 hl (by decide) rfl (fun ls hl => ?_)
    obtain ⟨n, hw⟩ := hw
    exact tl_Ans_countStretches_142 hx hb hml hown hT hK hN hA hRc hRs hRf hRl hNN hE hret hrec65 n o l1 l2 l3 l4 l5 0 x H locs ls fo hw hW hS (lv_sub hl [1, 2, 3, 4, 5, 6, 0] rfl)
  · have hw := hw.2 c5101
    refine lv_aload_n hx hb d_Ans_countStretches_109 rfl (lv_at hl 0 rfl) ?_
    refine w_getf (q := (stC o 13)) (k := 13) (t := 10) (C := R_Ans) (T := F_Ans) (N := 16) hx hb hT hown hK hW fo.1 fo.2 (by decide) in_Ans rfl rfl (by decide) rfl fr_Ans_13 w_3_175 d_Ans_countStretches_110 rfl ?_
    refine lv_iload hx hb d_Ans_countStretches_113 (lv_at hl 6 rfl) ?_
    obtain ⟨hi, hw⟩ := hw
    refine w_zald (o := (stC o 13)) hx hb hK hW (st_ty hNN fo.1 fo.2 rfl).1 (st_ty hNN fo.1 fo.2 rfl).2 hi d_Ans_countStretches_115 ?_
    refine lv_if_eq (tgt := 133) hx hb d_Ans_countStretches_116 (by decide) (fun c5102 => ?_) (fun c5102 => ?_)
    · have hw := hw.1 c5102
      exact t_Ans_countStretches_133 hx hb hml hown hT hK hN hA hRc hRs hRf hRl hNN hE hret hrec65 hrec103 o l1 l2 l3 l4 l5 l6 x H locs ls fo hw hW hS (lv_sub hl [0, 1, 2, 3, 4, 5, 6] rfl)
    · have hw := hw.2 c5102
      refine lv_iload hx hb d_Ans_countStretches_119 (lv_at hl 4 rfl) ?_
      refine lv_aload_n hx hb d_Ans_countStretches_121 rfl (lv_at hl 0 rfl) ?_
      refine lv_iload_n hx hb d_Ans_countStretches_122 rfl (lv_at hl 1 rfl) ?_
      refine lv_iload hx hb d_Ans_countStretches_123 (lv_at hl 6 rfl) ?_
      have hF := hW.free hS hA
      refine va_calli (va_runV (C := R_Ans) (As := [.int l1, .int l6]) (rest := [.int l4]) ⟨hx, hb, hml, hown, hT⟩ (k_Ans_pageEnd l dC dI cI cB cJ cZ ad NN E tM tC kK kV hNN H.size o l1 l6 x fo hw) ⟨callB_of 2 hT (gw_in w_8_129) rfl rfl rfl (hT _ w_1_13) (hT _ w_8_126) (by decide +kernel) ⟨Nat.le_trans (by decide) hRf, Nat.le_trans (by decide) hRl⟩, hT _ w_8_128, hT _ ws_107⟩ ⟨PV.blind, va_recv hK hW.1 (ci := 10) (q0 := o) rfl (pic_obj fo.1 fo.2 (by decide)), PV.at _ hW hK hN hE hS hF⟩ rfl rfl hl.1 rfl (lv_room (Nat.le_of_ble_eq_true rfl)) d_Ans_countStretches_125 ⟨hRc, hRs⟩) hS (fun q _ h => hF q h) hF (fun r5104 x5103 t H locs ht hvm hw hB hz1 hk1 hS => ?_)
      have hW := Wd.back hB ht hF
      clear hB ht hF hz1 hk1 hvm
      refine va_mmin hx hb (hml.trans hl.1.symm) hown (hT _ w_8_130) (hT _ w_1_38) (hT _ w_1_3) (hT _ w_1_39) (Nat.le_trans (by decide) hRf) (Nat.le_trans (Nat.le_of_ble_eq_true rfl) hRl) hRc hRs d_Ans_countStretches_128 ?_
      refine lv_topi (fun v5105 ev5105 => ?_)
      have hw := hw v5105 ev5105
      refine lv_istore (lv' := [(4, .int v5105), (0, .ref (ad o)), (1, .int l1), (2, .int l2), (3, .int l3), (5, .int l5), (6, .int l6)]) hx hb d_Ans_countStretches_131 hl (by decide) rfl (fun ls hl => ?_)
      exact t_Ans_countStretches_133 hx hb hml hown hT hK hN hA hRc hRs hRf hRl hNN hE hret hrec65 hrec103 o l1 l2 l3 v5105 l5 l6 x5103 H locs ls fo hw hW hS (lv_sub hl [1, 2, 3, 4, 0, 5, 6] rfl)
def wl_Ans_countStretches_103 (post : St → Prop) (rec65 : Nat → Int32 → Int32 → Int32 → Int32 → Int32 → St → Prop) : Nat → Nat → Int32 → Int32 → Int32 → Int32 → Int32 → Int32 → St → Prop
  | 0 => fun _ _ _ _ _ _ _ _ => False
  | n + 1 => j_Ans_countStretches_103 post rec65 (wl_Ans_countStretches_103 post rec65 n)
set_option maxHeartbeats 4000000 in
set_option maxRecDepth 100000 in
theorem tl_Ans_countStretches_103 {p : Program} {l : Launch} {e : Env} {R : Room} {s : State} {m : MethodId} {args : Array Value} {below : List Frame} {meth : Method} {c : Code} {cells slots : Nat} {Q : State → Prop} {dC : Nat → ClassId} {dI : Nat → Nat → Nat} {cI cB cJ cZ : ClassId} {A : Nat → Prop} {ad : Nat → Nat} {NN : Nat} {E : Heap} {tM tC : Nat} {kK kV : Nat → Nat} {post : St → Prop} {rec65 : Nat → Int32 → Int32 → Int32 → Int32 → Int32 → St → Prop} (hx : p.tables.exec = Jvm.exec) (hb : c.code = b_Ans_countStretches) (hml : c.maxLocals = 7) (hown : s.vm.findClass R_Ans = some m.cls) (hT : ∀ w ∈ TG, w.before args s = true) (hK : va_K (dC, dI) CL (TY cI cB cJ cZ) s) (hN : NW s) (hA : ∀ q : Nat, s.heap.size ≤ q → A q) (hRc : cells ≤ R.cells) (hRs : slots ≤ R.slots) (hRf : 6 ≤ R.frames) (hRl : 224 ≤ R.locals) (hNN : 152 ≤ NN) (hE : CE E tM tC kK kV A s) (hret : ∀ (x : St) (H : Heap) (locs : List Loc) (pc : Nat) (ls : Array Slot), decode b_Ans_countStretches pc = .ok (.return_, 1) → post x → Wd dC dI cI cB cJ cZ ad stC kcC NN A x H → va_S A s.heap H locs → W p l e R s m args below meth c H locs cells slots Q (F0 m pc ls [])) (hrec65 : ∀ (o : Nat) (l1 : Int32) (l2 : Int32) (l3 : Int32) (l4 : Int32) (l5 : Int32) (x : St) (H : Heap) (locs : List Loc) (ls : Array Slot), (o < NN ∧ kcC o = 10) → rec65 o l1 l2 l3 l4 l5 x → Wd dC dI cI cB cJ cZ ad stC kcC NN A x H → va_S A s.heap H locs → lv_has ls 7 [(0, .ref (ad o)), (1, .int l1), (2, .int l2), (3, .int l3), (4, .int l4), (5, .int l5)] → W p l e R s m args below meth c H locs cells slots Q (F0 m 65 ls [])) : ∀ n : Nat, ∀ (o : Nat) (l1 : Int32) (l2 : Int32) (l3 : Int32) (l4 : Int32) (l5 : Int32) (l6 : Int32) (x : St) (H : Heap) (locs : List Loc) (ls : Array Slot), (o < NN ∧ kcC o = 10) → wl_Ans_countStretches_103 post rec65 n o l1 l2 l3 l4 l5 l6 x → Wd dC dI cI cB cJ cZ ad stC kcC NN A x H → va_S A s.heap H locs → lv_has ls 7 [(0, .ref (ad o)), (1, .int l1), (2, .int l2), (3, .int l3), (4, .int l4), (5, .int l5), (6, .int l6)] → W p l e R s m args below meth c H locs cells slots Q (F0 m 103 ls []) := by
  intro n
  induction n with
  | zero => intro o l1 l2 l3 l4 l5 l6 x H locs ls fo hw; exact hw.elim
  | succ n ih => intro o l1 l2 l3 l4 l5 l6 x H locs ls fo hw hW hS hl; exact t_Ans_countStretches_103 hx hb hml hown hT hK hN hA hRc hRs hRf hRl hNN hE hret hrec65 ih o l1 l2 l3 l4 l5 l6 x H locs ls fo hw hW hS hl
set_option maxRecDepth 100000 in
def j_Ans_countStretches_97 (post : St → Prop) (rec65 : Nat → Int32 → Int32 → Int32 → Int32 → Int32 → St → Prop) (o : Nat) (l1 : Int32) (l2 : Int32) (l3 : Int32) (l4 : Int32) (l5 : Int32) (x : St) : Prop := ∃ n : Nat, wl_Ans_countStretches_103 post rec65 n o l1 l2 l3 l3 l5 0 x
set_option maxHeartbeats 4000000 in
set_option maxRecDepth 100000 in
theorem t_Ans_countStretches_97 {p : Program} {l : Launch} {e : Env} {R : Room} {s : State} {m : MethodId} {args : Array Value} {below : List Frame} {meth : Method} {c : Code} {cells slots : Nat} {Q : State → Prop} {dC : Nat → ClassId} {dI : Nat → Nat → Nat} {cI cB cJ cZ : ClassId} {A : Nat → Prop} {ad : Nat → Nat} {NN : Nat} {E : Heap} {tM tC : Nat} {kK kV : Nat → Nat} {post : St → Prop} {rec65 : Nat → Int32 → Int32 → Int32 → Int32 → Int32 → St → Prop} (hx : p.tables.exec = Jvm.exec) (hb : c.code = b_Ans_countStretches) (hml : c.maxLocals = 7) (hown : s.vm.findClass R_Ans = some m.cls) (hT : ∀ w ∈ TG, w.before args s = true) (hK : va_K (dC, dI) CL (TY cI cB cJ cZ) s) (hN : NW s) (hA : ∀ q : Nat, s.heap.size ≤ q → A q) (hRc : cells ≤ R.cells) (hRs : slots ≤ R.slots) (hRf : 6 ≤ R.frames) (hRl : 224 ≤ R.locals) (hNN : 152 ≤ NN) (hE : CE E tM tC kK kV A s) (hret : ∀ (x : St) (H : Heap) (locs : List Loc) (pc : Nat) (ls : Array Slot), decode b_Ans_countStretches pc = .ok (.return_, 1) → post x → Wd dC dI cI cB cJ cZ ad stC kcC NN A x H → va_S A s.heap H locs → W p l e R s m args below meth c H locs cells slots Q (F0 m pc ls [])) (hrec65 : ∀ (o : Nat) (l1 : Int32) (l2 : Int32) (l3 : Int32) (l4 : Int32) (l5 : Int32) (x : St) (H : Heap) (locs : List Loc) (ls : Array Slot), (o < NN ∧ kcC o = 10) → rec65 o l1 l2 l3 l4 l5 x → Wd dC dI cI cB cJ cZ ad stC kcC NN A x H → va_S A s.heap H locs → lv_has ls 7 [(0, .ref (ad o)), (1, .int l1), (2, .int l2), (3, .int l3), (4, .int l4), (5, .int l5)] → W p l e R s m args below meth c H locs cells slots Q (F0 m 65 ls [])) : ∀ (o : Nat) (l1 : Int32) (l2 : Int32) (l3 : Int32) (l4 : Int32) (l5 : Int32) (x : St) (H : Heap) (locs : List Loc) (ls : Array Slot), (o < NN ∧ kcC o = 10) → j_Ans_countStretches_97 post rec65 o l1 l2 l3 l4 l5 x → Wd dC dI cI cB cJ cZ ad stC kcC NN A x H → va_S A s.heap H locs → lv_has ls 7 [(0, .ref (ad o)), (1, .int l1), (2, .int l2), (3, .int l3), (4, .int l4), (5, .int l5)] → W p l e R s m args below meth c H locs cells slots Q (F0 m 97 ls []) := by
  intro o l1 l2 l3 l4 l5 x H locs ls fo hw hW hS hl
  unfold j_Ans_countStretches_97 at hw
  refine lv_iload_n hx hb d_Ans_countStretches_97 rfl (lv_at hl 3 rfl) ?_
  refine lv_istore (lv' := [(4, .int l3), (0, .ref (ad o)), (1, .int l1), (2, .int l2), (3, .int l3), (5, .int l5)]) hx hb d_Ans_countStretches_98 hl (by decide) rfl (fun ls hl => ?_)
  refine lv_iconst (v := 0) hx hb d_Ans_countStretches_100 (by decide) ?_
  refine lv_istore (lv' := [(6, .int 0), (4, .int l3), (0, .ref (ad o)), (1, .int l1), (2, .int l2), (3, .int l3), (5, .int l5)]) hx hb d_Ans_countStretches_101 hl (by decide) rfl (fun ls hl => ?_)
  obtain ⟨n, hw⟩ := hw
  exact tl_Ans_countStretches_103 hx hb hml hown hT hK hN hA hRc hRs hRf hRl hNN hE hret hrec65 n o l1 l2 l3 l3 l5 0 x H locs ls fo hw hW hS (lv_sub hl [2, 3, 4, 5, 1, 6, 0] rfl)
set_option maxRecDepth 100000 in
def j_Ans_countStretches_65 (post : St → Prop) (rec65 : Nat → Int32 → Int32 → Int32 → Int32 → Int32 → St → Prop) (o : Nat) (l1 : Int32) (l2 : Int32) (l3 : Int32) (l4 : Int32) (l5 : Int32) (x : St) : Prop := ((l3 ≤ l5 → post x) ∧ (¬ l3 ≤ l5 → ((l3 ≤ l4 → post x) ∧ (¬ l3 ≤ l4 → wp_Ans_truthsOf (fun (r5109 : Int32) (x5108 : St) => ((¬ (r5109 &&& 2) = 0 → j_Ans_countStretches_97 post rec65 o l1 l2 l3 l4 l5 x5108) ∧ ((r5109 &&& 2) = 0 → (∀ x5111 : St, x5111 = setI x5108 o 3 ((fI x5108 o 3) + 1) → j_Ans_countStretches_97 post rec65 o l1 l2 l3 l4 l5 x5111)))) o (-1) x))))
set_option maxHeartbeats 4000000 in
set_option maxRecDepth 100000 in
theorem t_Ans_countStretches_65 {p : Program} {l : Launch} {e : Env} {R : Room} {s : State} {m : MethodId} {args : Array Value} {below : List Frame} {meth : Method} {c : Code} {cells slots : Nat} {Q : State → Prop} {dC : Nat → ClassId} {dI : Nat → Nat → Nat} {cI cB cJ cZ : ClassId} {A : Nat → Prop} {ad : Nat → Nat} {NN : Nat} {E : Heap} {tM tC : Nat} {kK kV : Nat → Nat} {post : St → Prop} {rec65 : Nat → Int32 → Int32 → Int32 → Int32 → Int32 → St → Prop} (hx : p.tables.exec = Jvm.exec) (hb : c.code = b_Ans_countStretches) (hml : c.maxLocals = 7) (hown : s.vm.findClass R_Ans = some m.cls) (hT : ∀ w ∈ TG, w.before args s = true) (hK : va_K (dC, dI) CL (TY cI cB cJ cZ) s) (hN : NW s) (hA : ∀ q : Nat, s.heap.size ≤ q → A q) (hRc : cells ≤ R.cells) (hRs : slots ≤ R.slots) (hRf : 6 ≤ R.frames) (hRl : 224 ≤ R.locals) (hNN : 152 ≤ NN) (hE : CE E tM tC kK kV A s) (hret : ∀ (x : St) (H : Heap) (locs : List Loc) (pc : Nat) (ls : Array Slot), decode b_Ans_countStretches pc = .ok (.return_, 1) → post x → Wd dC dI cI cB cJ cZ ad stC kcC NN A x H → va_S A s.heap H locs → W p l e R s m args below meth c H locs cells slots Q (F0 m pc ls [])) (hrec65 : ∀ (o : Nat) (l1 : Int32) (l2 : Int32) (l3 : Int32) (l4 : Int32) (l5 : Int32) (x : St) (H : Heap) (locs : List Loc) (ls : Array Slot), (o < NN ∧ kcC o = 10) → rec65 o l1 l2 l3 l4 l5 x → Wd dC dI cI cB cJ cZ ad stC kcC NN A x H → va_S A s.heap H locs → lv_has ls 7 [(0, .ref (ad o)), (1, .int l1), (2, .int l2), (3, .int l3), (4, .int l4), (5, .int l5)] → W p l e R s m args below meth c H locs cells slots Q (F0 m 65 ls [])) : ∀ (o : Nat) (l1 : Int32) (l2 : Int32) (l3 : Int32) (l4 : Int32) (l5 : Int32) (x : St) (H : Heap) (locs : List Loc) (ls : Array Slot), (o < NN ∧ kcC o = 10) → j_Ans_countStretches_65 post rec65 o l1 l2 l3 l4 l5 x → Wd dC dI cI cB cJ cZ ad stC kcC NN A x H → va_S A s.heap H locs → lv_has ls 7 [(0, .ref (ad o)), (1, .int l1), (2, .int l2), (3, .int l3), (4, .int l4), (5, .int l5)] → W p l e R s m args below meth c H locs cells slots Q (F0 m 65 ls []) := by
  intro o l1 l2 l3 l4 l5 x H locs ls fo hw hW hS hl
  unfold j_Ans_countStretches_65 at hw
  refine lv_iload hx hb d_Ans_countStretches_65 (lv_at hl 5 rfl) ?_
  refine lv_iload_n hx hb d_Ans_countStretches_67 rfl (lv_at hl 3 rfl) ?_
  refine lv_icmp_ge (tgt := 199) hx hb d_Ans_countStretches_68 (by decide) (fun c5106 => ?_) (fun c5106 => ?_)
  · have hw := hw.1 c5106
    exact hret x H locs 199 ls d_Ans_countStretches_199 hw hW hS
  · have hw := hw.2 c5106
    refine lv_iload hx hb d_Ans_countStretches_71 (lv_at hl 4 rfl) ?_
    refine lv_iload_n hx hb d_Ans_countStretches_73 rfl (lv_at hl 3 rfl) ?_
    refine lv_icmp_ge (tgt := 199) hx hb d_Ans_countStretches_74 (by decide) (fun c5107 => ?_) (fun c5107 => ?_)
    · have hw := hw.1 c5107
      exact hret x H locs 199 ls d_Ans_countStretches_199 hw hW hS
    · have hw := hw.2 c5107
      refine lv_aload_n hx hb d_Ans_countStretches_77 rfl (lv_at hl 0 rfl) ?_
      refine lv_iconst (v := (-1)) hx hb d_Ans_countStretches_78 (by decide) ?_
      have hF := hW.free hS hA
      refine va_calli (va_runV (C := R_Ans) (As := [.int (-1)]) (rest := []) ⟨hx, hb, hml, hown, hT⟩ (k_Ans_truthsOf l dC dI cI cB cJ cZ ad NN E tM tC kK kV hNN H.size o (-1) x fo hw) ⟨callB_of 1 hT (gw_in w_8_38) rfl rfl rfl (hT _ w_1_13) (hT _ w_8_35) (by decide +kernel) ⟨Nat.le_trans (by decide) hRf, Nat.le_trans (by decide) hRl⟩, hT _ w_8_37, hT _ ws_89⟩ ⟨PV.blind, va_recv hK hW.1 (ci := 10) (q0 := o) rfl (pic_obj fo.1 fo.2 (by decide)), PV.at _ hW hK hN hE hS hF⟩ rfl rfl hl.1 rfl (lv_room (Nat.le_of_ble_eq_true rfl)) d_Ans_countStretches_79 ⟨hRc, hRs⟩) hS (fun q _ h => hF q h) hF (fun r5109 x5108 t H locs ht hvm hw hB hz1 hk1 hS => ?_)
      have hW := Wd.back hB ht hF
      clear hB ht hF hz1 hk1 hvm
      refine lv_iconst (v := 2) hx hb d_Ans_countStretches_82 (by decide) ?_
      refine lv_iand hx hb d_Ans_countStretches_83 ?_
      refine lv_if_ne (tgt := 97) hx hb d_Ans_countStretches_84 (by decide) (fun c5110 => ?_) (fun c5110 => ?_)
      · have hw := hw.1 c5110
        exact t_Ans_countStretches_97 hx hb hml hown hT hK hN hA hRc hRs hRf hRl hNN hE hret hrec65 o l1 l2 l3 l4 l5 x5108 H locs ls fo hw hW hS (lv_sub hl [0, 1, 2, 3, 4, 5] rfl)
      · have hw := hw.2 c5110
        refine lv_aload_n hx hb d_Ans_countStretches_87 rfl (lv_at hl 0 rfl) ?_
        refine lv_dup hx hb d_Ans_countStretches_88 rfl ?_
        refine w_geti (k := 3) (t := 10) (C := R_Ans) (T := F_Ans) (N := 16) hx hb hT hown hK hW fo.1 fo.2 (by decide) in_Ans rfl rfl (by decide) rfl fr_Ans_3 w_3_161 d_Ans_countStretches_89 ?_
        refine lv_iconst (v := 1) hx hb d_Ans_countStretches_92 (by decide) ?_
        refine lv_iadd hx hb d_Ans_countStretches_93 ?_
        refine w_puti (ty := .int) (k := 3) (t := 10) (C := R_Ans) (T := F_Ans) (N := 16) hx hb hT hown hK hW hS fo.1 fo.2 (by decide) in_Ans t_Ans t_Ans_ok n_Ans rfl rfl (by decide) rfl fr_Ans_3 w_3_161 (by decide +kernel) rfl rfl d_Ans_countStretches_94 (fun H locs hW hS => ?_)
        obtain ⟨x5111, ex5111⟩ : ∃ y : St, y = setI x5108 o 3 ((fI x5108 o 3) + 1) := ⟨_, rfl⟩
        rw [← ex5111] at hW
        have hw := hw x5111 ex5111
        exact t_Ans_countStretches_97 hx hb hml hown hT hK hN hA hRc hRs hRf hRl hNN hE hret hrec65 o l1 l2 l3 l4 l5 x5111 H locs ls fo hw hW hS (lv_sub hl [0, 1, 2, 3, 4, 5] rfl)
def wl_Ans_countStretches_65 (post : St → Prop) : Nat → Nat → Int32 → Int32 → Int32 → Int32 → Int32 → St → Prop
  | 0 => fun _ _ _ _ _ _ _ => False
  | n + 1 => j_Ans_countStretches_65 post (wl_Ans_countStretches_65 post n)
set_option maxHeartbeats 4000000 in
set_option maxRecDepth 100000 in
theorem tl_Ans_countStretches_65 {p : Program} {l : Launch} {e : Env} {R : Room} {s : State} {m : MethodId} {args : Array Value} {below : List Frame} {meth : Method} {c : Code} {cells slots : Nat} {Q : State → Prop} {dC : Nat → ClassId} {dI : Nat → Nat → Nat} {cI cB cJ cZ : ClassId} {A : Nat → Prop} {ad : Nat → Nat} {NN : Nat} {E : Heap} {tM tC : Nat} {kK kV : Nat → Nat} {post : St → Prop} (hx : p.tables.exec = Jvm.exec) (hb : c.code = b_Ans_countStretches) (hml : c.maxLocals = 7) (hown : s.vm.findClass R_Ans = some m.cls) (hT : ∀ w ∈ TG, w.before args s = true) (hK : va_K (dC, dI) CL (TY cI cB cJ cZ) s) (hN : NW s) (hA : ∀ q : Nat, s.heap.size ≤ q → A q) (hRc : cells ≤ R.cells) (hRs : slots ≤ R.slots) (hRf : 6 ≤ R.frames) (hRl : 224 ≤ R.locals) (hNN : 152 ≤ NN) (hE : CE E tM tC kK kV A s) (hret : ∀ (x : St) (H : Heap) (locs : List Loc) (pc : Nat) (ls : Array Slot), decode b_Ans_countStretches pc = .ok (.return_, 1) → post x → Wd dC dI cI cB cJ cZ ad stC kcC NN A x H → va_S A s.heap H locs → W p l e R s m args below meth c H locs cells slots Q (F0 m pc ls []))  : ∀ n : Nat, ∀ (o : Nat) (l1 : Int32) (l2 : Int32) (l3 : Int32) (l4 : Int32) (l5 : Int32) (x : St) (H : Heap) (locs : List Loc) (ls : Array Slot), (o < NN ∧ kcC o = 10) → wl_Ans_countStretches_65 post n o l1 l2 l3 l4 l5 x → Wd dC dI cI cB cJ cZ ad stC kcC NN A x H → va_S A s.heap H locs → lv_has ls 7 [(0, .ref (ad o)), (1, .int l1), (2, .int l2), (3, .int l3), (4, .int l4), (5, .int l5)] → W p l e R s m args below meth c H locs cells slots Q (F0 m 65 ls []) := by
  intro n
  induction n with
  | zero => intro o l1 l2 l3 l4 l5 x H locs ls fo hw; exact hw.elim
  | succ n ih => intro o l1 l2 l3 l4 l5 x H locs ls fo hw hW hS hl; exact t_Ans_countStretches_65 hx hb hml hown hT hK hN hA hRc hRs hRf hRl hNN hE hret  ih o l1 l2 l3 l4 l5 x H locs ls fo hw hW hS hl
set_option maxRecDepth 100000 in
def j_Ans_countStretches_36 (post : St → Prop) (rec36 : Nat → Int32 → Int32 → Int32 → Int32 → St → Prop) (o : Nat) (l1 : Int32) (l2 : Int32) (l3 : Int32) (l4 : Int32) (x : St) : Prop := ((l2 ≤ l4 → ∃ n : Nat, wl_Ans_countStretches_65 post n o l1 l2 l3 0 0 x) ∧ (¬ l2 ≤ l4 → (vp_in l4 (fN x (stC o 12)) ∧ (vp_in l4 (fN x (stC o 12)) ∧ ∀ x5113 : St, x5113 = setA x (stC o 12) l4 ((rA x (stC o 12) l4) + 1) → rec36 o l1 l2 l3 (l4 + 1) x5113))))
set_option maxHeartbeats 4000000 in
set_option maxRecDepth 100000 in
theorem t_Ans_countStretches_36 {p : Program} {l : Launch} {e : Env} {R : Room} {s : State} {m : MethodId} {args : Array Value} {below : List Frame} {meth : Method} {c : Code} {cells slots : Nat} {Q : State → Prop} {dC : Nat → ClassId} {dI : Nat → Nat → Nat} {cI cB cJ cZ : ClassId} {A : Nat → Prop} {ad : Nat → Nat} {NN : Nat} {E : Heap} {tM tC : Nat} {kK kV : Nat → Nat} {post : St → Prop} {rec36 : Nat → Int32 → Int32 → Int32 → Int32 → St → Prop} (hx : p.tables.exec = Jvm.exec) (hb : c.code = b_Ans_countStretches) (hml : c.maxLocals = 7) (hown : s.vm.findClass R_Ans = some m.cls) (hT : ∀ w ∈ TG, w.before args s = true) (hK : va_K (dC, dI) CL (TY cI cB cJ cZ) s) (hN : NW s) (hA : ∀ q : Nat, s.heap.size ≤ q → A q) (hRc : cells ≤ R.cells) (hRs : slots ≤ R.slots) (hRf : 6 ≤ R.frames) (hRl : 224 ≤ R.locals) (hNN : 152 ≤ NN) (hE : CE E tM tC kK kV A s) (hret : ∀ (x : St) (H : Heap) (locs : List Loc) (pc : Nat) (ls : Array Slot), decode b_Ans_countStretches pc = .ok (.return_, 1) → post x → Wd dC dI cI cB cJ cZ ad stC kcC NN A x H → va_S A s.heap H locs → W p l e R s m args below meth c H locs cells slots Q (F0 m pc ls [])) (hrec36 : ∀ (o : Nat) (l1 : Int32) (l2 : Int32) (l3 : Int32) (l4 : Int32) (x : St) (H : Heap) (locs : List Loc) (ls : Array Slot), (o < NN ∧ kcC o = 10) → rec36 o l1 l2 l3 l4 x → Wd dC dI cI cB cJ cZ ad stC kcC NN A x H → va_S A s.heap H locs → lv_has ls 7 [(0, .ref (ad o)), (1, .int l1), (2, .int l2), (3, .int l3), (4, .int l4)] → W p l e R s m args below meth c H locs cells slots Q (F0 m 36 ls [])) : ∀ (o : Nat) (l1 : Int32) (l2 : Int32) (l3 : Int32) (l4 : Int32) (x : St) (H : Heap) (locs : List Loc) (ls : Array Slot), (o < NN ∧ kcC o = 10) → j_Ans_countStretches_36 post rec36 o l1 l2 l3 l4 x → Wd dC dI cI cB cJ cZ ad stC kcC NN A x H → va_S A s.heap H locs → lv_has ls 7 [(0, .ref (ad o)), (1, .int l1), (2, .int l2), (3, .int l3), (4, .int l4)] → W p l e R s m args below meth c H locs cells slots Q (F0 m 36 ls []) := by
  intro o l1 l2 l3 l4 x H locs ls fo hw hW hS hl
  unfold j_Ans_countStretches_36 at hw
  refine lv_iload hx hb d_Ans_countStretches_36 (lv_at hl 4 rfl) ?_
  refine lv_iload_n hx hb d_Ans_countStretches_38 rfl (lv_at hl 2 rfl) ?_
  refine lv_icmp_ge (tgt := 59) hx hb d_Ans_countStretches_39 (by decide) (fun c5112 => ?_) (fun c5112 => ?_)
  · have hw := hw.1 c5112
    refine lv_iconst (v := 0) hx hb d_Ans_countStretches_59 (by decide) ?_
    refine lv_istore (lv' := [(4, .int 0), (0, .ref (ad o)), (1, .int l1), (2, .int l2), (3, .int l3)]) hx hb d_Ans_countStretches_60 hl (by decide) rfl (fun ls hl => ?_)
    refine lv_iconst (v := 0) hx hb d_Ans_countStretches_62 (by decide) ?_
    refine lv_istore (lv' := [(5, .int 0), (4, .int 0), (0, .ref (ad o)), (1, .int l1), (2, .int l2), (3, .int l3)]) hx hb d_Ans_countStretches_63 hl (by decide) rfl (fun ls hl => ?_)
    obtain ⟨n, hw⟩ := hw
    exact tl_Ans_countStretches_65 hx hb hml hown hT hK hN hA hRc hRs hRf hRl hNN hE hret  n o l1 l2 l3 0 0 x H locs ls fo hw hW hS (lv_sub hl [2, 3, 4, 5, 1, 0] rfl)
  · have hw := hw.2 c5112
    refine lv_aload_n hx hb d_Ans_countStretches_42 rfl (lv_at hl 0 rfl) ?_
    refine w_getf (q := (stC o 12)) (k := 12) (t := 10) (C := R_Ans) (T := F_Ans) (N := 16) hx hb hT hown hK hW fo.1 fo.2 (by decide) in_Ans rfl rfl (by decide) rfl fr_Ans_12 w_3_174 d_Ans_countStretches_43 rfl ?_
    refine lv_iload hx hb d_Ans_countStretches_46 (lv_at hl 4 rfl) ?_
    refine lv_dup2_11 hx hb d_Ans_countStretches_48 rfl rfl ?_
    obtain ⟨hi, hw⟩ := hw
    refine w_iald (o := (stC o 12)) hx hb hK hW (st_ty hNN fo.1 fo.2 rfl).1 (st_ty hNN fo.1 fo.2 rfl).2 hi d_Ans_countStretches_49 ?_
    refine lv_iconst (v := 1) hx hb d_Ans_countStretches_50 (by decide) ?_
    refine lv_iadd hx hb d_Ans_countStretches_51 ?_
    obtain ⟨hi, hw⟩ := hw
    refine w_iast (o := (stC o 12)) hx hb hK hW hS (st_ty hNN fo.1 fo.2 rfl).1 (st_ty hNN fo.1 fo.2 rfl).2 hi d_Ans_countStretches_52 (fun H locs hW hS => ?_)
    obtain ⟨x5113, ex5113⟩ : ∃ y : St, y = setA x (stC o 12) l4 ((rA x (stC o 12) l4) + 1) := ⟨_, rfl⟩
    rw [← ex5113] at hW
    have hw := hw x5113 ex5113
    refine lv_iinc (v := (l4 + 1)) (lv' := [(4, .int (l4 + 1)), (0, .ref (ad o)), (1, .int l1), (2, .int l2), (3, .int l3)]) hx hb d_Ans_countStretches_53 hl (k := 4) rfl rfl (by decide) rfl (fun ls hl => ?_)
    refine lv_goto (tgt := 36) hx hb d_Ans_countStretches_56 (by decide) ?_
    exact hrec36 o l1 l2 l3 (l4 + 1) x5113 H locs ls fo hw hW hS (lv_sub hl [1, 2, 3, 4, 0] rfl)
def wl_Ans_countStretches_36 (post : St → Prop) : Nat → Nat → Int32 → Int32 → Int32 → Int32 → St → Prop
  | 0 => fun _ _ _ _ _ _ => False
  | n + 1 => j_Ans_countStretches_36 post (wl_Ans_countStretches_36 post n)
set_option maxHeartbeats 4000000 in
set_option maxRecDepth 100000 in
theorem tl_Ans_countStretches_36 {p : Program} {l : Launch} {e : Env} {R : Room} {s : State} {m : MethodId} {args : Array Value} {below : List Frame} {meth : Method} {c : Code} {cells slots : Nat} {Q : State → Prop} {dC : Nat → ClassId} {dI : Nat → Nat → Nat} {cI cB cJ cZ : ClassId} {A : Nat → Prop} {ad : Nat → Nat} {NN : Nat} {E : Heap} {tM tC : Nat} {kK kV : Nat → Nat} {post : St → Prop} (hx : p.tables.exec = Jvm.exec) (hb : c.code = b_Ans_countStretches) (hml : c.maxLocals = 7) (hown : s.vm.findClass R_Ans = some m.cls) (hT : ∀ w ∈ TG, w.before args s = true) (hK : va_K (dC, dI) CL (TY cI cB cJ cZ) s) (hN : NW s) (hA : ∀ q : Nat, s.heap.size ≤ q → A q) (hRc : cells ≤ R.cells) (hRs : slots ≤ R.slots) (hRf : 6 ≤ R.frames) (hRl : 224 ≤ R.locals) (hNN : 152 ≤ NN) (hE : CE E tM tC kK kV A s) (hret : ∀ (x : St) (H : Heap) (locs : List Loc) (pc : Nat) (ls : Array Slot), decode b_Ans_countStretches pc = .ok (.return_, 1) → post x → Wd dC dI cI cB cJ cZ ad stC kcC NN A x H → va_S A s.heap H locs → W p l e R s m args below meth c H locs cells slots Q (F0 m pc ls []))  : ∀ n : Nat, ∀ (o : Nat) (l1 : Int32) (l2 : Int32) (l3 : Int32) (l4 : Int32) (x : St) (H : Heap) (locs : List Loc) (ls : Array Slot), (o < NN ∧ kcC o = 10) → wl_Ans_countStretches_36 post n o l1 l2 l3 l4 x → Wd dC dI cI cB cJ cZ ad stC kcC NN A x H → va_S A s.heap H locs → lv_has ls 7 [(0, .ref (ad o)), (1, .int l1), (2, .int l2), (3, .int l3), (4, .int l4)] → W p l e R s m args below meth c H locs cells slots Q (F0 m 36 ls []) := by
  intro n
  induction n with
  | zero => intro o l1 l2 l3 l4 x H locs ls fo hw; exact hw.elim
  | succ n ih => intro o l1 l2 l3 l4 x H locs ls fo hw hW hS hl; exact t_Ans_countStretches_36 hx hb hml hown hT hK hN hA hRc hRs hRf hRl hNN hE hret  ih o l1 l2 l3 l4 x H locs ls fo hw hW hS hl
set_option maxRecDepth 100000 in
def wp_Ans_countStretches (post : St → Prop) (o : Nat) (l1 : Int32) (x : St) : Prop := (∃ q5114 : Nat, fR x o 14 = some q5114 ∧ (∀ v5115 : Int32, v5115 = (fI x (stC q5114 5) 1) → (∃ q5116 : Nat, fR x o 14 = some q5116 ∧ (vp_in (l1 + 1) (fN x (stC q5116 11)) ∧ (∃ q5117 : Nat, fR x o 14 = some q5117 ∧ (vp_in l1 (fN x (stC q5117 11)) ∧ (∀ v5118 : Int32, v5118 = ((rA x (stC q5116 11) (l1 + 1)) - (rA x (stC q5117 11) l1)) → ∃ n : Nat, wl_Ans_countStretches_36 post n o l1 v5115 v5118 0 x)))))))
set_option maxHeartbeats 4000000 in
set_option maxRecDepth 100000 in
theorem t_Ans_countStretches_e {p : Program} {l : Launch} {e : Env} {R : Room} {s : State} {m : MethodId} {args : Array Value} {below : List Frame} {meth : Method} {c : Code} {cells slots : Nat} {Q : State → Prop} {dC : Nat → ClassId} {dI : Nat → Nat → Nat} {cI cB cJ cZ : ClassId} {A : Nat → Prop} {ad : Nat → Nat} {NN : Nat} {E : Heap} {tM tC : Nat} {kK kV : Nat → Nat} {post : St → Prop} (hx : p.tables.exec = Jvm.exec) (hb : c.code = b_Ans_countStretches) (hml : c.maxLocals = 7) (hown : s.vm.findClass R_Ans = some m.cls) (hT : ∀ w ∈ TG, w.before args s = true) (hK : va_K (dC, dI) CL (TY cI cB cJ cZ) s) (hN : NW s) (hA : ∀ q : Nat, s.heap.size ≤ q → A q) (hRc : cells ≤ R.cells) (hRs : slots ≤ R.slots) (hRf : 6 ≤ R.frames) (hRl : 224 ≤ R.locals) (hNN : 152 ≤ NN) (hE : CE E tM tC kK kV A s) (hret : ∀ (x : St) (H : Heap) (locs : List Loc) (pc : Nat) (ls : Array Slot), decode b_Ans_countStretches pc = .ok (.return_, 1) → post x → Wd dC dI cI cB cJ cZ ad stC kcC NN A x H → va_S A s.heap H locs → W p l e R s m args below meth c H locs cells slots Q (F0 m pc ls [])) : ∀ (o : Nat) (l1 : Int32) (x : St) (H : Heap) (locs : List Loc) (ls : Array Slot), (o < NN ∧ kcC o = 10) → wp_Ans_countStretches post o l1 x → Wd dC dI cI cB cJ cZ ad stC kcC NN A x H → va_S A s.heap H locs → lv_has ls 7 [(0, .ref (ad o)), (1, .int l1)] → W p l e R s m args below meth c H locs cells slots Q (F0 m 0 ls []) := by
  intro o l1 x H locs ls fo hw hW hS hl
  unfold wp_Ans_countStretches at hw
  refine lv_aload_n hx hb d_Ans_countStretches_0 rfl (lv_at hl 0 rfl) ?_
  obtain ⟨q5114, hq5114, hw⟩ := hw
  refine w_getr (q := q5114) (k := 14) (t := 10) (C := R_Ans) (T := F_Ans) (N := 16) hx hb hT hown hK hW fo.1 fo.2 (by decide) in_Ans rfl rfl (by decide) rfl fr_Ans_14 w_3_176 d_Ans_countStretches_1 hq5114 (fun aq5114 bq5114 => ?_)
  have fq5114 : q5114 < NN ∧ kcC q5114 = 6 := ⟨aq5114, bq5114⟩
  refine w_getf (q := (stC q5114 5)) (k := 5) (t := 6) (C := R_Vlt) (T := F_Vlt) (N := 20) hx hb hT hown hK hW fq5114.1 fq5114.2 (by decide) in_Vlt rfl rfl (by decide) rfl fr_Vlt_5 w_2_137 d_Ans_countStretches_4 rfl ?_
  refine w_geti (k := 1) (t := 3) (C := R_Sch) (T := F_Sch) (N := 13) hx hb hT hown hK hW (st_ty hNN fq5114.1 fq5114.2 rfl).1 (st_ty hNN fq5114.1 fq5114.2 rfl).2 (by decide) in_Sch rfl rfl (by decide) rfl fr_Sch_1 w_1_139 d_Ans_countStretches_7 ?_
  refine lv_topi (fun v5115 ev5115 => ?_)
  have hw := hw v5115 ev5115
  refine lv_istore_n (lv' := [(2, .int v5115), (0, .ref (ad o)), (1, .int l1)]) hx hb d_Ans_countStretches_10 rfl hl (by decide) rfl (fun ls hl => ?_)
  refine lv_aload_n hx hb d_Ans_countStretches_11 rfl (lv_at hl 1 rfl) ?_
  obtain ⟨q5116, hq5116, hw⟩ := hw
  refine w_getr (q := q5116) (k := 14) (t := 10) (C := R_Ans) (T := F_Ans) (N := 16) hx hb hT hown hK hW fo.1 fo.2 (by decide) in_Ans rfl rfl (by decide) rfl fr_Ans_14 w_3_176 d_Ans_countStretches_12 hq5116 (fun aq5116 bq5116 => ?_)
  have fq5116 : q5116 < NN ∧ kcC q5116 = 6 := ⟨aq5116, bq5116⟩
  refine w_getf (q := (stC q5116 11)) (k := 11) (t := 6) (C := R_Vlt) (T := F_Vlt) (N := 20) hx hb hT hown hK hW fq5116.1 fq5116.2 (by decide) in_Vlt rfl rfl (by decide) rfl fr_Vlt_11 w_2_158 d_Ans_countStretches_15 rfl ?_
  refine lv_iload_n hx hb d_Ans_countStretches_18 rfl (lv_at hl 2 rfl) ?_
  refine lv_iconst (v := 1) hx hb d_Ans_countStretches_19 (by decide) ?_
  refine lv_iadd hx hb d_Ans_countStretches_20 ?_
  obtain ⟨hi, hw⟩ := hw
  refine w_iald (o := (stC q5116 11)) hx hb hK hW (st_ty hNN fq5116.1 fq5116.2 rfl).1 (st_ty hNN fq5116.1 fq5116.2 rfl).2 hi d_Ans_countStretches_21 ?_
  refine lv_aload_n hx hb d_Ans_countStretches_22 rfl (lv_at hl 1 rfl) ?_
  obtain ⟨q5117, hq5117, hw⟩ := hw
  refine w_getr (q := q5117) (k := 14) (t := 10) (C := R_Ans) (T := F_Ans) (N := 16) hx hb hT hown hK hW fo.1 fo.2 (by decide) in_Ans rfl rfl (by decide) rfl fr_Ans_14 w_3_176 d_Ans_countStretches_23 hq5117 (fun aq5117 bq5117 => ?_)
  have fq5117 : q5117 < NN ∧ kcC q5117 = 6 := ⟨aq5117, bq5117⟩
  refine w_getf (q := (stC q5117 11)) (k := 11) (t := 6) (C := R_Vlt) (T := F_Vlt) (N := 20) hx hb hT hown hK hW fq5117.1 fq5117.2 (by decide) in_Vlt rfl rfl (by decide) rfl fr_Vlt_11 w_2_158 d_Ans_countStretches_26 rfl ?_
  refine lv_iload_n hx hb d_Ans_countStretches_29 rfl (lv_at hl 2 rfl) ?_
  obtain ⟨hi, hw⟩ := hw
  refine w_iald (o := (stC q5117 11)) hx hb hK hW (st_ty hNN fq5117.1 fq5117.2 rfl).1 (st_ty hNN fq5117.1 fq5117.2 rfl).2 hi d_Ans_countStretches_30 ?_
  refine lv_isub hx hb d_Ans_countStretches_31 ?_
  refine lv_topi (fun v5118 ev5118 => ?_)
  have hw := hw v5118 ev5118
  refine lv_istore_n (lv' := [(3, .int v5118), (2, .int v5115), (0, .ref (ad o)), (1, .int l1)]) hx hb d_Ans_countStretches_32 rfl hl (by decide) rfl (fun ls hl => ?_)
  refine lv_iconst (v := 0) hx hb d_Ans_countStretches_33 (by decide) ?_
  refine lv_istore (lv' := [(4, .int 0), (3, .int v5118), (2, .int v5115), (0, .ref (ad o)), (1, .int l1)]) hx hb d_Ans_countStretches_34 hl (by decide) rfl (fun ls hl => ?_)
  obtain ⟨n, hw⟩ := hw
  exact tl_Ans_countStretches_36 hx hb hml hown hT hK hN hA hRc hRs hRf hRl hNN hE hret  n o l1 v5115 v5118 0 x H locs ls fo hw hW hS (lv_sub hl [3, 4, 2, 1, 0] rfl)
set_option maxHeartbeats 4000000 in
set_option maxRecDepth 100000 in
theorem k_Ans_countStretches (l : Launch) (dC : Nat → ClassId) (dI : Nat → Nat → Nat) (cI cB cJ cZ : ClassId) (ad : Nat → Nat) (NN : Nat) (E : Heap) (tM tC : Nat) (kK kV : Nat → Nat) (hNN : 152 ≤ NN) (sz : Nat) (o : Nat) (l1 : Int32) (x : St) (fo : o < NN ∧ kcC o = 10) {post : St → Prop} (hw : wp_Ans_countStretches post o l1 x) : Met l y_Ans_countStretches (wsOf y_Ans_countStretches b_Ans_countStretches 7 (none)) ({ frames := 6, cells := 0, slots := 0, locals := 224 }) (va_Pc [.ref (ad o), .int l1] (PV dC dI cI cB cJ cZ ad stC kcC NN E tM tC kK kV sz x)) (va_Qv (fun (y : St) => post y) (fun y t => Wd dC dI cI cB cJ cZ ad stC kcC NN (va_A (pic ad stC kcC NN cI cB cJ cZ x) sz) y t.heap) (va_A (pic ad stC kcC NN cI cB cJ cZ x) sz)) 0 0 (va_A (pic ad stC kcC NN cI cB cJ cZ x) sz) := by
  refine Met.ofW (cc := b_Ans_countStretches) (maxL := 7) (ret := none) (by decide) rfl ?_
  intro p e s m args below meth c s₁ B hml hv
  obtain ⟨rfl, ⟨hsz, hW0, hK, hN⟩, hE⟩ := hv
  have hx := B.exec
  have hb := B.bytes
  have hr := B.returns
  have hts := atoms_spec B.pre
  have hT : ∀ w ∈ TG, w.before _ s = true := fun w h => hts w (List.mem_cons_of_mem _ h)
  have hown : s.vm.findClass R_Ans = some m.cls := findClass_of_methodNamed B.named
  have hlocks := B.notSynchronized
  subst hsz
  have hW : Wd dC dI cI cB cJ cZ ad stC kcC NN (va_A (pic ad stC kcC NN cI cB cJ cZ x) s.heap.size) x s.heap := ⟨hW0.1, hW0.2.1.self (sz := s.heap.size), hW0.2.2⟩
  generalize hAe : va_A (pic ad stC kcC NN cI cB cJ cZ x) s.heap.size = A at hW hE ⊢
  have hA : ∀ q : Nat, s.heap.size ≤ q → A q := fun q h => by rw [← hAe]; exact Or.inr h
  have hS : va_S A s.heap s.heap [] := va_S.rf
  have hl := lv_entry ([.ref (ad o), .int l1]) (n := 7) (Nat.le_of_ble_eq_true rfl)
  rw [lg_entry_eq]
  generalize (lg_sl ([.ref (ad o), .int l1]) ++ List.replicate (7 - (lg_sl ([.ref (ad o), .int l1])).length) Slot.unset).toArray = ls at hl ⊢
  have hl : lv_has ls 7 [(0, .ref (ad o)), (1, .int l1)] := hl
  exact t_Ans_countStretches_e hx hb hml hown hT hK hN hA (Nat.le_refl 0) (Nat.le_refl 0) (Nat.le_refl 6) (Nat.le_refl 224) hNN hE (fun x H locs pc ls hd hp hW hS => W.vret hx hb hr (fun t ht hM => ⟨⟨x, rfl, hp, Wd.back hW ht.symm (fun _ z => z)⟩, hS.F ht⟩) hS.2.2 hd hlocks)  o l1 x _ _ ls fo hw hW hS hl
set_option maxRecDepth 100000 in
def j_Ans_countSkipped_115 (post : St → Prop) (rec16 : Nat → Int32 → St → Prop) (o : Nat) (l1 : Int32) (l2 : Int32) (x : St) : Prop := rec16 o (l1 + 1) x
set_option maxHeartbeats 4000000 in
set_option maxRecDepth 100000 in
theorem t_Ans_countSkipped_115 {p : Program} {l : Launch} {e : Env} {R : Room} {s : State} {m : MethodId} {args : Array Value} {below : List Frame} {meth : Method} {c : Code} {cells slots : Nat} {Q : State → Prop} {dC : Nat → ClassId} {dI : Nat → Nat → Nat} {cI cB cJ cZ : ClassId} {A : Nat → Prop} {ad : Nat → Nat} {NN : Nat} {E : Heap} {tM tC : Nat} {kK kV : Nat → Nat} {post : St → Prop} {rec16 : Nat → Int32 → St → Prop} (hx : p.tables.exec = Jvm.exec) (hb : c.code = b_Ans_countSkipped) (hml : c.maxLocals = 3) (hown : s.vm.findClass R_Ans = some m.cls) (hT : ∀ w ∈ TG, w.before args s = true) (hK : va_K (dC, dI) CL (TY cI cB cJ cZ) s) (hN : NW s) (hA : ∀ q : Nat, s.heap.size ≤ q → A q) (hRc : cells ≤ R.cells) (hRs : slots ≤ R.slots) (hRf : 7 ≤ R.frames) (hRl : 250 ≤ R.locals) (hNN : 152 ≤ NN) (hE : CE E tM tC kK kV A s) (hret : ∀ (x : St) (H : Heap) (locs : List Loc) (pc : Nat) (ls : Array Slot), decode b_Ans_countSkipped pc = .ok (.return_, 1) → post x → Wd dC dI cI cB cJ cZ ad stC kcC NN A x H → va_S A s.heap H locs → W p l e R s m args below meth c H locs cells slots Q (F0 m pc ls [])) (hrec16 : ∀ (o : Nat) (l1 : Int32) (x : St) (H : Heap) (locs : List Loc) (ls : Array Slot), (o < NN ∧ kcC o = 10) → rec16 o l1 x → Wd dC dI cI cB cJ cZ ad stC kcC NN A x H → va_S A s.heap H locs → lv_has ls 3 [(0, .ref (ad o)), (1, .int l1)] → W p l e R s m args below meth c H locs cells slots Q (F0 m 16 ls [])) : ∀ (o : Nat) (l1 : Int32) (l2 : Int32) (x : St) (H : Heap) (locs : List Loc) (ls : Array Slot), (o < NN ∧ kcC o = 10) → j_Ans_countSkipped_115 post rec16 o l1 l2 x → Wd dC dI cI cB cJ cZ ad stC kcC NN A x H → va_S A s.heap H locs → lv_has ls 3 [(0, .ref (ad o)), (1, .int l1), (2, .int l2)] → W p l e R s m args below meth c H locs cells slots Q (F0 m 115 ls []) := by
  intro o l1 l2 x H locs ls fo hw hW hS hl
  unfold j_Ans_countSkipped_115 at hw
  refine lv_iinc (v := (l1 + 1)) (lv' := [(1, .int (l1 + 1)), (0, .ref (ad o)), (2, .int l2)]) hx hb d_Ans_countSkipped_115 hl (k := 1) rfl rfl (by decide) rfl (fun ls hl => ?_)
  refine lv_goto (tgt := 16) hx hb d_Ans_countSkipped_118 (by decide) ?_
  exact hrec16 o (l1 + 1) x H locs ls fo hw hW hS (lv_sub hl [1, 0] rfl)
set_option maxRecDepth 100000 in
def j_Ans_countSkipped_39 (post : St → Prop) (rec16 : Nat → Int32 → St → Prop) (rec39 : Nat → Int32 → Int32 → St → Prop) (o : Nat) (l1 : Int32) (l2 : Int32) (x : St) : Prop := (∃ q5119 : Nat, fR x o 14 = some q5119 ∧ (((fI x (stC q5119 5) 1) ≤ l2 → wp_Ans_truthsOf (fun (r5122 : Int32) (x5121 : St) => ((¬ (r5122 &&& 2) = 0 → wp_Ans_countStretches (fun (x5124 : St) => j_Ans_countSkipped_115 post rec16 o l1 l2 x5124) o l1 x5121) ∧ ((r5122 &&& 2) = 0 → (∀ x5125 : St, x5125 = setI x5121 o 2 ((fI x5121 o 2) + 1) → j_Ans_countSkipped_115 post rec16 o l1 l2 x5125)))) o (-1) x) ∧ (¬ (fI x (stC q5119 5) 1) ≤ l2 → (∃ q5126 : Nat, fR x o 14 = some q5126 ∧ (∃ q5127 : Nat, fR x o 14 = some q5127 ∧ (vp_in ((l1 * (fI x (stC q5127 5) 1)) + l2) (fN x (stC q5126 12)) ∧ (vp_in l2 (fN x (stC o 12)) ∧ ∀ x5128 : St, x5128 = setA x (stC o 12) l2 (rA x (stC q5126 12) ((l1 * (fI x (stC q5127 5) 1)) + l2)) → rec39 o l1 (l2 + 1) x5128)))))))
set_option maxHeartbeats 4000000 in
set_option maxRecDepth 100000 in
theorem t_Ans_countSkipped_39 {p : Program} {l : Launch} {e : Env} {R : Room} {s : State} {m : MethodId} {args : Array Value} {below : List Frame} {meth : Method} {c : Code} {cells slots : Nat} {Q : State → Prop} {dC : Nat → ClassId} {dI : Nat → Nat → Nat} {cI cB cJ cZ : ClassId} {A : Nat → Prop} {ad : Nat → Nat} {NN : Nat} {E : Heap} {tM tC : Nat} {kK kV : Nat → Nat} {post : St → Prop} {rec16 : Nat → Int32 → St → Prop} {rec39 : Nat → Int32 → Int32 → St → Prop} (hx : p.tables.exec = Jvm.exec) (hb : c.code = b_Ans_countSkipped) (hml : c.maxLocals = 3) (hown : s.vm.findClass R_Ans = some m.cls) (hT : ∀ w ∈ TG, w.before args s = true) (hK : va_K (dC, dI) CL (TY cI cB cJ cZ) s) (hN : NW s) (hA : ∀ q : Nat, s.heap.size ≤ q → A q) (hRc : cells ≤ R.cells) (hRs : slots ≤ R.slots) (hRf : 7 ≤ R.frames) (hRl : 250 ≤ R.locals) (hNN : 152 ≤ NN) (hE : CE E tM tC kK kV A s) (hret : ∀ (x : St) (H : Heap) (locs : List Loc) (pc : Nat) (ls : Array Slot), decode b_Ans_countSkipped pc = .ok (.return_, 1) → post x → Wd dC dI cI cB cJ cZ ad stC kcC NN A x H → va_S A s.heap H locs → W p l e R s m args below meth c H locs cells slots Q (F0 m pc ls [])) (hrec16 : ∀ (o : Nat) (l1 : Int32) (x : St) (H : Heap) (locs : List Loc) (ls : Array Slot), (o < NN ∧ kcC o = 10) → rec16 o l1 x → Wd dC dI cI cB cJ cZ ad stC kcC NN A x H → va_S A s.heap H locs → lv_has ls 3 [(0, .ref (ad o)), (1, .int l1)] → W p l e R s m args below meth c H locs cells slots Q (F0 m 16 ls [])) (hrec39 : ∀ (o : Nat) (l1 : Int32) (l2 : Int32) (x : St) (H : Heap) (locs : List Loc) (ls : Array Slot), (o < NN ∧ kcC o = 10) → rec39 o l1 l2 x → Wd dC dI cI cB cJ cZ ad stC kcC NN A x H → va_S A s.heap H locs → lv_has ls 3 [(0, .ref (ad o)), (1, .int l1), (2, .int l2)] → W p l e R s m args below meth c H locs cells slots Q (F0 m 39 ls [])) : ∀ (o : Nat) (l1 : Int32) (l2 : Int32) (x : St) (H : Heap) (locs : List Loc) (ls : Array Slot), (o < NN ∧ kcC o = 10) → j_Ans_countSkipped_39 post rec16 rec39 o l1 l2 x → Wd dC dI cI cB cJ cZ ad stC kcC NN A x H → va_S A s.heap H locs → lv_has ls 3 [(0, .ref (ad o)), (1, .int l1), (2, .int l2)] → W p l e R s m args below meth c H locs cells slots Q (F0 m 39 ls []) := by
  intro o l1 l2 x H locs ls fo hw hW hS hl
  unfold j_Ans_countSkipped_39 at hw
  refine lv_iload_n hx hb d_Ans_countSkipped_39 rfl (lv_at hl 2 rfl) ?_
  refine lv_aload_n hx hb d_Ans_countSkipped_40 rfl (lv_at hl 0 rfl) ?_
  obtain ⟨q5119, hq5119, hw⟩ := hw
  refine w_getr (q := q5119) (k := 14) (t := 10) (C := R_Ans) (T := F_Ans) (N := 16) hx hb hT hown hK hW fo.1 fo.2 (by decide) in_Ans rfl rfl (by decide) rfl fr_Ans_14 w_3_176 d_Ans_countSkipped_41 hq5119 (fun aq5119 bq5119 => ?_)
  have fq5119 : q5119 < NN ∧ kcC q5119 = 6 := ⟨aq5119, bq5119⟩
  refine w_getf (q := (stC q5119 5)) (k := 5) (t := 6) (C := R_Vlt) (T := F_Vlt) (N := 20) hx hb hT hown hK hW fq5119.1 fq5119.2 (by decide) in_Vlt rfl rfl (by decide) rfl fr_Vlt_5 w_2_137 d_Ans_countSkipped_44 rfl ?_
  refine w_geti (k := 1) (t := 3) (C := R_Sch) (T := F_Sch) (N := 13) hx hb hT hown hK hW (st_ty hNN fq5119.1 fq5119.2 rfl).1 (st_ty hNN fq5119.1 fq5119.2 rfl).2 (by decide) in_Sch rfl rfl (by decide) rfl fr_Sch_1 w_1_139 d_Ans_countSkipped_47 ?_
  refine lv_icmp_ge (tgt := 87) hx hb d_Ans_countSkipped_50 (by decide) (fun c5120 => ?_) (fun c5120 => ?_)
  · have hw := hw.1 c5120
    refine lv_aload_n hx hb d_Ans_countSkipped_87 rfl (lv_at hl 0 rfl) ?_
    refine lv_iconst (v := (-1)) hx hb d_Ans_countSkipped_88 (by decide) ?_
    have hF := hW.free hS hA
    refine va_calli (va_runV (C := R_Ans) (As := [.int (-1)]) (rest := []) ⟨hx, hb, hml, hown, hT⟩ (k_Ans_truthsOf l dC dI cI cB cJ cZ ad NN E tM tC kK kV hNN H.size o (-1) x fo hw) ⟨callB_of 1 hT (gw_in w_8_38) rfl rfl rfl (hT _ w_1_13) (hT _ w_8_35) (by decide +kernel) ⟨Nat.le_trans (by decide) hRf, Nat.le_trans (by decide) hRl⟩, hT _ w_8_37, hT _ ws_89⟩ ⟨PV.blind, va_recv hK hW.1 (ci := 10) (q0 := o) rfl (pic_obj fo.1 fo.2 (by decide)), PV.at _ hW hK hN hE hS hF⟩ rfl rfl hl.1 rfl (lv_room (Nat.le_of_ble_eq_true rfl)) d_Ans_countSkipped_89 ⟨hRc, hRs⟩) hS (fun q _ h => hF q h) hF (fun r5122 x5121 t H locs ht hvm hw hB hz1 hk1 hS => ?_)
    have hW := Wd.back hB ht hF
    clear hB ht hF hz1 hk1 hvm
    refine lv_iconst (v := 2) hx hb d_Ans_countSkipped_92 (by decide) ?_
    refine lv_iand hx hb d_Ans_countSkipped_93 ?_
    refine lv_if_ne (tgt := 110) hx hb d_Ans_countSkipped_94 (by decide) (fun c5123 => ?_) (fun c5123 => ?_)
    · have hw := hw.1 c5123
      refine lv_aload_n hx hb d_Ans_countSkipped_110 rfl (lv_at hl 0 rfl) ?_
      refine lv_iload_n hx hb d_Ans_countSkipped_111 rfl (lv_at hl 1 rfl) ?_
      have hF := hW.free hS hA
      refine va_callv (va_runV (C := R_Ans) (As := [.int l1]) (rest := []) ⟨hx, hb, hml, hown, hT⟩ (k_Ans_countStretches l dC dI cI cB cJ cZ ad NN E tM tC kK kV hNN H.size o l1 x5121 fo hw) ⟨callB_of 1 hT (gw_in w_8_125) rfl rfl rfl (hT _ w_1_13) (hT _ w_8_122) (by decide +kernel) ⟨Nat.le_trans (by decide) hRf, Nat.le_trans (by decide) hRl⟩, hT _ w_8_124, hT _ ws_106⟩ ⟨PV.blind, va_recv hK hW.1 (ci := 10) (q0 := o) rfl (pic_obj fo.1 fo.2 (by decide)), PV.at _ hW hK hN hE hS hF⟩ rfl rfl hl.1 rfl (lv_room (Nat.le_of_ble_eq_true rfl)) d_Ans_countSkipped_112 ⟨hRc, hRs⟩) hS (fun q _ h => hF q h) hF (fun  x5124 t H locs ht hvm hw hB hz1 hk1 hS => ?_)
      have hW := Wd.back hB ht hF
      clear hB ht hF hz1 hk1 hvm
      exact t_Ans_countSkipped_115 hx hb hml hown hT hK hN hA hRc hRs hRf hRl hNN hE hret hrec16 o l1 l2 x5124 H locs ls fo hw hW hS (lv_sub hl [0, 1, 2] rfl)
    · have hw := hw.2 c5123
      refine lv_aload_n hx hb d_Ans_countSkipped_97 rfl (lv_at hl 0 rfl) ?_
      refine lv_dup hx hb d_Ans_countSkipped_98 rfl ?_
      refine w_geti (k := 2) (t := 10) (C := R_Ans) (T := F_Ans) (N := 16) hx hb hT hown hK hW fo.1 fo.2 (by decide) in_Ans rfl rfl (by decide) rfl fr_Ans_2 w_3_159 d_Ans_countSkipped_99 ?_
      refine lv_iconst (v := 1) hx hb d_Ans_countSkipped_102 (by decide) ?_
      refine lv_iadd hx hb d_Ans_countSkipped_103 ?_
      refine w_puti (ty := .int) (k := 2) (t := 10) (C := R_Ans) (T := F_Ans) (N := 16) hx hb hT hown hK hW hS fo.1 fo.2 (by decide) in_Ans t_Ans t_Ans_ok n_Ans rfl rfl (by decide) rfl fr_Ans_2 w_3_159 (by decide +kernel) rfl rfl d_Ans_countSkipped_104 (fun H locs hW hS => ?_)
      obtain ⟨x5125, ex5125⟩ : ∃ y : St, y = setI x5121 o 2 ((fI x5121 o 2) + 1) := ⟨_, rfl⟩
      rw [← ex5125] at hW
      have hw := hw x5125 ex5125
      refine lv_goto (tgt := 115) hx hb d_Ans_countSkipped_107 (by decide) ?_
      exact t_Ans_countSkipped_115 hx hb hml hown hT hK hN hA hRc hRs hRf hRl hNN hE hret hrec16 o l1 l2 x5125 H locs ls fo hw hW hS (lv_sub hl [0, 1, 2] rfl)
  · have hw := hw.2 c5120
    refine lv_aload_n hx hb d_Ans_countSkipped_53 rfl (lv_at hl 0 rfl) ?_
    refine w_getf (q := (stC o 12)) (k := 12) (t := 10) (C := R_Ans) (T := F_Ans) (N := 16) hx hb hT hown hK hW fo.1 fo.2 (by decide) in_Ans rfl rfl (by decide) rfl fr_Ans_12 w_3_174 d_Ans_countSkipped_54 rfl ?_
    refine lv_iload_n hx hb d_Ans_countSkipped_57 rfl (lv_at hl 2 rfl) ?_
    refine lv_aload_n hx hb d_Ans_countSkipped_58 rfl (lv_at hl 0 rfl) ?_
    obtain ⟨q5126, hq5126, hw⟩ := hw
    refine w_getr (q := q5126) (k := 14) (t := 10) (C := R_Ans) (T := F_Ans) (N := 16) hx hb hT hown hK hW fo.1 fo.2 (by decide) in_Ans rfl rfl (by decide) rfl fr_Ans_14 w_3_176 d_Ans_countSkipped_59 hq5126 (fun aq5126 bq5126 => ?_)
    have fq5126 : q5126 < NN ∧ kcC q5126 = 6 := ⟨aq5126, bq5126⟩
    refine w_getf (q := (stC q5126 12)) (k := 12) (t := 6) (C := R_Vlt) (T := F_Vlt) (N := 20) hx hb hT hown hK hW fq5126.1 fq5126.2 (by decide) in_Vlt rfl rfl (by decide) rfl fr_Vlt_12 w_2_161 d_Ans_countSkipped_62 rfl ?_
    refine lv_iload_n hx hb d_Ans_countSkipped_65 rfl (lv_at hl 1 rfl) ?_
    refine lv_aload_n hx hb d_Ans_countSkipped_66 rfl (lv_at hl 0 rfl) ?_
    obtain ⟨q5127, hq5127, hw⟩ := hw
    refine w_getr (q := q5127) (k := 14) (t := 10) (C := R_Ans) (T := F_Ans) (N := 16) hx hb hT hown hK hW fo.1 fo.2 (by decide) in_Ans rfl rfl (by decide) rfl fr_Ans_14 w_3_176 d_Ans_countSkipped_67 hq5127 (fun aq5127 bq5127 => ?_)
    have fq5127 : q5127 < NN ∧ kcC q5127 = 6 := ⟨aq5127, bq5127⟩
    refine w_getf (q := (stC q5127 5)) (k := 5) (t := 6) (C := R_Vlt) (T := F_Vlt) (N := 20) hx hb hT hown hK hW fq5127.1 fq5127.2 (by decide) in_Vlt rfl rfl (by decide) rfl fr_Vlt_5 w_2_137 d_Ans_countSkipped_70 rfl ?_
    refine w_geti (k := 1) (t := 3) (C := R_Sch) (T := F_Sch) (N := 13) hx hb hT hown hK hW (st_ty hNN fq5127.1 fq5127.2 rfl).1 (st_ty hNN fq5127.1 fq5127.2 rfl).2 (by decide) in_Sch rfl rfl (by decide) rfl fr_Sch_1 w_1_139 d_Ans_countSkipped_73 ?_
    refine lv_imul hx hb d_Ans_countSkipped_76 ?_
    refine lv_iload_n hx hb d_Ans_countSkipped_77 rfl (lv_at hl 2 rfl) ?_
    refine lv_iadd hx hb d_Ans_countSkipped_78 ?_
    obtain ⟨hi, hw⟩ := hw
    refine w_iald (o := (stC q5126 12)) hx hb hK hW (st_ty hNN fq5126.1 fq5126.2 rfl).1 (st_ty hNN fq5126.1 fq5126.2 rfl).2 hi d_Ans_countSkipped_79 ?_
    obtain ⟨hi, hw⟩ := hw
    refine w_iast (o := (stC o 12)) hx hb hK hW hS (st_ty hNN fo.1 fo.2 rfl).1 (st_ty hNN fo.1 fo.2 rfl).2 hi d_Ans_countSkipped_80 (fun H locs hW hS => ?_)
    obtain ⟨x5128, ex5128⟩ : ∃ y : St, y = setA x (stC o 12) l2 (rA x (stC q5126 12) ((l1 * (fI x (stC q5127 5) 1)) + l2)) := ⟨_, rfl⟩
    rw [← ex5128] at hW
    have hw := hw x5128 ex5128
    refine lv_iinc (v := (l2 + 1)) (lv' := [(2, .int (l2 + 1)), (0, .ref (ad o)), (1, .int l1)]) hx hb d_Ans_countSkipped_81 hl (k := 2) rfl rfl (by decide) rfl (fun ls hl => ?_)
    refine lv_goto (tgt := 39) hx hb d_Ans_countSkipped_84 (by decide) ?_
    exact hrec39 o l1 (l2 + 1) x5128 H locs ls fo hw hW hS (lv_sub hl [1, 2, 0] rfl)
def wl_Ans_countSkipped_39 (post : St → Prop) (rec16 : Nat → Int32 → St → Prop) : Nat → Nat → Int32 → Int32 → St → Prop
  | 0 => fun _ _ _ _ => False
  | n + 1 => j_Ans_countSkipped_39 post rec16 (wl_Ans_countSkipped_39 post rec16 n)
set_option maxHeartbeats 4000000 in
set_option maxRecDepth 100000 in
theorem tl_Ans_countSkipped_39 {p : Program} {l : Launch} {e : Env} {R : Room} {s : State} {m : MethodId} {args : Array Value} {below : List Frame} {meth : Method} {c : Code} {cells slots : Nat} {Q : State → Prop} {dC : Nat → ClassId} {dI : Nat → Nat → Nat} {cI cB cJ cZ : ClassId} {A : Nat → Prop} {ad : Nat → Nat} {NN : Nat} {E : Heap} {tM tC : Nat} {kK kV : Nat → Nat} {post : St → Prop} {rec16 : Nat → Int32 → St → Prop} (hx : p.tables.exec = Jvm.exec) (hb : c.code = b_Ans_countSkipped) (hml : c.maxLocals = 3) (hown : s.vm.findClass R_Ans = some m.cls) (hT : ∀ w ∈ TG, w.before args s = true) (hK : va_K (dC, dI) CL (TY cI cB cJ cZ) s) (hN : NW s) (hA : ∀ q : Nat, s.heap.size ≤ q → A q) (hRc : cells ≤ R.cells) (hRs : slots ≤ R.slots) (hRf : 7 ≤ R.frames) (hRl : 250 ≤ R.locals) (hNN : 152 ≤ NN) (hE : CE E tM tC kK kV A s) (hret : ∀ (x : St) (H : Heap) (locs : List Loc) (pc : Nat) (ls : Array Slot), decode b_Ans_countSkipped pc = .ok (.return_, 1) → post x → Wd dC dI cI cB cJ cZ ad stC kcC NN A x H → va_S A s.heap H locs → W p l e R s m args below meth c H locs cells slots Q (F0 m pc ls [])) (hrec16 : ∀ (o : Nat) (l1 : Int32) (x : St) (H : Heap) (locs : List Loc) (ls : Array Slot), (o < NN ∧ kcC o = 10) → rec16 o l1 x → Wd dC dI cI cB cJ cZ ad stC kcC NN A x H → va_S A s.heap H locs → lv_has ls 3 [(0, .ref (ad o)), (1, .int l1)] → W p l e R s m args below meth c H locs cells slots Q (F0 m 16 ls [])) : ∀ n : Nat, ∀ (o : Nat) (l1 : Int32) (l2 : Int32) (x : St) (H : Heap) (locs : List Loc) (ls : Array Slot), (o < NN ∧ kcC o = 10) → wl_Ans_countSkipped_39 post rec16 n o l1 l2 x → Wd dC dI cI cB cJ cZ ad stC kcC NN A x H → va_S A s.heap H locs → lv_has ls 3 [(0, .ref (ad o)), (1, .int l1), (2, .int l2)] → W p l e R s m args below meth c H locs cells slots Q (F0 m 39 ls []) := by
  intro n
  induction n with
  | zero => intro o l1 l2 x H locs ls fo hw; exact hw.elim
  | succ n ih => intro o l1 l2 x H locs ls fo hw hW hS hl; exact t_Ans_countSkipped_39 hx hb hml hown hT hK hN hA hRc hRs hRf hRl hNN hE hret hrec16 ih o l1 l2 x H locs ls fo hw hW hS hl
set_option maxRecDepth 100000 in
def j_Ans_countSkipped_16 (post : St → Prop) (rec16 : Nat → Int32 → St → Prop) (o : Nat) (l1 : Int32) (x : St) : Prop := (∃ q5129 : Nat, fR x o 14 = some q5129 ∧ (((fI x q5129 2) ≤ l1 → post x) ∧ (¬ (fI x q5129 2) ≤ l1 → (∃ q5131 : Nat, fR x o 15 = some q5131 ∧ (((fI x q5131 8) ≤ 0 → post x) ∧ (¬ (fI x q5131 8) ≤ 0 → ∃ n : Nat, wl_Ans_countSkipped_39 post rec16 n o l1 0 x))))))
set_option maxHeartbeats 4000000 in
set_option maxRecDepth 100000 in
theorem t_Ans_countSkipped_16 {p : Program} {l : Launch} {e : Env} {R : Room} {s : State} {m : MethodId} {args : Array Value} {below : List Frame} {meth : Method} {c : Code} {cells slots : Nat} {Q : State → Prop} {dC : Nat → ClassId} {dI : Nat → Nat → Nat} {cI cB cJ cZ : ClassId} {A : Nat → Prop} {ad : Nat → Nat} {NN : Nat} {E : Heap} {tM tC : Nat} {kK kV : Nat → Nat} {post : St → Prop} {rec16 : Nat → Int32 → St → Prop} (hx : p.tables.exec = Jvm.exec) (hb : c.code = b_Ans_countSkipped) (hml : c.maxLocals = 3) (hown : s.vm.findClass R_Ans = some m.cls) (hT : ∀ w ∈ TG, w.before args s = true) (hK : va_K (dC, dI) CL (TY cI cB cJ cZ) s) (hN : NW s) (hA : ∀ q : Nat, s.heap.size ≤ q → A q) (hRc : cells ≤ R.cells) (hRs : slots ≤ R.slots) (hRf : 7 ≤ R.frames) (hRl : 250 ≤ R.locals) (hNN : 152 ≤ NN) (hE : CE E tM tC kK kV A s) (hret : ∀ (x : St) (H : Heap) (locs : List Loc) (pc : Nat) (ls : Array Slot), decode b_Ans_countSkipped pc = .ok (.return_, 1) → post x → Wd dC dI cI cB cJ cZ ad stC kcC NN A x H → va_S A s.heap H locs → W p l e R s m args below meth c H locs cells slots Q (F0 m pc ls [])) (hrec16 : ∀ (o : Nat) (l1 : Int32) (x : St) (H : Heap) (locs : List Loc) (ls : Array Slot), (o < NN ∧ kcC o = 10) → rec16 o l1 x → Wd dC dI cI cB cJ cZ ad stC kcC NN A x H → va_S A s.heap H locs → lv_has ls 3 [(0, .ref (ad o)), (1, .int l1)] → W p l e R s m args below meth c H locs cells slots Q (F0 m 16 ls [])) : ∀ (o : Nat) (l1 : Int32) (x : St) (H : Heap) (locs : List Loc) (ls : Array Slot), (o < NN ∧ kcC o = 10) → j_Ans_countSkipped_16 post rec16 o l1 x → Wd dC dI cI cB cJ cZ ad stC kcC NN A x H → va_S A s.heap H locs → lv_has ls 3 [(0, .ref (ad o)), (1, .int l1)] → W p l e R s m args below meth c H locs cells slots Q (F0 m 16 ls []) := by
  intro o l1 x H locs ls fo hw hW hS hl
  unfold j_Ans_countSkipped_16 at hw
  refine lv_iload_n hx hb d_Ans_countSkipped_16 rfl (lv_at hl 1 rfl) ?_
  refine lv_aload_n hx hb d_Ans_countSkipped_17 rfl (lv_at hl 0 rfl) ?_
  obtain ⟨q5129, hq5129, hw⟩ := hw
  refine w_getr (q := q5129) (k := 14) (t := 10) (C := R_Ans) (T := F_Ans) (N := 16) hx hb hT hown hK hW fo.1 fo.2 (by decide) in_Ans rfl rfl (by decide) rfl fr_Ans_14 w_3_176 d_Ans_countSkipped_18 hq5129 (fun aq5129 bq5129 => ?_)
  have fq5129 : q5129 < NN ∧ kcC q5129 = 6 := ⟨aq5129, bq5129⟩
  refine w_geti (k := 2) (t := 6) (C := R_Vlt) (T := F_Vlt) (N := 20) hx hb hT hown hK hW fq5129.1 fq5129.2 (by decide) in_Vlt rfl rfl (by decide) rfl fr_Vlt_2 w_2_129 d_Ans_countSkipped_21 ?_
  refine lv_icmp_ge (tgt := 121) hx hb d_Ans_countSkipped_24 (by decide) (fun c5130 => ?_) (fun c5130 => ?_)
  · have hw := hw.1 c5130
    exact hret x H locs 121 ls d_Ans_countSkipped_121 hw hW hS
  · have hw := hw.2 c5130
    refine lv_aload_n hx hb d_Ans_countSkipped_27 rfl (lv_at hl 0 rfl) ?_
    obtain ⟨q5131, hq5131, hw⟩ := hw
    refine w_getr (q := q5131) (k := 15) (t := 10) (C := R_Ans) (T := F_Ans) (N := 16) hx hb hT hown hK hW fo.1 fo.2 (by decide) in_Ans rfl rfl (by decide) rfl fr_Ans_15 w_3_177 d_Ans_countSkipped_28 hq5131 (fun aq5131 bq5131 => ?_)
    have fq5131 : q5131 < NN ∧ kcC q5131 = 9 := ⟨aq5131, bq5131⟩
    refine w_geti (k := 8) (t := 9) (C := R_Qry) (T := F_Qry) (N := 20) hx hb hT hown hK hW fq5131.1 fq5131.2 (by decide) in_Qry rfl rfl (by decide) rfl fr_Qry_8 w_3_90 d_Ans_countSkipped_31 ?_
    refine lv_if_le (tgt := 121) hx hb d_Ans_countSkipped_34 (by decide) (fun c5132 => ?_) (fun c5132 => ?_)
    · have hw := hw.1 c5132
      exact hret x H locs 121 ls d_Ans_countSkipped_121 hw hW hS
    · have hw := hw.2 c5132
      refine lv_iconst (v := 0) hx hb d_Ans_countSkipped_37 (by decide) ?_
      refine lv_istore_n (lv' := [(2, .int 0), (0, .ref (ad o)), (1, .int l1)]) hx hb d_Ans_countSkipped_38 rfl hl (by decide) rfl (fun ls hl => ?_)
      obtain ⟨n, hw⟩ := hw
      exact tl_Ans_countSkipped_39 hx hb hml hown hT hK hN hA hRc hRs hRf hRl hNN hE hret hrec16 n o l1 0 x H locs ls fo hw hW hS (lv_sub hl [1, 2, 0] rfl)
def wl_Ans_countSkipped_16 (post : St → Prop) : Nat → Nat → Int32 → St → Prop
  | 0 => fun _ _ _ => False
  | n + 1 => j_Ans_countSkipped_16 post (wl_Ans_countSkipped_16 post n)
set_option maxHeartbeats 4000000 in
set_option maxRecDepth 100000 in
theorem tl_Ans_countSkipped_16 {p : Program} {l : Launch} {e : Env} {R : Room} {s : State} {m : MethodId} {args : Array Value} {below : List Frame} {meth : Method} {c : Code} {cells slots : Nat} {Q : State → Prop} {dC : Nat → ClassId} {dI : Nat → Nat → Nat} {cI cB cJ cZ : ClassId} {A : Nat → Prop} {ad : Nat → Nat} {NN : Nat} {E : Heap} {tM tC : Nat} {kK kV : Nat → Nat} {post : St → Prop} (hx : p.tables.exec = Jvm.exec) (hb : c.code = b_Ans_countSkipped) (hml : c.maxLocals = 3) (hown : s.vm.findClass R_Ans = some m.cls) (hT : ∀ w ∈ TG, w.before args s = true) (hK : va_K (dC, dI) CL (TY cI cB cJ cZ) s) (hN : NW s) (hA : ∀ q : Nat, s.heap.size ≤ q → A q) (hRc : cells ≤ R.cells) (hRs : slots ≤ R.slots) (hRf : 7 ≤ R.frames) (hRl : 250 ≤ R.locals) (hNN : 152 ≤ NN) (hE : CE E tM tC kK kV A s) (hret : ∀ (x : St) (H : Heap) (locs : List Loc) (pc : Nat) (ls : Array Slot), decode b_Ans_countSkipped pc = .ok (.return_, 1) → post x → Wd dC dI cI cB cJ cZ ad stC kcC NN A x H → va_S A s.heap H locs → W p l e R s m args below meth c H locs cells slots Q (F0 m pc ls []))  : ∀ n : Nat, ∀ (o : Nat) (l1 : Int32) (x : St) (H : Heap) (locs : List Loc) (ls : Array Slot), (o < NN ∧ kcC o = 10) → wl_Ans_countSkipped_16 post n o l1 x → Wd dC dI cI cB cJ cZ ad stC kcC NN A x H → va_S A s.heap H locs → lv_has ls 3 [(0, .ref (ad o)), (1, .int l1)] → W p l e R s m args below meth c H locs cells slots Q (F0 m 16 ls []) := by
  intro n
  induction n with
  | zero => intro o l1 x H locs ls fo hw; exact hw.elim
  | succ n ih => intro o l1 x H locs ls fo hw hW hS hl; exact t_Ans_countSkipped_16 hx hb hml hown hT hK hN hA hRc hRs hRf hRl hNN hE hret  ih o l1 x H locs ls fo hw hW hS hl
set_option maxRecDepth 100000 in
def wp_Ans_countSkipped (post : St → Prop) (o : Nat) (x : St) : Prop := (∀ x5133 : St, x5133 = setI x o 2 0 → (∀ x5134 : St, x5134 = setI x5133 o 3 0 → wp_Ans_markAsked (fun (x5135 : St) => ∃ n : Nat, wl_Ans_countSkipped_16 post n o 0 x5135) o x5134))
set_option maxHeartbeats 4000000 in
set_option maxRecDepth 100000 in
theorem t_Ans_countSkipped_e {p : Program} {l : Launch} {e : Env} {R : Room} {s : State} {m : MethodId} {args : Array Value} {below : List Frame} {meth : Method} {c : Code} {cells slots : Nat} {Q : State → Prop} {dC : Nat → ClassId} {dI : Nat → Nat → Nat} {cI cB cJ cZ : ClassId} {A : Nat → Prop} {ad : Nat → Nat} {NN : Nat} {E : Heap} {tM tC : Nat} {kK kV : Nat → Nat} {post : St → Prop} (hx : p.tables.exec = Jvm.exec) (hb : c.code = b_Ans_countSkipped) (hml : c.maxLocals = 3) (hown : s.vm.findClass R_Ans = some m.cls) (hT : ∀ w ∈ TG, w.before args s = true) (hK : va_K (dC, dI) CL (TY cI cB cJ cZ) s) (hN : NW s) (hA : ∀ q : Nat, s.heap.size ≤ q → A q) (hRc : cells ≤ R.cells) (hRs : slots ≤ R.slots) (hRf : 7 ≤ R.frames) (hRl : 250 ≤ R.locals) (hNN : 152 ≤ NN) (hE : CE E tM tC kK kV A s) (hret : ∀ (x : St) (H : Heap) (locs : List Loc) (pc : Nat) (ls : Array Slot), decode b_Ans_countSkipped pc = .ok (.return_, 1) → post x → Wd dC dI cI cB cJ cZ ad stC kcC NN A x H → va_S A s.heap H locs → W p l e R s m args below meth c H locs cells slots Q (F0 m pc ls [])) : ∀ (o : Nat) (x : St) (H : Heap) (locs : List Loc) (ls : Array Slot), (o < NN ∧ kcC o = 10) → wp_Ans_countSkipped post o x → Wd dC dI cI cB cJ cZ ad stC kcC NN A x H → va_S A s.heap H locs → lv_has ls 3 [(0, .ref (ad o))] → W p l e R s m args below meth c H locs cells slots Q (F0 m 0 ls []) := by
  intro o x H locs ls fo hw hW hS hl
  unfold wp_Ans_countSkipped at hw
  refine lv_aload_n hx hb d_Ans_countSkipped_0 rfl (lv_at hl 0 rfl) ?_
  refine lv_iconst (v := 0) hx hb d_Ans_countSkipped_1 (by decide) ?_
  refine w_puti (ty := .int) (k := 2) (t := 10) (C := R_Ans) (T := F_Ans) (N := 16) hx hb hT hown hK hW hS fo.1 fo.2 (by decide) in_Ans t_Ans t_Ans_ok n_Ans rfl rfl (by decide) rfl fr_Ans_2 w_3_159 (by decide +kernel) rfl rfl d_Ans_countSkipped_2 (fun H locs hW hS => ?_)
  obtain ⟨x5133, ex5133⟩ : ∃ y : St, y = setI x o 2 0 := ⟨_, rfl⟩
  rw [← ex5133] at hW
  have hw := hw x5133 ex5133
  refine lv_aload_n hx hb d_Ans_countSkipped_5 rfl (lv_at hl 0 rfl) ?_
  refine lv_iconst (v := 0) hx hb d_Ans_countSkipped_6 (by decide) ?_
  refine w_puti (ty := .int) (k := 3) (t := 10) (C := R_Ans) (T := F_Ans) (N := 16) hx hb hT hown hK hW hS fo.1 fo.2 (by decide) in_Ans t_Ans t_Ans_ok n_Ans rfl rfl (by decide) rfl fr_Ans_3 w_3_161 (by decide +kernel) rfl rfl d_Ans_countSkipped_7 (fun H locs hW hS => ?_)
  obtain ⟨x5134, ex5134⟩ : ∃ y : St, y = setI x5133 o 3 0 := ⟨_, rfl⟩
  rw [← ex5134] at hW
  have hw := hw x5134 ex5134
  refine lv_aload_n hx hb d_Ans_countSkipped_10 rfl (lv_at hl 0 rfl) ?_
  have hF := hW.free hS hA
  refine va_callv (va_runV (C := R_Ans) (As := []) (rest := []) ⟨hx, hb, hml, hown, hT⟩ (k_Ans_markAsked l dC dI cI cB cJ cZ ad NN E tM tC kK kV hNN H.size o x5134 fo hw) ⟨callB_of 0 hT (gw_in w_8_121) rfl rfl rfl (hT _ w_1_13) (hT _ w_8_118) (by decide +kernel) ⟨Nat.le_trans (by decide) hRf, Nat.le_trans (by decide) hRl⟩, hT _ w_8_120, hT _ ws_105⟩ ⟨PV.blind, va_recv hK hW.1 (ci := 10) (q0 := o) rfl (pic_obj fo.1 fo.2 (by decide)), PV.at _ hW hK hN hE hS hF⟩ rfl rfl hl.1 rfl (lv_room (Nat.le_of_ble_eq_true rfl)) d_Ans_countSkipped_11 ⟨hRc, hRs⟩) hS (fun q _ h => hF q h) hF (fun  x5135 t H locs ht hvm hw hB hz1 hk1 hS => ?_)
  have hW := Wd.back hB ht hF
  clear hB ht hF hz1 hk1 hvm
  refine lv_iconst (v := 0) hx hb d_Ans_countSkipped_14 (by decide) ?_
  refine lv_istore_n (lv' := [(1, .int 0), (0, .ref (ad o))]) hx hb d_Ans_countSkipped_15 rfl hl (by decide) rfl (fun ls hl => ?_)
  obtain ⟨n, hw⟩ := hw
  exact tl_Ans_countSkipped_16 hx hb hml hown hT hK hN hA hRc hRs hRf hRl hNN hE hret  n o 0 x5135 H locs ls fo hw hW hS (lv_sub hl [1, 0] rfl)
set_option maxHeartbeats 4000000 in
set_option maxRecDepth 100000 in
theorem k_Ans_countSkipped (l : Launch) (dC : Nat → ClassId) (dI : Nat → Nat → Nat) (cI cB cJ cZ : ClassId) (ad : Nat → Nat) (NN : Nat) (E : Heap) (tM tC : Nat) (kK kV : Nat → Nat) (hNN : 152 ≤ NN) (sz : Nat) (o : Nat) (x : St) (fo : o < NN ∧ kcC o = 10) {post : St → Prop} (hw : wp_Ans_countSkipped post o x) : Met l y_Ans_countSkipped (wsOf y_Ans_countSkipped b_Ans_countSkipped 3 (none)) ({ frames := 7, cells := 0, slots := 0, locals := 250 }) (va_Pc [.ref (ad o)] (PV dC dI cI cB cJ cZ ad stC kcC NN E tM tC kK kV sz x)) (va_Qv (fun (y : St) => post y) (fun y t => Wd dC dI cI cB cJ cZ ad stC kcC NN (va_A (pic ad stC kcC NN cI cB cJ cZ x) sz) y t.heap) (va_A (pic ad stC kcC NN cI cB cJ cZ x) sz)) 0 0 (va_A (pic ad stC kcC NN cI cB cJ cZ x) sz) := by
  refine Met.ofW (cc := b_Ans_countSkipped) (maxL := 3) (ret := none) (by decide) rfl ?_
  intro p e s m args below meth c s₁ B hml hv
  obtain ⟨rfl, ⟨hsz, hW0, hK, hN⟩, hE⟩ := hv
  have hx := B.exec
  have hb := B.bytes
  have hr := B.returns
  have hts := atoms_spec B.pre
  have hT : ∀ w ∈ TG, w.before _ s = true := fun w h => hts w (List.mem_cons_of_mem _ h)
  have hown : s.vm.findClass R_Ans = some m.cls := findClass_of_methodNamed B.named
  have hlocks := B.notSynchronized
  subst hsz
  have hW : Wd dC dI cI cB cJ cZ ad stC kcC NN (va_A (pic ad stC kcC NN cI cB cJ cZ x) s.heap.size) x s.heap := ⟨hW0.1, hW0.2.1.self (sz := s.heap.size), hW0.2.2⟩
  generalize hAe : va_A (pic ad stC kcC NN cI cB cJ cZ x) s.heap.size = A at hW hE ⊢
  have hA : ∀ q : Nat, s.heap.size ≤ q → A q := fun q h => by rw [← hAe]; exact Or.inr h
  have hS : va_S A s.heap s.heap [] := va_S.rf
  have hl := lv_entry ([.ref (ad o)]) (n := 3) (Nat.le_of_ble_eq_true rfl)
  rw [lg_entry_eq]
  generalize (lg_sl ([.ref (ad o)]) ++ List.replicate (3 - (lg_sl ([.ref (ad o)])).length) Slot.unset).toArray = ls at hl ⊢
  have hl : lv_has ls 3 [(0, .ref (ad o))] := hl
  exact t_Ans_countSkipped_e hx hb hml hown hT hK hN hA (Nat.le_refl 0) (Nat.le_refl 0) (Nat.le_refl 7) (Nat.le_refl 250) hNN hE (fun x H locs pc ls hd hp hW hS => W.vret hx hb hr (fun t ht hM => ⟨⟨x, rfl, hp, Wd.back hW ht.symm (fun _ z => z)⟩, hS.F ht⟩) hS.2.2 hd hlocks)  o x _ _ ls fo hw hW hS hl
set_option maxRecDepth 100000 in
def j_V_run_28 (post : Int32 → St → Prop) (o : Nat) (x : St) : Prop := post (-1) x
set_option maxHeartbeats 4000000 in
set_option maxRecDepth 100000 in
theorem t_V_run_28 {p : Program} {l : Launch} {e : Env} {R : Room} {s : State} {m : MethodId} {args : Array Value} {below : List Frame} {meth : Method} {c : Code} {cells slots : Nat} {Q : State → Prop} {dC : Nat → ClassId} {dI : Nat → Nat → Nat} {cI cB cJ cZ : ClassId} {A : Nat → Prop} {ad : Nat → Nat} {NN : Nat} {E : Heap} {tM tC : Nat} {kK kV : Nat → Nat} {post : Int32 → St → Prop} (hx : p.tables.exec = Jvm.exec) (hb : c.code = b_V_run) (hml : c.maxLocals = 2) (hown : s.vm.findClass R_V = some m.cls) (hT : ∀ w ∈ TG, w.before args s = true) (hK : va_K (dC, dI) CL (TY cI cB cJ cZ) s) (hN : NW s) (hA : ∀ q : Nat, s.heap.size ≤ q → A q) (hRc : cells ≤ R.cells) (hRs : slots ≤ R.slots) (hRf : 8 ≤ R.frames) (hRl : 272 ≤ R.locals) (hNN : 152 ≤ NN) (hE : CE E tM tC kK kV A s) (hret : ∀ (r : Int32) (x : St) (H : Heap) (locs : List Loc) (pc : Nat) (ls : Array Slot), decode b_V_run pc = .ok (.ireturn, 1) → post r x → Wd dC dI cI cB cJ cZ ad stC kcC NN A x H → va_S A s.heap H locs → W p l e R s m args below meth c H locs cells slots Q (F0 m pc ls [.int r]))  : ∀ (o : Nat) (x : St) (H : Heap) (locs : List Loc) (ls : Array Slot), (o < NN ∧ kcC o = 0) → j_V_run_28 post o x → Wd dC dI cI cB cJ cZ ad stC kcC NN A x H → va_S A s.heap H locs → lv_has ls 2 [(0, .ref (ad o))] → W p l e R s m args below meth c H locs cells slots Q (F0 m 28 ls []) := by
  intro o x H locs ls fo hw hW hS hl
  unfold j_V_run_28 at hw
  refine lv_iconst (v := (-1)) hx hb d_V_run_28 (by decide) ?_
  exact hret (-1) x H locs 29 ls d_V_run_29 hw hW hS
set_option maxRecDepth 100000 in
def wp_V_run (post : Int32 → St → Prop) (o : Nat) (x : St) : Prop := (∃ q5136 : Nat, fR x o 10 = some q5136 ∧ (((fI x q5136 0) = 0 → j_V_run_28 post o x) ∧ (¬ (fI x q5136 0) = 0 → (∃ q5138 : Nat, fR x o 13 = some q5138 ∧ (∃ q5139 : Nat, fR x o 10 = some q5139 ∧ wp_Ans_fill (fun (r5141 : Int32) (x5140 : St) => ((¬ r5141 = 0 → (∃ q5143 : Nat, fR x5140 o 12 = some q5143 ∧ (∃ q5144 : Nat, fR x5140 o 13 = some q5144 ∧ (∀ x5145 : St, x5145 = setR x5140 o 12 (some q5144) → (∀ x5146 : St, x5146 = setR x5145 o 13 (some q5143) → (∃ q5147 : Nat, fR x5146 o 12 = some q5147 ∧ wp_Ans_countSkipped (fun (x5148 : St) => (∃ q5149 : Nat, fR x5148 o 12 = some q5149 ∧ (∀ x5150 : St, x5150 = setI x5148 q5149 0 1 → (∃ q5151 : Nat, fR x5150 o 12 = some q5151 ∧ post (fI x5150 q5151 1) x5150)))) q5147 x5146)))))) ∧ (r5141 = 0 → j_V_run_28 post o x5140))) q5138 (stC o 8) q5139 x)))))
set_option maxHeartbeats 4000000 in
set_option maxRecDepth 100000 in
theorem t_V_run_e {p : Program} {l : Launch} {e : Env} {R : Room} {s : State} {m : MethodId} {args : Array Value} {below : List Frame} {meth : Method} {c : Code} {cells slots : Nat} {Q : State → Prop} {dC : Nat → ClassId} {dI : Nat → Nat → Nat} {cI cB cJ cZ : ClassId} {A : Nat → Prop} {ad : Nat → Nat} {NN : Nat} {E : Heap} {tM tC : Nat} {kK kV : Nat → Nat} {post : Int32 → St → Prop} (hx : p.tables.exec = Jvm.exec) (hb : c.code = b_V_run) (hml : c.maxLocals = 2) (hown : s.vm.findClass R_V = some m.cls) (hT : ∀ w ∈ TG, w.before args s = true) (hK : va_K (dC, dI) CL (TY cI cB cJ cZ) s) (hN : NW s) (hA : ∀ q : Nat, s.heap.size ≤ q → A q) (hRc : cells ≤ R.cells) (hRs : slots ≤ R.slots) (hRf : 8 ≤ R.frames) (hRl : 272 ≤ R.locals) (hNN : 152 ≤ NN) (hE : CE E tM tC kK kV A s) (hret : ∀ (r : Int32) (x : St) (H : Heap) (locs : List Loc) (pc : Nat) (ls : Array Slot), decode b_V_run pc = .ok (.ireturn, 1) → post r x → Wd dC dI cI cB cJ cZ ad stC kcC NN A x H → va_S A s.heap H locs → W p l e R s m args below meth c H locs cells slots Q (F0 m pc ls [.int r])) : ∀ (o : Nat) (x : St) (H : Heap) (locs : List Loc) (ls : Array Slot), (o < NN ∧ kcC o = 0) → wp_V_run post o x → Wd dC dI cI cB cJ cZ ad stC kcC NN A x H → va_S A s.heap H locs → lv_has ls 2 [(0, .ref (ad o))] → W p l e R s m args below meth c H locs cells slots Q (F0 m 0 ls []) := by
  intro o x H locs ls fo hw hW hS hl
  unfold wp_V_run at hw
  refine lv_aload_n hx hb d_V_run_0 rfl (lv_at hl 0 rfl) ?_
  obtain ⟨q5136, hq5136, hw⟩ := hw
  refine w_getr (q := q5136) (k := 10) (t := 0) (C := R_V) (T := F_V) (N := 15) hx hb hT hown hK hW fo.1 fo.2 (by decide) in_V rfl rfl (by decide) rfl fr_V_10 w_4_5 d_V_run_1 hq5136 (fun aq5136 bq5136 => ?_)
  have fq5136 : q5136 < NN ∧ kcC q5136 = 9 := ⟨aq5136, bq5136⟩
  refine w_geti (k := 0) (t := 9) (C := R_Qry) (T := F_Qry) (N := 20) hx hb hT hown hK hW fq5136.1 fq5136.2 (by decide) in_Qry rfl rfl (by decide) rfl fr_Qry_0 w_3_75 d_V_run_4 ?_
  refine lv_if_eq (tgt := 28) hx hb d_V_run_7 (by decide) (fun c5137 => ?_) (fun c5137 => ?_)
  · have hw := hw.1 c5137
    exact t_V_run_28 hx hb hml hown hT hK hN hA hRc hRs hRf hRl hNN hE hret  o x H locs ls fo hw hW hS (lv_sub hl [0] rfl)
  · have hw := hw.2 c5137
    refine lv_aload_n hx hb d_V_run_10 rfl (lv_at hl 0 rfl) ?_
    obtain ⟨q5138, hq5138, hw⟩ := hw
    refine w_getr (q := q5138) (k := 13) (t := 0) (C := R_V) (T := F_V) (N := 15) hx hb hT hown hK hW fo.1 fo.2 (by decide) in_V rfl rfl (by decide) rfl fr_V_13 w_4_8 d_V_run_11 hq5138 (fun aq5138 bq5138 => ?_)
    have fq5138 : q5138 < NN ∧ kcC q5138 = 10 := ⟨aq5138, bq5138⟩
    refine lv_aload_n hx hb d_V_run_14 rfl (lv_at hl 0 rfl) ?_
    refine w_getf (q := (stC o 8)) (k := 8) (t := 0) (C := R_V) (T := F_V) (N := 15) hx hb hT hown hK hW fo.1 fo.2 (by decide) in_V rfl rfl (by decide) rfl fr_V_8 w_4_3 d_V_run_15 rfl ?_
    refine lv_aload_n hx hb d_V_run_18 rfl (lv_at hl 0 rfl) ?_
    obtain ⟨q5139, hq5139, hw⟩ := hw
    refine w_getr (q := q5139) (k := 10) (t := 0) (C := R_V) (T := F_V) (N := 15) hx hb hT hown hK hW fo.1 fo.2 (by decide) in_V rfl rfl (by decide) rfl fr_V_10 w_4_5 d_V_run_19 hq5139 (fun aq5139 bq5139 => ?_)
    have fq5139 : q5139 < NN ∧ kcC q5139 = 9 := ⟨aq5139, bq5139⟩
    have hF := hW.free hS hA
    refine va_calli (va_runV (C := R_Ans) (As := [.ref (ad (stC o 8)), .ref (ad q5139)]) (rest := []) ⟨hx, hb, hml, hown, hT⟩ (k_Ans_fill l dC dI cI cB cJ cZ ad NN E tM tC kK kV hNN H.size q5138 (stC o 8) q5139 x fq5138 (st_ty hNN fo.1 fo.2 rfl) fq5139 hw) ⟨callB_of 2 hT (gw_in w_8_23) rfl rfl rfl (hT _ w_1_13) (hT _ w_8_20) (by decide +kernel) ⟨Nat.le_trans (by decide) hRf, Nat.le_trans (by decide) hRl⟩, hT _ w_8_21, hT _ w_8_22⟩ ⟨PV.blind, va_recv hK hW.1 (ci := 10) (q0 := q5138) rfl (pic_obj fq5138.1 fq5138.2 (by decide)), PV.at _ hW hK hN hE hS hF⟩ rfl rfl hl.1 rfl (lv_room (Nat.le_of_ble_eq_true rfl)) d_V_run_22 ⟨hRc, hRs⟩) hS (fun q _ h => hF q h) hF (fun r5141 x5140 t H locs ht hvm hw hB hz1 hk1 hS => ?_)
    have hW := Wd.back hB ht hF
    clear hB ht hF hz1 hk1 hvm
    refine lv_if_ne (tgt := 30) hx hb d_V_run_25 (by decide) (fun c5142 => ?_) (fun c5142 => ?_)
    · have hw := hw.1 c5142
      refine lv_aload_n hx hb d_V_run_30 rfl (lv_at hl 0 rfl) ?_
      obtain ⟨q5143, hq5143, hw⟩ := hw
      refine w_getr (q := q5143) (k := 12) (t := 0) (C := R_V) (T := F_V) (N := 15) hx hb hT hown hK hW fo.1 fo.2 (by decide) in_V rfl rfl (by decide) rfl fr_V_12 w_4_7 d_V_run_31 hq5143 (fun aq5143 bq5143 => ?_)
      have fq5143 : q5143 < NN ∧ kcC q5143 = 10 := ⟨aq5143, bq5143⟩
      refine lv_astore_n (lv' := [(1, .ref (ad q5143)), (0, .ref (ad o))]) hx hb d_V_run_34 rfl hl (by decide) rfl (fun ls hl => ?_)
      refine lv_aload_n hx hb d_V_run_35 rfl (lv_at hl 1 rfl) ?_
      refine lv_aload_n hx hb d_V_run_36 rfl (lv_at hl 1 rfl) ?_
      obtain ⟨q5144, hq5144, hw⟩ := hw
      refine w_getr (q := q5144) (k := 13) (t := 0) (C := R_V) (T := F_V) (N := 15) hx hb hT hown hK hW fo.1 fo.2 (by decide) in_V rfl rfl (by decide) rfl fr_V_13 w_4_8 d_V_run_37 hq5144 (fun aq5144 bq5144 => ?_)
      have fq5144 : q5144 < NN ∧ kcC q5144 = 10 := ⟨aq5144, bq5144⟩
      refine w_putr (q := q5144) (ty := .object "StripedVault$Answer") (k := 12) (t := 0) (C := R_V) (T := F_V) (N := 15) hx hb hT hown hK hW hS fo.1 fo.2 (by decide) in_V t_V t_V_ok n_V rfl rfl (by decide) rfl fr_V_12 w_4_7 (by decide +kernel) rfl rfl fq5144.1 fq5144.2 d_V_run_40 (fun H locs hW hS => ?_)
      obtain ⟨x5145, ex5145⟩ : ∃ y : St, y = setR x5140 o 12 (some q5144) := ⟨_, rfl⟩
      rw [← ex5145] at hW
      have hw := hw x5145 ex5145
      refine lv_aload_n hx hb d_V_run_43 rfl (lv_at hl 1 rfl) ?_
      refine lv_aload_n hx hb d_V_run_44 rfl (lv_at hl 0 rfl) ?_
      refine w_putr (q := q5143) (ty := .object "StripedVault$Answer") (k := 13) (t := 0) (C := R_V) (T := F_V) (N := 15) hx hb hT hown hK hW hS fo.1 fo.2 (by decide) in_V t_V t_V_ok n_V rfl rfl (by decide) rfl fr_V_13 w_4_8 (by decide +kernel) rfl rfl fq5143.1 fq5143.2 d_V_run_45 (fun H locs hW hS => ?_)
      obtain ⟨x5146, ex5146⟩ : ∃ y : St, y = setR x5145 o 13 (some q5143) := ⟨_, rfl⟩
      rw [← ex5146] at hW
      have hw := hw x5146 ex5146
      refine lv_aload_n hx hb d_V_run_48 rfl (lv_at hl 1 rfl) ?_
      obtain ⟨q5147, hq5147, hw⟩ := hw
      refine w_getr (q := q5147) (k := 12) (t := 0) (C := R_V) (T := F_V) (N := 15) hx hb hT hown hK hW fo.1 fo.2 (by decide) in_V rfl rfl (by decide) rfl fr_V_12 w_4_7 d_V_run_49 hq5147 (fun aq5147 bq5147 => ?_)
      have fq5147 : q5147 < NN ∧ kcC q5147 = 10 := ⟨aq5147, bq5147⟩
      have hF := hW.free hS hA
      refine va_callv (va_runV (C := R_Ans) (As := []) (rest := []) ⟨hx, hb, hml, hown, hT⟩ (k_Ans_countSkipped l dC dI cI cB cJ cZ ad NN E tM tC kK kV hNN H.size q5147 x5146 fq5147 hw) ⟨callB_of 0 hT (gw_in w_8_117) rfl rfl rfl (hT _ w_1_13) (hT _ w_8_114) (by decide +kernel) ⟨Nat.le_trans (by decide) hRf, Nat.le_trans (by decide) hRl⟩, hT _ w_8_115, hT _ w_8_116⟩ ⟨PV.blind, va_recv hK hW.1 (ci := 10) (q0 := q5147) rfl (pic_obj fq5147.1 fq5147.2 (by decide)), PV.at _ hW hK hN hE hS hF⟩ rfl rfl hl.1 rfl (lv_room (Nat.le_of_ble_eq_true rfl)) d_V_run_52 ⟨hRc, hRs⟩) hS (fun q _ h => hF q h) hF (fun  x5148 t H locs ht hvm hw hB hz1 hk1 hS => ?_)
      have hW := Wd.back hB ht hF
      clear hB ht hF hz1 hk1 hvm
      refine lv_aload_n hx hb d_V_run_55 rfl (lv_at hl 1 rfl) ?_
      obtain ⟨q5149, hq5149, hw⟩ := hw
      refine w_getr (q := q5149) (k := 12) (t := 0) (C := R_V) (T := F_V) (N := 15) hx hb hT hown hK hW fo.1 fo.2 (by decide) in_V rfl rfl (by decide) rfl fr_V_12 w_4_7 d_V_run_56 hq5149 (fun aq5149 bq5149 => ?_)
      have fq5149 : q5149 < NN ∧ kcC q5149 = 10 := ⟨aq5149, bq5149⟩
      refine lv_iconst (v := 1) hx hb d_V_run_59 (by decide) ?_
      refine w_puti (ty := .boolean) (k := 0) (t := 10) (C := R_Ans) (T := F_Ans) (N := 16) hx hb hT hown hK hW hS fq5149.1 fq5149.2 (by decide) in_Ans t_Ans t_Ans_ok n_Ans rfl rfl (by decide) rfl fr_Ans_0 w_3_156 (by decide +kernel) rfl rfl d_V_run_60 (fun H locs hW hS => ?_)
      obtain ⟨x5150, ex5150⟩ : ∃ y : St, y = setI x5148 q5149 0 1 := ⟨_, rfl⟩
      rw [← ex5150] at hW
      have hw := hw x5150 ex5150
      refine lv_aload_n hx hb d_V_run_63 rfl (lv_at hl 1 rfl) ?_
      obtain ⟨q5151, hq5151, hw⟩ := hw
      refine w_getr (q := q5151) (k := 12) (t := 0) (C := R_V) (T := F_V) (N := 15) hx hb hT hown hK hW fo.1 fo.2 (by decide) in_V rfl rfl (by decide) rfl fr_V_12 w_4_7 d_V_run_64 hq5151 (fun aq5151 bq5151 => ?_)
      have fq5151 : q5151 < NN ∧ kcC q5151 = 10 := ⟨aq5151, bq5151⟩
      refine w_geti (k := 1) (t := 10) (C := R_Ans) (T := F_Ans) (N := 16) hx hb hT hown hK hW fq5151.1 fq5151.2 (by decide) in_Ans rfl rfl (by decide) rfl fr_Ans_1 w_3_158 d_V_run_67 ?_
      exact hret (fI x5150 q5151 1) x5150 H locs 70 ls d_V_run_70 hw hW hS
    · have hw := hw.2 c5142
      exact t_V_run_28 hx hb hml hown hT hK hN hA hRc hRs hRf hRl hNN hE hret  o x5140 H locs ls fo hw hW hS (lv_sub hl [0] rfl)
set_option maxHeartbeats 4000000 in
set_option maxRecDepth 100000 in
theorem k_V_run (l : Launch) (dC : Nat → ClassId) (dI : Nat → Nat → Nat) (cI cB cJ cZ : ClassId) (ad : Nat → Nat) (NN : Nat) (E : Heap) (tM tC : Nat) (kK kV : Nat → Nat) (hNN : 152 ≤ NN) (sz : Nat) (o : Nat) (x : St) (fo : o < NN ∧ kcC o = 0) {post : Int32 → St → Prop} (hw : wp_V_run post o x) : Met l y_V_run (wsOf y_V_run b_V_run 2 (some (.int))) ({ frames := 8, cells := 0, slots := 0, locals := 272 }) (va_Pc [.ref (ad o)] (PV dC dI cI cB cJ cZ ad stC kcC NN E tM tC kK kV sz x)) (va_Qi (fun (r : Int32) (y : St) => post r y) (fun y t => Wd dC dI cI cB cJ cZ ad stC kcC NN (va_A (pic ad stC kcC NN cI cB cJ cZ x) sz) y t.heap) (va_A (pic ad stC kcC NN cI cB cJ cZ x) sz)) 0 0 (va_A (pic ad stC kcC NN cI cB cJ cZ x) sz) := by
  refine Met.ofW (cc := b_V_run) (maxL := 2) (ret := some (.int)) (by decide) rfl ?_
  intro p e s m args below meth c s₁ B hml hv
  obtain ⟨rfl, ⟨hsz, hW0, hK, hN⟩, hE⟩ := hv
  have hx := B.exec
  have hb := B.bytes
  have hr := B.returns
  have hts := atoms_spec B.pre
  have hT : ∀ w ∈ TG, w.before _ s = true := fun w h => hts w (List.mem_cons_of_mem _ h)
  have hown : s.vm.findClass R_V = some m.cls := findClass_of_methodNamed B.named
  have hlocks := B.notSynchronized
  subst hsz
  have hW : Wd dC dI cI cB cJ cZ ad stC kcC NN (va_A (pic ad stC kcC NN cI cB cJ cZ x) s.heap.size) x s.heap := ⟨hW0.1, hW0.2.1.self (sz := s.heap.size), hW0.2.2⟩
  generalize hAe : va_A (pic ad stC kcC NN cI cB cJ cZ x) s.heap.size = A at hW hE ⊢
  have hA : ∀ q : Nat, s.heap.size ≤ q → A q := fun q h => by rw [← hAe]; exact Or.inr h
  have hS : va_S A s.heap s.heap [] := va_S.rf
  have hl := lv_entry ([.ref (ad o)]) (n := 2) (Nat.le_of_ble_eq_true rfl)
  rw [lg_entry_eq]
  generalize (lg_sl ([.ref (ad o)]) ++ List.replicate (2 - (lg_sl ([.ref (ad o)])).length) Slot.unset).toArray = ls at hl ⊢
  have hl : lv_has ls 2 [(0, .ref (ad o))] := hl
  exact t_V_run_e hx hb hml hown hT hK hN hA (Nat.le_refl 0) (Nat.le_refl 0) (Nat.le_refl 8) (Nat.le_refl 272) hNN hE (fun r x H locs pc ls hd hp hW hS => W.iret (v := r) hx hb hr (fun t ht hM => ⟨⟨r, x, rfl, hp, Wd.back hW ht.symm (fun _ z => z)⟩, hS.F ht⟩) hS.2.2 hd hlocks)  o x _ _ ls fo hw hW hS hl
end
