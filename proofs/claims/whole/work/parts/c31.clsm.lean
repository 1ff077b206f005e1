theorem fr_Ans_2 : F_Ans 2 = (R_Ans, "skippedGroups", "I", false) := rfl
theorem fr_Ans_3 : F_Ans 3 = (R_Ans, "skippedStretches", "I", false) := rfl
theorem w_1_139 : (Jvm.Cond.fieldLink "StripedVault$Answer" (219 : Nat) "StripedVault$Schema" "columns" "I") ∈ TG := tw_1 139 (by decide +kernel) (by decide +kernel)
theorem w_2_129 : (Jvm.Cond.fieldLink "StripedVault$Answer" (216 : Nat) "StripedVault$Vault" "groups" "I") ∈ TG := tw_2 129 (by decide +kernel) (by decide +kernel)
theorem w_2_158 : (Jvm.Cond.fieldLink "StripedVault$Answer" (232 : Nat) "StripedVault$Vault" "groupRow" "[I") ∈ TG := tw_2 158 (by decide +kernel) (by decide +kernel)
theorem w_2_161 : (Jvm.Cond.fieldLink "StripedVault$Answer" (222 : Nat) "StripedVault$Vault" "chunkTeller" "[I") ∈ TG := tw_2 161 (by decide +kernel) (by decide +kernel)
theorem w_2_164 : (Jvm.Cond.fieldLink "StripedVault$Answer" (243 : Nat) "StripedVault$Vault" "tellerFirst" "[I") ∈ TG := tw_2 164 (by decide +kernel) (by decide +kernel)
theorem w_3_158 : (Jvm.Cond.fieldLink "StripedVault" (205 : Nat) "StripedVault$Answer" "count" "I") ∈ TG := tw_3 158 (by decide +kernel) (by decide +kernel)
theorem w_3_159 : (Jvm.Cond.fieldLink "StripedVault$Answer" (207 : Nat) "StripedVault$Answer" "skippedGroups" "I") ∈ TG := tw_3 159 (by decide +kernel) (by decide +kernel)
theorem w_3_161 : (Jvm.Cond.fieldLink "StripedVault$Answer" (210 : Nat) "StripedVault$Answer" "skippedStretches" "I") ∈ TG := tw_3 161 (by decide +kernel) (by decide +kernel)
theorem w_8_110 : (Jvm.Cond.methodLink "StripedVault" (202 : Nat) ({ cls := "StripedVault$Answer", name := "countSkipped", desc := "()V" } : Jvm.MethodName)) ∈ TG := tw_8 110 (by decide +kernel) (by decide +kernel)
theorem w_8_111 : (Jvm.Cond.instanceMethod ({ cls := "StripedVault$Answer", name := "countSkipped", desc := "()V" } : Jvm.MethodName)) ∈ TG := tw_8 111 (by decide +kernel) (by decide +kernel)
theorem w_8_112 : (Jvm.Cond.selects "StripedVault$Answer" ({ cls := "StripedVault$Answer", name := "countSkipped", desc := "()V" } : Jvm.MethodName) ({ cls := "StripedVault$Answer", name := "countSkipped", desc := "()V" } : Jvm.MethodName)) ∈ TG := tw_8 112 (by decide +kernel) (by decide +kernel)
theorem w_8_113 : (Jvm.Cond.code ({ cls := "StripedVault$Answer", name := "countSkipped", desc := "()V" } : Jvm.MethodName) prog_2_method_20_code (3 : Nat) (Option.none : Option Jvm.ClassFile.FieldType)) ∈ TG := tw_8 113 (by decide +kernel) (by decide +kernel)
theorem w_8_114 : (Jvm.Cond.methodLink "StripedVault$Answer" (213 : Nat) ({ cls := "StripedVault$Answer", name := "markAsked", desc := "()V" } : Jvm.MethodName)) ∈ TG := tw_8 114 (by decide +kernel) (by decide +kernel)
theorem w_8_116 : (Jvm.Cond.instanceMethod ({ cls := "StripedVault$Answer", name := "markAsked", desc := "()V" } : Jvm.MethodName)) ∈ TG := tw_8 116 (by decide +kernel) (by decide +kernel)
theorem w_8_117 : (Jvm.Cond.code ({ cls := "StripedVault$Answer", name := "markAsked", desc := "()V" } : Jvm.MethodName) prog_2_method_21_code (3 : Nat) (Option.none : Option Jvm.ClassFile.FieldType)) ∈ TG := tw_8 117 (by decide +kernel) (by decide +kernel)
theorem w_8_118 : (Jvm.Cond.methodLink "StripedVault$Answer" (225 : Nat) ({ cls := "StripedVault$Answer", name := "countStretches", desc := "(I)V" } : Jvm.MethodName)) ∈ TG := tw_8 118 (by decide +kernel) (by decide +kernel)
theorem w_8_120 : (Jvm.Cond.instanceMethod ({ cls := "StripedVault$Answer", name := "countStretches", desc := "(I)V" } : Jvm.MethodName)) ∈ TG := tw_8 120 (by decide +kernel) (by decide +kernel)
theorem w_8_121 : (Jvm.Cond.code ({ cls := "StripedVault$Answer", name := "countStretches", desc := "(I)V" } : Jvm.MethodName) prog_2_method_23_code (7 : Nat) (Option.none : Option Jvm.ClassFile.FieldType)) ∈ TG := tw_8 121 (by decide +kernel) (by decide +kernel)
theorem w_8_122 : (Jvm.Cond.methodLink "StripedVault$Answer" (235 : Nat) ({ cls := "StripedVault$Answer", name := "pageEnd", desc := "(II)I" } : Jvm.MethodName)) ∈ TG := tw_8 122 (by decide +kernel) (by decide +kernel)
theorem w_8_124 : (Jvm.Cond.instanceMethod ({ cls := "StripedVault$Answer", name := "pageEnd", desc := "(II)I" } : Jvm.MethodName)) ∈ TG := tw_8 124 (by decide +kernel) (by decide +kernel)
theorem w_8_125 : (Jvm.Cond.code ({ cls := "StripedVault$Answer", name := "pageEnd", desc := "(II)I" } : Jvm.MethodName) prog_2_method_24_code (5 : Nat) (Option.some Jvm.ClassFile.FieldType.int)) ∈ TG := tw_8 125 (by decide +kernel) (by decide +kernel)
theorem w_8_126 : (Jvm.Cond.methodLink "StripedVault$Answer" (238 : Nat) ({ cls := "java/lang/Math", name := "min", desc := "(II)I" } : Jvm.MethodName)) ∈ TG := tw_8 126 (by decide +kernel) (by decide +kernel)
theorem w_8_16 : (Jvm.Cond.methodLink "StripedVault" (198 : Nat) ({ cls := "StripedVault$Answer", name := "fill", desc := "(LStripedVault$Vault;LStripedVault$Query;)Z" } : Jvm.MethodName)) ∈ TG := tw_8 16 (by decide +kernel) (by decide +kernel)
theorem w_8_17 : (Jvm.Cond.instanceMethod ({ cls := "StripedVault$Answer", name := "fill", desc := "(LStripedVault$Vault;LStripedVault$Query;)Z" } : Jvm.MethodName)) ∈ TG := tw_8 17 (by decide +kernel) (by decide +kernel)
theorem w_8_18 : (Jvm.Cond.selects "StripedVault$Answer" ({ cls := "StripedVault$Answer", name := "fill", desc := "(LStripedVault$Vault;LStripedVault$Query;)Z" } : Jvm.MethodName) ({ cls := "StripedVault$Answer", name := "fill", desc := "(LStripedVault$Vault;LStripedVault$Query;)Z" } : Jvm.MethodName)) ∈ TG := tw_8 18 (by decide +kernel) (by decide +kernel)
theorem w_8_19 : (Jvm.Cond.code ({ cls := "StripedVault$Answer", name := "fill", desc := "(LStripedVault$Vault;LStripedVault$Query;)Z" } : Jvm.MethodName) prog_2_method_4_code (5 : Nat) (Option.some Jvm.ClassFile.FieldType.boolean)) ∈ TG := tw_8 19 (by decide +kernel) (by decide +kernel)
theorem ws_104 : Cond.selects R_Ans y_Ans_markAsked y_Ans_markAsked ∈ TG := tw_s 104 (by decide +kernel) (by decide +kernel)
theorem ws_105 : Cond.selects R_Ans y_Ans_countStretches y_Ans_countStretches ∈ TG := tw_s 105 (by decide +kernel) (by decide +kernel)
theorem ws_106 : Cond.selects R_Ans y_Ans_pageEnd y_Ans_pageEnd ∈ TG := tw_s 106 (by decide +kernel) (by decide +kernel)
theorem d_Ans_pageEnd_0 : decode b_Ans_pageEnd 0 = .ok (.aload_n 0, 1) := by decide +kernel
theorem d_Ans_pageEnd_1 : decode b_Ans_pageEnd 1 = .ok (.getfield 53, 3) := by decide +kernel
theorem d_Ans_pageEnd_4 : decode b_Ans_pageEnd 4 = .ok (.getfield 222, 3) := by decide +kernel
theorem d_Ans_pageEnd_7 : decode b_Ans_pageEnd 7 = .ok (.iload_n 1, 1) := by decide +kernel
theorem d_Ans_pageEnd_8 : decode b_Ans_pageEnd 8 = .ok (.aload_n 0, 1) := by decide +kernel
theorem d_Ans_pageEnd_9 : decode b_Ans_pageEnd 9 = .ok (.getfield 53, 3) := by decide +kernel
theorem d_Ans_pageEnd_12 : decode b_Ans_pageEnd 12 = .ok (.getfield 99, 3) := by decide +kernel
theorem d_Ans_pageEnd_15 : decode b_Ans_pageEnd 15 = .ok (.getfield 219, 3) := by decide +kernel
theorem d_Ans_pageEnd_18 : decode b_Ans_pageEnd 18 = .ok (.imul, 1) := by decide +kernel
theorem d_Ans_pageEnd_19 : decode b_Ans_pageEnd 19 = .ok (.iload_n 2, 1) := by decide +kernel
theorem d_Ans_pageEnd_20 : decode b_Ans_pageEnd 20 = .ok (.iadd, 1) := by decide +kernel
theorem d_Ans_pageEnd_21 : decode b_Ans_pageEnd 21 = .ok (.iaload, 1) := by decide +kernel
theorem d_Ans_pageEnd_22 : decode b_Ans_pageEnd 22 = .ok (.istore_n 3, 1) := by decide +kernel
theorem d_Ans_pageEnd_23 : decode b_Ans_pageEnd 23 = .ok (.aload_n 0, 1) := by decide +kernel
theorem d_Ans_pageEnd_24 : decode b_Ans_pageEnd 24 = .ok (.getfield 33, 3) := by decide +kernel
theorem d_Ans_pageEnd_27 : decode b_Ans_pageEnd 27 = .ok (.iload_n 2, 1) := by decide +kernel
theorem d_Ans_pageEnd_28 : decode b_Ans_pageEnd 28 = .ok (.iaload, 1) := by decide +kernel
theorem d_Ans_pageEnd_29 : decode b_Ans_pageEnd 29 = .ok (.istore 4, 2) := by decide +kernel
theorem d_Ans_pageEnd_31 : decode b_Ans_pageEnd 31 = .ok (.aload_n 0, 1) := by decide +kernel
theorem d_Ans_pageEnd_32 : decode b_Ans_pageEnd 32 = .ok (.getfield 53, 3) := by decide +kernel
theorem d_Ans_pageEnd_35 : decode b_Ans_pageEnd 35 = .ok (.getfield 243, 3) := by decide +kernel
theorem d_Ans_pageEnd_38 : decode b_Ans_pageEnd 38 = .ok (.iload 4, 2) := by decide +kernel
theorem d_Ans_pageEnd_40 : decode b_Ans_pageEnd 40 = .ok (.iaload, 1) := by decide +kernel
theorem d_Ans_pageEnd_41 : decode b_Ans_pageEnd 41 = .ok (.aload_n 0, 1) := by decide +kernel
theorem d_Ans_pageEnd_42 : decode b_Ans_pageEnd 42 = .ok (.getfield 53, 3) := by decide +kernel
theorem d_Ans_pageEnd_45 : decode b_Ans_pageEnd 45 = .ok (.getfield 246, 3) := by decide +kernel
theorem d_Ans_pageEnd_48 : decode b_Ans_pageEnd 48 = .ok (.iload 4, 2) := by decide +kernel
theorem d_Ans_pageEnd_50 : decode b_Ans_pageEnd 50 = .ok (.iaload, 1) := by decide +kernel
theorem d_Ans_pageEnd_51 : decode b_Ans_pageEnd 51 = .ok (.iadd, 1) := by decide +kernel
theorem d_Ans_pageEnd_52 : decode b_Ans_pageEnd 52 = .ok (.aload_n 0, 1) := by decide +kernel
theorem d_Ans_pageEnd_53 : decode b_Ans_pageEnd 53 = .ok (.getfield 53, 3) := by decide +kernel
theorem d_Ans_pageEnd_56 : decode b_Ans_pageEnd 56 = .ok (.getfield 243, 3) := by decide +kernel
theorem d_Ans_pageEnd_59 : decode b_Ans_pageEnd 59 = .ok (.iload_n 3, 1) := by decide +kernel
theorem d_Ans_pageEnd_60 : decode b_Ans_pageEnd 60 = .ok (.iaload, 1) := by decide +kernel
theorem d_Ans_pageEnd_61 : decode b_Ans_pageEnd 61 = .ok (.isub, 1) := by decide +kernel
theorem d_Ans_pageEnd_62 : decode b_Ans_pageEnd 62 = .ok (.ireturn, 1) := by decide +kernel
theorem d_Ans_countStretches_187 : decode b_Ans_countStretches 187 = .ok (.iinc 6 1, 3) := by decide +kernel
theorem d_Ans_countStretches_190 : decode b_Ans_countStretches 190 = .ok (.goto (-48), 3) := by decide +kernel
theorem d_Ans_countStretches_142 : decode b_Ans_countStretches 142 = .ok (.iload 6, 2) := by decide +kernel
theorem d_Ans_countStretches_144 : decode b_Ans_countStretches 144 = .ok (.iload_n 2, 1) := by decide +kernel
theorem d_Ans_countStretches_145 : decode b_Ans_countStretches 145 = .ok (.if_icmp .ge 48, 3) := by decide +kernel
theorem d_Ans_countStretches_193 : decode b_Ans_countStretches 193 = .ok (.iinc 5 1, 3) := by decide +kernel
theorem d_Ans_countStretches_196 : decode b_Ans_countStretches 196 = .ok (.goto (-131), 3) := by decide +kernel
theorem d_Ans_countStretches_148 : decode b_Ans_countStretches 148 = .ok (.aload_n 0, 1) := by decide +kernel
theorem d_Ans_countStretches_149 : decode b_Ans_countStretches 149 = .ok (.getfield 36, 3) := by decide +kernel
theorem d_Ans_countStretches_152 : decode b_Ans_countStretches 152 = .ok (.iload 6, 2) := by decide +kernel
theorem d_Ans_countStretches_154 : decode b_Ans_countStretches 154 = .ok (.baload, 1) := by decide +kernel
theorem d_Ans_countStretches_155 : decode b_Ans_countStretches 155 = .ok (.ifCond .eq 32, 3) := by decide +kernel
theorem d_Ans_countStretches_158 : decode b_Ans_countStretches 158 = .ok (.iload 4, 2) := by decide +kernel
theorem d_Ans_countStretches_160 : decode b_Ans_countStretches 160 = .ok (.iload_n 3, 1) := by decide +kernel
theorem d_Ans_countStretches_161 : decode b_Ans_countStretches 161 = .ok (.if_icmp .ge 26, 3) := by decide +kernel
theorem d_Ans_countStretches_164 : decode b_Ans_countStretches 164 = .ok (.aload_n 0, 1) := by decide +kernel
theorem d_Ans_countStretches_165 : decode b_Ans_countStretches 165 = .ok (.iload_n 1, 1) := by decide +kernel
theorem d_Ans_countStretches_166 : decode b_Ans_countStretches 166 = .ok (.iload 6, 2) := by decide +kernel
theorem d_Ans_countStretches_168 : decode b_Ans_countStretches 168 = .ok (.invokevirtual 235, 3) := by decide +kernel
theorem d_Ans_countStretches_171 : decode b_Ans_countStretches 171 = .ok (.iload 4, 2) := by decide +kernel
theorem d_Ans_countStretches_173 : decode b_Ans_countStretches 173 = .ok (.if_icmp .ne 14, 3) := by decide +kernel
theorem d_Ans_countStretches_176 : decode b_Ans_countStretches 176 = .ok (.aload_n 0, 1) := by decide +kernel
theorem d_Ans_countStretches_177 : decode b_Ans_countStretches 177 = .ok (.getfield 33, 3) := by decide +kernel
theorem d_Ans_countStretches_180 : decode b_Ans_countStretches 180 = .ok (.iload 6, 2) := by decide +kernel
theorem d_Ans_countStretches_182 : decode b_Ans_countStretches 182 = .ok (.dup2, 1) := by decide +kernel
theorem d_Ans_countStretches_183 : decode b_Ans_countStretches 183 = .ok (.iaload, 1) := by decide +kernel
theorem d_Ans_countStretches_184 : decode b_Ans_countStretches 184 = .ok (.iconst 1, 1) := by decide +kernel
theorem d_Ans_countStretches_185 : decode b_Ans_countStretches 185 = .ok (.iadd, 1) := by decide +kernel
theorem d_Ans_countStretches_186 : decode b_Ans_countStretches 186 = .ok (.iastore, 1) := by decide +kernel
theorem d_Ans_countStretches_133 : decode b_Ans_countStretches 133 = .ok (.iinc 6 1, 3) := by decide +kernel
theorem d_Ans_countStretches_136 : decode b_Ans_countStretches 136 = .ok (.goto (-33), 3) := by decide +kernel
theorem d_Ans_countStretches_103 : decode b_Ans_countStretches 103 = .ok (.iload 6, 2) := by decide +kernel
theorem d_Ans_countStretches_105 : decode b_Ans_countStretches 105 = .ok (.iload_n 2, 1) := by decide +kernel
theorem d_Ans_countStretches_106 : decode b_Ans_countStretches 106 = .ok (.if_icmp .ge 33, 3) := by decide +kernel
theorem d_Ans_countStretches_139 : decode b_Ans_countStretches 139 = .ok (.iconst 0, 1) := by decide +kernel
theorem d_Ans_countStretches_140 : decode b_Ans_countStretches 140 = .ok (.istore 6, 2) := by decide +kernel
theorem d_Ans_countStretches_109 : decode b_Ans_countStretches 109 = .ok (.aload_n 0, 1) := by decide +kernel
theorem d_Ans_countStretches_110 : decode b_Ans_countStretches 110 = .ok (.getfield 36, 3) := by decide +kernel
theorem d_Ans_countStretches_113 : decode b_Ans_countStretches 113 = .ok (.iload 6, 2) := by decide +kernel
theorem d_Ans_countStretches_115 : decode b_Ans_countStretches 115 = .ok (.baload, 1) := by decide +kernel
theorem d_Ans_countStretches_116 : decode b_Ans_countStretches 116 = .ok (.ifCond .eq 17, 3) := by decide +kernel
theorem d_Ans_countStretches_119 : decode b_Ans_countStretches 119 = .ok (.iload 4, 2) := by decide +kernel
theorem d_Ans_countStretches_121 : decode b_Ans_countStretches 121 = .ok (.aload_n 0, 1) := by decide +kernel
theorem d_Ans_countStretches_122 : decode b_Ans_countStretches 122 = .ok (.iload_n 1, 1) := by decide +kernel
theorem d_Ans_countStretches_123 : decode b_Ans_countStretches 123 = .ok (.iload 6, 2) := by decide +kernel
theorem d_Ans_countStretches_125 : decode b_Ans_countStretches 125 = .ok (.invokevirtual 235, 3) := by decide +kernel
theorem d_Ans_countStretches_128 : decode b_Ans_countStretches 128 = .ok (.invokestatic 238, 3) := by decide +kernel
theorem d_Ans_countStretches_131 : decode b_Ans_countStretches 131 = .ok (.istore 4, 2) := by decide +kernel
theorem d_Ans_countStretches_97 : decode b_Ans_countStretches 97 = .ok (.iload_n 3, 1) := by decide +kernel
theorem d_Ans_countStretches_98 : decode b_Ans_countStretches 98 = .ok (.istore 4, 2) := by decide +kernel
theorem d_Ans_countStretches_100 : decode b_Ans_countStretches 100 = .ok (.iconst 0, 1) := by decide +kernel
theorem d_Ans_countStretches_101 : decode b_Ans_countStretches 101 = .ok (.istore 6, 2) := by decide +kernel
theorem d_Ans_countStretches_65 : decode b_Ans_countStretches 65 = .ok (.iload 5, 2) := by decide +kernel
theorem d_Ans_countStretches_67 : decode b_Ans_countStretches 67 = .ok (.iload_n 3, 1) := by decide +kernel
theorem d_Ans_countStretches_68 : decode b_Ans_countStretches 68 = .ok (.if_icmp .ge 131, 3) := by decide +kernel
theorem d_Ans_countStretches_199 : decode b_Ans_countStretches 199 = .ok (.return_, 1) := by decide +kernel
theorem d_Ans_countStretches_71 : decode b_Ans_countStretches 71 = .ok (.iload 4, 2) := by decide +kernel
theorem d_Ans_countStretches_73 : decode b_Ans_countStretches 73 = .ok (.iload_n 3, 1) := by decide +kernel
theorem d_Ans_countStretches_74 : decode b_Ans_countStretches 74 = .ok (.if_icmp .ge 125, 3) := by decide +kernel
theorem d_Ans_countStretches_77 : decode b_Ans_countStretches 77 = .ok (.aload_n 0, 1) := by decide +kernel
theorem d_Ans_countStretches_78 : decode b_Ans_countStretches 78 = .ok (.iconst (-1), 1) := by decide +kernel
theorem d_Ans_countStretches_79 : decode b_Ans_countStretches 79 = .ok (.invokevirtual 85, 3) := by decide +kernel
theorem d_Ans_countStretches_82 : decode b_Ans_countStretches 82 = .ok (.iconst 2, 1) := by decide +kernel
theorem d_Ans_countStretches_83 : decode b_Ans_countStretches 83 = .ok (.iand, 1) := by decide +kernel
theorem d_Ans_countStretches_84 : decode b_Ans_countStretches 84 = .ok (.ifCond .ne 13, 3) := by decide +kernel
theorem d_Ans_countStretches_87 : decode b_Ans_countStretches 87 = .ok (.aload_n 0, 1) := by decide +kernel
theorem d_Ans_countStretches_88 : decode b_Ans_countStretches 88 = .ok (.dup, 1) := by decide +kernel
theorem d_Ans_countStretches_89 : decode b_Ans_countStretches 89 = .ok (.getfield 210, 3) := by decide +kernel
theorem d_Ans_countStretches_92 : decode b_Ans_countStretches 92 = .ok (.iconst 1, 1) := by decide +kernel
theorem d_Ans_countStretches_93 : decode b_Ans_countStretches 93 = .ok (.iadd, 1) := by decide +kernel
theorem d_Ans_countStretches_94 : decode b_Ans_countStretches 94 = .ok (.putfield 210, 3) := by decide +kernel
theorem d_Ans_countStretches_36 : decode b_Ans_countStretches 36 = .ok (.iload 4, 2) := by decide +kernel
theorem d_Ans_countStretches_38 : decode b_Ans_countStretches 38 = .ok (.iload_n 2, 1) := by decide +kernel
theorem d_Ans_countStretches_39 : decode b_Ans_countStretches 39 = .ok (.if_icmp .ge 20, 3) := by decide +kernel
theorem d_Ans_countStretches_59 : decode b_Ans_countStretches 59 = .ok (.iconst 0, 1) := by decide +kernel
theorem d_Ans_countStretches_60 : decode b_Ans_countStretches 60 = .ok (.istore 4, 2) := by decide +kernel
theorem d_Ans_countStretches_62 : decode b_Ans_countStretches 62 = .ok (.iconst 0, 1) := by decide +kernel
theorem d_Ans_countStretches_63 : decode b_Ans_countStretches 63 = .ok (.istore 5, 2) := by decide +kernel
theorem d_Ans_countStretches_42 : decode b_Ans_countStretches 42 = .ok (.aload_n 0, 1) := by decide +kernel
theorem d_Ans_countStretches_43 : decode b_Ans_countStretches 43 = .ok (.getfield 33, 3) := by decide +kernel
theorem d_Ans_countStretches_46 : decode b_Ans_countStretches 46 = .ok (.iload 4, 2) := by decide +kernel
theorem d_Ans_countStretches_48 : decode b_Ans_countStretches 48 = .ok (.dup2, 1) := by decide +kernel
theorem d_Ans_countStretches_49 : decode b_Ans_countStretches 49 = .ok (.iaload, 1) := by decide +kernel
theorem d_Ans_countStretches_50 : decode b_Ans_countStretches 50 = .ok (.iconst 1, 1) := by decide +kernel
theorem d_Ans_countStretches_51 : decode b_Ans_countStretches 51 = .ok (.iadd, 1) := by decide +kernel
theorem d_Ans_countStretches_52 : decode b_Ans_countStretches 52 = .ok (.iastore, 1) := by decide +kernel
theorem d_Ans_countStretches_53 : decode b_Ans_countStretches 53 = .ok (.iinc 4 1, 3) := by decide +kernel
theorem d_Ans_countStretches_56 : decode b_Ans_countStretches 56 = .ok (.goto (-20), 3) := by decide +kernel
theorem d_Ans_countStretches_0 : decode b_Ans_countStretches 0 = .ok (.aload_n 0, 1) := by decide +kernel
theorem d_Ans_countStretches_1 : decode b_Ans_countStretches 1 = .ok (.getfield 53, 3) := by decide +kernel
theorem d_Ans_countStretches_4 : decode b_Ans_countStretches 4 = .ok (.getfield 99, 3) := by decide +kernel
theorem d_Ans_countStretches_7 : decode b_Ans_countStretches 7 = .ok (.getfield 219, 3) := by decide +kernel
theorem d_Ans_countStretches_10 : decode b_Ans_countStretches 10 = .ok (.istore_n 2, 1) := by decide +kernel
theorem d_Ans_countStretches_11 : decode b_Ans_countStretches 11 = .ok (.aload_n 0, 1) := by decide +kernel
theorem d_Ans_countStretches_12 : decode b_Ans_countStretches 12 = .ok (.getfield 53, 3) := by decide +kernel
theorem d_Ans_countStretches_15 : decode b_Ans_countStretches 15 = .ok (.getfield 232, 3) := by decide +kernel
theorem d_Ans_countStretches_18 : decode b_Ans_countStretches 18 = .ok (.iload_n 1, 1) := by decide +kernel
theorem d_Ans_countStretches_19 : decode b_Ans_countStretches 19 = .ok (.iconst 1, 1) := by decide +kernel
theorem d_Ans_countStretches_20 : decode b_Ans_countStretches 20 = .ok (.iadd, 1) := by decide +kernel
theorem d_Ans_countStretches_21 : decode b_Ans_countStretches 21 = .ok (.iaload, 1) := by decide +kernel
theorem d_Ans_countStretches_22 : decode b_Ans_countStretches 22 = .ok (.aload_n 0, 1) := by decide +kernel
theorem d_Ans_countStretches_23 : decode b_Ans_countStretches 23 = .ok (.getfield 53, 3) := by decide +kernel
theorem d_Ans_countStretches_26 : decode b_Ans_countStretches 26 = .ok (.getfield 232, 3) := by decide +kernel
theorem d_Ans_countStretches_29 : decode b_Ans_countStretches 29 = .ok (.iload_n 1, 1) := by decide +kernel
theorem d_Ans_countStretches_30 : decode b_Ans_countStretches 30 = .ok (.iaload, 1) := by decide +kernel
theorem d_Ans_countStretches_31 : decode b_Ans_countStretches 31 = .ok (.isub, 1) := by decide +kernel
theorem d_Ans_countStretches_32 : decode b_Ans_countStretches 32 = .ok (.istore_n 3, 1) := by decide +kernel
theorem d_Ans_countStretches_33 : decode b_Ans_countStretches 33 = .ok (.iconst 0, 1) := by decide +kernel
theorem d_Ans_countStretches_34 : decode b_Ans_countStretches 34 = .ok (.istore 4, 2) := by decide +kernel
theorem d_Ans_countSkipped_115 : decode b_Ans_countSkipped 115 = .ok (.iinc 1 1, 3) := by decide +kernel
theorem d_Ans_countSkipped_118 : decode b_Ans_countSkipped 118 = .ok (.goto (-102), 3) := by decide +kernel
theorem d_Ans_countSkipped_39 : decode b_Ans_countSkipped 39 = .ok (.iload_n 2, 1) := by decide +kernel
theorem d_Ans_countSkipped_40 : decode b_Ans_countSkipped 40 = .ok (.aload_n 0, 1) := by decide +kernel
theorem d_Ans_countSkipped_41 : decode b_Ans_countSkipped 41 = .ok (.getfield 53, 3) := by decide +kernel
theorem d_Ans_countSkipped_44 : decode b_Ans_countSkipped 44 = .ok (.getfield 99, 3) := by decide +kernel
theorem d_Ans_countSkipped_47 : decode b_Ans_countSkipped 47 = .ok (.getfield 219, 3) := by decide +kernel
theorem d_Ans_countSkipped_50 : decode b_Ans_countSkipped 50 = .ok (.if_icmp .ge 37, 3) := by decide +kernel
theorem d_Ans_countSkipped_87 : decode b_Ans_countSkipped 87 = .ok (.aload_n 0, 1) := by decide +kernel
theorem d_Ans_countSkipped_88 : decode b_Ans_countSkipped 88 = .ok (.iconst (-1), 1) := by decide +kernel
theorem d_Ans_countSkipped_89 : decode b_Ans_countSkipped 89 = .ok (.invokevirtual 85, 3) := by decide +kernel
theorem d_Ans_countSkipped_92 : decode b_Ans_countSkipped 92 = .ok (.iconst 2, 1) := by decide +kernel
theorem d_Ans_countSkipped_93 : decode b_Ans_countSkipped 93 = .ok (.iand, 1) := by decide +kernel
theorem d_Ans_countSkipped_94 : decode b_Ans_countSkipped 94 = .ok (.ifCond .ne 16, 3) := by decide +kernel
theorem d_Ans_countSkipped_110 : decode b_Ans_countSkipped 110 = .ok (.aload_n 0, 1) := by decide +kernel
theorem d_Ans_countSkipped_111 : decode b_Ans_countSkipped 111 = .ok (.iload_n 1, 1) := by decide +kernel
theorem d_Ans_countSkipped_112 : decode b_Ans_countSkipped 112 = .ok (.invokevirtual 225, 3) := by decide +kernel
theorem d_Ans_countSkipped_97 : decode b_Ans_countSkipped 97 = .ok (.aload_n 0, 1) := by decide +kernel
theorem d_Ans_countSkipped_98 : decode b_Ans_countSkipped 98 = .ok (.dup, 1) := by decide +kernel
theorem d_Ans_countSkipped_99 : decode b_Ans_countSkipped 99 = .ok (.getfield 207, 3) := by decide +kernel
theorem d_Ans_countSkipped_102 : decode b_Ans_countSkipped 102 = .ok (.iconst 1, 1) := by decide +kernel
theorem d_Ans_countSkipped_103 : decode b_Ans_countSkipped 103 = .ok (.iadd, 1) := by decide +kernel
theorem d_Ans_countSkipped_104 : decode b_Ans_countSkipped 104 = .ok (.putfield 207, 3) := by decide +kernel
theorem d_Ans_countSkipped_107 : decode b_Ans_countSkipped 107 = .ok (.goto 8, 3) := by decide +kernel
theorem d_Ans_countSkipped_53 : decode b_Ans_countSkipped 53 = .ok (.aload_n 0, 1) := by decide +kernel
theorem d_Ans_countSkipped_54 : decode b_Ans_countSkipped 54 = .ok (.getfield 33, 3) := by decide +kernel
theorem d_Ans_countSkipped_57 : decode b_Ans_countSkipped 57 = .ok (.iload_n 2, 1) := by decide +kernel
theorem d_Ans_countSkipped_58 : decode b_Ans_countSkipped 58 = .ok (.aload_n 0, 1) := by decide +kernel
theorem d_Ans_countSkipped_59 : decode b_Ans_countSkipped 59 = .ok (.getfield 53, 3) := by decide +kernel
theorem d_Ans_countSkipped_62 : decode b_Ans_countSkipped 62 = .ok (.getfield 222, 3) := by decide +kernel
theorem d_Ans_countSkipped_65 : decode b_Ans_countSkipped 65 = .ok (.iload_n 1, 1) := by decide +kernel
theorem d_Ans_countSkipped_66 : decode b_Ans_countSkipped 66 = .ok (.aload_n 0, 1) := by decide +kernel
theorem d_Ans_countSkipped_67 : decode b_Ans_countSkipped 67 = .ok (.getfield 53, 3) := by decide +kernel
theorem d_Ans_countSkipped_70 : decode b_Ans_countSkipped 70 = .ok (.getfield 99, 3) := by decide +kernel
theorem d_Ans_countSkipped_73 : decode b_Ans_countSkipped 73 = .ok (.getfield 219, 3) := by decide +kernel
theorem d_Ans_countSkipped_76 : decode b_Ans_countSkipped 76 = .ok (.imul, 1) := by decide +kernel
theorem d_Ans_countSkipped_77 : decode b_Ans_countSkipped 77 = .ok (.iload_n 2, 1) := by decide +kernel
theorem d_Ans_countSkipped_78 : decode b_Ans_countSkipped 78 = .ok (.iadd, 1) := by decide +kernel
theorem d_Ans_countSkipped_79 : decode b_Ans_countSkipped 79 = .ok (.iaload, 1) := by decide +kernel
theorem d_Ans_countSkipped_80 : decode b_Ans_countSkipped 80 = .ok (.iastore, 1) := by decide +kernel
theorem d_Ans_countSkipped_81 : decode b_Ans_countSkipped 81 = .ok (.iinc 2 1, 3) := by decide +kernel
theorem d_Ans_countSkipped_84 : decode b_Ans_countSkipped 84 = .ok (.goto (-45), 3) := by decide +kernel
theorem d_Ans_countSkipped_16 : decode b_Ans_countSkipped 16 = .ok (.iload_n 1, 1) := by decide +kernel
theorem d_Ans_countSkipped_17 : decode b_Ans_countSkipped 17 = .ok (.aload_n 0, 1) := by decide +kernel
theorem d_Ans_countSkipped_18 : decode b_Ans_countSkipped 18 = .ok (.getfield 53, 3) := by decide +kernel
theorem d_Ans_countSkipped_21 : decode b_Ans_countSkipped 21 = .ok (.getfield 216, 3) := by decide +kernel
theorem d_Ans_countSkipped_24 : decode b_Ans_countSkipped 24 = .ok (.if_icmp .ge 97, 3) := by decide +kernel
theorem d_Ans_countSkipped_121 : decode b_Ans_countSkipped 121 = .ok (.return_, 1) := by decide +kernel
theorem d_Ans_countSkipped_27 : decode b_Ans_countSkipped 27 = .ok (.aload_n 0, 1) := by decide +kernel
theorem d_Ans_countSkipped_28 : decode b_Ans_countSkipped 28 = .ok (.getfield 57, 3) := by decide +kernel
theorem d_Ans_countSkipped_31 : decode b_Ans_countSkipped 31 = .ok (.getfield 82, 3) := by decide +kernel
theorem d_Ans_countSkipped_34 : decode b_Ans_countSkipped 34 = .ok (.ifCond .le 87, 3) := by decide +kernel
theorem d_Ans_countSkipped_37 : decode b_Ans_countSkipped 37 = .ok (.iconst 0, 1) := by decide +kernel
theorem d_Ans_countSkipped_38 : decode b_Ans_countSkipped 38 = .ok (.istore_n 2, 1) := by decide +kernel
theorem d_Ans_countSkipped_0 : decode b_Ans_countSkipped 0 = .ok (.aload_n 0, 1) := by decide +kernel
theorem d_Ans_countSkipped_1 : decode b_Ans_countSkipped 1 = .ok (.iconst 0, 1) := by decide +kernel
theorem d_Ans_countSkipped_2 : decode b_Ans_countSkipped 2 = .ok (.putfield 207, 3) := by decide +kernel
theorem d_Ans_countSkipped_5 : decode b_Ans_countSkipped 5 = .ok (.aload_n 0, 1) := by decide +kernel
theorem d_Ans_countSkipped_6 : decode b_Ans_countSkipped 6 = .ok (.iconst 0, 1) := by decide +kernel
theorem d_Ans_countSkipped_7 : decode b_Ans_countSkipped 7 = .ok (.putfield 210, 3) := by decide +kernel
theorem d_Ans_countSkipped_10 : decode b_Ans_countSkipped 10 = .ok (.aload_n 0, 1) := by decide +kernel
theorem d_Ans_countSkipped_11 : decode b_Ans_countSkipped 11 = .ok (.invokevirtual 213, 3) := by decide +kernel
theorem d_Ans_countSkipped_14 : decode b_Ans_countSkipped 14 = .ok (.iconst 0, 1) := by decide +kernel
theorem d_Ans_countSkipped_15 : decode b_Ans_countSkipped 15 = .ok (.istore_n 1, 1) := by decide +kernel
theorem d_V_run_28 : decode b_V_run 28 = .ok (.iconst (-1), 1) := by decide +kernel
theorem d_V_run_29 : decode b_V_run 29 = .ok (.ireturn, 1) := by decide +kernel
theorem d_V_run_0 : decode b_V_run 0 = .ok (.aload_n 0, 1) := by decide +kernel
theorem d_V_run_1 : decode b_V_run 1 = .ok (.getfield 75, 3) := by decide +kernel
theorem d_V_run_4 : decode b_V_run 4 = .ok (.getfield 167, 3) := by decide +kernel
theorem d_V_run_7 : decode b_V_run 7 = .ok (.ifCond .eq 21, 3) := by decide +kernel
theorem d_V_run_10 : decode b_V_run 10 = .ok (.aload_n 0, 1) := by decide +kernel
theorem d_V_run_11 : decode b_V_run 11 = .ok (.getfield 89, 3) := by decide +kernel
theorem d_V_run_14 : decode b_V_run 14 = .ok (.aload_n 0, 1) := by decide +kernel
theorem d_V_run_15 : decode b_V_run 15 = .ok (.getfield 59, 3) := by decide +kernel
theorem d_V_run_18 : decode b_V_run 18 = .ok (.aload_n 0, 1) := by decide +kernel
theorem d_V_run_19 : decode b_V_run 19 = .ok (.getfield 75, 3) := by decide +kernel
theorem d_V_run_22 : decode b_V_run 22 = .ok (.invokevirtual 198, 3) := by decide +kernel
theorem d_V_run_25 : decode b_V_run 25 = .ok (.ifCond .ne 5, 3) := by decide +kernel
theorem d_V_run_30 : decode b_V_run 30 = .ok (.aload_n 0, 1) := by decide +kernel
theorem d_V_run_31 : decode b_V_run 31 = .ok (.getfield 85, 3) := by decide +kernel
theorem d_V_run_34 : decode b_V_run 34 = .ok (.astore_n 1, 1) := by decide +kernel
theorem d_V_run_35 : decode b_V_run 35 = .ok (.aload_n 0, 1) := by decide +kernel
theorem d_V_run_36 : decode b_V_run 36 = .ok (.aload_n 0, 1) := by decide +kernel
theorem d_V_run_37 : decode b_V_run 37 = .ok (.getfield 89, 3) := by decide +kernel
theorem d_V_run_40 : decode b_V_run 40 = .ok (.putfield 85, 3) := by decide +kernel
theorem d_V_run_43 : decode b_V_run 43 = .ok (.aload_n 0, 1) := by decide +kernel
theorem d_V_run_44 : decode b_V_run 44 = .ok (.aload_n 1, 1) := by decide +kernel
theorem d_V_run_45 : decode b_V_run 45 = .ok (.putfield 89, 3) := by decide +kernel
theorem d_V_run_48 : decode b_V_run 48 = .ok (.aload_n 0, 1) := by decide +kernel
theorem d_V_run_49 : decode b_V_run 49 = .ok (.getfield 85, 3) := by decide +kernel
theorem d_V_run_52 : decode b_V_run 52 = .ok (.invokevirtual 202, 3) := by decide +kernel
theorem d_V_run_55 : decode b_V_run 55 = .ok (.aload_n 0, 1) := by decide +kernel
theorem d_V_run_56 : decode b_V_run 56 = .ok (.getfield 85, 3) := by decide +kernel
theorem d_V_run_59 : decode b_V_run 59 = .ok (.iconst 1, 1) := by decide +kernel
theorem d_V_run_60 : decode b_V_run 60 = .ok (.putfield 168, 3) := by decide +kernel
theorem d_V_run_63 : decode b_V_run 63 = .ok (.aload_n 0, 1) := by decide +kernel
theorem d_V_run_64 : decode b_V_run 64 = .ok (.getfield 85, 3) := by decide +kernel
theorem d_V_run_67 : decode b_V_run 67 = .ok (.getfield 205, 3) := by decide +kernel
theorem d_V_run_70 : decode b_V_run 70 = .ok (.ireturn, 1) := by decide +kernel
section
variable (l : Launch) (dC : Nat → ClassId) (dI : Nat → Nat → Nat) (cI cB cJ cZ : ClassId)
set_option maxRecDepth 100000 in
set_option maxHeartbeats 4000000 in
set_option maxRecDepth 100000 in
theorem t_Ans_pageEnd_e {p : Program} {l : Launch} {e : Env} {R : Room} {s : State} {m : MethodId} {args : Array Value} {below : List Frame} {meth : Method} {c : Code} {cells slots : Nat} {Q : State → Prop} {dC : Nat → ClassId} {dI : Nat → Nat → Nat} {cI cB cJ cZ : ClassId} {A : Nat → Prop} {ad : Nat → Nat} {NN : Nat} {E : Heap} {tM tC : Nat} {kK kV : Nat → Nat} {post : Int32 → St → Prop} (hx : p.tables.exec = Jvm.exec) (hb : c.code = b_Ans_pageEnd) (hml : c.maxLocals = 5) (hown : s.vm.findClass R_Ans = some m.cls) (hT : ∀ w ∈ TG, w.before args s = true) (hK : va_K (dC, dI) CL (TY cI cB cJ cZ) s) (hN : NW s) (hA : ∀ q : Nat, s.heap.size ≤ q → A q) (hRc : cells ≤ R.cells) (hRs : slots ≤ R.slots) (hRf : 0 ≤ R.frames) (hRl : 0 ≤ R.locals) (hNN : 152 ≤ NN) (hE : CE E tM tC kK kV A s) (hret : ∀ (r : Int32) (x : St) (H : Heap) (locs : List Loc) (pc : Nat) (ls : Array Slot), decode b_Ans_pageEnd pc = .ok (.ireturn, 1) → post r x → Wd dC dI cI cB cJ cZ ad stC kcC NN A x H → va_S A s.heap H locs → W p l e R s m args below meth c H locs cells slots Q (F0 m pc ls [.int r])) : ∀ (o : Nat) (l1 : Int32) (l2 : Int32) (x : St) (H : Heap) (locs : List Loc) (ls : Array Slot), (o < NN ∧ kcC o = 10) → wp_Ans_pageEnd post o l1 l2 x → Wd dC dI cI cB cJ cZ ad stC kcC NN A x H → va_S A s.heap H locs → lv_has ls 5 [(0, .ref (ad o)), (1, .int l1), (2, .int l2)] → W p l e R s m args below meth c H locs cells slots Q (F0 m 0 ls []) := by
  intro o l1 l2 x H locs ls fo hw hW hS hl
  unfold wp_Ans_pageEnd at hw
  refine lv_aload_n hx hb d_Ans_pageEnd_0 rfl (lv_at hl 0 rfl) ?_
  obtain ⟨q1, hq1, hw⟩ := hw
  refine w_getr (q := q1) (k := 14) (t := 10) (C := R_Ans) (T := F_Ans) (N := 16) hx hb hT hown hK hW fo.1 fo.2 (by decide) in_Ans rfl rfl (by decide) rfl fr_Ans_14 w_3_176 d_Ans_pageEnd_1 hq1 (fun aq1 bq1 => ?_)
  have fq1 : q1 < NN ∧ kcC q1 = 6 := ⟨aq1, bq1⟩
  refine w_getf (q := (stC q1 12)) (k := 12) (t := 6) (C := R_Vlt) (T := F_Vlt) (N := 20) hx hb hT hown hK hW fq1.1 fq1.2 (by decide) in_Vlt rfl rfl (by decide) rfl fr_Vlt_12 w_2_161 d_Ans_pageEnd_4 rfl ?_
  refine lv_iload_n hx hb d_Ans_pageEnd_7 rfl (lv_at hl 1 rfl) ?_
  refine lv_aload_n hx hb d_Ans_pageEnd_8 rfl (lv_at hl 0 rfl) ?_
  obtain ⟨q2, hq2, hw⟩ := hw
  refine w_getr (q := q2) (k := 14) (t := 10) (C := R_Ans) (T := F_Ans) (N := 16) hx hb hT hown hK hW fo.1 fo.2 (by decide) in_Ans rfl rfl (by decide) rfl fr_Ans_14 w_3_176 d_Ans_pageEnd_9 hq2 (fun aq2 bq2 => ?_)
  have fq2 : q2 < NN ∧ kcC q2 = 6 := ⟨aq2, bq2⟩
  refine w_getf (q := (stC q2 5)) (k := 5) (t := 6) (C := R_Vlt) (T := F_Vlt) (N := 20) hx hb hT hown hK hW fq2.1 fq2.2 (by decide) in_Vlt rfl rfl (by decide) rfl fr_Vlt_5 w_2_137 d_Ans_pageEnd_12 rfl ?_
  refine w_geti (k := 1) (t := 3) (C := R_Sch) (T := F_Sch) (N := 13) hx hb hT hown hK hW (st_ty hNN fq2.1 fq2.2 rfl).1 (st_ty hNN fq2.1 fq2.2 rfl).2 (by decide) in_Sch rfl rfl (by decide) rfl fr_Sch_1 w_1_139 d_Ans_pageEnd_15 ?_
  refine lv_imul hx hb d_Ans_pageEnd_18 ?_
  refine lv_iload_n hx hb d_Ans_pageEnd_19 rfl (lv_at hl 2 rfl) ?_
  refine lv_iadd hx hb d_Ans_pageEnd_20 ?_
  obtain ⟨hi, hw⟩ := hw
  refine w_iald (o := (stC q1 12)) hx hb hK hW (st_ty hNN fq1.1 fq1.2 rfl).1 (st_ty hNN fq1.1 fq1.2 rfl).2 hi d_Ans_pageEnd_21 ?_
  refine lv_topi (fun v3 ev3 => ?_)
  have hw := hw v3 ev3
  refine lv_istore_n (lv' := [(3, .int v3), (0, .ref (ad o)), (1, .int l1), (2, .int l2)]) hx hb d_Ans_pageEnd_22 rfl hl (by decide) rfl (fun ls hl => ?_)
  refine lv_aload_n hx hb d_Ans_pageEnd_23 rfl (lv_at hl 1 rfl) ?_
  refine w_getf (q := (stC o 12)) (k := 12) (t := 10) (C := R_Ans) (T := F_Ans) (N := 16) hx hb hT hown hK hW fo.1 fo.2 (by decide) in_Ans rfl rfl (by decide) rfl fr_Ans_12 w_3_174 d_Ans_pageEnd_24 rfl ?_
  refine lv_iload_n hx hb d_Ans_pageEnd_27 rfl (lv_at hl 3 rfl) ?_
  obtain ⟨hi, hw⟩ := hw
  refine w_iald (o := (stC o 12)) hx hb hK hW (st_ty hNN fo.1 fo.2 rfl).1 (st_ty hNN fo.1 fo.2 rfl).2 hi d_Ans_pageEnd_28 ?_
  refine lv_topi (fun v4 ev4 => ?_)
  have hw := hw v4 ev4
  refine lv_istore (lv' := [(4, .int v4), (3, .int v3), (0, .ref (ad o)), (1, .int l1), (2, .int l2)]) hx hb d_Ans_pageEnd_29 hl (by decide) rfl (fun ls hl => ?_)
  refine lv_aload_n hx hb d_Ans_pageEnd_31 rfl (lv_at hl 2 rfl) ?_
  obtain ⟨q5, hq5, hw⟩ := hw
  refine w_getr (q := q5) (k := 14) (t := 10) (C := R_Ans) (T := F_Ans) (N := 16) hx hb hT hown hK hW fo.1 fo.2 (by decide) in_Ans rfl rfl (by decide) rfl fr_Ans_14 w_3_176 d_Ans_pageEnd_32 hq5 (fun aq5 bq5 => ?_)
  have fq5 : q5 < NN ∧ kcC q5 = 6 := ⟨aq5, bq5⟩
  refine w_getf (q := (stC q5 13)) (k := 13) (t := 6) (C := R_Vlt) (T := F_Vlt) (N := 20) hx hb hT hown hK hW fq5.1 fq5.2 (by decide) in_Vlt rfl rfl (by decide) rfl fr_Vlt_13 w_2_164 d_Ans_pageEnd_35 rfl ?_
  refine lv_iload hx hb d_Ans_pageEnd_38 (lv_at hl 0 rfl) ?_
  obtain ⟨hi, hw⟩ := hw
  refine w_iald (o := (stC q5 13)) hx hb hK hW (st_ty hNN fq5.1 fq5.2 rfl).1 (st_ty hNN fq5.1 fq5.2 rfl).2 hi d_Ans_pageEnd_40 ?_
  refine lv_aload_n hx hb d_Ans_pageEnd_41 rfl (lv_at hl 2 rfl) ?_
  obtain ⟨q6, hq6, hw⟩ := hw
  refine w_getr (q := q6) (k := 14) (t := 10) (C := R_Ans) (T := F_Ans) (N := 16) hx hb hT hown hK hW fo.1 fo.2 (by decide) in_Ans rfl rfl (by decide) rfl fr_Ans_14 w_3_176 d_Ans_pageEnd_42 hq6 (fun aq6 bq6 => ?_)
  have fq6 : q6 < NN ∧ kcC q6 = 6 := ⟨aq6, bq6⟩
  refine w_getf (q := (stC q6 14)) (k := 14) (t := 6) (C := R_Vlt) (T := F_Vlt) (N := 20) hx hb hT hown hK hW fq6.1 fq6.2 (by decide) in_Vlt rfl rfl (by decide) rfl fr_Vlt_14 w_2_167 d_Ans_pageEnd_45 rfl ?_
  refine lv_iload hx hb d_Ans_pageEnd_48 (lv_at hl 0 rfl) ?_
  obtain ⟨hi, hw⟩ := hw
  refine w_iald (o := (stC q6 14)) hx hb hK hW (st_ty hNN fq6.1 fq6.2 rfl).1 (st_ty hNN fq6.1 fq6.2 rfl).2 hi d_Ans_pageEnd_50 ?_
  refine lv_iadd hx hb d_Ans_pageEnd_51 ?_
  refine lv_aload_n hx hb d_Ans_pageEnd_52 rfl (lv_at hl 2 rfl) ?_
  obtain ⟨q7, hq7, hw⟩ := hw
  refine w_getr (q := q7) (k := 14) (t := 10) (C := R_Ans) (T := F_Ans) (N := 16) hx hb hT hown hK hW fo.1 fo.2 (by decide) in_Ans rfl rfl (by decide) rfl fr_Ans_14 w_3_176 d_Ans_pageEnd_53 hq7 (fun aq7 bq7 => ?_)
  have fq7 : q7 < NN ∧ kcC q7 = 6 := ⟨aq7, bq7⟩
  refine w_getf (q := (stC q7 13)) (k := 13) (t := 6) (C := R_Vlt) (T := F_Vlt) (N := 20) hx hb hT hown hK hW fq7.1 fq7.2 (by decide) in_Vlt rfl rfl (by decide) rfl fr_Vlt_13 w_2_164 d_Ans_pageEnd_56 rfl ?_
  refine lv_iload_n hx hb d_Ans_pageEnd_59 rfl (lv_at hl 1 rfl) ?_
  obtain ⟨hi, hw⟩ := hw
  refine w_iald (o := (stC q7 13)) hx hb hK hW (st_ty hNN fq7.1 fq7.2 rfl).1 (st_ty hNN fq7.1 fq7.2 rfl).2 hi d_Ans_pageEnd_60 ?_
  refine lv_isub hx hb d_Ans_pageEnd_61 ?_
  exact hret (((rA x (stC q5 13) v4) + (rA x (stC q6 14) v4)) - (rA x (stC q7 13) v3)) x H locs 62 ls d_Ans_pageEnd_62 hw hW hS
set_option maxHeartbeats 4000000 in
set_option maxRecDepth 100000 in
theorem k_Ans_pageEnd (l : Launch) (dC : Nat → ClassId) (dI : Nat → Nat → Nat) (cI cB cJ cZ : ClassId) (ad : Nat → Nat) (NN : Nat) (E : Heap) (tM tC : Nat) (kK kV : Nat → Nat) (hNN : 152 ≤ NN) (sz : Nat) (o : Nat) (l1 : Int32) (l2 : Int32) (x : St) (fo : o < NN ∧ kcC o = 10) {post : Int32 → St → Prop} (hw : wp_Ans_pageEnd post o l1 l2 x) : Met l y_Ans_pageEnd (wsOf y_Ans_pageEnd b_Ans_pageEnd 5 (some (.int))) ({ frames := 0, cells := 0, slots := 0, locals := 0 }) (va_Pc [.ref (ad o), .int l1, .int l2] (PVc dC dI cI cB cJ cZ ad stC kcC NN E tM tC kK kV sz x)) (va_Qi (fun (r : Int32) (y : St) => post r y) (fun y t => Wd dC dI cI cB cJ cZ ad stC kcC NN (va_A (pic ad stC kcC NN cI cB cJ cZ x) sz) y t.heap) (va_A (pic ad stC kcC NN cI cB cJ cZ x) sz)) 0 0 (va_A (pic ad stC kcC NN cI cB cJ cZ x) sz) := by
  refine Met.ofW (cc := b_Ans_pageEnd) (maxL := 5) (ret := some (.int)) (by decide) rfl ?_
  intro p e s m args below meth c s₁ B hml hv
  obtain ⟨rfl, ⟨hsz, hW0, hK, hN⟩, hE⟩ := hv
  have hx := B.exec
  have hb := B.bytes
  have hr := B.returns
  have hts := atoms_spec B.pre
  have hT : ∀ w ∈ TG, w.before _ s = true := fun w h => hts w (List.mem_cons_of_mem _ h)
  have hown : s.vm.findClass R_Ans = some m.cls := findClass_of_methodNamed B.named
  have hlocks := B.notSynchronized
  subst hsz
  have hW : Wd dC dI cI cB cJ cZ ad stC kcC NN (va_A (pic ad stC kcC NN cI cB cJ cZ x) s.heap.size) x s.heap := ⟨hW0.1, hW0.2.1.self (sz := s.heap.size), hW0.2.2⟩
  generalize hAe : va_A (pic ad stC kcC NN cI cB cJ cZ x) s.heap.size = A at hW hE ⊢
  have hA : ∀ q : Nat, s.heap.size ≤ q → A q := fun q h => by rw [← hAe]; exact Or.inr h
  have hS : va_S A s.heap s.heap [] := va_S.rf
  have hl := lv_entry ([.ref (ad o), .int l1, .int l2]) (n := 5) (Nat.le_of_ble_eq_true rfl)
  rw [lg_entry_eq]
  generalize (lg_sl ([.ref (ad o), .int l1, .int l2]) ++ List.replicate (5 - (lg_sl ([.ref (ad o), .int l1, .int l2])).length) Slot.unset).toArray = ls at hl ⊢
  have hl : lv_has ls 5 [(0, .ref (ad o)), (1, .int l1), (2, .int l2)] := hl
  exact t_Ans_pageEnd_e hx hb hml hown hT hK hN hA (Nat.le_refl 0) (Nat.le_refl 0) (Nat.le_refl 0) (Nat.le_refl 0) hNN hE (fun r x H locs pc ls hd hp hW hS => W.iret (v := r) hx hb hr (fun t ht hM => ⟨⟨r, x, rfl, hp, Wd.back hW ht.symm (fun _ z => z)⟩, hS.F ht⟩) hS.2.2 hd hlocks)  o l1 l2 x _ _ ls fo hw hW hS hl
set_option maxRecDepth 100000 in
set_option maxHeartbeats 4000000 in
set_option maxRecDepth 100000 in
theorem t_Ans_countStretches_187 {p : Program} {l : Launch} {e : Env} {R : Room} {s : State} {m : MethodId} {args : Array Value} {below : List Frame} {meth : Method} {c : Code} {cells slots : Nat} {Q : State → Prop} {dC : Nat → ClassId} {dI : Nat → Nat → Nat} {cI cB cJ cZ : ClassId} {A : Nat → Prop} {ad : Nat → Nat} {NN : Nat} {E : Heap} {tM tC : Nat} {kK kV : Nat → Nat} {post : St → Prop} {rec65 : Nat → Int32 → Int32 → Int32 → Int32 → Int32 → St → Prop} {rec142 : Nat → Int32 → Int32 → Int32 → Int32 → Int32 → Int32 → St → Prop} (hx : p.tables.exec = Jvm.exec) (hb : c.code = b_Ans_countStretches) (hml : c.maxLocals = 7) (hown : s.vm.findClass R_Ans = some m.cls) (hT : ∀ w ∈ TG, w.before args s = true) (hK : va_K (dC, dI) CL (TY cI cB cJ cZ) s) (hN : NW s) (hA : ∀ q : Nat, s.heap.size ≤ q → A q) (hRc : cells ≤ R.cells) (hRs : slots ≤ R.slots) (hRf : 6 ≤ R.frames) (hRl : 224 ≤ R.locals) (hNN : 152 ≤ NN) (hE : CE E tM tC kK kV A s) (hret : ∀ (x : St) (H : Heap) (locs : List Loc) (pc : Nat) (ls : Array Slot), decode b_Ans_countStretches pc = .ok (.return_, 1) → post x → Wd dC dI cI cB cJ cZ ad stC kcC NN A x H → va_S A s.heap H locs → W p l e R s m args below meth c H locs cells slots Q (F0 m pc ls [])) (hrec65 : ∀ (o : Nat) (l1 : Int32) (l2 : Int32) (l3 : Int32) (l4 : Int32) (l5 : Int32) (x : St) (H : Heap) (locs : List Loc) (ls : Array Slot), (o < NN ∧ kcC o = 10) → rec65 o l1 l2 l3 l4 l5 x → Wd dC dI cI cB cJ cZ ad stC kcC NN A x H → va_S A s.heap H locs → lv_has ls 7 [(0, .ref (ad o)), (1, .int l1), (2, .int l2), (3, .int l3), (4, .int l4), (5, .int l5)] → W p l e R s m args below meth c H locs cells slots Q (F0 m 65 ls [])) (hrec142 : ∀ (o : Nat) (l1 : Int32) (l2 : Int32) (l3 : Int32) (l4 : Int32) (l5 : Int32) (l6 : Int32) (x : St) (H : Heap) (locs : List Loc) (ls : Array Slot), (o < NN ∧ kcC o = 10) → rec142 o l1 l2 l3 l4 l5 l6 x → Wd dC dI cI cB cJ cZ ad stC kcC NN A x H → va_S A s.heap H locs → lv_has ls 7 [(0, .ref (ad o)), (1, .int l1), (2, .int l2), (3, .int l3), (4, .int l4), (5, .int l5), (6, .int l6)] → W p l e R s m args below meth c H locs cells slots Q (F0 m 142 ls [])) : ∀ (o : Nat) (l1 : Int32) (l2 : Int32) (l3 : Int32) (l4 : Int32) (l5 : Int32) (l6 : Int32) (x : St) (H : Heap) (locs : List Loc) (ls : Array Slot), (o < NN ∧ kcC o = 10) → j_Ans_countStretches_187 post rec65 rec142 o l1 l2 l3 l4 l5 l6 x → Wd dC dI cI cB cJ cZ ad stC kcC NN A x H → va_S A s.heap H locs → lv_has ls 7 [(0, .ref (ad o)), (1, .int l1), (2, .int l2), (3, .int l3), (4, .int l4), (5, .int l5), (6, .int l6)] → W p l e R s m args below meth c H locs cells slots Q (F0 m 187 ls []) := by
  intro o l1 l2 l3 l4 l5 l6 x H locs ls fo hw hW hS hl
  unfold j_Ans_countStretches_187 at hw
  refine lv_iinc (v := (l6 + 1)) (lv' := [(6, .int (l6 + 1)), (0, .ref (ad o)), (1, .int l1), (2, .int l2), (3, .int l3), (4, .int l4), (5, .int l5)]) hx hb d_Ans_countStretches_187 hl (k := 6) rfl rfl (by decide) rfl (fun ls hl => ?_)
  refine lv_goto (tgt := 142) hx hb d_Ans_countStretches_190 (by decide) ?_
  exact hrec142 o l1 l2 l3 l4 l5 (l6 + 1) x H locs ls fo hw hW hS (lv_sub hl [1, 2, 3, 4, 5, 6, 0] rfl)
set_option maxRecDepth 100000 in
set_option maxHeartbeats 4000000 in
set_option maxRecDepth 100000 in
theorem t_Ans_countStretches_142 {p : Program} {l : Launch} {e : Env} {R : Room} {s : State} {m : MethodId} {args : Array Value} {below : List Frame} {meth : Method} {c : Code} {cells slots : Nat} {Q : State → Prop} {dC : Nat → ClassId} {dI : Nat → Nat → Nat} {cI cB cJ cZ : ClassId} {A : Nat → Prop} {ad : Nat → Nat} {NN : Nat} {E : Heap} {tM tC : Nat} {kK kV : Nat → Nat} {post : St → Prop} {rec65 : Nat → Int32 → Int32 → Int32 → Int32 → Int32 → St → Prop} {rec142 : Nat → Int32 → Int32 → Int32 → Int32 → Int32 → Int32 → St → Prop} (hx : p.tables.exec = Jvm.exec) (hb : c.code = b_Ans_countStretches) (hml : c.maxLocals = 7) (hown : s.vm.findClass R_Ans = some m.cls) (hT : ∀ w ∈ TG, w.before args s = true) (hK : va_K (dC, dI) CL (TY cI cB cJ cZ) s) (hN : NW s) (hA : ∀ q : Nat, s.heap.size ≤ q → A q) (hRc : cells ≤ R.cells) (hRs : slots ≤ R.slots) (hRf : 6 ≤ R.frames) (hRl : 224 ≤ R.locals) (hNN : 152 ≤ NN) (hE : CE E tM tC kK kV A s) (hret : ∀ (x : St) (H : Heap) (locs : List Loc) (pc : Nat) (ls : Array Slot), decode b_Ans_countStretches pc = .ok (.return_, 1) → post x → Wd dC dI cI cB cJ cZ ad stC kcC NN A x H → va_S A s.heap H locs → W p l e R s m args below meth c H locs cells slots Q (F0 m pc ls [])) (hrec65 : ∀ (o : Nat) (l1 : Int32) (l2 : Int32) (l3 : Int32) (l4 : Int32) (l5 : Int32) (x : St) (H : Heap) (locs : List Loc) (ls : Array Slot), (o < NN ∧ kcC o = 10) → rec65 o l1 l2 l3 l4 l5 x → Wd dC dI cI cB cJ cZ ad stC kcC NN A x H → va_S A s.heap H locs → lv_has ls 7 [(0, .ref (ad o)), (1, .int l1), (2, .int l2), (3, .int l3), (4, .int l4), (5, .int l5)] → W p l e R s m args below meth c H locs cells slots Q (F0 m 65 ls [])) (hrec142 : ∀ (o : Nat) (l1 : Int32) (l2 : Int32) (l3 : Int32) (l4 : Int32) (l5 : Int32) (l6 : Int32) (x : St) (H : Heap) (locs : List Loc) (ls : Array Slot), (o < NN ∧ kcC o = 10) → rec142 o l1 l2 l3 l4 l5 l6 x → Wd dC dI cI cB cJ cZ ad stC kcC NN A x H → va_S A s.heap H locs → lv_has ls 7 [(0, .ref (ad o)), (1, .int l1), (2, .int l2), (3, .int l3), (4, .int l4), (5, .int l5), (6, .int l6)] → W p l e R s m args below meth c H locs cells slots Q (F0 m 142 ls [])) : ∀ (o : Nat) (l1 : Int32) (l2 : Int32) (l3 : Int32) (l4 : Int32) (l5 : Int32) (l6 : Int32) (x : St) (H : Heap) (locs : List Loc) (ls : Array Slot), (o < NN ∧ kcC o = 10) → j_Ans_countStretches_142 post rec65 rec142 o l1 l2 l3 l4 l5 l6 x → Wd dC dI cI cB cJ cZ ad stC kcC NN A x H → va_S A s.heap H locs → lv_has ls 7 [(0, .ref (ad o)), (1, .int l1), (2, .int l2), (3, .int l3), (4, .int l4), (5, .int l5), (6, .int l6)] → W p l e R s m args below meth c H locs cells slots Q (F0 m 142 ls []) := by
  intro o l1 l2 l3 l4 l5 l6 x H locs ls fo hw hW hS hl
  unfold j_Ans_countStretches_142 at hw
  refine lv_iload hx hb d_Ans_countStretches_142 (lv_at hl 6 rfl) ?_
  refine lv_iload_n hx hb d_Ans_countStretches_144 rfl (lv_at hl 2 rfl) ?_
  refine lv_icmp_ge (tgt := 193) hx hb d_Ans_countStretches_145 (by decide) (fun c1 => ?_) (fun c1 => ?_)
  · have hw := hw.1 c1
    refine lv_iinc (v := (l5 + 1)) (lv' := [(5, .int (l5 + 1)), (0, .ref (ad o)), (1, .int l1), (2, .int l2), (3, .int l3), (4, .int l4), (6, .int l6)]) hx hb d_Ans_countStretches_193 hl (k := 5) rfl rfl (by decide) rfl (fun ls hl => ?_)
    refine lv_goto (tgt := 65) hx hb d_Ans_countStretches_196 (by decide) ?_
    exact hrec65 o l1 l2 l3 l4 (l5 + 1) x H locs ls fo hw hW hS (lv_sub hl [1, 2, 3, 4, 5, 0] rfl)
  · have hw := hw.2 c1
    refine lv_aload_n hx hb d_Ans_countStretches_148 rfl (lv_at hl 0 rfl) ?_
    refine w_getf (q := (stC o 13)) (k := 13) (t := 10) (C := R_Ans) (T := F_Ans) (N := 16) hx hb hT hown hK hW fo.1 fo.2 (by decide) in_Ans rfl rfl (by decide) rfl fr_Ans_13 w_3_175 d_Ans_countStretches_149 rfl ?_
    refine lv_iload hx hb d_Ans_countStretches_152 (lv_at hl 6 rfl) ?_
    obtain ⟨hi, hw⟩ := hw
    refine w_zald (o := (stC o 13)) hx hb hK hW (st_ty hNN fo.1 fo.2 rfl).1 (st_ty hNN fo.1 fo.2 rfl).2 hi d_Ans_countStretches_154 ?_
    refine lv_if_eq (tgt := 187) hx hb d_Ans_countStretches_155 (by decide) (fun c2 => ?_) (fun c2 => ?_)
    · have hw := hw.1 c2
      exact t_Ans_countStretches_187 hx hb hml hown hT hK hN hA hRc hRs hRf hRl hNN hE hret hrec65 hrec142 o l1 l2 l3 l4 l5 l6 x H locs ls fo hw hW hS (lv_sub hl [0, 1, 2, 3, 4, 5, 6] rfl)
    · have hw := hw.2 c2
      refine lv_iload hx hb d_Ans_countStretches_158 (lv_at hl 4 rfl) ?_
      refine lv_iload_n hx hb d_Ans_countStretches_160 rfl (lv_at hl 3 rfl) ?_
      refine lv_icmp_ge (tgt := 187) hx hb d_Ans_countStretches_161 (by decide) (fun c3 => ?_) (fun c3 => ?_)
      · have hw := hw.1 c3
        exact t_Ans_countStretches_187 hx hb hml hown hT hK hN hA hRc hRs hRf hRl hNN hE hret hrec65 hrec142 o l1 l2 l3 l4 l5 l6 x H locs ls fo hw hW hS (lv_sub hl [0, 1, 2, 3, 4, 5, 6] rfl)
      · have hw := hw.2 c3
        refine lv_aload_n hx hb d_Ans_countStretches_164 rfl (lv_at hl 0 rfl) ?_
        refine lv_iload_n hx hb d_Ans_countStretches_165 rfl (lv_at hl 1 rfl) ?_
        refine lv_iload hx hb d_Ans_countStretches_166 (lv_at hl 6 rfl) ?_
        have hF := hW.free hS hA
        refine va_calli (va_runV (C := R_Ans) (As := [.int l1, .int l6]) (rest := []) ⟨hx, hb, hml, hown, hT⟩ (k_Ans_pageEnd l dC dI cI cB cJ cZ ad NN E tM tC kK kV hNN H.size o l1 l6 x fo hw) ⟨callB_of 2 hT (gwt_in w_8_125) rfl rfl rfl (hT _ w_1_13) (hT _ w_8_122) (by decide +kernel) ⟨Nat.le_trans (Nat.le_of_ble_eq_true rfl) hRf, Nat.le_trans (Nat.le_of_ble_eq_true rfl) hRl⟩, hT _ w_8_124, hT _ ws_106⟩ ⟨PVc.blind, va_recv hK hW.1 (ci := 10) (q0 := o) rfl (pic_obj fo.1 fo.2 (by decide)), PVc.at _ hW hK hN hE hS hF⟩ rfl rfl hl.1 rfl (lv_room (Nat.le_of_ble_eq_true rfl)) d_Ans_countStretches_168 ⟨hRc, hRs⟩) hS (fun q _ h => hF q h) hF (fun r5 x4 t H locs ht hvm hw hB hz1 hk1 hS => ?_)
        have hW := Wd.back hB ht hF
        clear hB ht hF hz1 hk1 hvm
        refine lv_iload hx hb d_Ans_countStretches_171 (lv_at hl 4 rfl) ?_
        refine lv_icmp_ne (tgt := 187) hx hb d_Ans_countStretches_173 (by decide) (fun c6 => ?_) (fun c6 => ?_)
        · have hw := hw.1 c6
          exact t_Ans_countStretches_187 hx hb hml hown hT hK hN hA hRc hRs hRf hRl hNN hE hret hrec65 hrec142 o l1 l2 l3 l4 l5 l6 x4 H locs ls fo hw hW hS (lv_sub hl [0, 1, 2, 3, 4, 5, 6] rfl)
        · have hw := hw.2 c6
          refine lv_aload_n hx hb d_Ans_countStretches_176 rfl (lv_at hl 0 rfl) ?_
          refine w_getf (q := (stC o 12)) (k := 12) (t := 10) (C := R_Ans) (T := F_Ans) (N := 16) hx hb hT hown hK hW fo.1 fo.2 (by decide) in_Ans rfl rfl (by decide) rfl fr_Ans_12 w_3_174 d_Ans_countStretches_177 rfl ?_
          refine lv_iload hx hb d_Ans_countStretches_180 (lv_at hl 6 rfl) ?_
          refine lv_dup2_11 hx hb d_Ans_countStretches_182 rfl rfl ?_
          obtain ⟨hi, hw⟩ := hw
          refine w_iald (o := (stC o 12)) hx hb hK hW (st_ty hNN fo.1 fo.2 rfl).1 (st_ty hNN fo.1 fo.2 rfl).2 hi d_Ans_countStretches_183 ?_
          refine lv_iconst (v := 1) hx hb d_Ans_countStretches_184 (by decide) ?_
          refine lv_iadd hx hb d_Ans_countStretches_185 ?_
          obtain ⟨hi, hw⟩ := hw
          refine w_iast (o := (stC o 12)) hx hb hK hW hS (st_ty hNN fo.1 fo.2 rfl).1 (st_ty hNN fo.1 fo.2 rfl).2 hi d_Ans_countStretches_186 (fun H locs hW hS => ?_)
          obtain ⟨x7, ex7⟩ : ∃ y : St, y = setA x4 (stC o 12) l6 ((rA x4 (stC o 12) l6) + 1) := ⟨_, rfl⟩
          rw [← ex7] at hW
          have hw := hw x7 ex7
          exact t_Ans_countStretches_187 hx hb hml hown hT hK hN hA hRc hRs hRf hRl hNN hE hret hrec65 hrec142 o l1 l2 l3 l4 l5 l6 x7 H locs ls fo hw hW hS (lv_sub hl [0, 1, 2, 3, 4, 5, 6] rfl)
set_option maxHeartbeats 4000000 in
set_option maxRecDepth 100000 in
theorem tl_Ans_countStretches_142 {p : Program} {l : Launch} {e : Env} {R : Room} {s : State} {m : MethodId} {args : Array Value} {below : List Frame} {meth : Method} {c : Code} {cells slots : Nat} {Q : State → Prop} {dC : Nat → ClassId} {dI : Nat → Nat → Nat} {cI cB cJ cZ : ClassId} {A : Nat → Prop} {ad : Nat → Nat} {NN : Nat} {E : Heap} {tM tC : Nat} {kK kV : Nat → Nat} {post : St → Prop} {rec65 : Nat → Int32 → Int32 → Int32 → Int32 → Int32 → St → Prop} (hx : p.tables.exec = Jvm.exec) (hb : c.code = b_Ans_countStretches) (hml : c.maxLocals = 7) (hown : s.vm.findClass R_Ans = some m.cls) (hT : ∀ w ∈ TG, w.before args s = true) (hK : va_K (dC, dI) CL (TY cI cB cJ cZ) s) (hN : NW s) (hA : ∀ q : Nat, s.heap.size ≤ q → A q) (hRc : cells ≤ R.cells) (hRs : slots ≤ R.slots) (hRf : 6 ≤ R.frames) (hRl : 224 ≤ R.locals) (hNN : 152 ≤ NN) (hE : CE E tM tC kK kV A s) (hret : ∀ (x : St) (H : Heap) (locs : List Loc) (pc : Nat) (ls : Array Slot), decode b_Ans_countStretches pc = .ok (.return_, 1) → post x → Wd dC dI cI cB cJ cZ ad stC kcC NN A x H → va_S A s.heap H locs → W p l e R s m args below meth c H locs cells slots Q (F0 m pc ls [])) (hrec65 : ∀ (o : Nat) (l1 : Int32) (l2 : Int32) (l3 : Int32) (l4 : Int32) (l5 : Int32) (x : St) (H : Heap) (locs : List Loc) (ls : Array Slot), (o < NN ∧ kcC o = 10) → rec65 o l1 l2 l3 l4 l5 x → Wd dC dI cI cB cJ cZ ad stC kcC NN A x H → va_S A s.heap H locs → lv_has ls 7 [(0, .ref (ad o)), (1, .int l1), (2, .int l2), (3, .int l3), (4, .int l4), (5, .int l5)] → W p l e R s m args below meth c H locs cells slots Q (F0 m 65 ls [])) : ∀ n : Nat, ∀ (o : Nat) (l1 : Int32) (l2 : Int32) (l3 : Int32) (l4 : Int32) (l5 : Int32) (l6 : Int32) (x : St) (H : Heap) (locs : List Loc) (ls : Array Slot), (o < NN ∧ kcC o = 10) → wl_Ans_countStretches_142 post rec65 n o l1 l2 l3 l4 l5 l6 x → Wd dC dI cI cB cJ cZ ad stC kcC NN A x H → va_S A s.heap H locs → lv_has ls 7 [(0, .ref (ad o)), (1, .int l1), (2, .int l2), (3, .int l3), (4, .int l4), (5, .int l5), (6, .int l6)] → W p l e R s m args below meth c H locs cells slots Q (F0 m 142 ls []) := by
  intro n
  induction n with
  | zero => intro o l1 l2 l3 l4 l5 l6 x H locs ls fo hw; exact hw.elim
  | succ n ih => intro o l1 l2 l3 l4 l5 l6 x H locs ls fo hw hW hS hl; exact t_Ans_countStretches_142 hx hb hml hown hT hK hN hA hRc hRs hRf hRl hNN hE hret hrec65 ih o l1 l2 l3 l4 l5 l6 x H locs ls fo hw hW hS hl
set_option maxRecDepth 100000 in
set_option maxHeartbeats 4000000 in
set_option maxRecDepth 100000 in
theorem t_Ans_countStretches_133 {p : Program} {l : Launch} {e : Env} {R : Room} {s : State} {m : MethodId} {args : Array Value} {below : List Frame} {meth : Method} {c : Code} {cells slots : Nat} {Q : State → Prop} {dC : Nat → ClassId} {dI : Nat → Nat → Nat} {cI cB cJ cZ : ClassId} {A : Nat → Prop} {ad : Nat → Nat} {NN : Nat} {E : Heap} {tM tC : Nat} {kK kV : Nat → Nat} {post : St → Prop} {rec65 : Nat → Int32 → Int32 → Int32 → Int32 → Int32 → St → Prop} {rec103 : Nat → Int32 → Int32 → Int32 → Int32 → Int32 → Int32 → St → Prop} (hx : p.tables.exec = Jvm.exec) (hb : c.code = b_Ans_countStretches) (hml : c.maxLocals = 7) (hown : s.vm.findClass R_Ans = some m.cls) (hT : ∀ w ∈ TG, w.before args s = true) (hK : va_K (dC, dI) CL (TY cI cB cJ cZ) s) (hN : NW s) (hA : ∀ q : Nat, s.heap.size ≤ q → A q) (hRc : cells ≤ R.cells) (hRs : slots ≤ R.slots) (hRf : 6 ≤ R.frames) (hRl : 224 ≤ R.locals) (hNN : 152 ≤ NN) (hE : CE E tM tC kK kV A s) (hret : ∀ (x : St) (H : Heap) (locs : List Loc) (pc : Nat) (ls : Array Slot), decode b_Ans_countStretches pc = .ok (.return_, 1) → post x → Wd dC dI cI cB cJ cZ ad stC kcC NN A x H → va_S A s.heap H locs → W p l e R s m args below meth c H locs cells slots Q (F0 m pc ls [])) (hrec65 : ∀ (o : Nat) (l1 : Int32) (l2 : Int32) (l3 : Int32) (l4 : Int32) (l5 : Int32) (x : St) (H : Heap) (locs : List Loc) (ls : Array Slot), (o < NN ∧ kcC o = 10) → rec65 o l1 l2 l3 l4 l5 x → Wd dC dI cI cB cJ cZ ad stC kcC NN A x H → va_S A s.heap H locs → lv_has ls 7 [(0, .ref (ad o)), (1, .int l1), (2, .int l2), (3, .int l3), (4, .int l4), (5, .int l5)] → W p l e R s m args below meth c H locs cells slots Q (F0 m 65 ls [])) (hrec103 : ∀ (o : Nat) (l1 : Int32) (l2 : Int32) (l3 : Int32) (l4 : Int32) (l5 : Int32) (l6 : Int32) (x : St) (H : Heap) (locs : List Loc) (ls : Array Slot), (o < NN ∧ kcC o = 10) → rec103 o l1 l2 l3 l4 l5 l6 x → Wd dC dI cI cB cJ cZ ad stC kcC NN A x H → va_S A s.heap H locs → lv_has ls 7 [(0, .ref (ad o)), (1, .int l1), (2, .int l2), (3, .int l3), (4, .int l4), (5, .int l5), (6, .int l6)] → W p l e R s m args below meth c H locs cells slots Q (F0 m 103 ls [])) : ∀ (o : Nat) (l1 : Int32) (l2 : Int32) (l3 : Int32) (l4 : Int32) (l5 : Int32) (l6 : Int32) (x : St) (H : Heap) (locs : List Loc) (ls : Array Slot), (o < NN ∧ kcC o = 10) → j_Ans_countStretches_133 post rec65 rec103 o l1 l2 l3 l4 l5 l6 x → Wd dC dI cI cB cJ cZ ad stC kcC NN A x H → va_S A s.heap H locs → lv_has ls 7 [(0, .ref (ad o)), (1, .int l1), (2, .int l2), (3, .int l3), (4, .int l4), (5, .int l5), (6, .int l6)] → W p l e R s m args below meth c H locs cells slots Q (F0 m 133 ls []) := by
  intro o l1 l2 l3 l4 l5 l6 x H locs ls fo hw hW hS hl
  unfold j_Ans_countStretches_133 at hw
  refine lv_iinc (v := (l6 + 1)) (lv' := [(6, .int (l6 + 1)), (0, .ref (ad o)), (1, .int l1), (2, .int l2), (3, .int l3), (4, .int l4), (5, .int l5)]) hx hb d_Ans_countStretches_133 hl (k := 6) rfl rfl (by decide) rfl (fun ls hl => ?_)
  refine lv_goto (tgt := 103) hx hb d_Ans_countStretches_136 (by decide) ?_
  exact hrec103 o l1 l2 l3 l4 l5 (l6 + 1) x H locs ls fo hw hW hS (lv_sub hl [1, 2, 3, 4, 5, 6, 0] rfl)
set_option maxRecDepth 100000 in
set_option maxHeartbeats 4000000 in
set_option maxRecDepth 100000 in
theorem t_Ans_countStretches_103 {p : Program} {l : Launch} {e : Env} {R : Room} {s : State} {m : MethodId} {args : Array Value} {below : List Frame} {meth : Method} {c : Code} {cells slots : Nat} {Q : State → Prop} {dC : Nat → ClassId} {dI : Nat → Nat → Nat} {cI cB cJ cZ : ClassId} {A : Nat → Prop} {ad : Nat → Nat} {NN : Nat} {E : Heap} {tM tC : Nat} {kK kV : Nat → Nat} {post : St → Prop} {rec65 : Nat → Int32 → Int32 → Int32 → Int32 → Int32 → St → Prop} {rec103 : Nat → Int32 → Int32 → Int32 → Int32 → Int32 → Int32 → St → Prop} (hx : p.tables.exec = Jvm.exec) (hb : c.code = b_Ans_countStretches) (hml : c.maxLocals = 7) (hown : s.vm.findClass R_Ans = some m.cls) (hT : ∀ w ∈ TG, w.before args s = true) (hK : va_K (dC, dI) CL (TY cI cB cJ cZ) s) (hN : NW s) (hA : ∀ q : Nat, s.heap.size ≤ q → A q) (hRc : cells ≤ R.cells) (hRs : slots ≤ R.slots) (hRf : 6 ≤ R.frames) (hRl : 224 ≤ R.locals) (hNN : 152 ≤ NN) (hE : CE E tM tC kK kV A s) (hret : ∀ (x : St) (H : Heap) (locs : List Loc) (pc : Nat) (ls : Array Slot), decode b_Ans_countStretches pc = .ok (.return_, 1) → post x → Wd dC dI cI cB cJ cZ ad stC kcC NN A x H → va_S A s.heap H locs → W p l e R s m args below meth c H locs cells slots Q (F0 m pc ls [])) (hrec65 : ∀ (o : Nat) (l1 : Int32) (l2 : Int32) (l3 : Int32) (l4 : Int32) (l5 : Int32) (x : St) (H : Heap) (locs : List Loc) (ls : Array Slot), (o < NN ∧ kcC o = 10) → rec65 o l1 l2 l3 l4 l5 x → Wd dC dI cI cB cJ cZ ad stC kcC NN A x H → va_S A s.heap H locs → lv_has ls 7 [(0, .ref (ad o)), (1, .int l1), (2, .int l2), (3, .int l3), (4, .int l4), (5, .int l5)] → W p l e R s m args below meth c H locs cells slots Q (F0 m 65 ls [])) (hrec103 : ∀ (o : Nat) (l1 : Int32) (l2 : Int32) (l3 : Int32) (l4 : Int32) (l5 : Int32) (l6 : Int32) (x : St) (H : Heap) (locs : List Loc) (ls : Array Slot), (o < NN ∧ kcC o = 10) → rec103 o l1 l2 l3 l4 l5 l6 x → Wd dC dI cI cB cJ cZ ad stC kcC NN A x H → va_S A s.heap H locs → lv_has ls 7 [(0, .ref (ad o)), (1, .int l1), (2, .int l2), (3, .int l3), (4, .int l4), (5, .int l5), (6, .int l6)] → W p l e R s m args below meth c H locs cells slots Q (F0 m 103 ls [])) : ∀ (o : Nat) (l1 : Int32) (l2 : Int32) (l3 : Int32) (l4 : Int32) (l5 : Int32) (l6 : Int32) (x : St) (H : Heap) (locs : List Loc) (ls : Array Slot), (o < NN ∧ kcC o = 10) → j_Ans_countStretches_103 post rec65 rec103 o l1 l2 l3 l4 l5 l6 x → Wd dC dI cI cB cJ cZ ad stC kcC NN A x H → va_S A s.heap H locs → lv_has ls 7 [(0, .ref (ad o)), (1, .int l1), (2, .int l2), (3, .int l3), (4, .int l4), (5, .int l5), (6, .int l6)] → W p l e R s m args below meth c H locs cells slots Q (F0 m 103 ls []) := by
  intro o l1 l2 l3 l4 l5 l6 x H locs ls fo hw hW hS hl
  unfold j_Ans_countStretches_103 at hw
  refine lv_iload hx hb d_Ans_countStretches_103 (lv_at hl 6 rfl) ?_
  refine lv_iload_n hx hb d_Ans_countStretches_105 rfl (lv_at hl 2 rfl) ?_
  refine lv_icmp_ge (tgt := 139) hx hb d_Ans_countStretches_106 (by decide) (fun c8 => ?_) (fun c8 => ?_)
  · have hw := hw.1 c8
    refine lv_iconst (v := 0) hx hb d_Ans_countStretches_139 (by decide) ?_
    refine lv_istore (lv' := [(6, .int 0), (0, .ref (ad o)), (1, .int l1), (2, .int l2), (3, .int l3), (4, .int l4), (5, .int l5)]) hx hb d_Ans_countStretches_140 hl (by decide) rfl (fun ls hl => ?_)
    obtain ⟨n, hw⟩ := hw
    exact tl_Ans_countStretches_142 hx hb hml hown hT hK hN hA hRc hRs hRf hRl hNN hE hret hrec65 n o l1 l2 l3 l4 l5 0 x H locs ls fo hw hW hS (lv_sub hl [1, 2, 3, 4, 5, 6, 0] rfl)
  · have hw := hw.2 c8
    refine lv_aload_n hx hb d_Ans_countStretches_109 rfl (lv_at hl 0 rfl) ?_
    refine w_getf (q := (stC o 13)) (k := 13) (t := 10) (C := R_Ans) (T := F_Ans) (N := 16) hx hb hT hown hK hW fo.1 fo.2 (by decide) in_Ans rfl rfl (by decide) rfl fr_Ans_13 w_3_175 d_Ans_countStretches_110 rfl ?_
    refine lv_iload hx hb d_Ans_countStretches_113 (lv_at hl 6 rfl) ?_
    obtain ⟨hi, hw⟩ := hw
    refine w_zald (o := (stC o 13)) hx hb hK hW (st_ty hNN fo.1 fo.2 rfl).1 (st_ty hNN fo.1 fo.2 rfl).2 hi d_Ans_countStretches_115 ?_
    refine lv_if_eq (tgt := 133) hx hb d_Ans_countStretches_116 (by decide) (fun c9 => ?_) (fun c9 => ?_)
    · have hw := hw.1 c9
      exact t_Ans_countStretches_133 hx hb hml hown hT hK hN hA hRc hRs hRf hRl hNN hE hret hrec65 hrec103 o l1 l2 l3 l4 l5 l6 x H locs ls fo hw hW hS (lv_sub hl [0, 1, 2, 3, 4, 5, 6] rfl)
    · have hw := hw.2 c9
      refine lv_iload hx hb d_Ans_countStretches_119 (lv_at hl 4 rfl) ?_
      refine lv_aload_n hx hb d_Ans_countStretches_121 rfl (lv_at hl 0 rfl) ?_
      refine lv_iload_n hx hb d_Ans_countStretches_122 rfl (lv_at hl 1 rfl) ?_
      refine lv_iload hx hb d_Ans_countStretches_123 (lv_at hl 6 rfl) ?_
      have hF := hW.free hS hA
      refine va_calli (va_runV (C := R_Ans) (As := [.int l1, .int l6]) (rest := [.int l4]) ⟨hx, hb, hml, hown, hT⟩ (k_Ans_pageEnd l dC dI cI cB cJ cZ ad NN E tM tC kK kV hNN H.size o l1 l6 x fo hw) ⟨callB_of 2 hT (gwt_in w_8_125) rfl rfl rfl (hT _ w_1_13) (hT _ w_8_122) (by decide +kernel) ⟨Nat.le_trans (Nat.le_of_ble_eq_true rfl) hRf, Nat.le_trans (Nat.le_of_ble_eq_true rfl) hRl⟩, hT _ w_8_124, hT _ ws_106⟩ ⟨PVc.blind, va_recv hK hW.1 (ci := 10) (q0 := o) rfl (pic_obj fo.1 fo.2 (by decide)), PVc.at _ hW hK hN hE hS hF⟩ rfl rfl hl.1 rfl (lv_room (Nat.le_of_ble_eq_true rfl)) d_Ans_countStretches_125 ⟨hRc, hRs⟩) hS (fun q _ h => hF q h) hF (fun r11 x10 t H locs ht hvm hw hB hz1 hk1 hS => ?_)
      have hW := Wd.back hB ht hF
      clear hB ht hF hz1 hk1 hvm
      refine va_mmin hx hb (hml.trans hl.1.symm) hown (hT _ w_8_126) (hT _ w_1_38) (hT _ w_1_3) (hT _ w_1_39) (Nat.le_trans (by decide) hRf) (Nat.le_trans (Nat.le_of_ble_eq_true rfl) hRl) hRc hRs d_Ans_countStretches_128 ?_
      refine lv_topi (fun v12 ev12 => ?_)
      have hw := hw v12 ev12
      refine lv_istore (lv' := [(4, .int v12), (0, .ref (ad o)), (1, .int l1), (2, .int l2), (3, .int l3), (5, .int l5), (6, .int l6)]) hx hb d_Ans_countStretches_131 hl (by decide) rfl (fun ls hl => ?_)
      exact t_Ans_countStretches_133 hx hb hml hown hT hK hN hA hRc hRs hRf hRl hNN hE hret hrec65 hrec103 o l1 l2 l3 v12 l5 l6 x10 H locs ls fo hw hW hS (lv_sub hl [1, 2, 3, 4, 0, 5, 6] rfl)
set_option maxHeartbeats 4000000 in
set_option maxRecDepth 100000 in
theorem tl_Ans_countStretches_103 {p : Program} {l : Launch} {e : Env} {R : Room} {s : State} {m : MethodId} {args : Array Value} {below : List Frame} {meth : Method} {c : Code} {cells slots : Nat} {Q : State → Prop} {dC : Nat → ClassId} {dI : Nat → Nat → Nat} {cI cB cJ cZ : ClassId} {A : Nat → Prop} {ad : Nat → Nat} {NN : Nat} {E : Heap} {tM tC : Nat} {kK kV : Nat → Nat} {post : St → Prop} {rec65 : Nat → Int32 → Int32 → Int32 → Int32 → Int32 → St → Prop} (hx : p.tables.exec = Jvm.exec) (hb : c.code = b_Ans_countStretches) (hml : c.maxLocals = 7) (hown : s.vm.findClass R_Ans = some m.cls) (hT : ∀ w ∈ TG, w.before args s = true) (hK : va_K (dC, dI) CL (TY cI cB cJ cZ) s) (hN : NW s) (hA : ∀ q : Nat, s.heap.size ≤ q → A q) (hRc : cells ≤ R.cells) (hRs : slots ≤ R.slots) (hRf : 6 ≤ R.frames) (hRl : 224 ≤ R.locals) (hNN : 152 ≤ NN) (hE : CE E tM tC kK kV A s) (hret : ∀ (x : St) (H : Heap) (locs : List Loc) (pc : Nat) (ls : Array Slot), decode b_Ans_countStretches pc = .ok (.return_, 1) → post x → Wd dC dI cI cB cJ cZ ad stC kcC NN A x H → va_S A s.heap H locs → W p l e R s m args below meth c H locs cells slots Q (F0 m pc ls [])) (hrec65 : ∀ (o : Nat) (l1 : Int32) (l2 : Int32) (l3 : Int32) (l4 : Int32) (l5 : Int32) (x : St) (H : Heap) (locs : List Loc) (ls : Array Slot), (o < NN ∧ kcC o = 10) → rec65 o l1 l2 l3 l4 l5 x → Wd dC dI cI cB cJ cZ ad stC kcC NN A x H → va_S A s.heap H locs → lv_has ls 7 [(0, .ref (ad o)), (1, .int l1), (2, .int l2), (3, .int l3), (4, .int l4), (5, .int l5)] → W p l e R s m args below meth c H locs cells slots Q (F0 m 65 ls [])) : ∀ n : Nat, ∀ (o : Nat) (l1 : Int32) (l2 : Int32) (l3 : Int32) (l4 : Int32) (l5 : Int32) (l6 : Int32) (x : St) (H : Heap) (locs : List Loc) (ls : Array Slot), (o < NN ∧ kcC o = 10) → wl_Ans_countStretches_103 post rec65 n o l1 l2 l3 l4 l5 l6 x → Wd dC dI cI cB cJ cZ ad stC kcC NN A x H → va_S A s.heap H locs → lv_has ls 7 [(0, .ref (ad o)), (1, .int l1), (2, .int l2), (3, .int l3), (4, .int l4), (5, .int l5), (6, .int l6)] → W p l e R s m args below meth c H locs cells slots Q (F0 m 103 ls []) := by
  intro n
  induction n with
  | zero => intro o l1 l2 l3 l4 l5 l6 x H locs ls fo hw; exact hw.elim
  | succ n ih => intro o l1 l2 l3 l4 l5 l6 x H locs ls fo hw hW hS hl; exact t_Ans_countStretches_103 hx hb hml hown hT hK hN hA hRc hRs hRf hRl hNN hE hret hrec65 ih o l1 l2 l3 l4 l5 l6 x H locs ls fo hw hW hS hl
set_option maxRecDepth 100000 in
set_option maxHeartbeats 4000000 in
set_option maxRecDepth 100000 in
theorem t_Ans_countStretches_97 {p : Program} {l : Launch} {e : Env} {R : Room} {s : State} {m : MethodId} {args : Array Value} {below : List Frame} {meth : Method} {c : Code} {cells slots : Nat} {Q : State → Prop} {dC : Nat → ClassId} {dI : Nat → Nat → Nat} {cI cB cJ cZ : ClassId} {A : Nat → Prop} {ad : Nat → Nat} {NN : Nat} {E : Heap} {tM tC : Nat} {kK kV : Nat → Nat} {post : St → Prop} {rec65 : Nat → Int32 → Int32 → Int32 → Int32 → Int32 → St → Prop} (hx : p.tables.exec = Jvm.exec) (hb : c.code = b_Ans_countStretches) (hml : c.maxLocals = 7) (hown : s.vm.findClass R_Ans = some m.cls) (hT : ∀ w ∈ TG, w.before args s = true) (hK : va_K (dC, dI) CL (TY cI cB cJ cZ) s) (hN : NW s) (hA : ∀ q : Nat, s.heap.size ≤ q → A q) (hRc : cells ≤ R.cells) (hRs : slots ≤ R.slots) (hRf : 6 ≤ R.frames) (hRl : 224 ≤ R.locals) (hNN : 152 ≤ NN) (hE : CE E tM tC kK kV A s) (hret : ∀ (x : St) (H : Heap) (locs : List Loc) (pc : Nat) (ls : Array Slot), decode b_Ans_countStretches pc = .ok (.return_, 1) → post x → Wd dC dI cI cB cJ cZ ad stC kcC NN A x H → va_S A s.heap H locs → W p l e R s m args below meth c H locs cells slots Q (F0 m pc ls [])) (hrec65 : ∀ (o : Nat) (l1 : Int32) (l2 : Int32) (l3 : Int32) (l4 : Int32) (l5 : Int32) (x : St) (H : Heap) (locs : List Loc) (ls : Array Slot), (o < NN ∧ kcC o = 10) → rec65 o l1 l2 l3 l4 l5 x → Wd dC dI cI cB cJ cZ ad stC kcC NN A x H → va_S A s.heap H locs → lv_has ls 7 [(0, .ref (ad o)), (1, .int l1), (2, .int l2), (3, .int l3), (4, .int l4), (5, .int l5)] → W p l e R s m args below meth c H locs cells slots Q (F0 m 65 ls [])) : ∀ (o : Nat) (l1 : Int32) (l2 : Int32) (l3 : Int32) (l4 : Int32) (l5 : Int32) (x : St) (H : Heap) (locs : List Loc) (ls : Array Slot), (o < NN ∧ kcC o = 10) → j_Ans_countStretches_97 post rec65 o l1 l2 l3 l4 l5 x → Wd dC dI cI cB cJ cZ ad stC kcC NN A x H → va_S A s.heap H locs → lv_has ls 7 [(0, .ref (ad o)), (1, .int l1), (2, .int l2), (3, .int l3), (4, .int l4), (5, .int l5)] → W p l e R s m args below meth c H locs cells slots Q (F0 m 97 ls []) := by
  intro o l1 l2 l3 l4 l5 x H locs ls fo hw hW hS hl
  unfold j_Ans_countStretches_97 at hw
  refine lv_iload_n hx hb d_Ans_countStretches_97 rfl (lv_at hl 3 rfl) ?_
  refine lv_istore (lv' := [(4, .int l3), (0, .ref (ad o)), (1, .int l1), (2, .int l2), (3, .int l3), (5, .int l5)]) hx hb d_Ans_countStretches_98 hl (by decide) rfl (fun ls hl => ?_)
  refine lv_iconst (v := 0) hx hb d_Ans_countStretches_100 (by decide) ?_
  refine lv_istore (lv' := [(6, .int 0), (4, .int l3), (0, .ref (ad o)), (1, .int l1), (2, .int l2), (3, .int l3), (5, .int l5)]) hx hb d_Ans_countStretches_101 hl (by decide) rfl (fun ls hl => ?_)
  obtain ⟨n, hw⟩ := hw
  exact tl_Ans_countStretches_103 hx hb hml hown hT hK hN hA hRc hRs hRf hRl hNN hE hret hrec65 n o l1 l2 l3 l3 l5 0 x H locs ls fo hw hW hS (lv_sub hl [2, 3, 4, 5, 1, 6, 0] rfl)
set_option maxRecDepth 100000 in
set_option maxHeartbeats 4000000 in
set_option maxRecDepth 100000 in
theorem t_Ans_countStretches_65 {p : Program} {l : Launch} {e : Env} {R : Room} {s : State} {m : MethodId} {args : Array Value} {below : List Frame} {meth : Method} {c : Code} {cells slots : Nat} {Q : State → Prop} {dC : Nat → ClassId} {dI : Nat → Nat → Nat} {cI cB cJ cZ : ClassId} {A : Nat → Prop} {ad : Nat → Nat} {NN : Nat} {E : Heap} {tM tC : Nat} {kK kV : Nat → Nat} {post : St → Prop} {rec65 : Nat → Int32 → Int32 → Int32 → Int32 → Int32 → St → Prop} (hx : p.tables.exec = Jvm.exec) (hb : c.code = b_Ans_countStretches) (hml : c.maxLocals = 7) (hown : s.vm.findClass R_Ans = some m.cls) (hT : ∀ w ∈ TG, w.before args s = true) (hK : va_K (dC, dI) CL (TY cI cB cJ cZ) s) (hN : NW s) (hA : ∀ q : Nat, s.heap.size ≤ q → A q) (hRc : cells ≤ R.cells) (hRs : slots ≤ R.slots) (hRf : 6 ≤ R.frames) (hRl : 224 ≤ R.locals) (hNN : 152 ≤ NN) (hE : CE E tM tC kK kV A s) (hret : ∀ (x : St) (H : Heap) (locs : List Loc) (pc : Nat) (ls : Array Slot), decode b_Ans_countStretches pc = .ok (.return_, 1) → post x → Wd dC dI cI cB cJ cZ ad stC kcC NN A x H → va_S A s.heap H locs → W p l e R s m args below meth c H locs cells slots Q (F0 m pc ls [])) (hrec65 : ∀ (o : Nat) (l1 : Int32) (l2 : Int32) (l3 : Int32) (l4 : Int32) (l5 : Int32) (x : St) (H : Heap) (locs : List Loc) (ls : Array Slot), (o < NN ∧ kcC o = 10) → rec65 o l1 l2 l3 l4 l5 x → Wd dC dI cI cB cJ cZ ad stC kcC NN A x H → va_S A s.heap H locs → lv_has ls 7 [(0, .ref (ad o)), (1, .int l1), (2, .int l2), (3, .int l3), (4, .int l4), (5, .int l5)] → W p l e R s m args below meth c H locs cells slots Q (F0 m 65 ls [])) : ∀ (o : Nat) (l1 : Int32) (l2 : Int32) (l3 : Int32) (l4 : Int32) (l5 : Int32) (x : St) (H : Heap) (locs : List Loc) (ls : Array Slot), (o < NN ∧ kcC o = 10) → j_Ans_countStretches_65 post rec65 o l1 l2 l3 l4 l5 x → Wd dC dI cI cB cJ cZ ad stC kcC NN A x H → va_S A s.heap H locs → lv_has ls 7 [(0, .ref (ad o)), (1, .int l1), (2, .int l2), (3, .int l3), (4, .int l4), (5, .int l5)] → W p l e R s m args below meth c H locs cells slots Q (F0 m 65 ls []) := by
  intro o l1 l2 l3 l4 l5 x H locs ls fo hw hW hS hl
  unfold j_Ans_countStretches_65 at hw
  refine lv_iload hx hb d_Ans_countStretches_65 (lv_at hl 5 rfl) ?_
  refine lv_iload_n hx hb d_Ans_countStretches_67 rfl (lv_at hl 3 rfl) ?_
  refine lv_icmp_ge (tgt := 199) hx hb d_Ans_countStretches_68 (by decide) (fun c13 => ?_) (fun c13 => ?_)
  · have hw := hw.1 c13
    exact hret x H locs 199 ls d_Ans_countStretches_199 hw hW hS
  · have hw := hw.2 c13
    refine lv_iload hx hb d_Ans_countStretches_71 (lv_at hl 4 rfl) ?_
    refine lv_iload_n hx hb d_Ans_countStretches_73 rfl (lv_at hl 3 rfl) ?_
    refine lv_icmp_ge (tgt := 199) hx hb d_Ans_countStretches_74 (by decide) (fun c14 => ?_) (fun c14 => ?_)
    · have hw := hw.1 c14
      exact hret x H locs 199 ls d_Ans_countStretches_199 hw hW hS
    · have hw := hw.2 c14
      refine lv_aload_n hx hb d_Ans_countStretches_77 rfl (lv_at hl 0 rfl) ?_
      refine lv_iconst (v := (-1)) hx hb d_Ans_countStretches_78 (by decide) ?_
      have hF := hW.free hS hA
      refine va_calli (va_runV (C := R_Ans) (As := [.int (-1)]) (rest := []) ⟨hx, hb, hml, hown, hT⟩ (k_Ans_truthsOf l dC dI cI cB cJ cZ ad NN E tM tC kK kV hNN H.size o (-1) x fo hw) ⟨callB_of 1 hT (gwt_in w_8_34) rfl rfl rfl (hT _ w_1_13) (hT _ w_8_31) (by decide +kernel) ⟨Nat.le_trans (Nat.le_of_ble_eq_true rfl) hRf, Nat.le_trans (Nat.le_of_ble_eq_true rfl) hRl⟩, hT _ w_8_33, hT _ ws_88⟩ ⟨PVc.blind, va_recv hK hW.1 (ci := 10) (q0 := o) rfl (pic_obj fo.1 fo.2 (by decide)), PVc.at _ hW hK hN hE hS hF⟩ rfl rfl hl.1 rfl (lv_room (Nat.le_of_ble_eq_true rfl)) d_Ans_countStretches_79 ⟨hRc, hRs⟩) hS (fun q _ h => hF q h) hF (fun r16 x15 t H locs ht hvm hw hB hz1 hk1 hS => ?_)
      have hW := Wd.back hB ht hF
      clear hB ht hF hz1 hk1 hvm
      refine lv_iconst (v := 2) hx hb d_Ans_countStretches_82 (by decide) ?_
      refine lv_iand hx hb d_Ans_countStretches_83 ?_
      refine lv_if_ne (tgt := 97) hx hb d_Ans_countStretches_84 (by decide) (fun c17 => ?_) (fun c17 => ?_)
      · have hw := hw.1 c17
        exact t_Ans_countStretches_97 hx hb hml hown hT hK hN hA hRc hRs hRf hRl hNN hE hret hrec65 o l1 l2 l3 l4 l5 x15 H locs ls fo hw hW hS (lv_sub hl [0, 1, 2, 3, 4, 5] rfl)
      · have hw := hw.2 c17
        refine lv_aload_n hx hb d_Ans_countStretches_87 rfl (lv_at hl 0 rfl) ?_
        refine lv_dup hx hb d_Ans_countStretches_88 rfl ?_
        refine w_geti (k := 3) (t := 10) (C := R_Ans) (T := F_Ans) (N := 16) hx hb hT hown hK hW fo.1 fo.2 (by decide) in_Ans rfl rfl (by decide) rfl fr_Ans_3 w_3_161 d_Ans_countStretches_89 ?_
        refine lv_iconst (v := 1) hx hb d_Ans_countStretches_92 (by decide) ?_
        refine lv_iadd hx hb d_Ans_countStretches_93 ?_
        refine w_puti (ty := .int) (k := 3) (t := 10) (C := R_Ans) (T := F_Ans) (N := 16) hx hb hT hown hK hW hS fo.1 fo.2 (by decide) in_Ans t_Ans t_Ans_ok n_Ans rfl rfl (by decide) rfl fr_Ans_3 w_3_161 (by decide +kernel) rfl rfl d_Ans_countStretches_94 (fun H locs hW hS => ?_)
        obtain ⟨x18, ex18⟩ : ∃ y : St, y = setI x15 o 3 ((fI x15 o 3) + 1) := ⟨_, rfl⟩
        rw [← ex18] at hW
        have hw := hw x18 ex18
        exact t_Ans_countStretches_97 hx hb hml hown hT hK hN hA hRc hRs hRf hRl hNN hE hret hrec65 o l1 l2 l3 l4 l5 x18 H locs ls fo hw hW hS (lv_sub hl [0, 1, 2, 3, 4, 5] rfl)
set_option maxHeartbeats 4000000 in
set_option maxRecDepth 100000 in
theorem tl_Ans_countStretches_65 {p : Program} {l : Launch} {e : Env} {R : Room} {s : State} {m : MethodId} {args : Array Value} {below : List Frame} {meth : Method} {c : Code} {cells slots : Nat} {Q : State → Prop} {dC : Nat → ClassId} {dI : Nat → Nat → Nat} {cI cB cJ cZ : ClassId} {A : Nat → Prop} {ad : Nat → Nat} {NN : Nat} {E : Heap} {tM tC : Nat} {kK kV : Nat → Nat} {post : St → Prop} (hx : p.tables.exec = Jvm.exec) (hb : c.code = b_Ans_countStretches) (hml : c.maxLocals = 7) (hown : s.vm.findClass R_Ans = some m.cls) (hT : ∀ w ∈ TG, w.before args s = true) (hK : va_K (dC, dI) CL (TY cI cB cJ cZ) s) (hN : NW s) (hA : ∀ q : Nat, s.heap.size ≤ q → A q) (hRc : cells ≤ R.cells) (hRs : slots ≤ R.slots) (hRf : 6 ≤ R.frames) (hRl : 224 ≤ R.locals) (hNN : 152 ≤ NN) (hE : CE E tM tC kK kV A s) (hret : ∀ (x : St) (H : Heap) (locs : List Loc) (pc : Nat) (ls : Array Slot), decode b_Ans_countStretches pc = .ok (.return_, 1) → post x → Wd dC dI cI cB cJ cZ ad stC kcC NN A x H → va_S A s.heap H locs → W p l e R s m args below meth c H locs cells slots Q (F0 m pc ls []))  : ∀ n : Nat, ∀ (o : Nat) (l1 : Int32) (l2 : Int32) (l3 : Int32) (l4 : Int32) (l5 : Int32) (x : St) (H : Heap) (locs : List Loc) (ls : Array Slot), (o < NN ∧ kcC o = 10) → wl_Ans_countStretches_65 post n o l1 l2 l3 l4 l5 x → Wd dC dI cI cB cJ cZ ad stC kcC NN A x H → va_S A s.heap H locs → lv_has ls 7 [(0, .ref (ad o)), (1, .int l1), (2, .int l2), (3, .int l3), (4, .int l4), (5, .int l5)] → W p l e R s m args below meth c H locs cells slots Q (F0 m 65 ls []) := by
  intro n
  induction n with
  | zero => intro o l1 l2 l3 l4 l5 x H locs ls fo hw; exact hw.elim
  | succ n ih => intro o l1 l2 l3 l4 l5 x H locs ls fo hw hW hS hl; exact t_Ans_countStretches_65 hx hb hml hown hT hK hN hA hRc hRs hRf hRl hNN hE hret  ih o l1 l2 l3 l4 l5 x H locs ls fo hw hW hS hl
set_option maxRecDepth 100000 in
set_option maxHeartbeats 4000000 in
set_option maxRecDepth 100000 in
theorem t_Ans_countStretches_36 {p : Program} {l : Launch} {e : Env} {R : Room} {s : State} {m : MethodId} {args : Array Value} {below : List Frame} {meth : Method} {c : Code} {cells slots : Nat} {Q : State → Prop} {dC : Nat → ClassId} {dI : Nat → Nat → Nat} {cI cB cJ cZ : ClassId} {A : Nat → Prop} {ad : Nat → Nat} {NN : Nat} {E : Heap} {tM tC : Nat} {kK kV : Nat → Nat} {post : St → Prop} {rec36 : Nat → Int32 → Int32 → Int32 → Int32 → St → Prop} (hx : p.tables.exec = Jvm.exec) (hb : c.code = b_Ans_countStretches) (hml : c.maxLocals = 7) (hown : s.vm.findClass R_Ans = some m.cls) (hT : ∀ w ∈ TG, w.before args s = true) (hK : va_K (dC, dI) CL (TY cI cB cJ cZ) s) (hN : NW s) (hA : ∀ q : Nat, s.heap.size ≤ q → A q) (hRc : cells ≤ R.cells) (hRs : slots ≤ R.slots) (hRf : 6 ≤ R.frames) (hRl : 224 ≤ R.locals) (hNN : 152 ≤ NN) (hE : CE E tM tC kK kV A s) (hret : ∀ (x : St) (H : Heap) (locs : List Loc) (pc : Nat) (ls : Array Slot), decode b_Ans_countStretches pc = .ok (.return_, 1) → post x → Wd dC dI cI cB cJ cZ ad stC kcC NN A x H → va_S A s.heap H locs → W p l e R s m args below meth c H locs cells slots Q (F0 m pc ls [])) (hrec36 : ∀ (o : Nat) (l1 : Int32) (l2 : Int32) (l3 : Int32) (l4 : Int32) (x : St) (H : Heap) (locs : List Loc) (ls : Array Slot), (o < NN ∧ kcC o = 10) → rec36 o l1 l2 l3 l4 x → Wd dC dI cI cB cJ cZ ad stC kcC NN A x H → va_S A s.heap H locs → lv_has ls 7 [(0, .ref (ad o)), (1, .int l1), (2, .int l2), (3, .int l3), (4, .int l4)] → W p l e R s m args below meth c H locs cells slots Q (F0 m 36 ls [])) : ∀ (o : Nat) (l1 : Int32) (l2 : Int32) (l3 : Int32) (l4 : Int32) (x : St) (H : Heap) (locs : List Loc) (ls : Array Slot), (o < NN ∧ kcC o = 10) → j_Ans_countStretches_36 post rec36 o l1 l2 l3 l4 x → Wd dC dI cI cB cJ cZ ad stC kcC NN A x H → va_S A s.heap H locs → lv_has ls 7 [(0, .ref (ad o)), (1, .int l1), (2, .int l2), (3, .int l3), (4, .int l4)] → W p l e R s m args below meth c H locs cells slots Q (F0 m 36 ls []) := by
  intro o l1 l2 l3 l4 x H locs ls fo hw hW hS hl
  unfold j_Ans_countStretches_36 at hw
  refine lv_iload hx hb d_Ans_countStretches_36 (lv_at hl 4 rfl) ?_
  refine lv_iload_n hx hb d_Ans_countStretches_38 rfl (lv_at hl 2 rfl) ?_
  refine lv_icmp_ge (tgt := 59) hx hb d_Ans_countStretches_39 (by decide) (fun c19 => ?_) (fun c19 => ?_)
  · have hw := hw.1 c19
    refine lv_iconst (v := 0) hx hb d_Ans_countStretches_59 (by decide) ?_
    refine lv_istore (lv' := [(4, .int 0), (0, .ref (ad o)), (1, .int l1), (2, .int l2), (3, .int l3)]) hx hb d_Ans_countStretches_60 hl (by decide) rfl (fun ls hl => ?_)
    refine lv_iconst (v := 0) hx hb d_Ans_countStretches_62 (by decide) ?_
    refine lv_istore (lv' := [(5, .int 0), (4, .int 0), (0, .ref (ad o)), (1, .int l1), (2, .int l2), (3, .int l3)]) hx hb d_Ans_countStretches_63 hl (by decide) rfl (fun ls hl => ?_)
    obtain ⟨n, hw⟩ := hw
    exact tl_Ans_countStretches_65 hx hb hml hown hT hK hN hA hRc hRs hRf hRl hNN hE hret  n o l1 l2 l3 0 0 x H locs ls fo hw hW hS (lv_sub hl [2, 3, 4, 5, 1, 0] rfl)
  · have hw := hw.2 c19
    refine lv_aload_n hx hb d_Ans_countStretches_42 rfl (lv_at hl 0 rfl) ?_
    refine w_getf (q := (stC o 12)) (k := 12) (t := 10) (C := R_Ans) (T := F_Ans) (N := 16) hx hb hT hown hK hW fo.1 fo.2 (by decide) in_Ans rfl rfl (by decide) rfl fr_Ans_12 w_3_174 d_Ans_countStretches_43 rfl ?_
    refine lv_iload hx hb d_Ans_countStretches_46 (lv_at hl 4 rfl) ?_
    refine lv_dup2_11 hx hb d_Ans_countStretches_48 rfl rfl ?_
    obtain ⟨hi, hw⟩ := hw
    refine w_iald (o := (stC o 12)) hx hb hK hW (st_ty hNN fo.1 fo.2 rfl).1 (st_ty hNN fo.1 fo.2 rfl).2 hi d_Ans_countStretches_49 ?_
    refine lv_iconst (v := 1) hx hb d_Ans_countStretches_50 (by decide) ?_
    refine lv_iadd hx hb d_Ans_countStretches_51 ?_
    obtain ⟨hi, hw⟩ := hw
    refine w_iast (o := (stC o 12)) hx hb hK hW hS (st_ty hNN fo.1 fo.2 rfl).1 (st_ty hNN fo.1 fo.2 rfl).2 hi d_Ans_countStretches_52 (fun H locs hW hS => ?_)
    obtain ⟨x20, ex20⟩ : ∃ y : St, y = setA x (stC o 12) l4 ((rA x (stC o 12) l4) + 1) := ⟨_, rfl⟩
    rw [← ex20] at hW
    have hw := hw x20 ex20
    refine lv_iinc (v := (l4 + 1)) (lv' := [(4, .int (l4 + 1)), (0, .ref (ad o)), (1, .int l1), (2, .int l2), (3, .int l3)]) hx hb d_Ans_countStretches_53 hl (k := 4) rfl rfl (by decide) rfl (fun ls hl => ?_)
    refine lv_goto (tgt := 36) hx hb d_Ans_countStretches_56 (by decide) ?_
    exact hrec36 o l1 l2 l3 (l4 + 1) x20 H locs ls fo hw hW hS (lv_sub hl [1, 2, 3, 4, 0] rfl)
set_option maxHeartbeats 4000000 in
set_option maxRecDepth 100000 in
theorem tl_Ans_countStretches_36 {p : Program} {l : Launch} {e : Env} {R : Room} {s : State} {m : MethodId} {args : Array Value} {below : List Frame} {meth : Method} {c : Code} {cells slots : Nat} {Q : State → Prop} {dC : Nat → ClassId} {dI : Nat → Nat → Nat} {cI cB cJ cZ : ClassId} {A : Nat → Prop} {ad : Nat → Nat} {NN : Nat} {E : Heap} {tM tC : Nat} {kK kV : Nat → Nat} {post : St → Prop} (hx : p.tables.exec = Jvm.exec) (hb : c.code = b_Ans_countStretches) (hml : c.maxLocals = 7) (hown : s.vm.findClass R_Ans = some m.cls) (hT : ∀ w ∈ TG, w.before args s = true) (hK : va_K (dC, dI) CL (TY cI cB cJ cZ) s) (hN : NW s) (hA : ∀ q : Nat, s.heap.size ≤ q → A q) (hRc : cells ≤ R.cells) (hRs : slots ≤ R.slots) (hRf : 6 ≤ R.frames) (hRl : 224 ≤ R.locals) (hNN : 152 ≤ NN) (hE : CE E tM tC kK kV A s) (hret : ∀ (x : St) (H : Heap) (locs : List Loc) (pc : Nat) (ls : Array Slot), decode b_Ans_countStretches pc = .ok (.return_, 1) → post x → Wd dC dI cI cB cJ cZ ad stC kcC NN A x H → va_S A s.heap H locs → W p l e R s m args below meth c H locs cells slots Q (F0 m pc ls []))  : ∀ n : Nat, ∀ (o : Nat) (l1 : Int32) (l2 : Int32) (l3 : Int32) (l4 : Int32) (x : St) (H : Heap) (locs : List Loc) (ls : Array Slot), (o < NN ∧ kcC o = 10) → wl_Ans_countStretches_36 post n o l1 l2 l3 l4 x → Wd dC dI cI cB cJ cZ ad stC kcC NN A x H → va_S A s.heap H locs → lv_has ls 7 [(0, .ref (ad o)), (1, .int l1), (2, .int l2), (3, .int l3), (4, .int l4)] → W p l e R s m args below meth c H locs cells slots Q (F0 m 36 ls []) := by
  intro n
  induction n with
  | zero => intro o l1 l2 l3 l4 x H locs ls fo hw; exact hw.elim
  | succ n ih => intro o l1 l2 l3 l4 x H locs ls fo hw hW hS hl; exact t_Ans_countStretches_36 hx hb hml hown hT hK hN hA hRc hRs hRf hRl hNN hE hret  ih o l1 l2 l3 l4 x H locs ls fo hw hW hS hl
set_option maxRecDepth 100000 in
set_option maxHeartbeats 4000000 in
set_option maxRecDepth 100000 in
theorem t_Ans_countStretches_e {p : Program} {l : Launch} {e : Env} {R : Room} {s : State} {m : MethodId} {args : Array Value} {below : List Frame} {meth : Method} {c : Code} {cells slots : Nat} {Q : State → Prop} {dC : Nat → ClassId} {dI : Nat → Nat → Nat} {cI cB cJ cZ : ClassId} {A : Nat → Prop} {ad : Nat → Nat} {NN : Nat} {E : Heap} {tM tC : Nat} {kK kV : Nat → Nat} {post : St → Prop} (hx : p.tables.exec = Jvm.exec) (hb : c.code = b_Ans_countStretches) (hml : c.maxLocals = 7) (hown : s.vm.findClass R_Ans = some m.cls) (hT : ∀ w ∈ TG, w.before args s = true) (hK : va_K (dC, dI) CL (TY cI cB cJ cZ) s) (hN : NW s) (hA : ∀ q : Nat, s.heap.size ≤ q → A q) (hRc : cells ≤ R.cells) (hRs : slots ≤ R.slots) (hRf : 6 ≤ R.frames) (hRl : 224 ≤ R.locals) (hNN : 152 ≤ NN) (hE : CE E tM tC kK kV A s) (hret : ∀ (x : St) (H : Heap) (locs : List Loc) (pc : Nat) (ls : Array Slot), decode b_Ans_countStretches pc = .ok (.return_, 1) → post x → Wd dC dI cI cB cJ cZ ad stC kcC NN A x H → va_S A s.heap H locs → W p l e R s m args below meth c H locs cells slots Q (F0 m pc ls [])) : ∀ (o : Nat) (l1 : Int32) (x : St) (H : Heap) (locs : List Loc) (ls : Array Slot), (o < NN ∧ kcC o = 10) → wp_Ans_countStretches post o l1 x → Wd dC dI cI cB cJ cZ ad stC kcC NN A x H → va_S A s.heap H locs → lv_has ls 7 [(0, .ref (ad o)), (1, .int l1)] → W p l e R s m args below meth c H locs cells slots Q (F0 m 0 ls []) := by
  intro o l1 x H locs ls fo hw hW hS hl
  unfold wp_Ans_countStretches at hw
  refine lv_aload_n hx hb d_Ans_countStretches_0 rfl (lv_at hl 0 rfl) ?_
  obtain ⟨q21, hq21, hw⟩ := hw
  refine w_getr (q := q21) (k := 14) (t := 10) (C := R_Ans) (T := F_Ans) (N := 16) hx hb hT hown hK hW fo.1 fo.2 (by decide) in_Ans rfl rfl (by decide) rfl fr_Ans_14 w_3_176 d_Ans_countStretches_1 hq21 (fun aq21 bq21 => ?_)
  have fq21 : q21 < NN ∧ kcC q21 = 6 := ⟨aq21, bq21⟩
  refine w_getf (q := (stC q21 5)) (k := 5) (t := 6) (C := R_Vlt) (T := F_Vlt) (N := 20) hx hb hT hown hK hW fq21.1 fq21.2 (by decide) in_Vlt rfl rfl (by decide) rfl fr_Vlt_5 w_2_137 d_Ans_countStretches_4 rfl ?_
  refine w_geti (k := 1) (t := 3) (C := R_Sch) (T := F_Sch) (N := 13) hx hb hT hown hK hW (st_ty hNN fq21.1 fq21.2 rfl).1 (st_ty hNN fq21.1 fq21.2 rfl).2 (by decide) in_Sch rfl rfl (by decide) rfl fr_Sch_1 w_1_139 d_Ans_countStretches_7 ?_
  refine lv_topi (fun v22 ev22 => ?_)
  have hw := hw v22 ev22
  refine lv_istore_n (lv' := [(2, .int v22), (0, .ref (ad o)), (1, .int l1)]) hx hb d_Ans_countStretches_10 rfl hl (by decide) rfl (fun ls hl => ?_)
  refine lv_aload_n hx hb d_Ans_countStretches_11 rfl (lv_at hl 1 rfl) ?_
  obtain ⟨q23, hq23, hw⟩ := hw
  refine w_getr (q := q23) (k := 14) (t := 10) (C := R_Ans) (T := F_Ans) (N := 16) hx hb hT hown hK hW fo.1 fo.2 (by decide) in_Ans rfl rfl (by decide) rfl fr_Ans_14 w_3_176 d_Ans_countStretches_12 hq23 (fun aq23 bq23 => ?_)
  have fq23 : q23 < NN ∧ kcC q23 = 6 := ⟨aq23, bq23⟩
  refine w_getf (q := (stC q23 11)) (k := 11) (t := 6) (C := R_Vlt) (T := F_Vlt) (N := 20) hx hb hT hown hK hW fq23.1 fq23.2 (by decide) in_Vlt rfl rfl (by decide) rfl fr_Vlt_11 w_2_158 d_Ans_countStretches_15 rfl ?_
  refine lv_iload_n hx hb d_Ans_countStretches_18 rfl (lv_at hl 2 rfl) ?_
  refine lv_iconst (v := 1) hx hb d_Ans_countStretches_19 (by decide) ?_
  refine lv_iadd hx hb d_Ans_countStretches_20 ?_
  obtain ⟨hi, hw⟩ := hw
  refine w_iald (o := (stC q23 11)) hx hb hK hW (st_ty hNN fq23.1 fq23.2 rfl).1 (st_ty hNN fq23.1 fq23.2 rfl).2 hi d_Ans_countStretches_21 ?_
  refine lv_aload_n hx hb d_Ans_countStretches_22 rfl (lv_at hl 1 rfl) ?_
  obtain ⟨q24, hq24, hw⟩ := hw
  refine w_getr (q := q24) (k := 14) (t := 10) (C := R_Ans) (T := F_Ans) (N := 16) hx hb hT hown hK hW fo.1 fo.2 (by decide) in_Ans rfl rfl (by decide) rfl fr_Ans_14 w_3_176 d_Ans_countStretches_23 hq24 (fun aq24 bq24 => ?_)
  have fq24 : q24 < NN ∧ kcC q24 = 6 := ⟨aq24, bq24⟩
  refine w_getf (q := (stC q24 11)) (k := 11) (t := 6) (C := R_Vlt) (T := F_Vlt) (N := 20) hx hb hT hown hK hW fq24.1 fq24.2 (by decide) in_Vlt rfl rfl (by decide) rfl fr_Vlt_11 w_2_158 d_Ans_countStretches_26 rfl ?_
  refine lv_iload_n hx hb d_Ans_countStretches_29 rfl (lv_at hl 2 rfl) ?_
  obtain ⟨hi, hw⟩ := hw
  refine w_iald (o := (stC q24 11)) hx hb hK hW (st_ty hNN fq24.1 fq24.2 rfl).1 (st_ty hNN fq24.1 fq24.2 rfl).2 hi d_Ans_countStretches_30 ?_
  refine lv_isub hx hb d_Ans_countStretches_31 ?_
  refine lv_topi (fun v25 ev25 => ?_)
  have hw := hw v25 ev25
  refine lv_istore_n (lv' := [(3, .int v25), (2, .int v22), (0, .ref (ad o)), (1, .int l1)]) hx hb d_Ans_countStretches_32 rfl hl (by decide) rfl (fun ls hl => ?_)
  refine lv_iconst (v := 0) hx hb d_Ans_countStretches_33 (by decide) ?_
  refine lv_istore (lv' := [(4, .int 0), (3, .int v25), (2, .int v22), (0, .ref (ad o)), (1, .int l1)]) hx hb d_Ans_countStretches_34 hl (by decide) rfl (fun ls hl => ?_)
  obtain ⟨n, hw⟩ := hw
  exact tl_Ans_countStretches_36 hx hb hml hown hT hK hN hA hRc hRs hRf hRl hNN hE hret  n o l1 v22 v25 0 x H locs ls fo hw hW hS (lv_sub hl [3, 4, 2, 1, 0] rfl)
set_option maxHeartbeats 4000000 in
set_option maxRecDepth 100000 in
theorem k_Ans_countStretches (l : Launch) (dC : Nat → ClassId) (dI : Nat → Nat → Nat) (cI cB cJ cZ : ClassId) (ad : Nat → Nat) (NN : Nat) (E : Heap) (tM tC : Nat) (kK kV : Nat → Nat) (hNN : 152 ≤ NN) (sz : Nat) (o : Nat) (l1 : Int32) (x : St) (fo : o < NN ∧ kcC o = 10) {post : St → Prop} (hw : wp_Ans_countStretches post o l1 x) : Met l y_Ans_countStretches (wsOf y_Ans_countStretches b_Ans_countStretches 7 (none)) ({ frames := 6, cells := 0, slots := 0, locals := 224 }) (va_Pc [.ref (ad o), .int l1] (PVc dC dI cI cB cJ cZ ad stC kcC NN E tM tC kK kV sz x)) (va_Qv (fun (y : St) => post y) (fun y t => Wd dC dI cI cB cJ cZ ad stC kcC NN (va_A (pic ad stC kcC NN cI cB cJ cZ x) sz) y t.heap) (va_A (pic ad stC kcC NN cI cB cJ cZ x) sz)) 0 0 (va_A (pic ad stC kcC NN cI cB cJ cZ x) sz) := by
  refine Met.ofW (cc := b_Ans_countStretches) (maxL := 7) (ret := none) (by decide) rfl ?_
  intro p e s m args below meth c s₁ B hml hv
  obtain ⟨rfl, ⟨hsz, hW0, hK, hN⟩, hE⟩ := hv
  have hx := B.exec
  have hb := B.bytes
  have hr := B.returns
  have hts := atoms_spec B.pre
  have hT : ∀ w ∈ TG, w.before _ s = true := fun w h => hts w (List.mem_cons_of_mem _ h)
  have hown : s.vm.findClass R_Ans = some m.cls := findClass_of_methodNamed B.named
  have hlocks := B.notSynchronized
  subst hsz
  have hW : Wd dC dI cI cB cJ cZ ad stC kcC NN (va_A (pic ad stC kcC NN cI cB cJ cZ x) s.heap.size) x s.heap := ⟨hW0.1, hW0.2.1.self (sz := s.heap.size), hW0.2.2⟩
  generalize hAe : va_A (pic ad stC kcC NN cI cB cJ cZ x) s.heap.size = A at hW hE ⊢
  have hA : ∀ q : Nat, s.heap.size ≤ q → A q := fun q h => by rw [← hAe]; exact Or.inr h
  have hS : va_S A s.heap s.heap [] := va_S.rf
  have hl := lv_entry ([.ref (ad o), .int l1]) (n := 7) (Nat.le_of_ble_eq_true rfl)
  rw [lg_entry_eq]
  generalize (lg_sl ([.ref (ad o), .int l1]) ++ List.replicate (7 - (lg_sl ([.ref (ad o), .int l1])).length) Slot.unset).toArray = ls at hl ⊢
  have hl : lv_has ls 7 [(0, .ref (ad o)), (1, .int l1)] := hl
  exact t_Ans_countStretches_e hx hb hml hown hT hK hN hA (Nat.le_refl 0) (Nat.le_refl 0) (Nat.le_refl 6) (Nat.le_refl 224) hNN hE (fun x H locs pc ls hd hp hW hS => W.vret hx hb hr (fun t ht hM => ⟨⟨x, rfl, hp, Wd.back hW ht.symm (fun _ z => z)⟩, hS.F ht⟩) hS.2.2 hd hlocks)  o l1 x _ _ ls fo hw hW hS hl
set_option maxRecDepth 100000 in
set_option maxHeartbeats 4000000 in
set_option maxRecDepth 100000 in
theorem t_Ans_countSkipped_115 {p : Program} {l : Launch} {e : Env} {R : Room} {s : State} {m : MethodId} {args : Array Value} {below : List Frame} {meth : Method} {c : Code} {cells slots : Nat} {Q : State → Prop} {dC : Nat → ClassId} {dI : Nat → Nat → Nat} {cI cB cJ cZ : ClassId} {A : Nat → Prop} {ad : Nat → Nat} {NN : Nat} {E : Heap} {tM tC : Nat} {kK kV : Nat → Nat} {post : St → Prop} {rec16 : Nat → Int32 → St → Prop} (hx : p.tables.exec = Jvm.exec) (hb : c.code = b_Ans_countSkipped) (hml : c.maxLocals = 3) (hown : s.vm.findClass R_Ans = some m.cls) (hT : ∀ w ∈ TG, w.before args s = true) (hK : va_K (dC, dI) CL (TY cI cB cJ cZ) s) (hN : NW s) (hA : ∀ q : Nat, s.heap.size ≤ q → A q) (hRc : cells ≤ R.cells) (hRs : slots ≤ R.slots) (hRf : 7 ≤ R.frames) (hRl : 250 ≤ R.locals) (hNN : 152 ≤ NN) (hE : CE E tM tC kK kV A s) (hret : ∀ (x : St) (H : Heap) (locs : List Loc) (pc : Nat) (ls : Array Slot), decode b_Ans_countSkipped pc = .ok (.return_, 1) → post x → Wd dC dI cI cB cJ cZ ad stC kcC NN A x H → va_S A s.heap H locs → W p l e R s m args below meth c H locs cells slots Q (F0 m pc ls [])) (hrec16 : ∀ (o : Nat) (l1 : Int32) (x : St) (H : Heap) (locs : List Loc) (ls : Array Slot), (o < NN ∧ kcC o = 10) → rec16 o l1 x → Wd dC dI cI cB cJ cZ ad stC kcC NN A x H → va_S A s.heap H locs → lv_has ls 3 [(0, .ref (ad o)), (1, .int l1)] → W p l e R s m args below meth c H locs cells slots Q (F0 m 16 ls [])) : ∀ (o : Nat) (l1 : Int32) (l2 : Int32) (x : St) (H : Heap) (locs : List Loc) (ls : Array Slot), (o < NN ∧ kcC o = 10) → j_Ans_countSkipped_115 post rec16 o l1 l2 x → Wd dC dI cI cB cJ cZ ad stC kcC NN A x H → va_S A s.heap H locs → lv_has ls 3 [(0, .ref (ad o)), (1, .int l1), (2, .int l2)] → W p l e R s m args below meth c H locs cells slots Q (F0 m 115 ls []) := by
  intro o l1 l2 x H locs ls fo hw hW hS hl
  unfold j_Ans_countSkipped_115 at hw
  refine lv_iinc (v := (l1 + 1)) (lv' := [(1, .int (l1 + 1)), (0, .ref (ad o)), (2, .int l2)]) hx hb d_Ans_countSkipped_115 hl (k := 1) rfl rfl (by decide) rfl (fun ls hl => ?_)
  refine lv_goto (tgt := 16) hx hb d_Ans_countSkipped_118 (by decide) ?_
  exact hrec16 o (l1 + 1) x H locs ls fo hw hW hS (lv_sub hl [1, 0] rfl)
set_option maxRecDepth 100000 in
set_option maxHeartbeats 4000000 in
set_option maxRecDepth 100000 in
theorem t_Ans_countSkipped_39 {p : Program} {l : Launch} {e : Env} {R : Room} {s : State} {m : MethodId} {args : Array Value} {below : List Frame} {meth : Method} {c : Code} {cells slots : Nat} {Q : State → Prop} {dC : Nat → ClassId} {dI : Nat → Nat → Nat} {cI cB cJ cZ : ClassId} {A : Nat → Prop} {ad : Nat → Nat} {NN : Nat} {E : Heap} {tM tC : Nat} {kK kV : Nat → Nat} {post : St → Prop} {rec16 : Nat → Int32 → St → Prop} {rec39 : Nat → Int32 → Int32 → St → Prop} (hx : p.tables.exec = Jvm.exec) (hb : c.code = b_Ans_countSkipped) (hml : c.maxLocals = 3) (hown : s.vm.findClass R_Ans = some m.cls) (hT : ∀ w ∈ TG, w.before args s = true) (hK : va_K (dC, dI) CL (TY cI cB cJ cZ) s) (hN : NW s) (hA : ∀ q : Nat, s.heap.size ≤ q → A q) (hRc : cells ≤ R.cells) (hRs : slots ≤ R.slots) (hRf : 7 ≤ R.frames) (hRl : 250 ≤ R.locals) (hNN : 152 ≤ NN) (hE : CE E tM tC kK kV A s) (hret : ∀ (x : St) (H : Heap) (locs : List Loc) (pc : Nat) (ls : Array Slot), decode b_Ans_countSkipped pc = .ok (.return_, 1) → post x → Wd dC dI cI cB cJ cZ ad stC kcC NN A x H → va_S A s.heap H locs → W p l e R s m args below meth c H locs cells slots Q (F0 m pc ls [])) (hrec16 : ∀ (o : Nat) (l1 : Int32) (x : St) (H : Heap) (locs : List Loc) (ls : Array Slot), (o < NN ∧ kcC o = 10) → rec16 o l1 x → Wd dC dI cI cB cJ cZ ad stC kcC NN A x H → va_S A s.heap H locs → lv_has ls 3 [(0, .ref (ad o)), (1, .int l1)] → W p l e R s m args below meth c H locs cells slots Q (F0 m 16 ls [])) (hrec39 : ∀ (o : Nat) (l1 : Int32) (l2 : Int32) (x : St) (H : Heap) (locs : List Loc) (ls : Array Slot), (o < NN ∧ kcC o = 10) → rec39 o l1 l2 x → Wd dC dI cI cB cJ cZ ad stC kcC NN A x H → va_S A s.heap H locs → lv_has ls 3 [(0, .ref (ad o)), (1, .int l1), (2, .int l2)] → W p l e R s m args below meth c H locs cells slots Q (F0 m 39 ls [])) : ∀ (o : Nat) (l1 : Int32) (l2 : Int32) (x : St) (H : Heap) (locs : List Loc) (ls : Array Slot), (o < NN ∧ kcC o = 10) → j_Ans_countSkipped_39 post rec16 rec39 o l1 l2 x → Wd dC dI cI cB cJ cZ ad stC kcC NN A x H → va_S A s.heap H locs → lv_has ls 3 [(0, .ref (ad o)), (1, .int l1), (2, .int l2)] → W p l e R s m args below meth c H locs cells slots Q (F0 m 39 ls []) := by
  intro o l1 l2 x H locs ls fo hw hW hS hl
  unfold j_Ans_countSkipped_39 at hw
  refine lv_iload_n hx hb d_Ans_countSkipped_39 rfl (lv_at hl 2 rfl) ?_
  refine lv_aload_n hx hb d_Ans_countSkipped_40 rfl (lv_at hl 0 rfl) ?_
  obtain ⟨q1, hq1, hw⟩ := hw
  refine w_getr (q := q1) (k := 14) (t := 10) (C := R_Ans) (T := F_Ans) (N := 16) hx hb hT hown hK hW fo.1 fo.2 (by decide) in_Ans rfl rfl (by decide) rfl fr_Ans_14 w_3_176 d_Ans_countSkipped_41 hq1 (fun aq1 bq1 => ?_)
  have fq1 : q1 < NN ∧ kcC q1 = 6 := ⟨aq1, bq1⟩
  refine w_getf (q := (stC q1 5)) (k := 5) (t := 6) (C := R_Vlt) (T := F_Vlt) (N := 20) hx hb hT hown hK hW fq1.1 fq1.2 (by decide) in_Vlt rfl rfl (by decide) rfl fr_Vlt_5 w_2_137 d_Ans_countSkipped_44 rfl ?_
  refine w_geti (k := 1) (t := 3) (C := R_Sch) (T := F_Sch) (N := 13) hx hb hT hown hK hW (st_ty hNN fq1.1 fq1.2 rfl).1 (st_ty hNN fq1.1 fq1.2 rfl).2 (by decide) in_Sch rfl rfl (by decide) rfl fr_Sch_1 w_1_139 d_Ans_countSkipped_47 ?_
  refine lv_icmp_ge (tgt := 87) hx hb d_Ans_countSkipped_50 (by decide) (fun c2 => ?_) (fun c2 => ?_)
  · have hw := hw.1 c2
    refine lv_aload_n hx hb d_Ans_countSkipped_87 rfl (lv_at hl 0 rfl) ?_
    refine lv_iconst (v := (-1)) hx hb d_Ans_countSkipped_88 (by decide) ?_
    have hF := hW.free hS hA
    refine va_calli (va_runV (C := R_Ans) (As := [.int (-1)]) (rest := []) ⟨hx, hb, hml, hown, hT⟩ (k_Ans_truthsOf l dC dI cI cB cJ cZ ad NN E tM tC kK kV hNN H.size o (-1) x fo hw) ⟨callB_of 1 hT (gwt_in w_8_34) rfl rfl rfl (hT _ w_1_13) (hT _ w_8_31) (by decide +kernel) ⟨Nat.le_trans (Nat.le_of_ble_eq_true rfl) hRf, Nat.le_trans (Nat.le_of_ble_eq_true rfl) hRl⟩, hT _ w_8_33, hT _ ws_88⟩ ⟨PVc.blind, va_recv hK hW.1 (ci := 10) (q0 := o) rfl (pic_obj fo.1 fo.2 (by decide)), PVc.at _ hW hK hN hE hS hF⟩ rfl rfl hl.1 rfl (lv_room (Nat.le_of_ble_eq_true rfl)) d_Ans_countSkipped_89 ⟨hRc, hRs⟩) hS (fun q _ h => hF q h) hF (fun r4 x3 t H locs ht hvm hw hB hz1 hk1 hS => ?_)
    have hW := Wd.back hB ht hF
    clear hB ht hF hz1 hk1 hvm
    refine lv_iconst (v := 2) hx hb d_Ans_countSkipped_92 (by decide) ?_
    refine lv_iand hx hb d_Ans_countSkipped_93 ?_
    refine lv_if_ne (tgt := 110) hx hb d_Ans_countSkipped_94 (by decide) (fun c5 => ?_) (fun c5 => ?_)
    · have hw := hw.1 c5
      refine lv_aload_n hx hb d_Ans_countSkipped_110 rfl (lv_at hl 0 rfl) ?_
      refine lv_iload_n hx hb d_Ans_countSkipped_111 rfl (lv_at hl 1 rfl) ?_
      have hF := hW.free hS hA
      refine va_callv (va_runV (C := R_Ans) (As := [.int l1]) (rest := []) ⟨hx, hb, hml, hown, hT⟩ (k_Ans_countStretches l dC dI cI cB cJ cZ ad NN E tM tC kK kV hNN H.size o l1 x3 fo hw) ⟨callB_of 1 hT (gwt_in w_8_121) rfl rfl rfl (hT _ w_1_13) (hT _ w_8_118) (by decide +kernel) ⟨Nat.le_trans (Nat.le_of_ble_eq_true rfl) hRf, Nat.le_trans (Nat.le_of_ble_eq_true rfl) hRl⟩, hT _ w_8_120, hT _ ws_105⟩ ⟨PVc.blind, va_recv hK hW.1 (ci := 10) (q0 := o) rfl (pic_obj fo.1 fo.2 (by decide)), PVc.at _ hW hK hN hE hS hF⟩ rfl rfl hl.1 rfl (lv_room (Nat.le_of_ble_eq_true rfl)) d_Ans_countSkipped_112 ⟨hRc, hRs⟩) hS (fun q _ h => hF q h) hF (fun  x6 t H locs ht hvm hw hB hz1 hk1 hS => ?_)
      have hW := Wd.back hB ht hF
      clear hB ht hF hz1 hk1 hvm
      exact t_Ans_countSkipped_115 hx hb hml hown hT hK hN hA hRc hRs hRf hRl hNN hE hret hrec16 o l1 l2 x6 H locs ls fo hw hW hS (lv_sub hl [0, 1, 2] rfl)
    · have hw := hw.2 c5
      refine lv_aload_n hx hb d_Ans_countSkipped_97 rfl (lv_at hl 0 rfl) ?_
      refine lv_dup hx hb d_Ans_countSkipped_98 rfl ?_
      refine w_geti (k := 2) (t := 10) (C := R_Ans) (T := F_Ans) (N := 16) hx hb hT hown hK hW fo.1 fo.2 (by decide) in_Ans rfl rfl (by decide) rfl fr_Ans_2 w_3_159 d_Ans_countSkipped_99 ?_
      refine lv_iconst (v := 1) hx hb d_Ans_countSkipped_102 (by decide) ?_
      refine lv_iadd hx hb d_Ans_countSkipped_103 ?_
      refine w_puti (ty := .int) (k := 2) (t := 10) (C := R_Ans) (T := F_Ans) (N := 16) hx hb hT hown hK hW hS fo.1 fo.2 (by decide) in_Ans t_Ans t_Ans_ok n_Ans rfl rfl (by decide) rfl fr_Ans_2 w_3_159 (by decide +kernel) rfl rfl d_Ans_countSkipped_104 (fun H locs hW hS => ?_)
      obtain ⟨x7, ex7⟩ : ∃ y : St, y = setI x3 o 2 ((fI x3 o 2) + 1) := ⟨_, rfl⟩
      rw [← ex7] at hW
      have hw := hw x7 ex7
      refine lv_goto (tgt := 115) hx hb d_Ans_countSkipped_107 (by decide) ?_
      exact t_Ans_countSkipped_115 hx hb hml hown hT hK hN hA hRc hRs hRf hRl hNN hE hret hrec16 o l1 l2 x7 H locs ls fo hw hW hS (lv_sub hl [0, 1, 2] rfl)
  · have hw := hw.2 c2
    refine lv_aload_n hx hb d_Ans_countSkipped_53 rfl (lv_at hl 0 rfl) ?_
    refine w_getf (q := (stC o 12)) (k := 12) (t := 10) (C := R_Ans) (T := F_Ans) (N := 16) hx hb hT hown hK hW fo.1 fo.2 (by decide) in_Ans rfl rfl (by decide) rfl fr_Ans_12 w_3_174 d_Ans_countSkipped_54 rfl ?_
    refine lv_iload_n hx hb d_Ans_countSkipped_57 rfl (lv_at hl 2 rfl) ?_
    refine lv_aload_n hx hb d_Ans_countSkipped_58 rfl (lv_at hl 0 rfl) ?_
    obtain ⟨q8, hq8, hw⟩ := hw
    refine w_getr (q := q8) (k := 14) (t := 10) (C := R_Ans) (T := F_Ans) (N := 16) hx hb hT hown hK hW fo.1 fo.2 (by decide) in_Ans rfl rfl (by decide) rfl fr_Ans_14 w_3_176 d_Ans_countSkipped_59 hq8 (fun aq8 bq8 => ?_)
    have fq8 : q8 < NN ∧ kcC q8 = 6 := ⟨aq8, bq8⟩
    refine w_getf (q := (stC q8 12)) (k := 12) (t := 6) (C := R_Vlt) (T := F_Vlt) (N := 20) hx hb hT hown hK hW fq8.1 fq8.2 (by decide) in_Vlt rfl rfl (by decide) rfl fr_Vlt_12 w_2_161 d_Ans_countSkipped_62 rfl ?_
    refine lv_iload_n hx hb d_Ans_countSkipped_65 rfl (lv_at hl 1 rfl) ?_
    refine lv_aload_n hx hb d_Ans_countSkipped_66 rfl (lv_at hl 0 rfl) ?_
    obtain ⟨q9, hq9, hw⟩ := hw
    refine w_getr (q := q9) (k := 14) (t := 10) (C := R_Ans) (T := F_Ans) (N := 16) hx hb hT hown hK hW fo.1 fo.2 (by decide) in_Ans rfl rfl (by decide) rfl fr_Ans_14 w_3_176 d_Ans_countSkipped_67 hq9 (fun aq9 bq9 => ?_)
    have fq9 : q9 < NN ∧ kcC q9 = 6 := ⟨aq9, bq9⟩
    refine w_getf (q := (stC q9 5)) (k := 5) (t := 6) (C := R_Vlt) (T := F_Vlt) (N := 20) hx hb hT hown hK hW fq9.1 fq9.2 (by decide) in_Vlt rfl rfl (by decide) rfl fr_Vlt_5 w_2_137 d_Ans_countSkipped_70 rfl ?_
    refine w_geti (k := 1) (t := 3) (C := R_Sch) (T := F_Sch) (N := 13) hx hb hT hown hK hW (st_ty hNN fq9.1 fq9.2 rfl).1 (st_ty hNN fq9.1 fq9.2 rfl).2 (by decide) in_Sch rfl rfl (by decide) rfl fr_Sch_1 w_1_139 d_Ans_countSkipped_73 ?_
    refine lv_imul hx hb d_Ans_countSkipped_76 ?_
    refine lv_iload_n hx hb d_Ans_countSkipped_77 rfl (lv_at hl 2 rfl) ?_
    refine lv_iadd hx hb d_Ans_countSkipped_78 ?_
    obtain ⟨hi, hw⟩ := hw
    refine w_iald (o := (stC q8 12)) hx hb hK hW (st_ty hNN fq8.1 fq8.2 rfl).1 (st_ty hNN fq8.1 fq8.2 rfl).2 hi d_Ans_countSkipped_79 ?_
    obtain ⟨hi, hw⟩ := hw
    refine w_iast (o := (stC o 12)) hx hb hK hW hS (st_ty hNN fo.1 fo.2 rfl).1 (st_ty hNN fo.1 fo.2 rfl).2 hi d_Ans_countSkipped_80 (fun H locs hW hS => ?_)
    obtain ⟨x10, ex10⟩ : ∃ y : St, y = setA x (stC o 12) l2 (rA x (stC q8 12) ((l1 * (fI x (stC q9 5) 1)) + l2)) := ⟨_, rfl⟩
    rw [← ex10] at hW
    have hw := hw x10 ex10
    refine lv_iinc (v := (l2 + 1)) (lv' := [(2, .int (l2 + 1)), (0, .ref (ad o)), (1, .int l1)]) hx hb d_Ans_countSkipped_81 hl (k := 2) rfl rfl (by decide) rfl (fun ls hl => ?_)
    refine lv_goto (tgt := 39) hx hb d_Ans_countSkipped_84 (by decide) ?_
    exact hrec39 o l1 (l2 + 1) x10 H locs ls fo hw hW hS (lv_sub hl [1, 2, 0] rfl)
set_option maxHeartbeats 4000000 in
set_option maxRecDepth 100000 in
theorem tl_Ans_countSkipped_39 {p : Program} {l : Launch} {e : Env} {R : Room} {s : State} {m : MethodId} {args : Array Value} {below : List Frame} {meth : Method} {c : Code} {cells slots : Nat} {Q : State → Prop} {dC : Nat → ClassId} {dI : Nat → Nat → Nat} {cI cB cJ cZ : ClassId} {A : Nat → Prop} {ad : Nat → Nat} {NN : Nat} {E : Heap} {tM tC : Nat} {kK kV : Nat → Nat} {post : St → Prop} {rec16 : Nat → Int32 → St → Prop} (hx : p.tables.exec = Jvm.exec) (hb : c.code = b_Ans_countSkipped) (hml : c.maxLocals = 3) (hown : s.vm.findClass R_Ans = some m.cls) (hT : ∀ w ∈ TG, w.before args s = true) (hK : va_K (dC, dI) CL (TY cI cB cJ cZ) s) (hN : NW s) (hA : ∀ q : Nat, s.heap.size ≤ q → A q) (hRc : cells ≤ R.cells) (hRs : slots ≤ R.slots) (hRf : 7 ≤ R.frames) (hRl : 250 ≤ R.locals) (hNN : 152 ≤ NN) (hE : CE E tM tC kK kV A s) (hret : ∀ (x : St) (H : Heap) (locs : List Loc) (pc : Nat) (ls : Array Slot), decode b_Ans_countSkipped pc = .ok (.return_, 1) → post x → Wd dC dI cI cB cJ cZ ad stC kcC NN A x H → va_S A s.heap H locs → W p l e R s m args below meth c H locs cells slots Q (F0 m pc ls [])) (hrec16 : ∀ (o : Nat) (l1 : Int32) (x : St) (H : Heap) (locs : List Loc) (ls : Array Slot), (o < NN ∧ kcC o = 10) → rec16 o l1 x → Wd dC dI cI cB cJ cZ ad stC kcC NN A x H → va_S A s.heap H locs → lv_has ls 3 [(0, .ref (ad o)), (1, .int l1)] → W p l e R s m args below meth c H locs cells slots Q (F0 m 16 ls [])) : ∀ n : Nat, ∀ (o : Nat) (l1 : Int32) (l2 : Int32) (x : St) (H : Heap) (locs : List Loc) (ls : Array Slot), (o < NN ∧ kcC o = 10) → wl_Ans_countSkipped_39 post rec16 n o l1 l2 x → Wd dC dI cI cB cJ cZ ad stC kcC NN A x H → va_S A s.heap H locs → lv_has ls 3 [(0, .ref (ad o)), (1, .int l1), (2, .int l2)] → W p l e R s m args below meth c H locs cells slots Q (F0 m 39 ls []) := by
  intro n
  induction n with
  | zero => intro o l1 l2 x H locs ls fo hw; exact hw.elim
  | succ n ih => intro o l1 l2 x H locs ls fo hw hW hS hl; exact t_Ans_countSkipped_39 hx hb hml hown hT hK hN hA hRc hRs hRf hRl hNN hE hret hrec16 ih o l1 l2 x H locs ls fo hw hW hS hl
set_option maxRecDepth 100000 in
set_option maxHeartbeats 4000000 in
set_option maxRecDepth 100000 in
theorem t_Ans_countSkipped_16 {p : Program} {l : Launch} {e : Env} {R : Room} {s : State} {m : MethodId} {args : Array Value} {below : List Frame} {meth : Method} {c : Code} {cells slots : Nat} {Q : State → Prop} {dC : Nat → ClassId} {dI : Nat → Nat → Nat} {cI cB cJ cZ : ClassId} {A : Nat → Prop} {ad : Nat → Nat} {NN : Nat} {E : Heap} {tM tC : Nat} {kK kV : Nat → Nat} {post : St → Prop} {rec16 : Nat → Int32 → St → Prop} (hx : p.tables.exec = Jvm.exec) (hb : c.code = b_Ans_countSkipped) (hml : c.maxLocals = 3) (hown : s.vm.findClass R_Ans = some m.cls) (hT : ∀ w ∈ TG, w.before args s = true) (hK : va_K (dC, dI) CL (TY cI cB cJ cZ) s) (hN : NW s) (hA : ∀ q : Nat, s.heap.size ≤ q → A q) (hRc : cells ≤ R.cells) (hRs : slots ≤ R.slots) (hRf : 7 ≤ R.frames) (hRl : 250 ≤ R.locals) (hNN : 152 ≤ NN) (hE : CE E tM tC kK kV A s) (hret : ∀ (x : St) (H : Heap) (locs : List Loc) (pc : Nat) (ls : Array Slot), decode b_Ans_countSkipped pc = .ok (.return_, 1) → post x → Wd dC dI cI cB cJ cZ ad stC kcC NN A x H → va_S A s.heap H locs → W p l e R s m args below meth c H locs cells slots Q (F0 m pc ls [])) (hrec16 : ∀ (o : Nat) (l1 : Int32) (x : St) (H : Heap) (locs : List Loc) (ls : Array Slot), (o < NN ∧ kcC o = 10) → rec16 o l1 x → Wd dC dI cI cB cJ cZ ad stC kcC NN A x H → va_S A s.heap H locs → lv_has ls 3 [(0, .ref (ad o)), (1, .int l1)] → W p l e R s m args below meth c H locs cells slots Q (F0 m 16 ls [])) : ∀ (o : Nat) (l1 : Int32) (x : St) (H : Heap) (locs : List Loc) (ls : Array Slot), (o < NN ∧ kcC o = 10) → j_Ans_countSkipped_16 post rec16 o l1 x → Wd dC dI cI cB cJ cZ ad stC kcC NN A x H → va_S A s.heap H locs → lv_has ls 3 [(0, .ref (ad o)), (1, .int l1)] → W p l e R s m args below meth c H locs cells slots Q (F0 m 16 ls []) := by
  intro o l1 x H locs ls fo hw hW hS hl
  unfold j_Ans_countSkipped_16 at hw
  refine lv_iload_n hx hb d_Ans_countSkipped_16 rfl (lv_at hl 1 rfl) ?_
  refine lv_aload_n hx hb d_Ans_countSkipped_17 rfl (lv_at hl 0 rfl) ?_
  obtain ⟨q11, hq11, hw⟩ := hw
  refine w_getr (q := q11) (k := 14) (t := 10) (C := R_Ans) (T := F_Ans) (N := 16) hx hb hT hown hK hW fo.1 fo.2 (by decide) in_Ans rfl rfl (by decide) rfl fr_Ans_14 w_3_176 d_Ans_countSkipped_18 hq11 (fun aq11 bq11 => ?_)
  have fq11 : q11 < NN ∧ kcC q11 = 6 := ⟨aq11, bq11⟩
  refine w_geti (k := 2) (t := 6) (C := R_Vlt) (T := F_Vlt) (N := 20) hx hb hT hown hK hW fq11.1 fq11.2 (by decide) in_Vlt rfl rfl (by decide) rfl fr_Vlt_2 w_2_129 d_Ans_countSkipped_21 ?_
  refine lv_icmp_ge (tgt := 121) hx hb d_Ans_countSkipped_24 (by decide) (fun c12 => ?_) (fun c12 => ?_)
  · have hw := hw.1 c12
    exact hret x H locs 121 ls d_Ans_countSkipped_121 hw hW hS
  · have hw := hw.2 c12
    refine lv_aload_n hx hb d_Ans_countSkipped_27 rfl (lv_at hl 0 rfl) ?_
    obtain ⟨q13, hq13, hw⟩ := hw
    refine w_getr (q := q13) (k := 15) (t := 10) (C := R_Ans) (T := F_Ans) (N := 16) hx hb hT hown hK hW fo.1 fo.2 (by decide) in_Ans rfl rfl (by decide) rfl fr_Ans_15 w_3_177 d_Ans_countSkipped_28 hq13 (fun aq13 bq13 => ?_)
    have fq13 : q13 < NN ∧ kcC q13 = 9 := ⟨aq13, bq13⟩
    refine w_geti (k := 8) (t := 9) (C := R_Qry) (T := F_Qry) (N := 20) hx hb hT hown hK hW fq13.1 fq13.2 (by decide) in_Qry rfl rfl (by decide) rfl fr_Qry_8 w_3_90 d_Ans_countSkipped_31 ?_
    refine lv_if_le (tgt := 121) hx hb d_Ans_countSkipped_34 (by decide) (fun c14 => ?_) (fun c14 => ?_)
    · have hw := hw.1 c14
      exact hret x H locs 121 ls d_Ans_countSkipped_121 hw hW hS
    · have hw := hw.2 c14
      refine lv_iconst (v := 0) hx hb d_Ans_countSkipped_37 (by decide) ?_
      refine lv_istore_n (lv' := [(2, .int 0), (0, .ref (ad o)), (1, .int l1)]) hx hb d_Ans_countSkipped_38 rfl hl (by decide) rfl (fun ls hl => ?_)
      obtain ⟨n, hw⟩ := hw
      exact tl_Ans_countSkipped_39 hx hb hml hown hT hK hN hA hRc hRs hRf hRl hNN hE hret hrec16 n o l1 0 x H locs ls fo hw hW hS (lv_sub hl [1, 2, 0] rfl)
set_option maxHeartbeats 4000000 in
set_option maxRecDepth 100000 in
theorem tl_Ans_countSkipped_16 {p : Program} {l : Launch} {e : Env} {R : Room} {s : State} {m : MethodId} {args : Array Value} {below : List Frame} {meth : Method} {c : Code} {cells slots : Nat} {Q : State → Prop} {dC : Nat → ClassId} {dI : Nat → Nat → Nat} {cI cB cJ cZ : ClassId} {A : Nat → Prop} {ad : Nat → Nat} {NN : Nat} {E : Heap} {tM tC : Nat} {kK kV : Nat → Nat} {post : St → Prop} (hx : p.tables.exec = Jvm.exec) (hb : c.code = b_Ans_countSkipped) (hml : c.maxLocals = 3) (hown : s.vm.findClass R_Ans = some m.cls) (hT : ∀ w ∈ TG, w.before args s = true) (hK : va_K (dC, dI) CL (TY cI cB cJ cZ) s) (hN : NW s) (hA : ∀ q : Nat, s.heap.size ≤ q → A q) (hRc : cells ≤ R.cells) (hRs : slots ≤ R.slots) (hRf : 7 ≤ R.frames) (hRl : 250 ≤ R.locals) (hNN : 152 ≤ NN) (hE : CE E tM tC kK kV A s) (hret : ∀ (x : St) (H : Heap) (locs : List Loc) (pc : Nat) (ls : Array Slot), decode b_Ans_countSkipped pc = .ok (.return_, 1) → post x → Wd dC dI cI cB cJ cZ ad stC kcC NN A x H → va_S A s.heap H locs → W p l e R s m args below meth c H locs cells slots Q (F0 m pc ls []))  : ∀ n : Nat, ∀ (o : Nat) (l1 : Int32) (x : St) (H : Heap) (locs : List Loc) (ls : Array Slot), (o < NN ∧ kcC o = 10) → wl_Ans_countSkipped_16 post n o l1 x → Wd dC dI cI cB cJ cZ ad stC kcC NN A x H → va_S A s.heap H locs → lv_has ls 3 [(0, .ref (ad o)), (1, .int l1)] → W p l e R s m args below meth c H locs cells slots Q (F0 m 16 ls []) := by
  intro n
  induction n with
  | zero => intro o l1 x H locs ls fo hw; exact hw.elim
  | succ n ih => intro o l1 x H locs ls fo hw hW hS hl; exact t_Ans_countSkipped_16 hx hb hml hown hT hK hN hA hRc hRs hRf hRl hNN hE hret  ih o l1 x H locs ls fo hw hW hS hl
set_option maxRecDepth 100000 in
set_option maxHeartbeats 4000000 in
set_option maxRecDepth 100000 in
theorem t_Ans_countSkipped_e {p : Program} {l : Launch} {e : Env} {R : Room} {s : State} {m : MethodId} {args : Array Value} {below : List Frame} {meth : Method} {c : Code} {cells slots : Nat} {Q : State → Prop} {dC : Nat → ClassId} {dI : Nat → Nat → Nat} {cI cB cJ cZ : ClassId} {A : Nat → Prop} {ad : Nat → Nat} {NN : Nat} {E : Heap} {tM tC : Nat} {kK kV : Nat → Nat} {post : St → Prop} (hx : p.tables.exec = Jvm.exec) (hb : c.code = b_Ans_countSkipped) (hml : c.maxLocals = 3) (hown : s.vm.findClass R_Ans = some m.cls) (hT : ∀ w ∈ TG, w.before args s = true) (hK : va_K (dC, dI) CL (TY cI cB cJ cZ) s) (hN : NW s) (hA : ∀ q : Nat, s.heap.size ≤ q → A q) (hRc : cells ≤ R.cells) (hRs : slots ≤ R.slots) (hRf : 7 ≤ R.frames) (hRl : 250 ≤ R.locals) (hNN : 152 ≤ NN) (hE : CE E tM tC kK kV A s) (hret : ∀ (x : St) (H : Heap) (locs : List Loc) (pc : Nat) (ls : Array Slot), decode b_Ans_countSkipped pc = .ok (.return_, 1) → post x → Wd dC dI cI cB cJ cZ ad stC kcC NN A x H → va_S A s.heap H locs → W p l e R s m args below meth c H locs cells slots Q (F0 m pc ls [])) : ∀ (o : Nat) (x : St) (H : Heap) (locs : List Loc) (ls : Array Slot), (o < NN ∧ kcC o = 10) → wp_Ans_countSkipped post o x → Wd dC dI cI cB cJ cZ ad stC kcC NN A x H → va_S A s.heap H locs → lv_has ls 3 [(0, .ref (ad o))] → W p l e R s m args below meth c H locs cells slots Q (F0 m 0 ls []) := by
  intro o x H locs ls fo hw hW hS hl
  unfold wp_Ans_countSkipped at hw
  refine lv_aload_n hx hb d_Ans_countSkipped_0 rfl (lv_at hl 0 rfl) ?_
  refine lv_iconst (v := 0) hx hb d_Ans_countSkipped_1 (by decide) ?_
  refine w_puti (ty := .int) (k := 2) (t := 10) (C := R_Ans) (T := F_Ans) (N := 16) hx hb hT hown hK hW hS fo.1 fo.2 (by decide) in_Ans t_Ans t_Ans_ok n_Ans rfl rfl (by decide) rfl fr_Ans_2 w_3_159 (by decide +kernel) rfl rfl d_Ans_countSkipped_2 (fun H locs hW hS => ?_)
  obtain ⟨x15, ex15⟩ : ∃ y : St, y = setI x o 2 0 := ⟨_, rfl⟩
  rw [← ex15] at hW
  have hw := hw x15 ex15
  refine lv_aload_n hx hb d_Ans_countSkipped_5 rfl (lv_at hl 0 rfl) ?_
  refine lv_iconst (v := 0) hx hb d_Ans_countSkipped_6 (by decide) ?_
  refine w_puti (ty := .int) (k := 3) (t := 10) (C := R_Ans) (T := F_Ans) (N := 16) hx hb hT hown hK hW hS fo.1 fo.2 (by decide) in_Ans t_Ans t_Ans_ok n_Ans rfl rfl (by decide) rfl fr_Ans_3 w_3_161 (by decide +kernel) rfl rfl d_Ans_countSkipped_7 (fun H locs hW hS => ?_)
  obtain ⟨x16, ex16⟩ : ∃ y : St, y = setI x15 o 3 0 := ⟨_, rfl⟩
  rw [← ex16] at hW
  have hw := hw x16 ex16
  refine lv_aload_n hx hb d_Ans_countSkipped_10 rfl (lv_at hl 0 rfl) ?_
  have hF := hW.free hS hA
  refine va_callv (va_runV (C := R_Ans) (As := []) (rest := []) ⟨hx, hb, hml, hown, hT⟩ (k_Ans_markAsked l dC dI cI cB cJ cZ ad NN E tM tC kK kV hNN H.size o x16 fo hw) ⟨callB_of 0 hT (gwt_in w_8_117) rfl rfl rfl (hT _ w_1_13) (hT _ w_8_114) (by decide +kernel) ⟨Nat.le_trans (Nat.le_of_ble_eq_true rfl) hRf, Nat.le_trans (Nat.le_of_ble_eq_true rfl) hRl⟩, hT _ w_8_116, hT _ ws_104⟩ ⟨PVc.blind, va_recv hK hW.1 (ci := 10) (q0 := o) rfl (pic_obj fo.1 fo.2 (by decide)), PVc.at _ hW hK hN hE hS hF⟩ rfl rfl hl.1 rfl (lv_room (Nat.le_of_ble_eq_true rfl)) d_Ans_countSkipped_11 ⟨hRc, hRs⟩) hS (fun q _ h => hF q h) hF (fun  x17 t H locs ht hvm hw hB hz1 hk1 hS => ?_)
  have hW := Wd.back hB ht hF
  clear hB ht hF hz1 hk1 hvm
  refine lv_iconst (v := 0) hx hb d_Ans_countSkipped_14 (by decide) ?_
  refine lv_istore_n (lv' := [(1, .int 0), (0, .ref (ad o))]) hx hb d_Ans_countSkipped_15 rfl hl (by decide) rfl (fun ls hl => ?_)
  obtain ⟨n, hw⟩ := hw
  exact tl_Ans_countSkipped_16 hx hb hml hown hT hK hN hA hRc hRs hRf hRl hNN hE hret  n o 0 x17 H locs ls fo hw hW hS (lv_sub hl [1, 0] rfl)
set_option maxHeartbeats 4000000 in
set_option maxRecDepth 100000 in
theorem k_Ans_countSkipped (l : Launch) (dC : Nat → ClassId) (dI : Nat → Nat → Nat) (cI cB cJ cZ : ClassId) (ad : Nat → Nat) (NN : Nat) (E : Heap) (tM tC : Nat) (kK kV : Nat → Nat) (hNN : 152 ≤ NN) (sz : Nat) (o : Nat) (x : St) (fo : o < NN ∧ kcC o = 10) {post : St → Prop} (hw : wp_Ans_countSkipped post o x) : Met l y_Ans_countSkipped (wsOf y_Ans_countSkipped b_Ans_countSkipped 3 (none)) ({ frames := 7, cells := 0, slots := 0, locals := 250 }) (va_Pc [.ref (ad o)] (PVc dC dI cI cB cJ cZ ad stC kcC NN E tM tC kK kV sz x)) (va_Qv (fun (y : St) => post y) (fun y t => Wd dC dI cI cB cJ cZ ad stC kcC NN (va_A (pic ad stC kcC NN cI cB cJ cZ x) sz) y t.heap) (va_A (pic ad stC kcC NN cI cB cJ cZ x) sz)) 0 0 (va_A (pic ad stC kcC NN cI cB cJ cZ x) sz) := by
  refine Met.ofW (cc := b_Ans_countSkipped) (maxL := 3) (ret := none) (by decide) rfl ?_
  intro p e s m args below meth c s₁ B hml hv
  obtain ⟨rfl, ⟨hsz, hW0, hK, hN⟩, hE⟩ := hv
  have hx := B.exec
  have hb := B.bytes
  have hr := B.returns
  have hts := atoms_spec B.pre
  have hT : ∀ w ∈ TG, w.before _ s = true := fun w h => hts w (List.mem_cons_of_mem _ h)
  have hown : s.vm.findClass R_Ans = some m.cls := findClass_of_methodNamed B.named
  have hlocks := B.notSynchronized
  subst hsz
  have hW : Wd dC dI cI cB cJ cZ ad stC kcC NN (va_A (pic ad stC kcC NN cI cB cJ cZ x) s.heap.size) x s.heap := ⟨hW0.1, hW0.2.1.self (sz := s.heap.size), hW0.2.2⟩
  generalize hAe : va_A (pic ad stC kcC NN cI cB cJ cZ x) s.heap.size = A at hW hE ⊢
  have hA : ∀ q : Nat, s.heap.size ≤ q → A q := fun q h => by rw [← hAe]; exact Or.inr h
  have hS : va_S A s.heap s.heap [] := va_S.rf
  have hl := lv_entry ([.ref (ad o)]) (n := 3) (Nat.le_of_ble_eq_true rfl)
  rw [lg_entry_eq]
  generalize (lg_sl ([.ref (ad o)]) ++ List.replicate (3 - (lg_sl ([.ref (ad o)])).length) Slot.unset).toArray = ls at hl ⊢
  have hl : lv_has ls 3 [(0, .ref (ad o))] := hl
  exact t_Ans_countSkipped_e hx hb hml hown hT hK hN hA (Nat.le_refl 0) (Nat.le_refl 0) (Nat.le_refl 7) (Nat.le_refl 250) hNN hE (fun x H locs pc ls hd hp hW hS => W.vret hx hb hr (fun t ht hM => ⟨⟨x, rfl, hp, Wd.back hW ht.symm (fun _ z => z)⟩, hS.F ht⟩) hS.2.2 hd hlocks)  o x _ _ ls fo hw hW hS hl
set_option maxRecDepth 100000 in
set_option maxHeartbeats 4000000 in
set_option maxRecDepth 100000 in
theorem t_V_run_28 {p : Program} {l : Launch} {e : Env} {R : Room} {s : State} {m : MethodId} {args : Array Value} {below : List Frame} {meth : Method} {c : Code} {cells slots : Nat} {Q : State → Prop} {dC : Nat → ClassId} {dI : Nat → Nat → Nat} {cI cB cJ cZ : ClassId} {A : Nat → Prop} {ad : Nat → Nat} {NN : Nat} {E : Heap} {tM tC : Nat} {kK kV : Nat → Nat} {post : Int32 → St → Prop} (hx : p.tables.exec = Jvm.exec) (hb : c.code = b_V_run) (hml : c.maxLocals = 2) (hown : s.vm.findClass R_V = some m.cls) (hT : ∀ w ∈ TG, w.before args s = true) (hK : va_K (dC, dI) CL (TY cI cB cJ cZ) s) (hN : NW s) (hA : ∀ q : Nat, s.heap.size ≤ q → A q) (hRc : cells ≤ R.cells) (hRs : slots ≤ R.slots) (hRf : 8 ≤ R.frames) (hRl : 272 ≤ R.locals) (hNN : 152 ≤ NN) (hE : CE E tM tC kK kV A s) (hret : ∀ (r : Int32) (x : St) (H : Heap) (locs : List Loc) (pc : Nat) (ls : Array Slot), decode b_V_run pc = .ok (.ireturn, 1) → post r x → Wd dC dI cI cB cJ cZ ad stC kcC NN A x H → va_S A s.heap H locs → W p l e R s m args below meth c H locs cells slots Q (F0 m pc ls [.int r]))  : ∀ (o : Nat) (x : St) (H : Heap) (locs : List Loc) (ls : Array Slot), (o < NN ∧ kcC o = 0) → j_V_run_28 post o x → Wd dC dI cI cB cJ cZ ad stC kcC NN A x H → va_S A s.heap H locs → lv_has ls 2 [(0, .ref (ad o))] → W p l e R s m args below meth c H locs cells slots Q (F0 m 28 ls []) := by
  intro o x H locs ls fo hw hW hS hl
  unfold j_V_run_28 at hw
  refine lv_iconst (v := (-1)) hx hb d_V_run_28 (by decide) ?_
  exact hret (-1) x H locs 29 ls d_V_run_29 hw hW hS
set_option maxRecDepth 100000 in
set_option maxHeartbeats 4000000 in
set_option maxRecDepth 100000 in
theorem t_V_run_e {p : Program} {l : Launch} {e : Env} {R : Room} {s : State} {m : MethodId} {args : Array Value} {below : List Frame} {meth : Method} {c : Code} {cells slots : Nat} {Q : State → Prop} {dC : Nat → ClassId} {dI : Nat → Nat → Nat} {cI cB cJ cZ : ClassId} {A : Nat → Prop} {ad : Nat → Nat} {NN : Nat} {E : Heap} {tM tC : Nat} {kK kV : Nat → Nat} {post : Int32 → St → Prop} (hx : p.tables.exec = Jvm.exec) (hb : c.code = b_V_run) (hml : c.maxLocals = 2) (hown : s.vm.findClass R_V = some m.cls) (hT : ∀ w ∈ TG, w.before args s = true) (hK : va_K (dC, dI) CL (TY cI cB cJ cZ) s) (hN : NW s) (hA : ∀ q : Nat, s.heap.size ≤ q → A q) (hRc : cells ≤ R.cells) (hRs : slots ≤ R.slots) (hRf : 8 ≤ R.frames) (hRl : 272 ≤ R.locals) (hNN : 152 ≤ NN) (hE : CE E tM tC kK kV A s) (hret : ∀ (r : Int32) (x : St) (H : Heap) (locs : List Loc) (pc : Nat) (ls : Array Slot), decode b_V_run pc = .ok (.ireturn, 1) → post r x → Wd dC dI cI cB cJ cZ ad stC kcC NN A x H → va_S A s.heap H locs → W p l e R s m args below meth c H locs cells slots Q (F0 m pc ls [.int r])) : ∀ (o : Nat) (x : St) (H : Heap) (locs : List Loc) (ls : Array Slot), (o < NN ∧ kcC o = 0) → wp_V_run post o x → Wd dC dI cI cB cJ cZ ad stC kcC NN A x H → va_S A s.heap H locs → lv_has ls 2 [(0, .ref (ad o))] → W p l e R s m args below meth c H locs cells slots Q (F0 m 0 ls []) := by
  intro o x H locs ls fo hw hW hS hl
  unfold wp_V_run at hw
  refine lv_aload_n hx hb d_V_run_0 rfl (lv_at hl 0 rfl) ?_
  obtain ⟨q1, hq1, hw⟩ := hw
  refine w_getr (q := q1) (k := 10) (t := 0) (C := R_V) (T := F_V) (N := 15) hx hb hT hown hK hW fo.1 fo.2 (by decide) in_V rfl rfl (by decide) rfl fr_V_10 w_4_5 d_V_run_1 hq1 (fun aq1 bq1 => ?_)
  have fq1 : q1 < NN ∧ kcC q1 = 9 := ⟨aq1, bq1⟩
  refine w_geti (k := 0) (t := 9) (C := R_Qry) (T := F_Qry) (N := 20) hx hb hT hown hK hW fq1.1 fq1.2 (by decide) in_Qry rfl rfl (by decide) rfl fr_Qry_0 w_3_75 d_V_run_4 ?_
  refine lv_if_eq (tgt := 28) hx hb d_V_run_7 (by decide) (fun c2 => ?_) (fun c2 => ?_)
  · have hw := hw.1 c2
    exact t_V_run_28 hx hb hml hown hT hK hN hA hRc hRs hRf hRl hNN hE hret  o x H locs ls fo hw hW hS (lv_sub hl [0] rfl)
  · have hw := hw.2 c2
    refine lv_aload_n hx hb d_V_run_10 rfl (lv_at hl 0 rfl) ?_
    obtain ⟨q3, hq3, hw⟩ := hw
    refine w_getr (q := q3) (k := 13) (t := 0) (C := R_V) (T := F_V) (N := 15) hx hb hT hown hK hW fo.1 fo.2 (by decide) in_V rfl rfl (by decide) rfl fr_V_13 w_4_8 d_V_run_11 hq3 (fun aq3 bq3 => ?_)
    have fq3 : q3 < NN ∧ kcC q3 = 10 := ⟨aq3, bq3⟩
    refine lv_aload_n hx hb d_V_run_14 rfl (lv_at hl 0 rfl) ?_
    refine w_getf (q := (stC o 8)) (k := 8) (t := 0) (C := R_V) (T := F_V) (N := 15) hx hb hT hown hK hW fo.1 fo.2 (by decide) in_V rfl rfl (by decide) rfl fr_V_8 w_4_3 d_V_run_15 rfl ?_
    refine lv_aload_n hx hb d_V_run_18 rfl (lv_at hl 0 rfl) ?_
    obtain ⟨q4, hq4, hw⟩ := hw
    refine w_getr (q := q4) (k := 10) (t := 0) (C := R_V) (T := F_V) (N := 15) hx hb hT hown hK hW fo.1 fo.2 (by decide) in_V rfl rfl (by decide) rfl fr_V_10 w_4_5 d_V_run_19 hq4 (fun aq4 bq4 => ?_)
    have fq4 : q4 < NN ∧ kcC q4 = 9 := ⟨aq4, bq4⟩
    have hF := hW.free hS hA
    refine va_calli (va_runV (C := R_Ans) (As := [.ref (ad (stC o 8)), .ref (ad q4)]) (rest := []) ⟨hx, hb, hml, hown, hT⟩ (k_Ans_fill l dC dI cI cB cJ cZ ad NN E tM tC kK kV hNN H.size q3 (stC o 8) q4 x fq3 (st_ty hNN fo.1 fo.2 rfl) fq4 hw) ⟨callB_of 2 hT (gwt_in w_8_19) rfl rfl rfl (hT _ w_1_13) (hT _ w_8_16) (by decide +kernel) ⟨Nat.le_trans (Nat.le_of_ble_eq_true rfl) hRf, Nat.le_trans (Nat.le_of_ble_eq_true rfl) hRl⟩, hT _ w_8_17, hT _ w_8_18⟩ ⟨PVc.blind, va_recv hK hW.1 (ci := 10) (q0 := q3) rfl (pic_obj fq3.1 fq3.2 (by decide)), PVc.at _ hW hK hN hE hS hF⟩ rfl rfl hl.1 rfl (lv_room (Nat.le_of_ble_eq_true rfl)) d_V_run_22 ⟨hRc, hRs⟩) hS (fun q _ h => hF q h) hF (fun r6 x5 t H locs ht hvm hw hB hz1 hk1 hS => ?_)
    have hW := Wd.back hB ht hF
    clear hB ht hF hz1 hk1 hvm
    refine lv_if_ne (tgt := 30) hx hb d_V_run_25 (by decide) (fun c7 => ?_) (fun c7 => ?_)
    · have hw := hw.1 c7
      refine lv_aload_n hx hb d_V_run_30 rfl (lv_at hl 0 rfl) ?_
      obtain ⟨q8, hq8, hw⟩ := hw
      refine w_getr (q := q8) (k := 12) (t := 0) (C := R_V) (T := F_V) (N := 15) hx hb hT hown hK hW fo.1 fo.2 (by decide) in_V rfl rfl (by decide) rfl fr_V_12 w_4_7 d_V_run_31 hq8 (fun aq8 bq8 => ?_)
      have fq8 : q8 < NN ∧ kcC q8 = 10 := ⟨aq8, bq8⟩
      refine lv_astore_n (lv' := [(1, .ref (ad q8)), (0, .ref (ad o))]) hx hb d_V_run_34 rfl hl (by decide) rfl (fun ls hl => ?_)
      refine lv_aload_n hx hb d_V_run_35 rfl (lv_at hl 1 rfl) ?_
      refine lv_aload_n hx hb d_V_run_36 rfl (lv_at hl 1 rfl) ?_
      obtain ⟨q9, hq9, hw⟩ := hw
      refine w_getr (q := q9) (k := 13) (t := 0) (C := R_V) (T := F_V) (N := 15) hx hb hT hown hK hW fo.1 fo.2 (by decide) in_V rfl rfl (by decide) rfl fr_V_13 w_4_8 d_V_run_37 hq9 (fun aq9 bq9 => ?_)
      have fq9 : q9 < NN ∧ kcC q9 = 10 := ⟨aq9, bq9⟩
      refine w_putr (q := q9) (ty := .object "StripedVault$Answer") (k := 12) (t := 0) (C := R_V) (T := F_V) (N := 15) hx hb hT hown hK hW hS fo.1 fo.2 (by decide) in_V t_V t_V_ok n_V rfl rfl (by decide) rfl fr_V_12 w_4_7 (by decide +kernel) rfl rfl fq9.1 fq9.2 d_V_run_40 (fun H locs hW hS => ?_)
      obtain ⟨x10, ex10⟩ : ∃ y : St, y = setR x5 o 12 (some q9) := ⟨_, rfl⟩
      rw [← ex10] at hW
      have hw := hw x10 ex10
      refine lv_aload_n hx hb d_V_run_43 rfl (lv_at hl 1 rfl) ?_
      refine lv_aload_n hx hb d_V_run_44 rfl (lv_at hl 0 rfl) ?_
      refine w_putr (q := q8) (ty := .object "StripedVault$Answer") (k := 13) (t := 0) (C := R_V) (T := F_V) (N := 15) hx hb hT hown hK hW hS fo.1 fo.2 (by decide) in_V t_V t_V_ok n_V rfl rfl (by decide) rfl fr_V_13 w_4_8 (by decide +kernel) rfl rfl fq8.1 fq8.2 d_V_run_45 (fun H locs hW hS => ?_)
      obtain ⟨x11, ex11⟩ : ∃ y : St, y = setR x10 o 13 (some q8) := ⟨_, rfl⟩
      rw [← ex11] at hW
      have hw := hw x11 ex11
      refine lv_aload_n hx hb d_V_run_48 rfl (lv_at hl 1 rfl) ?_
      obtain ⟨q12, hq12, hw⟩ := hw
      refine w_getr (q := q12) (k := 12) (t := 0) (C := R_V) (T := F_V) (N := 15) hx hb hT hown hK hW fo.1 fo.2 (by decide) in_V rfl rfl (by decide) rfl fr_V_12 w_4_7 d_V_run_49 hq12 (fun aq12 bq12 => ?_)
      have fq12 : q12 < NN ∧ kcC q12 = 10 := ⟨aq12, bq12⟩
      have hF := hW.free hS hA
      refine va_callv (va_runV (C := R_Ans) (As := []) (rest := []) ⟨hx, hb, hml, hown, hT⟩ (k_Ans_countSkipped l dC dI cI cB cJ cZ ad NN E tM tC kK kV hNN H.size q12 x11 fq12 hw) ⟨callB_of 0 hT (gwt_in w_8_113) rfl rfl rfl (hT _ w_1_13) (hT _ w_8_110) (by decide +kernel) ⟨Nat.le_trans (Nat.le_of_ble_eq_true rfl) hRf, Nat.le_trans (Nat.le_of_ble_eq_true rfl) hRl⟩, hT _ w_8_111, hT _ w_8_112⟩ ⟨PVc.blind, va_recv hK hW.1 (ci := 10) (q0 := q12) rfl (pic_obj fq12.1 fq12.2 (by decide)), PVc.at _ hW hK hN hE hS hF⟩ rfl rfl hl.1 rfl (lv_room (Nat.le_of_ble_eq_true rfl)) d_V_run_52 ⟨hRc, hRs⟩) hS (fun q _ h => hF q h) hF (fun  x13 t H locs ht hvm hw hB hz1 hk1 hS => ?_)
      have hW := Wd.back hB ht hF
      clear hB ht hF hz1 hk1 hvm
      refine lv_aload_n hx hb d_V_run_55 rfl (lv_at hl 1 rfl) ?_
      obtain ⟨q14, hq14, hw⟩ := hw
      refine w_getr (q := q14) (k := 12) (t := 0) (C := R_V) (T := F_V) (N := 15) hx hb hT hown hK hW fo.1 fo.2 (by decide) in_V rfl rfl (by decide) rfl fr_V_12 w_4_7 d_V_run_56 hq14 (fun aq14 bq14 => ?_)
      have fq14 : q14 < NN ∧ kcC q14 = 10 := ⟨aq14, bq14⟩
      refine lv_iconst (v := 1) hx hb d_V_run_59 (by decide) ?_
      refine w_puti (ty := .boolean) (k := 0) (t := 10) (C := R_Ans) (T := F_Ans) (N := 16) hx hb hT hown hK hW hS fq14.1 fq14.2 (by decide) in_Ans t_Ans t_Ans_ok n_Ans rfl rfl (by decide) rfl fr_Ans_0 w_3_156 (by decide +kernel) rfl rfl d_V_run_60 (fun H locs hW hS => ?_)
      obtain ⟨x15, ex15⟩ : ∃ y : St, y = setI x13 q14 0 1 := ⟨_, rfl⟩
      rw [← ex15] at hW
      have hw := hw x15 ex15
      refine lv_aload_n hx hb d_V_run_63 rfl (lv_at hl 1 rfl) ?_
      obtain ⟨q16, hq16, hw⟩ := hw
      refine w_getr (q := q16) (k := 12) (t := 0) (C := R_V) (T := F_V) (N := 15) hx hb hT hown hK hW fo.1 fo.2 (by decide) in_V rfl rfl (by decide) rfl fr_V_12 w_4_7 d_V_run_64 hq16 (fun aq16 bq16 => ?_)
      have fq16 : q16 < NN ∧ kcC q16 = 10 := ⟨aq16, bq16⟩
      refine w_geti (k := 1) (t := 10) (C := R_Ans) (T := F_Ans) (N := 16) hx hb hT hown hK hW fq16.1 fq16.2 (by decide) in_Ans rfl rfl (by decide) rfl fr_Ans_1 w_3_158 d_V_run_67 ?_
      exact hret (fI x15 q16 1) x15 H locs 70 ls d_V_run_70 hw hW hS
    · have hw := hw.2 c7
      exact t_V_run_28 hx hb hml hown hT hK hN hA hRc hRs hRf hRl hNN hE hret  o x5 H locs ls fo hw hW hS (lv_sub hl [0] rfl)
set_option maxHeartbeats 4000000 in
set_option maxRecDepth 100000 in
theorem k_V_run (l : Launch) (dC : Nat → ClassId) (dI : Nat → Nat → Nat) (cI cB cJ cZ : ClassId) (ad : Nat → Nat) (NN : Nat) (E : Heap) (tM tC : Nat) (kK kV : Nat → Nat) (hNN : 152 ≤ NN) (sz : Nat) (o : Nat) (x : St) (fo : o < NN ∧ kcC o = 0) {post : Int32 → St → Prop} (hw : wp_V_run post o x) : Met l y_V_run (wsOf y_V_run b_V_run 2 (some (.int))) ({ frames := 8, cells := 0, slots := 0, locals := 272 }) (va_Pc [.ref (ad o)] (PVc dC dI cI cB cJ cZ ad stC kcC NN E tM tC kK kV sz x)) (va_Qi (fun (r : Int32) (y : St) => post r y) (fun y t => Wd dC dI cI cB cJ cZ ad stC kcC NN (va_A (pic ad stC kcC NN cI cB cJ cZ x) sz) y t.heap) (va_A (pic ad stC kcC NN cI cB cJ cZ x) sz)) 0 0 (va_A (pic ad stC kcC NN cI cB cJ cZ x) sz) := by
  refine Met.ofW (cc := b_V_run) (maxL := 2) (ret := some (.int)) (by decide) rfl ?_
  intro p e s m args below meth c s₁ B hml hv
  obtain ⟨rfl, ⟨hsz, hW0, hK, hN⟩, hE⟩ := hv
  have hx := B.exec
  have hb := B.bytes
  have hr := B.returns
  have hts := atoms_spec B.pre
  have hT : ∀ w ∈ TG, w.before _ s = true := fun w h => hts w (List.mem_cons_of_mem _ h)
  have hown : s.vm.findClass R_V = some m.cls := findClass_of_methodNamed B.named
  have hlocks := B.notSynchronized
  subst hsz
  have hW : Wd dC dI cI cB cJ cZ ad stC kcC NN (va_A (pic ad stC kcC NN cI cB cJ cZ x) s.heap.size) x s.heap := ⟨hW0.1, hW0.2.1.self (sz := s.heap.size), hW0.2.2⟩
  generalize hAe : va_A (pic ad stC kcC NN cI cB cJ cZ x) s.heap.size = A at hW hE ⊢
  have hA : ∀ q : Nat, s.heap.size ≤ q → A q := fun q h => by rw [← hAe]; exact Or.inr h
  have hS : va_S A s.heap s.heap [] := va_S.rf
  have hl := lv_entry ([.ref (ad o)]) (n := 2) (Nat.le_of_ble_eq_true rfl)
  rw [lg_entry_eq]
  generalize (lg_sl ([.ref (ad o)]) ++ List.replicate (2 - (lg_sl ([.ref (ad o)])).length) Slot.unset).toArray = ls at hl ⊢
  have hl : lv_has ls 2 [(0, .ref (ad o))] := hl
  exact t_V_run_e hx hb hml hown hT hK hN hA (Nat.le_refl 0) (Nat.le_refl 0) (Nat.le_refl 8) (Nat.le_refl 272) hNN hE (fun r x H locs pc ls hd hp hW hS => W.iret (v := r) hx hb hr (fun t ht hM => ⟨⟨r, x, rfl, hp, Wd.back hW ht.symm (fun _ z => z)⟩, hS.F ht⟩) hS.2.2 hd hlocks)  o x _ _ ls fo hw hW hS hl
end
