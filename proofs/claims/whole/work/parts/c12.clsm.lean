theorem fr_Opn_5 : F_Opn 5 = (R_Opn, "chunksAt", "I", false) := rfl
theorem fr_Vlt_1 : F_Vlt 1 = (R_Vlt, "rows", "I", false) := rfl
theorem fr_Vlt_2 : F_Vlt 2 = (R_Vlt, "groups", "I", false) := rfl
theorem w_1_137 : (Jvm.Cond.fieldLink "StripedVault$Opener" (110 : Nat) "StripedVault$Schema" "columns" "I") ∈ TG := tw_1 137 (by decide +kernel) (by decide +kernel)
theorem w_1_181 : (Jvm.Cond.fieldLink "StripedVault$Opener" (118 : Nat) "StripedVault$Schema" "fieldOf" "[I") ∈ TG := tw_1 181 (by decide +kernel) (by decide +kernel)
theorem w_2_125 : (Jvm.Cond.fieldLink "StripedVault$Opener" (133 : Nat) "StripedVault$Vault" "rows" "I") ∈ TG := tw_2 125 (by decide +kernel) (by decide +kernel)
theorem w_2_127 : (Jvm.Cond.fieldLink "StripedVault$Opener" (136 : Nat) "StripedVault$Vault" "groups" "I") ∈ TG := tw_2 127 (by decide +kernel) (by decide +kernel)
theorem w_2_136 : (Jvm.Cond.fieldLink "StripedVault$Opener" (77 : Nat) "StripedVault$Vault" "schema" "LStripedVault$Schema;") ∈ TG := tw_2 136 (by decide +kernel) (by decide +kernel)
theorem w_3_0 : (Jvm.Cond.fieldLink "StripedVault$Opener" (130 : Nat) "StripedVault$Source" "stop" "I") ∈ TG := tw_3 0 (by decide +kernel) (by decide +kernel)
theorem w_3_21 : (Jvm.Cond.fieldLink "StripedVault$Opener" (104 : Nat) "StripedVault$Opener" "chunksAt" "I") ∈ TG := tw_3 21 (by decide +kernel) (by decide +kernel)
theorem w_6_100 : (Jvm.Cond.methodLink "StripedVault$Opener" (81 : Nat) ({ cls := "StripedVault$Opener", name := "readSchema", desc := "(LStripedVault$Schema;)V" } : Jvm.MethodName)) ∈ TG := tw_6 100 (by decide +kernel) (by decide +kernel)
theorem w_6_102 : (Jvm.Cond.instanceMethod ({ cls := "StripedVault$Opener", name := "readSchema", desc := "(LStripedVault$Schema;)V" } : Jvm.MethodName)) ∈ TG := tw_6 102 (by decide +kernel) (by decide +kernel)
theorem w_6_103 : (Jvm.Cond.code ({ cls := "StripedVault$Opener", name := "readSchema", desc := "(LStripedVault$Schema;)V" } : Jvm.MethodName) prog_4_method_5_code (5 : Nat) (Option.none : Option Jvm.ClassFile.FieldType)) ∈ TG := tw_6 103 (by decide +kernel) (by decide +kernel)
theorem w_6_140 : (Jvm.Cond.constantLong "StripedVault$Opener" (89 : Nat) (2000 : Int64)) ∈ TG := tw_6 140 (by decide +kernel) (by decide +kernel)
theorem w_6_141 : (Jvm.Cond.constantLong "StripedVault$Opener" (99 : Nat) (500 : Int64)) ∈ TG := tw_6 141 (by decide +kernel) (by decide +kernel)
theorem w_6_142 : (Jvm.Cond.methodLink "StripedVault$Opener" (121 : Nat) ({ cls := "StripedVault$Opener", name := "readChunkTold", desc := "(I)V" } : Jvm.MethodName)) ∈ TG := tw_6 142 (by decide +kernel) (by decide +kernel)
theorem w_6_144 : (Jvm.Cond.instanceMethod ({ cls := "StripedVault$Opener", name := "readChunkTold", desc := "(I)V" } : Jvm.MethodName)) ∈ TG := tw_6 144 (by decide +kernel) (by decide +kernel)
theorem w_6_145 : (Jvm.Cond.code ({ cls := "StripedVault$Opener", name := "readChunkTold", desc := "(I)V" } : Jvm.MethodName) prog_4_method_9_code (2 : Nat) (Option.none : Option Jvm.ClassFile.FieldType)) ∈ TG := tw_6 145 (by decide +kernel) (by decide +kernel)
theorem w_6_146 : (Jvm.Cond.constantLong "StripedVault$Opener" (184 : Nat) (10000 : Int64)) ∈ TG := tw_6 146 (by decide +kernel) (by decide +kernel)
theorem w_6_147 : (Jvm.Cond.methodLink "StripedVault$Opener" (186 : Nat) ({ cls := "StripedVault$Source", name := "readTold", desc := "(I)J" } : Jvm.MethodName)) ∈ TG := tw_6 147 (by decide +kernel) (by decide +kernel)
theorem w_6_148 : (Jvm.Cond.instanceMethod ({ cls := "StripedVault$Source", name := "readTold", desc := "(I)J" } : Jvm.MethodName)) ∈ TG := tw_6 148 (by decide +kernel) (by decide +kernel)
theorem w_6_149 : (Jvm.Cond.selects "StripedVault$Source" ({ cls := "StripedVault$Source", name := "readTold", desc := "(I)J" } : Jvm.MethodName) ({ cls := "StripedVault$Source", name := "readTold", desc := "(I)J" } : Jvm.MethodName)) ∈ TG := tw_6 149 (by decide +kernel) (by decide +kernel)
theorem w_6_150 : (Jvm.Cond.code ({ cls := "StripedVault$Source", name := "readTold", desc := "(I)J" } : Jvm.MethodName) prog_10_method_11_code (4 : Nat) (Option.some Jvm.ClassFile.FieldType.long)) ∈ TG := tw_6 150 (by decide +kernel) (by decide +kernel)
theorem w_6_163 : (Jvm.Cond.constantLong "StripedVault$Opener" (125 : Nat) (40000 : Int64)) ∈ TG := tw_6 163 (by decide +kernel) (by decide +kernel)
theorem w_6_164 : (Jvm.Cond.methodLink "StripedVault$Opener" (127 : Nat) ({ cls := "StripedVault$Source", name := "checkEnd", desc := "()V" } : Jvm.MethodName)) ∈ TG := tw_6 164 (by decide +kernel) (by decide +kernel)
theorem w_6_165 : (Jvm.Cond.instanceMethod ({ cls := "StripedVault$Source", name := "checkEnd", desc := "()V" } : Jvm.MethodName)) ∈ TG := tw_6 165 (by decide +kernel) (by decide +kernel)
theorem w_6_166 : (Jvm.Cond.selects "StripedVault$Source" ({ cls := "StripedVault$Source", name := "checkEnd", desc := "()V" } : Jvm.MethodName) ({ cls := "StripedVault$Source", name := "checkEnd", desc := "()V" } : Jvm.MethodName)) ∈ TG := tw_6 166 (by decide +kernel) (by decide +kernel)
theorem w_6_167 : (Jvm.Cond.code ({ cls := "StripedVault$Source", name := "checkEnd", desc := "()V" } : Jvm.MethodName) prog_10_method_6_code (1 : Nat) (Option.none : Option Jvm.ClassFile.FieldType)) ∈ TG := tw_6 167 (by decide +kernel) (by decide +kernel)
theorem ws_34 : Cond.selects R_Opn y_Opn_readSchema y_Opn_readSchema ∈ TG := tw_s 34 (by decide +kernel) (by decide +kernel)
theorem ws_37 : Cond.selects R_Opn y_Opn_readChunkTold y_Opn_readChunkTold ∈ TG := tw_s 37 (by decide +kernel) (by decide +kernel)
theorem d_Opn_readChunkTold_46 : decode b_Opn_readChunkTold 46 = .ok (.bipush 18, 2) := by decide +kernel
theorem d_Opn_readChunkTold_48 : decode b_Opn_readChunkTold 48 = .ok (.invokevirtual 95, 3) := by decide +kernel
theorem d_Opn_readChunkTold_51 : decode b_Opn_readChunkTold 51 = .ok (.aload_n 0, 1) := by decide +kernel
theorem d_Opn_readChunkTold_52 : decode b_Opn_readChunkTold 52 = .ok (.getfield 15, 3) := by decide +kernel
theorem d_Opn_readChunkTold_55 : decode b_Opn_readChunkTold 55 = .ok (.iconst 2, 1) := by decide +kernel
theorem d_Opn_readChunkTold_56 : decode b_Opn_readChunkTold 56 = .ok (.aload_n 0, 1) := by decide +kernel
theorem d_Opn_readChunkTold_57 : decode b_Opn_readChunkTold 57 = .ok (.getfield 40, 3) := by decide +kernel
theorem d_Opn_readChunkTold_60 : decode b_Opn_readChunkTold 60 = .ok (.invokevirtual 85, 3) := by decide +kernel
theorem d_Opn_readChunkTold_63 : decode b_Opn_readChunkTold 63 = .ok (.lastore, 1) := by decide +kernel
theorem d_Opn_readChunkTold_64 : decode b_Opn_readChunkTold 64 = .ok (.aload_n 0, 1) := by decide +kernel
theorem d_Opn_readChunkTold_65 : decode b_Opn_readChunkTold 65 = .ok (.getfield 40, 3) := by decide +kernel
theorem d_Opn_readChunkTold_68 : decode b_Opn_readChunkTold 68 = .ok (.aload_n 0, 1) := by decide +kernel
theorem d_Opn_readChunkTold_69 : decode b_Opn_readChunkTold 69 = .ok (.getfield 15, 3) := by decide +kernel
theorem d_Opn_readChunkTold_72 : decode b_Opn_readChunkTold 72 = .ok (.iconst 2, 1) := by decide +kernel
theorem d_Opn_readChunkTold_73 : decode b_Opn_readChunkTold 73 = .ok (.laload, 1) := by decide +kernel
theorem d_Opn_readChunkTold_74 : decode b_Opn_readChunkTold 74 = .ok (.ldc2_w 184, 3) := by decide +kernel
theorem d_Opn_readChunkTold_77 : decode b_Opn_readChunkTold 77 = .ok (.invokestatic 91, 3) := by decide +kernel
theorem d_Opn_readChunkTold_80 : decode b_Opn_readChunkTold 80 = .ok (.bipush 16, 2) := by decide +kernel
theorem d_Opn_readChunkTold_82 : decode b_Opn_readChunkTold 82 = .ok (.invokevirtual 95, 3) := by decide +kernel
theorem d_Opn_readChunkTold_85 : decode b_Opn_readChunkTold 85 = .ok (.aload_n 0, 1) := by decide +kernel
theorem d_Opn_readChunkTold_86 : decode b_Opn_readChunkTold 86 = .ok (.getfield 15, 3) := by decide +kernel
theorem d_Opn_readChunkTold_89 : decode b_Opn_readChunkTold 89 = .ok (.iconst 3, 1) := by decide +kernel
theorem d_Opn_readChunkTold_90 : decode b_Opn_readChunkTold 90 = .ok (.aload_n 0, 1) := by decide +kernel
theorem d_Opn_readChunkTold_91 : decode b_Opn_readChunkTold 91 = .ok (.getfield 40, 3) := by decide +kernel
theorem d_Opn_readChunkTold_94 : decode b_Opn_readChunkTold 94 = .ok (.invokevirtual 85, 3) := by decide +kernel
theorem d_Opn_readChunkTold_97 : decode b_Opn_readChunkTold 97 = .ok (.lastore, 1) := by decide +kernel
theorem d_Opn_readChunkTold_98 : decode b_Opn_readChunkTold 98 = .ok (.aload_n 0, 1) := by decide +kernel
theorem d_Opn_readChunkTold_99 : decode b_Opn_readChunkTold 99 = .ok (.getfield 40, 3) := by decide +kernel
theorem d_Opn_readChunkTold_102 : decode b_Opn_readChunkTold 102 = .ok (.aload_n 0, 1) := by decide +kernel
theorem d_Opn_readChunkTold_103 : decode b_Opn_readChunkTold 103 = .ok (.getfield 15, 3) := by decide +kernel
theorem d_Opn_readChunkTold_106 : decode b_Opn_readChunkTold 106 = .ok (.iconst 3, 1) := by decide +kernel
theorem d_Opn_readChunkTold_107 : decode b_Opn_readChunkTold 107 = .ok (.laload, 1) := by decide +kernel
theorem d_Opn_readChunkTold_108 : decode b_Opn_readChunkTold 108 = .ok (.aload_n 0, 1) := by decide +kernel
theorem d_Opn_readChunkTold_109 : decode b_Opn_readChunkTold 109 = .ok (.getfield 15, 3) := by decide +kernel
theorem d_Opn_readChunkTold_112 : decode b_Opn_readChunkTold 112 = .ok (.iconst 2, 1) := by decide +kernel
theorem d_Opn_readChunkTold_113 : decode b_Opn_readChunkTold 113 = .ok (.laload, 1) := by decide +kernel
theorem d_Opn_readChunkTold_114 : decode b_Opn_readChunkTold 114 = .ok (.invokestatic 91, 3) := by decide +kernel
theorem d_Opn_readChunkTold_117 : decode b_Opn_readChunkTold 117 = .ok (.bipush 7, 2) := by decide +kernel
theorem d_Opn_readChunkTold_119 : decode b_Opn_readChunkTold 119 = .ok (.invokevirtual 95, 3) := by decide +kernel
theorem d_Opn_readChunkTold_122 : decode b_Opn_readChunkTold 122 = .ok (.aload_n 0, 1) := by decide +kernel
theorem d_Opn_readChunkTold_123 : decode b_Opn_readChunkTold 123 = .ok (.getfield 15, 3) := by decide +kernel
theorem d_Opn_readChunkTold_126 : decode b_Opn_readChunkTold 126 = .ok (.iconst 3, 1) := by decide +kernel
theorem d_Opn_readChunkTold_127 : decode b_Opn_readChunkTold 127 = .ok (.laload, 1) := by decide +kernel
theorem d_Opn_readChunkTold_128 : decode b_Opn_readChunkTold 128 = .ok (.aload_n 0, 1) := by decide +kernel
theorem d_Opn_readChunkTold_129 : decode b_Opn_readChunkTold 129 = .ok (.getfield 15, 3) := by decide +kernel
theorem d_Opn_readChunkTold_132 : decode b_Opn_readChunkTold 132 = .ok (.iconst 2, 1) := by decide +kernel
theorem d_Opn_readChunkTold_133 : decode b_Opn_readChunkTold 133 = .ok (.laload, 1) := by decide +kernel
theorem d_Opn_readChunkTold_134 : decode b_Opn_readChunkTold 134 = .ok (.lcmp, 1) := by decide +kernel
theorem d_Opn_readChunkTold_135 : decode b_Opn_readChunkTold 135 = .ok (.ifCond .eq 31, 3) := by decide +kernel
theorem d_Opn_readChunkTold_166 : decode b_Opn_readChunkTold 166 = .ok (.return_, 1) := by decide +kernel
theorem d_Opn_readChunkTold_138 : decode b_Opn_readChunkTold 138 = .ok (.aload_n 0, 1) := by decide +kernel
theorem d_Opn_readChunkTold_139 : decode b_Opn_readChunkTold 139 = .ok (.getfield 15, 3) := by decide +kernel
theorem d_Opn_readChunkTold_142 : decode b_Opn_readChunkTold 142 = .ok (.iconst 4, 1) := by decide +kernel
theorem d_Opn_readChunkTold_143 : decode b_Opn_readChunkTold 143 = .ok (.aload_n 0, 1) := by decide +kernel
theorem d_Opn_readChunkTold_144 : decode b_Opn_readChunkTold 144 = .ok (.getfield 40, 3) := by decide +kernel
theorem d_Opn_readChunkTold_147 : decode b_Opn_readChunkTold 147 = .ok (.iload_n 1, 1) := by decide +kernel
theorem d_Opn_readChunkTold_148 : decode b_Opn_readChunkTold 148 = .ok (.invokevirtual 186, 3) := by decide +kernel
theorem d_Opn_readChunkTold_151 : decode b_Opn_readChunkTold 151 = .ok (.lastore, 1) := by decide +kernel
theorem d_Opn_readChunkTold_152 : decode b_Opn_readChunkTold 152 = .ok (.aload_n 0, 1) := by decide +kernel
theorem d_Opn_readChunkTold_153 : decode b_Opn_readChunkTold 153 = .ok (.getfield 15, 3) := by decide +kernel
theorem d_Opn_readChunkTold_156 : decode b_Opn_readChunkTold 156 = .ok (.iconst 5, 1) := by decide +kernel
theorem d_Opn_readChunkTold_157 : decode b_Opn_readChunkTold 157 = .ok (.aload_n 0, 1) := by decide +kernel
theorem d_Opn_readChunkTold_158 : decode b_Opn_readChunkTold 158 = .ok (.getfield 40, 3) := by decide +kernel
theorem d_Opn_readChunkTold_161 : decode b_Opn_readChunkTold 161 = .ok (.iload_n 1, 1) := by decide +kernel
theorem d_Opn_readChunkTold_162 : decode b_Opn_readChunkTold 162 = .ok (.invokevirtual 186, 3) := by decide +kernel
theorem d_Opn_readChunkTold_165 : decode b_Opn_readChunkTold 165 = .ok (.lastore, 1) := by decide +kernel
theorem d_Opn_readChunkTold_0 : decode b_Opn_readChunkTold 0 = .ok (.aload_n 0, 1) := by decide +kernel
theorem d_Opn_readChunkTold_1 : decode b_Opn_readChunkTold 1 = .ok (.getfield 15, 3) := by decide +kernel
theorem d_Opn_readChunkTold_4 : decode b_Opn_readChunkTold 4 = .ok (.iconst 0, 1) := by decide +kernel
theorem d_Opn_readChunkTold_5 : decode b_Opn_readChunkTold 5 = .ok (.aload_n 0, 1) := by decide +kernel
theorem d_Opn_readChunkTold_6 : decode b_Opn_readChunkTold 6 = .ok (.getfield 40, 3) := by decide +kernel
theorem d_Opn_readChunkTold_9 : decode b_Opn_readChunkTold 9 = .ok (.invokevirtual 85, 3) := by decide +kernel
theorem d_Opn_readChunkTold_12 : decode b_Opn_readChunkTold 12 = .ok (.lastore, 1) := by decide +kernel
theorem d_Opn_readChunkTold_13 : decode b_Opn_readChunkTold 13 = .ok (.aload_n 0, 1) := by decide +kernel
theorem d_Opn_readChunkTold_14 : decode b_Opn_readChunkTold 14 = .ok (.getfield 15, 3) := by decide +kernel
theorem d_Opn_readChunkTold_17 : decode b_Opn_readChunkTold 17 = .ok (.iconst 1, 1) := by decide +kernel
theorem d_Opn_readChunkTold_18 : decode b_Opn_readChunkTold 18 = .ok (.aload_n 0, 1) := by decide +kernel
theorem d_Opn_readChunkTold_19 : decode b_Opn_readChunkTold 19 = .ok (.getfield 40, 3) := by decide +kernel
theorem d_Opn_readChunkTold_22 : decode b_Opn_readChunkTold 22 = .ok (.invokevirtual 85, 3) := by decide +kernel
theorem d_Opn_readChunkTold_25 : decode b_Opn_readChunkTold 25 = .ok (.lastore, 1) := by decide +kernel
theorem d_Opn_readChunkTold_26 : decode b_Opn_readChunkTold 26 = .ok (.aload_n 0, 1) := by decide +kernel
theorem d_Opn_readChunkTold_27 : decode b_Opn_readChunkTold 27 = .ok (.getfield 40, 3) := by decide +kernel
theorem d_Opn_readChunkTold_30 : decode b_Opn_readChunkTold 30 = .ok (.aload_n 0, 1) := by decide +kernel
theorem d_Opn_readChunkTold_31 : decode b_Opn_readChunkTold 31 = .ok (.getfield 15, 3) := by decide +kernel
theorem d_Opn_readChunkTold_34 : decode b_Opn_readChunkTold 34 = .ok (.iconst 1, 1) := by decide +kernel
theorem d_Opn_readChunkTold_35 : decode b_Opn_readChunkTold 35 = .ok (.laload, 1) := by decide +kernel
theorem d_Opn_readChunkTold_36 : decode b_Opn_readChunkTold 36 = .ok (.lconst 0, 1) := by decide +kernel
theorem d_Opn_readChunkTold_37 : decode b_Opn_readChunkTold 37 = .ok (.lcmp, 1) := by decide +kernel
theorem d_Opn_readChunkTold_38 : decode b_Opn_readChunkTold 38 = .ok (.ifCond .eq 7, 3) := by decide +kernel
theorem d_Opn_readChunkTold_45 : decode b_Opn_readChunkTold 45 = .ok (.iconst 0, 1) := by decide +kernel
theorem d_Opn_readChunkTold_41 : decode b_Opn_readChunkTold 41 = .ok (.iconst 1, 1) := by decide +kernel
theorem d_Opn_readChunkTold_42 : decode b_Opn_readChunkTold 42 = .ok (.goto 4, 3) := by decide +kernel
theorem d_Src_checkEnd_17 : decode b_Src_checkEnd 17 = .ok (.bipush 6, 2) := by decide +kernel
theorem d_Src_checkEnd_19 : decode b_Src_checkEnd 19 = .ok (.invokevirtual 39, 3) := by decide +kernel
theorem d_Src_checkEnd_22 : decode b_Src_checkEnd 22 = .ok (.return_, 1) := by decide +kernel
theorem d_Src_checkEnd_0 : decode b_Src_checkEnd 0 = .ok (.aload_n 0, 1) := by decide +kernel
theorem d_Src_checkEnd_1 : decode b_Src_checkEnd 1 = .ok (.aload_n 0, 1) := by decide +kernel
theorem d_Src_checkEnd_2 : decode b_Src_checkEnd 2 = .ok (.getfield 19, 3) := by decide +kernel
theorem d_Src_checkEnd_5 : decode b_Src_checkEnd 5 = .ok (.aload_n 0, 1) := by decide +kernel
theorem d_Src_checkEnd_6 : decode b_Src_checkEnd 6 = .ok (.getfield 29, 3) := by decide +kernel
theorem d_Src_checkEnd_9 : decode b_Src_checkEnd 9 = .ok (.if_icmp .ne 7, 3) := by decide +kernel
theorem d_Src_checkEnd_16 : decode b_Src_checkEnd 16 = .ok (.iconst 0, 1) := by decide +kernel
theorem d_Src_checkEnd_12 : decode b_Src_checkEnd 12 = .ok (.iconst 1, 1) := by decide +kernel
theorem d_Src_checkEnd_13 : decode b_Src_checkEnd 13 = .ok (.goto 4, 3) := by decide +kernel
theorem d_Opn_lookAtFooter_325 : decode b_Opn_lookAtFooter 325 = .ok (.aload_n 0, 1) := by decide +kernel
theorem d_Opn_lookAtFooter_326 : decode b_Opn_lookAtFooter 326 = .ok (.getfield 40, 3) := by decide +kernel
theorem d_Opn_lookAtFooter_329 : decode b_Opn_lookAtFooter 329 = .ok (.getfield 107, 3) := by decide +kernel
theorem d_Opn_lookAtFooter_332 : decode b_Opn_lookAtFooter 332 = .ok (.ireturn, 1) := by decide +kernel
theorem d_Opn_lookAtFooter_291 : decode b_Opn_lookAtFooter 291 = .ok (.bipush 17, 2) := by decide +kernel
theorem d_Opn_lookAtFooter_293 : decode b_Opn_lookAtFooter 293 = .ok (.invokevirtual 95, 3) := by decide +kernel
theorem d_Opn_lookAtFooter_296 : decode b_Opn_lookAtFooter 296 = .ok (.aload_n 0, 1) := by decide +kernel
theorem d_Opn_lookAtFooter_297 : decode b_Opn_lookAtFooter 297 = .ok (.getfield 40, 3) := by decide +kernel
theorem d_Opn_lookAtFooter_300 : decode b_Opn_lookAtFooter 300 = .ok (.getfield 107, 3) := by decide +kernel
theorem d_Opn_lookAtFooter_303 : decode b_Opn_lookAtFooter 303 = .ok (.ifCond .ne 22, 3) := by decide +kernel
theorem d_Opn_lookAtFooter_306 : decode b_Opn_lookAtFooter 306 = .ok (.aload_n 0, 1) := by decide +kernel
theorem d_Opn_lookAtFooter_307 : decode b_Opn_lookAtFooter 307 = .ok (.getfield 25, 3) := by decide +kernel
theorem d_Opn_lookAtFooter_310 : decode b_Opn_lookAtFooter 310 = .ok (.lload_n 2, 1) := by decide +kernel
theorem d_Opn_lookAtFooter_311 : decode b_Opn_lookAtFooter 311 = .ok (.l2i, 1) := by decide +kernel
theorem d_Opn_lookAtFooter_312 : decode b_Opn_lookAtFooter 312 = .ok (.putfield 133, 3) := by decide +kernel
theorem d_Opn_lookAtFooter_315 : decode b_Opn_lookAtFooter 315 = .ok (.aload_n 0, 1) := by decide +kernel
theorem d_Opn_lookAtFooter_316 : decode b_Opn_lookAtFooter 316 = .ok (.getfield 25, 3) := by decide +kernel
theorem d_Opn_lookAtFooter_319 : decode b_Opn_lookAtFooter 319 = .ok (.lload 4, 2) := by decide +kernel
theorem d_Opn_lookAtFooter_321 : decode b_Opn_lookAtFooter 321 = .ok (.l2i, 1) := by decide +kernel
theorem d_Opn_lookAtFooter_322 : decode b_Opn_lookAtFooter 322 = .ok (.putfield 136, 3) := by decide +kernel
theorem d_Opn_lookAtFooter_248 : decode b_Opn_lookAtFooter 248 = .ok (.bipush 16, 2) := by decide +kernel
theorem d_Opn_lookAtFooter_250 : decode b_Opn_lookAtFooter 250 = .ok (.invokevirtual 95, 3) := by decide +kernel
theorem d_Opn_lookAtFooter_253 : decode b_Opn_lookAtFooter 253 = .ok (.aload_n 0, 1) := by decide +kernel
theorem d_Opn_lookAtFooter_254 : decode b_Opn_lookAtFooter 254 = .ok (.getfield 40, 3) := by decide +kernel
theorem d_Opn_lookAtFooter_257 : decode b_Opn_lookAtFooter 257 = .ok (.invokevirtual 127, 3) := by decide +kernel
theorem d_Opn_lookAtFooter_260 : decode b_Opn_lookAtFooter 260 = .ok (.aload_n 0, 1) := by decide +kernel
theorem d_Opn_lookAtFooter_261 : decode b_Opn_lookAtFooter 261 = .ok (.getfield 40, 3) := by decide +kernel
theorem d_Opn_lookAtFooter_264 : decode b_Opn_lookAtFooter 264 = .ok (.lload 6, 2) := by decide +kernel
theorem d_Opn_lookAtFooter_266 : decode b_Opn_lookAtFooter 266 = .ok (.aload_n 0, 1) := by decide +kernel
theorem d_Opn_lookAtFooter_267 : decode b_Opn_lookAtFooter 267 = .ok (.getfield 44, 3) := by decide +kernel
theorem d_Opn_lookAtFooter_270 : decode b_Opn_lookAtFooter 270 = .ok (.getfield 130, 3) := by decide +kernel
theorem d_Opn_lookAtFooter_273 : decode b_Opn_lookAtFooter 273 = .ok (.aload_n 0, 1) := by decide +kernel
theorem d_Opn_lookAtFooter_274 : decode b_Opn_lookAtFooter 274 = .ok (.getfield 44, 3) := by decide +kernel
theorem d_Opn_lookAtFooter_277 : decode b_Opn_lookAtFooter 277 = .ok (.getfield 101, 3) := by decide +kernel
theorem d_Opn_lookAtFooter_280 : decode b_Opn_lookAtFooter 280 = .ok (.isub, 1) := by decide +kernel
theorem d_Opn_lookAtFooter_281 : decode b_Opn_lookAtFooter 281 = .ok (.i2l, 1) := by decide +kernel
theorem d_Opn_lookAtFooter_282 : decode b_Opn_lookAtFooter 282 = .ok (.lcmp, 1) := by decide +kernel
theorem d_Opn_lookAtFooter_283 : decode b_Opn_lookAtFooter 283 = .ok (.ifCond .ne 7, 3) := by decide +kernel
theorem d_Opn_lookAtFooter_290 : decode b_Opn_lookAtFooter 290 = .ok (.iconst 0, 1) := by decide +kernel
theorem d_Opn_lookAtFooter_286 : decode b_Opn_lookAtFooter 286 = .ok (.iconst 1, 1) := by decide +kernel
theorem d_Opn_lookAtFooter_287 : decode b_Opn_lookAtFooter 287 = .ok (.goto 4, 3) := by decide +kernel
theorem d_Opn_lookAtFooter_232 : decode b_Opn_lookAtFooter 232 = .ok (.aload_n 0, 1) := by decide +kernel
theorem d_Opn_lookAtFooter_233 : decode b_Opn_lookAtFooter 233 = .ok (.getfield 40, 3) := by decide +kernel
theorem d_Opn_lookAtFooter_236 : decode b_Opn_lookAtFooter 236 = .ok (.lload 8, 2) := by decide +kernel
theorem d_Opn_lookAtFooter_238 : decode b_Opn_lookAtFooter 238 = .ok (.lload_n 2, 1) := by decide +kernel
theorem d_Opn_lookAtFooter_239 : decode b_Opn_lookAtFooter 239 = .ok (.lcmp, 1) := by decide +kernel
theorem d_Opn_lookAtFooter_240 : decode b_Opn_lookAtFooter 240 = .ok (.ifCond .ne 7, 3) := by decide +kernel
theorem d_Opn_lookAtFooter_247 : decode b_Opn_lookAtFooter 247 = .ok (.iconst 0, 1) := by decide +kernel
theorem d_Opn_lookAtFooter_243 : decode b_Opn_lookAtFooter 243 = .ok (.iconst 1, 1) := by decide +kernel
theorem d_Opn_lookAtFooter_244 : decode b_Opn_lookAtFooter 244 = .ok (.goto 4, 3) := by decide +kernel
theorem d_Opn_lookAtFooter_226 : decode b_Opn_lookAtFooter 226 = .ok (.iinc 10 1, 3) := by decide +kernel
theorem d_Opn_lookAtFooter_229 : decode b_Opn_lookAtFooter 229 = .ok (.goto (-146), 3) := by decide +kernel
theorem d_Opn_lookAtFooter_217 : decode b_Opn_lookAtFooter 217 = .ok (.ladd, 1) := by decide +kernel
theorem d_Opn_lookAtFooter_218 : decode b_Opn_lookAtFooter 218 = .ok (.lstore 6, 2) := by decide +kernel
theorem d_Opn_lookAtFooter_220 : decode b_Opn_lookAtFooter 220 = .ok (.iinc 13 1, 3) := by decide +kernel
theorem d_Opn_lookAtFooter_223 : decode b_Opn_lookAtFooter 223 = .ok (.goto (-70), 3) := by decide +kernel
theorem d_Opn_lookAtFooter_153 : decode b_Opn_lookAtFooter 153 = .ok (.iload 13, 2) := by decide +kernel
theorem d_Opn_lookAtFooter_155 : decode b_Opn_lookAtFooter 155 = .ok (.aload_n 1, 1) := by decide +kernel
theorem d_Opn_lookAtFooter_156 : decode b_Opn_lookAtFooter 156 = .ok (.getfield 110, 3) := by decide +kernel
theorem d_Opn_lookAtFooter_159 : decode b_Opn_lookAtFooter 159 = .ok (.if_icmp .ge 67, 3) := by decide +kernel
theorem d_Opn_lookAtFooter_162 : decode b_Opn_lookAtFooter 162 = .ok (.aload_n 0, 1) := by decide +kernel
theorem d_Opn_lookAtFooter_163 : decode b_Opn_lookAtFooter 163 = .ok (.getfield 40, 3) := by decide +kernel
theorem d_Opn_lookAtFooter_166 : decode b_Opn_lookAtFooter 166 = .ok (.getfield 107, 3) := by decide +kernel
theorem d_Opn_lookAtFooter_169 : decode b_Opn_lookAtFooter 169 = .ok (.ifCond .ne 57, 3) := by decide +kernel
theorem d_Opn_lookAtFooter_172 : decode b_Opn_lookAtFooter 172 = .ok (.aload_n 0, 1) := by decide +kernel
theorem d_Opn_lookAtFooter_173 : decode b_Opn_lookAtFooter 173 = .ok (.aload_n 1, 1) := by decide +kernel
theorem d_Opn_lookAtFooter_174 : decode b_Opn_lookAtFooter 174 = .ok (.getfield 115, 3) := by decide +kernel
theorem d_Opn_lookAtFooter_177 : decode b_Opn_lookAtFooter 177 = .ok (.aload_n 1, 1) := by decide +kernel
theorem d_Opn_lookAtFooter_178 : decode b_Opn_lookAtFooter 178 = .ok (.getfield 118, 3) := by decide +kernel
theorem d_Opn_lookAtFooter_181 : decode b_Opn_lookAtFooter 181 = .ok (.iload 13, 2) := by decide +kernel
theorem d_Opn_lookAtFooter_183 : decode b_Opn_lookAtFooter 183 = .ok (.iaload, 1) := by decide +kernel
theorem d_Opn_lookAtFooter_184 : decode b_Opn_lookAtFooter 184 = .ok (.iaload, 1) := by decide +kernel
theorem d_Opn_lookAtFooter_185 : decode b_Opn_lookAtFooter 185 = .ok (.invokevirtual 121, 3) := by decide +kernel
theorem d_Opn_lookAtFooter_188 : decode b_Opn_lookAtFooter 188 = .ok (.lload 6, 2) := by decide +kernel
theorem d_Opn_lookAtFooter_190 : decode b_Opn_lookAtFooter 190 = .ok (.aload_n 0, 1) := by decide +kernel
theorem d_Opn_lookAtFooter_191 : decode b_Opn_lookAtFooter 191 = .ok (.getfield 15, 3) := by decide +kernel
theorem d_Opn_lookAtFooter_194 : decode b_Opn_lookAtFooter 194 = .ok (.iconst 0, 1) := by decide +kernel
theorem d_Opn_lookAtFooter_195 : decode b_Opn_lookAtFooter 195 = .ok (.laload, 1) := by decide +kernel
theorem d_Opn_lookAtFooter_196 : decode b_Opn_lookAtFooter 196 = .ok (.ldc2_w 125, 3) := by decide +kernel
theorem d_Opn_lookAtFooter_199 : decode b_Opn_lookAtFooter 199 = .ok (.invokestatic 91, 3) := by decide +kernel
theorem d_Opn_lookAtFooter_202 : decode b_Opn_lookAtFooter 202 = .ok (.ifCond .eq 12, 3) := by decide +kernel
theorem d_Opn_lookAtFooter_214 : decode b_Opn_lookAtFooter 214 = .ok (.ldc2_w 125, 3) := by decide +kernel
theorem d_Opn_lookAtFooter_205 : decode b_Opn_lookAtFooter 205 = .ok (.aload_n 0, 1) := by decide +kernel
theorem d_Opn_lookAtFooter_206 : decode b_Opn_lookAtFooter 206 = .ok (.getfield 15, 3) := by decide +kernel
theorem d_Opn_lookAtFooter_209 : decode b_Opn_lookAtFooter 209 = .ok (.iconst 0, 1) := by decide +kernel
theorem d_Opn_lookAtFooter_210 : decode b_Opn_lookAtFooter 210 = .ok (.laload, 1) := by decide +kernel
theorem d_Opn_lookAtFooter_211 : decode b_Opn_lookAtFooter 211 = .ok (.goto 6, 3) := by decide +kernel
theorem d_Opn_lookAtFooter_138 : decode b_Opn_lookAtFooter 138 = .ok (.bipush 16, 2) := by decide +kernel
theorem d_Opn_lookAtFooter_140 : decode b_Opn_lookAtFooter 140 = .ok (.invokevirtual 95, 3) := by decide +kernel
theorem d_Opn_lookAtFooter_143 : decode b_Opn_lookAtFooter 143 = .ok (.lload 8, 2) := by decide +kernel
theorem d_Opn_lookAtFooter_145 : decode b_Opn_lookAtFooter 145 = .ok (.lload 11, 2) := by decide +kernel
theorem d_Opn_lookAtFooter_147 : decode b_Opn_lookAtFooter 147 = .ok (.ladd, 1) := by decide +kernel
theorem d_Opn_lookAtFooter_148 : decode b_Opn_lookAtFooter 148 = .ok (.lstore 8, 2) := by decide +kernel
theorem d_Opn_lookAtFooter_150 : decode b_Opn_lookAtFooter 150 = .ok (.iconst 0, 1) := by decide +kernel
theorem d_Opn_lookAtFooter_151 : decode b_Opn_lookAtFooter 151 = .ok (.istore 13, 2) := by decide +kernel
theorem d_Opn_lookAtFooter_137 : decode b_Opn_lookAtFooter 137 = .ok (.iconst 0, 1) := by decide +kernel
theorem d_Opn_lookAtFooter_83 : decode b_Opn_lookAtFooter 83 = .ok (.iload 10, 2) := by decide +kernel
theorem d_Opn_lookAtFooter_85 : decode b_Opn_lookAtFooter 85 = .ok (.i2l, 1) := by decide +kernel
theorem d_Opn_lookAtFooter_86 : decode b_Opn_lookAtFooter 86 = .ok (.lload 4, 2) := by decide +kernel
theorem d_Opn_lookAtFooter_88 : decode b_Opn_lookAtFooter 88 = .ok (.lcmp, 1) := by decide +kernel
theorem d_Opn_lookAtFooter_89 : decode b_Opn_lookAtFooter 89 = .ok (.ifCond .ge 143, 3) := by decide +kernel
theorem d_Opn_lookAtFooter_92 : decode b_Opn_lookAtFooter 92 = .ok (.aload_n 0, 1) := by decide +kernel
theorem d_Opn_lookAtFooter_93 : decode b_Opn_lookAtFooter 93 = .ok (.getfield 40, 3) := by decide +kernel
theorem d_Opn_lookAtFooter_96 : decode b_Opn_lookAtFooter 96 = .ok (.getfield 107, 3) := by decide +kernel
theorem d_Opn_lookAtFooter_99 : decode b_Opn_lookAtFooter 99 = .ok (.ifCond .ne 133, 3) := by decide +kernel
theorem d_Opn_lookAtFooter_102 : decode b_Opn_lookAtFooter 102 = .ok (.aload_n 0, 1) := by decide +kernel
theorem d_Opn_lookAtFooter_103 : decode b_Opn_lookAtFooter 103 = .ok (.getfield 40, 3) := by decide +kernel
theorem d_Opn_lookAtFooter_106 : decode b_Opn_lookAtFooter 106 = .ok (.invokevirtual 85, 3) := by decide +kernel
theorem d_Opn_lookAtFooter_109 : decode b_Opn_lookAtFooter 109 = .ok (.lstore 11, 2) := by decide +kernel
theorem d_Opn_lookAtFooter_111 : decode b_Opn_lookAtFooter 111 = .ok (.aload_n 0, 1) := by decide +kernel
theorem d_Opn_lookAtFooter_112 : decode b_Opn_lookAtFooter 112 = .ok (.getfield 40, 3) := by decide +kernel
theorem d_Opn_lookAtFooter_115 : decode b_Opn_lookAtFooter 115 = .ok (.lload 11, 2) := by decide +kernel
theorem d_Opn_lookAtFooter_117 : decode b_Opn_lookAtFooter 117 = .ok (.lconst 0, 1) := by decide +kernel
theorem d_Opn_lookAtFooter_118 : decode b_Opn_lookAtFooter 118 = .ok (.lcmp, 1) := by decide +kernel
theorem d_Opn_lookAtFooter_119 : decode b_Opn_lookAtFooter 119 = .ok (.ifCond .eq 18, 3) := by decide +kernel
theorem d_Opn_lookAtFooter_122 : decode b_Opn_lookAtFooter 122 = .ok (.lload 11, 2) := by decide +kernel
theorem d_Opn_lookAtFooter_124 : decode b_Opn_lookAtFooter 124 = .ok (.ldc2_w 89, 3) := by decide +kernel
theorem d_Opn_lookAtFooter_127 : decode b_Opn_lookAtFooter 127 = .ok (.invokestatic 91, 3) := by decide +kernel
theorem d_Opn_lookAtFooter_130 : decode b_Opn_lookAtFooter 130 = .ok (.ifCond .eq 7, 3) := by decide +kernel
theorem d_Opn_lookAtFooter_133 : decode b_Opn_lookAtFooter 133 = .ok (.iconst 1, 1) := by decide +kernel
theorem d_Opn_lookAtFooter_134 : decode b_Opn_lookAtFooter 134 = .ok (.goto 4, 3) := by decide +kernel
theorem d_Opn_lookAtFooter_0 : decode b_Opn_lookAtFooter 0 = .ok (.aload_n 0, 1) := by decide +kernel
theorem d_Opn_lookAtFooter_1 : decode b_Opn_lookAtFooter 1 = .ok (.getfield 25, 3) := by decide +kernel
theorem d_Opn_lookAtFooter_4 : decode b_Opn_lookAtFooter 4 = .ok (.getfield 77, 3) := by decide +kernel
theorem d_Opn_lookAtFooter_7 : decode b_Opn_lookAtFooter 7 = .ok (.astore_n 1, 1) := by decide +kernel
theorem d_Opn_lookAtFooter_8 : decode b_Opn_lookAtFooter 8 = .ok (.aload_n 0, 1) := by decide +kernel
theorem d_Opn_lookAtFooter_9 : decode b_Opn_lookAtFooter 9 = .ok (.aload_n 1, 1) := by decide +kernel
theorem d_Opn_lookAtFooter_10 : decode b_Opn_lookAtFooter 10 = .ok (.invokevirtual 81, 3) := by decide +kernel
theorem d_Opn_lookAtFooter_13 : decode b_Opn_lookAtFooter 13 = .ok (.aload_n 0, 1) := by decide +kernel
theorem d_Opn_lookAtFooter_14 : decode b_Opn_lookAtFooter 14 = .ok (.getfield 40, 3) := by decide +kernel
theorem d_Opn_lookAtFooter_17 : decode b_Opn_lookAtFooter 17 = .ok (.invokevirtual 85, 3) := by decide +kernel
theorem d_Opn_lookAtFooter_20 : decode b_Opn_lookAtFooter 20 = .ok (.lstore_n 2, 1) := by decide +kernel
theorem d_Opn_lookAtFooter_21 : decode b_Opn_lookAtFooter 21 = .ok (.aload_n 0, 1) := by decide +kernel
theorem d_Opn_lookAtFooter_22 : decode b_Opn_lookAtFooter 22 = .ok (.getfield 40, 3) := by decide +kernel
theorem d_Opn_lookAtFooter_25 : decode b_Opn_lookAtFooter 25 = .ok (.lload_n 2, 1) := by decide +kernel
theorem d_Opn_lookAtFooter_26 : decode b_Opn_lookAtFooter 26 = .ok (.ldc2_w 89, 3) := by decide +kernel
theorem d_Opn_lookAtFooter_29 : decode b_Opn_lookAtFooter 29 = .ok (.invokestatic 91, 3) := by decide +kernel
theorem d_Opn_lookAtFooter_32 : decode b_Opn_lookAtFooter 32 = .ok (.bipush 16, 2) := by decide +kernel
theorem d_Opn_lookAtFooter_34 : decode b_Opn_lookAtFooter 34 = .ok (.invokevirtual 95, 3) := by decide +kernel
theorem d_Opn_lookAtFooter_37 : decode b_Opn_lookAtFooter 37 = .ok (.aload_n 0, 1) := by decide +kernel
theorem d_Opn_lookAtFooter_38 : decode b_Opn_lookAtFooter 38 = .ok (.getfield 40, 3) := by decide +kernel
theorem d_Opn_lookAtFooter_41 : decode b_Opn_lookAtFooter 41 = .ok (.invokevirtual 85, 3) := by decide +kernel
theorem d_Opn_lookAtFooter_44 : decode b_Opn_lookAtFooter 44 = .ok (.lstore 4, 2) := by decide +kernel
theorem d_Opn_lookAtFooter_46 : decode b_Opn_lookAtFooter 46 = .ok (.aload_n 0, 1) := by decide +kernel
theorem d_Opn_lookAtFooter_47 : decode b_Opn_lookAtFooter 47 = .ok (.getfield 40, 3) := by decide +kernel
theorem d_Opn_lookAtFooter_50 : decode b_Opn_lookAtFooter 50 = .ok (.lload 4, 2) := by decide +kernel
theorem d_Opn_lookAtFooter_52 : decode b_Opn_lookAtFooter 52 = .ok (.ldc2_w 99, 3) := by decide +kernel
theorem d_Opn_lookAtFooter_55 : decode b_Opn_lookAtFooter 55 = .ok (.invokestatic 91, 3) := by decide +kernel
theorem d_Opn_lookAtFooter_58 : decode b_Opn_lookAtFooter 58 = .ok (.bipush 16, 2) := by decide +kernel
theorem d_Opn_lookAtFooter_60 : decode b_Opn_lookAtFooter 60 = .ok (.invokevirtual 95, 3) := by decide +kernel
theorem d_Opn_lookAtFooter_63 : decode b_Opn_lookAtFooter 63 = .ok (.aload_n 0, 1) := by decide +kernel
theorem d_Opn_lookAtFooter_64 : decode b_Opn_lookAtFooter 64 = .ok (.aload_n 0, 1) := by decide +kernel
theorem d_Opn_lookAtFooter_65 : decode b_Opn_lookAtFooter 65 = .ok (.getfield 40, 3) := by decide +kernel
theorem d_Opn_lookAtFooter_68 : decode b_Opn_lookAtFooter 68 = .ok (.getfield 101, 3) := by decide +kernel
theorem d_Opn_lookAtFooter_71 : decode b_Opn_lookAtFooter 71 = .ok (.putfield 104, 3) := by decide +kernel
theorem d_Opn_lookAtFooter_74 : decode b_Opn_lookAtFooter 74 = .ok (.lconst 0, 1) := by decide +kernel
theorem d_Opn_lookAtFooter_75 : decode b_Opn_lookAtFooter 75 = .ok (.lstore 6, 2) := by decide +kernel
theorem d_Opn_lookAtFooter_77 : decode b_Opn_lookAtFooter 77 = .ok (.lconst 0, 1) := by decide +kernel
theorem d_Opn_lookAtFooter_78 : decode b_Opn_lookAtFooter 78 = .ok (.lstore 8, 2) := by decide +kernel
theorem d_Opn_lookAtFooter_80 : decode b_Opn_lookAtFooter 80 = .ok (.iconst 0, 1) := by decide +kernel
theorem d_Opn_lookAtFooter_81 : decode b_Opn_lookAtFooter 81 = .ok (.istore 10, 2) := by decide +kernel
section
variable (l : Launch) (dC : Nat → ClassId) (dI : Nat → Nat → Nat) (cI cB cJ cZ : ClassId)
set_option maxRecDepth 100000 in
set_option maxHeartbeats 4000000 in
set_option maxRecDepth 100000 in
theorem t_Opn_readChunkTold_46 {p : Program} {l : Launch} {e : Env} {R : Room} {s : State} {m : MethodId} {args : Array Value} {below : List Frame} {meth : Method} {c : Code} {cells slots : Nat} {Q : State → Prop} {dC : Nat → ClassId} {dI : Nat → Nat → Nat} {cI cB cJ cZ : ClassId} {A : Nat → Prop} {ad : Nat → Nat} {NN : Nat} {E : Heap} {tM tC : Nat} {kK kV : Nat → Nat} {post : St → Prop} (hx : p.tables.exec = Jvm.exec) (hb : c.code = b_Opn_readChunkTold) (hml : c.maxLocals = 2) (hown : s.vm.findClass R_Opn = some m.cls) (hT : ∀ w ∈ TG, w.before args s = true) (hK : va_K (dC, dI) CL (TY cI cB cJ cZ) s) (hN : NW s) (hA : ∀ q : Nat, s.heap.size ≤ q → A q) (hRc : cells ≤ R.cells) (hRs : slots ≤ R.slots) (hRf : 3 ≤ R.frames) (hRl : 69 ≤ R.locals) (hNN : 152 ≤ NN) (hE : CE E tM tC kK kV A s) (hret : ∀ (x : St) (H : Heap) (locs : List Loc) (pc : Nat) (ls : Array Slot), decode b_Opn_readChunkTold pc = .ok (.return_, 1) → post x → Wd dC dI cI cB cJ cZ ad stC kcC NN A x H → va_S A s.heap H locs → W p l e R s m args below meth c H locs cells slots Q (F0 m pc ls []))  : ∀ (o : Nat) (l1 : Int32) (s0 : Int32) (s1 : Nat) (x : St) (H : Heap) (locs : List Loc) (ls : Array Slot), (o < NN ∧ kcC o = 7) → (s1 < NN ∧ kcC s1 = 8) → j_Opn_readChunkTold_46 post o l1 s0 s1 x → Wd dC dI cI cB cJ cZ ad stC kcC NN A x H → va_S A s.heap H locs → lv_has ls 2 [(0, .ref (ad o)), (1, .int l1)] → W p l e R s m args below meth c H locs cells slots Q (F0 m 46 ls [.int s0, .ref (ad s1)]) := by
  intro o l1 s0 s1 x H locs ls fo fs1 hw hW hS hl
  unfold j_Opn_readChunkTold_46 at hw
  refine lv_bipush (v := 18) hx hb d_Opn_readChunkTold_46 (by decide) ?_
  have hF := hW.free hS hA
  refine va_callv (va_runV (C := R_Src) (As := [.int s0, .int 18]) (rest := []) ⟨hx, hb, hml, hown, hT⟩ (k_Src_check l dC dI cI cB cJ cZ ad NN E tM tC kK kV hNN H.size s1 s0 18 x fs1 hw) ⟨callB_of 2 hT (gwt_in w_6_116) rfl rfl rfl (hT _ w_1_11) (hT _ w_6_113) (by decide +kernel) ⟨Nat.le_trans (Nat.le_of_ble_eq_true rfl) hRf, Nat.le_trans (Nat.le_of_ble_eq_true rfl) hRl⟩, hT _ w_6_114, hT _ w_6_115⟩ ⟨PVc.blind, va_recv hK hW.1 (ci := 8) (q0 := s1) rfl (pic_obj fs1.1 fs1.2 (by decide)), PVc.at _ hW hK hN hE hS hF⟩ rfl rfl hl.1 rfl (lv_room (Nat.le_of_ble_eq_true rfl)) d_Opn_readChunkTold_48 ⟨hRc, hRs⟩) hS (fun q _ h => hF q h) hF (fun  x1 t H locs ht hvm hw hB hz1 hk1 hS => ?_)
  have hW := Wd.back hB ht hF
  clear hB ht hF hz1 hk1 hvm
  refine lv_aload_n hx hb d_Opn_readChunkTold_51 rfl (lv_at hl 0 rfl) ?_
  refine w_getf (q := (stC o 6)) (k := 6) (t := 7) (C := R_Opn) (T := F_Opn) (N := 17) hx hb hT hown hK hW fo.1 fo.2 (by decide) in_Opn rfl rfl (by decide) rfl fr_Opn_6 w_3_22 d_Opn_readChunkTold_52 rfl ?_
  refine lv_iconst (v := 2) hx hb d_Opn_readChunkTold_55 (by decide) ?_
  refine lv_aload_n hx hb d_Opn_readChunkTold_56 rfl (lv_at hl 0 rfl) ?_
  refine w_getf (q := (stC o 1)) (k := 1) (t := 7) (C := R_Opn) (T := F_Opn) (N := 17) hx hb hT hown hK hW fo.1 fo.2 (by decide) in_Opn rfl rfl (by decide) rfl fr_Opn_1 w_3_16 d_Opn_readChunkTold_57 rfl ?_
  have hF := hW.free hS hA
  refine va_calll (va_runV (C := R_Src) (As := []) (rest := [.int 2, .ref (ad (stC o 6))]) ⟨hx, hb, hml, hown, hT⟩ (k_Src_readVarint l dC dI cI cB cJ cZ ad NN E tM tC kK kV hNN H.size (stC o 1) x1 (st_ty hNN fo.1 fo.2 rfl) hw) ⟨callB_of 0 hT (gwt_in w_6_108) rfl rfl rfl (hT _ w_1_11) (hT _ w_6_105) (by decide +kernel) ⟨Nat.le_trans (Nat.le_of_ble_eq_true rfl) hRf, Nat.le_trans (Nat.le_of_ble_eq_true rfl) hRl⟩, hT _ w_6_106, hT _ w_6_107⟩ ⟨PVc.blind, va_recv hK hW.1 (ci := 8) (q0 := (stC o 1)) rfl (pic_obj (st_ty hNN fo.1 fo.2 rfl).1 (st_ty hNN fo.1 fo.2 rfl).2 (by decide)), PVc.at _ hW hK hN hE hS hF⟩ rfl rfl hl.1 rfl (lv_room (Nat.le_of_ble_eq_true rfl)) d_Opn_readChunkTold_60 ⟨hRc, hRs⟩) hS (fun q _ h => hF q h) hF (fun r3 x2 t H locs ht hvm hw hB hz1 hk1 hS => ?_)
  have hW := Wd.back hB ht hF
  clear hB ht hF hz1 hk1 hvm
  obtain ⟨hi, hw⟩ := hw
  refine w_last (o := (stC o 6)) hx hb hK hW hS (st_ty hNN fo.1 fo.2 rfl).1 (st_ty hNN fo.1 fo.2 rfl).2 hi d_Opn_readChunkTold_63 (fun H locs hW hS => ?_)
  obtain ⟨x4, ex4⟩ : ∃ y : St, y = setL x2 (stC o 6) 2 r3 := ⟨_, rfl⟩
  rw [← ex4] at hW
  have hw := hw x4 ex4
  refine lv_aload_n hx hb d_Opn_readChunkTold_64 rfl (lv_at hl 0 rfl) ?_
  refine w_getf (q := (stC o 1)) (k := 1) (t := 7) (C := R_Opn) (T := F_Opn) (N := 17) hx hb hT hown hK hW fo.1 fo.2 (by decide) in_Opn rfl rfl (by decide) rfl fr_Opn_1 w_3_16 d_Opn_readChunkTold_65 rfl ?_
  refine lv_aload_n hx hb d_Opn_readChunkTold_68 rfl (lv_at hl 0 rfl) ?_
  refine w_getf (q := (stC o 6)) (k := 6) (t := 7) (C := R_Opn) (T := F_Opn) (N := 17) hx hb hT hown hK hW fo.1 fo.2 (by decide) in_Opn rfl rfl (by decide) rfl fr_Opn_6 w_3_22 d_Opn_readChunkTold_69 rfl ?_
  refine lv_iconst (v := 2) hx hb d_Opn_readChunkTold_72 (by decide) ?_
  obtain ⟨hi, hw⟩ := hw
  refine w_lald (o := (stC o 6)) hx hb hK hW (st_ty hNN fo.1 fo.2 rfl).1 (st_ty hNN fo.1 fo.2 rfl).2 hi d_Opn_readChunkTold_73 ?_
  refine lv_ldc2 hx hb hown (hT _ w_6_146) d_Opn_readChunkTold_74 ?_
  have hF := hW.free hS hA
  refine va_calli (va_runSN (As := [.long (rL x4 (stC o 6) 2), .long 10000]) (rest := [.ref (ad (stC o 1))]) ⟨hx, hb, hml, hown, hT⟩ (k_V_within l dC dI cI cB cJ cZ ad NN E tM tC kK kV hNN H.size (rL x4 (stC o 6) 2) 10000 x4  hw) ⟨va_cnB 2 hT (gwt_in w_6_112) rfl rfl rfl (hN _ wn_6_110 rfl) (hT _ w_1_1) (by decide +kernel) ⟨Nat.le_trans (Nat.le_of_ble_eq_true rfl) hRf, Nat.le_trans (Nat.le_of_ble_eq_true rfl) hRl⟩, hT _ w_6_111, trivial⟩ ⟨PVc.blind, PVc.at _ hW hK hN hE hS hF⟩ rfl rfl hl.1 rfl (lv_room (Nat.le_of_ble_eq_true rfl)) d_Opn_readChunkTold_77 ⟨hRc, hRs⟩) hS (fun q _ h => hF q h) hF (fun r6 x5 t H locs ht hvm hw hB hz1 hk1 hS => ?_)
  have hW := Wd.back hB ht hF
  clear hB ht hF hz1 hk1 hvm
  refine lv_bipush (v := 16) hx hb d_Opn_readChunkTold_80 (by decide) ?_
  have hF := hW.free hS hA
  refine va_callv (va_runV (C := R_Src) (As := [.int r6, .int 16]) (rest := []) ⟨hx, hb, hml, hown, hT⟩ (k_Src_check l dC dI cI cB cJ cZ ad NN E tM tC kK kV hNN H.size (stC o 1) r6 16 x5 (st_ty hNN fo.1 fo.2 rfl) hw) ⟨callB_of 2 hT (gwt_in w_6_116) rfl rfl rfl (hT _ w_1_11) (hT _ w_6_113) (by decide +kernel) ⟨Nat.le_trans (Nat.le_of_ble_eq_true rfl) hRf, Nat.le_trans (Nat.le_of_ble_eq_true rfl) hRl⟩, hT _ w_6_114, hT _ w_6_115⟩ ⟨PVc.blind, va_recv hK hW.1 (ci := 8) (q0 := (stC o 1)) rfl (pic_obj (st_ty hNN fo.1 fo.2 rfl).1 (st_ty hNN fo.1 fo.2 rfl).2 (by decide)), PVc.at _ hW hK hN hE hS hF⟩ rfl rfl hl.1 rfl (lv_room (Nat.le_of_ble_eq_true rfl)) d_Opn_readChunkTold_82 ⟨hRc, hRs⟩) hS (fun q _ h => hF q h) hF (fun  x7 t H locs ht hvm hw hB hz1 hk1 hS => ?_)
  have hW := Wd.back hB ht hF
  clear hB ht hF hz1 hk1 hvm
  refine lv_aload_n hx hb d_Opn_readChunkTold_85 rfl (lv_at hl 0 rfl) ?_
  refine w_getf (q := (stC o 6)) (k := 6) (t := 7) (C := R_Opn) (T := F_Opn) (N := 17) hx hb hT hown hK hW fo.1 fo.2 (by decide) in_Opn rfl rfl (by decide) rfl fr_Opn_6 w_3_22 d_Opn_readChunkTold_86 rfl ?_
  refine lv_iconst (v := 3) hx hb d_Opn_readChunkTold_89 (by decide) ?_
  refine lv_aload_n hx hb d_Opn_readChunkTold_90 rfl (lv_at hl 0 rfl) ?_
  refine w_getf (q := (stC o 1)) (k := 1) (t := 7) (C := R_Opn) (T := F_Opn) (N := 17) hx hb hT hown hK hW fo.1 fo.2 (by decide) in_Opn rfl rfl (by decide) rfl fr_Opn_1 w_3_16 d_Opn_readChunkTold_91 rfl ?_
  have hF := hW.free hS hA
  refine va_calll (va_runV (C := R_Src) (As := []) (rest := [.int 3, .ref (ad (stC o 6))]) ⟨hx, hb, hml, hown, hT⟩ (k_Src_readVarint l dC dI cI cB cJ cZ ad NN E tM tC kK kV hNN H.size (stC o 1) x7 (st_ty hNN fo.1 fo.2 rfl) hw) ⟨callB_of 0 hT (gwt_in w_6_108) rfl rfl rfl (hT _ w_1_11) (hT _ w_6_105) (by decide +kernel) ⟨Nat.le_trans (Nat.le_of_ble_eq_true rfl) hRf, Nat.le_trans (Nat.le_of_ble_eq_true rfl) hRl⟩, hT _ w_6_106, hT _ w_6_107⟩ ⟨PVc.blind, va_recv hK hW.1 (ci := 8) (q0 := (stC o 1)) rfl (pic_obj (st_ty hNN fo.1 fo.2 rfl).1 (st_ty hNN fo.1 fo.2 rfl).2 (by decide)), PVc.at _ hW hK hN hE hS hF⟩ rfl rfl hl.1 rfl (lv_room (Nat.le_of_ble_eq_true rfl)) d_Opn_readChunkTold_94 ⟨hRc, hRs⟩) hS (fun q _ h => hF q h) hF (fun r9 x8 t H locs ht hvm hw hB hz1 hk1 hS => ?_)
  have hW := Wd.back hB ht hF
  clear hB ht hF hz1 hk1 hvm
  obtain ⟨hi, hw⟩ := hw
  refine w_last (o := (stC o 6)) hx hb hK hW hS (st_ty hNN fo.1 fo.2 rfl).1 (st_ty hNN fo.1 fo.2 rfl).2 hi d_Opn_readChunkTold_97 (fun H locs hW hS => ?_)
  obtain ⟨x10, ex10⟩ : ∃ y : St, y = setL x8 (stC o 6) 3 r9 := ⟨_, rfl⟩
  rw [← ex10] at hW
  have hw := hw x10 ex10
  refine lv_aload_n hx hb d_Opn_readChunkTold_98 rfl (lv_at hl 0 rfl) ?_
  refine w_getf (q := (stC o 1)) (k := 1) (t := 7) (C := R_Opn) (T := F_Opn) (N := 17) hx hb hT hown hK hW fo.1 fo.2 (by decide) in_Opn rfl rfl (by decide) rfl fr_Opn_1 w_3_16 d_Opn_readChunkTold_99 rfl ?_
  refine lv_aload_n hx hb d_Opn_readChunkTold_102 rfl (lv_at hl 0 rfl) ?_
  refine w_getf (q := (stC o 6)) (k := 6) (t := 7) (C := R_Opn) (T := F_Opn) (N := 17) hx hb hT hown hK hW fo.1 fo.2 (by decide) in_Opn rfl rfl (by decide) rfl fr_Opn_6 w_3_22 d_Opn_readChunkTold_103 rfl ?_
  refine lv_iconst (v := 3) hx hb d_Opn_readChunkTold_106 (by decide) ?_
  obtain ⟨hi, hw⟩ := hw
  refine w_lald (o := (stC o 6)) hx hb hK hW (st_ty hNN fo.1 fo.2 rfl).1 (st_ty hNN fo.1 fo.2 rfl).2 hi d_Opn_readChunkTold_107 ?_
  refine lv_aload_n hx hb d_Opn_readChunkTold_108 rfl (lv_at hl 0 rfl) ?_
  refine w_getf (q := (stC o 6)) (k := 6) (t := 7) (C := R_Opn) (T := F_Opn) (N := 17) hx hb hT hown hK hW fo.1 fo.2 (by decide) in_Opn rfl rfl (by decide) rfl fr_Opn_6 w_3_22 d_Opn_readChunkTold_109 rfl ?_
  refine lv_iconst (v := 2) hx hb d_Opn_readChunkTold_112 (by decide) ?_
  obtain ⟨hi, hw⟩ := hw
  refine w_lald (o := (stC o 6)) hx hb hK hW (st_ty hNN fo.1 fo.2 rfl).1 (st_ty hNN fo.1 fo.2 rfl).2 hi d_Opn_readChunkTold_113 ?_
  have hF := hW.free hS hA
  refine va_calli (va_runSN (As := [.long (rL x10 (stC o 6) 3), .long (rL x10 (stC o 6) 2)]) (rest := [.ref (ad (stC o 1))]) ⟨hx, hb, hml, hown, hT⟩ (k_V_within l dC dI cI cB cJ cZ ad NN E tM tC kK kV hNN H.size (rL x10 (stC o 6) 3) (rL x10 (stC o 6) 2) x10  hw) ⟨va_cnB 2 hT (gwt_in w_6_112) rfl rfl rfl (hN _ wn_6_110 rfl) (hT _ w_1_1) (by decide +kernel) ⟨Nat.le_trans (Nat.le_of_ble_eq_true rfl) hRf, Nat.le_trans (Nat.le_of_ble_eq_true rfl) hRl⟩, hT _ w_6_111, trivial⟩ ⟨PVc.blind, PVc.at _ hW hK hN hE hS hF⟩ rfl rfl hl.1 rfl (lv_room (Nat.le_of_ble_eq_true rfl)) d_Opn_readChunkTold_114 ⟨hRc, hRs⟩) hS (fun q _ h => hF q h) hF (fun r12 x11 t H locs ht hvm hw hB hz1 hk1 hS => ?_)
  have hW := Wd.back hB ht hF
  clear hB ht hF hz1 hk1 hvm
  refine lv_bipush (v := 7) hx hb d_Opn_readChunkTold_117 (by decide) ?_
  have hF := hW.free hS hA
  refine va_callv (va_runV (C := R_Src) (As := [.int r12, .int 7]) (rest := []) ⟨hx, hb, hml, hown, hT⟩ (k_Src_check l dC dI cI cB cJ cZ ad NN E tM tC kK kV hNN H.size (stC o 1) r12 7 x11 (st_ty hNN fo.1 fo.2 rfl) hw) ⟨callB_of 2 hT (gwt_in w_6_116) rfl rfl rfl (hT _ w_1_11) (hT _ w_6_113) (by decide +kernel) ⟨Nat.le_trans (Nat.le_of_ble_eq_true rfl) hRf, Nat.le_trans (Nat.le_of_ble_eq_true rfl) hRl⟩, hT _ w_6_114, hT _ w_6_115⟩ ⟨PVc.blind, va_recv hK hW.1 (ci := 8) (q0 := (stC o 1)) rfl (pic_obj (st_ty hNN fo.1 fo.2 rfl).1 (st_ty hNN fo.1 fo.2 rfl).2 (by decide)), PVc.at _ hW hK hN hE hS hF⟩ rfl rfl hl.1 rfl (lv_room (Nat.le_of_ble_eq_true rfl)) d_Opn_readChunkTold_119 ⟨hRc, hRs⟩) hS (fun q _ h => hF q h) hF (fun  x13 t H locs ht hvm hw hB hz1 hk1 hS => ?_)
  have hW := Wd.back hB ht hF
  clear hB ht hF hz1 hk1 hvm
  refine lv_aload_n hx hb d_Opn_readChunkTold_122 rfl (lv_at hl 0 rfl) ?_
  refine w_getf (q := (stC o 6)) (k := 6) (t := 7) (C := R_Opn) (T := F_Opn) (N := 17) hx hb hT hown hK hW fo.1 fo.2 (by decide) in_Opn rfl rfl (by decide) rfl fr_Opn_6 w_3_22 d_Opn_readChunkTold_123 rfl ?_
  refine lv_iconst (v := 3) hx hb d_Opn_readChunkTold_126 (by decide) ?_
  obtain ⟨hi, hw⟩ := hw
  refine w_lald (o := (stC o 6)) hx hb hK hW (st_ty hNN fo.1 fo.2 rfl).1 (st_ty hNN fo.1 fo.2 rfl).2 hi d_Opn_readChunkTold_127 ?_
  refine lv_aload_n hx hb d_Opn_readChunkTold_128 rfl (lv_at hl 0 rfl) ?_
  refine w_getf (q := (stC o 6)) (k := 6) (t := 7) (C := R_Opn) (T := F_Opn) (N := 17) hx hb hT hown hK hW fo.1 fo.2 (by decide) in_Opn rfl rfl (by decide) rfl fr_Opn_6 w_3_22 d_Opn_readChunkTold_129 rfl ?_
  refine lv_iconst (v := 2) hx hb d_Opn_readChunkTold_132 (by decide) ?_
  obtain ⟨hi, hw⟩ := hw
  refine w_lald (o := (stC o 6)) hx hb hK hW (st_ty hNN fo.1 fo.2 rfl).1 (st_ty hNN fo.1 fo.2 rfl).2 hi d_Opn_readChunkTold_133 ?_
  refine W.lcmp hx hb d_Opn_readChunkTold_134 ?_
  refine lv_if_eq (tgt := 166) hx hb d_Opn_readChunkTold_135 (by decide) (fun c14 => ?_) (fun c14 => ?_)
  · have hw := hw.1 c14
    exact hret x13 H locs 166 ls d_Opn_readChunkTold_166 hw hW hS
  · have hw := hw.2 c14
    refine lv_aload_n hx hb d_Opn_readChunkTold_138 rfl (lv_at hl 0 rfl) ?_
    refine w_getf (q := (stC o 6)) (k := 6) (t := 7) (C := R_Opn) (T := F_Opn) (N := 17) hx hb hT hown hK hW fo.1 fo.2 (by decide) in_Opn rfl rfl (by decide) rfl fr_Opn_6 w_3_22 d_Opn_readChunkTold_139 rfl ?_
    refine lv_iconst (v := 4) hx hb d_Opn_readChunkTold_142 (by decide) ?_
    refine lv_aload_n hx hb d_Opn_readChunkTold_143 rfl (lv_at hl 0 rfl) ?_
    refine w_getf (q := (stC o 1)) (k := 1) (t := 7) (C := R_Opn) (T := F_Opn) (N := 17) hx hb hT hown hK hW fo.1 fo.2 (by decide) in_Opn rfl rfl (by decide) rfl fr_Opn_1 w_3_16 d_Opn_readChunkTold_144 rfl ?_
    refine lv_iload_n hx hb d_Opn_readChunkTold_147 rfl (lv_at hl 1 rfl) ?_
    have hF := hW.free hS hA
    refine va_calll (va_runV (C := R_Src) (As := [.int l1]) (rest := [.int 4, .ref (ad (stC o 6))]) ⟨hx, hb, hml, hown, hT⟩ (k_Src_readTold l dC dI cI cB cJ cZ ad NN E tM tC kK kV hNN H.size (stC o 1) l1 x13 (st_ty hNN fo.1 fo.2 rfl) hw) ⟨callB_of 1 hT (gwt_in w_6_150) rfl rfl rfl (hT _ w_1_11) (hT _ w_6_147) (by decide +kernel) ⟨Nat.le_trans (Nat.le_of_ble_eq_true rfl) hRf, Nat.le_trans (Nat.le_of_ble_eq_true rfl) hRl⟩, hT _ w_6_148, hT _ w_6_149⟩ ⟨PVc.blind, va_recv hK hW.1 (ci := 8) (q0 := (stC o 1)) rfl (pic_obj (st_ty hNN fo.1 fo.2 rfl).1 (st_ty hNN fo.1 fo.2 rfl).2 (by decide)), PVc.at _ hW hK hN hE hS hF⟩ rfl rfl hl.1 rfl (lv_room (Nat.le_of_ble_eq_true rfl)) d_Opn_readChunkTold_148 ⟨hRc, hRs⟩) hS (fun q _ h => hF q h) hF (fun r16 x15 t H locs ht hvm hw hB hz1 hk1 hS => ?_)
    have hW := Wd.back hB ht hF
    clear hB ht hF hz1 hk1 hvm
    obtain ⟨hi, hw⟩ := hw
    refine w_last (o := (stC o 6)) hx hb hK hW hS (st_ty hNN fo.1 fo.2 rfl).1 (st_ty hNN fo.1 fo.2 rfl).2 hi d_Opn_readChunkTold_151 (fun H locs hW hS => ?_)
    obtain ⟨x17, ex17⟩ : ∃ y : St, y = setL x15 (stC o 6) 4 r16 := ⟨_, rfl⟩
    rw [← ex17] at hW
    have hw := hw x17 ex17
    refine lv_aload_n hx hb d_Opn_readChunkTold_152 rfl (lv_at hl 0 rfl) ?_
    refine w_getf (q := (stC o 6)) (k := 6) (t := 7) (C := R_Opn) (T := F_Opn) (N := 17) hx hb hT hown hK hW fo.1 fo.2 (by decide) in_Opn rfl rfl (by decide) rfl fr_Opn_6 w_3_22 d_Opn_readChunkTold_153 rfl ?_
    refine lv_iconst (v := 5) hx hb d_Opn_readChunkTold_156 (by decide) ?_
    refine lv_aload_n hx hb d_Opn_readChunkTold_157 rfl (lv_at hl 0 rfl) ?_
    refine w_getf (q := (stC o 1)) (k := 1) (t := 7) (C := R_Opn) (T := F_Opn) (N := 17) hx hb hT hown hK hW fo.1 fo.2 (by decide) in_Opn rfl rfl (by decide) rfl fr_Opn_1 w_3_16 d_Opn_readChunkTold_158 rfl ?_
    refine lv_iload_n hx hb d_Opn_readChunkTold_161 rfl (lv_at hl 1 rfl) ?_
    have hF := hW.free hS hA
    refine va_calll (va_runV (C := R_Src) (As := [.int l1]) (rest := [.int 5, .ref (ad (stC o 6))]) ⟨hx, hb, hml, hown, hT⟩ (k_Src_readTold l dC dI cI cB cJ cZ ad NN E tM tC kK kV hNN H.size (stC o 1) l1 x17 (st_ty hNN fo.1 fo.2 rfl) hw) ⟨callB_of 1 hT (gwt_in w_6_150) rfl rfl rfl (hT _ w_1_11) (hT _ w_6_147) (by decide +kernel) ⟨Nat.le_trans (Nat.le_of_ble_eq_true rfl) hRf, Nat.le_trans (Nat.le_of_ble_eq_true rfl) hRl⟩, hT _ w_6_148, hT _ w_6_149⟩ ⟨PVc.blind, va_recv hK hW.1 (ci := 8) (q0 := (stC o 1)) rfl (pic_obj (st_ty hNN fo.1 fo.2 rfl).1 (st_ty hNN fo.1 fo.2 rfl).2 (by decide)), PVc.at _ hW hK hN hE hS hF⟩ rfl rfl hl.1 rfl (lv_room (Nat.le_of_ble_eq_true rfl)) d_Opn_readChunkTold_162 ⟨hRc, hRs⟩) hS (fun q _ h => hF q h) hF (fun r19 x18 t H locs ht hvm hw hB hz1 hk1 hS => ?_)
    have hW := Wd.back hB ht hF
    clear hB ht hF hz1 hk1 hvm
    obtain ⟨hi, hw⟩ := hw
    refine w_last (o := (stC o 6)) hx hb hK hW hS (st_ty hNN fo.1 fo.2 rfl).1 (st_ty hNN fo.1 fo.2 rfl).2 hi d_Opn_readChunkTold_165 (fun H locs hW hS => ?_)
    obtain ⟨x20, ex20⟩ : ∃ y : St, y = setL x18 (stC o 6) 5 r19 := ⟨_, rfl⟩
    rw [← ex20] at hW
    have hw := hw x20 ex20
    exact hret x20 H locs 166 ls d_Opn_readChunkTold_166 hw hW hS
set_option maxRecDepth 100000 in
set_option maxHeartbeats 4000000 in
set_option maxRecDepth 100000 in
theorem t_Opn_readChunkTold_e {p : Program} {l : Launch} {e : Env} {R : Room} {s : State} {m : MethodId} {args : Array Value} {below : List Frame} {meth : Method} {c : Code} {cells slots : Nat} {Q : State → Prop} {dC : Nat → ClassId} {dI : Nat → Nat → Nat} {cI cB cJ cZ : ClassId} {A : Nat → Prop} {ad : Nat → Nat} {NN : Nat} {E : Heap} {tM tC : Nat} {kK kV : Nat → Nat} {post : St → Prop} (hx : p.tables.exec = Jvm.exec) (hb : c.code = b_Opn_readChunkTold) (hml : c.maxLocals = 2) (hown : s.vm.findClass R_Opn = some m.cls) (hT : ∀ w ∈ TG, w.before args s = true) (hK : va_K (dC, dI) CL (TY cI cB cJ cZ) s) (hN : NW s) (hA : ∀ q : Nat, s.heap.size ≤ q → A q) (hRc : cells ≤ R.cells) (hRs : slots ≤ R.slots) (hRf : 3 ≤ R.frames) (hRl : 69 ≤ R.locals) (hNN : 152 ≤ NN) (hE : CE E tM tC kK kV A s) (hret : ∀ (x : St) (H : Heap) (locs : List Loc) (pc : Nat) (ls : Array Slot), decode b_Opn_readChunkTold pc = .ok (.return_, 1) → post x → Wd dC dI cI cB cJ cZ ad stC kcC NN A x H → va_S A s.heap H locs → W p l e R s m args below meth c H locs cells slots Q (F0 m pc ls [])) : ∀ (o : Nat) (l1 : Int32) (x : St) (H : Heap) (locs : List Loc) (ls : Array Slot), (o < NN ∧ kcC o = 7) → wp_Opn_readChunkTold post o l1 x → Wd dC dI cI cB cJ cZ ad stC kcC NN A x H → va_S A s.heap H locs → lv_has ls 2 [(0, .ref (ad o)), (1, .int l1)] → W p l e R s m args below meth c H locs cells slots Q (F0 m 0 ls []) := by
  intro o l1 x H locs ls fo hw hW hS hl
  unfold wp_Opn_readChunkTold at hw
  refine lv_aload_n hx hb d_Opn_readChunkTold_0 rfl (lv_at hl 0 rfl) ?_
  refine w_getf (q := (stC o 6)) (k := 6) (t := 7) (C := R_Opn) (T := F_Opn) (N := 17) hx hb hT hown hK hW fo.1 fo.2 (by decide) in_Opn rfl rfl (by decide) rfl fr_Opn_6 w_3_22 d_Opn_readChunkTold_1 rfl ?_
  refine lv_iconst (v := 0) hx hb d_Opn_readChunkTold_4 (by decide) ?_
  refine lv_aload_n hx hb d_Opn_readChunkTold_5 rfl (lv_at hl 0 rfl) ?_
  refine w_getf (q := (stC o 1)) (k := 1) (t := 7) (C := R_Opn) (T := F_Opn) (N := 17) hx hb hT hown hK hW fo.1 fo.2 (by decide) in_Opn rfl rfl (by decide) rfl fr_Opn_1 w_3_16 d_Opn_readChunkTold_6 rfl ?_
  have hF := hW.free hS hA
  refine va_calll (va_runV (C := R_Src) (As := []) (rest := [.int 0, .ref (ad (stC o 6))]) ⟨hx, hb, hml, hown, hT⟩ (k_Src_readVarint l dC dI cI cB cJ cZ ad NN E tM tC kK kV hNN H.size (stC o 1) x (st_ty hNN fo.1 fo.2 rfl) hw) ⟨callB_of 0 hT (gwt_in w_6_108) rfl rfl rfl (hT _ w_1_11) (hT _ w_6_105) (by decide +kernel) ⟨Nat.le_trans (Nat.le_of_ble_eq_true rfl) hRf, Nat.le_trans (Nat.le_of_ble_eq_true rfl) hRl⟩, hT _ w_6_106, hT _ w_6_107⟩ ⟨PVc.blind, va_recv hK hW.1 (ci := 8) (q0 := (stC o 1)) rfl (pic_obj (st_ty hNN fo.1 fo.2 rfl).1 (st_ty hNN fo.1 fo.2 rfl).2 (by decide)), PVc.at _ hW hK hN hE hS hF⟩ rfl rfl hl.1 rfl (lv_room (Nat.le_of_ble_eq_true rfl)) d_Opn_readChunkTold_9 ⟨hRc, hRs⟩) hS (fun q _ h => hF q h) hF (fun r22 x21 t H locs ht hvm hw hB hz1 hk1 hS => ?_)
  have hW := Wd.back hB ht hF
  clear hB ht hF hz1 hk1 hvm
  obtain ⟨hi, hw⟩ := hw
  refine w_last (o := (stC o 6)) hx hb hK hW hS (st_ty hNN fo.1 fo.2 rfl).1 (st_ty hNN fo.1 fo.2 rfl).2 hi d_Opn_readChunkTold_12 (fun H locs hW hS => ?_)
  obtain ⟨x23, ex23⟩ : ∃ y : St, y = setL x21 (stC o 6) 0 r22 := ⟨_, rfl⟩
  rw [← ex23] at hW
  have hw := hw x23 ex23
  refine lv_aload_n hx hb d_Opn_readChunkTold_13 rfl (lv_at hl 0 rfl) ?_
  refine w_getf (q := (stC o 6)) (k := 6) (t := 7) (C := R_Opn) (T := F_Opn) (N := 17) hx hb hT hown hK hW fo.1 fo.2 (by decide) in_Opn rfl rfl (by decide) rfl fr_Opn_6 w_3_22 d_Opn_readChunkTold_14 rfl ?_
  refine lv_iconst (v := 1) hx hb d_Opn_readChunkTold_17 (by decide) ?_
  refine lv_aload_n hx hb d_Opn_readChunkTold_18 rfl (lv_at hl 0 rfl) ?_
  refine w_getf (q := (stC o 1)) (k := 1) (t := 7) (C := R_Opn) (T := F_Opn) (N := 17) hx hb hT hown hK hW fo.1 fo.2 (by decide) in_Opn rfl rfl (by decide) rfl fr_Opn_1 w_3_16 d_Opn_readChunkTold_19 rfl ?_
  have hF := hW.free hS hA
  refine va_calll (va_runV (C := R_Src) (As := []) (rest := [.int 1, .ref (ad (stC o 6))]) ⟨hx, hb, hml, hown, hT⟩ (k_Src_readVarint l dC dI cI cB cJ cZ ad NN E tM tC kK kV hNN H.size (stC o 1) x23 (st_ty hNN fo.1 fo.2 rfl) hw) ⟨callB_of 0 hT (gwt_in w_6_108) rfl rfl rfl (hT _ w_1_11) (hT _ w_6_105) (by decide +kernel) ⟨Nat.le_trans (Nat.le_of_ble_eq_true rfl) hRf, Nat.le_trans (Nat.le_of_ble_eq_true rfl) hRl⟩, hT _ w_6_106, hT _ w_6_107⟩ ⟨PVc.blind, va_recv hK hW.1 (ci := 8) (q0 := (stC o 1)) rfl (pic_obj (st_ty hNN fo.1 fo.2 rfl).1 (st_ty hNN fo.1 fo.2 rfl).2 (by decide)), PVc.at _ hW hK hN hE hS hF⟩ rfl rfl hl.1 rfl (lv_room (Nat.le_of_ble_eq_true rfl)) d_Opn_readChunkTold_22 ⟨hRc, hRs⟩) hS (fun q _ h => hF q h) hF (fun r25 x24 t H locs ht hvm hw hB hz1 hk1 hS => ?_)
  have hW := Wd.back hB ht hF
  clear hB ht hF hz1 hk1 hvm
  obtain ⟨hi, hw⟩ := hw
  refine w_last (o := (stC o 6)) hx hb hK hW hS (st_ty hNN fo.1 fo.2 rfl).1 (st_ty hNN fo.1 fo.2 rfl).2 hi d_Opn_readChunkTold_25 (fun H locs hW hS => ?_)
  obtain ⟨x26, ex26⟩ : ∃ y : St, y = setL x24 (stC o 6) 1 r25 := ⟨_, rfl⟩
  rw [← ex26] at hW
  have hw := hw x26 ex26
  refine lv_aload_n hx hb d_Opn_readChunkTold_26 rfl (lv_at hl 0 rfl) ?_
  refine w_getf (q := (stC o 1)) (k := 1) (t := 7) (C := R_Opn) (T := F_Opn) (N := 17) hx hb hT hown hK hW fo.1 fo.2 (by decide) in_Opn rfl rfl (by decide) rfl fr_Opn_1 w_3_16 d_Opn_readChunkTold_27 rfl ?_
  refine lv_aload_n hx hb d_Opn_readChunkTold_30 rfl (lv_at hl 0 rfl) ?_
  refine w_getf (q := (stC o 6)) (k := 6) (t := 7) (C := R_Opn) (T := F_Opn) (N := 17) hx hb hT hown hK hW fo.1 fo.2 (by decide) in_Opn rfl rfl (by decide) rfl fr_Opn_6 w_3_22 d_Opn_readChunkTold_31 rfl ?_
  refine lv_iconst (v := 1) hx hb d_Opn_readChunkTold_34 (by decide) ?_
  obtain ⟨hi, hw⟩ := hw
  refine w_lald (o := (stC o 6)) hx hb hK hW (st_ty hNN fo.1 fo.2 rfl).1 (st_ty hNN fo.1 fo.2 rfl).2 hi d_Opn_readChunkTold_35 ?_
  refine lv_lconst (v := 0) hx hb d_Opn_readChunkTold_36 (by decide) ?_
  refine W.lcmp hx hb d_Opn_readChunkTold_37 ?_
  refine lv_if_eq (tgt := 45) hx hb d_Opn_readChunkTold_38 (by decide) (fun c27 => ?_) (fun c27 => ?_)
  · have hw := hw.1 c27
    refine lv_iconst (v := 0) hx hb d_Opn_readChunkTold_45 (by decide) ?_
    exact t_Opn_readChunkTold_46 hx hb hml hown hT hK hN hA hRc hRs hRf hRl hNN hE hret  o l1 0 (stC o 1) x26 H locs ls fo (st_ty hNN fo.1 fo.2 rfl) hw hW hS (lv_sub hl [0, 1] rfl)
  · have hw := hw.2 c27
    refine lv_iconst (v := 1) hx hb d_Opn_readChunkTold_41 (by decide) ?_
    refine lv_goto (tgt := 46) hx hb d_Opn_readChunkTold_42 (by decide) ?_
    exact t_Opn_readChunkTold_46 hx hb hml hown hT hK hN hA hRc hRs hRf hRl hNN hE hret  o l1 1 (stC o 1) x26 H locs ls fo (st_ty hNN fo.1 fo.2 rfl) hw hW hS (lv_sub hl [0, 1] rfl)
set_option maxHeartbeats 4000000 in
set_option maxRecDepth 100000 in
theorem k_Opn_readChunkTold (l : Launch) (dC : Nat → ClassId) (dI : Nat → Nat → Nat) (cI cB cJ cZ : ClassId) (ad : Nat → Nat) (NN : Nat) (E : Heap) (tM tC : Nat) (kK kV : Nat → Nat) (hNN : 152 ≤ NN) (sz : Nat) (o : Nat) (l1 : Int32) (x : St) (fo : o < NN ∧ kcC o = 7) {post : St → Prop} (hw : wp_Opn_readChunkTold post o l1 x) : Met l y_Opn_readChunkTold (wsOf y_Opn_readChunkTold b_Opn_readChunkTold 2 (none)) ({ frames := 3, cells := 0, slots := 0, locals := 69 }) (va_Pc [.ref (ad o), .int l1] (PVc dC dI cI cB cJ cZ ad stC kcC NN E tM tC kK kV sz x)) (va_Qv (fun (y : St) => post y) (fun y t => Wd dC dI cI cB cJ cZ ad stC kcC NN (va_A (pic ad stC kcC NN cI cB cJ cZ x) sz) y t.heap) (va_A (pic ad stC kcC NN cI cB cJ cZ x) sz)) 0 0 (va_A (pic ad stC kcC NN cI cB cJ cZ x) sz) := by
  refine Met.ofW (cc := b_Opn_readChunkTold) (maxL := 2) (ret := none) (by decide) rfl ?_
  intro p e s m args below meth c s₁ B hml hv
  obtain ⟨rfl, ⟨hsz, hW0, hK, hN⟩, hE⟩ := hv
  have hx := B.exec
  have hb := B.bytes
  have hr := B.returns
  have hts := atoms_spec B.pre
  have hT : ∀ w ∈ TG, w.before _ s = true := fun w h => hts w (List.mem_cons_of_mem _ h)
  have hown : s.vm.findClass R_Opn = some m.cls := findClass_of_methodNamed B.named
  have hlocks := B.notSynchronized
  subst hsz
  have hW : Wd dC dI cI cB cJ cZ ad stC kcC NN (va_A (pic ad stC kcC NN cI cB cJ cZ x) s.heap.size) x s.heap := ⟨hW0.1, hW0.2.1.self (sz := s.heap.size), hW0.2.2⟩
  generalize hAe : va_A (pic ad stC kcC NN cI cB cJ cZ x) s.heap.size = A at hW hE ⊢
  have hA : ∀ q : Nat, s.heap.size ≤ q → A q := fun q h => by rw [← hAe]; exact Or.inr h
  have hS : va_S A s.heap s.heap [] := va_S.rf
  have hl := lv_entry ([.ref (ad o), .int l1]) (n := 2) (Nat.le_of_ble_eq_true rfl)
  rw [lg_entry_eq]
  generalize (lg_sl ([.ref (ad o), .int l1]) ++ List.replicate (2 - (lg_sl ([.ref (ad o), .int l1])).length) Slot.unset).toArray = ls at hl ⊢
  have hl : lv_has ls 2 [(0, .ref (ad o)), (1, .int l1)] := hl
  exact t_Opn_readChunkTold_e hx hb hml hown hT hK hN hA (Nat.le_refl 0) (Nat.le_refl 0) (Nat.le_refl 3) (Nat.le_refl 69) hNN hE (fun x H locs pc ls hd hp hW hS => W.vret hx hb hr (fun t ht hM => ⟨⟨x, rfl, hp, Wd.back hW ht.symm (fun _ z => z)⟩, hS.F ht⟩) hS.2.2 hd hlocks)  o l1 x _ _ ls fo hw hW hS hl
set_option maxRecDepth 100000 in
set_option maxHeartbeats 4000000 in
set_option maxRecDepth 100000 in
theorem t_Src_checkEnd_17 {p : Program} {l : Launch} {e : Env} {R : Room} {s : State} {m : MethodId} {args : Array Value} {below : List Frame} {meth : Method} {c : Code} {cells slots : Nat} {Q : State → Prop} {dC : Nat → ClassId} {dI : Nat → Nat → Nat} {cI cB cJ cZ : ClassId} {A : Nat → Prop} {ad : Nat → Nat} {NN : Nat} {E : Heap} {tM tC : Nat} {kK kV : Nat → Nat} {post : St → Prop} (hx : p.tables.exec = Jvm.exec) (hb : c.code = b_Src_checkEnd) (hml : c.maxLocals = 1) (hown : s.vm.findClass R_Src = some m.cls) (hT : ∀ w ∈ TG, w.before args s = true) (hK : va_K (dC, dI) CL (TY cI cB cJ cZ) s) (hN : NW s) (hA : ∀ q : Nat, s.heap.size ≤ q → A q) (hRc : cells ≤ R.cells) (hRs : slots ≤ R.slots) (hRf : 1 ≤ R.frames) (hRl : 22 ≤ R.locals) (hNN : 152 ≤ NN) (hE : CE E tM tC kK kV A s) (hret : ∀ (x : St) (H : Heap) (locs : List Loc) (pc : Nat) (ls : Array Slot), decode b_Src_checkEnd pc = .ok (.return_, 1) → post x → Wd dC dI cI cB cJ cZ ad stC kcC NN A x H → va_S A s.heap H locs → W p l e R s m args below meth c H locs cells slots Q (F0 m pc ls []))  : ∀ (o : Nat) (s0 : Int32) (s1 : Nat) (x : St) (H : Heap) (locs : List Loc) (ls : Array Slot), (o < NN ∧ kcC o = 8) → (s1 < NN ∧ kcC s1 = 8) → j_Src_checkEnd_17 post o s0 s1 x → Wd dC dI cI cB cJ cZ ad stC kcC NN A x H → va_S A s.heap H locs → lv_has ls 1 [(0, .ref (ad o))] → W p l e R s m args below meth c H locs cells slots Q (F0 m 17 ls [.int s0, .ref (ad s1)]) := by
  intro o s0 s1 x H locs ls fo fs1 hw hW hS hl
  unfold j_Src_checkEnd_17 at hw
  refine lv_bipush (v := 6) hx hb d_Src_checkEnd_17 (by decide) ?_
  have hF := hW.free hS hA
  refine va_callv (va_runV (C := R_Src) (As := [.int s0, .int 6]) (rest := []) ⟨hx, hb, hml, hown, hT⟩ (k_Src_check l dC dI cI cB cJ cZ ad NN E tM tC kK kV hNN H.size s1 s0 6 x fs1 hw) ⟨callB_of 2 hT (gwt_in w_6_116) rfl rfl rfl (hT _ w_1_11) (hT _ w_6_156) (by decide +kernel) ⟨Nat.le_trans (Nat.le_of_ble_eq_true rfl) hRf, Nat.le_trans (Nat.le_of_ble_eq_true rfl) hRl⟩, hT _ w_6_114, hT _ w_6_115⟩ ⟨PVc.blind, va_recv hK hW.1 (ci := 8) (q0 := s1) rfl (pic_obj fs1.1 fs1.2 (by decide)), PVc.at _ hW hK hN hE hS hF⟩ rfl rfl hl.1 rfl (lv_room (Nat.le_of_ble_eq_true rfl)) d_Src_checkEnd_19 ⟨hRc, hRs⟩) hS (fun q _ h => hF q h) hF (fun  x1 t H locs ht hvm hw hB hz1 hk1 hS => ?_)
  have hW := Wd.back hB ht hF
  clear hB ht hF hz1 hk1 hvm
  exact hret x1 H locs 22 ls d_Src_checkEnd_22 hw hW hS
set_option maxRecDepth 100000 in
set_option maxHeartbeats 4000000 in
set_option maxRecDepth 100000 in
theorem t_Src_checkEnd_e {p : Program} {l : Launch} {e : Env} {R : Room} {s : State} {m : MethodId} {args : Array Value} {below : List Frame} {meth : Method} {c : Code} {cells slots : Nat} {Q : State → Prop} {dC : Nat → ClassId} {dI : Nat → Nat → Nat} {cI cB cJ cZ : ClassId} {A : Nat → Prop} {ad : Nat → Nat} {NN : Nat} {E : Heap} {tM tC : Nat} {kK kV : Nat → Nat} {post : St → Prop} (hx : p.tables.exec = Jvm.exec) (hb : c.code = b_Src_checkEnd) (hml : c.maxLocals = 1) (hown : s.vm.findClass R_Src = some m.cls) (hT : ∀ w ∈ TG, w.before args s = true) (hK : va_K (dC, dI) CL (TY cI cB cJ cZ) s) (hN : NW s) (hA : ∀ q : Nat, s.heap.size ≤ q → A q) (hRc : cells ≤ R.cells) (hRs : slots ≤ R.slots) (hRf : 1 ≤ R.frames) (hRl : 22 ≤ R.locals) (hNN : 152 ≤ NN) (hE : CE E tM tC kK kV A s) (hret : ∀ (x : St) (H : Heap) (locs : List Loc) (pc : Nat) (ls : Array Slot), decode b_Src_checkEnd pc = .ok (.return_, 1) → post x → Wd dC dI cI cB cJ cZ ad stC kcC NN A x H → va_S A s.heap H locs → W p l e R s m args below meth c H locs cells slots Q (F0 m pc ls [])) : ∀ (o : Nat) (x : St) (H : Heap) (locs : List Loc) (ls : Array Slot), (o < NN ∧ kcC o = 8) → wp_Src_checkEnd post o x → Wd dC dI cI cB cJ cZ ad stC kcC NN A x H → va_S A s.heap H locs → lv_has ls 1 [(0, .ref (ad o))] → W p l e R s m args below meth c H locs cells slots Q (F0 m 0 ls []) := by
  intro o x H locs ls fo hw hW hS hl
  unfold wp_Src_checkEnd at hw
  refine lv_aload_n hx hb d_Src_checkEnd_0 rfl (lv_at hl 0 rfl) ?_
  refine lv_aload_n hx hb d_Src_checkEnd_1 rfl (lv_at hl 0 rfl) ?_
  refine w_geti (k := 1) (t := 8) (C := R_Src) (T := F_Src) (N := 5) hx hb hT hown hK hW fo.1 fo.2 (by decide) in_Src rfl rfl (by decide) rfl fr_Src_1 w_2_237 d_Src_checkEnd_2 ?_
  refine lv_aload_n hx hb d_Src_checkEnd_5 rfl (lv_at hl 0 rfl) ?_
  refine w_geti (k := 2) (t := 8) (C := R_Src) (T := F_Src) (N := 5) hx hb hT hown hK hW fo.1 fo.2 (by decide) in_Src rfl rfl (by decide) rfl fr_Src_2 w_2_239 d_Src_checkEnd_6 ?_
  refine lv_icmp_ne (tgt := 16) hx hb d_Src_checkEnd_9 (by decide) (fun c2 => ?_) (fun c2 => ?_)
  · have hw := hw.1 c2
    refine lv_iconst (v := 0) hx hb d_Src_checkEnd_16 (by decide) ?_
    exact t_Src_checkEnd_17 hx hb hml hown hT hK hN hA hRc hRs hRf hRl hNN hE hret  o 0 o x H locs ls fo fo hw hW hS (lv_sub hl [0] rfl)
  · have hw := hw.2 c2
    refine lv_iconst (v := 1) hx hb d_Src_checkEnd_12 (by decide) ?_
    refine lv_goto (tgt := 17) hx hb d_Src_checkEnd_13 (by decide) ?_
    exact t_Src_checkEnd_17 hx hb hml hown hT hK hN hA hRc hRs hRf hRl hNN hE hret  o 1 o x H locs ls fo fo hw hW hS (lv_sub hl [0] rfl)
set_option maxHeartbeats 4000000 in
set_option maxRecDepth 100000 in
theorem k_Src_checkEnd (l : Launch) (dC : Nat → ClassId) (dI : Nat → Nat → Nat) (cI cB cJ cZ : ClassId) (ad : Nat → Nat) (NN : Nat) (E : Heap) (tM tC : Nat) (kK kV : Nat → Nat) (hNN : 152 ≤ NN) (sz : Nat) (o : Nat) (x : St) (fo : o < NN ∧ kcC o = 8) {post : St → Prop} (hw : wp_Src_checkEnd post o x) : Met l y_Src_checkEnd (wsOf y_Src_checkEnd b_Src_checkEnd 1 (none)) ({ frames := 1, cells := 0, slots := 0, locals := 22 }) (va_Pc [.ref (ad o)] (PVc dC dI cI cB cJ cZ ad stC kcC NN E tM tC kK kV sz x)) (va_Qv (fun (y : St) => post y) (fun y t => Wd dC dI cI cB cJ cZ ad stC kcC NN (va_A (pic ad stC kcC NN cI cB cJ cZ x) sz) y t.heap) (va_A (pic ad stC kcC NN cI cB cJ cZ x) sz)) 0 0 (va_A (pic ad stC kcC NN cI cB cJ cZ x) sz) := by
  refine Met.ofW (cc := b_Src_checkEnd) (maxL := 1) (ret := none) (by decide) rfl ?_
  intro p e s m args below meth c s₁ B hml hv
  obtain ⟨rfl, ⟨hsz, hW0, hK, hN⟩, hE⟩ := hv
  have hx := B.exec
  have hb := B.bytes
  have hr := B.returns
  have hts := atoms_spec B.pre
  have hT : ∀ w ∈ TG, w.before _ s = true := fun w h => hts w (List.mem_cons_of_mem _ h)
  have hown : s.vm.findClass R_Src = some m.cls := findClass_of_methodNamed B.named
  have hlocks := B.notSynchronized
  subst hsz
  have hW : Wd dC dI cI cB cJ cZ ad stC kcC NN (va_A (pic ad stC kcC NN cI cB cJ cZ x) s.heap.size) x s.heap := ⟨hW0.1, hW0.2.1.self (sz := s.heap.size), hW0.2.2⟩
  generalize hAe : va_A (pic ad stC kcC NN cI cB cJ cZ x) s.heap.size = A at hW hE ⊢
  have hA : ∀ q : Nat, s.heap.size ≤ q → A q := fun q h => by rw [← hAe]; exact Or.inr h
  have hS : va_S A s.heap s.heap [] := va_S.rf
  have hl := lv_entry ([.ref (ad o)]) (n := 1) (Nat.le_of_ble_eq_true rfl)
  rw [lg_entry_eq]
  generalize (lg_sl ([.ref (ad o)]) ++ List.replicate (1 - (lg_sl ([.ref (ad o)])).length) Slot.unset).toArray = ls at hl ⊢
  have hl : lv_has ls 1 [(0, .ref (ad o))] := hl
  exact t_Src_checkEnd_e hx hb hml hown hT hK hN hA (Nat.le_refl 0) (Nat.le_refl 0) (Nat.le_refl 1) (Nat.le_refl 22) hNN hE (fun x H locs pc ls hd hp hW hS => W.vret hx hb hr (fun t ht hM => ⟨⟨x, rfl, hp, Wd.back hW ht.symm (fun _ z => z)⟩, hS.F ht⟩) hS.2.2 hd hlocks)  o x _ _ ls fo hw hW hS hl
set_option maxRecDepth 100000 in
set_option maxHeartbeats 4000000 in
set_option maxRecDepth 100000 in
theorem t_Opn_lookAtFooter_325 {p : Program} {l : Launch} {e : Env} {R : Room} {s : State} {m : MethodId} {args : Array Value} {below : List Frame} {meth : Method} {c : Code} {cells slots : Nat} {Q : State → Prop} {dC : Nat → ClassId} {dI : Nat → Nat → Nat} {cI cB cJ cZ : ClassId} {A : Nat → Prop} {ad : Nat → Nat} {NN : Nat} {E : Heap} {tM tC : Nat} {kK kV : Nat → Nat} {post : Int32 → St → Prop} (hx : p.tables.exec = Jvm.exec) (hb : c.code = b_Opn_lookAtFooter) (hml : c.maxLocals = 14) (hown : s.vm.findClass R_Opn = some m.cls) (hT : ∀ w ∈ TG, w.before args s = true) (hK : va_K (dC, dI) CL (TY cI cB cJ cZ) s) (hN : NW s) (hA : ∀ q : Nat, s.heap.size ≤ q → A q) (hRc : cells ≤ R.cells) (hRs : slots ≤ R.slots) (hRf : 5 ≤ R.frames) (hRl : 164 ≤ R.locals) (hNN : 152 ≤ NN) (hE : CE E tM tC kK kV A s) (hret : ∀ (r : Int32) (x : St) (H : Heap) (locs : List Loc) (pc : Nat) (ls : Array Slot), decode b_Opn_lookAtFooter pc = .ok (.ireturn, 1) → post r x → Wd dC dI cI cB cJ cZ ad stC kcC NN A x H → va_S A s.heap H locs → W p l e R s m args below meth c H locs cells slots Q (F0 m pc ls [.int r]))  : ∀ (o : Nat) (l1 : Nat) (l2 : Int64) (l4 : Int64) (l6 : Int64) (l8 : Int64) (l10 : Int32) (x : St) (H : Heap) (locs : List Loc) (ls : Array Slot), (o < NN ∧ kcC o = 7) → (l1 < NN ∧ kcC l1 = 3) → j_Opn_lookAtFooter_325 post o l1 l2 l4 l6 l8 l10 x → Wd dC dI cI cB cJ cZ ad stC kcC NN A x H → va_S A s.heap H locs → lv_has ls 14 [(0, .ref (ad o)), (1, .ref (ad l1)), (2, .long l2), (4, .long l4), (6, .long l6), (8, .long l8), (10, .int l10)] → W p l e R s m args below meth c H locs cells slots Q (F0 m 325 ls []) := by
  intro o l1 l2 l4 l6 l8 l10 x H locs ls fo fl1 hw hW hS hl
  unfold j_Opn_lookAtFooter_325 at hw
  refine lv_aload_n hx hb d_Opn_lookAtFooter_325 rfl (lv_at hl 0 rfl) ?_
  refine w_getf (q := (stC o 1)) (k := 1) (t := 7) (C := R_Opn) (T := F_Opn) (N := 17) hx hb hT hown hK hW fo.1 fo.2 (by decide) in_Opn rfl rfl (by decide) rfl fr_Opn_1 w_3_16 d_Opn_lookAtFooter_326 rfl ?_
  refine w_geti (k := 3) (t := 8) (C := R_Src) (T := F_Src) (N := 5) hx hb hT hown hK hW (st_ty hNN fo.1 fo.2 rfl).1 (st_ty hNN fo.1 fo.2 rfl).2 (by decide) in_Src rfl rfl (by decide) rfl fr_Src_3 w_3_2 d_Opn_lookAtFooter_329 ?_
  exact hret (fI x (stC o 1) 3) x H locs 332 ls d_Opn_lookAtFooter_332 hw hW hS
set_option maxRecDepth 100000 in
set_option maxHeartbeats 4000000 in
set_option maxRecDepth 100000 in
theorem t_Opn_lookAtFooter_291 {p : Program} {l : Launch} {e : Env} {R : Room} {s : State} {m : MethodId} {args : Array Value} {below : List Frame} {meth : Method} {c : Code} {cells slots : Nat} {Q : State → Prop} {dC : Nat → ClassId} {dI : Nat → Nat → Nat} {cI cB cJ cZ : ClassId} {A : Nat → Prop} {ad : Nat → Nat} {NN : Nat} {E : Heap} {tM tC : Nat} {kK kV : Nat → Nat} {post : Int32 → St → Prop} (hx : p.tables.exec = Jvm.exec) (hb : c.code = b_Opn_lookAtFooter) (hml : c.maxLocals = 14) (hown : s.vm.findClass R_Opn = some m.cls) (hT : ∀ w ∈ TG, w.before args s = true) (hK : va_K (dC, dI) CL (TY cI cB cJ cZ) s) (hN : NW s) (hA : ∀ q : Nat, s.heap.size ≤ q → A q) (hRc : cells ≤ R.cells) (hRs : slots ≤ R.slots) (hRf : 5 ≤ R.frames) (hRl : 164 ≤ R.locals) (hNN : 152 ≤ NN) (hE : CE E tM tC kK kV A s) (hret : ∀ (r : Int32) (x : St) (H : Heap) (locs : List Loc) (pc : Nat) (ls : Array Slot), decode b_Opn_lookAtFooter pc = .ok (.ireturn, 1) → post r x → Wd dC dI cI cB cJ cZ ad stC kcC NN A x H → va_S A s.heap H locs → W p l e R s m args below meth c H locs cells slots Q (F0 m pc ls [.int r]))  : ∀ (o : Nat) (l1 : Nat) (l2 : Int64) (l4 : Int64) (l6 : Int64) (l8 : Int64) (l10 : Int32) (s0 : Int32) (s1 : Nat) (x : St) (H : Heap) (locs : List Loc) (ls : Array Slot), (o < NN ∧ kcC o = 7) → (l1 < NN ∧ kcC l1 = 3) → (s1 < NN ∧ kcC s1 = 8) → j_Opn_lookAtFooter_291 post o l1 l2 l4 l6 l8 l10 s0 s1 x → Wd dC dI cI cB cJ cZ ad stC kcC NN A x H → va_S A s.heap H locs → lv_has ls 14 [(0, .ref (ad o)), (1, .ref (ad l1)), (2, .long l2), (4, .long l4), (6, .long l6), (8, .long l8), (10, .int l10)] → W p l e R s m args below meth c H locs cells slots Q (F0 m 291 ls [.int s0, .ref (ad s1)]) := by
  intro o l1 l2 l4 l6 l8 l10 s0 s1 x H locs ls fo fl1 fs1 hw hW hS hl
  unfold j_Opn_lookAtFooter_291 at hw
  refine lv_bipush (v := 17) hx hb d_Opn_lookAtFooter_291 (by decide) ?_
  have hF := hW.free hS hA
  refine va_callv (va_runV (C := R_Src) (As := [.int s0, .int 17]) (rest := []) ⟨hx, hb, hml, hown, hT⟩ (k_Src_check l dC dI cI cB cJ cZ ad NN E tM tC kK kV hNN H.size s1 s0 17 x fs1 hw) ⟨callB_of 2 hT (gwt_in w_6_116) rfl rfl rfl (hT _ w_1_11) (hT _ w_6_113) (by decide +kernel) ⟨Nat.le_trans (Nat.le_of_ble_eq_true rfl) hRf, Nat.le_trans (Nat.le_of_ble_eq_true rfl) hRl⟩, hT _ w_6_114, hT _ w_6_115⟩ ⟨PVc.blind, va_recv hK hW.1 (ci := 8) (q0 := s1) rfl (pic_obj fs1.1 fs1.2 (by decide)), PVc.at _ hW hK hN hE hS hF⟩ rfl rfl hl.1 rfl (lv_room (Nat.le_of_ble_eq_true rfl)) d_Opn_lookAtFooter_293 ⟨hRc, hRs⟩) hS (fun q _ h => hF q h) hF (fun  x1 t H locs ht hvm hw hB hz1 hk1 hS => ?_)
  have hW := Wd.back hB ht hF
  clear hB ht hF hz1 hk1 hvm
  refine lv_aload_n hx hb d_Opn_lookAtFooter_296 rfl (lv_at hl 0 rfl) ?_
  refine w_getf (q := (stC o 1)) (k := 1) (t := 7) (C := R_Opn) (T := F_Opn) (N := 17) hx hb hT hown hK hW fo.1 fo.2 (by decide) in_Opn rfl rfl (by decide) rfl fr_Opn_1 w_3_16 d_Opn_lookAtFooter_297 rfl ?_
  refine w_geti (k := 3) (t := 8) (C := R_Src) (T := F_Src) (N := 5) hx hb hT hown hK hW (st_ty hNN fo.1 fo.2 rfl).1 (st_ty hNN fo.1 fo.2 rfl).2 (by decide) in_Src rfl rfl (by decide) rfl fr_Src_3 w_3_2 d_Opn_lookAtFooter_300 ?_
  refine lv_if_ne (tgt := 325) hx hb d_Opn_lookAtFooter_303 (by decide) (fun c2 => ?_) (fun c2 => ?_)
  · have hw := hw.1 c2
    exact t_Opn_lookAtFooter_325 hx hb hml hown hT hK hN hA hRc hRs hRf hRl hNN hE hret  o l1 l2 l4 l6 l8 l10 x1 H locs ls fo fl1 hw hW hS (lv_sub hl [0, 1, 2, 3, 4, 5, 6] rfl)
  · have hw := hw.2 c2
    refine lv_aload_n hx hb d_Opn_lookAtFooter_306 rfl (lv_at hl 0 rfl) ?_
    refine w_getf (q := (stC o 0)) (k := 0) (t := 7) (C := R_Opn) (T := F_Opn) (N := 17) hx hb hT hown hK hW fo.1 fo.2 (by decide) in_Opn rfl rfl (by decide) rfl fr_Opn_0 w_3_15 d_Opn_lookAtFooter_307 rfl ?_
    refine lv_lload_n hx hb d_Opn_lookAtFooter_310 rfl (lv_at hl 2 rfl) ?_
    refine lv_l2i hx hb d_Opn_lookAtFooter_311 rfl ?_
    refine w_puti (ty := .int) (k := 1) (t := 6) (C := R_Vlt) (T := F_Vlt) (N := 20) hx hb hT hown hK hW hS (st_ty hNN fo.1 fo.2 rfl).1 (st_ty hNN fo.1 fo.2 rfl).2 (by decide) in_Vlt t_Vlt t_Vlt_ok n_Vlt rfl rfl (by decide) rfl fr_Vlt_1 w_2_125 (by decide +kernel) rfl rfl d_Opn_lookAtFooter_312 (fun H locs hW hS => ?_)
    obtain ⟨x3, ex3⟩ : ∃ y : St, y = setI x1 (stC o 0) 1 (l2 : Int64).toInt32 := ⟨_, rfl⟩
    rw [← ex3] at hW
    have hw := hw x3 ex3
    refine lv_aload_n hx hb d_Opn_lookAtFooter_315 rfl (lv_at hl 0 rfl) ?_
    refine w_getf (q := (stC o 0)) (k := 0) (t := 7) (C := R_Opn) (T := F_Opn) (N := 17) hx hb hT hown hK hW fo.1 fo.2 (by decide) in_Opn rfl rfl (by decide) rfl fr_Opn_0 w_3_15 d_Opn_lookAtFooter_316 rfl ?_
    refine lv_lload hx hb d_Opn_lookAtFooter_319 (lv_at hl 3 rfl) ?_
    refine lv_l2i hx hb d_Opn_lookAtFooter_321 rfl ?_
    refine w_puti (ty := .int) (k := 2) (t := 6) (C := R_Vlt) (T := F_Vlt) (N := 20) hx hb hT hown hK hW hS (st_ty hNN fo.1 fo.2 rfl).1 (st_ty hNN fo.1 fo.2 rfl).2 (by decide) in_Vlt t_Vlt t_Vlt_ok n_Vlt rfl rfl (by decide) rfl fr_Vlt_2 w_2_127 (by decide +kernel) rfl rfl d_Opn_lookAtFooter_322 (fun H locs hW hS => ?_)
    obtain ⟨x4, ex4⟩ : ∃ y : St, y = setI x3 (stC o 0) 2 (l4 : Int64).toInt32 := ⟨_, rfl⟩
    rw [← ex4] at hW
    have hw := hw x4 ex4
    exact t_Opn_lookAtFooter_325 hx hb hml hown hT hK hN hA hRc hRs hRf hRl hNN hE hret  o l1 l2 l4 l6 l8 l10 x4 H locs ls fo fl1 hw hW hS (lv_sub hl [0, 1, 2, 3, 4, 5, 6] rfl)
set_option maxRecDepth 100000 in
set_option maxHeartbeats 4000000 in
set_option maxRecDepth 100000 in
theorem t_Opn_lookAtFooter_248 {p : Program} {l : Launch} {e : Env} {R : Room} {s : State} {m : MethodId} {args : Array Value} {below : List Frame} {meth : Method} {c : Code} {cells slots : Nat} {Q : State → Prop} {dC : Nat → ClassId} {dI : Nat → Nat → Nat} {cI cB cJ cZ : ClassId} {A : Nat → Prop} {ad : Nat → Nat} {NN : Nat} {E : Heap} {tM tC : Nat} {kK kV : Nat → Nat} {post : Int32 → St → Prop} (hx : p.tables.exec = Jvm.exec) (hb : c.code = b_Opn_lookAtFooter) (hml : c.maxLocals = 14) (hown : s.vm.findClass R_Opn = some m.cls) (hT : ∀ w ∈ TG, w.before args s = true) (hK : va_K (dC, dI) CL (TY cI cB cJ cZ) s) (hN : NW s) (hA : ∀ q : Nat, s.heap.size ≤ q → A q) (hRc : cells ≤ R.cells) (hRs : slots ≤ R.slots) (hRf : 5 ≤ R.frames) (hRl : 164 ≤ R.locals) (hNN : 152 ≤ NN) (hE : CE E tM tC kK kV A s) (hret : ∀ (r : Int32) (x : St) (H : Heap) (locs : List Loc) (pc : Nat) (ls : Array Slot), decode b_Opn_lookAtFooter pc = .ok (.ireturn, 1) → post r x → Wd dC dI cI cB cJ cZ ad stC kcC NN A x H → va_S A s.heap H locs → W p l e R s m args below meth c H locs cells slots Q (F0 m pc ls [.int r]))  : ∀ (o : Nat) (l1 : Nat) (l2 : Int64) (l4 : Int64) (l6 : Int64) (l8 : Int64) (l10 : Int32) (s0 : Int32) (s1 : Nat) (x : St) (H : Heap) (locs : List Loc) (ls : Array Slot), (o < NN ∧ kcC o = 7) → (l1 < NN ∧ kcC l1 = 3) → (s1 < NN ∧ kcC s1 = 8) → j_Opn_lookAtFooter_248 post o l1 l2 l4 l6 l8 l10 s0 s1 x → Wd dC dI cI cB cJ cZ ad stC kcC NN A x H → va_S A s.heap H locs → lv_has ls 14 [(0, .ref (ad o)), (1, .ref (ad l1)), (2, .long l2), (4, .long l4), (6, .long l6), (8, .long l8), (10, .int l10)] → W p l e R s m args below meth c H locs cells slots Q (F0 m 248 ls [.int s0, .ref (ad s1)]) := by
  intro o l1 l2 l4 l6 l8 l10 s0 s1 x H locs ls fo fl1 fs1 hw hW hS hl
  unfold j_Opn_lookAtFooter_248 at hw
  refine lv_bipush (v := 16) hx hb d_Opn_lookAtFooter_248 (by decide) ?_
  have hF := hW.free hS hA
  refine va_callv (va_runV (C := R_Src) (As := [.int s0, .int 16]) (rest := []) ⟨hx, hb, hml, hown, hT⟩ (k_Src_check l dC dI cI cB cJ cZ ad NN E tM tC kK kV hNN H.size s1 s0 16 x fs1 hw) ⟨callB_of 2 hT (gwt_in w_6_116) rfl rfl rfl (hT _ w_1_11) (hT _ w_6_113) (by decide +kernel) ⟨Nat.le_trans (Nat.le_of_ble_eq_true rfl) hRf, Nat.le_trans (Nat.le_of_ble_eq_true rfl) hRl⟩, hT _ w_6_114, hT _ w_6_115⟩ ⟨PVc.blind, va_recv hK hW.1 (ci := 8) (q0 := s1) rfl (pic_obj fs1.1 fs1.2 (by decide)), PVc.at _ hW hK hN hE hS hF⟩ rfl rfl hl.1 rfl (lv_room (Nat.le_of_ble_eq_true rfl)) d_Opn_lookAtFooter_250 ⟨hRc, hRs⟩) hS (fun q _ h => hF q h) hF (fun  x5 t H locs ht hvm hw hB hz1 hk1 hS => ?_)
  have hW := Wd.back hB ht hF
  clear hB ht hF hz1 hk1 hvm
  refine lv_aload_n hx hb d_Opn_lookAtFooter_253 rfl (lv_at hl 0 rfl) ?_
  refine w_getf (q := (stC o 1)) (k := 1) (t := 7) (C := R_Opn) (T := F_Opn) (N := 17) hx hb hT hown hK hW fo.1 fo.2 (by decide) in_Opn rfl rfl (by decide) rfl fr_Opn_1 w_3_16 d_Opn_lookAtFooter_254 rfl ?_
  have hF := hW.free hS hA
  refine va_callv (va_runV (C := R_Src) (As := []) (rest := []) ⟨hx, hb, hml, hown, hT⟩ (k_Src_checkEnd l dC dI cI cB cJ cZ ad NN E tM tC kK kV hNN H.size (stC o 1) x5 (st_ty hNN fo.1 fo.2 rfl) hw) ⟨callB_of 0 hT (gwt_in w_6_167) rfl rfl rfl (hT _ w_1_11) (hT _ w_6_164) (by decide +kernel) ⟨Nat.le_trans (Nat.le_of_ble_eq_true rfl) hRf, Nat.le_trans (Nat.le_of_ble_eq_true rfl) hRl⟩, hT _ w_6_165, hT _ w_6_166⟩ ⟨PVc.blind, va_recv hK hW.1 (ci := 8) (q0 := (stC o 1)) rfl (pic_obj (st_ty hNN fo.1 fo.2 rfl).1 (st_ty hNN fo.1 fo.2 rfl).2 (by decide)), PVc.at _ hW hK hN hE hS hF⟩ rfl rfl hl.1 rfl (lv_room (Nat.le_of_ble_eq_true rfl)) d_Opn_lookAtFooter_257 ⟨hRc, hRs⟩) hS (fun q _ h => hF q h) hF (fun  x6 t H locs ht hvm hw hB hz1 hk1 hS => ?_)
  have hW := Wd.back hB ht hF
  clear hB ht hF hz1 hk1 hvm
  refine lv_aload_n hx hb d_Opn_lookAtFooter_260 rfl (lv_at hl 0 rfl) ?_
  refine w_getf (q := (stC o 1)) (k := 1) (t := 7) (C := R_Opn) (T := F_Opn) (N := 17) hx hb hT hown hK hW fo.1 fo.2 (by decide) in_Opn rfl rfl (by decide) rfl fr_Opn_1 w_3_16 d_Opn_lookAtFooter_261 rfl ?_
  refine lv_lload hx hb d_Opn_lookAtFooter_264 (lv_at hl 4 rfl) ?_
  refine lv_aload_n hx hb d_Opn_lookAtFooter_266 rfl (lv_at hl 0 rfl) ?_
  refine w_getf (q := (stC o 2)) (k := 2) (t := 7) (C := R_Opn) (T := F_Opn) (N := 17) hx hb hT hown hK hW fo.1 fo.2 (by decide) in_Opn rfl rfl (by decide) rfl fr_Opn_2 w_3_17 d_Opn_lookAtFooter_267 rfl ?_
  refine w_geti (k := 2) (t := 8) (C := R_Src) (T := F_Src) (N := 5) hx hb hT hown hK hW (st_ty hNN fo.1 fo.2 rfl).1 (st_ty hNN fo.1 fo.2 rfl).2 (by decide) in_Src rfl rfl (by decide) rfl fr_Src_2 w_3_0 d_Opn_lookAtFooter_270 ?_
  refine lv_aload_n hx hb d_Opn_lookAtFooter_273 rfl (lv_at hl 0 rfl) ?_
  refine w_getf (q := (stC o 2)) (k := 2) (t := 7) (C := R_Opn) (T := F_Opn) (N := 17) hx hb hT hown hK hW fo.1 fo.2 (by decide) in_Opn rfl rfl (by decide) rfl fr_Opn_2 w_3_17 d_Opn_lookAtFooter_274 rfl ?_
  refine w_geti (k := 1) (t := 8) (C := R_Src) (T := F_Src) (N := 5) hx hb hT hown hK hW (st_ty hNN fo.1 fo.2 rfl).1 (st_ty hNN fo.1 fo.2 rfl).2 (by decide) in_Src rfl rfl (by decide) rfl fr_Src_1 w_2_238 d_Opn_lookAtFooter_277 ?_
  refine lv_isub hx hb d_Opn_lookAtFooter_280 ?_
  refine lv_i2l hx hb d_Opn_lookAtFooter_281 rfl ?_
  refine W.lcmp hx hb d_Opn_lookAtFooter_282 ?_
  refine lv_if_ne (tgt := 290) hx hb d_Opn_lookAtFooter_283 (by decide) (fun c7 => ?_) (fun c7 => ?_)
  · have hw := hw.1 c7
    refine lv_iconst (v := 0) hx hb d_Opn_lookAtFooter_290 (by decide) ?_
    exact t_Opn_lookAtFooter_291 hx hb hml hown hT hK hN hA hRc hRs hRf hRl hNN hE hret  o l1 l2 l4 l6 l8 l10 0 (stC o 1) x6 H locs ls fo fl1 (st_ty hNN fo.1 fo.2 rfl) hw hW hS (lv_sub hl [0, 1, 2, 3, 4, 5, 6] rfl)
  · have hw := hw.2 c7
    refine lv_iconst (v := 1) hx hb d_Opn_lookAtFooter_286 (by decide) ?_
    refine lv_goto (tgt := 291) hx hb d_Opn_lookAtFooter_287 (by decide) ?_
    exact t_Opn_lookAtFooter_291 hx hb hml hown hT hK hN hA hRc hRs hRf hRl hNN hE hret  o l1 l2 l4 l6 l8 l10 1 (stC o 1) x6 H locs ls fo fl1 (st_ty hNN fo.1 fo.2 rfl) hw hW hS (lv_sub hl [0, 1, 2, 3, 4, 5, 6] rfl)
set_option maxRecDepth 100000 in
set_option maxHeartbeats 4000000 in
set_option maxRecDepth 100000 in
theorem t_Opn_lookAtFooter_232 {p : Program} {l : Launch} {e : Env} {R : Room} {s : State} {m : MethodId} {args : Array Value} {below : List Frame} {meth : Method} {c : Code} {cells slots : Nat} {Q : State → Prop} {dC : Nat → ClassId} {dI : Nat → Nat → Nat} {cI cB cJ cZ : ClassId} {A : Nat → Prop} {ad : Nat → Nat} {NN : Nat} {E : Heap} {tM tC : Nat} {kK kV : Nat → Nat} {post : Int32 → St → Prop} (hx : p.tables.exec = Jvm.exec) (hb : c.code = b_Opn_lookAtFooter) (hml : c.maxLocals = 14) (hown : s.vm.findClass R_Opn = some m.cls) (hT : ∀ w ∈ TG, w.before args s = true) (hK : va_K (dC, dI) CL (TY cI cB cJ cZ) s) (hN : NW s) (hA : ∀ q : Nat, s.heap.size ≤ q → A q) (hRc : cells ≤ R.cells) (hRs : slots ≤ R.slots) (hRf : 5 ≤ R.frames) (hRl : 164 ≤ R.locals) (hNN : 152 ≤ NN) (hE : CE E tM tC kK kV A s) (hret : ∀ (r : Int32) (x : St) (H : Heap) (locs : List Loc) (pc : Nat) (ls : Array Slot), decode b_Opn_lookAtFooter pc = .ok (.ireturn, 1) → post r x → Wd dC dI cI cB cJ cZ ad stC kcC NN A x H → va_S A s.heap H locs → W p l e R s m args below meth c H locs cells slots Q (F0 m pc ls [.int r]))  : ∀ (o : Nat) (l1 : Nat) (l2 : Int64) (l4 : Int64) (l6 : Int64) (l8 : Int64) (l10 : Int32) (x : St) (H : Heap) (locs : List Loc) (ls : Array Slot), (o < NN ∧ kcC o = 7) → (l1 < NN ∧ kcC l1 = 3) → j_Opn_lookAtFooter_232 post o l1 l2 l4 l6 l8 l10 x → Wd dC dI cI cB cJ cZ ad stC kcC NN A x H → va_S A s.heap H locs → lv_has ls 14 [(0, .ref (ad o)), (1, .ref (ad l1)), (2, .long l2), (4, .long l4), (6, .long l6), (8, .long l8), (10, .int l10)] → W p l e R s m args below meth c H locs cells slots Q (F0 m 232 ls []) := by
  intro o l1 l2 l4 l6 l8 l10 x H locs ls fo fl1 hw hW hS hl
  unfold j_Opn_lookAtFooter_232 at hw
  refine lv_aload_n hx hb d_Opn_lookAtFooter_232 rfl (lv_at hl 0 rfl) ?_
  refine w_getf (q := (stC o 1)) (k := 1) (t := 7) (C := R_Opn) (T := F_Opn) (N := 17) hx hb hT hown hK hW fo.1 fo.2 (by decide) in_Opn rfl rfl (by decide) rfl fr_Opn_1 w_3_16 d_Opn_lookAtFooter_233 rfl ?_
  refine lv_lload hx hb d_Opn_lookAtFooter_236 (lv_at hl 5 rfl) ?_
  refine lv_lload_n hx hb d_Opn_lookAtFooter_238 rfl (lv_at hl 2 rfl) ?_
  refine W.lcmp hx hb d_Opn_lookAtFooter_239 ?_
  refine lv_if_ne (tgt := 247) hx hb d_Opn_lookAtFooter_240 (by decide) (fun c8 => ?_) (fun c8 => ?_)
  · have hw := hw.1 c8
    refine lv_iconst (v := 0) hx hb d_Opn_lookAtFooter_247 (by decide) ?_
    exact t_Opn_lookAtFooter_248 hx hb hml hown hT hK hN hA hRc hRs hRf hRl hNN hE hret  o l1 l2 l4 l6 l8 l10 0 (stC o 1) x H locs ls fo fl1 (st_ty hNN fo.1 fo.2 rfl) hw hW hS (lv_sub hl [0, 1, 2, 3, 4, 5, 6] rfl)
  · have hw := hw.2 c8
    refine lv_iconst (v := 1) hx hb d_Opn_lookAtFooter_243 (by decide) ?_
    refine lv_goto (tgt := 248) hx hb d_Opn_lookAtFooter_244 (by decide) ?_
    exact t_Opn_lookAtFooter_248 hx hb hml hown hT hK hN hA hRc hRs hRf hRl hNN hE hret  o l1 l2 l4 l6 l8 l10 1 (stC o 1) x H locs ls fo fl1 (st_ty hNN fo.1 fo.2 rfl) hw hW hS (lv_sub hl [0, 1, 2, 3, 4, 5, 6] rfl)
set_option maxRecDepth 100000 in
set_option maxHeartbeats 4000000 in
set_option maxRecDepth 100000 in
theorem t_Opn_lookAtFooter_226 {p : Program} {l : Launch} {e : Env} {R : Room} {s : State} {m : MethodId} {args : Array Value} {below : List Frame} {meth : Method} {c : Code} {cells slots : Nat} {Q : State → Prop} {dC : Nat → ClassId} {dI : Nat → Nat → Nat} {cI cB cJ cZ : ClassId} {A : Nat → Prop} {ad : Nat → Nat} {NN : Nat} {E : Heap} {tM tC : Nat} {kK kV : Nat → Nat} {post : Int32 → St → Prop} {rec83 : Nat → Nat → Int64 → Int64 → Int64 → Int64 → Int32 → St → Prop} (hx : p.tables.exec = Jvm.exec) (hb : c.code = b_Opn_lookAtFooter) (hml : c.maxLocals = 14) (hown : s.vm.findClass R_Opn = some m.cls) (hT : ∀ w ∈ TG, w.before args s = true) (hK : va_K (dC, dI) CL (TY cI cB cJ cZ) s) (hN : NW s) (hA : ∀ q : Nat, s.heap.size ≤ q → A q) (hRc : cells ≤ R.cells) (hRs : slots ≤ R.slots) (hRf : 5 ≤ R.frames) (hRl : 164 ≤ R.locals) (hNN : 152 ≤ NN) (hE : CE E tM tC kK kV A s) (hret : ∀ (r : Int32) (x : St) (H : Heap) (locs : List Loc) (pc : Nat) (ls : Array Slot), decode b_Opn_lookAtFooter pc = .ok (.ireturn, 1) → post r x → Wd dC dI cI cB cJ cZ ad stC kcC NN A x H → va_S A s.heap H locs → W p l e R s m args below meth c H locs cells slots Q (F0 m pc ls [.int r])) (hrec83 : ∀ (o : Nat) (l1 : Nat) (l2 : Int64) (l4 : Int64) (l6 : Int64) (l8 : Int64) (l10 : Int32) (x : St) (H : Heap) (locs : List Loc) (ls : Array Slot), (o < NN ∧ kcC o = 7) → (l1 < NN ∧ kcC l1 = 3) → rec83 o l1 l2 l4 l6 l8 l10 x → Wd dC dI cI cB cJ cZ ad stC kcC NN A x H → va_S A s.heap H locs → lv_has ls 14 [(0, .ref (ad o)), (1, .ref (ad l1)), (2, .long l2), (4, .long l4), (6, .long l6), (8, .long l8), (10, .int l10)] → W p l e R s m args below meth c H locs cells slots Q (F0 m 83 ls [])) : ∀ (o : Nat) (l1 : Nat) (l2 : Int64) (l4 : Int64) (l6 : Int64) (l8 : Int64) (l10 : Int32) (l11 : Int64) (l13 : Int32) (x : St) (H : Heap) (locs : List Loc) (ls : Array Slot), (o < NN ∧ kcC o = 7) → (l1 < NN ∧ kcC l1 = 3) → j_Opn_lookAtFooter_226 post rec83 o l1 l2 l4 l6 l8 l10 l11 l13 x → Wd dC dI cI cB cJ cZ ad stC kcC NN A x H → va_S A s.heap H locs → lv_has ls 14 [(0, .ref (ad o)), (1, .ref (ad l1)), (2, .long l2), (4, .long l4), (6, .long l6), (8, .long l8), (10, .int l10), (11, .long l11), (13, .int l13)] → W p l e R s m args below meth c H locs cells slots Q (F0 m 226 ls []) := by
  intro o l1 l2 l4 l6 l8 l10 l11 l13 x H locs ls fo fl1 hw hW hS hl
  unfold j_Opn_lookAtFooter_226 at hw
  refine lv_iinc (v := (l10 + 1)) (lv' := [(10, .int (l10 + 1)), (0, .ref (ad o)), (1, .ref (ad l1)), (2, .long l2), (4, .long l4), (6, .long l6), (8, .long l8), (11, .long l11), (13, .int l13)]) hx hb d_Opn_lookAtFooter_226 hl (k := 6) rfl rfl (by decide) rfl (fun ls hl => ?_)
  refine lv_goto (tgt := 83) hx hb d_Opn_lookAtFooter_229 (by decide) ?_
  exact hrec83 o l1 l2 l4 l6 l8 (l10 + 1) x H locs ls fo fl1 hw hW hS (lv_sub hl [1, 2, 3, 4, 5, 6, 0] rfl)
set_option maxRecDepth 100000 in
set_option maxHeartbeats 4000000 in
set_option maxRecDepth 100000 in
theorem t_Opn_lookAtFooter_217 {p : Program} {l : Launch} {e : Env} {R : Room} {s : State} {m : MethodId} {args : Array Value} {below : List Frame} {meth : Method} {c : Code} {cells slots : Nat} {Q : State → Prop} {dC : Nat → ClassId} {dI : Nat → Nat → Nat} {cI cB cJ cZ : ClassId} {A : Nat → Prop} {ad : Nat → Nat} {NN : Nat} {E : Heap} {tM tC : Nat} {kK kV : Nat → Nat} {post : Int32 → St → Prop} {rec83 : Nat → Nat → Int64 → Int64 → Int64 → Int64 → Int32 → St → Prop} {rec153 : Nat → Nat → Int64 → Int64 → Int64 → Int64 → Int32 → Int64 → Int32 → St → Prop} (hx : p.tables.exec = Jvm.exec) (hb : c.code = b_Opn_lookAtFooter) (hml : c.maxLocals = 14) (hown : s.vm.findClass R_Opn = some m.cls) (hT : ∀ w ∈ TG, w.before args s = true) (hK : va_K (dC, dI) CL (TY cI cB cJ cZ) s) (hN : NW s) (hA : ∀ q : Nat, s.heap.size ≤ q → A q) (hRc : cells ≤ R.cells) (hRs : slots ≤ R.slots) (hRf : 5 ≤ R.frames) (hRl : 164 ≤ R.locals) (hNN : 152 ≤ NN) (hE : CE E tM tC kK kV A s) (hret : ∀ (r : Int32) (x : St) (H : Heap) (locs : List Loc) (pc : Nat) (ls : Array Slot), decode b_Opn_lookAtFooter pc = .ok (.ireturn, 1) → post r x → Wd dC dI cI cB cJ cZ ad stC kcC NN A x H → va_S A s.heap H locs → W p l e R s m args below meth c H locs cells slots Q (F0 m pc ls [.int r])) (hrec83 : ∀ (o : Nat) (l1 : Nat) (l2 : Int64) (l4 : Int64) (l6 : Int64) (l8 : Int64) (l10 : Int32) (x : St) (H : Heap) (locs : List Loc) (ls : Array Slot), (o < NN ∧ kcC o = 7) → (l1 < NN ∧ kcC l1 = 3) → rec83 o l1 l2 l4 l6 l8 l10 x → Wd dC dI cI cB cJ cZ ad stC kcC NN A x H → va_S A s.heap H locs → lv_has ls 14 [(0, .ref (ad o)), (1, .ref (ad l1)), (2, .long l2), (4, .long l4), (6, .long l6), (8, .long l8), (10, .int l10)] → W p l e R s m args below meth c H locs cells slots Q (F0 m 83 ls [])) (hrec153 : ∀ (o : Nat) (l1 : Nat) (l2 : Int64) (l4 : Int64) (l6 : Int64) (l8 : Int64) (l10 : Int32) (l11 : Int64) (l13 : Int32) (x : St) (H : Heap) (locs : List Loc) (ls : Array Slot), (o < NN ∧ kcC o = 7) → (l1 < NN ∧ kcC l1 = 3) → rec153 o l1 l2 l4 l6 l8 l10 l11 l13 x → Wd dC dI cI cB cJ cZ ad stC kcC NN A x H → va_S A s.heap H locs → lv_has ls 14 [(0, .ref (ad o)), (1, .ref (ad l1)), (2, .long l2), (4, .long l4), (6, .long l6), (8, .long l8), (10, .int l10), (11, .long l11), (13, .int l13)] → W p l e R s m args below meth c H locs cells slots Q (F0 m 153 ls [])) : ∀ (o : Nat) (l1 : Nat) (l2 : Int64) (l4 : Int64) (l6 : Int64) (l8 : Int64) (l10 : Int32) (l11 : Int64) (l13 : Int32) (s0 : Int64) (s1 : Int64) (x : St) (H : Heap) (locs : List Loc) (ls : Array Slot), (o < NN ∧ kcC o = 7) → (l1 < NN ∧ kcC l1 = 3) → j_Opn_lookAtFooter_217 post rec83 rec153 o l1 l2 l4 l6 l8 l10 l11 l13 s0 s1 x → Wd dC dI cI cB cJ cZ ad stC kcC NN A x H → va_S A s.heap H locs → lv_has ls 14 [(0, .ref (ad o)), (1, .ref (ad l1)), (2, .long l2), (4, .long l4), (6, .long l6), (8, .long l8), (10, .int l10), (11, .long l11), (13, .int l13)] → W p l e R s m args below meth c H locs cells slots Q (F0 m 217 ls [.long s0, .long s1]) := by
  intro o l1 l2 l4 l6 l8 l10 l11 l13 s0 s1 x H locs ls fo fl1 hw hW hS hl
  unfold j_Opn_lookAtFooter_217 at hw
  refine lv_ladd hx hb d_Opn_lookAtFooter_217 ?_
  refine lv_topl (fun v9 ev9 => ?_)
  have hw := hw v9 ev9
  refine lv_lstore (lv' := [(6, .long v9), (0, .ref (ad o)), (1, .ref (ad l1)), (2, .long l2), (4, .long l4), (8, .long l8), (10, .int l10), (11, .long l11), (13, .int l13)]) hx hb d_Opn_lookAtFooter_218 hl (by decide) rfl (fun ls hl => ?_)
  refine lv_iinc (v := (l13 + 1)) (lv' := [(13, .int (l13 + 1)), (6, .long v9), (0, .ref (ad o)), (1, .ref (ad l1)), (2, .long l2), (4, .long l4), (8, .long l8), (10, .int l10), (11, .long l11)]) hx hb d_Opn_lookAtFooter_220 hl (k := 8) rfl rfl (by decide) rfl (fun ls hl => ?_)
  refine lv_goto (tgt := 153) hx hb d_Opn_lookAtFooter_223 (by decide) ?_
  exact hrec153 o l1 l2 l4 v9 l8 l10 l11 (l13 + 1) x H locs ls fo fl1 hw hW hS (lv_sub hl [2, 3, 4, 5, 1, 6, 7, 8, 0] rfl)
set_option maxRecDepth 100000 in
set_option maxHeartbeats 4000000 in
set_option maxRecDepth 100000 in
theorem t_Opn_lookAtFooter_153 {p : Program} {l : Launch} {e : Env} {R : Room} {s : State} {m : MethodId} {args : Array Value} {below : List Frame} {meth : Method} {c : Code} {cells slots : Nat} {Q : State → Prop} {dC : Nat → ClassId} {dI : Nat → Nat → Nat} {cI cB cJ cZ : ClassId} {A : Nat → Prop} {ad : Nat → Nat} {NN : Nat} {E : Heap} {tM tC : Nat} {kK kV : Nat → Nat} {post : Int32 → St → Prop} {rec83 : Nat → Nat → Int64 → Int64 → Int64 → Int64 → Int32 → St → Prop} {rec153 : Nat → Nat → Int64 → Int64 → Int64 → Int64 → Int32 → Int64 → Int32 → St → Prop} (hx : p.tables.exec = Jvm.exec) (hb : c.code = b_Opn_lookAtFooter) (hml : c.maxLocals = 14) (hown : s.vm.findClass R_Opn = some m.cls) (hT : ∀ w ∈ TG, w.before args s = true) (hK : va_K (dC, dI) CL (TY cI cB cJ cZ) s) (hN : NW s) (hA : ∀ q : Nat, s.heap.size ≤ q → A q) (hRc : cells ≤ R.cells) (hRs : slots ≤ R.slots) (hRf : 5 ≤ R.frames) (hRl : 164 ≤ R.locals) (hNN : 152 ≤ NN) (hE : CE E tM tC kK kV A s) (hret : ∀ (r : Int32) (x : St) (H : Heap) (locs : List Loc) (pc : Nat) (ls : Array Slot), decode b_Opn_lookAtFooter pc = .ok (.ireturn, 1) → post r x → Wd dC dI cI cB cJ cZ ad stC kcC NN A x H → va_S A s.heap H locs → W p l e R s m args below meth c H locs cells slots Q (F0 m pc ls [.int r])) (hrec83 : ∀ (o : Nat) (l1 : Nat) (l2 : Int64) (l4 : Int64) (l6 : Int64) (l8 : Int64) (l10 : Int32) (x : St) (H : Heap) (locs : List Loc) (ls : Array Slot), (o < NN ∧ kcC o = 7) → (l1 < NN ∧ kcC l1 = 3) → rec83 o l1 l2 l4 l6 l8 l10 x → Wd dC dI cI cB cJ cZ ad stC kcC NN A x H → va_S A s.heap H locs → lv_has ls 14 [(0, .ref (ad o)), (1, .ref (ad l1)), (2, .long l2), (4, .long l4), (6, .long l6), (8, .long l8), (10, .int l10)] → W p l e R s m args below meth c H locs cells slots Q (F0 m 83 ls [])) (hrec153 : ∀ (o : Nat) (l1 : Nat) (l2 : Int64) (l4 : Int64) (l6 : Int64) (l8 : Int64) (l10 : Int32) (l11 : Int64) (l13 : Int32) (x : St) (H : Heap) (locs : List Loc) (ls : Array Slot), (o < NN ∧ kcC o = 7) → (l1 < NN ∧ kcC l1 = 3) → rec153 o l1 l2 l4 l6 l8 l10 l11 l13 x → Wd dC dI cI cB cJ cZ ad stC kcC NN A x H → va_S A s.heap H locs → lv_has ls 14 [(0, .ref (ad o)), (1, .ref (ad l1)), (2, .long l2), (4, .long l4), (6, .long l6), (8, .long l8), (10, .int l10), (11, .long l11), (13, .int l13)] → W p l e R s m args below meth c H locs cells slots Q (F0 m 153 ls [])) : ∀ (o : Nat) (l1 : Nat) (l2 : Int64) (l4 : Int64) (l6 : Int64) (l8 : Int64) (l10 : Int32) (l11 : Int64) (l13 : Int32) (x : St) (H : Heap) (locs : List Loc) (ls : Array Slot), (o < NN ∧ kcC o = 7) → (l1 < NN ∧ kcC l1 = 3) → j_Opn_lookAtFooter_153 post rec83 rec153 o l1 l2 l4 l6 l8 l10 l11 l13 x → Wd dC dI cI cB cJ cZ ad stC kcC NN A x H → va_S A s.heap H locs → lv_has ls 14 [(0, .ref (ad o)), (1, .ref (ad l1)), (2, .long l2), (4, .long l4), (6, .long l6), (8, .long l8), (10, .int l10), (11, .long l11), (13, .int l13)] → W p l e R s m args below meth c H locs cells slots Q (F0 m 153 ls []) := by
  intro o l1 l2 l4 l6 l8 l10 l11 l13 x H locs ls fo fl1 hw hW hS hl
  unfold j_Opn_lookAtFooter_153 at hw
  refine lv_iload hx hb d_Opn_lookAtFooter_153 (lv_at hl 8 rfl) ?_
  refine lv_aload_n hx hb d_Opn_lookAtFooter_155 rfl (lv_at hl 1 rfl) ?_
  refine w_geti (k := 1) (t := 3) (C := R_Sch) (T := F_Sch) (N := 13) hx hb hT hown hK hW fl1.1 fl1.2 (by decide) in_Sch rfl rfl (by decide) rfl fr_Sch_1 w_1_137 d_Opn_lookAtFooter_156 ?_
  refine lv_icmp_ge (tgt := 226) hx hb d_Opn_lookAtFooter_159 (by decide) (fun c10 => ?_) (fun c10 => ?_)
  · have hw := hw.1 c10
    exact t_Opn_lookAtFooter_226 hx hb hml hown hT hK hN hA hRc hRs hRf hRl hNN hE hret hrec83 o l1 l2 l4 l6 l8 l10 l11 l13 x H locs ls fo fl1 hw hW hS (lv_sub hl [0, 1, 2, 3, 4, 5, 6, 7, 8] rfl)
  · have hw := hw.2 c10
    refine lv_aload_n hx hb d_Opn_lookAtFooter_162 rfl (lv_at hl 0 rfl) ?_
    refine w_getf (q := (stC o 1)) (k := 1) (t := 7) (C := R_Opn) (T := F_Opn) (N := 17) hx hb hT hown hK hW fo.1 fo.2 (by decide) in_Opn rfl rfl (by decide) rfl fr_Opn_1 w_3_16 d_Opn_lookAtFooter_163 rfl ?_
    refine w_geti (k := 3) (t := 8) (C := R_Src) (T := F_Src) (N := 5) hx hb hT hown hK hW (st_ty hNN fo.1 fo.2 rfl).1 (st_ty hNN fo.1 fo.2 rfl).2 (by decide) in_Src rfl rfl (by decide) rfl fr_Src_3 w_3_2 d_Opn_lookAtFooter_166 ?_
    refine lv_if_ne (tgt := 226) hx hb d_Opn_lookAtFooter_169 (by decide) (fun c11 => ?_) (fun c11 => ?_)
    · have hw := hw.1 c11
      exact t_Opn_lookAtFooter_226 hx hb hml hown hT hK hN hA hRc hRs hRf hRl hNN hE hret hrec83 o l1 l2 l4 l6 l8 l10 l11 l13 x H locs ls fo fl1 hw hW hS (lv_sub hl [0, 1, 2, 3, 4, 5, 6, 7, 8] rfl)
    · have hw := hw.2 c11
      refine lv_aload_n hx hb d_Opn_lookAtFooter_172 rfl (lv_at hl 0 rfl) ?_
      refine lv_aload_n hx hb d_Opn_lookAtFooter_173 rfl (lv_at hl 1 rfl) ?_
      refine w_getf (q := (stC l1 3)) (k := 3) (t := 3) (C := R_Sch) (T := F_Sch) (N := 13) hx hb hT hown hK hW fl1.1 fl1.2 (by decide) in_Sch rfl rfl (by decide) rfl fr_Sch_3 w_1_147 d_Opn_lookAtFooter_174 rfl ?_
      refine lv_aload_n hx hb d_Opn_lookAtFooter_177 rfl (lv_at hl 1 rfl) ?_
      refine w_getf (q := (stC l1 10)) (k := 10) (t := 3) (C := R_Sch) (T := F_Sch) (N := 13) hx hb hT hown hK hW fl1.1 fl1.2 (by decide) in_Sch rfl rfl (by decide) rfl fr_Sch_10 w_1_181 d_Opn_lookAtFooter_178 rfl ?_
      refine lv_iload hx hb d_Opn_lookAtFooter_181 (lv_at hl 8 rfl) ?_
      obtain ⟨hi, hw⟩ := hw
      refine w_iald (o := (stC l1 10)) hx hb hK hW (st_ty hNN fl1.1 fl1.2 rfl).1 (st_ty hNN fl1.1 fl1.2 rfl).2 hi d_Opn_lookAtFooter_183 ?_
      obtain ⟨hi, hw⟩ := hw
      refine w_iald (o := (stC l1 3)) hx hb hK hW (st_ty hNN fl1.1 fl1.2 rfl).1 (st_ty hNN fl1.1 fl1.2 rfl).2 hi d_Opn_lookAtFooter_184 ?_
      have hF := hW.free hS hA
      refine va_callv (va_runV (C := R_Opn) (As := [.int (rA x (stC l1 3) (rA x (stC l1 10) l13))]) (rest := []) ⟨hx, hb, hml, hown, hT⟩ (k_Opn_readChunkTold l dC dI cI cB cJ cZ ad NN E tM tC kK kV hNN H.size o (rA x (stC l1 3) (rA x (stC l1 10) l13)) x fo hw) ⟨callB_of 1 hT (gwt_in w_6_145) rfl rfl rfl (hT _ w_1_10) (hT _ w_6_142) (by decide +kernel) ⟨Nat.le_trans (Nat.le_of_ble_eq_true rfl) hRf, Nat.le_trans (Nat.le_of_ble_eq_true rfl) hRl⟩, hT _ w_6_144, hT _ ws_37⟩ ⟨PVc.blind, va_recv hK hW.1 (ci := 7) (q0 := o) rfl (pic_obj fo.1 fo.2 (by decide)), PVc.at _ hW hK hN hE hS hF⟩ rfl rfl hl.1 rfl (lv_room (Nat.le_of_ble_eq_true rfl)) d_Opn_lookAtFooter_185 ⟨hRc, hRs⟩) hS (fun q _ h => hF q h) hF (fun  x12 t H locs ht hvm hw hB hz1 hk1 hS => ?_)
      have hW := Wd.back hB ht hF
      clear hB ht hF hz1 hk1 hvm
      refine lv_lload hx hb d_Opn_lookAtFooter_188 (lv_at hl 4 rfl) ?_
      refine lv_aload_n hx hb d_Opn_lookAtFooter_190 rfl (lv_at hl 0 rfl) ?_
      refine w_getf (q := (stC o 6)) (k := 6) (t := 7) (C := R_Opn) (T := F_Opn) (N := 17) hx hb hT hown hK hW fo.1 fo.2 (by decide) in_Opn rfl rfl (by decide) rfl fr_Opn_6 w_3_22 d_Opn_lookAtFooter_191 rfl ?_
      refine lv_iconst (v := 0) hx hb d_Opn_lookAtFooter_194 (by decide) ?_
      obtain ⟨hi, hw⟩ := hw
      refine w_lald (o := (stC o 6)) hx hb hK hW (st_ty hNN fo.1 fo.2 rfl).1 (st_ty hNN fo.1 fo.2 rfl).2 hi d_Opn_lookAtFooter_195 ?_
      refine lv_ldc2 hx hb hown (hT _ w_6_163) d_Opn_lookAtFooter_196 ?_
      have hF := hW.free hS hA
      refine va_calli (va_runSN (As := [.long (rL x12 (stC o 6) 0), .long 40000]) (rest := [.long l6]) ⟨hx, hb, hml, hown, hT⟩ (k_V_within l dC dI cI cB cJ cZ ad NN E tM tC kK kV hNN H.size (rL x12 (stC o 6) 0) 40000 x12  hw) ⟨va_cnB 2 hT (gwt_in w_6_112) rfl rfl rfl (hN _ wn_6_110 rfl) (hT _ w_1_1) (by decide +kernel) ⟨Nat.le_trans (Nat.le_of_ble_eq_true rfl) hRf, Nat.le_trans (Nat.le_of_ble_eq_true rfl) hRl⟩, hT _ w_6_111, trivial⟩ ⟨PVc.blind, PVc.at _ hW hK hN hE hS hF⟩ rfl rfl hl.1 rfl (lv_room (Nat.le_of_ble_eq_true rfl)) d_Opn_lookAtFooter_199 ⟨hRc, hRs⟩) hS (fun q _ h => hF q h) hF (fun r14 x13 t H locs ht hvm hw hB hz1 hk1 hS => ?_)
      have hW := Wd.back hB ht hF
      clear hB ht hF hz1 hk1 hvm
      refine lv_if_eq (tgt := 214) hx hb d_Opn_lookAtFooter_202 (by decide) (fun c15 => ?_) (fun c15 => ?_)
      · have hw := hw.1 c15
        refine lv_ldc2 hx hb hown (hT _ w_6_163) d_Opn_lookAtFooter_214 ?_
        exact t_Opn_lookAtFooter_217 hx hb hml hown hT hK hN hA hRc hRs hRf hRl hNN hE hret hrec83 hrec153 o l1 l2 l4 l6 l8 l10 l11 l13 40000 l6 x13 H locs ls fo fl1 hw hW hS (lv_sub hl [0, 1, 2, 3, 4, 5, 6, 7, 8] rfl)
      · have hw := hw.2 c15
        refine lv_aload_n hx hb d_Opn_lookAtFooter_205 rfl (lv_at hl 0 rfl) ?_
        refine w_getf (q := (stC o 6)) (k := 6) (t := 7) (C := R_Opn) (T := F_Opn) (N := 17) hx hb hT hown hK hW fo.1 fo.2 (by decide) in_Opn rfl rfl (by decide) rfl fr_Opn_6 w_3_22 d_Opn_lookAtFooter_206 rfl ?_
        refine lv_iconst (v := 0) hx hb d_Opn_lookAtFooter_209 (by decide) ?_
        obtain ⟨hi, hw⟩ := hw
        refine w_lald (o := (stC o 6)) hx hb hK hW (st_ty hNN fo.1 fo.2 rfl).1 (st_ty hNN fo.1 fo.2 rfl).2 hi d_Opn_lookAtFooter_210 ?_
        refine lv_goto (tgt := 217) hx hb d_Opn_lookAtFooter_211 (by decide) ?_
        exact t_Opn_lookAtFooter_217 hx hb hml hown hT hK hN hA hRc hRs hRf hRl hNN hE hret hrec83 hrec153 o l1 l2 l4 l6 l8 l10 l11 l13 (rL x13 (stC o 6) 0) l6 x13 H locs ls fo fl1 hw hW hS (lv_sub hl [0, 1, 2, 3, 4, 5, 6, 7, 8] rfl)
set_option maxHeartbeats 4000000 in
set_option maxRecDepth 100000 in
theorem tl_Opn_lookAtFooter_153 {p : Program} {l : Launch} {e : Env} {R : Room} {s : State} {m : MethodId} {args : Array Value} {below : List Frame} {meth : Method} {c : Code} {cells slots : Nat} {Q : State → Prop} {dC : Nat → ClassId} {dI : Nat → Nat → Nat} {cI cB cJ cZ : ClassId} {A : Nat → Prop} {ad : Nat → Nat} {NN : Nat} {E : Heap} {tM tC : Nat} {kK kV : Nat → Nat} {post : Int32 → St → Prop} {rec83 : Nat → Nat → Int64 → Int64 → Int64 → Int64 → Int32 → St → Prop} (hx : p.tables.exec = Jvm.exec) (hb : c.code = b_Opn_lookAtFooter) (hml : c.maxLocals = 14) (hown : s.vm.findClass R_Opn = some m.cls) (hT : ∀ w ∈ TG, w.before args s = true) (hK : va_K (dC, dI) CL (TY cI cB cJ cZ) s) (hN : NW s) (hA : ∀ q : Nat, s.heap.size ≤ q → A q) (hRc : cells ≤ R.cells) (hRs : slots ≤ R.slots) (hRf : 5 ≤ R.frames) (hRl : 164 ≤ R.locals) (hNN : 152 ≤ NN) (hE : CE E tM tC kK kV A s) (hret : ∀ (r : Int32) (x : St) (H : Heap) (locs : List Loc) (pc : Nat) (ls : Array Slot), decode b_Opn_lookAtFooter pc = .ok (.ireturn, 1) → post r x → Wd dC dI cI cB cJ cZ ad stC kcC NN A x H → va_S A s.heap H locs → W p l e R s m args below meth c H locs cells slots Q (F0 m pc ls [.int r])) (hrec83 : ∀ (o : Nat) (l1 : Nat) (l2 : Int64) (l4 : Int64) (l6 : Int64) (l8 : Int64) (l10 : Int32) (x : St) (H : Heap) (locs : List Loc) (ls : Array Slot), (o < NN ∧ kcC o = 7) → (l1 < NN ∧ kcC l1 = 3) → rec83 o l1 l2 l4 l6 l8 l10 x → Wd dC dI cI cB cJ cZ ad stC kcC NN A x H → va_S A s.heap H locs → lv_has ls 14 [(0, .ref (ad o)), (1, .ref (ad l1)), (2, .long l2), (4, .long l4), (6, .long l6), (8, .long l8), (10, .int l10)] → W p l e R s m args below meth c H locs cells slots Q (F0 m 83 ls [])) : ∀ n : Nat, ∀ (o : Nat) (l1 : Nat) (l2 : Int64) (l4 : Int64) (l6 : Int64) (l8 : Int64) (l10 : Int32) (l11 : Int64) (l13 : Int32) (x : St) (H : Heap) (locs : List Loc) (ls : Array Slot), (o < NN ∧ kcC o = 7) → (l1 < NN ∧ kcC l1 = 3) → wl_Opn_lookAtFooter_153 post rec83 n o l1 l2 l4 l6 l8 l10 l11 l13 x → Wd dC dI cI cB cJ cZ ad stC kcC NN A x H → va_S A s.heap H locs → lv_has ls 14 [(0, .ref (ad o)), (1, .ref (ad l1)), (2, .long l2), (4, .long l4), (6, .long l6), (8, .long l8), (10, .int l10), (11, .long l11), (13, .int l13)] → W p l e R s m args below meth c H locs cells slots Q (F0 m 153 ls []) := by
  intro n
  induction n with
  | zero => intro o l1 l2 l4 l6 l8 l10 l11 l13 x H locs ls fo fl1 hw; exact hw.elim
  | succ n ih => intro o l1 l2 l4 l6 l8 l10 l11 l13 x H locs ls fo fl1 hw hW hS hl; exact t_Opn_lookAtFooter_153 hx hb hml hown hT hK hN hA hRc hRs hRf hRl hNN hE hret hrec83 ih o l1 l2 l4 l6 l8 l10 l11 l13 x H locs ls fo fl1 hw hW hS hl
set_option maxRecDepth 100000 in
set_option maxHeartbeats 4000000 in
set_option maxRecDepth 100000 in
theorem t_Opn_lookAtFooter_138 {p : Program} {l : Launch} {e : Env} {R : Room} {s : State} {m : MethodId} {args : Array Value} {below : List Frame} {meth : Method} {c : Code} {cells slots : Nat} {Q : State → Prop} {dC : Nat → ClassId} {dI : Nat → Nat → Nat} {cI cB cJ cZ : ClassId} {A : Nat → Prop} {ad : Nat → Nat} {NN : Nat} {E : Heap} {tM tC : Nat} {kK kV : Nat → Nat} {post : Int32 → St → Prop} {rec83 : Nat → Nat → Int64 → Int64 → Int64 → Int64 → Int32 → St → Prop} (hx : p.tables.exec = Jvm.exec) (hb : c.code = b_Opn_lookAtFooter) (hml : c.maxLocals = 14) (hown : s.vm.findClass R_Opn = some m.cls) (hT : ∀ w ∈ TG, w.before args s = true) (hK : va_K (dC, dI) CL (TY cI cB cJ cZ) s) (hN : NW s) (hA : ∀ q : Nat, s.heap.size ≤ q → A q) (hRc : cells ≤ R.cells) (hRs : slots ≤ R.slots) (hRf : 5 ≤ R.frames) (hRl : 164 ≤ R.locals) (hNN : 152 ≤ NN) (hE : CE E tM tC kK kV A s) (hret : ∀ (r : Int32) (x : St) (H : Heap) (locs : List Loc) (pc : Nat) (ls : Array Slot), decode b_Opn_lookAtFooter pc = .ok (.ireturn, 1) → post r x → Wd dC dI cI cB cJ cZ ad stC kcC NN A x H → va_S A s.heap H locs → W p l e R s m args below meth c H locs cells slots Q (F0 m pc ls [.int r])) (hrec83 : ∀ (o : Nat) (l1 : Nat) (l2 : Int64) (l4 : Int64) (l6 : Int64) (l8 : Int64) (l10 : Int32) (x : St) (H : Heap) (locs : List Loc) (ls : Array Slot), (o < NN ∧ kcC o = 7) → (l1 < NN ∧ kcC l1 = 3) → rec83 o l1 l2 l4 l6 l8 l10 x → Wd dC dI cI cB cJ cZ ad stC kcC NN A x H → va_S A s.heap H locs → lv_has ls 14 [(0, .ref (ad o)), (1, .ref (ad l1)), (2, .long l2), (4, .long l4), (6, .long l6), (8, .long l8), (10, .int l10)] → W p l e R s m args below meth c H locs cells slots Q (F0 m 83 ls [])) : ∀ (o : Nat) (l1 : Nat) (l2 : Int64) (l4 : Int64) (l6 : Int64) (l8 : Int64) (l10 : Int32) (l11 : Int64) (s0 : Int32) (s1 : Nat) (x : St) (H : Heap) (locs : List Loc) (ls : Array Slot), (o < NN ∧ kcC o = 7) → (l1 < NN ∧ kcC l1 = 3) → (s1 < NN ∧ kcC s1 = 8) → j_Opn_lookAtFooter_138 post rec83 o l1 l2 l4 l6 l8 l10 l11 s0 s1 x → Wd dC dI cI cB cJ cZ ad stC kcC NN A x H → va_S A s.heap H locs → lv_has ls 14 [(0, .ref (ad o)), (1, .ref (ad l1)), (2, .long l2), (4, .long l4), (6, .long l6), (8, .long l8), (10, .int l10), (11, .long l11)] → W p l e R s m args below meth c H locs cells slots Q (F0 m 138 ls [.int s0, .ref (ad s1)]) := by
  intro o l1 l2 l4 l6 l8 l10 l11 s0 s1 x H locs ls fo fl1 fs1 hw hW hS hl
  unfold j_Opn_lookAtFooter_138 at hw
  refine lv_bipush (v := 16) hx hb d_Opn_lookAtFooter_138 (by decide) ?_
  have hF := hW.free hS hA
  refine va_callv (va_runV (C := R_Src) (As := [.int s0, .int 16]) (rest := []) ⟨hx, hb, hml, hown, hT⟩ (k_Src_check l dC dI cI cB cJ cZ ad NN E tM tC kK kV hNN H.size s1 s0 16 x fs1 hw) ⟨callB_of 2 hT (gwt_in w_6_116) rfl rfl rfl (hT _ w_1_11) (hT _ w_6_113) (by decide +kernel) ⟨Nat.le_trans (Nat.le_of_ble_eq_true rfl) hRf, Nat.le_trans (Nat.le_of_ble_eq_true rfl) hRl⟩, hT _ w_6_114, hT _ w_6_115⟩ ⟨PVc.blind, va_recv hK hW.1 (ci := 8) (q0 := s1) rfl (pic_obj fs1.1 fs1.2 (by decide)), PVc.at _ hW hK hN hE hS hF⟩ rfl rfl hl.1 rfl (lv_room (Nat.le_of_ble_eq_true rfl)) d_Opn_lookAtFooter_140 ⟨hRc, hRs⟩) hS (fun q _ h => hF q h) hF (fun  x16 t H locs ht hvm hw hB hz1 hk1 hS => ?_)
  have hW := Wd.back hB ht hF
  clear hB ht hF hz1 hk1 hvm
  refine lv_lload hx hb d_Opn_lookAtFooter_143 (lv_at hl 5 rfl) ?_
  refine lv_lload hx hb d_Opn_lookAtFooter_145 (lv_at hl 7 rfl) ?_
  refine lv_ladd hx hb d_Opn_lookAtFooter_147 ?_
  refine lv_topl (fun v17 ev17 => ?_)
  have hw := hw v17 ev17
  refine lv_lstore (lv' := [(8, .long v17), (0, .ref (ad o)), (1, .ref (ad l1)), (2, .long l2), (4, .long l4), (6, .long l6), (10, .int l10), (11, .long l11)]) hx hb d_Opn_lookAtFooter_148 hl (by decide) rfl (fun ls hl => ?_)
  refine lv_iconst (v := 0) hx hb d_Opn_lookAtFooter_150 (by decide) ?_
  refine lv_istore (lv' := [(13, .int 0), (8, .long v17), (0, .ref (ad o)), (1, .ref (ad l1)), (2, .long l2), (4, .long l4), (6, .long l6), (10, .int l10), (11, .long l11)]) hx hb d_Opn_lookAtFooter_151 hl (by decide) rfl (fun ls hl => ?_)
  obtain ⟨n, hw⟩ := hw
  exact tl_Opn_lookAtFooter_153 hx hb hml hown hT hK hN hA hRc hRs hRf hRl hNN hE hret hrec83 n o l1 l2 l4 l6 v17 l10 l11 0 x16 H locs ls fo fl1 hw hW hS (lv_sub hl [2, 3, 4, 5, 6, 1, 7, 8, 0] rfl)
set_option maxRecDepth 100000 in
set_option maxHeartbeats 4000000 in
set_option maxRecDepth 100000 in
theorem t_Opn_lookAtFooter_137 {p : Program} {l : Launch} {e : Env} {R : Room} {s : State} {m : MethodId} {args : Array Value} {below : List Frame} {meth : Method} {c : Code} {cells slots : Nat} {Q : State → Prop} {dC : Nat → ClassId} {dI : Nat → Nat → Nat} {cI cB cJ cZ : ClassId} {A : Nat → Prop} {ad : Nat → Nat} {NN : Nat} {E : Heap} {tM tC : Nat} {kK kV : Nat → Nat} {post : Int32 → St → Prop} {rec83 : Nat → Nat → Int64 → Int64 → Int64 → Int64 → Int32 → St → Prop} (hx : p.tables.exec = Jvm.exec) (hb : c.code = b_Opn_lookAtFooter) (hml : c.maxLocals = 14) (hown : s.vm.findClass R_Opn = some m.cls) (hT : ∀ w ∈ TG, w.before args s = true) (hK : va_K (dC, dI) CL (TY cI cB cJ cZ) s) (hN : NW s) (hA : ∀ q : Nat, s.heap.size ≤ q → A q) (hRc : cells ≤ R.cells) (hRs : slots ≤ R.slots) (hRf : 5 ≤ R.frames) (hRl : 164 ≤ R.locals) (hNN : 152 ≤ NN) (hE : CE E tM tC kK kV A s) (hret : ∀ (r : Int32) (x : St) (H : Heap) (locs : List Loc) (pc : Nat) (ls : Array Slot), decode b_Opn_lookAtFooter pc = .ok (.ireturn, 1) → post r x → Wd dC dI cI cB cJ cZ ad stC kcC NN A x H → va_S A s.heap H locs → W p l e R s m args below meth c H locs cells slots Q (F0 m pc ls [.int r])) (hrec83 : ∀ (o : Nat) (l1 : Nat) (l2 : Int64) (l4 : Int64) (l6 : Int64) (l8 : Int64) (l10 : Int32) (x : St) (H : Heap) (locs : List Loc) (ls : Array Slot), (o < NN ∧ kcC o = 7) → (l1 < NN ∧ kcC l1 = 3) → rec83 o l1 l2 l4 l6 l8 l10 x → Wd dC dI cI cB cJ cZ ad stC kcC NN A x H → va_S A s.heap H locs → lv_has ls 14 [(0, .ref (ad o)), (1, .ref (ad l1)), (2, .long l2), (4, .long l4), (6, .long l6), (8, .long l8), (10, .int l10)] → W p l e R s m args below meth c H locs cells slots Q (F0 m 83 ls [])) : ∀ (o : Nat) (l1 : Nat) (l2 : Int64) (l4 : Int64) (l6 : Int64) (l8 : Int64) (l10 : Int32) (l11 : Int64) (s0 : Nat) (x : St) (H : Heap) (locs : List Loc) (ls : Array Slot), (o < NN ∧ kcC o = 7) → (l1 < NN ∧ kcC l1 = 3) → (s0 < NN ∧ kcC s0 = 8) → j_Opn_lookAtFooter_137 post rec83 o l1 l2 l4 l6 l8 l10 l11 s0 x → Wd dC dI cI cB cJ cZ ad stC kcC NN A x H → va_S A s.heap H locs → lv_has ls 14 [(0, .ref (ad o)), (1, .ref (ad l1)), (2, .long l2), (4, .long l4), (6, .long l6), (8, .long l8), (10, .int l10), (11, .long l11)] → W p l e R s m args below meth c H locs cells slots Q (F0 m 137 ls [.ref (ad s0)]) := by
  intro o l1 l2 l4 l6 l8 l10 l11 s0 x H locs ls fo fl1 fs0 hw hW hS hl
  unfold j_Opn_lookAtFooter_137 at hw
  refine lv_iconst (v := 0) hx hb d_Opn_lookAtFooter_137 (by decide) ?_
  exact t_Opn_lookAtFooter_138 hx hb hml hown hT hK hN hA hRc hRs hRf hRl hNN hE hret hrec83 o l1 l2 l4 l6 l8 l10 l11 0 s0 x H locs ls fo fl1 fs0 hw hW hS (lv_sub hl [0, 1, 2, 3, 4, 5, 6, 7] rfl)
set_option maxRecDepth 100000 in
set_option maxHeartbeats 4000000 in
set_option maxRecDepth 100000 in
theorem t_Opn_lookAtFooter_83 {p : Program} {l : Launch} {e : Env} {R : Room} {s : State} {m : MethodId} {args : Array Value} {below : List Frame} {meth : Method} {c : Code} {cells slots : Nat} {Q : State → Prop} {dC : Nat → ClassId} {dI : Nat → Nat → Nat} {cI cB cJ cZ : ClassId} {A : Nat → Prop} {ad : Nat → Nat} {NN : Nat} {E : Heap} {tM tC : Nat} {kK kV : Nat → Nat} {post : Int32 → St → Prop} {rec83 : Nat → Nat → Int64 → Int64 → Int64 → Int64 → Int32 → St → Prop} (hx : p.tables.exec = Jvm.exec) (hb : c.code = b_Opn_lookAtFooter) (hml : c.maxLocals = 14) (hown : s.vm.findClass R_Opn = some m.cls) (hT : ∀ w ∈ TG, w.before args s = true) (hK : va_K (dC, dI) CL (TY cI cB cJ cZ) s) (hN : NW s) (hA : ∀ q : Nat, s.heap.size ≤ q → A q) (hRc : cells ≤ R.cells) (hRs : slots ≤ R.slots) (hRf : 5 ≤ R.frames) (hRl : 164 ≤ R.locals) (hNN : 152 ≤ NN) (hE : CE E tM tC kK kV A s) (hret : ∀ (r : Int32) (x : St) (H : Heap) (locs : List Loc) (pc : Nat) (ls : Array Slot), decode b_Opn_lookAtFooter pc = .ok (.ireturn, 1) → post r x → Wd dC dI cI cB cJ cZ ad stC kcC NN A x H → va_S A s.heap H locs → W p l e R s m args below meth c H locs cells slots Q (F0 m pc ls [.int r])) (hrec83 : ∀ (o : Nat) (l1 : Nat) (l2 : Int64) (l4 : Int64) (l6 : Int64) (l8 : Int64) (l10 : Int32) (x : St) (H : Heap) (locs : List Loc) (ls : Array Slot), (o < NN ∧ kcC o = 7) → (l1 < NN ∧ kcC l1 = 3) → rec83 o l1 l2 l4 l6 l8 l10 x → Wd dC dI cI cB cJ cZ ad stC kcC NN A x H → va_S A s.heap H locs → lv_has ls 14 [(0, .ref (ad o)), (1, .ref (ad l1)), (2, .long l2), (4, .long l4), (6, .long l6), (8, .long l8), (10, .int l10)] → W p l e R s m args below meth c H locs cells slots Q (F0 m 83 ls [])) : ∀ (o : Nat) (l1 : Nat) (l2 : Int64) (l4 : Int64) (l6 : Int64) (l8 : Int64) (l10 : Int32) (x : St) (H : Heap) (locs : List Loc) (ls : Array Slot), (o < NN ∧ kcC o = 7) → (l1 < NN ∧ kcC l1 = 3) → j_Opn_lookAtFooter_83 post rec83 o l1 l2 l4 l6 l8 l10 x → Wd dC dI cI cB cJ cZ ad stC kcC NN A x H → va_S A s.heap H locs → lv_has ls 14 [(0, .ref (ad o)), (1, .ref (ad l1)), (2, .long l2), (4, .long l4), (6, .long l6), (8, .long l8), (10, .int l10)] → W p l e R s m args below meth c H locs cells slots Q (F0 m 83 ls []) := by
  intro o l1 l2 l4 l6 l8 l10 x H locs ls fo fl1 hw hW hS hl
  unfold j_Opn_lookAtFooter_83 at hw
  refine lv_iload hx hb d_Opn_lookAtFooter_83 (lv_at hl 6 rfl) ?_
  refine lv_i2l hx hb d_Opn_lookAtFooter_85 rfl ?_
  refine lv_lload hx hb d_Opn_lookAtFooter_86 (lv_at hl 3 rfl) ?_
  refine W.lcmp hx hb d_Opn_lookAtFooter_88 ?_
  refine lv_if_ge (tgt := 232) hx hb d_Opn_lookAtFooter_89 (by decide) (fun c18 => ?_) (fun c18 => ?_)
  · have hw := hw.1 c18
    exact t_Opn_lookAtFooter_232 hx hb hml hown hT hK hN hA hRc hRs hRf hRl hNN hE hret  o l1 l2 l4 l6 l8 l10 x H locs ls fo fl1 hw hW hS (lv_sub hl [0, 1, 2, 3, 4, 5, 6] rfl)
  · have hw := hw.2 c18
    refine lv_aload_n hx hb d_Opn_lookAtFooter_92 rfl (lv_at hl 0 rfl) ?_
    refine w_getf (q := (stC o 1)) (k := 1) (t := 7) (C := R_Opn) (T := F_Opn) (N := 17) hx hb hT hown hK hW fo.1 fo.2 (by decide) in_Opn rfl rfl (by decide) rfl fr_Opn_1 w_3_16 d_Opn_lookAtFooter_93 rfl ?_
    refine w_geti (k := 3) (t := 8) (C := R_Src) (T := F_Src) (N := 5) hx hb hT hown hK hW (st_ty hNN fo.1 fo.2 rfl).1 (st_ty hNN fo.1 fo.2 rfl).2 (by decide) in_Src rfl rfl (by decide) rfl fr_Src_3 w_3_2 d_Opn_lookAtFooter_96 ?_
    refine lv_if_ne (tgt := 232) hx hb d_Opn_lookAtFooter_99 (by decide) (fun c19 => ?_) (fun c19 => ?_)
    · have hw := hw.1 c19
      exact t_Opn_lookAtFooter_232 hx hb hml hown hT hK hN hA hRc hRs hRf hRl hNN hE hret  o l1 l2 l4 l6 l8 l10 x H locs ls fo fl1 hw hW hS (lv_sub hl [0, 1, 2, 3, 4, 5, 6] rfl)
    · have hw := hw.2 c19
      refine lv_aload_n hx hb d_Opn_lookAtFooter_102 rfl (lv_at hl 0 rfl) ?_
      refine w_getf (q := (stC o 1)) (k := 1) (t := 7) (C := R_Opn) (T := F_Opn) (N := 17) hx hb hT hown hK hW fo.1 fo.2 (by decide) in_Opn rfl rfl (by decide) rfl fr_Opn_1 w_3_16 d_Opn_lookAtFooter_103 rfl ?_
      have hF := hW.free hS hA
      refine va_calll (va_runV (C := R_Src) (As := []) (rest := []) ⟨hx, hb, hml, hown, hT⟩ (k_Src_readVarint l dC dI cI cB cJ cZ ad NN E tM tC kK kV hNN H.size (stC o 1) x (st_ty hNN fo.1 fo.2 rfl) hw) ⟨callB_of 0 hT (gwt_in w_6_108) rfl rfl rfl (hT _ w_1_11) (hT _ w_6_105) (by decide +kernel) ⟨Nat.le_trans (Nat.le_of_ble_eq_true rfl) hRf, Nat.le_trans (Nat.le_of_ble_eq_true rfl) hRl⟩, hT _ w_6_106, hT _ w_6_107⟩ ⟨PVc.blind, va_recv hK hW.1 (ci := 8) (q0 := (stC o 1)) rfl (pic_obj (st_ty hNN fo.1 fo.2 rfl).1 (st_ty hNN fo.1 fo.2 rfl).2 (by decide)), PVc.at _ hW hK hN hE hS hF⟩ rfl rfl hl.1 rfl (lv_room (Nat.le_of_ble_eq_true rfl)) d_Opn_lookAtFooter_106 ⟨hRc, hRs⟩) hS (fun q _ h => hF q h) hF (fun r21 x20 t H locs ht hvm hw hB hz1 hk1 hS => ?_)
      have hW := Wd.back hB ht hF
      clear hB ht hF hz1 hk1 hvm
      refine lv_lstore (lv' := [(11, .long r21), (0, .ref (ad o)), (1, .ref (ad l1)), (2, .long l2), (4, .long l4), (6, .long l6), (8, .long l8), (10, .int l10)]) hx hb d_Opn_lookAtFooter_109 hl (by decide) rfl (fun ls hl => ?_)
      refine lv_aload_n hx hb d_Opn_lookAtFooter_111 rfl (lv_at hl 1 rfl) ?_
      refine w_getf (q := (stC o 1)) (k := 1) (t := 7) (C := R_Opn) (T := F_Opn) (N := 17) hx hb hT hown hK hW fo.1 fo.2 (by decide) in_Opn rfl rfl (by decide) rfl fr_Opn_1 w_3_16 d_Opn_lookAtFooter_112 rfl ?_
      refine lv_lload hx hb d_Opn_lookAtFooter_115 (lv_at hl 0 rfl) ?_
      refine lv_lconst (v := 0) hx hb d_Opn_lookAtFooter_117 (by decide) ?_
      refine W.lcmp hx hb d_Opn_lookAtFooter_118 ?_
      refine lv_if_eq (tgt := 137) hx hb d_Opn_lookAtFooter_119 (by decide) (fun c22 => ?_) (fun c22 => ?_)
      · have hw := hw.1 c22
        exact t_Opn_lookAtFooter_137 hx hb hml hown hT hK hN hA hRc hRs hRf hRl hNN hE hret hrec83 o l1 l2 l4 l6 l8 l10 r21 (stC o 1) x20 H locs ls fo fl1 (st_ty hNN fo.1 fo.2 rfl) hw hW hS (lv_sub hl [1, 2, 3, 4, 5, 6, 7, 0] rfl)
      · have hw := hw.2 c22
        refine lv_lload hx hb d_Opn_lookAtFooter_122 (lv_at hl 0 rfl) ?_
        refine lv_ldc2 hx hb hown (hT _ w_6_140) d_Opn_lookAtFooter_124 ?_
        have hF := hW.free hS hA
        refine va_calli (va_runSN (As := [.long r21, .long 2000]) (rest := [.ref (ad (stC o 1))]) ⟨hx, hb, hml, hown, hT⟩ (k_V_within l dC dI cI cB cJ cZ ad NN E tM tC kK kV hNN H.size r21 2000 x20  hw) ⟨va_cnB 2 hT (gwt_in w_6_112) rfl rfl rfl (hN _ wn_6_110 rfl) (hT _ w_1_1) (by decide +kernel) ⟨Nat.le_trans (Nat.le_of_ble_eq_true rfl) hRf, Nat.le_trans (Nat.le_of_ble_eq_true rfl) hRl⟩, hT _ w_6_111, trivial⟩ ⟨PVc.blind, PVc.at _ hW hK hN hE hS hF⟩ rfl rfl hl.1 rfl (lv_room (Nat.le_of_ble_eq_true rfl)) d_Opn_lookAtFooter_127 ⟨hRc, hRs⟩) hS (fun q _ h => hF q h) hF (fun r24 x23 t H locs ht hvm hw hB hz1 hk1 hS => ?_)
        have hW := Wd.back hB ht hF
        clear hB ht hF hz1 hk1 hvm
        refine lv_if_eq (tgt := 137) hx hb d_Opn_lookAtFooter_130 (by decide) (fun c25 => ?_) (fun c25 => ?_)
        · have hw := hw.1 c25
          exact t_Opn_lookAtFooter_137 hx hb hml hown hT hK hN hA hRc hRs hRf hRl hNN hE hret hrec83 o l1 l2 l4 l6 l8 l10 r21 (stC o 1) x23 H locs ls fo fl1 (st_ty hNN fo.1 fo.2 rfl) hw hW hS (lv_sub hl [1, 2, 3, 4, 5, 6, 7, 0] rfl)
        · have hw := hw.2 c25
          refine lv_iconst (v := 1) hx hb d_Opn_lookAtFooter_133 (by decide) ?_
          refine lv_goto (tgt := 138) hx hb d_Opn_lookAtFooter_134 (by decide) ?_
          exact t_Opn_lookAtFooter_138 hx hb hml hown hT hK hN hA hRc hRs hRf hRl hNN hE hret hrec83 o l1 l2 l4 l6 l8 l10 r21 1 (stC o 1) x23 H locs ls fo fl1 (st_ty hNN fo.1 fo.2 rfl) hw hW hS (lv_sub hl [1, 2, 3, 4, 5, 6, 7, 0] rfl)
set_option maxHeartbeats 4000000 in
set_option maxRecDepth 100000 in
theorem tl_Opn_lookAtFooter_83 {p : Program} {l : Launch} {e : Env} {R : Room} {s : State} {m : MethodId} {args : Array Value} {below : List Frame} {meth : Method} {c : Code} {cells slots : Nat} {Q : State → Prop} {dC : Nat → ClassId} {dI : Nat → Nat → Nat} {cI cB cJ cZ : ClassId} {A : Nat → Prop} {ad : Nat → Nat} {NN : Nat} {E : Heap} {tM tC : Nat} {kK kV : Nat → Nat} {post : Int32 → St → Prop} (hx : p.tables.exec = Jvm.exec) (hb : c.code = b_Opn_lookAtFooter) (hml : c.maxLocals = 14) (hown : s.vm.findClass R_Opn = some m.cls) (hT : ∀ w ∈ TG, w.before args s = true) (hK : va_K (dC, dI) CL (TY cI cB cJ cZ) s) (hN : NW s) (hA : ∀ q : Nat, s.heap.size ≤ q → A q) (hRc : cells ≤ R.cells) (hRs : slots ≤ R.slots) (hRf : 5 ≤ R.frames) (hRl : 164 ≤ R.locals) (hNN : 152 ≤ NN) (hE : CE E tM tC kK kV A s) (hret : ∀ (r : Int32) (x : St) (H : Heap) (locs : List Loc) (pc : Nat) (ls : Array Slot), decode b_Opn_lookAtFooter pc = .ok (.ireturn, 1) → post r x → Wd dC dI cI cB cJ cZ ad stC kcC NN A x H → va_S A s.heap H locs → W p l e R s m args below meth c H locs cells slots Q (F0 m pc ls [.int r]))  : ∀ n : Nat, ∀ (o : Nat) (l1 : Nat) (l2 : Int64) (l4 : Int64) (l6 : Int64) (l8 : Int64) (l10 : Int32) (x : St) (H : Heap) (locs : List Loc) (ls : Array Slot), (o < NN ∧ kcC o = 7) → (l1 < NN ∧ kcC l1 = 3) → wl_Opn_lookAtFooter_83 post n o l1 l2 l4 l6 l8 l10 x → Wd dC dI cI cB cJ cZ ad stC kcC NN A x H → va_S A s.heap H locs → lv_has ls 14 [(0, .ref (ad o)), (1, .ref (ad l1)), (2, .long l2), (4, .long l4), (6, .long l6), (8, .long l8), (10, .int l10)] → W p l e R s m args below meth c H locs cells slots Q (F0 m 83 ls []) := by
  intro n
  induction n with
  | zero => intro o l1 l2 l4 l6 l8 l10 x H locs ls fo fl1 hw; exact hw.elim
  | succ n ih => intro o l1 l2 l4 l6 l8 l10 x H locs ls fo fl1 hw hW hS hl; exact t_Opn_lookAtFooter_83 hx hb hml hown hT hK hN hA hRc hRs hRf hRl hNN hE hret  ih o l1 l2 l4 l6 l8 l10 x H locs ls fo fl1 hw hW hS hl
set_option maxRecDepth 100000 in
set_option maxHeartbeats 4000000 in
set_option maxRecDepth 100000 in
theorem t_Opn_lookAtFooter_e {p : Program} {l : Launch} {e : Env} {R : Room} {s : State} {m : MethodId} {args : Array Value} {below : List Frame} {meth : Method} {c : Code} {cells slots : Nat} {Q : State → Prop} {dC : Nat → ClassId} {dI : Nat → Nat → Nat} {cI cB cJ cZ : ClassId} {A : Nat → Prop} {ad : Nat → Nat} {NN : Nat} {E : Heap} {tM tC : Nat} {kK kV : Nat → Nat} {post : Int32 → St → Prop} (hx : p.tables.exec = Jvm.exec) (hb : c.code = b_Opn_lookAtFooter) (hml : c.maxLocals = 14) (hown : s.vm.findClass R_Opn = some m.cls) (hT : ∀ w ∈ TG, w.before args s = true) (hK : va_K (dC, dI) CL (TY cI cB cJ cZ) s) (hN : NW s) (hA : ∀ q : Nat, s.heap.size ≤ q → A q) (hRc : cells ≤ R.cells) (hRs : slots ≤ R.slots) (hRf : 5 ≤ R.frames) (hRl : 164 ≤ R.locals) (hNN : 152 ≤ NN) (hE : CE E tM tC kK kV A s) (hret : ∀ (r : Int32) (x : St) (H : Heap) (locs : List Loc) (pc : Nat) (ls : Array Slot), decode b_Opn_lookAtFooter pc = .ok (.ireturn, 1) → post r x → Wd dC dI cI cB cJ cZ ad stC kcC NN A x H → va_S A s.heap H locs → W p l e R s m args below meth c H locs cells slots Q (F0 m pc ls [.int r])) : ∀ (o : Nat) (x : St) (H : Heap) (locs : List Loc) (ls : Array Slot), (o < NN ∧ kcC o = 7) → wp_Opn_lookAtFooter post o x → Wd dC dI cI cB cJ cZ ad stC kcC NN A x H → va_S A s.heap H locs → lv_has ls 14 [(0, .ref (ad o))] → W p l e R s m args below meth c H locs cells slots Q (F0 m 0 ls []) := by
  intro o x H locs ls fo hw hW hS hl
  unfold wp_Opn_lookAtFooter at hw
  refine lv_aload_n hx hb d_Opn_lookAtFooter_0 rfl (lv_at hl 0 rfl) ?_
  refine w_getf (q := (stC o 0)) (k := 0) (t := 7) (C := R_Opn) (T := F_Opn) (N := 17) hx hb hT hown hK hW fo.1 fo.2 (by decide) in_Opn rfl rfl (by decide) rfl fr_Opn_0 w_3_15 d_Opn_lookAtFooter_1 rfl ?_
  refine w_getf (q := (stC (stC o 0) 5)) (k := 5) (t := 6) (C := R_Vlt) (T := F_Vlt) (N := 20) hx hb hT hown hK hW (st_ty hNN fo.1 fo.2 rfl).1 (st_ty hNN fo.1 fo.2 rfl).2 (by decide) in_Vlt rfl rfl (by decide) rfl fr_Vlt_5 w_2_136 d_Opn_lookAtFooter_4 rfl ?_
  refine lv_astore_n (lv' := [(1, .ref (ad (stC (stC o 0) 5))), (0, .ref (ad o))]) hx hb d_Opn_lookAtFooter_7 rfl hl (by decide) rfl (fun ls hl => ?_)
  refine lv_aload_n hx hb d_Opn_lookAtFooter_8 rfl (lv_at hl 1 rfl) ?_
  refine lv_aload_n hx hb d_Opn_lookAtFooter_9 rfl (lv_at hl 0 rfl) ?_
  have hF := hW.free hS hA
  refine va_callv (va_runV (C := R_Opn) (As := [.ref (ad (stC (stC o 0) 5))]) (rest := []) ⟨hx, hb, hml, hown, hT⟩ (k_Opn_readSchema l dC dI cI cB cJ cZ ad NN E tM tC kK kV hNN H.size o (stC (stC o 0) 5) x fo (st_ty hNN (st_ty hNN fo.1 fo.2 rfl).1 (st_ty hNN fo.1 fo.2 rfl).2 rfl) hw) ⟨callB_of 1 hT (gwt_in w_6_103) rfl rfl rfl (hT _ w_1_10) (hT _ w_6_100) (by decide +kernel) ⟨Nat.le_trans (Nat.le_of_ble_eq_true rfl) hRf, Nat.le_trans (Nat.le_of_ble_eq_true rfl) hRl⟩, hT _ w_6_102, hT _ ws_34⟩ ⟨PVc.blind, va_recv hK hW.1 (ci := 7) (q0 := o) rfl (pic_obj fo.1 fo.2 (by decide)), PVc.at _ hW hK hN hE hS hF⟩ rfl rfl hl.1 rfl (lv_room (Nat.le_of_ble_eq_true rfl)) d_Opn_lookAtFooter_10 ⟨hRc, hRs⟩) hS (fun q _ h => hF q h) hF (fun  x26 t H locs ht hvm hw hB hz1 hk1 hS => ?_)
  have hW := Wd.back hB ht hF
  clear hB ht hF hz1 hk1 hvm
  refine lv_aload_n hx hb d_Opn_lookAtFooter_13 rfl (lv_at hl 1 rfl) ?_
  refine w_getf (q := (stC o 1)) (k := 1) (t := 7) (C := R_Opn) (T := F_Opn) (N := 17) hx hb hT hown hK hW fo.1 fo.2 (by decide) in_Opn rfl rfl (by decide) rfl fr_Opn_1 w_3_16 d_Opn_lookAtFooter_14 rfl ?_
  have hF := hW.free hS hA
  refine va_calll (va_runV (C := R_Src) (As := []) (rest := []) ⟨hx, hb, hml, hown, hT⟩ (k_Src_readVarint l dC dI cI cB cJ cZ ad NN E tM tC kK kV hNN H.size (stC o 1) x26 (st_ty hNN fo.1 fo.2 rfl) hw) ⟨callB_of 0 hT (gwt_in w_6_108) rfl rfl rfl (hT _ w_1_11) (hT _ w_6_105) (by decide +kernel) ⟨Nat.le_trans (Nat.le_of_ble_eq_true rfl) hRf, Nat.le_trans (Nat.le_of_ble_eq_true rfl) hRl⟩, hT _ w_6_106, hT _ w_6_107⟩ ⟨PVc.blind, va_recv hK hW.1 (ci := 8) (q0 := (stC o 1)) rfl (pic_obj (st_ty hNN fo.1 fo.2 rfl).1 (st_ty hNN fo.1 fo.2 rfl).2 (by decide)), PVc.at _ hW hK hN hE hS hF⟩ rfl rfl hl.1 rfl (lv_room (Nat.le_of_ble_eq_true rfl)) d_Opn_lookAtFooter_17 ⟨hRc, hRs⟩) hS (fun q _ h => hF q h) hF (fun r28 x27 t H locs ht hvm hw hB hz1 hk1 hS => ?_)
  have hW := Wd.back hB ht hF
  clear hB ht hF hz1 hk1 hvm
  refine lv_lstore_n (lv' := [(2, .long r28), (1, .ref (ad (stC (stC o 0) 5))), (0, .ref (ad o))]) hx hb d_Opn_lookAtFooter_20 rfl hl (by decide) rfl (fun ls hl => ?_)
  refine lv_aload_n hx hb d_Opn_lookAtFooter_21 rfl (lv_at hl 2 rfl) ?_
  refine w_getf (q := (stC o 1)) (k := 1) (t := 7) (C := R_Opn) (T := F_Opn) (N := 17) hx hb hT hown hK hW fo.1 fo.2 (by decide) in_Opn rfl rfl (by decide) rfl fr_Opn_1 w_3_16 d_Opn_lookAtFooter_22 rfl ?_
  refine lv_lload_n hx hb d_Opn_lookAtFooter_25 rfl (lv_at hl 0 rfl) ?_
  refine lv_ldc2 hx hb hown (hT _ w_6_140) d_Opn_lookAtFooter_26 ?_
  have hF := hW.free hS hA
  refine va_calli (va_runSN (As := [.long r28, .long 2000]) (rest := [.ref (ad (stC o 1))]) ⟨hx, hb, hml, hown, hT⟩ (k_V_within l dC dI cI cB cJ cZ ad NN E tM tC kK kV hNN H.size r28 2000 x27  hw) ⟨va_cnB 2 hT (gwt_in w_6_112) rfl rfl rfl (hN _ wn_6_110 rfl) (hT _ w_1_1) (by decide +kernel) ⟨Nat.le_trans (Nat.le_of_ble_eq_true rfl) hRf, Nat.le_trans (Nat.le_of_ble_eq_true rfl) hRl⟩, hT _ w_6_111, trivial⟩ ⟨PVc.blind, PVc.at _ hW hK hN hE hS hF⟩ rfl rfl hl.1 rfl (lv_room (Nat.le_of_ble_eq_true rfl)) d_Opn_lookAtFooter_29 ⟨hRc, hRs⟩) hS (fun q _ h => hF q h) hF (fun r30 x29 t H locs ht hvm hw hB hz1 hk1 hS => ?_)
  have hW := Wd.back hB ht hF
  clear hB ht hF hz1 hk1 hvm
  refine lv_bipush (v := 16) hx hb d_Opn_lookAtFooter_32 (by decide) ?_
  have hF := hW.free hS hA
  refine va_callv (va_runV (C := R_Src) (As := [.int r30, .int 16]) (rest := []) ⟨hx, hb, hml, hown, hT⟩ (k_Src_check l dC dI cI cB cJ cZ ad NN E tM tC kK kV hNN H.size (stC o 1) r30 16 x29 (st_ty hNN fo.1 fo.2 rfl) hw) ⟨callB_of 2 hT (gwt_in w_6_116) rfl rfl rfl (hT _ w_1_11) (hT _ w_6_113) (by decide +kernel) ⟨Nat.le_trans (Nat.le_of_ble_eq_true rfl) hRf, Nat.le_trans (Nat.le_of_ble_eq_true rfl) hRl⟩, hT _ w_6_114, hT _ w_6_115⟩ ⟨PVc.blind, va_recv hK hW.1 (ci := 8) (q0 := (stC o 1)) rfl (pic_obj (st_ty hNN fo.1 fo.2 rfl).1 (st_ty hNN fo.1 fo.2 rfl).2 (by decide)), PVc.at _ hW hK hN hE hS hF⟩ rfl rfl hl.1 rfl (lv_room (Nat.le_of_ble_eq_true rfl)) d_Opn_lookAtFooter_34 ⟨hRc, hRs⟩) hS (fun q _ h => hF q h) hF (fun  x31 t H locs ht hvm hw hB hz1 hk1 hS => ?_)
  have hW := Wd.back hB ht hF
  clear hB ht hF hz1 hk1 hvm
  refine lv_aload_n hx hb d_Opn_lookAtFooter_37 rfl (lv_at hl 2 rfl) ?_
  refine w_getf (q := (stC o 1)) (k := 1) (t := 7) (C := R_Opn) (T := F_Opn) (N := 17) hx hb hT hown hK hW fo.1 fo.2 (by decide) in_Opn rfl rfl (by decide) rfl fr_Opn_1 w_3_16 d_Opn_lookAtFooter_38 rfl ?_
  have hF := hW.free hS hA
  refine va_calll (va_runV (C := R_Src) (As := []) (rest := []) ⟨hx, hb, hml, hown, hT⟩ (k_Src_readVarint l dC dI cI cB cJ cZ ad NN E tM tC kK kV hNN H.size (stC o 1) x31 (st_ty hNN fo.1 fo.2 rfl) hw) ⟨callB_of 0 hT (gwt_in w_6_108) rfl rfl rfl (hT _ w_1_11) (hT _ w_6_105) (by decide +kernel) ⟨Nat.le_trans (Nat.le_of_ble_eq_true rfl) hRf, Nat.le_trans (Nat.le_of_ble_eq_true rfl) hRl⟩, hT _ w_6_106, hT _ w_6_107⟩ ⟨PVc.blind, va_recv hK hW.1 (ci := 8) (q0 := (stC o 1)) rfl (pic_obj (st_ty hNN fo.1 fo.2 rfl).1 (st_ty hNN fo.1 fo.2 rfl).2 (by decide)), PVc.at _ hW hK hN hE hS hF⟩ rfl rfl hl.1 rfl (lv_room (Nat.le_of_ble_eq_true rfl)) d_Opn_lookAtFooter_41 ⟨hRc, hRs⟩) hS (fun q _ h => hF q h) hF (fun r33 x32 t H locs ht hvm hw hB hz1 hk1 hS => ?_)
  have hW := Wd.back hB ht hF
  clear hB ht hF hz1 hk1 hvm
  refine lv_lstore (lv' := [(4, .long r33), (2, .long r28), (1, .ref (ad (stC (stC o 0) 5))), (0, .ref (ad o))]) hx hb d_Opn_lookAtFooter_44 hl (by decide) rfl (fun ls hl => ?_)
  refine lv_aload_n hx hb d_Opn_lookAtFooter_46 rfl (lv_at hl 3 rfl) ?_
  refine w_getf (q := (stC o 1)) (k := 1) (t := 7) (C := R_Opn) (T := F_Opn) (N := 17) hx hb hT hown hK hW fo.1 fo.2 (by decide) in_Opn rfl rfl (by decide) rfl fr_Opn_1 w_3_16 d_Opn_lookAtFooter_47 rfl ?_
  refine lv_lload hx hb d_Opn_lookAtFooter_50 (lv_at hl 0 rfl) ?_
  refine lv_ldc2 hx hb hown (hT _ w_6_141) d_Opn_lookAtFooter_52 ?_
  have hF := hW.free hS hA
  refine va_calli (va_runSN (As := [.long r33, .long 500]) (rest := [.ref (ad (stC o 1))]) ⟨hx, hb, hml, hown, hT⟩ (k_V_within l dC dI cI cB cJ cZ ad NN E tM tC kK kV hNN H.size r33 500 x32  hw) ⟨va_cnB 2 hT (gwt_in w_6_112) rfl rfl rfl (hN _ wn_6_110 rfl) (hT _ w_1_1) (by decide +kernel) ⟨Nat.le_trans (Nat.le_of_ble_eq_true rfl) hRf, Nat.le_trans (Nat.le_of_ble_eq_true rfl) hRl⟩, hT _ w_6_111, trivial⟩ ⟨PVc.blind, PVc.at _ hW hK hN hE hS hF⟩ rfl rfl hl.1 rfl (lv_room (Nat.le_of_ble_eq_true rfl)) d_Opn_lookAtFooter_55 ⟨hRc, hRs⟩) hS (fun q _ h => hF q h) hF (fun r35 x34 t H locs ht hvm hw hB hz1 hk1 hS => ?_)
  have hW := Wd.back hB ht hF
  clear hB ht hF hz1 hk1 hvm
  refine lv_bipush (v := 16) hx hb d_Opn_lookAtFooter_58 (by decide) ?_
  have hF := hW.free hS hA
  refine va_callv (va_runV (C := R_Src) (As := [.int r35, .int 16]) (rest := []) ⟨hx, hb, hml, hown, hT⟩ (k_Src_check l dC dI cI cB cJ cZ ad NN E tM tC kK kV hNN H.size (stC o 1) r35 16 x34 (st_ty hNN fo.1 fo.2 rfl) hw) ⟨callB_of 2 hT (gwt_in w_6_116) rfl rfl rfl (hT _ w_1_11) (hT _ w_6_113) (by decide +kernel) ⟨Nat.le_trans (Nat.le_of_ble_eq_true rfl) hRf, Nat.le_trans (Nat.le_of_ble_eq_true rfl) hRl⟩, hT _ w_6_114, hT _ w_6_115⟩ ⟨PVc.blind, va_recv hK hW.1 (ci := 8) (q0 := (stC o 1)) rfl (pic_obj (st_ty hNN fo.1 fo.2 rfl).1 (st_ty hNN fo.1 fo.2 rfl).2 (by decide)), PVc.at _ hW hK hN hE hS hF⟩ rfl rfl hl.1 rfl (lv_room (Nat.le_of_ble_eq_true rfl)) d_Opn_lookAtFooter_60 ⟨hRc, hRs⟩) hS (fun q _ h => hF q h) hF (fun  x36 t H locs ht hvm hw hB hz1 hk1 hS => ?_)
  have hW := Wd.back hB ht hF
  clear hB ht hF hz1 hk1 hvm
  refine lv_aload_n hx hb d_Opn_lookAtFooter_63 rfl (lv_at hl 3 rfl) ?_
  refine lv_aload_n hx hb d_Opn_lookAtFooter_64 rfl (lv_at hl 3 rfl) ?_
  refine w_getf (q := (stC o 1)) (k := 1) (t := 7) (C := R_Opn) (T := F_Opn) (N := 17) hx hb hT hown hK hW fo.1 fo.2 (by decide) in_Opn rfl rfl (by decide) rfl fr_Opn_1 w_3_16 d_Opn_lookAtFooter_65 rfl ?_
  refine w_geti (k := 1) (t := 8) (C := R_Src) (T := F_Src) (N := 5) hx hb hT hown hK hW (st_ty hNN fo.1 fo.2 rfl).1 (st_ty hNN fo.1 fo.2 rfl).2 (by decide) in_Src rfl rfl (by decide) rfl fr_Src_1 w_2_238 d_Opn_lookAtFooter_68 ?_
  refine w_puti (ty := .int) (k := 5) (t := 7) (C := R_Opn) (T := F_Opn) (N := 17) hx hb hT hown hK hW hS fo.1 fo.2 (by decide) in_Opn t_Opn t_Opn_ok n_Opn rfl rfl (by decide) rfl fr_Opn_5 w_3_21 (by decide +kernel) rfl rfl d_Opn_lookAtFooter_71 (fun H locs hW hS => ?_)
  obtain ⟨x37, ex37⟩ : ∃ y : St, y = setI x36 o 5 (fI x36 (stC o 1) 1) := ⟨_, rfl⟩
  rw [← ex37] at hW
  have hw := hw x37 ex37
  refine lv_lconst (v := 0) hx hb d_Opn_lookAtFooter_74 (by decide) ?_
  refine lv_lstore (lv' := [(6, .long 0), (4, .long r33), (2, .long r28), (1, .ref (ad (stC (stC o 0) 5))), (0, .ref (ad o))]) hx hb d_Opn_lookAtFooter_75 hl (by decide) rfl (fun ls hl => ?_)
  refine lv_lconst (v := 0) hx hb d_Opn_lookAtFooter_77 (by decide) ?_
  refine lv_lstore (lv' := [(8, .long 0), (6, .long 0), (4, .long r33), (2, .long r28), (1, .ref (ad (stC (stC o 0) 5))), (0, .ref (ad o))]) hx hb d_Opn_lookAtFooter_78 hl (by decide) rfl (fun ls hl => ?_)
  refine lv_iconst (v := 0) hx hb d_Opn_lookAtFooter_80 (by decide) ?_
  refine lv_istore (lv' := [(10, .int 0), (8, .long 0), (6, .long 0), (4, .long r33), (2, .long r28), (1, .ref (ad (stC (stC o 0) 5))), (0, .ref (ad o))]) hx hb d_Opn_lookAtFooter_81 hl (by decide) rfl (fun ls hl => ?_)
  obtain ⟨n, hw⟩ := hw
  exact tl_Opn_lookAtFooter_83 hx hb hml hown hT hK hN hA hRc hRs hRf hRl hNN hE hret  n o (stC (stC o 0) 5) r28 r33 0 0 0 x37 H locs ls fo (st_ty hNN (st_ty hNN fo.1 fo.2 rfl).1 (st_ty hNN fo.1 fo.2 rfl).2 rfl) hw hW hS (lv_sub hl [6, 5, 4, 3, 2, 1, 0] rfl)
set_option maxHeartbeats 4000000 in
set_option maxRecDepth 100000 in
theorem k_Opn_lookAtFooter (l : Launch) (dC : Nat → ClassId) (dI : Nat → Nat → Nat) (cI cB cJ cZ : ClassId) (ad : Nat → Nat) (NN : Nat) (E : Heap) (tM tC : Nat) (kK kV : Nat → Nat) (hNN : 152 ≤ NN) (sz : Nat) (o : Nat) (x : St) (fo : o < NN ∧ kcC o = 7) {post : Int32 → St → Prop} (hw : wp_Opn_lookAtFooter post o x) : Met l y_Opn_lookAtFooter (wsOf y_Opn_lookAtFooter b_Opn_lookAtFooter 14 (some (.int))) ({ frames := 5, cells := 0, slots := 0, locals := 164 }) (va_Pc [.ref (ad o)] (PVc dC dI cI cB cJ cZ ad stC kcC NN E tM tC kK kV sz x)) (va_Qi (fun (r : Int32) (y : St) => post r y) (fun y t => Wd dC dI cI cB cJ cZ ad stC kcC NN (va_A (pic ad stC kcC NN cI cB cJ cZ x) sz) y t.heap) (va_A (pic ad stC kcC NN cI cB cJ cZ x) sz)) 0 0 (va_A (pic ad stC kcC NN cI cB cJ cZ x) sz) := by
  refine Met.ofW (cc := b_Opn_lookAtFooter) (maxL := 14) (ret := some (.int)) (by decide) rfl ?_
  intro p e s m args below meth c s₁ B hml hv
  obtain ⟨rfl, ⟨hsz, hW0, hK, hN⟩, hE⟩ := hv
  have hx := B.exec
  have hb := B.bytes
  have hr := B.returns
  have hts := atoms_spec B.pre
  have hT : ∀ w ∈ TG, w.before _ s = true := fun w h => hts w (List.mem_cons_of_mem _ h)
  have hown : s.vm.findClass R_Opn = some m.cls := findClass_of_methodNamed B.named
  have hlocks := B.notSynchronized
  subst hsz
  have hW : Wd dC dI cI cB cJ cZ ad stC kcC NN (va_A (pic ad stC kcC NN cI cB cJ cZ x) s.heap.size) x s.heap := ⟨hW0.1, hW0.2.1.self (sz := s.heap.size), hW0.2.2⟩
  generalize hAe : va_A (pic ad stC kcC NN cI cB cJ cZ x) s.heap.size = A at hW hE ⊢
  have hA : ∀ q : Nat, s.heap.size ≤ q → A q := fun q h => by rw [← hAe]; exact Or.inr h
  have hS : va_S A s.heap s.heap [] := va_S.rf
  have hl := lv_entry ([.ref (ad o)]) (n := 14) (Nat.le_of_ble_eq_true rfl)
  rw [lg_entry_eq]
  generalize (lg_sl ([.ref (ad o)]) ++ List.replicate (14 - (lg_sl ([.ref (ad o)])).length) Slot.unset).toArray = ls at hl ⊢
  have hl : lv_has ls 14 [(0, .ref (ad o))] := hl
  exact t_Opn_lookAtFooter_e hx hb hml hown hT hK hN hA (Nat.le_refl 0) (Nat.le_refl 0) (Nat.le_refl 5) (Nat.le_refl 164) hNN hE (fun r x H locs pc ls hd hp hW hS => W.iret (v := r) hx hb hr (fun t ht hM => ⟨⟨r, x, rfl, hp, Wd.back hW ht.symm (fun _ z => z)⟩, hS.F ht⟩) hS.2.2 hd hlocks)  o x _ _ ls fo hw hW hS hl
end
