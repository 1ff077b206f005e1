theorem fr_Opn_16 : F_Opn 16 = (R_Opn, "allTexts", "I", false) := rfl
theorem fr_Vlt_3 : F_Vlt 3 = (R_Vlt, "pages", "I", false) := rfl
theorem w_1_144 : (Jvm.Cond.fieldLink "StripedVault$Opener" (353 : Nat) "StripedVault$Schema" "mode" "[I") ∈ TG := tw_1 144 (by decide +kernel) (by decide +kernel)
theorem w_1_161 : (Jvm.Cond.fieldLink "StripedVault$Opener" (252 : Nat) "StripedVault$Schema" "rep" "[I") ∈ TG := tw_1 161 (by decide +kernel) (by decide +kernel)
theorem w_1_163 : (Jvm.Cond.fieldLink "StripedVault$Vault" (71 : Nat) "StripedVault$Schema" "def" "[I") ∈ TG := tw_1 163 (by decide +kernel) (by decide +kernel)
theorem w_1_167 : (Jvm.Cond.fieldLink "StripedVault$Opener" (261 : Nat) "StripedVault$Schema" "def" "[I") ∈ TG := tw_1 167 (by decide +kernel) (by decide +kernel)
theorem w_1_180 : (Jvm.Cond.fieldLink "StripedVault$Vault" (73 : Nat) "StripedVault$Schema" "fieldOf" "[I") ∈ TG := tw_1 180 (by decide +kernel) (by decide +kernel)
theorem w_2_130 : (Jvm.Cond.fieldLink "StripedVault$Opener" (192 : Nat) "StripedVault$Vault" "pages" "I") ∈ TG := tw_2 130 (by decide +kernel) (by decide +kernel)
theorem w_2_146 : (Jvm.Cond.fieldLink "StripedVault$Opener" (228 : Nat) "StripedVault$Vault" "rep" "[B") ∈ TG := tw_2 146 (by decide +kernel) (by decide +kernel)
theorem w_2_153 : (Jvm.Cond.fieldLink "StripedVault$Opener" (359 : Nat) "StripedVault$Vault" "val" "[J") ∈ TG := tw_2 153 (by decide +kernel) (by decide +kernel)
theorem w_2_155 : (Jvm.Cond.fieldLink "StripedVault$Opener" (362 : Nat) "StripedVault$Vault" "start" "[I") ∈ TG := tw_2 155 (by decide +kernel) (by decide +kernel)
theorem w_2_157 : (Jvm.Cond.fieldLink "StripedVault$Opener" (195 : Nat) "StripedVault$Vault" "groupRow" "[I") ∈ TG := tw_2 157 (by decide +kernel) (by decide +kernel)
theorem w_3_32 : (Jvm.Cond.fieldLink "StripedVault$Opener" (207 : Nat) "StripedVault$Opener" "allTexts" "I") ∈ TG := tw_3 32 (by decide +kernel) (by decide +kernel)
theorem w_7_29 : (Jvm.Cond.methodLink "StripedVault$Opener" (346 : Nat) ({ cls := "StripedVault$Vault", name := "compare", desc := "(IJJ)I" } : Jvm.MethodName)) ∈ TG := tw_7 29 (by decide +kernel) (by decide +kernel)
theorem w_7_30 : (Jvm.Cond.instanceMethod ({ cls := "StripedVault$Vault", name := "compare", desc := "(IJJ)I" } : Jvm.MethodName)) ∈ TG := tw_7 30 (by decide +kernel) (by decide +kernel)
theorem w_7_31 : (Jvm.Cond.selects "StripedVault$Vault" ({ cls := "StripedVault$Vault", name := "compare", desc := "(IJJ)I" } : Jvm.MethodName) ({ cls := "StripedVault$Vault", name := "compare", desc := "(IJJ)I" } : Jvm.MethodName)) ∈ TG := tw_7 31 (by decide +kernel) (by decide +kernel)
theorem w_7_32 : (Jvm.Cond.code ({ cls := "StripedVault$Vault", name := "compare", desc := "(IJJ)I" } : Jvm.MethodName) prog_11_method_4_code (6 : Nat) (Option.some Jvm.ClassFile.FieldType.int)) ∈ TG := tw_7 32 (by decide +kernel) (by decide +kernel)
theorem w_7_39 : (Jvm.Cond.methodLink "StripedVault$Opener" (350 : Nat) ({ cls := "StripedVault$Opener", name := "defOfRepeated", desc := "(II)I" } : Jvm.MethodName)) ∈ TG := tw_7 39 (by decide +kernel) (by decide +kernel)
theorem w_7_41 : (Jvm.Cond.instanceMethod ({ cls := "StripedVault$Opener", name := "defOfRepeated", desc := "(II)I" } : Jvm.MethodName)) ∈ TG := tw_7 41 (by decide +kernel) (by decide +kernel)
theorem w_7_42 : (Jvm.Cond.code ({ cls := "StripedVault$Opener", name := "defOfRepeated", desc := "(II)I" } : Jvm.MethodName) prog_4_method_26_code (6 : Nat) (Option.some Jvm.ClassFile.FieldType.int)) ∈ TG := tw_7 42 (by decide +kernel) (by decide +kernel)
theorem w_7_47 : (Jvm.Cond.methodLink "StripedVault$Opener" (356 : Nat) ({ cls := "StripedVault$Vault", name := "hasValue", desc := "(II)Z" } : Jvm.MethodName)) ∈ TG := tw_7 47 (by decide +kernel) (by decide +kernel)
theorem w_7_48 : (Jvm.Cond.instanceMethod ({ cls := "StripedVault$Vault", name := "hasValue", desc := "(II)Z" } : Jvm.MethodName)) ∈ TG := tw_7 48 (by decide +kernel) (by decide +kernel)
theorem w_7_49 : (Jvm.Cond.selects "StripedVault$Vault" ({ cls := "StripedVault$Vault", name := "hasValue", desc := "(II)Z" } : Jvm.MethodName) ({ cls := "StripedVault$Vault", name := "hasValue", desc := "(II)Z" } : Jvm.MethodName)) ∈ TG := tw_7 49 (by decide +kernel) (by decide +kernel)
theorem w_7_50 : (Jvm.Cond.code ({ cls := "StripedVault$Vault", name := "hasValue", desc := "(II)Z" } : Jvm.MethodName) prog_11_method_3_code (3 : Nat) (Option.some Jvm.ClassFile.FieldType.boolean)) ∈ TG := tw_7 50 (by decide +kernel) (by decide +kernel)
theorem wn_7_33 : (Jvm.Cond.methodLinkNest "StripedVault$Vault" (76 : Nat) ({ cls := "StripedVault", name := "compareValues", desc := "(I[BJ[BJ)I" } : Jvm.MethodName) "StripedVault") ∈ lw_tbl := tb_7 _ (List.mem_of_getElem? (i := 33) (by decide +kernel))
theorem ws_57 : Cond.selects R_Opn y_Opn_defOfRepeated y_Opn_defOfRepeated ∈ TG := tw_s 57 (by decide +kernel) (by decide +kernel)
theorem d_Vlt_compare_0 : decode b_Vlt_compare 0 = .ok (.iload_n 1, 1) := by decide +kernel
theorem d_Vlt_compare_1 : decode b_Vlt_compare 1 = .ok (.aload_n 0, 1) := by decide +kernel
theorem d_Vlt_compare_2 : decode b_Vlt_compare 2 = .ok (.getfield 19, 3) := by decide +kernel
theorem d_Vlt_compare_5 : decode b_Vlt_compare 5 = .ok (.lload_n 2, 1) := by decide +kernel
theorem d_Vlt_compare_6 : decode b_Vlt_compare 6 = .ok (.aload_n 0, 1) := by decide +kernel
theorem d_Vlt_compare_7 : decode b_Vlt_compare 7 = .ok (.getfield 19, 3) := by decide +kernel
theorem d_Vlt_compare_10 : decode b_Vlt_compare 10 = .ok (.lload 4, 2) := by decide +kernel
theorem d_Vlt_compare_12 : decode b_Vlt_compare 12 = .ok (.invokestatic 76, 3) := by decide +kernel
theorem d_Vlt_compare_15 : decode b_Vlt_compare 15 = .ok (.ireturn, 1) := by decide +kernel
theorem d_Opn_checkBounds_173 : decode b_Opn_checkBounds 173 = .ok (.bipush 12, 2) := by decide +kernel
theorem d_Opn_checkBounds_175 : decode b_Opn_checkBounds 175 = .ok (.invokevirtual 95, 3) := by decide +kernel
theorem d_Opn_checkBounds_178 : decode b_Opn_checkBounds 178 = .ok (.return_, 1) := by decide +kernel
theorem d_Opn_checkBounds_137 : decode b_Opn_checkBounds 137 = .ok (.bipush 11, 2) := by decide +kernel
theorem d_Opn_checkBounds_139 : decode b_Opn_checkBounds 139 = .ok (.invokevirtual 95, 3) := by decide +kernel
theorem d_Opn_checkBounds_142 : decode b_Opn_checkBounds 142 = .ok (.aload_n 0, 1) := by decide +kernel
theorem d_Opn_checkBounds_143 : decode b_Opn_checkBounds 143 = .ok (.getfield 44, 3) := by decide +kernel
theorem d_Opn_checkBounds_146 : decode b_Opn_checkBounds 146 = .ok (.aload_n 0, 1) := by decide +kernel
theorem d_Opn_checkBounds_147 : decode b_Opn_checkBounds 147 = .ok (.getfield 25, 3) := by decide +kernel
theorem d_Opn_checkBounds_150 : decode b_Opn_checkBounds 150 = .ok (.iload_n 1, 1) := by decide +kernel
theorem d_Opn_checkBounds_151 : decode b_Opn_checkBounds 151 = .ok (.lload 5, 2) := by decide +kernel
theorem d_Opn_checkBounds_153 : decode b_Opn_checkBounds 153 = .ok (.aload_n 0, 1) := by decide +kernel
theorem d_Opn_checkBounds_154 : decode b_Opn_checkBounds 154 = .ok (.getfield 25, 3) := by decide +kernel
theorem d_Opn_checkBounds_157 : decode b_Opn_checkBounds 157 = .ok (.getfield 290, 3) := by decide +kernel
theorem d_Opn_checkBounds_160 : decode b_Opn_checkBounds 160 = .ok (.iload_n 2, 1) := by decide +kernel
theorem d_Opn_checkBounds_161 : decode b_Opn_checkBounds 161 = .ok (.laload, 1) := by decide +kernel
theorem d_Opn_checkBounds_162 : decode b_Opn_checkBounds 162 = .ok (.invokevirtual 346, 3) := by decide +kernel
theorem d_Opn_checkBounds_165 : decode b_Opn_checkBounds 165 = .ok (.ifCond .ne 7, 3) := by decide +kernel
theorem d_Opn_checkBounds_172 : decode b_Opn_checkBounds 172 = .ok (.iconst 0, 1) := by decide +kernel
theorem d_Opn_checkBounds_168 : decode b_Opn_checkBounds 168 = .ok (.iconst 1, 1) := by decide +kernel
theorem d_Opn_checkBounds_169 : decode b_Opn_checkBounds 169 = .ok (.goto 4, 3) := by decide +kernel
theorem d_Opn_checkBounds_101 : decode b_Opn_checkBounds 101 = .ok (.iinc 7 1, 3) := by decide +kernel
theorem d_Opn_checkBounds_104 : decode b_Opn_checkBounds 104 = .ok (.goto (-68), 3) := by decide +kernel
theorem d_Opn_checkBounds_72 : decode b_Opn_checkBounds 72 = .ok (.aload_n 0, 1) := by decide +kernel
theorem d_Opn_checkBounds_73 : decode b_Opn_checkBounds 73 = .ok (.getfield 25, 3) := by decide +kernel
theorem d_Opn_checkBounds_76 : decode b_Opn_checkBounds 76 = .ok (.iload_n 1, 1) := by decide +kernel
theorem d_Opn_checkBounds_77 : decode b_Opn_checkBounds 77 = .ok (.aload_n 0, 1) := by decide +kernel
theorem d_Opn_checkBounds_78 : decode b_Opn_checkBounds 78 = .ok (.getfield 22, 3) := by decide +kernel
theorem d_Opn_checkBounds_81 : decode b_Opn_checkBounds 81 = .ok (.iload 7, 2) := by decide +kernel
theorem d_Opn_checkBounds_83 : decode b_Opn_checkBounds 83 = .ok (.laload, 1) := by decide +kernel
theorem d_Opn_checkBounds_84 : decode b_Opn_checkBounds 84 = .ok (.lload 5, 2) := by decide +kernel
theorem d_Opn_checkBounds_86 : decode b_Opn_checkBounds 86 = .ok (.invokevirtual 346, 3) := by decide +kernel
theorem d_Opn_checkBounds_89 : decode b_Opn_checkBounds 89 = .ok (.ifCond .le 12, 3) := by decide +kernel
theorem d_Opn_checkBounds_92 : decode b_Opn_checkBounds 92 = .ok (.aload_n 0, 1) := by decide +kernel
theorem d_Opn_checkBounds_93 : decode b_Opn_checkBounds 93 = .ok (.getfield 22, 3) := by decide +kernel
theorem d_Opn_checkBounds_96 : decode b_Opn_checkBounds 96 = .ok (.iload 7, 2) := by decide +kernel
theorem d_Opn_checkBounds_98 : decode b_Opn_checkBounds 98 = .ok (.laload, 1) := by decide +kernel
theorem d_Opn_checkBounds_99 : decode b_Opn_checkBounds 99 = .ok (.lstore 5, 2) := by decide +kernel
theorem d_Opn_checkBounds_36 : decode b_Opn_checkBounds 36 = .ok (.iload 7, 2) := by decide +kernel
theorem d_Opn_checkBounds_38 : decode b_Opn_checkBounds 38 = .ok (.aload_n 0, 1) := by decide +kernel
theorem d_Opn_checkBounds_39 : decode b_Opn_checkBounds 39 = .ok (.getfield 266, 3) := by decide +kernel
theorem d_Opn_checkBounds_42 : decode b_Opn_checkBounds 42 = .ok (.if_icmp .ge 65, 3) := by decide +kernel
theorem d_Opn_checkBounds_107 : decode b_Opn_checkBounds 107 = .ok (.aload_n 0, 1) := by decide +kernel
theorem d_Opn_checkBounds_108 : decode b_Opn_checkBounds 108 = .ok (.getfield 44, 3) := by decide +kernel
theorem d_Opn_checkBounds_111 : decode b_Opn_checkBounds 111 = .ok (.aload_n 0, 1) := by decide +kernel
theorem d_Opn_checkBounds_112 : decode b_Opn_checkBounds 112 = .ok (.getfield 25, 3) := by decide +kernel
theorem d_Opn_checkBounds_115 : decode b_Opn_checkBounds 115 = .ok (.iload_n 1, 1) := by decide +kernel
theorem d_Opn_checkBounds_116 : decode b_Opn_checkBounds 116 = .ok (.lload_n 3, 1) := by decide +kernel
theorem d_Opn_checkBounds_117 : decode b_Opn_checkBounds 117 = .ok (.aload_n 0, 1) := by decide +kernel
theorem d_Opn_checkBounds_118 : decode b_Opn_checkBounds 118 = .ok (.getfield 25, 3) := by decide +kernel
theorem d_Opn_checkBounds_121 : decode b_Opn_checkBounds 121 = .ok (.getfield 287, 3) := by decide +kernel
theorem d_Opn_checkBounds_124 : decode b_Opn_checkBounds 124 = .ok (.iload_n 2, 1) := by decide +kernel
theorem d_Opn_checkBounds_125 : decode b_Opn_checkBounds 125 = .ok (.laload, 1) := by decide +kernel
theorem d_Opn_checkBounds_126 : decode b_Opn_checkBounds 126 = .ok (.invokevirtual 346, 3) := by decide +kernel
theorem d_Opn_checkBounds_129 : decode b_Opn_checkBounds 129 = .ok (.ifCond .ne 7, 3) := by decide +kernel
theorem d_Opn_checkBounds_136 : decode b_Opn_checkBounds 136 = .ok (.iconst 0, 1) := by decide +kernel
theorem d_Opn_checkBounds_132 : decode b_Opn_checkBounds 132 = .ok (.iconst 1, 1) := by decide +kernel
theorem d_Opn_checkBounds_133 : decode b_Opn_checkBounds 133 = .ok (.goto 4, 3) := by decide +kernel
theorem d_Opn_checkBounds_45 : decode b_Opn_checkBounds 45 = .ok (.aload_n 0, 1) := by decide +kernel
theorem d_Opn_checkBounds_46 : decode b_Opn_checkBounds 46 = .ok (.getfield 25, 3) := by decide +kernel
theorem d_Opn_checkBounds_49 : decode b_Opn_checkBounds 49 = .ok (.iload_n 1, 1) := by decide +kernel
theorem d_Opn_checkBounds_50 : decode b_Opn_checkBounds 50 = .ok (.aload_n 0, 1) := by decide +kernel
theorem d_Opn_checkBounds_51 : decode b_Opn_checkBounds 51 = .ok (.getfield 22, 3) := by decide +kernel
theorem d_Opn_checkBounds_54 : decode b_Opn_checkBounds 54 = .ok (.iload 7, 2) := by decide +kernel
theorem d_Opn_checkBounds_56 : decode b_Opn_checkBounds 56 = .ok (.laload, 1) := by decide +kernel
theorem d_Opn_checkBounds_57 : decode b_Opn_checkBounds 57 = .ok (.lload_n 3, 1) := by decide +kernel
theorem d_Opn_checkBounds_58 : decode b_Opn_checkBounds 58 = .ok (.invokevirtual 346, 3) := by decide +kernel
theorem d_Opn_checkBounds_61 : decode b_Opn_checkBounds 61 = .ok (.ifCond .ge 11, 3) := by decide +kernel
theorem d_Opn_checkBounds_64 : decode b_Opn_checkBounds 64 = .ok (.aload_n 0, 1) := by decide +kernel
theorem d_Opn_checkBounds_65 : decode b_Opn_checkBounds 65 = .ok (.getfield 22, 3) := by decide +kernel
theorem d_Opn_checkBounds_68 : decode b_Opn_checkBounds 68 = .ok (.iload 7, 2) := by decide +kernel
theorem d_Opn_checkBounds_70 : decode b_Opn_checkBounds 70 = .ok (.laload, 1) := by decide +kernel
theorem d_Opn_checkBounds_71 : decode b_Opn_checkBounds 71 = .ok (.lstore_n 3, 1) := by decide +kernel
theorem d_Opn_checkBounds_0 : decode b_Opn_checkBounds 0 = .ok (.aload_n 0, 1) := by decide +kernel
theorem d_Opn_checkBounds_1 : decode b_Opn_checkBounds 1 = .ok (.getfield 266, 3) := by decide +kernel
theorem d_Opn_checkBounds_4 : decode b_Opn_checkBounds 4 = .ok (.ifCond .eq 13, 3) := by decide +kernel
theorem d_Opn_checkBounds_17 : decode b_Opn_checkBounds 17 = .ok (.return_, 1) := by decide +kernel
theorem d_Opn_checkBounds_7 : decode b_Opn_checkBounds 7 = .ok (.aload_n 0, 1) := by decide +kernel
theorem d_Opn_checkBounds_8 : decode b_Opn_checkBounds 8 = .ok (.getfield 44, 3) := by decide +kernel
theorem d_Opn_checkBounds_11 : decode b_Opn_checkBounds 11 = .ok (.getfield 107, 3) := by decide +kernel
theorem d_Opn_checkBounds_14 : decode b_Opn_checkBounds 14 = .ok (.ifCond .eq 4, 3) := by decide +kernel
theorem d_Opn_checkBounds_18 : decode b_Opn_checkBounds 18 = .ok (.aload_n 0, 1) := by decide +kernel
theorem d_Opn_checkBounds_19 : decode b_Opn_checkBounds 19 = .ok (.getfield 22, 3) := by decide +kernel
theorem d_Opn_checkBounds_22 : decode b_Opn_checkBounds 22 = .ok (.iconst 0, 1) := by decide +kernel
theorem d_Opn_checkBounds_23 : decode b_Opn_checkBounds 23 = .ok (.laload, 1) := by decide +kernel
theorem d_Opn_checkBounds_24 : decode b_Opn_checkBounds 24 = .ok (.lstore_n 3, 1) := by decide +kernel
theorem d_Opn_checkBounds_25 : decode b_Opn_checkBounds 25 = .ok (.aload_n 0, 1) := by decide +kernel
theorem d_Opn_checkBounds_26 : decode b_Opn_checkBounds 26 = .ok (.getfield 22, 3) := by decide +kernel
theorem d_Opn_checkBounds_29 : decode b_Opn_checkBounds 29 = .ok (.iconst 0, 1) := by decide +kernel
theorem d_Opn_checkBounds_30 : decode b_Opn_checkBounds 30 = .ok (.laload, 1) := by decide +kernel
theorem d_Opn_checkBounds_31 : decode b_Opn_checkBounds 31 = .ok (.lstore 5, 2) := by decide +kernel
theorem d_Opn_checkBounds_33 : decode b_Opn_checkBounds 33 = .ok (.iconst 1, 1) := by decide +kernel
theorem d_Opn_checkBounds_34 : decode b_Opn_checkBounds 34 = .ok (.istore 7, 2) := by decide +kernel
theorem d_Opn_defOfRepeated_72 : decode b_Opn_defOfRepeated 72 = .ok (.iconst 0, 1) := by decide +kernel
theorem d_Opn_defOfRepeated_73 : decode b_Opn_defOfRepeated 73 = .ok (.ireturn, 1) := by decide +kernel
theorem d_Opn_defOfRepeated_57 : decode b_Opn_defOfRepeated 57 = .ok (.aload_n 3, 1) := by decide +kernel
theorem d_Opn_defOfRepeated_58 : decode b_Opn_defOfRepeated 58 = .ok (.getfield 175, 3) := by decide +kernel
theorem d_Opn_defOfRepeated_61 : decode b_Opn_defOfRepeated 61 = .ok (.iload 4, 2) := by decide +kernel
theorem d_Opn_defOfRepeated_63 : decode b_Opn_defOfRepeated 63 = .ok (.iaload, 1) := by decide +kernel
theorem d_Opn_defOfRepeated_64 : decode b_Opn_defOfRepeated 64 = .ok (.istore 4, 2) := by decide +kernel
theorem d_Opn_defOfRepeated_66 : decode b_Opn_defOfRepeated 66 = .ok (.iinc 5 1, 3) := by decide +kernel
theorem d_Opn_defOfRepeated_69 : decode b_Opn_defOfRepeated 69 = .ok (.goto (-55), 3) := by decide +kernel
theorem d_Opn_defOfRepeated_14 : decode b_Opn_defOfRepeated 14 = .ok (.iload 5, 2) := by decide +kernel
theorem d_Opn_defOfRepeated_16 : decode b_Opn_defOfRepeated 16 = .ok (.bipush 16, 2) := by decide +kernel
theorem d_Opn_defOfRepeated_18 : decode b_Opn_defOfRepeated 18 = .ok (.if_icmp .gt 54, 3) := by decide +kernel
theorem d_Opn_defOfRepeated_21 : decode b_Opn_defOfRepeated 21 = .ok (.iload 4, 2) := by decide +kernel
theorem d_Opn_defOfRepeated_23 : decode b_Opn_defOfRepeated 23 = .ok (.iconst (-1), 1) := by decide +kernel
theorem d_Opn_defOfRepeated_24 : decode b_Opn_defOfRepeated 24 = .ok (.if_icmp .eq 48, 3) := by decide +kernel
theorem d_Opn_defOfRepeated_27 : decode b_Opn_defOfRepeated 27 = .ok (.aload_n 3, 1) := by decide +kernel
theorem d_Opn_defOfRepeated_28 : decode b_Opn_defOfRepeated 28 = .ok (.getfield 353, 3) := by decide +kernel
theorem d_Opn_defOfRepeated_31 : decode b_Opn_defOfRepeated 31 = .ok (.iload 4, 2) := by decide +kernel
theorem d_Opn_defOfRepeated_33 : decode b_Opn_defOfRepeated 33 = .ok (.iaload, 1) := by decide +kernel
theorem d_Opn_defOfRepeated_34 : decode b_Opn_defOfRepeated 34 = .ok (.iconst 2, 1) := by decide +kernel
theorem d_Opn_defOfRepeated_35 : decode b_Opn_defOfRepeated 35 = .ok (.if_icmp .ne 22, 3) := by decide +kernel
theorem d_Opn_defOfRepeated_38 : decode b_Opn_defOfRepeated 38 = .ok (.aload_n 3, 1) := by decide +kernel
theorem d_Opn_defOfRepeated_39 : decode b_Opn_defOfRepeated 39 = .ok (.getfield 252, 3) := by decide +kernel
theorem d_Opn_defOfRepeated_42 : decode b_Opn_defOfRepeated 42 = .ok (.iload 4, 2) := by decide +kernel
theorem d_Opn_defOfRepeated_44 : decode b_Opn_defOfRepeated 44 = .ok (.iaload, 1) := by decide +kernel
theorem d_Opn_defOfRepeated_45 : decode b_Opn_defOfRepeated 45 = .ok (.iload_n 2, 1) := by decide +kernel
theorem d_Opn_defOfRepeated_46 : decode b_Opn_defOfRepeated 46 = .ok (.if_icmp .ne 11, 3) := by decide +kernel
theorem d_Opn_defOfRepeated_49 : decode b_Opn_defOfRepeated 49 = .ok (.aload_n 3, 1) := by decide +kernel
theorem d_Opn_defOfRepeated_50 : decode b_Opn_defOfRepeated 50 = .ok (.getfield 261, 3) := by decide +kernel
theorem d_Opn_defOfRepeated_53 : decode b_Opn_defOfRepeated 53 = .ok (.iload 4, 2) := by decide +kernel
theorem d_Opn_defOfRepeated_55 : decode b_Opn_defOfRepeated 55 = .ok (.iaload, 1) := by decide +kernel
theorem d_Opn_defOfRepeated_56 : decode b_Opn_defOfRepeated 56 = .ok (.ireturn, 1) := by decide +kernel
theorem d_Opn_defOfRepeated_0 : decode b_Opn_defOfRepeated 0 = .ok (.aload_n 0, 1) := by decide +kernel
theorem d_Opn_defOfRepeated_1 : decode b_Opn_defOfRepeated 1 = .ok (.getfield 25, 3) := by decide +kernel
theorem d_Opn_defOfRepeated_4 : decode b_Opn_defOfRepeated 4 = .ok (.getfield 77, 3) := by decide +kernel
theorem d_Opn_defOfRepeated_7 : decode b_Opn_defOfRepeated 7 = .ok (.astore_n 3, 1) := by decide +kernel
theorem d_Opn_defOfRepeated_8 : decode b_Opn_defOfRepeated 8 = .ok (.iload_n 1, 1) := by decide +kernel
theorem d_Opn_defOfRepeated_9 : decode b_Opn_defOfRepeated 9 = .ok (.istore 4, 2) := by decide +kernel
theorem d_Opn_defOfRepeated_11 : decode b_Opn_defOfRepeated 11 = .ok (.iconst 0, 1) := by decide +kernel
theorem d_Opn_defOfRepeated_12 : decode b_Opn_defOfRepeated 12 = .ok (.istore 5, 2) := by decide +kernel
theorem d_Opn_checkOrder_107 : decode b_Opn_checkOrder 107 = .ok (.iinc 3 1, 3) := by decide +kernel
theorem d_Opn_checkOrder_110 : decode b_Opn_checkOrder 110 = .ok (.goto (-108), 3) := by decide +kernel
theorem d_Opn_checkOrder_102 : decode b_Opn_checkOrder 102 = .ok (.bipush 20, 2) := by decide +kernel
theorem d_Opn_checkOrder_104 : decode b_Opn_checkOrder 104 = .ok (.invokevirtual 95, 3) := by decide +kernel
theorem d_Opn_checkOrder_101 : decode b_Opn_checkOrder 101 = .ok (.iconst 0, 1) := by decide +kernel
theorem d_Opn_checkOrder_2 : decode b_Opn_checkOrder 2 = .ok (.iload_n 3, 1) := by decide +kernel
theorem d_Opn_checkOrder_3 : decode b_Opn_checkOrder 3 = .ok (.iload_n 2, 1) := by decide +kernel
theorem d_Opn_checkOrder_4 : decode b_Opn_checkOrder 4 = .ok (.if_icmp .ge 109, 3) := by decide +kernel
theorem d_Opn_checkOrder_113 : decode b_Opn_checkOrder 113 = .ok (.return_, 1) := by decide +kernel
theorem d_Opn_checkOrder_7 : decode b_Opn_checkOrder 7 = .ok (.aload_n 0, 1) := by decide +kernel
theorem d_Opn_checkOrder_8 : decode b_Opn_checkOrder 8 = .ok (.getfield 44, 3) := by decide +kernel
theorem d_Opn_checkOrder_11 : decode b_Opn_checkOrder 11 = .ok (.getfield 107, 3) := by decide +kernel
theorem d_Opn_checkOrder_14 : decode b_Opn_checkOrder 14 = .ok (.ifCond .ne 99, 3) := by decide +kernel
theorem d_Opn_checkOrder_17 : decode b_Opn_checkOrder 17 = .ok (.aload_n 0, 1) := by decide +kernel
theorem d_Opn_checkOrder_18 : decode b_Opn_checkOrder 18 = .ok (.getfield 25, 3) := by decide +kernel
theorem d_Opn_checkOrder_21 : decode b_Opn_checkOrder 21 = .ok (.getfield 228, 3) := by decide +kernel
theorem d_Opn_checkOrder_24 : decode b_Opn_checkOrder 24 = .ok (.aload_n 0, 1) := by decide +kernel
theorem d_Opn_checkOrder_25 : decode b_Opn_checkOrder 25 = .ok (.getfield 25, 3) := by decide +kernel
theorem d_Opn_checkOrder_28 : decode b_Opn_checkOrder 28 = .ok (.getfield 189, 3) := by decide +kernel
theorem d_Opn_checkOrder_31 : decode b_Opn_checkOrder 31 = .ok (.iload_n 3, 1) := by decide +kernel
theorem d_Opn_checkOrder_32 : decode b_Opn_checkOrder 32 = .ok (.iadd, 1) := by decide +kernel
theorem d_Opn_checkOrder_33 : decode b_Opn_checkOrder 33 = .ok (.baload, 1) := by decide +kernel
theorem d_Opn_checkOrder_34 : decode b_Opn_checkOrder 34 = .ok (.istore 4, 2) := by decide +kernel
theorem d_Opn_checkOrder_36 : decode b_Opn_checkOrder 36 = .ok (.iload 4, 2) := by decide +kernel
theorem d_Opn_checkOrder_38 : decode b_Opn_checkOrder 38 = .ok (.ifCond .le 69, 3) := by decide +kernel
theorem d_Opn_checkOrder_41 : decode b_Opn_checkOrder 41 = .ok (.aload_n 0, 1) := by decide +kernel
theorem d_Opn_checkOrder_42 : decode b_Opn_checkOrder 42 = .ok (.iload_n 1, 1) := by decide +kernel
theorem d_Opn_checkOrder_43 : decode b_Opn_checkOrder 43 = .ok (.iload 4, 2) := by decide +kernel
theorem d_Opn_checkOrder_45 : decode b_Opn_checkOrder 45 = .ok (.invokevirtual 350, 3) := by decide +kernel
theorem d_Opn_checkOrder_48 : decode b_Opn_checkOrder 48 = .ok (.istore 5, 2) := by decide +kernel
theorem d_Opn_checkOrder_50 : decode b_Opn_checkOrder 50 = .ok (.aload_n 0, 1) := by decide +kernel
theorem d_Opn_checkOrder_51 : decode b_Opn_checkOrder 51 = .ok (.getfield 25, 3) := by decide +kernel
theorem d_Opn_checkOrder_54 : decode b_Opn_checkOrder 54 = .ok (.getfield 189, 3) := by decide +kernel
theorem d_Opn_checkOrder_57 : decode b_Opn_checkOrder 57 = .ok (.iload_n 3, 1) := by decide +kernel
theorem d_Opn_checkOrder_58 : decode b_Opn_checkOrder 58 = .ok (.iadd, 1) := by decide +kernel
theorem d_Opn_checkOrder_59 : decode b_Opn_checkOrder 59 = .ok (.istore 6, 2) := by decide +kernel
theorem d_Opn_checkOrder_61 : decode b_Opn_checkOrder 61 = .ok (.aload_n 0, 1) := by decide +kernel
theorem d_Opn_checkOrder_62 : decode b_Opn_checkOrder 62 = .ok (.getfield 44, 3) := by decide +kernel
theorem d_Opn_checkOrder_65 : decode b_Opn_checkOrder 65 = .ok (.aload_n 0, 1) := by decide +kernel
theorem d_Opn_checkOrder_66 : decode b_Opn_checkOrder 66 = .ok (.getfield 25, 3) := by decide +kernel
theorem d_Opn_checkOrder_69 : decode b_Opn_checkOrder 69 = .ok (.getfield 258, 3) := by decide +kernel
theorem d_Opn_checkOrder_72 : decode b_Opn_checkOrder 72 = .ok (.iload 6, 2) := by decide +kernel
theorem d_Opn_checkOrder_74 : decode b_Opn_checkOrder 74 = .ok (.baload, 1) := by decide +kernel
theorem d_Opn_checkOrder_75 : decode b_Opn_checkOrder 75 = .ok (.iload 5, 2) := by decide +kernel
theorem d_Opn_checkOrder_77 : decode b_Opn_checkOrder 77 = .ok (.if_icmp .lt 24, 3) := by decide +kernel
theorem d_Opn_checkOrder_80 : decode b_Opn_checkOrder 80 = .ok (.aload_n 0, 1) := by decide +kernel
theorem d_Opn_checkOrder_81 : decode b_Opn_checkOrder 81 = .ok (.getfield 25, 3) := by decide +kernel
theorem d_Opn_checkOrder_84 : decode b_Opn_checkOrder 84 = .ok (.getfield 258, 3) := by decide +kernel
theorem d_Opn_checkOrder_87 : decode b_Opn_checkOrder 87 = .ok (.iload 6, 2) := by decide +kernel
theorem d_Opn_checkOrder_89 : decode b_Opn_checkOrder 89 = .ok (.iconst 1, 1) := by decide +kernel
theorem d_Opn_checkOrder_90 : decode b_Opn_checkOrder 90 = .ok (.isub, 1) := by decide +kernel
theorem d_Opn_checkOrder_91 : decode b_Opn_checkOrder 91 = .ok (.baload, 1) := by decide +kernel
theorem d_Opn_checkOrder_92 : decode b_Opn_checkOrder 92 = .ok (.iload 5, 2) := by decide +kernel
theorem d_Opn_checkOrder_94 : decode b_Opn_checkOrder 94 = .ok (.if_icmp .lt 7, 3) := by decide +kernel
theorem d_Opn_checkOrder_97 : decode b_Opn_checkOrder 97 = .ok (.iconst 1, 1) := by decide +kernel
theorem d_Opn_checkOrder_98 : decode b_Opn_checkOrder 98 = .ok (.goto 4, 3) := by decide +kernel
theorem d_Opn_checkOrder_0 : decode b_Opn_checkOrder 0 = .ok (.iconst 1, 1) := by decide +kernel
theorem d_Opn_checkOrder_1 : decode b_Opn_checkOrder 1 = .ok (.istore_n 3, 1) := by decide +kernel
theorem d_Vlt_hasValue_0 : decode b_Vlt_hasValue 0 = .ok (.aload_n 0, 1) := by decide +kernel
theorem d_Vlt_hasValue_1 : decode b_Vlt_hasValue 1 = .ok (.getfield 26, 3) := by decide +kernel
theorem d_Vlt_hasValue_4 : decode b_Vlt_hasValue 4 = .ok (.iload_n 1, 1) := by decide +kernel
theorem d_Vlt_hasValue_5 : decode b_Vlt_hasValue 5 = .ok (.baload, 1) := by decide +kernel
theorem d_Vlt_hasValue_6 : decode b_Vlt_hasValue 6 = .ok (.aload_n 0, 1) := by decide +kernel
theorem d_Vlt_hasValue_7 : decode b_Vlt_hasValue 7 = .ok (.getfield 12, 3) := by decide +kernel
theorem d_Vlt_hasValue_10 : decode b_Vlt_hasValue 10 = .ok (.getfield 71, 3) := by decide +kernel
theorem d_Vlt_hasValue_13 : decode b_Vlt_hasValue 13 = .ok (.aload_n 0, 1) := by decide +kernel
theorem d_Vlt_hasValue_14 : decode b_Vlt_hasValue 14 = .ok (.getfield 12, 3) := by decide +kernel
theorem d_Vlt_hasValue_17 : decode b_Vlt_hasValue 17 = .ok (.getfield 73, 3) := by decide +kernel
theorem d_Vlt_hasValue_20 : decode b_Vlt_hasValue 20 = .ok (.iload_n 2, 1) := by decide +kernel
theorem d_Vlt_hasValue_21 : decode b_Vlt_hasValue 21 = .ok (.iaload, 1) := by decide +kernel
theorem d_Vlt_hasValue_22 : decode b_Vlt_hasValue 22 = .ok (.iaload, 1) := by decide +kernel
theorem d_Vlt_hasValue_23 : decode b_Vlt_hasValue 23 = .ok (.if_icmp .ne 7, 3) := by decide +kernel
theorem d_Vlt_hasValue_30 : decode b_Vlt_hasValue 30 = .ok (.iconst 0, 1) := by decide +kernel
theorem d_Vlt_hasValue_31 : decode b_Vlt_hasValue 31 = .ok (.ireturn, 1) := by decide +kernel
theorem d_Vlt_hasValue_26 : decode b_Vlt_hasValue 26 = .ok (.iconst 1, 1) := by decide +kernel
theorem d_Vlt_hasValue_27 : decode b_Vlt_hasValue 27 = .ok (.goto 4, 3) := by decide +kernel
theorem d_Opn_keepPage_370 : decode b_Opn_keepPage 370 = .ok (.aload_n 0, 1) := by decide +kernel
theorem d_Opn_keepPage_371 : decode b_Opn_keepPage 371 = .ok (.getfield 25, 3) := by decide +kernel
theorem d_Opn_keepPage_374 : decode b_Opn_keepPage 374 = .ok (.getfield 234, 3) := by decide +kernel
theorem d_Opn_keepPage_377 : decode b_Opn_keepPage 377 = .ok (.iload_n 2, 1) := by decide +kernel
theorem d_Opn_keepPage_378 : decode b_Opn_keepPage 378 = .ok (.dup2, 1) := by decide +kernel
theorem d_Opn_keepPage_379 : decode b_Opn_keepPage 379 = .ok (.iaload, 1) := by decide +kernel
theorem d_Opn_keepPage_380 : decode b_Opn_keepPage 380 = .ok (.iload 5, 2) := by decide +kernel
theorem d_Opn_keepPage_382 : decode b_Opn_keepPage 382 = .ok (.iadd, 1) := by decide +kernel
theorem d_Opn_keepPage_383 : decode b_Opn_keepPage 383 = .ok (.iastore, 1) := by decide +kernel
theorem d_Opn_keepPage_384 : decode b_Opn_keepPage 384 = .ok (.aload_n 0, 1) := by decide +kernel
theorem d_Opn_keepPage_385 : decode b_Opn_keepPage 385 = .ok (.getfield 25, 3) := by decide +kernel
theorem d_Opn_keepPage_388 : decode b_Opn_keepPage 388 = .ok (.getfield 237, 3) := by decide +kernel
theorem d_Opn_keepPage_391 : decode b_Opn_keepPage 391 = .ok (.iload_n 2, 1) := by decide +kernel
theorem d_Opn_keepPage_392 : decode b_Opn_keepPage 392 = .ok (.dup2, 1) := by decide +kernel
theorem d_Opn_keepPage_393 : decode b_Opn_keepPage 393 = .ok (.iaload, 1) := by decide +kernel
theorem d_Opn_keepPage_394 : decode b_Opn_keepPage 394 = .ok (.aload_n 0, 1) := by decide +kernel
theorem d_Opn_keepPage_395 : decode b_Opn_keepPage 395 = .ok (.getfield 25, 3) := by decide +kernel
theorem d_Opn_keepPage_398 : decode b_Opn_keepPage 398 = .ok (.getfield 237, 3) := by decide +kernel
theorem d_Opn_keepPage_401 : decode b_Opn_keepPage 401 = .ok (.iload_n 3, 1) := by decide +kernel
theorem d_Opn_keepPage_402 : decode b_Opn_keepPage 402 = .ok (.iaload, 1) := by decide +kernel
theorem d_Opn_keepPage_403 : decode b_Opn_keepPage 403 = .ok (.iadd, 1) := by decide +kernel
theorem d_Opn_keepPage_404 : decode b_Opn_keepPage 404 = .ok (.iastore, 1) := by decide +kernel
theorem d_Opn_keepPage_405 : decode b_Opn_keepPage 405 = .ok (.aload_n 0, 1) := by decide +kernel
theorem d_Opn_keepPage_406 : decode b_Opn_keepPage 406 = .ok (.getfield 25, 3) := by decide +kernel
theorem d_Opn_keepPage_409 : decode b_Opn_keepPage 409 = .ok (.dup, 1) := by decide +kernel
theorem d_Opn_keepPage_410 : decode b_Opn_keepPage 410 = .ok (.getfield 189, 3) := by decide +kernel
theorem d_Opn_keepPage_413 : decode b_Opn_keepPage 413 = .ok (.iload 5, 2) := by decide +kernel
theorem d_Opn_keepPage_415 : decode b_Opn_keepPage 415 = .ok (.iadd, 1) := by decide +kernel
theorem d_Opn_keepPage_416 : decode b_Opn_keepPage 416 = .ok (.putfield 189, 3) := by decide +kernel
theorem d_Opn_keepPage_419 : decode b_Opn_keepPage 419 = .ok (.aload_n 0, 1) := by decide +kernel
theorem d_Opn_keepPage_420 : decode b_Opn_keepPage 420 = .ok (.getfield 25, 3) := by decide +kernel
theorem d_Opn_keepPage_423 : decode b_Opn_keepPage 423 = .ok (.dup, 1) := by decide +kernel
theorem d_Opn_keepPage_424 : decode b_Opn_keepPage 424 = .ok (.getfield 192, 3) := by decide +kernel
theorem d_Opn_keepPage_427 : decode b_Opn_keepPage 427 = .ok (.iconst 1, 1) := by decide +kernel
theorem d_Opn_keepPage_428 : decode b_Opn_keepPage 428 = .ok (.iadd, 1) := by decide +kernel
theorem d_Opn_keepPage_429 : decode b_Opn_keepPage 429 = .ok (.putfield 192, 3) := by decide +kernel
theorem d_Opn_keepPage_432 : decode b_Opn_keepPage 432 = .ok (.aload_n 0, 1) := by decide +kernel
theorem d_Opn_keepPage_433 : decode b_Opn_keepPage 433 = .ok (.dup, 1) := by decide +kernel
theorem d_Opn_keepPage_434 : decode b_Opn_keepPage 434 = .ok (.getfield 207, 3) := by decide +kernel
theorem d_Opn_keepPage_437 : decode b_Opn_keepPage 437 = .ok (.aload_n 0, 1) := by decide +kernel
theorem d_Opn_keepPage_438 : decode b_Opn_keepPage 438 = .ok (.getfield 269, 3) := by decide +kernel
theorem d_Opn_keepPage_441 : decode b_Opn_keepPage 441 = .ok (.iadd, 1) := by decide +kernel
theorem d_Opn_keepPage_442 : decode b_Opn_keepPage 442 = .ok (.putfield 207, 3) := by decide +kernel
theorem d_Opn_keepPage_445 : decode b_Opn_keepPage 445 = .ok (.return_, 1) := by decide +kernel
theorem d_Opn_keepPage_359 : decode b_Opn_keepPage 359 = .ok (.aload_n 0, 1) := by decide +kernel
theorem d_Opn_keepPage_360 : decode b_Opn_keepPage 360 = .ok (.getfield 25, 3) := by decide +kernel
theorem d_Opn_keepPage_363 : decode b_Opn_keepPage 363 = .ok (.getfield 290, 3) := by decide +kernel
theorem d_Opn_keepPage_366 : decode b_Opn_keepPage 366 = .ok (.iload_n 2, 1) := by decide +kernel
theorem d_Opn_keepPage_367 : decode b_Opn_keepPage 367 = .ok (.lload 12, 2) := by decide +kernel
theorem d_Opn_keepPage_369 : decode b_Opn_keepPage 369 = .ok (.lastore, 1) := by decide +kernel
theorem d_Opn_keepPage_331 : decode b_Opn_keepPage 331 = .ok (.iload 9, 2) := by decide +kernel
theorem d_Opn_keepPage_333 : decode b_Opn_keepPage 333 = .ok (.ifCond .eq 26, 3) := by decide +kernel
theorem d_Opn_keepPage_336 : decode b_Opn_keepPage 336 = .ok (.aload_n 0, 1) := by decide +kernel
theorem d_Opn_keepPage_337 : decode b_Opn_keepPage 337 = .ok (.getfield 25, 3) := by decide +kernel
theorem d_Opn_keepPage_340 : decode b_Opn_keepPage 340 = .ok (.iload 4, 2) := by decide +kernel
theorem d_Opn_keepPage_342 : decode b_Opn_keepPage 342 = .ok (.lload 12, 2) := by decide +kernel
theorem d_Opn_keepPage_344 : decode b_Opn_keepPage 344 = .ok (.aload_n 0, 1) := by decide +kernel
theorem d_Opn_keepPage_345 : decode b_Opn_keepPage 345 = .ok (.getfield 25, 3) := by decide +kernel
theorem d_Opn_keepPage_348 : decode b_Opn_keepPage 348 = .ok (.getfield 290, 3) := by decide +kernel
theorem d_Opn_keepPage_351 : decode b_Opn_keepPage 351 = .ok (.iload_n 2, 1) := by decide +kernel
theorem d_Opn_keepPage_352 : decode b_Opn_keepPage 352 = .ok (.laload, 1) := by decide +kernel
theorem d_Opn_keepPage_353 : decode b_Opn_keepPage 353 = .ok (.invokevirtual 346, 3) := by decide +kernel
theorem d_Opn_keepPage_356 : decode b_Opn_keepPage 356 = .ok (.ifCond .le 14, 3) := by decide +kernel
theorem d_Opn_keepPage_320 : decode b_Opn_keepPage 320 = .ok (.aload_n 0, 1) := by decide +kernel
theorem d_Opn_keepPage_321 : decode b_Opn_keepPage 321 = .ok (.getfield 25, 3) := by decide +kernel
theorem d_Opn_keepPage_324 : decode b_Opn_keepPage 324 = .ok (.getfield 287, 3) := by decide +kernel
theorem d_Opn_keepPage_327 : decode b_Opn_keepPage 327 = .ok (.iload_n 2, 1) := by decide +kernel
theorem d_Opn_keepPage_328 : decode b_Opn_keepPage 328 = .ok (.lload 10, 2) := by decide +kernel
theorem d_Opn_keepPage_330 : decode b_Opn_keepPage 330 = .ok (.lastore, 1) := by decide +kernel
theorem d_Opn_keepPage_236 : decode b_Opn_keepPage 236 = .ok (.iinc 9 1, 3) := by decide +kernel
theorem d_Opn_keepPage_239 : decode b_Opn_keepPage 239 = .ok (.goto (-158), 3) := by decide +kernel
theorem d_Opn_keepPage_226 : decode b_Opn_keepPage 226 = .ok (.aload_n 0, 1) := by decide +kernel
theorem d_Opn_keepPage_227 : decode b_Opn_keepPage 227 = .ok (.dup, 1) := by decide +kernel
theorem d_Opn_keepPage_228 : decode b_Opn_keepPage 228 = .ok (.getfield 246, 3) := by decide +kernel
theorem d_Opn_keepPage_231 : decode b_Opn_keepPage 231 = .ok (.iconst 1, 1) := by decide +kernel
theorem d_Opn_keepPage_232 : decode b_Opn_keepPage 232 = .ok (.iadd, 1) := by decide +kernel
theorem d_Opn_keepPage_233 : decode b_Opn_keepPage 233 = .ok (.putfield 246, 3) := by decide +kernel
theorem d_Opn_keepPage_146 : decode b_Opn_keepPage 146 = .ok (.iadd, 1) := by decide +kernel
theorem d_Opn_keepPage_147 : decode b_Opn_keepPage 147 = .ok (.istore 8, 2) := by decide +kernel
theorem d_Opn_keepPage_149 : decode b_Opn_keepPage 149 = .ok (.aload_n 0, 1) := by decide +kernel
theorem d_Opn_keepPage_150 : decode b_Opn_keepPage 150 = .ok (.getfield 25, 3) := by decide +kernel
theorem d_Opn_keepPage_153 : decode b_Opn_keepPage 153 = .ok (.getfield 228, 3) := by decide +kernel
theorem d_Opn_keepPage_156 : decode b_Opn_keepPage 156 = .ok (.iload 9, 2) := by decide +kernel
theorem d_Opn_keepPage_158 : decode b_Opn_keepPage 158 = .ok (.baload, 1) := by decide +kernel
theorem d_Opn_keepPage_159 : decode b_Opn_keepPage 159 = .ok (.ifCond .ne 77, 3) := by decide +kernel
theorem d_Opn_keepPage_162 : decode b_Opn_keepPage 162 = .ok (.aload_n 0, 1) := by decide +kernel
theorem d_Opn_keepPage_163 : decode b_Opn_keepPage 163 = .ok (.getfield 25, 3) := by decide +kernel
theorem d_Opn_keepPage_166 : decode b_Opn_keepPage 166 = .ok (.getfield 195, 3) := by decide +kernel
theorem d_Opn_keepPage_169 : decode b_Opn_keepPage 169 = .ok (.iload 6, 2) := by decide +kernel
theorem d_Opn_keepPage_171 : decode b_Opn_keepPage 171 = .ok (.iaload, 1) := by decide +kernel
theorem d_Opn_keepPage_172 : decode b_Opn_keepPage 172 = .ok (.aload_n 0, 1) := by decide +kernel
theorem d_Opn_keepPage_173 : decode b_Opn_keepPage 173 = .ok (.getfield 246, 3) := by decide +kernel
theorem d_Opn_keepPage_176 : decode b_Opn_keepPage 176 = .ok (.iadd, 1) := by decide +kernel
theorem d_Opn_keepPage_177 : decode b_Opn_keepPage 177 = .ok (.aload_n 0, 1) := by decide +kernel
theorem d_Opn_keepPage_178 : decode b_Opn_keepPage 178 = .ok (.getfield 25, 3) := by decide +kernel
theorem d_Opn_keepPage_181 : decode b_Opn_keepPage 181 = .ok (.getfield 77, 3) := by decide +kernel
theorem d_Opn_keepPage_184 : decode b_Opn_keepPage 184 = .ok (.getfield 110, 3) := by decide +kernel
theorem d_Opn_keepPage_187 : decode b_Opn_keepPage 187 = .ok (.imul, 1) := by decide +kernel
theorem d_Opn_keepPage_188 : decode b_Opn_keepPage 188 = .ok (.iload_n 1, 1) := by decide +kernel
theorem d_Opn_keepPage_189 : decode b_Opn_keepPage 189 = .ok (.iadd, 1) := by decide +kernel
theorem d_Opn_keepPage_190 : decode b_Opn_keepPage 190 = .ok (.istore 11, 2) := by decide +kernel
theorem d_Opn_keepPage_192 : decode b_Opn_keepPage 192 = .ok (.aload_n 0, 1) := by decide +kernel
theorem d_Opn_keepPage_193 : decode b_Opn_keepPage 193 = .ok (.getfield 246, 3) := by decide +kernel
theorem d_Opn_keepPage_196 : decode b_Opn_keepPage 196 = .ok (.iload 7, 2) := by decide +kernel
theorem d_Opn_keepPage_198 : decode b_Opn_keepPage 198 = .ok (.if_icmp .ge 28, 3) := by decide +kernel
theorem d_Opn_keepPage_201 : decode b_Opn_keepPage 201 = .ok (.iload 11, 2) := by decide +kernel
theorem d_Opn_keepPage_203 : decode b_Opn_keepPage 203 = .ok (.aload_n 0, 1) := by decide +kernel
theorem d_Opn_keepPage_204 : decode b_Opn_keepPage 204 = .ok (.getfield 25, 3) := by decide +kernel
theorem d_Opn_keepPage_207 : decode b_Opn_keepPage 207 = .ok (.getfield 362, 3) := by decide +kernel
theorem d_Opn_keepPage_210 : decode b_Opn_keepPage 210 = .ok (.arraylength, 1) := by decide +kernel
theorem d_Opn_keepPage_211 : decode b_Opn_keepPage 211 = .ok (.if_icmp .ge 15, 3) := by decide +kernel
theorem d_Opn_keepPage_214 : decode b_Opn_keepPage 214 = .ok (.aload_n 0, 1) := by decide +kernel
theorem d_Opn_keepPage_215 : decode b_Opn_keepPage 215 = .ok (.getfield 25, 3) := by decide +kernel
theorem d_Opn_keepPage_218 : decode b_Opn_keepPage 218 = .ok (.getfield 362, 3) := by decide +kernel
theorem d_Opn_keepPage_221 : decode b_Opn_keepPage 221 = .ok (.iload 11, 2) := by decide +kernel
theorem d_Opn_keepPage_223 : decode b_Opn_keepPage 223 = .ok (.iload 9, 2) := by decide +kernel
theorem d_Opn_keepPage_225 : decode b_Opn_keepPage 225 = .ok (.iastore, 1) := by decide +kernel
theorem d_Opn_keepPage_133 : decode b_Opn_keepPage 133 = .ok (.lastore, 1) := by decide +kernel
theorem d_Opn_keepPage_134 : decode b_Opn_keepPage 134 = .ok (.iload 8, 2) := by decide +kernel
theorem d_Opn_keepPage_136 : decode b_Opn_keepPage 136 = .ok (.iload 10, 2) := by decide +kernel
theorem d_Opn_keepPage_138 : decode b_Opn_keepPage 138 = .ok (.ifCond .eq 7, 3) := by decide +kernel
theorem d_Opn_keepPage_145 : decode b_Opn_keepPage 145 = .ok (.iconst 0, 1) := by decide +kernel
theorem d_Opn_keepPage_141 : decode b_Opn_keepPage 141 = .ok (.iconst 1, 1) := by decide +kernel
theorem d_Opn_keepPage_142 : decode b_Opn_keepPage 142 = .ok (.goto 4, 3) := by decide +kernel
theorem d_Opn_keepPage_81 : decode b_Opn_keepPage 81 = .ok (.iload 9, 2) := by decide +kernel
theorem d_Opn_keepPage_83 : decode b_Opn_keepPage 83 = .ok (.aload_n 0, 1) := by decide +kernel
theorem d_Opn_keepPage_84 : decode b_Opn_keepPage 84 = .ok (.getfield 25, 3) := by decide +kernel
theorem d_Opn_keepPage_87 : decode b_Opn_keepPage 87 = .ok (.getfield 189, 3) := by decide +kernel
theorem d_Opn_keepPage_90 : decode b_Opn_keepPage 90 = .ok (.iload 5, 2) := by decide +kernel
theorem d_Opn_keepPage_92 : decode b_Opn_keepPage 92 = .ok (.iadd, 1) := by decide +kernel
theorem d_Opn_keepPage_93 : decode b_Opn_keepPage 93 = .ok (.if_icmp .ge 149, 3) := by decide +kernel
theorem d_Opn_keepPage_242 : decode b_Opn_keepPage 242 = .ok (.aload_n 0, 1) := by decide +kernel
theorem d_Opn_keepPage_243 : decode b_Opn_keepPage 243 = .ok (.getfield 25, 3) := by decide +kernel
theorem d_Opn_keepPage_246 : decode b_Opn_keepPage 246 = .ok (.getfield 234, 3) := by decide +kernel
theorem d_Opn_keepPage_249 : decode b_Opn_keepPage 249 = .ok (.iload_n 2, 1) := by decide +kernel
theorem d_Opn_keepPage_250 : decode b_Opn_keepPage 250 = .ok (.iaload, 1) := by decide +kernel
theorem d_Opn_keepPage_251 : decode b_Opn_keepPage 251 = .ok (.aload_n 0, 1) := by decide +kernel
theorem d_Opn_keepPage_252 : decode b_Opn_keepPage 252 = .ok (.getfield 25, 3) := by decide +kernel
theorem d_Opn_keepPage_255 : decode b_Opn_keepPage 255 = .ok (.getfield 237, 3) := by decide +kernel
theorem d_Opn_keepPage_258 : decode b_Opn_keepPage 258 = .ok (.iload_n 2, 1) := by decide +kernel
theorem d_Opn_keepPage_259 : decode b_Opn_keepPage 259 = .ok (.iaload, 1) := by decide +kernel
theorem d_Opn_keepPage_260 : decode b_Opn_keepPage 260 = .ok (.isub, 1) := by decide +kernel
theorem d_Opn_keepPage_261 : decode b_Opn_keepPage 261 = .ok (.istore 9, 2) := by decide +kernel
theorem d_Opn_keepPage_263 : decode b_Opn_keepPage 263 = .ok (.aload_n 0, 1) := by decide +kernel
theorem d_Opn_keepPage_264 : decode b_Opn_keepPage 264 = .ok (.getfield 266, 3) := by decide +kernel
theorem d_Opn_keepPage_267 : decode b_Opn_keepPage 267 = .ok (.ifCond .le 103, 3) := by decide +kernel
theorem d_Opn_keepPage_270 : decode b_Opn_keepPage 270 = .ok (.aload_n 0, 1) := by decide +kernel
theorem d_Opn_keepPage_271 : decode b_Opn_keepPage 271 = .ok (.getfield 25, 3) := by decide +kernel
theorem d_Opn_keepPage_274 : decode b_Opn_keepPage 274 = .ok (.getfield 287, 3) := by decide +kernel
theorem d_Opn_keepPage_277 : decode b_Opn_keepPage 277 = .ok (.iload_n 3, 1) := by decide +kernel
theorem d_Opn_keepPage_278 : decode b_Opn_keepPage 278 = .ok (.laload, 1) := by decide +kernel
theorem d_Opn_keepPage_279 : decode b_Opn_keepPage 279 = .ok (.lstore 10, 2) := by decide +kernel
theorem d_Opn_keepPage_281 : decode b_Opn_keepPage 281 = .ok (.aload_n 0, 1) := by decide +kernel
theorem d_Opn_keepPage_282 : decode b_Opn_keepPage 282 = .ok (.getfield 25, 3) := by decide +kernel
theorem d_Opn_keepPage_285 : decode b_Opn_keepPage 285 = .ok (.getfield 290, 3) := by decide +kernel
theorem d_Opn_keepPage_288 : decode b_Opn_keepPage 288 = .ok (.iload_n 3, 1) := by decide +kernel
theorem d_Opn_keepPage_289 : decode b_Opn_keepPage 289 = .ok (.laload, 1) := by decide +kernel
theorem d_Opn_keepPage_290 : decode b_Opn_keepPage 290 = .ok (.lstore 12, 2) := by decide +kernel
theorem d_Opn_keepPage_292 : decode b_Opn_keepPage 292 = .ok (.iload 9, 2) := by decide +kernel
theorem d_Opn_keepPage_294 : decode b_Opn_keepPage 294 = .ok (.ifCond .eq 26, 3) := by decide +kernel
theorem d_Opn_keepPage_297 : decode b_Opn_keepPage 297 = .ok (.aload_n 0, 1) := by decide +kernel
theorem d_Opn_keepPage_298 : decode b_Opn_keepPage 298 = .ok (.getfield 25, 3) := by decide +kernel
theorem d_Opn_keepPage_301 : decode b_Opn_keepPage 301 = .ok (.iload 4, 2) := by decide +kernel
theorem d_Opn_keepPage_303 : decode b_Opn_keepPage 303 = .ok (.lload 10, 2) := by decide +kernel
theorem d_Opn_keepPage_305 : decode b_Opn_keepPage 305 = .ok (.aload_n 0, 1) := by decide +kernel
theorem d_Opn_keepPage_306 : decode b_Opn_keepPage 306 = .ok (.getfield 25, 3) := by decide +kernel
theorem d_Opn_keepPage_309 : decode b_Opn_keepPage 309 = .ok (.getfield 287, 3) := by decide +kernel
theorem d_Opn_keepPage_312 : decode b_Opn_keepPage 312 = .ok (.iload_n 2, 1) := by decide +kernel
theorem d_Opn_keepPage_313 : decode b_Opn_keepPage 313 = .ok (.laload, 1) := by decide +kernel
theorem d_Opn_keepPage_314 : decode b_Opn_keepPage 314 = .ok (.invokevirtual 346, 3) := by decide +kernel
theorem d_Opn_keepPage_317 : decode b_Opn_keepPage 317 = .ok (.ifCond .ge 14, 3) := by decide +kernel
theorem d_Opn_keepPage_96 : decode b_Opn_keepPage 96 = .ok (.aload_n 0, 1) := by decide +kernel
theorem d_Opn_keepPage_97 : decode b_Opn_keepPage 97 = .ok (.getfield 25, 3) := by decide +kernel
theorem d_Opn_keepPage_100 : decode b_Opn_keepPage 100 = .ok (.iload 9, 2) := by decide +kernel
theorem d_Opn_keepPage_102 : decode b_Opn_keepPage 102 = .ok (.iload_n 1, 1) := by decide +kernel
theorem d_Opn_keepPage_103 : decode b_Opn_keepPage 103 = .ok (.invokevirtual 356, 3) := by decide +kernel
theorem d_Opn_keepPage_106 : decode b_Opn_keepPage 106 = .ok (.istore 10, 2) := by decide +kernel
theorem d_Opn_keepPage_108 : decode b_Opn_keepPage 108 = .ok (.aload_n 0, 1) := by decide +kernel
theorem d_Opn_keepPage_109 : decode b_Opn_keepPage 109 = .ok (.getfield 25, 3) := by decide +kernel
theorem d_Opn_keepPage_112 : decode b_Opn_keepPage 112 = .ok (.getfield 359, 3) := by decide +kernel
theorem d_Opn_keepPage_115 : decode b_Opn_keepPage 115 = .ok (.iload 9, 2) := by decide +kernel
theorem d_Opn_keepPage_117 : decode b_Opn_keepPage 117 = .ok (.iload 10, 2) := by decide +kernel
theorem d_Opn_keepPage_119 : decode b_Opn_keepPage 119 = .ok (.ifCond .eq 13, 3) := by decide +kernel
theorem d_Opn_keepPage_132 : decode b_Opn_keepPage 132 = .ok (.lconst 0, 1) := by decide +kernel
theorem d_Opn_keepPage_122 : decode b_Opn_keepPage 122 = .ok (.aload_n 0, 1) := by decide +kernel
theorem d_Opn_keepPage_123 : decode b_Opn_keepPage 123 = .ok (.getfield 22, 3) := by decide +kernel
theorem d_Opn_keepPage_126 : decode b_Opn_keepPage 126 = .ok (.iload 8, 2) := by decide +kernel
theorem d_Opn_keepPage_128 : decode b_Opn_keepPage 128 = .ok (.laload, 1) := by decide +kernel
theorem d_Opn_keepPage_129 : decode b_Opn_keepPage 129 = .ok (.goto 4, 3) := by decide +kernel
theorem d_Opn_keepPage_0 : decode b_Opn_keepPage 0 = .ok (.aload_n 0, 1) := by decide +kernel
theorem d_Opn_keepPage_1 : decode b_Opn_keepPage 1 = .ok (.getfield 25, 3) := by decide +kernel
theorem d_Opn_keepPage_4 : decode b_Opn_keepPage 4 = .ok (.getfield 77, 3) := by decide +kernel
theorem d_Opn_keepPage_7 : decode b_Opn_keepPage 7 = .ok (.getfield 115, 3) := by decide +kernel
theorem d_Opn_keepPage_10 : decode b_Opn_keepPage 10 = .ok (.aload_n 0, 1) := by decide +kernel
theorem d_Opn_keepPage_11 : decode b_Opn_keepPage 11 = .ok (.getfield 25, 3) := by decide +kernel
theorem d_Opn_keepPage_14 : decode b_Opn_keepPage 14 = .ok (.getfield 77, 3) := by decide +kernel
theorem d_Opn_keepPage_17 : decode b_Opn_keepPage 17 = .ok (.getfield 118, 3) := by decide +kernel
theorem d_Opn_keepPage_20 : decode b_Opn_keepPage 20 = .ok (.iload_n 1, 1) := by decide +kernel
theorem d_Opn_keepPage_21 : decode b_Opn_keepPage 21 = .ok (.iaload, 1) := by decide +kernel
theorem d_Opn_keepPage_22 : decode b_Opn_keepPage 22 = .ok (.iaload, 1) := by decide +kernel
theorem d_Opn_keepPage_23 : decode b_Opn_keepPage 23 = .ok (.istore 4, 2) := by decide +kernel
theorem d_Opn_keepPage_25 : decode b_Opn_keepPage 25 = .ok (.aload_n 0, 1) := by decide +kernel
theorem d_Opn_keepPage_26 : decode b_Opn_keepPage 26 = .ok (.getfield 25, 3) := by decide +kernel
theorem d_Opn_keepPage_29 : decode b_Opn_keepPage 29 = .ok (.getfield 234, 3) := by decide +kernel
theorem d_Opn_keepPage_32 : decode b_Opn_keepPage 32 = .ok (.iload_n 3, 1) := by decide +kernel
theorem d_Opn_keepPage_33 : decode b_Opn_keepPage 33 = .ok (.iaload, 1) := by decide +kernel
theorem d_Opn_keepPage_34 : decode b_Opn_keepPage 34 = .ok (.istore 5, 2) := by decide +kernel
theorem d_Opn_keepPage_36 : decode b_Opn_keepPage 36 = .ok (.aload_n 0, 1) := by decide +kernel
theorem d_Opn_keepPage_37 : decode b_Opn_keepPage 37 = .ok (.getfield 9, 3) := by decide +kernel
theorem d_Opn_keepPage_40 : decode b_Opn_keepPage 40 = .ok (.iconst 0, 1) := by decide +kernel
theorem d_Opn_keepPage_41 : decode b_Opn_keepPage 41 = .ok (.iaload, 1) := by decide +kernel
theorem d_Opn_keepPage_42 : decode b_Opn_keepPage 42 = .ok (.istore 6, 2) := by decide +kernel
theorem d_Opn_keepPage_44 : decode b_Opn_keepPage 44 = .ok (.aload_n 0, 1) := by decide +kernel
theorem d_Opn_keepPage_45 : decode b_Opn_keepPage 45 = .ok (.getfield 25, 3) := by decide +kernel
theorem d_Opn_keepPage_48 : decode b_Opn_keepPage 48 = .ok (.getfield 195, 3) := by decide +kernel
theorem d_Opn_keepPage_51 : decode b_Opn_keepPage 51 = .ok (.iload 6, 2) := by decide +kernel
theorem d_Opn_keepPage_53 : decode b_Opn_keepPage 53 = .ok (.iconst 1, 1) := by decide +kernel
theorem d_Opn_keepPage_54 : decode b_Opn_keepPage 54 = .ok (.iadd, 1) := by decide +kernel
theorem d_Opn_keepPage_55 : decode b_Opn_keepPage 55 = .ok (.iaload, 1) := by decide +kernel
theorem d_Opn_keepPage_56 : decode b_Opn_keepPage 56 = .ok (.aload_n 0, 1) := by decide +kernel
theorem d_Opn_keepPage_57 : decode b_Opn_keepPage 57 = .ok (.getfield 25, 3) := by decide +kernel
theorem d_Opn_keepPage_60 : decode b_Opn_keepPage 60 = .ok (.getfield 195, 3) := by decide +kernel
theorem d_Opn_keepPage_63 : decode b_Opn_keepPage 63 = .ok (.iload 6, 2) := by decide +kernel
theorem d_Opn_keepPage_65 : decode b_Opn_keepPage 65 = .ok (.iaload, 1) := by decide +kernel
theorem d_Opn_keepPage_66 : decode b_Opn_keepPage 66 = .ok (.isub, 1) := by decide +kernel
theorem d_Opn_keepPage_67 : decode b_Opn_keepPage 67 = .ok (.istore 7, 2) := by decide +kernel
theorem d_Opn_keepPage_69 : decode b_Opn_keepPage 69 = .ok (.iconst 0, 1) := by decide +kernel
theorem d_Opn_keepPage_70 : decode b_Opn_keepPage 70 = .ok (.istore 8, 2) := by decide +kernel
theorem d_Opn_keepPage_72 : decode b_Opn_keepPage 72 = .ok (.aload_n 0, 1) := by decide +kernel
theorem d_Opn_keepPage_73 : decode b_Opn_keepPage 73 = .ok (.getfield 25, 3) := by decide +kernel
theorem d_Opn_keepPage_76 : decode b_Opn_keepPage 76 = .ok (.getfield 189, 3) := by decide +kernel
theorem d_Opn_keepPage_79 : decode b_Opn_keepPage 79 = .ok (.istore 9, 2) := by decide +kernel
section
variable (l : Launch) (dC : Nat → ClassId) (dI : Nat → Nat → Nat) (cI cB cJ cZ : ClassId)
set_option maxRecDepth 100000 in
set_option maxHeartbeats 4000000 in
set_option maxRecDepth 100000 in
theorem t_Vlt_compare_e {p : Program} {l : Launch} {e : Env} {R : Room} {s : State} {m : MethodId} {args : Array Value} {below : List Frame} {meth : Method} {c : Code} {cells slots : Nat} {Q : State → Prop} {dC : Nat → ClassId} {dI : Nat → Nat → Nat} {cI cB cJ cZ : ClassId} {A : Nat → Prop} {ad : Nat → Nat} {NN : Nat} {E : Heap} {tM tC : Nat} {kK kV : Nat → Nat} {post : Int32 → St → Prop} (hx : p.tables.exec = Jvm.exec) (hb : c.code = b_Vlt_compare) (hml : c.maxLocals = 6) (hown : s.vm.findClass R_Vlt = some m.cls) (hT : ∀ w ∈ TG, w.before args s = true) (hK : va_K (dC, dI) CL (TY cI cB cJ cZ) s) (hN : NW s) (hA : ∀ q : Nat, s.heap.size ≤ q → A q) (hRc : cells ≤ R.cells) (hRs : slots ≤ R.slots) (hRf : 2 ≤ R.frames) (hRl : 112 ≤ R.locals) (hNN : 152 ≤ NN) (hE : CE E tM tC kK kV A s) (hret : ∀ (r : Int32) (x : St) (H : Heap) (locs : List Loc) (pc : Nat) (ls : Array Slot), decode b_Vlt_compare pc = .ok (.ireturn, 1) → post r x → Wd dC dI cI cB cJ cZ ad stC kcC NN A x H → va_S A s.heap H locs → W p l e R s m args below meth c H locs cells slots Q (F0 m pc ls [.int r])) : ∀ (o : Nat) (l1 : Int32) (l2 : Int64) (l4 : Int64) (x : St) (H : Heap) (locs : List Loc) (ls : Array Slot), (o < NN ∧ kcC o = 6) → wp_Vlt_compare post o l1 l2 l4 x → Wd dC dI cI cB cJ cZ ad stC kcC NN A x H → va_S A s.heap H locs → lv_has ls 6 [(0, .ref (ad o)), (1, .int l1), (2, .long l2), (4, .long l4)] → W p l e R s m args below meth c H locs cells slots Q (F0 m 0 ls []) := by
  intro o l1 l2 l4 x H locs ls fo hw hW hS hl
  unfold wp_Vlt_compare at hw
  refine lv_iload_n hx hb d_Vlt_compare_0 rfl (lv_at hl 1 rfl) ?_
  refine lv_aload_n hx hb d_Vlt_compare_1 rfl (lv_at hl 0 rfl) ?_
  refine w_getf (q := (stC o 6)) (k := 6) (t := 6) (C := R_Vlt) (T := F_Vlt) (N := 20) hx hb hT hown hK hW fo.1 fo.2 (by decide) in_Vlt rfl rfl (by decide) rfl fr_Vlt_6 w_2_139 d_Vlt_compare_2 rfl ?_
  refine lv_lload_n hx hb d_Vlt_compare_5 rfl (lv_at hl 2 rfl) ?_
  refine lv_aload_n hx hb d_Vlt_compare_6 rfl (lv_at hl 0 rfl) ?_
  refine w_getf (q := (stC o 6)) (k := 6) (t := 6) (C := R_Vlt) (T := F_Vlt) (N := 20) hx hb hT hown hK hW fo.1 fo.2 (by decide) in_Vlt rfl rfl (by decide) rfl fr_Vlt_6 w_2_139 d_Vlt_compare_7 rfl ?_
  refine lv_lload hx hb d_Vlt_compare_10 (lv_at hl 3 rfl) ?_
  have hF := hW.free hS hA
  refine va_calli (va_runSN (As := [.int l1, .ref (ad (stC o 6)), .long l2, .ref (ad (stC o 6)), .long l4]) (rest := []) ⟨hx, hb, hml, hown, hT⟩ (k_V_compareValues l dC dI cI cB cJ cZ ad NN E tM tC kK kV hNN H.size l1 (stC o 6) l2 (stC o 6) l4 x (st_ty hNN fo.1 fo.2 rfl) (st_ty hNN fo.1 fo.2 rfl) hw) ⟨va_cnB 5 hT (gwt_in w_5_225) rfl rfl rfl (hN _ wn_7_33 rfl) (hT _ w_1_1) (by decide +kernel) ⟨Nat.le_trans (Nat.le_of_ble_eq_true rfl) hRf, Nat.le_trans (Nat.le_of_ble_eq_true rfl) hRl⟩, hT _ w_5_224, trivial⟩ ⟨PVc.blind, PVc.at _ hW hK hN hE hS hF⟩ rfl rfl hl.1 rfl (lv_room (Nat.le_of_ble_eq_true rfl)) d_Vlt_compare_12 ⟨hRc, hRs⟩) hS (fun q _ h => hF q h) hF (fun r2 x1 t H locs ht hvm hw hB hz1 hk1 hS => ?_)
  have hW := Wd.back hB ht hF
  clear hB ht hF hz1 hk1 hvm
  exact hret r2 x1 H locs 15 ls d_Vlt_compare_15 hw hW hS
set_option maxHeartbeats 4000000 in
set_option maxRecDepth 100000 in
theorem k_Vlt_compare (l : Launch) (dC : Nat → ClassId) (dI : Nat → Nat → Nat) (cI cB cJ cZ : ClassId) (ad : Nat → Nat) (NN : Nat) (E : Heap) (tM tC : Nat) (kK kV : Nat → Nat) (hNN : 152 ≤ NN) (sz : Nat) (o : Nat) (l1 : Int32) (l2 : Int64) (l4 : Int64) (x : St) (fo : o < NN ∧ kcC o = 6) {post : Int32 → St → Prop} (hw : wp_Vlt_compare post o l1 l2 l4 x) : Met l y_Vlt_compare (wsOf y_Vlt_compare b_Vlt_compare 6 (some (.int))) ({ frames := 2, cells := 0, slots := 0, locals := 112 }) (va_Pc [.ref (ad o), .int l1, .long l2, .long l4] (PVc dC dI cI cB cJ cZ ad stC kcC NN E tM tC kK kV sz x)) (va_Qi (fun (r : Int32) (y : St) => post r y) (fun y t => Wd dC dI cI cB cJ cZ ad stC kcC NN (va_A (pic ad stC kcC NN cI cB cJ cZ x) sz) y t.heap) (va_A (pic ad stC kcC NN cI cB cJ cZ x) sz)) 0 0 (va_A (pic ad stC kcC NN cI cB cJ cZ x) sz) := by
  refine Met.ofW (cc := b_Vlt_compare) (maxL := 6) (ret := some (.int)) (by decide) rfl ?_
  intro p e s m args below meth c s₁ B hml hv
  obtain ⟨rfl, ⟨hsz, hW0, hK, hN⟩, hE⟩ := hv
  have hx := B.exec
  have hb := B.bytes
  have hr := B.returns
  have hts := atoms_spec B.pre
  have hT : ∀ w ∈ TG, w.before _ s = true := fun w h => hts w (List.mem_cons_of_mem _ h)
  have hown : s.vm.findClass R_Vlt = some m.cls := findClass_of_methodNamed B.named
  have hlocks := B.notSynchronized
  subst hsz
  have hW : Wd dC dI cI cB cJ cZ ad stC kcC NN (va_A (pic ad stC kcC NN cI cB cJ cZ x) s.heap.size) x s.heap := ⟨hW0.1, hW0.2.1.self (sz := s.heap.size), hW0.2.2⟩
  generalize hAe : va_A (pic ad stC kcC NN cI cB cJ cZ x) s.heap.size = A at hW hE ⊢
  have hA : ∀ q : Nat, s.heap.size ≤ q → A q := fun q h => by rw [← hAe]; exact Or.inr h
  have hS : va_S A s.heap s.heap [] := va_S.rf
  have hl := lv_entry ([.ref (ad o), .int l1, .long l2, .long l4]) (n := 6) (Nat.le_of_ble_eq_true rfl)
  rw [lg_entry_eq]
  generalize (lg_sl ([.ref (ad o), .int l1, .long l2, .long l4]) ++ List.replicate (6 - (lg_sl ([.ref (ad o), .int l1, .long l2, .long l4])).length) Slot.unset).toArray = ls at hl ⊢
  have hl : lv_has ls 6 [(0, .ref (ad o)), (1, .int l1), (2, .long l2), (4, .long l4)] := hl
  exact t_Vlt_compare_e hx hb hml hown hT hK hN hA (Nat.le_refl 0) (Nat.le_refl 0) (Nat.le_refl 2) (Nat.le_refl 112) hNN hE (fun r x H locs pc ls hd hp hW hS => W.iret (v := r) hx hb hr (fun t ht hM => ⟨⟨r, x, rfl, hp, Wd.back hW ht.symm (fun _ z => z)⟩, hS.F ht⟩) hS.2.2 hd hlocks)  o l1 l2 l4 x _ _ ls fo hw hW hS hl
set_option maxRecDepth 100000 in
set_option maxHeartbeats 4000000 in
set_option maxRecDepth 100000 in
theorem t_Opn_checkBounds_173 {p : Program} {l : Launch} {e : Env} {R : Room} {s : State} {m : MethodId} {args : Array Value} {below : List Frame} {meth : Method} {c : Code} {cells slots : Nat} {Q : State → Prop} {dC : Nat → ClassId} {dI : Nat → Nat → Nat} {cI cB cJ cZ : ClassId} {A : Nat → Prop} {ad : Nat → Nat} {NN : Nat} {E : Heap} {tM tC : Nat} {kK kV : Nat → Nat} {post : St → Prop} (hx : p.tables.exec = Jvm.exec) (hb : c.code = b_Opn_checkBounds) (hml : c.maxLocals = 8) (hown : s.vm.findClass R_Opn = some m.cls) (hT : ∀ w ∈ TG, w.before args s = true) (hK : va_K (dC, dI) CL (TY cI cB cJ cZ) s) (hN : NW s) (hA : ∀ q : Nat, s.heap.size ≤ q → A q) (hRc : cells ≤ R.cells) (hRs : slots ≤ R.slots) (hRf : 3 ≤ R.frames) (hRl : 137 ≤ R.locals) (hNN : 152 ≤ NN) (hE : CE E tM tC kK kV A s) (hret : ∀ (x : St) (H : Heap) (locs : List Loc) (pc : Nat) (ls : Array Slot), decode b_Opn_checkBounds pc = .ok (.return_, 1) → post x → Wd dC dI cI cB cJ cZ ad stC kcC NN A x H → va_S A s.heap H locs → W p l e R s m args below meth c H locs cells slots Q (F0 m pc ls []))  : ∀ (o : Nat) (l1 : Int32) (l2 : Int32) (l3 : Int64) (l5 : Int64) (l7 : Int32) (s0 : Int32) (s1 : Nat) (x : St) (H : Heap) (locs : List Loc) (ls : Array Slot), (o < NN ∧ kcC o = 7) → (s1 < NN ∧ kcC s1 = 8) → j_Opn_checkBounds_173 post o l1 l2 l3 l5 l7 s0 s1 x → Wd dC dI cI cB cJ cZ ad stC kcC NN A x H → va_S A s.heap H locs → lv_has ls 8 [(0, .ref (ad o)), (1, .int l1), (2, .int l2), (3, .long l3), (5, .long l5), (7, .int l7)] → W p l e R s m args below meth c H locs cells slots Q (F0 m 173 ls [.int s0, .ref (ad s1)]) := by
  intro o l1 l2 l3 l5 l7 s0 s1 x H locs ls fo fs1 hw hW hS hl
  unfold j_Opn_checkBounds_173 at hw
  refine lv_bipush (v := 12) hx hb d_Opn_checkBounds_173 (by decide) ?_
  have hF := hW.free hS hA
  refine va_callv (va_runV (C := R_Src) (As := [.int s0, .int 12]) (rest := []) ⟨hx, hb, hml, hown, hT⟩ (k_Src_check l dC dI cI cB cJ cZ ad NN E tM tC kK kV hNN H.size s1 s0 12 x fs1 hw) ⟨callB_of 2 hT (gwt_in w_6_116) rfl rfl rfl (hT _ w_1_11) (hT _ w_6_113) (by decide +kernel) ⟨Nat.le_trans (Nat.le_of_ble_eq_true rfl) hRf, Nat.le_trans (Nat.le_of_ble_eq_true rfl) hRl⟩, hT _ w_6_114, hT _ w_6_115⟩ ⟨PVc.blind, va_recv hK hW.1 (ci := 8) (q0 := s1) rfl (pic_obj fs1.1 fs1.2 (by decide)), PVc.at _ hW hK hN hE hS hF⟩ rfl rfl hl.1 rfl (lv_room (Nat.le_of_ble_eq_true rfl)) d_Opn_checkBounds_175 ⟨hRc, hRs⟩) hS (fun q _ h => hF q h) hF (fun  x1 t H locs ht hvm hw hB hz1 hk1 hS => ?_)
  have hW := Wd.back hB ht hF
  clear hB ht hF hz1 hk1 hvm
  exact hret x1 H locs 178 ls d_Opn_checkBounds_178 hw hW hS
set_option maxRecDepth 100000 in
set_option maxHeartbeats 4000000 in
set_option maxRecDepth 100000 in
theorem t_Opn_checkBounds_137 {p : Program} {l : Launch} {e : Env} {R : Room} {s : State} {m : MethodId} {args : Array Value} {below : List Frame} {meth : Method} {c : Code} {cells slots : Nat} {Q : State → Prop} {dC : Nat → ClassId} {dI : Nat → Nat → Nat} {cI cB cJ cZ : ClassId} {A : Nat → Prop} {ad : Nat → Nat} {NN : Nat} {E : Heap} {tM tC : Nat} {kK kV : Nat → Nat} {post : St → Prop} (hx : p.tables.exec = Jvm.exec) (hb : c.code = b_Opn_checkBounds) (hml : c.maxLocals = 8) (hown : s.vm.findClass R_Opn = some m.cls) (hT : ∀ w ∈ TG, w.before args s = true) (hK : va_K (dC, dI) CL (TY cI cB cJ cZ) s) (hN : NW s) (hA : ∀ q : Nat, s.heap.size ≤ q → A q) (hRc : cells ≤ R.cells) (hRs : slots ≤ R.slots) (hRf : 3 ≤ R.frames) (hRl : 137 ≤ R.locals) (hNN : 152 ≤ NN) (hE : CE E tM tC kK kV A s) (hret : ∀ (x : St) (H : Heap) (locs : List Loc) (pc : Nat) (ls : Array Slot), decode b_Opn_checkBounds pc = .ok (.return_, 1) → post x → Wd dC dI cI cB cJ cZ ad stC kcC NN A x H → va_S A s.heap H locs → W p l e R s m args below meth c H locs cells slots Q (F0 m pc ls []))  : ∀ (o : Nat) (l1 : Int32) (l2 : Int32) (l3 : Int64) (l5 : Int64) (l7 : Int32) (s0 : Int32) (s1 : Nat) (x : St) (H : Heap) (locs : List Loc) (ls : Array Slot), (o < NN ∧ kcC o = 7) → (s1 < NN ∧ kcC s1 = 8) → j_Opn_checkBounds_137 post o l1 l2 l3 l5 l7 s0 s1 x → Wd dC dI cI cB cJ cZ ad stC kcC NN A x H → va_S A s.heap H locs → lv_has ls 8 [(0, .ref (ad o)), (1, .int l1), (2, .int l2), (3, .long l3), (5, .long l5), (7, .int l7)] → W p l e R s m args below meth c H locs cells slots Q (F0 m 137 ls [.int s0, .ref (ad s1)]) := by
  intro o l1 l2 l3 l5 l7 s0 s1 x H locs ls fo fs1 hw hW hS hl
  unfold j_Opn_checkBounds_137 at hw
  refine lv_bipush (v := 11) hx hb d_Opn_checkBounds_137 (by decide) ?_
  have hF := hW.free hS hA
  refine va_callv (va_runV (C := R_Src) (As := [.int s0, .int 11]) (rest := []) ⟨hx, hb, hml, hown, hT⟩ (k_Src_check l dC dI cI cB cJ cZ ad NN E tM tC kK kV hNN H.size s1 s0 11 x fs1 hw) ⟨callB_of 2 hT (gwt_in w_6_116) rfl rfl rfl (hT _ w_1_11) (hT _ w_6_113) (by decide +kernel) ⟨Nat.le_trans (Nat.le_of_ble_eq_true rfl) hRf, Nat.le_trans (Nat.le_of_ble_eq_true rfl) hRl⟩, hT _ w_6_114, hT _ w_6_115⟩ ⟨PVc.blind, va_recv hK hW.1 (ci := 8) (q0 := s1) rfl (pic_obj fs1.1 fs1.2 (by decide)), PVc.at _ hW hK hN hE hS hF⟩ rfl rfl hl.1 rfl (lv_room (Nat.le_of_ble_eq_true rfl)) d_Opn_checkBounds_139 ⟨hRc, hRs⟩) hS (fun q _ h => hF q h) hF (fun  x2 t H locs ht hvm hw hB hz1 hk1 hS => ?_)
  have hW := Wd.back hB ht hF
  clear hB ht hF hz1 hk1 hvm
  refine lv_aload_n hx hb d_Opn_checkBounds_142 rfl (lv_at hl 0 rfl) ?_
  refine w_getf (q := (stC o 2)) (k := 2) (t := 7) (C := R_Opn) (T := F_Opn) (N := 17) hx hb hT hown hK hW fo.1 fo.2 (by decide) in_Opn rfl rfl (by decide) rfl fr_Opn_2 w_3_17 d_Opn_checkBounds_143 rfl ?_
  refine lv_aload_n hx hb d_Opn_checkBounds_146 rfl (lv_at hl 0 rfl) ?_
  refine w_getf (q := (stC o 0)) (k := 0) (t := 7) (C := R_Opn) (T := F_Opn) (N := 17) hx hb hT hown hK hW fo.1 fo.2 (by decide) in_Opn rfl rfl (by decide) rfl fr_Opn_0 w_3_15 d_Opn_checkBounds_147 rfl ?_
  refine lv_iload_n hx hb d_Opn_checkBounds_150 rfl (lv_at hl 1 rfl) ?_
  refine lv_lload hx hb d_Opn_checkBounds_151 (lv_at hl 4 rfl) ?_
  refine lv_aload_n hx hb d_Opn_checkBounds_153 rfl (lv_at hl 0 rfl) ?_
  refine w_getf (q := (stC o 0)) (k := 0) (t := 7) (C := R_Opn) (T := F_Opn) (N := 17) hx hb hT hown hK hW fo.1 fo.2 (by decide) in_Opn rfl rfl (by decide) rfl fr_Opn_0 w_3_15 d_Opn_checkBounds_154 rfl ?_
  refine w_getf (q := (stC (stC o 0) 17)) (k := 17) (t := 6) (C := R_Vlt) (T := F_Vlt) (N := 20) hx hb hT hown hK hW (st_ty hNN fo.1 fo.2 rfl).1 (st_ty hNN fo.1 fo.2 rfl).2 (by decide) in_Vlt rfl rfl (by decide) rfl fr_Vlt_17 w_2_175 d_Opn_checkBounds_157 rfl ?_
  refine lv_iload_n hx hb d_Opn_checkBounds_160 rfl (lv_at hl 2 rfl) ?_
  obtain ⟨hi, hw⟩ := hw
  refine w_lald (o := (stC (stC o 0) 17)) hx hb hK hW (st_ty hNN (st_ty hNN fo.1 fo.2 rfl).1 (st_ty hNN fo.1 fo.2 rfl).2 rfl).1 (st_ty hNN (st_ty hNN fo.1 fo.2 rfl).1 (st_ty hNN fo.1 fo.2 rfl).2 rfl).2 hi d_Opn_checkBounds_161 ?_
  have hF := hW.free hS hA
  refine va_calli (va_runV (C := R_Vlt) (As := [.int l1, .long l5, .long (rL x2 (stC (stC o 0) 17) l2)]) (rest := [.ref (ad (stC o 2))]) ⟨hx, hb, hml, hown, hT⟩ (k_Vlt_compare l dC dI cI cB cJ cZ ad NN E tM tC kK kV hNN H.size (stC o 0) l1 l5 (rL x2 (stC (stC o 0) 17) l2) x2 (st_ty hNN fo.1 fo.2 rfl) hw) ⟨callB_of 3 hT (gwt_in w_7_32) rfl rfl rfl (hT _ w_1_9) (hT _ w_7_29) (by decide +kernel) ⟨Nat.le_trans (Nat.le_of_ble_eq_true rfl) hRf, Nat.le_trans (Nat.le_of_ble_eq_true rfl) hRl⟩, hT _ w_7_30, hT _ w_7_31⟩ ⟨PVc.blind, va_recv hK hW.1 (ci := 6) (q0 := (stC o 0)) rfl (pic_obj (st_ty hNN fo.1 fo.2 rfl).1 (st_ty hNN fo.1 fo.2 rfl).2 (by decide)), PVc.at _ hW hK hN hE hS hF⟩ rfl rfl hl.1 rfl (lv_room (Nat.le_of_ble_eq_true rfl)) d_Opn_checkBounds_162 ⟨hRc, hRs⟩) hS (fun q _ h => hF q h) hF (fun r4 x3 t H locs ht hvm hw hB hz1 hk1 hS => ?_)
  have hW := Wd.back hB ht hF
  clear hB ht hF hz1 hk1 hvm
  refine lv_if_ne (tgt := 172) hx hb d_Opn_checkBounds_165 (by decide) (fun c5 => ?_) (fun c5 => ?_)
  · have hw := hw.1 c5
    refine lv_iconst (v := 0) hx hb d_Opn_checkBounds_172 (by decide) ?_
    exact t_Opn_checkBounds_173 hx hb hml hown hT hK hN hA hRc hRs hRf hRl hNN hE hret  o l1 l2 l3 l5 l7 0 (stC o 2) x3 H locs ls fo (st_ty hNN fo.1 fo.2 rfl) hw hW hS (lv_sub hl [0, 1, 2, 3, 4, 5] rfl)
  · have hw := hw.2 c5
    refine lv_iconst (v := 1) hx hb d_Opn_checkBounds_168 (by decide) ?_
    refine lv_goto (tgt := 173) hx hb d_Opn_checkBounds_169 (by decide) ?_
    exact t_Opn_checkBounds_173 hx hb hml hown hT hK hN hA hRc hRs hRf hRl hNN hE hret  o l1 l2 l3 l5 l7 1 (stC o 2) x3 H locs ls fo (st_ty hNN fo.1 fo.2 rfl) hw hW hS (lv_sub hl [0, 1, 2, 3, 4, 5] rfl)
set_option maxRecDepth 100000 in
set_option maxHeartbeats 4000000 in
set_option maxRecDepth 100000 in
theorem t_Opn_checkBounds_101 {p : Program} {l : Launch} {e : Env} {R : Room} {s : State} {m : MethodId} {args : Array Value} {below : List Frame} {meth : Method} {c : Code} {cells slots : Nat} {Q : State → Prop} {dC : Nat → ClassId} {dI : Nat → Nat → Nat} {cI cB cJ cZ : ClassId} {A : Nat → Prop} {ad : Nat → Nat} {NN : Nat} {E : Heap} {tM tC : Nat} {kK kV : Nat → Nat} {post : St → Prop} {rec36 : Nat → Int32 → Int32 → Int64 → Int64 → Int32 → St → Prop} (hx : p.tables.exec = Jvm.exec) (hb : c.code = b_Opn_checkBounds) (hml : c.maxLocals = 8) (hown : s.vm.findClass R_Opn = some m.cls) (hT : ∀ w ∈ TG, w.before args s = true) (hK : va_K (dC, dI) CL (TY cI cB cJ cZ) s) (hN : NW s) (hA : ∀ q : Nat, s.heap.size ≤ q → A q) (hRc : cells ≤ R.cells) (hRs : slots ≤ R.slots) (hRf : 3 ≤ R.frames) (hRl : 137 ≤ R.locals) (hNN : 152 ≤ NN) (hE : CE E tM tC kK kV A s) (hret : ∀ (x : St) (H : Heap) (locs : List Loc) (pc : Nat) (ls : Array Slot), decode b_Opn_checkBounds pc = .ok (.return_, 1) → post x → Wd dC dI cI cB cJ cZ ad stC kcC NN A x H → va_S A s.heap H locs → W p l e R s m args below meth c H locs cells slots Q (F0 m pc ls [])) (hrec36 : ∀ (o : Nat) (l1 : Int32) (l2 : Int32) (l3 : Int64) (l5 : Int64) (l7 : Int32) (x : St) (H : Heap) (locs : List Loc) (ls : Array Slot), (o < NN ∧ kcC o = 7) → rec36 o l1 l2 l3 l5 l7 x → Wd dC dI cI cB cJ cZ ad stC kcC NN A x H → va_S A s.heap H locs → lv_has ls 8 [(0, .ref (ad o)), (1, .int l1), (2, .int l2), (3, .long l3), (5, .long l5), (7, .int l7)] → W p l e R s m args below meth c H locs cells slots Q (F0 m 36 ls [])) : ∀ (o : Nat) (l1 : Int32) (l2 : Int32) (l3 : Int64) (l5 : Int64) (l7 : Int32) (x : St) (H : Heap) (locs : List Loc) (ls : Array Slot), (o < NN ∧ kcC o = 7) → j_Opn_checkBounds_101 post rec36 o l1 l2 l3 l5 l7 x → Wd dC dI cI cB cJ cZ ad stC kcC NN A x H → va_S A s.heap H locs → lv_has ls 8 [(0, .ref (ad o)), (1, .int l1), (2, .int l2), (3, .long l3), (5, .long l5), (7, .int l7)] → W p l e R s m args below meth c H locs cells slots Q (F0 m 101 ls []) := by
  intro o l1 l2 l3 l5 l7 x H locs ls fo hw hW hS hl
  unfold j_Opn_checkBounds_101 at hw
  refine lv_iinc (v := (l7 + 1)) (lv' := [(7, .int (l7 + 1)), (0, .ref (ad o)), (1, .int l1), (2, .int l2), (3, .long l3), (5, .long l5)]) hx hb d_Opn_checkBounds_101 hl (k := 5) rfl rfl (by decide) rfl (fun ls hl => ?_)
  refine lv_goto (tgt := 36) hx hb d_Opn_checkBounds_104 (by decide) ?_
  exact hrec36 o l1 l2 l3 l5 (l7 + 1) x H locs ls fo hw hW hS (lv_sub hl [1, 2, 3, 4, 5, 0] rfl)
set_option maxRecDepth 100000 in
set_option maxHeartbeats 4000000 in
set_option maxRecDepth 100000 in
theorem t_Opn_checkBounds_72 {p : Program} {l : Launch} {e : Env} {R : Room} {s : State} {m : MethodId} {args : Array Value} {below : List Frame} {meth : Method} {c : Code} {cells slots : Nat} {Q : State → Prop} {dC : Nat → ClassId} {dI : Nat → Nat → Nat} {cI cB cJ cZ : ClassId} {A : Nat → Prop} {ad : Nat → Nat} {NN : Nat} {E : Heap} {tM tC : Nat} {kK kV : Nat → Nat} {post : St → Prop} {rec36 : Nat → Int32 → Int32 → Int64 → Int64 → Int32 → St → Prop} (hx : p.tables.exec = Jvm.exec) (hb : c.code = b_Opn_checkBounds) (hml : c.maxLocals = 8) (hown : s.vm.findClass R_Opn = some m.cls) (hT : ∀ w ∈ TG, w.before args s = true) (hK : va_K (dC, dI) CL (TY cI cB cJ cZ) s) (hN : NW s) (hA : ∀ q : Nat, s.heap.size ≤ q → A q) (hRc : cells ≤ R.cells) (hRs : slots ≤ R.slots) (hRf : 3 ≤ R.frames) (hRl : 137 ≤ R.locals) (hNN : 152 ≤ NN) (hE : CE E tM tC kK kV A s) (hret : ∀ (x : St) (H : Heap) (locs : List Loc) (pc : Nat) (ls : Array Slot), decode b_Opn_checkBounds pc = .ok (.return_, 1) → post x → Wd dC dI cI cB cJ cZ ad stC kcC NN A x H → va_S A s.heap H locs → W p l e R s m args below meth c H locs cells slots Q (F0 m pc ls [])) (hrec36 : ∀ (o : Nat) (l1 : Int32) (l2 : Int32) (l3 : Int64) (l5 : Int64) (l7 : Int32) (x : St) (H : Heap) (locs : List Loc) (ls : Array Slot), (o < NN ∧ kcC o = 7) → rec36 o l1 l2 l3 l5 l7 x → Wd dC dI cI cB cJ cZ ad stC kcC NN A x H → va_S A s.heap H locs → lv_has ls 8 [(0, .ref (ad o)), (1, .int l1), (2, .int l2), (3, .long l3), (5, .long l5), (7, .int l7)] → W p l e R s m args below meth c H locs cells slots Q (F0 m 36 ls [])) : ∀ (o : Nat) (l1 : Int32) (l2 : Int32) (l3 : Int64) (l5 : Int64) (l7 : Int32) (x : St) (H : Heap) (locs : List Loc) (ls : Array Slot), (o < NN ∧ kcC o = 7) → j_Opn_checkBounds_72 post rec36 o l1 l2 l3 l5 l7 x → Wd dC dI cI cB cJ cZ ad stC kcC NN A x H → va_S A s.heap H locs → lv_has ls 8 [(0, .ref (ad o)), (1, .int l1), (2, .int l2), (3, .long l3), (5, .long l5), (7, .int l7)] → W p l e R s m args below meth c H locs cells slots Q (F0 m 72 ls []) := by
  intro o l1 l2 l3 l5 l7 x H locs ls fo hw hW hS hl
  unfold j_Opn_checkBounds_72 at hw
  refine lv_aload_n hx hb d_Opn_checkBounds_72 rfl (lv_at hl 0 rfl) ?_
  refine w_getf (q := (stC o 0)) (k := 0) (t := 7) (C := R_Opn) (T := F_Opn) (N := 17) hx hb hT hown hK hW fo.1 fo.2 (by decide) in_Opn rfl rfl (by decide) rfl fr_Opn_0 w_3_15 d_Opn_checkBounds_73 rfl ?_
  refine lv_iload_n hx hb d_Opn_checkBounds_76 rfl (lv_at hl 1 rfl) ?_
  refine lv_aload_n hx hb d_Opn_checkBounds_77 rfl (lv_at hl 0 rfl) ?_
  refine w_getf (q := (stC o 8)) (k := 8) (t := 7) (C := R_Opn) (T := F_Opn) (N := 17) hx hb hT hown hK hW fo.1 fo.2 (by decide) in_Opn rfl rfl (by decide) rfl fr_Opn_8 w_3_24 d_Opn_checkBounds_78 rfl ?_
  refine lv_iload hx hb d_Opn_checkBounds_81 (lv_at hl 5 rfl) ?_
  obtain ⟨hi, hw⟩ := hw
  refine w_lald (o := (stC o 8)) hx hb hK hW (st_ty hNN fo.1 fo.2 rfl).1 (st_ty hNN fo.1 fo.2 rfl).2 hi d_Opn_checkBounds_83 ?_
  refine lv_lload hx hb d_Opn_checkBounds_84 (lv_at hl 4 rfl) ?_
  have hF := hW.free hS hA
  refine va_calli (va_runV (C := R_Vlt) (As := [.int l1, .long (rL x (stC o 8) l7), .long l5]) (rest := []) ⟨hx, hb, hml, hown, hT⟩ (k_Vlt_compare l dC dI cI cB cJ cZ ad NN E tM tC kK kV hNN H.size (stC o 0) l1 (rL x (stC o 8) l7) l5 x (st_ty hNN fo.1 fo.2 rfl) hw) ⟨callB_of 3 hT (gwt_in w_7_32) rfl rfl rfl (hT _ w_1_9) (hT _ w_7_29) (by decide +kernel) ⟨Nat.le_trans (Nat.le_of_ble_eq_true rfl) hRf, Nat.le_trans (Nat.le_of_ble_eq_true rfl) hRl⟩, hT _ w_7_30, hT _ w_7_31⟩ ⟨PVc.blind, va_recv hK hW.1 (ci := 6) (q0 := (stC o 0)) rfl (pic_obj (st_ty hNN fo.1 fo.2 rfl).1 (st_ty hNN fo.1 fo.2 rfl).2 (by decide)), PVc.at _ hW hK hN hE hS hF⟩ rfl rfl hl.1 rfl (lv_room (Nat.le_of_ble_eq_true rfl)) d_Opn_checkBounds_86 ⟨hRc, hRs⟩) hS (fun q _ h => hF q h) hF (fun r7 x6 t H locs ht hvm hw hB hz1 hk1 hS => ?_)
  have hW := Wd.back hB ht hF
  clear hB ht hF hz1 hk1 hvm
  refine lv_if_le (tgt := 101) hx hb d_Opn_checkBounds_89 (by decide) (fun c8 => ?_) (fun c8 => ?_)
  · have hw := hw.1 c8
    exact t_Opn_checkBounds_101 hx hb hml hown hT hK hN hA hRc hRs hRf hRl hNN hE hret hrec36 o l1 l2 l3 l5 l7 x6 H locs ls fo hw hW hS (lv_sub hl [0, 1, 2, 3, 4, 5] rfl)
  · have hw := hw.2 c8
    refine lv_aload_n hx hb d_Opn_checkBounds_92 rfl (lv_at hl 0 rfl) ?_
    refine w_getf (q := (stC o 8)) (k := 8) (t := 7) (C := R_Opn) (T := F_Opn) (N := 17) hx hb hT hown hK hW fo.1 fo.2 (by decide) in_Opn rfl rfl (by decide) rfl fr_Opn_8 w_3_24 d_Opn_checkBounds_93 rfl ?_
    refine lv_iload hx hb d_Opn_checkBounds_96 (lv_at hl 5 rfl) ?_
    obtain ⟨hi, hw⟩ := hw
    refine w_lald (o := (stC o 8)) hx hb hK hW (st_ty hNN fo.1 fo.2 rfl).1 (st_ty hNN fo.1 fo.2 rfl).2 hi d_Opn_checkBounds_98 ?_
    refine lv_topl (fun v9 ev9 => ?_)
    have hw := hw v9 ev9
    refine lv_lstore (lv' := [(5, .long v9), (0, .ref (ad o)), (1, .int l1), (2, .int l2), (3, .long l3), (7, .int l7)]) hx hb d_Opn_checkBounds_99 hl (by decide) rfl (fun ls hl => ?_)
    exact t_Opn_checkBounds_101 hx hb hml hown hT hK hN hA hRc hRs hRf hRl hNN hE hret hrec36 o l1 l2 l3 v9 l7 x6 H locs ls fo hw hW hS (lv_sub hl [1, 2, 3, 4, 0, 5] rfl)
set_option maxRecDepth 100000 in
set_option maxHeartbeats 4000000 in
set_option maxRecDepth 100000 in
theorem t_Opn_checkBounds_36 {p : Program} {l : Launch} {e : Env} {R : Room} {s : State} {m : MethodId} {args : Array Value} {below : List Frame} {meth : Method} {c : Code} {cells slots : Nat} {Q : State → Prop} {dC : Nat → ClassId} {dI : Nat → Nat → Nat} {cI cB cJ cZ : ClassId} {A : Nat → Prop} {ad : Nat → Nat} {NN : Nat} {E : Heap} {tM tC : Nat} {kK kV : Nat → Nat} {post : St → Prop} {rec36 : Nat → Int32 → Int32 → Int64 → Int64 → Int32 → St → Prop} (hx : p.tables.exec = Jvm.exec) (hb : c.code = b_Opn_checkBounds) (hml : c.maxLocals = 8) (hown : s.vm.findClass R_Opn = some m.cls) (hT : ∀ w ∈ TG, w.before args s = true) (hK : va_K (dC, dI) CL (TY cI cB cJ cZ) s) (hN : NW s) (hA : ∀ q : Nat, s.heap.size ≤ q → A q) (hRc : cells ≤ R.cells) (hRs : slots ≤ R.slots) (hRf : 3 ≤ R.frames) (hRl : 137 ≤ R.locals) (hNN : 152 ≤ NN) (hE : CE E tM tC kK kV A s) (hret : ∀ (x : St) (H : Heap) (locs : List Loc) (pc : Nat) (ls : Array Slot), decode b_Opn_checkBounds pc = .ok (.return_, 1) → post x → Wd dC dI cI cB cJ cZ ad stC kcC NN A x H → va_S A s.heap H locs → W p l e R s m args below meth c H locs cells slots Q (F0 m pc ls [])) (hrec36 : ∀ (o : Nat) (l1 : Int32) (l2 : Int32) (l3 : Int64) (l5 : Int64) (l7 : Int32) (x : St) (H : Heap) (locs : List Loc) (ls : Array Slot), (o < NN ∧ kcC o = 7) → rec36 o l1 l2 l3 l5 l7 x → Wd dC dI cI cB cJ cZ ad stC kcC NN A x H → va_S A s.heap H locs → lv_has ls 8 [(0, .ref (ad o)), (1, .int l1), (2, .int l2), (3, .long l3), (5, .long l5), (7, .int l7)] → W p l e R s m args below meth c H locs cells slots Q (F0 m 36 ls [])) : ∀ (o : Nat) (l1 : Int32) (l2 : Int32) (l3 : Int64) (l5 : Int64) (l7 : Int32) (x : St) (H : Heap) (locs : List Loc) (ls : Array Slot), (o < NN ∧ kcC o = 7) → j_Opn_checkBounds_36 post rec36 o l1 l2 l3 l5 l7 x → Wd dC dI cI cB cJ cZ ad stC kcC NN A x H → va_S A s.heap H locs → lv_has ls 8 [(0, .ref (ad o)), (1, .int l1), (2, .int l2), (3, .long l3), (5, .long l5), (7, .int l7)] → W p l e R s m args below meth c H locs cells slots Q (F0 m 36 ls []) := by
  intro o l1 l2 l3 l5 l7 x H locs ls fo hw hW hS hl
  unfold j_Opn_checkBounds_36 at hw
  refine lv_iload hx hb d_Opn_checkBounds_36 (lv_at hl 5 rfl) ?_
  refine lv_aload_n hx hb d_Opn_checkBounds_38 rfl (lv_at hl 0 rfl) ?_
  refine w_geti (k := 9) (t := 7) (C := R_Opn) (T := F_Opn) (N := 17) hx hb hT hown hK hW fo.1 fo.2 (by decide) in_Opn rfl rfl (by decide) rfl fr_Opn_9 w_3_25 d_Opn_checkBounds_39 ?_
  refine lv_icmp_ge (tgt := 107) hx hb d_Opn_checkBounds_42 (by decide) (fun c10 => ?_) (fun c10 => ?_)
  · have hw := hw.1 c10
    refine lv_aload_n hx hb d_Opn_checkBounds_107 rfl (lv_at hl 0 rfl) ?_
    refine w_getf (q := (stC o 2)) (k := 2) (t := 7) (C := R_Opn) (T := F_Opn) (N := 17) hx hb hT hown hK hW fo.1 fo.2 (by decide) in_Opn rfl rfl (by decide) rfl fr_Opn_2 w_3_17 d_Opn_checkBounds_108 rfl ?_
    refine lv_aload_n hx hb d_Opn_checkBounds_111 rfl (lv_at hl 0 rfl) ?_
    refine w_getf (q := (stC o 0)) (k := 0) (t := 7) (C := R_Opn) (T := F_Opn) (N := 17) hx hb hT hown hK hW fo.1 fo.2 (by decide) in_Opn rfl rfl (by decide) rfl fr_Opn_0 w_3_15 d_Opn_checkBounds_112 rfl ?_
    refine lv_iload_n hx hb d_Opn_checkBounds_115 rfl (lv_at hl 1 rfl) ?_
    refine lv_lload_n hx hb d_Opn_checkBounds_116 rfl (lv_at hl 3 rfl) ?_
    refine lv_aload_n hx hb d_Opn_checkBounds_117 rfl (lv_at hl 0 rfl) ?_
    refine w_getf (q := (stC o 0)) (k := 0) (t := 7) (C := R_Opn) (T := F_Opn) (N := 17) hx hb hT hown hK hW fo.1 fo.2 (by decide) in_Opn rfl rfl (by decide) rfl fr_Opn_0 w_3_15 d_Opn_checkBounds_118 rfl ?_
    refine w_getf (q := (stC (stC o 0) 16)) (k := 16) (t := 6) (C := R_Vlt) (T := F_Vlt) (N := 20) hx hb hT hown hK hW (st_ty hNN fo.1 fo.2 rfl).1 (st_ty hNN fo.1 fo.2 rfl).2 (by decide) in_Vlt rfl rfl (by decide) rfl fr_Vlt_16 w_2_172 d_Opn_checkBounds_121 rfl ?_
    refine lv_iload_n hx hb d_Opn_checkBounds_124 rfl (lv_at hl 2 rfl) ?_
    obtain ⟨hi, hw⟩ := hw
    refine w_lald (o := (stC (stC o 0) 16)) hx hb hK hW (st_ty hNN (st_ty hNN fo.1 fo.2 rfl).1 (st_ty hNN fo.1 fo.2 rfl).2 rfl).1 (st_ty hNN (st_ty hNN fo.1 fo.2 rfl).1 (st_ty hNN fo.1 fo.2 rfl).2 rfl).2 hi d_Opn_checkBounds_125 ?_
    have hF := hW.free hS hA
    refine va_calli (va_runV (C := R_Vlt) (As := [.int l1, .long l3, .long (rL x (stC (stC o 0) 16) l2)]) (rest := [.ref (ad (stC o 2))]) ⟨hx, hb, hml, hown, hT⟩ (k_Vlt_compare l dC dI cI cB cJ cZ ad NN E tM tC kK kV hNN H.size (stC o 0) l1 l3 (rL x (stC (stC o 0) 16) l2) x (st_ty hNN fo.1 fo.2 rfl) hw) ⟨callB_of 3 hT (gwt_in w_7_32) rfl rfl rfl (hT _ w_1_9) (hT _ w_7_29) (by decide +kernel) ⟨Nat.le_trans (Nat.le_of_ble_eq_true rfl) hRf, Nat.le_trans (Nat.le_of_ble_eq_true rfl) hRl⟩, hT _ w_7_30, hT _ w_7_31⟩ ⟨PVc.blind, va_recv hK hW.1 (ci := 6) (q0 := (stC o 0)) rfl (pic_obj (st_ty hNN fo.1 fo.2 rfl).1 (st_ty hNN fo.1 fo.2 rfl).2 (by decide)), PVc.at _ hW hK hN hE hS hF⟩ rfl rfl hl.1 rfl (lv_room (Nat.le_of_ble_eq_true rfl)) d_Opn_checkBounds_126 ⟨hRc, hRs⟩) hS (fun q _ h => hF q h) hF (fun r12 x11 t H locs ht hvm hw hB hz1 hk1 hS => ?_)
    have hW := Wd.back hB ht hF
    clear hB ht hF hz1 hk1 hvm
    refine lv_if_ne (tgt := 136) hx hb d_Opn_checkBounds_129 (by decide) (fun c13 => ?_) (fun c13 => ?_)
    · have hw := hw.1 c13
      refine lv_iconst (v := 0) hx hb d_Opn_checkBounds_136 (by decide) ?_
      exact t_Opn_checkBounds_137 hx hb hml hown hT hK hN hA hRc hRs hRf hRl hNN hE hret  o l1 l2 l3 l5 l7 0 (stC o 2) x11 H locs ls fo (st_ty hNN fo.1 fo.2 rfl) hw hW hS (lv_sub hl [0, 1, 2, 3, 4, 5] rfl)
    · have hw := hw.2 c13
      refine lv_iconst (v := 1) hx hb d_Opn_checkBounds_132 (by decide) ?_
      refine lv_goto (tgt := 137) hx hb d_Opn_checkBounds_133 (by decide) ?_
      exact t_Opn_checkBounds_137 hx hb hml hown hT hK hN hA hRc hRs hRf hRl hNN hE hret  o l1 l2 l3 l5 l7 1 (stC o 2) x11 H locs ls fo (st_ty hNN fo.1 fo.2 rfl) hw hW hS (lv_sub hl [0, 1, 2, 3, 4, 5] rfl)
  · have hw := hw.2 c10
    refine lv_aload_n hx hb d_Opn_checkBounds_45 rfl (lv_at hl 0 rfl) ?_
    refine w_getf (q := (stC o 0)) (k := 0) (t := 7) (C := R_Opn) (T := F_Opn) (N := 17) hx hb hT hown hK hW fo.1 fo.2 (by decide) in_Opn rfl rfl (by decide) rfl fr_Opn_0 w_3_15 d_Opn_checkBounds_46 rfl ?_
    refine lv_iload_n hx hb d_Opn_checkBounds_49 rfl (lv_at hl 1 rfl) ?_
    refine lv_aload_n hx hb d_Opn_checkBounds_50 rfl (lv_at hl 0 rfl) ?_
    refine w_getf (q := (stC o 8)) (k := 8) (t := 7) (C := R_Opn) (T := F_Opn) (N := 17) hx hb hT hown hK hW fo.1 fo.2 (by decide) in_Opn rfl rfl (by decide) rfl fr_Opn_8 w_3_24 d_Opn_checkBounds_51 rfl ?_
    refine lv_iload hx hb d_Opn_checkBounds_54 (lv_at hl 5 rfl) ?_
    obtain ⟨hi, hw⟩ := hw
    refine w_lald (o := (stC o 8)) hx hb hK hW (st_ty hNN fo.1 fo.2 rfl).1 (st_ty hNN fo.1 fo.2 rfl).2 hi d_Opn_checkBounds_56 ?_
    refine lv_lload_n hx hb d_Opn_checkBounds_57 rfl (lv_at hl 3 rfl) ?_
    have hF := hW.free hS hA
    refine va_calli (va_runV (C := R_Vlt) (As := [.int l1, .long (rL x (stC o 8) l7), .long l3]) (rest := []) ⟨hx, hb, hml, hown, hT⟩ (k_Vlt_compare l dC dI cI cB cJ cZ ad NN E tM tC kK kV hNN H.size (stC o 0) l1 (rL x (stC o 8) l7) l3 x (st_ty hNN fo.1 fo.2 rfl) hw) ⟨callB_of 3 hT (gwt_in w_7_32) rfl rfl rfl (hT _ w_1_9) (hT _ w_7_29) (by decide +kernel) ⟨Nat.le_trans (Nat.le_of_ble_eq_true rfl) hRf, Nat.le_trans (Nat.le_of_ble_eq_true rfl) hRl⟩, hT _ w_7_30, hT _ w_7_31⟩ ⟨PVc.blind, va_recv hK hW.1 (ci := 6) (q0 := (stC o 0)) rfl (pic_obj (st_ty hNN fo.1 fo.2 rfl).1 (st_ty hNN fo.1 fo.2 rfl).2 (by decide)), PVc.at _ hW hK hN hE hS hF⟩ rfl rfl hl.1 rfl (lv_room (Nat.le_of_ble_eq_true rfl)) d_Opn_checkBounds_58 ⟨hRc, hRs⟩) hS (fun q _ h => hF q h) hF (fun r15 x14 t H locs ht hvm hw hB hz1 hk1 hS => ?_)
    have hW := Wd.back hB ht hF
    clear hB ht hF hz1 hk1 hvm
    refine lv_if_ge (tgt := 72) hx hb d_Opn_checkBounds_61 (by decide) (fun c16 => ?_) (fun c16 => ?_)
    · have hw := hw.1 c16
      exact t_Opn_checkBounds_72 hx hb hml hown hT hK hN hA hRc hRs hRf hRl hNN hE hret hrec36 o l1 l2 l3 l5 l7 x14 H locs ls fo hw hW hS (lv_sub hl [0, 1, 2, 3, 4, 5] rfl)
    · have hw := hw.2 c16
      refine lv_aload_n hx hb d_Opn_checkBounds_64 rfl (lv_at hl 0 rfl) ?_
      refine w_getf (q := (stC o 8)) (k := 8) (t := 7) (C := R_Opn) (T := F_Opn) (N := 17) hx hb hT hown hK hW fo.1 fo.2 (by decide) in_Opn rfl rfl (by decide) rfl fr_Opn_8 w_3_24 d_Opn_checkBounds_65 rfl ?_
      refine lv_iload hx hb d_Opn_checkBounds_68 (lv_at hl 5 rfl) ?_
      obtain ⟨hi, hw⟩ := hw
      refine w_lald (o := (stC o 8)) hx hb hK hW (st_ty hNN fo.1 fo.2 rfl).1 (st_ty hNN fo.1 fo.2 rfl).2 hi d_Opn_checkBounds_70 ?_
      refine lv_topl (fun v17 ev17 => ?_)
      have hw := hw v17 ev17
      refine lv_lstore_n (lv' := [(3, .long v17), (0, .ref (ad o)), (1, .int l1), (2, .int l2), (5, .long l5), (7, .int l7)]) hx hb d_Opn_checkBounds_71 rfl hl (by decide) rfl (fun ls hl => ?_)
      exact t_Opn_checkBounds_72 hx hb hml hown hT hK hN hA hRc hRs hRf hRl hNN hE hret hrec36 o l1 l2 v17 l5 l7 x14 H locs ls fo hw hW hS (lv_sub hl [1, 2, 3, 0, 4, 5] rfl)
set_option maxHeartbeats 4000000 in
set_option maxRecDepth 100000 in
theorem tl_Opn_checkBounds_36 {p : Program} {l : Launch} {e : Env} {R : Room} {s : State} {m : MethodId} {args : Array Value} {below : List Frame} {meth : Method} {c : Code} {cells slots : Nat} {Q : State → Prop} {dC : Nat → ClassId} {dI : Nat → Nat → Nat} {cI cB cJ cZ : ClassId} {A : Nat → Prop} {ad : Nat → Nat} {NN : Nat} {E : Heap} {tM tC : Nat} {kK kV : Nat → Nat} {post : St → Prop} (hx : p.tables.exec = Jvm.exec) (hb : c.code = b_Opn_checkBounds) (hml : c.maxLocals = 8) (hown : s.vm.findClass R_Opn = some m.cls) (hT : ∀ w ∈ TG, w.before args s = true) (hK : va_K (dC, dI) CL (TY cI cB cJ cZ) s) (hN : NW s) (hA : ∀ q : Nat, s.heap.size ≤ q → A q) (hRc : cells ≤ R.cells) (hRs : slots ≤ R.slots) (hRf : 3 ≤ R.frames) (hRl : 137 ≤ R.locals) (hNN : 152 ≤ NN) (hE : CE E tM tC kK kV A s) (hret : ∀ (x : St) (H : Heap) (locs : List Loc) (pc : Nat) (ls : Array Slot), decode b_Opn_checkBounds pc = .ok (.return_, 1) → post x → Wd dC dI cI cB cJ cZ ad stC kcC NN A x H → va_S A s.heap H locs → W p l e R s m args below meth c H locs cells slots Q (F0 m pc ls []))  : ∀ n : Nat, ∀ (o : Nat) (l1 : Int32) (l2 : Int32) (l3 : Int64) (l5 : Int64) (l7 : Int32) (x : St) (H : Heap) (locs : List Loc) (ls : Array Slot), (o < NN ∧ kcC o = 7) → wl_Opn_checkBounds_36 post n o l1 l2 l3 l5 l7 x → Wd dC dI cI cB cJ cZ ad stC kcC NN A x H → va_S A s.heap H locs → lv_has ls 8 [(0, .ref (ad o)), (1, .int l1), (2, .int l2), (3, .long l3), (5, .long l5), (7, .int l7)] → W p l e R s m args below meth c H locs cells slots Q (F0 m 36 ls []) := by
  intro n
  induction n with
  | zero => intro o l1 l2 l3 l5 l7 x H locs ls fo hw; exact hw.elim
  | succ n ih => intro o l1 l2 l3 l5 l7 x H locs ls fo hw hW hS hl; exact t_Opn_checkBounds_36 hx hb hml hown hT hK hN hA hRc hRs hRf hRl hNN hE hret  ih o l1 l2 l3 l5 l7 x H locs ls fo hw hW hS hl
set_option maxRecDepth 100000 in
set_option maxHeartbeats 4000000 in
set_option maxRecDepth 100000 in
theorem t_Opn_checkBounds_e {p : Program} {l : Launch} {e : Env} {R : Room} {s : State} {m : MethodId} {args : Array Value} {below : List Frame} {meth : Method} {c : Code} {cells slots : Nat} {Q : State → Prop} {dC : Nat → ClassId} {dI : Nat → Nat → Nat} {cI cB cJ cZ : ClassId} {A : Nat → Prop} {ad : Nat → Nat} {NN : Nat} {E : Heap} {tM tC : Nat} {kK kV : Nat → Nat} {post : St → Prop} (hx : p.tables.exec = Jvm.exec) (hb : c.code = b_Opn_checkBounds) (hml : c.maxLocals = 8) (hown : s.vm.findClass R_Opn = some m.cls) (hT : ∀ w ∈ TG, w.before args s = true) (hK : va_K (dC, dI) CL (TY cI cB cJ cZ) s) (hN : NW s) (hA : ∀ q : Nat, s.heap.size ≤ q → A q) (hRc : cells ≤ R.cells) (hRs : slots ≤ R.slots) (hRf : 3 ≤ R.frames) (hRl : 137 ≤ R.locals) (hNN : 152 ≤ NN) (hE : CE E tM tC kK kV A s) (hret : ∀ (x : St) (H : Heap) (locs : List Loc) (pc : Nat) (ls : Array Slot), decode b_Opn_checkBounds pc = .ok (.return_, 1) → post x → Wd dC dI cI cB cJ cZ ad stC kcC NN A x H → va_S A s.heap H locs → W p l e R s m args below meth c H locs cells slots Q (F0 m pc ls [])) : ∀ (o : Nat) (l1 : Int32) (l2 : Int32) (x : St) (H : Heap) (locs : List Loc) (ls : Array Slot), (o < NN ∧ kcC o = 7) → wp_Opn_checkBounds post o l1 l2 x → Wd dC dI cI cB cJ cZ ad stC kcC NN A x H → va_S A s.heap H locs → lv_has ls 8 [(0, .ref (ad o)), (1, .int l1), (2, .int l2)] → W p l e R s m args below meth c H locs cells slots Q (F0 m 0 ls []) := by
  intro o l1 l2 x H locs ls fo hw hW hS hl
  unfold wp_Opn_checkBounds at hw
  refine lv_aload_n hx hb d_Opn_checkBounds_0 rfl (lv_at hl 0 rfl) ?_
  refine w_geti (k := 9) (t := 7) (C := R_Opn) (T := F_Opn) (N := 17) hx hb hT hown hK hW fo.1 fo.2 (by decide) in_Opn rfl rfl (by decide) rfl fr_Opn_9 w_3_25 d_Opn_checkBounds_1 ?_
  refine lv_if_eq (tgt := 17) hx hb d_Opn_checkBounds_4 (by decide) (fun c18 => ?_) (fun c18 => ?_)
  · have hw := hw.1 c18
    exact hret x H locs 17 ls d_Opn_checkBounds_17 hw hW hS
  · have hw := hw.2 c18
    refine lv_aload_n hx hb d_Opn_checkBounds_7 rfl (lv_at hl 0 rfl) ?_
    refine w_getf (q := (stC o 2)) (k := 2) (t := 7) (C := R_Opn) (T := F_Opn) (N := 17) hx hb hT hown hK hW fo.1 fo.2 (by decide) in_Opn rfl rfl (by decide) rfl fr_Opn_2 w_3_17 d_Opn_checkBounds_8 rfl ?_
    refine w_geti (k := 3) (t := 8) (C := R_Src) (T := F_Src) (N := 5) hx hb hT hown hK hW (st_ty hNN fo.1 fo.2 rfl).1 (st_ty hNN fo.1 fo.2 rfl).2 (by decide) in_Src rfl rfl (by decide) rfl fr_Src_3 w_3_2 d_Opn_checkBounds_11 ?_
    refine lv_if_eq (tgt := 18) hx hb d_Opn_checkBounds_14 (by decide) (fun c19 => ?_) (fun c19 => ?_)
    · have hw := hw.1 c19
      refine lv_aload_n hx hb d_Opn_checkBounds_18 rfl (lv_at hl 0 rfl) ?_
      refine w_getf (q := (stC o 8)) (k := 8) (t := 7) (C := R_Opn) (T := F_Opn) (N := 17) hx hb hT hown hK hW fo.1 fo.2 (by decide) in_Opn rfl rfl (by decide) rfl fr_Opn_8 w_3_24 d_Opn_checkBounds_19 rfl ?_
      refine lv_iconst (v := 0) hx hb d_Opn_checkBounds_22 (by decide) ?_
      obtain ⟨hi, hw⟩ := hw
      refine w_lald (o := (stC o 8)) hx hb hK hW (st_ty hNN fo.1 fo.2 rfl).1 (st_ty hNN fo.1 fo.2 rfl).2 hi d_Opn_checkBounds_23 ?_
      refine lv_topl (fun v20 ev20 => ?_)
      have hw := hw v20 ev20
      refine lv_lstore_n (lv' := [(3, .long v20), (0, .ref (ad o)), (1, .int l1), (2, .int l2)]) hx hb d_Opn_checkBounds_24 rfl hl (by decide) rfl (fun ls hl => ?_)
      refine lv_aload_n hx hb d_Opn_checkBounds_25 rfl (lv_at hl 1 rfl) ?_
      refine w_getf (q := (stC o 8)) (k := 8) (t := 7) (C := R_Opn) (T := F_Opn) (N := 17) hx hb hT hown hK hW fo.1 fo.2 (by decide) in_Opn rfl rfl (by decide) rfl fr_Opn_8 w_3_24 d_Opn_checkBounds_26 rfl ?_
      refine lv_iconst (v := 0) hx hb d_Opn_checkBounds_29 (by decide) ?_
      obtain ⟨hi, hw⟩ := hw
      refine w_lald (o := (stC o 8)) hx hb hK hW (st_ty hNN fo.1 fo.2 rfl).1 (st_ty hNN fo.1 fo.2 rfl).2 hi d_Opn_checkBounds_30 ?_
      refine lv_topl (fun v21 ev21 => ?_)
      have hw := hw v21 ev21
      refine lv_lstore (lv' := [(5, .long v21), (3, .long v20), (0, .ref (ad o)), (1, .int l1), (2, .int l2)]) hx hb d_Opn_checkBounds_31 hl (by decide) rfl (fun ls hl => ?_)
      refine lv_iconst (v := 1) hx hb d_Opn_checkBounds_33 (by decide) ?_
      refine lv_istore (lv' := [(7, .int 1), (5, .long v21), (3, .long v20), (0, .ref (ad o)), (1, .int l1), (2, .int l2)]) hx hb d_Opn_checkBounds_34 hl (by decide) rfl (fun ls hl => ?_)
      obtain ⟨n, hw⟩ := hw
      exact tl_Opn_checkBounds_36 hx hb hml hown hT hK hN hA hRc hRs hRf hRl hNN hE hret  n o l1 l2 v20 v21 1 x H locs ls fo hw hW hS (lv_sub hl [3, 4, 5, 2, 1, 0] rfl)
    · have hw := hw.2 c19
      exact hret x H locs 17 ls d_Opn_checkBounds_17 hw hW hS
set_option maxHeartbeats 4000000 in
set_option maxRecDepth 100000 in
theorem k_Opn_checkBounds (l : Launch) (dC : Nat → ClassId) (dI : Nat → Nat → Nat) (cI cB cJ cZ : ClassId) (ad : Nat → Nat) (NN : Nat) (E : Heap) (tM tC : Nat) (kK kV : Nat → Nat) (hNN : 152 ≤ NN) (sz : Nat) (o : Nat) (l1 : Int32) (l2 : Int32) (x : St) (fo : o < NN ∧ kcC o = 7) {post : St → Prop} (hw : wp_Opn_checkBounds post o l1 l2 x) : Met l y_Opn_checkBounds (wsOf y_Opn_checkBounds b_Opn_checkBounds 8 (none)) ({ frames := 3, cells := 0, slots := 0, locals := 137 }) (va_Pc [.ref (ad o), .int l1, .int l2] (PVc dC dI cI cB cJ cZ ad stC kcC NN E tM tC kK kV sz x)) (va_Qv (fun (y : St) => post y) (fun y t => Wd dC dI cI cB cJ cZ ad stC kcC NN (va_A (pic ad stC kcC NN cI cB cJ cZ x) sz) y t.heap) (va_A (pic ad stC kcC NN cI cB cJ cZ x) sz)) 0 0 (va_A (pic ad stC kcC NN cI cB cJ cZ x) sz) := by
  refine Met.ofW (cc := b_Opn_checkBounds) (maxL := 8) (ret := none) (by decide) rfl ?_
  intro p e s m args below meth c s₁ B hml hv
  obtain ⟨rfl, ⟨hsz, hW0, hK, hN⟩, hE⟩ := hv
  have hx := B.exec
  have hb := B.bytes
  have hr := B.returns
  have hts := atoms_spec B.pre
  have hT : ∀ w ∈ TG, w.before _ s = true := fun w h => hts w (List.mem_cons_of_mem _ h)
  have hown : s.vm.findClass R_Opn = some m.cls := findClass_of_methodNamed B.named
  have hlocks := B.notSynchronized
  subst hsz
  have hW : Wd dC dI cI cB cJ cZ ad stC kcC NN (va_A (pic ad stC kcC NN cI cB cJ cZ x) s.heap.size) x s.heap := ⟨hW0.1, hW0.2.1.self (sz := s.heap.size), hW0.2.2⟩
  generalize hAe : va_A (pic ad stC kcC NN cI cB cJ cZ x) s.heap.size = A at hW hE ⊢
  have hA : ∀ q : Nat, s.heap.size ≤ q → A q := fun q h => by rw [← hAe]; exact Or.inr h
  have hS : va_S A s.heap s.heap [] := va_S.rf
  have hl := lv_entry ([.ref (ad o), .int l1, .int l2]) (n := 8) (Nat.le_of_ble_eq_true rfl)
  rw [lg_entry_eq]
  generalize (lg_sl ([.ref (ad o), .int l1, .int l2]) ++ List.replicate (8 - (lg_sl ([.ref (ad o), .int l1, .int l2])).length) Slot.unset).toArray = ls at hl ⊢
  have hl : lv_has ls 8 [(0, .ref (ad o)), (1, .int l1), (2, .int l2)] := hl
  exact t_Opn_checkBounds_e hx hb hml hown hT hK hN hA (Nat.le_refl 0) (Nat.le_refl 0) (Nat.le_refl 3) (Nat.le_refl 137) hNN hE (fun x H locs pc ls hd hp hW hS => W.vret hx hb hr (fun t ht hM => ⟨⟨x, rfl, hp, Wd.back hW ht.symm (fun _ z => z)⟩, hS.F ht⟩) hS.2.2 hd hlocks)  o l1 l2 x _ _ ls fo hw hW hS hl
set_option maxRecDepth 100000 in
set_option maxHeartbeats 4000000 in
set_option maxRecDepth 100000 in
theorem t_Opn_defOfRepeated_72 {p : Program} {l : Launch} {e : Env} {R : Room} {s : State} {m : MethodId} {args : Array Value} {below : List Frame} {meth : Method} {c : Code} {cells slots : Nat} {Q : State → Prop} {dC : Nat → ClassId} {dI : Nat → Nat → Nat} {cI cB cJ cZ : ClassId} {A : Nat → Prop} {ad : Nat → Nat} {NN : Nat} {E : Heap} {tM tC : Nat} {kK kV : Nat → Nat} {post : Int32 → St → Prop} (hx : p.tables.exec = Jvm.exec) (hb : c.code = b_Opn_defOfRepeated) (hml : c.maxLocals = 6) (hown : s.vm.findClass R_Opn = some m.cls) (hT : ∀ w ∈ TG, w.before args s = true) (hK : va_K (dC, dI) CL (TY cI cB cJ cZ) s) (hN : NW s) (hA : ∀ q : Nat, s.heap.size ≤ q → A q) (hRc : cells ≤ R.cells) (hRs : slots ≤ R.slots) (hRf : 0 ≤ R.frames) (hRl : 0 ≤ R.locals) (hNN : 152 ≤ NN) (hE : CE E tM tC kK kV A s) (hret : ∀ (r : Int32) (x : St) (H : Heap) (locs : List Loc) (pc : Nat) (ls : Array Slot), decode b_Opn_defOfRepeated pc = .ok (.ireturn, 1) → post r x → Wd dC dI cI cB cJ cZ ad stC kcC NN A x H → va_S A s.heap H locs → W p l e R s m args below meth c H locs cells slots Q (F0 m pc ls [.int r]))  : ∀ (o : Nat) (l1 : Int32) (l2 : Int32) (l3 : Nat) (l4 : Int32) (l5 : Int32) (x : St) (H : Heap) (locs : List Loc) (ls : Array Slot), (o < NN ∧ kcC o = 7) → (l3 < NN ∧ kcC l3 = 3) → j_Opn_defOfRepeated_72 post o l1 l2 l3 l4 l5 x → Wd dC dI cI cB cJ cZ ad stC kcC NN A x H → va_S A s.heap H locs → lv_has ls 6 [(0, .ref (ad o)), (1, .int l1), (2, .int l2), (3, .ref (ad l3)), (4, .int l4), (5, .int l5)] → W p l e R s m args below meth c H locs cells slots Q (F0 m 72 ls []) := by
  intro o l1 l2 l3 l4 l5 x H locs ls fo fl3 hw hW hS hl
  unfold j_Opn_defOfRepeated_72 at hw
  refine lv_iconst (v := 0) hx hb d_Opn_defOfRepeated_72 (by decide) ?_
  exact hret 0 x H locs 73 ls d_Opn_defOfRepeated_73 hw hW hS
set_option maxRecDepth 100000 in
set_option maxHeartbeats 4000000 in
set_option maxRecDepth 100000 in
theorem t_Opn_defOfRepeated_57 {p : Program} {l : Launch} {e : Env} {R : Room} {s : State} {m : MethodId} {args : Array Value} {below : List Frame} {meth : Method} {c : Code} {cells slots : Nat} {Q : State → Prop} {dC : Nat → ClassId} {dI : Nat → Nat → Nat} {cI cB cJ cZ : ClassId} {A : Nat → Prop} {ad : Nat → Nat} {NN : Nat} {E : Heap} {tM tC : Nat} {kK kV : Nat → Nat} {post : Int32 → St → Prop} {rec14 : Nat → Int32 → Int32 → Nat → Int32 → Int32 → St → Prop} (hx : p.tables.exec = Jvm.exec) (hb : c.code = b_Opn_defOfRepeated) (hml : c.maxLocals = 6) (hown : s.vm.findClass R_Opn = some m.cls) (hT : ∀ w ∈ TG, w.before args s = true) (hK : va_K (dC, dI) CL (TY cI cB cJ cZ) s) (hN : NW s) (hA : ∀ q : Nat, s.heap.size ≤ q → A q) (hRc : cells ≤ R.cells) (hRs : slots ≤ R.slots) (hRf : 0 ≤ R.frames) (hRl : 0 ≤ R.locals) (hNN : 152 ≤ NN) (hE : CE E tM tC kK kV A s) (hret : ∀ (r : Int32) (x : St) (H : Heap) (locs : List Loc) (pc : Nat) (ls : Array Slot), decode b_Opn_defOfRepeated pc = .ok (.ireturn, 1) → post r x → Wd dC dI cI cB cJ cZ ad stC kcC NN A x H → va_S A s.heap H locs → W p l e R s m args below meth c H locs cells slots Q (F0 m pc ls [.int r])) (hrec14 : ∀ (o : Nat) (l1 : Int32) (l2 : Int32) (l3 : Nat) (l4 : Int32) (l5 : Int32) (x : St) (H : Heap) (locs : List Loc) (ls : Array Slot), (o < NN ∧ kcC o = 7) → (l3 < NN ∧ kcC l3 = 3) → rec14 o l1 l2 l3 l4 l5 x → Wd dC dI cI cB cJ cZ ad stC kcC NN A x H → va_S A s.heap H locs → lv_has ls 6 [(0, .ref (ad o)), (1, .int l1), (2, .int l2), (3, .ref (ad l3)), (4, .int l4), (5, .int l5)] → W p l e R s m args below meth c H locs cells slots Q (F0 m 14 ls [])) : ∀ (o : Nat) (l1 : Int32) (l2 : Int32) (l3 : Nat) (l4 : Int32) (l5 : Int32) (x : St) (H : Heap) (locs : List Loc) (ls : Array Slot), (o < NN ∧ kcC o = 7) → (l3 < NN ∧ kcC l3 = 3) → j_Opn_defOfRepeated_57 post rec14 o l1 l2 l3 l4 l5 x → Wd dC dI cI cB cJ cZ ad stC kcC NN A x H → va_S A s.heap H locs → lv_has ls 6 [(0, .ref (ad o)), (1, .int l1), (2, .int l2), (3, .ref (ad l3)), (4, .int l4), (5, .int l5)] → W p l e R s m args below meth c H locs cells slots Q (F0 m 57 ls []) := by
  intro o l1 l2 l3 l4 l5 x H locs ls fo fl3 hw hW hS hl
  unfold j_Opn_defOfRepeated_57 at hw
  refine lv_aload_n hx hb d_Opn_defOfRepeated_57 rfl (lv_at hl 3 rfl) ?_
  refine w_getf (q := (stC l3 4)) (k := 4) (t := 3) (C := R_Sch) (T := F_Sch) (N := 13) hx hb hT hown hK hW fl3.1 fl3.2 (by decide) in_Sch rfl rfl (by decide) rfl fr_Sch_4 w_1_155 d_Opn_defOfRepeated_58 rfl ?_
  refine lv_iload hx hb d_Opn_defOfRepeated_61 (lv_at hl 4 rfl) ?_
  obtain ⟨hi, hw⟩ := hw
  refine w_iald (o := (stC l3 4)) hx hb hK hW (st_ty hNN fl3.1 fl3.2 rfl).1 (st_ty hNN fl3.1 fl3.2 rfl).2 hi d_Opn_defOfRepeated_63 ?_
  refine lv_topi (fun v1 ev1 => ?_)
  have hw := hw v1 ev1
  refine lv_istore (lv' := [(4, .int v1), (0, .ref (ad o)), (1, .int l1), (2, .int l2), (3, .ref (ad l3)), (5, .int l5)]) hx hb d_Opn_defOfRepeated_64 hl (by decide) rfl (fun ls hl => ?_)
  refine lv_iinc (v := (l5 + 1)) (lv' := [(5, .int (l5 + 1)), (4, .int v1), (0, .ref (ad o)), (1, .int l1), (2, .int l2), (3, .ref (ad l3))]) hx hb d_Opn_defOfRepeated_66 hl (k := 5) rfl rfl (by decide) rfl (fun ls hl => ?_)
  refine lv_goto (tgt := 14) hx hb d_Opn_defOfRepeated_69 (by decide) ?_
  exact hrec14 o l1 l2 l3 v1 (l5 + 1) x H locs ls fo fl3 hw hW hS (lv_sub hl [2, 3, 4, 5, 1, 0] rfl)
set_option maxRecDepth 100000 in
set_option maxHeartbeats 4000000 in
set_option maxRecDepth 100000 in
theorem t_Opn_defOfRepeated_14 {p : Program} {l : Launch} {e : Env} {R : Room} {s : State} {m : MethodId} {args : Array Value} {below : List Frame} {meth : Method} {c : Code} {cells slots : Nat} {Q : State → Prop} {dC : Nat → ClassId} {dI : Nat → Nat → Nat} {cI cB cJ cZ : ClassId} {A : Nat → Prop} {ad : Nat → Nat} {NN : Nat} {E : Heap} {tM tC : Nat} {kK kV : Nat → Nat} {post : Int32 → St → Prop} {rec14 : Nat → Int32 → Int32 → Nat → Int32 → Int32 → St → Prop} (hx : p.tables.exec = Jvm.exec) (hb : c.code = b_Opn_defOfRepeated) (hml : c.maxLocals = 6) (hown : s.vm.findClass R_Opn = some m.cls) (hT : ∀ w ∈ TG, w.before args s = true) (hK : va_K (dC, dI) CL (TY cI cB cJ cZ) s) (hN : NW s) (hA : ∀ q : Nat, s.heap.size ≤ q → A q) (hRc : cells ≤ R.cells) (hRs : slots ≤ R.slots) (hRf : 0 ≤ R.frames) (hRl : 0 ≤ R.locals) (hNN : 152 ≤ NN) (hE : CE E tM tC kK kV A s) (hret : ∀ (r : Int32) (x : St) (H : Heap) (locs : List Loc) (pc : Nat) (ls : Array Slot), decode b_Opn_defOfRepeated pc = .ok (.ireturn, 1) → post r x → Wd dC dI cI cB cJ cZ ad stC kcC NN A x H → va_S A s.heap H locs → W p l e R s m args below meth c H locs cells slots Q (F0 m pc ls [.int r])) (hrec14 : ∀ (o : Nat) (l1 : Int32) (l2 : Int32) (l3 : Nat) (l4 : Int32) (l5 : Int32) (x : St) (H : Heap) (locs : List Loc) (ls : Array Slot), (o < NN ∧ kcC o = 7) → (l3 < NN ∧ kcC l3 = 3) → rec14 o l1 l2 l3 l4 l5 x → Wd dC dI cI cB cJ cZ ad stC kcC NN A x H → va_S A s.heap H locs → lv_has ls 6 [(0, .ref (ad o)), (1, .int l1), (2, .int l2), (3, .ref (ad l3)), (4, .int l4), (5, .int l5)] → W p l e R s m args below meth c H locs cells slots Q (F0 m 14 ls [])) : ∀ (o : Nat) (l1 : Int32) (l2 : Int32) (l3 : Nat) (l4 : Int32) (l5 : Int32) (x : St) (H : Heap) (locs : List Loc) (ls : Array Slot), (o < NN ∧ kcC o = 7) → (l3 < NN ∧ kcC l3 = 3) → j_Opn_defOfRepeated_14 post rec14 o l1 l2 l3 l4 l5 x → Wd dC dI cI cB cJ cZ ad stC kcC NN A x H → va_S A s.heap H locs → lv_has ls 6 [(0, .ref (ad o)), (1, .int l1), (2, .int l2), (3, .ref (ad l3)), (4, .int l4), (5, .int l5)] → W p l e R s m args below meth c H locs cells slots Q (F0 m 14 ls []) := by
  intro o l1 l2 l3 l4 l5 x H locs ls fo fl3 hw hW hS hl
  unfold j_Opn_defOfRepeated_14 at hw
  refine lv_iload hx hb d_Opn_defOfRepeated_14 (lv_at hl 5 rfl) ?_
  refine lv_bipush (v := 16) hx hb d_Opn_defOfRepeated_16 (by decide) ?_
  refine lv_icmp_gt (tgt := 72) hx hb d_Opn_defOfRepeated_18 (by decide) (fun c2 => ?_) (fun c2 => ?_)
  · have hw := hw.1 c2
    exact t_Opn_defOfRepeated_72 hx hb hml hown hT hK hN hA hRc hRs hRf hRl hNN hE hret  o l1 l2 l3 l4 l5 x H locs ls fo fl3 hw hW hS (lv_sub hl [0, 1, 2, 3, 4, 5] rfl)
  · have hw := hw.2 c2
    refine lv_iload hx hb d_Opn_defOfRepeated_21 (lv_at hl 4 rfl) ?_
    refine lv_iconst (v := (-1)) hx hb d_Opn_defOfRepeated_23 (by decide) ?_
    refine lv_icmp_eq (tgt := 72) hx hb d_Opn_defOfRepeated_24 (by decide) (fun c3 => ?_) (fun c3 => ?_)
    · have hw := hw.1 c3
      exact t_Opn_defOfRepeated_72 hx hb hml hown hT hK hN hA hRc hRs hRf hRl hNN hE hret  o l1 l2 l3 l4 l5 x H locs ls fo fl3 hw hW hS (lv_sub hl [0, 1, 2, 3, 4, 5] rfl)
    · have hw := hw.2 c3
      refine lv_aload_n hx hb d_Opn_defOfRepeated_27 rfl (lv_at hl 3 rfl) ?_
      refine w_getf (q := (stC l3 2)) (k := 2) (t := 3) (C := R_Sch) (T := F_Sch) (N := 13) hx hb hT hown hK hW fl3.1 fl3.2 (by decide) in_Sch rfl rfl (by decide) rfl fr_Sch_2 w_1_144 d_Opn_defOfRepeated_28 rfl ?_
      refine lv_iload hx hb d_Opn_defOfRepeated_31 (lv_at hl 4 rfl) ?_
      obtain ⟨hi, hw⟩ := hw
      refine w_iald (o := (stC l3 2)) hx hb hK hW (st_ty hNN fl3.1 fl3.2 rfl).1 (st_ty hNN fl3.1 fl3.2 rfl).2 hi d_Opn_defOfRepeated_33 ?_
      refine lv_iconst (v := 2) hx hb d_Opn_defOfRepeated_34 (by decide) ?_
      refine lv_icmp_ne (tgt := 57) hx hb d_Opn_defOfRepeated_35 (by decide) (fun c4 => ?_) (fun c4 => ?_)
      · have hw := hw.1 c4
        exact t_Opn_defOfRepeated_57 hx hb hml hown hT hK hN hA hRc hRs hRf hRl hNN hE hret hrec14 o l1 l2 l3 l4 l5 x H locs ls fo fl3 hw hW hS (lv_sub hl [0, 1, 2, 3, 4, 5] rfl)
      · have hw := hw.2 c4
        refine lv_aload_n hx hb d_Opn_defOfRepeated_38 rfl (lv_at hl 3 rfl) ?_
        refine w_getf (q := (stC l3 5)) (k := 5) (t := 3) (C := R_Sch) (T := F_Sch) (N := 13) hx hb hT hown hK hW fl3.1 fl3.2 (by decide) in_Sch rfl rfl (by decide) rfl fr_Sch_5 w_1_161 d_Opn_defOfRepeated_39 rfl ?_
        refine lv_iload hx hb d_Opn_defOfRepeated_42 (lv_at hl 4 rfl) ?_
        obtain ⟨hi, hw⟩ := hw
        refine w_iald (o := (stC l3 5)) hx hb hK hW (st_ty hNN fl3.1 fl3.2 rfl).1 (st_ty hNN fl3.1 fl3.2 rfl).2 hi d_Opn_defOfRepeated_44 ?_
        refine lv_iload_n hx hb d_Opn_defOfRepeated_45 rfl (lv_at hl 2 rfl) ?_
        refine lv_icmp_ne (tgt := 57) hx hb d_Opn_defOfRepeated_46 (by decide) (fun c5 => ?_) (fun c5 => ?_)
        · have hw := hw.1 c5
          exact t_Opn_defOfRepeated_57 hx hb hml hown hT hK hN hA hRc hRs hRf hRl hNN hE hret hrec14 o l1 l2 l3 l4 l5 x H locs ls fo fl3 hw hW hS (lv_sub hl [0, 1, 2, 3, 4, 5] rfl)
        · have hw := hw.2 c5
          refine lv_aload_n hx hb d_Opn_defOfRepeated_49 rfl (lv_at hl 3 rfl) ?_
          refine w_getf (q := (stC l3 6)) (k := 6) (t := 3) (C := R_Sch) (T := F_Sch) (N := 13) hx hb hT hown hK hW fl3.1 fl3.2 (by decide) in_Sch rfl rfl (by decide) rfl fr_Sch_6 w_1_167 d_Opn_defOfRepeated_50 rfl ?_
          refine lv_iload hx hb d_Opn_defOfRepeated_53 (lv_at hl 4 rfl) ?_
          obtain ⟨hi, hw⟩ := hw
          refine w_iald (o := (stC l3 6)) hx hb hK hW (st_ty hNN fl3.1 fl3.2 rfl).1 (st_ty hNN fl3.1 fl3.2 rfl).2 hi d_Opn_defOfRepeated_55 ?_
          exact hret (rA x (stC l3 6) l4) x H locs 56 ls d_Opn_defOfRepeated_56 hw hW hS
set_option maxHeartbeats 4000000 in
set_option maxRecDepth 100000 in
theorem tl_Opn_defOfRepeated_14 {p : Program} {l : Launch} {e : Env} {R : Room} {s : State} {m : MethodId} {args : Array Value} {below : List Frame} {meth : Method} {c : Code} {cells slots : Nat} {Q : State → Prop} {dC : Nat → ClassId} {dI : Nat → Nat → Nat} {cI cB cJ cZ : ClassId} {A : Nat → Prop} {ad : Nat → Nat} {NN : Nat} {E : Heap} {tM tC : Nat} {kK kV : Nat → Nat} {post : Int32 → St → Prop} (hx : p.tables.exec = Jvm.exec) (hb : c.code = b_Opn_defOfRepeated) (hml : c.maxLocals = 6) (hown : s.vm.findClass R_Opn = some m.cls) (hT : ∀ w ∈ TG, w.before args s = true) (hK : va_K (dC, dI) CL (TY cI cB cJ cZ) s) (hN : NW s) (hA : ∀ q : Nat, s.heap.size ≤ q → A q) (hRc : cells ≤ R.cells) (hRs : slots ≤ R.slots) (hRf : 0 ≤ R.frames) (hRl : 0 ≤ R.locals) (hNN : 152 ≤ NN) (hE : CE E tM tC kK kV A s) (hret : ∀ (r : Int32) (x : St) (H : Heap) (locs : List Loc) (pc : Nat) (ls : Array Slot), decode b_Opn_defOfRepeated pc = .ok (.ireturn, 1) → post r x → Wd dC dI cI cB cJ cZ ad stC kcC NN A x H → va_S A s.heap H locs → W p l e R s m args below meth c H locs cells slots Q (F0 m pc ls [.int r]))  : ∀ n : Nat, ∀ (o : Nat) (l1 : Int32) (l2 : Int32) (l3 : Nat) (l4 : Int32) (l5 : Int32) (x : St) (H : Heap) (locs : List Loc) (ls : Array Slot), (o < NN ∧ kcC o = 7) → (l3 < NN ∧ kcC l3 = 3) → wl_Opn_defOfRepeated_14 post n o l1 l2 l3 l4 l5 x → Wd dC dI cI cB cJ cZ ad stC kcC NN A x H → va_S A s.heap H locs → lv_has ls 6 [(0, .ref (ad o)), (1, .int l1), (2, .int l2), (3, .ref (ad l3)), (4, .int l4), (5, .int l5)] → W p l e R s m args below meth c H locs cells slots Q (F0 m 14 ls []) := by
  intro n
  induction n with
  | zero => intro o l1 l2 l3 l4 l5 x H locs ls fo fl3 hw; exact hw.elim
  | succ n ih => intro o l1 l2 l3 l4 l5 x H locs ls fo fl3 hw hW hS hl; exact t_Opn_defOfRepeated_14 hx hb hml hown hT hK hN hA hRc hRs hRf hRl hNN hE hret  ih o l1 l2 l3 l4 l5 x H locs ls fo fl3 hw hW hS hl
set_option maxRecDepth 100000 in
set_option maxHeartbeats 4000000 in
set_option maxRecDepth 100000 in
theorem t_Opn_defOfRepeated_e {p : Program} {l : Launch} {e : Env} {R : Room} {s : State} {m : MethodId} {args : Array Value} {below : List Frame} {meth : Method} {c : Code} {cells slots : Nat} {Q : State → Prop} {dC : Nat → ClassId} {dI : Nat → Nat → Nat} {cI cB cJ cZ : ClassId} {A : Nat → Prop} {ad : Nat → Nat} {NN : Nat} {E : Heap} {tM tC : Nat} {kK kV : Nat → Nat} {post : Int32 → St → Prop} (hx : p.tables.exec = Jvm.exec) (hb : c.code = b_Opn_defOfRepeated) (hml : c.maxLocals = 6) (hown : s.vm.findClass R_Opn = some m.cls) (hT : ∀ w ∈ TG, w.before args s = true) (hK : va_K (dC, dI) CL (TY cI cB cJ cZ) s) (hN : NW s) (hA : ∀ q : Nat, s.heap.size ≤ q → A q) (hRc : cells ≤ R.cells) (hRs : slots ≤ R.slots) (hRf : 0 ≤ R.frames) (hRl : 0 ≤ R.locals) (hNN : 152 ≤ NN) (hE : CE E tM tC kK kV A s) (hret : ∀ (r : Int32) (x : St) (H : Heap) (locs : List Loc) (pc : Nat) (ls : Array Slot), decode b_Opn_defOfRepeated pc = .ok (.ireturn, 1) → post r x → Wd dC dI cI cB cJ cZ ad stC kcC NN A x H → va_S A s.heap H locs → W p l e R s m args below meth c H locs cells slots Q (F0 m pc ls [.int r])) : ∀ (o : Nat) (l1 : Int32) (l2 : Int32) (x : St) (H : Heap) (locs : List Loc) (ls : Array Slot), (o < NN ∧ kcC o = 7) → wp_Opn_defOfRepeated post o l1 l2 x → Wd dC dI cI cB cJ cZ ad stC kcC NN A x H → va_S A s.heap H locs → lv_has ls 6 [(0, .ref (ad o)), (1, .int l1), (2, .int l2)] → W p l e R s m args below meth c H locs cells slots Q (F0 m 0 ls []) := by
  intro o l1 l2 x H locs ls fo hw hW hS hl
  unfold wp_Opn_defOfRepeated at hw
  refine lv_aload_n hx hb d_Opn_defOfRepeated_0 rfl (lv_at hl 0 rfl) ?_
  refine w_getf (q := (stC o 0)) (k := 0) (t := 7) (C := R_Opn) (T := F_Opn) (N := 17) hx hb hT hown hK hW fo.1 fo.2 (by decide) in_Opn rfl rfl (by decide) rfl fr_Opn_0 w_3_15 d_Opn_defOfRepeated_1 rfl ?_
  refine w_getf (q := (stC (stC o 0) 5)) (k := 5) (t := 6) (C := R_Vlt) (T := F_Vlt) (N := 20) hx hb hT hown hK hW (st_ty hNN fo.1 fo.2 rfl).1 (st_ty hNN fo.1 fo.2 rfl).2 (by decide) in_Vlt rfl rfl (by decide) rfl fr_Vlt_5 w_2_136 d_Opn_defOfRepeated_4 rfl ?_
  refine lv_astore_n (lv' := [(3, .ref (ad (stC (stC o 0) 5))), (0, .ref (ad o)), (1, .int l1), (2, .int l2)]) hx hb d_Opn_defOfRepeated_7 rfl hl (by decide) rfl (fun ls hl => ?_)
  refine lv_iload_n hx hb d_Opn_defOfRepeated_8 rfl (lv_at hl 2 rfl) ?_
  refine lv_istore (lv' := [(4, .int l1), (3, .ref (ad (stC (stC o 0) 5))), (0, .ref (ad o)), (1, .int l1), (2, .int l2)]) hx hb d_Opn_defOfRepeated_9 hl (by decide) rfl (fun ls hl => ?_)
  refine lv_iconst (v := 0) hx hb d_Opn_defOfRepeated_11 (by decide) ?_
  refine lv_istore (lv' := [(5, .int 0), (4, .int l1), (3, .ref (ad (stC (stC o 0) 5))), (0, .ref (ad o)), (1, .int l1), (2, .int l2)]) hx hb d_Opn_defOfRepeated_12 hl (by decide) rfl (fun ls hl => ?_)
  obtain ⟨n, hw⟩ := hw
  exact tl_Opn_defOfRepeated_14 hx hb hml hown hT hK hN hA hRc hRs hRf hRl hNN hE hret  n o l1 l2 (stC (stC o 0) 5) l1 0 x H locs ls fo (st_ty hNN (st_ty hNN fo.1 fo.2 rfl).1 (st_ty hNN fo.1 fo.2 rfl).2 rfl) hw hW hS (lv_sub hl [3, 4, 5, 2, 1, 0] rfl)
set_option maxHeartbeats 4000000 in
set_option maxRecDepth 100000 in
theorem k_Opn_defOfRepeated (l : Launch) (dC : Nat → ClassId) (dI : Nat → Nat → Nat) (cI cB cJ cZ : ClassId) (ad : Nat → Nat) (NN : Nat) (E : Heap) (tM tC : Nat) (kK kV : Nat → Nat) (hNN : 152 ≤ NN) (sz : Nat) (o : Nat) (l1 : Int32) (l2 : Int32) (x : St) (fo : o < NN ∧ kcC o = 7) {post : Int32 → St → Prop} (hw : wp_Opn_defOfRepeated post o l1 l2 x) : Met l y_Opn_defOfRepeated (wsOf y_Opn_defOfRepeated b_Opn_defOfRepeated 6 (some (.int))) ({ frames := 0, cells := 0, slots := 0, locals := 0 }) (va_Pc [.ref (ad o), .int l1, .int l2] (PVc dC dI cI cB cJ cZ ad stC kcC NN E tM tC kK kV sz x)) (va_Qi (fun (r : Int32) (y : St) => post r y) (fun y t => Wd dC dI cI cB cJ cZ ad stC kcC NN (va_A (pic ad stC kcC NN cI cB cJ cZ x) sz) y t.heap) (va_A (pic ad stC kcC NN cI cB cJ cZ x) sz)) 0 0 (va_A (pic ad stC kcC NN cI cB cJ cZ x) sz) := by
  refine Met.ofW (cc := b_Opn_defOfRepeated) (maxL := 6) (ret := some (.int)) (by decide) rfl ?_
  intro p e s m args below meth c s₁ B hml hv
  obtain ⟨rfl, ⟨hsz, hW0, hK, hN⟩, hE⟩ := hv
  have hx := B.exec
  have hb := B.bytes
  have hr := B.returns
  have hts := atoms_spec B.pre
  have hT : ∀ w ∈ TG, w.before _ s = true := fun w h => hts w (List.mem_cons_of_mem _ h)
  have hown : s.vm.findClass R_Opn = some m.cls := findClass_of_methodNamed B.named
  have hlocks := B.notSynchronized
  subst hsz
  have hW : Wd dC dI cI cB cJ cZ ad stC kcC NN (va_A (pic ad stC kcC NN cI cB cJ cZ x) s.heap.size) x s.heap := ⟨hW0.1, hW0.2.1.self (sz := s.heap.size), hW0.2.2⟩
  generalize hAe : va_A (pic ad stC kcC NN cI cB cJ cZ x) s.heap.size = A at hW hE ⊢
  have hA : ∀ q : Nat, s.heap.size ≤ q → A q := fun q h => by rw [← hAe]; exact Or.inr h
  have hS : va_S A s.heap s.heap [] := va_S.rf
  have hl := lv_entry ([.ref (ad o), .int l1, .int l2]) (n := 6) (Nat.le_of_ble_eq_true rfl)
  rw [lg_entry_eq]
  generalize (lg_sl ([.ref (ad o), .int l1, .int l2]) ++ List.replicate (6 - (lg_sl ([.ref (ad o), .int l1, .int l2])).length) Slot.unset).toArray = ls at hl ⊢
  have hl : lv_has ls 6 [(0, .ref (ad o)), (1, .int l1), (2, .int l2)] := hl
  exact t_Opn_defOfRepeated_e hx hb hml hown hT hK hN hA (Nat.le_refl 0) (Nat.le_refl 0) (Nat.le_refl 0) (Nat.le_refl 0) hNN hE (fun r x H locs pc ls hd hp hW hS => W.iret (v := r) hx hb hr (fun t ht hM => ⟨⟨r, x, rfl, hp, Wd.back hW ht.symm (fun _ z => z)⟩, hS.F ht⟩) hS.2.2 hd hlocks)  o l1 l2 x _ _ ls fo hw hW hS hl
set_option maxRecDepth 100000 in
set_option maxHeartbeats 4000000 in
set_option maxRecDepth 100000 in
theorem t_Opn_checkOrder_107 {p : Program} {l : Launch} {e : Env} {R : Room} {s : State} {m : MethodId} {args : Array Value} {below : List Frame} {meth : Method} {c : Code} {cells slots : Nat} {Q : State → Prop} {dC : Nat → ClassId} {dI : Nat → Nat → Nat} {cI cB cJ cZ : ClassId} {A : Nat → Prop} {ad : Nat → Nat} {NN : Nat} {E : Heap} {tM tC : Nat} {kK kV : Nat → Nat} {post : St → Prop} {rec2 : Nat → Int32 → Int32 → Int32 → St → Prop} (hx : p.tables.exec = Jvm.exec) (hb : c.code = b_Opn_checkOrder) (hml : c.maxLocals = 7) (hown : s.vm.findClass R_Opn = some m.cls) (hT : ∀ w ∈ TG, w.before args s = true) (hK : va_K (dC, dI) CL (TY cI cB cJ cZ) s) (hN : NW s) (hA : ∀ q : Nat, s.heap.size ≤ q → A q) (hRc : cells ≤ R.cells) (hRs : slots ≤ R.slots) (hRf : 1 ≤ R.frames) (hRl : 25 ≤ R.locals) (hNN : 152 ≤ NN) (hE : CE E tM tC kK kV A s) (hret : ∀ (x : St) (H : Heap) (locs : List Loc) (pc : Nat) (ls : Array Slot), decode b_Opn_checkOrder pc = .ok (.return_, 1) → post x → Wd dC dI cI cB cJ cZ ad stC kcC NN A x H → va_S A s.heap H locs → W p l e R s m args below meth c H locs cells slots Q (F0 m pc ls [])) (hrec2 : ∀ (o : Nat) (l1 : Int32) (l2 : Int32) (l3 : Int32) (x : St) (H : Heap) (locs : List Loc) (ls : Array Slot), (o < NN ∧ kcC o = 7) → rec2 o l1 l2 l3 x → Wd dC dI cI cB cJ cZ ad stC kcC NN A x H → va_S A s.heap H locs → lv_has ls 7 [(0, .ref (ad o)), (1, .int l1), (2, .int l2), (3, .int l3)] → W p l e R s m args below meth c H locs cells slots Q (F0 m 2 ls [])) : ∀ (o : Nat) (l1 : Int32) (l2 : Int32) (l3 : Int32) (l4 : Int32) (x : St) (H : Heap) (locs : List Loc) (ls : Array Slot), (o < NN ∧ kcC o = 7) → j_Opn_checkOrder_107 post rec2 o l1 l2 l3 l4 x → Wd dC dI cI cB cJ cZ ad stC kcC NN A x H → va_S A s.heap H locs → lv_has ls 7 [(0, .ref (ad o)), (1, .int l1), (2, .int l2), (3, .int l3), (4, .int l4)] → W p l e R s m args below meth c H locs cells slots Q (F0 m 107 ls []) := by
  intro o l1 l2 l3 l4 x H locs ls fo hw hW hS hl
  unfold j_Opn_checkOrder_107 at hw
  refine lv_iinc (v := (l3 + 1)) (lv' := [(3, .int (l3 + 1)), (0, .ref (ad o)), (1, .int l1), (2, .int l2), (4, .int l4)]) hx hb d_Opn_checkOrder_107 hl (k := 3) rfl rfl (by decide) rfl (fun ls hl => ?_)
  refine lv_goto (tgt := 2) hx hb d_Opn_checkOrder_110 (by decide) ?_
  exact hrec2 o l1 l2 (l3 + 1) x H locs ls fo hw hW hS (lv_sub hl [1, 2, 3, 0] rfl)
set_option maxRecDepth 100000 in
set_option maxHeartbeats 4000000 in
set_option maxRecDepth 100000 in
theorem t_Opn_checkOrder_102 {p : Program} {l : Launch} {e : Env} {R : Room} {s : State} {m : MethodId} {args : Array Value} {below : List Frame} {meth : Method} {c : Code} {cells slots : Nat} {Q : State → Prop} {dC : Nat → ClassId} {dI : Nat → Nat → Nat} {cI cB cJ cZ : ClassId} {A : Nat → Prop} {ad : Nat → Nat} {NN : Nat} {E : Heap} {tM tC : Nat} {kK kV : Nat → Nat} {post : St → Prop} {rec2 : Nat → Int32 → Int32 → Int32 → St → Prop} (hx : p.tables.exec = Jvm.exec) (hb : c.code = b_Opn_checkOrder) (hml : c.maxLocals = 7) (hown : s.vm.findClass R_Opn = some m.cls) (hT : ∀ w ∈ TG, w.before args s = true) (hK : va_K (dC, dI) CL (TY cI cB cJ cZ) s) (hN : NW s) (hA : ∀ q : Nat, s.heap.size ≤ q → A q) (hRc : cells ≤ R.cells) (hRs : slots ≤ R.slots) (hRf : 1 ≤ R.frames) (hRl : 25 ≤ R.locals) (hNN : 152 ≤ NN) (hE : CE E tM tC kK kV A s) (hret : ∀ (x : St) (H : Heap) (locs : List Loc) (pc : Nat) (ls : Array Slot), decode b_Opn_checkOrder pc = .ok (.return_, 1) → post x → Wd dC dI cI cB cJ cZ ad stC kcC NN A x H → va_S A s.heap H locs → W p l e R s m args below meth c H locs cells slots Q (F0 m pc ls [])) (hrec2 : ∀ (o : Nat) (l1 : Int32) (l2 : Int32) (l3 : Int32) (x : St) (H : Heap) (locs : List Loc) (ls : Array Slot), (o < NN ∧ kcC o = 7) → rec2 o l1 l2 l3 x → Wd dC dI cI cB cJ cZ ad stC kcC NN A x H → va_S A s.heap H locs → lv_has ls 7 [(0, .ref (ad o)), (1, .int l1), (2, .int l2), (3, .int l3)] → W p l e R s m args below meth c H locs cells slots Q (F0 m 2 ls [])) : ∀ (o : Nat) (l1 : Int32) (l2 : Int32) (l3 : Int32) (l4 : Int32) (l5 : Int32) (l6 : Int32) (s0 : Int32) (s1 : Nat) (x : St) (H : Heap) (locs : List Loc) (ls : Array Slot), (o < NN ∧ kcC o = 7) → (s1 < NN ∧ kcC s1 = 8) → j_Opn_checkOrder_102 post rec2 o l1 l2 l3 l4 l5 l6 s0 s1 x → Wd dC dI cI cB cJ cZ ad stC kcC NN A x H → va_S A s.heap H locs → lv_has ls 7 [(0, .ref (ad o)), (1, .int l1), (2, .int l2), (3, .int l3), (4, .int l4), (5, .int l5), (6, .int l6)] → W p l e R s m args below meth c H locs cells slots Q (F0 m 102 ls [.int s0, .ref (ad s1)]) := by
  intro o l1 l2 l3 l4 l5 l6 s0 s1 x H locs ls fo fs1 hw hW hS hl
  unfold j_Opn_checkOrder_102 at hw
  refine lv_bipush (v := 20) hx hb d_Opn_checkOrder_102 (by decide) ?_
  have hF := hW.free hS hA
  refine va_callv (va_runV (C := R_Src) (As := [.int s0, .int 20]) (rest := []) ⟨hx, hb, hml, hown, hT⟩ (k_Src_check l dC dI cI cB cJ cZ ad NN E tM tC kK kV hNN H.size s1 s0 20 x fs1 hw) ⟨callB_of 2 hT (gwt_in w_6_116) rfl rfl rfl (hT _ w_1_11) (hT _ w_6_113) (by decide +kernel) ⟨Nat.le_trans (Nat.le_of_ble_eq_true rfl) hRf, Nat.le_trans (Nat.le_of_ble_eq_true rfl) hRl⟩, hT _ w_6_114, hT _ w_6_115⟩ ⟨PVc.blind, va_recv hK hW.1 (ci := 8) (q0 := s1) rfl (pic_obj fs1.1 fs1.2 (by decide)), PVc.at _ hW hK hN hE hS hF⟩ rfl rfl hl.1 rfl (lv_room (Nat.le_of_ble_eq_true rfl)) d_Opn_checkOrder_104 ⟨hRc, hRs⟩) hS (fun q _ h => hF q h) hF (fun  x1 t H locs ht hvm hw hB hz1 hk1 hS => ?_)
  have hW := Wd.back hB ht hF
  clear hB ht hF hz1 hk1 hvm
  exact t_Opn_checkOrder_107 hx hb hml hown hT hK hN hA hRc hRs hRf hRl hNN hE hret hrec2 o l1 l2 l3 l4 x1 H locs ls fo hw hW hS (lv_sub hl [0, 1, 2, 3, 4] rfl)
set_option maxRecDepth 100000 in
set_option maxHeartbeats 4000000 in
set_option maxRecDepth 100000 in
theorem t_Opn_checkOrder_101 {p : Program} {l : Launch} {e : Env} {R : Room} {s : State} {m : MethodId} {args : Array Value} {below : List Frame} {meth : Method} {c : Code} {cells slots : Nat} {Q : State → Prop} {dC : Nat → ClassId} {dI : Nat → Nat → Nat} {cI cB cJ cZ : ClassId} {A : Nat → Prop} {ad : Nat → Nat} {NN : Nat} {E : Heap} {tM tC : Nat} {kK kV : Nat → Nat} {post : St → Prop} {rec2 : Nat → Int32 → Int32 → Int32 → St → Prop} (hx : p.tables.exec = Jvm.exec) (hb : c.code = b_Opn_checkOrder) (hml : c.maxLocals = 7) (hown : s.vm.findClass R_Opn = some m.cls) (hT : ∀ w ∈ TG, w.before args s = true) (hK : va_K (dC, dI) CL (TY cI cB cJ cZ) s) (hN : NW s) (hA : ∀ q : Nat, s.heap.size ≤ q → A q) (hRc : cells ≤ R.cells) (hRs : slots ≤ R.slots) (hRf : 1 ≤ R.frames) (hRl : 25 ≤ R.locals) (hNN : 152 ≤ NN) (hE : CE E tM tC kK kV A s) (hret : ∀ (x : St) (H : Heap) (locs : List Loc) (pc : Nat) (ls : Array Slot), decode b_Opn_checkOrder pc = .ok (.return_, 1) → post x → Wd dC dI cI cB cJ cZ ad stC kcC NN A x H → va_S A s.heap H locs → W p l e R s m args below meth c H locs cells slots Q (F0 m pc ls [])) (hrec2 : ∀ (o : Nat) (l1 : Int32) (l2 : Int32) (l3 : Int32) (x : St) (H : Heap) (locs : List Loc) (ls : Array Slot), (o < NN ∧ kcC o = 7) → rec2 o l1 l2 l3 x → Wd dC dI cI cB cJ cZ ad stC kcC NN A x H → va_S A s.heap H locs → lv_has ls 7 [(0, .ref (ad o)), (1, .int l1), (2, .int l2), (3, .int l3)] → W p l e R s m args below meth c H locs cells slots Q (F0 m 2 ls [])) : ∀ (o : Nat) (l1 : Int32) (l2 : Int32) (l3 : Int32) (l4 : Int32) (l5 : Int32) (l6 : Int32) (s0 : Nat) (x : St) (H : Heap) (locs : List Loc) (ls : Array Slot), (o < NN ∧ kcC o = 7) → (s0 < NN ∧ kcC s0 = 8) → j_Opn_checkOrder_101 post rec2 o l1 l2 l3 l4 l5 l6 s0 x → Wd dC dI cI cB cJ cZ ad stC kcC NN A x H → va_S A s.heap H locs → lv_has ls 7 [(0, .ref (ad o)), (1, .int l1), (2, .int l2), (3, .int l3), (4, .int l4), (5, .int l5), (6, .int l6)] → W p l e R s m args below meth c H locs cells slots Q (F0 m 101 ls [.ref (ad s0)]) := by
  intro o l1 l2 l3 l4 l5 l6 s0 x H locs ls fo fs0 hw hW hS hl
  unfold j_Opn_checkOrder_101 at hw
  refine lv_iconst (v := 0) hx hb d_Opn_checkOrder_101 (by decide) ?_
  exact t_Opn_checkOrder_102 hx hb hml hown hT hK hN hA hRc hRs hRf hRl hNN hE hret hrec2 o l1 l2 l3 l4 l5 l6 0 s0 x H locs ls fo fs0 hw hW hS (lv_sub hl [0, 1, 2, 3, 4, 5, 6] rfl)
set_option maxRecDepth 100000 in
set_option maxHeartbeats 4000000 in
set_option maxRecDepth 100000 in
theorem t_Opn_checkOrder_2 {p : Program} {l : Launch} {e : Env} {R : Room} {s : State} {m : MethodId} {args : Array Value} {below : List Frame} {meth : Method} {c : Code} {cells slots : Nat} {Q : State → Prop} {dC : Nat → ClassId} {dI : Nat → Nat → Nat} {cI cB cJ cZ : ClassId} {A : Nat → Prop} {ad : Nat → Nat} {NN : Nat} {E : Heap} {tM tC : Nat} {kK kV : Nat → Nat} {post : St → Prop} {rec2 : Nat → Int32 → Int32 → Int32 → St → Prop} (hx : p.tables.exec = Jvm.exec) (hb : c.code = b_Opn_checkOrder) (hml : c.maxLocals = 7) (hown : s.vm.findClass R_Opn = some m.cls) (hT : ∀ w ∈ TG, w.before args s = true) (hK : va_K (dC, dI) CL (TY cI cB cJ cZ) s) (hN : NW s) (hA : ∀ q : Nat, s.heap.size ≤ q → A q) (hRc : cells ≤ R.cells) (hRs : slots ≤ R.slots) (hRf : 1 ≤ R.frames) (hRl : 25 ≤ R.locals) (hNN : 152 ≤ NN) (hE : CE E tM tC kK kV A s) (hret : ∀ (x : St) (H : Heap) (locs : List Loc) (pc : Nat) (ls : Array Slot), decode b_Opn_checkOrder pc = .ok (.return_, 1) → post x → Wd dC dI cI cB cJ cZ ad stC kcC NN A x H → va_S A s.heap H locs → W p l e R s m args below meth c H locs cells slots Q (F0 m pc ls [])) (hrec2 : ∀ (o : Nat) (l1 : Int32) (l2 : Int32) (l3 : Int32) (x : St) (H : Heap) (locs : List Loc) (ls : Array Slot), (o < NN ∧ kcC o = 7) → rec2 o l1 l2 l3 x → Wd dC dI cI cB cJ cZ ad stC kcC NN A x H → va_S A s.heap H locs → lv_has ls 7 [(0, .ref (ad o)), (1, .int l1), (2, .int l2), (3, .int l3)] → W p l e R s m args below meth c H locs cells slots Q (F0 m 2 ls [])) : ∀ (o : Nat) (l1 : Int32) (l2 : Int32) (l3 : Int32) (x : St) (H : Heap) (locs : List Loc) (ls : Array Slot), (o < NN ∧ kcC o = 7) → j_Opn_checkOrder_2 post rec2 o l1 l2 l3 x → Wd dC dI cI cB cJ cZ ad stC kcC NN A x H → va_S A s.heap H locs → lv_has ls 7 [(0, .ref (ad o)), (1, .int l1), (2, .int l2), (3, .int l3)] → W p l e R s m args below meth c H locs cells slots Q (F0 m 2 ls []) := by
  intro o l1 l2 l3 x H locs ls fo hw hW hS hl
  unfold j_Opn_checkOrder_2 at hw
  refine lv_iload_n hx hb d_Opn_checkOrder_2 rfl (lv_at hl 3 rfl) ?_
  refine lv_iload_n hx hb d_Opn_checkOrder_3 rfl (lv_at hl 2 rfl) ?_
  refine lv_icmp_ge (tgt := 113) hx hb d_Opn_checkOrder_4 (by decide) (fun c2 => ?_) (fun c2 => ?_)
  · have hw := hw.1 c2
    exact hret x H locs 113 ls d_Opn_checkOrder_113 hw hW hS
  · have hw := hw.2 c2
    refine lv_aload_n hx hb d_Opn_checkOrder_7 rfl (lv_at hl 0 rfl) ?_
    refine w_getf (q := (stC o 2)) (k := 2) (t := 7) (C := R_Opn) (T := F_Opn) (N := 17) hx hb hT hown hK hW fo.1 fo.2 (by decide) in_Opn rfl rfl (by decide) rfl fr_Opn_2 w_3_17 d_Opn_checkOrder_8 rfl ?_
    refine w_geti (k := 3) (t := 8) (C := R_Src) (T := F_Src) (N := 5) hx hb hT hown hK hW (st_ty hNN fo.1 fo.2 rfl).1 (st_ty hNN fo.1 fo.2 rfl).2 (by decide) in_Src rfl rfl (by decide) rfl fr_Src_3 w_3_2 d_Opn_checkOrder_11 ?_
    refine lv_if_ne (tgt := 113) hx hb d_Opn_checkOrder_14 (by decide) (fun c3 => ?_) (fun c3 => ?_)
    · have hw := hw.1 c3
      exact hret x H locs 113 ls d_Opn_checkOrder_113 hw hW hS
    · have hw := hw.2 c3
      refine lv_aload_n hx hb d_Opn_checkOrder_17 rfl (lv_at hl 0 rfl) ?_
      refine w_getf (q := (stC o 0)) (k := 0) (t := 7) (C := R_Opn) (T := F_Opn) (N := 17) hx hb hT hown hK hW fo.1 fo.2 (by decide) in_Opn rfl rfl (by decide) rfl fr_Opn_0 w_3_15 d_Opn_checkOrder_18 rfl ?_
      refine w_getf (q := (stC (stC o 0) 7)) (k := 7) (t := 6) (C := R_Vlt) (T := F_Vlt) (N := 20) hx hb hT hown hK hW (st_ty hNN fo.1 fo.2 rfl).1 (st_ty hNN fo.1 fo.2 rfl).2 (by decide) in_Vlt rfl rfl (by decide) rfl fr_Vlt_7 w_2_146 d_Opn_checkOrder_21 rfl ?_
      refine lv_aload_n hx hb d_Opn_checkOrder_24 rfl (lv_at hl 0 rfl) ?_
      refine w_getf (q := (stC o 0)) (k := 0) (t := 7) (C := R_Opn) (T := F_Opn) (N := 17) hx hb hT hown hK hW fo.1 fo.2 (by decide) in_Opn rfl rfl (by decide) rfl fr_Opn_0 w_3_15 d_Opn_checkOrder_25 rfl ?_
      refine w_geti (k := 4) (t := 6) (C := R_Vlt) (T := F_Vlt) (N := 20) hx hb hT hown hK hW (st_ty hNN fo.1 fo.2 rfl).1 (st_ty hNN fo.1 fo.2 rfl).2 (by decide) in_Vlt rfl rfl (by decide) rfl fr_Vlt_4 w_2_133 d_Opn_checkOrder_28 ?_
      refine lv_iload_n hx hb d_Opn_checkOrder_31 rfl (lv_at hl 3 rfl) ?_
      refine lv_iadd hx hb d_Opn_checkOrder_32 ?_
      obtain ⟨hi, hw⟩ := hw
      refine w_bald (o := (stC (stC o 0) 7)) hx hb hK hW (st_ty hNN (st_ty hNN fo.1 fo.2 rfl).1 (st_ty hNN fo.1 fo.2 rfl).2 rfl).1 (st_ty hNN (st_ty hNN fo.1 fo.2 rfl).1 (st_ty hNN fo.1 fo.2 rfl).2 rfl).2 hi d_Opn_checkOrder_33 ?_
      refine lv_topi (fun v4 ev4 => ?_)
      have hw := hw v4 ev4
      refine lv_istore (lv' := [(4, .int v4), (0, .ref (ad o)), (1, .int l1), (2, .int l2), (3, .int l3)]) hx hb d_Opn_checkOrder_34 hl (by decide) rfl (fun ls hl => ?_)
      refine lv_iload hx hb d_Opn_checkOrder_36 (lv_at hl 0 rfl) ?_
      refine lv_if_le (tgt := 107) hx hb d_Opn_checkOrder_38 (by decide) (fun c5 => ?_) (fun c5 => ?_)
      · have hw := hw.1 c5
        exact t_Opn_checkOrder_107 hx hb hml hown hT hK hN hA hRc hRs hRf hRl hNN hE hret hrec2 o l1 l2 l3 v4 x H locs ls fo hw hW hS (lv_sub hl [1, 2, 3, 4, 0] rfl)
      · have hw := hw.2 c5
        refine lv_aload_n hx hb d_Opn_checkOrder_41 rfl (lv_at hl 1 rfl) ?_
        refine lv_iload_n hx hb d_Opn_checkOrder_42 rfl (lv_at hl 2 rfl) ?_
        refine lv_iload hx hb d_Opn_checkOrder_43 (lv_at hl 0 rfl) ?_
        have hF := hW.free hS hA
        refine va_calli (va_runV (C := R_Opn) (As := [.int l1, .int v4]) (rest := []) ⟨hx, hb, hml, hown, hT⟩ (k_Opn_defOfRepeated l dC dI cI cB cJ cZ ad NN E tM tC kK kV hNN H.size o l1 v4 x fo hw) ⟨callB_of 2 hT (gwt_in w_7_42) rfl rfl rfl (hT _ w_1_10) (hT _ w_7_39) (by decide +kernel) ⟨Nat.le_trans (Nat.le_of_ble_eq_true rfl) hRf, Nat.le_trans (Nat.le_of_ble_eq_true rfl) hRl⟩, hT _ w_7_41, hT _ ws_57⟩ ⟨PVc.blind, va_recv hK hW.1 (ci := 7) (q0 := o) rfl (pic_obj fo.1 fo.2 (by decide)), PVc.at _ hW hK hN hE hS hF⟩ rfl rfl hl.1 rfl (lv_room (Nat.le_of_ble_eq_true rfl)) d_Opn_checkOrder_45 ⟨hRc, hRs⟩) hS (fun q _ h => hF q h) hF (fun r7 x6 t H locs ht hvm hw hB hz1 hk1 hS => ?_)
        have hW := Wd.back hB ht hF
        clear hB ht hF hz1 hk1 hvm
        refine lv_istore (lv' := [(5, .int r7), (4, .int v4), (0, .ref (ad o)), (1, .int l1), (2, .int l2), (3, .int l3)]) hx hb d_Opn_checkOrder_48 hl (by decide) rfl (fun ls hl => ?_)
        refine lv_aload_n hx hb d_Opn_checkOrder_50 rfl (lv_at hl 2 rfl) ?_
        refine w_getf (q := (stC o 0)) (k := 0) (t := 7) (C := R_Opn) (T := F_Opn) (N := 17) hx hb hT hown hK hW fo.1 fo.2 (by decide) in_Opn rfl rfl (by decide) rfl fr_Opn_0 w_3_15 d_Opn_checkOrder_51 rfl ?_
        refine w_geti (k := 4) (t := 6) (C := R_Vlt) (T := F_Vlt) (N := 20) hx hb hT hown hK hW (st_ty hNN fo.1 fo.2 rfl).1 (st_ty hNN fo.1 fo.2 rfl).2 (by decide) in_Vlt rfl rfl (by decide) rfl fr_Vlt_4 w_2_133 d_Opn_checkOrder_54 ?_
        refine lv_iload_n hx hb d_Opn_checkOrder_57 rfl (lv_at hl 5 rfl) ?_
        refine lv_iadd hx hb d_Opn_checkOrder_58 ?_
        refine lv_topi (fun v8 ev8 => ?_)
        have hw := hw v8 ev8
        refine lv_istore (lv' := [(6, .int v8), (5, .int r7), (4, .int v4), (0, .ref (ad o)), (1, .int l1), (2, .int l2), (3, .int l3)]) hx hb d_Opn_checkOrder_59 hl (by decide) rfl (fun ls hl => ?_)
        refine lv_aload_n hx hb d_Opn_checkOrder_61 rfl (lv_at hl 3 rfl) ?_
        refine w_getf (q := (stC o 2)) (k := 2) (t := 7) (C := R_Opn) (T := F_Opn) (N := 17) hx hb hT hown hK hW fo.1 fo.2 (by decide) in_Opn rfl rfl (by decide) rfl fr_Opn_2 w_3_17 d_Opn_checkOrder_62 rfl ?_
        refine lv_aload_n hx hb d_Opn_checkOrder_65 rfl (lv_at hl 3 rfl) ?_
        refine w_getf (q := (stC o 0)) (k := 0) (t := 7) (C := R_Opn) (T := F_Opn) (N := 17) hx hb hT hown hK hW fo.1 fo.2 (by decide) in_Opn rfl rfl (by decide) rfl fr_Opn_0 w_3_15 d_Opn_checkOrder_66 rfl ?_
        refine w_getf (q := (stC (stC o 0) 8)) (k := 8) (t := 6) (C := R_Vlt) (T := F_Vlt) (N := 20) hx hb hT hown hK hW (st_ty hNN fo.1 fo.2 rfl).1 (st_ty hNN fo.1 fo.2 rfl).2 (by decide) in_Vlt rfl rfl (by decide) rfl fr_Vlt_8 w_2_149 d_Opn_checkOrder_69 rfl ?_
        refine lv_iload hx hb d_Opn_checkOrder_72 (lv_at hl 0 rfl) ?_
        obtain ⟨hi, hw⟩ := hw
        refine w_bald (o := (stC (stC o 0) 8)) hx hb hK hW (st_ty hNN (st_ty hNN fo.1 fo.2 rfl).1 (st_ty hNN fo.1 fo.2 rfl).2 rfl).1 (st_ty hNN (st_ty hNN fo.1 fo.2 rfl).1 (st_ty hNN fo.1 fo.2 rfl).2 rfl).2 hi d_Opn_checkOrder_74 ?_
        refine lv_iload hx hb d_Opn_checkOrder_75 (lv_at hl 1 rfl) ?_
        refine lv_icmp_lt (tgt := 101) hx hb d_Opn_checkOrder_77 (by decide) (fun c9 => ?_) (fun c9 => ?_)
        · have hw := hw.1 c9
          exact t_Opn_checkOrder_101 hx hb hml hown hT hK hN hA hRc hRs hRf hRl hNN hE hret hrec2 o l1 l2 l3 v4 r7 v8 (stC o 2) x6 H locs ls fo (st_ty hNN fo.1 fo.2 rfl) hw hW hS (lv_sub hl [3, 4, 5, 6, 2, 1, 0] rfl)
        · have hw := hw.2 c9
          refine lv_aload_n hx hb d_Opn_checkOrder_80 rfl (lv_at hl 3 rfl) ?_
          refine w_getf (q := (stC o 0)) (k := 0) (t := 7) (C := R_Opn) (T := F_Opn) (N := 17) hx hb hT hown hK hW fo.1 fo.2 (by decide) in_Opn rfl rfl (by decide) rfl fr_Opn_0 w_3_15 d_Opn_checkOrder_81 rfl ?_
          refine w_getf (q := (stC (stC o 0) 8)) (k := 8) (t := 6) (C := R_Vlt) (T := F_Vlt) (N := 20) hx hb hT hown hK hW (st_ty hNN fo.1 fo.2 rfl).1 (st_ty hNN fo.1 fo.2 rfl).2 (by decide) in_Vlt rfl rfl (by decide) rfl fr_Vlt_8 w_2_149 d_Opn_checkOrder_84 rfl ?_
          refine lv_iload hx hb d_Opn_checkOrder_87 (lv_at hl 0 rfl) ?_
          refine lv_iconst (v := 1) hx hb d_Opn_checkOrder_89 (by decide) ?_
          refine lv_isub hx hb d_Opn_checkOrder_90 ?_
          obtain ⟨hi, hw⟩ := hw
          refine w_bald (o := (stC (stC o 0) 8)) hx hb hK hW (st_ty hNN (st_ty hNN fo.1 fo.2 rfl).1 (st_ty hNN fo.1 fo.2 rfl).2 rfl).1 (st_ty hNN (st_ty hNN fo.1 fo.2 rfl).1 (st_ty hNN fo.1 fo.2 rfl).2 rfl).2 hi d_Opn_checkOrder_91 ?_
          refine lv_iload hx hb d_Opn_checkOrder_92 (lv_at hl 1 rfl) ?_
          refine lv_icmp_lt (tgt := 101) hx hb d_Opn_checkOrder_94 (by decide) (fun c10 => ?_) (fun c10 => ?_)
          · have hw := hw.1 c10
            exact t_Opn_checkOrder_101 hx hb hml hown hT hK hN hA hRc hRs hRf hRl hNN hE hret hrec2 o l1 l2 l3 v4 r7 v8 (stC o 2) x6 H locs ls fo (st_ty hNN fo.1 fo.2 rfl) hw hW hS (lv_sub hl [3, 4, 5, 6, 2, 1, 0] rfl)
          · have hw := hw.2 c10
            refine lv_iconst (v := 1) hx hb d_Opn_checkOrder_97 (by decide) ?_
            refine lv_goto (tgt := 102) hx hb d_Opn_checkOrder_98 (by decide) ?_
            exact t_Opn_checkOrder_102 hx hb hml hown hT hK hN hA hRc hRs hRf hRl hNN hE hret hrec2 o l1 l2 l3 v4 r7 v8 1 (stC o 2) x6 H locs ls fo (st_ty hNN fo.1 fo.2 rfl) hw hW hS (lv_sub hl [3, 4, 5, 6, 2, 1, 0] rfl)
set_option maxHeartbeats 4000000 in
set_option maxRecDepth 100000 in
theorem tl_Opn_checkOrder_2 {p : Program} {l : Launch} {e : Env} {R : Room} {s : State} {m : MethodId} {args : Array Value} {below : List Frame} {meth : Method} {c : Code} {cells slots : Nat} {Q : State → Prop} {dC : Nat → ClassId} {dI : Nat → Nat → Nat} {cI cB cJ cZ : ClassId} {A : Nat → Prop} {ad : Nat → Nat} {NN : Nat} {E : Heap} {tM tC : Nat} {kK kV : Nat → Nat} {post : St → Prop} (hx : p.tables.exec = Jvm.exec) (hb : c.code = b_Opn_checkOrder) (hml : c.maxLocals = 7) (hown : s.vm.findClass R_Opn = some m.cls) (hT : ∀ w ∈ TG, w.before args s = true) (hK : va_K (dC, dI) CL (TY cI cB cJ cZ) s) (hN : NW s) (hA : ∀ q : Nat, s.heap.size ≤ q → A q) (hRc : cells ≤ R.cells) (hRs : slots ≤ R.slots) (hRf : 1 ≤ R.frames) (hRl : 25 ≤ R.locals) (hNN : 152 ≤ NN) (hE : CE E tM tC kK kV A s) (hret : ∀ (x : St) (H : Heap) (locs : List Loc) (pc : Nat) (ls : Array Slot), decode b_Opn_checkOrder pc = .ok (.return_, 1) → post x → Wd dC dI cI cB cJ cZ ad stC kcC NN A x H → va_S A s.heap H locs → W p l e R s m args below meth c H locs cells slots Q (F0 m pc ls []))  : ∀ n : Nat, ∀ (o : Nat) (l1 : Int32) (l2 : Int32) (l3 : Int32) (x : St) (H : Heap) (locs : List Loc) (ls : Array Slot), (o < NN ∧ kcC o = 7) → wl_Opn_checkOrder_2 post n o l1 l2 l3 x → Wd dC dI cI cB cJ cZ ad stC kcC NN A x H → va_S A s.heap H locs → lv_has ls 7 [(0, .ref (ad o)), (1, .int l1), (2, .int l2), (3, .int l3)] → W p l e R s m args below meth c H locs cells slots Q (F0 m 2 ls []) := by
  intro n
  induction n with
  | zero => intro o l1 l2 l3 x H locs ls fo hw; exact hw.elim
  | succ n ih => intro o l1 l2 l3 x H locs ls fo hw hW hS hl; exact t_Opn_checkOrder_2 hx hb hml hown hT hK hN hA hRc hRs hRf hRl hNN hE hret  ih o l1 l2 l3 x H locs ls fo hw hW hS hl
set_option maxRecDepth 100000 in
set_option maxHeartbeats 4000000 in
set_option maxRecDepth 100000 in
theorem t_Opn_checkOrder_e {p : Program} {l : Launch} {e : Env} {R : Room} {s : State} {m : MethodId} {args : Array Value} {below : List Frame} {meth : Method} {c : Code} {cells slots : Nat} {Q : State → Prop} {dC : Nat → ClassId} {dI : Nat → Nat → Nat} {cI cB cJ cZ : ClassId} {A : Nat → Prop} {ad : Nat → Nat} {NN : Nat} {E : Heap} {tM tC : Nat} {kK kV : Nat → Nat} {post : St → Prop} (hx : p.tables.exec = Jvm.exec) (hb : c.code = b_Opn_checkOrder) (hml : c.maxLocals = 7) (hown : s.vm.findClass R_Opn = some m.cls) (hT : ∀ w ∈ TG, w.before args s = true) (hK : va_K (dC, dI) CL (TY cI cB cJ cZ) s) (hN : NW s) (hA : ∀ q : Nat, s.heap.size ≤ q → A q) (hRc : cells ≤ R.cells) (hRs : slots ≤ R.slots) (hRf : 1 ≤ R.frames) (hRl : 25 ≤ R.locals) (hNN : 152 ≤ NN) (hE : CE E tM tC kK kV A s) (hret : ∀ (x : St) (H : Heap) (locs : List Loc) (pc : Nat) (ls : Array Slot), decode b_Opn_checkOrder pc = .ok (.return_, 1) → post x → Wd dC dI cI cB cJ cZ ad stC kcC NN A x H → va_S A s.heap H locs → W p l e R s m args below meth c H locs cells slots Q (F0 m pc ls [])) : ∀ (o : Nat) (l1 : Int32) (l2 : Int32) (x : St) (H : Heap) (locs : List Loc) (ls : Array Slot), (o < NN ∧ kcC o = 7) → wp_Opn_checkOrder post o l1 l2 x → Wd dC dI cI cB cJ cZ ad stC kcC NN A x H → va_S A s.heap H locs → lv_has ls 7 [(0, .ref (ad o)), (1, .int l1), (2, .int l2)] → W p l e R s m args below meth c H locs cells slots Q (F0 m 0 ls []) := by
  intro o l1 l2 x H locs ls fo hw hW hS hl
  unfold wp_Opn_checkOrder at hw
  refine lv_iconst (v := 1) hx hb d_Opn_checkOrder_0 (by decide) ?_
  refine lv_istore_n (lv' := [(3, .int 1), (0, .ref (ad o)), (1, .int l1), (2, .int l2)]) hx hb d_Opn_checkOrder_1 rfl hl (by decide) rfl (fun ls hl => ?_)
  obtain ⟨n, hw⟩ := hw
  exact tl_Opn_checkOrder_2 hx hb hml hown hT hK hN hA hRc hRs hRf hRl hNN hE hret  n o l1 l2 1 x H locs ls fo hw hW hS (lv_sub hl [1, 2, 3, 0] rfl)
set_option maxHeartbeats 4000000 in
set_option maxRecDepth 100000 in
theorem k_Opn_checkOrder (l : Launch) (dC : Nat → ClassId) (dI : Nat → Nat → Nat) (cI cB cJ cZ : ClassId) (ad : Nat → Nat) (NN : Nat) (E : Heap) (tM tC : Nat) (kK kV : Nat → Nat) (hNN : 152 ≤ NN) (sz : Nat) (o : Nat) (l1 : Int32) (l2 : Int32) (x : St) (fo : o < NN ∧ kcC o = 7) {post : St → Prop} (hw : wp_Opn_checkOrder post o l1 l2 x) : Met l y_Opn_checkOrder (wsOf y_Opn_checkOrder b_Opn_checkOrder 7 (none)) ({ frames := 1, cells := 0, slots := 0, locals := 25 }) (va_Pc [.ref (ad o), .int l1, .int l2] (PVc dC dI cI cB cJ cZ ad stC kcC NN E tM tC kK kV sz x)) (va_Qv (fun (y : St) => post y) (fun y t => Wd dC dI cI cB cJ cZ ad stC kcC NN (va_A (pic ad stC kcC NN cI cB cJ cZ x) sz) y t.heap) (va_A (pic ad stC kcC NN cI cB cJ cZ x) sz)) 0 0 (va_A (pic ad stC kcC NN cI cB cJ cZ x) sz) := by
  refine Met.ofW (cc := b_Opn_checkOrder) (maxL := 7) (ret := none) (by decide) rfl ?_
  intro p e s m args below meth c s₁ B hml hv
  obtain ⟨rfl, ⟨hsz, hW0, hK, hN⟩, hE⟩ := hv
  have hx := B.exec
  have hb := B.bytes
  have hr := B.returns
  have hts := atoms_spec B.pre
  have hT : ∀ w ∈ TG, w.before _ s = true := fun w h => hts w (List.mem_cons_of_mem _ h)
  have hown : s.vm.findClass R_Opn = some m.cls := findClass_of_methodNamed B.named
  have hlocks := B.notSynchronized
  subst hsz
  have hW : Wd dC dI cI cB cJ cZ ad stC kcC NN (va_A (pic ad stC kcC NN cI cB cJ cZ x) s.heap.size) x s.heap := ⟨hW0.1, hW0.2.1.self (sz := s.heap.size), hW0.2.2⟩
  generalize hAe : va_A (pic ad stC kcC NN cI cB cJ cZ x) s.heap.size = A at hW hE ⊢
  have hA : ∀ q : Nat, s.heap.size ≤ q → A q := fun q h => by rw [← hAe]; exact Or.inr h
  have hS : va_S A s.heap s.heap [] := va_S.rf
  have hl := lv_entry ([.ref (ad o), .int l1, .int l2]) (n := 7) (Nat.le_of_ble_eq_true rfl)
  rw [lg_entry_eq]
  generalize (lg_sl ([.ref (ad o), .int l1, .int l2]) ++ List.replicate (7 - (lg_sl ([.ref (ad o), .int l1, .int l2])).length) Slot.unset).toArray = ls at hl ⊢
  have hl : lv_has ls 7 [(0, .ref (ad o)), (1, .int l1), (2, .int l2)] := hl
  exact t_Opn_checkOrder_e hx hb hml hown hT hK hN hA (Nat.le_refl 0) (Nat.le_refl 0) (Nat.le_refl 1) (Nat.le_refl 25) hNN hE (fun x H locs pc ls hd hp hW hS => W.vret hx hb hr (fun t ht hM => ⟨⟨x, rfl, hp, Wd.back hW ht.symm (fun _ z => z)⟩, hS.F ht⟩) hS.2.2 hd hlocks)  o l1 l2 x _ _ ls fo hw hW hS hl
set_option maxRecDepth 100000 in
set_option maxHeartbeats 4000000 in
set_option maxRecDepth 100000 in
theorem t_Vlt_hasValue_e {p : Program} {l : Launch} {e : Env} {R : Room} {s : State} {m : MethodId} {args : Array Value} {below : List Frame} {meth : Method} {c : Code} {cells slots : Nat} {Q : State → Prop} {dC : Nat → ClassId} {dI : Nat → Nat → Nat} {cI cB cJ cZ : ClassId} {A : Nat → Prop} {ad : Nat → Nat} {NN : Nat} {E : Heap} {tM tC : Nat} {kK kV : Nat → Nat} {post : Int32 → St → Prop} (hx : p.tables.exec = Jvm.exec) (hb : c.code = b_Vlt_hasValue) (hml : c.maxLocals = 3) (hown : s.vm.findClass R_Vlt = some m.cls) (hT : ∀ w ∈ TG, w.before args s = true) (hK : va_K (dC, dI) CL (TY cI cB cJ cZ) s) (hN : NW s) (hA : ∀ q : Nat, s.heap.size ≤ q → A q) (hRc : cells ≤ R.cells) (hRs : slots ≤ R.slots) (hRf : 0 ≤ R.frames) (hRl : 0 ≤ R.locals) (hNN : 152 ≤ NN) (hE : CE E tM tC kK kV A s) (hret : ∀ (r : Int32) (x : St) (H : Heap) (locs : List Loc) (pc : Nat) (ls : Array Slot), decode b_Vlt_hasValue pc = .ok (.ireturn, 1) → narrow .boolean (.int r) = .int r → post r x → Wd dC dI cI cB cJ cZ ad stC kcC NN A x H → va_S A s.heap H locs → W p l e R s m args below meth c H locs cells slots Q (F0 m pc ls [.int r])) : ∀ (o : Nat) (l1 : Int32) (l2 : Int32) (x : St) (H : Heap) (locs : List Loc) (ls : Array Slot), (o < NN ∧ kcC o = 6) → wp_Vlt_hasValue post o l1 l2 x → Wd dC dI cI cB cJ cZ ad stC kcC NN A x H → va_S A s.heap H locs → lv_has ls 3 [(0, .ref (ad o)), (1, .int l1), (2, .int l2)] → W p l e R s m args below meth c H locs cells slots Q (F0 m 0 ls []) := by
  intro o l1 l2 x H locs ls fo hw hW hS hl
  unfold wp_Vlt_hasValue at hw
  refine lv_aload_n hx hb d_Vlt_hasValue_0 rfl (lv_at hl 0 rfl) ?_
  refine w_getf (q := (stC o 8)) (k := 8) (t := 6) (C := R_Vlt) (T := F_Vlt) (N := 20) hx hb hT hown hK hW fo.1 fo.2 (by decide) in_Vlt rfl rfl (by decide) rfl fr_Vlt_8 w_2_147 d_Vlt_hasValue_1 rfl ?_
  refine lv_iload_n hx hb d_Vlt_hasValue_4 rfl (lv_at hl 1 rfl) ?_
  obtain ⟨hi, hw⟩ := hw
  refine w_bald (o := (stC o 8)) hx hb hK hW (st_ty hNN fo.1 fo.2 rfl).1 (st_ty hNN fo.1 fo.2 rfl).2 hi d_Vlt_hasValue_5 ?_
  refine lv_aload_n hx hb d_Vlt_hasValue_6 rfl (lv_at hl 0 rfl) ?_
  refine w_getf (q := (stC o 5)) (k := 5) (t := 6) (C := R_Vlt) (T := F_Vlt) (N := 20) hx hb hT hown hK hW fo.1 fo.2 (by decide) in_Vlt rfl rfl (by decide) rfl fr_Vlt_5 w_2_134 d_Vlt_hasValue_7 rfl ?_
  refine w_getf (q := (stC (stC o 5) 6)) (k := 6) (t := 3) (C := R_Sch) (T := F_Sch) (N := 13) hx hb hT hown hK hW (st_ty hNN fo.1 fo.2 rfl).1 (st_ty hNN fo.1 fo.2 rfl).2 (by decide) in_Sch rfl rfl (by decide) rfl fr_Sch_6 w_1_163 d_Vlt_hasValue_10 rfl ?_
  refine lv_aload_n hx hb d_Vlt_hasValue_13 rfl (lv_at hl 0 rfl) ?_
  refine w_getf (q := (stC o 5)) (k := 5) (t := 6) (C := R_Vlt) (T := F_Vlt) (N := 20) hx hb hT hown hK hW fo.1 fo.2 (by decide) in_Vlt rfl rfl (by decide) rfl fr_Vlt_5 w_2_134 d_Vlt_hasValue_14 rfl ?_
  refine w_getf (q := (stC (stC o 5) 10)) (k := 10) (t := 3) (C := R_Sch) (T := F_Sch) (N := 13) hx hb hT hown hK hW (st_ty hNN fo.1 fo.2 rfl).1 (st_ty hNN fo.1 fo.2 rfl).2 (by decide) in_Sch rfl rfl (by decide) rfl fr_Sch_10 w_1_180 d_Vlt_hasValue_17 rfl ?_
  refine lv_iload_n hx hb d_Vlt_hasValue_20 rfl (lv_at hl 2 rfl) ?_
  obtain ⟨hi, hw⟩ := hw
  refine w_iald (o := (stC (stC o 5) 10)) hx hb hK hW (st_ty hNN (st_ty hNN fo.1 fo.2 rfl).1 (st_ty hNN fo.1 fo.2 rfl).2 rfl).1 (st_ty hNN (st_ty hNN fo.1 fo.2 rfl).1 (st_ty hNN fo.1 fo.2 rfl).2 rfl).2 hi d_Vlt_hasValue_21 ?_
  obtain ⟨hi, hw⟩ := hw
  refine w_iald (o := (stC (stC o 5) 6)) hx hb hK hW (st_ty hNN (st_ty hNN fo.1 fo.2 rfl).1 (st_ty hNN fo.1 fo.2 rfl).2 rfl).1 (st_ty hNN (st_ty hNN fo.1 fo.2 rfl).1 (st_ty hNN fo.1 fo.2 rfl).2 rfl).2 hi d_Vlt_hasValue_22 ?_
  refine lv_icmp_ne (tgt := 30) hx hb d_Vlt_hasValue_23 (by decide) (fun c1 => ?_) (fun c1 => ?_)
  · have hw := hw.1 c1
    refine lv_iconst (v := 0) hx hb d_Vlt_hasValue_30 (by decide) ?_
    exact hret 0 x H locs 31 ls d_Vlt_hasValue_31 rfl hw hW hS
  · have hw := hw.2 c1
    refine lv_iconst (v := 1) hx hb d_Vlt_hasValue_26 (by decide) ?_
    refine lv_goto (tgt := 31) hx hb d_Vlt_hasValue_27 (by decide) ?_
    exact hret 1 x H locs 31 ls d_Vlt_hasValue_31 rfl hw hW hS
set_option maxHeartbeats 4000000 in
set_option maxRecDepth 100000 in
theorem k_Vlt_hasValue (l : Launch) (dC : Nat → ClassId) (dI : Nat → Nat → Nat) (cI cB cJ cZ : ClassId) (ad : Nat → Nat) (NN : Nat) (E : Heap) (tM tC : Nat) (kK kV : Nat → Nat) (hNN : 152 ≤ NN) (sz : Nat) (o : Nat) (l1 : Int32) (l2 : Int32) (x : St) (fo : o < NN ∧ kcC o = 6) {post : Int32 → St → Prop} (hw : wp_Vlt_hasValue post o l1 l2 x) : Met l y_Vlt_hasValue (wsOf y_Vlt_hasValue b_Vlt_hasValue 3 (some (.boolean))) ({ frames := 0, cells := 0, slots := 0, locals := 0 }) (va_Pc [.ref (ad o), .int l1, .int l2] (PVc dC dI cI cB cJ cZ ad stC kcC NN E tM tC kK kV sz x)) (va_Qi (fun (r : Int32) (y : St) => post r y) (fun y t => Wd dC dI cI cB cJ cZ ad stC kcC NN (va_A (pic ad stC kcC NN cI cB cJ cZ x) sz) y t.heap) (va_A (pic ad stC kcC NN cI cB cJ cZ x) sz)) 0 0 (va_A (pic ad stC kcC NN cI cB cJ cZ x) sz) := by
  refine Met.ofW (cc := b_Vlt_hasValue) (maxL := 3) (ret := some (.boolean)) (by decide) rfl ?_
  intro p e s m args below meth c s₁ B hml hv
  obtain ⟨rfl, ⟨hsz, hW0, hK, hN⟩, hE⟩ := hv
  have hx := B.exec
  have hb := B.bytes
  have hr := B.returns
  have hts := atoms_spec B.pre
  have hT : ∀ w ∈ TG, w.before _ s = true := fun w h => hts w (List.mem_cons_of_mem _ h)
  have hown : s.vm.findClass R_Vlt = some m.cls := findClass_of_methodNamed B.named
  have hlocks := B.notSynchronized
  subst hsz
  have hW : Wd dC dI cI cB cJ cZ ad stC kcC NN (va_A (pic ad stC kcC NN cI cB cJ cZ x) s.heap.size) x s.heap := ⟨hW0.1, hW0.2.1.self (sz := s.heap.size), hW0.2.2⟩
  generalize hAe : va_A (pic ad stC kcC NN cI cB cJ cZ x) s.heap.size = A at hW hE ⊢
  have hA : ∀ q : Nat, s.heap.size ≤ q → A q := fun q h => by rw [← hAe]; exact Or.inr h
  have hS : va_S A s.heap s.heap [] := va_S.rf
  have hl := lv_entry ([.ref (ad o), .int l1, .int l2]) (n := 3) (Nat.le_of_ble_eq_true rfl)
  rw [lg_entry_eq]
  generalize (lg_sl ([.ref (ad o), .int l1, .int l2]) ++ List.replicate (3 - (lg_sl ([.ref (ad o), .int l1, .int l2])).length) Slot.unset).toArray = ls at hl ⊢
  have hl : lv_has ls 3 [(0, .ref (ad o)), (1, .int l1), (2, .int l2)] := hl
  exact t_Vlt_hasValue_e hx hb hml hown hT hK hN hA (Nat.le_refl 0) (Nat.le_refl 0) (Nat.le_refl 0) (Nat.le_refl 0) hNN hE (fun r x H locs pc ls hd hz hp hW hS => W.zret (v := r) (ty := .boolean) hx hb hr hz (fun t ht hM => ⟨⟨r, x, rfl, hp, Wd.back hW ht.symm (fun _ z => z)⟩, hS.F ht⟩) hS.2.2 hd hlocks)  o l1 l2 x _ _ ls fo hw hW hS hl
set_option maxRecDepth 100000 in
set_option maxHeartbeats 4000000 in
set_option maxRecDepth 100000 in
theorem t_Opn_keepPage_370 {p : Program} {l : Launch} {e : Env} {R : Room} {s : State} {m : MethodId} {args : Array Value} {below : List Frame} {meth : Method} {c : Code} {cells slots : Nat} {Q : State → Prop} {dC : Nat → ClassId} {dI : Nat → Nat → Nat} {cI cB cJ cZ : ClassId} {A : Nat → Prop} {ad : Nat → Nat} {NN : Nat} {E : Heap} {tM tC : Nat} {kK kV : Nat → Nat} {post : St → Prop} (hx : p.tables.exec = Jvm.exec) (hb : c.code = b_Opn_keepPage) (hml : c.maxLocals = 14) (hown : s.vm.findClass R_Opn = some m.cls) (hT : ∀ w ∈ TG, w.before args s = true) (hK : va_K (dC, dI) CL (TY cI cB cJ cZ) s) (hN : NW s) (hA : ∀ q : Nat, s.heap.size ≤ q → A q) (hRc : cells ≤ R.cells) (hRs : slots ≤ R.slots) (hRf : 3 ≤ R.frames) (hRl : 137 ≤ R.locals) (hNN : 152 ≤ NN) (hE : CE E tM tC kK kV A s) (hret : ∀ (x : St) (H : Heap) (locs : List Loc) (pc : Nat) (ls : Array Slot), decode b_Opn_keepPage pc = .ok (.return_, 1) → post x → Wd dC dI cI cB cJ cZ ad stC kcC NN A x H → va_S A s.heap H locs → W p l e R s m args below meth c H locs cells slots Q (F0 m pc ls []))  : ∀ (o : Nat) (l1 : Int32) (l2 : Int32) (l3 : Int32) (l4 : Int32) (l5 : Int32) (l6 : Int32) (l7 : Int32) (l8 : Int32) (l9 : Int32) (x : St) (H : Heap) (locs : List Loc) (ls : Array Slot), (o < NN ∧ kcC o = 7) → j_Opn_keepPage_370 post o l1 l2 l3 l4 l5 l6 l7 l8 l9 x → Wd dC dI cI cB cJ cZ ad stC kcC NN A x H → va_S A s.heap H locs → lv_has ls 14 [(0, .ref (ad o)), (1, .int l1), (2, .int l2), (3, .int l3), (4, .int l4), (5, .int l5), (6, .int l6), (7, .int l7), (8, .int l8), (9, .int l9)] → W p l e R s m args below meth c H locs cells slots Q (F0 m 370 ls []) := by
  intro o l1 l2 l3 l4 l5 l6 l7 l8 l9 x H locs ls fo hw hW hS hl
  unfold j_Opn_keepPage_370 at hw
  refine lv_aload_n hx hb d_Opn_keepPage_370 rfl (lv_at hl 0 rfl) ?_
  refine w_getf (q := (stC o 0)) (k := 0) (t := 7) (C := R_Opn) (T := F_Opn) (N := 17) hx hb hT hown hK hW fo.1 fo.2 (by decide) in_Opn rfl rfl (by decide) rfl fr_Opn_0 w_3_15 d_Opn_keepPage_371 rfl ?_
  refine w_getf (q := (stC (stC o 0) 14)) (k := 14) (t := 6) (C := R_Vlt) (T := F_Vlt) (N := 20) hx hb hT hown hK hW (st_ty hNN fo.1 fo.2 rfl).1 (st_ty hNN fo.1 fo.2 rfl).2 (by decide) in_Vlt rfl rfl (by decide) rfl fr_Vlt_14 w_2_166 d_Opn_keepPage_374 rfl ?_
  refine lv_iload_n hx hb d_Opn_keepPage_377 rfl (lv_at hl 2 rfl) ?_
  refine lv_dup2_11 hx hb d_Opn_keepPage_378 rfl rfl ?_
  obtain ⟨hi, hw⟩ := hw
  refine w_iald (o := (stC (stC o 0) 14)) hx hb hK hW (st_ty hNN (st_ty hNN fo.1 fo.2 rfl).1 (st_ty hNN fo.1 fo.2 rfl).2 rfl).1 (st_ty hNN (st_ty hNN fo.1 fo.2 rfl).1 (st_ty hNN fo.1 fo.2 rfl).2 rfl).2 hi d_Opn_keepPage_379 ?_
  refine lv_iload hx hb d_Opn_keepPage_380 (lv_at hl 5 rfl) ?_
  refine lv_iadd hx hb d_Opn_keepPage_382 ?_
  obtain ⟨hi, hw⟩ := hw
  refine w_iast (o := (stC (stC o 0) 14)) hx hb hK hW hS (st_ty hNN (st_ty hNN fo.1 fo.2 rfl).1 (st_ty hNN fo.1 fo.2 rfl).2 rfl).1 (st_ty hNN (st_ty hNN fo.1 fo.2 rfl).1 (st_ty hNN fo.1 fo.2 rfl).2 rfl).2 hi d_Opn_keepPage_383 (fun H locs hW hS => ?_)
  obtain ⟨x1, ex1⟩ : ∃ y : St, y = setA x (stC (stC o 0) 14) l2 ((rA x (stC (stC o 0) 14) l2) + l5) := ⟨_, rfl⟩
  rw [← ex1] at hW
  have hw := hw x1 ex1
  refine lv_aload_n hx hb d_Opn_keepPage_384 rfl (lv_at hl 0 rfl) ?_
  refine w_getf (q := (stC o 0)) (k := 0) (t := 7) (C := R_Opn) (T := F_Opn) (N := 17) hx hb hT hown hK hW fo.1 fo.2 (by decide) in_Opn rfl rfl (by decide) rfl fr_Opn_0 w_3_15 d_Opn_keepPage_385 rfl ?_
  refine w_getf (q := (stC (stC o 0) 15)) (k := 15) (t := 6) (C := R_Vlt) (T := F_Vlt) (N := 20) hx hb hT hown hK hW (st_ty hNN fo.1 fo.2 rfl).1 (st_ty hNN fo.1 fo.2 rfl).2 (by decide) in_Vlt rfl rfl (by decide) rfl fr_Vlt_15 w_2_169 d_Opn_keepPage_388 rfl ?_
  refine lv_iload_n hx hb d_Opn_keepPage_391 rfl (lv_at hl 2 rfl) ?_
  refine lv_dup2_11 hx hb d_Opn_keepPage_392 rfl rfl ?_
  obtain ⟨hi, hw⟩ := hw
  refine w_iald (o := (stC (stC o 0) 15)) hx hb hK hW (st_ty hNN (st_ty hNN fo.1 fo.2 rfl).1 (st_ty hNN fo.1 fo.2 rfl).2 rfl).1 (st_ty hNN (st_ty hNN fo.1 fo.2 rfl).1 (st_ty hNN fo.1 fo.2 rfl).2 rfl).2 hi d_Opn_keepPage_393 ?_
  refine lv_aload_n hx hb d_Opn_keepPage_394 rfl (lv_at hl 0 rfl) ?_
  refine w_getf (q := (stC o 0)) (k := 0) (t := 7) (C := R_Opn) (T := F_Opn) (N := 17) hx hb hT hown hK hW fo.1 fo.2 (by decide) in_Opn rfl rfl (by decide) rfl fr_Opn_0 w_3_15 d_Opn_keepPage_395 rfl ?_
  refine w_getf (q := (stC (stC o 0) 15)) (k := 15) (t := 6) (C := R_Vlt) (T := F_Vlt) (N := 20) hx hb hT hown hK hW (st_ty hNN fo.1 fo.2 rfl).1 (st_ty hNN fo.1 fo.2 rfl).2 (by decide) in_Vlt rfl rfl (by decide) rfl fr_Vlt_15 w_2_169 d_Opn_keepPage_398 rfl ?_
  refine lv_iload_n hx hb d_Opn_keepPage_401 rfl (lv_at hl 3 rfl) ?_
  obtain ⟨hi, hw⟩ := hw
  refine w_iald (o := (stC (stC o 0) 15)) hx hb hK hW (st_ty hNN (st_ty hNN fo.1 fo.2 rfl).1 (st_ty hNN fo.1 fo.2 rfl).2 rfl).1 (st_ty hNN (st_ty hNN fo.1 fo.2 rfl).1 (st_ty hNN fo.1 fo.2 rfl).2 rfl).2 hi d_Opn_keepPage_402 ?_
  refine lv_iadd hx hb d_Opn_keepPage_403 ?_
  obtain ⟨hi, hw⟩ := hw
  refine w_iast (o := (stC (stC o 0) 15)) hx hb hK hW hS (st_ty hNN (st_ty hNN fo.1 fo.2 rfl).1 (st_ty hNN fo.1 fo.2 rfl).2 rfl).1 (st_ty hNN (st_ty hNN fo.1 fo.2 rfl).1 (st_ty hNN fo.1 fo.2 rfl).2 rfl).2 hi d_Opn_keepPage_404 (fun H locs hW hS => ?_)
  obtain ⟨x2, ex2⟩ : ∃ y : St, y = setA x1 (stC (stC o 0) 15) l2 ((rA x1 (stC (stC o 0) 15) l2) + (rA x1 (stC (stC o 0) 15) l3)) := ⟨_, rfl⟩
  rw [← ex2] at hW
  have hw := hw x2 ex2
  refine lv_aload_n hx hb d_Opn_keepPage_405 rfl (lv_at hl 0 rfl) ?_
  refine w_getf (q := (stC o 0)) (k := 0) (t := 7) (C := R_Opn) (T := F_Opn) (N := 17) hx hb hT hown hK hW fo.1 fo.2 (by decide) in_Opn rfl rfl (by decide) rfl fr_Opn_0 w_3_15 d_Opn_keepPage_406 rfl ?_
  refine lv_dup hx hb d_Opn_keepPage_409 rfl ?_
  refine w_geti (k := 4) (t := 6) (C := R_Vlt) (T := F_Vlt) (N := 20) hx hb hT hown hK hW (st_ty hNN fo.1 fo.2 rfl).1 (st_ty hNN fo.1 fo.2 rfl).2 (by decide) in_Vlt rfl rfl (by decide) rfl fr_Vlt_4 w_2_133 d_Opn_keepPage_410 ?_
  refine lv_iload hx hb d_Opn_keepPage_413 (lv_at hl 5 rfl) ?_
  refine lv_iadd hx hb d_Opn_keepPage_415 ?_
  refine w_puti (ty := .int) (k := 4) (t := 6) (C := R_Vlt) (T := F_Vlt) (N := 20) hx hb hT hown hK hW hS (st_ty hNN fo.1 fo.2 rfl).1 (st_ty hNN fo.1 fo.2 rfl).2 (by decide) in_Vlt t_Vlt t_Vlt_ok n_Vlt rfl rfl (by decide) rfl fr_Vlt_4 w_2_133 (by decide +kernel) rfl rfl d_Opn_keepPage_416 (fun H locs hW hS => ?_)
  obtain ⟨x3, ex3⟩ : ∃ y : St, y = setI x2 (stC o 0) 4 ((fI x2 (stC o 0) 4) + l5) := ⟨_, rfl⟩
  rw [← ex3] at hW
  have hw := hw x3 ex3
  refine lv_aload_n hx hb d_Opn_keepPage_419 rfl (lv_at hl 0 rfl) ?_
  refine w_getf (q := (stC o 0)) (k := 0) (t := 7) (C := R_Opn) (T := F_Opn) (N := 17) hx hb hT hown hK hW fo.1 fo.2 (by decide) in_Opn rfl rfl (by decide) rfl fr_Opn_0 w_3_15 d_Opn_keepPage_420 rfl ?_
  refine lv_dup hx hb d_Opn_keepPage_423 rfl ?_
  refine w_geti (k := 3) (t := 6) (C := R_Vlt) (T := F_Vlt) (N := 20) hx hb hT hown hK hW (st_ty hNN fo.1 fo.2 rfl).1 (st_ty hNN fo.1 fo.2 rfl).2 (by decide) in_Vlt rfl rfl (by decide) rfl fr_Vlt_3 w_2_130 d_Opn_keepPage_424 ?_
  refine lv_iconst (v := 1) hx hb d_Opn_keepPage_427 (by decide) ?_
  refine lv_iadd hx hb d_Opn_keepPage_428 ?_
  refine w_puti (ty := .int) (k := 3) (t := 6) (C := R_Vlt) (T := F_Vlt) (N := 20) hx hb hT hown hK hW hS (st_ty hNN fo.1 fo.2 rfl).1 (st_ty hNN fo.1 fo.2 rfl).2 (by decide) in_Vlt t_Vlt t_Vlt_ok n_Vlt rfl rfl (by decide) rfl fr_Vlt_3 w_2_130 (by decide +kernel) rfl rfl d_Opn_keepPage_429 (fun H locs hW hS => ?_)
  obtain ⟨x4, ex4⟩ : ∃ y : St, y = setI x3 (stC o 0) 3 ((fI x3 (stC o 0) 3) + 1) := ⟨_, rfl⟩
  rw [← ex4] at hW
  have hw := hw x4 ex4
  refine lv_aload_n hx hb d_Opn_keepPage_432 rfl (lv_at hl 0 rfl) ?_
  refine lv_dup hx hb d_Opn_keepPage_433 rfl ?_
  refine w_geti (k := 16) (t := 7) (C := R_Opn) (T := F_Opn) (N := 17) hx hb hT hown hK hW fo.1 fo.2 (by decide) in_Opn rfl rfl (by decide) rfl fr_Opn_16 w_3_32 d_Opn_keepPage_434 ?_
  refine lv_aload_n hx hb d_Opn_keepPage_437 rfl (lv_at hl 0 rfl) ?_
  refine w_geti (k := 15) (t := 7) (C := R_Opn) (T := F_Opn) (N := 17) hx hb hT hown hK hW fo.1 fo.2 (by decide) in_Opn rfl rfl (by decide) rfl fr_Opn_15 w_3_31 d_Opn_keepPage_438 ?_
  refine lv_iadd hx hb d_Opn_keepPage_441 ?_
  refine w_puti (ty := .int) (k := 16) (t := 7) (C := R_Opn) (T := F_Opn) (N := 17) hx hb hT hown hK hW hS fo.1 fo.2 (by decide) in_Opn t_Opn t_Opn_ok n_Opn rfl rfl (by decide) rfl fr_Opn_16 w_3_32 (by decide +kernel) rfl rfl d_Opn_keepPage_442 (fun H locs hW hS => ?_)
  obtain ⟨x5, ex5⟩ : ∃ y : St, y = setI x4 o 16 ((fI x4 o 16) + (fI x4 o 15)) := ⟨_, rfl⟩
  rw [← ex5] at hW
  have hw := hw x5 ex5
  exact hret x5 H locs 445 ls d_Opn_keepPage_445 hw hW hS
set_option maxRecDepth 100000 in
set_option maxHeartbeats 4000000 in
set_option maxRecDepth 100000 in
theorem t_Opn_keepPage_359 {p : Program} {l : Launch} {e : Env} {R : Room} {s : State} {m : MethodId} {args : Array Value} {below : List Frame} {meth : Method} {c : Code} {cells slots : Nat} {Q : State → Prop} {dC : Nat → ClassId} {dI : Nat → Nat → Nat} {cI cB cJ cZ : ClassId} {A : Nat → Prop} {ad : Nat → Nat} {NN : Nat} {E : Heap} {tM tC : Nat} {kK kV : Nat → Nat} {post : St → Prop} (hx : p.tables.exec = Jvm.exec) (hb : c.code = b_Opn_keepPage) (hml : c.maxLocals = 14) (hown : s.vm.findClass R_Opn = some m.cls) (hT : ∀ w ∈ TG, w.before args s = true) (hK : va_K (dC, dI) CL (TY cI cB cJ cZ) s) (hN : NW s) (hA : ∀ q : Nat, s.heap.size ≤ q → A q) (hRc : cells ≤ R.cells) (hRs : slots ≤ R.slots) (hRf : 3 ≤ R.frames) (hRl : 137 ≤ R.locals) (hNN : 152 ≤ NN) (hE : CE E tM tC kK kV A s) (hret : ∀ (x : St) (H : Heap) (locs : List Loc) (pc : Nat) (ls : Array Slot), decode b_Opn_keepPage pc = .ok (.return_, 1) → post x → Wd dC dI cI cB cJ cZ ad stC kcC NN A x H → va_S A s.heap H locs → W p l e R s m args below meth c H locs cells slots Q (F0 m pc ls []))  : ∀ (o : Nat) (l1 : Int32) (l2 : Int32) (l3 : Int32) (l4 : Int32) (l5 : Int32) (l6 : Int32) (l7 : Int32) (l8 : Int32) (l9 : Int32) (l10 : Int64) (l12 : Int64) (x : St) (H : Heap) (locs : List Loc) (ls : Array Slot), (o < NN ∧ kcC o = 7) → j_Opn_keepPage_359 post o l1 l2 l3 l4 l5 l6 l7 l8 l9 l10 l12 x → Wd dC dI cI cB cJ cZ ad stC kcC NN A x H → va_S A s.heap H locs → lv_has ls 14 [(0, .ref (ad o)), (1, .int l1), (2, .int l2), (3, .int l3), (4, .int l4), (5, .int l5), (6, .int l6), (7, .int l7), (8, .int l8), (9, .int l9), (10, .long l10), (12, .long l12)] → W p l e R s m args below meth c H locs cells slots Q (F0 m 359 ls []) := by
  intro o l1 l2 l3 l4 l5 l6 l7 l8 l9 l10 l12 x H locs ls fo hw hW hS hl
  unfold j_Opn_keepPage_359 at hw
  refine lv_aload_n hx hb d_Opn_keepPage_359 rfl (lv_at hl 0 rfl) ?_
  refine w_getf (q := (stC o 0)) (k := 0) (t := 7) (C := R_Opn) (T := F_Opn) (N := 17) hx hb hT hown hK hW fo.1 fo.2 (by decide) in_Opn rfl rfl (by decide) rfl fr_Opn_0 w_3_15 d_Opn_keepPage_360 rfl ?_
  refine w_getf (q := (stC (stC o 0) 17)) (k := 17) (t := 6) (C := R_Vlt) (T := F_Vlt) (N := 20) hx hb hT hown hK hW (st_ty hNN fo.1 fo.2 rfl).1 (st_ty hNN fo.1 fo.2 rfl).2 (by decide) in_Vlt rfl rfl (by decide) rfl fr_Vlt_17 w_2_175 d_Opn_keepPage_363 rfl ?_
  refine lv_iload_n hx hb d_Opn_keepPage_366 rfl (lv_at hl 2 rfl) ?_
  refine lv_lload hx hb d_Opn_keepPage_367 (lv_at hl 11 rfl) ?_
  obtain ⟨hi, hw⟩ := hw
  refine w_last (o := (stC (stC o 0) 17)) hx hb hK hW hS (st_ty hNN (st_ty hNN fo.1 fo.2 rfl).1 (st_ty hNN fo.1 fo.2 rfl).2 rfl).1 (st_ty hNN (st_ty hNN fo.1 fo.2 rfl).1 (st_ty hNN fo.1 fo.2 rfl).2 rfl).2 hi d_Opn_keepPage_369 (fun H locs hW hS => ?_)
  obtain ⟨x6, ex6⟩ : ∃ y : St, y = setL x (stC (stC o 0) 17) l2 l12 := ⟨_, rfl⟩
  rw [← ex6] at hW
  have hw := hw x6 ex6
  exact t_Opn_keepPage_370 hx hb hml hown hT hK hN hA hRc hRs hRf hRl hNN hE hret  o l1 l2 l3 l4 l5 l6 l7 l8 l9 x6 H locs ls fo hw hW hS (lv_sub hl [0, 1, 2, 3, 4, 5, 6, 7, 8, 9] rfl)
set_option maxRecDepth 100000 in
set_option maxHeartbeats 4000000 in
set_option maxRecDepth 100000 in
theorem t_Opn_keepPage_331 {p : Program} {l : Launch} {e : Env} {R : Room} {s : State} {m : MethodId} {args : Array Value} {below : List Frame} {meth : Method} {c : Code} {cells slots : Nat} {Q : State → Prop} {dC : Nat → ClassId} {dI : Nat → Nat → Nat} {cI cB cJ cZ : ClassId} {A : Nat → Prop} {ad : Nat → Nat} {NN : Nat} {E : Heap} {tM tC : Nat} {kK kV : Nat → Nat} {post : St → Prop} (hx : p.tables.exec = Jvm.exec) (hb : c.code = b_Opn_keepPage) (hml : c.maxLocals = 14) (hown : s.vm.findClass R_Opn = some m.cls) (hT : ∀ w ∈ TG, w.before args s = true) (hK : va_K (dC, dI) CL (TY cI cB cJ cZ) s) (hN : NW s) (hA : ∀ q : Nat, s.heap.size ≤ q → A q) (hRc : cells ≤ R.cells) (hRs : slots ≤ R.slots) (hRf : 3 ≤ R.frames) (hRl : 137 ≤ R.locals) (hNN : 152 ≤ NN) (hE : CE E tM tC kK kV A s) (hret : ∀ (x : St) (H : Heap) (locs : List Loc) (pc : Nat) (ls : Array Slot), decode b_Opn_keepPage pc = .ok (.return_, 1) → post x → Wd dC dI cI cB cJ cZ ad stC kcC NN A x H → va_S A s.heap H locs → W p l e R s m args below meth c H locs cells slots Q (F0 m pc ls []))  : ∀ (o : Nat) (l1 : Int32) (l2 : Int32) (l3 : Int32) (l4 : Int32) (l5 : Int32) (l6 : Int32) (l7 : Int32) (l8 : Int32) (l9 : Int32) (l10 : Int64) (l12 : Int64) (x : St) (H : Heap) (locs : List Loc) (ls : Array Slot), (o < NN ∧ kcC o = 7) → j_Opn_keepPage_331 post o l1 l2 l3 l4 l5 l6 l7 l8 l9 l10 l12 x → Wd dC dI cI cB cJ cZ ad stC kcC NN A x H → va_S A s.heap H locs → lv_has ls 14 [(0, .ref (ad o)), (1, .int l1), (2, .int l2), (3, .int l3), (4, .int l4), (5, .int l5), (6, .int l6), (7, .int l7), (8, .int l8), (9, .int l9), (10, .long l10), (12, .long l12)] → W p l e R s m args below meth c H locs cells slots Q (F0 m 331 ls []) := by
  intro o l1 l2 l3 l4 l5 l6 l7 l8 l9 l10 l12 x H locs ls fo hw hW hS hl
  unfold j_Opn_keepPage_331 at hw
  refine lv_iload hx hb d_Opn_keepPage_331 (lv_at hl 9 rfl) ?_
  refine lv_if_eq (tgt := 359) hx hb d_Opn_keepPage_333 (by decide) (fun c7 => ?_) (fun c7 => ?_)
  · have hw := hw.1 c7
    exact t_Opn_keepPage_359 hx hb hml hown hT hK hN hA hRc hRs hRf hRl hNN hE hret  o l1 l2 l3 l4 l5 l6 l7 l8 l9 l10 l12 x H locs ls fo hw hW hS (lv_sub hl [0, 1, 2, 3, 4, 5, 6, 7, 8, 9, 10, 11] rfl)
  · have hw := hw.2 c7
    refine lv_aload_n hx hb d_Opn_keepPage_336 rfl (lv_at hl 0 rfl) ?_
    refine w_getf (q := (stC o 0)) (k := 0) (t := 7) (C := R_Opn) (T := F_Opn) (N := 17) hx hb hT hown hK hW fo.1 fo.2 (by decide) in_Opn rfl rfl (by decide) rfl fr_Opn_0 w_3_15 d_Opn_keepPage_337 rfl ?_
    refine lv_iload hx hb d_Opn_keepPage_340 (lv_at hl 4 rfl) ?_
    refine lv_lload hx hb d_Opn_keepPage_342 (lv_at hl 11 rfl) ?_
    refine lv_aload_n hx hb d_Opn_keepPage_344 rfl (lv_at hl 0 rfl) ?_
    refine w_getf (q := (stC o 0)) (k := 0) (t := 7) (C := R_Opn) (T := F_Opn) (N := 17) hx hb hT hown hK hW fo.1 fo.2 (by decide) in_Opn rfl rfl (by decide) rfl fr_Opn_0 w_3_15 d_Opn_keepPage_345 rfl ?_
    refine w_getf (q := (stC (stC o 0) 17)) (k := 17) (t := 6) (C := R_Vlt) (T := F_Vlt) (N := 20) hx hb hT hown hK hW (st_ty hNN fo.1 fo.2 rfl).1 (st_ty hNN fo.1 fo.2 rfl).2 (by decide) in_Vlt rfl rfl (by decide) rfl fr_Vlt_17 w_2_175 d_Opn_keepPage_348 rfl ?_
    refine lv_iload_n hx hb d_Opn_keepPage_351 rfl (lv_at hl 2 rfl) ?_
    obtain ⟨hi, hw⟩ := hw
    refine w_lald (o := (stC (stC o 0) 17)) hx hb hK hW (st_ty hNN (st_ty hNN fo.1 fo.2 rfl).1 (st_ty hNN fo.1 fo.2 rfl).2 rfl).1 (st_ty hNN (st_ty hNN fo.1 fo.2 rfl).1 (st_ty hNN fo.1 fo.2 rfl).2 rfl).2 hi d_Opn_keepPage_352 ?_
    have hF := hW.free hS hA
    refine va_calli (va_runV (C := R_Vlt) (As := [.int l4, .long l12, .long (rL x (stC (stC o 0) 17) l2)]) (rest := []) ⟨hx, hb, hml, hown, hT⟩ (k_Vlt_compare l dC dI cI cB cJ cZ ad NN E tM tC kK kV hNN H.size (stC o 0) l4 l12 (rL x (stC (stC o 0) 17) l2) x (st_ty hNN fo.1 fo.2 rfl) hw) ⟨callB_of 3 hT (gwt_in w_7_32) rfl rfl rfl (hT _ w_1_9) (hT _ w_7_29) (by decide +kernel) ⟨Nat.le_trans (Nat.le_of_ble_eq_true rfl) hRf, Nat.le_trans (Nat.le_of_ble_eq_true rfl) hRl⟩, hT _ w_7_30, hT _ w_7_31⟩ ⟨PVc.blind, va_recv hK hW.1 (ci := 6) (q0 := (stC o 0)) rfl (pic_obj (st_ty hNN fo.1 fo.2 rfl).1 (st_ty hNN fo.1 fo.2 rfl).2 (by decide)), PVc.at _ hW hK hN hE hS hF⟩ rfl rfl hl.1 rfl (lv_room (Nat.le_of_ble_eq_true rfl)) d_Opn_keepPage_353 ⟨hRc, hRs⟩) hS (fun q _ h => hF q h) hF (fun r9 x8 t H locs ht hvm hw hB hz1 hk1 hS => ?_)
    have hW := Wd.back hB ht hF
    clear hB ht hF hz1 hk1 hvm
    refine lv_if_le (tgt := 370) hx hb d_Opn_keepPage_356 (by decide) (fun c10 => ?_) (fun c10 => ?_)
    · have hw := hw.1 c10
      exact t_Opn_keepPage_370 hx hb hml hown hT hK hN hA hRc hRs hRf hRl hNN hE hret  o l1 l2 l3 l4 l5 l6 l7 l8 l9 x8 H locs ls fo hw hW hS (lv_sub hl [0, 1, 2, 3, 4, 5, 6, 7, 8, 9] rfl)
    · have hw := hw.2 c10
      exact t_Opn_keepPage_359 hx hb hml hown hT hK hN hA hRc hRs hRf hRl hNN hE hret  o l1 l2 l3 l4 l5 l6 l7 l8 l9 l10 l12 x8 H locs ls fo hw hW hS (lv_sub hl [0, 1, 2, 3, 4, 5, 6, 7, 8, 9, 10, 11] rfl)
set_option maxRecDepth 100000 in
set_option maxHeartbeats 4000000 in
set_option maxRecDepth 100000 in
theorem t_Opn_keepPage_320 {p : Program} {l : Launch} {e : Env} {R : Room} {s : State} {m : MethodId} {args : Array Value} {below : List Frame} {meth : Method} {c : Code} {cells slots : Nat} {Q : State → Prop} {dC : Nat → ClassId} {dI : Nat → Nat → Nat} {cI cB cJ cZ : ClassId} {A : Nat → Prop} {ad : Nat → Nat} {NN : Nat} {E : Heap} {tM tC : Nat} {kK kV : Nat → Nat} {post : St → Prop} (hx : p.tables.exec = Jvm.exec) (hb : c.code = b_Opn_keepPage) (hml : c.maxLocals = 14) (hown : s.vm.findClass R_Opn = some m.cls) (hT : ∀ w ∈ TG, w.before args s = true) (hK : va_K (dC, dI) CL (TY cI cB cJ cZ) s) (hN : NW s) (hA : ∀ q : Nat, s.heap.size ≤ q → A q) (hRc : cells ≤ R.cells) (hRs : slots ≤ R.slots) (hRf : 3 ≤ R.frames) (hRl : 137 ≤ R.locals) (hNN : 152 ≤ NN) (hE : CE E tM tC kK kV A s) (hret : ∀ (x : St) (H : Heap) (locs : List Loc) (pc : Nat) (ls : Array Slot), decode b_Opn_keepPage pc = .ok (.return_, 1) → post x → Wd dC dI cI cB cJ cZ ad stC kcC NN A x H → va_S A s.heap H locs → W p l e R s m args below meth c H locs cells slots Q (F0 m pc ls []))  : ∀ (o : Nat) (l1 : Int32) (l2 : Int32) (l3 : Int32) (l4 : Int32) (l5 : Int32) (l6 : Int32) (l7 : Int32) (l8 : Int32) (l9 : Int32) (l10 : Int64) (l12 : Int64) (x : St) (H : Heap) (locs : List Loc) (ls : Array Slot), (o < NN ∧ kcC o = 7) → j_Opn_keepPage_320 post o l1 l2 l3 l4 l5 l6 l7 l8 l9 l10 l12 x → Wd dC dI cI cB cJ cZ ad stC kcC NN A x H → va_S A s.heap H locs → lv_has ls 14 [(0, .ref (ad o)), (1, .int l1), (2, .int l2), (3, .int l3), (4, .int l4), (5, .int l5), (6, .int l6), (7, .int l7), (8, .int l8), (9, .int l9), (10, .long l10), (12, .long l12)] → W p l e R s m args below meth c H locs cells slots Q (F0 m 320 ls []) := by
  intro o l1 l2 l3 l4 l5 l6 l7 l8 l9 l10 l12 x H locs ls fo hw hW hS hl
  unfold j_Opn_keepPage_320 at hw
  refine lv_aload_n hx hb d_Opn_keepPage_320 rfl (lv_at hl 0 rfl) ?_
  refine w_getf (q := (stC o 0)) (k := 0) (t := 7) (C := R_Opn) (T := F_Opn) (N := 17) hx hb hT hown hK hW fo.1 fo.2 (by decide) in_Opn rfl rfl (by decide) rfl fr_Opn_0 w_3_15 d_Opn_keepPage_321 rfl ?_
  refine w_getf (q := (stC (stC o 0) 16)) (k := 16) (t := 6) (C := R_Vlt) (T := F_Vlt) (N := 20) hx hb hT hown hK hW (st_ty hNN fo.1 fo.2 rfl).1 (st_ty hNN fo.1 fo.2 rfl).2 (by decide) in_Vlt rfl rfl (by decide) rfl fr_Vlt_16 w_2_172 d_Opn_keepPage_324 rfl ?_
  refine lv_iload_n hx hb d_Opn_keepPage_327 rfl (lv_at hl 2 rfl) ?_
  refine lv_lload hx hb d_Opn_keepPage_328 (lv_at hl 10 rfl) ?_
  obtain ⟨hi, hw⟩ := hw
  refine w_last (o := (stC (stC o 0) 16)) hx hb hK hW hS (st_ty hNN (st_ty hNN fo.1 fo.2 rfl).1 (st_ty hNN fo.1 fo.2 rfl).2 rfl).1 (st_ty hNN (st_ty hNN fo.1 fo.2 rfl).1 (st_ty hNN fo.1 fo.2 rfl).2 rfl).2 hi d_Opn_keepPage_330 (fun H locs hW hS => ?_)
  obtain ⟨x11, ex11⟩ : ∃ y : St, y = setL x (stC (stC o 0) 16) l2 l10 := ⟨_, rfl⟩
  rw [← ex11] at hW
  have hw := hw x11 ex11
  exact t_Opn_keepPage_331 hx hb hml hown hT hK hN hA hRc hRs hRf hRl hNN hE hret  o l1 l2 l3 l4 l5 l6 l7 l8 l9 l10 l12 x11 H locs ls fo hw hW hS (lv_sub hl [0, 1, 2, 3, 4, 5, 6, 7, 8, 9, 10, 11] rfl)
set_option maxRecDepth 100000 in
set_option maxHeartbeats 4000000 in
set_option maxRecDepth 100000 in
theorem t_Opn_keepPage_236 {p : Program} {l : Launch} {e : Env} {R : Room} {s : State} {m : MethodId} {args : Array Value} {below : List Frame} {meth : Method} {c : Code} {cells slots : Nat} {Q : State → Prop} {dC : Nat → ClassId} {dI : Nat → Nat → Nat} {cI cB cJ cZ : ClassId} {A : Nat → Prop} {ad : Nat → Nat} {NN : Nat} {E : Heap} {tM tC : Nat} {kK kV : Nat → Nat} {post : St → Prop} {rec81 : Nat → Int32 → Int32 → Int32 → Int32 → Int32 → Int32 → Int32 → Int32 → Int32 → St → Prop} (hx : p.tables.exec = Jvm.exec) (hb : c.code = b_Opn_keepPage) (hml : c.maxLocals = 14) (hown : s.vm.findClass R_Opn = some m.cls) (hT : ∀ w ∈ TG, w.before args s = true) (hK : va_K (dC, dI) CL (TY cI cB cJ cZ) s) (hN : NW s) (hA : ∀ q : Nat, s.heap.size ≤ q → A q) (hRc : cells ≤ R.cells) (hRs : slots ≤ R.slots) (hRf : 3 ≤ R.frames) (hRl : 137 ≤ R.locals) (hNN : 152 ≤ NN) (hE : CE E tM tC kK kV A s) (hret : ∀ (x : St) (H : Heap) (locs : List Loc) (pc : Nat) (ls : Array Slot), decode b_Opn_keepPage pc = .ok (.return_, 1) → post x → Wd dC dI cI cB cJ cZ ad stC kcC NN A x H → va_S A s.heap H locs → W p l e R s m args below meth c H locs cells slots Q (F0 m pc ls [])) (hrec81 : ∀ (o : Nat) (l1 : Int32) (l2 : Int32) (l3 : Int32) (l4 : Int32) (l5 : Int32) (l6 : Int32) (l7 : Int32) (l8 : Int32) (l9 : Int32) (x : St) (H : Heap) (locs : List Loc) (ls : Array Slot), (o < NN ∧ kcC o = 7) → rec81 o l1 l2 l3 l4 l5 l6 l7 l8 l9 x → Wd dC dI cI cB cJ cZ ad stC kcC NN A x H → va_S A s.heap H locs → lv_has ls 14 [(0, .ref (ad o)), (1, .int l1), (2, .int l2), (3, .int l3), (4, .int l4), (5, .int l5), (6, .int l6), (7, .int l7), (8, .int l8), (9, .int l9)] → W p l e R s m args below meth c H locs cells slots Q (F0 m 81 ls [])) : ∀ (o : Nat) (l1 : Int32) (l2 : Int32) (l3 : Int32) (l4 : Int32) (l5 : Int32) (l6 : Int32) (l7 : Int32) (l8 : Int32) (l9 : Int32) (l10 : Int32) (x : St) (H : Heap) (locs : List Loc) (ls : Array Slot), (o < NN ∧ kcC o = 7) → j_Opn_keepPage_236 post rec81 o l1 l2 l3 l4 l5 l6 l7 l8 l9 l10 x → Wd dC dI cI cB cJ cZ ad stC kcC NN A x H → va_S A s.heap H locs → lv_has ls 14 [(0, .ref (ad o)), (1, .int l1), (2, .int l2), (3, .int l3), (4, .int l4), (5, .int l5), (6, .int l6), (7, .int l7), (8, .int l8), (9, .int l9), (10, .int l10)] → W p l e R s m args below meth c H locs cells slots Q (F0 m 236 ls []) := by
  intro o l1 l2 l3 l4 l5 l6 l7 l8 l9 l10 x H locs ls fo hw hW hS hl
  unfold j_Opn_keepPage_236 at hw
  refine lv_iinc (v := (l9 + 1)) (lv' := [(9, .int (l9 + 1)), (0, .ref (ad o)), (1, .int l1), (2, .int l2), (3, .int l3), (4, .int l4), (5, .int l5), (6, .int l6), (7, .int l7), (8, .int l8), (10, .int l10)]) hx hb d_Opn_keepPage_236 hl (k := 9) rfl rfl (by decide) rfl (fun ls hl => ?_)
  refine lv_goto (tgt := 81) hx hb d_Opn_keepPage_239 (by decide) ?_
  exact hrec81 o l1 l2 l3 l4 l5 l6 l7 l8 (l9 + 1) x H locs ls fo hw hW hS (lv_sub hl [1, 2, 3, 4, 5, 6, 7, 8, 9, 0] rfl)
set_option maxRecDepth 100000 in
set_option maxHeartbeats 4000000 in
set_option maxRecDepth 100000 in
theorem t_Opn_keepPage_226 {p : Program} {l : Launch} {e : Env} {R : Room} {s : State} {m : MethodId} {args : Array Value} {below : List Frame} {meth : Method} {c : Code} {cells slots : Nat} {Q : State → Prop} {dC : Nat → ClassId} {dI : Nat → Nat → Nat} {cI cB cJ cZ : ClassId} {A : Nat → Prop} {ad : Nat → Nat} {NN : Nat} {E : Heap} {tM tC : Nat} {kK kV : Nat → Nat} {post : St → Prop} {rec81 : Nat → Int32 → Int32 → Int32 → Int32 → Int32 → Int32 → Int32 → Int32 → Int32 → St → Prop} (hx : p.tables.exec = Jvm.exec) (hb : c.code = b_Opn_keepPage) (hml : c.maxLocals = 14) (hown : s.vm.findClass R_Opn = some m.cls) (hT : ∀ w ∈ TG, w.before args s = true) (hK : va_K (dC, dI) CL (TY cI cB cJ cZ) s) (hN : NW s) (hA : ∀ q : Nat, s.heap.size ≤ q → A q) (hRc : cells ≤ R.cells) (hRs : slots ≤ R.slots) (hRf : 3 ≤ R.frames) (hRl : 137 ≤ R.locals) (hNN : 152 ≤ NN) (hE : CE E tM tC kK kV A s) (hret : ∀ (x : St) (H : Heap) (locs : List Loc) (pc : Nat) (ls : Array Slot), decode b_Opn_keepPage pc = .ok (.return_, 1) → post x → Wd dC dI cI cB cJ cZ ad stC kcC NN A x H → va_S A s.heap H locs → W p l e R s m args below meth c H locs cells slots Q (F0 m pc ls [])) (hrec81 : ∀ (o : Nat) (l1 : Int32) (l2 : Int32) (l3 : Int32) (l4 : Int32) (l5 : Int32) (l6 : Int32) (l7 : Int32) (l8 : Int32) (l9 : Int32) (x : St) (H : Heap) (locs : List Loc) (ls : Array Slot), (o < NN ∧ kcC o = 7) → rec81 o l1 l2 l3 l4 l5 l6 l7 l8 l9 x → Wd dC dI cI cB cJ cZ ad stC kcC NN A x H → va_S A s.heap H locs → lv_has ls 14 [(0, .ref (ad o)), (1, .int l1), (2, .int l2), (3, .int l3), (4, .int l4), (5, .int l5), (6, .int l6), (7, .int l7), (8, .int l8), (9, .int l9)] → W p l e R s m args below meth c H locs cells slots Q (F0 m 81 ls [])) : ∀ (o : Nat) (l1 : Int32) (l2 : Int32) (l3 : Int32) (l4 : Int32) (l5 : Int32) (l6 : Int32) (l7 : Int32) (l8 : Int32) (l9 : Int32) (l10 : Int32) (l11 : Int32) (x : St) (H : Heap) (locs : List Loc) (ls : Array Slot), (o < NN ∧ kcC o = 7) → j_Opn_keepPage_226 post rec81 o l1 l2 l3 l4 l5 l6 l7 l8 l9 l10 l11 x → Wd dC dI cI cB cJ cZ ad stC kcC NN A x H → va_S A s.heap H locs → lv_has ls 14 [(0, .ref (ad o)), (1, .int l1), (2, .int l2), (3, .int l3), (4, .int l4), (5, .int l5), (6, .int l6), (7, .int l7), (8, .int l8), (9, .int l9), (10, .int l10), (11, .int l11)] → W p l e R s m args below meth c H locs cells slots Q (F0 m 226 ls []) := by
  intro o l1 l2 l3 l4 l5 l6 l7 l8 l9 l10 l11 x H locs ls fo hw hW hS hl
  unfold j_Opn_keepPage_226 at hw
  refine lv_aload_n hx hb d_Opn_keepPage_226 rfl (lv_at hl 0 rfl) ?_
  refine lv_dup hx hb d_Opn_keepPage_227 rfl ?_
  refine w_geti (k := 12) (t := 7) (C := R_Opn) (T := F_Opn) (N := 17) hx hb hT hown hK hW fo.1 fo.2 (by decide) in_Opn rfl rfl (by decide) rfl fr_Opn_12 w_3_28 d_Opn_keepPage_228 ?_
  refine lv_iconst (v := 1) hx hb d_Opn_keepPage_231 (by decide) ?_
  refine lv_iadd hx hb d_Opn_keepPage_232 ?_
  refine w_puti (ty := .int) (k := 12) (t := 7) (C := R_Opn) (T := F_Opn) (N := 17) hx hb hT hown hK hW hS fo.1 fo.2 (by decide) in_Opn t_Opn t_Opn_ok n_Opn rfl rfl (by decide) rfl fr_Opn_12 w_3_28 (by decide +kernel) rfl rfl d_Opn_keepPage_233 (fun H locs hW hS => ?_)
  obtain ⟨x12, ex12⟩ : ∃ y : St, y = setI x o 12 ((fI x o 12) + 1) := ⟨_, rfl⟩
  rw [← ex12] at hW
  have hw := hw x12 ex12
  exact t_Opn_keepPage_236 hx hb hml hown hT hK hN hA hRc hRs hRf hRl hNN hE hret hrec81 o l1 l2 l3 l4 l5 l6 l7 l8 l9 l10 x12 H locs ls fo hw hW hS (lv_sub hl [0, 1, 2, 3, 4, 5, 6, 7, 8, 9, 10] rfl)
set_option maxRecDepth 100000 in
set_option maxHeartbeats 4000000 in
set_option maxRecDepth 100000 in
theorem t_Opn_keepPage_146 {p : Program} {l : Launch} {e : Env} {R : Room} {s : State} {m : MethodId} {args : Array Value} {below : List Frame} {meth : Method} {c : Code} {cells slots : Nat} {Q : State → Prop} {dC : Nat → ClassId} {dI : Nat → Nat → Nat} {cI cB cJ cZ : ClassId} {A : Nat → Prop} {ad : Nat → Nat} {NN : Nat} {E : Heap} {tM tC : Nat} {kK kV : Nat → Nat} {post : St → Prop} {rec81 : Nat → Int32 → Int32 → Int32 → Int32 → Int32 → Int32 → Int32 → Int32 → Int32 → St → Prop} (hx : p.tables.exec = Jvm.exec) (hb : c.code = b_Opn_keepPage) (hml : c.maxLocals = 14) (hown : s.vm.findClass R_Opn = some m.cls) (hT : ∀ w ∈ TG, w.before args s = true) (hK : va_K (dC, dI) CL (TY cI cB cJ cZ) s) (hN : NW s) (hA : ∀ q : Nat, s.heap.size ≤ q → A q) (hRc : cells ≤ R.cells) (hRs : slots ≤ R.slots) (hRf : 3 ≤ R.frames) (hRl : 137 ≤ R.locals) (hNN : 152 ≤ NN) (hE : CE E tM tC kK kV A s) (hret : ∀ (x : St) (H : Heap) (locs : List Loc) (pc : Nat) (ls : Array Slot), decode b_Opn_keepPage pc = .ok (.return_, 1) → post x → Wd dC dI cI cB cJ cZ ad stC kcC NN A x H → va_S A s.heap H locs → W p l e R s m args below meth c H locs cells slots Q (F0 m pc ls [])) (hrec81 : ∀ (o : Nat) (l1 : Int32) (l2 : Int32) (l3 : Int32) (l4 : Int32) (l5 : Int32) (l6 : Int32) (l7 : Int32) (l8 : Int32) (l9 : Int32) (x : St) (H : Heap) (locs : List Loc) (ls : Array Slot), (o < NN ∧ kcC o = 7) → rec81 o l1 l2 l3 l4 l5 l6 l7 l8 l9 x → Wd dC dI cI cB cJ cZ ad stC kcC NN A x H → va_S A s.heap H locs → lv_has ls 14 [(0, .ref (ad o)), (1, .int l1), (2, .int l2), (3, .int l3), (4, .int l4), (5, .int l5), (6, .int l6), (7, .int l7), (8, .int l8), (9, .int l9)] → W p l e R s m args below meth c H locs cells slots Q (F0 m 81 ls [])) : ∀ (o : Nat) (l1 : Int32) (l2 : Int32) (l3 : Int32) (l4 : Int32) (l5 : Int32) (l6 : Int32) (l7 : Int32) (l8 : Int32) (l9 : Int32) (l10 : Int32) (s0 : Int32) (s1 : Int32) (x : St) (H : Heap) (locs : List Loc) (ls : Array Slot), (o < NN ∧ kcC o = 7) → j_Opn_keepPage_146 post rec81 o l1 l2 l3 l4 l5 l6 l7 l8 l9 l10 s0 s1 x → Wd dC dI cI cB cJ cZ ad stC kcC NN A x H → va_S A s.heap H locs → lv_has ls 14 [(0, .ref (ad o)), (1, .int l1), (2, .int l2), (3, .int l3), (4, .int l4), (5, .int l5), (6, .int l6), (7, .int l7), (8, .int l8), (9, .int l9), (10, .int l10)] → W p l e R s m args below meth c H locs cells slots Q (F0 m 146 ls [.int s0, .int s1]) := by
  intro o l1 l2 l3 l4 l5 l6 l7 l8 l9 l10 s0 s1 x H locs ls fo hw hW hS hl
  unfold j_Opn_keepPage_146 at hw
  refine lv_iadd hx hb d_Opn_keepPage_146 ?_
  refine lv_topi (fun v13 ev13 => ?_)
  have hw := hw v13 ev13
  refine lv_istore (lv' := [(8, .int v13), (0, .ref (ad o)), (1, .int l1), (2, .int l2), (3, .int l3), (4, .int l4), (5, .int l5), (6, .int l6), (7, .int l7), (9, .int l9), (10, .int l10)]) hx hb d_Opn_keepPage_147 hl (by decide) rfl (fun ls hl => ?_)
  refine lv_aload_n hx hb d_Opn_keepPage_149 rfl (lv_at hl 1 rfl) ?_
  refine w_getf (q := (stC o 0)) (k := 0) (t := 7) (C := R_Opn) (T := F_Opn) (N := 17) hx hb hT hown hK hW fo.1 fo.2 (by decide) in_Opn rfl rfl (by decide) rfl fr_Opn_0 w_3_15 d_Opn_keepPage_150 rfl ?_
  refine w_getf (q := (stC (stC o 0) 7)) (k := 7) (t := 6) (C := R_Vlt) (T := F_Vlt) (N := 20) hx hb hT hown hK hW (st_ty hNN fo.1 fo.2 rfl).1 (st_ty hNN fo.1 fo.2 rfl).2 (by decide) in_Vlt rfl rfl (by decide) rfl fr_Vlt_7 w_2_146 d_Opn_keepPage_153 rfl ?_
  refine lv_iload hx hb d_Opn_keepPage_156 (lv_at hl 9 rfl) ?_
  obtain ⟨hi, hw⟩ := hw
  refine w_bald (o := (stC (stC o 0) 7)) hx hb hK hW (st_ty hNN (st_ty hNN fo.1 fo.2 rfl).1 (st_ty hNN fo.1 fo.2 rfl).2 rfl).1 (st_ty hNN (st_ty hNN fo.1 fo.2 rfl).1 (st_ty hNN fo.1 fo.2 rfl).2 rfl).2 hi d_Opn_keepPage_158 ?_
  refine lv_if_ne (tgt := 236) hx hb d_Opn_keepPage_159 (by decide) (fun c14 => ?_) (fun c14 => ?_)
  · have hw := hw.1 c14
    exact t_Opn_keepPage_236 hx hb hml hown hT hK hN hA hRc hRs hRf hRl hNN hE hret hrec81 o l1 l2 l3 l4 l5 l6 l7 v13 l9 l10 x H locs ls fo hw hW hS (lv_sub hl [1, 2, 3, 4, 5, 6, 7, 8, 0, 9, 10] rfl)
  · have hw := hw.2 c14
    refine lv_aload_n hx hb d_Opn_keepPage_162 rfl (lv_at hl 1 rfl) ?_
    refine w_getf (q := (stC o 0)) (k := 0) (t := 7) (C := R_Opn) (T := F_Opn) (N := 17) hx hb hT hown hK hW fo.1 fo.2 (by decide) in_Opn rfl rfl (by decide) rfl fr_Opn_0 w_3_15 d_Opn_keepPage_163 rfl ?_
    refine w_getf (q := (stC (stC o 0) 11)) (k := 11) (t := 6) (C := R_Vlt) (T := F_Vlt) (N := 20) hx hb hT hown hK hW (st_ty hNN fo.1 fo.2 rfl).1 (st_ty hNN fo.1 fo.2 rfl).2 (by decide) in_Vlt rfl rfl (by decide) rfl fr_Vlt_11 w_2_157 d_Opn_keepPage_166 rfl ?_
    refine lv_iload hx hb d_Opn_keepPage_169 (lv_at hl 7 rfl) ?_
    obtain ⟨hi, hw⟩ := hw
    refine w_iald (o := (stC (stC o 0) 11)) hx hb hK hW (st_ty hNN (st_ty hNN fo.1 fo.2 rfl).1 (st_ty hNN fo.1 fo.2 rfl).2 rfl).1 (st_ty hNN (st_ty hNN fo.1 fo.2 rfl).1 (st_ty hNN fo.1 fo.2 rfl).2 rfl).2 hi d_Opn_keepPage_171 ?_
    refine lv_aload_n hx hb d_Opn_keepPage_172 rfl (lv_at hl 1 rfl) ?_
    refine w_geti (k := 12) (t := 7) (C := R_Opn) (T := F_Opn) (N := 17) hx hb hT hown hK hW fo.1 fo.2 (by decide) in_Opn rfl rfl (by decide) rfl fr_Opn_12 w_3_28 d_Opn_keepPage_173 ?_
    refine lv_iadd hx hb d_Opn_keepPage_176 ?_
    refine lv_aload_n hx hb d_Opn_keepPage_177 rfl (lv_at hl 1 rfl) ?_
    refine w_getf (q := (stC o 0)) (k := 0) (t := 7) (C := R_Opn) (T := F_Opn) (N := 17) hx hb hT hown hK hW fo.1 fo.2 (by decide) in_Opn rfl rfl (by decide) rfl fr_Opn_0 w_3_15 d_Opn_keepPage_178 rfl ?_
    refine w_getf (q := (stC (stC o 0) 5)) (k := 5) (t := 6) (C := R_Vlt) (T := F_Vlt) (N := 20) hx hb hT hown hK hW (st_ty hNN fo.1 fo.2 rfl).1 (st_ty hNN fo.1 fo.2 rfl).2 (by decide) in_Vlt rfl rfl (by decide) rfl fr_Vlt_5 w_2_136 d_Opn_keepPage_181 rfl ?_
    refine w_geti (k := 1) (t := 3) (C := R_Sch) (T := F_Sch) (N := 13) hx hb hT hown hK hW (st_ty hNN (st_ty hNN fo.1 fo.2 rfl).1 (st_ty hNN fo.1 fo.2 rfl).2 rfl).1 (st_ty hNN (st_ty hNN fo.1 fo.2 rfl).1 (st_ty hNN fo.1 fo.2 rfl).2 rfl).2 (by decide) in_Sch rfl rfl (by decide) rfl fr_Sch_1 w_1_137 d_Opn_keepPage_184 ?_
    refine lv_imul hx hb d_Opn_keepPage_187 ?_
    refine lv_iload_n hx hb d_Opn_keepPage_188 rfl (lv_at hl 2 rfl) ?_
    refine lv_iadd hx hb d_Opn_keepPage_189 ?_
    refine lv_topi (fun v15 ev15 => ?_)
    have hw := hw v15 ev15
    refine lv_istore (lv' := [(11, .int v15), (8, .int v13), (0, .ref (ad o)), (1, .int l1), (2, .int l2), (3, .int l3), (4, .int l4), (5, .int l5), (6, .int l6), (7, .int l7), (9, .int l9), (10, .int l10)]) hx hb d_Opn_keepPage_190 hl (by decide) rfl (fun ls hl => ?_)
    refine lv_aload_n hx hb d_Opn_keepPage_192 rfl (lv_at hl 2 rfl) ?_
    refine w_geti (k := 12) (t := 7) (C := R_Opn) (T := F_Opn) (N := 17) hx hb hT hown hK hW fo.1 fo.2 (by decide) in_Opn rfl rfl (by decide) rfl fr_Opn_12 w_3_28 d_Opn_keepPage_193 ?_
    refine lv_iload hx hb d_Opn_keepPage_196 (lv_at hl 9 rfl) ?_
    refine lv_icmp_ge (tgt := 226) hx hb d_Opn_keepPage_198 (by decide) (fun c16 => ?_) (fun c16 => ?_)
    · have hw := hw.1 c16
      exact t_Opn_keepPage_226 hx hb hml hown hT hK hN hA hRc hRs hRf hRl hNN hE hret hrec81 o l1 l2 l3 l4 l5 l6 l7 v13 l9 l10 v15 x H locs ls fo hw hW hS (lv_sub hl [2, 3, 4, 5, 6, 7, 8, 9, 1, 10, 11, 0] rfl)
    · have hw := hw.2 c16
      refine lv_iload hx hb d_Opn_keepPage_201 (lv_at hl 0 rfl) ?_
      refine lv_aload_n hx hb d_Opn_keepPage_203 rfl (lv_at hl 2 rfl) ?_
      refine w_getf (q := (stC o 0)) (k := 0) (t := 7) (C := R_Opn) (T := F_Opn) (N := 17) hx hb hT hown hK hW fo.1 fo.2 (by decide) in_Opn rfl rfl (by decide) rfl fr_Opn_0 w_3_15 d_Opn_keepPage_204 rfl ?_
      refine w_getf (q := (stC (stC o 0) 10)) (k := 10) (t := 6) (C := R_Vlt) (T := F_Vlt) (N := 20) hx hb hT hown hK hW (st_ty hNN fo.1 fo.2 rfl).1 (st_ty hNN fo.1 fo.2 rfl).2 (by decide) in_Vlt rfl rfl (by decide) rfl fr_Vlt_10 w_2_155 d_Opn_keepPage_207 rfl ?_
      refine w_alen (o := (stC (stC o 0) 10)) (t0 := 0) hx hb hK hW (pic_int (st_ty hNN (st_ty hNN fo.1 fo.2 rfl).1 (st_ty hNN fo.1 fo.2 rfl).2 rfl).1 (st_ty hNN (st_ty hNN fo.1 fo.2 rfl).1 (st_ty hNN fo.1 fo.2 rfl).2 rfl).2) rfl rfl d_Opn_keepPage_210 ?_
      refine lv_icmp_ge (tgt := 226) hx hb d_Opn_keepPage_211 (by decide) (fun c17 => ?_) (fun c17 => ?_)
      · have hw := hw.1 c17
        exact t_Opn_keepPage_226 hx hb hml hown hT hK hN hA hRc hRs hRf hRl hNN hE hret hrec81 o l1 l2 l3 l4 l5 l6 l7 v13 l9 l10 v15 x H locs ls fo hw hW hS (lv_sub hl [2, 3, 4, 5, 6, 7, 8, 9, 1, 10, 11, 0] rfl)
      · have hw := hw.2 c17
        refine lv_aload_n hx hb d_Opn_keepPage_214 rfl (lv_at hl 2 rfl) ?_
        refine w_getf (q := (stC o 0)) (k := 0) (t := 7) (C := R_Opn) (T := F_Opn) (N := 17) hx hb hT hown hK hW fo.1 fo.2 (by decide) in_Opn rfl rfl (by decide) rfl fr_Opn_0 w_3_15 d_Opn_keepPage_215 rfl ?_
        refine w_getf (q := (stC (stC o 0) 10)) (k := 10) (t := 6) (C := R_Vlt) (T := F_Vlt) (N := 20) hx hb hT hown hK hW (st_ty hNN fo.1 fo.2 rfl).1 (st_ty hNN fo.1 fo.2 rfl).2 (by decide) in_Vlt rfl rfl (by decide) rfl fr_Vlt_10 w_2_155 d_Opn_keepPage_218 rfl ?_
        refine lv_iload hx hb d_Opn_keepPage_221 (lv_at hl 0 rfl) ?_
        refine lv_iload hx hb d_Opn_keepPage_223 (lv_at hl 10 rfl) ?_
        obtain ⟨hi, hw⟩ := hw
        refine w_iast (o := (stC (stC o 0) 10)) hx hb hK hW hS (st_ty hNN (st_ty hNN fo.1 fo.2 rfl).1 (st_ty hNN fo.1 fo.2 rfl).2 rfl).1 (st_ty hNN (st_ty hNN fo.1 fo.2 rfl).1 (st_ty hNN fo.1 fo.2 rfl).2 rfl).2 hi d_Opn_keepPage_225 (fun H locs hW hS => ?_)
        obtain ⟨x18, ex18⟩ : ∃ y : St, y = setA x (stC (stC o 0) 10) v15 l9 := ⟨_, rfl⟩
        rw [← ex18] at hW
        have hw := hw x18 ex18
        exact t_Opn_keepPage_226 hx hb hml hown hT hK hN hA hRc hRs hRf hRl hNN hE hret hrec81 o l1 l2 l3 l4 l5 l6 l7 v13 l9 l10 v15 x18 H locs ls fo hw hW hS (lv_sub hl [2, 3, 4, 5, 6, 7, 8, 9, 1, 10, 11, 0] rfl)
set_option maxRecDepth 100000 in
set_option maxHeartbeats 4000000 in
set_option maxRecDepth 100000 in
theorem t_Opn_keepPage_133 {p : Program} {l : Launch} {e : Env} {R : Room} {s : State} {m : MethodId} {args : Array Value} {below : List Frame} {meth : Method} {c : Code} {cells slots : Nat} {Q : State → Prop} {dC : Nat → ClassId} {dI : Nat → Nat → Nat} {cI cB cJ cZ : ClassId} {A : Nat → Prop} {ad : Nat → Nat} {NN : Nat} {E : Heap} {tM tC : Nat} {kK kV : Nat → Nat} {post : St → Prop} {rec81 : Nat → Int32 → Int32 → Int32 → Int32 → Int32 → Int32 → Int32 → Int32 → Int32 → St → Prop} (hx : p.tables.exec = Jvm.exec) (hb : c.code = b_Opn_keepPage) (hml : c.maxLocals = 14) (hown : s.vm.findClass R_Opn = some m.cls) (hT : ∀ w ∈ TG, w.before args s = true) (hK : va_K (dC, dI) CL (TY cI cB cJ cZ) s) (hN : NW s) (hA : ∀ q : Nat, s.heap.size ≤ q → A q) (hRc : cells ≤ R.cells) (hRs : slots ≤ R.slots) (hRf : 3 ≤ R.frames) (hRl : 137 ≤ R.locals) (hNN : 152 ≤ NN) (hE : CE E tM tC kK kV A s) (hret : ∀ (x : St) (H : Heap) (locs : List Loc) (pc : Nat) (ls : Array Slot), decode b_Opn_keepPage pc = .ok (.return_, 1) → post x → Wd dC dI cI cB cJ cZ ad stC kcC NN A x H → va_S A s.heap H locs → W p l e R s m args below meth c H locs cells slots Q (F0 m pc ls [])) (hrec81 : ∀ (o : Nat) (l1 : Int32) (l2 : Int32) (l3 : Int32) (l4 : Int32) (l5 : Int32) (l6 : Int32) (l7 : Int32) (l8 : Int32) (l9 : Int32) (x : St) (H : Heap) (locs : List Loc) (ls : Array Slot), (o < NN ∧ kcC o = 7) → rec81 o l1 l2 l3 l4 l5 l6 l7 l8 l9 x → Wd dC dI cI cB cJ cZ ad stC kcC NN A x H → va_S A s.heap H locs → lv_has ls 14 [(0, .ref (ad o)), (1, .int l1), (2, .int l2), (3, .int l3), (4, .int l4), (5, .int l5), (6, .int l6), (7, .int l7), (8, .int l8), (9, .int l9)] → W p l e R s m args below meth c H locs cells slots Q (F0 m 81 ls [])) : ∀ (o : Nat) (l1 : Int32) (l2 : Int32) (l3 : Int32) (l4 : Int32) (l5 : Int32) (l6 : Int32) (l7 : Int32) (l8 : Int32) (l9 : Int32) (l10 : Int32) (s0 : Int64) (s1 : Int32) (s2 : Nat) (x : St) (H : Heap) (locs : List Loc) (ls : Array Slot), (o < NN ∧ kcC o = 7) → (s2 < NN ∧ kcC s2 = 22) → j_Opn_keepPage_133 post rec81 o l1 l2 l3 l4 l5 l6 l7 l8 l9 l10 s0 s1 s2 x → Wd dC dI cI cB cJ cZ ad stC kcC NN A x H → va_S A s.heap H locs → lv_has ls 14 [(0, .ref (ad o)), (1, .int l1), (2, .int l2), (3, .int l3), (4, .int l4), (5, .int l5), (6, .int l6), (7, .int l7), (8, .int l8), (9, .int l9), (10, .int l10)] → W p l e R s m args below meth c H locs cells slots Q (F0 m 133 ls [.long s0, .int s1, .ref (ad s2)]) := by
  intro o l1 l2 l3 l4 l5 l6 l7 l8 l9 l10 s0 s1 s2 x H locs ls fo fs2 hw hW hS hl
  unfold j_Opn_keepPage_133 at hw
  obtain ⟨hi, hw⟩ := hw
  refine w_last (o := s2) hx hb hK hW hS fs2.1 fs2.2 hi d_Opn_keepPage_133 (fun H locs hW hS => ?_)
  obtain ⟨x19, ex19⟩ : ∃ y : St, y = setL x s2 s1 s0 := ⟨_, rfl⟩
  rw [← ex19] at hW
  have hw := hw x19 ex19
  refine lv_iload hx hb d_Opn_keepPage_134 (lv_at hl 8 rfl) ?_
  refine lv_iload hx hb d_Opn_keepPage_136 (lv_at hl 10 rfl) ?_
  refine lv_if_eq (tgt := 145) hx hb d_Opn_keepPage_138 (by decide) (fun c20 => ?_) (fun c20 => ?_)
  · have hw := hw.1 c20
    refine lv_iconst (v := 0) hx hb d_Opn_keepPage_145 (by decide) ?_
    exact t_Opn_keepPage_146 hx hb hml hown hT hK hN hA hRc hRs hRf hRl hNN hE hret hrec81 o l1 l2 l3 l4 l5 l6 l7 l8 l9 l10 0 l8 x19 H locs ls fo hw hW hS (lv_sub hl [0, 1, 2, 3, 4, 5, 6, 7, 8, 9, 10] rfl)
  · have hw := hw.2 c20
    refine lv_iconst (v := 1) hx hb d_Opn_keepPage_141 (by decide) ?_
    refine lv_goto (tgt := 146) hx hb d_Opn_keepPage_142 (by decide) ?_
    exact t_Opn_keepPage_146 hx hb hml hown hT hK hN hA hRc hRs hRf hRl hNN hE hret hrec81 o l1 l2 l3 l4 l5 l6 l7 l8 l9 l10 1 l8 x19 H locs ls fo hw hW hS (lv_sub hl [0, 1, 2, 3, 4, 5, 6, 7, 8, 9, 10] rfl)
set_option maxRecDepth 100000 in
set_option maxHeartbeats 4000000 in
set_option maxRecDepth 100000 in
theorem t_Opn_keepPage_81 {p : Program} {l : Launch} {e : Env} {R : Room} {s : State} {m : MethodId} {args : Array Value} {below : List Frame} {meth : Method} {c : Code} {cells slots : Nat} {Q : State → Prop} {dC : Nat → ClassId} {dI : Nat → Nat → Nat} {cI cB cJ cZ : ClassId} {A : Nat → Prop} {ad : Nat → Nat} {NN : Nat} {E : Heap} {tM tC : Nat} {kK kV : Nat → Nat} {post : St → Prop} {rec81 : Nat → Int32 → Int32 → Int32 → Int32 → Int32 → Int32 → Int32 → Int32 → Int32 → St → Prop} (hx : p.tables.exec = Jvm.exec) (hb : c.code = b_Opn_keepPage) (hml : c.maxLocals = 14) (hown : s.vm.findClass R_Opn = some m.cls) (hT : ∀ w ∈ TG, w.before args s = true) (hK : va_K (dC, dI) CL (TY cI cB cJ cZ) s) (hN : NW s) (hA : ∀ q : Nat, s.heap.size ≤ q → A q) (hRc : cells ≤ R.cells) (hRs : slots ≤ R.slots) (hRf : 3 ≤ R.frames) (hRl : 137 ≤ R.locals) (hNN : 152 ≤ NN) (hE : CE E tM tC kK kV A s) (hret : ∀ (x : St) (H : Heap) (locs : List Loc) (pc : Nat) (ls : Array Slot), decode b_Opn_keepPage pc = .ok (.return_, 1) → post x → Wd dC dI cI cB cJ cZ ad stC kcC NN A x H → va_S A s.heap H locs → W p l e R s m args below meth c H locs cells slots Q (F0 m pc ls [])) (hrec81 : ∀ (o : Nat) (l1 : Int32) (l2 : Int32) (l3 : Int32) (l4 : Int32) (l5 : Int32) (l6 : Int32) (l7 : Int32) (l8 : Int32) (l9 : Int32) (x : St) (H : Heap) (locs : List Loc) (ls : Array Slot), (o < NN ∧ kcC o = 7) → rec81 o l1 l2 l3 l4 l5 l6 l7 l8 l9 x → Wd dC dI cI cB cJ cZ ad stC kcC NN A x H → va_S A s.heap H locs → lv_has ls 14 [(0, .ref (ad o)), (1, .int l1), (2, .int l2), (3, .int l3), (4, .int l4), (5, .int l5), (6, .int l6), (7, .int l7), (8, .int l8), (9, .int l9)] → W p l e R s m args below meth c H locs cells slots Q (F0 m 81 ls [])) : ∀ (o : Nat) (l1 : Int32) (l2 : Int32) (l3 : Int32) (l4 : Int32) (l5 : Int32) (l6 : Int32) (l7 : Int32) (l8 : Int32) (l9 : Int32) (x : St) (H : Heap) (locs : List Loc) (ls : Array Slot), (o < NN ∧ kcC o = 7) → j_Opn_keepPage_81 post rec81 o l1 l2 l3 l4 l5 l6 l7 l8 l9 x → Wd dC dI cI cB cJ cZ ad stC kcC NN A x H → va_S A s.heap H locs → lv_has ls 14 [(0, .ref (ad o)), (1, .int l1), (2, .int l2), (3, .int l3), (4, .int l4), (5, .int l5), (6, .int l6), (7, .int l7), (8, .int l8), (9, .int l9)] → W p l e R s m args below meth c H locs cells slots Q (F0 m 81 ls []) := by
  intro o l1 l2 l3 l4 l5 l6 l7 l8 l9 x H locs ls fo hw hW hS hl
  unfold j_Opn_keepPage_81 at hw
  refine lv_iload hx hb d_Opn_keepPage_81 (lv_at hl 9 rfl) ?_
  refine lv_aload_n hx hb d_Opn_keepPage_83 rfl (lv_at hl 0 rfl) ?_
  refine w_getf (q := (stC o 0)) (k := 0) (t := 7) (C := R_Opn) (T := F_Opn) (N := 17) hx hb hT hown hK hW fo.1 fo.2 (by decide) in_Opn rfl rfl (by decide) rfl fr_Opn_0 w_3_15 d_Opn_keepPage_84 rfl ?_
  refine w_geti (k := 4) (t := 6) (C := R_Vlt) (T := F_Vlt) (N := 20) hx hb hT hown hK hW (st_ty hNN fo.1 fo.2 rfl).1 (st_ty hNN fo.1 fo.2 rfl).2 (by decide) in_Vlt rfl rfl (by decide) rfl fr_Vlt_4 w_2_133 d_Opn_keepPage_87 ?_
  refine lv_iload hx hb d_Opn_keepPage_90 (lv_at hl 5 rfl) ?_
  refine lv_iadd hx hb d_Opn_keepPage_92 ?_
  refine lv_icmp_ge (tgt := 242) hx hb d_Opn_keepPage_93 (by decide) (fun c21 => ?_) (fun c21 => ?_)
  · have hw := hw.1 c21
    refine lv_aload_n hx hb d_Opn_keepPage_242 rfl (lv_at hl 0 rfl) ?_
    refine w_getf (q := (stC o 0)) (k := 0) (t := 7) (C := R_Opn) (T := F_Opn) (N := 17) hx hb hT hown hK hW fo.1 fo.2 (by decide) in_Opn rfl rfl (by decide) rfl fr_Opn_0 w_3_15 d_Opn_keepPage_243 rfl ?_
    refine w_getf (q := (stC (stC o 0) 14)) (k := 14) (t := 6) (C := R_Vlt) (T := F_Vlt) (N := 20) hx hb hT hown hK hW (st_ty hNN fo.1 fo.2 rfl).1 (st_ty hNN fo.1 fo.2 rfl).2 (by decide) in_Vlt rfl rfl (by decide) rfl fr_Vlt_14 w_2_166 d_Opn_keepPage_246 rfl ?_
    refine lv_iload_n hx hb d_Opn_keepPage_249 rfl (lv_at hl 2 rfl) ?_
    obtain ⟨hi, hw⟩ := hw
    refine w_iald (o := (stC (stC o 0) 14)) hx hb hK hW (st_ty hNN (st_ty hNN fo.1 fo.2 rfl).1 (st_ty hNN fo.1 fo.2 rfl).2 rfl).1 (st_ty hNN (st_ty hNN fo.1 fo.2 rfl).1 (st_ty hNN fo.1 fo.2 rfl).2 rfl).2 hi d_Opn_keepPage_250 ?_
    refine lv_aload_n hx hb d_Opn_keepPage_251 rfl (lv_at hl 0 rfl) ?_
    refine w_getf (q := (stC o 0)) (k := 0) (t := 7) (C := R_Opn) (T := F_Opn) (N := 17) hx hb hT hown hK hW fo.1 fo.2 (by decide) in_Opn rfl rfl (by decide) rfl fr_Opn_0 w_3_15 d_Opn_keepPage_252 rfl ?_
    refine w_getf (q := (stC (stC o 0) 15)) (k := 15) (t := 6) (C := R_Vlt) (T := F_Vlt) (N := 20) hx hb hT hown hK hW (st_ty hNN fo.1 fo.2 rfl).1 (st_ty hNN fo.1 fo.2 rfl).2 (by decide) in_Vlt rfl rfl (by decide) rfl fr_Vlt_15 w_2_169 d_Opn_keepPage_255 rfl ?_
    refine lv_iload_n hx hb d_Opn_keepPage_258 rfl (lv_at hl 2 rfl) ?_
    obtain ⟨hi, hw⟩ := hw
    refine w_iald (o := (stC (stC o 0) 15)) hx hb hK hW (st_ty hNN (st_ty hNN fo.1 fo.2 rfl).1 (st_ty hNN fo.1 fo.2 rfl).2 rfl).1 (st_ty hNN (st_ty hNN fo.1 fo.2 rfl).1 (st_ty hNN fo.1 fo.2 rfl).2 rfl).2 hi d_Opn_keepPage_259 ?_
    refine lv_isub hx hb d_Opn_keepPage_260 ?_
    refine lv_topi (fun v22 ev22 => ?_)
    have hw := hw v22 ev22
    refine lv_istore (lv' := [(9, .int v22), (0, .ref (ad o)), (1, .int l1), (2, .int l2), (3, .int l3), (4, .int l4), (5, .int l5), (6, .int l6), (7, .int l7), (8, .int l8)]) hx hb d_Opn_keepPage_261 hl (by decide) rfl (fun ls hl => ?_)
    refine lv_aload_n hx hb d_Opn_keepPage_263 rfl (lv_at hl 1 rfl) ?_
    refine w_geti (k := 9) (t := 7) (C := R_Opn) (T := F_Opn) (N := 17) hx hb hT hown hK hW fo.1 fo.2 (by decide) in_Opn rfl rfl (by decide) rfl fr_Opn_9 w_3_25 d_Opn_keepPage_264 ?_
    refine lv_if_le (tgt := 370) hx hb d_Opn_keepPage_267 (by decide) (fun c23 => ?_) (fun c23 => ?_)
    · have hw := hw.1 c23
      exact t_Opn_keepPage_370 hx hb hml hown hT hK hN hA hRc hRs hRf hRl hNN hE hret  o l1 l2 l3 l4 l5 l6 l7 l8 v22 x H locs ls fo hw hW hS (lv_sub hl [1, 2, 3, 4, 5, 6, 7, 8, 9, 0] rfl)
    · have hw := hw.2 c23
      refine lv_aload_n hx hb d_Opn_keepPage_270 rfl (lv_at hl 1 rfl) ?_
      refine w_getf (q := (stC o 0)) (k := 0) (t := 7) (C := R_Opn) (T := F_Opn) (N := 17) hx hb hT hown hK hW fo.1 fo.2 (by decide) in_Opn rfl rfl (by decide) rfl fr_Opn_0 w_3_15 d_Opn_keepPage_271 rfl ?_
      refine w_getf (q := (stC (stC o 0) 16)) (k := 16) (t := 6) (C := R_Vlt) (T := F_Vlt) (N := 20) hx hb hT hown hK hW (st_ty hNN fo.1 fo.2 rfl).1 (st_ty hNN fo.1 fo.2 rfl).2 (by decide) in_Vlt rfl rfl (by decide) rfl fr_Vlt_16 w_2_172 d_Opn_keepPage_274 rfl ?_
      refine lv_iload_n hx hb d_Opn_keepPage_277 rfl (lv_at hl 4 rfl) ?_
      obtain ⟨hi, hw⟩ := hw
      refine w_lald (o := (stC (stC o 0) 16)) hx hb hK hW (st_ty hNN (st_ty hNN fo.1 fo.2 rfl).1 (st_ty hNN fo.1 fo.2 rfl).2 rfl).1 (st_ty hNN (st_ty hNN fo.1 fo.2 rfl).1 (st_ty hNN fo.1 fo.2 rfl).2 rfl).2 hi d_Opn_keepPage_278 ?_
      refine lv_topl (fun v24 ev24 => ?_)
      have hw := hw v24 ev24
      refine lv_lstore (lv' := [(10, .long v24), (9, .int v22), (0, .ref (ad o)), (1, .int l1), (2, .int l2), (3, .int l3), (4, .int l4), (5, .int l5), (6, .int l6), (7, .int l7), (8, .int l8)]) hx hb d_Opn_keepPage_279 hl (by decide) rfl (fun ls hl => ?_)
      refine lv_aload_n hx hb d_Opn_keepPage_281 rfl (lv_at hl 2 rfl) ?_
      refine w_getf (q := (stC o 0)) (k := 0) (t := 7) (C := R_Opn) (T := F_Opn) (N := 17) hx hb hT hown hK hW fo.1 fo.2 (by decide) in_Opn rfl rfl (by decide) rfl fr_Opn_0 w_3_15 d_Opn_keepPage_282 rfl ?_
      refine w_getf (q := (stC (stC o 0) 17)) (k := 17) (t := 6) (C := R_Vlt) (T := F_Vlt) (N := 20) hx hb hT hown hK hW (st_ty hNN fo.1 fo.2 rfl).1 (st_ty hNN fo.1 fo.2 rfl).2 (by decide) in_Vlt rfl rfl (by decide) rfl fr_Vlt_17 w_2_175 d_Opn_keepPage_285 rfl ?_
      refine lv_iload_n hx hb d_Opn_keepPage_288 rfl (lv_at hl 5 rfl) ?_
      obtain ⟨hi, hw⟩ := hw
      refine w_lald (o := (stC (stC o 0) 17)) hx hb hK hW (st_ty hNN (st_ty hNN fo.1 fo.2 rfl).1 (st_ty hNN fo.1 fo.2 rfl).2 rfl).1 (st_ty hNN (st_ty hNN fo.1 fo.2 rfl).1 (st_ty hNN fo.1 fo.2 rfl).2 rfl).2 hi d_Opn_keepPage_289 ?_
      refine lv_topl (fun v25 ev25 => ?_)
      have hw := hw v25 ev25
      refine lv_lstore (lv' := [(12, .long v25), (10, .long v24), (9, .int v22), (0, .ref (ad o)), (1, .int l1), (2, .int l2), (3, .int l3), (4, .int l4), (5, .int l5), (6, .int l6), (7, .int l7), (8, .int l8)]) hx hb d_Opn_keepPage_290 hl (by decide) rfl (fun ls hl => ?_)
      refine lv_iload hx hb d_Opn_keepPage_292 (lv_at hl 2 rfl) ?_
      refine lv_if_eq (tgt := 320) hx hb d_Opn_keepPage_294 (by decide) (fun c26 => ?_) (fun c26 => ?_)
      · have hw := hw.1 c26
        exact t_Opn_keepPage_320 hx hb hml hown hT hK hN hA hRc hRs hRf hRl hNN hE hret  o l1 l2 l3 l4 l5 l6 l7 l8 v22 v24 v25 x H locs ls fo hw hW hS (lv_sub hl [3, 4, 5, 6, 7, 8, 9, 10, 11, 2, 1, 0] rfl)
      · have hw := hw.2 c26
        refine lv_aload_n hx hb d_Opn_keepPage_297 rfl (lv_at hl 3 rfl) ?_
        refine w_getf (q := (stC o 0)) (k := 0) (t := 7) (C := R_Opn) (T := F_Opn) (N := 17) hx hb hT hown hK hW fo.1 fo.2 (by decide) in_Opn rfl rfl (by decide) rfl fr_Opn_0 w_3_15 d_Opn_keepPage_298 rfl ?_
        refine lv_iload hx hb d_Opn_keepPage_301 (lv_at hl 7 rfl) ?_
        refine lv_lload hx hb d_Opn_keepPage_303 (lv_at hl 1 rfl) ?_
        refine lv_aload_n hx hb d_Opn_keepPage_305 rfl (lv_at hl 3 rfl) ?_
        refine w_getf (q := (stC o 0)) (k := 0) (t := 7) (C := R_Opn) (T := F_Opn) (N := 17) hx hb hT hown hK hW fo.1 fo.2 (by decide) in_Opn rfl rfl (by decide) rfl fr_Opn_0 w_3_15 d_Opn_keepPage_306 rfl ?_
        refine w_getf (q := (stC (stC o 0) 16)) (k := 16) (t := 6) (C := R_Vlt) (T := F_Vlt) (N := 20) hx hb hT hown hK hW (st_ty hNN fo.1 fo.2 rfl).1 (st_ty hNN fo.1 fo.2 rfl).2 (by decide) in_Vlt rfl rfl (by decide) rfl fr_Vlt_16 w_2_172 d_Opn_keepPage_309 rfl ?_
        refine lv_iload_n hx hb d_Opn_keepPage_312 rfl (lv_at hl 5 rfl) ?_
        obtain ⟨hi, hw⟩ := hw
        refine w_lald (o := (stC (stC o 0) 16)) hx hb hK hW (st_ty hNN (st_ty hNN fo.1 fo.2 rfl).1 (st_ty hNN fo.1 fo.2 rfl).2 rfl).1 (st_ty hNN (st_ty hNN fo.1 fo.2 rfl).1 (st_ty hNN fo.1 fo.2 rfl).2 rfl).2 hi d_Opn_keepPage_313 ?_
        have hF := hW.free hS hA
        refine va_calli (va_runV (C := R_Vlt) (As := [.int l4, .long v24, .long (rL x (stC (stC o 0) 16) l2)]) (rest := []) ⟨hx, hb, hml, hown, hT⟩ (k_Vlt_compare l dC dI cI cB cJ cZ ad NN E tM tC kK kV hNN H.size (stC o 0) l4 v24 (rL x (stC (stC o 0) 16) l2) x (st_ty hNN fo.1 fo.2 rfl) hw) ⟨callB_of 3 hT (gwt_in w_7_32) rfl rfl rfl (hT _ w_1_9) (hT _ w_7_29) (by decide +kernel) ⟨Nat.le_trans (Nat.le_of_ble_eq_true rfl) hRf, Nat.le_trans (Nat.le_of_ble_eq_true rfl) hRl⟩, hT _ w_7_30, hT _ w_7_31⟩ ⟨PVc.blind, va_recv hK hW.1 (ci := 6) (q0 := (stC o 0)) rfl (pic_obj (st_ty hNN fo.1 fo.2 rfl).1 (st_ty hNN fo.1 fo.2 rfl).2 (by decide)), PVc.at _ hW hK hN hE hS hF⟩ rfl rfl hl.1 rfl (lv_room (Nat.le_of_ble_eq_true rfl)) d_Opn_keepPage_314 ⟨hRc, hRs⟩) hS (fun q _ h => hF q h) hF (fun r28 x27 t H locs ht hvm hw hB hz1 hk1 hS => ?_)
        have hW := Wd.back hB ht hF
        clear hB ht hF hz1 hk1 hvm
        refine lv_if_ge (tgt := 331) hx hb d_Opn_keepPage_317 (by decide) (fun c29 => ?_) (fun c29 => ?_)
        · have hw := hw.1 c29
          exact t_Opn_keepPage_331 hx hb hml hown hT hK hN hA hRc hRs hRf hRl hNN hE hret  o l1 l2 l3 l4 l5 l6 l7 l8 v22 v24 v25 x27 H locs ls fo hw hW hS (lv_sub hl [3, 4, 5, 6, 7, 8, 9, 10, 11, 2, 1, 0] rfl)
        · have hw := hw.2 c29
          exact t_Opn_keepPage_320 hx hb hml hown hT hK hN hA hRc hRs hRf hRl hNN hE hret  o l1 l2 l3 l4 l5 l6 l7 l8 v22 v24 v25 x27 H locs ls fo hw hW hS (lv_sub hl [3, 4, 5, 6, 7, 8, 9, 10, 11, 2, 1, 0] rfl)
  · have hw := hw.2 c21
    refine lv_aload_n hx hb d_Opn_keepPage_96 rfl (lv_at hl 0 rfl) ?_
    refine w_getf (q := (stC o 0)) (k := 0) (t := 7) (C := R_Opn) (T := F_Opn) (N := 17) hx hb hT hown hK hW fo.1 fo.2 (by decide) in_Opn rfl rfl (by decide) rfl fr_Opn_0 w_3_15 d_Opn_keepPage_97 rfl ?_
    refine lv_iload hx hb d_Opn_keepPage_100 (lv_at hl 9 rfl) ?_
    refine lv_iload_n hx hb d_Opn_keepPage_102 rfl (lv_at hl 1 rfl) ?_
    have hF := hW.free hS hA
    refine va_calli (va_runV (C := R_Vlt) (As := [.int l9, .int l1]) (rest := []) ⟨hx, hb, hml, hown, hT⟩ (k_Vlt_hasValue l dC dI cI cB cJ cZ ad NN E tM tC kK kV hNN H.size (stC o 0) l9 l1 x (st_ty hNN fo.1 fo.2 rfl) hw) ⟨callB_of 2 hT (gwt_in w_7_50) rfl rfl rfl (hT _ w_1_9) (hT _ w_7_47) (by decide +kernel) ⟨Nat.le_trans (Nat.le_of_ble_eq_true rfl) hRf, Nat.le_trans (Nat.le_of_ble_eq_true rfl) hRl⟩, hT _ w_7_48, hT _ w_7_49⟩ ⟨PVc.blind, va_recv hK hW.1 (ci := 6) (q0 := (stC o 0)) rfl (pic_obj (st_ty hNN fo.1 fo.2 rfl).1 (st_ty hNN fo.1 fo.2 rfl).2 (by decide)), PVc.at _ hW hK hN hE hS hF⟩ rfl rfl hl.1 rfl (lv_room (Nat.le_of_ble_eq_true rfl)) d_Opn_keepPage_103 ⟨hRc, hRs⟩) hS (fun q _ h => hF q h) hF (fun r31 x30 t H locs ht hvm hw hB hz1 hk1 hS => ?_)
    have hW := Wd.back hB ht hF
    clear hB ht hF hz1 hk1 hvm
    refine lv_istore (lv' := [(10, .int r31), (0, .ref (ad o)), (1, .int l1), (2, .int l2), (3, .int l3), (4, .int l4), (5, .int l5), (6, .int l6), (7, .int l7), (8, .int l8), (9, .int l9)]) hx hb d_Opn_keepPage_106 hl (by decide) rfl (fun ls hl => ?_)
    refine lv_aload_n hx hb d_Opn_keepPage_108 rfl (lv_at hl 1 rfl) ?_
    refine w_getf (q := (stC o 0)) (k := 0) (t := 7) (C := R_Opn) (T := F_Opn) (N := 17) hx hb hT hown hK hW fo.1 fo.2 (by decide) in_Opn rfl rfl (by decide) rfl fr_Opn_0 w_3_15 d_Opn_keepPage_109 rfl ?_
    refine w_getf (q := (stC (stC o 0) 9)) (k := 9) (t := 6) (C := R_Vlt) (T := F_Vlt) (N := 20) hx hb hT hown hK hW (st_ty hNN fo.1 fo.2 rfl).1 (st_ty hNN fo.1 fo.2 rfl).2 (by decide) in_Vlt rfl rfl (by decide) rfl fr_Vlt_9 w_2_153 d_Opn_keepPage_112 rfl ?_
    refine lv_iload hx hb d_Opn_keepPage_115 (lv_at hl 10 rfl) ?_
    refine lv_iload hx hb d_Opn_keepPage_117 (lv_at hl 0 rfl) ?_
    refine lv_if_eq (tgt := 132) hx hb d_Opn_keepPage_119 (by decide) (fun c32 => ?_) (fun c32 => ?_)
    · have hw := hw.1 c32
      refine lv_lconst (v := 0) hx hb d_Opn_keepPage_132 (by decide) ?_
      exact t_Opn_keepPage_133 hx hb hml hown hT hK hN hA hRc hRs hRf hRl hNN hE hret hrec81 o l1 l2 l3 l4 l5 l6 l7 l8 l9 r31 0 l9 (stC (stC o 0) 9) x30 H locs ls fo (st_ty hNN (st_ty hNN fo.1 fo.2 rfl).1 (st_ty hNN fo.1 fo.2 rfl).2 rfl) hw hW hS (lv_sub hl [1, 2, 3, 4, 5, 6, 7, 8, 9, 10, 0] rfl)
    · have hw := hw.2 c32
      refine lv_aload_n hx hb d_Opn_keepPage_122 rfl (lv_at hl 1 rfl) ?_
      refine w_getf (q := (stC o 8)) (k := 8) (t := 7) (C := R_Opn) (T := F_Opn) (N := 17) hx hb hT hown hK hW fo.1 fo.2 (by decide) in_Opn rfl rfl (by decide) rfl fr_Opn_8 w_3_24 d_Opn_keepPage_123 rfl ?_
      refine lv_iload hx hb d_Opn_keepPage_126 (lv_at hl 9 rfl) ?_
      obtain ⟨hi, hw⟩ := hw
      refine w_lald (o := (stC o 8)) hx hb hK hW (st_ty hNN fo.1 fo.2 rfl).1 (st_ty hNN fo.1 fo.2 rfl).2 hi d_Opn_keepPage_128 ?_
      refine lv_goto (tgt := 133) hx hb d_Opn_keepPage_129 (by decide) ?_
      exact t_Opn_keepPage_133 hx hb hml hown hT hK hN hA hRc hRs hRf hRl hNN hE hret hrec81 o l1 l2 l3 l4 l5 l6 l7 l8 l9 r31 (rL x30 (stC o 8) l8) l9 (stC (stC o 0) 9) x30 H locs ls fo (st_ty hNN (st_ty hNN fo.1 fo.2 rfl).1 (st_ty hNN fo.1 fo.2 rfl).2 rfl) hw hW hS (lv_sub hl [1, 2, 3, 4, 5, 6, 7, 8, 9, 10, 0] rfl)
set_option maxHeartbeats 4000000 in
set_option maxRecDepth 100000 in
theorem tl_Opn_keepPage_81 {p : Program} {l : Launch} {e : Env} {R : Room} {s : State} {m : MethodId} {args : Array Value} {below : List Frame} {meth : Method} {c : Code} {cells slots : Nat} {Q : State → Prop} {dC : Nat → ClassId} {dI : Nat → Nat → Nat} {cI cB cJ cZ : ClassId} {A : Nat → Prop} {ad : Nat → Nat} {NN : Nat} {E : Heap} {tM tC : Nat} {kK kV : Nat → Nat} {post : St → Prop} (hx : p.tables.exec = Jvm.exec) (hb : c.code = b_Opn_keepPage) (hml : c.maxLocals = 14) (hown : s.vm.findClass R_Opn = some m.cls) (hT : ∀ w ∈ TG, w.before args s = true) (hK : va_K (dC, dI) CL (TY cI cB cJ cZ) s) (hN : NW s) (hA : ∀ q : Nat, s.heap.size ≤ q → A q) (hRc : cells ≤ R.cells) (hRs : slots ≤ R.slots) (hRf : 3 ≤ R.frames) (hRl : 137 ≤ R.locals) (hNN : 152 ≤ NN) (hE : CE E tM tC kK kV A s) (hret : ∀ (x : St) (H : Heap) (locs : List Loc) (pc : Nat) (ls : Array Slot), decode b_Opn_keepPage pc = .ok (.return_, 1) → post x → Wd dC dI cI cB cJ cZ ad stC kcC NN A x H → va_S A s.heap H locs → W p l e R s m args below meth c H locs cells slots Q (F0 m pc ls []))  : ∀ n : Nat, ∀ (o : Nat) (l1 : Int32) (l2 : Int32) (l3 : Int32) (l4 : Int32) (l5 : Int32) (l6 : Int32) (l7 : Int32) (l8 : Int32) (l9 : Int32) (x : St) (H : Heap) (locs : List Loc) (ls : Array Slot), (o < NN ∧ kcC o = 7) → wl_Opn_keepPage_81 post n o l1 l2 l3 l4 l5 l6 l7 l8 l9 x → Wd dC dI cI cB cJ cZ ad stC kcC NN A x H → va_S A s.heap H locs → lv_has ls 14 [(0, .ref (ad o)), (1, .int l1), (2, .int l2), (3, .int l3), (4, .int l4), (5, .int l5), (6, .int l6), (7, .int l7), (8, .int l8), (9, .int l9)] → W p l e R s m args below meth c H locs cells slots Q (F0 m 81 ls []) := by
  intro n
  induction n with
  | zero => intro o l1 l2 l3 l4 l5 l6 l7 l8 l9 x H locs ls fo hw; exact hw.elim
  | succ n ih => intro o l1 l2 l3 l4 l5 l6 l7 l8 l9 x H locs ls fo hw hW hS hl; exact t_Opn_keepPage_81 hx hb hml hown hT hK hN hA hRc hRs hRf hRl hNN hE hret  ih o l1 l2 l3 l4 l5 l6 l7 l8 l9 x H locs ls fo hw hW hS hl
set_option maxRecDepth 100000 in
set_option maxHeartbeats 4000000 in
set_option maxRecDepth 100000 in
theorem t_Opn_keepPage_e {p : Program} {l : Launch} {e : Env} {R : Room} {s : State} {m : MethodId} {args : Array Value} {below : List Frame} {meth : Method} {c : Code} {cells slots : Nat} {Q : State → Prop} {dC : Nat → ClassId} {dI : Nat → Nat → Nat} {cI cB cJ cZ : ClassId} {A : Nat → Prop} {ad : Nat → Nat} {NN : Nat} {E : Heap} {tM tC : Nat} {kK kV : Nat → Nat} {post : St → Prop} (hx : p.tables.exec = Jvm.exec) (hb : c.code = b_Opn_keepPage) (hml : c.maxLocals = 14) (hown : s.vm.findClass R_Opn = some m.cls) (hT : ∀ w ∈ TG, w.before args s = true) (hK : va_K (dC, dI) CL (TY cI cB cJ cZ) s) (hN : NW s) (hA : ∀ q : Nat, s.heap.size ≤ q → A q) (hRc : cells ≤ R.cells) (hRs : slots ≤ R.slots) (hRf : 3 ≤ R.frames) (hRl : 137 ≤ R.locals) (hNN : 152 ≤ NN) (hE : CE E tM tC kK kV A s) (hret : ∀ (x : St) (H : Heap) (locs : List Loc) (pc : Nat) (ls : Array Slot), decode b_Opn_keepPage pc = .ok (.return_, 1) → post x → Wd dC dI cI cB cJ cZ ad stC kcC NN A x H → va_S A s.heap H locs → W p l e R s m args below meth c H locs cells slots Q (F0 m pc ls [])) : ∀ (o : Nat) (l1 : Int32) (l2 : Int32) (l3 : Int32) (x : St) (H : Heap) (locs : List Loc) (ls : Array Slot), (o < NN ∧ kcC o = 7) → wp_Opn_keepPage post o l1 l2 l3 x → Wd dC dI cI cB cJ cZ ad stC kcC NN A x H → va_S A s.heap H locs → lv_has ls 14 [(0, .ref (ad o)), (1, .int l1), (2, .int l2), (3, .int l3)] → W p l e R s m args below meth c H locs cells slots Q (F0 m 0 ls []) := by
  intro o l1 l2 l3 x H locs ls fo hw hW hS hl
  unfold wp_Opn_keepPage at hw
  refine lv_aload_n hx hb d_Opn_keepPage_0 rfl (lv_at hl 0 rfl) ?_
  refine w_getf (q := (stC o 0)) (k := 0) (t := 7) (C := R_Opn) (T := F_Opn) (N := 17) hx hb hT hown hK hW fo.1 fo.2 (by decide) in_Opn rfl rfl (by decide) rfl fr_Opn_0 w_3_15 d_Opn_keepPage_1 rfl ?_
  refine w_getf (q := (stC (stC o 0) 5)) (k := 5) (t := 6) (C := R_Vlt) (T := F_Vlt) (N := 20) hx hb hT hown hK hW (st_ty hNN fo.1 fo.2 rfl).1 (st_ty hNN fo.1 fo.2 rfl).2 (by decide) in_Vlt rfl rfl (by decide) rfl fr_Vlt_5 w_2_136 d_Opn_keepPage_4 rfl ?_
  refine w_getf (q := (stC (stC (stC o 0) 5) 3)) (k := 3) (t := 3) (C := R_Sch) (T := F_Sch) (N := 13) hx hb hT hown hK hW (st_ty hNN (st_ty hNN fo.1 fo.2 rfl).1 (st_ty hNN fo.1 fo.2 rfl).2 rfl).1 (st_ty hNN (st_ty hNN fo.1 fo.2 rfl).1 (st_ty hNN fo.1 fo.2 rfl).2 rfl).2 (by decide) in_Sch rfl rfl (by decide) rfl fr_Sch_3 w_1_147 d_Opn_keepPage_7 rfl ?_
  refine lv_aload_n hx hb d_Opn_keepPage_10 rfl (lv_at hl 0 rfl) ?_
  refine w_getf (q := (stC o 0)) (k := 0) (t := 7) (C := R_Opn) (T := F_Opn) (N := 17) hx hb hT hown hK hW fo.1 fo.2 (by decide) in_Opn rfl rfl (by decide) rfl fr_Opn_0 w_3_15 d_Opn_keepPage_11 rfl ?_
  refine w_getf (q := (stC (stC o 0) 5)) (k := 5) (t := 6) (C := R_Vlt) (T := F_Vlt) (N := 20) hx hb hT hown hK hW (st_ty hNN fo.1 fo.2 rfl).1 (st_ty hNN fo.1 fo.2 rfl).2 (by decide) in_Vlt rfl rfl (by decide) rfl fr_Vlt_5 w_2_136 d_Opn_keepPage_14 rfl ?_
  refine w_getf (q := (stC (stC (stC o 0) 5) 10)) (k := 10) (t := 3) (C := R_Sch) (T := F_Sch) (N := 13) hx hb hT hown hK hW (st_ty hNN (st_ty hNN fo.1 fo.2 rfl).1 (st_ty hNN fo.1 fo.2 rfl).2 rfl).1 (st_ty hNN (st_ty hNN fo.1 fo.2 rfl).1 (st_ty hNN fo.1 fo.2 rfl).2 rfl).2 (by decide) in_Sch rfl rfl (by decide) rfl fr_Sch_10 w_1_181 d_Opn_keepPage_17 rfl ?_
  refine lv_iload_n hx hb d_Opn_keepPage_20 rfl (lv_at hl 1 rfl) ?_
  obtain ⟨hi, hw⟩ := hw
  refine w_iald (o := (stC (stC (stC o 0) 5) 10)) hx hb hK hW (st_ty hNN (st_ty hNN (st_ty hNN fo.1 fo.2 rfl).1 (st_ty hNN fo.1 fo.2 rfl).2 rfl).1 (st_ty hNN (st_ty hNN fo.1 fo.2 rfl).1 (st_ty hNN fo.1 fo.2 rfl).2 rfl).2 rfl).1 (st_ty hNN (st_ty hNN (st_ty hNN fo.1 fo.2 rfl).1 (st_ty hNN fo.1 fo.2 rfl).2 rfl).1 (st_ty hNN (st_ty hNN fo.1 fo.2 rfl).1 (st_ty hNN fo.1 fo.2 rfl).2 rfl).2 rfl).2 hi d_Opn_keepPage_21 ?_
  obtain ⟨hi, hw⟩ := hw
  refine w_iald (o := (stC (stC (stC o 0) 5) 3)) hx hb hK hW (st_ty hNN (st_ty hNN (st_ty hNN fo.1 fo.2 rfl).1 (st_ty hNN fo.1 fo.2 rfl).2 rfl).1 (st_ty hNN (st_ty hNN fo.1 fo.2 rfl).1 (st_ty hNN fo.1 fo.2 rfl).2 rfl).2 rfl).1 (st_ty hNN (st_ty hNN (st_ty hNN fo.1 fo.2 rfl).1 (st_ty hNN fo.1 fo.2 rfl).2 rfl).1 (st_ty hNN (st_ty hNN fo.1 fo.2 rfl).1 (st_ty hNN fo.1 fo.2 rfl).2 rfl).2 rfl).2 hi d_Opn_keepPage_22 ?_
  refine lv_topi (fun v33 ev33 => ?_)
  have hw := hw v33 ev33
  refine lv_istore (lv' := [(4, .int v33), (0, .ref (ad o)), (1, .int l1), (2, .int l2), (3, .int l3)]) hx hb d_Opn_keepPage_23 hl (by decide) rfl (fun ls hl => ?_)
  refine lv_aload_n hx hb d_Opn_keepPage_25 rfl (lv_at hl 1 rfl) ?_
  refine w_getf (q := (stC o 0)) (k := 0) (t := 7) (C := R_Opn) (T := F_Opn) (N := 17) hx hb hT hown hK hW fo.1 fo.2 (by decide) in_Opn rfl rfl (by decide) rfl fr_Opn_0 w_3_15 d_Opn_keepPage_26 rfl ?_
  refine w_getf (q := (stC (stC o 0) 14)) (k := 14) (t := 6) (C := R_Vlt) (T := F_Vlt) (N := 20) hx hb hT hown hK hW (st_ty hNN fo.1 fo.2 rfl).1 (st_ty hNN fo.1 fo.2 rfl).2 (by decide) in_Vlt rfl rfl (by decide) rfl fr_Vlt_14 w_2_166 d_Opn_keepPage_29 rfl ?_
  refine lv_iload_n hx hb d_Opn_keepPage_32 rfl (lv_at hl 4 rfl) ?_
  obtain ⟨hi, hw⟩ := hw
  refine w_iald (o := (stC (stC o 0) 14)) hx hb hK hW (st_ty hNN (st_ty hNN fo.1 fo.2 rfl).1 (st_ty hNN fo.1 fo.2 rfl).2 rfl).1 (st_ty hNN (st_ty hNN fo.1 fo.2 rfl).1 (st_ty hNN fo.1 fo.2 rfl).2 rfl).2 hi d_Opn_keepPage_33 ?_
  refine lv_topi (fun v34 ev34 => ?_)
  have hw := hw v34 ev34
  refine lv_istore (lv' := [(5, .int v34), (4, .int v33), (0, .ref (ad o)), (1, .int l1), (2, .int l2), (3, .int l3)]) hx hb d_Opn_keepPage_34 hl (by decide) rfl (fun ls hl => ?_)
  refine lv_aload_n hx hb d_Opn_keepPage_36 rfl (lv_at hl 2 rfl) ?_
  refine w_getf (q := (stC o 4)) (k := 4) (t := 7) (C := R_Opn) (T := F_Opn) (N := 17) hx hb hT hown hK hW fo.1 fo.2 (by decide) in_Opn rfl rfl (by decide) rfl fr_Opn_4 w_3_19 d_Opn_keepPage_37 rfl ?_
  refine lv_iconst (v := 0) hx hb d_Opn_keepPage_40 (by decide) ?_
  obtain ⟨hi, hw⟩ := hw
  refine w_iald (o := (stC o 4)) hx hb hK hW (st_ty hNN fo.1 fo.2 rfl).1 (st_ty hNN fo.1 fo.2 rfl).2 hi d_Opn_keepPage_41 ?_
  refine lv_topi (fun v35 ev35 => ?_)
  have hw := hw v35 ev35
  refine lv_istore (lv' := [(6, .int v35), (5, .int v34), (4, .int v33), (0, .ref (ad o)), (1, .int l1), (2, .int l2), (3, .int l3)]) hx hb d_Opn_keepPage_42 hl (by decide) rfl (fun ls hl => ?_)
  refine lv_aload_n hx hb d_Opn_keepPage_44 rfl (lv_at hl 3 rfl) ?_
  refine w_getf (q := (stC o 0)) (k := 0) (t := 7) (C := R_Opn) (T := F_Opn) (N := 17) hx hb hT hown hK hW fo.1 fo.2 (by decide) in_Opn rfl rfl (by decide) rfl fr_Opn_0 w_3_15 d_Opn_keepPage_45 rfl ?_
  refine w_getf (q := (stC (stC o 0) 11)) (k := 11) (t := 6) (C := R_Vlt) (T := F_Vlt) (N := 20) hx hb hT hown hK hW (st_ty hNN fo.1 fo.2 rfl).1 (st_ty hNN fo.1 fo.2 rfl).2 (by decide) in_Vlt rfl rfl (by decide) rfl fr_Vlt_11 w_2_157 d_Opn_keepPage_48 rfl ?_
  refine lv_iload hx hb d_Opn_keepPage_51 (lv_at hl 0 rfl) ?_
  refine lv_iconst (v := 1) hx hb d_Opn_keepPage_53 (by decide) ?_
  refine lv_iadd hx hb d_Opn_keepPage_54 ?_
  obtain ⟨hi, hw⟩ := hw
  refine w_iald (o := (stC (stC o 0) 11)) hx hb hK hW (st_ty hNN (st_ty hNN fo.1 fo.2 rfl).1 (st_ty hNN fo.1 fo.2 rfl).2 rfl).1 (st_ty hNN (st_ty hNN fo.1 fo.2 rfl).1 (st_ty hNN fo.1 fo.2 rfl).2 rfl).2 hi d_Opn_keepPage_55 ?_
  refine lv_aload_n hx hb d_Opn_keepPage_56 rfl (lv_at hl 3 rfl) ?_
  refine w_getf (q := (stC o 0)) (k := 0) (t := 7) (C := R_Opn) (T := F_Opn) (N := 17) hx hb hT hown hK hW fo.1 fo.2 (by decide) in_Opn rfl rfl (by decide) rfl fr_Opn_0 w_3_15 d_Opn_keepPage_57 rfl ?_
  refine w_getf (q := (stC (stC o 0) 11)) (k := 11) (t := 6) (C := R_Vlt) (T := F_Vlt) (N := 20) hx hb hT hown hK hW (st_ty hNN fo.1 fo.2 rfl).1 (st_ty hNN fo.1 fo.2 rfl).2 (by decide) in_Vlt rfl rfl (by decide) rfl fr_Vlt_11 w_2_157 d_Opn_keepPage_60 rfl ?_
  refine lv_iload hx hb d_Opn_keepPage_63 (lv_at hl 0 rfl) ?_
  obtain ⟨hi, hw⟩ := hw
  refine w_iald (o := (stC (stC o 0) 11)) hx hb hK hW (st_ty hNN (st_ty hNN fo.1 fo.2 rfl).1 (st_ty hNN fo.1 fo.2 rfl).2 rfl).1 (st_ty hNN (st_ty hNN fo.1 fo.2 rfl).1 (st_ty hNN fo.1 fo.2 rfl).2 rfl).2 hi d_Opn_keepPage_65 ?_
  refine lv_isub hx hb d_Opn_keepPage_66 ?_
  refine lv_topi (fun v36 ev36 => ?_)
  have hw := hw v36 ev36
  refine lv_istore (lv' := [(7, .int v36), (6, .int v35), (5, .int v34), (4, .int v33), (0, .ref (ad o)), (1, .int l1), (2, .int l2), (3, .int l3)]) hx hb d_Opn_keepPage_67 hl (by decide) rfl (fun ls hl => ?_)
  refine lv_iconst (v := 0) hx hb d_Opn_keepPage_69 (by decide) ?_
  refine lv_istore (lv' := [(8, .int 0), (7, .int v36), (6, .int v35), (5, .int v34), (4, .int v33), (0, .ref (ad o)), (1, .int l1), (2, .int l2), (3, .int l3)]) hx hb d_Opn_keepPage_70 hl (by decide) rfl (fun ls hl => ?_)
  refine lv_aload_n hx hb d_Opn_keepPage_72 rfl (lv_at hl 5 rfl) ?_
  refine w_getf (q := (stC o 0)) (k := 0) (t := 7) (C := R_Opn) (T := F_Opn) (N := 17) hx hb hT hown hK hW fo.1 fo.2 (by decide) in_Opn rfl rfl (by decide) rfl fr_Opn_0 w_3_15 d_Opn_keepPage_73 rfl ?_
  refine w_geti (k := 4) (t := 6) (C := R_Vlt) (T := F_Vlt) (N := 20) hx hb hT hown hK hW (st_ty hNN fo.1 fo.2 rfl).1 (st_ty hNN fo.1 fo.2 rfl).2 (by decide) in_Vlt rfl rfl (by decide) rfl fr_Vlt_4 w_2_133 d_Opn_keepPage_76 ?_
  refine lv_topi (fun v37 ev37 => ?_)
  have hw := hw v37 ev37
  refine lv_istore (lv' := [(9, .int v37), (8, .int 0), (7, .int v36), (6, .int v35), (5, .int v34), (4, .int v33), (0, .ref (ad o)), (1, .int l1), (2, .int l2), (3, .int l3)]) hx hb d_Opn_keepPage_79 hl (by decide) rfl (fun ls hl => ?_)
  obtain ⟨n, hw⟩ := hw
  exact tl_Opn_keepPage_81 hx hb hml hown hT hK hN hA hRc hRs hRf hRl hNN hE hret  n o l1 l2 l3 v33 v34 v35 v36 0 v37 x H locs ls fo hw hW hS (lv_sub hl [6, 7, 8, 9, 5, 4, 3, 2, 1, 0] rfl)
set_option maxHeartbeats 4000000 in
set_option maxRecDepth 100000 in
theorem k_Opn_keepPage (l : Launch) (dC : Nat → ClassId) (dI : Nat → Nat → Nat) (cI cB cJ cZ : ClassId) (ad : Nat → Nat) (NN : Nat) (E : Heap) (tM tC : Nat) (kK kV : Nat → Nat) (hNN : 152 ≤ NN) (sz : Nat) (o : Nat) (l1 : Int32) (l2 : Int32) (l3 : Int32) (x : St) (fo : o < NN ∧ kcC o = 7) {post : St → Prop} (hw : wp_Opn_keepPage post o l1 l2 l3 x) : Met l y_Opn_keepPage (wsOf y_Opn_keepPage b_Opn_keepPage 14 (none)) ({ frames := 3, cells := 0, slots := 0, locals := 137 }) (va_Pc [.ref (ad o), .int l1, .int l2, .int l3] (PVc dC dI cI cB cJ cZ ad stC kcC NN E tM tC kK kV sz x)) (va_Qv (fun (y : St) => post y) (fun y t => Wd dC dI cI cB cJ cZ ad stC kcC NN (va_A (pic ad stC kcC NN cI cB cJ cZ x) sz) y t.heap) (va_A (pic ad stC kcC NN cI cB cJ cZ x) sz)) 0 0 (va_A (pic ad stC kcC NN cI cB cJ cZ x) sz) := by
  refine Met.ofW (cc := b_Opn_keepPage) (maxL := 14) (ret := none) (by decide) rfl ?_
  intro p e s m args below meth c s₁ B hml hv
  obtain ⟨rfl, ⟨hsz, hW0, hK, hN⟩, hE⟩ := hv
  have hx := B.exec
  have hb := B.bytes
  have hr := B.returns
  have hts := atoms_spec B.pre
  have hT : ∀ w ∈ TG, w.before _ s = true := fun w h => hts w (List.mem_cons_of_mem _ h)
  have hown : s.vm.findClass R_Opn = some m.cls := findClass_of_methodNamed B.named
  have hlocks := B.notSynchronized
  subst hsz
  have hW : Wd dC dI cI cB cJ cZ ad stC kcC NN (va_A (pic ad stC kcC NN cI cB cJ cZ x) s.heap.size) x s.heap := ⟨hW0.1, hW0.2.1.self (sz := s.heap.size), hW0.2.2⟩
  generalize hAe : va_A (pic ad stC kcC NN cI cB cJ cZ x) s.heap.size = A at hW hE ⊢
  have hA : ∀ q : Nat, s.heap.size ≤ q → A q := fun q h => by rw [← hAe]; exact Or.inr h
  have hS : va_S A s.heap s.heap [] := va_S.rf
  have hl := lv_entry ([.ref (ad o), .int l1, .int l2, .int l3]) (n := 14) (Nat.le_of_ble_eq_true rfl)
  rw [lg_entry_eq]
  generalize (lg_sl ([.ref (ad o), .int l1, .int l2, .int l3]) ++ List.replicate (14 - (lg_sl ([.ref (ad o), .int l1, .int l2, .int l3])).length) Slot.unset).toArray = ls at hl ⊢
  have hl : lv_has ls 14 [(0, .ref (ad o)), (1, .int l1), (2, .int l2), (3, .int l3)] := hl
  exact t_Opn_keepPage_e hx hb hml hown hT hK hN hA (Nat.le_refl 0) (Nat.le_refl 0) (Nat.le_refl 3) (Nat.le_refl 137) hNN hE (fun x H locs pc ls hd hp hW hS => W.vret hx hb hr (fun t ht hM => ⟨⟨x, rfl, hp, Wd.back hW ht.symm (fun _ z => z)⟩, hS.F ht⟩) hS.2.2 hd hlocks)  o l1 l2 l3 x _ _ ls fo hw hW hS hl
end
