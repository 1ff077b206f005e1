theorem fr_Ans_1 : F_Ans 1 = (R_Ans, "count", "I", false) := rfl
theorem fr_Ans_14 : F_Ans 14 = (R_Ans, "vault", "LStripedVault$Vault;", false) := rfl
theorem fr_Ans_15 : F_Ans 15 = (R_Ans, "query", "LStripedVault$Query;", false) := rfl
theorem fr_Ans_7 : F_Ans 7 = (R_Ans, "items", "I", false) := rfl
theorem w_1_150 : (Jvm.Cond.fieldLink "StripedVault$Answer" (129 : Nat) "StripedVault$Schema" "type" "[I") ∈ TG := tw_1 150 (by decide +kernel) (by decide +kernel)
theorem w_1_175 : (Jvm.Cond.fieldLink "StripedVault$Answer" (118 : Nat) "StripedVault$Schema" "column" "[I") ∈ TG := tw_1 175 (by decide +kernel) (by decide +kernel)
theorem w_1_183 : (Jvm.Cond.fieldLink "StripedVault$Answer" (204 : Nat) "StripedVault$Schema" "fieldOf" "[I") ∈ TG := tw_1 183 (by decide +kernel) (by decide +kernel)
theorem w_2_137 : (Jvm.Cond.fieldLink "StripedVault$Answer" (99 : Nat) "StripedVault$Vault" "schema" "LStripedVault$Schema;") ∈ TG := tw_2 137 (by decide +kernel) (by decide +kernel)
theorem w_2_142 : (Jvm.Cond.fieldLink "StripedVault$Answer" (144 : Nat) "StripedVault$Vault" "pool" "[B") ∈ TG := tw_2 142 (by decide +kernel) (by decide +kernel)
theorem w_2_152 : (Jvm.Cond.fieldLink "StripedVault$Answer" (132 : Nat) "StripedVault$Vault" "val" "[J") ∈ TG := tw_2 152 (by decide +kernel) (by decide +kernel)
theorem w_2_173 : (Jvm.Cond.fieldLink "StripedVault$Answer" (267 : Nat) "StripedVault$Vault" "tellerLeast" "[J") ∈ TG := tw_2 173 (by decide +kernel) (by decide +kernel)
theorem w_2_176 : (Jvm.Cond.fieldLink "StripedVault$Answer" (270 : Nat) "StripedVault$Vault" "tellerGreatest" "[J") ∈ TG := tw_2 176 (by decide +kernel) (by decide +kernel)
theorem w_2_179 : (Jvm.Cond.fieldLink "StripedVault$Answer" (276 : Nat) "StripedVault$Vault" "tellerDictionary" "[I") ∈ TG := tw_2 179 (by decide +kernel) (by decide +kernel)
theorem w_2_182 : (Jvm.Cond.fieldLink "StripedVault$Answer" (279 : Nat) "StripedVault$Vault" "dictionary" "[J") ∈ TG := tw_2 182 (by decide +kernel) (by decide +kernel)
theorem w_3_104 : (Jvm.Cond.fieldLink "StripedVault$Answer" (197 : Nat) "StripedVault$Query" "texts" "[B") ∈ TG := tw_3 104 (by decide +kernel) (by decide +kernel)
theorem w_3_157 : (Jvm.Cond.fieldLink "StripedVault$Answer" (46 : Nat) "StripedVault$Answer" "count" "I") ∈ TG := tw_3 157 (by decide +kernel) (by decide +kernel)
theorem w_3_167 : (Jvm.Cond.fieldLink "StripedVault$Answer" (50 : Nat) "StripedVault$Answer" "items" "I") ∈ TG := tw_3 167 (by decide +kernel) (by decide +kernel)
theorem w_3_176 : (Jvm.Cond.fieldLink "StripedVault$Answer" (53 : Nat) "StripedVault$Answer" "vault" "LStripedVault$Vault;") ∈ TG := tw_3 176 (by decide +kernel) (by decide +kernel)
theorem w_3_177 : (Jvm.Cond.fieldLink "StripedVault$Answer" (57 : Nat) "StripedVault$Answer" "query" "LStripedVault$Query;") ∈ TG := tw_3 177 (by decide +kernel) (by decide +kernel)
theorem w_3_79 : (Jvm.Cond.fieldLink "StripedVault$Answer" (111 : Nat) "StripedVault$Query" "itemForm" "[I") ∈ TG := tw_3 79 (by decide +kernel) (by decide +kernel)
theorem w_3_81 : (Jvm.Cond.fieldLink "StripedVault$Answer" (103 : Nat) "StripedVault$Query" "itemField" "[I") ∈ TG := tw_3 81 (by decide +kernel) (by decide +kernel)
theorem w_3_92 : (Jvm.Cond.fieldLink "StripedVault$Answer" (159 : Nat) "StripedVault$Query" "stepForm" "[I") ∈ TG := tw_3 92 (by decide +kernel) (by decide +kernel)
theorem w_3_98 : (Jvm.Cond.fieldLink "StripedVault$Answer" (181 : Nat) "StripedVault$Query" "stepLiterals" "[I") ∈ TG := tw_3 98 (by decide +kernel) (by decide +kernel)
theorem w_7_83 : (Jvm.Cond.instanceMethod ({ cls := "StripedVault$Vault", name := "entryOf", desc := "(II)I" } : Jvm.MethodName)) ∈ TG := tw_7 83 (by decide +kernel) (by decide +kernel)
theorem w_7_84 : (Jvm.Cond.selects "StripedVault$Vault" ({ cls := "StripedVault$Vault", name := "entryOf", desc := "(II)I" } : Jvm.MethodName) ({ cls := "StripedVault$Vault", name := "entryOf", desc := "(II)I" } : Jvm.MethodName)) ∈ TG := tw_7 84 (by decide +kernel) (by decide +kernel)
theorem w_7_85 : (Jvm.Cond.code ({ cls := "StripedVault$Vault", name := "entryOf", desc := "(II)I" } : Jvm.MethodName) prog_11_method_2_code (4 : Nat) (Option.some Jvm.ClassFile.FieldType.int)) ∈ TG := tw_7 85 (by decide +kernel) (by decide +kernel)
theorem w_8_25 : (Jvm.Cond.methodLink "StripedVault$Answer" (114 : Nat) ({ cls := "StripedVault$Answer", name := "keepValue", desc := "(III)V" } : Jvm.MethodName)) ∈ TG := tw_8 25 (by decide +kernel) (by decide +kernel)
theorem w_8_27 : (Jvm.Cond.instanceMethod ({ cls := "StripedVault$Answer", name := "keepValue", desc := "(III)V" } : Jvm.MethodName)) ∈ TG := tw_8 27 (by decide +kernel) (by decide +kernel)
theorem w_8_28 : (Jvm.Cond.code ({ cls := "StripedVault$Answer", name := "keepValue", desc := "(III)V" } : Jvm.MethodName) prog_2_method_7_code (7 : Nat) (Option.none : Option Jvm.ClassFile.FieldType)) ∈ TG := tw_8 28 (by decide +kernel) (by decide +kernel)
theorem w_8_29 : (Jvm.Cond.methodLink "StripedVault$Answer" (121 : Nat) ({ cls := "StripedVault$Vault", name := "entryOf", desc := "(II)I" } : Jvm.MethodName)) ∈ TG := tw_8 29 (by decide +kernel) (by decide +kernel)
theorem w_8_30 : (Jvm.Cond.methodLink "StripedVault$Answer" (125 : Nat) ({ cls := "StripedVault$Vault", name := "hasValue", desc := "(II)Z" } : Jvm.MethodName)) ∈ TG := tw_8 30 (by decide +kernel) (by decide +kernel)
theorem w_8_56 : (Jvm.Cond.methodLink "StripedVault$Answer" (273 : Nat) ({ cls := "StripedVault$Answer", name := "canHold", desc := "(III)Z" } : Jvm.MethodName)) ∈ TG := tw_8 56 (by decide +kernel) (by decide +kernel)
theorem w_8_57 : (Jvm.Cond.static ({ cls := "StripedVault$Answer", name := "canHold", desc := "(III)Z" } : Jvm.MethodName)) ∈ TG := tw_8 57 (by decide +kernel) (by decide +kernel)
theorem w_8_58 : (Jvm.Cond.code ({ cls := "StripedVault$Answer", name := "canHold", desc := "(III)Z" } : Jvm.MethodName) prog_2_method_26_code (3 : Nat) (Option.some Jvm.ClassFile.FieldType.boolean)) ∈ TG := tw_8 58 (by decide +kernel) (by decide +kernel)
theorem w_8_59 : (Jvm.Cond.methodLink "StripedVault$Answer" (187 : Nat) ({ cls := "StripedVault$Answer", name := "holds", desc := "(II)Z" } : Jvm.MethodName)) ∈ TG := tw_8 59 (by decide +kernel) (by decide +kernel)
theorem w_8_60 : (Jvm.Cond.static ({ cls := "StripedVault$Answer", name := "holds", desc := "(II)Z" } : Jvm.MethodName)) ∈ TG := tw_8 60 (by decide +kernel) (by decide +kernel)
theorem w_8_61 : (Jvm.Cond.code ({ cls := "StripedVault$Answer", name := "holds", desc := "(II)Z" } : Jvm.MethodName) prog_2_method_19_code (2 : Nat) (Option.some Jvm.ClassFile.FieldType.boolean)) ∈ TG := tw_8 61 (by decide +kernel) (by decide +kernel)
theorem wn_8_55 : (Jvm.Cond.methodLinkNest "StripedVault$Answer" (200 : Nat) ({ cls := "StripedVault", name := "compareValues", desc := "(I[BJ[BJ)I" } : Jvm.MethodName) "StripedVault") ∈ lw_tbl := tb_8 _ (List.mem_of_getElem? (i := 55) (by decide +kernel))
theorem ws_87 : Cond.selects R_Ans y_Ans_keepValue y_Ans_keepValue ∈ TG := tw_s 87 (by decide +kernel) (by decide +kernel)
theorem d_Ans_keepValue_79 : decode b_Ans_keepValue 79 = .ok (.i2b, 1) := by decide +kernel
theorem d_Ans_keepValue_80 : decode b_Ans_keepValue 80 = .ok (.bastore, 1) := by decide +kernel
theorem d_Ans_keepValue_81 : decode b_Ans_keepValue 81 = .ok (.aload_n 0, 1) := by decide +kernel
theorem d_Ans_keepValue_82 : decode b_Ans_keepValue 82 = .ok (.getfield 23, 3) := by decide +kernel
theorem d_Ans_keepValue_85 : decode b_Ans_keepValue 85 = .ok (.iload_n 1, 1) := by decide +kernel
theorem d_Ans_keepValue_86 : decode b_Ans_keepValue 86 = .ok (.aload_n 0, 1) := by decide +kernel
theorem d_Ans_keepValue_87 : decode b_Ans_keepValue 87 = .ok (.getfield 53, 3) := by decide +kernel
theorem d_Ans_keepValue_90 : decode b_Ans_keepValue 90 = .ok (.getfield 132, 3) := by decide +kernel
theorem d_Ans_keepValue_93 : decode b_Ans_keepValue 93 = .ok (.iload 5, 2) := by decide +kernel
theorem d_Ans_keepValue_95 : decode b_Ans_keepValue 95 = .ok (.laload, 1) := by decide +kernel
theorem d_Ans_keepValue_96 : decode b_Ans_keepValue 96 = .ok (.lastore, 1) := by decide +kernel
theorem d_Ans_keepValue_97 : decode b_Ans_keepValue 97 = .ok (.return_, 1) := by decide +kernel
theorem d_Ans_keepValue_0 : decode b_Ans_keepValue 0 = .ok (.aload_n 0, 1) := by decide +kernel
theorem d_Ans_keepValue_1 : decode b_Ans_keepValue 1 = .ok (.getfield 53, 3) := by decide +kernel
theorem d_Ans_keepValue_4 : decode b_Ans_keepValue 4 = .ok (.getfield 99, 3) := by decide +kernel
theorem d_Ans_keepValue_7 : decode b_Ans_keepValue 7 = .ok (.getfield 118, 3) := by decide +kernel
theorem d_Ans_keepValue_10 : decode b_Ans_keepValue 10 = .ok (.iload_n 3, 1) := by decide +kernel
theorem d_Ans_keepValue_11 : decode b_Ans_keepValue 11 = .ok (.iaload, 1) := by decide +kernel
theorem d_Ans_keepValue_12 : decode b_Ans_keepValue 12 = .ok (.istore 4, 2) := by decide +kernel
theorem d_Ans_keepValue_14 : decode b_Ans_keepValue 14 = .ok (.aload_n 0, 1) := by decide +kernel
theorem d_Ans_keepValue_15 : decode b_Ans_keepValue 15 = .ok (.getfield 53, 3) := by decide +kernel
theorem d_Ans_keepValue_18 : decode b_Ans_keepValue 18 = .ok (.iload_n 2, 1) := by decide +kernel
theorem d_Ans_keepValue_19 : decode b_Ans_keepValue 19 = .ok (.iload 4, 2) := by decide +kernel
theorem d_Ans_keepValue_21 : decode b_Ans_keepValue 21 = .ok (.invokevirtual 121, 3) := by decide +kernel
theorem d_Ans_keepValue_24 : decode b_Ans_keepValue 24 = .ok (.istore 5, 2) := by decide +kernel
theorem d_Ans_keepValue_26 : decode b_Ans_keepValue 26 = .ok (.aload_n 0, 1) := by decide +kernel
theorem d_Ans_keepValue_27 : decode b_Ans_keepValue 27 = .ok (.getfield 53, 3) := by decide +kernel
theorem d_Ans_keepValue_30 : decode b_Ans_keepValue 30 = .ok (.iload 5, 2) := by decide +kernel
theorem d_Ans_keepValue_32 : decode b_Ans_keepValue 32 = .ok (.iload 4, 2) := by decide +kernel
theorem d_Ans_keepValue_34 : decode b_Ans_keepValue 34 = .ok (.invokevirtual 125, 3) := by decide +kernel
theorem d_Ans_keepValue_37 : decode b_Ans_keepValue 37 = .ok (.ifCond .eq 60, 3) := by decide +kernel
theorem d_Ans_keepValue_40 : decode b_Ans_keepValue 40 = .ok (.aload_n 0, 1) := by decide +kernel
theorem d_Ans_keepValue_41 : decode b_Ans_keepValue 41 = .ok (.getfield 53, 3) := by decide +kernel
theorem d_Ans_keepValue_44 : decode b_Ans_keepValue 44 = .ok (.getfield 99, 3) := by decide +kernel
theorem d_Ans_keepValue_47 : decode b_Ans_keepValue 47 = .ok (.getfield 129, 3) := by decide +kernel
theorem d_Ans_keepValue_50 : decode b_Ans_keepValue 50 = .ok (.iload_n 3, 1) := by decide +kernel
theorem d_Ans_keepValue_51 : decode b_Ans_keepValue 51 = .ok (.iaload, 1) := by decide +kernel
theorem d_Ans_keepValue_52 : decode b_Ans_keepValue 52 = .ok (.istore 6, 2) := by decide +kernel
theorem d_Ans_keepValue_54 : decode b_Ans_keepValue 54 = .ok (.aload_n 0, 1) := by decide +kernel
theorem d_Ans_keepValue_55 : decode b_Ans_keepValue 55 = .ok (.getfield 19, 3) := by decide +kernel
theorem d_Ans_keepValue_58 : decode b_Ans_keepValue 58 = .ok (.iload_n 1, 1) := by decide +kernel
theorem d_Ans_keepValue_59 : decode b_Ans_keepValue 59 = .ok (.iload 6, 2) := by decide +kernel
theorem d_Ans_keepValue_61 : decode b_Ans_keepValue 61 = .ok (.ifCond .ne 7, 3) := by decide +kernel
theorem d_Ans_keepValue_68 : decode b_Ans_keepValue 68 = .ok (.iload 6, 2) := by decide +kernel
theorem d_Ans_keepValue_70 : decode b_Ans_keepValue 70 = .ok (.iconst 3, 1) := by decide +kernel
theorem d_Ans_keepValue_71 : decode b_Ans_keepValue 71 = .ok (.if_icmp .ne 7, 3) := by decide +kernel
theorem d_Ans_keepValue_78 : decode b_Ans_keepValue 78 = .ok (.iconst 2, 1) := by decide +kernel
theorem d_Ans_keepValue_74 : decode b_Ans_keepValue 74 = .ok (.iconst 3, 1) := by decide +kernel
theorem d_Ans_keepValue_75 : decode b_Ans_keepValue 75 = .ok (.goto 4, 3) := by decide +kernel
theorem d_Ans_keepValue_64 : decode b_Ans_keepValue 64 = .ok (.iconst 1, 1) := by decide +kernel
theorem d_Ans_keepValue_65 : decode b_Ans_keepValue 65 = .ok (.goto 14, 3) := by decide +kernel
theorem d_Ans_addGroup_123 : decode b_Ans_addGroup 123 = .ok (.iinc 3 1, 3) := by decide +kernel
theorem d_Ans_addGroup_126 : decode b_Ans_addGroup 126 = .ok (.goto (-96), 3) := by decide +kernel
theorem d_Ans_addGroup_85 : decode b_Ans_addGroup 85 = .ok (.i2b, 1) := by decide +kernel
theorem d_Ans_addGroup_86 : decode b_Ans_addGroup 86 = .ok (.bastore, 1) := by decide +kernel
theorem d_Ans_addGroup_87 : decode b_Ans_addGroup 87 = .ok (.aload_n 0, 1) := by decide +kernel
theorem d_Ans_addGroup_88 : decode b_Ans_addGroup 88 = .ok (.getfield 23, 3) := by decide +kernel
theorem d_Ans_addGroup_91 : decode b_Ans_addGroup 91 = .ok (.iload_n 2, 1) := by decide +kernel
theorem d_Ans_addGroup_92 : decode b_Ans_addGroup 92 = .ok (.iload_n 3, 1) := by decide +kernel
theorem d_Ans_addGroup_93 : decode b_Ans_addGroup 93 = .ok (.iadd, 1) := by decide +kernel
theorem d_Ans_addGroup_94 : decode b_Ans_addGroup 94 = .ok (.lconst 0, 1) := by decide +kernel
theorem d_Ans_addGroup_95 : decode b_Ans_addGroup 95 = .ok (.lastore, 1) := by decide +kernel
theorem d_Ans_addGroup_96 : decode b_Ans_addGroup 96 = .ok (.iload 4, 2) := by decide +kernel
theorem d_Ans_addGroup_98 : decode b_Ans_addGroup 98 = .ok (.ifCond .ne 25, 3) := by decide +kernel
theorem d_Ans_addGroup_101 : decode b_Ans_addGroup 101 = .ok (.iload_n 1, 1) := by decide +kernel
theorem d_Ans_addGroup_102 : decode b_Ans_addGroup 102 = .ok (.iconst (-1), 1) := by decide +kernel
theorem d_Ans_addGroup_103 : decode b_Ans_addGroup 103 = .ok (.if_icmp .eq 20, 3) := by decide +kernel
theorem d_Ans_addGroup_106 : decode b_Ans_addGroup 106 = .ok (.aload_n 0, 1) := by decide +kernel
theorem d_Ans_addGroup_107 : decode b_Ans_addGroup 107 = .ok (.iload_n 2, 1) := by decide +kernel
theorem d_Ans_addGroup_108 : decode b_Ans_addGroup 108 = .ok (.iload_n 3, 1) := by decide +kernel
theorem d_Ans_addGroup_109 : decode b_Ans_addGroup 109 = .ok (.iadd, 1) := by decide +kernel
theorem d_Ans_addGroup_110 : decode b_Ans_addGroup 110 = .ok (.iload_n 1, 1) := by decide +kernel
theorem d_Ans_addGroup_111 : decode b_Ans_addGroup 111 = .ok (.aload_n 0, 1) := by decide +kernel
theorem d_Ans_addGroup_112 : decode b_Ans_addGroup 112 = .ok (.getfield 57, 3) := by decide +kernel
theorem d_Ans_addGroup_115 : decode b_Ans_addGroup 115 = .ok (.getfield 103, 3) := by decide +kernel
theorem d_Ans_addGroup_118 : decode b_Ans_addGroup 118 = .ok (.iload_n 3, 1) := by decide +kernel
theorem d_Ans_addGroup_119 : decode b_Ans_addGroup 119 = .ok (.iaload, 1) := by decide +kernel
theorem d_Ans_addGroup_120 : decode b_Ans_addGroup 120 = .ok (.invokevirtual 114, 3) := by decide +kernel
theorem d_Ans_addGroup_66 : decode b_Ans_addGroup 66 = .ok (.istore 5, 2) := by decide +kernel
theorem d_Ans_addGroup_68 : decode b_Ans_addGroup 68 = .ok (.aload_n 0, 1) := by decide +kernel
theorem d_Ans_addGroup_69 : decode b_Ans_addGroup 69 = .ok (.getfield 19, 3) := by decide +kernel
theorem d_Ans_addGroup_72 : decode b_Ans_addGroup 72 = .ok (.iload_n 2, 1) := by decide +kernel
theorem d_Ans_addGroup_73 : decode b_Ans_addGroup 73 = .ok (.iload_n 3, 1) := by decide +kernel
theorem d_Ans_addGroup_74 : decode b_Ans_addGroup 74 = .ok (.iadd, 1) := by decide +kernel
theorem d_Ans_addGroup_75 : decode b_Ans_addGroup 75 = .ok (.iload 5, 2) := by decide +kernel
theorem d_Ans_addGroup_77 : decode b_Ans_addGroup 77 = .ok (.ifCond .eq 7, 3) := by decide +kernel
theorem d_Ans_addGroup_84 : decode b_Ans_addGroup 84 = .ok (.iconst 0, 1) := by decide +kernel
theorem d_Ans_addGroup_80 : decode b_Ans_addGroup 80 = .ok (.iconst 2, 1) := by decide +kernel
theorem d_Ans_addGroup_81 : decode b_Ans_addGroup 81 = .ok (.goto 4, 3) := by decide +kernel
theorem d_Ans_addGroup_61 : decode b_Ans_addGroup 61 = .ok (.iconst 1, 1) := by decide +kernel
theorem d_Ans_addGroup_62 : decode b_Ans_addGroup 62 = .ok (.goto 4, 3) := by decide +kernel
theorem d_Ans_addGroup_30 : decode b_Ans_addGroup 30 = .ok (.iload_n 3, 1) := by decide +kernel
theorem d_Ans_addGroup_31 : decode b_Ans_addGroup 31 = .ok (.aload_n 0, 1) := by decide +kernel
theorem d_Ans_addGroup_32 : decode b_Ans_addGroup 32 = .ok (.getfield 50, 3) := by decide +kernel
theorem d_Ans_addGroup_35 : decode b_Ans_addGroup 35 = .ok (.if_icmp .ge 94, 3) := by decide +kernel
theorem d_Ans_addGroup_129 : decode b_Ans_addGroup 129 = .ok (.return_, 1) := by decide +kernel
theorem d_Ans_addGroup_38 : decode b_Ans_addGroup 38 = .ok (.aload_n 0, 1) := by decide +kernel
theorem d_Ans_addGroup_39 : decode b_Ans_addGroup 39 = .ok (.getfield 57, 3) := by decide +kernel
theorem d_Ans_addGroup_42 : decode b_Ans_addGroup 42 = .ok (.getfield 111, 3) := by decide +kernel
theorem d_Ans_addGroup_45 : decode b_Ans_addGroup 45 = .ok (.iload_n 3, 1) := by decide +kernel
theorem d_Ans_addGroup_46 : decode b_Ans_addGroup 46 = .ok (.iaload, 1) := by decide +kernel
theorem d_Ans_addGroup_47 : decode b_Ans_addGroup 47 = .ok (.istore 4, 2) := by decide +kernel
theorem d_Ans_addGroup_49 : decode b_Ans_addGroup 49 = .ok (.iload 4, 2) := by decide +kernel
theorem d_Ans_addGroup_51 : decode b_Ans_addGroup 51 = .ok (.iconst 1, 1) := by decide +kernel
theorem d_Ans_addGroup_52 : decode b_Ans_addGroup 52 = .ok (.if_icmp .eq 9, 3) := by decide +kernel
theorem d_Ans_addGroup_55 : decode b_Ans_addGroup 55 = .ok (.iload 4, 2) := by decide +kernel
theorem d_Ans_addGroup_57 : decode b_Ans_addGroup 57 = .ok (.iconst 2, 1) := by decide +kernel
theorem d_Ans_addGroup_58 : decode b_Ans_addGroup 58 = .ok (.if_icmp .ne 7, 3) := by decide +kernel
theorem d_Ans_addGroup_65 : decode b_Ans_addGroup 65 = .ok (.iconst 0, 1) := by decide +kernel
theorem d_Ans_addGroup_0 : decode b_Ans_addGroup 0 = .ok (.aload_n 0, 1) := by decide +kernel
theorem d_Ans_addGroup_1 : decode b_Ans_addGroup 1 = .ok (.getfield 46, 3) := by decide +kernel
theorem d_Ans_addGroup_4 : decode b_Ans_addGroup 4 = .ok (.bipush 16, 2) := by decide +kernel
theorem d_Ans_addGroup_6 : decode b_Ans_addGroup 6 = .ok (.imul, 1) := by decide +kernel
theorem d_Ans_addGroup_7 : decode b_Ans_addGroup 7 = .ok (.istore_n 2, 1) := by decide +kernel
theorem d_Ans_addGroup_8 : decode b_Ans_addGroup 8 = .ok (.aload_n 0, 1) := by decide +kernel
theorem d_Ans_addGroup_9 : decode b_Ans_addGroup 9 = .ok (.getfield 15, 3) := by decide +kernel
theorem d_Ans_addGroup_12 : decode b_Ans_addGroup 12 = .ok (.aload_n 0, 1) := by decide +kernel
theorem d_Ans_addGroup_13 : decode b_Ans_addGroup 13 = .ok (.getfield 46, 3) := by decide +kernel
theorem d_Ans_addGroup_16 : decode b_Ans_addGroup 16 = .ok (.iload_n 1, 1) := by decide +kernel
theorem d_Ans_addGroup_17 : decode b_Ans_addGroup 17 = .ok (.iastore, 1) := by decide +kernel
theorem d_Ans_addGroup_18 : decode b_Ans_addGroup 18 = .ok (.aload_n 0, 1) := by decide +kernel
theorem d_Ans_addGroup_19 : decode b_Ans_addGroup 19 = .ok (.dup, 1) := by decide +kernel
theorem d_Ans_addGroup_20 : decode b_Ans_addGroup 20 = .ok (.getfield 46, 3) := by decide +kernel
theorem d_Ans_addGroup_23 : decode b_Ans_addGroup 23 = .ok (.iconst 1, 1) := by decide +kernel
theorem d_Ans_addGroup_24 : decode b_Ans_addGroup 24 = .ok (.iadd, 1) := by decide +kernel
theorem d_Ans_addGroup_25 : decode b_Ans_addGroup 25 = .ok (.putfield 46, 3) := by decide +kernel
theorem d_Ans_addGroup_28 : decode b_Ans_addGroup 28 = .ok (.iconst 0, 1) := by decide +kernel
theorem d_Ans_addGroup_29 : decode b_Ans_addGroup 29 = .ok (.istore_n 3, 1) := by decide +kernel
theorem d_Ans_comparesColumns_30 : decode b_Ans_comparesColumns 30 = .ok (.iconst 0, 1) := by decide +kernel
theorem d_Ans_comparesColumns_31 : decode b_Ans_comparesColumns 31 = .ok (.ireturn, 1) := by decide +kernel
theorem d_Ans_comparesColumns_0 : decode b_Ans_comparesColumns 0 = .ok (.aload_n 0, 1) := by decide +kernel
theorem d_Ans_comparesColumns_1 : decode b_Ans_comparesColumns 1 = .ok (.getfield 57, 3) := by decide +kernel
theorem d_Ans_comparesColumns_4 : decode b_Ans_comparesColumns 4 = .ok (.getfield 159, 3) := by decide +kernel
theorem d_Ans_comparesColumns_7 : decode b_Ans_comparesColumns 7 = .ok (.iload_n 1, 1) := by decide +kernel
theorem d_Ans_comparesColumns_8 : decode b_Ans_comparesColumns 8 = .ok (.iaload, 1) := by decide +kernel
theorem d_Ans_comparesColumns_9 : decode b_Ans_comparesColumns 9 = .ok (.bipush 6, 2) := by decide +kernel
theorem d_Ans_comparesColumns_11 : decode b_Ans_comparesColumns 11 = .ok (.if_icmp .ge 19, 3) := by decide +kernel
theorem d_Ans_comparesColumns_14 : decode b_Ans_comparesColumns 14 = .ok (.aload_n 0, 1) := by decide +kernel
theorem d_Ans_comparesColumns_15 : decode b_Ans_comparesColumns 15 = .ok (.getfield 57, 3) := by decide +kernel
theorem d_Ans_comparesColumns_18 : decode b_Ans_comparesColumns 18 = .ok (.getfield 181, 3) := by decide +kernel
theorem d_Ans_comparesColumns_21 : decode b_Ans_comparesColumns 21 = .ok (.iload_n 1, 1) := by decide +kernel
theorem d_Ans_comparesColumns_22 : decode b_Ans_comparesColumns 22 = .ok (.iaload, 1) := by decide +kernel
theorem d_Ans_comparesColumns_23 : decode b_Ans_comparesColumns 23 = .ok (.ifCond .ne 7, 3) := by decide +kernel
theorem d_Ans_comparesColumns_26 : decode b_Ans_comparesColumns 26 = .ok (.iconst 1, 1) := by decide +kernel
theorem d_Ans_comparesColumns_27 : decode b_Ans_comparesColumns 27 = .ok (.goto 4, 3) := by decide +kernel
theorem d_Ans_typeOf_0 : decode b_Ans_typeOf 0 = .ok (.aload_n 0, 1) := by decide +kernel
theorem d_Ans_typeOf_1 : decode b_Ans_typeOf 1 = .ok (.getfield 53, 3) := by decide +kernel
theorem d_Ans_typeOf_4 : decode b_Ans_typeOf 4 = .ok (.getfield 99, 3) := by decide +kernel
theorem d_Ans_typeOf_7 : decode b_Ans_typeOf 7 = .ok (.getfield 129, 3) := by decide +kernel
theorem d_Ans_typeOf_10 : decode b_Ans_typeOf 10 = .ok (.aload_n 0, 1) := by decide +kernel
theorem d_Ans_typeOf_11 : decode b_Ans_typeOf 11 = .ok (.getfield 53, 3) := by decide +kernel
theorem d_Ans_typeOf_14 : decode b_Ans_typeOf 14 = .ok (.getfield 99, 3) := by decide +kernel
theorem d_Ans_typeOf_17 : decode b_Ans_typeOf 17 = .ok (.getfield 204, 3) := by decide +kernel
theorem d_Ans_typeOf_20 : decode b_Ans_typeOf 20 = .ok (.iload_n 1, 1) := by decide +kernel
theorem d_Ans_typeOf_21 : decode b_Ans_typeOf 21 = .ok (.iaload, 1) := by decide +kernel
theorem d_Ans_typeOf_22 : decode b_Ans_typeOf 22 = .ok (.iaload, 1) := by decide +kernel
theorem d_Ans_typeOf_23 : decode b_Ans_typeOf 23 = .ok (.ireturn, 1) := by decide +kernel
theorem d_Ans_canHold_58 : decode b_Ans_canHold 58 = .ok (.iconst 1, 1) := by decide +kernel
theorem d_Ans_canHold_59 : decode b_Ans_canHold 59 = .ok (.goto 4, 3) := by decide +kernel
theorem d_Ans_canHold_63 : decode b_Ans_canHold 63 = .ok (.ireturn, 1) := by decide +kernel
theorem d_Ans_canHold_48 : decode b_Ans_canHold 48 = .ok (.iconst 0, 1) := by decide +kernel
theorem d_Ans_canHold_49 : decode b_Ans_canHold 49 = .ok (.ireturn, 1) := by decide +kernel
theorem d_Ans_canHold_0 : decode b_Ans_canHold 0 = .ok (.iload_n 0, 1) := by decide +kernel
theorem d_Ans_canHold_1 : decode b_Ans_canHold 1 = .ok (.tableswitch 93 0 4 #[35, 49, 63, 73, 83], 35) := by decide +kernel
theorem d_Ans_canHold_36 : decode b_Ans_canHold 36 = .ok (.iload_n 1, 1) := by decide +kernel
theorem d_Ans_canHold_37 : decode b_Ans_canHold 37 = .ok (.ifCond .gt 11, 3) := by decide +kernel
theorem d_Ans_canHold_40 : decode b_Ans_canHold 40 = .ok (.iload_n 2, 1) := by decide +kernel
theorem d_Ans_canHold_41 : decode b_Ans_canHold 41 = .ok (.ifCond .lt 7, 3) := by decide +kernel
theorem d_Ans_canHold_44 : decode b_Ans_canHold 44 = .ok (.iconst 1, 1) := by decide +kernel
theorem d_Ans_canHold_45 : decode b_Ans_canHold 45 = .ok (.goto 4, 3) := by decide +kernel
theorem d_Ans_canHold_50 : decode b_Ans_canHold 50 = .ok (.iload_n 1, 1) := by decide +kernel
theorem d_Ans_canHold_51 : decode b_Ans_canHold 51 = .ok (.ifCond .ne 7, 3) := by decide +kernel
theorem d_Ans_canHold_54 : decode b_Ans_canHold 54 = .ok (.iload_n 2, 1) := by decide +kernel
theorem d_Ans_canHold_55 : decode b_Ans_canHold 55 = .ok (.ifCond .eq 7, 3) := by decide +kernel
theorem d_Ans_canHold_62 : decode b_Ans_canHold 62 = .ok (.iconst 0, 1) := by decide +kernel
theorem d_Ans_canHold_64 : decode b_Ans_canHold 64 = .ok (.iload_n 1, 1) := by decide +kernel
theorem d_Ans_canHold_65 : decode b_Ans_canHold 65 = .ok (.ifCond .ge 7, 3) := by decide +kernel
theorem d_Ans_canHold_72 : decode b_Ans_canHold 72 = .ok (.iconst 0, 1) := by decide +kernel
theorem d_Ans_canHold_73 : decode b_Ans_canHold 73 = .ok (.ireturn, 1) := by decide +kernel
theorem d_Ans_canHold_68 : decode b_Ans_canHold 68 = .ok (.iconst 1, 1) := by decide +kernel
theorem d_Ans_canHold_69 : decode b_Ans_canHold 69 = .ok (.goto 4, 3) := by decide +kernel
theorem d_Ans_canHold_74 : decode b_Ans_canHold 74 = .ok (.iload_n 2, 1) := by decide +kernel
theorem d_Ans_canHold_75 : decode b_Ans_canHold 75 = .ok (.ifCond .lt 7, 3) := by decide +kernel
theorem d_Ans_canHold_82 : decode b_Ans_canHold 82 = .ok (.iconst 0, 1) := by decide +kernel
theorem d_Ans_canHold_83 : decode b_Ans_canHold 83 = .ok (.ireturn, 1) := by decide +kernel
theorem d_Ans_canHold_78 : decode b_Ans_canHold 78 = .ok (.iconst 1, 1) := by decide +kernel
theorem d_Ans_canHold_79 : decode b_Ans_canHold 79 = .ok (.goto 4, 3) := by decide +kernel
theorem d_Ans_canHold_84 : decode b_Ans_canHold 84 = .ok (.iload_n 2, 1) := by decide +kernel
theorem d_Ans_canHold_85 : decode b_Ans_canHold 85 = .ok (.ifCond .le 7, 3) := by decide +kernel
theorem d_Ans_canHold_92 : decode b_Ans_canHold 92 = .ok (.iconst 0, 1) := by decide +kernel
theorem d_Ans_canHold_93 : decode b_Ans_canHold 93 = .ok (.ireturn, 1) := by decide +kernel
theorem d_Ans_canHold_88 : decode b_Ans_canHold 88 = .ok (.iconst 1, 1) := by decide +kernel
theorem d_Ans_canHold_89 : decode b_Ans_canHold 89 = .ok (.goto 4, 3) := by decide +kernel
theorem d_Ans_canHold_94 : decode b_Ans_canHold 94 = .ok (.iload_n 1, 1) := by decide +kernel
theorem d_Ans_canHold_95 : decode b_Ans_canHold 95 = .ok (.ifCond .gt 7, 3) := by decide +kernel
theorem d_Ans_canHold_102 : decode b_Ans_canHold 102 = .ok (.iconst 0, 1) := by decide +kernel
theorem d_Ans_canHold_103 : decode b_Ans_canHold 103 = .ok (.ireturn, 1) := by decide +kernel
theorem d_Ans_canHold_98 : decode b_Ans_canHold 98 = .ok (.iconst 1, 1) := by decide +kernel
theorem d_Ans_canHold_99 : decode b_Ans_canHold 99 = .ok (.goto 4, 3) := by decide +kernel
theorem d_Ans_holds_0 : decode b_Ans_holds 0 = .ok (.iload_n 0, 1) := by decide +kernel
theorem d_Ans_holds_1 : decode b_Ans_holds 1 = .ok (.tableswitch 85 0 4 #[35, 45, 55, 65, 75], 35) := by decide +kernel
theorem d_Ans_holds_36 : decode b_Ans_holds 36 = .ok (.iload_n 1, 1) := by decide +kernel
theorem d_Ans_holds_37 : decode b_Ans_holds 37 = .ok (.ifCond .ne 7, 3) := by decide +kernel
theorem d_Ans_holds_44 : decode b_Ans_holds 44 = .ok (.iconst 0, 1) := by decide +kernel
theorem d_Ans_holds_45 : decode b_Ans_holds 45 = .ok (.ireturn, 1) := by decide +kernel
theorem d_Ans_holds_40 : decode b_Ans_holds 40 = .ok (.iconst 1, 1) := by decide +kernel
theorem d_Ans_holds_41 : decode b_Ans_holds 41 = .ok (.goto 4, 3) := by decide +kernel
theorem d_Ans_holds_46 : decode b_Ans_holds 46 = .ok (.iload_n 1, 1) := by decide +kernel
theorem d_Ans_holds_47 : decode b_Ans_holds 47 = .ok (.ifCond .eq 7, 3) := by decide +kernel
theorem d_Ans_holds_54 : decode b_Ans_holds 54 = .ok (.iconst 0, 1) := by decide +kernel
theorem d_Ans_holds_55 : decode b_Ans_holds 55 = .ok (.ireturn, 1) := by decide +kernel
theorem d_Ans_holds_50 : decode b_Ans_holds 50 = .ok (.iconst 1, 1) := by decide +kernel
theorem d_Ans_holds_51 : decode b_Ans_holds 51 = .ok (.goto 4, 3) := by decide +kernel
theorem d_Ans_holds_56 : decode b_Ans_holds 56 = .ok (.iload_n 1, 1) := by decide +kernel
theorem d_Ans_holds_57 : decode b_Ans_holds 57 = .ok (.ifCond .ge 7, 3) := by decide +kernel
theorem d_Ans_holds_64 : decode b_Ans_holds 64 = .ok (.iconst 0, 1) := by decide +kernel
theorem d_Ans_holds_65 : decode b_Ans_holds 65 = .ok (.ireturn, 1) := by decide +kernel
theorem d_Ans_holds_60 : decode b_Ans_holds 60 = .ok (.iconst 1, 1) := by decide +kernel
theorem d_Ans_holds_61 : decode b_Ans_holds 61 = .ok (.goto 4, 3) := by decide +kernel
theorem d_Ans_holds_66 : decode b_Ans_holds 66 = .ok (.iload_n 1, 1) := by decide +kernel
theorem d_Ans_holds_67 : decode b_Ans_holds 67 = .ok (.ifCond .lt 7, 3) := by decide +kernel
theorem d_Ans_holds_74 : decode b_Ans_holds 74 = .ok (.iconst 0, 1) := by decide +kernel
theorem d_Ans_holds_75 : decode b_Ans_holds 75 = .ok (.ireturn, 1) := by decide +kernel
theorem d_Ans_holds_70 : decode b_Ans_holds 70 = .ok (.iconst 1, 1) := by decide +kernel
theorem d_Ans_holds_71 : decode b_Ans_holds 71 = .ok (.goto 4, 3) := by decide +kernel
theorem d_Ans_holds_76 : decode b_Ans_holds 76 = .ok (.iload_n 1, 1) := by decide +kernel
theorem d_Ans_holds_77 : decode b_Ans_holds 77 = .ok (.ifCond .le 7, 3) := by decide +kernel
theorem d_Ans_holds_84 : decode b_Ans_holds 84 = .ok (.iconst 0, 1) := by decide +kernel
theorem d_Ans_holds_85 : decode b_Ans_holds 85 = .ok (.ireturn, 1) := by decide +kernel
theorem d_Ans_holds_80 : decode b_Ans_holds 80 = .ok (.iconst 1, 1) := by decide +kernel
theorem d_Ans_holds_81 : decode b_Ans_holds 81 = .ok (.goto 4, 3) := by decide +kernel
theorem d_Ans_holds_86 : decode b_Ans_holds 86 = .ok (.iload_n 1, 1) := by decide +kernel
theorem d_Ans_holds_87 : decode b_Ans_holds 87 = .ok (.ifCond .gt 7, 3) := by decide +kernel
theorem d_Ans_holds_94 : decode b_Ans_holds 94 = .ok (.iconst 0, 1) := by decide +kernel
theorem d_Ans_holds_95 : decode b_Ans_holds 95 = .ok (.ireturn, 1) := by decide +kernel
theorem d_Ans_holds_90 : decode b_Ans_holds 90 = .ok (.iconst 1, 1) := by decide +kernel
theorem d_Ans_holds_91 : decode b_Ans_holds 91 = .ok (.goto 4, 3) := by decide +kernel
theorem d_Ans_canBe_98 : decode b_Ans_canBe 98 = .ok (.iload 10, 2) := by decide +kernel
theorem d_Ans_canBe_100 : decode b_Ans_canBe 100 = .ok (.iload 9, 2) := by decide +kernel
theorem d_Ans_canBe_102 : decode b_Ans_canBe 102 = .ok (.iload 8, 2) := by decide +kernel
theorem d_Ans_canBe_104 : decode b_Ans_canBe 104 = .ok (.sipush 128, 3) := by decide +kernel
theorem d_Ans_canBe_107 : decode b_Ans_canBe 107 = .ok (.irem, 1) := by decide +kernel
theorem d_Ans_canBe_108 : decode b_Ans_canBe 108 = .ok (.iadd, 1) := by decide +kernel
theorem d_Ans_canBe_109 : decode b_Ans_canBe 109 = .ok (.if_icmp .ge 38, 3) := by decide +kernel
theorem d_Ans_canBe_147 : decode b_Ans_canBe 147 = .ok (.iconst 0, 1) := by decide +kernel
theorem d_Ans_canBe_148 : decode b_Ans_canBe 148 = .ok (.ireturn, 1) := by decide +kernel
theorem d_Ans_canBe_112 : decode b_Ans_canBe 112 = .ok (.iload_n 1, 1) := by decide +kernel
theorem d_Ans_canBe_113 : decode b_Ans_canBe 113 = .ok (.iload_n 2, 1) := by decide +kernel
theorem d_Ans_canBe_114 : decode b_Ans_canBe 114 = .ok (.aload 6, 2) := by decide +kernel
theorem d_Ans_canBe_116 : decode b_Ans_canBe 116 = .ok (.aload_n 0, 1) := by decide +kernel
theorem d_Ans_canBe_117 : decode b_Ans_canBe 117 = .ok (.getfield 53, 3) := by decide +kernel
theorem d_Ans_canBe_120 : decode b_Ans_canBe 120 = .ok (.getfield 279, 3) := by decide +kernel
theorem d_Ans_canBe_123 : decode b_Ans_canBe 123 = .ok (.iload 10, 2) := by decide +kernel
theorem d_Ans_canBe_125 : decode b_Ans_canBe 125 = .ok (.laload, 1) := by decide +kernel
theorem d_Ans_canBe_126 : decode b_Ans_canBe 126 = .ok (.aload 7, 2) := by decide +kernel
theorem d_Ans_canBe_128 : decode b_Ans_canBe 128 = .ok (.lload 4, 2) := by decide +kernel
theorem d_Ans_canBe_130 : decode b_Ans_canBe 130 = .ok (.invokestatic 200, 3) := by decide +kernel
theorem d_Ans_canBe_133 : decode b_Ans_canBe 133 = .ok (.invokestatic 187, 3) := by decide +kernel
theorem d_Ans_canBe_136 : decode b_Ans_canBe 136 = .ok (.ifCond .eq 5, 3) := by decide +kernel
theorem d_Ans_canBe_141 : decode b_Ans_canBe 141 = .ok (.iinc 10 1, 3) := by decide +kernel
theorem d_Ans_canBe_144 : decode b_Ans_canBe 144 = .ok (.goto (-46), 3) := by decide +kernel
theorem d_Ans_canBe_139 : decode b_Ans_canBe 139 = .ok (.iconst 1, 1) := by decide +kernel
theorem d_Ans_canBe_140 : decode b_Ans_canBe 140 = .ok (.ireturn, 1) := by decide +kernel
theorem d_Ans_canBe_0 : decode b_Ans_canBe 0 = .ok (.aload_n 0, 1) := by decide +kernel
theorem d_Ans_canBe_1 : decode b_Ans_canBe 1 = .ok (.getfield 53, 3) := by decide +kernel
theorem d_Ans_canBe_4 : decode b_Ans_canBe 4 = .ok (.getfield 144, 3) := by decide +kernel
theorem d_Ans_canBe_7 : decode b_Ans_canBe 7 = .ok (.astore 6, 2) := by decide +kernel
theorem d_Ans_canBe_9 : decode b_Ans_canBe 9 = .ok (.aload_n 0, 1) := by decide +kernel
theorem d_Ans_canBe_10 : decode b_Ans_canBe 10 = .ok (.getfield 57, 3) := by decide +kernel
theorem d_Ans_canBe_13 : decode b_Ans_canBe 13 = .ok (.getfield 197, 3) := by decide +kernel
theorem d_Ans_canBe_16 : decode b_Ans_canBe 16 = .ok (.astore 7, 2) := by decide +kernel
theorem d_Ans_canBe_18 : decode b_Ans_canBe 18 = .ok (.aload_n 0, 1) := by decide +kernel
theorem d_Ans_canBe_19 : decode b_Ans_canBe 19 = .ok (.getfield 53, 3) := by decide +kernel
theorem d_Ans_canBe_22 : decode b_Ans_canBe 22 = .ok (.getfield 276, 3) := by decide +kernel
theorem d_Ans_canBe_25 : decode b_Ans_canBe 25 = .ok (.iload_n 3, 1) := by decide +kernel
theorem d_Ans_canBe_26 : decode b_Ans_canBe 26 = .ok (.iaload, 1) := by decide +kernel
theorem d_Ans_canBe_27 : decode b_Ans_canBe 27 = .ok (.istore 8, 2) := by decide +kernel
theorem d_Ans_canBe_29 : decode b_Ans_canBe 29 = .ok (.iload 8, 2) := by decide +kernel
theorem d_Ans_canBe_31 : decode b_Ans_canBe 31 = .ok (.iconst (-1), 1) := by decide +kernel
theorem d_Ans_canBe_32 : decode b_Ans_canBe 32 = .ok (.if_icmp .ne 54, 3) := by decide +kernel
theorem d_Ans_canBe_86 : decode b_Ans_canBe 86 = .ok (.iload 8, 2) := by decide +kernel
theorem d_Ans_canBe_88 : decode b_Ans_canBe 88 = .ok (.sipush 128, 3) := by decide +kernel
theorem d_Ans_canBe_91 : decode b_Ans_canBe 91 = .ok (.idiv, 1) := by decide +kernel
theorem d_Ans_canBe_92 : decode b_Ans_canBe 92 = .ok (.istore 9, 2) := by decide +kernel
theorem d_Ans_canBe_94 : decode b_Ans_canBe 94 = .ok (.iload 9, 2) := by decide +kernel
theorem d_Ans_canBe_96 : decode b_Ans_canBe 96 = .ok (.istore 10, 2) := by decide +kernel
theorem d_Ans_canBe_35 : decode b_Ans_canBe 35 = .ok (.iload_n 2, 1) := by decide +kernel
theorem d_Ans_canBe_36 : decode b_Ans_canBe 36 = .ok (.aload 6, 2) := by decide +kernel
theorem d_Ans_canBe_38 : decode b_Ans_canBe 38 = .ok (.aload_n 0, 1) := by decide +kernel
theorem d_Ans_canBe_39 : decode b_Ans_canBe 39 = .ok (.getfield 53, 3) := by decide +kernel
theorem d_Ans_canBe_42 : decode b_Ans_canBe 42 = .ok (.getfield 267, 3) := by decide +kernel
theorem d_Ans_canBe_45 : decode b_Ans_canBe 45 = .ok (.iload_n 3, 1) := by decide +kernel
theorem d_Ans_canBe_46 : decode b_Ans_canBe 46 = .ok (.laload, 1) := by decide +kernel
theorem d_Ans_canBe_47 : decode b_Ans_canBe 47 = .ok (.aload 7, 2) := by decide +kernel
theorem d_Ans_canBe_49 : decode b_Ans_canBe 49 = .ok (.lload 4, 2) := by decide +kernel
theorem d_Ans_canBe_51 : decode b_Ans_canBe 51 = .ok (.invokestatic 200, 3) := by decide +kernel
theorem d_Ans_canBe_54 : decode b_Ans_canBe 54 = .ok (.istore 9, 2) := by decide +kernel
theorem d_Ans_canBe_56 : decode b_Ans_canBe 56 = .ok (.iload_n 2, 1) := by decide +kernel
theorem d_Ans_canBe_57 : decode b_Ans_canBe 57 = .ok (.aload 6, 2) := by decide +kernel
theorem d_Ans_canBe_59 : decode b_Ans_canBe 59 = .ok (.aload_n 0, 1) := by decide +kernel
theorem d_Ans_canBe_60 : decode b_Ans_canBe 60 = .ok (.getfield 53, 3) := by decide +kernel
theorem d_Ans_canBe_63 : decode b_Ans_canBe 63 = .ok (.getfield 270, 3) := by decide +kernel
theorem d_Ans_canBe_66 : decode b_Ans_canBe 66 = .ok (.iload_n 3, 1) := by decide +kernel
theorem d_Ans_canBe_67 : decode b_Ans_canBe 67 = .ok (.laload, 1) := by decide +kernel
theorem d_Ans_canBe_68 : decode b_Ans_canBe 68 = .ok (.aload 7, 2) := by decide +kernel
theorem d_Ans_canBe_70 : decode b_Ans_canBe 70 = .ok (.lload 4, 2) := by decide +kernel
theorem d_Ans_canBe_72 : decode b_Ans_canBe 72 = .ok (.invokestatic 200, 3) := by decide +kernel
theorem d_Ans_canBe_75 : decode b_Ans_canBe 75 = .ok (.istore 10, 2) := by decide +kernel
theorem d_Ans_canBe_77 : decode b_Ans_canBe 77 = .ok (.iload_n 1, 1) := by decide +kernel
theorem d_Ans_canBe_78 : decode b_Ans_canBe 78 = .ok (.iload 9, 2) := by decide +kernel
theorem d_Ans_canBe_80 : decode b_Ans_canBe 80 = .ok (.iload 10, 2) := by decide +kernel
theorem d_Ans_canBe_82 : decode b_Ans_canBe 82 = .ok (.invokestatic 273, 3) := by decide +kernel
theorem d_Ans_canBe_85 : decode b_Ans_canBe 85 = .ok (.ireturn, 1) := by decide +kernel
section
variable (l : Launch) (dC : Nat → ClassId) (dI : Nat → Nat → Nat) (cI cB cJ cZ : ClassId)
set_option maxRecDepth 100000 in
set_option maxHeartbeats 4000000 in
set_option maxRecDepth 100000 in
theorem t_Ans_keepValue_79 {p : Program} {l : Launch} {e : Env} {R : Room} {s : State} {m : MethodId} {args : Array Value} {below : List Frame} {meth : Method} {c : Code} {cells slots : Nat} {Q : State → Prop} {dC : Nat → ClassId} {dI : Nat → Nat → Nat} {cI cB cJ cZ : ClassId} {A : Nat → Prop} {ad : Nat → Nat} {NN : Nat} {E : Heap} {tM tC : Nat} {kK kV : Nat → Nat} {post : St → Prop} (hx : p.tables.exec = Jvm.exec) (hb : c.code = b_Ans_keepValue) (hml : c.maxLocals = 7) (hown : s.vm.findClass R_Ans = some m.cls) (hT : ∀ w ∈ TG, w.before args s = true) (hK : va_K (dC, dI) CL (TY cI cB cJ cZ) s) (hN : NW s) (hA : ∀ q : Nat, s.heap.size ≤ q → A q) (hRc : cells ≤ R.cells) (hRs : slots ≤ R.slots) (hRf : 1 ≤ R.frames) (hRl : 23 ≤ R.locals) (hNN : 152 ≤ NN) (hE : CE E tM tC kK kV A s) (hret : ∀ (x : St) (H : Heap) (locs : List Loc) (pc : Nat) (ls : Array Slot), decode b_Ans_keepValue pc = .ok (.return_, 1) → post x → Wd dC dI cI cB cJ cZ ad stC kcC NN A x H → va_S A s.heap H locs → W p l e R s m args below meth c H locs cells slots Q (F0 m pc ls []))  : ∀ (o : Nat) (l1 : Int32) (l2 : Int32) (l3 : Int32) (l4 : Int32) (l5 : Int32) (l6 : Int32) (s0 : Int32) (s1 : Int32) (s2 : Nat) (x : St) (H : Heap) (locs : List Loc) (ls : Array Slot), (o < NN ∧ kcC o = 10) → (s2 < NN ∧ kcC s2 = 21) → j_Ans_keepValue_79 post o l1 l2 l3 l4 l5 l6 s0 s1 s2 x → Wd dC dI cI cB cJ cZ ad stC kcC NN A x H → va_S A s.heap H locs → lv_has ls 7 [(0, .ref (ad o)), (1, .int l1), (2, .int l2), (3, .int l3), (4, .int l4), (5, .int l5), (6, .int l6)] → W p l e R s m args below meth c H locs cells slots Q (F0 m 79 ls [.int s0, .int s1, .ref (ad s2)]) := by
  intro o l1 l2 l3 l4 l5 l6 s0 s1 s2 x H locs ls fo fs2 hw hW hS hl
  unfold j_Ans_keepValue_79 at hw
  refine lv_i2b hx hb d_Ans_keepValue_79 rfl ?_
  obtain ⟨hi, hw⟩ := hw
  refine w_bast (o := s2) hx hb hK hW hS fs2.1 fs2.2 hi d_Ans_keepValue_80 (fun H locs hW hS => ?_)
  obtain ⟨x1, ex1⟩ : ∃ y : St, y = setA x s2 s1 (vp_nar .byte (s0 : Int32).toInt8.toInt32) := ⟨_, rfl⟩
  rw [← ex1] at hW
  have hw := hw x1 ex1
  refine lv_aload_n hx hb d_Ans_keepValue_81 rfl (lv_at hl 0 rfl) ?_
  refine w_getf (q := (stC o 9)) (k := 9) (t := 10) (C := R_Ans) (T := F_Ans) (N := 16) hx hb hT hown hK hW fo.1 fo.2 (by decide) in_Ans rfl rfl (by decide) rfl fr_Ans_9 w_3_170 d_Ans_keepValue_82 rfl ?_
  refine lv_iload_n hx hb d_Ans_keepValue_85 rfl (lv_at hl 1 rfl) ?_
  refine lv_aload_n hx hb d_Ans_keepValue_86 rfl (lv_at hl 0 rfl) ?_
  obtain ⟨q2, hq2, hw⟩ := hw
  refine w_getr (q := q2) (k := 14) (t := 10) (C := R_Ans) (T := F_Ans) (N := 16) hx hb hT hown hK hW fo.1 fo.2 (by decide) in_Ans rfl rfl (by decide) rfl fr_Ans_14 w_3_176 d_Ans_keepValue_87 hq2 (fun aq2 bq2 => ?_)
  have fq2 : q2 < NN ∧ kcC q2 = 6 := ⟨aq2, bq2⟩
  refine w_getf (q := (stC q2 9)) (k := 9) (t := 6) (C := R_Vlt) (T := F_Vlt) (N := 20) hx hb hT hown hK hW fq2.1 fq2.2 (by decide) in_Vlt rfl rfl (by decide) rfl fr_Vlt_9 w_2_152 d_Ans_keepValue_90 rfl ?_
  refine lv_iload hx hb d_Ans_keepValue_93 (lv_at hl 5 rfl) ?_
  obtain ⟨hi, hw⟩ := hw
  refine w_lald (o := (stC q2 9)) hx hb hK hW (st_ty hNN fq2.1 fq2.2 rfl).1 (st_ty hNN fq2.1 fq2.2 rfl).2 hi d_Ans_keepValue_95 ?_
  obtain ⟨hi, hw⟩ := hw
  refine w_last (o := (stC o 9)) hx hb hK hW hS (st_ty hNN fo.1 fo.2 rfl).1 (st_ty hNN fo.1 fo.2 rfl).2 hi d_Ans_keepValue_96 (fun H locs hW hS => ?_)
  obtain ⟨x3, ex3⟩ : ∃ y : St, y = setL x1 (stC o 9) l1 (rL x1 (stC q2 9) l5) := ⟨_, rfl⟩
  rw [← ex3] at hW
  have hw := hw x3 ex3
  exact hret x3 H locs 97 ls d_Ans_keepValue_97 hw hW hS
set_option maxRecDepth 100000 in
set_option maxHeartbeats 4000000 in
set_option maxRecDepth 100000 in
theorem t_Ans_keepValue_e {p : Program} {l : Launch} {e : Env} {R : Room} {s : State} {m : MethodId} {args : Array Value} {below : List Frame} {meth : Method} {c : Code} {cells slots : Nat} {Q : State → Prop} {dC : Nat → ClassId} {dI : Nat → Nat → Nat} {cI cB cJ cZ : ClassId} {A : Nat → Prop} {ad : Nat → Nat} {NN : Nat} {E : Heap} {tM tC : Nat} {kK kV : Nat → Nat} {post : St → Prop} (hx : p.tables.exec = Jvm.exec) (hb : c.code = b_Ans_keepValue) (hml : c.maxLocals = 7) (hown : s.vm.findClass R_Ans = some m.cls) (hT : ∀ w ∈ TG, w.before args s = true) (hK : va_K (dC, dI) CL (TY cI cB cJ cZ) s) (hN : NW s) (hA : ∀ q : Nat, s.heap.size ≤ q → A q) (hRc : cells ≤ R.cells) (hRs : slots ≤ R.slots) (hRf : 1 ≤ R.frames) (hRl : 23 ≤ R.locals) (hNN : 152 ≤ NN) (hE : CE E tM tC kK kV A s) (hret : ∀ (x : St) (H : Heap) (locs : List Loc) (pc : Nat) (ls : Array Slot), decode b_Ans_keepValue pc = .ok (.return_, 1) → post x → Wd dC dI cI cB cJ cZ ad stC kcC NN A x H → va_S A s.heap H locs → W p l e R s m args below meth c H locs cells slots Q (F0 m pc ls [])) : ∀ (o : Nat) (l1 : Int32) (l2 : Int32) (l3 : Int32) (x : St) (H : Heap) (locs : List Loc) (ls : Array Slot), (o < NN ∧ kcC o = 10) → wp_Ans_keepValue post o l1 l2 l3 x → Wd dC dI cI cB cJ cZ ad stC kcC NN A x H → va_S A s.heap H locs → lv_has ls 7 [(0, .ref (ad o)), (1, .int l1), (2, .int l2), (3, .int l3)] → W p l e R s m args below meth c H locs cells slots Q (F0 m 0 ls []) := by
  intro o l1 l2 l3 x H locs ls fo hw hW hS hl
  unfold wp_Ans_keepValue at hw
  refine lv_aload_n hx hb d_Ans_keepValue_0 rfl (lv_at hl 0 rfl) ?_
  obtain ⟨q4, hq4, hw⟩ := hw
  refine w_getr (q := q4) (k := 14) (t := 10) (C := R_Ans) (T := F_Ans) (N := 16) hx hb hT hown hK hW fo.1 fo.2 (by decide) in_Ans rfl rfl (by decide) rfl fr_Ans_14 w_3_176 d_Ans_keepValue_1 hq4 (fun aq4 bq4 => ?_)
  have fq4 : q4 < NN ∧ kcC q4 = 6 := ⟨aq4, bq4⟩
  refine w_getf (q := (stC q4 5)) (k := 5) (t := 6) (C := R_Vlt) (T := F_Vlt) (N := 20) hx hb hT hown hK hW fq4.1 fq4.2 (by decide) in_Vlt rfl rfl (by decide) rfl fr_Vlt_5 w_2_137 d_Ans_keepValue_4 rfl ?_
  refine w_getf (q := (stC (stC q4 5) 9)) (k := 9) (t := 3) (C := R_Sch) (T := F_Sch) (N := 13) hx hb hT hown hK hW (st_ty hNN fq4.1 fq4.2 rfl).1 (st_ty hNN fq4.1 fq4.2 rfl).2 (by decide) in_Sch rfl rfl (by decide) rfl fr_Sch_9 w_1_175 d_Ans_keepValue_7 rfl ?_
  refine lv_iload_n hx hb d_Ans_keepValue_10 rfl (lv_at hl 3 rfl) ?_
  obtain ⟨hi, hw⟩ := hw
  refine w_iald (o := (stC (stC q4 5) 9)) hx hb hK hW (st_ty hNN (st_ty hNN fq4.1 fq4.2 rfl).1 (st_ty hNN fq4.1 fq4.2 rfl).2 rfl).1 (st_ty hNN (st_ty hNN fq4.1 fq4.2 rfl).1 (st_ty hNN fq4.1 fq4.2 rfl).2 rfl).2 hi d_Ans_keepValue_11 ?_
  refine lv_topi (fun v5 ev5 => ?_)
  have hw := hw v5 ev5
  refine lv_istore (lv' := [(4, .int v5), (0, .ref (ad o)), (1, .int l1), (2, .int l2), (3, .int l3)]) hx hb d_Ans_keepValue_12 hl (by decide) rfl (fun ls hl => ?_)
  refine lv_aload_n hx hb d_Ans_keepValue_14 rfl (lv_at hl 1 rfl) ?_
  obtain ⟨q6, hq6, hw⟩ := hw
  refine w_getr (q := q6) (k := 14) (t := 10) (C := R_Ans) (T := F_Ans) (N := 16) hx hb hT hown hK hW fo.1 fo.2 (by decide) in_Ans rfl rfl (by decide) rfl fr_Ans_14 w_3_176 d_Ans_keepValue_15 hq6 (fun aq6 bq6 => ?_)
  have fq6 : q6 < NN ∧ kcC q6 = 6 := ⟨aq6, bq6⟩
  refine lv_iload_n hx hb d_Ans_keepValue_18 rfl (lv_at hl 3 rfl) ?_
  refine lv_iload hx hb d_Ans_keepValue_19 (lv_at hl 0 rfl) ?_
  have hF := hW.free hS hA
  refine va_calli (va_runV (C := R_Vlt) (As := [.int l2, .int v5]) (rest := []) ⟨hx, hb, hml, hown, hT⟩ (k_Vlt_entryOf l dC dI cI cB cJ cZ ad NN E tM tC kK kV hNN H.size q6 l2 v5 x fq6 hw) ⟨callB_of 2 hT (gwt_in w_7_85) rfl rfl rfl (hT _ w_1_9) (hT _ w_8_29) (by decide +kernel) ⟨Nat.le_trans (Nat.le_of_ble_eq_true rfl) hRf, Nat.le_trans (Nat.le_of_ble_eq_true rfl) hRl⟩, hT _ w_7_83, hT _ w_7_84⟩ ⟨PVc.blind, va_recv hK hW.1 (ci := 6) (q0 := q6) rfl (pic_obj fq6.1 fq6.2 (by decide)), PVc.at _ hW hK hN hE hS hF⟩ rfl rfl hl.1 rfl (lv_room (Nat.le_of_ble_eq_true rfl)) d_Ans_keepValue_21 ⟨hRc, hRs⟩) hS (fun q _ h => hF q h) hF (fun r8 x7 t H locs ht hvm hw hB hz1 hk1 hS => ?_)
  have hW := Wd.back hB ht hF
  clear hB ht hF hz1 hk1 hvm
  refine lv_istore (lv' := [(5, .int r8), (4, .int v5), (0, .ref (ad o)), (1, .int l1), (2, .int l2), (3, .int l3)]) hx hb d_Ans_keepValue_24 hl (by decide) rfl (fun ls hl => ?_)
  refine lv_aload_n hx hb d_Ans_keepValue_26 rfl (lv_at hl 2 rfl) ?_
  obtain ⟨q9, hq9, hw⟩ := hw
  refine w_getr (q := q9) (k := 14) (t := 10) (C := R_Ans) (T := F_Ans) (N := 16) hx hb hT hown hK hW fo.1 fo.2 (by decide) in_Ans rfl rfl (by decide) rfl fr_Ans_14 w_3_176 d_Ans_keepValue_27 hq9 (fun aq9 bq9 => ?_)
  have fq9 : q9 < NN ∧ kcC q9 = 6 := ⟨aq9, bq9⟩
  refine lv_iload hx hb d_Ans_keepValue_30 (lv_at hl 0 rfl) ?_
  refine lv_iload hx hb d_Ans_keepValue_32 (lv_at hl 1 rfl) ?_
  have hF := hW.free hS hA
  refine va_calli (va_runV (C := R_Vlt) (As := [.int r8, .int v5]) (rest := []) ⟨hx, hb, hml, hown, hT⟩ (k_Vlt_hasValue l dC dI cI cB cJ cZ ad NN E tM tC kK kV hNN H.size q9 r8 v5 x7 fq9 hw) ⟨callB_of 2 hT (gwt_in w_7_50) rfl rfl rfl (hT _ w_1_9) (hT _ w_8_30) (by decide +kernel) ⟨Nat.le_trans (Nat.le_of_ble_eq_true rfl) hRf, Nat.le_trans (Nat.le_of_ble_eq_true rfl) hRl⟩, hT _ w_7_48, hT _ w_7_49⟩ ⟨PVc.blind, va_recv hK hW.1 (ci := 6) (q0 := q9) rfl (pic_obj fq9.1 fq9.2 (by decide)), PVc.at _ hW hK hN hE hS hF⟩ rfl rfl hl.1 rfl (lv_room (Nat.le_of_ble_eq_true rfl)) d_Ans_keepValue_34 ⟨hRc, hRs⟩) hS (fun q _ h => hF q h) hF (fun r11 x10 t H locs ht hvm hw hB hz1 hk1 hS => ?_)
  have hW := Wd.back hB ht hF
  clear hB ht hF hz1 hk1 hvm
  refine lv_if_eq (tgt := 97) hx hb d_Ans_keepValue_37 (by decide) (fun c12 => ?_) (fun c12 => ?_)
  · have hw := hw.1 c12
    exact hret x10 H locs 97 ls d_Ans_keepValue_97 hw hW hS
  · have hw := hw.2 c12
    refine lv_aload_n hx hb d_Ans_keepValue_40 rfl (lv_at hl 2 rfl) ?_
    obtain ⟨q13, hq13, hw⟩ := hw
    refine w_getr (q := q13) (k := 14) (t := 10) (C := R_Ans) (T := F_Ans) (N := 16) hx hb hT hown hK hW fo.1 fo.2 (by decide) in_Ans rfl rfl (by decide) rfl fr_Ans_14 w_3_176 d_Ans_keepValue_41 hq13 (fun aq13 bq13 => ?_)
    have fq13 : q13 < NN ∧ kcC q13 = 6 := ⟨aq13, bq13⟩
    refine w_getf (q := (stC q13 5)) (k := 5) (t := 6) (C := R_Vlt) (T := F_Vlt) (N := 20) hx hb hT hown hK hW fq13.1 fq13.2 (by decide) in_Vlt rfl rfl (by decide) rfl fr_Vlt_5 w_2_137 d_Ans_keepValue_44 rfl ?_
    refine w_getf (q := (stC (stC q13 5) 3)) (k := 3) (t := 3) (C := R_Sch) (T := F_Sch) (N := 13) hx hb hT hown hK hW (st_ty hNN fq13.1 fq13.2 rfl).1 (st_ty hNN fq13.1 fq13.2 rfl).2 (by decide) in_Sch rfl rfl (by decide) rfl fr_Sch_3 w_1_150 d_Ans_keepValue_47 rfl ?_
    refine lv_iload_n hx hb d_Ans_keepValue_50 rfl (lv_at hl 5 rfl) ?_
    obtain ⟨hi, hw⟩ := hw
    refine w_iald (o := (stC (stC q13 5) 3)) hx hb hK hW (st_ty hNN (st_ty hNN fq13.1 fq13.2 rfl).1 (st_ty hNN fq13.1 fq13.2 rfl).2 rfl).1 (st_ty hNN (st_ty hNN fq13.1 fq13.2 rfl).1 (st_ty hNN fq13.1 fq13.2 rfl).2 rfl).2 hi d_Ans_keepValue_51 ?_
    refine lv_topi (fun v14 ev14 => ?_)
    have hw := hw v14 ev14
    refine lv_istore (lv' := [(6, .int v14), (5, .int r8), (4, .int v5), (0, .ref (ad o)), (1, .int l1), (2, .int l2), (3, .int l3)]) hx hb d_Ans_keepValue_52 hl (by decide) rfl (fun ls hl => ?_)
    refine lv_aload_n hx hb d_Ans_keepValue_54 rfl (lv_at hl 3 rfl) ?_
    refine w_getf (q := (stC o 8)) (k := 8) (t := 10) (C := R_Ans) (T := F_Ans) (N := 16) hx hb hT hown hK hW fo.1 fo.2 (by decide) in_Ans rfl rfl (by decide) rfl fr_Ans_8 w_3_168 d_Ans_keepValue_55 rfl ?_
    refine lv_iload_n hx hb d_Ans_keepValue_58 rfl (lv_at hl 4 rfl) ?_
    refine lv_iload hx hb d_Ans_keepValue_59 (lv_at hl 0 rfl) ?_
    refine lv_if_ne (tgt := 68) hx hb d_Ans_keepValue_61 (by decide) (fun c15 => ?_) (fun c15 => ?_)
    · have hw := hw.1 c15
      refine lv_iload hx hb d_Ans_keepValue_68 (lv_at hl 0 rfl) ?_
      refine lv_iconst (v := 3) hx hb d_Ans_keepValue_70 (by decide) ?_
      refine lv_icmp_ne (tgt := 78) hx hb d_Ans_keepValue_71 (by decide) (fun c16 => ?_) (fun c16 => ?_)
      · have hw := hw.1 c16
        refine lv_iconst (v := 2) hx hb d_Ans_keepValue_78 (by decide) ?_
        exact t_Ans_keepValue_79 hx hb hml hown hT hK hN hA hRc hRs hRf hRl hNN hE hret  o l1 l2 l3 v5 r8 v14 2 l1 (stC o 8) x10 H locs ls fo (st_ty hNN fo.1 fo.2 rfl) hw hW hS (lv_sub hl [3, 4, 5, 6, 2, 1, 0] rfl)
      · have hw := hw.2 c16
        refine lv_iconst (v := 3) hx hb d_Ans_keepValue_74 (by decide) ?_
        refine lv_goto (tgt := 79) hx hb d_Ans_keepValue_75 (by decide) ?_
        exact t_Ans_keepValue_79 hx hb hml hown hT hK hN hA hRc hRs hRf hRl hNN hE hret  o l1 l2 l3 v5 r8 v14 3 l1 (stC o 8) x10 H locs ls fo (st_ty hNN fo.1 fo.2 rfl) hw hW hS (lv_sub hl [3, 4, 5, 6, 2, 1, 0] rfl)
    · have hw := hw.2 c15
      refine lv_iconst (v := 1) hx hb d_Ans_keepValue_64 (by decide) ?_
      refine lv_goto (tgt := 79) hx hb d_Ans_keepValue_65 (by decide) ?_
      exact t_Ans_keepValue_79 hx hb hml hown hT hK hN hA hRc hRs hRf hRl hNN hE hret  o l1 l2 l3 v5 r8 v14 1 l1 (stC o 8) x10 H locs ls fo (st_ty hNN fo.1 fo.2 rfl) hw hW hS (lv_sub hl [3, 4, 5, 6, 2, 1, 0] rfl)
set_option maxHeartbeats 4000000 in
set_option maxRecDepth 100000 in
theorem k_Ans_keepValue (l : Launch) (dC : Nat → ClassId) (dI : Nat → Nat → Nat) (cI cB cJ cZ : ClassId) (ad : Nat → Nat) (NN : Nat) (E : Heap) (tM tC : Nat) (kK kV : Nat → Nat) (hNN : 152 ≤ NN) (sz : Nat) (o : Nat) (l1 : Int32) (l2 : Int32) (l3 : Int32) (x : St) (fo : o < NN ∧ kcC o = 10) {post : St → Prop} (hw : wp_Ans_keepValue post o l1 l2 l3 x) : Met l y_Ans_keepValue (wsOf y_Ans_keepValue b_Ans_keepValue 7 (none)) ({ frames := 1, cells := 0, slots := 0, locals := 23 }) (va_Pc [.ref (ad o), .int l1, .int l2, .int l3] (PVc dC dI cI cB cJ cZ ad stC kcC NN E tM tC kK kV sz x)) (va_Qv (fun (y : St) => post y) (fun y t => Wd dC dI cI cB cJ cZ ad stC kcC NN (va_A (pic ad stC kcC NN cI cB cJ cZ x) sz) y t.heap) (va_A (pic ad stC kcC NN cI cB cJ cZ x) sz)) 0 0 (va_A (pic ad stC kcC NN cI cB cJ cZ x) sz) := by
  refine Met.ofW (cc := b_Ans_keepValue) (maxL := 7) (ret := none) (by decide) rfl ?_
  intro p e s m args below meth c s₁ B hml hv
  obtain ⟨rfl, ⟨hsz, hW0, hK, hN⟩, hE⟩ := hv
  have hx := B.exec
  have hb := B.bytes
  have hr := B.returns
  have hts := atoms_spec B.pre
  have hT : ∀ w ∈ TG, w.before _ s = true := fun w h => hts w (List.mem_cons_of_mem _ h)
  have hown : s.vm.findClass R_Ans = some m.cls := findClass_of_methodNamed B.named
  have hlocks := B.notSynchronized
  subst hsz
  have hW : Wd dC dI cI cB cJ cZ ad stC kcC NN (va_A (pic ad stC kcC NN cI cB cJ cZ x) s.heap.size) x s.heap := ⟨hW0.1, hW0.2.1.self (sz := s.heap.size), hW0.2.2⟩
  generalize hAe : va_A (pic ad stC kcC NN cI cB cJ cZ x) s.heap.size = A at hW hE ⊢
  have hA : ∀ q : Nat, s.heap.size ≤ q → A q := fun q h => by rw [← hAe]; exact Or.inr h
  have hS : va_S A s.heap s.heap [] := va_S.rf
  have hl := lv_entry ([.ref (ad o), .int l1, .int l2, .int l3]) (n := 7) (Nat.le_of_ble_eq_true rfl)
  rw [lg_entry_eq]
  generalize (lg_sl ([.ref (ad o), .int l1, .int l2, .int l3]) ++ List.replicate (7 - (lg_sl ([.ref (ad o), .int l1, .int l2, .int l3])).length) Slot.unset).toArray = ls at hl ⊢
  have hl : lv_has ls 7 [(0, .ref (ad o)), (1, .int l1), (2, .int l2), (3, .int l3)] := hl
  exact t_Ans_keepValue_e hx hb hml hown hT hK hN hA (Nat.le_refl 0) (Nat.le_refl 0) (Nat.le_refl 1) (Nat.le_refl 23) hNN hE (fun x H locs pc ls hd hp hW hS => W.vret hx hb hr (fun t ht hM => ⟨⟨x, rfl, hp, Wd.back hW ht.symm (fun _ z => z)⟩, hS.F ht⟩) hS.2.2 hd hlocks)  o l1 l2 l3 x _ _ ls fo hw hW hS hl
set_option maxRecDepth 100000 in
set_option maxHeartbeats 4000000 in
set_option maxRecDepth 100000 in
theorem t_Ans_addGroup_123 {p : Program} {l : Launch} {e : Env} {R : Room} {s : State} {m : MethodId} {args : Array Value} {below : List Frame} {meth : Method} {c : Code} {cells slots : Nat} {Q : State → Prop} {dC : Nat → ClassId} {dI : Nat → Nat → Nat} {cI cB cJ cZ : ClassId} {A : Nat → Prop} {ad : Nat → Nat} {NN : Nat} {E : Heap} {tM tC : Nat} {kK kV : Nat → Nat} {post : St → Prop} {rec30 : Nat → Int32 → Int32 → Int32 → St → Prop} (hx : p.tables.exec = Jvm.exec) (hb : c.code = b_Ans_addGroup) (hml : c.maxLocals = 6) (hown : s.vm.findClass R_Ans = some m.cls) (hT : ∀ w ∈ TG, w.before args s = true) (hK : va_K (dC, dI) CL (TY cI cB cJ cZ) s) (hN : NW s) (hA : ∀ q : Nat, s.heap.size ≤ q → A q) (hRc : cells ≤ R.cells) (hRs : slots ≤ R.slots) (hRf : 2 ≤ R.frames) (hRl : 49 ≤ R.locals) (hNN : 152 ≤ NN) (hE : CE E tM tC kK kV A s) (hret : ∀ (x : St) (H : Heap) (locs : List Loc) (pc : Nat) (ls : Array Slot), decode b_Ans_addGroup pc = .ok (.return_, 1) → post x → Wd dC dI cI cB cJ cZ ad stC kcC NN A x H → va_S A s.heap H locs → W p l e R s m args below meth c H locs cells slots Q (F0 m pc ls [])) (hrec30 : ∀ (o : Nat) (l1 : Int32) (l2 : Int32) (l3 : Int32) (x : St) (H : Heap) (locs : List Loc) (ls : Array Slot), (o < NN ∧ kcC o = 10) → rec30 o l1 l2 l3 x → Wd dC dI cI cB cJ cZ ad stC kcC NN A x H → va_S A s.heap H locs → lv_has ls 6 [(0, .ref (ad o)), (1, .int l1), (2, .int l2), (3, .int l3)] → W p l e R s m args below meth c H locs cells slots Q (F0 m 30 ls [])) : ∀ (o : Nat) (l1 : Int32) (l2 : Int32) (l3 : Int32) (l4 : Int32) (l5 : Int32) (x : St) (H : Heap) (locs : List Loc) (ls : Array Slot), (o < NN ∧ kcC o = 10) → j_Ans_addGroup_123 post rec30 o l1 l2 l3 l4 l5 x → Wd dC dI cI cB cJ cZ ad stC kcC NN A x H → va_S A s.heap H locs → lv_has ls 6 [(0, .ref (ad o)), (1, .int l1), (2, .int l2), (3, .int l3), (4, .int l4), (5, .int l5)] → W p l e R s m args below meth c H locs cells slots Q (F0 m 123 ls []) := by
  intro o l1 l2 l3 l4 l5 x H locs ls fo hw hW hS hl
  unfold j_Ans_addGroup_123 at hw
  refine lv_iinc (v := (l3 + 1)) (lv' := [(3, .int (l3 + 1)), (0, .ref (ad o)), (1, .int l1), (2, .int l2), (4, .int l4), (5, .int l5)]) hx hb d_Ans_addGroup_123 hl (k := 3) rfl rfl (by decide) rfl (fun ls hl => ?_)
  refine lv_goto (tgt := 30) hx hb d_Ans_addGroup_126 (by decide) ?_
  exact hrec30 o l1 l2 (l3 + 1) x H locs ls fo hw hW hS (lv_sub hl [1, 2, 3, 0] rfl)
set_option maxRecDepth 100000 in
set_option maxHeartbeats 4000000 in
set_option maxRecDepth 100000 in
theorem t_Ans_addGroup_85 {p : Program} {l : Launch} {e : Env} {R : Room} {s : State} {m : MethodId} {args : Array Value} {below : List Frame} {meth : Method} {c : Code} {cells slots : Nat} {Q : State → Prop} {dC : Nat → ClassId} {dI : Nat → Nat → Nat} {cI cB cJ cZ : ClassId} {A : Nat → Prop} {ad : Nat → Nat} {NN : Nat} {E : Heap} {tM tC : Nat} {kK kV : Nat → Nat} {post : St → Prop} {rec30 : Nat → Int32 → Int32 → Int32 → St → Prop} (hx : p.tables.exec = Jvm.exec) (hb : c.code = b_Ans_addGroup) (hml : c.maxLocals = 6) (hown : s.vm.findClass R_Ans = some m.cls) (hT : ∀ w ∈ TG, w.before args s = true) (hK : va_K (dC, dI) CL (TY cI cB cJ cZ) s) (hN : NW s) (hA : ∀ q : Nat, s.heap.size ≤ q → A q) (hRc : cells ≤ R.cells) (hRs : slots ≤ R.slots) (hRf : 2 ≤ R.frames) (hRl : 49 ≤ R.locals) (hNN : 152 ≤ NN) (hE : CE E tM tC kK kV A s) (hret : ∀ (x : St) (H : Heap) (locs : List Loc) (pc : Nat) (ls : Array Slot), decode b_Ans_addGroup pc = .ok (.return_, 1) → post x → Wd dC dI cI cB cJ cZ ad stC kcC NN A x H → va_S A s.heap H locs → W p l e R s m args below meth c H locs cells slots Q (F0 m pc ls [])) (hrec30 : ∀ (o : Nat) (l1 : Int32) (l2 : Int32) (l3 : Int32) (x : St) (H : Heap) (locs : List Loc) (ls : Array Slot), (o < NN ∧ kcC o = 10) → rec30 o l1 l2 l3 x → Wd dC dI cI cB cJ cZ ad stC kcC NN A x H → va_S A s.heap H locs → lv_has ls 6 [(0, .ref (ad o)), (1, .int l1), (2, .int l2), (3, .int l3)] → W p l e R s m args below meth c H locs cells slots Q (F0 m 30 ls [])) : ∀ (o : Nat) (l1 : Int32) (l2 : Int32) (l3 : Int32) (l4 : Int32) (l5 : Int32) (s0 : Int32) (s1 : Int32) (s2 : Nat) (x : St) (H : Heap) (locs : List Loc) (ls : Array Slot), (o < NN ∧ kcC o = 10) → (s2 < NN ∧ kcC s2 = 21) → j_Ans_addGroup_85 post rec30 o l1 l2 l3 l4 l5 s0 s1 s2 x → Wd dC dI cI cB cJ cZ ad stC kcC NN A x H → va_S A s.heap H locs → lv_has ls 6 [(0, .ref (ad o)), (1, .int l1), (2, .int l2), (3, .int l3), (4, .int l4), (5, .int l5)] → W p l e R s m args below meth c H locs cells slots Q (F0 m 85 ls [.int s0, .int s1, .ref (ad s2)]) := by
  intro o l1 l2 l3 l4 l5 s0 s1 s2 x H locs ls fo fs2 hw hW hS hl
  unfold j_Ans_addGroup_85 at hw
  refine lv_i2b hx hb d_Ans_addGroup_85 rfl ?_
  obtain ⟨hi, hw⟩ := hw
  refine w_bast (o := s2) hx hb hK hW hS fs2.1 fs2.2 hi d_Ans_addGroup_86 (fun H locs hW hS => ?_)
  obtain ⟨x1, ex1⟩ : ∃ y : St, y = setA x s2 s1 (vp_nar .byte (s0 : Int32).toInt8.toInt32) := ⟨_, rfl⟩
  rw [← ex1] at hW
  have hw := hw x1 ex1
  refine lv_aload_n hx hb d_Ans_addGroup_87 rfl (lv_at hl 0 rfl) ?_
  refine w_getf (q := (stC o 9)) (k := 9) (t := 10) (C := R_Ans) (T := F_Ans) (N := 16) hx hb hT hown hK hW fo.1 fo.2 (by decide) in_Ans rfl rfl (by decide) rfl fr_Ans_9 w_3_170 d_Ans_addGroup_88 rfl ?_
  refine lv_iload_n hx hb d_Ans_addGroup_91 rfl (lv_at hl 2 rfl) ?_
  refine lv_iload_n hx hb d_Ans_addGroup_92 rfl (lv_at hl 3 rfl) ?_
  refine lv_iadd hx hb d_Ans_addGroup_93 ?_
  refine lv_lconst (v := 0) hx hb d_Ans_addGroup_94 (by decide) ?_
  obtain ⟨hi, hw⟩ := hw
  refine w_last (o := (stC o 9)) hx hb hK hW hS (st_ty hNN fo.1 fo.2 rfl).1 (st_ty hNN fo.1 fo.2 rfl).2 hi d_Ans_addGroup_95 (fun H locs hW hS => ?_)
  obtain ⟨x2, ex2⟩ : ∃ y : St, y = setL x1 (stC o 9) (l2 + l3) 0 := ⟨_, rfl⟩
  rw [← ex2] at hW
  have hw := hw x2 ex2
  refine lv_iload hx hb d_Ans_addGroup_96 (lv_at hl 4 rfl) ?_
  refine lv_if_ne (tgt := 123) hx hb d_Ans_addGroup_98 (by decide) (fun c3 => ?_) (fun c3 => ?_)
  · have hw := hw.1 c3
    exact t_Ans_addGroup_123 hx hb hml hown hT hK hN hA hRc hRs hRf hRl hNN hE hret hrec30 o l1 l2 l3 l4 l5 x2 H locs ls fo hw hW hS (lv_sub hl [0, 1, 2, 3, 4, 5] rfl)
  · have hw := hw.2 c3
    refine lv_iload_n hx hb d_Ans_addGroup_101 rfl (lv_at hl 1 rfl) ?_
    refine lv_iconst (v := (-1)) hx hb d_Ans_addGroup_102 (by decide) ?_
    refine lv_icmp_eq (tgt := 123) hx hb d_Ans_addGroup_103 (by decide) (fun c4 => ?_) (fun c4 => ?_)
    · have hw := hw.1 c4
      exact t_Ans_addGroup_123 hx hb hml hown hT hK hN hA hRc hRs hRf hRl hNN hE hret hrec30 o l1 l2 l3 l4 l5 x2 H locs ls fo hw hW hS (lv_sub hl [0, 1, 2, 3, 4, 5] rfl)
    · have hw := hw.2 c4
      refine lv_aload_n hx hb d_Ans_addGroup_106 rfl (lv_at hl 0 rfl) ?_
      refine lv_iload_n hx hb d_Ans_addGroup_107 rfl (lv_at hl 2 rfl) ?_
      refine lv_iload_n hx hb d_Ans_addGroup_108 rfl (lv_at hl 3 rfl) ?_
      refine lv_iadd hx hb d_Ans_addGroup_109 ?_
      refine lv_iload_n hx hb d_Ans_addGroup_110 rfl (lv_at hl 1 rfl) ?_
      refine lv_aload_n hx hb d_Ans_addGroup_111 rfl (lv_at hl 0 rfl) ?_
      obtain ⟨q5, hq5, hw⟩ := hw
      refine w_getr (q := q5) (k := 15) (t := 10) (C := R_Ans) (T := F_Ans) (N := 16) hx hb hT hown hK hW fo.1 fo.2 (by decide) in_Ans rfl rfl (by decide) rfl fr_Ans_15 w_3_177 d_Ans_addGroup_112 hq5 (fun aq5 bq5 => ?_)
      have fq5 : q5 < NN ∧ kcC q5 = 9 := ⟨aq5, bq5⟩
      refine w_getf (q := (stC q5 3)) (k := 3) (t := 9) (C := R_Qry) (T := F_Qry) (N := 20) hx hb hT hown hK hW fq5.1 fq5.2 (by decide) in_Qry rfl rfl (by decide) rfl fr_Qry_3 w_3_81 d_Ans_addGroup_115 rfl ?_
      refine lv_iload_n hx hb d_Ans_addGroup_118 rfl (lv_at hl 3 rfl) ?_
      obtain ⟨hi, hw⟩ := hw
      refine w_iald (o := (stC q5 3)) hx hb hK hW (st_ty hNN fq5.1 fq5.2 rfl).1 (st_ty hNN fq5.1 fq5.2 rfl).2 hi d_Ans_addGroup_119 ?_
      have hF := hW.free hS hA
      refine va_callv (va_runV (C := R_Ans) (As := [.int (l2 + l3), .int l1, .int (rA x2 (stC q5 3) l3)]) (rest := []) ⟨hx, hb, hml, hown, hT⟩ (k_Ans_keepValue l dC dI cI cB cJ cZ ad NN E tM tC kK kV hNN H.size o (l2 + l3) l1 (rA x2 (stC q5 3) l3) x2 fo hw) ⟨callB_of 3 hT (gwt_in w_8_28) rfl rfl rfl (hT _ w_1_13) (hT _ w_8_25) (by decide +kernel) ⟨Nat.le_trans (Nat.le_of_ble_eq_true rfl) hRf, Nat.le_trans (Nat.le_of_ble_eq_true rfl) hRl⟩, hT _ w_8_27, hT _ ws_87⟩ ⟨PVc.blind, va_recv hK hW.1 (ci := 10) (q0 := o) rfl (pic_obj fo.1 fo.2 (by decide)), PVc.at _ hW hK hN hE hS hF⟩ rfl rfl hl.1 rfl (lv_room (Nat.le_of_ble_eq_true rfl)) d_Ans_addGroup_120 ⟨hRc, hRs⟩) hS (fun q _ h => hF q h) hF (fun  x6 t H locs ht hvm hw hB hz1 hk1 hS => ?_)
      have hW := Wd.back hB ht hF
      clear hB ht hF hz1 hk1 hvm
      exact t_Ans_addGroup_123 hx hb hml hown hT hK hN hA hRc hRs hRf hRl hNN hE hret hrec30 o l1 l2 l3 l4 l5 x6 H locs ls fo hw hW hS (lv_sub hl [0, 1, 2, 3, 4, 5] rfl)
set_option maxRecDepth 100000 in
set_option maxHeartbeats 4000000 in
set_option maxRecDepth 100000 in
theorem t_Ans_addGroup_66 {p : Program} {l : Launch} {e : Env} {R : Room} {s : State} {m : MethodId} {args : Array Value} {below : List Frame} {meth : Method} {c : Code} {cells slots : Nat} {Q : State → Prop} {dC : Nat → ClassId} {dI : Nat → Nat → Nat} {cI cB cJ cZ : ClassId} {A : Nat → Prop} {ad : Nat → Nat} {NN : Nat} {E : Heap} {tM tC : Nat} {kK kV : Nat → Nat} {post : St → Prop} {rec30 : Nat → Int32 → Int32 → Int32 → St → Prop} (hx : p.tables.exec = Jvm.exec) (hb : c.code = b_Ans_addGroup) (hml : c.maxLocals = 6) (hown : s.vm.findClass R_Ans = some m.cls) (hT : ∀ w ∈ TG, w.before args s = true) (hK : va_K (dC, dI) CL (TY cI cB cJ cZ) s) (hN : NW s) (hA : ∀ q : Nat, s.heap.size ≤ q → A q) (hRc : cells ≤ R.cells) (hRs : slots ≤ R.slots) (hRf : 2 ≤ R.frames) (hRl : 49 ≤ R.locals) (hNN : 152 ≤ NN) (hE : CE E tM tC kK kV A s) (hret : ∀ (x : St) (H : Heap) (locs : List Loc) (pc : Nat) (ls : Array Slot), decode b_Ans_addGroup pc = .ok (.return_, 1) → post x → Wd dC dI cI cB cJ cZ ad stC kcC NN A x H → va_S A s.heap H locs → W p l e R s m args below meth c H locs cells slots Q (F0 m pc ls [])) (hrec30 : ∀ (o : Nat) (l1 : Int32) (l2 : Int32) (l3 : Int32) (x : St) (H : Heap) (locs : List Loc) (ls : Array Slot), (o < NN ∧ kcC o = 10) → rec30 o l1 l2 l3 x → Wd dC dI cI cB cJ cZ ad stC kcC NN A x H → va_S A s.heap H locs → lv_has ls 6 [(0, .ref (ad o)), (1, .int l1), (2, .int l2), (3, .int l3)] → W p l e R s m args below meth c H locs cells slots Q (F0 m 30 ls [])) : ∀ (o : Nat) (l1 : Int32) (l2 : Int32) (l3 : Int32) (l4 : Int32) (s0 : Int32) (x : St) (H : Heap) (locs : List Loc) (ls : Array Slot), (o < NN ∧ kcC o = 10) → j_Ans_addGroup_66 post rec30 o l1 l2 l3 l4 s0 x → Wd dC dI cI cB cJ cZ ad stC kcC NN A x H → va_S A s.heap H locs → lv_has ls 6 [(0, .ref (ad o)), (1, .int l1), (2, .int l2), (3, .int l3), (4, .int l4)] → W p l e R s m args below meth c H locs cells slots Q (F0 m 66 ls [.int s0]) := by
  intro o l1 l2 l3 l4 s0 x H locs ls fo hw hW hS hl
  unfold j_Ans_addGroup_66 at hw
  refine lv_istore (lv' := [(5, .int s0), (0, .ref (ad o)), (1, .int l1), (2, .int l2), (3, .int l3), (4, .int l4)]) hx hb d_Ans_addGroup_66 hl (by decide) rfl (fun ls hl => ?_)
  refine lv_aload_n hx hb d_Ans_addGroup_68 rfl (lv_at hl 1 rfl) ?_
  refine w_getf (q := (stC o 8)) (k := 8) (t := 10) (C := R_Ans) (T := F_Ans) (N := 16) hx hb hT hown hK hW fo.1 fo.2 (by decide) in_Ans rfl rfl (by decide) rfl fr_Ans_8 w_3_168 d_Ans_addGroup_69 rfl ?_
  refine lv_iload_n hx hb d_Ans_addGroup_72 rfl (lv_at hl 3 rfl) ?_
  refine lv_iload_n hx hb d_Ans_addGroup_73 rfl (lv_at hl 4 rfl) ?_
  refine lv_iadd hx hb d_Ans_addGroup_74 ?_
  refine lv_iload hx hb d_Ans_addGroup_75 (lv_at hl 0 rfl) ?_
  refine lv_if_eq (tgt := 84) hx hb d_Ans_addGroup_77 (by decide) (fun c7 => ?_) (fun c7 => ?_)
  · have hw := hw.1 c7
    refine lv_iconst (v := 0) hx hb d_Ans_addGroup_84 (by decide) ?_
    exact t_Ans_addGroup_85 hx hb hml hown hT hK hN hA hRc hRs hRf hRl hNN hE hret hrec30 o l1 l2 l3 l4 s0 0 (l2 + l3) (stC o 8) x H locs ls fo (st_ty hNN fo.1 fo.2 rfl) hw hW hS (lv_sub hl [1, 2, 3, 4, 5, 0] rfl)
  · have hw := hw.2 c7
    refine lv_iconst (v := 2) hx hb d_Ans_addGroup_80 (by decide) ?_
    refine lv_goto (tgt := 85) hx hb d_Ans_addGroup_81 (by decide) ?_
    exact t_Ans_addGroup_85 hx hb hml hown hT hK hN hA hRc hRs hRf hRl hNN hE hret hrec30 o l1 l2 l3 l4 s0 2 (l2 + l3) (stC o 8) x H locs ls fo (st_ty hNN fo.1 fo.2 rfl) hw hW hS (lv_sub hl [1, 2, 3, 4, 5, 0] rfl)
set_option maxRecDepth 100000 in
set_option maxHeartbeats 4000000 in
set_option maxRecDepth 100000 in
theorem t_Ans_addGroup_61 {p : Program} {l : Launch} {e : Env} {R : Room} {s : State} {m : MethodId} {args : Array Value} {below : List Frame} {meth : Method} {c : Code} {cells slots : Nat} {Q : State → Prop} {dC : Nat → ClassId} {dI : Nat → Nat → Nat} {cI cB cJ cZ : ClassId} {A : Nat → Prop} {ad : Nat → Nat} {NN : Nat} {E : Heap} {tM tC : Nat} {kK kV : Nat → Nat} {post : St → Prop} {rec30 : Nat → Int32 → Int32 → Int32 → St → Prop} (hx : p.tables.exec = Jvm.exec) (hb : c.code = b_Ans_addGroup) (hml : c.maxLocals = 6) (hown : s.vm.findClass R_Ans = some m.cls) (hT : ∀ w ∈ TG, w.before args s = true) (hK : va_K (dC, dI) CL (TY cI cB cJ cZ) s) (hN : NW s) (hA : ∀ q : Nat, s.heap.size ≤ q → A q) (hRc : cells ≤ R.cells) (hRs : slots ≤ R.slots) (hRf : 2 ≤ R.frames) (hRl : 49 ≤ R.locals) (hNN : 152 ≤ NN) (hE : CE E tM tC kK kV A s) (hret : ∀ (x : St) (H : Heap) (locs : List Loc) (pc : Nat) (ls : Array Slot), decode b_Ans_addGroup pc = .ok (.return_, 1) → post x → Wd dC dI cI cB cJ cZ ad stC kcC NN A x H → va_S A s.heap H locs → W p l e R s m args below meth c H locs cells slots Q (F0 m pc ls [])) (hrec30 : ∀ (o : Nat) (l1 : Int32) (l2 : Int32) (l3 : Int32) (x : St) (H : Heap) (locs : List Loc) (ls : Array Slot), (o < NN ∧ kcC o = 10) → rec30 o l1 l2 l3 x → Wd dC dI cI cB cJ cZ ad stC kcC NN A x H → va_S A s.heap H locs → lv_has ls 6 [(0, .ref (ad o)), (1, .int l1), (2, .int l2), (3, .int l3)] → W p l e R s m args below meth c H locs cells slots Q (F0 m 30 ls [])) : ∀ (o : Nat) (l1 : Int32) (l2 : Int32) (l3 : Int32) (l4 : Int32) (x : St) (H : Heap) (locs : List Loc) (ls : Array Slot), (o < NN ∧ kcC o = 10) → j_Ans_addGroup_61 post rec30 o l1 l2 l3 l4 x → Wd dC dI cI cB cJ cZ ad stC kcC NN A x H → va_S A s.heap H locs → lv_has ls 6 [(0, .ref (ad o)), (1, .int l1), (2, .int l2), (3, .int l3), (4, .int l4)] → W p l e R s m args below meth c H locs cells slots Q (F0 m 61 ls []) := by
  intro o l1 l2 l3 l4 x H locs ls fo hw hW hS hl
  unfold j_Ans_addGroup_61 at hw
  refine lv_iconst (v := 1) hx hb d_Ans_addGroup_61 (by decide) ?_
  refine lv_goto (tgt := 66) hx hb d_Ans_addGroup_62 (by decide) ?_
  exact t_Ans_addGroup_66 hx hb hml hown hT hK hN hA hRc hRs hRf hRl hNN hE hret hrec30 o l1 l2 l3 l4 1 x H locs ls fo hw hW hS (lv_sub hl [0, 1, 2, 3, 4] rfl)
set_option maxRecDepth 100000 in
set_option maxHeartbeats 4000000 in
set_option maxRecDepth 100000 in
theorem t_Ans_addGroup_30 {p : Program} {l : Launch} {e : Env} {R : Room} {s : State} {m : MethodId} {args : Array Value} {below : List Frame} {meth : Method} {c : Code} {cells slots : Nat} {Q : State → Prop} {dC : Nat → ClassId} {dI : Nat → Nat → Nat} {cI cB cJ cZ : ClassId} {A : Nat → Prop} {ad : Nat → Nat} {NN : Nat} {E : Heap} {tM tC : Nat} {kK kV : Nat → Nat} {post : St → Prop} {rec30 : Nat → Int32 → Int32 → Int32 → St → Prop} (hx : p.tables.exec = Jvm.exec) (hb : c.code = b_Ans_addGroup) (hml : c.maxLocals = 6) (hown : s.vm.findClass R_Ans = some m.cls) (hT : ∀ w ∈ TG, w.before args s = true) (hK : va_K (dC, dI) CL (TY cI cB cJ cZ) s) (hN : NW s) (hA : ∀ q : Nat, s.heap.size ≤ q → A q) (hRc : cells ≤ R.cells) (hRs : slots ≤ R.slots) (hRf : 2 ≤ R.frames) (hRl : 49 ≤ R.locals) (hNN : 152 ≤ NN) (hE : CE E tM tC kK kV A s) (hret : ∀ (x : St) (H : Heap) (locs : List Loc) (pc : Nat) (ls : Array Slot), decode b_Ans_addGroup pc = .ok (.return_, 1) → post x → Wd dC dI cI cB cJ cZ ad stC kcC NN A x H → va_S A s.heap H locs → W p l e R s m args below meth c H locs cells slots Q (F0 m pc ls [])) (hrec30 : ∀ (o : Nat) (l1 : Int32) (l2 : Int32) (l3 : Int32) (x : St) (H : Heap) (locs : List Loc) (ls : Array Slot), (o < NN ∧ kcC o = 10) → rec30 o l1 l2 l3 x → Wd dC dI cI cB cJ cZ ad stC kcC NN A x H → va_S A s.heap H locs → lv_has ls 6 [(0, .ref (ad o)), (1, .int l1), (2, .int l2), (3, .int l3)] → W p l e R s m args below meth c H locs cells slots Q (F0 m 30 ls [])) : ∀ (o : Nat) (l1 : Int32) (l2 : Int32) (l3 : Int32) (x : St) (H : Heap) (locs : List Loc) (ls : Array Slot), (o < NN ∧ kcC o = 10) → j_Ans_addGroup_30 post rec30 o l1 l2 l3 x → Wd dC dI cI cB cJ cZ ad stC kcC NN A x H → va_S A s.heap H locs → lv_has ls 6 [(0, .ref (ad o)), (1, .int l1), (2, .int l2), (3, .int l3)] → W p l e R s m args below meth c H locs cells slots Q (F0 m 30 ls []) := by
  intro o l1 l2 l3 x H locs ls fo hw hW hS hl
  unfold j_Ans_addGroup_30 at hw
  refine lv_iload_n hx hb d_Ans_addGroup_30 rfl (lv_at hl 3 rfl) ?_
  refine lv_aload_n hx hb d_Ans_addGroup_31 rfl (lv_at hl 0 rfl) ?_
  refine w_geti (k := 7) (t := 10) (C := R_Ans) (T := F_Ans) (N := 16) hx hb hT hown hK hW fo.1 fo.2 (by decide) in_Ans rfl rfl (by decide) rfl fr_Ans_7 w_3_167 d_Ans_addGroup_32 ?_
  refine lv_icmp_ge (tgt := 129) hx hb d_Ans_addGroup_35 (by decide) (fun c8 => ?_) (fun c8 => ?_)
  · have hw := hw.1 c8
    exact hret x H locs 129 ls d_Ans_addGroup_129 hw hW hS
  · have hw := hw.2 c8
    refine lv_aload_n hx hb d_Ans_addGroup_38 rfl (lv_at hl 0 rfl) ?_
    obtain ⟨q9, hq9, hw⟩ := hw
    refine w_getr (q := q9) (k := 15) (t := 10) (C := R_Ans) (T := F_Ans) (N := 16) hx hb hT hown hK hW fo.1 fo.2 (by decide) in_Ans rfl rfl (by decide) rfl fr_Ans_15 w_3_177 d_Ans_addGroup_39 hq9 (fun aq9 bq9 => ?_)
    have fq9 : q9 < NN ∧ kcC q9 = 9 := ⟨aq9, bq9⟩
    refine w_getf (q := (stC q9 2)) (k := 2) (t := 9) (C := R_Qry) (T := F_Qry) (N := 20) hx hb hT hown hK hW fq9.1 fq9.2 (by decide) in_Qry rfl rfl (by decide) rfl fr_Qry_2 w_3_79 d_Ans_addGroup_42 rfl ?_
    refine lv_iload_n hx hb d_Ans_addGroup_45 rfl (lv_at hl 3 rfl) ?_
    obtain ⟨hi, hw⟩ := hw
    refine w_iald (o := (stC q9 2)) hx hb hK hW (st_ty hNN fq9.1 fq9.2 rfl).1 (st_ty hNN fq9.1 fq9.2 rfl).2 hi d_Ans_addGroup_46 ?_
    refine lv_topi (fun v10 ev10 => ?_)
    have hw := hw v10 ev10
    refine lv_istore (lv' := [(4, .int v10), (0, .ref (ad o)), (1, .int l1), (2, .int l2), (3, .int l3)]) hx hb d_Ans_addGroup_47 hl (by decide) rfl (fun ls hl => ?_)
    refine lv_iload hx hb d_Ans_addGroup_49 (lv_at hl 0 rfl) ?_
    refine lv_iconst (v := 1) hx hb d_Ans_addGroup_51 (by decide) ?_
    refine lv_icmp_eq (tgt := 61) hx hb d_Ans_addGroup_52 (by decide) (fun c11 => ?_) (fun c11 => ?_)
    · have hw := hw.1 c11
      exact t_Ans_addGroup_61 hx hb hml hown hT hK hN hA hRc hRs hRf hRl hNN hE hret hrec30 o l1 l2 l3 v10 x H locs ls fo hw hW hS (lv_sub hl [1, 2, 3, 4, 0] rfl)
    · have hw := hw.2 c11
      refine lv_iload hx hb d_Ans_addGroup_55 (lv_at hl 0 rfl) ?_
      refine lv_iconst (v := 2) hx hb d_Ans_addGroup_57 (by decide) ?_
      refine lv_icmp_ne (tgt := 65) hx hb d_Ans_addGroup_58 (by decide) (fun c12 => ?_) (fun c12 => ?_)
      · have hw := hw.1 c12
        refine lv_iconst (v := 0) hx hb d_Ans_addGroup_65 (by decide) ?_
        exact t_Ans_addGroup_66 hx hb hml hown hT hK hN hA hRc hRs hRf hRl hNN hE hret hrec30 o l1 l2 l3 v10 0 x H locs ls fo hw hW hS (lv_sub hl [1, 2, 3, 4, 0] rfl)
      · have hw := hw.2 c12
        exact t_Ans_addGroup_61 hx hb hml hown hT hK hN hA hRc hRs hRf hRl hNN hE hret hrec30 o l1 l2 l3 v10 x H locs ls fo hw hW hS (lv_sub hl [1, 2, 3, 4, 0] rfl)
set_option maxHeartbeats 4000000 in
set_option maxRecDepth 100000 in
theorem tl_Ans_addGroup_30 {p : Program} {l : Launch} {e : Env} {R : Room} {s : State} {m : MethodId} {args : Array Value} {below : List Frame} {meth : Method} {c : Code} {cells slots : Nat} {Q : State → Prop} {dC : Nat → ClassId} {dI : Nat → Nat → Nat} {cI cB cJ cZ : ClassId} {A : Nat → Prop} {ad : Nat → Nat} {NN : Nat} {E : Heap} {tM tC : Nat} {kK kV : Nat → Nat} {post : St → Prop} (hx : p.tables.exec = Jvm.exec) (hb : c.code = b_Ans_addGroup) (hml : c.maxLocals = 6) (hown : s.vm.findClass R_Ans = some m.cls) (hT : ∀ w ∈ TG, w.before args s = true) (hK : va_K (dC, dI) CL (TY cI cB cJ cZ) s) (hN : NW s) (hA : ∀ q : Nat, s.heap.size ≤ q → A q) (hRc : cells ≤ R.cells) (hRs : slots ≤ R.slots) (hRf : 2 ≤ R.frames) (hRl : 49 ≤ R.locals) (hNN : 152 ≤ NN) (hE : CE E tM tC kK kV A s) (hret : ∀ (x : St) (H : Heap) (locs : List Loc) (pc : Nat) (ls : Array Slot), decode b_Ans_addGroup pc = .ok (.return_, 1) → post x → Wd dC dI cI cB cJ cZ ad stC kcC NN A x H → va_S A s.heap H locs → W p l e R s m args below meth c H locs cells slots Q (F0 m pc ls []))  : ∀ n : Nat, ∀ (o : Nat) (l1 : Int32) (l2 : Int32) (l3 : Int32) (x : St) (H : Heap) (locs : List Loc) (ls : Array Slot), (o < NN ∧ kcC o = 10) → wl_Ans_addGroup_30 post n o l1 l2 l3 x → Wd dC dI cI cB cJ cZ ad stC kcC NN A x H → va_S A s.heap H locs → lv_has ls 6 [(0, .ref (ad o)), (1, .int l1), (2, .int l2), (3, .int l3)] → W p l e R s m args below meth c H locs cells slots Q (F0 m 30 ls []) := by
  intro n
  induction n with
  | zero => intro o l1 l2 l3 x H locs ls fo hw; exact hw.elim
  | succ n ih => intro o l1 l2 l3 x H locs ls fo hw hW hS hl; exact t_Ans_addGroup_30 hx hb hml hown hT hK hN hA hRc hRs hRf hRl hNN hE hret  ih o l1 l2 l3 x H locs ls fo hw hW hS hl
set_option maxRecDepth 100000 in
set_option maxHeartbeats 4000000 in
set_option maxRecDepth 100000 in
theorem t_Ans_addGroup_e {p : Program} {l : Launch} {e : Env} {R : Room} {s : State} {m : MethodId} {args : Array Value} {below : List Frame} {meth : Method} {c : Code} {cells slots : Nat} {Q : State → Prop} {dC : Nat → ClassId} {dI : Nat → Nat → Nat} {cI cB cJ cZ : ClassId} {A : Nat → Prop} {ad : Nat → Nat} {NN : Nat} {E : Heap} {tM tC : Nat} {kK kV : Nat → Nat} {post : St → Prop} (hx : p.tables.exec = Jvm.exec) (hb : c.code = b_Ans_addGroup) (hml : c.maxLocals = 6) (hown : s.vm.findClass R_Ans = some m.cls) (hT : ∀ w ∈ TG, w.before args s = true) (hK : va_K (dC, dI) CL (TY cI cB cJ cZ) s) (hN : NW s) (hA : ∀ q : Nat, s.heap.size ≤ q → A q) (hRc : cells ≤ R.cells) (hRs : slots ≤ R.slots) (hRf : 2 ≤ R.frames) (hRl : 49 ≤ R.locals) (hNN : 152 ≤ NN) (hE : CE E tM tC kK kV A s) (hret : ∀ (x : St) (H : Heap) (locs : List Loc) (pc : Nat) (ls : Array Slot), decode b_Ans_addGroup pc = .ok (.return_, 1) → post x → Wd dC dI cI cB cJ cZ ad stC kcC NN A x H → va_S A s.heap H locs → W p l e R s m args below meth c H locs cells slots Q (F0 m pc ls [])) : ∀ (o : Nat) (l1 : Int32) (x : St) (H : Heap) (locs : List Loc) (ls : Array Slot), (o < NN ∧ kcC o = 10) → wp_Ans_addGroup post o l1 x → Wd dC dI cI cB cJ cZ ad stC kcC NN A x H → va_S A s.heap H locs → lv_has ls 6 [(0, .ref (ad o)), (1, .int l1)] → W p l e R s m args below meth c H locs cells slots Q (F0 m 0 ls []) := by
  intro o l1 x H locs ls fo hw hW hS hl
  unfold wp_Ans_addGroup at hw
  refine lv_aload_n hx hb d_Ans_addGroup_0 rfl (lv_at hl 0 rfl) ?_
  refine w_geti (k := 1) (t := 10) (C := R_Ans) (T := F_Ans) (N := 16) hx hb hT hown hK hW fo.1 fo.2 (by decide) in_Ans rfl rfl (by decide) rfl fr_Ans_1 w_3_157 d_Ans_addGroup_1 ?_
  refine lv_bipush (v := 16) hx hb d_Ans_addGroup_4 (by decide) ?_
  refine lv_imul hx hb d_Ans_addGroup_6 ?_
  refine lv_topi (fun v13 ev13 => ?_)
  have hw := hw v13 ev13
  refine lv_istore_n (lv' := [(2, .int v13), (0, .ref (ad o)), (1, .int l1)]) hx hb d_Ans_addGroup_7 rfl hl (by decide) rfl (fun ls hl => ?_)
  refine lv_aload_n hx hb d_Ans_addGroup_8 rfl (lv_at hl 1 rfl) ?_
  refine w_getf (q := (stC o 5)) (k := 5) (t := 10) (C := R_Ans) (T := F_Ans) (N := 16) hx hb hT hown hK hW fo.1 fo.2 (by decide) in_Ans rfl rfl (by decide) rfl fr_Ans_5 w_3_165 d_Ans_addGroup_9 rfl ?_
  refine lv_aload_n hx hb d_Ans_addGroup_12 rfl (lv_at hl 1 rfl) ?_
  refine w_geti (k := 1) (t := 10) (C := R_Ans) (T := F_Ans) (N := 16) hx hb hT hown hK hW fo.1 fo.2 (by decide) in_Ans rfl rfl (by decide) rfl fr_Ans_1 w_3_157 d_Ans_addGroup_13 ?_
  refine lv_iload_n hx hb d_Ans_addGroup_16 rfl (lv_at hl 2 rfl) ?_
  obtain ⟨hi, hw⟩ := hw
  refine w_iast (o := (stC o 5)) hx hb hK hW hS (st_ty hNN fo.1 fo.2 rfl).1 (st_ty hNN fo.1 fo.2 rfl).2 hi d_Ans_addGroup_17 (fun H locs hW hS => ?_)
  obtain ⟨x14, ex14⟩ : ∃ y : St, y = setA x (stC o 5) (fI x o 1) l1 := ⟨_, rfl⟩
  rw [← ex14] at hW
  have hw := hw x14 ex14
  refine lv_aload_n hx hb d_Ans_addGroup_18 rfl (lv_at hl 1 rfl) ?_
  refine lv_dup hx hb d_Ans_addGroup_19 rfl ?_
  refine w_geti (k := 1) (t := 10) (C := R_Ans) (T := F_Ans) (N := 16) hx hb hT hown hK hW fo.1 fo.2 (by decide) in_Ans rfl rfl (by decide) rfl fr_Ans_1 w_3_157 d_Ans_addGroup_20 ?_
  refine lv_iconst (v := 1) hx hb d_Ans_addGroup_23 (by decide) ?_
  refine lv_iadd hx hb d_Ans_addGroup_24 ?_
  refine w_puti (ty := .int) (k := 1) (t := 10) (C := R_Ans) (T := F_Ans) (N := 16) hx hb hT hown hK hW hS fo.1 fo.2 (by decide) in_Ans t_Ans t_Ans_ok n_Ans rfl rfl (by decide) rfl fr_Ans_1 w_3_157 (by decide +kernel) rfl rfl d_Ans_addGroup_25 (fun H locs hW hS => ?_)
  obtain ⟨x15, ex15⟩ : ∃ y : St, y = setI x14 o 1 ((fI x14 o 1) + 1) := ⟨_, rfl⟩
  rw [← ex15] at hW
  have hw := hw x15 ex15
  refine lv_iconst (v := 0) hx hb d_Ans_addGroup_28 (by decide) ?_
  refine lv_istore_n (lv' := [(3, .int 0), (2, .int v13), (0, .ref (ad o)), (1, .int l1)]) hx hb d_Ans_addGroup_29 rfl hl (by decide) rfl (fun ls hl => ?_)
  obtain ⟨n, hw⟩ := hw
  exact tl_Ans_addGroup_30 hx hb hml hown hT hK hN hA hRc hRs hRf hRl hNN hE hret  n o l1 v13 0 x15 H locs ls fo hw hW hS (lv_sub hl [2, 3, 1, 0] rfl)
set_option maxHeartbeats 4000000 in
set_option maxRecDepth 100000 in
theorem k_Ans_addGroup (l : Launch) (dC : Nat → ClassId) (dI : Nat → Nat → Nat) (cI cB cJ cZ : ClassId) (ad : Nat → Nat) (NN : Nat) (E : Heap) (tM tC : Nat) (kK kV : Nat → Nat) (hNN : 152 ≤ NN) (sz : Nat) (o : Nat) (l1 : Int32) (x : St) (fo : o < NN ∧ kcC o = 10) {post : St → Prop} (hw : wp_Ans_addGroup post o l1 x) : Met l y_Ans_addGroup (wsOf y_Ans_addGroup b_Ans_addGroup 6 (none)) ({ frames := 2, cells := 0, slots := 0, locals := 49 }) (va_Pc [.ref (ad o), .int l1] (PVc dC dI cI cB cJ cZ ad stC kcC NN E tM tC kK kV sz x)) (va_Qv (fun (y : St) => post y) (fun y t => Wd dC dI cI cB cJ cZ ad stC kcC NN (va_A (pic ad stC kcC NN cI cB cJ cZ x) sz) y t.heap) (va_A (pic ad stC kcC NN cI cB cJ cZ x) sz)) 0 0 (va_A (pic ad stC kcC NN cI cB cJ cZ x) sz) := by
  refine Met.ofW (cc := b_Ans_addGroup) (maxL := 6) (ret := none) (by decide) rfl ?_
  intro p e s m args below meth c s₁ B hml hv
  obtain ⟨rfl, ⟨hsz, hW0, hK, hN⟩, hE⟩ := hv
  have hx := B.exec
  have hb := B.bytes
  have hr := B.returns
  have hts := atoms_spec B.pre
  have hT : ∀ w ∈ TG, w.before _ s = true := fun w h => hts w (List.mem_cons_of_mem _ h)
  have hown : s.vm.findClass R_Ans = some m.cls := findClass_of_methodNamed B.named
  have hlocks := B.notSynchronized
  subst hsz
  have hW : Wd dC dI cI cB cJ cZ ad stC kcC NN (va_A (pic ad stC kcC NN cI cB cJ cZ x) s.heap.size) x s.heap := ⟨hW0.1, hW0.2.1.self (sz := s.heap.size), hW0.2.2⟩
  generalize hAe : va_A (pic ad stC kcC NN cI cB cJ cZ x) s.heap.size = A at hW hE ⊢
  have hA : ∀ q : Nat, s.heap.size ≤ q → A q := fun q h => by rw [← hAe]; exact Or.inr h
  have hS : va_S A s.heap s.heap [] := va_S.rf
  have hl := lv_entry ([.ref (ad o), .int l1]) (n := 6) (Nat.le_of_ble_eq_true rfl)
  rw [lg_entry_eq]
  generalize (lg_sl ([.ref (ad o), .int l1]) ++ List.replicate (6 - (lg_sl ([.ref (ad o), .int l1])).length) Slot.unset).toArray = ls at hl ⊢
  have hl : lv_has ls 6 [(0, .ref (ad o)), (1, .int l1)] := hl
  exact t_Ans_addGroup_e hx hb hml hown hT hK hN hA (Nat.le_refl 0) (Nat.le_refl 0) (Nat.le_refl 2) (Nat.le_refl 49) hNN hE (fun x H locs pc ls hd hp hW hS => W.vret hx hb hr (fun t ht hM => ⟨⟨x, rfl, hp, Wd.back hW ht.symm (fun _ z => z)⟩, hS.F ht⟩) hS.2.2 hd hlocks)  o l1 x _ _ ls fo hw hW hS hl
set_option maxRecDepth 100000 in
set_option maxHeartbeats 4000000 in
set_option maxRecDepth 100000 in
theorem t_Ans_comparesColumns_30 {p : Program} {l : Launch} {e : Env} {R : Room} {s : State} {m : MethodId} {args : Array Value} {below : List Frame} {meth : Method} {c : Code} {cells slots : Nat} {Q : State → Prop} {dC : Nat → ClassId} {dI : Nat → Nat → Nat} {cI cB cJ cZ : ClassId} {A : Nat → Prop} {ad : Nat → Nat} {NN : Nat} {E : Heap} {tM tC : Nat} {kK kV : Nat → Nat} {post : Int32 → St → Prop} (hx : p.tables.exec = Jvm.exec) (hb : c.code = b_Ans_comparesColumns) (hml : c.maxLocals = 2) (hown : s.vm.findClass R_Ans = some m.cls) (hT : ∀ w ∈ TG, w.before args s = true) (hK : va_K (dC, dI) CL (TY cI cB cJ cZ) s) (hN : NW s) (hA : ∀ q : Nat, s.heap.size ≤ q → A q) (hRc : cells ≤ R.cells) (hRs : slots ≤ R.slots) (hRf : 0 ≤ R.frames) (hRl : 0 ≤ R.locals) (hNN : 152 ≤ NN) (hE : CE E tM tC kK kV A s) (hret : ∀ (r : Int32) (x : St) (H : Heap) (locs : List Loc) (pc : Nat) (ls : Array Slot), decode b_Ans_comparesColumns pc = .ok (.ireturn, 1) → narrow .boolean (.int r) = .int r → post r x → Wd dC dI cI cB cJ cZ ad stC kcC NN A x H → va_S A s.heap H locs → W p l e R s m args below meth c H locs cells slots Q (F0 m pc ls [.int r]))  : ∀ (o : Nat) (l1 : Int32) (x : St) (H : Heap) (locs : List Loc) (ls : Array Slot), (o < NN ∧ kcC o = 10) → j_Ans_comparesColumns_30 post o l1 x → Wd dC dI cI cB cJ cZ ad stC kcC NN A x H → va_S A s.heap H locs → lv_has ls 2 [(0, .ref (ad o)), (1, .int l1)] → W p l e R s m args below meth c H locs cells slots Q (F0 m 30 ls []) := by
  intro o l1 x H locs ls fo hw hW hS hl
  unfold j_Ans_comparesColumns_30 at hw
  refine lv_iconst (v := 0) hx hb d_Ans_comparesColumns_30 (by decide) ?_
  exact hret 0 x H locs 31 ls d_Ans_comparesColumns_31 rfl hw hW hS
set_option maxRecDepth 100000 in
set_option maxHeartbeats 4000000 in
set_option maxRecDepth 100000 in
theorem t_Ans_comparesColumns_e {p : Program} {l : Launch} {e : Env} {R : Room} {s : State} {m : MethodId} {args : Array Value} {below : List Frame} {meth : Method} {c : Code} {cells slots : Nat} {Q : State → Prop} {dC : Nat → ClassId} {dI : Nat → Nat → Nat} {cI cB cJ cZ : ClassId} {A : Nat → Prop} {ad : Nat → Nat} {NN : Nat} {E : Heap} {tM tC : Nat} {kK kV : Nat → Nat} {post : Int32 → St → Prop} (hx : p.tables.exec = Jvm.exec) (hb : c.code = b_Ans_comparesColumns) (hml : c.maxLocals = 2) (hown : s.vm.findClass R_Ans = some m.cls) (hT : ∀ w ∈ TG, w.before args s = true) (hK : va_K (dC, dI) CL (TY cI cB cJ cZ) s) (hN : NW s) (hA : ∀ q : Nat, s.heap.size ≤ q → A q) (hRc : cells ≤ R.cells) (hRs : slots ≤ R.slots) (hRf : 0 ≤ R.frames) (hRl : 0 ≤ R.locals) (hNN : 152 ≤ NN) (hE : CE E tM tC kK kV A s) (hret : ∀ (r : Int32) (x : St) (H : Heap) (locs : List Loc) (pc : Nat) (ls : Array Slot), decode b_Ans_comparesColumns pc = .ok (.ireturn, 1) → narrow .boolean (.int r) = .int r → post r x → Wd dC dI cI cB cJ cZ ad stC kcC NN A x H → va_S A s.heap H locs → W p l e R s m args below meth c H locs cells slots Q (F0 m pc ls [.int r])) : ∀ (o : Nat) (l1 : Int32) (x : St) (H : Heap) (locs : List Loc) (ls : Array Slot), (o < NN ∧ kcC o = 10) → wp_Ans_comparesColumns post o l1 x → Wd dC dI cI cB cJ cZ ad stC kcC NN A x H → va_S A s.heap H locs → lv_has ls 2 [(0, .ref (ad o)), (1, .int l1)] → W p l e R s m args below meth c H locs cells slots Q (F0 m 0 ls []) := by
  intro o l1 x H locs ls fo hw hW hS hl
  unfold wp_Ans_comparesColumns at hw
  refine lv_aload_n hx hb d_Ans_comparesColumns_0 rfl (lv_at hl 0 rfl) ?_
  obtain ⟨q1, hq1, hw⟩ := hw
  refine w_getr (q := q1) (k := 15) (t := 10) (C := R_Ans) (T := F_Ans) (N := 16) hx hb hT hown hK hW fo.1 fo.2 (by decide) in_Ans rfl rfl (by decide) rfl fr_Ans_15 w_3_177 d_Ans_comparesColumns_1 hq1 (fun aq1 bq1 => ?_)
  have fq1 : q1 < NN ∧ kcC q1 = 9 := ⟨aq1, bq1⟩
  refine w_getf (q := (stC q1 9)) (k := 9) (t := 9) (C := R_Qry) (T := F_Qry) (N := 20) hx hb hT hown hK hW fq1.1 fq1.2 (by decide) in_Qry rfl rfl (by decide) rfl fr_Qry_9 w_3_92 d_Ans_comparesColumns_4 rfl ?_
  refine lv_iload_n hx hb d_Ans_comparesColumns_7 rfl (lv_at hl 1 rfl) ?_
  obtain ⟨hi, hw⟩ := hw
  refine w_iald (o := (stC q1 9)) hx hb hK hW (st_ty hNN fq1.1 fq1.2 rfl).1 (st_ty hNN fq1.1 fq1.2 rfl).2 hi d_Ans_comparesColumns_8 ?_
  refine lv_bipush (v := 6) hx hb d_Ans_comparesColumns_9 (by decide) ?_
  refine lv_icmp_ge (tgt := 30) hx hb d_Ans_comparesColumns_11 (by decide) (fun c2 => ?_) (fun c2 => ?_)
  · have hw := hw.1 c2
    exact t_Ans_comparesColumns_30 hx hb hml hown hT hK hN hA hRc hRs hRf hRl hNN hE hret  o l1 x H locs ls fo hw hW hS (lv_sub hl [0, 1] rfl)
  · have hw := hw.2 c2
    refine lv_aload_n hx hb d_Ans_comparesColumns_14 rfl (lv_at hl 0 rfl) ?_
    obtain ⟨q3, hq3, hw⟩ := hw
    refine w_getr (q := q3) (k := 15) (t := 10) (C := R_Ans) (T := F_Ans) (N := 16) hx hb hT hown hK hW fo.1 fo.2 (by decide) in_Ans rfl rfl (by decide) rfl fr_Ans_15 w_3_177 d_Ans_comparesColumns_15 hq3 (fun aq3 bq3 => ?_)
    have fq3 : q3 < NN ∧ kcC q3 = 9 := ⟨aq3, bq3⟩
    refine w_getf (q := (stC q3 12)) (k := 12) (t := 9) (C := R_Qry) (T := F_Qry) (N := 20) hx hb hT hown hK hW fq3.1 fq3.2 (by decide) in_Qry rfl rfl (by decide) rfl fr_Qry_12 w_3_98 d_Ans_comparesColumns_18 rfl ?_
    refine lv_iload_n hx hb d_Ans_comparesColumns_21 rfl (lv_at hl 1 rfl) ?_
    obtain ⟨hi, hw⟩ := hw
    refine w_iald (o := (stC q3 12)) hx hb hK hW (st_ty hNN fq3.1 fq3.2 rfl).1 (st_ty hNN fq3.1 fq3.2 rfl).2 hi d_Ans_comparesColumns_22 ?_
    refine lv_if_ne (tgt := 30) hx hb d_Ans_comparesColumns_23 (by decide) (fun c4 => ?_) (fun c4 => ?_)
    · have hw := hw.1 c4
      exact t_Ans_comparesColumns_30 hx hb hml hown hT hK hN hA hRc hRs hRf hRl hNN hE hret  o l1 x H locs ls fo hw hW hS (lv_sub hl [0, 1] rfl)
    · have hw := hw.2 c4
      refine lv_iconst (v := 1) hx hb d_Ans_comparesColumns_26 (by decide) ?_
      refine lv_goto (tgt := 31) hx hb d_Ans_comparesColumns_27 (by decide) ?_
      exact hret 1 x H locs 31 ls d_Ans_comparesColumns_31 rfl hw hW hS
set_option maxHeartbeats 4000000 in
set_option maxRecDepth 100000 in
theorem k_Ans_comparesColumns (l : Launch) (dC : Nat → ClassId) (dI : Nat → Nat → Nat) (cI cB cJ cZ : ClassId) (ad : Nat → Nat) (NN : Nat) (E : Heap) (tM tC : Nat) (kK kV : Nat → Nat) (hNN : 152 ≤ NN) (sz : Nat) (o : Nat) (l1 : Int32) (x : St) (fo : o < NN ∧ kcC o = 10) {post : Int32 → St → Prop} (hw : wp_Ans_comparesColumns post o l1 x) : Met l y_Ans_comparesColumns (wsOf y_Ans_comparesColumns b_Ans_comparesColumns 2 (some (.boolean))) ({ frames := 0, cells := 0, slots := 0, locals := 0 }) (va_Pc [.ref (ad o), .int l1] (PVc dC dI cI cB cJ cZ ad stC kcC NN E tM tC kK kV sz x)) (va_Qi (fun (r : Int32) (y : St) => post r y) (fun y t => Wd dC dI cI cB cJ cZ ad stC kcC NN (va_A (pic ad stC kcC NN cI cB cJ cZ x) sz) y t.heap) (va_A (pic ad stC kcC NN cI cB cJ cZ x) sz)) 0 0 (va_A (pic ad stC kcC NN cI cB cJ cZ x) sz) := by
  refine Met.ofW (cc := b_Ans_comparesColumns) (maxL := 2) (ret := some (.boolean)) (by decide) rfl ?_
  intro p e s m args below meth c s₁ B hml hv
  obtain ⟨rfl, ⟨hsz, hW0, hK, hN⟩, hE⟩ := hv
  have hx := B.exec
  have hb := B.bytes
  have hr := B.returns
  have hts := atoms_spec B.pre
  have hT : ∀ w ∈ TG, w.before _ s = true := fun w h => hts w (List.mem_cons_of_mem _ h)
  have hown : s.vm.findClass R_Ans = some m.cls := findClass_of_methodNamed B.named
  have hlocks := B.notSynchronized
  subst hsz
  have hW : Wd dC dI cI cB cJ cZ ad stC kcC NN (va_A (pic ad stC kcC NN cI cB cJ cZ x) s.heap.size) x s.heap := ⟨hW0.1, hW0.2.1.self (sz := s.heap.size), hW0.2.2⟩
  generalize hAe : va_A (pic ad stC kcC NN cI cB cJ cZ x) s.heap.size = A at hW hE ⊢
  have hA : ∀ q : Nat, s.heap.size ≤ q → A q := fun q h => by rw [← hAe]; exact Or.inr h
  have hS : va_S A s.heap s.heap [] := va_S.rf
  have hl := lv_entry ([.ref (ad o), .int l1]) (n := 2) (Nat.le_of_ble_eq_true rfl)
  rw [lg_entry_eq]
  generalize (lg_sl ([.ref (ad o), .int l1]) ++ List.replicate (2 - (lg_sl ([.ref (ad o), .int l1])).length) Slot.unset).toArray = ls at hl ⊢
  have hl : lv_has ls 2 [(0, .ref (ad o)), (1, .int l1)] := hl
  exact t_Ans_comparesColumns_e hx hb hml hown hT hK hN hA (Nat.le_refl 0) (Nat.le_refl 0) (Nat.le_refl 0) (Nat.le_refl 0) hNN hE (fun r x H locs pc ls hd hz hp hW hS => W.zret (v := r) (ty := .boolean) hx hb hr hz (fun t ht hM => ⟨⟨r, x, rfl, hp, Wd.back hW ht.symm (fun _ z => z)⟩, hS.F ht⟩) hS.2.2 hd hlocks)  o l1 x _ _ ls fo hw hW hS hl
set_option maxRecDepth 100000 in
set_option maxHeartbeats 4000000 in
set_option maxRecDepth 100000 in
theorem t_Ans_typeOf_e {p : Program} {l : Launch} {e : Env} {R : Room} {s : State} {m : MethodId} {args : Array Value} {below : List Frame} {meth : Method} {c : Code} {cells slots : Nat} {Q : State → Prop} {dC : Nat → ClassId} {dI : Nat → Nat → Nat} {cI cB cJ cZ : ClassId} {A : Nat → Prop} {ad : Nat → Nat} {NN : Nat} {E : Heap} {tM tC : Nat} {kK kV : Nat → Nat} {post : Int32 → St → Prop} (hx : p.tables.exec = Jvm.exec) (hb : c.code = b_Ans_typeOf) (hml : c.maxLocals = 2) (hown : s.vm.findClass R_Ans = some m.cls) (hT : ∀ w ∈ TG, w.before args s = true) (hK : va_K (dC, dI) CL (TY cI cB cJ cZ) s) (hN : NW s) (hA : ∀ q : Nat, s.heap.size ≤ q → A q) (hRc : cells ≤ R.cells) (hRs : slots ≤ R.slots) (hRf : 0 ≤ R.frames) (hRl : 0 ≤ R.locals) (hNN : 152 ≤ NN) (hE : CE E tM tC kK kV A s) (hret : ∀ (r : Int32) (x : St) (H : Heap) (locs : List Loc) (pc : Nat) (ls : Array Slot), decode b_Ans_typeOf pc = .ok (.ireturn, 1) → post r x → Wd dC dI cI cB cJ cZ ad stC kcC NN A x H → va_S A s.heap H locs → W p l e R s m args below meth c H locs cells slots Q (F0 m pc ls [.int r])) : ∀ (o : Nat) (l1 : Int32) (x : St) (H : Heap) (locs : List Loc) (ls : Array Slot), (o < NN ∧ kcC o = 10) → wp_Ans_typeOf post o l1 x → Wd dC dI cI cB cJ cZ ad stC kcC NN A x H → va_S A s.heap H locs → lv_has ls 2 [(0, .ref (ad o)), (1, .int l1)] → W p l e R s m args below meth c H locs cells slots Q (F0 m 0 ls []) := by
  intro o l1 x H locs ls fo hw hW hS hl
  unfold wp_Ans_typeOf at hw
  refine lv_aload_n hx hb d_Ans_typeOf_0 rfl (lv_at hl 0 rfl) ?_
  obtain ⟨q1, hq1, hw⟩ := hw
  refine w_getr (q := q1) (k := 14) (t := 10) (C := R_Ans) (T := F_Ans) (N := 16) hx hb hT hown hK hW fo.1 fo.2 (by decide) in_Ans rfl rfl (by decide) rfl fr_Ans_14 w_3_176 d_Ans_typeOf_1 hq1 (fun aq1 bq1 => ?_)
  have fq1 : q1 < NN ∧ kcC q1 = 6 := ⟨aq1, bq1⟩
  refine w_getf (q := (stC q1 5)) (k := 5) (t := 6) (C := R_Vlt) (T := F_Vlt) (N := 20) hx hb hT hown hK hW fq1.1 fq1.2 (by decide) in_Vlt rfl rfl (by decide) rfl fr_Vlt_5 w_2_137 d_Ans_typeOf_4 rfl ?_
  refine w_getf (q := (stC (stC q1 5) 3)) (k := 3) (t := 3) (C := R_Sch) (T := F_Sch) (N := 13) hx hb hT hown hK hW (st_ty hNN fq1.1 fq1.2 rfl).1 (st_ty hNN fq1.1 fq1.2 rfl).2 (by decide) in_Sch rfl rfl (by decide) rfl fr_Sch_3 w_1_150 d_Ans_typeOf_7 rfl ?_
  refine lv_aload_n hx hb d_Ans_typeOf_10 rfl (lv_at hl 0 rfl) ?_
  obtain ⟨q2, hq2, hw⟩ := hw
  refine w_getr (q := q2) (k := 14) (t := 10) (C := R_Ans) (T := F_Ans) (N := 16) hx hb hT hown hK hW fo.1 fo.2 (by decide) in_Ans rfl rfl (by decide) rfl fr_Ans_14 w_3_176 d_Ans_typeOf_11 hq2 (fun aq2 bq2 => ?_)
  have fq2 : q2 < NN ∧ kcC q2 = 6 := ⟨aq2, bq2⟩
  refine w_getf (q := (stC q2 5)) (k := 5) (t := 6) (C := R_Vlt) (T := F_Vlt) (N := 20) hx hb hT hown hK hW fq2.1 fq2.2 (by decide) in_Vlt rfl rfl (by decide) rfl fr_Vlt_5 w_2_137 d_Ans_typeOf_14 rfl ?_
  refine w_getf (q := (stC (stC q2 5) 10)) (k := 10) (t := 3) (C := R_Sch) (T := F_Sch) (N := 13) hx hb hT hown hK hW (st_ty hNN fq2.1 fq2.2 rfl).1 (st_ty hNN fq2.1 fq2.2 rfl).2 (by decide) in_Sch rfl rfl (by decide) rfl fr_Sch_10 w_1_183 d_Ans_typeOf_17 rfl ?_
  refine lv_iload_n hx hb d_Ans_typeOf_20 rfl (lv_at hl 1 rfl) ?_
  obtain ⟨hi, hw⟩ := hw
  refine w_iald (o := (stC (stC q2 5) 10)) hx hb hK hW (st_ty hNN (st_ty hNN fq2.1 fq2.2 rfl).1 (st_ty hNN fq2.1 fq2.2 rfl).2 rfl).1 (st_ty hNN (st_ty hNN fq2.1 fq2.2 rfl).1 (st_ty hNN fq2.1 fq2.2 rfl).2 rfl).2 hi d_Ans_typeOf_21 ?_
  obtain ⟨hi, hw⟩ := hw
  refine w_iald (o := (stC (stC q1 5) 3)) hx hb hK hW (st_ty hNN (st_ty hNN fq1.1 fq1.2 rfl).1 (st_ty hNN fq1.1 fq1.2 rfl).2 rfl).1 (st_ty hNN (st_ty hNN fq1.1 fq1.2 rfl).1 (st_ty hNN fq1.1 fq1.2 rfl).2 rfl).2 hi d_Ans_typeOf_22 ?_
  exact hret (rA x (stC (stC q1 5) 3) (rA x (stC (stC q2 5) 10) l1)) x H locs 23 ls d_Ans_typeOf_23 hw hW hS
set_option maxHeartbeats 4000000 in
set_option maxRecDepth 100000 in
theorem k_Ans_typeOf (l : Launch) (dC : Nat → ClassId) (dI : Nat → Nat → Nat) (cI cB cJ cZ : ClassId) (ad : Nat → Nat) (NN : Nat) (E : Heap) (tM tC : Nat) (kK kV : Nat → Nat) (hNN : 152 ≤ NN) (sz : Nat) (o : Nat) (l1 : Int32) (x : St) (fo : o < NN ∧ kcC o = 10) {post : Int32 → St → Prop} (hw : wp_Ans_typeOf post o l1 x) : Met l y_Ans_typeOf (wsOf y_Ans_typeOf b_Ans_typeOf 2 (some (.int))) ({ frames := 0, cells := 0, slots := 0, locals := 0 }) (va_Pc [.ref (ad o), .int l1] (PVc dC dI cI cB cJ cZ ad stC kcC NN E tM tC kK kV sz x)) (va_Qi (fun (r : Int32) (y : St) => post r y) (fun y t => Wd dC dI cI cB cJ cZ ad stC kcC NN (va_A (pic ad stC kcC NN cI cB cJ cZ x) sz) y t.heap) (va_A (pic ad stC kcC NN cI cB cJ cZ x) sz)) 0 0 (va_A (pic ad stC kcC NN cI cB cJ cZ x) sz) := by
  refine Met.ofW (cc := b_Ans_typeOf) (maxL := 2) (ret := some (.int)) (by decide) rfl ?_
  intro p e s m args below meth c s₁ B hml hv
  obtain ⟨rfl, ⟨hsz, hW0, hK, hN⟩, hE⟩ := hv
  have hx := B.exec
  have hb := B.bytes
  have hr := B.returns
  have hts := atoms_spec B.pre
  have hT : ∀ w ∈ TG, w.before _ s = true := fun w h => hts w (List.mem_cons_of_mem _ h)
  have hown : s.vm.findClass R_Ans = some m.cls := findClass_of_methodNamed B.named
  have hlocks := B.notSynchronized
  subst hsz
  have hW : Wd dC dI cI cB cJ cZ ad stC kcC NN (va_A (pic ad stC kcC NN cI cB cJ cZ x) s.heap.size) x s.heap := ⟨hW0.1, hW0.2.1.self (sz := s.heap.size), hW0.2.2⟩
  generalize hAe : va_A (pic ad stC kcC NN cI cB cJ cZ x) s.heap.size = A at hW hE ⊢
  have hA : ∀ q : Nat, s.heap.size ≤ q → A q := fun q h => by rw [← hAe]; exact Or.inr h
  have hS : va_S A s.heap s.heap [] := va_S.rf
  have hl := lv_entry ([.ref (ad o), .int l1]) (n := 2) (Nat.le_of_ble_eq_true rfl)
  rw [lg_entry_eq]
  generalize (lg_sl ([.ref (ad o), .int l1]) ++ List.replicate (2 - (lg_sl ([.ref (ad o), .int l1])).length) Slot.unset).toArray = ls at hl ⊢
  have hl : lv_has ls 2 [(0, .ref (ad o)), (1, .int l1)] := hl
  exact t_Ans_typeOf_e hx hb hml hown hT hK hN hA (Nat.le_refl 0) (Nat.le_refl 0) (Nat.le_refl 0) (Nat.le_refl 0) hNN hE (fun r x H locs pc ls hd hp hW hS => W.iret (v := r) hx hb hr (fun t ht hM => ⟨⟨r, x, rfl, hp, Wd.back hW ht.symm (fun _ z => z)⟩, hS.F ht⟩) hS.2.2 hd hlocks)  o l1 x _ _ ls fo hw hW hS hl
set_option maxRecDepth 100000 in
set_option maxHeartbeats 4000000 in
set_option maxRecDepth 100000 in
theorem t_Ans_canHold_58 {p : Program} {l : Launch} {e : Env} {R : Room} {s : State} {m : MethodId} {args : Array Value} {below : List Frame} {meth : Method} {c : Code} {cells slots : Nat} {Q : State → Prop} {dC : Nat → ClassId} {dI : Nat → Nat → Nat} {cI cB cJ cZ : ClassId} {A : Nat → Prop} {ad : Nat → Nat} {NN : Nat} {E : Heap} {tM tC : Nat} {kK kV : Nat → Nat} {post : Int32 → St → Prop} (hx : p.tables.exec = Jvm.exec) (hb : c.code = b_Ans_canHold) (hml : c.maxLocals = 3) (hown : s.vm.findClass R_Ans = some m.cls) (hT : ∀ w ∈ TG, w.before args s = true) (hK : va_K (dC, dI) CL (TY cI cB cJ cZ) s) (hN : NW s) (hA : ∀ q : Nat, s.heap.size ≤ q → A q) (hRc : cells ≤ R.cells) (hRs : slots ≤ R.slots) (hRf : 0 ≤ R.frames) (hRl : 0 ≤ R.locals) (hNN : 152 ≤ NN) (hE : CE E tM tC kK kV A s) (hret : ∀ (r : Int32) (x : St) (H : Heap) (locs : List Loc) (pc : Nat) (ls : Array Slot), decode b_Ans_canHold pc = .ok (.ireturn, 1) → narrow .boolean (.int r) = .int r → post r x → Wd dC dI cI cB cJ cZ ad stC kcC NN A x H → va_S A s.heap H locs → W p l e R s m args below meth c H locs cells slots Q (F0 m pc ls [.int r]))  : ∀ (l0 : Int32) (l1 : Int32) (l2 : Int32) (x : St) (H : Heap) (locs : List Loc) (ls : Array Slot), j_Ans_canHold_58 post l0 l1 l2 x → Wd dC dI cI cB cJ cZ ad stC kcC NN A x H → va_S A s.heap H locs → lv_has ls 3 [(0, .int l0), (1, .int l1), (2, .int l2)] → W p l e R s m args below meth c H locs cells slots Q (F0 m 58 ls []) := by
  intro l0 l1 l2 x H locs ls  hw hW hS hl
  unfold j_Ans_canHold_58 at hw
  refine lv_iconst (v := 1) hx hb d_Ans_canHold_58 (by decide) ?_
  refine lv_goto (tgt := 63) hx hb d_Ans_canHold_59 (by decide) ?_
  exact hret 1 x H locs 63 ls d_Ans_canHold_63 rfl hw hW hS
set_option maxRecDepth 100000 in
set_option maxHeartbeats 4000000 in
set_option maxRecDepth 100000 in
theorem t_Ans_canHold_48 {p : Program} {l : Launch} {e : Env} {R : Room} {s : State} {m : MethodId} {args : Array Value} {below : List Frame} {meth : Method} {c : Code} {cells slots : Nat} {Q : State → Prop} {dC : Nat → ClassId} {dI : Nat → Nat → Nat} {cI cB cJ cZ : ClassId} {A : Nat → Prop} {ad : Nat → Nat} {NN : Nat} {E : Heap} {tM tC : Nat} {kK kV : Nat → Nat} {post : Int32 → St → Prop} (hx : p.tables.exec = Jvm.exec) (hb : c.code = b_Ans_canHold) (hml : c.maxLocals = 3) (hown : s.vm.findClass R_Ans = some m.cls) (hT : ∀ w ∈ TG, w.before args s = true) (hK : va_K (dC, dI) CL (TY cI cB cJ cZ) s) (hN : NW s) (hA : ∀ q : Nat, s.heap.size ≤ q → A q) (hRc : cells ≤ R.cells) (hRs : slots ≤ R.slots) (hRf : 0 ≤ R.frames) (hRl : 0 ≤ R.locals) (hNN : 152 ≤ NN) (hE : CE E tM tC kK kV A s) (hret : ∀ (r : Int32) (x : St) (H : Heap) (locs : List Loc) (pc : Nat) (ls : Array Slot), decode b_Ans_canHold pc = .ok (.ireturn, 1) → narrow .boolean (.int r) = .int r → post r x → Wd dC dI cI cB cJ cZ ad stC kcC NN A x H → va_S A s.heap H locs → W p l e R s m args below meth c H locs cells slots Q (F0 m pc ls [.int r]))  : ∀ (l0 : Int32) (l1 : Int32) (l2 : Int32) (x : St) (H : Heap) (locs : List Loc) (ls : Array Slot), j_Ans_canHold_48 post l0 l1 l2 x → Wd dC dI cI cB cJ cZ ad stC kcC NN A x H → va_S A s.heap H locs → lv_has ls 3 [(0, .int l0), (1, .int l1), (2, .int l2)] → W p l e R s m args below meth c H locs cells slots Q (F0 m 48 ls []) := by
  intro l0 l1 l2 x H locs ls  hw hW hS hl
  unfold j_Ans_canHold_48 at hw
  refine lv_iconst (v := 0) hx hb d_Ans_canHold_48 (by decide) ?_
  exact hret 0 x H locs 49 ls d_Ans_canHold_49 rfl hw hW hS
set_option maxRecDepth 100000 in
set_option maxHeartbeats 4000000 in
set_option maxRecDepth 100000 in
theorem t_Ans_canHold_e {p : Program} {l : Launch} {e : Env} {R : Room} {s : State} {m : MethodId} {args : Array Value} {below : List Frame} {meth : Method} {c : Code} {cells slots : Nat} {Q : State → Prop} {dC : Nat → ClassId} {dI : Nat → Nat → Nat} {cI cB cJ cZ : ClassId} {A : Nat → Prop} {ad : Nat → Nat} {NN : Nat} {E : Heap} {tM tC : Nat} {kK kV : Nat → Nat} {post : Int32 → St → Prop} (hx : p.tables.exec = Jvm.exec) (hb : c.code = b_Ans_canHold) (hml : c.maxLocals = 3) (hown : s.vm.findClass R_Ans = some m.cls) (hT : ∀ w ∈ TG, w.before args s = true) (hK : va_K (dC, dI) CL (TY cI cB cJ cZ) s) (hN : NW s) (hA : ∀ q : Nat, s.heap.size ≤ q → A q) (hRc : cells ≤ R.cells) (hRs : slots ≤ R.slots) (hRf : 0 ≤ R.frames) (hRl : 0 ≤ R.locals) (hNN : 152 ≤ NN) (hE : CE E tM tC kK kV A s) (hret : ∀ (r : Int32) (x : St) (H : Heap) (locs : List Loc) (pc : Nat) (ls : Array Slot), decode b_Ans_canHold pc = .ok (.ireturn, 1) → narrow .boolean (.int r) = .int r → post r x → Wd dC dI cI cB cJ cZ ad stC kcC NN A x H → va_S A s.heap H locs → W p l e R s m args below meth c H locs cells slots Q (F0 m pc ls [.int r])) : ∀ (l0 : Int32) (l1 : Int32) (l2 : Int32) (x : St) (H : Heap) (locs : List Loc) (ls : Array Slot), wp_Ans_canHold post l0 l1 l2 x → Wd dC dI cI cB cJ cZ ad stC kcC NN A x H → va_S A s.heap H locs → lv_has ls 3 [(0, .int l0), (1, .int l1), (2, .int l2)] → W p l e R s m args below meth c H locs cells slots Q (F0 m 0 ls []) := by
  intro l0 l1 l2 x H locs ls  hw hW hS hl
  unfold wp_Ans_canHold at hw
  refine lv_iload_n hx hb d_Ans_canHold_0 rfl (lv_at hl 0 rfl) ?_
  rcases (show (l0 : Int32).toInt = 0 ∨ (l0 : Int32).toInt = 1 ∨ (l0 : Int32).toInt = 2 ∨ (l0 : Int32).toInt = 3 ∨ (l0 : Int32).toInt = 4 ∨ ((l0 : Int32).toInt < 0 ∨ 4 < (l0 : Int32).toInt) by omega) with c1 | c1 | c1 | c1 | c1 | c1
  · have hw := hw.1 c1
    refine lv_tableIn (tgt := 36) (off := 35) hx hb d_Ans_canHold_1 (by rw [c1]; decide) (by rw [c1]; decide) (by rw [c1]; rfl) (by decide) ?_
    refine lv_iload_n hx hb d_Ans_canHold_36 rfl (lv_at hl 1 rfl) ?_
    refine lv_if_gt (tgt := 48) hx hb d_Ans_canHold_37 (by decide) (fun c2 => ?_) (fun c2 => ?_)
    · have hw := hw.1 c2
      exact t_Ans_canHold_48 hx hb hml hown hT hK hN hA hRc hRs hRf hRl hNN hE hret  l0 l1 l2 x H locs ls  hw hW hS (lv_sub hl [0, 1, 2] rfl)
    · have hw := hw.2 c2
      refine lv_iload_n hx hb d_Ans_canHold_40 rfl (lv_at hl 2 rfl) ?_
      refine lv_if_lt (tgt := 48) hx hb d_Ans_canHold_41 (by decide) (fun c3 => ?_) (fun c3 => ?_)
      · have hw := hw.1 c3
        exact t_Ans_canHold_48 hx hb hml hown hT hK hN hA hRc hRs hRf hRl hNN hE hret  l0 l1 l2 x H locs ls  hw hW hS (lv_sub hl [0, 1, 2] rfl)
      · have hw := hw.2 c3
        refine lv_iconst (v := 1) hx hb d_Ans_canHold_44 (by decide) ?_
        refine lv_goto (tgt := 49) hx hb d_Ans_canHold_45 (by decide) ?_
        exact hret 1 x H locs 49 ls d_Ans_canHold_49 rfl hw hW hS
  · have hw := hw.2.1 c1
    refine lv_tableIn (tgt := 50) (off := 49) hx hb d_Ans_canHold_1 (by rw [c1]; decide) (by rw [c1]; decide) (by rw [c1]; rfl) (by decide) ?_
    refine lv_iload_n hx hb d_Ans_canHold_50 rfl (lv_at hl 1 rfl) ?_
    refine lv_if_ne (tgt := 58) hx hb d_Ans_canHold_51 (by decide) (fun c4 => ?_) (fun c4 => ?_)
    · have hw := hw.1 c4
      exact t_Ans_canHold_58 hx hb hml hown hT hK hN hA hRc hRs hRf hRl hNN hE hret  l0 l1 l2 x H locs ls  hw hW hS (lv_sub hl [0, 1, 2] rfl)
    · have hw := hw.2 c4
      refine lv_iload_n hx hb d_Ans_canHold_54 rfl (lv_at hl 2 rfl) ?_
      refine lv_if_eq (tgt := 62) hx hb d_Ans_canHold_55 (by decide) (fun c5 => ?_) (fun c5 => ?_)
      · have hw := hw.1 c5
        refine lv_iconst (v := 0) hx hb d_Ans_canHold_62 (by decide) ?_
        exact hret 0 x H locs 63 ls d_Ans_canHold_63 rfl hw hW hS
      · have hw := hw.2 c5
        exact t_Ans_canHold_58 hx hb hml hown hT hK hN hA hRc hRs hRf hRl hNN hE hret  l0 l1 l2 x H locs ls  hw hW hS (lv_sub hl [0, 1, 2] rfl)
  · have hw := hw.2.2.1 c1
    refine lv_tableIn (tgt := 64) (off := 63) hx hb d_Ans_canHold_1 (by rw [c1]; decide) (by rw [c1]; decide) (by rw [c1]; rfl) (by decide) ?_
    refine lv_iload_n hx hb d_Ans_canHold_64 rfl (lv_at hl 1 rfl) ?_
    refine lv_if_ge (tgt := 72) hx hb d_Ans_canHold_65 (by decide) (fun c6 => ?_) (fun c6 => ?_)
    · have hw := hw.1 c6
      refine lv_iconst (v := 0) hx hb d_Ans_canHold_72 (by decide) ?_
      exact hret 0 x H locs 73 ls d_Ans_canHold_73 rfl hw hW hS
    · have hw := hw.2 c6
      refine lv_iconst (v := 1) hx hb d_Ans_canHold_68 (by decide) ?_
      refine lv_goto (tgt := 73) hx hb d_Ans_canHold_69 (by decide) ?_
      exact hret 1 x H locs 73 ls d_Ans_canHold_73 rfl hw hW hS
  · have hw := hw.2.2.2.1 c1
    refine lv_tableIn (tgt := 74) (off := 73) hx hb d_Ans_canHold_1 (by rw [c1]; decide) (by rw [c1]; decide) (by rw [c1]; rfl) (by decide) ?_
    refine lv_iload_n hx hb d_Ans_canHold_74 rfl (lv_at hl 2 rfl) ?_
    refine lv_if_lt (tgt := 82) hx hb d_Ans_canHold_75 (by decide) (fun c7 => ?_) (fun c7 => ?_)
    · have hw := hw.1 c7
      refine lv_iconst (v := 0) hx hb d_Ans_canHold_82 (by decide) ?_
      exact hret 0 x H locs 83 ls d_Ans_canHold_83 rfl hw hW hS
    · have hw := hw.2 c7
      refine lv_iconst (v := 1) hx hb d_Ans_canHold_78 (by decide) ?_
      refine lv_goto (tgt := 83) hx hb d_Ans_canHold_79 (by decide) ?_
      exact hret 1 x H locs 83 ls d_Ans_canHold_83 rfl hw hW hS
  · have hw := hw.2.2.2.2.1 c1
    refine lv_tableIn (tgt := 84) (off := 83) hx hb d_Ans_canHold_1 (by rw [c1]; decide) (by rw [c1]; decide) (by rw [c1]; rfl) (by decide) ?_
    refine lv_iload_n hx hb d_Ans_canHold_84 rfl (lv_at hl 2 rfl) ?_
    refine lv_if_le (tgt := 92) hx hb d_Ans_canHold_85 (by decide) (fun c8 => ?_) (fun c8 => ?_)
    · have hw := hw.1 c8
      refine lv_iconst (v := 0) hx hb d_Ans_canHold_92 (by decide) ?_
      exact hret 0 x H locs 93 ls d_Ans_canHold_93 rfl hw hW hS
    · have hw := hw.2 c8
      refine lv_iconst (v := 1) hx hb d_Ans_canHold_88 (by decide) ?_
      refine lv_goto (tgt := 93) hx hb d_Ans_canHold_89 (by decide) ?_
      exact hret 1 x H locs 93 ls d_Ans_canHold_93 rfl hw hW hS
  · have hw := hw.2.2.2.2.2 c1
    refine lv_tableOut (tgt := 94) hx hb d_Ans_canHold_1 c1 (by decide) ?_
    refine lv_iload_n hx hb d_Ans_canHold_94 rfl (lv_at hl 1 rfl) ?_
    refine lv_if_gt (tgt := 102) hx hb d_Ans_canHold_95 (by decide) (fun c9 => ?_) (fun c9 => ?_)
    · have hw := hw.1 c9
      refine lv_iconst (v := 0) hx hb d_Ans_canHold_102 (by decide) ?_
      exact hret 0 x H locs 103 ls d_Ans_canHold_103 rfl hw hW hS
    · have hw := hw.2 c9
      refine lv_iconst (v := 1) hx hb d_Ans_canHold_98 (by decide) ?_
      refine lv_goto (tgt := 103) hx hb d_Ans_canHold_99 (by decide) ?_
      exact hret 1 x H locs 103 ls d_Ans_canHold_103 rfl hw hW hS
set_option maxHeartbeats 4000000 in
set_option maxRecDepth 100000 in
theorem k_Ans_canHold (l : Launch) (dC : Nat → ClassId) (dI : Nat → Nat → Nat) (cI cB cJ cZ : ClassId) (ad : Nat → Nat) (NN : Nat) (E : Heap) (tM tC : Nat) (kK kV : Nat → Nat) (hNN : 152 ≤ NN) (sz : Nat) (l0 : Int32) (l1 : Int32) (l2 : Int32) (x : St) {post : Int32 → St → Prop} (hw : wp_Ans_canHold post l0 l1 l2 x) : Met l y_Ans_canHold (wsOf y_Ans_canHold b_Ans_canHold 3 (some (.boolean))) ({ frames := 0, cells := 0, slots := 0, locals := 0 }) (va_Pc [.int l0, .int l1, .int l2] (PVc dC dI cI cB cJ cZ ad stC kcC NN E tM tC kK kV sz x)) (va_Qi (fun (r : Int32) (y : St) => post r y) (fun y t => Wd dC dI cI cB cJ cZ ad stC kcC NN (va_A (pic ad stC kcC NN cI cB cJ cZ x) sz) y t.heap) (va_A (pic ad stC kcC NN cI cB cJ cZ x) sz)) 0 0 (va_A (pic ad stC kcC NN cI cB cJ cZ x) sz) := by
  refine Met.ofW (cc := b_Ans_canHold) (maxL := 3) (ret := some (.boolean)) (by decide) rfl ?_
  intro p e s m args below meth c s₁ B hml hv
  obtain ⟨rfl, ⟨hsz, hW0, hK, hN⟩, hE⟩ := hv
  have hx := B.exec
  have hb := B.bytes
  have hr := B.returns
  have hts := atoms_spec B.pre
  have hT : ∀ w ∈ TG, w.before _ s = true := fun w h => hts w (List.mem_cons_of_mem _ h)
  have hown : s.vm.findClass R_Ans = some m.cls := findClass_of_methodNamed B.named
  have hlocks := B.notSynchronized
  subst hsz
  have hW : Wd dC dI cI cB cJ cZ ad stC kcC NN (va_A (pic ad stC kcC NN cI cB cJ cZ x) s.heap.size) x s.heap := ⟨hW0.1, hW0.2.1.self (sz := s.heap.size), hW0.2.2⟩
  generalize hAe : va_A (pic ad stC kcC NN cI cB cJ cZ x) s.heap.size = A at hW hE ⊢
  have hA : ∀ q : Nat, s.heap.size ≤ q → A q := fun q h => by rw [← hAe]; exact Or.inr h
  have hS : va_S A s.heap s.heap [] := va_S.rf
  have hl := lv_entry ([.int l0, .int l1, .int l2]) (n := 3) (Nat.le_of_ble_eq_true rfl)
  rw [lg_entry_eq]
  generalize (lg_sl ([.int l0, .int l1, .int l2]) ++ List.replicate (3 - (lg_sl ([.int l0, .int l1, .int l2])).length) Slot.unset).toArray = ls at hl ⊢
  have hl : lv_has ls 3 [(0, .int l0), (1, .int l1), (2, .int l2)] := hl
  exact t_Ans_canHold_e hx hb hml hown hT hK hN hA (Nat.le_refl 0) (Nat.le_refl 0) (Nat.le_refl 0) (Nat.le_refl 0) hNN hE (fun r x H locs pc ls hd hz hp hW hS => W.zret (v := r) (ty := .boolean) hx hb hr hz (fun t ht hM => ⟨⟨r, x, rfl, hp, Wd.back hW ht.symm (fun _ z => z)⟩, hS.F ht⟩) hS.2.2 hd hlocks)  l0 l1 l2 x _ _ ls  hw hW hS hl
set_option maxRecDepth 100000 in
set_option maxHeartbeats 4000000 in
set_option maxRecDepth 100000 in
theorem t_Ans_holds_e {p : Program} {l : Launch} {e : Env} {R : Room} {s : State} {m : MethodId} {args : Array Value} {below : List Frame} {meth : Method} {c : Code} {cells slots : Nat} {Q : State → Prop} {dC : Nat → ClassId} {dI : Nat → Nat → Nat} {cI cB cJ cZ : ClassId} {A : Nat → Prop} {ad : Nat → Nat} {NN : Nat} {E : Heap} {tM tC : Nat} {kK kV : Nat → Nat} {post : Int32 → St → Prop} (hx : p.tables.exec = Jvm.exec) (hb : c.code = b_Ans_holds) (hml : c.maxLocals = 2) (hown : s.vm.findClass R_Ans = some m.cls) (hT : ∀ w ∈ TG, w.before args s = true) (hK : va_K (dC, dI) CL (TY cI cB cJ cZ) s) (hN : NW s) (hA : ∀ q : Nat, s.heap.size ≤ q → A q) (hRc : cells ≤ R.cells) (hRs : slots ≤ R.slots) (hRf : 0 ≤ R.frames) (hRl : 0 ≤ R.locals) (hNN : 152 ≤ NN) (hE : CE E tM tC kK kV A s) (hret : ∀ (r : Int32) (x : St) (H : Heap) (locs : List Loc) (pc : Nat) (ls : Array Slot), decode b_Ans_holds pc = .ok (.ireturn, 1) → narrow .boolean (.int r) = .int r → post r x → Wd dC dI cI cB cJ cZ ad stC kcC NN A x H → va_S A s.heap H locs → W p l e R s m args below meth c H locs cells slots Q (F0 m pc ls [.int r])) : ∀ (l0 : Int32) (l1 : Int32) (x : St) (H : Heap) (locs : List Loc) (ls : Array Slot), wp_Ans_holds post l0 l1 x → Wd dC dI cI cB cJ cZ ad stC kcC NN A x H → va_S A s.heap H locs → lv_has ls 2 [(0, .int l0), (1, .int l1)] → W p l e R s m args below meth c H locs cells slots Q (F0 m 0 ls []) := by
  intro l0 l1 x H locs ls  hw hW hS hl
  unfold wp_Ans_holds at hw
  refine lv_iload_n hx hb d_Ans_holds_0 rfl (lv_at hl 0 rfl) ?_
  rcases (show (l0 : Int32).toInt = 0 ∨ (l0 : Int32).toInt = 1 ∨ (l0 : Int32).toInt = 2 ∨ (l0 : Int32).toInt = 3 ∨ (l0 : Int32).toInt = 4 ∨ ((l0 : Int32).toInt < 0 ∨ 4 < (l0 : Int32).toInt) by omega) with c1 | c1 | c1 | c1 | c1 | c1
  · have hw := hw.1 c1
    refine lv_tableIn (tgt := 36) (off := 35) hx hb d_Ans_holds_1 (by rw [c1]; decide) (by rw [c1]; decide) (by rw [c1]; rfl) (by decide) ?_
    refine lv_iload_n hx hb d_Ans_holds_36 rfl (lv_at hl 1 rfl) ?_
    refine lv_if_ne (tgt := 44) hx hb d_Ans_holds_37 (by decide) (fun c2 => ?_) (fun c2 => ?_)
    · have hw := hw.1 c2
      refine lv_iconst (v := 0) hx hb d_Ans_holds_44 (by decide) ?_
      exact hret 0 x H locs 45 ls d_Ans_holds_45 rfl hw hW hS
    · have hw := hw.2 c2
      refine lv_iconst (v := 1) hx hb d_Ans_holds_40 (by decide) ?_
      refine lv_goto (tgt := 45) hx hb d_Ans_holds_41 (by decide) ?_
      exact hret 1 x H locs 45 ls d_Ans_holds_45 rfl hw hW hS
  · have hw := hw.2.1 c1
    refine lv_tableIn (tgt := 46) (off := 45) hx hb d_Ans_holds_1 (by rw [c1]; decide) (by rw [c1]; decide) (by rw [c1]; rfl) (by decide) ?_
    refine lv_iload_n hx hb d_Ans_holds_46 rfl (lv_at hl 1 rfl) ?_
    refine lv_if_eq (tgt := 54) hx hb d_Ans_holds_47 (by decide) (fun c3 => ?_) (fun c3 => ?_)
    · have hw := hw.1 c3
      refine lv_iconst (v := 0) hx hb d_Ans_holds_54 (by decide) ?_
      exact hret 0 x H locs 55 ls d_Ans_holds_55 rfl hw hW hS
    · have hw := hw.2 c3
      refine lv_iconst (v := 1) hx hb d_Ans_holds_50 (by decide) ?_
      refine lv_goto (tgt := 55) hx hb d_Ans_holds_51 (by decide) ?_
      exact hret 1 x H locs 55 ls d_Ans_holds_55 rfl hw hW hS
  · have hw := hw.2.2.1 c1
    refine lv_tableIn (tgt := 56) (off := 55) hx hb d_Ans_holds_1 (by rw [c1]; decide) (by rw [c1]; decide) (by rw [c1]; rfl) (by decide) ?_
    refine lv_iload_n hx hb d_Ans_holds_56 rfl (lv_at hl 1 rfl) ?_
    refine lv_if_ge (tgt := 64) hx hb d_Ans_holds_57 (by decide) (fun c4 => ?_) (fun c4 => ?_)
    · have hw := hw.1 c4
      refine lv_iconst (v := 0) hx hb d_Ans_holds_64 (by decide) ?_
      exact hret 0 x H locs 65 ls d_Ans_holds_65 rfl hw hW hS
    · have hw := hw.2 c4
      refine lv_iconst (v := 1) hx hb d_Ans_holds_60 (by decide) ?_
      refine lv_goto (tgt := 65) hx hb d_Ans_holds_61 (by decide) ?_
      exact hret 1 x H locs 65 ls d_Ans_holds_65 rfl hw hW hS
  · have hw := hw.2.2.2.1 c1
    refine lv_tableIn (tgt := 66) (off := 65) hx hb d_Ans_holds_1 (by rw [c1]; decide) (by rw [c1]; decide) (by rw [c1]; rfl) (by decide) ?_
    refine lv_iload_n hx hb d_Ans_holds_66 rfl (lv_at hl 1 rfl) ?_
    refine lv_if_lt (tgt := 74) hx hb d_Ans_holds_67 (by decide) (fun c5 => ?_) (fun c5 => ?_)
    · have hw := hw.1 c5
      refine lv_iconst (v := 0) hx hb d_Ans_holds_74 (by decide) ?_
      exact hret 0 x H locs 75 ls d_Ans_holds_75 rfl hw hW hS
    · have hw := hw.2 c5
      refine lv_iconst (v := 1) hx hb d_Ans_holds_70 (by decide) ?_
      refine lv_goto (tgt := 75) hx hb d_Ans_holds_71 (by decide) ?_
      exact hret 1 x H locs 75 ls d_Ans_holds_75 rfl hw hW hS
  · have hw := hw.2.2.2.2.1 c1
    refine lv_tableIn (tgt := 76) (off := 75) hx hb d_Ans_holds_1 (by rw [c1]; decide) (by rw [c1]; decide) (by rw [c1]; rfl) (by decide) ?_
    refine lv_iload_n hx hb d_Ans_holds_76 rfl (lv_at hl 1 rfl) ?_
    refine lv_if_le (tgt := 84) hx hb d_Ans_holds_77 (by decide) (fun c6 => ?_) (fun c6 => ?_)
    · have hw := hw.1 c6
      refine lv_iconst (v := 0) hx hb d_Ans_holds_84 (by decide) ?_
      exact hret 0 x H locs 85 ls d_Ans_holds_85 rfl hw hW hS
    · have hw := hw.2 c6
      refine lv_iconst (v := 1) hx hb d_Ans_holds_80 (by decide) ?_
      refine lv_goto (tgt := 85) hx hb d_Ans_holds_81 (by decide) ?_
      exact hret 1 x H locs 85 ls d_Ans_holds_85 rfl hw hW hS
  · have hw := hw.2.2.2.2.2 c1
    refine lv_tableOut (tgt := 86) hx hb d_Ans_holds_1 c1 (by decide) ?_
    refine lv_iload_n hx hb d_Ans_holds_86 rfl (lv_at hl 1 rfl) ?_
    refine lv_if_gt (tgt := 94) hx hb d_Ans_holds_87 (by decide) (fun c7 => ?_) (fun c7 => ?_)
    · have hw := hw.1 c7
      refine lv_iconst (v := 0) hx hb d_Ans_holds_94 (by decide) ?_
      exact hret 0 x H locs 95 ls d_Ans_holds_95 rfl hw hW hS
    · have hw := hw.2 c7
      refine lv_iconst (v := 1) hx hb d_Ans_holds_90 (by decide) ?_
      refine lv_goto (tgt := 95) hx hb d_Ans_holds_91 (by decide) ?_
      exact hret 1 x H locs 95 ls d_Ans_holds_95 rfl hw hW hS
set_option maxHeartbeats 4000000 in
set_option maxRecDepth 100000 in
theorem k_Ans_holds (l : Launch) (dC : Nat → ClassId) (dI : Nat → Nat → Nat) (cI cB cJ cZ : ClassId) (ad : Nat → Nat) (NN : Nat) (E : Heap) (tM tC : Nat) (kK kV : Nat → Nat) (hNN : 152 ≤ NN) (sz : Nat) (l0 : Int32) (l1 : Int32) (x : St) {post : Int32 → St → Prop} (hw : wp_Ans_holds post l0 l1 x) : Met l y_Ans_holds (wsOf y_Ans_holds b_Ans_holds 2 (some (.boolean))) ({ frames := 0, cells := 0, slots := 0, locals := 0 }) (va_Pc [.int l0, .int l1] (PVc dC dI cI cB cJ cZ ad stC kcC NN E tM tC kK kV sz x)) (va_Qi (fun (r : Int32) (y : St) => post r y) (fun y t => Wd dC dI cI cB cJ cZ ad stC kcC NN (va_A (pic ad stC kcC NN cI cB cJ cZ x) sz) y t.heap) (va_A (pic ad stC kcC NN cI cB cJ cZ x) sz)) 0 0 (va_A (pic ad stC kcC NN cI cB cJ cZ x) sz) := by
  refine Met.ofW (cc := b_Ans_holds) (maxL := 2) (ret := some (.boolean)) (by decide) rfl ?_
  intro p e s m args below meth c s₁ B hml hv
  obtain ⟨rfl, ⟨hsz, hW0, hK, hN⟩, hE⟩ := hv
  have hx := B.exec
  have hb := B.bytes
  have hr := B.returns
  have hts := atoms_spec B.pre
  have hT : ∀ w ∈ TG, w.before _ s = true := fun w h => hts w (List.mem_cons_of_mem _ h)
  have hown : s.vm.findClass R_Ans = some m.cls := findClass_of_methodNamed B.named
  have hlocks := B.notSynchronized
  subst hsz
  have hW : Wd dC dI cI cB cJ cZ ad stC kcC NN (va_A (pic ad stC kcC NN cI cB cJ cZ x) s.heap.size) x s.heap := ⟨hW0.1, hW0.2.1.self (sz := s.heap.size), hW0.2.2⟩
  generalize hAe : va_A (pic ad stC kcC NN cI cB cJ cZ x) s.heap.size = A at hW hE ⊢
  have hA : ∀ q : Nat, s.heap.size ≤ q → A q := fun q h => by rw [← hAe]; exact Or.inr h
  have hS : va_S A s.heap s.heap [] := va_S.rf
  have hl := lv_entry ([.int l0, .int l1]) (n := 2) (Nat.le_of_ble_eq_true rfl)
  rw [lg_entry_eq]
  generalize (lg_sl ([.int l0, .int l1]) ++ List.replicate (2 - (lg_sl ([.int l0, .int l1])).length) Slot.unset).toArray = ls at hl ⊢
  have hl : lv_has ls 2 [(0, .int l0), (1, .int l1)] := hl
  exact t_Ans_holds_e hx hb hml hown hT hK hN hA (Nat.le_refl 0) (Nat.le_refl 0) (Nat.le_refl 0) (Nat.le_refl 0) hNN hE (fun r x H locs pc ls hd hz hp hW hS => W.zret (v := r) (ty := .boolean) hx hb hr hz (fun t ht hM => ⟨⟨r, x, rfl, hp, Wd.back hW ht.symm (fun _ z => z)⟩, hS.F ht⟩) hS.2.2 hd hlocks)  l0 l1 x _ _ ls  hw hW hS hl
set_option maxRecDepth 100000 in
set_option maxHeartbeats 4000000 in
set_option maxRecDepth 100000 in
theorem t_Ans_canBe_98 {p : Program} {l : Launch} {e : Env} {R : Room} {s : State} {m : MethodId} {args : Array Value} {below : List Frame} {meth : Method} {c : Code} {cells slots : Nat} {Q : State → Prop} {dC : Nat → ClassId} {dI : Nat → Nat → Nat} {cI cB cJ cZ : ClassId} {A : Nat → Prop} {ad : Nat → Nat} {NN : Nat} {E : Heap} {tM tC : Nat} {kK kV : Nat → Nat} {post : Int32 → St → Prop} {rec98 : Nat → Int32 → Int32 → Int32 → Int64 → Nat → Nat → Int32 → Int32 → Int32 → St → Prop} (hx : p.tables.exec = Jvm.exec) (hb : c.code = b_Ans_canBe) (hml : c.maxLocals = 11) (hown : s.vm.findClass R_Ans = some m.cls) (hT : ∀ w ∈ TG, w.before args s = true) (hK : va_K (dC, dI) CL (TY cI cB cJ cZ) s) (hN : NW s) (hA : ∀ q : Nat, s.heap.size ≤ q → A q) (hRc : cells ≤ R.cells) (hRs : slots ≤ R.slots) (hRf : 2 ≤ R.frames) (hRl : 112 ≤ R.locals) (hNN : 152 ≤ NN) (hE : CE E tM tC kK kV A s) (hret : ∀ (r : Int32) (x : St) (H : Heap) (locs : List Loc) (pc : Nat) (ls : Array Slot), decode b_Ans_canBe pc = .ok (.ireturn, 1) → narrow .boolean (.int r) = .int r → post r x → Wd dC dI cI cB cJ cZ ad stC kcC NN A x H → va_S A s.heap H locs → W p l e R s m args below meth c H locs cells slots Q (F0 m pc ls [.int r])) (hrec98 : ∀ (o : Nat) (l1 : Int32) (l2 : Int32) (l3 : Int32) (l4 : Int64) (l6 : Nat) (l7 : Nat) (l8 : Int32) (l9 : Int32) (l10 : Int32) (x : St) (H : Heap) (locs : List Loc) (ls : Array Slot), (o < NN ∧ kcC o = 10) → (l6 < NN ∧ kcC l6 = 21) → (l7 < NN ∧ kcC l7 = 21) → rec98 o l1 l2 l3 l4 l6 l7 l8 l9 l10 x → Wd dC dI cI cB cJ cZ ad stC kcC NN A x H → va_S A s.heap H locs → lv_has ls 11 [(0, .ref (ad o)), (1, .int l1), (2, .int l2), (3, .int l3), (4, .long l4), (6, .ref (ad l6)), (7, .ref (ad l7)), (8, .int l8), (9, .int l9), (10, .int l10)] → W p l e R s m args below meth c H locs cells slots Q (F0 m 98 ls [])) : ∀ (o : Nat) (l1 : Int32) (l2 : Int32) (l3 : Int32) (l4 : Int64) (l6 : Nat) (l7 : Nat) (l8 : Int32) (l9 : Int32) (l10 : Int32) (x : St) (H : Heap) (locs : List Loc) (ls : Array Slot), (o < NN ∧ kcC o = 10) → (l6 < NN ∧ kcC l6 = 21) → (l7 < NN ∧ kcC l7 = 21) → j_Ans_canBe_98 post rec98 o l1 l2 l3 l4 l6 l7 l8 l9 l10 x → Wd dC dI cI cB cJ cZ ad stC kcC NN A x H → va_S A s.heap H locs → lv_has ls 11 [(0, .ref (ad o)), (1, .int l1), (2, .int l2), (3, .int l3), (4, .long l4), (6, .ref (ad l6)), (7, .ref (ad l7)), (8, .int l8), (9, .int l9), (10, .int l10)] → W p l e R s m args below meth c H locs cells slots Q (F0 m 98 ls []) := by
  intro o l1 l2 l3 l4 l6 l7 l8 l9 l10 x H locs ls fo fl6 fl7 hw hW hS hl
  unfold j_Ans_canBe_98 at hw
  refine lv_iload hx hb d_Ans_canBe_98 (lv_at hl 9 rfl) ?_
  refine lv_iload hx hb d_Ans_canBe_100 (lv_at hl 8 rfl) ?_
  refine lv_iload hx hb d_Ans_canBe_102 (lv_at hl 7 rfl) ?_
  refine lv_sipush (v := 128) hx hb d_Ans_canBe_104 (by decide) ?_
  refine lv_irem hx hb d_Ans_canBe_107 (by decide) ?_
  refine lv_iadd hx hb d_Ans_canBe_108 ?_
  refine lv_icmp_ge (tgt := 147) hx hb d_Ans_canBe_109 (by decide) (fun c1 => ?_) (fun c1 => ?_)
  · have hw := hw.1 c1
    refine lv_iconst (v := 0) hx hb d_Ans_canBe_147 (by decide) ?_
    exact hret 0 x H locs 148 ls d_Ans_canBe_148 rfl hw hW hS
  · have hw := hw.2 c1
    refine lv_iload_n hx hb d_Ans_canBe_112 rfl (lv_at hl 1 rfl) ?_
    refine lv_iload_n hx hb d_Ans_canBe_113 rfl (lv_at hl 2 rfl) ?_
    refine lv_aload hx hb d_Ans_canBe_114 (lv_at hl 5 rfl) ?_
    refine lv_aload_n hx hb d_Ans_canBe_116 rfl (lv_at hl 0 rfl) ?_
    obtain ⟨q2, hq2, hw⟩ := hw
    refine w_getr (q := q2) (k := 14) (t := 10) (C := R_Ans) (T := F_Ans) (N := 16) hx hb hT hown hK hW fo.1 fo.2 (by decide) in_Ans rfl rfl (by decide) rfl fr_Ans_14 w_3_176 d_Ans_canBe_117 hq2 (fun aq2 bq2 => ?_)
    have fq2 : q2 < NN ∧ kcC q2 = 6 := ⟨aq2, bq2⟩
    refine w_getf (q := (stC q2 19)) (k := 19) (t := 6) (C := R_Vlt) (T := F_Vlt) (N := 20) hx hb hT hown hK hW fq2.1 fq2.2 (by decide) in_Vlt rfl rfl (by decide) rfl fr_Vlt_19 w_2_182 d_Ans_canBe_120 rfl ?_
    refine lv_iload hx hb d_Ans_canBe_123 (lv_at hl 9 rfl) ?_
    obtain ⟨hi, hw⟩ := hw
    refine w_lald (o := (stC q2 19)) hx hb hK hW (st_ty hNN fq2.1 fq2.2 rfl).1 (st_ty hNN fq2.1 fq2.2 rfl).2 hi d_Ans_canBe_125 ?_
    refine lv_aload hx hb d_Ans_canBe_126 (lv_at hl 6 rfl) ?_
    refine lv_lload hx hb d_Ans_canBe_128 (lv_at hl 4 rfl) ?_
    have hF := hW.free hS hA
    refine va_calli (va_runSN (As := [.int l2, .ref (ad l6), .long (rL x (stC q2 19) l10), .ref (ad l7), .long l4]) (rest := [.int l1]) ⟨hx, hb, hml, hown, hT⟩ (k_V_compareValues l dC dI cI cB cJ cZ ad NN E tM tC kK kV hNN H.size l2 l6 (rL x (stC q2 19) l10) l7 l4 x fl6 fl7 hw) ⟨va_cnB 5 hT (gwt_in w_5_225) rfl rfl rfl (hN _ wn_8_55 rfl) (hT _ w_1_1) (by decide +kernel) ⟨Nat.le_trans (Nat.le_of_ble_eq_true rfl) hRf, Nat.le_trans (Nat.le_of_ble_eq_true rfl) hRl⟩, hT _ w_5_224, trivial⟩ ⟨PVc.blind, PVc.at _ hW hK hN hE hS hF⟩ rfl rfl hl.1 rfl (lv_room (Nat.le_of_ble_eq_true rfl)) d_Ans_canBe_130 ⟨hRc, hRs⟩) hS (fun q _ h => hF q h) hF (fun r4 x3 t H locs ht hvm hw hB hz1 hk1 hS => ?_)
    have hW := Wd.back hB ht hF
    clear hB ht hF hz1 hk1 hvm
    have hF := hW.free hS hA
    refine va_calli (va_runS (As := [.int l1, .int r4]) (rest := []) ⟨hx, hb, hml, hown, hT⟩ (k_Ans_holds l dC dI cI cB cJ cZ ad NN E tM tC kK kV hNN H.size l1 r4 x3  hw) ⟨callB_of 2 hT (gwt_in w_8_61) rfl rfl rfl (hT _ w_1_13) (hT _ w_8_59) (by decide +kernel) ⟨Nat.le_trans (Nat.le_of_ble_eq_true rfl) hRf, Nat.le_trans (Nat.le_of_ble_eq_true rfl) hRl⟩, hT _ w_8_60⟩ ⟨PVc.blind, PVc.at _ hW hK hN hE hS hF⟩ rfl rfl hl.1 rfl (lv_room (Nat.le_of_ble_eq_true rfl)) d_Ans_canBe_133 ⟨hRc, hRs⟩) hS (fun q _ h => hF q h) hF (fun r6 x5 t H locs ht hvm hw hB hz1 hk1 hS => ?_)
    have hW := Wd.back hB ht hF
    clear hB ht hF hz1 hk1 hvm
    refine lv_if_eq (tgt := 141) hx hb d_Ans_canBe_136 (by decide) (fun c7 => ?_) (fun c7 => ?_)
    · have hw := hw.1 c7
      refine lv_iinc (v := (l10 + 1)) (lv' := [(10, .int (l10 + 1)), (0, .ref (ad o)), (1, .int l1), (2, .int l2), (3, .int l3), (4, .long l4), (6, .ref (ad l6)), (7, .ref (ad l7)), (8, .int l8), (9, .int l9)]) hx hb d_Ans_canBe_141 hl (k := 9) rfl rfl (by decide) rfl (fun ls hl => ?_)
      refine lv_goto (tgt := 98) hx hb d_Ans_canBe_144 (by decide) ?_
      exact hrec98 o l1 l2 l3 l4 l6 l7 l8 l9 (l10 + 1) x5 H locs ls fo fl6 fl7 hw hW hS (lv_sub hl [1, 2, 3, 4, 5, 6, 7, 8, 9, 0] rfl)
    · have hw := hw.2 c7
      refine lv_iconst (v := 1) hx hb d_Ans_canBe_139 (by decide) ?_
      exact hret 1 x5 H locs 140 ls d_Ans_canBe_140 rfl hw hW hS
set_option maxHeartbeats 4000000 in
set_option maxRecDepth 100000 in
theorem tl_Ans_canBe_98 {p : Program} {l : Launch} {e : Env} {R : Room} {s : State} {m : MethodId} {args : Array Value} {below : List Frame} {meth : Method} {c : Code} {cells slots : Nat} {Q : State → Prop} {dC : Nat → ClassId} {dI : Nat → Nat → Nat} {cI cB cJ cZ : ClassId} {A : Nat → Prop} {ad : Nat → Nat} {NN : Nat} {E : Heap} {tM tC : Nat} {kK kV : Nat → Nat} {post : Int32 → St → Prop} (hx : p.tables.exec = Jvm.exec) (hb : c.code = b_Ans_canBe) (hml : c.maxLocals = 11) (hown : s.vm.findClass R_Ans = some m.cls) (hT : ∀ w ∈ TG, w.before args s = true) (hK : va_K (dC, dI) CL (TY cI cB cJ cZ) s) (hN : NW s) (hA : ∀ q : Nat, s.heap.size ≤ q → A q) (hRc : cells ≤ R.cells) (hRs : slots ≤ R.slots) (hRf : 2 ≤ R.frames) (hRl : 112 ≤ R.locals) (hNN : 152 ≤ NN) (hE : CE E tM tC kK kV A s) (hret : ∀ (r : Int32) (x : St) (H : Heap) (locs : List Loc) (pc : Nat) (ls : Array Slot), decode b_Ans_canBe pc = .ok (.ireturn, 1) → narrow .boolean (.int r) = .int r → post r x → Wd dC dI cI cB cJ cZ ad stC kcC NN A x H → va_S A s.heap H locs → W p l e R s m args below meth c H locs cells slots Q (F0 m pc ls [.int r]))  : ∀ n : Nat, ∀ (o : Nat) (l1 : Int32) (l2 : Int32) (l3 : Int32) (l4 : Int64) (l6 : Nat) (l7 : Nat) (l8 : Int32) (l9 : Int32) (l10 : Int32) (x : St) (H : Heap) (locs : List Loc) (ls : Array Slot), (o < NN ∧ kcC o = 10) → (l6 < NN ∧ kcC l6 = 21) → (l7 < NN ∧ kcC l7 = 21) → wl_Ans_canBe_98 post n o l1 l2 l3 l4 l6 l7 l8 l9 l10 x → Wd dC dI cI cB cJ cZ ad stC kcC NN A x H → va_S A s.heap H locs → lv_has ls 11 [(0, .ref (ad o)), (1, .int l1), (2, .int l2), (3, .int l3), (4, .long l4), (6, .ref (ad l6)), (7, .ref (ad l7)), (8, .int l8), (9, .int l9), (10, .int l10)] → W p l e R s m args below meth c H locs cells slots Q (F0 m 98 ls []) := by
  intro n
  induction n with
  | zero => intro o l1 l2 l3 l4 l6 l7 l8 l9 l10 x H locs ls fo fl6 fl7 hw; exact hw.elim
  | succ n ih => intro o l1 l2 l3 l4 l6 l7 l8 l9 l10 x H locs ls fo fl6 fl7 hw hW hS hl; exact t_Ans_canBe_98 hx hb hml hown hT hK hN hA hRc hRs hRf hRl hNN hE hret  ih o l1 l2 l3 l4 l6 l7 l8 l9 l10 x H locs ls fo fl6 fl7 hw hW hS hl
set_option maxRecDepth 100000 in
set_option maxHeartbeats 4000000 in
set_option maxRecDepth 100000 in
theorem t_Ans_canBe_e {p : Program} {l : Launch} {e : Env} {R : Room} {s : State} {m : MethodId} {args : Array Value} {below : List Frame} {meth : Method} {c : Code} {cells slots : Nat} {Q : State → Prop} {dC : Nat → ClassId} {dI : Nat → Nat → Nat} {cI cB cJ cZ : ClassId} {A : Nat → Prop} {ad : Nat → Nat} {NN : Nat} {E : Heap} {tM tC : Nat} {kK kV : Nat → Nat} {post : Int32 → St → Prop} (hx : p.tables.exec = Jvm.exec) (hb : c.code = b_Ans_canBe) (hml : c.maxLocals = 11) (hown : s.vm.findClass R_Ans = some m.cls) (hT : ∀ w ∈ TG, w.before args s = true) (hK : va_K (dC, dI) CL (TY cI cB cJ cZ) s) (hN : NW s) (hA : ∀ q : Nat, s.heap.size ≤ q → A q) (hRc : cells ≤ R.cells) (hRs : slots ≤ R.slots) (hRf : 2 ≤ R.frames) (hRl : 112 ≤ R.locals) (hNN : 152 ≤ NN) (hE : CE E tM tC kK kV A s) (hret : ∀ (r : Int32) (x : St) (H : Heap) (locs : List Loc) (pc : Nat) (ls : Array Slot), decode b_Ans_canBe pc = .ok (.ireturn, 1) → narrow .boolean (.int r) = .int r → post r x → Wd dC dI cI cB cJ cZ ad stC kcC NN A x H → va_S A s.heap H locs → W p l e R s m args below meth c H locs cells slots Q (F0 m pc ls [.int r])) : ∀ (o : Nat) (l1 : Int32) (l2 : Int32) (l3 : Int32) (l4 : Int64) (x : St) (H : Heap) (locs : List Loc) (ls : Array Slot), (o < NN ∧ kcC o = 10) → wp_Ans_canBe post o l1 l2 l3 l4 x → Wd dC dI cI cB cJ cZ ad stC kcC NN A x H → va_S A s.heap H locs → lv_has ls 11 [(0, .ref (ad o)), (1, .int l1), (2, .int l2), (3, .int l3), (4, .long l4)] → W p l e R s m args below meth c H locs cells slots Q (F0 m 0 ls []) := by
  intro o l1 l2 l3 l4 x H locs ls fo hw hW hS hl
  unfold wp_Ans_canBe at hw
  refine lv_aload_n hx hb d_Ans_canBe_0 rfl (lv_at hl 0 rfl) ?_
  obtain ⟨q8, hq8, hw⟩ := hw
  refine w_getr (q := q8) (k := 14) (t := 10) (C := R_Ans) (T := F_Ans) (N := 16) hx hb hT hown hK hW fo.1 fo.2 (by decide) in_Ans rfl rfl (by decide) rfl fr_Ans_14 w_3_176 d_Ans_canBe_1 hq8 (fun aq8 bq8 => ?_)
  have fq8 : q8 < NN ∧ kcC q8 = 6 := ⟨aq8, bq8⟩
  refine w_getf (q := (stC q8 6)) (k := 6) (t := 6) (C := R_Vlt) (T := F_Vlt) (N := 20) hx hb hT hown hK hW fq8.1 fq8.2 (by decide) in_Vlt rfl rfl (by decide) rfl fr_Vlt_6 w_2_142 d_Ans_canBe_4 rfl ?_
  refine lv_astore (lv' := [(6, .ref (ad (stC q8 6))), (0, .ref (ad o)), (1, .int l1), (2, .int l2), (3, .int l3), (4, .long l4)]) hx hb d_Ans_canBe_7 hl (by decide) rfl (fun ls hl => ?_)
  refine lv_aload_n hx hb d_Ans_canBe_9 rfl (lv_at hl 1 rfl) ?_
  obtain ⟨q9, hq9, hw⟩ := hw
  refine w_getr (q := q9) (k := 15) (t := 10) (C := R_Ans) (T := F_Ans) (N := 16) hx hb hT hown hK hW fo.1 fo.2 (by decide) in_Ans rfl rfl (by decide) rfl fr_Ans_15 w_3_177 d_Ans_canBe_10 hq9 (fun aq9 bq9 => ?_)
  have fq9 : q9 < NN ∧ kcC q9 = 9 := ⟨aq9, bq9⟩
  refine w_getf (q := (stC q9 16)) (k := 16) (t := 9) (C := R_Qry) (T := F_Qry) (N := 20) hx hb hT hown hK hW fq9.1 fq9.2 (by decide) in_Qry rfl rfl (by decide) rfl fr_Qry_16 w_3_104 d_Ans_canBe_13 rfl ?_
  refine lv_astore (lv' := [(7, .ref (ad (stC q9 16))), (6, .ref (ad (stC q8 6))), (0, .ref (ad o)), (1, .int l1), (2, .int l2), (3, .int l3), (4, .long l4)]) hx hb d_Ans_canBe_16 hl (by decide) rfl (fun ls hl => ?_)
  refine lv_aload_n hx hb d_Ans_canBe_18 rfl (lv_at hl 2 rfl) ?_
  obtain ⟨q10, hq10, hw⟩ := hw
  refine w_getr (q := q10) (k := 14) (t := 10) (C := R_Ans) (T := F_Ans) (N := 16) hx hb hT hown hK hW fo.1 fo.2 (by decide) in_Ans rfl rfl (by decide) rfl fr_Ans_14 w_3_176 d_Ans_canBe_19 hq10 (fun aq10 bq10 => ?_)
  have fq10 : q10 < NN ∧ kcC q10 = 6 := ⟨aq10, bq10⟩
  refine w_getf (q := (stC q10 18)) (k := 18) (t := 6) (C := R_Vlt) (T := F_Vlt) (N := 20) hx hb hT hown hK hW fq10.1 fq10.2 (by decide) in_Vlt rfl rfl (by decide) rfl fr_Vlt_18 w_2_179 d_Ans_canBe_22 rfl ?_
  refine lv_iload_n hx hb d_Ans_canBe_25 rfl (lv_at hl 5 rfl) ?_
  obtain ⟨hi, hw⟩ := hw
  refine w_iald (o := (stC q10 18)) hx hb hK hW (st_ty hNN fq10.1 fq10.2 rfl).1 (st_ty hNN fq10.1 fq10.2 rfl).2 hi d_Ans_canBe_26 ?_
  refine lv_topi (fun v11 ev11 => ?_)
  have hw := hw v11 ev11
  refine lv_istore (lv' := [(8, .int v11), (7, .ref (ad (stC q9 16))), (6, .ref (ad (stC q8 6))), (0, .ref (ad o)), (1, .int l1), (2, .int l2), (3, .int l3), (4, .long l4)]) hx hb d_Ans_canBe_27 hl (by decide) rfl (fun ls hl => ?_)
  refine lv_iload hx hb d_Ans_canBe_29 (lv_at hl 0 rfl) ?_
  refine lv_iconst (v := (-1)) hx hb d_Ans_canBe_31 (by decide) ?_
  refine lv_icmp_ne (tgt := 86) hx hb d_Ans_canBe_32 (by decide) (fun c12 => ?_) (fun c12 => ?_)
  · have hw := hw.1 c12
    refine lv_iload hx hb d_Ans_canBe_86 (lv_at hl 0 rfl) ?_
    refine lv_sipush (v := 128) hx hb d_Ans_canBe_88 (by decide) ?_
    refine lv_idiv hx hb d_Ans_canBe_91 (by decide) ?_
    refine lv_topi (fun v13 ev13 => ?_)
    have hw := hw v13 ev13
    refine lv_istore (lv' := [(9, .int v13), (8, .int v11), (7, .ref (ad (stC q9 16))), (6, .ref (ad (stC q8 6))), (0, .ref (ad o)), (1, .int l1), (2, .int l2), (3, .int l3), (4, .long l4)]) hx hb d_Ans_canBe_92 hl (by decide) rfl (fun ls hl => ?_)
    refine lv_iload hx hb d_Ans_canBe_94 (lv_at hl 0 rfl) ?_
    refine lv_istore (lv' := [(10, .int v13), (9, .int v13), (8, .int v11), (7, .ref (ad (stC q9 16))), (6, .ref (ad (stC q8 6))), (0, .ref (ad o)), (1, .int l1), (2, .int l2), (3, .int l3), (4, .long l4)]) hx hb d_Ans_canBe_96 hl (by decide) rfl (fun ls hl => ?_)
    obtain ⟨n, hw⟩ := hw
    exact tl_Ans_canBe_98 hx hb hml hown hT hK hN hA hRc hRs hRf hRl hNN hE hret  n o l1 l2 l3 l4 (stC q8 6) (stC q9 16) v11 v13 v13 x H locs ls fo (st_ty hNN fq8.1 fq8.2 rfl) (st_ty hNN fq9.1 fq9.2 rfl) hw hW hS (lv_sub hl [5, 6, 7, 8, 9, 4, 3, 2, 1, 0] rfl)
  · have hw := hw.2 c12
    refine lv_iload_n hx hb d_Ans_canBe_35 rfl (lv_at hl 5 rfl) ?_
    refine lv_aload hx hb d_Ans_canBe_36 (lv_at hl 2 rfl) ?_
    refine lv_aload_n hx hb d_Ans_canBe_38 rfl (lv_at hl 3 rfl) ?_
    obtain ⟨q14, hq14, hw⟩ := hw
    refine w_getr (q := q14) (k := 14) (t := 10) (C := R_Ans) (T := F_Ans) (N := 16) hx hb hT hown hK hW fo.1 fo.2 (by decide) in_Ans rfl rfl (by decide) rfl fr_Ans_14 w_3_176 d_Ans_canBe_39 hq14 (fun aq14 bq14 => ?_)
    have fq14 : q14 < NN ∧ kcC q14 = 6 := ⟨aq14, bq14⟩
    refine w_getf (q := (stC q14 16)) (k := 16) (t := 6) (C := R_Vlt) (T := F_Vlt) (N := 20) hx hb hT hown hK hW fq14.1 fq14.2 (by decide) in_Vlt rfl rfl (by decide) rfl fr_Vlt_16 w_2_173 d_Ans_canBe_42 rfl ?_
    refine lv_iload_n hx hb d_Ans_canBe_45 rfl (lv_at hl 6 rfl) ?_
    obtain ⟨hi, hw⟩ := hw
    refine w_lald (o := (stC q14 16)) hx hb hK hW (st_ty hNN fq14.1 fq14.2 rfl).1 (st_ty hNN fq14.1 fq14.2 rfl).2 hi d_Ans_canBe_46 ?_
    refine lv_aload hx hb d_Ans_canBe_47 (lv_at hl 1 rfl) ?_
    refine lv_lload hx hb d_Ans_canBe_49 (lv_at hl 7 rfl) ?_
    have hF := hW.free hS hA
    refine va_calli (va_runSN (As := [.int l2, .ref (ad (stC q8 6)), .long (rL x (stC q14 16) l3), .ref (ad (stC q9 16)), .long l4]) (rest := []) ⟨hx, hb, hml, hown, hT⟩ (k_V_compareValues l dC dI cI cB cJ cZ ad NN E tM tC kK kV hNN H.size l2 (stC q8 6) (rL x (stC q14 16) l3) (stC q9 16) l4 x (st_ty hNN fq8.1 fq8.2 rfl) (st_ty hNN fq9.1 fq9.2 rfl) hw) ⟨va_cnB 5 hT (gwt_in w_5_225) rfl rfl rfl (hN _ wn_8_55 rfl) (hT _ w_1_1) (by decide +kernel) ⟨Nat.le_trans (Nat.le_of_ble_eq_true rfl) hRf, Nat.le_trans (Nat.le_of_ble_eq_true rfl) hRl⟩, hT _ w_5_224, trivial⟩ ⟨PVc.blind, PVc.at _ hW hK hN hE hS hF⟩ rfl rfl hl.1 rfl (lv_room (Nat.le_of_ble_eq_true rfl)) d_Ans_canBe_51 ⟨hRc, hRs⟩) hS (fun q _ h => hF q h) hF (fun r16 x15 t H locs ht hvm hw hB hz1 hk1 hS => ?_)
    have hW := Wd.back hB ht hF
    clear hB ht hF hz1 hk1 hvm
    refine lv_istore (lv' := [(9, .int r16), (8, .int v11), (7, .ref (ad (stC q9 16))), (6, .ref (ad (stC q8 6))), (0, .ref (ad o)), (1, .int l1), (2, .int l2), (3, .int l3), (4, .long l4)]) hx hb d_Ans_canBe_54 hl (by decide) rfl (fun ls hl => ?_)
    refine lv_iload_n hx hb d_Ans_canBe_56 rfl (lv_at hl 6 rfl) ?_
    refine lv_aload hx hb d_Ans_canBe_57 (lv_at hl 3 rfl) ?_
    refine lv_aload_n hx hb d_Ans_canBe_59 rfl (lv_at hl 4 rfl) ?_
    obtain ⟨q17, hq17, hw⟩ := hw
    refine w_getr (q := q17) (k := 14) (t := 10) (C := R_Ans) (T := F_Ans) (N := 16) hx hb hT hown hK hW fo.1 fo.2 (by decide) in_Ans rfl rfl (by decide) rfl fr_Ans_14 w_3_176 d_Ans_canBe_60 hq17 (fun aq17 bq17 => ?_)
    have fq17 : q17 < NN ∧ kcC q17 = 6 := ⟨aq17, bq17⟩
    refine w_getf (q := (stC q17 17)) (k := 17) (t := 6) (C := R_Vlt) (T := F_Vlt) (N := 20) hx hb hT hown hK hW fq17.1 fq17.2 (by decide) in_Vlt rfl rfl (by decide) rfl fr_Vlt_17 w_2_176 d_Ans_canBe_63 rfl ?_
    refine lv_iload_n hx hb d_Ans_canBe_66 rfl (lv_at hl 7 rfl) ?_
    obtain ⟨hi, hw⟩ := hw
    refine w_lald (o := (stC q17 17)) hx hb hK hW (st_ty hNN fq17.1 fq17.2 rfl).1 (st_ty hNN fq17.1 fq17.2 rfl).2 hi d_Ans_canBe_67 ?_
    refine lv_aload hx hb d_Ans_canBe_68 (lv_at hl 2 rfl) ?_
    refine lv_lload hx hb d_Ans_canBe_70 (lv_at hl 8 rfl) ?_
    have hF := hW.free hS hA
    refine va_calli (va_runSN (As := [.int l2, .ref (ad (stC q8 6)), .long (rL x15 (stC q17 17) l3), .ref (ad (stC q9 16)), .long l4]) (rest := []) ⟨hx, hb, hml, hown, hT⟩ (k_V_compareValues l dC dI cI cB cJ cZ ad NN E tM tC kK kV hNN H.size l2 (stC q8 6) (rL x15 (stC q17 17) l3) (stC q9 16) l4 x15 (st_ty hNN fq8.1 fq8.2 rfl) (st_ty hNN fq9.1 fq9.2 rfl) hw) ⟨va_cnB 5 hT (gwt_in w_5_225) rfl rfl rfl (hN _ wn_8_55 rfl) (hT _ w_1_1) (by decide +kernel) ⟨Nat.le_trans (Nat.le_of_ble_eq_true rfl) hRf, Nat.le_trans (Nat.le_of_ble_eq_true rfl) hRl⟩, hT _ w_5_224, trivial⟩ ⟨PVc.blind, PVc.at _ hW hK hN hE hS hF⟩ rfl rfl hl.1 rfl (lv_room (Nat.le_of_ble_eq_true rfl)) d_Ans_canBe_72 ⟨hRc, hRs⟩) hS (fun q _ h => hF q h) hF (fun r19 x18 t H locs ht hvm hw hB hz1 hk1 hS => ?_)
    have hW := Wd.back hB ht hF
    clear hB ht hF hz1 hk1 hvm
    refine lv_istore (lv' := [(10, .int r19), (9, .int r16), (8, .int v11), (7, .ref (ad (stC q9 16))), (6, .ref (ad (stC q8 6))), (0, .ref (ad o)), (1, .int l1), (2, .int l2), (3, .int l3), (4, .long l4)]) hx hb d_Ans_canBe_75 hl (by decide) rfl (fun ls hl => ?_)
    refine lv_iload_n hx hb d_Ans_canBe_77 rfl (lv_at hl 6 rfl) ?_
    refine lv_iload hx hb d_Ans_canBe_78 (lv_at hl 1 rfl) ?_
    refine lv_iload hx hb d_Ans_canBe_80 (lv_at hl 0 rfl) ?_
    have hF := hW.free hS hA
    refine va_calli (va_runS (As := [.int l1, .int r16, .int r19]) (rest := []) ⟨hx, hb, hml, hown, hT⟩ (k_Ans_canHold l dC dI cI cB cJ cZ ad NN E tM tC kK kV hNN H.size l1 r16 r19 x18  hw) ⟨callB_of 3 hT (gwt_in w_8_58) rfl rfl rfl (hT _ w_1_13) (hT _ w_8_56) (by decide +kernel) ⟨Nat.le_trans (Nat.le_of_ble_eq_true rfl) hRf, Nat.le_trans (Nat.le_of_ble_eq_true rfl) hRl⟩, hT _ w_8_57⟩ ⟨PVc.blind, PVc.at _ hW hK hN hE hS hF⟩ rfl rfl hl.1 rfl (lv_room (Nat.le_of_ble_eq_true rfl)) d_Ans_canBe_82 ⟨hRc, hRs⟩) hS (fun q _ h => hF q h) hF (fun r21 x20 t H locs ht hvm hw hB hz1 hk1 hS => ?_)
    have hW := Wd.back hB ht hF
    clear hB ht hF hz1 hk1 hvm
    exact hret r21 x20 H locs 85 ls d_Ans_canBe_85 hw.1 hw.2 hW hS
set_option maxHeartbeats 4000000 in
set_option maxRecDepth 100000 in
theorem k_Ans_canBe (l : Launch) (dC : Nat → ClassId) (dI : Nat → Nat → Nat) (cI cB cJ cZ : ClassId) (ad : Nat → Nat) (NN : Nat) (E : Heap) (tM tC : Nat) (kK kV : Nat → Nat) (hNN : 152 ≤ NN) (sz : Nat) (o : Nat) (l1 : Int32) (l2 : Int32) (l3 : Int32) (l4 : Int64) (x : St) (fo : o < NN ∧ kcC o = 10) {post : Int32 → St → Prop} (hw : wp_Ans_canBe post o l1 l2 l3 l4 x) : Met l y_Ans_canBe (wsOf y_Ans_canBe b_Ans_canBe 11 (some (.boolean))) ({ frames := 2, cells := 0, slots := 0, locals := 112 }) (va_Pc [.ref (ad o), .int l1, .int l2, .int l3, .long l4] (PVc dC dI cI cB cJ cZ ad stC kcC NN E tM tC kK kV sz x)) (va_Qi (fun (r : Int32) (y : St) => post r y) (fun y t => Wd dC dI cI cB cJ cZ ad stC kcC NN (va_A (pic ad stC kcC NN cI cB cJ cZ x) sz) y t.heap) (va_A (pic ad stC kcC NN cI cB cJ cZ x) sz)) 0 0 (va_A (pic ad stC kcC NN cI cB cJ cZ x) sz) := by
  refine Met.ofW (cc := b_Ans_canBe) (maxL := 11) (ret := some (.boolean)) (by decide) rfl ?_
  intro p e s m args below meth c s₁ B hml hv
  obtain ⟨rfl, ⟨hsz, hW0, hK, hN⟩, hE⟩ := hv
  have hx := B.exec
  have hb := B.bytes
  have hr := B.returns
  have hts := atoms_spec B.pre
  have hT : ∀ w ∈ TG, w.before _ s = true := fun w h => hts w (List.mem_cons_of_mem _ h)
  have hown : s.vm.findClass R_Ans = some m.cls := findClass_of_methodNamed B.named
  have hlocks := B.notSynchronized
  subst hsz
  have hW : Wd dC dI cI cB cJ cZ ad stC kcC NN (va_A (pic ad stC kcC NN cI cB cJ cZ x) s.heap.size) x s.heap := ⟨hW0.1, hW0.2.1.self (sz := s.heap.size), hW0.2.2⟩
  generalize hAe : va_A (pic ad stC kcC NN cI cB cJ cZ x) s.heap.size = A at hW hE ⊢
  have hA : ∀ q : Nat, s.heap.size ≤ q → A q := fun q h => by rw [← hAe]; exact Or.inr h
  have hS : va_S A s.heap s.heap [] := va_S.rf
  have hl := lv_entry ([.ref (ad o), .int l1, .int l2, .int l3, .long l4]) (n := 11) (Nat.le_of_ble_eq_true rfl)
  rw [lg_entry_eq]
  generalize (lg_sl ([.ref (ad o), .int l1, .int l2, .int l3, .long l4]) ++ List.replicate (11 - (lg_sl ([.ref (ad o), .int l1, .int l2, .int l3, .long l4])).length) Slot.unset).toArray = ls at hl ⊢
  have hl : lv_has ls 11 [(0, .ref (ad o)), (1, .int l1), (2, .int l2), (3, .int l3), (4, .long l4)] := hl
  exact t_Ans_canBe_e hx hb hml hown hT hK hN hA (Nat.le_refl 0) (Nat.le_refl 0) (Nat.le_refl 2) (Nat.le_refl 112) hNN hE (fun r x H locs pc ls hd hz hp hW hS => W.zret (v := r) (ty := .boolean) hx hb hr hz (fun t ht hM => ⟨⟨r, x, rfl, hp, Wd.back hW ht.symm (fun _ z => z)⟩, hS.F ht⟩) hS.2.2 hd hlocks)  o l1 l2 l3 l4 x _ _ ls fo hw hW hS hl
end
