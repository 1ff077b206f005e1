theorem w_2_167 : (Jvm.Cond.fieldLink "StripedVault$Answer" (246 : Nat) "StripedVault$Vault" "tellerEntries" "[I") ∈ TG := tw_2 167 (by decide +kernel) (by decide +kernel)
theorem w_2_170 : (Jvm.Cond.fieldLink "StripedVault$Answer" (249 : Nat) "StripedVault$Vault" "tellerNulls" "[I") ∈ TG := tw_2 170 (by decide +kernel) (by decide +kernel)
theorem w_3_101 : (Jvm.Cond.fieldLink "StripedVault$Answer" (194 : Nat) "StripedVault$Query" "literal" "[J") ∈ TG := tw_3 101 (by decide +kernel) (by decide +kernel)
theorem w_3_94 : (Jvm.Cond.fieldLink "StripedVault$Answer" (175 : Nat) "StripedVault$Query" "stepColumn" "[I") ∈ TG := tw_3 94 (by decide +kernel) (by decide +kernel)
theorem w_3_96 : (Jvm.Cond.fieldLink "StripedVault$Answer" (184 : Nat) "StripedVault$Query" "stepOther" "[I") ∈ TG := tw_3 96 (by decide +kernel) (by decide +kernel)
theorem w_8_39 : (Jvm.Cond.methodLink "StripedVault$Answer" (228 : Nat) ({ cls := "StripedVault$Answer", name := "comparesColumns", desc := "(I)Z" } : Jvm.MethodName)) ∈ TG := tw_8 39 (by decide +kernel) (by decide +kernel)
theorem w_8_41 : (Jvm.Cond.instanceMethod ({ cls := "StripedVault$Answer", name := "comparesColumns", desc := "(I)Z" } : Jvm.MethodName)) ∈ TG := tw_8 41 (by decide +kernel) (by decide +kernel)
theorem w_8_42 : (Jvm.Cond.code ({ cls := "StripedVault$Answer", name := "comparesColumns", desc := "(I)Z" } : Jvm.MethodName) prog_2_method_22_code (2 : Nat) (Option.some Jvm.ClassFile.FieldType.boolean)) ∈ TG := tw_8 42 (by decide +kernel) (by decide +kernel)
theorem w_8_43 : (Jvm.Cond.methodLink "StripedVault$Answer" (178 : Nat) ({ cls := "StripedVault$Answer", name := "typeOf", desc := "(I)I" } : Jvm.MethodName)) ∈ TG := tw_8 43 (by decide +kernel) (by decide +kernel)
theorem w_8_45 : (Jvm.Cond.instanceMethod ({ cls := "StripedVault$Answer", name := "typeOf", desc := "(I)I" } : Jvm.MethodName)) ∈ TG := tw_8 45 (by decide +kernel) (by decide +kernel)
theorem w_8_46 : (Jvm.Cond.code ({ cls := "StripedVault$Answer", name := "typeOf", desc := "(I)I" } : Jvm.MethodName) prog_2_method_17_code (2 : Nat) (Option.some Jvm.ClassFile.FieldType.int)) ∈ TG := tw_8 46 (by decide +kernel) (by decide +kernel)
theorem w_8_47 : (Jvm.Cond.methodLink "StripedVault$Answer" (252 : Nat) ({ cls := "StripedVault$Answer", name := "canBeListed", desc := "(III)Z" } : Jvm.MethodName)) ∈ TG := tw_8 47 (by decide +kernel) (by decide +kernel)
theorem w_8_49 : (Jvm.Cond.instanceMethod ({ cls := "StripedVault$Answer", name := "canBeListed", desc := "(III)Z" } : Jvm.MethodName)) ∈ TG := tw_8 49 (by decide +kernel) (by decide +kernel)
theorem w_8_50 : (Jvm.Cond.code ({ cls := "StripedVault$Answer", name := "canBeListed", desc := "(III)Z" } : Jvm.MethodName) prog_2_method_29_code (5 : Nat) (Option.some Jvm.ClassFile.FieldType.boolean)) ∈ TG := tw_8 50 (by decide +kernel) (by decide +kernel)
theorem w_8_51 : (Jvm.Cond.methodLink "StripedVault$Answer" (263 : Nat) ({ cls := "StripedVault$Answer", name := "canBe", desc := "(IIIJ)Z" } : Jvm.MethodName)) ∈ TG := tw_8 51 (by decide +kernel) (by decide +kernel)
theorem w_8_53 : (Jvm.Cond.instanceMethod ({ cls := "StripedVault$Answer", name := "canBe", desc := "(IIIJ)Z" } : Jvm.MethodName)) ∈ TG := tw_8 53 (by decide +kernel) (by decide +kernel)
theorem w_8_54 : (Jvm.Cond.code ({ cls := "StripedVault$Answer", name := "canBe", desc := "(IIIJ)Z" } : Jvm.MethodName) prog_2_method_28_code (11 : Nat) (Option.some Jvm.ClassFile.FieldType.boolean)) ∈ TG := tw_8 54 (by decide +kernel) (by decide +kernel)
theorem w_8_62 : (Jvm.Cond.methodLink "StripedVault$Answer" (256 : Nat) ({ cls := "StripedVault$Answer", name := "canBeUnlisted", desc := "(III)Z" } : Jvm.MethodName)) ∈ TG := tw_8 62 (by decide +kernel) (by decide +kernel)
theorem w_8_64 : (Jvm.Cond.instanceMethod ({ cls := "StripedVault$Answer", name := "canBeUnlisted", desc := "(III)Z" } : Jvm.MethodName)) ∈ TG := tw_8 64 (by decide +kernel) (by decide +kernel)
theorem w_8_65 : (Jvm.Cond.code ({ cls := "StripedVault$Answer", name := "canBeUnlisted", desc := "(III)Z" } : Jvm.MethodName) prog_2_method_30_code (7 : Nat) (Option.some Jvm.ClassFile.FieldType.boolean)) ∈ TG := tw_8 65 (by decide +kernel) (by decide +kernel)
theorem w_8_66 : (Jvm.Cond.methodLink "StripedVault$Answer" (151 : Nat) ({ cls := "StripedVault$Vault", name := "compare", desc := "(IJJ)I" } : Jvm.MethodName)) ∈ TG := tw_8 66 (by decide +kernel) (by decide +kernel)
theorem w_8_67 : (Jvm.Cond.methodLink "StripedVault$Answer" (190 : Nat) ({ cls := "StripedVault$Answer", name := "isListed", desc := "(IIJ)Z" } : Jvm.MethodName)) ∈ TG := tw_8 67 (by decide +kernel) (by decide +kernel)
theorem w_8_69 : (Jvm.Cond.instanceMethod ({ cls := "StripedVault$Answer", name := "isListed", desc := "(IIJ)Z" } : Jvm.MethodName)) ∈ TG := tw_8 69 (by decide +kernel) (by decide +kernel)
theorem w_8_70 : (Jvm.Cond.code ({ cls := "StripedVault$Answer", name := "isListed", desc := "(IIJ)Z" } : Jvm.MethodName) prog_2_method_18_code (8 : Nat) (Option.some Jvm.ClassFile.FieldType.boolean)) ∈ TG := tw_8 70 (by decide +kernel) (by decide +kernel)
theorem w_8_71 : (Jvm.Cond.methodLink "StripedVault$Answer" (259 : Nat) ({ cls := "StripedVault$Answer", name := "canCompare", desc := "(IIII)Z" } : Jvm.MethodName)) ∈ TG := tw_8 71 (by decide +kernel) (by decide +kernel)
theorem w_8_73 : (Jvm.Cond.instanceMethod ({ cls := "StripedVault$Answer", name := "canCompare", desc := "(IIII)Z" } : Jvm.MethodName)) ∈ TG := tw_8 73 (by decide +kernel) (by decide +kernel)
theorem w_8_74 : (Jvm.Cond.code ({ cls := "StripedVault$Answer", name := "canCompare", desc := "(IIII)Z" } : Jvm.MethodName) prog_2_method_27_code (7 : Nat) (Option.some Jvm.ClassFile.FieldType.boolean)) ∈ TG := tw_8 74 (by decide +kernel) (by decide +kernel)
theorem ws_90 : Cond.selects R_Ans y_Ans_comparesColumns y_Ans_comparesColumns ∈ TG := tw_s 90 (by decide +kernel) (by decide +kernel)
theorem ws_91 : Cond.selects R_Ans y_Ans_typeOf y_Ans_typeOf ∈ TG := tw_s 91 (by decide +kernel) (by decide +kernel)
theorem ws_92 : Cond.selects R_Ans y_Ans_canBeListed y_Ans_canBeListed ∈ TG := tw_s 92 (by decide +kernel) (by decide +kernel)
theorem ws_93 : Cond.selects R_Ans y_Ans_canBe y_Ans_canBe ∈ TG := tw_s 93 (by decide +kernel) (by decide +kernel)
theorem ws_94 : Cond.selects R_Ans y_Ans_canBeUnlisted y_Ans_canBeUnlisted ∈ TG := tw_s 94 (by decide +kernel) (by decide +kernel)
theorem ws_95 : Cond.selects R_Ans y_Ans_isListed y_Ans_isListed ∈ TG := tw_s 95 (by decide +kernel) (by decide +kernel)
theorem ws_96 : Cond.selects R_Ans y_Ans_canCompare y_Ans_canCompare ∈ TG := tw_s 96 (by decide +kernel) (by decide +kernel)
theorem d_Ans_canBeListed_3 : decode b_Ans_canBeListed 3 = .ok (.iload 4, 2) := by decide +kernel
theorem d_Ans_canBeListed_5 : decode b_Ans_canBeListed 5 = .ok (.aload_n 0, 1) := by decide +kernel
theorem d_Ans_canBeListed_6 : decode b_Ans_canBeListed 6 = .ok (.getfield 57, 3) := by decide +kernel
theorem d_Ans_canBeListed_9 : decode b_Ans_canBeListed 9 = .ok (.getfield 181, 3) := by decide +kernel
theorem d_Ans_canBeListed_12 : decode b_Ans_canBeListed 12 = .ok (.iload_n 1, 1) := by decide +kernel
theorem d_Ans_canBeListed_13 : decode b_Ans_canBeListed 13 = .ok (.iaload, 1) := by decide +kernel
theorem d_Ans_canBeListed_14 : decode b_Ans_canBeListed 14 = .ok (.if_icmp .ge 41, 3) := by decide +kernel
theorem d_Ans_canBeListed_55 : decode b_Ans_canBeListed 55 = .ok (.iconst 0, 1) := by decide +kernel
theorem d_Ans_canBeListed_56 : decode b_Ans_canBeListed 56 = .ok (.ireturn, 1) := by decide +kernel
theorem d_Ans_canBeListed_17 : decode b_Ans_canBeListed 17 = .ok (.aload_n 0, 1) := by decide +kernel
theorem d_Ans_canBeListed_18 : decode b_Ans_canBeListed 18 = .ok (.iconst 0, 1) := by decide +kernel
theorem d_Ans_canBeListed_19 : decode b_Ans_canBeListed 19 = .ok (.iload_n 2, 1) := by decide +kernel
theorem d_Ans_canBeListed_20 : decode b_Ans_canBeListed 20 = .ok (.iload_n 3, 1) := by decide +kernel
theorem d_Ans_canBeListed_21 : decode b_Ans_canBeListed 21 = .ok (.aload_n 0, 1) := by decide +kernel
theorem d_Ans_canBeListed_22 : decode b_Ans_canBeListed 22 = .ok (.getfield 57, 3) := by decide +kernel
theorem d_Ans_canBeListed_25 : decode b_Ans_canBeListed 25 = .ok (.getfield 194, 3) := by decide +kernel
theorem d_Ans_canBeListed_28 : decode b_Ans_canBeListed 28 = .ok (.aload_n 0, 1) := by decide +kernel
theorem d_Ans_canBeListed_29 : decode b_Ans_canBeListed 29 = .ok (.getfield 57, 3) := by decide +kernel
theorem d_Ans_canBeListed_32 : decode b_Ans_canBeListed 32 = .ok (.getfield 184, 3) := by decide +kernel
theorem d_Ans_canBeListed_35 : decode b_Ans_canBeListed 35 = .ok (.iload_n 1, 1) := by decide +kernel
theorem d_Ans_canBeListed_36 : decode b_Ans_canBeListed 36 = .ok (.iaload, 1) := by decide +kernel
theorem d_Ans_canBeListed_37 : decode b_Ans_canBeListed 37 = .ok (.iload 4, 2) := by decide +kernel
theorem d_Ans_canBeListed_39 : decode b_Ans_canBeListed 39 = .ok (.iadd, 1) := by decide +kernel
theorem d_Ans_canBeListed_40 : decode b_Ans_canBeListed 40 = .ok (.laload, 1) := by decide +kernel
theorem d_Ans_canBeListed_41 : decode b_Ans_canBeListed 41 = .ok (.invokevirtual 263, 3) := by decide +kernel
theorem d_Ans_canBeListed_44 : decode b_Ans_canBeListed 44 = .ok (.ifCond .eq 5, 3) := by decide +kernel
theorem d_Ans_canBeListed_49 : decode b_Ans_canBeListed 49 = .ok (.iinc 4 1, 3) := by decide +kernel
theorem d_Ans_canBeListed_52 : decode b_Ans_canBeListed 52 = .ok (.goto (-49), 3) := by decide +kernel
theorem d_Ans_canBeListed_47 : decode b_Ans_canBeListed 47 = .ok (.iconst 1, 1) := by decide +kernel
theorem d_Ans_canBeListed_48 : decode b_Ans_canBeListed 48 = .ok (.ireturn, 1) := by decide +kernel
theorem d_Ans_canBeListed_0 : decode b_Ans_canBeListed 0 = .ok (.iconst 0, 1) := by decide +kernel
theorem d_Ans_canBeListed_1 : decode b_Ans_canBeListed 1 = .ok (.istore 4, 2) := by decide +kernel
theorem d_Ans_isListed_3 : decode b_Ans_isListed 3 = .ok (.iload 5, 2) := by decide +kernel
theorem d_Ans_isListed_5 : decode b_Ans_isListed 5 = .ok (.aload_n 0, 1) := by decide +kernel
theorem d_Ans_isListed_6 : decode b_Ans_isListed 6 = .ok (.getfield 57, 3) := by decide +kernel
theorem d_Ans_isListed_9 : decode b_Ans_isListed 9 = .ok (.getfield 181, 3) := by decide +kernel
theorem d_Ans_isListed_12 : decode b_Ans_isListed 12 = .ok (.iload_n 1, 1) := by decide +kernel
theorem d_Ans_isListed_13 : decode b_Ans_isListed 13 = .ok (.iaload, 1) := by decide +kernel
theorem d_Ans_isListed_14 : decode b_Ans_isListed 14 = .ok (.if_icmp .ge 57, 3) := by decide +kernel
theorem d_Ans_isListed_71 : decode b_Ans_isListed 71 = .ok (.iconst 0, 1) := by decide +kernel
theorem d_Ans_isListed_72 : decode b_Ans_isListed 72 = .ok (.ireturn, 1) := by decide +kernel
theorem d_Ans_isListed_17 : decode b_Ans_isListed 17 = .ok (.aload_n 0, 1) := by decide +kernel
theorem d_Ans_isListed_18 : decode b_Ans_isListed 18 = .ok (.getfield 57, 3) := by decide +kernel
theorem d_Ans_isListed_21 : decode b_Ans_isListed 21 = .ok (.getfield 194, 3) := by decide +kernel
theorem d_Ans_isListed_24 : decode b_Ans_isListed 24 = .ok (.aload_n 0, 1) := by decide +kernel
theorem d_Ans_isListed_25 : decode b_Ans_isListed 25 = .ok (.getfield 57, 3) := by decide +kernel
theorem d_Ans_isListed_28 : decode b_Ans_isListed 28 = .ok (.getfield 184, 3) := by decide +kernel
theorem d_Ans_isListed_31 : decode b_Ans_isListed 31 = .ok (.iload_n 1, 1) := by decide +kernel
theorem d_Ans_isListed_32 : decode b_Ans_isListed 32 = .ok (.iaload, 1) := by decide +kernel
theorem d_Ans_isListed_33 : decode b_Ans_isListed 33 = .ok (.iload 5, 2) := by decide +kernel
theorem d_Ans_isListed_35 : decode b_Ans_isListed 35 = .ok (.iadd, 1) := by decide +kernel
theorem d_Ans_isListed_36 : decode b_Ans_isListed 36 = .ok (.laload, 1) := by decide +kernel
theorem d_Ans_isListed_37 : decode b_Ans_isListed 37 = .ok (.lstore 6, 2) := by decide +kernel
theorem d_Ans_isListed_39 : decode b_Ans_isListed 39 = .ok (.iload_n 2, 1) := by decide +kernel
theorem d_Ans_isListed_40 : decode b_Ans_isListed 40 = .ok (.aload_n 0, 1) := by decide +kernel
theorem d_Ans_isListed_41 : decode b_Ans_isListed 41 = .ok (.getfield 53, 3) := by decide +kernel
theorem d_Ans_isListed_44 : decode b_Ans_isListed 44 = .ok (.getfield 144, 3) := by decide +kernel
theorem d_Ans_isListed_47 : decode b_Ans_isListed 47 = .ok (.lload_n 3, 1) := by decide +kernel
theorem d_Ans_isListed_48 : decode b_Ans_isListed 48 = .ok (.aload_n 0, 1) := by decide +kernel
theorem d_Ans_isListed_49 : decode b_Ans_isListed 49 = .ok (.getfield 57, 3) := by decide +kernel
theorem d_Ans_isListed_52 : decode b_Ans_isListed 52 = .ok (.getfield 197, 3) := by decide +kernel
theorem d_Ans_isListed_55 : decode b_Ans_isListed 55 = .ok (.lload 6, 2) := by decide +kernel
theorem d_Ans_isListed_57 : decode b_Ans_isListed 57 = .ok (.invokestatic 200, 3) := by decide +kernel
theorem d_Ans_isListed_60 : decode b_Ans_isListed 60 = .ok (.ifCond .ne 5, 3) := by decide +kernel
theorem d_Ans_isListed_65 : decode b_Ans_isListed 65 = .ok (.iinc 5 1, 3) := by decide +kernel
theorem d_Ans_isListed_68 : decode b_Ans_isListed 68 = .ok (.goto (-65), 3) := by decide +kernel
theorem d_Ans_isListed_63 : decode b_Ans_isListed 63 = .ok (.iconst 1, 1) := by decide +kernel
theorem d_Ans_isListed_64 : decode b_Ans_isListed 64 = .ok (.ireturn, 1) := by decide +kernel
theorem d_Ans_isListed_0 : decode b_Ans_isListed 0 = .ok (.iconst 0, 1) := by decide +kernel
theorem d_Ans_isListed_1 : decode b_Ans_isListed 1 = .ok (.istore 5, 2) := by decide +kernel
theorem d_Ans_canBeUnlisted_79 : decode b_Ans_canBeUnlisted 79 = .ok (.iload 6, 2) := by decide +kernel
theorem d_Ans_canBeUnlisted_81 : decode b_Ans_canBeUnlisted 81 = .ok (.iload 5, 2) := by decide +kernel
theorem d_Ans_canBeUnlisted_83 : decode b_Ans_canBeUnlisted 83 = .ok (.iload 4, 2) := by decide +kernel
theorem d_Ans_canBeUnlisted_85 : decode b_Ans_canBeUnlisted 85 = .ok (.sipush 128, 3) := by decide +kernel
theorem d_Ans_canBeUnlisted_88 : decode b_Ans_canBeUnlisted 88 = .ok (.irem, 1) := by decide +kernel
theorem d_Ans_canBeUnlisted_89 : decode b_Ans_canBeUnlisted 89 = .ok (.iadd, 1) := by decide +kernel
theorem d_Ans_canBeUnlisted_90 : decode b_Ans_canBeUnlisted 90 = .ok (.if_icmp .ge 30, 3) := by decide +kernel
theorem d_Ans_canBeUnlisted_120 : decode b_Ans_canBeUnlisted 120 = .ok (.iconst 0, 1) := by decide +kernel
theorem d_Ans_canBeUnlisted_121 : decode b_Ans_canBeUnlisted 121 = .ok (.ireturn, 1) := by decide +kernel
theorem d_Ans_canBeUnlisted_93 : decode b_Ans_canBeUnlisted 93 = .ok (.aload_n 0, 1) := by decide +kernel
theorem d_Ans_canBeUnlisted_94 : decode b_Ans_canBeUnlisted 94 = .ok (.iload_n 1, 1) := by decide +kernel
theorem d_Ans_canBeUnlisted_95 : decode b_Ans_canBeUnlisted 95 = .ok (.iload_n 2, 1) := by decide +kernel
theorem d_Ans_canBeUnlisted_96 : decode b_Ans_canBeUnlisted 96 = .ok (.aload_n 0, 1) := by decide +kernel
theorem d_Ans_canBeUnlisted_97 : decode b_Ans_canBeUnlisted 97 = .ok (.getfield 53, 3) := by decide +kernel
theorem d_Ans_canBeUnlisted_100 : decode b_Ans_canBeUnlisted 100 = .ok (.getfield 279, 3) := by decide +kernel
theorem d_Ans_canBeUnlisted_103 : decode b_Ans_canBeUnlisted 103 = .ok (.iload 6, 2) := by decide +kernel
theorem d_Ans_canBeUnlisted_105 : decode b_Ans_canBeUnlisted 105 = .ok (.laload, 1) := by decide +kernel
theorem d_Ans_canBeUnlisted_106 : decode b_Ans_canBeUnlisted 106 = .ok (.invokevirtual 190, 3) := by decide +kernel
theorem d_Ans_canBeUnlisted_109 : decode b_Ans_canBeUnlisted 109 = .ok (.ifCond .ne 5, 3) := by decide +kernel
theorem d_Ans_canBeUnlisted_114 : decode b_Ans_canBeUnlisted 114 = .ok (.iinc 6 1, 3) := by decide +kernel
theorem d_Ans_canBeUnlisted_117 : decode b_Ans_canBeUnlisted 117 = .ok (.goto (-38), 3) := by decide +kernel
theorem d_Ans_canBeUnlisted_112 : decode b_Ans_canBeUnlisted 112 = .ok (.iconst 1, 1) := by decide +kernel
theorem d_Ans_canBeUnlisted_113 : decode b_Ans_canBeUnlisted 113 = .ok (.ireturn, 1) := by decide +kernel
theorem d_Ans_canBeUnlisted_61 : decode b_Ans_canBeUnlisted 61 = .ok (.iconst 1, 1) := by decide +kernel
theorem d_Ans_canBeUnlisted_62 : decode b_Ans_canBeUnlisted 62 = .ok (.goto 4, 3) := by decide +kernel
theorem d_Ans_canBeUnlisted_66 : decode b_Ans_canBeUnlisted 66 = .ok (.ireturn, 1) := by decide +kernel
theorem d_Ans_canBeUnlisted_0 : decode b_Ans_canBeUnlisted 0 = .ok (.aload_n 0, 1) := by decide +kernel
theorem d_Ans_canBeUnlisted_1 : decode b_Ans_canBeUnlisted 1 = .ok (.getfield 53, 3) := by decide +kernel
theorem d_Ans_canBeUnlisted_4 : decode b_Ans_canBeUnlisted 4 = .ok (.getfield 276, 3) := by decide +kernel
theorem d_Ans_canBeUnlisted_7 : decode b_Ans_canBeUnlisted 7 = .ok (.iload_n 3, 1) := by decide +kernel
theorem d_Ans_canBeUnlisted_8 : decode b_Ans_canBeUnlisted 8 = .ok (.iaload, 1) := by decide +kernel
theorem d_Ans_canBeUnlisted_9 : decode b_Ans_canBeUnlisted 9 = .ok (.istore 4, 2) := by decide +kernel
theorem d_Ans_canBeUnlisted_11 : decode b_Ans_canBeUnlisted 11 = .ok (.iload 4, 2) := by decide +kernel
theorem d_Ans_canBeUnlisted_13 : decode b_Ans_canBeUnlisted 13 = .ok (.iconst (-1), 1) := by decide +kernel
theorem d_Ans_canBeUnlisted_14 : decode b_Ans_canBeUnlisted 14 = .ok (.if_icmp .ne 53, 3) := by decide +kernel
theorem d_Ans_canBeUnlisted_67 : decode b_Ans_canBeUnlisted 67 = .ok (.iload 4, 2) := by decide +kernel
theorem d_Ans_canBeUnlisted_69 : decode b_Ans_canBeUnlisted 69 = .ok (.sipush 128, 3) := by decide +kernel
theorem d_Ans_canBeUnlisted_72 : decode b_Ans_canBeUnlisted 72 = .ok (.idiv, 1) := by decide +kernel
theorem d_Ans_canBeUnlisted_73 : decode b_Ans_canBeUnlisted 73 = .ok (.istore 5, 2) := by decide +kernel
theorem d_Ans_canBeUnlisted_75 : decode b_Ans_canBeUnlisted 75 = .ok (.iload 5, 2) := by decide +kernel
theorem d_Ans_canBeUnlisted_77 : decode b_Ans_canBeUnlisted 77 = .ok (.istore 6, 2) := by decide +kernel
theorem d_Ans_canBeUnlisted_17 : decode b_Ans_canBeUnlisted 17 = .ok (.aload_n 0, 1) := by decide +kernel
theorem d_Ans_canBeUnlisted_18 : decode b_Ans_canBeUnlisted 18 = .ok (.getfield 53, 3) := by decide +kernel
theorem d_Ans_canBeUnlisted_21 : decode b_Ans_canBeUnlisted 21 = .ok (.getfield 267, 3) := by decide +kernel
theorem d_Ans_canBeUnlisted_24 : decode b_Ans_canBeUnlisted 24 = .ok (.iload_n 3, 1) := by decide +kernel
theorem d_Ans_canBeUnlisted_25 : decode b_Ans_canBeUnlisted 25 = .ok (.laload, 1) := by decide +kernel
theorem d_Ans_canBeUnlisted_26 : decode b_Ans_canBeUnlisted 26 = .ok (.lstore 5, 2) := by decide +kernel
theorem d_Ans_canBeUnlisted_28 : decode b_Ans_canBeUnlisted 28 = .ok (.aload_n 0, 1) := by decide +kernel
theorem d_Ans_canBeUnlisted_29 : decode b_Ans_canBeUnlisted 29 = .ok (.getfield 53, 3) := by decide +kernel
theorem d_Ans_canBeUnlisted_32 : decode b_Ans_canBeUnlisted 32 = .ok (.iload_n 2, 1) := by decide +kernel
theorem d_Ans_canBeUnlisted_33 : decode b_Ans_canBeUnlisted 33 = .ok (.lload 5, 2) := by decide +kernel
theorem d_Ans_canBeUnlisted_35 : decode b_Ans_canBeUnlisted 35 = .ok (.aload_n 0, 1) := by decide +kernel
theorem d_Ans_canBeUnlisted_36 : decode b_Ans_canBeUnlisted 36 = .ok (.getfield 53, 3) := by decide +kernel
theorem d_Ans_canBeUnlisted_39 : decode b_Ans_canBeUnlisted 39 = .ok (.getfield 270, 3) := by decide +kernel
theorem d_Ans_canBeUnlisted_42 : decode b_Ans_canBeUnlisted 42 = .ok (.iload_n 3, 1) := by decide +kernel
theorem d_Ans_canBeUnlisted_43 : decode b_Ans_canBeUnlisted 43 = .ok (.laload, 1) := by decide +kernel
theorem d_Ans_canBeUnlisted_44 : decode b_Ans_canBeUnlisted 44 = .ok (.invokevirtual 151, 3) := by decide +kernel
theorem d_Ans_canBeUnlisted_47 : decode b_Ans_canBeUnlisted 47 = .ok (.ifCond .ne 14, 3) := by decide +kernel
theorem d_Ans_canBeUnlisted_50 : decode b_Ans_canBeUnlisted 50 = .ok (.aload_n 0, 1) := by decide +kernel
theorem d_Ans_canBeUnlisted_51 : decode b_Ans_canBeUnlisted 51 = .ok (.iload_n 1, 1) := by decide +kernel
theorem d_Ans_canBeUnlisted_52 : decode b_Ans_canBeUnlisted 52 = .ok (.iload_n 2, 1) := by decide +kernel
theorem d_Ans_canBeUnlisted_53 : decode b_Ans_canBeUnlisted 53 = .ok (.lload 5, 2) := by decide +kernel
theorem d_Ans_canBeUnlisted_55 : decode b_Ans_canBeUnlisted 55 = .ok (.invokevirtual 190, 3) := by decide +kernel
theorem d_Ans_canBeUnlisted_58 : decode b_Ans_canBeUnlisted 58 = .ok (.ifCond .ne 7, 3) := by decide +kernel
theorem d_Ans_canBeUnlisted_65 : decode b_Ans_canBeUnlisted 65 = .ok (.iconst 0, 1) := by decide +kernel
theorem d_Ans_canCompare_0 : decode b_Ans_canCompare 0 = .ok (.aload_n 0, 1) := by decide +kernel
theorem d_Ans_canCompare_1 : decode b_Ans_canCompare 1 = .ok (.getfield 53, 3) := by decide +kernel
theorem d_Ans_canCompare_4 : decode b_Ans_canCompare 4 = .ok (.iload_n 2, 1) := by decide +kernel
theorem d_Ans_canCompare_5 : decode b_Ans_canCompare 5 = .ok (.aload_n 0, 1) := by decide +kernel
theorem d_Ans_canCompare_6 : decode b_Ans_canCompare 6 = .ok (.getfield 53, 3) := by decide +kernel
theorem d_Ans_canCompare_9 : decode b_Ans_canCompare 9 = .ok (.getfield 267, 3) := by decide +kernel
theorem d_Ans_canCompare_12 : decode b_Ans_canCompare 12 = .ok (.iload_n 3, 1) := by decide +kernel
theorem d_Ans_canCompare_13 : decode b_Ans_canCompare 13 = .ok (.laload, 1) := by decide +kernel
theorem d_Ans_canCompare_14 : decode b_Ans_canCompare 14 = .ok (.aload_n 0, 1) := by decide +kernel
theorem d_Ans_canCompare_15 : decode b_Ans_canCompare 15 = .ok (.getfield 53, 3) := by decide +kernel
theorem d_Ans_canCompare_18 : decode b_Ans_canCompare 18 = .ok (.getfield 270, 3) := by decide +kernel
theorem d_Ans_canCompare_21 : decode b_Ans_canCompare 21 = .ok (.iload 4, 2) := by decide +kernel
theorem d_Ans_canCompare_23 : decode b_Ans_canCompare 23 = .ok (.laload, 1) := by decide +kernel
theorem d_Ans_canCompare_24 : decode b_Ans_canCompare 24 = .ok (.invokevirtual 151, 3) := by decide +kernel
theorem d_Ans_canCompare_27 : decode b_Ans_canCompare 27 = .ok (.istore 5, 2) := by decide +kernel
theorem d_Ans_canCompare_29 : decode b_Ans_canCompare 29 = .ok (.aload_n 0, 1) := by decide +kernel
theorem d_Ans_canCompare_30 : decode b_Ans_canCompare 30 = .ok (.getfield 53, 3) := by decide +kernel
theorem d_Ans_canCompare_33 : decode b_Ans_canCompare 33 = .ok (.iload_n 2, 1) := by decide +kernel
theorem d_Ans_canCompare_34 : decode b_Ans_canCompare 34 = .ok (.aload_n 0, 1) := by decide +kernel
theorem d_Ans_canCompare_35 : decode b_Ans_canCompare 35 = .ok (.getfield 53, 3) := by decide +kernel
theorem d_Ans_canCompare_38 : decode b_Ans_canCompare 38 = .ok (.getfield 270, 3) := by decide +kernel
theorem d_Ans_canCompare_41 : decode b_Ans_canCompare 41 = .ok (.iload_n 3, 1) := by decide +kernel
theorem d_Ans_canCompare_42 : decode b_Ans_canCompare 42 = .ok (.laload, 1) := by decide +kernel
theorem d_Ans_canCompare_43 : decode b_Ans_canCompare 43 = .ok (.aload_n 0, 1) := by decide +kernel
theorem d_Ans_canCompare_44 : decode b_Ans_canCompare 44 = .ok (.getfield 53, 3) := by decide +kernel
theorem d_Ans_canCompare_47 : decode b_Ans_canCompare 47 = .ok (.getfield 267, 3) := by decide +kernel
theorem d_Ans_canCompare_50 : decode b_Ans_canCompare 50 = .ok (.iload 4, 2) := by decide +kernel
theorem d_Ans_canCompare_52 : decode b_Ans_canCompare 52 = .ok (.laload, 1) := by decide +kernel
theorem d_Ans_canCompare_53 : decode b_Ans_canCompare 53 = .ok (.invokevirtual 151, 3) := by decide +kernel
theorem d_Ans_canCompare_56 : decode b_Ans_canCompare 56 = .ok (.istore 6, 2) := by decide +kernel
theorem d_Ans_canCompare_58 : decode b_Ans_canCompare 58 = .ok (.iload_n 1, 1) := by decide +kernel
theorem d_Ans_canCompare_59 : decode b_Ans_canCompare 59 = .ok (.iload 5, 2) := by decide +kernel
theorem d_Ans_canCompare_61 : decode b_Ans_canCompare 61 = .ok (.iload 6, 2) := by decide +kernel
theorem d_Ans_canCompare_63 : decode b_Ans_canCompare 63 = .ok (.invokestatic 273, 3) := by decide +kernel
theorem d_Ans_canCompare_66 : decode b_Ans_canCompare 66 = .ok (.ireturn, 1) := by decide +kernel
theorem d_Ans_truthsThatCanBe_367 : decode b_Ans_truthsThatCanBe 367 = .ok (.ior, 1) := by decide +kernel
theorem d_Ans_truthsThatCanBe_368 : decode b_Ans_truthsThatCanBe 368 = .ok (.ireturn, 1) := by decide +kernel
theorem d_Ans_truthsThatCanBe_356 : decode b_Ans_truthsThatCanBe 356 = .ok (.ior, 1) := by decide +kernel
theorem d_Ans_truthsThatCanBe_357 : decode b_Ans_truthsThatCanBe 357 = .ok (.iload 12, 2) := by decide +kernel
theorem d_Ans_truthsThatCanBe_359 : decode b_Ans_truthsThatCanBe 359 = .ok (.ifCond .eq 7, 3) := by decide +kernel
theorem d_Ans_truthsThatCanBe_366 : decode b_Ans_truthsThatCanBe 366 = .ok (.iconst 0, 1) := by decide +kernel
theorem d_Ans_truthsThatCanBe_362 : decode b_Ans_truthsThatCanBe 362 = .ok (.iconst 1, 1) := by decide +kernel
theorem d_Ans_truthsThatCanBe_363 : decode b_Ans_truthsThatCanBe 363 = .ok (.goto 4, 3) := by decide +kernel
theorem d_Ans_truthsThatCanBe_344 : decode b_Ans_truthsThatCanBe 344 = .ok (.iload 9, 2) := by decide +kernel
theorem d_Ans_truthsThatCanBe_346 : decode b_Ans_truthsThatCanBe 346 = .ok (.iload 11, 2) := by decide +kernel
theorem d_Ans_truthsThatCanBe_348 : decode b_Ans_truthsThatCanBe 348 = .ok (.ifCond .eq 7, 3) := by decide +kernel
theorem d_Ans_truthsThatCanBe_355 : decode b_Ans_truthsThatCanBe 355 = .ok (.iconst 0, 1) := by decide +kernel
theorem d_Ans_truthsThatCanBe_351 : decode b_Ans_truthsThatCanBe 351 = .ok (.iconst 2, 1) := by decide +kernel
theorem d_Ans_truthsThatCanBe_352 : decode b_Ans_truthsThatCanBe 352 = .ok (.goto 4, 3) := by decide +kernel
theorem d_Ans_truthsThatCanBe_213 : decode b_Ans_truthsThatCanBe 213 = .ok (.istore 9, 2) := by decide +kernel
theorem d_Ans_truthsThatCanBe_215 : decode b_Ans_truthsThatCanBe 215 = .ok (.iload 8, 2) := by decide +kernel
theorem d_Ans_truthsThatCanBe_217 : decode b_Ans_truthsThatCanBe 217 = .ok (.ifCond .ne 6, 3) := by decide +kernel
theorem d_Ans_truthsThatCanBe_223 : decode b_Ans_truthsThatCanBe 223 = .ok (.aload_n 0, 1) := by decide +kernel
theorem d_Ans_truthsThatCanBe_224 : decode b_Ans_truthsThatCanBe 224 = .ok (.iload_n 3, 1) := by decide +kernel
theorem d_Ans_truthsThatCanBe_225 : decode b_Ans_truthsThatCanBe 225 = .ok (.invokevirtual 178, 3) := by decide +kernel
theorem d_Ans_truthsThatCanBe_228 : decode b_Ans_truthsThatCanBe 228 = .ok (.istore 10, 2) := by decide +kernel
theorem d_Ans_truthsThatCanBe_230 : decode b_Ans_truthsThatCanBe 230 = .ok (.iload_n 2, 1) := by decide +kernel
theorem d_Ans_truthsThatCanBe_231 : decode b_Ans_truthsThatCanBe 231 = .ok (.bipush 8, 2) := by decide +kernel
theorem d_Ans_truthsThatCanBe_233 : decode b_Ans_truthsThatCanBe 233 = .ok (.if_icmp .ne 28, 3) := by decide +kernel
theorem d_Ans_truthsThatCanBe_261 : decode b_Ans_truthsThatCanBe 261 = .ok (.iload 5, 2) := by decide +kernel
theorem d_Ans_truthsThatCanBe_263 : decode b_Ans_truthsThatCanBe 263 = .ok (.ifCond .eq 34, 3) := by decide +kernel
theorem d_Ans_truthsThatCanBe_297 : decode b_Ans_truthsThatCanBe 297 = .ok (.aload_n 0, 1) := by decide +kernel
theorem d_Ans_truthsThatCanBe_298 : decode b_Ans_truthsThatCanBe 298 = .ok (.getfield 57, 3) := by decide +kernel
theorem d_Ans_truthsThatCanBe_301 : decode b_Ans_truthsThatCanBe 301 = .ok (.getfield 194, 3) := by decide +kernel
theorem d_Ans_truthsThatCanBe_304 : decode b_Ans_truthsThatCanBe 304 = .ok (.aload_n 0, 1) := by decide +kernel
theorem d_Ans_truthsThatCanBe_305 : decode b_Ans_truthsThatCanBe 305 = .ok (.getfield 57, 3) := by decide +kernel
theorem d_Ans_truthsThatCanBe_308 : decode b_Ans_truthsThatCanBe 308 = .ok (.getfield 184, 3) := by decide +kernel
theorem d_Ans_truthsThatCanBe_311 : decode b_Ans_truthsThatCanBe 311 = .ok (.iload_n 1, 1) := by decide +kernel
theorem d_Ans_truthsThatCanBe_312 : decode b_Ans_truthsThatCanBe 312 = .ok (.iaload, 1) := by decide +kernel
theorem d_Ans_truthsThatCanBe_313 : decode b_Ans_truthsThatCanBe 313 = .ok (.laload, 1) := by decide +kernel
theorem d_Ans_truthsThatCanBe_314 : decode b_Ans_truthsThatCanBe 314 = .ok (.lstore 13, 2) := by decide +kernel
theorem d_Ans_truthsThatCanBe_316 : decode b_Ans_truthsThatCanBe 316 = .ok (.aload_n 0, 1) := by decide +kernel
theorem d_Ans_truthsThatCanBe_317 : decode b_Ans_truthsThatCanBe 317 = .ok (.iload_n 2, 1) := by decide +kernel
theorem d_Ans_truthsThatCanBe_318 : decode b_Ans_truthsThatCanBe 318 = .ok (.iload 10, 2) := by decide +kernel
theorem d_Ans_truthsThatCanBe_320 : decode b_Ans_truthsThatCanBe 320 = .ok (.iload 4, 2) := by decide +kernel
theorem d_Ans_truthsThatCanBe_322 : decode b_Ans_truthsThatCanBe 322 = .ok (.lload 13, 2) := by decide +kernel
theorem d_Ans_truthsThatCanBe_324 : decode b_Ans_truthsThatCanBe 324 = .ok (.invokevirtual 263, 3) := by decide +kernel
theorem d_Ans_truthsThatCanBe_327 : decode b_Ans_truthsThatCanBe 327 = .ok (.istore 11, 2) := by decide +kernel
theorem d_Ans_truthsThatCanBe_329 : decode b_Ans_truthsThatCanBe 329 = .ok (.aload_n 0, 1) := by decide +kernel
theorem d_Ans_truthsThatCanBe_330 : decode b_Ans_truthsThatCanBe 330 = .ok (.iload_n 2, 1) := by decide +kernel
theorem d_Ans_truthsThatCanBe_331 : decode b_Ans_truthsThatCanBe 331 = .ok (.iconst 1, 1) := by decide +kernel
theorem d_Ans_truthsThatCanBe_332 : decode b_Ans_truthsThatCanBe 332 = .ok (.ixor, 1) := by decide +kernel
theorem d_Ans_truthsThatCanBe_333 : decode b_Ans_truthsThatCanBe 333 = .ok (.iload 10, 2) := by decide +kernel
theorem d_Ans_truthsThatCanBe_335 : decode b_Ans_truthsThatCanBe 335 = .ok (.iload 4, 2) := by decide +kernel
theorem d_Ans_truthsThatCanBe_337 : decode b_Ans_truthsThatCanBe 337 = .ok (.lload 13, 2) := by decide +kernel
theorem d_Ans_truthsThatCanBe_339 : decode b_Ans_truthsThatCanBe 339 = .ok (.invokevirtual 263, 3) := by decide +kernel
theorem d_Ans_truthsThatCanBe_342 : decode b_Ans_truthsThatCanBe 342 = .ok (.istore 12, 2) := by decide +kernel
theorem d_Ans_truthsThatCanBe_266 : decode b_Ans_truthsThatCanBe 266 = .ok (.aload_n 0, 1) := by decide +kernel
theorem d_Ans_truthsThatCanBe_267 : decode b_Ans_truthsThatCanBe 267 = .ok (.iload_n 2, 1) := by decide +kernel
theorem d_Ans_truthsThatCanBe_268 : decode b_Ans_truthsThatCanBe 268 = .ok (.iload 10, 2) := by decide +kernel
theorem d_Ans_truthsThatCanBe_270 : decode b_Ans_truthsThatCanBe 270 = .ok (.iload 4, 2) := by decide +kernel
theorem d_Ans_truthsThatCanBe_272 : decode b_Ans_truthsThatCanBe 272 = .ok (.iload 6, 2) := by decide +kernel
theorem d_Ans_truthsThatCanBe_274 : decode b_Ans_truthsThatCanBe 274 = .ok (.invokevirtual 259, 3) := by decide +kernel
theorem d_Ans_truthsThatCanBe_277 : decode b_Ans_truthsThatCanBe 277 = .ok (.istore 11, 2) := by decide +kernel
theorem d_Ans_truthsThatCanBe_279 : decode b_Ans_truthsThatCanBe 279 = .ok (.aload_n 0, 1) := by decide +kernel
theorem d_Ans_truthsThatCanBe_280 : decode b_Ans_truthsThatCanBe 280 = .ok (.iload_n 2, 1) := by decide +kernel
theorem d_Ans_truthsThatCanBe_281 : decode b_Ans_truthsThatCanBe 281 = .ok (.iconst 1, 1) := by decide +kernel
theorem d_Ans_truthsThatCanBe_282 : decode b_Ans_truthsThatCanBe 282 = .ok (.ixor, 1) := by decide +kernel
theorem d_Ans_truthsThatCanBe_283 : decode b_Ans_truthsThatCanBe 283 = .ok (.iload 10, 2) := by decide +kernel
theorem d_Ans_truthsThatCanBe_285 : decode b_Ans_truthsThatCanBe 285 = .ok (.iload 4, 2) := by decide +kernel
theorem d_Ans_truthsThatCanBe_287 : decode b_Ans_truthsThatCanBe 287 = .ok (.iload 6, 2) := by decide +kernel
theorem d_Ans_truthsThatCanBe_289 : decode b_Ans_truthsThatCanBe 289 = .ok (.invokevirtual 259, 3) := by decide +kernel
theorem d_Ans_truthsThatCanBe_292 : decode b_Ans_truthsThatCanBe 292 = .ok (.istore 12, 2) := by decide +kernel
theorem d_Ans_truthsThatCanBe_294 : decode b_Ans_truthsThatCanBe 294 = .ok (.goto 50, 3) := by decide +kernel
theorem d_Ans_truthsThatCanBe_236 : decode b_Ans_truthsThatCanBe 236 = .ok (.aload_n 0, 1) := by decide +kernel
theorem d_Ans_truthsThatCanBe_237 : decode b_Ans_truthsThatCanBe 237 = .ok (.iload_n 1, 1) := by decide +kernel
theorem d_Ans_truthsThatCanBe_238 : decode b_Ans_truthsThatCanBe 238 = .ok (.iload 10, 2) := by decide +kernel
theorem d_Ans_truthsThatCanBe_240 : decode b_Ans_truthsThatCanBe 240 = .ok (.iload 4, 2) := by decide +kernel
theorem d_Ans_truthsThatCanBe_242 : decode b_Ans_truthsThatCanBe 242 = .ok (.invokevirtual 252, 3) := by decide +kernel
theorem d_Ans_truthsThatCanBe_245 : decode b_Ans_truthsThatCanBe 245 = .ok (.istore 11, 2) := by decide +kernel
theorem d_Ans_truthsThatCanBe_247 : decode b_Ans_truthsThatCanBe 247 = .ok (.aload_n 0, 1) := by decide +kernel
theorem d_Ans_truthsThatCanBe_248 : decode b_Ans_truthsThatCanBe 248 = .ok (.iload_n 1, 1) := by decide +kernel
theorem d_Ans_truthsThatCanBe_249 : decode b_Ans_truthsThatCanBe 249 = .ok (.iload 10, 2) := by decide +kernel
theorem d_Ans_truthsThatCanBe_251 : decode b_Ans_truthsThatCanBe 251 = .ok (.iload 4, 2) := by decide +kernel
theorem d_Ans_truthsThatCanBe_253 : decode b_Ans_truthsThatCanBe 253 = .ok (.invokevirtual 256, 3) := by decide +kernel
theorem d_Ans_truthsThatCanBe_256 : decode b_Ans_truthsThatCanBe 256 = .ok (.istore 12, 2) := by decide +kernel
theorem d_Ans_truthsThatCanBe_258 : decode b_Ans_truthsThatCanBe 258 = .ok (.goto 86, 3) := by decide +kernel
theorem d_Ans_truthsThatCanBe_220 : decode b_Ans_truthsThatCanBe 220 = .ok (.iload 9, 2) := by decide +kernel
theorem d_Ans_truthsThatCanBe_222 : decode b_Ans_truthsThatCanBe 222 = .ok (.ireturn, 1) := by decide +kernel
theorem d_Ans_truthsThatCanBe_201 : decode b_Ans_truthsThatCanBe 201 = .ok (.ior, 1) := by decide +kernel
theorem d_Ans_truthsThatCanBe_202 : decode b_Ans_truthsThatCanBe 202 = .ok (.ireturn, 1) := by decide +kernel
theorem d_Ans_truthsThatCanBe_191 : decode b_Ans_truthsThatCanBe 191 = .ok (.iload 8, 2) := by decide +kernel
theorem d_Ans_truthsThatCanBe_193 : decode b_Ans_truthsThatCanBe 193 = .ok (.ifCond .eq 7, 3) := by decide +kernel
theorem d_Ans_truthsThatCanBe_200 : decode b_Ans_truthsThatCanBe 200 = .ok (.iconst 0, 1) := by decide +kernel
theorem d_Ans_truthsThatCanBe_196 : decode b_Ans_truthsThatCanBe 196 = .ok (.iconst 2, 1) := by decide +kernel
theorem d_Ans_truthsThatCanBe_197 : decode b_Ans_truthsThatCanBe 197 = .ok (.goto 4, 3) := by decide +kernel
theorem d_Ans_truthsThatCanBe_173 : decode b_Ans_truthsThatCanBe 173 = .ok (.ior, 1) := by decide +kernel
theorem d_Ans_truthsThatCanBe_174 : decode b_Ans_truthsThatCanBe 174 = .ok (.ireturn, 1) := by decide +kernel
theorem d_Ans_truthsThatCanBe_163 : decode b_Ans_truthsThatCanBe 163 = .ok (.iload 8, 2) := by decide +kernel
theorem d_Ans_truthsThatCanBe_165 : decode b_Ans_truthsThatCanBe 165 = .ok (.ifCond .eq 7, 3) := by decide +kernel
theorem d_Ans_truthsThatCanBe_172 : decode b_Ans_truthsThatCanBe 172 = .ok (.iconst 0, 1) := by decide +kernel
theorem d_Ans_truthsThatCanBe_168 : decode b_Ans_truthsThatCanBe 168 = .ok (.iconst 1, 1) := by decide +kernel
theorem d_Ans_truthsThatCanBe_169 : decode b_Ans_truthsThatCanBe 169 = .ok (.goto 4, 3) := by decide +kernel
theorem d_Ans_truthsThatCanBe_145 : decode b_Ans_truthsThatCanBe 145 = .ok (.istore 8, 2) := by decide +kernel
theorem d_Ans_truthsThatCanBe_147 : decode b_Ans_truthsThatCanBe 147 = .ok (.iload_n 2, 1) := by decide +kernel
theorem d_Ans_truthsThatCanBe_148 : decode b_Ans_truthsThatCanBe 148 = .ok (.bipush 6, 2) := by decide +kernel
theorem d_Ans_truthsThatCanBe_150 : decode b_Ans_truthsThatCanBe 150 = .ok (.if_icmp .ne 25, 3) := by decide +kernel
theorem d_Ans_truthsThatCanBe_175 : decode b_Ans_truthsThatCanBe 175 = .ok (.iload_n 2, 1) := by decide +kernel
theorem d_Ans_truthsThatCanBe_176 : decode b_Ans_truthsThatCanBe 176 = .ok (.bipush 7, 2) := by decide +kernel
theorem d_Ans_truthsThatCanBe_178 : decode b_Ans_truthsThatCanBe 178 = .ok (.if_icmp .ne 25, 3) := by decide +kernel
theorem d_Ans_truthsThatCanBe_203 : decode b_Ans_truthsThatCanBe 203 = .ok (.iload 7, 2) := by decide +kernel
theorem d_Ans_truthsThatCanBe_205 : decode b_Ans_truthsThatCanBe 205 = .ok (.ifCond .eq 7, 3) := by decide +kernel
theorem d_Ans_truthsThatCanBe_212 : decode b_Ans_truthsThatCanBe 212 = .ok (.iconst 0, 1) := by decide +kernel
theorem d_Ans_truthsThatCanBe_208 : decode b_Ans_truthsThatCanBe 208 = .ok (.iconst 4, 1) := by decide +kernel
theorem d_Ans_truthsThatCanBe_209 : decode b_Ans_truthsThatCanBe 209 = .ok (.goto 4, 3) := by decide +kernel
theorem d_Ans_truthsThatCanBe_181 : decode b_Ans_truthsThatCanBe 181 = .ok (.iload 7, 2) := by decide +kernel
theorem d_Ans_truthsThatCanBe_183 : decode b_Ans_truthsThatCanBe 183 = .ok (.ifCond .eq 7, 3) := by decide +kernel
theorem d_Ans_truthsThatCanBe_190 : decode b_Ans_truthsThatCanBe 190 = .ok (.iconst 0, 1) := by decide +kernel
theorem d_Ans_truthsThatCanBe_186 : decode b_Ans_truthsThatCanBe 186 = .ok (.iconst 1, 1) := by decide +kernel
theorem d_Ans_truthsThatCanBe_187 : decode b_Ans_truthsThatCanBe 187 = .ok (.goto 4, 3) := by decide +kernel
theorem d_Ans_truthsThatCanBe_153 : decode b_Ans_truthsThatCanBe 153 = .ok (.iload 7, 2) := by decide +kernel
theorem d_Ans_truthsThatCanBe_155 : decode b_Ans_truthsThatCanBe 155 = .ok (.ifCond .eq 7, 3) := by decide +kernel
theorem d_Ans_truthsThatCanBe_162 : decode b_Ans_truthsThatCanBe 162 = .ok (.iconst 0, 1) := by decide +kernel
theorem d_Ans_truthsThatCanBe_158 : decode b_Ans_truthsThatCanBe 158 = .ok (.iconst 2, 1) := by decide +kernel
theorem d_Ans_truthsThatCanBe_159 : decode b_Ans_truthsThatCanBe 159 = .ok (.goto 4, 3) := by decide +kernel
theorem d_Ans_truthsThatCanBe_144 : decode b_Ans_truthsThatCanBe 144 = .ok (.iconst 0, 1) := by decide +kernel
theorem d_Ans_truthsThatCanBe_92 : decode b_Ans_truthsThatCanBe 92 = .ok (.istore 7, 2) := by decide +kernel
theorem d_Ans_truthsThatCanBe_94 : decode b_Ans_truthsThatCanBe 94 = .ok (.aload_n 0, 1) := by decide +kernel
theorem d_Ans_truthsThatCanBe_95 : decode b_Ans_truthsThatCanBe 95 = .ok (.getfield 53, 3) := by decide +kernel
theorem d_Ans_truthsThatCanBe_98 : decode b_Ans_truthsThatCanBe 98 = .ok (.getfield 249, 3) := by decide +kernel
theorem d_Ans_truthsThatCanBe_101 : decode b_Ans_truthsThatCanBe 101 = .ok (.iload 4, 2) := by decide +kernel
theorem d_Ans_truthsThatCanBe_103 : decode b_Ans_truthsThatCanBe 103 = .ok (.iaload, 1) := by decide +kernel
theorem d_Ans_truthsThatCanBe_104 : decode b_Ans_truthsThatCanBe 104 = .ok (.aload_n 0, 1) := by decide +kernel
theorem d_Ans_truthsThatCanBe_105 : decode b_Ans_truthsThatCanBe 105 = .ok (.getfield 53, 3) := by decide +kernel
theorem d_Ans_truthsThatCanBe_108 : decode b_Ans_truthsThatCanBe 108 = .ok (.getfield 246, 3) := by decide +kernel
theorem d_Ans_truthsThatCanBe_111 : decode b_Ans_truthsThatCanBe 111 = .ok (.iload 4, 2) := by decide +kernel
theorem d_Ans_truthsThatCanBe_113 : decode b_Ans_truthsThatCanBe 113 = .ok (.iaload, 1) := by decide +kernel
theorem d_Ans_truthsThatCanBe_114 : decode b_Ans_truthsThatCanBe 114 = .ok (.if_icmp .ge 30, 3) := by decide +kernel
theorem d_Ans_truthsThatCanBe_117 : decode b_Ans_truthsThatCanBe 117 = .ok (.aload_n 0, 1) := by decide +kernel
theorem d_Ans_truthsThatCanBe_118 : decode b_Ans_truthsThatCanBe 118 = .ok (.getfield 53, 3) := by decide +kernel
theorem d_Ans_truthsThatCanBe_121 : decode b_Ans_truthsThatCanBe 121 = .ok (.getfield 249, 3) := by decide +kernel
theorem d_Ans_truthsThatCanBe_124 : decode b_Ans_truthsThatCanBe 124 = .ok (.iload 6, 2) := by decide +kernel
theorem d_Ans_truthsThatCanBe_126 : decode b_Ans_truthsThatCanBe 126 = .ok (.iaload, 1) := by decide +kernel
theorem d_Ans_truthsThatCanBe_127 : decode b_Ans_truthsThatCanBe 127 = .ok (.aload_n 0, 1) := by decide +kernel
theorem d_Ans_truthsThatCanBe_128 : decode b_Ans_truthsThatCanBe 128 = .ok (.getfield 53, 3) := by decide +kernel
theorem d_Ans_truthsThatCanBe_131 : decode b_Ans_truthsThatCanBe 131 = .ok (.getfield 246, 3) := by decide +kernel
theorem d_Ans_truthsThatCanBe_134 : decode b_Ans_truthsThatCanBe 134 = .ok (.iload 6, 2) := by decide +kernel
theorem d_Ans_truthsThatCanBe_136 : decode b_Ans_truthsThatCanBe 136 = .ok (.iaload, 1) := by decide +kernel
theorem d_Ans_truthsThatCanBe_137 : decode b_Ans_truthsThatCanBe 137 = .ok (.if_icmp .ge 7, 3) := by decide +kernel
theorem d_Ans_truthsThatCanBe_140 : decode b_Ans_truthsThatCanBe 140 = .ok (.iconst 1, 1) := by decide +kernel
theorem d_Ans_truthsThatCanBe_141 : decode b_Ans_truthsThatCanBe 141 = .ok (.goto 4, 3) := by decide +kernel
theorem d_Ans_truthsThatCanBe_87 : decode b_Ans_truthsThatCanBe 87 = .ok (.iconst 1, 1) := by decide +kernel
theorem d_Ans_truthsThatCanBe_88 : decode b_Ans_truthsThatCanBe 88 = .ok (.goto 4, 3) := by decide +kernel
theorem d_Ans_truthsThatCanBe_59 : decode b_Ans_truthsThatCanBe 59 = .ok (.istore 6, 2) := by decide +kernel
theorem d_Ans_truthsThatCanBe_61 : decode b_Ans_truthsThatCanBe 61 = .ok (.aload_n 0, 1) := by decide +kernel
theorem d_Ans_truthsThatCanBe_62 : decode b_Ans_truthsThatCanBe 62 = .ok (.getfield 53, 3) := by decide +kernel
theorem d_Ans_truthsThatCanBe_65 : decode b_Ans_truthsThatCanBe 65 = .ok (.getfield 249, 3) := by decide +kernel
theorem d_Ans_truthsThatCanBe_68 : decode b_Ans_truthsThatCanBe 68 = .ok (.iload 4, 2) := by decide +kernel
theorem d_Ans_truthsThatCanBe_70 : decode b_Ans_truthsThatCanBe 70 = .ok (.iaload, 1) := by decide +kernel
theorem d_Ans_truthsThatCanBe_71 : decode b_Ans_truthsThatCanBe 71 = .ok (.ifCond .gt 16, 3) := by decide +kernel
theorem d_Ans_truthsThatCanBe_74 : decode b_Ans_truthsThatCanBe 74 = .ok (.aload_n 0, 1) := by decide +kernel
theorem d_Ans_truthsThatCanBe_75 : decode b_Ans_truthsThatCanBe 75 = .ok (.getfield 53, 3) := by decide +kernel
theorem d_Ans_truthsThatCanBe_78 : decode b_Ans_truthsThatCanBe 78 = .ok (.getfield 249, 3) := by decide +kernel
theorem d_Ans_truthsThatCanBe_81 : decode b_Ans_truthsThatCanBe 81 = .ok (.iload 6, 2) := by decide +kernel
theorem d_Ans_truthsThatCanBe_83 : decode b_Ans_truthsThatCanBe 83 = .ok (.iaload, 1) := by decide +kernel
theorem d_Ans_truthsThatCanBe_84 : decode b_Ans_truthsThatCanBe 84 = .ok (.ifCond .le 7, 3) := by decide +kernel
theorem d_Ans_truthsThatCanBe_91 : decode b_Ans_truthsThatCanBe 91 = .ok (.iconst 0, 1) := by decide +kernel
theorem d_Ans_truthsThatCanBe_0 : decode b_Ans_truthsThatCanBe 0 = .ok (.aload_n 0, 1) := by decide +kernel
theorem d_Ans_truthsThatCanBe_1 : decode b_Ans_truthsThatCanBe 1 = .ok (.getfield 57, 3) := by decide +kernel
theorem d_Ans_truthsThatCanBe_4 : decode b_Ans_truthsThatCanBe 4 = .ok (.getfield 159, 3) := by decide +kernel
theorem d_Ans_truthsThatCanBe_7 : decode b_Ans_truthsThatCanBe 7 = .ok (.iload_n 1, 1) := by decide +kernel
theorem d_Ans_truthsThatCanBe_8 : decode b_Ans_truthsThatCanBe 8 = .ok (.iaload, 1) := by decide +kernel
theorem d_Ans_truthsThatCanBe_9 : decode b_Ans_truthsThatCanBe 9 = .ok (.istore_n 2, 1) := by decide +kernel
theorem d_Ans_truthsThatCanBe_10 : decode b_Ans_truthsThatCanBe 10 = .ok (.aload_n 0, 1) := by decide +kernel
theorem d_Ans_truthsThatCanBe_11 : decode b_Ans_truthsThatCanBe 11 = .ok (.getfield 57, 3) := by decide +kernel
theorem d_Ans_truthsThatCanBe_14 : decode b_Ans_truthsThatCanBe 14 = .ok (.getfield 175, 3) := by decide +kernel
theorem d_Ans_truthsThatCanBe_17 : decode b_Ans_truthsThatCanBe 17 = .ok (.iload_n 1, 1) := by decide +kernel
theorem d_Ans_truthsThatCanBe_18 : decode b_Ans_truthsThatCanBe 18 = .ok (.iaload, 1) := by decide +kernel
theorem d_Ans_truthsThatCanBe_19 : decode b_Ans_truthsThatCanBe 19 = .ok (.istore_n 3, 1) := by decide +kernel
theorem d_Ans_truthsThatCanBe_20 : decode b_Ans_truthsThatCanBe 20 = .ok (.aload_n 0, 1) := by decide +kernel
theorem d_Ans_truthsThatCanBe_21 : decode b_Ans_truthsThatCanBe 21 = .ok (.getfield 33, 3) := by decide +kernel
theorem d_Ans_truthsThatCanBe_24 : decode b_Ans_truthsThatCanBe 24 = .ok (.iload_n 3, 1) := by decide +kernel
theorem d_Ans_truthsThatCanBe_25 : decode b_Ans_truthsThatCanBe 25 = .ok (.iaload, 1) := by decide +kernel
theorem d_Ans_truthsThatCanBe_26 : decode b_Ans_truthsThatCanBe 26 = .ok (.istore 4, 2) := by decide +kernel
theorem d_Ans_truthsThatCanBe_28 : decode b_Ans_truthsThatCanBe 28 = .ok (.aload_n 0, 1) := by decide +kernel
theorem d_Ans_truthsThatCanBe_29 : decode b_Ans_truthsThatCanBe 29 = .ok (.iload_n 1, 1) := by decide +kernel
theorem d_Ans_truthsThatCanBe_30 : decode b_Ans_truthsThatCanBe 30 = .ok (.invokevirtual 228, 3) := by decide +kernel
theorem d_Ans_truthsThatCanBe_33 : decode b_Ans_truthsThatCanBe 33 = .ok (.istore 5, 2) := by decide +kernel
theorem d_Ans_truthsThatCanBe_35 : decode b_Ans_truthsThatCanBe 35 = .ok (.iload 5, 2) := by decide +kernel
theorem d_Ans_truthsThatCanBe_37 : decode b_Ans_truthsThatCanBe 37 = .ok (.ifCond .eq 20, 3) := by decide +kernel
theorem d_Ans_truthsThatCanBe_57 : decode b_Ans_truthsThatCanBe 57 = .ok (.iload 4, 2) := by decide +kernel
theorem d_Ans_truthsThatCanBe_40 : decode b_Ans_truthsThatCanBe 40 = .ok (.aload_n 0, 1) := by decide +kernel
theorem d_Ans_truthsThatCanBe_41 : decode b_Ans_truthsThatCanBe 41 = .ok (.getfield 33, 3) := by decide +kernel
theorem d_Ans_truthsThatCanBe_44 : decode b_Ans_truthsThatCanBe 44 = .ok (.aload_n 0, 1) := by decide +kernel
theorem d_Ans_truthsThatCanBe_45 : decode b_Ans_truthsThatCanBe 45 = .ok (.getfield 57, 3) := by decide +kernel
theorem d_Ans_truthsThatCanBe_48 : decode b_Ans_truthsThatCanBe 48 = .ok (.getfield 184, 3) := by decide +kernel
theorem d_Ans_truthsThatCanBe_51 : decode b_Ans_truthsThatCanBe 51 = .ok (.iload_n 1, 1) := by decide +kernel
theorem d_Ans_truthsThatCanBe_52 : decode b_Ans_truthsThatCanBe 52 = .ok (.iaload, 1) := by decide +kernel
theorem d_Ans_truthsThatCanBe_53 : decode b_Ans_truthsThatCanBe 53 = .ok (.iaload, 1) := by decide +kernel
theorem d_Ans_truthsThatCanBe_54 : decode b_Ans_truthsThatCanBe 54 = .ok (.goto 5, 3) := by decide +kernel
section
variable (l : Launch) (dC : Nat → ClassId) (dI : Nat → Nat → Nat) (cI cB cJ cZ : ClassId)
set_option maxRecDepth 100000 in
set_option maxHeartbeats 4000000 in
set_option maxRecDepth 100000 in
theorem t_Ans_canBeListed_3 {p : Program} {l : Launch} {e : Env} {R : Room} {s : State} {m : MethodId} {args : Array Value} {below : List Frame} {meth : Method} {c : Code} {cells slots : Nat} {Q : State → Prop} {dC : Nat → ClassId} {dI : Nat → Nat → Nat} {cI cB cJ cZ : ClassId} {A : Nat → Prop} {ad : Nat → Nat} {NN : Nat} {E : Heap} {tM tC : Nat} {kK kV : Nat → Nat} {post : Int32 → St → Prop} {rec3 : Nat → Int32 → Int32 → Int32 → Int32 → St → Prop} (hx : p.tables.exec = Jvm.exec) (hb : c.code = b_Ans_canBeListed) (hml : c.maxLocals = 5) (hown : s.vm.findClass R_Ans = some m.cls) (hT : ∀ w ∈ TG, w.before args s = true) (hK : va_K (dC, dI) CL (TY cI cB cJ cZ) s) (hN : NW s) (hA : ∀ q : Nat, s.heap.size ≤ q → A q) (hRc : cells ≤ R.cells) (hRs : slots ≤ R.slots) (hRf : 3 ≤ R.frames) (hRl : 142 ≤ R.locals) (hNN : 152 ≤ NN) (hE : CE E tM tC kK kV A s) (hret : ∀ (r : Int32) (x : St) (H : Heap) (locs : List Loc) (pc : Nat) (ls : Array Slot), decode b_Ans_canBeListed pc = .ok (.ireturn, 1) → narrow .boolean (.int r) = .int r → post r x → Wd dC dI cI cB cJ cZ ad stC kcC NN A x H → va_S A s.heap H locs → W p l e R s m args below meth c H locs cells slots Q (F0 m pc ls [.int r])) (hrec3 : ∀ (o : Nat) (l1 : Int32) (l2 : Int32) (l3 : Int32) (l4 : Int32) (x : St) (H : Heap) (locs : List Loc) (ls : Array Slot), (o < NN ∧ kcC o = 10) → rec3 o l1 l2 l3 l4 x → Wd dC dI cI cB cJ cZ ad stC kcC NN A x H → va_S A s.heap H locs → lv_has ls 5 [(0, .ref (ad o)), (1, .int l1), (2, .int l2), (3, .int l3), (4, .int l4)] → W p l e R s m args below meth c H locs cells slots Q (F0 m 3 ls [])) : ∀ (o : Nat) (l1 : Int32) (l2 : Int32) (l3 : Int32) (l4 : Int32) (x : St) (H : Heap) (locs : List Loc) (ls : Array Slot), (o < NN ∧ kcC o = 10) → j_Ans_canBeListed_3 post rec3 o l1 l2 l3 l4 x → Wd dC dI cI cB cJ cZ ad stC kcC NN A x H → va_S A s.heap H locs → lv_has ls 5 [(0, .ref (ad o)), (1, .int l1), (2, .int l2), (3, .int l3), (4, .int l4)] → W p l e R s m args below meth c H locs cells slots Q (F0 m 3 ls []) := by
  intro o l1 l2 l3 l4 x H locs ls fo hw hW hS hl
  unfold j_Ans_canBeListed_3 at hw
  refine lv_iload hx hb d_Ans_canBeListed_3 (lv_at hl 4 rfl) ?_
  refine lv_aload_n hx hb d_Ans_canBeListed_5 rfl (lv_at hl 0 rfl) ?_
  obtain ⟨q1, hq1, hw⟩ := hw
  refine w_getr (q := q1) (k := 15) (t := 10) (C := R_Ans) (T := F_Ans) (N := 16) hx hb hT hown hK hW fo.1 fo.2 (by decide) in_Ans rfl rfl (by decide) rfl fr_Ans_15 w_3_177 d_Ans_canBeListed_6 hq1 (fun aq1 bq1 => ?_)
  have fq1 : q1 < NN ∧ kcC q1 = 9 := ⟨aq1, bq1⟩
  refine w_getf (q := (stC q1 12)) (k := 12) (t := 9) (C := R_Qry) (T := F_Qry) (N := 20) hx hb hT hown hK hW fq1.1 fq1.2 (by decide) in_Qry rfl rfl (by decide) rfl fr_Qry_12 w_3_98 d_Ans_canBeListed_9 rfl ?_
  refine lv_iload_n hx hb d_Ans_canBeListed_12 rfl (lv_at hl 1 rfl) ?_
  obtain ⟨hi, hw⟩ := hw
  refine w_iald (o := (stC q1 12)) hx hb hK hW (st_ty hNN fq1.1 fq1.2 rfl).1 (st_ty hNN fq1.1 fq1.2 rfl).2 hi d_Ans_canBeListed_13 ?_
  refine lv_icmp_ge (tgt := 55) hx hb d_Ans_canBeListed_14 (by decide) (fun c2 => ?_) (fun c2 => ?_)
  · have hw := hw.1 c2
    refine lv_iconst (v := 0) hx hb d_Ans_canBeListed_55 (by decide) ?_
    exact hret 0 x H locs 56 ls d_Ans_canBeListed_56 rfl hw hW hS
  · have hw := hw.2 c2
    refine lv_aload_n hx hb d_Ans_canBeListed_17 rfl (lv_at hl 0 rfl) ?_
    refine lv_iconst (v := 0) hx hb d_Ans_canBeListed_18 (by decide) ?_
    refine lv_iload_n hx hb d_Ans_canBeListed_19 rfl (lv_at hl 2 rfl) ?_
    refine lv_iload_n hx hb d_Ans_canBeListed_20 rfl (lv_at hl 3 rfl) ?_
    refine lv_aload_n hx hb d_Ans_canBeListed_21 rfl (lv_at hl 0 rfl) ?_
    obtain ⟨q3, hq3, hw⟩ := hw
    refine w_getr (q := q3) (k := 15) (t := 10) (C := R_Ans) (T := F_Ans) (N := 16) hx hb hT hown hK hW fo.1 fo.2 (by decide) in_Ans rfl rfl (by decide) rfl fr_Ans_15 w_3_177 d_Ans_canBeListed_22 hq3 (fun aq3 bq3 => ?_)
    have fq3 : q3 < NN ∧ kcC q3 = 9 := ⟨aq3, bq3⟩
    refine w_getf (q := (stC q3 14)) (k := 14) (t := 9) (C := R_Qry) (T := F_Qry) (N := 20) hx hb hT hown hK hW fq3.1 fq3.2 (by decide) in_Qry rfl rfl (by decide) rfl fr_Qry_14 w_3_101 d_Ans_canBeListed_25 rfl ?_
    refine lv_aload_n hx hb d_Ans_canBeListed_28 rfl (lv_at hl 0 rfl) ?_
    obtain ⟨q4, hq4, hw⟩ := hw
    refine w_getr (q := q4) (k := 15) (t := 10) (C := R_Ans) (T := F_Ans) (N := 16) hx hb hT hown hK hW fo.1 fo.2 (by decide) in_Ans rfl rfl (by decide) rfl fr_Ans_15 w_3_177 d_Ans_canBeListed_29 hq4 (fun aq4 bq4 => ?_)
    have fq4 : q4 < NN ∧ kcC q4 = 9 := ⟨aq4, bq4⟩
    refine w_getf (q := (stC q4 11)) (k := 11) (t := 9) (C := R_Qry) (T := F_Qry) (N := 20) hx hb hT hown hK hW fq4.1 fq4.2 (by decide) in_Qry rfl rfl (by decide) rfl fr_Qry_11 w_3_96 d_Ans_canBeListed_32 rfl ?_
    refine lv_iload_n hx hb d_Ans_canBeListed_35 rfl (lv_at hl 1 rfl) ?_
    obtain ⟨hi, hw⟩ := hw
    refine w_iald (o := (stC q4 11)) hx hb hK hW (st_ty hNN fq4.1 fq4.2 rfl).1 (st_ty hNN fq4.1 fq4.2 rfl).2 hi d_Ans_canBeListed_36 ?_
    refine lv_iload hx hb d_Ans_canBeListed_37 (lv_at hl 4 rfl) ?_
    refine lv_iadd hx hb d_Ans_canBeListed_39 ?_
    obtain ⟨hi, hw⟩ := hw
    refine w_lald (o := (stC q3 14)) hx hb hK hW (st_ty hNN fq3.1 fq3.2 rfl).1 (st_ty hNN fq3.1 fq3.2 rfl).2 hi d_Ans_canBeListed_40 ?_
    have hF := hW.free hS hA
    refine va_calli (va_runV (C := R_Ans) (As := [.int 0, .int l2, .int l3, .long (rL x (stC q3 14) ((rA x (stC q4 11) l1) + l4))]) (rest := []) ⟨hx, hb, hml, hown, hT⟩ (k_Ans_canBe l dC dI cI cB cJ cZ ad NN E tM tC kK kV hNN H.size o 0 l2 l3 (rL x (stC q3 14) ((rA x (stC q4 11) l1) + l4)) x fo hw) ⟨callB_of 4 hT (gwt_in w_8_54) rfl rfl rfl (hT _ w_1_13) (hT _ w_8_51) (by decide +kernel) ⟨Nat.le_trans (Nat.le_of_ble_eq_true rfl) hRf, Nat.le_trans (Nat.le_of_ble_eq_true rfl) hRl⟩, hT _ w_8_53, hT _ ws_93⟩ ⟨PVc.blind, va_recv hK hW.1 (ci := 10) (q0 := o) rfl (pic_obj fo.1 fo.2 (by decide)), PVc.at _ hW hK hN hE hS hF⟩ rfl rfl hl.1 rfl (lv_room (Nat.le_of_ble_eq_true rfl)) d_Ans_canBeListed_41 ⟨hRc, hRs⟩) hS (fun q _ h => hF q h) hF (fun r6 x5 t H locs ht hvm hw hB hz1 hk1 hS => ?_)
    have hW := Wd.back hB ht hF
    clear hB ht hF hz1 hk1 hvm
    refine lv_if_eq (tgt := 49) hx hb d_Ans_canBeListed_44 (by decide) (fun c7 => ?_) (fun c7 => ?_)
    · have hw := hw.1 c7
      refine lv_iinc (v := (l4 + 1)) (lv' := [(4, .int (l4 + 1)), (0, .ref (ad o)), (1, .int l1), (2, .int l2), (3, .int l3)]) hx hb d_Ans_canBeListed_49 hl (k := 4) rfl rfl (by decide) rfl (fun ls hl => ?_)
      refine lv_goto (tgt := 3) hx hb d_Ans_canBeListed_52 (by decide) ?_
      exact hrec3 o l1 l2 l3 (l4 + 1) x5 H locs ls fo hw hW hS (lv_sub hl [1, 2, 3, 4, 0] rfl)
    · have hw := hw.2 c7
      refine lv_iconst (v := 1) hx hb d_Ans_canBeListed_47 (by decide) ?_
      exact hret 1 x5 H locs 48 ls d_Ans_canBeListed_48 rfl hw hW hS
set_option maxHeartbeats 4000000 in
set_option maxRecDepth 100000 in
theorem tl_Ans_canBeListed_3 {p : Program} {l : Launch} {e : Env} {R : Room} {s : State} {m : MethodId} {args : Array Value} {below : List Frame} {meth : Method} {c : Code} {cells slots : Nat} {Q : State → Prop} {dC : Nat → ClassId} {dI : Nat → Nat → Nat} {cI cB cJ cZ : ClassId} {A : Nat → Prop} {ad : Nat → Nat} {NN : Nat} {E : Heap} {tM tC : Nat} {kK kV : Nat → Nat} {post : Int32 → St → Prop} (hx : p.tables.exec = Jvm.exec) (hb : c.code = b_Ans_canBeListed) (hml : c.maxLocals = 5) (hown : s.vm.findClass R_Ans = some m.cls) (hT : ∀ w ∈ TG, w.before args s = true) (hK : va_K (dC, dI) CL (TY cI cB cJ cZ) s) (hN : NW s) (hA : ∀ q : Nat, s.heap.size ≤ q → A q) (hRc : cells ≤ R.cells) (hRs : slots ≤ R.slots) (hRf : 3 ≤ R.frames) (hRl : 142 ≤ R.locals) (hNN : 152 ≤ NN) (hE : CE E tM tC kK kV A s) (hret : ∀ (r : Int32) (x : St) (H : Heap) (locs : List Loc) (pc : Nat) (ls : Array Slot), decode b_Ans_canBeListed pc = .ok (.ireturn, 1) → narrow .boolean (.int r) = .int r → post r x → Wd dC dI cI cB cJ cZ ad stC kcC NN A x H → va_S A s.heap H locs → W p l e R s m args below meth c H locs cells slots Q (F0 m pc ls [.int r]))  : ∀ n : Nat, ∀ (o : Nat) (l1 : Int32) (l2 : Int32) (l3 : Int32) (l4 : Int32) (x : St) (H : Heap) (locs : List Loc) (ls : Array Slot), (o < NN ∧ kcC o = 10) → wl_Ans_canBeListed_3 post n o l1 l2 l3 l4 x → Wd dC dI cI cB cJ cZ ad stC kcC NN A x H → va_S A s.heap H locs → lv_has ls 5 [(0, .ref (ad o)), (1, .int l1), (2, .int l2), (3, .int l3), (4, .int l4)] → W p l e R s m args below meth c H locs cells slots Q (F0 m 3 ls []) := by
  intro n
  induction n with
  | zero => intro o l1 l2 l3 l4 x H locs ls fo hw; exact hw.elim
  | succ n ih => intro o l1 l2 l3 l4 x H locs ls fo hw hW hS hl; exact t_Ans_canBeListed_3 hx hb hml hown hT hK hN hA hRc hRs hRf hRl hNN hE hret  ih o l1 l2 l3 l4 x H locs ls fo hw hW hS hl
set_option maxRecDepth 100000 in
set_option maxHeartbeats 4000000 in
set_option maxRecDepth 100000 in
theorem t_Ans_canBeListed_e {p : Program} {l : Launch} {e : Env} {R : Room} {s : State} {m : MethodId} {args : Array Value} {below : List Frame} {meth : Method} {c : Code} {cells slots : Nat} {Q : State → Prop} {dC : Nat → ClassId} {dI : Nat → Nat → Nat} {cI cB cJ cZ : ClassId} {A : Nat → Prop} {ad : Nat → Nat} {NN : Nat} {E : Heap} {tM tC : Nat} {kK kV : Nat → Nat} {post : Int32 → St → Prop} (hx : p.tables.exec = Jvm.exec) (hb : c.code = b_Ans_canBeListed) (hml : c.maxLocals = 5) (hown : s.vm.findClass R_Ans = some m.cls) (hT : ∀ w ∈ TG, w.before args s = true) (hK : va_K (dC, dI) CL (TY cI cB cJ cZ) s) (hN : NW s) (hA : ∀ q : Nat, s.heap.size ≤ q → A q) (hRc : cells ≤ R.cells) (hRs : slots ≤ R.slots) (hRf : 3 ≤ R.frames) (hRl : 142 ≤ R.locals) (hNN : 152 ≤ NN) (hE : CE E tM tC kK kV A s) (hret : ∀ (r : Int32) (x : St) (H : Heap) (locs : List Loc) (pc : Nat) (ls : Array Slot), decode b_Ans_canBeListed pc = .ok (.ireturn, 1) → narrow .boolean (.int r) = .int r → post r x → Wd dC dI cI cB cJ cZ ad stC kcC NN A x H → va_S A s.heap H locs → W p l e R s m args below meth c H locs cells slots Q (F0 m pc ls [.int r])) : ∀ (o : Nat) (l1 : Int32) (l2 : Int32) (l3 : Int32) (x : St) (H : Heap) (locs : List Loc) (ls : Array Slot), (o < NN ∧ kcC o = 10) → wp_Ans_canBeListed post o l1 l2 l3 x → Wd dC dI cI cB cJ cZ ad stC kcC NN A x H → va_S A s.heap H locs → lv_has ls 5 [(0, .ref (ad o)), (1, .int l1), (2, .int l2), (3, .int l3)] → W p l e R s m args below meth c H locs cells slots Q (F0 m 0 ls []) := by
  intro o l1 l2 l3 x H locs ls fo hw hW hS hl
  unfold wp_Ans_canBeListed at hw
  refine lv_iconst (v := 0) hx hb d_Ans_canBeListed_0 (by decide) ?_
  refine lv_istore (lv' := [(4, .int 0), (0, .ref (ad o)), (1, .int l1), (2, .int l2), (3, .int l3)]) hx hb d_Ans_canBeListed_1 hl (by decide) rfl (fun ls hl => ?_)
  obtain ⟨n, hw⟩ := hw
  exact tl_Ans_canBeListed_3 hx hb hml hown hT hK hN hA hRc hRs hRf hRl hNN hE hret  n o l1 l2 l3 0 x H locs ls fo hw hW hS (lv_sub hl [1, 2, 3, 4, 0] rfl)
set_option maxHeartbeats 4000000 in
set_option maxRecDepth 100000 in
theorem k_Ans_canBeListed (l : Launch) (dC : Nat → ClassId) (dI : Nat → Nat → Nat) (cI cB cJ cZ : ClassId) (ad : Nat → Nat) (NN : Nat) (E : Heap) (tM tC : Nat) (kK kV : Nat → Nat) (hNN : 152 ≤ NN) (sz : Nat) (o : Nat) (l1 : Int32) (l2 : Int32) (l3 : Int32) (x : St) (fo : o < NN ∧ kcC o = 10) {post : Int32 → St → Prop} (hw : wp_Ans_canBeListed post o l1 l2 l3 x) : Met l y_Ans_canBeListed (wsOf y_Ans_canBeListed b_Ans_canBeListed 5 (some (.boolean))) ({ frames := 3, cells := 0, slots := 0, locals := 142 }) (va_Pc [.ref (ad o), .int l1, .int l2, .int l3] (PVc dC dI cI cB cJ cZ ad stC kcC NN E tM tC kK kV sz x)) (va_Qi (fun (r : Int32) (y : St) => post r y) (fun y t => Wd dC dI cI cB cJ cZ ad stC kcC NN (va_A (pic ad stC kcC NN cI cB cJ cZ x) sz) y t.heap) (va_A (pic ad stC kcC NN cI cB cJ cZ x) sz)) 0 0 (va_A (pic ad stC kcC NN cI cB cJ cZ x) sz) := by
  refine Met.ofW (cc := b_Ans_canBeListed) (maxL := 5) (ret := some (.boolean)) (by decide) rfl ?_
  intro p e s m args below meth c s₁ B hml hv
  obtain ⟨rfl, ⟨hsz, hW0, hK, hN⟩, hE⟩ := hv
  have hx := B.exec
  have hb := B.bytes
  have hr := B.returns
  have hts := atoms_spec B.pre
  have hT : ∀ w ∈ TG, w.before _ s = true := fun w h => hts w (List.mem_cons_of_mem _ h)
  have hown : s.vm.findClass R_Ans = some m.cls := findClass_of_methodNamed B.named
  have hlocks := B.notSynchronized
  subst hsz
  have hW : Wd dC dI cI cB cJ cZ ad stC kcC NN (va_A (pic ad stC kcC NN cI cB cJ cZ x) s.heap.size) x s.heap := ⟨hW0.1, hW0.2.1.self (sz := s.heap.size), hW0.2.2⟩
  generalize hAe : va_A (pic ad stC kcC NN cI cB cJ cZ x) s.heap.size = A at hW hE ⊢
  have hA : ∀ q : Nat, s.heap.size ≤ q → A q := fun q h => by rw [← hAe]; exact Or.inr h
  have hS : va_S A s.heap s.heap [] := va_S.rf
  have hl := lv_entry ([.ref (ad o), .int l1, .int l2, .int l3]) (n := 5) (Nat.le_of_ble_eq_true rfl)
  rw [lg_entry_eq]
  generalize (lg_sl ([.ref (ad o), .int l1, .int l2, .int l3]) ++ List.replicate (5 - (lg_sl ([.ref (ad o), .int l1, .int l2, .int l3])).length) Slot.unset).toArray = ls at hl ⊢
  have hl : lv_has ls 5 [(0, .ref (ad o)), (1, .int l1), (2, .int l2), (3, .int l3)] := hl
  exact t_Ans_canBeListed_e hx hb hml hown hT hK hN hA (Nat.le_refl 0) (Nat.le_refl 0) (Nat.le_refl 3) (Nat.le_refl 142) hNN hE (fun r x H locs pc ls hd hz hp hW hS => W.zret (v := r) (ty := .boolean) hx hb hr hz (fun t ht hM => ⟨⟨r, x, rfl, hp, Wd.back hW ht.symm (fun _ z => z)⟩, hS.F ht⟩) hS.2.2 hd hlocks)  o l1 l2 l3 x _ _ ls fo hw hW hS hl
set_option maxRecDepth 100000 in
set_option maxHeartbeats 4000000 in
set_option maxRecDepth 100000 in
theorem t_Ans_isListed_3 {p : Program} {l : Launch} {e : Env} {R : Room} {s : State} {m : MethodId} {args : Array Value} {below : List Frame} {meth : Method} {c : Code} {cells slots : Nat} {Q : State → Prop} {dC : Nat → ClassId} {dI : Nat → Nat → Nat} {cI cB cJ cZ : ClassId} {A : Nat → Prop} {ad : Nat → Nat} {NN : Nat} {E : Heap} {tM tC : Nat} {kK kV : Nat → Nat} {post : Int32 → St → Prop} {rec3 : Nat → Int32 → Int32 → Int64 → Int32 → St → Prop} (hx : p.tables.exec = Jvm.exec) (hb : c.code = b_Ans_isListed) (hml : c.maxLocals = 8) (hown : s.vm.findClass R_Ans = some m.cls) (hT : ∀ w ∈ TG, w.before args s = true) (hK : va_K (dC, dI) CL (TY cI cB cJ cZ) s) (hN : NW s) (hA : ∀ q : Nat, s.heap.size ≤ q → A q) (hRc : cells ≤ R.cells) (hRs : slots ≤ R.slots) (hRf : 2 ≤ R.frames) (hRl : 112 ≤ R.locals) (hNN : 152 ≤ NN) (hE : CE E tM tC kK kV A s) (hret : ∀ (r : Int32) (x : St) (H : Heap) (locs : List Loc) (pc : Nat) (ls : Array Slot), decode b_Ans_isListed pc = .ok (.ireturn, 1) → narrow .boolean (.int r) = .int r → post r x → Wd dC dI cI cB cJ cZ ad stC kcC NN A x H → va_S A s.heap H locs → W p l e R s m args below meth c H locs cells slots Q (F0 m pc ls [.int r])) (hrec3 : ∀ (o : Nat) (l1 : Int32) (l2 : Int32) (l3 : Int64) (l5 : Int32) (x : St) (H : Heap) (locs : List Loc) (ls : Array Slot), (o < NN ∧ kcC o = 10) → rec3 o l1 l2 l3 l5 x → Wd dC dI cI cB cJ cZ ad stC kcC NN A x H → va_S A s.heap H locs → lv_has ls 8 [(0, .ref (ad o)), (1, .int l1), (2, .int l2), (3, .long l3), (5, .int l5)] → W p l e R s m args below meth c H locs cells slots Q (F0 m 3 ls [])) : ∀ (o : Nat) (l1 : Int32) (l2 : Int32) (l3 : Int64) (l5 : Int32) (x : St) (H : Heap) (locs : List Loc) (ls : Array Slot), (o < NN ∧ kcC o = 10) → j_Ans_isListed_3 post rec3 o l1 l2 l3 l5 x → Wd dC dI cI cB cJ cZ ad stC kcC NN A x H → va_S A s.heap H locs → lv_has ls 8 [(0, .ref (ad o)), (1, .int l1), (2, .int l2), (3, .long l3), (5, .int l5)] → W p l e R s m args below meth c H locs cells slots Q (F0 m 3 ls []) := by
  intro o l1 l2 l3 l5 x H locs ls fo hw hW hS hl
  unfold j_Ans_isListed_3 at hw
  refine lv_iload hx hb d_Ans_isListed_3 (lv_at hl 4 rfl) ?_
  refine lv_aload_n hx hb d_Ans_isListed_5 rfl (lv_at hl 0 rfl) ?_
  obtain ⟨q1, hq1, hw⟩ := hw
  refine w_getr (q := q1) (k := 15) (t := 10) (C := R_Ans) (T := F_Ans) (N := 16) hx hb hT hown hK hW fo.1 fo.2 (by decide) in_Ans rfl rfl (by decide) rfl fr_Ans_15 w_3_177 d_Ans_isListed_6 hq1 (fun aq1 bq1 => ?_)
  have fq1 : q1 < NN ∧ kcC q1 = 9 := ⟨aq1, bq1⟩
  refine w_getf (q := (stC q1 12)) (k := 12) (t := 9) (C := R_Qry) (T := F_Qry) (N := 20) hx hb hT hown hK hW fq1.1 fq1.2 (by decide) in_Qry rfl rfl (by decide) rfl fr_Qry_12 w_3_98 d_Ans_isListed_9 rfl ?_
  refine lv_iload_n hx hb d_Ans_isListed_12 rfl (lv_at hl 1 rfl) ?_
  obtain ⟨hi, hw⟩ := hw
  refine w_iald (o := (stC q1 12)) hx hb hK hW (st_ty hNN fq1.1 fq1.2 rfl).1 (st_ty hNN fq1.1 fq1.2 rfl).2 hi d_Ans_isListed_13 ?_
  refine lv_icmp_ge (tgt := 71) hx hb d_Ans_isListed_14 (by decide) (fun c2 => ?_) (fun c2 => ?_)
  · have hw := hw.1 c2
    refine lv_iconst (v := 0) hx hb d_Ans_isListed_71 (by decide) ?_
    exact hret 0 x H locs 72 ls d_Ans_isListed_72 rfl hw hW hS
  · have hw := hw.2 c2
    refine lv_aload_n hx hb d_Ans_isListed_17 rfl (lv_at hl 0 rfl) ?_
    obtain ⟨q3, hq3, hw⟩ := hw
    refine w_getr (q := q3) (k := 15) (t := 10) (C := R_Ans) (T := F_Ans) (N := 16) hx hb hT hown hK hW fo.1 fo.2 (by decide) in_Ans rfl rfl (by decide) rfl fr_Ans_15 w_3_177 d_Ans_isListed_18 hq3 (fun aq3 bq3 => ?_)
    have fq3 : q3 < NN ∧ kcC q3 = 9 := ⟨aq3, bq3⟩
    refine w_getf (q := (stC q3 14)) (k := 14) (t := 9) (C := R_Qry) (T := F_Qry) (N := 20) hx hb hT hown hK hW fq3.1 fq3.2 (by decide) in_Qry rfl rfl (by decide) rfl fr_Qry_14 w_3_101 d_Ans_isListed_21 rfl ?_
    refine lv_aload_n hx hb d_Ans_isListed_24 rfl (lv_at hl 0 rfl) ?_
    obtain ⟨q4, hq4, hw⟩ := hw
    refine w_getr (q := q4) (k := 15) (t := 10) (C := R_Ans) (T := F_Ans) (N := 16) hx hb hT hown hK hW fo.1 fo.2 (by decide) in_Ans rfl rfl (by decide) rfl fr_Ans_15 w_3_177 d_Ans_isListed_25 hq4 (fun aq4 bq4 => ?_)
    have fq4 : q4 < NN ∧ kcC q4 = 9 := ⟨aq4, bq4⟩
    refine w_getf (q := (stC q4 11)) (k := 11) (t := 9) (C := R_Qry) (T := F_Qry) (N := 20) hx hb hT hown hK hW fq4.1 fq4.2 (by decide) in_Qry rfl rfl (by decide) rfl fr_Qry_11 w_3_96 d_Ans_isListed_28 rfl ?_
    refine lv_iload_n hx hb d_Ans_isListed_31 rfl (lv_at hl 1 rfl) ?_
    obtain ⟨hi, hw⟩ := hw
    refine w_iald (o := (stC q4 11)) hx hb hK hW (st_ty hNN fq4.1 fq4.2 rfl).1 (st_ty hNN fq4.1 fq4.2 rfl).2 hi d_Ans_isListed_32 ?_
    refine lv_iload hx hb d_Ans_isListed_33 (lv_at hl 4 rfl) ?_
    refine lv_iadd hx hb d_Ans_isListed_35 ?_
    obtain ⟨hi, hw⟩ := hw
    refine w_lald (o := (stC q3 14)) hx hb hK hW (st_ty hNN fq3.1 fq3.2 rfl).1 (st_ty hNN fq3.1 fq3.2 rfl).2 hi d_Ans_isListed_36 ?_
    refine lv_topl (fun v5 ev5 => ?_)
    have hw := hw v5 ev5
    refine lv_lstore (lv' := [(6, .long v5), (0, .ref (ad o)), (1, .int l1), (2, .int l2), (3, .long l3), (5, .int l5)]) hx hb d_Ans_isListed_37 hl (by decide) rfl (fun ls hl => ?_)
    refine lv_iload_n hx hb d_Ans_isListed_39 rfl (lv_at hl 3 rfl) ?_
    refine lv_aload_n hx hb d_Ans_isListed_40 rfl (lv_at hl 1 rfl) ?_
    obtain ⟨q6, hq6, hw⟩ := hw
    refine w_getr (q := q6) (k := 14) (t := 10) (C := R_Ans) (T := F_Ans) (N := 16) hx hb hT hown hK hW fo.1 fo.2 (by decide) in_Ans rfl rfl (by decide) rfl fr_Ans_14 w_3_176 d_Ans_isListed_41 hq6 (fun aq6 bq6 => ?_)
    have fq6 : q6 < NN ∧ kcC q6 = 6 := ⟨aq6, bq6⟩
    refine w_getf (q := (stC q6 6)) (k := 6) (t := 6) (C := R_Vlt) (T := F_Vlt) (N := 20) hx hb hT hown hK hW fq6.1 fq6.2 (by decide) in_Vlt rfl rfl (by decide) rfl fr_Vlt_6 w_2_142 d_Ans_isListed_44 rfl ?_
    refine lv_lload_n hx hb d_Ans_isListed_47 rfl (lv_at hl 4 rfl) ?_
    refine lv_aload_n hx hb d_Ans_isListed_48 rfl (lv_at hl 1 rfl) ?_
    obtain ⟨q7, hq7, hw⟩ := hw
    refine w_getr (q := q7) (k := 15) (t := 10) (C := R_Ans) (T := F_Ans) (N := 16) hx hb hT hown hK hW fo.1 fo.2 (by decide) in_Ans rfl rfl (by decide) rfl fr_Ans_15 w_3_177 d_Ans_isListed_49 hq7 (fun aq7 bq7 => ?_)
    have fq7 : q7 < NN ∧ kcC q7 = 9 := ⟨aq7, bq7⟩
    refine w_getf (q := (stC q7 16)) (k := 16) (t := 9) (C := R_Qry) (T := F_Qry) (N := 20) hx hb hT hown hK hW fq7.1 fq7.2 (by decide) in_Qry rfl rfl (by decide) rfl fr_Qry_16 w_3_104 d_Ans_isListed_52 rfl ?_
    refine lv_lload hx hb d_Ans_isListed_55 (lv_at hl 0 rfl) ?_
    have hF := hW.free hS hA
    refine va_calli (va_runSN (As := [.int l2, .ref (ad (stC q6 6)), .long l3, .ref (ad (stC q7 16)), .long v5]) (rest := []) ⟨hx, hb, hml, hown, hT⟩ (k_V_compareValues l dC dI cI cB cJ cZ ad NN E tM tC kK kV hNN H.size l2 (stC q6 6) l3 (stC q7 16) v5 x (st_ty hNN fq6.1 fq6.2 rfl) (st_ty hNN fq7.1 fq7.2 rfl) hw) ⟨va_cnB 5 hT (gwt_in w_5_225) rfl rfl rfl (hN _ wn_8_55 rfl) (hT _ w_1_1) (by decide +kernel) ⟨Nat.le_trans (Nat.le_of_ble_eq_true rfl) hRf, Nat.le_trans (Nat.le_of_ble_eq_true rfl) hRl⟩, hT _ w_5_224, trivial⟩ ⟨PVc.blind, PVc.at _ hW hK hN hE hS hF⟩ rfl rfl hl.1 rfl (lv_room (Nat.le_of_ble_eq_true rfl)) d_Ans_isListed_57 ⟨hRc, hRs⟩) hS (fun q _ h => hF q h) hF (fun r9 x8 t H locs ht hvm hw hB hz1 hk1 hS => ?_)
    have hW := Wd.back hB ht hF
    clear hB ht hF hz1 hk1 hvm
    refine lv_if_ne (tgt := 65) hx hb d_Ans_isListed_60 (by decide) (fun c10 => ?_) (fun c10 => ?_)
    · have hw := hw.1 c10
      refine lv_iinc (v := (l5 + 1)) (lv' := [(5, .int (l5 + 1)), (6, .long v5), (0, .ref (ad o)), (1, .int l1), (2, .int l2), (3, .long l3)]) hx hb d_Ans_isListed_65 hl (k := 5) rfl rfl (by decide) rfl (fun ls hl => ?_)
      refine lv_goto (tgt := 3) hx hb d_Ans_isListed_68 (by decide) ?_
      exact hrec3 o l1 l2 l3 (l5 + 1) x8 H locs ls fo hw hW hS (lv_sub hl [2, 3, 4, 5, 0] rfl)
    · have hw := hw.2 c10
      refine lv_iconst (v := 1) hx hb d_Ans_isListed_63 (by decide) ?_
      exact hret 1 x8 H locs 64 ls d_Ans_isListed_64 rfl hw hW hS
set_option maxHeartbeats 4000000 in
set_option maxRecDepth 100000 in
theorem tl_Ans_isListed_3 {p : Program} {l : Launch} {e : Env} {R : Room} {s : State} {m : MethodId} {args : Array Value} {below : List Frame} {meth : Method} {c : Code} {cells slots : Nat} {Q : State → Prop} {dC : Nat → ClassId} {dI : Nat → Nat → Nat} {cI cB cJ cZ : ClassId} {A : Nat → Prop} {ad : Nat → Nat} {NN : Nat} {E : Heap} {tM tC : Nat} {kK kV : Nat → Nat} {post : Int32 → St → Prop} (hx : p.tables.exec = Jvm.exec) (hb : c.code = b_Ans_isListed) (hml : c.maxLocals = 8) (hown : s.vm.findClass R_Ans = some m.cls) (hT : ∀ w ∈ TG, w.before args s = true) (hK : va_K (dC, dI) CL (TY cI cB cJ cZ) s) (hN : NW s) (hA : ∀ q : Nat, s.heap.size ≤ q → A q) (hRc : cells ≤ R.cells) (hRs : slots ≤ R.slots) (hRf : 2 ≤ R.frames) (hRl : 112 ≤ R.locals) (hNN : 152 ≤ NN) (hE : CE E tM tC kK kV A s) (hret : ∀ (r : Int32) (x : St) (H : Heap) (locs : List Loc) (pc : Nat) (ls : Array Slot), decode b_Ans_isListed pc = .ok (.ireturn, 1) → narrow .boolean (.int r) = .int r → post r x → Wd dC dI cI cB cJ cZ ad stC kcC NN A x H → va_S A s.heap H locs → W p l e R s m args below meth c H locs cells slots Q (F0 m pc ls [.int r]))  : ∀ n : Nat, ∀ (o : Nat) (l1 : Int32) (l2 : Int32) (l3 : Int64) (l5 : Int32) (x : St) (H : Heap) (locs : List Loc) (ls : Array Slot), (o < NN ∧ kcC o = 10) → wl_Ans_isListed_3 post n o l1 l2 l3 l5 x → Wd dC dI cI cB cJ cZ ad stC kcC NN A x H → va_S A s.heap H locs → lv_has ls 8 [(0, .ref (ad o)), (1, .int l1), (2, .int l2), (3, .long l3), (5, .int l5)] → W p l e R s m args below meth c H locs cells slots Q (F0 m 3 ls []) := by
  intro n
  induction n with
  | zero => intro o l1 l2 l3 l5 x H locs ls fo hw; exact hw.elim
  | succ n ih => intro o l1 l2 l3 l5 x H locs ls fo hw hW hS hl; exact t_Ans_isListed_3 hx hb hml hown hT hK hN hA hRc hRs hRf hRl hNN hE hret  ih o l1 l2 l3 l5 x H locs ls fo hw hW hS hl
set_option maxRecDepth 100000 in
set_option maxHeartbeats 4000000 in
set_option maxRecDepth 100000 in
theorem t_Ans_isListed_e {p : Program} {l : Launch} {e : Env} {R : Room} {s : State} {m : MethodId} {args : Array Value} {below : List Frame} {meth : Method} {c : Code} {cells slots : Nat} {Q : State → Prop} {dC : Nat → ClassId} {dI : Nat → Nat → Nat} {cI cB cJ cZ : ClassId} {A : Nat → Prop} {ad : Nat → Nat} {NN : Nat} {E : Heap} {tM tC : Nat} {kK kV : Nat → Nat} {post : Int32 → St → Prop} (hx : p.tables.exec = Jvm.exec) (hb : c.code = b_Ans_isListed) (hml : c.maxLocals = 8) (hown : s.vm.findClass R_Ans = some m.cls) (hT : ∀ w ∈ TG, w.before args s = true) (hK : va_K (dC, dI) CL (TY cI cB cJ cZ) s) (hN : NW s) (hA : ∀ q : Nat, s.heap.size ≤ q → A q) (hRc : cells ≤ R.cells) (hRs : slots ≤ R.slots) (hRf : 2 ≤ R.frames) (hRl : 112 ≤ R.locals) (hNN : 152 ≤ NN) (hE : CE E tM tC kK kV A s) (hret : ∀ (r : Int32) (x : St) (H : Heap) (locs : List Loc) (pc : Nat) (ls : Array Slot), decode b_Ans_isListed pc = .ok (.ireturn, 1) → narrow .boolean (.int r) = .int r → post r x → Wd dC dI cI cB cJ cZ ad stC kcC NN A x H → va_S A s.heap H locs → W p l e R s m args below meth c H locs cells slots Q (F0 m pc ls [.int r])) : ∀ (o : Nat) (l1 : Int32) (l2 : Int32) (l3 : Int64) (x : St) (H : Heap) (locs : List Loc) (ls : Array Slot), (o < NN ∧ kcC o = 10) → wp_Ans_isListed post o l1 l2 l3 x → Wd dC dI cI cB cJ cZ ad stC kcC NN A x H → va_S A s.heap H locs → lv_has ls 8 [(0, .ref (ad o)), (1, .int l1), (2, .int l2), (3, .long l3)] → W p l e R s m args below meth c H locs cells slots Q (F0 m 0 ls []) := by
  intro o l1 l2 l3 x H locs ls fo hw hW hS hl
  unfold wp_Ans_isListed at hw
  refine lv_iconst (v := 0) hx hb d_Ans_isListed_0 (by decide) ?_
  refine lv_istore (lv' := [(5, .int 0), (0, .ref (ad o)), (1, .int l1), (2, .int l2), (3, .long l3)]) hx hb d_Ans_isListed_1 hl (by decide) rfl (fun ls hl => ?_)
  obtain ⟨n, hw⟩ := hw
  exact tl_Ans_isListed_3 hx hb hml hown hT hK hN hA hRc hRs hRf hRl hNN hE hret  n o l1 l2 l3 0 x H locs ls fo hw hW hS (lv_sub hl [1, 2, 3, 4, 0] rfl)
set_option maxHeartbeats 4000000 in
set_option maxRecDepth 100000 in
theorem k_Ans_isListed (l : Launch) (dC : Nat → ClassId) (dI : Nat → Nat → Nat) (cI cB cJ cZ : ClassId) (ad : Nat → Nat) (NN : Nat) (E : Heap) (tM tC : Nat) (kK kV : Nat → Nat) (hNN : 152 ≤ NN) (sz : Nat) (o : Nat) (l1 : Int32) (l2 : Int32) (l3 : Int64) (x : St) (fo : o < NN ∧ kcC o = 10) {post : Int32 → St → Prop} (hw : wp_Ans_isListed post o l1 l2 l3 x) : Met l y_Ans_isListed (wsOf y_Ans_isListed b_Ans_isListed 8 (some (.boolean))) ({ frames := 2, cells := 0, slots := 0, locals := 112 }) (va_Pc [.ref (ad o), .int l1, .int l2, .long l3] (PVc dC dI cI cB cJ cZ ad stC kcC NN E tM tC kK kV sz x)) (va_Qi (fun (r : Int32) (y : St) => post r y) (fun y t => Wd dC dI cI cB cJ cZ ad stC kcC NN (va_A (pic ad stC kcC NN cI cB cJ cZ x) sz) y t.heap) (va_A (pic ad stC kcC NN cI cB cJ cZ x) sz)) 0 0 (va_A (pic ad stC kcC NN cI cB cJ cZ x) sz) := by
  refine Met.ofW (cc := b_Ans_isListed) (maxL := 8) (ret := some (.boolean)) (by decide) rfl ?_
  intro p e s m args below meth c s₁ B hml hv
  obtain ⟨rfl, ⟨hsz, hW0, hK, hN⟩, hE⟩ := hv
  have hx := B.exec
  have hb := B.bytes
  have hr := B.returns
  have hts := atoms_spec B.pre
  have hT : ∀ w ∈ TG, w.before _ s = true := fun w h => hts w (List.mem_cons_of_mem _ h)
  have hown : s.vm.findClass R_Ans = some m.cls := findClass_of_methodNamed B.named
  have hlocks := B.notSynchronized
  subst hsz
  have hW : Wd dC dI cI cB cJ cZ ad stC kcC NN (va_A (pic ad stC kcC NN cI cB cJ cZ x) s.heap.size) x s.heap := ⟨hW0.1, hW0.2.1.self (sz := s.heap.size), hW0.2.2⟩
  generalize hAe : va_A (pic ad stC kcC NN cI cB cJ cZ x) s.heap.size = A at hW hE ⊢
  have hA : ∀ q : Nat, s.heap.size ≤ q → A q := fun q h => by rw [← hAe]; exact Or.inr h
  have hS : va_S A s.heap s.heap [] := va_S.rf
  have hl := lv_entry ([.ref (ad o), .int l1, .int l2, .long l3]) (n := 8) (Nat.le_of_ble_eq_true rfl)
  rw [lg_entry_eq]
  generalize (lg_sl ([.ref (ad o), .int l1, .int l2, .long l3]) ++ List.replicate (8 - (lg_sl ([.ref (ad o), .int l1, .int l2, .long l3])).length) Slot.unset).toArray = ls at hl ⊢
  have hl : lv_has ls 8 [(0, .ref (ad o)), (1, .int l1), (2, .int l2), (3, .long l3)] := hl
  exact t_Ans_isListed_e hx hb hml hown hT hK hN hA (Nat.le_refl 0) (Nat.le_refl 0) (Nat.le_refl 2) (Nat.le_refl 112) hNN hE (fun r x H locs pc ls hd hz hp hW hS => W.zret (v := r) (ty := .boolean) hx hb hr hz (fun t ht hM => ⟨⟨r, x, rfl, hp, Wd.back hW ht.symm (fun _ z => z)⟩, hS.F ht⟩) hS.2.2 hd hlocks)  o l1 l2 l3 x _ _ ls fo hw hW hS hl
set_option maxRecDepth 100000 in
set_option maxHeartbeats 4000000 in
set_option maxRecDepth 100000 in
theorem t_Ans_canBeUnlisted_79 {p : Program} {l : Launch} {e : Env} {R : Room} {s : State} {m : MethodId} {args : Array Value} {below : List Frame} {meth : Method} {c : Code} {cells slots : Nat} {Q : State → Prop} {dC : Nat → ClassId} {dI : Nat → Nat → Nat} {cI cB cJ cZ : ClassId} {A : Nat → Prop} {ad : Nat → Nat} {NN : Nat} {E : Heap} {tM tC : Nat} {kK kV : Nat → Nat} {post : Int32 → St → Prop} {rec79 : Nat → Int32 → Int32 → Int32 → Int32 → Int32 → Int32 → St → Prop} (hx : p.tables.exec = Jvm.exec) (hb : c.code = b_Ans_canBeUnlisted) (hml : c.maxLocals = 7) (hown : s.vm.findClass R_Ans = some m.cls) (hT : ∀ w ∈ TG, w.before args s = true) (hK : va_K (dC, dI) CL (TY cI cB cJ cZ) s) (hN : NW s) (hA : ∀ q : Nat, s.heap.size ≤ q → A q) (hRc : cells ≤ R.cells) (hRs : slots ≤ R.slots) (hRf : 3 ≤ R.frames) (hRl : 139 ≤ R.locals) (hNN : 152 ≤ NN) (hE : CE E tM tC kK kV A s) (hret : ∀ (r : Int32) (x : St) (H : Heap) (locs : List Loc) (pc : Nat) (ls : Array Slot), decode b_Ans_canBeUnlisted pc = .ok (.ireturn, 1) → narrow .boolean (.int r) = .int r → post r x → Wd dC dI cI cB cJ cZ ad stC kcC NN A x H → va_S A s.heap H locs → W p l e R s m args below meth c H locs cells slots Q (F0 m pc ls [.int r])) (hrec79 : ∀ (o : Nat) (l1 : Int32) (l2 : Int32) (l3 : Int32) (l4 : Int32) (l5 : Int32) (l6 : Int32) (x : St) (H : Heap) (locs : List Loc) (ls : Array Slot), (o < NN ∧ kcC o = 10) → rec79 o l1 l2 l3 l4 l5 l6 x → Wd dC dI cI cB cJ cZ ad stC kcC NN A x H → va_S A s.heap H locs → lv_has ls 7 [(0, .ref (ad o)), (1, .int l1), (2, .int l2), (3, .int l3), (4, .int l4), (5, .int l5), (6, .int l6)] → W p l e R s m args below meth c H locs cells slots Q (F0 m 79 ls [])) : ∀ (o : Nat) (l1 : Int32) (l2 : Int32) (l3 : Int32) (l4 : Int32) (l5 : Int32) (l6 : Int32) (x : St) (H : Heap) (locs : List Loc) (ls : Array Slot), (o < NN ∧ kcC o = 10) → j_Ans_canBeUnlisted_79 post rec79 o l1 l2 l3 l4 l5 l6 x → Wd dC dI cI cB cJ cZ ad stC kcC NN A x H → va_S A s.heap H locs → lv_has ls 7 [(0, .ref (ad o)), (1, .int l1), (2, .int l2), (3, .int l3), (4, .int l4), (5, .int l5), (6, .int l6)] → W p l e R s m args below meth c H locs cells slots Q (F0 m 79 ls []) := by
  intro o l1 l2 l3 l4 l5 l6 x H locs ls fo hw hW hS hl
  unfold j_Ans_canBeUnlisted_79 at hw
  refine lv_iload hx hb d_Ans_canBeUnlisted_79 (lv_at hl 6 rfl) ?_
  refine lv_iload hx hb d_Ans_canBeUnlisted_81 (lv_at hl 5 rfl) ?_
  refine lv_iload hx hb d_Ans_canBeUnlisted_83 (lv_at hl 4 rfl) ?_
  refine lv_sipush (v := 128) hx hb d_Ans_canBeUnlisted_85 (by decide) ?_
  refine lv_irem hx hb d_Ans_canBeUnlisted_88 (by decide) ?_
  refine lv_iadd hx hb d_Ans_canBeUnlisted_89 ?_
  refine lv_icmp_ge (tgt := 120) hx hb d_Ans_canBeUnlisted_90 (by decide) (fun c1 => ?_) (fun c1 => ?_)
  · have hw := hw.1 c1
    refine lv_iconst (v := 0) hx hb d_Ans_canBeUnlisted_120 (by decide) ?_
    exact hret 0 x H locs 121 ls d_Ans_canBeUnlisted_121 rfl hw hW hS
  · have hw := hw.2 c1
    refine lv_aload_n hx hb d_Ans_canBeUnlisted_93 rfl (lv_at hl 0 rfl) ?_
    refine lv_iload_n hx hb d_Ans_canBeUnlisted_94 rfl (lv_at hl 1 rfl) ?_
    refine lv_iload_n hx hb d_Ans_canBeUnlisted_95 rfl (lv_at hl 2 rfl) ?_
    refine lv_aload_n hx hb d_Ans_canBeUnlisted_96 rfl (lv_at hl 0 rfl) ?_
    obtain ⟨q2, hq2, hw⟩ := hw
    refine w_getr (q := q2) (k := 14) (t := 10) (C := R_Ans) (T := F_Ans) (N := 16) hx hb hT hown hK hW fo.1 fo.2 (by decide) in_Ans rfl rfl (by decide) rfl fr_Ans_14 w_3_176 d_Ans_canBeUnlisted_97 hq2 (fun aq2 bq2 => ?_)
    have fq2 : q2 < NN ∧ kcC q2 = 6 := ⟨aq2, bq2⟩
    refine w_getf (q := (stC q2 19)) (k := 19) (t := 6) (C := R_Vlt) (T := F_Vlt) (N := 20) hx hb hT hown hK hW fq2.1 fq2.2 (by decide) in_Vlt rfl rfl (by decide) rfl fr_Vlt_19 w_2_182 d_Ans_canBeUnlisted_100 rfl ?_
    refine lv_iload hx hb d_Ans_canBeUnlisted_103 (lv_at hl 6 rfl) ?_
    obtain ⟨hi, hw⟩ := hw
    refine w_lald (o := (stC q2 19)) hx hb hK hW (st_ty hNN fq2.1 fq2.2 rfl).1 (st_ty hNN fq2.1 fq2.2 rfl).2 hi d_Ans_canBeUnlisted_105 ?_
    have hF := hW.free hS hA
    refine va_calli (va_runV (C := R_Ans) (As := [.int l1, .int l2, .long (rL x (stC q2 19) l6)]) (rest := []) ⟨hx, hb, hml, hown, hT⟩ (k_Ans_isListed l dC dI cI cB cJ cZ ad NN E tM tC kK kV hNN H.size o l1 l2 (rL x (stC q2 19) l6) x fo hw) ⟨callB_of 3 hT (gwt_in w_8_70) rfl rfl rfl (hT _ w_1_13) (hT _ w_8_67) (by decide +kernel) ⟨Nat.le_trans (Nat.le_of_ble_eq_true rfl) hRf, Nat.le_trans (Nat.le_of_ble_eq_true rfl) hRl⟩, hT _ w_8_69, hT _ ws_95⟩ ⟨PVc.blind, va_recv hK hW.1 (ci := 10) (q0 := o) rfl (pic_obj fo.1 fo.2 (by decide)), PVc.at _ hW hK hN hE hS hF⟩ rfl rfl hl.1 rfl (lv_room (Nat.le_of_ble_eq_true rfl)) d_Ans_canBeUnlisted_106 ⟨hRc, hRs⟩) hS (fun q _ h => hF q h) hF (fun r4 x3 t H locs ht hvm hw hB hz1 hk1 hS => ?_)
    have hW := Wd.back hB ht hF
    clear hB ht hF hz1 hk1 hvm
    refine lv_if_ne (tgt := 114) hx hb d_Ans_canBeUnlisted_109 (by decide) (fun c5 => ?_) (fun c5 => ?_)
    · have hw := hw.1 c5
      refine lv_iinc (v := (l6 + 1)) (lv' := [(6, .int (l6 + 1)), (0, .ref (ad o)), (1, .int l1), (2, .int l2), (3, .int l3), (4, .int l4), (5, .int l5)]) hx hb d_Ans_canBeUnlisted_114 hl (k := 6) rfl rfl (by decide) rfl (fun ls hl => ?_)
      refine lv_goto (tgt := 79) hx hb d_Ans_canBeUnlisted_117 (by decide) ?_
      exact hrec79 o l1 l2 l3 l4 l5 (l6 + 1) x3 H locs ls fo hw hW hS (lv_sub hl [1, 2, 3, 4, 5, 6, 0] rfl)
    · have hw := hw.2 c5
      refine lv_iconst (v := 1) hx hb d_Ans_canBeUnlisted_112 (by decide) ?_
      exact hret 1 x3 H locs 113 ls d_Ans_canBeUnlisted_113 rfl hw hW hS
set_option maxHeartbeats 4000000 in
set_option maxRecDepth 100000 in
theorem tl_Ans_canBeUnlisted_79 {p : Program} {l : Launch} {e : Env} {R : Room} {s : State} {m : MethodId} {args : Array Value} {below : List Frame} {meth : Method} {c : Code} {cells slots : Nat} {Q : State → Prop} {dC : Nat → ClassId} {dI : Nat → Nat → Nat} {cI cB cJ cZ : ClassId} {A : Nat → Prop} {ad : Nat → Nat} {NN : Nat} {E : Heap} {tM tC : Nat} {kK kV : Nat → Nat} {post : Int32 → St → Prop} (hx : p.tables.exec = Jvm.exec) (hb : c.code = b_Ans_canBeUnlisted) (hml : c.maxLocals = 7) (hown : s.vm.findClass R_Ans = some m.cls) (hT : ∀ w ∈ TG, w.before args s = true) (hK : va_K (dC, dI) CL (TY cI cB cJ cZ) s) (hN : NW s) (hA : ∀ q : Nat, s.heap.size ≤ q → A q) (hRc : cells ≤ R.cells) (hRs : slots ≤ R.slots) (hRf : 3 ≤ R.frames) (hRl : 139 ≤ R.locals) (hNN : 152 ≤ NN) (hE : CE E tM tC kK kV A s) (hret : ∀ (r : Int32) (x : St) (H : Heap) (locs : List Loc) (pc : Nat) (ls : Array Slot), decode b_Ans_canBeUnlisted pc = .ok (.ireturn, 1) → narrow .boolean (.int r) = .int r → post r x → Wd dC dI cI cB cJ cZ ad stC kcC NN A x H → va_S A s.heap H locs → W p l e R s m args below meth c H locs cells slots Q (F0 m pc ls [.int r]))  : ∀ n : Nat, ∀ (o : Nat) (l1 : Int32) (l2 : Int32) (l3 : Int32) (l4 : Int32) (l5 : Int32) (l6 : Int32) (x : St) (H : Heap) (locs : List Loc) (ls : Array Slot), (o < NN ∧ kcC o = 10) → wl_Ans_canBeUnlisted_79 post n o l1 l2 l3 l4 l5 l6 x → Wd dC dI cI cB cJ cZ ad stC kcC NN A x H → va_S A s.heap H locs → lv_has ls 7 [(0, .ref (ad o)), (1, .int l1), (2, .int l2), (3, .int l3), (4, .int l4), (5, .int l5), (6, .int l6)] → W p l e R s m args below meth c H locs cells slots Q (F0 m 79 ls []) := by
  intro n
  induction n with
  | zero => intro o l1 l2 l3 l4 l5 l6 x H locs ls fo hw; exact hw.elim
  | succ n ih => intro o l1 l2 l3 l4 l5 l6 x H locs ls fo hw hW hS hl; exact t_Ans_canBeUnlisted_79 hx hb hml hown hT hK hN hA hRc hRs hRf hRl hNN hE hret  ih o l1 l2 l3 l4 l5 l6 x H locs ls fo hw hW hS hl
set_option maxRecDepth 100000 in
set_option maxHeartbeats 4000000 in
set_option maxRecDepth 100000 in
theorem t_Ans_canBeUnlisted_61 {p : Program} {l : Launch} {e : Env} {R : Room} {s : State} {m : MethodId} {args : Array Value} {below : List Frame} {meth : Method} {c : Code} {cells slots : Nat} {Q : State → Prop} {dC : Nat → ClassId} {dI : Nat → Nat → Nat} {cI cB cJ cZ : ClassId} {A : Nat → Prop} {ad : Nat → Nat} {NN : Nat} {E : Heap} {tM tC : Nat} {kK kV : Nat → Nat} {post : Int32 → St → Prop} (hx : p.tables.exec = Jvm.exec) (hb : c.code = b_Ans_canBeUnlisted) (hml : c.maxLocals = 7) (hown : s.vm.findClass R_Ans = some m.cls) (hT : ∀ w ∈ TG, w.before args s = true) (hK : va_K (dC, dI) CL (TY cI cB cJ cZ) s) (hN : NW s) (hA : ∀ q : Nat, s.heap.size ≤ q → A q) (hRc : cells ≤ R.cells) (hRs : slots ≤ R.slots) (hRf : 3 ≤ R.frames) (hRl : 139 ≤ R.locals) (hNN : 152 ≤ NN) (hE : CE E tM tC kK kV A s) (hret : ∀ (r : Int32) (x : St) (H : Heap) (locs : List Loc) (pc : Nat) (ls : Array Slot), decode b_Ans_canBeUnlisted pc = .ok (.ireturn, 1) → narrow .boolean (.int r) = .int r → post r x → Wd dC dI cI cB cJ cZ ad stC kcC NN A x H → va_S A s.heap H locs → W p l e R s m args below meth c H locs cells slots Q (F0 m pc ls [.int r]))  : ∀ (o : Nat) (l1 : Int32) (l2 : Int32) (l3 : Int32) (l4 : Int32) (l5 : Int64) (x : St) (H : Heap) (locs : List Loc) (ls : Array Slot), (o < NN ∧ kcC o = 10) → j_Ans_canBeUnlisted_61 post o l1 l2 l3 l4 l5 x → Wd dC dI cI cB cJ cZ ad stC kcC NN A x H → va_S A s.heap H locs → lv_has ls 7 [(0, .ref (ad o)), (1, .int l1), (2, .int l2), (3, .int l3), (4, .int l4), (5, .long l5)] → W p l e R s m args below meth c H locs cells slots Q (F0 m 61 ls []) := by
  intro o l1 l2 l3 l4 l5 x H locs ls fo hw hW hS hl
  unfold j_Ans_canBeUnlisted_61 at hw
  refine lv_iconst (v := 1) hx hb d_Ans_canBeUnlisted_61 (by decide) ?_
  refine lv_goto (tgt := 66) hx hb d_Ans_canBeUnlisted_62 (by decide) ?_
  exact hret 1 x H locs 66 ls d_Ans_canBeUnlisted_66 rfl hw hW hS
set_option maxRecDepth 100000 in
set_option maxHeartbeats 4000000 in
set_option maxRecDepth 100000 in
theorem t_Ans_canBeUnlisted_e {p : Program} {l : Launch} {e : Env} {R : Room} {s : State} {m : MethodId} {args : Array Value} {below : List Frame} {meth : Method} {c : Code} {cells slots : Nat} {Q : State → Prop} {dC : Nat → ClassId} {dI : Nat → Nat → Nat} {cI cB cJ cZ : ClassId} {A : Nat → Prop} {ad : Nat → Nat} {NN : Nat} {E : Heap} {tM tC : Nat} {kK kV : Nat → Nat} {post : Int32 → St → Prop} (hx : p.tables.exec = Jvm.exec) (hb : c.code = b_Ans_canBeUnlisted) (hml : c.maxLocals = 7) (hown : s.vm.findClass R_Ans = some m.cls) (hT : ∀ w ∈ TG, w.before args s = true) (hK : va_K (dC, dI) CL (TY cI cB cJ cZ) s) (hN : NW s) (hA : ∀ q : Nat, s.heap.size ≤ q → A q) (hRc : cells ≤ R.cells) (hRs : slots ≤ R.slots) (hRf : 3 ≤ R.frames) (hRl : 139 ≤ R.locals) (hNN : 152 ≤ NN) (hE : CE E tM tC kK kV A s) (hret : ∀ (r : Int32) (x : St) (H : Heap) (locs : List Loc) (pc : Nat) (ls : Array Slot), decode b_Ans_canBeUnlisted pc = .ok (.ireturn, 1) → narrow .boolean (.int r) = .int r → post r x → Wd dC dI cI cB cJ cZ ad stC kcC NN A x H → va_S A s.heap H locs → W p l e R s m args below meth c H locs cells slots Q (F0 m pc ls [.int r])) : ∀ (o : Nat) (l1 : Int32) (l2 : Int32) (l3 : Int32) (x : St) (H : Heap) (locs : List Loc) (ls : Array Slot), (o < NN ∧ kcC o = 10) → wp_Ans_canBeUnlisted post o l1 l2 l3 x → Wd dC dI cI cB cJ cZ ad stC kcC NN A x H → va_S A s.heap H locs → lv_has ls 7 [(0, .ref (ad o)), (1, .int l1), (2, .int l2), (3, .int l3)] → W p l e R s m args below meth c H locs cells slots Q (F0 m 0 ls []) := by
  intro o l1 l2 l3 x H locs ls fo hw hW hS hl
  unfold wp_Ans_canBeUnlisted at hw
  refine lv_aload_n hx hb d_Ans_canBeUnlisted_0 rfl (lv_at hl 0 rfl) ?_
  obtain ⟨q6, hq6, hw⟩ := hw
  refine w_getr (q := q6) (k := 14) (t := 10) (C := R_Ans) (T := F_Ans) (N := 16) hx hb hT hown hK hW fo.1 fo.2 (by decide) in_Ans rfl rfl (by decide) rfl fr_Ans_14 w_3_176 d_Ans_canBeUnlisted_1 hq6 (fun aq6 bq6 => ?_)
  have fq6 : q6 < NN ∧ kcC q6 = 6 := ⟨aq6, bq6⟩
  refine w_getf (q := (stC q6 18)) (k := 18) (t := 6) (C := R_Vlt) (T := F_Vlt) (N := 20) hx hb hT hown hK hW fq6.1 fq6.2 (by decide) in_Vlt rfl rfl (by decide) rfl fr_Vlt_18 w_2_179 d_Ans_canBeUnlisted_4 rfl ?_
  refine lv_iload_n hx hb d_Ans_canBeUnlisted_7 rfl (lv_at hl 3 rfl) ?_
  obtain ⟨hi, hw⟩ := hw
  refine w_iald (o := (stC q6 18)) hx hb hK hW (st_ty hNN fq6.1 fq6.2 rfl).1 (st_ty hNN fq6.1 fq6.2 rfl).2 hi d_Ans_canBeUnlisted_8 ?_
  refine lv_topi (fun v7 ev7 => ?_)
  have hw := hw v7 ev7
  refine lv_istore (lv' := [(4, .int v7), (0, .ref (ad o)), (1, .int l1), (2, .int l2), (3, .int l3)]) hx hb d_Ans_canBeUnlisted_9 hl (by decide) rfl (fun ls hl => ?_)
  refine lv_iload hx hb d_Ans_canBeUnlisted_11 (lv_at hl 0 rfl) ?_
  refine lv_iconst (v := (-1)) hx hb d_Ans_canBeUnlisted_13 (by decide) ?_
  refine lv_icmp_ne (tgt := 67) hx hb d_Ans_canBeUnlisted_14 (by decide) (fun c8 => ?_) (fun c8 => ?_)
  · have hw := hw.1 c8
    refine lv_iload hx hb d_Ans_canBeUnlisted_67 (lv_at hl 0 rfl) ?_
    refine lv_sipush (v := 128) hx hb d_Ans_canBeUnlisted_69 (by decide) ?_
    refine lv_idiv hx hb d_Ans_canBeUnlisted_72 (by decide) ?_
    refine lv_topi (fun v9 ev9 => ?_)
    have hw := hw v9 ev9
    refine lv_istore (lv' := [(5, .int v9), (4, .int v7), (0, .ref (ad o)), (1, .int l1), (2, .int l2), (3, .int l3)]) hx hb d_Ans_canBeUnlisted_73 hl (by decide) rfl (fun ls hl => ?_)
    refine lv_iload hx hb d_Ans_canBeUnlisted_75 (lv_at hl 0 rfl) ?_
    refine lv_istore (lv' := [(6, .int v9), (5, .int v9), (4, .int v7), (0, .ref (ad o)), (1, .int l1), (2, .int l2), (3, .int l3)]) hx hb d_Ans_canBeUnlisted_77 hl (by decide) rfl (fun ls hl => ?_)
    obtain ⟨n, hw⟩ := hw
    exact tl_Ans_canBeUnlisted_79 hx hb hml hown hT hK hN hA hRc hRs hRf hRl hNN hE hret  n o l1 l2 l3 v7 v9 v9 x H locs ls fo hw hW hS (lv_sub hl [3, 4, 5, 6, 2, 1, 0] rfl)
  · have hw := hw.2 c8
    refine lv_aload_n hx hb d_Ans_canBeUnlisted_17 rfl (lv_at hl 1 rfl) ?_
    obtain ⟨q10, hq10, hw⟩ := hw
    refine w_getr (q := q10) (k := 14) (t := 10) (C := R_Ans) (T := F_Ans) (N := 16) hx hb hT hown hK hW fo.1 fo.2 (by decide) in_Ans rfl rfl (by decide) rfl fr_Ans_14 w_3_176 d_Ans_canBeUnlisted_18 hq10 (fun aq10 bq10 => ?_)
    have fq10 : q10 < NN ∧ kcC q10 = 6 := ⟨aq10, bq10⟩
    refine w_getf (q := (stC q10 16)) (k := 16) (t := 6) (C := R_Vlt) (T := F_Vlt) (N := 20) hx hb hT hown hK hW fq10.1 fq10.2 (by decide) in_Vlt rfl rfl (by decide) rfl fr_Vlt_16 w_2_173 d_Ans_canBeUnlisted_21 rfl ?_
    refine lv_iload_n hx hb d_Ans_canBeUnlisted_24 rfl (lv_at hl 4 rfl) ?_
    obtain ⟨hi, hw⟩ := hw
    refine w_lald (o := (stC q10 16)) hx hb hK hW (st_ty hNN fq10.1 fq10.2 rfl).1 (st_ty hNN fq10.1 fq10.2 rfl).2 hi d_Ans_canBeUnlisted_25 ?_
    refine lv_topl (fun v11 ev11 => ?_)
    have hw := hw v11 ev11
    refine lv_lstore (lv' := [(5, .long v11), (4, .int v7), (0, .ref (ad o)), (1, .int l1), (2, .int l2), (3, .int l3)]) hx hb d_Ans_canBeUnlisted_26 hl (by decide) rfl (fun ls hl => ?_)
    refine lv_aload_n hx hb d_Ans_canBeUnlisted_28 rfl (lv_at hl 2 rfl) ?_
    obtain ⟨q12, hq12, hw⟩ := hw
    refine w_getr (q := q12) (k := 14) (t := 10) (C := R_Ans) (T := F_Ans) (N := 16) hx hb hT hown hK hW fo.1 fo.2 (by decide) in_Ans rfl rfl (by decide) rfl fr_Ans_14 w_3_176 d_Ans_canBeUnlisted_29 hq12 (fun aq12 bq12 => ?_)
    have fq12 : q12 < NN ∧ kcC q12 = 6 := ⟨aq12, bq12⟩
    refine lv_iload_n hx hb d_Ans_canBeUnlisted_32 rfl (lv_at hl 4 rfl) ?_
    refine lv_lload hx hb d_Ans_canBeUnlisted_33 (lv_at hl 0 rfl) ?_
    refine lv_aload_n hx hb d_Ans_canBeUnlisted_35 rfl (lv_at hl 2 rfl) ?_
    obtain ⟨q13, hq13, hw⟩ := hw
    refine w_getr (q := q13) (k := 14) (t := 10) (C := R_Ans) (T := F_Ans) (N := 16) hx hb hT hown hK hW fo.1 fo.2 (by decide) in_Ans rfl rfl (by decide) rfl fr_Ans_14 w_3_176 d_Ans_canBeUnlisted_36 hq13 (fun aq13 bq13 => ?_)
    have fq13 : q13 < NN ∧ kcC q13 = 6 := ⟨aq13, bq13⟩
    refine w_getf (q := (stC q13 17)) (k := 17) (t := 6) (C := R_Vlt) (T := F_Vlt) (N := 20) hx hb hT hown hK hW fq13.1 fq13.2 (by decide) in_Vlt rfl rfl (by decide) rfl fr_Vlt_17 w_2_176 d_Ans_canBeUnlisted_39 rfl ?_
    refine lv_iload_n hx hb d_Ans_canBeUnlisted_42 rfl (lv_at hl 5 rfl) ?_
    obtain ⟨hi, hw⟩ := hw
    refine w_lald (o := (stC q13 17)) hx hb hK hW (st_ty hNN fq13.1 fq13.2 rfl).1 (st_ty hNN fq13.1 fq13.2 rfl).2 hi d_Ans_canBeUnlisted_43 ?_
    have hF := hW.free hS hA
    refine va_calli (va_runV (C := R_Vlt) (As := [.int l2, .long v11, .long (rL x (stC q13 17) l3)]) (rest := []) ⟨hx, hb, hml, hown, hT⟩ (k_Vlt_compare l dC dI cI cB cJ cZ ad NN E tM tC kK kV hNN H.size q12 l2 v11 (rL x (stC q13 17) l3) x fq12 hw) ⟨callB_of 3 hT (gwt_in w_7_32) rfl rfl rfl (hT _ w_1_9) (hT _ w_8_66) (by decide +kernel) ⟨Nat.le_trans (Nat.le_of_ble_eq_true rfl) hRf, Nat.le_trans (Nat.le_of_ble_eq_true rfl) hRl⟩, hT _ w_7_30, hT _ w_7_31⟩ ⟨PVc.blind, va_recv hK hW.1 (ci := 6) (q0 := q12) rfl (pic_obj fq12.1 fq12.2 (by decide)), PVc.at _ hW hK hN hE hS hF⟩ rfl rfl hl.1 rfl (lv_room (Nat.le_of_ble_eq_true rfl)) d_Ans_canBeUnlisted_44 ⟨hRc, hRs⟩) hS (fun q _ h => hF q h) hF (fun r15 x14 t H locs ht hvm hw hB hz1 hk1 hS => ?_)
    have hW := Wd.back hB ht hF
    clear hB ht hF hz1 hk1 hvm
    refine lv_if_ne (tgt := 61) hx hb d_Ans_canBeUnlisted_47 (by decide) (fun c16 => ?_) (fun c16 => ?_)
    · have hw := hw.1 c16
      exact t_Ans_canBeUnlisted_61 hx hb hml hown hT hK hN hA hRc hRs hRf hRl hNN hE hret  o l1 l2 l3 v7 v11 x14 H locs ls fo hw hW hS (lv_sub hl [2, 3, 4, 5, 1, 0] rfl)
    · have hw := hw.2 c16
      refine lv_aload_n hx hb d_Ans_canBeUnlisted_50 rfl (lv_at hl 2 rfl) ?_
      refine lv_iload_n hx hb d_Ans_canBeUnlisted_51 rfl (lv_at hl 3 rfl) ?_
      refine lv_iload_n hx hb d_Ans_canBeUnlisted_52 rfl (lv_at hl 4 rfl) ?_
      refine lv_lload hx hb d_Ans_canBeUnlisted_53 (lv_at hl 0 rfl) ?_
      have hF := hW.free hS hA
      refine va_calli (va_runV (C := R_Ans) (As := [.int l1, .int l2, .long v11]) (rest := []) ⟨hx, hb, hml, hown, hT⟩ (k_Ans_isListed l dC dI cI cB cJ cZ ad NN E tM tC kK kV hNN H.size o l1 l2 v11 x14 fo hw) ⟨callB_of 3 hT (gwt_in w_8_70) rfl rfl rfl (hT _ w_1_13) (hT _ w_8_67) (by decide +kernel) ⟨Nat.le_trans (Nat.le_of_ble_eq_true rfl) hRf, Nat.le_trans (Nat.le_of_ble_eq_true rfl) hRl⟩, hT _ w_8_69, hT _ ws_95⟩ ⟨PVc.blind, va_recv hK hW.1 (ci := 10) (q0 := o) rfl (pic_obj fo.1 fo.2 (by decide)), PVc.at _ hW hK hN hE hS hF⟩ rfl rfl hl.1 rfl (lv_room (Nat.le_of_ble_eq_true rfl)) d_Ans_canBeUnlisted_55 ⟨hRc, hRs⟩) hS (fun q _ h => hF q h) hF (fun r18 x17 t H locs ht hvm hw hB hz1 hk1 hS => ?_)
      have hW := Wd.back hB ht hF
      clear hB ht hF hz1 hk1 hvm
      refine lv_if_ne (tgt := 65) hx hb d_Ans_canBeUnlisted_58 (by decide) (fun c19 => ?_) (fun c19 => ?_)
      · have hw := hw.1 c19
        refine lv_iconst (v := 0) hx hb d_Ans_canBeUnlisted_65 (by decide) ?_
        exact hret 0 x17 H locs 66 ls d_Ans_canBeUnlisted_66 rfl hw hW hS
      · have hw := hw.2 c19
        exact t_Ans_canBeUnlisted_61 hx hb hml hown hT hK hN hA hRc hRs hRf hRl hNN hE hret  o l1 l2 l3 v7 v11 x17 H locs ls fo hw hW hS (lv_sub hl [2, 3, 4, 5, 1, 0] rfl)
set_option maxHeartbeats 4000000 in
set_option maxRecDepth 100000 in
theorem k_Ans_canBeUnlisted (l : Launch) (dC : Nat → ClassId) (dI : Nat → Nat → Nat) (cI cB cJ cZ : ClassId) (ad : Nat → Nat) (NN : Nat) (E : Heap) (tM tC : Nat) (kK kV : Nat → Nat) (hNN : 152 ≤ NN) (sz : Nat) (o : Nat) (l1 : Int32) (l2 : Int32) (l3 : Int32) (x : St) (fo : o < NN ∧ kcC o = 10) {post : Int32 → St → Prop} (hw : wp_Ans_canBeUnlisted post o l1 l2 l3 x) : Met l y_Ans_canBeUnlisted (wsOf y_Ans_canBeUnlisted b_Ans_canBeUnlisted 7 (some (.boolean))) ({ frames := 3, cells := 0, slots := 0, locals := 139 }) (va_Pc [.ref (ad o), .int l1, .int l2, .int l3] (PVc dC dI cI cB cJ cZ ad stC kcC NN E tM tC kK kV sz x)) (va_Qi (fun (r : Int32) (y : St) => post r y) (fun y t => Wd dC dI cI cB cJ cZ ad stC kcC NN (va_A (pic ad stC kcC NN cI cB cJ cZ x) sz) y t.heap) (va_A (pic ad stC kcC NN cI cB cJ cZ x) sz)) 0 0 (va_A (pic ad stC kcC NN cI cB cJ cZ x) sz) := by
  refine Met.ofW (cc := b_Ans_canBeUnlisted) (maxL := 7) (ret := some (.boolean)) (by decide) rfl ?_
  intro p e s m args below meth c s₁ B hml hv
  obtain ⟨rfl, ⟨hsz, hW0, hK, hN⟩, hE⟩ := hv
  have hx := B.exec
  have hb := B.bytes
  have hr := B.returns
  have hts := atoms_spec B.pre
  have hT : ∀ w ∈ TG, w.before _ s = true := fun w h => hts w (List.mem_cons_of_mem _ h)
  have hown : s.vm.findClass R_Ans = some m.cls := findClass_of_methodNamed B.named
  have hlocks := B.notSynchronized
  subst hsz
  have hW : Wd dC dI cI cB cJ cZ ad stC kcC NN (va_A (pic ad stC kcC NN cI cB cJ cZ x) s.heap.size) x s.heap := ⟨hW0.1, hW0.2.1.self (sz := s.heap.size), hW0.2.2⟩
  generalize hAe : va_A (pic ad stC kcC NN cI cB cJ cZ x) s.heap.size = A at hW hE ⊢
  have hA : ∀ q : Nat, s.heap.size ≤ q → A q := fun q h => by rw [← hAe]; exact Or.inr h
  have hS : va_S A s.heap s.heap [] := va_S.rf
  have hl := lv_entry ([.ref (ad o), .int l1, .int l2, .int l3]) (n := 7) (Nat.le_of_ble_eq_true rfl)
  rw [lg_entry_eq]
  generalize (lg_sl ([.ref (ad o), .int l1, .int l2, .int l3]) ++ List.replicate (7 - (lg_sl ([.ref (ad o), .int l1, .int l2, .int l3])).length) Slot.unset).toArray = ls at hl ⊢
  have hl : lv_has ls 7 [(0, .ref (ad o)), (1, .int l1), (2, .int l2), (3, .int l3)] := hl
  exact t_Ans_canBeUnlisted_e hx hb hml hown hT hK hN hA (Nat.le_refl 0) (Nat.le_refl 0) (Nat.le_refl 3) (Nat.le_refl 139) hNN hE (fun r x H locs pc ls hd hz hp hW hS => W.zret (v := r) (ty := .boolean) hx hb hr hz (fun t ht hM => ⟨⟨r, x, rfl, hp, Wd.back hW ht.symm (fun _ z => z)⟩, hS.F ht⟩) hS.2.2 hd hlocks)  o l1 l2 l3 x _ _ ls fo hw hW hS hl
set_option maxRecDepth 100000 in
set_option maxHeartbeats 4000000 in
set_option maxRecDepth 100000 in
theorem t_Ans_canCompare_e {p : Program} {l : Launch} {e : Env} {R : Room} {s : State} {m : MethodId} {args : Array Value} {below : List Frame} {meth : Method} {c : Code} {cells slots : Nat} {Q : State → Prop} {dC : Nat → ClassId} {dI : Nat → Nat → Nat} {cI cB cJ cZ : ClassId} {A : Nat → Prop} {ad : Nat → Nat} {NN : Nat} {E : Heap} {tM tC : Nat} {kK kV : Nat → Nat} {post : Int32 → St → Prop} (hx : p.tables.exec = Jvm.exec) (hb : c.code = b_Ans_canCompare) (hml : c.maxLocals = 7) (hown : s.vm.findClass R_Ans = some m.cls) (hT : ∀ w ∈ TG, w.before args s = true) (hK : va_K (dC, dI) CL (TY cI cB cJ cZ) s) (hN : NW s) (hA : ∀ q : Nat, s.heap.size ≤ q → A q) (hRc : cells ≤ R.cells) (hRs : slots ≤ R.slots) (hRf : 3 ≤ R.frames) (hRl : 137 ≤ R.locals) (hNN : 152 ≤ NN) (hE : CE E tM tC kK kV A s) (hret : ∀ (r : Int32) (x : St) (H : Heap) (locs : List Loc) (pc : Nat) (ls : Array Slot), decode b_Ans_canCompare pc = .ok (.ireturn, 1) → narrow .boolean (.int r) = .int r → post r x → Wd dC dI cI cB cJ cZ ad stC kcC NN A x H → va_S A s.heap H locs → W p l e R s m args below meth c H locs cells slots Q (F0 m pc ls [.int r])) : ∀ (o : Nat) (l1 : Int32) (l2 : Int32) (l3 : Int32) (l4 : Int32) (x : St) (H : Heap) (locs : List Loc) (ls : Array Slot), (o < NN ∧ kcC o = 10) → wp_Ans_canCompare post o l1 l2 l3 l4 x → Wd dC dI cI cB cJ cZ ad stC kcC NN A x H → va_S A s.heap H locs → lv_has ls 7 [(0, .ref (ad o)), (1, .int l1), (2, .int l2), (3, .int l3), (4, .int l4)] → W p l e R s m args below meth c H locs cells slots Q (F0 m 0 ls []) := by
  intro o l1 l2 l3 l4 x H locs ls fo hw hW hS hl
  unfold wp_Ans_canCompare at hw
  refine lv_aload_n hx hb d_Ans_canCompare_0 rfl (lv_at hl 0 rfl) ?_
  obtain ⟨q1, hq1, hw⟩ := hw
  refine w_getr (q := q1) (k := 14) (t := 10) (C := R_Ans) (T := F_Ans) (N := 16) hx hb hT hown hK hW fo.1 fo.2 (by decide) in_Ans rfl rfl (by decide) rfl fr_Ans_14 w_3_176 d_Ans_canCompare_1 hq1 (fun aq1 bq1 => ?_)
  have fq1 : q1 < NN ∧ kcC q1 = 6 := ⟨aq1, bq1⟩
  refine lv_iload_n hx hb d_Ans_canCompare_4 rfl (lv_at hl 2 rfl) ?_
  refine lv_aload_n hx hb d_Ans_canCompare_5 rfl (lv_at hl 0 rfl) ?_
  obtain ⟨q2, hq2, hw⟩ := hw
  refine w_getr (q := q2) (k := 14) (t := 10) (C := R_Ans) (T := F_Ans) (N := 16) hx hb hT hown hK hW fo.1 fo.2 (by decide) in_Ans rfl rfl (by decide) rfl fr_Ans_14 w_3_176 d_Ans_canCompare_6 hq2 (fun aq2 bq2 => ?_)
  have fq2 : q2 < NN ∧ kcC q2 = 6 := ⟨aq2, bq2⟩
  refine w_getf (q := (stC q2 16)) (k := 16) (t := 6) (C := R_Vlt) (T := F_Vlt) (N := 20) hx hb hT hown hK hW fq2.1 fq2.2 (by decide) in_Vlt rfl rfl (by decide) rfl fr_Vlt_16 w_2_173 d_Ans_canCompare_9 rfl ?_
  refine lv_iload_n hx hb d_Ans_canCompare_12 rfl (lv_at hl 3 rfl) ?_
  obtain ⟨hi, hw⟩ := hw
  refine w_lald (o := (stC q2 16)) hx hb hK hW (st_ty hNN fq2.1 fq2.2 rfl).1 (st_ty hNN fq2.1 fq2.2 rfl).2 hi d_Ans_canCompare_13 ?_
  refine lv_aload_n hx hb d_Ans_canCompare_14 rfl (lv_at hl 0 rfl) ?_
  obtain ⟨q3, hq3, hw⟩ := hw
  refine w_getr (q := q3) (k := 14) (t := 10) (C := R_Ans) (T := F_Ans) (N := 16) hx hb hT hown hK hW fo.1 fo.2 (by decide) in_Ans rfl rfl (by decide) rfl fr_Ans_14 w_3_176 d_Ans_canCompare_15 hq3 (fun aq3 bq3 => ?_)
  have fq3 : q3 < NN ∧ kcC q3 = 6 := ⟨aq3, bq3⟩
  refine w_getf (q := (stC q3 17)) (k := 17) (t := 6) (C := R_Vlt) (T := F_Vlt) (N := 20) hx hb hT hown hK hW fq3.1 fq3.2 (by decide) in_Vlt rfl rfl (by decide) rfl fr_Vlt_17 w_2_176 d_Ans_canCompare_18 rfl ?_
  refine lv_iload hx hb d_Ans_canCompare_21 (lv_at hl 4 rfl) ?_
  obtain ⟨hi, hw⟩ := hw
  refine w_lald (o := (stC q3 17)) hx hb hK hW (st_ty hNN fq3.1 fq3.2 rfl).1 (st_ty hNN fq3.1 fq3.2 rfl).2 hi d_Ans_canCompare_23 ?_
  have hF := hW.free hS hA
  refine va_calli (va_runV (C := R_Vlt) (As := [.int l2, .long (rL x (stC q2 16) l3), .long (rL x (stC q3 17) l4)]) (rest := []) ⟨hx, hb, hml, hown, hT⟩ (k_Vlt_compare l dC dI cI cB cJ cZ ad NN E tM tC kK kV hNN H.size q1 l2 (rL x (stC q2 16) l3) (rL x (stC q3 17) l4) x fq1 hw) ⟨callB_of 3 hT (gwt_in w_7_32) rfl rfl rfl (hT _ w_1_9) (hT _ w_8_66) (by decide +kernel) ⟨Nat.le_trans (Nat.le_of_ble_eq_true rfl) hRf, Nat.le_trans (Nat.le_of_ble_eq_true rfl) hRl⟩, hT _ w_7_30, hT _ w_7_31⟩ ⟨PVc.blind, va_recv hK hW.1 (ci := 6) (q0 := q1) rfl (pic_obj fq1.1 fq1.2 (by decide)), PVc.at _ hW hK hN hE hS hF⟩ rfl rfl hl.1 rfl (lv_room (Nat.le_of_ble_eq_true rfl)) d_Ans_canCompare_24 ⟨hRc, hRs⟩) hS (fun q _ h => hF q h) hF (fun r5 x4 t H locs ht hvm hw hB hz1 hk1 hS => ?_)
  have hW := Wd.back hB ht hF
  clear hB ht hF hz1 hk1 hvm
  refine lv_istore (lv' := [(5, .int r5), (0, .ref (ad o)), (1, .int l1), (2, .int l2), (3, .int l3), (4, .int l4)]) hx hb d_Ans_canCompare_27 hl (by decide) rfl (fun ls hl => ?_)
  refine lv_aload_n hx hb d_Ans_canCompare_29 rfl (lv_at hl 1 rfl) ?_
  obtain ⟨q6, hq6, hw⟩ := hw
  refine w_getr (q := q6) (k := 14) (t := 10) (C := R_Ans) (T := F_Ans) (N := 16) hx hb hT hown hK hW fo.1 fo.2 (by decide) in_Ans rfl rfl (by decide) rfl fr_Ans_14 w_3_176 d_Ans_canCompare_30 hq6 (fun aq6 bq6 => ?_)
  have fq6 : q6 < NN ∧ kcC q6 = 6 := ⟨aq6, bq6⟩
  refine lv_iload_n hx hb d_Ans_canCompare_33 rfl (lv_at hl 3 rfl) ?_
  refine lv_aload_n hx hb d_Ans_canCompare_34 rfl (lv_at hl 1 rfl) ?_
  obtain ⟨q7, hq7, hw⟩ := hw
  refine w_getr (q := q7) (k := 14) (t := 10) (C := R_Ans) (T := F_Ans) (N := 16) hx hb hT hown hK hW fo.1 fo.2 (by decide) in_Ans rfl rfl (by decide) rfl fr_Ans_14 w_3_176 d_Ans_canCompare_35 hq7 (fun aq7 bq7 => ?_)
  have fq7 : q7 < NN ∧ kcC q7 = 6 := ⟨aq7, bq7⟩
  refine w_getf (q := (stC q7 17)) (k := 17) (t := 6) (C := R_Vlt) (T := F_Vlt) (N := 20) hx hb hT hown hK hW fq7.1 fq7.2 (by decide) in_Vlt rfl rfl (by decide) rfl fr_Vlt_17 w_2_176 d_Ans_canCompare_38 rfl ?_
  refine lv_iload_n hx hb d_Ans_canCompare_41 rfl (lv_at hl 4 rfl) ?_
  obtain ⟨hi, hw⟩ := hw
  refine w_lald (o := (stC q7 17)) hx hb hK hW (st_ty hNN fq7.1 fq7.2 rfl).1 (st_ty hNN fq7.1 fq7.2 rfl).2 hi d_Ans_canCompare_42 ?_
  refine lv_aload_n hx hb d_Ans_canCompare_43 rfl (lv_at hl 1 rfl) ?_
  obtain ⟨q8, hq8, hw⟩ := hw
  refine w_getr (q := q8) (k := 14) (t := 10) (C := R_Ans) (T := F_Ans) (N := 16) hx hb hT hown hK hW fo.1 fo.2 (by decide) in_Ans rfl rfl (by decide) rfl fr_Ans_14 w_3_176 d_Ans_canCompare_44 hq8 (fun aq8 bq8 => ?_)
  have fq8 : q8 < NN ∧ kcC q8 = 6 := ⟨aq8, bq8⟩
  refine w_getf (q := (stC q8 16)) (k := 16) (t := 6) (C := R_Vlt) (T := F_Vlt) (N := 20) hx hb hT hown hK hW fq8.1 fq8.2 (by decide) in_Vlt rfl rfl (by decide) rfl fr_Vlt_16 w_2_173 d_Ans_canCompare_47 rfl ?_
  refine lv_iload hx hb d_Ans_canCompare_50 (lv_at hl 5 rfl) ?_
  obtain ⟨hi, hw⟩ := hw
  refine w_lald (o := (stC q8 16)) hx hb hK hW (st_ty hNN fq8.1 fq8.2 rfl).1 (st_ty hNN fq8.1 fq8.2 rfl).2 hi d_Ans_canCompare_52 ?_
  have hF := hW.free hS hA
  refine va_calli (va_runV (C := R_Vlt) (As := [.int l2, .long (rL x4 (stC q7 17) l3), .long (rL x4 (stC q8 16) l4)]) (rest := []) ⟨hx, hb, hml, hown, hT⟩ (k_Vlt_compare l dC dI cI cB cJ cZ ad NN E tM tC kK kV hNN H.size q6 l2 (rL x4 (stC q7 17) l3) (rL x4 (stC q8 16) l4) x4 fq6 hw) ⟨callB_of 3 hT (gwt_in w_7_32) rfl rfl rfl (hT _ w_1_9) (hT _ w_8_66) (by decide +kernel) ⟨Nat.le_trans (Nat.le_of_ble_eq_true rfl) hRf, Nat.le_trans (Nat.le_of_ble_eq_true rfl) hRl⟩, hT _ w_7_30, hT _ w_7_31⟩ ⟨PVc.blind, va_recv hK hW.1 (ci := 6) (q0 := q6) rfl (pic_obj fq6.1 fq6.2 (by decide)), PVc.at _ hW hK hN hE hS hF⟩ rfl rfl hl.1 rfl (lv_room (Nat.le_of_ble_eq_true rfl)) d_Ans_canCompare_53 ⟨hRc, hRs⟩) hS (fun q _ h => hF q h) hF (fun r10 x9 t H locs ht hvm hw hB hz1 hk1 hS => ?_)
  have hW := Wd.back hB ht hF
  clear hB ht hF hz1 hk1 hvm
  refine lv_istore (lv' := [(6, .int r10), (5, .int r5), (0, .ref (ad o)), (1, .int l1), (2, .int l2), (3, .int l3), (4, .int l4)]) hx hb d_Ans_canCompare_56 hl (by decide) rfl (fun ls hl => ?_)
  refine lv_iload_n hx hb d_Ans_canCompare_58 rfl (lv_at hl 3 rfl) ?_
  refine lv_iload hx hb d_Ans_canCompare_59 (lv_at hl 1 rfl) ?_
  refine lv_iload hx hb d_Ans_canCompare_61 (lv_at hl 0 rfl) ?_
  have hF := hW.free hS hA
  refine va_calli (va_runS (As := [.int l1, .int r5, .int r10]) (rest := []) ⟨hx, hb, hml, hown, hT⟩ (k_Ans_canHold l dC dI cI cB cJ cZ ad NN E tM tC kK kV hNN H.size l1 r5 r10 x9  hw) ⟨callB_of 3 hT (gwt_in w_8_58) rfl rfl rfl (hT _ w_1_13) (hT _ w_8_56) (by decide +kernel) ⟨Nat.le_trans (Nat.le_of_ble_eq_true rfl) hRf, Nat.le_trans (Nat.le_of_ble_eq_true rfl) hRl⟩, hT _ w_8_57⟩ ⟨PVc.blind, PVc.at _ hW hK hN hE hS hF⟩ rfl rfl hl.1 rfl (lv_room (Nat.le_of_ble_eq_true rfl)) d_Ans_canCompare_63 ⟨hRc, hRs⟩) hS (fun q _ h => hF q h) hF (fun r12 x11 t H locs ht hvm hw hB hz1 hk1 hS => ?_)
  have hW := Wd.back hB ht hF
  clear hB ht hF hz1 hk1 hvm
  exact hret r12 x11 H locs 66 ls d_Ans_canCompare_66 hw.1 hw.2 hW hS
set_option maxHeartbeats 4000000 in
set_option maxRecDepth 100000 in
theorem k_Ans_canCompare (l : Launch) (dC : Nat → ClassId) (dI : Nat → Nat → Nat) (cI cB cJ cZ : ClassId) (ad : Nat → Nat) (NN : Nat) (E : Heap) (tM tC : Nat) (kK kV : Nat → Nat) (hNN : 152 ≤ NN) (sz : Nat) (o : Nat) (l1 : Int32) (l2 : Int32) (l3 : Int32) (l4 : Int32) (x : St) (fo : o < NN ∧ kcC o = 10) {post : Int32 → St → Prop} (hw : wp_Ans_canCompare post o l1 l2 l3 l4 x) : Met l y_Ans_canCompare (wsOf y_Ans_canCompare b_Ans_canCompare 7 (some (.boolean))) ({ frames := 3, cells := 0, slots := 0, locals := 137 }) (va_Pc [.ref (ad o), .int l1, .int l2, .int l3, .int l4] (PVc dC dI cI cB cJ cZ ad stC kcC NN E tM tC kK kV sz x)) (va_Qi (fun (r : Int32) (y : St) => post r y) (fun y t => Wd dC dI cI cB cJ cZ ad stC kcC NN (va_A (pic ad stC kcC NN cI cB cJ cZ x) sz) y t.heap) (va_A (pic ad stC kcC NN cI cB cJ cZ x) sz)) 0 0 (va_A (pic ad stC kcC NN cI cB cJ cZ x) sz) := by
  refine Met.ofW (cc := b_Ans_canCompare) (maxL := 7) (ret := some (.boolean)) (by decide) rfl ?_
  intro p e s m args below meth c s₁ B hml hv
  obtain ⟨rfl, ⟨hsz, hW0, hK, hN⟩, hE⟩ := hv
  have hx := B.exec
  have hb := B.bytes
  have hr := B.returns
  have hts := atoms_spec B.pre
  have hT : ∀ w ∈ TG, w.before _ s = true := fun w h => hts w (List.mem_cons_of_mem _ h)
  have hown : s.vm.findClass R_Ans = some m.cls := findClass_of_methodNamed B.named
  have hlocks := B.notSynchronized
  subst hsz
  have hW : Wd dC dI cI cB cJ cZ ad stC kcC NN (va_A (pic ad stC kcC NN cI cB cJ cZ x) s.heap.size) x s.heap := ⟨hW0.1, hW0.2.1.self (sz := s.heap.size), hW0.2.2⟩
  generalize hAe : va_A (pic ad stC kcC NN cI cB cJ cZ x) s.heap.size = A at hW hE ⊢
  have hA : ∀ q : Nat, s.heap.size ≤ q → A q := fun q h => by rw [← hAe]; exact Or.inr h
  have hS : va_S A s.heap s.heap [] := va_S.rf
  have hl := lv_entry ([.ref (ad o), .int l1, .int l2, .int l3, .int l4]) (n := 7) (Nat.le_of_ble_eq_true rfl)
  rw [lg_entry_eq]
  generalize (lg_sl ([.ref (ad o), .int l1, .int l2, .int l3, .int l4]) ++ List.replicate (7 - (lg_sl ([.ref (ad o), .int l1, .int l2, .int l3, .int l4])).length) Slot.unset).toArray = ls at hl ⊢
  have hl : lv_has ls 7 [(0, .ref (ad o)), (1, .int l1), (2, .int l2), (3, .int l3), (4, .int l4)] := hl
  exact t_Ans_canCompare_e hx hb hml hown hT hK hN hA (Nat.le_refl 0) (Nat.le_refl 0) (Nat.le_refl 3) (Nat.le_refl 137) hNN hE (fun r x H locs pc ls hd hz hp hW hS => W.zret (v := r) (ty := .boolean) hx hb hr hz (fun t ht hM => ⟨⟨r, x, rfl, hp, Wd.back hW ht.symm (fun _ z => z)⟩, hS.F ht⟩) hS.2.2 hd hlocks)  o l1 l2 l3 l4 x _ _ ls fo hw hW hS hl
set_option maxRecDepth 100000 in
set_option maxHeartbeats 4000000 in
set_option maxRecDepth 100000 in
theorem t_Ans_truthsThatCanBe_367 {p : Program} {l : Launch} {e : Env} {R : Room} {s : State} {m : MethodId} {args : Array Value} {below : List Frame} {meth : Method} {c : Code} {cells slots : Nat} {Q : State → Prop} {dC : Nat → ClassId} {dI : Nat → Nat → Nat} {cI cB cJ cZ : ClassId} {A : Nat → Prop} {ad : Nat → Nat} {NN : Nat} {E : Heap} {tM tC : Nat} {kK kV : Nat → Nat} {post : Int32 → St → Prop} (hx : p.tables.exec = Jvm.exec) (hb : c.code = b_Ans_truthsThatCanBe) (hml : c.maxLocals = 15) (hown : s.vm.findClass R_Ans = some m.cls) (hT : ∀ w ∈ TG, w.before args s = true) (hK : va_K (dC, dI) CL (TY cI cB cJ cZ) s) (hN : NW s) (hA : ∀ q : Nat, s.heap.size ≤ q → A q) (hRc : cells ≤ R.cells) (hRs : slots ≤ R.slots) (hRf : 4 ≤ R.frames) (hRl : 166 ≤ R.locals) (hNN : 152 ≤ NN) (hE : CE E tM tC kK kV A s) (hret : ∀ (r : Int32) (x : St) (H : Heap) (locs : List Loc) (pc : Nat) (ls : Array Slot), decode b_Ans_truthsThatCanBe pc = .ok (.ireturn, 1) → post r x → Wd dC dI cI cB cJ cZ ad stC kcC NN A x H → va_S A s.heap H locs → W p l e R s m args below meth c H locs cells slots Q (F0 m pc ls [.int r]))  : ∀ (o : Nat) (l1 : Int32) (l2 : Int32) (l3 : Int32) (l4 : Int32) (l5 : Int32) (l6 : Int32) (l7 : Int32) (l8 : Int32) (l9 : Int32) (l10 : Int32) (l11 : Int32) (l12 : Int32) (s0 : Int32) (s1 : Int32) (x : St) (H : Heap) (locs : List Loc) (ls : Array Slot), (o < NN ∧ kcC o = 10) → j_Ans_truthsThatCanBe_367 post o l1 l2 l3 l4 l5 l6 l7 l8 l9 l10 l11 l12 s0 s1 x → Wd dC dI cI cB cJ cZ ad stC kcC NN A x H → va_S A s.heap H locs → lv_has ls 15 [(0, .ref (ad o)), (1, .int l1), (2, .int l2), (3, .int l3), (4, .int l4), (5, .int l5), (6, .int l6), (7, .int l7), (8, .int l8), (9, .int l9), (10, .int l10), (11, .int l11), (12, .int l12)] → W p l e R s m args below meth c H locs cells slots Q (F0 m 367 ls [.int s0, .int s1]) := by
  intro o l1 l2 l3 l4 l5 l6 l7 l8 l9 l10 l11 l12 s0 s1 x H locs ls fo hw hW hS hl
  unfold j_Ans_truthsThatCanBe_367 at hw
  refine lv_ior hx hb d_Ans_truthsThatCanBe_367 ?_
  exact hret (s1 ||| s0) x H locs 368 ls d_Ans_truthsThatCanBe_368 hw hW hS
set_option maxRecDepth 100000 in
set_option maxHeartbeats 4000000 in
set_option maxRecDepth 100000 in
theorem t_Ans_truthsThatCanBe_356 {p : Program} {l : Launch} {e : Env} {R : Room} {s : State} {m : MethodId} {args : Array Value} {below : List Frame} {meth : Method} {c : Code} {cells slots : Nat} {Q : State → Prop} {dC : Nat → ClassId} {dI : Nat → Nat → Nat} {cI cB cJ cZ : ClassId} {A : Nat → Prop} {ad : Nat → Nat} {NN : Nat} {E : Heap} {tM tC : Nat} {kK kV : Nat → Nat} {post : Int32 → St → Prop} (hx : p.tables.exec = Jvm.exec) (hb : c.code = b_Ans_truthsThatCanBe) (hml : c.maxLocals = 15) (hown : s.vm.findClass R_Ans = some m.cls) (hT : ∀ w ∈ TG, w.before args s = true) (hK : va_K (dC, dI) CL (TY cI cB cJ cZ) s) (hN : NW s) (hA : ∀ q : Nat, s.heap.size ≤ q → A q) (hRc : cells ≤ R.cells) (hRs : slots ≤ R.slots) (hRf : 4 ≤ R.frames) (hRl : 166 ≤ R.locals) (hNN : 152 ≤ NN) (hE : CE E tM tC kK kV A s) (hret : ∀ (r : Int32) (x : St) (H : Heap) (locs : List Loc) (pc : Nat) (ls : Array Slot), decode b_Ans_truthsThatCanBe pc = .ok (.ireturn, 1) → post r x → Wd dC dI cI cB cJ cZ ad stC kcC NN A x H → va_S A s.heap H locs → W p l e R s m args below meth c H locs cells slots Q (F0 m pc ls [.int r]))  : ∀ (o : Nat) (l1 : Int32) (l2 : Int32) (l3 : Int32) (l4 : Int32) (l5 : Int32) (l6 : Int32) (l7 : Int32) (l8 : Int32) (l9 : Int32) (l10 : Int32) (l11 : Int32) (l12 : Int32) (s0 : Int32) (s1 : Int32) (x : St) (H : Heap) (locs : List Loc) (ls : Array Slot), (o < NN ∧ kcC o = 10) → j_Ans_truthsThatCanBe_356 post o l1 l2 l3 l4 l5 l6 l7 l8 l9 l10 l11 l12 s0 s1 x → Wd dC dI cI cB cJ cZ ad stC kcC NN A x H → va_S A s.heap H locs → lv_has ls 15 [(0, .ref (ad o)), (1, .int l1), (2, .int l2), (3, .int l3), (4, .int l4), (5, .int l5), (6, .int l6), (7, .int l7), (8, .int l8), (9, .int l9), (10, .int l10), (11, .int l11), (12, .int l12)] → W p l e R s m args below meth c H locs cells slots Q (F0 m 356 ls [.int s0, .int s1]) := by
  intro o l1 l2 l3 l4 l5 l6 l7 l8 l9 l10 l11 l12 s0 s1 x H locs ls fo hw hW hS hl
  unfold j_Ans_truthsThatCanBe_356 at hw
  refine lv_ior hx hb d_Ans_truthsThatCanBe_356 ?_
  refine lv_iload hx hb d_Ans_truthsThatCanBe_357 (lv_at hl 12 rfl) ?_
  refine lv_if_eq (tgt := 366) hx hb d_Ans_truthsThatCanBe_359 (by decide) (fun c1 => ?_) (fun c1 => ?_)
  · have hw := hw.1 c1
    refine lv_iconst (v := 0) hx hb d_Ans_truthsThatCanBe_366 (by decide) ?_
    exact t_Ans_truthsThatCanBe_367 hx hb hml hown hT hK hN hA hRc hRs hRf hRl hNN hE hret  o l1 l2 l3 l4 l5 l6 l7 l8 l9 l10 l11 l12 0 (s1 ||| s0) x H locs ls fo hw hW hS (lv_sub hl [0, 1, 2, 3, 4, 5, 6, 7, 8, 9, 10, 11, 12] rfl)
  · have hw := hw.2 c1
    refine lv_iconst (v := 1) hx hb d_Ans_truthsThatCanBe_362 (by decide) ?_
    refine lv_goto (tgt := 367) hx hb d_Ans_truthsThatCanBe_363 (by decide) ?_
    exact t_Ans_truthsThatCanBe_367 hx hb hml hown hT hK hN hA hRc hRs hRf hRl hNN hE hret  o l1 l2 l3 l4 l5 l6 l7 l8 l9 l10 l11 l12 1 (s1 ||| s0) x H locs ls fo hw hW hS (lv_sub hl [0, 1, 2, 3, 4, 5, 6, 7, 8, 9, 10, 11, 12] rfl)
set_option maxRecDepth 100000 in
set_option maxHeartbeats 4000000 in
set_option maxRecDepth 100000 in
theorem t_Ans_truthsThatCanBe_344 {p : Program} {l : Launch} {e : Env} {R : Room} {s : State} {m : MethodId} {args : Array Value} {below : List Frame} {meth : Method} {c : Code} {cells slots : Nat} {Q : State → Prop} {dC : Nat → ClassId} {dI : Nat → Nat → Nat} {cI cB cJ cZ : ClassId} {A : Nat → Prop} {ad : Nat → Nat} {NN : Nat} {E : Heap} {tM tC : Nat} {kK kV : Nat → Nat} {post : Int32 → St → Prop} (hx : p.tables.exec = Jvm.exec) (hb : c.code = b_Ans_truthsThatCanBe) (hml : c.maxLocals = 15) (hown : s.vm.findClass R_Ans = some m.cls) (hT : ∀ w ∈ TG, w.before args s = true) (hK : va_K (dC, dI) CL (TY cI cB cJ cZ) s) (hN : NW s) (hA : ∀ q : Nat, s.heap.size ≤ q → A q) (hRc : cells ≤ R.cells) (hRs : slots ≤ R.slots) (hRf : 4 ≤ R.frames) (hRl : 166 ≤ R.locals) (hNN : 152 ≤ NN) (hE : CE E tM tC kK kV A s) (hret : ∀ (r : Int32) (x : St) (H : Heap) (locs : List Loc) (pc : Nat) (ls : Array Slot), decode b_Ans_truthsThatCanBe pc = .ok (.ireturn, 1) → post r x → Wd dC dI cI cB cJ cZ ad stC kcC NN A x H → va_S A s.heap H locs → W p l e R s m args below meth c H locs cells slots Q (F0 m pc ls [.int r]))  : ∀ (o : Nat) (l1 : Int32) (l2 : Int32) (l3 : Int32) (l4 : Int32) (l5 : Int32) (l6 : Int32) (l7 : Int32) (l8 : Int32) (l9 : Int32) (l10 : Int32) (l11 : Int32) (l12 : Int32) (x : St) (H : Heap) (locs : List Loc) (ls : Array Slot), (o < NN ∧ kcC o = 10) → j_Ans_truthsThatCanBe_344 post o l1 l2 l3 l4 l5 l6 l7 l8 l9 l10 l11 l12 x → Wd dC dI cI cB cJ cZ ad stC kcC NN A x H → va_S A s.heap H locs → lv_has ls 15 [(0, .ref (ad o)), (1, .int l1), (2, .int l2), (3, .int l3), (4, .int l4), (5, .int l5), (6, .int l6), (7, .int l7), (8, .int l8), (9, .int l9), (10, .int l10), (11, .int l11), (12, .int l12)] → W p l e R s m args below meth c H locs cells slots Q (F0 m 344 ls []) := by
  intro o l1 l2 l3 l4 l5 l6 l7 l8 l9 l10 l11 l12 x H locs ls fo hw hW hS hl
  unfold j_Ans_truthsThatCanBe_344 at hw
  refine lv_iload hx hb d_Ans_truthsThatCanBe_344 (lv_at hl 9 rfl) ?_
  refine lv_iload hx hb d_Ans_truthsThatCanBe_346 (lv_at hl 11 rfl) ?_
  refine lv_if_eq (tgt := 355) hx hb d_Ans_truthsThatCanBe_348 (by decide) (fun c2 => ?_) (fun c2 => ?_)
  · have hw := hw.1 c2
    refine lv_iconst (v := 0) hx hb d_Ans_truthsThatCanBe_355 (by decide) ?_
    exact t_Ans_truthsThatCanBe_356 hx hb hml hown hT hK hN hA hRc hRs hRf hRl hNN hE hret  o l1 l2 l3 l4 l5 l6 l7 l8 l9 l10 l11 l12 0 l9 x H locs ls fo hw hW hS (lv_sub hl [0, 1, 2, 3, 4, 5, 6, 7, 8, 9, 10, 11, 12] rfl)
  · have hw := hw.2 c2
    refine lv_iconst (v := 2) hx hb d_Ans_truthsThatCanBe_351 (by decide) ?_
    refine lv_goto (tgt := 356) hx hb d_Ans_truthsThatCanBe_352 (by decide) ?_
    exact t_Ans_truthsThatCanBe_356 hx hb hml hown hT hK hN hA hRc hRs hRf hRl hNN hE hret  o l1 l2 l3 l4 l5 l6 l7 l8 l9 l10 l11 l12 2 l9 x H locs ls fo hw hW hS (lv_sub hl [0, 1, 2, 3, 4, 5, 6, 7, 8, 9, 10, 11, 12] rfl)
set_option maxRecDepth 100000 in
set_option maxHeartbeats 4000000 in
set_option maxRecDepth 100000 in
theorem t_Ans_truthsThatCanBe_213 {p : Program} {l : Launch} {e : Env} {R : Room} {s : State} {m : MethodId} {args : Array Value} {below : List Frame} {meth : Method} {c : Code} {cells slots : Nat} {Q : State → Prop} {dC : Nat → ClassId} {dI : Nat → Nat → Nat} {cI cB cJ cZ : ClassId} {A : Nat → Prop} {ad : Nat → Nat} {NN : Nat} {E : Heap} {tM tC : Nat} {kK kV : Nat → Nat} {post : Int32 → St → Prop} (hx : p.tables.exec = Jvm.exec) (hb : c.code = b_Ans_truthsThatCanBe) (hml : c.maxLocals = 15) (hown : s.vm.findClass R_Ans = some m.cls) (hT : ∀ w ∈ TG, w.before args s = true) (hK : va_K (dC, dI) CL (TY cI cB cJ cZ) s) (hN : NW s) (hA : ∀ q : Nat, s.heap.size ≤ q → A q) (hRc : cells ≤ R.cells) (hRs : slots ≤ R.slots) (hRf : 4 ≤ R.frames) (hRl : 166 ≤ R.locals) (hNN : 152 ≤ NN) (hE : CE E tM tC kK kV A s) (hret : ∀ (r : Int32) (x : St) (H : Heap) (locs : List Loc) (pc : Nat) (ls : Array Slot), decode b_Ans_truthsThatCanBe pc = .ok (.ireturn, 1) → post r x → Wd dC dI cI cB cJ cZ ad stC kcC NN A x H → va_S A s.heap H locs → W p l e R s m args below meth c H locs cells slots Q (F0 m pc ls [.int r]))  : ∀ (o : Nat) (l1 : Int32) (l2 : Int32) (l3 : Int32) (l4 : Int32) (l5 : Int32) (l6 : Int32) (l7 : Int32) (l8 : Int32) (s0 : Int32) (x : St) (H : Heap) (locs : List Loc) (ls : Array Slot), (o < NN ∧ kcC o = 10) → j_Ans_truthsThatCanBe_213 post o l1 l2 l3 l4 l5 l6 l7 l8 s0 x → Wd dC dI cI cB cJ cZ ad stC kcC NN A x H → va_S A s.heap H locs → lv_has ls 15 [(0, .ref (ad o)), (1, .int l1), (2, .int l2), (3, .int l3), (4, .int l4), (5, .int l5), (6, .int l6), (7, .int l7), (8, .int l8)] → W p l e R s m args below meth c H locs cells slots Q (F0 m 213 ls [.int s0]) := by
  intro o l1 l2 l3 l4 l5 l6 l7 l8 s0 x H locs ls fo hw hW hS hl
  unfold j_Ans_truthsThatCanBe_213 at hw
  refine lv_istore (lv' := [(9, .int s0), (0, .ref (ad o)), (1, .int l1), (2, .int l2), (3, .int l3), (4, .int l4), (5, .int l5), (6, .int l6), (7, .int l7), (8, .int l8)]) hx hb d_Ans_truthsThatCanBe_213 hl (by decide) rfl (fun ls hl => ?_)
  refine lv_iload hx hb d_Ans_truthsThatCanBe_215 (lv_at hl 9 rfl) ?_
  refine lv_if_ne (tgt := 223) hx hb d_Ans_truthsThatCanBe_217 (by decide) (fun c3 => ?_) (fun c3 => ?_)
  · have hw := hw.1 c3
    refine lv_aload_n hx hb d_Ans_truthsThatCanBe_223 rfl (lv_at hl 1 rfl) ?_
    refine lv_iload_n hx hb d_Ans_truthsThatCanBe_224 rfl (lv_at hl 4 rfl) ?_
    have hF := hW.free hS hA
    refine va_calli (va_runV (C := R_Ans) (As := [.int l3]) (rest := []) ⟨hx, hb, hml, hown, hT⟩ (k_Ans_typeOf l dC dI cI cB cJ cZ ad NN E tM tC kK kV hNN H.size o l3 x fo hw) ⟨callB_of 1 hT (gwt_in w_8_46) rfl rfl rfl (hT _ w_1_13) (hT _ w_8_43) (by decide +kernel) ⟨Nat.le_trans (Nat.le_of_ble_eq_true rfl) hRf, Nat.le_trans (Nat.le_of_ble_eq_true rfl) hRl⟩, hT _ w_8_45, hT _ ws_91⟩ ⟨PVc.blind, va_recv hK hW.1 (ci := 10) (q0 := o) rfl (pic_obj fo.1 fo.2 (by decide)), PVc.at _ hW hK hN hE hS hF⟩ rfl rfl hl.1 rfl (lv_room (Nat.le_of_ble_eq_true rfl)) d_Ans_truthsThatCanBe_225 ⟨hRc, hRs⟩) hS (fun q _ h => hF q h) hF (fun r5 x4 t H locs ht hvm hw hB hz1 hk1 hS => ?_)
    have hW := Wd.back hB ht hF
    clear hB ht hF hz1 hk1 hvm
    refine lv_istore (lv' := [(10, .int r5), (9, .int s0), (0, .ref (ad o)), (1, .int l1), (2, .int l2), (3, .int l3), (4, .int l4), (5, .int l5), (6, .int l6), (7, .int l7), (8, .int l8)]) hx hb d_Ans_truthsThatCanBe_228 hl (by decide) rfl (fun ls hl => ?_)
    refine lv_iload_n hx hb d_Ans_truthsThatCanBe_230 rfl (lv_at hl 4 rfl) ?_
    refine lv_bipush (v := 8) hx hb d_Ans_truthsThatCanBe_231 (by decide) ?_
    refine lv_icmp_ne (tgt := 261) hx hb d_Ans_truthsThatCanBe_233 (by decide) (fun c6 => ?_) (fun c6 => ?_)
    · have hw := hw.1 c6
      refine lv_iload hx hb d_Ans_truthsThatCanBe_261 (lv_at hl 7 rfl) ?_
      refine lv_if_eq (tgt := 297) hx hb d_Ans_truthsThatCanBe_263 (by decide) (fun c7 => ?_) (fun c7 => ?_)
      · have hw := hw.1 c7
        refine lv_aload_n hx hb d_Ans_truthsThatCanBe_297 rfl (lv_at hl 2 rfl) ?_
        obtain ⟨q8, hq8, hw⟩ := hw
        refine w_getr (q := q8) (k := 15) (t := 10) (C := R_Ans) (T := F_Ans) (N := 16) hx hb hT hown hK hW fo.1 fo.2 (by decide) in_Ans rfl rfl (by decide) rfl fr_Ans_15 w_3_177 d_Ans_truthsThatCanBe_298 hq8 (fun aq8 bq8 => ?_)
        have fq8 : q8 < NN ∧ kcC q8 = 9 := ⟨aq8, bq8⟩
        refine w_getf (q := (stC q8 14)) (k := 14) (t := 9) (C := R_Qry) (T := F_Qry) (N := 20) hx hb hT hown hK hW fq8.1 fq8.2 (by decide) in_Qry rfl rfl (by decide) rfl fr_Qry_14 w_3_101 d_Ans_truthsThatCanBe_301 rfl ?_
        refine lv_aload_n hx hb d_Ans_truthsThatCanBe_304 rfl (lv_at hl 2 rfl) ?_
        obtain ⟨q9, hq9, hw⟩ := hw
        refine w_getr (q := q9) (k := 15) (t := 10) (C := R_Ans) (T := F_Ans) (N := 16) hx hb hT hown hK hW fo.1 fo.2 (by decide) in_Ans rfl rfl (by decide) rfl fr_Ans_15 w_3_177 d_Ans_truthsThatCanBe_305 hq9 (fun aq9 bq9 => ?_)
        have fq9 : q9 < NN ∧ kcC q9 = 9 := ⟨aq9, bq9⟩
        refine w_getf (q := (stC q9 11)) (k := 11) (t := 9) (C := R_Qry) (T := F_Qry) (N := 20) hx hb hT hown hK hW fq9.1 fq9.2 (by decide) in_Qry rfl rfl (by decide) rfl fr_Qry_11 w_3_96 d_Ans_truthsThatCanBe_308 rfl ?_
        refine lv_iload_n hx hb d_Ans_truthsThatCanBe_311 rfl (lv_at hl 3 rfl) ?_
        obtain ⟨hi, hw⟩ := hw
        refine w_iald (o := (stC q9 11)) hx hb hK hW (st_ty hNN fq9.1 fq9.2 rfl).1 (st_ty hNN fq9.1 fq9.2 rfl).2 hi d_Ans_truthsThatCanBe_312 ?_
        obtain ⟨hi, hw⟩ := hw
        refine w_lald (o := (stC q8 14)) hx hb hK hW (st_ty hNN fq8.1 fq8.2 rfl).1 (st_ty hNN fq8.1 fq8.2 rfl).2 hi d_Ans_truthsThatCanBe_313 ?_
        refine lv_topl (fun v10 ev10 => ?_)
        have hw := hw v10 ev10
        refine lv_lstore (lv' := [(13, .long v10), (10, .int r5), (9, .int s0), (0, .ref (ad o)), (1, .int l1), (2, .int l2), (3, .int l3), (4, .int l4), (5, .int l5), (6, .int l6), (7, .int l7), (8, .int l8)]) hx hb d_Ans_truthsThatCanBe_314 hl (by decide) rfl (fun ls hl => ?_)
        refine lv_aload_n hx hb d_Ans_truthsThatCanBe_316 rfl (lv_at hl 3 rfl) ?_
        refine lv_iload_n hx hb d_Ans_truthsThatCanBe_317 rfl (lv_at hl 5 rfl) ?_
        refine lv_iload hx hb d_Ans_truthsThatCanBe_318 (lv_at hl 1 rfl) ?_
        refine lv_iload hx hb d_Ans_truthsThatCanBe_320 (lv_at hl 7 rfl) ?_
        refine lv_lload hx hb d_Ans_truthsThatCanBe_322 (lv_at hl 0 rfl) ?_
        have hF := hW.free hS hA
        refine va_calli (va_runV (C := R_Ans) (As := [.int l2, .int r5, .int l4, .long v10]) (rest := []) ⟨hx, hb, hml, hown, hT⟩ (k_Ans_canBe l dC dI cI cB cJ cZ ad NN E tM tC kK kV hNN H.size o l2 r5 l4 v10 x4 fo hw) ⟨callB_of 4 hT (gwt_in w_8_54) rfl rfl rfl (hT _ w_1_13) (hT _ w_8_51) (by decide +kernel) ⟨Nat.le_trans (Nat.le_of_ble_eq_true rfl) hRf, Nat.le_trans (Nat.le_of_ble_eq_true rfl) hRl⟩, hT _ w_8_53, hT _ ws_93⟩ ⟨PVc.blind, va_recv hK hW.1 (ci := 10) (q0 := o) rfl (pic_obj fo.1 fo.2 (by decide)), PVc.at _ hW hK hN hE hS hF⟩ rfl rfl hl.1 rfl (lv_room (Nat.le_of_ble_eq_true rfl)) d_Ans_truthsThatCanBe_324 ⟨hRc, hRs⟩) hS (fun q _ h => hF q h) hF (fun r12 x11 t H locs ht hvm hw hB hz1 hk1 hS => ?_)
        have hW := Wd.back hB ht hF
        clear hB ht hF hz1 hk1 hvm
        refine lv_istore (lv' := [(11, .int r12), (13, .long v10), (10, .int r5), (9, .int s0), (0, .ref (ad o)), (1, .int l1), (2, .int l2), (3, .int l3), (4, .int l4), (5, .int l5), (6, .int l6), (7, .int l7), (8, .int l8)]) hx hb d_Ans_truthsThatCanBe_327 hl (by decide) rfl (fun ls hl => ?_)
        refine lv_aload_n hx hb d_Ans_truthsThatCanBe_329 rfl (lv_at hl 4 rfl) ?_
        refine lv_iload_n hx hb d_Ans_truthsThatCanBe_330 rfl (lv_at hl 6 rfl) ?_
        refine lv_iconst (v := 1) hx hb d_Ans_truthsThatCanBe_331 (by decide) ?_
        refine lv_ixor hx hb d_Ans_truthsThatCanBe_332 ?_
        refine lv_iload hx hb d_Ans_truthsThatCanBe_333 (lv_at hl 2 rfl) ?_
        refine lv_iload hx hb d_Ans_truthsThatCanBe_335 (lv_at hl 8 rfl) ?_
        refine lv_lload hx hb d_Ans_truthsThatCanBe_337 (lv_at hl 1 rfl) ?_
        have hF := hW.free hS hA
        refine va_calli (va_runV (C := R_Ans) (As := [.int (l2 ^^^ 1), .int r5, .int l4, .long v10]) (rest := []) ⟨hx, hb, hml, hown, hT⟩ (k_Ans_canBe l dC dI cI cB cJ cZ ad NN E tM tC kK kV hNN H.size o (l2 ^^^ 1) r5 l4 v10 x11 fo hw) ⟨callB_of 4 hT (gwt_in w_8_54) rfl rfl rfl (hT _ w_1_13) (hT _ w_8_51) (by decide +kernel) ⟨Nat.le_trans (Nat.le_of_ble_eq_true rfl) hRf, Nat.le_trans (Nat.le_of_ble_eq_true rfl) hRl⟩, hT _ w_8_53, hT _ ws_93⟩ ⟨PVc.blind, va_recv hK hW.1 (ci := 10) (q0 := o) rfl (pic_obj fo.1 fo.2 (by decide)), PVc.at _ hW hK hN hE hS hF⟩ rfl rfl hl.1 rfl (lv_room (Nat.le_of_ble_eq_true rfl)) d_Ans_truthsThatCanBe_339 ⟨hRc, hRs⟩) hS (fun q _ h => hF q h) hF (fun r14 x13 t H locs ht hvm hw hB hz1 hk1 hS => ?_)
        have hW := Wd.back hB ht hF
        clear hB ht hF hz1 hk1 hvm
        refine lv_istore (lv' := [(12, .int r14), (11, .int r12), (13, .long v10), (10, .int r5), (9, .int s0), (0, .ref (ad o)), (1, .int l1), (2, .int l2), (3, .int l3), (4, .int l4), (5, .int l5), (6, .int l6), (7, .int l7), (8, .int l8)]) hx hb d_Ans_truthsThatCanBe_342 hl (by decide) rfl (fun ls hl => ?_)
        exact t_Ans_truthsThatCanBe_344 hx hb hml hown hT hK hN hA hRc hRs hRf hRl hNN hE hret  o l1 l2 l3 l4 l5 l6 l7 l8 s0 r5 r12 r14 x13 H locs ls fo hw hW hS (lv_sub hl [5, 6, 7, 8, 9, 10, 11, 12, 13, 4, 3, 1, 0] rfl)
      · have hw := hw.2 c7
        refine lv_aload_n hx hb d_Ans_truthsThatCanBe_266 rfl (lv_at hl 2 rfl) ?_
        refine lv_iload_n hx hb d_Ans_truthsThatCanBe_267 rfl (lv_at hl 4 rfl) ?_
        refine lv_iload hx hb d_Ans_truthsThatCanBe_268 (lv_at hl 0 rfl) ?_
        refine lv_iload hx hb d_Ans_truthsThatCanBe_270 (lv_at hl 6 rfl) ?_
        refine lv_iload hx hb d_Ans_truthsThatCanBe_272 (lv_at hl 8 rfl) ?_
        have hF := hW.free hS hA
        refine va_calli (va_runV (C := R_Ans) (As := [.int l2, .int r5, .int l4, .int l6]) (rest := []) ⟨hx, hb, hml, hown, hT⟩ (k_Ans_canCompare l dC dI cI cB cJ cZ ad NN E tM tC kK kV hNN H.size o l2 r5 l4 l6 x4 fo hw) ⟨callB_of 4 hT (gwt_in w_8_74) rfl rfl rfl (hT _ w_1_13) (hT _ w_8_71) (by decide +kernel) ⟨Nat.le_trans (Nat.le_of_ble_eq_true rfl) hRf, Nat.le_trans (Nat.le_of_ble_eq_true rfl) hRl⟩, hT _ w_8_73, hT _ ws_96⟩ ⟨PVc.blind, va_recv hK hW.1 (ci := 10) (q0 := o) rfl (pic_obj fo.1 fo.2 (by decide)), PVc.at _ hW hK hN hE hS hF⟩ rfl rfl hl.1 rfl (lv_room (Nat.le_of_ble_eq_true rfl)) d_Ans_truthsThatCanBe_274 ⟨hRc, hRs⟩) hS (fun q _ h => hF q h) hF (fun r16 x15 t H locs ht hvm hw hB hz1 hk1 hS => ?_)
        have hW := Wd.back hB ht hF
        clear hB ht hF hz1 hk1 hvm
        refine lv_istore (lv' := [(11, .int r16), (10, .int r5), (9, .int s0), (0, .ref (ad o)), (1, .int l1), (2, .int l2), (3, .int l3), (4, .int l4), (5, .int l5), (6, .int l6), (7, .int l7), (8, .int l8)]) hx hb d_Ans_truthsThatCanBe_277 hl (by decide) rfl (fun ls hl => ?_)
        refine lv_aload_n hx hb d_Ans_truthsThatCanBe_279 rfl (lv_at hl 3 rfl) ?_
        refine lv_iload_n hx hb d_Ans_truthsThatCanBe_280 rfl (lv_at hl 5 rfl) ?_
        refine lv_iconst (v := 1) hx hb d_Ans_truthsThatCanBe_281 (by decide) ?_
        refine lv_ixor hx hb d_Ans_truthsThatCanBe_282 ?_
        refine lv_iload hx hb d_Ans_truthsThatCanBe_283 (lv_at hl 1 rfl) ?_
        refine lv_iload hx hb d_Ans_truthsThatCanBe_285 (lv_at hl 7 rfl) ?_
        refine lv_iload hx hb d_Ans_truthsThatCanBe_287 (lv_at hl 9 rfl) ?_
        have hF := hW.free hS hA
        refine va_calli (va_runV (C := R_Ans) (As := [.int (l2 ^^^ 1), .int r5, .int l4, .int l6]) (rest := []) ⟨hx, hb, hml, hown, hT⟩ (k_Ans_canCompare l dC dI cI cB cJ cZ ad NN E tM tC kK kV hNN H.size o (l2 ^^^ 1) r5 l4 l6 x15 fo hw) ⟨callB_of 4 hT (gwt_in w_8_74) rfl rfl rfl (hT _ w_1_13) (hT _ w_8_71) (by decide +kernel) ⟨Nat.le_trans (Nat.le_of_ble_eq_true rfl) hRf, Nat.le_trans (Nat.le_of_ble_eq_true rfl) hRl⟩, hT _ w_8_73, hT _ ws_96⟩ ⟨PVc.blind, va_recv hK hW.1 (ci := 10) (q0 := o) rfl (pic_obj fo.1 fo.2 (by decide)), PVc.at _ hW hK hN hE hS hF⟩ rfl rfl hl.1 rfl (lv_room (Nat.le_of_ble_eq_true rfl)) d_Ans_truthsThatCanBe_289 ⟨hRc, hRs⟩) hS (fun q _ h => hF q h) hF (fun r18 x17 t H locs ht hvm hw hB hz1 hk1 hS => ?_)
        have hW := Wd.back hB ht hF
        clear hB ht hF hz1 hk1 hvm
        refine lv_istore (lv' := [(12, .int r18), (11, .int r16), (10, .int r5), (9, .int s0), (0, .ref (ad o)), (1, .int l1), (2, .int l2), (3, .int l3), (4, .int l4), (5, .int l5), (6, .int l6), (7, .int l7), (8, .int l8)]) hx hb d_Ans_truthsThatCanBe_292 hl (by decide) rfl (fun ls hl => ?_)
        refine lv_goto (tgt := 344) hx hb d_Ans_truthsThatCanBe_294 (by decide) ?_
        exact t_Ans_truthsThatCanBe_344 hx hb hml hown hT hK hN hA hRc hRs hRf hRl hNN hE hret  o l1 l2 l3 l4 l5 l6 l7 l8 s0 r5 r16 r18 x17 H locs ls fo hw hW hS (lv_sub hl [4, 5, 6, 7, 8, 9, 10, 11, 12, 3, 2, 1, 0] rfl)
    · have hw := hw.2 c6
      refine lv_aload_n hx hb d_Ans_truthsThatCanBe_236 rfl (lv_at hl 2 rfl) ?_
      refine lv_iload_n hx hb d_Ans_truthsThatCanBe_237 rfl (lv_at hl 3 rfl) ?_
      refine lv_iload hx hb d_Ans_truthsThatCanBe_238 (lv_at hl 0 rfl) ?_
      refine lv_iload hx hb d_Ans_truthsThatCanBe_240 (lv_at hl 6 rfl) ?_
      have hF := hW.free hS hA
      refine va_calli (va_runV (C := R_Ans) (As := [.int l1, .int r5, .int l4]) (rest := []) ⟨hx, hb, hml, hown, hT⟩ (k_Ans_canBeListed l dC dI cI cB cJ cZ ad NN E tM tC kK kV hNN H.size o l1 r5 l4 x4 fo hw) ⟨callB_of 3 hT (gwt_in w_8_50) rfl rfl rfl (hT _ w_1_13) (hT _ w_8_47) (by decide +kernel) ⟨Nat.le_trans (Nat.le_of_ble_eq_true rfl) hRf, Nat.le_trans (Nat.le_of_ble_eq_true rfl) hRl⟩, hT _ w_8_49, hT _ ws_92⟩ ⟨PVc.blind, va_recv hK hW.1 (ci := 10) (q0 := o) rfl (pic_obj fo.1 fo.2 (by decide)), PVc.at _ hW hK hN hE hS hF⟩ rfl rfl hl.1 rfl (lv_room (Nat.le_of_ble_eq_true rfl)) d_Ans_truthsThatCanBe_242 ⟨hRc, hRs⟩) hS (fun q _ h => hF q h) hF (fun r20 x19 t H locs ht hvm hw hB hz1 hk1 hS => ?_)
      have hW := Wd.back hB ht hF
      clear hB ht hF hz1 hk1 hvm
      refine lv_istore (lv' := [(11, .int r20), (10, .int r5), (9, .int s0), (0, .ref (ad o)), (1, .int l1), (2, .int l2), (3, .int l3), (4, .int l4), (5, .int l5), (6, .int l6), (7, .int l7), (8, .int l8)]) hx hb d_Ans_truthsThatCanBe_245 hl (by decide) rfl (fun ls hl => ?_)
      refine lv_aload_n hx hb d_Ans_truthsThatCanBe_247 rfl (lv_at hl 3 rfl) ?_
      refine lv_iload_n hx hb d_Ans_truthsThatCanBe_248 rfl (lv_at hl 4 rfl) ?_
      refine lv_iload hx hb d_Ans_truthsThatCanBe_249 (lv_at hl 1 rfl) ?_
      refine lv_iload hx hb d_Ans_truthsThatCanBe_251 (lv_at hl 7 rfl) ?_
      have hF := hW.free hS hA
      refine va_calli (va_runV (C := R_Ans) (As := [.int l1, .int r5, .int l4]) (rest := []) ⟨hx, hb, hml, hown, hT⟩ (k_Ans_canBeUnlisted l dC dI cI cB cJ cZ ad NN E tM tC kK kV hNN H.size o l1 r5 l4 x19 fo hw) ⟨callB_of 3 hT (gwt_in w_8_65) rfl rfl rfl (hT _ w_1_13) (hT _ w_8_62) (by decide +kernel) ⟨Nat.le_trans (Nat.le_of_ble_eq_true rfl) hRf, Nat.le_trans (Nat.le_of_ble_eq_true rfl) hRl⟩, hT _ w_8_64, hT _ ws_94⟩ ⟨PVc.blind, va_recv hK hW.1 (ci := 10) (q0 := o) rfl (pic_obj fo.1 fo.2 (by decide)), PVc.at _ hW hK hN hE hS hF⟩ rfl rfl hl.1 rfl (lv_room (Nat.le_of_ble_eq_true rfl)) d_Ans_truthsThatCanBe_253 ⟨hRc, hRs⟩) hS (fun q _ h => hF q h) hF (fun r22 x21 t H locs ht hvm hw hB hz1 hk1 hS => ?_)
      have hW := Wd.back hB ht hF
      clear hB ht hF hz1 hk1 hvm
      refine lv_istore (lv' := [(12, .int r22), (11, .int r20), (10, .int r5), (9, .int s0), (0, .ref (ad o)), (1, .int l1), (2, .int l2), (3, .int l3), (4, .int l4), (5, .int l5), (6, .int l6), (7, .int l7), (8, .int l8)]) hx hb d_Ans_truthsThatCanBe_256 hl (by decide) rfl (fun ls hl => ?_)
      refine lv_goto (tgt := 344) hx hb d_Ans_truthsThatCanBe_258 (by decide) ?_
      exact t_Ans_truthsThatCanBe_344 hx hb hml hown hT hK hN hA hRc hRs hRf hRl hNN hE hret  o l1 l2 l3 l4 l5 l6 l7 l8 s0 r5 r20 r22 x21 H locs ls fo hw hW hS (lv_sub hl [4, 5, 6, 7, 8, 9, 10, 11, 12, 3, 2, 1, 0] rfl)
  · have hw := hw.2 c3
    refine lv_iload hx hb d_Ans_truthsThatCanBe_220 (lv_at hl 0 rfl) ?_
    exact hret s0 x H locs 222 ls d_Ans_truthsThatCanBe_222 hw hW hS
set_option maxRecDepth 100000 in
set_option maxHeartbeats 4000000 in
set_option maxRecDepth 100000 in
theorem t_Ans_truthsThatCanBe_201 {p : Program} {l : Launch} {e : Env} {R : Room} {s : State} {m : MethodId} {args : Array Value} {below : List Frame} {meth : Method} {c : Code} {cells slots : Nat} {Q : State → Prop} {dC : Nat → ClassId} {dI : Nat → Nat → Nat} {cI cB cJ cZ : ClassId} {A : Nat → Prop} {ad : Nat → Nat} {NN : Nat} {E : Heap} {tM tC : Nat} {kK kV : Nat → Nat} {post : Int32 → St → Prop} (hx : p.tables.exec = Jvm.exec) (hb : c.code = b_Ans_truthsThatCanBe) (hml : c.maxLocals = 15) (hown : s.vm.findClass R_Ans = some m.cls) (hT : ∀ w ∈ TG, w.before args s = true) (hK : va_K (dC, dI) CL (TY cI cB cJ cZ) s) (hN : NW s) (hA : ∀ q : Nat, s.heap.size ≤ q → A q) (hRc : cells ≤ R.cells) (hRs : slots ≤ R.slots) (hRf : 4 ≤ R.frames) (hRl : 166 ≤ R.locals) (hNN : 152 ≤ NN) (hE : CE E tM tC kK kV A s) (hret : ∀ (r : Int32) (x : St) (H : Heap) (locs : List Loc) (pc : Nat) (ls : Array Slot), decode b_Ans_truthsThatCanBe pc = .ok (.ireturn, 1) → post r x → Wd dC dI cI cB cJ cZ ad stC kcC NN A x H → va_S A s.heap H locs → W p l e R s m args below meth c H locs cells slots Q (F0 m pc ls [.int r]))  : ∀ (o : Nat) (l1 : Int32) (l2 : Int32) (l3 : Int32) (l4 : Int32) (l5 : Int32) (l6 : Int32) (l7 : Int32) (l8 : Int32) (s0 : Int32) (s1 : Int32) (x : St) (H : Heap) (locs : List Loc) (ls : Array Slot), (o < NN ∧ kcC o = 10) → j_Ans_truthsThatCanBe_201 post o l1 l2 l3 l4 l5 l6 l7 l8 s0 s1 x → Wd dC dI cI cB cJ cZ ad stC kcC NN A x H → va_S A s.heap H locs → lv_has ls 15 [(0, .ref (ad o)), (1, .int l1), (2, .int l2), (3, .int l3), (4, .int l4), (5, .int l5), (6, .int l6), (7, .int l7), (8, .int l8)] → W p l e R s m args below meth c H locs cells slots Q (F0 m 201 ls [.int s0, .int s1]) := by
  intro o l1 l2 l3 l4 l5 l6 l7 l8 s0 s1 x H locs ls fo hw hW hS hl
  unfold j_Ans_truthsThatCanBe_201 at hw
  refine lv_ior hx hb d_Ans_truthsThatCanBe_201 ?_
  exact hret (s1 ||| s0) x H locs 202 ls d_Ans_truthsThatCanBe_202 hw hW hS
set_option maxRecDepth 100000 in
set_option maxHeartbeats 4000000 in
set_option maxRecDepth 100000 in
theorem t_Ans_truthsThatCanBe_191 {p : Program} {l : Launch} {e : Env} {R : Room} {s : State} {m : MethodId} {args : Array Value} {below : List Frame} {meth : Method} {c : Code} {cells slots : Nat} {Q : State → Prop} {dC : Nat → ClassId} {dI : Nat → Nat → Nat} {cI cB cJ cZ : ClassId} {A : Nat → Prop} {ad : Nat → Nat} {NN : Nat} {E : Heap} {tM tC : Nat} {kK kV : Nat → Nat} {post : Int32 → St → Prop} (hx : p.tables.exec = Jvm.exec) (hb : c.code = b_Ans_truthsThatCanBe) (hml : c.maxLocals = 15) (hown : s.vm.findClass R_Ans = some m.cls) (hT : ∀ w ∈ TG, w.before args s = true) (hK : va_K (dC, dI) CL (TY cI cB cJ cZ) s) (hN : NW s) (hA : ∀ q : Nat, s.heap.size ≤ q → A q) (hRc : cells ≤ R.cells) (hRs : slots ≤ R.slots) (hRf : 4 ≤ R.frames) (hRl : 166 ≤ R.locals) (hNN : 152 ≤ NN) (hE : CE E tM tC kK kV A s) (hret : ∀ (r : Int32) (x : St) (H : Heap) (locs : List Loc) (pc : Nat) (ls : Array Slot), decode b_Ans_truthsThatCanBe pc = .ok (.ireturn, 1) → post r x → Wd dC dI cI cB cJ cZ ad stC kcC NN A x H → va_S A s.heap H locs → W p l e R s m args below meth c H locs cells slots Q (F0 m pc ls [.int r]))  : ∀ (o : Nat) (l1 : Int32) (l2 : Int32) (l3 : Int32) (l4 : Int32) (l5 : Int32) (l6 : Int32) (l7 : Int32) (l8 : Int32) (s0 : Int32) (x : St) (H : Heap) (locs : List Loc) (ls : Array Slot), (o < NN ∧ kcC o = 10) → j_Ans_truthsThatCanBe_191 post o l1 l2 l3 l4 l5 l6 l7 l8 s0 x → Wd dC dI cI cB cJ cZ ad stC kcC NN A x H → va_S A s.heap H locs → lv_has ls 15 [(0, .ref (ad o)), (1, .int l1), (2, .int l2), (3, .int l3), (4, .int l4), (5, .int l5), (6, .int l6), (7, .int l7), (8, .int l8)] → W p l e R s m args below meth c H locs cells slots Q (F0 m 191 ls [.int s0]) := by
  intro o l1 l2 l3 l4 l5 l6 l7 l8 s0 x H locs ls fo hw hW hS hl
  unfold j_Ans_truthsThatCanBe_191 at hw
  refine lv_iload hx hb d_Ans_truthsThatCanBe_191 (lv_at hl 8 rfl) ?_
  refine lv_if_eq (tgt := 200) hx hb d_Ans_truthsThatCanBe_193 (by decide) (fun c23 => ?_) (fun c23 => ?_)
  · have hw := hw.1 c23
    refine lv_iconst (v := 0) hx hb d_Ans_truthsThatCanBe_200 (by decide) ?_
    exact t_Ans_truthsThatCanBe_201 hx hb hml hown hT hK hN hA hRc hRs hRf hRl hNN hE hret  o l1 l2 l3 l4 l5 l6 l7 l8 0 s0 x H locs ls fo hw hW hS (lv_sub hl [0, 1, 2, 3, 4, 5, 6, 7, 8] rfl)
  · have hw := hw.2 c23
    refine lv_iconst (v := 2) hx hb d_Ans_truthsThatCanBe_196 (by decide) ?_
    refine lv_goto (tgt := 201) hx hb d_Ans_truthsThatCanBe_197 (by decide) ?_
    exact t_Ans_truthsThatCanBe_201 hx hb hml hown hT hK hN hA hRc hRs hRf hRl hNN hE hret  o l1 l2 l3 l4 l5 l6 l7 l8 2 s0 x H locs ls fo hw hW hS (lv_sub hl [0, 1, 2, 3, 4, 5, 6, 7, 8] rfl)
set_option maxRecDepth 100000 in
set_option maxHeartbeats 4000000 in
set_option maxRecDepth 100000 in
theorem t_Ans_truthsThatCanBe_173 {p : Program} {l : Launch} {e : Env} {R : Room} {s : State} {m : MethodId} {args : Array Value} {below : List Frame} {meth : Method} {c : Code} {cells slots : Nat} {Q : State → Prop} {dC : Nat → ClassId} {dI : Nat → Nat → Nat} {cI cB cJ cZ : ClassId} {A : Nat → Prop} {ad : Nat → Nat} {NN : Nat} {E : Heap} {tM tC : Nat} {kK kV : Nat → Nat} {post : Int32 → St → Prop} (hx : p.tables.exec = Jvm.exec) (hb : c.code = b_Ans_truthsThatCanBe) (hml : c.maxLocals = 15) (hown : s.vm.findClass R_Ans = some m.cls) (hT : ∀ w ∈ TG, w.before args s = true) (hK : va_K (dC, dI) CL (TY cI cB cJ cZ) s) (hN : NW s) (hA : ∀ q : Nat, s.heap.size ≤ q → A q) (hRc : cells ≤ R.cells) (hRs : slots ≤ R.slots) (hRf : 4 ≤ R.frames) (hRl : 166 ≤ R.locals) (hNN : 152 ≤ NN) (hE : CE E tM tC kK kV A s) (hret : ∀ (r : Int32) (x : St) (H : Heap) (locs : List Loc) (pc : Nat) (ls : Array Slot), decode b_Ans_truthsThatCanBe pc = .ok (.ireturn, 1) → post r x → Wd dC dI cI cB cJ cZ ad stC kcC NN A x H → va_S A s.heap H locs → W p l e R s m args below meth c H locs cells slots Q (F0 m pc ls [.int r]))  : ∀ (o : Nat) (l1 : Int32) (l2 : Int32) (l3 : Int32) (l4 : Int32) (l5 : Int32) (l6 : Int32) (l7 : Int32) (l8 : Int32) (s0 : Int32) (s1 : Int32) (x : St) (H : Heap) (locs : List Loc) (ls : Array Slot), (o < NN ∧ kcC o = 10) → j_Ans_truthsThatCanBe_173 post o l1 l2 l3 l4 l5 l6 l7 l8 s0 s1 x → Wd dC dI cI cB cJ cZ ad stC kcC NN A x H → va_S A s.heap H locs → lv_has ls 15 [(0, .ref (ad o)), (1, .int l1), (2, .int l2), (3, .int l3), (4, .int l4), (5, .int l5), (6, .int l6), (7, .int l7), (8, .int l8)] → W p l e R s m args below meth c H locs cells slots Q (F0 m 173 ls [.int s0, .int s1]) := by
  intro o l1 l2 l3 l4 l5 l6 l7 l8 s0 s1 x H locs ls fo hw hW hS hl
  unfold j_Ans_truthsThatCanBe_173 at hw
  refine lv_ior hx hb d_Ans_truthsThatCanBe_173 ?_
  exact hret (s1 ||| s0) x H locs 174 ls d_Ans_truthsThatCanBe_174 hw hW hS
set_option maxRecDepth 100000 in
set_option maxHeartbeats 4000000 in
set_option maxRecDepth 100000 in
theorem t_Ans_truthsThatCanBe_163 {p : Program} {l : Launch} {e : Env} {R : Room} {s : State} {m : MethodId} {args : Array Value} {below : List Frame} {meth : Method} {c : Code} {cells slots : Nat} {Q : State → Prop} {dC : Nat → ClassId} {dI : Nat → Nat → Nat} {cI cB cJ cZ : ClassId} {A : Nat → Prop} {ad : Nat → Nat} {NN : Nat} {E : Heap} {tM tC : Nat} {kK kV : Nat → Nat} {post : Int32 → St → Prop} (hx : p.tables.exec = Jvm.exec) (hb : c.code = b_Ans_truthsThatCanBe) (hml : c.maxLocals = 15) (hown : s.vm.findClass R_Ans = some m.cls) (hT : ∀ w ∈ TG, w.before args s = true) (hK : va_K (dC, dI) CL (TY cI cB cJ cZ) s) (hN : NW s) (hA : ∀ q : Nat, s.heap.size ≤ q → A q) (hRc : cells ≤ R.cells) (hRs : slots ≤ R.slots) (hRf : 4 ≤ R.frames) (hRl : 166 ≤ R.locals) (hNN : 152 ≤ NN) (hE : CE E tM tC kK kV A s) (hret : ∀ (r : Int32) (x : St) (H : Heap) (locs : List Loc) (pc : Nat) (ls : Array Slot), decode b_Ans_truthsThatCanBe pc = .ok (.ireturn, 1) → post r x → Wd dC dI cI cB cJ cZ ad stC kcC NN A x H → va_S A s.heap H locs → W p l e R s m args below meth c H locs cells slots Q (F0 m pc ls [.int r]))  : ∀ (o : Nat) (l1 : Int32) (l2 : Int32) (l3 : Int32) (l4 : Int32) (l5 : Int32) (l6 : Int32) (l7 : Int32) (l8 : Int32) (s0 : Int32) (x : St) (H : Heap) (locs : List Loc) (ls : Array Slot), (o < NN ∧ kcC o = 10) → j_Ans_truthsThatCanBe_163 post o l1 l2 l3 l4 l5 l6 l7 l8 s0 x → Wd dC dI cI cB cJ cZ ad stC kcC NN A x H → va_S A s.heap H locs → lv_has ls 15 [(0, .ref (ad o)), (1, .int l1), (2, .int l2), (3, .int l3), (4, .int l4), (5, .int l5), (6, .int l6), (7, .int l7), (8, .int l8)] → W p l e R s m args below meth c H locs cells slots Q (F0 m 163 ls [.int s0]) := by
  intro o l1 l2 l3 l4 l5 l6 l7 l8 s0 x H locs ls fo hw hW hS hl
  unfold j_Ans_truthsThatCanBe_163 at hw
  refine lv_iload hx hb d_Ans_truthsThatCanBe_163 (lv_at hl 8 rfl) ?_
  refine lv_if_eq (tgt := 172) hx hb d_Ans_truthsThatCanBe_165 (by decide) (fun c24 => ?_) (fun c24 => ?_)
  · have hw := hw.1 c24
    refine lv_iconst (v := 0) hx hb d_Ans_truthsThatCanBe_172 (by decide) ?_
    exact t_Ans_truthsThatCanBe_173 hx hb hml hown hT hK hN hA hRc hRs hRf hRl hNN hE hret  o l1 l2 l3 l4 l5 l6 l7 l8 0 s0 x H locs ls fo hw hW hS (lv_sub hl [0, 1, 2, 3, 4, 5, 6, 7, 8] rfl)
  · have hw := hw.2 c24
    refine lv_iconst (v := 1) hx hb d_Ans_truthsThatCanBe_168 (by decide) ?_
    refine lv_goto (tgt := 173) hx hb d_Ans_truthsThatCanBe_169 (by decide) ?_
    exact t_Ans_truthsThatCanBe_173 hx hb hml hown hT hK hN hA hRc hRs hRf hRl hNN hE hret  o l1 l2 l3 l4 l5 l6 l7 l8 1 s0 x H locs ls fo hw hW hS (lv_sub hl [0, 1, 2, 3, 4, 5, 6, 7, 8] rfl)
set_option maxRecDepth 100000 in
set_option maxHeartbeats 4000000 in
set_option maxRecDepth 100000 in
theorem t_Ans_truthsThatCanBe_145 {p : Program} {l : Launch} {e : Env} {R : Room} {s : State} {m : MethodId} {args : Array Value} {below : List Frame} {meth : Method} {c : Code} {cells slots : Nat} {Q : State → Prop} {dC : Nat → ClassId} {dI : Nat → Nat → Nat} {cI cB cJ cZ : ClassId} {A : Nat → Prop} {ad : Nat → Nat} {NN : Nat} {E : Heap} {tM tC : Nat} {kK kV : Nat → Nat} {post : Int32 → St → Prop} (hx : p.tables.exec = Jvm.exec) (hb : c.code = b_Ans_truthsThatCanBe) (hml : c.maxLocals = 15) (hown : s.vm.findClass R_Ans = some m.cls) (hT : ∀ w ∈ TG, w.before args s = true) (hK : va_K (dC, dI) CL (TY cI cB cJ cZ) s) (hN : NW s) (hA : ∀ q : Nat, s.heap.size ≤ q → A q) (hRc : cells ≤ R.cells) (hRs : slots ≤ R.slots) (hRf : 4 ≤ R.frames) (hRl : 166 ≤ R.locals) (hNN : 152 ≤ NN) (hE : CE E tM tC kK kV A s) (hret : ∀ (r : Int32) (x : St) (H : Heap) (locs : List Loc) (pc : Nat) (ls : Array Slot), decode b_Ans_truthsThatCanBe pc = .ok (.ireturn, 1) → post r x → Wd dC dI cI cB cJ cZ ad stC kcC NN A x H → va_S A s.heap H locs → W p l e R s m args below meth c H locs cells slots Q (F0 m pc ls [.int r]))  : ∀ (o : Nat) (l1 : Int32) (l2 : Int32) (l3 : Int32) (l4 : Int32) (l5 : Int32) (l6 : Int32) (l7 : Int32) (s0 : Int32) (x : St) (H : Heap) (locs : List Loc) (ls : Array Slot), (o < NN ∧ kcC o = 10) → j_Ans_truthsThatCanBe_145 post o l1 l2 l3 l4 l5 l6 l7 s0 x → Wd dC dI cI cB cJ cZ ad stC kcC NN A x H → va_S A s.heap H locs → lv_has ls 15 [(0, .ref (ad o)), (1, .int l1), (2, .int l2), (3, .int l3), (4, .int l4), (5, .int l5), (6, .int l6), (7, .int l7)] → W p l e R s m args below meth c H locs cells slots Q (F0 m 145 ls [.int s0]) := by
  intro o l1 l2 l3 l4 l5 l6 l7 s0 x H locs ls fo hw hW hS hl
  unfold j_Ans_truthsThatCanBe_145 at hw
  refine lv_istore (lv' := [(8, .int s0), (0, .ref (ad o)), (1, .int l1), (2, .int l2), (3, .int l3), (4, .int l4), (5, .int l5), (6, .int l6), (7, .int l7)]) hx hb d_Ans_truthsThatCanBe_145 hl (by decide) rfl (fun ls hl => ?_)
  refine lv_iload_n hx hb d_Ans_truthsThatCanBe_147 rfl (lv_at hl 3 rfl) ?_
  refine lv_bipush (v := 6) hx hb d_Ans_truthsThatCanBe_148 (by decide) ?_
  refine lv_icmp_ne (tgt := 175) hx hb d_Ans_truthsThatCanBe_150 (by decide) (fun c25 => ?_) (fun c25 => ?_)
  · have hw := hw.1 c25
    refine lv_iload_n hx hb d_Ans_truthsThatCanBe_175 rfl (lv_at hl 3 rfl) ?_
    refine lv_bipush (v := 7) hx hb d_Ans_truthsThatCanBe_176 (by decide) ?_
    refine lv_icmp_ne (tgt := 203) hx hb d_Ans_truthsThatCanBe_178 (by decide) (fun c26 => ?_) (fun c26 => ?_)
    · have hw := hw.1 c26
      refine lv_iload hx hb d_Ans_truthsThatCanBe_203 (lv_at hl 8 rfl) ?_
      refine lv_if_eq (tgt := 212) hx hb d_Ans_truthsThatCanBe_205 (by decide) (fun c27 => ?_) (fun c27 => ?_)
      · have hw := hw.1 c27
        refine lv_iconst (v := 0) hx hb d_Ans_truthsThatCanBe_212 (by decide) ?_
        exact t_Ans_truthsThatCanBe_213 hx hb hml hown hT hK hN hA hRc hRs hRf hRl hNN hE hret  o l1 l2 l3 l4 l5 l6 l7 s0 0 x H locs ls fo hw hW hS (lv_sub hl [1, 2, 3, 4, 5, 6, 7, 8, 0] rfl)
      · have hw := hw.2 c27
        refine lv_iconst (v := 4) hx hb d_Ans_truthsThatCanBe_208 (by decide) ?_
        refine lv_goto (tgt := 213) hx hb d_Ans_truthsThatCanBe_209 (by decide) ?_
        exact t_Ans_truthsThatCanBe_213 hx hb hml hown hT hK hN hA hRc hRs hRf hRl hNN hE hret  o l1 l2 l3 l4 l5 l6 l7 s0 4 x H locs ls fo hw hW hS (lv_sub hl [1, 2, 3, 4, 5, 6, 7, 8, 0] rfl)
    · have hw := hw.2 c26
      refine lv_iload hx hb d_Ans_truthsThatCanBe_181 (lv_at hl 8 rfl) ?_
      refine lv_if_eq (tgt := 190) hx hb d_Ans_truthsThatCanBe_183 (by decide) (fun c28 => ?_) (fun c28 => ?_)
      · have hw := hw.1 c28
        refine lv_iconst (v := 0) hx hb d_Ans_truthsThatCanBe_190 (by decide) ?_
        exact t_Ans_truthsThatCanBe_191 hx hb hml hown hT hK hN hA hRc hRs hRf hRl hNN hE hret  o l1 l2 l3 l4 l5 l6 l7 s0 0 x H locs ls fo hw hW hS (lv_sub hl [1, 2, 3, 4, 5, 6, 7, 8, 0] rfl)
      · have hw := hw.2 c28
        refine lv_iconst (v := 1) hx hb d_Ans_truthsThatCanBe_186 (by decide) ?_
        refine lv_goto (tgt := 191) hx hb d_Ans_truthsThatCanBe_187 (by decide) ?_
        exact t_Ans_truthsThatCanBe_191 hx hb hml hown hT hK hN hA hRc hRs hRf hRl hNN hE hret  o l1 l2 l3 l4 l5 l6 l7 s0 1 x H locs ls fo hw hW hS (lv_sub hl [1, 2, 3, 4, 5, 6, 7, 8, 0] rfl)
  · have hw := hw.2 c25
    refine lv_iload hx hb d_Ans_truthsThatCanBe_153 (lv_at hl 8 rfl) ?_
    refine lv_if_eq (tgt := 162) hx hb d_Ans_truthsThatCanBe_155 (by decide) (fun c29 => ?_) (fun c29 => ?_)
    · have hw := hw.1 c29
      refine lv_iconst (v := 0) hx hb d_Ans_truthsThatCanBe_162 (by decide) ?_
      exact t_Ans_truthsThatCanBe_163 hx hb hml hown hT hK hN hA hRc hRs hRf hRl hNN hE hret  o l1 l2 l3 l4 l5 l6 l7 s0 0 x H locs ls fo hw hW hS (lv_sub hl [1, 2, 3, 4, 5, 6, 7, 8, 0] rfl)
    · have hw := hw.2 c29
      refine lv_iconst (v := 2) hx hb d_Ans_truthsThatCanBe_158 (by decide) ?_
      refine lv_goto (tgt := 163) hx hb d_Ans_truthsThatCanBe_159 (by decide) ?_
      exact t_Ans_truthsThatCanBe_163 hx hb hml hown hT hK hN hA hRc hRs hRf hRl hNN hE hret  o l1 l2 l3 l4 l5 l6 l7 s0 2 x H locs ls fo hw hW hS (lv_sub hl [1, 2, 3, 4, 5, 6, 7, 8, 0] rfl)
set_option maxRecDepth 100000 in
set_option maxHeartbeats 4000000 in
set_option maxRecDepth 100000 in
theorem t_Ans_truthsThatCanBe_144 {p : Program} {l : Launch} {e : Env} {R : Room} {s : State} {m : MethodId} {args : Array Value} {below : List Frame} {meth : Method} {c : Code} {cells slots : Nat} {Q : State → Prop} {dC : Nat → ClassId} {dI : Nat → Nat → Nat} {cI cB cJ cZ : ClassId} {A : Nat → Prop} {ad : Nat → Nat} {NN : Nat} {E : Heap} {tM tC : Nat} {kK kV : Nat → Nat} {post : Int32 → St → Prop} (hx : p.tables.exec = Jvm.exec) (hb : c.code = b_Ans_truthsThatCanBe) (hml : c.maxLocals = 15) (hown : s.vm.findClass R_Ans = some m.cls) (hT : ∀ w ∈ TG, w.before args s = true) (hK : va_K (dC, dI) CL (TY cI cB cJ cZ) s) (hN : NW s) (hA : ∀ q : Nat, s.heap.size ≤ q → A q) (hRc : cells ≤ R.cells) (hRs : slots ≤ R.slots) (hRf : 4 ≤ R.frames) (hRl : 166 ≤ R.locals) (hNN : 152 ≤ NN) (hE : CE E tM tC kK kV A s) (hret : ∀ (r : Int32) (x : St) (H : Heap) (locs : List Loc) (pc : Nat) (ls : Array Slot), decode b_Ans_truthsThatCanBe pc = .ok (.ireturn, 1) → post r x → Wd dC dI cI cB cJ cZ ad stC kcC NN A x H → va_S A s.heap H locs → W p l e R s m args below meth c H locs cells slots Q (F0 m pc ls [.int r]))  : ∀ (o : Nat) (l1 : Int32) (l2 : Int32) (l3 : Int32) (l4 : Int32) (l5 : Int32) (l6 : Int32) (l7 : Int32) (x : St) (H : Heap) (locs : List Loc) (ls : Array Slot), (o < NN ∧ kcC o = 10) → j_Ans_truthsThatCanBe_144 post o l1 l2 l3 l4 l5 l6 l7 x → Wd dC dI cI cB cJ cZ ad stC kcC NN A x H → va_S A s.heap H locs → lv_has ls 15 [(0, .ref (ad o)), (1, .int l1), (2, .int l2), (3, .int l3), (4, .int l4), (5, .int l5), (6, .int l6), (7, .int l7)] → W p l e R s m args below meth c H locs cells slots Q (F0 m 144 ls []) := by
  intro o l1 l2 l3 l4 l5 l6 l7 x H locs ls fo hw hW hS hl
  unfold j_Ans_truthsThatCanBe_144 at hw
  refine lv_iconst (v := 0) hx hb d_Ans_truthsThatCanBe_144 (by decide) ?_
  exact t_Ans_truthsThatCanBe_145 hx hb hml hown hT hK hN hA hRc hRs hRf hRl hNN hE hret  o l1 l2 l3 l4 l5 l6 l7 0 x H locs ls fo hw hW hS (lv_sub hl [0, 1, 2, 3, 4, 5, 6, 7] rfl)
set_option maxRecDepth 100000 in
set_option maxHeartbeats 4000000 in
set_option maxRecDepth 100000 in
theorem t_Ans_truthsThatCanBe_92 {p : Program} {l : Launch} {e : Env} {R : Room} {s : State} {m : MethodId} {args : Array Value} {below : List Frame} {meth : Method} {c : Code} {cells slots : Nat} {Q : State → Prop} {dC : Nat → ClassId} {dI : Nat → Nat → Nat} {cI cB cJ cZ : ClassId} {A : Nat → Prop} {ad : Nat → Nat} {NN : Nat} {E : Heap} {tM tC : Nat} {kK kV : Nat → Nat} {post : Int32 → St → Prop} (hx : p.tables.exec = Jvm.exec) (hb : c.code = b_Ans_truthsThatCanBe) (hml : c.maxLocals = 15) (hown : s.vm.findClass R_Ans = some m.cls) (hT : ∀ w ∈ TG, w.before args s = true) (hK : va_K (dC, dI) CL (TY cI cB cJ cZ) s) (hN : NW s) (hA : ∀ q : Nat, s.heap.size ≤ q → A q) (hRc : cells ≤ R.cells) (hRs : slots ≤ R.slots) (hRf : 4 ≤ R.frames) (hRl : 166 ≤ R.locals) (hNN : 152 ≤ NN) (hE : CE E tM tC kK kV A s) (hret : ∀ (r : Int32) (x : St) (H : Heap) (locs : List Loc) (pc : Nat) (ls : Array Slot), decode b_Ans_truthsThatCanBe pc = .ok (.ireturn, 1) → post r x → Wd dC dI cI cB cJ cZ ad stC kcC NN A x H → va_S A s.heap H locs → W p l e R s m args below meth c H locs cells slots Q (F0 m pc ls [.int r]))  : ∀ (o : Nat) (l1 : Int32) (l2 : Int32) (l3 : Int32) (l4 : Int32) (l5 : Int32) (l6 : Int32) (s0 : Int32) (x : St) (H : Heap) (locs : List Loc) (ls : Array Slot), (o < NN ∧ kcC o = 10) → j_Ans_truthsThatCanBe_92 post o l1 l2 l3 l4 l5 l6 s0 x → Wd dC dI cI cB cJ cZ ad stC kcC NN A x H → va_S A s.heap H locs → lv_has ls 15 [(0, .ref (ad o)), (1, .int l1), (2, .int l2), (3, .int l3), (4, .int l4), (5, .int l5), (6, .int l6)] → W p l e R s m args below meth c H locs cells slots Q (F0 m 92 ls [.int s0]) := by
  intro o l1 l2 l3 l4 l5 l6 s0 x H locs ls fo hw hW hS hl
  unfold j_Ans_truthsThatCanBe_92 at hw
  refine lv_istore (lv' := [(7, .int s0), (0, .ref (ad o)), (1, .int l1), (2, .int l2), (3, .int l3), (4, .int l4), (5, .int l5), (6, .int l6)]) hx hb d_Ans_truthsThatCanBe_92 hl (by decide) rfl (fun ls hl => ?_)
  refine lv_aload_n hx hb d_Ans_truthsThatCanBe_94 rfl (lv_at hl 1 rfl) ?_
  obtain ⟨q30, hq30, hw⟩ := hw
  refine w_getr (q := q30) (k := 14) (t := 10) (C := R_Ans) (T := F_Ans) (N := 16) hx hb hT hown hK hW fo.1 fo.2 (by decide) in_Ans rfl rfl (by decide) rfl fr_Ans_14 w_3_176 d_Ans_truthsThatCanBe_95 hq30 (fun aq30 bq30 => ?_)
  have fq30 : q30 < NN ∧ kcC q30 = 6 := ⟨aq30, bq30⟩
  refine w_getf (q := (stC q30 15)) (k := 15) (t := 6) (C := R_Vlt) (T := F_Vlt) (N := 20) hx hb hT hown hK hW fq30.1 fq30.2 (by decide) in_Vlt rfl rfl (by decide) rfl fr_Vlt_15 w_2_170 d_Ans_truthsThatCanBe_98 rfl ?_
  refine lv_iload hx hb d_Ans_truthsThatCanBe_101 (lv_at hl 5 rfl) ?_
  obtain ⟨hi, hw⟩ := hw
  refine w_iald (o := (stC q30 15)) hx hb hK hW (st_ty hNN fq30.1 fq30.2 rfl).1 (st_ty hNN fq30.1 fq30.2 rfl).2 hi d_Ans_truthsThatCanBe_103 ?_
  refine lv_aload_n hx hb d_Ans_truthsThatCanBe_104 rfl (lv_at hl 1 rfl) ?_
  obtain ⟨q31, hq31, hw⟩ := hw
  refine w_getr (q := q31) (k := 14) (t := 10) (C := R_Ans) (T := F_Ans) (N := 16) hx hb hT hown hK hW fo.1 fo.2 (by decide) in_Ans rfl rfl (by decide) rfl fr_Ans_14 w_3_176 d_Ans_truthsThatCanBe_105 hq31 (fun aq31 bq31 => ?_)
  have fq31 : q31 < NN ∧ kcC q31 = 6 := ⟨aq31, bq31⟩
  refine w_getf (q := (stC q31 14)) (k := 14) (t := 6) (C := R_Vlt) (T := F_Vlt) (N := 20) hx hb hT hown hK hW fq31.1 fq31.2 (by decide) in_Vlt rfl rfl (by decide) rfl fr_Vlt_14 w_2_167 d_Ans_truthsThatCanBe_108 rfl ?_
  refine lv_iload hx hb d_Ans_truthsThatCanBe_111 (lv_at hl 5 rfl) ?_
  obtain ⟨hi, hw⟩ := hw
  refine w_iald (o := (stC q31 14)) hx hb hK hW (st_ty hNN fq31.1 fq31.2 rfl).1 (st_ty hNN fq31.1 fq31.2 rfl).2 hi d_Ans_truthsThatCanBe_113 ?_
  refine lv_icmp_ge (tgt := 144) hx hb d_Ans_truthsThatCanBe_114 (by decide) (fun c32 => ?_) (fun c32 => ?_)
  · have hw := hw.1 c32
    exact t_Ans_truthsThatCanBe_144 hx hb hml hown hT hK hN hA hRc hRs hRf hRl hNN hE hret  o l1 l2 l3 l4 l5 l6 s0 x H locs ls fo hw hW hS (lv_sub hl [1, 2, 3, 4, 5, 6, 7, 0] rfl)
  · have hw := hw.2 c32
    refine lv_aload_n hx hb d_Ans_truthsThatCanBe_117 rfl (lv_at hl 1 rfl) ?_
    obtain ⟨q33, hq33, hw⟩ := hw
    refine w_getr (q := q33) (k := 14) (t := 10) (C := R_Ans) (T := F_Ans) (N := 16) hx hb hT hown hK hW fo.1 fo.2 (by decide) in_Ans rfl rfl (by decide) rfl fr_Ans_14 w_3_176 d_Ans_truthsThatCanBe_118 hq33 (fun aq33 bq33 => ?_)
    have fq33 : q33 < NN ∧ kcC q33 = 6 := ⟨aq33, bq33⟩
    refine w_getf (q := (stC q33 15)) (k := 15) (t := 6) (C := R_Vlt) (T := F_Vlt) (N := 20) hx hb hT hown hK hW fq33.1 fq33.2 (by decide) in_Vlt rfl rfl (by decide) rfl fr_Vlt_15 w_2_170 d_Ans_truthsThatCanBe_121 rfl ?_
    refine lv_iload hx hb d_Ans_truthsThatCanBe_124 (lv_at hl 7 rfl) ?_
    obtain ⟨hi, hw⟩ := hw
    refine w_iald (o := (stC q33 15)) hx hb hK hW (st_ty hNN fq33.1 fq33.2 rfl).1 (st_ty hNN fq33.1 fq33.2 rfl).2 hi d_Ans_truthsThatCanBe_126 ?_
    refine lv_aload_n hx hb d_Ans_truthsThatCanBe_127 rfl (lv_at hl 1 rfl) ?_
    obtain ⟨q34, hq34, hw⟩ := hw
    refine w_getr (q := q34) (k := 14) (t := 10) (C := R_Ans) (T := F_Ans) (N := 16) hx hb hT hown hK hW fo.1 fo.2 (by decide) in_Ans rfl rfl (by decide) rfl fr_Ans_14 w_3_176 d_Ans_truthsThatCanBe_128 hq34 (fun aq34 bq34 => ?_)
    have fq34 : q34 < NN ∧ kcC q34 = 6 := ⟨aq34, bq34⟩
    refine w_getf (q := (stC q34 14)) (k := 14) (t := 6) (C := R_Vlt) (T := F_Vlt) (N := 20) hx hb hT hown hK hW fq34.1 fq34.2 (by decide) in_Vlt rfl rfl (by decide) rfl fr_Vlt_14 w_2_167 d_Ans_truthsThatCanBe_131 rfl ?_
    refine lv_iload hx hb d_Ans_truthsThatCanBe_134 (lv_at hl 7 rfl) ?_
    obtain ⟨hi, hw⟩ := hw
    refine w_iald (o := (stC q34 14)) hx hb hK hW (st_ty hNN fq34.1 fq34.2 rfl).1 (st_ty hNN fq34.1 fq34.2 rfl).2 hi d_Ans_truthsThatCanBe_136 ?_
    refine lv_icmp_ge (tgt := 144) hx hb d_Ans_truthsThatCanBe_137 (by decide) (fun c35 => ?_) (fun c35 => ?_)
    · have hw := hw.1 c35
      exact t_Ans_truthsThatCanBe_144 hx hb hml hown hT hK hN hA hRc hRs hRf hRl hNN hE hret  o l1 l2 l3 l4 l5 l6 s0 x H locs ls fo hw hW hS (lv_sub hl [1, 2, 3, 4, 5, 6, 7, 0] rfl)
    · have hw := hw.2 c35
      refine lv_iconst (v := 1) hx hb d_Ans_truthsThatCanBe_140 (by decide) ?_
      refine lv_goto (tgt := 145) hx hb d_Ans_truthsThatCanBe_141 (by decide) ?_
      exact t_Ans_truthsThatCanBe_145 hx hb hml hown hT hK hN hA hRc hRs hRf hRl hNN hE hret  o l1 l2 l3 l4 l5 l6 s0 1 x H locs ls fo hw hW hS (lv_sub hl [1, 2, 3, 4, 5, 6, 7, 0] rfl)
set_option maxRecDepth 100000 in
set_option maxHeartbeats 4000000 in
set_option maxRecDepth 100000 in
theorem t_Ans_truthsThatCanBe_87 {p : Program} {l : Launch} {e : Env} {R : Room} {s : State} {m : MethodId} {args : Array Value} {below : List Frame} {meth : Method} {c : Code} {cells slots : Nat} {Q : State → Prop} {dC : Nat → ClassId} {dI : Nat → Nat → Nat} {cI cB cJ cZ : ClassId} {A : Nat → Prop} {ad : Nat → Nat} {NN : Nat} {E : Heap} {tM tC : Nat} {kK kV : Nat → Nat} {post : Int32 → St → Prop} (hx : p.tables.exec = Jvm.exec) (hb : c.code = b_Ans_truthsThatCanBe) (hml : c.maxLocals = 15) (hown : s.vm.findClass R_Ans = some m.cls) (hT : ∀ w ∈ TG, w.before args s = true) (hK : va_K (dC, dI) CL (TY cI cB cJ cZ) s) (hN : NW s) (hA : ∀ q : Nat, s.heap.size ≤ q → A q) (hRc : cells ≤ R.cells) (hRs : slots ≤ R.slots) (hRf : 4 ≤ R.frames) (hRl : 166 ≤ R.locals) (hNN : 152 ≤ NN) (hE : CE E tM tC kK kV A s) (hret : ∀ (r : Int32) (x : St) (H : Heap) (locs : List Loc) (pc : Nat) (ls : Array Slot), decode b_Ans_truthsThatCanBe pc = .ok (.ireturn, 1) → post r x → Wd dC dI cI cB cJ cZ ad stC kcC NN A x H → va_S A s.heap H locs → W p l e R s m args below meth c H locs cells slots Q (F0 m pc ls [.int r]))  : ∀ (o : Nat) (l1 : Int32) (l2 : Int32) (l3 : Int32) (l4 : Int32) (l5 : Int32) (l6 : Int32) (x : St) (H : Heap) (locs : List Loc) (ls : Array Slot), (o < NN ∧ kcC o = 10) → j_Ans_truthsThatCanBe_87 post o l1 l2 l3 l4 l5 l6 x → Wd dC dI cI cB cJ cZ ad stC kcC NN A x H → va_S A s.heap H locs → lv_has ls 15 [(0, .ref (ad o)), (1, .int l1), (2, .int l2), (3, .int l3), (4, .int l4), (5, .int l5), (6, .int l6)] → W p l e R s m args below meth c H locs cells slots Q (F0 m 87 ls []) := by
  intro o l1 l2 l3 l4 l5 l6 x H locs ls fo hw hW hS hl
  unfold j_Ans_truthsThatCanBe_87 at hw
  refine lv_iconst (v := 1) hx hb d_Ans_truthsThatCanBe_87 (by decide) ?_
  refine lv_goto (tgt := 92) hx hb d_Ans_truthsThatCanBe_88 (by decide) ?_
  exact t_Ans_truthsThatCanBe_92 hx hb hml hown hT hK hN hA hRc hRs hRf hRl hNN hE hret  o l1 l2 l3 l4 l5 l6 1 x H locs ls fo hw hW hS (lv_sub hl [0, 1, 2, 3, 4, 5, 6] rfl)
set_option maxRecDepth 100000 in
set_option maxHeartbeats 4000000 in
set_option maxRecDepth 100000 in
theorem t_Ans_truthsThatCanBe_59 {p : Program} {l : Launch} {e : Env} {R : Room} {s : State} {m : MethodId} {args : Array Value} {below : List Frame} {meth : Method} {c : Code} {cells slots : Nat} {Q : State → Prop} {dC : Nat → ClassId} {dI : Nat → Nat → Nat} {cI cB cJ cZ : ClassId} {A : Nat → Prop} {ad : Nat → Nat} {NN : Nat} {E : Heap} {tM tC : Nat} {kK kV : Nat → Nat} {post : Int32 → St → Prop} (hx : p.tables.exec = Jvm.exec) (hb : c.code = b_Ans_truthsThatCanBe) (hml : c.maxLocals = 15) (hown : s.vm.findClass R_Ans = some m.cls) (hT : ∀ w ∈ TG, w.before args s = true) (hK : va_K (dC, dI) CL (TY cI cB cJ cZ) s) (hN : NW s) (hA : ∀ q : Nat, s.heap.size ≤ q → A q) (hRc : cells ≤ R.cells) (hRs : slots ≤ R.slots) (hRf : 4 ≤ R.frames) (hRl : 166 ≤ R.locals) (hNN : 152 ≤ NN) (hE : CE E tM tC kK kV A s) (hret : ∀ (r : Int32) (x : St) (H : Heap) (locs : List Loc) (pc : Nat) (ls : Array Slot), decode b_Ans_truthsThatCanBe pc = .ok (.ireturn, 1) → post r x → Wd dC dI cI cB cJ cZ ad stC kcC NN A x H → va_S A s.heap H locs → W p l e R s m args below meth c H locs cells slots Q (F0 m pc ls [.int r]))  : ∀ (o : Nat) (l1 : Int32) (l2 : Int32) (l3 : Int32) (l4 : Int32) (l5 : Int32) (s0 : Int32) (x : St) (H : Heap) (locs : List Loc) (ls : Array Slot), (o < NN ∧ kcC o = 10) → j_Ans_truthsThatCanBe_59 post o l1 l2 l3 l4 l5 s0 x → Wd dC dI cI cB cJ cZ ad stC kcC NN A x H → va_S A s.heap H locs → lv_has ls 15 [(0, .ref (ad o)), (1, .int l1), (2, .int l2), (3, .int l3), (4, .int l4), (5, .int l5)] → W p l e R s m args below meth c H locs cells slots Q (F0 m 59 ls [.int s0]) := by
  intro o l1 l2 l3 l4 l5 s0 x H locs ls fo hw hW hS hl
  unfold j_Ans_truthsThatCanBe_59 at hw
  refine lv_istore (lv' := [(6, .int s0), (0, .ref (ad o)), (1, .int l1), (2, .int l2), (3, .int l3), (4, .int l4), (5, .int l5)]) hx hb d_Ans_truthsThatCanBe_59 hl (by decide) rfl (fun ls hl => ?_)
  refine lv_aload_n hx hb d_Ans_truthsThatCanBe_61 rfl (lv_at hl 1 rfl) ?_
  obtain ⟨q36, hq36, hw⟩ := hw
  refine w_getr (q := q36) (k := 14) (t := 10) (C := R_Ans) (T := F_Ans) (N := 16) hx hb hT hown hK hW fo.1 fo.2 (by decide) in_Ans rfl rfl (by decide) rfl fr_Ans_14 w_3_176 d_Ans_truthsThatCanBe_62 hq36 (fun aq36 bq36 => ?_)
  have fq36 : q36 < NN ∧ kcC q36 = 6 := ⟨aq36, bq36⟩
  refine w_getf (q := (stC q36 15)) (k := 15) (t := 6) (C := R_Vlt) (T := F_Vlt) (N := 20) hx hb hT hown hK hW fq36.1 fq36.2 (by decide) in_Vlt rfl rfl (by decide) rfl fr_Vlt_15 w_2_170 d_Ans_truthsThatCanBe_65 rfl ?_
  refine lv_iload hx hb d_Ans_truthsThatCanBe_68 (lv_at hl 5 rfl) ?_
  obtain ⟨hi, hw⟩ := hw
  refine w_iald (o := (stC q36 15)) hx hb hK hW (st_ty hNN fq36.1 fq36.2 rfl).1 (st_ty hNN fq36.1 fq36.2 rfl).2 hi d_Ans_truthsThatCanBe_70 ?_
  refine lv_if_gt (tgt := 87) hx hb d_Ans_truthsThatCanBe_71 (by decide) (fun c37 => ?_) (fun c37 => ?_)
  · have hw := hw.1 c37
    exact t_Ans_truthsThatCanBe_87 hx hb hml hown hT hK hN hA hRc hRs hRf hRl hNN hE hret  o l1 l2 l3 l4 l5 s0 x H locs ls fo hw hW hS (lv_sub hl [1, 2, 3, 4, 5, 6, 0] rfl)
  · have hw := hw.2 c37
    refine lv_aload_n hx hb d_Ans_truthsThatCanBe_74 rfl (lv_at hl 1 rfl) ?_
    obtain ⟨q38, hq38, hw⟩ := hw
    refine w_getr (q := q38) (k := 14) (t := 10) (C := R_Ans) (T := F_Ans) (N := 16) hx hb hT hown hK hW fo.1 fo.2 (by decide) in_Ans rfl rfl (by decide) rfl fr_Ans_14 w_3_176 d_Ans_truthsThatCanBe_75 hq38 (fun aq38 bq38 => ?_)
    have fq38 : q38 < NN ∧ kcC q38 = 6 := ⟨aq38, bq38⟩
    refine w_getf (q := (stC q38 15)) (k := 15) (t := 6) (C := R_Vlt) (T := F_Vlt) (N := 20) hx hb hT hown hK hW fq38.1 fq38.2 (by decide) in_Vlt rfl rfl (by decide) rfl fr_Vlt_15 w_2_170 d_Ans_truthsThatCanBe_78 rfl ?_
    refine lv_iload hx hb d_Ans_truthsThatCanBe_81 (lv_at hl 0 rfl) ?_
    obtain ⟨hi, hw⟩ := hw
    refine w_iald (o := (stC q38 15)) hx hb hK hW (st_ty hNN fq38.1 fq38.2 rfl).1 (st_ty hNN fq38.1 fq38.2 rfl).2 hi d_Ans_truthsThatCanBe_83 ?_
    refine lv_if_le (tgt := 91) hx hb d_Ans_truthsThatCanBe_84 (by decide) (fun c39 => ?_) (fun c39 => ?_)
    · have hw := hw.1 c39
      refine lv_iconst (v := 0) hx hb d_Ans_truthsThatCanBe_91 (by decide) ?_
      exact t_Ans_truthsThatCanBe_92 hx hb hml hown hT hK hN hA hRc hRs hRf hRl hNN hE hret  o l1 l2 l3 l4 l5 s0 0 x H locs ls fo hw hW hS (lv_sub hl [1, 2, 3, 4, 5, 6, 0] rfl)
    · have hw := hw.2 c39
      exact t_Ans_truthsThatCanBe_87 hx hb hml hown hT hK hN hA hRc hRs hRf hRl hNN hE hret  o l1 l2 l3 l4 l5 s0 x H locs ls fo hw hW hS (lv_sub hl [1, 2, 3, 4, 5, 6, 0] rfl)
set_option maxRecDepth 100000 in
set_option maxHeartbeats 4000000 in
set_option maxRecDepth 100000 in
theorem t_Ans_truthsThatCanBe_e {p : Program} {l : Launch} {e : Env} {R : Room} {s : State} {m : MethodId} {args : Array Value} {below : List Frame} {meth : Method} {c : Code} {cells slots : Nat} {Q : State → Prop} {dC : Nat → ClassId} {dI : Nat → Nat → Nat} {cI cB cJ cZ : ClassId} {A : Nat → Prop} {ad : Nat → Nat} {NN : Nat} {E : Heap} {tM tC : Nat} {kK kV : Nat → Nat} {post : Int32 → St → Prop} (hx : p.tables.exec = Jvm.exec) (hb : c.code = b_Ans_truthsThatCanBe) (hml : c.maxLocals = 15) (hown : s.vm.findClass R_Ans = some m.cls) (hT : ∀ w ∈ TG, w.before args s = true) (hK : va_K (dC, dI) CL (TY cI cB cJ cZ) s) (hN : NW s) (hA : ∀ q : Nat, s.heap.size ≤ q → A q) (hRc : cells ≤ R.cells) (hRs : slots ≤ R.slots) (hRf : 4 ≤ R.frames) (hRl : 166 ≤ R.locals) (hNN : 152 ≤ NN) (hE : CE E tM tC kK kV A s) (hret : ∀ (r : Int32) (x : St) (H : Heap) (locs : List Loc) (pc : Nat) (ls : Array Slot), decode b_Ans_truthsThatCanBe pc = .ok (.ireturn, 1) → post r x → Wd dC dI cI cB cJ cZ ad stC kcC NN A x H → va_S A s.heap H locs → W p l e R s m args below meth c H locs cells slots Q (F0 m pc ls [.int r])) : ∀ (o : Nat) (l1 : Int32) (x : St) (H : Heap) (locs : List Loc) (ls : Array Slot), (o < NN ∧ kcC o = 10) → wp_Ans_truthsThatCanBe post o l1 x → Wd dC dI cI cB cJ cZ ad stC kcC NN A x H → va_S A s.heap H locs → lv_has ls 15 [(0, .ref (ad o)), (1, .int l1)] → W p l e R s m args below meth c H locs cells slots Q (F0 m 0 ls []) := by
  intro o l1 x H locs ls fo hw hW hS hl
  unfold wp_Ans_truthsThatCanBe at hw
  refine lv_aload_n hx hb d_Ans_truthsThatCanBe_0 rfl (lv_at hl 0 rfl) ?_
  obtain ⟨q40, hq40, hw⟩ := hw
  refine w_getr (q := q40) (k := 15) (t := 10) (C := R_Ans) (T := F_Ans) (N := 16) hx hb hT hown hK hW fo.1 fo.2 (by decide) in_Ans rfl rfl (by decide) rfl fr_Ans_15 w_3_177 d_Ans_truthsThatCanBe_1 hq40 (fun aq40 bq40 => ?_)
  have fq40 : q40 < NN ∧ kcC q40 = 9 := ⟨aq40, bq40⟩
  refine w_getf (q := (stC q40 9)) (k := 9) (t := 9) (C := R_Qry) (T := F_Qry) (N := 20) hx hb hT hown hK hW fq40.1 fq40.2 (by decide) in_Qry rfl rfl (by decide) rfl fr_Qry_9 w_3_92 d_Ans_truthsThatCanBe_4 rfl ?_
  refine lv_iload_n hx hb d_Ans_truthsThatCanBe_7 rfl (lv_at hl 1 rfl) ?_
  obtain ⟨hi, hw⟩ := hw
  refine w_iald (o := (stC q40 9)) hx hb hK hW (st_ty hNN fq40.1 fq40.2 rfl).1 (st_ty hNN fq40.1 fq40.2 rfl).2 hi d_Ans_truthsThatCanBe_8 ?_
  refine lv_topi (fun v41 ev41 => ?_)
  have hw := hw v41 ev41
  refine lv_istore_n (lv' := [(2, .int v41), (0, .ref (ad o)), (1, .int l1)]) hx hb d_Ans_truthsThatCanBe_9 rfl hl (by decide) rfl (fun ls hl => ?_)
  refine lv_aload_n hx hb d_Ans_truthsThatCanBe_10 rfl (lv_at hl 1 rfl) ?_
  obtain ⟨q42, hq42, hw⟩ := hw
  refine w_getr (q := q42) (k := 15) (t := 10) (C := R_Ans) (T := F_Ans) (N := 16) hx hb hT hown hK hW fo.1 fo.2 (by decide) in_Ans rfl rfl (by decide) rfl fr_Ans_15 w_3_177 d_Ans_truthsThatCanBe_11 hq42 (fun aq42 bq42 => ?_)
  have fq42 : q42 < NN ∧ kcC q42 = 9 := ⟨aq42, bq42⟩
  refine w_getf (q := (stC q42 10)) (k := 10) (t := 9) (C := R_Qry) (T := F_Qry) (N := 20) hx hb hT hown hK hW fq42.1 fq42.2 (by decide) in_Qry rfl rfl (by decide) rfl fr_Qry_10 w_3_94 d_Ans_truthsThatCanBe_14 rfl ?_
  refine lv_iload_n hx hb d_Ans_truthsThatCanBe_17 rfl (lv_at hl 2 rfl) ?_
  obtain ⟨hi, hw⟩ := hw
  refine w_iald (o := (stC q42 10)) hx hb hK hW (st_ty hNN fq42.1 fq42.2 rfl).1 (st_ty hNN fq42.1 fq42.2 rfl).2 hi d_Ans_truthsThatCanBe_18 ?_
  refine lv_topi (fun v43 ev43 => ?_)
  have hw := hw v43 ev43
  refine lv_istore_n (lv' := [(3, .int v43), (2, .int v41), (0, .ref (ad o)), (1, .int l1)]) hx hb d_Ans_truthsThatCanBe_19 rfl hl (by decide) rfl (fun ls hl => ?_)
  refine lv_aload_n hx hb d_Ans_truthsThatCanBe_20 rfl (lv_at hl 2 rfl) ?_
  refine w_getf (q := (stC o 12)) (k := 12) (t := 10) (C := R_Ans) (T := F_Ans) (N := 16) hx hb hT hown hK hW fo.1 fo.2 (by decide) in_Ans rfl rfl (by decide) rfl fr_Ans_12 w_3_174 d_Ans_truthsThatCanBe_21 rfl ?_
  refine lv_iload_n hx hb d_Ans_truthsThatCanBe_24 rfl (lv_at hl 0 rfl) ?_
  obtain ⟨hi, hw⟩ := hw
  refine w_iald (o := (stC o 12)) hx hb hK hW (st_ty hNN fo.1 fo.2 rfl).1 (st_ty hNN fo.1 fo.2 rfl).2 hi d_Ans_truthsThatCanBe_25 ?_
  refine lv_topi (fun v44 ev44 => ?_)
  have hw := hw v44 ev44
  refine lv_istore (lv' := [(4, .int v44), (3, .int v43), (2, .int v41), (0, .ref (ad o)), (1, .int l1)]) hx hb d_Ans_truthsThatCanBe_26 hl (by decide) rfl (fun ls hl => ?_)
  refine lv_aload_n hx hb d_Ans_truthsThatCanBe_28 rfl (lv_at hl 3 rfl) ?_
  refine lv_iload_n hx hb d_Ans_truthsThatCanBe_29 rfl (lv_at hl 4 rfl) ?_
  have hF := hW.free hS hA
  refine va_calli (va_runV (C := R_Ans) (As := [.int l1]) (rest := []) ⟨hx, hb, hml, hown, hT⟩ (k_Ans_comparesColumns l dC dI cI cB cJ cZ ad NN E tM tC kK kV hNN H.size o l1 x fo hw) ⟨callB_of 1 hT (gwt_in w_8_42) rfl rfl rfl (hT _ w_1_13) (hT _ w_8_39) (by decide +kernel) ⟨Nat.le_trans (Nat.le_of_ble_eq_true rfl) hRf, Nat.le_trans (Nat.le_of_ble_eq_true rfl) hRl⟩, hT _ w_8_41, hT _ ws_90⟩ ⟨PVc.blind, va_recv hK hW.1 (ci := 10) (q0 := o) rfl (pic_obj fo.1 fo.2 (by decide)), PVc.at _ hW hK hN hE hS hF⟩ rfl rfl hl.1 rfl (lv_room (Nat.le_of_ble_eq_true rfl)) d_Ans_truthsThatCanBe_30 ⟨hRc, hRs⟩) hS (fun q _ h => hF q h) hF (fun r46 x45 t H locs ht hvm hw hB hz1 hk1 hS => ?_)
  have hW := Wd.back hB ht hF
  clear hB ht hF hz1 hk1 hvm
  refine lv_istore (lv' := [(5, .int r46), (4, .int v44), (3, .int v43), (2, .int v41), (0, .ref (ad o)), (1, .int l1)]) hx hb d_Ans_truthsThatCanBe_33 hl (by decide) rfl (fun ls hl => ?_)
  refine lv_iload hx hb d_Ans_truthsThatCanBe_35 (lv_at hl 0 rfl) ?_
  refine lv_if_eq (tgt := 57) hx hb d_Ans_truthsThatCanBe_37 (by decide) (fun c47 => ?_) (fun c47 => ?_)
  · have hw := hw.1 c47
    refine lv_iload hx hb d_Ans_truthsThatCanBe_57 (lv_at hl 1 rfl) ?_
    exact t_Ans_truthsThatCanBe_59 hx hb hml hown hT hK hN hA hRc hRs hRf hRl hNN hE hret  o l1 v41 v43 v44 r46 v44 x45 H locs ls fo hw hW hS (lv_sub hl [4, 5, 3, 2, 1, 0] rfl)
  · have hw := hw.2 c47
    refine lv_aload_n hx hb d_Ans_truthsThatCanBe_40 rfl (lv_at hl 4 rfl) ?_
    refine w_getf (q := (stC o 12)) (k := 12) (t := 10) (C := R_Ans) (T := F_Ans) (N := 16) hx hb hT hown hK hW fo.1 fo.2 (by decide) in_Ans rfl rfl (by decide) rfl fr_Ans_12 w_3_174 d_Ans_truthsThatCanBe_41 rfl ?_
    refine lv_aload_n hx hb d_Ans_truthsThatCanBe_44 rfl (lv_at hl 4 rfl) ?_
    obtain ⟨q48, hq48, hw⟩ := hw
    refine w_getr (q := q48) (k := 15) (t := 10) (C := R_Ans) (T := F_Ans) (N := 16) hx hb hT hown hK hW fo.1 fo.2 (by decide) in_Ans rfl rfl (by decide) rfl fr_Ans_15 w_3_177 d_Ans_truthsThatCanBe_45 hq48 (fun aq48 bq48 => ?_)
    have fq48 : q48 < NN ∧ kcC q48 = 9 := ⟨aq48, bq48⟩
    refine w_getf (q := (stC q48 11)) (k := 11) (t := 9) (C := R_Qry) (T := F_Qry) (N := 20) hx hb hT hown hK hW fq48.1 fq48.2 (by decide) in_Qry rfl rfl (by decide) rfl fr_Qry_11 w_3_96 d_Ans_truthsThatCanBe_48 rfl ?_
    refine lv_iload_n hx hb d_Ans_truthsThatCanBe_51 rfl (lv_at hl 5 rfl) ?_
    obtain ⟨hi, hw⟩ := hw
    refine w_iald (o := (stC q48 11)) hx hb hK hW (st_ty hNN fq48.1 fq48.2 rfl).1 (st_ty hNN fq48.1 fq48.2 rfl).2 hi d_Ans_truthsThatCanBe_52 ?_
    obtain ⟨hi, hw⟩ := hw
    refine w_iald (o := (stC o 12)) hx hb hK hW (st_ty hNN fo.1 fo.2 rfl).1 (st_ty hNN fo.1 fo.2 rfl).2 hi d_Ans_truthsThatCanBe_53 ?_
    refine lv_goto (tgt := 59) hx hb d_Ans_truthsThatCanBe_54 (by decide) ?_
    exact t_Ans_truthsThatCanBe_59 hx hb hml hown hT hK hN hA hRc hRs hRf hRl hNN hE hret  o l1 v41 v43 v44 r46 (rA x45 (stC o 12) (rA x45 (stC q48 11) l1)) x45 H locs ls fo hw hW hS (lv_sub hl [4, 5, 3, 2, 1, 0] rfl)
set_option maxHeartbeats 4000000 in
set_option maxRecDepth 100000 in
theorem k_Ans_truthsThatCanBe (l : Launch) (dC : Nat → ClassId) (dI : Nat → Nat → Nat) (cI cB cJ cZ : ClassId) (ad : Nat → Nat) (NN : Nat) (E : Heap) (tM tC : Nat) (kK kV : Nat → Nat) (hNN : 152 ≤ NN) (sz : Nat) (o : Nat) (l1 : Int32) (x : St) (fo : o < NN ∧ kcC o = 10) {post : Int32 → St → Prop} (hw : wp_Ans_truthsThatCanBe post o l1 x) : Met l y_Ans_truthsThatCanBe (wsOf y_Ans_truthsThatCanBe b_Ans_truthsThatCanBe 15 (some (.int))) ({ frames := 4, cells := 0, slots := 0, locals := 166 }) (va_Pc [.ref (ad o), .int l1] (PVc dC dI cI cB cJ cZ ad stC kcC NN E tM tC kK kV sz x)) (va_Qi (fun (r : Int32) (y : St) => post r y) (fun y t => Wd dC dI cI cB cJ cZ ad stC kcC NN (va_A (pic ad stC kcC NN cI cB cJ cZ x) sz) y t.heap) (va_A (pic ad stC kcC NN cI cB cJ cZ x) sz)) 0 0 (va_A (pic ad stC kcC NN cI cB cJ cZ x) sz) := by
  refine Met.ofW (cc := b_Ans_truthsThatCanBe) (maxL := 15) (ret := some (.int)) (by decide) rfl ?_
  intro p e s m args below meth c s₁ B hml hv
  obtain ⟨rfl, ⟨hsz, hW0, hK, hN⟩, hE⟩ := hv
  have hx := B.exec
  have hb := B.bytes
  have hr := B.returns
  have hts := atoms_spec B.pre
  have hT : ∀ w ∈ TG, w.before _ s = true := fun w h => hts w (List.mem_cons_of_mem _ h)
  have hown : s.vm.findClass R_Ans = some m.cls := findClass_of_methodNamed B.named
  have hlocks := B.notSynchronized
  subst hsz
  have hW : Wd dC dI cI cB cJ cZ ad stC kcC NN (va_A (pic ad stC kcC NN cI cB cJ cZ x) s.heap.size) x s.heap := ⟨hW0.1, hW0.2.1.self (sz := s.heap.size), hW0.2.2⟩
  generalize hAe : va_A (pic ad stC kcC NN cI cB cJ cZ x) s.heap.size = A at hW hE ⊢
  have hA : ∀ q : Nat, s.heap.size ≤ q → A q := fun q h => by rw [← hAe]; exact Or.inr h
  have hS : va_S A s.heap s.heap [] := va_S.rf
  have hl := lv_entry ([.ref (ad o), .int l1]) (n := 15) (Nat.le_of_ble_eq_true rfl)
  rw [lg_entry_eq]
  generalize (lg_sl ([.ref (ad o), .int l1]) ++ List.replicate (15 - (lg_sl ([.ref (ad o), .int l1])).length) Slot.unset).toArray = ls at hl ⊢
  have hl : lv_has ls 15 [(0, .ref (ad o)), (1, .int l1)] := hl
  exact t_Ans_truthsThatCanBe_e hx hb hml hown hT hK hN hA (Nat.le_refl 0) (Nat.le_refl 0) (Nat.le_refl 4) (Nat.le_refl 166) hNN hE (fun r x H locs pc ls hd hp hW hS => W.iret (v := r) hx hb hr (fun t ht hM => ⟨⟨r, x, rfl, hp, Wd.back hW ht.symm (fun _ z => z)⟩, hS.F ht⟩) hS.2.2 hd hlocks)  o l1 x _ _ ls fo hw hW hS hl
end
