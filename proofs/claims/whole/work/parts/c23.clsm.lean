theorem fr_Qry_10 : F_Qry 10 = (R_Qry, "stepColumn", "[I", true) := rfl
theorem fr_Qry_11 : F_Qry 11 = (R_Qry, "stepOther", "[I", true) := rfl
theorem fr_Qry_12 : F_Qry 12 = (R_Qry, "stepLiterals", "[I", true) := rfl
theorem fr_Qry_13 : F_Qry 13 = (R_Qry, "literals", "I", false) := rfl
theorem fr_Qry_14 : F_Qry 14 = (R_Qry, "literal", "[J", true) := rfl
theorem fr_Qry_15 : F_Qry 15 = (R_Qry, "textEnd", "I", false) := rfl
theorem fr_Qry_16 : F_Qry 16 = (R_Qry, "texts", "[B", true) := rfl
theorem fr_Qry_4 : F_Qry 4 = (R_Qry, "itemAt", "[I", true) := rfl
theorem fr_Qry_8 : F_Qry 8 = (R_Qry, "steps", "I", false) := rfl
theorem fr_Qry_9 : F_Qry 9 = (R_Qry, "stepForm", "[I", true) := rfl
theorem w_1_103 : (Jvm.Cond.fieldLink "StripedVault$Query" (265 : Nat) "StripedVault$Scan" "number" "J") ∈ TG := tw_1 103 (by decide +kernel) (by decide +kernel)
theorem w_1_106 : (Jvm.Cond.fieldLink "StripedVault$Query" (251 : Nat) "StripedVault$Scan" "textSize" "I") ∈ TG := tw_1 106 (by decide +kernel) (by decide +kernel)
theorem w_3_100 : (Jvm.Cond.fieldLink "StripedVault$Query" (36 : Nat) "StripedVault$Query" "literal" "[J") ∈ TG := tw_3 100 (by decide +kernel) (by decide +kernel)
theorem w_3_102 : (Jvm.Cond.fieldLink "StripedVault$Query" (72 : Nat) "StripedVault$Query" "textEnd" "I") ∈ TG := tw_3 102 (by decide +kernel) (by decide +kernel)
theorem w_3_103 : (Jvm.Cond.fieldLink "StripedVault$Query" (40 : Nat) "StripedVault$Query" "texts" "[B") ∈ TG := tw_3 103 (by decide +kernel) (by decide +kernel)
theorem w_3_82 : (Jvm.Cond.fieldLink "StripedVault$Query" (18 : Nat) "StripedVault$Query" "itemAt" "[I") ∈ TG := tw_3 82 (by decide +kernel) (by decide +kernel)
theorem w_3_89 : (Jvm.Cond.fieldLink "StripedVault$Query" (66 : Nat) "StripedVault$Query" "steps" "I") ∈ TG := tw_3 89 (by decide +kernel) (by decide +kernel)
theorem w_3_91 : (Jvm.Cond.fieldLink "StripedVault$Query" (24 : Nat) "StripedVault$Query" "stepForm" "[I") ∈ TG := tw_3 91 (by decide +kernel) (by decide +kernel)
theorem w_3_93 : (Jvm.Cond.fieldLink "StripedVault$Query" (27 : Nat) "StripedVault$Query" "stepColumn" "[I") ∈ TG := tw_3 93 (by decide +kernel) (by decide +kernel)
theorem w_3_95 : (Jvm.Cond.fieldLink "StripedVault$Query" (30 : Nat) "StripedVault$Query" "stepOther" "[I") ∈ TG := tw_3 95 (by decide +kernel) (by decide +kernel)
theorem w_3_97 : (Jvm.Cond.fieldLink "StripedVault$Query" (33 : Nat) "StripedVault$Query" "stepLiterals" "[I") ∈ TG := tw_3 97 (by decide +kernel) (by decide +kernel)
theorem w_3_99 : (Jvm.Cond.fieldLink "StripedVault$Query" (69 : Nat) "StripedVault$Query" "literals" "I") ∈ TG := tw_3 99 (by decide +kernel) (by decide +kernel)
theorem w_7_150 : (Jvm.Cond.methodLink "StripedVault$Query" (126 : Nat) ({ cls := "StripedVault$Query", name := "readItem", desc := "()V" } : Jvm.MethodName)) ∈ TG := tw_7 150 (by decide +kernel) (by decide +kernel)
theorem w_7_152 : (Jvm.Cond.instanceMethod ({ cls := "StripedVault$Query", name := "readItem", desc := "()V" } : Jvm.MethodName)) ∈ TG := tw_7 152 (by decide +kernel) (by decide +kernel)
theorem w_7_153 : (Jvm.Cond.code ({ cls := "StripedVault$Query", name := "readItem", desc := "()V" } : Jvm.MethodName) prog_5_method_6_code (3 : Nat) (Option.none : Option Jvm.ClassFile.FieldType)) ∈ TG := tw_7 153 (by decide +kernel) (by decide +kernel)
theorem w_7_199 : (Jvm.Cond.methodLink "StripedVault$Query" (129 : Nat) ({ cls := "StripedVault$Scan", name := "takeSign", desc := "(C)Z" } : Jvm.MethodName)) ∈ TG := tw_7 199 (by decide +kernel) (by decide +kernel)
theorem w_7_220 : (Jvm.Cond.methodLink "StripedVault$Query" (235 : Nat) ({ cls := "StripedVault$Query", name := "readLiteral", desc := "(I)V" } : Jvm.MethodName)) ∈ TG := tw_7 220 (by decide +kernel) (by decide +kernel)
theorem w_7_222 : (Jvm.Cond.instanceMethod ({ cls := "StripedVault$Query", name := "readLiteral", desc := "(I)V" } : Jvm.MethodName)) ∈ TG := tw_7 222 (by decide +kernel) (by decide +kernel)
theorem w_7_223 : (Jvm.Cond.code ({ cls := "StripedVault$Query", name := "readLiteral", desc := "(I)V" } : Jvm.MethodName) prog_5_method_22_code (7 : Nat) (Option.none : Option Jvm.ClassFile.FieldType)) ∈ TG := tw_7 223 (by decide +kernel) (by decide +kernel)
theorem w_7_224 : (Jvm.Cond.methodLink "StripedVault$Query" (247 : Nat) ({ cls := "StripedVault$Scan", name := "readQuoted", desc := "([BI)V" } : Jvm.MethodName)) ∈ TG := tw_7 224 (by decide +kernel) (by decide +kernel)
theorem w_7_226 : (Jvm.Cond.methodLink "StripedVault$Query" (258 : Nat) ({ cls := "StripedVault$Scan", name := "atNumber", desc := "()Z" } : Jvm.MethodName)) ∈ TG := tw_7 226 (by decide +kernel) (by decide +kernel)
theorem w_7_227 : (Jvm.Cond.methodLink "StripedVault$Query" (261 : Nat) ({ cls := "StripedVault$Scan", name := "readNumber", desc := "(Z)V" } : Jvm.MethodName)) ∈ TG := tw_7 227 (by decide +kernel) (by decide +kernel)
theorem wn_7_225 : (Jvm.Cond.methodLinkNest "StripedVault$Query" (254 : Nat) ({ cls := "StripedVault", name := "reference", desc := "(II)J" } : Jvm.MethodName) "StripedVault") ∈ lw_tbl := tb_7 _ (List.mem_of_getElem? (i := 225) (by decide +kernel))
theorem ws_69 : Cond.selects R_Qry y_Qry_readItem y_Qry_readItem ∈ TG := tw_s 69 (by decide +kernel) (by decide +kernel)
theorem ws_79 : Cond.selects R_Qry y_Qry_readLiteral y_Qry_readLiteral ∈ TG := tw_s 79 (by decide +kernel) (by decide +kernel)
theorem d_Qry_readItems_109 : decode b_Qry_readItems 109 = .ok (.istore_n 1, 1) := by decide +kernel
theorem d_Qry_readItems_110 : decode b_Qry_readItems 110 = .ok (.iinc 2 1, 3) := by decide +kernel
theorem d_Qry_readItems_113 : decode b_Qry_readItems 113 = .ok (.goto (-103), 3) := by decide +kernel
theorem d_Qry_readItems_108 : decode b_Qry_readItems 108 = .ok (.iconst 0, 1) := by decide +kernel
theorem d_Qry_readItems_10 : decode b_Qry_readItems 10 = .ok (.iload_n 2, 1) := by decide +kernel
theorem d_Qry_readItems_11 : decode b_Qry_readItems 11 = .ok (.bipush 16, 2) := by decide +kernel
theorem d_Qry_readItems_13 : decode b_Qry_readItems 13 = .ok (.if_icmp .gt 103, 3) := by decide +kernel
theorem d_Qry_readItems_116 : decode b_Qry_readItems 116 = .ok (.return_, 1) := by decide +kernel
theorem d_Qry_readItems_16 : decode b_Qry_readItems 16 = .ok (.iload_n 1, 1) := by decide +kernel
theorem d_Qry_readItems_17 : decode b_Qry_readItems 17 = .ok (.ifCond .eq 99, 3) := by decide +kernel
theorem d_Qry_readItems_20 : decode b_Qry_readItems 20 = .ok (.aload_n 0, 1) := by decide +kernel
theorem d_Qry_readItems_21 : decode b_Qry_readItems 21 = .ok (.getfield 44, 3) := by decide +kernel
theorem d_Qry_readItems_24 : decode b_Qry_readItems 24 = .ok (.invokevirtual 106, 3) := by decide +kernel
theorem d_Qry_readItems_27 : decode b_Qry_readItems 27 = .ok (.pop, 1) := by decide +kernel
theorem d_Qry_readItems_28 : decode b_Qry_readItems 28 = .ok (.aload_n 0, 1) := by decide +kernel
theorem d_Qry_readItems_29 : decode b_Qry_readItems 29 = .ok (.getfield 56, 3) := by decide +kernel
theorem d_Qry_readItems_32 : decode b_Qry_readItems 32 = .ok (.bipush 16, 2) := by decide +kernel
theorem d_Qry_readItems_34 : decode b_Qry_readItems 34 = .ok (.if_icmp .lt 18, 3) := by decide +kernel
theorem d_Qry_readItems_52 : decode b_Qry_readItems 52 = .ok (.aload_n 0, 1) := by decide +kernel
theorem d_Qry_readItems_53 : decode b_Qry_readItems 53 = .ok (.getfield 18, 3) := by decide +kernel
theorem d_Qry_readItems_56 : decode b_Qry_readItems 56 = .ok (.aload_n 0, 1) := by decide +kernel
theorem d_Qry_readItems_57 : decode b_Qry_readItems 57 = .ok (.getfield 56, 3) := by decide +kernel
theorem d_Qry_readItems_60 : decode b_Qry_readItems 60 = .ok (.aload_n 0, 1) := by decide +kernel
theorem d_Qry_readItems_61 : decode b_Qry_readItems 61 = .ok (.getfield 44, 3) := by decide +kernel
theorem d_Qry_readItems_64 : decode b_Qry_readItems 64 = .ok (.getfield 110, 3) := by decide +kernel
theorem d_Qry_readItems_67 : decode b_Qry_readItems 67 = .ok (.iastore, 1) := by decide +kernel
theorem d_Qry_readItems_68 : decode b_Qry_readItems 68 = .ok (.aload_n 0, 1) := by decide +kernel
theorem d_Qry_readItems_69 : decode b_Qry_readItems 69 = .ok (.invokevirtual 126, 3) := by decide +kernel
theorem d_Qry_readItems_72 : decode b_Qry_readItems 72 = .ok (.aload_n 0, 1) := by decide +kernel
theorem d_Qry_readItems_73 : decode b_Qry_readItems 73 = .ok (.dup, 1) := by decide +kernel
theorem d_Qry_readItems_74 : decode b_Qry_readItems 74 = .ok (.getfield 56, 3) := by decide +kernel
theorem d_Qry_readItems_77 : decode b_Qry_readItems 77 = .ok (.iconst 1, 1) := by decide +kernel
theorem d_Qry_readItems_78 : decode b_Qry_readItems 78 = .ok (.iadd, 1) := by decide +kernel
theorem d_Qry_readItems_79 : decode b_Qry_readItems 79 = .ok (.putfield 56, 3) := by decide +kernel
theorem d_Qry_readItems_82 : decode b_Qry_readItems 82 = .ok (.aload_n 0, 1) := by decide +kernel
theorem d_Qry_readItems_83 : decode b_Qry_readItems 83 = .ok (.getfield 44, 3) := by decide +kernel
theorem d_Qry_readItems_86 : decode b_Qry_readItems 86 = .ok (.invokevirtual 86, 3) := by decide +kernel
theorem d_Qry_readItems_89 : decode b_Qry_readItems 89 = .ok (.ifCond .eq 19, 3) := by decide +kernel
theorem d_Qry_readItems_92 : decode b_Qry_readItems 92 = .ok (.aload_n 0, 1) := by decide +kernel
theorem d_Qry_readItems_93 : decode b_Qry_readItems 93 = .ok (.getfield 44, 3) := by decide +kernel
theorem d_Qry_readItems_96 : decode b_Qry_readItems 96 = .ok (.bipush 44, 2) := by decide +kernel
theorem d_Qry_readItems_98 : decode b_Qry_readItems 98 = .ok (.invokevirtual 129, 3) := by decide +kernel
theorem d_Qry_readItems_101 : decode b_Qry_readItems 101 = .ok (.ifCond .eq 7, 3) := by decide +kernel
theorem d_Qry_readItems_104 : decode b_Qry_readItems 104 = .ok (.iconst 1, 1) := by decide +kernel
theorem d_Qry_readItems_105 : decode b_Qry_readItems 105 = .ok (.goto 4, 3) := by decide +kernel
theorem d_Qry_readItems_37 : decode b_Qry_readItems 37 = .ok (.aload_n 0, 1) := by decide +kernel
theorem d_Qry_readItems_38 : decode b_Qry_readItems 38 = .ok (.getfield 44, 3) := by decide +kernel
theorem d_Qry_readItems_41 : decode b_Qry_readItems 41 = .ok (.aload_n 0, 1) := by decide +kernel
theorem d_Qry_readItems_42 : decode b_Qry_readItems 42 = .ok (.getfield 44, 3) := by decide +kernel
theorem d_Qry_readItems_45 : decode b_Qry_readItems 45 = .ok (.getfield 110, 3) := by decide +kernel
theorem d_Qry_readItems_48 : decode b_Qry_readItems 48 = .ok (.invokevirtual 113, 3) := by decide +kernel
theorem d_Qry_readItems_51 : decode b_Qry_readItems 51 = .ok (.return_, 1) := by decide +kernel
theorem d_Qry_readItems_0 : decode b_Qry_readItems 0 = .ok (.aload_n 0, 1) := by decide +kernel
theorem d_Qry_readItems_1 : decode b_Qry_readItems 1 = .ok (.getfield 44, 3) := by decide +kernel
theorem d_Qry_readItems_4 : decode b_Qry_readItems 4 = .ok (.invokevirtual 86, 3) := by decide +kernel
theorem d_Qry_readItems_7 : decode b_Qry_readItems 7 = .ok (.istore_n 1, 1) := by decide +kernel
theorem d_Qry_readItems_8 : decode b_Qry_readItems 8 = .ok (.iconst 0, 1) := by decide +kernel
theorem d_Qry_readItems_9 : decode b_Qry_readItems 9 = .ok (.istore_n 2, 1) := by decide +kernel
theorem d_Qry_addStep_0 : decode b_Qry_addStep 0 = .ok (.aload_n 0, 1) := by decide +kernel
theorem d_Qry_addStep_1 : decode b_Qry_addStep 1 = .ok (.getfield 44, 3) := by decide +kernel
theorem d_Qry_addStep_4 : decode b_Qry_addStep 4 = .ok (.invokevirtual 86, 3) := by decide +kernel
theorem d_Qry_addStep_7 : decode b_Qry_addStep 7 = .ok (.ifCond .ne 4, 3) := by decide +kernel
theorem d_Qry_addStep_11 : decode b_Qry_addStep 11 = .ok (.aload_n 0, 1) := by decide +kernel
theorem d_Qry_addStep_12 : decode b_Qry_addStep 12 = .ok (.getfield 66, 3) := by decide +kernel
theorem d_Qry_addStep_15 : decode b_Qry_addStep 15 = .ok (.bipush 64, 2) := by decide +kernel
theorem d_Qry_addStep_17 : decode b_Qry_addStep 17 = .ok (.if_icmp .lt 12, 3) := by decide +kernel
theorem d_Qry_addStep_29 : decode b_Qry_addStep 29 = .ok (.aload_n 0, 1) := by decide +kernel
theorem d_Qry_addStep_30 : decode b_Qry_addStep 30 = .ok (.getfield 24, 3) := by decide +kernel
theorem d_Qry_addStep_33 : decode b_Qry_addStep 33 = .ok (.aload_n 0, 1) := by decide +kernel
theorem d_Qry_addStep_34 : decode b_Qry_addStep 34 = .ok (.getfield 66, 3) := by decide +kernel
theorem d_Qry_addStep_37 : decode b_Qry_addStep 37 = .ok (.iload_n 1, 1) := by decide +kernel
theorem d_Qry_addStep_38 : decode b_Qry_addStep 38 = .ok (.iastore, 1) := by decide +kernel
theorem d_Qry_addStep_39 : decode b_Qry_addStep 39 = .ok (.aload_n 0, 1) := by decide +kernel
theorem d_Qry_addStep_40 : decode b_Qry_addStep 40 = .ok (.getfield 27, 3) := by decide +kernel
theorem d_Qry_addStep_43 : decode b_Qry_addStep 43 = .ok (.aload_n 0, 1) := by decide +kernel
theorem d_Qry_addStep_44 : decode b_Qry_addStep 44 = .ok (.getfield 66, 3) := by decide +kernel
theorem d_Qry_addStep_47 : decode b_Qry_addStep 47 = .ok (.iload_n 3, 1) := by decide +kernel
theorem d_Qry_addStep_48 : decode b_Qry_addStep 48 = .ok (.iastore, 1) := by decide +kernel
theorem d_Qry_addStep_49 : decode b_Qry_addStep 49 = .ok (.aload_n 0, 1) := by decide +kernel
theorem d_Qry_addStep_50 : decode b_Qry_addStep 50 = .ok (.getfield 30, 3) := by decide +kernel
theorem d_Qry_addStep_53 : decode b_Qry_addStep 53 = .ok (.aload_n 0, 1) := by decide +kernel
theorem d_Qry_addStep_54 : decode b_Qry_addStep 54 = .ok (.getfield 66, 3) := by decide +kernel
theorem d_Qry_addStep_57 : decode b_Qry_addStep 57 = .ok (.iload 4, 2) := by decide +kernel
theorem d_Qry_addStep_59 : decode b_Qry_addStep 59 = .ok (.iastore, 1) := by decide +kernel
theorem d_Qry_addStep_60 : decode b_Qry_addStep 60 = .ok (.aload_n 0, 1) := by decide +kernel
theorem d_Qry_addStep_61 : decode b_Qry_addStep 61 = .ok (.getfield 33, 3) := by decide +kernel
theorem d_Qry_addStep_64 : decode b_Qry_addStep 64 = .ok (.aload_n 0, 1) := by decide +kernel
theorem d_Qry_addStep_65 : decode b_Qry_addStep 65 = .ok (.getfield 66, 3) := by decide +kernel
theorem d_Qry_addStep_68 : decode b_Qry_addStep 68 = .ok (.iload 5, 2) := by decide +kernel
theorem d_Qry_addStep_70 : decode b_Qry_addStep 70 = .ok (.iastore, 1) := by decide +kernel
theorem d_Qry_addStep_71 : decode b_Qry_addStep 71 = .ok (.aload_n 0, 1) := by decide +kernel
theorem d_Qry_addStep_72 : decode b_Qry_addStep 72 = .ok (.dup, 1) := by decide +kernel
theorem d_Qry_addStep_73 : decode b_Qry_addStep 73 = .ok (.getfield 66, 3) := by decide +kernel
theorem d_Qry_addStep_76 : decode b_Qry_addStep 76 = .ok (.iconst 1, 1) := by decide +kernel
theorem d_Qry_addStep_77 : decode b_Qry_addStep 77 = .ok (.iadd, 1) := by decide +kernel
theorem d_Qry_addStep_78 : decode b_Qry_addStep 78 = .ok (.putfield 66, 3) := by decide +kernel
theorem d_Qry_addStep_81 : decode b_Qry_addStep 81 = .ok (.return_, 1) := by decide +kernel
theorem d_Qry_addStep_20 : decode b_Qry_addStep 20 = .ok (.aload_n 0, 1) := by decide +kernel
theorem d_Qry_addStep_21 : decode b_Qry_addStep 21 = .ok (.getfield 44, 3) := by decide +kernel
theorem d_Qry_addStep_24 : decode b_Qry_addStep 24 = .ok (.iload_n 2, 1) := by decide +kernel
theorem d_Qry_addStep_25 : decode b_Qry_addStep 25 = .ok (.invokevirtual 113, 3) := by decide +kernel
theorem d_Qry_addStep_28 : decode b_Qry_addStep 28 = .ok (.return_, 1) := by decide +kernel
theorem d_Qry_addStep_10 : decode b_Qry_addStep 10 = .ok (.return_, 1) := by decide +kernel
theorem d_Qry_readLiteral_202 : decode b_Qry_readLiteral 202 = .ok (.aload_n 0, 1) := by decide +kernel
theorem d_Qry_readLiteral_203 : decode b_Qry_readLiteral 203 = .ok (.getfield 44, 3) := by decide +kernel
theorem d_Qry_readLiteral_206 : decode b_Qry_readLiteral 206 = .ok (.invokevirtual 86, 3) := by decide +kernel
theorem d_Qry_readLiteral_209 : decode b_Qry_readLiteral 209 = .ok (.ifCond .eq 24, 3) := by decide +kernel
theorem d_Qry_readLiteral_233 : decode b_Qry_readLiteral 233 = .ok (.return_, 1) := by decide +kernel
theorem d_Qry_readLiteral_212 : decode b_Qry_readLiteral 212 = .ok (.aload_n 0, 1) := by decide +kernel
theorem d_Qry_readLiteral_213 : decode b_Qry_readLiteral 213 = .ok (.getfield 36, 3) := by decide +kernel
theorem d_Qry_readLiteral_216 : decode b_Qry_readLiteral 216 = .ok (.aload_n 0, 1) := by decide +kernel
theorem d_Qry_readLiteral_217 : decode b_Qry_readLiteral 217 = .ok (.getfield 69, 3) := by decide +kernel
theorem d_Qry_readLiteral_220 : decode b_Qry_readLiteral 220 = .ok (.lload 5, 2) := by decide +kernel
theorem d_Qry_readLiteral_222 : decode b_Qry_readLiteral 222 = .ok (.lastore, 1) := by decide +kernel
theorem d_Qry_readLiteral_223 : decode b_Qry_readLiteral 223 = .ok (.aload_n 0, 1) := by decide +kernel
theorem d_Qry_readLiteral_224 : decode b_Qry_readLiteral 224 = .ok (.dup, 1) := by decide +kernel
theorem d_Qry_readLiteral_225 : decode b_Qry_readLiteral 225 = .ok (.getfield 69, 3) := by decide +kernel
theorem d_Qry_readLiteral_228 : decode b_Qry_readLiteral 228 = .ok (.iconst 1, 1) := by decide +kernel
theorem d_Qry_readLiteral_229 : decode b_Qry_readLiteral 229 = .ok (.iadd, 1) := by decide +kernel
theorem d_Qry_readLiteral_230 : decode b_Qry_readLiteral 230 = .ok (.putfield 69, 3) := by decide +kernel
theorem d_Qry_readLiteral_194 : decode b_Qry_readLiteral 194 = .ok (.aload_n 0, 1) := by decide +kernel
theorem d_Qry_readLiteral_195 : decode b_Qry_readLiteral 195 = .ok (.getfield 44, 3) := by decide +kernel
theorem d_Qry_readLiteral_198 : decode b_Qry_readLiteral 198 = .ok (.iload_n 3, 1) := by decide +kernel
theorem d_Qry_readLiteral_199 : decode b_Qry_readLiteral 199 = .ok (.invokevirtual 113, 3) := by decide +kernel
theorem d_Qry_readLiteral_180 : decode b_Qry_readLiteral 180 = .ok (.iload 4, 2) := by decide +kernel
theorem d_Qry_readLiteral_182 : decode b_Qry_readLiteral 182 = .ok (.ifCond .eq 12, 3) := by decide +kernel
theorem d_Qry_readLiteral_185 : decode b_Qry_readLiteral 185 = .ok (.aload_n 0, 1) := by decide +kernel
theorem d_Qry_readLiteral_186 : decode b_Qry_readLiteral 186 = .ok (.getfield 69, 3) := by decide +kernel
theorem d_Qry_readLiteral_189 : decode b_Qry_readLiteral 189 = .ok (.bipush 64, 2) := by decide +kernel
theorem d_Qry_readLiteral_191 : decode b_Qry_readLiteral 191 = .ok (.if_icmp .lt 11, 3) := by decide +kernel
theorem d_Qry_readLiteral_178 : decode b_Qry_readLiteral 178 = .ok (.istore 4, 2) := by decide +kernel
theorem d_Qry_readLiteral_169 : decode b_Qry_readLiteral 169 = .ok (.iload_n 1, 1) := by decide +kernel
theorem d_Qry_readLiteral_170 : decode b_Qry_readLiteral 170 = .ok (.ifCond .ne 7, 3) := by decide +kernel
theorem d_Qry_readLiteral_177 : decode b_Qry_readLiteral 177 = .ok (.iconst 0, 1) := by decide +kernel
theorem d_Qry_readLiteral_173 : decode b_Qry_readLiteral 173 = .ok (.iconst 1, 1) := by decide +kernel
theorem d_Qry_readLiteral_174 : decode b_Qry_readLiteral 174 = .ok (.goto 4, 3) := by decide +kernel
theorem d_Qry_readLiteral_140 : decode b_Qry_readLiteral 140 = .ok (.lstore 5, 2) := by decide +kernel
theorem d_Qry_readLiteral_142 : decode b_Qry_readLiteral 142 = .ok (.lload 5, 2) := by decide +kernel
theorem d_Qry_readLiteral_144 : decode b_Qry_readLiteral 144 = .ok (.lconst 0, 1) := by decide +kernel
theorem d_Qry_readLiteral_145 : decode b_Qry_readLiteral 145 = .ok (.lcmp, 1) := by decide +kernel
theorem d_Qry_readLiteral_146 : decode b_Qry_readLiteral 146 = .ok (.ifCond .ne 23, 3) := by decide +kernel
theorem d_Qry_readLiteral_149 : decode b_Qry_readLiteral 149 = .ok (.aload_n 0, 1) := by decide +kernel
theorem d_Qry_readLiteral_150 : decode b_Qry_readLiteral 150 = .ok (.getfield 44, 3) := by decide +kernel
theorem d_Qry_readLiteral_153 : decode b_Qry_readLiteral 153 = .ok (.ldc 210, 2) := by decide +kernel
theorem d_Qry_readLiteral_155 : decode b_Qry_readLiteral 155 = .ok (.invokevirtual 92, 3) := by decide +kernel
theorem d_Qry_readLiteral_158 : decode b_Qry_readLiteral 158 = .ok (.ifCond .ne 11, 3) := by decide +kernel
theorem d_Qry_readLiteral_161 : decode b_Qry_readLiteral 161 = .ok (.aload_n 0, 1) := by decide +kernel
theorem d_Qry_readLiteral_162 : decode b_Qry_readLiteral 162 = .ok (.getfield 44, 3) := by decide +kernel
theorem d_Qry_readLiteral_165 : decode b_Qry_readLiteral 165 = .ok (.iload_n 3, 1) := by decide +kernel
theorem d_Qry_readLiteral_166 : decode b_Qry_readLiteral 166 = .ok (.invokevirtual 113, 3) := by decide +kernel
theorem d_Qry_readLiteral_82 : decode b_Qry_readLiteral 82 = .ok (.istore 4, 2) := by decide +kernel
theorem d_Qry_readLiteral_84 : decode b_Qry_readLiteral 84 = .ok (.goto 96, 3) := by decide +kernel
theorem d_Qry_readLiteral_0 : decode b_Qry_readLiteral 0 = .ok (.aload_n 0, 1) := by decide +kernel
theorem d_Qry_readLiteral_1 : decode b_Qry_readLiteral 1 = .ok (.getfield 44, 3) := by decide +kernel
theorem d_Qry_readLiteral_4 : decode b_Qry_readLiteral 4 = .ok (.invokevirtual 106, 3) := by decide +kernel
theorem d_Qry_readLiteral_7 : decode b_Qry_readLiteral 7 = .ok (.istore_n 2, 1) := by decide +kernel
theorem d_Qry_readLiteral_8 : decode b_Qry_readLiteral 8 = .ok (.aload_n 0, 1) := by decide +kernel
theorem d_Qry_readLiteral_9 : decode b_Qry_readLiteral 9 = .ok (.getfield 44, 3) := by decide +kernel
theorem d_Qry_readLiteral_12 : decode b_Qry_readLiteral 12 = .ok (.getfield 110, 3) := by decide +kernel
theorem d_Qry_readLiteral_15 : decode b_Qry_readLiteral 15 = .ok (.istore_n 3, 1) := by decide +kernel
theorem d_Qry_readLiteral_16 : decode b_Qry_readLiteral 16 = .ok (.lconst 0, 1) := by decide +kernel
theorem d_Qry_readLiteral_17 : decode b_Qry_readLiteral 17 = .ok (.lstore 5, 2) := by decide +kernel
theorem d_Qry_readLiteral_19 : decode b_Qry_readLiteral 19 = .ok (.iload_n 2, 1) := by decide +kernel
theorem d_Qry_readLiteral_20 : decode b_Qry_readLiteral 20 = .ok (.bipush 39, 2) := by decide +kernel
theorem d_Qry_readLiteral_22 : decode b_Qry_readLiteral 22 = .ok (.if_icmp .ne 65, 3) := by decide +kernel
theorem d_Qry_readLiteral_87 : decode b_Qry_readLiteral 87 = .ok (.aload_n 0, 1) := by decide +kernel
theorem d_Qry_readLiteral_88 : decode b_Qry_readLiteral 88 = .ok (.getfield 44, 3) := by decide +kernel
theorem d_Qry_readLiteral_91 : decode b_Qry_readLiteral 91 = .ok (.invokevirtual 258, 3) := by decide +kernel
theorem d_Qry_readLiteral_94 : decode b_Qry_readLiteral 94 = .ok (.ifCond .eq 29, 3) := by decide +kernel
theorem d_Qry_readLiteral_123 : decode b_Qry_readLiteral 123 = .ok (.aload_n 0, 1) := by decide +kernel
theorem d_Qry_readLiteral_124 : decode b_Qry_readLiteral 124 = .ok (.getfield 44, 3) := by decide +kernel
theorem d_Qry_readLiteral_127 : decode b_Qry_readLiteral 127 = .ok (.ldc 208, 2) := by decide +kernel
theorem d_Qry_readLiteral_129 : decode b_Qry_readLiteral 129 = .ok (.invokevirtual 92, 3) := by decide +kernel
theorem d_Qry_readLiteral_132 : decode b_Qry_readLiteral 132 = .ok (.ifCond .eq 7, 3) := by decide +kernel
theorem d_Qry_readLiteral_139 : decode b_Qry_readLiteral 139 = .ok (.lconst 0, 1) := by decide +kernel
theorem d_Qry_readLiteral_135 : decode b_Qry_readLiteral 135 = .ok (.lconst 1, 1) := by decide +kernel
theorem d_Qry_readLiteral_136 : decode b_Qry_readLiteral 136 = .ok (.goto 4, 3) := by decide +kernel
theorem d_Qry_readLiteral_97 : decode b_Qry_readLiteral 97 = .ok (.aload_n 0, 1) := by decide +kernel
theorem d_Qry_readLiteral_98 : decode b_Qry_readLiteral 98 = .ok (.getfield 44, 3) := by decide +kernel
theorem d_Qry_readLiteral_101 : decode b_Qry_readLiteral 101 = .ok (.iconst 1, 1) := by decide +kernel
theorem d_Qry_readLiteral_102 : decode b_Qry_readLiteral 102 = .ok (.invokevirtual 261, 3) := by decide +kernel
theorem d_Qry_readLiteral_105 : decode b_Qry_readLiteral 105 = .ok (.aload_n 0, 1) := by decide +kernel
theorem d_Qry_readLiteral_106 : decode b_Qry_readLiteral 106 = .ok (.getfield 44, 3) := by decide +kernel
theorem d_Qry_readLiteral_109 : decode b_Qry_readLiteral 109 = .ok (.getfield 265, 3) := by decide +kernel
theorem d_Qry_readLiteral_112 : decode b_Qry_readLiteral 112 = .ok (.lstore 5, 2) := by decide +kernel
theorem d_Qry_readLiteral_114 : decode b_Qry_readLiteral 114 = .ok (.iload_n 1, 1) := by decide +kernel
theorem d_Qry_readLiteral_115 : decode b_Qry_readLiteral 115 = .ok (.invokestatic 151, 3) := by decide +kernel
theorem d_Qry_readLiteral_118 : decode b_Qry_readLiteral 118 = .ok (.istore 4, 2) := by decide +kernel
theorem d_Qry_readLiteral_120 : decode b_Qry_readLiteral 120 = .ok (.goto 60, 3) := by decide +kernel
theorem d_Qry_readLiteral_25 : decode b_Qry_readLiteral 25 = .ok (.aload_n 0, 1) := by decide +kernel
theorem d_Qry_readLiteral_26 : decode b_Qry_readLiteral 26 = .ok (.getfield 44, 3) := by decide +kernel
theorem d_Qry_readLiteral_29 : decode b_Qry_readLiteral 29 = .ok (.aload_n 0, 1) := by decide +kernel
theorem d_Qry_readLiteral_30 : decode b_Qry_readLiteral 30 = .ok (.getfield 40, 3) := by decide +kernel
theorem d_Qry_readLiteral_33 : decode b_Qry_readLiteral 33 = .ok (.aload_n 0, 1) := by decide +kernel
theorem d_Qry_readLiteral_34 : decode b_Qry_readLiteral 34 = .ok (.getfield 72, 3) := by decide +kernel
theorem d_Qry_readLiteral_37 : decode b_Qry_readLiteral 37 = .ok (.invokevirtual 247, 3) := by decide +kernel
theorem d_Qry_readLiteral_40 : decode b_Qry_readLiteral 40 = .ok (.aload_n 0, 1) := by decide +kernel
theorem d_Qry_readLiteral_41 : decode b_Qry_readLiteral 41 = .ok (.getfield 72, 3) := by decide +kernel
theorem d_Qry_readLiteral_44 : decode b_Qry_readLiteral 44 = .ok (.aload_n 0, 1) := by decide +kernel
theorem d_Qry_readLiteral_45 : decode b_Qry_readLiteral 45 = .ok (.getfield 44, 3) := by decide +kernel
theorem d_Qry_readLiteral_48 : decode b_Qry_readLiteral 48 = .ok (.getfield 251, 3) := by decide +kernel
theorem d_Qry_readLiteral_51 : decode b_Qry_readLiteral 51 = .ok (.invokestatic 254, 3) := by decide +kernel
theorem d_Qry_readLiteral_54 : decode b_Qry_readLiteral 54 = .ok (.lstore 5, 2) := by decide +kernel
theorem d_Qry_readLiteral_56 : decode b_Qry_readLiteral 56 = .ok (.aload_n 0, 1) := by decide +kernel
theorem d_Qry_readLiteral_57 : decode b_Qry_readLiteral 57 = .ok (.dup, 1) := by decide +kernel
theorem d_Qry_readLiteral_58 : decode b_Qry_readLiteral 58 = .ok (.getfield 72, 3) := by decide +kernel
theorem d_Qry_readLiteral_61 : decode b_Qry_readLiteral 61 = .ok (.aload_n 0, 1) := by decide +kernel
theorem d_Qry_readLiteral_62 : decode b_Qry_readLiteral 62 = .ok (.getfield 44, 3) := by decide +kernel
theorem d_Qry_readLiteral_65 : decode b_Qry_readLiteral 65 = .ok (.getfield 251, 3) := by decide +kernel
theorem d_Qry_readLiteral_68 : decode b_Qry_readLiteral 68 = .ok (.iadd, 1) := by decide +kernel
theorem d_Qry_readLiteral_69 : decode b_Qry_readLiteral 69 = .ok (.putfield 72, 3) := by decide +kernel
theorem d_Qry_readLiteral_72 : decode b_Qry_readLiteral 72 = .ok (.iload_n 1, 1) := by decide +kernel
theorem d_Qry_readLiteral_73 : decode b_Qry_readLiteral 73 = .ok (.iconst 3, 1) := by decide +kernel
theorem d_Qry_readLiteral_74 : decode b_Qry_readLiteral 74 = .ok (.if_icmp .ne 7, 3) := by decide +kernel
theorem d_Qry_readLiteral_81 : decode b_Qry_readLiteral 81 = .ok (.iconst 0, 1) := by decide +kernel
theorem d_Qry_readLiteral_77 : decode b_Qry_readLiteral 77 = .ok (.iconst 1, 1) := by decide +kernel
theorem d_Qry_readLiteral_78 : decode b_Qry_readLiteral 78 = .ok (.goto 4, 3) := by decide +kernel
theorem d_Qry_readList_73 : decode b_Qry_readList 73 = .ok (.aload_n 0, 1) := by decide +kernel
theorem d_Qry_readList_74 : decode b_Qry_readList 74 = .ok (.getfield 44, 3) := by decide +kernel
theorem d_Qry_readList_77 : decode b_Qry_readList 77 = .ok (.bipush 41, 2) := by decide +kernel
theorem d_Qry_readList_79 : decode b_Qry_readList 79 = .ok (.invokevirtual 139, 3) := by decide +kernel
theorem d_Qry_readList_82 : decode b_Qry_readList 82 = .ok (.return_, 1) := by decide +kernel
theorem d_Qry_readList_66 : decode b_Qry_readList 66 = .ok (.istore_n 2, 1) := by decide +kernel
theorem d_Qry_readList_67 : decode b_Qry_readList 67 = .ok (.iinc 3 1, 3) := by decide +kernel
theorem d_Qry_readList_70 : decode b_Qry_readList 70 = .ok (.goto (-51), 3) := by decide +kernel
theorem d_Qry_readList_65 : decode b_Qry_readList 65 = .ok (.iconst 0, 1) := by decide +kernel
theorem d_Qry_readList_19 : decode b_Qry_readList 19 = .ok (.iload_n 3, 1) := by decide +kernel
theorem d_Qry_readList_20 : decode b_Qry_readList 20 = .ok (.aload_n 0, 1) := by decide +kernel
theorem d_Qry_readList_21 : decode b_Qry_readList 21 = .ok (.getfield 44, 3) := by decide +kernel
theorem d_Qry_readList_24 : decode b_Qry_readList 24 = .ok (.getfield 165, 3) := by decide +kernel
theorem d_Qry_readList_27 : decode b_Qry_readList 27 = .ok (.if_icmp .gt 46, 3) := by decide +kernel
theorem d_Qry_readList_30 : decode b_Qry_readList 30 = .ok (.iload_n 2, 1) := by decide +kernel
theorem d_Qry_readList_31 : decode b_Qry_readList 31 = .ok (.ifCond .eq 42, 3) := by decide +kernel
theorem d_Qry_readList_34 : decode b_Qry_readList 34 = .ok (.aload_n 0, 1) := by decide +kernel
theorem d_Qry_readList_35 : decode b_Qry_readList 35 = .ok (.iload_n 1, 1) := by decide +kernel
theorem d_Qry_readList_36 : decode b_Qry_readList 36 = .ok (.invokevirtual 235, 3) := by decide +kernel
theorem d_Qry_readList_39 : decode b_Qry_readList 39 = .ok (.aload_n 0, 1) := by decide +kernel
theorem d_Qry_readList_40 : decode b_Qry_readList 40 = .ok (.getfield 44, 3) := by decide +kernel
theorem d_Qry_readList_43 : decode b_Qry_readList 43 = .ok (.invokevirtual 86, 3) := by decide +kernel
theorem d_Qry_readList_46 : decode b_Qry_readList 46 = .ok (.ifCond .eq 19, 3) := by decide +kernel
theorem d_Qry_readList_49 : decode b_Qry_readList 49 = .ok (.aload_n 0, 1) := by decide +kernel
theorem d_Qry_readList_50 : decode b_Qry_readList 50 = .ok (.getfield 44, 3) := by decide +kernel
theorem d_Qry_readList_53 : decode b_Qry_readList 53 = .ok (.bipush 44, 2) := by decide +kernel
theorem d_Qry_readList_55 : decode b_Qry_readList 55 = .ok (.invokevirtual 129, 3) := by decide +kernel
theorem d_Qry_readList_58 : decode b_Qry_readList 58 = .ok (.ifCond .eq 7, 3) := by decide +kernel
theorem d_Qry_readList_61 : decode b_Qry_readList 61 = .ok (.iconst 1, 1) := by decide +kernel
theorem d_Qry_readList_62 : decode b_Qry_readList 62 = .ok (.goto 4, 3) := by decide +kernel
theorem d_Qry_readList_0 : decode b_Qry_readList 0 = .ok (.aload_n 0, 1) := by decide +kernel
theorem d_Qry_readList_1 : decode b_Qry_readList 1 = .ok (.getfield 44, 3) := by decide +kernel
theorem d_Qry_readList_4 : decode b_Qry_readList 4 = .ok (.bipush 40, 2) := by decide +kernel
theorem d_Qry_readList_6 : decode b_Qry_readList 6 = .ok (.invokevirtual 139, 3) := by decide +kernel
theorem d_Qry_readList_9 : decode b_Qry_readList 9 = .ok (.aload_n 0, 1) := by decide +kernel
theorem d_Qry_readList_10 : decode b_Qry_readList 10 = .ok (.getfield 44, 3) := by decide +kernel
theorem d_Qry_readList_13 : decode b_Qry_readList 13 = .ok (.invokevirtual 86, 3) := by decide +kernel
theorem d_Qry_readList_16 : decode b_Qry_readList 16 = .ok (.istore_n 2, 1) := by decide +kernel
theorem d_Qry_readList_17 : decode b_Qry_readList 17 = .ok (.iconst 0, 1) := by decide +kernel
theorem d_Qry_readList_18 : decode b_Qry_readList 18 = .ok (.istore_n 3, 1) := by decide +kernel
section
variable (l : Launch) (dC : Nat → ClassId) (dI : Nat → Nat → Nat) (cI cB cJ cZ : ClassId)
set_option maxRecDepth 100000 in
def j_Qry_readItems_109 (post : St → Prop) (rec10 : Nat → Int32 → Int32 → St → Prop) (o : Nat) (l1 : Int32) (l2 : Int32) (s0 : Int32) (x : St) : Prop := rec10 o s0 (l2 + 1) x
set_option maxHeartbeats 4000000 in
set_option maxRecDepth 100000 in
theorem t_Qry_readItems_109 {p : Program} {l : Launch} {e : Env} {R : Room} {s : State} {m : MethodId} {args : Array Value} {below : List Frame} {meth : Method} {c : Code} {cells slots : Nat} {Q : State → Prop} {dC : Nat → ClassId} {dI : Nat → Nat → Nat} {cI cB cJ cZ : ClassId} {A : Nat → Prop} {ad : Nat → Nat} {NN : Nat} {E : Heap} {tM tC : Nat} {kK kV : Nat → Nat} {post : St → Prop} {rec10 : Nat → Int32 → Int32 → St → Prop} (hx : p.tables.exec = Jvm.exec) (hb : c.code = b_Qry_readItems) (hml : c.maxLocals = 3) (hown : s.vm.findClass R_Qry = some m.cls) (hT : ∀ w ∈ TG, w.before args s = true) (hK : va_K (dC, dI) CL (TY cI cB cJ cZ) s) (hN : NW s) (hA : ∀ q : Nat, s.heap.size ≤ q → A q) (hRc : cells ≤ R.cells) (hRs : slots ≤ R.slots) (hRf : 9 ≤ R.frames) (hRl : 309 ≤ R.locals) (hNN : 152 ≤ NN) (hE : CE E tM tC kK kV A s) (hret : ∀ (x : St) (H : Heap) (locs : List Loc) (pc : Nat) (ls : Array Slot), decode b_Qry_readItems pc = .ok (.return_, 1) → post x → Wd dC dI cI cB cJ cZ ad stC kcC NN A x H → va_S A s.heap H locs → W p l e R s m args below meth c H locs cells slots Q (F0 m pc ls [])) (hrec10 : ∀ (o : Nat) (l1 : Int32) (l2 : Int32) (x : St) (H : Heap) (locs : List Loc) (ls : Array Slot), (o < NN ∧ kcC o = 9) → rec10 o l1 l2 x → Wd dC dI cI cB cJ cZ ad stC kcC NN A x H → va_S A s.heap H locs → lv_has ls 3 [(0, .ref (ad o)), (1, .int l1), (2, .int l2)] → W p l e R s m args below meth c H locs cells slots Q (F0 m 10 ls [])) : ∀ (o : Nat) (l1 : Int32) (l2 : Int32) (s0 : Int32) (x : St) (H : Heap) (locs : List Loc) (ls : Array Slot), (o < NN ∧ kcC o = 9) → j_Qry_readItems_109 post rec10 o l1 l2 s0 x → Wd dC dI cI cB cJ cZ ad stC kcC NN A x H → va_S A s.heap H locs → lv_has ls 3 [(0, .ref (ad o)), (1, .int l1), (2, .int l2)] → W p l e R s m args below meth c H locs cells slots Q (F0 m 109 ls [.int s0]) := by
  intro o l1 l2 s0 x H locs ls fo hw hW hS hl
  unfold j_Qry_readItems_109 at hw
  refine lv_istore_n (lv' := [(1, .int s0), (0, .ref (ad o)), (2, .int l2)]) hx hb d_Qry_readItems_109 rfl hl (by decide) rfl (fun ls hl => ?_)
  refine lv_iinc (v := (l2 + 1)) (lv' := [(2, .int (l2 + 1)), (1, .int s0), (0, .ref (ad o))]) hx hb d_Qry_readItems_110 hl (k := 2) rfl rfl (by decide) rfl (fun ls hl => ?_)
  refine lv_goto (tgt := 10) hx hb d_Qry_readItems_113 (by decide) ?_
  exact hrec10 o s0 (l2 + 1) x H locs ls fo hw hW hS (lv_sub hl [2, 1, 0] rfl)
set_option maxRecDepth 100000 in
def j_Qry_readItems_108 (post : St → Prop) (rec10 : Nat → Int32 → Int32 → St → Prop) (o : Nat) (l1 : Int32) (l2 : Int32) (x : St) : Prop := j_Qry_readItems_109 post rec10 o l1 l2 0 x
set_option maxHeartbeats 4000000 in
set_option maxRecDepth 100000 in
theorem t_Qry_readItems_108 {p : Program} {l : Launch} {e : Env} {R : Room} {s : State} {m : MethodId} {args : Array Value} {below : List Frame} {meth : Method} {c : Code} {cells slots : Nat} {Q : State → Prop} {dC : Nat → ClassId} {dI : Nat → Nat → Nat} {cI cB cJ cZ : ClassId} {A : Nat → Prop} {ad : Nat → Nat} {NN : Nat} {E : Heap} {tM tC : Nat} {kK kV : Nat → Nat} {post : St → Prop} {rec10 : Nat → Int32 → Int32 → St → Prop} (hx : p.tables.exec = Jvm.exec) (hb : c.code = b_Qry_readItems) (hml : c.maxLocals = 3) (hown : s.vm.findClass R_Qry = some m.cls) (hT : ∀ w ∈ TG, w.before args s = true) (hK : va_K (dC, dI) CL (TY cI cB cJ cZ) s) (hN : NW s) (hA : ∀ q : Nat, s.heap.size ≤ q → A q) (hRc : cells ≤ R.cells) (hRs : slots ≤ R.slots) (hRf : 9 ≤ R.frames) (hRl : 309 ≤ R.locals) (hNN : 152 ≤ NN) (hE : CE E tM tC kK kV A s) (hret : ∀ (x : St) (H : Heap) (locs : List Loc) (pc : Nat) (ls : Array Slot), decode b_Qry_readItems pc = .ok (.return_, 1) → post x → Wd dC dI cI cB cJ cZ ad stC kcC NN A x H → va_S A s.heap H locs → W p l e R s m args below meth c H locs cells slots Q (F0 m pc ls [])) (hrec10 : ∀ (o : Nat) (l1 : Int32) (l2 : Int32) (x : St) (H : Heap) (locs : List Loc) (ls : Array Slot), (o < NN ∧ kcC o = 9) → rec10 o l1 l2 x → Wd dC dI cI cB cJ cZ ad stC kcC NN A x H → va_S A s.heap H locs → lv_has ls 3 [(0, .ref (ad o)), (1, .int l1), (2, .int l2)] → W p l e R s m args below meth c H locs cells slots Q (F0 m 10 ls [])) : ∀ (o : Nat) (l1 : Int32) (l2 : Int32) (x : St) (H : Heap) (locs : List Loc) (ls : Array Slot), (o < NN ∧ kcC o = 9) → j_Qry_readItems_108 post rec10 o l1 l2 x → Wd dC dI cI cB cJ cZ ad stC kcC NN A x H → va_S A s.heap H locs → lv_has ls 3 [(0, .ref (ad o)), (1, .int l1), (2, .int l2)] → W p l e R s m args below meth c H locs cells slots Q (F0 m 108 ls []) := by
  intro o l1 l2 x H locs ls fo hw hW hS hl
  unfold j_Qry_readItems_108 at hw
  refine lv_iconst (v := 0) hx hb d_Qry_readItems_108 (by decide) ?_
  exact t_Qry_readItems_109 hx hb hml hown hT hK hN hA hRc hRs hRf hRl hNN hE hret hrec10 o l1 l2 0 x H locs ls fo hw hW hS (lv_sub hl [0, 1, 2] rfl)
set_option maxRecDepth 100000 in
def j_Qry_readItems_10 (post : St → Prop) (rec10 : Nat → Int32 → Int32 → St → Prop) (o : Nat) (l1 : Int32) (l2 : Int32) (x : St) : Prop := ((16 < l2 → post x) ∧ (¬ 16 < l2 → ((l1 = 0 → post x) ∧ (¬ l1 = 0 → (∃ q4313 : Nat, fR x o 17 = some q4313 ∧ wp_Scn_next (fun (r4315 : Int32) (x4314 : St) => (((fI x4314 o 1) < 16 → (∃ q4317 : Nat, fR x4314 o 17 = some q4317 ∧ (vp_in (fI x4314 o 1) (fN x4314 (stC o 4)) ∧ ∀ x4318 : St, x4318 = setA x4314 (stC o 4) (fI x4314 o 1) (fI x4314 q4317 2) → wp_Qry_readItem (fun (x4319 : St) => (∀ x4320 : St, x4320 = setI x4319 o 1 ((fI x4319 o 1) + 1) → (∃ q4321 : Nat, fR x4320 o 17 = some q4321 ∧ wp_Scn_good (fun (r4323 : Int32) (x4322 : St) => ((r4323 = 0 → j_Qry_readItems_108 post rec10 o l1 l2 x4322) ∧ (¬ r4323 = 0 → (∃ q4325 : Nat, fR x4322 o 17 = some q4325 ∧ wp_Scn_takeSign (fun (r4327 : Int32) (x4326 : St) => ((r4327 = 0 → j_Qry_readItems_108 post rec10 o l1 l2 x4326) ∧ (¬ r4327 = 0 → j_Qry_readItems_109 post rec10 o l1 l2 1 x4326))) q4325 44 x4322)))) q4321 x4320))) o x4318))) ∧ (¬ (fI x4314 o 1) < 16 → (∃ q4329 : Nat, fR x4314 o 17 = some q4329 ∧ (∃ q4330 : Nat, fR x4314 o 17 = some q4330 ∧ wp_Scn_refuse (fun (x4331 : St) => post x4331) q4329 (fI x4314 q4330 2) x4314))))) q4313 x)))))
set_option maxHeartbeats 4000000 in
set_option maxRecDepth 100000 in
theorem t_Qry_readItems_10 {p : Program} {l : Launch} {e : Env} {R : Room} {s : State} {m : MethodId} {args : Array Value} {below : List Frame} {meth : Method} {c : Code} {cells slots : Nat} {Q : State → Prop} {dC : Nat → ClassId} {dI : Nat → Nat → Nat} {cI cB cJ cZ : ClassId} {A : Nat → Prop} {ad : Nat → Nat} {NN : Nat} {E : Heap} {tM tC : Nat} {kK kV : Nat → Nat} {post : St → Prop} {rec10 : Nat → Int32 → Int32 → St → Prop} (hx : p.tables.exec = Jvm.exec) (hb : c.code = b_Qry_readItems) (hml : c.maxLocals = 3) (hown : s.vm.findClass R_Qry = some m.cls) (hT : ∀ w ∈ TG, w.before args s = true) (hK : va_K (dC, dI) CL (TY cI cB cJ cZ) s) (hN : NW s) (hA : ∀ q : Nat, s.heap.size ≤ q → A q) (hRc : cells ≤ R.cells) (hRs : slots ≤ R.slots) (hRf : 9 ≤ R.frames) (hRl : 309 ≤ R.locals) (hNN : 152 ≤ NN) (hE : CE E tM tC kK kV A s) (hret : ∀ (x : St) (H : Heap) (locs : List Loc) (pc : Nat) (ls : Array Slot), decode b_Qry_readItems pc = .ok (.return_, 1) → post x → Wd dC dI cI cB cJ cZ ad stC kcC NN A x H → va_S A s.heap H locs → W p l e R s m args below meth c H locs cells slots Q (F0 m pc ls [])) (hrec10 : ∀ (o : Nat) (l1 : Int32) (l2 : Int32) (x : St) (H : Heap) (locs : List Loc) (ls : Array Slot), (o < NN ∧ kcC o = 9) → rec10 o l1 l2 x → Wd dC dI cI cB cJ cZ ad stC kcC NN A x H → va_S A s.heap H locs → lv_has ls 3 [(0, .ref (ad o)), (1, .int l1), (2, .int l2)] → W p l e R s m args below meth c H locs cells slots Q (F0 m 10 ls [])) : ∀ (o : Nat) (l1 : Int32) (l2 : Int32) (x : St) (H : Heap) (locs : List Loc) (ls : Array Slot), (o < NN ∧ kcC o = 9) → j_Qry_readItems_10 post rec10 o l1 l2 x → Wd dC dI cI cB cJ cZ ad stC kcC NN A x H → va_S A s.heap H locs → lv_has ls 3 [(0, .ref (ad o)), (1, .int l1), (2, .int l2)] → W p l e R s m args below meth c H locs cells slots Q (F0 m 10 ls []) := by
  intro o l1 l2 x H locs ls fo hw hW hS hl
  unfold j_Qry_readItems_10 at hw
  refine lv_iload_n hx hb d_Qry_readItems_10 rfl (lv_at hl 2 rfl) ?_
  refine lv_bipush (v := 16) hx hb d_Qry_readItems_11 (by decide) ?_
  refine lv_icmp_gt (tgt := 116) hx hb d_Qry_readItems_13 (by decide) (fun c4311 => ?_) (fun c4311 => ?_)
  · have hw := hw.1 c4311
    exact hret x H locs 116 ls d_Qry_readItems_116 hw hW hS
  · have hw := hw.2 c4311
    refine lv_iload_n hx hb d_Qry_readItems_16 rfl (lv_at hl 1 rfl) ?_
    refine lv_if_eq (tgt := 116) hx hb d_Qry_readItems_17 (by decide) (fun c4312 => ?_) (fun c4312 => ?_)
    · have hw := hw.1 c4312
      exact hret x H locs 116 ls d_Qry_readItems_116 hw hW hS
    · have hw := hw.2 c4312
      refine lv_aload_n hx hb d_Qry_readItems_20 rfl (lv_at hl 0 rfl) ?_
      obtain ⟨q4313, hq4313, hw⟩ := hw
      refine w_getr (q := q4313) (k := 17) (t := 9) (C := R_Qry) (T := F_Qry) (N := 20) hx hb hT hown hK hW fo.1 fo.2 (by decide) in_Qry rfl rfl (by decide) rfl fr_Qry_17 w_3_105 d_Qry_readItems_21 hq4313 (fun aq4313 bq4313 => ?_)
      have fq4313 : q4313 < NN ∧ kcC q4313 = 2 := ⟨aq4313, bq4313⟩
      have hF := hW.free hS hA
      refine va_calli (va_runV (C := R_Scn) (As := []) (rest := []) ⟨hx, hb, hml, hown, hT⟩ (k_Scn_next l dC dI cI cB cJ cZ ad NN E tM tC kK kV hNN H.size q4313 x fq4313 hw) ⟨callB_of 0 hT (gw_in w_4_110) rfl rfl rfl (hT _ w_1_4) (hT _ w_7_148) (by decide +kernel) ⟨Nat.le_trans (by decide) hRf, Nat.le_trans (by decide) hRl⟩, hT _ w_4_108, hT _ w_4_109⟩ ⟨PV.blind, va_recv hK hW.1 (ci := 2) (q0 := q4313) rfl (pic_obj fq4313.1 fq4313.2 (by decide)), PV.at _ hW hK hN hE hS hF⟩ rfl rfl hl.1 rfl (lv_room (Nat.le_of_ble_eq_true rfl)) d_Qry_readItems_24 ⟨hRc, hRs⟩) hS (fun q _ h => hF q h) hF (fun r4315 x4314 t H locs ht hvm hw hB hz1 hk1 hS => ?_)
      have hW := Wd.back hB ht hF
      clear hB ht hF hz1 hk1 hvm
      refine lv_pop hx hb d_Qry_readItems_27 rfl ?_
      refine lv_aload_n hx hb d_Qry_readItems_28 rfl (lv_at hl 0 rfl) ?_
      refine w_geti (k := 1) (t := 9) (C := R_Qry) (T := F_Qry) (N := 20) hx hb hT hown hK hW fo.1 fo.2 (by decide) in_Qry rfl rfl (by decide) rfl fr_Qry_1 w_3_76 d_Qry_readItems_29 ?_
      refine lv_bipush (v := 16) hx hb d_Qry_readItems_32 (by decide) ?_
      refine lv_icmp_lt (tgt := 52) hx hb d_Qry_readItems_34 (by decide) (fun c4316 => ?_) (fun c4316 => ?_)
      · have hw := hw.1 c4316
        refine lv_aload_n hx hb d_Qry_readItems_52 rfl (lv_at hl 0 rfl) ?_
        refine w_getf (q := (stC o 4)) (k := 4) (t := 9) (C := R_Qry) (T := F_Qry) (N := 20) hx hb hT hown hK hW fo.1 fo.2 (by decide) in_Qry rfl rfl (by decide) rfl fr_Qry_4 w_3_82 d_Qry_readItems_53 rfl ?_
        refine lv_aload_n hx hb d_Qry_readItems_56 rfl (lv_at hl 0 rfl) ?_
        refine w_geti (k := 1) (t := 9) (C := R_Qry) (T := F_Qry) (N := 20) hx hb hT hown hK hW fo.1 fo.2 (by decide) in_Qry rfl rfl (by decide) rfl fr_Qry_1 w_3_76 d_Qry_readItems_57 ?_
        refine lv_aload_n hx hb d_Qry_readItems_60 rfl (lv_at hl 0 rfl) ?_
        obtain ⟨q4317, hq4317, hw⟩ := hw
        refine w_getr (q := q4317) (k := 17) (t := 9) (C := R_Qry) (T := F_Qry) (N := 20) hx hb hT hown hK hW fo.1 fo.2 (by decide) in_Qry rfl rfl (by decide) rfl fr_Qry_17 w_3_105 d_Qry_readItems_61 hq4317 (fun aq4317 bq4317 => ?_)
        have fq4317 : q4317 < NN ∧ kcC q4317 = 2 := ⟨aq4317, bq4317⟩
        refine w_geti (k := 2) (t := 2) (C := R_Scn) (T := F_Scn) (N := 8) hx hb hT hown hK hW fq4317.1 fq4317.2 (by decide) in_Scn rfl rfl (by decide) rfl fr_Scn_2 w_1_86 d_Qry_readItems_64 ?_
        obtain ⟨hi, hw⟩ := hw
        refine w_iast (o := (stC o 4)) hx hb hK hW hS (st_ty hNN fo.1 fo.2 rfl).1 (st_ty hNN fo.1 fo.2 rfl).2 hi d_Qry_readItems_67 (fun H locs hW hS => ?_)
        obtain ⟨x4318, ex4318⟩ : ∃ y : St, y = setA x4314 (stC o 4) (fI x4314 o 1) (fI x4314 q4317 2) := ⟨_, rfl⟩
        rw [← ex4318] at hW
        have hw := hw x4318 ex4318
        refine lv_aload_n hx hb d_Qry_readItems_68 rfl (lv_at hl 0 rfl) ?_
        have hF := hW.free hS hA
        refine va_callv (va_runV (C := R_Qry) (As := []) (rest := []) ⟨hx, hb, hml, hown, hT⟩ (k_Qry_readItem l dC dI cI cB cJ cZ ad NN E tM tC kK kV hNN H.size o x4318 fo hw) ⟨callB_of 0 hT (gw_in w_7_153) rfl rfl rfl (hT _ w_1_12) (hT _ w_7_150) (by decide +kernel) ⟨Nat.le_trans (by decide) hRf, Nat.le_trans (by decide) hRl⟩, hT _ w_7_152, hT _ ws_69⟩ ⟨PV.blind, va_recv hK hW.1 (ci := 9) (q0 := o) rfl (pic_obj fo.1 fo.2 (by decide)), PV.at _ hW hK hN hE hS hF⟩ rfl rfl hl.1 rfl (lv_room (Nat.le_of_ble_eq_true rfl)) d_Qry_readItems_69 ⟨hRc, hRs⟩) hS (fun q _ h => hF q h) hF (fun  x4319 t H locs ht hvm hw hB hz1 hk1 hS => ?_)
        have hW := Wd.back hB ht hF
        clear hB ht hF hz1 hk1 hvm
        refine lv_aload_n hx hb d_Qry_readItems_72 rfl (lv_at hl 0 rfl) ?_
        refine lv_dup hx hb d_Qry_readItems_73 rfl ?_
        refine w_geti (k := 1) (t := 9) (C := R_Qry) (T := F_Qry) (N := 20) hx hb hT hown hK hW fo.1 fo.2 (by decide) in_Qry rfl rfl (by decide) rfl fr_Qry_1 w_3_76 d_Qry_readItems_74 ?_
        refine lv_iconst (v := 1) hx hb d_Qry_readItems_77 (by decide) ?_
        refine lv_iadd hx hb d_Qry_readItems_78 ?_
        refine w_puti (ty := .int) (k := 1) (t := 9) (C := R_Qry) (T := F_Qry) (N := 20) hx hb hT hown hK hW hS fo.1 fo.2 (by decide) in_Qry t_Qry t_Qry_ok n_Qry rfl rfl (by decide) rfl fr_Qry_1 w_3_76 (by decide +kernel) rfl rfl d_Qry_readItems_79 (fun H locs hW hS => ?_)
        obtain ⟨x4320, ex4320⟩ : ∃ y : St, y = setI x4319 o 1 ((fI x4319 o 1) + 1) := ⟨_, rfl⟩
        rw [← ex4320] at hW
        have hw := hw x4320 ex4320
        refine lv_aload_n hx hb d_Qry_readItems_82 rfl (lv_at hl 0 rfl) ?_
        obtain ⟨q4321, hq4321, hw⟩ := hw
        refine w_getr (q := q4321) (k := 17) (t := 9) (C := R_Qry) (T := F_Qry) (N := 20) hx hb hT hown hK hW fo.1 fo.2 (by decide) in_Qry rfl rfl (by decide) rfl fr_Qry_17 w_3_105 d_Qry_readItems_83 hq4321 (fun aq4321 bq4321 => ?_)
        have fq4321 : q4321 < NN ∧ kcC q4321 = 2 := ⟨aq4321, bq4321⟩
        have hF := hW.free hS hA
        refine va_calli (va_runV (C := R_Scn) (As := []) (rest := []) ⟨hx, hb, hml, hown, hT⟩ (k_Scn_good l dC dI cI cB cJ cZ ad NN E tM tC kK kV hNN H.size q4321 x4320 fq4321 hw) ⟨callB_of 0 hT (gw_in w_4_106) rfl rfl rfl (hT _ w_1_4) (hT _ w_7_147) (by decide +kernel) ⟨Nat.le_trans (by decide) hRf, Nat.le_trans (by decide) hRl⟩, hT _ w_4_104, hT _ w_4_105⟩ ⟨PV.blind, va_recv hK hW.1 (ci := 2) (q0 := q4321) rfl (pic_obj fq4321.1 fq4321.2 (by decide)), PV.at _ hW hK hN hE hS hF⟩ rfl rfl hl.1 rfl (lv_room (Nat.le_of_ble_eq_true rfl)) d_Qry_readItems_86 ⟨hRc, hRs⟩) hS (fun q _ h => hF q h) hF (fun r4323 x4322 t H locs ht hvm hw hB hz1 hk1 hS => ?_)
        have hW := Wd.back hB ht hF
        clear hB ht hF hz1 hk1 hvm
        refine lv_if_eq (tgt := 108) hx hb d_Qry_readItems_89 (by decide) (fun c4324 => ?_) (fun c4324 => ?_)
        · have hw := hw.1 c4324
          exact t_Qry_readItems_108 hx hb hml hown hT hK hN hA hRc hRs hRf hRl hNN hE hret hrec10 o l1 l2 x4322 H locs ls fo hw hW hS (lv_sub hl [0, 1, 2] rfl)
        · have hw := hw.2 c4324
          refine lv_aload_n hx hb d_Qry_readItems_92 rfl (lv_at hl 0 rfl) ?_
          obtain ⟨q4325, hq4325, hw⟩ := hw
          refine w_getr (q := q4325) (k := 17) (t := 9) (C := R_Qry) (T := F_Qry) (N := 20) hx hb hT hown hK hW fo.1 fo.2 (by decide) in_Qry rfl rfl (by decide) rfl fr_Qry_17 w_3_105 d_Qry_readItems_93 hq4325 (fun aq4325 bq4325 => ?_)
          have fq4325 : q4325 < NN ∧ kcC q4325 = 2 := ⟨aq4325, bq4325⟩
          refine lv_bipush (v := 44) hx hb d_Qry_readItems_96 (by decide) ?_
          have hF := hW.free hS hA
          refine va_calli (va_runV (C := R_Scn) (As := [.int 44]) (rest := []) ⟨hx, hb, hml, hown, hT⟩ (k_Scn_takeSign l dC dI cI cB cJ cZ ad NN E tM tC kK kV hNN H.size q4325 44 x4322 fq4325 hw) ⟨callB_of 1 hT (gw_in w_4_123) rfl rfl rfl (hT _ w_1_4) (hT _ w_7_199) (by decide +kernel) ⟨Nat.le_trans (by decide) hRf, Nat.le_trans (by decide) hRl⟩, hT _ w_4_121, hT _ w_4_122⟩ ⟨PV.blind, va_recv hK hW.1 (ci := 2) (q0 := q4325) rfl (pic_obj fq4325.1 fq4325.2 (by decide)), PV.at _ hW hK hN hE hS hF⟩ rfl rfl hl.1 rfl (lv_room (Nat.le_of_ble_eq_true rfl)) d_Qry_readItems_98 ⟨hRc, hRs⟩) hS (fun q _ h => hF q h) hF (fun r4327 x4326 t H locs ht hvm hw hB hz1 hk1 hS => ?_)
          have hW := Wd.back hB ht hF
          clear hB ht hF hz1 hk1 hvm
          refine lv_if_eq (tgt := 108) hx hb d_Qry_readItems_101 (by decide) (fun c4328 => ?_) (fun c4328 => ?_)
          · have hw := hw.1 c4328
            exact t_Qry_readItems_108 hx hb hml hown hT hK hN hA hRc hRs hRf hRl hNN hE hret hrec10 o l1 l2 x4326 H locs ls fo hw hW hS (lv_sub hl [0, 1, 2] rfl)
          · have hw := hw.2 c4328
            refine lv_iconst (v := 1) hx hb d_Qry_readItems_104 (by decide) ?_
            refine lv_goto (tgt := 109) hx hb d_Qry_readItems_105 (by decide) ?_
            exact t_Qry_readItems_109 hx hb hml hown hT hK hN hA hRc hRs hRf hRl hNN hE hret hrec10 o l1 l2 1 x4326 H locs ls fo hw hW hS (lv_sub hl [0, 1, 2] rfl)
      · have hw := hw.2 c4316
        refine lv_aload_n hx hb d_Qry_readItems_37 rfl (lv_at hl 0 rfl) ?_
        obtain ⟨q4329, hq4329, hw⟩ := hw
        refine w_getr (q := q4329) (k := 17) (t := 9) (C := R_Qry) (T := F_Qry) (N := 20) hx hb hT hown hK hW fo.1 fo.2 (by decide) in_Qry rfl rfl (by decide) rfl fr_Qry_17 w_3_105 d_Qry_readItems_38 hq4329 (fun aq4329 bq4329 => ?_)
        have fq4329 : q4329 < NN ∧ kcC q4329 = 2 := ⟨aq4329, bq4329⟩
        refine lv_aload_n hx hb d_Qry_readItems_41 rfl (lv_at hl 0 rfl) ?_
        obtain ⟨q4330, hq4330, hw⟩ := hw
        refine w_getr (q := q4330) (k := 17) (t := 9) (C := R_Qry) (T := F_Qry) (N := 20) hx hb hT hown hK hW fo.1 fo.2 (by decide) in_Qry rfl rfl (by decide) rfl fr_Qry_17 w_3_105 d_Qry_readItems_42 hq4330 (fun aq4330 bq4330 => ?_)
        have fq4330 : q4330 < NN ∧ kcC q4330 = 2 := ⟨aq4330, bq4330⟩
        refine w_geti (k := 2) (t := 2) (C := R_Scn) (T := F_Scn) (N := 8) hx hb hT hown hK hW fq4330.1 fq4330.2 (by decide) in_Scn rfl rfl (by decide) rfl fr_Scn_2 w_1_86 d_Qry_readItems_45 ?_
        have hF := hW.free hS hA
        refine va_callv (va_runV (C := R_Scn) (As := [.int (fI x4314 q4330 2)]) (rest := []) ⟨hx, hb, hml, hown, hT⟩ (k_Scn_refuse l dC dI cI cB cJ cZ ad NN E tM tC kK kV hNN H.size q4329 (fI x4314 q4330 2) x4314 fq4329 hw) ⟨callB_of 1 hT (gw_in w_4_128) rfl rfl rfl (hT _ w_1_4) (hT _ w_7_149) (by decide +kernel) ⟨Nat.le_trans (by decide) hRf, Nat.le_trans (by decide) hRl⟩, hT _ w_4_126, hT _ w_4_127⟩ ⟨PV.blind, va_recv hK hW.1 (ci := 2) (q0 := q4329) rfl (pic_obj fq4329.1 fq4329.2 (by decide)), PV.at _ hW hK hN hE hS hF⟩ rfl rfl hl.1 rfl (lv_room (Nat.le_of_ble_eq_true rfl)) d_Qry_readItems_48 ⟨hRc, hRs⟩) hS (fun q _ h => hF q h) hF (fun  x4331 t H locs ht hvm hw hB hz1 hk1 hS => ?_)
        have hW := Wd.back hB ht hF
        clear hB ht hF hz1 hk1 hvm
        exact hret x4331 H locs 51 ls d_Qry_readItems_51 hw hW hS
def wl_Qry_readItems_10 (post : St → Prop) : Nat → Nat → Int32 → Int32 → St → Prop
  | 0 => fun _ _ _ _ => False
  | n + 1 => j_Qry_readItems_10 post (wl_Qry_readItems_10 post n)
set_option maxHeartbeats 4000000 in
set_option maxRecDepth 100000 in
theorem tl_Qry_readItems_10 {p : Program} {l : Launch} {e : Env} {R : Room} {s : State} {m : MethodId} {args : Array Value} {below : List Frame} {meth : Method} {c : Code} {cells slots : Nat} {Q : State → Prop} {dC : Nat → ClassId} {dI : Nat → Nat → Nat} {cI cB cJ cZ : ClassId} {A : Nat → Prop} {ad : Nat → Nat} {NN : Nat} {E : Heap} {tM tC : Nat} {kK kV : Nat → Nat} {post : St → Prop} (hx : p.tables.exec = Jvm.exec) (hb : c.code = b_Qry_readItems) (hml : c.maxLocals = 3) (hown : s.vm.findClass R_Qry = some m.cls) (hT : ∀ w ∈ TG, w.before args s = true) (hK : va_K (dC, dI) CL (TY cI cB cJ cZ) s) (hN : NW s) (hA : ∀ q : Nat, s.heap.size ≤ q → A q) (hRc : cells ≤ R.cells) (hRs : slots ≤ R.slots) (hRf : 9 ≤ R.frames) (hRl : 309 ≤ R.locals) (hNN : 152 ≤ NN) (hE : CE E tM tC kK kV A s) (hret : ∀ (x : St) (H : Heap) (locs : List Loc) (pc : Nat) (ls : Array Slot), decode b_Qry_readItems pc = .ok (.return_, 1) → post x → Wd dC dI cI cB cJ cZ ad stC kcC NN A x H → va_S A s.heap H locs → W p l e R s m args below meth c H locs cells slots Q (F0 m pc ls []))  : ∀ n : Nat, ∀ (o : Nat) (l1 : Int32) (l2 : Int32) (x : St) (H : Heap) (locs : List Loc) (ls : Array Slot), (o < NN ∧ kcC o = 9) → wl_Qry_readItems_10 post n o l1 l2 x → Wd dC dI cI cB cJ cZ ad stC kcC NN A x H → va_S A s.heap H locs → lv_has ls 3 [(0, .ref (ad o)), (1, .int l1), (2, .int l2)] → W p l e R s m args below meth c H locs cells slots Q (F0 m 10 ls []) := by
  intro n
  induction n with
  | zero => intro o l1 l2 x H locs ls fo hw; exact hw.elim
  | succ n ih => intro o l1 l2 x H locs ls fo hw hW hS hl; exact t_Qry_readItems_10 hx hb hml hown hT hK hN hA hRc hRs hRf hRl hNN hE hret  ih o l1 l2 x H locs ls fo hw hW hS hl
set_option maxRecDepth 100000 in
def wp_Qry_readItems (post : St → Prop) (o : Nat) (x : St) : Prop := (∃ q4332 : Nat, fR x o 17 = some q4332 ∧ wp_Scn_good (fun (r4334 : Int32) (x4333 : St) => ∃ n : Nat, wl_Qry_readItems_10 post n o r4334 0 x4333) q4332 x)
set_option maxHeartbeats 4000000 in
set_option maxRecDepth 100000 in
theorem t_Qry_readItems_e {p : Program} {l : Launch} {e : Env} {R : Room} {s : State} {m : MethodId} {args : Array Value} {below : List Frame} {meth : Method} {c : Code} {cells slots : Nat} {Q : State → Prop} {dC : Nat → ClassId} {dI : Nat → Nat → Nat} {cI cB cJ cZ : ClassId} {A : Nat → Prop} {ad : Nat → Nat} {NN : Nat} {E : Heap} {tM tC : Nat} {kK kV : Nat → Nat} {post : St → Prop} (hx : p.tables.exec = Jvm.exec) (hb : c.code = b_Qry_readItems) (hml : c.maxLocals = 3) (hown : s.vm.findClass R_Qry = some m.cls) (hT : ∀ w ∈ TG, w.before args s = true) (hK : va_K (dC, dI) CL (TY cI cB cJ cZ) s) (hN : NW s) (hA : ∀ q : Nat, s.heap.size ≤ q → A q) (hRc : cells ≤ R.cells) (hRs : slots ≤ R.slots) (hRf : 9 ≤ R.frames) (hRl : 309 ≤ R.locals) (hNN : 152 ≤ NN) (hE : CE E tM tC kK kV A s) (hret : ∀ (x : St) (H : Heap) (locs : List Loc) (pc : Nat) (ls : Array Slot), decode b_Qry_readItems pc = .ok (.return_, 1) → post x → Wd dC dI cI cB cJ cZ ad stC kcC NN A x H → va_S A s.heap H locs → W p l e R s m args below meth c H locs cells slots Q (F0 m pc ls [])) : ∀ (o : Nat) (x : St) (H : Heap) (locs : List Loc) (ls : Array Slot), (o < NN ∧ kcC o = 9) → wp_Qry_readItems post o x → Wd dC dI cI cB cJ cZ ad stC kcC NN A x H → va_S A s.heap H locs → lv_has ls 3 [(0, .ref (ad o))] → W p l e R s m args below meth c H locs cells slots Q (F0 m 0 ls []) := by
  intro o x H locs ls fo hw hW hS hl
  unfold wp_Qry_readItems at hw
  refine lv_aload_n hx hb d_Qry_readItems_0 rfl (lv_at hl 0 rfl) ?_
  obtain ⟨q4332, hq4332, hw⟩ := hw
  refine w_getr (q := q4332) (k := 17) (t := 9) (C := R_Qry) (T := F_Qry) (N := 20) hx hb hT hown hK hW fo.1 fo.2 (by decide) in_Qry rfl rfl (by decide) rfl fr_Qry_17 w_3_105 d_Qry_readItems_1 hq4332 (fun aq4332 bq4332 => ?_)
  have fq4332 : q4332 < NN ∧ kcC q4332 = 2 := ⟨aq4332, bq4332⟩
  have hF := hW.free hS hA
  refine va_calli (va_runV (C := R_Scn) (As := []) (rest := []) ⟨hx, hb, hml, hown, hT⟩ (k_Scn_good l dC dI cI cB cJ cZ ad NN E tM tC kK kV hNN H.size q4332 x fq4332 hw) ⟨callB_of 0 hT (gw_in w_4_106) rfl rfl rfl (hT _ w_1_4) (hT _ w_7_147) (by decide +kernel) ⟨Nat.le_trans (by decide) hRf, Nat.le_trans (by decide) hRl⟩, hT _ w_4_104, hT _ w_4_105⟩ ⟨PV.blind, va_recv hK hW.1 (ci := 2) (q0 := q4332) rfl (pic_obj fq4332.1 fq4332.2 (by decide)), PV.at _ hW hK hN hE hS hF⟩ rfl rfl hl.1 rfl (lv_room (Nat.le_of_ble_eq_true rfl)) d_Qry_readItems_4 ⟨hRc, hRs⟩) hS (fun q _ h => hF q h) hF (fun r4334 x4333 t H locs ht hvm hw hB hz1 hk1 hS => ?_)
  have hW := Wd.back hB ht hF
  clear hB ht hF hz1 hk1 hvm
  refine lv_istore_n (lv' := [(1, .int r4334), (0, .ref (ad o))]) hx hb d_Qry_readItems_7 rfl hl (by decide) rfl (fun ls hl => ?_)
  refine lv_iconst (v := 0) hx hb d_Qry_readItems_8 (by decide) ?_
  refine lv_istore_n (lv' := [(2, .int 0), (1, .int r4334), (0, .ref (ad o))]) hx hb d_Qry_readItems_9 rfl hl (by decide) rfl (fun ls hl => ?_)
  obtain ⟨n, hw⟩ := hw
  exact tl_Qry_readItems_10 hx hb hml hown hT hK hN hA hRc hRs hRf hRl hNN hE hret  n o r4334 0 x4333 H locs ls fo hw hW hS (lv_sub hl [2, 1, 0] rfl)
set_option maxHeartbeats 4000000 in
set_option maxRecDepth 100000 in
theorem k_Qry_readItems (l : Launch) (dC : Nat → ClassId) (dI : Nat → Nat → Nat) (cI cB cJ cZ : ClassId) (ad : Nat → Nat) (NN : Nat) (E : Heap) (tM tC : Nat) (kK kV : Nat → Nat) (hNN : 152 ≤ NN) (sz : Nat) (o : Nat) (x : St) (fo : o < NN ∧ kcC o = 9) {post : St → Prop} (hw : wp_Qry_readItems post o x) : Met l y_Qry_readItems (wsOf y_Qry_readItems b_Qry_readItems 3 (none)) ({ frames := 9, cells := 0, slots := 0, locals := 309 }) (va_Pc [.ref (ad o)] (PV dC dI cI cB cJ cZ ad stC kcC NN E tM tC kK kV sz x)) (va_Qv (fun (y : St) => post y) (fun y t => Wd dC dI cI cB cJ cZ ad stC kcC NN (va_A (pic ad stC kcC NN cI cB cJ cZ x) sz) y t.heap) (va_A (pic ad stC kcC NN cI cB cJ cZ x) sz)) 0 0 (va_A (pic ad stC kcC NN cI cB cJ cZ x) sz) := by
  refine Met.ofW (cc := b_Qry_readItems) (maxL := 3) (ret := none) (by decide) rfl ?_
  intro p e s m args below meth c s₁ B hml hv
  obtain ⟨rfl, ⟨hsz, hW0, hK, hN⟩, hE⟩ := hv
  have hx := B.exec
  have hb := B.bytes
  have hr := B.returns
  have hts := atoms_spec B.pre
  have hT : ∀ w ∈ TG, w.before _ s = true := fun w h => hts w (List.mem_cons_of_mem _ h)
  have hown : s.vm.findClass R_Qry = some m.cls := findClass_of_methodNamed B.named
  have hlocks := B.notSynchronized
  subst hsz
  have hW : Wd dC dI cI cB cJ cZ ad stC kcC NN (va_A (pic ad stC kcC NN cI cB cJ cZ x) s.heap.size) x s.heap := ⟨hW0.1, hW0.2.1.self (sz := s.heap.size), hW0.2.2⟩
  generalize hAe : va_A (pic ad stC kcC NN cI cB cJ cZ x) s.heap.size = A at hW hE ⊢
  have hA : ∀ q : Nat, s.heap.size ≤ q → A q := fun q h => by rw [← hAe]; exact Or.inr h
  have hS : va_S A s.heap s.heap [] := va_S.rf
  have hl := lv_entry ([.ref (ad o)]) (n := 3) (Nat.le_of_ble_eq_true rfl)
  rw [lg_entry_eq]
  generalize (lg_sl ([.ref (ad o)]) ++ List.replicate (3 - (lg_sl ([.ref (ad o)])).length) Slot.unset).toArray = ls at hl ⊢
  have hl : lv_has ls 3 [(0, .ref (ad o))] := hl
  exact t_Qry_readItems_e hx hb hml hown hT hK hN hA (Nat.le_refl 0) (Nat.le_refl 0) (Nat.le_refl 9) (Nat.le_refl 309) hNN hE (fun x H locs pc ls hd hp hW hS => W.vret hx hb hr (fun t ht hM => ⟨⟨x, rfl, hp, Wd.back hW ht.symm (fun _ z => z)⟩, hS.F ht⟩) hS.2.2 hd hlocks)  o x _ _ ls fo hw hW hS hl
set_option maxRecDepth 100000 in
def wp_Qry_addStep (post : St → Prop) (o : Nat) (l1 : Int32) (l2 : Int32) (l3 : Int32) (l4 : Int32) (l5 : Int32) (x : St) : Prop := (∃ q4335 : Nat, fR x o 17 = some q4335 ∧ wp_Scn_good (fun (r4337 : Int32) (x4336 : St) => ((¬ r4337 = 0 → (((fI x4336 o 8) < 64 → (vp_in (fI x4336 o 8) (fN x4336 (stC o 9)) ∧ ∀ x4340 : St, x4340 = setA x4336 (stC o 9) (fI x4336 o 8) l1 → (vp_in (fI x4340 o 8) (fN x4340 (stC o 10)) ∧ ∀ x4341 : St, x4341 = setA x4340 (stC o 10) (fI x4340 o 8) l3 → (vp_in (fI x4341 o 8) (fN x4341 (stC o 11)) ∧ ∀ x4342 : St, x4342 = setA x4341 (stC o 11) (fI x4341 o 8) l4 → (vp_in (fI x4342 o 8) (fN x4342 (stC o 12)) ∧ ∀ x4343 : St, x4343 = setA x4342 (stC o 12) (fI x4342 o 8) l5 → (∀ x4344 : St, x4344 = setI x4343 o 8 ((fI x4343 o 8) + 1) → post x4344)))))) ∧ (¬ (fI x4336 o 8) < 64 → (∃ q4345 : Nat, fR x4336 o 17 = some q4345 ∧ wp_Scn_refuse (fun (x4346 : St) => post x4346) q4345 l2 x4336)))) ∧ (r4337 = 0 → post x4336))) q4335 x)
set_option maxHeartbeats 4000000 in
set_option maxRecDepth 100000 in
theorem t_Qry_addStep_e {p : Program} {l : Launch} {e : Env} {R : Room} {s : State} {m : MethodId} {args : Array Value} {below : List Frame} {meth : Method} {c : Code} {cells slots : Nat} {Q : State → Prop} {dC : Nat → ClassId} {dI : Nat → Nat → Nat} {cI cB cJ cZ : ClassId} {A : Nat → Prop} {ad : Nat → Nat} {NN : Nat} {E : Heap} {tM tC : Nat} {kK kV : Nat → Nat} {post : St → Prop} (hx : p.tables.exec = Jvm.exec) (hb : c.code = b_Qry_addStep) (hml : c.maxLocals = 6) (hown : s.vm.findClass R_Qry = some m.cls) (hT : ∀ w ∈ TG, w.before args s = true) (hK : va_K (dC, dI) CL (TY cI cB cJ cZ) s) (hN : NW s) (hA : ∀ q : Nat, s.heap.size ≤ q → A q) (hRc : cells ≤ R.cells) (hRs : slots ≤ R.slots) (hRf : 1 ≤ R.frames) (hRl : 21 ≤ R.locals) (hNN : 152 ≤ NN) (hE : CE E tM tC kK kV A s) (hret : ∀ (x : St) (H : Heap) (locs : List Loc) (pc : Nat) (ls : Array Slot), decode b_Qry_addStep pc = .ok (.return_, 1) → post x → Wd dC dI cI cB cJ cZ ad stC kcC NN A x H → va_S A s.heap H locs → W p l e R s m args below meth c H locs cells slots Q (F0 m pc ls [])) : ∀ (o : Nat) (l1 : Int32) (l2 : Int32) (l3 : Int32) (l4 : Int32) (l5 : Int32) (x : St) (H : Heap) (locs : List Loc) (ls : Array Slot), (o < NN ∧ kcC o = 9) → wp_Qry_addStep post o l1 l2 l3 l4 l5 x → Wd dC dI cI cB cJ cZ ad stC kcC NN A x H → va_S A s.heap H locs → lv_has ls 6 [(0, .ref (ad o)), (1, .int l1), (2, .int l2), (3, .int l3), (4, .int l4), (5, .int l5)] → W p l e R s m args below meth c H locs cells slots Q (F0 m 0 ls []) := by
  intro o l1 l2 l3 l4 l5 x H locs ls fo hw hW hS hl
  unfold wp_Qry_addStep at hw
  refine lv_aload_n hx hb d_Qry_addStep_0 rfl (lv_at hl 0 rfl) ?_
  obtain ⟨q4335, hq4335, hw⟩ := hw
  refine w_getr (q := q4335) (k := 17) (t := 9) (C := R_Qry) (T := F_Qry) (N := 20) hx hb hT hown hK hW fo.1 fo.2 (by decide) in_Qry rfl rfl (by decide) rfl fr_Qry_17 w_3_105 d_Qry_addStep_1 hq4335 (fun aq4335 bq4335 => ?_)
  have fq4335 : q4335 < NN ∧ kcC q4335 = 2 := ⟨aq4335, bq4335⟩
  have hF := hW.free hS hA
  refine va_calli (va_runV (C := R_Scn) (As := []) (rest := []) ⟨hx, hb, hml, hown, hT⟩ (k_Scn_good l dC dI cI cB cJ cZ ad NN E tM tC kK kV hNN H.size q4335 x fq4335 hw) ⟨callB_of 0 hT (gw_in w_4_106) rfl rfl rfl (hT _ w_1_4) (hT _ w_7_147) (by decide +kernel) ⟨Nat.le_trans (by decide) hRf, Nat.le_trans (by decide) hRl⟩, hT _ w_4_104, hT _ w_4_105⟩ ⟨PV.blind, va_recv hK hW.1 (ci := 2) (q0 := q4335) rfl (pic_obj fq4335.1 fq4335.2 (by decide)), PV.at _ hW hK hN hE hS hF⟩ rfl rfl hl.1 rfl (lv_room (Nat.le_of_ble_eq_true rfl)) d_Qry_addStep_4 ⟨hRc, hRs⟩) hS (fun q _ h => hF q h) hF (fun r4337 x4336 t H locs ht hvm hw hB hz1 hk1 hS => ?_)
  have hW := Wd.back hB ht hF
  clear hB ht hF hz1 hk1 hvm
  refine lv_if_ne (tgt := 11) hx hb d_Qry_addStep_7 (by decide) (fun c4338 => ?_) (fun c4338 => ?_)
  · have hw := hw.1 c4338
    refine lv_aload_n hx hb d_Qry_addStep_11 rfl (lv_at hl 0 rfl) ?_
    refine w_geti (k := 8) (t := 9) (C := R_Qry) (T := F_Qry) (N := 20) hx hb hT hown hK hW fo.1 fo.2 (by decide) in_Qry rfl rfl (by decide) rfl fr_Qry_8 w_3_89 d_Qry_addStep_12 ?_
    refine lv_bipush (v := 64) hx hb d_Qry_addStep_15 (by decide) ?_
    refine lv_icmp_lt (tgt := 29) hx hb d_Qry_addStep_17 (by decide) (fun c4339 => ?_) (fun c4339 => ?_)
    · have hw := hw.1 c4339
      refine lv_aload_n hx hb d_Qry_addStep_29 rfl (lv_at hl 0 rfl) ?_
      refine w_getf (q := (stC o 9)) (k := 9) (t := 9) (C := R_Qry) (T := F_Qry) (N := 20) hx hb hT hown hK hW fo.1 fo.2 (by decide) in_Qry rfl rfl (by decide) rfl fr_Qry_9 w_3_91 d_Qry_addStep_30 rfl ?_
      refine lv_aload_n hx hb d_Qry_addStep_33 rfl (lv_at hl 0 rfl) ?_
      refine w_geti (k := 8) (t := 9) (C := R_Qry) (T := F_Qry) (N := 20) hx hb hT hown hK hW fo.1 fo.2 (by decide) in_Qry rfl rfl (by decide) rfl fr_Qry_8 w_3_89 d_Qry_addStep_34 ?_
      refine lv_iload_n hx hb d_Qry_addStep_37 rfl (lv_at hl 1 rfl) ?_
      obtain ⟨hi, hw⟩ := hw
      refine w_iast (o := (stC o 9)) hx hb hK hW hS (st_ty hNN fo.1 fo.2 rfl).1 (st_ty hNN fo.1 fo.2 rfl).2 hi d_Qry_addStep_38 (fun H locs hW hS => ?_)
      obtain ⟨x4340, ex4340⟩ : ∃ y : St, y = setA x4336 (stC o 9) (fI x4336 o 8) l1 := ⟨_, rfl⟩
      rw [← ex4340] at hW
      have hw := hw x4340 ex4340
      refine lv_aload_n hx hb d_Qry_addStep_39 rfl (lv_at hl 0 rfl) ?_
      refine w_getf (q := (stC o 10)) (k := 10) (t := 9) (C := R_Qry) (T := F_Qry) (N := 20) hx hb hT hown hK hW fo.1 fo.2 (by decide) in_Qry rfl rfl (by decide) rfl fr_Qry_10 w_3_93 d_Qry_addStep_40 rfl ?_
      refine lv_aload_n hx hb d_Qry_addStep_43 rfl (lv_at hl 0 rfl) ?_
      refine w_geti (k := 8) (t := 9) (C := R_Qry) (T := F_Qry) (N := 20) hx hb hT hown hK hW fo.1 fo.2 (by decide) in_Qry rfl rfl (by decide) rfl fr_Qry_8 w_3_89 d_Qry_addStep_44 ?_
      refine lv_iload_n hx hb d_Qry_addStep_47 rfl (lv_at hl 3 rfl) ?_
      obtain ⟨hi, hw⟩ := hw
      refine w_iast (o := (stC o 10)) hx hb hK hW hS (st_ty hNN fo.1 fo.2 rfl).1 (st_ty hNN fo.1 fo.2 rfl).2 hi d_Qry_addStep_48 (fun H locs hW hS => ?_)
      obtain ⟨x4341, ex4341⟩ : ∃ y : St, y = setA x4340 (stC o 10) (fI x4340 o 8) l3 := ⟨_, rfl⟩
      rw [← ex4341] at hW
      have hw := hw x4341 ex4341
      refine lv_aload_n hx hb d_Qry_addStep_49 rfl (lv_at hl 0 rfl) ?_
      refine w_getf (q := (stC o 11)) (k := 11) (t := 9) (C := R_Qry) (T := F_Qry) (N := 20) hx hb hT hown hK hW fo.1 fo.2 (by decide) in_Qry rfl rfl (by decide) rfl fr_Qry_11 w_3_95 d_Qry_addStep_50 rfl ?_
      refine lv_aload_n hx hb d_Qry_addStep_53 rfl (lv_at hl 0 rfl) ?_
      refine w_geti (k := 8) (t := 9) (C := R_Qry) (T := F_Qry) (N := 20) hx hb hT hown hK hW fo.1 fo.2 (by decide) in_Qry rfl rfl (by decide) rfl fr_Qry_8 w_3_89 d_Qry_addStep_54 ?_
      refine lv_iload hx hb d_Qry_addStep_57 (lv_at hl 4 rfl) ?_
      obtain ⟨hi, hw⟩ := hw
      refine w_iast (o := (stC o 11)) hx hb hK hW hS (st_ty hNN fo.1 fo.2 rfl).1 (st_ty hNN fo.1 fo.2 rfl).2 hi d_Qry_addStep_59 (fun H locs hW hS => ?_)
      obtain ⟨x4342, ex4342⟩ : ∃ y : St, y = setA x4341 (stC o 11) (fI x4341 o 8) l4 := ⟨_, rfl⟩
      rw [← ex4342] at hW
      have hw := hw x4342 ex4342
      refine lv_aload_n hx hb d_Qry_addStep_60 rfl (lv_at hl 0 rfl) ?_
      refine w_getf (q := (stC o 12)) (k := 12) (t := 9) (C := R_Qry) (T := F_Qry) (N := 20) hx hb hT hown hK hW fo.1 fo.2 (by decide) in_Qry rfl rfl (by decide) rfl fr_Qry_12 w_3_97 d_Qry_addStep_61 rfl ?_
      refine lv_aload_n hx hb d_Qry_addStep_64 rfl (lv_at hl 0 rfl) ?_
      refine w_geti (k := 8) (t := 9) (C := R_Qry) (T := F_Qry) (N := 20) hx hb hT hown hK hW fo.1 fo.2 (by decide) in_Qry rfl rfl (by decide) rfl fr_Qry_8 w_3_89 d_Qry_addStep_65 ?_
      refine lv_iload hx hb d_Qry_addStep_68 (lv_at hl 5 rfl) ?_
      obtain ⟨hi, hw⟩ := hw
      refine w_iast (o := (stC o 12)) hx hb hK hW hS (st_ty hNN fo.1 fo.2 rfl).1 (st_ty hNN fo.1 fo.2 rfl).2 hi d_Qry_addStep_70 (fun H locs hW hS => ?_)
      obtain ⟨x4343, ex4343⟩ : ∃ y : St, y = setA x4342 (stC o 12) (fI x4342 o 8) l5 := ⟨_, rfl⟩
      rw [← ex4343] at hW
      have hw := hw x4343 ex4343
      refine lv_aload_n hx hb d_Qry_addStep_71 rfl (lv_at hl 0 rfl) ?_
      refine lv_dup hx hb d_Qry_addStep_72 rfl ?_
      refine w_geti (k := 8) (t := 9) (C := R_Qry) (T := F_Qry) (N := 20) hx hb hT hown hK hW fo.1 fo.2 (by decide) in_Qry rfl rfl (by decide) rfl fr_Qry_8 w_3_89 d_Qry_addStep_73 ?_
      refine lv_iconst (v := 1) hx hb d_Qry_addStep_76 (by decide) ?_
      refine lv_iadd hx hb d_Qry_addStep_77 ?_
      refine w_puti (ty := .int) (k := 8) (t := 9) (C := R_Qry) (T := F_Qry) (N := 20) hx hb hT hown hK hW hS fo.1 fo.2 (by decide) in_Qry t_Qry t_Qry_ok n_Qry rfl rfl (by decide) rfl fr_Qry_8 w_3_89 (by decide +kernel) rfl rfl d_Qry_addStep_78 (fun H locs hW hS => ?_)
      obtain ⟨x4344, ex4344⟩ : ∃ y : St, y = setI x4343 o 8 ((fI x4343 o 8) + 1) := ⟨_, rfl⟩
      rw [← ex4344] at hW
      have hw := hw x4344 ex4344
      exact hret x4344 H locs 81 ls d_Qry_addStep_81 hw hW hS
    · have hw := hw.2 c4339
      refine lv_aload_n hx hb d_Qry_addStep_20 rfl (lv_at hl 0 rfl) ?_
      obtain ⟨q4345, hq4345, hw⟩ := hw
      refine w_getr (q := q4345) (k := 17) (t := 9) (C := R_Qry) (T := F_Qry) (N := 20) hx hb hT hown hK hW fo.1 fo.2 (by decide) in_Qry rfl rfl (by decide) rfl fr_Qry_17 w_3_105 d_Qry_addStep_21 hq4345 (fun aq4345 bq4345 => ?_)
      have fq4345 : q4345 < NN ∧ kcC q4345 = 2 := ⟨aq4345, bq4345⟩
      refine lv_iload_n hx hb d_Qry_addStep_24 rfl (lv_at hl 2 rfl) ?_
      have hF := hW.free hS hA
      refine va_callv (va_runV (C := R_Scn) (As := [.int l2]) (rest := []) ⟨hx, hb, hml, hown, hT⟩ (k_Scn_refuse l dC dI cI cB cJ cZ ad NN E tM tC kK kV hNN H.size q4345 l2 x4336 fq4345 hw) ⟨callB_of 1 hT (gw_in w_4_128) rfl rfl rfl (hT _ w_1_4) (hT _ w_7_149) (by decide +kernel) ⟨Nat.le_trans (by decide) hRf, Nat.le_trans (by decide) hRl⟩, hT _ w_4_126, hT _ w_4_127⟩ ⟨PV.blind, va_recv hK hW.1 (ci := 2) (q0 := q4345) rfl (pic_obj fq4345.1 fq4345.2 (by decide)), PV.at _ hW hK hN hE hS hF⟩ rfl rfl hl.1 rfl (lv_room (Nat.le_of_ble_eq_true rfl)) d_Qry_addStep_25 ⟨hRc, hRs⟩) hS (fun q _ h => hF q h) hF (fun  x4346 t H locs ht hvm hw hB hz1 hk1 hS => ?_)
      have hW := Wd.back hB ht hF
      clear hB ht hF hz1 hk1 hvm
      exact hret x4346 H locs 28 ls d_Qry_addStep_28 hw hW hS
  · have hw := hw.2 c4338
    exact hret x4336 H locs 10 ls d_Qry_addStep_10 hw hW hS
set_option maxHeartbeats 4000000 in
set_option maxRecDepth 100000 in
theorem k_Qry_addStep (l : Launch) (dC : Nat → ClassId) (dI : Nat → Nat → Nat) (cI cB cJ cZ : ClassId) (ad : Nat → Nat) (NN : Nat) (E : Heap) (tM tC : Nat) (kK kV : Nat → Nat) (hNN : 152 ≤ NN) (sz : Nat) (o : Nat) (l1 : Int32) (l2 : Int32) (l3 : Int32) (l4 : Int32) (l5 : Int32) (x : St) (fo : o < NN ∧ kcC o = 9) {post : St → Prop} (hw : wp_Qry_addStep post o l1 l2 l3 l4 l5 x) : Met l y_Qry_addStep (wsOf y_Qry_addStep b_Qry_addStep 6 (none)) ({ frames := 1, cells := 0, slots := 0, locals := 21 }) (va_Pc [.ref (ad o), .int l1, .int l2, .int l3, .int l4, .int l5] (PV dC dI cI cB cJ cZ ad stC kcC NN E tM tC kK kV sz x)) (va_Qv (fun (y : St) => post y) (fun y t => Wd dC dI cI cB cJ cZ ad stC kcC NN (va_A (pic ad stC kcC NN cI cB cJ cZ x) sz) y t.heap) (va_A (pic ad stC kcC NN cI cB cJ cZ x) sz)) 0 0 (va_A (pic ad stC kcC NN cI cB cJ cZ x) sz) := by
  refine Met.ofW (cc := b_Qry_addStep) (maxL := 6) (ret := none) (by decide) rfl ?_
  intro p e s m args below meth c s₁ B hml hv
  obtain ⟨rfl, ⟨hsz, hW0, hK, hN⟩, hE⟩ := hv
  have hx := B.exec
  have hb := B.bytes
  have hr := B.returns
  have hts := atoms_spec B.pre
  have hT : ∀ w ∈ TG, w.before _ s = true := fun w h => hts w (List.mem_cons_of_mem _ h)
  have hown : s.vm.findClass R_Qry = some m.cls := findClass_of_methodNamed B.named
  have hlocks := B.notSynchronized
  subst hsz
  have hW : Wd dC dI cI cB cJ cZ ad stC kcC NN (va_A (pic ad stC kcC NN cI cB cJ cZ x) s.heap.size) x s.heap := ⟨hW0.1, hW0.2.1.self (sz := s.heap.size), hW0.2.2⟩
  generalize hAe : va_A (pic ad stC kcC NN cI cB cJ cZ x) s.heap.size = A at hW hE ⊢
  have hA : ∀ q : Nat, s.heap.size ≤ q → A q := fun q h => by rw [← hAe]; exact Or.inr h
  have hS : va_S A s.heap s.heap [] := va_S.rf
  have hl := lv_entry ([.ref (ad o), .int l1, .int l2, .int l3, .int l4, .int l5]) (n := 6) (Nat.le_of_ble_eq_true rfl)
  rw [lg_entry_eq]
  generalize (lg_sl ([.ref (ad o), .int l1, .int l2, .int l3, .int l4, .int l5]) ++ List.replicate (6 - (lg_sl ([.ref (ad o), .int l1, .int l2, .int l3, .int l4, .int l5])).length) Slot.unset).toArray = ls at hl ⊢
  have hl : lv_has ls 6 [(0, .ref (ad o)), (1, .int l1), (2, .int l2), (3, .int l3), (4, .int l4), (5, .int l5)] := hl
  exact t_Qry_addStep_e hx hb hml hown hT hK hN hA (Nat.le_refl 0) (Nat.le_refl 0) (Nat.le_refl 1) (Nat.le_refl 21) hNN hE (fun x H locs pc ls hd hp hW hS => W.vret hx hb hr (fun t ht hM => ⟨⟨x, rfl, hp, Wd.back hW ht.symm (fun _ z => z)⟩, hS.F ht⟩) hS.2.2 hd hlocks)  o l1 l2 l3 l4 l5 x _ _ ls fo hw hW hS hl
set_option maxRecDepth 100000 in
def j_Qry_readLiteral_202 (post : St → Prop) (o : Nat) (l1 : Int32) (l2 : Int32) (l3 : Int32) (l4 : Int32) (l5 : Int64) (x : St) : Prop := (∃ q4347 : Nat, fR x o 17 = some q4347 ∧ wp_Scn_good (fun (r4349 : Int32) (x4348 : St) => ((r4349 = 0 → post x4348) ∧ (¬ r4349 = 0 → (vp_in (fI x4348 o 13) (fN x4348 (stC o 14)) ∧ ∀ x4351 : St, x4351 = setL x4348 (stC o 14) (fI x4348 o 13) l5 → (∀ x4352 : St, x4352 = setI x4351 o 13 ((fI x4351 o 13) + 1) → post x4352))))) q4347 x)
set_option maxHeartbeats 4000000 in
set_option maxRecDepth 100000 in
theorem t_Qry_readLiteral_202 {p : Program} {l : Launch} {e : Env} {R : Room} {s : State} {m : MethodId} {args : Array Value} {below : List Frame} {meth : Method} {c : Code} {cells slots : Nat} {Q : State → Prop} {dC : Nat → ClassId} {dI : Nat → Nat → Nat} {cI cB cJ cZ : ClassId} {A : Nat → Prop} {ad : Nat → Nat} {NN : Nat} {E : Heap} {tM tC : Nat} {kK kV : Nat → Nat} {post : St → Prop} (hx : p.tables.exec = Jvm.exec) (hb : c.code = b_Qry_readLiteral) (hml : c.maxLocals = 7) (hown : s.vm.findClass R_Qry = some m.cls) (hT : ∀ w ∈ TG, w.before args s = true) (hK : va_K (dC, dI) CL (TY cI cB cJ cZ) s) (hN : NW s) (hA : ∀ q : Nat, s.heap.size ≤ q → A q) (hRc : cells ≤ R.cells) (hRs : slots ≤ R.slots) (hRf : 6 ≤ R.frames) (hRl : 243 ≤ R.locals) (hNN : 152 ≤ NN) (hE : CE E tM tC kK kV A s) (hret : ∀ (x : St) (H : Heap) (locs : List Loc) (pc : Nat) (ls : Array Slot), decode b_Qry_readLiteral pc = .ok (.return_, 1) → post x → Wd dC dI cI cB cJ cZ ad stC kcC NN A x H → va_S A s.heap H locs → W p l e R s m args below meth c H locs cells slots Q (F0 m pc ls []))  : ∀ (o : Nat) (l1 : Int32) (l2 : Int32) (l3 : Int32) (l4 : Int32) (l5 : Int64) (x : St) (H : Heap) (locs : List Loc) (ls : Array Slot), (o < NN ∧ kcC o = 9) → j_Qry_readLiteral_202 post o l1 l2 l3 l4 l5 x → Wd dC dI cI cB cJ cZ ad stC kcC NN A x H → va_S A s.heap H locs → lv_has ls 7 [(0, .ref (ad o)), (1, .int l1), (2, .int l2), (3, .int l3), (4, .int l4), (5, .long l5)] → W p l e R s m args below meth c H locs cells slots Q (F0 m 202 ls []) := by
  intro o l1 l2 l3 l4 l5 x H locs ls fo hw hW hS hl
  unfold j_Qry_readLiteral_202 at hw
  refine lv_aload_n hx hb d_Qry_readLiteral_202 rfl (lv_at hl 0 rfl) ?_
  obtain ⟨q4347, hq4347, hw⟩ := hw
  refine w_getr (q := q4347) (k := 17) (t := 9) (C := R_Qry) (T := F_Qry) (N := 20) hx hb hT hown hK hW fo.1 fo.2 (by decide) in_Qry rfl rfl (by decide) rfl fr_Qry_17 w_3_105 d_Qry_readLiteral_203 hq4347 (fun aq4347 bq4347 => ?_)
  have fq4347 : q4347 < NN ∧ kcC q4347 = 2 := ⟨aq4347, bq4347⟩
  have hF := hW.free hS hA
  refine va_calli (va_runV (C := R_Scn) (As := []) (rest := []) ⟨hx, hb, hml, hown, hT⟩ (k_Scn_good l dC dI cI cB cJ cZ ad NN E tM tC kK kV hNN H.size q4347 x fq4347 hw) ⟨callB_of 0 hT (gw_in w_4_106) rfl rfl rfl (hT _ w_1_4) (hT _ w_7_147) (by decide +kernel) ⟨Nat.le_trans (by decide) hRf, Nat.le_trans (by decide) hRl⟩, hT _ w_4_104, hT _ w_4_105⟩ ⟨PV.blind, va_recv hK hW.1 (ci := 2) (q0 := q4347) rfl (pic_obj fq4347.1 fq4347.2 (by decide)), PV.at _ hW hK hN hE hS hF⟩ rfl rfl hl.1 rfl (lv_room (Nat.le_of_ble_eq_true rfl)) d_Qry_readLiteral_206 ⟨hRc, hRs⟩) hS (fun q _ h => hF q h) hF (fun r4349 x4348 t H locs ht hvm hw hB hz1 hk1 hS => ?_)
  have hW := Wd.back hB ht hF
  clear hB ht hF hz1 hk1 hvm
  refine lv_if_eq (tgt := 233) hx hb d_Qry_readLiteral_209 (by decide) (fun c4350 => ?_) (fun c4350 => ?_)
  · have hw := hw.1 c4350
    exact hret x4348 H locs 233 ls d_Qry_readLiteral_233 hw hW hS
  · have hw := hw.2 c4350
    refine lv_aload_n hx hb d_Qry_readLiteral_212 rfl (lv_at hl 0 rfl) ?_
    refine w_getf (q := (stC o 14)) (k := 14) (t := 9) (C := R_Qry) (T := F_Qry) (N := 20) hx hb hT hown hK hW fo.1 fo.2 (by decide) in_Qry rfl rfl (by decide) rfl fr_Qry_14 w_3_100 d_Qry_readLiteral_213 rfl ?_
    refine lv_aload_n hx hb d_Qry_readLiteral_216 rfl (lv_at hl 0 rfl) ?_
    refine w_geti (k := 13) (t := 9) (C := R_Qry) (T := F_Qry) (N := 20) hx hb hT hown hK hW fo.1 fo.2 (by decide) in_Qry rfl rfl (by decide) rfl fr_Qry_13 w_3_99 d_Qry_readLiteral_217 ?_
    refine lv_lload hx hb d_Qry_readLiteral_220 (lv_at hl 5 rfl) ?_
    obtain ⟨hi, hw⟩ := hw
    refine w_last (o := (stC o 14)) hx hb hK hW hS (st_ty hNN fo.1 fo.2 rfl).1 (st_ty hNN fo.1 fo.2 rfl).2 hi d_Qry_readLiteral_222 (fun H locs hW hS => ?_)
    obtain ⟨x4351, ex4351⟩ : ∃ y : St, y = setL x4348 (stC o 14) (fI x4348 o 13) l5 := ⟨_, rfl⟩
    rw [← ex4351] at hW
    have hw := hw x4351 ex4351
    refine lv_aload_n hx hb d_Qry_readLiteral_223 rfl (lv_at hl 0 rfl) ?_
    refine lv_dup hx hb d_Qry_readLiteral_224 rfl ?_
    refine w_geti (k := 13) (t := 9) (C := R_Qry) (T := F_Qry) (N := 20) hx hb hT hown hK hW fo.1 fo.2 (by decide) in_Qry rfl rfl (by decide) rfl fr_Qry_13 w_3_99 d_Qry_readLiteral_225 ?_
    refine lv_iconst (v := 1) hx hb d_Qry_readLiteral_228 (by decide) ?_
    refine lv_iadd hx hb d_Qry_readLiteral_229 ?_
    refine w_puti (ty := .int) (k := 13) (t := 9) (C := R_Qry) (T := F_Qry) (N := 20) hx hb hT hown hK hW hS fo.1 fo.2 (by decide) in_Qry t_Qry t_Qry_ok n_Qry rfl rfl (by decide) rfl fr_Qry_13 w_3_99 (by decide +kernel) rfl rfl d_Qry_readLiteral_230 (fun H locs hW hS => ?_)
    obtain ⟨x4352, ex4352⟩ : ∃ y : St, y = setI x4351 o 13 ((fI x4351 o 13) + 1) := ⟨_, rfl⟩
    rw [← ex4352] at hW
    have hw := hw x4352 ex4352
    exact hret x4352 H locs 233 ls d_Qry_readLiteral_233 hw hW hS
set_option maxRecDepth 100000 in
def j_Qry_readLiteral_194 (post : St → Prop) (o : Nat) (l1 : Int32) (l2 : Int32) (l3 : Int32) (l4 : Int32) (l5 : Int64) (x : St) : Prop := (∃ q4353 : Nat, fR x o 17 = some q4353 ∧ wp_Scn_refuse (fun (x4354 : St) => j_Qry_readLiteral_202 post o l1 l2 l3 l4 l5 x4354) q4353 l3 x)
set_option maxHeartbeats 4000000 in
set_option maxRecDepth 100000 in
theorem t_Qry_readLiteral_194 {p : Program} {l : Launch} {e : Env} {R : Room} {s : State} {m : MethodId} {args : Array Value} {below : List Frame} {meth : Method} {c : Code} {cells slots : Nat} {Q : State → Prop} {dC : Nat → ClassId} {dI : Nat → Nat → Nat} {cI cB cJ cZ : ClassId} {A : Nat → Prop} {ad : Nat → Nat} {NN : Nat} {E : Heap} {tM tC : Nat} {kK kV : Nat → Nat} {post : St → Prop} (hx : p.tables.exec = Jvm.exec) (hb : c.code = b_Qry_readLiteral) (hml : c.maxLocals = 7) (hown : s.vm.findClass R_Qry = some m.cls) (hT : ∀ w ∈ TG, w.before args s = true) (hK : va_K (dC, dI) CL (TY cI cB cJ cZ) s) (hN : NW s) (hA : ∀ q : Nat, s.heap.size ≤ q → A q) (hRc : cells ≤ R.cells) (hRs : slots ≤ R.slots) (hRf : 6 ≤ R.frames) (hRl : 243 ≤ R.locals) (hNN : 152 ≤ NN) (hE : CE E tM tC kK kV A s) (hret : ∀ (x : St) (H : Heap) (locs : List Loc) (pc : Nat) (ls : Array Slot), decode b_Qry_readLiteral pc = .ok (.return_, 1) → post x → Wd dC dI cI cB cJ cZ ad stC kcC NN A x H → va_S A s.heap H locs → W p l e R s m args below meth c H locs cells slots Q (F0 m pc ls []))  : ∀ (o : Nat) (l1 : Int32) (l2 : Int32) (l3 : Int32) (l4 : Int32) (l5 : Int64) (x : St) (H : Heap) (locs : List Loc) (ls : Array Slot), (o < NN ∧ kcC o = 9) → j_Qry_readLiteral_194 post o l1 l2 l3 l4 l5 x → Wd dC dI cI cB cJ cZ ad stC kcC NN A x H → va_S A s.heap H locs → lv_has ls 7 [(0, .ref (ad o)), (1, .int l1), (2, .int l2), (3, .int l3), (4, .int l4), (5, .long l5)] → W p l e R s m args below meth c H locs cells slots Q (F0 m 194 ls []) := by
  intro o l1 l2 l3 l4 l5 x H locs ls fo hw hW hS hl
  unfold j_Qry_readLiteral_194 at hw
  refine lv_aload_n hx hb d_Qry_readLiteral_194 rfl (lv_at hl 0 rfl) ?_
  obtain ⟨q4353, hq4353, hw⟩ := hw
  refine w_getr (q := q4353) (k := 17) (t := 9) (C := R_Qry) (T := F_Qry) (N := 20) hx hb hT hown hK hW fo.1 fo.2 (by decide) in_Qry rfl rfl (by decide) rfl fr_Qry_17 w_3_105 d_Qry_readLiteral_195 hq4353 (fun aq4353 bq4353 => ?_)
  have fq4353 : q4353 < NN ∧ kcC q4353 = 2 := ⟨aq4353, bq4353⟩
  refine lv_iload_n hx hb d_Qry_readLiteral_198 rfl (lv_at hl 3 rfl) ?_
  have hF := hW.free hS hA
  refine va_callv (va_runV (C := R_Scn) (As := [.int l3]) (rest := []) ⟨hx, hb, hml, hown, hT⟩ (k_Scn_refuse l dC dI cI cB cJ cZ ad NN E tM tC kK kV hNN H.size q4353 l3 x fq4353 hw) ⟨callB_of 1 hT (gw_in w_4_128) rfl rfl rfl (hT _ w_1_4) (hT _ w_7_149) (by decide +kernel) ⟨Nat.le_trans (by decide) hRf, Nat.le_trans (by decide) hRl⟩, hT _ w_4_126, hT _ w_4_127⟩ ⟨PV.blind, va_recv hK hW.1 (ci := 2) (q0 := q4353) rfl (pic_obj fq4353.1 fq4353.2 (by decide)), PV.at _ hW hK hN hE hS hF⟩ rfl rfl hl.1 rfl (lv_room (Nat.le_of_ble_eq_true rfl)) d_Qry_readLiteral_199 ⟨hRc, hRs⟩) hS (fun q _ h => hF q h) hF (fun  x4354 t H locs ht hvm hw hB hz1 hk1 hS => ?_)
  have hW := Wd.back hB ht hF
  clear hB ht hF hz1 hk1 hvm
  exact t_Qry_readLiteral_202 hx hb hml hown hT hK hN hA hRc hRs hRf hRl hNN hE hret  o l1 l2 l3 l4 l5 x4354 H locs ls fo hw hW hS (lv_sub hl [0, 1, 2, 3, 4, 5] rfl)
set_option maxRecDepth 100000 in
def j_Qry_readLiteral_180 (post : St → Prop) (o : Nat) (l1 : Int32) (l2 : Int32) (l3 : Int32) (l4 : Int32) (l5 : Int64) (x : St) : Prop := ((l4 = 0 → j_Qry_readLiteral_194 post o l1 l2 l3 l4 l5 x) ∧ (¬ l4 = 0 → (((fI x o 13) < 64 → j_Qry_readLiteral_202 post o l1 l2 l3 l4 l5 x) ∧ (¬ (fI x o 13) < 64 → j_Qry_readLiteral_194 post o l1 l2 l3 l4 l5 x))))
set_option maxHeartbeats 4000000 in
set_option maxRecDepth 100000 in
theorem t_Qry_readLiteral_180 {p : Program} {l : Launch} {e : Env} {R : Room} {s : State} {m : MethodId} {args : Array Value} {below : List Frame} {meth : Method} {c : Code} {cells slots : Nat} {Q : State → Prop} {dC : Nat → ClassId} {dI : Nat → Nat → Nat} {cI cB cJ cZ : ClassId} {A : Nat → Prop} {ad : Nat → Nat} {NN : Nat} {E : Heap} {tM tC : Nat} {kK kV : Nat → Nat} {post : St → Prop} (hx : p.tables.exec = Jvm.exec) (hb : c.code = b_Qry_readLiteral) (hml : c.maxLocals = 7) (hown : s.vm.findClass R_Qry = some m.cls) (hT : ∀ w ∈ TG, w.before args s = true) (hK : va_K (dC, dI) CL (TY cI cB cJ cZ) s) (hN : NW s) (hA : ∀ q : Nat, s.heap.size ≤ q → A q) (hRc : cells ≤ R.cells) (hRs : slots ≤ R.slots) (hRf : 6 ≤ R.frames) (hRl : 243 ≤ R.locals) (hNN : 152 ≤ NN) (hE : CE E tM tC kK kV A s) (hret : ∀ (x : St) (H : Heap) (locs : List Loc) (pc : Nat) (ls : Array Slot), decode b_Qry_readLiteral pc = .ok (.return_, 1) → post x → Wd dC dI cI cB cJ cZ ad stC kcC NN A x H → va_S A s.heap H locs → W p l e R s m args below meth c H locs cells slots Q (F0 m pc ls []))  : ∀ (o : Nat) (l1 : Int32) (l2 : Int32) (l3 : Int32) (l4 : Int32) (l5 : Int64) (x : St) (H : Heap) (locs : List Loc) (ls : Array Slot), (o < NN ∧ kcC o = 9) → j_Qry_readLiteral_180 post o l1 l2 l3 l4 l5 x → Wd dC dI cI cB cJ cZ ad stC kcC NN A x H → va_S A s.heap H locs → lv_has ls 7 [(0, .ref (ad o)), (1, .int l1), (2, .int l2), (3, .int l3), (4, .int l4), (5, .long l5)] → W p l e R s m args below meth c H locs cells slots Q (F0 m 180 ls []) := by
  intro o l1 l2 l3 l4 l5 x H locs ls fo hw hW hS hl
  unfold j_Qry_readLiteral_180 at hw
  refine lv_iload hx hb d_Qry_readLiteral_180 (lv_at hl 4 rfl) ?_
  refine lv_if_eq (tgt := 194) hx hb d_Qry_readLiteral_182 (by decide) (fun c4355 => ?_) (fun c4355 => ?_)
  · have hw := hw.1 c4355
    exact t_Qry_readLiteral_194 hx hb hml hown hT hK hN hA hRc hRs hRf hRl hNN hE hret  o l1 l2 l3 l4 l5 x H locs ls fo hw hW hS (lv_sub hl [0, 1, 2, 3, 4, 5] rfl)
  · have hw := hw.2 c4355
    refine lv_aload_n hx hb d_Qry_readLiteral_185 rfl (lv_at hl 0 rfl) ?_
    refine w_geti (k := 13) (t := 9) (C := R_Qry) (T := F_Qry) (N := 20) hx hb hT hown hK hW fo.1 fo.2 (by decide) in_Qry rfl rfl (by decide) rfl fr_Qry_13 w_3_99 d_Qry_readLiteral_186 ?_
    refine lv_bipush (v := 64) hx hb d_Qry_readLiteral_189 (by decide) ?_
    refine lv_icmp_lt (tgt := 202) hx hb d_Qry_readLiteral_191 (by decide) (fun c4356 => ?_) (fun c4356 => ?_)
    · have hw := hw.1 c4356
      exact t_Qry_readLiteral_202 hx hb hml hown hT hK hN hA hRc hRs hRf hRl hNN hE hret  o l1 l2 l3 l4 l5 x H locs ls fo hw hW hS (lv_sub hl [0, 1, 2, 3, 4, 5] rfl)
    · have hw := hw.2 c4356
      exact t_Qry_readLiteral_194 hx hb hml hown hT hK hN hA hRc hRs hRf hRl hNN hE hret  o l1 l2 l3 l4 l5 x H locs ls fo hw hW hS (lv_sub hl [0, 1, 2, 3, 4, 5] rfl)
set_option maxRecDepth 100000 in
def j_Qry_readLiteral_178 (post : St → Prop) (o : Nat) (l1 : Int32) (l2 : Int32) (l3 : Int32) (l5 : Int64) (s0 : Int32) (x : St) : Prop := j_Qry_readLiteral_180 post o l1 l2 l3 s0 l5 x
set_option maxHeartbeats 4000000 in
set_option maxRecDepth 100000 in
theorem t_Qry_readLiteral_178 {p : Program} {l : Launch} {e : Env} {R : Room} {s : State} {m : MethodId} {args : Array Value} {below : List Frame} {meth : Method} {c : Code} {cells slots : Nat} {Q : State → Prop} {dC : Nat → ClassId} {dI : Nat → Nat → Nat} {cI cB cJ cZ : ClassId} {A : Nat → Prop} {ad : Nat → Nat} {NN : Nat} {E : Heap} {tM tC : Nat} {kK kV : Nat → Nat} {post : St → Prop} (hx : p.tables.exec = Jvm.exec) (hb : c.code = b_Qry_readLiteral) (hml : c.maxLocals = 7) (hown : s.vm.findClass R_Qry = some m.cls) (hT : ∀ w ∈ TG, w.before args s = true) (hK : va_K (dC, dI) CL (TY cI cB cJ cZ) s) (hN : NW s) (hA : ∀ q : Nat, s.heap.size ≤ q → A q) (hRc : cells ≤ R.cells) (hRs : slots ≤ R.slots) (hRf : 6 ≤ R.frames) (hRl : 243 ≤ R.locals) (hNN : 152 ≤ NN) (hE : CE E tM tC kK kV A s) (hret : ∀ (x : St) (H : Heap) (locs : List Loc) (pc : Nat) (ls : Array Slot), decode b_Qry_readLiteral pc = .ok (.return_, 1) → post x → Wd dC dI cI cB cJ cZ ad stC kcC NN A x H → va_S A s.heap H locs → W p l e R s m args below meth c H locs cells slots Q (F0 m pc ls []))  : ∀ (o : Nat) (l1 : Int32) (l2 : Int32) (l3 : Int32) (l5 : Int64) (s0 : Int32) (x : St) (H : Heap) (locs : List Loc) (ls : Array Slot), (o < NN ∧ kcC o = 9) → j_Qry_readLiteral_178 post o l1 l2 l3 l5 s0 x → Wd dC dI cI cB cJ cZ ad stC kcC NN A x H → va_S A s.heap H locs → lv_has ls 7 [(0, .ref (ad o)), (1, .int l1), (2, .int l2), (3, .int l3), (5, .long l5)] → W p l e R s m args below meth c H locs cells slots Q (F0 m 178 ls [.int s0]) := by
  intro o l1 l2 l3 l5 s0 x H locs ls fo hw hW hS hl
  unfold j_Qry_readLiteral_178 at hw
  refine lv_istore (lv' := [(4, .int s0), (0, .ref (ad o)), (1, .int l1), (2, .int l2), (3, .int l3), (5, .long l5)]) hx hb d_Qry_readLiteral_178 hl (by decide) rfl (fun ls hl => ?_)
  exact t_Qry_readLiteral_180 hx hb hml hown hT hK hN hA hRc hRs hRf hRl hNN hE hret  o l1 l2 l3 s0 l5 x H locs ls fo hw hW hS (lv_sub hl [1, 2, 3, 4, 0, 5] rfl)
set_option maxRecDepth 100000 in
def j_Qry_readLiteral_169 (post : St → Prop) (o : Nat) (l1 : Int32) (l2 : Int32) (l3 : Int32) (l5 : Int64) (x : St) : Prop := ((¬ l1 = 0 → j_Qry_readLiteral_178 post o l1 l2 l3 l5 0 x) ∧ (l1 = 0 → j_Qry_readLiteral_178 post o l1 l2 l3 l5 1 x))
set_option maxHeartbeats 4000000 in
set_option maxRecDepth 100000 in
theorem t_Qry_readLiteral_169 {p : Program} {l : Launch} {e : Env} {R : Room} {s : State} {m : MethodId} {args : Array Value} {below : List Frame} {meth : Method} {c : Code} {cells slots : Nat} {Q : State → Prop} {dC : Nat → ClassId} {dI : Nat → Nat → Nat} {cI cB cJ cZ : ClassId} {A : Nat → Prop} {ad : Nat → Nat} {NN : Nat} {E : Heap} {tM tC : Nat} {kK kV : Nat → Nat} {post : St → Prop} (hx : p.tables.exec = Jvm.exec) (hb : c.code = b_Qry_readLiteral) (hml : c.maxLocals = 7) (hown : s.vm.findClass R_Qry = some m.cls) (hT : ∀ w ∈ TG, w.before args s = true) (hK : va_K (dC, dI) CL (TY cI cB cJ cZ) s) (hN : NW s) (hA : ∀ q : Nat, s.heap.size ≤ q → A q) (hRc : cells ≤ R.cells) (hRs : slots ≤ R.slots) (hRf : 6 ≤ R.frames) (hRl : 243 ≤ R.locals) (hNN : 152 ≤ NN) (hE : CE E tM tC kK kV A s) (hret : ∀ (x : St) (H : Heap) (locs : List Loc) (pc : Nat) (ls : Array Slot), decode b_Qry_readLiteral pc = .ok (.return_, 1) → post x → Wd dC dI cI cB cJ cZ ad stC kcC NN A x H → va_S A s.heap H locs → W p l e R s m args below meth c H locs cells slots Q (F0 m pc ls []))  : ∀ (o : Nat) (l1 : Int32) (l2 : Int32) (l3 : Int32) (l5 : Int64) (x : St) (H : Heap) (locs : List Loc) (ls : Array Slot), (o < NN ∧ kcC o = 9) → j_Qry_readLiteral_169 post o l1 l2 l3 l5 x → Wd dC dI cI cB cJ cZ ad stC kcC NN A x H → va_S A s.heap H locs → lv_has ls 7 [(0, .ref (ad o)), (1, .int l1), (2, .int l2), (3, .int l3), (5, .long l5)] → W p l e R s m args below meth c H locs cells slots Q (F0 m 169 ls []) := by
  intro o l1 l2 l3 l5 x H locs ls fo hw hW hS hl
  unfold j_Qry_readLiteral_169 at hw
  refine lv_iload_n hx hb d_Qry_readLiteral_169 rfl (lv_at hl 1 rfl) ?_
  refine lv_if_ne (tgt := 177) hx hb d_Qry_readLiteral_170 (by decide) (fun c4357 => ?_) (fun c4357 => ?_)
  · have hw := hw.1 c4357
    refine lv_iconst (v := 0) hx hb d_Qry_readLiteral_177 (by decide) ?_
    exact t_Qry_readLiteral_178 hx hb hml hown hT hK hN hA hRc hRs hRf hRl hNN hE hret  o l1 l2 l3 l5 0 x H locs ls fo hw hW hS (lv_sub hl [0, 1, 2, 3, 4] rfl)
  · have hw := hw.2 c4357
    refine lv_iconst (v := 1) hx hb d_Qry_readLiteral_173 (by decide) ?_
    refine lv_goto (tgt := 178) hx hb d_Qry_readLiteral_174 (by decide) ?_
    exact t_Qry_readLiteral_178 hx hb hml hown hT hK hN hA hRc hRs hRf hRl hNN hE hret  o l1 l2 l3 l5 1 x H locs ls fo hw hW hS (lv_sub hl [0, 1, 2, 3, 4] rfl)
set_option maxRecDepth 100000 in
def j_Qry_readLiteral_140 (post : St → Prop) (o : Nat) (l1 : Int32) (l2 : Int32) (l3 : Int32) (l5 : Int64) (s0 : Int64) (x : St) : Prop := ((¬ (lg_cmp s0 0) = 0 → j_Qry_readLiteral_169 post o l1 l2 l3 s0 x) ∧ ((lg_cmp s0 0) = 0 → (∃ q4359 : Nat, fR x o 17 = some q4359 ∧ wp_Scn_takeWord (fun (r4361 : Int32) (x4360 : St) => ((¬ r4361 = 0 → j_Qry_readLiteral_169 post o l1 l2 l3 s0 x4360) ∧ (r4361 = 0 → (∃ q4363 : Nat, fR x4360 o 17 = some q4363 ∧ wp_Scn_refuse (fun (x4364 : St) => j_Qry_readLiteral_169 post o l1 l2 l3 s0 x4364) q4363 l3 x4360)))) q4359 9 x)))
set_option maxHeartbeats 4000000 in
set_option maxRecDepth 100000 in
theorem t_Qry_readLiteral_140 {p : Program} {l : Launch} {e : Env} {R : Room} {s : State} {m : MethodId} {args : Array Value} {below : List Frame} {meth : Method} {c : Code} {cells slots : Nat} {Q : State → Prop} {dC : Nat → ClassId} {dI : Nat → Nat → Nat} {cI cB cJ cZ : ClassId} {A : Nat → Prop} {ad : Nat → Nat} {NN : Nat} {E : Heap} {tM tC : Nat} {kK kV : Nat → Nat} {post : St → Prop} (hx : p.tables.exec = Jvm.exec) (hb : c.code = b_Qry_readLiteral) (hml : c.maxLocals = 7) (hown : s.vm.findClass R_Qry = some m.cls) (hT : ∀ w ∈ TG, w.before args s = true) (hK : va_K (dC, dI) CL (TY cI cB cJ cZ) s) (hN : NW s) (hA : ∀ q : Nat, s.heap.size ≤ q → A q) (hRc : cells ≤ R.cells) (hRs : slots ≤ R.slots) (hRf : 6 ≤ R.frames) (hRl : 243 ≤ R.locals) (hNN : 152 ≤ NN) (hE : CE E tM tC kK kV A s) (hret : ∀ (x : St) (H : Heap) (locs : List Loc) (pc : Nat) (ls : Array Slot), decode b_Qry_readLiteral pc = .ok (.return_, 1) → post x → Wd dC dI cI cB cJ cZ ad stC kcC NN A x H → va_S A s.heap H locs → W p l e R s m args below meth c H locs cells slots Q (F0 m pc ls []))  : ∀ (o : Nat) (l1 : Int32) (l2 : Int32) (l3 : Int32) (l5 : Int64) (s0 : Int64) (x : St) (H : Heap) (locs : List Loc) (ls : Array Slot), (o < NN ∧ kcC o = 9) → j_Qry_readLiteral_140 post o l1 l2 l3 l5 s0 x → Wd dC dI cI cB cJ cZ ad stC kcC NN A x H → va_S A s.heap H locs → lv_has ls 7 [(0, .ref (ad o)), (1, .int l1), (2, .int l2), (3, .int l3), (5, .long l5)] → W p l e R s m args below meth c H locs cells slots Q (F0 m 140 ls [.long s0]) := by
  intro o l1 l2 l3 l5 s0 x H locs ls fo hw hW hS hl
  unfold j_Qry_readLiteral_140 at hw
  refine lv_lstore (lv' := [(5, .long s0), (0, .ref (ad o)), (1, .int l1), (2, .int l2), (3, .int l3)]) hx hb d_Qry_readLiteral_140 hl (by decide) rfl (fun ls hl => ?_)
  refine lv_lload hx hb d_Qry_readLiteral_142 (lv_at hl 0 rfl) ?_
  refine lv_lconst (v := 0) hx hb d_Qry_readLiteral_144 (by decide) ?_
  refine W.lcmp hx hb d_Qry_readLiteral_145 ?_
  refine lv_if_ne (tgt := 169) hx hb d_Qry_readLiteral_146 (by decide) (fun c4358 => ?_) (fun c4358 => ?_)
  · have hw := hw.1 c4358
    exact t_Qry_readLiteral_169 hx hb hml hown hT hK hN hA hRc hRs hRf hRl hNN hE hret  o l1 l2 l3 s0 x H locs ls fo hw hW hS (lv_sub hl [1, 2, 3, 4, 0] rfl)
  · have hw := hw.2 c4358
    refine lv_aload_n hx hb d_Qry_readLiteral_149 rfl (lv_at hl 1 rfl) ?_
    obtain ⟨q4359, hq4359, hw⟩ := hw
    refine w_getr (q := q4359) (k := 17) (t := 9) (C := R_Qry) (T := F_Qry) (N := 20) hx hb hT hown hK hW fo.1 fo.2 (by decide) in_Qry rfl rfl (by decide) rfl fr_Qry_17 w_3_105 d_Qry_readLiteral_150 hq4359 (fun aq4359 bq4359 => ?_)
    have fq4359 : q4359 < NN ∧ kcC q4359 = 2 := ⟨aq4359, bq4359⟩
    refine va_ldcS hx hb hown (hE.str 28 (by decide)) d_Qry_readLiteral_153 ?_
    have hF := hW.free hS hA
    refine va_calli (va_runV (C := R_Scn) (As := [.ref (kK 9)]) (rest := []) ⟨hx, hb, hml, hown, hT⟩ (k_Scn_takeWord l dC dI cI cB cJ cZ ad NN E tM tC kK kV hNN H.size q4359 9 x fq4359 (by decide) hw) ⟨callB_of 1 hT (gw_in w_4_141) rfl rfl rfl (hT _ w_1_4) (hT _ w_7_159) (by decide +kernel) ⟨Nat.le_trans (by decide) hRf, Nat.le_trans (by decide) hRl⟩, hT _ w_4_139, hT _ w_4_140⟩ ⟨PV.blind, va_recv hK hW.1 (ci := 2) (q0 := q4359) rfl (pic_obj fq4359.1 fq4359.2 (by decide)), PV.at _ hW hK hN hE hS hF⟩ rfl rfl hl.1 rfl (lv_room (Nat.le_of_ble_eq_true rfl)) d_Qry_readLiteral_155 ⟨hRc, hRs⟩) hS (fun q _ h => hF q h) hF (fun r4361 x4360 t H locs ht hvm hw hB hz1 hk1 hS => ?_)
    have hW := Wd.back hB ht hF
    clear hB ht hF hz1 hk1 hvm
    refine lv_if_ne (tgt := 169) hx hb d_Qry_readLiteral_158 (by decide) (fun c4362 => ?_) (fun c4362 => ?_)
    · have hw := hw.1 c4362
      exact t_Qry_readLiteral_169 hx hb hml hown hT hK hN hA hRc hRs hRf hRl hNN hE hret  o l1 l2 l3 s0 x4360 H locs ls fo hw hW hS (lv_sub hl [1, 2, 3, 4, 0] rfl)
    · have hw := hw.2 c4362
      refine lv_aload_n hx hb d_Qry_readLiteral_161 rfl (lv_at hl 1 rfl) ?_
      obtain ⟨q4363, hq4363, hw⟩ := hw
      refine w_getr (q := q4363) (k := 17) (t := 9) (C := R_Qry) (T := F_Qry) (N := 20) hx hb hT hown hK hW fo.1 fo.2 (by decide) in_Qry rfl rfl (by decide) rfl fr_Qry_17 w_3_105 d_Qry_readLiteral_162 hq4363 (fun aq4363 bq4363 => ?_)
      have fq4363 : q4363 < NN ∧ kcC q4363 = 2 := ⟨aq4363, bq4363⟩
      refine lv_iload_n hx hb d_Qry_readLiteral_165 rfl (lv_at hl 4 rfl) ?_
      have hF := hW.free hS hA
      refine va_callv (va_runV (C := R_Scn) (As := [.int l3]) (rest := []) ⟨hx, hb, hml, hown, hT⟩ (k_Scn_refuse l dC dI cI cB cJ cZ ad NN E tM tC kK kV hNN H.size q4363 l3 x4360 fq4363 hw) ⟨callB_of 1 hT (gw_in w_4_128) rfl rfl rfl (hT _ w_1_4) (hT _ w_7_149) (by decide +kernel) ⟨Nat.le_trans (by decide) hRf, Nat.le_trans (by decide) hRl⟩, hT _ w_4_126, hT _ w_4_127⟩ ⟨PV.blind, va_recv hK hW.1 (ci := 2) (q0 := q4363) rfl (pic_obj fq4363.1 fq4363.2 (by decide)), PV.at _ hW hK hN hE hS hF⟩ rfl rfl hl.1 rfl (lv_room (Nat.le_of_ble_eq_true rfl)) d_Qry_readLiteral_166 ⟨hRc, hRs⟩) hS (fun q _ h => hF q h) hF (fun  x4364 t H locs ht hvm hw hB hz1 hk1 hS => ?_)
      have hW := Wd.back hB ht hF
      clear hB ht hF hz1 hk1 hvm
      exact t_Qry_readLiteral_169 hx hb hml hown hT hK hN hA hRc hRs hRf hRl hNN hE hret  o l1 l2 l3 s0 x4364 H locs ls fo hw hW hS (lv_sub hl [1, 2, 3, 4, 0] rfl)
set_option maxRecDepth 100000 in
def j_Qry_readLiteral_82 (post : St → Prop) (o : Nat) (l1 : Int32) (l2 : Int32) (l3 : Int32) (l5 : Int64) (s0 : Int32) (x : St) : Prop := j_Qry_readLiteral_180 post o l1 l2 l3 s0 l5 x
set_option maxHeartbeats 4000000 in
set_option maxRecDepth 100000 in
theorem t_Qry_readLiteral_82 {p : Program} {l : Launch} {e : Env} {R : Room} {s : State} {m : MethodId} {args : Array Value} {below : List Frame} {meth : Method} {c : Code} {cells slots : Nat} {Q : State → Prop} {dC : Nat → ClassId} {dI : Nat → Nat → Nat} {cI cB cJ cZ : ClassId} {A : Nat → Prop} {ad : Nat → Nat} {NN : Nat} {E : Heap} {tM tC : Nat} {kK kV : Nat → Nat} {post : St → Prop} (hx : p.tables.exec = Jvm.exec) (hb : c.code = b_Qry_readLiteral) (hml : c.maxLocals = 7) (hown : s.vm.findClass R_Qry = some m.cls) (hT : ∀ w ∈ TG, w.before args s = true) (hK : va_K (dC, dI) CL (TY cI cB cJ cZ) s) (hN : NW s) (hA : ∀ q : Nat, s.heap.size ≤ q → A q) (hRc : cells ≤ R.cells) (hRs : slots ≤ R.slots) (hRf : 6 ≤ R.frames) (hRl : 243 ≤ R.locals) (hNN : 152 ≤ NN) (hE : CE E tM tC kK kV A s) (hret : ∀ (x : St) (H : Heap) (locs : List Loc) (pc : Nat) (ls : Array Slot), decode b_Qry_readLiteral pc = .ok (.return_, 1) → post x → Wd dC dI cI cB cJ cZ ad stC kcC NN A x H → va_S A s.heap H locs → W p l e R s m args below meth c H locs cells slots Q (F0 m pc ls []))  : ∀ (o : Nat) (l1 : Int32) (l2 : Int32) (l3 : Int32) (l5 : Int64) (s0 : Int32) (x : St) (H : Heap) (locs : List Loc) (ls : Array Slot), (o < NN ∧ kcC o = 9) → j_Qry_readLiteral_82 post o l1 l2 l3 l5 s0 x → Wd dC dI cI cB cJ cZ ad stC kcC NN A x H → va_S A s.heap H locs → lv_has ls 7 [(0, .ref (ad o)), (1, .int l1), (2, .int l2), (3, .int l3), (5, .long l5)] → W p l e R s m args below meth c H locs cells slots Q (F0 m 82 ls [.int s0]) := by
  intro o l1 l2 l3 l5 s0 x H locs ls fo hw hW hS hl
  unfold j_Qry_readLiteral_82 at hw
  refine lv_istore (lv' := [(4, .int s0), (0, .ref (ad o)), (1, .int l1), (2, .int l2), (3, .int l3), (5, .long l5)]) hx hb d_Qry_readLiteral_82 hl (by decide) rfl (fun ls hl => ?_)
  refine lv_goto (tgt := 180) hx hb d_Qry_readLiteral_84 (by decide) ?_
  exact t_Qry_readLiteral_180 hx hb hml hown hT hK hN hA hRc hRs hRf hRl hNN hE hret  o l1 l2 l3 s0 l5 x H locs ls fo hw hW hS (lv_sub hl [1, 2, 3, 4, 0, 5] rfl)
set_option maxRecDepth 100000 in
def wp_Qry_readLiteral (post : St → Prop) (o : Nat) (l1 : Int32) (x : St) : Prop := (∃ q4365 : Nat, fR x o 17 = some q4365 ∧ wp_Scn_next (fun (r4367 : Int32) (x4366 : St) => (∃ q4368 : Nat, fR x4366 o 17 = some q4368 ∧ (∀ v4369 : Int32, v4369 = (fI x4366 q4368 2) → ((¬ r4367 = 39 → (∃ q4371 : Nat, fR x4366 o 17 = some q4371 ∧ wp_Scn_atNumber (fun (r4373 : Int32) (x4372 : St) => ((r4373 = 0 → (∃ q4375 : Nat, fR x4372 o 17 = some q4375 ∧ wp_Scn_takeWord (fun (r4377 : Int32) (x4376 : St) => ((r4377 = 0 → j_Qry_readLiteral_140 post o l1 r4367 v4369 0 0 x4376) ∧ (¬ r4377 = 0 → j_Qry_readLiteral_140 post o l1 r4367 v4369 0 1 x4376))) q4375 8 x4372)) ∧ (¬ r4373 = 0 → (∃ q4379 : Nat, fR x4372 o 17 = some q4379 ∧ wp_Scn_readNumber (fun (x4380 : St) => (∃ q4381 : Nat, fR x4380 o 17 = some q4381 ∧ (∀ v4382 : Int64, v4382 = (fJ x4380 q4381 6) → wp_Qry_isNumber (fun (r4384 : Int32) (x4383 : St) => j_Qry_readLiteral_180 post o l1 r4367 v4369 r4384 v4382 x4383) l1 x4380))) q4379 1 x4372)))) q4371 x4366)) ∧ (r4367 = 39 → (∃ q4385 : Nat, fR x4366 o 17 = some q4385 ∧ wp_Scn_readQuoted (fun (x4386 : St) => (∃ q4387 : Nat, fR x4386 o 17 = some q4387 ∧ wp_V_reference (fun (r4389 : Int64) (x4388 : St) => (∃ q4390 : Nat, fR x4388 o 17 = some q4390 ∧ (∀ x4391 : St, x4391 = setI x4388 o 15 ((fI x4388 o 15) + (fI x4388 q4390 7)) → ((¬ l1 = 3 → j_Qry_readLiteral_82 post o l1 r4367 v4369 r4389 0 x4391) ∧ (l1 = 3 → j_Qry_readLiteral_82 post o l1 r4367 v4369 r4389 1 x4391))))) (fI x4386 o 15) (fI x4386 q4387 7) x4386)) q4385 (stC o 16) (fI x4366 o 15) x4366)))))) q4365 x)
set_option maxHeartbeats 4000000 in
set_option maxRecDepth 100000 in
theorem t_Qry_readLiteral_e {p : Program} {l : Launch} {e : Env} {R : Room} {s : State} {m : MethodId} {args : Array Value} {below : List Frame} {meth : Method} {c : Code} {cells slots : Nat} {Q : State → Prop} {dC : Nat → ClassId} {dI : Nat → Nat → Nat} {cI cB cJ cZ : ClassId} {A : Nat → Prop} {ad : Nat → Nat} {NN : Nat} {E : Heap} {tM tC : Nat} {kK kV : Nat → Nat} {post : St → Prop} (hx : p.tables.exec = Jvm.exec) (hb : c.code = b_Qry_readLiteral) (hml : c.maxLocals = 7) (hown : s.vm.findClass R_Qry = some m.cls) (hT : ∀ w ∈ TG, w.before args s = true) (hK : va_K (dC, dI) CL (TY cI cB cJ cZ) s) (hN : NW s) (hA : ∀ q : Nat, s.heap.size ≤ q → A q) (hRc : cells ≤ R.cells) (hRs : slots ≤ R.slots) (hRf : 6 ≤ R.frames) (hRl : 243 ≤ R.locals) (hNN : 152 ≤ NN) (hE : CE E tM tC kK kV A s) (hret : ∀ (x : St) (H : Heap) (locs : List Loc) (pc : Nat) (ls : Array Slot), decode b_Qry_readLiteral pc = .ok (.return_, 1) → post x → Wd dC dI cI cB cJ cZ ad stC kcC NN A x H → va_S A s.heap H locs → W p l e R s m args below meth c H locs cells slots Q (F0 m pc ls [])) : ∀ (o : Nat) (l1 : Int32) (x : St) (H : Heap) (locs : List Loc) (ls : Array Slot), (o < NN ∧ kcC o = 9) → wp_Qry_readLiteral post o l1 x → Wd dC dI cI cB cJ cZ ad stC kcC NN A x H → va_S A s.heap H locs → lv_has ls 7 [(0, .ref (ad o)), (1, .int l1)] → W p l e R s m args below meth c H locs cells slots Q (F0 m 0 ls []) := by
  intro o l1 x H locs ls fo hw hW hS hl
  unfold wp_Qry_readLiteral at hw
  refine lv_aload_n hx hb d_Qry_readLiteral_0 rfl (lv_at hl 0 rfl) ?_
  obtain ⟨q4365, hq4365, hw⟩ := hw
  refine w_getr (q := q4365) (k := 17) (t := 9) (C := R_Qry) (T := F_Qry) (N := 20) hx hb hT hown hK hW fo.1 fo.2 (by decide) in_Qry rfl rfl (by decide) rfl fr_Qry_17 w_3_105 d_Qry_readLiteral_1 hq4365 (fun aq4365 bq4365 => ?_)
  have fq4365 : q4365 < NN ∧ kcC q4365 = 2 := ⟨aq4365, bq4365⟩
  have hF := hW.free hS hA
  refine va_calli (va_runV (C := R_Scn) (As := []) (rest := []) ⟨hx, hb, hml, hown, hT⟩ (k_Scn_next l dC dI cI cB cJ cZ ad NN E tM tC kK kV hNN H.size q4365 x fq4365 hw) ⟨callB_of 0 hT (gw_in w_4_110) rfl rfl rfl (hT _ w_1_4) (hT _ w_7_148) (by decide +kernel) ⟨Nat.le_trans (by decide) hRf, Nat.le_trans (by decide) hRl⟩, hT _ w_4_108, hT _ w_4_109⟩ ⟨PV.blind, va_recv hK hW.1 (ci := 2) (q0 := q4365) rfl (pic_obj fq4365.1 fq4365.2 (by decide)), PV.at _ hW hK hN hE hS hF⟩ rfl rfl hl.1 rfl (lv_room (Nat.le_of_ble_eq_true rfl)) d_Qry_readLiteral_4 ⟨hRc, hRs⟩) hS (fun q _ h => hF q h) hF (fun r4367 x4366 t H locs ht hvm hw hB hz1 hk1 hS => ?_)
  have hW := Wd.back hB ht hF
  clear hB ht hF hz1 hk1 hvm
  refine lv_istore_n (lv' := [(2, .int r4367), (0, .ref (ad o)), (1, .int l1)]) hx hb d_Qry_readLiteral_7 rfl hl (by decide) rfl (fun ls hl => ?_)
  refine lv_aload_n hx hb d_Qry_readLiteral_8 rfl (lv_at hl 1 rfl) ?_
  obtain ⟨q4368, hq4368, hw⟩ := hw
  refine w_getr (q := q4368) (k := 17) (t := 9) (C := R_Qry) (T := F_Qry) (N := 20) hx hb hT hown hK hW fo.1 fo.2 (by decide) in_Qry rfl rfl (by decide) rfl fr_Qry_17 w_3_105 d_Qry_readLiteral_9 hq4368 (fun aq4368 bq4368 => ?_)
  have fq4368 : q4368 < NN ∧ kcC q4368 = 2 := ⟨aq4368, bq4368⟩
  refine w_geti (k := 2) (t := 2) (C := R_Scn) (T := F_Scn) (N := 8) hx hb hT hown hK hW fq4368.1 fq4368.2 (by decide) in_Scn rfl rfl (by decide) rfl fr_Scn_2 w_1_86 d_Qry_readLiteral_12 ?_
  refine lv_topi (fun v4369 ev4369 => ?_)
  have hw := hw v4369 ev4369
  refine lv_istore_n (lv' := [(3, .int v4369), (2, .int r4367), (0, .ref (ad o)), (1, .int l1)]) hx hb d_Qry_readLiteral_15 rfl hl (by decide) rfl (fun ls hl => ?_)
  refine lv_lconst (v := 0) hx hb d_Qry_readLiteral_16 (by decide) ?_
  refine lv_lstore (lv' := [(5, .long 0), (3, .int v4369), (2, .int r4367), (0, .ref (ad o)), (1, .int l1)]) hx hb d_Qry_readLiteral_17 hl (by decide) rfl (fun ls hl => ?_)
  refine lv_iload_n hx hb d_Qry_readLiteral_19 rfl (lv_at hl 2 rfl) ?_
  refine lv_bipush (v := 39) hx hb d_Qry_readLiteral_20 (by decide) ?_
  refine lv_icmp_ne (tgt := 87) hx hb d_Qry_readLiteral_22 (by decide) (fun c4370 => ?_) (fun c4370 => ?_)
  · have hw := hw.1 c4370
    refine lv_aload_n hx hb d_Qry_readLiteral_87 rfl (lv_at hl 3 rfl) ?_
    obtain ⟨q4371, hq4371, hw⟩ := hw
    refine w_getr (q := q4371) (k := 17) (t := 9) (C := R_Qry) (T := F_Qry) (N := 20) hx hb hT hown hK hW fo.1 fo.2 (by decide) in_Qry rfl rfl (by decide) rfl fr_Qry_17 w_3_105 d_Qry_readLiteral_88 hq4371 (fun aq4371 bq4371 => ?_)
    have fq4371 : q4371 < NN ∧ kcC q4371 = 2 := ⟨aq4371, bq4371⟩
    have hF := hW.free hS hA
    refine va_calli (va_runV (C := R_Scn) (As := []) (rest := []) ⟨hx, hb, hml, hown, hT⟩ (k_Scn_atNumber l dC dI cI cB cJ cZ ad NN E tM tC kK kV hNN H.size q4371 x4366 fq4371 hw) ⟨callB_of 0 hT (gw_in w_5_91) rfl rfl rfl (hT _ w_1_4) (hT _ w_7_226) (by decide +kernel) ⟨Nat.le_trans (by decide) hRf, Nat.le_trans (by decide) hRl⟩, hT _ w_5_89, hT _ w_5_90⟩ ⟨PV.blind, va_recv hK hW.1 (ci := 2) (q0 := q4371) rfl (pic_obj fq4371.1 fq4371.2 (by decide)), PV.at _ hW hK hN hE hS hF⟩ rfl rfl hl.1 rfl (lv_room (Nat.le_of_ble_eq_true rfl)) d_Qry_readLiteral_91 ⟨hRc, hRs⟩) hS (fun q _ h => hF q h) hF (fun r4373 x4372 t H locs ht hvm hw hB hz1 hk1 hS => ?_)
    have hW := Wd.back hB ht hF
    clear hB ht hF hz1 hk1 hvm
    refine lv_if_eq (tgt := 123) hx hb d_Qry_readLiteral_94 (by decide) (fun c4374 => ?_) (fun c4374 => ?_)
    · have hw := hw.1 c4374
      refine lv_aload_n hx hb d_Qry_readLiteral_123 rfl (lv_at hl 3 rfl) ?_
      obtain ⟨q4375, hq4375, hw⟩ := hw
      refine w_getr (q := q4375) (k := 17) (t := 9) (C := R_Qry) (T := F_Qry) (N := 20) hx hb hT hown hK hW fo.1 fo.2 (by decide) in_Qry rfl rfl (by decide) rfl fr_Qry_17 w_3_105 d_Qry_readLiteral_124 hq4375 (fun aq4375 bq4375 => ?_)
      have fq4375 : q4375 < NN ∧ kcC q4375 = 2 := ⟨aq4375, bq4375⟩
      refine va_ldcS hx hb hown (hE.str 27 (by decide)) d_Qry_readLiteral_127 ?_
      have hF := hW.free hS hA
      refine va_calli (va_runV (C := R_Scn) (As := [.ref (kK 8)]) (rest := []) ⟨hx, hb, hml, hown, hT⟩ (k_Scn_takeWord l dC dI cI cB cJ cZ ad NN E tM tC kK kV hNN H.size q4375 8 x4372 fq4375 (by decide) hw) ⟨callB_of 1 hT (gw_in w_4_141) rfl rfl rfl (hT _ w_1_4) (hT _ w_7_159) (by decide +kernel) ⟨Nat.le_trans (by decide) hRf, Nat.le_trans (by decide) hRl⟩, hT _ w_4_139, hT _ w_4_140⟩ ⟨PV.blind, va_recv hK hW.1 (ci := 2) (q0 := q4375) rfl (pic_obj fq4375.1 fq4375.2 (by decide)), PV.at _ hW hK hN hE hS hF⟩ rfl rfl hl.1 rfl (lv_room (Nat.le_of_ble_eq_true rfl)) d_Qry_readLiteral_129 ⟨hRc, hRs⟩) hS (fun q _ h => hF q h) hF (fun r4377 x4376 t H locs ht hvm hw hB hz1 hk1 hS => ?_)
      have hW := Wd.back hB ht hF
      clear hB ht hF hz1 hk1 hvm
      refine lv_if_eq (tgt := 139) hx hb d_Qry_readLiteral_132 (by decide) (fun c4378 => ?_) (fun c4378 => ?_)
      · have hw := hw.1 c4378
        refine lv_lconst (v := 0) hx hb d_Qry_readLiteral_139 (by decide) ?_
        exact t_Qry_readLiteral_140 hx hb hml hown hT hK hN hA hRc hRs hRf hRl hNN hE hret  o l1 r4367 v4369 0 0 x4376 H locs ls fo hw hW hS (lv_sub hl [3, 4, 2, 1, 0] rfl)
      · have hw := hw.2 c4378
        refine lv_lconst (v := 1) hx hb d_Qry_readLiteral_135 (by decide) ?_
        refine lv_goto (tgt := 140) hx hb d_Qry_readLiteral_136 (by decide) ?_
        exact t_Qry_readLiteral_140 hx hb hml hown hT hK hN hA hRc hRs hRf hRl hNN hE hret  o l1 r4367 v4369 0 1 x4376 H locs ls fo hw hW hS (lv_sub hl [3, 4, 2, 1, 0] rfl)
    · have hw := hw.2 c4374
      refine lv_aload_n hx hb d_Qry_readLiteral_97 rfl (lv_at hl 3 rfl) ?_
      obtain ⟨q4379, hq4379, hw⟩ := hw
      refine w_getr (q := q4379) (k := 17) (t := 9) (C := R_Qry) (T := F_Qry) (N := 20) hx hb hT hown hK hW fo.1 fo.2 (by decide) in_Qry rfl rfl (by decide) rfl fr_Qry_17 w_3_105 d_Qry_readLiteral_98 hq4379 (fun aq4379 bq4379 => ?_)
      have fq4379 : q4379 < NN ∧ kcC q4379 = 2 := ⟨aq4379, bq4379⟩
      refine lv_iconst (v := 1) hx hb d_Qry_readLiteral_101 (by decide) ?_
      have hF := hW.free hS hA
      refine va_callv (va_runV (C := R_Scn) (As := [.int 1]) (rest := []) ⟨hx, hb, hml, hown, hT⟩ (k_Scn_readNumber l dC dI cI cB cJ cZ ad NN E tM tC kK kV hNN H.size q4379 1 x4372 fq4379 hw) ⟨callB_of 1 hT (gw_in w_5_98) rfl rfl rfl (hT _ w_1_4) (hT _ w_7_227) (by decide +kernel) ⟨Nat.le_trans (by decide) hRf, Nat.le_trans (by decide) hRl⟩, hT _ w_5_96, hT _ w_5_97⟩ ⟨PV.blind, va_recv hK hW.1 (ci := 2) (q0 := q4379) rfl (pic_obj fq4379.1 fq4379.2 (by decide)), PV.at _ hW hK hN hE hS hF⟩ rfl rfl hl.1 rfl (lv_room (Nat.le_of_ble_eq_true rfl)) d_Qry_readLiteral_102 ⟨hRc, hRs⟩) hS (fun q _ h => hF q h) hF (fun  x4380 t H locs ht hvm hw hB hz1 hk1 hS => ?_)
      have hW := Wd.back hB ht hF
      clear hB ht hF hz1 hk1 hvm
      refine lv_aload_n hx hb d_Qry_readLiteral_105 rfl (lv_at hl 3 rfl) ?_
      obtain ⟨q4381, hq4381, hw⟩ := hw
      refine w_getr (q := q4381) (k := 17) (t := 9) (C := R_Qry) (T := F_Qry) (N := 20) hx hb hT hown hK hW fo.1 fo.2 (by decide) in_Qry rfl rfl (by decide) rfl fr_Qry_17 w_3_105 d_Qry_readLiteral_106 hq4381 (fun aq4381 bq4381 => ?_)
      have fq4381 : q4381 < NN ∧ kcC q4381 = 2 := ⟨aq4381, bq4381⟩
      refine w_getj (k := 6) (t := 2) (C := R_Scn) (T := F_Scn) (N := 8) hx hb hT hown hK hW fq4381.1 fq4381.2 (by decide) in_Scn rfl rfl (by decide) rfl fr_Scn_6 w_1_103 d_Qry_readLiteral_109 ?_
      refine lv_topl (fun v4382 ev4382 => ?_)
      have hw := hw v4382 ev4382
      refine lv_lstore (lv' := [(5, .long v4382), (3, .int v4369), (2, .int r4367), (0, .ref (ad o)), (1, .int l1)]) hx hb d_Qry_readLiteral_112 hl (by decide) rfl (fun ls hl => ?_)
      refine lv_iload_n hx hb d_Qry_readLiteral_114 rfl (lv_at hl 4 rfl) ?_
      have hF := hW.free hS hA
      refine va_calli (va_runS (As := [.int l1]) (rest := []) ⟨hx, hb, hml, hown, hT⟩ (k_Qry_isNumber l dC dI cI cB cJ cZ ad NN E tM tC kK kV hNN H.size l1 x4380  hw) ⟨callB_of 1 hT (gw_in w_7_198) rfl rfl rfl (hT _ w_1_12) (hT _ w_7_196) (by decide +kernel) ⟨Nat.le_trans (by decide) hRf, Nat.le_trans (by decide) hRl⟩, hT _ w_7_197⟩ ⟨PV.blind, PV.at _ hW hK hN hE hS hF⟩ rfl rfl hl.1 rfl (lv_room (Nat.le_of_ble_eq_true rfl)) d_Qry_readLiteral_115 ⟨hRc, hRs⟩) hS (fun q _ h => hF q h) hF (fun r4384 x4383 t H locs ht hvm hw hB hz1 hk1 hS => ?_)
      have hW := Wd.back hB ht hF
      clear hB ht hF hz1 hk1 hvm
      refine lv_istore (lv' := [(4, .int r4384), (5, .long v4382), (3, .int v4369), (2, .int r4367), (0, .ref (ad o)), (1, .int l1)]) hx hb d_Qry_readLiteral_118 hl (by decide) rfl (fun ls hl => ?_)
      refine lv_goto (tgt := 180) hx hb d_Qry_readLiteral_120 (by decide) ?_
      exact t_Qry_readLiteral_180 hx hb hml hown hT hK hN hA hRc hRs hRf hRl hNN hE hret  o l1 r4367 v4369 r4384 v4382 x4383 H locs ls fo hw hW hS (lv_sub hl [4, 5, 3, 2, 0, 1] rfl)
  · have hw := hw.2 c4370
    refine lv_aload_n hx hb d_Qry_readLiteral_25 rfl (lv_at hl 3 rfl) ?_
    obtain ⟨q4385, hq4385, hw⟩ := hw
    refine w_getr (q := q4385) (k := 17) (t := 9) (C := R_Qry) (T := F_Qry) (N := 20) hx hb hT hown hK hW fo.1 fo.2 (by decide) in_Qry rfl rfl (by decide) rfl fr_Qry_17 w_3_105 d_Qry_readLiteral_26 hq4385 (fun aq4385 bq4385 => ?_)
    have fq4385 : q4385 < NN ∧ kcC q4385 = 2 := ⟨aq4385, bq4385⟩
    refine lv_aload_n hx hb d_Qry_readLiteral_29 rfl (lv_at hl 3 rfl) ?_
    refine w_getf (q := (stC o 16)) (k := 16) (t := 9) (C := R_Qry) (T := F_Qry) (N := 20) hx hb hT hown hK hW fo.1 fo.2 (by decide) in_Qry rfl rfl (by decide) rfl fr_Qry_16 w_3_103 d_Qry_readLiteral_30 rfl ?_
    refine lv_aload_n hx hb d_Qry_readLiteral_33 rfl (lv_at hl 3 rfl) ?_
    refine w_geti (k := 15) (t := 9) (C := R_Qry) (T := F_Qry) (N := 20) hx hb hT hown hK hW fo.1 fo.2 (by decide) in_Qry rfl rfl (by decide) rfl fr_Qry_15 w_3_102 d_Qry_readLiteral_34 ?_
    have hF := hW.free hS hA
    refine va_callv (va_runV (C := R_Scn) (As := [.ref (ad (stC o 16)), .int (fI x4366 o 15)]) (rest := []) ⟨hx, hb, hml, hown, hT⟩ (k_Scn_readQuoted l dC dI cI cB cJ cZ ad NN E tM tC kK kV hNN H.size q4385 (stC o 16) (fI x4366 o 15) x4366 fq4385 (st_ty hNN fo.1 fo.2 rfl) hw) ⟨callB_of 2 hT (gw_in w_5_71) rfl rfl rfl (hT _ w_1_4) (hT _ w_7_224) (by decide +kernel) ⟨Nat.le_trans (by decide) hRf, Nat.le_trans (by decide) hRl⟩, hT _ w_5_69, hT _ w_5_70⟩ ⟨PV.blind, va_recv hK hW.1 (ci := 2) (q0 := q4385) rfl (pic_obj fq4385.1 fq4385.2 (by decide)), PV.at _ hW hK hN hE hS hF⟩ rfl rfl hl.1 rfl (lv_room (Nat.le_of_ble_eq_true rfl)) d_Qry_readLiteral_37 ⟨hRc, hRs⟩) hS (fun q _ h => hF q h) hF (fun  x4386 t H locs ht hvm hw hB hz1 hk1 hS => ?_)
    have hW := Wd.back hB ht hF
    clear hB ht hF hz1 hk1 hvm
    refine lv_aload_n hx hb d_Qry_readLiteral_40 rfl (lv_at hl 3 rfl) ?_
    refine w_geti (k := 15) (t := 9) (C := R_Qry) (T := F_Qry) (N := 20) hx hb hT hown hK hW fo.1 fo.2 (by decide) in_Qry rfl rfl (by decide) rfl fr_Qry_15 w_3_102 d_Qry_readLiteral_41 ?_
    refine lv_aload_n hx hb d_Qry_readLiteral_44 rfl (lv_at hl 3 rfl) ?_
    obtain ⟨q4387, hq4387, hw⟩ := hw
    refine w_getr (q := q4387) (k := 17) (t := 9) (C := R_Qry) (T := F_Qry) (N := 20) hx hb hT hown hK hW fo.1 fo.2 (by decide) in_Qry rfl rfl (by decide) rfl fr_Qry_17 w_3_105 d_Qry_readLiteral_45 hq4387 (fun aq4387 bq4387 => ?_)
    have fq4387 : q4387 < NN ∧ kcC q4387 = 2 := ⟨aq4387, bq4387⟩
    refine w_geti (k := 7) (t := 2) (C := R_Scn) (T := F_Scn) (N := 8) hx hb hT hown hK hW fq4387.1 fq4387.2 (by decide) in_Scn rfl rfl (by decide) rfl fr_Scn_7 w_1_106 d_Qry_readLiteral_48 ?_
    have hF := hW.free hS hA
    refine va_calll (va_runSN (As := [.int (fI x4386 o 15), .int (fI x4386 q4387 7)]) (rest := []) ⟨hx, hb, hml, hown, hT⟩ (k_V_reference l dC dI cI cB cJ cZ ad NN E tM tC kK kV hNN H.size (fI x4386 o 15) (fI x4386 q4387 7) x4386  hw) ⟨va_cnB 2 hT (gw_in w_5_86) rfl rfl rfl (hN _ wn_7_225 rfl) (hT _ w_1_1) (by decide +kernel) ⟨Nat.le_trans (by decide) hRf, Nat.le_trans (by decide) hRl⟩, hT _ w_5_85, trivial⟩ ⟨PV.blind, PV.at _ hW hK hN hE hS hF⟩ rfl rfl hl.1 rfl (lv_room (Nat.le_of_ble_eq_true rfl)) d_Qry_readLiteral_51 ⟨hRc, hRs⟩) hS (fun q _ h => hF q h) hF (fun r4389 x4388 t H locs ht hvm hw hB hz1 hk1 hS => ?_)
    have hW := Wd.back hB ht hF
    clear hB ht hF hz1 hk1 hvm
    refine lv_lstore (lv' := [(5, .long r4389), (3, .int v4369), (2, .int r4367), (0, .ref (ad o)), (1, .int l1)]) hx hb d_Qry_readLiteral_54 hl (by decide) rfl (fun ls hl => ?_)
    refine lv_aload_n hx hb d_Qry_readLiteral_56 rfl (lv_at hl 3 rfl) ?_
    refine lv_dup hx hb d_Qry_readLiteral_57 rfl ?_
    refine w_geti (k := 15) (t := 9) (C := R_Qry) (T := F_Qry) (N := 20) hx hb hT hown hK hW fo.1 fo.2 (by decide) in_Qry rfl rfl (by decide) rfl fr_Qry_15 w_3_102 d_Qry_readLiteral_58 ?_
    refine lv_aload_n hx hb d_Qry_readLiteral_61 rfl (lv_at hl 3 rfl) ?_
    obtain ⟨q4390, hq4390, hw⟩ := hw
    refine w_getr (q := q4390) (k := 17) (t := 9) (C := R_Qry) (T := F_Qry) (N := 20) hx hb hT hown hK hW fo.1 fo.2 (by decide) in_Qry rfl rfl (by decide) rfl fr_Qry_17 w_3_105 d_Qry_readLiteral_62 hq4390 (fun aq4390 bq4390 => ?_)
    have fq4390 : q4390 < NN ∧ kcC q4390 = 2 := ⟨aq4390, bq4390⟩
    refine w_geti (k := 7) (t := 2) (C := R_Scn) (T := F_Scn) (N := 8) hx hb hT hown hK hW fq4390.1 fq4390.2 (by decide) in_Scn rfl rfl (by decide) rfl fr_Scn_7 w_1_106 d_Qry_readLiteral_65 ?_
    refine lv_iadd hx hb d_Qry_readLiteral_68 ?_
    refine w_puti (ty := .int) (k := 15) (t := 9) (C := R_Qry) (T := F_Qry) (N := 20) hx hb hT hown hK hW hS fo.1 fo.2 (by decide) in_Qry t_Qry t_Qry_ok n_Qry rfl rfl (by decide) rfl fr_Qry_15 w_3_102 (by decide +kernel) rfl rfl d_Qry_readLiteral_69 (fun H locs hW hS => ?_)
    obtain ⟨x4391, ex4391⟩ : ∃ y : St, y = setI x4388 o 15 ((fI x4388 o 15) + (fI x4388 q4390 7)) := ⟨_, rfl⟩
    rw [← ex4391] at hW
    have hw := hw x4391 ex4391
    refine lv_iload_n hx hb d_Qry_readLiteral_72 rfl (lv_at hl 4 rfl) ?_
    refine lv_iconst (v := 3) hx hb d_Qry_readLiteral_73 (by decide) ?_
    refine lv_icmp_ne (tgt := 81) hx hb d_Qry_readLiteral_74 (by decide) (fun c4392 => ?_) (fun c4392 => ?_)
    · have hw := hw.1 c4392
      refine lv_iconst (v := 0) hx hb d_Qry_readLiteral_81 (by decide) ?_
      exact t_Qry_readLiteral_82 hx hb hml hown hT hK hN hA hRc hRs hRf hRl hNN hE hret  o l1 r4367 v4369 r4389 0 x4391 H locs ls fo hw hW hS (lv_sub hl [3, 4, 2, 1, 0] rfl)
    · have hw := hw.2 c4392
      refine lv_iconst (v := 1) hx hb d_Qry_readLiteral_77 (by decide) ?_
      refine lv_goto (tgt := 82) hx hb d_Qry_readLiteral_78 (by decide) ?_
      exact t_Qry_readLiteral_82 hx hb hml hown hT hK hN hA hRc hRs hRf hRl hNN hE hret  o l1 r4367 v4369 r4389 1 x4391 H locs ls fo hw hW hS (lv_sub hl [3, 4, 2, 1, 0] rfl)
set_option maxHeartbeats 4000000 in
set_option maxRecDepth 100000 in
theorem k_Qry_readLiteral (l : Launch) (dC : Nat → ClassId) (dI : Nat → Nat → Nat) (cI cB cJ cZ : ClassId) (ad : Nat → Nat) (NN : Nat) (E : Heap) (tM tC : Nat) (kK kV : Nat → Nat) (hNN : 152 ≤ NN) (sz : Nat) (o : Nat) (l1 : Int32) (x : St) (fo : o < NN ∧ kcC o = 9) {post : St → Prop} (hw : wp_Qry_readLiteral post o l1 x) : Met l y_Qry_readLiteral (wsOf y_Qry_readLiteral b_Qry_readLiteral 7 (none)) ({ frames := 6, cells := 0, slots := 0, locals := 243 }) (va_Pc [.ref (ad o), .int l1] (PV dC dI cI cB cJ cZ ad stC kcC NN E tM tC kK kV sz x)) (va_Qv (fun (y : St) => post y) (fun y t => Wd dC dI cI cB cJ cZ ad stC kcC NN (va_A (pic ad stC kcC NN cI cB cJ cZ x) sz) y t.heap) (va_A (pic ad stC kcC NN cI cB cJ cZ x) sz)) 0 0 (va_A (pic ad stC kcC NN cI cB cJ cZ x) sz) := by
  refine Met.ofW (cc := b_Qry_readLiteral) (maxL := 7) (ret := none) (by decide) rfl ?_
  intro p e s m args below meth c s₁ B hml hv
  obtain ⟨rfl, ⟨hsz, hW0, hK, hN⟩, hE⟩ := hv
  have hx := B.exec
  have hb := B.bytes
  have hr := B.returns
  have hts := atoms_spec B.pre
  have hT : ∀ w ∈ TG, w.before _ s = true := fun w h => hts w (List.mem_cons_of_mem _ h)
  have hown : s.vm.findClass R_Qry = some m.cls := findClass_of_methodNamed B.named
  have hlocks := B.notSynchronized
  subst hsz
  have hW : Wd dC dI cI cB cJ cZ ad stC kcC NN (va_A (pic ad stC kcC NN cI cB cJ cZ x) s.heap.size) x s.heap := ⟨hW0.1, hW0.2.1.self (sz := s.heap.size), hW0.2.2⟩
  generalize hAe : va_A (pic ad stC kcC NN cI cB cJ cZ x) s.heap.size = A at hW hE ⊢
  have hA : ∀ q : Nat, s.heap.size ≤ q → A q := fun q h => by rw [← hAe]; exact Or.inr h
  have hS : va_S A s.heap s.heap [] := va_S.rf
  have hl := lv_entry ([.ref (ad o), .int l1]) (n := 7) (Nat.le_of_ble_eq_true rfl)
  rw [lg_entry_eq]
  generalize (lg_sl ([.ref (ad o), .int l1]) ++ List.replicate (7 - (lg_sl ([.ref (ad o), .int l1])).length) Slot.unset).toArray = ls at hl ⊢
  have hl : lv_has ls 7 [(0, .ref (ad o)), (1, .int l1)] := hl
  exact t_Qry_readLiteral_e hx hb hml hown hT hK hN hA (Nat.le_refl 0) (Nat.le_refl 0) (Nat.le_refl 6) (Nat.le_refl 243) hNN hE (fun x H locs pc ls hd hp hW hS => W.vret hx hb hr (fun t ht hM => ⟨⟨x, rfl, hp, Wd.back hW ht.symm (fun _ z => z)⟩, hS.F ht⟩) hS.2.2 hd hlocks)  o l1 x _ _ ls fo hw hW hS hl
set_option maxRecDepth 100000 in
def j_Qry_readList_73 (post : St → Prop) (o : Nat) (l1 : Int32) (l2 : Int32) (l3 : Int32) (x : St) : Prop := (∃ q4393 : Nat, fR x o 17 = some q4393 ∧ wp_Scn_needSign (fun (x4394 : St) => post x4394) q4393 41 x)
set_option maxHeartbeats 4000000 in
set_option maxRecDepth 100000 in
theorem t_Qry_readList_73 {p : Program} {l : Launch} {e : Env} {R : Room} {s : State} {m : MethodId} {args : Array Value} {below : List Frame} {meth : Method} {c : Code} {cells slots : Nat} {Q : State → Prop} {dC : Nat → ClassId} {dI : Nat → Nat → Nat} {cI cB cJ cZ : ClassId} {A : Nat → Prop} {ad : Nat → Nat} {NN : Nat} {E : Heap} {tM tC : Nat} {kK kV : Nat → Nat} {post : St → Prop} (hx : p.tables.exec = Jvm.exec) (hb : c.code = b_Qry_readList) (hml : c.maxLocals = 4) (hown : s.vm.findClass R_Qry = some m.cls) (hT : ∀ w ∈ TG, w.before args s = true) (hK : va_K (dC, dI) CL (TY cI cB cJ cZ) s) (hN : NW s) (hA : ∀ q : Nat, s.heap.size ≤ q → A q) (hRc : cells ≤ R.cells) (hRs : slots ≤ R.slots) (hRf : 7 ≤ R.frames) (hRl : 269 ≤ R.locals) (hNN : 152 ≤ NN) (hE : CE E tM tC kK kV A s) (hret : ∀ (x : St) (H : Heap) (locs : List Loc) (pc : Nat) (ls : Array Slot), decode b_Qry_readList pc = .ok (.return_, 1) → post x → Wd dC dI cI cB cJ cZ ad stC kcC NN A x H → va_S A s.heap H locs → W p l e R s m args below meth c H locs cells slots Q (F0 m pc ls []))  : ∀ (o : Nat) (l1 : Int32) (l2 : Int32) (l3 : Int32) (x : St) (H : Heap) (locs : List Loc) (ls : Array Slot), (o < NN ∧ kcC o = 9) → j_Qry_readList_73 post o l1 l2 l3 x → Wd dC dI cI cB cJ cZ ad stC kcC NN A x H → va_S A s.heap H locs → lv_has ls 4 [(0, .ref (ad o)), (1, .int l1), (2, .int l2), (3, .int l3)] → W p l e R s m args below meth c H locs cells slots Q (F0 m 73 ls []) := by
  intro o l1 l2 l3 x H locs ls fo hw hW hS hl
  unfold j_Qry_readList_73 at hw
  refine lv_aload_n hx hb d_Qry_readList_73 rfl (lv_at hl 0 rfl) ?_
  obtain ⟨q4393, hq4393, hw⟩ := hw
  refine w_getr (q := q4393) (k := 17) (t := 9) (C := R_Qry) (T := F_Qry) (N := 20) hx hb hT hown hK hW fo.1 fo.2 (by decide) in_Qry rfl rfl (by decide) rfl fr_Qry_17 w_3_105 d_Qry_readList_74 hq4393 (fun aq4393 bq4393 => ?_)
  have fq4393 : q4393 < NN ∧ kcC q4393 = 2 := ⟨aq4393, bq4393⟩
  refine lv_bipush (v := 41) hx hb d_Qry_readList_77 (by decide) ?_
  have hF := hW.free hS hA
  refine va_callv (va_runV (C := R_Scn) (As := [.int 41]) (rest := []) ⟨hx, hb, hml, hown, hT⟩ (k_Scn_needSign l dC dI cI cB cJ cZ ad NN E tM tC kK kV hNN H.size q4393 41 x fq4393 hw) ⟨callB_of 1 hT (gw_in w_4_118) rfl rfl rfl (hT _ w_1_4) (hT _ w_7_187) (by decide +kernel) ⟨Nat.le_trans (by decide) hRf, Nat.le_trans (by decide) hRl⟩, hT _ w_4_116, hT _ w_4_117⟩ ⟨PV.blind, va_recv hK hW.1 (ci := 2) (q0 := q4393) rfl (pic_obj fq4393.1 fq4393.2 (by decide)), PV.at _ hW hK hN hE hS hF⟩ rfl rfl hl.1 rfl (lv_room (Nat.le_of_ble_eq_true rfl)) d_Qry_readList_79 ⟨hRc, hRs⟩) hS (fun q _ h => hF q h) hF (fun  x4394 t H locs ht hvm hw hB hz1 hk1 hS => ?_)
  have hW := Wd.back hB ht hF
  clear hB ht hF hz1 hk1 hvm
  exact hret x4394 H locs 82 ls d_Qry_readList_82 hw hW hS
set_option maxRecDepth 100000 in
def j_Qry_readList_66 (post : St → Prop) (rec19 : Nat → Int32 → Int32 → Int32 → St → Prop) (o : Nat) (l1 : Int32) (l2 : Int32) (l3 : Int32) (s0 : Int32) (x : St) : Prop := rec19 o l1 s0 (l3 + 1) x
set_option maxHeartbeats 4000000 in
set_option maxRecDepth 100000 in
theorem t_Qry_readList_66 {p : Program} {l : Launch} {e : Env} {R : Room} {s : State} {m : MethodId} {args : Array Value} {below : List Frame} {meth : Method} {c : Code} {cells slots : Nat} {Q : State → Prop} {dC : Nat → ClassId} {dI : Nat → Nat → Nat} {cI cB cJ cZ : ClassId} {A : Nat → Prop} {ad : Nat → Nat} {NN : Nat} {E : Heap} {tM tC : Nat} {kK kV : Nat → Nat} {post : St → Prop} {rec19 : Nat → Int32 → Int32 → Int32 → St → Prop} (hx : p.tables.exec = Jvm.exec) (hb : c.code = b_Qry_readList) (hml : c.maxLocals = 4) (hown : s.vm.findClass R_Qry = some m.cls) (hT : ∀ w ∈ TG, w.before args s = true) (hK : va_K (dC, dI) CL (TY cI cB cJ cZ) s) (hN : NW s) (hA : ∀ q : Nat, s.heap.size ≤ q → A q) (hRc : cells ≤ R.cells) (hRs : slots ≤ R.slots) (hRf : 7 ≤ R.frames) (hRl : 269 ≤ R.locals) (hNN : 152 ≤ NN) (hE : CE E tM tC kK kV A s) (hret : ∀ (x : St) (H : Heap) (locs : List Loc) (pc : Nat) (ls : Array Slot), decode b_Qry_readList pc = .ok (.return_, 1) → post x → Wd dC dI cI cB cJ cZ ad stC kcC NN A x H → va_S A s.heap H locs → W p l e R s m args below meth c H locs cells slots Q (F0 m pc ls [])) (hrec19 : ∀ (o : Nat) (l1 : Int32) (l2 : Int32) (l3 : Int32) (x : St) (H : Heap) (locs : List Loc) (ls : Array Slot), (o < NN ∧ kcC o = 9) → rec19 o l1 l2 l3 x → Wd dC dI cI cB cJ cZ ad stC kcC NN A x H → va_S A s.heap H locs → lv_has ls 4 [(0, .ref (ad o)), (1, .int l1), (2, .int l2), (3, .int l3)] → W p l e R s m args below meth c H locs cells slots Q (F0 m 19 ls [])) : ∀ (o : Nat) (l1 : Int32) (l2 : Int32) (l3 : Int32) (s0 : Int32) (x : St) (H : Heap) (locs : List Loc) (ls : Array Slot), (o < NN ∧ kcC o = 9) → j_Qry_readList_66 post rec19 o l1 l2 l3 s0 x → Wd dC dI cI cB cJ cZ ad stC kcC NN A x H → va_S A s.heap H locs → lv_has ls 4 [(0, .ref (ad o)), (1, .int l1), (2, .int l2), (3, .int l3)] → W p l e R s m args below meth c H locs cells slots Q (F0 m 66 ls [.int s0]) := by
  intro o l1 l2 l3 s0 x H locs ls fo hw hW hS hl
  unfold j_Qry_readList_66 at hw
  refine lv_istore_n (lv' := [(2, .int s0), (0, .ref (ad o)), (1, .int l1), (3, .int l3)]) hx hb d_Qry_readList_66 rfl hl (by decide) rfl (fun ls hl => ?_)
  refine lv_iinc (v := (l3 + 1)) (lv' := [(3, .int (l3 + 1)), (2, .int s0), (0, .ref (ad o)), (1, .int l1)]) hx hb d_Qry_readList_67 hl (k := 3) rfl rfl (by decide) rfl (fun ls hl => ?_)
  refine lv_goto (tgt := 19) hx hb d_Qry_readList_70 (by decide) ?_
  exact hrec19 o l1 s0 (l3 + 1) x H locs ls fo hw hW hS (lv_sub hl [2, 3, 1, 0] rfl)
set_option maxRecDepth 100000 in
def j_Qry_readList_65 (post : St → Prop) (rec19 : Nat → Int32 → Int32 → Int32 → St → Prop) (o : Nat) (l1 : Int32) (l2 : Int32) (l3 : Int32) (x : St) : Prop := j_Qry_readList_66 post rec19 o l1 l2 l3 0 x
set_option maxHeartbeats 4000000 in
set_option maxRecDepth 100000 in
theorem t_Qry_readList_65 {p : Program} {l : Launch} {e : Env} {R : Room} {s : State} {m : MethodId} {args : Array Value} {below : List Frame} {meth : Method} {c : Code} {cells slots : Nat} {Q : State → Prop} {dC : Nat → ClassId} {dI : Nat → Nat → Nat} {cI cB cJ cZ : ClassId} {A : Nat → Prop} {ad : Nat → Nat} {NN : Nat} {E : Heap} {tM tC : Nat} {kK kV : Nat → Nat} {post : St → Prop} {rec19 : Nat → Int32 → Int32 → Int32 → St → Prop} (hx : p.tables.exec = Jvm.exec) (hb : c.code = b_Qry_readList) (hml : c.maxLocals = 4) (hown : s.vm.findClass R_Qry = some m.cls) (hT : ∀ w ∈ TG, w.before args s = true) (hK : va_K (dC, dI) CL (TY cI cB cJ cZ) s) (hN : NW s) (hA : ∀ q : Nat, s.heap.size ≤ q → A q) (hRc : cells ≤ R.cells) (hRs : slots ≤ R.slots) (hRf : 7 ≤ R.frames) (hRl : 269 ≤ R.locals) (hNN : 152 ≤ NN) (hE : CE E tM tC kK kV A s) (hret : ∀ (x : St) (H : Heap) (locs : List Loc) (pc : Nat) (ls : Array Slot), decode b_Qry_readList pc = .ok (.return_, 1) → post x → Wd dC dI cI cB cJ cZ ad stC kcC NN A x H → va_S A s.heap H locs → W p l e R s m args below meth c H locs cells slots Q (F0 m pc ls [])) (hrec19 : ∀ (o : Nat) (l1 : Int32) (l2 : Int32) (l3 : Int32) (x : St) (H : Heap) (locs : List Loc) (ls : Array Slot), (o < NN ∧ kcC o = 9) → rec19 o l1 l2 l3 x → Wd dC dI cI cB cJ cZ ad stC kcC NN A x H → va_S A s.heap H locs → lv_has ls 4 [(0, .ref (ad o)), (1, .int l1), (2, .int l2), (3, .int l3)] → W p l e R s m args below meth c H locs cells slots Q (F0 m 19 ls [])) : ∀ (o : Nat) (l1 : Int32) (l2 : Int32) (l3 : Int32) (x : St) (H : Heap) (locs : List Loc) (ls : Array Slot), (o < NN ∧ kcC o = 9) → j_Qry_readList_65 post rec19 o l1 l2 l3 x → Wd dC dI cI cB cJ cZ ad stC kcC NN A x H → va_S A s.heap H locs → lv_has ls 4 [(0, .ref (ad o)), (1, .int l1), (2, .int l2), (3, .int l3)] → W p l e R s m args below meth c H locs cells slots Q (F0 m 65 ls []) := by
  intro o l1 l2 l3 x H locs ls fo hw hW hS hl
  unfold j_Qry_readList_65 at hw
  refine lv_iconst (v := 0) hx hb d_Qry_readList_65 (by decide) ?_
  exact t_Qry_readList_66 hx hb hml hown hT hK hN hA hRc hRs hRf hRl hNN hE hret hrec19 o l1 l2 l3 0 x H locs ls fo hw hW hS (lv_sub hl [0, 1, 2, 3] rfl)
set_option maxRecDepth 100000 in
def j_Qry_readList_19 (post : St → Prop) (rec19 : Nat → Int32 → Int32 → Int32 → St → Prop) (o : Nat) (l1 : Int32) (l2 : Int32) (l3 : Int32) (x : St) : Prop := (∃ q4395 : Nat, fR x o 17 = some q4395 ∧ (((fI x q4395 1) < l3 → j_Qry_readList_73 post o l1 l2 l3 x) ∧ (¬ (fI x q4395 1) < l3 → ((l2 = 0 → j_Qry_readList_73 post o l1 l2 l3 x) ∧ (¬ l2 = 0 → wp_Qry_readLiteral (fun (x4398 : St) => (∃ q4399 : Nat, fR x4398 o 17 = some q4399 ∧ wp_Scn_good (fun (r4401 : Int32) (x4400 : St) => ((r4401 = 0 → j_Qry_readList_65 post rec19 o l1 l2 l3 x4400) ∧ (¬ r4401 = 0 → (∃ q4403 : Nat, fR x4400 o 17 = some q4403 ∧ wp_Scn_takeSign (fun (r4405 : Int32) (x4404 : St) => ((r4405 = 0 → j_Qry_readList_65 post rec19 o l1 l2 l3 x4404) ∧ (¬ r4405 = 0 → j_Qry_readList_66 post rec19 o l1 l2 l3 1 x4404))) q4403 44 x4400)))) q4399 x4398)) o l1 x)))))
set_option maxHeartbeats 4000000 in
set_option maxRecDepth 100000 in
theorem t_Qry_readList_19 {p : Program} {l : Launch} {e : Env} {R : Room} {s : State} {m : MethodId} {args : Array Value} {below : List Frame} {meth : Method} {c : Code} {cells slots : Nat} {Q : State → Prop} {dC : Nat → ClassId} {dI : Nat → Nat → Nat} {cI cB cJ cZ : ClassId} {A : Nat → Prop} {ad : Nat → Nat} {NN : Nat} {E : Heap} {tM tC : Nat} {kK kV : Nat → Nat} {post : St → Prop} {rec19 : Nat → Int32 → Int32 → Int32 → St → Prop} (hx : p.tables.exec = Jvm.exec) (hb : c.code = b_Qry_readList) (hml : c.maxLocals = 4) (hown : s.vm.findClass R_Qry = some m.cls) (hT : ∀ w ∈ TG, w.before args s = true) (hK : va_K (dC, dI) CL (TY cI cB cJ cZ) s) (hN : NW s) (hA : ∀ q : Nat, s.heap.size ≤ q → A q) (hRc : cells ≤ R.cells) (hRs : slots ≤ R.slots) (hRf : 7 ≤ R.frames) (hRl : 269 ≤ R.locals) (hNN : 152 ≤ NN) (hE : CE E tM tC kK kV A s) (hret : ∀ (x : St) (H : Heap) (locs : List Loc) (pc : Nat) (ls : Array Slot), decode b_Qry_readList pc = .ok (.return_, 1) → post x → Wd dC dI cI cB cJ cZ ad stC kcC NN A x H → va_S A s.heap H locs → W p l e R s m args below meth c H locs cells slots Q (F0 m pc ls [])) (hrec19 : ∀ (o : Nat) (l1 : Int32) (l2 : Int32) (l3 : Int32) (x : St) (H : Heap) (locs : List Loc) (ls : Array Slot), (o < NN ∧ kcC o = 9) → rec19 o l1 l2 l3 x → Wd dC dI cI cB cJ cZ ad stC kcC NN A x H → va_S A s.heap H locs → lv_has ls 4 [(0, .ref (ad o)), (1, .int l1), (2, .int l2), (3, .int l3)] → W p l e R s m args below meth c H locs cells slots Q (F0 m 19 ls [])) : ∀ (o : Nat) (l1 : Int32) (l2 : Int32) (l3 : Int32) (x : St) (H : Heap) (locs : List Loc) (ls : Array Slot), (o < NN ∧ kcC o = 9) → j_Qry_readList_19 post rec19 o l1 l2 l3 x → Wd dC dI cI cB cJ cZ ad stC kcC NN A x H → va_S A s.heap H locs → lv_has ls 4 [(0, .ref (ad o)), (1, .int l1), (2, .int l2), (3, .int l3)] → W p l e R s m args below meth c H locs cells slots Q (F0 m 19 ls []) := by
  intro o l1 l2 l3 x H locs ls fo hw hW hS hl
  unfold j_Qry_readList_19 at hw
  refine lv_iload_n hx hb d_Qry_readList_19 rfl (lv_at hl 3 rfl) ?_
  refine lv_aload_n hx hb d_Qry_readList_20 rfl (lv_at hl 0 rfl) ?_
  obtain ⟨q4395, hq4395, hw⟩ := hw
  refine w_getr (q := q4395) (k := 17) (t := 9) (C := R_Qry) (T := F_Qry) (N := 20) hx hb hT hown hK hW fo.1 fo.2 (by decide) in_Qry rfl rfl (by decide) rfl fr_Qry_17 w_3_105 d_Qry_readList_21 hq4395 (fun aq4395 bq4395 => ?_)
  have fq4395 : q4395 < NN ∧ kcC q4395 = 2 := ⟨aq4395, bq4395⟩
  refine w_geti (k := 1) (t := 2) (C := R_Scn) (T := F_Scn) (N := 8) hx hb hT hown hK hW fq4395.1 fq4395.2 (by decide) in_Scn rfl rfl (by decide) rfl fr_Scn_1 w_1_82 d_Qry_readList_24 ?_
  refine lv_icmp_gt (tgt := 73) hx hb d_Qry_readList_27 (by decide) (fun c4396 => ?_) (fun c4396 => ?_)
  · have hw := hw.1 c4396
    exact t_Qry_readList_73 hx hb hml hown hT hK hN hA hRc hRs hRf hRl hNN hE hret  o l1 l2 l3 x H locs ls fo hw hW hS (lv_sub hl [0, 1, 2, 3] rfl)
  · have hw := hw.2 c4396
    refine lv_iload_n hx hb d_Qry_readList_30 rfl (lv_at hl 2 rfl) ?_
    refine lv_if_eq (tgt := 73) hx hb d_Qry_readList_31 (by decide) (fun c4397 => ?_) (fun c4397 => ?_)
    · have hw := hw.1 c4397
      exact t_Qry_readList_73 hx hb hml hown hT hK hN hA hRc hRs hRf hRl hNN hE hret  o l1 l2 l3 x H locs ls fo hw hW hS (lv_sub hl [0, 1, 2, 3] rfl)
    · have hw := hw.2 c4397
      refine lv_aload_n hx hb d_Qry_readList_34 rfl (lv_at hl 0 rfl) ?_
      refine lv_iload_n hx hb d_Qry_readList_35 rfl (lv_at hl 1 rfl) ?_
      have hF := hW.free hS hA
      refine va_callv (va_runV (C := R_Qry) (As := [.int l1]) (rest := []) ⟨hx, hb, hml, hown, hT⟩ (k_Qry_readLiteral l dC dI cI cB cJ cZ ad NN E tM tC kK kV hNN H.size o l1 x fo hw) ⟨callB_of 1 hT (gw_in w_7_223) rfl rfl rfl (hT _ w_1_12) (hT _ w_7_220) (by decide +kernel) ⟨Nat.le_trans (by decide) hRf, Nat.le_trans (by decide) hRl⟩, hT _ w_7_222, hT _ ws_79⟩ ⟨PV.blind, va_recv hK hW.1 (ci := 9) (q0 := o) rfl (pic_obj fo.1 fo.2 (by decide)), PV.at _ hW hK hN hE hS hF⟩ rfl rfl hl.1 rfl (lv_room (Nat.le_of_ble_eq_true rfl)) d_Qry_readList_36 ⟨hRc, hRs⟩) hS (fun q _ h => hF q h) hF (fun  x4398 t H locs ht hvm hw hB hz1 hk1 hS => ?_)
      have hW := Wd.back hB ht hF
      clear hB ht hF hz1 hk1 hvm
      refine lv_aload_n hx hb d_Qry_readList_39 rfl (lv_at hl 0 rfl) ?_
      obtain ⟨q4399, hq4399, hw⟩ := hw
      refine w_getr (q := q4399) (k := 17) (t := 9) (C := R_Qry) (T := F_Qry) (N := 20) hx hb hT hown hK hW fo.1 fo.2 (by decide) in_Qry rfl rfl (by decide) rfl fr_Qry_17 w_3_105 d_Qry_readList_40 hq4399 (fun aq4399 bq4399 => ?_)
      have fq4399 : q4399 < NN ∧ kcC q4399 = 2 := ⟨aq4399, bq4399⟩
      have hF := hW.free hS hA
      refine va_calli (va_runV (C := R_Scn) (As := []) (rest := []) ⟨hx, hb, hml, hown, hT⟩ (k_Scn_good l dC dI cI cB cJ cZ ad NN E tM tC kK kV hNN H.size q4399 x4398 fq4399 hw) ⟨callB_of 0 hT (gw_in w_4_106) rfl rfl rfl (hT _ w_1_4) (hT _ w_7_147) (by decide +kernel) ⟨Nat.le_trans (by decide) hRf, Nat.le_trans (by decide) hRl⟩, hT _ w_4_104, hT _ w_4_105⟩ ⟨PV.blind, va_recv hK hW.1 (ci := 2) (q0 := q4399) rfl (pic_obj fq4399.1 fq4399.2 (by decide)), PV.at _ hW hK hN hE hS hF⟩ rfl rfl hl.1 rfl (lv_room (Nat.le_of_ble_eq_true rfl)) d_Qry_readList_43 ⟨hRc, hRs⟩) hS (fun q _ h => hF q h) hF (fun r4401 x4400 t H locs ht hvm hw hB hz1 hk1 hS => ?_)
      have hW := Wd.back hB ht hF
      clear hB ht hF hz1 hk1 hvm
      refine lv_if_eq (tgt := 65) hx hb d_Qry_readList_46 (by decide) (fun c4402 => ?_) (fun c4402 => ?_)
      · have hw := hw.1 c4402
        exact t_Qry_readList_65 hx hb hml hown hT hK hN hA hRc hRs hRf hRl hNN hE hret hrec19 o l1 l2 l3 x4400 H locs ls fo hw hW hS (lv_sub hl [0, 1, 2, 3] rfl)
      · have hw := hw.2 c4402
        refine lv_aload_n hx hb d_Qry_readList_49 rfl (lv_at hl 0 rfl) ?_
        obtain ⟨q4403, hq4403, hw⟩ := hw
        refine w_getr (q := q4403) (k := 17) (t := 9) (C := R_Qry) (T := F_Qry) (N := 20) hx hb hT hown hK hW fo.1 fo.2 (by decide) in_Qry rfl rfl (by decide) rfl fr_Qry_17 w_3_105 d_Qry_readList_50 hq4403 (fun aq4403 bq4403 => ?_)
        have fq4403 : q4403 < NN ∧ kcC q4403 = 2 := ⟨aq4403, bq4403⟩
        refine lv_bipush (v := 44) hx hb d_Qry_readList_53 (by decide) ?_
        have hF := hW.free hS hA
        refine va_calli (va_runV (C := R_Scn) (As := [.int 44]) (rest := []) ⟨hx, hb, hml, hown, hT⟩ (k_Scn_takeSign l dC dI cI cB cJ cZ ad NN E tM tC kK kV hNN H.size q4403 44 x4400 fq4403 hw) ⟨callB_of 1 hT (gw_in w_4_123) rfl rfl rfl (hT _ w_1_4) (hT _ w_7_199) (by decide +kernel) ⟨Nat.le_trans (by decide) hRf, Nat.le_trans (by decide) hRl⟩, hT _ w_4_121, hT _ w_4_122⟩ ⟨PV.blind, va_recv hK hW.1 (ci := 2) (q0 := q4403) rfl (pic_obj fq4403.1 fq4403.2 (by decide)), PV.at _ hW hK hN hE hS hF⟩ rfl rfl hl.1 rfl (lv_room (Nat.le_of_ble_eq_true rfl)) d_Qry_readList_55 ⟨hRc, hRs⟩) hS (fun q _ h => hF q h) hF (fun r4405 x4404 t H locs ht hvm hw hB hz1 hk1 hS => ?_)
        have hW := Wd.back hB ht hF
        clear hB ht hF hz1 hk1 hvm
        refine lv_if_eq (tgt := 65) hx hb d_Qry_readList_58 (by decide) (fun c4406 => ?_) (fun c4406 => ?_)
        · have hw := hw.1 c4406
          exact t_Qry_readList_65 hx hb hml hown hT hK hN hA hRc hRs hRf hRl hNN hE hret hrec19 o l1 l2 l3 x4404 H locs ls fo hw hW hS (lv_sub hl [0, 1, 2, 3] rfl)
        · have hw := hw.2 c4406
          refine lv_iconst (v := 1) hx hb d_Qry_readList_61 (by decide) ?_
          refine lv_goto (tgt := 66) hx hb d_Qry_readList_62 (by decide) ?_
          exact t_Qry_readList_66 hx hb hml hown hT hK hN hA hRc hRs hRf hRl hNN hE hret hrec19 o l1 l2 l3 1 x4404 H locs ls fo hw hW hS (lv_sub hl [0, 1, 2, 3] rfl)
def wl_Qry_readList_19 (post : St → Prop) : Nat → Nat → Int32 → Int32 → Int32 → St → Prop
  | 0 => fun _ _ _ _ _ => False
  | n + 1 => j_Qry_readList_19 post (wl_Qry_readList_19 post n)
set_option maxHeartbeats 4000000 in
set_option maxRecDepth 100000 in
theorem tl_Qry_readList_19 {p : Program} {l : Launch} {e : Env} {R : Room} {s : State} {m : MethodId} {args : Array Value} {below : List Frame} {meth : Method} {c : Code} {cells slots : Nat} {Q : State → Prop} {dC : Nat → ClassId} {dI : Nat → Nat → Nat} {cI cB cJ cZ : ClassId} {A : Nat → Prop} {ad : Nat → Nat} {NN : Nat} {E : Heap} {tM tC : Nat} {kK kV : Nat → Nat} {post : St → Prop} (hx : p.tables.exec = Jvm.exec) (hb : c.code = b_Qry_readList) (hml : c.maxLocals = 4) (hown : s.vm.findClass R_Qry = some m.cls) (hT : ∀ w ∈ TG, w.before args s = true) (hK : va_K (dC, dI) CL (TY cI cB cJ cZ) s) (hN : NW s) (hA : ∀ q : Nat, s.heap.size ≤ q → A q) (hRc : cells ≤ R.cells) (hRs : slots ≤ R.slots) (hRf : 7 ≤ R.frames) (hRl : 269 ≤ R.locals) (hNN : 152 ≤ NN) (hE : CE E tM tC kK kV A s) (hret : ∀ (x : St) (H : Heap) (locs : List Loc) (pc : Nat) (ls : Array Slot), decode b_Qry_readList pc = .ok (.return_, 1) → post x → Wd dC dI cI cB cJ cZ ad stC kcC NN A x H → va_S A s.heap H locs → W p l e R s m args below meth c H locs cells slots Q (F0 m pc ls []))  : ∀ n : Nat, ∀ (o : Nat) (l1 : Int32) (l2 : Int32) (l3 : Int32) (x : St) (H : Heap) (locs : List Loc) (ls : Array Slot), (o < NN ∧ kcC o = 9) → wl_Qry_readList_19 post n o l1 l2 l3 x → Wd dC dI cI cB cJ cZ ad stC kcC NN A x H → va_S A s.heap H locs → lv_has ls 4 [(0, .ref (ad o)), (1, .int l1), (2, .int l2), (3, .int l3)] → W p l e R s m args below meth c H locs cells slots Q (F0 m 19 ls []) := by
  intro n
  induction n with
  | zero => intro o l1 l2 l3 x H locs ls fo hw; exact hw.elim
  | succ n ih => intro o l1 l2 l3 x H locs ls fo hw hW hS hl; exact t_Qry_readList_19 hx hb hml hown hT hK hN hA hRc hRs hRf hRl hNN hE hret  ih o l1 l2 l3 x H locs ls fo hw hW hS hl
set_option maxRecDepth 100000 in
def wp_Qry_readList (post : St → Prop) (o : Nat) (l1 : Int32) (x : St) : Prop := (∃ q4407 : Nat, fR x o 17 = some q4407 ∧ wp_Scn_needSign (fun (x4408 : St) => (∃ q4409 : Nat, fR x4408 o 17 = some q4409 ∧ wp_Scn_good (fun (r4411 : Int32) (x4410 : St) => ∃ n : Nat, wl_Qry_readList_19 post n o l1 r4411 0 x4410) q4409 x4408)) q4407 40 x)
set_option maxHeartbeats 4000000 in
set_option maxRecDepth 100000 in
theorem t_Qry_readList_e {p : Program} {l : Launch} {e : Env} {R : Room} {s : State} {m : MethodId} {args : Array Value} {below : List Frame} {meth : Method} {c : Code} {cells slots : Nat} {Q : State → Prop} {dC : Nat → ClassId} {dI : Nat → Nat → Nat} {cI cB cJ cZ : ClassId} {A : Nat → Prop} {ad : Nat → Nat} {NN : Nat} {E : Heap} {tM tC : Nat} {kK kV : Nat → Nat} {post : St → Prop} (hx : p.tables.exec = Jvm.exec) (hb : c.code = b_Qry_readList) (hml : c.maxLocals = 4) (hown : s.vm.findClass R_Qry = some m.cls) (hT : ∀ w ∈ TG, w.before args s = true) (hK : va_K (dC, dI) CL (TY cI cB cJ cZ) s) (hN : NW s) (hA : ∀ q : Nat, s.heap.size ≤ q → A q) (hRc : cells ≤ R.cells) (hRs : slots ≤ R.slots) (hRf : 7 ≤ R.frames) (hRl : 269 ≤ R.locals) (hNN : 152 ≤ NN) (hE : CE E tM tC kK kV A s) (hret : ∀ (x : St) (H : Heap) (locs : List Loc) (pc : Nat) (ls : Array Slot), decode b_Qry_readList pc = .ok (.return_, 1) → post x → Wd dC dI cI cB cJ cZ ad stC kcC NN A x H → va_S A s.heap H locs → W p l e R s m args below meth c H locs cells slots Q (F0 m pc ls [])) : ∀ (o : Nat) (l1 : Int32) (x : St) (H : Heap) (locs : List Loc) (ls : Array Slot), (o < NN ∧ kcC o = 9) → wp_Qry_readList post o l1 x → Wd dC dI cI cB cJ cZ ad stC kcC NN A x H → va_S A s.heap H locs → lv_has ls 4 [(0, .ref (ad o)), (1, .int l1)] → W p l e R s m args below meth c H locs cells slots Q (F0 m 0 ls []) := by
  intro o l1 x H locs ls fo hw hW hS hl
  unfold wp_Qry_readList at hw
  refine lv_aload_n hx hb d_Qry_readList_0 rfl (lv_at hl 0 rfl) ?_
  obtain ⟨q4407, hq4407, hw⟩ := hw
  refine w_getr (q := q4407) (k := 17) (t := 9) (C := R_Qry) (T := F_Qry) (N := 20) hx hb hT hown hK hW fo.1 fo.2 (by decide) in_Qry rfl rfl (by decide) rfl fr_Qry_17 w_3_105 d_Qry_readList_1 hq4407 (fun aq4407 bq4407 => ?_)
  have fq4407 : q4407 < NN ∧ kcC q4407 = 2 := ⟨aq4407, bq4407⟩
  refine lv_bipush (v := 40) hx hb d_Qry_readList_4 (by decide) ?_
  have hF := hW.free hS hA
  refine va_callv (va_runV (C := R_Scn) (As := [.int 40]) (rest := []) ⟨hx, hb, hml, hown, hT⟩ (k_Scn_needSign l dC dI cI cB cJ cZ ad NN E tM tC kK kV hNN H.size q4407 40 x fq4407 hw) ⟨callB_of 1 hT (gw_in w_4_118) rfl rfl rfl (hT _ w_1_4) (hT _ w_7_187) (by decide +kernel) ⟨Nat.le_trans (by decide) hRf, Nat.le_trans (by decide) hRl⟩, hT _ w_4_116, hT _ w_4_117⟩ ⟨PV.blind, va_recv hK hW.1 (ci := 2) (q0 := q4407) rfl (pic_obj fq4407.1 fq4407.2 (by decide)), PV.at _ hW hK hN hE hS hF⟩ rfl rfl hl.1 rfl (lv_room (Nat.le_of_ble_eq_true rfl)) d_Qry_readList_6 ⟨hRc, hRs⟩) hS (fun q _ h => hF q h) hF (fun  x4408 t H locs ht hvm hw hB hz1 hk1 hS => ?_)
  have hW := Wd.back hB ht hF
  clear hB ht hF hz1 hk1 hvm
  refine lv_aload_n hx hb d_Qry_readList_9 rfl (lv_at hl 0 rfl) ?_
  obtain ⟨q4409, hq4409, hw⟩ := hw
  refine w_getr (q := q4409) (k := 17) (t := 9) (C := R_Qry) (T := F_Qry) (N := 20) hx hb hT hown hK hW fo.1 fo.2 (by decide) in_Qry rfl rfl (by decide) rfl fr_Qry_17 w_3_105 d_Qry_readList_10 hq4409 (fun aq4409 bq4409 => ?_)
  have fq4409 : q4409 < NN ∧ kcC q4409 = 2 := ⟨aq4409, bq4409⟩
  have hF := hW.free hS hA
  refine va_calli (va_runV (C := R_Scn) (As := []) (rest := []) ⟨hx, hb, hml, hown, hT⟩ (k_Scn_good l dC dI cI cB cJ cZ ad NN E tM tC kK kV hNN H.size q4409 x4408 fq4409 hw) ⟨callB_of 0 hT (gw_in w_4_106) rfl rfl rfl (hT _ w_1_4) (hT _ w_7_147) (by decide +kernel) ⟨Nat.le_trans (by decide) hRf, Nat.le_trans (by decide) hRl⟩, hT _ w_4_104, hT _ w_4_105⟩ ⟨PV.blind, va_recv hK hW.1 (ci := 2) (q0 := q4409) rfl (pic_obj fq4409.1 fq4409.2 (by decide)), PV.at _ hW hK hN hE hS hF⟩ rfl rfl hl.1 rfl (lv_room (Nat.le_of_ble_eq_true rfl)) d_Qry_readList_13 ⟨hRc, hRs⟩) hS (fun q _ h => hF q h) hF (fun r4411 x4410 t H locs ht hvm hw hB hz1 hk1 hS => ?_)
  have hW := Wd.back hB ht hF
  clear hB ht hF hz1 hk1 hvm
  refine lv_istore_n (lv' := [(2, .int r4411), (0, .ref (ad o)), (1, .int l1)]) hx hb d_Qry_readList_16 rfl hl (by decide) rfl (fun ls hl => ?_)
  refine lv_iconst (v := 0) hx hb d_Qry_readList_17 (by decide) ?_
  refine lv_istore_n (lv' := [(3, .int 0), (2, .int r4411), (0, .ref (ad o)), (1, .int l1)]) hx hb d_Qry_readList_18 rfl hl (by decide) rfl (fun ls hl => ?_)
  obtain ⟨n, hw⟩ := hw
  exact tl_Qry_readList_19 hx hb hml hown hT hK hN hA hRc hRs hRf hRl hNN hE hret  n o l1 r4411 0 x4410 H locs ls fo hw hW hS (lv_sub hl [2, 3, 1, 0] rfl)
set_option maxHeartbeats 4000000 in
set_option maxRecDepth 100000 in
theorem k_Qry_readList (l : Launch) (dC : Nat → ClassId) (dI : Nat → Nat → Nat) (cI cB cJ cZ : ClassId) (ad : Nat → Nat) (NN : Nat) (E : Heap) (tM tC : Nat) (kK kV : Nat → Nat) (hNN : 152 ≤ NN) (sz : Nat) (o : Nat) (l1 : Int32) (x : St) (fo : o < NN ∧ kcC o = 9) {post : St → Prop} (hw : wp_Qry_readList post o l1 x) : Met l y_Qry_readList (wsOf y_Qry_readList b_Qry_readList 4 (none)) ({ frames := 7, cells := 0, slots := 0, locals := 269 }) (va_Pc [.ref (ad o), .int l1] (PV dC dI cI cB cJ cZ ad stC kcC NN E tM tC kK kV sz x)) (va_Qv (fun (y : St) => post y) (fun y t => Wd dC dI cI cB cJ cZ ad stC kcC NN (va_A (pic ad stC kcC NN cI cB cJ cZ x) sz) y t.heap) (va_A (pic ad stC kcC NN cI cB cJ cZ x) sz)) 0 0 (va_A (pic ad stC kcC NN cI cB cJ cZ x) sz) := by
  refine Met.ofW (cc := b_Qry_readList) (maxL := 4) (ret := none) (by decide) rfl ?_
  intro p e s m args below meth c s₁ B hml hv
  obtain ⟨rfl, ⟨hsz, hW0, hK, hN⟩, hE⟩ := hv
  have hx := B.exec
  have hb := B.bytes
  have hr := B.returns
  have hts := atoms_spec B.pre
  have hT : ∀ w ∈ TG, w.before _ s = true := fun w h => hts w (List.mem_cons_of_mem _ h)
  have hown : s.vm.findClass R_Qry = some m.cls := findClass_of_methodNamed B.named
  have hlocks := B.notSynchronized
  subst hsz
  have hW : Wd dC dI cI cB cJ cZ ad stC kcC NN (va_A (pic ad stC kcC NN cI cB cJ cZ x) s.heap.size) x s.heap := ⟨hW0.1, hW0.2.1.self (sz := s.heap.size), hW0.2.2⟩
  generalize hAe : va_A (pic ad stC kcC NN cI cB cJ cZ x) s.heap.size = A at hW hE ⊢
  have hA : ∀ q : Nat, s.heap.size ≤ q → A q := fun q h => by rw [← hAe]; exact Or.inr h
  have hS : va_S A s.heap s.heap [] := va_S.rf
  have hl := lv_entry ([.ref (ad o), .int l1]) (n := 4) (Nat.le_of_ble_eq_true rfl)
  rw [lg_entry_eq]
  generalize (lg_sl ([.ref (ad o), .int l1]) ++ List.replicate (4 - (lg_sl ([.ref (ad o), .int l1])).length) Slot.unset).toArray = ls at hl ⊢
  have hl : lv_has ls 4 [(0, .ref (ad o)), (1, .int l1)] := hl
  exact t_Qry_readList_e hx hb hml hown hT hK hN hA (Nat.le_refl 0) (Nat.le_refl 0) (Nat.le_refl 7) (Nat.le_refl 269) hNN hE (fun x H locs pc ls hd hp hW hS => W.vret hx hb hr (fun t ht hM => ⟨⟨x, rfl, hp, Wd.back hW ht.symm (fun _ z => z)⟩, hS.F ht⟩) hS.2.2 hd hlocks)  o l1 x _ _ ls fo hw hW hS hl
end
