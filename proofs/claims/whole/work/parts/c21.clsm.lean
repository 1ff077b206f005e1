theorem fr_Ans_0 : F_Ans 0 = (R_Ans, "ready", "Z", false) := rfl
theorem fr_Asm_1 : F_Asm 1 = (R_Asm, "vault", "LStripedVault$Vault;", true) := rfl
theorem fr_Asm_2 : F_Asm 2 = (R_Asm, "cursor", "[I", true) := rfl
theorem fr_Qry_0 : F_Qry 0 = (R_Qry, "ready", "Z", false) := rfl
theorem fr_Qry_17 : F_Qry 17 = (R_Qry, "scan", "LStripedVault$Scan;", false) := rfl
theorem fr_V_10 : F_V 10 = (R_V, "query", "LStripedVault$Query;", false) := rfl
theorem fr_V_12 : F_V 12 = (R_V, "answer", "LStripedVault$Answer;", false) := rfl
theorem fr_V_8 : F_V 8 = (R_V, "vault", "LStripedVault$Vault;", true) := rfl
theorem fr_V_9 : F_V 9 = (R_V, "opener", "LStripedVault$Opener;", true) := rfl
theorem fr_Vlt_0 : F_Vlt 0 = (R_Vlt, "ready", "Z", false) := rfl
theorem w_1_134 : (Jvm.Cond.fieldLink "StripedVault$Vault" (64 : Nat) "StripedVault$Schema" "columns" "I") ∈ TG := tw_1 134 (by decide +kernel) (by decide +kernel)
theorem w_1_138 : (Jvm.Cond.fieldLink "StripedVault" (148 : Nat) "StripedVault$Schema" "columns" "I") ∈ TG := tw_1 138 (by decide +kernel) (by decide +kernel)
theorem w_1_170 : (Jvm.Cond.fieldLink "StripedVault$Assembler" (118 : Nat) "StripedVault$Schema" "past" "[I") ∈ TG := tw_1 170 (by decide +kernel) (by decide +kernel)
theorem w_1_174 : (Jvm.Cond.fieldLink "StripedVault$Assembler" (124 : Nat) "StripedVault$Schema" "column" "[I") ∈ TG := tw_1 174 (by decide +kernel) (by decide +kernel)
theorem w_2_122 : (Jvm.Cond.fieldLink "StripedVault" (163 : Nat) "StripedVault$Vault" "ready" "Z") ∈ TG := tw_2 122 (by decide +kernel) (by decide +kernel)
theorem w_2_126 : (Jvm.Cond.fieldLink "StripedVault" (183 : Nat) "StripedVault$Vault" "rows" "I") ∈ TG := tw_2 126 (by decide +kernel) (by decide +kernel)
theorem w_2_128 : (Jvm.Cond.fieldLink "StripedVault" (186 : Nat) "StripedVault$Vault" "groups" "I") ∈ TG := tw_2 128 (by decide +kernel) (by decide +kernel)
theorem w_2_131 : (Jvm.Cond.fieldLink "StripedVault" (190 : Nat) "StripedVault$Vault" "pages" "I") ∈ TG := tw_2 131 (by decide +kernel) (by decide +kernel)
theorem w_2_132 : (Jvm.Cond.fieldLink "StripedVault$Vault" (68 : Nat) "StripedVault$Vault" "entries" "I") ∈ TG := tw_2 132 (by decide +kernel) (by decide +kernel)
theorem w_2_135 : (Jvm.Cond.fieldLink "StripedVault$Assembler" (45 : Nat) "StripedVault$Vault" "schema" "LStripedVault$Schema;") ∈ TG := tw_2 135 (by decide +kernel) (by decide +kernel)
theorem w_2_138 : (Jvm.Cond.fieldLink "StripedVault" (189 : Nat) "StripedVault$Vault" "schema" "LStripedVault$Schema;") ∈ TG := tw_2 138 (by decide +kernel) (by decide +kernel)
theorem w_2_154 : (Jvm.Cond.fieldLink "StripedVault$Vault" (33 : Nat) "StripedVault$Vault" "start" "[I") ∈ TG := tw_2 154 (by decide +kernel) (by decide +kernel)
theorem w_3_105 : (Jvm.Cond.fieldLink "StripedVault$Query" (44 : Nat) "StripedVault$Query" "scan" "LStripedVault$Scan;") ∈ TG := tw_3 105 (by decide +kernel) (by decide +kernel)
theorem w_3_156 : (Jvm.Cond.fieldLink "StripedVault" (168 : Nat) "StripedVault$Answer" "ready" "Z") ∈ TG := tw_3 156 (by decide +kernel) (by decide +kernel)
theorem w_3_20 : (Jvm.Cond.fieldLink "StripedVault" (179 : Nat) "StripedVault$Opener" "where" "[I") ∈ TG := tw_3 20 (by decide +kernel) (by decide +kernel)
theorem w_3_223 : (Jvm.Cond.fieldLink "StripedVault$Assembler" (28 : Nat) "StripedVault$Assembler" "vault" "LStripedVault$Vault;") ∈ TG := tw_3 223 (by decide +kernel) (by decide +kernel)
theorem w_3_224 : (Jvm.Cond.fieldLink "StripedVault$Assembler" (21 : Nat) "StripedVault$Assembler" "cursor" "[I") ∈ TG := tw_3 224 (by decide +kernel) (by decide +kernel)
theorem w_3_75 : (Jvm.Cond.fieldLink "StripedVault" (167 : Nat) "StripedVault$Query" "ready" "Z") ∈ TG := tw_3 75 (by decide +kernel) (by decide +kernel)
theorem w_4_3 : (Jvm.Cond.fieldLink "StripedVault" (59 : Nat) "StripedVault" "vault" "LStripedVault$Vault;") ∈ TG := tw_4 3 (by decide +kernel) (by decide +kernel)
theorem w_4_4 : (Jvm.Cond.fieldLink "StripedVault" (68 : Nat) "StripedVault" "opener" "LStripedVault$Opener;") ∈ TG := tw_4 4 (by decide +kernel) (by decide +kernel)
theorem w_4_5 : (Jvm.Cond.fieldLink "StripedVault" (75 : Nat) "StripedVault" "query" "LStripedVault$Query;") ∈ TG := tw_4 5 (by decide +kernel) (by decide +kernel)
theorem w_4_7 : (Jvm.Cond.fieldLink "StripedVault" (85 : Nat) "StripedVault" "answer" "LStripedVault$Answer;") ∈ TG := tw_4 7 (by decide +kernel) (by decide +kernel)
theorem w_6_168 : (Jvm.Cond.methodLink "StripedVault" (176 : Nat) ({ cls := "StripedVault$Opener", name := "lookAtChunks", desc := "()I" } : Jvm.MethodName)) ∈ TG := tw_6 168 (by decide +kernel) (by decide +kernel)
theorem w_6_169 : (Jvm.Cond.instanceMethod ({ cls := "StripedVault$Opener", name := "lookAtChunks", desc := "()I" } : Jvm.MethodName)) ∈ TG := tw_6 169 (by decide +kernel) (by decide +kernel)
theorem w_6_170 : (Jvm.Cond.selects "StripedVault$Opener" ({ cls := "StripedVault$Opener", name := "lookAtChunks", desc := "()I" } : Jvm.MethodName) ({ cls := "StripedVault$Opener", name := "lookAtChunks", desc := "()I" } : Jvm.MethodName)) ∈ TG := tw_6 170 (by decide +kernel) (by decide +kernel)
theorem w_6_171 : (Jvm.Cond.code ({ cls := "StripedVault$Opener", name := "lookAtChunks", desc := "()I" } : Jvm.MethodName) prog_4_method_10_code (7 : Nat) (Option.some Jvm.ClassFile.FieldType.int)) ∈ TG := tw_6 171 (by decide +kernel) (by decide +kernel)
theorem w_6_74 : (Jvm.Cond.methodLink "StripedVault" (169 : Nat) ({ cls := "StripedVault$Opener", name := "lookAtFrame", desc := "([BI)I" } : Jvm.MethodName)) ∈ TG := tw_6 74 (by decide +kernel) (by decide +kernel)
theorem w_6_75 : (Jvm.Cond.instanceMethod ({ cls := "StripedVault$Opener", name := "lookAtFrame", desc := "([BI)I" } : Jvm.MethodName)) ∈ TG := tw_6 75 (by decide +kernel) (by decide +kernel)
theorem w_6_76 : (Jvm.Cond.selects "StripedVault$Opener" ({ cls := "StripedVault$Opener", name := "lookAtFrame", desc := "([BI)I" } : Jvm.MethodName) ({ cls := "StripedVault$Opener", name := "lookAtFrame", desc := "([BI)I" } : Jvm.MethodName)) ∈ TG := tw_6 76 (by decide +kernel) (by decide +kernel)
theorem w_6_77 : (Jvm.Cond.code ({ cls := "StripedVault$Opener", name := "lookAtFrame", desc := "([BI)I" } : Jvm.MethodName) prog_4_method_3_code (7 : Nat) (Option.some Jvm.ClassFile.FieldType.int)) ∈ TG := tw_6 77 (by decide +kernel) (by decide +kernel)
theorem w_6_96 : (Jvm.Cond.methodLink "StripedVault" (173 : Nat) ({ cls := "StripedVault$Opener", name := "lookAtFooter", desc := "()I" } : Jvm.MethodName)) ∈ TG := tw_6 96 (by decide +kernel) (by decide +kernel)
theorem w_6_97 : (Jvm.Cond.instanceMethod ({ cls := "StripedVault$Opener", name := "lookAtFooter", desc := "()I" } : Jvm.MethodName)) ∈ TG := tw_6 97 (by decide +kernel) (by decide +kernel)
theorem w_6_98 : (Jvm.Cond.selects "StripedVault$Opener" ({ cls := "StripedVault$Opener", name := "lookAtFooter", desc := "()I" } : Jvm.MethodName) ({ cls := "StripedVault$Opener", name := "lookAtFooter", desc := "()I" } : Jvm.MethodName)) ∈ TG := tw_6 98 (by decide +kernel) (by decide +kernel)
theorem w_6_99 : (Jvm.Cond.code ({ cls := "StripedVault$Opener", name := "lookAtFooter", desc := "()I" } : Jvm.MethodName) prog_4_method_4_code (14 : Nat) (Option.some Jvm.ClassFile.FieldType.int)) ∈ TG := tw_6 99 (by decide +kernel) (by decide +kernel)
theorem w_7_159 : (Jvm.Cond.methodLink "StripedVault$Query" (92 : Nat) ({ cls := "StripedVault$Scan", name := "takeWord", desc := "(Ljava/lang/String;)Z" } : Jvm.MethodName)) ∈ TG := tw_7 159 (by decide +kernel) (by decide +kernel)
theorem w_7_174 : (Jvm.Cond.methodLink "StripedVault$Query" (193 : Nat) ({ cls := "StripedVault$Scan", name := "isWord", desc := "(Ljava/lang/String;)Z" } : Jvm.MethodName)) ∈ TG := tw_7 174 (by decide +kernel) (by decide +kernel)
theorem w_7_97 : (Jvm.Cond.methodLink "StripedVault$Assembler" (121 : Nat) ({ cls := "StripedVault$Schema", name := "columnsBefore", desc := "(I)I" } : Jvm.MethodName)) ∈ TG := tw_7 97 (by decide +kernel) (by decide +kernel)
theorem d_V_open_83 : decode b_V_open 83 = .ok (.putfield 163, 3) := by decide +kernel
theorem d_V_open_86 : decode b_V_open 86 = .ok (.iload_n 1, 1) := by decide +kernel
theorem d_V_open_87 : decode b_V_open 87 = .ok (.ireturn, 1) := by decide +kernel
theorem d_V_open_70 : decode b_V_open 70 = .ok (.aload_n 0, 1) := by decide +kernel
theorem d_V_open_71 : decode b_V_open 71 = .ok (.getfield 59, 3) := by decide +kernel
theorem d_V_open_74 : decode b_V_open 74 = .ok (.iload_n 1, 1) := by decide +kernel
theorem d_V_open_75 : decode b_V_open 75 = .ok (.ifCond .ne 7, 3) := by decide +kernel
theorem d_V_open_82 : decode b_V_open 82 = .ok (.iconst 0, 1) := by decide +kernel
theorem d_V_open_78 : decode b_V_open 78 = .ok (.iconst 1, 1) := by decide +kernel
theorem d_V_open_79 : decode b_V_open 79 = .ok (.goto 4, 3) := by decide +kernel
theorem d_V_open_58 : decode b_V_open 58 = .ok (.iload_n 1, 1) := by decide +kernel
theorem d_V_open_59 : decode b_V_open 59 = .ok (.ifCond .ne 11, 3) := by decide +kernel
theorem d_V_open_62 : decode b_V_open 62 = .ok (.aload_n 0, 1) := by decide +kernel
theorem d_V_open_63 : decode b_V_open 63 = .ok (.getfield 68, 3) := by decide +kernel
theorem d_V_open_66 : decode b_V_open 66 = .ok (.invokevirtual 176, 3) := by decide +kernel
theorem d_V_open_69 : decode b_V_open 69 = .ok (.istore_n 1, 1) := by decide +kernel
theorem d_V_open_0 : decode b_V_open 0 = .ok (.aload_n 0, 1) := by decide +kernel
theorem d_V_open_1 : decode b_V_open 1 = .ok (.getfield 59, 3) := by decide +kernel
theorem d_V_open_4 : decode b_V_open 4 = .ok (.iconst 0, 1) := by decide +kernel
theorem d_V_open_5 : decode b_V_open 5 = .ok (.putfield 163, 3) := by decide +kernel
theorem d_V_open_8 : decode b_V_open 8 = .ok (.aload_n 0, 1) := by decide +kernel
theorem d_V_open_9 : decode b_V_open 9 = .ok (.getfield 75, 3) := by decide +kernel
theorem d_V_open_12 : decode b_V_open 12 = .ok (.iconst 0, 1) := by decide +kernel
theorem d_V_open_13 : decode b_V_open 13 = .ok (.putfield 167, 3) := by decide +kernel
theorem d_V_open_16 : decode b_V_open 16 = .ok (.aload_n 0, 1) := by decide +kernel
theorem d_V_open_17 : decode b_V_open 17 = .ok (.getfield 85, 3) := by decide +kernel
theorem d_V_open_20 : decode b_V_open 20 = .ok (.iconst 0, 1) := by decide +kernel
theorem d_V_open_21 : decode b_V_open 21 = .ok (.putfield 168, 3) := by decide +kernel
theorem d_V_open_24 : decode b_V_open 24 = .ok (.aload_n 0, 1) := by decide +kernel
theorem d_V_open_25 : decode b_V_open 25 = .ok (.getfield 68, 3) := by decide +kernel
theorem d_V_open_28 : decode b_V_open 28 = .ok (.aload_n 0, 1) := by decide +kernel
theorem d_V_open_29 : decode b_V_open 29 = .ok (.getfield 22, 3) := by decide +kernel
theorem d_V_open_32 : decode b_V_open 32 = .ok (.getfield 116, 3) := by decide +kernel
theorem d_V_open_35 : decode b_V_open 35 = .ok (.aload_n 0, 1) := by decide +kernel
theorem d_V_open_36 : decode b_V_open 36 = .ok (.getfield 22, 3) := by decide +kernel
theorem d_V_open_39 : decode b_V_open 39 = .ok (.getfield 99, 3) := by decide +kernel
theorem d_V_open_42 : decode b_V_open 42 = .ok (.invokevirtual 169, 3) := by decide +kernel
theorem d_V_open_45 : decode b_V_open 45 = .ok (.istore_n 1, 1) := by decide +kernel
theorem d_V_open_46 : decode b_V_open 46 = .ok (.iload_n 1, 1) := by decide +kernel
theorem d_V_open_47 : decode b_V_open 47 = .ok (.ifCond .ne 11, 3) := by decide +kernel
theorem d_V_open_50 : decode b_V_open 50 = .ok (.aload_n 0, 1) := by decide +kernel
theorem d_V_open_51 : decode b_V_open 51 = .ok (.getfield 68, 3) := by decide +kernel
theorem d_V_open_54 : decode b_V_open 54 = .ok (.invokevirtual 173, 3) := by decide +kernel
theorem d_V_open_57 : decode b_V_open 57 = .ok (.istore_n 1, 1) := by decide +kernel
theorem d_V_fault_9 : decode b_V_fault 9 = .ok (.iconst (-1), 1) := by decide +kernel
theorem d_V_fault_10 : decode b_V_fault 10 = .ok (.goto 12, 3) := by decide +kernel
theorem d_V_fault_22 : decode b_V_fault 22 = .ok (.ireturn, 1) := by decide +kernel
theorem d_V_fault_0 : decode b_V_fault 0 = .ok (.iload_n 1, 1) := by decide +kernel
theorem d_V_fault_1 : decode b_V_fault 1 = .ok (.ifCond .lt 8, 3) := by decide +kernel
theorem d_V_fault_4 : decode b_V_fault 4 = .ok (.iload_n 1, 1) := by decide +kernel
theorem d_V_fault_5 : decode b_V_fault 5 = .ok (.iconst 2, 1) := by decide +kernel
theorem d_V_fault_6 : decode b_V_fault 6 = .ok (.if_icmp .le 7, 3) := by decide +kernel
theorem d_V_fault_13 : decode b_V_fault 13 = .ok (.aload_n 0, 1) := by decide +kernel
theorem d_V_fault_14 : decode b_V_fault 14 = .ok (.getfield 68, 3) := by decide +kernel
theorem d_V_fault_17 : decode b_V_fault 17 = .ok (.getfield 179, 3) := by decide +kernel
theorem d_V_fault_20 : decode b_V_fault 20 = .ok (.iload_n 1, 1) := by decide +kernel
theorem d_V_fault_21 : decode b_V_fault 21 = .ok (.iaload, 1) := by decide +kernel
theorem d_V_opened_0 : decode b_V_opened 0 = .ok (.aload_n 0, 1) := by decide +kernel
theorem d_V_opened_1 : decode b_V_opened 1 = .ok (.getfield 59, 3) := by decide +kernel
theorem d_V_opened_4 : decode b_V_opened 4 = .ok (.getfield 163, 3) := by decide +kernel
theorem d_V_opened_7 : decode b_V_opened 7 = .ok (.ifCond .ne 5, 3) := by decide +kernel
theorem d_V_opened_12 : decode b_V_opened 12 = .ok (.iload_n 1, 1) := by decide +kernel
theorem d_V_opened_13 : decode b_V_opened 13 = .ok (.tableswitch 81 0 4 #[35, 43, 51, 62, 73], 35) := by decide +kernel
theorem d_V_opened_48 : decode b_V_opened 48 = .ok (.aload_n 0, 1) := by decide +kernel
theorem d_V_opened_49 : decode b_V_opened 49 = .ok (.getfield 59, 3) := by decide +kernel
theorem d_V_opened_52 : decode b_V_opened 52 = .ok (.getfield 183, 3) := by decide +kernel
theorem d_V_opened_55 : decode b_V_opened 55 = .ok (.ireturn, 1) := by decide +kernel
theorem d_V_opened_56 : decode b_V_opened 56 = .ok (.aload_n 0, 1) := by decide +kernel
theorem d_V_opened_57 : decode b_V_opened 57 = .ok (.getfield 59, 3) := by decide +kernel
theorem d_V_opened_60 : decode b_V_opened 60 = .ok (.getfield 186, 3) := by decide +kernel
theorem d_V_opened_63 : decode b_V_opened 63 = .ok (.ireturn, 1) := by decide +kernel
theorem d_V_opened_64 : decode b_V_opened 64 = .ok (.aload_n 0, 1) := by decide +kernel
theorem d_V_opened_65 : decode b_V_opened 65 = .ok (.getfield 59, 3) := by decide +kernel
theorem d_V_opened_68 : decode b_V_opened 68 = .ok (.getfield 189, 3) := by decide +kernel
theorem d_V_opened_71 : decode b_V_opened 71 = .ok (.getfield 129, 3) := by decide +kernel
theorem d_V_opened_74 : decode b_V_opened 74 = .ok (.ireturn, 1) := by decide +kernel
theorem d_V_opened_75 : decode b_V_opened 75 = .ok (.aload_n 0, 1) := by decide +kernel
theorem d_V_opened_76 : decode b_V_opened 76 = .ok (.getfield 59, 3) := by decide +kernel
theorem d_V_opened_79 : decode b_V_opened 79 = .ok (.getfield 189, 3) := by decide +kernel
theorem d_V_opened_82 : decode b_V_opened 82 = .ok (.getfield 148, 3) := by decide +kernel
theorem d_V_opened_85 : decode b_V_opened 85 = .ok (.ireturn, 1) := by decide +kernel
theorem d_V_opened_86 : decode b_V_opened 86 = .ok (.aload_n 0, 1) := by decide +kernel
theorem d_V_opened_87 : decode b_V_opened 87 = .ok (.getfield 59, 3) := by decide +kernel
theorem d_V_opened_90 : decode b_V_opened 90 = .ok (.getfield 190, 3) := by decide +kernel
theorem d_V_opened_93 : decode b_V_opened 93 = .ok (.ireturn, 1) := by decide +kernel
theorem d_V_opened_94 : decode b_V_opened 94 = .ok (.iconst (-1), 1) := by decide +kernel
theorem d_V_opened_95 : decode b_V_opened 95 = .ok (.ireturn, 1) := by decide +kernel
theorem d_V_opened_10 : decode b_V_opened 10 = .ok (.iconst (-1), 1) := by decide +kernel
theorem d_V_opened_11 : decode b_V_opened 11 = .ok (.ireturn, 1) := by decide +kernel
theorem d_Vlt_entryOf_25 : decode b_Vlt_entryOf 25 = .ok (.aload_n 0, 1) := by decide +kernel
theorem d_Vlt_entryOf_26 : decode b_Vlt_entryOf 26 = .ok (.getfield 68, 3) := by decide +kernel
theorem d_Vlt_entryOf_29 : decode b_Vlt_entryOf 29 = .ok (.goto 9, 3) := by decide +kernel
theorem d_Vlt_entryOf_38 : decode b_Vlt_entryOf 38 = .ok (.ireturn, 1) := by decide +kernel
theorem d_Vlt_entryOf_0 : decode b_Vlt_entryOf 0 = .ok (.iload_n 1, 1) := by decide +kernel
theorem d_Vlt_entryOf_1 : decode b_Vlt_entryOf 1 = .ok (.aload_n 0, 1) := by decide +kernel
theorem d_Vlt_entryOf_2 : decode b_Vlt_entryOf 2 = .ok (.getfield 12, 3) := by decide +kernel
theorem d_Vlt_entryOf_5 : decode b_Vlt_entryOf 5 = .ok (.getfield 64, 3) := by decide +kernel
theorem d_Vlt_entryOf_8 : decode b_Vlt_entryOf 8 = .ok (.imul, 1) := by decide +kernel
theorem d_Vlt_entryOf_9 : decode b_Vlt_entryOf 9 = .ok (.iload_n 2, 1) := by decide +kernel
theorem d_Vlt_entryOf_10 : decode b_Vlt_entryOf 10 = .ok (.iadd, 1) := by decide +kernel
theorem d_Vlt_entryOf_11 : decode b_Vlt_entryOf 11 = .ok (.istore_n 3, 1) := by decide +kernel
theorem d_Vlt_entryOf_12 : decode b_Vlt_entryOf 12 = .ok (.iload_n 3, 1) := by decide +kernel
theorem d_Vlt_entryOf_13 : decode b_Vlt_entryOf 13 = .ok (.ifCond .lt 12, 3) := by decide +kernel
theorem d_Vlt_entryOf_16 : decode b_Vlt_entryOf 16 = .ok (.iload_n 3, 1) := by decide +kernel
theorem d_Vlt_entryOf_17 : decode b_Vlt_entryOf 17 = .ok (.aload_n 0, 1) := by decide +kernel
theorem d_Vlt_entryOf_18 : decode b_Vlt_entryOf 18 = .ok (.getfield 33, 3) := by decide +kernel
theorem d_Vlt_entryOf_21 : decode b_Vlt_entryOf 21 = .ok (.arraylength, 1) := by decide +kernel
theorem d_Vlt_entryOf_22 : decode b_Vlt_entryOf 22 = .ok (.if_icmp .lt 10, 3) := by decide +kernel
theorem d_Vlt_entryOf_32 : decode b_Vlt_entryOf 32 = .ok (.aload_n 0, 1) := by decide +kernel
theorem d_Vlt_entryOf_33 : decode b_Vlt_entryOf 33 = .ok (.getfield 33, 3) := by decide +kernel
theorem d_Vlt_entryOf_36 : decode b_Vlt_entryOf 36 = .ok (.iload_n 3, 1) := by decide +kernel
theorem d_Vlt_entryOf_37 : decode b_Vlt_entryOf 37 = .ok (.iaload, 1) := by decide +kernel
theorem d_Asm_passBy_36 : decode b_Asm_passBy 36 = .ok (.iload_n 3, 1) := by decide +kernel
theorem d_Asm_passBy_37 : decode b_Asm_passBy 37 = .ok (.iload_n 2, 1) := by decide +kernel
theorem d_Asm_passBy_38 : decode b_Asm_passBy 38 = .ok (.if_icmp .ge 19, 3) := by decide +kernel
theorem d_Asm_passBy_57 : decode b_Asm_passBy 57 = .ok (.return_, 1) := by decide +kernel
theorem d_Asm_passBy_41 : decode b_Asm_passBy 41 = .ok (.aload_n 0, 1) := by decide +kernel
theorem d_Asm_passBy_42 : decode b_Asm_passBy 42 = .ok (.getfield 21, 3) := by decide +kernel
theorem d_Asm_passBy_45 : decode b_Asm_passBy 45 = .ok (.iload_n 3, 1) := by decide +kernel
theorem d_Asm_passBy_46 : decode b_Asm_passBy 46 = .ok (.dup2, 1) := by decide +kernel
theorem d_Asm_passBy_47 : decode b_Asm_passBy 47 = .ok (.iaload, 1) := by decide +kernel
theorem d_Asm_passBy_48 : decode b_Asm_passBy 48 = .ok (.iconst 1, 1) := by decide +kernel
theorem d_Asm_passBy_49 : decode b_Asm_passBy 49 = .ok (.iadd, 1) := by decide +kernel
theorem d_Asm_passBy_50 : decode b_Asm_passBy 50 = .ok (.iastore, 1) := by decide +kernel
theorem d_Asm_passBy_51 : decode b_Asm_passBy 51 = .ok (.iinc 3 1, 3) := by decide +kernel
theorem d_Asm_passBy_54 : decode b_Asm_passBy 54 = .ok (.goto (-18), 3) := by decide +kernel
theorem d_Asm_passBy_0 : decode b_Asm_passBy 0 = .ok (.aload_n 0, 1) := by decide +kernel
theorem d_Asm_passBy_1 : decode b_Asm_passBy 1 = .ok (.getfield 28, 3) := by decide +kernel
theorem d_Asm_passBy_4 : decode b_Asm_passBy 4 = .ok (.getfield 45, 3) := by decide +kernel
theorem d_Asm_passBy_7 : decode b_Asm_passBy 7 = .ok (.aload_n 0, 1) := by decide +kernel
theorem d_Asm_passBy_8 : decode b_Asm_passBy 8 = .ok (.getfield 28, 3) := by decide +kernel
theorem d_Asm_passBy_11 : decode b_Asm_passBy 11 = .ok (.getfield 45, 3) := by decide +kernel
theorem d_Asm_passBy_14 : decode b_Asm_passBy 14 = .ok (.getfield 118, 3) := by decide +kernel
theorem d_Asm_passBy_17 : decode b_Asm_passBy 17 = .ok (.iload_n 1, 1) := by decide +kernel
theorem d_Asm_passBy_18 : decode b_Asm_passBy 18 = .ok (.iaload, 1) := by decide +kernel
theorem d_Asm_passBy_19 : decode b_Asm_passBy 19 = .ok (.invokevirtual 121, 3) := by decide +kernel
theorem d_Asm_passBy_22 : decode b_Asm_passBy 22 = .ok (.istore_n 2, 1) := by decide +kernel
theorem d_Asm_passBy_23 : decode b_Asm_passBy 23 = .ok (.aload_n 0, 1) := by decide +kernel
theorem d_Asm_passBy_24 : decode b_Asm_passBy 24 = .ok (.getfield 28, 3) := by decide +kernel
theorem d_Asm_passBy_27 : decode b_Asm_passBy 27 = .ok (.getfield 45, 3) := by decide +kernel
theorem d_Asm_passBy_30 : decode b_Asm_passBy 30 = .ok (.getfield 124, 3) := by decide +kernel
theorem d_Asm_passBy_33 : decode b_Asm_passBy 33 = .ok (.iload_n 1, 1) := by decide +kernel
theorem d_Asm_passBy_34 : decode b_Asm_passBy 34 = .ok (.iaload, 1) := by decide +kernel
theorem d_Asm_passBy_35 : decode b_Asm_passBy 35 = .ok (.istore_n 3, 1) := by decide +kernel
theorem d_Asm_hexDigit_0 : decode b_Asm_hexDigit 0 = .ok (.iload_n 0, 1) := by decide +kernel
theorem d_Asm_hexDigit_1 : decode b_Asm_hexDigit 1 = .ok (.bipush 10, 2) := by decide +kernel
theorem d_Asm_hexDigit_3 : decode b_Asm_hexDigit 3 = .ok (.if_icmp .ge 10, 3) := by decide +kernel
theorem d_Asm_hexDigit_13 : decode b_Asm_hexDigit 13 = .ok (.bipush 97, 2) := by decide +kernel
theorem d_Asm_hexDigit_15 : decode b_Asm_hexDigit 15 = .ok (.iload_n 0, 1) := by decide +kernel
theorem d_Asm_hexDigit_16 : decode b_Asm_hexDigit 16 = .ok (.iadd, 1) := by decide +kernel
theorem d_Asm_hexDigit_17 : decode b_Asm_hexDigit 17 = .ok (.bipush 10, 2) := by decide +kernel
theorem d_Asm_hexDigit_19 : decode b_Asm_hexDigit 19 = .ok (.isub, 1) := by decide +kernel
theorem d_Asm_hexDigit_20 : decode b_Asm_hexDigit 20 = .ok (.ireturn, 1) := by decide +kernel
theorem d_Asm_hexDigit_6 : decode b_Asm_hexDigit 6 = .ok (.bipush 48, 2) := by decide +kernel
theorem d_Asm_hexDigit_8 : decode b_Asm_hexDigit 8 = .ok (.iload_n 0, 1) := by decide +kernel
theorem d_Asm_hexDigit_9 : decode b_Asm_hexDigit 9 = .ok (.iadd, 1) := by decide +kernel
theorem d_Asm_hexDigit_10 : decode b_Asm_hexDigit 10 = .ok (.goto 10, 3) := by decide +kernel
theorem d_Qry_readItemForm_0 : decode b_Qry_readItemForm 0 = .ok (.aload_n 0, 1) := by decide +kernel
theorem d_Qry_readItemForm_1 : decode b_Qry_readItemForm 1 = .ok (.getfield 44, 3) := by decide +kernel
theorem d_Qry_readItemForm_4 : decode b_Qry_readItemForm 4 = .ok (.ldc 157, 2) := by decide +kernel
theorem d_Qry_readItemForm_6 : decode b_Qry_readItemForm 6 = .ok (.invokevirtual 92, 3) := by decide +kernel
theorem d_Qry_readItemForm_9 : decode b_Qry_readItemForm 9 = .ok (.ifCond .eq 5, 3) := by decide +kernel
theorem d_Qry_readItemForm_14 : decode b_Qry_readItemForm 14 = .ok (.aload_n 0, 1) := by decide +kernel
theorem d_Qry_readItemForm_15 : decode b_Qry_readItemForm 15 = .ok (.getfield 44, 3) := by decide +kernel
theorem d_Qry_readItemForm_18 : decode b_Qry_readItemForm 18 = .ok (.ldc 159, 2) := by decide +kernel
theorem d_Qry_readItemForm_20 : decode b_Qry_readItemForm 20 = .ok (.invokevirtual 92, 3) := by decide +kernel
theorem d_Qry_readItemForm_23 : decode b_Qry_readItemForm 23 = .ok (.ifCond .eq 5, 3) := by decide +kernel
theorem d_Qry_readItemForm_28 : decode b_Qry_readItemForm 28 = .ok (.aload_n 0, 1) := by decide +kernel
theorem d_Qry_readItemForm_29 : decode b_Qry_readItemForm 29 = .ok (.getfield 44, 3) := by decide +kernel
theorem d_Qry_readItemForm_32 : decode b_Qry_readItemForm 32 = .ok (.ldc 161, 2) := by decide +kernel
theorem d_Qry_readItemForm_34 : decode b_Qry_readItemForm 34 = .ok (.invokevirtual 92, 3) := by decide +kernel
theorem d_Qry_readItemForm_37 : decode b_Qry_readItemForm 37 = .ok (.ifCond .eq 5, 3) := by decide +kernel
theorem d_Qry_readItemForm_42 : decode b_Qry_readItemForm 42 = .ok (.aload_n 0, 1) := by decide +kernel
theorem d_Qry_readItemForm_43 : decode b_Qry_readItemForm 43 = .ok (.getfield 44, 3) := by decide +kernel
theorem d_Qry_readItemForm_46 : decode b_Qry_readItemForm 46 = .ok (.ldc 163, 2) := by decide +kernel
theorem d_Qry_readItemForm_48 : decode b_Qry_readItemForm 48 = .ok (.invokevirtual 92, 3) := by decide +kernel
theorem d_Qry_readItemForm_51 : decode b_Qry_readItemForm 51 = .ok (.ifCond .eq 7, 3) := by decide +kernel
theorem d_Qry_readItemForm_58 : decode b_Qry_readItemForm 58 = .ok (.iconst 0, 1) := by decide +kernel
theorem d_Qry_readItemForm_59 : decode b_Qry_readItemForm 59 = .ok (.ireturn, 1) := by decide +kernel
theorem d_Qry_readItemForm_54 : decode b_Qry_readItemForm 54 = .ok (.iconst 5, 1) := by decide +kernel
theorem d_Qry_readItemForm_55 : decode b_Qry_readItemForm 55 = .ok (.goto 4, 3) := by decide +kernel
theorem d_Qry_readItemForm_40 : decode b_Qry_readItemForm 40 = .ok (.iconst 4, 1) := by decide +kernel
theorem d_Qry_readItemForm_41 : decode b_Qry_readItemForm 41 = .ok (.ireturn, 1) := by decide +kernel
theorem d_Qry_readItemForm_26 : decode b_Qry_readItemForm 26 = .ok (.iconst 3, 1) := by decide +kernel
theorem d_Qry_readItemForm_27 : decode b_Qry_readItemForm 27 = .ok (.ireturn, 1) := by decide +kernel
theorem d_Qry_readItemForm_12 : decode b_Qry_readItemForm 12 = .ok (.iconst 2, 1) := by decide +kernel
theorem d_Qry_readItemForm_13 : decode b_Qry_readItemForm 13 = .ok (.ireturn, 1) := by decide +kernel
theorem d_Qry_isOwnWord_192 : decode b_Qry_isOwnWord 192 = .ok (.iconst 1, 1) := by decide +kernel
theorem d_Qry_isOwnWord_193 : decode b_Qry_isOwnWord 193 = .ok (.goto 4, 3) := by decide +kernel
theorem d_Qry_isOwnWord_197 : decode b_Qry_isOwnWord 197 = .ok (.ireturn, 1) := by decide +kernel
theorem d_Qry_isOwnWord_0 : decode b_Qry_isOwnWord 0 = .ok (.aload_n 0, 1) := by decide +kernel
theorem d_Qry_isOwnWord_1 : decode b_Qry_isOwnWord 1 = .ok (.getfield 44, 3) := by decide +kernel
theorem d_Qry_isOwnWord_4 : decode b_Qry_isOwnWord 4 = .ok (.ldc 75, 2) := by decide +kernel
theorem d_Qry_isOwnWord_6 : decode b_Qry_isOwnWord 6 = .ok (.invokevirtual 193, 3) := by decide +kernel
theorem d_Qry_isOwnWord_9 : decode b_Qry_isOwnWord 9 = .ok (.ifCond .ne 183, 3) := by decide +kernel
theorem d_Qry_isOwnWord_12 : decode b_Qry_isOwnWord 12 = .ok (.aload_n 0, 1) := by decide +kernel
theorem d_Qry_isOwnWord_13 : decode b_Qry_isOwnWord 13 = .ok (.getfield 44, 3) := by decide +kernel
theorem d_Qry_isOwnWord_16 : decode b_Qry_isOwnWord 16 = .ok (.ldc 90, 2) := by decide +kernel
theorem d_Qry_isOwnWord_18 : decode b_Qry_isOwnWord 18 = .ok (.invokevirtual 193, 3) := by decide +kernel
theorem d_Qry_isOwnWord_21 : decode b_Qry_isOwnWord 21 = .ok (.ifCond .ne 171, 3) := by decide +kernel
theorem d_Qry_isOwnWord_24 : decode b_Qry_isOwnWord 24 = .ok (.aload_n 0, 1) := by decide +kernel
theorem d_Qry_isOwnWord_25 : decode b_Qry_isOwnWord 25 = .ok (.getfield 44, 3) := by decide +kernel
theorem d_Qry_isOwnWord_28 : decode b_Qry_isOwnWord 28 = .ok (.ldc 100, 2) := by decide +kernel
theorem d_Qry_isOwnWord_30 : decode b_Qry_isOwnWord 30 = .ok (.invokevirtual 193, 3) := by decide +kernel
theorem d_Qry_isOwnWord_33 : decode b_Qry_isOwnWord 33 = .ok (.ifCond .ne 159, 3) := by decide +kernel
theorem d_Qry_isOwnWord_36 : decode b_Qry_isOwnWord 36 = .ok (.aload_n 0, 1) := by decide +kernel
theorem d_Qry_isOwnWord_37 : decode b_Qry_isOwnWord 37 = .ok (.getfield 44, 3) := by decide +kernel
theorem d_Qry_isOwnWord_40 : decode b_Qry_isOwnWord 40 = .ok (.ldc 102, 2) := by decide +kernel
theorem d_Qry_isOwnWord_42 : decode b_Qry_isOwnWord 42 = .ok (.invokevirtual 193, 3) := by decide +kernel
theorem d_Qry_isOwnWord_45 : decode b_Qry_isOwnWord 45 = .ok (.ifCond .ne 147, 3) := by decide +kernel
theorem d_Qry_isOwnWord_48 : decode b_Qry_isOwnWord 48 = .ok (.aload_n 0, 1) := by decide +kernel
theorem d_Qry_isOwnWord_49 : decode b_Qry_isOwnWord 49 = .ok (.getfield 44, 3) := by decide +kernel
theorem d_Qry_isOwnWord_52 : decode b_Qry_isOwnWord 52 = .ok (.ldc 196, 2) := by decide +kernel
theorem d_Qry_isOwnWord_54 : decode b_Qry_isOwnWord 54 = .ok (.invokevirtual 193, 3) := by decide +kernel
theorem d_Qry_isOwnWord_57 : decode b_Qry_isOwnWord 57 = .ok (.ifCond .ne 135, 3) := by decide +kernel
theorem d_Qry_isOwnWord_60 : decode b_Qry_isOwnWord 60 = .ok (.aload_n 0, 1) := by decide +kernel
theorem d_Qry_isOwnWord_61 : decode b_Qry_isOwnWord 61 = .ok (.getfield 44, 3) := by decide +kernel
theorem d_Qry_isOwnWord_64 : decode b_Qry_isOwnWord 64 = .ok (.ldc 198, 2) := by decide +kernel
theorem d_Qry_isOwnWord_66 : decode b_Qry_isOwnWord 66 = .ok (.invokevirtual 193, 3) := by decide +kernel
theorem d_Qry_isOwnWord_69 : decode b_Qry_isOwnWord 69 = .ok (.ifCond .ne 123, 3) := by decide +kernel
theorem d_Qry_isOwnWord_72 : decode b_Qry_isOwnWord 72 = .ok (.aload_n 0, 1) := by decide +kernel
theorem d_Qry_isOwnWord_73 : decode b_Qry_isOwnWord 73 = .ok (.getfield 44, 3) := by decide +kernel
theorem d_Qry_isOwnWord_76 : decode b_Qry_isOwnWord 76 = .ok (.ldc 200, 2) := by decide +kernel
theorem d_Qry_isOwnWord_78 : decode b_Qry_isOwnWord 78 = .ok (.invokevirtual 193, 3) := by decide +kernel
theorem d_Qry_isOwnWord_81 : decode b_Qry_isOwnWord 81 = .ok (.ifCond .ne 111, 3) := by decide +kernel
theorem d_Qry_isOwnWord_84 : decode b_Qry_isOwnWord 84 = .ok (.aload_n 0, 1) := by decide +kernel
theorem d_Qry_isOwnWord_85 : decode b_Qry_isOwnWord 85 = .ok (.getfield 44, 3) := by decide +kernel
theorem d_Qry_isOwnWord_88 : decode b_Qry_isOwnWord 88 = .ok (.ldc 202, 2) := by decide +kernel
theorem d_Qry_isOwnWord_90 : decode b_Qry_isOwnWord 90 = .ok (.invokevirtual 193, 3) := by decide +kernel
theorem d_Qry_isOwnWord_93 : decode b_Qry_isOwnWord 93 = .ok (.ifCond .ne 99, 3) := by decide +kernel
theorem d_Qry_isOwnWord_96 : decode b_Qry_isOwnWord 96 = .ok (.aload_n 0, 1) := by decide +kernel
theorem d_Qry_isOwnWord_97 : decode b_Qry_isOwnWord 97 = .ok (.getfield 44, 3) := by decide +kernel
theorem d_Qry_isOwnWord_100 : decode b_Qry_isOwnWord 100 = .ok (.ldc 204, 2) := by decide +kernel
theorem d_Qry_isOwnWord_102 : decode b_Qry_isOwnWord 102 = .ok (.invokevirtual 193, 3) := by decide +kernel
theorem d_Qry_isOwnWord_105 : decode b_Qry_isOwnWord 105 = .ok (.ifCond .ne 87, 3) := by decide +kernel
theorem d_Qry_isOwnWord_108 : decode b_Qry_isOwnWord 108 = .ok (.aload_n 0, 1) := by decide +kernel
theorem d_Qry_isOwnWord_109 : decode b_Qry_isOwnWord 109 = .ok (.getfield 44, 3) := by decide +kernel
theorem d_Qry_isOwnWord_112 : decode b_Qry_isOwnWord 112 = .ok (.ldc 206, 2) := by decide +kernel
theorem d_Qry_isOwnWord_114 : decode b_Qry_isOwnWord 114 = .ok (.invokevirtual 193, 3) := by decide +kernel
theorem d_Qry_isOwnWord_117 : decode b_Qry_isOwnWord 117 = .ok (.ifCond .ne 75, 3) := by decide +kernel
theorem d_Qry_isOwnWord_120 : decode b_Qry_isOwnWord 120 = .ok (.aload_n 0, 1) := by decide +kernel
theorem d_Qry_isOwnWord_121 : decode b_Qry_isOwnWord 121 = .ok (.getfield 44, 3) := by decide +kernel
theorem d_Qry_isOwnWord_124 : decode b_Qry_isOwnWord 124 = .ok (.ldc 208, 2) := by decide +kernel
theorem d_Qry_isOwnWord_126 : decode b_Qry_isOwnWord 126 = .ok (.invokevirtual 193, 3) := by decide +kernel
theorem d_Qry_isOwnWord_129 : decode b_Qry_isOwnWord 129 = .ok (.ifCond .ne 63, 3) := by decide +kernel
theorem d_Qry_isOwnWord_132 : decode b_Qry_isOwnWord 132 = .ok (.aload_n 0, 1) := by decide +kernel
theorem d_Qry_isOwnWord_133 : decode b_Qry_isOwnWord 133 = .ok (.getfield 44, 3) := by decide +kernel
theorem d_Qry_isOwnWord_136 : decode b_Qry_isOwnWord 136 = .ok (.ldc 210, 2) := by decide +kernel
theorem d_Qry_isOwnWord_138 : decode b_Qry_isOwnWord 138 = .ok (.invokevirtual 193, 3) := by decide +kernel
theorem d_Qry_isOwnWord_141 : decode b_Qry_isOwnWord 141 = .ok (.ifCond .ne 51, 3) := by decide +kernel
theorem d_Qry_isOwnWord_144 : decode b_Qry_isOwnWord 144 = .ok (.aload_n 0, 1) := by decide +kernel
theorem d_Qry_isOwnWord_145 : decode b_Qry_isOwnWord 145 = .ok (.getfield 44, 3) := by decide +kernel
theorem d_Qry_isOwnWord_148 : decode b_Qry_isOwnWord 148 = .ok (.ldc 157, 2) := by decide +kernel
theorem d_Qry_isOwnWord_150 : decode b_Qry_isOwnWord 150 = .ok (.invokevirtual 193, 3) := by decide +kernel
theorem d_Qry_isOwnWord_153 : decode b_Qry_isOwnWord 153 = .ok (.ifCond .ne 39, 3) := by decide +kernel
theorem d_Qry_isOwnWord_156 : decode b_Qry_isOwnWord 156 = .ok (.aload_n 0, 1) := by decide +kernel
theorem d_Qry_isOwnWord_157 : decode b_Qry_isOwnWord 157 = .ok (.getfield 44, 3) := by decide +kernel
theorem d_Qry_isOwnWord_160 : decode b_Qry_isOwnWord 160 = .ok (.ldc 159, 2) := by decide +kernel
theorem d_Qry_isOwnWord_162 : decode b_Qry_isOwnWord 162 = .ok (.invokevirtual 193, 3) := by decide +kernel
theorem d_Qry_isOwnWord_165 : decode b_Qry_isOwnWord 165 = .ok (.ifCond .ne 27, 3) := by decide +kernel
theorem d_Qry_isOwnWord_168 : decode b_Qry_isOwnWord 168 = .ok (.aload_n 0, 1) := by decide +kernel
theorem d_Qry_isOwnWord_169 : decode b_Qry_isOwnWord 169 = .ok (.getfield 44, 3) := by decide +kernel
theorem d_Qry_isOwnWord_172 : decode b_Qry_isOwnWord 172 = .ok (.ldc 161, 2) := by decide +kernel
theorem d_Qry_isOwnWord_174 : decode b_Qry_isOwnWord 174 = .ok (.invokevirtual 193, 3) := by decide +kernel
theorem d_Qry_isOwnWord_177 : decode b_Qry_isOwnWord 177 = .ok (.ifCond .ne 15, 3) := by decide +kernel
theorem d_Qry_isOwnWord_180 : decode b_Qry_isOwnWord 180 = .ok (.aload_n 0, 1) := by decide +kernel
theorem d_Qry_isOwnWord_181 : decode b_Qry_isOwnWord 181 = .ok (.getfield 44, 3) := by decide +kernel
theorem d_Qry_isOwnWord_184 : decode b_Qry_isOwnWord 184 = .ok (.ldc 163, 2) := by decide +kernel
theorem d_Qry_isOwnWord_186 : decode b_Qry_isOwnWord 186 = .ok (.invokevirtual 193, 3) := by decide +kernel
theorem d_Qry_isOwnWord_189 : decode b_Qry_isOwnWord 189 = .ok (.ifCond .eq 7, 3) := by decide +kernel
theorem d_Qry_isOwnWord_196 : decode b_Qry_isOwnWord 196 = .ok (.iconst 0, 1) := by decide +kernel
section
variable (l : Launch) (dC : Nat → ClassId) (dI : Nat → Nat → Nat) (cI cB cJ cZ : ClassId)
set_option maxRecDepth 100000 in
def j_V_open_83 (post : Int32 → St → Prop) (o : Nat) (l1 : Int32) (s0 : Int32) (s1 : Nat) (x : St) : Prop := (narrow .boolean (.int s0) = .int s0 ∧ ∀ x4102 : St, x4102 = setI x s1 0 s0 → post l1 x4102)
set_option maxHeartbeats 4000000 in
set_option maxRecDepth 100000 in
theorem t_V_open_83 {p : Program} {l : Launch} {e : Env} {R : Room} {s : State} {m : MethodId} {args : Array Value} {below : List Frame} {meth : Method} {c : Code} {cells slots : Nat} {Q : State → Prop} {dC : Nat → ClassId} {dI : Nat → Nat → Nat} {cI cB cJ cZ : ClassId} {A : Nat → Prop} {ad : Nat → Nat} {NN : Nat} {E : Heap} {tM tC : Nat} {kK kV : Nat → Nat} {post : Int32 → St → Prop} (hx : p.tables.exec = Jvm.exec) (hb : c.code = b_V_open) (hml : c.maxLocals = 2) (hown : s.vm.findClass R_V = some m.cls) (hT : ∀ w ∈ TG, w.before args s = true) (hK : va_K (dC, dI) CL (TY cI cB cJ cZ) s) (hN : NW s) (hA : ∀ q : Nat, s.heap.size ≤ q → A q) (hRc : cells ≤ R.cells) (hRs : slots ≤ R.slots) (hRf : 8 ≤ R.frames) (hRl : 275 ≤ R.locals) (hNN : 152 ≤ NN) (hE : CE E tM tC kK kV A s) (hret : ∀ (r : Int32) (x : St) (H : Heap) (locs : List Loc) (pc : Nat) (ls : Array Slot), decode b_V_open pc = .ok (.ireturn, 1) → post r x → Wd dC dI cI cB cJ cZ ad stC kcC NN A x H → va_S A s.heap H locs → W p l e R s m args below meth c H locs cells slots Q (F0 m pc ls [.int r]))  : ∀ (o : Nat) (l1 : Int32) (s0 : Int32) (s1 : Nat) (x : St) (H : Heap) (locs : List Loc) (ls : Array Slot), (o < NN ∧ kcC o = 0) → (s1 < NN ∧ kcC s1 = 6) → j_V_open_83 post o l1 s0 s1 x → Wd dC dI cI cB cJ cZ ad stC kcC NN A x H → va_S A s.heap H locs → lv_has ls 2 [(0, .ref (ad o)), (1, .int l1)] → W p l e R s m args below meth c H locs cells slots Q (F0 m 83 ls [.int s0, .ref (ad s1)]) := by
  intro o l1 s0 s1 x H locs ls fo fs1 hw hW hS hl
  unfold j_V_open_83 at hw
  obtain ⟨hz, hw⟩ := hw
  refine w_puti (ty := .boolean) (k := 0) (t := 6) (C := R_Vlt) (T := F_Vlt) (N := 20) hx hb hT hown hK hW hS fs1.1 fs1.2 (by decide) in_Vlt t_Vlt t_Vlt_ok n_Vlt rfl rfl (by decide) rfl fr_Vlt_0 w_2_122 (by decide +kernel) hz rfl d_V_open_83 (fun H locs hW hS => ?_)
  obtain ⟨x4102, ex4102⟩ : ∃ y : St, y = setI x s1 0 s0 := ⟨_, rfl⟩
  rw [← ex4102] at hW
  have hw := hw x4102 ex4102
  refine lv_iload_n hx hb d_V_open_86 rfl (lv_at hl 1 rfl) ?_
  exact hret l1 x4102 H locs 87 ls d_V_open_87 hw hW hS
set_option maxRecDepth 100000 in
def j_V_open_70 (post : Int32 → St → Prop) (o : Nat) (l1 : Int32) (x : St) : Prop := ((¬ l1 = 0 → j_V_open_83 post o l1 0 (stC o 8) x) ∧ (l1 = 0 → j_V_open_83 post o l1 1 (stC o 8) x))
set_option maxHeartbeats 4000000 in
set_option maxRecDepth 100000 in
theorem t_V_open_70 {p : Program} {l : Launch} {e : Env} {R : Room} {s : State} {m : MethodId} {args : Array Value} {below : List Frame} {meth : Method} {c : Code} {cells slots : Nat} {Q : State → Prop} {dC : Nat → ClassId} {dI : Nat → Nat → Nat} {cI cB cJ cZ : ClassId} {A : Nat → Prop} {ad : Nat → Nat} {NN : Nat} {E : Heap} {tM tC : Nat} {kK kV : Nat → Nat} {post : Int32 → St → Prop} (hx : p.tables.exec = Jvm.exec) (hb : c.code = b_V_open) (hml : c.maxLocals = 2) (hown : s.vm.findClass R_V = some m.cls) (hT : ∀ w ∈ TG, w.before args s = true) (hK : va_K (dC, dI) CL (TY cI cB cJ cZ) s) (hN : NW s) (hA : ∀ q : Nat, s.heap.size ≤ q → A q) (hRc : cells ≤ R.cells) (hRs : slots ≤ R.slots) (hRf : 8 ≤ R.frames) (hRl : 275 ≤ R.locals) (hNN : 152 ≤ NN) (hE : CE E tM tC kK kV A s) (hret : ∀ (r : Int32) (x : St) (H : Heap) (locs : List Loc) (pc : Nat) (ls : Array Slot), decode b_V_open pc = .ok (.ireturn, 1) → post r x → Wd dC dI cI cB cJ cZ ad stC kcC NN A x H → va_S A s.heap H locs → W p l e R s m args below meth c H locs cells slots Q (F0 m pc ls [.int r]))  : ∀ (o : Nat) (l1 : Int32) (x : St) (H : Heap) (locs : List Loc) (ls : Array Slot), (o < NN ∧ kcC o = 0) → j_V_open_70 post o l1 x → Wd dC dI cI cB cJ cZ ad stC kcC NN A x H → va_S A s.heap H locs → lv_has ls 2 [(0, .ref (ad o)), (1, .int l1)] → W p l e R s m args below meth c H locs cells slots Q (F0 m 70 ls []) := by
  intro o l1 x H locs ls fo hw hW hS hl
  unfold j_V_open_70 at hw
  refine lv_aload_n hx hb d_V_open_70 rfl (lv_at hl 0 rfl) ?_
  refine w_getf (q := (stC o 8)) (k := 8) (t := 0) (C := R_V) (T := F_V) (N := 15) hx hb hT hown hK hW fo.1 fo.2 (by decide) in_V rfl rfl (by decide) rfl fr_V_8 w_4_3 d_V_open_71 rfl ?_
  refine lv_iload_n hx hb d_V_open_74 rfl (lv_at hl 1 rfl) ?_
  refine lv_if_ne (tgt := 82) hx hb d_V_open_75 (by decide) (fun c4103 => ?_) (fun c4103 => ?_)
  · have hw := hw.1 c4103
    refine lv_iconst (v := 0) hx hb d_V_open_82 (by decide) ?_
    exact t_V_open_83 hx hb hml hown hT hK hN hA hRc hRs hRf hRl hNN hE hret  o l1 0 (stC o 8) x H locs ls fo (st_ty hNN fo.1 fo.2 rfl) hw hW hS (lv_sub hl [0, 1] rfl)
  · have hw := hw.2 c4103
    refine lv_iconst (v := 1) hx hb d_V_open_78 (by decide) ?_
    refine lv_goto (tgt := 83) hx hb d_V_open_79 (by decide) ?_
    exact t_V_open_83 hx hb hml hown hT hK hN hA hRc hRs hRf hRl hNN hE hret  o l1 1 (stC o 8) x H locs ls fo (st_ty hNN fo.1 fo.2 rfl) hw hW hS (lv_sub hl [0, 1] rfl)
set_option maxRecDepth 100000 in
def j_V_open_58 (post : Int32 → St → Prop) (o : Nat) (l1 : Int32) (x : St) : Prop := ((¬ l1 = 0 → j_V_open_70 post o l1 x) ∧ (l1 = 0 → wp_Opn_lookAtChunks (fun (r4106 : Int32) (x4105 : St) => j_V_open_70 post o r4106 x4105) (stC o 9) x))
set_option maxHeartbeats 4000000 in
set_option maxRecDepth 100000 in
theorem t_V_open_58 {p : Program} {l : Launch} {e : Env} {R : Room} {s : State} {m : MethodId} {args : Array Value} {below : List Frame} {meth : Method} {c : Code} {cells slots : Nat} {Q : State → Prop} {dC : Nat → ClassId} {dI : Nat → Nat → Nat} {cI cB cJ cZ : ClassId} {A : Nat → Prop} {ad : Nat → Nat} {NN : Nat} {E : Heap} {tM tC : Nat} {kK kV : Nat → Nat} {post : Int32 → St → Prop} (hx : p.tables.exec = Jvm.exec) (hb : c.code = b_V_open) (hml : c.maxLocals = 2) (hown : s.vm.findClass R_V = some m.cls) (hT : ∀ w ∈ TG, w.before args s = true) (hK : va_K (dC, dI) CL (TY cI cB cJ cZ) s) (hN : NW s) (hA : ∀ q : Nat, s.heap.size ≤ q → A q) (hRc : cells ≤ R.cells) (hRs : slots ≤ R.slots) (hRf : 8 ≤ R.frames) (hRl : 275 ≤ R.locals) (hNN : 152 ≤ NN) (hE : CE E tM tC kK kV A s) (hret : ∀ (r : Int32) (x : St) (H : Heap) (locs : List Loc) (pc : Nat) (ls : Array Slot), decode b_V_open pc = .ok (.ireturn, 1) → post r x → Wd dC dI cI cB cJ cZ ad stC kcC NN A x H → va_S A s.heap H locs → W p l e R s m args below meth c H locs cells slots Q (F0 m pc ls [.int r]))  : ∀ (o : Nat) (l1 : Int32) (x : St) (H : Heap) (locs : List Loc) (ls : Array Slot), (o < NN ∧ kcC o = 0) → j_V_open_58 post o l1 x → Wd dC dI cI cB cJ cZ ad stC kcC NN A x H → va_S A s.heap H locs → lv_has ls 2 [(0, .ref (ad o)), (1, .int l1)] → W p l e R s m args below meth c H locs cells slots Q (F0 m 58 ls []) := by
  intro o l1 x H locs ls fo hw hW hS hl
  unfold j_V_open_58 at hw
  refine lv_iload_n hx hb d_V_open_58 rfl (lv_at hl 1 rfl) ?_
  refine lv_if_ne (tgt := 70) hx hb d_V_open_59 (by decide) (fun c4104 => ?_) (fun c4104 => ?_)
  · have hw := hw.1 c4104
    exact t_V_open_70 hx hb hml hown hT hK hN hA hRc hRs hRf hRl hNN hE hret  o l1 x H locs ls fo hw hW hS (lv_sub hl [0, 1] rfl)
  · have hw := hw.2 c4104
    refine lv_aload_n hx hb d_V_open_62 rfl (lv_at hl 0 rfl) ?_
    refine w_getf (q := (stC o 9)) (k := 9) (t := 0) (C := R_V) (T := F_V) (N := 15) hx hb hT hown hK hW fo.1 fo.2 (by decide) in_V rfl rfl (by decide) rfl fr_V_9 w_4_4 d_V_open_63 rfl ?_
    have hF := hW.free hS hA
    refine va_calli (va_runV (C := R_Opn) (As := []) (rest := []) ⟨hx, hb, hml, hown, hT⟩ (k_Opn_lookAtChunks l dC dI cI cB cJ cZ ad NN E tM tC kK kV hNN H.size (stC o 9) x (st_ty hNN fo.1 fo.2 rfl) hw) ⟨callB_of 0 hT (gw_in w_6_171) rfl rfl rfl (hT _ w_1_10) (hT _ w_6_168) (by decide +kernel) ⟨Nat.le_trans (by decide) hRf, Nat.le_trans (by decide) hRl⟩, hT _ w_6_169, hT _ w_6_170⟩ ⟨PV.blind, va_recv hK hW.1 (ci := 7) (q0 := (stC o 9)) rfl (pic_obj (st_ty hNN fo.1 fo.2 rfl).1 (st_ty hNN fo.1 fo.2 rfl).2 (by decide)), PV.at _ hW hK hN hE hS hF⟩ rfl rfl hl.1 rfl (lv_room (Nat.le_of_ble_eq_true rfl)) d_V_open_66 ⟨hRc, hRs⟩) hS (fun q _ h => hF q h) hF (fun r4106 x4105 t H locs ht hvm hw hB hz1 hk1 hS => ?_)
    have hW := Wd.back hB ht hF
    clear hB ht hF hz1 hk1 hvm
    refine lv_istore_n (lv' := [(1, .int r4106), (0, .ref (ad o))]) hx hb d_V_open_69 rfl hl (by decide) rfl (fun ls hl => ?_)
    exact t_V_open_70 hx hb hml hown hT hK hN hA hRc hRs hRf hRl hNN hE hret  o r4106 x4105 H locs ls fo hw hW hS (lv_sub hl [1, 0] rfl)
set_option maxRecDepth 100000 in
def wp_V_open (post : Int32 → St → Prop) (o : Nat) (x : St) : Prop := (∀ x4107 : St, x4107 = setI x (stC o 8) 0 0 → (∃ q4108 : Nat, fR x4107 o 10 = some q4108 ∧ (∀ x4109 : St, x4109 = setI x4107 q4108 0 0 → (∃ q4110 : Nat, fR x4109 o 12 = some q4110 ∧ (∀ x4111 : St, x4111 = setI x4109 q4110 0 0 → (∃ q4112 : Nat, fR x4111 o 2 = some q4112 ∧ (∃ q4113 : Nat, fR x4111 q4112 0 = some q4113 ∧ (∃ q4114 : Nat, fR x4111 o 2 = some q4114 ∧ wp_Opn_lookAtFrame (fun (r4116 : Int32) (x4115 : St) => ((¬ r4116 = 0 → j_V_open_58 post o r4116 x4115) ∧ (r4116 = 0 → wp_Opn_lookAtFooter (fun (r4119 : Int32) (x4118 : St) => j_V_open_58 post o r4119 x4118) (stC o 9) x4115))) (stC o 9) q4113 (fI x4111 q4114 1) x4111))))))))
set_option maxHeartbeats 4000000 in
set_option maxRecDepth 100000 in
theorem t_V_open_e {p : Program} {l : Launch} {e : Env} {R : Room} {s : State} {m : MethodId} {args : Array Value} {below : List Frame} {meth : Method} {c : Code} {cells slots : Nat} {Q : State → Prop} {dC : Nat → ClassId} {dI : Nat → Nat → Nat} {cI cB cJ cZ : ClassId} {A : Nat → Prop} {ad : Nat → Nat} {NN : Nat} {E : Heap} {tM tC : Nat} {kK kV : Nat → Nat} {post : Int32 → St → Prop} (hx : p.tables.exec = Jvm.exec) (hb : c.code = b_V_open) (hml : c.maxLocals = 2) (hown : s.vm.findClass R_V = some m.cls) (hT : ∀ w ∈ TG, w.before args s = true) (hK : va_K (dC, dI) CL (TY cI cB cJ cZ) s) (hN : NW s) (hA : ∀ q : Nat, s.heap.size ≤ q → A q) (hRc : cells ≤ R.cells) (hRs : slots ≤ R.slots) (hRf : 8 ≤ R.frames) (hRl : 275 ≤ R.locals) (hNN : 152 ≤ NN) (hE : CE E tM tC kK kV A s) (hret : ∀ (r : Int32) (x : St) (H : Heap) (locs : List Loc) (pc : Nat) (ls : Array Slot), decode b_V_open pc = .ok (.ireturn, 1) → post r x → Wd dC dI cI cB cJ cZ ad stC kcC NN A x H → va_S A s.heap H locs → W p l e R s m args below meth c H locs cells slots Q (F0 m pc ls [.int r])) : ∀ (o : Nat) (x : St) (H : Heap) (locs : List Loc) (ls : Array Slot), (o < NN ∧ kcC o = 0) → wp_V_open post o x → Wd dC dI cI cB cJ cZ ad stC kcC NN A x H → va_S A s.heap H locs → lv_has ls 2 [(0, .ref (ad o))] → W p l e R s m args below meth c H locs cells slots Q (F0 m 0 ls []) := by
  intro o x H locs ls fo hw hW hS hl
  unfold wp_V_open at hw
  refine lv_aload_n hx hb d_V_open_0 rfl (lv_at hl 0 rfl) ?_
  refine w_getf (q := (stC o 8)) (k := 8) (t := 0) (C := R_V) (T := F_V) (N := 15) hx hb hT hown hK hW fo.1 fo.2 (by decide) in_V rfl rfl (by decide) rfl fr_V_8 w_4_3 d_V_open_1 rfl ?_
  refine lv_iconst (v := 0) hx hb d_V_open_4 (by decide) ?_
  refine w_puti (ty := .boolean) (k := 0) (t := 6) (C := R_Vlt) (T := F_Vlt) (N := 20) hx hb hT hown hK hW hS (st_ty hNN fo.1 fo.2 rfl).1 (st_ty hNN fo.1 fo.2 rfl).2 (by decide) in_Vlt t_Vlt t_Vlt_ok n_Vlt rfl rfl (by decide) rfl fr_Vlt_0 w_2_122 (by decide +kernel) rfl rfl d_V_open_5 (fun H locs hW hS => ?_)
  obtain ⟨x4107, ex4107⟩ : ∃ y : St, y = setI x (stC o 8) 0 0 := ⟨_, rfl⟩
  rw [← ex4107] at hW
  have hw := hw x4107 ex4107
  refine lv_aload_n hx hb d_V_open_8 rfl (lv_at hl 0 rfl) ?_
  obtain ⟨q4108, hq4108, hw⟩ := hw
  refine w_getr (q := q4108) (k := 10) (t := 0) (C := R_V) (T := F_V) (N := 15) hx hb hT hown hK hW fo.1 fo.2 (by decide) in_V rfl rfl (by decide) rfl fr_V_10 w_4_5 d_V_open_9 hq4108 (fun aq4108 bq4108 => ?_)
  have fq4108 : q4108 < NN ∧ kcC q4108 = 9 := ⟨aq4108, bq4108⟩
  refine lv_iconst (v := 0) hx hb d_V_open_12 (by decide) ?_
  refine w_puti (ty := .boolean) (k := 0) (t := 9) (C := R_Qry) (T := F_Qry) (N := 20) hx hb hT hown hK hW hS fq4108.1 fq4108.2 (by decide) in_Qry t_Qry t_Qry_ok n_Qry rfl rfl (by decide) rfl fr_Qry_0 w_3_75 (by decide +kernel) rfl rfl d_V_open_13 (fun H locs hW hS => ?_)
  obtain ⟨x4109, ex4109⟩ : ∃ y : St, y = setI x4107 q4108 0 0 := ⟨_, rfl⟩
  rw [← ex4109] at hW
  have hw := hw x4109 ex4109
  refine lv_aload_n hx hb d_V_open_16 rfl (lv_at hl 0 rfl) ?_
  obtain ⟨q4110, hq4110, hw⟩ := hw
  refine w_getr (q := q4110) (k := 12) (t := 0) (C := R_V) (T := F_V) (N := 15) hx hb hT hown hK hW fo.1 fo.2 (by decide) in_V rfl rfl (by decide) rfl fr_V_12 w_4_7 d_V_open_17 hq4110 (fun aq4110 bq4110 => ?_)
  have fq4110 : q4110 < NN ∧ kcC q4110 = 10 := ⟨aq4110, bq4110⟩
  refine lv_iconst (v := 0) hx hb d_V_open_20 (by decide) ?_
  refine w_puti (ty := .boolean) (k := 0) (t := 10) (C := R_Ans) (T := F_Ans) (N := 16) hx hb hT hown hK hW hS fq4110.1 fq4110.2 (by decide) in_Ans t_Ans t_Ans_ok n_Ans rfl rfl (by decide) rfl fr_Ans_0 w_3_156 (by decide +kernel) rfl rfl d_V_open_21 (fun H locs hW hS => ?_)
  obtain ⟨x4111, ex4111⟩ : ∃ y : St, y = setI x4109 q4110 0 0 := ⟨_, rfl⟩
  rw [← ex4111] at hW
  have hw := hw x4111 ex4111
  refine lv_aload_n hx hb d_V_open_24 rfl (lv_at hl 0 rfl) ?_
  refine w_getf (q := (stC o 9)) (k := 9) (t := 0) (C := R_V) (T := F_V) (N := 15) hx hb hT hown hK hW fo.1 fo.2 (by decide) in_V rfl rfl (by decide) rfl fr_V_9 w_4_4 d_V_open_25 rfl ?_
  refine lv_aload_n hx hb d_V_open_28 rfl (lv_at hl 0 rfl) ?_
  obtain ⟨q4112, hq4112, hw⟩ := hw
  refine w_getr (q := q4112) (k := 2) (t := 0) (C := R_V) (T := F_V) (N := 15) hx hb hT hown hK hW fo.1 fo.2 (by decide) in_V rfl rfl (by decide) rfl fr_V_2 w_3_237 d_V_open_29 hq4112 (fun aq4112 bq4112 => ?_)
  have fq4112 : q4112 < NN ∧ kcC q4112 = 1 := ⟨aq4112, bq4112⟩
  obtain ⟨q4113, hq4113, hw⟩ := hw
  refine w_getr (q := q4113) (k := 0) (t := 1) (C := R_Snk) (T := F_Snk) (N := 7) hx hb hT hown hK hW fq4112.1 fq4112.2 (by decide) in_Snk rfl rfl (by decide) rfl fr_Snk_0 w_1_42 d_V_open_32 hq4113 (fun aq4113 bq4113 => ?_)
  have fq4113 : q4113 < NN ∧ kcC q4113 = 21 := ⟨aq4113, bq4113⟩
  refine lv_aload_n hx hb d_V_open_35 rfl (lv_at hl 0 rfl) ?_
  obtain ⟨q4114, hq4114, hw⟩ := hw
  refine w_getr (q := q4114) (k := 2) (t := 0) (C := R_V) (T := F_V) (N := 15) hx hb hT hown hK hW fo.1 fo.2 (by decide) in_V rfl rfl (by decide) rfl fr_V_2 w_3_237 d_V_open_36 hq4114 (fun aq4114 bq4114 => ?_)
  have fq4114 : q4114 < NN ∧ kcC q4114 = 1 := ⟨aq4114, bq4114⟩
  refine w_geti (k := 1) (t := 1) (C := R_Snk) (T := F_Snk) (N := 7) hx hb hT hown hK hW fq4114.1 fq4114.2 (by decide) in_Snk rfl rfl (by decide) rfl fr_Snk_1 w_1_44 d_V_open_39 ?_
  have hF := hW.free hS hA
  refine va_calli (va_runV (C := R_Opn) (As := [.ref (ad q4113), .int (fI x4111 q4114 1)]) (rest := []) ⟨hx, hb, hml, hown, hT⟩ (k_Opn_lookAtFrame l dC dI cI cB cJ cZ ad NN E tM tC kK kV hNN H.size (stC o 9) q4113 (fI x4111 q4114 1) x4111 (st_ty hNN fo.1 fo.2 rfl) fq4113 hw) ⟨callB_of 2 hT (gw_in w_6_77) rfl rfl rfl (hT _ w_1_10) (hT _ w_6_74) (by decide +kernel) ⟨Nat.le_trans (by decide) hRf, Nat.le_trans (by decide) hRl⟩, hT _ w_6_75, hT _ w_6_76⟩ ⟨PV.blind, va_recv hK hW.1 (ci := 7) (q0 := (stC o 9)) rfl (pic_obj (st_ty hNN fo.1 fo.2 rfl).1 (st_ty hNN fo.1 fo.2 rfl).2 (by decide)), PV.at _ hW hK hN hE hS hF⟩ rfl rfl hl.1 rfl (lv_room (Nat.le_of_ble_eq_true rfl)) d_V_open_42 ⟨hRc, hRs⟩) hS (fun q _ h => hF q h) hF (fun r4116 x4115 t H locs ht hvm hw hB hz1 hk1 hS => ?_)
  have hW := Wd.back hB ht hF
  clear hB ht hF hz1 hk1 hvm
  refine lv_istore_n (lv' := [(1, .int r4116), (0, .ref (ad o))]) hx hb d_V_open_45 rfl hl (by decide) rfl (fun ls hl => ?_)
  refine lv_iload_n hx hb d_V_open_46 rfl (lv_at hl 0 rfl) ?_
  refine lv_if_ne (tgt := 58) hx hb d_V_open_47 (by decide) (fun c4117 => ?_) (fun c4117 => ?_)
  · have hw := hw.1 c4117
    exact t_V_open_58 hx hb hml hown hT hK hN hA hRc hRs hRf hRl hNN hE hret  o r4116 x4115 H locs ls fo hw hW hS (lv_sub hl [1, 0] rfl)
  · have hw := hw.2 c4117
    refine lv_aload_n hx hb d_V_open_50 rfl (lv_at hl 1 rfl) ?_
    refine w_getf (q := (stC o 9)) (k := 9) (t := 0) (C := R_V) (T := F_V) (N := 15) hx hb hT hown hK hW fo.1 fo.2 (by decide) in_V rfl rfl (by decide) rfl fr_V_9 w_4_4 d_V_open_51 rfl ?_
    have hF := hW.free hS hA
    refine va_calli (va_runV (C := R_Opn) (As := []) (rest := []) ⟨hx, hb, hml, hown, hT⟩ (k_Opn_lookAtFooter l dC dI cI cB cJ cZ ad NN E tM tC kK kV hNN H.size (stC o 9) x4115 (st_ty hNN fo.1 fo.2 rfl) hw) ⟨callB_of 0 hT (gw_in w_6_99) rfl rfl rfl (hT _ w_1_10) (hT _ w_6_96) (by decide +kernel) ⟨Nat.le_trans (by decide) hRf, Nat.le_trans (by decide) hRl⟩, hT _ w_6_97, hT _ w_6_98⟩ ⟨PV.blind, va_recv hK hW.1 (ci := 7) (q0 := (stC o 9)) rfl (pic_obj (st_ty hNN fo.1 fo.2 rfl).1 (st_ty hNN fo.1 fo.2 rfl).2 (by decide)), PV.at _ hW hK hN hE hS hF⟩ rfl rfl hl.1 rfl (lv_room (Nat.le_of_ble_eq_true rfl)) d_V_open_54 ⟨hRc, hRs⟩) hS (fun q _ h => hF q h) hF (fun r4119 x4118 t H locs ht hvm hw hB hz1 hk1 hS => ?_)
    have hW := Wd.back hB ht hF
    clear hB ht hF hz1 hk1 hvm
    refine lv_istore_n (lv' := [(1, .int r4119), (0, .ref (ad o))]) hx hb d_V_open_57 rfl hl (by decide) rfl (fun ls hl => ?_)
    exact t_V_open_58 hx hb hml hown hT hK hN hA hRc hRs hRf hRl hNN hE hret  o r4119 x4118 H locs ls fo hw hW hS (lv_sub hl [1, 0] rfl)
set_option maxHeartbeats 4000000 in
set_option maxRecDepth 100000 in
theorem k_V_open (l : Launch) (dC : Nat → ClassId) (dI : Nat → Nat → Nat) (cI cB cJ cZ : ClassId) (ad : Nat → Nat) (NN : Nat) (E : Heap) (tM tC : Nat) (kK kV : Nat → Nat) (hNN : 152 ≤ NN) (sz : Nat) (o : Nat) (x : St) (fo : o < NN ∧ kcC o = 0) {post : Int32 → St → Prop} (hw : wp_V_open post o x) : Met l y_V_open (wsOf y_V_open b_V_open 2 (some (.int))) ({ frames := 8, cells := 0, slots := 0, locals := 275 }) (va_Pc [.ref (ad o)] (PV dC dI cI cB cJ cZ ad stC kcC NN E tM tC kK kV sz x)) (va_Qi (fun (r : Int32) (y : St) => post r y) (fun y t => Wd dC dI cI cB cJ cZ ad stC kcC NN (va_A (pic ad stC kcC NN cI cB cJ cZ x) sz) y t.heap) (va_A (pic ad stC kcC NN cI cB cJ cZ x) sz)) 0 0 (va_A (pic ad stC kcC NN cI cB cJ cZ x) sz) := by
  refine Met.ofW (cc := b_V_open) (maxL := 2) (ret := some (.int)) (by decide) rfl ?_
  intro p e s m args below meth c s₁ B hml hv
  obtain ⟨rfl, ⟨hsz, hW0, hK, hN⟩, hE⟩ := hv
  have hx := B.exec
  have hb := B.bytes
  have hr := B.returns
  have hts := atoms_spec B.pre
  have hT : ∀ w ∈ TG, w.before _ s = true := fun w h => hts w (List.mem_cons_of_mem _ h)
  have hown : s.vm.findClass R_V = some m.cls := findClass_of_methodNamed B.named
  have hlocks := B.notSynchronized
  subst hsz
  have hW : Wd dC dI cI cB cJ cZ ad stC kcC NN (va_A (pic ad stC kcC NN cI cB cJ cZ x) s.heap.size) x s.heap := ⟨hW0.1, hW0.2.1.self (sz := s.heap.size), hW0.2.2⟩
  generalize hAe : va_A (pic ad stC kcC NN cI cB cJ cZ x) s.heap.size = A at hW hE ⊢
  have hA : ∀ q : Nat, s.heap.size ≤ q → A q := fun q h => by rw [← hAe]; exact Or.inr h
  have hS : va_S A s.heap s.heap [] := va_S.rf
  have hl := lv_entry ([.ref (ad o)]) (n := 2) (Nat.le_of_ble_eq_true rfl)
  rw [lg_entry_eq]
  generalize (lg_sl ([.ref (ad o)]) ++ List.replicate (2 - (lg_sl ([.ref (ad o)])).length) Slot.unset).toArray = ls at hl ⊢
  have hl : lv_has ls 2 [(0, .ref (ad o))] := hl
  exact t_V_open_e hx hb hml hown hT hK hN hA (Nat.le_refl 0) (Nat.le_refl 0) (Nat.le_refl 8) (Nat.le_refl 275) hNN hE (fun r x H locs pc ls hd hp hW hS => W.iret (v := r) hx hb hr (fun t ht hM => ⟨⟨r, x, rfl, hp, Wd.back hW ht.symm (fun _ z => z)⟩, hS.F ht⟩) hS.2.2 hd hlocks)  o x _ _ ls fo hw hW hS hl
set_option maxRecDepth 100000 in
def j_V_fault_9 (post : Int32 → St → Prop) (o : Nat) (l1 : Int32) (x : St) : Prop := post (-1) x
set_option maxHeartbeats 4000000 in
set_option maxRecDepth 100000 in
theorem t_V_fault_9 {p : Program} {l : Launch} {e : Env} {R : Room} {s : State} {m : MethodId} {args : Array Value} {below : List Frame} {meth : Method} {c : Code} {cells slots : Nat} {Q : State → Prop} {dC : Nat → ClassId} {dI : Nat → Nat → Nat} {cI cB cJ cZ : ClassId} {A : Nat → Prop} {ad : Nat → Nat} {NN : Nat} {E : Heap} {tM tC : Nat} {kK kV : Nat → Nat} {post : Int32 → St → Prop} (hx : p.tables.exec = Jvm.exec) (hb : c.code = b_V_fault) (hml : c.maxLocals = 2) (hown : s.vm.findClass R_V = some m.cls) (hT : ∀ w ∈ TG, w.before args s = true) (hK : va_K (dC, dI) CL (TY cI cB cJ cZ) s) (hN : NW s) (hA : ∀ q : Nat, s.heap.size ≤ q → A q) (hRc : cells ≤ R.cells) (hRs : slots ≤ R.slots) (hRf : 0 ≤ R.frames) (hRl : 0 ≤ R.locals) (hNN : 152 ≤ NN) (hE : CE E tM tC kK kV A s) (hret : ∀ (r : Int32) (x : St) (H : Heap) (locs : List Loc) (pc : Nat) (ls : Array Slot), decode b_V_fault pc = .ok (.ireturn, 1) → post r x → Wd dC dI cI cB cJ cZ ad stC kcC NN A x H → va_S A s.heap H locs → W p l e R s m args below meth c H locs cells slots Q (F0 m pc ls [.int r]))  : ∀ (o : Nat) (l1 : Int32) (x : St) (H : Heap) (locs : List Loc) (ls : Array Slot), (o < NN ∧ kcC o = 0) → j_V_fault_9 post o l1 x → Wd dC dI cI cB cJ cZ ad stC kcC NN A x H → va_S A s.heap H locs → lv_has ls 2 [(0, .ref (ad o)), (1, .int l1)] → W p l e R s m args below meth c H locs cells slots Q (F0 m 9 ls []) := by
  intro o l1 x H locs ls fo hw hW hS hl
  unfold j_V_fault_9 at hw
  refine lv_iconst (v := (-1)) hx hb d_V_fault_9 (by decide) ?_
  refine lv_goto (tgt := 22) hx hb d_V_fault_10 (by decide) ?_
  exact hret (-1) x H locs 22 ls d_V_fault_22 hw hW hS
set_option maxRecDepth 100000 in
def wp_V_fault (post : Int32 → St → Prop) (o : Nat) (l1 : Int32) (x : St) : Prop := ((l1 < 0 → j_V_fault_9 post o l1 x) ∧ (¬ l1 < 0 → ((l1 ≤ 2 → (vp_in l1 (fN x (stC (stC o 9) 4)) ∧ post (rA x (stC (stC o 9) 4) l1) x)) ∧ (¬ l1 ≤ 2 → j_V_fault_9 post o l1 x))))
set_option maxHeartbeats 4000000 in
set_option maxRecDepth 100000 in
theorem t_V_fault_e {p : Program} {l : Launch} {e : Env} {R : Room} {s : State} {m : MethodId} {args : Array Value} {below : List Frame} {meth : Method} {c : Code} {cells slots : Nat} {Q : State → Prop} {dC : Nat → ClassId} {dI : Nat → Nat → Nat} {cI cB cJ cZ : ClassId} {A : Nat → Prop} {ad : Nat → Nat} {NN : Nat} {E : Heap} {tM tC : Nat} {kK kV : Nat → Nat} {post : Int32 → St → Prop} (hx : p.tables.exec = Jvm.exec) (hb : c.code = b_V_fault) (hml : c.maxLocals = 2) (hown : s.vm.findClass R_V = some m.cls) (hT : ∀ w ∈ TG, w.before args s = true) (hK : va_K (dC, dI) CL (TY cI cB cJ cZ) s) (hN : NW s) (hA : ∀ q : Nat, s.heap.size ≤ q → A q) (hRc : cells ≤ R.cells) (hRs : slots ≤ R.slots) (hRf : 0 ≤ R.frames) (hRl : 0 ≤ R.locals) (hNN : 152 ≤ NN) (hE : CE E tM tC kK kV A s) (hret : ∀ (r : Int32) (x : St) (H : Heap) (locs : List Loc) (pc : Nat) (ls : Array Slot), decode b_V_fault pc = .ok (.ireturn, 1) → post r x → Wd dC dI cI cB cJ cZ ad stC kcC NN A x H → va_S A s.heap H locs → W p l e R s m args below meth c H locs cells slots Q (F0 m pc ls [.int r])) : ∀ (o : Nat) (l1 : Int32) (x : St) (H : Heap) (locs : List Loc) (ls : Array Slot), (o < NN ∧ kcC o = 0) → wp_V_fault post o l1 x → Wd dC dI cI cB cJ cZ ad stC kcC NN A x H → va_S A s.heap H locs → lv_has ls 2 [(0, .ref (ad o)), (1, .int l1)] → W p l e R s m args below meth c H locs cells slots Q (F0 m 0 ls []) := by
  intro o l1 x H locs ls fo hw hW hS hl
  unfold wp_V_fault at hw
  refine lv_iload_n hx hb d_V_fault_0 rfl (lv_at hl 1 rfl) ?_
  refine lv_if_lt (tgt := 9) hx hb d_V_fault_1 (by decide) (fun c4120 => ?_) (fun c4120 => ?_)
  · have hw := hw.1 c4120
    exact t_V_fault_9 hx hb hml hown hT hK hN hA hRc hRs hRf hRl hNN hE hret  o l1 x H locs ls fo hw hW hS (lv_sub hl [0, 1] rfl)
  · have hw := hw.2 c4120
    refine lv_iload_n hx hb d_V_fault_4 rfl (lv_at hl 1 rfl) ?_
    refine lv_iconst (v := 2) hx hb d_V_fault_5 (by decide) ?_
    refine lv_icmp_le (tgt := 13) hx hb d_V_fault_6 (by decide) (fun c4121 => ?_) (fun c4121 => ?_)
    · have hw := hw.1 c4121
      refine lv_aload_n hx hb d_V_fault_13 rfl (lv_at hl 0 rfl) ?_
      refine w_getf (q := (stC o 9)) (k := 9) (t := 0) (C := R_V) (T := F_V) (N := 15) hx hb hT hown hK hW fo.1 fo.2 (by decide) in_V rfl rfl (by decide) rfl fr_V_9 w_4_4 d_V_fault_14 rfl ?_
      refine w_getf (q := (stC (stC o 9) 4)) (k := 4) (t := 7) (C := R_Opn) (T := F_Opn) (N := 17) hx hb hT hown hK hW (st_ty hNN fo.1 fo.2 rfl).1 (st_ty hNN fo.1 fo.2 rfl).2 (by decide) in_Opn rfl rfl (by decide) rfl fr_Opn_4 w_3_20 d_V_fault_17 rfl ?_
      refine lv_iload_n hx hb d_V_fault_20 rfl (lv_at hl 1 rfl) ?_
      obtain ⟨hi, hw⟩ := hw
      refine w_iald (o := (stC (stC o 9) 4)) hx hb hK hW (st_ty hNN (st_ty hNN fo.1 fo.2 rfl).1 (st_ty hNN fo.1 fo.2 rfl).2 rfl).1 (st_ty hNN (st_ty hNN fo.1 fo.2 rfl).1 (st_ty hNN fo.1 fo.2 rfl).2 rfl).2 hi d_V_fault_21 ?_
      exact hret (rA x (stC (stC o 9) 4) l1) x H locs 22 ls d_V_fault_22 hw hW hS
    · have hw := hw.2 c4121
      exact t_V_fault_9 hx hb hml hown hT hK hN hA hRc hRs hRf hRl hNN hE hret  o l1 x H locs ls fo hw hW hS (lv_sub hl [0, 1] rfl)
set_option maxHeartbeats 4000000 in
set_option maxRecDepth 100000 in
theorem k_V_fault (l : Launch) (dC : Nat → ClassId) (dI : Nat → Nat → Nat) (cI cB cJ cZ : ClassId) (ad : Nat → Nat) (NN : Nat) (E : Heap) (tM tC : Nat) (kK kV : Nat → Nat) (hNN : 152 ≤ NN) (sz : Nat) (o : Nat) (l1 : Int32) (x : St) (fo : o < NN ∧ kcC o = 0) {post : Int32 → St → Prop} (hw : wp_V_fault post o l1 x) : Met l y_V_fault (wsOf y_V_fault b_V_fault 2 (some (.int))) ({ frames := 0, cells := 0, slots := 0, locals := 0 }) (va_Pc [.ref (ad o), .int l1] (PV dC dI cI cB cJ cZ ad stC kcC NN E tM tC kK kV sz x)) (va_Qi (fun (r : Int32) (y : St) => post r y) (fun y t => Wd dC dI cI cB cJ cZ ad stC kcC NN (va_A (pic ad stC kcC NN cI cB cJ cZ x) sz) y t.heap) (va_A (pic ad stC kcC NN cI cB cJ cZ x) sz)) 0 0 (va_A (pic ad stC kcC NN cI cB cJ cZ x) sz) := by
  refine Met.ofW (cc := b_V_fault) (maxL := 2) (ret := some (.int)) (by decide) rfl ?_
  intro p e s m args below meth c s₁ B hml hv
  obtain ⟨rfl, ⟨hsz, hW0, hK, hN⟩, hE⟩ := hv
  have hx := B.exec
  have hb := B.bytes
  have hr := B.returns
  have hts := atoms_spec B.pre
  have hT : ∀ w ∈ TG, w.before _ s = true := fun w h => hts w (List.mem_cons_of_mem _ h)
  have hown : s.vm.findClass R_V = some m.cls := findClass_of_methodNamed B.named
  have hlocks := B.notSynchronized
  subst hsz
  have hW : Wd dC dI cI cB cJ cZ ad stC kcC NN (va_A (pic ad stC kcC NN cI cB cJ cZ x) s.heap.size) x s.heap := ⟨hW0.1, hW0.2.1.self (sz := s.heap.size), hW0.2.2⟩
  generalize hAe : va_A (pic ad stC kcC NN cI cB cJ cZ x) s.heap.size = A at hW hE ⊢
  have hA : ∀ q : Nat, s.heap.size ≤ q → A q := fun q h => by rw [← hAe]; exact Or.inr h
  have hS : va_S A s.heap s.heap [] := va_S.rf
  have hl := lv_entry ([.ref (ad o), .int l1]) (n := 2) (Nat.le_of_ble_eq_true rfl)
  rw [lg_entry_eq]
  generalize (lg_sl ([.ref (ad o), .int l1]) ++ List.replicate (2 - (lg_sl ([.ref (ad o), .int l1])).length) Slot.unset).toArray = ls at hl ⊢
  have hl : lv_has ls 2 [(0, .ref (ad o)), (1, .int l1)] := hl
  exact t_V_fault_e hx hb hml hown hT hK hN hA (Nat.le_refl 0) (Nat.le_refl 0) (Nat.le_refl 0) (Nat.le_refl 0) hNN hE (fun r x H locs pc ls hd hp hW hS => W.iret (v := r) hx hb hr (fun t ht hM => ⟨⟨r, x, rfl, hp, Wd.back hW ht.symm (fun _ z => z)⟩, hS.F ht⟩) hS.2.2 hd hlocks)  o l1 x _ _ ls fo hw hW hS hl
set_option maxRecDepth 100000 in
def wp_V_opened (post : Int32 → St → Prop) (o : Nat) (l1 : Int32) (x : St) : Prop := ((¬ (fI x (stC o 8) 0) = 0 → (((l1 : Int32).toInt = 0 → post (fI x (stC o 8) 1) x) ∧ ((l1 : Int32).toInt = 1 → post (fI x (stC o 8) 2) x) ∧ ((l1 : Int32).toInt = 2 → post (fI x (stC (stC o 8) 5) 0) x) ∧ ((l1 : Int32).toInt = 3 → post (fI x (stC (stC o 8) 5) 1) x) ∧ ((l1 : Int32).toInt = 4 → post (fI x (stC o 8) 3) x) ∧ ((l1 : Int32).toInt < 0 ∨ 4 < (l1 : Int32).toInt → post (-1) x))) ∧ ((fI x (stC o 8) 0) = 0 → post (-1) x))
set_option maxHeartbeats 4000000 in
set_option maxRecDepth 100000 in
theorem t_V_opened_e {p : Program} {l : Launch} {e : Env} {R : Room} {s : State} {m : MethodId} {args : Array Value} {below : List Frame} {meth : Method} {c : Code} {cells slots : Nat} {Q : State → Prop} {dC : Nat → ClassId} {dI : Nat → Nat → Nat} {cI cB cJ cZ : ClassId} {A : Nat → Prop} {ad : Nat → Nat} {NN : Nat} {E : Heap} {tM tC : Nat} {kK kV : Nat → Nat} {post : Int32 → St → Prop} (hx : p.tables.exec = Jvm.exec) (hb : c.code = b_V_opened) (hml : c.maxLocals = 2) (hown : s.vm.findClass R_V = some m.cls) (hT : ∀ w ∈ TG, w.before args s = true) (hK : va_K (dC, dI) CL (TY cI cB cJ cZ) s) (hN : NW s) (hA : ∀ q : Nat, s.heap.size ≤ q → A q) (hRc : cells ≤ R.cells) (hRs : slots ≤ R.slots) (hRf : 0 ≤ R.frames) (hRl : 0 ≤ R.locals) (hNN : 152 ≤ NN) (hE : CE E tM tC kK kV A s) (hret : ∀ (r : Int32) (x : St) (H : Heap) (locs : List Loc) (pc : Nat) (ls : Array Slot), decode b_V_opened pc = .ok (.ireturn, 1) → post r x → Wd dC dI cI cB cJ cZ ad stC kcC NN A x H → va_S A s.heap H locs → W p l e R s m args below meth c H locs cells slots Q (F0 m pc ls [.int r])) : ∀ (o : Nat) (l1 : Int32) (x : St) (H : Heap) (locs : List Loc) (ls : Array Slot), (o < NN ∧ kcC o = 0) → wp_V_opened post o l1 x → Wd dC dI cI cB cJ cZ ad stC kcC NN A x H → va_S A s.heap H locs → lv_has ls 2 [(0, .ref (ad o)), (1, .int l1)] → W p l e R s m args below meth c H locs cells slots Q (F0 m 0 ls []) := by
  intro o l1 x H locs ls fo hw hW hS hl
  unfold wp_V_opened at hw
  refine lv_aload_n hx hb d_V_opened_0 rfl (lv_at hl 0 rfl) ?_
  refine w_getf (q := (stC o 8)) (k := 8) (t := 0) (C := R_V) (T := F_V) (N := 15) hx hb hT hown hK hW fo.1 fo.2 (by decide) in_V rfl rfl (by decide) rfl fr_V_8 w_4_3 d_V_opened_1 rfl ?_
  refine w_geti (k := 0) (t := 6) (C := R_Vlt) (T := F_Vlt) (N := 20) hx hb hT hown hK hW (st_ty hNN fo.1 fo.2 rfl).1 (st_ty hNN fo.1 fo.2 rfl).2 (by decide) in_Vlt rfl rfl (by decide) rfl fr_Vlt_0 w_2_122 d_V_opened_4 ?_
  refine lv_if_ne (tgt := 12) hx hb d_V_opened_7 (by decide) (fun c4122 => ?_) (fun c4122 => ?_)
  · have hw := hw.1 c4122
    refine lv_iload_n hx hb d_V_opened_12 rfl (lv_at hl 1 rfl) ?_
    rcases (show (l1 : Int32).toInt = 0 ∨ (l1 : Int32).toInt = 1 ∨ (l1 : Int32).toInt = 2 ∨ (l1 : Int32).toInt = 3 ∨ (l1 : Int32).toInt = 4 ∨ ((l1 : Int32).toInt < 0 ∨ 4 < (l1 : Int32).toInt) by omega) with c4123 | c4123 | c4123 | c4123 | c4123 | c4123
    · have hw := hw.1 c4123
      refine lv_tableIn (tgt := 48) (off := 35) hx hb d_V_opened_13 (by rw [c4123]; decide) (by rw [c4123]; decide) (by rw [c4123]; rfl) (by decide) ?_
      refine lv_aload_n hx hb d_V_opened_48 rfl (lv_at hl 0 rfl) ?_
      refine w_getf (q := (stC o 8)) (k := 8) (t := 0) (C := R_V) (T := F_V) (N := 15) hx hb hT hown hK hW fo.1 fo.2 (by decide) in_V rfl rfl (by decide) rfl fr_V_8 w_4_3 d_V_opened_49 rfl ?_
      refine w_geti (k := 1) (t := 6) (C := R_Vlt) (T := F_Vlt) (N := 20) hx hb hT hown hK hW (st_ty hNN fo.1 fo.2 rfl).1 (st_ty hNN fo.1 fo.2 rfl).2 (by decide) in_Vlt rfl rfl (by decide) rfl fr_Vlt_1 w_2_126 d_V_opened_52 ?_
      exact hret (fI x (stC o 8) 1) x H locs 55 ls d_V_opened_55 hw hW hS
    · have hw := hw.2.1 c4123
      refine lv_tableIn (tgt := 56) (off := 43) hx hb d_V_opened_13 (by rw [c4123]; decide) (by rw [c4123]; decide) (by rw [c4123]; rfl) (by decide) ?_
      refine lv_aload_n hx hb d_V_opened_56 rfl (lv_at hl 0 rfl) ?_
      refine w_getf (q := (stC o 8)) (k := 8) (t := 0) (C := R_V) (T := F_V) (N := 15) hx hb hT hown hK hW fo.1 fo.2 (by decide) in_V rfl rfl (by decide) rfl fr_V_8 w_4_3 d_V_opened_57 rfl ?_
      refine w_geti (k := 2) (t := 6) (C := R_Vlt) (T := F_Vlt) (N := 20) hx hb hT hown hK hW (st_ty hNN fo.1 fo.2 rfl).1 (st_ty hNN fo.1 fo.2 rfl).2 (by decide) in_Vlt rfl rfl (by decide) rfl fr_Vlt_2 w_2_128 d_V_opened_60 ?_
      exact hret (fI x (stC o 8) 2) x H locs 63 ls d_V_opened_63 hw hW hS
    · have hw := hw.2.2.1 c4123
      refine lv_tableIn (tgt := 64) (off := 51) hx hb d_V_opened_13 (by rw [c4123]; decide) (by rw [c4123]; decide) (by rw [c4123]; rfl) (by decide) ?_
      refine lv_aload_n hx hb d_V_opened_64 rfl (lv_at hl 0 rfl) ?_
      refine w_getf (q := (stC o 8)) (k := 8) (t := 0) (C := R_V) (T := F_V) (N := 15) hx hb hT hown hK hW fo.1 fo.2 (by decide) in_V rfl rfl (by decide) rfl fr_V_8 w_4_3 d_V_opened_65 rfl ?_
      refine w_getf (q := (stC (stC o 8) 5)) (k := 5) (t := 6) (C := R_Vlt) (T := F_Vlt) (N := 20) hx hb hT hown hK hW (st_ty hNN fo.1 fo.2 rfl).1 (st_ty hNN fo.1 fo.2 rfl).2 (by decide) in_Vlt rfl rfl (by decide) rfl fr_Vlt_5 w_2_138 d_V_opened_68 rfl ?_
      refine w_geti (k := 0) (t := 3) (C := R_Sch) (T := F_Sch) (N := 13) hx hb hT hown hK hW (st_ty hNN (st_ty hNN fo.1 fo.2 rfl).1 (st_ty hNN fo.1 fo.2 rfl).2 rfl).1 (st_ty hNN (st_ty hNN fo.1 fo.2 rfl).1 (st_ty hNN fo.1 fo.2 rfl).2 rfl).2 (by decide) in_Sch rfl rfl (by decide) rfl fr_Sch_0 w_1_133 d_V_opened_71 ?_
      exact hret (fI x (stC (stC o 8) 5) 0) x H locs 74 ls d_V_opened_74 hw hW hS
    · have hw := hw.2.2.2.1 c4123
      refine lv_tableIn (tgt := 75) (off := 62) hx hb d_V_opened_13 (by rw [c4123]; decide) (by rw [c4123]; decide) (by rw [c4123]; rfl) (by decide) ?_
      refine lv_aload_n hx hb d_V_opened_75 rfl (lv_at hl 0 rfl) ?_
      refine w_getf (q := (stC o 8)) (k := 8) (t := 0) (C := R_V) (T := F_V) (N := 15) hx hb hT hown hK hW fo.1 fo.2 (by decide) in_V rfl rfl (by decide) rfl fr_V_8 w_4_3 d_V_opened_76 rfl ?_
      refine w_getf (q := (stC (stC o 8) 5)) (k := 5) (t := 6) (C := R_Vlt) (T := F_Vlt) (N := 20) hx hb hT hown hK hW (st_ty hNN fo.1 fo.2 rfl).1 (st_ty hNN fo.1 fo.2 rfl).2 (by decide) in_Vlt rfl rfl (by decide) rfl fr_Vlt_5 w_2_138 d_V_opened_79 rfl ?_
      refine w_geti (k := 1) (t := 3) (C := R_Sch) (T := F_Sch) (N := 13) hx hb hT hown hK hW (st_ty hNN (st_ty hNN fo.1 fo.2 rfl).1 (st_ty hNN fo.1 fo.2 rfl).2 rfl).1 (st_ty hNN (st_ty hNN fo.1 fo.2 rfl).1 (st_ty hNN fo.1 fo.2 rfl).2 rfl).2 (by decide) in_Sch rfl rfl (by decide) rfl fr_Sch_1 w_1_138 d_V_opened_82 ?_
      exact hret (fI x (stC (stC o 8) 5) 1) x H locs 85 ls d_V_opened_85 hw hW hS
    · have hw := hw.2.2.2.2.1 c4123
      refine lv_tableIn (tgt := 86) (off := 73) hx hb d_V_opened_13 (by rw [c4123]; decide) (by rw [c4123]; decide) (by rw [c4123]; rfl) (by decide) ?_
      refine lv_aload_n hx hb d_V_opened_86 rfl (lv_at hl 0 rfl) ?_
      refine w_getf (q := (stC o 8)) (k := 8) (t := 0) (C := R_V) (T := F_V) (N := 15) hx hb hT hown hK hW fo.1 fo.2 (by decide) in_V rfl rfl (by decide) rfl fr_V_8 w_4_3 d_V_opened_87 rfl ?_
      refine w_geti (k := 3) (t := 6) (C := R_Vlt) (T := F_Vlt) (N := 20) hx hb hT hown hK hW (st_ty hNN fo.1 fo.2 rfl).1 (st_ty hNN fo.1 fo.2 rfl).2 (by decide) in_Vlt rfl rfl (by decide) rfl fr_Vlt_3 w_2_131 d_V_opened_90 ?_
      exact hret (fI x (stC o 8) 3) x H locs 93 ls d_V_opened_93 hw hW hS
    · have hw := hw.2.2.2.2.2 c4123
      refine lv_tableOut (tgt := 94) hx hb d_V_opened_13 c4123 (by decide) ?_
      refine lv_iconst (v := (-1)) hx hb d_V_opened_94 (by decide) ?_
      exact hret (-1) x H locs 95 ls d_V_opened_95 hw hW hS
  · have hw := hw.2 c4122
    refine lv_iconst (v := (-1)) hx hb d_V_opened_10 (by decide) ?_
    exact hret (-1) x H locs 11 ls d_V_opened_11 hw hW hS
set_option maxHeartbeats 4000000 in
set_option maxRecDepth 100000 in
theorem k_V_opened (l : Launch) (dC : Nat → ClassId) (dI : Nat → Nat → Nat) (cI cB cJ cZ : ClassId) (ad : Nat → Nat) (NN : Nat) (E : Heap) (tM tC : Nat) (kK kV : Nat → Nat) (hNN : 152 ≤ NN) (sz : Nat) (o : Nat) (l1 : Int32) (x : St) (fo : o < NN ∧ kcC o = 0) {post : Int32 → St → Prop} (hw : wp_V_opened post o l1 x) : Met l y_V_opened (wsOf y_V_opened b_V_opened 2 (some (.int))) ({ frames := 0, cells := 0, slots := 0, locals := 0 }) (va_Pc [.ref (ad o), .int l1] (PV dC dI cI cB cJ cZ ad stC kcC NN E tM tC kK kV sz x)) (va_Qi (fun (r : Int32) (y : St) => post r y) (fun y t => Wd dC dI cI cB cJ cZ ad stC kcC NN (va_A (pic ad stC kcC NN cI cB cJ cZ x) sz) y t.heap) (va_A (pic ad stC kcC NN cI cB cJ cZ x) sz)) 0 0 (va_A (pic ad stC kcC NN cI cB cJ cZ x) sz) := by
  refine Met.ofW (cc := b_V_opened) (maxL := 2) (ret := some (.int)) (by decide) rfl ?_
  intro p e s m args below meth c s₁ B hml hv
  obtain ⟨rfl, ⟨hsz, hW0, hK, hN⟩, hE⟩ := hv
  have hx := B.exec
  have hb := B.bytes
  have hr := B.returns
  have hts := atoms_spec B.pre
  have hT : ∀ w ∈ TG, w.before _ s = true := fun w h => hts w (List.mem_cons_of_mem _ h)
  have hown : s.vm.findClass R_V = some m.cls := findClass_of_methodNamed B.named
  have hlocks := B.notSynchronized
  subst hsz
  have hW : Wd dC dI cI cB cJ cZ ad stC kcC NN (va_A (pic ad stC kcC NN cI cB cJ cZ x) s.heap.size) x s.heap := ⟨hW0.1, hW0.2.1.self (sz := s.heap.size), hW0.2.2⟩
  generalize hAe : va_A (pic ad stC kcC NN cI cB cJ cZ x) s.heap.size = A at hW hE ⊢
  have hA : ∀ q : Nat, s.heap.size ≤ q → A q := fun q h => by rw [← hAe]; exact Or.inr h
  have hS : va_S A s.heap s.heap [] := va_S.rf
  have hl := lv_entry ([.ref (ad o), .int l1]) (n := 2) (Nat.le_of_ble_eq_true rfl)
  rw [lg_entry_eq]
  generalize (lg_sl ([.ref (ad o), .int l1]) ++ List.replicate (2 - (lg_sl ([.ref (ad o), .int l1])).length) Slot.unset).toArray = ls at hl ⊢
  have hl : lv_has ls 2 [(0, .ref (ad o)), (1, .int l1)] := hl
  exact t_V_opened_e hx hb hml hown hT hK hN hA (Nat.le_refl 0) (Nat.le_refl 0) (Nat.le_refl 0) (Nat.le_refl 0) hNN hE (fun r x H locs pc ls hd hp hW hS => W.iret (v := r) hx hb hr (fun t ht hM => ⟨⟨r, x, rfl, hp, Wd.back hW ht.symm (fun _ z => z)⟩, hS.F ht⟩) hS.2.2 hd hlocks)  o l1 x _ _ ls fo hw hW hS hl
set_option maxRecDepth 100000 in
def j_Vlt_entryOf_25 (post : Int32 → St → Prop) (o : Nat) (l1 : Int32) (l2 : Int32) (l3 : Int32) (x : St) : Prop := post (fI x o 4) x
set_option maxHeartbeats 4000000 in
set_option maxRecDepth 100000 in
theorem t_Vlt_entryOf_25 {p : Program} {l : Launch} {e : Env} {R : Room} {s : State} {m : MethodId} {args : Array Value} {below : List Frame} {meth : Method} {c : Code} {cells slots : Nat} {Q : State → Prop} {dC : Nat → ClassId} {dI : Nat → Nat → Nat} {cI cB cJ cZ : ClassId} {A : Nat → Prop} {ad : Nat → Nat} {NN : Nat} {E : Heap} {tM tC : Nat} {kK kV : Nat → Nat} {post : Int32 → St → Prop} (hx : p.tables.exec = Jvm.exec) (hb : c.code = b_Vlt_entryOf) (hml : c.maxLocals = 4) (hown : s.vm.findClass R_Vlt = some m.cls) (hT : ∀ w ∈ TG, w.before args s = true) (hK : va_K (dC, dI) CL (TY cI cB cJ cZ) s) (hN : NW s) (hA : ∀ q : Nat, s.heap.size ≤ q → A q) (hRc : cells ≤ R.cells) (hRs : slots ≤ R.slots) (hRf : 0 ≤ R.frames) (hRl : 0 ≤ R.locals) (hNN : 152 ≤ NN) (hE : CE E tM tC kK kV A s) (hret : ∀ (r : Int32) (x : St) (H : Heap) (locs : List Loc) (pc : Nat) (ls : Array Slot), decode b_Vlt_entryOf pc = .ok (.ireturn, 1) → post r x → Wd dC dI cI cB cJ cZ ad stC kcC NN A x H → va_S A s.heap H locs → W p l e R s m args below meth c H locs cells slots Q (F0 m pc ls [.int r]))  : ∀ (o : Nat) (l1 : Int32) (l2 : Int32) (l3 : Int32) (x : St) (H : Heap) (locs : List Loc) (ls : Array Slot), (o < NN ∧ kcC o = 6) → j_Vlt_entryOf_25 post o l1 l2 l3 x → Wd dC dI cI cB cJ cZ ad stC kcC NN A x H → va_S A s.heap H locs → lv_has ls 4 [(0, .ref (ad o)), (1, .int l1), (2, .int l2), (3, .int l3)] → W p l e R s m args below meth c H locs cells slots Q (F0 m 25 ls []) := by
  intro o l1 l2 l3 x H locs ls fo hw hW hS hl
  unfold j_Vlt_entryOf_25 at hw
  refine lv_aload_n hx hb d_Vlt_entryOf_25 rfl (lv_at hl 0 rfl) ?_
  refine w_geti (k := 4) (t := 6) (C := R_Vlt) (T := F_Vlt) (N := 20) hx hb hT hown hK hW fo.1 fo.2 (by decide) in_Vlt rfl rfl (by decide) rfl fr_Vlt_4 w_2_132 d_Vlt_entryOf_26 ?_
  refine lv_goto (tgt := 38) hx hb d_Vlt_entryOf_29 (by decide) ?_
  exact hret (fI x o 4) x H locs 38 ls d_Vlt_entryOf_38 hw hW hS
set_option maxRecDepth 100000 in
def wp_Vlt_entryOf (post : Int32 → St → Prop) (o : Nat) (l1 : Int32) (l2 : Int32) (x : St) : Prop := (∀ v4124 : Int32, v4124 = ((l1 * (fI x (stC o 5) 1)) + l2) → ((v4124 < 0 → j_Vlt_entryOf_25 post o l1 l2 v4124 x) ∧ (¬ v4124 < 0 → ((v4124 < (nI (fN x (stC o 10))) → (vp_in v4124 (fN x (stC o 10)) ∧ post (rA x (stC o 10) v4124) x)) ∧ (¬ v4124 < (nI (fN x (stC o 10))) → j_Vlt_entryOf_25 post o l1 l2 v4124 x)))))
set_option maxHeartbeats 4000000 in
set_option maxRecDepth 100000 in
theorem t_Vlt_entryOf_e {p : Program} {l : Launch} {e : Env} {R : Room} {s : State} {m : MethodId} {args : Array Value} {below : List Frame} {meth : Method} {c : Code} {cells slots : Nat} {Q : State → Prop} {dC : Nat → ClassId} {dI : Nat → Nat → Nat} {cI cB cJ cZ : ClassId} {A : Nat → Prop} {ad : Nat → Nat} {NN : Nat} {E : Heap} {tM tC : Nat} {kK kV : Nat → Nat} {post : Int32 → St → Prop} (hx : p.tables.exec = Jvm.exec) (hb : c.code = b_Vlt_entryOf) (hml : c.maxLocals = 4) (hown : s.vm.findClass R_Vlt = some m.cls) (hT : ∀ w ∈ TG, w.before args s = true) (hK : va_K (dC, dI) CL (TY cI cB cJ cZ) s) (hN : NW s) (hA : ∀ q : Nat, s.heap.size ≤ q → A q) (hRc : cells ≤ R.cells) (hRs : slots ≤ R.slots) (hRf : 0 ≤ R.frames) (hRl : 0 ≤ R.locals) (hNN : 152 ≤ NN) (hE : CE E tM tC kK kV A s) (hret : ∀ (r : Int32) (x : St) (H : Heap) (locs : List Loc) (pc : Nat) (ls : Array Slot), decode b_Vlt_entryOf pc = .ok (.ireturn, 1) → post r x → Wd dC dI cI cB cJ cZ ad stC kcC NN A x H → va_S A s.heap H locs → W p l e R s m args below meth c H locs cells slots Q (F0 m pc ls [.int r])) : ∀ (o : Nat) (l1 : Int32) (l2 : Int32) (x : St) (H : Heap) (locs : List Loc) (ls : Array Slot), (o < NN ∧ kcC o = 6) → wp_Vlt_entryOf post o l1 l2 x → Wd dC dI cI cB cJ cZ ad stC kcC NN A x H → va_S A s.heap H locs → lv_has ls 4 [(0, .ref (ad o)), (1, .int l1), (2, .int l2)] → W p l e R s m args below meth c H locs cells slots Q (F0 m 0 ls []) := by
  intro o l1 l2 x H locs ls fo hw hW hS hl
  unfold wp_Vlt_entryOf at hw
  refine lv_iload_n hx hb d_Vlt_entryOf_0 rfl (lv_at hl 1 rfl) ?_
  refine lv_aload_n hx hb d_Vlt_entryOf_1 rfl (lv_at hl 0 rfl) ?_
  refine w_getf (q := (stC o 5)) (k := 5) (t := 6) (C := R_Vlt) (T := F_Vlt) (N := 20) hx hb hT hown hK hW fo.1 fo.2 (by decide) in_Vlt rfl rfl (by decide) rfl fr_Vlt_5 w_2_134 d_Vlt_entryOf_2 rfl ?_
  refine w_geti (k := 1) (t := 3) (C := R_Sch) (T := F_Sch) (N := 13) hx hb hT hown hK hW (st_ty hNN fo.1 fo.2 rfl).1 (st_ty hNN fo.1 fo.2 rfl).2 (by decide) in_Sch rfl rfl (by decide) rfl fr_Sch_1 w_1_134 d_Vlt_entryOf_5 ?_
  refine lv_imul hx hb d_Vlt_entryOf_8 ?_
  refine lv_iload_n hx hb d_Vlt_entryOf_9 rfl (lv_at hl 2 rfl) ?_
  refine lv_iadd hx hb d_Vlt_entryOf_10 ?_
  refine lv_topi (fun v4124 ev4124 => ?_)
  have hw := hw v4124 ev4124
  refine lv_istore_n (lv' := [(3, .int v4124), (0, .ref (ad o)), (1, .int l1), (2, .int l2)]) hx hb d_Vlt_entryOf_11 rfl hl (by decide) rfl (fun ls hl => ?_)
  refine lv_iload_n hx hb d_Vlt_entryOf_12 rfl (lv_at hl 0 rfl) ?_
  refine lv_if_lt (tgt := 25) hx hb d_Vlt_entryOf_13 (by decide) (fun c4125 => ?_) (fun c4125 => ?_)
  · have hw := hw.1 c4125
    exact t_Vlt_entryOf_25 hx hb hml hown hT hK hN hA hRc hRs hRf hRl hNN hE hret  o l1 l2 v4124 x H locs ls fo hw hW hS (lv_sub hl [1, 2, 3, 0] rfl)
  · have hw := hw.2 c4125
    refine lv_iload_n hx hb d_Vlt_entryOf_16 rfl (lv_at hl 0 rfl) ?_
    refine lv_aload_n hx hb d_Vlt_entryOf_17 rfl (lv_at hl 1 rfl) ?_
    refine w_getf (q := (stC o 10)) (k := 10) (t := 6) (C := R_Vlt) (T := F_Vlt) (N := 20) hx hb hT hown hK hW fo.1 fo.2 (by decide) in_Vlt rfl rfl (by decide) rfl fr_Vlt_10 w_2_154 d_Vlt_entryOf_18 rfl ?_
    refine w_alen (o := (stC o 10)) (t0 := 0) hx hb hK hW (pic_int (st_ty hNN fo.1 fo.2 rfl).1 (st_ty hNN fo.1 fo.2 rfl).2) rfl rfl d_Vlt_entryOf_21 ?_
    refine lv_icmp_lt (tgt := 32) hx hb d_Vlt_entryOf_22 (by decide) (fun c4126 => ?_) (fun c4126 => ?_)
    · have hw := hw.1 c4126
      refine lv_aload_n hx hb d_Vlt_entryOf_32 rfl (lv_at hl 1 rfl) ?_
      refine w_getf (q := (stC o 10)) (k := 10) (t := 6) (C := R_Vlt) (T := F_Vlt) (N := 20) hx hb hT hown hK hW fo.1 fo.2 (by decide) in_Vlt rfl rfl (by decide) rfl fr_Vlt_10 w_2_154 d_Vlt_entryOf_33 rfl ?_
      refine lv_iload_n hx hb d_Vlt_entryOf_36 rfl (lv_at hl 0 rfl) ?_
      obtain ⟨hi, hw⟩ := hw
      refine w_iald (o := (stC o 10)) hx hb hK hW (st_ty hNN fo.1 fo.2 rfl).1 (st_ty hNN fo.1 fo.2 rfl).2 hi d_Vlt_entryOf_37 ?_
      exact hret (rA x (stC o 10) v4124) x H locs 38 ls d_Vlt_entryOf_38 hw hW hS
    · have hw := hw.2 c4126
      exact t_Vlt_entryOf_25 hx hb hml hown hT hK hN hA hRc hRs hRf hRl hNN hE hret  o l1 l2 v4124 x H locs ls fo hw hW hS (lv_sub hl [1, 2, 3, 0] rfl)
set_option maxHeartbeats 4000000 in
set_option maxRecDepth 100000 in
theorem k_Vlt_entryOf (l : Launch) (dC : Nat → ClassId) (dI : Nat → Nat → Nat) (cI cB cJ cZ : ClassId) (ad : Nat → Nat) (NN : Nat) (E : Heap) (tM tC : Nat) (kK kV : Nat → Nat) (hNN : 152 ≤ NN) (sz : Nat) (o : Nat) (l1 : Int32) (l2 : Int32) (x : St) (fo : o < NN ∧ kcC o = 6) {post : Int32 → St → Prop} (hw : wp_Vlt_entryOf post o l1 l2 x) : Met l y_Vlt_entryOf (wsOf y_Vlt_entryOf b_Vlt_entryOf 4 (some (.int))) ({ frames := 0, cells := 0, slots := 0, locals := 0 }) (va_Pc [.ref (ad o), .int l1, .int l2] (PV dC dI cI cB cJ cZ ad stC kcC NN E tM tC kK kV sz x)) (va_Qi (fun (r : Int32) (y : St) => post r y) (fun y t => Wd dC dI cI cB cJ cZ ad stC kcC NN (va_A (pic ad stC kcC NN cI cB cJ cZ x) sz) y t.heap) (va_A (pic ad stC kcC NN cI cB cJ cZ x) sz)) 0 0 (va_A (pic ad stC kcC NN cI cB cJ cZ x) sz) := by
  refine Met.ofW (cc := b_Vlt_entryOf) (maxL := 4) (ret := some (.int)) (by decide) rfl ?_
  intro p e s m args below meth c s₁ B hml hv
  obtain ⟨rfl, ⟨hsz, hW0, hK, hN⟩, hE⟩ := hv
  have hx := B.exec
  have hb := B.bytes
  have hr := B.returns
  have hts := atoms_spec B.pre
  have hT : ∀ w ∈ TG, w.before _ s = true := fun w h => hts w (List.mem_cons_of_mem _ h)
  have hown : s.vm.findClass R_Vlt = some m.cls := findClass_of_methodNamed B.named
  have hlocks := B.notSynchronized
  subst hsz
  have hW : Wd dC dI cI cB cJ cZ ad stC kcC NN (va_A (pic ad stC kcC NN cI cB cJ cZ x) s.heap.size) x s.heap := ⟨hW0.1, hW0.2.1.self (sz := s.heap.size), hW0.2.2⟩
  generalize hAe : va_A (pic ad stC kcC NN cI cB cJ cZ x) s.heap.size = A at hW hE ⊢
  have hA : ∀ q : Nat, s.heap.size ≤ q → A q := fun q h => by rw [← hAe]; exact Or.inr h
  have hS : va_S A s.heap s.heap [] := va_S.rf
  have hl := lv_entry ([.ref (ad o), .int l1, .int l2]) (n := 4) (Nat.le_of_ble_eq_true rfl)
  rw [lg_entry_eq]
  generalize (lg_sl ([.ref (ad o), .int l1, .int l2]) ++ List.replicate (4 - (lg_sl ([.ref (ad o), .int l1, .int l2])).length) Slot.unset).toArray = ls at hl ⊢
  have hl : lv_has ls 4 [(0, .ref (ad o)), (1, .int l1), (2, .int l2)] := hl
  exact t_Vlt_entryOf_e hx hb hml hown hT hK hN hA (Nat.le_refl 0) (Nat.le_refl 0) (Nat.le_refl 0) (Nat.le_refl 0) hNN hE (fun r x H locs pc ls hd hp hW hS => W.iret (v := r) hx hb hr (fun t ht hM => ⟨⟨r, x, rfl, hp, Wd.back hW ht.symm (fun _ z => z)⟩, hS.F ht⟩) hS.2.2 hd hlocks)  o l1 l2 x _ _ ls fo hw hW hS hl
set_option maxRecDepth 100000 in
def j_Asm_passBy_36 (post : St → Prop) (rec36 : Nat → Int32 → Int32 → Int32 → St → Prop) (o : Nat) (l1 : Int32) (l2 : Int32) (l3 : Int32) (x : St) : Prop := ((l2 ≤ l3 → post x) ∧ (¬ l2 ≤ l3 → (vp_in l3 (fN x (stC o 2)) ∧ (vp_in l3 (fN x (stC o 2)) ∧ ∀ x4128 : St, x4128 = setA x (stC o 2) l3 ((rA x (stC o 2) l3) + 1) → rec36 o l1 l2 (l3 + 1) x4128))))
set_option maxHeartbeats 4000000 in
set_option maxRecDepth 100000 in
theorem t_Asm_passBy_36 {p : Program} {l : Launch} {e : Env} {R : Room} {s : State} {m : MethodId} {args : Array Value} {below : List Frame} {meth : Method} {c : Code} {cells slots : Nat} {Q : State → Prop} {dC : Nat → ClassId} {dI : Nat → Nat → Nat} {cI cB cJ cZ : ClassId} {A : Nat → Prop} {ad : Nat → Nat} {NN : Nat} {E : Heap} {tM tC : Nat} {kK kV : Nat → Nat} {post : St → Prop} {rec36 : Nat → Int32 → Int32 → Int32 → St → Prop} (hx : p.tables.exec = Jvm.exec) (hb : c.code = b_Asm_passBy) (hml : c.maxLocals = 4) (hown : s.vm.findClass R_Asm = some m.cls) (hT : ∀ w ∈ TG, w.before args s = true) (hK : va_K (dC, dI) CL (TY cI cB cJ cZ) s) (hN : NW s) (hA : ∀ q : Nat, s.heap.size ≤ q → A q) (hRc : cells ≤ R.cells) (hRs : slots ≤ R.slots) (hRf : 1 ≤ R.frames) (hRl : 21 ≤ R.locals) (hNN : 152 ≤ NN) (hE : CE E tM tC kK kV A s) (hret : ∀ (x : St) (H : Heap) (locs : List Loc) (pc : Nat) (ls : Array Slot), decode b_Asm_passBy pc = .ok (.return_, 1) → post x → Wd dC dI cI cB cJ cZ ad stC kcC NN A x H → va_S A s.heap H locs → W p l e R s m args below meth c H locs cells slots Q (F0 m pc ls [])) (hrec36 : ∀ (o : Nat) (l1 : Int32) (l2 : Int32) (l3 : Int32) (x : St) (H : Heap) (locs : List Loc) (ls : Array Slot), (o < NN ∧ kcC o = 11) → rec36 o l1 l2 l3 x → Wd dC dI cI cB cJ cZ ad stC kcC NN A x H → va_S A s.heap H locs → lv_has ls 4 [(0, .ref (ad o)), (1, .int l1), (2, .int l2), (3, .int l3)] → W p l e R s m args below meth c H locs cells slots Q (F0 m 36 ls [])) : ∀ (o : Nat) (l1 : Int32) (l2 : Int32) (l3 : Int32) (x : St) (H : Heap) (locs : List Loc) (ls : Array Slot), (o < NN ∧ kcC o = 11) → j_Asm_passBy_36 post rec36 o l1 l2 l3 x → Wd dC dI cI cB cJ cZ ad stC kcC NN A x H → va_S A s.heap H locs → lv_has ls 4 [(0, .ref (ad o)), (1, .int l1), (2, .int l2), (3, .int l3)] → W p l e R s m args below meth c H locs cells slots Q (F0 m 36 ls []) := by
  intro o l1 l2 l3 x H locs ls fo hw hW hS hl
  unfold j_Asm_passBy_36 at hw
  refine lv_iload_n hx hb d_Asm_passBy_36 rfl (lv_at hl 3 rfl) ?_
  refine lv_iload_n hx hb d_Asm_passBy_37 rfl (lv_at hl 2 rfl) ?_
  refine lv_icmp_ge (tgt := 57) hx hb d_Asm_passBy_38 (by decide) (fun c4127 => ?_) (fun c4127 => ?_)
  · have hw := hw.1 c4127
    exact hret x H locs 57 ls d_Asm_passBy_57 hw hW hS
  · have hw := hw.2 c4127
    refine lv_aload_n hx hb d_Asm_passBy_41 rfl (lv_at hl 0 rfl) ?_
    refine w_getf (q := (stC o 2)) (k := 2) (t := 11) (C := R_Asm) (T := F_Asm) (N := 4) hx hb hT hown hK hW fo.1 fo.2 (by decide) in_Asm rfl rfl (by decide) rfl fr_Asm_2 w_3_224 d_Asm_passBy_42 rfl ?_
    refine lv_iload_n hx hb d_Asm_passBy_45 rfl (lv_at hl 3 rfl) ?_
    refine lv_dup2_11 hx hb d_Asm_passBy_46 rfl rfl ?_
    obtain ⟨hi, hw⟩ := hw
    refine w_iald (o := (stC o 2)) hx hb hK hW (st_ty hNN fo.1 fo.2 rfl).1 (st_ty hNN fo.1 fo.2 rfl).2 hi d_Asm_passBy_47 ?_
    refine lv_iconst (v := 1) hx hb d_Asm_passBy_48 (by decide) ?_
    refine lv_iadd hx hb d_Asm_passBy_49 ?_
    obtain ⟨hi, hw⟩ := hw
    refine w_iast (o := (stC o 2)) hx hb hK hW hS (st_ty hNN fo.1 fo.2 rfl).1 (st_ty hNN fo.1 fo.2 rfl).2 hi d_Asm_passBy_50 (fun H locs hW hS => ?_)
    obtain ⟨x4128, ex4128⟩ : ∃ y : St, y = setA x (stC o 2) l3 ((rA x (stC o 2) l3) + 1) := ⟨_, rfl⟩
    rw [← ex4128] at hW
    have hw := hw x4128 ex4128
    refine lv_iinc (v := (l3 + 1)) (lv' := [(3, .int (l3 + 1)), (0, .ref (ad o)), (1, .int l1), (2, .int l2)]) hx hb d_Asm_passBy_51 hl (k := 3) rfl rfl (by decide) rfl (fun ls hl => ?_)
    refine lv_goto (tgt := 36) hx hb d_Asm_passBy_54 (by decide) ?_
    exact hrec36 o l1 l2 (l3 + 1) x4128 H locs ls fo hw hW hS (lv_sub hl [1, 2, 3, 0] rfl)
def wl_Asm_passBy_36 (post : St → Prop) : Nat → Nat → Int32 → Int32 → Int32 → St → Prop
  | 0 => fun _ _ _ _ _ => False
  | n + 1 => j_Asm_passBy_36 post (wl_Asm_passBy_36 post n)
set_option maxHeartbeats 4000000 in
set_option maxRecDepth 100000 in
theorem tl_Asm_passBy_36 {p : Program} {l : Launch} {e : Env} {R : Room} {s : State} {m : MethodId} {args : Array Value} {below : List Frame} {meth : Method} {c : Code} {cells slots : Nat} {Q : State → Prop} {dC : Nat → ClassId} {dI : Nat → Nat → Nat} {cI cB cJ cZ : ClassId} {A : Nat → Prop} {ad : Nat → Nat} {NN : Nat} {E : Heap} {tM tC : Nat} {kK kV : Nat → Nat} {post : St → Prop} (hx : p.tables.exec = Jvm.exec) (hb : c.code = b_Asm_passBy) (hml : c.maxLocals = 4) (hown : s.vm.findClass R_Asm = some m.cls) (hT : ∀ w ∈ TG, w.before args s = true) (hK : va_K (dC, dI) CL (TY cI cB cJ cZ) s) (hN : NW s) (hA : ∀ q : Nat, s.heap.size ≤ q → A q) (hRc : cells ≤ R.cells) (hRs : slots ≤ R.slots) (hRf : 1 ≤ R.frames) (hRl : 21 ≤ R.locals) (hNN : 152 ≤ NN) (hE : CE E tM tC kK kV A s) (hret : ∀ (x : St) (H : Heap) (locs : List Loc) (pc : Nat) (ls : Array Slot), decode b_Asm_passBy pc = .ok (.return_, 1) → post x → Wd dC dI cI cB cJ cZ ad stC kcC NN A x H → va_S A s.heap H locs → W p l e R s m args below meth c H locs cells slots Q (F0 m pc ls []))  : ∀ n : Nat, ∀ (o : Nat) (l1 : Int32) (l2 : Int32) (l3 : Int32) (x : St) (H : Heap) (locs : List Loc) (ls : Array Slot), (o < NN ∧ kcC o = 11) → wl_Asm_passBy_36 post n o l1 l2 l3 x → Wd dC dI cI cB cJ cZ ad stC kcC NN A x H → va_S A s.heap H locs → lv_has ls 4 [(0, .ref (ad o)), (1, .int l1), (2, .int l2), (3, .int l3)] → W p l e R s m args below meth c H locs cells slots Q (F0 m 36 ls []) := by
  intro n
  induction n with
  | zero => intro o l1 l2 l3 x H locs ls fo hw; exact hw.elim
  | succ n ih => intro o l1 l2 l3 x H locs ls fo hw hW hS hl; exact t_Asm_passBy_36 hx hb hml hown hT hK hN hA hRc hRs hRf hRl hNN hE hret  ih o l1 l2 l3 x H locs ls fo hw hW hS hl
set_option maxRecDepth 100000 in
def wp_Asm_passBy (post : St → Prop) (o : Nat) (l1 : Int32) (x : St) : Prop := (vp_in l1 (fN x (stC (stC (stC o 1) 5) 8)) ∧ wp_Sch_columnsBefore (fun (r4130 : Int32) (x4129 : St) => (vp_in l1 (fN x4129 (stC (stC (stC o 1) 5) 9)) ∧ (∀ v4131 : Int32, v4131 = (rA x4129 (stC (stC (stC o 1) 5) 9) l1) → ∃ n : Nat, wl_Asm_passBy_36 post n o l1 r4130 v4131 x4129))) (stC (stC o 1) 5) (rA x (stC (stC (stC o 1) 5) 8) l1) x)
set_option maxHeartbeats 4000000 in
set_option maxRecDepth 100000 in
theorem t_Asm_passBy_e {p : Program} {l : Launch} {e : Env} {R : Room} {s : State} {m : MethodId} {args : Array Value} {below : List Frame} {meth : Method} {c : Code} {cells slots : Nat} {Q : State → Prop} {dC : Nat → ClassId} {dI : Nat → Nat → Nat} {cI cB cJ cZ : ClassId} {A : Nat → Prop} {ad : Nat → Nat} {NN : Nat} {E : Heap} {tM tC : Nat} {kK kV : Nat → Nat} {post : St → Prop} (hx : p.tables.exec = Jvm.exec) (hb : c.code = b_Asm_passBy) (hml : c.maxLocals = 4) (hown : s.vm.findClass R_Asm = some m.cls) (hT : ∀ w ∈ TG, w.before args s = true) (hK : va_K (dC, dI) CL (TY cI cB cJ cZ) s) (hN : NW s) (hA : ∀ q : Nat, s.heap.size ≤ q → A q) (hRc : cells ≤ R.cells) (hRs : slots ≤ R.slots) (hRf : 1 ≤ R.frames) (hRl : 21 ≤ R.locals) (hNN : 152 ≤ NN) (hE : CE E tM tC kK kV A s) (hret : ∀ (x : St) (H : Heap) (locs : List Loc) (pc : Nat) (ls : Array Slot), decode b_Asm_passBy pc = .ok (.return_, 1) → post x → Wd dC dI cI cB cJ cZ ad stC kcC NN A x H → va_S A s.heap H locs → W p l e R s m args below meth c H locs cells slots Q (F0 m pc ls [])) : ∀ (o : Nat) (l1 : Int32) (x : St) (H : Heap) (locs : List Loc) (ls : Array Slot), (o < NN ∧ kcC o = 11) → wp_Asm_passBy post o l1 x → Wd dC dI cI cB cJ cZ ad stC kcC NN A x H → va_S A s.heap H locs → lv_has ls 4 [(0, .ref (ad o)), (1, .int l1)] → W p l e R s m args below meth c H locs cells slots Q (F0 m 0 ls []) := by
  intro o l1 x H locs ls fo hw hW hS hl
  unfold wp_Asm_passBy at hw
  refine lv_aload_n hx hb d_Asm_passBy_0 rfl (lv_at hl 0 rfl) ?_
  refine w_getf (q := (stC o 1)) (k := 1) (t := 11) (C := R_Asm) (T := F_Asm) (N := 4) hx hb hT hown hK hW fo.1 fo.2 (by decide) in_Asm rfl rfl (by decide) rfl fr_Asm_1 w_3_223 d_Asm_passBy_1 rfl ?_
  refine w_getf (q := (stC (stC o 1) 5)) (k := 5) (t := 6) (C := R_Vlt) (T := F_Vlt) (N := 20) hx hb hT hown hK hW (st_ty hNN fo.1 fo.2 rfl).1 (st_ty hNN fo.1 fo.2 rfl).2 (by decide) in_Vlt rfl rfl (by decide) rfl fr_Vlt_5 w_2_135 d_Asm_passBy_4 rfl ?_
  refine lv_aload_n hx hb d_Asm_passBy_7 rfl (lv_at hl 0 rfl) ?_
  refine w_getf (q := (stC o 1)) (k := 1) (t := 11) (C := R_Asm) (T := F_Asm) (N := 4) hx hb hT hown hK hW fo.1 fo.2 (by decide) in_Asm rfl rfl (by decide) rfl fr_Asm_1 w_3_223 d_Asm_passBy_8 rfl ?_
  refine w_getf (q := (stC (stC o 1) 5)) (k := 5) (t := 6) (C := R_Vlt) (T := F_Vlt) (N := 20) hx hb hT hown hK hW (st_ty hNN fo.1 fo.2 rfl).1 (st_ty hNN fo.1 fo.2 rfl).2 (by decide) in_Vlt rfl rfl (by decide) rfl fr_Vlt_5 w_2_135 d_Asm_passBy_11 rfl ?_
  refine w_getf (q := (stC (stC (stC o 1) 5) 8)) (k := 8) (t := 3) (C := R_Sch) (T := F_Sch) (N := 13) hx hb hT hown hK hW (st_ty hNN (st_ty hNN fo.1 fo.2 rfl).1 (st_ty hNN fo.1 fo.2 rfl).2 rfl).1 (st_ty hNN (st_ty hNN fo.1 fo.2 rfl).1 (st_ty hNN fo.1 fo.2 rfl).2 rfl).2 (by decide) in_Sch rfl rfl (by decide) rfl fr_Sch_8 w_1_170 d_Asm_passBy_14 rfl ?_
  refine lv_iload_n hx hb d_Asm_passBy_17 rfl (lv_at hl 1 rfl) ?_
  obtain ⟨hi, hw⟩ := hw
  refine w_iald (o := (stC (stC (stC o 1) 5) 8)) hx hb hK hW (st_ty hNN (st_ty hNN (st_ty hNN fo.1 fo.2 rfl).1 (st_ty hNN fo.1 fo.2 rfl).2 rfl).1 (st_ty hNN (st_ty hNN fo.1 fo.2 rfl).1 (st_ty hNN fo.1 fo.2 rfl).2 rfl).2 rfl).1 (st_ty hNN (st_ty hNN (st_ty hNN fo.1 fo.2 rfl).1 (st_ty hNN fo.1 fo.2 rfl).2 rfl).1 (st_ty hNN (st_ty hNN fo.1 fo.2 rfl).1 (st_ty hNN fo.1 fo.2 rfl).2 rfl).2 rfl).2 hi d_Asm_passBy_18 ?_
  have hF := hW.free hS hA
  refine va_calli (va_runV (C := R_Sch) (As := [.int (rA x (stC (stC (stC o 1) 5) 8) l1)]) (rest := []) ⟨hx, hb, hml, hown, hT⟩ (k_Sch_columnsBefore l dC dI cI cB cJ cZ ad NN E tM tC kK kV hNN H.size (stC (stC o 1) 5) (rA x (stC (stC (stC o 1) 5) 8) l1) x (st_ty hNN (st_ty hNN fo.1 fo.2 rfl).1 (st_ty hNN fo.1 fo.2 rfl).2 rfl) hw) ⟨callB_of 1 hT (gw_in w_5_46) rfl rfl rfl (hT _ w_1_5) (hT _ w_7_97) (by decide +kernel) ⟨Nat.le_trans (by decide) hRf, Nat.le_trans (by decide) hRl⟩, hT _ w_5_44, hT _ w_5_45⟩ ⟨PV.blind, va_recv hK hW.1 (ci := 3) (q0 := (stC (stC o 1) 5)) rfl (pic_obj (st_ty hNN (st_ty hNN fo.1 fo.2 rfl).1 (st_ty hNN fo.1 fo.2 rfl).2 rfl).1 (st_ty hNN (st_ty hNN fo.1 fo.2 rfl).1 (st_ty hNN fo.1 fo.2 rfl).2 rfl).2 (by decide)), PV.at _ hW hK hN hE hS hF⟩ rfl rfl hl.1 rfl (lv_room (Nat.le_of_ble_eq_true rfl)) d_Asm_passBy_19 ⟨hRc, hRs⟩) hS (fun q _ h => hF q h) hF (fun r4130 x4129 t H locs ht hvm hw hB hz1 hk1 hS => ?_)
  have hW := Wd.back hB ht hF
  clear hB ht hF hz1 hk1 hvm
  refine lv_istore_n (lv' := [(2, .int r4130), (0, .ref (ad o)), (1, .int l1)]) hx hb d_Asm_passBy_22 rfl hl (by decide) rfl (fun ls hl => ?_)
  refine lv_aload_n hx hb d_Asm_passBy_23 rfl (lv_at hl 1 rfl) ?_
  refine w_getf (q := (stC o 1)) (k := 1) (t := 11) (C := R_Asm) (T := F_Asm) (N := 4) hx hb hT hown hK hW fo.1 fo.2 (by decide) in_Asm rfl rfl (by decide) rfl fr_Asm_1 w_3_223 d_Asm_passBy_24 rfl ?_
  refine w_getf (q := (stC (stC o 1) 5)) (k := 5) (t := 6) (C := R_Vlt) (T := F_Vlt) (N := 20) hx hb hT hown hK hW (st_ty hNN fo.1 fo.2 rfl).1 (st_ty hNN fo.1 fo.2 rfl).2 (by decide) in_Vlt rfl rfl (by decide) rfl fr_Vlt_5 w_2_135 d_Asm_passBy_27 rfl ?_
  refine w_getf (q := (stC (stC (stC o 1) 5) 9)) (k := 9) (t := 3) (C := R_Sch) (T := F_Sch) (N := 13) hx hb hT hown hK hW (st_ty hNN (st_ty hNN fo.1 fo.2 rfl).1 (st_ty hNN fo.1 fo.2 rfl).2 rfl).1 (st_ty hNN (st_ty hNN fo.1 fo.2 rfl).1 (st_ty hNN fo.1 fo.2 rfl).2 rfl).2 (by decide) in_Sch rfl rfl (by decide) rfl fr_Sch_9 w_1_174 d_Asm_passBy_30 rfl ?_
  refine lv_iload_n hx hb d_Asm_passBy_33 rfl (lv_at hl 2 rfl) ?_
  obtain ⟨hi, hw⟩ := hw
  refine w_iald (o := (stC (stC (stC o 1) 5) 9)) hx hb hK hW (st_ty hNN (st_ty hNN (st_ty hNN fo.1 fo.2 rfl).1 (st_ty hNN fo.1 fo.2 rfl).2 rfl).1 (st_ty hNN (st_ty hNN fo.1 fo.2 rfl).1 (st_ty hNN fo.1 fo.2 rfl).2 rfl).2 rfl).1 (st_ty hNN (st_ty hNN (st_ty hNN fo.1 fo.2 rfl).1 (st_ty hNN fo.1 fo.2 rfl).2 rfl).1 (st_ty hNN (st_ty hNN fo.1 fo.2 rfl).1 (st_ty hNN fo.1 fo.2 rfl).2 rfl).2 rfl).2 hi d_Asm_passBy_34 ?_
  refine lv_topi (fun v4131 ev4131 => ?_)
  have hw := hw v4131 ev4131
  refine lv_istore_n (lv' := [(3, .int v4131), (2, .int r4130), (0, .ref (ad o)), (1, .int l1)]) hx hb d_Asm_passBy_35 rfl hl (by decide) rfl (fun ls hl => ?_)
  obtain ⟨n, hw⟩ := hw
  exact tl_Asm_passBy_36 hx hb hml hown hT hK hN hA hRc hRs hRf hRl hNN hE hret  n o l1 r4130 v4131 x4129 H locs ls fo hw hW hS (lv_sub hl [2, 3, 1, 0] rfl)
set_option maxHeartbeats 4000000 in
set_option maxRecDepth 100000 in
theorem k_Asm_passBy (l : Launch) (dC : Nat → ClassId) (dI : Nat → Nat → Nat) (cI cB cJ cZ : ClassId) (ad : Nat → Nat) (NN : Nat) (E : Heap) (tM tC : Nat) (kK kV : Nat → Nat) (hNN : 152 ≤ NN) (sz : Nat) (o : Nat) (l1 : Int32) (x : St) (fo : o < NN ∧ kcC o = 11) {post : St → Prop} (hw : wp_Asm_passBy post o l1 x) : Met l y_Asm_passBy (wsOf y_Asm_passBy b_Asm_passBy 4 (none)) ({ frames := 1, cells := 0, slots := 0, locals := 21 }) (va_Pc [.ref (ad o), .int l1] (PV dC dI cI cB cJ cZ ad stC kcC NN E tM tC kK kV sz x)) (va_Qv (fun (y : St) => post y) (fun y t => Wd dC dI cI cB cJ cZ ad stC kcC NN (va_A (pic ad stC kcC NN cI cB cJ cZ x) sz) y t.heap) (va_A (pic ad stC kcC NN cI cB cJ cZ x) sz)) 0 0 (va_A (pic ad stC kcC NN cI cB cJ cZ x) sz) := by
  refine Met.ofW (cc := b_Asm_passBy) (maxL := 4) (ret := none) (by decide) rfl ?_
  intro p e s m args below meth c s₁ B hml hv
  obtain ⟨rfl, ⟨hsz, hW0, hK, hN⟩, hE⟩ := hv
  have hx := B.exec
  have hb := B.bytes
  have hr := B.returns
  have hts := atoms_spec B.pre
  have hT : ∀ w ∈ TG, w.before _ s = true := fun w h => hts w (List.mem_cons_of_mem _ h)
  have hown : s.vm.findClass R_Asm = some m.cls := findClass_of_methodNamed B.named
  have hlocks := B.notSynchronized
  subst hsz
  have hW : Wd dC dI cI cB cJ cZ ad stC kcC NN (va_A (pic ad stC kcC NN cI cB cJ cZ x) s.heap.size) x s.heap := ⟨hW0.1, hW0.2.1.self (sz := s.heap.size), hW0.2.2⟩
  generalize hAe : va_A (pic ad stC kcC NN cI cB cJ cZ x) s.heap.size = A at hW hE ⊢
  have hA : ∀ q : Nat, s.heap.size ≤ q → A q := fun q h => by rw [← hAe]; exact Or.inr h
  have hS : va_S A s.heap s.heap [] := va_S.rf
  have hl := lv_entry ([.ref (ad o), .int l1]) (n := 4) (Nat.le_of_ble_eq_true rfl)
  rw [lg_entry_eq]
  generalize (lg_sl ([.ref (ad o), .int l1]) ++ List.replicate (4 - (lg_sl ([.ref (ad o), .int l1])).length) Slot.unset).toArray = ls at hl ⊢
  have hl : lv_has ls 4 [(0, .ref (ad o)), (1, .int l1)] := hl
  exact t_Asm_passBy_e hx hb hml hown hT hK hN hA (Nat.le_refl 0) (Nat.le_refl 0) (Nat.le_refl 1) (Nat.le_refl 21) hNN hE (fun x H locs pc ls hd hp hW hS => W.vret hx hb hr (fun t ht hM => ⟨⟨x, rfl, hp, Wd.back hW ht.symm (fun _ z => z)⟩, hS.F ht⟩) hS.2.2 hd hlocks)  o l1 x _ _ ls fo hw hW hS hl
set_option maxRecDepth 100000 in
def wp_Asm_hexDigit (post : Int32 → St → Prop) (l0 : Int32) (x : St) : Prop := ((10 ≤ l0 → post ((97 + l0) - 10) x) ∧ (¬ 10 ≤ l0 → post (48 + l0) x))
set_option maxHeartbeats 4000000 in
set_option maxRecDepth 100000 in
theorem t_Asm_hexDigit_e {p : Program} {l : Launch} {e : Env} {R : Room} {s : State} {m : MethodId} {args : Array Value} {below : List Frame} {meth : Method} {c : Code} {cells slots : Nat} {Q : State → Prop} {dC : Nat → ClassId} {dI : Nat → Nat → Nat} {cI cB cJ cZ : ClassId} {A : Nat → Prop} {ad : Nat → Nat} {NN : Nat} {E : Heap} {tM tC : Nat} {kK kV : Nat → Nat} {post : Int32 → St → Prop} (hx : p.tables.exec = Jvm.exec) (hb : c.code = b_Asm_hexDigit) (hml : c.maxLocals = 1) (hown : s.vm.findClass R_Asm = some m.cls) (hT : ∀ w ∈ TG, w.before args s = true) (hK : va_K (dC, dI) CL (TY cI cB cJ cZ) s) (hN : NW s) (hA : ∀ q : Nat, s.heap.size ≤ q → A q) (hRc : cells ≤ R.cells) (hRs : slots ≤ R.slots) (hRf : 0 ≤ R.frames) (hRl : 0 ≤ R.locals) (hNN : 152 ≤ NN) (hE : CE E tM tC kK kV A s) (hret : ∀ (r : Int32) (x : St) (H : Heap) (locs : List Loc) (pc : Nat) (ls : Array Slot), decode b_Asm_hexDigit pc = .ok (.ireturn, 1) → post r x → Wd dC dI cI cB cJ cZ ad stC kcC NN A x H → va_S A s.heap H locs → W p l e R s m args below meth c H locs cells slots Q (F0 m pc ls [.int r])) : ∀ (l0 : Int32) (x : St) (H : Heap) (locs : List Loc) (ls : Array Slot), wp_Asm_hexDigit post l0 x → Wd dC dI cI cB cJ cZ ad stC kcC NN A x H → va_S A s.heap H locs → lv_has ls 1 [(0, .int l0)] → W p l e R s m args below meth c H locs cells slots Q (F0 m 0 ls []) := by
  intro l0 x H locs ls  hw hW hS hl
  unfold wp_Asm_hexDigit at hw
  refine lv_iload_n hx hb d_Asm_hexDigit_0 rfl (lv_at hl 0 rfl) ?_
  refine lv_bipush (v := 10) hx hb d_Asm_hexDigit_1 (by decide) ?_
  refine lv_icmp_ge (tgt := 13) hx hb d_Asm_hexDigit_3 (by decide) (fun c4132 => ?_) (fun c4132 => ?_)
  · have hw := hw.1 c4132
    refine lv_bipush (v := 97) hx hb d_Asm_hexDigit_13 (by decide) ?_
    refine lv_iload_n hx hb d_Asm_hexDigit_15 rfl (lv_at hl 0 rfl) ?_
    refine lv_iadd hx hb d_Asm_hexDigit_16 ?_
    refine lv_bipush (v := 10) hx hb d_Asm_hexDigit_17 (by decide) ?_
    refine lv_isub hx hb d_Asm_hexDigit_19 ?_
    exact hret ((97 + l0) - 10) x H locs 20 ls d_Asm_hexDigit_20 hw hW hS
  · have hw := hw.2 c4132
    refine lv_bipush (v := 48) hx hb d_Asm_hexDigit_6 (by decide) ?_
    refine lv_iload_n hx hb d_Asm_hexDigit_8 rfl (lv_at hl 0 rfl) ?_
    refine lv_iadd hx hb d_Asm_hexDigit_9 ?_
    refine lv_goto (tgt := 20) hx hb d_Asm_hexDigit_10 (by decide) ?_
    exact hret (48 + l0) x H locs 20 ls d_Asm_hexDigit_20 hw hW hS
set_option maxHeartbeats 4000000 in
set_option maxRecDepth 100000 in
theorem k_Asm_hexDigit (l : Launch) (dC : Nat → ClassId) (dI : Nat → Nat → Nat) (cI cB cJ cZ : ClassId) (ad : Nat → Nat) (NN : Nat) (E : Heap) (tM tC : Nat) (kK kV : Nat → Nat) (hNN : 152 ≤ NN) (sz : Nat) (l0 : Int32) (x : St) {post : Int32 → St → Prop} (hw : wp_Asm_hexDigit post l0 x) : Met l y_Asm_hexDigit (wsOf y_Asm_hexDigit b_Asm_hexDigit 1 (some (.int))) ({ frames := 0, cells := 0, slots := 0, locals := 0 }) (va_Pc [.int l0] (PV dC dI cI cB cJ cZ ad stC kcC NN E tM tC kK kV sz x)) (va_Qi (fun (r : Int32) (y : St) => post r y) (fun y t => Wd dC dI cI cB cJ cZ ad stC kcC NN (va_A (pic ad stC kcC NN cI cB cJ cZ x) sz) y t.heap) (va_A (pic ad stC kcC NN cI cB cJ cZ x) sz)) 0 0 (va_A (pic ad stC kcC NN cI cB cJ cZ x) sz) := by
  refine Met.ofW (cc := b_Asm_hexDigit) (maxL := 1) (ret := some (.int)) (by decide) rfl ?_
  intro p e s m args below meth c s₁ B hml hv
  obtain ⟨rfl, ⟨hsz, hW0, hK, hN⟩, hE⟩ := hv
  have hx := B.exec
  have hb := B.bytes
  have hr := B.returns
  have hts := atoms_spec B.pre
  have hT : ∀ w ∈ TG, w.before _ s = true := fun w h => hts w (List.mem_cons_of_mem _ h)
  have hown : s.vm.findClass R_Asm = some m.cls := findClass_of_methodNamed B.named
  have hlocks := B.notSynchronized
  subst hsz
  have hW : Wd dC dI cI cB cJ cZ ad stC kcC NN (va_A (pic ad stC kcC NN cI cB cJ cZ x) s.heap.size) x s.heap := ⟨hW0.1, hW0.2.1.self (sz := s.heap.size), hW0.2.2⟩
  generalize hAe : va_A (pic ad stC kcC NN cI cB cJ cZ x) s.heap.size = A at hW hE ⊢
  have hA : ∀ q : Nat, s.heap.size ≤ q → A q := fun q h => by rw [← hAe]; exact Or.inr h
  have hS : va_S A s.heap s.heap [] := va_S.rf
  have hl := lv_entry ([.int l0]) (n := 1) (Nat.le_of_ble_eq_true rfl)
  rw [lg_entry_eq]
  generalize (lg_sl ([.int l0]) ++ List.replicate (1 - (lg_sl ([.int l0])).length) Slot.unset).toArray = ls at hl ⊢
  have hl : lv_has ls 1 [(0, .int l0)] := hl
  exact t_Asm_hexDigit_e hx hb hml hown hT hK hN hA (Nat.le_refl 0) (Nat.le_refl 0) (Nat.le_refl 0) (Nat.le_refl 0) hNN hE (fun r x H locs pc ls hd hp hW hS => W.iret (v := r) hx hb hr (fun t ht hM => ⟨⟨r, x, rfl, hp, Wd.back hW ht.symm (fun _ z => z)⟩, hS.F ht⟩) hS.2.2 hd hlocks)  l0 x _ _ ls  hw hW hS hl
set_option maxRecDepth 100000 in
def wp_Qry_readItemForm (post : Int32 → St → Prop) (o : Nat) (x : St) : Prop := (∃ q4133 : Nat, fR x o 17 = some q4133 ∧ wp_Scn_takeWord (fun (r4135 : Int32) (x4134 : St) => ((r4135 = 0 → (∃ q4137 : Nat, fR x4134 o 17 = some q4137 ∧ wp_Scn_takeWord (fun (r4139 : Int32) (x4138 : St) => ((r4139 = 0 → (∃ q4141 : Nat, fR x4138 o 17 = some q4141 ∧ wp_Scn_takeWord (fun (r4143 : Int32) (x4142 : St) => ((r4143 = 0 → (∃ q4145 : Nat, fR x4142 o 17 = some q4145 ∧ wp_Scn_takeWord (fun (r4147 : Int32) (x4146 : St) => ((r4147 = 0 → post 0 x4146) ∧ (¬ r4147 = 0 → post 5 x4146))) q4145 15 x4142)) ∧ (¬ r4143 = 0 → post 4 x4142))) q4141 14 x4138)) ∧ (¬ r4139 = 0 → post 3 x4138))) q4137 13 x4134)) ∧ (¬ r4135 = 0 → post 2 x4134))) q4133 12 x)
set_option maxHeartbeats 4000000 in
set_option maxRecDepth 100000 in
theorem t_Qry_readItemForm_e {p : Program} {l : Launch} {e : Env} {R : Room} {s : State} {m : MethodId} {args : Array Value} {below : List Frame} {meth : Method} {c : Code} {cells slots : Nat} {Q : State → Prop} {dC : Nat → ClassId} {dI : Nat → Nat → Nat} {cI cB cJ cZ : ClassId} {A : Nat → Prop} {ad : Nat → Nat} {NN : Nat} {E : Heap} {tM tC : Nat} {kK kV : Nat → Nat} {post : Int32 → St → Prop} (hx : p.tables.exec = Jvm.exec) (hb : c.code = b_Qry_readItemForm) (hml : c.maxLocals = 1) (hown : s.vm.findClass R_Qry = some m.cls) (hT : ∀ w ∈ TG, w.before args s = true) (hK : va_K (dC, dI) CL (TY cI cB cJ cZ) s) (hN : NW s) (hA : ∀ q : Nat, s.heap.size ≤ q → A q) (hRc : cells ≤ R.cells) (hRs : slots ≤ R.slots) (hRf : 6 ≤ R.frames) (hRl : 243 ≤ R.locals) (hNN : 152 ≤ NN) (hE : CE E tM tC kK kV A s) (hret : ∀ (r : Int32) (x : St) (H : Heap) (locs : List Loc) (pc : Nat) (ls : Array Slot), decode b_Qry_readItemForm pc = .ok (.ireturn, 1) → post r x → Wd dC dI cI cB cJ cZ ad stC kcC NN A x H → va_S A s.heap H locs → W p l e R s m args below meth c H locs cells slots Q (F0 m pc ls [.int r])) : ∀ (o : Nat) (x : St) (H : Heap) (locs : List Loc) (ls : Array Slot), (o < NN ∧ kcC o = 9) → wp_Qry_readItemForm post o x → Wd dC dI cI cB cJ cZ ad stC kcC NN A x H → va_S A s.heap H locs → lv_has ls 1 [(0, .ref (ad o))] → W p l e R s m args below meth c H locs cells slots Q (F0 m 0 ls []) := by
  intro o x H locs ls fo hw hW hS hl
  unfold wp_Qry_readItemForm at hw
  refine lv_aload_n hx hb d_Qry_readItemForm_0 rfl (lv_at hl 0 rfl) ?_
  obtain ⟨q4133, hq4133, hw⟩ := hw
  refine w_getr (q := q4133) (k := 17) (t := 9) (C := R_Qry) (T := F_Qry) (N := 20) hx hb hT hown hK hW fo.1 fo.2 (by decide) in_Qry rfl rfl (by decide) rfl fr_Qry_17 w_3_105 d_Qry_readItemForm_1 hq4133 (fun aq4133 bq4133 => ?_)
  have fq4133 : q4133 < NN ∧ kcC q4133 = 2 := ⟨aq4133, bq4133⟩
  refine va_ldcS hx hb hown (hE.str 14 (by decide)) d_Qry_readItemForm_4 ?_
  have hF := hW.free hS hA
  refine va_calli (va_runV (C := R_Scn) (As := [.ref (kK 12)]) (rest := []) ⟨hx, hb, hml, hown, hT⟩ (k_Scn_takeWord l dC dI cI cB cJ cZ ad NN E tM tC kK kV hNN H.size q4133 12 x fq4133 (by decide) hw) ⟨callB_of 1 hT (gw_in w_4_141) rfl rfl rfl (hT _ w_1_4) (hT _ w_7_159) (by decide +kernel) ⟨Nat.le_trans (by decide) hRf, Nat.le_trans (by decide) hRl⟩, hT _ w_4_139, hT _ w_4_140⟩ ⟨PV.blind, va_recv hK hW.1 (ci := 2) (q0 := q4133) rfl (pic_obj fq4133.1 fq4133.2 (by decide)), PV.at _ hW hK hN hE hS hF⟩ rfl rfl hl.1 rfl (lv_room (Nat.le_of_ble_eq_true rfl)) d_Qry_readItemForm_6 ⟨hRc, hRs⟩) hS (fun q _ h => hF q h) hF (fun r4135 x4134 t H locs ht hvm hw hB hz1 hk1 hS => ?_)
  have hW := Wd.back hB ht hF
  clear hB ht hF hz1 hk1 hvm
  refine lv_if_eq (tgt := 14) hx hb d_Qry_readItemForm_9 (by decide) (fun c4136 => ?_) (fun c4136 => ?_)
  · have hw := hw.1 c4136
    refine lv_aload_n hx hb d_Qry_readItemForm_14 rfl (lv_at hl 0 rfl) ?_
    obtain ⟨q4137, hq4137, hw⟩ := hw
    refine w_getr (q := q4137) (k := 17) (t := 9) (C := R_Qry) (T := F_Qry) (N := 20) hx hb hT hown hK hW fo.1 fo.2 (by decide) in_Qry rfl rfl (by decide) rfl fr_Qry_17 w_3_105 d_Qry_readItemForm_15 hq4137 (fun aq4137 bq4137 => ?_)
    have fq4137 : q4137 < NN ∧ kcC q4137 = 2 := ⟨aq4137, bq4137⟩
    refine va_ldcS hx hb hown (hE.str 15 (by decide)) d_Qry_readItemForm_18 ?_
    have hF := hW.free hS hA
    refine va_calli (va_runV (C := R_Scn) (As := [.ref (kK 13)]) (rest := []) ⟨hx, hb, hml, hown, hT⟩ (k_Scn_takeWord l dC dI cI cB cJ cZ ad NN E tM tC kK kV hNN H.size q4137 13 x4134 fq4137 (by decide) hw) ⟨callB_of 1 hT (gw_in w_4_141) rfl rfl rfl (hT _ w_1_4) (hT _ w_7_159) (by decide +kernel) ⟨Nat.le_trans (by decide) hRf, Nat.le_trans (by decide) hRl⟩, hT _ w_4_139, hT _ w_4_140⟩ ⟨PV.blind, va_recv hK hW.1 (ci := 2) (q0 := q4137) rfl (pic_obj fq4137.1 fq4137.2 (by decide)), PV.at _ hW hK hN hE hS hF⟩ rfl rfl hl.1 rfl (lv_room (Nat.le_of_ble_eq_true rfl)) d_Qry_readItemForm_20 ⟨hRc, hRs⟩) hS (fun q _ h => hF q h) hF (fun r4139 x4138 t H locs ht hvm hw hB hz1 hk1 hS => ?_)
    have hW := Wd.back hB ht hF
    clear hB ht hF hz1 hk1 hvm
    refine lv_if_eq (tgt := 28) hx hb d_Qry_readItemForm_23 (by decide) (fun c4140 => ?_) (fun c4140 => ?_)
    · have hw := hw.1 c4140
      refine lv_aload_n hx hb d_Qry_readItemForm_28 rfl (lv_at hl 0 rfl) ?_
      obtain ⟨q4141, hq4141, hw⟩ := hw
      refine w_getr (q := q4141) (k := 17) (t := 9) (C := R_Qry) (T := F_Qry) (N := 20) hx hb hT hown hK hW fo.1 fo.2 (by decide) in_Qry rfl rfl (by decide) rfl fr_Qry_17 w_3_105 d_Qry_readItemForm_29 hq4141 (fun aq4141 bq4141 => ?_)
      have fq4141 : q4141 < NN ∧ kcC q4141 = 2 := ⟨aq4141, bq4141⟩
      refine va_ldcS hx hb hown (hE.str 16 (by decide)) d_Qry_readItemForm_32 ?_
      have hF := hW.free hS hA
      refine va_calli (va_runV (C := R_Scn) (As := [.ref (kK 14)]) (rest := []) ⟨hx, hb, hml, hown, hT⟩ (k_Scn_takeWord l dC dI cI cB cJ cZ ad NN E tM tC kK kV hNN H.size q4141 14 x4138 fq4141 (by decide) hw) ⟨callB_of 1 hT (gw_in w_4_141) rfl rfl rfl (hT _ w_1_4) (hT _ w_7_159) (by decide +kernel) ⟨Nat.le_trans (by decide) hRf, Nat.le_trans (by decide) hRl⟩, hT _ w_4_139, hT _ w_4_140⟩ ⟨PV.blind, va_recv hK hW.1 (ci := 2) (q0 := q4141) rfl (pic_obj fq4141.1 fq4141.2 (by decide)), PV.at _ hW hK hN hE hS hF⟩ rfl rfl hl.1 rfl (lv_room (Nat.le_of_ble_eq_true rfl)) d_Qry_readItemForm_34 ⟨hRc, hRs⟩) hS (fun q _ h => hF q h) hF (fun r4143 x4142 t H locs ht hvm hw hB hz1 hk1 hS => ?_)
      have hW := Wd.back hB ht hF
      clear hB ht hF hz1 hk1 hvm
      refine lv_if_eq (tgt := 42) hx hb d_Qry_readItemForm_37 (by decide) (fun c4144 => ?_) (fun c4144 => ?_)
      · have hw := hw.1 c4144
        refine lv_aload_n hx hb d_Qry_readItemForm_42 rfl (lv_at hl 0 rfl) ?_
        obtain ⟨q4145, hq4145, hw⟩ := hw
        refine w_getr (q := q4145) (k := 17) (t := 9) (C := R_Qry) (T := F_Qry) (N := 20) hx hb hT hown hK hW fo.1 fo.2 (by decide) in_Qry rfl rfl (by decide) rfl fr_Qry_17 w_3_105 d_Qry_readItemForm_43 hq4145 (fun aq4145 bq4145 => ?_)
        have fq4145 : q4145 < NN ∧ kcC q4145 = 2 := ⟨aq4145, bq4145⟩
        refine va_ldcS hx hb hown (hE.str 17 (by decide)) d_Qry_readItemForm_46 ?_
        have hF := hW.free hS hA
        refine va_calli (va_runV (C := R_Scn) (As := [.ref (kK 15)]) (rest := []) ⟨hx, hb, hml, hown, hT⟩ (k_Scn_takeWord l dC dI cI cB cJ cZ ad NN E tM tC kK kV hNN H.size q4145 15 x4142 fq4145 (by decide) hw) ⟨callB_of 1 hT (gw_in w_4_141) rfl rfl rfl (hT _ w_1_4) (hT _ w_7_159) (by decide +kernel) ⟨Nat.le_trans (by decide) hRf, Nat.le_trans (by decide) hRl⟩, hT _ w_4_139, hT _ w_4_140⟩ ⟨PV.blind, va_recv hK hW.1 (ci := 2) (q0 := q4145) rfl (pic_obj fq4145.1 fq4145.2 (by decide)), PV.at _ hW hK hN hE hS hF⟩ rfl rfl hl.1 rfl (lv_room (Nat.le_of_ble_eq_true rfl)) d_Qry_readItemForm_48 ⟨hRc, hRs⟩) hS (fun q _ h => hF q h) hF (fun r4147 x4146 t H locs ht hvm hw hB hz1 hk1 hS => ?_)
        have hW := Wd.back hB ht hF
        clear hB ht hF hz1 hk1 hvm
        refine lv_if_eq (tgt := 58) hx hb d_Qry_readItemForm_51 (by decide) (fun c4148 => ?_) (fun c4148 => ?_)
        · have hw := hw.1 c4148
          refine lv_iconst (v := 0) hx hb d_Qry_readItemForm_58 (by decide) ?_
          exact hret 0 x4146 H locs 59 ls d_Qry_readItemForm_59 hw hW hS
        · have hw := hw.2 c4148
          refine lv_iconst (v := 5) hx hb d_Qry_readItemForm_54 (by decide) ?_
          refine lv_goto (tgt := 59) hx hb d_Qry_readItemForm_55 (by decide) ?_
          exact hret 5 x4146 H locs 59 ls d_Qry_readItemForm_59 hw hW hS
      · have hw := hw.2 c4144
        refine lv_iconst (v := 4) hx hb d_Qry_readItemForm_40 (by decide) ?_
        exact hret 4 x4142 H locs 41 ls d_Qry_readItemForm_41 hw hW hS
    · have hw := hw.2 c4140
      refine lv_iconst (v := 3) hx hb d_Qry_readItemForm_26 (by decide) ?_
      exact hret 3 x4138 H locs 27 ls d_Qry_readItemForm_27 hw hW hS
  · have hw := hw.2 c4136
    refine lv_iconst (v := 2) hx hb d_Qry_readItemForm_12 (by decide) ?_
    exact hret 2 x4134 H locs 13 ls d_Qry_readItemForm_13 hw hW hS
set_option maxHeartbeats 4000000 in
set_option maxRecDepth 100000 in
theorem k_Qry_readItemForm (l : Launch) (dC : Nat → ClassId) (dI : Nat → Nat → Nat) (cI cB cJ cZ : ClassId) (ad : Nat → Nat) (NN : Nat) (E : Heap) (tM tC : Nat) (kK kV : Nat → Nat) (hNN : 152 ≤ NN) (sz : Nat) (o : Nat) (x : St) (fo : o < NN ∧ kcC o = 9) {post : Int32 → St → Prop} (hw : wp_Qry_readItemForm post o x) : Met l y_Qry_readItemForm (wsOf y_Qry_readItemForm b_Qry_readItemForm 1 (some (.int))) ({ frames := 6, cells := 0, slots := 0, locals := 243 }) (va_Pc [.ref (ad o)] (PV dC dI cI cB cJ cZ ad stC kcC NN E tM tC kK kV sz x)) (va_Qi (fun (r : Int32) (y : St) => post r y) (fun y t => Wd dC dI cI cB cJ cZ ad stC kcC NN (va_A (pic ad stC kcC NN cI cB cJ cZ x) sz) y t.heap) (va_A (pic ad stC kcC NN cI cB cJ cZ x) sz)) 0 0 (va_A (pic ad stC kcC NN cI cB cJ cZ x) sz) := by
  refine Met.ofW (cc := b_Qry_readItemForm) (maxL := 1) (ret := some (.int)) (by decide) rfl ?_
  intro p e s m args below meth c s₁ B hml hv
  obtain ⟨rfl, ⟨hsz, hW0, hK, hN⟩, hE⟩ := hv
  have hx := B.exec
  have hb := B.bytes
  have hr := B.returns
  have hts := atoms_spec B.pre
  have hT : ∀ w ∈ TG, w.before _ s = true := fun w h => hts w (List.mem_cons_of_mem _ h)
  have hown : s.vm.findClass R_Qry = some m.cls := findClass_of_methodNamed B.named
  have hlocks := B.notSynchronized
  subst hsz
  have hW : Wd dC dI cI cB cJ cZ ad stC kcC NN (va_A (pic ad stC kcC NN cI cB cJ cZ x) s.heap.size) x s.heap := ⟨hW0.1, hW0.2.1.self (sz := s.heap.size), hW0.2.2⟩
  generalize hAe : va_A (pic ad stC kcC NN cI cB cJ cZ x) s.heap.size = A at hW hE ⊢
  have hA : ∀ q : Nat, s.heap.size ≤ q → A q := fun q h => by rw [← hAe]; exact Or.inr h
  have hS : va_S A s.heap s.heap [] := va_S.rf
  have hl := lv_entry ([.ref (ad o)]) (n := 1) (Nat.le_of_ble_eq_true rfl)
  rw [lg_entry_eq]
  generalize (lg_sl ([.ref (ad o)]) ++ List.replicate (1 - (lg_sl ([.ref (ad o)])).length) Slot.unset).toArray = ls at hl ⊢
  have hl : lv_has ls 1 [(0, .ref (ad o))] := hl
  exact t_Qry_readItemForm_e hx hb hml hown hT hK hN hA (Nat.le_refl 0) (Nat.le_refl 0) (Nat.le_refl 6) (Nat.le_refl 243) hNN hE (fun r x H locs pc ls hd hp hW hS => W.iret (v := r) hx hb hr (fun t ht hM => ⟨⟨r, x, rfl, hp, Wd.back hW ht.symm (fun _ z => z)⟩, hS.F ht⟩) hS.2.2 hd hlocks)  o x _ _ ls fo hw hW hS hl
set_option maxRecDepth 100000 in
def j_Qry_isOwnWord_192 (post : Int32 → St → Prop) (o : Nat) (x : St) : Prop := post 1 x
set_option maxHeartbeats 4000000 in
set_option maxRecDepth 100000 in
theorem t_Qry_isOwnWord_192 {p : Program} {l : Launch} {e : Env} {R : Room} {s : State} {m : MethodId} {args : Array Value} {below : List Frame} {meth : Method} {c : Code} {cells slots : Nat} {Q : State → Prop} {dC : Nat → ClassId} {dI : Nat → Nat → Nat} {cI cB cJ cZ : ClassId} {A : Nat → Prop} {ad : Nat → Nat} {NN : Nat} {E : Heap} {tM tC : Nat} {kK kV : Nat → Nat} {post : Int32 → St → Prop} (hx : p.tables.exec = Jvm.exec) (hb : c.code = b_Qry_isOwnWord) (hml : c.maxLocals = 1) (hown : s.vm.findClass R_Qry = some m.cls) (hT : ∀ w ∈ TG, w.before args s = true) (hK : va_K (dC, dI) CL (TY cI cB cJ cZ) s) (hN : NW s) (hA : ∀ q : Nat, s.heap.size ≤ q → A q) (hRc : cells ≤ R.cells) (hRs : slots ≤ R.slots) (hRf : 5 ≤ R.frames) (hRl : 222 ≤ R.locals) (hNN : 152 ≤ NN) (hE : CE E tM tC kK kV A s) (hret : ∀ (r : Int32) (x : St) (H : Heap) (locs : List Loc) (pc : Nat) (ls : Array Slot), decode b_Qry_isOwnWord pc = .ok (.ireturn, 1) → narrow .boolean (.int r) = .int r → post r x → Wd dC dI cI cB cJ cZ ad stC kcC NN A x H → va_S A s.heap H locs → W p l e R s m args below meth c H locs cells slots Q (F0 m pc ls [.int r]))  : ∀ (o : Nat) (x : St) (H : Heap) (locs : List Loc) (ls : Array Slot), (o < NN ∧ kcC o = 9) → j_Qry_isOwnWord_192 post o x → Wd dC dI cI cB cJ cZ ad stC kcC NN A x H → va_S A s.heap H locs → lv_has ls 1 [(0, .ref (ad o))] → W p l e R s m args below meth c H locs cells slots Q (F0 m 192 ls []) := by
  intro o x H locs ls fo hw hW hS hl
  unfold j_Qry_isOwnWord_192 at hw
  refine lv_iconst (v := 1) hx hb d_Qry_isOwnWord_192 (by decide) ?_
  refine lv_goto (tgt := 197) hx hb d_Qry_isOwnWord_193 (by decide) ?_
  exact hret 1 x H locs 197 ls d_Qry_isOwnWord_197 rfl hw hW hS
set_option maxRecDepth 100000 in
def wp_Qry_isOwnWord (post : Int32 → St → Prop) (o : Nat) (x : St) : Prop := (∃ q4149 : Nat, fR x o 17 = some q4149 ∧ wp_Scn_isWord (fun (r4151 : Int32) (x4150 : St) => ((¬ r4151 = 0 → j_Qry_isOwnWord_192 post o x4150) ∧ (r4151 = 0 → (∃ q4153 : Nat, fR x4150 o 17 = some q4153 ∧ wp_Scn_isWord (fun (r4155 : Int32) (x4154 : St) => ((¬ r4155 = 0 → j_Qry_isOwnWord_192 post o x4154) ∧ (r4155 = 0 → (∃ q4157 : Nat, fR x4154 o 17 = some q4157 ∧ wp_Scn_isWord (fun (r4159 : Int32) (x4158 : St) => ((¬ r4159 = 0 → j_Qry_isOwnWord_192 post o x4158) ∧ (r4159 = 0 → (∃ q4161 : Nat, fR x4158 o 17 = some q4161 ∧ wp_Scn_isWord (fun (r4163 : Int32) (x4162 : St) => ((¬ r4163 = 0 → j_Qry_isOwnWord_192 post o x4162) ∧ (r4163 = 0 → (∃ q4165 : Nat, fR x4162 o 17 = some q4165 ∧ wp_Scn_isWord (fun (r4167 : Int32) (x4166 : St) => ((¬ r4167 = 0 → j_Qry_isOwnWord_192 post o x4166) ∧ (r4167 = 0 → (∃ q4169 : Nat, fR x4166 o 17 = some q4169 ∧ wp_Scn_isWord (fun (r4171 : Int32) (x4170 : St) => ((¬ r4171 = 0 → j_Qry_isOwnWord_192 post o x4170) ∧ (r4171 = 0 → (∃ q4173 : Nat, fR x4170 o 17 = some q4173 ∧ wp_Scn_isWord (fun (r4175 : Int32) (x4174 : St) => ((¬ r4175 = 0 → j_Qry_isOwnWord_192 post o x4174) ∧ (r4175 = 0 → (∃ q4177 : Nat, fR x4174 o 17 = some q4177 ∧ wp_Scn_isWord (fun (r4179 : Int32) (x4178 : St) => ((¬ r4179 = 0 → j_Qry_isOwnWord_192 post o x4178) ∧ (r4179 = 0 → (∃ q4181 : Nat, fR x4178 o 17 = some q4181 ∧ wp_Scn_isWord (fun (r4183 : Int32) (x4182 : St) => ((¬ r4183 = 0 → j_Qry_isOwnWord_192 post o x4182) ∧ (r4183 = 0 → (∃ q4185 : Nat, fR x4182 o 17 = some q4185 ∧ wp_Scn_isWord (fun (r4187 : Int32) (x4186 : St) => ((¬ r4187 = 0 → j_Qry_isOwnWord_192 post o x4186) ∧ (r4187 = 0 → (∃ q4189 : Nat, fR x4186 o 17 = some q4189 ∧ wp_Scn_isWord (fun (r4191 : Int32) (x4190 : St) => ((¬ r4191 = 0 → j_Qry_isOwnWord_192 post o x4190) ∧ (r4191 = 0 → (∃ q4193 : Nat, fR x4190 o 17 = some q4193 ∧ wp_Scn_isWord (fun (r4195 : Int32) (x4194 : St) => ((¬ r4195 = 0 → j_Qry_isOwnWord_192 post o x4194) ∧ (r4195 = 0 → (∃ q4197 : Nat, fR x4194 o 17 = some q4197 ∧ wp_Scn_isWord (fun (r4199 : Int32) (x4198 : St) => ((¬ r4199 = 0 → j_Qry_isOwnWord_192 post o x4198) ∧ (r4199 = 0 → (∃ q4201 : Nat, fR x4198 o 17 = some q4201 ∧ wp_Scn_isWord (fun (r4203 : Int32) (x4202 : St) => ((¬ r4203 = 0 → j_Qry_isOwnWord_192 post o x4202) ∧ (r4203 = 0 → (∃ q4205 : Nat, fR x4202 o 17 = some q4205 ∧ wp_Scn_isWord (fun (r4207 : Int32) (x4206 : St) => ((¬ r4207 = 0 → j_Qry_isOwnWord_192 post o x4206) ∧ (r4207 = 0 → (∃ q4209 : Nat, fR x4206 o 17 = some q4209 ∧ wp_Scn_isWord (fun (r4211 : Int32) (x4210 : St) => ((r4211 = 0 → post 0 x4210) ∧ (¬ r4211 = 0 → j_Qry_isOwnWord_192 post o x4210))) q4209 15 x4206)))) q4205 14 x4202)))) q4201 13 x4198)))) q4197 12 x4194)))) q4193 9 x4190)))) q4189 8 x4186)))) q4185 23 x4182)))) q4181 22 x4178)))) q4177 21 x4174)))) q4173 20 x4170)))) q4169 19 x4166)))) q4165 18 x4162)))) q4161 17 x4158)))) q4157 7 x4154)))) q4153 16 x4150)))) q4149 11 x)
set_option maxHeartbeats 4000000 in
set_option maxRecDepth 100000 in
theorem t_Qry_isOwnWord_e {p : Program} {l : Launch} {e : Env} {R : Room} {s : State} {m : MethodId} {args : Array Value} {below : List Frame} {meth : Method} {c : Code} {cells slots : Nat} {Q : State → Prop} {dC : Nat → ClassId} {dI : Nat → Nat → Nat} {cI cB cJ cZ : ClassId} {A : Nat → Prop} {ad : Nat → Nat} {NN : Nat} {E : Heap} {tM tC : Nat} {kK kV : Nat → Nat} {post : Int32 → St → Prop} (hx : p.tables.exec = Jvm.exec) (hb : c.code = b_Qry_isOwnWord) (hml : c.maxLocals = 1) (hown : s.vm.findClass R_Qry = some m.cls) (hT : ∀ w ∈ TG, w.before args s = true) (hK : va_K (dC, dI) CL (TY cI cB cJ cZ) s) (hN : NW s) (hA : ∀ q : Nat, s.heap.size ≤ q → A q) (hRc : cells ≤ R.cells) (hRs : slots ≤ R.slots) (hRf : 5 ≤ R.frames) (hRl : 222 ≤ R.locals) (hNN : 152 ≤ NN) (hE : CE E tM tC kK kV A s) (hret : ∀ (r : Int32) (x : St) (H : Heap) (locs : List Loc) (pc : Nat) (ls : Array Slot), decode b_Qry_isOwnWord pc = .ok (.ireturn, 1) → narrow .boolean (.int r) = .int r → post r x → Wd dC dI cI cB cJ cZ ad stC kcC NN A x H → va_S A s.heap H locs → W p l e R s m args below meth c H locs cells slots Q (F0 m pc ls [.int r])) : ∀ (o : Nat) (x : St) (H : Heap) (locs : List Loc) (ls : Array Slot), (o < NN ∧ kcC o = 9) → wp_Qry_isOwnWord post o x → Wd dC dI cI cB cJ cZ ad stC kcC NN A x H → va_S A s.heap H locs → lv_has ls 1 [(0, .ref (ad o))] → W p l e R s m args below meth c H locs cells slots Q (F0 m 0 ls []) := by
  intro o x H locs ls fo hw hW hS hl
  unfold wp_Qry_isOwnWord at hw
  refine lv_aload_n hx hb d_Qry_isOwnWord_0 rfl (lv_at hl 0 rfl) ?_
  obtain ⟨q4149, hq4149, hw⟩ := hw
  refine w_getr (q := q4149) (k := 17) (t := 9) (C := R_Qry) (T := F_Qry) (N := 20) hx hb hT hown hK hW fo.1 fo.2 (by decide) in_Qry rfl rfl (by decide) rfl fr_Qry_17 w_3_105 d_Qry_isOwnWord_1 hq4149 (fun aq4149 bq4149 => ?_)
  have fq4149 : q4149 < NN ∧ kcC q4149 = 2 := ⟨aq4149, bq4149⟩
  refine va_ldcS hx hb hown (hE.str 13 (by decide)) d_Qry_isOwnWord_4 ?_
  have hF := hW.free hS hA
  refine va_calli (va_runV (C := R_Scn) (As := [.ref (kK 11)]) (rest := []) ⟨hx, hb, hml, hown, hT⟩ (k_Scn_isWord l dC dI cI cB cJ cZ ad NN E tM tC kK kV hNN H.size q4149 11 x fq4149 (by decide) hw) ⟨callB_of 1 hT (gw_in w_4_155) rfl rfl rfl (hT _ w_1_4) (hT _ w_7_174) (by decide +kernel) ⟨Nat.le_trans (by decide) hRf, Nat.le_trans (by decide) hRl⟩, hT _ w_4_153, hT _ w_4_154⟩ ⟨PV.blind, va_recv hK hW.1 (ci := 2) (q0 := q4149) rfl (pic_obj fq4149.1 fq4149.2 (by decide)), PV.at _ hW hK hN hE hS hF⟩ rfl rfl hl.1 rfl (lv_room (Nat.le_of_ble_eq_true rfl)) d_Qry_isOwnWord_6 ⟨hRc, hRs⟩) hS (fun q _ h => hF q h) hF (fun r4151 x4150 t H locs ht hvm hw hB hz1 hk1 hS => ?_)
  have hW := Wd.back hB ht hF
  clear hB ht hF hz1 hk1 hvm
  refine lv_if_ne (tgt := 192) hx hb d_Qry_isOwnWord_9 (by decide) (fun c4152 => ?_) (fun c4152 => ?_)
  · have hw := hw.1 c4152
    exact t_Qry_isOwnWord_192 hx hb hml hown hT hK hN hA hRc hRs hRf hRl hNN hE hret  o x4150 H locs ls fo hw hW hS (lv_sub hl [0] rfl)
  · have hw := hw.2 c4152
    refine lv_aload_n hx hb d_Qry_isOwnWord_12 rfl (lv_at hl 0 rfl) ?_
    obtain ⟨q4153, hq4153, hw⟩ := hw
    refine w_getr (q := q4153) (k := 17) (t := 9) (C := R_Qry) (T := F_Qry) (N := 20) hx hb hT hown hK hW fo.1 fo.2 (by decide) in_Qry rfl rfl (by decide) rfl fr_Qry_17 w_3_105 d_Qry_isOwnWord_13 hq4153 (fun aq4153 bq4153 => ?_)
    have fq4153 : q4153 < NN ∧ kcC q4153 = 2 := ⟨aq4153, bq4153⟩
    refine va_ldcS hx hb hown (hE.str 18 (by decide)) d_Qry_isOwnWord_16 ?_
    have hF := hW.free hS hA
    refine va_calli (va_runV (C := R_Scn) (As := [.ref (kK 16)]) (rest := []) ⟨hx, hb, hml, hown, hT⟩ (k_Scn_isWord l dC dI cI cB cJ cZ ad NN E tM tC kK kV hNN H.size q4153 16 x4150 fq4153 (by decide) hw) ⟨callB_of 1 hT (gw_in w_4_155) rfl rfl rfl (hT _ w_1_4) (hT _ w_7_174) (by decide +kernel) ⟨Nat.le_trans (by decide) hRf, Nat.le_trans (by decide) hRl⟩, hT _ w_4_153, hT _ w_4_154⟩ ⟨PV.blind, va_recv hK hW.1 (ci := 2) (q0 := q4153) rfl (pic_obj fq4153.1 fq4153.2 (by decide)), PV.at _ hW hK hN hE hS hF⟩ rfl rfl hl.1 rfl (lv_room (Nat.le_of_ble_eq_true rfl)) d_Qry_isOwnWord_18 ⟨hRc, hRs⟩) hS (fun q _ h => hF q h) hF (fun r4155 x4154 t H locs ht hvm hw hB hz1 hk1 hS => ?_)
    have hW := Wd.back hB ht hF
    clear hB ht hF hz1 hk1 hvm
    refine lv_if_ne (tgt := 192) hx hb d_Qry_isOwnWord_21 (by decide) (fun c4156 => ?_) (fun c4156 => ?_)
    · have hw := hw.1 c4156
      exact t_Qry_isOwnWord_192 hx hb hml hown hT hK hN hA hRc hRs hRf hRl hNN hE hret  o x4154 H locs ls fo hw hW hS (lv_sub hl [0] rfl)
    · have hw := hw.2 c4156
      refine lv_aload_n hx hb d_Qry_isOwnWord_24 rfl (lv_at hl 0 rfl) ?_
      obtain ⟨q4157, hq4157, hw⟩ := hw
      refine w_getr (q := q4157) (k := 17) (t := 9) (C := R_Qry) (T := F_Qry) (N := 20) hx hb hT hown hK hW fo.1 fo.2 (by decide) in_Qry rfl rfl (by decide) rfl fr_Qry_17 w_3_105 d_Qry_isOwnWord_25 hq4157 (fun aq4157 bq4157 => ?_)
      have fq4157 : q4157 < NN ∧ kcC q4157 = 2 := ⟨aq4157, bq4157⟩
      refine va_ldcS hx hb hown (hE.str 19 (by decide)) d_Qry_isOwnWord_28 ?_
      have hF := hW.free hS hA
      refine va_calli (va_runV (C := R_Scn) (As := [.ref (kK 7)]) (rest := []) ⟨hx, hb, hml, hown, hT⟩ (k_Scn_isWord l dC dI cI cB cJ cZ ad NN E tM tC kK kV hNN H.size q4157 7 x4154 fq4157 (by decide) hw) ⟨callB_of 1 hT (gw_in w_4_155) rfl rfl rfl (hT _ w_1_4) (hT _ w_7_174) (by decide +kernel) ⟨Nat.le_trans (by decide) hRf, Nat.le_trans (by decide) hRl⟩, hT _ w_4_153, hT _ w_4_154⟩ ⟨PV.blind, va_recv hK hW.1 (ci := 2) (q0 := q4157) rfl (pic_obj fq4157.1 fq4157.2 (by decide)), PV.at _ hW hK hN hE hS hF⟩ rfl rfl hl.1 rfl (lv_room (Nat.le_of_ble_eq_true rfl)) d_Qry_isOwnWord_30 ⟨hRc, hRs⟩) hS (fun q _ h => hF q h) hF (fun r4159 x4158 t H locs ht hvm hw hB hz1 hk1 hS => ?_)
      have hW := Wd.back hB ht hF
      clear hB ht hF hz1 hk1 hvm
      refine lv_if_ne (tgt := 192) hx hb d_Qry_isOwnWord_33 (by decide) (fun c4160 => ?_) (fun c4160 => ?_)
      · have hw := hw.1 c4160
        exact t_Qry_isOwnWord_192 hx hb hml hown hT hK hN hA hRc hRs hRf hRl hNN hE hret  o x4158 H locs ls fo hw hW hS (lv_sub hl [0] rfl)
      · have hw := hw.2 c4160
        refine lv_aload_n hx hb d_Qry_isOwnWord_36 rfl (lv_at hl 0 rfl) ?_
        obtain ⟨q4161, hq4161, hw⟩ := hw
        refine w_getr (q := q4161) (k := 17) (t := 9) (C := R_Qry) (T := F_Qry) (N := 20) hx hb hT hown hK hW fo.1 fo.2 (by decide) in_Qry rfl rfl (by decide) rfl fr_Qry_17 w_3_105 d_Qry_isOwnWord_37 hq4161 (fun aq4161 bq4161 => ?_)
        have fq4161 : q4161 < NN ∧ kcC q4161 = 2 := ⟨aq4161, bq4161⟩
        refine va_ldcS hx hb hown (hE.str 20 (by decide)) d_Qry_isOwnWord_40 ?_
        have hF := hW.free hS hA
        refine va_calli (va_runV (C := R_Scn) (As := [.ref (kK 17)]) (rest := []) ⟨hx, hb, hml, hown, hT⟩ (k_Scn_isWord l dC dI cI cB cJ cZ ad NN E tM tC kK kV hNN H.size q4161 17 x4158 fq4161 (by decide) hw) ⟨callB_of 1 hT (gw_in w_4_155) rfl rfl rfl (hT _ w_1_4) (hT _ w_7_174) (by decide +kernel) ⟨Nat.le_trans (by decide) hRf, Nat.le_trans (by decide) hRl⟩, hT _ w_4_153, hT _ w_4_154⟩ ⟨PV.blind, va_recv hK hW.1 (ci := 2) (q0 := q4161) rfl (pic_obj fq4161.1 fq4161.2 (by decide)), PV.at _ hW hK hN hE hS hF⟩ rfl rfl hl.1 rfl (lv_room (Nat.le_of_ble_eq_true rfl)) d_Qry_isOwnWord_42 ⟨hRc, hRs⟩) hS (fun q _ h => hF q h) hF (fun r4163 x4162 t H locs ht hvm hw hB hz1 hk1 hS => ?_)
        have hW := Wd.back hB ht hF
        clear hB ht hF hz1 hk1 hvm
        refine lv_if_ne (tgt := 192) hx hb d_Qry_isOwnWord_45 (by decide) (fun c4164 => ?_) (fun c4164 => ?_)
        · have hw := hw.1 c4164
          exact t_Qry_isOwnWord_192 hx hb hml hown hT hK hN hA hRc hRs hRf hRl hNN hE hret  o x4162 H locs ls fo hw hW hS (lv_sub hl [0] rfl)
        · have hw := hw.2 c4164
          refine lv_aload_n hx hb d_Qry_isOwnWord_48 rfl (lv_at hl 0 rfl) ?_
          obtain ⟨q4165, hq4165, hw⟩ := hw
          refine w_getr (q := q4165) (k := 17) (t := 9) (C := R_Qry) (T := F_Qry) (N := 20) hx hb hT hown hK hW fo.1 fo.2 (by decide) in_Qry rfl rfl (by decide) rfl fr_Qry_17 w_3_105 d_Qry_isOwnWord_49 hq4165 (fun aq4165 bq4165 => ?_)
          have fq4165 : q4165 < NN ∧ kcC q4165 = 2 := ⟨aq4165, bq4165⟩
          refine va_ldcS hx hb hown (hE.str 21 (by decide)) d_Qry_isOwnWord_52 ?_
          have hF := hW.free hS hA
          refine va_calli (va_runV (C := R_Scn) (As := [.ref (kK 18)]) (rest := []) ⟨hx, hb, hml, hown, hT⟩ (k_Scn_isWord l dC dI cI cB cJ cZ ad NN E tM tC kK kV hNN H.size q4165 18 x4162 fq4165 (by decide) hw) ⟨callB_of 1 hT (gw_in w_4_155) rfl rfl rfl (hT _ w_1_4) (hT _ w_7_174) (by decide +kernel) ⟨Nat.le_trans (by decide) hRf, Nat.le_trans (by decide) hRl⟩, hT _ w_4_153, hT _ w_4_154⟩ ⟨PV.blind, va_recv hK hW.1 (ci := 2) (q0 := q4165) rfl (pic_obj fq4165.1 fq4165.2 (by decide)), PV.at _ hW hK hN hE hS hF⟩ rfl rfl hl.1 rfl (lv_room (Nat.le_of_ble_eq_true rfl)) d_Qry_isOwnWord_54 ⟨hRc, hRs⟩) hS (fun q _ h => hF q h) hF (fun r4167 x4166 t H locs ht hvm hw hB hz1 hk1 hS => ?_)
          have hW := Wd.back hB ht hF
          clear hB ht hF hz1 hk1 hvm
          refine lv_if_ne (tgt := 192) hx hb d_Qry_isOwnWord_57 (by decide) (fun c4168 => ?_) (fun c4168 => ?_)
          · have hw := hw.1 c4168
            exact t_Qry_isOwnWord_192 hx hb hml hown hT hK hN hA hRc hRs hRf hRl hNN hE hret  o x4166 H locs ls fo hw hW hS (lv_sub hl [0] rfl)
          · have hw := hw.2 c4168
            refine lv_aload_n hx hb d_Qry_isOwnWord_60 rfl (lv_at hl 0 rfl) ?_
            obtain ⟨q4169, hq4169, hw⟩ := hw
            refine w_getr (q := q4169) (k := 17) (t := 9) (C := R_Qry) (T := F_Qry) (N := 20) hx hb hT hown hK hW fo.1 fo.2 (by decide) in_Qry rfl rfl (by decide) rfl fr_Qry_17 w_3_105 d_Qry_isOwnWord_61 hq4169 (fun aq4169 bq4169 => ?_)
            have fq4169 : q4169 < NN ∧ kcC q4169 = 2 := ⟨aq4169, bq4169⟩
            refine va_ldcS hx hb hown (hE.str 22 (by decide)) d_Qry_isOwnWord_64 ?_
            have hF := hW.free hS hA
            refine va_calli (va_runV (C := R_Scn) (As := [.ref (kK 19)]) (rest := []) ⟨hx, hb, hml, hown, hT⟩ (k_Scn_isWord l dC dI cI cB cJ cZ ad NN E tM tC kK kV hNN H.size q4169 19 x4166 fq4169 (by decide) hw) ⟨callB_of 1 hT (gw_in w_4_155) rfl rfl rfl (hT _ w_1_4) (hT _ w_7_174) (by decide +kernel) ⟨Nat.le_trans (by decide) hRf, Nat.le_trans (by decide) hRl⟩, hT _ w_4_153, hT _ w_4_154⟩ ⟨PV.blind, va_recv hK hW.1 (ci := 2) (q0 := q4169) rfl (pic_obj fq4169.1 fq4169.2 (by decide)), PV.at _ hW hK hN hE hS hF⟩ rfl rfl hl.1 rfl (lv_room (Nat.le_of_ble_eq_true rfl)) d_Qry_isOwnWord_66 ⟨hRc, hRs⟩) hS (fun q _ h => hF q h) hF (fun r4171 x4170 t H locs ht hvm hw hB hz1 hk1 hS => ?_)
            have hW := Wd.back hB ht hF
            clear hB ht hF hz1 hk1 hvm
            refine lv_if_ne (tgt := 192) hx hb d_Qry_isOwnWord_69 (by decide) (fun c4172 => ?_) (fun c4172 => ?_)
            · have hw := hw.1 c4172
              exact t_Qry_isOwnWord_192 hx hb hml hown hT hK hN hA hRc hRs hRf hRl hNN hE hret  o x4170 H locs ls fo hw hW hS (lv_sub hl [0] rfl)
            · have hw := hw.2 c4172
              refine lv_aload_n hx hb d_Qry_isOwnWord_72 rfl (lv_at hl 0 rfl) ?_
              obtain ⟨q4173, hq4173, hw⟩ := hw
              refine w_getr (q := q4173) (k := 17) (t := 9) (C := R_Qry) (T := F_Qry) (N := 20) hx hb hT hown hK hW fo.1 fo.2 (by decide) in_Qry rfl rfl (by decide) rfl fr_Qry_17 w_3_105 d_Qry_isOwnWord_73 hq4173 (fun aq4173 bq4173 => ?_)
              have fq4173 : q4173 < NN ∧ kcC q4173 = 2 := ⟨aq4173, bq4173⟩
              refine va_ldcS hx hb hown (hE.str 23 (by decide)) d_Qry_isOwnWord_76 ?_
              have hF := hW.free hS hA
              refine va_calli (va_runV (C := R_Scn) (As := [.ref (kK 20)]) (rest := []) ⟨hx, hb, hml, hown, hT⟩ (k_Scn_isWord l dC dI cI cB cJ cZ ad NN E tM tC kK kV hNN H.size q4173 20 x4170 fq4173 (by decide) hw) ⟨callB_of 1 hT (gw_in w_4_155) rfl rfl rfl (hT _ w_1_4) (hT _ w_7_174) (by decide +kernel) ⟨Nat.le_trans (by decide) hRf, Nat.le_trans (by decide) hRl⟩, hT _ w_4_153, hT _ w_4_154⟩ ⟨PV.blind, va_recv hK hW.1 (ci := 2) (q0 := q4173) rfl (pic_obj fq4173.1 fq4173.2 (by decide)), PV.at _ hW hK hN hE hS hF⟩ rfl rfl hl.1 rfl (lv_room (Nat.le_of_ble_eq_true rfl)) d_Qry_isOwnWord_78 ⟨hRc, hRs⟩) hS (fun q _ h => hF q h) hF (fun r4175 x4174 t H locs ht hvm hw hB hz1 hk1 hS => ?_)
              have hW := Wd.back hB ht hF
              clear hB ht hF hz1 hk1 hvm
              refine lv_if_ne (tgt := 192) hx hb d_Qry_isOwnWord_81 (by decide) (fun c4176 => ?_) (fun c4176 => ?_)
              · have hw := hw.1 c4176
                exact t_Qry_isOwnWord_192 hx hb hml hown hT hK hN hA hRc hRs hRf hRl hNN hE hret  o x4174 H locs ls fo hw hW hS (lv_sub hl [0] rfl)
              · have hw := hw.2 c4176
                refine lv_aload_n hx hb d_Qry_isOwnWord_84 rfl (lv_at hl 0 rfl) ?_
                obtain ⟨q4177, hq4177, hw⟩ := hw
                refine w_getr (q := q4177) (k := 17) (t := 9) (C := R_Qry) (T := F_Qry) (N := 20) hx hb hT hown hK hW fo.1 fo.2 (by decide) in_Qry rfl rfl (by decide) rfl fr_Qry_17 w_3_105 d_Qry_isOwnWord_85 hq4177 (fun aq4177 bq4177 => ?_)
                have fq4177 : q4177 < NN ∧ kcC q4177 = 2 := ⟨aq4177, bq4177⟩
                refine va_ldcS hx hb hown (hE.str 24 (by decide)) d_Qry_isOwnWord_88 ?_
                have hF := hW.free hS hA
                refine va_calli (va_runV (C := R_Scn) (As := [.ref (kK 21)]) (rest := []) ⟨hx, hb, hml, hown, hT⟩ (k_Scn_isWord l dC dI cI cB cJ cZ ad NN E tM tC kK kV hNN H.size q4177 21 x4174 fq4177 (by decide) hw) ⟨callB_of 1 hT (gw_in w_4_155) rfl rfl rfl (hT _ w_1_4) (hT _ w_7_174) (by decide +kernel) ⟨Nat.le_trans (by decide) hRf, Nat.le_trans (by decide) hRl⟩, hT _ w_4_153, hT _ w_4_154⟩ ⟨PV.blind, va_recv hK hW.1 (ci := 2) (q0 := q4177) rfl (pic_obj fq4177.1 fq4177.2 (by decide)), PV.at _ hW hK hN hE hS hF⟩ rfl rfl hl.1 rfl (lv_room (Nat.le_of_ble_eq_true rfl)) d_Qry_isOwnWord_90 ⟨hRc, hRs⟩) hS (fun q _ h => hF q h) hF (fun r4179 x4178 t H locs ht hvm hw hB hz1 hk1 hS => ?_)
                have hW := Wd.back hB ht hF
                clear hB ht hF hz1 hk1 hvm
                refine lv_if_ne (tgt := 192) hx hb d_Qry_isOwnWord_93 (by decide) (fun c4180 => ?_) (fun c4180 => ?_)
                · have hw := hw.1 c4180
                  exact t_Qry_isOwnWord_192 hx hb hml hown hT hK hN hA hRc hRs hRf hRl hNN hE hret  o x4178 H locs ls fo hw hW hS (lv_sub hl [0] rfl)
                · have hw := hw.2 c4180
                  refine lv_aload_n hx hb d_Qry_isOwnWord_96 rfl (lv_at hl 0 rfl) ?_
                  obtain ⟨q4181, hq4181, hw⟩ := hw
                  refine w_getr (q := q4181) (k := 17) (t := 9) (C := R_Qry) (T := F_Qry) (N := 20) hx hb hT hown hK hW fo.1 fo.2 (by decide) in_Qry rfl rfl (by decide) rfl fr_Qry_17 w_3_105 d_Qry_isOwnWord_97 hq4181 (fun aq4181 bq4181 => ?_)
                  have fq4181 : q4181 < NN ∧ kcC q4181 = 2 := ⟨aq4181, bq4181⟩
                  refine va_ldcS hx hb hown (hE.str 25 (by decide)) d_Qry_isOwnWord_100 ?_
                  have hF := hW.free hS hA
                  refine va_calli (va_runV (C := R_Scn) (As := [.ref (kK 22)]) (rest := []) ⟨hx, hb, hml, hown, hT⟩ (k_Scn_isWord l dC dI cI cB cJ cZ ad NN E tM tC kK kV hNN H.size q4181 22 x4178 fq4181 (by decide) hw) ⟨callB_of 1 hT (gw_in w_4_155) rfl rfl rfl (hT _ w_1_4) (hT _ w_7_174) (by decide +kernel) ⟨Nat.le_trans (by decide) hRf, Nat.le_trans (by decide) hRl⟩, hT _ w_4_153, hT _ w_4_154⟩ ⟨PV.blind, va_recv hK hW.1 (ci := 2) (q0 := q4181) rfl (pic_obj fq4181.1 fq4181.2 (by decide)), PV.at _ hW hK hN hE hS hF⟩ rfl rfl hl.1 rfl (lv_room (Nat.le_of_ble_eq_true rfl)) d_Qry_isOwnWord_102 ⟨hRc, hRs⟩) hS (fun q _ h => hF q h) hF (fun r4183 x4182 t H locs ht hvm hw hB hz1 hk1 hS => ?_)
                  have hW := Wd.back hB ht hF
                  clear hB ht hF hz1 hk1 hvm
                  refine lv_if_ne (tgt := 192) hx hb d_Qry_isOwnWord_105 (by decide) (fun c4184 => ?_) (fun c4184 => ?_)
                  · have hw := hw.1 c4184
                    exact t_Qry_isOwnWord_192 hx hb hml hown hT hK hN hA hRc hRs hRf hRl hNN hE hret  o x4182 H locs ls fo hw hW hS (lv_sub hl [0] rfl)
                  · have hw := hw.2 c4184
                    refine lv_aload_n hx hb d_Qry_isOwnWord_108 rfl (lv_at hl 0 rfl) ?_
                    obtain ⟨q4185, hq4185, hw⟩ := hw
                    refine w_getr (q := q4185) (k := 17) (t := 9) (C := R_Qry) (T := F_Qry) (N := 20) hx hb hT hown hK hW fo.1 fo.2 (by decide) in_Qry rfl rfl (by decide) rfl fr_Qry_17 w_3_105 d_Qry_isOwnWord_109 hq4185 (fun aq4185 bq4185 => ?_)
                    have fq4185 : q4185 < NN ∧ kcC q4185 = 2 := ⟨aq4185, bq4185⟩
                    refine va_ldcS hx hb hown (hE.str 26 (by decide)) d_Qry_isOwnWord_112 ?_
                    have hF := hW.free hS hA
                    refine va_calli (va_runV (C := R_Scn) (As := [.ref (kK 23)]) (rest := []) ⟨hx, hb, hml, hown, hT⟩ (k_Scn_isWord l dC dI cI cB cJ cZ ad NN E tM tC kK kV hNN H.size q4185 23 x4182 fq4185 (by decide) hw) ⟨callB_of 1 hT (gw_in w_4_155) rfl rfl rfl (hT _ w_1_4) (hT _ w_7_174) (by decide +kernel) ⟨Nat.le_trans (by decide) hRf, Nat.le_trans (by decide) hRl⟩, hT _ w_4_153, hT _ w_4_154⟩ ⟨PV.blind, va_recv hK hW.1 (ci := 2) (q0 := q4185) rfl (pic_obj fq4185.1 fq4185.2 (by decide)), PV.at _ hW hK hN hE hS hF⟩ rfl rfl hl.1 rfl (lv_room (Nat.le_of_ble_eq_true rfl)) d_Qry_isOwnWord_114 ⟨hRc, hRs⟩) hS (fun q _ h => hF q h) hF (fun r4187 x4186 t H locs ht hvm hw hB hz1 hk1 hS => ?_)
                    have hW := Wd.back hB ht hF
                    clear hB ht hF hz1 hk1 hvm
                    refine lv_if_ne (tgt := 192) hx hb d_Qry_isOwnWord_117 (by decide) (fun c4188 => ?_) (fun c4188 => ?_)
                    · have hw := hw.1 c4188
                      exact t_Qry_isOwnWord_192 hx hb hml hown hT hK hN hA hRc hRs hRf hRl hNN hE hret  o x4186 H locs ls fo hw hW hS (lv_sub hl [0] rfl)
                    · have hw := hw.2 c4188
                      refine lv_aload_n hx hb d_Qry_isOwnWord_120 rfl (lv_at hl 0 rfl) ?_
                      obtain ⟨q4189, hq4189, hw⟩ := hw
                      refine w_getr (q := q4189) (k := 17) (t := 9) (C := R_Qry) (T := F_Qry) (N := 20) hx hb hT hown hK hW fo.1 fo.2 (by decide) in_Qry rfl rfl (by decide) rfl fr_Qry_17 w_3_105 d_Qry_isOwnWord_121 hq4189 (fun aq4189 bq4189 => ?_)
                      have fq4189 : q4189 < NN ∧ kcC q4189 = 2 := ⟨aq4189, bq4189⟩
                      refine va_ldcS hx hb hown (hE.str 27 (by decide)) d_Qry_isOwnWord_124 ?_
                      have hF := hW.free hS hA
                      refine va_calli (va_runV (C := R_Scn) (As := [.ref (kK 8)]) (rest := []) ⟨hx, hb, hml, hown, hT⟩ (k_Scn_isWord l dC dI cI cB cJ cZ ad NN E tM tC kK kV hNN H.size q4189 8 x4186 fq4189 (by decide) hw) ⟨callB_of 1 hT (gw_in w_4_155) rfl rfl rfl (hT _ w_1_4) (hT _ w_7_174) (by decide +kernel) ⟨Nat.le_trans (by decide) hRf, Nat.le_trans (by decide) hRl⟩, hT _ w_4_153, hT _ w_4_154⟩ ⟨PV.blind, va_recv hK hW.1 (ci := 2) (q0 := q4189) rfl (pic_obj fq4189.1 fq4189.2 (by decide)), PV.at _ hW hK hN hE hS hF⟩ rfl rfl hl.1 rfl (lv_room (Nat.le_of_ble_eq_true rfl)) d_Qry_isOwnWord_126 ⟨hRc, hRs⟩) hS (fun q _ h => hF q h) hF (fun r4191 x4190 t H locs ht hvm hw hB hz1 hk1 hS => ?_)
                      have hW := Wd.back hB ht hF
                      clear hB ht hF hz1 hk1 hvm
                      refine lv_if_ne (tgt := 192) hx hb d_Qry_isOwnWord_129 (by decide) (fun c4192 => ?_) (fun c4192 => ?_)
                      · have hw := hw.1 c4192
                        exact t_Qry_isOwnWord_192 hx hb hml hown hT hK hN hA hRc hRs hRf hRl hNN hE hret  o x4190 H locs ls fo hw hW hS (lv_sub hl [0] rfl)
                      · have hw := hw.2 c4192
                        refine lv_aload_n hx hb d_Qry_isOwnWord_132 rfl (lv_at hl 0 rfl) ?_
                        obtain ⟨q4193, hq4193, hw⟩ := hw
                        refine w_getr (q := q4193) (k := 17) (t := 9) (C := R_Qry) (T := F_Qry) (N := 20) hx hb hT hown hK hW fo.1 fo.2 (by decide) in_Qry rfl rfl (by decide) rfl fr_Qry_17 w_3_105 d_Qry_isOwnWord_133 hq4193 (fun aq4193 bq4193 => ?_)
                        have fq4193 : q4193 < NN ∧ kcC q4193 = 2 := ⟨aq4193, bq4193⟩
                        refine va_ldcS hx hb hown (hE.str 28 (by decide)) d_Qry_isOwnWord_136 ?_
                        have hF := hW.free hS hA
                        refine va_calli (va_runV (C := R_Scn) (As := [.ref (kK 9)]) (rest := []) ⟨hx, hb, hml, hown, hT⟩ (k_Scn_isWord l dC dI cI cB cJ cZ ad NN E tM tC kK kV hNN H.size q4193 9 x4190 fq4193 (by decide) hw) ⟨callB_of 1 hT (gw_in w_4_155) rfl rfl rfl (hT _ w_1_4) (hT _ w_7_174) (by decide +kernel) ⟨Nat.le_trans (by decide) hRf, Nat.le_trans (by decide) hRl⟩, hT _ w_4_153, hT _ w_4_154⟩ ⟨PV.blind, va_recv hK hW.1 (ci := 2) (q0 := q4193) rfl (pic_obj fq4193.1 fq4193.2 (by decide)), PV.at _ hW hK hN hE hS hF⟩ rfl rfl hl.1 rfl (lv_room (Nat.le_of_ble_eq_true rfl)) d_Qry_isOwnWord_138 ⟨hRc, hRs⟩) hS (fun q _ h => hF q h) hF (fun r4195 x4194 t H locs ht hvm hw hB hz1 hk1 hS => ?_)
                        have hW := Wd.back hB ht hF
                        clear hB ht hF hz1 hk1 hvm
                        refine lv_if_ne (tgt := 192) hx hb d_Qry_isOwnWord_141 (by decide) (fun c4196 => ?_) (fun c4196 => ?_)
                        · have hw := hw.1 c4196
                          exact t_Qry_isOwnWord_192 hx hb hml hown hT hK hN hA hRc hRs hRf hRl hNN hE hret  o x4194 H locs ls fo hw hW hS (lv_sub hl [0] rfl)
                        · have hw := hw.2 c4196
                          refine lv_aload_n hx hb d_Qry_isOwnWord_144 rfl (lv_at hl 0 rfl) ?_
                          obtain ⟨q4197, hq4197, hw⟩ := hw
                          refine w_getr (q := q4197) (k := 17) (t := 9) (C := R_Qry) (T := F_Qry) (N := 20) hx hb hT hown hK hW fo.1 fo.2 (by decide) in_Qry rfl rfl (by decide) rfl fr_Qry_17 w_3_105 d_Qry_isOwnWord_145 hq4197 (fun aq4197 bq4197 => ?_)
                          have fq4197 : q4197 < NN ∧ kcC q4197 = 2 := ⟨aq4197, bq4197⟩
                          refine va_ldcS hx hb hown (hE.str 14 (by decide)) d_Qry_isOwnWord_148 ?_
                          have hF := hW.free hS hA
                          refine va_calli (va_runV (C := R_Scn) (As := [.ref (kK 12)]) (rest := []) ⟨hx, hb, hml, hown, hT⟩ (k_Scn_isWord l dC dI cI cB cJ cZ ad NN E tM tC kK kV hNN H.size q4197 12 x4194 fq4197 (by decide) hw) ⟨callB_of 1 hT (gw_in w_4_155) rfl rfl rfl (hT _ w_1_4) (hT _ w_7_174) (by decide +kernel) ⟨Nat.le_trans (by decide) hRf, Nat.le_trans (by decide) hRl⟩, hT _ w_4_153, hT _ w_4_154⟩ ⟨PV.blind, va_recv hK hW.1 (ci := 2) (q0 := q4197) rfl (pic_obj fq4197.1 fq4197.2 (by decide)), PV.at _ hW hK hN hE hS hF⟩ rfl rfl hl.1 rfl (lv_room (Nat.le_of_ble_eq_true rfl)) d_Qry_isOwnWord_150 ⟨hRc, hRs⟩) hS (fun q _ h => hF q h) hF (fun r4199 x4198 t H locs ht hvm hw hB hz1 hk1 hS => ?_)
                          have hW := Wd.back hB ht hF
                          clear hB ht hF hz1 hk1 hvm
                          refine lv_if_ne (tgt := 192) hx hb d_Qry_isOwnWord_153 (by decide) (fun c4200 => ?_) (fun c4200 => ?_)
                          · have hw := hw.1 c4200
                            exact t_Qry_isOwnWord_192 hx hb hml hown hT hK hN hA hRc hRs hRf hRl hNN hE hret  o x4198 H locs ls fo hw hW hS (lv_sub hl [0] rfl)
                          · have hw := hw.2 c4200
                            refine lv_aload_n hx hb d_Qry_isOwnWord_156 rfl (lv_at hl 0 rfl) ?_
                            obtain ⟨q4201, hq4201, hw⟩ := hw
                            refine w_getr (q := q4201) (k := 17) (t := 9) (C := R_Qry) (T := F_Qry) (N := 20) hx hb hT hown hK hW fo.1 fo.2 (by decide) in_Qry rfl rfl (by decide) rfl fr_Qry_17 w_3_105 d_Qry_isOwnWord_157 hq4201 (fun aq4201 bq4201 => ?_)
                            have fq4201 : q4201 < NN ∧ kcC q4201 = 2 := ⟨aq4201, bq4201⟩
                            refine va_ldcS hx hb hown (hE.str 15 (by decide)) d_Qry_isOwnWord_160 ?_
                            have hF := hW.free hS hA
                            refine va_calli (va_runV (C := R_Scn) (As := [.ref (kK 13)]) (rest := []) ⟨hx, hb, hml, hown, hT⟩ (k_Scn_isWord l dC dI cI cB cJ cZ ad NN E tM tC kK kV hNN H.size q4201 13 x4198 fq4201 (by decide) hw) ⟨callB_of 1 hT (gw_in w_4_155) rfl rfl rfl (hT _ w_1_4) (hT _ w_7_174) (by decide +kernel) ⟨Nat.le_trans (by decide) hRf, Nat.le_trans (by decide) hRl⟩, hT _ w_4_153, hT _ w_4_154⟩ ⟨PV.blind, va_recv hK hW.1 (ci := 2) (q0 := q4201) rfl (pic_obj fq4201.1 fq4201.2 (by decide)), PV.at _ hW hK hN hE hS hF⟩ rfl rfl hl.1 rfl (lv_room (Nat.le_of_ble_eq_true rfl)) d_Qry_isOwnWord_162 ⟨hRc, hRs⟩) hS (fun q _ h => hF q h) hF (fun r4203 x4202 t H locs ht hvm hw hB hz1 hk1 hS => ?_)
                            have hW := Wd.back hB ht hF
                            clear hB ht hF hz1 hk1 hvm
                            refine lv_if_ne (tgt := 192) hx hb d_Qry_isOwnWord_165 (by decide) (fun c4204 => ?_) (fun c4204 => ?_)
                            · have hw := hw.1 c4204
                              exact t_Qry_isOwnWord_192 hx hb hml hown hT hK hN hA hRc hRs hRf hRl hNN hE hret  o x4202 H locs ls fo hw hW hS (lv_sub hl [0] rfl)
                            · have hw := hw.2 c4204
                              refine lv_aload_n hx hb d_Qry_isOwnWord_168 rfl (lv_at hl 0 rfl) ?_
                              obtain ⟨q4205, hq4205, hw⟩ := hw
                              refine w_getr (q := q4205) (k := 17) (t := 9) (C := R_Qry) (T := F_Qry) (N := 20) hx hb hT hown hK hW fo.1 fo.2 (by decide) in_Qry rfl rfl (by decide) rfl fr_Qry_17 w_3_105 d_Qry_isOwnWord_169 hq4205 (fun aq4205 bq4205 => ?_)
                              have fq4205 : q4205 < NN ∧ kcC q4205 = 2 := ⟨aq4205, bq4205⟩
                              refine va_ldcS hx hb hown (hE.str 16 (by decide)) d_Qry_isOwnWord_172 ?_
                              have hF := hW.free hS hA
                              refine va_calli (va_runV (C := R_Scn) (As := [.ref (kK 14)]) (rest := []) ⟨hx, hb, hml, hown, hT⟩ (k_Scn_isWord l dC dI cI cB cJ cZ ad NN E tM tC kK kV hNN H.size q4205 14 x4202 fq4205 (by decide) hw) ⟨callB_of 1 hT (gw_in w_4_155) rfl rfl rfl (hT _ w_1_4) (hT _ w_7_174) (by decide +kernel) ⟨Nat.le_trans (by decide) hRf, Nat.le_trans (by decide) hRl⟩, hT _ w_4_153, hT _ w_4_154⟩ ⟨PV.blind, va_recv hK hW.1 (ci := 2) (q0 := q4205) rfl (pic_obj fq4205.1 fq4205.2 (by decide)), PV.at _ hW hK hN hE hS hF⟩ rfl rfl hl.1 rfl (lv_room (Nat.le_of_ble_eq_true rfl)) d_Qry_isOwnWord_174 ⟨hRc, hRs⟩) hS (fun q _ h => hF q h) hF (fun r4207 x4206 t H locs ht hvm hw hB hz1 hk1 hS => ?_)
                              have hW := Wd.back hB ht hF
                              clear hB ht hF hz1 hk1 hvm
                              refine lv_if_ne (tgt := 192) hx hb d_Qry_isOwnWord_177 (by decide) (fun c4208 => ?_) (fun c4208 => ?_)
                              · have hw := hw.1 c4208
                                exact t_Qry_isOwnWord_192 hx hb hml hown hT hK hN hA hRc hRs hRf hRl hNN hE hret  o x4206 H locs ls fo hw hW hS (lv_sub hl [0] rfl)
                              · have hw := hw.2 c4208
                                refine lv_aload_n hx hb d_Qry_isOwnWord_180 rfl (lv_at hl 0 rfl) ?_
                                obtain ⟨q4209, hq4209, hw⟩ := hw
                                refine w_getr (q := q4209) (k := 17) (t := 9) (C := R_Qry) (T := F_Qry) (N := 20) hx hb hT hown hK hW fo.1 fo.2 (by decide) in_Qry rfl rfl (by decide) rfl fr_Qry_17 w_3_105 d_Qry_isOwnWord_181 hq4209 (fun aq4209 bq4209 => ?_)
                                have fq4209 : q4209 < NN ∧ kcC q4209 = 2 := ⟨aq4209, bq4209⟩
                                refine va_ldcS hx hb hown (hE.str 17 (by decide)) d_Qry_isOwnWord_184 ?_
                                have hF := hW.free hS hA
                                refine va_calli (va_runV (C := R_Scn) (As := [.ref (kK 15)]) (rest := []) ⟨hx, hb, hml, hown, hT⟩ (k_Scn_isWord l dC dI cI cB cJ cZ ad NN E tM tC kK kV hNN H.size q4209 15 x4206 fq4209 (by decide) hw) ⟨callB_of 1 hT (gw_in w_4_155) rfl rfl rfl (hT _ w_1_4) (hT _ w_7_174) (by decide +kernel) ⟨Nat.le_trans (by decide) hRf, Nat.le_trans (by decide) hRl⟩, hT _ w_4_153, hT _ w_4_154⟩ ⟨PV.blind, va_recv hK hW.1 (ci := 2) (q0 := q4209) rfl (pic_obj fq4209.1 fq4209.2 (by decide)), PV.at _ hW hK hN hE hS hF⟩ rfl rfl hl.1 rfl (lv_room (Nat.le_of_ble_eq_true rfl)) d_Qry_isOwnWord_186 ⟨hRc, hRs⟩) hS (fun q _ h => hF q h) hF (fun r4211 x4210 t H locs ht hvm hw hB hz1 hk1 hS => ?_)
                                have hW := Wd.back hB ht hF
                                clear hB ht hF hz1 hk1 hvm
                                refine lv_if_eq (tgt := 196) hx hb d_Qry_isOwnWord_189 (by decide) (fun c4212 => ?_) (fun c4212 => ?_)
                                · have hw := hw.1 c4212
                                  refine lv_iconst (v := 0) hx hb d_Qry_isOwnWord_196 (by decide) ?_
                                  exact hret 0 x4210 H locs 197 ls d_Qry_isOwnWord_197 rfl hw hW hS
                                · have hw := hw.2 c4212
                                  exact t_Qry_isOwnWord_192 hx hb hml hown hT hK hN hA hRc hRs hRf hRl hNN hE hret  o x4210 H locs ls fo hw hW hS (lv_sub hl [0] rfl)
set_option maxHeartbeats 4000000 in
set_option maxRecDepth 100000 in
theorem k_Qry_isOwnWord (l : Launch) (dC : Nat → ClassId) (dI : Nat → Nat → Nat) (cI cB cJ cZ : ClassId) (ad : Nat → Nat) (NN : Nat) (E : Heap) (tM tC : Nat) (kK kV : Nat → Nat) (hNN : 152 ≤ NN) (sz : Nat) (o : Nat) (x : St) (fo : o < NN ∧ kcC o = 9) {post : Int32 → St → Prop} (hw : wp_Qry_isOwnWord post o x) : Met l y_Qry_isOwnWord (wsOf y_Qry_isOwnWord b_Qry_isOwnWord 1 (some (.boolean))) ({ frames := 5, cells := 0, slots := 0, locals := 222 }) (va_Pc [.ref (ad o)] (PV dC dI cI cB cJ cZ ad stC kcC NN E tM tC kK kV sz x)) (va_Qi (fun (r : Int32) (y : St) => post r y) (fun y t => Wd dC dI cI cB cJ cZ ad stC kcC NN (va_A (pic ad stC kcC NN cI cB cJ cZ x) sz) y t.heap) (va_A (pic ad stC kcC NN cI cB cJ cZ x) sz)) 0 0 (va_A (pic ad stC kcC NN cI cB cJ cZ x) sz) := by
  refine Met.ofW (cc := b_Qry_isOwnWord) (maxL := 1) (ret := some (.boolean)) (by decide) rfl ?_
  intro p e s m args below meth c s₁ B hml hv
  obtain ⟨rfl, ⟨hsz, hW0, hK, hN⟩, hE⟩ := hv
  have hx := B.exec
  have hb := B.bytes
  have hr := B.returns
  have hts := atoms_spec B.pre
  have hT : ∀ w ∈ TG, w.before _ s = true := fun w h => hts w (List.mem_cons_of_mem _ h)
  have hown : s.vm.findClass R_Qry = some m.cls := findClass_of_methodNamed B.named
  have hlocks := B.notSynchronized
  subst hsz
  have hW : Wd dC dI cI cB cJ cZ ad stC kcC NN (va_A (pic ad stC kcC NN cI cB cJ cZ x) s.heap.size) x s.heap := ⟨hW0.1, hW0.2.1.self (sz := s.heap.size), hW0.2.2⟩
  generalize hAe : va_A (pic ad stC kcC NN cI cB cJ cZ x) s.heap.size = A at hW hE ⊢
  have hA : ∀ q : Nat, s.heap.size ≤ q → A q := fun q h => by rw [← hAe]; exact Or.inr h
  have hS : va_S A s.heap s.heap [] := va_S.rf
  have hl := lv_entry ([.ref (ad o)]) (n := 1) (Nat.le_of_ble_eq_true rfl)
  rw [lg_entry_eq]
  generalize (lg_sl ([.ref (ad o)]) ++ List.replicate (1 - (lg_sl ([.ref (ad o)])).length) Slot.unset).toArray = ls at hl ⊢
  have hl : lv_has ls 1 [(0, .ref (ad o))] := hl
  exact t_Qry_isOwnWord_e hx hb hml hown hT hK hN hA (Nat.le_refl 0) (Nat.le_refl 0) (Nat.le_refl 5) (Nat.le_refl 222) hNN hE (fun r x H locs pc ls hd hz hp hW hS => W.zret (v := r) (ty := .boolean) hx hb hr hz (fun t ht hM => ⟨⟨r, x, rfl, hp, Wd.back hW ht.symm (fun _ z => z)⟩, hS.F ht⟩) hS.2.2 hd hlocks)  o x _ _ ls fo hw hW hS hl
end
