theorem fr_Ans_0 : F_Ans 0 = (R_Ans, "ready", "Z", false) := rfl
theorem fr_Qry_0 : F_Qry 0 = (R_Qry, "ready", "Z", false) := rfl
theorem fr_Qry_17 : F_Qry 17 = (R_Qry, "scan", "LStripedVault$Scan;", false) := rfl
theorem fr_Vlt_0 : F_Vlt 0 = (R_Vlt, "ready", "Z", false) := rfl
theorem w_1_134 : (Jvm.Cond.fieldLink "StripedVault$Vault" (64 : Nat) "StripedVault$Schema" "columns" "I") ∈ TG := tw_1 134 (by decide +kernel) (by decide +kernel)
theorem w_1_138 : (Jvm.Cond.fieldLink "StripedVault" (148 : Nat) "StripedVault$Schema" "columns" "I") ∈ TG := tw_1 138 (by decide +kernel) (by decide +kernel)
theorem w_1_170 : (Jvm.Cond.fieldLink "StripedVault$Assembler" (118 : Nat) "StripedVault$Schema" "past" "[I") ∈ TG := tw_1 170 (by decide +kernel) (by decide +kernel)
theorem w_1_174 : (Jvm.Cond.fieldLink "StripedVault$Assembler" (124 : Nat) "StripedVault$Schema" "column" "[I") ∈ TG := tw_1 174 (by decide +kernel) (by decide +kernel)
theorem w_2_122 : (Jvm.Cond.fieldLink "StripedVault" (163 : Nat) "StripedVault$Vault" "ready" "Z") ∈ TG := tw_2 122 (by decide +kernel) (by decide +kernel)
theorem w_2_126 : (Jvm.Cond.fieldLink "StripedVault" (183 : Nat) "StripedVault$Vault" "rows" "I") ∈ TG := tw_2 126 (by decide +kernel) (by decide +kernel)
theorem w_2_128 : (Jvm.Cond.fieldLink "StripedVault" (186 : Nat) "StripedVault$Vault" "groups" "I") ∈ TG := tw_2 128 (by decide +kernel) (by decide +kernel)
theorem w_2_131 : (Jvm.Cond.fieldLink "StripedVault" (190 : Nat) "StripedVault$Vault" "pages" "I") ∈ TG := tw_2 131 (by decide +kernel) (by decide +kernel)
theorem w_2_132 : (Jvm.Cond.fieldLink "StripedVault$Vault" (68 : Nat) "StripedVault$Vault" "entries" "I") ∈ TG := tw_2 132 (by decide +kernel) (by decide +kernel)
theorem w_2_135 : (Jvm.Cond.fieldLink "StripedVault$Assembler" (45 : Nat) "StripedVault$Vault" "schema" "LStripedVault$Schema;") ∈ TG := tw_2 135 (by decide +kernel) (by decide +kernel)
theorem w_2_138 : (Jvm.Cond.fieldLink "StripedVault" (189 : Nat) "StripedVault$Vault" "schema" "LStripedVault$Schema;") ∈ TG := tw_2 138 (by decide +kernel) (by decide +kernel)
theorem w_3_105 : (Jvm.Cond.fieldLink "StripedVault$Query" (44 : Nat) "StripedVault$Query" "scan" "LStripedVault$Scan;") ∈ TG := tw_3 105 (by decide +kernel) (by decide +kernel)
theorem w_3_156 : (Jvm.Cond.fieldLink "StripedVault" (168 : Nat) "StripedVault$Answer" "ready" "Z") ∈ TG := tw_3 156 (by decide +kernel) (by decide +kernel)
theorem w_3_20 : (Jvm.Cond.fieldLink "StripedVault" (179 : Nat) "StripedVault$Opener" "where" "[I") ∈ TG := tw_3 20 (by decide +kernel) (by decide +kernel)
theorem w_3_75 : (Jvm.Cond.fieldLink "StripedVault" (167 : Nat) "StripedVault$Query" "ready" "Z") ∈ TG := tw_3 75 (by decide +kernel) (by decide +kernel)
theorem w_6_168 : (Jvm.Cond.methodLink "StripedVault" (176 : Nat) ({ cls := "StripedVault$Opener", name := "lookAtChunks", desc := "()I" } : Jvm.MethodName)) ∈ TG := tw_6 168 (by decide +kernel) (by decide +kernel)
theorem w_6_169 : (Jvm.Cond.instanceMethod ({ cls := "StripedVault$Opener", name := "lookAtChunks", desc := "()I" } : Jvm.MethodName)) ∈ TG := tw_6 169 (by decide +kernel) (by decide +kernel)
theorem w_6_170 : (Jvm.Cond.selects "StripedVault$Opener" ({ cls := "StripedVault$Opener", name := "lookAtChunks", desc := "()I" } : Jvm.MethodName) ({ cls := "StripedVault$Opener", name := "lookAtChunks", desc := "()I" } : Jvm.MethodName)) ∈ TG := tw_6 170 (by decide +kernel) (by decide +kernel)
theorem w_6_171 : (Jvm.Cond.code ({ cls := "StripedVault$Opener", name := "lookAtChunks", desc := "()I" } : Jvm.MethodName) prog_4_method_10_code (7 : Nat) (Option.some Jvm.ClassFile.FieldType.int)) ∈ TG := tw_6 171 (by decide +kernel) (by decide +kernel)
theorem w_6_74 : (Jvm.Cond.methodLink "StripedVault" (169 : Nat) ({ cls := "StripedVault$Opener", name := "lookAtFrame", desc := "([BI)I" } : Jvm.MethodName)) ∈ TG := tw_6 74 (by decide +kernel) (by decide +kernel)
theorem w_6_75 : (Jvm.Cond.instanceMethod ({ cls := "StripedVault$Opener", name := "lookAtFrame", desc := "([BI)I" } : Jvm.MethodName)) ∈ TG := tw_6 75 (by decide +kernel) (by decide +kernel)
theorem w_6_76 : (Jvm.Cond.selects "StripedVault$Opener" ({ cls := "StripedVault$Opener", name := "lookAtFrame", desc := "([BI)I" } : Jvm.MethodName) ({ cls := "StripedVault$Opener", name := "lookAtFrame", desc := "([BI)I" } : Jvm.MethodName)) ∈ TG := tw_6 76 (by decide +kernel) (by decide +kernel)
theorem w_6_77 : (Jvm.Cond.code ({ cls := "StripedVault$Opener", name := "lookAtFrame", desc := "([BI)I" } : Jvm.MethodName) prog_4_method_3_code (7 : Nat) (Option.some Jvm.ClassFile.FieldType.int)) ∈ TG := tw_6 77 (by decide +kernel) (by decide +kernel)
theorem w_6_96 : (Jvm.Cond.methodLink "StripedVault" (173 : Nat) ({ cls := "StripedVault$Opener", name := "lookAtFooter", desc := "()I" } : Jvm.MethodName)) ∈ TG := tw_6 96 (by decide +kernel) (by decide +kernel)
theorem w_6_97 : (Jvm.Cond.instanceMethod ({ cls := "StripedVault$Opener", name := "lookAtFooter", desc := "()I" } : Jvm.MethodName)) ∈ TG := tw_6 97 (by decide +kernel) (by decide +kernel)
theorem w_6_98 : (Jvm.Cond.selects "StripedVault$Opener" ({ cls := "StripedVault$Opener", name := "lookAtFooter", desc := "()I" } : Jvm.MethodName) ({ cls := "StripedVault$Opener", name := "lookAtFooter", desc := "()I" } : Jvm.MethodName)) ∈ TG := tw_6 98 (by decide +kernel) (by decide +kernel)
theorem w_6_99 : (Jvm.Cond.code ({ cls := "StripedVault$Opener", name := "lookAtFooter", desc := "()I" } : Jvm.MethodName) prog_4_method_4_code (14 : Nat) (Option.some Jvm.ClassFile.FieldType.int)) ∈ TG := tw_6 99 (by decide +kernel) (by decide +kernel)
theorem w_7_159 : (Jvm.Cond.methodLink "StripedVault$Query" (92 : Nat) ({ cls := "StripedVault$Scan", name := "takeWord", desc := "(Ljava/lang/String;)Z" } : Jvm.MethodName)) ∈ TG := tw_7 159 (by decide +kernel) (by decide +kernel)
theorem w_7_174 : (Jvm.Cond.methodLink "StripedVault$Query" (193 : Nat) ({ cls := "StripedVault$Scan", name := "isWord", desc := "(Ljava/lang/String;)Z" } : Jvm.MethodName)) ∈ TG := tw_7 174 (by decide +kernel) (by decide +kernel)
theorem w_7_97 : (Jvm.Cond.methodLink "StripedVault$Assembler" (121 : Nat) ({ cls := "StripedVault$Schema", name := "columnsBefore", desc := "(I)I" } : Jvm.MethodName)) ∈ TG := tw_7 97 (by decide +kernel) (by decide +kernel)
theorem d_V_open_83 : decode b_V_open 83 = .ok (.putfield 163, 3) := by decide +kernel
theorem d_V_open_86 : decode b_V_open 86 = .ok (.iload_n 1, 1) := by decide +kernel
theorem d_V_open_87 : decode b_V_open 87 = .ok (.ireturn, 1) := by decide +kernel
theorem d_V_open_70 : decode b_V_open 70 = .ok (.aload_n 0, 1) := by decide +kernel
theorem d_V_open_71 : decode b_V_open 71 = .ok (.getfield 59, 3) := by decide +kernel
theorem d_V_open_74 : decode b_V_open 74 = .ok (.iload_n 1, 1) := by decide +kernel
theorem d_V_open_75 : decode b_V_open 75 = .ok (.ifCond .ne 7, 3) := by decide +kernel
theorem d_V_open_82 : decode b_V_open 82 = .ok (.iconst 0, 1) := by decide +kernel
theorem d_V_open_78 : decode b_V_open 78 = .ok (.iconst 1, 1) := by decide +kernel
theorem d_V_open_79 : decode b_V_open 79 = .ok (.goto 4, 3) := by decide +kernel
theorem d_V_open_58 : decode b_V_open 58 = .ok (.iload_n 1, 1) := by decide +kernel
theorem d_V_open_59 : decode b_V_open 59 = .ok (.ifCond .ne 11, 3) := by decide +kernel
theorem d_V_open_62 : decode b_V_open 62 = .ok (.aload_n 0, 1) := by decide +kernel
theorem d_V_open_63 : decode b_V_open 63 = .ok (.getfield 68, 3) := by decide +kernel
theorem d_V_open_66 : decode b_V_open 66 = .ok (.invokevirtual 176, 3) := by decide +kernel
theorem d_V_open_69 : decode b_V_open 69 = .ok (.istore_n 1, 1) := by decide +kernel
theorem d_V_open_0 : decode b_V_open 0 = .ok (.aload_n 0, 1) := by decide +kernel
theorem d_V_open_1 : decode b_V_open 1 = .ok (.getfield 59, 3) := by decide +kernel
theorem d_V_open_4 : decode b_V_open 4 = .ok (.iconst 0, 1) := by decide +kernel
theorem d_V_open_5 : decode b_V_open 5 = .ok (.putfield 163, 3) := by decide +kernel
theorem d_V_open_8 : decode b_V_open 8 = .ok (.aload_n 0, 1) := by decide +kernel
theorem d_V_open_9 : decode b_V_open 9 = .ok (.getfield 75, 3) := by decide +kernel
theorem d_V_open_12 : decode b_V_open 12 = .ok (.iconst 0, 1) := by decide +kernel
theorem d_V_open_13 : decode b_V_open 13 = .ok (.putfield 167, 3) := by decide +kernel
theorem d_V_open_16 : decode b_V_open 16 = .ok (.aload_n 0, 1) := by decide +kernel
theorem d_V_open_17 : decode b_V_open 17 = .ok (.getfield 85, 3) := by decide +kernel
theorem d_V_open_20 : decode b_V_open 20 = .ok (.iconst 0, 1) := by decide +kernel
theorem d_V_open_21 : decode b_V_open 21 = .ok (.putfield 168, 3) := by decide +kernel
theorem d_V_open_24 : decode b_V_open 24 = .ok (.aload_n 0, 1) := by decide +kernel
theorem d_V_open_25 : decode b_V_open 25 = .ok (.getfield 68, 3) := by decide +kernel
theorem d_V_open_28 : decode b_V_open 28 = .ok (.aload_n 0, 1) := by decide +kernel
theorem d_V_open_29 : decode b_V_open 29 = .ok (.getfield 22, 3) := by decide +kernel
theorem d_V_open_32 : decode b_V_open 32 = .ok (.getfield 116, 3) := by decide +kernel
theorem d_V_open_35 : decode b_V_open 35 = .ok (.aload_n 0, 1) := by decide +kernel
theorem d_V_open_36 : decode b_V_open 36 = .ok (.getfield 22, 3) := by decide +kernel
theorem d_V_open_39 : decode b_V_open 39 = .ok (.getfield 99, 3) := by decide +kernel
theorem d_V_open_42 : decode b_V_open 42 = .ok (.invokevirtual 169, 3) := by decide +kernel
theorem d_V_open_45 : decode b_V_open 45 = .ok (.istore_n 1, 1) := by decide +kernel
theorem d_V_open_46 : decode b_V_open 46 = .ok (.iload_n 1, 1) := by decide +kernel
theorem d_V_open_47 : decode b_V_open 47 = .ok (.ifCond .ne 11, 3) := by decide +kernel
theorem d_V_open_50 : decode b_V_open 50 = .ok (.aload_n 0, 1) := by decide +kernel
theorem d_V_open_51 : decode b_V_open 51 = .ok (.getfield 68, 3) := by decide +kernel
theorem d_V_open_54 : decode b_V_open 54 = .ok (.invokevirtual 173, 3) := by decide +kernel
theorem d_V_open_57 : decode b_V_open 57 = .ok (.istore_n 1, 1) := by decide +kernel
theorem d_V_fault_9 : decode b_V_fault 9 = .ok (.iconst (-1), 1) := by decide +kernel
theorem d_V_fault_10 : decode b_V_fault 10 = .ok (.goto 12, 3) := by decide +kernel
theorem d_V_fault_22 : decode b_V_fault 22 = .ok (.ireturn, 1) := by decide +kernel
theorem d_V_fault_0 : decode b_V_fault 0 = .ok (.iload_n 1, 1) := by decide +kernel
theorem d_V_fault_1 : decode b_V_fault 1 = .ok (.ifCond .lt 8, 3) := by decide +kernel
theorem d_V_fault_4 : decode b_V_fault 4 = .ok (.iload_n 1, 1) := by decide +kernel
theorem d_V_fault_5 : decode b_V_fault 5 = .ok (.iconst 2, 1) := by decide +kernel
theorem d_V_fault_6 : decode b_V_fault 6 = .ok (.if_icmp .le 7, 3) := by decide +kernel
theorem d_V_fault_13 : decode b_V_fault 13 = .ok (.aload_n 0, 1) := by decide +kernel
theorem d_V_fault_14 : decode b_V_fault 14 = .ok (.getfield 68, 3) := by decide +kernel
theorem d_V_fault_17 : decode b_V_fault 17 = .ok (.getfield 179, 3) := by decide +kernel
theorem d_V_fault_20 : decode b_V_fault 20 = .ok (.iload_n 1, 1) := by decide +kernel
theorem d_V_fault_21 : decode b_V_fault 21 = .ok (.iaload, 1) := by decide +kernel
theorem d_V_opened_0 : decode b_V_opened 0 = .ok (.aload_n 0, 1) := by decide +kernel
theorem d_V_opened_1 : decode b_V_opened 1 = .ok (.getfield 59, 3) := by decide +kernel
theorem d_V_opened_4 : decode b_V_opened 4 = .ok (.getfield 163, 3) := by decide +kernel
theorem d_V_opened_7 : decode b_V_opened 7 = .ok (.ifCond .ne 5, 3) := by decide +kernel
theorem d_V_opened_12 : decode b_V_opened 12 = .ok (.iload_n 1, 1) := by decide +kernel
theorem d_V_opened_13 : decode b_V_opened 13 = .ok (.tableswitch 81 0 4 #[35, 43, 51, 62, 73], 35) := by decide +kernel
theorem d_V_opened_48 : decode b_V_opened 48 = .ok (.aload_n 0, 1) := by decide +kernel
theorem d_V_opened_49 : decode b_V_opened 49 = .ok (.getfield 59, 3) := by decide +kernel
theorem d_V_opened_52 : decode b_V_opened 52 = .ok (.getfield 183, 3) := by decide +kernel
theorem d_V_opened_55 : decode b_V_opened 55 = .ok (.ireturn, 1) := by decide +kernel
theorem d_V_opened_56 : decode b_V_opened 56 = .ok (.aload_n 0, 1) := by decide +kernel
theorem d_V_opened_57 : decode b_V_opened 57 = .ok (.getfield 59, 3) := by decide +kernel
theorem d_V_opened_60 : decode b_V_opened 60 = .ok (.getfield 186, 3) := by decide +kernel
theorem d_V_opened_63 : decode b_V_opened 63 = .ok (.ireturn, 1) := by decide +kernel
theorem d_V_opened_64 : decode b_V_opened 64 = .ok (.aload_n 0, 1) := by decide +kernel
theorem d_V_opened_65 : decode b_V_opened 65 = .ok (.getfield 59, 3) := by decide +kernel
theorem d_V_opened_68 : decode b_V_opened 68 = .ok (.getfield 189, 3) := by decide +kernel
theorem d_V_opened_71 : decode b_V_opened 71 = .ok (.getfield 129, 3) := by decide +kernel
theorem d_V_opened_74 : decode b_V_opened 74 = .ok (.ireturn, 1) := by decide +kernel
theorem d_V_opened_75 : decode b_V_opened 75 = .ok (.aload_n 0, 1) := by decide +kernel
theorem d_V_opened_76 : decode b_V_opened 76 = .ok (.getfield 59, 3) := by decide +kernel
theorem d_V_opened_79 : decode b_V_opened 79 = .ok (.getfield 189, 3) := by decide +kernel
theorem d_V_opened_82 : decode b_V_opened 82 = .ok (.getfield 148, 3) := by decide +kernel
theorem d_V_opened_85 : decode b_V_opened 85 = .ok (.ireturn, 1) := by decide +kernel
theorem d_V_opened_86 : decode b_V_opened 86 = .ok (.aload_n 0, 1) := by decide +kernel
theorem d_V_opened_87 : decode b_V_opened 87 = .ok (.getfield 59, 3) := by decide +kernel
theorem d_V_opened_90 : decode b_V_opened 90 = .ok (.getfield 190, 3) := by decide +kernel
theorem d_V_opened_93 : decode b_V_opened 93 = .ok (.ireturn, 1) := by decide +kernel
theorem d_V_opened_94 : decode b_V_opened 94 = .ok (.iconst (-1), 1) := by decide +kernel
theorem d_V_opened_95 : decode b_V_opened 95 = .ok (.ireturn, 1) := by decide +kernel
theorem d_V_opened_10 : decode b_V_opened 10 = .ok (.iconst (-1), 1) := by decide +kernel
theorem d_V_opened_11 : decode b_V_opened 11 = .ok (.ireturn, 1) := by decide +kernel
theorem d_Vlt_entryOf_25 : decode b_Vlt_entryOf 25 = .ok (.aload_n 0, 1) := by decide +kernel
theorem d_Vlt_entryOf_26 : decode b_Vlt_entryOf 26 = .ok (.getfield 68, 3) := by decide +kernel
theorem d_Vlt_entryOf_29 : decode b_Vlt_entryOf 29 = .ok (.goto 9, 3) := by decide +kernel
theorem d_Vlt_entryOf_38 : decode b_Vlt_entryOf 38 = .ok (.ireturn, 1) := by decide +kernel
theorem d_Vlt_entryOf_0 : decode b_Vlt_entryOf 0 = .ok (.iload_n 1, 1) := by decide +kernel
theorem d_Vlt_entryOf_1 : decode b_Vlt_entryOf 1 = .ok (.aload_n 0, 1) := by decide +kernel
theorem d_Vlt_entryOf_2 : decode b_Vlt_entryOf 2 = .ok (.getfield 12, 3) := by decide +kernel
theorem d_Vlt_entryOf_5 : decode b_Vlt_entryOf 5 = .ok (.getfield 64, 3) := by decide +kernel
theorem d_Vlt_entryOf_8 : decode b_Vlt_entryOf 8 = .ok (.imul, 1) := by decide +kernel
theorem d_Vlt_entryOf_9 : decode b_Vlt_entryOf 9 = .ok (.iload_n 2, 1) := by decide +kernel
theorem d_Vlt_entryOf_10 : decode b_Vlt_entryOf 10 = .ok (.iadd, 1) := by decide +kernel
theorem d_Vlt_entryOf_11 : decode b_Vlt_entryOf 11 = .ok (.istore_n 3, 1) := by decide +kernel
theorem d_Vlt_entryOf_12 : decode b_Vlt_entryOf 12 = .ok (.iload_n 3, 1) := by decide +kernel
theorem d_Vlt_entryOf_13 : decode b_Vlt_entryOf 13 = .ok (.ifCond .lt 12, 3) := by decide +kernel
theorem d_Vlt_entryOf_16 : decode b_Vlt_entryOf 16 = .ok (.iload_n 3, 1) := by decide +kernel
theorem d_Vlt_entryOf_17 : decode b_Vlt_entryOf 17 = .ok (.aload_n 0, 1) := by decide +kernel
theorem d_Vlt_entryOf_18 : decode b_Vlt_entryOf 18 = .ok (.getfield 33, 3) := by decide +kernel
theorem d_Vlt_entryOf_21 : decode b_Vlt_entryOf 21 = .ok (.arraylength, 1) := by decide +kernel
theorem d_Vlt_entryOf_22 : decode b_Vlt_entryOf 22 = .ok (.if_icmp .lt 10, 3) := by decide +kernel
theorem d_Vlt_entryOf_32 : decode b_Vlt_entryOf 32 = .ok (.aload_n 0, 1) := by decide +kernel
theorem d_Vlt_entryOf_33 : decode b_Vlt_entryOf 33 = .ok (.getfield 33, 3) := by decide +kernel
theorem d_Vlt_entryOf_36 : decode b_Vlt_entryOf 36 = .ok (.iload_n 3, 1) := by decide +kernel
theorem d_Vlt_entryOf_37 : decode b_Vlt_entryOf 37 = .ok (.iaload, 1) := by decide +kernel
theorem d_Asm_passBy_36 : decode b_Asm_passBy 36 = .ok (.iload_n 3, 1) := by decide +kernel
theorem d_Asm_passBy_37 : decode b_Asm_passBy 37 = .ok (.iload_n 2, 1) := by decide +kernel
theorem d_Asm_passBy_38 : decode b_Asm_passBy 38 = .ok (.if_icmp .ge 19, 3) := by decide +kernel
theorem d_Asm_passBy_57 : decode b_Asm_passBy 57 = .ok (.return_, 1) := by decide +kernel
theorem d_Asm_passBy_41 : decode b_Asm_passBy 41 = .ok (.aload_n 0, 1) := by decide +kernel
theorem d_Asm_passBy_42 : decode b_Asm_passBy 42 = .ok (.getfield 21, 3) := by decide +kernel
theorem d_Asm_passBy_45 : decode b_Asm_passBy 45 = .ok (.iload_n 3, 1) := by decide +kernel
theorem d_Asm_passBy_46 : decode b_Asm_passBy 46 = .ok (.dup2, 1) := by decide +kernel
theorem d_Asm_passBy_47 : decode b_Asm_passBy 47 = .ok (.iaload, 1) := by decide +kernel
theorem d_Asm_passBy_48 : decode b_Asm_passBy 48 = .ok (.iconst 1, 1) := by decide +kernel
theorem d_Asm_passBy_49 : decode b_Asm_passBy 49 = .ok (.iadd, 1) := by decide +kernel
theorem d_Asm_passBy_50 : decode b_Asm_passBy 50 = .ok (.iastore, 1) := by decide +kernel
theorem d_Asm_passBy_51 : decode b_Asm_passBy 51 = .ok (.iinc 3 1, 3) := by decide +kernel
theorem d_Asm_passBy_54 : decode b_Asm_passBy 54 = .ok (.goto (-18), 3) := by decide +kernel
theorem d_Asm_passBy_0 : decode b_Asm_passBy 0 = .ok (.aload_n 0, 1) := by decide +kernel
theorem d_Asm_passBy_1 : decode b_Asm_passBy 1 = .ok (.getfield 28, 3) := by decide +kernel
theorem d_Asm_passBy_4 : decode b_Asm_passBy 4 = .ok (.getfield 45, 3) := by decide +kernel
theorem d_Asm_passBy_7 : decode b_Asm_passBy 7 = .ok (.aload_n 0, 1) := by decide +kernel
theorem d_Asm_passBy_8 : decode b_Asm_passBy 8 = .ok (.getfield 28, 3) := by decide +kernel
theorem d_Asm_passBy_11 : decode b_Asm_passBy 11 = .ok (.getfield 45, 3) := by decide +kernel
theorem d_Asm_passBy_14 : decode b_Asm_passBy 14 = .ok (.getfield 118, 3) := by decide +kernel
theorem d_Asm_passBy_17 : decode b_Asm_passBy 17 = .ok (.iload_n 1, 1) := by decide +kernel
theorem d_Asm_passBy_18 : decode b_Asm_passBy 18 = .ok (.iaload, 1) := by decide +kernel
theorem d_Asm_passBy_19 : decode b_Asm_passBy 19 = .ok (.invokevirtual 121, 3) := by decide +kernel
theorem d_Asm_passBy_22 : decode b_Asm_passBy 22 = .ok (.istore_n 2, 1) := by decide +kernel
theorem d_Asm_passBy_23 : decode b_Asm_passBy 23 = .ok (.aload_n 0, 1) := by decide +kernel
theorem d_Asm_passBy_24 : decode b_Asm_passBy 24 = .ok (.getfield 28, 3) := by decide +kernel
theorem d_Asm_passBy_27 : decode b_Asm_passBy 27 = .ok (.getfield 45, 3) := by decide +kernel
theorem d_Asm_passBy_30 : decode b_Asm_passBy 30 = .ok (.getfield 124, 3) := by decide +kernel
theorem d_Asm_passBy_33 : decode b_Asm_passBy 33 = .ok (.iload_n 1, 1) := by decide +kernel
theorem d_Asm_passBy_34 : decode b_Asm_passBy 34 = .ok (.iaload, 1) := by decide +kernel
theorem d_Asm_passBy_35 : decode b_Asm_passBy 35 = .ok (.istore_n 3, 1) := by decide +kernel
theorem d_Asm_hexDigit_0 : decode b_Asm_hexDigit 0 = .ok (.iload_n 0, 1) := by decide +kernel
theorem d_Asm_hexDigit_1 : decode b_Asm_hexDigit 1 = .ok (.bipush 10, 2) := by decide +kernel
theorem d_Asm_hexDigit_3 : decode b_Asm_hexDigit 3 = .ok (.if_icmp .ge 10, 3) := by decide +kernel
theorem d_Asm_hexDigit_13 : decode b_Asm_hexDigit 13 = .ok (.bipush 97, 2) := by decide +kernel
theorem d_Asm_hexDigit_15 : decode b_Asm_hexDigit 15 = .ok (.iload_n 0, 1) := by decide +kernel
theorem d_Asm_hexDigit_16 : decode b_Asm_hexDigit 16 = .ok (.iadd, 1) := by decide +kernel
theorem d_Asm_hexDigit_17 : decode b_Asm_hexDigit 17 = .ok (.bipush 10, 2) := by decide +kernel
theorem d_Asm_hexDigit_19 : decode b_Asm_hexDigit 19 = .ok (.isub, 1) := by decide +kernel
theorem d_Asm_hexDigit_20 : decode b_Asm_hexDigit 20 = .ok (.ireturn, 1) := by decide +kernel
theorem d_Asm_hexDigit_6 : decode b_Asm_hexDigit 6 = .ok (.bipush 48, 2) := by decide +kernel
theorem d_Asm_hexDigit_8 : decode b_Asm_hexDigit 8 = .ok (.iload_n 0, 1) := by decide +kernel
theorem d_Asm_hexDigit_9 : decode b_Asm_hexDigit 9 = .ok (.iadd, 1) := by decide +kernel
theorem d_Asm_hexDigit_10 : decode b_Asm_hexDigit 10 = .ok (.goto 10, 3) := by decide +kernel
theorem d_Qry_readItemForm_0 : decode b_Qry_readItemForm 0 = .ok (.aload_n 0, 1) := by decide +kernel
theorem d_Qry_readItemForm_1 : decode b_Qry_readItemForm 1 = .ok (.getfield 44, 3) := by decide +kernel
theorem d_Qry_readItemForm_4 : decode b_Qry_readItemForm 4 = .ok (.ldc 157, 2) := by decide +kernel
theorem d_Qry_readItemForm_6 : decode b_Qry_readItemForm 6 = .ok (.invokevirtual 92, 3) := by decide +kernel
theorem d_Qry_readItemForm_9 : decode b_Qry_readItemForm 9 = .ok (.ifCond .eq 5, 3) := by decide +kernel
theorem d_Qry_readItemForm_14 : decode b_Qry_readItemForm 14 = .ok (.aload_n 0, 1) := by decide +kernel
theorem d_Qry_readItemForm_15 : decode b_Qry_readItemForm 15 = .ok (.getfield 44, 3) := by decide +kernel
theorem d_Qry_readItemForm_18 : decode b_Qry_readItemForm 18 = .ok (.ldc 159, 2) := by decide +kernel
theorem d_Qry_readItemForm_20 : decode b_Qry_readItemForm 20 = .ok (.invokevirtual 92, 3) := by decide +kernel
theorem d_Qry_readItemForm_23 : decode b_Qry_readItemForm 23 = .ok (.ifCond .eq 5, 3) := by decide +kernel
theorem d_Qry_readItemForm_28 : decode b_Qry_readItemForm 28 = .ok (.aload_n 0, 1) := by decide +kernel
theorem d_Qry_readItemForm_29 : decode b_Qry_readItemForm 29 = .ok (.getfield 44, 3) := by decide +kernel
theorem d_Qry_readItemForm_32 : decode b_Qry_readItemForm 32 = .ok (.ldc 161, 2) := by decide +kernel
theorem d_Qry_readItemForm_34 : decode b_Qry_readItemForm 34 = .ok (.invokevirtual 92, 3) := by decide +kernel
theorem d_Qry_readItemForm_37 : decode b_Qry_readItemForm 37 = .ok (.ifCond .eq 5, 3) := by decide +kernel
theorem d_Qry_readItemForm_42 : decode b_Qry_readItemForm 42 = .ok (.aload_n 0, 1) := by decide +kernel
theorem d_Qry_readItemForm_43 : decode b_Qry_readItemForm 43 = .ok (.getfield 44, 3) := by decide +kernel
theorem d_Qry_readItemForm_46 : decode b_Qry_readItemForm 46 = .ok (.ldc 163, 2) := by decide +kernel
theorem d_Qry_readItemForm_48 : decode b_Qry_readItemForm 48 = .ok (.invokevirtual 92, 3) := by decide +kernel
theorem d_Qry_readItemForm_51 : decode b_Qry_readItemForm 51 = .ok (.ifCond .eq 7, 3) := by decide +kernel
theorem d_Qry_readItemForm_58 : decode b_Qry_readItemForm 58 = .ok (.iconst 0, 1) := by decide +kernel
theorem d_Qry_readItemForm_59 : decode b_Qry_readItemForm 59 = .ok (.ireturn, 1) := by decide +kernel
theorem d_Qry_readItemForm_54 : decode b_Qry_readItemForm 54 = .ok (.iconst 5, 1) := by decide +kernel
theorem d_Qry_readItemForm_55 : decode b_Qry_readItemForm 55 = .ok (.goto 4, 3) := by decide +kernel
theorem d_Qry_readItemForm_40 : decode b_Qry_readItemForm 40 = .ok (.iconst 4, 1) := by decide +kernel
theorem d_Qry_readItemForm_41 : decode b_Qry_readItemForm 41 = .ok (.ireturn, 1) := by decide +kernel
theorem d_Qry_readItemForm_26 : decode b_Qry_readItemForm 26 = .ok (.iconst 3, 1) := by decide +kernel
theorem d_Qry_readItemForm_27 : decode b_Qry_readItemForm 27 = .ok (.ireturn, 1) := by decide +kernel
theorem d_Qry_readItemForm_12 : decode b_Qry_readItemForm 12 = .ok (.iconst 2, 1) := by decide +kernel
theorem d_Qry_readItemForm_13 : decode b_Qry_readItemForm 13 = .ok (.ireturn, 1) := by decide +kernel
theorem d_Qry_isOwnWord_192 : decode b_Qry_isOwnWord 192 = .ok (.iconst 1, 1) := by decide +kernel
theorem d_Qry_isOwnWord_193 : decode b_Qry_isOwnWord 193 = .ok (.goto 4, 3) := by decide +kernel
theorem d_Qry_isOwnWord_197 : decode b_Qry_isOwnWord 197 = .ok (.ireturn, 1) := by decide +kernel
theorem d_Qry_isOwnWord_0 : decode b_Qry_isOwnWord 0 = .ok (.aload_n 0, 1) := by decide +kernel
theorem d_Qry_isOwnWord_1 : decode b_Qry_isOwnWord 1 = .ok (.getfield 44, 3) := by decide +kernel
theorem d_Qry_isOwnWord_4 : decode b_Qry_isOwnWord 4 = .ok (.ldc 75, 2) := by decide +kernel
theorem d_Qry_isOwnWord_6 : decode b_Qry_isOwnWord 6 = .ok (.invokevirtual 193, 3) := by decide +kernel
theorem d_Qry_isOwnWord_9 : decode b_Qry_isOwnWord 9 = .ok (.ifCond .ne 183, 3) := by decide +kernel
theorem d_Qry_isOwnWord_12 : decode b_Qry_isOwnWord 12 = .ok (.aload_n 0, 1) := by decide +kernel
theorem d_Qry_isOwnWord_13 : decode b_Qry_isOwnWord 13 = .ok (.getfield 44, 3) := by decide +kernel
theorem d_Qry_isOwnWord_16 : decode b_Qry_isOwnWord 16 = .ok (.ldc 90, 2) := by decide +kernel
theorem d_Qry_isOwnWord_18 : decode b_Qry_isOwnWord 18 = .ok (.invokevirtual 193, 3) := by decide +kernel
theorem d_Qry_isOwnWord_21 : decode b_Qry_isOwnWord 21 = .ok (.ifCond .ne 171, 3) := by decide +kernel
theorem d_Qry_isOwnWord_24 : decode b_Qry_isOwnWord 24 = .ok (.aload_n 0, 1) := by decide +kernel
theorem d_Qry_isOwnWord_25 : decode b_Qry_isOwnWord 25 = .ok (.getfield 44, 3) := by decide +kernel
theorem d_Qry_isOwnWord_28 : decode b_Qry_isOwnWord 28 = .ok (.ldc 100, 2) := by decide +kernel
theorem d_Qry_isOwnWord_30 : decode b_Qry_isOwnWord 30 = .ok (.invokevirtual 193, 3) := by decide +kernel
theorem d_Qry_isOwnWord_33 : decode b_Qry_isOwnWord 33 = .ok (.ifCond .ne 159, 3) := by decide +kernel
theorem d_Qry_isOwnWord_36 : decode b_Qry_isOwnWord 36 = .ok (.aload_n 0, 1) := by decide +kernel
theorem d_Qry_isOwnWord_37 : decode b_Qry_isOwnWord 37 = .ok (.getfield 44, 3) := by decide +kernel
theorem d_Qry_isOwnWord_40 : decode b_Qry_isOwnWord 40 = .ok (.ldc 102, 2) := by decide +kernel
theorem d_Qry_isOwnWord_42 : decode b_Qry_isOwnWord 42 = .ok (.invokevirtual 193, 3) := by decide +kernel
theorem d_Qry_isOwnWord_45 : decode b_Qry_isOwnWord 45 = .ok (.ifCond .ne 147, 3) := by decide +kernel
theorem d_Qry_isOwnWord_48 : decode b_Qry_isOwnWord 48 = .ok (.aload_n 0, 1) := by decide +kernel
theorem d_Qry_isOwnWord_49 : decode b_Qry_isOwnWord 49 = .ok (.getfield 44, 3) := by decide +kernel
theorem d_Qry_isOwnWord_52 : decode b_Qry_isOwnWord 52 = .ok (.ldc 196, 2) := by decide +kernel
theorem d_Qry_isOwnWord_54 : decode b_Qry_isOwnWord 54 = .ok (.invokevirtual 193, 3) := by decide +kernel
theorem d_Qry_isOwnWord_57 : decode b_Qry_isOwnWord 57 = .ok (.ifCond .ne 135, 3) := by decide +kernel
theorem d_Qry_isOwnWord_60 : decode b_Qry_isOwnWord 60 = .ok (.aload_n 0, 1) := by decide +kernel
theorem d_Qry_isOwnWord_61 : decode b_Qry_isOwnWord 61 = .ok (.getfield 44, 3) := by decide +kernel
theorem d_Qry_isOwnWord_64 : decode b_Qry_isOwnWord 64 = .ok (.ldc 198, 2) := by decide +kernel
theorem d_Qry_isOwnWord_66 : decode b_Qry_isOwnWord 66 = .ok (.invokevirtual 193, 3) := by decide +kernel
theorem d_Qry_isOwnWord_69 : decode b_Qry_isOwnWord 69 = .ok (.ifCond .ne 123, 3) := by decide +kernel
theorem d_Qry_isOwnWord_72 : decode b_Qry_isOwnWord 72 = .ok (.aload_n 0, 1) := by decide +kernel
theorem d_Qry_isOwnWord_73 : decode b_Qry_isOwnWord 73 = .ok (.getfield 44, 3) := by decide +kernel
theorem d_Qry_isOwnWord_76 : decode b_Qry_isOwnWord 76 = .ok (.ldc 200, 2) := by decide +kernel
theorem d_Qry_isOwnWord_78 : decode b_Qry_isOwnWord 78 = .ok (.invokevirtual 193, 3) := by decide +kernel
theorem d_Qry_isOwnWord_81 : decode b_Qry_isOwnWord 81 = .ok (.ifCond .ne 111, 3) := by decide +kernel
theorem d_Qry_isOwnWord_84 : decode b_Qry_isOwnWord 84 = .ok (.aload_n 0, 1) := by decide +kernel
theorem d_Qry_isOwnWord_85 : decode b_Qry_isOwnWord 85 = .ok (.getfield 44, 3) := by decide +kernel
theorem d_Qry_isOwnWord_88 : decode b_Qry_isOwnWord 88 = .ok (.ldc 202, 2) := by decide +kernel
theorem d_Qry_isOwnWord_90 : decode b_Qry_isOwnWord 90 = .ok (.invokevirtual 193, 3) := by decide +kernel
theorem d_Qry_isOwnWord_93 : decode b_Qry_isOwnWord 93 = .ok (.ifCond .ne 99, 3) := by decide +kernel
theorem d_Qry_isOwnWord_96 : decode b_Qry_isOwnWord 96 = .ok (.aload_n 0, 1) := by decide +kernel
theorem d_Qry_isOwnWord_97 : decode b_Qry_isOwnWord 97 = .ok (.getfield 44, 3) := by decide +kernel
theorem d_Qry_isOwnWord_100 : decode b_Qry_isOwnWord 100 = .ok (.ldc 204, 2) := by decide +kernel
theorem d_Qry_isOwnWord_102 : decode b_Qry_isOwnWord 102 = .ok (.invokevirtual 193, 3) := by decide +kernel
theorem d_Qry_isOwnWord_105 : decode b_Qry_isOwnWord 105 = .ok (.ifCond .ne 87, 3) := by decide +kernel
theorem d_Qry_isOwnWord_108 : decode b_Qry_isOwnWord 108 = .ok (.aload_n 0, 1) := by decide +kernel
theorem d_Qry_isOwnWord_109 : decode b_Qry_isOwnWord 109 = .ok (.getfield 44, 3) := by decide +kernel
theorem d_Qry_isOwnWord_112 : decode b_Qry_isOwnWord 112 = .ok (.ldc 206, 2) := by decide +kernel
theorem d_Qry_isOwnWord_114 : decode b_Qry_isOwnWord 114 = .ok (.invokevirtual 193, 3) := by decide +kernel
theorem d_Qry_isOwnWord_117 : decode b_Qry_isOwnWord 117 = .ok (.ifCond .ne 75, 3) := by decide +kernel
theorem d_Qry_isOwnWord_120 : decode b_Qry_isOwnWord 120 = .ok (.aload_n 0, 1) := by decide +kernel
theorem d_Qry_isOwnWord_121 : decode b_Qry_isOwnWord 121 = .ok (.getfield 44, 3) := by decide +kernel
theorem d_Qry_isOwnWord_124 : decode b_Qry_isOwnWord 124 = .ok (.ldc 208, 2) := by decide +kernel
theorem d_Qry_isOwnWord_126 : decode b_Qry_isOwnWord 126 = .ok (.invokevirtual 193, 3) := by decide +kernel
theorem d_Qry_isOwnWord_129 : decode b_Qry_isOwnWord 129 = .ok (.ifCond .ne 63, 3) := by decide +kernel
theorem d_Qry_isOwnWord_132 : decode b_Qry_isOwnWord 132 = .ok (.aload_n 0, 1) := by decide +kernel
theorem d_Qry_isOwnWord_133 : decode b_Qry_isOwnWord 133 = .ok (.getfield 44, 3) := by decide +kernel
theorem d_Qry_isOwnWord_136 : decode b_Qry_isOwnWord 136 = .ok (.ldc 210, 2) := by decide +kernel
theorem d_Qry_isOwnWord_138 : decode b_Qry_isOwnWord 138 = .ok (.invokevirtual 193, 3) := by decide +kernel
theorem d_Qry_isOwnWord_141 : decode b_Qry_isOwnWord 141 = .ok (.ifCond .ne 51, 3) := by decide +kernel
theorem d_Qry_isOwnWord_144 : decode b_Qry_isOwnWord 144 = .ok (.aload_n 0, 1) := by decide +kernel
theorem d_Qry_isOwnWord_145 : decode b_Qry_isOwnWord 145 = .ok (.getfield 44, 3) := by decide +kernel
theorem d_Qry_isOwnWord_148 : decode b_Qry_isOwnWord 148 = .ok (.ldc 157, 2) := by decide +kernel
theorem d_Qry_isOwnWord_150 : decode b_Qry_isOwnWord 150 = .ok (.invokevirtual 193, 3) := by decide +kernel
theorem d_Qry_isOwnWord_153 : decode b_Qry_isOwnWord 153 = .ok (.ifCond .ne 39, 3) := by decide +kernel
theorem d_Qry_isOwnWord_156 : decode b_Qry_isOwnWord 156 = .ok (.aload_n 0, 1) := by decide +kernel
theorem d_Qry_isOwnWord_157 : decode b_Qry_isOwnWord 157 = .ok (.getfield 44, 3) := by decide +kernel
theorem d_Qry_isOwnWord_160 : decode b_Qry_isOwnWord 160 = .ok (.ldc 159, 2) := by decide +kernel
theorem d_Qry_isOwnWord_162 : decode b_Qry_isOwnWord 162 = .ok (.invokevirtual 193, 3) := by decide +kernel
theorem d_Qry_isOwnWord_165 : decode b_Qry_isOwnWord 165 = .ok (.ifCond .ne 27, 3) := by decide +kernel
theorem d_Qry_isOwnWord_168 : decode b_Qry_isOwnWord 168 = .ok (.aload_n 0, 1) := by decide +kernel
theorem d_Qry_isOwnWord_169 : decode b_Qry_isOwnWord 169 = .ok (.getfield 44, 3) := by decide +kernel
theorem d_Qry_isOwnWord_172 : decode b_Qry_isOwnWord 172 = .ok (.ldc 161, 2) := by decide +kernel
theorem d_Qry_isOwnWord_174 : decode b_Qry_isOwnWord 174 = .ok (.invokevirtual 193, 3) := by decide +kernel
theorem d_Qry_isOwnWord_177 : decode b_Qry_isOwnWord 177 = .ok (.ifCond .ne 15, 3) := by decide +kernel
theorem d_Qry_isOwnWord_180 : decode b_Qry_isOwnWord 180 = .ok (.aload_n 0, 1) := by decide +kernel
theorem d_Qry_isOwnWord_181 : decode b_Qry_isOwnWord 181 = .ok (.getfield 44, 3) := by decide +kernel
theorem d_Qry_isOwnWord_184 : decode b_Qry_isOwnWord 184 = .ok (.ldc 163, 2) := by decide +kernel
theorem d_Qry_isOwnWord_186 : decode b_Qry_isOwnWord 186 = .ok (.invokevirtual 193, 3) := by decide +kernel
theorem d_Qry_isOwnWord_189 : decode b_Qry_isOwnWord 189 = .ok (.ifCond .eq 7, 3) := by decide +kernel
theorem d_Qry_isOwnWord_196 : decode b_Qry_isOwnWord 196 = .ok (.iconst 0, 1) := by decide +kernel
section
variable (l : Launch) (dC : Nat → ClassId) (dI : Nat → Nat → Nat) (cI cB cJ cZ : ClassId)
set_option maxRecDepth 100000 in
set_option maxHeartbeats 4000000 in
set_option maxRecDepth 100000 in
theorem t_V_open_83 {p : Program} {l : Launch} {e : Env} {R : Room} {s : State} {m : MethodId} {args : Array Value} {below : List Frame} {meth : Method} {c : Code} {cells slots : Nat} {Q : State → Prop} {dC : Nat → ClassId} {dI : Nat → Nat → Nat} {cI cB cJ cZ : ClassId} {A : Nat → Prop} {ad : Nat → Nat} {NN : Nat} {E : Heap} {tM tC : Nat} {kK kV : Nat → Nat} {post : Int32 → St → Prop} (hx : p.tables.exec = Jvm.exec) (hb : c.code = b_V_open) (hml : c.maxLocals = 2) (hown : s.vm.findClass R_V = some m.cls) (hT : ∀ w ∈ TG, w.before args s = true) (hK : va_K (dC, dI) CL (TY cI cB cJ cZ) s) (hN : NW s) (hA : ∀ q : Nat, s.heap.size ≤ q → A q) (hRc : cells ≤ R.cells) (hRs : slots ≤ R.slots) (hRf : 8 ≤ R.frames) (hRl : 275 ≤ R.locals) (hNN : 152 ≤ NN) (hE : CE E tM tC kK kV A s) (hret : ∀ (r : Int32) (x : St) (H : Heap) (locs : List Loc) (pc : Nat) (ls : Array Slot), decode b_V_open pc = .ok (.ireturn, 1) → post r x → Wd dC dI cI cB cJ cZ ad stC kcC NN A x H → va_S A s.heap H locs → W p l e R s m args below meth c H locs cells slots Q (F0 m pc ls [.int r]))  : ∀ (o : Nat) (l1 : Int32) (s0 : Int32) (s1 : Nat) (x : St) (H : Heap) (locs : List Loc) (ls : Array Slot), (o < NN ∧ kcC o = 0) → (s1 < NN ∧ kcC s1 = 6) → j_V_open_83 post o l1 s0 s1 x → Wd dC dI cI cB cJ cZ ad stC kcC NN A x H → va_S A s.heap H locs → lv_has ls 2 [(0, .ref (ad o)), (1, .int l1)] → W p l e R s m args below meth c H locs cells slots Q (F0 m 83 ls [.int s0, .ref (ad s1)]) := by
  intro o l1 s0 s1 x H locs ls fo fs1 hw hW hS hl
  unfold j_V_open_83 at hw
  obtain ⟨hz, hz2, hw⟩ := hw
  refine w_puti (ty := .boolean) (k := 0) (t := 6) (C := R_Vlt) (T := F_Vlt) (N := 20) hx hb hT hown hK hW hS fs1.1 fs1.2 (by decide) in_Vlt t_Vlt t_Vlt_ok n_Vlt rfl rfl (by decide) rfl fr_Vlt_0 w_2_122 (by decide +kernel) hz hz2 d_V_open_83 (fun H locs hW hS => ?_)
  obtain ⟨x1, ex1⟩ : ∃ y : St, y = setI x s1 0 s0 := ⟨_, rfl⟩
  rw [← ex1] at hW
  have hw := hw x1 ex1
  refine lv_iload_n hx hb d_V_open_86 rfl (lv_at hl 1 rfl) ?_
  exact hret l1 x1 H locs 87 ls d_V_open_87 hw hW hS
set_option maxRecDepth 100000 in
set_option maxHeartbeats 4000000 in
set_option maxRecDepth 100000 in
theorem t_V_open_70 {p : Program} {l : Launch} {e : Env} {R : Room} {s : State} {m : MethodId} {args : Array Value} {below : List Frame} {meth : Method} {c : Code} {cells slots : Nat} {Q : State → Prop} {dC : Nat → ClassId} {dI : Nat → Nat → Nat} {cI cB cJ cZ : ClassId} {A : Nat → Prop} {ad : Nat → Nat} {NN : Nat} {E : Heap} {tM tC : Nat} {kK kV : Nat → Nat} {post : Int32 → St → Prop} (hx : p.tables.exec = Jvm.exec) (hb : c.code = b_V_open) (hml : c.maxLocals = 2) (hown : s.vm.findClass R_V = some m.cls) (hT : ∀ w ∈ TG, w.before args s = true) (hK : va_K (dC, dI) CL (TY cI cB cJ cZ) s) (hN : NW s) (hA : ∀ q : Nat, s.heap.size ≤ q → A q) (hRc : cells ≤ R.cells) (hRs : slots ≤ R.slots) (hRf : 8 ≤ R.frames) (hRl : 275 ≤ R.locals) (hNN : 152 ≤ NN) (hE : CE E tM tC kK kV A s) (hret : ∀ (r : Int32) (x : St) (H : Heap) (locs : List Loc) (pc : Nat) (ls : Array Slot), decode b_V_open pc = .ok (.ireturn, 1) → post r x → Wd dC dI cI cB cJ cZ ad stC kcC NN A x H → va_S A s.heap H locs → W p l e R s m args below meth c H locs cells slots Q (F0 m pc ls [.int r]))  : ∀ (o : Nat) (l1 : Int32) (x : St) (H : Heap) (locs : List Loc) (ls : Array Slot), (o < NN ∧ kcC o = 0) → j_V_open_70 post o l1 x → Wd dC dI cI cB cJ cZ ad stC kcC NN A x H → va_S A s.heap H locs → lv_has ls 2 [(0, .ref (ad o)), (1, .int l1)] → W p l e R s m args below meth c H locs cells slots Q (F0 m 70 ls []) := by
  intro o l1 x H locs ls fo hw hW hS hl
  unfold j_V_open_70 at hw
  refine lv_aload_n hx hb d_V_open_70 rfl (lv_at hl 0 rfl) ?_
  refine w_getf (q := (stC o 8)) (k := 8) (t := 0) (C := R_V) (T := F_V) (N := 15) hx hb hT hown hK hW fo.1 fo.2 (by decide) in_V rfl rfl (by decide) rfl fr_V_8 w_4_3 d_V_open_71 rfl ?_
  refine lv_iload_n hx hb d_V_open_74 rfl (lv_at hl 1 rfl) ?_
  refine lv_if_ne (tgt := 82) hx hb d_V_open_75 (by decide) (fun c2 => ?_) (fun c2 => ?_)
  · have hw := hw.1 c2
    refine lv_iconst (v := 0) hx hb d_V_open_82 (by decide) ?_
    exact t_V_open_83 hx hb hml hown hT hK hN hA hRc hRs hRf hRl hNN hE hret  o l1 0 (stC o 8) x H locs ls fo (st_ty hNN fo.1 fo.2 rfl) hw hW hS (lv_sub hl [0, 1] rfl)
  · have hw := hw.2 c2
    refine lv_iconst (v := 1) hx hb d_V_open_78 (by decide) ?_
    refine lv_goto (tgt := 83) hx hb d_V_open_79 (by decide) ?_
    exact t_V_open_83 hx hb hml hown hT hK hN hA hRc hRs hRf hRl hNN hE hret  o l1 1 (stC o 8) x H locs ls fo (st_ty hNN fo.1 fo.2 rfl) hw hW hS (lv_sub hl [0, 1] rfl)
set_option maxRecDepth 100000 in
set_option maxHeartbeats 4000000 in
set_option maxRecDepth 100000 in
theorem t_V_open_58 {p : Program} {l : Launch} {e : Env} {R : Room} {s : State} {m : MethodId} {args : Array Value} {below : List Frame} {meth : Method} {c : Code} {cells slots : Nat} {Q : State → Prop} {dC : Nat → ClassId} {dI : Nat → Nat → Nat} {cI cB cJ cZ : ClassId} {A : Nat → Prop} {ad : Nat → Nat} {NN : Nat} {E : Heap} {tM tC : Nat} {kK kV : Nat → Nat} {post : Int32 → St → Prop} (hx : p.tables.exec = Jvm.exec) (hb : c.code = b_V_open) (hml : c.maxLocals = 2) (hown : s.vm.findClass R_V = some m.cls) (hT : ∀ w ∈ TG, w.before args s = true) (hK : va_K (dC, dI) CL (TY cI cB cJ cZ) s) (hN : NW s) (hA : ∀ q : Nat, s.heap.size ≤ q → A q) (hRc : cells ≤ R.cells) (hRs : slots ≤ R.slots) (hRf : 8 ≤ R.frames) (hRl : 275 ≤ R.locals) (hNN : 152 ≤ NN) (hE : CE E tM tC kK kV A s) (hret : ∀ (r : Int32) (x : St) (H : Heap) (locs : List Loc) (pc : Nat) (ls : Array Slot), decode b_V_open pc = .ok (.ireturn, 1) → post r x → Wd dC dI cI cB cJ cZ ad stC kcC NN A x H → va_S A s.heap H locs → W p l e R s m args below meth c H locs cells slots Q (F0 m pc ls [.int r]))  : ∀ (o : Nat) (l1 : Int32) (x : St) (H : Heap) (locs : List Loc) (ls : Array Slot), (o < NN ∧ kcC o = 0) → j_V_open_58 post o l1 x → Wd dC dI cI cB cJ cZ ad stC kcC NN A x H → va_S A s.heap H locs → lv_has ls 2 [(0, .ref (ad o)), (1, .int l1)] → W p l e R s m args below meth c H locs cells slots Q (F0 m 58 ls []) := by
  intro o l1 x H locs ls fo hw hW hS hl
  unfold j_V_open_58 at hw
  refine lv_iload_n hx hb d_V_open_58 rfl (lv_at hl 1 rfl) ?_
  refine lv_if_ne (tgt := 70) hx hb d_V_open_59 (by decide) (fun c3 => ?_) (fun c3 => ?_)
  · have hw := hw.1 c3
    exact t_V_open_70 hx hb hml hown hT hK hN hA hRc hRs hRf hRl hNN hE hret  o l1 x H locs ls fo hw hW hS (lv_sub hl [0, 1] rfl)
  · have hw := hw.2 c3
    refine lv_aload_n hx hb d_V_open_62 rfl (lv_at hl 0 rfl) ?_
    refine w_getf (q := (stC o 9)) (k := 9) (t := 0) (C := R_V) (T := F_V) (N := 15) hx hb hT hown hK hW fo.1 fo.2 (by decide) in_V rfl rfl (by decide) rfl fr_V_9 w_4_4 d_V_open_63 rfl ?_
    have hF := hW.free hS hA
    refine va_calli (va_runV (C := R_Opn) (As := []) (rest := []) ⟨hx, hb, hml, hown, hT⟩ (k_Opn_lookAtChunks l dC dI cI cB cJ cZ ad NN E tM tC kK kV hNN H.size (stC o 9) x (st_ty hNN fo.1 fo.2 rfl) hw) ⟨callB_of 0 hT (gwt_in w_6_171) rfl rfl rfl (hT _ w_1_10) (hT _ w_6_168) (by decide +kernel) ⟨Nat.le_trans (Nat.le_of_ble_eq_true rfl) hRf, Nat.le_trans (Nat.le_of_ble_eq_true rfl) hRl⟩, hT _ w_6_169, hT _ w_6_170⟩ ⟨PVc.blind, va_recv hK hW.1 (ci := 7) (q0 := (stC o 9)) rfl (pic_obj (st_ty hNN fo.1 fo.2 rfl).1 (st_ty hNN fo.1 fo.2 rfl).2 (by decide)), PVc.at _ hW hK hN hE hS hF⟩ rfl rfl hl.1 rfl (lv_room (Nat.le_of_ble_eq_true rfl)) d_V_open_66 ⟨hRc, hRs⟩) hS (fun q _ h => hF q h) hF (fun r5 x4 t H locs ht hvm hw hB hz1 hk1 hS => ?_)
    have hW := Wd.back hB ht hF
    clear hB ht hF hz1 hk1 hvm
    refine lv_istore_n (lv' := [(1, .int r5), (0, .ref (ad o))]) hx hb d_V_open_69 rfl hl (by decide) rfl (fun ls hl => ?_)
    exact t_V_open_70 hx hb hml hown hT hK hN hA hRc hRs hRf hRl hNN hE hret  o r5 x4 H locs ls fo hw hW hS (lv_sub hl [1, 0] rfl)
set_option maxRecDepth 100000 in
set_option maxHeartbeats 4000000 in
set_option maxRecDepth 100000 in
theorem t_V_open_e {p : Program} {l : Launch} {e : Env} {R : Room} {s : State} {m : MethodId} {args : Array Value} {below : List Frame} {meth : Method} {c : Code} {cells slots : Nat} {Q : State → Prop} {dC : Nat → ClassId} {dI : Nat → Nat → Nat} {cI cB cJ cZ : ClassId} {A : Nat → Prop} {ad : Nat → Nat} {NN : Nat} {E : Heap} {tM tC : Nat} {kK kV : Nat → Nat} {post : Int32 → St → Prop} (hx : p.tables.exec = Jvm.exec) (hb : c.code = b_V_open) (hml : c.maxLocals = 2) (hown : s.vm.findClass R_V = some m.cls) (hT : ∀ w ∈ TG, w.before args s = true) (hK : va_K (dC, dI) CL (TY cI cB cJ cZ) s) (hN : NW s) (hA : ∀ q : Nat, s.heap.size ≤ q → A q) (hRc : cells ≤ R.cells) (hRs : slots ≤ R.slots) (hRf : 8 ≤ R.frames) (hRl : 275 ≤ R.locals) (hNN : 152 ≤ NN) (hE : CE E tM tC kK kV A s) (hret : ∀ (r : Int32) (x : St) (H : Heap) (locs : List Loc) (pc : Nat) (ls : Array Slot), decode b_V_open pc = .ok (.ireturn, 1) → post r x → Wd dC dI cI cB cJ cZ ad stC kcC NN A x H → va_S A s.heap H locs → W p l e R s m args below meth c H locs cells slots Q (F0 m pc ls [.int r])) : ∀ (o : Nat) (x : St) (H : Heap) (locs : List Loc) (ls : Array Slot), (o < NN ∧ kcC o = 0) → wp_V_open post o x → Wd dC dI cI cB cJ cZ ad stC kcC NN A x H → va_S A s.heap H locs → lv_has ls 2 [(0, .ref (ad o))] → W p l e R s m args below meth c H locs cells slots Q (F0 m 0 ls []) := by
  intro o x H locs ls fo hw hW hS hl
  unfold wp_V_open at hw
  refine lv_aload_n hx hb d_V_open_0 rfl (lv_at hl 0 rfl) ?_
  refine w_getf (q := (stC o 8)) (k := 8) (t := 0) (C := R_V) (T := F_V) (N := 15) hx hb hT hown hK hW fo.1 fo.2 (by decide) in_V rfl rfl (by decide) rfl fr_V_8 w_4_3 d_V_open_1 rfl ?_
  refine lv_iconst (v := 0) hx hb d_V_open_4 (by decide) ?_
  refine w_puti (ty := .boolean) (k := 0) (t := 6) (C := R_Vlt) (T := F_Vlt) (N := 20) hx hb hT hown hK hW hS (st_ty hNN fo.1 fo.2 rfl).1 (st_ty hNN fo.1 fo.2 rfl).2 (by decide) in_Vlt t_Vlt t_Vlt_ok n_Vlt rfl rfl (by decide) rfl fr_Vlt_0 w_2_122 (by decide +kernel) rfl rfl d_V_open_5 (fun H locs hW hS => ?_)
  obtain ⟨x6, ex6⟩ : ∃ y : St, y = setI x (stC o 8) 0 0 := ⟨_, rfl⟩
  rw [← ex6] at hW
  have hw := hw x6 ex6
  refine lv_aload_n hx hb d_V_open_8 rfl (lv_at hl 0 rfl) ?_
  obtain ⟨q7, hq7, hw⟩ := hw
  refine w_getr (q := q7) (k := 10) (t := 0) (C := R_V) (T := F_V) (N := 15) hx hb hT hown hK hW fo.1 fo.2 (by decide) in_V rfl rfl (by decide) rfl fr_V_10 w_4_5 d_V_open_9 hq7 (fun aq7 bq7 => ?_)
  have fq7 : q7 < NN ∧ kcC q7 = 9 := ⟨aq7, bq7⟩
  refine lv_iconst (v := 0) hx hb d_V_open_12 (by decide) ?_
  refine w_puti (ty := .boolean) (k := 0) (t := 9) (C := R_Qry) (T := F_Qry) (N := 20) hx hb hT hown hK hW hS fq7.1 fq7.2 (by decide) in_Qry t_Qry t_Qry_ok n_Qry rfl rfl (by decide) rfl fr_Qry_0 w_3_75 (by decide +kernel) rfl rfl d_V_open_13 (fun H locs hW hS => ?_)
  obtain ⟨x8, ex8⟩ : ∃ y : St, y = setI x6 q7 0 0 := ⟨_, rfl⟩
  rw [← ex8] at hW
  have hw := hw x8 ex8
  refine lv_aload_n hx hb d_V_open_16 rfl (lv_at hl 0 rfl) ?_
  obtain ⟨q9, hq9, hw⟩ := hw
  refine w_getr (q := q9) (k := 12) (t := 0) (C := R_V) (T := F_V) (N := 15) hx hb hT hown hK hW fo.1 fo.2 (by decide) in_V rfl rfl (by decide) rfl fr_V_12 w_4_7 d_V_open_17 hq9 (fun aq9 bq9 => ?_)
  have fq9 : q9 < NN ∧ kcC q9 = 10 := ⟨aq9, bq9⟩
  refine lv_iconst (v := 0) hx hb d_V_open_20 (by decide) ?_
  refine w_puti (ty := .boolean) (k := 0) (t := 10) (C := R_Ans) (T := F_Ans) (N := 16) hx hb hT hown hK hW hS fq9.1 fq9.2 (by decide) in_Ans t_Ans t_Ans_ok n_Ans rfl rfl (by decide) rfl fr_Ans_0 w_3_156 (by decide +kernel) rfl rfl d_V_open_21 (fun H locs hW hS => ?_)
  obtain ⟨x10, ex10⟩ : ∃ y : St, y = setI x8 q9 0 0 := ⟨_, rfl⟩
  rw [← ex10] at hW
  have hw := hw x10 ex10
  refine lv_aload_n hx hb d_V_open_24 rfl (lv_at hl 0 rfl) ?_
  refine w_getf (q := (stC o 9)) (k := 9) (t := 0) (C := R_V) (T := F_V) (N := 15) hx hb hT hown hK hW fo.1 fo.2 (by decide) in_V rfl rfl (by decide) rfl fr_V_9 w_4_4 d_V_open_25 rfl ?_
  refine lv_aload_n hx hb d_V_open_28 rfl (lv_at hl 0 rfl) ?_
  obtain ⟨q11, hq11, hw⟩ := hw
  refine w_getr (q := q11) (k := 2) (t := 0) (C := R_V) (T := F_V) (N := 15) hx hb hT hown hK hW fo.1 fo.2 (by decide) in_V rfl rfl (by decide) rfl fr_V_2 w_3_237 d_V_open_29 hq11 (fun aq11 bq11 => ?_)
  have fq11 : q11 < NN ∧ kcC q11 = 1 := ⟨aq11, bq11⟩
  obtain ⟨q12, hq12, hw⟩ := hw
  refine w_getr (q := q12) (k := 0) (t := 1) (C := R_Snk) (T := F_Snk) (N := 7) hx hb hT hown hK hW fq11.1 fq11.2 (by decide) in_Snk rfl rfl (by decide) rfl fr_Snk_0 w_1_42 d_V_open_32 hq12 (fun aq12 bq12 => ?_)
  have fq12 : q12 < NN ∧ kcC q12 = 21 := ⟨aq12, bq12⟩
  refine lv_aload_n hx hb d_V_open_35 rfl (lv_at hl 0 rfl) ?_
  obtain ⟨q13, hq13, hw⟩ := hw
  refine w_getr (q := q13) (k := 2) (t := 0) (C := R_V) (T := F_V) (N := 15) hx hb hT hown hK hW fo.1 fo.2 (by decide) in_V rfl rfl (by decide) rfl fr_V_2 w_3_237 d_V_open_36 hq13 (fun aq13 bq13 => ?_)
  have fq13 : q13 < NN ∧ kcC q13 = 1 := ⟨aq13, bq13⟩
  refine w_geti (k := 1) (t := 1) (C := R_Snk) (T := F_Snk) (N := 7) hx hb hT hown hK hW fq13.1 fq13.2 (by decide) in_Snk rfl rfl (by decide) rfl fr_Snk_1 w_1_44 d_V_open_39 ?_
  have hF := hW.free hS hA
  refine va_calli (va_runV (C := R_Opn) (As := [.ref (ad q12), .int (fI x10 q13 1)]) (rest := []) ⟨hx, hb, hml, hown, hT⟩ (k_Opn_lookAtFrame l dC dI cI cB cJ cZ ad NN E tM tC kK kV hNN H.size (stC o 9) q12 (fI x10 q13 1) x10 (st_ty hNN fo.1 fo.2 rfl) fq12 hw) ⟨callB_of 2 hT (gwt_in w_6_77) rfl rfl rfl (hT _ w_1_10) (hT _ w_6_74) (by decide +kernel) ⟨Nat.le_trans (Nat.le_of_ble_eq_true rfl) hRf, Nat.le_trans (Nat.le_of_ble_eq_true rfl) hRl⟩, hT _ w_6_75, hT _ w_6_76⟩ ⟨PVc.blind, va_recv hK hW.1 (ci := 7) (q0 := (stC o 9)) rfl (pic_obj (st_ty hNN fo.1 fo.2 rfl).1 (st_ty hNN fo.1 fo.2 rfl).2 (by decide)), PVc.at _ hW hK hN hE hS hF⟩ rfl rfl hl.1 rfl (lv_room (Nat.le_of_ble_eq_true rfl)) d_V_open_42 ⟨hRc, hRs⟩) hS (fun q _ h => hF q h) hF (fun r15 x14 t H locs ht hvm hw hB hz1 hk1 hS => ?_)
  have hW := Wd.back hB ht hF
  clear hB ht hF hz1 hk1 hvm
  refine lv_istore_n (lv' := [(1, .int r15), (0, .ref (ad o))]) hx hb d_V_open_45 rfl hl (by decide) rfl (fun ls hl => ?_)
  refine lv_iload_n hx hb d_V_open_46 rfl (lv_at hl 0 rfl) ?_
  refine lv_if_ne (tgt := 58) hx hb d_V_open_47 (by decide) (fun c16 => ?_) (fun c16 => ?_)
  · have hw := hw.1 c16
    exact t_V_open_58 hx hb hml hown hT hK hN hA hRc hRs hRf hRl hNN hE hret  o r15 x14 H locs ls fo hw hW hS (lv_sub hl [1, 0] rfl)
  · have hw := hw.2 c16
    refine lv_aload_n hx hb d_V_open_50 rfl (lv_at hl 1 rfl) ?_
    refine w_getf (q := (stC o 9)) (k := 9) (t := 0) (C := R_V) (T := F_V) (N := 15) hx hb hT hown hK hW fo.1 fo.2 (by decide) in_V rfl rfl (by decide) rfl fr_V_9 w_4_4 d_V_open_51 rfl ?_
    have hF := hW.free hS hA
    refine va_calli (va_runV (C := R_Opn) (As := []) (rest := []) ⟨hx, hb, hml, hown, hT⟩ (k_Opn_lookAtFooter l dC dI cI cB cJ cZ ad NN E tM tC kK kV hNN H.size (stC o 9) x14 (st_ty hNN fo.1 fo.2 rfl) hw) ⟨callB_of 0 hT (gwt_in w_6_99) rfl rfl rfl (hT _ w_1_10) (hT _ w_6_96) (by decide +kernel) ⟨Nat.le_trans (Nat.le_of_ble_eq_true rfl) hRf, Nat.le_trans (Nat.le_of_ble_eq_true rfl) hRl⟩, hT _ w_6_97, hT _ w_6_98⟩ ⟨PVc.blind, va_recv hK hW.1 (ci := 7) (q0 := (stC o 9)) rfl (pic_obj (st_ty hNN fo.1 fo.2 rfl).1 (st_ty hNN fo.1 fo.2 rfl).2 (by decide)), PVc.at _ hW hK hN hE hS hF⟩ rfl rfl hl.1 rfl (lv_room (Nat.le_of_ble_eq_true rfl)) d_V_open_54 ⟨hRc, hRs⟩) hS (fun q _ h => hF q h) hF (fun r18 x17 t H locs ht hvm hw hB hz1 hk1 hS => ?_)
    have hW := Wd.back hB ht hF
    clear hB ht hF hz1 hk1 hvm
    refine lv_istore_n (lv' := [(1, .int r18), (0, .ref (ad o))]) hx hb d_V_open_57 rfl hl (by decide) rfl (fun ls hl => ?_)
    exact t_V_open_58 hx hb hml hown hT hK hN hA hRc hRs hRf hRl hNN hE hret  o r18 x17 H locs ls fo hw hW hS (lv_sub hl [1, 0] rfl)
set_option maxHeartbeats 4000000 in
set_option maxRecDepth 100000 in
theorem k_V_open (l : Launch) (dC : Nat → ClassId) (dI : Nat → Nat → Nat) (cI cB cJ cZ : ClassId) (ad : Nat → Nat) (NN : Nat) (E : Heap) (tM tC : Nat) (kK kV : Nat → Nat) (hNN : 152 ≤ NN) (sz : Nat) (o : Nat) (x : St) (fo : o < NN ∧ kcC o = 0) {post : Int32 → St → Prop} (hw : wp_V_open post o x) : Met l y_V_open (wsOf y_V_open b_V_open 2 (some (.int))) ({ frames := 8, cells := 0, slots := 0, locals := 275 }) (va_Pc [.ref (ad o)] (PVc dC dI cI cB cJ cZ ad stC kcC NN E tM tC kK kV sz x)) (va_Qi (fun (r : Int32) (y : St) => post r y) (fun y t => Wd dC dI cI cB cJ cZ ad stC kcC NN (va_A (pic ad stC kcC NN cI cB cJ cZ x) sz) y t.heap) (va_A (pic ad stC kcC NN cI cB cJ cZ x) sz)) 0 0 (va_A (pic ad stC kcC NN cI cB cJ cZ x) sz) := by
  refine Met.ofW (cc := b_V_open) (maxL := 2) (ret := some (.int)) (by decide) rfl ?_
  intro p e s m args below meth c s₁ B hml hv
  obtain ⟨rfl, ⟨hsz, hW0, hK, hN⟩, hE⟩ := hv
  have hx := B.exec
  have hb := B.bytes
  have hr := B.returns
  have hts := atoms_spec B.pre
  have hT : ∀ w ∈ TG, w.before _ s = true := fun w h => hts w (List.mem_cons_of_mem _ h)
  have hown : s.vm.findClass R_V = some m.cls := findClass_of_methodNamed B.named
  have hlocks := B.notSynchronized
  subst hsz
  have hW : Wd dC dI cI cB cJ cZ ad stC kcC NN (va_A (pic ad stC kcC NN cI cB cJ cZ x) s.heap.size) x s.heap := ⟨hW0.1, hW0.2.1.self (sz := s.heap.size), hW0.2.2⟩
  generalize hAe : va_A (pic ad stC kcC NN cI cB cJ cZ x) s.heap.size = A at hW hE ⊢
  have hA : ∀ q : Nat, s.heap.size ≤ q → A q := fun q h => by rw [← hAe]; exact Or.inr h
  have hS : va_S A s.heap s.heap [] := va_S.rf
  have hl := lv_entry ([.ref (ad o)]) (n := 2) (Nat.le_of_ble_eq_true rfl)
  rw [lg_entry_eq]
  generalize (lg_sl ([.ref (ad o)]) ++ List.replicate (2 - (lg_sl ([.ref (ad o)])).length) Slot.unset).toArray = ls at hl ⊢
  have hl : lv_has ls 2 [(0, .ref (ad o))] := hl
  exact t_V_open_e hx hb hml hown hT hK hN hA (Nat.le_refl 0) (Nat.le_refl 0) (Nat.le_refl 8) (Nat.le_refl 275) hNN hE (fun r x H locs pc ls hd hp hW hS => W.iret (v := r) hx hb hr (fun t ht hM => ⟨⟨r, x, rfl, hp, Wd.back hW ht.symm (fun _ z => z)⟩, hS.F ht⟩) hS.2.2 hd hlocks)  o x _ _ ls fo hw hW hS hl
set_option maxRecDepth 100000 in
set_option maxHeartbeats 4000000 in
set_option maxRecDepth 100000 in
theorem t_V_fault_9 {p : Program} {l : Launch} {e : Env} {R : Room} {s : State} {m : MethodId} {args : Array Value} {below : List Frame} {meth : Method} {c : Code} {cells slots : Nat} {Q : State → Prop} {dC : Nat → ClassId} {dI : Nat → Nat → Nat} {cI cB cJ cZ : ClassId} {A : Nat → Prop} {ad : Nat → Nat} {NN : Nat} {E : Heap} {tM tC : Nat} {kK kV : Nat → Nat} {post : Int32 → St → Prop} (hx : p.tables.exec = Jvm.exec) (hb : c.code = b_V_fault) (hml : c.maxLocals = 2) (hown : s.vm.findClass R_V = some m.cls) (hT : ∀ w ∈ TG, w.before args s = true) (hK : va_K (dC, dI) CL (TY cI cB cJ cZ) s) (hN : NW s) (hA : ∀ q : Nat, s.heap.size ≤ q → A q) (hRc : cells ≤ R.cells) (hRs : slots ≤ R.slots) (hRf : 0 ≤ R.frames) (hRl : 0 ≤ R.locals) (hNN : 152 ≤ NN) (hE : CE E tM tC kK kV A s) (hret : ∀ (r : Int32) (x : St) (H : Heap) (locs : List Loc) (pc : Nat) (ls : Array Slot), decode b_V_fault pc = .ok (.ireturn, 1) → post r x → Wd dC dI cI cB cJ cZ ad stC kcC NN A x H → va_S A s.heap H locs → W p l e R s m args below meth c H locs cells slots Q (F0 m pc ls [.int r]))  : ∀ (o : Nat) (l1 : Int32) (x : St) (H : Heap) (locs : List Loc) (ls : Array Slot), (o < NN ∧ kcC o = 0) → j_V_fault_9 post o l1 x → Wd dC dI cI cB cJ cZ ad stC kcC NN A x H → va_S A s.heap H locs → lv_has ls 2 [(0, .ref (ad o)), (1, .int l1)] → W p l e R s m args below meth c H locs cells slots Q (F0 m 9 ls []) := by
  intro o l1 x H locs ls fo hw hW hS hl
  unfold j_V_fault_9 at hw
  refine lv_iconst (v := (-1)) hx hb d_V_fault_9 (by decide) ?_
  refine lv_goto (tgt := 22) hx hb d_V_fault_10 (by decide) ?_
  exact hret (-1) x H locs 22 ls d_V_fault_22 hw hW hS
set_option maxRecDepth 100000 in
set_option maxHeartbeats 4000000 in
set_option maxRecDepth 100000 in
theorem t_V_fault_e {p : Program} {l : Launch} {e : Env} {R : Room} {s : State} {m : MethodId} {args : Array Value} {below : List Frame} {meth : Method} {c : Code} {cells slots : Nat} {Q : State → Prop} {dC : Nat → ClassId} {dI : Nat → Nat → Nat} {cI cB cJ cZ : ClassId} {A : Nat → Prop} {ad : Nat → Nat} {NN : Nat} {E : Heap} {tM tC : Nat} {kK kV : Nat → Nat} {post : Int32 → St → Prop} (hx : p.tables.exec = Jvm.exec) (hb : c.code = b_V_fault) (hml : c.maxLocals = 2) (hown : s.vm.findClass R_V = some m.cls) (hT : ∀ w ∈ TG, w.before args s = true) (hK : va_K (dC, dI) CL (TY cI cB cJ cZ) s) (hN : NW s) (hA : ∀ q : Nat, s.heap.size ≤ q → A q) (hRc : cells ≤ R.cells) (hRs : slots ≤ R.slots) (hRf : 0 ≤ R.frames) (hRl : 0 ≤ R.locals) (hNN : 152 ≤ NN) (hE : CE E tM tC kK kV A s) (hret : ∀ (r : Int32) (x : St) (H : Heap) (locs : List Loc) (pc : Nat) (ls : Array Slot), decode b_V_fault pc = .ok (.ireturn, 1) → post r x → Wd dC dI cI cB cJ cZ ad stC kcC NN A x H → va_S A s.heap H locs → W p l e R s m args below meth c H locs cells slots Q (F0 m pc ls [.int r])) : ∀ (o : Nat) (l1 : Int32) (x : St) (H : Heap) (locs : List Loc) (ls : Array Slot), (o < NN ∧ kcC o = 0) → wp_V_fault post o l1 x → Wd dC dI cI cB cJ cZ ad stC kcC NN A x H → va_S A s.heap H locs → lv_has ls 2 [(0, .ref (ad o)), (1, .int l1)] → W p l e R s m args below meth c H locs cells slots Q (F0 m 0 ls []) := by
  intro o l1 x H locs ls fo hw hW hS hl
  unfold wp_V_fault at hw
  refine lv_iload_n hx hb d_V_fault_0 rfl (lv_at hl 1 rfl) ?_
  refine lv_if_lt (tgt := 9) hx hb d_V_fault_1 (by decide) (fun c1 => ?_) (fun c1 => ?_)
  · have hw := hw.1 c1
    exact t_V_fault_9 hx hb hml hown hT hK hN hA hRc hRs hRf hRl hNN hE hret  o l1 x H locs ls fo hw hW hS (lv_sub hl [0, 1] rfl)
  · have hw := hw.2 c1
    refine lv_iload_n hx hb d_V_fault_4 rfl (lv_at hl 1 rfl) ?_
    refine lv_iconst (v := 2) hx hb d_V_fault_5 (by decide) ?_
    refine lv_icmp_le (tgt := 13) hx hb d_V_fault_6 (by decide) (fun c2 => ?_) (fun c2 => ?_)
    · have hw := hw.1 c2
      refine lv_aload_n hx hb d_V_fault_13 rfl (lv_at hl 0 rfl) ?_
      refine w_getf (q := (stC o 9)) (k := 9) (t := 0) (C := R_V) (T := F_V) (N := 15) hx hb hT hown hK hW fo.1 fo.2 (by decide) in_V rfl rfl (by decide) rfl fr_V_9 w_4_4 d_V_fault_14 rfl ?_
      refine w_getf (q := (stC (stC o 9) 4)) (k := 4) (t := 7) (C := R_Opn) (T := F_Opn) (N := 17) hx hb hT hown hK hW (st_ty hNN fo.1 fo.2 rfl).1 (st_ty hNN fo.1 fo.2 rfl).2 (by decide) in_Opn rfl rfl (by decide) rfl fr_Opn_4 w_3_20 d_V_fault_17 rfl ?_
      refine lv_iload_n hx hb d_V_fault_20 rfl (lv_at hl 1 rfl) ?_
      obtain ⟨hi, hw⟩ := hw
      refine w_iald (o := (stC (stC o 9) 4)) hx hb hK hW (st_ty hNN (st_ty hNN fo.1 fo.2 rfl).1 (st_ty hNN fo.1 fo.2 rfl).2 rfl).1 (st_ty hNN (st_ty hNN fo.1 fo.2 rfl).1 (st_ty hNN fo.1 fo.2 rfl).2 rfl).2 hi d_V_fault_21 ?_
      exact hret (rA x (stC (stC o 9) 4) l1) x H locs 22 ls d_V_fault_22 hw hW hS
    · have hw := hw.2 c2
      exact t_V_fault_9 hx hb hml hown hT hK hN hA hRc hRs hRf hRl hNN hE hret  o l1 x H locs ls fo hw hW hS (lv_sub hl [0, 1] rfl)
set_option maxHeartbeats 4000000 in
set_option maxRecDepth 100000 in
theorem k_V_fault (l : Launch) (dC : Nat → ClassId) (dI : Nat → Nat → Nat) (cI cB cJ cZ : ClassId) (ad : Nat → Nat) (NN : Nat) (E : Heap) (tM tC : Nat) (kK kV : Nat → Nat) (hNN : 152 ≤ NN) (sz : Nat) (o : Nat) (l1 : Int32) (x : St) (fo : o < NN ∧ kcC o = 0) {post : Int32 → St → Prop} (hw : wp_V_fault post o l1 x) : Met l y_V_fault (wsOf y_V_fault b_V_fault 2 (some (.int))) ({ frames := 0, cells := 0, slots := 0, locals := 0 }) (va_Pc [.ref (ad o), .int l1] (PVc dC dI cI cB cJ cZ ad stC kcC NN E tM tC kK kV sz x)) (va_Qi (fun (r : Int32) (y : St) => post r y) (fun y t => Wd dC dI cI cB cJ cZ ad stC kcC NN (va_A (pic ad stC kcC NN cI cB cJ cZ x) sz) y t.heap) (va_A (pic ad stC kcC NN cI cB cJ cZ x) sz)) 0 0 (va_A (pic ad stC kcC NN cI cB cJ cZ x) sz) := by
  refine Met.ofW (cc := b_V_fault) (maxL := 2) (ret := some (.int)) (by decide) rfl ?_
  intro p e s m args below meth c s₁ B hml hv
  obtain ⟨rfl, ⟨hsz, hW0, hK, hN⟩, hE⟩ := hv
  have hx := B.exec
  have hb := B.bytes
  have hr := B.returns
  have hts := atoms_spec B.pre
  have hT : ∀ w ∈ TG, w.before _ s = true := fun w h => hts w (List.mem_cons_of_mem _ h)
  have hown : s.vm.findClass R_V = some m.cls := findClass_of_methodNamed B.named
  have hlocks := B.notSynchronized
  subst hsz
  have hW : Wd dC dI cI cB cJ cZ ad stC kcC NN (va_A (pic ad stC kcC NN cI cB cJ cZ x) s.heap.size) x s.heap := ⟨hW0.1, hW0.2.1.self (sz := s.heap.size), hW0.2.2⟩
  generalize hAe : va_A (pic ad stC kcC NN cI cB cJ cZ x) s.heap.size = A at hW hE ⊢
  have hA : ∀ q : Nat, s.heap.size ≤ q → A q := fun q h => by rw [← hAe]; exact Or.inr h
  have hS : va_S A s.heap s.heap [] := va_S.rf
  have hl := lv_entry ([.ref (ad o), .int l1]) (n := 2) (Nat.le_of_ble_eq_true rfl)
  rw [lg_entry_eq]
  generalize (lg_sl ([.ref (ad o), .int l1]) ++ List.replicate (2 - (lg_sl ([.ref (ad o), .int l1])).length) Slot.unset).toArray = ls at hl ⊢
  have hl : lv_has ls 2 [(0, .ref (ad o)), (1, .int l1)] := hl
  exact t_V_fault_e hx hb hml hown hT hK hN hA (Nat.le_refl 0) (Nat.le_refl 0) (Nat.le_refl 0) (Nat.le_refl 0) hNN hE (fun r x H locs pc ls hd hp hW hS => W.iret (v := r) hx hb hr (fun t ht hM => ⟨⟨r, x, rfl, hp, Wd.back hW ht.symm (fun _ z => z)⟩, hS.F ht⟩) hS.2.2 hd hlocks)  o l1 x _ _ ls fo hw hW hS hl
set_option maxRecDepth 100000 in
set_option maxHeartbeats 4000000 in
set_option maxRecDepth 100000 in
theorem t_V_opened_e {p : Program} {l : Launch} {e : Env} {R : Room} {s : State} {m : MethodId} {args : Array Value} {below : List Frame} {meth : Method} {c : Code} {cells slots : Nat} {Q : State → Prop} {dC : Nat → ClassId} {dI : Nat → Nat → Nat} {cI cB cJ cZ : ClassId} {A : Nat → Prop} {ad : Nat → Nat} {NN : Nat} {E : Heap} {tM tC : Nat} {kK kV : Nat → Nat} {post : Int32 → St → Prop} (hx : p.tables.exec = Jvm.exec) (hb : c.code = b_V_opened) (hml : c.maxLocals = 2) (hown : s.vm.findClass R_V = some m.cls) (hT : ∀ w ∈ TG, w.before args s = true) (hK : va_K (dC, dI) CL (TY cI cB cJ cZ) s) (hN : NW s) (hA : ∀ q : Nat, s.heap.size ≤ q → A q) (hRc : cells ≤ R.cells) (hRs : slots ≤ R.slots) (hRf : 0 ≤ R.frames) (hRl : 0 ≤ R.locals) (hNN : 152 ≤ NN) (hE : CE E tM tC kK kV A s) (hret : ∀ (r : Int32) (x : St) (H : Heap) (locs : List Loc) (pc : Nat) (ls : Array Slot), decode b_V_opened pc = .ok (.ireturn, 1) → post r x → Wd dC dI cI cB cJ cZ ad stC kcC NN A x H → va_S A s.heap H locs → W p l e R s m args below meth c H locs cells slots Q (F0 m pc ls [.int r])) : ∀ (o : Nat) (l1 : Int32) (x : St) (H : Heap) (locs : List Loc) (ls : Array Slot), (o < NN ∧ kcC o = 0) → wp_V_opened post o l1 x → Wd dC dI cI cB cJ cZ ad stC kcC NN A x H → va_S A s.heap H locs → lv_has ls 2 [(0, .ref (ad o)), (1, .int l1)] → W p l e R s m args below meth c H locs cells slots Q (F0 m 0 ls []) := by
  intro o l1 x H locs ls fo hw hW hS hl
  unfold wp_V_opened at hw
  refine lv_aload_n hx hb d_V_opened_0 rfl (lv_at hl 0 rfl) ?_
  refine w_getf (q := (stC o 8)) (k := 8) (t := 0) (C := R_V) (T := F_V) (N := 15) hx hb hT hown hK hW fo.1 fo.2 (by decide) in_V rfl rfl (by decide) rfl fr_V_8 w_4_3 d_V_opened_1 rfl ?_
  refine w_geti (k := 0) (t := 6) (C := R_Vlt) (T := F_Vlt) (N := 20) hx hb hT hown hK hW (st_ty hNN fo.1 fo.2 rfl).1 (st_ty hNN fo.1 fo.2 rfl).2 (by decide) in_Vlt rfl rfl (by decide) rfl fr_Vlt_0 w_2_122 d_V_opened_4 ?_
  refine lv_if_ne (tgt := 12) hx hb d_V_opened_7 (by decide) (fun c1 => ?_) (fun c1 => ?_)
  · have hw := hw.1 c1
    refine lv_iload_n hx hb d_V_opened_12 rfl (lv_at hl 1 rfl) ?_
    rcases (show (l1 : Int32).toInt = 0 ∨ (l1 : Int32).toInt = 1 ∨ (l1 : Int32).toInt = 2 ∨ (l1 : Int32).toInt = 3 ∨ (l1 : Int32).toInt = 4 ∨ ((l1 : Int32).toInt < 0 ∨ 4 < (l1 : Int32).toInt) by omega) with c2 | c2 | c2 | c2 | c2 | c2
    · have hw := hw.1 c2
      refine lv_tableIn (tgt := 48) (off := 35) hx hb d_V_opened_13 (by rw [c2]; decide) (by rw [c2]; decide) (by rw [c2]; rfl) (by decide) ?_
      refine lv_aload_n hx hb d_V_opened_48 rfl (lv_at hl 0 rfl) ?_
      refine w_getf (q := (stC o 8)) (k := 8) (t := 0) (C := R_V) (T := F_V) (N := 15) hx hb hT hown hK hW fo.1 fo.2 (by decide) in_V rfl rfl (by decide) rfl fr_V_8 w_4_3 d_V_opened_49 rfl ?_
      refine w_geti (k := 1) (t := 6) (C := R_Vlt) (T := F_Vlt) (N := 20) hx hb hT hown hK hW (st_ty hNN fo.1 fo.2 rfl).1 (st_ty hNN fo.1 fo.2 rfl).2 (by decide) in_Vlt rfl rfl (by decide) rfl fr_Vlt_1 w_2_126 d_V_opened_52 ?_
      exact hret (fI x (stC o 8) 1) x H locs 55 ls d_V_opened_55 hw hW hS
    · have hw := hw.2.1 c2
      refine lv_tableIn (tgt := 56) (off := 43) hx hb d_V_opened_13 (by rw [c2]; decide) (by rw [c2]; decide) (by rw [c2]; rfl) (by decide) ?_
      refine lv_aload_n hx hb d_V_opened_56 rfl (lv_at hl 0 rfl) ?_
      refine w_getf (q := (stC o 8)) (k := 8) (t := 0) (C := R_V) (T := F_V) (N := 15) hx hb hT hown hK hW fo.1 fo.2 (by decide) in_V rfl rfl (by decide) rfl fr_V_8 w_4_3 d_V_opened_57 rfl ?_
      refine w_geti (k := 2) (t := 6) (C := R_Vlt) (T := F_Vlt) (N := 20) hx hb hT hown hK hW (st_ty hNN fo.1 fo.2 rfl).1 (st_ty hNN fo.1 fo.2 rfl).2 (by decide) in_Vlt rfl rfl (by decide) rfl fr_Vlt_2 w_2_128 d_V_opened_60 ?_
      exact hret (fI x (stC o 8) 2) x H locs 63 ls d_V_opened_63 hw hW hS
    · have hw := hw.2.2.1 c2
      refine lv_tableIn (tgt := 64) (off := 51) hx hb d_V_opened_13 (by rw [c2]; decide) (by rw [c2]; decide) (by rw [c2]; rfl) (by decide) ?_
      refine lv_aload_n hx hb d_V_opened_64 rfl (lv_at hl 0 rfl) ?_
      refine w_getf (q := (stC o 8)) (k := 8) (t := 0) (C := R_V) (T := F_V) (N := 15) hx hb hT hown hK hW fo.1 fo.2 (by decide) in_V rfl rfl (by decide) rfl fr_V_8 w_4_3 d_V_opened_65 rfl ?_
      refine w_getf (q := (stC (stC o 8) 5)) (k := 5) (t := 6) (C := R_Vlt) (T := F_Vlt) (N := 20) hx hb hT hown hK hW (st_ty hNN fo.1 fo.2 rfl).1 (st_ty hNN fo.1 fo.2 rfl).2 (by decide) in_Vlt rfl rfl (by decide) rfl fr_Vlt_5 w_2_138 d_V_opened_68 rfl ?_
      refine w_geti (k := 0) (t := 3) (C := R_Sch) (T := F_Sch) (N := 13) hx hb hT hown hK hW (st_ty hNN (st_ty hNN fo.1 fo.2 rfl).1 (st_ty hNN fo.1 fo.2 rfl).2 rfl).1 (st_ty hNN (st_ty hNN fo.1 fo.2 rfl).1 (st_ty hNN fo.1 fo.2 rfl).2 rfl).2 (by decide) in_Sch rfl rfl (by decide) rfl fr_Sch_0 w_1_133 d_V_opened_71 ?_
      exact hret (fI x (stC (stC o 8) 5) 0) x H locs 74 ls d_V_opened_74 hw hW hS
    · have hw := hw.2.2.2.1 c2
      refine lv_tableIn (tgt := 75) (off := 62) hx hb d_V_opened_13 (by rw [c2]; decide) (by rw [c2]; decide) (by rw [c2]; rfl) (by decide) ?_
      refine lv_aload_n hx hb d_V_opened_75 rfl (lv_at hl 0 rfl) ?_
      refine w_getf (q := (stC o 8)) (k := 8) (t := 0) (C := R_V) (T := F_V) (N := 15) hx hb hT hown hK hW fo.1 fo.2 (by decide) in_V rfl rfl (by decide) rfl fr_V_8 w_4_3 d_V_opened_76 rfl ?_
      refine w_getf (q := (stC (stC o 8) 5)) (k := 5) (t := 6) (C := R_Vlt) (T := F_Vlt) (N := 20) hx hb hT hown hK hW (st_ty hNN fo.1 fo.2 rfl).1 (st_ty hNN fo.1 fo.2 rfl).2 (by decide) in_Vlt rfl rfl (by decide) rfl fr_Vlt_5 w_2_138 d_V_opened_79 rfl ?_
      refine w_geti (k := 1) (t := 3) (C := R_Sch) (T := F_Sch) (N := 13) hx hb hT hown hK hW (st_ty hNN (st_ty hNN fo.1 fo.2 rfl).1 (st_ty hNN fo.1 fo.2 rfl).2 rfl).1 (st_ty hNN (st_ty hNN fo.1 fo.2 rfl).1 (st_ty hNN fo.1 fo.2 rfl).2 rfl).2 (by decide) in_Sch rfl rfl (by decide) rfl fr_Sch_1 w_1_138 d_V_opened_82 ?_
      exact hret (fI x (stC (stC o 8) 5) 1) x H locs 85 ls d_V_opened_85 hw hW hS
    · have hw := hw.2.2.2.2.1 c2
      refine lv_tableIn (tgt := 86) (off := 73) hx hb d_V_opened_13 (by rw [c2]; decide) (by rw [c2]; decide) (by rw [c2]; rfl) (by decide) ?_
      refine lv_aload_n hx hb d_V_opened_86 rfl (lv_at hl 0 rfl) ?_
      refine w_getf (q := (stC o 8)) (k := 8) (t := 0) (C := R_V) (T := F_V) (N := 15) hx hb hT hown hK hW fo.1 fo.2 (by decide) in_V rfl rfl (by decide) rfl fr_V_8 w_4_3 d_V_opened_87 rfl ?_
      refine w_geti (k := 3) (t := 6) (C := R_Vlt) (T := F_Vlt) (N := 20) hx hb hT hown hK hW (st_ty hNN fo.1 fo.2 rfl).1 (st_ty hNN fo.1 fo.2 rfl).2 (by decide) in_Vlt rfl rfl (by decide) rfl fr_Vlt_3 w_2_131 d_V_opened_90 ?_
      exact hret (fI x (stC o 8) 3) x H locs 93 ls d_V_opened_93 hw hW hS
    · have hw := hw.2.2.2.2.2 c2
      refine lv_tableOut (tgt := 94) hx hb d_V_opened_13 c2 (by decide) ?_
      refine lv_iconst (v := (-1)) hx hb d_V_opened_94 (by decide) ?_
      exact hret (-1) x H locs 95 ls d_V_opened_95 hw hW hS
  · have hw := hw.2 c1
    refine lv_iconst (v := (-1)) hx hb d_V_opened_10 (by decide) ?_
    exact hret (-1) x H locs 11 ls d_V_opened_11 hw hW hS
set_option maxHeartbeats 4000000 in
set_option maxRecDepth 100000 in
theorem k_V_opened (l : Launch) (dC : Nat → ClassId) (dI : Nat → Nat → Nat) (cI cB cJ cZ : ClassId) (ad : Nat → Nat) (NN : Nat) (E : Heap) (tM tC : Nat) (kK kV : Nat → Nat) (hNN : 152 ≤ NN) (sz : Nat) (o : Nat) (l1 : Int32) (x : St) (fo : o < NN ∧ kcC o = 0) {post : Int32 → St → Prop} (hw : wp_V_opened post o l1 x) : Met l y_V_opened (wsOf y_V_opened b_V_opened 2 (some (.int))) ({ frames := 0, cells := 0, slots := 0, locals := 0 }) (va_Pc [.ref (ad o), .int l1] (PVc dC dI cI cB cJ cZ ad stC kcC NN E tM tC kK kV sz x)) (va_Qi (fun (r : Int32) (y : St) => post r y) (fun y t => Wd dC dI cI cB cJ cZ ad stC kcC NN (va_A (pic ad stC kcC NN cI cB cJ cZ x) sz) y t.heap) (va_A (pic ad stC kcC NN cI cB cJ cZ x) sz)) 0 0 (va_A (pic ad stC kcC NN cI cB cJ cZ x) sz) := by
  refine Met.ofW (cc := b_V_opened) (maxL := 2) (ret := some (.int)) (by decide) rfl ?_
  intro p e s m args below meth c s₁ B hml hv
  obtain ⟨rfl, ⟨hsz, hW0, hK, hN⟩, hE⟩ := hv
  have hx := B.exec
  have hb := B.bytes
  have hr := B.returns
  have hts := atoms_spec B.pre
  have hT : ∀ w ∈ TG, w.before _ s = true := fun w h => hts w (List.mem_cons_of_mem _ h)
  have hown : s.vm.findClass R_V = some m.cls := findClass_of_methodNamed B.named
  have hlocks := B.notSynchronized
  subst hsz
  have hW : Wd dC dI cI cB cJ cZ ad stC kcC NN (va_A (pic ad stC kcC NN cI cB cJ cZ x) s.heap.size) x s.heap := ⟨hW0.1, hW0.2.1.self (sz := s.heap.size), hW0.2.2⟩
  generalize hAe : va_A (pic ad stC kcC NN cI cB cJ cZ x) s.heap.size = A at hW hE ⊢
  have hA : ∀ q : Nat, s.heap.size ≤ q → A q := fun q h => by rw [← hAe]; exact Or.inr h
  have hS : va_S A s.heap s.heap [] := va_S.rf
  have hl := lv_entry ([.ref (ad o), .int l1]) (n := 2) (Nat.le_of_ble_eq_true rfl)
  rw [lg_entry_eq]
  generalize (lg_sl ([.ref (ad o), .int l1]) ++ List.replicate (2 - (lg_sl ([.ref (ad o), .int l1])).length) Slot.unset).toArray = ls at hl ⊢
  have hl : lv_has ls 2 [(0, .ref (ad o)), (1, .int l1)] := hl
  exact t_V_opened_e hx hb hml hown hT hK hN hA (Nat.le_refl 0) (Nat.le_refl 0) (Nat.le_refl 0) (Nat.le_refl 0) hNN hE (fun r x H locs pc ls hd hp hW hS => W.iret (v := r) hx hb hr (fun t ht hM => ⟨⟨r, x, rfl, hp, Wd.back hW ht.symm (fun _ z => z)⟩, hS.F ht⟩) hS.2.2 hd hlocks)  o l1 x _ _ ls fo hw hW hS hl
set_option maxRecDepth 100000 in
set_option maxHeartbeats 4000000 in
set_option maxRecDepth 100000 in
theorem t_Vlt_entryOf_25 {p : Program} {l : Launch} {e : Env} {R : Room} {s : State} {m : MethodId} {args : Array Value} {below : List Frame} {meth : Method} {c : Code} {cells slots : Nat} {Q : State → Prop} {dC : Nat → ClassId} {dI : Nat → Nat → Nat} {cI cB cJ cZ : ClassId} {A : Nat → Prop} {ad : Nat → Nat} {NN : Nat} {E : Heap} {tM tC : Nat} {kK kV : Nat → Nat} {post : Int32 → St → Prop} (hx : p.tables.exec = Jvm.exec) (hb : c.code = b_Vlt_entryOf) (hml : c.maxLocals = 4) (hown : s.vm.findClass R_Vlt = some m.cls) (hT : ∀ w ∈ TG, w.before args s = true) (hK : va_K (dC, dI) CL (TY cI cB cJ cZ) s) (hN : NW s) (hA : ∀ q : Nat, s.heap.size ≤ q → A q) (hRc : cells ≤ R.cells) (hRs : slots ≤ R.slots) (hRf : 0 ≤ R.frames) (hRl : 0 ≤ R.locals) (hNN : 152 ≤ NN) (hE : CE E tM tC kK kV A s) (hret : ∀ (r : Int32) (x : St) (H : Heap) (locs : List Loc) (pc : Nat) (ls : Array Slot), decode b_Vlt_entryOf pc = .ok (.ireturn, 1) → post r x → Wd dC dI cI cB cJ cZ ad stC kcC NN A x H → va_S A s.heap H locs → W p l e R s m args below meth c H locs cells slots Q (F0 m pc ls [.int r]))  : ∀ (o : Nat) (l1 : Int32) (l2 : Int32) (l3 : Int32) (x : St) (H : Heap) (locs : List Loc) (ls : Array Slot), (o < NN ∧ kcC o = 6) → j_Vlt_entryOf_25 post o l1 l2 l3 x → Wd dC dI cI cB cJ cZ ad stC kcC NN A x H → va_S A s.heap H locs → lv_has ls 4 [(0, .ref (ad o)), (1, .int l1), (2, .int l2), (3, .int l3)] → W p l e R s m args below meth c H locs cells slots Q (F0 m 25 ls []) := by
  intro o l1 l2 l3 x H locs ls fo hw hW hS hl
  unfold j_Vlt_entryOf_25 at hw
  refine lv_aload_n hx hb d_Vlt_entryOf_25 rfl (lv_at hl 0 rfl) ?_
  refine w_geti (k := 4) (t := 6) (C := R_Vlt) (T := F_Vlt) (N := 20) hx hb hT hown hK hW fo.1 fo.2 (by decide) in_Vlt rfl rfl (by decide) rfl fr_Vlt_4 w_2_132 d_Vlt_entryOf_26 ?_
  refine lv_goto (tgt := 38) hx hb d_Vlt_entryOf_29 (by decide) ?_
  exact hret (fI x o 4) x H locs 38 ls d_Vlt_entryOf_38 hw hW hS
set_option maxRecDepth 100000 in
set_option maxHeartbeats 4000000 in
set_option maxRecDepth 100000 in
theorem t_Vlt_entryOf_e {p : Program} {l : Launch} {e : Env} {R : Room} {s : State} {m : MethodId} {args : Array Value} {below : List Frame} {meth : Method} {c : Code} {cells slots : Nat} {Q : State → Prop} {dC : Nat → ClassId} {dI : Nat → Nat → Nat} {cI cB cJ cZ : ClassId} {A : Nat → Prop} {ad : Nat → Nat} {NN : Nat} {E : Heap} {tM tC : Nat} {kK kV : Nat → Nat} {post : Int32 → St → Prop} (hx : p.tables.exec = Jvm.exec) (hb : c.code = b_Vlt_entryOf) (hml : c.maxLocals = 4) (hown : s.vm.findClass R_Vlt = some m.cls) (hT : ∀ w ∈ TG, w.before args s = true) (hK : va_K (dC, dI) CL (TY cI cB cJ cZ) s) (hN : NW s) (hA : ∀ q : Nat, s.heap.size ≤ q → A q) (hRc : cells ≤ R.cells) (hRs : slots ≤ R.slots) (hRf : 0 ≤ R.frames) (hRl : 0 ≤ R.locals) (hNN : 152 ≤ NN) (hE : CE E tM tC kK kV A s) (hret : ∀ (r : Int32) (x : St) (H : Heap) (locs : List Loc) (pc : Nat) (ls : Array Slot), decode b_Vlt_entryOf pc = .ok (.ireturn, 1) → post r x → Wd dC dI cI cB cJ cZ ad stC kcC NN A x H → va_S A s.heap H locs → W p l e R s m args below meth c H locs cells slots Q (F0 m pc ls [.int r])) : ∀ (o : Nat) (l1 : Int32) (l2 : Int32) (x : St) (H : Heap) (locs : List Loc) (ls : Array Slot), (o < NN ∧ kcC o = 6) → wp_Vlt_entryOf post o l1 l2 x → Wd dC dI cI cB cJ cZ ad stC kcC NN A x H → va_S A s.heap H locs → lv_has ls 4 [(0, .ref (ad o)), (1, .int l1), (2, .int l2)] → W p l e R s m args below meth c H locs cells slots Q (F0 m 0 ls []) := by
  intro o l1 l2 x H locs ls fo hw hW hS hl
  unfold wp_Vlt_entryOf at hw
  refine lv_iload_n hx hb d_Vlt_entryOf_0 rfl (lv_at hl 1 rfl) ?_
  refine lv_aload_n hx hb d_Vlt_entryOf_1 rfl (lv_at hl 0 rfl) ?_
  refine w_getf (q := (stC o 5)) (k := 5) (t := 6) (C := R_Vlt) (T := F_Vlt) (N := 20) hx hb hT hown hK hW fo.1 fo.2 (by decide) in_Vlt rfl rfl (by decide) rfl fr_Vlt_5 w_2_134 d_Vlt_entryOf_2 rfl ?_
  refine w_geti (k := 1) (t := 3) (C := R_Sch) (T := F_Sch) (N := 13) hx hb hT hown hK hW (st_ty hNN fo.1 fo.2 rfl).1 (st_ty hNN fo.1 fo.2 rfl).2 (by decide) in_Sch rfl rfl (by decide) rfl fr_Sch_1 w_1_134 d_Vlt_entryOf_5 ?_
  refine lv_imul hx hb d_Vlt_entryOf_8 ?_
  refine lv_iload_n hx hb d_Vlt_entryOf_9 rfl (lv_at hl 2 rfl) ?_
  refine lv_iadd hx hb d_Vlt_entryOf_10 ?_
  refine lv_topi (fun v1 ev1 => ?_)
  have hw := hw v1 ev1
  refine lv_istore_n (lv' := [(3, .int v1), (0, .ref (ad o)), (1, .int l1), (2, .int l2)]) hx hb d_Vlt_entryOf_11 rfl hl (by decide) rfl (fun ls hl => ?_)
  refine lv_iload_n hx hb d_Vlt_entryOf_12 rfl (lv_at hl 0 rfl) ?_
  refine lv_if_lt (tgt := 25) hx hb d_Vlt_entryOf_13 (by decide) (fun c2 => ?_) (fun c2 => ?_)
  · have hw := hw.1 c2
    exact t_Vlt_entryOf_25 hx hb hml hown hT hK hN hA hRc hRs hRf hRl hNN hE hret  o l1 l2 v1 x H locs ls fo hw hW hS (lv_sub hl [1, 2, 3, 0] rfl)
  · have hw := hw.2 c2
    refine lv_iload_n hx hb d_Vlt_entryOf_16 rfl (lv_at hl 0 rfl) ?_
    refine lv_aload_n hx hb d_Vlt_entryOf_17 rfl (lv_at hl 1 rfl) ?_
    refine w_getf (q := (stC o 10)) (k := 10) (t := 6) (C := R_Vlt) (T := F_Vlt) (N := 20) hx hb hT hown hK hW fo.1 fo.2 (by decide) in_Vlt rfl rfl (by decide) rfl fr_Vlt_10 w_2_154 d_Vlt_entryOf_18 rfl ?_
    refine w_alen (o := (stC o 10)) (t0 := 0) hx hb hK hW (pic_int (st_ty hNN fo.1 fo.2 rfl).1 (st_ty hNN fo.1 fo.2 rfl).2) rfl rfl d_Vlt_entryOf_21 ?_
    refine lv_icmp_lt (tgt := 32) hx hb d_Vlt_entryOf_22 (by decide) (fun c3 => ?_) (fun c3 => ?_)
    · have hw := hw.1 c3
      refine lv_aload_n hx hb d_Vlt_entryOf_32 rfl (lv_at hl 1 rfl) ?_
      refine w_getf (q := (stC o 10)) (k := 10) (t := 6) (C := R_Vlt) (T := F_Vlt) (N := 20) hx hb hT hown hK hW fo.1 fo.2 (by decide) in_Vlt rfl rfl (by decide) rfl fr_Vlt_10 w_2_154 d_Vlt_entryOf_33 rfl ?_
      refine lv_iload_n hx hb d_Vlt_entryOf_36 rfl (lv_at hl 0 rfl) ?_
      obtain ⟨hi, hw⟩ := hw
      refine w_iald (o := (stC o 10)) hx hb hK hW (st_ty hNN fo.1 fo.2 rfl).1 (st_ty hNN fo.1 fo.2 rfl).2 hi d_Vlt_entryOf_37 ?_
      exact hret (rA x (stC o 10) v1) x H locs 38 ls d_Vlt_entryOf_38 hw hW hS
    · have hw := hw.2 c3
      exact t_Vlt_entryOf_25 hx hb hml hown hT hK hN hA hRc hRs hRf hRl hNN hE hret  o l1 l2 v1 x H locs ls fo hw hW hS (lv_sub hl [1, 2, 3, 0] rfl)
set_option maxHeartbeats 4000000 in
set_option maxRecDepth 100000 in
theorem k_Vlt_entryOf (l : Launch) (dC : Nat → ClassId) (dI : Nat → Nat → Nat) (cI cB cJ cZ : ClassId) (ad : Nat → Nat) (NN : Nat) (E : Heap) (tM tC : Nat) (kK kV : Nat → Nat) (hNN : 152 ≤ NN) (sz : Nat) (o : Nat) (l1 : Int32) (l2 : Int32) (x : St) (fo : o < NN ∧ kcC o = 6) {post : Int32 → St → Prop} (hw : wp_Vlt_entryOf post o l1 l2 x) : Met l y_Vlt_entryOf (wsOf y_Vlt_entryOf b_Vlt_entryOf 4 (some (.int))) ({ frames := 0, cells := 0, slots := 0, locals := 0 }) (va_Pc [.ref (ad o), .int l1, .int l2] (PVc dC dI cI cB cJ cZ ad stC kcC NN E tM tC kK kV sz x)) (va_Qi (fun (r : Int32) (y : St) => post r y) (fun y t => Wd dC dI cI cB cJ cZ ad stC kcC NN (va_A (pic ad stC kcC NN cI cB cJ cZ x) sz) y t.heap) (va_A (pic ad stC kcC NN cI cB cJ cZ x) sz)) 0 0 (va_A (pic ad stC kcC NN cI cB cJ cZ x) sz) := by
  refine Met.ofW (cc := b_Vlt_entryOf) (maxL := 4) (ret := some (.int)) (by decide) rfl ?_
  intro p e s m args below meth c s₁ B hml hv
  obtain ⟨rfl, ⟨hsz, hW0, hK, hN⟩, hE⟩ := hv
  have hx := B.exec
  have hb := B.bytes
  have hr := B.returns
  have hts := atoms_spec B.pre
  have hT : ∀ w ∈ TG, w.before _ s = true := fun w h => hts w (List.mem_cons_of_mem _ h)
  have hown : s.vm.findClass R_Vlt = some m.cls := findClass_of_methodNamed B.named
  have hlocks := B.notSynchronized
  subst hsz
  have hW : Wd dC dI cI cB cJ cZ ad stC kcC NN (va_A (pic ad stC kcC NN cI cB cJ cZ x) s.heap.size) x s.heap := ⟨hW0.1, hW0.2.1.self (sz := s.heap.size), hW0.2.2⟩
  generalize hAe : va_A (pic ad stC kcC NN cI cB cJ cZ x) s.heap.size = A at hW hE ⊢
  have hA : ∀ q : Nat, s.heap.size ≤ q → A q := fun q h => by rw [← hAe]; exact Or.inr h
  have hS : va_S A s.heap s.heap [] := va_S.rf
  have hl := lv_entry ([.ref (ad o), .int l1, .int l2]) (n := 4) (Nat.le_of_ble_eq_true rfl)
  rw [lg_entry_eq]
  generalize (lg_sl ([.ref (ad o), .int l1, .int l2]) ++ List.replicate (4 - (lg_sl ([.ref (ad o), .int l1, .int l2])).length) Slot.unset).toArray = ls at hl ⊢
  have hl : lv_has ls 4 [(0, .ref (ad o)), (1, .int l1), (2, .int l2)] := hl
  exact t_Vlt_entryOf_e hx hb hml hown hT hK hN hA (Nat.le_refl 0) (Nat.le_refl 0) (Nat.le_refl 0) (Nat.le_refl 0) hNN hE (fun r x H locs pc ls hd hp hW hS => W.iret (v := r) hx hb hr (fun t ht hM => ⟨⟨r, x, rfl, hp, Wd.back hW ht.symm (fun _ z => z)⟩, hS.F ht⟩) hS.2.2 hd hlocks)  o l1 l2 x _ _ ls fo hw hW hS hl
set_option maxRecDepth 100000 in
set_option maxHeartbeats 4000000 in
set_option maxRecDepth 100000 in
theorem t_Asm_passBy_36 {p : Program} {l : Launch} {e : Env} {R : Room} {s : State} {m : MethodId} {args : Array Value} {below : List Frame} {meth : Method} {c : Code} {cells slots : Nat} {Q : State → Prop} {dC : Nat → ClassId} {dI : Nat → Nat → Nat} {cI cB cJ cZ : ClassId} {A : Nat → Prop} {ad : Nat → Nat} {NN : Nat} {E : Heap} {tM tC : Nat} {kK kV : Nat → Nat} {post : St → Prop} {rec36 : Nat → Int32 → Int32 → Int32 → St → Prop} (hx : p.tables.exec = Jvm.exec) (hb : c.code = b_Asm_passBy) (hml : c.maxLocals = 4) (hown : s.vm.findClass R_Asm = some m.cls) (hT : ∀ w ∈ TG, w.before args s = true) (hK : va_K (dC, dI) CL (TY cI cB cJ cZ) s) (hN : NW s) (hA : ∀ q : Nat, s.heap.size ≤ q → A q) (hRc : cells ≤ R.cells) (hRs : slots ≤ R.slots) (hRf : 1 ≤ R.frames) (hRl : 21 ≤ R.locals) (hNN : 152 ≤ NN) (hE : CE E tM tC kK kV A s) (hret : ∀ (x : St) (H : Heap) (locs : List Loc) (pc : Nat) (ls : Array Slot), decode b_Asm_passBy pc = .ok (.return_, 1) → post x → Wd dC dI cI cB cJ cZ ad stC kcC NN A x H → va_S A s.heap H locs → W p l e R s m args below meth c H locs cells slots Q (F0 m pc ls [])) (hrec36 : ∀ (o : Nat) (l1 : Int32) (l2 : Int32) (l3 : Int32) (x : St) (H : Heap) (locs : List Loc) (ls : Array Slot), (o < NN ∧ kcC o = 11) → rec36 o l1 l2 l3 x → Wd dC dI cI cB cJ cZ ad stC kcC NN A x H → va_S A s.heap H locs → lv_has ls 4 [(0, .ref (ad o)), (1, .int l1), (2, .int l2), (3, .int l3)] → W p l e R s m args below meth c H locs cells slots Q (F0 m 36 ls [])) : ∀ (o : Nat) (l1 : Int32) (l2 : Int32) (l3 : Int32) (x : St) (H : Heap) (locs : List Loc) (ls : Array Slot), (o < NN ∧ kcC o = 11) → j_Asm_passBy_36 post rec36 o l1 l2 l3 x → Wd dC dI cI cB cJ cZ ad stC kcC NN A x H → va_S A s.heap H locs → lv_has ls 4 [(0, .ref (ad o)), (1, .int l1), (2, .int l2), (3, .int l3)] → W p l e R s m args below meth c H locs cells slots Q (F0 m 36 ls []) := by
  intro o l1 l2 l3 x H locs ls fo hw hW hS hl
  unfold j_Asm_passBy_36 at hw
  refine lv_iload_n hx hb d_Asm_passBy_36 rfl (lv_at hl 3 rfl) ?_
  refine lv_iload_n hx hb d_Asm_passBy_37 rfl (lv_at hl 2 rfl) ?_
  refine lv_icmp_ge (tgt := 57) hx hb d_Asm_passBy_38 (by decide) (fun c1 => ?_) (fun c1 => ?_)
  · have hw := hw.1 c1
    exact hret x H locs 57 ls d_Asm_passBy_57 hw hW hS
  · have hw := hw.2 c1
    refine lv_aload_n hx hb d_Asm_passBy_41 rfl (lv_at hl 0 rfl) ?_
    refine w_getf (q := (stC o 2)) (k := 2) (t := 11) (C := R_Asm) (T := F_Asm) (N := 4) hx hb hT hown hK hW fo.1 fo.2 (by decide) in_Asm rfl rfl (by decide) rfl fr_Asm_2 w_3_224 d_Asm_passBy_42 rfl ?_
    refine lv_iload_n hx hb d_Asm_passBy_45 rfl (lv_at hl 3 rfl) ?_
    refine lv_dup2_11 hx hb d_Asm_passBy_46 rfl rfl ?_
    obtain ⟨hi, hw⟩ := hw
    refine w_iald (o := (stC o 2)) hx hb hK hW (st_ty hNN fo.1 fo.2 rfl).1 (st_ty hNN fo.1 fo.2 rfl).2 hi d_Asm_passBy_47 ?_
    refine lv_iconst (v := 1) hx hb d_Asm_passBy_48 (by decide) ?_
    refine lv_iadd hx hb d_Asm_passBy_49 ?_
    obtain ⟨hi, hw⟩ := hw
    refine w_iast (o := (stC o 2)) hx hb hK hW hS (st_ty hNN fo.1 fo.2 rfl).1 (st_ty hNN fo.1 fo.2 rfl).2 hi d_Asm_passBy_50 (fun H locs hW hS => ?_)
    obtain ⟨x2, ex2⟩ : ∃ y : St, y = setA x (stC o 2) l3 ((rA x (stC o 2) l3) + 1) := ⟨_, rfl⟩
    rw [← ex2] at hW
    have hw := hw x2 ex2
    refine lv_iinc (v := (l3 + 1)) (lv' := [(3, .int (l3 + 1)), (0, .ref (ad o)), (1, .int l1), (2, .int l2)]) hx hb d_Asm_passBy_51 hl (k := 3) rfl rfl (by decide) rfl (fun ls hl => ?_)
    refine lv_goto (tgt := 36) hx hb d_Asm_passBy_54 (by decide) ?_
    exact hrec36 o l1 l2 (l3 + 1) x2 H locs ls fo hw hW hS (lv_sub hl [1, 2, 3, 0] rfl)
set_option maxHeartbeats 4000000 in
set_option maxRecDepth 100000 in
theorem tl_Asm_passBy_36 {p : Program} {l : Launch} {e : Env} {R : Room} {s : State} {m : MethodId} {args : Array Value} {below : List Frame} {meth : Method} {c : Code} {cells slots : Nat} {Q : State → Prop} {dC : Nat → ClassId} {dI : Nat → Nat → Nat} {cI cB cJ cZ : ClassId} {A : Nat → Prop} {ad : Nat → Nat} {NN : Nat} {E : Heap} {tM tC : Nat} {kK kV : Nat → Nat} {post : St → Prop} (hx : p.tables.exec = Jvm.exec) (hb : c.code = b_Asm_passBy) (hml : c.maxLocals = 4) (hown : s.vm.findClass R_Asm = some m.cls) (hT : ∀ w ∈ TG, w.before args s = true) (hK : va_K (dC, dI) CL (TY cI cB cJ cZ) s) (hN : NW s) (hA : ∀ q : Nat, s.heap.size ≤ q → A q) (hRc : cells ≤ R.cells) (hRs : slots ≤ R.slots) (hRf : 1 ≤ R.frames) (hRl : 21 ≤ R.locals) (hNN : 152 ≤ NN) (hE : CE E tM tC kK kV A s) (hret : ∀ (x : St) (H : Heap) (locs : List Loc) (pc : Nat) (ls : Array Slot), decode b_Asm_passBy pc = .ok (.return_, 1) → post x → Wd dC dI cI cB cJ cZ ad stC kcC NN A x H → va_S A s.heap H locs → W p l e R s m args below meth c H locs cells slots Q (F0 m pc ls []))  : ∀ n : Nat, ∀ (o : Nat) (l1 : Int32) (l2 : Int32) (l3 : Int32) (x : St) (H : Heap) (locs : List Loc) (ls : Array Slot), (o < NN ∧ kcC o = 11) → wl_Asm_passBy_36 post n o l1 l2 l3 x → Wd dC dI cI cB cJ cZ ad stC kcC NN A x H → va_S A s.heap H locs → lv_has ls 4 [(0, .ref (ad o)), (1, .int l1), (2, .int l2), (3, .int l3)] → W p l e R s m args below meth c H locs cells slots Q (F0 m 36 ls []) := by
  intro n
  induction n with
  | zero => intro o l1 l2 l3 x H locs ls fo hw; exact hw.elim
  | succ n ih => intro o l1 l2 l3 x H locs ls fo hw hW hS hl; exact t_Asm_passBy_36 hx hb hml hown hT hK hN hA hRc hRs hRf hRl hNN hE hret  ih o l1 l2 l3 x H locs ls fo hw hW hS hl
set_option maxRecDepth 100000 in
set_option maxHeartbeats 4000000 in
set_option maxRecDepth 100000 in
theorem t_Asm_passBy_e {p : Program} {l : Launch} {e : Env} {R : Room} {s : State} {m : MethodId} {args : Array Value} {below : List Frame} {meth : Method} {c : Code} {cells slots : Nat} {Q : State → Prop} {dC : Nat → ClassId} {dI : Nat → Nat → Nat} {cI cB cJ cZ : ClassId} {A : Nat → Prop} {ad : Nat → Nat} {NN : Nat} {E : Heap} {tM tC : Nat} {kK kV : Nat → Nat} {post : St → Prop} (hx : p.tables.exec = Jvm.exec) (hb : c.code = b_Asm_passBy) (hml : c.maxLocals = 4) (hown : s.vm.findClass R_Asm = some m.cls) (hT : ∀ w ∈ TG, w.before args s = true) (hK : va_K (dC, dI) CL (TY cI cB cJ cZ) s) (hN : NW s) (hA : ∀ q : Nat, s.heap.size ≤ q → A q) (hRc : cells ≤ R.cells) (hRs : slots ≤ R.slots) (hRf : 1 ≤ R.frames) (hRl : 21 ≤ R.locals) (hNN : 152 ≤ NN) (hE : CE E tM tC kK kV A s) (hret : ∀ (x : St) (H : Heap) (locs : List Loc) (pc : Nat) (ls : Array Slot), decode b_Asm_passBy pc = .ok (.return_, 1) → post x → Wd dC dI cI cB cJ cZ ad stC kcC NN A x H → va_S A s.heap H locs → W p l e R s m args below meth c H locs cells slots Q (F0 m pc ls [])) : ∀ (o : Nat) (l1 : Int32) (x : St) (H : Heap) (locs : List Loc) (ls : Array Slot), (o < NN ∧ kcC o = 11) → wp_Asm_passBy post o l1 x → Wd dC dI cI cB cJ cZ ad stC kcC NN A x H → va_S A s.heap H locs → lv_has ls 4 [(0, .ref (ad o)), (1, .int l1)] → W p l e R s m args below meth c H locs cells slots Q (F0 m 0 ls []) := by
  intro o l1 x H locs ls fo hw hW hS hl
  unfold wp_Asm_passBy at hw
  refine lv_aload_n hx hb d_Asm_passBy_0 rfl (lv_at hl 0 rfl) ?_
  refine w_getf (q := (stC o 1)) (k := 1) (t := 11) (C := R_Asm) (T := F_Asm) (N := 4) hx hb hT hown hK hW fo.1 fo.2 (by decide) in_Asm rfl rfl (by decide) rfl fr_Asm_1 w_3_223 d_Asm_passBy_1 rfl ?_
  refine w_getf (q := (stC (stC o 1) 5)) (k := 5) (t := 6) (C := R_Vlt) (T := F_Vlt) (N := 20) hx hb hT hown hK hW (st_ty hNN fo.1 fo.2 rfl).1 (st_ty hNN fo.1 fo.2 rfl).2 (by decide) in_Vlt rfl rfl (by decide) rfl fr_Vlt_5 w_2_135 d_Asm_passBy_4 rfl ?_
  refine lv_aload_n hx hb d_Asm_passBy_7 rfl (lv_at hl 0 rfl) ?_
  refine w_getf (q := (stC o 1)) (k := 1) (t := 11) (C := R_Asm) (T := F_Asm) (N := 4) hx hb hT hown hK hW fo.1 fo.2 (by decide) in_Asm rfl rfl (by decide) rfl fr_Asm_1 w_3_223 d_Asm_passBy_8 rfl ?_
  refine w_getf (q := (stC (stC o 1) 5)) (k := 5) (t := 6) (C := R_Vlt) (T := F_Vlt) (N := 20) hx hb hT hown hK hW (st_ty hNN fo.1 fo.2 rfl).1 (st_ty hNN fo.1 fo.2 rfl).2 (by decide) in_Vlt rfl rfl (by decide) rfl fr_Vlt_5 w_2_135 d_Asm_passBy_11 rfl ?_
  refine w_getf (q := (stC (stC (stC o 1) 5) 8)) (k := 8) (t := 3) (C := R_Sch) (T := F_Sch) (N := 13) hx hb hT hown hK hW (st_ty hNN (st_ty hNN fo.1 fo.2 rfl).1 (st_ty hNN fo.1 fo.2 rfl).2 rfl).1 (st_ty hNN (st_ty hNN fo.1 fo.2 rfl).1 (st_ty hNN fo.1 fo.2 rfl).2 rfl).2 (by decide) in_Sch rfl rfl (by decide) rfl fr_Sch_8 w_1_170 d_Asm_passBy_14 rfl ?_
  refine lv_iload_n hx hb d_Asm_passBy_17 rfl (lv_at hl 1 rfl) ?_
  obtain ⟨hi, hw⟩ := hw
  refine w_iald (o := (stC (stC (stC o 1) 5) 8)) hx hb hK hW (st_ty hNN (st_ty hNN (st_ty hNN fo.1 fo.2 rfl).1 (st_ty hNN fo.1 fo.2 rfl).2 rfl).1 (st_ty hNN (st_ty hNN fo.1 fo.2 rfl).1 (st_ty hNN fo.1 fo.2 rfl).2 rfl).2 rfl).1 (st_ty hNN (st_ty hNN (st_ty hNN fo.1 fo.2 rfl).1 (st_ty hNN fo.1 fo.2 rfl).2 rfl).1 (st_ty hNN (st_ty hNN fo.1 fo.2 rfl).1 (st_ty hNN fo.1 fo.2 rfl).2 rfl).2 rfl).2 hi d_Asm_passBy_18 ?_
  have hF := hW.free hS hA
  refine va_calli (va_runV (C := R_Sch) (As := [.int (rA x (stC (stC (stC o 1) 5) 8) l1)]) (rest := []) ⟨hx, hb, hml, hown, hT⟩ (k_Sch_columnsBefore l dC dI cI cB cJ cZ ad NN E tM tC kK kV hNN H.size (stC (stC o 1) 5) (rA x (stC (stC (stC o 1) 5) 8) l1) x (st_ty hNN (st_ty hNN fo.1 fo.2 rfl).1 (st_ty hNN fo.1 fo.2 rfl).2 rfl) hw) ⟨callB_of 1 hT (gwt_in w_5_46) rfl rfl rfl (hT _ w_1_5) (hT _ w_7_97) (by decide +kernel) ⟨Nat.le_trans (Nat.le_of_ble_eq_true rfl) hRf, Nat.le_trans (Nat.le_of_ble_eq_true rfl) hRl⟩, hT _ w_5_44, hT _ w_5_45⟩ ⟨PVc.blind, va_recv hK hW.1 (ci := 3) (q0 := (stC (stC o 1) 5)) rfl (pic_obj (st_ty hNN (st_ty hNN fo.1 fo.2 rfl).1 (st_ty hNN fo.1 fo.2 rfl).2 rfl).1 (st_ty hNN (st_ty hNN fo.1 fo.2 rfl).1 (st_ty hNN fo.1 fo.2 rfl).2 rfl).2 (by decide)), PVc.at _ hW hK hN hE hS hF⟩ rfl rfl hl.1 rfl (lv_room (Nat.le_of_ble_eq_true rfl)) d_Asm_passBy_19 ⟨hRc, hRs⟩) hS (fun q _ h => hF q h) hF (fun r4 x3 t H locs ht hvm hw hB hz1 hk1 hS => ?_)
  have hW := Wd.back hB ht hF
  clear hB ht hF hz1 hk1 hvm
  refine lv_istore_n (lv' := [(2, .int r4), (0, .ref (ad o)), (1, .int l1)]) hx hb d_Asm_passBy_22 rfl hl (by decide) rfl (fun ls hl => ?_)
  refine lv_aload_n hx hb d_Asm_passBy_23 rfl (lv_at hl 1 rfl) ?_
  refine w_getf (q := (stC o 1)) (k := 1) (t := 11) (C := R_Asm) (T := F_Asm) (N := 4) hx hb hT hown hK hW fo.1 fo.2 (by decide) in_Asm rfl rfl (by decide) rfl fr_Asm_1 w_3_223 d_Asm_passBy_24 rfl ?_
  refine w_getf (q := (stC (stC o 1) 5)) (k := 5) (t := 6) (C := R_Vlt) (T := F_Vlt) (N := 20) hx hb hT hown hK hW (st_ty hNN fo.1 fo.2 rfl).1 (st_ty hNN fo.1 fo.2 rfl).2 (by decide) in_Vlt rfl rfl (by decide) rfl fr_Vlt_5 w_2_135 d_Asm_passBy_27 rfl ?_
  refine w_getf (q := (stC (stC (stC o 1) 5) 9)) (k := 9) (t := 3) (C := R_Sch) (T := F_Sch) (N := 13) hx hb hT hown hK hW (st_ty hNN (st_ty hNN fo.1 fo.2 rfl).1 (st_ty hNN fo.1 fo.2 rfl).2 rfl).1 (st_ty hNN (st_ty hNN fo.1 fo.2 rfl).1 (st_ty hNN fo.1 fo.2 rfl).2 rfl).2 (by decide) in_Sch rfl rfl (by decide) rfl fr_Sch_9 w_1_174 d_Asm_passBy_30 rfl ?_
  refine lv_iload_n hx hb d_Asm_passBy_33 rfl (lv_at hl 2 rfl) ?_
  obtain ⟨hi, hw⟩ := hw
  refine w_iald (o := (stC (stC (stC o 1) 5) 9)) hx hb hK hW (st_ty hNN (st_ty hNN (st_ty hNN fo.1 fo.2 rfl).1 (st_ty hNN fo.1 fo.2 rfl).2 rfl).1 (st_ty hNN (st_ty hNN fo.1 fo.2 rfl).1 (st_ty hNN fo.1 fo.2 rfl).2 rfl).2 rfl).1 (st_ty hNN (st_ty hNN (st_ty hNN fo.1 fo.2 rfl).1 (st_ty hNN fo.1 fo.2 rfl).2 rfl).1 (st_ty hNN (st_ty hNN fo.1 fo.2 rfl).1 (st_ty hNN fo.1 fo.2 rfl).2 rfl).2 rfl).2 hi d_Asm_passBy_34 ?_
  refine lv_topi (fun v5 ev5 => ?_)
  have hw := hw v5 ev5
  refine lv_istore_n (lv' := [(3, .int v5), (2, .int r4), (0, .ref (ad o)), (1, .int l1)]) hx hb d_Asm_passBy_35 rfl hl (by decide) rfl (fun ls hl => ?_)
  obtain ⟨n, hw⟩ := hw
  exact tl_Asm_passBy_36 hx hb hml hown hT hK hN hA hRc hRs hRf hRl hNN hE hret  n o l1 r4 v5 x3 H locs ls fo hw hW hS (lv_sub hl [2, 3, 1, 0] rfl)
set_option maxHeartbeats 4000000 in
set_option maxRecDepth 100000 in
theorem k_Asm_passBy (l : Launch) (dC : Nat → ClassId) (dI : Nat → Nat → Nat) (cI cB cJ cZ : ClassId) (ad : Nat → Nat) (NN : Nat) (E : Heap) (tM tC : Nat) (kK kV : Nat → Nat) (hNN : 152 ≤ NN) (sz : Nat) (o : Nat) (l1 : Int32) (x : St) (fo : o < NN ∧ kcC o = 11) {post : St → Prop} (hw : wp_Asm_passBy post o l1 x) : Met l y_Asm_passBy (wsOf y_Asm_passBy b_Asm_passBy 4 (none)) ({ frames := 1, cells := 0, slots := 0, locals := 21 }) (va_Pc [.ref (ad o), .int l1] (PVc dC dI cI cB cJ cZ ad stC kcC NN E tM tC kK kV sz x)) (va_Qv (fun (y : St) => post y) (fun y t => Wd dC dI cI cB cJ cZ ad stC kcC NN (va_A (pic ad stC kcC NN cI cB cJ cZ x) sz) y t.heap) (va_A (pic ad stC kcC NN cI cB cJ cZ x) sz)) 0 0 (va_A (pic ad stC kcC NN cI cB cJ cZ x) sz) := by
  refine Met.ofW (cc := b_Asm_passBy) (maxL := 4) (ret := none) (by decide) rfl ?_
  intro p e s m args below meth c s₁ B hml hv
  obtain ⟨rfl, ⟨hsz, hW0, hK, hN⟩, hE⟩ := hv
  have hx := B.exec
  have hb := B.bytes
  have hr := B.returns
  have hts := atoms_spec B.pre
  have hT : ∀ w ∈ TG, w.before _ s = true := fun w h => hts w (List.mem_cons_of_mem _ h)
  have hown : s.vm.findClass R_Asm = some m.cls := findClass_of_methodNamed B.named
  have hlocks := B.notSynchronized
  subst hsz
  have hW : Wd dC dI cI cB cJ cZ ad stC kcC NN (va_A (pic ad stC kcC NN cI cB cJ cZ x) s.heap.size) x s.heap := ⟨hW0.1, hW0.2.1.self (sz := s.heap.size), hW0.2.2⟩
  generalize hAe : va_A (pic ad stC kcC NN cI cB cJ cZ x) s.heap.size = A at hW hE ⊢
  have hA : ∀ q : Nat, s.heap.size ≤ q → A q := fun q h => by rw [← hAe]; exact Or.inr h
  have hS : va_S A s.heap s.heap [] := va_S.rf
  have hl := lv_entry ([.ref (ad o), .int l1]) (n := 4) (Nat.le_of_ble_eq_true rfl)
  rw [lg_entry_eq]
  generalize (lg_sl ([.ref (ad o), .int l1]) ++ List.replicate (4 - (lg_sl ([.ref (ad o), .int l1])).length) Slot.unset).toArray = ls at hl ⊢
  have hl : lv_has ls 4 [(0, .ref (ad o)), (1, .int l1)] := hl
  exact t_Asm_passBy_e hx hb hml hown hT hK hN hA (Nat.le_refl 0) (Nat.le_refl 0) (Nat.le_refl 1) (Nat.le_refl 21) hNN hE (fun x H locs pc ls hd hp hW hS => W.vret hx hb hr (fun t ht hM => ⟨⟨x, rfl, hp, Wd.back hW ht.symm (fun _ z => z)⟩, hS.F ht⟩) hS.2.2 hd hlocks)  o l1 x _ _ ls fo hw hW hS hl
set_option maxRecDepth 100000 in
set_option maxHeartbeats 4000000 in
set_option maxRecDepth 100000 in
theorem t_Asm_hexDigit_e {p : Program} {l : Launch} {e : Env} {R : Room} {s : State} {m : MethodId} {args : Array Value} {below : List Frame} {meth : Method} {c : Code} {cells slots : Nat} {Q : State → Prop} {dC : Nat → ClassId} {dI : Nat → Nat → Nat} {cI cB cJ cZ : ClassId} {A : Nat → Prop} {ad : Nat → Nat} {NN : Nat} {E : Heap} {tM tC : Nat} {kK kV : Nat → Nat} {post : Int32 → St → Prop} (hx : p.tables.exec = Jvm.exec) (hb : c.code = b_Asm_hexDigit) (hml : c.maxLocals = 1) (hown : s.vm.findClass R_Asm = some m.cls) (hT : ∀ w ∈ TG, w.before args s = true) (hK : va_K (dC, dI) CL (TY cI cB cJ cZ) s) (hN : NW s) (hA : ∀ q : Nat, s.heap.size ≤ q → A q) (hRc : cells ≤ R.cells) (hRs : slots ≤ R.slots) (hRf : 0 ≤ R.frames) (hRl : 0 ≤ R.locals) (hNN : 152 ≤ NN) (hE : CE E tM tC kK kV A s) (hret : ∀ (r : Int32) (x : St) (H : Heap) (locs : List Loc) (pc : Nat) (ls : Array Slot), decode b_Asm_hexDigit pc = .ok (.ireturn, 1) → post r x → Wd dC dI cI cB cJ cZ ad stC kcC NN A x H → va_S A s.heap H locs → W p l e R s m args below meth c H locs cells slots Q (F0 m pc ls [.int r])) : ∀ (l0 : Int32) (x : St) (H : Heap) (locs : List Loc) (ls : Array Slot), wp_Asm_hexDigit post l0 x → Wd dC dI cI cB cJ cZ ad stC kcC NN A x H → va_S A s.heap H locs → lv_has ls 1 [(0, .int l0)] → W p l e R s m args below meth c H locs cells slots Q (F0 m 0 ls []) := by
  intro l0 x H locs ls  hw hW hS hl
  unfold wp_Asm_hexDigit at hw
  refine lv_iload_n hx hb d_Asm_hexDigit_0 rfl (lv_at hl 0 rfl) ?_
  refine lv_bipush (v := 10) hx hb d_Asm_hexDigit_1 (by decide) ?_
  refine lv_icmp_ge (tgt := 13) hx hb d_Asm_hexDigit_3 (by decide) (fun c1 => ?_) (fun c1 => ?_)
  · have hw := hw.1 c1
    refine lv_bipush (v := 97) hx hb d_Asm_hexDigit_13 (by decide) ?_
    refine lv_iload_n hx hb d_Asm_hexDigit_15 rfl (lv_at hl 0 rfl) ?_
    refine lv_iadd hx hb d_Asm_hexDigit_16 ?_
    refine lv_bipush (v := 10) hx hb d_Asm_hexDigit_17 (by decide) ?_
    refine lv_isub hx hb d_Asm_hexDigit_19 ?_
    exact hret ((97 + l0) - 10) x H locs 20 ls d_Asm_hexDigit_20 hw hW hS
  · have hw := hw.2 c1
    refine lv_bipush (v := 48) hx hb d_Asm_hexDigit_6 (by decide) ?_
    refine lv_iload_n hx hb d_Asm_hexDigit_8 rfl (lv_at hl 0 rfl) ?_
    refine lv_iadd hx hb d_Asm_hexDigit_9 ?_
    refine lv_goto (tgt := 20) hx hb d_Asm_hexDigit_10 (by decide) ?_
    exact hret (48 + l0) x H locs 20 ls d_Asm_hexDigit_20 hw hW hS
set_option maxHeartbeats 4000000 in
set_option maxRecDepth 100000 in
theorem k_Asm_hexDigit (l : Launch) (dC : Nat → ClassId) (dI : Nat → Nat → Nat) (cI cB cJ cZ : ClassId) (ad : Nat → Nat) (NN : Nat) (E : Heap) (tM tC : Nat) (kK kV : Nat → Nat) (hNN : 152 ≤ NN) (sz : Nat) (l0 : Int32) (x : St) {post : Int32 → St → Prop} (hw : wp_Asm_hexDigit post l0 x) : Met l y_Asm_hexDigit (wsOf y_Asm_hexDigit b_Asm_hexDigit 1 (some (.int))) ({ frames := 0, cells := 0, slots := 0, locals := 0 }) (va_Pc [.int l0] (PVc dC dI cI cB cJ cZ ad stC kcC NN E tM tC kK kV sz x)) (va_Qi (fun (r : Int32) (y : St) => post r y) (fun y t => Wd dC dI cI cB cJ cZ ad stC kcC NN (va_A (pic ad stC kcC NN cI cB cJ cZ x) sz) y t.heap) (va_A (pic ad stC kcC NN cI cB cJ cZ x) sz)) 0 0 (va_A (pic ad stC kcC NN cI cB cJ cZ x) sz) := by
  refine Met.ofW (cc := b_Asm_hexDigit) (maxL := 1) (ret := some (.int)) (by decide) rfl ?_
  intro p e s m args below meth c s₁ B hml hv
  obtain ⟨rfl, ⟨hsz, hW0, hK, hN⟩, hE⟩ := hv
  have hx := B.exec
  have hb := B.bytes
  have hr := B.returns
  have hts := atoms_spec B.pre
  have hT : ∀ w ∈ TG, w.before _ s = true := fun w h => hts w (List.mem_cons_of_mem _ h)
  have hown : s.vm.findClass R_Asm = some m.cls := findClass_of_methodNamed B.named
  have hlocks := B.notSynchronized
  subst hsz
  have hW : Wd dC dI cI cB cJ cZ ad stC kcC NN (va_A (pic ad stC kcC NN cI cB cJ cZ x) s.heap.size) x s.heap := ⟨hW0.1, hW0.2.1.self (sz := s.heap.size), hW0.2.2⟩
  generalize hAe : va_A (pic ad stC kcC NN cI cB cJ cZ x) s.heap.size = A at hW hE ⊢
  have hA : ∀ q : Nat, s.heap.size ≤ q → A q := fun q h => by rw [← hAe]; exact Or.inr h
  have hS : va_S A s.heap s.heap [] := va_S.rf
  have hl := lv_entry ([.int l0]) (n := 1) (Nat.le_of_ble_eq_true rfl)
  rw [lg_entry_eq]
  generalize (lg_sl ([.int l0]) ++ List.replicate (1 - (lg_sl ([.int l0])).length) Slot.unset).toArray = ls at hl ⊢
  have hl : lv_has ls 1 [(0, .int l0)] := hl
  exact t_Asm_hexDigit_e hx hb hml hown hT hK hN hA (Nat.le_refl 0) (Nat.le_refl 0) (Nat.le_refl 0) (Nat.le_refl 0) hNN hE (fun r x H locs pc ls hd hp hW hS => W.iret (v := r) hx hb hr (fun t ht hM => ⟨⟨r, x, rfl, hp, Wd.back hW ht.symm (fun _ z => z)⟩, hS.F ht⟩) hS.2.2 hd hlocks)  l0 x _ _ ls  hw hW hS hl
set_option maxRecDepth 100000 in
set_option maxHeartbeats 4000000 in
set_option maxRecDepth 100000 in
theorem t_Qry_readItemForm_e {p : Program} {l : Launch} {e : Env} {R : Room} {s : State} {m : MethodId} {args : Array Value} {below : List Frame} {meth : Method} {c : Code} {cells slots : Nat} {Q : State → Prop} {dC : Nat → ClassId} {dI : Nat → Nat → Nat} {cI cB cJ cZ : ClassId} {A : Nat → Prop} {ad : Nat → Nat} {NN : Nat} {E : Heap} {tM tC : Nat} {kK kV : Nat → Nat} {post : Int32 → St → Prop} (hx : p.tables.exec = Jvm.exec) (hb : c.code = b_Qry_readItemForm) (hml : c.maxLocals = 1) (hown : s.vm.findClass R_Qry = some m.cls) (hT : ∀ w ∈ TG, w.before args s = true) (hK : va_K (dC, dI) CL (TY cI cB cJ cZ) s) (hN : NW s) (hA : ∀ q : Nat, s.heap.size ≤ q → A q) (hRc : cells ≤ R.cells) (hRs : slots ≤ R.slots) (hRf : 6 ≤ R.frames) (hRl : 243 ≤ R.locals) (hNN : 152 ≤ NN) (hE : CE E tM tC kK kV A s) (hret : ∀ (r : Int32) (x : St) (H : Heap) (locs : List Loc) (pc : Nat) (ls : Array Slot), decode b_Qry_readItemForm pc = .ok (.ireturn, 1) → post r x → Wd dC dI cI cB cJ cZ ad stC kcC NN A x H → va_S A s.heap H locs → W p l e R s m args below meth c H locs cells slots Q (F0 m pc ls [.int r])) : ∀ (o : Nat) (x : St) (H : Heap) (locs : List Loc) (ls : Array Slot), (o < NN ∧ kcC o = 9) → wp_Qry_readItemForm post o x → Wd dC dI cI cB cJ cZ ad stC kcC NN A x H → va_S A s.heap H locs → lv_has ls 1 [(0, .ref (ad o))] → W p l e R s m args below meth c H locs cells slots Q (F0 m 0 ls []) := by
  intro o x H locs ls fo hw hW hS hl
  unfold wp_Qry_readItemForm at hw
  refine lv_aload_n hx hb d_Qry_readItemForm_0 rfl (lv_at hl 0 rfl) ?_
  obtain ⟨q1, hq1, hw⟩ := hw
  refine w_getr (q := q1) (k := 17) (t := 9) (C := R_Qry) (T := F_Qry) (N := 20) hx hb hT hown hK hW fo.1 fo.2 (by decide) in_Qry rfl rfl (by decide) rfl fr_Qry_17 w_3_105 d_Qry_readItemForm_1 hq1 (fun aq1 bq1 => ?_)
  have fq1 : q1 < NN ∧ kcC q1 = 2 := ⟨aq1, bq1⟩
  refine va_ldcS hx hb hown (hE.str 14 (by decide)) d_Qry_readItemForm_4 ?_
  have hF := hW.free hS hA
  refine va_calli (va_runV (C := R_Scn) (As := [.ref (kK 12)]) (rest := []) ⟨hx, hb, hml, hown, hT⟩ (k_Scn_takeWord l dC dI cI cB cJ cZ ad NN E tM tC kK kV hNN H.size q1 12 x fq1 (by decide) hw) ⟨callB_of 1 hT (gwt_in w_4_141) rfl rfl rfl (hT _ w_1_4) (hT _ w_7_159) (by decide +kernel) ⟨Nat.le_trans (Nat.le_of_ble_eq_true rfl) hRf, Nat.le_trans (Nat.le_of_ble_eq_true rfl) hRl⟩, hT _ w_4_139, hT _ w_4_140⟩ ⟨PVc.blind, va_recv hK hW.1 (ci := 2) (q0 := q1) rfl (pic_obj fq1.1 fq1.2 (by decide)), PVc.at _ hW hK hN hE hS hF⟩ rfl rfl hl.1 rfl (lv_room (Nat.le_of_ble_eq_true rfl)) d_Qry_readItemForm_6 ⟨hRc, hRs⟩) hS (fun q _ h => hF q h) hF (fun r3 x2 t H locs ht hvm hw hB hz1 hk1 hS => ?_)
  have hW := Wd.back hB ht hF
  clear hB ht hF hz1 hk1 hvm
  refine lv_if_eq (tgt := 14) hx hb d_Qry_readItemForm_9 (by decide) (fun c4 => ?_) (fun c4 => ?_)
  · have hw := hw.1 c4
    refine lv_aload_n hx hb d_Qry_readItemForm_14 rfl (lv_at hl 0 rfl) ?_
    obtain ⟨q5, hq5, hw⟩ := hw
    refine w_getr (q := q5) (k := 17) (t := 9) (C := R_Qry) (T := F_Qry) (N := 20) hx hb hT hown hK hW fo.1 fo.2 (by decide) in_Qry rfl rfl (by decide) rfl fr_Qry_17 w_3_105 d_Qry_readItemForm_15 hq5 (fun aq5 bq5 => ?_)
    have fq5 : q5 < NN ∧ kcC q5 = 2 := ⟨aq5, bq5⟩
    refine va_ldcS hx hb hown (hE.str 15 (by decide)) d_Qry_readItemForm_18 ?_
    have hF := hW.free hS hA
    refine va_calli (va_runV (C := R_Scn) (As := [.ref (kK 13)]) (rest := []) ⟨hx, hb, hml, hown, hT⟩ (k_Scn_takeWord l dC dI cI cB cJ cZ ad NN E tM tC kK kV hNN H.size q5 13 x2 fq5 (by decide) hw) ⟨callB_of 1 hT (gwt_in w_4_141) rfl rfl rfl (hT _ w_1_4) (hT _ w_7_159) (by decide +kernel) ⟨Nat.le_trans (Nat.le_of_ble_eq_true rfl) hRf, Nat.le_trans (Nat.le_of_ble_eq_true rfl) hRl⟩, hT _ w_4_139, hT _ w_4_140⟩ ⟨PVc.blind, va_recv hK hW.1 (ci := 2) (q0 := q5) rfl (pic_obj fq5.1 fq5.2 (by decide)), PVc.at _ hW hK hN hE hS hF⟩ rfl rfl hl.1 rfl (lv_room (Nat.le_of_ble_eq_true rfl)) d_Qry_readItemForm_20 ⟨hRc, hRs⟩) hS (fun q _ h => hF q h) hF (fun r7 x6 t H locs ht hvm hw hB hz1 hk1 hS => ?_)
    have hW := Wd.back hB ht hF
    clear hB ht hF hz1 hk1 hvm
    refine lv_if_eq (tgt := 28) hx hb d_Qry_readItemForm_23 (by decide) (fun c8 => ?_) (fun c8 => ?_)
    · have hw := hw.1 c8
      refine lv_aload_n hx hb d_Qry_readItemForm_28 rfl (lv_at hl 0 rfl) ?_
      obtain ⟨q9, hq9, hw⟩ := hw
      refine w_getr (q := q9) (k := 17) (t := 9) (C := R_Qry) (T := F_Qry) (N := 20) hx hb hT hown hK hW fo.1 fo.2 (by decide) in_Qry rfl rfl (by decide) rfl fr_Qry_17 w_3_105 d_Qry_readItemForm_29 hq9 (fun aq9 bq9 => ?_)
      have fq9 : q9 < NN ∧ kcC q9 = 2 := ⟨aq9, bq9⟩
      refine va_ldcS hx hb hown (hE.str 16 (by decide)) d_Qry_readItemForm_32 ?_
      have hF := hW.free hS hA
      refine va_calli (va_runV (C := R_Scn) (As := [.ref (kK 14)]) (rest := []) ⟨hx, hb, hml, hown, hT⟩ (k_Scn_takeWord l dC dI cI cB cJ cZ ad NN E tM tC kK kV hNN H.size q9 14 x6 fq9 (by decide) hw) ⟨callB_of 1 hT (gwt_in w_4_141) rfl rfl rfl (hT _ w_1_4) (hT _ w_7_159) (by decide +kernel) ⟨Nat.le_trans (Nat.le_of_ble_eq_true rfl) hRf, Nat.le_trans (Nat.le_of_ble_eq_true rfl) hRl⟩, hT _ w_4_139, hT _ w_4_140⟩ ⟨PVc.blind, va_recv hK hW.1 (ci := 2) (q0 := q9) rfl (pic_obj fq9.1 fq9.2 (by decide)), PVc.at _ hW hK hN hE hS hF⟩ rfl rfl hl.1 rfl (lv_room (Nat.le_of_ble_eq_true rfl)) d_Qry_readItemForm_34 ⟨hRc, hRs⟩) hS (fun q _ h => hF q h) hF (fun r11 x10 t H locs ht hvm hw hB hz1 hk1 hS => ?_)
      have hW := Wd.back hB ht hF
      clear hB ht hF hz1 hk1 hvm
      refine lv_if_eq (tgt := 42) hx hb d_Qry_readItemForm_37 (by decide) (fun c12 => ?_) (fun c12 => ?_)
      · have hw := hw.1 c12
        refine lv_aload_n hx hb d_Qry_readItemForm_42 rfl (lv_at hl 0 rfl) ?_
        obtain ⟨q13, hq13, hw⟩ := hw
        refine w_getr (q := q13) (k := 17) (t := 9) (C := R_Qry) (T := F_Qry) (N := 20) hx hb hT hown hK hW fo.1 fo.2 (by decide) in_Qry rfl rfl (by decide) rfl fr_Qry_17 w_3_105 d_Qry_readItemForm_43 hq13 (fun aq13 bq13 => ?_)
        have fq13 : q13 < NN ∧ kcC q13 = 2 := ⟨aq13, bq13⟩
        refine va_ldcS hx hb hown (hE.str 17 (by decide)) d_Qry_readItemForm_46 ?_
        have hF := hW.free hS hA
        refine va_calli (va_runV (C := R_Scn) (As := [.ref (kK 15)]) (rest := []) ⟨hx, hb, hml, hown, hT⟩ (k_Scn_takeWord l dC dI cI cB cJ cZ ad NN E tM tC kK kV hNN H.size q13 15 x10 fq13 (by decide) hw) ⟨callB_of 1 hT (gwt_in w_4_141) rfl rfl rfl (hT _ w_1_4) (hT _ w_7_159) (by decide +kernel) ⟨Nat.le_trans (Nat.le_of_ble_eq_true rfl) hRf, Nat.le_trans (Nat.le_of_ble_eq_true rfl) hRl⟩, hT _ w_4_139, hT _ w_4_140⟩ ⟨PVc.blind, va_recv hK hW.1 (ci := 2) (q0 := q13) rfl (pic_obj fq13.1 fq13.2 (by decide)), PVc.at _ hW hK hN hE hS hF⟩ rfl rfl hl.1 rfl (lv_room (Nat.le_of_ble_eq_true rfl)) d_Qry_readItemForm_48 ⟨hRc, hRs⟩) hS (fun q _ h => hF q h) hF (fun r15 x14 t H locs ht hvm hw hB hz1 hk1 hS => ?_)
        have hW := Wd.back hB ht hF
        clear hB ht hF hz1 hk1 hvm
        refine lv_if_eq (tgt := 58) hx hb d_Qry_readItemForm_51 (by decide) (fun c16 => ?_) (fun c16 => ?_)
        · have hw := hw.1 c16
          refine lv_iconst (v := 0) hx hb d_Qry_readItemForm_58 (by decide) ?_
          exact hret 0 x14 H locs 59 ls d_Qry_readItemForm_59 hw hW hS
        · have hw := hw.2 c16
          refine lv_iconst (v := 5) hx hb d_Qry_readItemForm_54 (by decide) ?_
          refine lv_goto (tgt := 59) hx hb d_Qry_readItemForm_55 (by decide) ?_
          exact hret 5 x14 H locs 59 ls d_Qry_readItemForm_59 hw hW hS
      · have hw := hw.2 c12
        refine lv_iconst (v := 4) hx hb d_Qry_readItemForm_40 (by decide) ?_
        exact hret 4 x10 H locs 41 ls d_Qry_readItemForm_41 hw hW hS
    · have hw := hw.2 c8
      refine lv_iconst (v := 3) hx hb d_Qry_readItemForm_26 (by decide) ?_
      exact hret 3 x6 H locs 27 ls d_Qry_readItemForm_27 hw hW hS
  · have hw := hw.2 c4
    refine lv_iconst (v := 2) hx hb d_Qry_readItemForm_12 (by decide) ?_
    exact hret 2 x2 H locs 13 ls d_Qry_readItemForm_13 hw hW hS
set_option maxHeartbeats 4000000 in
set_option maxRecDepth 100000 in
theorem k_Qry_readItemForm (l : Launch) (dC : Nat → ClassId) (dI : Nat → Nat → Nat) (cI cB cJ cZ : ClassId) (ad : Nat → Nat) (NN : Nat) (E : Heap) (tM tC : Nat) (kK kV : Nat → Nat) (hNN : 152 ≤ NN) (sz : Nat) (o : Nat) (x : St) (fo : o < NN ∧ kcC o = 9) {post : Int32 → St → Prop} (hw : wp_Qry_readItemForm post o x) : Met l y_Qry_readItemForm (wsOf y_Qry_readItemForm b_Qry_readItemForm 1 (some (.int))) ({ frames := 6, cells := 0, slots := 0, locals := 243 }) (va_Pc [.ref (ad o)] (PVc dC dI cI cB cJ cZ ad stC kcC NN E tM tC kK kV sz x)) (va_Qi (fun (r : Int32) (y : St) => post r y) (fun y t => Wd dC dI cI cB cJ cZ ad stC kcC NN (va_A (pic ad stC kcC NN cI cB cJ cZ x) sz) y t.heap) (va_A (pic ad stC kcC NN cI cB cJ cZ x) sz)) 0 0 (va_A (pic ad stC kcC NN cI cB cJ cZ x) sz) := by
  refine Met.ofW (cc := b_Qry_readItemForm) (maxL := 1) (ret := some (.int)) (by decide) rfl ?_
  intro p e s m args below meth c s₁ B hml hv
  obtain ⟨rfl, ⟨hsz, hW0, hK, hN⟩, hE⟩ := hv
  have hx := B.exec
  have hb := B.bytes
  have hr := B.returns
  have hts := atoms_spec B.pre
  have hT : ∀ w ∈ TG, w.before _ s = true := fun w h => hts w (List.mem_cons_of_mem _ h)
  have hown : s.vm.findClass R_Qry = some m.cls := findClass_of_methodNamed B.named
  have hlocks := B.notSynchronized
  subst hsz
  have hW : Wd dC dI cI cB cJ cZ ad stC kcC NN (va_A (pic ad stC kcC NN cI cB cJ cZ x) s.heap.size) x s.heap := ⟨hW0.1, hW0.2.1.self (sz := s.heap.size), hW0.2.2⟩
  generalize hAe : va_A (pic ad stC kcC NN cI cB cJ cZ x) s.heap.size = A at hW hE ⊢
  have hA : ∀ q : Nat, s.heap.size ≤ q → A q := fun q h => by rw [← hAe]; exact Or.inr h
  have hS : va_S A s.heap s.heap [] := va_S.rf
  have hl := lv_entry ([.ref (ad o)]) (n := 1) (Nat.le_of_ble_eq_true rfl)
  rw [lg_entry_eq]
  generalize (lg_sl ([.ref (ad o)]) ++ List.replicate (1 - (lg_sl ([.ref (ad o)])).length) Slot.unset).toArray = ls at hl ⊢
  have hl : lv_has ls 1 [(0, .ref (ad o))] := hl
  exact t_Qry_readItemForm_e hx hb hml hown hT hK hN hA (Nat.le_refl 0) (Nat.le_refl 0) (Nat.le_refl 6) (Nat.le_refl 243) hNN hE (fun r x H locs pc ls hd hp hW hS => W.iret (v := r) hx hb hr (fun t ht hM => ⟨⟨r, x, rfl, hp, Wd.back hW ht.symm (fun _ z => z)⟩, hS.F ht⟩) hS.2.2 hd hlocks)  o x _ _ ls fo hw hW hS hl
set_option maxRecDepth 100000 in
set_option maxHeartbeats 4000000 in
set_option maxRecDepth 100000 in
theorem t_Qry_isOwnWord_192 {p : Program} {l : Launch} {e : Env} {R : Room} {s : State} {m : MethodId} {args : Array Value} {below : List Frame} {meth : Method} {c : Code} {cells slots : Nat} {Q : State → Prop} {dC : Nat → ClassId} {dI : Nat → Nat → Nat} {cI cB cJ cZ : ClassId} {A : Nat → Prop} {ad : Nat → Nat} {NN : Nat} {E : Heap} {tM tC : Nat} {kK kV : Nat → Nat} {post : Int32 → St → Prop} (hx : p.tables.exec = Jvm.exec) (hb : c.code = b_Qry_isOwnWord) (hml : c.maxLocals = 1) (hown : s.vm.findClass R_Qry = some m.cls) (hT : ∀ w ∈ TG, w.before args s = true) (hK : va_K (dC, dI) CL (TY cI cB cJ cZ) s) (hN : NW s) (hA : ∀ q : Nat, s.heap.size ≤ q → A q) (hRc : cells ≤ R.cells) (hRs : slots ≤ R.slots) (hRf : 5 ≤ R.frames) (hRl : 222 ≤ R.locals) (hNN : 152 ≤ NN) (hE : CE E tM tC kK kV A s) (hret : ∀ (r : Int32) (x : St) (H : Heap) (locs : List Loc) (pc : Nat) (ls : Array Slot), decode b_Qry_isOwnWord pc = .ok (.ireturn, 1) → narrow .boolean (.int r) = .int r → post r x → Wd dC dI cI cB cJ cZ ad stC kcC NN A x H → va_S A s.heap H locs → W p l e R s m args below meth c H locs cells slots Q (F0 m pc ls [.int r]))  : ∀ (o : Nat) (x : St) (H : Heap) (locs : List Loc) (ls : Array Slot), (o < NN ∧ kcC o = 9) → j_Qry_isOwnWord_192 post o x → Wd dC dI cI cB cJ cZ ad stC kcC NN A x H → va_S A s.heap H locs → lv_has ls 1 [(0, .ref (ad o))] → W p l e R s m args below meth c H locs cells slots Q (F0 m 192 ls []) := by
  intro o x H locs ls fo hw hW hS hl
  unfold j_Qry_isOwnWord_192 at hw
  refine lv_iconst (v := 1) hx hb d_Qry_isOwnWord_192 (by decide) ?_
  refine lv_goto (tgt := 197) hx hb d_Qry_isOwnWord_193 (by decide) ?_
  exact hret 1 x H locs 197 ls d_Qry_isOwnWord_197 rfl hw hW hS
set_option maxRecDepth 100000 in
set_option maxHeartbeats 4000000 in
set_option maxRecDepth 100000 in
theorem t_Qry_isOwnWord_e {p : Program} {l : Launch} {e : Env} {R : Room} {s : State} {m : MethodId} {args : Array Value} {below : List Frame} {meth : Method} {c : Code} {cells slots : Nat} {Q : State → Prop} {dC : Nat → ClassId} {dI : Nat → Nat → Nat} {cI cB cJ cZ : ClassId} {A : Nat → Prop} {ad : Nat → Nat} {NN : Nat} {E : Heap} {tM tC : Nat} {kK kV : Nat → Nat} {post : Int32 → St → Prop} (hx : p.tables.exec = Jvm.exec) (hb : c.code = b_Qry_isOwnWord) (hml : c.maxLocals = 1) (hown : s.vm.findClass R_Qry = some m.cls) (hT : ∀ w ∈ TG, w.before args s = true) (hK : va_K (dC, dI) CL (TY cI cB cJ cZ) s) (hN : NW s) (hA : ∀ q : Nat, s.heap.size ≤ q → A q) (hRc : cells ≤ R.cells) (hRs : slots ≤ R.slots) (hRf : 5 ≤ R.frames) (hRl : 222 ≤ R.locals) (hNN : 152 ≤ NN) (hE : CE E tM tC kK kV A s) (hret : ∀ (r : Int32) (x : St) (H : Heap) (locs : List Loc) (pc : Nat) (ls : Array Slot), decode b_Qry_isOwnWord pc = .ok (.ireturn, 1) → narrow .boolean (.int r) = .int r → post r x → Wd dC dI cI cB cJ cZ ad stC kcC NN A x H → va_S A s.heap H locs → W p l e R s m args below meth c H locs cells slots Q (F0 m pc ls [.int r])) : ∀ (o : Nat) (x : St) (H : Heap) (locs : List Loc) (ls : Array Slot), (o < NN ∧ kcC o = 9) → wp_Qry_isOwnWord post o x → Wd dC dI cI cB cJ cZ ad stC kcC NN A x H → va_S A s.heap H locs → lv_has ls 1 [(0, .ref (ad o))] → W p l e R s m args below meth c H locs cells slots Q (F0 m 0 ls []) := by
  intro o x H locs ls fo hw hW hS hl
  unfold wp_Qry_isOwnWord at hw
  refine lv_aload_n hx hb d_Qry_isOwnWord_0 rfl (lv_at hl 0 rfl) ?_
  obtain ⟨q1, hq1, hw⟩ := hw
  refine w_getr (q := q1) (k := 17) (t := 9) (C := R_Qry) (T := F_Qry) (N := 20) hx hb hT hown hK hW fo.1 fo.2 (by decide) in_Qry rfl rfl (by decide) rfl fr_Qry_17 w_3_105 d_Qry_isOwnWord_1 hq1 (fun aq1 bq1 => ?_)
  have fq1 : q1 < NN ∧ kcC q1 = 2 := ⟨aq1, bq1⟩
  refine va_ldcS hx hb hown (hE.str 13 (by decide)) d_Qry_isOwnWord_4 ?_
  have hF := hW.free hS hA
  refine va_calli (va_runV (C := R_Scn) (As := [.ref (kK 11)]) (rest := []) ⟨hx, hb, hml, hown, hT⟩ (k_Scn_isWord l dC dI cI cB cJ cZ ad NN E tM tC kK kV hNN H.size q1 11 x fq1 (by decide) hw) ⟨callB_of 1 hT (gwt_in w_4_155) rfl rfl rfl (hT _ w_1_4) (hT _ w_7_174) (by decide +kernel) ⟨Nat.le_trans (Nat.le_of_ble_eq_true rfl) hRf, Nat.le_trans (Nat.le_of_ble_eq_true rfl) hRl⟩, hT _ w_4_153, hT _ w_4_154⟩ ⟨PVc.blind, va_recv hK hW.1 (ci := 2) (q0 := q1) rfl (pic_obj fq1.1 fq1.2 (by decide)), PVc.at _ hW hK hN hE hS hF⟩ rfl rfl hl.1 rfl (lv_room (Nat.le_of_ble_eq_true rfl)) d_Qry_isOwnWord_6 ⟨hRc, hRs⟩) hS (fun q _ h => hF q h) hF (fun r3 x2 t H locs ht hvm hw hB hz1 hk1 hS => ?_)
  have hW := Wd.back hB ht hF
  clear hB ht hF hz1 hk1 hvm
  refine lv_if_ne (tgt := 192) hx hb d_Qry_isOwnWord_9 (by decide) (fun c4 => ?_) (fun c4 => ?_)
  · have hw := hw.1 c4
    exact t_Qry_isOwnWord_192 hx hb hml hown hT hK hN hA hRc hRs hRf hRl hNN hE hret  o x2 H locs ls fo hw hW hS (lv_sub hl [0] rfl)
  · have hw := hw.2 c4
    refine lv_aload_n hx hb d_Qry_isOwnWord_12 rfl (lv_at hl 0 rfl) ?_
    obtain ⟨q5, hq5, hw⟩ := hw
    refine w_getr (q := q5) (k := 17) (t := 9) (C := R_Qry) (T := F_Qry) (N := 20) hx hb hT hown hK hW fo.1 fo.2 (by decide) in_Qry rfl rfl (by decide) rfl fr_Qry_17 w_3_105 d_Qry_isOwnWord_13 hq5 (fun aq5 bq5 => ?_)
    have fq5 : q5 < NN ∧ kcC q5 = 2 := ⟨aq5, bq5⟩
    refine va_ldcS hx hb hown (hE.str 18 (by decide)) d_Qry_isOwnWord_16 ?_
    have hF := hW.free hS hA
    refine va_calli (va_runV (C := R_Scn) (As := [.ref (kK 16)]) (rest := []) ⟨hx, hb, hml, hown, hT⟩ (k_Scn_isWord l dC dI cI cB cJ cZ ad NN E tM tC kK kV hNN H.size q5 16 x2 fq5 (by decide) hw) ⟨callB_of 1 hT (gwt_in w_4_155) rfl rfl rfl (hT _ w_1_4) (hT _ w_7_174) (by decide +kernel) ⟨Nat.le_trans (Nat.le_of_ble_eq_true rfl) hRf, Nat.le_trans (Nat.le_of_ble_eq_true rfl) hRl⟩, hT _ w_4_153, hT _ w_4_154⟩ ⟨PVc.blind, va_recv hK hW.1 (ci := 2) (q0 := q5) rfl (pic_obj fq5.1 fq5.2 (by decide)), PVc.at _ hW hK hN hE hS hF⟩ rfl rfl hl.1 rfl (lv_room (Nat.le_of_ble_eq_true rfl)) d_Qry_isOwnWord_18 ⟨hRc, hRs⟩) hS (fun q _ h => hF q h) hF (fun r7 x6 t H locs ht hvm hw hB hz1 hk1 hS => ?_)
    have hW := Wd.back hB ht hF
    clear hB ht hF hz1 hk1 hvm
    refine lv_if_ne (tgt := 192) hx hb d_Qry_isOwnWord_21 (by decide) (fun c8 => ?_) (fun c8 => ?_)
    · have hw := hw.1 c8
      exact t_Qry_isOwnWord_192 hx hb hml hown hT hK hN hA hRc hRs hRf hRl hNN hE hret  o x6 H locs ls fo hw hW hS (lv_sub hl [0] rfl)
    · have hw := hw.2 c8
      refine lv_aload_n hx hb d_Qry_isOwnWord_24 rfl (lv_at hl 0 rfl) ?_
      obtain ⟨q9, hq9, hw⟩ := hw
      refine w_getr (q := q9) (k := 17) (t := 9) (C := R_Qry) (T := F_Qry) (N := 20) hx hb hT hown hK hW fo.1 fo.2 (by decide) in_Qry rfl rfl (by decide) rfl fr_Qry_17 w_3_105 d_Qry_isOwnWord_25 hq9 (fun aq9 bq9 => ?_)
      have fq9 : q9 < NN ∧ kcC q9 = 2 := ⟨aq9, bq9⟩
      refine va_ldcS hx hb hown (hE.str 19 (by decide)) d_Qry_isOwnWord_28 ?_
      have hF := hW.free hS hA
      refine va_calli (va_runV (C := R_Scn) (As := [.ref (kK 7)]) (rest := []) ⟨hx, hb, hml, hown, hT⟩ (k_Scn_isWord l dC dI cI cB cJ cZ ad NN E tM tC kK kV hNN H.size q9 7 x6 fq9 (by decide) hw) ⟨callB_of 1 hT (gwt_in w_4_155) rfl rfl rfl (hT _ w_1_4) (hT _ w_7_174) (by decide +kernel) ⟨Nat.le_trans (Nat.le_of_ble_eq_true rfl) hRf, Nat.le_trans (Nat.le_of_ble_eq_true rfl) hRl⟩, hT _ w_4_153, hT _ w_4_154⟩ ⟨PVc.blind, va_recv hK hW.1 (ci := 2) (q0 := q9) rfl (pic_obj fq9.1 fq9.2 (by decide)), PVc.at _ hW hK hN hE hS hF⟩ rfl rfl hl.1 rfl (lv_room (Nat.le_of_ble_eq_true rfl)) d_Qry_isOwnWord_30 ⟨hRc, hRs⟩) hS (fun q _ h => hF q h) hF (fun r11 x10 t H locs ht hvm hw hB hz1 hk1 hS => ?_)
      have hW := Wd.back hB ht hF
      clear hB ht hF hz1 hk1 hvm
      refine lv_if_ne (tgt := 192) hx hb d_Qry_isOwnWord_33 (by decide) (fun c12 => ?_) (fun c12 => ?_)
      · have hw := hw.1 c12
        exact t_Qry_isOwnWord_192 hx hb hml hown hT hK hN hA hRc hRs hRf hRl hNN hE hret  o x10 H locs ls fo hw hW hS (lv_sub hl [0] rfl)
      · have hw := hw.2 c12
        refine lv_aload_n hx hb d_Qry_isOwnWord_36 rfl (lv_at hl 0 rfl) ?_
        obtain ⟨q13, hq13, hw⟩ := hw
        refine w_getr (q := q13) (k := 17) (t := 9) (C := R_Qry) (T := F_Qry) (N := 20) hx hb hT hown hK hW fo.1 fo.2 (by decide) in_Qry rfl rfl (by decide) rfl fr_Qry_17 w_3_105 d_Qry_isOwnWord_37 hq13 (fun aq13 bq13 => ?_)
        have fq13 : q13 < NN ∧ kcC q13 = 2 := ⟨aq13, bq13⟩
        refine va_ldcS hx hb hown (hE.str 20 (by decide)) d_Qry_isOwnWord_40 ?_
        have hF := hW.free hS hA
        refine va_calli (va_runV (C := R_Scn) (As := [.ref (kK 17)]) (rest := []) ⟨hx, hb, hml, hown, hT⟩ (k_Scn_isWord l dC dI cI cB cJ cZ ad NN E tM tC kK kV hNN H.size q13 17 x10 fq13 (by decide) hw) ⟨callB_of 1 hT (gwt_in w_4_155) rfl rfl rfl (hT _ w_1_4) (hT _ w_7_174) (by decide +kernel) ⟨Nat.le_trans (Nat.le_of_ble_eq_true rfl) hRf, Nat.le_trans (Nat.le_of_ble_eq_true rfl) hRl⟩, hT _ w_4_153, hT _ w_4_154⟩ ⟨PVc.blind, va_recv hK hW.1 (ci := 2) (q0 := q13) rfl (pic_obj fq13.1 fq13.2 (by decide)), PVc.at _ hW hK hN hE hS hF⟩ rfl rfl hl.1 rfl (lv_room (Nat.le_of_ble_eq_true rfl)) d_Qry_isOwnWord_42 ⟨hRc, hRs⟩) hS (fun q _ h => hF q h) hF (fun r15 x14 t H locs ht hvm hw hB hz1 hk1 hS => ?_)
        have hW := Wd.back hB ht hF
        clear hB ht hF hz1 hk1 hvm
        refine lv_if_ne (tgt := 192) hx hb d_Qry_isOwnWord_45 (by decide) (fun c16 => ?_) (fun c16 => ?_)
        · have hw := hw.1 c16
          exact t_Qry_isOwnWord_192 hx hb hml hown hT hK hN hA hRc hRs hRf hRl hNN hE hret  o x14 H locs ls fo hw hW hS (lv_sub hl [0] rfl)
        · have hw := hw.2 c16
          refine lv_aload_n hx hb d_Qry_isOwnWord_48 rfl (lv_at hl 0 rfl) ?_
          obtain ⟨q17, hq17, hw⟩ := hw
          refine w_getr (q := q17) (k := 17) (t := 9) (C := R_Qry) (T := F_Qry) (N := 20) hx hb hT hown hK hW fo.1 fo.2 (by decide) in_Qry rfl rfl (by decide) rfl fr_Qry_17 w_3_105 d_Qry_isOwnWord_49 hq17 (fun aq17 bq17 => ?_)
          have fq17 : q17 < NN ∧ kcC q17 = 2 := ⟨aq17, bq17⟩
          refine va_ldcS hx hb hown (hE.str 21 (by decide)) d_Qry_isOwnWord_52 ?_
          have hF := hW.free hS hA
          refine va_calli (va_runV (C := R_Scn) (As := [.ref (kK 18)]) (rest := []) ⟨hx, hb, hml, hown, hT⟩ (k_Scn_isWord l dC dI cI cB cJ cZ ad NN E tM tC kK kV hNN H.size q17 18 x14 fq17 (by decide) hw) ⟨callB_of 1 hT (gwt_in w_4_155) rfl rfl rfl (hT _ w_1_4) (hT _ w_7_174) (by decide +kernel) ⟨Nat.le_trans (Nat.le_of_ble_eq_true rfl) hRf, Nat.le_trans (Nat.le_of_ble_eq_true rfl) hRl⟩, hT _ w_4_153, hT _ w_4_154⟩ ⟨PVc.blind, va_recv hK hW.1 (ci := 2) (q0 := q17) rfl (pic_obj fq17.1 fq17.2 (by decide)), PVc.at _ hW hK hN hE hS hF⟩ rfl rfl hl.1 rfl (lv_room (Nat.le_of_ble_eq_true rfl)) d_Qry_isOwnWord_54 ⟨hRc, hRs⟩) hS (fun q _ h => hF q h) hF (fun r19 x18 t H locs ht hvm hw hB hz1 hk1 hS => ?_)
          have hW := Wd.back hB ht hF
          clear hB ht hF hz1 hk1 hvm
          refine lv_if_ne (tgt := 192) hx hb d_Qry_isOwnWord_57 (by decide) (fun c20 => ?_) (fun c20 => ?_)
          · have hw := hw.1 c20
            exact t_Qry_isOwnWord_192 hx hb hml hown hT hK hN hA hRc hRs hRf hRl hNN hE hret  o x18 H locs ls fo hw hW hS (lv_sub hl [0] rfl)
          · have hw := hw.2 c20
            refine lv_aload_n hx hb d_Qry_isOwnWord_60 rfl (lv_at hl 0 rfl) ?_
            obtain ⟨q21, hq21, hw⟩ := hw
            refine w_getr (q := q21) (k := 17) (t := 9) (C := R_Qry) (T := F_Qry) (N := 20) hx hb hT hown hK hW fo.1 fo.2 (by decide) in_Qry rfl rfl (by decide) rfl fr_Qry_17 w_3_105 d_Qry_isOwnWord_61 hq21 (fun aq21 bq21 => ?_)
            have fq21 : q21 < NN ∧ kcC q21 = 2 := ⟨aq21, bq21⟩
            refine va_ldcS hx hb hown (hE.str 22 (by decide)) d_Qry_isOwnWord_64 ?_
            have hF := hW.free hS hA
            refine va_calli (va_runV (C := R_Scn) (As := [.ref (kK 19)]) (rest := []) ⟨hx, hb, hml, hown, hT⟩ (k_Scn_isWord l dC dI cI cB cJ cZ ad NN E tM tC kK kV hNN H.size q21 19 x18 fq21 (by decide) hw) ⟨callB_of 1 hT (gwt_in w_4_155) rfl rfl rfl (hT _ w_1_4) (hT _ w_7_174) (by decide +kernel) ⟨Nat.le_trans (Nat.le_of_ble_eq_true rfl) hRf, Nat.le_trans (Nat.le_of_ble_eq_true rfl) hRl⟩, hT _ w_4_153, hT _ w_4_154⟩ ⟨PVc.blind, va_recv hK hW.1 (ci := 2) (q0 := q21) rfl (pic_obj fq21.1 fq21.2 (by decide)), PVc.at _ hW hK hN hE hS hF⟩ rfl rfl hl.1 rfl (lv_room (Nat.le_of_ble_eq_true rfl)) d_Qry_isOwnWord_66 ⟨hRc, hRs⟩) hS (fun q _ h => hF q h) hF (fun r23 x22 t H locs ht hvm hw hB hz1 hk1 hS => ?_)
            have hW := Wd.back hB ht hF
            clear hB ht hF hz1 hk1 hvm
            refine lv_if_ne (tgt := 192) hx hb d_Qry_isOwnWord_69 (by decide) (fun c24 => ?_) (fun c24 => ?_)
            · have hw := hw.1 c24
              exact t_Qry_isOwnWord_192 hx hb hml hown hT hK hN hA hRc hRs hRf hRl hNN hE hret  o x22 H locs ls fo hw hW hS (lv_sub hl [0] rfl)
            · have hw := hw.2 c24
              refine lv_aload_n hx hb d_Qry_isOwnWord_72 rfl (lv_at hl 0 rfl) ?_
              obtain ⟨q25, hq25, hw⟩ := hw
              refine w_getr (q := q25) (k := 17) (t := 9) (C := R_Qry) (T := F_Qry) (N := 20) hx hb hT hown hK hW fo.1 fo.2 (by decide) in_Qry rfl rfl (by decide) rfl fr_Qry_17 w_3_105 d_Qry_isOwnWord_73 hq25 (fun aq25 bq25 => ?_)
              have fq25 : q25 < NN ∧ kcC q25 = 2 := ⟨aq25, bq25⟩
              refine va_ldcS hx hb hown (hE.str 23 (by decide)) d_Qry_isOwnWord_76 ?_
              have hF := hW.free hS hA
              refine va_calli (va_runV (C := R_Scn) (As := [.ref (kK 20)]) (rest := []) ⟨hx, hb, hml, hown, hT⟩ (k_Scn_isWord l dC dI cI cB cJ cZ ad NN E tM tC kK kV hNN H.size q25 20 x22 fq25 (by decide) hw) ⟨callB_of 1 hT (gwt_in w_4_155) rfl rfl rfl (hT _ w_1_4) (hT _ w_7_174) (by decide +kernel) ⟨Nat.le_trans (Nat.le_of_ble_eq_true rfl) hRf, Nat.le_trans (Nat.le_of_ble_eq_true rfl) hRl⟩, hT _ w_4_153, hT _ w_4_154⟩ ⟨PVc.blind, va_recv hK hW.1 (ci := 2) (q0 := q25) rfl (pic_obj fq25.1 fq25.2 (by decide)), PVc.at _ hW hK hN hE hS hF⟩ rfl rfl hl.1 rfl (lv_room (Nat.le_of_ble_eq_true rfl)) d_Qry_isOwnWord_78 ⟨hRc, hRs⟩) hS (fun q _ h => hF q h) hF (fun r27 x26 t H locs ht hvm hw hB hz1 hk1 hS => ?_)
              have hW := Wd.back hB ht hF
              clear hB ht hF hz1 hk1 hvm
              refine lv_if_ne (tgt := 192) hx hb d_Qry_isOwnWord_81 (by decide) (fun c28 => ?_) (fun c28 => ?_)
              · have hw := hw.1 c28
                exact t_Qry_isOwnWord_192 hx hb hml hown hT hK hN hA hRc hRs hRf hRl hNN hE hret  o x26 H locs ls fo hw hW hS (lv_sub hl [0] rfl)
              · have hw := hw.2 c28
                refine lv_aload_n hx hb d_Qry_isOwnWord_84 rfl (lv_at hl 0 rfl) ?_
                obtain ⟨q29, hq29, hw⟩ := hw
                refine w_getr (q := q29) (k := 17) (t := 9) (C := R_Qry) (T := F_Qry) (N := 20) hx hb hT hown hK hW fo.1 fo.2 (by decide) in_Qry rfl rfl (by decide) rfl fr_Qry_17 w_3_105 d_Qry_isOwnWord_85 hq29 (fun aq29 bq29 => ?_)
                have fq29 : q29 < NN ∧ kcC q29 = 2 := ⟨aq29, bq29⟩
                refine va_ldcS hx hb hown (hE.str 24 (by decide)) d_Qry_isOwnWord_88 ?_
                have hF := hW.free hS hA
                refine va_calli (va_runV (C := R_Scn) (As := [.ref (kK 21)]) (rest := []) ⟨hx, hb, hml, hown, hT⟩ (k_Scn_isWord l dC dI cI cB cJ cZ ad NN E tM tC kK kV hNN H.size q29 21 x26 fq29 (by decide) hw) ⟨callB_of 1 hT (gwt_in w_4_155) rfl rfl rfl (hT _ w_1_4) (hT _ w_7_174) (by decide +kernel) ⟨Nat.le_trans (Nat.le_of_ble_eq_true rfl) hRf, Nat.le_trans (Nat.le_of_ble_eq_true rfl) hRl⟩, hT _ w_4_153, hT _ w_4_154⟩ ⟨PVc.blind, va_recv hK hW.1 (ci := 2) (q0 := q29) rfl (pic_obj fq29.1 fq29.2 (by decide)), PVc.at _ hW hK hN hE hS hF⟩ rfl rfl hl.1 rfl (lv_room (Nat.le_of_ble_eq_true rfl)) d_Qry_isOwnWord_90 ⟨hRc, hRs⟩) hS (fun q _ h => hF q h) hF (fun r31 x30 t H locs ht hvm hw hB hz1 hk1 hS => ?_)
                have hW := Wd.back hB ht hF
                clear hB ht hF hz1 hk1 hvm
                refine lv_if_ne (tgt := 192) hx hb d_Qry_isOwnWord_93 (by decide) (fun c32 => ?_) (fun c32 => ?_)
                · have hw := hw.1 c32
                  exact t_Qry_isOwnWord_192 hx hb hml hown hT hK hN hA hRc hRs hRf hRl hNN hE hret  o x30 H locs ls fo hw hW hS (lv_sub hl [0] rfl)
                · have hw := hw.2 c32
                  refine lv_aload_n hx hb d_Qry_isOwnWord_96 rfl (lv_at hl 0 rfl) ?_
                  obtain ⟨q33, hq33, hw⟩ := hw
                  refine w_getr (q := q33) (k := 17) (t := 9) (C := R_Qry) (T := F_Qry) (N := 20) hx hb hT hown hK hW fo.1 fo.2 (by decide) in_Qry rfl rfl (by decide) rfl fr_Qry_17 w_3_105 d_Qry_isOwnWord_97 hq33 (fun aq33 bq33 => ?_)
                  have fq33 : q33 < NN ∧ kcC q33 = 2 := ⟨aq33, bq33⟩
                  refine va_ldcS hx hb hown (hE.str 25 (by decide)) d_Qry_isOwnWord_100 ?_
                  have hF := hW.free hS hA
                  refine va_calli (va_runV (C := R_Scn) (As := [.ref (kK 22)]) (rest := []) ⟨hx, hb, hml, hown, hT⟩ (k_Scn_isWord l dC dI cI cB cJ cZ ad NN E tM tC kK kV hNN H.size q33 22 x30 fq33 (by decide) hw) ⟨callB_of 1 hT (gwt_in w_4_155) rfl rfl rfl (hT _ w_1_4) (hT _ w_7_174) (by decide +kernel) ⟨Nat.le_trans (Nat.le_of_ble_eq_true rfl) hRf, Nat.le_trans (Nat.le_of_ble_eq_true rfl) hRl⟩, hT _ w_4_153, hT _ w_4_154⟩ ⟨PVc.blind, va_recv hK hW.1 (ci := 2) (q0 := q33) rfl (pic_obj fq33.1 fq33.2 (by decide)), PVc.at _ hW hK hN hE hS hF⟩ rfl rfl hl.1 rfl (lv_room (Nat.le_of_ble_eq_true rfl)) d_Qry_isOwnWord_102 ⟨hRc, hRs⟩) hS (fun q _ h => hF q h) hF (fun r35 x34 t H locs ht hvm hw hB hz1 hk1 hS => ?_)
                  have hW := Wd.back hB ht hF
                  clear hB ht hF hz1 hk1 hvm
                  refine lv_if_ne (tgt := 192) hx hb d_Qry_isOwnWord_105 (by decide) (fun c36 => ?_) (fun c36 => ?_)
                  · have hw := hw.1 c36
                    exact t_Qry_isOwnWord_192 hx hb hml hown hT hK hN hA hRc hRs hRf hRl hNN hE hret  o x34 H locs ls fo hw hW hS (lv_sub hl [0] rfl)
                  · have hw := hw.2 c36
                    refine lv_aload_n hx hb d_Qry_isOwnWord_108 rfl (lv_at hl 0 rfl) ?_
                    obtain ⟨q37, hq37, hw⟩ := hw
                    refine w_getr (q := q37) (k := 17) (t := 9) (C := R_Qry) (T := F_Qry) (N := 20) hx hb hT hown hK hW fo.1 fo.2 (by decide) in_Qry rfl rfl (by decide) rfl fr_Qry_17 w_3_105 d_Qry_isOwnWord_109 hq37 (fun aq37 bq37 => ?_)
                    have fq37 : q37 < NN ∧ kcC q37 = 2 := ⟨aq37, bq37⟩
                    refine va_ldcS hx hb hown (hE.str 26 (by decide)) d_Qry_isOwnWord_112 ?_
                    have hF := hW.free hS hA
                    refine va_calli (va_runV (C := R_Scn) (As := [.ref (kK 23)]) (rest := []) ⟨hx, hb, hml, hown, hT⟩ (k_Scn_isWord l dC dI cI cB cJ cZ ad NN E tM tC kK kV hNN H.size q37 23 x34 fq37 (by decide) hw) ⟨callB_of 1 hT (gwt_in w_4_155) rfl rfl rfl (hT _ w_1_4) (hT _ w_7_174) (by decide +kernel) ⟨Nat.le_trans (Nat.le_of_ble_eq_true rfl) hRf, Nat.le_trans (Nat.le_of_ble_eq_true rfl) hRl⟩, hT _ w_4_153, hT _ w_4_154⟩ ⟨PVc.blind, va_recv hK hW.1 (ci := 2) (q0 := q37) rfl (pic_obj fq37.1 fq37.2 (by decide)), PVc.at _ hW hK hN hE hS hF⟩ rfl rfl hl.1 rfl (lv_room (Nat.le_of_ble_eq_true rfl)) d_Qry_isOwnWord_114 ⟨hRc, hRs⟩) hS (fun q _ h => hF q h) hF (fun r39 x38 t H locs ht hvm hw hB hz1 hk1 hS => ?_)
                    have hW := Wd.back hB ht hF
                    clear hB ht hF hz1 hk1 hvm
                    refine lv_if_ne (tgt := 192) hx hb d_Qry_isOwnWord_117 (by decide) (fun c40 => ?_) (fun c40 => ?_)
                    · have hw := hw.1 c40
                      exact t_Qry_isOwnWord_192 hx hb hml hown hT hK hN hA hRc hRs hRf hRl hNN hE hret  o x38 H locs ls fo hw hW hS (lv_sub hl [0] rfl)
                    · have hw := hw.2 c40
                      refine lv_aload_n hx hb d_Qry_isOwnWord_120 rfl (lv_at hl 0 rfl) ?_
                      obtain ⟨q41, hq41, hw⟩ := hw
                      refine w_getr (q := q41) (k := 17) (t := 9) (C := R_Qry) (T := F_Qry) (N := 20) hx hb hT hown hK hW fo.1 fo.2 (by decide) in_Qry rfl rfl (by decide) rfl fr_Qry_17 w_3_105 d_Qry_isOwnWord_121 hq41 (fun aq41 bq41 => ?_)
                      have fq41 : q41 < NN ∧ kcC q41 = 2 := ⟨aq41, bq41⟩
                      refine va_ldcS hx hb hown (hE.str 27 (by decide)) d_Qry_isOwnWord_124 ?_
                      have hF := hW.free hS hA
                      refine va_calli (va_runV (C := R_Scn) (As := [.ref (kK 8)]) (rest := []) ⟨hx, hb, hml, hown, hT⟩ (k_Scn_isWord l dC dI cI cB cJ cZ ad NN E tM tC kK kV hNN H.size q41 8 x38 fq41 (by decide) hw) ⟨callB_of 1 hT (gwt_in w_4_155) rfl rfl rfl (hT _ w_1_4) (hT _ w_7_174) (by decide +kernel) ⟨Nat.le_trans (Nat.le_of_ble_eq_true rfl) hRf, Nat.le_trans (Nat.le_of_ble_eq_true rfl) hRl⟩, hT _ w_4_153, hT _ w_4_154⟩ ⟨PVc.blind, va_recv hK hW.1 (ci := 2) (q0 := q41) rfl (pic_obj fq41.1 fq41.2 (by decide)), PVc.at _ hW hK hN hE hS hF⟩ rfl rfl hl.1 rfl (lv_room (Nat.le_of_ble_eq_true rfl)) d_Qry_isOwnWord_126 ⟨hRc, hRs⟩) hS (fun q _ h => hF q h) hF (fun r43 x42 t H locs ht hvm hw hB hz1 hk1 hS => ?_)
                      have hW := Wd.back hB ht hF
                      clear hB ht hF hz1 hk1 hvm
                      refine lv_if_ne (tgt := 192) hx hb d_Qry_isOwnWord_129 (by decide) (fun c44 => ?_) (fun c44 => ?_)
                      · have hw := hw.1 c44
                        exact t_Qry_isOwnWord_192 hx hb hml hown hT hK hN hA hRc hRs hRf hRl hNN hE hret  o x42 H locs ls fo hw hW hS (lv_sub hl [0] rfl)
                      · have hw := hw.2 c44
                        refine lv_aload_n hx hb d_Qry_isOwnWord_132 rfl (lv_at hl 0 rfl) ?_
                        obtain ⟨q45, hq45, hw⟩ := hw
                        refine w_getr (q := q45) (k := 17) (t := 9) (C := R_Qry) (T := F_Qry) (N := 20) hx hb hT hown hK hW fo.1 fo.2 (by decide) in_Qry rfl rfl (by decide) rfl fr_Qry_17 w_3_105 d_Qry_isOwnWord_133 hq45 (fun aq45 bq45 => ?_)
                        have fq45 : q45 < NN ∧ kcC q45 = 2 := ⟨aq45, bq45⟩
                        refine va_ldcS hx hb hown (hE.str 28 (by decide)) d_Qry_isOwnWord_136 ?_
                        have hF := hW.free hS hA
                        refine va_calli (va_runV (C := R_Scn) (As := [.ref (kK 9)]) (rest := []) ⟨hx, hb, hml, hown, hT⟩ (k_Scn_isWord l dC dI cI cB cJ cZ ad NN E tM tC kK kV hNN H.size q45 9 x42 fq45 (by decide) hw) ⟨callB_of 1 hT (gwt_in w_4_155) rfl rfl rfl (hT _ w_1_4) (hT _ w_7_174) (by decide +kernel) ⟨Nat.le_trans (Nat.le_of_ble_eq_true rfl) hRf, Nat.le_trans (Nat.le_of_ble_eq_true rfl) hRl⟩, hT _ w_4_153, hT _ w_4_154⟩ ⟨PVc.blind, va_recv hK hW.1 (ci := 2) (q0 := q45) rfl (pic_obj fq45.1 fq45.2 (by decide)), PVc.at _ hW hK hN hE hS hF⟩ rfl rfl hl.1 rfl (lv_room (Nat.le_of_ble_eq_true rfl)) d_Qry_isOwnWord_138 ⟨hRc, hRs⟩) hS (fun q _ h => hF q h) hF (fun r47 x46 t H locs ht hvm hw hB hz1 hk1 hS => ?_)
                        have hW := Wd.back hB ht hF
                        clear hB ht hF hz1 hk1 hvm
                        refine lv_if_ne (tgt := 192) hx hb d_Qry_isOwnWord_141 (by decide) (fun c48 => ?_) (fun c48 => ?_)
                        · have hw := hw.1 c48
                          exact t_Qry_isOwnWord_192 hx hb hml hown hT hK hN hA hRc hRs hRf hRl hNN hE hret  o x46 H locs ls fo hw hW hS (lv_sub hl [0] rfl)
                        · have hw := hw.2 c48
                          refine lv_aload_n hx hb d_Qry_isOwnWord_144 rfl (lv_at hl 0 rfl) ?_
                          obtain ⟨q49, hq49, hw⟩ := hw
                          refine w_getr (q := q49) (k := 17) (t := 9) (C := R_Qry) (T := F_Qry) (N := 20) hx hb hT hown hK hW fo.1 fo.2 (by decide) in_Qry rfl rfl (by decide) rfl fr_Qry_17 w_3_105 d_Qry_isOwnWord_145 hq49 (fun aq49 bq49 => ?_)
                          have fq49 : q49 < NN ∧ kcC q49 = 2 := ⟨aq49, bq49⟩
                          refine va_ldcS hx hb hown (hE.str 14 (by decide)) d_Qry_isOwnWord_148 ?_
                          have hF := hW.free hS hA
                          refine va_calli (va_runV (C := R_Scn) (As := [.ref (kK 12)]) (rest := []) ⟨hx, hb, hml, hown, hT⟩ (k_Scn_isWord l dC dI cI cB cJ cZ ad NN E tM tC kK kV hNN H.size q49 12 x46 fq49 (by decide) hw) ⟨callB_of 1 hT (gwt_in w_4_155) rfl rfl rfl (hT _ w_1_4) (hT _ w_7_174) (by decide +kernel) ⟨Nat.le_trans (Nat.le_of_ble_eq_true rfl) hRf, Nat.le_trans (Nat.le_of_ble_eq_true rfl) hRl⟩, hT _ w_4_153, hT _ w_4_154⟩ ⟨PVc.blind, va_recv hK hW.1 (ci := 2) (q0 := q49) rfl (pic_obj fq49.1 fq49.2 (by decide)), PVc.at _ hW hK hN hE hS hF⟩ rfl rfl hl.1 rfl (lv_room (Nat.le_of_ble_eq_true rfl)) d_Qry_isOwnWord_150 ⟨hRc, hRs⟩) hS (fun q _ h => hF q h) hF (fun r51 x50 t H locs ht hvm hw hB hz1 hk1 hS => ?_)
                          have hW := Wd.back hB ht hF
                          clear hB ht hF hz1 hk1 hvm
                          refine lv_if_ne (tgt := 192) hx hb d_Qry_isOwnWord_153 (by decide) (fun c52 => ?_) (fun c52 => ?_)
                          · have hw := hw.1 c52
                            exact t_Qry_isOwnWord_192 hx hb hml hown hT hK hN hA hRc hRs hRf hRl hNN hE hret  o x50 H locs ls fo hw hW hS (lv_sub hl [0] rfl)
                          · have hw := hw.2 c52
                            refine lv_aload_n hx hb d_Qry_isOwnWord_156 rfl (lv_at hl 0 rfl) ?_
                            obtain ⟨q53, hq53, hw⟩ := hw
                            refine w_getr (q := q53) (k := 17) (t := 9) (C := R_Qry) (T := F_Qry) (N := 20) hx hb hT hown hK hW fo.1 fo.2 (by decide) in_Qry rfl rfl (by decide) rfl fr_Qry_17 w_3_105 d_Qry_isOwnWord_157 hq53 (fun aq53 bq53 => ?_)
                            have fq53 : q53 < NN ∧ kcC q53 = 2 := ⟨aq53, bq53⟩
                            refine va_ldcS hx hb hown (hE.str 15 (by decide)) d_Qry_isOwnWord_160 ?_
                            have hF := hW.free hS hA
                            refine va_calli (va_runV (C := R_Scn) (As := [.ref (kK 13)]) (rest := []) ⟨hx, hb, hml, hown, hT⟩ (k_Scn_isWord l dC dI cI cB cJ cZ ad NN E tM tC kK kV hNN H.size q53 13 x50 fq53 (by decide) hw) ⟨callB_of 1 hT (gwt_in w_4_155) rfl rfl rfl (hT _ w_1_4) (hT _ w_7_174) (by decide +kernel) ⟨Nat.le_trans (Nat.le_of_ble_eq_true rfl) hRf, Nat.le_trans (Nat.le_of_ble_eq_true rfl) hRl⟩, hT _ w_4_153, hT _ w_4_154⟩ ⟨PVc.blind, va_recv hK hW.1 (ci := 2) (q0 := q53) rfl (pic_obj fq53.1 fq53.2 (by decide)), PVc.at _ hW hK hN hE hS hF⟩ rfl rfl hl.1 rfl (lv_room (Nat.le_of_ble_eq_true rfl)) d_Qry_isOwnWord_162 ⟨hRc, hRs⟩) hS (fun q _ h => hF q h) hF (fun r55 x54 t H locs ht hvm hw hB hz1 hk1 hS => ?_)
                            have hW := Wd.back hB ht hF
                            clear hB ht hF hz1 hk1 hvm
                            refine lv_if_ne (tgt := 192) hx hb d_Qry_isOwnWord_165 (by decide) (fun c56 => ?_) (fun c56 => ?_)
                            · have hw := hw.1 c56
                              exact t_Qry_isOwnWord_192 hx hb hml hown hT hK hN hA hRc hRs hRf hRl hNN hE hret  o x54 H locs ls fo hw hW hS (lv_sub hl [0] rfl)
                            · have hw := hw.2 c56
                              refine lv_aload_n hx hb d_Qry_isOwnWord_168 rfl (lv_at hl 0 rfl) ?_
                              obtain ⟨q57, hq57, hw⟩ := hw
                              refine w_getr (q := q57) (k := 17) (t := 9) (C := R_Qry) (T := F_Qry) (N := 20) hx hb hT hown hK hW fo.1 fo.2 (by decide) in_Qry rfl rfl (by decide) rfl fr_Qry_17 w_3_105 d_Qry_isOwnWord_169 hq57 (fun aq57 bq57 => ?_)
                              have fq57 : q57 < NN ∧ kcC q57 = 2 := ⟨aq57, bq57⟩
                              refine va_ldcS hx hb hown (hE.str 16 (by decide)) d_Qry_isOwnWord_172 ?_
                              have hF := hW.free hS hA
                              refine va_calli (va_runV (C := R_Scn) (As := [.ref (kK 14)]) (rest := []) ⟨hx, hb, hml, hown, hT⟩ (k_Scn_isWord l dC dI cI cB cJ cZ ad NN E tM tC kK kV hNN H.size q57 14 x54 fq57 (by decide) hw) ⟨callB_of 1 hT (gwt_in w_4_155) rfl rfl rfl (hT _ w_1_4) (hT _ w_7_174) (by decide +kernel) ⟨Nat.le_trans (Nat.le_of_ble_eq_true rfl) hRf, Nat.le_trans (Nat.le_of_ble_eq_true rfl) hRl⟩, hT _ w_4_153, hT _ w_4_154⟩ ⟨PVc.blind, va_recv hK hW.1 (ci := 2) (q0 := q57) rfl (pic_obj fq57.1 fq57.2 (by decide)), PVc.at _ hW hK hN hE hS hF⟩ rfl rfl hl.1 rfl (lv_room (Nat.le_of_ble_eq_true rfl)) d_Qry_isOwnWord_174 ⟨hRc, hRs⟩) hS (fun q _ h => hF q h) hF (fun r59 x58 t H locs ht hvm hw hB hz1 hk1 hS => ?_)
                              have hW := Wd.back hB ht hF
                              clear hB ht hF hz1 hk1 hvm
                              refine lv_if_ne (tgt := 192) hx hb d_Qry_isOwnWord_177 (by decide) (fun c60 => ?_) (fun c60 => ?_)
                              · have hw := hw.1 c60
                                exact t_Qry_isOwnWord_192 hx hb hml hown hT hK hN hA hRc hRs hRf hRl hNN hE hret  o x58 H locs ls fo hw hW hS (lv_sub hl [0] rfl)
                              · have hw := hw.2 c60
                                refine lv_aload_n hx hb d_Qry_isOwnWord_180 rfl (lv_at hl 0 rfl) ?_
                                obtain ⟨q61, hq61, hw⟩ := hw
                                refine w_getr (q := q61) (k := 17) (t := 9) (C := R_Qry) (T := F_Qry) (N := 20) hx hb hT hown hK hW fo.1 fo.2 (by decide) in_Qry rfl rfl (by decide) rfl fr_Qry_17 w_3_105 d_Qry_isOwnWord_181 hq61 (fun aq61 bq61 => ?_)
                                have fq61 : q61 < NN ∧ kcC q61 = 2 := ⟨aq61, bq61⟩
                                refine va_ldcS hx hb hown (hE.str 17 (by decide)) d_Qry_isOwnWord_184 ?_
                                have hF := hW.free hS hA
                                refine va_calli (va_runV (C := R_Scn) (As := [.ref (kK 15)]) (rest := []) ⟨hx, hb, hml, hown, hT⟩ (k_Scn_isWord l dC dI cI cB cJ cZ ad NN E tM tC kK kV hNN H.size q61 15 x58 fq61 (by decide) hw) ⟨callB_of 1 hT (gwt_in w_4_155) rfl rfl rfl (hT _ w_1_4) (hT _ w_7_174) (by decide +kernel) ⟨Nat.le_trans (Nat.le_of_ble_eq_true rfl) hRf, Nat.le_trans (Nat.le_of_ble_eq_true rfl) hRl⟩, hT _ w_4_153, hT _ w_4_154⟩ ⟨PVc.blind, va_recv hK hW.1 (ci := 2) (q0 := q61) rfl (pic_obj fq61.1 fq61.2 (by decide)), PVc.at _ hW hK hN hE hS hF⟩ rfl rfl hl.1 rfl (lv_room (Nat.le_of_ble_eq_true rfl)) d_Qry_isOwnWord_186 ⟨hRc, hRs⟩) hS (fun q _ h => hF q h) hF (fun r63 x62 t H locs ht hvm hw hB hz1 hk1 hS => ?_)
                                have hW := Wd.back hB ht hF
                                clear hB ht hF hz1 hk1 hvm
                                refine lv_if_eq (tgt := 196) hx hb d_Qry_isOwnWord_189 (by decide) (fun c64 => ?_) (fun c64 => ?_)
                                · have hw := hw.1 c64
                                  refine lv_iconst (v := 0) hx hb d_Qry_isOwnWord_196 (by decide) ?_
                                  exact hret 0 x62 H locs 197 ls d_Qry_isOwnWord_197 rfl hw hW hS
                                · have hw := hw.2 c64
                                  exact t_Qry_isOwnWord_192 hx hb hml hown hT hK hN hA hRc hRs hRf hRl hNN hE hret  o x62 H locs ls fo hw hW hS (lv_sub hl [0] rfl)
set_option maxHeartbeats 4000000 in
set_option maxRecDepth 100000 in
theorem k_Qry_isOwnWord (l : Launch) (dC : Nat → ClassId) (dI : Nat → Nat → Nat) (cI cB cJ cZ : ClassId) (ad : Nat → Nat) (NN : Nat) (E : Heap) (tM tC : Nat) (kK kV : Nat → Nat) (hNN : 152 ≤ NN) (sz : Nat) (o : Nat) (x : St) (fo : o < NN ∧ kcC o = 9) {post : Int32 → St → Prop} (hw : wp_Qry_isOwnWord post o x) : Met l y_Qry_isOwnWord (wsOf y_Qry_isOwnWord b_Qry_isOwnWord 1 (some (.boolean))) ({ frames := 5, cells := 0, slots := 0, locals := 222 }) (va_Pc [.ref (ad o)] (PVc dC dI cI cB cJ cZ ad stC kcC NN E tM tC kK kV sz x)) (va_Qi (fun (r : Int32) (y : St) => post r y) (fun y t => Wd dC dI cI cB cJ cZ ad stC kcC NN (va_A (pic ad stC kcC NN cI cB cJ cZ x) sz) y t.heap) (va_A (pic ad stC kcC NN cI cB cJ cZ x) sz)) 0 0 (va_A (pic ad stC kcC NN cI cB cJ cZ x) sz) := by
  refine Met.ofW (cc := b_Qry_isOwnWord) (maxL := 1) (ret := some (.boolean)) (by decide) rfl ?_
  intro p e s m args below meth c s₁ B hml hv
  obtain ⟨rfl, ⟨hsz, hW0, hK, hN⟩, hE⟩ := hv
  have hx := B.exec
  have hb := B.bytes
  have hr := B.returns
  have hts := atoms_spec B.pre
  have hT : ∀ w ∈ TG, w.before _ s = true := fun w h => hts w (List.mem_cons_of_mem _ h)
  have hown : s.vm.findClass R_Qry = some m.cls := findClass_of_methodNamed B.named
  have hlocks := B.notSynchronized
  subst hsz
  have hW : Wd dC dI cI cB cJ cZ ad stC kcC NN (va_A (pic ad stC kcC NN cI cB cJ cZ x) s.heap.size) x s.heap := ⟨hW0.1, hW0.2.1.self (sz := s.heap.size), hW0.2.2⟩
  generalize hAe : va_A (pic ad stC kcC NN cI cB cJ cZ x) s.heap.size = A at hW hE ⊢
  have hA : ∀ q : Nat, s.heap.size ≤ q → A q := fun q h => by rw [← hAe]; exact Or.inr h
  have hS : va_S A s.heap s.heap [] := va_S.rf
  have hl := lv_entry ([.ref (ad o)]) (n := 1) (Nat.le_of_ble_eq_true rfl)
  rw [lg_entry_eq]
  generalize (lg_sl ([.ref (ad o)]) ++ List.replicate (1 - (lg_sl ([.ref (ad o)])).length) Slot.unset).toArray = ls at hl ⊢
  have hl : lv_has ls 1 [(0, .ref (ad o))] := hl
  exact t_Qry_isOwnWord_e hx hb hml hown hT hK hN hA (Nat.le_refl 0) (Nat.le_refl 0) (Nat.le_refl 5) (Nat.le_refl 222) hNN hE (fun r x H locs pc ls hd hz hp hW hS => W.zret (v := r) (ty := .boolean) hx hb hr hz (fun t ht hM => ⟨⟨r, x, rfl, hp, Wd.back hW ht.symm (fun _ z => z)⟩, hS.F ht⟩) hS.2.2 hd hlocks)  o x _ _ ls fo hw hW hS hl
end
