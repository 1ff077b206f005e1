theorem fr_Rec_0 : F_Rec 0 = (R_Rec, "count", "I", false) := rfl
theorem fr_Rec_1 : F_Rec 1 = (R_Rec, "entries", "I", false) := rfl
theorem fr_Rec_13 : F_Rec 13 = (R_Rec, "scan", "LStripedVault$Scan;", false) := rfl
theorem fr_Rec_14 : F_Rec 14 = (R_Rec, "schema", "LStripedVault$Schema;", false) := rfl
theorem fr_Rec_2 : F_Rec 2 = (R_Rec, "textEnd", "I", false) := rfl
theorem fr_Rec_3 : F_Rec 3 = (R_Rec, "fresh", "I", false) := rfl
theorem w_1_143 : (Jvm.Cond.fieldLink "StripedVault$Records" (144 : Nat) "StripedVault$Schema" "mode" "[I") ∈ TG := tw_1 143 (by decide +kernel) (by decide +kernel)
theorem w_1_156 : (Jvm.Cond.fieldLink "StripedVault$Records" (141 : Nat) "StripedVault$Schema" "parent" "[I") ∈ TG := tw_1 156 (by decide +kernel) (by decide +kernel)
theorem w_1_227 : (Jvm.Cond.fieldLink "StripedVault$Records" (45 : Nat) "StripedVault$Records" "count" "I") ∈ TG := tw_1 227 (by decide +kernel) (by decide +kernel)
theorem w_1_230 : (Jvm.Cond.fieldLink "StripedVault$Records" (49 : Nat) "StripedVault$Records" "entries" "I") ∈ TG := tw_1 230 (by decide +kernel) (by decide +kernel)
theorem w_1_231 : (Jvm.Cond.fieldLink "StripedVault$Records" (52 : Nat) "StripedVault$Records" "textEnd" "I") ∈ TG := tw_1 231 (by decide +kernel) (by decide +kernel)
theorem w_1_232 : (Jvm.Cond.fieldLink "StripedVault$Records" (63 : Nat) "StripedVault$Records" "fresh" "I") ∈ TG := tw_1 232 (by decide +kernel) (by decide +kernel)
theorem w_1_42 : (Jvm.Cond.fieldLink "StripedVault" (116 : Nat) "StripedVault$Sink" "bytes" "[B") ∈ TG := tw_1 42 (by decide +kernel) (by decide +kernel)
theorem w_1_78 : (Jvm.Cond.fieldLink "StripedVault$Records" (150 : Nat) "StripedVault$Scan" "bytes" "[B") ∈ TG := tw_1 78 (by decide +kernel) (by decide +kernel)
theorem w_1_87 : (Jvm.Cond.fieldLink "StripedVault$Records" (82 : Nat) "StripedVault$Scan" "pos" "I") ∈ TG := tw_1 87 (by decide +kernel) (by decide +kernel)
theorem w_1_94 : (Jvm.Cond.fieldLink "StripedVault$Records" (153 : Nat) "StripedVault$Scan" "wordAt" "I") ∈ TG := tw_1 94 (by decide +kernel) (by decide +kernel)
theorem w_1_98 : (Jvm.Cond.fieldLink "StripedVault$Records" (156 : Nat) "StripedVault$Scan" "wordSize" "I") ∈ TG := tw_1 98 (by decide +kernel) (by decide +kernel)
theorem w_2_8 : (Jvm.Cond.fieldLink "StripedVault$Records" (55 : Nat) "StripedVault$Records" "scan" "LStripedVault$Scan;") ∈ TG := tw_2 8 (by decide +kernel) (by decide +kernel)
theorem w_2_9 : (Jvm.Cond.fieldLink "StripedVault$Records" (59 : Nat) "StripedVault$Records" "schema" "LStripedVault$Schema;") ∈ TG := tw_2 9 (by decide +kernel) (by decide +kernel)
theorem w_4_86 : (Jvm.Cond.methodLink "StripedVault" (112 : Nat) ({ cls := "StripedVault", name := "useInput", desc := "()I" } : Jvm.MethodName)) ∈ TG := tw_4 86 (by decide +kernel) (by decide +kernel)
theorem w_4_88 : (Jvm.Cond.instanceMethod ({ cls := "StripedVault", name := "useInput", desc := "()I" } : Jvm.MethodName)) ∈ TG := tw_4 88 (by decide +kernel) (by decide +kernel)
theorem w_4_89 : (Jvm.Cond.code ({ cls := "StripedVault", name := "useInput", desc := "()I" } : Jvm.MethodName) prog_1_method_6_code (2 : Nat) (Option.some Jvm.ClassFile.FieldType.int)) ∈ TG := tw_4 89 (by decide +kernel) (by decide +kernel)
theorem w_4_90 : (Jvm.Cond.methodLink "StripedVault" (120 : Nat) ({ cls := "StripedVault$Scan", name := "begin", desc := "([BI)V" } : Jvm.MethodName)) ∈ TG := tw_4 90 (by decide +kernel) (by decide +kernel)
theorem w_4_91 : (Jvm.Cond.instanceMethod ({ cls := "StripedVault$Scan", name := "begin", desc := "([BI)V" } : Jvm.MethodName)) ∈ TG := tw_4 91 (by decide +kernel) (by decide +kernel)
theorem w_4_92 : (Jvm.Cond.selects "StripedVault$Scan" ({ cls := "StripedVault$Scan", name := "begin", desc := "([BI)V" } : Jvm.MethodName) ({ cls := "StripedVault$Scan", name := "begin", desc := "([BI)V" } : Jvm.MethodName)) ∈ TG := tw_4 92 (by decide +kernel) (by decide +kernel)
theorem w_4_93 : (Jvm.Cond.code ({ cls := "StripedVault$Scan", name := "begin", desc := "([BI)V" } : Jvm.MethodName) prog_7_method_2_code (3 : Nat) (Option.none : Option Jvm.ClassFile.FieldType)) ∈ TG := tw_4 93 (by decide +kernel) (by decide +kernel)
theorem w_4_95 : (Jvm.Cond.methodLink "StripedVault" (124 : Nat) ({ cls := "StripedVault$Schema", name := "readText", desc := "(LStripedVault$Scan;)I" } : Jvm.MethodName)) ∈ TG := tw_4 95 (by decide +kernel) (by decide +kernel)
theorem w_4_96 : (Jvm.Cond.instanceMethod ({ cls := "StripedVault$Schema", name := "readText", desc := "(LStripedVault$Scan;)I" } : Jvm.MethodName)) ∈ TG := tw_4 96 (by decide +kernel) (by decide +kernel)
theorem w_4_97 : (Jvm.Cond.selects "StripedVault$Schema" ({ cls := "StripedVault$Schema", name := "readText", desc := "(LStripedVault$Scan;)I" } : Jvm.MethodName) ({ cls := "StripedVault$Schema", name := "readText", desc := "(LStripedVault$Scan;)I" } : Jvm.MethodName)) ∈ TG := tw_4 97 (by decide +kernel) (by decide +kernel)
theorem w_4_98 : (Jvm.Cond.code ({ cls := "StripedVault$Schema", name := "readText", desc := "(LStripedVault$Scan;)I" } : Jvm.MethodName) prog_8_method_13_code (5 : Nat) (Option.some Jvm.ClassFile.FieldType.int)) ∈ TG := tw_4 98 (by decide +kernel) (by decide +kernel)
theorem w_5_11 : (Jvm.Cond.methodLink "StripedVault" (128 : Nat) ({ cls := "StripedVault$Records", name := "forget", desc := "()V" } : Jvm.MethodName)) ∈ TG := tw_5 11 (by decide +kernel) (by decide +kernel)
theorem w_5_12 : (Jvm.Cond.instanceMethod ({ cls := "StripedVault$Records", name := "forget", desc := "()V" } : Jvm.MethodName)) ∈ TG := tw_5 12 (by decide +kernel) (by decide +kernel)
theorem w_5_13 : (Jvm.Cond.selects "StripedVault$Records" ({ cls := "StripedVault$Records", name := "forget", desc := "()V" } : Jvm.MethodName) ({ cls := "StripedVault$Records", name := "forget", desc := "()V" } : Jvm.MethodName)) ∈ TG := tw_5 13 (by decide +kernel) (by decide +kernel)
theorem w_5_14 : (Jvm.Cond.code ({ cls := "StripedVault$Records", name := "forget", desc := "()V" } : Jvm.MethodName) prog_6_method_2_code (1 : Nat) (Option.none : Option Jvm.ClassFile.FieldType)) ∈ TG := tw_5 14 (by decide +kernel) (by decide +kernel)
theorem w_5_27 : (Jvm.Cond.methodLink "StripedVault$Records" (85 : Nat) ({ cls := "StripedVault$Scan", name := "refuse", desc := "(I)V" } : Jvm.MethodName)) ∈ TG := tw_5 27 (by decide +kernel) (by decide +kernel)
theorem w_5_37 : (Jvm.Cond.methodLink "StripedVault$Records" (147 : Nat) ({ cls := "StripedVault$Scan", name := "takeAnyWord", desc := "()Z" } : Jvm.MethodName)) ∈ TG := tw_5 37 (by decide +kernel) (by decide +kernel)
theorem w_5_38 : (Jvm.Cond.methodLink "StripedVault$Records" (159 : Nat) ({ cls := "StripedVault$Schema", name := "hasName", desc := "(I[BII)Z" } : Jvm.MethodName)) ∈ TG := tw_5 38 (by decide +kernel) (by decide +kernel)
theorem w_5_43 : (Jvm.Cond.methodLink "StripedVault$Records" (96 : Nat) ({ cls := "StripedVault$Schema", name := "columnsBefore", desc := "(I)I" } : Jvm.MethodName)) ∈ TG := tw_5 43 (by decide +kernel) (by decide +kernel)
theorem w_5_44 : (Jvm.Cond.instanceMethod ({ cls := "StripedVault$Schema", name := "columnsBefore", desc := "(I)I" } : Jvm.MethodName)) ∈ TG := tw_5 44 (by decide +kernel) (by decide +kernel)
theorem w_5_45 : (Jvm.Cond.selects "StripedVault$Schema" ({ cls := "StripedVault$Schema", name := "columnsBefore", desc := "(I)I" } : Jvm.MethodName) ({ cls := "StripedVault$Schema", name := "columnsBefore", desc := "(I)I" } : Jvm.MethodName)) ∈ TG := tw_5 45 (by decide +kernel) (by decide +kernel)
theorem w_5_46 : (Jvm.Cond.code ({ cls := "StripedVault$Schema", name := "columnsBefore", desc := "(I)I" } : Jvm.MethodName) prog_8_method_7_code (2 : Nat) (Option.some Jvm.ClassFile.FieldType.int)) ∈ TG := tw_5 46 (by decide +kernel) (by decide +kernel)
theorem w_5_47 : (Jvm.Cond.methodLink "StripedVault$Records" (102 : Nat) ({ cls := "StripedVault$Schema", name := "defOf", desc := "(I)I" } : Jvm.MethodName)) ∈ TG := tw_5 47 (by decide +kernel) (by decide +kernel)
theorem w_5_48 : (Jvm.Cond.methodLink "StripedVault$Records" (105 : Nat) ({ cls := "StripedVault$Records", name := "enter", desc := "(IIIJ)V" } : Jvm.MethodName)) ∈ TG := tw_5 48 (by decide +kernel) (by decide +kernel)
theorem w_5_50 : (Jvm.Cond.instanceMethod ({ cls := "StripedVault$Records", name := "enter", desc := "(IIIJ)V" } : Jvm.MethodName)) ∈ TG := tw_5 50 (by decide +kernel) (by decide +kernel)
theorem w_5_51 : (Jvm.Cond.code ({ cls := "StripedVault$Records", name := "enter", desc := "(IIIJ)V" } : Jvm.MethodName) prog_6_method_5_code (6 : Nat) (Option.none : Option Jvm.ClassFile.FieldType)) ∈ TG := tw_5 51 (by decide +kernel) (by decide +kernel)
theorem ws_2 : Cond.selects R_V y_V_useInput y_V_useInput ∈ TG := tw_s 2 (by decide +kernel) (by decide +kernel)
theorem ws_9 : Cond.selects R_Rec y_Rec_enter y_Rec_enter ∈ TG := tw_s 9 (by decide +kernel) (by decide +kernel)
theorem d_Rec_forget_0 : decode b_Rec_forget 0 = .ok (.aload_n 0, 1) := by decide +kernel
theorem d_Rec_forget_1 : decode b_Rec_forget 1 = .ok (.iconst 0, 1) := by decide +kernel
theorem d_Rec_forget_2 : decode b_Rec_forget 2 = .ok (.putfield 45, 3) := by decide +kernel
theorem d_Rec_forget_5 : decode b_Rec_forget 5 = .ok (.aload_n 0, 1) := by decide +kernel
theorem d_Rec_forget_6 : decode b_Rec_forget 6 = .ok (.iconst 0, 1) := by decide +kernel
theorem d_Rec_forget_7 : decode b_Rec_forget 7 = .ok (.putfield 49, 3) := by decide +kernel
theorem d_Rec_forget_10 : decode b_Rec_forget 10 = .ok (.aload_n 0, 1) := by decide +kernel
theorem d_Rec_forget_11 : decode b_Rec_forget 11 = .ok (.iconst 0, 1) := by decide +kernel
theorem d_Rec_forget_12 : decode b_Rec_forget 12 = .ok (.putfield 52, 3) := by decide +kernel
theorem d_Rec_forget_15 : decode b_Rec_forget 15 = .ok (.aload_n 0, 1) := by decide +kernel
theorem d_Rec_forget_16 : decode b_Rec_forget 16 = .ok (.getfield 29, 3) := by decide +kernel
theorem d_Rec_forget_19 : decode b_Rec_forget 19 = .ok (.iconst (-1), 1) := by decide +kernel
theorem d_Rec_forget_20 : decode b_Rec_forget 20 = .ok (.invokestatic 39, 3) := by decide +kernel
theorem d_Rec_forget_23 : decode b_Rec_forget 23 = .ok (.aload_n 0, 1) := by decide +kernel
theorem d_Rec_forget_24 : decode b_Rec_forget 24 = .ok (.getfield 32, 3) := by decide +kernel
theorem d_Rec_forget_27 : decode b_Rec_forget 27 = .ok (.iconst (-1), 1) := by decide +kernel
theorem d_Rec_forget_28 : decode b_Rec_forget 28 = .ok (.invokestatic 39, 3) := by decide +kernel
theorem d_Rec_forget_31 : decode b_Rec_forget 31 = .ok (.return_, 1) := by decide +kernel
theorem d_V_schema_0 : decode b_V_schema 0 = .ok (.aload_n 0, 1) := by decide +kernel
theorem d_V_schema_1 : decode b_V_schema 1 = .ok (.invokevirtual 112, 3) := by decide +kernel
theorem d_V_schema_4 : decode b_V_schema 4 = .ok (.istore_n 1, 1) := by decide +kernel
theorem d_V_schema_5 : decode b_V_schema 5 = .ok (.iload_n 1, 1) := by decide +kernel
theorem d_V_schema_6 : decode b_V_schema 6 = .ok (.sipush 4000, 3) := by decide +kernel
theorem d_V_schema_9 : decode b_V_schema 9 = .ok (.if_icmp .le 7, 3) := by decide +kernel
theorem d_V_schema_16 : decode b_V_schema 16 = .ok (.aload_n 0, 1) := by decide +kernel
theorem d_V_schema_17 : decode b_V_schema 17 = .ok (.getfield 28, 3) := by decide +kernel
theorem d_V_schema_20 : decode b_V_schema 20 = .ok (.aload_n 0, 1) := by decide +kernel
theorem d_V_schema_21 : decode b_V_schema 21 = .ok (.getfield 19, 3) := by decide +kernel
theorem d_V_schema_24 : decode b_V_schema 24 = .ok (.getfield 116, 3) := by decide +kernel
theorem d_V_schema_27 : decode b_V_schema 27 = .ok (.iload_n 1, 1) := by decide +kernel
theorem d_V_schema_28 : decode b_V_schema 28 = .ok (.invokevirtual 120, 3) := by decide +kernel
theorem d_V_schema_31 : decode b_V_schema 31 = .ok (.aload_n 0, 1) := by decide +kernel
theorem d_V_schema_32 : decode b_V_schema 32 = .ok (.getfield 39, 3) := by decide +kernel
theorem d_V_schema_35 : decode b_V_schema 35 = .ok (.aload_n 0, 1) := by decide +kernel
theorem d_V_schema_36 : decode b_V_schema 36 = .ok (.getfield 28, 3) := by decide +kernel
theorem d_V_schema_39 : decode b_V_schema 39 = .ok (.invokevirtual 124, 3) := by decide +kernel
theorem d_V_schema_42 : decode b_V_schema 42 = .ok (.istore_n 2, 1) := by decide +kernel
theorem d_V_schema_43 : decode b_V_schema 43 = .ok (.iload_n 2, 1) := by decide +kernel
theorem d_V_schema_44 : decode b_V_schema 44 = .ok (.iconst (-1), 1) := by decide +kernel
theorem d_V_schema_45 : decode b_V_schema 45 = .ok (.if_icmp .eq 5, 3) := by decide +kernel
theorem d_V_schema_50 : decode b_V_schema 50 = .ok (.aload_n 0, 1) := by decide +kernel
theorem d_V_schema_51 : decode b_V_schema 51 = .ok (.getfield 35, 3) := by decide +kernel
theorem d_V_schema_54 : decode b_V_schema 54 = .ok (.astore_n 3, 1) := by decide +kernel
theorem d_V_schema_55 : decode b_V_schema 55 = .ok (.aload_n 0, 1) := by decide +kernel
theorem d_V_schema_56 : decode b_V_schema 56 = .ok (.aload_n 0, 1) := by decide +kernel
theorem d_V_schema_57 : decode b_V_schema 57 = .ok (.getfield 39, 3) := by decide +kernel
theorem d_V_schema_60 : decode b_V_schema 60 = .ok (.putfield 35, 3) := by decide +kernel
theorem d_V_schema_63 : decode b_V_schema 63 = .ok (.aload_n 0, 1) := by decide +kernel
theorem d_V_schema_64 : decode b_V_schema 64 = .ok (.aload_n 3, 1) := by decide +kernel
theorem d_V_schema_65 : decode b_V_schema 65 = .ok (.putfield 39, 3) := by decide +kernel
theorem d_V_schema_68 : decode b_V_schema 68 = .ok (.aload_n 0, 1) := by decide +kernel
theorem d_V_schema_69 : decode b_V_schema 69 = .ok (.getfield 45, 3) := by decide +kernel
theorem d_V_schema_72 : decode b_V_schema 72 = .ok (.invokevirtual 128, 3) := by decide +kernel
theorem d_V_schema_75 : decode b_V_schema 75 = .ok (.iconst (-1), 1) := by decide +kernel
theorem d_V_schema_76 : decode b_V_schema 76 = .ok (.ireturn, 1) := by decide +kernel
theorem d_V_schema_48 : decode b_V_schema 48 = .ok (.iload_n 2, 1) := by decide +kernel
theorem d_V_schema_49 : decode b_V_schema 49 = .ok (.ireturn, 1) := by decide +kernel
theorem d_V_schema_12 : decode b_V_schema 12 = .ok (.sipush 4000, 3) := by decide +kernel
theorem d_V_schema_15 : decode b_V_schema 15 = .ok (.ireturn, 1) := by decide +kernel
theorem d_Rec_readName_119 : decode b_Rec_readName 119 = .ok (.aload_n 0, 1) := by decide +kernel
theorem d_Rec_readName_120 : decode b_Rec_readName 120 = .ok (.getfield 55, 3) := by decide +kernel
theorem d_Rec_readName_123 : decode b_Rec_readName 123 = .ok (.aload_n 0, 1) := by decide +kernel
theorem d_Rec_readName_124 : decode b_Rec_readName 124 = .ok (.getfield 55, 3) := by decide +kernel
theorem d_Rec_readName_127 : decode b_Rec_readName 127 = .ok (.getfield 153, 3) := by decide +kernel
theorem d_Rec_readName_130 : decode b_Rec_readName 130 = .ok (.invokevirtual 85, 3) := by decide +kernel
theorem d_Rec_readName_133 : decode b_Rec_readName 133 = .ok (.iconst (-1), 1) := by decide +kernel
theorem d_Rec_readName_134 : decode b_Rec_readName 134 = .ok (.ireturn, 1) := by decide +kernel
theorem d_Rec_readName_113 : decode b_Rec_readName 113 = .ok (.iinc 5 1, 3) := by decide +kernel
theorem d_Rec_readName_116 : decode b_Rec_readName 116 = .ok (.goto (-84), 3) := by decide +kernel
theorem d_Rec_readName_111 : decode b_Rec_readName 111 = .ok (.istore 4, 2) := by decide +kernel
theorem d_Rec_readName_32 : decode b_Rec_readName 32 = .ok (.iload 5, 2) := by decide +kernel
theorem d_Rec_readName_34 : decode b_Rec_readName 34 = .ok (.iload_n 2, 1) := by decide +kernel
theorem d_Rec_readName_35 : decode b_Rec_readName 35 = .ok (.if_icmp .ge 84, 3) := by decide +kernel
theorem d_Rec_readName_38 : decode b_Rec_readName 38 = .ok (.iload 4, 2) := by decide +kernel
theorem d_Rec_readName_40 : decode b_Rec_readName 40 = .ok (.ifCond .ne 79, 3) := by decide +kernel
theorem d_Rec_readName_43 : decode b_Rec_readName 43 = .ok (.aload_n 0, 1) := by decide +kernel
theorem d_Rec_readName_44 : decode b_Rec_readName 44 = .ok (.getfield 59, 3) := by decide +kernel
theorem d_Rec_readName_47 : decode b_Rec_readName 47 = .ok (.getfield 141, 3) := by decide +kernel
theorem d_Rec_readName_50 : decode b_Rec_readName 50 = .ok (.iload 5, 2) := by decide +kernel
theorem d_Rec_readName_52 : decode b_Rec_readName 52 = .ok (.iaload, 1) := by decide +kernel
theorem d_Rec_readName_53 : decode b_Rec_readName 53 = .ok (.iload_n 3, 1) := by decide +kernel
theorem d_Rec_readName_54 : decode b_Rec_readName 54 = .ok (.if_icmp .ne 59, 3) := by decide +kernel
theorem d_Rec_readName_57 : decode b_Rec_readName 57 = .ok (.aload_n 0, 1) := by decide +kernel
theorem d_Rec_readName_58 : decode b_Rec_readName 58 = .ok (.getfield 59, 3) := by decide +kernel
theorem d_Rec_readName_61 : decode b_Rec_readName 61 = .ok (.iload 5, 2) := by decide +kernel
theorem d_Rec_readName_63 : decode b_Rec_readName 63 = .ok (.aload_n 0, 1) := by decide +kernel
theorem d_Rec_readName_64 : decode b_Rec_readName 64 = .ok (.getfield 55, 3) := by decide +kernel
theorem d_Rec_readName_67 : decode b_Rec_readName 67 = .ok (.getfield 150, 3) := by decide +kernel
theorem d_Rec_readName_70 : decode b_Rec_readName 70 = .ok (.aload_n 0, 1) := by decide +kernel
theorem d_Rec_readName_71 : decode b_Rec_readName 71 = .ok (.getfield 55, 3) := by decide +kernel
theorem d_Rec_readName_74 : decode b_Rec_readName 74 = .ok (.getfield 153, 3) := by decide +kernel
theorem d_Rec_readName_77 : decode b_Rec_readName 77 = .ok (.aload_n 0, 1) := by decide +kernel
theorem d_Rec_readName_78 : decode b_Rec_readName 78 = .ok (.getfield 55, 3) := by decide +kernel
theorem d_Rec_readName_81 : decode b_Rec_readName 81 = .ok (.getfield 156, 3) := by decide +kernel
theorem d_Rec_readName_84 : decode b_Rec_readName 84 = .ok (.invokevirtual 159, 3) := by decide +kernel
theorem d_Rec_readName_87 : decode b_Rec_readName 87 = .ok (.ifCond .eq 6, 3) := by decide +kernel
theorem d_Rec_readName_93 : decode b_Rec_readName 93 = .ok (.aload_n 0, 1) := by decide +kernel
theorem d_Rec_readName_94 : decode b_Rec_readName 94 = .ok (.getfield 59, 3) := by decide +kernel
theorem d_Rec_readName_97 : decode b_Rec_readName 97 = .ok (.getfield 144, 3) := by decide +kernel
theorem d_Rec_readName_100 : decode b_Rec_readName 100 = .ok (.iload 5, 2) := by decide +kernel
theorem d_Rec_readName_102 : decode b_Rec_readName 102 = .ok (.iaload, 1) := by decide +kernel
theorem d_Rec_readName_103 : decode b_Rec_readName 103 = .ok (.ifCond .ne 7, 3) := by decide +kernel
theorem d_Rec_readName_110 : decode b_Rec_readName 110 = .ok (.iconst 0, 1) := by decide +kernel
theorem d_Rec_readName_106 : decode b_Rec_readName 106 = .ok (.iconst 1, 1) := by decide +kernel
theorem d_Rec_readName_107 : decode b_Rec_readName 107 = .ok (.goto 4, 3) := by decide +kernel
theorem d_Rec_readName_90 : decode b_Rec_readName 90 = .ok (.iload 5, 2) := by decide +kernel
theorem d_Rec_readName_92 : decode b_Rec_readName 92 = .ok (.ireturn, 1) := by decide +kernel
theorem d_Rec_readName_0 : decode b_Rec_readName 0 = .ok (.aload_n 0, 1) := by decide +kernel
theorem d_Rec_readName_1 : decode b_Rec_readName 1 = .ok (.getfield 55, 3) := by decide +kernel
theorem d_Rec_readName_4 : decode b_Rec_readName 4 = .ok (.invokevirtual 147, 3) := by decide +kernel
theorem d_Rec_readName_7 : decode b_Rec_readName 7 = .ok (.ifCond .ne 19, 3) := by decide +kernel
theorem d_Rec_readName_26 : decode b_Rec_readName 26 = .ok (.iconst 0, 1) := by decide +kernel
theorem d_Rec_readName_27 : decode b_Rec_readName 27 = .ok (.istore 4, 2) := by decide +kernel
theorem d_Rec_readName_29 : decode b_Rec_readName 29 = .ok (.iload_n 1, 1) := by decide +kernel
theorem d_Rec_readName_30 : decode b_Rec_readName 30 = .ok (.istore 5, 2) := by decide +kernel
theorem d_Rec_readName_10 : decode b_Rec_readName 10 = .ok (.aload_n 0, 1) := by decide +kernel
theorem d_Rec_readName_11 : decode b_Rec_readName 11 = .ok (.getfield 55, 3) := by decide +kernel
theorem d_Rec_readName_14 : decode b_Rec_readName 14 = .ok (.aload_n 0, 1) := by decide +kernel
theorem d_Rec_readName_15 : decode b_Rec_readName 15 = .ok (.getfield 55, 3) := by decide +kernel
theorem d_Rec_readName_18 : decode b_Rec_readName 18 = .ok (.getfield 82, 3) := by decide +kernel
theorem d_Rec_readName_21 : decode b_Rec_readName 21 = .ok (.invokevirtual 85, 3) := by decide +kernel
theorem d_Rec_readName_24 : decode b_Rec_readName 24 = .ok (.iconst (-1), 1) := by decide +kernel
theorem d_Rec_readName_25 : decode b_Rec_readName 25 = .ok (.ireturn, 1) := by decide +kernel
theorem d_Sch_columnsBefore_0 : decode b_Sch_columnsBefore 0 = .ok (.iload_n 1, 1) := by decide +kernel
theorem d_Sch_columnsBefore_1 : decode b_Sch_columnsBefore 1 = .ok (.aload_n 0, 1) := by decide +kernel
theorem d_Sch_columnsBefore_2 : decode b_Sch_columnsBefore 2 = .ok (.getfield 46, 3) := by decide +kernel
theorem d_Sch_columnsBefore_5 : decode b_Sch_columnsBefore 5 = .ok (.if_icmp .ge 12, 3) := by decide +kernel
theorem d_Sch_columnsBefore_17 : decode b_Sch_columnsBefore 17 = .ok (.aload_n 0, 1) := by decide +kernel
theorem d_Sch_columnsBefore_18 : decode b_Sch_columnsBefore 18 = .ok (.getfield 50, 3) := by decide +kernel
theorem d_Sch_columnsBefore_21 : decode b_Sch_columnsBefore 21 = .ok (.ireturn, 1) := by decide +kernel
theorem d_Sch_columnsBefore_8 : decode b_Sch_columnsBefore 8 = .ok (.aload_n 0, 1) := by decide +kernel
theorem d_Sch_columnsBefore_9 : decode b_Sch_columnsBefore 9 = .ok (.getfield 33, 3) := by decide +kernel
theorem d_Sch_columnsBefore_12 : decode b_Sch_columnsBefore 12 = .ok (.iload_n 1, 1) := by decide +kernel
theorem d_Sch_columnsBefore_13 : decode b_Sch_columnsBefore 13 = .ok (.iaload, 1) := by decide +kernel
theorem d_Sch_columnsBefore_14 : decode b_Sch_columnsBefore 14 = .ok (.goto 7, 3) := by decide +kernel
theorem d_Rec_enter_54 : decode b_Rec_enter 54 = .ok (.aload_n 0, 1) := by decide +kernel
theorem d_Rec_enter_55 : decode b_Rec_enter 55 = .ok (.dup, 1) := by decide +kernel
theorem d_Rec_enter_56 : decode b_Rec_enter 56 = .ok (.getfield 63, 3) := by decide +kernel
theorem d_Rec_enter_59 : decode b_Rec_enter 59 = .ok (.iconst 1, 1) := by decide +kernel
theorem d_Rec_enter_60 : decode b_Rec_enter 60 = .ok (.iadd, 1) := by decide +kernel
theorem d_Rec_enter_61 : decode b_Rec_enter 61 = .ok (.putfield 63, 3) := by decide +kernel
theorem d_Rec_enter_64 : decode b_Rec_enter 64 = .ok (.return_, 1) := by decide +kernel
theorem d_Rec_enter_0 : decode b_Rec_enter 0 = .ok (.aload_n 0, 1) := by decide +kernel
theorem d_Rec_enter_1 : decode b_Rec_enter 1 = .ok (.getfield 63, 3) := by decide +kernel
theorem d_Rec_enter_4 : decode b_Rec_enter 4 = .ok (.sipush 10000, 3) := by decide +kernel
theorem d_Rec_enter_7 : decode b_Rec_enter 7 = .ok (.if_icmp .ge 47, 3) := by decide +kernel
theorem d_Rec_enter_10 : decode b_Rec_enter 10 = .ok (.aload_n 0, 1) := by decide +kernel
theorem d_Rec_enter_11 : decode b_Rec_enter 11 = .ok (.getfield 22, 3) := by decide +kernel
theorem d_Rec_enter_14 : decode b_Rec_enter 14 = .ok (.aload_n 0, 1) := by decide +kernel
theorem d_Rec_enter_15 : decode b_Rec_enter 15 = .ok (.getfield 63, 3) := by decide +kernel
theorem d_Rec_enter_18 : decode b_Rec_enter 18 = .ok (.iload_n 1, 1) := by decide +kernel
theorem d_Rec_enter_19 : decode b_Rec_enter 19 = .ok (.i2b, 1) := by decide +kernel
theorem d_Rec_enter_20 : decode b_Rec_enter 20 = .ok (.bastore, 1) := by decide +kernel
theorem d_Rec_enter_21 : decode b_Rec_enter 21 = .ok (.aload_n 0, 1) := by decide +kernel
theorem d_Rec_enter_22 : decode b_Rec_enter 22 = .ok (.getfield 9, 3) := by decide +kernel
theorem d_Rec_enter_25 : decode b_Rec_enter 25 = .ok (.aload_n 0, 1) := by decide +kernel
theorem d_Rec_enter_26 : decode b_Rec_enter 26 = .ok (.getfield 63, 3) := by decide +kernel
theorem d_Rec_enter_29 : decode b_Rec_enter 29 = .ok (.iload_n 2, 1) := by decide +kernel
theorem d_Rec_enter_30 : decode b_Rec_enter 30 = .ok (.i2b, 1) := by decide +kernel
theorem d_Rec_enter_31 : decode b_Rec_enter 31 = .ok (.bastore, 1) := by decide +kernel
theorem d_Rec_enter_32 : decode b_Rec_enter 32 = .ok (.aload_n 0, 1) := by decide +kernel
theorem d_Rec_enter_33 : decode b_Rec_enter 33 = .ok (.getfield 15, 3) := by decide +kernel
theorem d_Rec_enter_36 : decode b_Rec_enter 36 = .ok (.aload_n 0, 1) := by decide +kernel
theorem d_Rec_enter_37 : decode b_Rec_enter 37 = .ok (.getfield 63, 3) := by decide +kernel
theorem d_Rec_enter_40 : decode b_Rec_enter 40 = .ok (.iload_n 3, 1) := by decide +kernel
theorem d_Rec_enter_41 : decode b_Rec_enter 41 = .ok (.i2b, 1) := by decide +kernel
theorem d_Rec_enter_42 : decode b_Rec_enter 42 = .ok (.bastore, 1) := by decide +kernel
theorem d_Rec_enter_43 : decode b_Rec_enter 43 = .ok (.aload_n 0, 1) := by decide +kernel
theorem d_Rec_enter_44 : decode b_Rec_enter 44 = .ok (.getfield 18, 3) := by decide +kernel
theorem d_Rec_enter_47 : decode b_Rec_enter 47 = .ok (.aload_n 0, 1) := by decide +kernel
theorem d_Rec_enter_48 : decode b_Rec_enter 48 = .ok (.getfield 63, 3) := by decide +kernel
theorem d_Rec_enter_51 : decode b_Rec_enter 51 = .ok (.lload 4, 2) := by decide +kernel
theorem d_Rec_enter_53 : decode b_Rec_enter 53 = .ok (.lastore, 1) := by decide +kernel
theorem d_Rec_enterMissing_20 : decode b_Rec_enterMissing 20 = .ok (.iload 6, 2) := by decide +kernel
theorem d_Rec_enterMissing_22 : decode b_Rec_enterMissing 22 = .ok (.iload 5, 2) := by decide +kernel
theorem d_Rec_enterMissing_24 : decode b_Rec_enterMissing 24 = .ok (.if_icmp .ge 26, 3) := by decide +kernel
theorem d_Rec_enterMissing_50 : decode b_Rec_enterMissing 50 = .ok (.return_, 1) := by decide +kernel
theorem d_Rec_enterMissing_27 : decode b_Rec_enterMissing 27 = .ok (.aload_n 0, 1) := by decide +kernel
theorem d_Rec_enterMissing_28 : decode b_Rec_enterMissing 28 = .ok (.iload 6, 2) := by decide +kernel
theorem d_Rec_enterMissing_30 : decode b_Rec_enterMissing 30 = .ok (.iload_n 3, 1) := by decide +kernel
theorem d_Rec_enterMissing_31 : decode b_Rec_enterMissing 31 = .ok (.aload_n 0, 1) := by decide +kernel
theorem d_Rec_enterMissing_32 : decode b_Rec_enterMissing 32 = .ok (.getfield 59, 3) := by decide +kernel
theorem d_Rec_enterMissing_35 : decode b_Rec_enterMissing 35 = .ok (.iload 4, 2) := by decide +kernel
theorem d_Rec_enterMissing_37 : decode b_Rec_enterMissing 37 = .ok (.invokevirtual 102, 3) := by decide +kernel
theorem d_Rec_enterMissing_40 : decode b_Rec_enterMissing 40 = .ok (.lconst 0, 1) := by decide +kernel
theorem d_Rec_enterMissing_41 : decode b_Rec_enterMissing 41 = .ok (.invokevirtual 105, 3) := by decide +kernel
theorem d_Rec_enterMissing_44 : decode b_Rec_enterMissing 44 = .ok (.iinc 6 1, 3) := by decide +kernel
theorem d_Rec_enterMissing_47 : decode b_Rec_enterMissing 47 = .ok (.goto (-27), 3) := by decide +kernel
theorem d_Rec_enterMissing_0 : decode b_Rec_enterMissing 0 = .ok (.aload_n 0, 1) := by decide +kernel
theorem d_Rec_enterMissing_1 : decode b_Rec_enterMissing 1 = .ok (.getfield 59, 3) := by decide +kernel
theorem d_Rec_enterMissing_4 : decode b_Rec_enterMissing 4 = .ok (.iload_n 2, 1) := by decide +kernel
theorem d_Rec_enterMissing_5 : decode b_Rec_enterMissing 5 = .ok (.invokevirtual 96, 3) := by decide +kernel
theorem d_Rec_enterMissing_8 : decode b_Rec_enterMissing 8 = .ok (.istore 5, 2) := by decide +kernel
theorem d_Rec_enterMissing_10 : decode b_Rec_enterMissing 10 = .ok (.aload_n 0, 1) := by decide +kernel
theorem d_Rec_enterMissing_11 : decode b_Rec_enterMissing 11 = .ok (.getfield 59, 3) := by decide +kernel
theorem d_Rec_enterMissing_14 : decode b_Rec_enterMissing 14 = .ok (.iload_n 1, 1) := by decide +kernel
theorem d_Rec_enterMissing_15 : decode b_Rec_enterMissing 15 = .ok (.invokevirtual 96, 3) := by decide +kernel
theorem d_Rec_enterMissing_18 : decode b_Rec_enterMissing 18 = .ok (.istore 6, 2) := by decide +kernel
theorem d_Rec_someRequired_38 : decode b_Rec_someRequired 38 = .ok (.iinc 4 1, 3) := by decide +kernel
theorem d_Rec_someRequired_41 : decode b_Rec_someRequired 41 = .ok (.goto (-38), 3) := by decide +kernel
theorem d_Rec_someRequired_3 : decode b_Rec_someRequired 3 = .ok (.iload 4, 2) := by decide +kernel
theorem d_Rec_someRequired_5 : decode b_Rec_someRequired 5 = .ok (.iload_n 2, 1) := by decide +kernel
theorem d_Rec_someRequired_6 : decode b_Rec_someRequired 6 = .ok (.if_icmp .ge 38, 3) := by decide +kernel
theorem d_Rec_someRequired_44 : decode b_Rec_someRequired 44 = .ok (.iconst 0, 1) := by decide +kernel
theorem d_Rec_someRequired_45 : decode b_Rec_someRequired 45 = .ok (.ireturn, 1) := by decide +kernel
theorem d_Rec_someRequired_9 : decode b_Rec_someRequired 9 = .ok (.aload_n 0, 1) := by decide +kernel
theorem d_Rec_someRequired_10 : decode b_Rec_someRequired 10 = .ok (.getfield 59, 3) := by decide +kernel
theorem d_Rec_someRequired_13 : decode b_Rec_someRequired 13 = .ok (.getfield 141, 3) := by decide +kernel
theorem d_Rec_someRequired_16 : decode b_Rec_someRequired 16 = .ok (.iload 4, 2) := by decide +kernel
theorem d_Rec_someRequired_18 : decode b_Rec_someRequired 18 = .ok (.iaload, 1) := by decide +kernel
theorem d_Rec_someRequired_19 : decode b_Rec_someRequired 19 = .ok (.iload_n 3, 1) := by decide +kernel
theorem d_Rec_someRequired_20 : decode b_Rec_someRequired 20 = .ok (.if_icmp .ne 18, 3) := by decide +kernel
theorem d_Rec_someRequired_23 : decode b_Rec_someRequired 23 = .ok (.aload_n 0, 1) := by decide +kernel
theorem d_Rec_someRequired_24 : decode b_Rec_someRequired 24 = .ok (.getfield 59, 3) := by decide +kernel
theorem d_Rec_someRequired_27 : decode b_Rec_someRequired 27 = .ok (.getfield 144, 3) := by decide +kernel
theorem d_Rec_someRequired_30 : decode b_Rec_someRequired 30 = .ok (.iload 4, 2) := by decide +kernel
theorem d_Rec_someRequired_32 : decode b_Rec_someRequired 32 = .ok (.iaload, 1) := by decide +kernel
theorem d_Rec_someRequired_33 : decode b_Rec_someRequired 33 = .ok (.ifCond .ne 5, 3) := by decide +kernel
theorem d_Rec_someRequired_36 : decode b_Rec_someRequired 36 = .ok (.iconst 1, 1) := by decide +kernel
theorem d_Rec_someRequired_37 : decode b_Rec_someRequired 37 = .ok (.ireturn, 1) := by decide +kernel
theorem d_Rec_someRequired_0 : decode b_Rec_someRequired 0 = .ok (.iload_n 1, 1) := by decide +kernel
theorem d_Rec_someRequired_1 : decode b_Rec_someRequired 1 = .ok (.istore 4, 2) := by decide +kernel
section
variable (l : Launch) (dC : Nat → ClassId) (dI : Nat → Nat → Nat) (cI cB cJ cZ : ClassId)
set_option maxRecDepth 100000 in
set_option maxHeartbeats 4000000 in
set_option maxRecDepth 100000 in
theorem t_JArr_fill_5 {p : Program} {l : Launch} {e : Env} {R : Room} {s : State} {m : MethodId} {args : Array Value} {below : List Frame} {meth : Method} {c : Code} {cells slots : Nat} {Q : State → Prop} {dC : Nat → ClassId} {dI : Nat → Nat → Nat} {cI cB cJ cZ : ClassId} {A : Nat → Prop} {ad : Nat → Nat} {NN : Nat} {E : Heap} {tM tC : Nat} {kK kV : Nat → Nat} {post : St → Prop} {rec5 : Nat → Int32 → Int32 → Int32 → St → Prop} (hx : p.tables.exec = Jvm.exec) (hb : c.code = b_JArr_fill) (hml : c.maxLocals = 4) (hown : s.vm.findClass R_JArr = some m.cls) (hT : ∀ w ∈ TG, w.before args s = true) (hK : va_K (dC, dI) CL (TY cI cB cJ cZ) s) (hN : NW s) (hA : ∀ q : Nat, s.heap.size ≤ q → A q) (hRc : cells ≤ R.cells) (hRs : slots ≤ R.slots) (hRf : 0 ≤ R.frames) (hRl : 0 ≤ R.locals) (hNN : 152 ≤ NN) (hE : CE E tM tC kK kV A s) (hret : ∀ (x : St) (H : Heap) (locs : List Loc) (pc : Nat) (ls : Array Slot), decode b_JArr_fill pc = .ok (.return_, 1) → post x → Wd dC dI cI cB cJ cZ ad stC kcC NN A x H → va_S A s.heap H locs → W p l e R s m args below meth c H locs cells slots Q (F0 m pc ls [])) (hrec5 : ∀ (l0 : Nat) (l1 : Int32) (l2 : Int32) (l3 : Int32) (x : St) (H : Heap) (locs : List Loc) (ls : Array Slot), (l0 < NN ∧ kcC l0 = 20) → rec5 l0 l1 l2 l3 x → Wd dC dI cI cB cJ cZ ad stC kcC NN A x H → va_S A s.heap H locs → lv_has ls 4 [(0, .ref (ad l0)), (1, .int l1), (2, .int l2), (3, .int l3)] → W p l e R s m args below meth c H locs cells slots Q (F0 m 5 ls [])) : ∀ (l0 : Nat) (l1 : Int32) (l2 : Int32) (l3 : Int32) (x : St) (H : Heap) (locs : List Loc) (ls : Array Slot), (l0 < NN ∧ kcC l0 = 20) → j_JArr_fill_5 post rec5 l0 l1 l2 l3 x → Wd dC dI cI cB cJ cZ ad stC kcC NN A x H → va_S A s.heap H locs → lv_has ls 4 [(0, .ref (ad l0)), (1, .int l1), (2, .int l2), (3, .int l3)] → W p l e R s m args below meth c H locs cells slots Q (F0 m 5 ls []) := by
  intro l0 l1 l2 l3 x H locs ls fl0 hw hW hS hl
  unfold j_JArr_fill_5 at hw
  refine lv_iload_n hx hb d_JArr_fill_5 rfl (lv_at hl 2 rfl) ?_
  refine lv_iload_n hx hb d_JArr_fill_6 rfl (lv_at hl 3 rfl) ?_
  refine lv_icmp_ge (tgt := 20) hx hb d_JArr_fill_7 (by decide) (fun c1 => ?_) (fun c1 => ?_)
  · have hw := hw.1 c1
    exact hret x H locs 20 ls d_JArr_fill_20 hw hW hS
  · have hw := hw.2 c1
    refine lv_aload_n hx hb d_JArr_fill_10 rfl (lv_at hl 0 rfl) ?_
    refine lv_iload_n hx hb d_JArr_fill_11 rfl (lv_at hl 2 rfl) ?_
    refine lv_iload_n hx hb d_JArr_fill_12 rfl (lv_at hl 1 rfl) ?_
    obtain ⟨hi, hw⟩ := hw
    refine w_iast (o := l0) hx hb hK hW hS fl0.1 fl0.2 hi d_JArr_fill_13 (fun H locs hW hS => ?_)
    obtain ⟨x2, ex2⟩ : ∃ y : St, y = setA x l0 l2 l1 := ⟨_, rfl⟩
    rw [← ex2] at hW
    have hw := hw x2 ex2
    refine lv_iinc (v := (l2 + 1)) (lv' := [(2, .int (l2 + 1)), (0, .ref (ad l0)), (1, .int l1), (3, .int l3)]) hx hb d_JArr_fill_14 hl (k := 2) rfl rfl (by decide) rfl (fun ls hl => ?_)
    refine lv_goto (tgt := 5) hx hb d_JArr_fill_17 (by decide) ?_
    exact hrec5 l0 l1 (l2 + 1) l3 x2 H locs ls fl0 hw hW hS (lv_sub hl [1, 2, 0, 3] rfl)
set_option maxHeartbeats 4000000 in
set_option maxRecDepth 100000 in
theorem tl_JArr_fill_5 {p : Program} {l : Launch} {e : Env} {R : Room} {s : State} {m : MethodId} {args : Array Value} {below : List Frame} {meth : Method} {c : Code} {cells slots : Nat} {Q : State → Prop} {dC : Nat → ClassId} {dI : Nat → Nat → Nat} {cI cB cJ cZ : ClassId} {A : Nat → Prop} {ad : Nat → Nat} {NN : Nat} {E : Heap} {tM tC : Nat} {kK kV : Nat → Nat} {post : St → Prop} (hx : p.tables.exec = Jvm.exec) (hb : c.code = b_JArr_fill) (hml : c.maxLocals = 4) (hown : s.vm.findClass R_JArr = some m.cls) (hT : ∀ w ∈ TG, w.before args s = true) (hK : va_K (dC, dI) CL (TY cI cB cJ cZ) s) (hN : NW s) (hA : ∀ q : Nat, s.heap.size ≤ q → A q) (hRc : cells ≤ R.cells) (hRs : slots ≤ R.slots) (hRf : 0 ≤ R.frames) (hRl : 0 ≤ R.locals) (hNN : 152 ≤ NN) (hE : CE E tM tC kK kV A s) (hret : ∀ (x : St) (H : Heap) (locs : List Loc) (pc : Nat) (ls : Array Slot), decode b_JArr_fill pc = .ok (.return_, 1) → post x → Wd dC dI cI cB cJ cZ ad stC kcC NN A x H → va_S A s.heap H locs → W p l e R s m args below meth c H locs cells slots Q (F0 m pc ls []))  : ∀ n : Nat, ∀ (l0 : Nat) (l1 : Int32) (l2 : Int32) (l3 : Int32) (x : St) (H : Heap) (locs : List Loc) (ls : Array Slot), (l0 < NN ∧ kcC l0 = 20) → wl_JArr_fill_5 post n l0 l1 l2 l3 x → Wd dC dI cI cB cJ cZ ad stC kcC NN A x H → va_S A s.heap H locs → lv_has ls 4 [(0, .ref (ad l0)), (1, .int l1), (2, .int l2), (3, .int l3)] → W p l e R s m args below meth c H locs cells slots Q (F0 m 5 ls []) := by
  intro n
  induction n with
  | zero => intro l0 l1 l2 l3 x H locs ls fl0 hw; exact hw.elim
  | succ n ih => intro l0 l1 l2 l3 x H locs ls fl0 hw hW hS hl; exact t_JArr_fill_5 hx hb hml hown hT hK hN hA hRc hRs hRf hRl hNN hE hret  ih l0 l1 l2 l3 x H locs ls fl0 hw hW hS hl
set_option maxRecDepth 100000 in
set_option maxHeartbeats 4000000 in
set_option maxRecDepth 100000 in
theorem t_JArr_fill_e {p : Program} {l : Launch} {e : Env} {R : Room} {s : State} {m : MethodId} {args : Array Value} {below : List Frame} {meth : Method} {c : Code} {cells slots : Nat} {Q : State → Prop} {dC : Nat → ClassId} {dI : Nat → Nat → Nat} {cI cB cJ cZ : ClassId} {A : Nat → Prop} {ad : Nat → Nat} {NN : Nat} {E : Heap} {tM tC : Nat} {kK kV : Nat → Nat} {post : St → Prop} (hx : p.tables.exec = Jvm.exec) (hb : c.code = b_JArr_fill) (hml : c.maxLocals = 4) (hown : s.vm.findClass R_JArr = some m.cls) (hT : ∀ w ∈ TG, w.before args s = true) (hK : va_K (dC, dI) CL (TY cI cB cJ cZ) s) (hN : NW s) (hA : ∀ q : Nat, s.heap.size ≤ q → A q) (hRc : cells ≤ R.cells) (hRs : slots ≤ R.slots) (hRf : 0 ≤ R.frames) (hRl : 0 ≤ R.locals) (hNN : 152 ≤ NN) (hE : CE E tM tC kK kV A s) (hret : ∀ (x : St) (H : Heap) (locs : List Loc) (pc : Nat) (ls : Array Slot), decode b_JArr_fill pc = .ok (.return_, 1) → post x → Wd dC dI cI cB cJ cZ ad stC kcC NN A x H → va_S A s.heap H locs → W p l e R s m args below meth c H locs cells slots Q (F0 m pc ls [])) : ∀ (l0 : Nat) (l1 : Int32) (x : St) (H : Heap) (locs : List Loc) (ls : Array Slot), (l0 < NN ∧ kcC l0 = 20) → wp_JArr_fill post l0 l1 x → Wd dC dI cI cB cJ cZ ad stC kcC NN A x H → va_S A s.heap H locs → lv_has ls 4 [(0, .ref (ad l0)), (1, .int l1)] → W p l e R s m args below meth c H locs cells slots Q (F0 m 0 ls []) := by
  intro l0 l1 x H locs ls fl0 hw hW hS hl
  unfold wp_JArr_fill at hw
  refine lv_iconst (v := 0) hx hb d_JArr_fill_0 (by decide) ?_
  refine lv_istore_n (lv' := [(2, .int 0), (0, .ref (ad l0)), (1, .int l1)]) hx hb d_JArr_fill_1 rfl hl (by decide) rfl (fun ls hl => ?_)
  refine lv_aload_n hx hb d_JArr_fill_2 rfl (lv_at hl 1 rfl) ?_
  refine w_alen (o := l0) (t0 := 0) hx hb hK hW (pic_int fl0.1 fl0.2) rfl rfl d_JArr_fill_3 ?_
  refine lv_topi (fun v3 ev3 => ?_)
  have hw := hw v3 ev3
  refine lv_istore_n (lv' := [(3, .int v3), (2, .int 0), (0, .ref (ad l0)), (1, .int l1)]) hx hb d_JArr_fill_4 rfl hl (by decide) rfl (fun ls hl => ?_)
  obtain ⟨n, hw⟩ := hw
  exact tl_JArr_fill_5 hx hb hml hown hT hK hN hA hRc hRs hRf hRl hNN hE hret  n l0 l1 0 v3 x H locs ls fl0 hw hW hS (lv_sub hl [2, 3, 1, 0] rfl)
set_option maxHeartbeats 4000000 in
set_option maxRecDepth 100000 in
theorem k_JArr_fill (l : Launch) (dC : Nat → ClassId) (dI : Nat → Nat → Nat) (cI cB cJ cZ : ClassId) (ad : Nat → Nat) (NN : Nat) (E : Heap) (tM tC : Nat) (kK kV : Nat → Nat) (hNN : 152 ≤ NN) (sz : Nat) (l0 : Nat) (l1 : Int32) (x : St) (fl0 : l0 < NN ∧ kcC l0 = 20) {post : St → Prop} (hw : wp_JArr_fill post l0 l1 x) : Met l y_JArr_fill (wsOf y_JArr_fill b_JArr_fill 4 (none)) ({ frames := 0, cells := 0, slots := 0, locals := 0 }) (va_Pc [.ref (ad l0), .int l1] (PVc dC dI cI cB cJ cZ ad stC kcC NN E tM tC kK kV sz x)) (va_Qv (fun (y : St) => post y) (fun y t => Wd dC dI cI cB cJ cZ ad stC kcC NN (va_A (pic ad stC kcC NN cI cB cJ cZ x) sz) y t.heap) (va_A (pic ad stC kcC NN cI cB cJ cZ x) sz)) 0 0 (va_A (pic ad stC kcC NN cI cB cJ cZ x) sz) := by
  refine Met.ofW (cc := b_JArr_fill) (maxL := 4) (ret := none) (by decide) rfl ?_
  intro p e s m args below meth c s₁ B hml hv
  obtain ⟨rfl, ⟨hsz, hW0, hK, hN⟩, hE⟩ := hv
  have hx := B.exec
  have hb := B.bytes
  have hr := B.returns
  have hts := atoms_spec B.pre
  have hT : ∀ w ∈ TG, w.before _ s = true := fun w h => hts w (List.mem_cons_of_mem _ h)
  have hown : s.vm.findClass R_JArr = some m.cls := findClass_of_methodNamed B.named
  have hlocks := B.notSynchronized
  subst hsz
  have hW : Wd dC dI cI cB cJ cZ ad stC kcC NN (va_A (pic ad stC kcC NN cI cB cJ cZ x) s.heap.size) x s.heap := ⟨hW0.1, hW0.2.1.self (sz := s.heap.size), hW0.2.2⟩
  generalize hAe : va_A (pic ad stC kcC NN cI cB cJ cZ x) s.heap.size = A at hW hE ⊢
  have hA : ∀ q : Nat, s.heap.size ≤ q → A q := fun q h => by rw [← hAe]; exact Or.inr h
  have hS : va_S A s.heap s.heap [] := va_S.rf
  have hl := lv_entry ([.ref (ad l0), .int l1]) (n := 4) (Nat.le_of_ble_eq_true rfl)
  rw [lg_entry_eq]
  generalize (lg_sl ([.ref (ad l0), .int l1]) ++ List.replicate (4 - (lg_sl ([.ref (ad l0), .int l1])).length) Slot.unset).toArray = ls at hl ⊢
  have hl : lv_has ls 4 [(0, .ref (ad l0)), (1, .int l1)] := hl
  exact t_JArr_fill_e hx hb hml hown hT hK hN hA (Nat.le_refl 0) (Nat.le_refl 0) (Nat.le_refl 0) (Nat.le_refl 0) hNN hE (fun x H locs pc ls hd hp hW hS => W.vret hx hb hr (fun t ht hM => ⟨⟨x, rfl, hp, Wd.back hW ht.symm (fun _ z => z)⟩, hS.F ht⟩) hS.2.2 hd hlocks)  l0 l1 x _ _ ls fl0 hw hW hS hl
set_option maxRecDepth 100000 in
set_option maxHeartbeats 4000000 in
set_option maxRecDepth 100000 in
theorem t_Rec_forget_e {p : Program} {l : Launch} {e : Env} {R : Room} {s : State} {m : MethodId} {args : Array Value} {below : List Frame} {meth : Method} {c : Code} {cells slots : Nat} {Q : State → Prop} {dC : Nat → ClassId} {dI : Nat → Nat → Nat} {cI cB cJ cZ : ClassId} {A : Nat → Prop} {ad : Nat → Nat} {NN : Nat} {E : Heap} {tM tC : Nat} {kK kV : Nat → Nat} {post : St → Prop} (hx : p.tables.exec = Jvm.exec) (hb : c.code = b_Rec_forget) (hml : c.maxLocals = 1) (hown : s.vm.findClass R_Rec = some m.cls) (hT : ∀ w ∈ TG, w.before args s = true) (hK : va_K (dC, dI) CL (TY cI cB cJ cZ) s) (hN : NW s) (hA : ∀ q : Nat, s.heap.size ≤ q → A q) (hRc : cells ≤ R.cells) (hRs : slots ≤ R.slots) (hRf : 1 ≤ R.frames) (hRl : 23 ≤ R.locals) (hNN : 152 ≤ NN) (hE : CE E tM tC kK kV A s) (hret : ∀ (x : St) (H : Heap) (locs : List Loc) (pc : Nat) (ls : Array Slot), decode b_Rec_forget pc = .ok (.return_, 1) → post x → Wd dC dI cI cB cJ cZ ad stC kcC NN A x H → va_S A s.heap H locs → W p l e R s m args below meth c H locs cells slots Q (F0 m pc ls [])) : ∀ (o : Nat) (x : St) (H : Heap) (locs : List Loc) (ls : Array Slot), (o < NN ∧ kcC o = 4) → wp_Rec_forget post o x → Wd dC dI cI cB cJ cZ ad stC kcC NN A x H → va_S A s.heap H locs → lv_has ls 1 [(0, .ref (ad o))] → W p l e R s m args below meth c H locs cells slots Q (F0 m 0 ls []) := by
  intro o x H locs ls fo hw hW hS hl
  unfold wp_Rec_forget at hw
  refine lv_aload_n hx hb d_Rec_forget_0 rfl (lv_at hl 0 rfl) ?_
  refine lv_iconst (v := 0) hx hb d_Rec_forget_1 (by decide) ?_
  refine w_puti (ty := .int) (k := 0) (t := 4) (C := R_Rec) (T := F_Rec) (N := 15) hx hb hT hown hK hW hS fo.1 fo.2 (by decide) in_Rec t_Rec t_Rec_ok n_Rec rfl rfl (by decide) rfl fr_Rec_0 w_1_227 (by decide +kernel) rfl rfl d_Rec_forget_2 (fun H locs hW hS => ?_)
  obtain ⟨x1, ex1⟩ : ∃ y : St, y = setI x o 0 0 := ⟨_, rfl⟩
  rw [← ex1] at hW
  have hw := hw x1 ex1
  refine lv_aload_n hx hb d_Rec_forget_5 rfl (lv_at hl 0 rfl) ?_
  refine lv_iconst (v := 0) hx hb d_Rec_forget_6 (by decide) ?_
  refine w_puti (ty := .int) (k := 1) (t := 4) (C := R_Rec) (T := F_Rec) (N := 15) hx hb hT hown hK hW hS fo.1 fo.2 (by decide) in_Rec t_Rec t_Rec_ok n_Rec rfl rfl (by decide) rfl fr_Rec_1 w_1_230 (by decide +kernel) rfl rfl d_Rec_forget_7 (fun H locs hW hS => ?_)
  obtain ⟨x2, ex2⟩ : ∃ y : St, y = setI x1 o 1 0 := ⟨_, rfl⟩
  rw [← ex2] at hW
  have hw := hw x2 ex2
  refine lv_aload_n hx hb d_Rec_forget_10 rfl (lv_at hl 0 rfl) ?_
  refine lv_iconst (v := 0) hx hb d_Rec_forget_11 (by decide) ?_
  refine w_puti (ty := .int) (k := 2) (t := 4) (C := R_Rec) (T := F_Rec) (N := 15) hx hb hT hown hK hW hS fo.1 fo.2 (by decide) in_Rec t_Rec t_Rec_ok n_Rec rfl rfl (by decide) rfl fr_Rec_2 w_1_231 (by decide +kernel) rfl rfl d_Rec_forget_12 (fun H locs hW hS => ?_)
  obtain ⟨x3, ex3⟩ : ∃ y : St, y = setI x2 o 2 0 := ⟨_, rfl⟩
  rw [← ex3] at hW
  have hw := hw x3 ex3
  refine lv_aload_n hx hb d_Rec_forget_15 rfl (lv_at hl 0 rfl) ?_
  refine w_getf (q := (stC o 10)) (k := 10) (t := 4) (C := R_Rec) (T := F_Rec) (N := 15) hx hb hT hown hK hW fo.1 fo.2 (by decide) in_Rec rfl rfl (by decide) rfl fr_Rec_10 w_2_3 d_Rec_forget_16 rfl ?_
  refine lv_iconst (v := (-1)) hx hb d_Rec_forget_19 (by decide) ?_
  have hF := hW.free hS hA
  refine va_callv (va_runS (As := [.ref (ad (stC o 10)), .int (-1)]) (rest := []) ⟨hx, hb, hml, hown, hT⟩ (k_JArr_fill l dC dI cI cB cJ cZ ad NN E tM tC kK kV hNN H.size (stC o 10) (-1) x3 (st_ty hNN fo.1 fo.2 rfl) hw) ⟨callB_of 2 hT (gwt_in w_1_226) rfl rfl rfl (hT _ w_1_7) (hT _ w_1_224) (by decide +kernel) ⟨Nat.le_trans (Nat.le_of_ble_eq_true rfl) hRf, Nat.le_trans (Nat.le_of_ble_eq_true rfl) hRl⟩, hT _ w_1_225⟩ ⟨PVc.blind, PVc.at _ hW hK hN hE hS hF⟩ rfl rfl hl.1 rfl (lv_room (Nat.le_of_ble_eq_true rfl)) d_Rec_forget_20 ⟨hRc, hRs⟩) hS (fun q _ h => hF q h) hF (fun  x4 t H locs ht hvm hw hB hz1 hk1 hS => ?_)
  have hW := Wd.back hB ht hF
  clear hB ht hF hz1 hk1 hvm
  refine lv_aload_n hx hb d_Rec_forget_23 rfl (lv_at hl 0 rfl) ?_
  refine w_getf (q := (stC o 11)) (k := 11) (t := 4) (C := R_Rec) (T := F_Rec) (N := 15) hx hb hT hown hK hW fo.1 fo.2 (by decide) in_Rec rfl rfl (by decide) rfl fr_Rec_11 w_2_5 d_Rec_forget_24 rfl ?_
  refine lv_iconst (v := (-1)) hx hb d_Rec_forget_27 (by decide) ?_
  have hF := hW.free hS hA
  refine va_callv (va_runS (As := [.ref (ad (stC o 11)), .int (-1)]) (rest := []) ⟨hx, hb, hml, hown, hT⟩ (k_JArr_fill l dC dI cI cB cJ cZ ad NN E tM tC kK kV hNN H.size (stC o 11) (-1) x4 (st_ty hNN fo.1 fo.2 rfl) hw) ⟨callB_of 2 hT (gwt_in w_1_226) rfl rfl rfl (hT _ w_1_7) (hT _ w_1_224) (by decide +kernel) ⟨Nat.le_trans (Nat.le_of_ble_eq_true rfl) hRf, Nat.le_trans (Nat.le_of_ble_eq_true rfl) hRl⟩, hT _ w_1_225⟩ ⟨PVc.blind, PVc.at _ hW hK hN hE hS hF⟩ rfl rfl hl.1 rfl (lv_room (Nat.le_of_ble_eq_true rfl)) d_Rec_forget_28 ⟨hRc, hRs⟩) hS (fun q _ h => hF q h) hF (fun  x5 t H locs ht hvm hw hB hz1 hk1 hS => ?_)
  have hW := Wd.back hB ht hF
  clear hB ht hF hz1 hk1 hvm
  exact hret x5 H locs 31 ls d_Rec_forget_31 hw hW hS
set_option maxHeartbeats 4000000 in
set_option maxRecDepth 100000 in
theorem k_Rec_forget (l : Launch) (dC : Nat → ClassId) (dI : Nat → Nat → Nat) (cI cB cJ cZ : ClassId) (ad : Nat → Nat) (NN : Nat) (E : Heap) (tM tC : Nat) (kK kV : Nat → Nat) (hNN : 152 ≤ NN) (sz : Nat) (o : Nat) (x : St) (fo : o < NN ∧ kcC o = 4) {post : St → Prop} (hw : wp_Rec_forget post o x) : Met l y_Rec_forget (wsOf y_Rec_forget b_Rec_forget 1 (none)) ({ frames := 1, cells := 0, slots := 0, locals := 23 }) (va_Pc [.ref (ad o)] (PVc dC dI cI cB cJ cZ ad stC kcC NN E tM tC kK kV sz x)) (va_Qv (fun (y : St) => post y) (fun y t => Wd dC dI cI cB cJ cZ ad stC kcC NN (va_A (pic ad stC kcC NN cI cB cJ cZ x) sz) y t.heap) (va_A (pic ad stC kcC NN cI cB cJ cZ x) sz)) 0 0 (va_A (pic ad stC kcC NN cI cB cJ cZ x) sz) := by
  refine Met.ofW (cc := b_Rec_forget) (maxL := 1) (ret := none) (by decide) rfl ?_
  intro p e s m args below meth c s₁ B hml hv
  obtain ⟨rfl, ⟨hsz, hW0, hK, hN⟩, hE⟩ := hv
  have hx := B.exec
  have hb := B.bytes
  have hr := B.returns
  have hts := atoms_spec B.pre
  have hT : ∀ w ∈ TG, w.before _ s = true := fun w h => hts w (List.mem_cons_of_mem _ h)
  have hown : s.vm.findClass R_Rec = some m.cls := findClass_of_methodNamed B.named
  have hlocks := B.notSynchronized
  subst hsz
  have hW : Wd dC dI cI cB cJ cZ ad stC kcC NN (va_A (pic ad stC kcC NN cI cB cJ cZ x) s.heap.size) x s.heap := ⟨hW0.1, hW0.2.1.self (sz := s.heap.size), hW0.2.2⟩
  generalize hAe : va_A (pic ad stC kcC NN cI cB cJ cZ x) s.heap.size = A at hW hE ⊢
  have hA : ∀ q : Nat, s.heap.size ≤ q → A q := fun q h => by rw [← hAe]; exact Or.inr h
  have hS : va_S A s.heap s.heap [] := va_S.rf
  have hl := lv_entry ([.ref (ad o)]) (n := 1) (Nat.le_of_ble_eq_true rfl)
  rw [lg_entry_eq]
  generalize (lg_sl ([.ref (ad o)]) ++ List.replicate (1 - (lg_sl ([.ref (ad o)])).length) Slot.unset).toArray = ls at hl ⊢
  have hl : lv_has ls 1 [(0, .ref (ad o))] := hl
  exact t_Rec_forget_e hx hb hml hown hT hK hN hA (Nat.le_refl 0) (Nat.le_refl 0) (Nat.le_refl 1) (Nat.le_refl 23) hNN hE (fun x H locs pc ls hd hp hW hS => W.vret hx hb hr (fun t ht hM => ⟨⟨x, rfl, hp, Wd.back hW ht.symm (fun _ z => z)⟩, hS.F ht⟩) hS.2.2 hd hlocks)  o x _ _ ls fo hw hW hS hl
set_option maxRecDepth 100000 in
set_option maxHeartbeats 4000000 in
set_option maxRecDepth 100000 in
theorem t_V_schema_e {p : Program} {l : Launch} {e : Env} {R : Room} {s : State} {m : MethodId} {args : Array Value} {below : List Frame} {meth : Method} {c : Code} {cells slots : Nat} {Q : State → Prop} {dC : Nat → ClassId} {dI : Nat → Nat → Nat} {cI cB cJ cZ : ClassId} {A : Nat → Prop} {ad : Nat → Nat} {NN : Nat} {E : Heap} {tM tC : Nat} {kK kV : Nat → Nat} {post : Int32 → St → Prop} (hx : p.tables.exec = Jvm.exec) (hb : c.code = b_V_schema) (hml : c.maxLocals = 4) (hown : s.vm.findClass R_V = some m.cls) (hT : ∀ w ∈ TG, w.before args s = true) (hK : va_K (dC, dI) CL (TY cI cB cJ cZ) s) (hN : NW s) (hA : ∀ q : Nat, s.heap.size ≤ q → A q) (hRc : cells ≤ R.cells) (hRs : slots ≤ R.slots) (hRf : 10 ≤ R.frames) (hRl : 333 ≤ R.locals) (hNN : 152 ≤ NN) (hE : CE E tM tC kK kV A s) (hret : ∀ (r : Int32) (x : St) (H : Heap) (locs : List Loc) (pc : Nat) (ls : Array Slot), decode b_V_schema pc = .ok (.ireturn, 1) → post r x → Wd dC dI cI cB cJ cZ ad stC kcC NN A x H → va_S A s.heap H locs → W p l e R s m args below meth c H locs cells slots Q (F0 m pc ls [.int r])) : ∀ (o : Nat) (x : St) (H : Heap) (locs : List Loc) (ls : Array Slot), (o < NN ∧ kcC o = 0) → wp_V_schema post o x → Wd dC dI cI cB cJ cZ ad stC kcC NN A x H → va_S A s.heap H locs → lv_has ls 4 [(0, .ref (ad o))] → W p l e R s m args below meth c H locs cells slots Q (F0 m 0 ls []) := by
  intro o x H locs ls fo hw hW hS hl
  unfold wp_V_schema at hw
  refine lv_aload_n hx hb d_V_schema_0 rfl (lv_at hl 0 rfl) ?_
  have hF := hW.free hS hA
  refine va_calli (va_runV (C := R_V) (As := []) (rest := []) ⟨hx, hb, hml, hown, hT⟩ (k_V_useInput l dC dI cI cB cJ cZ ad NN E tM tC kK kV hNN H.size o x fo hw) ⟨callB_of 0 hT (gwt_in w_4_89) rfl rfl rfl (hT _ w_1_1) (hT _ w_4_86) (by decide +kernel) ⟨Nat.le_trans (Nat.le_of_ble_eq_true rfl) hRf, Nat.le_trans (Nat.le_of_ble_eq_true rfl) hRl⟩, hT _ w_4_88, hT _ ws_2⟩ ⟨PVc.blind, va_recv hK hW.1 (ci := 0) (q0 := o) rfl (pic_obj fo.1 fo.2 (by decide)), PVc.at _ hW hK hN hE hS hF⟩ rfl rfl hl.1 rfl (lv_room (Nat.le_of_ble_eq_true rfl)) d_V_schema_1 ⟨hRc, hRs⟩) hS (fun q _ h => hF q h) hF (fun r2 x1 t H locs ht hvm hw hB hz1 hk1 hS => ?_)
  have hW := Wd.back hB ht hF
  clear hB ht hF hz1 hk1 hvm
  refine lv_istore_n (lv' := [(1, .int r2), (0, .ref (ad o))]) hx hb d_V_schema_4 rfl hl (by decide) rfl (fun ls hl => ?_)
  refine lv_iload_n hx hb d_V_schema_5 rfl (lv_at hl 0 rfl) ?_
  refine lv_sipush (v := 4000) hx hb d_V_schema_6 (by decide) ?_
  refine lv_icmp_le (tgt := 16) hx hb d_V_schema_9 (by decide) (fun c3 => ?_) (fun c3 => ?_)
  · have hw := hw.1 c3
    refine lv_aload_n hx hb d_V_schema_16 rfl (lv_at hl 1 rfl) ?_
    refine w_getf (q := (stC o 3)) (k := 3) (t := 0) (C := R_V) (T := F_V) (N := 15) hx hb hT hown hK hW fo.1 fo.2 (by decide) in_V rfl rfl (by decide) rfl fr_V_3 w_3_238 d_V_schema_17 rfl ?_
    refine lv_aload_n hx hb d_V_schema_20 rfl (lv_at hl 1 rfl) ?_
    obtain ⟨q4, hq4, hw⟩ := hw
    refine w_getr (q := q4) (k := 1) (t := 0) (C := R_V) (T := F_V) (N := 15) hx hb hT hown hK hW fo.1 fo.2 (by decide) in_V rfl rfl (by decide) rfl fr_V_1 w_3_236 d_V_schema_21 hq4 (fun aq4 bq4 => ?_)
    have fq4 : q4 < NN ∧ kcC q4 = 1 := ⟨aq4, bq4⟩
    obtain ⟨q5, hq5, hw⟩ := hw
    refine w_getr (q := q5) (k := 0) (t := 1) (C := R_Snk) (T := F_Snk) (N := 7) hx hb hT hown hK hW fq4.1 fq4.2 (by decide) in_Snk rfl rfl (by decide) rfl fr_Snk_0 w_1_42 d_V_schema_24 hq5 (fun aq5 bq5 => ?_)
    have fq5 : q5 < NN ∧ kcC q5 = 21 := ⟨aq5, bq5⟩
    refine lv_iload_n hx hb d_V_schema_27 rfl (lv_at hl 0 rfl) ?_
    have hF := hW.free hS hA
    refine va_callv (va_runV (C := R_Scn) (As := [.ref (ad q5), .int r2]) (rest := []) ⟨hx, hb, hml, hown, hT⟩ (k_Scn_begin l dC dI cI cB cJ cZ ad NN E tM tC kK kV hNN H.size (stC o 3) q5 r2 x1 (st_ty hNN fo.1 fo.2 rfl) fq5 hw) ⟨callB_of 2 hT (gwt_in w_4_93) rfl rfl rfl (hT _ w_1_4) (hT _ w_4_90) (by decide +kernel) ⟨Nat.le_trans (Nat.le_of_ble_eq_true rfl) hRf, Nat.le_trans (Nat.le_of_ble_eq_true rfl) hRl⟩, hT _ w_4_91, hT _ w_4_92⟩ ⟨PVc.blind, va_recv hK hW.1 (ci := 2) (q0 := (stC o 3)) rfl (pic_obj (st_ty hNN fo.1 fo.2 rfl).1 (st_ty hNN fo.1 fo.2 rfl).2 (by decide)), PVc.at _ hW hK hN hE hS hF⟩ rfl rfl hl.1 rfl (lv_room (Nat.le_of_ble_eq_true rfl)) d_V_schema_28 ⟨hRc, hRs⟩) hS (fun q _ h => hF q h) hF (fun  x6 t H locs ht hvm hw hB hz1 hk1 hS => ?_)
    have hW := Wd.back hB ht hF
    clear hB ht hF hz1 hk1 hvm
    refine lv_aload_n hx hb d_V_schema_31 rfl (lv_at hl 1 rfl) ?_
    obtain ⟨q7, hq7, hw⟩ := hw
    refine w_getr (q := q7) (k := 5) (t := 0) (C := R_V) (T := F_V) (N := 15) hx hb hT hown hK hW fo.1 fo.2 (by decide) in_V rfl rfl (by decide) rfl fr_V_5 w_4_0 d_V_schema_32 hq7 (fun aq7 bq7 => ?_)
    have fq7 : q7 < NN ∧ kcC q7 = 3 := ⟨aq7, bq7⟩
    refine lv_aload_n hx hb d_V_schema_35 rfl (lv_at hl 1 rfl) ?_
    refine w_getf (q := (stC o 3)) (k := 3) (t := 0) (C := R_V) (T := F_V) (N := 15) hx hb hT hown hK hW fo.1 fo.2 (by decide) in_V rfl rfl (by decide) rfl fr_V_3 w_3_238 d_V_schema_36 rfl ?_
    have hF := hW.free hS hA
    refine va_calli (va_runV (C := R_Sch) (As := [.ref (ad (stC o 3))]) (rest := []) ⟨hx, hb, hml, hown, hT⟩ (k_Sch_readText l dC dI cI cB cJ cZ ad NN E tM tC kK kV hNN H.size q7 (stC o 3) x6 fq7 (st_ty hNN fo.1 fo.2 rfl) hw) ⟨callB_of 1 hT (gwt_in w_4_98) rfl rfl rfl (hT _ w_1_5) (hT _ w_4_95) (by decide +kernel) ⟨Nat.le_trans (Nat.le_of_ble_eq_true rfl) hRf, Nat.le_trans (Nat.le_of_ble_eq_true rfl) hRl⟩, hT _ w_4_96, hT _ w_4_97⟩ ⟨PVc.blind, va_recv hK hW.1 (ci := 3) (q0 := q7) rfl (pic_obj fq7.1 fq7.2 (by decide)), PVc.at _ hW hK hN hE hS hF⟩ rfl rfl hl.1 rfl (lv_room (Nat.le_of_ble_eq_true rfl)) d_V_schema_39 ⟨hRc, hRs⟩) hS (fun q _ h => hF q h) hF (fun r9 x8 t H locs ht hvm hw hB hz1 hk1 hS => ?_)
    have hW := Wd.back hB ht hF
    clear hB ht hF hz1 hk1 hvm
    refine lv_istore_n (lv' := [(2, .int r9), (1, .int r2), (0, .ref (ad o))]) hx hb d_V_schema_42 rfl hl (by decide) rfl (fun ls hl => ?_)
    refine lv_iload_n hx hb d_V_schema_43 rfl (lv_at hl 0 rfl) ?_
    refine lv_iconst (v := (-1)) hx hb d_V_schema_44 (by decide) ?_
    refine lv_icmp_eq (tgt := 50) hx hb d_V_schema_45 (by decide) (fun c10 => ?_) (fun c10 => ?_)
    · have hw := hw.1 c10
      refine lv_aload_n hx hb d_V_schema_50 rfl (lv_at hl 2 rfl) ?_
      obtain ⟨q11, hq11, hw⟩ := hw
      refine w_getr (q := q11) (k := 4) (t := 0) (C := R_V) (T := F_V) (N := 15) hx hb hT hown hK hW fo.1 fo.2 (by decide) in_V rfl rfl (by decide) rfl fr_V_4 w_3_239 d_V_schema_51 hq11 (fun aq11 bq11 => ?_)
      have fq11 : q11 < NN ∧ kcC q11 = 3 := ⟨aq11, bq11⟩
      refine lv_astore_n (lv' := [(3, .ref (ad q11)), (2, .int r9), (1, .int r2), (0, .ref (ad o))]) hx hb d_V_schema_54 rfl hl (by decide) rfl (fun ls hl => ?_)
      refine lv_aload_n hx hb d_V_schema_55 rfl (lv_at hl 3 rfl) ?_
      refine lv_aload_n hx hb d_V_schema_56 rfl (lv_at hl 3 rfl) ?_
      obtain ⟨q12, hq12, hw⟩ := hw
      refine w_getr (q := q12) (k := 5) (t := 0) (C := R_V) (T := F_V) (N := 15) hx hb hT hown hK hW fo.1 fo.2 (by decide) in_V rfl rfl (by decide) rfl fr_V_5 w_4_0 d_V_schema_57 hq12 (fun aq12 bq12 => ?_)
      have fq12 : q12 < NN ∧ kcC q12 = 3 := ⟨aq12, bq12⟩
      refine w_putr (q := q12) (ty := .object "StripedVault$Schema") (k := 4) (t := 0) (C := R_V) (T := F_V) (N := 15) hx hb hT hown hK hW hS fo.1 fo.2 (by decide) in_V t_V t_V_ok n_V rfl rfl (by decide) rfl fr_V_4 w_3_239 (by decide +kernel) rfl rfl fq12.1 fq12.2 d_V_schema_60 (fun H locs hW hS => ?_)
      obtain ⟨x13, ex13⟩ : ∃ y : St, y = setR x8 o 4 (some q12) := ⟨_, rfl⟩
      rw [← ex13] at hW
      have hw := hw x13 ex13
      refine lv_aload_n hx hb d_V_schema_63 rfl (lv_at hl 3 rfl) ?_
      refine lv_aload_n hx hb d_V_schema_64 rfl (lv_at hl 0 rfl) ?_
      refine w_putr (q := q11) (ty := .object "StripedVault$Schema") (k := 5) (t := 0) (C := R_V) (T := F_V) (N := 15) hx hb hT hown hK hW hS fo.1 fo.2 (by decide) in_V t_V t_V_ok n_V rfl rfl (by decide) rfl fr_V_5 w_4_0 (by decide +kernel) rfl rfl fq11.1 fq11.2 d_V_schema_65 (fun H locs hW hS => ?_)
      obtain ⟨x14, ex14⟩ : ∃ y : St, y = setR x13 o 5 (some q11) := ⟨_, rfl⟩
      rw [← ex14] at hW
      have hw := hw x14 ex14
      refine lv_aload_n hx hb d_V_schema_68 rfl (lv_at hl 3 rfl) ?_
      refine w_getf (q := (stC o 6)) (k := 6) (t := 0) (C := R_V) (T := F_V) (N := 15) hx hb hT hown hK hW fo.1 fo.2 (by decide) in_V rfl rfl (by decide) rfl fr_V_6 w_4_1 d_V_schema_69 rfl ?_
      have hF := hW.free hS hA
      refine va_callv (va_runV (C := R_Rec) (As := []) (rest := []) ⟨hx, hb, hml, hown, hT⟩ (k_Rec_forget l dC dI cI cB cJ cZ ad NN E tM tC kK kV hNN H.size (stC o 6) x14 (st_ty hNN fo.1 fo.2 rfl) hw) ⟨callB_of 0 hT (gwt_in w_5_14) rfl rfl rfl (hT _ w_1_6) (hT _ w_5_11) (by decide +kernel) ⟨Nat.le_trans (Nat.le_of_ble_eq_true rfl) hRf, Nat.le_trans (Nat.le_of_ble_eq_true rfl) hRl⟩, hT _ w_5_12, hT _ w_5_13⟩ ⟨PVc.blind, va_recv hK hW.1 (ci := 4) (q0 := (stC o 6)) rfl (pic_obj (st_ty hNN fo.1 fo.2 rfl).1 (st_ty hNN fo.1 fo.2 rfl).2 (by decide)), PVc.at _ hW hK hN hE hS hF⟩ rfl rfl hl.1 rfl (lv_room (Nat.le_of_ble_eq_true rfl)) d_V_schema_72 ⟨hRc, hRs⟩) hS (fun q _ h => hF q h) hF (fun  x15 t H locs ht hvm hw hB hz1 hk1 hS => ?_)
      have hW := Wd.back hB ht hF
      clear hB ht hF hz1 hk1 hvm
      refine lv_iconst (v := (-1)) hx hb d_V_schema_75 (by decide) ?_
      exact hret (-1) x15 H locs 76 ls d_V_schema_76 hw hW hS
    · have hw := hw.2 c10
      refine lv_iload_n hx hb d_V_schema_48 rfl (lv_at hl 0 rfl) ?_
      exact hret r9 x8 H locs 49 ls d_V_schema_49 hw hW hS
  · have hw := hw.2 c3
    refine lv_sipush (v := 4000) hx hb d_V_schema_12 (by decide) ?_
    exact hret 4000 x1 H locs 15 ls d_V_schema_15 hw hW hS
set_option maxHeartbeats 4000000 in
set_option maxRecDepth 100000 in
theorem k_V_schema (l : Launch) (dC : Nat → ClassId) (dI : Nat → Nat → Nat) (cI cB cJ cZ : ClassId) (ad : Nat → Nat) (NN : Nat) (E : Heap) (tM tC : Nat) (kK kV : Nat → Nat) (hNN : 152 ≤ NN) (sz : Nat) (o : Nat) (x : St) (fo : o < NN ∧ kcC o = 0) {post : Int32 → St → Prop} (hw : wp_V_schema post o x) : Met l y_V_schema (wsOf y_V_schema b_V_schema 4 (some (.int))) ({ frames := 10, cells := 0, slots := 0, locals := 333 }) (va_Pc [.ref (ad o)] (PVc dC dI cI cB cJ cZ ad stC kcC NN E tM tC kK kV sz x)) (va_Qi (fun (r : Int32) (y : St) => post r y) (fun y t => Wd dC dI cI cB cJ cZ ad stC kcC NN (va_A (pic ad stC kcC NN cI cB cJ cZ x) sz) y t.heap) (va_A (pic ad stC kcC NN cI cB cJ cZ x) sz)) 0 0 (va_A (pic ad stC kcC NN cI cB cJ cZ x) sz) := by
  refine Met.ofW (cc := b_V_schema) (maxL := 4) (ret := some (.int)) (by decide) rfl ?_
  intro p e s m args below meth c s₁ B hml hv
  obtain ⟨rfl, ⟨hsz, hW0, hK, hN⟩, hE⟩ := hv
  have hx := B.exec
  have hb := B.bytes
  have hr := B.returns
  have hts := atoms_spec B.pre
  have hT : ∀ w ∈ TG, w.before _ s = true := fun w h => hts w (List.mem_cons_of_mem _ h)
  have hown : s.vm.findClass R_V = some m.cls := findClass_of_methodNamed B.named
  have hlocks := B.notSynchronized
  subst hsz
  have hW : Wd dC dI cI cB cJ cZ ad stC kcC NN (va_A (pic ad stC kcC NN cI cB cJ cZ x) s.heap.size) x s.heap := ⟨hW0.1, hW0.2.1.self (sz := s.heap.size), hW0.2.2⟩
  generalize hAe : va_A (pic ad stC kcC NN cI cB cJ cZ x) s.heap.size = A at hW hE ⊢
  have hA : ∀ q : Nat, s.heap.size ≤ q → A q := fun q h => by rw [← hAe]; exact Or.inr h
  have hS : va_S A s.heap s.heap [] := va_S.rf
  have hl := lv_entry ([.ref (ad o)]) (n := 4) (Nat.le_of_ble_eq_true rfl)
  rw [lg_entry_eq]
  generalize (lg_sl ([.ref (ad o)]) ++ List.replicate (4 - (lg_sl ([.ref (ad o)])).length) Slot.unset).toArray = ls at hl ⊢
  have hl : lv_has ls 4 [(0, .ref (ad o))] := hl
  exact t_V_schema_e hx hb hml hown hT hK hN hA (Nat.le_refl 0) (Nat.le_refl 0) (Nat.le_refl 10) (Nat.le_refl 333) hNN hE (fun r x H locs pc ls hd hp hW hS => W.iret (v := r) hx hb hr (fun t ht hM => ⟨⟨r, x, rfl, hp, Wd.back hW ht.symm (fun _ z => z)⟩, hS.F ht⟩) hS.2.2 hd hlocks)  o x _ _ ls fo hw hW hS hl
set_option maxRecDepth 100000 in
set_option maxHeartbeats 4000000 in
set_option maxRecDepth 100000 in
theorem t_Rec_readName_119 {p : Program} {l : Launch} {e : Env} {R : Room} {s : State} {m : MethodId} {args : Array Value} {below : List Frame} {meth : Method} {c : Code} {cells slots : Nat} {Q : State → Prop} {dC : Nat → ClassId} {dI : Nat → Nat → Nat} {cI cB cJ cZ : ClassId} {A : Nat → Prop} {ad : Nat → Nat} {NN : Nat} {E : Heap} {tM tC : Nat} {kK kV : Nat → Nat} {post : Int32 → St → Prop} (hx : p.tables.exec = Jvm.exec) (hb : c.code = b_Rec_readName) (hml : c.maxLocals = 6) (hown : s.vm.findClass R_Rec = some m.cls) (hT : ∀ w ∈ TG, w.before args s = true) (hK : va_K (dC, dI) CL (TY cI cB cJ cZ) s) (hN : NW s) (hA : ∀ q : Nat, s.heap.size ≤ q → A q) (hRc : cells ≤ R.cells) (hRs : slots ≤ R.slots) (hRf : 2 ≤ R.frames) (hRl : 40 ≤ R.locals) (hNN : 152 ≤ NN) (hE : CE E tM tC kK kV A s) (hret : ∀ (r : Int32) (x : St) (H : Heap) (locs : List Loc) (pc : Nat) (ls : Array Slot), decode b_Rec_readName pc = .ok (.ireturn, 1) → post r x → Wd dC dI cI cB cJ cZ ad stC kcC NN A x H → va_S A s.heap H locs → W p l e R s m args below meth c H locs cells slots Q (F0 m pc ls [.int r]))  : ∀ (o : Nat) (l1 : Int32) (l2 : Int32) (l3 : Int32) (l4 : Int32) (l5 : Int32) (x : St) (H : Heap) (locs : List Loc) (ls : Array Slot), (o < NN ∧ kcC o = 4) → j_Rec_readName_119 post o l1 l2 l3 l4 l5 x → Wd dC dI cI cB cJ cZ ad stC kcC NN A x H → va_S A s.heap H locs → lv_has ls 6 [(0, .ref (ad o)), (1, .int l1), (2, .int l2), (3, .int l3), (4, .int l4), (5, .int l5)] → W p l e R s m args below meth c H locs cells slots Q (F0 m 119 ls []) := by
  intro o l1 l2 l3 l4 l5 x H locs ls fo hw hW hS hl
  unfold j_Rec_readName_119 at hw
  refine lv_aload_n hx hb d_Rec_readName_119 rfl (lv_at hl 0 rfl) ?_
  obtain ⟨q1, hq1, hw⟩ := hw
  refine w_getr (q := q1) (k := 13) (t := 4) (C := R_Rec) (T := F_Rec) (N := 15) hx hb hT hown hK hW fo.1 fo.2 (by decide) in_Rec rfl rfl (by decide) rfl fr_Rec_13 w_2_8 d_Rec_readName_120 hq1 (fun aq1 bq1 => ?_)
  have fq1 : q1 < NN ∧ kcC q1 = 2 := ⟨aq1, bq1⟩
  refine lv_aload_n hx hb d_Rec_readName_123 rfl (lv_at hl 0 rfl) ?_
  obtain ⟨q2, hq2, hw⟩ := hw
  refine w_getr (q := q2) (k := 13) (t := 4) (C := R_Rec) (T := F_Rec) (N := 15) hx hb hT hown hK hW fo.1 fo.2 (by decide) in_Rec rfl rfl (by decide) rfl fr_Rec_13 w_2_8 d_Rec_readName_124 hq2 (fun aq2 bq2 => ?_)
  have fq2 : q2 < NN ∧ kcC q2 = 2 := ⟨aq2, bq2⟩
  refine w_geti (k := 4) (t := 2) (C := R_Scn) (T := F_Scn) (N := 8) hx hb hT hown hK hW fq2.1 fq2.2 (by decide) in_Scn rfl rfl (by decide) rfl fr_Scn_4 w_1_94 d_Rec_readName_127 ?_
  have hF := hW.free hS hA
  refine va_callv (va_runV (C := R_Scn) (As := [.int (fI x q2 4)]) (rest := []) ⟨hx, hb, hml, hown, hT⟩ (k_Scn_refuse l dC dI cI cB cJ cZ ad NN E tM tC kK kV hNN H.size q1 (fI x q2 4) x fq1 hw) ⟨callB_of 1 hT (gwt_in w_4_128) rfl rfl rfl (hT _ w_1_4) (hT _ w_5_27) (by decide +kernel) ⟨Nat.le_trans (Nat.le_of_ble_eq_true rfl) hRf, Nat.le_trans (Nat.le_of_ble_eq_true rfl) hRl⟩, hT _ w_4_126, hT _ w_4_127⟩ ⟨PVc.blind, va_recv hK hW.1 (ci := 2) (q0 := q1) rfl (pic_obj fq1.1 fq1.2 (by decide)), PVc.at _ hW hK hN hE hS hF⟩ rfl rfl hl.1 rfl (lv_room (Nat.le_of_ble_eq_true rfl)) d_Rec_readName_130 ⟨hRc, hRs⟩) hS (fun q _ h => hF q h) hF (fun  x3 t H locs ht hvm hw hB hz1 hk1 hS => ?_)
  have hW := Wd.back hB ht hF
  clear hB ht hF hz1 hk1 hvm
  refine lv_iconst (v := (-1)) hx hb d_Rec_readName_133 (by decide) ?_
  exact hret (-1) x3 H locs 134 ls d_Rec_readName_134 hw hW hS
set_option maxRecDepth 100000 in
set_option maxHeartbeats 4000000 in
set_option maxRecDepth 100000 in
theorem t_Rec_readName_113 {p : Program} {l : Launch} {e : Env} {R : Room} {s : State} {m : MethodId} {args : Array Value} {below : List Frame} {meth : Method} {c : Code} {cells slots : Nat} {Q : State → Prop} {dC : Nat → ClassId} {dI : Nat → Nat → Nat} {cI cB cJ cZ : ClassId} {A : Nat → Prop} {ad : Nat → Nat} {NN : Nat} {E : Heap} {tM tC : Nat} {kK kV : Nat → Nat} {post : Int32 → St → Prop} {rec32 : Nat → Int32 → Int32 → Int32 → Int32 → Int32 → St → Prop} (hx : p.tables.exec = Jvm.exec) (hb : c.code = b_Rec_readName) (hml : c.maxLocals = 6) (hown : s.vm.findClass R_Rec = some m.cls) (hT : ∀ w ∈ TG, w.before args s = true) (hK : va_K (dC, dI) CL (TY cI cB cJ cZ) s) (hN : NW s) (hA : ∀ q : Nat, s.heap.size ≤ q → A q) (hRc : cells ≤ R.cells) (hRs : slots ≤ R.slots) (hRf : 2 ≤ R.frames) (hRl : 40 ≤ R.locals) (hNN : 152 ≤ NN) (hE : CE E tM tC kK kV A s) (hret : ∀ (r : Int32) (x : St) (H : Heap) (locs : List Loc) (pc : Nat) (ls : Array Slot), decode b_Rec_readName pc = .ok (.ireturn, 1) → post r x → Wd dC dI cI cB cJ cZ ad stC kcC NN A x H → va_S A s.heap H locs → W p l e R s m args below meth c H locs cells slots Q (F0 m pc ls [.int r])) (hrec32 : ∀ (o : Nat) (l1 : Int32) (l2 : Int32) (l3 : Int32) (l4 : Int32) (l5 : Int32) (x : St) (H : Heap) (locs : List Loc) (ls : Array Slot), (o < NN ∧ kcC o = 4) → rec32 o l1 l2 l3 l4 l5 x → Wd dC dI cI cB cJ cZ ad stC kcC NN A x H → va_S A s.heap H locs → lv_has ls 6 [(0, .ref (ad o)), (1, .int l1), (2, .int l2), (3, .int l3), (4, .int l4), (5, .int l5)] → W p l e R s m args below meth c H locs cells slots Q (F0 m 32 ls [])) : ∀ (o : Nat) (l1 : Int32) (l2 : Int32) (l3 : Int32) (l4 : Int32) (l5 : Int32) (x : St) (H : Heap) (locs : List Loc) (ls : Array Slot), (o < NN ∧ kcC o = 4) → j_Rec_readName_113 post rec32 o l1 l2 l3 l4 l5 x → Wd dC dI cI cB cJ cZ ad stC kcC NN A x H → va_S A s.heap H locs → lv_has ls 6 [(0, .ref (ad o)), (1, .int l1), (2, .int l2), (3, .int l3), (4, .int l4), (5, .int l5)] → W p l e R s m args below meth c H locs cells slots Q (F0 m 113 ls []) := by
  intro o l1 l2 l3 l4 l5 x H locs ls fo hw hW hS hl
  unfold j_Rec_readName_113 at hw
  refine lv_iinc (v := (l5 + 1)) (lv' := [(5, .int (l5 + 1)), (0, .ref (ad o)), (1, .int l1), (2, .int l2), (3, .int l3), (4, .int l4)]) hx hb d_Rec_readName_113 hl (k := 5) rfl rfl (by decide) rfl (fun ls hl => ?_)
  refine lv_goto (tgt := 32) hx hb d_Rec_readName_116 (by decide) ?_
  exact hrec32 o l1 l2 l3 l4 (l5 + 1) x H locs ls fo hw hW hS (lv_sub hl [1, 2, 3, 4, 5, 0] rfl)
set_option maxRecDepth 100000 in
set_option maxHeartbeats 4000000 in
set_option maxRecDepth 100000 in
theorem t_Rec_readName_111 {p : Program} {l : Launch} {e : Env} {R : Room} {s : State} {m : MethodId} {args : Array Value} {below : List Frame} {meth : Method} {c : Code} {cells slots : Nat} {Q : State → Prop} {dC : Nat → ClassId} {dI : Nat → Nat → Nat} {cI cB cJ cZ : ClassId} {A : Nat → Prop} {ad : Nat → Nat} {NN : Nat} {E : Heap} {tM tC : Nat} {kK kV : Nat → Nat} {post : Int32 → St → Prop} {rec32 : Nat → Int32 → Int32 → Int32 → Int32 → Int32 → St → Prop} (hx : p.tables.exec = Jvm.exec) (hb : c.code = b_Rec_readName) (hml : c.maxLocals = 6) (hown : s.vm.findClass R_Rec = some m.cls) (hT : ∀ w ∈ TG, w.before args s = true) (hK : va_K (dC, dI) CL (TY cI cB cJ cZ) s) (hN : NW s) (hA : ∀ q : Nat, s.heap.size ≤ q → A q) (hRc : cells ≤ R.cells) (hRs : slots ≤ R.slots) (hRf : 2 ≤ R.frames) (hRl : 40 ≤ R.locals) (hNN : 152 ≤ NN) (hE : CE E tM tC kK kV A s) (hret : ∀ (r : Int32) (x : St) (H : Heap) (locs : List Loc) (pc : Nat) (ls : Array Slot), decode b_Rec_readName pc = .ok (.ireturn, 1) → post r x → Wd dC dI cI cB cJ cZ ad stC kcC NN A x H → va_S A s.heap H locs → W p l e R s m args below meth c H locs cells slots Q (F0 m pc ls [.int r])) (hrec32 : ∀ (o : Nat) (l1 : Int32) (l2 : Int32) (l3 : Int32) (l4 : Int32) (l5 : Int32) (x : St) (H : Heap) (locs : List Loc) (ls : Array Slot), (o < NN ∧ kcC o = 4) → rec32 o l1 l2 l3 l4 l5 x → Wd dC dI cI cB cJ cZ ad stC kcC NN A x H → va_S A s.heap H locs → lv_has ls 6 [(0, .ref (ad o)), (1, .int l1), (2, .int l2), (3, .int l3), (4, .int l4), (5, .int l5)] → W p l e R s m args below meth c H locs cells slots Q (F0 m 32 ls [])) : ∀ (o : Nat) (l1 : Int32) (l2 : Int32) (l3 : Int32) (l4 : Int32) (l5 : Int32) (s0 : Int32) (x : St) (H : Heap) (locs : List Loc) (ls : Array Slot), (o < NN ∧ kcC o = 4) → j_Rec_readName_111 post rec32 o l1 l2 l3 l4 l5 s0 x → Wd dC dI cI cB cJ cZ ad stC kcC NN A x H → va_S A s.heap H locs → lv_has ls 6 [(0, .ref (ad o)), (1, .int l1), (2, .int l2), (3, .int l3), (4, .int l4), (5, .int l5)] → W p l e R s m args below meth c H locs cells slots Q (F0 m 111 ls [.int s0]) := by
  intro o l1 l2 l3 l4 l5 s0 x H locs ls fo hw hW hS hl
  unfold j_Rec_readName_111 at hw
  refine lv_istore (lv' := [(4, .int s0), (0, .ref (ad o)), (1, .int l1), (2, .int l2), (3, .int l3), (5, .int l5)]) hx hb d_Rec_readName_111 hl (by decide) rfl (fun ls hl => ?_)
  exact t_Rec_readName_113 hx hb hml hown hT hK hN hA hRc hRs hRf hRl hNN hE hret hrec32 o l1 l2 l3 s0 l5 x H locs ls fo hw hW hS (lv_sub hl [1, 2, 3, 4, 0, 5] rfl)
set_option maxRecDepth 100000 in
set_option maxHeartbeats 4000000 in
set_option maxRecDepth 100000 in
theorem t_Rec_readName_32 {p : Program} {l : Launch} {e : Env} {R : Room} {s : State} {m : MethodId} {args : Array Value} {below : List Frame} {meth : Method} {c : Code} {cells slots : Nat} {Q : State → Prop} {dC : Nat → ClassId} {dI : Nat → Nat → Nat} {cI cB cJ cZ : ClassId} {A : Nat → Prop} {ad : Nat → Nat} {NN : Nat} {E : Heap} {tM tC : Nat} {kK kV : Nat → Nat} {post : Int32 → St → Prop} {rec32 : Nat → Int32 → Int32 → Int32 → Int32 → Int32 → St → Prop} (hx : p.tables.exec = Jvm.exec) (hb : c.code = b_Rec_readName) (hml : c.maxLocals = 6) (hown : s.vm.findClass R_Rec = some m.cls) (hT : ∀ w ∈ TG, w.before args s = true) (hK : va_K (dC, dI) CL (TY cI cB cJ cZ) s) (hN : NW s) (hA : ∀ q : Nat, s.heap.size ≤ q → A q) (hRc : cells ≤ R.cells) (hRs : slots ≤ R.slots) (hRf : 2 ≤ R.frames) (hRl : 40 ≤ R.locals) (hNN : 152 ≤ NN) (hE : CE E tM tC kK kV A s) (hret : ∀ (r : Int32) (x : St) (H : Heap) (locs : List Loc) (pc : Nat) (ls : Array Slot), decode b_Rec_readName pc = .ok (.ireturn, 1) → post r x → Wd dC dI cI cB cJ cZ ad stC kcC NN A x H → va_S A s.heap H locs → W p l e R s m args below meth c H locs cells slots Q (F0 m pc ls [.int r])) (hrec32 : ∀ (o : Nat) (l1 : Int32) (l2 : Int32) (l3 : Int32) (l4 : Int32) (l5 : Int32) (x : St) (H : Heap) (locs : List Loc) (ls : Array Slot), (o < NN ∧ kcC o = 4) → rec32 o l1 l2 l3 l4 l5 x → Wd dC dI cI cB cJ cZ ad stC kcC NN A x H → va_S A s.heap H locs → lv_has ls 6 [(0, .ref (ad o)), (1, .int l1), (2, .int l2), (3, .int l3), (4, .int l4), (5, .int l5)] → W p l e R s m args below meth c H locs cells slots Q (F0 m 32 ls [])) : ∀ (o : Nat) (l1 : Int32) (l2 : Int32) (l3 : Int32) (l4 : Int32) (l5 : Int32) (x : St) (H : Heap) (locs : List Loc) (ls : Array Slot), (o < NN ∧ kcC o = 4) → j_Rec_readName_32 post rec32 o l1 l2 l3 l4 l5 x → Wd dC dI cI cB cJ cZ ad stC kcC NN A x H → va_S A s.heap H locs → lv_has ls 6 [(0, .ref (ad o)), (1, .int l1), (2, .int l2), (3, .int l3), (4, .int l4), (5, .int l5)] → W p l e R s m args below meth c H locs cells slots Q (F0 m 32 ls []) := by
  intro o l1 l2 l3 l4 l5 x H locs ls fo hw hW hS hl
  unfold j_Rec_readName_32 at hw
  refine lv_iload hx hb d_Rec_readName_32 (lv_at hl 5 rfl) ?_
  refine lv_iload_n hx hb d_Rec_readName_34 rfl (lv_at hl 2 rfl) ?_
  refine lv_icmp_ge (tgt := 119) hx hb d_Rec_readName_35 (by decide) (fun c4 => ?_) (fun c4 => ?_)
  · have hw := hw.1 c4
    exact t_Rec_readName_119 hx hb hml hown hT hK hN hA hRc hRs hRf hRl hNN hE hret  o l1 l2 l3 l4 l5 x H locs ls fo hw hW hS (lv_sub hl [0, 1, 2, 3, 4, 5] rfl)
  · have hw := hw.2 c4
    refine lv_iload hx hb d_Rec_readName_38 (lv_at hl 4 rfl) ?_
    refine lv_if_ne (tgt := 119) hx hb d_Rec_readName_40 (by decide) (fun c5 => ?_) (fun c5 => ?_)
    · have hw := hw.1 c5
      exact t_Rec_readName_119 hx hb hml hown hT hK hN hA hRc hRs hRf hRl hNN hE hret  o l1 l2 l3 l4 l5 x H locs ls fo hw hW hS (lv_sub hl [0, 1, 2, 3, 4, 5] rfl)
    · have hw := hw.2 c5
      refine lv_aload_n hx hb d_Rec_readName_43 rfl (lv_at hl 0 rfl) ?_
      obtain ⟨q6, hq6, hw⟩ := hw
      refine w_getr (q := q6) (k := 14) (t := 4) (C := R_Rec) (T := F_Rec) (N := 15) hx hb hT hown hK hW fo.1 fo.2 (by decide) in_Rec rfl rfl (by decide) rfl fr_Rec_14 w_2_9 d_Rec_readName_44 hq6 (fun aq6 bq6 => ?_)
      have fq6 : q6 < NN ∧ kcC q6 = 3 := ⟨aq6, bq6⟩
      refine w_getf (q := (stC q6 4)) (k := 4) (t := 3) (C := R_Sch) (T := F_Sch) (N := 13) hx hb hT hown hK hW fq6.1 fq6.2 (by decide) in_Sch rfl rfl (by decide) rfl fr_Sch_4 w_1_156 d_Rec_readName_47 rfl ?_
      refine lv_iload hx hb d_Rec_readName_50 (lv_at hl 5 rfl) ?_
      obtain ⟨hi, hw⟩ := hw
      refine w_iald (o := (stC q6 4)) hx hb hK hW (st_ty hNN fq6.1 fq6.2 rfl).1 (st_ty hNN fq6.1 fq6.2 rfl).2 hi d_Rec_readName_52 ?_
      refine lv_iload_n hx hb d_Rec_readName_53 rfl (lv_at hl 3 rfl) ?_
      refine lv_icmp_ne (tgt := 113) hx hb d_Rec_readName_54 (by decide) (fun c7 => ?_) (fun c7 => ?_)
      · have hw := hw.1 c7
        exact t_Rec_readName_113 hx hb hml hown hT hK hN hA hRc hRs hRf hRl hNN hE hret hrec32 o l1 l2 l3 l4 l5 x H locs ls fo hw hW hS (lv_sub hl [0, 1, 2, 3, 4, 5] rfl)
      · have hw := hw.2 c7
        refine lv_aload_n hx hb d_Rec_readName_57 rfl (lv_at hl 0 rfl) ?_
        obtain ⟨q8, hq8, hw⟩ := hw
        refine w_getr (q := q8) (k := 14) (t := 4) (C := R_Rec) (T := F_Rec) (N := 15) hx hb hT hown hK hW fo.1 fo.2 (by decide) in_Rec rfl rfl (by decide) rfl fr_Rec_14 w_2_9 d_Rec_readName_58 hq8 (fun aq8 bq8 => ?_)
        have fq8 : q8 < NN ∧ kcC q8 = 3 := ⟨aq8, bq8⟩
        refine lv_iload hx hb d_Rec_readName_61 (lv_at hl 5 rfl) ?_
        refine lv_aload_n hx hb d_Rec_readName_63 rfl (lv_at hl 0 rfl) ?_
        obtain ⟨q9, hq9, hw⟩ := hw
        refine w_getr (q := q9) (k := 13) (t := 4) (C := R_Rec) (T := F_Rec) (N := 15) hx hb hT hown hK hW fo.1 fo.2 (by decide) in_Rec rfl rfl (by decide) rfl fr_Rec_13 w_2_8 d_Rec_readName_64 hq9 (fun aq9 bq9 => ?_)
        have fq9 : q9 < NN ∧ kcC q9 = 2 := ⟨aq9, bq9⟩
        obtain ⟨q10, hq10, hw⟩ := hw
        refine w_getr (q := q10) (k := 0) (t := 2) (C := R_Scn) (T := F_Scn) (N := 8) hx hb hT hown hK hW fq9.1 fq9.2 (by decide) in_Scn rfl rfl (by decide) rfl fr_Scn_0 w_1_78 d_Rec_readName_67 hq10 (fun aq10 bq10 => ?_)
        have fq10 : q10 < NN ∧ kcC q10 = 21 := ⟨aq10, bq10⟩
        refine lv_aload_n hx hb d_Rec_readName_70 rfl (lv_at hl 0 rfl) ?_
        obtain ⟨q11, hq11, hw⟩ := hw
        refine w_getr (q := q11) (k := 13) (t := 4) (C := R_Rec) (T := F_Rec) (N := 15) hx hb hT hown hK hW fo.1 fo.2 (by decide) in_Rec rfl rfl (by decide) rfl fr_Rec_13 w_2_8 d_Rec_readName_71 hq11 (fun aq11 bq11 => ?_)
        have fq11 : q11 < NN ∧ kcC q11 = 2 := ⟨aq11, bq11⟩
        refine w_geti (k := 4) (t := 2) (C := R_Scn) (T := F_Scn) (N := 8) hx hb hT hown hK hW fq11.1 fq11.2 (by decide) in_Scn rfl rfl (by decide) rfl fr_Scn_4 w_1_94 d_Rec_readName_74 ?_
        refine lv_aload_n hx hb d_Rec_readName_77 rfl (lv_at hl 0 rfl) ?_
        obtain ⟨q12, hq12, hw⟩ := hw
        refine w_getr (q := q12) (k := 13) (t := 4) (C := R_Rec) (T := F_Rec) (N := 15) hx hb hT hown hK hW fo.1 fo.2 (by decide) in_Rec rfl rfl (by decide) rfl fr_Rec_13 w_2_8 d_Rec_readName_78 hq12 (fun aq12 bq12 => ?_)
        have fq12 : q12 < NN ∧ kcC q12 = 2 := ⟨aq12, bq12⟩
        refine w_geti (k := 5) (t := 2) (C := R_Scn) (T := F_Scn) (N := 8) hx hb hT hown hK hW fq12.1 fq12.2 (by decide) in_Scn rfl rfl (by decide) rfl fr_Scn_5 w_1_98 d_Rec_readName_81 ?_
        have hF := hW.free hS hA
        refine va_calli (va_runV (C := R_Sch) (As := [.int l5, .ref (ad q10), .int (fI x q11 4), .int (fI x q12 5)]) (rest := []) ⟨hx, hb, hml, hown, hT⟩ (k_Sch_hasName l dC dI cI cB cJ cZ ad NN E tM tC kK kV hNN H.size q8 l5 q10 (fI x q11 4) (fI x q12 5) x fq8 fq10 hw) ⟨callB_of 4 hT (gwt_in w_5_1) rfl rfl rfl (hT _ w_1_5) (hT _ w_5_38) (by decide +kernel) ⟨Nat.le_trans (Nat.le_of_ble_eq_true rfl) hRf, Nat.le_trans (Nat.le_of_ble_eq_true rfl) hRl⟩, hT _ w_4_239, hT _ w_5_0⟩ ⟨PVc.blind, va_recv hK hW.1 (ci := 3) (q0 := q8) rfl (pic_obj fq8.1 fq8.2 (by decide)), PVc.at _ hW hK hN hE hS hF⟩ rfl rfl hl.1 rfl (lv_room (Nat.le_of_ble_eq_true rfl)) d_Rec_readName_84 ⟨hRc, hRs⟩) hS (fun q _ h => hF q h) hF (fun r14 x13 t H locs ht hvm hw hB hz1 hk1 hS => ?_)
        have hW := Wd.back hB ht hF
        clear hB ht hF hz1 hk1 hvm
        refine lv_if_eq (tgt := 93) hx hb d_Rec_readName_87 (by decide) (fun c15 => ?_) (fun c15 => ?_)
        · have hw := hw.1 c15
          refine lv_aload_n hx hb d_Rec_readName_93 rfl (lv_at hl 0 rfl) ?_
          obtain ⟨q16, hq16, hw⟩ := hw
          refine w_getr (q := q16) (k := 14) (t := 4) (C := R_Rec) (T := F_Rec) (N := 15) hx hb hT hown hK hW fo.1 fo.2 (by decide) in_Rec rfl rfl (by decide) rfl fr_Rec_14 w_2_9 d_Rec_readName_94 hq16 (fun aq16 bq16 => ?_)
          have fq16 : q16 < NN ∧ kcC q16 = 3 := ⟨aq16, bq16⟩
          refine w_getf (q := (stC q16 2)) (k := 2) (t := 3) (C := R_Sch) (T := F_Sch) (N := 13) hx hb hT hown hK hW fq16.1 fq16.2 (by decide) in_Sch rfl rfl (by decide) rfl fr_Sch_2 w_1_143 d_Rec_readName_97 rfl ?_
          refine lv_iload hx hb d_Rec_readName_100 (lv_at hl 5 rfl) ?_
          obtain ⟨hi, hw⟩ := hw
          refine w_iald (o := (stC q16 2)) hx hb hK hW (st_ty hNN fq16.1 fq16.2 rfl).1 (st_ty hNN fq16.1 fq16.2 rfl).2 hi d_Rec_readName_102 ?_
          refine lv_if_ne (tgt := 110) hx hb d_Rec_readName_103 (by decide) (fun c17 => ?_) (fun c17 => ?_)
          · have hw := hw.1 c17
            refine lv_iconst (v := 0) hx hb d_Rec_readName_110 (by decide) ?_
            exact t_Rec_readName_111 hx hb hml hown hT hK hN hA hRc hRs hRf hRl hNN hE hret hrec32 o l1 l2 l3 l4 l5 0 x13 H locs ls fo hw hW hS (lv_sub hl [0, 1, 2, 3, 4, 5] rfl)
          · have hw := hw.2 c17
            refine lv_iconst (v := 1) hx hb d_Rec_readName_106 (by decide) ?_
            refine lv_goto (tgt := 111) hx hb d_Rec_readName_107 (by decide) ?_
            exact t_Rec_readName_111 hx hb hml hown hT hK hN hA hRc hRs hRf hRl hNN hE hret hrec32 o l1 l2 l3 l4 l5 1 x13 H locs ls fo hw hW hS (lv_sub hl [0, 1, 2, 3, 4, 5] rfl)
        · have hw := hw.2 c15
          refine lv_iload hx hb d_Rec_readName_90 (lv_at hl 5 rfl) ?_
          exact hret l5 x13 H locs 92 ls d_Rec_readName_92 hw hW hS
set_option maxHeartbeats 4000000 in
set_option maxRecDepth 100000 in
theorem tl_Rec_readName_32 {p : Program} {l : Launch} {e : Env} {R : Room} {s : State} {m : MethodId} {args : Array Value} {below : List Frame} {meth : Method} {c : Code} {cells slots : Nat} {Q : State → Prop} {dC : Nat → ClassId} {dI : Nat → Nat → Nat} {cI cB cJ cZ : ClassId} {A : Nat → Prop} {ad : Nat → Nat} {NN : Nat} {E : Heap} {tM tC : Nat} {kK kV : Nat → Nat} {post : Int32 → St → Prop} (hx : p.tables.exec = Jvm.exec) (hb : c.code = b_Rec_readName) (hml : c.maxLocals = 6) (hown : s.vm.findClass R_Rec = some m.cls) (hT : ∀ w ∈ TG, w.before args s = true) (hK : va_K (dC, dI) CL (TY cI cB cJ cZ) s) (hN : NW s) (hA : ∀ q : Nat, s.heap.size ≤ q → A q) (hRc : cells ≤ R.cells) (hRs : slots ≤ R.slots) (hRf : 2 ≤ R.frames) (hRl : 40 ≤ R.locals) (hNN : 152 ≤ NN) (hE : CE E tM tC kK kV A s) (hret : ∀ (r : Int32) (x : St) (H : Heap) (locs : List Loc) (pc : Nat) (ls : Array Slot), decode b_Rec_readName pc = .ok (.ireturn, 1) → post r x → Wd dC dI cI cB cJ cZ ad stC kcC NN A x H → va_S A s.heap H locs → W p l e R s m args below meth c H locs cells slots Q (F0 m pc ls [.int r]))  : ∀ n : Nat, ∀ (o : Nat) (l1 : Int32) (l2 : Int32) (l3 : Int32) (l4 : Int32) (l5 : Int32) (x : St) (H : Heap) (locs : List Loc) (ls : Array Slot), (o < NN ∧ kcC o = 4) → wl_Rec_readName_32 post n o l1 l2 l3 l4 l5 x → Wd dC dI cI cB cJ cZ ad stC kcC NN A x H → va_S A s.heap H locs → lv_has ls 6 [(0, .ref (ad o)), (1, .int l1), (2, .int l2), (3, .int l3), (4, .int l4), (5, .int l5)] → W p l e R s m args below meth c H locs cells slots Q (F0 m 32 ls []) := by
  intro n
  induction n with
  | zero => intro o l1 l2 l3 l4 l5 x H locs ls fo hw; exact hw.elim
  | succ n ih => intro o l1 l2 l3 l4 l5 x H locs ls fo hw hW hS hl; exact t_Rec_readName_32 hx hb hml hown hT hK hN hA hRc hRs hRf hRl hNN hE hret  ih o l1 l2 l3 l4 l5 x H locs ls fo hw hW hS hl
set_option maxRecDepth 100000 in
set_option maxHeartbeats 4000000 in
set_option maxRecDepth 100000 in
theorem t_Rec_readName_e {p : Program} {l : Launch} {e : Env} {R : Room} {s : State} {m : MethodId} {args : Array Value} {below : List Frame} {meth : Method} {c : Code} {cells slots : Nat} {Q : State → Prop} {dC : Nat → ClassId} {dI : Nat → Nat → Nat} {cI cB cJ cZ : ClassId} {A : Nat → Prop} {ad : Nat → Nat} {NN : Nat} {E : Heap} {tM tC : Nat} {kK kV : Nat → Nat} {post : Int32 → St → Prop} (hx : p.tables.exec = Jvm.exec) (hb : c.code = b_Rec_readName) (hml : c.maxLocals = 6) (hown : s.vm.findClass R_Rec = some m.cls) (hT : ∀ w ∈ TG, w.before args s = true) (hK : va_K (dC, dI) CL (TY cI cB cJ cZ) s) (hN : NW s) (hA : ∀ q : Nat, s.heap.size ≤ q → A q) (hRc : cells ≤ R.cells) (hRs : slots ≤ R.slots) (hRf : 2 ≤ R.frames) (hRl : 40 ≤ R.locals) (hNN : 152 ≤ NN) (hE : CE E tM tC kK kV A s) (hret : ∀ (r : Int32) (x : St) (H : Heap) (locs : List Loc) (pc : Nat) (ls : Array Slot), decode b_Rec_readName pc = .ok (.ireturn, 1) → post r x → Wd dC dI cI cB cJ cZ ad stC kcC NN A x H → va_S A s.heap H locs → W p l e R s m args below meth c H locs cells slots Q (F0 m pc ls [.int r])) : ∀ (o : Nat) (l1 : Int32) (l2 : Int32) (l3 : Int32) (x : St) (H : Heap) (locs : List Loc) (ls : Array Slot), (o < NN ∧ kcC o = 4) → wp_Rec_readName post o l1 l2 l3 x → Wd dC dI cI cB cJ cZ ad stC kcC NN A x H → va_S A s.heap H locs → lv_has ls 6 [(0, .ref (ad o)), (1, .int l1), (2, .int l2), (3, .int l3)] → W p l e R s m args below meth c H locs cells slots Q (F0 m 0 ls []) := by
  intro o l1 l2 l3 x H locs ls fo hw hW hS hl
  unfold wp_Rec_readName at hw
  refine lv_aload_n hx hb d_Rec_readName_0 rfl (lv_at hl 0 rfl) ?_
  obtain ⟨q18, hq18, hw⟩ := hw
  refine w_getr (q := q18) (k := 13) (t := 4) (C := R_Rec) (T := F_Rec) (N := 15) hx hb hT hown hK hW fo.1 fo.2 (by decide) in_Rec rfl rfl (by decide) rfl fr_Rec_13 w_2_8 d_Rec_readName_1 hq18 (fun aq18 bq18 => ?_)
  have fq18 : q18 < NN ∧ kcC q18 = 2 := ⟨aq18, bq18⟩
  have hF := hW.free hS hA
  refine va_calli (va_runV (C := R_Scn) (As := []) (rest := []) ⟨hx, hb, hml, hown, hT⟩ (k_Scn_takeAnyWord l dC dI cI cB cJ cZ ad NN E tM tC kK kV hNN H.size q18 x fq18 hw) ⟨callB_of 0 hT (gwt_in w_4_145) rfl rfl rfl (hT _ w_1_4) (hT _ w_5_37) (by decide +kernel) ⟨Nat.le_trans (Nat.le_of_ble_eq_true rfl) hRf, Nat.le_trans (Nat.le_of_ble_eq_true rfl) hRl⟩, hT _ w_4_143, hT _ w_4_144⟩ ⟨PVc.blind, va_recv hK hW.1 (ci := 2) (q0 := q18) rfl (pic_obj fq18.1 fq18.2 (by decide)), PVc.at _ hW hK hN hE hS hF⟩ rfl rfl hl.1 rfl (lv_room (Nat.le_of_ble_eq_true rfl)) d_Rec_readName_4 ⟨hRc, hRs⟩) hS (fun q _ h => hF q h) hF (fun r20 x19 t H locs ht hvm hw hB hz1 hk1 hS => ?_)
  have hW := Wd.back hB ht hF
  clear hB ht hF hz1 hk1 hvm
  refine lv_if_ne (tgt := 26) hx hb d_Rec_readName_7 (by decide) (fun c21 => ?_) (fun c21 => ?_)
  · have hw := hw.1 c21
    refine lv_iconst (v := 0) hx hb d_Rec_readName_26 (by decide) ?_
    refine lv_istore (lv' := [(4, .int 0), (0, .ref (ad o)), (1, .int l1), (2, .int l2), (3, .int l3)]) hx hb d_Rec_readName_27 hl (by decide) rfl (fun ls hl => ?_)
    refine lv_iload_n hx hb d_Rec_readName_29 rfl (lv_at hl 2 rfl) ?_
    refine lv_istore (lv' := [(5, .int l1), (4, .int 0), (0, .ref (ad o)), (1, .int l1), (2, .int l2), (3, .int l3)]) hx hb d_Rec_readName_30 hl (by decide) rfl (fun ls hl => ?_)
    obtain ⟨n, hw⟩ := hw
    exact tl_Rec_readName_32 hx hb hml hown hT hK hN hA hRc hRs hRf hRl hNN hE hret  n o l1 l2 l3 0 l1 x19 H locs ls fo hw hW hS (lv_sub hl [2, 3, 4, 5, 1, 0] rfl)
  · have hw := hw.2 c21
    refine lv_aload_n hx hb d_Rec_readName_10 rfl (lv_at hl 0 rfl) ?_
    obtain ⟨q22, hq22, hw⟩ := hw
    refine w_getr (q := q22) (k := 13) (t := 4) (C := R_Rec) (T := F_Rec) (N := 15) hx hb hT hown hK hW fo.1 fo.2 (by decide) in_Rec rfl rfl (by decide) rfl fr_Rec_13 w_2_8 d_Rec_readName_11 hq22 (fun aq22 bq22 => ?_)
    have fq22 : q22 < NN ∧ kcC q22 = 2 := ⟨aq22, bq22⟩
    refine lv_aload_n hx hb d_Rec_readName_14 rfl (lv_at hl 0 rfl) ?_
    obtain ⟨q23, hq23, hw⟩ := hw
    refine w_getr (q := q23) (k := 13) (t := 4) (C := R_Rec) (T := F_Rec) (N := 15) hx hb hT hown hK hW fo.1 fo.2 (by decide) in_Rec rfl rfl (by decide) rfl fr_Rec_13 w_2_8 d_Rec_readName_15 hq23 (fun aq23 bq23 => ?_)
    have fq23 : q23 < NN ∧ kcC q23 = 2 := ⟨aq23, bq23⟩
    refine w_geti (k := 2) (t := 2) (C := R_Scn) (T := F_Scn) (N := 8) hx hb hT hown hK hW fq23.1 fq23.2 (by decide) in_Scn rfl rfl (by decide) rfl fr_Scn_2 w_1_87 d_Rec_readName_18 ?_
    have hF := hW.free hS hA
    refine va_callv (va_runV (C := R_Scn) (As := [.int (fI x19 q23 2)]) (rest := []) ⟨hx, hb, hml, hown, hT⟩ (k_Scn_refuse l dC dI cI cB cJ cZ ad NN E tM tC kK kV hNN H.size q22 (fI x19 q23 2) x19 fq22 hw) ⟨callB_of 1 hT (gwt_in w_4_128) rfl rfl rfl (hT _ w_1_4) (hT _ w_5_27) (by decide +kernel) ⟨Nat.le_trans (Nat.le_of_ble_eq_true rfl) hRf, Nat.le_trans (Nat.le_of_ble_eq_true rfl) hRl⟩, hT _ w_4_126, hT _ w_4_127⟩ ⟨PVc.blind, va_recv hK hW.1 (ci := 2) (q0 := q22) rfl (pic_obj fq22.1 fq22.2 (by decide)), PVc.at _ hW hK hN hE hS hF⟩ rfl rfl hl.1 rfl (lv_room (Nat.le_of_ble_eq_true rfl)) d_Rec_readName_21 ⟨hRc, hRs⟩) hS (fun q _ h => hF q h) hF (fun  x24 t H locs ht hvm hw hB hz1 hk1 hS => ?_)
    have hW := Wd.back hB ht hF
    clear hB ht hF hz1 hk1 hvm
    refine lv_iconst (v := (-1)) hx hb d_Rec_readName_24 (by decide) ?_
    exact hret (-1) x24 H locs 25 ls d_Rec_readName_25 hw hW hS
set_option maxHeartbeats 4000000 in
set_option maxRecDepth 100000 in
theorem k_Rec_readName (l : Launch) (dC : Nat → ClassId) (dI : Nat → Nat → Nat) (cI cB cJ cZ : ClassId) (ad : Nat → Nat) (NN : Nat) (E : Heap) (tM tC : Nat) (kK kV : Nat → Nat) (hNN : 152 ≤ NN) (sz : Nat) (o : Nat) (l1 : Int32) (l2 : Int32) (l3 : Int32) (x : St) (fo : o < NN ∧ kcC o = 4) {post : Int32 → St → Prop} (hw : wp_Rec_readName post o l1 l2 l3 x) : Met l y_Rec_readName (wsOf y_Rec_readName b_Rec_readName 6 (some (.int))) ({ frames := 2, cells := 0, slots := 0, locals := 40 }) (va_Pc [.ref (ad o), .int l1, .int l2, .int l3] (PVc dC dI cI cB cJ cZ ad stC kcC NN E tM tC kK kV sz x)) (va_Qi (fun (r : Int32) (y : St) => post r y) (fun y t => Wd dC dI cI cB cJ cZ ad stC kcC NN (va_A (pic ad stC kcC NN cI cB cJ cZ x) sz) y t.heap) (va_A (pic ad stC kcC NN cI cB cJ cZ x) sz)) 0 0 (va_A (pic ad stC kcC NN cI cB cJ cZ x) sz) := by
  refine Met.ofW (cc := b_Rec_readName) (maxL := 6) (ret := some (.int)) (by decide) rfl ?_
  intro p e s m args below meth c s₁ B hml hv
  obtain ⟨rfl, ⟨hsz, hW0, hK, hN⟩, hE⟩ := hv
  have hx := B.exec
  have hb := B.bytes
  have hr := B.returns
  have hts := atoms_spec B.pre
  have hT : ∀ w ∈ TG, w.before _ s = true := fun w h => hts w (List.mem_cons_of_mem _ h)
  have hown : s.vm.findClass R_Rec = some m.cls := findClass_of_methodNamed B.named
  have hlocks := B.notSynchronized
  subst hsz
  have hW : Wd dC dI cI cB cJ cZ ad stC kcC NN (va_A (pic ad stC kcC NN cI cB cJ cZ x) s.heap.size) x s.heap := ⟨hW0.1, hW0.2.1.self (sz := s.heap.size), hW0.2.2⟩
  generalize hAe : va_A (pic ad stC kcC NN cI cB cJ cZ x) s.heap.size = A at hW hE ⊢
  have hA : ∀ q : Nat, s.heap.size ≤ q → A q := fun q h => by rw [← hAe]; exact Or.inr h
  have hS : va_S A s.heap s.heap [] := va_S.rf
  have hl := lv_entry ([.ref (ad o), .int l1, .int l2, .int l3]) (n := 6) (Nat.le_of_ble_eq_true rfl)
  rw [lg_entry_eq]
  generalize (lg_sl ([.ref (ad o), .int l1, .int l2, .int l3]) ++ List.replicate (6 - (lg_sl ([.ref (ad o), .int l1, .int l2, .int l3])).length) Slot.unset).toArray = ls at hl ⊢
  have hl : lv_has ls 6 [(0, .ref (ad o)), (1, .int l1), (2, .int l2), (3, .int l3)] := hl
  exact t_Rec_readName_e hx hb hml hown hT hK hN hA (Nat.le_refl 0) (Nat.le_refl 0) (Nat.le_refl 2) (Nat.le_refl 40) hNN hE (fun r x H locs pc ls hd hp hW hS => W.iret (v := r) hx hb hr (fun t ht hM => ⟨⟨r, x, rfl, hp, Wd.back hW ht.symm (fun _ z => z)⟩, hS.F ht⟩) hS.2.2 hd hlocks)  o l1 l2 l3 x _ _ ls fo hw hW hS hl
set_option maxRecDepth 100000 in
set_option maxHeartbeats 4000000 in
set_option maxRecDepth 100000 in
theorem t_Sch_columnsBefore_e {p : Program} {l : Launch} {e : Env} {R : Room} {s : State} {m : MethodId} {args : Array Value} {below : List Frame} {meth : Method} {c : Code} {cells slots : Nat} {Q : State → Prop} {dC : Nat → ClassId} {dI : Nat → Nat → Nat} {cI cB cJ cZ : ClassId} {A : Nat → Prop} {ad : Nat → Nat} {NN : Nat} {E : Heap} {tM tC : Nat} {kK kV : Nat → Nat} {post : Int32 → St → Prop} (hx : p.tables.exec = Jvm.exec) (hb : c.code = b_Sch_columnsBefore) (hml : c.maxLocals = 2) (hown : s.vm.findClass R_Sch = some m.cls) (hT : ∀ w ∈ TG, w.before args s = true) (hK : va_K (dC, dI) CL (TY cI cB cJ cZ) s) (hN : NW s) (hA : ∀ q : Nat, s.heap.size ≤ q → A q) (hRc : cells ≤ R.cells) (hRs : slots ≤ R.slots) (hRf : 0 ≤ R.frames) (hRl : 0 ≤ R.locals) (hNN : 152 ≤ NN) (hE : CE E tM tC kK kV A s) (hret : ∀ (r : Int32) (x : St) (H : Heap) (locs : List Loc) (pc : Nat) (ls : Array Slot), decode b_Sch_columnsBefore pc = .ok (.ireturn, 1) → post r x → Wd dC dI cI cB cJ cZ ad stC kcC NN A x H → va_S A s.heap H locs → W p l e R s m args below meth c H locs cells slots Q (F0 m pc ls [.int r])) : ∀ (o : Nat) (l1 : Int32) (x : St) (H : Heap) (locs : List Loc) (ls : Array Slot), (o < NN ∧ kcC o = 3) → wp_Sch_columnsBefore post o l1 x → Wd dC dI cI cB cJ cZ ad stC kcC NN A x H → va_S A s.heap H locs → lv_has ls 2 [(0, .ref (ad o)), (1, .int l1)] → W p l e R s m args below meth c H locs cells slots Q (F0 m 0 ls []) := by
  intro o l1 x H locs ls fo hw hW hS hl
  unfold wp_Sch_columnsBefore at hw
  refine lv_iload_n hx hb d_Sch_columnsBefore_0 rfl (lv_at hl 1 rfl) ?_
  refine lv_aload_n hx hb d_Sch_columnsBefore_1 rfl (lv_at hl 0 rfl) ?_
  refine w_geti (k := 0) (t := 3) (C := R_Sch) (T := F_Sch) (N := 13) hx hb hT hown hK hW fo.1 fo.2 (by decide) in_Sch rfl rfl (by decide) rfl fr_Sch_0 w_1_130 d_Sch_columnsBefore_2 ?_
  refine lv_icmp_ge (tgt := 17) hx hb d_Sch_columnsBefore_5 (by decide) (fun c1 => ?_) (fun c1 => ?_)
  · have hw := hw.1 c1
    refine lv_aload_n hx hb d_Sch_columnsBefore_17 rfl (lv_at hl 0 rfl) ?_
    refine w_geti (k := 1) (t := 3) (C := R_Sch) (T := F_Sch) (N := 13) hx hb hT hown hK hW fo.1 fo.2 (by decide) in_Sch rfl rfl (by decide) rfl fr_Sch_1 w_1_135 d_Sch_columnsBefore_18 ?_
    exact hret (fI x o 1) x H locs 21 ls d_Sch_columnsBefore_21 hw hW hS
  · have hw := hw.2 c1
    refine lv_aload_n hx hb d_Sch_columnsBefore_8 rfl (lv_at hl 0 rfl) ?_
    refine w_getf (q := (stC o 9)) (k := 9) (t := 3) (C := R_Sch) (T := F_Sch) (N := 13) hx hb hT hown hK hW fo.1 fo.2 (by decide) in_Sch rfl rfl (by decide) rfl fr_Sch_9 w_1_173 d_Sch_columnsBefore_9 rfl ?_
    refine lv_iload_n hx hb d_Sch_columnsBefore_12 rfl (lv_at hl 1 rfl) ?_
    obtain ⟨hi, hw⟩ := hw
    refine w_iald (o := (stC o 9)) hx hb hK hW (st_ty hNN fo.1 fo.2 rfl).1 (st_ty hNN fo.1 fo.2 rfl).2 hi d_Sch_columnsBefore_13 ?_
    refine lv_goto (tgt := 21) hx hb d_Sch_columnsBefore_14 (by decide) ?_
    exact hret (rA x (stC o 9) l1) x H locs 21 ls d_Sch_columnsBefore_21 hw hW hS
set_option maxHeartbeats 4000000 in
set_option maxRecDepth 100000 in
theorem k_Sch_columnsBefore (l : Launch) (dC : Nat → ClassId) (dI : Nat → Nat → Nat) (cI cB cJ cZ : ClassId) (ad : Nat → Nat) (NN : Nat) (E : Heap) (tM tC : Nat) (kK kV : Nat → Nat) (hNN : 152 ≤ NN) (sz : Nat) (o : Nat) (l1 : Int32) (x : St) (fo : o < NN ∧ kcC o = 3) {post : Int32 → St → Prop} (hw : wp_Sch_columnsBefore post o l1 x) : Met l y_Sch_columnsBefore (wsOf y_Sch_columnsBefore b_Sch_columnsBefore 2 (some (.int))) ({ frames := 0, cells := 0, slots := 0, locals := 0 }) (va_Pc [.ref (ad o), .int l1] (PVc dC dI cI cB cJ cZ ad stC kcC NN E tM tC kK kV sz x)) (va_Qi (fun (r : Int32) (y : St) => post r y) (fun y t => Wd dC dI cI cB cJ cZ ad stC kcC NN (va_A (pic ad stC kcC NN cI cB cJ cZ x) sz) y t.heap) (va_A (pic ad stC kcC NN cI cB cJ cZ x) sz)) 0 0 (va_A (pic ad stC kcC NN cI cB cJ cZ x) sz) := by
  refine Met.ofW (cc := b_Sch_columnsBefore) (maxL := 2) (ret := some (.int)) (by decide) rfl ?_
  intro p e s m args below meth c s₁ B hml hv
  obtain ⟨rfl, ⟨hsz, hW0, hK, hN⟩, hE⟩ := hv
  have hx := B.exec
  have hb := B.bytes
  have hr := B.returns
  have hts := atoms_spec B.pre
  have hT : ∀ w ∈ TG, w.before _ s = true := fun w h => hts w (List.mem_cons_of_mem _ h)
  have hown : s.vm.findClass R_Sch = some m.cls := findClass_of_methodNamed B.named
  have hlocks := B.notSynchronized
  subst hsz
  have hW : Wd dC dI cI cB cJ cZ ad stC kcC NN (va_A (pic ad stC kcC NN cI cB cJ cZ x) s.heap.size) x s.heap := ⟨hW0.1, hW0.2.1.self (sz := s.heap.size), hW0.2.2⟩
  generalize hAe : va_A (pic ad stC kcC NN cI cB cJ cZ x) s.heap.size = A at hW hE ⊢
  have hA : ∀ q : Nat, s.heap.size ≤ q → A q := fun q h => by rw [← hAe]; exact Or.inr h
  have hS : va_S A s.heap s.heap [] := va_S.rf
  have hl := lv_entry ([.ref (ad o), .int l1]) (n := 2) (Nat.le_of_ble_eq_true rfl)
  rw [lg_entry_eq]
  generalize (lg_sl ([.ref (ad o), .int l1]) ++ List.replicate (2 - (lg_sl ([.ref (ad o), .int l1])).length) Slot.unset).toArray = ls at hl ⊢
  have hl : lv_has ls 2 [(0, .ref (ad o)), (1, .int l1)] := hl
  exact t_Sch_columnsBefore_e hx hb hml hown hT hK hN hA (Nat.le_refl 0) (Nat.le_refl 0) (Nat.le_refl 0) (Nat.le_refl 0) hNN hE (fun r x H locs pc ls hd hp hW hS => W.iret (v := r) hx hb hr (fun t ht hM => ⟨⟨r, x, rfl, hp, Wd.back hW ht.symm (fun _ z => z)⟩, hS.F ht⟩) hS.2.2 hd hlocks)  o l1 x _ _ ls fo hw hW hS hl
set_option maxRecDepth 100000 in
set_option maxHeartbeats 4000000 in
set_option maxRecDepth 100000 in
theorem t_Rec_enter_54 {p : Program} {l : Launch} {e : Env} {R : Room} {s : State} {m : MethodId} {args : Array Value} {below : List Frame} {meth : Method} {c : Code} {cells slots : Nat} {Q : State → Prop} {dC : Nat → ClassId} {dI : Nat → Nat → Nat} {cI cB cJ cZ : ClassId} {A : Nat → Prop} {ad : Nat → Nat} {NN : Nat} {E : Heap} {tM tC : Nat} {kK kV : Nat → Nat} {post : St → Prop} (hx : p.tables.exec = Jvm.exec) (hb : c.code = b_Rec_enter) (hml : c.maxLocals = 6) (hown : s.vm.findClass R_Rec = some m.cls) (hT : ∀ w ∈ TG, w.before args s = true) (hK : va_K (dC, dI) CL (TY cI cB cJ cZ) s) (hN : NW s) (hA : ∀ q : Nat, s.heap.size ≤ q → A q) (hRc : cells ≤ R.cells) (hRs : slots ≤ R.slots) (hRf : 0 ≤ R.frames) (hRl : 0 ≤ R.locals) (hNN : 152 ≤ NN) (hE : CE E tM tC kK kV A s) (hret : ∀ (x : St) (H : Heap) (locs : List Loc) (pc : Nat) (ls : Array Slot), decode b_Rec_enter pc = .ok (.return_, 1) → post x → Wd dC dI cI cB cJ cZ ad stC kcC NN A x H → va_S A s.heap H locs → W p l e R s m args below meth c H locs cells slots Q (F0 m pc ls []))  : ∀ (o : Nat) (l1 : Int32) (l2 : Int32) (l3 : Int32) (l4 : Int64) (x : St) (H : Heap) (locs : List Loc) (ls : Array Slot), (o < NN ∧ kcC o = 4) → j_Rec_enter_54 post o l1 l2 l3 l4 x → Wd dC dI cI cB cJ cZ ad stC kcC NN A x H → va_S A s.heap H locs → lv_has ls 6 [(0, .ref (ad o)), (1, .int l1), (2, .int l2), (3, .int l3), (4, .long l4)] → W p l e R s m args below meth c H locs cells slots Q (F0 m 54 ls []) := by
  intro o l1 l2 l3 l4 x H locs ls fo hw hW hS hl
  unfold j_Rec_enter_54 at hw
  refine lv_aload_n hx hb d_Rec_enter_54 rfl (lv_at hl 0 rfl) ?_
  refine lv_dup hx hb d_Rec_enter_55 rfl ?_
  refine w_geti (k := 3) (t := 4) (C := R_Rec) (T := F_Rec) (N := 15) hx hb hT hown hK hW fo.1 fo.2 (by decide) in_Rec rfl rfl (by decide) rfl fr_Rec_3 w_1_232 d_Rec_enter_56 ?_
  refine lv_iconst (v := 1) hx hb d_Rec_enter_59 (by decide) ?_
  refine lv_iadd hx hb d_Rec_enter_60 ?_
  refine w_puti (ty := .int) (k := 3) (t := 4) (C := R_Rec) (T := F_Rec) (N := 15) hx hb hT hown hK hW hS fo.1 fo.2 (by decide) in_Rec t_Rec t_Rec_ok n_Rec rfl rfl (by decide) rfl fr_Rec_3 w_1_232 (by decide +kernel) rfl rfl d_Rec_enter_61 (fun H locs hW hS => ?_)
  obtain ⟨x1, ex1⟩ : ∃ y : St, y = setI x o 3 ((fI x o 3) + 1) := ⟨_, rfl⟩
  rw [← ex1] at hW
  have hw := hw x1 ex1
  exact hret x1 H locs 64 ls d_Rec_enter_64 hw hW hS
set_option maxRecDepth 100000 in
set_option maxHeartbeats 4000000 in
set_option maxRecDepth 100000 in
theorem t_Rec_enter_e {p : Program} {l : Launch} {e : Env} {R : Room} {s : State} {m : MethodId} {args : Array Value} {below : List Frame} {meth : Method} {c : Code} {cells slots : Nat} {Q : State → Prop} {dC : Nat → ClassId} {dI : Nat → Nat → Nat} {cI cB cJ cZ : ClassId} {A : Nat → Prop} {ad : Nat → Nat} {NN : Nat} {E : Heap} {tM tC : Nat} {kK kV : Nat → Nat} {post : St → Prop} (hx : p.tables.exec = Jvm.exec) (hb : c.code = b_Rec_enter) (hml : c.maxLocals = 6) (hown : s.vm.findClass R_Rec = some m.cls) (hT : ∀ w ∈ TG, w.before args s = true) (hK : va_K (dC, dI) CL (TY cI cB cJ cZ) s) (hN : NW s) (hA : ∀ q : Nat, s.heap.size ≤ q → A q) (hRc : cells ≤ R.cells) (hRs : slots ≤ R.slots) (hRf : 0 ≤ R.frames) (hRl : 0 ≤ R.locals) (hNN : 152 ≤ NN) (hE : CE E tM tC kK kV A s) (hret : ∀ (x : St) (H : Heap) (locs : List Loc) (pc : Nat) (ls : Array Slot), decode b_Rec_enter pc = .ok (.return_, 1) → post x → Wd dC dI cI cB cJ cZ ad stC kcC NN A x H → va_S A s.heap H locs → W p l e R s m args below meth c H locs cells slots Q (F0 m pc ls [])) : ∀ (o : Nat) (l1 : Int32) (l2 : Int32) (l3 : Int32) (l4 : Int64) (x : St) (H : Heap) (locs : List Loc) (ls : Array Slot), (o < NN ∧ kcC o = 4) → wp_Rec_enter post o l1 l2 l3 l4 x → Wd dC dI cI cB cJ cZ ad stC kcC NN A x H → va_S A s.heap H locs → lv_has ls 6 [(0, .ref (ad o)), (1, .int l1), (2, .int l2), (3, .int l3), (4, .long l4)] → W p l e R s m args below meth c H locs cells slots Q (F0 m 0 ls []) := by
  intro o l1 l2 l3 l4 x H locs ls fo hw hW hS hl
  unfold wp_Rec_enter at hw
  refine lv_aload_n hx hb d_Rec_enter_0 rfl (lv_at hl 0 rfl) ?_
  refine w_geti (k := 3) (t := 4) (C := R_Rec) (T := F_Rec) (N := 15) hx hb hT hown hK hW fo.1 fo.2 (by decide) in_Rec rfl rfl (by decide) rfl fr_Rec_3 w_1_232 d_Rec_enter_1 ?_
  refine lv_sipush (v := 10000) hx hb d_Rec_enter_4 (by decide) ?_
  refine lv_icmp_ge (tgt := 54) hx hb d_Rec_enter_7 (by decide) (fun c2 => ?_) (fun c2 => ?_)
  · have hw := hw.1 c2
    exact t_Rec_enter_54 hx hb hml hown hT hK hN hA hRc hRs hRf hRl hNN hE hret  o l1 l2 l3 l4 x H locs ls fo hw hW hS (lv_sub hl [0, 1, 2, 3, 4] rfl)
  · have hw := hw.2 c2
    refine lv_aload_n hx hb d_Rec_enter_10 rfl (lv_at hl 0 rfl) ?_
    refine w_getf (q := (stC o 8)) (k := 8) (t := 4) (C := R_Rec) (T := F_Rec) (N := 15) hx hb hT hown hK hW fo.1 fo.2 (by decide) in_Rec rfl rfl (by decide) rfl fr_Rec_8 w_2_0 d_Rec_enter_11 rfl ?_
    refine lv_aload_n hx hb d_Rec_enter_14 rfl (lv_at hl 0 rfl) ?_
    refine w_geti (k := 3) (t := 4) (C := R_Rec) (T := F_Rec) (N := 15) hx hb hT hown hK hW fo.1 fo.2 (by decide) in_Rec rfl rfl (by decide) rfl fr_Rec_3 w_1_232 d_Rec_enter_15 ?_
    refine lv_iload_n hx hb d_Rec_enter_18 rfl (lv_at hl 1 rfl) ?_
    refine lv_i2b hx hb d_Rec_enter_19 rfl ?_
    obtain ⟨hi, hw⟩ := hw
    refine w_bast (o := (stC o 8)) hx hb hK hW hS (st_ty hNN fo.1 fo.2 rfl).1 (st_ty hNN fo.1 fo.2 rfl).2 hi d_Rec_enter_20 (fun H locs hW hS => ?_)
    obtain ⟨x3, ex3⟩ : ∃ y : St, y = setA x (stC o 8) (fI x o 3) (vp_nar .byte (l1 : Int32).toInt8.toInt32) := ⟨_, rfl⟩
    rw [← ex3] at hW
    have hw := hw x3 ex3
    refine lv_aload_n hx hb d_Rec_enter_21 rfl (lv_at hl 0 rfl) ?_
    refine w_getf (q := (stC o 5)) (k := 5) (t := 4) (C := R_Rec) (T := F_Rec) (N := 15) hx hb hT hown hK hW fo.1 fo.2 (by decide) in_Rec rfl rfl (by decide) rfl fr_Rec_5 w_1_234 d_Rec_enter_22 rfl ?_
    refine lv_aload_n hx hb d_Rec_enter_25 rfl (lv_at hl 0 rfl) ?_
    refine w_geti (k := 3) (t := 4) (C := R_Rec) (T := F_Rec) (N := 15) hx hb hT hown hK hW fo.1 fo.2 (by decide) in_Rec rfl rfl (by decide) rfl fr_Rec_3 w_1_232 d_Rec_enter_26 ?_
    refine lv_iload_n hx hb d_Rec_enter_29 rfl (lv_at hl 2 rfl) ?_
    refine lv_i2b hx hb d_Rec_enter_30 rfl ?_
    obtain ⟨hi, hw⟩ := hw
    refine w_bast (o := (stC o 5)) hx hb hK hW hS (st_ty hNN fo.1 fo.2 rfl).1 (st_ty hNN fo.1 fo.2 rfl).2 hi d_Rec_enter_31 (fun H locs hW hS => ?_)
    obtain ⟨x4, ex4⟩ : ∃ y : St, y = setA x3 (stC o 5) (fI x3 o 3) (vp_nar .byte (l2 : Int32).toInt8.toInt32) := ⟨_, rfl⟩
    rw [← ex4] at hW
    have hw := hw x4 ex4
    refine lv_aload_n hx hb d_Rec_enter_32 rfl (lv_at hl 0 rfl) ?_
    refine w_getf (q := (stC o 6)) (k := 6) (t := 4) (C := R_Rec) (T := F_Rec) (N := 15) hx hb hT hown hK hW fo.1 fo.2 (by decide) in_Rec rfl rfl (by decide) rfl fr_Rec_6 w_1_236 d_Rec_enter_33 rfl ?_
    refine lv_aload_n hx hb d_Rec_enter_36 rfl (lv_at hl 0 rfl) ?_
    refine w_geti (k := 3) (t := 4) (C := R_Rec) (T := F_Rec) (N := 15) hx hb hT hown hK hW fo.1 fo.2 (by decide) in_Rec rfl rfl (by decide) rfl fr_Rec_3 w_1_232 d_Rec_enter_37 ?_
    refine lv_iload_n hx hb d_Rec_enter_40 rfl (lv_at hl 3 rfl) ?_
    refine lv_i2b hx hb d_Rec_enter_41 rfl ?_
    obtain ⟨hi, hw⟩ := hw
    refine w_bast (o := (stC o 6)) hx hb hK hW hS (st_ty hNN fo.1 fo.2 rfl).1 (st_ty hNN fo.1 fo.2 rfl).2 hi d_Rec_enter_42 (fun H locs hW hS => ?_)
    obtain ⟨x5, ex5⟩ : ∃ y : St, y = setA x4 (stC o 6) (fI x4 o 3) (vp_nar .byte (l3 : Int32).toInt8.toInt32) := ⟨_, rfl⟩
    rw [← ex5] at hW
    have hw := hw x5 ex5
    refine lv_aload_n hx hb d_Rec_enter_43 rfl (lv_at hl 0 rfl) ?_
    refine w_getf (q := (stC o 7)) (k := 7) (t := 4) (C := R_Rec) (T := F_Rec) (N := 15) hx hb hT hown hK hW fo.1 fo.2 (by decide) in_Rec rfl rfl (by decide) rfl fr_Rec_7 w_1_238 d_Rec_enter_44 rfl ?_
    refine lv_aload_n hx hb d_Rec_enter_47 rfl (lv_at hl 0 rfl) ?_
    refine w_geti (k := 3) (t := 4) (C := R_Rec) (T := F_Rec) (N := 15) hx hb hT hown hK hW fo.1 fo.2 (by decide) in_Rec rfl rfl (by decide) rfl fr_Rec_3 w_1_232 d_Rec_enter_48 ?_
    refine lv_lload hx hb d_Rec_enter_51 (lv_at hl 4 rfl) ?_
    obtain ⟨hi, hw⟩ := hw
    refine w_last (o := (stC o 7)) hx hb hK hW hS (st_ty hNN fo.1 fo.2 rfl).1 (st_ty hNN fo.1 fo.2 rfl).2 hi d_Rec_enter_53 (fun H locs hW hS => ?_)
    obtain ⟨x6, ex6⟩ : ∃ y : St, y = setL x5 (stC o 7) (fI x5 o 3) l4 := ⟨_, rfl⟩
    rw [← ex6] at hW
    have hw := hw x6 ex6
    exact t_Rec_enter_54 hx hb hml hown hT hK hN hA hRc hRs hRf hRl hNN hE hret  o l1 l2 l3 l4 x6 H locs ls fo hw hW hS (lv_sub hl [0, 1, 2, 3, 4] rfl)
set_option maxHeartbeats 4000000 in
set_option maxRecDepth 100000 in
theorem k_Rec_enter (l : Launch) (dC : Nat → ClassId) (dI : Nat → Nat → Nat) (cI cB cJ cZ : ClassId) (ad : Nat → Nat) (NN : Nat) (E : Heap) (tM tC : Nat) (kK kV : Nat → Nat) (hNN : 152 ≤ NN) (sz : Nat) (o : Nat) (l1 : Int32) (l2 : Int32) (l3 : Int32) (l4 : Int64) (x : St) (fo : o < NN ∧ kcC o = 4) {post : St → Prop} (hw : wp_Rec_enter post o l1 l2 l3 l4 x) : Met l y_Rec_enter (wsOf y_Rec_enter b_Rec_enter 6 (none)) ({ frames := 0, cells := 0, slots := 0, locals := 0 }) (va_Pc [.ref (ad o), .int l1, .int l2, .int l3, .long l4] (PVc dC dI cI cB cJ cZ ad stC kcC NN E tM tC kK kV sz x)) (va_Qv (fun (y : St) => post y) (fun y t => Wd dC dI cI cB cJ cZ ad stC kcC NN (va_A (pic ad stC kcC NN cI cB cJ cZ x) sz) y t.heap) (va_A (pic ad stC kcC NN cI cB cJ cZ x) sz)) 0 0 (va_A (pic ad stC kcC NN cI cB cJ cZ x) sz) := by
  refine Met.ofW (cc := b_Rec_enter) (maxL := 6) (ret := none) (by decide) rfl ?_
  intro p e s m args below meth c s₁ B hml hv
  obtain ⟨rfl, ⟨hsz, hW0, hK, hN⟩, hE⟩ := hv
  have hx := B.exec
  have hb := B.bytes
  have hr := B.returns
  have hts := atoms_spec B.pre
  have hT : ∀ w ∈ TG, w.before _ s = true := fun w h => hts w (List.mem_cons_of_mem _ h)
  have hown : s.vm.findClass R_Rec = some m.cls := findClass_of_methodNamed B.named
  have hlocks := B.notSynchronized
  subst hsz
  have hW : Wd dC dI cI cB cJ cZ ad stC kcC NN (va_A (pic ad stC kcC NN cI cB cJ cZ x) s.heap.size) x s.heap := ⟨hW0.1, hW0.2.1.self (sz := s.heap.size), hW0.2.2⟩
  generalize hAe : va_A (pic ad stC kcC NN cI cB cJ cZ x) s.heap.size = A at hW hE ⊢
  have hA : ∀ q : Nat, s.heap.size ≤ q → A q := fun q h => by rw [← hAe]; exact Or.inr h
  have hS : va_S A s.heap s.heap [] := va_S.rf
  have hl := lv_entry ([.ref (ad o), .int l1, .int l2, .int l3, .long l4]) (n := 6) (Nat.le_of_ble_eq_true rfl)
  rw [lg_entry_eq]
  generalize (lg_sl ([.ref (ad o), .int l1, .int l2, .int l3, .long l4]) ++ List.replicate (6 - (lg_sl ([.ref (ad o), .int l1, .int l2, .int l3, .long l4])).length) Slot.unset).toArray = ls at hl ⊢
  have hl : lv_has ls 6 [(0, .ref (ad o)), (1, .int l1), (2, .int l2), (3, .int l3), (4, .long l4)] := hl
  exact t_Rec_enter_e hx hb hml hown hT hK hN hA (Nat.le_refl 0) (Nat.le_refl 0) (Nat.le_refl 0) (Nat.le_refl 0) hNN hE (fun x H locs pc ls hd hp hW hS => W.vret hx hb hr (fun t ht hM => ⟨⟨x, rfl, hp, Wd.back hW ht.symm (fun _ z => z)⟩, hS.F ht⟩) hS.2.2 hd hlocks)  o l1 l2 l3 l4 x _ _ ls fo hw hW hS hl
set_option maxRecDepth 100000 in
set_option maxHeartbeats 4000000 in
set_option maxRecDepth 100000 in
theorem t_Rec_enterMissing_20 {p : Program} {l : Launch} {e : Env} {R : Room} {s : State} {m : MethodId} {args : Array Value} {below : List Frame} {meth : Method} {c : Code} {cells slots : Nat} {Q : State → Prop} {dC : Nat → ClassId} {dI : Nat → Nat → Nat} {cI cB cJ cZ : ClassId} {A : Nat → Prop} {ad : Nat → Nat} {NN : Nat} {E : Heap} {tM tC : Nat} {kK kV : Nat → Nat} {post : St → Prop} {rec20 : Nat → Int32 → Int32 → Int32 → Int32 → Int32 → Int32 → St → Prop} (hx : p.tables.exec = Jvm.exec) (hb : c.code = b_Rec_enterMissing) (hml : c.maxLocals = 7) (hown : s.vm.findClass R_Rec = some m.cls) (hT : ∀ w ∈ TG, w.before args s = true) (hK : va_K (dC, dI) CL (TY cI cB cJ cZ) s) (hN : NW s) (hA : ∀ q : Nat, s.heap.size ≤ q → A q) (hRc : cells ≤ R.cells) (hRs : slots ≤ R.slots) (hRf : 1 ≤ R.frames) (hRl : 25 ≤ R.locals) (hNN : 152 ≤ NN) (hE : CE E tM tC kK kV A s) (hret : ∀ (x : St) (H : Heap) (locs : List Loc) (pc : Nat) (ls : Array Slot), decode b_Rec_enterMissing pc = .ok (.return_, 1) → post x → Wd dC dI cI cB cJ cZ ad stC kcC NN A x H → va_S A s.heap H locs → W p l e R s m args below meth c H locs cells slots Q (F0 m pc ls [])) (hrec20 : ∀ (o : Nat) (l1 : Int32) (l2 : Int32) (l3 : Int32) (l4 : Int32) (l5 : Int32) (l6 : Int32) (x : St) (H : Heap) (locs : List Loc) (ls : Array Slot), (o < NN ∧ kcC o = 4) → rec20 o l1 l2 l3 l4 l5 l6 x → Wd dC dI cI cB cJ cZ ad stC kcC NN A x H → va_S A s.heap H locs → lv_has ls 7 [(0, .ref (ad o)), (1, .int l1), (2, .int l2), (3, .int l3), (4, .int l4), (5, .int l5), (6, .int l6)] → W p l e R s m args below meth c H locs cells slots Q (F0 m 20 ls [])) : ∀ (o : Nat) (l1 : Int32) (l2 : Int32) (l3 : Int32) (l4 : Int32) (l5 : Int32) (l6 : Int32) (x : St) (H : Heap) (locs : List Loc) (ls : Array Slot), (o < NN ∧ kcC o = 4) → j_Rec_enterMissing_20 post rec20 o l1 l2 l3 l4 l5 l6 x → Wd dC dI cI cB cJ cZ ad stC kcC NN A x H → va_S A s.heap H locs → lv_has ls 7 [(0, .ref (ad o)), (1, .int l1), (2, .int l2), (3, .int l3), (4, .int l4), (5, .int l5), (6, .int l6)] → W p l e R s m args below meth c H locs cells slots Q (F0 m 20 ls []) := by
  intro o l1 l2 l3 l4 l5 l6 x H locs ls fo hw hW hS hl
  unfold j_Rec_enterMissing_20 at hw
  refine lv_iload hx hb d_Rec_enterMissing_20 (lv_at hl 6 rfl) ?_
  refine lv_iload hx hb d_Rec_enterMissing_22 (lv_at hl 5 rfl) ?_
  refine lv_icmp_ge (tgt := 50) hx hb d_Rec_enterMissing_24 (by decide) (fun c1 => ?_) (fun c1 => ?_)
  · have hw := hw.1 c1
    exact hret x H locs 50 ls d_Rec_enterMissing_50 hw hW hS
  · have hw := hw.2 c1
    refine lv_aload_n hx hb d_Rec_enterMissing_27 rfl (lv_at hl 0 rfl) ?_
    refine lv_iload hx hb d_Rec_enterMissing_28 (lv_at hl 6 rfl) ?_
    refine lv_iload_n hx hb d_Rec_enterMissing_30 rfl (lv_at hl 3 rfl) ?_
    refine lv_aload_n hx hb d_Rec_enterMissing_31 rfl (lv_at hl 0 rfl) ?_
    obtain ⟨q2, hq2, hw⟩ := hw
    refine w_getr (q := q2) (k := 14) (t := 4) (C := R_Rec) (T := F_Rec) (N := 15) hx hb hT hown hK hW fo.1 fo.2 (by decide) in_Rec rfl rfl (by decide) rfl fr_Rec_14 w_2_9 d_Rec_enterMissing_32 hq2 (fun aq2 bq2 => ?_)
    have fq2 : q2 < NN ∧ kcC q2 = 3 := ⟨aq2, bq2⟩
    refine lv_iload hx hb d_Rec_enterMissing_35 (lv_at hl 4 rfl) ?_
    have hF := hW.free hS hA
    refine va_calli (va_runV (C := R_Sch) (As := [.int l4]) (rest := [.int l3, .int l6, .ref (ad o)]) ⟨hx, hb, hml, hown, hT⟩ (k_Sch_defOf l dC dI cI cB cJ cZ ad NN E tM tC kK kV hNN H.size q2 l4 x fq2 hw) ⟨callB_of 1 hT (gwt_in w_5_9) rfl rfl rfl (hT _ w_1_5) (hT _ w_5_47) (by decide +kernel) ⟨Nat.le_trans (Nat.le_of_ble_eq_true rfl) hRf, Nat.le_trans (Nat.le_of_ble_eq_true rfl) hRl⟩, hT _ w_5_7, hT _ w_5_8⟩ ⟨PVc.blind, va_recv hK hW.1 (ci := 3) (q0 := q2) rfl (pic_obj fq2.1 fq2.2 (by decide)), PVc.at _ hW hK hN hE hS hF⟩ rfl rfl hl.1 rfl (lv_room (Nat.le_of_ble_eq_true rfl)) d_Rec_enterMissing_37 ⟨hRc, hRs⟩) hS (fun q _ h => hF q h) hF (fun r4 x3 t H locs ht hvm hw hB hz1 hk1 hS => ?_)
    have hW := Wd.back hB ht hF
    clear hB ht hF hz1 hk1 hvm
    refine lv_lconst (v := 0) hx hb d_Rec_enterMissing_40 (by decide) ?_
    have hF := hW.free hS hA
    refine va_callv (va_runV (C := R_Rec) (As := [.int l6, .int l3, .int r4, .long 0]) (rest := []) ⟨hx, hb, hml, hown, hT⟩ (k_Rec_enter l dC dI cI cB cJ cZ ad NN E tM tC kK kV hNN H.size o l6 l3 r4 0 x3 fo hw) ⟨callB_of 4 hT (gwt_in w_5_51) rfl rfl rfl (hT _ w_1_6) (hT _ w_5_48) (by decide +kernel) ⟨Nat.le_trans (Nat.le_of_ble_eq_true rfl) hRf, Nat.le_trans (Nat.le_of_ble_eq_true rfl) hRl⟩, hT _ w_5_50, hT _ ws_9⟩ ⟨PVc.blind, va_recv hK hW.1 (ci := 4) (q0 := o) rfl (pic_obj fo.1 fo.2 (by decide)), PVc.at _ hW hK hN hE hS hF⟩ rfl rfl hl.1 rfl (lv_room (Nat.le_of_ble_eq_true rfl)) d_Rec_enterMissing_41 ⟨hRc, hRs⟩) hS (fun q _ h => hF q h) hF (fun  x5 t H locs ht hvm hw hB hz1 hk1 hS => ?_)
    have hW := Wd.back hB ht hF
    clear hB ht hF hz1 hk1 hvm
    refine lv_iinc (v := (l6 + 1)) (lv' := [(6, .int (l6 + 1)), (0, .ref (ad o)), (1, .int l1), (2, .int l2), (3, .int l3), (4, .int l4), (5, .int l5)]) hx hb d_Rec_enterMissing_44 hl (k := 6) rfl rfl (by decide) rfl (fun ls hl => ?_)
    refine lv_goto (tgt := 20) hx hb d_Rec_enterMissing_47 (by decide) ?_
    exact hrec20 o l1 l2 l3 l4 l5 (l6 + 1) x5 H locs ls fo hw hW hS (lv_sub hl [1, 2, 3, 4, 5, 6, 0] rfl)
set_option maxHeartbeats 4000000 in
set_option maxRecDepth 100000 in
theorem tl_Rec_enterMissing_20 {p : Program} {l : Launch} {e : Env} {R : Room} {s : State} {m : MethodId} {args : Array Value} {below : List Frame} {meth : Method} {c : Code} {cells slots : Nat} {Q : State → Prop} {dC : Nat → ClassId} {dI : Nat → Nat → Nat} {cI cB cJ cZ : ClassId} {A : Nat → Prop} {ad : Nat → Nat} {NN : Nat} {E : Heap} {tM tC : Nat} {kK kV : Nat → Nat} {post : St → Prop} (hx : p.tables.exec = Jvm.exec) (hb : c.code = b_Rec_enterMissing) (hml : c.maxLocals = 7) (hown : s.vm.findClass R_Rec = some m.cls) (hT : ∀ w ∈ TG, w.before args s = true) (hK : va_K (dC, dI) CL (TY cI cB cJ cZ) s) (hN : NW s) (hA : ∀ q : Nat, s.heap.size ≤ q → A q) (hRc : cells ≤ R.cells) (hRs : slots ≤ R.slots) (hRf : 1 ≤ R.frames) (hRl : 25 ≤ R.locals) (hNN : 152 ≤ NN) (hE : CE E tM tC kK kV A s) (hret : ∀ (x : St) (H : Heap) (locs : List Loc) (pc : Nat) (ls : Array Slot), decode b_Rec_enterMissing pc = .ok (.return_, 1) → post x → Wd dC dI cI cB cJ cZ ad stC kcC NN A x H → va_S A s.heap H locs → W p l e R s m args below meth c H locs cells slots Q (F0 m pc ls []))  : ∀ n : Nat, ∀ (o : Nat) (l1 : Int32) (l2 : Int32) (l3 : Int32) (l4 : Int32) (l5 : Int32) (l6 : Int32) (x : St) (H : Heap) (locs : List Loc) (ls : Array Slot), (o < NN ∧ kcC o = 4) → wl_Rec_enterMissing_20 post n o l1 l2 l3 l4 l5 l6 x → Wd dC dI cI cB cJ cZ ad stC kcC NN A x H → va_S A s.heap H locs → lv_has ls 7 [(0, .ref (ad o)), (1, .int l1), (2, .int l2), (3, .int l3), (4, .int l4), (5, .int l5), (6, .int l6)] → W p l e R s m args below meth c H locs cells slots Q (F0 m 20 ls []) := by
  intro n
  induction n with
  | zero => intro o l1 l2 l3 l4 l5 l6 x H locs ls fo hw; exact hw.elim
  | succ n ih => intro o l1 l2 l3 l4 l5 l6 x H locs ls fo hw hW hS hl; exact t_Rec_enterMissing_20 hx hb hml hown hT hK hN hA hRc hRs hRf hRl hNN hE hret  ih o l1 l2 l3 l4 l5 l6 x H locs ls fo hw hW hS hl
set_option maxRecDepth 100000 in
set_option maxHeartbeats 4000000 in
set_option maxRecDepth 100000 in
theorem t_Rec_enterMissing_e {p : Program} {l : Launch} {e : Env} {R : Room} {s : State} {m : MethodId} {args : Array Value} {below : List Frame} {meth : Method} {c : Code} {cells slots : Nat} {Q : State → Prop} {dC : Nat → ClassId} {dI : Nat → Nat → Nat} {cI cB cJ cZ : ClassId} {A : Nat → Prop} {ad : Nat → Nat} {NN : Nat} {E : Heap} {tM tC : Nat} {kK kV : Nat → Nat} {post : St → Prop} (hx : p.tables.exec = Jvm.exec) (hb : c.code = b_Rec_enterMissing) (hml : c.maxLocals = 7) (hown : s.vm.findClass R_Rec = some m.cls) (hT : ∀ w ∈ TG, w.before args s = true) (hK : va_K (dC, dI) CL (TY cI cB cJ cZ) s) (hN : NW s) (hA : ∀ q : Nat, s.heap.size ≤ q → A q) (hRc : cells ≤ R.cells) (hRs : slots ≤ R.slots) (hRf : 1 ≤ R.frames) (hRl : 25 ≤ R.locals) (hNN : 152 ≤ NN) (hE : CE E tM tC kK kV A s) (hret : ∀ (x : St) (H : Heap) (locs : List Loc) (pc : Nat) (ls : Array Slot), decode b_Rec_enterMissing pc = .ok (.return_, 1) → post x → Wd dC dI cI cB cJ cZ ad stC kcC NN A x H → va_S A s.heap H locs → W p l e R s m args below meth c H locs cells slots Q (F0 m pc ls [])) : ∀ (o : Nat) (l1 : Int32) (l2 : Int32) (l3 : Int32) (l4 : Int32) (x : St) (H : Heap) (locs : List Loc) (ls : Array Slot), (o < NN ∧ kcC o = 4) → wp_Rec_enterMissing post o l1 l2 l3 l4 x → Wd dC dI cI cB cJ cZ ad stC kcC NN A x H → va_S A s.heap H locs → lv_has ls 7 [(0, .ref (ad o)), (1, .int l1), (2, .int l2), (3, .int l3), (4, .int l4)] → W p l e R s m args below meth c H locs cells slots Q (F0 m 0 ls []) := by
  intro o l1 l2 l3 l4 x H locs ls fo hw hW hS hl
  unfold wp_Rec_enterMissing at hw
  refine lv_aload_n hx hb d_Rec_enterMissing_0 rfl (lv_at hl 0 rfl) ?_
  obtain ⟨q6, hq6, hw⟩ := hw
  refine w_getr (q := q6) (k := 14) (t := 4) (C := R_Rec) (T := F_Rec) (N := 15) hx hb hT hown hK hW fo.1 fo.2 (by decide) in_Rec rfl rfl (by decide) rfl fr_Rec_14 w_2_9 d_Rec_enterMissing_1 hq6 (fun aq6 bq6 => ?_)
  have fq6 : q6 < NN ∧ kcC q6 = 3 := ⟨aq6, bq6⟩
  refine lv_iload_n hx hb d_Rec_enterMissing_4 rfl (lv_at hl 2 rfl) ?_
  have hF := hW.free hS hA
  refine va_calli (va_runV (C := R_Sch) (As := [.int l2]) (rest := []) ⟨hx, hb, hml, hown, hT⟩ (k_Sch_columnsBefore l dC dI cI cB cJ cZ ad NN E tM tC kK kV hNN H.size q6 l2 x fq6 hw) ⟨callB_of 1 hT (gwt_in w_5_46) rfl rfl rfl (hT _ w_1_5) (hT _ w_5_43) (by decide +kernel) ⟨Nat.le_trans (Nat.le_of_ble_eq_true rfl) hRf, Nat.le_trans (Nat.le_of_ble_eq_true rfl) hRl⟩, hT _ w_5_44, hT _ w_5_45⟩ ⟨PVc.blind, va_recv hK hW.1 (ci := 3) (q0 := q6) rfl (pic_obj fq6.1 fq6.2 (by decide)), PVc.at _ hW hK hN hE hS hF⟩ rfl rfl hl.1 rfl (lv_room (Nat.le_of_ble_eq_true rfl)) d_Rec_enterMissing_5 ⟨hRc, hRs⟩) hS (fun q _ h => hF q h) hF (fun r8 x7 t H locs ht hvm hw hB hz1 hk1 hS => ?_)
  have hW := Wd.back hB ht hF
  clear hB ht hF hz1 hk1 hvm
  refine lv_istore (lv' := [(5, .int r8), (0, .ref (ad o)), (1, .int l1), (2, .int l2), (3, .int l3), (4, .int l4)]) hx hb d_Rec_enterMissing_8 hl (by decide) rfl (fun ls hl => ?_)
  refine lv_aload_n hx hb d_Rec_enterMissing_10 rfl (lv_at hl 1 rfl) ?_
  obtain ⟨q9, hq9, hw⟩ := hw
  refine w_getr (q := q9) (k := 14) (t := 4) (C := R_Rec) (T := F_Rec) (N := 15) hx hb hT hown hK hW fo.1 fo.2 (by decide) in_Rec rfl rfl (by decide) rfl fr_Rec_14 w_2_9 d_Rec_enterMissing_11 hq9 (fun aq9 bq9 => ?_)
  have fq9 : q9 < NN ∧ kcC q9 = 3 := ⟨aq9, bq9⟩
  refine lv_iload_n hx hb d_Rec_enterMissing_14 rfl (lv_at hl 2 rfl) ?_
  have hF := hW.free hS hA
  refine va_calli (va_runV (C := R_Sch) (As := [.int l1]) (rest := []) ⟨hx, hb, hml, hown, hT⟩ (k_Sch_columnsBefore l dC dI cI cB cJ cZ ad NN E tM tC kK kV hNN H.size q9 l1 x7 fq9 hw) ⟨callB_of 1 hT (gwt_in w_5_46) rfl rfl rfl (hT _ w_1_5) (hT _ w_5_43) (by decide +kernel) ⟨Nat.le_trans (Nat.le_of_ble_eq_true rfl) hRf, Nat.le_trans (Nat.le_of_ble_eq_true rfl) hRl⟩, hT _ w_5_44, hT _ w_5_45⟩ ⟨PVc.blind, va_recv hK hW.1 (ci := 3) (q0 := q9) rfl (pic_obj fq9.1 fq9.2 (by decide)), PVc.at _ hW hK hN hE hS hF⟩ rfl rfl hl.1 rfl (lv_room (Nat.le_of_ble_eq_true rfl)) d_Rec_enterMissing_15 ⟨hRc, hRs⟩) hS (fun q _ h => hF q h) hF (fun r11 x10 t H locs ht hvm hw hB hz1 hk1 hS => ?_)
  have hW := Wd.back hB ht hF
  clear hB ht hF hz1 hk1 hvm
  refine lv_istore (lv' := [(6, .int r11), (5, .int r8), (0, .ref (ad o)), (1, .int l1), (2, .int l2), (3, .int l3), (4, .int l4)]) hx hb d_Rec_enterMissing_18 hl (by decide) rfl (fun ls hl => ?_)
  obtain ⟨n, hw⟩ := hw
  exact tl_Rec_enterMissing_20 hx hb hml hown hT hK hN hA hRc hRs hRf hRl hNN hE hret  n o l1 l2 l3 l4 r8 r11 x10 H locs ls fo hw hW hS (lv_sub hl [2, 3, 4, 5, 6, 1, 0] rfl)
set_option maxHeartbeats 4000000 in
set_option maxRecDepth 100000 in
theorem k_Rec_enterMissing (l : Launch) (dC : Nat → ClassId) (dI : Nat → Nat → Nat) (cI cB cJ cZ : ClassId) (ad : Nat → Nat) (NN : Nat) (E : Heap) (tM tC : Nat) (kK kV : Nat → Nat) (hNN : 152 ≤ NN) (sz : Nat) (o : Nat) (l1 : Int32) (l2 : Int32) (l3 : Int32) (l4 : Int32) (x : St) (fo : o < NN ∧ kcC o = 4) {post : St → Prop} (hw : wp_Rec_enterMissing post o l1 l2 l3 l4 x) : Met l y_Rec_enterMissing (wsOf y_Rec_enterMissing b_Rec_enterMissing 7 (none)) ({ frames := 1, cells := 0, slots := 0, locals := 25 }) (va_Pc [.ref (ad o), .int l1, .int l2, .int l3, .int l4] (PVc dC dI cI cB cJ cZ ad stC kcC NN E tM tC kK kV sz x)) (va_Qv (fun (y : St) => post y) (fun y t => Wd dC dI cI cB cJ cZ ad stC kcC NN (va_A (pic ad stC kcC NN cI cB cJ cZ x) sz) y t.heap) (va_A (pic ad stC kcC NN cI cB cJ cZ x) sz)) 0 0 (va_A (pic ad stC kcC NN cI cB cJ cZ x) sz) := by
  refine Met.ofW (cc := b_Rec_enterMissing) (maxL := 7) (ret := none) (by decide) rfl ?_
  intro p e s m args below meth c s₁ B hml hv
  obtain ⟨rfl, ⟨hsz, hW0, hK, hN⟩, hE⟩ := hv
  have hx := B.exec
  have hb := B.bytes
  have hr := B.returns
  have hts := atoms_spec B.pre
  have hT : ∀ w ∈ TG, w.before _ s = true := fun w h => hts w (List.mem_cons_of_mem _ h)
  have hown : s.vm.findClass R_Rec = some m.cls := findClass_of_methodNamed B.named
  have hlocks := B.notSynchronized
  subst hsz
  have hW : Wd dC dI cI cB cJ cZ ad stC kcC NN (va_A (pic ad stC kcC NN cI cB cJ cZ x) s.heap.size) x s.heap := ⟨hW0.1, hW0.2.1.self (sz := s.heap.size), hW0.2.2⟩
  generalize hAe : va_A (pic ad stC kcC NN cI cB cJ cZ x) s.heap.size = A at hW hE ⊢
  have hA : ∀ q : Nat, s.heap.size ≤ q → A q := fun q h => by rw [← hAe]; exact Or.inr h
  have hS : va_S A s.heap s.heap [] := va_S.rf
  have hl := lv_entry ([.ref (ad o), .int l1, .int l2, .int l3, .int l4]) (n := 7) (Nat.le_of_ble_eq_true rfl)
  rw [lg_entry_eq]
  generalize (lg_sl ([.ref (ad o), .int l1, .int l2, .int l3, .int l4]) ++ List.replicate (7 - (lg_sl ([.ref (ad o), .int l1, .int l2, .int l3, .int l4])).length) Slot.unset).toArray = ls at hl ⊢
  have hl : lv_has ls 7 [(0, .ref (ad o)), (1, .int l1), (2, .int l2), (3, .int l3), (4, .int l4)] := hl
  exact t_Rec_enterMissing_e hx hb hml hown hT hK hN hA (Nat.le_refl 0) (Nat.le_refl 0) (Nat.le_refl 1) (Nat.le_refl 25) hNN hE (fun x H locs pc ls hd hp hW hS => W.vret hx hb hr (fun t ht hM => ⟨⟨x, rfl, hp, Wd.back hW ht.symm (fun _ z => z)⟩, hS.F ht⟩) hS.2.2 hd hlocks)  o l1 l2 l3 l4 x _ _ ls fo hw hW hS hl
set_option maxRecDepth 100000 in
set_option maxHeartbeats 4000000 in
set_option maxRecDepth 100000 in
theorem t_Rec_someRequired_38 {p : Program} {l : Launch} {e : Env} {R : Room} {s : State} {m : MethodId} {args : Array Value} {below : List Frame} {meth : Method} {c : Code} {cells slots : Nat} {Q : State → Prop} {dC : Nat → ClassId} {dI : Nat → Nat → Nat} {cI cB cJ cZ : ClassId} {A : Nat → Prop} {ad : Nat → Nat} {NN : Nat} {E : Heap} {tM tC : Nat} {kK kV : Nat → Nat} {post : Int32 → St → Prop} {rec3 : Nat → Int32 → Int32 → Int32 → Int32 → St → Prop} (hx : p.tables.exec = Jvm.exec) (hb : c.code = b_Rec_someRequired) (hml : c.maxLocals = 5) (hown : s.vm.findClass R_Rec = some m.cls) (hT : ∀ w ∈ TG, w.before args s = true) (hK : va_K (dC, dI) CL (TY cI cB cJ cZ) s) (hN : NW s) (hA : ∀ q : Nat, s.heap.size ≤ q → A q) (hRc : cells ≤ R.cells) (hRs : slots ≤ R.slots) (hRf : 0 ≤ R.frames) (hRl : 0 ≤ R.locals) (hNN : 152 ≤ NN) (hE : CE E tM tC kK kV A s) (hret : ∀ (r : Int32) (x : St) (H : Heap) (locs : List Loc) (pc : Nat) (ls : Array Slot), decode b_Rec_someRequired pc = .ok (.ireturn, 1) → narrow .boolean (.int r) = .int r → post r x → Wd dC dI cI cB cJ cZ ad stC kcC NN A x H → va_S A s.heap H locs → W p l e R s m args below meth c H locs cells slots Q (F0 m pc ls [.int r])) (hrec3 : ∀ (o : Nat) (l1 : Int32) (l2 : Int32) (l3 : Int32) (l4 : Int32) (x : St) (H : Heap) (locs : List Loc) (ls : Array Slot), (o < NN ∧ kcC o = 4) → rec3 o l1 l2 l3 l4 x → Wd dC dI cI cB cJ cZ ad stC kcC NN A x H → va_S A s.heap H locs → lv_has ls 5 [(0, .ref (ad o)), (1, .int l1), (2, .int l2), (3, .int l3), (4, .int l4)] → W p l e R s m args below meth c H locs cells slots Q (F0 m 3 ls [])) : ∀ (o : Nat) (l1 : Int32) (l2 : Int32) (l3 : Int32) (l4 : Int32) (x : St) (H : Heap) (locs : List Loc) (ls : Array Slot), (o < NN ∧ kcC o = 4) → j_Rec_someRequired_38 post rec3 o l1 l2 l3 l4 x → Wd dC dI cI cB cJ cZ ad stC kcC NN A x H → va_S A s.heap H locs → lv_has ls 5 [(0, .ref (ad o)), (1, .int l1), (2, .int l2), (3, .int l3), (4, .int l4)] → W p l e R s m args below meth c H locs cells slots Q (F0 m 38 ls []) := by
  intro o l1 l2 l3 l4 x H locs ls fo hw hW hS hl
  unfold j_Rec_someRequired_38 at hw
  refine lv_iinc (v := (l4 + 1)) (lv' := [(4, .int (l4 + 1)), (0, .ref (ad o)), (1, .int l1), (2, .int l2), (3, .int l3)]) hx hb d_Rec_someRequired_38 hl (k := 4) rfl rfl (by decide) rfl (fun ls hl => ?_)
  refine lv_goto (tgt := 3) hx hb d_Rec_someRequired_41 (by decide) ?_
  exact hrec3 o l1 l2 l3 (l4 + 1) x H locs ls fo hw hW hS (lv_sub hl [1, 2, 3, 4, 0] rfl)
set_option maxRecDepth 100000 in
set_option maxHeartbeats 4000000 in
set_option maxRecDepth 100000 in
theorem t_Rec_someRequired_3 {p : Program} {l : Launch} {e : Env} {R : Room} {s : State} {m : MethodId} {args : Array Value} {below : List Frame} {meth : Method} {c : Code} {cells slots : Nat} {Q : State → Prop} {dC : Nat → ClassId} {dI : Nat → Nat → Nat} {cI cB cJ cZ : ClassId} {A : Nat → Prop} {ad : Nat → Nat} {NN : Nat} {E : Heap} {tM tC : Nat} {kK kV : Nat → Nat} {post : Int32 → St → Prop} {rec3 : Nat → Int32 → Int32 → Int32 → Int32 → St → Prop} (hx : p.tables.exec = Jvm.exec) (hb : c.code = b_Rec_someRequired) (hml : c.maxLocals = 5) (hown : s.vm.findClass R_Rec = some m.cls) (hT : ∀ w ∈ TG, w.before args s = true) (hK : va_K (dC, dI) CL (TY cI cB cJ cZ) s) (hN : NW s) (hA : ∀ q : Nat, s.heap.size ≤ q → A q) (hRc : cells ≤ R.cells) (hRs : slots ≤ R.slots) (hRf : 0 ≤ R.frames) (hRl : 0 ≤ R.locals) (hNN : 152 ≤ NN) (hE : CE E tM tC kK kV A s) (hret : ∀ (r : Int32) (x : St) (H : Heap) (locs : List Loc) (pc : Nat) (ls : Array Slot), decode b_Rec_someRequired pc = .ok (.ireturn, 1) → narrow .boolean (.int r) = .int r → post r x → Wd dC dI cI cB cJ cZ ad stC kcC NN A x H → va_S A s.heap H locs → W p l e R s m args below meth c H locs cells slots Q (F0 m pc ls [.int r])) (hrec3 : ∀ (o : Nat) (l1 : Int32) (l2 : Int32) (l3 : Int32) (l4 : Int32) (x : St) (H : Heap) (locs : List Loc) (ls : Array Slot), (o < NN ∧ kcC o = 4) → rec3 o l1 l2 l3 l4 x → Wd dC dI cI cB cJ cZ ad stC kcC NN A x H → va_S A s.heap H locs → lv_has ls 5 [(0, .ref (ad o)), (1, .int l1), (2, .int l2), (3, .int l3), (4, .int l4)] → W p l e R s m args below meth c H locs cells slots Q (F0 m 3 ls [])) : ∀ (o : Nat) (l1 : Int32) (l2 : Int32) (l3 : Int32) (l4 : Int32) (x : St) (H : Heap) (locs : List Loc) (ls : Array Slot), (o < NN ∧ kcC o = 4) → j_Rec_someRequired_3 post rec3 o l1 l2 l3 l4 x → Wd dC dI cI cB cJ cZ ad stC kcC NN A x H → va_S A s.heap H locs → lv_has ls 5 [(0, .ref (ad o)), (1, .int l1), (2, .int l2), (3, .int l3), (4, .int l4)] → W p l e R s m args below meth c H locs cells slots Q (F0 m 3 ls []) := by
  intro o l1 l2 l3 l4 x H locs ls fo hw hW hS hl
  unfold j_Rec_someRequired_3 at hw
  refine lv_iload hx hb d_Rec_someRequired_3 (lv_at hl 4 rfl) ?_
  refine lv_iload_n hx hb d_Rec_someRequired_5 rfl (lv_at hl 2 rfl) ?_
  refine lv_icmp_ge (tgt := 44) hx hb d_Rec_someRequired_6 (by decide) (fun c1 => ?_) (fun c1 => ?_)
  · have hw := hw.1 c1
    refine lv_iconst (v := 0) hx hb d_Rec_someRequired_44 (by decide) ?_
    exact hret 0 x H locs 45 ls d_Rec_someRequired_45 rfl hw hW hS
  · have hw := hw.2 c1
    refine lv_aload_n hx hb d_Rec_someRequired_9 rfl (lv_at hl 0 rfl) ?_
    obtain ⟨q2, hq2, hw⟩ := hw
    refine w_getr (q := q2) (k := 14) (t := 4) (C := R_Rec) (T := F_Rec) (N := 15) hx hb hT hown hK hW fo.1 fo.2 (by decide) in_Rec rfl rfl (by decide) rfl fr_Rec_14 w_2_9 d_Rec_someRequired_10 hq2 (fun aq2 bq2 => ?_)
    have fq2 : q2 < NN ∧ kcC q2 = 3 := ⟨aq2, bq2⟩
    refine w_getf (q := (stC q2 4)) (k := 4) (t := 3) (C := R_Sch) (T := F_Sch) (N := 13) hx hb hT hown hK hW fq2.1 fq2.2 (by decide) in_Sch rfl rfl (by decide) rfl fr_Sch_4 w_1_156 d_Rec_someRequired_13 rfl ?_
    refine lv_iload hx hb d_Rec_someRequired_16 (lv_at hl 4 rfl) ?_
    obtain ⟨hi, hw⟩ := hw
    refine w_iald (o := (stC q2 4)) hx hb hK hW (st_ty hNN fq2.1 fq2.2 rfl).1 (st_ty hNN fq2.1 fq2.2 rfl).2 hi d_Rec_someRequired_18 ?_
    refine lv_iload_n hx hb d_Rec_someRequired_19 rfl (lv_at hl 3 rfl) ?_
    refine lv_icmp_ne (tgt := 38) hx hb d_Rec_someRequired_20 (by decide) (fun c3 => ?_) (fun c3 => ?_)
    · have hw := hw.1 c3
      exact t_Rec_someRequired_38 hx hb hml hown hT hK hN hA hRc hRs hRf hRl hNN hE hret hrec3 o l1 l2 l3 l4 x H locs ls fo hw hW hS (lv_sub hl [0, 1, 2, 3, 4] rfl)
    · have hw := hw.2 c3
      refine lv_aload_n hx hb d_Rec_someRequired_23 rfl (lv_at hl 0 rfl) ?_
      obtain ⟨q4, hq4, hw⟩ := hw
      refine w_getr (q := q4) (k := 14) (t := 4) (C := R_Rec) (T := F_Rec) (N := 15) hx hb hT hown hK hW fo.1 fo.2 (by decide) in_Rec rfl rfl (by decide) rfl fr_Rec_14 w_2_9 d_Rec_someRequired_24 hq4 (fun aq4 bq4 => ?_)
      have fq4 : q4 < NN ∧ kcC q4 = 3 := ⟨aq4, bq4⟩
      refine w_getf (q := (stC q4 2)) (k := 2) (t := 3) (C := R_Sch) (T := F_Sch) (N := 13) hx hb hT hown hK hW fq4.1 fq4.2 (by decide) in_Sch rfl rfl (by decide) rfl fr_Sch_2 w_1_143 d_Rec_someRequired_27 rfl ?_
      refine lv_iload hx hb d_Rec_someRequired_30 (lv_at hl 4 rfl) ?_
      obtain ⟨hi, hw⟩ := hw
      refine w_iald (o := (stC q4 2)) hx hb hK hW (st_ty hNN fq4.1 fq4.2 rfl).1 (st_ty hNN fq4.1 fq4.2 rfl).2 hi d_Rec_someRequired_32 ?_
      refine lv_if_ne (tgt := 38) hx hb d_Rec_someRequired_33 (by decide) (fun c5 => ?_) (fun c5 => ?_)
      · have hw := hw.1 c5
        exact t_Rec_someRequired_38 hx hb hml hown hT hK hN hA hRc hRs hRf hRl hNN hE hret hrec3 o l1 l2 l3 l4 x H locs ls fo hw hW hS (lv_sub hl [0, 1, 2, 3, 4] rfl)
      · have hw := hw.2 c5
        refine lv_iconst (v := 1) hx hb d_Rec_someRequired_36 (by decide) ?_
        exact hret 1 x H locs 37 ls d_Rec_someRequired_37 rfl hw hW hS
set_option maxHeartbeats 4000000 in
set_option maxRecDepth 100000 in
theorem tl_Rec_someRequired_3 {p : Program} {l : Launch} {e : Env} {R : Room} {s : State} {m : MethodId} {args : Array Value} {below : List Frame} {meth : Method} {c : Code} {cells slots : Nat} {Q : State → Prop} {dC : Nat → ClassId} {dI : Nat → Nat → Nat} {cI cB cJ cZ : ClassId} {A : Nat → Prop} {ad : Nat → Nat} {NN : Nat} {E : Heap} {tM tC : Nat} {kK kV : Nat → Nat} {post : Int32 → St → Prop} (hx : p.tables.exec = Jvm.exec) (hb : c.code = b_Rec_someRequired) (hml : c.maxLocals = 5) (hown : s.vm.findClass R_Rec = some m.cls) (hT : ∀ w ∈ TG, w.before args s = true) (hK : va_K (dC, dI) CL (TY cI cB cJ cZ) s) (hN : NW s) (hA : ∀ q : Nat, s.heap.size ≤ q → A q) (hRc : cells ≤ R.cells) (hRs : slots ≤ R.slots) (hRf : 0 ≤ R.frames) (hRl : 0 ≤ R.locals) (hNN : 152 ≤ NN) (hE : CE E tM tC kK kV A s) (hret : ∀ (r : Int32) (x : St) (H : Heap) (locs : List Loc) (pc : Nat) (ls : Array Slot), decode b_Rec_someRequired pc = .ok (.ireturn, 1) → narrow .boolean (.int r) = .int r → post r x → Wd dC dI cI cB cJ cZ ad stC kcC NN A x H → va_S A s.heap H locs → W p l e R s m args below meth c H locs cells slots Q (F0 m pc ls [.int r]))  : ∀ n : Nat, ∀ (o : Nat) (l1 : Int32) (l2 : Int32) (l3 : Int32) (l4 : Int32) (x : St) (H : Heap) (locs : List Loc) (ls : Array Slot), (o < NN ∧ kcC o = 4) → wl_Rec_someRequired_3 post n o l1 l2 l3 l4 x → Wd dC dI cI cB cJ cZ ad stC kcC NN A x H → va_S A s.heap H locs → lv_has ls 5 [(0, .ref (ad o)), (1, .int l1), (2, .int l2), (3, .int l3), (4, .int l4)] → W p l e R s m args below meth c H locs cells slots Q (F0 m 3 ls []) := by
  intro n
  induction n with
  | zero => intro o l1 l2 l3 l4 x H locs ls fo hw; exact hw.elim
  | succ n ih => intro o l1 l2 l3 l4 x H locs ls fo hw hW hS hl; exact t_Rec_someRequired_3 hx hb hml hown hT hK hN hA hRc hRs hRf hRl hNN hE hret  ih o l1 l2 l3 l4 x H locs ls fo hw hW hS hl
set_option maxRecDepth 100000 in
set_option maxHeartbeats 4000000 in
set_option maxRecDepth 100000 in
theorem t_Rec_someRequired_e {p : Program} {l : Launch} {e : Env} {R : Room} {s : State} {m : MethodId} {args : Array Value} {below : List Frame} {meth : Method} {c : Code} {cells slots : Nat} {Q : State → Prop} {dC : Nat → ClassId} {dI : Nat → Nat → Nat} {cI cB cJ cZ : ClassId} {A : Nat → Prop} {ad : Nat → Nat} {NN : Nat} {E : Heap} {tM tC : Nat} {kK kV : Nat → Nat} {post : Int32 → St → Prop} (hx : p.tables.exec = Jvm.exec) (hb : c.code = b_Rec_someRequired) (hml : c.maxLocals = 5) (hown : s.vm.findClass R_Rec = some m.cls) (hT : ∀ w ∈ TG, w.before args s = true) (hK : va_K (dC, dI) CL (TY cI cB cJ cZ) s) (hN : NW s) (hA : ∀ q : Nat, s.heap.size ≤ q → A q) (hRc : cells ≤ R.cells) (hRs : slots ≤ R.slots) (hRf : 0 ≤ R.frames) (hRl : 0 ≤ R.locals) (hNN : 152 ≤ NN) (hE : CE E tM tC kK kV A s) (hret : ∀ (r : Int32) (x : St) (H : Heap) (locs : List Loc) (pc : Nat) (ls : Array Slot), decode b_Rec_someRequired pc = .ok (.ireturn, 1) → narrow .boolean (.int r) = .int r → post r x → Wd dC dI cI cB cJ cZ ad stC kcC NN A x H → va_S A s.heap H locs → W p l e R s m args below meth c H locs cells slots Q (F0 m pc ls [.int r])) : ∀ (o : Nat) (l1 : Int32) (l2 : Int32) (l3 : Int32) (x : St) (H : Heap) (locs : List Loc) (ls : Array Slot), (o < NN ∧ kcC o = 4) → wp_Rec_someRequired post o l1 l2 l3 x → Wd dC dI cI cB cJ cZ ad stC kcC NN A x H → va_S A s.heap H locs → lv_has ls 5 [(0, .ref (ad o)), (1, .int l1), (2, .int l2), (3, .int l3)] → W p l e R s m args below meth c H locs cells slots Q (F0 m 0 ls []) := by
  intro o l1 l2 l3 x H locs ls fo hw hW hS hl
  unfold wp_Rec_someRequired at hw
  refine lv_iload_n hx hb d_Rec_someRequired_0 rfl (lv_at hl 1 rfl) ?_
  refine lv_istore (lv' := [(4, .int l1), (0, .ref (ad o)), (1, .int l1), (2, .int l2), (3, .int l3)]) hx hb d_Rec_someRequired_1 hl (by decide) rfl (fun ls hl => ?_)
  obtain ⟨n, hw⟩ := hw
  exact tl_Rec_someRequired_3 hx hb hml hown hT hK hN hA hRc hRs hRf hRl hNN hE hret  n o l1 l2 l3 l1 x H locs ls fo hw hW hS (lv_sub hl [1, 2, 3, 4, 0] rfl)
set_option maxHeartbeats 4000000 in
set_option maxRecDepth 100000 in
theorem k_Rec_someRequired (l : Launch) (dC : Nat → ClassId) (dI : Nat → Nat → Nat) (cI cB cJ cZ : ClassId) (ad : Nat → Nat) (NN : Nat) (E : Heap) (tM tC : Nat) (kK kV : Nat → Nat) (hNN : 152 ≤ NN) (sz : Nat) (o : Nat) (l1 : Int32) (l2 : Int32) (l3 : Int32) (x : St) (fo : o < NN ∧ kcC o = 4) {post : Int32 → St → Prop} (hw : wp_Rec_someRequired post o l1 l2 l3 x) : Met l y_Rec_someRequired (wsOf y_Rec_someRequired b_Rec_someRequired 5 (some (.boolean))) ({ frames := 0, cells := 0, slots := 0, locals := 0 }) (va_Pc [.ref (ad o), .int l1, .int l2, .int l3] (PVc dC dI cI cB cJ cZ ad stC kcC NN E tM tC kK kV sz x)) (va_Qi (fun (r : Int32) (y : St) => post r y) (fun y t => Wd dC dI cI cB cJ cZ ad stC kcC NN (va_A (pic ad stC kcC NN cI cB cJ cZ x) sz) y t.heap) (va_A (pic ad stC kcC NN cI cB cJ cZ x) sz)) 0 0 (va_A (pic ad stC kcC NN cI cB cJ cZ x) sz) := by
  refine Met.ofW (cc := b_Rec_someRequired) (maxL := 5) (ret := some (.boolean)) (by decide) rfl ?_
  intro p e s m args below meth c s₁ B hml hv
  obtain ⟨rfl, ⟨hsz, hW0, hK, hN⟩, hE⟩ := hv
  have hx := B.exec
  have hb := B.bytes
  have hr := B.returns
  have hts := atoms_spec B.pre
  have hT : ∀ w ∈ TG, w.before _ s = true := fun w h => hts w (List.mem_cons_of_mem _ h)
  have hown : s.vm.findClass R_Rec = some m.cls := findClass_of_methodNamed B.named
  have hlocks := B.notSynchronized
  subst hsz
  have hW : Wd dC dI cI cB cJ cZ ad stC kcC NN (va_A (pic ad stC kcC NN cI cB cJ cZ x) s.heap.size) x s.heap := ⟨hW0.1, hW0.2.1.self (sz := s.heap.size), hW0.2.2⟩
  generalize hAe : va_A (pic ad stC kcC NN cI cB cJ cZ x) s.heap.size = A at hW hE ⊢
  have hA : ∀ q : Nat, s.heap.size ≤ q → A q := fun q h => by rw [← hAe]; exact Or.inr h
  have hS : va_S A s.heap s.heap [] := va_S.rf
  have hl := lv_entry ([.ref (ad o), .int l1, .int l2, .int l3]) (n := 5) (Nat.le_of_ble_eq_true rfl)
  rw [lg_entry_eq]
  generalize (lg_sl ([.ref (ad o), .int l1, .int l2, .int l3]) ++ List.replicate (5 - (lg_sl ([.ref (ad o), .int l1, .int l2, .int l3])).length) Slot.unset).toArray = ls at hl ⊢
  have hl : lv_has ls 5 [(0, .ref (ad o)), (1, .int l1), (2, .int l2), (3, .int l3)] := hl
  exact t_Rec_someRequired_e hx hb hml hown hT hK hN hA (Nat.le_refl 0) (Nat.le_refl 0) (Nat.le_refl 0) (Nat.le_refl 0) hNN hE (fun r x H locs pc ls hd hz hp hW hS => W.zret (v := r) (ty := .boolean) hx hb hr hz (fun t ht hM => ⟨⟨r, x, rfl, hp, Wd.back hW ht.symm (fun _ z => z)⟩, hS.F ht⟩) hS.2.2 hd hlocks)  o l1 l2 l3 x _ _ ls fo hw hW hS hl
end
