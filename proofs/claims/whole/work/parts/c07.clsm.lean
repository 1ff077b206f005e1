theorem fr_Rec_9 : F_Rec 9 = (R_Rec, "next", "[I", true) := rfl
theorem fr_Wrt_10 : F_Wrt 10 = (R_Wrt, "vals", "[J", true) := rfl
theorem fr_Wrt_11 : F_Wrt 11 = (R_Wrt, "entries", "I", false) := rfl
theorem fr_Wrt_12 : F_Wrt 12 = (R_Wrt, "values", "I", false) := rfl
theorem fr_Wrt_5 : F_Wrt 5 = (R_Wrt, "schema", "LStripedVault$Schema;", false) := rfl
theorem fr_Wrt_6 : F_Wrt 6 = (R_Wrt, "records", "LStripedVault$Records;", false) := rfl
theorem fr_Wrt_7 : F_Wrt 7 = (R_Wrt, "cursor", "[I", true) := rfl
theorem fr_Wrt_8 : F_Wrt 8 = (R_Wrt, "reps", "[I", true) := rfl
theorem fr_Wrt_9 : F_Wrt 9 = (R_Wrt, "defs", "[I", true) := rfl
theorem w_1_133 : (Jvm.Cond.fieldLink "StripedVault" (129 : Nat) "StripedVault$Schema" "fields" "I") ∈ TG := tw_1 133 (by decide +kernel) (by decide +kernel)
theorem w_1_146 : (Jvm.Cond.fieldLink "StripedVault$Writer" (105 : Nat) "StripedVault$Schema" "type" "[I") ∈ TG := tw_1 146 (by decide +kernel) (by decide +kernel)
theorem w_1_165 : (Jvm.Cond.fieldLink "StripedVault$Writer" (195 : Nat) "StripedVault$Schema" "def" "[I") ∈ TG := tw_1 165 (by decide +kernel) (by decide +kernel)
theorem w_1_182 : (Jvm.Cond.fieldLink "StripedVault$Writer" (139 : Nat) "StripedVault$Schema" "fieldOf" "[I") ∈ TG := tw_1 182 (by decide +kernel) (by decide +kernel)
theorem w_1_229 : (Jvm.Cond.fieldLink "StripedVault" (135 : Nat) "StripedVault$Records" "count" "I") ∈ TG := tw_1 229 (by decide +kernel) (by decide +kernel)
theorem w_1_235 : (Jvm.Cond.fieldLink "StripedVault$Writer" (182 : Nat) "StripedVault$Records" "rep" "[B") ∈ TG := tw_1 235 (by decide +kernel) (by decide +kernel)
theorem w_1_237 : (Jvm.Cond.fieldLink "StripedVault$Writer" (202 : Nat) "StripedVault$Records" "def" "[B") ∈ TG := tw_1 237 (by decide +kernel) (by decide +kernel)
theorem w_1_239 : (Jvm.Cond.fieldLink "StripedVault$Writer" (185 : Nat) "StripedVault$Records" "val" "[J") ∈ TG := tw_1 239 (by decide +kernel) (by decide +kernel)
theorem w_1_8 : (Jvm.Cond.initialized "StripedVault$Writer") ∈ TG := tw_1 8 (by decide +kernel) (by decide +kernel)
theorem w_1_91 : (Jvm.Cond.fieldLink "StripedVault$Records" (89 : Nat) "StripedVault$Scan" "place" "I") ∈ TG := tw_1 91 (by decide +kernel) (by decide +kernel)
theorem w_2_1 : (Jvm.Cond.fieldLink "StripedVault$Records" (25 : Nat) "StripedVault$Records" "next" "[I") ∈ TG := tw_2 1 (by decide +kernel) (by decide +kernel)
theorem w_2_2 : (Jvm.Cond.fieldLink "StripedVault$Writer" (192 : Nat) "StripedVault$Records" "next" "[I") ∈ TG := tw_2 2 (by decide +kernel) (by decide +kernel)
theorem w_2_56 : (Jvm.Cond.fieldLink "StripedVault$Writer" (62 : Nat) "StripedVault$Writer" "schema" "LStripedVault$Schema;") ∈ TG := tw_2 56 (by decide +kernel) (by decide +kernel)
theorem w_2_57 : (Jvm.Cond.fieldLink "StripedVault$Writer" (66 : Nat) "StripedVault$Writer" "records" "LStripedVault$Records;") ∈ TG := tw_2 57 (by decide +kernel) (by decide +kernel)
theorem w_2_58 : (Jvm.Cond.fieldLink "StripedVault$Writer" (33 : Nat) "StripedVault$Writer" "cursor" "[I") ∈ TG := tw_2 58 (by decide +kernel) (by decide +kernel)
theorem w_2_59 : (Jvm.Cond.fieldLink "StripedVault$Writer" (37 : Nat) "StripedVault$Writer" "reps" "[I") ∈ TG := tw_2 59 (by decide +kernel) (by decide +kernel)
theorem w_2_60 : (Jvm.Cond.fieldLink "StripedVault$Writer" (40 : Nat) "StripedVault$Writer" "defs" "[I") ∈ TG := tw_2 60 (by decide +kernel) (by decide +kernel)
theorem w_2_61 : (Jvm.Cond.fieldLink "StripedVault$Writer" (43 : Nat) "StripedVault$Writer" "vals" "[J") ∈ TG := tw_2 61 (by decide +kernel) (by decide +kernel)
theorem w_2_62 : (Jvm.Cond.fieldLink "StripedVault$Writer" (168 : Nat) "StripedVault$Writer" "entries" "I") ∈ TG := tw_2 62 (by decide +kernel) (by decide +kernel)
theorem w_2_63 : (Jvm.Cond.fieldLink "StripedVault$Writer" (154 : Nat) "StripedVault$Writer" "values" "I") ∈ TG := tw_2 63 (by decide +kernel) (by decide +kernel)
theorem w_5_110 : (Jvm.Cond.constant "StripedVault$Records" (92 : Nat) (60000 : Int32)) ∈ TG := tw_5 110 (by decide +kernel) (by decide +kernel)
theorem w_5_111 : (Jvm.Cond.methodLink "StripedVault$Records" (93 : Nat) ({ cls := "StripedVault$Records", name := "keep", desc := "()V" } : Jvm.MethodName)) ∈ TG := tw_5 111 (by decide +kernel) (by decide +kernel)
theorem w_5_113 : (Jvm.Cond.instanceMethod ({ cls := "StripedVault$Records", name := "keep", desc := "()V" } : Jvm.MethodName)) ∈ TG := tw_5 113 (by decide +kernel) (by decide +kernel)
theorem w_5_114 : (Jvm.Cond.code ({ cls := "StripedVault$Records", name := "keep", desc := "()V" } : Jvm.MethodName) prog_6_method_4_code (3 : Nat) (Option.none : Option Jvm.ClassFile.FieldType)) ∈ TG := tw_5 114 (by decide +kernel) (by decide +kernel)
theorem w_5_160 : (Jvm.Cond.static ({ cls := "StripedVault", name := "sizeOf", desc := "(J)I" } : Jvm.MethodName)) ∈ TG := tw_5 160 (by decide +kernel) (by decide +kernel)
theorem w_5_161 : (Jvm.Cond.code ({ cls := "StripedVault", name := "sizeOf", desc := "(J)I" } : Jvm.MethodName) prog_1_method_33_code (2 : Nat) (Option.some Jvm.ClassFile.FieldType.int)) ∈ TG := tw_5 161 (by decide +kernel) (by decide +kernel)
theorem w_5_162 : (Jvm.Cond.constantLong "StripedVault" (244 : Nat) (255 : Int64)) ∈ TG := tw_5 162 (by decide +kernel) (by decide +kernel)
theorem w_5_163 : (Jvm.Cond.methodLink "StripedVault$Writer" (198 : Nat) ({ cls := "StripedVault$Writer", name := "takeEntries", desc := "(III)V" } : Jvm.MethodName)) ∈ TG := tw_5 163 (by decide +kernel) (by decide +kernel)
theorem w_5_165 : (Jvm.Cond.instanceMethod ({ cls := "StripedVault$Writer", name := "takeEntries", desc := "(III)V" } : Jvm.MethodName)) ∈ TG := tw_5 165 (by decide +kernel) (by decide +kernel)
theorem w_5_166 : (Jvm.Cond.code ({ cls := "StripedVault$Writer", name := "takeEntries", desc := "(III)V" } : Jvm.MethodName) prog_12_method_9_code (6 : Nat) (Option.none : Option Jvm.ClassFile.FieldType)) ∈ TG := tw_5 166 (by decide +kernel) (by decide +kernel)
theorem w_5_19 : (Jvm.Cond.methodLink "StripedVault" (132 : Nat) ({ cls := "StripedVault$Records", name := "readText", desc := "(LStripedVault$Scan;LStripedVault$Schema;)I" } : Jvm.MethodName)) ∈ TG := tw_5 19 (by decide +kernel) (by decide +kernel)
theorem w_5_20 : (Jvm.Cond.instanceMethod ({ cls := "StripedVault$Records", name := "readText", desc := "(LStripedVault$Scan;LStripedVault$Schema;)I" } : Jvm.MethodName)) ∈ TG := tw_5 20 (by decide +kernel) (by decide +kernel)
theorem w_5_21 : (Jvm.Cond.selects "StripedVault$Records" ({ cls := "StripedVault$Records", name := "readText", desc := "(LStripedVault$Scan;LStripedVault$Schema;)I" } : Jvm.MethodName) ({ cls := "StripedVault$Records", name := "readText", desc := "(LStripedVault$Scan;LStripedVault$Schema;)I" } : Jvm.MethodName)) ∈ TG := tw_5 21 (by decide +kernel) (by decide +kernel)
theorem w_5_22 : (Jvm.Cond.code ({ cls := "StripedVault$Records", name := "readText", desc := "(LStripedVault$Scan;LStripedVault$Schema;)I" } : Jvm.MethodName) prog_6_method_3_code (3 : Nat) (Option.some Jvm.ClassFile.FieldType.int)) ∈ TG := tw_5 22 (by decide +kernel) (by decide +kernel)
theorem wn_5_159 : (Jvm.Cond.methodLinkNest "StripedVault$Writer" (188 : Nat) ({ cls := "StripedVault", name := "sizeOf", desc := "(J)I" } : Jvm.MethodName) "StripedVault") ∈ lw_tbl := tb_5 _ (List.mem_of_getElem? (i := 159) (by decide +kernel))
theorem ws_17 : Cond.selects R_Rec y_Rec_keep y_Rec_keep ∈ TG := tw_s 17 (by decide +kernel) (by decide +kernel)
theorem ws_19 : Cond.selects R_Wrt y_Wrt_takeEntries y_Wrt_takeEntries ∈ TG := tw_s 19 (by decide +kernel) (by decide +kernel)
theorem d_Rec_keep_59 : decode b_Rec_keep 59 = .ok (.aload_n 0, 1) := by decide +kernel
theorem d_Rec_keep_60 : decode b_Rec_keep 60 = .ok (.getfield 32, 3) := by decide +kernel
theorem d_Rec_keep_63 : decode b_Rec_keep 63 = .ok (.iload_n 2, 1) := by decide +kernel
theorem d_Rec_keep_64 : decode b_Rec_keep 64 = .ok (.iload_n 1, 1) := by decide +kernel
theorem d_Rec_keep_65 : decode b_Rec_keep 65 = .ok (.iastore, 1) := by decide +kernel
theorem d_Rec_keep_66 : decode b_Rec_keep 66 = .ok (.iinc 1 1, 3) := by decide +kernel
theorem d_Rec_keep_69 : decode b_Rec_keep 69 = .ok (.goto (-64), 3) := by decide +kernel
theorem d_Rec_keep_5 : decode b_Rec_keep 5 = .ok (.iload_n 1, 1) := by decide +kernel
theorem d_Rec_keep_6 : decode b_Rec_keep 6 = .ok (.aload_n 0, 1) := by decide +kernel
theorem d_Rec_keep_7 : decode b_Rec_keep 7 = .ok (.getfield 63, 3) := by decide +kernel
theorem d_Rec_keep_10 : decode b_Rec_keep 10 = .ok (.if_icmp .ge 62, 3) := by decide +kernel
theorem d_Rec_keep_72 : decode b_Rec_keep 72 = .ok (.aload_n 0, 1) := by decide +kernel
theorem d_Rec_keep_73 : decode b_Rec_keep 73 = .ok (.aload_n 0, 1) := by decide +kernel
theorem d_Rec_keep_74 : decode b_Rec_keep 74 = .ok (.getfield 63, 3) := by decide +kernel
theorem d_Rec_keep_77 : decode b_Rec_keep 77 = .ok (.putfield 49, 3) := by decide +kernel
theorem d_Rec_keep_80 : decode b_Rec_keep 80 = .ok (.aload_n 0, 1) := by decide +kernel
theorem d_Rec_keep_81 : decode b_Rec_keep 81 = .ok (.aload_n 0, 1) := by decide +kernel
theorem d_Rec_keep_82 : decode b_Rec_keep 82 = .ok (.getfield 66, 3) := by decide +kernel
theorem d_Rec_keep_85 : decode b_Rec_keep 85 = .ok (.putfield 52, 3) := by decide +kernel
theorem d_Rec_keep_88 : decode b_Rec_keep 88 = .ok (.aload_n 0, 1) := by decide +kernel
theorem d_Rec_keep_89 : decode b_Rec_keep 89 = .ok (.dup, 1) := by decide +kernel
theorem d_Rec_keep_90 : decode b_Rec_keep 90 = .ok (.getfield 45, 3) := by decide +kernel
theorem d_Rec_keep_93 : decode b_Rec_keep 93 = .ok (.iconst 1, 1) := by decide +kernel
theorem d_Rec_keep_94 : decode b_Rec_keep 94 = .ok (.iadd, 1) := by decide +kernel
theorem d_Rec_keep_95 : decode b_Rec_keep 95 = .ok (.putfield 45, 3) := by decide +kernel
theorem d_Rec_keep_98 : decode b_Rec_keep 98 = .ok (.return_, 1) := by decide +kernel
theorem d_Rec_keep_13 : decode b_Rec_keep 13 = .ok (.aload_n 0, 1) := by decide +kernel
theorem d_Rec_keep_14 : decode b_Rec_keep 14 = .ok (.getfield 22, 3) := by decide +kernel
theorem d_Rec_keep_17 : decode b_Rec_keep 17 = .ok (.iload_n 1, 1) := by decide +kernel
theorem d_Rec_keep_18 : decode b_Rec_keep 18 = .ok (.baload, 1) := by decide +kernel
theorem d_Rec_keep_19 : decode b_Rec_keep 19 = .ok (.istore_n 2, 1) := by decide +kernel
theorem d_Rec_keep_20 : decode b_Rec_keep 20 = .ok (.aload_n 0, 1) := by decide +kernel
theorem d_Rec_keep_21 : decode b_Rec_keep 21 = .ok (.getfield 25, 3) := by decide +kernel
theorem d_Rec_keep_24 : decode b_Rec_keep 24 = .ok (.iload_n 1, 1) := by decide +kernel
theorem d_Rec_keep_25 : decode b_Rec_keep 25 = .ok (.iconst (-1), 1) := by decide +kernel
theorem d_Rec_keep_26 : decode b_Rec_keep 26 = .ok (.iastore, 1) := by decide +kernel
theorem d_Rec_keep_27 : decode b_Rec_keep 27 = .ok (.aload_n 0, 1) := by decide +kernel
theorem d_Rec_keep_28 : decode b_Rec_keep 28 = .ok (.getfield 32, 3) := by decide +kernel
theorem d_Rec_keep_31 : decode b_Rec_keep 31 = .ok (.iload_n 2, 1) := by decide +kernel
theorem d_Rec_keep_32 : decode b_Rec_keep 32 = .ok (.iaload, 1) := by decide +kernel
theorem d_Rec_keep_33 : decode b_Rec_keep 33 = .ok (.iconst (-1), 1) := by decide +kernel
theorem d_Rec_keep_34 : decode b_Rec_keep 34 = .ok (.if_icmp .ne 13, 3) := by decide +kernel
theorem d_Rec_keep_47 : decode b_Rec_keep 47 = .ok (.aload_n 0, 1) := by decide +kernel
theorem d_Rec_keep_48 : decode b_Rec_keep 48 = .ok (.getfield 25, 3) := by decide +kernel
theorem d_Rec_keep_51 : decode b_Rec_keep 51 = .ok (.aload_n 0, 1) := by decide +kernel
theorem d_Rec_keep_52 : decode b_Rec_keep 52 = .ok (.getfield 32, 3) := by decide +kernel
theorem d_Rec_keep_55 : decode b_Rec_keep 55 = .ok (.iload_n 2, 1) := by decide +kernel
theorem d_Rec_keep_56 : decode b_Rec_keep 56 = .ok (.iaload, 1) := by decide +kernel
theorem d_Rec_keep_57 : decode b_Rec_keep 57 = .ok (.iload_n 1, 1) := by decide +kernel
theorem d_Rec_keep_58 : decode b_Rec_keep 58 = .ok (.iastore, 1) := by decide +kernel
theorem d_Rec_keep_37 : decode b_Rec_keep 37 = .ok (.aload_n 0, 1) := by decide +kernel
theorem d_Rec_keep_38 : decode b_Rec_keep 38 = .ok (.getfield 29, 3) := by decide +kernel
theorem d_Rec_keep_41 : decode b_Rec_keep 41 = .ok (.iload_n 2, 1) := by decide +kernel
theorem d_Rec_keep_42 : decode b_Rec_keep 42 = .ok (.iload_n 1, 1) := by decide +kernel
theorem d_Rec_keep_43 : decode b_Rec_keep 43 = .ok (.iastore, 1) := by decide +kernel
theorem d_Rec_keep_44 : decode b_Rec_keep 44 = .ok (.goto 15, 3) := by decide +kernel
theorem d_Rec_keep_0 : decode b_Rec_keep 0 = .ok (.aload_n 0, 1) := by decide +kernel
theorem d_Rec_keep_1 : decode b_Rec_keep 1 = .ok (.getfield 49, 3) := by decide +kernel
theorem d_Rec_keep_4 : decode b_Rec_keep 4 = .ok (.istore_n 1, 1) := by decide +kernel
theorem d_Rec_readText_115 : decode b_Rec_readText 115 = .ok (.bipush (-2), 2) := by decide +kernel
theorem d_Rec_readText_117 : decode b_Rec_readText 117 = .ok (.ireturn, 1) := by decide +kernel
theorem d_Rec_readText_68 : decode b_Rec_readText 68 = .ok (.aload_n 0, 1) := by decide +kernel
theorem d_Rec_readText_69 : decode b_Rec_readText 69 = .ok (.getfield 55, 3) := by decide +kernel
theorem d_Rec_readText_72 : decode b_Rec_readText 72 = .ok (.invokevirtual 73, 3) := by decide +kernel
theorem d_Rec_readText_75 : decode b_Rec_readText 75 = .ok (.ifCond .ne 11, 3) := by decide +kernel
theorem d_Rec_readText_86 : decode b_Rec_readText 86 = .ok (.aload_n 0, 1) := by decide +kernel
theorem d_Rec_readText_87 : decode b_Rec_readText 87 = .ok (.getfield 45, 3) := by decide +kernel
theorem d_Rec_readText_90 : decode b_Rec_readText 90 = .ok (.sipush 2000, 3) := by decide +kernel
theorem d_Rec_readText_93 : decode b_Rec_readText 93 = .ok (.if_icmp .ge 22, 3) := by decide +kernel
theorem d_Rec_readText_96 : decode b_Rec_readText 96 = .ok (.aload_n 0, 1) := by decide +kernel
theorem d_Rec_readText_97 : decode b_Rec_readText 97 = .ok (.getfield 63, 3) := by decide +kernel
theorem d_Rec_readText_100 : decode b_Rec_readText 100 = .ok (.sipush 10000, 3) := by decide +kernel
theorem d_Rec_readText_103 : decode b_Rec_readText 103 = .ok (.if_icmp .gt 12, 3) := by decide +kernel
theorem d_Rec_readText_106 : decode b_Rec_readText 106 = .ok (.aload_n 0, 1) := by decide +kernel
theorem d_Rec_readText_107 : decode b_Rec_readText 107 = .ok (.getfield 66, 3) := by decide +kernel
theorem d_Rec_readText_110 : decode b_Rec_readText 110 = .ok (.ldc 92, 2) := by decide +kernel
theorem d_Rec_readText_112 : decode b_Rec_readText 112 = .ok (.if_icmp .le 6, 3) := by decide +kernel
theorem d_Rec_readText_118 : decode b_Rec_readText 118 = .ok (.aload_n 0, 1) := by decide +kernel
theorem d_Rec_readText_119 : decode b_Rec_readText 119 = .ok (.invokevirtual 93, 3) := by decide +kernel
theorem d_Rec_readText_122 : decode b_Rec_readText 122 = .ok (.iconst (-1), 1) := by decide +kernel
theorem d_Rec_readText_123 : decode b_Rec_readText 123 = .ok (.ireturn, 1) := by decide +kernel
theorem d_Rec_readText_78 : decode b_Rec_readText 78 = .ok (.aload_n 0, 1) := by decide +kernel
theorem d_Rec_readText_79 : decode b_Rec_readText 79 = .ok (.getfield 55, 3) := by decide +kernel
theorem d_Rec_readText_82 : decode b_Rec_readText 82 = .ok (.getfield 89, 3) := by decide +kernel
theorem d_Rec_readText_85 : decode b_Rec_readText 85 = .ok (.ireturn, 1) := by decide +kernel
theorem d_Rec_readText_0 : decode b_Rec_readText 0 = .ok (.aload_n 0, 1) := by decide +kernel
theorem d_Rec_readText_1 : decode b_Rec_readText 1 = .ok (.aload_n 1, 1) := by decide +kernel
theorem d_Rec_readText_2 : decode b_Rec_readText 2 = .ok (.putfield 55, 3) := by decide +kernel
theorem d_Rec_readText_5 : decode b_Rec_readText 5 = .ok (.aload_n 0, 1) := by decide +kernel
theorem d_Rec_readText_6 : decode b_Rec_readText 6 = .ok (.aload_n 2, 1) := by decide +kernel
theorem d_Rec_readText_7 : decode b_Rec_readText 7 = .ok (.putfield 59, 3) := by decide +kernel
theorem d_Rec_readText_10 : decode b_Rec_readText 10 = .ok (.aload_n 0, 1) := by decide +kernel
theorem d_Rec_readText_11 : decode b_Rec_readText 11 = .ok (.aload_n 0, 1) := by decide +kernel
theorem d_Rec_readText_12 : decode b_Rec_readText 12 = .ok (.getfield 49, 3) := by decide +kernel
theorem d_Rec_readText_15 : decode b_Rec_readText 15 = .ok (.putfield 63, 3) := by decide +kernel
theorem d_Rec_readText_18 : decode b_Rec_readText 18 = .ok (.aload_n 0, 1) := by decide +kernel
theorem d_Rec_readText_19 : decode b_Rec_readText 19 = .ok (.aload_n 0, 1) := by decide +kernel
theorem d_Rec_readText_20 : decode b_Rec_readText 20 = .ok (.getfield 52, 3) := by decide +kernel
theorem d_Rec_readText_23 : decode b_Rec_readText 23 = .ok (.putfield 66, 3) := by decide +kernel
theorem d_Rec_readText_26 : decode b_Rec_readText 26 = .ok (.aload_n 0, 1) := by decide +kernel
theorem d_Rec_readText_27 : decode b_Rec_readText 27 = .ok (.iconst (-1), 1) := by decide +kernel
theorem d_Rec_readText_28 : decode b_Rec_readText 28 = .ok (.iconst 0, 1) := by decide +kernel
theorem d_Rec_readText_29 : decode b_Rec_readText 29 = .ok (.iconst 0, 1) := by decide +kernel
theorem d_Rec_readText_30 : decode b_Rec_readText 30 = .ok (.invokevirtual 69, 3) := by decide +kernel
theorem d_Rec_readText_33 : decode b_Rec_readText 33 = .ok (.aload_n 0, 1) := by decide +kernel
theorem d_Rec_readText_34 : decode b_Rec_readText 34 = .ok (.getfield 55, 3) := by decide +kernel
theorem d_Rec_readText_37 : decode b_Rec_readText 37 = .ok (.invokevirtual 73, 3) := by decide +kernel
theorem d_Rec_readText_40 : decode b_Rec_readText 40 = .ok (.ifCond .eq 28, 3) := by decide +kernel
theorem d_Rec_readText_43 : decode b_Rec_readText 43 = .ok (.aload_n 0, 1) := by decide +kernel
theorem d_Rec_readText_44 : decode b_Rec_readText 44 = .ok (.getfield 55, 3) := by decide +kernel
theorem d_Rec_readText_47 : decode b_Rec_readText 47 = .ok (.invokevirtual 79, 3) := by decide +kernel
theorem d_Rec_readText_50 : decode b_Rec_readText 50 = .ok (.iconst (-1), 1) := by decide +kernel
theorem d_Rec_readText_51 : decode b_Rec_readText 51 = .ok (.if_icmp .eq 17, 3) := by decide +kernel
theorem d_Rec_readText_54 : decode b_Rec_readText 54 = .ok (.aload_n 0, 1) := by decide +kernel
theorem d_Rec_readText_55 : decode b_Rec_readText 55 = .ok (.getfield 55, 3) := by decide +kernel
theorem d_Rec_readText_58 : decode b_Rec_readText 58 = .ok (.aload_n 0, 1) := by decide +kernel
theorem d_Rec_readText_59 : decode b_Rec_readText 59 = .ok (.getfield 55, 3) := by decide +kernel
theorem d_Rec_readText_62 : decode b_Rec_readText 62 = .ok (.getfield 82, 3) := by decide +kernel
theorem d_Rec_readText_65 : decode b_Rec_readText 65 = .ok (.invokevirtual 85, 3) := by decide +kernel
theorem d_V_record_0 : decode b_V_record 0 = .ok (.aload_n 0, 1) := by decide +kernel
theorem d_V_record_1 : decode b_V_record 1 = .ok (.invokevirtual 112, 3) := by decide +kernel
theorem d_V_record_4 : decode b_V_record 4 = .ok (.istore_n 1, 1) := by decide +kernel
theorem d_V_record_5 : decode b_V_record 5 = .ok (.aload_n 0, 1) := by decide +kernel
theorem d_V_record_6 : decode b_V_record 6 = .ok (.getfield 35, 3) := by decide +kernel
theorem d_V_record_9 : decode b_V_record 9 = .ok (.getfield 129, 3) := by decide +kernel
theorem d_V_record_12 : decode b_V_record 12 = .ok (.ifCond .ne 6, 3) := by decide +kernel
theorem d_V_record_18 : decode b_V_record 18 = .ok (.iload_n 1, 1) := by decide +kernel
theorem d_V_record_19 : decode b_V_record 19 = .ok (.sipush 4000, 3) := by decide +kernel
theorem d_V_record_22 : decode b_V_record 22 = .ok (.if_icmp .le 7, 3) := by decide +kernel
theorem d_V_record_29 : decode b_V_record 29 = .ok (.aload_n 0, 1) := by decide +kernel
theorem d_V_record_30 : decode b_V_record 30 = .ok (.getfield 28, 3) := by decide +kernel
theorem d_V_record_33 : decode b_V_record 33 = .ok (.aload_n 0, 1) := by decide +kernel
theorem d_V_record_34 : decode b_V_record 34 = .ok (.getfield 19, 3) := by decide +kernel
theorem d_V_record_37 : decode b_V_record 37 = .ok (.getfield 116, 3) := by decide +kernel
theorem d_V_record_40 : decode b_V_record 40 = .ok (.iload_n 1, 1) := by decide +kernel
theorem d_V_record_41 : decode b_V_record 41 = .ok (.invokevirtual 120, 3) := by decide +kernel
theorem d_V_record_44 : decode b_V_record 44 = .ok (.aload_n 0, 1) := by decide +kernel
theorem d_V_record_45 : decode b_V_record 45 = .ok (.getfield 45, 3) := by decide +kernel
theorem d_V_record_48 : decode b_V_record 48 = .ok (.aload_n 0, 1) := by decide +kernel
theorem d_V_record_49 : decode b_V_record 49 = .ok (.getfield 28, 3) := by decide +kernel
theorem d_V_record_52 : decode b_V_record 52 = .ok (.aload_n 0, 1) := by decide +kernel
theorem d_V_record_53 : decode b_V_record 53 = .ok (.getfield 35, 3) := by decide +kernel
theorem d_V_record_56 : decode b_V_record 56 = .ok (.invokevirtual 132, 3) := by decide +kernel
theorem d_V_record_59 : decode b_V_record 59 = .ok (.ireturn, 1) := by decide +kernel
theorem d_V_record_25 : decode b_V_record 25 = .ok (.sipush 4000, 3) := by decide +kernel
theorem d_V_record_28 : decode b_V_record 28 = .ok (.ireturn, 1) := by decide +kernel
theorem d_V_record_15 : decode b_V_record 15 = .ok (.bipush (-2), 2) := by decide +kernel
theorem d_V_record_17 : decode b_V_record 17 = .ok (.ireturn, 1) := by decide +kernel
theorem d_V_records_0 : decode b_V_records 0 = .ok (.aload_n 0, 1) := by decide +kernel
theorem d_V_records_1 : decode b_V_records 1 = .ok (.getfield 45, 3) := by decide +kernel
theorem d_V_records_4 : decode b_V_records 4 = .ok (.getfield 135, 3) := by decide +kernel
theorem d_V_records_7 : decode b_V_records 7 = .ok (.ireturn, 1) := by decide +kernel
theorem d_V_clear_0 : decode b_V_clear 0 = .ok (.aload_n 0, 1) := by decide +kernel
theorem d_V_clear_1 : decode b_V_clear 1 = .ok (.getfield 45, 3) := by decide +kernel
theorem d_V_clear_4 : decode b_V_clear 4 = .ok (.invokevirtual 128, 3) := by decide +kernel
theorem d_V_clear_7 : decode b_V_clear 7 = .ok (.return_, 1) := by decide +kernel
theorem d_V_sizeOf_0 : decode b_V_sizeOf 0 = .ok (.lload_n 0, 1) := by decide +kernel
theorem d_V_sizeOf_1 : decode b_V_sizeOf 1 = .ok (.ldc2_w 244, 3) := by decide +kernel
theorem d_V_sizeOf_4 : decode b_V_sizeOf 4 = .ok (.land, 1) := by decide +kernel
theorem d_V_sizeOf_5 : decode b_V_sizeOf 5 = .ok (.l2i, 1) := by decide +kernel
theorem d_V_sizeOf_6 : decode b_V_sizeOf 6 = .ok (.ireturn, 1) := by decide +kernel
theorem d_Wrt_takeEntries_142 : decode b_Wrt_takeEntries 142 = .ok (.aload_n 0, 1) := by decide +kernel
theorem d_Wrt_takeEntries_143 : decode b_Wrt_takeEntries 143 = .ok (.getfield 33, 3) := by decide +kernel
theorem d_Wrt_takeEntries_146 : decode b_Wrt_takeEntries 146 = .ok (.iload_n 1, 1) := by decide +kernel
theorem d_Wrt_takeEntries_147 : decode b_Wrt_takeEntries 147 = .ok (.iload 4, 2) := by decide +kernel
theorem d_Wrt_takeEntries_149 : decode b_Wrt_takeEntries 149 = .ok (.iastore, 1) := by decide +kernel
theorem d_Wrt_takeEntries_150 : decode b_Wrt_takeEntries 150 = .ok (.return_, 1) := by decide +kernel
theorem d_Wrt_takeEntries_124 : decode b_Wrt_takeEntries 124 = .ok (.aload_n 0, 1) := by decide +kernel
theorem d_Wrt_takeEntries_125 : decode b_Wrt_takeEntries 125 = .ok (.getfield 66, 3) := by decide +kernel
theorem d_Wrt_takeEntries_128 : decode b_Wrt_takeEntries 128 = .ok (.getfield 192, 3) := by decide +kernel
theorem d_Wrt_takeEntries_131 : decode b_Wrt_takeEntries 131 = .ok (.iload 4, 2) := by decide +kernel
theorem d_Wrt_takeEntries_133 : decode b_Wrt_takeEntries 133 = .ok (.iaload, 1) := by decide +kernel
theorem d_Wrt_takeEntries_134 : decode b_Wrt_takeEntries 134 = .ok (.istore 4, 2) := by decide +kernel
theorem d_Wrt_takeEntries_136 : decode b_Wrt_takeEntries 136 = .ok (.iinc 5 1, 3) := by decide +kernel
theorem d_Wrt_takeEntries_139 : decode b_Wrt_takeEntries 139 = .ok (.goto (-128), 3) := by decide +kernel
theorem d_Wrt_takeEntries_11 : decode b_Wrt_takeEntries 11 = .ok (.iload 5, 2) := by decide +kernel
theorem d_Wrt_takeEntries_13 : decode b_Wrt_takeEntries 13 = .ok (.iload_n 2, 1) := by decide +kernel
theorem d_Wrt_takeEntries_14 : decode b_Wrt_takeEntries 14 = .ok (.if_icmp .ge 128, 3) := by decide +kernel
theorem d_Wrt_takeEntries_17 : decode b_Wrt_takeEntries 17 = .ok (.iload 4, 2) := by decide +kernel
theorem d_Wrt_takeEntries_19 : decode b_Wrt_takeEntries 19 = .ok (.iconst (-1), 1) := by decide +kernel
theorem d_Wrt_takeEntries_20 : decode b_Wrt_takeEntries 20 = .ok (.if_icmp .eq 122, 3) := by decide +kernel
theorem d_Wrt_takeEntries_23 : decode b_Wrt_takeEntries 23 = .ok (.aload_n 0, 1) := by decide +kernel
theorem d_Wrt_takeEntries_24 : decode b_Wrt_takeEntries 24 = .ok (.getfield 168, 3) := by decide +kernel
theorem d_Wrt_takeEntries_27 : decode b_Wrt_takeEntries 27 = .ok (.sipush 1000, 3) := by decide +kernel
theorem d_Wrt_takeEntries_30 : decode b_Wrt_takeEntries 30 = .ok (.if_icmp .ge 112, 3) := by decide +kernel
theorem d_Wrt_takeEntries_33 : decode b_Wrt_takeEntries 33 = .ok (.aload_n 0, 1) := by decide +kernel
theorem d_Wrt_takeEntries_34 : decode b_Wrt_takeEntries 34 = .ok (.getfield 37, 3) := by decide +kernel
theorem d_Wrt_takeEntries_37 : decode b_Wrt_takeEntries 37 = .ok (.aload_n 0, 1) := by decide +kernel
theorem d_Wrt_takeEntries_38 : decode b_Wrt_takeEntries 38 = .ok (.getfield 168, 3) := by decide +kernel
theorem d_Wrt_takeEntries_41 : decode b_Wrt_takeEntries 41 = .ok (.aload_n 0, 1) := by decide +kernel
theorem d_Wrt_takeEntries_42 : decode b_Wrt_takeEntries 42 = .ok (.getfield 66, 3) := by decide +kernel
theorem d_Wrt_takeEntries_45 : decode b_Wrt_takeEntries 45 = .ok (.getfield 182, 3) := by decide +kernel
theorem d_Wrt_takeEntries_48 : decode b_Wrt_takeEntries 48 = .ok (.iload 4, 2) := by decide +kernel
theorem d_Wrt_takeEntries_50 : decode b_Wrt_takeEntries 50 = .ok (.baload, 1) := by decide +kernel
theorem d_Wrt_takeEntries_51 : decode b_Wrt_takeEntries 51 = .ok (.iastore, 1) := by decide +kernel
theorem d_Wrt_takeEntries_52 : decode b_Wrt_takeEntries 52 = .ok (.aload_n 0, 1) := by decide +kernel
theorem d_Wrt_takeEntries_53 : decode b_Wrt_takeEntries 53 = .ok (.getfield 40, 3) := by decide +kernel
theorem d_Wrt_takeEntries_56 : decode b_Wrt_takeEntries 56 = .ok (.aload_n 0, 1) := by decide +kernel
theorem d_Wrt_takeEntries_57 : decode b_Wrt_takeEntries 57 = .ok (.getfield 168, 3) := by decide +kernel
theorem d_Wrt_takeEntries_60 : decode b_Wrt_takeEntries 60 = .ok (.aload_n 0, 1) := by decide +kernel
theorem d_Wrt_takeEntries_61 : decode b_Wrt_takeEntries 61 = .ok (.getfield 66, 3) := by decide +kernel
theorem d_Wrt_takeEntries_64 : decode b_Wrt_takeEntries 64 = .ok (.getfield 202, 3) := by decide +kernel
theorem d_Wrt_takeEntries_67 : decode b_Wrt_takeEntries 67 = .ok (.iload 4, 2) := by decide +kernel
theorem d_Wrt_takeEntries_69 : decode b_Wrt_takeEntries 69 = .ok (.baload, 1) := by decide +kernel
theorem d_Wrt_takeEntries_70 : decode b_Wrt_takeEntries 70 = .ok (.iastore, 1) := by decide +kernel
theorem d_Wrt_takeEntries_71 : decode b_Wrt_takeEntries 71 = .ok (.aload_n 0, 1) := by decide +kernel
theorem d_Wrt_takeEntries_72 : decode b_Wrt_takeEntries 72 = .ok (.dup, 1) := by decide +kernel
theorem d_Wrt_takeEntries_73 : decode b_Wrt_takeEntries 73 = .ok (.getfield 168, 3) := by decide +kernel
theorem d_Wrt_takeEntries_76 : decode b_Wrt_takeEntries 76 = .ok (.iconst 1, 1) := by decide +kernel
theorem d_Wrt_takeEntries_77 : decode b_Wrt_takeEntries 77 = .ok (.iadd, 1) := by decide +kernel
theorem d_Wrt_takeEntries_78 : decode b_Wrt_takeEntries 78 = .ok (.putfield 168, 3) := by decide +kernel
theorem d_Wrt_takeEntries_81 : decode b_Wrt_takeEntries 81 = .ok (.aload_n 0, 1) := by decide +kernel
theorem d_Wrt_takeEntries_82 : decode b_Wrt_takeEntries 82 = .ok (.getfield 66, 3) := by decide +kernel
theorem d_Wrt_takeEntries_85 : decode b_Wrt_takeEntries 85 = .ok (.getfield 202, 3) := by decide +kernel
theorem d_Wrt_takeEntries_88 : decode b_Wrt_takeEntries 88 = .ok (.iload 4, 2) := by decide +kernel
theorem d_Wrt_takeEntries_90 : decode b_Wrt_takeEntries 90 = .ok (.baload, 1) := by decide +kernel
theorem d_Wrt_takeEntries_91 : decode b_Wrt_takeEntries 91 = .ok (.iload_n 3, 1) := by decide +kernel
theorem d_Wrt_takeEntries_92 : decode b_Wrt_takeEntries 92 = .ok (.if_icmp .ne 32, 3) := by decide +kernel
theorem d_Wrt_takeEntries_95 : decode b_Wrt_takeEntries 95 = .ok (.aload_n 0, 1) := by decide +kernel
theorem d_Wrt_takeEntries_96 : decode b_Wrt_takeEntries 96 = .ok (.getfield 43, 3) := by decide +kernel
theorem d_Wrt_takeEntries_99 : decode b_Wrt_takeEntries 99 = .ok (.aload_n 0, 1) := by decide +kernel
theorem d_Wrt_takeEntries_100 : decode b_Wrt_takeEntries 100 = .ok (.getfield 154, 3) := by decide +kernel
theorem d_Wrt_takeEntries_103 : decode b_Wrt_takeEntries 103 = .ok (.aload_n 0, 1) := by decide +kernel
theorem d_Wrt_takeEntries_104 : decode b_Wrt_takeEntries 104 = .ok (.getfield 66, 3) := by decide +kernel
theorem d_Wrt_takeEntries_107 : decode b_Wrt_takeEntries 107 = .ok (.getfield 185, 3) := by decide +kernel
theorem d_Wrt_takeEntries_110 : decode b_Wrt_takeEntries 110 = .ok (.iload 4, 2) := by decide +kernel
theorem d_Wrt_takeEntries_112 : decode b_Wrt_takeEntries 112 = .ok (.laload, 1) := by decide +kernel
theorem d_Wrt_takeEntries_113 : decode b_Wrt_takeEntries 113 = .ok (.lastore, 1) := by decide +kernel
theorem d_Wrt_takeEntries_114 : decode b_Wrt_takeEntries 114 = .ok (.aload_n 0, 1) := by decide +kernel
theorem d_Wrt_takeEntries_115 : decode b_Wrt_takeEntries 115 = .ok (.dup, 1) := by decide +kernel
theorem d_Wrt_takeEntries_116 : decode b_Wrt_takeEntries 116 = .ok (.getfield 154, 3) := by decide +kernel
theorem d_Wrt_takeEntries_119 : decode b_Wrt_takeEntries 119 = .ok (.iconst 1, 1) := by decide +kernel
theorem d_Wrt_takeEntries_120 : decode b_Wrt_takeEntries 120 = .ok (.iadd, 1) := by decide +kernel
theorem d_Wrt_takeEntries_121 : decode b_Wrt_takeEntries 121 = .ok (.putfield 154, 3) := by decide +kernel
theorem d_Wrt_takeEntries_0 : decode b_Wrt_takeEntries 0 = .ok (.aload_n 0, 1) := by decide +kernel
theorem d_Wrt_takeEntries_1 : decode b_Wrt_takeEntries 1 = .ok (.getfield 33, 3) := by decide +kernel
theorem d_Wrt_takeEntries_4 : decode b_Wrt_takeEntries 4 = .ok (.iload_n 1, 1) := by decide +kernel
theorem d_Wrt_takeEntries_5 : decode b_Wrt_takeEntries 5 = .ok (.iaload, 1) := by decide +kernel
theorem d_Wrt_takeEntries_6 : decode b_Wrt_takeEntries 6 = .ok (.istore 4, 2) := by decide +kernel
theorem d_Wrt_takeEntries_8 : decode b_Wrt_takeEntries 8 = .ok (.iconst 0, 1) := by decide +kernel
theorem d_Wrt_takeEntries_9 : decode b_Wrt_takeEntries 9 = .ok (.istore 5, 2) := by decide +kernel
theorem d_Wrt_fillPage_200 : decode b_Wrt_fillPage 200 = .ok (.aload_n 0, 1) := by decide +kernel
theorem d_Wrt_fillPage_201 : decode b_Wrt_fillPage 201 = .ok (.iload_n 1, 1) := by decide +kernel
theorem d_Wrt_fillPage_202 : decode b_Wrt_fillPage 202 = .ok (.iload 8, 2) := by decide +kernel
theorem d_Wrt_fillPage_204 : decode b_Wrt_fillPage 204 = .ok (.aload_n 0, 1) := by decide +kernel
theorem d_Wrt_fillPage_205 : decode b_Wrt_fillPage 205 = .ok (.getfield 62, 3) := by decide +kernel
theorem d_Wrt_fillPage_208 : decode b_Wrt_fillPage 208 = .ok (.getfield 195, 3) := by decide +kernel
theorem d_Wrt_fillPage_211 : decode b_Wrt_fillPage 211 = .ok (.iload 4, 2) := by decide +kernel
theorem d_Wrt_fillPage_213 : decode b_Wrt_fillPage 213 = .ok (.iaload, 1) := by decide +kernel
theorem d_Wrt_fillPage_214 : decode b_Wrt_fillPage 214 = .ok (.invokevirtual 198, 3) := by decide +kernel
theorem d_Wrt_fillPage_217 : decode b_Wrt_fillPage 217 = .ok (.iload 6, 2) := by decide +kernel
theorem d_Wrt_fillPage_219 : decode b_Wrt_fillPage 219 = .ok (.iload 9, 2) := by decide +kernel
theorem d_Wrt_fillPage_221 : decode b_Wrt_fillPage 221 = .ok (.iadd, 1) := by decide +kernel
theorem d_Wrt_fillPage_222 : decode b_Wrt_fillPage 222 = .ok (.istore 6, 2) := by decide +kernel
theorem d_Wrt_fillPage_224 : decode b_Wrt_fillPage 224 = .ok (.iinc 7 1, 3) := by decide +kernel
theorem d_Wrt_fillPage_227 : decode b_Wrt_fillPage 227 = .ok (.goto (-179), 3) := by decide +kernel
theorem d_Wrt_fillPage_197 : decode b_Wrt_fillPage 197 = .ok (.iload 7, 2) := by decide +kernel
theorem d_Wrt_fillPage_199 : decode b_Wrt_fillPage 199 = .ok (.ireturn, 1) := by decide +kernel
theorem d_Wrt_fillPage_172 : decode b_Wrt_fillPage 172 = .ok (.istore 11, 2) := by decide +kernel
theorem d_Wrt_fillPage_174 : decode b_Wrt_fillPage 174 = .ok (.iload 8, 2) := by decide +kernel
theorem d_Wrt_fillPage_176 : decode b_Wrt_fillPage 176 = .ok (.ifCond .eq 21, 3) := by decide +kernel
theorem d_Wrt_fillPage_179 : decode b_Wrt_fillPage 179 = .ok (.iload 8, 2) := by decide +kernel
theorem d_Wrt_fillPage_181 : decode b_Wrt_fillPage 181 = .ok (.sipush 1000, 3) := by decide +kernel
theorem d_Wrt_fillPage_184 : decode b_Wrt_fillPage 184 = .ok (.if_icmp .gt 13, 3) := by decide +kernel
theorem d_Wrt_fillPage_187 : decode b_Wrt_fillPage 187 = .ok (.iload 7, 2) := by decide +kernel
theorem d_Wrt_fillPage_189 : decode b_Wrt_fillPage 189 = .ok (.ifCond .le 11, 3) := by decide +kernel
theorem d_Wrt_fillPage_192 : decode b_Wrt_fillPage 192 = .ok (.iload 11, 2) := by decide +kernel
theorem d_Wrt_fillPage_194 : decode b_Wrt_fillPage 194 = .ok (.ifCond .eq 6, 3) := by decide +kernel
theorem d_Wrt_fillPage_167 : decode b_Wrt_fillPage 167 = .ok (.iconst 1, 1) := by decide +kernel
theorem d_Wrt_fillPage_168 : decode b_Wrt_fillPage 168 = .ok (.goto 4, 3) := by decide +kernel
theorem d_Wrt_fillPage_145 : decode b_Wrt_fillPage 145 = .ok (.aload_n 0, 1) := by decide +kernel
theorem d_Wrt_fillPage_146 : decode b_Wrt_fillPage 146 = .ok (.getfield 168, 3) := by decide +kernel
theorem d_Wrt_fillPage_149 : decode b_Wrt_fillPage 149 = .ok (.iload 8, 2) := by decide +kernel
theorem d_Wrt_fillPage_151 : decode b_Wrt_fillPage 151 = .ok (.iadd, 1) := by decide +kernel
theorem d_Wrt_fillPage_152 : decode b_Wrt_fillPage 152 = .ok (.iload_n 3, 1) := by decide +kernel
theorem d_Wrt_fillPage_153 : decode b_Wrt_fillPage 153 = .ok (.if_icmp .gt 14, 3) := by decide +kernel
theorem d_Wrt_fillPage_156 : decode b_Wrt_fillPage 156 = .ok (.iload 6, 2) := by decide +kernel
theorem d_Wrt_fillPage_158 : decode b_Wrt_fillPage 158 = .ok (.iload 9, 2) := by decide +kernel
theorem d_Wrt_fillPage_160 : decode b_Wrt_fillPage 160 = .ok (.iadd, 1) := by decide +kernel
theorem d_Wrt_fillPage_161 : decode b_Wrt_fillPage 161 = .ok (.sipush 20000, 3) := by decide +kernel
theorem d_Wrt_fillPage_164 : decode b_Wrt_fillPage 164 = .ok (.if_icmp .le 7, 3) := by decide +kernel
theorem d_Wrt_fillPage_171 : decode b_Wrt_fillPage 171 = .ok (.iconst 0, 1) := by decide +kernel
theorem d_Wrt_fillPage_124 : decode b_Wrt_fillPage 124 = .ok (.iadd, 1) := by decide +kernel
theorem d_Wrt_fillPage_125 : decode b_Wrt_fillPage 125 = .ok (.istore 9, 2) := by decide +kernel
theorem d_Wrt_fillPage_127 : decode b_Wrt_fillPage 127 = .ok (.aload_n 0, 1) := by decide +kernel
theorem d_Wrt_fillPage_128 : decode b_Wrt_fillPage 128 = .ok (.getfield 66, 3) := by decide +kernel
theorem d_Wrt_fillPage_131 : decode b_Wrt_fillPage 131 = .ok (.getfield 192, 3) := by decide +kernel
theorem d_Wrt_fillPage_134 : decode b_Wrt_fillPage 134 = .ok (.iload 10, 2) := by decide +kernel
theorem d_Wrt_fillPage_136 : decode b_Wrt_fillPage 136 = .ok (.iaload, 1) := by decide +kernel
theorem d_Wrt_fillPage_137 : decode b_Wrt_fillPage 137 = .ok (.istore 10, 2) := by decide +kernel
theorem d_Wrt_fillPage_139 : decode b_Wrt_fillPage 139 = .ok (.iinc 8 1, 3) := by decide +kernel
theorem d_Wrt_fillPage_142 : decode b_Wrt_fillPage 142 = .ok (.goto (-74), 3) := by decide +kernel
theorem d_Wrt_fillPage_100 : decode b_Wrt_fillPage 100 = .ok (.iload 9, 2) := by decide +kernel
theorem d_Wrt_fillPage_102 : decode b_Wrt_fillPage 102 = .ok (.iload 5, 2) := by decide +kernel
theorem d_Wrt_fillPage_104 : decode b_Wrt_fillPage 104 = .ok (.ifCond .eq 19, 3) := by decide +kernel
theorem d_Wrt_fillPage_123 : decode b_Wrt_fillPage 123 = .ok (.iconst 0, 1) := by decide +kernel
theorem d_Wrt_fillPage_107 : decode b_Wrt_fillPage 107 = .ok (.aload_n 0, 1) := by decide +kernel
theorem d_Wrt_fillPage_108 : decode b_Wrt_fillPage 108 = .ok (.getfield 66, 3) := by decide +kernel
theorem d_Wrt_fillPage_111 : decode b_Wrt_fillPage 111 = .ok (.getfield 185, 3) := by decide +kernel
theorem d_Wrt_fillPage_114 : decode b_Wrt_fillPage 114 = .ok (.iload 10, 2) := by decide +kernel
theorem d_Wrt_fillPage_116 : decode b_Wrt_fillPage 116 = .ok (.laload, 1) := by decide +kernel
theorem d_Wrt_fillPage_117 : decode b_Wrt_fillPage 117 = .ok (.invokestatic 188, 3) := by decide +kernel
theorem d_Wrt_fillPage_120 : decode b_Wrt_fillPage 120 = .ok (.goto 4, 3) := by decide +kernel
theorem d_Wrt_fillPage_68 : decode b_Wrt_fillPage 68 = .ok (.iload 10, 2) := by decide +kernel
theorem d_Wrt_fillPage_70 : decode b_Wrt_fillPage 70 = .ok (.iconst (-1), 1) := by decide +kernel
theorem d_Wrt_fillPage_71 : decode b_Wrt_fillPage 71 = .ok (.if_icmp .eq 74, 3) := by decide +kernel
theorem d_Wrt_fillPage_74 : decode b_Wrt_fillPage 74 = .ok (.iload 8, 2) := by decide +kernel
theorem d_Wrt_fillPage_76 : decode b_Wrt_fillPage 76 = .ok (.sipush 1000, 3) := by decide +kernel
theorem d_Wrt_fillPage_79 : decode b_Wrt_fillPage 79 = .ok (.if_icmp .gt 66, 3) := by decide +kernel
theorem d_Wrt_fillPage_82 : decode b_Wrt_fillPage 82 = .ok (.iload 8, 2) := by decide +kernel
theorem d_Wrt_fillPage_84 : decode b_Wrt_fillPage 84 = .ok (.ifCond .eq 16, 3) := by decide +kernel
theorem d_Wrt_fillPage_87 : decode b_Wrt_fillPage 87 = .ok (.aload_n 0, 1) := by decide +kernel
theorem d_Wrt_fillPage_88 : decode b_Wrt_fillPage 88 = .ok (.getfield 66, 3) := by decide +kernel
theorem d_Wrt_fillPage_91 : decode b_Wrt_fillPage 91 = .ok (.getfield 182, 3) := by decide +kernel
theorem d_Wrt_fillPage_94 : decode b_Wrt_fillPage 94 = .ok (.iload 10, 2) := by decide +kernel
theorem d_Wrt_fillPage_96 : decode b_Wrt_fillPage 96 = .ok (.baload, 1) := by decide +kernel
theorem d_Wrt_fillPage_97 : decode b_Wrt_fillPage 97 = .ok (.ifCond .eq 48, 3) := by decide +kernel
theorem d_Wrt_fillPage_48 : decode b_Wrt_fillPage 48 = .ok (.iload 7, 2) := by decide +kernel
theorem d_Wrt_fillPage_50 : decode b_Wrt_fillPage 50 = .ok (.iload_n 2, 1) := by decide +kernel
theorem d_Wrt_fillPage_51 : decode b_Wrt_fillPage 51 = .ok (.if_icmp .ge 179, 3) := by decide +kernel
theorem d_Wrt_fillPage_230 : decode b_Wrt_fillPage 230 = .ok (.iload 7, 2) := by decide +kernel
theorem d_Wrt_fillPage_232 : decode b_Wrt_fillPage 232 = .ok (.ireturn, 1) := by decide +kernel
theorem d_Wrt_fillPage_54 : decode b_Wrt_fillPage 54 = .ok (.iconst 0, 1) := by decide +kernel
theorem d_Wrt_fillPage_55 : decode b_Wrt_fillPage 55 = .ok (.istore 8, 2) := by decide +kernel
theorem d_Wrt_fillPage_57 : decode b_Wrt_fillPage 57 = .ok (.iconst 0, 1) := by decide +kernel
theorem d_Wrt_fillPage_58 : decode b_Wrt_fillPage 58 = .ok (.istore 9, 2) := by decide +kernel
theorem d_Wrt_fillPage_60 : decode b_Wrt_fillPage 60 = .ok (.aload_n 0, 1) := by decide +kernel
theorem d_Wrt_fillPage_61 : decode b_Wrt_fillPage 61 = .ok (.getfield 33, 3) := by decide +kernel
theorem d_Wrt_fillPage_64 : decode b_Wrt_fillPage 64 = .ok (.iload_n 1, 1) := by decide +kernel
theorem d_Wrt_fillPage_65 : decode b_Wrt_fillPage 65 = .ok (.iaload, 1) := by decide +kernel
theorem d_Wrt_fillPage_66 : decode b_Wrt_fillPage 66 = .ok (.istore 10, 2) := by decide +kernel
theorem d_Wrt_fillPage_30 : decode b_Wrt_fillPage 30 = .ok (.istore 5, 2) := by decide +kernel
theorem d_Wrt_fillPage_32 : decode b_Wrt_fillPage 32 = .ok (.aload_n 0, 1) := by decide +kernel
theorem d_Wrt_fillPage_33 : decode b_Wrt_fillPage 33 = .ok (.iconst 0, 1) := by decide +kernel
theorem d_Wrt_fillPage_34 : decode b_Wrt_fillPage 34 = .ok (.putfield 168, 3) := by decide +kernel
theorem d_Wrt_fillPage_37 : decode b_Wrt_fillPage 37 = .ok (.aload_n 0, 1) := by decide +kernel
theorem d_Wrt_fillPage_38 : decode b_Wrt_fillPage 38 = .ok (.iconst 0, 1) := by decide +kernel
theorem d_Wrt_fillPage_39 : decode b_Wrt_fillPage 39 = .ok (.putfield 154, 3) := by decide +kernel
theorem d_Wrt_fillPage_42 : decode b_Wrt_fillPage 42 = .ok (.iconst 0, 1) := by decide +kernel
theorem d_Wrt_fillPage_43 : decode b_Wrt_fillPage 43 = .ok (.istore 6, 2) := by decide +kernel
theorem d_Wrt_fillPage_45 : decode b_Wrt_fillPage 45 = .ok (.iconst 0, 1) := by decide +kernel
theorem d_Wrt_fillPage_46 : decode b_Wrt_fillPage 46 = .ok (.istore 7, 2) := by decide +kernel
theorem d_Wrt_fillPage_0 : decode b_Wrt_fillPage 0 = .ok (.aload_n 0, 1) := by decide +kernel
theorem d_Wrt_fillPage_1 : decode b_Wrt_fillPage 1 = .ok (.getfield 62, 3) := by decide +kernel
theorem d_Wrt_fillPage_4 : decode b_Wrt_fillPage 4 = .ok (.getfield 139, 3) := by decide +kernel
theorem d_Wrt_fillPage_7 : decode b_Wrt_fillPage 7 = .ok (.iload_n 1, 1) := by decide +kernel
theorem d_Wrt_fillPage_8 : decode b_Wrt_fillPage 8 = .ok (.iaload, 1) := by decide +kernel
theorem d_Wrt_fillPage_9 : decode b_Wrt_fillPage 9 = .ok (.istore 4, 2) := by decide +kernel
theorem d_Wrt_fillPage_11 : decode b_Wrt_fillPage 11 = .ok (.aload_n 0, 1) := by decide +kernel
theorem d_Wrt_fillPage_12 : decode b_Wrt_fillPage 12 = .ok (.getfield 62, 3) := by decide +kernel
theorem d_Wrt_fillPage_15 : decode b_Wrt_fillPage 15 = .ok (.getfield 105, 3) := by decide +kernel
theorem d_Wrt_fillPage_18 : decode b_Wrt_fillPage 18 = .ok (.iload 4, 2) := by decide +kernel
theorem d_Wrt_fillPage_20 : decode b_Wrt_fillPage 20 = .ok (.iaload, 1) := by decide +kernel
theorem d_Wrt_fillPage_21 : decode b_Wrt_fillPage 21 = .ok (.iconst 3, 1) := by decide +kernel
theorem d_Wrt_fillPage_22 : decode b_Wrt_fillPage 22 = .ok (.if_icmp .ne 7, 3) := by decide +kernel
theorem d_Wrt_fillPage_29 : decode b_Wrt_fillPage 29 = .ok (.iconst 0, 1) := by decide +kernel
theorem d_Wrt_fillPage_25 : decode b_Wrt_fillPage 25 = .ok (.iconst 1, 1) := by decide +kernel
theorem d_Wrt_fillPage_26 : decode b_Wrt_fillPage 26 = .ok (.goto 4, 3) := by decide +kernel
section
variable (l : Launch) (dC : Nat → ClassId) (dI : Nat → Nat → Nat) (cI cB cJ cZ : ClassId)
set_option maxRecDepth 100000 in
def j_Rec_keep_59 (post : St → Prop) (rec5 : Nat → Int32 → St → Prop) (o : Nat) (l1 : Int32) (l2 : Int32) (x : St) : Prop := (vp_in l2 (fN x (stC o 11)) ∧ ∀ x3225 : St, x3225 = setA x (stC o 11) l2 l1 → rec5 o (l1 + 1) x3225)
set_option maxHeartbeats 4000000 in
set_option maxRecDepth 100000 in
theorem t_Rec_keep_59 {p : Program} {l : Launch} {e : Env} {R : Room} {s : State} {m : MethodId} {args : Array Value} {below : List Frame} {meth : Method} {c : Code} {cells slots : Nat} {Q : State → Prop} {dC : Nat → ClassId} {dI : Nat → Nat → Nat} {cI cB cJ cZ : ClassId} {A : Nat → Prop} {ad : Nat → Nat} {NN : Nat} {E : Heap} {tM tC : Nat} {kK kV : Nat → Nat} {post : St → Prop} {rec5 : Nat → Int32 → St → Prop} (hx : p.tables.exec = Jvm.exec) (hb : c.code = b_Rec_keep) (hml : c.maxLocals = 3) (hown : s.vm.findClass R_Rec = some m.cls) (hT : ∀ w ∈ TG, w.before args s = true) (hK : va_K (dC, dI) CL (TY cI cB cJ cZ) s) (hN : NW s) (hA : ∀ q : Nat, s.heap.size ≤ q → A q) (hRc : cells ≤ R.cells) (hRs : slots ≤ R.slots) (hRf : 0 ≤ R.frames) (hRl : 0 ≤ R.locals) (hNN : 152 ≤ NN) (hE : CE E tM tC kK kV A s) (hret : ∀ (x : St) (H : Heap) (locs : List Loc) (pc : Nat) (ls : Array Slot), decode b_Rec_keep pc = .ok (.return_, 1) → post x → Wd dC dI cI cB cJ cZ ad stC kcC NN A x H → va_S A s.heap H locs → W p l e R s m args below meth c H locs cells slots Q (F0 m pc ls [])) (hrec5 : ∀ (o : Nat) (l1 : Int32) (x : St) (H : Heap) (locs : List Loc) (ls : Array Slot), (o < NN ∧ kcC o = 4) → rec5 o l1 x → Wd dC dI cI cB cJ cZ ad stC kcC NN A x H → va_S A s.heap H locs → lv_has ls 3 [(0, .ref (ad o)), (1, .int l1)] → W p l e R s m args below meth c H locs cells slots Q (F0 m 5 ls [])) : ∀ (o : Nat) (l1 : Int32) (l2 : Int32) (x : St) (H : Heap) (locs : List Loc) (ls : Array Slot), (o < NN ∧ kcC o = 4) → j_Rec_keep_59 post rec5 o l1 l2 x → Wd dC dI cI cB cJ cZ ad stC kcC NN A x H → va_S A s.heap H locs → lv_has ls 3 [(0, .ref (ad o)), (1, .int l1), (2, .int l2)] → W p l e R s m args below meth c H locs cells slots Q (F0 m 59 ls []) := by
  intro o l1 l2 x H locs ls fo hw hW hS hl
  unfold j_Rec_keep_59 at hw
  refine lv_aload_n hx hb d_Rec_keep_59 rfl (lv_at hl 0 rfl) ?_
  refine w_getf (q := (stC o 11)) (k := 11) (t := 4) (C := R_Rec) (T := F_Rec) (N := 15) hx hb hT hown hK hW fo.1 fo.2 (by decide) in_Rec rfl rfl (by decide) rfl fr_Rec_11 w_2_5 d_Rec_keep_60 rfl ?_
  refine lv_iload_n hx hb d_Rec_keep_63 rfl (lv_at hl 2 rfl) ?_
  refine lv_iload_n hx hb d_Rec_keep_64 rfl (lv_at hl 1 rfl) ?_
  obtain ⟨hi, hw⟩ := hw
  refine w_iast (o := (stC o 11)) hx hb hK hW hS (st_ty hNN fo.1 fo.2 rfl).1 (st_ty hNN fo.1 fo.2 rfl).2 hi d_Rec_keep_65 (fun H locs hW hS => ?_)
  obtain ⟨x3225, ex3225⟩ : ∃ y : St, y = setA x (stC o 11) l2 l1 := ⟨_, rfl⟩
  rw [← ex3225] at hW
  have hw := hw x3225 ex3225
  refine lv_iinc (v := (l1 + 1)) (lv' := [(1, .int (l1 + 1)), (0, .ref (ad o)), (2, .int l2)]) hx hb d_Rec_keep_66 hl (k := 1) rfl rfl (by decide) rfl (fun ls hl => ?_)
  refine lv_goto (tgt := 5) hx hb d_Rec_keep_69 (by decide) ?_
  exact hrec5 o (l1 + 1) x3225 H locs ls fo hw hW hS (lv_sub hl [1, 0] rfl)
set_option maxRecDepth 100000 in
def j_Rec_keep_5 (post : St → Prop) (rec5 : Nat → Int32 → St → Prop) (o : Nat) (l1 : Int32) (x : St) : Prop := (((fI x o 3) ≤ l1 → (∀ x3227 : St, x3227 = setI x o 1 (fI x o 3) → (∀ x3228 : St, x3228 = setI x3227 o 2 (fI x3227 o 4) → (∀ x3229 : St, x3229 = setI x3228 o 0 ((fI x3228 o 0) + 1) → post x3229)))) ∧ (¬ (fI x o 3) ≤ l1 → (vp_in l1 (fN x (stC o 8)) ∧ (∀ v3230 : Int32, v3230 = (rA x (stC o 8) l1) → (vp_in l1 (fN x (stC o 9)) ∧ ∀ x3231 : St, x3231 = setA x (stC o 9) l1 (-1) → (vp_in v3230 (fN x3231 (stC o 11)) ∧ ((¬ (rA x3231 (stC o 11) v3230) = (-1) → (vp_in v3230 (fN x3231 (stC o 11)) ∧ (vp_in (rA x3231 (stC o 11) v3230) (fN x3231 (stC o 9)) ∧ ∀ x3233 : St, x3233 = setA x3231 (stC o 9) (rA x3231 (stC o 11) v3230) l1 → j_Rec_keep_59 post rec5 o l1 v3230 x3233))) ∧ ((rA x3231 (stC o 11) v3230) = (-1) → (vp_in v3230 (fN x3231 (stC o 10)) ∧ ∀ x3234 : St, x3234 = setA x3231 (stC o 10) v3230 l1 → j_Rec_keep_59 post rec5 o l1 v3230 x3234)))))))))
set_option maxHeartbeats 4000000 in
set_option maxRecDepth 100000 in
theorem t_Rec_keep_5 {p : Program} {l : Launch} {e : Env} {R : Room} {s : State} {m : MethodId} {args : Array Value} {below : List Frame} {meth : Method} {c : Code} {cells slots : Nat} {Q : State → Prop} {dC : Nat → ClassId} {dI : Nat → Nat → Nat} {cI cB cJ cZ : ClassId} {A : Nat → Prop} {ad : Nat → Nat} {NN : Nat} {E : Heap} {tM tC : Nat} {kK kV : Nat → Nat} {post : St → Prop} {rec5 : Nat → Int32 → St → Prop} (hx : p.tables.exec = Jvm.exec) (hb : c.code = b_Rec_keep) (hml : c.maxLocals = 3) (hown : s.vm.findClass R_Rec = some m.cls) (hT : ∀ w ∈ TG, w.before args s = true) (hK : va_K (dC, dI) CL (TY cI cB cJ cZ) s) (hN : NW s) (hA : ∀ q : Nat, s.heap.size ≤ q → A q) (hRc : cells ≤ R.cells) (hRs : slots ≤ R.slots) (hRf : 0 ≤ R.frames) (hRl : 0 ≤ R.locals) (hNN : 152 ≤ NN) (hE : CE E tM tC kK kV A s) (hret : ∀ (x : St) (H : Heap) (locs : List Loc) (pc : Nat) (ls : Array Slot), decode b_Rec_keep pc = .ok (.return_, 1) → post x → Wd dC dI cI cB cJ cZ ad stC kcC NN A x H → va_S A s.heap H locs → W p l e R s m args below meth c H locs cells slots Q (F0 m pc ls [])) (hrec5 : ∀ (o : Nat) (l1 : Int32) (x : St) (H : Heap) (locs : List Loc) (ls : Array Slot), (o < NN ∧ kcC o = 4) → rec5 o l1 x → Wd dC dI cI cB cJ cZ ad stC kcC NN A x H → va_S A s.heap H locs → lv_has ls 3 [(0, .ref (ad o)), (1, .int l1)] → W p l e R s m args below meth c H locs cells slots Q (F0 m 5 ls [])) : ∀ (o : Nat) (l1 : Int32) (x : St) (H : Heap) (locs : List Loc) (ls : Array Slot), (o < NN ∧ kcC o = 4) → j_Rec_keep_5 post rec5 o l1 x → Wd dC dI cI cB cJ cZ ad stC kcC NN A x H → va_S A s.heap H locs → lv_has ls 3 [(0, .ref (ad o)), (1, .int l1)] → W p l e R s m args below meth c H locs cells slots Q (F0 m 5 ls []) := by
  intro o l1 x H locs ls fo hw hW hS hl
  unfold j_Rec_keep_5 at hw
  refine lv_iload_n hx hb d_Rec_keep_5 rfl (lv_at hl 1 rfl) ?_
  refine lv_aload_n hx hb d_Rec_keep_6 rfl (lv_at hl 0 rfl) ?_
  refine w_geti (k := 3) (t := 4) (C := R_Rec) (T := F_Rec) (N := 15) hx hb hT hown hK hW fo.1 fo.2 (by decide) in_Rec rfl rfl (by decide) rfl fr_Rec_3 w_1_232 d_Rec_keep_7 ?_
  refine lv_icmp_ge (tgt := 72) hx hb d_Rec_keep_10 (by decide) (fun c3226 => ?_) (fun c3226 => ?_)
  · have hw := hw.1 c3226
    refine lv_aload_n hx hb d_Rec_keep_72 rfl (lv_at hl 0 rfl) ?_
    refine lv_aload_n hx hb d_Rec_keep_73 rfl (lv_at hl 0 rfl) ?_
    refine w_geti (k := 3) (t := 4) (C := R_Rec) (T := F_Rec) (N := 15) hx hb hT hown hK hW fo.1 fo.2 (by decide) in_Rec rfl rfl (by decide) rfl fr_Rec_3 w_1_232 d_Rec_keep_74 ?_
    refine w_puti (ty := .int) (k := 1) (t := 4) (C := R_Rec) (T := F_Rec) (N := 15) hx hb hT hown hK hW hS fo.1 fo.2 (by decide) in_Rec t_Rec t_Rec_ok n_Rec rfl rfl (by decide) rfl fr_Rec_1 w_1_230 (by decide +kernel) rfl rfl d_Rec_keep_77 (fun H locs hW hS => ?_)
    obtain ⟨x3227, ex3227⟩ : ∃ y : St, y = setI x o 1 (fI x o 3) := ⟨_, rfl⟩
    rw [← ex3227] at hW
    have hw := hw x3227 ex3227
    refine lv_aload_n hx hb d_Rec_keep_80 rfl (lv_at hl 0 rfl) ?_
    refine lv_aload_n hx hb d_Rec_keep_81 rfl (lv_at hl 0 rfl) ?_
    refine w_geti (k := 4) (t := 4) (C := R_Rec) (T := F_Rec) (N := 15) hx hb hT hown hK hW fo.1 fo.2 (by decide) in_Rec rfl rfl (by decide) rfl fr_Rec_4 w_1_233 d_Rec_keep_82 ?_
    refine w_puti (ty := .int) (k := 2) (t := 4) (C := R_Rec) (T := F_Rec) (N := 15) hx hb hT hown hK hW hS fo.1 fo.2 (by decide) in_Rec t_Rec t_Rec_ok n_Rec rfl rfl (by decide) rfl fr_Rec_2 w_1_231 (by decide +kernel) rfl rfl d_Rec_keep_85 (fun H locs hW hS => ?_)
    obtain ⟨x3228, ex3228⟩ : ∃ y : St, y = setI x3227 o 2 (fI x3227 o 4) := ⟨_, rfl⟩
    rw [← ex3228] at hW
    have hw := hw x3228 ex3228
    refine lv_aload_n hx hb d_Rec_keep_88 rfl (lv_at hl 0 rfl) ?_
    refine lv_dup hx hb d_Rec_keep_89 rfl ?_
    refine w_geti (k := 0) (t := 4) (C := R_Rec) (T := F_Rec) (N := 15) hx hb hT hown hK hW fo.1 fo.2 (by decide) in_Rec rfl rfl (by decide) rfl fr_Rec_0 w_1_227 d_Rec_keep_90 ?_
    refine lv_iconst (v := 1) hx hb d_Rec_keep_93 (by decide) ?_
    refine lv_iadd hx hb d_Rec_keep_94 ?_
    refine w_puti (ty := .int) (k := 0) (t := 4) (C := R_Rec) (T := F_Rec) (N := 15) hx hb hT hown hK hW hS fo.1 fo.2 (by decide) in_Rec t_Rec t_Rec_ok n_Rec rfl rfl (by decide) rfl fr_Rec_0 w_1_227 (by decide +kernel) rfl rfl d_Rec_keep_95 (fun H locs hW hS => ?_)
    obtain ⟨x3229, ex3229⟩ : ∃ y : St, y = setI x3228 o 0 ((fI x3228 o 0) + 1) := ⟨_, rfl⟩
    rw [← ex3229] at hW
    have hw := hw x3229 ex3229
    exact hret x3229 H locs 98 ls d_Rec_keep_98 hw hW hS
  · have hw := hw.2 c3226
    refine lv_aload_n hx hb d_Rec_keep_13 rfl (lv_at hl 0 rfl) ?_
    refine w_getf (q := (stC o 8)) (k := 8) (t := 4) (C := R_Rec) (T := F_Rec) (N := 15) hx hb hT hown hK hW fo.1 fo.2 (by decide) in_Rec rfl rfl (by decide) rfl fr_Rec_8 w_2_0 d_Rec_keep_14 rfl ?_
    refine lv_iload_n hx hb d_Rec_keep_17 rfl (lv_at hl 1 rfl) ?_
    obtain ⟨hi, hw⟩ := hw
    refine w_bald (o := (stC o 8)) hx hb hK hW (st_ty hNN fo.1 fo.2 rfl).1 (st_ty hNN fo.1 fo.2 rfl).2 hi d_Rec_keep_18 ?_
    refine lv_topi (fun v3230 ev3230 => ?_)
    have hw := hw v3230 ev3230
    refine lv_istore_n (lv' := [(2, .int v3230), (0, .ref (ad o)), (1, .int l1)]) hx hb d_Rec_keep_19 rfl hl (by decide) rfl (fun ls hl => ?_)
    refine lv_aload_n hx hb d_Rec_keep_20 rfl (lv_at hl 1 rfl) ?_
    refine w_getf (q := (stC o 9)) (k := 9) (t := 4) (C := R_Rec) (T := F_Rec) (N := 15) hx hb hT hown hK hW fo.1 fo.2 (by decide) in_Rec rfl rfl (by decide) rfl fr_Rec_9 w_2_1 d_Rec_keep_21 rfl ?_
    refine lv_iload_n hx hb d_Rec_keep_24 rfl (lv_at hl 2 rfl) ?_
    refine lv_iconst (v := (-1)) hx hb d_Rec_keep_25 (by decide) ?_
    obtain ⟨hi, hw⟩ := hw
    refine w_iast (o := (stC o 9)) hx hb hK hW hS (st_ty hNN fo.1 fo.2 rfl).1 (st_ty hNN fo.1 fo.2 rfl).2 hi d_Rec_keep_26 (fun H locs hW hS => ?_)
    obtain ⟨x3231, ex3231⟩ : ∃ y : St, y = setA x (stC o 9) l1 (-1) := ⟨_, rfl⟩
    rw [← ex3231] at hW
    have hw := hw x3231 ex3231
    refine lv_aload_n hx hb d_Rec_keep_27 rfl (lv_at hl 1 rfl) ?_
    refine w_getf (q := (stC o 11)) (k := 11) (t := 4) (C := R_Rec) (T := F_Rec) (N := 15) hx hb hT hown hK hW fo.1 fo.2 (by decide) in_Rec rfl rfl (by decide) rfl fr_Rec_11 w_2_5 d_Rec_keep_28 rfl ?_
    refine lv_iload_n hx hb d_Rec_keep_31 rfl (lv_at hl 0 rfl) ?_
    obtain ⟨hi, hw⟩ := hw
    refine w_iald (o := (stC o 11)) hx hb hK hW (st_ty hNN fo.1 fo.2 rfl).1 (st_ty hNN fo.1 fo.2 rfl).2 hi d_Rec_keep_32 ?_
    refine lv_iconst (v := (-1)) hx hb d_Rec_keep_33 (by decide) ?_
    refine lv_icmp_ne (tgt := 47) hx hb d_Rec_keep_34 (by decide) (fun c3232 => ?_) (fun c3232 => ?_)
    · have hw := hw.1 c3232
      refine lv_aload_n hx hb d_Rec_keep_47 rfl (lv_at hl 1 rfl) ?_
      refine w_getf (q := (stC o 9)) (k := 9) (t := 4) (C := R_Rec) (T := F_Rec) (N := 15) hx hb hT hown hK hW fo.1 fo.2 (by decide) in_Rec rfl rfl (by decide) rfl fr_Rec_9 w_2_1 d_Rec_keep_48 rfl ?_
      refine lv_aload_n hx hb d_Rec_keep_51 rfl (lv_at hl 1 rfl) ?_
      refine w_getf (q := (stC o 11)) (k := 11) (t := 4) (C := R_Rec) (T := F_Rec) (N := 15) hx hb hT hown hK hW fo.1 fo.2 (by decide) in_Rec rfl rfl (by decide) rfl fr_Rec_11 w_2_5 d_Rec_keep_52 rfl ?_
      refine lv_iload_n hx hb d_Rec_keep_55 rfl (lv_at hl 0 rfl) ?_
      obtain ⟨hi, hw⟩ := hw
      refine w_iald (o := (stC o 11)) hx hb hK hW (st_ty hNN fo.1 fo.2 rfl).1 (st_ty hNN fo.1 fo.2 rfl).2 hi d_Rec_keep_56 ?_
      refine lv_iload_n hx hb d_Rec_keep_57 rfl (lv_at hl 2 rfl) ?_
      obtain ⟨hi, hw⟩ := hw
      refine w_iast (o := (stC o 9)) hx hb hK hW hS (st_ty hNN fo.1 fo.2 rfl).1 (st_ty hNN fo.1 fo.2 rfl).2 hi d_Rec_keep_58 (fun H locs hW hS => ?_)
      obtain ⟨x3233, ex3233⟩ : ∃ y : St, y = setA x3231 (stC o 9) (rA x3231 (stC o 11) v3230) l1 := ⟨_, rfl⟩
      rw [← ex3233] at hW
      have hw := hw x3233 ex3233
      exact t_Rec_keep_59 hx hb hml hown hT hK hN hA hRc hRs hRf hRl hNN hE hret hrec5 o l1 v3230 x3233 H locs ls fo hw hW hS (lv_sub hl [1, 2, 0] rfl)
    · have hw := hw.2 c3232
      refine lv_aload_n hx hb d_Rec_keep_37 rfl (lv_at hl 1 rfl) ?_
      refine w_getf (q := (stC o 10)) (k := 10) (t := 4) (C := R_Rec) (T := F_Rec) (N := 15) hx hb hT hown hK hW fo.1 fo.2 (by decide) in_Rec rfl rfl (by decide) rfl fr_Rec_10 w_2_3 d_Rec_keep_38 rfl ?_
      refine lv_iload_n hx hb d_Rec_keep_41 rfl (lv_at hl 0 rfl) ?_
      refine lv_iload_n hx hb d_Rec_keep_42 rfl (lv_at hl 2 rfl) ?_
      obtain ⟨hi, hw⟩ := hw
      refine w_iast (o := (stC o 10)) hx hb hK hW hS (st_ty hNN fo.1 fo.2 rfl).1 (st_ty hNN fo.1 fo.2 rfl).2 hi d_Rec_keep_43 (fun H locs hW hS => ?_)
      obtain ⟨x3234, ex3234⟩ : ∃ y : St, y = setA x3231 (stC o 10) v3230 l1 := ⟨_, rfl⟩
      rw [← ex3234] at hW
      have hw := hw x3234 ex3234
      refine lv_goto (tgt := 59) hx hb d_Rec_keep_44 (by decide) ?_
      exact t_Rec_keep_59 hx hb hml hown hT hK hN hA hRc hRs hRf hRl hNN hE hret hrec5 o l1 v3230 x3234 H locs ls fo hw hW hS (lv_sub hl [1, 2, 0] rfl)
def wl_Rec_keep_5 (post : St → Prop) : Nat → Nat → Int32 → St → Prop
  | 0 => fun _ _ _ => False
  | n + 1 => j_Rec_keep_5 post (wl_Rec_keep_5 post n)
set_option maxHeartbeats 4000000 in
set_option maxRecDepth 100000 in
theorem tl_Rec_keep_5 {p : Program} {l : Launch} {e : Env} {R : Room} {s : State} {m : MethodId} {args : Array Value} {below : List Frame} {meth : Method} {c : Code} {cells slots : Nat} {Q : State → Prop} {dC : Nat → ClassId} {dI : Nat → Nat → Nat} {cI cB cJ cZ : ClassId} {A : Nat → Prop} {ad : Nat → Nat} {NN : Nat} {E : Heap} {tM tC : Nat} {kK kV : Nat → Nat} {post : St → Prop} (hx : p.tables.exec = Jvm.exec) (hb : c.code = b_Rec_keep) (hml : c.maxLocals = 3) (hown : s.vm.findClass R_Rec = some m.cls) (hT : ∀ w ∈ TG, w.before args s = true) (hK : va_K (dC, dI) CL (TY cI cB cJ cZ) s) (hN : NW s) (hA : ∀ q : Nat, s.heap.size ≤ q → A q) (hRc : cells ≤ R.cells) (hRs : slots ≤ R.slots) (hRf : 0 ≤ R.frames) (hRl : 0 ≤ R.locals) (hNN : 152 ≤ NN) (hE : CE E tM tC kK kV A s) (hret : ∀ (x : St) (H : Heap) (locs : List Loc) (pc : Nat) (ls : Array Slot), decode b_Rec_keep pc = .ok (.return_, 1) → post x → Wd dC dI cI cB cJ cZ ad stC kcC NN A x H → va_S A s.heap H locs → W p l e R s m args below meth c H locs cells slots Q (F0 m pc ls []))  : ∀ n : Nat, ∀ (o : Nat) (l1 : Int32) (x : St) (H : Heap) (locs : List Loc) (ls : Array Slot), (o < NN ∧ kcC o = 4) → wl_Rec_keep_5 post n o l1 x → Wd dC dI cI cB cJ cZ ad stC kcC NN A x H → va_S A s.heap H locs → lv_has ls 3 [(0, .ref (ad o)), (1, .int l1)] → W p l e R s m args below meth c H locs cells slots Q (F0 m 5 ls []) := by
  intro n
  induction n with
  | zero => intro o l1 x H locs ls fo hw; exact hw.elim
  | succ n ih => intro o l1 x H locs ls fo hw hW hS hl; exact t_Rec_keep_5 hx hb hml hown hT hK hN hA hRc hRs hRf hRl hNN hE hret  ih o l1 x H locs ls fo hw hW hS hl
set_option maxRecDepth 100000 in
def wp_Rec_keep (post : St → Prop) (o : Nat) (x : St) : Prop := (∀ v3235 : Int32, v3235 = (fI x o 1) → ∃ n : Nat, wl_Rec_keep_5 post n o v3235 x)
set_option maxHeartbeats 4000000 in
set_option maxRecDepth 100000 in
theorem t_Rec_keep_e {p : Program} {l : Launch} {e : Env} {R : Room} {s : State} {m : MethodId} {args : Array Value} {below : List Frame} {meth : Method} {c : Code} {cells slots : Nat} {Q : State → Prop} {dC : Nat → ClassId} {dI : Nat → Nat → Nat} {cI cB cJ cZ : ClassId} {A : Nat → Prop} {ad : Nat → Nat} {NN : Nat} {E : Heap} {tM tC : Nat} {kK kV : Nat → Nat} {post : St → Prop} (hx : p.tables.exec = Jvm.exec) (hb : c.code = b_Rec_keep) (hml : c.maxLocals = 3) (hown : s.vm.findClass R_Rec = some m.cls) (hT : ∀ w ∈ TG, w.before args s = true) (hK : va_K (dC, dI) CL (TY cI cB cJ cZ) s) (hN : NW s) (hA : ∀ q : Nat, s.heap.size ≤ q → A q) (hRc : cells ≤ R.cells) (hRs : slots ≤ R.slots) (hRf : 0 ≤ R.frames) (hRl : 0 ≤ R.locals) (hNN : 152 ≤ NN) (hE : CE E tM tC kK kV A s) (hret : ∀ (x : St) (H : Heap) (locs : List Loc) (pc : Nat) (ls : Array Slot), decode b_Rec_keep pc = .ok (.return_, 1) → post x → Wd dC dI cI cB cJ cZ ad stC kcC NN A x H → va_S A s.heap H locs → W p l e R s m args below meth c H locs cells slots Q (F0 m pc ls [])) : ∀ (o : Nat) (x : St) (H : Heap) (locs : List Loc) (ls : Array Slot), (o < NN ∧ kcC o = 4) → wp_Rec_keep post o x → Wd dC dI cI cB cJ cZ ad stC kcC NN A x H → va_S A s.heap H locs → lv_has ls 3 [(0, .ref (ad o))] → W p l e R s m args below meth c H locs cells slots Q (F0 m 0 ls []) := by
  intro o x H locs ls fo hw hW hS hl
  unfold wp_Rec_keep at hw
  refine lv_aload_n hx hb d_Rec_keep_0 rfl (lv_at hl 0 rfl) ?_
  refine w_geti (k := 1) (t := 4) (C := R_Rec) (T := F_Rec) (N := 15) hx hb hT hown hK hW fo.1 fo.2 (by decide) in_Rec rfl rfl (by decide) rfl fr_Rec_1 w_1_230 d_Rec_keep_1 ?_
  refine lv_topi (fun v3235 ev3235 => ?_)
  have hw := hw v3235 ev3235
  refine lv_istore_n (lv' := [(1, .int v3235), (0, .ref (ad o))]) hx hb d_Rec_keep_4 rfl hl (by decide) rfl (fun ls hl => ?_)
  obtain ⟨n, hw⟩ := hw
  exact tl_Rec_keep_5 hx hb hml hown hT hK hN hA hRc hRs hRf hRl hNN hE hret  n o v3235 x H locs ls fo hw hW hS (lv_sub hl [1, 0] rfl)
set_option maxHeartbeats 4000000 in
set_option maxRecDepth 100000 in
theorem k_Rec_keep (l : Launch) (dC : Nat → ClassId) (dI : Nat → Nat → Nat) (cI cB cJ cZ : ClassId) (ad : Nat → Nat) (NN : Nat) (E : Heap) (tM tC : Nat) (kK kV : Nat → Nat) (hNN : 152 ≤ NN) (sz : Nat) (o : Nat) (x : St) (fo : o < NN ∧ kcC o = 4) {post : St → Prop} (hw : wp_Rec_keep post o x) : Met l y_Rec_keep (wsOf y_Rec_keep b_Rec_keep 3 (none)) ({ frames := 0, cells := 0, slots := 0, locals := 0 }) (va_Pc [.ref (ad o)] (PV dC dI cI cB cJ cZ ad stC kcC NN E tM tC kK kV sz x)) (va_Qv (fun (y : St) => post y) (fun y t => Wd dC dI cI cB cJ cZ ad stC kcC NN (va_A (pic ad stC kcC NN cI cB cJ cZ x) sz) y t.heap) (va_A (pic ad stC kcC NN cI cB cJ cZ x) sz)) 0 0 (va_A (pic ad stC kcC NN cI cB cJ cZ x) sz) := by
  refine Met.ofW (cc := b_Rec_keep) (maxL := 3) (ret := none) (by decide) rfl ?_
  intro p e s m args below meth c s₁ B hml hv
  obtain ⟨rfl, ⟨hsz, hW0, hK, hN⟩, hE⟩ := hv
  have hx := B.exec
  have hb := B.bytes
  have hr := B.returns
  have hts := atoms_spec B.pre
  have hT : ∀ w ∈ TG, w.before _ s = true := fun w h => hts w (List.mem_cons_of_mem _ h)
  have hown : s.vm.findClass R_Rec = some m.cls := findClass_of_methodNamed B.named
  have hlocks := B.notSynchronized
  subst hsz
  have hW : Wd dC dI cI cB cJ cZ ad stC kcC NN (va_A (pic ad stC kcC NN cI cB cJ cZ x) s.heap.size) x s.heap := ⟨hW0.1, hW0.2.1.self (sz := s.heap.size), hW0.2.2⟩
  generalize hAe : va_A (pic ad stC kcC NN cI cB cJ cZ x) s.heap.size = A at hW hE ⊢
  have hA : ∀ q : Nat, s.heap.size ≤ q → A q := fun q h => by rw [← hAe]; exact Or.inr h
  have hS : va_S A s.heap s.heap [] := va_S.rf
  have hl := lv_entry ([.ref (ad o)]) (n := 3) (Nat.le_of_ble_eq_true rfl)
  rw [lg_entry_eq]
  generalize (lg_sl ([.ref (ad o)]) ++ List.replicate (3 - (lg_sl ([.ref (ad o)])).length) Slot.unset).toArray = ls at hl ⊢
  have hl : lv_has ls 3 [(0, .ref (ad o))] := hl
  exact t_Rec_keep_e hx hb hml hown hT hK hN hA (Nat.le_refl 0) (Nat.le_refl 0) (Nat.le_refl 0) (Nat.le_refl 0) hNN hE (fun x H locs pc ls hd hp hW hS => W.vret hx hb hr (fun t ht hM => ⟨⟨x, rfl, hp, Wd.back hW ht.symm (fun _ z => z)⟩, hS.F ht⟩) hS.2.2 hd hlocks)  o x _ _ ls fo hw hW hS hl
set_option maxRecDepth 100000 in
def j_Rec_readText_115 (post : Int32 → St → Prop) (o : Nat) (l1 : Nat) (l2 : Nat) (x : St) : Prop := post (-2) x
set_option maxHeartbeats 4000000 in
set_option maxRecDepth 100000 in
theorem t_Rec_readText_115 {p : Program} {l : Launch} {e : Env} {R : Room} {s : State} {m : MethodId} {args : Array Value} {below : List Frame} {meth : Method} {c : Code} {cells slots : Nat} {Q : State → Prop} {dC : Nat → ClassId} {dI : Nat → Nat → Nat} {cI cB cJ cZ : ClassId} {A : Nat → Prop} {ad : Nat → Nat} {NN : Nat} {E : Heap} {tM tC : Nat} {kK kV : Nat → Nat} {post : Int32 → St → Prop} (hx : p.tables.exec = Jvm.exec) (hb : c.code = b_Rec_readText) (hml : c.maxLocals = 3) (hown : s.vm.findClass R_Rec = some m.cls) (hT : ∀ w ∈ TG, w.before args s = true) (hK : va_K (dC, dI) CL (TY cI cB cJ cZ) s) (hN : NW s) (hA : ∀ q : Nat, s.heap.size ≤ q → A q) (hRc : cells ≤ R.cells) (hRs : slots ≤ R.slots) (hRf : 209 ≤ R.frames) (hRl : 5915 ≤ R.locals) (hNN : 152 ≤ NN) (hE : CE E tM tC kK kV A s) (hret : ∀ (r : Int32) (x : St) (H : Heap) (locs : List Loc) (pc : Nat) (ls : Array Slot), decode b_Rec_readText pc = .ok (.ireturn, 1) → post r x → Wd dC dI cI cB cJ cZ ad stC kcC NN A x H → va_S A s.heap H locs → W p l e R s m args below meth c H locs cells slots Q (F0 m pc ls [.int r]))  : ∀ (o : Nat) (l1 : Nat) (l2 : Nat) (x : St) (H : Heap) (locs : List Loc) (ls : Array Slot), (o < NN ∧ kcC o = 4) → (l1 < NN ∧ kcC l1 = 2) → (l2 < NN ∧ kcC l2 = 3) → j_Rec_readText_115 post o l1 l2 x → Wd dC dI cI cB cJ cZ ad stC kcC NN A x H → va_S A s.heap H locs → lv_has ls 3 [(0, .ref (ad o)), (1, .ref (ad l1)), (2, .ref (ad l2))] → W p l e R s m args below meth c H locs cells slots Q (F0 m 115 ls []) := by
  intro o l1 l2 x H locs ls fo fl1 fl2 hw hW hS hl
  unfold j_Rec_readText_115 at hw
  refine lv_bipush (v := (-2)) hx hb d_Rec_readText_115 (by decide) ?_
  exact hret (-2) x H locs 117 ls d_Rec_readText_117 hw hW hS
set_option maxRecDepth 100000 in
def j_Rec_readText_68 (post : Int32 → St → Prop) (o : Nat) (l1 : Nat) (l2 : Nat) (x : St) : Prop := (∃ q3236 : Nat, fR x o 13 = some q3236 ∧ wp_Scn_good (fun (r3238 : Int32) (x3237 : St) => ((¬ r3238 = 0 → ((2000 ≤ (fI x3237 o 0) → j_Rec_readText_115 post o l1 l2 x3237) ∧ (¬ 2000 ≤ (fI x3237 o 0) → ((10000 < (fI x3237 o 3) → j_Rec_readText_115 post o l1 l2 x3237) ∧ (¬ 10000 < (fI x3237 o 3) → (((fI x3237 o 4) ≤ 60000 → wp_Rec_keep (fun (x3243 : St) => post (-1) x3243) o x3237) ∧ (¬ (fI x3237 o 4) ≤ 60000 → j_Rec_readText_115 post o l1 l2 x3237))))))) ∧ (r3238 = 0 → (∃ q3244 : Nat, fR x3237 o 13 = some q3244 ∧ post (fI x3237 q3244 3) x3237)))) q3236 x)
set_option maxHeartbeats 4000000 in
set_option maxRecDepth 100000 in
theorem t_Rec_readText_68 {p : Program} {l : Launch} {e : Env} {R : Room} {s : State} {m : MethodId} {args : Array Value} {below : List Frame} {meth : Method} {c : Code} {cells slots : Nat} {Q : State → Prop} {dC : Nat → ClassId} {dI : Nat → Nat → Nat} {cI cB cJ cZ : ClassId} {A : Nat → Prop} {ad : Nat → Nat} {NN : Nat} {E : Heap} {tM tC : Nat} {kK kV : Nat → Nat} {post : Int32 → St → Prop} (hx : p.tables.exec = Jvm.exec) (hb : c.code = b_Rec_readText) (hml : c.maxLocals = 3) (hown : s.vm.findClass R_Rec = some m.cls) (hT : ∀ w ∈ TG, w.before args s = true) (hK : va_K (dC, dI) CL (TY cI cB cJ cZ) s) (hN : NW s) (hA : ∀ q : Nat, s.heap.size ≤ q → A q) (hRc : cells ≤ R.cells) (hRs : slots ≤ R.slots) (hRf : 209 ≤ R.frames) (hRl : 5915 ≤ R.locals) (hNN : 152 ≤ NN) (hE : CE E tM tC kK kV A s) (hret : ∀ (r : Int32) (x : St) (H : Heap) (locs : List Loc) (pc : Nat) (ls : Array Slot), decode b_Rec_readText pc = .ok (.ireturn, 1) → post r x → Wd dC dI cI cB cJ cZ ad stC kcC NN A x H → va_S A s.heap H locs → W p l e R s m args below meth c H locs cells slots Q (F0 m pc ls [.int r]))  : ∀ (o : Nat) (l1 : Nat) (l2 : Nat) (x : St) (H : Heap) (locs : List Loc) (ls : Array Slot), (o < NN ∧ kcC o = 4) → (l1 < NN ∧ kcC l1 = 2) → (l2 < NN ∧ kcC l2 = 3) → j_Rec_readText_68 post o l1 l2 x → Wd dC dI cI cB cJ cZ ad stC kcC NN A x H → va_S A s.heap H locs → lv_has ls 3 [(0, .ref (ad o)), (1, .ref (ad l1)), (2, .ref (ad l2))] → W p l e R s m args below meth c H locs cells slots Q (F0 m 68 ls []) := by
  intro o l1 l2 x H locs ls fo fl1 fl2 hw hW hS hl
  unfold j_Rec_readText_68 at hw
  refine lv_aload_n hx hb d_Rec_readText_68 rfl (lv_at hl 0 rfl) ?_
  obtain ⟨q3236, hq3236, hw⟩ := hw
  refine w_getr (q := q3236) (k := 13) (t := 4) (C := R_Rec) (T := F_Rec) (N := 15) hx hb hT hown hK hW fo.1 fo.2 (by decide) in_Rec rfl rfl (by decide) rfl fr_Rec_13 w_2_8 d_Rec_readText_69 hq3236 (fun aq3236 bq3236 => ?_)
  have fq3236 : q3236 < NN ∧ kcC q3236 = 2 := ⟨aq3236, bq3236⟩
  have hF := hW.free hS hA
  refine va_calli (va_runV (C := R_Scn) (As := []) (rest := []) ⟨hx, hb, hml, hown, hT⟩ (k_Scn_good l dC dI cI cB cJ cZ ad NN E tM tC kK kV hNN H.size q3236 x fq3236 hw) ⟨callB_of 0 hT (gw_in w_4_106) rfl rfl rfl (hT _ w_1_4) (hT _ w_5_31) (by decide +kernel) ⟨Nat.le_trans (by decide) hRf, Nat.le_trans (by decide) hRl⟩, hT _ w_4_104, hT _ w_4_105⟩ ⟨PV.blind, va_recv hK hW.1 (ci := 2) (q0 := q3236) rfl (pic_obj fq3236.1 fq3236.2 (by decide)), PV.at _ hW hK hN hE hS hF⟩ rfl rfl hl.1 rfl (lv_room (Nat.le_of_ble_eq_true rfl)) d_Rec_readText_72 ⟨hRc, hRs⟩) hS (fun q _ h => hF q h) hF (fun r3238 x3237 t H locs ht hvm hw hB hz1 hk1 hS => ?_)
  have hW := Wd.back hB ht hF
  clear hB ht hF hz1 hk1 hvm
  refine lv_if_ne (tgt := 86) hx hb d_Rec_readText_75 (by decide) (fun c3239 => ?_) (fun c3239 => ?_)
  · have hw := hw.1 c3239
    refine lv_aload_n hx hb d_Rec_readText_86 rfl (lv_at hl 0 rfl) ?_
    refine w_geti (k := 0) (t := 4) (C := R_Rec) (T := F_Rec) (N := 15) hx hb hT hown hK hW fo.1 fo.2 (by decide) in_Rec rfl rfl (by decide) rfl fr_Rec_0 w_1_227 d_Rec_readText_87 ?_
    refine lv_sipush (v := 2000) hx hb d_Rec_readText_90 (by decide) ?_
    refine lv_icmp_ge (tgt := 115) hx hb d_Rec_readText_93 (by decide) (fun c3240 => ?_) (fun c3240 => ?_)
    · have hw := hw.1 c3240
      exact t_Rec_readText_115 hx hb hml hown hT hK hN hA hRc hRs hRf hRl hNN hE hret  o l1 l2 x3237 H locs ls fo fl1 fl2 hw hW hS (lv_sub hl [0, 1, 2] rfl)
    · have hw := hw.2 c3240
      refine lv_aload_n hx hb d_Rec_readText_96 rfl (lv_at hl 0 rfl) ?_
      refine w_geti (k := 3) (t := 4) (C := R_Rec) (T := F_Rec) (N := 15) hx hb hT hown hK hW fo.1 fo.2 (by decide) in_Rec rfl rfl (by decide) rfl fr_Rec_3 w_1_232 d_Rec_readText_97 ?_
      refine lv_sipush (v := 10000) hx hb d_Rec_readText_100 (by decide) ?_
      refine lv_icmp_gt (tgt := 115) hx hb d_Rec_readText_103 (by decide) (fun c3241 => ?_) (fun c3241 => ?_)
      · have hw := hw.1 c3241
        exact t_Rec_readText_115 hx hb hml hown hT hK hN hA hRc hRs hRf hRl hNN hE hret  o l1 l2 x3237 H locs ls fo fl1 fl2 hw hW hS (lv_sub hl [0, 1, 2] rfl)
      · have hw := hw.2 c3241
        refine lv_aload_n hx hb d_Rec_readText_106 rfl (lv_at hl 0 rfl) ?_
        refine w_geti (k := 4) (t := 4) (C := R_Rec) (T := F_Rec) (N := 15) hx hb hT hown hK hW fo.1 fo.2 (by decide) in_Rec rfl rfl (by decide) rfl fr_Rec_4 w_1_233 d_Rec_readText_107 ?_
        refine lv_ldc hx hb hown (hT _ w_5_110) d_Rec_readText_110 ?_
        refine lv_icmp_le (tgt := 118) hx hb d_Rec_readText_112 (by decide) (fun c3242 => ?_) (fun c3242 => ?_)
        · have hw := hw.1 c3242
          refine lv_aload_n hx hb d_Rec_readText_118 rfl (lv_at hl 0 rfl) ?_
          have hF := hW.free hS hA
          refine va_callv (va_runV (C := R_Rec) (As := []) (rest := []) ⟨hx, hb, hml, hown, hT⟩ (k_Rec_keep l dC dI cI cB cJ cZ ad NN E tM tC kK kV hNN H.size o x3237 fo hw) ⟨callB_of 0 hT (gw_in w_5_114) rfl rfl rfl (hT _ w_1_6) (hT _ w_5_111) (by decide +kernel) ⟨Nat.le_trans (by decide) hRf, Nat.le_trans (by decide) hRl⟩, hT _ w_5_113, hT _ ws_17⟩ ⟨PV.blind, va_recv hK hW.1 (ci := 4) (q0 := o) rfl (pic_obj fo.1 fo.2 (by decide)), PV.at _ hW hK hN hE hS hF⟩ rfl rfl hl.1 rfl (lv_room (Nat.le_of_ble_eq_true rfl)) d_Rec_readText_119 ⟨hRc, hRs⟩) hS (fun q _ h => hF q h) hF (fun  x3243 t H locs ht hvm hw hB hz1 hk1 hS => ?_)
          have hW := Wd.back hB ht hF
          clear hB ht hF hz1 hk1 hvm
          refine lv_iconst (v := (-1)) hx hb d_Rec_readText_122 (by decide) ?_
          exact hret (-1) x3243 H locs 123 ls d_Rec_readText_123 hw hW hS
        · have hw := hw.2 c3242
          exact t_Rec_readText_115 hx hb hml hown hT hK hN hA hRc hRs hRf hRl hNN hE hret  o l1 l2 x3237 H locs ls fo fl1 fl2 hw hW hS (lv_sub hl [0, 1, 2] rfl)
  · have hw := hw.2 c3239
    refine lv_aload_n hx hb d_Rec_readText_78 rfl (lv_at hl 0 rfl) ?_
    obtain ⟨q3244, hq3244, hw⟩ := hw
    refine w_getr (q := q3244) (k := 13) (t := 4) (C := R_Rec) (T := F_Rec) (N := 15) hx hb hT hown hK hW fo.1 fo.2 (by decide) in_Rec rfl rfl (by decide) rfl fr_Rec_13 w_2_8 d_Rec_readText_79 hq3244 (fun aq3244 bq3244 => ?_)
    have fq3244 : q3244 < NN ∧ kcC q3244 = 2 := ⟨aq3244, bq3244⟩
    refine w_geti (k := 3) (t := 2) (C := R_Scn) (T := F_Scn) (N := 8) hx hb hT hown hK hW fq3244.1 fq3244.2 (by decide) in_Scn rfl rfl (by decide) rfl fr_Scn_3 w_1_91 d_Rec_readText_82 ?_
    exact hret (fI x3237 q3244 3) x3237 H locs 85 ls d_Rec_readText_85 hw hW hS
set_option maxRecDepth 100000 in
def wp_Rec_readText (post : Int32 → St → Prop) (o : Nat) (l1 : Nat) (l2 : Nat) (x : St) : Prop := (∀ x3245 : St, x3245 = setR x o 13 (some l1) → (∀ x3246 : St, x3246 = setR x3245 o 14 (some l2) → (∀ x3247 : St, x3247 = setI x3246 o 3 (fI x3246 o 1) → (∀ x3248 : St, x3248 = setI x3247 o 4 (fI x3247 o 2) → wp_Rec_readGroup (fun (x3249 : St) => (∃ q3250 : Nat, fR x3249 o 13 = some q3250 ∧ wp_Scn_good (fun (r3252 : Int32) (x3251 : St) => ((r3252 = 0 → j_Rec_readText_68 post o l1 l2 x3251) ∧ (¬ r3252 = 0 → (∃ q3254 : Nat, fR x3251 o 13 = some q3254 ∧ wp_Scn_next (fun (r3256 : Int32) (x3255 : St) => ((r3256 = (-1) → j_Rec_readText_68 post o l1 l2 x3255) ∧ (¬ r3256 = (-1) → (∃ q3258 : Nat, fR x3255 o 13 = some q3258 ∧ (∃ q3259 : Nat, fR x3255 o 13 = some q3259 ∧ wp_Scn_refuse (fun (x3260 : St) => j_Rec_readText_68 post o l1 l2 x3260) q3258 (fI x3255 q3259 2) x3255))))) q3254 x3251)))) q3250 x3249)) o (-1) 0 0 x3248))))
set_option maxHeartbeats 4000000 in
set_option maxRecDepth 100000 in
theorem t_Rec_readText_e {p : Program} {l : Launch} {e : Env} {R : Room} {s : State} {m : MethodId} {args : Array Value} {below : List Frame} {meth : Method} {c : Code} {cells slots : Nat} {Q : State → Prop} {dC : Nat → ClassId} {dI : Nat → Nat → Nat} {cI cB cJ cZ : ClassId} {A : Nat → Prop} {ad : Nat → Nat} {NN : Nat} {E : Heap} {tM tC : Nat} {kK kV : Nat → Nat} {post : Int32 → St → Prop} (hx : p.tables.exec = Jvm.exec) (hb : c.code = b_Rec_readText) (hml : c.maxLocals = 3) (hown : s.vm.findClass R_Rec = some m.cls) (hT : ∀ w ∈ TG, w.before args s = true) (hK : va_K (dC, dI) CL (TY cI cB cJ cZ) s) (hN : NW s) (hA : ∀ q : Nat, s.heap.size ≤ q → A q) (hRc : cells ≤ R.cells) (hRs : slots ≤ R.slots) (hRf : 209 ≤ R.frames) (hRl : 5915 ≤ R.locals) (hNN : 152 ≤ NN) (hE : CE E tM tC kK kV A s) (hret : ∀ (r : Int32) (x : St) (H : Heap) (locs : List Loc) (pc : Nat) (ls : Array Slot), decode b_Rec_readText pc = .ok (.ireturn, 1) → post r x → Wd dC dI cI cB cJ cZ ad stC kcC NN A x H → va_S A s.heap H locs → W p l e R s m args below meth c H locs cells slots Q (F0 m pc ls [.int r])) : ∀ (o : Nat) (l1 : Nat) (l2 : Nat) (x : St) (H : Heap) (locs : List Loc) (ls : Array Slot), (o < NN ∧ kcC o = 4) → (l1 < NN ∧ kcC l1 = 2) → (l2 < NN ∧ kcC l2 = 3) → wp_Rec_readText post o l1 l2 x → Wd dC dI cI cB cJ cZ ad stC kcC NN A x H → va_S A s.heap H locs → lv_has ls 3 [(0, .ref (ad o)), (1, .ref (ad l1)), (2, .ref (ad l2))] → W p l e R s m args below meth c H locs cells slots Q (F0 m 0 ls []) := by
  intro o l1 l2 x H locs ls fo fl1 fl2 hw hW hS hl
  unfold wp_Rec_readText at hw
  refine lv_aload_n hx hb d_Rec_readText_0 rfl (lv_at hl 0 rfl) ?_
  refine lv_aload_n hx hb d_Rec_readText_1 rfl (lv_at hl 1 rfl) ?_
  refine w_putr (q := l1) (ty := .object "StripedVault$Scan") (k := 13) (t := 4) (C := R_Rec) (T := F_Rec) (N := 15) hx hb hT hown hK hW hS fo.1 fo.2 (by decide) in_Rec t_Rec t_Rec_ok n_Rec rfl rfl (by decide) rfl fr_Rec_13 w_2_8 (by decide +kernel) rfl rfl fl1.1 fl1.2 d_Rec_readText_2 (fun H locs hW hS => ?_)
  obtain ⟨x3245, ex3245⟩ : ∃ y : St, y = setR x o 13 (some l1) := ⟨_, rfl⟩
  rw [← ex3245] at hW
  have hw := hw x3245 ex3245
  refine lv_aload_n hx hb d_Rec_readText_5 rfl (lv_at hl 0 rfl) ?_
  refine lv_aload_n hx hb d_Rec_readText_6 rfl (lv_at hl 2 rfl) ?_
  refine w_putr (q := l2) (ty := .object "StripedVault$Schema") (k := 14) (t := 4) (C := R_Rec) (T := F_Rec) (N := 15) hx hb hT hown hK hW hS fo.1 fo.2 (by decide) in_Rec t_Rec t_Rec_ok n_Rec rfl rfl (by decide) rfl fr_Rec_14 w_2_9 (by decide +kernel) rfl rfl fl2.1 fl2.2 d_Rec_readText_7 (fun H locs hW hS => ?_)
  obtain ⟨x3246, ex3246⟩ : ∃ y : St, y = setR x3245 o 14 (some l2) := ⟨_, rfl⟩
  rw [← ex3246] at hW
  have hw := hw x3246 ex3246
  refine lv_aload_n hx hb d_Rec_readText_10 rfl (lv_at hl 0 rfl) ?_
  refine lv_aload_n hx hb d_Rec_readText_11 rfl (lv_at hl 0 rfl) ?_
  refine w_geti (k := 1) (t := 4) (C := R_Rec) (T := F_Rec) (N := 15) hx hb hT hown hK hW fo.1 fo.2 (by decide) in_Rec rfl rfl (by decide) rfl fr_Rec_1 w_1_230 d_Rec_readText_12 ?_
  refine w_puti (ty := .int) (k := 3) (t := 4) (C := R_Rec) (T := F_Rec) (N := 15) hx hb hT hown hK hW hS fo.1 fo.2 (by decide) in_Rec t_Rec t_Rec_ok n_Rec rfl rfl (by decide) rfl fr_Rec_3 w_1_232 (by decide +kernel) rfl rfl d_Rec_readText_15 (fun H locs hW hS => ?_)
  obtain ⟨x3247, ex3247⟩ : ∃ y : St, y = setI x3246 o 3 (fI x3246 o 1) := ⟨_, rfl⟩
  rw [← ex3247] at hW
  have hw := hw x3247 ex3247
  refine lv_aload_n hx hb d_Rec_readText_18 rfl (lv_at hl 0 rfl) ?_
  refine lv_aload_n hx hb d_Rec_readText_19 rfl (lv_at hl 0 rfl) ?_
  refine w_geti (k := 2) (t := 4) (C := R_Rec) (T := F_Rec) (N := 15) hx hb hT hown hK hW fo.1 fo.2 (by decide) in_Rec rfl rfl (by decide) rfl fr_Rec_2 w_1_231 d_Rec_readText_20 ?_
  refine w_puti (ty := .int) (k := 4) (t := 4) (C := R_Rec) (T := F_Rec) (N := 15) hx hb hT hown hK hW hS fo.1 fo.2 (by decide) in_Rec t_Rec t_Rec_ok n_Rec rfl rfl (by decide) rfl fr_Rec_4 w_1_233 (by decide +kernel) rfl rfl d_Rec_readText_23 (fun H locs hW hS => ?_)
  obtain ⟨x3248, ex3248⟩ : ∃ y : St, y = setI x3247 o 4 (fI x3247 o 2) := ⟨_, rfl⟩
  rw [← ex3248] at hW
  have hw := hw x3248 ex3248
  refine lv_aload_n hx hb d_Rec_readText_26 rfl (lv_at hl 0 rfl) ?_
  refine lv_iconst (v := (-1)) hx hb d_Rec_readText_27 (by decide) ?_
  refine lv_iconst (v := 0) hx hb d_Rec_readText_28 (by decide) ?_
  refine lv_iconst (v := 0) hx hb d_Rec_readText_29 (by decide) ?_
  have hF := hW.free hS hA
  refine va_callv (va_runV (C := R_Rec) (As := [.int (-1), .int 0, .int 0]) (rest := []) ⟨hx, hb, hml, hown, hT⟩ (k_Rec_readGroup l dC dI cI cB cJ cZ ad NN E tM tC kK kV hNN H.size o (-1) 0 0 x3248 fo hw) ⟨callB_of 3 hT (gw_in w_5_26) rfl rfl rfl (hT _ w_1_6) (hT _ w_5_23) (by decide +kernel) ⟨Nat.le_trans (by decide) hRf, Nat.le_trans (by decide) hRl⟩, hT _ w_5_25, hT _ ws_6⟩ ⟨PV.blind, va_recv hK hW.1 (ci := 4) (q0 := o) rfl (pic_obj fo.1 fo.2 (by decide)), PV.at _ hW hK hN hE hS hF⟩ rfl rfl hl.1 rfl (lv_room (Nat.le_of_ble_eq_true rfl)) d_Rec_readText_30 ⟨hRc, hRs⟩) hS (fun q _ h => hF q h) hF (fun  x3249 t H locs ht hvm hw hB hz1 hk1 hS => ?_)
  have hW := Wd.back hB ht hF
  clear hB ht hF hz1 hk1 hvm
  refine lv_aload_n hx hb d_Rec_readText_33 rfl (lv_at hl 0 rfl) ?_
  obtain ⟨q3250, hq3250, hw⟩ := hw
  refine w_getr (q := q3250) (k := 13) (t := 4) (C := R_Rec) (T := F_Rec) (N := 15) hx hb hT hown hK hW fo.1 fo.2 (by decide) in_Rec rfl rfl (by decide) rfl fr_Rec_13 w_2_8 d_Rec_readText_34 hq3250 (fun aq3250 bq3250 => ?_)
  have fq3250 : q3250 < NN ∧ kcC q3250 = 2 := ⟨aq3250, bq3250⟩
  have hF := hW.free hS hA
  refine va_calli (va_runV (C := R_Scn) (As := []) (rest := []) ⟨hx, hb, hml, hown, hT⟩ (k_Scn_good l dC dI cI cB cJ cZ ad NN E tM tC kK kV hNN H.size q3250 x3249 fq3250 hw) ⟨callB_of 0 hT (gw_in w_4_106) rfl rfl rfl (hT _ w_1_4) (hT _ w_5_31) (by decide +kernel) ⟨Nat.le_trans (by decide) hRf, Nat.le_trans (by decide) hRl⟩, hT _ w_4_104, hT _ w_4_105⟩ ⟨PV.blind, va_recv hK hW.1 (ci := 2) (q0 := q3250) rfl (pic_obj fq3250.1 fq3250.2 (by decide)), PV.at _ hW hK hN hE hS hF⟩ rfl rfl hl.1 rfl (lv_room (Nat.le_of_ble_eq_true rfl)) d_Rec_readText_37 ⟨hRc, hRs⟩) hS (fun q _ h => hF q h) hF (fun r3252 x3251 t H locs ht hvm hw hB hz1 hk1 hS => ?_)
  have hW := Wd.back hB ht hF
  clear hB ht hF hz1 hk1 hvm
  refine lv_if_eq (tgt := 68) hx hb d_Rec_readText_40 (by decide) (fun c3253 => ?_) (fun c3253 => ?_)
  · have hw := hw.1 c3253
    exact t_Rec_readText_68 hx hb hml hown hT hK hN hA hRc hRs hRf hRl hNN hE hret  o l1 l2 x3251 H locs ls fo fl1 fl2 hw hW hS (lv_sub hl [0, 1, 2] rfl)
  · have hw := hw.2 c3253
    refine lv_aload_n hx hb d_Rec_readText_43 rfl (lv_at hl 0 rfl) ?_
    obtain ⟨q3254, hq3254, hw⟩ := hw
    refine w_getr (q := q3254) (k := 13) (t := 4) (C := R_Rec) (T := F_Rec) (N := 15) hx hb hT hown hK hW fo.1 fo.2 (by decide) in_Rec rfl rfl (by decide) rfl fr_Rec_13 w_2_8 d_Rec_readText_44 hq3254 (fun aq3254 bq3254 => ?_)
    have fq3254 : q3254 < NN ∧ kcC q3254 = 2 := ⟨aq3254, bq3254⟩
    have hF := hW.free hS hA
    refine va_calli (va_runV (C := R_Scn) (As := []) (rest := []) ⟨hx, hb, hml, hown, hT⟩ (k_Scn_next l dC dI cI cB cJ cZ ad NN E tM tC kK kV hNN H.size q3254 x3251 fq3254 hw) ⟨callB_of 0 hT (gw_in w_4_110) rfl rfl rfl (hT _ w_1_4) (hT _ w_5_32) (by decide +kernel) ⟨Nat.le_trans (by decide) hRf, Nat.le_trans (by decide) hRl⟩, hT _ w_4_108, hT _ w_4_109⟩ ⟨PV.blind, va_recv hK hW.1 (ci := 2) (q0 := q3254) rfl (pic_obj fq3254.1 fq3254.2 (by decide)), PV.at _ hW hK hN hE hS hF⟩ rfl rfl hl.1 rfl (lv_room (Nat.le_of_ble_eq_true rfl)) d_Rec_readText_47 ⟨hRc, hRs⟩) hS (fun q _ h => hF q h) hF (fun r3256 x3255 t H locs ht hvm hw hB hz1 hk1 hS => ?_)
    have hW := Wd.back hB ht hF
    clear hB ht hF hz1 hk1 hvm
    refine lv_iconst (v := (-1)) hx hb d_Rec_readText_50 (by decide) ?_
    refine lv_icmp_eq (tgt := 68) hx hb d_Rec_readText_51 (by decide) (fun c3257 => ?_) (fun c3257 => ?_)
    · have hw := hw.1 c3257
      exact t_Rec_readText_68 hx hb hml hown hT hK hN hA hRc hRs hRf hRl hNN hE hret  o l1 l2 x3255 H locs ls fo fl1 fl2 hw hW hS (lv_sub hl [0, 1, 2] rfl)
    · have hw := hw.2 c3257
      refine lv_aload_n hx hb d_Rec_readText_54 rfl (lv_at hl 0 rfl) ?_
      obtain ⟨q3258, hq3258, hw⟩ := hw
      refine w_getr (q := q3258) (k := 13) (t := 4) (C := R_Rec) (T := F_Rec) (N := 15) hx hb hT hown hK hW fo.1 fo.2 (by decide) in_Rec rfl rfl (by decide) rfl fr_Rec_13 w_2_8 d_Rec_readText_55 hq3258 (fun aq3258 bq3258 => ?_)
      have fq3258 : q3258 < NN ∧ kcC q3258 = 2 := ⟨aq3258, bq3258⟩
      refine lv_aload_n hx hb d_Rec_readText_58 rfl (lv_at hl 0 rfl) ?_
      obtain ⟨q3259, hq3259, hw⟩ := hw
      refine w_getr (q := q3259) (k := 13) (t := 4) (C := R_Rec) (T := F_Rec) (N := 15) hx hb hT hown hK hW fo.1 fo.2 (by decide) in_Rec rfl rfl (by decide) rfl fr_Rec_13 w_2_8 d_Rec_readText_59 hq3259 (fun aq3259 bq3259 => ?_)
      have fq3259 : q3259 < NN ∧ kcC q3259 = 2 := ⟨aq3259, bq3259⟩
      refine w_geti (k := 2) (t := 2) (C := R_Scn) (T := F_Scn) (N := 8) hx hb hT hown hK hW fq3259.1 fq3259.2 (by decide) in_Scn rfl rfl (by decide) rfl fr_Scn_2 w_1_87 d_Rec_readText_62 ?_
      have hF := hW.free hS hA
      refine va_callv (va_runV (C := R_Scn) (As := [.int (fI x3255 q3259 2)]) (rest := []) ⟨hx, hb, hml, hown, hT⟩ (k_Scn_refuse l dC dI cI cB cJ cZ ad NN E tM tC kK kV hNN H.size q3258 (fI x3255 q3259 2) x3255 fq3258 hw) ⟨callB_of 1 hT (gw_in w_4_128) rfl rfl rfl (hT _ w_1_4) (hT _ w_5_27) (by decide +kernel) ⟨Nat.le_trans (by decide) hRf, Nat.le_trans (by decide) hRl⟩, hT _ w_4_126, hT _ w_4_127⟩ ⟨PV.blind, va_recv hK hW.1 (ci := 2) (q0 := q3258) rfl (pic_obj fq3258.1 fq3258.2 (by decide)), PV.at _ hW hK hN hE hS hF⟩ rfl rfl hl.1 rfl (lv_room (Nat.le_of_ble_eq_true rfl)) d_Rec_readText_65 ⟨hRc, hRs⟩) hS (fun q _ h => hF q h) hF (fun  x3260 t H locs ht hvm hw hB hz1 hk1 hS => ?_)
      have hW := Wd.back hB ht hF
      clear hB ht hF hz1 hk1 hvm
      exact t_Rec_readText_68 hx hb hml hown hT hK hN hA hRc hRs hRf hRl hNN hE hret  o l1 l2 x3260 H locs ls fo fl1 fl2 hw hW hS (lv_sub hl [0, 1, 2] rfl)
set_option maxHeartbeats 4000000 in
set_option maxRecDepth 100000 in
theorem k_Rec_readText (l : Launch) (dC : Nat → ClassId) (dI : Nat → Nat → Nat) (cI cB cJ cZ : ClassId) (ad : Nat → Nat) (NN : Nat) (E : Heap) (tM tC : Nat) (kK kV : Nat → Nat) (hNN : 152 ≤ NN) (sz : Nat) (o : Nat) (l1 : Nat) (l2 : Nat) (x : St) (fo : o < NN ∧ kcC o = 4) (fl1 : l1 < NN ∧ kcC l1 = 2) (fl2 : l2 < NN ∧ kcC l2 = 3) {post : Int32 → St → Prop} (hw : wp_Rec_readText post o l1 l2 x) : Met l y_Rec_readText (wsOf y_Rec_readText b_Rec_readText 3 (some (.int))) ({ frames := 209, cells := 0, slots := 0, locals := 5915 }) (va_Pc [.ref (ad o), .ref (ad l1), .ref (ad l2)] (PV dC dI cI cB cJ cZ ad stC kcC NN E tM tC kK kV sz x)) (va_Qi (fun (r : Int32) (y : St) => post r y) (fun y t => Wd dC dI cI cB cJ cZ ad stC kcC NN (va_A (pic ad stC kcC NN cI cB cJ cZ x) sz) y t.heap) (va_A (pic ad stC kcC NN cI cB cJ cZ x) sz)) 0 0 (va_A (pic ad stC kcC NN cI cB cJ cZ x) sz) := by
  refine Met.ofW (cc := b_Rec_readText) (maxL := 3) (ret := some (.int)) (by decide) rfl ?_
  intro p e s m args below meth c s₁ B hml hv
  obtain ⟨rfl, ⟨hsz, hW0, hK, hN⟩, hE⟩ := hv
  have hx := B.exec
  have hb := B.bytes
  have hr := B.returns
  have hts := atoms_spec B.pre
  have hT : ∀ w ∈ TG, w.before _ s = true := fun w h => hts w (List.mem_cons_of_mem _ h)
  have hown : s.vm.findClass R_Rec = some m.cls := findClass_of_methodNamed B.named
  have hlocks := B.notSynchronized
  subst hsz
  have hW : Wd dC dI cI cB cJ cZ ad stC kcC NN (va_A (pic ad stC kcC NN cI cB cJ cZ x) s.heap.size) x s.heap := ⟨hW0.1, hW0.2.1.self (sz := s.heap.size), hW0.2.2⟩
  generalize hAe : va_A (pic ad stC kcC NN cI cB cJ cZ x) s.heap.size = A at hW hE ⊢
  have hA : ∀ q : Nat, s.heap.size ≤ q → A q := fun q h => by rw [← hAe]; exact Or.inr h
  have hS : va_S A s.heap s.heap [] := va_S.rf
  have hl := lv_entry ([.ref (ad o), .ref (ad l1), .ref (ad l2)]) (n := 3) (Nat.le_of_ble_eq_true rfl)
  rw [lg_entry_eq]
  generalize (lg_sl ([.ref (ad o), .ref (ad l1), .ref (ad l2)]) ++ List.replicate (3 - (lg_sl ([.ref (ad o), .ref (ad l1), .ref (ad l2)])).length) Slot.unset).toArray = ls at hl ⊢
  have hl : lv_has ls 3 [(0, .ref (ad o)), (1, .ref (ad l1)), (2, .ref (ad l2))] := hl
  exact t_Rec_readText_e hx hb hml hown hT hK hN hA (Nat.le_refl 0) (Nat.le_refl 0) (Nat.le_refl 209) (Nat.le_refl 5915) hNN hE (fun r x H locs pc ls hd hp hW hS => W.iret (v := r) hx hb hr (fun t ht hM => ⟨⟨r, x, rfl, hp, Wd.back hW ht.symm (fun _ z => z)⟩, hS.F ht⟩) hS.2.2 hd hlocks)  o l1 l2 x _ _ ls fo fl1 fl2 hw hW hS hl
set_option maxRecDepth 100000 in
def wp_V_record (post : Int32 → St → Prop) (o : Nat) (x : St) : Prop := wp_V_useInput (fun (r3262 : Int32) (x3261 : St) => (∃ q3263 : Nat, fR x3261 o 4 = some q3263 ∧ ((¬ (fI x3261 q3263 0) = 0 → ((r3262 ≤ 4000 → (∃ q3266 : Nat, fR x3261 o 1 = some q3266 ∧ (∃ q3267 : Nat, fR x3261 q3266 0 = some q3267 ∧ wp_Scn_begin (fun (x3268 : St) => (∃ q3269 : Nat, fR x3268 o 4 = some q3269 ∧ wp_Rec_readText (fun (r3271 : Int32) (x3270 : St) => post r3271 x3270) (stC o 6) (stC o 3) q3269 x3268)) (stC o 3) q3267 r3262 x3261))) ∧ (¬ r3262 ≤ 4000 → post 4000 x3261))) ∧ ((fI x3261 q3263 0) = 0 → post (-2) x3261)))) o x
set_option maxHeartbeats 4000000 in
set_option maxRecDepth 100000 in
theorem t_V_record_e {p : Program} {l : Launch} {e : Env} {R : Room} {s : State} {m : MethodId} {args : Array Value} {below : List Frame} {meth : Method} {c : Code} {cells slots : Nat} {Q : State → Prop} {dC : Nat → ClassId} {dI : Nat → Nat → Nat} {cI cB cJ cZ : ClassId} {A : Nat → Prop} {ad : Nat → Nat} {NN : Nat} {E : Heap} {tM tC : Nat} {kK kV : Nat → Nat} {post : Int32 → St → Prop} (hx : p.tables.exec = Jvm.exec) (hb : c.code = b_V_record) (hml : c.maxLocals = 2) (hown : s.vm.findClass R_V = some m.cls) (hT : ∀ w ∈ TG, w.before args s = true) (hK : va_K (dC, dI) CL (TY cI cB cJ cZ) s) (hN : NW s) (hA : ∀ q : Nat, s.heap.size ≤ q → A q) (hRc : cells ≤ R.cells) (hRs : slots ≤ R.slots) (hRf : 210 ≤ R.frames) (hRl : 5937 ≤ R.locals) (hNN : 152 ≤ NN) (hE : CE E tM tC kK kV A s) (hret : ∀ (r : Int32) (x : St) (H : Heap) (locs : List Loc) (pc : Nat) (ls : Array Slot), decode b_V_record pc = .ok (.ireturn, 1) → post r x → Wd dC dI cI cB cJ cZ ad stC kcC NN A x H → va_S A s.heap H locs → W p l e R s m args below meth c H locs cells slots Q (F0 m pc ls [.int r])) : ∀ (o : Nat) (x : St) (H : Heap) (locs : List Loc) (ls : Array Slot), (o < NN ∧ kcC o = 0) → wp_V_record post o x → Wd dC dI cI cB cJ cZ ad stC kcC NN A x H → va_S A s.heap H locs → lv_has ls 2 [(0, .ref (ad o))] → W p l e R s m args below meth c H locs cells slots Q (F0 m 0 ls []) := by
  intro o x H locs ls fo hw hW hS hl
  unfold wp_V_record at hw
  refine lv_aload_n hx hb d_V_record_0 rfl (lv_at hl 0 rfl) ?_
  have hF := hW.free hS hA
  refine va_calli (va_runV (C := R_V) (As := []) (rest := []) ⟨hx, hb, hml, hown, hT⟩ (k_V_useInput l dC dI cI cB cJ cZ ad NN E tM tC kK kV hNN H.size o x fo hw) ⟨callB_of 0 hT (gw_in w_4_89) rfl rfl rfl (hT _ w_1_1) (hT _ w_4_86) (by decide +kernel) ⟨Nat.le_trans (by decide) hRf, Nat.le_trans (by decide) hRl⟩, hT _ w_4_88, hT _ ws_2⟩ ⟨PV.blind, va_recv hK hW.1 (ci := 0) (q0 := o) rfl (pic_obj fo.1 fo.2 (by decide)), PV.at _ hW hK hN hE hS hF⟩ rfl rfl hl.1 rfl (lv_room (Nat.le_of_ble_eq_true rfl)) d_V_record_1 ⟨hRc, hRs⟩) hS (fun q _ h => hF q h) hF (fun r3262 x3261 t H locs ht hvm hw hB hz1 hk1 hS => ?_)
  have hW := Wd.back hB ht hF
  clear hB ht hF hz1 hk1 hvm
  refine lv_istore_n (lv' := [(1, .int r3262), (0, .ref (ad o))]) hx hb d_V_record_4 rfl hl (by decide) rfl (fun ls hl => ?_)
  refine lv_aload_n hx hb d_V_record_5 rfl (lv_at hl 1 rfl) ?_
  obtain ⟨q3263, hq3263, hw⟩ := hw
  refine w_getr (q := q3263) (k := 4) (t := 0) (C := R_V) (T := F_V) (N := 15) hx hb hT hown hK hW fo.1 fo.2 (by decide) in_V rfl rfl (by decide) rfl fr_V_4 w_3_239 d_V_record_6 hq3263 (fun aq3263 bq3263 => ?_)
  have fq3263 : q3263 < NN ∧ kcC q3263 = 3 := ⟨aq3263, bq3263⟩
  refine w_geti (k := 0) (t := 3) (C := R_Sch) (T := F_Sch) (N := 13) hx hb hT hown hK hW fq3263.1 fq3263.2 (by decide) in_Sch rfl rfl (by decide) rfl fr_Sch_0 w_1_133 d_V_record_9 ?_
  refine lv_if_ne (tgt := 18) hx hb d_V_record_12 (by decide) (fun c3264 => ?_) (fun c3264 => ?_)
  · have hw := hw.1 c3264
    refine lv_iload_n hx hb d_V_record_18 rfl (lv_at hl 0 rfl) ?_
    refine lv_sipush (v := 4000) hx hb d_V_record_19 (by decide) ?_
    refine lv_icmp_le (tgt := 29) hx hb d_V_record_22 (by decide) (fun c3265 => ?_) (fun c3265 => ?_)
    · have hw := hw.1 c3265
      refine lv_aload_n hx hb d_V_record_29 rfl (lv_at hl 1 rfl) ?_
      refine w_getf (q := (stC o 3)) (k := 3) (t := 0) (C := R_V) (T := F_V) (N := 15) hx hb hT hown hK hW fo.1 fo.2 (by decide) in_V rfl rfl (by decide) rfl fr_V_3 w_3_238 d_V_record_30 rfl ?_
      refine lv_aload_n hx hb d_V_record_33 rfl (lv_at hl 1 rfl) ?_
      obtain ⟨q3266, hq3266, hw⟩ := hw
      refine w_getr (q := q3266) (k := 1) (t := 0) (C := R_V) (T := F_V) (N := 15) hx hb hT hown hK hW fo.1 fo.2 (by decide) in_V rfl rfl (by decide) rfl fr_V_1 w_3_236 d_V_record_34 hq3266 (fun aq3266 bq3266 => ?_)
      have fq3266 : q3266 < NN ∧ kcC q3266 = 1 := ⟨aq3266, bq3266⟩
      obtain ⟨q3267, hq3267, hw⟩ := hw
      refine w_getr (q := q3267) (k := 0) (t := 1) (C := R_Snk) (T := F_Snk) (N := 7) hx hb hT hown hK hW fq3266.1 fq3266.2 (by decide) in_Snk rfl rfl (by decide) rfl fr_Snk_0 w_1_42 d_V_record_37 hq3267 (fun aq3267 bq3267 => ?_)
      have fq3267 : q3267 < NN ∧ kcC q3267 = 21 := ⟨aq3267, bq3267⟩
      refine lv_iload_n hx hb d_V_record_40 rfl (lv_at hl 0 rfl) ?_
      have hF := hW.free hS hA
      refine va_callv (va_runV (C := R_Scn) (As := [.ref (ad q3267), .int r3262]) (rest := []) ⟨hx, hb, hml, hown, hT⟩ (k_Scn_begin l dC dI cI cB cJ cZ ad NN E tM tC kK kV hNN H.size (stC o 3) q3267 r3262 x3261 (st_ty hNN fo.1 fo.2 rfl) fq3267 hw) ⟨callB_of 2 hT (gw_in w_4_93) rfl rfl rfl (hT _ w_1_4) (hT _ w_4_90) (by decide +kernel) ⟨Nat.le_trans (by decide) hRf, Nat.le_trans (by decide) hRl⟩, hT _ w_4_91, hT _ w_4_92⟩ ⟨PV.blind, va_recv hK hW.1 (ci := 2) (q0 := (stC o 3)) rfl (pic_obj (st_ty hNN fo.1 fo.2 rfl).1 (st_ty hNN fo.1 fo.2 rfl).2 (by decide)), PV.at _ hW hK hN hE hS hF⟩ rfl rfl hl.1 rfl (lv_room (Nat.le_of_ble_eq_true rfl)) d_V_record_41 ⟨hRc, hRs⟩) hS (fun q _ h => hF q h) hF (fun  x3268 t H locs ht hvm hw hB hz1 hk1 hS => ?_)
      have hW := Wd.back hB ht hF
      clear hB ht hF hz1 hk1 hvm
      refine lv_aload_n hx hb d_V_record_44 rfl (lv_at hl 1 rfl) ?_
      refine w_getf (q := (stC o 6)) (k := 6) (t := 0) (C := R_V) (T := F_V) (N := 15) hx hb hT hown hK hW fo.1 fo.2 (by decide) in_V rfl rfl (by decide) rfl fr_V_6 w_4_1 d_V_record_45 rfl ?_
      refine lv_aload_n hx hb d_V_record_48 rfl (lv_at hl 1 rfl) ?_
      refine w_getf (q := (stC o 3)) (k := 3) (t := 0) (C := R_V) (T := F_V) (N := 15) hx hb hT hown hK hW fo.1 fo.2 (by decide) in_V rfl rfl (by decide) rfl fr_V_3 w_3_238 d_V_record_49 rfl ?_
      refine lv_aload_n hx hb d_V_record_52 rfl (lv_at hl 1 rfl) ?_
      obtain ⟨q3269, hq3269, hw⟩ := hw
      refine w_getr (q := q3269) (k := 4) (t := 0) (C := R_V) (T := F_V) (N := 15) hx hb hT hown hK hW fo.1 fo.2 (by decide) in_V rfl rfl (by decide) rfl fr_V_4 w_3_239 d_V_record_53 hq3269 (fun aq3269 bq3269 => ?_)
      have fq3269 : q3269 < NN ∧ kcC q3269 = 3 := ⟨aq3269, bq3269⟩
      have hF := hW.free hS hA
      refine va_calli (va_runV (C := R_Rec) (As := [.ref (ad (stC o 3)), .ref (ad q3269)]) (rest := []) ⟨hx, hb, hml, hown, hT⟩ (k_Rec_readText l dC dI cI cB cJ cZ ad NN E tM tC kK kV hNN H.size (stC o 6) (stC o 3) q3269 x3268 (st_ty hNN fo.1 fo.2 rfl) (st_ty hNN fo.1 fo.2 rfl) fq3269 hw) ⟨callB_of 2 hT (gw_in w_5_22) rfl rfl rfl (hT _ w_1_6) (hT _ w_5_19) (by decide +kernel) ⟨Nat.le_trans (by decide) hRf, Nat.le_trans (by decide) hRl⟩, hT _ w_5_20, hT _ w_5_21⟩ ⟨PV.blind, va_recv hK hW.1 (ci := 4) (q0 := (stC o 6)) rfl (pic_obj (st_ty hNN fo.1 fo.2 rfl).1 (st_ty hNN fo.1 fo.2 rfl).2 (by decide)), PV.at _ hW hK hN hE hS hF⟩ rfl rfl hl.1 rfl (lv_room (Nat.le_of_ble_eq_true rfl)) d_V_record_56 ⟨hRc, hRs⟩) hS (fun q _ h => hF q h) hF (fun r3271 x3270 t H locs ht hvm hw hB hz1 hk1 hS => ?_)
      have hW := Wd.back hB ht hF
      clear hB ht hF hz1 hk1 hvm
      exact hret r3271 x3270 H locs 59 ls d_V_record_59 hw hW hS
    · have hw := hw.2 c3265
      refine lv_sipush (v := 4000) hx hb d_V_record_25 (by decide) ?_
      exact hret 4000 x3261 H locs 28 ls d_V_record_28 hw hW hS
  · have hw := hw.2 c3264
    refine lv_bipush (v := (-2)) hx hb d_V_record_15 (by decide) ?_
    exact hret (-2) x3261 H locs 17 ls d_V_record_17 hw hW hS
set_option maxHeartbeats 4000000 in
set_option maxRecDepth 100000 in
theorem k_V_record (l : Launch) (dC : Nat → ClassId) (dI : Nat → Nat → Nat) (cI cB cJ cZ : ClassId) (ad : Nat → Nat) (NN : Nat) (E : Heap) (tM tC : Nat) (kK kV : Nat → Nat) (hNN : 152 ≤ NN) (sz : Nat) (o : Nat) (x : St) (fo : o < NN ∧ kcC o = 0) {post : Int32 → St → Prop} (hw : wp_V_record post o x) : Met l y_V_record (wsOf y_V_record b_V_record 2 (some (.int))) ({ frames := 210, cells := 0, slots := 0, locals := 5937 }) (va_Pc [.ref (ad o)] (PV dC dI cI cB cJ cZ ad stC kcC NN E tM tC kK kV sz x)) (va_Qi (fun (r : Int32) (y : St) => post r y) (fun y t => Wd dC dI cI cB cJ cZ ad stC kcC NN (va_A (pic ad stC kcC NN cI cB cJ cZ x) sz) y t.heap) (va_A (pic ad stC kcC NN cI cB cJ cZ x) sz)) 0 0 (va_A (pic ad stC kcC NN cI cB cJ cZ x) sz) := by
  refine Met.ofW (cc := b_V_record) (maxL := 2) (ret := some (.int)) (by decide) rfl ?_
  intro p e s m args below meth c s₁ B hml hv
  obtain ⟨rfl, ⟨hsz, hW0, hK, hN⟩, hE⟩ := hv
  have hx := B.exec
  have hb := B.bytes
  have hr := B.returns
  have hts := atoms_spec B.pre
  have hT : ∀ w ∈ TG, w.before _ s = true := fun w h => hts w (List.mem_cons_of_mem _ h)
  have hown : s.vm.findClass R_V = some m.cls := findClass_of_methodNamed B.named
  have hlocks := B.notSynchronized
  subst hsz
  have hW : Wd dC dI cI cB cJ cZ ad stC kcC NN (va_A (pic ad stC kcC NN cI cB cJ cZ x) s.heap.size) x s.heap := ⟨hW0.1, hW0.2.1.self (sz := s.heap.size), hW0.2.2⟩
  generalize hAe : va_A (pic ad stC kcC NN cI cB cJ cZ x) s.heap.size = A at hW hE ⊢
  have hA : ∀ q : Nat, s.heap.size ≤ q → A q := fun q h => by rw [← hAe]; exact Or.inr h
  have hS : va_S A s.heap s.heap [] := va_S.rf
  have hl := lv_entry ([.ref (ad o)]) (n := 2) (Nat.le_of_ble_eq_true rfl)
  rw [lg_entry_eq]
  generalize (lg_sl ([.ref (ad o)]) ++ List.replicate (2 - (lg_sl ([.ref (ad o)])).length) Slot.unset).toArray = ls at hl ⊢
  have hl : lv_has ls 2 [(0, .ref (ad o))] := hl
  exact t_V_record_e hx hb hml hown hT hK hN hA (Nat.le_refl 0) (Nat.le_refl 0) (Nat.le_refl 210) (Nat.le_refl 5937) hNN hE (fun r x H locs pc ls hd hp hW hS => W.iret (v := r) hx hb hr (fun t ht hM => ⟨⟨r, x, rfl, hp, Wd.back hW ht.symm (fun _ z => z)⟩, hS.F ht⟩) hS.2.2 hd hlocks)  o x _ _ ls fo hw hW hS hl
set_option maxRecDepth 100000 in
def wp_V_records (post : Int32 → St → Prop) (o : Nat) (x : St) : Prop := post (fI x (stC o 6) 0) x
set_option maxHeartbeats 4000000 in
set_option maxRecDepth 100000 in
theorem t_V_records_e {p : Program} {l : Launch} {e : Env} {R : Room} {s : State} {m : MethodId} {args : Array Value} {below : List Frame} {meth : Method} {c : Code} {cells slots : Nat} {Q : State → Prop} {dC : Nat → ClassId} {dI : Nat → Nat → Nat} {cI cB cJ cZ : ClassId} {A : Nat → Prop} {ad : Nat → Nat} {NN : Nat} {E : Heap} {tM tC : Nat} {kK kV : Nat → Nat} {post : Int32 → St → Prop} (hx : p.tables.exec = Jvm.exec) (hb : c.code = b_V_records) (hml : c.maxLocals = 1) (hown : s.vm.findClass R_V = some m.cls) (hT : ∀ w ∈ TG, w.before args s = true) (hK : va_K (dC, dI) CL (TY cI cB cJ cZ) s) (hN : NW s) (hA : ∀ q : Nat, s.heap.size ≤ q → A q) (hRc : cells ≤ R.cells) (hRs : slots ≤ R.slots) (hRf : 0 ≤ R.frames) (hRl : 0 ≤ R.locals) (hNN : 152 ≤ NN) (hE : CE E tM tC kK kV A s) (hret : ∀ (r : Int32) (x : St) (H : Heap) (locs : List Loc) (pc : Nat) (ls : Array Slot), decode b_V_records pc = .ok (.ireturn, 1) → post r x → Wd dC dI cI cB cJ cZ ad stC kcC NN A x H → va_S A s.heap H locs → W p l e R s m args below meth c H locs cells slots Q (F0 m pc ls [.int r])) : ∀ (o : Nat) (x : St) (H : Heap) (locs : List Loc) (ls : Array Slot), (o < NN ∧ kcC o = 0) → wp_V_records post o x → Wd dC dI cI cB cJ cZ ad stC kcC NN A x H → va_S A s.heap H locs → lv_has ls 1 [(0, .ref (ad o))] → W p l e R s m args below meth c H locs cells slots Q (F0 m 0 ls []) := by
  intro o x H locs ls fo hw hW hS hl
  unfold wp_V_records at hw
  refine lv_aload_n hx hb d_V_records_0 rfl (lv_at hl 0 rfl) ?_
  refine w_getf (q := (stC o 6)) (k := 6) (t := 0) (C := R_V) (T := F_V) (N := 15) hx hb hT hown hK hW fo.1 fo.2 (by decide) in_V rfl rfl (by decide) rfl fr_V_6 w_4_1 d_V_records_1 rfl ?_
  refine w_geti (k := 0) (t := 4) (C := R_Rec) (T := F_Rec) (N := 15) hx hb hT hown hK hW (st_ty hNN fo.1 fo.2 rfl).1 (st_ty hNN fo.1 fo.2 rfl).2 (by decide) in_Rec rfl rfl (by decide) rfl fr_Rec_0 w_1_229 d_V_records_4 ?_
  exact hret (fI x (stC o 6) 0) x H locs 7 ls d_V_records_7 hw hW hS
set_option maxHeartbeats 4000000 in
set_option maxRecDepth 100000 in
theorem k_V_records (l : Launch) (dC : Nat → ClassId) (dI : Nat → Nat → Nat) (cI cB cJ cZ : ClassId) (ad : Nat → Nat) (NN : Nat) (E : Heap) (tM tC : Nat) (kK kV : Nat → Nat) (hNN : 152 ≤ NN) (sz : Nat) (o : Nat) (x : St) (fo : o < NN ∧ kcC o = 0) {post : Int32 → St → Prop} (hw : wp_V_records post o x) : Met l y_V_records (wsOf y_V_records b_V_records 1 (some (.int))) ({ frames := 0, cells := 0, slots := 0, locals := 0 }) (va_Pc [.ref (ad o)] (PV dC dI cI cB cJ cZ ad stC kcC NN E tM tC kK kV sz x)) (va_Qi (fun (r : Int32) (y : St) => post r y) (fun y t => Wd dC dI cI cB cJ cZ ad stC kcC NN (va_A (pic ad stC kcC NN cI cB cJ cZ x) sz) y t.heap) (va_A (pic ad stC kcC NN cI cB cJ cZ x) sz)) 0 0 (va_A (pic ad stC kcC NN cI cB cJ cZ x) sz) := by
  refine Met.ofW (cc := b_V_records) (maxL := 1) (ret := some (.int)) (by decide) rfl ?_
  intro p e s m args below meth c s₁ B hml hv
  obtain ⟨rfl, ⟨hsz, hW0, hK, hN⟩, hE⟩ := hv
  have hx := B.exec
  have hb := B.bytes
  have hr := B.returns
  have hts := atoms_spec B.pre
  have hT : ∀ w ∈ TG, w.before _ s = true := fun w h => hts w (List.mem_cons_of_mem _ h)
  have hown : s.vm.findClass R_V = some m.cls := findClass_of_methodNamed B.named
  have hlocks := B.notSynchronized
  subst hsz
  have hW : Wd dC dI cI cB cJ cZ ad stC kcC NN (va_A (pic ad stC kcC NN cI cB cJ cZ x) s.heap.size) x s.heap := ⟨hW0.1, hW0.2.1.self (sz := s.heap.size), hW0.2.2⟩
  generalize hAe : va_A (pic ad stC kcC NN cI cB cJ cZ x) s.heap.size = A at hW hE ⊢
  have hA : ∀ q : Nat, s.heap.size ≤ q → A q := fun q h => by rw [← hAe]; exact Or.inr h
  have hS : va_S A s.heap s.heap [] := va_S.rf
  have hl := lv_entry ([.ref (ad o)]) (n := 1) (Nat.le_of_ble_eq_true rfl)
  rw [lg_entry_eq]
  generalize (lg_sl ([.ref (ad o)]) ++ List.replicate (1 - (lg_sl ([.ref (ad o)])).length) Slot.unset).toArray = ls at hl ⊢
  have hl : lv_has ls 1 [(0, .ref (ad o))] := hl
  exact t_V_records_e hx hb hml hown hT hK hN hA (Nat.le_refl 0) (Nat.le_refl 0) (Nat.le_refl 0) (Nat.le_refl 0) hNN hE (fun r x H locs pc ls hd hp hW hS => W.iret (v := r) hx hb hr (fun t ht hM => ⟨⟨r, x, rfl, hp, Wd.back hW ht.symm (fun _ z => z)⟩, hS.F ht⟩) hS.2.2 hd hlocks)  o x _ _ ls fo hw hW hS hl
set_option maxRecDepth 100000 in
def wp_V_clear (post : St → Prop) (o : Nat) (x : St) : Prop := wp_Rec_forget (fun (x3272 : St) => post x3272) (stC o 6) x
set_option maxHeartbeats 4000000 in
set_option maxRecDepth 100000 in
theorem t_V_clear_e {p : Program} {l : Launch} {e : Env} {R : Room} {s : State} {m : MethodId} {args : Array Value} {below : List Frame} {meth : Method} {c : Code} {cells slots : Nat} {Q : State → Prop} {dC : Nat → ClassId} {dI : Nat → Nat → Nat} {cI cB cJ cZ : ClassId} {A : Nat → Prop} {ad : Nat → Nat} {NN : Nat} {E : Heap} {tM tC : Nat} {kK kV : Nat → Nat} {post : St → Prop} (hx : p.tables.exec = Jvm.exec) (hb : c.code = b_V_clear) (hml : c.maxLocals = 1) (hown : s.vm.findClass R_V = some m.cls) (hT : ∀ w ∈ TG, w.before args s = true) (hK : va_K (dC, dI) CL (TY cI cB cJ cZ) s) (hN : NW s) (hA : ∀ q : Nat, s.heap.size ≤ q → A q) (hRc : cells ≤ R.cells) (hRs : slots ≤ R.slots) (hRf : 2 ≤ R.frames) (hRl : 43 ≤ R.locals) (hNN : 152 ≤ NN) (hE : CE E tM tC kK kV A s) (hret : ∀ (x : St) (H : Heap) (locs : List Loc) (pc : Nat) (ls : Array Slot), decode b_V_clear pc = .ok (.return_, 1) → post x → Wd dC dI cI cB cJ cZ ad stC kcC NN A x H → va_S A s.heap H locs → W p l e R s m args below meth c H locs cells slots Q (F0 m pc ls [])) : ∀ (o : Nat) (x : St) (H : Heap) (locs : List Loc) (ls : Array Slot), (o < NN ∧ kcC o = 0) → wp_V_clear post o x → Wd dC dI cI cB cJ cZ ad stC kcC NN A x H → va_S A s.heap H locs → lv_has ls 1 [(0, .ref (ad o))] → W p l e R s m args below meth c H locs cells slots Q (F0 m 0 ls []) := by
  intro o x H locs ls fo hw hW hS hl
  unfold wp_V_clear at hw
  refine lv_aload_n hx hb d_V_clear_0 rfl (lv_at hl 0 rfl) ?_
  refine w_getf (q := (stC o 6)) (k := 6) (t := 0) (C := R_V) (T := F_V) (N := 15) hx hb hT hown hK hW fo.1 fo.2 (by decide) in_V rfl rfl (by decide) rfl fr_V_6 w_4_1 d_V_clear_1 rfl ?_
  have hF := hW.free hS hA
  refine va_callv (va_runV (C := R_Rec) (As := []) (rest := []) ⟨hx, hb, hml, hown, hT⟩ (k_Rec_forget l dC dI cI cB cJ cZ ad NN E tM tC kK kV hNN H.size (stC o 6) x (st_ty hNN fo.1 fo.2 rfl) hw) ⟨callB_of 0 hT (gw_in w_5_14) rfl rfl rfl (hT _ w_1_6) (hT _ w_5_11) (by decide +kernel) ⟨Nat.le_trans (by decide) hRf, Nat.le_trans (by decide) hRl⟩, hT _ w_5_12, hT _ w_5_13⟩ ⟨PV.blind, va_recv hK hW.1 (ci := 4) (q0 := (stC o 6)) rfl (pic_obj (st_ty hNN fo.1 fo.2 rfl).1 (st_ty hNN fo.1 fo.2 rfl).2 (by decide)), PV.at _ hW hK hN hE hS hF⟩ rfl rfl hl.1 rfl (lv_room (Nat.le_of_ble_eq_true rfl)) d_V_clear_4 ⟨hRc, hRs⟩) hS (fun q _ h => hF q h) hF (fun  x3272 t H locs ht hvm hw hB hz1 hk1 hS => ?_)
  have hW := Wd.back hB ht hF
  clear hB ht hF hz1 hk1 hvm
  exact hret x3272 H locs 7 ls d_V_clear_7 hw hW hS
set_option maxHeartbeats 4000000 in
set_option maxRecDepth 100000 in
theorem k_V_clear (l : Launch) (dC : Nat → ClassId) (dI : Nat → Nat → Nat) (cI cB cJ cZ : ClassId) (ad : Nat → Nat) (NN : Nat) (E : Heap) (tM tC : Nat) (kK kV : Nat → Nat) (hNN : 152 ≤ NN) (sz : Nat) (o : Nat) (x : St) (fo : o < NN ∧ kcC o = 0) {post : St → Prop} (hw : wp_V_clear post o x) : Met l y_V_clear (wsOf y_V_clear b_V_clear 1 (none)) ({ frames := 2, cells := 0, slots := 0, locals := 43 }) (va_Pc [.ref (ad o)] (PV dC dI cI cB cJ cZ ad stC kcC NN E tM tC kK kV sz x)) (va_Qv (fun (y : St) => post y) (fun y t => Wd dC dI cI cB cJ cZ ad stC kcC NN (va_A (pic ad stC kcC NN cI cB cJ cZ x) sz) y t.heap) (va_A (pic ad stC kcC NN cI cB cJ cZ x) sz)) 0 0 (va_A (pic ad stC kcC NN cI cB cJ cZ x) sz) := by
  refine Met.ofW (cc := b_V_clear) (maxL := 1) (ret := none) (by decide) rfl ?_
  intro p e s m args below meth c s₁ B hml hv
  obtain ⟨rfl, ⟨hsz, hW0, hK, hN⟩, hE⟩ := hv
  have hx := B.exec
  have hb := B.bytes
  have hr := B.returns
  have hts := atoms_spec B.pre
  have hT : ∀ w ∈ TG, w.before _ s = true := fun w h => hts w (List.mem_cons_of_mem _ h)
  have hown : s.vm.findClass R_V = some m.cls := findClass_of_methodNamed B.named
  have hlocks := B.notSynchronized
  subst hsz
  have hW : Wd dC dI cI cB cJ cZ ad stC kcC NN (va_A (pic ad stC kcC NN cI cB cJ cZ x) s.heap.size) x s.heap := ⟨hW0.1, hW0.2.1.self (sz := s.heap.size), hW0.2.2⟩
  generalize hAe : va_A (pic ad stC kcC NN cI cB cJ cZ x) s.heap.size = A at hW hE ⊢
  have hA : ∀ q : Nat, s.heap.size ≤ q → A q := fun q h => by rw [← hAe]; exact Or.inr h
  have hS : va_S A s.heap s.heap [] := va_S.rf
  have hl := lv_entry ([.ref (ad o)]) (n := 1) (Nat.le_of_ble_eq_true rfl)
  rw [lg_entry_eq]
  generalize (lg_sl ([.ref (ad o)]) ++ List.replicate (1 - (lg_sl ([.ref (ad o)])).length) Slot.unset).toArray = ls at hl ⊢
  have hl : lv_has ls 1 [(0, .ref (ad o))] := hl
  exact t_V_clear_e hx hb hml hown hT hK hN hA (Nat.le_refl 0) (Nat.le_refl 0) (Nat.le_refl 2) (Nat.le_refl 43) hNN hE (fun x H locs pc ls hd hp hW hS => W.vret hx hb hr (fun t ht hM => ⟨⟨x, rfl, hp, Wd.back hW ht.symm (fun _ z => z)⟩, hS.F ht⟩) hS.2.2 hd hlocks)  o x _ _ ls fo hw hW hS hl
set_option maxRecDepth 100000 in
def wp_V_sizeOf (post : Int32 → St → Prop) (l0 : Int64) (x : St) : Prop := post ((l0 &&& 255) : Int64).toInt32 x
set_option maxHeartbeats 4000000 in
set_option maxRecDepth 100000 in
theorem t_V_sizeOf_e {p : Program} {l : Launch} {e : Env} {R : Room} {s : State} {m : MethodId} {args : Array Value} {below : List Frame} {meth : Method} {c : Code} {cells slots : Nat} {Q : State → Prop} {dC : Nat → ClassId} {dI : Nat → Nat → Nat} {cI cB cJ cZ : ClassId} {A : Nat → Prop} {ad : Nat → Nat} {NN : Nat} {E : Heap} {tM tC : Nat} {kK kV : Nat → Nat} {post : Int32 → St → Prop} (hx : p.tables.exec = Jvm.exec) (hb : c.code = b_V_sizeOf) (hml : c.maxLocals = 2) (hown : s.vm.findClass R_V = some m.cls) (hT : ∀ w ∈ TG, w.before args s = true) (hK : va_K (dC, dI) CL (TY cI cB cJ cZ) s) (hN : NW s) (hA : ∀ q : Nat, s.heap.size ≤ q → A q) (hRc : cells ≤ R.cells) (hRs : slots ≤ R.slots) (hRf : 0 ≤ R.frames) (hRl : 0 ≤ R.locals) (hNN : 152 ≤ NN) (hE : CE E tM tC kK kV A s) (hret : ∀ (r : Int32) (x : St) (H : Heap) (locs : List Loc) (pc : Nat) (ls : Array Slot), decode b_V_sizeOf pc = .ok (.ireturn, 1) → post r x → Wd dC dI cI cB cJ cZ ad stC kcC NN A x H → va_S A s.heap H locs → W p l e R s m args below meth c H locs cells slots Q (F0 m pc ls [.int r])) : ∀ (l0 : Int64) (x : St) (H : Heap) (locs : List Loc) (ls : Array Slot), wp_V_sizeOf post l0 x → Wd dC dI cI cB cJ cZ ad stC kcC NN A x H → va_S A s.heap H locs → lv_has ls 2 [(0, .long l0)] → W p l e R s m args below meth c H locs cells slots Q (F0 m 0 ls []) := by
  intro l0 x H locs ls  hw hW hS hl
  unfold wp_V_sizeOf at hw
  refine lv_lload_n hx hb d_V_sizeOf_0 rfl (lv_at hl 0 rfl) ?_
  refine lv_ldc2 hx hb hown (hT _ w_5_162) d_V_sizeOf_1 ?_
  refine lv_land hx hb d_V_sizeOf_4 ?_
  refine lv_l2i hx hb d_V_sizeOf_5 rfl ?_
  exact hret ((l0 &&& 255) : Int64).toInt32 x H locs 6 ls d_V_sizeOf_6 hw hW hS
set_option maxHeartbeats 4000000 in
set_option maxRecDepth 100000 in
theorem k_V_sizeOf (l : Launch) (dC : Nat → ClassId) (dI : Nat → Nat → Nat) (cI cB cJ cZ : ClassId) (ad : Nat → Nat) (NN : Nat) (E : Heap) (tM tC : Nat) (kK kV : Nat → Nat) (hNN : 152 ≤ NN) (sz : Nat) (l0 : Int64) (x : St) {post : Int32 → St → Prop} (hw : wp_V_sizeOf post l0 x) : Met l y_V_sizeOf (wsOf y_V_sizeOf b_V_sizeOf 2 (some (.int))) ({ frames := 0, cells := 0, slots := 0, locals := 0 }) (va_Pc [.long l0] (PV dC dI cI cB cJ cZ ad stC kcC NN E tM tC kK kV sz x)) (va_Qi (fun (r : Int32) (y : St) => post r y) (fun y t => Wd dC dI cI cB cJ cZ ad stC kcC NN (va_A (pic ad stC kcC NN cI cB cJ cZ x) sz) y t.heap) (va_A (pic ad stC kcC NN cI cB cJ cZ x) sz)) 0 0 (va_A (pic ad stC kcC NN cI cB cJ cZ x) sz) := by
  refine Met.ofW (cc := b_V_sizeOf) (maxL := 2) (ret := some (.int)) (by decide) rfl ?_
  intro p e s m args below meth c s₁ B hml hv
  obtain ⟨rfl, ⟨hsz, hW0, hK, hN⟩, hE⟩ := hv
  have hx := B.exec
  have hb := B.bytes
  have hr := B.returns
  have hts := atoms_spec B.pre
  have hT : ∀ w ∈ TG, w.before _ s = true := fun w h => hts w (List.mem_cons_of_mem _ h)
  have hown : s.vm.findClass R_V = some m.cls := findClass_of_methodNamed B.named
  have hlocks := B.notSynchronized
  subst hsz
  have hW : Wd dC dI cI cB cJ cZ ad stC kcC NN (va_A (pic ad stC kcC NN cI cB cJ cZ x) s.heap.size) x s.heap := ⟨hW0.1, hW0.2.1.self (sz := s.heap.size), hW0.2.2⟩
  generalize hAe : va_A (pic ad stC kcC NN cI cB cJ cZ x) s.heap.size = A at hW hE ⊢
  have hA : ∀ q : Nat, s.heap.size ≤ q → A q := fun q h => by rw [← hAe]; exact Or.inr h
  have hS : va_S A s.heap s.heap [] := va_S.rf
  have hl := lv_entry ([.long l0]) (n := 2) (Nat.le_of_ble_eq_true rfl)
  rw [lg_entry_eq]
  generalize (lg_sl ([.long l0]) ++ List.replicate (2 - (lg_sl ([.long l0])).length) Slot.unset).toArray = ls at hl ⊢
  have hl : lv_has ls 2 [(0, .long l0)] := hl
  exact t_V_sizeOf_e hx hb hml hown hT hK hN hA (Nat.le_refl 0) (Nat.le_refl 0) (Nat.le_refl 0) (Nat.le_refl 0) hNN hE (fun r x H locs pc ls hd hp hW hS => W.iret (v := r) hx hb hr (fun t ht hM => ⟨⟨r, x, rfl, hp, Wd.back hW ht.symm (fun _ z => z)⟩, hS.F ht⟩) hS.2.2 hd hlocks)  l0 x _ _ ls  hw hW hS hl
set_option maxRecDepth 100000 in
def j_Wrt_takeEntries_142 (post : St → Prop) (o : Nat) (l1 : Int32) (l2 : Int32) (l3 : Int32) (l4 : Int32) (l5 : Int32) (x : St) : Prop := (vp_in l1 (fN x (stC o 7)) ∧ ∀ x3273 : St, x3273 = setA x (stC o 7) l1 l4 → post x3273)
set_option maxHeartbeats 4000000 in
set_option maxRecDepth 100000 in
theorem t_Wrt_takeEntries_142 {p : Program} {l : Launch} {e : Env} {R : Room} {s : State} {m : MethodId} {args : Array Value} {below : List Frame} {meth : Method} {c : Code} {cells slots : Nat} {Q : State → Prop} {dC : Nat → ClassId} {dI : Nat → Nat → Nat} {cI cB cJ cZ : ClassId} {A : Nat → Prop} {ad : Nat → Nat} {NN : Nat} {E : Heap} {tM tC : Nat} {kK kV : Nat → Nat} {post : St → Prop} (hx : p.tables.exec = Jvm.exec) (hb : c.code = b_Wrt_takeEntries) (hml : c.maxLocals = 6) (hown : s.vm.findClass R_Wrt = some m.cls) (hT : ∀ w ∈ TG, w.before args s = true) (hK : va_K (dC, dI) CL (TY cI cB cJ cZ) s) (hN : NW s) (hA : ∀ q : Nat, s.heap.size ≤ q → A q) (hRc : cells ≤ R.cells) (hRs : slots ≤ R.slots) (hRf : 0 ≤ R.frames) (hRl : 0 ≤ R.locals) (hNN : 152 ≤ NN) (hE : CE E tM tC kK kV A s) (hret : ∀ (x : St) (H : Heap) (locs : List Loc) (pc : Nat) (ls : Array Slot), decode b_Wrt_takeEntries pc = .ok (.return_, 1) → post x → Wd dC dI cI cB cJ cZ ad stC kcC NN A x H → va_S A s.heap H locs → W p l e R s m args below meth c H locs cells slots Q (F0 m pc ls []))  : ∀ (o : Nat) (l1 : Int32) (l2 : Int32) (l3 : Int32) (l4 : Int32) (l5 : Int32) (x : St) (H : Heap) (locs : List Loc) (ls : Array Slot), (o < NN ∧ kcC o = 5) → j_Wrt_takeEntries_142 post o l1 l2 l3 l4 l5 x → Wd dC dI cI cB cJ cZ ad stC kcC NN A x H → va_S A s.heap H locs → lv_has ls 6 [(0, .ref (ad o)), (1, .int l1), (2, .int l2), (3, .int l3), (4, .int l4), (5, .int l5)] → W p l e R s m args below meth c H locs cells slots Q (F0 m 142 ls []) := by
  intro o l1 l2 l3 l4 l5 x H locs ls fo hw hW hS hl
  unfold j_Wrt_takeEntries_142 at hw
  refine lv_aload_n hx hb d_Wrt_takeEntries_142 rfl (lv_at hl 0 rfl) ?_
  refine w_getf (q := (stC o 7)) (k := 7) (t := 5) (C := R_Wrt) (T := F_Wrt) (N := 20) hx hb hT hown hK hW fo.1 fo.2 (by decide) in_Wrt rfl rfl (by decide) rfl fr_Wrt_7 w_2_58 d_Wrt_takeEntries_143 rfl ?_
  refine lv_iload_n hx hb d_Wrt_takeEntries_146 rfl (lv_at hl 1 rfl) ?_
  refine lv_iload hx hb d_Wrt_takeEntries_147 (lv_at hl 4 rfl) ?_
  obtain ⟨hi, hw⟩ := hw
  refine w_iast (o := (stC o 7)) hx hb hK hW hS (st_ty hNN fo.1 fo.2 rfl).1 (st_ty hNN fo.1 fo.2 rfl).2 hi d_Wrt_takeEntries_149 (fun H locs hW hS => ?_)
  obtain ⟨x3273, ex3273⟩ : ∃ y : St, y = setA x (stC o 7) l1 l4 := ⟨_, rfl⟩
  rw [← ex3273] at hW
  have hw := hw x3273 ex3273
  exact hret x3273 H locs 150 ls d_Wrt_takeEntries_150 hw hW hS
set_option maxRecDepth 100000 in
def j_Wrt_takeEntries_124 (post : St → Prop) (rec11 : Nat → Int32 → Int32 → Int32 → Int32 → Int32 → St → Prop) (o : Nat) (l1 : Int32) (l2 : Int32) (l3 : Int32) (l4 : Int32) (l5 : Int32) (x : St) : Prop := (∃ q3274 : Nat, fR x o 6 = some q3274 ∧ (vp_in l4 (fN x (stC q3274 9)) ∧ (∀ v3275 : Int32, v3275 = (rA x (stC q3274 9) l4) → rec11 o l1 l2 l3 v3275 (l5 + 1) x)))
set_option maxHeartbeats 4000000 in
set_option maxRecDepth 100000 in
theorem t_Wrt_takeEntries_124 {p : Program} {l : Launch} {e : Env} {R : Room} {s : State} {m : MethodId} {args : Array Value} {below : List Frame} {meth : Method} {c : Code} {cells slots : Nat} {Q : State → Prop} {dC : Nat → ClassId} {dI : Nat → Nat → Nat} {cI cB cJ cZ : ClassId} {A : Nat → Prop} {ad : Nat → Nat} {NN : Nat} {E : Heap} {tM tC : Nat} {kK kV : Nat → Nat} {post : St → Prop} {rec11 : Nat → Int32 → Int32 → Int32 → Int32 → Int32 → St → Prop} (hx : p.tables.exec = Jvm.exec) (hb : c.code = b_Wrt_takeEntries) (hml : c.maxLocals = 6) (hown : s.vm.findClass R_Wrt = some m.cls) (hT : ∀ w ∈ TG, w.before args s = true) (hK : va_K (dC, dI) CL (TY cI cB cJ cZ) s) (hN : NW s) (hA : ∀ q : Nat, s.heap.size ≤ q → A q) (hRc : cells ≤ R.cells) (hRs : slots ≤ R.slots) (hRf : 0 ≤ R.frames) (hRl : 0 ≤ R.locals) (hNN : 152 ≤ NN) (hE : CE E tM tC kK kV A s) (hret : ∀ (x : St) (H : Heap) (locs : List Loc) (pc : Nat) (ls : Array Slot), decode b_Wrt_takeEntries pc = .ok (.return_, 1) → post x → Wd dC dI cI cB cJ cZ ad stC kcC NN A x H → va_S A s.heap H locs → W p l e R s m args below meth c H locs cells slots Q (F0 m pc ls [])) (hrec11 : ∀ (o : Nat) (l1 : Int32) (l2 : Int32) (l3 : Int32) (l4 : Int32) (l5 : Int32) (x : St) (H : Heap) (locs : List Loc) (ls : Array Slot), (o < NN ∧ kcC o = 5) → rec11 o l1 l2 l3 l4 l5 x → Wd dC dI cI cB cJ cZ ad stC kcC NN A x H → va_S A s.heap H locs → lv_has ls 6 [(0, .ref (ad o)), (1, .int l1), (2, .int l2), (3, .int l3), (4, .int l4), (5, .int l5)] → W p l e R s m args below meth c H locs cells slots Q (F0 m 11 ls [])) : ∀ (o : Nat) (l1 : Int32) (l2 : Int32) (l3 : Int32) (l4 : Int32) (l5 : Int32) (x : St) (H : Heap) (locs : List Loc) (ls : Array Slot), (o < NN ∧ kcC o = 5) → j_Wrt_takeEntries_124 post rec11 o l1 l2 l3 l4 l5 x → Wd dC dI cI cB cJ cZ ad stC kcC NN A x H → va_S A s.heap H locs → lv_has ls 6 [(0, .ref (ad o)), (1, .int l1), (2, .int l2), (3, .int l3), (4, .int l4), (5, .int l5)] → W p l e R s m args below meth c H locs cells slots Q (F0 m 124 ls []) := by
  intro o l1 l2 l3 l4 l5 x H locs ls fo hw hW hS hl
  unfold j_Wrt_takeEntries_124 at hw
  refine lv_aload_n hx hb d_Wrt_takeEntries_124 rfl (lv_at hl 0 rfl) ?_
  obtain ⟨q3274, hq3274, hw⟩ := hw
  refine w_getr (q := q3274) (k := 6) (t := 5) (C := R_Wrt) (T := F_Wrt) (N := 20) hx hb hT hown hK hW fo.1 fo.2 (by decide) in_Wrt rfl rfl (by decide) rfl fr_Wrt_6 w_2_57 d_Wrt_takeEntries_125 hq3274 (fun aq3274 bq3274 => ?_)
  have fq3274 : q3274 < NN ∧ kcC q3274 = 4 := ⟨aq3274, bq3274⟩
  refine w_getf (q := (stC q3274 9)) (k := 9) (t := 4) (C := R_Rec) (T := F_Rec) (N := 15) hx hb hT hown hK hW fq3274.1 fq3274.2 (by decide) in_Rec rfl rfl (by decide) rfl fr_Rec_9 w_2_2 d_Wrt_takeEntries_128 rfl ?_
  refine lv_iload hx hb d_Wrt_takeEntries_131 (lv_at hl 4 rfl) ?_
  obtain ⟨hi, hw⟩ := hw
  refine w_iald (o := (stC q3274 9)) hx hb hK hW (st_ty hNN fq3274.1 fq3274.2 rfl).1 (st_ty hNN fq3274.1 fq3274.2 rfl).2 hi d_Wrt_takeEntries_133 ?_
  refine lv_topi (fun v3275 ev3275 => ?_)
  have hw := hw v3275 ev3275
  refine lv_istore (lv' := [(4, .int v3275), (0, .ref (ad o)), (1, .int l1), (2, .int l2), (3, .int l3), (5, .int l5)]) hx hb d_Wrt_takeEntries_134 hl (by decide) rfl (fun ls hl => ?_)
  refine lv_iinc (v := (l5 + 1)) (lv' := [(5, .int (l5 + 1)), (4, .int v3275), (0, .ref (ad o)), (1, .int l1), (2, .int l2), (3, .int l3)]) hx hb d_Wrt_takeEntries_136 hl (k := 5) rfl rfl (by decide) rfl (fun ls hl => ?_)
  refine lv_goto (tgt := 11) hx hb d_Wrt_takeEntries_139 (by decide) ?_
  exact hrec11 o l1 l2 l3 v3275 (l5 + 1) x H locs ls fo hw hW hS (lv_sub hl [2, 3, 4, 5, 1, 0] rfl)
set_option maxRecDepth 100000 in
def j_Wrt_takeEntries_11 (post : St → Prop) (rec11 : Nat → Int32 → Int32 → Int32 → Int32 → Int32 → St → Prop) (o : Nat) (l1 : Int32) (l2 : Int32) (l3 : Int32) (l4 : Int32) (l5 : Int32) (x : St) : Prop := ((l2 ≤ l5 → j_Wrt_takeEntries_142 post o l1 l2 l3 l4 l5 x) ∧ (¬ l2 ≤ l5 → ((l4 = (-1) → j_Wrt_takeEntries_142 post o l1 l2 l3 l4 l5 x) ∧ (¬ l4 = (-1) → ((1000 ≤ (fI x o 11) → j_Wrt_takeEntries_142 post o l1 l2 l3 l4 l5 x) ∧ (¬ 1000 ≤ (fI x o 11) → (∃ q3279 : Nat, fR x o 6 = some q3279 ∧ (vp_in l4 (fN x (stC q3279 5)) ∧ (vp_in (fI x o 11) (fN x (stC o 8)) ∧ ∀ x3280 : St, x3280 = setA x (stC o 8) (fI x o 11) (rA x (stC q3279 5) l4) → (∃ q3281 : Nat, fR x3280 o 6 = some q3281 ∧ (vp_in l4 (fN x3280 (stC q3281 6)) ∧ (vp_in (fI x3280 o 11) (fN x3280 (stC o 9)) ∧ ∀ x3282 : St, x3282 = setA x3280 (stC o 9) (fI x3280 o 11) (rA x3280 (stC q3281 6) l4) → (∀ x3283 : St, x3283 = setI x3282 o 11 ((fI x3282 o 11) + 1) → (∃ q3284 : Nat, fR x3283 o 6 = some q3284 ∧ (vp_in l4 (fN x3283 (stC q3284 6)) ∧ ((¬ (rA x3283 (stC q3284 6) l4) = l3 → j_Wrt_takeEntries_124 post rec11 o l1 l2 l3 l4 l5 x3283) ∧ ((rA x3283 (stC q3284 6) l4) = l3 → (∃ q3286 : Nat, fR x3283 o 6 = some q3286 ∧ (vp_in l4 (fN x3283 (stC q3286 7)) ∧ (vp_in (fI x3283 o 12) (fN x3283 (stC o 10)) ∧ ∀ x3287 : St, x3287 = setL x3283 (stC o 10) (fI x3283 o 12) (rL x3283 (stC q3286 7) l4) → (∀ x3288 : St, x3288 = setI x3287 o 12 ((fI x3287 o 12) + 1) → j_Wrt_takeEntries_124 post rec11 o l1 l2 l3 l4 l5 x3288)))))))))))))))))))))
set_option maxHeartbeats 4000000 in
set_option maxRecDepth 100000 in
theorem t_Wrt_takeEntries_11 {p : Program} {l : Launch} {e : Env} {R : Room} {s : State} {m : MethodId} {args : Array Value} {below : List Frame} {meth : Method} {c : Code} {cells slots : Nat} {Q : State → Prop} {dC : Nat → ClassId} {dI : Nat → Nat → Nat} {cI cB cJ cZ : ClassId} {A : Nat → Prop} {ad : Nat → Nat} {NN : Nat} {E : Heap} {tM tC : Nat} {kK kV : Nat → Nat} {post : St → Prop} {rec11 : Nat → Int32 → Int32 → Int32 → Int32 → Int32 → St → Prop} (hx : p.tables.exec = Jvm.exec) (hb : c.code = b_Wrt_takeEntries) (hml : c.maxLocals = 6) (hown : s.vm.findClass R_Wrt = some m.cls) (hT : ∀ w ∈ TG, w.before args s = true) (hK : va_K (dC, dI) CL (TY cI cB cJ cZ) s) (hN : NW s) (hA : ∀ q : Nat, s.heap.size ≤ q → A q) (hRc : cells ≤ R.cells) (hRs : slots ≤ R.slots) (hRf : 0 ≤ R.frames) (hRl : 0 ≤ R.locals) (hNN : 152 ≤ NN) (hE : CE E tM tC kK kV A s) (hret : ∀ (x : St) (H : Heap) (locs : List Loc) (pc : Nat) (ls : Array Slot), decode b_Wrt_takeEntries pc = .ok (.return_, 1) → post x → Wd dC dI cI cB cJ cZ ad stC kcC NN A x H → va_S A s.heap H locs → W p l e R s m args below meth c H locs cells slots Q (F0 m pc ls [])) (hrec11 : ∀ (o : Nat) (l1 : Int32) (l2 : Int32) (l3 : Int32) (l4 : Int32) (l5 : Int32) (x : St) (H : Heap) (locs : List Loc) (ls : Array Slot), (o < NN ∧ kcC o = 5) → rec11 o l1 l2 l3 l4 l5 x → Wd dC dI cI cB cJ cZ ad stC kcC NN A x H → va_S A s.heap H locs → lv_has ls 6 [(0, .ref (ad o)), (1, .int l1), (2, .int l2), (3, .int l3), (4, .int l4), (5, .int l5)] → W p l e R s m args below meth c H locs cells slots Q (F0 m 11 ls [])) : ∀ (o : Nat) (l1 : Int32) (l2 : Int32) (l3 : Int32) (l4 : Int32) (l5 : Int32) (x : St) (H : Heap) (locs : List Loc) (ls : Array Slot), (o < NN ∧ kcC o = 5) → j_Wrt_takeEntries_11 post rec11 o l1 l2 l3 l4 l5 x → Wd dC dI cI cB cJ cZ ad stC kcC NN A x H → va_S A s.heap H locs → lv_has ls 6 [(0, .ref (ad o)), (1, .int l1), (2, .int l2), (3, .int l3), (4, .int l4), (5, .int l5)] → W p l e R s m args below meth c H locs cells slots Q (F0 m 11 ls []) := by
  intro o l1 l2 l3 l4 l5 x H locs ls fo hw hW hS hl
  unfold j_Wrt_takeEntries_11 at hw
  refine lv_iload hx hb d_Wrt_takeEntries_11 (lv_at hl 5 rfl) ?_
  refine lv_iload_n hx hb d_Wrt_takeEntries_13 rfl (lv_at hl 2 rfl) ?_
  refine lv_icmp_ge (tgt := 142) hx hb d_Wrt_takeEntries_14 (by decide) (fun c3276 => ?_) (fun c3276 => ?_)
  · have hw := hw.1 c3276
    exact t_Wrt_takeEntries_142 hx hb hml hown hT hK hN hA hRc hRs hRf hRl hNN hE hret  o l1 l2 l3 l4 l5 x H locs ls fo hw hW hS (lv_sub hl [0, 1, 2, 3, 4, 5] rfl)
  · have hw := hw.2 c3276
    refine lv_iload hx hb d_Wrt_takeEntries_17 (lv_at hl 4 rfl) ?_
    refine lv_iconst (v := (-1)) hx hb d_Wrt_takeEntries_19 (by decide) ?_
    refine lv_icmp_eq (tgt := 142) hx hb d_Wrt_takeEntries_20 (by decide) (fun c3277 => ?_) (fun c3277 => ?_)
    · have hw := hw.1 c3277
      exact t_Wrt_takeEntries_142 hx hb hml hown hT hK hN hA hRc hRs hRf hRl hNN hE hret  o l1 l2 l3 l4 l5 x H locs ls fo hw hW hS (lv_sub hl [0, 1, 2, 3, 4, 5] rfl)
    · have hw := hw.2 c3277
      refine lv_aload_n hx hb d_Wrt_takeEntries_23 rfl (lv_at hl 0 rfl) ?_
      refine w_geti (k := 11) (t := 5) (C := R_Wrt) (T := F_Wrt) (N := 20) hx hb hT hown hK hW fo.1 fo.2 (by decide) in_Wrt rfl rfl (by decide) rfl fr_Wrt_11 w_2_62 d_Wrt_takeEntries_24 ?_
      refine lv_sipush (v := 1000) hx hb d_Wrt_takeEntries_27 (by decide) ?_
      refine lv_icmp_ge (tgt := 142) hx hb d_Wrt_takeEntries_30 (by decide) (fun c3278 => ?_) (fun c3278 => ?_)
      · have hw := hw.1 c3278
        exact t_Wrt_takeEntries_142 hx hb hml hown hT hK hN hA hRc hRs hRf hRl hNN hE hret  o l1 l2 l3 l4 l5 x H locs ls fo hw hW hS (lv_sub hl [0, 1, 2, 3, 4, 5] rfl)
      · have hw := hw.2 c3278
        refine lv_aload_n hx hb d_Wrt_takeEntries_33 rfl (lv_at hl 0 rfl) ?_
        refine w_getf (q := (stC o 8)) (k := 8) (t := 5) (C := R_Wrt) (T := F_Wrt) (N := 20) hx hb hT hown hK hW fo.1 fo.2 (by decide) in_Wrt rfl rfl (by decide) rfl fr_Wrt_8 w_2_59 d_Wrt_takeEntries_34 rfl ?_
        refine lv_aload_n hx hb d_Wrt_takeEntries_37 rfl (lv_at hl 0 rfl) ?_
        refine w_geti (k := 11) (t := 5) (C := R_Wrt) (T := F_Wrt) (N := 20) hx hb hT hown hK hW fo.1 fo.2 (by decide) in_Wrt rfl rfl (by decide) rfl fr_Wrt_11 w_2_62 d_Wrt_takeEntries_38 ?_
        refine lv_aload_n hx hb d_Wrt_takeEntries_41 rfl (lv_at hl 0 rfl) ?_
        obtain ⟨q3279, hq3279, hw⟩ := hw
        refine w_getr (q := q3279) (k := 6) (t := 5) (C := R_Wrt) (T := F_Wrt) (N := 20) hx hb hT hown hK hW fo.1 fo.2 (by decide) in_Wrt rfl rfl (by decide) rfl fr_Wrt_6 w_2_57 d_Wrt_takeEntries_42 hq3279 (fun aq3279 bq3279 => ?_)
        have fq3279 : q3279 < NN ∧ kcC q3279 = 4 := ⟨aq3279, bq3279⟩
        refine w_getf (q := (stC q3279 5)) (k := 5) (t := 4) (C := R_Rec) (T := F_Rec) (N := 15) hx hb hT hown hK hW fq3279.1 fq3279.2 (by decide) in_Rec rfl rfl (by decide) rfl fr_Rec_5 w_1_235 d_Wrt_takeEntries_45 rfl ?_
        refine lv_iload hx hb d_Wrt_takeEntries_48 (lv_at hl 4 rfl) ?_
        obtain ⟨hi, hw⟩ := hw
        refine w_bald (o := (stC q3279 5)) hx hb hK hW (st_ty hNN fq3279.1 fq3279.2 rfl).1 (st_ty hNN fq3279.1 fq3279.2 rfl).2 hi d_Wrt_takeEntries_50 ?_
        obtain ⟨hi, hw⟩ := hw
        refine w_iast (o := (stC o 8)) hx hb hK hW hS (st_ty hNN fo.1 fo.2 rfl).1 (st_ty hNN fo.1 fo.2 rfl).2 hi d_Wrt_takeEntries_51 (fun H locs hW hS => ?_)
        obtain ⟨x3280, ex3280⟩ : ∃ y : St, y = setA x (stC o 8) (fI x o 11) (rA x (stC q3279 5) l4) := ⟨_, rfl⟩
        rw [← ex3280] at hW
        have hw := hw x3280 ex3280
        refine lv_aload_n hx hb d_Wrt_takeEntries_52 rfl (lv_at hl 0 rfl) ?_
        refine w_getf (q := (stC o 9)) (k := 9) (t := 5) (C := R_Wrt) (T := F_Wrt) (N := 20) hx hb hT hown hK hW fo.1 fo.2 (by decide) in_Wrt rfl rfl (by decide) rfl fr_Wrt_9 w_2_60 d_Wrt_takeEntries_53 rfl ?_
        refine lv_aload_n hx hb d_Wrt_takeEntries_56 rfl (lv_at hl 0 rfl) ?_
        refine w_geti (k := 11) (t := 5) (C := R_Wrt) (T := F_Wrt) (N := 20) hx hb hT hown hK hW fo.1 fo.2 (by decide) in_Wrt rfl rfl (by decide) rfl fr_Wrt_11 w_2_62 d_Wrt_takeEntries_57 ?_
        refine lv_aload_n hx hb d_Wrt_takeEntries_60 rfl (lv_at hl 0 rfl) ?_
        obtain ⟨q3281, hq3281, hw⟩ := hw
        refine w_getr (q := q3281) (k := 6) (t := 5) (C := R_Wrt) (T := F_Wrt) (N := 20) hx hb hT hown hK hW fo.1 fo.2 (by decide) in_Wrt rfl rfl (by decide) rfl fr_Wrt_6 w_2_57 d_Wrt_takeEntries_61 hq3281 (fun aq3281 bq3281 => ?_)
        have fq3281 : q3281 < NN ∧ kcC q3281 = 4 := ⟨aq3281, bq3281⟩
        refine w_getf (q := (stC q3281 6)) (k := 6) (t := 4) (C := R_Rec) (T := F_Rec) (N := 15) hx hb hT hown hK hW fq3281.1 fq3281.2 (by decide) in_Rec rfl rfl (by decide) rfl fr_Rec_6 w_1_237 d_Wrt_takeEntries_64 rfl ?_
        refine lv_iload hx hb d_Wrt_takeEntries_67 (lv_at hl 4 rfl) ?_
        obtain ⟨hi, hw⟩ := hw
        refine w_bald (o := (stC q3281 6)) hx hb hK hW (st_ty hNN fq3281.1 fq3281.2 rfl).1 (st_ty hNN fq3281.1 fq3281.2 rfl).2 hi d_Wrt_takeEntries_69 ?_
        obtain ⟨hi, hw⟩ := hw
        refine w_iast (o := (stC o 9)) hx hb hK hW hS (st_ty hNN fo.1 fo.2 rfl).1 (st_ty hNN fo.1 fo.2 rfl).2 hi d_Wrt_takeEntries_70 (fun H locs hW hS => ?_)
        obtain ⟨x3282, ex3282⟩ : ∃ y : St, y = setA x3280 (stC o 9) (fI x3280 o 11) (rA x3280 (stC q3281 6) l4) := ⟨_, rfl⟩
        rw [← ex3282] at hW
        have hw := hw x3282 ex3282
        refine lv_aload_n hx hb d_Wrt_takeEntries_71 rfl (lv_at hl 0 rfl) ?_
        refine lv_dup hx hb d_Wrt_takeEntries_72 rfl ?_
        refine w_geti (k := 11) (t := 5) (C := R_Wrt) (T := F_Wrt) (N := 20) hx hb hT hown hK hW fo.1 fo.2 (by decide) in_Wrt rfl rfl (by decide) rfl fr_Wrt_11 w_2_62 d_Wrt_takeEntries_73 ?_
        refine lv_iconst (v := 1) hx hb d_Wrt_takeEntries_76 (by decide) ?_
        refine lv_iadd hx hb d_Wrt_takeEntries_77 ?_
        refine w_puti (ty := .int) (k := 11) (t := 5) (C := R_Wrt) (T := F_Wrt) (N := 20) hx hb hT hown hK hW hS fo.1 fo.2 (by decide) in_Wrt t_Wrt t_Wrt_ok n_Wrt rfl rfl (by decide) rfl fr_Wrt_11 w_2_62 (by decide +kernel) rfl rfl d_Wrt_takeEntries_78 (fun H locs hW hS => ?_)
        obtain ⟨x3283, ex3283⟩ : ∃ y : St, y = setI x3282 o 11 ((fI x3282 o 11) + 1) := ⟨_, rfl⟩
        rw [← ex3283] at hW
        have hw := hw x3283 ex3283
        refine lv_aload_n hx hb d_Wrt_takeEntries_81 rfl (lv_at hl 0 rfl) ?_
        obtain ⟨q3284, hq3284, hw⟩ := hw
        refine w_getr (q := q3284) (k := 6) (t := 5) (C := R_Wrt) (T := F_Wrt) (N := 20) hx hb hT hown hK hW fo.1 fo.2 (by decide) in_Wrt rfl rfl (by decide) rfl fr_Wrt_6 w_2_57 d_Wrt_takeEntries_82 hq3284 (fun aq3284 bq3284 => ?_)
        have fq3284 : q3284 < NN ∧ kcC q3284 = 4 := ⟨aq3284, bq3284⟩
        refine w_getf (q := (stC q3284 6)) (k := 6) (t := 4) (C := R_Rec) (T := F_Rec) (N := 15) hx hb hT hown hK hW fq3284.1 fq3284.2 (by decide) in_Rec rfl rfl (by decide) rfl fr_Rec_6 w_1_237 d_Wrt_takeEntries_85 rfl ?_
        refine lv_iload hx hb d_Wrt_takeEntries_88 (lv_at hl 4 rfl) ?_
        obtain ⟨hi, hw⟩ := hw
        refine w_bald (o := (stC q3284 6)) hx hb hK hW (st_ty hNN fq3284.1 fq3284.2 rfl).1 (st_ty hNN fq3284.1 fq3284.2 rfl).2 hi d_Wrt_takeEntries_90 ?_
        refine lv_iload_n hx hb d_Wrt_takeEntries_91 rfl (lv_at hl 3 rfl) ?_
        refine lv_icmp_ne (tgt := 124) hx hb d_Wrt_takeEntries_92 (by decide) (fun c3285 => ?_) (fun c3285 => ?_)
        · have hw := hw.1 c3285
          exact t_Wrt_takeEntries_124 hx hb hml hown hT hK hN hA hRc hRs hRf hRl hNN hE hret hrec11 o l1 l2 l3 l4 l5 x3283 H locs ls fo hw hW hS (lv_sub hl [0, 1, 2, 3, 4, 5] rfl)
        · have hw := hw.2 c3285
          refine lv_aload_n hx hb d_Wrt_takeEntries_95 rfl (lv_at hl 0 rfl) ?_
          refine w_getf (q := (stC o 10)) (k := 10) (t := 5) (C := R_Wrt) (T := F_Wrt) (N := 20) hx hb hT hown hK hW fo.1 fo.2 (by decide) in_Wrt rfl rfl (by decide) rfl fr_Wrt_10 w_2_61 d_Wrt_takeEntries_96 rfl ?_
          refine lv_aload_n hx hb d_Wrt_takeEntries_99 rfl (lv_at hl 0 rfl) ?_
          refine w_geti (k := 12) (t := 5) (C := R_Wrt) (T := F_Wrt) (N := 20) hx hb hT hown hK hW fo.1 fo.2 (by decide) in_Wrt rfl rfl (by decide) rfl fr_Wrt_12 w_2_63 d_Wrt_takeEntries_100 ?_
          refine lv_aload_n hx hb d_Wrt_takeEntries_103 rfl (lv_at hl 0 rfl) ?_
          obtain ⟨q3286, hq3286, hw⟩ := hw
          refine w_getr (q := q3286) (k := 6) (t := 5) (C := R_Wrt) (T := F_Wrt) (N := 20) hx hb hT hown hK hW fo.1 fo.2 (by decide) in_Wrt rfl rfl (by decide) rfl fr_Wrt_6 w_2_57 d_Wrt_takeEntries_104 hq3286 (fun aq3286 bq3286 => ?_)
          have fq3286 : q3286 < NN ∧ kcC q3286 = 4 := ⟨aq3286, bq3286⟩
          refine w_getf (q := (stC q3286 7)) (k := 7) (t := 4) (C := R_Rec) (T := F_Rec) (N := 15) hx hb hT hown hK hW fq3286.1 fq3286.2 (by decide) in_Rec rfl rfl (by decide) rfl fr_Rec_7 w_1_239 d_Wrt_takeEntries_107 rfl ?_
          refine lv_iload hx hb d_Wrt_takeEntries_110 (lv_at hl 4 rfl) ?_
          obtain ⟨hi, hw⟩ := hw
          refine w_lald (o := (stC q3286 7)) hx hb hK hW (st_ty hNN fq3286.1 fq3286.2 rfl).1 (st_ty hNN fq3286.1 fq3286.2 rfl).2 hi d_Wrt_takeEntries_112 ?_
          obtain ⟨hi, hw⟩ := hw
          refine w_last (o := (stC o 10)) hx hb hK hW hS (st_ty hNN fo.1 fo.2 rfl).1 (st_ty hNN fo.1 fo.2 rfl).2 hi d_Wrt_takeEntries_113 (fun H locs hW hS => ?_)
          obtain ⟨x3287, ex3287⟩ : ∃ y : St, y = setL x3283 (stC o 10) (fI x3283 o 12) (rL x3283 (stC q3286 7) l4) := ⟨_, rfl⟩
          rw [← ex3287] at hW
          have hw := hw x3287 ex3287
          refine lv_aload_n hx hb d_Wrt_takeEntries_114 rfl (lv_at hl 0 rfl) ?_
          refine lv_dup hx hb d_Wrt_takeEntries_115 rfl ?_
          refine w_geti (k := 12) (t := 5) (C := R_Wrt) (T := F_Wrt) (N := 20) hx hb hT hown hK hW fo.1 fo.2 (by decide) in_Wrt rfl rfl (by decide) rfl fr_Wrt_12 w_2_63 d_Wrt_takeEntries_116 ?_
          refine lv_iconst (v := 1) hx hb d_Wrt_takeEntries_119 (by decide) ?_
          refine lv_iadd hx hb d_Wrt_takeEntries_120 ?_
          refine w_puti (ty := .int) (k := 12) (t := 5) (C := R_Wrt) (T := F_Wrt) (N := 20) hx hb hT hown hK hW hS fo.1 fo.2 (by decide) in_Wrt t_Wrt t_Wrt_ok n_Wrt rfl rfl (by decide) rfl fr_Wrt_12 w_2_63 (by decide +kernel) rfl rfl d_Wrt_takeEntries_121 (fun H locs hW hS => ?_)
          obtain ⟨x3288, ex3288⟩ : ∃ y : St, y = setI x3287 o 12 ((fI x3287 o 12) + 1) := ⟨_, rfl⟩
          rw [← ex3288] at hW
          have hw := hw x3288 ex3288
          exact t_Wrt_takeEntries_124 hx hb hml hown hT hK hN hA hRc hRs hRf hRl hNN hE hret hrec11 o l1 l2 l3 l4 l5 x3288 H locs ls fo hw hW hS (lv_sub hl [0, 1, 2, 3, 4, 5] rfl)
def wl_Wrt_takeEntries_11 (post : St → Prop) : Nat → Nat → Int32 → Int32 → Int32 → Int32 → Int32 → St → Prop
  | 0 => fun _ _ _ _ _ _ _ => False
  | n + 1 => j_Wrt_takeEntries_11 post (wl_Wrt_takeEntries_11 post n)
set_option maxHeartbeats 4000000 in
set_option maxRecDepth 100000 in
theorem tl_Wrt_takeEntries_11 {p : Program} {l : Launch} {e : Env} {R : Room} {s : State} {m : MethodId} {args : Array Value} {below : List Frame} {meth : Method} {c : Code} {cells slots : Nat} {Q : State → Prop} {dC : Nat → ClassId} {dI : Nat → Nat → Nat} {cI cB cJ cZ : ClassId} {A : Nat → Prop} {ad : Nat → Nat} {NN : Nat} {E : Heap} {tM tC : Nat} {kK kV : Nat → Nat} {post : St → Prop} (hx : p.tables.exec = Jvm.exec) (hb : c.code = b_Wrt_takeEntries) (hml : c.maxLocals = 6) (hown : s.vm.findClass R_Wrt = some m.cls) (hT : ∀ w ∈ TG, w.before args s = true) (hK : va_K (dC, dI) CL (TY cI cB cJ cZ) s) (hN : NW s) (hA : ∀ q : Nat, s.heap.size ≤ q → A q) (hRc : cells ≤ R.cells) (hRs : slots ≤ R.slots) (hRf : 0 ≤ R.frames) (hRl : 0 ≤ R.locals) (hNN : 152 ≤ NN) (hE : CE E tM tC kK kV A s) (hret : ∀ (x : St) (H : Heap) (locs : List Loc) (pc : Nat) (ls : Array Slot), decode b_Wrt_takeEntries pc = .ok (.return_, 1) → post x → Wd dC dI cI cB cJ cZ ad stC kcC NN A x H → va_S A s.heap H locs → W p l e R s m args below meth c H locs cells slots Q (F0 m pc ls []))  : ∀ n : Nat, ∀ (o : Nat) (l1 : Int32) (l2 : Int32) (l3 : Int32) (l4 : Int32) (l5 : Int32) (x : St) (H : Heap) (locs : List Loc) (ls : Array Slot), (o < NN ∧ kcC o = 5) → wl_Wrt_takeEntries_11 post n o l1 l2 l3 l4 l5 x → Wd dC dI cI cB cJ cZ ad stC kcC NN A x H → va_S A s.heap H locs → lv_has ls 6 [(0, .ref (ad o)), (1, .int l1), (2, .int l2), (3, .int l3), (4, .int l4), (5, .int l5)] → W p l e R s m args below meth c H locs cells slots Q (F0 m 11 ls []) := by
  intro n
  induction n with
  | zero => intro o l1 l2 l3 l4 l5 x H locs ls fo hw; exact hw.elim
  | succ n ih => intro o l1 l2 l3 l4 l5 x H locs ls fo hw hW hS hl; exact t_Wrt_takeEntries_11 hx hb hml hown hT hK hN hA hRc hRs hRf hRl hNN hE hret  ih o l1 l2 l3 l4 l5 x H locs ls fo hw hW hS hl
set_option maxRecDepth 100000 in
def wp_Wrt_takeEntries (post : St → Prop) (o : Nat) (l1 : Int32) (l2 : Int32) (l3 : Int32) (x : St) : Prop := (vp_in l1 (fN x (stC o 7)) ∧ (∀ v3289 : Int32, v3289 = (rA x (stC o 7) l1) → ∃ n : Nat, wl_Wrt_takeEntries_11 post n o l1 l2 l3 v3289 0 x))
set_option maxHeartbeats 4000000 in
set_option maxRecDepth 100000 in
theorem t_Wrt_takeEntries_e {p : Program} {l : Launch} {e : Env} {R : Room} {s : State} {m : MethodId} {args : Array Value} {below : List Frame} {meth : Method} {c : Code} {cells slots : Nat} {Q : State → Prop} {dC : Nat → ClassId} {dI : Nat → Nat → Nat} {cI cB cJ cZ : ClassId} {A : Nat → Prop} {ad : Nat → Nat} {NN : Nat} {E : Heap} {tM tC : Nat} {kK kV : Nat → Nat} {post : St → Prop} (hx : p.tables.exec = Jvm.exec) (hb : c.code = b_Wrt_takeEntries) (hml : c.maxLocals = 6) (hown : s.vm.findClass R_Wrt = some m.cls) (hT : ∀ w ∈ TG, w.before args s = true) (hK : va_K (dC, dI) CL (TY cI cB cJ cZ) s) (hN : NW s) (hA : ∀ q : Nat, s.heap.size ≤ q → A q) (hRc : cells ≤ R.cells) (hRs : slots ≤ R.slots) (hRf : 0 ≤ R.frames) (hRl : 0 ≤ R.locals) (hNN : 152 ≤ NN) (hE : CE E tM tC kK kV A s) (hret : ∀ (x : St) (H : Heap) (locs : List Loc) (pc : Nat) (ls : Array Slot), decode b_Wrt_takeEntries pc = .ok (.return_, 1) → post x → Wd dC dI cI cB cJ cZ ad stC kcC NN A x H → va_S A s.heap H locs → W p l e R s m args below meth c H locs cells slots Q (F0 m pc ls [])) : ∀ (o : Nat) (l1 : Int32) (l2 : Int32) (l3 : Int32) (x : St) (H : Heap) (locs : List Loc) (ls : Array Slot), (o < NN ∧ kcC o = 5) → wp_Wrt_takeEntries post o l1 l2 l3 x → Wd dC dI cI cB cJ cZ ad stC kcC NN A x H → va_S A s.heap H locs → lv_has ls 6 [(0, .ref (ad o)), (1, .int l1), (2, .int l2), (3, .int l3)] → W p l e R s m args below meth c H locs cells slots Q (F0 m 0 ls []) := by
  intro o l1 l2 l3 x H locs ls fo hw hW hS hl
  unfold wp_Wrt_takeEntries at hw
  refine lv_aload_n hx hb d_Wrt_takeEntries_0 rfl (lv_at hl 0 rfl) ?_
  refine w_getf (q := (stC o 7)) (k := 7) (t := 5) (C := R_Wrt) (T := F_Wrt) (N := 20) hx hb hT hown hK hW fo.1 fo.2 (by decide) in_Wrt rfl rfl (by decide) rfl fr_Wrt_7 w_2_58 d_Wrt_takeEntries_1 rfl ?_
  refine lv_iload_n hx hb d_Wrt_takeEntries_4 rfl (lv_at hl 1 rfl) ?_
  obtain ⟨hi, hw⟩ := hw
  refine w_iald (o := (stC o 7)) hx hb hK hW (st_ty hNN fo.1 fo.2 rfl).1 (st_ty hNN fo.1 fo.2 rfl).2 hi d_Wrt_takeEntries_5 ?_
  refine lv_topi (fun v3289 ev3289 => ?_)
  have hw := hw v3289 ev3289
  refine lv_istore (lv' := [(4, .int v3289), (0, .ref (ad o)), (1, .int l1), (2, .int l2), (3, .int l3)]) hx hb d_Wrt_takeEntries_6 hl (by decide) rfl (fun ls hl => ?_)
  refine lv_iconst (v := 0) hx hb d_Wrt_takeEntries_8 (by decide) ?_
  refine lv_istore (lv' := [(5, .int 0), (4, .int v3289), (0, .ref (ad o)), (1, .int l1), (2, .int l2), (3, .int l3)]) hx hb d_Wrt_takeEntries_9 hl (by decide) rfl (fun ls hl => ?_)
  obtain ⟨n, hw⟩ := hw
  exact tl_Wrt_takeEntries_11 hx hb hml hown hT hK hN hA hRc hRs hRf hRl hNN hE hret  n o l1 l2 l3 v3289 0 x H locs ls fo hw hW hS (lv_sub hl [2, 3, 4, 5, 1, 0] rfl)
set_option maxHeartbeats 4000000 in
set_option maxRecDepth 100000 in
theorem k_Wrt_takeEntries (l : Launch) (dC : Nat → ClassId) (dI : Nat → Nat → Nat) (cI cB cJ cZ : ClassId) (ad : Nat → Nat) (NN : Nat) (E : Heap) (tM tC : Nat) (kK kV : Nat → Nat) (hNN : 152 ≤ NN) (sz : Nat) (o : Nat) (l1 : Int32) (l2 : Int32) (l3 : Int32) (x : St) (fo : o < NN ∧ kcC o = 5) {post : St → Prop} (hw : wp_Wrt_takeEntries post o l1 l2 l3 x) : Met l y_Wrt_takeEntries (wsOf y_Wrt_takeEntries b_Wrt_takeEntries 6 (none)) ({ frames := 0, cells := 0, slots := 0, locals := 0 }) (va_Pc [.ref (ad o), .int l1, .int l2, .int l3] (PV dC dI cI cB cJ cZ ad stC kcC NN E tM tC kK kV sz x)) (va_Qv (fun (y : St) => post y) (fun y t => Wd dC dI cI cB cJ cZ ad stC kcC NN (va_A (pic ad stC kcC NN cI cB cJ cZ x) sz) y t.heap) (va_A (pic ad stC kcC NN cI cB cJ cZ x) sz)) 0 0 (va_A (pic ad stC kcC NN cI cB cJ cZ x) sz) := by
  refine Met.ofW (cc := b_Wrt_takeEntries) (maxL := 6) (ret := none) (by decide) rfl ?_
  intro p e s m args below meth c s₁ B hml hv
  obtain ⟨rfl, ⟨hsz, hW0, hK, hN⟩, hE⟩ := hv
  have hx := B.exec
  have hb := B.bytes
  have hr := B.returns
  have hts := atoms_spec B.pre
  have hT : ∀ w ∈ TG, w.before _ s = true := fun w h => hts w (List.mem_cons_of_mem _ h)
  have hown : s.vm.findClass R_Wrt = some m.cls := findClass_of_methodNamed B.named
  have hlocks := B.notSynchronized
  subst hsz
  have hW : Wd dC dI cI cB cJ cZ ad stC kcC NN (va_A (pic ad stC kcC NN cI cB cJ cZ x) s.heap.size) x s.heap := ⟨hW0.1, hW0.2.1.self (sz := s.heap.size), hW0.2.2⟩
  generalize hAe : va_A (pic ad stC kcC NN cI cB cJ cZ x) s.heap.size = A at hW hE ⊢
  have hA : ∀ q : Nat, s.heap.size ≤ q → A q := fun q h => by rw [← hAe]; exact Or.inr h
  have hS : va_S A s.heap s.heap [] := va_S.rf
  have hl := lv_entry ([.ref (ad o), .int l1, .int l2, .int l3]) (n := 6) (Nat.le_of_ble_eq_true rfl)
  rw [lg_entry_eq]
  generalize (lg_sl ([.ref (ad o), .int l1, .int l2, .int l3]) ++ List.replicate (6 - (lg_sl ([.ref (ad o), .int l1, .int l2, .int l3])).length) Slot.unset).toArray = ls at hl ⊢
  have hl : lv_has ls 6 [(0, .ref (ad o)), (1, .int l1), (2, .int l2), (3, .int l3)] := hl
  exact t_Wrt_takeEntries_e hx hb hml hown hT hK hN hA (Nat.le_refl 0) (Nat.le_refl 0) (Nat.le_refl 0) (Nat.le_refl 0) hNN hE (fun x H locs pc ls hd hp hW hS => W.vret hx hb hr (fun t ht hM => ⟨⟨x, rfl, hp, Wd.back hW ht.symm (fun _ z => z)⟩, hS.F ht⟩) hS.2.2 hd hlocks)  o l1 l2 l3 x _ _ ls fo hw hW hS hl
set_option maxRecDepth 100000 in
def j_Wrt_fillPage_200 (post : Int32 → St → Prop) (rec48 : Nat → Int32 → Int32 → Int32 → Int32 → Int32 → Int32 → Int32 → St → Prop) (o : Nat) (l1 : Int32) (l2 : Int32) (l3 : Int32) (l4 : Int32) (l5 : Int32) (l6 : Int32) (l7 : Int32) (l8 : Int32) (l9 : Int32) (l10 : Int32) (l11 : Int32) (x : St) : Prop := (∃ q3290 : Nat, fR x o 5 = some q3290 ∧ (vp_in l4 (fN x (stC q3290 6)) ∧ wp_Wrt_takeEntries (fun (x3291 : St) => (∀ v3292 : Int32, v3292 = (l6 + l9) → rec48 o l1 l2 l3 l4 l5 v3292 (l7 + 1) x3291)) o l1 l8 (rA x (stC q3290 6) l4) x))
set_option maxHeartbeats 4000000 in
set_option maxRecDepth 100000 in
theorem t_Wrt_fillPage_200 {p : Program} {l : Launch} {e : Env} {R : Room} {s : State} {m : MethodId} {args : Array Value} {below : List Frame} {meth : Method} {c : Code} {cells slots : Nat} {Q : State → Prop} {dC : Nat → ClassId} {dI : Nat → Nat → Nat} {cI cB cJ cZ : ClassId} {A : Nat → Prop} {ad : Nat → Nat} {NN : Nat} {E : Heap} {tM tC : Nat} {kK kV : Nat → Nat} {post : Int32 → St → Prop} {rec48 : Nat → Int32 → Int32 → Int32 → Int32 → Int32 → Int32 → Int32 → St → Prop} (hx : p.tables.exec = Jvm.exec) (hb : c.code = b_Wrt_fillPage) (hml : c.maxLocals = 12) (hown : s.vm.findClass R_Wrt = some m.cls) (hT : ∀ w ∈ TG, w.before args s = true) (hK : va_K (dC, dI) CL (TY cI cB cJ cZ) s) (hN : NW s) (hA : ∀ q : Nat, s.heap.size ≤ q → A q) (hRc : cells ≤ R.cells) (hRs : slots ≤ R.slots) (hRf : 1 ≤ R.frames) (hRl : 25 ≤ R.locals) (hNN : 152 ≤ NN) (hE : CE E tM tC kK kV A s) (hret : ∀ (r : Int32) (x : St) (H : Heap) (locs : List Loc) (pc : Nat) (ls : Array Slot), decode b_Wrt_fillPage pc = .ok (.ireturn, 1) → post r x → Wd dC dI cI cB cJ cZ ad stC kcC NN A x H → va_S A s.heap H locs → W p l e R s m args below meth c H locs cells slots Q (F0 m pc ls [.int r])) (hrec48 : ∀ (o : Nat) (l1 : Int32) (l2 : Int32) (l3 : Int32) (l4 : Int32) (l5 : Int32) (l6 : Int32) (l7 : Int32) (x : St) (H : Heap) (locs : List Loc) (ls : Array Slot), (o < NN ∧ kcC o = 5) → rec48 o l1 l2 l3 l4 l5 l6 l7 x → Wd dC dI cI cB cJ cZ ad stC kcC NN A x H → va_S A s.heap H locs → lv_has ls 12 [(0, .ref (ad o)), (1, .int l1), (2, .int l2), (3, .int l3), (4, .int l4), (5, .int l5), (6, .int l6), (7, .int l7)] → W p l e R s m args below meth c H locs cells slots Q (F0 m 48 ls [])) : ∀ (o : Nat) (l1 : Int32) (l2 : Int32) (l3 : Int32) (l4 : Int32) (l5 : Int32) (l6 : Int32) (l7 : Int32) (l8 : Int32) (l9 : Int32) (l10 : Int32) (l11 : Int32) (x : St) (H : Heap) (locs : List Loc) (ls : Array Slot), (o < NN ∧ kcC o = 5) → j_Wrt_fillPage_200 post rec48 o l1 l2 l3 l4 l5 l6 l7 l8 l9 l10 l11 x → Wd dC dI cI cB cJ cZ ad stC kcC NN A x H → va_S A s.heap H locs → lv_has ls 12 [(0, .ref (ad o)), (1, .int l1), (2, .int l2), (3, .int l3), (4, .int l4), (5, .int l5), (6, .int l6), (7, .int l7), (8, .int l8), (9, .int l9), (10, .int l10), (11, .int l11)] → W p l e R s m args below meth c H locs cells slots Q (F0 m 200 ls []) := by
  intro o l1 l2 l3 l4 l5 l6 l7 l8 l9 l10 l11 x H locs ls fo hw hW hS hl
  unfold j_Wrt_fillPage_200 at hw
  refine lv_aload_n hx hb d_Wrt_fillPage_200 rfl (lv_at hl 0 rfl) ?_
  refine lv_iload_n hx hb d_Wrt_fillPage_201 rfl (lv_at hl 1 rfl) ?_
  refine lv_iload hx hb d_Wrt_fillPage_202 (lv_at hl 8 rfl) ?_
  refine lv_aload_n hx hb d_Wrt_fillPage_204 rfl (lv_at hl 0 rfl) ?_
  obtain ⟨q3290, hq3290, hw⟩ := hw
  refine w_getr (q := q3290) (k := 5) (t := 5) (C := R_Wrt) (T := F_Wrt) (N := 20) hx hb hT hown hK hW fo.1 fo.2 (by decide) in_Wrt rfl rfl (by decide) rfl fr_Wrt_5 w_2_56 d_Wrt_fillPage_205 hq3290 (fun aq3290 bq3290 => ?_)
  have fq3290 : q3290 < NN ∧ kcC q3290 = 3 := ⟨aq3290, bq3290⟩
  refine w_getf (q := (stC q3290 6)) (k := 6) (t := 3) (C := R_Sch) (T := F_Sch) (N := 13) hx hb hT hown hK hW fq3290.1 fq3290.2 (by decide) in_Sch rfl rfl (by decide) rfl fr_Sch_6 w_1_165 d_Wrt_fillPage_208 rfl ?_
  refine lv_iload hx hb d_Wrt_fillPage_211 (lv_at hl 4 rfl) ?_
  obtain ⟨hi, hw⟩ := hw
  refine w_iald (o := (stC q3290 6)) hx hb hK hW (st_ty hNN fq3290.1 fq3290.2 rfl).1 (st_ty hNN fq3290.1 fq3290.2 rfl).2 hi d_Wrt_fillPage_213 ?_
  have hF := hW.free hS hA
  refine va_callv (va_runV (C := R_Wrt) (As := [.int l1, .int l8, .int (rA x (stC q3290 6) l4)]) (rest := []) ⟨hx, hb, hml, hown, hT⟩ (k_Wrt_takeEntries l dC dI cI cB cJ cZ ad NN E tM tC kK kV hNN H.size o l1 l8 (rA x (stC q3290 6) l4) x fo hw) ⟨callB_of 3 hT (gw_in w_5_166) rfl rfl rfl (hT _ w_1_8) (hT _ w_5_163) (by decide +kernel) ⟨Nat.le_trans (by decide) hRf, Nat.le_trans (by decide) hRl⟩, hT _ w_5_165, hT _ ws_19⟩ ⟨PV.blind, va_recv hK hW.1 (ci := 5) (q0 := o) rfl (pic_obj fo.1 fo.2 (by decide)), PV.at _ hW hK hN hE hS hF⟩ rfl rfl hl.1 rfl (lv_room (Nat.le_of_ble_eq_true rfl)) d_Wrt_fillPage_214 ⟨hRc, hRs⟩) hS (fun q _ h => hF q h) hF (fun  x3291 t H locs ht hvm hw hB hz1 hk1 hS => ?_)
  have hW := Wd.back hB ht hF
  clear hB ht hF hz1 hk1 hvm
  refine lv_iload hx hb d_Wrt_fillPage_217 (lv_at hl 6 rfl) ?_
  refine lv_iload hx hb d_Wrt_fillPage_219 (lv_at hl 9 rfl) ?_
  refine lv_iadd hx hb d_Wrt_fillPage_221 ?_
  refine lv_topi (fun v3292 ev3292 => ?_)
  have hw := hw v3292 ev3292
  refine lv_istore (lv' := [(6, .int v3292), (0, .ref (ad o)), (1, .int l1), (2, .int l2), (3, .int l3), (4, .int l4), (5, .int l5), (7, .int l7), (8, .int l8), (9, .int l9), (10, .int l10), (11, .int l11)]) hx hb d_Wrt_fillPage_222 hl (by decide) rfl (fun ls hl => ?_)
  refine lv_iinc (v := (l7 + 1)) (lv' := [(7, .int (l7 + 1)), (6, .int v3292), (0, .ref (ad o)), (1, .int l1), (2, .int l2), (3, .int l3), (4, .int l4), (5, .int l5), (8, .int l8), (9, .int l9), (10, .int l10), (11, .int l11)]) hx hb d_Wrt_fillPage_224 hl (k := 7) rfl rfl (by decide) rfl (fun ls hl => ?_)
  refine lv_goto (tgt := 48) hx hb d_Wrt_fillPage_227 (by decide) ?_
  exact hrec48 o l1 l2 l3 l4 l5 v3292 (l7 + 1) x3291 H locs ls fo hw hW hS (lv_sub hl [2, 3, 4, 5, 6, 7, 1, 0] rfl)
set_option maxRecDepth 100000 in
def j_Wrt_fillPage_197 (post : Int32 → St → Prop) (o : Nat) (l1 : Int32) (l2 : Int32) (l3 : Int32) (l4 : Int32) (l5 : Int32) (l6 : Int32) (l7 : Int32) (l8 : Int32) (l9 : Int32) (l10 : Int32) (l11 : Int32) (x : St) : Prop := post l7 x
set_option maxHeartbeats 4000000 in
set_option maxRecDepth 100000 in
theorem t_Wrt_fillPage_197 {p : Program} {l : Launch} {e : Env} {R : Room} {s : State} {m : MethodId} {args : Array Value} {below : List Frame} {meth : Method} {c : Code} {cells slots : Nat} {Q : State → Prop} {dC : Nat → ClassId} {dI : Nat → Nat → Nat} {cI cB cJ cZ : ClassId} {A : Nat → Prop} {ad : Nat → Nat} {NN : Nat} {E : Heap} {tM tC : Nat} {kK kV : Nat → Nat} {post : Int32 → St → Prop} (hx : p.tables.exec = Jvm.exec) (hb : c.code = b_Wrt_fillPage) (hml : c.maxLocals = 12) (hown : s.vm.findClass R_Wrt = some m.cls) (hT : ∀ w ∈ TG, w.before args s = true) (hK : va_K (dC, dI) CL (TY cI cB cJ cZ) s) (hN : NW s) (hA : ∀ q : Nat, s.heap.size ≤ q → A q) (hRc : cells ≤ R.cells) (hRs : slots ≤ R.slots) (hRf : 1 ≤ R.frames) (hRl : 25 ≤ R.locals) (hNN : 152 ≤ NN) (hE : CE E tM tC kK kV A s) (hret : ∀ (r : Int32) (x : St) (H : Heap) (locs : List Loc) (pc : Nat) (ls : Array Slot), decode b_Wrt_fillPage pc = .ok (.ireturn, 1) → post r x → Wd dC dI cI cB cJ cZ ad stC kcC NN A x H → va_S A s.heap H locs → W p l e R s m args below meth c H locs cells slots Q (F0 m pc ls [.int r]))  : ∀ (o : Nat) (l1 : Int32) (l2 : Int32) (l3 : Int32) (l4 : Int32) (l5 : Int32) (l6 : Int32) (l7 : Int32) (l8 : Int32) (l9 : Int32) (l10 : Int32) (l11 : Int32) (x : St) (H : Heap) (locs : List Loc) (ls : Array Slot), (o < NN ∧ kcC o = 5) → j_Wrt_fillPage_197 post o l1 l2 l3 l4 l5 l6 l7 l8 l9 l10 l11 x → Wd dC dI cI cB cJ cZ ad stC kcC NN A x H → va_S A s.heap H locs → lv_has ls 12 [(0, .ref (ad o)), (1, .int l1), (2, .int l2), (3, .int l3), (4, .int l4), (5, .int l5), (6, .int l6), (7, .int l7), (8, .int l8), (9, .int l9), (10, .int l10), (11, .int l11)] → W p l e R s m args below meth c H locs cells slots Q (F0 m 197 ls []) := by
  intro o l1 l2 l3 l4 l5 l6 l7 l8 l9 l10 l11 x H locs ls fo hw hW hS hl
  unfold j_Wrt_fillPage_197 at hw
  refine lv_iload hx hb d_Wrt_fillPage_197 (lv_at hl 7 rfl) ?_
  exact hret l7 x H locs 199 ls d_Wrt_fillPage_199 hw hW hS
set_option maxRecDepth 100000 in
def j_Wrt_fillPage_172 (post : Int32 → St → Prop) (rec48 : Nat → Int32 → Int32 → Int32 → Int32 → Int32 → Int32 → Int32 → St → Prop) (o : Nat) (l1 : Int32) (l2 : Int32) (l3 : Int32) (l4 : Int32) (l5 : Int32) (l6 : Int32) (l7 : Int32) (l8 : Int32) (l9 : Int32) (l10 : Int32) (s0 : Int32) (x : St) : Prop := ((l8 = 0 → j_Wrt_fillPage_197 post o l1 l2 l3 l4 l5 l6 l7 l8 l9 l10 s0 x) ∧ (¬ l8 = 0 → ((1000 < l8 → j_Wrt_fillPage_197 post o l1 l2 l3 l4 l5 l6 l7 l8 l9 l10 s0 x) ∧ (¬ 1000 < l8 → ((l7 ≤ 0 → j_Wrt_fillPage_200 post rec48 o l1 l2 l3 l4 l5 l6 l7 l8 l9 l10 s0 x) ∧ (¬ l7 ≤ 0 → ((s0 = 0 → j_Wrt_fillPage_200 post rec48 o l1 l2 l3 l4 l5 l6 l7 l8 l9 l10 s0 x) ∧ (¬ s0 = 0 → j_Wrt_fillPage_197 post o l1 l2 l3 l4 l5 l6 l7 l8 l9 l10 s0 x))))))))
set_option maxHeartbeats 4000000 in
set_option maxRecDepth 100000 in
theorem t_Wrt_fillPage_172 {p : Program} {l : Launch} {e : Env} {R : Room} {s : State} {m : MethodId} {args : Array Value} {below : List Frame} {meth : Method} {c : Code} {cells slots : Nat} {Q : State → Prop} {dC : Nat → ClassId} {dI : Nat → Nat → Nat} {cI cB cJ cZ : ClassId} {A : Nat → Prop} {ad : Nat → Nat} {NN : Nat} {E : Heap} {tM tC : Nat} {kK kV : Nat → Nat} {post : Int32 → St → Prop} {rec48 : Nat → Int32 → Int32 → Int32 → Int32 → Int32 → Int32 → Int32 → St → Prop} (hx : p.tables.exec = Jvm.exec) (hb : c.code = b_Wrt_fillPage) (hml : c.maxLocals = 12) (hown : s.vm.findClass R_Wrt = some m.cls) (hT : ∀ w ∈ TG, w.before args s = true) (hK : va_K (dC, dI) CL (TY cI cB cJ cZ) s) (hN : NW s) (hA : ∀ q : Nat, s.heap.size ≤ q → A q) (hRc : cells ≤ R.cells) (hRs : slots ≤ R.slots) (hRf : 1 ≤ R.frames) (hRl : 25 ≤ R.locals) (hNN : 152 ≤ NN) (hE : CE E tM tC kK kV A s) (hret : ∀ (r : Int32) (x : St) (H : Heap) (locs : List Loc) (pc : Nat) (ls : Array Slot), decode b_Wrt_fillPage pc = .ok (.ireturn, 1) → post r x → Wd dC dI cI cB cJ cZ ad stC kcC NN A x H → va_S A s.heap H locs → W p l e R s m args below meth c H locs cells slots Q (F0 m pc ls [.int r])) (hrec48 : ∀ (o : Nat) (l1 : Int32) (l2 : Int32) (l3 : Int32) (l4 : Int32) (l5 : Int32) (l6 : Int32) (l7 : Int32) (x : St) (H : Heap) (locs : List Loc) (ls : Array Slot), (o < NN ∧ kcC o = 5) → rec48 o l1 l2 l3 l4 l5 l6 l7 x → Wd dC dI cI cB cJ cZ ad stC kcC NN A x H → va_S A s.heap H locs → lv_has ls 12 [(0, .ref (ad o)), (1, .int l1), (2, .int l2), (3, .int l3), (4, .int l4), (5, .int l5), (6, .int l6), (7, .int l7)] → W p l e R s m args below meth c H locs cells slots Q (F0 m 48 ls [])) : ∀ (o : Nat) (l1 : Int32) (l2 : Int32) (l3 : Int32) (l4 : Int32) (l5 : Int32) (l6 : Int32) (l7 : Int32) (l8 : Int32) (l9 : Int32) (l10 : Int32) (s0 : Int32) (x : St) (H : Heap) (locs : List Loc) (ls : Array Slot), (o < NN ∧ kcC o = 5) → j_Wrt_fillPage_172 post rec48 o l1 l2 l3 l4 l5 l6 l7 l8 l9 l10 s0 x → Wd dC dI cI cB cJ cZ ad stC kcC NN A x H → va_S A s.heap H locs → lv_has ls 12 [(0, .ref (ad o)), (1, .int l1), (2, .int l2), (3, .int l3), (4, .int l4), (5, .int l5), (6, .int l6), (7, .int l7), (8, .int l8), (9, .int l9), (10, .int l10)] → W p l e R s m args below meth c H locs cells slots Q (F0 m 172 ls [.int s0]) := by
  intro o l1 l2 l3 l4 l5 l6 l7 l8 l9 l10 s0 x H locs ls fo hw hW hS hl
  unfold j_Wrt_fillPage_172 at hw
  refine lv_istore (lv' := [(11, .int s0), (0, .ref (ad o)), (1, .int l1), (2, .int l2), (3, .int l3), (4, .int l4), (5, .int l5), (6, .int l6), (7, .int l7), (8, .int l8), (9, .int l9), (10, .int l10)]) hx hb d_Wrt_fillPage_172 hl (by decide) rfl (fun ls hl => ?_)
  refine lv_iload hx hb d_Wrt_fillPage_174 (lv_at hl 9 rfl) ?_
  refine lv_if_eq (tgt := 197) hx hb d_Wrt_fillPage_176 (by decide) (fun c3293 => ?_) (fun c3293 => ?_)
  · have hw := hw.1 c3293
    exact t_Wrt_fillPage_197 hx hb hml hown hT hK hN hA hRc hRs hRf hRl hNN hE hret  o l1 l2 l3 l4 l5 l6 l7 l8 l9 l10 s0 x H locs ls fo hw hW hS (lv_sub hl [1, 2, 3, 4, 5, 6, 7, 8, 9, 10, 11, 0] rfl)
  · have hw := hw.2 c3293
    refine lv_iload hx hb d_Wrt_fillPage_179 (lv_at hl 9 rfl) ?_
    refine lv_sipush (v := 1000) hx hb d_Wrt_fillPage_181 (by decide) ?_
    refine lv_icmp_gt (tgt := 197) hx hb d_Wrt_fillPage_184 (by decide) (fun c3294 => ?_) (fun c3294 => ?_)
    · have hw := hw.1 c3294
      exact t_Wrt_fillPage_197 hx hb hml hown hT hK hN hA hRc hRs hRf hRl hNN hE hret  o l1 l2 l3 l4 l5 l6 l7 l8 l9 l10 s0 x H locs ls fo hw hW hS (lv_sub hl [1, 2, 3, 4, 5, 6, 7, 8, 9, 10, 11, 0] rfl)
    · have hw := hw.2 c3294
      refine lv_iload hx hb d_Wrt_fillPage_187 (lv_at hl 8 rfl) ?_
      refine lv_if_le (tgt := 200) hx hb d_Wrt_fillPage_189 (by decide) (fun c3295 => ?_) (fun c3295 => ?_)
      · have hw := hw.1 c3295
        exact t_Wrt_fillPage_200 hx hb hml hown hT hK hN hA hRc hRs hRf hRl hNN hE hret hrec48 o l1 l2 l3 l4 l5 l6 l7 l8 l9 l10 s0 x H locs ls fo hw hW hS (lv_sub hl [1, 2, 3, 4, 5, 6, 7, 8, 9, 10, 11, 0] rfl)
      · have hw := hw.2 c3295
        refine lv_iload hx hb d_Wrt_fillPage_192 (lv_at hl 0 rfl) ?_
        refine lv_if_eq (tgt := 200) hx hb d_Wrt_fillPage_194 (by decide) (fun c3296 => ?_) (fun c3296 => ?_)
        · have hw := hw.1 c3296
          exact t_Wrt_fillPage_200 hx hb hml hown hT hK hN hA hRc hRs hRf hRl hNN hE hret hrec48 o l1 l2 l3 l4 l5 l6 l7 l8 l9 l10 s0 x H locs ls fo hw hW hS (lv_sub hl [1, 2, 3, 4, 5, 6, 7, 8, 9, 10, 11, 0] rfl)
        · have hw := hw.2 c3296
          exact t_Wrt_fillPage_197 hx hb hml hown hT hK hN hA hRc hRs hRf hRl hNN hE hret  o l1 l2 l3 l4 l5 l6 l7 l8 l9 l10 s0 x H locs ls fo hw hW hS (lv_sub hl [1, 2, 3, 4, 5, 6, 7, 8, 9, 10, 11, 0] rfl)
set_option maxRecDepth 100000 in
def j_Wrt_fillPage_167 (post : Int32 → St → Prop) (rec48 : Nat → Int32 → Int32 → Int32 → Int32 → Int32 → Int32 → Int32 → St → Prop) (o : Nat) (l1 : Int32) (l2 : Int32) (l3 : Int32) (l4 : Int32) (l5 : Int32) (l6 : Int32) (l7 : Int32) (l8 : Int32) (l9 : Int32) (l10 : Int32) (x : St) : Prop := j_Wrt_fillPage_172 post rec48 o l1 l2 l3 l4 l5 l6 l7 l8 l9 l10 1 x
set_option maxHeartbeats 4000000 in
set_option maxRecDepth 100000 in
theorem t_Wrt_fillPage_167 {p : Program} {l : Launch} {e : Env} {R : Room} {s : State} {m : MethodId} {args : Array Value} {below : List Frame} {meth : Method} {c : Code} {cells slots : Nat} {Q : State → Prop} {dC : Nat → ClassId} {dI : Nat → Nat → Nat} {cI cB cJ cZ : ClassId} {A : Nat → Prop} {ad : Nat → Nat} {NN : Nat} {E : Heap} {tM tC : Nat} {kK kV : Nat → Nat} {post : Int32 → St → Prop} {rec48 : Nat → Int32 → Int32 → Int32 → Int32 → Int32 → Int32 → Int32 → St → Prop} (hx : p.tables.exec = Jvm.exec) (hb : c.code = b_Wrt_fillPage) (hml : c.maxLocals = 12) (hown : s.vm.findClass R_Wrt = some m.cls) (hT : ∀ w ∈ TG, w.before args s = true) (hK : va_K (dC, dI) CL (TY cI cB cJ cZ) s) (hN : NW s) (hA : ∀ q : Nat, s.heap.size ≤ q → A q) (hRc : cells ≤ R.cells) (hRs : slots ≤ R.slots) (hRf : 1 ≤ R.frames) (hRl : 25 ≤ R.locals) (hNN : 152 ≤ NN) (hE : CE E tM tC kK kV A s) (hret : ∀ (r : Int32) (x : St) (H : Heap) (locs : List Loc) (pc : Nat) (ls : Array Slot), decode b_Wrt_fillPage pc = .ok (.ireturn, 1) → post r x → Wd dC dI cI cB cJ cZ ad stC kcC NN A x H → va_S A s.heap H locs → W p l e R s m args below meth c H locs cells slots Q (F0 m pc ls [.int r])) (hrec48 : ∀ (o : Nat) (l1 : Int32) (l2 : Int32) (l3 : Int32) (l4 : Int32) (l5 : Int32) (l6 : Int32) (l7 : Int32) (x : St) (H : Heap) (locs : List Loc) (ls : Array Slot), (o < NN ∧ kcC o = 5) → rec48 o l1 l2 l3 l4 l5 l6 l7 x → Wd dC dI cI cB cJ cZ ad stC kcC NN A x H → va_S A s.heap H locs → lv_has ls 12 [(0, .ref (ad o)), (1, .int l1), (2, .int l2), (3, .int l3), (4, .int l4), (5, .int l5), (6, .int l6), (7, .int l7)] → W p l e R s m args below meth c H locs cells slots Q (F0 m 48 ls [])) : ∀ (o : Nat) (l1 : Int32) (l2 : Int32) (l3 : Int32) (l4 : Int32) (l5 : Int32) (l6 : Int32) (l7 : Int32) (l8 : Int32) (l9 : Int32) (l10 : Int32) (x : St) (H : Heap) (locs : List Loc) (ls : Array Slot), (o < NN ∧ kcC o = 5) → j_Wrt_fillPage_167 post rec48 o l1 l2 l3 l4 l5 l6 l7 l8 l9 l10 x → Wd dC dI cI cB cJ cZ ad stC kcC NN A x H → va_S A s.heap H locs → lv_has ls 12 [(0, .ref (ad o)), (1, .int l1), (2, .int l2), (3, .int l3), (4, .int l4), (5, .int l5), (6, .int l6), (7, .int l7), (8, .int l8), (9, .int l9), (10, .int l10)] → W p l e R s m args below meth c H locs cells slots Q (F0 m 167 ls []) := by
  intro o l1 l2 l3 l4 l5 l6 l7 l8 l9 l10 x H locs ls fo hw hW hS hl
  unfold j_Wrt_fillPage_167 at hw
  refine lv_iconst (v := 1) hx hb d_Wrt_fillPage_167 (by decide) ?_
  refine lv_goto (tgt := 172) hx hb d_Wrt_fillPage_168 (by decide) ?_
  exact t_Wrt_fillPage_172 hx hb hml hown hT hK hN hA hRc hRs hRf hRl hNN hE hret hrec48 o l1 l2 l3 l4 l5 l6 l7 l8 l9 l10 1 x H locs ls fo hw hW hS (lv_sub hl [0, 1, 2, 3, 4, 5, 6, 7, 8, 9, 10] rfl)
set_option maxRecDepth 100000 in
def j_Wrt_fillPage_145 (post : Int32 → St → Prop) (rec48 : Nat → Int32 → Int32 → Int32 → Int32 → Int32 → Int32 → Int32 → St → Prop) (o : Nat) (l1 : Int32) (l2 : Int32) (l3 : Int32) (l4 : Int32) (l5 : Int32) (l6 : Int32) (l7 : Int32) (l8 : Int32) (l9 : Int32) (l10 : Int32) (x : St) : Prop := ((l3 < ((fI x o 11) + l8) → j_Wrt_fillPage_167 post rec48 o l1 l2 l3 l4 l5 l6 l7 l8 l9 l10 x) ∧ (¬ l3 < ((fI x o 11) + l8) → (((l6 + l9) ≤ 20000 → j_Wrt_fillPage_172 post rec48 o l1 l2 l3 l4 l5 l6 l7 l8 l9 l10 0 x) ∧ (¬ (l6 + l9) ≤ 20000 → j_Wrt_fillPage_167 post rec48 o l1 l2 l3 l4 l5 l6 l7 l8 l9 l10 x))))
set_option maxHeartbeats 4000000 in
set_option maxRecDepth 100000 in
theorem t_Wrt_fillPage_145 {p : Program} {l : Launch} {e : Env} {R : Room} {s : State} {m : MethodId} {args : Array Value} {below : List Frame} {meth : Method} {c : Code} {cells slots : Nat} {Q : State → Prop} {dC : Nat → ClassId} {dI : Nat → Nat → Nat} {cI cB cJ cZ : ClassId} {A : Nat → Prop} {ad : Nat → Nat} {NN : Nat} {E : Heap} {tM tC : Nat} {kK kV : Nat → Nat} {post : Int32 → St → Prop} {rec48 : Nat → Int32 → Int32 → Int32 → Int32 → Int32 → Int32 → Int32 → St → Prop} (hx : p.tables.exec = Jvm.exec) (hb : c.code = b_Wrt_fillPage) (hml : c.maxLocals = 12) (hown : s.vm.findClass R_Wrt = some m.cls) (hT : ∀ w ∈ TG, w.before args s = true) (hK : va_K (dC, dI) CL (TY cI cB cJ cZ) s) (hN : NW s) (hA : ∀ q : Nat, s.heap.size ≤ q → A q) (hRc : cells ≤ R.cells) (hRs : slots ≤ R.slots) (hRf : 1 ≤ R.frames) (hRl : 25 ≤ R.locals) (hNN : 152 ≤ NN) (hE : CE E tM tC kK kV A s) (hret : ∀ (r : Int32) (x : St) (H : Heap) (locs : List Loc) (pc : Nat) (ls : Array Slot), decode b_Wrt_fillPage pc = .ok (.ireturn, 1) → post r x → Wd dC dI cI cB cJ cZ ad stC kcC NN A x H → va_S A s.heap H locs → W p l e R s m args below meth c H locs cells slots Q (F0 m pc ls [.int r])) (hrec48 : ∀ (o : Nat) (l1 : Int32) (l2 : Int32) (l3 : Int32) (l4 : Int32) (l5 : Int32) (l6 : Int32) (l7 : Int32) (x : St) (H : Heap) (locs : List Loc) (ls : Array Slot), (o < NN ∧ kcC o = 5) → rec48 o l1 l2 l3 l4 l5 l6 l7 x → Wd dC dI cI cB cJ cZ ad stC kcC NN A x H → va_S A s.heap H locs → lv_has ls 12 [(0, .ref (ad o)), (1, .int l1), (2, .int l2), (3, .int l3), (4, .int l4), (5, .int l5), (6, .int l6), (7, .int l7)] → W p l e R s m args below meth c H locs cells slots Q (F0 m 48 ls [])) : ∀ (o : Nat) (l1 : Int32) (l2 : Int32) (l3 : Int32) (l4 : Int32) (l5 : Int32) (l6 : Int32) (l7 : Int32) (l8 : Int32) (l9 : Int32) (l10 : Int32) (x : St) (H : Heap) (locs : List Loc) (ls : Array Slot), (o < NN ∧ kcC o = 5) → j_Wrt_fillPage_145 post rec48 o l1 l2 l3 l4 l5 l6 l7 l8 l9 l10 x → Wd dC dI cI cB cJ cZ ad stC kcC NN A x H → va_S A s.heap H locs → lv_has ls 12 [(0, .ref (ad o)), (1, .int l1), (2, .int l2), (3, .int l3), (4, .int l4), (5, .int l5), (6, .int l6), (7, .int l7), (8, .int l8), (9, .int l9), (10, .int l10)] → W p l e R s m args below meth c H locs cells slots Q (F0 m 145 ls []) := by
  intro o l1 l2 l3 l4 l5 l6 l7 l8 l9 l10 x H locs ls fo hw hW hS hl
  unfold j_Wrt_fillPage_145 at hw
  refine lv_aload_n hx hb d_Wrt_fillPage_145 rfl (lv_at hl 0 rfl) ?_
  refine w_geti (k := 11) (t := 5) (C := R_Wrt) (T := F_Wrt) (N := 20) hx hb hT hown hK hW fo.1 fo.2 (by decide) in_Wrt rfl rfl (by decide) rfl fr_Wrt_11 w_2_62 d_Wrt_fillPage_146 ?_
  refine lv_iload hx hb d_Wrt_fillPage_149 (lv_at hl 8 rfl) ?_
  refine lv_iadd hx hb d_Wrt_fillPage_151 ?_
  refine lv_iload_n hx hb d_Wrt_fillPage_152 rfl (lv_at hl 3 rfl) ?_
  refine lv_icmp_gt (tgt := 167) hx hb d_Wrt_fillPage_153 (by decide) (fun c3297 => ?_) (fun c3297 => ?_)
  · have hw := hw.1 c3297
    exact t_Wrt_fillPage_167 hx hb hml hown hT hK hN hA hRc hRs hRf hRl hNN hE hret hrec48 o l1 l2 l3 l4 l5 l6 l7 l8 l9 l10 x H locs ls fo hw hW hS (lv_sub hl [0, 1, 2, 3, 4, 5, 6, 7, 8, 9, 10] rfl)
  · have hw := hw.2 c3297
    refine lv_iload hx hb d_Wrt_fillPage_156 (lv_at hl 6 rfl) ?_
    refine lv_iload hx hb d_Wrt_fillPage_158 (lv_at hl 9 rfl) ?_
    refine lv_iadd hx hb d_Wrt_fillPage_160 ?_
    refine lv_sipush (v := 20000) hx hb d_Wrt_fillPage_161 (by decide) ?_
    refine lv_icmp_le (tgt := 171) hx hb d_Wrt_fillPage_164 (by decide) (fun c3298 => ?_) (fun c3298 => ?_)
    · have hw := hw.1 c3298
      refine lv_iconst (v := 0) hx hb d_Wrt_fillPage_171 (by decide) ?_
      exact t_Wrt_fillPage_172 hx hb hml hown hT hK hN hA hRc hRs hRf hRl hNN hE hret hrec48 o l1 l2 l3 l4 l5 l6 l7 l8 l9 l10 0 x H locs ls fo hw hW hS (lv_sub hl [0, 1, 2, 3, 4, 5, 6, 7, 8, 9, 10] rfl)
    · have hw := hw.2 c3298
      exact t_Wrt_fillPage_167 hx hb hml hown hT hK hN hA hRc hRs hRf hRl hNN hE hret hrec48 o l1 l2 l3 l4 l5 l6 l7 l8 l9 l10 x H locs ls fo hw hW hS (lv_sub hl [0, 1, 2, 3, 4, 5, 6, 7, 8, 9, 10] rfl)
set_option maxRecDepth 100000 in
def j_Wrt_fillPage_124 (post : Int32 → St → Prop) (rec48 : Nat → Int32 → Int32 → Int32 → Int32 → Int32 → Int32 → Int32 → St → Prop) (rec68 : Nat → Int32 → Int32 → Int32 → Int32 → Int32 → Int32 → Int32 → Int32 → Int32 → Int32 → St → Prop) (o : Nat) (l1 : Int32) (l2 : Int32) (l3 : Int32) (l4 : Int32) (l5 : Int32) (l6 : Int32) (l7 : Int32) (l8 : Int32) (l9 : Int32) (l10 : Int32) (s0 : Int32) (s1 : Int32) (x : St) : Prop := (∀ v3299 : Int32, v3299 = (s1 + s0) → (∃ q3300 : Nat, fR x o 6 = some q3300 ∧ (vp_in l10 (fN x (stC q3300 9)) ∧ (∀ v3301 : Int32, v3301 = (rA x (stC q3300 9) l10) → rec68 o l1 l2 l3 l4 l5 l6 l7 (l8 + 1) v3299 v3301 x))))
set_option maxHeartbeats 4000000 in
set_option maxRecDepth 100000 in
theorem t_Wrt_fillPage_124 {p : Program} {l : Launch} {e : Env} {R : Room} {s : State} {m : MethodId} {args : Array Value} {below : List Frame} {meth : Method} {c : Code} {cells slots : Nat} {Q : State → Prop} {dC : Nat → ClassId} {dI : Nat → Nat → Nat} {cI cB cJ cZ : ClassId} {A : Nat → Prop} {ad : Nat → Nat} {NN : Nat} {E : Heap} {tM tC : Nat} {kK kV : Nat → Nat} {post : Int32 → St → Prop} {rec48 : Nat → Int32 → Int32 → Int32 → Int32 → Int32 → Int32 → Int32 → St → Prop} {rec68 : Nat → Int32 → Int32 → Int32 → Int32 → Int32 → Int32 → Int32 → Int32 → Int32 → Int32 → St → Prop} (hx : p.tables.exec = Jvm.exec) (hb : c.code = b_Wrt_fillPage) (hml : c.maxLocals = 12) (hown : s.vm.findClass R_Wrt = some m.cls) (hT : ∀ w ∈ TG, w.before args s = true) (hK : va_K (dC, dI) CL (TY cI cB cJ cZ) s) (hN : NW s) (hA : ∀ q : Nat, s.heap.size ≤ q → A q) (hRc : cells ≤ R.cells) (hRs : slots ≤ R.slots) (hRf : 1 ≤ R.frames) (hRl : 25 ≤ R.locals) (hNN : 152 ≤ NN) (hE : CE E tM tC kK kV A s) (hret : ∀ (r : Int32) (x : St) (H : Heap) (locs : List Loc) (pc : Nat) (ls : Array Slot), decode b_Wrt_fillPage pc = .ok (.ireturn, 1) → post r x → Wd dC dI cI cB cJ cZ ad stC kcC NN A x H → va_S A s.heap H locs → W p l e R s m args below meth c H locs cells slots Q (F0 m pc ls [.int r])) (hrec48 : ∀ (o : Nat) (l1 : Int32) (l2 : Int32) (l3 : Int32) (l4 : Int32) (l5 : Int32) (l6 : Int32) (l7 : Int32) (x : St) (H : Heap) (locs : List Loc) (ls : Array Slot), (o < NN ∧ kcC o = 5) → rec48 o l1 l2 l3 l4 l5 l6 l7 x → Wd dC dI cI cB cJ cZ ad stC kcC NN A x H → va_S A s.heap H locs → lv_has ls 12 [(0, .ref (ad o)), (1, .int l1), (2, .int l2), (3, .int l3), (4, .int l4), (5, .int l5), (6, .int l6), (7, .int l7)] → W p l e R s m args below meth c H locs cells slots Q (F0 m 48 ls [])) (hrec68 : ∀ (o : Nat) (l1 : Int32) (l2 : Int32) (l3 : Int32) (l4 : Int32) (l5 : Int32) (l6 : Int32) (l7 : Int32) (l8 : Int32) (l9 : Int32) (l10 : Int32) (x : St) (H : Heap) (locs : List Loc) (ls : Array Slot), (o < NN ∧ kcC o = 5) → rec68 o l1 l2 l3 l4 l5 l6 l7 l8 l9 l10 x → Wd dC dI cI cB cJ cZ ad stC kcC NN A x H → va_S A s.heap H locs → lv_has ls 12 [(0, .ref (ad o)), (1, .int l1), (2, .int l2), (3, .int l3), (4, .int l4), (5, .int l5), (6, .int l6), (7, .int l7), (8, .int l8), (9, .int l9), (10, .int l10)] → W p l e R s m args below meth c H locs cells slots Q (F0 m 68 ls [])) : ∀ (o : Nat) (l1 : Int32) (l2 : Int32) (l3 : Int32) (l4 : Int32) (l5 : Int32) (l6 : Int32) (l7 : Int32) (l8 : Int32) (l9 : Int32) (l10 : Int32) (s0 : Int32) (s1 : Int32) (x : St) (H : Heap) (locs : List Loc) (ls : Array Slot), (o < NN ∧ kcC o = 5) → j_Wrt_fillPage_124 post rec48 rec68 o l1 l2 l3 l4 l5 l6 l7 l8 l9 l10 s0 s1 x → Wd dC dI cI cB cJ cZ ad stC kcC NN A x H → va_S A s.heap H locs → lv_has ls 12 [(0, .ref (ad o)), (1, .int l1), (2, .int l2), (3, .int l3), (4, .int l4), (5, .int l5), (6, .int l6), (7, .int l7), (8, .int l8), (9, .int l9), (10, .int l10)] → W p l e R s m args below meth c H locs cells slots Q (F0 m 124 ls [.int s0, .int s1]) := by
  intro o l1 l2 l3 l4 l5 l6 l7 l8 l9 l10 s0 s1 x H locs ls fo hw hW hS hl
  unfold j_Wrt_fillPage_124 at hw
  refine lv_iadd hx hb d_Wrt_fillPage_124 ?_
  refine lv_topi (fun v3299 ev3299 => ?_)
  have hw := hw v3299 ev3299
  refine lv_istore (lv' := [(9, .int v3299), (0, .ref (ad o)), (1, .int l1), (2, .int l2), (3, .int l3), (4, .int l4), (5, .int l5), (6, .int l6), (7, .int l7), (8, .int l8), (10, .int l10)]) hx hb d_Wrt_fillPage_125 hl (by decide) rfl (fun ls hl => ?_)
  refine lv_aload_n hx hb d_Wrt_fillPage_127 rfl (lv_at hl 1 rfl) ?_
  obtain ⟨q3300, hq3300, hw⟩ := hw
  refine w_getr (q := q3300) (k := 6) (t := 5) (C := R_Wrt) (T := F_Wrt) (N := 20) hx hb hT hown hK hW fo.1 fo.2 (by decide) in_Wrt rfl rfl (by decide) rfl fr_Wrt_6 w_2_57 d_Wrt_fillPage_128 hq3300 (fun aq3300 bq3300 => ?_)
  have fq3300 : q3300 < NN ∧ kcC q3300 = 4 := ⟨aq3300, bq3300⟩
  refine w_getf (q := (stC q3300 9)) (k := 9) (t := 4) (C := R_Rec) (T := F_Rec) (N := 15) hx hb hT hown hK hW fq3300.1 fq3300.2 (by decide) in_Rec rfl rfl (by decide) rfl fr_Rec_9 w_2_2 d_Wrt_fillPage_131 rfl ?_
  refine lv_iload hx hb d_Wrt_fillPage_134 (lv_at hl 10 rfl) ?_
  obtain ⟨hi, hw⟩ := hw
  refine w_iald (o := (stC q3300 9)) hx hb hK hW (st_ty hNN fq3300.1 fq3300.2 rfl).1 (st_ty hNN fq3300.1 fq3300.2 rfl).2 hi d_Wrt_fillPage_136 ?_
  refine lv_topi (fun v3301 ev3301 => ?_)
  have hw := hw v3301 ev3301
  refine lv_istore (lv' := [(10, .int v3301), (9, .int v3299), (0, .ref (ad o)), (1, .int l1), (2, .int l2), (3, .int l3), (4, .int l4), (5, .int l5), (6, .int l6), (7, .int l7), (8, .int l8)]) hx hb d_Wrt_fillPage_137 hl (by decide) rfl (fun ls hl => ?_)
  refine lv_iinc (v := (l8 + 1)) (lv' := [(8, .int (l8 + 1)), (10, .int v3301), (9, .int v3299), (0, .ref (ad o)), (1, .int l1), (2, .int l2), (3, .int l3), (4, .int l4), (5, .int l5), (6, .int l6), (7, .int l7)]) hx hb d_Wrt_fillPage_139 hl (k := 10) rfl rfl (by decide) rfl (fun ls hl => ?_)
  refine lv_goto (tgt := 68) hx hb d_Wrt_fillPage_142 (by decide) ?_
  exact hrec68 o l1 l2 l3 l4 l5 l6 l7 (l8 + 1) v3299 v3301 x H locs ls fo hw hW hS (lv_sub hl [3, 4, 5, 6, 7, 8, 9, 10, 0, 2, 1] rfl)
set_option maxRecDepth 100000 in
def j_Wrt_fillPage_100 (post : Int32 → St → Prop) (rec48 : Nat → Int32 → Int32 → Int32 → Int32 → Int32 → Int32 → Int32 → St → Prop) (rec68 : Nat → Int32 → Int32 → Int32 → Int32 → Int32 → Int32 → Int32 → Int32 → Int32 → Int32 → St → Prop) (o : Nat) (l1 : Int32) (l2 : Int32) (l3 : Int32) (l4 : Int32) (l5 : Int32) (l6 : Int32) (l7 : Int32) (l8 : Int32) (l9 : Int32) (l10 : Int32) (x : St) : Prop := ((l5 = 0 → j_Wrt_fillPage_124 post rec48 rec68 o l1 l2 l3 l4 l5 l6 l7 l8 l9 l10 0 l9 x) ∧ (¬ l5 = 0 → (∃ q3303 : Nat, fR x o 6 = some q3303 ∧ (vp_in l10 (fN x (stC q3303 7)) ∧ wp_V_sizeOf (fun (r3305 : Int32) (x3304 : St) => j_Wrt_fillPage_124 post rec48 rec68 o l1 l2 l3 l4 l5 l6 l7 l8 l9 l10 r3305 l9 x3304) (rL x (stC q3303 7) l10) x))))
set_option maxHeartbeats 4000000 in
set_option maxRecDepth 100000 in
theorem t_Wrt_fillPage_100 {p : Program} {l : Launch} {e : Env} {R : Room} {s : State} {m : MethodId} {args : Array Value} {below : List Frame} {meth : Method} {c : Code} {cells slots : Nat} {Q : State → Prop} {dC : Nat → ClassId} {dI : Nat → Nat → Nat} {cI cB cJ cZ : ClassId} {A : Nat → Prop} {ad : Nat → Nat} {NN : Nat} {E : Heap} {tM tC : Nat} {kK kV : Nat → Nat} {post : Int32 → St → Prop} {rec48 : Nat → Int32 → Int32 → Int32 → Int32 → Int32 → Int32 → Int32 → St → Prop} {rec68 : Nat → Int32 → Int32 → Int32 → Int32 → Int32 → Int32 → Int32 → Int32 → Int32 → Int32 → St → Prop} (hx : p.tables.exec = Jvm.exec) (hb : c.code = b_Wrt_fillPage) (hml : c.maxLocals = 12) (hown : s.vm.findClass R_Wrt = some m.cls) (hT : ∀ w ∈ TG, w.before args s = true) (hK : va_K (dC, dI) CL (TY cI cB cJ cZ) s) (hN : NW s) (hA : ∀ q : Nat, s.heap.size ≤ q → A q) (hRc : cells ≤ R.cells) (hRs : slots ≤ R.slots) (hRf : 1 ≤ R.frames) (hRl : 25 ≤ R.locals) (hNN : 152 ≤ NN) (hE : CE E tM tC kK kV A s) (hret : ∀ (r : Int32) (x : St) (H : Heap) (locs : List Loc) (pc : Nat) (ls : Array Slot), decode b_Wrt_fillPage pc = .ok (.ireturn, 1) → post r x → Wd dC dI cI cB cJ cZ ad stC kcC NN A x H → va_S A s.heap H locs → W p l e R s m args below meth c H locs cells slots Q (F0 m pc ls [.int r])) (hrec48 : ∀ (o : Nat) (l1 : Int32) (l2 : Int32) (l3 : Int32) (l4 : Int32) (l5 : Int32) (l6 : Int32) (l7 : Int32) (x : St) (H : Heap) (locs : List Loc) (ls : Array Slot), (o < NN ∧ kcC o = 5) → rec48 o l1 l2 l3 l4 l5 l6 l7 x → Wd dC dI cI cB cJ cZ ad stC kcC NN A x H → va_S A s.heap H locs → lv_has ls 12 [(0, .ref (ad o)), (1, .int l1), (2, .int l2), (3, .int l3), (4, .int l4), (5, .int l5), (6, .int l6), (7, .int l7)] → W p l e R s m args below meth c H locs cells slots Q (F0 m 48 ls [])) (hrec68 : ∀ (o : Nat) (l1 : Int32) (l2 : Int32) (l3 : Int32) (l4 : Int32) (l5 : Int32) (l6 : Int32) (l7 : Int32) (l8 : Int32) (l9 : Int32) (l10 : Int32) (x : St) (H : Heap) (locs : List Loc) (ls : Array Slot), (o < NN ∧ kcC o = 5) → rec68 o l1 l2 l3 l4 l5 l6 l7 l8 l9 l10 x → Wd dC dI cI cB cJ cZ ad stC kcC NN A x H → va_S A s.heap H locs → lv_has ls 12 [(0, .ref (ad o)), (1, .int l1), (2, .int l2), (3, .int l3), (4, .int l4), (5, .int l5), (6, .int l6), (7, .int l7), (8, .int l8), (9, .int l9), (10, .int l10)] → W p l e R s m args below meth c H locs cells slots Q (F0 m 68 ls [])) : ∀ (o : Nat) (l1 : Int32) (l2 : Int32) (l3 : Int32) (l4 : Int32) (l5 : Int32) (l6 : Int32) (l7 : Int32) (l8 : Int32) (l9 : Int32) (l10 : Int32) (x : St) (H : Heap) (locs : List Loc) (ls : Array Slot), (o < NN ∧ kcC o = 5) → j_Wrt_fillPage_100 post rec48 rec68 o l1 l2 l3 l4 l5 l6 l7 l8 l9 l10 x → Wd dC dI cI cB cJ cZ ad stC kcC NN A x H → va_S A s.heap H locs → lv_has ls 12 [(0, .ref (ad o)), (1, .int l1), (2, .int l2), (3, .int l3), (4, .int l4), (5, .int l5), (6, .int l6), (7, .int l7), (8, .int l8), (9, .int l9), (10, .int l10)] → W p l e R s m args below meth c H locs cells slots Q (F0 m 100 ls []) := by
  intro o l1 l2 l3 l4 l5 l6 l7 l8 l9 l10 x H locs ls fo hw hW hS hl
  unfold j_Wrt_fillPage_100 at hw
  refine lv_iload hx hb d_Wrt_fillPage_100 (lv_at hl 9 rfl) ?_
  refine lv_iload hx hb d_Wrt_fillPage_102 (lv_at hl 5 rfl) ?_
  refine lv_if_eq (tgt := 123) hx hb d_Wrt_fillPage_104 (by decide) (fun c3302 => ?_) (fun c3302 => ?_)
  · have hw := hw.1 c3302
    refine lv_iconst (v := 0) hx hb d_Wrt_fillPage_123 (by decide) ?_
    exact t_Wrt_fillPage_124 hx hb hml hown hT hK hN hA hRc hRs hRf hRl hNN hE hret hrec48 hrec68 o l1 l2 l3 l4 l5 l6 l7 l8 l9 l10 0 l9 x H locs ls fo hw hW hS (lv_sub hl [0, 1, 2, 3, 4, 5, 6, 7, 8, 9, 10] rfl)
  · have hw := hw.2 c3302
    refine lv_aload_n hx hb d_Wrt_fillPage_107 rfl (lv_at hl 0 rfl) ?_
    obtain ⟨q3303, hq3303, hw⟩ := hw
    refine w_getr (q := q3303) (k := 6) (t := 5) (C := R_Wrt) (T := F_Wrt) (N := 20) hx hb hT hown hK hW fo.1 fo.2 (by decide) in_Wrt rfl rfl (by decide) rfl fr_Wrt_6 w_2_57 d_Wrt_fillPage_108 hq3303 (fun aq3303 bq3303 => ?_)
    have fq3303 : q3303 < NN ∧ kcC q3303 = 4 := ⟨aq3303, bq3303⟩
    refine w_getf (q := (stC q3303 7)) (k := 7) (t := 4) (C := R_Rec) (T := F_Rec) (N := 15) hx hb hT hown hK hW fq3303.1 fq3303.2 (by decide) in_Rec rfl rfl (by decide) rfl fr_Rec_7 w_1_239 d_Wrt_fillPage_111 rfl ?_
    refine lv_iload hx hb d_Wrt_fillPage_114 (lv_at hl 10 rfl) ?_
    obtain ⟨hi, hw⟩ := hw
    refine w_lald (o := (stC q3303 7)) hx hb hK hW (st_ty hNN fq3303.1 fq3303.2 rfl).1 (st_ty hNN fq3303.1 fq3303.2 rfl).2 hi d_Wrt_fillPage_116 ?_
    have hF := hW.free hS hA
    refine va_calli (va_runSN (As := [.long (rL x (stC q3303 7) l10)]) (rest := [.int l9]) ⟨hx, hb, hml, hown, hT⟩ (k_V_sizeOf l dC dI cI cB cJ cZ ad NN E tM tC kK kV hNN H.size (rL x (stC q3303 7) l10) x  hw) ⟨va_cnB 1 hT (gw_in w_5_161) rfl rfl rfl (hN _ wn_5_159 rfl) (hT _ w_1_1) (by decide +kernel) ⟨Nat.le_trans (by decide) hRf, Nat.le_trans (by decide) hRl⟩, hT _ w_5_160, trivial⟩ ⟨PV.blind, PV.at _ hW hK hN hE hS hF⟩ rfl rfl hl.1 rfl (lv_room (Nat.le_of_ble_eq_true rfl)) d_Wrt_fillPage_117 ⟨hRc, hRs⟩) hS (fun q _ h => hF q h) hF (fun r3305 x3304 t H locs ht hvm hw hB hz1 hk1 hS => ?_)
    have hW := Wd.back hB ht hF
    clear hB ht hF hz1 hk1 hvm
    refine lv_goto (tgt := 124) hx hb d_Wrt_fillPage_120 (by decide) ?_
    exact t_Wrt_fillPage_124 hx hb hml hown hT hK hN hA hRc hRs hRf hRl hNN hE hret hrec48 hrec68 o l1 l2 l3 l4 l5 l6 l7 l8 l9 l10 r3305 l9 x3304 H locs ls fo hw hW hS (lv_sub hl [0, 1, 2, 3, 4, 5, 6, 7, 8, 9, 10] rfl)
set_option maxRecDepth 100000 in
def j_Wrt_fillPage_68 (post : Int32 → St → Prop) (rec48 : Nat → Int32 → Int32 → Int32 → Int32 → Int32 → Int32 → Int32 → St → Prop) (rec68 : Nat → Int32 → Int32 → Int32 → Int32 → Int32 → Int32 → Int32 → Int32 → Int32 → Int32 → St → Prop) (o : Nat) (l1 : Int32) (l2 : Int32) (l3 : Int32) (l4 : Int32) (l5 : Int32) (l6 : Int32) (l7 : Int32) (l8 : Int32) (l9 : Int32) (l10 : Int32) (x : St) : Prop := ((l10 = (-1) → j_Wrt_fillPage_145 post rec48 o l1 l2 l3 l4 l5 l6 l7 l8 l9 l10 x) ∧ (¬ l10 = (-1) → ((1000 < l8 → j_Wrt_fillPage_145 post rec48 o l1 l2 l3 l4 l5 l6 l7 l8 l9 l10 x) ∧ (¬ 1000 < l8 → ((l8 = 0 → j_Wrt_fillPage_100 post rec48 rec68 o l1 l2 l3 l4 l5 l6 l7 l8 l9 l10 x) ∧ (¬ l8 = 0 → (∃ q3309 : Nat, fR x o 6 = some q3309 ∧ (vp_in l10 (fN x (stC q3309 5)) ∧ (((rA x (stC q3309 5) l10) = 0 → j_Wrt_fillPage_145 post rec48 o l1 l2 l3 l4 l5 l6 l7 l8 l9 l10 x) ∧ (¬ (rA x (stC q3309 5) l10) = 0 → j_Wrt_fillPage_100 post rec48 rec68 o l1 l2 l3 l4 l5 l6 l7 l8 l9 l10 x))))))))))
set_option maxHeartbeats 4000000 in
set_option maxRecDepth 100000 in
theorem t_Wrt_fillPage_68 {p : Program} {l : Launch} {e : Env} {R : Room} {s : State} {m : MethodId} {args : Array Value} {below : List Frame} {meth : Method} {c : Code} {cells slots : Nat} {Q : State → Prop} {dC : Nat → ClassId} {dI : Nat → Nat → Nat} {cI cB cJ cZ : ClassId} {A : Nat → Prop} {ad : Nat → Nat} {NN : Nat} {E : Heap} {tM tC : Nat} {kK kV : Nat → Nat} {post : Int32 → St → Prop} {rec48 : Nat → Int32 → Int32 → Int32 → Int32 → Int32 → Int32 → Int32 → St → Prop} {rec68 : Nat → Int32 → Int32 → Int32 → Int32 → Int32 → Int32 → Int32 → Int32 → Int32 → Int32 → St → Prop} (hx : p.tables.exec = Jvm.exec) (hb : c.code = b_Wrt_fillPage) (hml : c.maxLocals = 12) (hown : s.vm.findClass R_Wrt = some m.cls) (hT : ∀ w ∈ TG, w.before args s = true) (hK : va_K (dC, dI) CL (TY cI cB cJ cZ) s) (hN : NW s) (hA : ∀ q : Nat, s.heap.size ≤ q → A q) (hRc : cells ≤ R.cells) (hRs : slots ≤ R.slots) (hRf : 1 ≤ R.frames) (hRl : 25 ≤ R.locals) (hNN : 152 ≤ NN) (hE : CE E tM tC kK kV A s) (hret : ∀ (r : Int32) (x : St) (H : Heap) (locs : List Loc) (pc : Nat) (ls : Array Slot), decode b_Wrt_fillPage pc = .ok (.ireturn, 1) → post r x → Wd dC dI cI cB cJ cZ ad stC kcC NN A x H → va_S A s.heap H locs → W p l e R s m args below meth c H locs cells slots Q (F0 m pc ls [.int r])) (hrec48 : ∀ (o : Nat) (l1 : Int32) (l2 : Int32) (l3 : Int32) (l4 : Int32) (l5 : Int32) (l6 : Int32) (l7 : Int32) (x : St) (H : Heap) (locs : List Loc) (ls : Array Slot), (o < NN ∧ kcC o = 5) → rec48 o l1 l2 l3 l4 l5 l6 l7 x → Wd dC dI cI cB cJ cZ ad stC kcC NN A x H → va_S A s.heap H locs → lv_has ls 12 [(0, .ref (ad o)), (1, .int l1), (2, .int l2), (3, .int l3), (4, .int l4), (5, .int l5), (6, .int l6), (7, .int l7)] → W p l e R s m args below meth c H locs cells slots Q (F0 m 48 ls [])) (hrec68 : ∀ (o : Nat) (l1 : Int32) (l2 : Int32) (l3 : Int32) (l4 : Int32) (l5 : Int32) (l6 : Int32) (l7 : Int32) (l8 : Int32) (l9 : Int32) (l10 : Int32) (x : St) (H : Heap) (locs : List Loc) (ls : Array Slot), (o < NN ∧ kcC o = 5) → rec68 o l1 l2 l3 l4 l5 l6 l7 l8 l9 l10 x → Wd dC dI cI cB cJ cZ ad stC kcC NN A x H → va_S A s.heap H locs → lv_has ls 12 [(0, .ref (ad o)), (1, .int l1), (2, .int l2), (3, .int l3), (4, .int l4), (5, .int l5), (6, .int l6), (7, .int l7), (8, .int l8), (9, .int l9), (10, .int l10)] → W p l e R s m args below meth c H locs cells slots Q (F0 m 68 ls [])) : ∀ (o : Nat) (l1 : Int32) (l2 : Int32) (l3 : Int32) (l4 : Int32) (l5 : Int32) (l6 : Int32) (l7 : Int32) (l8 : Int32) (l9 : Int32) (l10 : Int32) (x : St) (H : Heap) (locs : List Loc) (ls : Array Slot), (o < NN ∧ kcC o = 5) → j_Wrt_fillPage_68 post rec48 rec68 o l1 l2 l3 l4 l5 l6 l7 l8 l9 l10 x → Wd dC dI cI cB cJ cZ ad stC kcC NN A x H → va_S A s.heap H locs → lv_has ls 12 [(0, .ref (ad o)), (1, .int l1), (2, .int l2), (3, .int l3), (4, .int l4), (5, .int l5), (6, .int l6), (7, .int l7), (8, .int l8), (9, .int l9), (10, .int l10)] → W p l e R s m args below meth c H locs cells slots Q (F0 m 68 ls []) := by
  intro o l1 l2 l3 l4 l5 l6 l7 l8 l9 l10 x H locs ls fo hw hW hS hl
  unfold j_Wrt_fillPage_68 at hw
  refine lv_iload hx hb d_Wrt_fillPage_68 (lv_at hl 10 rfl) ?_
  refine lv_iconst (v := (-1)) hx hb d_Wrt_fillPage_70 (by decide) ?_
  refine lv_icmp_eq (tgt := 145) hx hb d_Wrt_fillPage_71 (by decide) (fun c3306 => ?_) (fun c3306 => ?_)
  · have hw := hw.1 c3306
    exact t_Wrt_fillPage_145 hx hb hml hown hT hK hN hA hRc hRs hRf hRl hNN hE hret hrec48 o l1 l2 l3 l4 l5 l6 l7 l8 l9 l10 x H locs ls fo hw hW hS (lv_sub hl [0, 1, 2, 3, 4, 5, 6, 7, 8, 9, 10] rfl)
  · have hw := hw.2 c3306
    refine lv_iload hx hb d_Wrt_fillPage_74 (lv_at hl 8 rfl) ?_
    refine lv_sipush (v := 1000) hx hb d_Wrt_fillPage_76 (by decide) ?_
    refine lv_icmp_gt (tgt := 145) hx hb d_Wrt_fillPage_79 (by decide) (fun c3307 => ?_) (fun c3307 => ?_)
    · have hw := hw.1 c3307
      exact t_Wrt_fillPage_145 hx hb hml hown hT hK hN hA hRc hRs hRf hRl hNN hE hret hrec48 o l1 l2 l3 l4 l5 l6 l7 l8 l9 l10 x H locs ls fo hw hW hS (lv_sub hl [0, 1, 2, 3, 4, 5, 6, 7, 8, 9, 10] rfl)
    · have hw := hw.2 c3307
      refine lv_iload hx hb d_Wrt_fillPage_82 (lv_at hl 8 rfl) ?_
      refine lv_if_eq (tgt := 100) hx hb d_Wrt_fillPage_84 (by decide) (fun c3308 => ?_) (fun c3308 => ?_)
      · have hw := hw.1 c3308
        exact t_Wrt_fillPage_100 hx hb hml hown hT hK hN hA hRc hRs hRf hRl hNN hE hret hrec48 hrec68 o l1 l2 l3 l4 l5 l6 l7 l8 l9 l10 x H locs ls fo hw hW hS (lv_sub hl [0, 1, 2, 3, 4, 5, 6, 7, 8, 9, 10] rfl)
      · have hw := hw.2 c3308
        refine lv_aload_n hx hb d_Wrt_fillPage_87 rfl (lv_at hl 0 rfl) ?_
        obtain ⟨q3309, hq3309, hw⟩ := hw
        refine w_getr (q := q3309) (k := 6) (t := 5) (C := R_Wrt) (T := F_Wrt) (N := 20) hx hb hT hown hK hW fo.1 fo.2 (by decide) in_Wrt rfl rfl (by decide) rfl fr_Wrt_6 w_2_57 d_Wrt_fillPage_88 hq3309 (fun aq3309 bq3309 => ?_)
        have fq3309 : q3309 < NN ∧ kcC q3309 = 4 := ⟨aq3309, bq3309⟩
        refine w_getf (q := (stC q3309 5)) (k := 5) (t := 4) (C := R_Rec) (T := F_Rec) (N := 15) hx hb hT hown hK hW fq3309.1 fq3309.2 (by decide) in_Rec rfl rfl (by decide) rfl fr_Rec_5 w_1_235 d_Wrt_fillPage_91 rfl ?_
        refine lv_iload hx hb d_Wrt_fillPage_94 (lv_at hl 10 rfl) ?_
        obtain ⟨hi, hw⟩ := hw
        refine w_bald (o := (stC q3309 5)) hx hb hK hW (st_ty hNN fq3309.1 fq3309.2 rfl).1 (st_ty hNN fq3309.1 fq3309.2 rfl).2 hi d_Wrt_fillPage_96 ?_
        refine lv_if_eq (tgt := 145) hx hb d_Wrt_fillPage_97 (by decide) (fun c3310 => ?_) (fun c3310 => ?_)
        · have hw := hw.1 c3310
          exact t_Wrt_fillPage_145 hx hb hml hown hT hK hN hA hRc hRs hRf hRl hNN hE hret hrec48 o l1 l2 l3 l4 l5 l6 l7 l8 l9 l10 x H locs ls fo hw hW hS (lv_sub hl [0, 1, 2, 3, 4, 5, 6, 7, 8, 9, 10] rfl)
        · have hw := hw.2 c3310
          exact t_Wrt_fillPage_100 hx hb hml hown hT hK hN hA hRc hRs hRf hRl hNN hE hret hrec48 hrec68 o l1 l2 l3 l4 l5 l6 l7 l8 l9 l10 x H locs ls fo hw hW hS (lv_sub hl [0, 1, 2, 3, 4, 5, 6, 7, 8, 9, 10] rfl)
def wl_Wrt_fillPage_68 (post : Int32 → St → Prop) (rec48 : Nat → Int32 → Int32 → Int32 → Int32 → Int32 → Int32 → Int32 → St → Prop) : Nat → Nat → Int32 → Int32 → Int32 → Int32 → Int32 → Int32 → Int32 → Int32 → Int32 → Int32 → St → Prop
  | 0 => fun _ _ _ _ _ _ _ _ _ _ _ _ => False
  | n + 1 => j_Wrt_fillPage_68 post rec48 (wl_Wrt_fillPage_68 post rec48 n)
set_option maxHeartbeats 4000000 in
set_option maxRecDepth 100000 in
theorem tl_Wrt_fillPage_68 {p : Program} {l : Launch} {e : Env} {R : Room} {s : State} {m : MethodId} {args : Array Value} {below : List Frame} {meth : Method} {c : Code} {cells slots : Nat} {Q : State → Prop} {dC : Nat → ClassId} {dI : Nat → Nat → Nat} {cI cB cJ cZ : ClassId} {A : Nat → Prop} {ad : Nat → Nat} {NN : Nat} {E : Heap} {tM tC : Nat} {kK kV : Nat → Nat} {post : Int32 → St → Prop} {rec48 : Nat → Int32 → Int32 → Int32 → Int32 → Int32 → Int32 → Int32 → St → Prop} (hx : p.tables.exec = Jvm.exec) (hb : c.code = b_Wrt_fillPage) (hml : c.maxLocals = 12) (hown : s.vm.findClass R_Wrt = some m.cls) (hT : ∀ w ∈ TG, w.before args s = true) (hK : va_K (dC, dI) CL (TY cI cB cJ cZ) s) (hN : NW s) (hA : ∀ q : Nat, s.heap.size ≤ q → A q) (hRc : cells ≤ R.cells) (hRs : slots ≤ R.slots) (hRf : 1 ≤ R.frames) (hRl : 25 ≤ R.locals) (hNN : 152 ≤ NN) (hE : CE E tM tC kK kV A s) (hret : ∀ (r : Int32) (x : St) (H : Heap) (locs : List Loc) (pc : Nat) (ls : Array Slot), decode b_Wrt_fillPage pc = .ok (.ireturn, 1) → post r x → Wd dC dI cI cB cJ cZ ad stC kcC NN A x H → va_S A s.heap H locs → W p l e R s m args below meth c H locs cells slots Q (F0 m pc ls [.int r])) (hrec48 : ∀ (o : Nat) (l1 : Int32) (l2 : Int32) (l3 : Int32) (l4 : Int32) (l5 : Int32) (l6 : Int32) (l7 : Int32) (x : St) (H : Heap) (locs : List Loc) (ls : Array Slot), (o < NN ∧ kcC o = 5) → rec48 o l1 l2 l3 l4 l5 l6 l7 x → Wd dC dI cI cB cJ cZ ad stC kcC NN A x H → va_S A s.heap H locs → lv_has ls 12 [(0, .ref (ad o)), (1, .int l1), (2, .int l2), (3, .int l3), (4, .int l4), (5, .int l5), (6, .int l6), (7, .int l7)] → W p l e R s m args below meth c H locs cells slots Q (F0 m 48 ls [])) : ∀ n : Nat, ∀ (o : Nat) (l1 : Int32) (l2 : Int32) (l3 : Int32) (l4 : Int32) (l5 : Int32) (l6 : Int32) (l7 : Int32) (l8 : Int32) (l9 : Int32) (l10 : Int32) (x : St) (H : Heap) (locs : List Loc) (ls : Array Slot), (o < NN ∧ kcC o = 5) → wl_Wrt_fillPage_68 post rec48 n o l1 l2 l3 l4 l5 l6 l7 l8 l9 l10 x → Wd dC dI cI cB cJ cZ ad stC kcC NN A x H → va_S A s.heap H locs → lv_has ls 12 [(0, .ref (ad o)), (1, .int l1), (2, .int l2), (3, .int l3), (4, .int l4), (5, .int l5), (6, .int l6), (7, .int l7), (8, .int l8), (9, .int l9), (10, .int l10)] → W p l e R s m args below meth c H locs cells slots Q (F0 m 68 ls []) := by
  intro n
  induction n with
  | zero => intro o l1 l2 l3 l4 l5 l6 l7 l8 l9 l10 x H locs ls fo hw; exact hw.elim
  | succ n ih => intro o l1 l2 l3 l4 l5 l6 l7 l8 l9 l10 x H locs ls fo hw hW hS hl; exact t_Wrt_fillPage_68 hx hb hml hown hT hK hN hA hRc hRs hRf hRl hNN hE hret hrec48 ih o l1 l2 l3 l4 l5 l6 l7 l8 l9 l10 x H locs ls fo hw hW hS hl
set_option maxRecDepth 100000 in
def j_Wrt_fillPage_48 (post : Int32 → St → Prop) (rec48 : Nat → Int32 → Int32 → Int32 → Int32 → Int32 → Int32 → Int32 → St → Prop) (o : Nat) (l1 : Int32) (l2 : Int32) (l3 : Int32) (l4 : Int32) (l5 : Int32) (l6 : Int32) (l7 : Int32) (x : St) : Prop := ((l2 ≤ l7 → post l7 x) ∧ (¬ l2 ≤ l7 → (vp_in l1 (fN x (stC o 7)) ∧ (∀ v3312 : Int32, v3312 = (rA x (stC o 7) l1) → ∃ n : Nat, wl_Wrt_fillPage_68 post rec48 n o l1 l2 l3 l4 l5 l6 l7 0 0 v3312 x))))
set_option maxHeartbeats 4000000 in
set_option maxRecDepth 100000 in
theorem t_Wrt_fillPage_48 {p : Program} {l : Launch} {e : Env} {R : Room} {s : State} {m : MethodId} {args : Array Value} {below : List Frame} {meth : Method} {c : Code} {cells slots : Nat} {Q : State → Prop} {dC : Nat → ClassId} {dI : Nat → Nat → Nat} {cI cB cJ cZ : ClassId} {A : Nat → Prop} {ad : Nat → Nat} {NN : Nat} {E : Heap} {tM tC : Nat} {kK kV : Nat → Nat} {post : Int32 → St → Prop} {rec48 : Nat → Int32 → Int32 → Int32 → Int32 → Int32 → Int32 → Int32 → St → Prop} (hx : p.tables.exec = Jvm.exec) (hb : c.code = b_Wrt_fillPage) (hml : c.maxLocals = 12) (hown : s.vm.findClass R_Wrt = some m.cls) (hT : ∀ w ∈ TG, w.before args s = true) (hK : va_K (dC, dI) CL (TY cI cB cJ cZ) s) (hN : NW s) (hA : ∀ q : Nat, s.heap.size ≤ q → A q) (hRc : cells ≤ R.cells) (hRs : slots ≤ R.slots) (hRf : 1 ≤ R.frames) (hRl : 25 ≤ R.locals) (hNN : 152 ≤ NN) (hE : CE E tM tC kK kV A s) (hret : ∀ (r : Int32) (x : St) (H : Heap) (locs : List Loc) (pc : Nat) (ls : Array Slot), decode b_Wrt_fillPage pc = .ok (.ireturn, 1) → post r x → Wd dC dI cI cB cJ cZ ad stC kcC NN A x H → va_S A s.heap H locs → W p l e R s m args below meth c H locs cells slots Q (F0 m pc ls [.int r])) (hrec48 : ∀ (o : Nat) (l1 : Int32) (l2 : Int32) (l3 : Int32) (l4 : Int32) (l5 : Int32) (l6 : Int32) (l7 : Int32) (x : St) (H : Heap) (locs : List Loc) (ls : Array Slot), (o < NN ∧ kcC o = 5) → rec48 o l1 l2 l3 l4 l5 l6 l7 x → Wd dC dI cI cB cJ cZ ad stC kcC NN A x H → va_S A s.heap H locs → lv_has ls 12 [(0, .ref (ad o)), (1, .int l1), (2, .int l2), (3, .int l3), (4, .int l4), (5, .int l5), (6, .int l6), (7, .int l7)] → W p l e R s m args below meth c H locs cells slots Q (F0 m 48 ls [])) : ∀ (o : Nat) (l1 : Int32) (l2 : Int32) (l3 : Int32) (l4 : Int32) (l5 : Int32) (l6 : Int32) (l7 : Int32) (x : St) (H : Heap) (locs : List Loc) (ls : Array Slot), (o < NN ∧ kcC o = 5) → j_Wrt_fillPage_48 post rec48 o l1 l2 l3 l4 l5 l6 l7 x → Wd dC dI cI cB cJ cZ ad stC kcC NN A x H → va_S A s.heap H locs → lv_has ls 12 [(0, .ref (ad o)), (1, .int l1), (2, .int l2), (3, .int l3), (4, .int l4), (5, .int l5), (6, .int l6), (7, .int l7)] → W p l e R s m args below meth c H locs cells slots Q (F0 m 48 ls []) := by
  intro o l1 l2 l3 l4 l5 l6 l7 x H locs ls fo hw hW hS hl
  unfold j_Wrt_fillPage_48 at hw
  refine lv_iload hx hb d_Wrt_fillPage_48 (lv_at hl 7 rfl) ?_
  refine lv_iload_n hx hb d_Wrt_fillPage_50 rfl (lv_at hl 2 rfl) ?_
  refine lv_icmp_ge (tgt := 230) hx hb d_Wrt_fillPage_51 (by decide) (fun c3311 => ?_) (fun c3311 => ?_)
  · have hw := hw.1 c3311
    refine lv_iload hx hb d_Wrt_fillPage_230 (lv_at hl 7 rfl) ?_
    exact hret l7 x H locs 232 ls d_Wrt_fillPage_232 hw hW hS
  · have hw := hw.2 c3311
    refine lv_iconst (v := 0) hx hb d_Wrt_fillPage_54 (by decide) ?_
    refine lv_istore (lv' := [(8, .int 0), (0, .ref (ad o)), (1, .int l1), (2, .int l2), (3, .int l3), (4, .int l4), (5, .int l5), (6, .int l6), (7, .int l7)]) hx hb d_Wrt_fillPage_55 hl (by decide) rfl (fun ls hl => ?_)
    refine lv_iconst (v := 0) hx hb d_Wrt_fillPage_57 (by decide) ?_
    refine lv_istore (lv' := [(9, .int 0), (8, .int 0), (0, .ref (ad o)), (1, .int l1), (2, .int l2), (3, .int l3), (4, .int l4), (5, .int l5), (6, .int l6), (7, .int l7)]) hx hb d_Wrt_fillPage_58 hl (by decide) rfl (fun ls hl => ?_)
    refine lv_aload_n hx hb d_Wrt_fillPage_60 rfl (lv_at hl 2 rfl) ?_
    refine w_getf (q := (stC o 7)) (k := 7) (t := 5) (C := R_Wrt) (T := F_Wrt) (N := 20) hx hb hT hown hK hW fo.1 fo.2 (by decide) in_Wrt rfl rfl (by decide) rfl fr_Wrt_7 w_2_58 d_Wrt_fillPage_61 rfl ?_
    refine lv_iload_n hx hb d_Wrt_fillPage_64 rfl (lv_at hl 3 rfl) ?_
    obtain ⟨hi, hw⟩ := hw
    refine w_iald (o := (stC o 7)) hx hb hK hW (st_ty hNN fo.1 fo.2 rfl).1 (st_ty hNN fo.1 fo.2 rfl).2 hi d_Wrt_fillPage_65 ?_
    refine lv_topi (fun v3312 ev3312 => ?_)
    have hw := hw v3312 ev3312
    refine lv_istore (lv' := [(10, .int v3312), (9, .int 0), (8, .int 0), (0, .ref (ad o)), (1, .int l1), (2, .int l2), (3, .int l3), (4, .int l4), (5, .int l5), (6, .int l6), (7, .int l7)]) hx hb d_Wrt_fillPage_66 hl (by decide) rfl (fun ls hl => ?_)
    obtain ⟨n, hw⟩ := hw
    exact tl_Wrt_fillPage_68 hx hb hml hown hT hK hN hA hRc hRs hRf hRl hNN hE hret hrec48 n o l1 l2 l3 l4 l5 l6 l7 0 0 v3312 x H locs ls fo hw hW hS (lv_sub hl [3, 4, 5, 6, 7, 8, 9, 10, 2, 1, 0] rfl)
def wl_Wrt_fillPage_48 (post : Int32 → St → Prop) : Nat → Nat → Int32 → Int32 → Int32 → Int32 → Int32 → Int32 → Int32 → St → Prop
  | 0 => fun _ _ _ _ _ _ _ _ _ => False
  | n + 1 => j_Wrt_fillPage_48 post (wl_Wrt_fillPage_48 post n)
set_option maxHeartbeats 4000000 in
set_option maxRecDepth 100000 in
theorem tl_Wrt_fillPage_48 {p : Program} {l : Launch} {e : Env} {R : Room} {s : State} {m : MethodId} {args : Array Value} {below : List Frame} {meth : Method} {c : Code} {cells slots : Nat} {Q : State → Prop} {dC : Nat → ClassId} {dI : Nat → Nat → Nat} {cI cB cJ cZ : ClassId} {A : Nat → Prop} {ad : Nat → Nat} {NN : Nat} {E : Heap} {tM tC : Nat} {kK kV : Nat → Nat} {post : Int32 → St → Prop} (hx : p.tables.exec = Jvm.exec) (hb : c.code = b_Wrt_fillPage) (hml : c.maxLocals = 12) (hown : s.vm.findClass R_Wrt = some m.cls) (hT : ∀ w ∈ TG, w.before args s = true) (hK : va_K (dC, dI) CL (TY cI cB cJ cZ) s) (hN : NW s) (hA : ∀ q : Nat, s.heap.size ≤ q → A q) (hRc : cells ≤ R.cells) (hRs : slots ≤ R.slots) (hRf : 1 ≤ R.frames) (hRl : 25 ≤ R.locals) (hNN : 152 ≤ NN) (hE : CE E tM tC kK kV A s) (hret : ∀ (r : Int32) (x : St) (H : Heap) (locs : List Loc) (pc : Nat) (ls : Array Slot), decode b_Wrt_fillPage pc = .ok (.ireturn, 1) → post r x → Wd dC dI cI cB cJ cZ ad stC kcC NN A x H → va_S A s.heap H locs → W p l e R s m args below meth c H locs cells slots Q (F0 m pc ls [.int r]))  : ∀ n : Nat, ∀ (o : Nat) (l1 : Int32) (l2 : Int32) (l3 : Int32) (l4 : Int32) (l5 : Int32) (l6 : Int32) (l7 : Int32) (x : St) (H : Heap) (locs : List Loc) (ls : Array Slot), (o < NN ∧ kcC o = 5) → wl_Wrt_fillPage_48 post n o l1 l2 l3 l4 l5 l6 l7 x → Wd dC dI cI cB cJ cZ ad stC kcC NN A x H → va_S A s.heap H locs → lv_has ls 12 [(0, .ref (ad o)), (1, .int l1), (2, .int l2), (3, .int l3), (4, .int l4), (5, .int l5), (6, .int l6), (7, .int l7)] → W p l e R s m args below meth c H locs cells slots Q (F0 m 48 ls []) := by
  intro n
  induction n with
  | zero => intro o l1 l2 l3 l4 l5 l6 l7 x H locs ls fo hw; exact hw.elim
  | succ n ih => intro o l1 l2 l3 l4 l5 l6 l7 x H locs ls fo hw hW hS hl; exact t_Wrt_fillPage_48 hx hb hml hown hT hK hN hA hRc hRs hRf hRl hNN hE hret  ih o l1 l2 l3 l4 l5 l6 l7 x H locs ls fo hw hW hS hl
set_option maxRecDepth 100000 in
def j_Wrt_fillPage_30 (post : Int32 → St → Prop) (o : Nat) (l1 : Int32) (l2 : Int32) (l3 : Int32) (l4 : Int32) (s0 : Int32) (x : St) : Prop := (∀ x3313 : St, x3313 = setI x o 11 0 → (∀ x3314 : St, x3314 = setI x3313 o 12 0 → ∃ n : Nat, wl_Wrt_fillPage_48 post n o l1 l2 l3 l4 s0 0 0 x3314))
set_option maxHeartbeats 4000000 in
set_option maxRecDepth 100000 in
theorem t_Wrt_fillPage_30 {p : Program} {l : Launch} {e : Env} {R : Room} {s : State} {m : MethodId} {args : Array Value} {below : List Frame} {meth : Method} {c : Code} {cells slots : Nat} {Q : State → Prop} {dC : Nat → ClassId} {dI : Nat → Nat → Nat} {cI cB cJ cZ : ClassId} {A : Nat → Prop} {ad : Nat → Nat} {NN : Nat} {E : Heap} {tM tC : Nat} {kK kV : Nat → Nat} {post : Int32 → St → Prop} (hx : p.tables.exec = Jvm.exec) (hb : c.code = b_Wrt_fillPage) (hml : c.maxLocals = 12) (hown : s.vm.findClass R_Wrt = some m.cls) (hT : ∀ w ∈ TG, w.before args s = true) (hK : va_K (dC, dI) CL (TY cI cB cJ cZ) s) (hN : NW s) (hA : ∀ q : Nat, s.heap.size ≤ q → A q) (hRc : cells ≤ R.cells) (hRs : slots ≤ R.slots) (hRf : 1 ≤ R.frames) (hRl : 25 ≤ R.locals) (hNN : 152 ≤ NN) (hE : CE E tM tC kK kV A s) (hret : ∀ (r : Int32) (x : St) (H : Heap) (locs : List Loc) (pc : Nat) (ls : Array Slot), decode b_Wrt_fillPage pc = .ok (.ireturn, 1) → post r x → Wd dC dI cI cB cJ cZ ad stC kcC NN A x H → va_S A s.heap H locs → W p l e R s m args below meth c H locs cells slots Q (F0 m pc ls [.int r]))  : ∀ (o : Nat) (l1 : Int32) (l2 : Int32) (l3 : Int32) (l4 : Int32) (s0 : Int32) (x : St) (H : Heap) (locs : List Loc) (ls : Array Slot), (o < NN ∧ kcC o = 5) → j_Wrt_fillPage_30 post o l1 l2 l3 l4 s0 x → Wd dC dI cI cB cJ cZ ad stC kcC NN A x H → va_S A s.heap H locs → lv_has ls 12 [(0, .ref (ad o)), (1, .int l1), (2, .int l2), (3, .int l3), (4, .int l4)] → W p l e R s m args below meth c H locs cells slots Q (F0 m 30 ls [.int s0]) := by
  intro o l1 l2 l3 l4 s0 x H locs ls fo hw hW hS hl
  unfold j_Wrt_fillPage_30 at hw
  refine lv_istore (lv' := [(5, .int s0), (0, .ref (ad o)), (1, .int l1), (2, .int l2), (3, .int l3), (4, .int l4)]) hx hb d_Wrt_fillPage_30 hl (by decide) rfl (fun ls hl => ?_)
  refine lv_aload_n hx hb d_Wrt_fillPage_32 rfl (lv_at hl 1 rfl) ?_
  refine lv_iconst (v := 0) hx hb d_Wrt_fillPage_33 (by decide) ?_
  refine w_puti (ty := .int) (k := 11) (t := 5) (C := R_Wrt) (T := F_Wrt) (N := 20) hx hb hT hown hK hW hS fo.1 fo.2 (by decide) in_Wrt t_Wrt t_Wrt_ok n_Wrt rfl rfl (by decide) rfl fr_Wrt_11 w_2_62 (by decide +kernel) rfl rfl d_Wrt_fillPage_34 (fun H locs hW hS => ?_)
  obtain ⟨x3313, ex3313⟩ : ∃ y : St, y = setI x o 11 0 := ⟨_, rfl⟩
  rw [← ex3313] at hW
  have hw := hw x3313 ex3313
  refine lv_aload_n hx hb d_Wrt_fillPage_37 rfl (lv_at hl 1 rfl) ?_
  refine lv_iconst (v := 0) hx hb d_Wrt_fillPage_38 (by decide) ?_
  refine w_puti (ty := .int) (k := 12) (t := 5) (C := R_Wrt) (T := F_Wrt) (N := 20) hx hb hT hown hK hW hS fo.1 fo.2 (by decide) in_Wrt t_Wrt t_Wrt_ok n_Wrt rfl rfl (by decide) rfl fr_Wrt_12 w_2_63 (by decide +kernel) rfl rfl d_Wrt_fillPage_39 (fun H locs hW hS => ?_)
  obtain ⟨x3314, ex3314⟩ : ∃ y : St, y = setI x3313 o 12 0 := ⟨_, rfl⟩
  rw [← ex3314] at hW
  have hw := hw x3314 ex3314
  refine lv_iconst (v := 0) hx hb d_Wrt_fillPage_42 (by decide) ?_
  refine lv_istore (lv' := [(6, .int 0), (5, .int s0), (0, .ref (ad o)), (1, .int l1), (2, .int l2), (3, .int l3), (4, .int l4)]) hx hb d_Wrt_fillPage_43 hl (by decide) rfl (fun ls hl => ?_)
  refine lv_iconst (v := 0) hx hb d_Wrt_fillPage_45 (by decide) ?_
  refine lv_istore (lv' := [(7, .int 0), (6, .int 0), (5, .int s0), (0, .ref (ad o)), (1, .int l1), (2, .int l2), (3, .int l3), (4, .int l4)]) hx hb d_Wrt_fillPage_46 hl (by decide) rfl (fun ls hl => ?_)
  obtain ⟨n, hw⟩ := hw
  exact tl_Wrt_fillPage_48 hx hb hml hown hT hK hN hA hRc hRs hRf hRl hNN hE hret  n o l1 l2 l3 l4 s0 0 0 x3314 H locs ls fo hw hW hS (lv_sub hl [3, 4, 5, 6, 7, 2, 1, 0] rfl)
set_option maxRecDepth 100000 in
def wp_Wrt_fillPage (post : Int32 → St → Prop) (o : Nat) (l1 : Int32) (l2 : Int32) (l3 : Int32) (x : St) : Prop := (∃ q3315 : Nat, fR x o 5 = some q3315 ∧ (vp_in l1 (fN x (stC q3315 10)) ∧ (∀ v3316 : Int32, v3316 = (rA x (stC q3315 10) l1) → (∃ q3317 : Nat, fR x o 5 = some q3317 ∧ (vp_in v3316 (fN x (stC q3317 3)) ∧ ((¬ (rA x (stC q3317 3) v3316) = 3 → j_Wrt_fillPage_30 post o l1 l2 l3 v3316 0 x) ∧ ((rA x (stC q3317 3) v3316) = 3 → j_Wrt_fillPage_30 post o l1 l2 l3 v3316 1 x)))))))
set_option maxHeartbeats 4000000 in
set_option maxRecDepth 100000 in
theorem t_Wrt_fillPage_e {p : Program} {l : Launch} {e : Env} {R : Room} {s : State} {m : MethodId} {args : Array Value} {below : List Frame} {meth : Method} {c : Code} {cells slots : Nat} {Q : State → Prop} {dC : Nat → ClassId} {dI : Nat → Nat → Nat} {cI cB cJ cZ : ClassId} {A : Nat → Prop} {ad : Nat → Nat} {NN : Nat} {E : Heap} {tM tC : Nat} {kK kV : Nat → Nat} {post : Int32 → St → Prop} (hx : p.tables.exec = Jvm.exec) (hb : c.code = b_Wrt_fillPage) (hml : c.maxLocals = 12) (hown : s.vm.findClass R_Wrt = some m.cls) (hT : ∀ w ∈ TG, w.before args s = true) (hK : va_K (dC, dI) CL (TY cI cB cJ cZ) s) (hN : NW s) (hA : ∀ q : Nat, s.heap.size ≤ q → A q) (hRc : cells ≤ R.cells) (hRs : slots ≤ R.slots) (hRf : 1 ≤ R.frames) (hRl : 25 ≤ R.locals) (hNN : 152 ≤ NN) (hE : CE E tM tC kK kV A s) (hret : ∀ (r : Int32) (x : St) (H : Heap) (locs : List Loc) (pc : Nat) (ls : Array Slot), decode b_Wrt_fillPage pc = .ok (.ireturn, 1) → post r x → Wd dC dI cI cB cJ cZ ad stC kcC NN A x H → va_S A s.heap H locs → W p l e R s m args below meth c H locs cells slots Q (F0 m pc ls [.int r])) : ∀ (o : Nat) (l1 : Int32) (l2 : Int32) (l3 : Int32) (x : St) (H : Heap) (locs : List Loc) (ls : Array Slot), (o < NN ∧ kcC o = 5) → wp_Wrt_fillPage post o l1 l2 l3 x → Wd dC dI cI cB cJ cZ ad stC kcC NN A x H → va_S A s.heap H locs → lv_has ls 12 [(0, .ref (ad o)), (1, .int l1), (2, .int l2), (3, .int l3)] → W p l e R s m args below meth c H locs cells slots Q (F0 m 0 ls []) := by
  intro o l1 l2 l3 x H locs ls fo hw hW hS hl
  unfold wp_Wrt_fillPage at hw
  refine lv_aload_n hx hb d_Wrt_fillPage_0 rfl (lv_at hl 0 rfl) ?_
  obtain ⟨q3315, hq3315, hw⟩ := hw
  refine w_getr (q := q3315) (k := 5) (t := 5) (C := R_Wrt) (T := F_Wrt) (N := 20) hx hb hT hown hK hW fo.1 fo.2 (by decide) in_Wrt rfl rfl (by decide) rfl fr_Wrt_5 w_2_56 d_Wrt_fillPage_1 hq3315 (fun aq3315 bq3315 => ?_)
  have fq3315 : q3315 < NN ∧ kcC q3315 = 3 := ⟨aq3315, bq3315⟩
  refine w_getf (q := (stC q3315 10)) (k := 10) (t := 3) (C := R_Sch) (T := F_Sch) (N := 13) hx hb hT hown hK hW fq3315.1 fq3315.2 (by decide) in_Sch rfl rfl (by decide) rfl fr_Sch_10 w_1_182 d_Wrt_fillPage_4 rfl ?_
  refine lv_iload_n hx hb d_Wrt_fillPage_7 rfl (lv_at hl 1 rfl) ?_
  obtain ⟨hi, hw⟩ := hw
  refine w_iald (o := (stC q3315 10)) hx hb hK hW (st_ty hNN fq3315.1 fq3315.2 rfl).1 (st_ty hNN fq3315.1 fq3315.2 rfl).2 hi d_Wrt_fillPage_8 ?_
  refine lv_topi (fun v3316 ev3316 => ?_)
  have hw := hw v3316 ev3316
  refine lv_istore (lv' := [(4, .int v3316), (0, .ref (ad o)), (1, .int l1), (2, .int l2), (3, .int l3)]) hx hb d_Wrt_fillPage_9 hl (by decide) rfl (fun ls hl => ?_)
  refine lv_aload_n hx hb d_Wrt_fillPage_11 rfl (lv_at hl 1 rfl) ?_
  obtain ⟨q3317, hq3317, hw⟩ := hw
  refine w_getr (q := q3317) (k := 5) (t := 5) (C := R_Wrt) (T := F_Wrt) (N := 20) hx hb hT hown hK hW fo.1 fo.2 (by decide) in_Wrt rfl rfl (by decide) rfl fr_Wrt_5 w_2_56 d_Wrt_fillPage_12 hq3317 (fun aq3317 bq3317 => ?_)
  have fq3317 : q3317 < NN ∧ kcC q3317 = 3 := ⟨aq3317, bq3317⟩
  refine w_getf (q := (stC q3317 3)) (k := 3) (t := 3) (C := R_Sch) (T := F_Sch) (N := 13) hx hb hT hown hK hW fq3317.1 fq3317.2 (by decide) in_Sch rfl rfl (by decide) rfl fr_Sch_3 w_1_146 d_Wrt_fillPage_15 rfl ?_
  refine lv_iload hx hb d_Wrt_fillPage_18 (lv_at hl 0 rfl) ?_
  obtain ⟨hi, hw⟩ := hw
  refine w_iald (o := (stC q3317 3)) hx hb hK hW (st_ty hNN fq3317.1 fq3317.2 rfl).1 (st_ty hNN fq3317.1 fq3317.2 rfl).2 hi d_Wrt_fillPage_20 ?_
  refine lv_iconst (v := 3) hx hb d_Wrt_fillPage_21 (by decide) ?_
  refine lv_icmp_ne (tgt := 29) hx hb d_Wrt_fillPage_22 (by decide) (fun c3318 => ?_) (fun c3318 => ?_)
  · have hw := hw.1 c3318
    refine lv_iconst (v := 0) hx hb d_Wrt_fillPage_29 (by decide) ?_
    exact t_Wrt_fillPage_30 hx hb hml hown hT hK hN hA hRc hRs hRf hRl hNN hE hret  o l1 l2 l3 v3316 0 x H locs ls fo hw hW hS (lv_sub hl [1, 2, 3, 4, 0] rfl)
  · have hw := hw.2 c3318
    refine lv_iconst (v := 1) hx hb d_Wrt_fillPage_25 (by decide) ?_
    refine lv_goto (tgt := 30) hx hb d_Wrt_fillPage_26 (by decide) ?_
    exact t_Wrt_fillPage_30 hx hb hml hown hT hK hN hA hRc hRs hRf hRl hNN hE hret  o l1 l2 l3 v3316 1 x H locs ls fo hw hW hS (lv_sub hl [1, 2, 3, 4, 0] rfl)
set_option maxHeartbeats 4000000 in
set_option maxRecDepth 100000 in
theorem k_Wrt_fillPage (l : Launch) (dC : Nat → ClassId) (dI : Nat → Nat → Nat) (cI cB cJ cZ : ClassId) (ad : Nat → Nat) (NN : Nat) (E : Heap) (tM tC : Nat) (kK kV : Nat → Nat) (hNN : 152 ≤ NN) (sz : Nat) (o : Nat) (l1 : Int32) (l2 : Int32) (l3 : Int32) (x : St) (fo : o < NN ∧ kcC o = 5) {post : Int32 → St → Prop} (hw : wp_Wrt_fillPage post o l1 l2 l3 x) : Met l y_Wrt_fillPage (wsOf y_Wrt_fillPage b_Wrt_fillPage 12 (some (.int))) ({ frames := 1, cells := 0, slots := 0, locals := 25 }) (va_Pc [.ref (ad o), .int l1, .int l2, .int l3] (PV dC dI cI cB cJ cZ ad stC kcC NN E tM tC kK kV sz x)) (va_Qi (fun (r : Int32) (y : St) => post r y) (fun y t => Wd dC dI cI cB cJ cZ ad stC kcC NN (va_A (pic ad stC kcC NN cI cB cJ cZ x) sz) y t.heap) (va_A (pic ad stC kcC NN cI cB cJ cZ x) sz)) 0 0 (va_A (pic ad stC kcC NN cI cB cJ cZ x) sz) := by
  refine Met.ofW (cc := b_Wrt_fillPage) (maxL := 12) (ret := some (.int)) (by decide) rfl ?_
  intro p e s m args below meth c s₁ B hml hv
  obtain ⟨rfl, ⟨hsz, hW0, hK, hN⟩, hE⟩ := hv
  have hx := B.exec
  have hb := B.bytes
  have hr := B.returns
  have hts := atoms_spec B.pre
  have hT : ∀ w ∈ TG, w.before _ s = true := fun w h => hts w (List.mem_cons_of_mem _ h)
  have hown : s.vm.findClass R_Wrt = some m.cls := findClass_of_methodNamed B.named
  have hlocks := B.notSynchronized
  subst hsz
  have hW : Wd dC dI cI cB cJ cZ ad stC kcC NN (va_A (pic ad stC kcC NN cI cB cJ cZ x) s.heap.size) x s.heap := ⟨hW0.1, hW0.2.1.self (sz := s.heap.size), hW0.2.2⟩
  generalize hAe : va_A (pic ad stC kcC NN cI cB cJ cZ x) s.heap.size = A at hW hE ⊢
  have hA : ∀ q : Nat, s.heap.size ≤ q → A q := fun q h => by rw [← hAe]; exact Or.inr h
  have hS : va_S A s.heap s.heap [] := va_S.rf
  have hl := lv_entry ([.ref (ad o), .int l1, .int l2, .int l3]) (n := 12) (Nat.le_of_ble_eq_true rfl)
  rw [lg_entry_eq]
  generalize (lg_sl ([.ref (ad o), .int l1, .int l2, .int l3]) ++ List.replicate (12 - (lg_sl ([.ref (ad o), .int l1, .int l2, .int l3])).length) Slot.unset).toArray = ls at hl ⊢
  have hl : lv_has ls 12 [(0, .ref (ad o)), (1, .int l1), (2, .int l2), (3, .int l3)] := hl
  exact t_Wrt_fillPage_e hx hb hml hown hT hK hN hA (Nat.le_refl 0) (Nat.le_refl 0) (Nat.le_refl 1) (Nat.le_refl 25) hNN hE (fun r x H locs pc ls hd hp hW hS => W.iret (v := r) hx hb hr (fun t ht hM => ⟨⟨r, x, rfl, hp, Wd.back hW ht.symm (fun _ z => z)⟩, hS.F ht⟩) hS.2.2 hd hlocks)  o l1 l2 l3 x _ _ ls fo hw hW hS hl
end
