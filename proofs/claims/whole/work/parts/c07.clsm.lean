theorem fr_Wrt_11 : F_Wrt 11 = (R_Wrt, "entries", "I", false) := rfl
theorem fr_Wrt_12 : F_Wrt 12 = (R_Wrt, "values", "I", false) := rfl
theorem fr_Wrt_5 : F_Wrt 5 = (R_Wrt, "schema", "LStripedVault$Schema;", false) := rfl
theorem fr_Wrt_6 : F_Wrt 6 = (R_Wrt, "records", "LStripedVault$Records;", false) := rfl
theorem w_1_133 : (Jvm.Cond.fieldLink "StripedVault" (129 : Nat) "StripedVault$Schema" "fields" "I") ∈ TG := tw_1 133 (by decide +kernel) (by decide +kernel)
theorem w_1_146 : (Jvm.Cond.fieldLink "StripedVault$Writer" (105 : Nat) "StripedVault$Schema" "type" "[I") ∈ TG := tw_1 146 (by decide +kernel) (by decide +kernel)
theorem w_1_165 : (Jvm.Cond.fieldLink "StripedVault$Writer" (195 : Nat) "StripedVault$Schema" "def" "[I") ∈ TG := tw_1 165 (by decide +kernel) (by decide +kernel)
theorem w_1_182 : (Jvm.Cond.fieldLink "StripedVault$Writer" (139 : Nat) "StripedVault$Schema" "fieldOf" "[I") ∈ TG := tw_1 182 (by decide +kernel) (by decide +kernel)
theorem w_1_229 : (Jvm.Cond.fieldLink "StripedVault" (135 : Nat) "StripedVault$Records" "count" "I") ∈ TG := tw_1 229 (by decide +kernel) (by decide +kernel)
theorem w_1_235 : (Jvm.Cond.fieldLink "StripedVault$Writer" (182 : Nat) "StripedVault$Records" "rep" "[B") ∈ TG := tw_1 235 (by decide +kernel) (by decide +kernel)
theorem w_1_237 : (Jvm.Cond.fieldLink "StripedVault$Writer" (202 : Nat) "StripedVault$Records" "def" "[B") ∈ TG := tw_1 237 (by decide +kernel) (by decide +kernel)
theorem w_1_239 : (Jvm.Cond.fieldLink "StripedVault$Writer" (185 : Nat) "StripedVault$Records" "val" "[J") ∈ TG := tw_1 239 (by decide +kernel) (by decide +kernel)
theorem w_1_91 : (Jvm.Cond.fieldLink "StripedVault$Records" (89 : Nat) "StripedVault$Scan" "place" "I") ∈ TG := tw_1 91 (by decide +kernel) (by decide +kernel)
theorem w_2_2 : (Jvm.Cond.fieldLink "StripedVault$Writer" (192 : Nat) "StripedVault$Records" "next" "[I") ∈ TG := tw_2 2 (by decide +kernel) (by decide +kernel)
theorem w_2_56 : (Jvm.Cond.fieldLink "StripedVault$Writer" (62 : Nat) "StripedVault$Writer" "schema" "LStripedVault$Schema;") ∈ TG := tw_2 56 (by decide +kernel) (by decide +kernel)
theorem w_2_57 : (Jvm.Cond.fieldLink "StripedVault$Writer" (66 : Nat) "StripedVault$Writer" "records" "LStripedVault$Records;") ∈ TG := tw_2 57 (by decide +kernel) (by decide +kernel)
theorem w_2_62 : (Jvm.Cond.fieldLink "StripedVault$Writer" (168 : Nat) "StripedVault$Writer" "entries" "I") ∈ TG := tw_2 62 (by decide +kernel) (by decide +kernel)
theorem w_2_63 : (Jvm.Cond.fieldLink "StripedVault$Writer" (154 : Nat) "StripedVault$Writer" "values" "I") ∈ TG := tw_2 63 (by decide +kernel) (by decide +kernel)
theorem w_5_110 : (Jvm.Cond.constant "StripedVault$Records" (92 : Nat) (60000 : Int32)) ∈ TG := tw_5 110 (by decide +kernel) (by decide +kernel)
theorem w_5_111 : (Jvm.Cond.methodLink "StripedVault$Records" (93 : Nat) ({ cls := "StripedVault$Records", name := "keep", desc := "()V" } : Jvm.MethodName)) ∈ TG := tw_5 111 (by decide +kernel) (by decide +kernel)
theorem w_5_113 : (Jvm.Cond.instanceMethod ({ cls := "StripedVault$Records", name := "keep", desc := "()V" } : Jvm.MethodName)) ∈ TG := tw_5 113 (by decide +kernel) (by decide +kernel)
theorem w_5_114 : (Jvm.Cond.code ({ cls := "StripedVault$Records", name := "keep", desc := "()V" } : Jvm.MethodName) prog_6_method_4_code (3 : Nat) (Option.none : Option Jvm.ClassFile.FieldType)) ∈ TG := tw_5 114 (by decide +kernel) (by decide +kernel)
theorem w_5_160 : (Jvm.Cond.static ({ cls := "StripedVault", name := "sizeOf", desc := "(J)I" } : Jvm.MethodName)) ∈ TG := tw_5 160 (by decide +kernel) (by decide +kernel)
theorem w_5_161 : (Jvm.Cond.code ({ cls := "StripedVault", name := "sizeOf", desc := "(J)I" } : Jvm.MethodName) prog_1_method_33_code (2 : Nat) (Option.some Jvm.ClassFile.FieldType.int)) ∈ TG := tw_5 161 (by decide +kernel) (by decide +kernel)
theorem w_5_162 : (Jvm.Cond.constantLong "StripedVault" (244 : Nat) (255 : Int64)) ∈ TG := tw_5 162 (by decide +kernel) (by decide +kernel)
theorem w_5_163 : (Jvm.Cond.methodLink "StripedVault$Writer" (198 : Nat) ({ cls := "StripedVault$Writer", name := "takeEntries", desc := "(III)V" } : Jvm.MethodName)) ∈ TG := tw_5 163 (by decide +kernel) (by decide +kernel)
theorem w_5_165 : (Jvm.Cond.instanceMethod ({ cls := "StripedVault$Writer", name := "takeEntries", desc := "(III)V" } : Jvm.MethodName)) ∈ TG := tw_5 165 (by decide +kernel) (by decide +kernel)
theorem w_5_166 : (Jvm.Cond.code ({ cls := "StripedVault$Writer", name := "takeEntries", desc := "(III)V" } : Jvm.MethodName) prog_12_method_9_code (6 : Nat) (Option.none : Option Jvm.ClassFile.FieldType)) ∈ TG := tw_5 166 (by decide +kernel) (by decide +kernel)
theorem w_5_19 : (Jvm.Cond.methodLink "StripedVault" (132 : Nat) ({ cls := "StripedVault$Records", name := "readText", desc := "(LStripedVault$Scan;LStripedVault$Schema;)I" } : Jvm.MethodName)) ∈ TG := tw_5 19 (by decide +kernel) (by decide +kernel)
theorem w_5_20 : (Jvm.Cond.instanceMethod ({ cls := "StripedVault$Records", name := "readText", desc := "(LStripedVault$Scan;LStripedVault$Schema;)I" } : Jvm.MethodName)) ∈ TG := tw_5 20 (by decide +kernel) (by decide +kernel)
theorem w_5_21 : (Jvm.Cond.selects "StripedVault$Records" ({ cls := "StripedVault$Records", name := "readText", desc := "(LStripedVault$Scan;LStripedVault$Schema;)I" } : Jvm.MethodName) ({ cls := "StripedVault$Records", name := "readText", desc := "(LStripedVault$Scan;LStripedVault$Schema;)I" } : Jvm.MethodName)) ∈ TG := tw_5 21 (by decide +kernel) (by decide +kernel)
theorem w_5_22 : (Jvm.Cond.code ({ cls := "StripedVault$Records", name := "readText", desc := "(LStripedVault$Scan;LStripedVault$Schema;)I" } : Jvm.MethodName) prog_6_method_3_code (3 : Nat) (Option.some Jvm.ClassFile.FieldType.int)) ∈ TG := tw_5 22 (by decide +kernel) (by decide +kernel)
theorem wn_5_159 : (Jvm.Cond.methodLinkNest "StripedVault$Writer" (188 : Nat) ({ cls := "StripedVault", name := "sizeOf", desc := "(J)I" } : Jvm.MethodName) "StripedVault") ∈ lw_tbl := tb_5 _ (List.mem_of_getElem? (i := 159) (by decide +kernel))
theorem ws_17 : Cond.selects R_Rec y_Rec_keep y_Rec_keep ∈ TG := tw_s 17 (by decide +kernel) (by decide +kernel)
theorem ws_19 : Cond.selects R_Wrt y_Wrt_takeEntries y_Wrt_takeEntries ∈ TG := tw_s 19 (by decide +kernel) (by decide +kernel)
theorem d_Rec_keep_59 : decode b_Rec_keep 59 = .ok (.aload_n 0, 1) := by decide +kernel
theorem d_Rec_keep_60 : decode b_Rec_keep 60 = .ok (.getfield 32, 3) := by decide +kernel
theorem d_Rec_keep_63 : decode b_Rec_keep 63 = .ok (.iload_n 2, 1) := by decide +kernel
theorem d_Rec_keep_64 : decode b_Rec_keep 64 = .ok (.iload_n 1, 1) := by decide +kernel
theorem d_Rec_keep_65 : decode b_Rec_keep 65 = .ok (.iastore, 1) := by decide +kernel
theorem d_Rec_keep_66 : decode b_Rec_keep 66 = .ok (.iinc 1 1, 3) := by decide +kernel
theorem d_Rec_keep_69 : decode b_Rec_keep 69 = .ok (.goto (-64), 3) := by decide +kernel
theorem d_Rec_keep_5 : decode b_Rec_keep 5 = .ok (.iload_n 1, 1) := by decide +kernel
theorem d_Rec_keep_6 : decode b_Rec_keep 6 = .ok (.aload_n 0, 1) := by decide +kernel
theorem d_Rec_keep_7 : decode b_Rec_keep 7 = .ok (.getfield 63, 3) := by decide +kernel
theorem d_Rec_keep_10 : decode b_Rec_keep 10 = .ok (.if_icmp .ge 62, 3) := by decide +kernel
theorem d_Rec_keep_72 : decode b_Rec_keep 72 = .ok (.aload_n 0, 1) := by decide +kernel
theorem d_Rec_keep_73 : decode b_Rec_keep 73 = .ok (.aload_n 0, 1) := by decide +kernel
theorem d_Rec_keep_74 : decode b_Rec_keep 74 = .ok (.getfield 63, 3) := by decide +kernel
theorem d_Rec_keep_77 : decode b_Rec_keep 77 = .ok (.putfield 49, 3) := by decide +kernel
theorem d_Rec_keep_80 : decode b_Rec_keep 80 = .ok (.aload_n 0, 1) := by decide +kernel
theorem d_Rec_keep_81 : decode b_Rec_keep 81 = .ok (.aload_n 0, 1) := by decide +kernel
theorem d_Rec_keep_82 : decode b_Rec_keep 82 = .ok (.getfield 66, 3) := by decide +kernel
theorem d_Rec_keep_85 : decode b_Rec_keep 85 = .ok (.putfield 52, 3) := by decide +kernel
theorem d_Rec_keep_88 : decode b_Rec_keep 88 = .ok (.aload_n 0, 1) := by decide +kernel
theorem d_Rec_keep_89 : decode b_Rec_keep 89 = .ok (.dup, 1) := by decide +kernel
theorem d_Rec_keep_90 : decode b_Rec_keep 90 = .ok (.getfield 45, 3) := by decide +kernel
theorem d_Rec_keep_93 : decode b_Rec_keep 93 = .ok (.iconst 1, 1) := by decide +kernel
theorem d_Rec_keep_94 : decode b_Rec_keep 94 = .ok (.iadd, 1) := by decide +kernel
theorem d_Rec_keep_95 : decode b_Rec_keep 95 = .ok (.putfield 45, 3) := by decide +kernel
theorem d_Rec_keep_98 : decode b_Rec_keep 98 = .ok (.return_, 1) := by decide +kernel
theorem d_Rec_keep_13 : decode b_Rec_keep 13 = .ok (.aload_n 0, 1) := by decide +kernel
theorem d_Rec_keep_14 : decode b_Rec_keep 14 = .ok (.getfield 22, 3) := by decide +kernel
theorem d_Rec_keep_17 : decode b_Rec_keep 17 = .ok (.iload_n 1, 1) := by decide +kernel
theorem d_Rec_keep_18 : decode b_Rec_keep 18 = .ok (.baload, 1) := by decide +kernel
theorem d_Rec_keep_19 : decode b_Rec_keep 19 = .ok (.istore_n 2, 1) := by decide +kernel
theorem d_Rec_keep_20 : decode b_Rec_keep 20 = .ok (.aload_n 0, 1) := by decide +kernel
theorem d_Rec_keep_21 : decode b_Rec_keep 21 = .ok (.getfield 25, 3) := by decide +kernel
theorem d_Rec_keep_24 : decode b_Rec_keep 24 = .ok (.iload_n 1, 1) := by decide +kernel
theorem d_Rec_keep_25 : decode b_Rec_keep 25 = .ok (.iconst (-1), 1) := by decide +kernel
theorem d_Rec_keep_26 : decode b_Rec_keep 26 = .ok (.iastore, 1) := by decide +kernel
theorem d_Rec_keep_27 : decode b_Rec_keep 27 = .ok (.aload_n 0, 1) := by decide +kernel
theorem d_Rec_keep_28 : decode b_Rec_keep 28 = .ok (.getfield 32, 3) := by decide +kernel
theorem d_Rec_keep_31 : decode b_Rec_keep 31 = .ok (.iload_n 2, 1) := by decide +kernel
theorem d_Rec_keep_32 : decode b_Rec_keep 32 = .ok (.iaload, 1) := by decide +kernel
theorem d_Rec_keep_33 : decode b_Rec_keep 33 = .ok (.iconst (-1), 1) := by decide +kernel
theorem d_Rec_keep_34 : decode b_Rec_keep 34 = .ok (.if_icmp .ne 13, 3) := by decide +kernel
theorem d_Rec_keep_47 : decode b_Rec_keep 47 = .ok (.aload_n 0, 1) := by decide +kernel
theorem d_Rec_keep_48 : decode b_Rec_keep 48 = .ok (.getfield 25, 3) := by decide +kernel
theorem d_Rec_keep_51 : decode b_Rec_keep 51 = .ok (.aload_n 0, 1) := by decide +kernel
theorem d_Rec_keep_52 : decode b_Rec_keep 52 = .ok (.getfield 32, 3) := by decide +kernel
theorem d_Rec_keep_55 : decode b_Rec_keep 55 = .ok (.iload_n 2, 1) := by decide +kernel
theorem d_Rec_keep_56 : decode b_Rec_keep 56 = .ok (.iaload, 1) := by decide +kernel
theorem d_Rec_keep_57 : decode b_Rec_keep 57 = .ok (.iload_n 1, 1) := by decide +kernel
theorem d_Rec_keep_58 : decode b_Rec_keep 58 = .ok (.iastore, 1) := by decide +kernel
theorem d_Rec_keep_37 : decode b_Rec_keep 37 = .ok (.aload_n 0, 1) := by decide +kernel
theorem d_Rec_keep_38 : decode b_Rec_keep 38 = .ok (.getfield 29, 3) := by decide +kernel
theorem d_Rec_keep_41 : decode b_Rec_keep 41 = .ok (.iload_n 2, 1) := by decide +kernel
theorem d_Rec_keep_42 : decode b_Rec_keep 42 = .ok (.iload_n 1, 1) := by decide +kernel
theorem d_Rec_keep_43 : decode b_Rec_keep 43 = .ok (.iastore, 1) := by decide +kernel
theorem d_Rec_keep_44 : decode b_Rec_keep 44 = .ok (.goto 15, 3) := by decide +kernel
theorem d_Rec_keep_0 : decode b_Rec_keep 0 = .ok (.aload_n 0, 1) := by decide +kernel
theorem d_Rec_keep_1 : decode b_Rec_keep 1 = .ok (.getfield 49, 3) := by decide +kernel
theorem d_Rec_keep_4 : decode b_Rec_keep 4 = .ok (.istore_n 1, 1) := by decide +kernel
theorem d_Rec_readText_115 : decode b_Rec_readText 115 = .ok (.bipush (-2), 2) := by decide +kernel
theorem d_Rec_readText_117 : decode b_Rec_readText 117 = .ok (.ireturn, 1) := by decide +kernel
theorem d_Rec_readText_68 : decode b_Rec_readText 68 = .ok (.aload_n 0, 1) := by decide +kernel
theorem d_Rec_readText_69 : decode b_Rec_readText 69 = .ok (.getfield 55, 3) := by decide +kernel
theorem d_Rec_readText_72 : decode b_Rec_readText 72 = .ok (.invokevirtual 73, 3) := by decide +kernel
theorem d_Rec_readText_75 : decode b_Rec_readText 75 = .ok (.ifCond .ne 11, 3) := by decide +kernel
theorem d_Rec_readText_86 : decode b_Rec_readText 86 = .ok (.aload_n 0, 1) := by decide +kernel
theorem d_Rec_readText_87 : decode b_Rec_readText 87 = .ok (.getfield 45, 3) := by decide +kernel
theorem d_Rec_readText_90 : decode b_Rec_readText 90 = .ok (.sipush 2000, 3) := by decide +kernel
theorem d_Rec_readText_93 : decode b_Rec_readText 93 = .ok (.if_icmp .ge 22, 3) := by decide +kernel
theorem d_Rec_readText_96 : decode b_Rec_readText 96 = .ok (.aload_n 0, 1) := by decide +kernel
theorem d_Rec_readText_97 : decode b_Rec_readText 97 = .ok (.getfield 63, 3) := by decide +kernel
theorem d_Rec_readText_100 : decode b_Rec_readText 100 = .ok (.sipush 10000, 3) := by decide +kernel
theorem d_Rec_readText_103 : decode b_Rec_readText 103 = .ok (.if_icmp .gt 12, 3) := by decide +kernel
theorem d_Rec_readText_106 : decode b_Rec_readText 106 = .ok (.aload_n 0, 1) := by decide +kernel
theorem d_Rec_readText_107 : decode b_Rec_readText 107 = .ok (.getfield 66, 3) := by decide +kernel
theorem d_Rec_readText_110 : decode b_Rec_readText 110 = .ok (.ldc 92, 2) := by decide +kernel
theorem d_Rec_readText_112 : decode b_Rec_readText 112 = .ok (.if_icmp .le 6, 3) := by decide +kernel
theorem d_Rec_readText_118 : decode b_Rec_readText 118 = .ok (.aload_n 0, 1) := by decide +kernel
theorem d_Rec_readText_119 : decode b_Rec_readText 119 = .ok (.invokevirtual 93, 3) := by decide +kernel
theorem d_Rec_readText_122 : decode b_Rec_readText 122 = .ok (.iconst (-1), 1) := by decide +kernel
theorem d_Rec_readText_123 : decode b_Rec_readText 123 = .ok (.ireturn, 1) := by decide +kernel
theorem d_Rec_readText_78 : decode b_Rec_readText 78 = .ok (.aload_n 0, 1) := by decide +kernel
theorem d_Rec_readText_79 : decode b_Rec_readText 79 = .ok (.getfield 55, 3) := by decide +kernel
theorem d_Rec_readText_82 : decode b_Rec_readText 82 = .ok (.getfield 89, 3) := by decide +kernel
theorem d_Rec_readText_85 : decode b_Rec_readText 85 = .ok (.ireturn, 1) := by decide +kernel
theorem d_Rec_readText_0 : decode b_Rec_readText 0 = .ok (.aload_n 0, 1) := by decide +kernel
theorem d_Rec_readText_1 : decode b_Rec_readText 1 = .ok (.aload_n 1, 1) := by decide +kernel
theorem d_Rec_readText_2 : decode b_Rec_readText 2 = .ok (.putfield 55, 3) := by decide +kernel
theorem d_Rec_readText_5 : decode b_Rec_readText 5 = .ok (.aload_n 0, 1) := by decide +kernel
theorem d_Rec_readText_6 : decode b_Rec_readText 6 = .ok (.aload_n 2, 1) := by decide +kernel
theorem d_Rec_readText_7 : decode b_Rec_readText 7 = .ok (.putfield 59, 3) := by decide +kernel
theorem d_Rec_readText_10 : decode b_Rec_readText 10 = .ok (.aload_n 0, 1) := by decide +kernel
theorem d_Rec_readText_11 : decode b_Rec_readText 11 = .ok (.aload_n 0, 1) := by decide +kernel
theorem d_Rec_readText_12 : decode b_Rec_readText 12 = .ok (.getfield 49, 3) := by decide +kernel
theorem d_Rec_readText_15 : decode b_Rec_readText 15 = .ok (.putfield 63, 3) := by decide +kernel
theorem d_Rec_readText_18 : decode b_Rec_readText 18 = .ok (.aload_n 0, 1) := by decide +kernel
theorem d_Rec_readText_19 : decode b_Rec_readText 19 = .ok (.aload_n 0, 1) := by decide +kernel
theorem d_Rec_readText_20 : decode b_Rec_readText 20 = .ok (.getfield 52, 3) := by decide +kernel
theorem d_Rec_readText_23 : decode b_Rec_readText 23 = .ok (.putfield 66, 3) := by decide +kernel
theorem d_Rec_readText_26 : decode b_Rec_readText 26 = .ok (.aload_n 0, 1) := by decide +kernel
theorem d_Rec_readText_27 : decode b_Rec_readText 27 = .ok (.iconst (-1), 1) := by decide +kernel
theorem d_Rec_readText_28 : decode b_Rec_readText 28 = .ok (.iconst 0, 1) := by decide +kernel
theorem d_Rec_readText_29 : decode b_Rec_readText 29 = .ok (.iconst 0, 1) := by decide +kernel
theorem d_Rec_readText_30 : decode b_Rec_readText 30 = .ok (.invokevirtual 69, 3) := by decide +kernel
theorem d_Rec_readText_33 : decode b_Rec_readText 33 = .ok (.aload_n 0, 1) := by decide +kernel
theorem d_Rec_readText_34 : decode b_Rec_readText 34 = .ok (.getfield 55, 3) := by decide +kernel
theorem d_Rec_readText_37 : decode b_Rec_readText 37 = .ok (.invokevirtual 73, 3) := by decide +kernel
theorem d_Rec_readText_40 : decode b_Rec_readText 40 = .ok (.ifCond .eq 28, 3) := by decide +kernel
theorem d_Rec_readText_43 : decode b_Rec_readText 43 = .ok (.aload_n 0, 1) := by decide +kernel
theorem d_Rec_readText_44 : decode b_Rec_readText 44 = .ok (.getfield 55, 3) := by decide +kernel
theorem d_Rec_readText_47 : decode b_Rec_readText 47 = .ok (.invokevirtual 79, 3) := by decide +kernel
theorem d_Rec_readText_50 : decode b_Rec_readText 50 = .ok (.iconst (-1), 1) := by decide +kernel
theorem d_Rec_readText_51 : decode b_Rec_readText 51 = .ok (.if_icmp .eq 17, 3) := by decide +kernel
theorem d_Rec_readText_54 : decode b_Rec_readText 54 = .ok (.aload_n 0, 1) := by decide +kernel
theorem d_Rec_readText_55 : decode b_Rec_readText 55 = .ok (.getfield 55, 3) := by decide +kernel
theorem d_Rec_readText_58 : decode b_Rec_readText 58 = .ok (.aload_n 0, 1) := by decide +kernel
theorem d_Rec_readText_59 : decode b_Rec_readText 59 = .ok (.getfield 55, 3) := by decide +kernel
theorem d_Rec_readText_62 : decode b_Rec_readText 62 = .ok (.getfield 82, 3) := by decide +kernel
theorem d_Rec_readText_65 : decode b_Rec_readText 65 = .ok (.invokevirtual 85, 3) := by decide +kernel
theorem d_V_record_0 : decode b_V_record 0 = .ok (.aload_n 0, 1) := by decide +kernel
theorem d_V_record_1 : decode b_V_record 1 = .ok (.invokevirtual 112, 3) := by decide +kernel
theorem d_V_record_4 : decode b_V_record 4 = .ok (.istore_n 1, 1) := by decide +kernel
theorem d_V_record_5 : decode b_V_record 5 = .ok (.aload_n 0, 1) := by decide +kernel
theorem d_V_record_6 : decode b_V_record 6 = .ok (.getfield 35, 3) := by decide +kernel
theorem d_V_record_9 : decode b_V_record 9 = .ok (.getfield 129, 3) := by decide +kernel
theorem d_V_record_12 : decode b_V_record 12 = .ok (.ifCond .ne 6, 3) := by decide +kernel
theorem d_V_record_18 : decode b_V_record 18 = .ok (.iload_n 1, 1) := by decide +kernel
theorem d_V_record_19 : decode b_V_record 19 = .ok (.sipush 4000, 3) := by decide +kernel
theorem d_V_record_22 : decode b_V_record 22 = .ok (.if_icmp .le 7, 3) := by decide +kernel
theorem d_V_record_29 : decode b_V_record 29 = .ok (.aload_n 0, 1) := by decide +kernel
theorem d_V_record_30 : decode b_V_record 30 = .ok (.getfield 28, 3) := by decide +kernel
theorem d_V_record_33 : decode b_V_record 33 = .ok (.aload_n 0, 1) := by decide +kernel
theorem d_V_record_34 : decode b_V_record 34 = .ok (.getfield 19, 3) := by decide +kernel
theorem d_V_record_37 : decode b_V_record 37 = .ok (.getfield 116, 3) := by decide +kernel
theorem d_V_record_40 : decode b_V_record 40 = .ok (.iload_n 1, 1) := by decide +kernel
theorem d_V_record_41 : decode b_V_record 41 = .ok (.invokevirtual 120, 3) := by decide +kernel
theorem d_V_record_44 : decode b_V_record 44 = .ok (.aload_n 0, 1) := by decide +kernel
theorem d_V_record_45 : decode b_V_record 45 = .ok (.getfield 45, 3) := by decide +kernel
theorem d_V_record_48 : decode b_V_record 48 = .ok (.aload_n 0, 1) := by decide +kernel
theorem d_V_record_49 : decode b_V_record 49 = .ok (.getfield 28, 3) := by decide +kernel
theorem d_V_record_52 : decode b_V_record 52 = .ok (.aload_n 0, 1) := by decide +kernel
theorem d_V_record_53 : decode b_V_record 53 = .ok (.getfield 35, 3) := by decide +kernel
theorem d_V_record_56 : decode b_V_record 56 = .ok (.invokevirtual 132, 3) := by decide +kernel
theorem d_V_record_59 : decode b_V_record 59 = .ok (.ireturn, 1) := by decide +kernel
theorem d_V_record_25 : decode b_V_record 25 = .ok (.sipush 4000, 3) := by decide +kernel
theorem d_V_record_28 : decode b_V_record 28 = .ok (.ireturn, 1) := by decide +kernel
theorem d_V_record_15 : decode b_V_record 15 = .ok (.bipush (-2), 2) := by decide +kernel
theorem d_V_record_17 : decode b_V_record 17 = .ok (.ireturn, 1) := by decide +kernel
theorem d_V_records_0 : decode b_V_records 0 = .ok (.aload_n 0, 1) := by decide +kernel
theorem d_V_records_1 : decode b_V_records 1 = .ok (.getfield 45, 3) := by decide +kernel
theorem d_V_records_4 : decode b_V_records 4 = .ok (.getfield 135, 3) := by decide +kernel
theorem d_V_records_7 : decode b_V_records 7 = .ok (.ireturn, 1) := by decide +kernel
theorem d_V_clear_0 : decode b_V_clear 0 = .ok (.aload_n 0, 1) := by decide +kernel
theorem d_V_clear_1 : decode b_V_clear 1 = .ok (.getfield 45, 3) := by decide +kernel
theorem d_V_clear_4 : decode b_V_clear 4 = .ok (.invokevirtual 128, 3) := by decide +kernel
theorem d_V_clear_7 : decode b_V_clear 7 = .ok (.return_, 1) := by decide +kernel
theorem d_V_sizeOf_0 : decode b_V_sizeOf 0 = .ok (.lload_n 0, 1) := by decide +kernel
theorem d_V_sizeOf_1 : decode b_V_sizeOf 1 = .ok (.ldc2_w 244, 3) := by decide +kernel
theorem d_V_sizeOf_4 : decode b_V_sizeOf 4 = .ok (.land, 1) := by decide +kernel
theorem d_V_sizeOf_5 : decode b_V_sizeOf 5 = .ok (.l2i, 1) := by decide +kernel
theorem d_V_sizeOf_6 : decode b_V_sizeOf 6 = .ok (.ireturn, 1) := by decide +kernel
theorem d_Wrt_takeEntries_142 : decode b_Wrt_takeEntries 142 = .ok (.aload_n 0, 1) := by decide +kernel
theorem d_Wrt_takeEntries_143 : decode b_Wrt_takeEntries 143 = .ok (.getfield 33, 3) := by decide +kernel
theorem d_Wrt_takeEntries_146 : decode b_Wrt_takeEntries 146 = .ok (.iload_n 1, 1) := by decide +kernel
theorem d_Wrt_takeEntries_147 : decode b_Wrt_takeEntries 147 = .ok (.iload 4, 2) := by decide +kernel
theorem d_Wrt_takeEntries_149 : decode b_Wrt_takeEntries 149 = .ok (.iastore, 1) := by decide +kernel
theorem d_Wrt_takeEntries_150 : decode b_Wrt_takeEntries 150 = .ok (.return_, 1) := by decide +kernel
theorem d_Wrt_takeEntries_124 : decode b_Wrt_takeEntries 124 = .ok (.aload_n 0, 1) := by decide +kernel
theorem d_Wrt_takeEntries_125 : decode b_Wrt_takeEntries 125 = .ok (.getfield 66, 3) := by decide +kernel
theorem d_Wrt_takeEntries_128 : decode b_Wrt_takeEntries 128 = .ok (.getfield 192, 3) := by decide +kernel
theorem d_Wrt_takeEntries_131 : decode b_Wrt_takeEntries 131 = .ok (.iload 4, 2) := by decide +kernel
theorem d_Wrt_takeEntries_133 : decode b_Wrt_takeEntries 133 = .ok (.iaload, 1) := by decide +kernel
theorem d_Wrt_takeEntries_134 : decode b_Wrt_takeEntries 134 = .ok (.istore 4, 2) := by decide +kernel
theorem d_Wrt_takeEntries_136 : decode b_Wrt_takeEntries 136 = .ok (.iinc 5 1, 3) := by decide +kernel
theorem d_Wrt_takeEntries_139 : decode b_Wrt_takeEntries 139 = .ok (.goto (-128), 3) := by decide +kernel
theorem d_Wrt_takeEntries_11 : decode b_Wrt_takeEntries 11 = .ok (.iload 5, 2) := by decide +kernel
theorem d_Wrt_takeEntries_13 : decode b_Wrt_takeEntries 13 = .ok (.iload_n 2, 1) := by decide +kernel
theorem d_Wrt_takeEntries_14 : decode b_Wrt_takeEntries 14 = .ok (.if_icmp .ge 128, 3) := by decide +kernel
theorem d_Wrt_takeEntries_17 : decode b_Wrt_takeEntries 17 = .ok (.iload 4, 2) := by decide +kernel
theorem d_Wrt_takeEntries_19 : decode b_Wrt_takeEntries 19 = .ok (.iconst (-1), 1) := by decide +kernel
theorem d_Wrt_takeEntries_20 : decode b_Wrt_takeEntries 20 = .ok (.if_icmp .eq 122, 3) := by decide +kernel
theorem d_Wrt_takeEntries_23 : decode b_Wrt_takeEntries 23 = .ok (.aload_n 0, 1) := by decide +kernel
theorem d_Wrt_takeEntries_24 : decode b_Wrt_takeEntries 24 = .ok (.getfield 168, 3) := by decide +kernel
theorem d_Wrt_takeEntries_27 : decode b_Wrt_takeEntries 27 = .ok (.sipush 1000, 3) := by decide +kernel
theorem d_Wrt_takeEntries_30 : decode b_Wrt_takeEntries 30 = .ok (.if_icmp .ge 112, 3) := by decide +kernel
theorem d_Wrt_takeEntries_33 : decode b_Wrt_takeEntries 33 = .ok (.aload_n 0, 1) := by decide +kernel
theorem d_Wrt_takeEntries_34 : decode b_Wrt_takeEntries 34 = .ok (.getfield 37, 3) := by decide +kernel
theorem d_Wrt_takeEntries_37 : decode b_Wrt_takeEntries 37 = .ok (.aload_n 0, 1) := by decide +kernel
theorem d_Wrt_takeEntries_38 : decode b_Wrt_takeEntries 38 = .ok (.getfield 168, 3) := by decide +kernel
theorem d_Wrt_takeEntries_41 : decode b_Wrt_takeEntries 41 = .ok (.aload_n 0, 1) := by decide +kernel
theorem d_Wrt_takeEntries_42 : decode b_Wrt_takeEntries 42 = .ok (.getfield 66, 3) := by decide +kernel
theorem d_Wrt_takeEntries_45 : decode b_Wrt_takeEntries 45 = .ok (.getfield 182, 3) := by decide +kernel
theorem d_Wrt_takeEntries_48 : decode b_Wrt_takeEntries 48 = .ok (.iload 4, 2) := by decide +kernel
theorem d_Wrt_takeEntries_50 : decode b_Wrt_takeEntries 50 = .ok (.baload, 1) := by decide +kernel
theorem d_Wrt_takeEntries_51 : decode b_Wrt_takeEntries 51 = .ok (.iastore, 1) := by decide +kernel
theorem d_Wrt_takeEntries_52 : decode b_Wrt_takeEntries 52 = .ok (.aload_n 0, 1) := by decide +kernel
theorem d_Wrt_takeEntries_53 : decode b_Wrt_takeEntries 53 = .ok (.getfield 40, 3) := by decide +kernel
theorem d_Wrt_takeEntries_56 : decode b_Wrt_takeEntries 56 = .ok (.aload_n 0, 1) := by decide +kernel
theorem d_Wrt_takeEntries_57 : decode b_Wrt_takeEntries 57 = .ok (.getfield 168, 3) := by decide +kernel
theorem d_Wrt_takeEntries_60 : decode b_Wrt_takeEntries 60 = .ok (.aload_n 0, 1) := by decide +kernel
theorem d_Wrt_takeEntries_61 : decode b_Wrt_takeEntries 61 = .ok (.getfield 66, 3) := by decide +kernel
theorem d_Wrt_takeEntries_64 : decode b_Wrt_takeEntries 64 = .ok (.getfield 202, 3) := by decide +kernel
theorem d_Wrt_takeEntries_67 : decode b_Wrt_takeEntries 67 = .ok (.iload 4, 2) := by decide +kernel
theorem d_Wrt_takeEntries_69 : decode b_Wrt_takeEntries 69 = .ok (.baload, 1) := by decide +kernel
theorem d_Wrt_takeEntries_70 : decode b_Wrt_takeEntries 70 = .ok (.iastore, 1) := by decide +kernel
theorem d_Wrt_takeEntries_71 : decode b_Wrt_takeEntries 71 = .ok (.aload_n 0, 1) := by decide +kernel
theorem d_Wrt_takeEntries_72 : decode b_Wrt_takeEntries 72 = .ok (.dup, 1) := by decide +kernel
theorem d_Wrt_takeEntries_73 : decode b_Wrt_takeEntries 73 = .ok (.getfield 168, 3) := by decide +kernel
theorem d_Wrt_takeEntries_76 : decode b_Wrt_takeEntries 76 = .ok (.iconst 1, 1) := by decide +kernel
theorem d_Wrt_takeEntries_77 : decode b_Wrt_takeEntries 77 = .ok (.iadd, 1) := by decide +kernel
theorem d_Wrt_takeEntries_78 : decode b_Wrt_takeEntries 78 = .ok (.putfield 168, 3) := by decide +kernel
theorem d_Wrt_takeEntries_81 : decode b_Wrt_takeEntries 81 = .ok (.aload_n 0, 1) := by decide +kernel
theorem d_Wrt_takeEntries_82 : decode b_Wrt_takeEntries 82 = .ok (.getfield 66, 3) := by decide +kernel
theorem d_Wrt_takeEntries_85 : decode b_Wrt_takeEntries 85 = .ok (.getfield 202, 3) := by decide +kernel
theorem d_Wrt_takeEntries_88 : decode b_Wrt_takeEntries 88 = .ok (.iload 4, 2) := by decide +kernel
theorem d_Wrt_takeEntries_90 : decode b_Wrt_takeEntries 90 = .ok (.baload, 1) := by decide +kernel
theorem d_Wrt_takeEntries_91 : decode b_Wrt_takeEntries 91 = .ok (.iload_n 3, 1) := by decide +kernel
theorem d_Wrt_takeEntries_92 : decode b_Wrt_takeEntries 92 = .ok (.if_icmp .ne 32, 3) := by decide +kernel
theorem d_Wrt_takeEntries_95 : decode b_Wrt_takeEntries 95 = .ok (.aload_n 0, 1) := by decide +kernel
theorem d_Wrt_takeEntries_96 : decode b_Wrt_takeEntries 96 = .ok (.getfield 43, 3) := by decide +kernel
theorem d_Wrt_takeEntries_99 : decode b_Wrt_takeEntries 99 = .ok (.aload_n 0, 1) := by decide +kernel
theorem d_Wrt_takeEntries_100 : decode b_Wrt_takeEntries 100 = .ok (.getfield 154, 3) := by decide +kernel
theorem d_Wrt_takeEntries_103 : decode b_Wrt_takeEntries 103 = .ok (.aload_n 0, 1) := by decide +kernel
theorem d_Wrt_takeEntries_104 : decode b_Wrt_takeEntries 104 = .ok (.getfield 66, 3) := by decide +kernel
theorem d_Wrt_takeEntries_107 : decode b_Wrt_takeEntries 107 = .ok (.getfield 185, 3) := by decide +kernel
theorem d_Wrt_takeEntries_110 : decode b_Wrt_takeEntries 110 = .ok (.iload 4, 2) := by decide +kernel
theorem d_Wrt_takeEntries_112 : decode b_Wrt_takeEntries 112 = .ok (.laload, 1) := by decide +kernel
theorem d_Wrt_takeEntries_113 : decode b_Wrt_takeEntries 113 = .ok (.lastore, 1) := by decide +kernel
theorem d_Wrt_takeEntries_114 : decode b_Wrt_takeEntries 114 = .ok (.aload_n 0, 1) := by decide +kernel
theorem d_Wrt_takeEntries_115 : decode b_Wrt_takeEntries 115 = .ok (.dup, 1) := by decide +kernel
theorem d_Wrt_takeEntries_116 : decode b_Wrt_takeEntries 116 = .ok (.getfield 154, 3) := by decide +kernel
theorem d_Wrt_takeEntries_119 : decode b_Wrt_takeEntries 119 = .ok (.iconst 1, 1) := by decide +kernel
theorem d_Wrt_takeEntries_120 : decode b_Wrt_takeEntries 120 = .ok (.iadd, 1) := by decide +kernel
theorem d_Wrt_takeEntries_121 : decode b_Wrt_takeEntries 121 = .ok (.putfield 154, 3) := by decide +kernel
theorem d_Wrt_takeEntries_0 : decode b_Wrt_takeEntries 0 = .ok (.aload_n 0, 1) := by decide +kernel
theorem d_Wrt_takeEntries_1 : decode b_Wrt_takeEntries 1 = .ok (.getfield 33, 3) := by decide +kernel
theorem d_Wrt_takeEntries_4 : decode b_Wrt_takeEntries 4 = .ok (.iload_n 1, 1) := by decide +kernel
theorem d_Wrt_takeEntries_5 : decode b_Wrt_takeEntries 5 = .ok (.iaload, 1) := by decide +kernel
theorem d_Wrt_takeEntries_6 : decode b_Wrt_takeEntries 6 = .ok (.istore 4, 2) := by decide +kernel
theorem d_Wrt_takeEntries_8 : decode b_Wrt_takeEntries 8 = .ok (.iconst 0, 1) := by decide +kernel
theorem d_Wrt_takeEntries_9 : decode b_Wrt_takeEntries 9 = .ok (.istore 5, 2) := by decide +kernel
theorem d_Wrt_fillPage_200 : decode b_Wrt_fillPage 200 = .ok (.aload_n 0, 1) := by decide +kernel
theorem d_Wrt_fillPage_201 : decode b_Wrt_fillPage 201 = .ok (.iload_n 1, 1) := by decide +kernel
theorem d_Wrt_fillPage_202 : decode b_Wrt_fillPage 202 = .ok (.iload 8, 2) := by decide +kernel
theorem d_Wrt_fillPage_204 : decode b_Wrt_fillPage 204 = .ok (.aload_n 0, 1) := by decide +kernel
theorem d_Wrt_fillPage_205 : decode b_Wrt_fillPage 205 = .ok (.getfield 62, 3) := by decide +kernel
theorem d_Wrt_fillPage_208 : decode b_Wrt_fillPage 208 = .ok (.getfield 195, 3) := by decide +kernel
theorem d_Wrt_fillPage_211 : decode b_Wrt_fillPage 211 = .ok (.iload 4, 2) := by decide +kernel
theorem d_Wrt_fillPage_213 : decode b_Wrt_fillPage 213 = .ok (.iaload, 1) := by decide +kernel
theorem d_Wrt_fillPage_214 : decode b_Wrt_fillPage 214 = .ok (.invokevirtual 198, 3) := by decide +kernel
theorem d_Wrt_fillPage_217 : decode b_Wrt_fillPage 217 = .ok (.iload 6, 2) := by decide +kernel
theorem d_Wrt_fillPage_219 : decode b_Wrt_fillPage 219 = .ok (.iload 9, 2) := by decide +kernel
theorem d_Wrt_fillPage_221 : decode b_Wrt_fillPage 221 = .ok (.iadd, 1) := by decide +kernel
theorem d_Wrt_fillPage_222 : decode b_Wrt_fillPage 222 = .ok (.istore 6, 2) := by decide +kernel
theorem d_Wrt_fillPage_224 : decode b_Wrt_fillPage 224 = .ok (.iinc 7 1, 3) := by decide +kernel
theorem d_Wrt_fillPage_227 : decode b_Wrt_fillPage 227 = .ok (.goto (-179), 3) := by decide +kernel
theorem d_Wrt_fillPage_197 : decode b_Wrt_fillPage 197 = .ok (.iload 7, 2) := by decide +kernel
theorem d_Wrt_fillPage_199 : decode b_Wrt_fillPage 199 = .ok (.ireturn, 1) := by decide +kernel
theorem d_Wrt_fillPage_172 : decode b_Wrt_fillPage 172 = .ok (.istore 11, 2) := by decide +kernel
theorem d_Wrt_fillPage_174 : decode b_Wrt_fillPage 174 = .ok (.iload 8, 2) := by decide +kernel
theorem d_Wrt_fillPage_176 : decode b_Wrt_fillPage 176 = .ok (.ifCond .eq 21, 3) := by decide +kernel
theorem d_Wrt_fillPage_179 : decode b_Wrt_fillPage 179 = .ok (.iload 8, 2) := by decide +kernel
theorem d_Wrt_fillPage_181 : decode b_Wrt_fillPage 181 = .ok (.sipush 1000, 3) := by decide +kernel
theorem d_Wrt_fillPage_184 : decode b_Wrt_fillPage 184 = .ok (.if_icmp .gt 13, 3) := by decide +kernel
theorem d_Wrt_fillPage_187 : decode b_Wrt_fillPage 187 = .ok (.iload 7, 2) := by decide +kernel
theorem d_Wrt_fillPage_189 : decode b_Wrt_fillPage 189 = .ok (.ifCond .le 11, 3) := by decide +kernel
theorem d_Wrt_fillPage_192 : decode b_Wrt_fillPage 192 = .ok (.iload 11, 2) := by decide +kernel
theorem d_Wrt_fillPage_194 : decode b_Wrt_fillPage 194 = .ok (.ifCond .eq 6, 3) := by decide +kernel
theorem d_Wrt_fillPage_167 : decode b_Wrt_fillPage 167 = .ok (.iconst 1, 1) := by decide +kernel
theorem d_Wrt_fillPage_168 : decode b_Wrt_fillPage 168 = .ok (.goto 4, 3) := by decide +kernel
theorem d_Wrt_fillPage_145 : decode b_Wrt_fillPage 145 = .ok (.aload_n 0, 1) := by decide +kernel
theorem d_Wrt_fillPage_146 : decode b_Wrt_fillPage 146 = .ok (.getfield 168, 3) := by decide +kernel
theorem d_Wrt_fillPage_149 : decode b_Wrt_fillPage 149 = .ok (.iload 8, 2) := by decide +kernel
theorem d_Wrt_fillPage_151 : decode b_Wrt_fillPage 151 = .ok (.iadd, 1) := by decide +kernel
theorem d_Wrt_fillPage_152 : decode b_Wrt_fillPage 152 = .ok (.iload_n 3, 1) := by decide +kernel
theorem d_Wrt_fillPage_153 : decode b_Wrt_fillPage 153 = .ok (.if_icmp .gt 14, 3) := by decide +kernel
theorem d_Wrt_fillPage_156 : decode b_Wrt_fillPage 156 = .ok (.iload 6, 2) := by decide +kernel
theorem d_Wrt_fillPage_158 : decode b_Wrt_fillPage 158 = .ok (.iload 9, 2) := by decide +kernel
theorem d_Wrt_fillPage_160 : decode b_Wrt_fillPage 160 = .ok (.iadd, 1) := by decide +kernel
theorem d_Wrt_fillPage_161 : decode b_Wrt_fillPage 161 = .ok (.sipush 20000, 3) := by decide +kernel
theorem d_Wrt_fillPage_164 : decode b_Wrt_fillPage 164 = .ok (.if_icmp .le 7, 3) := by decide +kernel
theorem d_Wrt_fillPage_171 : decode b_Wrt_fillPage 171 = .ok (.iconst 0, 1) := by decide +kernel
theorem d_Wrt_fillPage_124 : decode b_Wrt_fillPage 124 = .ok (.iadd, 1) := by decide +kernel
theorem d_Wrt_fillPage_125 : decode b_Wrt_fillPage 125 = .ok (.istore 9, 2) := by decide +kernel
theorem d_Wrt_fillPage_127 : decode b_Wrt_fillPage 127 = .ok (.aload_n 0, 1) := by decide +kernel
theorem d_Wrt_fillPage_128 : decode b_Wrt_fillPage 128 = .ok (.getfield 66, 3) := by decide +kernel
theorem d_Wrt_fillPage_131 : decode b_Wrt_fillPage 131 = .ok (.getfield 192, 3) := by decide +kernel
theorem d_Wrt_fillPage_134 : decode b_Wrt_fillPage 134 = .ok (.iload 10, 2) := by decide +kernel
theorem d_Wrt_fillPage_136 : decode b_Wrt_fillPage 136 = .ok (.iaload, 1) := by decide +kernel
theorem d_Wrt_fillPage_137 : decode b_Wrt_fillPage 137 = .ok (.istore 10, 2) := by decide +kernel
theorem d_Wrt_fillPage_139 : decode b_Wrt_fillPage 139 = .ok (.iinc 8 1, 3) := by decide +kernel
theorem d_Wrt_fillPage_142 : decode b_Wrt_fillPage 142 = .ok (.goto (-74), 3) := by decide +kernel
theorem d_Wrt_fillPage_100 : decode b_Wrt_fillPage 100 = .ok (.iload 9, 2) := by decide +kernel
theorem d_Wrt_fillPage_102 : decode b_Wrt_fillPage 102 = .ok (.iload 5, 2) := by decide +kernel
theorem d_Wrt_fillPage_104 : decode b_Wrt_fillPage 104 = .ok (.ifCond .eq 19, 3) := by decide +kernel
theorem d_Wrt_fillPage_123 : decode b_Wrt_fillPage 123 = .ok (.iconst 0, 1) := by decide +kernel
theorem d_Wrt_fillPage_107 : decode b_Wrt_fillPage 107 = .ok (.aload_n 0, 1) := by decide +kernel
theorem d_Wrt_fillPage_108 : decode b_Wrt_fillPage 108 = .ok (.getfield 66, 3) := by decide +kernel
theorem d_Wrt_fillPage_111 : decode b_Wrt_fillPage 111 = .ok (.getfield 185, 3) := by decide +kernel
theorem d_Wrt_fillPage_114 : decode b_Wrt_fillPage 114 = .ok (.iload 10, 2) := by decide +kernel
theorem d_Wrt_fillPage_116 : decode b_Wrt_fillPage 116 = .ok (.laload, 1) := by decide +kernel
theorem d_Wrt_fillPage_117 : decode b_Wrt_fillPage 117 = .ok (.invokestatic 188, 3) := by decide +kernel
theorem d_Wrt_fillPage_120 : decode b_Wrt_fillPage 120 = .ok (.goto 4, 3) := by decide +kernel
theorem d_Wrt_fillPage_68 : decode b_Wrt_fillPage 68 = .ok (.iload 10, 2) := by decide +kernel
theorem d_Wrt_fillPage_70 : decode b_Wrt_fillPage 70 = .ok (.iconst (-1), 1) := by decide +kernel
theorem d_Wrt_fillPage_71 : decode b_Wrt_fillPage 71 = .ok (.if_icmp .eq 74, 3) := by decide +kernel
theorem d_Wrt_fillPage_74 : decode b_Wrt_fillPage 74 = .ok (.iload 8, 2) := by decide +kernel
theorem d_Wrt_fillPage_76 : decode b_Wrt_fillPage 76 = .ok (.sipush 1000, 3) := by decide +kernel
theorem d_Wrt_fillPage_79 : decode b_Wrt_fillPage 79 = .ok (.if_icmp .gt 66, 3) := by decide +kernel
theorem d_Wrt_fillPage_82 : decode b_Wrt_fillPage 82 = .ok (.iload 8, 2) := by decide +kernel
theorem d_Wrt_fillPage_84 : decode b_Wrt_fillPage 84 = .ok (.ifCond .eq 16, 3) := by decide +kernel
theorem d_Wrt_fillPage_87 : decode b_Wrt_fillPage 87 = .ok (.aload_n 0, 1) := by decide +kernel
theorem d_Wrt_fillPage_88 : decode b_Wrt_fillPage 88 = .ok (.getfield 66, 3) := by decide +kernel
theorem d_Wrt_fillPage_91 : decode b_Wrt_fillPage 91 = .ok (.getfield 182, 3) := by decide +kernel
theorem d_Wrt_fillPage_94 : decode b_Wrt_fillPage 94 = .ok (.iload 10, 2) := by decide +kernel
theorem d_Wrt_fillPage_96 : decode b_Wrt_fillPage 96 = .ok (.baload, 1) := by decide +kernel
theorem d_Wrt_fillPage_97 : decode b_Wrt_fillPage 97 = .ok (.ifCond .eq 48, 3) := by decide +kernel
theorem d_Wrt_fillPage_48 : decode b_Wrt_fillPage 48 = .ok (.iload 7, 2) := by decide +kernel
theorem d_Wrt_fillPage_50 : decode b_Wrt_fillPage 50 = .ok (.iload_n 2, 1) := by decide +kernel
theorem d_Wrt_fillPage_51 : decode b_Wrt_fillPage 51 = .ok (.if_icmp .ge 179, 3) := by decide +kernel
theorem d_Wrt_fillPage_230 : decode b_Wrt_fillPage 230 = .ok (.iload 7, 2) := by decide +kernel
theorem d_Wrt_fillPage_232 : decode b_Wrt_fillPage 232 = .ok (.ireturn, 1) := by decide +kernel
theorem d_Wrt_fillPage_54 : decode b_Wrt_fillPage 54 = .ok (.iconst 0, 1) := by decide +kernel
theorem d_Wrt_fillPage_55 : decode b_Wrt_fillPage 55 = .ok (.istore 8, 2) := by decide +kernel
theorem d_Wrt_fillPage_57 : decode b_Wrt_fillPage 57 = .ok (.iconst 0, 1) := by decide +kernel
theorem d_Wrt_fillPage_58 : decode b_Wrt_fillPage 58 = .ok (.istore 9, 2) := by decide +kernel
theorem d_Wrt_fillPage_60 : decode b_Wrt_fillPage 60 = .ok (.aload_n 0, 1) := by decide +kernel
theorem d_Wrt_fillPage_61 : decode b_Wrt_fillPage 61 = .ok (.getfield 33, 3) := by decide +kernel
theorem d_Wrt_fillPage_64 : decode b_Wrt_fillPage 64 = .ok (.iload_n 1, 1) := by decide +kernel
theorem d_Wrt_fillPage_65 : decode b_Wrt_fillPage 65 = .ok (.iaload, 1) := by decide +kernel
theorem d_Wrt_fillPage_66 : decode b_Wrt_fillPage 66 = .ok (.istore 10, 2) := by decide +kernel
theorem d_Wrt_fillPage_30 : decode b_Wrt_fillPage 30 = .ok (.istore 5, 2) := by decide +kernel
theorem d_Wrt_fillPage_32 : decode b_Wrt_fillPage 32 = .ok (.aload_n 0, 1) := by decide +kernel
theorem d_Wrt_fillPage_33 : decode b_Wrt_fillPage 33 = .ok (.iconst 0, 1) := by decide +kernel
theorem d_Wrt_fillPage_34 : decode b_Wrt_fillPage 34 = .ok (.putfield 168, 3) := by decide +kernel
theorem d_Wrt_fillPage_37 : decode b_Wrt_fillPage 37 = .ok (.aload_n 0, 1) := by decide +kernel
theorem d_Wrt_fillPage_38 : decode b_Wrt_fillPage 38 = .ok (.iconst 0, 1) := by decide +kernel
theorem d_Wrt_fillPage_39 : decode b_Wrt_fillPage 39 = .ok (.putfield 154, 3) := by decide +kernel
theorem d_Wrt_fillPage_42 : decode b_Wrt_fillPage 42 = .ok (.iconst 0, 1) := by decide +kernel
theorem d_Wrt_fillPage_43 : decode b_Wrt_fillPage 43 = .ok (.istore 6, 2) := by decide +kernel
theorem d_Wrt_fillPage_45 : decode b_Wrt_fillPage 45 = .ok (.iconst 0, 1) := by decide +kernel
theorem d_Wrt_fillPage_46 : decode b_Wrt_fillPage 46 = .ok (.istore 7, 2) := by decide +kernel
theorem d_Wrt_fillPage_0 : decode b_Wrt_fillPage 0 = .ok (.aload_n 0, 1) := by decide +kernel
theorem d_Wrt_fillPage_1 : decode b_Wrt_fillPage 1 = .ok (.getfield 62, 3) := by decide +kernel
theorem d_Wrt_fillPage_4 : decode b_Wrt_fillPage 4 = .ok (.getfield 139, 3) := by decide +kernel
theorem d_Wrt_fillPage_7 : decode b_Wrt_fillPage 7 = .ok (.iload_n 1, 1) := by decide +kernel
theorem d_Wrt_fillPage_8 : decode b_Wrt_fillPage 8 = .ok (.iaload, 1) := by decide +kernel
theorem d_Wrt_fillPage_9 : decode b_Wrt_fillPage 9 = .ok (.istore 4, 2) := by decide +kernel
theorem d_Wrt_fillPage_11 : decode b_Wrt_fillPage 11 = .ok (.aload_n 0, 1) := by decide +kernel
theorem d_Wrt_fillPage_12 : decode b_Wrt_fillPage 12 = .ok (.getfield 62, 3) := by decide +kernel
theorem d_Wrt_fillPage_15 : decode b_Wrt_fillPage 15 = .ok (.getfield 105, 3) := by decide +kernel
theorem d_Wrt_fillPage_18 : decode b_Wrt_fillPage 18 = .ok (.iload 4, 2) := by decide +kernel
theorem d_Wrt_fillPage_20 : decode b_Wrt_fillPage 20 = .ok (.iaload, 1) := by decide +kernel
theorem d_Wrt_fillPage_21 : decode b_Wrt_fillPage 21 = .ok (.iconst 3, 1) := by decide +kernel
theorem d_Wrt_fillPage_22 : decode b_Wrt_fillPage 22 = .ok (.if_icmp .ne 7, 3) := by decide +kernel
theorem d_Wrt_fillPage_29 : decode b_Wrt_fillPage 29 = .ok (.iconst 0, 1) := by decide +kernel
theorem d_Wrt_fillPage_25 : decode b_Wrt_fillPage 25 = .ok (.iconst 1, 1) := by decide +kernel
theorem d_Wrt_fillPage_26 : decode b_Wrt_fillPage 26 = .ok (.goto 4, 3) := by decide +kernel
section
variable (l : Launch) (dC : Nat → ClassId) (dI : Nat → Nat → Nat) (cI cB cJ cZ : ClassId)
set_option maxRecDepth 100000 in
set_option maxHeartbeats 4000000 in
set_option maxRecDepth 100000 in
theorem t_Rec_keep_59 {p : Program} {l : Launch} {e : Env} {R : Room} {s : State} {m : MethodId} {args : Array Value} {below : List Frame} {meth : Method} {c : Code} {cells slots : Nat} {Q : State → Prop} {dC : Nat → ClassId} {dI : Nat → Nat → Nat} {cI cB cJ cZ : ClassId} {A : Nat → Prop} {ad : Nat → Nat} {NN : Nat} {E : Heap} {tM tC : Nat} {kK kV : Nat → Nat} {post : St → Prop} {rec5 : Nat → Int32 → St → Prop} (hx : p.tables.exec = Jvm.exec) (hb : c.code = b_Rec_keep) (hml : c.maxLocals = 3) (hown : s.vm.findClass R_Rec = some m.cls) (hT : ∀ w ∈ TG, w.before args s = true) (hK : va_K (dC, dI) CL (TY cI cB cJ cZ) s) (hN : NW s) (hA : ∀ q : Nat, s.heap.size ≤ q → A q) (hRc : cells ≤ R.cells) (hRs : slots ≤ R.slots) (hRf : 0 ≤ R.frames) (hRl : 0 ≤ R.locals) (hNN : 152 ≤ NN) (hE : CE E tM tC kK kV A s) (hret : ∀ (x : St) (H : Heap) (locs : List Loc) (pc : Nat) (ls : Array Slot), decode b_Rec_keep pc = .ok (.return_, 1) → post x → Wd dC dI cI cB cJ cZ ad stC kcC NN A x H → va_S A s.heap H locs → W p l e R s m args below meth c H locs cells slots Q (F0 m pc ls [])) (hrec5 : ∀ (o : Nat) (l1 : Int32) (x : St) (H : Heap) (locs : List Loc) (ls : Array Slot), (o < NN ∧ kcC o = 4) → rec5 o l1 x → Wd dC dI cI cB cJ cZ ad stC kcC NN A x H → va_S A s.heap H locs → lv_has ls 3 [(0, .ref (ad o)), (1, .int l1)] → W p l e R s m args below meth c H locs cells slots Q (F0 m 5 ls [])) : ∀ (o : Nat) (l1 : Int32) (l2 : Int32) (x : St) (H : Heap) (locs : List Loc) (ls : Array Slot), (o < NN ∧ kcC o = 4) → j_Rec_keep_59 post rec5 o l1 l2 x → Wd dC dI cI cB cJ cZ ad stC kcC NN A x H → va_S A s.heap H locs → lv_has ls 3 [(0, .ref (ad o)), (1, .int l1), (2, .int l2)] → W p l e R s m args below meth c H locs cells slots Q (F0 m 59 ls []) := by
  intro o l1 l2 x H locs ls fo hw hW hS hl
  unfold j_Rec_keep_59 at hw
  refine lv_aload_n hx hb d_Rec_keep_59 rfl (lv_at hl 0 rfl) ?_
  refine w_getf (q := (stC o 11)) (k := 11) (t := 4) (C := R_Rec) (T := F_Rec) (N := 15) hx hb hT hown hK hW fo.1 fo.2 (by decide) in_Rec rfl rfl (by decide) rfl fr_Rec_11 w_2_5 d_Rec_keep_60 rfl ?_
  refine lv_iload_n hx hb d_Rec_keep_63 rfl (lv_at hl 2 rfl) ?_
  refine lv_iload_n hx hb d_Rec_keep_64 rfl (lv_at hl 1 rfl) ?_
  obtain ⟨hi, hw⟩ := hw
  refine w_iast (o := (stC o 11)) hx hb hK hW hS (st_ty hNN fo.1 fo.2 rfl).1 (st_ty hNN fo.1 fo.2 rfl).2 hi d_Rec_keep_65 (fun H locs hW hS => ?_)
  obtain ⟨x1, ex1⟩ : ∃ y : St, y = setA x (stC o 11) l2 l1 := ⟨_, rfl⟩
  rw [← ex1] at hW
  have hw := hw x1 ex1
  refine lv_iinc (v := (l1 + 1)) (lv' := [(1, .int (l1 + 1)), (0, .ref (ad o)), (2, .int l2)]) hx hb d_Rec_keep_66 hl (k := 1) rfl rfl (by decide) rfl (fun ls hl => ?_)
  refine lv_goto (tgt := 5) hx hb d_Rec_keep_69 (by decide) ?_
  exact hrec5 o (l1 + 1) x1 H locs ls fo hw hW hS (lv_sub hl [1, 0] rfl)
set_option maxRecDepth 100000 in
set_option maxHeartbeats 4000000 in
set_option maxRecDepth 100000 in
theorem t_Rec_keep_5 {p : Program} {l : Launch} {e : Env} {R : Room} {s : State} {m : MethodId} {args : Array Value} {below : List Frame} {meth : Method} {c : Code} {cells slots : Nat} {Q : State → Prop} {dC : Nat → ClassId} {dI : Nat → Nat → Nat} {cI cB cJ cZ : ClassId} {A : Nat → Prop} {ad : Nat → Nat} {NN : Nat} {E : Heap} {tM tC : Nat} {kK kV : Nat → Nat} {post : St → Prop} {rec5 : Nat → Int32 → St → Prop} (hx : p.tables.exec = Jvm.exec) (hb : c.code = b_Rec_keep) (hml : c.maxLocals = 3) (hown : s.vm.findClass R_Rec = some m.cls) (hT : ∀ w ∈ TG, w.before args s = true) (hK : va_K (dC, dI) CL (TY cI cB cJ cZ) s) (hN : NW s) (hA : ∀ q : Nat, s.heap.size ≤ q → A q) (hRc : cells ≤ R.cells) (hRs : slots ≤ R.slots) (hRf : 0 ≤ R.frames) (hRl : 0 ≤ R.locals) (hNN : 152 ≤ NN) (hE : CE E tM tC kK kV A s) (hret : ∀ (x : St) (H : Heap) (locs : List Loc) (pc : Nat) (ls : Array Slot), decode b_Rec_keep pc = .ok (.return_, 1) → post x → Wd dC dI cI cB cJ cZ ad stC kcC NN A x H → va_S A s.heap H locs → W p l e R s m args below meth c H locs cells slots Q (F0 m pc ls [])) (hrec5 : ∀ (o : Nat) (l1 : Int32) (x : St) (H : Heap) (locs : List Loc) (ls : Array Slot), (o < NN ∧ kcC o = 4) → rec5 o l1 x → Wd dC dI cI cB cJ cZ ad stC kcC NN A x H → va_S A s.heap H locs → lv_has ls 3 [(0, .ref (ad o)), (1, .int l1)] → W p l e R s m args below meth c H locs cells slots Q (F0 m 5 ls [])) : ∀ (o : Nat) (l1 : Int32) (x : St) (H : Heap) (locs : List Loc) (ls : Array Slot), (o < NN ∧ kcC o = 4) → j_Rec_keep_5 post rec5 o l1 x → Wd dC dI cI cB cJ cZ ad stC kcC NN A x H → va_S A s.heap H locs → lv_has ls 3 [(0, .ref (ad o)), (1, .int l1)] → W p l e R s m args below meth c H locs cells slots Q (F0 m 5 ls []) := by
  intro o l1 x H locs ls fo hw hW hS hl
  unfold j_Rec_keep_5 at hw
  refine lv_iload_n hx hb d_Rec_keep_5 rfl (lv_at hl 1 rfl) ?_
  refine lv_aload_n hx hb d_Rec_keep_6 rfl (lv_at hl 0 rfl) ?_
  refine w_geti (k := 3) (t := 4) (C := R_Rec) (T := F_Rec) (N := 15) hx hb hT hown hK hW fo.1 fo.2 (by decide) in_Rec rfl rfl (by decide) rfl fr_Rec_3 w_1_232 d_Rec_keep_7 ?_
  refine lv_icmp_ge (tgt := 72) hx hb d_Rec_keep_10 (by decide) (fun c2 => ?_) (fun c2 => ?_)
  · have hw := hw.1 c2
    refine lv_aload_n hx hb d_Rec_keep_72 rfl (lv_at hl 0 rfl) ?_
    refine lv_aload_n hx hb d_Rec_keep_73 rfl (lv_at hl 0 rfl) ?_
    refine w_geti (k := 3) (t := 4) (C := R_Rec) (T := F_Rec) (N := 15) hx hb hT hown hK hW fo.1 fo.2 (by decide) in_Rec rfl rfl (by decide) rfl fr_Rec_3 w_1_232 d_Rec_keep_74 ?_
    refine w_puti (ty := .int) (k := 1) (t := 4) (C := R_Rec) (T := F_Rec) (N := 15) hx hb hT hown hK hW hS fo.1 fo.2 (by decide) in_Rec t_Rec t_Rec_ok n_Rec rfl rfl (by decide) rfl fr_Rec_1 w_1_230 (by decide +kernel) rfl rfl d_Rec_keep_77 (fun H locs hW hS => ?_)
    obtain ⟨x3, ex3⟩ : ∃ y : St, y = setI x o 1 (fI x o 3) := ⟨_, rfl⟩
    rw [← ex3] at hW
    have hw := hw x3 ex3
    refine lv_aload_n hx hb d_Rec_keep_80 rfl (lv_at hl 0 rfl) ?_
    refine lv_aload_n hx hb d_Rec_keep_81 rfl (lv_at hl 0 rfl) ?_
    refine w_geti (k := 4) (t := 4) (C := R_Rec) (T := F_Rec) (N := 15) hx hb hT hown hK hW fo.1 fo.2 (by decide) in_Rec rfl rfl (by decide) rfl fr_Rec_4 w_1_233 d_Rec_keep_82 ?_
    refine w_puti (ty := .int) (k := 2) (t := 4) (C := R_Rec) (T := F_Rec) (N := 15) hx hb hT hown hK hW hS fo.1 fo.2 (by decide) in_Rec t_Rec t_Rec_ok n_Rec rfl rfl (by decide) rfl fr_Rec_2 w_1_231 (by decide +kernel) rfl rfl d_Rec_keep_85 (fun H locs hW hS => ?_)
    obtain ⟨x4, ex4⟩ : ∃ y : St, y = setI x3 o 2 (fI x3 o 4) := ⟨_, rfl⟩
    rw [← ex4] at hW
    have hw := hw x4 ex4
    refine lv_aload_n hx hb d_Rec_keep_88 rfl (lv_at hl 0 rfl) ?_
    refine lv_dup hx hb d_Rec_keep_89 rfl ?_
    refine w_geti (k := 0) (t := 4) (C := R_Rec) (T := F_Rec) (N := 15) hx hb hT hown hK hW fo.1 fo.2 (by decide) in_Rec rfl rfl (by decide) rfl fr_Rec_0 w_1_227 d_Rec_keep_90 ?_
    refine lv_iconst (v := 1) hx hb d_Rec_keep_93 (by decide) ?_
    refine lv_iadd hx hb d_Rec_keep_94 ?_
    refine w_puti (ty := .int) (k := 0) (t := 4) (C := R_Rec) (T := F_Rec) (N := 15) hx hb hT hown hK hW hS fo.1 fo.2 (by decide) in_Rec t_Rec t_Rec_ok n_Rec rfl rfl (by decide) rfl fr_Rec_0 w_1_227 (by decide +kernel) rfl rfl d_Rec_keep_95 (fun H locs hW hS => ?_)
    obtain ⟨x5, ex5⟩ : ∃ y : St, y = setI x4 o 0 ((fI x4 o 0) + 1) := ⟨_, rfl⟩
    rw [← ex5] at hW
    have hw := hw x5 ex5
    exact hret x5 H locs 98 ls d_Rec_keep_98 hw hW hS
  · have hw := hw.2 c2
    refine lv_aload_n hx hb d_Rec_keep_13 rfl (lv_at hl 0 rfl) ?_
    refine w_getf (q := (stC o 8)) (k := 8) (t := 4) (C := R_Rec) (T := F_Rec) (N := 15) hx hb hT hown hK hW fo.1 fo.2 (by decide) in_Rec rfl rfl (by decide) rfl fr_Rec_8 w_2_0 d_Rec_keep_14 rfl ?_
    refine lv_iload_n hx hb d_Rec_keep_17 rfl (lv_at hl 1 rfl) ?_
    obtain ⟨hi, hw⟩ := hw
    refine w_bald (o := (stC o 8)) hx hb hK hW (st_ty hNN fo.1 fo.2 rfl).1 (st_ty hNN fo.1 fo.2 rfl).2 hi d_Rec_keep_18 ?_
    refine lv_topi (fun v6 ev6 => ?_)
    have hw := hw v6 ev6
    refine lv_istore_n (lv' := [(2, .int v6), (0, .ref (ad o)), (1, .int l1)]) hx hb d_Rec_keep_19 rfl hl (by decide) rfl (fun ls hl => ?_)
    refine lv_aload_n hx hb d_Rec_keep_20 rfl (lv_at hl 1 rfl) ?_
    refine w_getf (q := (stC o 9)) (k := 9) (t := 4) (C := R_Rec) (T := F_Rec) (N := 15) hx hb hT hown hK hW fo.1 fo.2 (by decide) in_Rec rfl rfl (by decide) rfl fr_Rec_9 w_2_1 d_Rec_keep_21 rfl ?_
    refine lv_iload_n hx hb d_Rec_keep_24 rfl (lv_at hl 2 rfl) ?_
    refine lv_iconst (v := (-1)) hx hb d_Rec_keep_25 (by decide) ?_
    obtain ⟨hi, hw⟩ := hw
    refine w_iast (o := (stC o 9)) hx hb hK hW hS (st_ty hNN fo.1 fo.2 rfl).1 (st_ty hNN fo.1 fo.2 rfl).2 hi d_Rec_keep_26 (fun H locs hW hS => ?_)
    obtain ⟨x7, ex7⟩ : ∃ y : St, y = setA x (stC o 9) l1 (-1) := ⟨_, rfl⟩
    rw [← ex7] at hW
    have hw := hw x7 ex7
    refine lv_aload_n hx hb d_Rec_keep_27 rfl (lv_at hl 1 rfl) ?_
    refine w_getf (q := (stC o 11)) (k := 11) (t := 4) (C := R_Rec) (T := F_Rec) (N := 15) hx hb hT hown hK hW fo.1 fo.2 (by decide) in_Rec rfl rfl (by decide) rfl fr_Rec_11 w_2_5 d_Rec_keep_28 rfl ?_
    refine lv_iload_n hx hb d_Rec_keep_31 rfl (lv_at hl 0 rfl) ?_
    obtain ⟨hi, hw⟩ := hw
    refine w_iald (o := (stC o 11)) hx hb hK hW (st_ty hNN fo.1 fo.2 rfl).1 (st_ty hNN fo.1 fo.2 rfl).2 hi d_Rec_keep_32 ?_
    refine lv_iconst (v := (-1)) hx hb d_Rec_keep_33 (by decide) ?_
    refine lv_icmp_ne (tgt := 47) hx hb d_Rec_keep_34 (by decide) (fun c8 => ?_) (fun c8 => ?_)
    · have hw := hw.1 c8
      refine lv_aload_n hx hb d_Rec_keep_47 rfl (lv_at hl 1 rfl) ?_
      refine w_getf (q := (stC o 9)) (k := 9) (t := 4) (C := R_Rec) (T := F_Rec) (N := 15) hx hb hT hown hK hW fo.1 fo.2 (by decide) in_Rec rfl rfl (by decide) rfl fr_Rec_9 w_2_1 d_Rec_keep_48 rfl ?_
      refine lv_aload_n hx hb d_Rec_keep_51 rfl (lv_at hl 1 rfl) ?_
      refine w_getf (q := (stC o 11)) (k := 11) (t := 4) (C := R_Rec) (T := F_Rec) (N := 15) hx hb hT hown hK hW fo.1 fo.2 (by decide) in_Rec rfl rfl (by decide) rfl fr_Rec_11 w_2_5 d_Rec_keep_52 rfl ?_
      refine lv_iload_n hx hb d_Rec_keep_55 rfl (lv_at hl 0 rfl) ?_
      obtain ⟨hi, hw⟩ := hw
      refine w_iald (o := (stC o 11)) hx hb hK hW (st_ty hNN fo.1 fo.2 rfl).1 (st_ty hNN fo.1 fo.2 rfl).2 hi d_Rec_keep_56 ?_
      refine lv_iload_n hx hb d_Rec_keep_57 rfl (lv_at hl 2 rfl) ?_
      obtain ⟨hi, hw⟩ := hw
      refine w_iast (o := (stC o 9)) hx hb hK hW hS (st_ty hNN fo.1 fo.2 rfl).1 (st_ty hNN fo.1 fo.2 rfl).2 hi d_Rec_keep_58 (fun H locs hW hS => ?_)
      obtain ⟨x9, ex9⟩ : ∃ y : St, y = setA x7 (stC o 9) (rA x7 (stC o 11) v6) l1 := ⟨_, rfl⟩
      rw [← ex9] at hW
      have hw := hw x9 ex9
      exact t_Rec_keep_59 hx hb hml hown hT hK hN hA hRc hRs hRf hRl hNN hE hret hrec5 o l1 v6 x9 H locs ls fo hw hW hS (lv_sub hl [1, 2, 0] rfl)
    · have hw := hw.2 c8
      refine lv_aload_n hx hb d_Rec_keep_37 rfl (lv_at hl 1 rfl) ?_
      refine w_getf (q := (stC o 10)) (k := 10) (t := 4) (C := R_Rec) (T := F_Rec) (N := 15) hx hb hT hown hK hW fo.1 fo.2 (by decide) in_Rec rfl rfl (by decide) rfl fr_Rec_10 w_2_3 d_Rec_keep_38 rfl ?_
      refine lv_iload_n hx hb d_Rec_keep_41 rfl (lv_at hl 0 rfl) ?_
      refine lv_iload_n hx hb d_Rec_keep_42 rfl (lv_at hl 2 rfl) ?_
      obtain ⟨hi, hw⟩ := hw
      refine w_iast (o := (stC o 10)) hx hb hK hW hS (st_ty hNN fo.1 fo.2 rfl).1 (st_ty hNN fo.1 fo.2 rfl).2 hi d_Rec_keep_43 (fun H locs hW hS => ?_)
      obtain ⟨x10, ex10⟩ : ∃ y : St, y = setA x7 (stC o 10) v6 l1 := ⟨_, rfl⟩
      rw [← ex10] at hW
      have hw := hw x10 ex10
      refine lv_goto (tgt := 59) hx hb d_Rec_keep_44 (by decide) ?_
      exact t_Rec_keep_59 hx hb hml hown hT hK hN hA hRc hRs hRf hRl hNN hE hret hrec5 o l1 v6 x10 H locs ls fo hw hW hS (lv_sub hl [1, 2, 0] rfl)
set_option maxHeartbeats 4000000 in
set_option maxRecDepth 100000 in
theorem tl_Rec_keep_5 {p : Program} {l : Launch} {e : Env} {R : Room} {s : State} {m : MethodId} {args : Array Value} {below : List Frame} {meth : Method} {c : Code} {cells slots : Nat} {Q : State → Prop} {dC : Nat → ClassId} {dI : Nat → Nat → Nat} {cI cB cJ cZ : ClassId} {A : Nat → Prop} {ad : Nat → Nat} {NN : Nat} {E : Heap} {tM tC : Nat} {kK kV : Nat → Nat} {post : St → Prop} (hx : p.tables.exec = Jvm.exec) (hb : c.code = b_Rec_keep) (hml : c.maxLocals = 3) (hown : s.vm.findClass R_Rec = some m.cls) (hT : ∀ w ∈ TG, w.before args s = true) (hK : va_K (dC, dI) CL (TY cI cB cJ cZ) s) (hN : NW s) (hA : ∀ q : Nat, s.heap.size ≤ q → A q) (hRc : cells ≤ R.cells) (hRs : slots ≤ R.slots) (hRf : 0 ≤ R.frames) (hRl : 0 ≤ R.locals) (hNN : 152 ≤ NN) (hE : CE E tM tC kK kV A s) (hret : ∀ (x : St) (H : Heap) (locs : List Loc) (pc : Nat) (ls : Array Slot), decode b_Rec_keep pc = .ok (.return_, 1) → post x → Wd dC dI cI cB cJ cZ ad stC kcC NN A x H → va_S A s.heap H locs → W p l e R s m args below meth c H locs cells slots Q (F0 m pc ls []))  : ∀ n : Nat, ∀ (o : Nat) (l1 : Int32) (x : St) (H : Heap) (locs : List Loc) (ls : Array Slot), (o < NN ∧ kcC o = 4) → wl_Rec_keep_5 post n o l1 x → Wd dC dI cI cB cJ cZ ad stC kcC NN A x H → va_S A s.heap H locs → lv_has ls 3 [(0, .ref (ad o)), (1, .int l1)] → W p l e R s m args below meth c H locs cells slots Q (F0 m 5 ls []) := by
  intro n
  induction n with
  | zero => intro o l1 x H locs ls fo hw; exact hw.elim
  | succ n ih => intro o l1 x H locs ls fo hw hW hS hl; exact t_Rec_keep_5 hx hb hml hown hT hK hN hA hRc hRs hRf hRl hNN hE hret  ih o l1 x H locs ls fo hw hW hS hl
set_option maxRecDepth 100000 in
set_option maxHeartbeats 4000000 in
set_option maxRecDepth 100000 in
theorem t_Rec_keep_e {p : Program} {l : Launch} {e : Env} {R : Room} {s : State} {m : MethodId} {args : Array Value} {below : List Frame} {meth : Method} {c : Code} {cells slots : Nat} {Q : State → Prop} {dC : Nat → ClassId} {dI : Nat → Nat → Nat} {cI cB cJ cZ : ClassId} {A : Nat → Prop} {ad : Nat → Nat} {NN : Nat} {E : Heap} {tM tC : Nat} {kK kV : Nat → Nat} {post : St → Prop} (hx : p.tables.exec = Jvm.exec) (hb : c.code = b_Rec_keep) (hml : c.maxLocals = 3) (hown : s.vm.findClass R_Rec = some m.cls) (hT : ∀ w ∈ TG, w.before args s = true) (hK : va_K (dC, dI) CL (TY cI cB cJ cZ) s) (hN : NW s) (hA : ∀ q : Nat, s.heap.size ≤ q → A q) (hRc : cells ≤ R.cells) (hRs : slots ≤ R.slots) (hRf : 0 ≤ R.frames) (hRl : 0 ≤ R.locals) (hNN : 152 ≤ NN) (hE : CE E tM tC kK kV A s) (hret : ∀ (x : St) (H : Heap) (locs : List Loc) (pc : Nat) (ls : Array Slot), decode b_Rec_keep pc = .ok (.return_, 1) → post x → Wd dC dI cI cB cJ cZ ad stC kcC NN A x H → va_S A s.heap H locs → W p l e R s m args below meth c H locs cells slots Q (F0 m pc ls [])) : ∀ (o : Nat) (x : St) (H : Heap) (locs : List Loc) (ls : Array Slot), (o < NN ∧ kcC o = 4) → wp_Rec_keep post o x → Wd dC dI cI cB cJ cZ ad stC kcC NN A x H → va_S A s.heap H locs → lv_has ls 3 [(0, .ref (ad o))] → W p l e R s m args below meth c H locs cells slots Q (F0 m 0 ls []) := by
  intro o x H locs ls fo hw hW hS hl
  unfold wp_Rec_keep at hw
  refine lv_aload_n hx hb d_Rec_keep_0 rfl (lv_at hl 0 rfl) ?_
  refine w_geti (k := 1) (t := 4) (C := R_Rec) (T := F_Rec) (N := 15) hx hb hT hown hK hW fo.1 fo.2 (by decide) in_Rec rfl rfl (by decide) rfl fr_Rec_1 w_1_230 d_Rec_keep_1 ?_
  refine lv_topi (fun v11 ev11 => ?_)
  have hw := hw v11 ev11
  refine lv_istore_n (lv' := [(1, .int v11), (0, .ref (ad o))]) hx hb d_Rec_keep_4 rfl hl (by decide) rfl (fun ls hl => ?_)
  obtain ⟨n, hw⟩ := hw
  exact tl_Rec_keep_5 hx hb hml hown hT hK hN hA hRc hRs hRf hRl hNN hE hret  n o v11 x H locs ls fo hw hW hS (lv_sub hl [1, 0] rfl)
set_option maxHeartbeats 4000000 in
set_option maxRecDepth 100000 in
theorem k_Rec_keep (l : Launch) (dC : Nat → ClassId) (dI : Nat → Nat → Nat) (cI cB cJ cZ : ClassId) (ad : Nat → Nat) (NN : Nat) (E : Heap) (tM tC : Nat) (kK kV : Nat → Nat) (hNN : 152 ≤ NN) (sz : Nat) (o : Nat) (x : St) (fo : o < NN ∧ kcC o = 4) {post : St → Prop} (hw : wp_Rec_keep post o x) : Met l y_Rec_keep (wsOf y_Rec_keep b_Rec_keep 3 (none)) ({ frames := 0, cells := 0, slots := 0, locals := 0 }) (va_Pc [.ref (ad o)] (PVc dC dI cI cB cJ cZ ad stC kcC NN E tM tC kK kV sz x)) (va_Qv (fun (y : St) => post y) (fun y t => Wd dC dI cI cB cJ cZ ad stC kcC NN (va_A (pic ad stC kcC NN cI cB cJ cZ x) sz) y t.heap) (va_A (pic ad stC kcC NN cI cB cJ cZ x) sz)) 0 0 (va_A (pic ad stC kcC NN cI cB cJ cZ x) sz) := by
  refine Met.ofW (cc := b_Rec_keep) (maxL := 3) (ret := none) (by decide) rfl ?_
  intro p e s m args below meth c s₁ B hml hv
  obtain ⟨rfl, ⟨hsz, hW0, hK, hN⟩, hE⟩ := hv
  have hx := B.exec
  have hb := B.bytes
  have hr := B.returns
  have hts := atoms_spec B.pre
  have hT : ∀ w ∈ TG, w.before _ s = true := fun w h => hts w (List.mem_cons_of_mem _ h)
  have hown : s.vm.findClass R_Rec = some m.cls := findClass_of_methodNamed B.named
  have hlocks := B.notSynchronized
  subst hsz
  have hW : Wd dC dI cI cB cJ cZ ad stC kcC NN (va_A (pic ad stC kcC NN cI cB cJ cZ x) s.heap.size) x s.heap := ⟨hW0.1, hW0.2.1.self (sz := s.heap.size), hW0.2.2⟩
  generalize hAe : va_A (pic ad stC kcC NN cI cB cJ cZ x) s.heap.size = A at hW hE ⊢
  have hA : ∀ q : Nat, s.heap.size ≤ q → A q := fun q h => by rw [← hAe]; exact Or.inr h
  have hS : va_S A s.heap s.heap [] := va_S.rf
  have hl := lv_entry ([.ref (ad o)]) (n := 3) (Nat.le_of_ble_eq_true rfl)
  rw [lg_entry_eq]
  generalize (lg_sl ([.ref (ad o)]) ++ List.replicate (3 - (lg_sl ([.ref (ad o)])).length) Slot.unset).toArray = ls at hl ⊢
  have hl : lv_has ls 3 [(0, .ref (ad o))] := hl
  exact t_Rec_keep_e hx hb hml hown hT hK hN hA (Nat.le_refl 0) (Nat.le_refl 0) (Nat.le_refl 0) (Nat.le_refl 0) hNN hE (fun x H locs pc ls hd hp hW hS => W.vret hx hb hr (fun t ht hM => ⟨⟨x, rfl, hp, Wd.back hW ht.symm (fun _ z => z)⟩, hS.F ht⟩) hS.2.2 hd hlocks)  o x _ _ ls fo hw hW hS hl
set_option maxRecDepth 100000 in
set_option maxHeartbeats 4000000 in
set_option maxRecDepth 100000 in
theorem t_Rec_readText_115 {p : Program} {l : Launch} {e : Env} {R : Room} {s : State} {m : MethodId} {args : Array Value} {below : List Frame} {meth : Method} {c : Code} {cells slots : Nat} {Q : State → Prop} {dC : Nat → ClassId} {dI : Nat → Nat → Nat} {cI cB cJ cZ : ClassId} {A : Nat → Prop} {ad : Nat → Nat} {NN : Nat} {E : Heap} {tM tC : Nat} {kK kV : Nat → Nat} {post : Int32 → St → Prop} (hx : p.tables.exec = Jvm.exec) (hb : c.code = b_Rec_readText) (hml : c.maxLocals = 3) (hown : s.vm.findClass R_Rec = some m.cls) (hT : ∀ w ∈ TG, w.before args s = true) (hK : va_K (dC, dI) CL (TY cI cB cJ cZ) s) (hN : NW s) (hA : ∀ q : Nat, s.heap.size ≤ q → A q) (hRc : cells ≤ R.cells) (hRs : slots ≤ R.slots) (hRf : 209 ≤ R.frames) (hRl : 5915 ≤ R.locals) (hNN : 152 ≤ NN) (hE : CE E tM tC kK kV A s) (hret : ∀ (r : Int32) (x : St) (H : Heap) (locs : List Loc) (pc : Nat) (ls : Array Slot), decode b_Rec_readText pc = .ok (.ireturn, 1) → post r x → Wd dC dI cI cB cJ cZ ad stC kcC NN A x H → va_S A s.heap H locs → W p l e R s m args below meth c H locs cells slots Q (F0 m pc ls [.int r]))  : ∀ (o : Nat) (l1 : Nat) (l2 : Nat) (x : St) (H : Heap) (locs : List Loc) (ls : Array Slot), (o < NN ∧ kcC o = 4) → (l1 < NN ∧ kcC l1 = 2) → (l2 < NN ∧ kcC l2 = 3) → j_Rec_readText_115 post o l1 l2 x → Wd dC dI cI cB cJ cZ ad stC kcC NN A x H → va_S A s.heap H locs → lv_has ls 3 [(0, .ref (ad o)), (1, .ref (ad l1)), (2, .ref (ad l2))] → W p l e R s m args below meth c H locs cells slots Q (F0 m 115 ls []) := by
  intro o l1 l2 x H locs ls fo fl1 fl2 hw hW hS hl
  unfold j_Rec_readText_115 at hw
  refine lv_bipush (v := (-2)) hx hb d_Rec_readText_115 (by decide) ?_
  exact hret (-2) x H locs 117 ls d_Rec_readText_117 hw hW hS
set_option maxRecDepth 100000 in
set_option maxHeartbeats 4000000 in
set_option maxRecDepth 100000 in
theorem t_Rec_readText_68 {p : Program} {l : Launch} {e : Env} {R : Room} {s : State} {m : MethodId} {args : Array Value} {below : List Frame} {meth : Method} {c : Code} {cells slots : Nat} {Q : State → Prop} {dC : Nat → ClassId} {dI : Nat → Nat → Nat} {cI cB cJ cZ : ClassId} {A : Nat → Prop} {ad : Nat → Nat} {NN : Nat} {E : Heap} {tM tC : Nat} {kK kV : Nat → Nat} {post : Int32 → St → Prop} (hx : p.tables.exec = Jvm.exec) (hb : c.code = b_Rec_readText) (hml : c.maxLocals = 3) (hown : s.vm.findClass R_Rec = some m.cls) (hT : ∀ w ∈ TG, w.before args s = true) (hK : va_K (dC, dI) CL (TY cI cB cJ cZ) s) (hN : NW s) (hA : ∀ q : Nat, s.heap.size ≤ q → A q) (hRc : cells ≤ R.cells) (hRs : slots ≤ R.slots) (hRf : 209 ≤ R.frames) (hRl : 5915 ≤ R.locals) (hNN : 152 ≤ NN) (hE : CE E tM tC kK kV A s) (hret : ∀ (r : Int32) (x : St) (H : Heap) (locs : List Loc) (pc : Nat) (ls : Array Slot), decode b_Rec_readText pc = .ok (.ireturn, 1) → post r x → Wd dC dI cI cB cJ cZ ad stC kcC NN A x H → va_S A s.heap H locs → W p l e R s m args below meth c H locs cells slots Q (F0 m pc ls [.int r]))  : ∀ (o : Nat) (l1 : Nat) (l2 : Nat) (x : St) (H : Heap) (locs : List Loc) (ls : Array Slot), (o < NN ∧ kcC o = 4) → (l1 < NN ∧ kcC l1 = 2) → (l2 < NN ∧ kcC l2 = 3) → j_Rec_readText_68 post o l1 l2 x → Wd dC dI cI cB cJ cZ ad stC kcC NN A x H → va_S A s.heap H locs → lv_has ls 3 [(0, .ref (ad o)), (1, .ref (ad l1)), (2, .ref (ad l2))] → W p l e R s m args below meth c H locs cells slots Q (F0 m 68 ls []) := by
  intro o l1 l2 x H locs ls fo fl1 fl2 hw hW hS hl
  unfold j_Rec_readText_68 at hw
  refine lv_aload_n hx hb d_Rec_readText_68 rfl (lv_at hl 0 rfl) ?_
  obtain ⟨q1, hq1, hw⟩ := hw
  refine w_getr (q := q1) (k := 13) (t := 4) (C := R_Rec) (T := F_Rec) (N := 15) hx hb hT hown hK hW fo.1 fo.2 (by decide) in_Rec rfl rfl (by decide) rfl fr_Rec_13 w_2_8 d_Rec_readText_69 hq1 (fun aq1 bq1 => ?_)
  have fq1 : q1 < NN ∧ kcC q1 = 2 := ⟨aq1, bq1⟩
  have hF := hW.free hS hA
  refine va_calli (va_runV (C := R_Scn) (As := []) (rest := []) ⟨hx, hb, hml, hown, hT⟩ (k_Scn_good l dC dI cI cB cJ cZ ad NN E tM tC kK kV hNN H.size q1 x fq1 hw) ⟨callB_of 0 hT (gwt_in w_4_106) rfl rfl rfl (hT _ w_1_4) (hT _ w_5_31) (by decide +kernel) ⟨Nat.le_trans (Nat.le_of_ble_eq_true rfl) hRf, Nat.le_trans (Nat.le_of_ble_eq_true rfl) hRl⟩, hT _ w_4_104, hT _ w_4_105⟩ ⟨PVc.blind, va_recv hK hW.1 (ci := 2) (q0 := q1) rfl (pic_obj fq1.1 fq1.2 (by decide)), PVc.at _ hW hK hN hE hS hF⟩ rfl rfl hl.1 rfl (lv_room (Nat.le_of_ble_eq_true rfl)) d_Rec_readText_72 ⟨hRc, hRs⟩) hS (fun q _ h => hF q h) hF (fun r3 x2 t H locs ht hvm hw hB hz1 hk1 hS => ?_)
  have hW := Wd.back hB ht hF
  clear hB ht hF hz1 hk1 hvm
  refine lv_if_ne (tgt := 86) hx hb d_Rec_readText_75 (by decide) (fun c4 => ?_) (fun c4 => ?_)
  · have hw := hw.1 c4
    refine lv_aload_n hx hb d_Rec_readText_86 rfl (lv_at hl 0 rfl) ?_
    refine w_geti (k := 0) (t := 4) (C := R_Rec) (T := F_Rec) (N := 15) hx hb hT hown hK hW fo.1 fo.2 (by decide) in_Rec rfl rfl (by decide) rfl fr_Rec_0 w_1_227 d_Rec_readText_87 ?_
    refine lv_sipush (v := 2000) hx hb d_Rec_readText_90 (by decide) ?_
    refine lv_icmp_ge (tgt := 115) hx hb d_Rec_readText_93 (by decide) (fun c5 => ?_) (fun c5 => ?_)
    · have hw := hw.1 c5
      exact t_Rec_readText_115 hx hb hml hown hT hK hN hA hRc hRs hRf hRl hNN hE hret  o l1 l2 x2 H locs ls fo fl1 fl2 hw hW hS (lv_sub hl [0, 1, 2] rfl)
    · have hw := hw.2 c5
      refine lv_aload_n hx hb d_Rec_readText_96 rfl (lv_at hl 0 rfl) ?_
      refine w_geti (k := 3) (t := 4) (C := R_Rec) (T := F_Rec) (N := 15) hx hb hT hown hK hW fo.1 fo.2 (by decide) in_Rec rfl rfl (by decide) rfl fr_Rec_3 w_1_232 d_Rec_readText_97 ?_
      refine lv_sipush (v := 10000) hx hb d_Rec_readText_100 (by decide) ?_
      refine lv_icmp_gt (tgt := 115) hx hb d_Rec_readText_103 (by decide) (fun c6 => ?_) (fun c6 => ?_)
      · have hw := hw.1 c6
        exact t_Rec_readText_115 hx hb hml hown hT hK hN hA hRc hRs hRf hRl hNN hE hret  o l1 l2 x2 H locs ls fo fl1 fl2 hw hW hS (lv_sub hl [0, 1, 2] rfl)
      · have hw := hw.2 c6
        refine lv_aload_n hx hb d_Rec_readText_106 rfl (lv_at hl 0 rfl) ?_
        refine w_geti (k := 4) (t := 4) (C := R_Rec) (T := F_Rec) (N := 15) hx hb hT hown hK hW fo.1 fo.2 (by decide) in_Rec rfl rfl (by decide) rfl fr_Rec_4 w_1_233 d_Rec_readText_107 ?_
        refine lv_ldc hx hb hown (hT _ w_5_110) d_Rec_readText_110 ?_
        refine lv_icmp_le (tgt := 118) hx hb d_Rec_readText_112 (by decide) (fun c7 => ?_) (fun c7 => ?_)
        · have hw := hw.1 c7
          refine lv_aload_n hx hb d_Rec_readText_118 rfl (lv_at hl 0 rfl) ?_
          have hF := hW.free hS hA
          refine va_callv (va_runV (C := R_Rec) (As := []) (rest := []) ⟨hx, hb, hml, hown, hT⟩ (k_Rec_keep l dC dI cI cB cJ cZ ad NN E tM tC kK kV hNN H.size o x2 fo hw) ⟨callB_of 0 hT (gwt_in w_5_114) rfl rfl rfl (hT _ w_1_6) (hT _ w_5_111) (by decide +kernel) ⟨Nat.le_trans (Nat.le_of_ble_eq_true rfl) hRf, Nat.le_trans (Nat.le_of_ble_eq_true rfl) hRl⟩, hT _ w_5_113, hT _ ws_17⟩ ⟨PVc.blind, va_recv hK hW.1 (ci := 4) (q0 := o) rfl (pic_obj fo.1 fo.2 (by decide)), PVc.at _ hW hK hN hE hS hF⟩ rfl rfl hl.1 rfl (lv_room (Nat.le_of_ble_eq_true rfl)) d_Rec_readText_119 ⟨hRc, hRs⟩) hS (fun q _ h => hF q h) hF (fun  x8 t H locs ht hvm hw hB hz1 hk1 hS => ?_)
          have hW := Wd.back hB ht hF
          clear hB ht hF hz1 hk1 hvm
          refine lv_iconst (v := (-1)) hx hb d_Rec_readText_122 (by decide) ?_
          exact hret (-1) x8 H locs 123 ls d_Rec_readText_123 hw hW hS
        · have hw := hw.2 c7
          exact t_Rec_readText_115 hx hb hml hown hT hK hN hA hRc hRs hRf hRl hNN hE hret  o l1 l2 x2 H locs ls fo fl1 fl2 hw hW hS (lv_sub hl [0, 1, 2] rfl)
  · have hw := hw.2 c4
    refine lv_aload_n hx hb d_Rec_readText_78 rfl (lv_at hl 0 rfl) ?_
    obtain ⟨q9, hq9, hw⟩ := hw
    refine w_getr (q := q9) (k := 13) (t := 4) (C := R_Rec) (T := F_Rec) (N := 15) hx hb hT hown hK hW fo.1 fo.2 (by decide) in_Rec rfl rfl (by decide) rfl fr_Rec_13 w_2_8 d_Rec_readText_79 hq9 (fun aq9 bq9 => ?_)
    have fq9 : q9 < NN ∧ kcC q9 = 2 := ⟨aq9, bq9⟩
    refine w_geti (k := 3) (t := 2) (C := R_Scn) (T := F_Scn) (N := 8) hx hb hT hown hK hW fq9.1 fq9.2 (by decide) in_Scn rfl rfl (by decide) rfl fr_Scn_3 w_1_91 d_Rec_readText_82 ?_
    exact hret (fI x2 q9 3) x2 H locs 85 ls d_Rec_readText_85 hw hW hS
set_option maxRecDepth 100000 in
set_option maxHeartbeats 4000000 in
set_option maxRecDepth 100000 in
theorem t_Rec_readText_e {p : Program} {l : Launch} {e : Env} {R : Room} {s : State} {m : MethodId} {args : Array Value} {below : List Frame} {meth : Method} {c : Code} {cells slots : Nat} {Q : State → Prop} {dC : Nat → ClassId} {dI : Nat → Nat → Nat} {cI cB cJ cZ : ClassId} {A : Nat → Prop} {ad : Nat → Nat} {NN : Nat} {E : Heap} {tM tC : Nat} {kK kV : Nat → Nat} {post : Int32 → St → Prop} (hx : p.tables.exec = Jvm.exec) (hb : c.code = b_Rec_readText) (hml : c.maxLocals = 3) (hown : s.vm.findClass R_Rec = some m.cls) (hT : ∀ w ∈ TG, w.before args s = true) (hK : va_K (dC, dI) CL (TY cI cB cJ cZ) s) (hN : NW s) (hA : ∀ q : Nat, s.heap.size ≤ q → A q) (hRc : cells ≤ R.cells) (hRs : slots ≤ R.slots) (hRf : 209 ≤ R.frames) (hRl : 5915 ≤ R.locals) (hNN : 152 ≤ NN) (hE : CE E tM tC kK kV A s) (hret : ∀ (r : Int32) (x : St) (H : Heap) (locs : List Loc) (pc : Nat) (ls : Array Slot), decode b_Rec_readText pc = .ok (.ireturn, 1) → post r x → Wd dC dI cI cB cJ cZ ad stC kcC NN A x H → va_S A s.heap H locs → W p l e R s m args below meth c H locs cells slots Q (F0 m pc ls [.int r])) : ∀ (o : Nat) (l1 : Nat) (l2 : Nat) (x : St) (H : Heap) (locs : List Loc) (ls : Array Slot), (o < NN ∧ kcC o = 4) → (l1 < NN ∧ kcC l1 = 2) → (l2 < NN ∧ kcC l2 = 3) → wp_Rec_readText post o l1 l2 x → Wd dC dI cI cB cJ cZ ad stC kcC NN A x H → va_S A s.heap H locs → lv_has ls 3 [(0, .ref (ad o)), (1, .ref (ad l1)), (2, .ref (ad l2))] → W p l e R s m args below meth c H locs cells slots Q (F0 m 0 ls []) := by
  intro o l1 l2 x H locs ls fo fl1 fl2 hw hW hS hl
  unfold wp_Rec_readText at hw
  refine lv_aload_n hx hb d_Rec_readText_0 rfl (lv_at hl 0 rfl) ?_
  refine lv_aload_n hx hb d_Rec_readText_1 rfl (lv_at hl 1 rfl) ?_
  refine w_putr (q := l1) (ty := .object "StripedVault$Scan") (k := 13) (t := 4) (C := R_Rec) (T := F_Rec) (N := 15) hx hb hT hown hK hW hS fo.1 fo.2 (by decide) in_Rec t_Rec t_Rec_ok n_Rec rfl rfl (by decide) rfl fr_Rec_13 w_2_8 (by decide +kernel) rfl rfl fl1.1 fl1.2 d_Rec_readText_2 (fun H locs hW hS => ?_)
  obtain ⟨x10, ex10⟩ : ∃ y : St, y = setR x o 13 (some l1) := ⟨_, rfl⟩
  rw [← ex10] at hW
  have hw := hw x10 ex10
  refine lv_aload_n hx hb d_Rec_readText_5 rfl (lv_at hl 0 rfl) ?_
  refine lv_aload_n hx hb d_Rec_readText_6 rfl (lv_at hl 2 rfl) ?_
  refine w_putr (q := l2) (ty := .object "StripedVault$Schema") (k := 14) (t := 4) (C := R_Rec) (T := F_Rec) (N := 15) hx hb hT hown hK hW hS fo.1 fo.2 (by decide) in_Rec t_Rec t_Rec_ok n_Rec rfl rfl (by decide) rfl fr_Rec_14 w_2_9 (by decide +kernel) rfl rfl fl2.1 fl2.2 d_Rec_readText_7 (fun H locs hW hS => ?_)
  obtain ⟨x11, ex11⟩ : ∃ y : St, y = setR x10 o 14 (some l2) := ⟨_, rfl⟩
  rw [← ex11] at hW
  have hw := hw x11 ex11
  refine lv_aload_n hx hb d_Rec_readText_10 rfl (lv_at hl 0 rfl) ?_
  refine lv_aload_n hx hb d_Rec_readText_11 rfl (lv_at hl 0 rfl) ?_
  refine w_geti (k := 1) (t := 4) (C := R_Rec) (T := F_Rec) (N := 15) hx hb hT hown hK hW fo.1 fo.2 (by decide) in_Rec rfl rfl (by decide) rfl fr_Rec_1 w_1_230 d_Rec_readText_12 ?_
  refine w_puti (ty := .int) (k := 3) (t := 4) (C := R_Rec) (T := F_Rec) (N := 15) hx hb hT hown hK hW hS fo.1 fo.2 (by decide) in_Rec t_Rec t_Rec_ok n_Rec rfl rfl (by decide) rfl fr_Rec_3 w_1_232 (by decide +kernel) rfl rfl d_Rec_readText_15 (fun H locs hW hS => ?_)
  obtain ⟨x12, ex12⟩ : ∃ y : St, y = setI x11 o 3 (fI x11 o 1) := ⟨_, rfl⟩
  rw [← ex12] at hW
  have hw := hw x12 ex12
  refine lv_aload_n hx hb d_Rec_readText_18 rfl (lv_at hl 0 rfl) ?_
  refine lv_aload_n hx hb d_Rec_readText_19 rfl (lv_at hl 0 rfl) ?_
  refine w_geti (k := 2) (t := 4) (C := R_Rec) (T := F_Rec) (N := 15) hx hb hT hown hK hW fo.1 fo.2 (by decide) in_Rec rfl rfl (by decide) rfl fr_Rec_2 w_1_231 d_Rec_readText_20 ?_
  refine w_puti (ty := .int) (k := 4) (t := 4) (C := R_Rec) (T := F_Rec) (N := 15) hx hb hT hown hK hW hS fo.1 fo.2 (by decide) in_Rec t_Rec t_Rec_ok n_Rec rfl rfl (by decide) rfl fr_Rec_4 w_1_233 (by decide +kernel) rfl rfl d_Rec_readText_23 (fun H locs hW hS => ?_)
  obtain ⟨x13, ex13⟩ : ∃ y : St, y = setI x12 o 4 (fI x12 o 2) := ⟨_, rfl⟩
  rw [← ex13] at hW
  have hw := hw x13 ex13
  refine lv_aload_n hx hb d_Rec_readText_26 rfl (lv_at hl 0 rfl) ?_
  refine lv_iconst (v := (-1)) hx hb d_Rec_readText_27 (by decide) ?_
  refine lv_iconst (v := 0) hx hb d_Rec_readText_28 (by decide) ?_
  refine lv_iconst (v := 0) hx hb d_Rec_readText_29 (by decide) ?_
  have hF := hW.free hS hA
  refine va_callv (va_runV (C := R_Rec) (As := [.int (-1), .int 0, .int 0]) (rest := []) ⟨hx, hb, hml, hown, hT⟩ (k_Rec_readGroup l dC dI cI cB cJ cZ ad NN E tM tC kK kV hNN H.size o (-1) 0 0 x13 fo hw) ⟨callB_of 3 hT (gwt_in w_5_26) rfl rfl rfl (hT _ w_1_6) (hT _ w_5_23) (by decide +kernel) ⟨Nat.le_trans (Nat.le_of_ble_eq_true rfl) hRf, Nat.le_trans (Nat.le_of_ble_eq_true rfl) hRl⟩, hT _ w_5_25, hT _ ws_6⟩ ⟨PVc.blind, va_recv hK hW.1 (ci := 4) (q0 := o) rfl (pic_obj fo.1 fo.2 (by decide)), PVc.at _ hW hK hN hE hS hF⟩ rfl rfl hl.1 rfl (lv_room (Nat.le_of_ble_eq_true rfl)) d_Rec_readText_30 ⟨hRc, hRs⟩) hS (fun q _ h => hF q h) hF (fun  x14 t H locs ht hvm hw hB hz1 hk1 hS => ?_)
  have hW := Wd.back hB ht hF
  clear hB ht hF hz1 hk1 hvm
  refine lv_aload_n hx hb d_Rec_readText_33 rfl (lv_at hl 0 rfl) ?_
  obtain ⟨q15, hq15, hw⟩ := hw
  refine w_getr (q := q15) (k := 13) (t := 4) (C := R_Rec) (T := F_Rec) (N := 15) hx hb hT hown hK hW fo.1 fo.2 (by decide) in_Rec rfl rfl (by decide) rfl fr_Rec_13 w_2_8 d_Rec_readText_34 hq15 (fun aq15 bq15 => ?_)
  have fq15 : q15 < NN ∧ kcC q15 = 2 := ⟨aq15, bq15⟩
  have hF := hW.free hS hA
  refine va_calli (va_runV (C := R_Scn) (As := []) (rest := []) ⟨hx, hb, hml, hown, hT⟩ (k_Scn_good l dC dI cI cB cJ cZ ad NN E tM tC kK kV hNN H.size q15 x14 fq15 hw) ⟨callB_of 0 hT (gwt_in w_4_106) rfl rfl rfl (hT _ w_1_4) (hT _ w_5_31) (by decide +kernel) ⟨Nat.le_trans (Nat.le_of_ble_eq_true rfl) hRf, Nat.le_trans (Nat.le_of_ble_eq_true rfl) hRl⟩, hT _ w_4_104, hT _ w_4_105⟩ ⟨PVc.blind, va_recv hK hW.1 (ci := 2) (q0 := q15) rfl (pic_obj fq15.1 fq15.2 (by decide)), PVc.at _ hW hK hN hE hS hF⟩ rfl rfl hl.1 rfl (lv_room (Nat.le_of_ble_eq_true rfl)) d_Rec_readText_37 ⟨hRc, hRs⟩) hS (fun q _ h => hF q h) hF (fun r17 x16 t H locs ht hvm hw hB hz1 hk1 hS => ?_)
  have hW := Wd.back hB ht hF
  clear hB ht hF hz1 hk1 hvm
  refine lv_if_eq (tgt := 68) hx hb d_Rec_readText_40 (by decide) (fun c18 => ?_) (fun c18 => ?_)
  · have hw := hw.1 c18
    exact t_Rec_readText_68 hx hb hml hown hT hK hN hA hRc hRs hRf hRl hNN hE hret  o l1 l2 x16 H locs ls fo fl1 fl2 hw hW hS (lv_sub hl [0, 1, 2] rfl)
  · have hw := hw.2 c18
    refine lv_aload_n hx hb d_Rec_readText_43 rfl (lv_at hl 0 rfl) ?_
    obtain ⟨q19, hq19, hw⟩ := hw
    refine w_getr (q := q19) (k := 13) (t := 4) (C := R_Rec) (T := F_Rec) (N := 15) hx hb hT hown hK hW fo.1 fo.2 (by decide) in_Rec rfl rfl (by decide) rfl fr_Rec_13 w_2_8 d_Rec_readText_44 hq19 (fun aq19 bq19 => ?_)
    have fq19 : q19 < NN ∧ kcC q19 = 2 := ⟨aq19, bq19⟩
    have hF := hW.free hS hA
    refine va_calli (va_runV (C := R_Scn) (As := []) (rest := []) ⟨hx, hb, hml, hown, hT⟩ (k_Scn_next l dC dI cI cB cJ cZ ad NN E tM tC kK kV hNN H.size q19 x16 fq19 hw) ⟨callB_of 0 hT (gwt_in w_4_110) rfl rfl rfl (hT _ w_1_4) (hT _ w_5_32) (by decide +kernel) ⟨Nat.le_trans (Nat.le_of_ble_eq_true rfl) hRf, Nat.le_trans (Nat.le_of_ble_eq_true rfl) hRl⟩, hT _ w_4_108, hT _ w_4_109⟩ ⟨PVc.blind, va_recv hK hW.1 (ci := 2) (q0 := q19) rfl (pic_obj fq19.1 fq19.2 (by decide)), PVc.at _ hW hK hN hE hS hF⟩ rfl rfl hl.1 rfl (lv_room (Nat.le_of_ble_eq_true rfl)) d_Rec_readText_47 ⟨hRc, hRs⟩) hS (fun q _ h => hF q h) hF (fun r21 x20 t H locs ht hvm hw hB hz1 hk1 hS => ?_)
    have hW := Wd.back hB ht hF
    clear hB ht hF hz1 hk1 hvm
    refine lv_iconst (v := (-1)) hx hb d_Rec_readText_50 (by decide) ?_
    refine lv_icmp_eq (tgt := 68) hx hb d_Rec_readText_51 (by decide) (fun c22 => ?_) (fun c22 => ?_)
    · have hw := hw.1 c22
      exact t_Rec_readText_68 hx hb hml hown hT hK hN hA hRc hRs hRf hRl hNN hE hret  o l1 l2 x20 H locs ls fo fl1 fl2 hw hW hS (lv_sub hl [0, 1, 2] rfl)
    · have hw := hw.2 c22
      refine lv_aload_n hx hb d_Rec_readText_54 rfl (lv_at hl 0 rfl) ?_
      obtain ⟨q23, hq23, hw⟩ := hw
      refine w_getr (q := q23) (k := 13) (t := 4) (C := R_Rec) (T := F_Rec) (N := 15) hx hb hT hown hK hW fo.1 fo.2 (by decide) in_Rec rfl rfl (by decide) rfl fr_Rec_13 w_2_8 d_Rec_readText_55 hq23 (fun aq23 bq23 => ?_)
      have fq23 : q23 < NN ∧ kcC q23 = 2 := ⟨aq23, bq23⟩
      refine lv_aload_n hx hb d_Rec_readText_58 rfl (lv_at hl 0 rfl) ?_
      obtain ⟨q24, hq24, hw⟩ := hw
      refine w_getr (q := q24) (k := 13) (t := 4) (C := R_Rec) (T := F_Rec) (N := 15) hx hb hT hown hK hW fo.1 fo.2 (by decide) in_Rec rfl rfl (by decide) rfl fr_Rec_13 w_2_8 d_Rec_readText_59 hq24 (fun aq24 bq24 => ?_)
      have fq24 : q24 < NN ∧ kcC q24 = 2 := ⟨aq24, bq24⟩
      refine w_geti (k := 2) (t := 2) (C := R_Scn) (T := F_Scn) (N := 8) hx hb hT hown hK hW fq24.1 fq24.2 (by decide) in_Scn rfl rfl (by decide) rfl fr_Scn_2 w_1_87 d_Rec_readText_62 ?_
      have hF := hW.free hS hA
      refine va_callv (va_runV (C := R_Scn) (As := [.int (fI x20 q24 2)]) (rest := []) ⟨hx, hb, hml, hown, hT⟩ (k_Scn_refuse l dC dI cI cB cJ cZ ad NN E tM tC kK kV hNN H.size q23 (fI x20 q24 2) x20 fq23 hw) ⟨callB_of 1 hT (gwt_in w_4_128) rfl rfl rfl (hT _ w_1_4) (hT _ w_5_27) (by decide +kernel) ⟨Nat.le_trans (Nat.le_of_ble_eq_true rfl) hRf, Nat.le_trans (Nat.le_of_ble_eq_true rfl) hRl⟩, hT _ w_4_126, hT _ w_4_127⟩ ⟨PVc.blind, va_recv hK hW.1 (ci := 2) (q0 := q23) rfl (pic_obj fq23.1 fq23.2 (by decide)), PVc.at _ hW hK hN hE hS hF⟩ rfl rfl hl.1 rfl (lv_room (Nat.le_of_ble_eq_true rfl)) d_Rec_readText_65 ⟨hRc, hRs⟩) hS (fun q _ h => hF q h) hF (fun  x25 t H locs ht hvm hw hB hz1 hk1 hS => ?_)
      have hW := Wd.back hB ht hF
      clear hB ht hF hz1 hk1 hvm
      exact t_Rec_readText_68 hx hb hml hown hT hK hN hA hRc hRs hRf hRl hNN hE hret  o l1 l2 x25 H locs ls fo fl1 fl2 hw hW hS (lv_sub hl [0, 1, 2] rfl)
set_option maxHeartbeats 4000000 in
set_option maxRecDepth 100000 in
theorem k_Rec_readText (l : Launch) (dC : Nat → ClassId) (dI : Nat → Nat → Nat) (cI cB cJ cZ : ClassId) (ad : Nat → Nat) (NN : Nat) (E : Heap) (tM tC : Nat) (kK kV : Nat → Nat) (hNN : 152 ≤ NN) (sz : Nat) (o : Nat) (l1 : Nat) (l2 : Nat) (x : St) (fo : o < NN ∧ kcC o = 4) (fl1 : l1 < NN ∧ kcC l1 = 2) (fl2 : l2 < NN ∧ kcC l2 = 3) {post : Int32 → St → Prop} (hw : wp_Rec_readText post o l1 l2 x) : Met l y_Rec_readText (wsOf y_Rec_readText b_Rec_readText 3 (some (.int))) ({ frames := 209, cells := 0, slots := 0, locals := 5915 }) (va_Pc [.ref (ad o), .ref (ad l1), .ref (ad l2)] (PVc dC dI cI cB cJ cZ ad stC kcC NN E tM tC kK kV sz x)) (va_Qi (fun (r : Int32) (y : St) => post r y) (fun y t => Wd dC dI cI cB cJ cZ ad stC kcC NN (va_A (pic ad stC kcC NN cI cB cJ cZ x) sz) y t.heap) (va_A (pic ad stC kcC NN cI cB cJ cZ x) sz)) 0 0 (va_A (pic ad stC kcC NN cI cB cJ cZ x) sz) := by
  refine Met.ofW (cc := b_Rec_readText) (maxL := 3) (ret := some (.int)) (by decide) rfl ?_
  intro p e s m args below meth c s₁ B hml hv
  obtain ⟨rfl, ⟨hsz, hW0, hK, hN⟩, hE⟩ := hv
  have hx := B.exec
  have hb := B.bytes
  have hr := B.returns
  have hts := atoms_spec B.pre
  have hT : ∀ w ∈ TG, w.before _ s = true := fun w h => hts w (List.mem_cons_of_mem _ h)
  have hown : s.vm.findClass R_Rec = some m.cls := findClass_of_methodNamed B.named
  have hlocks := B.notSynchronized
  subst hsz
  have hW : Wd dC dI cI cB cJ cZ ad stC kcC NN (va_A (pic ad stC kcC NN cI cB cJ cZ x) s.heap.size) x s.heap := ⟨hW0.1, hW0.2.1.self (sz := s.heap.size), hW0.2.2⟩
  generalize hAe : va_A (pic ad stC kcC NN cI cB cJ cZ x) s.heap.size = A at hW hE ⊢
  have hA : ∀ q : Nat, s.heap.size ≤ q → A q := fun q h => by rw [← hAe]; exact Or.inr h
  have hS : va_S A s.heap s.heap [] := va_S.rf
  have hl := lv_entry ([.ref (ad o), .ref (ad l1), .ref (ad l2)]) (n := 3) (Nat.le_of_ble_eq_true rfl)
  rw [lg_entry_eq]
  generalize (lg_sl ([.ref (ad o), .ref (ad l1), .ref (ad l2)]) ++ List.replicate (3 - (lg_sl ([.ref (ad o), .ref (ad l1), .ref (ad l2)])).length) Slot.unset).toArray = ls at hl ⊢
  have hl : lv_has ls 3 [(0, .ref (ad o)), (1, .ref (ad l1)), (2, .ref (ad l2))] := hl
  exact t_Rec_readText_e hx hb hml hown hT hK hN hA (Nat.le_refl 0) (Nat.le_refl 0) (Nat.le_refl 209) (Nat.le_refl 5915) hNN hE (fun r x H locs pc ls hd hp hW hS => W.iret (v := r) hx hb hr (fun t ht hM => ⟨⟨r, x, rfl, hp, Wd.back hW ht.symm (fun _ z => z)⟩, hS.F ht⟩) hS.2.2 hd hlocks)  o l1 l2 x _ _ ls fo fl1 fl2 hw hW hS hl
set_option maxRecDepth 100000 in
set_option maxHeartbeats 4000000 in
set_option maxRecDepth 100000 in
theorem t_V_record_e {p : Program} {l : Launch} {e : Env} {R : Room} {s : State} {m : MethodId} {args : Array Value} {below : List Frame} {meth : Method} {c : Code} {cells slots : Nat} {Q : State → Prop} {dC : Nat → ClassId} {dI : Nat → Nat → Nat} {cI cB cJ cZ : ClassId} {A : Nat → Prop} {ad : Nat → Nat} {NN : Nat} {E : Heap} {tM tC : Nat} {kK kV : Nat → Nat} {post : Int32 → St → Prop} (hx : p.tables.exec = Jvm.exec) (hb : c.code = b_V_record) (hml : c.maxLocals = 2) (hown : s.vm.findClass R_V = some m.cls) (hT : ∀ w ∈ TG, w.before args s = true) (hK : va_K (dC, dI) CL (TY cI cB cJ cZ) s) (hN : NW s) (hA : ∀ q : Nat, s.heap.size ≤ q → A q) (hRc : cells ≤ R.cells) (hRs : slots ≤ R.slots) (hRf : 210 ≤ R.frames) (hRl : 5937 ≤ R.locals) (hNN : 152 ≤ NN) (hE : CE E tM tC kK kV A s) (hret : ∀ (r : Int32) (x : St) (H : Heap) (locs : List Loc) (pc : Nat) (ls : Array Slot), decode b_V_record pc = .ok (.ireturn, 1) → post r x → Wd dC dI cI cB cJ cZ ad stC kcC NN A x H → va_S A s.heap H locs → W p l e R s m args below meth c H locs cells slots Q (F0 m pc ls [.int r])) : ∀ (o : Nat) (x : St) (H : Heap) (locs : List Loc) (ls : Array Slot), (o < NN ∧ kcC o = 0) → wp_V_record post o x → Wd dC dI cI cB cJ cZ ad stC kcC NN A x H → va_S A s.heap H locs → lv_has ls 2 [(0, .ref (ad o))] → W p l e R s m args below meth c H locs cells slots Q (F0 m 0 ls []) := by
  intro o x H locs ls fo hw hW hS hl
  unfold wp_V_record at hw
  refine lv_aload_n hx hb d_V_record_0 rfl (lv_at hl 0 rfl) ?_
  have hF := hW.free hS hA
  refine va_calli (va_runV (C := R_V) (As := []) (rest := []) ⟨hx, hb, hml, hown, hT⟩ (k_V_useInput l dC dI cI cB cJ cZ ad NN E tM tC kK kV hNN H.size o x fo hw) ⟨callB_of 0 hT (gwt_in w_4_89) rfl rfl rfl (hT _ w_1_1) (hT _ w_4_86) (by decide +kernel) ⟨Nat.le_trans (Nat.le_of_ble_eq_true rfl) hRf, Nat.le_trans (Nat.le_of_ble_eq_true rfl) hRl⟩, hT _ w_4_88, hT _ ws_2⟩ ⟨PVc.blind, va_recv hK hW.1 (ci := 0) (q0 := o) rfl (pic_obj fo.1 fo.2 (by decide)), PVc.at _ hW hK hN hE hS hF⟩ rfl rfl hl.1 rfl (lv_room (Nat.le_of_ble_eq_true rfl)) d_V_record_1 ⟨hRc, hRs⟩) hS (fun q _ h => hF q h) hF (fun r2 x1 t H locs ht hvm hw hB hz1 hk1 hS => ?_)
  have hW := Wd.back hB ht hF
  clear hB ht hF hz1 hk1 hvm
  refine lv_istore_n (lv' := [(1, .int r2), (0, .ref (ad o))]) hx hb d_V_record_4 rfl hl (by decide) rfl (fun ls hl => ?_)
  refine lv_aload_n hx hb d_V_record_5 rfl (lv_at hl 1 rfl) ?_
  obtain ⟨q3, hq3, hw⟩ := hw
  refine w_getr (q := q3) (k := 4) (t := 0) (C := R_V) (T := F_V) (N := 15) hx hb hT hown hK hW fo.1 fo.2 (by decide) in_V rfl rfl (by decide) rfl fr_V_4 w_3_239 d_V_record_6 hq3 (fun aq3 bq3 => ?_)
  have fq3 : q3 < NN ∧ kcC q3 = 3 := ⟨aq3, bq3⟩
  refine w_geti (k := 0) (t := 3) (C := R_Sch) (T := F_Sch) (N := 13) hx hb hT hown hK hW fq3.1 fq3.2 (by decide) in_Sch rfl rfl (by decide) rfl fr_Sch_0 w_1_133 d_V_record_9 ?_
  refine lv_if_ne (tgt := 18) hx hb d_V_record_12 (by decide) (fun c4 => ?_) (fun c4 => ?_)
  · have hw := hw.1 c4
    refine lv_iload_n hx hb d_V_record_18 rfl (lv_at hl 0 rfl) ?_
    refine lv_sipush (v := 4000) hx hb d_V_record_19 (by decide) ?_
    refine lv_icmp_le (tgt := 29) hx hb d_V_record_22 (by decide) (fun c5 => ?_) (fun c5 => ?_)
    · have hw := hw.1 c5
      refine lv_aload_n hx hb d_V_record_29 rfl (lv_at hl 1 rfl) ?_
      refine w_getf (q := (stC o 3)) (k := 3) (t := 0) (C := R_V) (T := F_V) (N := 15) hx hb hT hown hK hW fo.1 fo.2 (by decide) in_V rfl rfl (by decide) rfl fr_V_3 w_3_238 d_V_record_30 rfl ?_
      refine lv_aload_n hx hb d_V_record_33 rfl (lv_at hl 1 rfl) ?_
      obtain ⟨q6, hq6, hw⟩ := hw
      refine w_getr (q := q6) (k := 1) (t := 0) (C := R_V) (T := F_V) (N := 15) hx hb hT hown hK hW fo.1 fo.2 (by decide) in_V rfl rfl (by decide) rfl fr_V_1 w_3_236 d_V_record_34 hq6 (fun aq6 bq6 => ?_)
      have fq6 : q6 < NN ∧ kcC q6 = 1 := ⟨aq6, bq6⟩
      obtain ⟨q7, hq7, hw⟩ := hw
      refine w_getr (q := q7) (k := 0) (t := 1) (C := R_Snk) (T := F_Snk) (N := 7) hx hb hT hown hK hW fq6.1 fq6.2 (by decide) in_Snk rfl rfl (by decide) rfl fr_Snk_0 w_1_42 d_V_record_37 hq7 (fun aq7 bq7 => ?_)
      have fq7 : q7 < NN ∧ kcC q7 = 21 := ⟨aq7, bq7⟩
      refine lv_iload_n hx hb d_V_record_40 rfl (lv_at hl 0 rfl) ?_
      have hF := hW.free hS hA
      refine va_callv (va_runV (C := R_Scn) (As := [.ref (ad q7), .int r2]) (rest := []) ⟨hx, hb, hml, hown, hT⟩ (k_Scn_begin l dC dI cI cB cJ cZ ad NN E tM tC kK kV hNN H.size (stC o 3) q7 r2 x1 (st_ty hNN fo.1 fo.2 rfl) fq7 hw) ⟨callB_of 2 hT (gwt_in w_4_93) rfl rfl rfl (hT _ w_1_4) (hT _ w_4_90) (by decide +kernel) ⟨Nat.le_trans (Nat.le_of_ble_eq_true rfl) hRf, Nat.le_trans (Nat.le_of_ble_eq_true rfl) hRl⟩, hT _ w_4_91, hT _ w_4_92⟩ ⟨PVc.blind, va_recv hK hW.1 (ci := 2) (q0 := (stC o 3)) rfl (pic_obj (st_ty hNN fo.1 fo.2 rfl).1 (st_ty hNN fo.1 fo.2 rfl).2 (by decide)), PVc.at _ hW hK hN hE hS hF⟩ rfl rfl hl.1 rfl (lv_room (Nat.le_of_ble_eq_true rfl)) d_V_record_41 ⟨hRc, hRs⟩) hS (fun q _ h => hF q h) hF (fun  x8 t H locs ht hvm hw hB hz1 hk1 hS => ?_)
      have hW := Wd.back hB ht hF
      clear hB ht hF hz1 hk1 hvm
      refine lv_aload_n hx hb d_V_record_44 rfl (lv_at hl 1 rfl) ?_
      refine w_getf (q := (stC o 6)) (k := 6) (t := 0) (C := R_V) (T := F_V) (N := 15) hx hb hT hown hK hW fo.1 fo.2 (by decide) in_V rfl rfl (by decide) rfl fr_V_6 w_4_1 d_V_record_45 rfl ?_
      refine lv_aload_n hx hb d_V_record_48 rfl (lv_at hl 1 rfl) ?_
      refine w_getf (q := (stC o 3)) (k := 3) (t := 0) (C := R_V) (T := F_V) (N := 15) hx hb hT hown hK hW fo.1 fo.2 (by decide) in_V rfl rfl (by decide) rfl fr_V_3 w_3_238 d_V_record_49 rfl ?_
      refine lv_aload_n hx hb d_V_record_52 rfl (lv_at hl 1 rfl) ?_
      obtain ⟨q9, hq9, hw⟩ := hw
      refine w_getr (q := q9) (k := 4) (t := 0) (C := R_V) (T := F_V) (N := 15) hx hb hT hown hK hW fo.1 fo.2 (by decide) in_V rfl rfl (by decide) rfl fr_V_4 w_3_239 d_V_record_53 hq9 (fun aq9 bq9 => ?_)
      have fq9 : q9 < NN ∧ kcC q9 = 3 := ⟨aq9, bq9⟩
      have hF := hW.free hS hA
      refine va_calli (va_runV (C := R_Rec) (As := [.ref (ad (stC o 3)), .ref (ad q9)]) (rest := []) ⟨hx, hb, hml, hown, hT⟩ (k_Rec_readText l dC dI cI cB cJ cZ ad NN E tM tC kK kV hNN H.size (stC o 6) (stC o 3) q9 x8 (st_ty hNN fo.1 fo.2 rfl) (st_ty hNN fo.1 fo.2 rfl) fq9 hw) ⟨callB_of 2 hT (gwt_in w_5_22) rfl rfl rfl (hT _ w_1_6) (hT _ w_5_19) (by decide +kernel) ⟨Nat.le_trans (Nat.le_of_ble_eq_true rfl) hRf, Nat.le_trans (Nat.le_of_ble_eq_true rfl) hRl⟩, hT _ w_5_20, hT _ w_5_21⟩ ⟨PVc.blind, va_recv hK hW.1 (ci := 4) (q0 := (stC o 6)) rfl (pic_obj (st_ty hNN fo.1 fo.2 rfl).1 (st_ty hNN fo.1 fo.2 rfl).2 (by decide)), PVc.at _ hW hK hN hE hS hF⟩ rfl rfl hl.1 rfl (lv_room (Nat.le_of_ble_eq_true rfl)) d_V_record_56 ⟨hRc, hRs⟩) hS (fun q _ h => hF q h) hF (fun r11 x10 t H locs ht hvm hw hB hz1 hk1 hS => ?_)
      have hW := Wd.back hB ht hF
      clear hB ht hF hz1 hk1 hvm
      exact hret r11 x10 H locs 59 ls d_V_record_59 hw hW hS
    · have hw := hw.2 c5
      refine lv_sipush (v := 4000) hx hb d_V_record_25 (by decide) ?_
      exact hret 4000 x1 H locs 28 ls d_V_record_28 hw hW hS
  · have hw := hw.2 c4
    refine lv_bipush (v := (-2)) hx hb d_V_record_15 (by decide) ?_
    exact hret (-2) x1 H locs 17 ls d_V_record_17 hw hW hS
set_option maxHeartbeats 4000000 in
set_option maxRecDepth 100000 in
theorem k_V_record (l : Launch) (dC : Nat → ClassId) (dI : Nat → Nat → Nat) (cI cB cJ cZ : ClassId) (ad : Nat → Nat) (NN : Nat) (E : Heap) (tM tC : Nat) (kK kV : Nat → Nat) (hNN : 152 ≤ NN) (sz : Nat) (o : Nat) (x : St) (fo : o < NN ∧ kcC o = 0) {post : Int32 → St → Prop} (hw : wp_V_record post o x) : Met l y_V_record (wsOf y_V_record b_V_record 2 (some (.int))) ({ frames := 210, cells := 0, slots := 0, locals := 5937 }) (va_Pc [.ref (ad o)] (PVc dC dI cI cB cJ cZ ad stC kcC NN E tM tC kK kV sz x)) (va_Qi (fun (r : Int32) (y : St) => post r y) (fun y t => Wd dC dI cI cB cJ cZ ad stC kcC NN (va_A (pic ad stC kcC NN cI cB cJ cZ x) sz) y t.heap) (va_A (pic ad stC kcC NN cI cB cJ cZ x) sz)) 0 0 (va_A (pic ad stC kcC NN cI cB cJ cZ x) sz) := by
  refine Met.ofW (cc := b_V_record) (maxL := 2) (ret := some (.int)) (by decide) rfl ?_
  intro p e s m args below meth c s₁ B hml hv
  obtain ⟨rfl, ⟨hsz, hW0, hK, hN⟩, hE⟩ := hv
  have hx := B.exec
  have hb := B.bytes
  have hr := B.returns
  have hts := atoms_spec B.pre
  have hT : ∀ w ∈ TG, w.before _ s = true := fun w h => hts w (List.mem_cons_of_mem _ h)
  have hown : s.vm.findClass R_V = some m.cls := findClass_of_methodNamed B.named
  have hlocks := B.notSynchronized
  subst hsz
  have hW : Wd dC dI cI cB cJ cZ ad stC kcC NN (va_A (pic ad stC kcC NN cI cB cJ cZ x) s.heap.size) x s.heap := ⟨hW0.1, hW0.2.1.self (sz := s.heap.size), hW0.2.2⟩
  generalize hAe : va_A (pic ad stC kcC NN cI cB cJ cZ x) s.heap.size = A at hW hE ⊢
  have hA : ∀ q : Nat, s.heap.size ≤ q → A q := fun q h => by rw [← hAe]; exact Or.inr h
  have hS : va_S A s.heap s.heap [] := va_S.rf
  have hl := lv_entry ([.ref (ad o)]) (n := 2) (Nat.le_of_ble_eq_true rfl)
  rw [lg_entry_eq]
  generalize (lg_sl ([.ref (ad o)]) ++ List.replicate (2 - (lg_sl ([.ref (ad o)])).length) Slot.unset).toArray = ls at hl ⊢
  have hl : lv_has ls 2 [(0, .ref (ad o))] := hl
  exact t_V_record_e hx hb hml hown hT hK hN hA (Nat.le_refl 0) (Nat.le_refl 0) (Nat.le_refl 210) (Nat.le_refl 5937) hNN hE (fun r x H locs pc ls hd hp hW hS => W.iret (v := r) hx hb hr (fun t ht hM => ⟨⟨r, x, rfl, hp, Wd.back hW ht.symm (fun _ z => z)⟩, hS.F ht⟩) hS.2.2 hd hlocks)  o x _ _ ls fo hw hW hS hl
set_option maxRecDepth 100000 in
set_option maxHeartbeats 4000000 in
set_option maxRecDepth 100000 in
theorem t_V_records_e {p : Program} {l : Launch} {e : Env} {R : Room} {s : State} {m : MethodId} {args : Array Value} {below : List Frame} {meth : Method} {c : Code} {cells slots : Nat} {Q : State → Prop} {dC : Nat → ClassId} {dI : Nat → Nat → Nat} {cI cB cJ cZ : ClassId} {A : Nat → Prop} {ad : Nat → Nat} {NN : Nat} {E : Heap} {tM tC : Nat} {kK kV : Nat → Nat} {post : Int32 → St → Prop} (hx : p.tables.exec = Jvm.exec) (hb : c.code = b_V_records) (hml : c.maxLocals = 1) (hown : s.vm.findClass R_V = some m.cls) (hT : ∀ w ∈ TG, w.before args s = true) (hK : va_K (dC, dI) CL (TY cI cB cJ cZ) s) (hN : NW s) (hA : ∀ q : Nat, s.heap.size ≤ q → A q) (hRc : cells ≤ R.cells) (hRs : slots ≤ R.slots) (hRf : 0 ≤ R.frames) (hRl : 0 ≤ R.locals) (hNN : 152 ≤ NN) (hE : CE E tM tC kK kV A s) (hret : ∀ (r : Int32) (x : St) (H : Heap) (locs : List Loc) (pc : Nat) (ls : Array Slot), decode b_V_records pc = .ok (.ireturn, 1) → post r x → Wd dC dI cI cB cJ cZ ad stC kcC NN A x H → va_S A s.heap H locs → W p l e R s m args below meth c H locs cells slots Q (F0 m pc ls [.int r])) : ∀ (o : Nat) (x : St) (H : Heap) (locs : List Loc) (ls : Array Slot), (o < NN ∧ kcC o = 0) → wp_V_records post o x → Wd dC dI cI cB cJ cZ ad stC kcC NN A x H → va_S A s.heap H locs → lv_has ls 1 [(0, .ref (ad o))] → W p l e R s m args below meth c H locs cells slots Q (F0 m 0 ls []) := by
  intro o x H locs ls fo hw hW hS hl
  unfold wp_V_records at hw
  refine lv_aload_n hx hb d_V_records_0 rfl (lv_at hl 0 rfl) ?_
  refine w_getf (q := (stC o 6)) (k := 6) (t := 0) (C := R_V) (T := F_V) (N := 15) hx hb hT hown hK hW fo.1 fo.2 (by decide) in_V rfl rfl (by decide) rfl fr_V_6 w_4_1 d_V_records_1 rfl ?_
  refine w_geti (k := 0) (t := 4) (C := R_Rec) (T := F_Rec) (N := 15) hx hb hT hown hK hW (st_ty hNN fo.1 fo.2 rfl).1 (st_ty hNN fo.1 fo.2 rfl).2 (by decide) in_Rec rfl rfl (by decide) rfl fr_Rec_0 w_1_229 d_V_records_4 ?_
  exact hret (fI x (stC o 6) 0) x H locs 7 ls d_V_records_7 hw hW hS
set_option maxHeartbeats 4000000 in
set_option maxRecDepth 100000 in
theorem k_V_records (l : Launch) (dC : Nat → ClassId) (dI : Nat → Nat → Nat) (cI cB cJ cZ : ClassId) (ad : Nat → Nat) (NN : Nat) (E : Heap) (tM tC : Nat) (kK kV : Nat → Nat) (hNN : 152 ≤ NN) (sz : Nat) (o : Nat) (x : St) (fo : o < NN ∧ kcC o = 0) {post : Int32 → St → Prop} (hw : wp_V_records post o x) : Met l y_V_records (wsOf y_V_records b_V_records 1 (some (.int))) ({ frames := 0, cells := 0, slots := 0, locals := 0 }) (va_Pc [.ref (ad o)] (PVc dC dI cI cB cJ cZ ad stC kcC NN E tM tC kK kV sz x)) (va_Qi (fun (r : Int32) (y : St) => post r y) (fun y t => Wd dC dI cI cB cJ cZ ad stC kcC NN (va_A (pic ad stC kcC NN cI cB cJ cZ x) sz) y t.heap) (va_A (pic ad stC kcC NN cI cB cJ cZ x) sz)) 0 0 (va_A (pic ad stC kcC NN cI cB cJ cZ x) sz) := by
  refine Met.ofW (cc := b_V_records) (maxL := 1) (ret := some (.int)) (by decide) rfl ?_
  intro p e s m args below meth c s₁ B hml hv
  obtain ⟨rfl, ⟨hsz, hW0, hK, hN⟩, hE⟩ := hv
  have hx := B.exec
  have hb := B.bytes
  have hr := B.returns
  have hts := atoms_spec B.pre
  have hT : ∀ w ∈ TG, w.before _ s = true := fun w h => hts w (List.mem_cons_of_mem _ h)
  have hown : s.vm.findClass R_V = some m.cls := findClass_of_methodNamed B.named
  have hlocks := B.notSynchronized
  subst hsz
  have hW : Wd dC dI cI cB cJ cZ ad stC kcC NN (va_A (pic ad stC kcC NN cI cB cJ cZ x) s.heap.size) x s.heap := ⟨hW0.1, hW0.2.1.self (sz := s.heap.size), hW0.2.2⟩
  generalize hAe : va_A (pic ad stC kcC NN cI cB cJ cZ x) s.heap.size = A at hW hE ⊢
  have hA : ∀ q : Nat, s.heap.size ≤ q → A q := fun q h => by rw [← hAe]; exact Or.inr h
  have hS : va_S A s.heap s.heap [] := va_S.rf
  have hl := lv_entry ([.ref (ad o)]) (n := 1) (Nat.le_of_ble_eq_true rfl)
  rw [lg_entry_eq]
  generalize (lg_sl ([.ref (ad o)]) ++ List.replicate (1 - (lg_sl ([.ref (ad o)])).length) Slot.unset).toArray = ls at hl ⊢
  have hl : lv_has ls 1 [(0, .ref (ad o))] := hl
  exact t_V_records_e hx hb hml hown hT hK hN hA (Nat.le_refl 0) (Nat.le_refl 0) (Nat.le_refl 0) (Nat.le_refl 0) hNN hE (fun r x H locs pc ls hd hp hW hS => W.iret (v := r) hx hb hr (fun t ht hM => ⟨⟨r, x, rfl, hp, Wd.back hW ht.symm (fun _ z => z)⟩, hS.F ht⟩) hS.2.2 hd hlocks)  o x _ _ ls fo hw hW hS hl
set_option maxRecDepth 100000 in
set_option maxHeartbeats 4000000 in
set_option maxRecDepth 100000 in
theorem t_V_clear_e {p : Program} {l : Launch} {e : Env} {R : Room} {s : State} {m : MethodId} {args : Array Value} {below : List Frame} {meth : Method} {c : Code} {cells slots : Nat} {Q : State → Prop} {dC : Nat → ClassId} {dI : Nat → Nat → Nat} {cI cB cJ cZ : ClassId} {A : Nat → Prop} {ad : Nat → Nat} {NN : Nat} {E : Heap} {tM tC : Nat} {kK kV : Nat → Nat} {post : St → Prop} (hx : p.tables.exec = Jvm.exec) (hb : c.code = b_V_clear) (hml : c.maxLocals = 1) (hown : s.vm.findClass R_V = some m.cls) (hT : ∀ w ∈ TG, w.before args s = true) (hK : va_K (dC, dI) CL (TY cI cB cJ cZ) s) (hN : NW s) (hA : ∀ q : Nat, s.heap.size ≤ q → A q) (hRc : cells ≤ R.cells) (hRs : slots ≤ R.slots) (hRf : 2 ≤ R.frames) (hRl : 43 ≤ R.locals) (hNN : 152 ≤ NN) (hE : CE E tM tC kK kV A s) (hret : ∀ (x : St) (H : Heap) (locs : List Loc) (pc : Nat) (ls : Array Slot), decode b_V_clear pc = .ok (.return_, 1) → post x → Wd dC dI cI cB cJ cZ ad stC kcC NN A x H → va_S A s.heap H locs → W p l e R s m args below meth c H locs cells slots Q (F0 m pc ls [])) : ∀ (o : Nat) (x : St) (H : Heap) (locs : List Loc) (ls : Array Slot), (o < NN ∧ kcC o = 0) → wp_V_clear post o x → Wd dC dI cI cB cJ cZ ad stC kcC NN A x H → va_S A s.heap H locs → lv_has ls 1 [(0, .ref (ad o))] → W p l e R s m args below meth c H locs cells slots Q (F0 m 0 ls []) := by
  intro o x H locs ls fo hw hW hS hl
  unfold wp_V_clear at hw
  refine lv_aload_n hx hb d_V_clear_0 rfl (lv_at hl 0 rfl) ?_
  refine w_getf (q := (stC o 6)) (k := 6) (t := 0) (C := R_V) (T := F_V) (N := 15) hx hb hT hown hK hW fo.1 fo.2 (by decide) in_V rfl rfl (by decide) rfl fr_V_6 w_4_1 d_V_clear_1 rfl ?_
  have hF := hW.free hS hA
  refine va_callv (va_runV (C := R_Rec) (As := []) (rest := []) ⟨hx, hb, hml, hown, hT⟩ (k_Rec_forget l dC dI cI cB cJ cZ ad NN E tM tC kK kV hNN H.size (stC o 6) x (st_ty hNN fo.1 fo.2 rfl) hw) ⟨callB_of 0 hT (gwt_in w_5_14) rfl rfl rfl (hT _ w_1_6) (hT _ w_5_11) (by decide +kernel) ⟨Nat.le_trans (Nat.le_of_ble_eq_true rfl) hRf, Nat.le_trans (Nat.le_of_ble_eq_true rfl) hRl⟩, hT _ w_5_12, hT _ w_5_13⟩ ⟨PVc.blind, va_recv hK hW.1 (ci := 4) (q0 := (stC o 6)) rfl (pic_obj (st_ty hNN fo.1 fo.2 rfl).1 (st_ty hNN fo.1 fo.2 rfl).2 (by decide)), PVc.at _ hW hK hN hE hS hF⟩ rfl rfl hl.1 rfl (lv_room (Nat.le_of_ble_eq_true rfl)) d_V_clear_4 ⟨hRc, hRs⟩) hS (fun q _ h => hF q h) hF (fun  x1 t H locs ht hvm hw hB hz1 hk1 hS => ?_)
  have hW := Wd.back hB ht hF
  clear hB ht hF hz1 hk1 hvm
  exact hret x1 H locs 7 ls d_V_clear_7 hw hW hS
set_option maxHeartbeats 4000000 in
set_option maxRecDepth 100000 in
theorem k_V_clear (l : Launch) (dC : Nat → ClassId) (dI : Nat → Nat → Nat) (cI cB cJ cZ : ClassId) (ad : Nat → Nat) (NN : Nat) (E : Heap) (tM tC : Nat) (kK kV : Nat → Nat) (hNN : 152 ≤ NN) (sz : Nat) (o : Nat) (x : St) (fo : o < NN ∧ kcC o = 0) {post : St → Prop} (hw : wp_V_clear post o x) : Met l y_V_clear (wsOf y_V_clear b_V_clear 1 (none)) ({ frames := 2, cells := 0, slots := 0, locals := 43 }) (va_Pc [.ref (ad o)] (PVc dC dI cI cB cJ cZ ad stC kcC NN E tM tC kK kV sz x)) (va_Qv (fun (y : St) => post y) (fun y t => Wd dC dI cI cB cJ cZ ad stC kcC NN (va_A (pic ad stC kcC NN cI cB cJ cZ x) sz) y t.heap) (va_A (pic ad stC kcC NN cI cB cJ cZ x) sz)) 0 0 (va_A (pic ad stC kcC NN cI cB cJ cZ x) sz) := by
  refine Met.ofW (cc := b_V_clear) (maxL := 1) (ret := none) (by decide) rfl ?_
  intro p e s m args below meth c s₁ B hml hv
  obtain ⟨rfl, ⟨hsz, hW0, hK, hN⟩, hE⟩ := hv
  have hx := B.exec
  have hb := B.bytes
  have hr := B.returns
  have hts := atoms_spec B.pre
  have hT : ∀ w ∈ TG, w.before _ s = true := fun w h => hts w (List.mem_cons_of_mem _ h)
  have hown : s.vm.findClass R_V = some m.cls := findClass_of_methodNamed B.named
  have hlocks := B.notSynchronized
  subst hsz
  have hW : Wd dC dI cI cB cJ cZ ad stC kcC NN (va_A (pic ad stC kcC NN cI cB cJ cZ x) s.heap.size) x s.heap := ⟨hW0.1, hW0.2.1.self (sz := s.heap.size), hW0.2.2⟩
  generalize hAe : va_A (pic ad stC kcC NN cI cB cJ cZ x) s.heap.size = A at hW hE ⊢
  have hA : ∀ q : Nat, s.heap.size ≤ q → A q := fun q h => by rw [← hAe]; exact Or.inr h
  have hS : va_S A s.heap s.heap [] := va_S.rf
  have hl := lv_entry ([.ref (ad o)]) (n := 1) (Nat.le_of_ble_eq_true rfl)
  rw [lg_entry_eq]
  generalize (lg_sl ([.ref (ad o)]) ++ List.replicate (1 - (lg_sl ([.ref (ad o)])).length) Slot.unset).toArray = ls at hl ⊢
  have hl : lv_has ls 1 [(0, .ref (ad o))] := hl
  exact t_V_clear_e hx hb hml hown hT hK hN hA (Nat.le_refl 0) (Nat.le_refl 0) (Nat.le_refl 2) (Nat.le_refl 43) hNN hE (fun x H locs pc ls hd hp hW hS => W.vret hx hb hr (fun t ht hM => ⟨⟨x, rfl, hp, Wd.back hW ht.symm (fun _ z => z)⟩, hS.F ht⟩) hS.2.2 hd hlocks)  o x _ _ ls fo hw hW hS hl
set_option maxRecDepth 100000 in
set_option maxHeartbeats 4000000 in
set_option maxRecDepth 100000 in
theorem t_V_sizeOf_e {p : Program} {l : Launch} {e : Env} {R : Room} {s : State} {m : MethodId} {args : Array Value} {below : List Frame} {meth : Method} {c : Code} {cells slots : Nat} {Q : State → Prop} {dC : Nat → ClassId} {dI : Nat → Nat → Nat} {cI cB cJ cZ : ClassId} {A : Nat → Prop} {ad : Nat → Nat} {NN : Nat} {E : Heap} {tM tC : Nat} {kK kV : Nat → Nat} {post : Int32 → St → Prop} (hx : p.tables.exec = Jvm.exec) (hb : c.code = b_V_sizeOf) (hml : c.maxLocals = 2) (hown : s.vm.findClass R_V = some m.cls) (hT : ∀ w ∈ TG, w.before args s = true) (hK : va_K (dC, dI) CL (TY cI cB cJ cZ) s) (hN : NW s) (hA : ∀ q : Nat, s.heap.size ≤ q → A q) (hRc : cells ≤ R.cells) (hRs : slots ≤ R.slots) (hRf : 0 ≤ R.frames) (hRl : 0 ≤ R.locals) (hNN : 152 ≤ NN) (hE : CE E tM tC kK kV A s) (hret : ∀ (r : Int32) (x : St) (H : Heap) (locs : List Loc) (pc : Nat) (ls : Array Slot), decode b_V_sizeOf pc = .ok (.ireturn, 1) → post r x → Wd dC dI cI cB cJ cZ ad stC kcC NN A x H → va_S A s.heap H locs → W p l e R s m args below meth c H locs cells slots Q (F0 m pc ls [.int r])) : ∀ (l0 : Int64) (x : St) (H : Heap) (locs : List Loc) (ls : Array Slot), wp_V_sizeOf post l0 x → Wd dC dI cI cB cJ cZ ad stC kcC NN A x H → va_S A s.heap H locs → lv_has ls 2 [(0, .long l0)] → W p l e R s m args below meth c H locs cells slots Q (F0 m 0 ls []) := by
  intro l0 x H locs ls  hw hW hS hl
  unfold wp_V_sizeOf at hw
  refine lv_lload_n hx hb d_V_sizeOf_0 rfl (lv_at hl 0 rfl) ?_
  refine lv_ldc2 hx hb hown (hT _ w_5_162) d_V_sizeOf_1 ?_
  refine lv_land hx hb d_V_sizeOf_4 ?_
  refine lv_l2i hx hb d_V_sizeOf_5 rfl ?_
  exact hret ((l0 &&& 255) : Int64).toInt32 x H locs 6 ls d_V_sizeOf_6 hw hW hS
set_option maxHeartbeats 4000000 in
set_option maxRecDepth 100000 in
theorem k_V_sizeOf (l : Launch) (dC : Nat → ClassId) (dI : Nat → Nat → Nat) (cI cB cJ cZ : ClassId) (ad : Nat → Nat) (NN : Nat) (E : Heap) (tM tC : Nat) (kK kV : Nat → Nat) (hNN : 152 ≤ NN) (sz : Nat) (l0 : Int64) (x : St) {post : Int32 → St → Prop} (hw : wp_V_sizeOf post l0 x) : Met l y_V_sizeOf (wsOf y_V_sizeOf b_V_sizeOf 2 (some (.int))) ({ frames := 0, cells := 0, slots := 0, locals := 0 }) (va_Pc [.long l0] (PVc dC dI cI cB cJ cZ ad stC kcC NN E tM tC kK kV sz x)) (va_Qi (fun (r : Int32) (y : St) => post r y) (fun y t => Wd dC dI cI cB cJ cZ ad stC kcC NN (va_A (pic ad stC kcC NN cI cB cJ cZ x) sz) y t.heap) (va_A (pic ad stC kcC NN cI cB cJ cZ x) sz)) 0 0 (va_A (pic ad stC kcC NN cI cB cJ cZ x) sz) := by
  refine Met.ofW (cc := b_V_sizeOf) (maxL := 2) (ret := some (.int)) (by decide) rfl ?_
  intro p e s m args below meth c s₁ B hml hv
  obtain ⟨rfl, ⟨hsz, hW0, hK, hN⟩, hE⟩ := hv
  have hx := B.exec
  have hb := B.bytes
  have hr := B.returns
  have hts := atoms_spec B.pre
  have hT : ∀ w ∈ TG, w.before _ s = true := fun w h => hts w (List.mem_cons_of_mem _ h)
  have hown : s.vm.findClass R_V = some m.cls := findClass_of_methodNamed B.named
  have hlocks := B.notSynchronized
  subst hsz
  have hW : Wd dC dI cI cB cJ cZ ad stC kcC NN (va_A (pic ad stC kcC NN cI cB cJ cZ x) s.heap.size) x s.heap := ⟨hW0.1, hW0.2.1.self (sz := s.heap.size), hW0.2.2⟩
  generalize hAe : va_A (pic ad stC kcC NN cI cB cJ cZ x) s.heap.size = A at hW hE ⊢
  have hA : ∀ q : Nat, s.heap.size ≤ q → A q := fun q h => by rw [← hAe]; exact Or.inr h
  have hS : va_S A s.heap s.heap [] := va_S.rf
  have hl := lv_entry ([.long l0]) (n := 2) (Nat.le_of_ble_eq_true rfl)
  rw [lg_entry_eq]
  generalize (lg_sl ([.long l0]) ++ List.replicate (2 - (lg_sl ([.long l0])).length) Slot.unset).toArray = ls at hl ⊢
  have hl : lv_has ls 2 [(0, .long l0)] := hl
  exact t_V_sizeOf_e hx hb hml hown hT hK hN hA (Nat.le_refl 0) (Nat.le_refl 0) (Nat.le_refl 0) (Nat.le_refl 0) hNN hE (fun r x H locs pc ls hd hp hW hS => W.iret (v := r) hx hb hr (fun t ht hM => ⟨⟨r, x, rfl, hp, Wd.back hW ht.symm (fun _ z => z)⟩, hS.F ht⟩) hS.2.2 hd hlocks)  l0 x _ _ ls  hw hW hS hl
set_option maxRecDepth 100000 in
set_option maxHeartbeats 4000000 in
set_option maxRecDepth 100000 in
theorem t_Wrt_takeEntries_142 {p : Program} {l : Launch} {e : Env} {R : Room} {s : State} {m : MethodId} {args : Array Value} {below : List Frame} {meth : Method} {c : Code} {cells slots : Nat} {Q : State → Prop} {dC : Nat → ClassId} {dI : Nat → Nat → Nat} {cI cB cJ cZ : ClassId} {A : Nat → Prop} {ad : Nat → Nat} {NN : Nat} {E : Heap} {tM tC : Nat} {kK kV : Nat → Nat} {post : St → Prop} (hx : p.tables.exec = Jvm.exec) (hb : c.code = b_Wrt_takeEntries) (hml : c.maxLocals = 6) (hown : s.vm.findClass R_Wrt = some m.cls) (hT : ∀ w ∈ TG, w.before args s = true) (hK : va_K (dC, dI) CL (TY cI cB cJ cZ) s) (hN : NW s) (hA : ∀ q : Nat, s.heap.size ≤ q → A q) (hRc : cells ≤ R.cells) (hRs : slots ≤ R.slots) (hRf : 0 ≤ R.frames) (hRl : 0 ≤ R.locals) (hNN : 152 ≤ NN) (hE : CE E tM tC kK kV A s) (hret : ∀ (x : St) (H : Heap) (locs : List Loc) (pc : Nat) (ls : Array Slot), decode b_Wrt_takeEntries pc = .ok (.return_, 1) → post x → Wd dC dI cI cB cJ cZ ad stC kcC NN A x H → va_S A s.heap H locs → W p l e R s m args below meth c H locs cells slots Q (F0 m pc ls []))  : ∀ (o : Nat) (l1 : Int32) (l2 : Int32) (l3 : Int32) (l4 : Int32) (l5 : Int32) (x : St) (H : Heap) (locs : List Loc) (ls : Array Slot), (o < NN ∧ kcC o = 5) → j_Wrt_takeEntries_142 post o l1 l2 l3 l4 l5 x → Wd dC dI cI cB cJ cZ ad stC kcC NN A x H → va_S A s.heap H locs → lv_has ls 6 [(0, .ref (ad o)), (1, .int l1), (2, .int l2), (3, .int l3), (4, .int l4), (5, .int l5)] → W p l e R s m args below meth c H locs cells slots Q (F0 m 142 ls []) := by
  intro o l1 l2 l3 l4 l5 x H locs ls fo hw hW hS hl
  unfold j_Wrt_takeEntries_142 at hw
  refine lv_aload_n hx hb d_Wrt_takeEntries_142 rfl (lv_at hl 0 rfl) ?_
  refine w_getf (q := (stC o 7)) (k := 7) (t := 5) (C := R_Wrt) (T := F_Wrt) (N := 20) hx hb hT hown hK hW fo.1 fo.2 (by decide) in_Wrt rfl rfl (by decide) rfl fr_Wrt_7 w_2_58 d_Wrt_takeEntries_143 rfl ?_
  refine lv_iload_n hx hb d_Wrt_takeEntries_146 rfl (lv_at hl 1 rfl) ?_
  refine lv_iload hx hb d_Wrt_takeEntries_147 (lv_at hl 4 rfl) ?_
  obtain ⟨hi, hw⟩ := hw
  refine w_iast (o := (stC o 7)) hx hb hK hW hS (st_ty hNN fo.1 fo.2 rfl).1 (st_ty hNN fo.1 fo.2 rfl).2 hi d_Wrt_takeEntries_149 (fun H locs hW hS => ?_)
  obtain ⟨x1, ex1⟩ : ∃ y : St, y = setA x (stC o 7) l1 l4 := ⟨_, rfl⟩
  rw [← ex1] at hW
  have hw := hw x1 ex1
  exact hret x1 H locs 150 ls d_Wrt_takeEntries_150 hw hW hS
set_option maxRecDepth 100000 in
set_option maxHeartbeats 4000000 in
set_option maxRecDepth 100000 in
theorem t_Wrt_takeEntries_124 {p : Program} {l : Launch} {e : Env} {R : Room} {s : State} {m : MethodId} {args : Array Value} {below : List Frame} {meth : Method} {c : Code} {cells slots : Nat} {Q : State → Prop} {dC : Nat → ClassId} {dI : Nat → Nat → Nat} {cI cB cJ cZ : ClassId} {A : Nat → Prop} {ad : Nat → Nat} {NN : Nat} {E : Heap} {tM tC : Nat} {kK kV : Nat → Nat} {post : St → Prop} {rec11 : Nat → Int32 → Int32 → Int32 → Int32 → Int32 → St → Prop} (hx : p.tables.exec = Jvm.exec) (hb : c.code = b_Wrt_takeEntries) (hml : c.maxLocals = 6) (hown : s.vm.findClass R_Wrt = some m.cls) (hT : ∀ w ∈ TG, w.before args s = true) (hK : va_K (dC, dI) CL (TY cI cB cJ cZ) s) (hN : NW s) (hA : ∀ q : Nat, s.heap.size ≤ q → A q) (hRc : cells ≤ R.cells) (hRs : slots ≤ R.slots) (hRf : 0 ≤ R.frames) (hRl : 0 ≤ R.locals) (hNN : 152 ≤ NN) (hE : CE E tM tC kK kV A s) (hret : ∀ (x : St) (H : Heap) (locs : List Loc) (pc : Nat) (ls : Array Slot), decode b_Wrt_takeEntries pc = .ok (.return_, 1) → post x → Wd dC dI cI cB cJ cZ ad stC kcC NN A x H → va_S A s.heap H locs → W p l e R s m args below meth c H locs cells slots Q (F0 m pc ls [])) (hrec11 : ∀ (o : Nat) (l1 : Int32) (l2 : Int32) (l3 : Int32) (l4 : Int32) (l5 : Int32) (x : St) (H : Heap) (locs : List Loc) (ls : Array Slot), (o < NN ∧ kcC o = 5) → rec11 o l1 l2 l3 l4 l5 x → Wd dC dI cI cB cJ cZ ad stC kcC NN A x H → va_S A s.heap H locs → lv_has ls 6 [(0, .ref (ad o)), (1, .int l1), (2, .int l2), (3, .int l3), (4, .int l4), (5, .int l5)] → W p l e R s m args below meth c H locs cells slots Q (F0 m 11 ls [])) : ∀ (o : Nat) (l1 : Int32) (l2 : Int32) (l3 : Int32) (l4 : Int32) (l5 : Int32) (x : St) (H : Heap) (locs : List Loc) (ls : Array Slot), (o < NN ∧ kcC o = 5) → j_Wrt_takeEntries_124 post rec11 o l1 l2 l3 l4 l5 x → Wd dC dI cI cB cJ cZ ad stC kcC NN A x H → va_S A s.heap H locs → lv_has ls 6 [(0, .ref (ad o)), (1, .int l1), (2, .int l2), (3, .int l3), (4, .int l4), (5, .int l5)] → W p l e R s m args below meth c H locs cells slots Q (F0 m 124 ls []) := by
  intro o l1 l2 l3 l4 l5 x H locs ls fo hw hW hS hl
  unfold j_Wrt_takeEntries_124 at hw
  refine lv_aload_n hx hb d_Wrt_takeEntries_124 rfl (lv_at hl 0 rfl) ?_
  obtain ⟨q2, hq2, hw⟩ := hw
  refine w_getr (q := q2) (k := 6) (t := 5) (C := R_Wrt) (T := F_Wrt) (N := 20) hx hb hT hown hK hW fo.1 fo.2 (by decide) in_Wrt rfl rfl (by decide) rfl fr_Wrt_6 w_2_57 d_Wrt_takeEntries_125 hq2 (fun aq2 bq2 => ?_)
  have fq2 : q2 < NN ∧ kcC q2 = 4 := ⟨aq2, bq2⟩
  refine w_getf (q := (stC q2 9)) (k := 9) (t := 4) (C := R_Rec) (T := F_Rec) (N := 15) hx hb hT hown hK hW fq2.1 fq2.2 (by decide) in_Rec rfl rfl (by decide) rfl fr_Rec_9 w_2_2 d_Wrt_takeEntries_128 rfl ?_
  refine lv_iload hx hb d_Wrt_takeEntries_131 (lv_at hl 4 rfl) ?_
  obtain ⟨hi, hw⟩ := hw
  refine w_iald (o := (stC q2 9)) hx hb hK hW (st_ty hNN fq2.1 fq2.2 rfl).1 (st_ty hNN fq2.1 fq2.2 rfl).2 hi d_Wrt_takeEntries_133 ?_
  refine lv_topi (fun v3 ev3 => ?_)
  have hw := hw v3 ev3
  refine lv_istore (lv' := [(4, .int v3), (0, .ref (ad o)), (1, .int l1), (2, .int l2), (3, .int l3), (5, .int l5)]) hx hb d_Wrt_takeEntries_134 hl (by decide) rfl (fun ls hl => ?_)
  refine lv_iinc (v := (l5 + 1)) (lv' := [(5, .int (l5 + 1)), (4, .int v3), (0, .ref (ad o)), (1, .int l1), (2, .int l2), (3, .int l3)]) hx hb d_Wrt_takeEntries_136 hl (k := 5) rfl rfl (by decide) rfl (fun ls hl => ?_)
  refine lv_goto (tgt := 11) hx hb d_Wrt_takeEntries_139 (by decide) ?_
  exact hrec11 o l1 l2 l3 v3 (l5 + 1) x H locs ls fo hw hW hS (lv_sub hl [2, 3, 4, 5, 1, 0] rfl)
set_option maxRecDepth 100000 in
set_option maxHeartbeats 4000000 in
set_option maxRecDepth 100000 in
theorem t_Wrt_takeEntries_11 {p : Program} {l : Launch} {e : Env} {R : Room} {s : State} {m : MethodId} {args : Array Value} {below : List Frame} {meth : Method} {c : Code} {cells slots : Nat} {Q : State → Prop} {dC : Nat → ClassId} {dI : Nat → Nat → Nat} {cI cB cJ cZ : ClassId} {A : Nat → Prop} {ad : Nat → Nat} {NN : Nat} {E : Heap} {tM tC : Nat} {kK kV : Nat → Nat} {post : St → Prop} {rec11 : Nat → Int32 → Int32 → Int32 → Int32 → Int32 → St → Prop} (hx : p.tables.exec = Jvm.exec) (hb : c.code = b_Wrt_takeEntries) (hml : c.maxLocals = 6) (hown : s.vm.findClass R_Wrt = some m.cls) (hT : ∀ w ∈ TG, w.before args s = true) (hK : va_K (dC, dI) CL (TY cI cB cJ cZ) s) (hN : NW s) (hA : ∀ q : Nat, s.heap.size ≤ q → A q) (hRc : cells ≤ R.cells) (hRs : slots ≤ R.slots) (hRf : 0 ≤ R.frames) (hRl : 0 ≤ R.locals) (hNN : 152 ≤ NN) (hE : CE E tM tC kK kV A s) (hret : ∀ (x : St) (H : Heap) (locs : List Loc) (pc : Nat) (ls : Array Slot), decode b_Wrt_takeEntries pc = .ok (.return_, 1) → post x → Wd dC dI cI cB cJ cZ ad stC kcC NN A x H → va_S A s.heap H locs → W p l e R s m args below meth c H locs cells slots Q (F0 m pc ls [])) (hrec11 : ∀ (o : Nat) (l1 : Int32) (l2 : Int32) (l3 : Int32) (l4 : Int32) (l5 : Int32) (x : St) (H : Heap) (locs : List Loc) (ls : Array Slot), (o < NN ∧ kcC o = 5) → rec11 o l1 l2 l3 l4 l5 x → Wd dC dI cI cB cJ cZ ad stC kcC NN A x H → va_S A s.heap H locs → lv_has ls 6 [(0, .ref (ad o)), (1, .int l1), (2, .int l2), (3, .int l3), (4, .int l4), (5, .int l5)] → W p l e R s m args below meth c H locs cells slots Q (F0 m 11 ls [])) : ∀ (o : Nat) (l1 : Int32) (l2 : Int32) (l3 : Int32) (l4 : Int32) (l5 : Int32) (x : St) (H : Heap) (locs : List Loc) (ls : Array Slot), (o < NN ∧ kcC o = 5) → j_Wrt_takeEntries_11 post rec11 o l1 l2 l3 l4 l5 x → Wd dC dI cI cB cJ cZ ad stC kcC NN A x H → va_S A s.heap H locs → lv_has ls 6 [(0, .ref (ad o)), (1, .int l1), (2, .int l2), (3, .int l3), (4, .int l4), (5, .int l5)] → W p l e R s m args below meth c H locs cells slots Q (F0 m 11 ls []) := by
  intro o l1 l2 l3 l4 l5 x H locs ls fo hw hW hS hl
  unfold j_Wrt_takeEntries_11 at hw
  refine lv_iload hx hb d_Wrt_takeEntries_11 (lv_at hl 5 rfl) ?_
  refine lv_iload_n hx hb d_Wrt_takeEntries_13 rfl (lv_at hl 2 rfl) ?_
  refine lv_icmp_ge (tgt := 142) hx hb d_Wrt_takeEntries_14 (by decide) (fun c4 => ?_) (fun c4 => ?_)
  · have hw := hw.1 c4
    exact t_Wrt_takeEntries_142 hx hb hml hown hT hK hN hA hRc hRs hRf hRl hNN hE hret  o l1 l2 l3 l4 l5 x H locs ls fo hw hW hS (lv_sub hl [0, 1, 2, 3, 4, 5] rfl)
  · have hw := hw.2 c4
    refine lv_iload hx hb d_Wrt_takeEntries_17 (lv_at hl 4 rfl) ?_
    refine lv_iconst (v := (-1)) hx hb d_Wrt_takeEntries_19 (by decide) ?_
    refine lv_icmp_eq (tgt := 142) hx hb d_Wrt_takeEntries_20 (by decide) (fun c5 => ?_) (fun c5 => ?_)
    · have hw := hw.1 c5
      exact t_Wrt_takeEntries_142 hx hb hml hown hT hK hN hA hRc hRs hRf hRl hNN hE hret  o l1 l2 l3 l4 l5 x H locs ls fo hw hW hS (lv_sub hl [0, 1, 2, 3, 4, 5] rfl)
    · have hw := hw.2 c5
      refine lv_aload_n hx hb d_Wrt_takeEntries_23 rfl (lv_at hl 0 rfl) ?_
      refine w_geti (k := 11) (t := 5) (C := R_Wrt) (T := F_Wrt) (N := 20) hx hb hT hown hK hW fo.1 fo.2 (by decide) in_Wrt rfl rfl (by decide) rfl fr_Wrt_11 w_2_62 d_Wrt_takeEntries_24 ?_
      refine lv_sipush (v := 1000) hx hb d_Wrt_takeEntries_27 (by decide) ?_
      refine lv_icmp_ge (tgt := 142) hx hb d_Wrt_takeEntries_30 (by decide) (fun c6 => ?_) (fun c6 => ?_)
      · have hw := hw.1 c6
        exact t_Wrt_takeEntries_142 hx hb hml hown hT hK hN hA hRc hRs hRf hRl hNN hE hret  o l1 l2 l3 l4 l5 x H locs ls fo hw hW hS (lv_sub hl [0, 1, 2, 3, 4, 5] rfl)
      · have hw := hw.2 c6
        refine lv_aload_n hx hb d_Wrt_takeEntries_33 rfl (lv_at hl 0 rfl) ?_
        refine w_getf (q := (stC o 8)) (k := 8) (t := 5) (C := R_Wrt) (T := F_Wrt) (N := 20) hx hb hT hown hK hW fo.1 fo.2 (by decide) in_Wrt rfl rfl (by decide) rfl fr_Wrt_8 w_2_59 d_Wrt_takeEntries_34 rfl ?_
        refine lv_aload_n hx hb d_Wrt_takeEntries_37 rfl (lv_at hl 0 rfl) ?_
        refine w_geti (k := 11) (t := 5) (C := R_Wrt) (T := F_Wrt) (N := 20) hx hb hT hown hK hW fo.1 fo.2 (by decide) in_Wrt rfl rfl (by decide) rfl fr_Wrt_11 w_2_62 d_Wrt_takeEntries_38 ?_
        refine lv_aload_n hx hb d_Wrt_takeEntries_41 rfl (lv_at hl 0 rfl) ?_
        obtain ⟨q7, hq7, hw⟩ := hw
        refine w_getr (q := q7) (k := 6) (t := 5) (C := R_Wrt) (T := F_Wrt) (N := 20) hx hb hT hown hK hW fo.1 fo.2 (by decide) in_Wrt rfl rfl (by decide) rfl fr_Wrt_6 w_2_57 d_Wrt_takeEntries_42 hq7 (fun aq7 bq7 => ?_)
        have fq7 : q7 < NN ∧ kcC q7 = 4 := ⟨aq7, bq7⟩
        refine w_getf (q := (stC q7 5)) (k := 5) (t := 4) (C := R_Rec) (T := F_Rec) (N := 15) hx hb hT hown hK hW fq7.1 fq7.2 (by decide) in_Rec rfl rfl (by decide) rfl fr_Rec_5 w_1_235 d_Wrt_takeEntries_45 rfl ?_
        refine lv_iload hx hb d_Wrt_takeEntries_48 (lv_at hl 4 rfl) ?_
        obtain ⟨hi, hw⟩ := hw
        refine w_bald (o := (stC q7 5)) hx hb hK hW (st_ty hNN fq7.1 fq7.2 rfl).1 (st_ty hNN fq7.1 fq7.2 rfl).2 hi d_Wrt_takeEntries_50 ?_
        obtain ⟨hi, hw⟩ := hw
        refine w_iast (o := (stC o 8)) hx hb hK hW hS (st_ty hNN fo.1 fo.2 rfl).1 (st_ty hNN fo.1 fo.2 rfl).2 hi d_Wrt_takeEntries_51 (fun H locs hW hS => ?_)
        obtain ⟨x8, ex8⟩ : ∃ y : St, y = setA x (stC o 8) (fI x o 11) (rA x (stC q7 5) l4) := ⟨_, rfl⟩
        rw [← ex8] at hW
        have hw := hw x8 ex8
        refine lv_aload_n hx hb d_Wrt_takeEntries_52 rfl (lv_at hl 0 rfl) ?_
        refine w_getf (q := (stC o 9)) (k := 9) (t := 5) (C := R_Wrt) (T := F_Wrt) (N := 20) hx hb hT hown hK hW fo.1 fo.2 (by decide) in_Wrt rfl rfl (by decide) rfl fr_Wrt_9 w_2_60 d_Wrt_takeEntries_53 rfl ?_
        refine lv_aload_n hx hb d_Wrt_takeEntries_56 rfl (lv_at hl 0 rfl) ?_
        refine w_geti (k := 11) (t := 5) (C := R_Wrt) (T := F_Wrt) (N := 20) hx hb hT hown hK hW fo.1 fo.2 (by decide) in_Wrt rfl rfl (by decide) rfl fr_Wrt_11 w_2_62 d_Wrt_takeEntries_57 ?_
        refine lv_aload_n hx hb d_Wrt_takeEntries_60 rfl (lv_at hl 0 rfl) ?_
        obtain ⟨q9, hq9, hw⟩ := hw
        refine w_getr (q := q9) (k := 6) (t := 5) (C := R_Wrt) (T := F_Wrt) (N := 20) hx hb hT hown hK hW fo.1 fo.2 (by decide) in_Wrt rfl rfl (by decide) rfl fr_Wrt_6 w_2_57 d_Wrt_takeEntries_61 hq9 (fun aq9 bq9 => ?_)
        have fq9 : q9 < NN ∧ kcC q9 = 4 := ⟨aq9, bq9⟩
        refine w_getf (q := (stC q9 6)) (k := 6) (t := 4) (C := R_Rec) (T := F_Rec) (N := 15) hx hb hT hown hK hW fq9.1 fq9.2 (by decide) in_Rec rfl rfl (by decide) rfl fr_Rec_6 w_1_237 d_Wrt_takeEntries_64 rfl ?_
        refine lv_iload hx hb d_Wrt_takeEntries_67 (lv_at hl 4 rfl) ?_
        obtain ⟨hi, hw⟩ := hw
        refine w_bald (o := (stC q9 6)) hx hb hK hW (st_ty hNN fq9.1 fq9.2 rfl).1 (st_ty hNN fq9.1 fq9.2 rfl).2 hi d_Wrt_takeEntries_69 ?_
        obtain ⟨hi, hw⟩ := hw
        refine w_iast (o := (stC o 9)) hx hb hK hW hS (st_ty hNN fo.1 fo.2 rfl).1 (st_ty hNN fo.1 fo.2 rfl).2 hi d_Wrt_takeEntries_70 (fun H locs hW hS => ?_)
        obtain ⟨x10, ex10⟩ : ∃ y : St, y = setA x8 (stC o 9) (fI x8 o 11) (rA x8 (stC q9 6) l4) := ⟨_, rfl⟩
        rw [← ex10] at hW
        have hw := hw x10 ex10
        refine lv_aload_n hx hb d_Wrt_takeEntries_71 rfl (lv_at hl 0 rfl) ?_
        refine lv_dup hx hb d_Wrt_takeEntries_72 rfl ?_
        refine w_geti (k := 11) (t := 5) (C := R_Wrt) (T := F_Wrt) (N := 20) hx hb hT hown hK hW fo.1 fo.2 (by decide) in_Wrt rfl rfl (by decide) rfl fr_Wrt_11 w_2_62 d_Wrt_takeEntries_73 ?_
        refine lv_iconst (v := 1) hx hb d_Wrt_takeEntries_76 (by decide) ?_
        refine lv_iadd hx hb d_Wrt_takeEntries_77 ?_
        refine w_puti (ty := .int) (k := 11) (t := 5) (C := R_Wrt) (T := F_Wrt) (N := 20) hx hb hT hown hK hW hS fo.1 fo.2 (by decide) in_Wrt t_Wrt t_Wrt_ok n_Wrt rfl rfl (by decide) rfl fr_Wrt_11 w_2_62 (by decide +kernel) rfl rfl d_Wrt_takeEntries_78 (fun H locs hW hS => ?_)
        obtain ⟨x11, ex11⟩ : ∃ y : St, y = setI x10 o 11 ((fI x10 o 11) + 1) := ⟨_, rfl⟩
        rw [← ex11] at hW
        have hw := hw x11 ex11
        refine lv_aload_n hx hb d_Wrt_takeEntries_81 rfl (lv_at hl 0 rfl) ?_
        obtain ⟨q12, hq12, hw⟩ := hw
        refine w_getr (q := q12) (k := 6) (t := 5) (C := R_Wrt) (T := F_Wrt) (N := 20) hx hb hT hown hK hW fo.1 fo.2 (by decide) in_Wrt rfl rfl (by decide) rfl fr_Wrt_6 w_2_57 d_Wrt_takeEntries_82 hq12 (fun aq12 bq12 => ?_)
        have fq12 : q12 < NN ∧ kcC q12 = 4 := ⟨aq12, bq12⟩
        refine w_getf (q := (stC q12 6)) (k := 6) (t := 4) (C := R_Rec) (T := F_Rec) (N := 15) hx hb hT hown hK hW fq12.1 fq12.2 (by decide) in_Rec rfl rfl (by decide) rfl fr_Rec_6 w_1_237 d_Wrt_takeEntries_85 rfl ?_
        refine lv_iload hx hb d_Wrt_takeEntries_88 (lv_at hl 4 rfl) ?_
        obtain ⟨hi, hw⟩ := hw
        refine w_bald (o := (stC q12 6)) hx hb hK hW (st_ty hNN fq12.1 fq12.2 rfl).1 (st_ty hNN fq12.1 fq12.2 rfl).2 hi d_Wrt_takeEntries_90 ?_
        refine lv_iload_n hx hb d_Wrt_takeEntries_91 rfl (lv_at hl 3 rfl) ?_
        refine lv_icmp_ne (tgt := 124) hx hb d_Wrt_takeEntries_92 (by decide) (fun c13 => ?_) (fun c13 => ?_)
        · have hw := hw.1 c13
          exact t_Wrt_takeEntries_124 hx hb hml hown hT hK hN hA hRc hRs hRf hRl hNN hE hret hrec11 o l1 l2 l3 l4 l5 x11 H locs ls fo hw hW hS (lv_sub hl [0, 1, 2, 3, 4, 5] rfl)
        · have hw := hw.2 c13
          refine lv_aload_n hx hb d_Wrt_takeEntries_95 rfl (lv_at hl 0 rfl) ?_
          refine w_getf (q := (stC o 10)) (k := 10) (t := 5) (C := R_Wrt) (T := F_Wrt) (N := 20) hx hb hT hown hK hW fo.1 fo.2 (by decide) in_Wrt rfl rfl (by decide) rfl fr_Wrt_10 w_2_61 d_Wrt_takeEntries_96 rfl ?_
          refine lv_aload_n hx hb d_Wrt_takeEntries_99 rfl (lv_at hl 0 rfl) ?_
          refine w_geti (k := 12) (t := 5) (C := R_Wrt) (T := F_Wrt) (N := 20) hx hb hT hown hK hW fo.1 fo.2 (by decide) in_Wrt rfl rfl (by decide) rfl fr_Wrt_12 w_2_63 d_Wrt_takeEntries_100 ?_
          refine lv_aload_n hx hb d_Wrt_takeEntries_103 rfl (lv_at hl 0 rfl) ?_
          obtain ⟨q14, hq14, hw⟩ := hw
          refine w_getr (q := q14) (k := 6) (t := 5) (C := R_Wrt) (T := F_Wrt) (N := 20) hx hb hT hown hK hW fo.1 fo.2 (by decide) in_Wrt rfl rfl (by decide) rfl fr_Wrt_6 w_2_57 d_Wrt_takeEntries_104 hq14 (fun aq14 bq14 => ?_)
          have fq14 : q14 < NN ∧ kcC q14 = 4 := ⟨aq14, bq14⟩
          refine w_getf (q := (stC q14 7)) (k := 7) (t := 4) (C := R_Rec) (T := F_Rec) (N := 15) hx hb hT hown hK hW fq14.1 fq14.2 (by decide) in_Rec rfl rfl (by decide) rfl fr_Rec_7 w_1_239 d_Wrt_takeEntries_107 rfl ?_
          refine lv_iload hx hb d_Wrt_takeEntries_110 (lv_at hl 4 rfl) ?_
          obtain ⟨hi, hw⟩ := hw
          refine w_lald (o := (stC q14 7)) hx hb hK hW (st_ty hNN fq14.1 fq14.2 rfl).1 (st_ty hNN fq14.1 fq14.2 rfl).2 hi d_Wrt_takeEntries_112 ?_
          obtain ⟨hi, hw⟩ := hw
          refine w_last (o := (stC o 10)) hx hb hK hW hS (st_ty hNN fo.1 fo.2 rfl).1 (st_ty hNN fo.1 fo.2 rfl).2 hi d_Wrt_takeEntries_113 (fun H locs hW hS => ?_)
          obtain ⟨x15, ex15⟩ : ∃ y : St, y = setL x11 (stC o 10) (fI x11 o 12) (rL x11 (stC q14 7) l4) := ⟨_, rfl⟩
          rw [← ex15] at hW
          have hw := hw x15 ex15
          refine lv_aload_n hx hb d_Wrt_takeEntries_114 rfl (lv_at hl 0 rfl) ?_
          refine lv_dup hx hb d_Wrt_takeEntries_115 rfl ?_
          refine w_geti (k := 12) (t := 5) (C := R_Wrt) (T := F_Wrt) (N := 20) hx hb hT hown hK hW fo.1 fo.2 (by decide) in_Wrt rfl rfl (by decide) rfl fr_Wrt_12 w_2_63 d_Wrt_takeEntries_116 ?_
          refine lv_iconst (v := 1) hx hb d_Wrt_takeEntries_119 (by decide) ?_
          refine lv_iadd hx hb d_Wrt_takeEntries_120 ?_
          refine w_puti (ty := .int) (k := 12) (t := 5) (C := R_Wrt) (T := F_Wrt) (N := 20) hx hb hT hown hK hW hS fo.1 fo.2 (by decide) in_Wrt t_Wrt t_Wrt_ok n_Wrt rfl rfl (by decide) rfl fr_Wrt_12 w_2_63 (by decide +kernel) rfl rfl d_Wrt_takeEntries_121 (fun H locs hW hS => ?_)
          obtain ⟨x16, ex16⟩ : ∃ y : St, y = setI x15 o 12 ((fI x15 o 12) + 1) := ⟨_, rfl⟩
          rw [← ex16] at hW
          have hw := hw x16 ex16
          exact t_Wrt_takeEntries_124 hx hb hml hown hT hK hN hA hRc hRs hRf hRl hNN hE hret hrec11 o l1 l2 l3 l4 l5 x16 H locs ls fo hw hW hS (lv_sub hl [0, 1, 2, 3, 4, 5] rfl)
set_option maxHeartbeats 4000000 in
set_option maxRecDepth 100000 in
theorem tl_Wrt_takeEntries_11 {p : Program} {l : Launch} {e : Env} {R : Room} {s : State} {m : MethodId} {args : Array Value} {below : List Frame} {meth : Method} {c : Code} {cells slots : Nat} {Q : State → Prop} {dC : Nat → ClassId} {dI : Nat → Nat → Nat} {cI cB cJ cZ : ClassId} {A : Nat → Prop} {ad : Nat → Nat} {NN : Nat} {E : Heap} {tM tC : Nat} {kK kV : Nat → Nat} {post : St → Prop} (hx : p.tables.exec = Jvm.exec) (hb : c.code = b_Wrt_takeEntries) (hml : c.maxLocals = 6) (hown : s.vm.findClass R_Wrt = some m.cls) (hT : ∀ w ∈ TG, w.before args s = true) (hK : va_K (dC, dI) CL (TY cI cB cJ cZ) s) (hN : NW s) (hA : ∀ q : Nat, s.heap.size ≤ q → A q) (hRc : cells ≤ R.cells) (hRs : slots ≤ R.slots) (hRf : 0 ≤ R.frames) (hRl : 0 ≤ R.locals) (hNN : 152 ≤ NN) (hE : CE E tM tC kK kV A s) (hret : ∀ (x : St) (H : Heap) (locs : List Loc) (pc : Nat) (ls : Array Slot), decode b_Wrt_takeEntries pc = .ok (.return_, 1) → post x → Wd dC dI cI cB cJ cZ ad stC kcC NN A x H → va_S A s.heap H locs → W p l e R s m args below meth c H locs cells slots Q (F0 m pc ls []))  : ∀ n : Nat, ∀ (o : Nat) (l1 : Int32) (l2 : Int32) (l3 : Int32) (l4 : Int32) (l5 : Int32) (x : St) (H : Heap) (locs : List Loc) (ls : Array Slot), (o < NN ∧ kcC o = 5) → wl_Wrt_takeEntries_11 post n o l1 l2 l3 l4 l5 x → Wd dC dI cI cB cJ cZ ad stC kcC NN A x H → va_S A s.heap H locs → lv_has ls 6 [(0, .ref (ad o)), (1, .int l1), (2, .int l2), (3, .int l3), (4, .int l4), (5, .int l5)] → W p l e R s m args below meth c H locs cells slots Q (F0 m 11 ls []) := by
  intro n
  induction n with
  | zero => intro o l1 l2 l3 l4 l5 x H locs ls fo hw; exact hw.elim
  | succ n ih => intro o l1 l2 l3 l4 l5 x H locs ls fo hw hW hS hl; exact t_Wrt_takeEntries_11 hx hb hml hown hT hK hN hA hRc hRs hRf hRl hNN hE hret  ih o l1 l2 l3 l4 l5 x H locs ls fo hw hW hS hl
set_option maxRecDepth 100000 in
set_option maxHeartbeats 4000000 in
set_option maxRecDepth 100000 in
theorem t_Wrt_takeEntries_e {p : Program} {l : Launch} {e : Env} {R : Room} {s : State} {m : MethodId} {args : Array Value} {below : List Frame} {meth : Method} {c : Code} {cells slots : Nat} {Q : State → Prop} {dC : Nat → ClassId} {dI : Nat → Nat → Nat} {cI cB cJ cZ : ClassId} {A : Nat → Prop} {ad : Nat → Nat} {NN : Nat} {E : Heap} {tM tC : Nat} {kK kV : Nat → Nat} {post : St → Prop} (hx : p.tables.exec = Jvm.exec) (hb : c.code = b_Wrt_takeEntries) (hml : c.maxLocals = 6) (hown : s.vm.findClass R_Wrt = some m.cls) (hT : ∀ w ∈ TG, w.before args s = true) (hK : va_K (dC, dI) CL (TY cI cB cJ cZ) s) (hN : NW s) (hA : ∀ q : Nat, s.heap.size ≤ q → A q) (hRc : cells ≤ R.cells) (hRs : slots ≤ R.slots) (hRf : 0 ≤ R.frames) (hRl : 0 ≤ R.locals) (hNN : 152 ≤ NN) (hE : CE E tM tC kK kV A s) (hret : ∀ (x : St) (H : Heap) (locs : List Loc) (pc : Nat) (ls : Array Slot), decode b_Wrt_takeEntries pc = .ok (.return_, 1) → post x → Wd dC dI cI cB cJ cZ ad stC kcC NN A x H → va_S A s.heap H locs → W p l e R s m args below meth c H locs cells slots Q (F0 m pc ls [])) : ∀ (o : Nat) (l1 : Int32) (l2 : Int32) (l3 : Int32) (x : St) (H : Heap) (locs : List Loc) (ls : Array Slot), (o < NN ∧ kcC o = 5) → wp_Wrt_takeEntries post o l1 l2 l3 x → Wd dC dI cI cB cJ cZ ad stC kcC NN A x H → va_S A s.heap H locs → lv_has ls 6 [(0, .ref (ad o)), (1, .int l1), (2, .int l2), (3, .int l3)] → W p l e R s m args below meth c H locs cells slots Q (F0 m 0 ls []) := by
  intro o l1 l2 l3 x H locs ls fo hw hW hS hl
  unfold wp_Wrt_takeEntries at hw
  refine lv_aload_n hx hb d_Wrt_takeEntries_0 rfl (lv_at hl 0 rfl) ?_
  refine w_getf (q := (stC o 7)) (k := 7) (t := 5) (C := R_Wrt) (T := F_Wrt) (N := 20) hx hb hT hown hK hW fo.1 fo.2 (by decide) in_Wrt rfl rfl (by decide) rfl fr_Wrt_7 w_2_58 d_Wrt_takeEntries_1 rfl ?_
  refine lv_iload_n hx hb d_Wrt_takeEntries_4 rfl (lv_at hl 1 rfl) ?_
  obtain ⟨hi, hw⟩ := hw
  refine w_iald (o := (stC o 7)) hx hb hK hW (st_ty hNN fo.1 fo.2 rfl).1 (st_ty hNN fo.1 fo.2 rfl).2 hi d_Wrt_takeEntries_5 ?_
  refine lv_topi (fun v17 ev17 => ?_)
  have hw := hw v17 ev17
  refine lv_istore (lv' := [(4, .int v17), (0, .ref (ad o)), (1, .int l1), (2, .int l2), (3, .int l3)]) hx hb d_Wrt_takeEntries_6 hl (by decide) rfl (fun ls hl => ?_)
  refine lv_iconst (v := 0) hx hb d_Wrt_takeEntries_8 (by decide) ?_
  refine lv_istore (lv' := [(5, .int 0), (4, .int v17), (0, .ref (ad o)), (1, .int l1), (2, .int l2), (3, .int l3)]) hx hb d_Wrt_takeEntries_9 hl (by decide) rfl (fun ls hl => ?_)
  obtain ⟨n, hw⟩ := hw
  exact tl_Wrt_takeEntries_11 hx hb hml hown hT hK hN hA hRc hRs hRf hRl hNN hE hret  n o l1 l2 l3 v17 0 x H locs ls fo hw hW hS (lv_sub hl [2, 3, 4, 5, 1, 0] rfl)
set_option maxHeartbeats 4000000 in
set_option maxRecDepth 100000 in
theorem k_Wrt_takeEntries (l : Launch) (dC : Nat → ClassId) (dI : Nat → Nat → Nat) (cI cB cJ cZ : ClassId) (ad : Nat → Nat) (NN : Nat) (E : Heap) (tM tC : Nat) (kK kV : Nat → Nat) (hNN : 152 ≤ NN) (sz : Nat) (o : Nat) (l1 : Int32) (l2 : Int32) (l3 : Int32) (x : St) (fo : o < NN ∧ kcC o = 5) {post : St → Prop} (hw : wp_Wrt_takeEntries post o l1 l2 l3 x) : Met l y_Wrt_takeEntries (wsOf y_Wrt_takeEntries b_Wrt_takeEntries 6 (none)) ({ frames := 0, cells := 0, slots := 0, locals := 0 }) (va_Pc [.ref (ad o), .int l1, .int l2, .int l3] (PVc dC dI cI cB cJ cZ ad stC kcC NN E tM tC kK kV sz x)) (va_Qv (fun (y : St) => post y) (fun y t => Wd dC dI cI cB cJ cZ ad stC kcC NN (va_A (pic ad stC kcC NN cI cB cJ cZ x) sz) y t.heap) (va_A (pic ad stC kcC NN cI cB cJ cZ x) sz)) 0 0 (va_A (pic ad stC kcC NN cI cB cJ cZ x) sz) := by
  refine Met.ofW (cc := b_Wrt_takeEntries) (maxL := 6) (ret := none) (by decide) rfl ?_
  intro p e s m args below meth c s₁ B hml hv
  obtain ⟨rfl, ⟨hsz, hW0, hK, hN⟩, hE⟩ := hv
  have hx := B.exec
  have hb := B.bytes
  have hr := B.returns
  have hts := atoms_spec B.pre
  have hT : ∀ w ∈ TG, w.before _ s = true := fun w h => hts w (List.mem_cons_of_mem _ h)
  have hown : s.vm.findClass R_Wrt = some m.cls := findClass_of_methodNamed B.named
  have hlocks := B.notSynchronized
  subst hsz
  have hW : Wd dC dI cI cB cJ cZ ad stC kcC NN (va_A (pic ad stC kcC NN cI cB cJ cZ x) s.heap.size) x s.heap := ⟨hW0.1, hW0.2.1.self (sz := s.heap.size), hW0.2.2⟩
  generalize hAe : va_A (pic ad stC kcC NN cI cB cJ cZ x) s.heap.size = A at hW hE ⊢
  have hA : ∀ q : Nat, s.heap.size ≤ q → A q := fun q h => by rw [← hAe]; exact Or.inr h
  have hS : va_S A s.heap s.heap [] := va_S.rf
  have hl := lv_entry ([.ref (ad o), .int l1, .int l2, .int l3]) (n := 6) (Nat.le_of_ble_eq_true rfl)
  rw [lg_entry_eq]
  generalize (lg_sl ([.ref (ad o), .int l1, .int l2, .int l3]) ++ List.replicate (6 - (lg_sl ([.ref (ad o), .int l1, .int l2, .int l3])).length) Slot.unset).toArray = ls at hl ⊢
  have hl : lv_has ls 6 [(0, .ref (ad o)), (1, .int l1), (2, .int l2), (3, .int l3)] := hl
  exact t_Wrt_takeEntries_e hx hb hml hown hT hK hN hA (Nat.le_refl 0) (Nat.le_refl 0) (Nat.le_refl 0) (Nat.le_refl 0) hNN hE (fun x H locs pc ls hd hp hW hS => W.vret hx hb hr (fun t ht hM => ⟨⟨x, rfl, hp, Wd.back hW ht.symm (fun _ z => z)⟩, hS.F ht⟩) hS.2.2 hd hlocks)  o l1 l2 l3 x _ _ ls fo hw hW hS hl
set_option maxRecDepth 100000 in
set_option maxHeartbeats 4000000 in
set_option maxRecDepth 100000 in
theorem t_Wrt_fillPage_200 {p : Program} {l : Launch} {e : Env} {R : Room} {s : State} {m : MethodId} {args : Array Value} {below : List Frame} {meth : Method} {c : Code} {cells slots : Nat} {Q : State → Prop} {dC : Nat → ClassId} {dI : Nat → Nat → Nat} {cI cB cJ cZ : ClassId} {A : Nat → Prop} {ad : Nat → Nat} {NN : Nat} {E : Heap} {tM tC : Nat} {kK kV : Nat → Nat} {post : Int32 → St → Prop} {rec48 : Nat → Int32 → Int32 → Int32 → Int32 → Int32 → Int32 → Int32 → St → Prop} (hx : p.tables.exec = Jvm.exec) (hb : c.code = b_Wrt_fillPage) (hml : c.maxLocals = 12) (hown : s.vm.findClass R_Wrt = some m.cls) (hT : ∀ w ∈ TG, w.before args s = true) (hK : va_K (dC, dI) CL (TY cI cB cJ cZ) s) (hN : NW s) (hA : ∀ q : Nat, s.heap.size ≤ q → A q) (hRc : cells ≤ R.cells) (hRs : slots ≤ R.slots) (hRf : 1 ≤ R.frames) (hRl : 25 ≤ R.locals) (hNN : 152 ≤ NN) (hE : CE E tM tC kK kV A s) (hret : ∀ (r : Int32) (x : St) (H : Heap) (locs : List Loc) (pc : Nat) (ls : Array Slot), decode b_Wrt_fillPage pc = .ok (.ireturn, 1) → post r x → Wd dC dI cI cB cJ cZ ad stC kcC NN A x H → va_S A s.heap H locs → W p l e R s m args below meth c H locs cells slots Q (F0 m pc ls [.int r])) (hrec48 : ∀ (o : Nat) (l1 : Int32) (l2 : Int32) (l3 : Int32) (l4 : Int32) (l5 : Int32) (l6 : Int32) (l7 : Int32) (x : St) (H : Heap) (locs : List Loc) (ls : Array Slot), (o < NN ∧ kcC o = 5) → rec48 o l1 l2 l3 l4 l5 l6 l7 x → Wd dC dI cI cB cJ cZ ad stC kcC NN A x H → va_S A s.heap H locs → lv_has ls 12 [(0, .ref (ad o)), (1, .int l1), (2, .int l2), (3, .int l3), (4, .int l4), (5, .int l5), (6, .int l6), (7, .int l7)] → W p l e R s m args below meth c H locs cells slots Q (F0 m 48 ls [])) : ∀ (o : Nat) (l1 : Int32) (l2 : Int32) (l3 : Int32) (l4 : Int32) (l5 : Int32) (l6 : Int32) (l7 : Int32) (l8 : Int32) (l9 : Int32) (l10 : Int32) (l11 : Int32) (x : St) (H : Heap) (locs : List Loc) (ls : Array Slot), (o < NN ∧ kcC o = 5) → j_Wrt_fillPage_200 post rec48 o l1 l2 l3 l4 l5 l6 l7 l8 l9 l10 l11 x → Wd dC dI cI cB cJ cZ ad stC kcC NN A x H → va_S A s.heap H locs → lv_has ls 12 [(0, .ref (ad o)), (1, .int l1), (2, .int l2), (3, .int l3), (4, .int l4), (5, .int l5), (6, .int l6), (7, .int l7), (8, .int l8), (9, .int l9), (10, .int l10), (11, .int l11)] → W p l e R s m args below meth c H locs cells slots Q (F0 m 200 ls []) := by
  intro o l1 l2 l3 l4 l5 l6 l7 l8 l9 l10 l11 x H locs ls fo hw hW hS hl
  unfold j_Wrt_fillPage_200 at hw
  refine lv_aload_n hx hb d_Wrt_fillPage_200 rfl (lv_at hl 0 rfl) ?_
  refine lv_iload_n hx hb d_Wrt_fillPage_201 rfl (lv_at hl 1 rfl) ?_
  refine lv_iload hx hb d_Wrt_fillPage_202 (lv_at hl 8 rfl) ?_
  refine lv_aload_n hx hb d_Wrt_fillPage_204 rfl (lv_at hl 0 rfl) ?_
  obtain ⟨q1, hq1, hw⟩ := hw
  refine w_getr (q := q1) (k := 5) (t := 5) (C := R_Wrt) (T := F_Wrt) (N := 20) hx hb hT hown hK hW fo.1 fo.2 (by decide) in_Wrt rfl rfl (by decide) rfl fr_Wrt_5 w_2_56 d_Wrt_fillPage_205 hq1 (fun aq1 bq1 => ?_)
  have fq1 : q1 < NN ∧ kcC q1 = 3 := ⟨aq1, bq1⟩
  refine w_getf (q := (stC q1 6)) (k := 6) (t := 3) (C := R_Sch) (T := F_Sch) (N := 13) hx hb hT hown hK hW fq1.1 fq1.2 (by decide) in_Sch rfl rfl (by decide) rfl fr_Sch_6 w_1_165 d_Wrt_fillPage_208 rfl ?_
  refine lv_iload hx hb d_Wrt_fillPage_211 (lv_at hl 4 rfl) ?_
  obtain ⟨hi, hw⟩ := hw
  refine w_iald (o := (stC q1 6)) hx hb hK hW (st_ty hNN fq1.1 fq1.2 rfl).1 (st_ty hNN fq1.1 fq1.2 rfl).2 hi d_Wrt_fillPage_213 ?_
  have hF := hW.free hS hA
  refine va_callv (va_runV (C := R_Wrt) (As := [.int l1, .int l8, .int (rA x (stC q1 6) l4)]) (rest := []) ⟨hx, hb, hml, hown, hT⟩ (k_Wrt_takeEntries l dC dI cI cB cJ cZ ad NN E tM tC kK kV hNN H.size o l1 l8 (rA x (stC q1 6) l4) x fo hw) ⟨callB_of 3 hT (gwt_in w_5_166) rfl rfl rfl (hT _ w_1_8) (hT _ w_5_163) (by decide +kernel) ⟨Nat.le_trans (Nat.le_of_ble_eq_true rfl) hRf, Nat.le_trans (Nat.le_of_ble_eq_true rfl) hRl⟩, hT _ w_5_165, hT _ ws_19⟩ ⟨PVc.blind, va_recv hK hW.1 (ci := 5) (q0 := o) rfl (pic_obj fo.1 fo.2 (by decide)), PVc.at _ hW hK hN hE hS hF⟩ rfl rfl hl.1 rfl (lv_room (Nat.le_of_ble_eq_true rfl)) d_Wrt_fillPage_214 ⟨hRc, hRs⟩) hS (fun q _ h => hF q h) hF (fun  x2 t H locs ht hvm hw hB hz1 hk1 hS => ?_)
  have hW := Wd.back hB ht hF
  clear hB ht hF hz1 hk1 hvm
  refine lv_iload hx hb d_Wrt_fillPage_217 (lv_at hl 6 rfl) ?_
  refine lv_iload hx hb d_Wrt_fillPage_219 (lv_at hl 9 rfl) ?_
  refine lv_iadd hx hb d_Wrt_fillPage_221 ?_
  refine lv_topi (fun v3 ev3 => ?_)
  have hw := hw v3 ev3
  refine lv_istore (lv' := [(6, .int v3), (0, .ref (ad o)), (1, .int l1), (2, .int l2), (3, .int l3), (4, .int l4), (5, .int l5), (7, .int l7), (8, .int l8), (9, .int l9), (10, .int l10), (11, .int l11)]) hx hb d_Wrt_fillPage_222 hl (by decide) rfl (fun ls hl => ?_)
  refine lv_iinc (v := (l7 + 1)) (lv' := [(7, .int (l7 + 1)), (6, .int v3), (0, .ref (ad o)), (1, .int l1), (2, .int l2), (3, .int l3), (4, .int l4), (5, .int l5), (8, .int l8), (9, .int l9), (10, .int l10), (11, .int l11)]) hx hb d_Wrt_fillPage_224 hl (k := 7) rfl rfl (by decide) rfl (fun ls hl => ?_)
  refine lv_goto (tgt := 48) hx hb d_Wrt_fillPage_227 (by decide) ?_
  exact hrec48 o l1 l2 l3 l4 l5 v3 (l7 + 1) x2 H locs ls fo hw hW hS (lv_sub hl [2, 3, 4, 5, 6, 7, 1, 0] rfl)
set_option maxRecDepth 100000 in
set_option maxHeartbeats 4000000 in
set_option maxRecDepth 100000 in
theorem t_Wrt_fillPage_197 {p : Program} {l : Launch} {e : Env} {R : Room} {s : State} {m : MethodId} {args : Array Value} {below : List Frame} {meth : Method} {c : Code} {cells slots : Nat} {Q : State → Prop} {dC : Nat → ClassId} {dI : Nat → Nat → Nat} {cI cB cJ cZ : ClassId} {A : Nat → Prop} {ad : Nat → Nat} {NN : Nat} {E : Heap} {tM tC : Nat} {kK kV : Nat → Nat} {post : Int32 → St → Prop} (hx : p.tables.exec = Jvm.exec) (hb : c.code = b_Wrt_fillPage) (hml : c.maxLocals = 12) (hown : s.vm.findClass R_Wrt = some m.cls) (hT : ∀ w ∈ TG, w.before args s = true) (hK : va_K (dC, dI) CL (TY cI cB cJ cZ) s) (hN : NW s) (hA : ∀ q : Nat, s.heap.size ≤ q → A q) (hRc : cells ≤ R.cells) (hRs : slots ≤ R.slots) (hRf : 1 ≤ R.frames) (hRl : 25 ≤ R.locals) (hNN : 152 ≤ NN) (hE : CE E tM tC kK kV A s) (hret : ∀ (r : Int32) (x : St) (H : Heap) (locs : List Loc) (pc : Nat) (ls : Array Slot), decode b_Wrt_fillPage pc = .ok (.ireturn, 1) → post r x → Wd dC dI cI cB cJ cZ ad stC kcC NN A x H → va_S A s.heap H locs → W p l e R s m args below meth c H locs cells slots Q (F0 m pc ls [.int r]))  : ∀ (o : Nat) (l1 : Int32) (l2 : Int32) (l3 : Int32) (l4 : Int32) (l5 : Int32) (l6 : Int32) (l7 : Int32) (l8 : Int32) (l9 : Int32) (l10 : Int32) (l11 : Int32) (x : St) (H : Heap) (locs : List Loc) (ls : Array Slot), (o < NN ∧ kcC o = 5) → j_Wrt_fillPage_197 post o l1 l2 l3 l4 l5 l6 l7 l8 l9 l10 l11 x → Wd dC dI cI cB cJ cZ ad stC kcC NN A x H → va_S A s.heap H locs → lv_has ls 12 [(0, .ref (ad o)), (1, .int l1), (2, .int l2), (3, .int l3), (4, .int l4), (5, .int l5), (6, .int l6), (7, .int l7), (8, .int l8), (9, .int l9), (10, .int l10), (11, .int l11)] → W p l e R s m args below meth c H locs cells slots Q (F0 m 197 ls []) := by
  intro o l1 l2 l3 l4 l5 l6 l7 l8 l9 l10 l11 x H locs ls fo hw hW hS hl
  unfold j_Wrt_fillPage_197 at hw
  refine lv_iload hx hb d_Wrt_fillPage_197 (lv_at hl 7 rfl) ?_
  exact hret l7 x H locs 199 ls d_Wrt_fillPage_199 hw hW hS
set_option maxRecDepth 100000 in
set_option maxHeartbeats 4000000 in
set_option maxRecDepth 100000 in
theorem t_Wrt_fillPage_172 {p : Program} {l : Launch} {e : Env} {R : Room} {s : State} {m : MethodId} {args : Array Value} {below : List Frame} {meth : Method} {c : Code} {cells slots : Nat} {Q : State → Prop} {dC : Nat → ClassId} {dI : Nat → Nat → Nat} {cI cB cJ cZ : ClassId} {A : Nat → Prop} {ad : Nat → Nat} {NN : Nat} {E : Heap} {tM tC : Nat} {kK kV : Nat → Nat} {post : Int32 → St → Prop} {rec48 : Nat → Int32 → Int32 → Int32 → Int32 → Int32 → Int32 → Int32 → St → Prop} (hx : p.tables.exec = Jvm.exec) (hb : c.code = b_Wrt_fillPage) (hml : c.maxLocals = 12) (hown : s.vm.findClass R_Wrt = some m.cls) (hT : ∀ w ∈ TG, w.before args s = true) (hK : va_K (dC, dI) CL (TY cI cB cJ cZ) s) (hN : NW s) (hA : ∀ q : Nat, s.heap.size ≤ q → A q) (hRc : cells ≤ R.cells) (hRs : slots ≤ R.slots) (hRf : 1 ≤ R.frames) (hRl : 25 ≤ R.locals) (hNN : 152 ≤ NN) (hE : CE E tM tC kK kV A s) (hret : ∀ (r : Int32) (x : St) (H : Heap) (locs : List Loc) (pc : Nat) (ls : Array Slot), decode b_Wrt_fillPage pc = .ok (.ireturn, 1) → post r x → Wd dC dI cI cB cJ cZ ad stC kcC NN A x H → va_S A s.heap H locs → W p l e R s m args below meth c H locs cells slots Q (F0 m pc ls [.int r])) (hrec48 : ∀ (o : Nat) (l1 : Int32) (l2 : Int32) (l3 : Int32) (l4 : Int32) (l5 : Int32) (l6 : Int32) (l7 : Int32) (x : St) (H : Heap) (locs : List Loc) (ls : Array Slot), (o < NN ∧ kcC o = 5) → rec48 o l1 l2 l3 l4 l5 l6 l7 x → Wd dC dI cI cB cJ cZ ad stC kcC NN A x H → va_S A s.heap H locs → lv_has ls 12 [(0, .ref (ad o)), (1, .int l1), (2, .int l2), (3, .int l3), (4, .int l4), (5, .int l5), (6, .int l6), (7, .int l7)] → W p l e R s m args below meth c H locs cells slots Q (F0 m 48 ls [])) : ∀ (o : Nat) (l1 : Int32) (l2 : Int32) (l3 : Int32) (l4 : Int32) (l5 : Int32) (l6 : Int32) (l7 : Int32) (l8 : Int32) (l9 : Int32) (l10 : Int32) (s0 : Int32) (x : St) (H : Heap) (locs : List Loc) (ls : Array Slot), (o < NN ∧ kcC o = 5) → j_Wrt_fillPage_172 post rec48 o l1 l2 l3 l4 l5 l6 l7 l8 l9 l10 s0 x → Wd dC dI cI cB cJ cZ ad stC kcC NN A x H → va_S A s.heap H locs → lv_has ls 12 [(0, .ref (ad o)), (1, .int l1), (2, .int l2), (3, .int l3), (4, .int l4), (5, .int l5), (6, .int l6), (7, .int l7), (8, .int l8), (9, .int l9), (10, .int l10)] → W p l e R s m args below meth c H locs cells slots Q (F0 m 172 ls [.int s0]) := by
  intro o l1 l2 l3 l4 l5 l6 l7 l8 l9 l10 s0 x H locs ls fo hw hW hS hl
  unfold j_Wrt_fillPage_172 at hw
  refine lv_istore (lv' := [(11, .int s0), (0, .ref (ad o)), (1, .int l1), (2, .int l2), (3, .int l3), (4, .int l4), (5, .int l5), (6, .int l6), (7, .int l7), (8, .int l8), (9, .int l9), (10, .int l10)]) hx hb d_Wrt_fillPage_172 hl (by decide) rfl (fun ls hl => ?_)
  refine lv_iload hx hb d_Wrt_fillPage_174 (lv_at hl 9 rfl) ?_
  refine lv_if_eq (tgt := 197) hx hb d_Wrt_fillPage_176 (by decide) (fun c4 => ?_) (fun c4 => ?_)
  · have hw := hw.1 c4
    exact t_Wrt_fillPage_197 hx hb hml hown hT hK hN hA hRc hRs hRf hRl hNN hE hret  o l1 l2 l3 l4 l5 l6 l7 l8 l9 l10 s0 x H locs ls fo hw hW hS (lv_sub hl [1, 2, 3, 4, 5, 6, 7, 8, 9, 10, 11, 0] rfl)
  · have hw := hw.2 c4
    refine lv_iload hx hb d_Wrt_fillPage_179 (lv_at hl 9 rfl) ?_
    refine lv_sipush (v := 1000) hx hb d_Wrt_fillPage_181 (by decide) ?_
    refine lv_icmp_gt (tgt := 197) hx hb d_Wrt_fillPage_184 (by decide) (fun c5 => ?_) (fun c5 => ?_)
    · have hw := hw.1 c5
      exact t_Wrt_fillPage_197 hx hb hml hown hT hK hN hA hRc hRs hRf hRl hNN hE hret  o l1 l2 l3 l4 l5 l6 l7 l8 l9 l10 s0 x H locs ls fo hw hW hS (lv_sub hl [1, 2, 3, 4, 5, 6, 7, 8, 9, 10, 11, 0] rfl)
    · have hw := hw.2 c5
      refine lv_iload hx hb d_Wrt_fillPage_187 (lv_at hl 8 rfl) ?_
      refine lv_if_le (tgt := 200) hx hb d_Wrt_fillPage_189 (by decide) (fun c6 => ?_) (fun c6 => ?_)
      · have hw := hw.1 c6
        exact t_Wrt_fillPage_200 hx hb hml hown hT hK hN hA hRc hRs hRf hRl hNN hE hret hrec48 o l1 l2 l3 l4 l5 l6 l7 l8 l9 l10 s0 x H locs ls fo hw hW hS (lv_sub hl [1, 2, 3, 4, 5, 6, 7, 8, 9, 10, 11, 0] rfl)
      · have hw := hw.2 c6
        refine lv_iload hx hb d_Wrt_fillPage_192 (lv_at hl 0 rfl) ?_
        refine lv_if_eq (tgt := 200) hx hb d_Wrt_fillPage_194 (by decide) (fun c7 => ?_) (fun c7 => ?_)
        · have hw := hw.1 c7
          exact t_Wrt_fillPage_200 hx hb hml hown hT hK hN hA hRc hRs hRf hRl hNN hE hret hrec48 o l1 l2 l3 l4 l5 l6 l7 l8 l9 l10 s0 x H locs ls fo hw hW hS (lv_sub hl [1, 2, 3, 4, 5, 6, 7, 8, 9, 10, 11, 0] rfl)
        · have hw := hw.2 c7
          exact t_Wrt_fillPage_197 hx hb hml hown hT hK hN hA hRc hRs hRf hRl hNN hE hret  o l1 l2 l3 l4 l5 l6 l7 l8 l9 l10 s0 x H locs ls fo hw hW hS (lv_sub hl [1, 2, 3, 4, 5, 6, 7, 8, 9, 10, 11, 0] rfl)
set_option maxRecDepth 100000 in
set_option maxHeartbeats 4000000 in
set_option maxRecDepth 100000 in
theorem t_Wrt_fillPage_167 {p : Program} {l : Launch} {e : Env} {R : Room} {s : State} {m : MethodId} {args : Array Value} {below : List Frame} {meth : Method} {c : Code} {cells slots : Nat} {Q : State → Prop} {dC : Nat → ClassId} {dI : Nat → Nat → Nat} {cI cB cJ cZ : ClassId} {A : Nat → Prop} {ad : Nat → Nat} {NN : Nat} {E : Heap} {tM tC : Nat} {kK kV : Nat → Nat} {post : Int32 → St → Prop} {rec48 : Nat → Int32 → Int32 → Int32 → Int32 → Int32 → Int32 → Int32 → St → Prop} (hx : p.tables.exec = Jvm.exec) (hb : c.code = b_Wrt_fillPage) (hml : c.maxLocals = 12) (hown : s.vm.findClass R_Wrt = some m.cls) (hT : ∀ w ∈ TG, w.before args s = true) (hK : va_K (dC, dI) CL (TY cI cB cJ cZ) s) (hN : NW s) (hA : ∀ q : Nat, s.heap.size ≤ q → A q) (hRc : cells ≤ R.cells) (hRs : slots ≤ R.slots) (hRf : 1 ≤ R.frames) (hRl : 25 ≤ R.locals) (hNN : 152 ≤ NN) (hE : CE E tM tC kK kV A s) (hret : ∀ (r : Int32) (x : St) (H : Heap) (locs : List Loc) (pc : Nat) (ls : Array Slot), decode b_Wrt_fillPage pc = .ok (.ireturn, 1) → post r x → Wd dC dI cI cB cJ cZ ad stC kcC NN A x H → va_S A s.heap H locs → W p l e R s m args below meth c H locs cells slots Q (F0 m pc ls [.int r])) (hrec48 : ∀ (o : Nat) (l1 : Int32) (l2 : Int32) (l3 : Int32) (l4 : Int32) (l5 : Int32) (l6 : Int32) (l7 : Int32) (x : St) (H : Heap) (locs : List Loc) (ls : Array Slot), (o < NN ∧ kcC o = 5) → rec48 o l1 l2 l3 l4 l5 l6 l7 x → Wd dC dI cI cB cJ cZ ad stC kcC NN A x H → va_S A s.heap H locs → lv_has ls 12 [(0, .ref (ad o)), (1, .int l1), (2, .int l2), (3, .int l3), (4, .int l4), (5, .int l5), (6, .int l6), (7, .int l7)] → W p l e R s m args below meth c H locs cells slots Q (F0 m 48 ls [])) : ∀ (o : Nat) (l1 : Int32) (l2 : Int32) (l3 : Int32) (l4 : Int32) (l5 : Int32) (l6 : Int32) (l7 : Int32) (l8 : Int32) (l9 : Int32) (l10 : Int32) (x : St) (H : Heap) (locs : List Loc) (ls : Array Slot), (o < NN ∧ kcC o = 5) → j_Wrt_fillPage_167 post rec48 o l1 l2 l3 l4 l5 l6 l7 l8 l9 l10 x → Wd dC dI cI cB cJ cZ ad stC kcC NN A x H → va_S A s.heap H locs → lv_has ls 12 [(0, .ref (ad o)), (1, .int l1), (2, .int l2), (3, .int l3), (4, .int l4), (5, .int l5), (6, .int l6), (7, .int l7), (8, .int l8), (9, .int l9), (10, .int l10)] → W p l e R s m args below meth c H locs cells slots Q (F0 m 167 ls []) := by
  intro o l1 l2 l3 l4 l5 l6 l7 l8 l9 l10 x H locs ls fo hw hW hS hl
  unfold j_Wrt_fillPage_167 at hw
  refine lv_iconst (v := 1) hx hb d_Wrt_fillPage_167 (by decide) ?_
  refine lv_goto (tgt := 172) hx hb d_Wrt_fillPage_168 (by decide) ?_
  exact t_Wrt_fillPage_172 hx hb hml hown hT hK hN hA hRc hRs hRf hRl hNN hE hret hrec48 o l1 l2 l3 l4 l5 l6 l7 l8 l9 l10 1 x H locs ls fo hw hW hS (lv_sub hl [0, 1, 2, 3, 4, 5, 6, 7, 8, 9, 10] rfl)
set_option maxRecDepth 100000 in
set_option maxHeartbeats 4000000 in
set_option maxRecDepth 100000 in
theorem t_Wrt_fillPage_145 {p : Program} {l : Launch} {e : Env} {R : Room} {s : State} {m : MethodId} {args : Array Value} {below : List Frame} {meth : Method} {c : Code} {cells slots : Nat} {Q : State → Prop} {dC : Nat → ClassId} {dI : Nat → Nat → Nat} {cI cB cJ cZ : ClassId} {A : Nat → Prop} {ad : Nat → Nat} {NN : Nat} {E : Heap} {tM tC : Nat} {kK kV : Nat → Nat} {post : Int32 → St → Prop} {rec48 : Nat → Int32 → Int32 → Int32 → Int32 → Int32 → Int32 → Int32 → St → Prop} (hx : p.tables.exec = Jvm.exec) (hb : c.code = b_Wrt_fillPage) (hml : c.maxLocals = 12) (hown : s.vm.findClass R_Wrt = some m.cls) (hT : ∀ w ∈ TG, w.before args s = true) (hK : va_K (dC, dI) CL (TY cI cB cJ cZ) s) (hN : NW s) (hA : ∀ q : Nat, s.heap.size ≤ q → A q) (hRc : cells ≤ R.cells) (hRs : slots ≤ R.slots) (hRf : 1 ≤ R.frames) (hRl : 25 ≤ R.locals) (hNN : 152 ≤ NN) (hE : CE E tM tC kK kV A s) (hret : ∀ (r : Int32) (x : St) (H : Heap) (locs : List Loc) (pc : Nat) (ls : Array Slot), decode b_Wrt_fillPage pc = .ok (.ireturn, 1) → post r x → Wd dC dI cI cB cJ cZ ad stC kcC NN A x H → va_S A s.heap H locs → W p l e R s m args below meth c H locs cells slots Q (F0 m pc ls [.int r])) (hrec48 : ∀ (o : Nat) (l1 : Int32) (l2 : Int32) (l3 : Int32) (l4 : Int32) (l5 : Int32) (l6 : Int32) (l7 : Int32) (x : St) (H : Heap) (locs : List Loc) (ls : Array Slot), (o < NN ∧ kcC o = 5) → rec48 o l1 l2 l3 l4 l5 l6 l7 x → Wd dC dI cI cB cJ cZ ad stC kcC NN A x H → va_S A s.heap H locs → lv_has ls 12 [(0, .ref (ad o)), (1, .int l1), (2, .int l2), (3, .int l3), (4, .int l4), (5, .int l5), (6, .int l6), (7, .int l7)] → W p l e R s m args below meth c H locs cells slots Q (F0 m 48 ls [])) : ∀ (o : Nat) (l1 : Int32) (l2 : Int32) (l3 : Int32) (l4 : Int32) (l5 : Int32) (l6 : Int32) (l7 : Int32) (l8 : Int32) (l9 : Int32) (l10 : Int32) (x : St) (H : Heap) (locs : List Loc) (ls : Array Slot), (o < NN ∧ kcC o = 5) → j_Wrt_fillPage_145 post rec48 o l1 l2 l3 l4 l5 l6 l7 l8 l9 l10 x → Wd dC dI cI cB cJ cZ ad stC kcC NN A x H → va_S A s.heap H locs → lv_has ls 12 [(0, .ref (ad o)), (1, .int l1), (2, .int l2), (3, .int l3), (4, .int l4), (5, .int l5), (6, .int l6), (7, .int l7), (8, .int l8), (9, .int l9), (10, .int l10)] → W p l e R s m args below meth c H locs cells slots Q (F0 m 145 ls []) := by
  intro o l1 l2 l3 l4 l5 l6 l7 l8 l9 l10 x H locs ls fo hw hW hS hl
  unfold j_Wrt_fillPage_145 at hw
  refine lv_aload_n hx hb d_Wrt_fillPage_145 rfl (lv_at hl 0 rfl) ?_
  refine w_geti (k := 11) (t := 5) (C := R_Wrt) (T := F_Wrt) (N := 20) hx hb hT hown hK hW fo.1 fo.2 (by decide) in_Wrt rfl rfl (by decide) rfl fr_Wrt_11 w_2_62 d_Wrt_fillPage_146 ?_
  refine lv_iload hx hb d_Wrt_fillPage_149 (lv_at hl 8 rfl) ?_
  refine lv_iadd hx hb d_Wrt_fillPage_151 ?_
  refine lv_iload_n hx hb d_Wrt_fillPage_152 rfl (lv_at hl 3 rfl) ?_
  refine lv_icmp_gt (tgt := 167) hx hb d_Wrt_fillPage_153 (by decide) (fun c8 => ?_) (fun c8 => ?_)
  · have hw := hw.1 c8
    exact t_Wrt_fillPage_167 hx hb hml hown hT hK hN hA hRc hRs hRf hRl hNN hE hret hrec48 o l1 l2 l3 l4 l5 l6 l7 l8 l9 l10 x H locs ls fo hw hW hS (lv_sub hl [0, 1, 2, 3, 4, 5, 6, 7, 8, 9, 10] rfl)
  · have hw := hw.2 c8
    refine lv_iload hx hb d_Wrt_fillPage_156 (lv_at hl 6 rfl) ?_
    refine lv_iload hx hb d_Wrt_fillPage_158 (lv_at hl 9 rfl) ?_
    refine lv_iadd hx hb d_Wrt_fillPage_160 ?_
    refine lv_sipush (v := 20000) hx hb d_Wrt_fillPage_161 (by decide) ?_
    refine lv_icmp_le (tgt := 171) hx hb d_Wrt_fillPage_164 (by decide) (fun c9 => ?_) (fun c9 => ?_)
    · have hw := hw.1 c9
      refine lv_iconst (v := 0) hx hb d_Wrt_fillPage_171 (by decide) ?_
      exact t_Wrt_fillPage_172 hx hb hml hown hT hK hN hA hRc hRs hRf hRl hNN hE hret hrec48 o l1 l2 l3 l4 l5 l6 l7 l8 l9 l10 0 x H locs ls fo hw hW hS (lv_sub hl [0, 1, 2, 3, 4, 5, 6, 7, 8, 9, 10] rfl)
    · have hw := hw.2 c9
      exact t_Wrt_fillPage_167 hx hb hml hown hT hK hN hA hRc hRs hRf hRl hNN hE hret hrec48 o l1 l2 l3 l4 l5 l6 l7 l8 l9 l10 x H locs ls fo hw hW hS (lv_sub hl [0, 1, 2, 3, 4, 5, 6, 7, 8, 9, 10] rfl)
set_option maxRecDepth 100000 in
set_option maxHeartbeats 4000000 in
set_option maxRecDepth 100000 in
theorem t_Wrt_fillPage_124 {p : Program} {l : Launch} {e : Env} {R : Room} {s : State} {m : MethodId} {args : Array Value} {below : List Frame} {meth : Method} {c : Code} {cells slots : Nat} {Q : State → Prop} {dC : Nat → ClassId} {dI : Nat → Nat → Nat} {cI cB cJ cZ : ClassId} {A : Nat → Prop} {ad : Nat → Nat} {NN : Nat} {E : Heap} {tM tC : Nat} {kK kV : Nat → Nat} {post : Int32 → St → Prop} {rec48 : Nat → Int32 → Int32 → Int32 → Int32 → Int32 → Int32 → Int32 → St → Prop} {rec68 : Nat → Int32 → Int32 → Int32 → Int32 → Int32 → Int32 → Int32 → Int32 → Int32 → Int32 → St → Prop} (hx : p.tables.exec = Jvm.exec) (hb : c.code = b_Wrt_fillPage) (hml : c.maxLocals = 12) (hown : s.vm.findClass R_Wrt = some m.cls) (hT : ∀ w ∈ TG, w.before args s = true) (hK : va_K (dC, dI) CL (TY cI cB cJ cZ) s) (hN : NW s) (hA : ∀ q : Nat, s.heap.size ≤ q → A q) (hRc : cells ≤ R.cells) (hRs : slots ≤ R.slots) (hRf : 1 ≤ R.frames) (hRl : 25 ≤ R.locals) (hNN : 152 ≤ NN) (hE : CE E tM tC kK kV A s) (hret : ∀ (r : Int32) (x : St) (H : Heap) (locs : List Loc) (pc : Nat) (ls : Array Slot), decode b_Wrt_fillPage pc = .ok (.ireturn, 1) → post r x → Wd dC dI cI cB cJ cZ ad stC kcC NN A x H → va_S A s.heap H locs → W p l e R s m args below meth c H locs cells slots Q (F0 m pc ls [.int r])) (hrec48 : ∀ (o : Nat) (l1 : Int32) (l2 : Int32) (l3 : Int32) (l4 : Int32) (l5 : Int32) (l6 : Int32) (l7 : Int32) (x : St) (H : Heap) (locs : List Loc) (ls : Array Slot), (o < NN ∧ kcC o = 5) → rec48 o l1 l2 l3 l4 l5 l6 l7 x → Wd dC dI cI cB cJ cZ ad stC kcC NN A x H → va_S A s.heap H locs → lv_has ls 12 [(0, .ref (ad o)), (1, .int l1), (2, .int l2), (3, .int l3), (4, .int l4), (5, .int l5), (6, .int l6), (7, .int l7)] → W p l e R s m args below meth c H locs cells slots Q (F0 m 48 ls [])) (hrec68 : ∀ (o : Nat) (l1 : Int32) (l2 : Int32) (l3 : Int32) (l4 : Int32) (l5 : Int32) (l6 : Int32) (l7 : Int32) (l8 : Int32) (l9 : Int32) (l10 : Int32) (x : St) (H : Heap) (locs : List Loc) (ls : Array Slot), (o < NN ∧ kcC o = 5) → rec68 o l1 l2 l3 l4 l5 l6 l7 l8 l9 l10 x → Wd dC dI cI cB cJ cZ ad stC kcC NN A x H → va_S A s.heap H locs → lv_has ls 12 [(0, .ref (ad o)), (1, .int l1), (2, .int l2), (3, .int l3), (4, .int l4), (5, .int l5), (6, .int l6), (7, .int l7), (8, .int l8), (9, .int l9), (10, .int l10)] → W p l e R s m args below meth c H locs cells slots Q (F0 m 68 ls [])) : ∀ (o : Nat) (l1 : Int32) (l2 : Int32) (l3 : Int32) (l4 : Int32) (l5 : Int32) (l6 : Int32) (l7 : Int32) (l8 : Int32) (l9 : Int32) (l10 : Int32) (s0 : Int32) (s1 : Int32) (x : St) (H : Heap) (locs : List Loc) (ls : Array Slot), (o < NN ∧ kcC o = 5) → j_Wrt_fillPage_124 post rec48 rec68 o l1 l2 l3 l4 l5 l6 l7 l8 l9 l10 s0 s1 x → Wd dC dI cI cB cJ cZ ad stC kcC NN A x H → va_S A s.heap H locs → lv_has ls 12 [(0, .ref (ad o)), (1, .int l1), (2, .int l2), (3, .int l3), (4, .int l4), (5, .int l5), (6, .int l6), (7, .int l7), (8, .int l8), (9, .int l9), (10, .int l10)] → W p l e R s m args below meth c H locs cells slots Q (F0 m 124 ls [.int s0, .int s1]) := by
  intro o l1 l2 l3 l4 l5 l6 l7 l8 l9 l10 s0 s1 x H locs ls fo hw hW hS hl
  unfold j_Wrt_fillPage_124 at hw
  refine lv_iadd hx hb d_Wrt_fillPage_124 ?_
  refine lv_topi (fun v10 ev10 => ?_)
  have hw := hw v10 ev10
  refine lv_istore (lv' := [(9, .int v10), (0, .ref (ad o)), (1, .int l1), (2, .int l2), (3, .int l3), (4, .int l4), (5, .int l5), (6, .int l6), (7, .int l7), (8, .int l8), (10, .int l10)]) hx hb d_Wrt_fillPage_125 hl (by decide) rfl (fun ls hl => ?_)
  refine lv_aload_n hx hb d_Wrt_fillPage_127 rfl (lv_at hl 1 rfl) ?_
  obtain ⟨q11, hq11, hw⟩ := hw
  refine w_getr (q := q11) (k := 6) (t := 5) (C := R_Wrt) (T := F_Wrt) (N := 20) hx hb hT hown hK hW fo.1 fo.2 (by decide) in_Wrt rfl rfl (by decide) rfl fr_Wrt_6 w_2_57 d_Wrt_fillPage_128 hq11 (fun aq11 bq11 => ?_)
  have fq11 : q11 < NN ∧ kcC q11 = 4 := ⟨aq11, bq11⟩
  refine w_getf (q := (stC q11 9)) (k := 9) (t := 4) (C := R_Rec) (T := F_Rec) (N := 15) hx hb hT hown hK hW fq11.1 fq11.2 (by decide) in_Rec rfl rfl (by decide) rfl fr_Rec_9 w_2_2 d_Wrt_fillPage_131 rfl ?_
  refine lv_iload hx hb d_Wrt_fillPage_134 (lv_at hl 10 rfl) ?_
  obtain ⟨hi, hw⟩ := hw
  refine w_iald (o := (stC q11 9)) hx hb hK hW (st_ty hNN fq11.1 fq11.2 rfl).1 (st_ty hNN fq11.1 fq11.2 rfl).2 hi d_Wrt_fillPage_136 ?_
  refine lv_topi (fun v12 ev12 => ?_)
  have hw := hw v12 ev12
  refine lv_istore (lv' := [(10, .int v12), (9, .int v10), (0, .ref (ad o)), (1, .int l1), (2, .int l2), (3, .int l3), (4, .int l4), (5, .int l5), (6, .int l6), (7, .int l7), (8, .int l8)]) hx hb d_Wrt_fillPage_137 hl (by decide) rfl (fun ls hl => ?_)
  refine lv_iinc (v := (l8 + 1)) (lv' := [(8, .int (l8 + 1)), (10, .int v12), (9, .int v10), (0, .ref (ad o)), (1, .int l1), (2, .int l2), (3, .int l3), (4, .int l4), (5, .int l5), (6, .int l6), (7, .int l7)]) hx hb d_Wrt_fillPage_139 hl (k := 10) rfl rfl (by decide) rfl (fun ls hl => ?_)
  refine lv_goto (tgt := 68) hx hb d_Wrt_fillPage_142 (by decide) ?_
  exact hrec68 o l1 l2 l3 l4 l5 l6 l7 (l8 + 1) v10 v12 x H locs ls fo hw hW hS (lv_sub hl [3, 4, 5, 6, 7, 8, 9, 10, 0, 2, 1] rfl)
set_option maxRecDepth 100000 in
set_option maxHeartbeats 4000000 in
set_option maxRecDepth 100000 in
theorem t_Wrt_fillPage_100 {p : Program} {l : Launch} {e : Env} {R : Room} {s : State} {m : MethodId} {args : Array Value} {below : List Frame} {meth : Method} {c : Code} {cells slots : Nat} {Q : State → Prop} {dC : Nat → ClassId} {dI : Nat → Nat → Nat} {cI cB cJ cZ : ClassId} {A : Nat → Prop} {ad : Nat → Nat} {NN : Nat} {E : Heap} {tM tC : Nat} {kK kV : Nat → Nat} {post : Int32 → St → Prop} {rec48 : Nat → Int32 → Int32 → Int32 → Int32 → Int32 → Int32 → Int32 → St → Prop} {rec68 : Nat → Int32 → Int32 → Int32 → Int32 → Int32 → Int32 → Int32 → Int32 → Int32 → Int32 → St → Prop} (hx : p.tables.exec = Jvm.exec) (hb : c.code = b_Wrt_fillPage) (hml : c.maxLocals = 12) (hown : s.vm.findClass R_Wrt = some m.cls) (hT : ∀ w ∈ TG, w.before args s = true) (hK : va_K (dC, dI) CL (TY cI cB cJ cZ) s) (hN : NW s) (hA : ∀ q : Nat, s.heap.size ≤ q → A q) (hRc : cells ≤ R.cells) (hRs : slots ≤ R.slots) (hRf : 1 ≤ R.frames) (hRl : 25 ≤ R.locals) (hNN : 152 ≤ NN) (hE : CE E tM tC kK kV A s) (hret : ∀ (r : Int32) (x : St) (H : Heap) (locs : List Loc) (pc : Nat) (ls : Array Slot), decode b_Wrt_fillPage pc = .ok (.ireturn, 1) → post r x → Wd dC dI cI cB cJ cZ ad stC kcC NN A x H → va_S A s.heap H locs → W p l e R s m args below meth c H locs cells slots Q (F0 m pc ls [.int r])) (hrec48 : ∀ (o : Nat) (l1 : Int32) (l2 : Int32) (l3 : Int32) (l4 : Int32) (l5 : Int32) (l6 : Int32) (l7 : Int32) (x : St) (H : Heap) (locs : List Loc) (ls : Array Slot), (o < NN ∧ kcC o = 5) → rec48 o l1 l2 l3 l4 l5 l6 l7 x → Wd dC dI cI cB cJ cZ ad stC kcC NN A x H → va_S A s.heap H locs → lv_has ls 12 [(0, .ref (ad o)), (1, .int l1), (2, .int l2), (3, .int l3), (4, .int l4), (5, .int l5), (6, .int l6), (7, .int l7)] → W p l e R s m args below meth c H locs cells slots Q (F0 m 48 ls [])) (hrec68 : ∀ (o : Nat) (l1 : Int32) (l2 : Int32) (l3 : Int32) (l4 : Int32) (l5 : Int32) (l6 : Int32) (l7 : Int32) (l8 : Int32) (l9 : Int32) (l10 : Int32) (x : St) (H : Heap) (locs : List Loc) (ls : Array Slot), (o < NN ∧ kcC o = 5) → rec68 o l1 l2 l3 l4 l5 l6 l7 l8 l9 l10 x → Wd dC dI cI cB cJ cZ ad stC kcC NN A x H → va_S A s.heap H locs → lv_has ls 12 [(0, .ref (ad o)), (1, .int l1), (2, .int l2), (3, .int l3), (4, .int l4), (5, .int l5), (6, .int l6), (7, .int l7), (8, .int l8), (9, .int l9), (10, .int l10)] → W p l e R s m args below meth c H locs cells slots Q (F0 m 68 ls [])) : ∀ (o : Nat) (l1 : Int32) (l2 : Int32) (l3 : Int32) (l4 : Int32) (l5 : Int32) (l6 : Int32) (l7 : Int32) (l8 : Int32) (l9 : Int32) (l10 : Int32) (x : St) (H : Heap) (locs : List Loc) (ls : Array Slot), (o < NN ∧ kcC o = 5) → j_Wrt_fillPage_100 post rec48 rec68 o l1 l2 l3 l4 l5 l6 l7 l8 l9 l10 x → Wd dC dI cI cB cJ cZ ad stC kcC NN A x H → va_S A s.heap H locs → lv_has ls 12 [(0, .ref (ad o)), (1, .int l1), (2, .int l2), (3, .int l3), (4, .int l4), (5, .int l5), (6, .int l6), (7, .int l7), (8, .int l8), (9, .int l9), (10, .int l10)] → W p l e R s m args below meth c H locs cells slots Q (F0 m 100 ls []) := by
  intro o l1 l2 l3 l4 l5 l6 l7 l8 l9 l10 x H locs ls fo hw hW hS hl
  unfold j_Wrt_fillPage_100 at hw
  refine lv_iload hx hb d_Wrt_fillPage_100 (lv_at hl 9 rfl) ?_
  refine lv_iload hx hb d_Wrt_fillPage_102 (lv_at hl 5 rfl) ?_
  refine lv_if_eq (tgt := 123) hx hb d_Wrt_fillPage_104 (by decide) (fun c13 => ?_) (fun c13 => ?_)
  · have hw := hw.1 c13
    refine lv_iconst (v := 0) hx hb d_Wrt_fillPage_123 (by decide) ?_
    exact t_Wrt_fillPage_124 hx hb hml hown hT hK hN hA hRc hRs hRf hRl hNN hE hret hrec48 hrec68 o l1 l2 l3 l4 l5 l6 l7 l8 l9 l10 0 l9 x H locs ls fo hw hW hS (lv_sub hl [0, 1, 2, 3, 4, 5, 6, 7, 8, 9, 10] rfl)
  · have hw := hw.2 c13
    refine lv_aload_n hx hb d_Wrt_fillPage_107 rfl (lv_at hl 0 rfl) ?_
    obtain ⟨q14, hq14, hw⟩ := hw
    refine w_getr (q := q14) (k := 6) (t := 5) (C := R_Wrt) (T := F_Wrt) (N := 20) hx hb hT hown hK hW fo.1 fo.2 (by decide) in_Wrt rfl rfl (by decide) rfl fr_Wrt_6 w_2_57 d_Wrt_fillPage_108 hq14 (fun aq14 bq14 => ?_)
    have fq14 : q14 < NN ∧ kcC q14 = 4 := ⟨aq14, bq14⟩
    refine w_getf (q := (stC q14 7)) (k := 7) (t := 4) (C := R_Rec) (T := F_Rec) (N := 15) hx hb hT hown hK hW fq14.1 fq14.2 (by decide) in_Rec rfl rfl (by decide) rfl fr_Rec_7 w_1_239 d_Wrt_fillPage_111 rfl ?_
    refine lv_iload hx hb d_Wrt_fillPage_114 (lv_at hl 10 rfl) ?_
    obtain ⟨hi, hw⟩ := hw
    refine w_lald (o := (stC q14 7)) hx hb hK hW (st_ty hNN fq14.1 fq14.2 rfl).1 (st_ty hNN fq14.1 fq14.2 rfl).2 hi d_Wrt_fillPage_116 ?_
    have hF := hW.free hS hA
    refine va_calli (va_runSN (As := [.long (rL x (stC q14 7) l10)]) (rest := [.int l9]) ⟨hx, hb, hml, hown, hT⟩ (k_V_sizeOf l dC dI cI cB cJ cZ ad NN E tM tC kK kV hNN H.size (rL x (stC q14 7) l10) x  hw) ⟨va_cnB 1 hT (gwt_in w_5_161) rfl rfl rfl (hN _ wn_5_159 rfl) (hT _ w_1_1) (by decide +kernel) ⟨Nat.le_trans (Nat.le_of_ble_eq_true rfl) hRf, Nat.le_trans (Nat.le_of_ble_eq_true rfl) hRl⟩, hT _ w_5_160, trivial⟩ ⟨PVc.blind, PVc.at _ hW hK hN hE hS hF⟩ rfl rfl hl.1 rfl (lv_room (Nat.le_of_ble_eq_true rfl)) d_Wrt_fillPage_117 ⟨hRc, hRs⟩) hS (fun q _ h => hF q h) hF (fun r16 x15 t H locs ht hvm hw hB hz1 hk1 hS => ?_)
    have hW := Wd.back hB ht hF
    clear hB ht hF hz1 hk1 hvm
    refine lv_goto (tgt := 124) hx hb d_Wrt_fillPage_120 (by decide) ?_
    exact t_Wrt_fillPage_124 hx hb hml hown hT hK hN hA hRc hRs hRf hRl hNN hE hret hrec48 hrec68 o l1 l2 l3 l4 l5 l6 l7 l8 l9 l10 r16 l9 x15 H locs ls fo hw hW hS (lv_sub hl [0, 1, 2, 3, 4, 5, 6, 7, 8, 9, 10] rfl)
set_option maxRecDepth 100000 in
set_option maxHeartbeats 4000000 in
set_option maxRecDepth 100000 in
theorem t_Wrt_fillPage_68 {p : Program} {l : Launch} {e : Env} {R : Room} {s : State} {m : MethodId} {args : Array Value} {below : List Frame} {meth : Method} {c : Code} {cells slots : Nat} {Q : State → Prop} {dC : Nat → ClassId} {dI : Nat → Nat → Nat} {cI cB cJ cZ : ClassId} {A : Nat → Prop} {ad : Nat → Nat} {NN : Nat} {E : Heap} {tM tC : Nat} {kK kV : Nat → Nat} {post : Int32 → St → Prop} {rec48 : Nat → Int32 → Int32 → Int32 → Int32 → Int32 → Int32 → Int32 → St → Prop} {rec68 : Nat → Int32 → Int32 → Int32 → Int32 → Int32 → Int32 → Int32 → Int32 → Int32 → Int32 → St → Prop} (hx : p.tables.exec = Jvm.exec) (hb : c.code = b_Wrt_fillPage) (hml : c.maxLocals = 12) (hown : s.vm.findClass R_Wrt = some m.cls) (hT : ∀ w ∈ TG, w.before args s = true) (hK : va_K (dC, dI) CL (TY cI cB cJ cZ) s) (hN : NW s) (hA : ∀ q : Nat, s.heap.size ≤ q → A q) (hRc : cells ≤ R.cells) (hRs : slots ≤ R.slots) (hRf : 1 ≤ R.frames) (hRl : 25 ≤ R.locals) (hNN : 152 ≤ NN) (hE : CE E tM tC kK kV A s) (hret : ∀ (r : Int32) (x : St) (H : Heap) (locs : List Loc) (pc : Nat) (ls : Array Slot), decode b_Wrt_fillPage pc = .ok (.ireturn, 1) → post r x → Wd dC dI cI cB cJ cZ ad stC kcC NN A x H → va_S A s.heap H locs → W p l e R s m args below meth c H locs cells slots Q (F0 m pc ls [.int r])) (hrec48 : ∀ (o : Nat) (l1 : Int32) (l2 : Int32) (l3 : Int32) (l4 : Int32) (l5 : Int32) (l6 : Int32) (l7 : Int32) (x : St) (H : Heap) (locs : List Loc) (ls : Array Slot), (o < NN ∧ kcC o = 5) → rec48 o l1 l2 l3 l4 l5 l6 l7 x → Wd dC dI cI cB cJ cZ ad stC kcC NN A x H → va_S A s.heap H locs → lv_has ls 12 [(0, .ref (ad o)), (1, .int l1), (2, .int l2), (3, .int l3), (4, .int l4), (5, .int l5), (6, .int l6), (7, .int l7)] → W p l e R s m args below meth c H locs cells slots Q (F0 m 48 ls [])) (hrec68 : ∀ (o : Nat) (l1 : Int32) (l2 : Int32) (l3 : Int32) (l4 : Int32) (l5 : Int32) (l6 : Int32) (l7 : Int32) (l8 : Int32) (l9 : Int32) (l10 : Int32) (x : St) (H : Heap) (locs : List Loc) (ls : Array Slot), (o < NN ∧ kcC o = 5) → rec68 o l1 l2 l3 l4 l5 l6 l7 l8 l9 l10 x → Wd dC dI cI cB cJ cZ ad stC kcC NN A x H → va_S A s.heap H locs → lv_has ls 12 [(0, .ref (ad o)), (1, .int l1), (2, .int l2), (3, .int l3), (4, .int l4), (5, .int l5), (6, .int l6), (7, .int l7), (8, .int l8), (9, .int l9), (10, .int l10)] → W p l e R s m args below meth c H locs cells slots Q (F0 m 68 ls [])) : ∀ (o : Nat) (l1 : Int32) (l2 : Int32) (l3 : Int32) (l4 : Int32) (l5 : Int32) (l6 : Int32) (l7 : Int32) (l8 : Int32) (l9 : Int32) (l10 : Int32) (x : St) (H : Heap) (locs : List Loc) (ls : Array Slot), (o < NN ∧ kcC o = 5) → j_Wrt_fillPage_68 post rec48 rec68 o l1 l2 l3 l4 l5 l6 l7 l8 l9 l10 x → Wd dC dI cI cB cJ cZ ad stC kcC NN A x H → va_S A s.heap H locs → lv_has ls 12 [(0, .ref (ad o)), (1, .int l1), (2, .int l2), (3, .int l3), (4, .int l4), (5, .int l5), (6, .int l6), (7, .int l7), (8, .int l8), (9, .int l9), (10, .int l10)] → W p l e R s m args below meth c H locs cells slots Q (F0 m 68 ls []) := by
  intro o l1 l2 l3 l4 l5 l6 l7 l8 l9 l10 x H locs ls fo hw hW hS hl
  unfold j_Wrt_fillPage_68 at hw
  refine lv_iload hx hb d_Wrt_fillPage_68 (lv_at hl 10 rfl) ?_
  refine lv_iconst (v := (-1)) hx hb d_Wrt_fillPage_70 (by decide) ?_
  refine lv_icmp_eq (tgt := 145) hx hb d_Wrt_fillPage_71 (by decide) (fun c17 => ?_) (fun c17 => ?_)
  · have hw := hw.1 c17
    exact t_Wrt_fillPage_145 hx hb hml hown hT hK hN hA hRc hRs hRf hRl hNN hE hret hrec48 o l1 l2 l3 l4 l5 l6 l7 l8 l9 l10 x H locs ls fo hw hW hS (lv_sub hl [0, 1, 2, 3, 4, 5, 6, 7, 8, 9, 10] rfl)
  · have hw := hw.2 c17
    refine lv_iload hx hb d_Wrt_fillPage_74 (lv_at hl 8 rfl) ?_
    refine lv_sipush (v := 1000) hx hb d_Wrt_fillPage_76 (by decide) ?_
    refine lv_icmp_gt (tgt := 145) hx hb d_Wrt_fillPage_79 (by decide) (fun c18 => ?_) (fun c18 => ?_)
    · have hw := hw.1 c18
      exact t_Wrt_fillPage_145 hx hb hml hown hT hK hN hA hRc hRs hRf hRl hNN hE hret hrec48 o l1 l2 l3 l4 l5 l6 l7 l8 l9 l10 x H locs ls fo hw hW hS (lv_sub hl [0, 1, 2, 3, 4, 5, 6, 7, 8, 9, 10] rfl)
    · have hw := hw.2 c18
      refine lv_iload hx hb d_Wrt_fillPage_82 (lv_at hl 8 rfl) ?_
      refine lv_if_eq (tgt := 100) hx hb d_Wrt_fillPage_84 (by decide) (fun c19 => ?_) (fun c19 => ?_)
      · have hw := hw.1 c19
        exact t_Wrt_fillPage_100 hx hb hml hown hT hK hN hA hRc hRs hRf hRl hNN hE hret hrec48 hrec68 o l1 l2 l3 l4 l5 l6 l7 l8 l9 l10 x H locs ls fo hw hW hS (lv_sub hl [0, 1, 2, 3, 4, 5, 6, 7, 8, 9, 10] rfl)
      · have hw := hw.2 c19
        refine lv_aload_n hx hb d_Wrt_fillPage_87 rfl (lv_at hl 0 rfl) ?_
        obtain ⟨q20, hq20, hw⟩ := hw
        refine w_getr (q := q20) (k := 6) (t := 5) (C := R_Wrt) (T := F_Wrt) (N := 20) hx hb hT hown hK hW fo.1 fo.2 (by decide) in_Wrt rfl rfl (by decide) rfl fr_Wrt_6 w_2_57 d_Wrt_fillPage_88 hq20 (fun aq20 bq20 => ?_)
        have fq20 : q20 < NN ∧ kcC q20 = 4 := ⟨aq20, bq20⟩
        refine w_getf (q := (stC q20 5)) (k := 5) (t := 4) (C := R_Rec) (T := F_Rec) (N := 15) hx hb hT hown hK hW fq20.1 fq20.2 (by decide) in_Rec rfl rfl (by decide) rfl fr_Rec_5 w_1_235 d_Wrt_fillPage_91 rfl ?_
        refine lv_iload hx hb d_Wrt_fillPage_94 (lv_at hl 10 rfl) ?_
        obtain ⟨hi, hw⟩ := hw
        refine w_bald (o := (stC q20 5)) hx hb hK hW (st_ty hNN fq20.1 fq20.2 rfl).1 (st_ty hNN fq20.1 fq20.2 rfl).2 hi d_Wrt_fillPage_96 ?_
        refine lv_if_eq (tgt := 145) hx hb d_Wrt_fillPage_97 (by decide) (fun c21 => ?_) (fun c21 => ?_)
        · have hw := hw.1 c21
          exact t_Wrt_fillPage_145 hx hb hml hown hT hK hN hA hRc hRs hRf hRl hNN hE hret hrec48 o l1 l2 l3 l4 l5 l6 l7 l8 l9 l10 x H locs ls fo hw hW hS (lv_sub hl [0, 1, 2, 3, 4, 5, 6, 7, 8, 9, 10] rfl)
        · have hw := hw.2 c21
          exact t_Wrt_fillPage_100 hx hb hml hown hT hK hN hA hRc hRs hRf hRl hNN hE hret hrec48 hrec68 o l1 l2 l3 l4 l5 l6 l7 l8 l9 l10 x H locs ls fo hw hW hS (lv_sub hl [0, 1, 2, 3, 4, 5, 6, 7, 8, 9, 10] rfl)
set_option maxHeartbeats 4000000 in
set_option maxRecDepth 100000 in
theorem tl_Wrt_fillPage_68 {p : Program} {l : Launch} {e : Env} {R : Room} {s : State} {m : MethodId} {args : Array Value} {below : List Frame} {meth : Method} {c : Code} {cells slots : Nat} {Q : State → Prop} {dC : Nat → ClassId} {dI : Nat → Nat → Nat} {cI cB cJ cZ : ClassId} {A : Nat → Prop} {ad : Nat → Nat} {NN : Nat} {E : Heap} {tM tC : Nat} {kK kV : Nat → Nat} {post : Int32 → St → Prop} {rec48 : Nat → Int32 → Int32 → Int32 → Int32 → Int32 → Int32 → Int32 → St → Prop} (hx : p.tables.exec = Jvm.exec) (hb : c.code = b_Wrt_fillPage) (hml : c.maxLocals = 12) (hown : s.vm.findClass R_Wrt = some m.cls) (hT : ∀ w ∈ TG, w.before args s = true) (hK : va_K (dC, dI) CL (TY cI cB cJ cZ) s) (hN : NW s) (hA : ∀ q : Nat, s.heap.size ≤ q → A q) (hRc : cells ≤ R.cells) (hRs : slots ≤ R.slots) (hRf : 1 ≤ R.frames) (hRl : 25 ≤ R.locals) (hNN : 152 ≤ NN) (hE : CE E tM tC kK kV A s) (hret : ∀ (r : Int32) (x : St) (H : Heap) (locs : List Loc) (pc : Nat) (ls : Array Slot), decode b_Wrt_fillPage pc = .ok (.ireturn, 1) → post r x → Wd dC dI cI cB cJ cZ ad stC kcC NN A x H → va_S A s.heap H locs → W p l e R s m args below meth c H locs cells slots Q (F0 m pc ls [.int r])) (hrec48 : ∀ (o : Nat) (l1 : Int32) (l2 : Int32) (l3 : Int32) (l4 : Int32) (l5 : Int32) (l6 : Int32) (l7 : Int32) (x : St) (H : Heap) (locs : List Loc) (ls : Array Slot), (o < NN ∧ kcC o = 5) → rec48 o l1 l2 l3 l4 l5 l6 l7 x → Wd dC dI cI cB cJ cZ ad stC kcC NN A x H → va_S A s.heap H locs → lv_has ls 12 [(0, .ref (ad o)), (1, .int l1), (2, .int l2), (3, .int l3), (4, .int l4), (5, .int l5), (6, .int l6), (7, .int l7)] → W p l e R s m args below meth c H locs cells slots Q (F0 m 48 ls [])) : ∀ n : Nat, ∀ (o : Nat) (l1 : Int32) (l2 : Int32) (l3 : Int32) (l4 : Int32) (l5 : Int32) (l6 : Int32) (l7 : Int32) (l8 : Int32) (l9 : Int32) (l10 : Int32) (x : St) (H : Heap) (locs : List Loc) (ls : Array Slot), (o < NN ∧ kcC o = 5) → wl_Wrt_fillPage_68 post rec48 n o l1 l2 l3 l4 l5 l6 l7 l8 l9 l10 x → Wd dC dI cI cB cJ cZ ad stC kcC NN A x H → va_S A s.heap H locs → lv_has ls 12 [(0, .ref (ad o)), (1, .int l1), (2, .int l2), (3, .int l3), (4, .int l4), (5, .int l5), (6, .int l6), (7, .int l7), (8, .int l8), (9, .int l9), (10, .int l10)] → W p l e R s m args below meth c H locs cells slots Q (F0 m 68 ls []) := by
  intro n
  induction n with
  | zero => intro o l1 l2 l3 l4 l5 l6 l7 l8 l9 l10 x H locs ls fo hw; exact hw.elim
  | succ n ih => intro o l1 l2 l3 l4 l5 l6 l7 l8 l9 l10 x H locs ls fo hw hW hS hl; exact t_Wrt_fillPage_68 hx hb hml hown hT hK hN hA hRc hRs hRf hRl hNN hE hret hrec48 ih o l1 l2 l3 l4 l5 l6 l7 l8 l9 l10 x H locs ls fo hw hW hS hl
set_option maxRecDepth 100000 in
set_option maxHeartbeats 4000000 in
set_option maxRecDepth 100000 in
theorem t_Wrt_fillPage_48 {p : Program} {l : Launch} {e : Env} {R : Room} {s : State} {m : MethodId} {args : Array Value} {below : List Frame} {meth : Method} {c : Code} {cells slots : Nat} {Q : State → Prop} {dC : Nat → ClassId} {dI : Nat → Nat → Nat} {cI cB cJ cZ : ClassId} {A : Nat → Prop} {ad : Nat → Nat} {NN : Nat} {E : Heap} {tM tC : Nat} {kK kV : Nat → Nat} {post : Int32 → St → Prop} {rec48 : Nat → Int32 → Int32 → Int32 → Int32 → Int32 → Int32 → Int32 → St → Prop} (hx : p.tables.exec = Jvm.exec) (hb : c.code = b_Wrt_fillPage) (hml : c.maxLocals = 12) (hown : s.vm.findClass R_Wrt = some m.cls) (hT : ∀ w ∈ TG, w.before args s = true) (hK : va_K (dC, dI) CL (TY cI cB cJ cZ) s) (hN : NW s) (hA : ∀ q : Nat, s.heap.size ≤ q → A q) (hRc : cells ≤ R.cells) (hRs : slots ≤ R.slots) (hRf : 1 ≤ R.frames) (hRl : 25 ≤ R.locals) (hNN : 152 ≤ NN) (hE : CE E tM tC kK kV A s) (hret : ∀ (r : Int32) (x : St) (H : Heap) (locs : List Loc) (pc : Nat) (ls : Array Slot), decode b_Wrt_fillPage pc = .ok (.ireturn, 1) → post r x → Wd dC dI cI cB cJ cZ ad stC kcC NN A x H → va_S A s.heap H locs → W p l e R s m args below meth c H locs cells slots Q (F0 m pc ls [.int r])) (hrec48 : ∀ (o : Nat) (l1 : Int32) (l2 : Int32) (l3 : Int32) (l4 : Int32) (l5 : Int32) (l6 : Int32) (l7 : Int32) (x : St) (H : Heap) (locs : List Loc) (ls : Array Slot), (o < NN ∧ kcC o = 5) → rec48 o l1 l2 l3 l4 l5 l6 l7 x → Wd dC dI cI cB cJ cZ ad stC kcC NN A x H → va_S A s.heap H locs → lv_has ls 12 [(0, .ref (ad o)), (1, .int l1), (2, .int l2), (3, .int l3), (4, .int l4), (5, .int l5), (6, .int l6), (7, .int l7)] → W p l e R s m args below meth c H locs cells slots Q (F0 m 48 ls [])) : ∀ (o : Nat) (l1 : Int32) (l2 : Int32) (l3 : Int32) (l4 : Int32) (l5 : Int32) (l6 : Int32) (l7 : Int32) (x : St) (H : Heap) (locs : List Loc) (ls : Array Slot), (o < NN ∧ kcC o = 5) → j_Wrt_fillPage_48 post rec48 o l1 l2 l3 l4 l5 l6 l7 x → Wd dC dI cI cB cJ cZ ad stC kcC NN A x H → va_S A s.heap H locs → lv_has ls 12 [(0, .ref (ad o)), (1, .int l1), (2, .int l2), (3, .int l3), (4, .int l4), (5, .int l5), (6, .int l6), (7, .int l7)] → W p l e R s m args below meth c H locs cells slots Q (F0 m 48 ls []) := by
  intro o l1 l2 l3 l4 l5 l6 l7 x H locs ls fo hw hW hS hl
  unfold j_Wrt_fillPage_48 at hw
  refine lv_iload hx hb d_Wrt_fillPage_48 (lv_at hl 7 rfl) ?_
  refine lv_iload_n hx hb d_Wrt_fillPage_50 rfl (lv_at hl 2 rfl) ?_
  refine lv_icmp_ge (tgt := 230) hx hb d_Wrt_fillPage_51 (by decide) (fun c22 => ?_) (fun c22 => ?_)
  · have hw := hw.1 c22
    refine lv_iload hx hb d_Wrt_fillPage_230 (lv_at hl 7 rfl) ?_
    exact hret l7 x H locs 232 ls d_Wrt_fillPage_232 hw hW hS
  · have hw := hw.2 c22
    refine lv_iconst (v := 0) hx hb d_Wrt_fillPage_54 (by decide) ?_
    refine lv_istore (lv' := [(8, .int 0), (0, .ref (ad o)), (1, .int l1), (2, .int l2), (3, .int l3), (4, .int l4), (5, .int l5), (6, .int l6), (7, .int l7)]) hx hb d_Wrt_fillPage_55 hl (by decide) rfl (fun ls hl => ?_)
    refine lv_iconst (v := 0) hx hb d_Wrt_fillPage_57 (by decide) ?_
    refine lv_istore (lv' := [(9, .int 0), (8, .int 0), (0, .ref (ad o)), (1, .int l1), (2, .int l2), (3, .int l3), (4, .int l4), (5, .int l5), (6, .int l6), (7, .int l7)]) hx hb d_Wrt_fillPage_58 hl (by decide) rfl (fun ls hl => ?_)
    refine lv_aload_n hx hb d_Wrt_fillPage_60 rfl (lv_at hl 2 rfl) ?_
    refine w_getf (q := (stC o 7)) (k := 7) (t := 5) (C := R_Wrt) (T := F_Wrt) (N := 20) hx hb hT hown hK hW fo.1 fo.2 (by decide) in_Wrt rfl rfl (by decide) rfl fr_Wrt_7 w_2_58 d_Wrt_fillPage_61 rfl ?_
    refine lv_iload_n hx hb d_Wrt_fillPage_64 rfl (lv_at hl 3 rfl) ?_
    obtain ⟨hi, hw⟩ := hw
    refine w_iald (o := (stC o 7)) hx hb hK hW (st_ty hNN fo.1 fo.2 rfl).1 (st_ty hNN fo.1 fo.2 rfl).2 hi d_Wrt_fillPage_65 ?_
    refine lv_topi (fun v23 ev23 => ?_)
    have hw := hw v23 ev23
    refine lv_istore (lv' := [(10, .int v23), (9, .int 0), (8, .int 0), (0, .ref (ad o)), (1, .int l1), (2, .int l2), (3, .int l3), (4, .int l4), (5, .int l5), (6, .int l6), (7, .int l7)]) hx hb d_Wrt_fillPage_66 hl (by decide) rfl (fun ls hl => ?_)
    obtain ⟨n, hw⟩ := hw
    exact tl_Wrt_fillPage_68 hx hb hml hown hT hK hN hA hRc hRs hRf hRl hNN hE hret hrec48 n o l1 l2 l3 l4 l5 l6 l7 0 0 v23 x H locs ls fo hw hW hS (lv_sub hl [3, 4, 5, 6, 7, 8, 9, 10, 2, 1, 0] rfl)
set_option maxHeartbeats 4000000 in
set_option maxRecDepth 100000 in
theorem tl_Wrt_fillPage_48 {p : Program} {l : Launch} {e : Env} {R : Room} {s : State} {m : MethodId} {args : Array Value} {below : List Frame} {meth : Method} {c : Code} {cells slots : Nat} {Q : State → Prop} {dC : Nat → ClassId} {dI : Nat → Nat → Nat} {cI cB cJ cZ : ClassId} {A : Nat → Prop} {ad : Nat → Nat} {NN : Nat} {E : Heap} {tM tC : Nat} {kK kV : Nat → Nat} {post : Int32 → St → Prop} (hx : p.tables.exec = Jvm.exec) (hb : c.code = b_Wrt_fillPage) (hml : c.maxLocals = 12) (hown : s.vm.findClass R_Wrt = some m.cls) (hT : ∀ w ∈ TG, w.before args s = true) (hK : va_K (dC, dI) CL (TY cI cB cJ cZ) s) (hN : NW s) (hA : ∀ q : Nat, s.heap.size ≤ q → A q) (hRc : cells ≤ R.cells) (hRs : slots ≤ R.slots) (hRf : 1 ≤ R.frames) (hRl : 25 ≤ R.locals) (hNN : 152 ≤ NN) (hE : CE E tM tC kK kV A s) (hret : ∀ (r : Int32) (x : St) (H : Heap) (locs : List Loc) (pc : Nat) (ls : Array Slot), decode b_Wrt_fillPage pc = .ok (.ireturn, 1) → post r x → Wd dC dI cI cB cJ cZ ad stC kcC NN A x H → va_S A s.heap H locs → W p l e R s m args below meth c H locs cells slots Q (F0 m pc ls [.int r]))  : ∀ n : Nat, ∀ (o : Nat) (l1 : Int32) (l2 : Int32) (l3 : Int32) (l4 : Int32) (l5 : Int32) (l6 : Int32) (l7 : Int32) (x : St) (H : Heap) (locs : List Loc) (ls : Array Slot), (o < NN ∧ kcC o = 5) → wl_Wrt_fillPage_48 post n o l1 l2 l3 l4 l5 l6 l7 x → Wd dC dI cI cB cJ cZ ad stC kcC NN A x H → va_S A s.heap H locs → lv_has ls 12 [(0, .ref (ad o)), (1, .int l1), (2, .int l2), (3, .int l3), (4, .int l4), (5, .int l5), (6, .int l6), (7, .int l7)] → W p l e R s m args below meth c H locs cells slots Q (F0 m 48 ls []) := by
  intro n
  induction n with
  | zero => intro o l1 l2 l3 l4 l5 l6 l7 x H locs ls fo hw; exact hw.elim
  | succ n ih => intro o l1 l2 l3 l4 l5 l6 l7 x H locs ls fo hw hW hS hl; exact t_Wrt_fillPage_48 hx hb hml hown hT hK hN hA hRc hRs hRf hRl hNN hE hret  ih o l1 l2 l3 l4 l5 l6 l7 x H locs ls fo hw hW hS hl
set_option maxRecDepth 100000 in
set_option maxHeartbeats 4000000 in
set_option maxRecDepth 100000 in
theorem t_Wrt_fillPage_30 {p : Program} {l : Launch} {e : Env} {R : Room} {s : State} {m : MethodId} {args : Array Value} {below : List Frame} {meth : Method} {c : Code} {cells slots : Nat} {Q : State → Prop} {dC : Nat → ClassId} {dI : Nat → Nat → Nat} {cI cB cJ cZ : ClassId} {A : Nat → Prop} {ad : Nat → Nat} {NN : Nat} {E : Heap} {tM tC : Nat} {kK kV : Nat → Nat} {post : Int32 → St → Prop} (hx : p.tables.exec = Jvm.exec) (hb : c.code = b_Wrt_fillPage) (hml : c.maxLocals = 12) (hown : s.vm.findClass R_Wrt = some m.cls) (hT : ∀ w ∈ TG, w.before args s = true) (hK : va_K (dC, dI) CL (TY cI cB cJ cZ) s) (hN : NW s) (hA : ∀ q : Nat, s.heap.size ≤ q → A q) (hRc : cells ≤ R.cells) (hRs : slots ≤ R.slots) (hRf : 1 ≤ R.frames) (hRl : 25 ≤ R.locals) (hNN : 152 ≤ NN) (hE : CE E tM tC kK kV A s) (hret : ∀ (r : Int32) (x : St) (H : Heap) (locs : List Loc) (pc : Nat) (ls : Array Slot), decode b_Wrt_fillPage pc = .ok (.ireturn, 1) → post r x → Wd dC dI cI cB cJ cZ ad stC kcC NN A x H → va_S A s.heap H locs → W p l e R s m args below meth c H locs cells slots Q (F0 m pc ls [.int r]))  : ∀ (o : Nat) (l1 : Int32) (l2 : Int32) (l3 : Int32) (l4 : Int32) (s0 : Int32) (x : St) (H : Heap) (locs : List Loc) (ls : Array Slot), (o < NN ∧ kcC o = 5) → j_Wrt_fillPage_30 post o l1 l2 l3 l4 s0 x → Wd dC dI cI cB cJ cZ ad stC kcC NN A x H → va_S A s.heap H locs → lv_has ls 12 [(0, .ref (ad o)), (1, .int l1), (2, .int l2), (3, .int l3), (4, .int l4)] → W p l e R s m args below meth c H locs cells slots Q (F0 m 30 ls [.int s0]) := by
  intro o l1 l2 l3 l4 s0 x H locs ls fo hw hW hS hl
  unfold j_Wrt_fillPage_30 at hw
  refine lv_istore (lv' := [(5, .int s0), (0, .ref (ad o)), (1, .int l1), (2, .int l2), (3, .int l3), (4, .int l4)]) hx hb d_Wrt_fillPage_30 hl (by decide) rfl (fun ls hl => ?_)
  refine lv_aload_n hx hb d_Wrt_fillPage_32 rfl (lv_at hl 1 rfl) ?_
  refine lv_iconst (v := 0) hx hb d_Wrt_fillPage_33 (by decide) ?_
  refine w_puti (ty := .int) (k := 11) (t := 5) (C := R_Wrt) (T := F_Wrt) (N := 20) hx hb hT hown hK hW hS fo.1 fo.2 (by decide) in_Wrt t_Wrt t_Wrt_ok n_Wrt rfl rfl (by decide) rfl fr_Wrt_11 w_2_62 (by decide +kernel) rfl rfl d_Wrt_fillPage_34 (fun H locs hW hS => ?_)
  obtain ⟨x24, ex24⟩ : ∃ y : St, y = setI x o 11 0 := ⟨_, rfl⟩
  rw [← ex24] at hW
  have hw := hw x24 ex24
  refine lv_aload_n hx hb d_Wrt_fillPage_37 rfl (lv_at hl 1 rfl) ?_
  refine lv_iconst (v := 0) hx hb d_Wrt_fillPage_38 (by decide) ?_
  refine w_puti (ty := .int) (k := 12) (t := 5) (C := R_Wrt) (T := F_Wrt) (N := 20) hx hb hT hown hK hW hS fo.1 fo.2 (by decide) in_Wrt t_Wrt t_Wrt_ok n_Wrt rfl rfl (by decide) rfl fr_Wrt_12 w_2_63 (by decide +kernel) rfl rfl d_Wrt_fillPage_39 (fun H locs hW hS => ?_)
  obtain ⟨x25, ex25⟩ : ∃ y : St, y = setI x24 o 12 0 := ⟨_, rfl⟩
  rw [← ex25] at hW
  have hw := hw x25 ex25
  refine lv_iconst (v := 0) hx hb d_Wrt_fillPage_42 (by decide) ?_
  refine lv_istore (lv' := [(6, .int 0), (5, .int s0), (0, .ref (ad o)), (1, .int l1), (2, .int l2), (3, .int l3), (4, .int l4)]) hx hb d_Wrt_fillPage_43 hl (by decide) rfl (fun ls hl => ?_)
  refine lv_iconst (v := 0) hx hb d_Wrt_fillPage_45 (by decide) ?_
  refine lv_istore (lv' := [(7, .int 0), (6, .int 0), (5, .int s0), (0, .ref (ad o)), (1, .int l1), (2, .int l2), (3, .int l3), (4, .int l4)]) hx hb d_Wrt_fillPage_46 hl (by decide) rfl (fun ls hl => ?_)
  obtain ⟨n, hw⟩ := hw
  exact tl_Wrt_fillPage_48 hx hb hml hown hT hK hN hA hRc hRs hRf hRl hNN hE hret  n o l1 l2 l3 l4 s0 0 0 x25 H locs ls fo hw hW hS (lv_sub hl [3, 4, 5, 6, 7, 2, 1, 0] rfl)
set_option maxRecDepth 100000 in
set_option maxHeartbeats 4000000 in
set_option maxRecDepth 100000 in
theorem t_Wrt_fillPage_e {p : Program} {l : Launch} {e : Env} {R : Room} {s : State} {m : MethodId} {args : Array Value} {below : List Frame} {meth : Method} {c : Code} {cells slots : Nat} {Q : State → Prop} {dC : Nat → ClassId} {dI : Nat → Nat → Nat} {cI cB cJ cZ : ClassId} {A : Nat → Prop} {ad : Nat → Nat} {NN : Nat} {E : Heap} {tM tC : Nat} {kK kV : Nat → Nat} {post : Int32 → St → Prop} (hx : p.tables.exec = Jvm.exec) (hb : c.code = b_Wrt_fillPage) (hml : c.maxLocals = 12) (hown : s.vm.findClass R_Wrt = some m.cls) (hT : ∀ w ∈ TG, w.before args s = true) (hK : va_K (dC, dI) CL (TY cI cB cJ cZ) s) (hN : NW s) (hA : ∀ q : Nat, s.heap.size ≤ q → A q) (hRc : cells ≤ R.cells) (hRs : slots ≤ R.slots) (hRf : 1 ≤ R.frames) (hRl : 25 ≤ R.locals) (hNN : 152 ≤ NN) (hE : CE E tM tC kK kV A s) (hret : ∀ (r : Int32) (x : St) (H : Heap) (locs : List Loc) (pc : Nat) (ls : Array Slot), decode b_Wrt_fillPage pc = .ok (.ireturn, 1) → post r x → Wd dC dI cI cB cJ cZ ad stC kcC NN A x H → va_S A s.heap H locs → W p l e R s m args below meth c H locs cells slots Q (F0 m pc ls [.int r])) : ∀ (o : Nat) (l1 : Int32) (l2 : Int32) (l3 : Int32) (x : St) (H : Heap) (locs : List Loc) (ls : Array Slot), (o < NN ∧ kcC o = 5) → wp_Wrt_fillPage post o l1 l2 l3 x → Wd dC dI cI cB cJ cZ ad stC kcC NN A x H → va_S A s.heap H locs → lv_has ls 12 [(0, .ref (ad o)), (1, .int l1), (2, .int l2), (3, .int l3)] → W p l e R s m args below meth c H locs cells slots Q (F0 m 0 ls []) := by
  intro o l1 l2 l3 x H locs ls fo hw hW hS hl
  unfold wp_Wrt_fillPage at hw
  refine lv_aload_n hx hb d_Wrt_fillPage_0 rfl (lv_at hl 0 rfl) ?_
  obtain ⟨q26, hq26, hw⟩ := hw
  refine w_getr (q := q26) (k := 5) (t := 5) (C := R_Wrt) (T := F_Wrt) (N := 20) hx hb hT hown hK hW fo.1 fo.2 (by decide) in_Wrt rfl rfl (by decide) rfl fr_Wrt_5 w_2_56 d_Wrt_fillPage_1 hq26 (fun aq26 bq26 => ?_)
  have fq26 : q26 < NN ∧ kcC q26 = 3 := ⟨aq26, bq26⟩
  refine w_getf (q := (stC q26 10)) (k := 10) (t := 3) (C := R_Sch) (T := F_Sch) (N := 13) hx hb hT hown hK hW fq26.1 fq26.2 (by decide) in_Sch rfl rfl (by decide) rfl fr_Sch_10 w_1_182 d_Wrt_fillPage_4 rfl ?_
  refine lv_iload_n hx hb d_Wrt_fillPage_7 rfl (lv_at hl 1 rfl) ?_
  obtain ⟨hi, hw⟩ := hw
  refine w_iald (o := (stC q26 10)) hx hb hK hW (st_ty hNN fq26.1 fq26.2 rfl).1 (st_ty hNN fq26.1 fq26.2 rfl).2 hi d_Wrt_fillPage_8 ?_
  refine lv_topi (fun v27 ev27 => ?_)
  have hw := hw v27 ev27
  refine lv_istore (lv' := [(4, .int v27), (0, .ref (ad o)), (1, .int l1), (2, .int l2), (3, .int l3)]) hx hb d_Wrt_fillPage_9 hl (by decide) rfl (fun ls hl => ?_)
  refine lv_aload_n hx hb d_Wrt_fillPage_11 rfl (lv_at hl 1 rfl) ?_
  obtain ⟨q28, hq28, hw⟩ := hw
  refine w_getr (q := q28) (k := 5) (t := 5) (C := R_Wrt) (T := F_Wrt) (N := 20) hx hb hT hown hK hW fo.1 fo.2 (by decide) in_Wrt rfl rfl (by decide) rfl fr_Wrt_5 w_2_56 d_Wrt_fillPage_12 hq28 (fun aq28 bq28 => ?_)
  have fq28 : q28 < NN ∧ kcC q28 = 3 := ⟨aq28, bq28⟩
  refine w_getf (q := (stC q28 3)) (k := 3) (t := 3) (C := R_Sch) (T := F_Sch) (N := 13) hx hb hT hown hK hW fq28.1 fq28.2 (by decide) in_Sch rfl rfl (by decide) rfl fr_Sch_3 w_1_146 d_Wrt_fillPage_15 rfl ?_
  refine lv_iload hx hb d_Wrt_fillPage_18 (lv_at hl 0 rfl) ?_
  obtain ⟨hi, hw⟩ := hw
  refine w_iald (o := (stC q28 3)) hx hb hK hW (st_ty hNN fq28.1 fq28.2 rfl).1 (st_ty hNN fq28.1 fq28.2 rfl).2 hi d_Wrt_fillPage_20 ?_
  refine lv_iconst (v := 3) hx hb d_Wrt_fillPage_21 (by decide) ?_
  refine lv_icmp_ne (tgt := 29) hx hb d_Wrt_fillPage_22 (by decide) (fun c29 => ?_) (fun c29 => ?_)
  · have hw := hw.1 c29
    refine lv_iconst (v := 0) hx hb d_Wrt_fillPage_29 (by decide) ?_
    exact t_Wrt_fillPage_30 hx hb hml hown hT hK hN hA hRc hRs hRf hRl hNN hE hret  o l1 l2 l3 v27 0 x H locs ls fo hw hW hS (lv_sub hl [1, 2, 3, 4, 0] rfl)
  · have hw := hw.2 c29
    refine lv_iconst (v := 1) hx hb d_Wrt_fillPage_25 (by decide) ?_
    refine lv_goto (tgt := 30) hx hb d_Wrt_fillPage_26 (by decide) ?_
    exact t_Wrt_fillPage_30 hx hb hml hown hT hK hN hA hRc hRs hRf hRl hNN hE hret  o l1 l2 l3 v27 1 x H locs ls fo hw hW hS (lv_sub hl [1, 2, 3, 4, 0] rfl)
set_option maxHeartbeats 4000000 in
set_option maxRecDepth 100000 in
theorem k_Wrt_fillPage (l : Launch) (dC : Nat → ClassId) (dI : Nat → Nat → Nat) (cI cB cJ cZ : ClassId) (ad : Nat → Nat) (NN : Nat) (E : Heap) (tM tC : Nat) (kK kV : Nat → Nat) (hNN : 152 ≤ NN) (sz : Nat) (o : Nat) (l1 : Int32) (l2 : Int32) (l3 : Int32) (x : St) (fo : o < NN ∧ kcC o = 5) {post : Int32 → St → Prop} (hw : wp_Wrt_fillPage post o l1 l2 l3 x) : Met l y_Wrt_fillPage (wsOf y_Wrt_fillPage b_Wrt_fillPage 12 (some (.int))) ({ frames := 1, cells := 0, slots := 0, locals := 25 }) (va_Pc [.ref (ad o), .int l1, .int l2, .int l3] (PVc dC dI cI cB cJ cZ ad stC kcC NN E tM tC kK kV sz x)) (va_Qi (fun (r : Int32) (y : St) => post r y) (fun y t => Wd dC dI cI cB cJ cZ ad stC kcC NN (va_A (pic ad stC kcC NN cI cB cJ cZ x) sz) y t.heap) (va_A (pic ad stC kcC NN cI cB cJ cZ x) sz)) 0 0 (va_A (pic ad stC kcC NN cI cB cJ cZ x) sz) := by
  refine Met.ofW (cc := b_Wrt_fillPage) (maxL := 12) (ret := some (.int)) (by decide) rfl ?_
  intro p e s m args below meth c s₁ B hml hv
  obtain ⟨rfl, ⟨hsz, hW0, hK, hN⟩, hE⟩ := hv
  have hx := B.exec
  have hb := B.bytes
  have hr := B.returns
  have hts := atoms_spec B.pre
  have hT : ∀ w ∈ TG, w.before _ s = true := fun w h => hts w (List.mem_cons_of_mem _ h)
  have hown : s.vm.findClass R_Wrt = some m.cls := findClass_of_methodNamed B.named
  have hlocks := B.notSynchronized
  subst hsz
  have hW : Wd dC dI cI cB cJ cZ ad stC kcC NN (va_A (pic ad stC kcC NN cI cB cJ cZ x) s.heap.size) x s.heap := ⟨hW0.1, hW0.2.1.self (sz := s.heap.size), hW0.2.2⟩
  generalize hAe : va_A (pic ad stC kcC NN cI cB cJ cZ x) s.heap.size = A at hW hE ⊢
  have hA : ∀ q : Nat, s.heap.size ≤ q → A q := fun q h => by rw [← hAe]; exact Or.inr h
  have hS : va_S A s.heap s.heap [] := va_S.rf
  have hl := lv_entry ([.ref (ad o), .int l1, .int l2, .int l3]) (n := 12) (Nat.le_of_ble_eq_true rfl)
  rw [lg_entry_eq]
  generalize (lg_sl ([.ref (ad o), .int l1, .int l2, .int l3]) ++ List.replicate (12 - (lg_sl ([.ref (ad o), .int l1, .int l2, .int l3])).length) Slot.unset).toArray = ls at hl ⊢
  have hl : lv_has ls 12 [(0, .ref (ad o)), (1, .int l1), (2, .int l2), (3, .int l3)] := hl
  exact t_Wrt_fillPage_e hx hb hml hown hT hK hN hA (Nat.le_refl 0) (Nat.le_refl 0) (Nat.le_refl 1) (Nat.le_refl 25) hNN hE (fun r x H locs pc ls hd hp hW hS => W.iret (v := r) hx hb hr (fun t ht hM => ⟨⟨r, x, rfl, hp, Wd.back hW ht.symm (fun _ z => z)⟩, hS.F ht⟩) hS.2.2 hd hlocks)  o l1 l2 l3 x _ _ ls fo hw hW hS hl
end
