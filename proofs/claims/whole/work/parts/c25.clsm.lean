theorem fr_Qry_5 : F_Qry 5 = (R_Qry, "bys", "I", false) := rfl
theorem fr_Qry_6 : F_Qry 6 = (R_Qry, "by", "[I", true) := rfl
theorem fr_V_11 : F_V 11 = (R_V, "spareQuery", "LStripedVault$Query;", false) := rfl
theorem w_1_90 : (Jvm.Cond.fieldLink "StripedVault$Query" (119 : Nat) "StripedVault$Scan" "place" "I") ∈ TG := tw_1 90 (by decide +kernel) (by decide +kernel)
theorem w_3_74 : (Jvm.Cond.fieldLink "StripedVault$Query" (52 : Nat) "StripedVault$Query" "ready" "Z") ∈ TG := tw_3 74 (by decide +kernel) (by decide +kernel)
theorem w_3_83 : (Jvm.Cond.fieldLink "StripedVault$Query" (60 : Nat) "StripedVault$Query" "bys" "I") ∈ TG := tw_3 83 (by decide +kernel) (by decide +kernel)
theorem w_3_85 : (Jvm.Cond.fieldLink "StripedVault$Query" (21 : Nat) "StripedVault$Query" "by" "[I") ∈ TG := tw_3 85 (by decide +kernel) (by decide +kernel)
theorem w_4_6 : (Jvm.Cond.fieldLink "StripedVault" (79 : Nat) "StripedVault" "spareQuery" "LStripedVault$Query;") ∈ TG := tw_4 6 (by decide +kernel) (by decide +kernel)
theorem w_7_137 : (Jvm.Cond.methodLink "StripedVault" (197 : Nat) ({ cls := "StripedVault$Query", name := "readText", desc := "(LStripedVault$Scan;LStripedVault$Schema;)I" } : Jvm.MethodName)) ∈ TG := tw_7 137 (by decide +kernel) (by decide +kernel)
theorem w_7_138 : (Jvm.Cond.instanceMethod ({ cls := "StripedVault$Query", name := "readText", desc := "(LStripedVault$Scan;LStripedVault$Schema;)I" } : Jvm.MethodName)) ∈ TG := tw_7 138 (by decide +kernel) (by decide +kernel)
theorem w_7_139 : (Jvm.Cond.selects "StripedVault$Query" ({ cls := "StripedVault$Query", name := "readText", desc := "(LStripedVault$Scan;LStripedVault$Schema;)I" } : Jvm.MethodName) ({ cls := "StripedVault$Query", name := "readText", desc := "(LStripedVault$Scan;LStripedVault$Schema;)I" } : Jvm.MethodName)) ∈ TG := tw_7 139 (by decide +kernel) (by decide +kernel)
theorem w_7_140 : (Jvm.Cond.code ({ cls := "StripedVault$Query", name := "readText", desc := "(LStripedVault$Scan;LStripedVault$Schema;)I" } : Jvm.MethodName) prog_5_method_2_code (3 : Nat) (Option.some Jvm.ClassFile.FieldType.int)) ∈ TG := tw_7 140 (by decide +kernel) (by decide +kernel)
theorem w_7_143 : (Jvm.Cond.methodLink "StripedVault$Query" (83 : Nat) ({ cls := "StripedVault$Query", name := "readItems", desc := "()V" } : Jvm.MethodName)) ∈ TG := tw_7 143 (by decide +kernel) (by decide +kernel)
theorem w_7_145 : (Jvm.Cond.instanceMethod ({ cls := "StripedVault$Query", name := "readItems", desc := "()V" } : Jvm.MethodName)) ∈ TG := tw_7 145 (by decide +kernel) (by decide +kernel)
theorem w_7_146 : (Jvm.Cond.code ({ cls := "StripedVault$Query", name := "readItems", desc := "()V" } : Jvm.MethodName) prog_5_method_5_code (3 : Nat) (Option.none : Option Jvm.ClassFile.FieldType)) ∈ TG := tw_7 146 (by decide +kernel) (by decide +kernel)
theorem w_8_10 : (Jvm.Cond.instanceMethod ({ cls := "StripedVault$Query", name := "isBy", desc := "(I)Z" } : Jvm.MethodName)) ∈ TG := tw_8 10 (by decide +kernel) (by decide +kernel)
theorem w_8_11 : (Jvm.Cond.code ({ cls := "StripedVault$Query", name := "isBy", desc := "(I)Z" } : Jvm.MethodName) prog_5_method_4_code (3 : Nat) (Option.some Jvm.ClassFile.FieldType.boolean)) ∈ TG := tw_8 11 (by decide +kernel) (by decide +kernel)
theorem w_8_12 : (Jvm.Cond.methodLink "StripedVault$Query" (116 : Nat) ({ cls := "StripedVault$Query", name := "checkItems", desc := "()V" } : Jvm.MethodName)) ∈ TG := tw_8 12 (by decide +kernel) (by decide +kernel)
theorem w_8_14 : (Jvm.Cond.instanceMethod ({ cls := "StripedVault$Query", name := "checkItems", desc := "()V" } : Jvm.MethodName)) ∈ TG := tw_8 14 (by decide +kernel) (by decide +kernel)
theorem w_8_15 : (Jvm.Cond.code ({ cls := "StripedVault$Query", name := "checkItems", desc := "()V" } : Jvm.MethodName) prog_5_method_3_code (2 : Nat) (Option.none : Option Jvm.ClassFile.FieldType)) ∈ TG := tw_8 15 (by decide +kernel) (by decide +kernel)
theorem w_8_4 : (Jvm.Cond.methodLink "StripedVault$Query" (103 : Nat) ({ cls := "StripedVault$Query", name := "readBys", desc := "()V" } : Jvm.MethodName)) ∈ TG := tw_8 4 (by decide +kernel) (by decide +kernel)
theorem w_8_6 : (Jvm.Cond.instanceMethod ({ cls := "StripedVault$Query", name := "readBys", desc := "()V" } : Jvm.MethodName)) ∈ TG := tw_8 6 (by decide +kernel) (by decide +kernel)
theorem w_8_7 : (Jvm.Cond.code ({ cls := "StripedVault$Query", name := "readBys", desc := "()V" } : Jvm.MethodName) prog_5_method_9_code (4 : Nat) (Option.none : Option Jvm.ClassFile.FieldType)) ∈ TG := tw_8 7 (by decide +kernel) (by decide +kernel)
theorem w_8_8 : (Jvm.Cond.methodLink "StripedVault$Query" (122 : Nat) ({ cls := "StripedVault$Query", name := "isBy", desc := "(I)Z" } : Jvm.MethodName)) ∈ TG := tw_8 8 (by decide +kernel) (by decide +kernel)
theorem ws_68 : Cond.selects R_Qry y_Qry_readItems y_Qry_readItems ∈ TG := tw_s 68 (by decide +kernel) (by decide +kernel)
theorem ws_84 : Cond.selects R_Qry y_Qry_readBys y_Qry_readBys ∈ TG := tw_s 84 (by decide +kernel) (by decide +kernel)
theorem ws_85 : Cond.selects R_Qry y_Qry_isBy y_Qry_isBy ∈ TG := tw_s 85 (by decide +kernel) (by decide +kernel)
theorem ws_86 : Cond.selects R_Qry y_Qry_checkItems y_Qry_checkItems ∈ TG := tw_s 86 (by decide +kernel) (by decide +kernel)
theorem d_Qry_isBy_2 : decode b_Qry_isBy 2 = .ok (.iload_n 2, 1) := by decide +kernel
theorem d_Qry_isBy_3 : decode b_Qry_isBy 3 = .ok (.aload_n 0, 1) := by decide +kernel
theorem d_Qry_isBy_4 : decode b_Qry_isBy 4 = .ok (.getfield 60, 3) := by decide +kernel
theorem d_Qry_isBy_7 : decode b_Qry_isBy 7 = .ok (.if_icmp .ge 21, 3) := by decide +kernel
theorem d_Qry_isBy_28 : decode b_Qry_isBy 28 = .ok (.iconst 0, 1) := by decide +kernel
theorem d_Qry_isBy_29 : decode b_Qry_isBy 29 = .ok (.ireturn, 1) := by decide +kernel
theorem d_Qry_isBy_10 : decode b_Qry_isBy 10 = .ok (.aload_n 0, 1) := by decide +kernel
theorem d_Qry_isBy_11 : decode b_Qry_isBy 11 = .ok (.getfield 21, 3) := by decide +kernel
theorem d_Qry_isBy_14 : decode b_Qry_isBy 14 = .ok (.iload_n 2, 1) := by decide +kernel
theorem d_Qry_isBy_15 : decode b_Qry_isBy 15 = .ok (.iaload, 1) := by decide +kernel
theorem d_Qry_isBy_16 : decode b_Qry_isBy 16 = .ok (.iload_n 1, 1) := by decide +kernel
theorem d_Qry_isBy_17 : decode b_Qry_isBy 17 = .ok (.if_icmp .ne 5, 3) := by decide +kernel
theorem d_Qry_isBy_22 : decode b_Qry_isBy 22 = .ok (.iinc 2 1, 3) := by decide +kernel
theorem d_Qry_isBy_25 : decode b_Qry_isBy 25 = .ok (.goto (-23), 3) := by decide +kernel
theorem d_Qry_isBy_20 : decode b_Qry_isBy 20 = .ok (.iconst 1, 1) := by decide +kernel
theorem d_Qry_isBy_21 : decode b_Qry_isBy 21 = .ok (.ireturn, 1) := by decide +kernel
theorem d_Qry_isBy_0 : decode b_Qry_isBy 0 = .ok (.iconst 0, 1) := by decide +kernel
theorem d_Qry_isBy_1 : decode b_Qry_isBy 1 = .ok (.istore_n 2, 1) := by decide +kernel
theorem d_Qry_readBys_138 : decode b_Qry_readBys 138 = .ok (.istore_n 1, 1) := by decide +kernel
theorem d_Qry_readBys_139 : decode b_Qry_readBys 139 = .ok (.iinc 2 1, 3) := by decide +kernel
theorem d_Qry_readBys_142 : decode b_Qry_readBys 142 = .ok (.goto (-127), 3) := by decide +kernel
theorem d_Qry_readBys_137 : decode b_Qry_readBys 137 = .ok (.iconst 0, 1) := by decide +kernel
theorem d_Qry_readBys_91 : decode b_Qry_readBys 91 = .ok (.aload_n 0, 1) := by decide +kernel
theorem d_Qry_readBys_92 : decode b_Qry_readBys 92 = .ok (.getfield 21, 3) := by decide +kernel
theorem d_Qry_readBys_95 : decode b_Qry_readBys 95 = .ok (.aload_n 0, 1) := by decide +kernel
theorem d_Qry_readBys_96 : decode b_Qry_readBys 96 = .ok (.getfield 60, 3) := by decide +kernel
theorem d_Qry_readBys_99 : decode b_Qry_readBys 99 = .ok (.iload_n 3, 1) := by decide +kernel
theorem d_Qry_readBys_100 : decode b_Qry_readBys 100 = .ok (.iastore, 1) := by decide +kernel
theorem d_Qry_readBys_101 : decode b_Qry_readBys 101 = .ok (.aload_n 0, 1) := by decide +kernel
theorem d_Qry_readBys_102 : decode b_Qry_readBys 102 = .ok (.dup, 1) := by decide +kernel
theorem d_Qry_readBys_103 : decode b_Qry_readBys 103 = .ok (.getfield 60, 3) := by decide +kernel
theorem d_Qry_readBys_106 : decode b_Qry_readBys 106 = .ok (.iconst 1, 1) := by decide +kernel
theorem d_Qry_readBys_107 : decode b_Qry_readBys 107 = .ok (.iadd, 1) := by decide +kernel
theorem d_Qry_readBys_108 : decode b_Qry_readBys 108 = .ok (.putfield 60, 3) := by decide +kernel
theorem d_Qry_readBys_111 : decode b_Qry_readBys 111 = .ok (.aload_n 0, 1) := by decide +kernel
theorem d_Qry_readBys_112 : decode b_Qry_readBys 112 = .ok (.getfield 44, 3) := by decide +kernel
theorem d_Qry_readBys_115 : decode b_Qry_readBys 115 = .ok (.invokevirtual 86, 3) := by decide +kernel
theorem d_Qry_readBys_118 : decode b_Qry_readBys 118 = .ok (.ifCond .eq 19, 3) := by decide +kernel
theorem d_Qry_readBys_121 : decode b_Qry_readBys 121 = .ok (.aload_n 0, 1) := by decide +kernel
theorem d_Qry_readBys_122 : decode b_Qry_readBys 122 = .ok (.getfield 44, 3) := by decide +kernel
theorem d_Qry_readBys_125 : decode b_Qry_readBys 125 = .ok (.bipush 44, 2) := by decide +kernel
theorem d_Qry_readBys_127 : decode b_Qry_readBys 127 = .ok (.invokevirtual 129, 3) := by decide +kernel
theorem d_Qry_readBys_130 : decode b_Qry_readBys 130 = .ok (.ifCond .eq 7, 3) := by decide +kernel
theorem d_Qry_readBys_133 : decode b_Qry_readBys 133 = .ok (.iconst 1, 1) := by decide +kernel
theorem d_Qry_readBys_134 : decode b_Qry_readBys 134 = .ok (.goto 4, 3) := by decide +kernel
theorem d_Qry_readBys_15 : decode b_Qry_readBys 15 = .ok (.iload_n 2, 1) := by decide +kernel
theorem d_Qry_readBys_16 : decode b_Qry_readBys 16 = .ok (.bipush 8, 2) := by decide +kernel
theorem d_Qry_readBys_18 : decode b_Qry_readBys 18 = .ok (.if_icmp .gt 127, 3) := by decide +kernel
theorem d_Qry_readBys_145 : decode b_Qry_readBys 145 = .ok (.return_, 1) := by decide +kernel
theorem d_Qry_readBys_21 : decode b_Qry_readBys 21 = .ok (.iload_n 1, 1) := by decide +kernel
theorem d_Qry_readBys_22 : decode b_Qry_readBys 22 = .ok (.ifCond .eq 123, 3) := by decide +kernel
theorem d_Qry_readBys_25 : decode b_Qry_readBys 25 = .ok (.aload_n 0, 1) := by decide +kernel
theorem d_Qry_readBys_26 : decode b_Qry_readBys 26 = .ok (.getfield 44, 3) := by decide +kernel
theorem d_Qry_readBys_29 : decode b_Qry_readBys 29 = .ok (.invokevirtual 106, 3) := by decide +kernel
theorem d_Qry_readBys_32 : decode b_Qry_readBys 32 = .ok (.pop, 1) := by decide +kernel
theorem d_Qry_readBys_33 : decode b_Qry_readBys 33 = .ok (.aload_n 0, 1) := by decide +kernel
theorem d_Qry_readBys_34 : decode b_Qry_readBys 34 = .ok (.getfield 60, 3) := by decide +kernel
theorem d_Qry_readBys_37 : decode b_Qry_readBys 37 = .ok (.bipush 8, 2) := by decide +kernel
theorem d_Qry_readBys_39 : decode b_Qry_readBys 39 = .ok (.if_icmp .lt 18, 3) := by decide +kernel
theorem d_Qry_readBys_57 : decode b_Qry_readBys 57 = .ok (.aload_n 0, 1) := by decide +kernel
theorem d_Qry_readBys_58 : decode b_Qry_readBys 58 = .ok (.invokevirtual 143, 3) := by decide +kernel
theorem d_Qry_readBys_61 : decode b_Qry_readBys 61 = .ok (.istore_n 3, 1) := by decide +kernel
theorem d_Qry_readBys_62 : decode b_Qry_readBys 62 = .ok (.aload_n 0, 1) := by decide +kernel
theorem d_Qry_readBys_63 : decode b_Qry_readBys 63 = .ok (.getfield 44, 3) := by decide +kernel
theorem d_Qry_readBys_66 : decode b_Qry_readBys 66 = .ok (.invokevirtual 86, 3) := by decide +kernel
theorem d_Qry_readBys_69 : decode b_Qry_readBys 69 = .ok (.ifCond .eq 22, 3) := by decide +kernel
theorem d_Qry_readBys_72 : decode b_Qry_readBys 72 = .ok (.aload_n 0, 1) := by decide +kernel
theorem d_Qry_readBys_73 : decode b_Qry_readBys 73 = .ok (.iload_n 3, 1) := by decide +kernel
theorem d_Qry_readBys_74 : decode b_Qry_readBys 74 = .ok (.invokevirtual 122, 3) := by decide +kernel
theorem d_Qry_readBys_77 : decode b_Qry_readBys 77 = .ok (.ifCond .eq 14, 3) := by decide +kernel
theorem d_Qry_readBys_80 : decode b_Qry_readBys 80 = .ok (.aload_n 0, 1) := by decide +kernel
theorem d_Qry_readBys_81 : decode b_Qry_readBys 81 = .ok (.getfield 44, 3) := by decide +kernel
theorem d_Qry_readBys_84 : decode b_Qry_readBys 84 = .ok (.aload_n 0, 1) := by decide +kernel
theorem d_Qry_readBys_85 : decode b_Qry_readBys 85 = .ok (.getfield 154, 3) := by decide +kernel
theorem d_Qry_readBys_88 : decode b_Qry_readBys 88 = .ok (.invokevirtual 113, 3) := by decide +kernel
theorem d_Qry_readBys_42 : decode b_Qry_readBys 42 = .ok (.aload_n 0, 1) := by decide +kernel
theorem d_Qry_readBys_43 : decode b_Qry_readBys 43 = .ok (.getfield 44, 3) := by decide +kernel
theorem d_Qry_readBys_46 : decode b_Qry_readBys 46 = .ok (.aload_n 0, 1) := by decide +kernel
theorem d_Qry_readBys_47 : decode b_Qry_readBys 47 = .ok (.getfield 44, 3) := by decide +kernel
theorem d_Qry_readBys_50 : decode b_Qry_readBys 50 = .ok (.getfield 110, 3) := by decide +kernel
theorem d_Qry_readBys_53 : decode b_Qry_readBys 53 = .ok (.invokevirtual 113, 3) := by decide +kernel
theorem d_Qry_readBys_56 : decode b_Qry_readBys 56 = .ok (.return_, 1) := by decide +kernel
theorem d_Qry_readBys_0 : decode b_Qry_readBys 0 = .ok (.aload_n 0, 1) := by decide +kernel
theorem d_Qry_readBys_1 : decode b_Qry_readBys 1 = .ok (.iconst 1, 1) := by decide +kernel
theorem d_Qry_readBys_2 : decode b_Qry_readBys 2 = .ok (.putfield 63, 3) := by decide +kernel
theorem d_Qry_readBys_5 : decode b_Qry_readBys 5 = .ok (.aload_n 0, 1) := by decide +kernel
theorem d_Qry_readBys_6 : decode b_Qry_readBys 6 = .ok (.getfield 44, 3) := by decide +kernel
theorem d_Qry_readBys_9 : decode b_Qry_readBys 9 = .ok (.invokevirtual 86, 3) := by decide +kernel
theorem d_Qry_readBys_12 : decode b_Qry_readBys 12 = .ok (.istore_n 1, 1) := by decide +kernel
theorem d_Qry_readBys_13 : decode b_Qry_readBys 13 = .ok (.iconst 0, 1) := by decide +kernel
theorem d_Qry_readBys_14 : decode b_Qry_readBys 14 = .ok (.istore_n 2, 1) := by decide +kernel
theorem d_Qry_checkItems_45 : decode b_Qry_checkItems 45 = .ok (.iinc 1 1, 3) := by decide +kernel
theorem d_Qry_checkItems_48 : decode b_Qry_checkItems 48 = .ok (.goto (-46), 3) := by decide +kernel
theorem d_Qry_checkItems_2 : decode b_Qry_checkItems 2 = .ok (.iload_n 1, 1) := by decide +kernel
theorem d_Qry_checkItems_3 : decode b_Qry_checkItems 3 = .ok (.aload_n 0, 1) := by decide +kernel
theorem d_Qry_checkItems_4 : decode b_Qry_checkItems 4 = .ok (.getfield 56, 3) := by decide +kernel
theorem d_Qry_checkItems_7 : decode b_Qry_checkItems 7 = .ok (.if_icmp .ge 44, 3) := by decide +kernel
theorem d_Qry_checkItems_51 : decode b_Qry_checkItems 51 = .ok (.return_, 1) := by decide +kernel
theorem d_Qry_checkItems_10 : decode b_Qry_checkItems 10 = .ok (.aload_n 0, 1) := by decide +kernel
theorem d_Qry_checkItems_11 : decode b_Qry_checkItems 11 = .ok (.getfield 9, 3) := by decide +kernel
theorem d_Qry_checkItems_14 : decode b_Qry_checkItems 14 = .ok (.iload_n 1, 1) := by decide +kernel
theorem d_Qry_checkItems_15 : decode b_Qry_checkItems 15 = .ok (.iaload, 1) := by decide +kernel
theorem d_Qry_checkItems_16 : decode b_Qry_checkItems 16 = .ok (.ifCond .ne 29, 3) := by decide +kernel
theorem d_Qry_checkItems_19 : decode b_Qry_checkItems 19 = .ok (.aload_n 0, 1) := by decide +kernel
theorem d_Qry_checkItems_20 : decode b_Qry_checkItems 20 = .ok (.aload_n 0, 1) := by decide +kernel
theorem d_Qry_checkItems_21 : decode b_Qry_checkItems 21 = .ok (.getfield 15, 3) := by decide +kernel
theorem d_Qry_checkItems_24 : decode b_Qry_checkItems 24 = .ok (.iload_n 1, 1) := by decide +kernel
theorem d_Qry_checkItems_25 : decode b_Qry_checkItems 25 = .ok (.iaload, 1) := by decide +kernel
theorem d_Qry_checkItems_26 : decode b_Qry_checkItems 26 = .ok (.invokevirtual 122, 3) := by decide +kernel
theorem d_Qry_checkItems_29 : decode b_Qry_checkItems 29 = .ok (.ifCond .ne 16, 3) := by decide +kernel
theorem d_Qry_checkItems_32 : decode b_Qry_checkItems 32 = .ok (.aload_n 0, 1) := by decide +kernel
theorem d_Qry_checkItems_33 : decode b_Qry_checkItems 33 = .ok (.getfield 44, 3) := by decide +kernel
theorem d_Qry_checkItems_36 : decode b_Qry_checkItems 36 = .ok (.aload_n 0, 1) := by decide +kernel
theorem d_Qry_checkItems_37 : decode b_Qry_checkItems 37 = .ok (.getfield 18, 3) := by decide +kernel
theorem d_Qry_checkItems_40 : decode b_Qry_checkItems 40 = .ok (.iload_n 1, 1) := by decide +kernel
theorem d_Qry_checkItems_41 : decode b_Qry_checkItems 41 = .ok (.iaload, 1) := by decide +kernel
theorem d_Qry_checkItems_42 : decode b_Qry_checkItems 42 = .ok (.invokevirtual 113, 3) := by decide +kernel
theorem d_Qry_checkItems_0 : decode b_Qry_checkItems 0 = .ok (.iconst 0, 1) := by decide +kernel
theorem d_Qry_checkItems_1 : decode b_Qry_checkItems 1 = .ok (.istore_n 1, 1) := by decide +kernel
theorem d_Qry_readText_176 : decode b_Qry_readText 176 = .ok (.aload_n 0, 1) := by decide +kernel
theorem d_Qry_readText_177 : decode b_Qry_readText 177 = .ok (.getfield 44, 3) := by decide +kernel
theorem d_Qry_readText_180 : decode b_Qry_readText 180 = .ok (.getfield 119, 3) := by decide +kernel
theorem d_Qry_readText_183 : decode b_Qry_readText 183 = .ok (.ireturn, 1) := by decide +kernel
theorem d_Qry_readText_155 : decode b_Qry_readText 155 = .ok (.aload_n 0, 1) := by decide +kernel
theorem d_Qry_readText_156 : decode b_Qry_readText 156 = .ok (.getfield 44, 3) := by decide +kernel
theorem d_Qry_readText_159 : decode b_Qry_readText 159 = .ok (.invokevirtual 86, 3) := by decide +kernel
theorem d_Qry_readText_162 : decode b_Qry_readText 162 = .ok (.ifCond .eq 14, 3) := by decide +kernel
theorem d_Qry_readText_165 : decode b_Qry_readText 165 = .ok (.aload_n 0, 1) := by decide +kernel
theorem d_Qry_readText_166 : decode b_Qry_readText 166 = .ok (.getfield 63, 3) := by decide +kernel
theorem d_Qry_readText_169 : decode b_Qry_readText 169 = .ok (.ifCond .eq 7, 3) := by decide +kernel
theorem d_Qry_readText_172 : decode b_Qry_readText 172 = .ok (.aload_n 0, 1) := by decide +kernel
theorem d_Qry_readText_173 : decode b_Qry_readText 173 = .ok (.invokevirtual 116, 3) := by decide +kernel
theorem d_Qry_readText_120 : decode b_Qry_readText 120 = .ok (.aload_n 0, 1) := by decide +kernel
theorem d_Qry_readText_121 : decode b_Qry_readText 121 = .ok (.getfield 44, 3) := by decide +kernel
theorem d_Qry_readText_124 : decode b_Qry_readText 124 = .ok (.invokevirtual 86, 3) := by decide +kernel
theorem d_Qry_readText_127 : decode b_Qry_readText 127 = .ok (.ifCond .eq 28, 3) := by decide +kernel
theorem d_Qry_readText_130 : decode b_Qry_readText 130 = .ok (.aload_n 0, 1) := by decide +kernel
theorem d_Qry_readText_131 : decode b_Qry_readText 131 = .ok (.getfield 44, 3) := by decide +kernel
theorem d_Qry_readText_134 : decode b_Qry_readText 134 = .ok (.invokevirtual 106, 3) := by decide +kernel
theorem d_Qry_readText_137 : decode b_Qry_readText 137 = .ok (.iconst (-1), 1) := by decide +kernel
theorem d_Qry_readText_138 : decode b_Qry_readText 138 = .ok (.if_icmp .eq 17, 3) := by decide +kernel
theorem d_Qry_readText_141 : decode b_Qry_readText 141 = .ok (.aload_n 0, 1) := by decide +kernel
theorem d_Qry_readText_142 : decode b_Qry_readText 142 = .ok (.getfield 44, 3) := by decide +kernel
theorem d_Qry_readText_145 : decode b_Qry_readText 145 = .ok (.aload_n 0, 1) := by decide +kernel
theorem d_Qry_readText_146 : decode b_Qry_readText 146 = .ok (.getfield 44, 3) := by decide +kernel
theorem d_Qry_readText_149 : decode b_Qry_readText 149 = .ok (.getfield 110, 3) := by decide +kernel
theorem d_Qry_readText_152 : decode b_Qry_readText 152 = .ok (.invokevirtual 113, 3) := by decide +kernel
theorem d_Qry_readText_85 : decode b_Qry_readText 85 = .ok (.aload_n 0, 1) := by decide +kernel
theorem d_Qry_readText_86 : decode b_Qry_readText 86 = .ok (.getfield 44, 3) := by decide +kernel
theorem d_Qry_readText_89 : decode b_Qry_readText 89 = .ok (.invokevirtual 86, 3) := by decide +kernel
theorem d_Qry_readText_92 : decode b_Qry_readText 92 = .ok (.ifCond .eq 28, 3) := by decide +kernel
theorem d_Qry_readText_95 : decode b_Qry_readText 95 = .ok (.aload_n 0, 1) := by decide +kernel
theorem d_Qry_readText_96 : decode b_Qry_readText 96 = .ok (.getfield 44, 3) := by decide +kernel
theorem d_Qry_readText_99 : decode b_Qry_readText 99 = .ok (.ldc 100, 2) := by decide +kernel
theorem d_Qry_readText_101 : decode b_Qry_readText 101 = .ok (.invokevirtual 92, 3) := by decide +kernel
theorem d_Qry_readText_104 : decode b_Qry_readText 104 = .ok (.ifCond .eq 16, 3) := by decide +kernel
theorem d_Qry_readText_107 : decode b_Qry_readText 107 = .ok (.aload_n 0, 1) := by decide +kernel
theorem d_Qry_readText_108 : decode b_Qry_readText 108 = .ok (.getfield 44, 3) := by decide +kernel
theorem d_Qry_readText_111 : decode b_Qry_readText 111 = .ok (.ldc 102, 2) := by decide +kernel
theorem d_Qry_readText_113 : decode b_Qry_readText 113 = .ok (.invokevirtual 77, 3) := by decide +kernel
theorem d_Qry_readText_116 : decode b_Qry_readText 116 = .ok (.aload_n 0, 1) := by decide +kernel
theorem d_Qry_readText_117 : decode b_Qry_readText 117 = .ok (.invokevirtual 103, 3) := by decide +kernel
theorem d_Qry_readText_0 : decode b_Qry_readText 0 = .ok (.aload_n 0, 1) := by decide +kernel
theorem d_Qry_readText_1 : decode b_Qry_readText 1 = .ok (.aload_n 1, 1) := by decide +kernel
theorem d_Qry_readText_2 : decode b_Qry_readText 2 = .ok (.putfield 44, 3) := by decide +kernel
theorem d_Qry_readText_5 : decode b_Qry_readText 5 = .ok (.aload_n 0, 1) := by decide +kernel
theorem d_Qry_readText_6 : decode b_Qry_readText 6 = .ok (.aload_n 2, 1) := by decide +kernel
theorem d_Qry_readText_7 : decode b_Qry_readText 7 = .ok (.putfield 48, 3) := by decide +kernel
theorem d_Qry_readText_10 : decode b_Qry_readText 10 = .ok (.aload_n 0, 1) := by decide +kernel
theorem d_Qry_readText_11 : decode b_Qry_readText 11 = .ok (.iconst 0, 1) := by decide +kernel
theorem d_Qry_readText_12 : decode b_Qry_readText 12 = .ok (.putfield 52, 3) := by decide +kernel
theorem d_Qry_readText_15 : decode b_Qry_readText 15 = .ok (.aload_n 0, 1) := by decide +kernel
theorem d_Qry_readText_16 : decode b_Qry_readText 16 = .ok (.iconst 0, 1) := by decide +kernel
theorem d_Qry_readText_17 : decode b_Qry_readText 17 = .ok (.putfield 56, 3) := by decide +kernel
theorem d_Qry_readText_20 : decode b_Qry_readText 20 = .ok (.aload_n 0, 1) := by decide +kernel
theorem d_Qry_readText_21 : decode b_Qry_readText 21 = .ok (.iconst 0, 1) := by decide +kernel
theorem d_Qry_readText_22 : decode b_Qry_readText 22 = .ok (.putfield 60, 3) := by decide +kernel
theorem d_Qry_readText_25 : decode b_Qry_readText 25 = .ok (.aload_n 0, 1) := by decide +kernel
theorem d_Qry_readText_26 : decode b_Qry_readText 26 = .ok (.iconst 0, 1) := by decide +kernel
theorem d_Qry_readText_27 : decode b_Qry_readText 27 = .ok (.putfield 63, 3) := by decide +kernel
theorem d_Qry_readText_30 : decode b_Qry_readText 30 = .ok (.aload_n 0, 1) := by decide +kernel
theorem d_Qry_readText_31 : decode b_Qry_readText 31 = .ok (.iconst 0, 1) := by decide +kernel
theorem d_Qry_readText_32 : decode b_Qry_readText 32 = .ok (.putfield 66, 3) := by decide +kernel
theorem d_Qry_readText_35 : decode b_Qry_readText 35 = .ok (.aload_n 0, 1) := by decide +kernel
theorem d_Qry_readText_36 : decode b_Qry_readText 36 = .ok (.iconst 0, 1) := by decide +kernel
theorem d_Qry_readText_37 : decode b_Qry_readText 37 = .ok (.putfield 69, 3) := by decide +kernel
theorem d_Qry_readText_40 : decode b_Qry_readText 40 = .ok (.aload_n 0, 1) := by decide +kernel
theorem d_Qry_readText_41 : decode b_Qry_readText 41 = .ok (.iconst 0, 1) := by decide +kernel
theorem d_Qry_readText_42 : decode b_Qry_readText 42 = .ok (.putfield 72, 3) := by decide +kernel
theorem d_Qry_readText_45 : decode b_Qry_readText 45 = .ok (.aload_n 0, 1) := by decide +kernel
theorem d_Qry_readText_46 : decode b_Qry_readText 46 = .ok (.getfield 44, 3) := by decide +kernel
theorem d_Qry_readText_49 : decode b_Qry_readText 49 = .ok (.ldc 75, 2) := by decide +kernel
theorem d_Qry_readText_51 : decode b_Qry_readText 51 = .ok (.invokevirtual 77, 3) := by decide +kernel
theorem d_Qry_readText_54 : decode b_Qry_readText 54 = .ok (.aload_n 0, 1) := by decide +kernel
theorem d_Qry_readText_55 : decode b_Qry_readText 55 = .ok (.invokevirtual 83, 3) := by decide +kernel
theorem d_Qry_readText_58 : decode b_Qry_readText 58 = .ok (.aload_n 0, 1) := by decide +kernel
theorem d_Qry_readText_59 : decode b_Qry_readText 59 = .ok (.getfield 44, 3) := by decide +kernel
theorem d_Qry_readText_62 : decode b_Qry_readText 62 = .ok (.invokevirtual 86, 3) := by decide +kernel
theorem d_Qry_readText_65 : decode b_Qry_readText 65 = .ok (.ifCond .eq 20, 3) := by decide +kernel
theorem d_Qry_readText_68 : decode b_Qry_readText 68 = .ok (.aload_n 0, 1) := by decide +kernel
theorem d_Qry_readText_69 : decode b_Qry_readText 69 = .ok (.getfield 44, 3) := by decide +kernel
theorem d_Qry_readText_72 : decode b_Qry_readText 72 = .ok (.ldc 90, 2) := by decide +kernel
theorem d_Qry_readText_74 : decode b_Qry_readText 74 = .ok (.invokevirtual 92, 3) := by decide +kernel
theorem d_Qry_readText_77 : decode b_Qry_readText 77 = .ok (.ifCond .eq 8, 3) := by decide +kernel
theorem d_Qry_readText_80 : decode b_Qry_readText 80 = .ok (.aload_n 0, 1) := by decide +kernel
theorem d_Qry_readText_81 : decode b_Qry_readText 81 = .ok (.iconst 0, 1) := by decide +kernel
theorem d_Qry_readText_82 : decode b_Qry_readText 82 = .ok (.invokevirtual 96, 3) := by decide +kernel
theorem d_V_query_0 : decode b_V_query 0 = .ok (.aload_n 0, 1) := by decide +kernel
theorem d_V_query_1 : decode b_V_query 1 = .ok (.invokevirtual 112, 3) := by decide +kernel
theorem d_V_query_4 : decode b_V_query 4 = .ok (.istore_n 1, 1) := by decide +kernel
theorem d_V_query_5 : decode b_V_query 5 = .ok (.aload_n 0, 1) := by decide +kernel
theorem d_V_query_6 : decode b_V_query 6 = .ok (.getfield 59, 3) := by decide +kernel
theorem d_V_query_9 : decode b_V_query 9 = .ok (.getfield 163, 3) := by decide +kernel
theorem d_V_query_12 : decode b_V_query 12 = .ok (.ifCond .ne 6, 3) := by decide +kernel
theorem d_V_query_18 : decode b_V_query 18 = .ok (.iload_n 1, 1) := by decide +kernel
theorem d_V_query_19 : decode b_V_query 19 = .ok (.sipush 2000, 3) := by decide +kernel
theorem d_V_query_22 : decode b_V_query 22 = .ok (.if_icmp .le 7, 3) := by decide +kernel
theorem d_V_query_29 : decode b_V_query 29 = .ok (.aload_n 0, 1) := by decide +kernel
theorem d_V_query_30 : decode b_V_query 30 = .ok (.getfield 28, 3) := by decide +kernel
theorem d_V_query_33 : decode b_V_query 33 = .ok (.aload_n 0, 1) := by decide +kernel
theorem d_V_query_34 : decode b_V_query 34 = .ok (.getfield 19, 3) := by decide +kernel
theorem d_V_query_37 : decode b_V_query 37 = .ok (.getfield 116, 3) := by decide +kernel
theorem d_V_query_40 : decode b_V_query 40 = .ok (.iload_n 1, 1) := by decide +kernel
theorem d_V_query_41 : decode b_V_query 41 = .ok (.invokevirtual 120, 3) := by decide +kernel
theorem d_V_query_44 : decode b_V_query 44 = .ok (.aload_n 0, 1) := by decide +kernel
theorem d_V_query_45 : decode b_V_query 45 = .ok (.getfield 79, 3) := by decide +kernel
theorem d_V_query_48 : decode b_V_query 48 = .ok (.aload_n 0, 1) := by decide +kernel
theorem d_V_query_49 : decode b_V_query 49 = .ok (.getfield 28, 3) := by decide +kernel
theorem d_V_query_52 : decode b_V_query 52 = .ok (.aload_n 0, 1) := by decide +kernel
theorem d_V_query_53 : decode b_V_query 53 = .ok (.getfield 59, 3) := by decide +kernel
theorem d_V_query_56 : decode b_V_query 56 = .ok (.getfield 189, 3) := by decide +kernel
theorem d_V_query_59 : decode b_V_query 59 = .ok (.invokevirtual 197, 3) := by decide +kernel
theorem d_V_query_62 : decode b_V_query 62 = .ok (.istore_n 2, 1) := by decide +kernel
theorem d_V_query_63 : decode b_V_query 63 = .ok (.iload_n 2, 1) := by decide +kernel
theorem d_V_query_64 : decode b_V_query 64 = .ok (.iconst (-1), 1) := by decide +kernel
theorem d_V_query_65 : decode b_V_query 65 = .ok (.if_icmp .eq 5, 3) := by decide +kernel
theorem d_V_query_70 : decode b_V_query 70 = .ok (.aload_n 0, 1) := by decide +kernel
theorem d_V_query_71 : decode b_V_query 71 = .ok (.getfield 75, 3) := by decide +kernel
theorem d_V_query_74 : decode b_V_query 74 = .ok (.astore_n 3, 1) := by decide +kernel
theorem d_V_query_75 : decode b_V_query 75 = .ok (.aload_n 0, 1) := by decide +kernel
theorem d_V_query_76 : decode b_V_query 76 = .ok (.aload_n 0, 1) := by decide +kernel
theorem d_V_query_77 : decode b_V_query 77 = .ok (.getfield 79, 3) := by decide +kernel
theorem d_V_query_80 : decode b_V_query 80 = .ok (.putfield 75, 3) := by decide +kernel
theorem d_V_query_83 : decode b_V_query 83 = .ok (.aload_n 0, 1) := by decide +kernel
theorem d_V_query_84 : decode b_V_query 84 = .ok (.aload_n 3, 1) := by decide +kernel
theorem d_V_query_85 : decode b_V_query 85 = .ok (.putfield 79, 3) := by decide +kernel
theorem d_V_query_88 : decode b_V_query 88 = .ok (.aload_n 0, 1) := by decide +kernel
theorem d_V_query_89 : decode b_V_query 89 = .ok (.getfield 75, 3) := by decide +kernel
theorem d_V_query_92 : decode b_V_query 92 = .ok (.iconst 1, 1) := by decide +kernel
theorem d_V_query_93 : decode b_V_query 93 = .ok (.putfield 167, 3) := by decide +kernel
theorem d_V_query_96 : decode b_V_query 96 = .ok (.iconst (-1), 1) := by decide +kernel
theorem d_V_query_97 : decode b_V_query 97 = .ok (.ireturn, 1) := by decide +kernel
theorem d_V_query_68 : decode b_V_query 68 = .ok (.iload_n 2, 1) := by decide +kernel
theorem d_V_query_69 : decode b_V_query 69 = .ok (.ireturn, 1) := by decide +kernel
theorem d_V_query_25 : decode b_V_query 25 = .ok (.sipush 2000, 3) := by decide +kernel
theorem d_V_query_28 : decode b_V_query 28 = .ok (.ireturn, 1) := by decide +kernel
theorem d_V_query_15 : decode b_V_query 15 = .ok (.bipush (-2), 2) := by decide +kernel
theorem d_V_query_17 : decode b_V_query 17 = .ok (.ireturn, 1) := by decide +kernel
section
variable (l : Launch) (dC : Nat → ClassId) (dI : Nat → Nat → Nat) (cI cB cJ cZ : ClassId)
set_option maxRecDepth 100000 in
def j_Qry_isBy_2 (post : Int32 → St → Prop) (rec2 : Nat → Int32 → Int32 → St → Prop) (o : Nat) (l1 : Int32) (l2 : Int32) (x : St) : Prop := (((fI x o 5) ≤ l2 → post 0 x) ∧ (¬ (fI x o 5) ≤ l2 → (vp_in l2 (fN x (stC o 6)) ∧ ((¬ (rA x (stC o 6) l2) = l1 → rec2 o l1 (l2 + 1) x) ∧ ((rA x (stC o 6) l2) = l1 → post 1 x)))))
set_option maxHeartbeats 4000000 in
set_option maxRecDepth 100000 in
theorem t_Qry_isBy_2 {p : Program} {l : Launch} {e : Env} {R : Room} {s : State} {m : MethodId} {args : Array Value} {below : List Frame} {meth : Method} {c : Code} {cells slots : Nat} {Q : State → Prop} {dC : Nat → ClassId} {dI : Nat → Nat → Nat} {cI cB cJ cZ : ClassId} {A : Nat → Prop} {ad : Nat → Nat} {NN : Nat} {E : Heap} {tM tC : Nat} {kK kV : Nat → Nat} {post : Int32 → St → Prop} {rec2 : Nat → Int32 → Int32 → St → Prop} (hx : p.tables.exec = Jvm.exec) (hb : c.code = b_Qry_isBy) (hml : c.maxLocals = 3) (hown : s.vm.findClass R_Qry = some m.cls) (hT : ∀ w ∈ TG, w.before args s = true) (hK : va_K (dC, dI) CL (TY cI cB cJ cZ) s) (hN : NW s) (hA : ∀ q : Nat, s.heap.size ≤ q → A q) (hRc : cells ≤ R.cells) (hRs : slots ≤ R.slots) (hRf : 0 ≤ R.frames) (hRl : 0 ≤ R.locals) (hNN : 152 ≤ NN) (hE : CE E tM tC kK kV A s) (hret : ∀ (r : Int32) (x : St) (H : Heap) (locs : List Loc) (pc : Nat) (ls : Array Slot), decode b_Qry_isBy pc = .ok (.ireturn, 1) → narrow .boolean (.int r) = .int r → post r x → Wd dC dI cI cB cJ cZ ad stC kcC NN A x H → va_S A s.heap H locs → W p l e R s m args below meth c H locs cells slots Q (F0 m pc ls [.int r])) (hrec2 : ∀ (o : Nat) (l1 : Int32) (l2 : Int32) (x : St) (H : Heap) (locs : List Loc) (ls : Array Slot), (o < NN ∧ kcC o = 9) → rec2 o l1 l2 x → Wd dC dI cI cB cJ cZ ad stC kcC NN A x H → va_S A s.heap H locs → lv_has ls 3 [(0, .ref (ad o)), (1, .int l1), (2, .int l2)] → W p l e R s m args below meth c H locs cells slots Q (F0 m 2 ls [])) : ∀ (o : Nat) (l1 : Int32) (l2 : Int32) (x : St) (H : Heap) (locs : List Loc) (ls : Array Slot), (o < NN ∧ kcC o = 9) → j_Qry_isBy_2 post rec2 o l1 l2 x → Wd dC dI cI cB cJ cZ ad stC kcC NN A x H → va_S A s.heap H locs → lv_has ls 3 [(0, .ref (ad o)), (1, .int l1), (2, .int l2)] → W p l e R s m args below meth c H locs cells slots Q (F0 m 2 ls []) := by
  intro o l1 l2 x H locs ls fo hw hW hS hl
  unfold j_Qry_isBy_2 at hw
  refine lv_iload_n hx hb d_Qry_isBy_2 rfl (lv_at hl 2 rfl) ?_
  refine lv_aload_n hx hb d_Qry_isBy_3 rfl (lv_at hl 0 rfl) ?_
  refine w_geti (k := 5) (t := 9) (C := R_Qry) (T := F_Qry) (N := 20) hx hb hT hown hK hW fo.1 fo.2 (by decide) in_Qry rfl rfl (by decide) rfl fr_Qry_5 w_3_83 d_Qry_isBy_4 ?_
  refine lv_icmp_ge (tgt := 28) hx hb d_Qry_isBy_7 (by decide) (fun c4577 => ?_) (fun c4577 => ?_)
  · have hw := hw.1 c4577
    refine lv_iconst (v := 0) hx hb d_Qry_isBy_28 (by decide) ?_
    exact hret 0 x H locs 29 ls d_Qry_isBy_29 rfl hw hW hS
  · have hw := hw.2 c4577
    refine lv_aload_n hx hb d_Qry_isBy_10 rfl (lv_at hl 0 rfl) ?_
    refine w_getf (q := (stC o 6)) (k := 6) (t := 9) (C := R_Qry) (T := F_Qry) (N := 20) hx hb hT hown hK hW fo.1 fo.2 (by decide) in_Qry rfl rfl (by decide) rfl fr_Qry_6 w_3_85 d_Qry_isBy_11 rfl ?_
    refine lv_iload_n hx hb d_Qry_isBy_14 rfl (lv_at hl 2 rfl) ?_
    obtain ⟨hi, hw⟩ := hw
    refine w_iald (o := (stC o 6)) hx hb hK hW (st_ty hNN fo.1 fo.2 rfl).1 (st_ty hNN fo.1 fo.2 rfl).2 hi d_Qry_isBy_15 ?_
    refine lv_iload_n hx hb d_Qry_isBy_16 rfl (lv_at hl 1 rfl) ?_
    refine lv_icmp_ne (tgt := 22) hx hb d_Qry_isBy_17 (by decide) (fun c4578 => ?_) (fun c4578 => ?_)
    · have hw := hw.1 c4578
      refine lv_iinc (v := (l2 + 1)) (lv' := [(2, .int (l2 + 1)), (0, .ref (ad o)), (1, .int l1)]) hx hb d_Qry_isBy_22 hl (k := 2) rfl rfl (by decide) rfl (fun ls hl => ?_)
      refine lv_goto (tgt := 2) hx hb d_Qry_isBy_25 (by decide) ?_
      exact hrec2 o l1 (l2 + 1) x H locs ls fo hw hW hS (lv_sub hl [1, 2, 0] rfl)
    · have hw := hw.2 c4578
      refine lv_iconst (v := 1) hx hb d_Qry_isBy_20 (by decide) ?_
      exact hret 1 x H locs 21 ls d_Qry_isBy_21 rfl hw hW hS
def wl_Qry_isBy_2 (post : Int32 → St → Prop) : Nat → Nat → Int32 → Int32 → St → Prop
  | 0 => fun _ _ _ _ => False
  | n + 1 => j_Qry_isBy_2 post (wl_Qry_isBy_2 post n)
set_option maxHeartbeats 4000000 in
set_option maxRecDepth 100000 in
theorem tl_Qry_isBy_2 {p : Program} {l : Launch} {e : Env} {R : Room} {s : State} {m : MethodId} {args : Array Value} {below : List Frame} {meth : Method} {c : Code} {cells slots : Nat} {Q : State → Prop} {dC : Nat → ClassId} {dI : Nat → Nat → Nat} {cI cB cJ cZ : ClassId} {A : Nat → Prop} {ad : Nat → Nat} {NN : Nat} {E : Heap} {tM tC : Nat} {kK kV : Nat → Nat} {post : Int32 → St → Prop} (hx : p.tables.exec = Jvm.exec) (hb : c.code = b_Qry_isBy) (hml : c.maxLocals = 3) (hown : s.vm.findClass R_Qry = some m.cls) (hT : ∀ w ∈ TG, w.before args s = true) (hK : va_K (dC, dI) CL (TY cI cB cJ cZ) s) (hN : NW s) (hA : ∀ q : Nat, s.heap.size ≤ q → A q) (hRc : cells ≤ R.cells) (hRs : slots ≤ R.slots) (hRf : 0 ≤ R.frames) (hRl : 0 ≤ R.locals) (hNN : 152 ≤ NN) (hE : CE E tM tC kK kV A s) (hret : ∀ (r : Int32) (x : St) (H : Heap) (locs : List Loc) (pc : Nat) (ls : Array Slot), decode b_Qry_isBy pc = .ok (.ireturn, 1) → narrow .boolean (.int r) = .int r → post r x → Wd dC dI cI cB cJ cZ ad stC kcC NN A x H → va_S A s.heap H locs → W p l e R s m args below meth c H locs cells slots Q (F0 m pc ls [.int r]))  : ∀ n : Nat, ∀ (o : Nat) (l1 : Int32) (l2 : Int32) (x : St) (H : Heap) (locs : List Loc) (ls : Array Slot), (o < NN ∧ kcC o = 9) → wl_Qry_isBy_2 post n o l1 l2 x → Wd dC dI cI cB cJ cZ ad stC kcC NN A x H → va_S A s.heap H locs → lv_has ls 3 [(0, .ref (ad o)), (1, .int l1), (2, .int l2)] → W p l e R s m args below meth c H locs cells slots Q (F0 m 2 ls []) := by
  intro n
  induction n with
  | zero => intro o l1 l2 x H locs ls fo hw; exact hw.elim
  | succ n ih => intro o l1 l2 x H locs ls fo hw hW hS hl; exact t_Qry_isBy_2 hx hb hml hown hT hK hN hA hRc hRs hRf hRl hNN hE hret  ih o l1 l2 x H locs ls fo hw hW hS hl
set_option maxRecDepth 100000 in
def wp_Qry_isBy (post : Int32 → St → Prop) (o : Nat) (l1 : Int32) (x : St) : Prop := ∃ n : Nat, wl_Qry_isBy_2 post n o l1 0 x
set_option maxHeartbeats 4000000 in
set_option maxRecDepth 100000 in
theorem t_Qry_isBy_e {p : Program} {l : Launch} {e : Env} {R : Room} {s : State} {m : MethodId} {args : Array Value} {below : List Frame} {meth : Method} {c : Code} {cells slots : Nat} {Q : State → Prop} {dC : Nat → ClassId} {dI : Nat → Nat → Nat} {cI cB cJ cZ : ClassId} {A : Nat → Prop} {ad : Nat → Nat} {NN : Nat} {E : Heap} {tM tC : Nat} {kK kV : Nat → Nat} {post : Int32 → St → Prop} (hx : p.tables.exec = Jvm.exec) (hb : c.code = b_Qry_isBy) (hml : c.maxLocals = 3) (hown : s.vm.findClass R_Qry = some m.cls) (hT : ∀ w ∈ TG, w.before args s = true) (hK : va_K (dC, dI) CL (TY cI cB cJ cZ) s) (hN : NW s) (hA : ∀ q : Nat, s.heap.size ≤ q → A q) (hRc : cells ≤ R.cells) (hRs : slots ≤ R.slots) (hRf : 0 ≤ R.frames) (hRl : 0 ≤ R.locals) (hNN : 152 ≤ NN) (hE : CE E tM tC kK kV A s) (hret : ∀ (r : Int32) (x : St) (H : Heap) (locs : List Loc) (pc : Nat) (ls : Array Slot), decode b_Qry_isBy pc = .ok (.ireturn, 1) → narrow .boolean (.int r) = .int r → post r x → Wd dC dI cI cB cJ cZ ad stC kcC NN A x H → va_S A s.heap H locs → W p l e R s m args below meth c H locs cells slots Q (F0 m pc ls [.int r])) : ∀ (o : Nat) (l1 : Int32) (x : St) (H : Heap) (locs : List Loc) (ls : Array Slot), (o < NN ∧ kcC o = 9) → wp_Qry_isBy post o l1 x → Wd dC dI cI cB cJ cZ ad stC kcC NN A x H → va_S A s.heap H locs → lv_has ls 3 [(0, .ref (ad o)), (1, .int l1)] → W p l e R s m args below meth c H locs cells slots Q (F0 m 0 ls []) := by
  intro o l1 x H locs ls fo hw hW hS hl
  unfold wp_Qry_isBy at hw
  refine lv_iconst (v := 0) hx hb d_Qry_isBy_0 (by decide) ?_
  refine lv_istore_n (lv' := [(2, .int 0), (0, .ref (ad o)), (1, .int l1)]) hx hb d_Qry_isBy_1 rfl hl (by decide) rfl (fun ls hl => ?_)
  obtain ⟨n, hw⟩ := hw
  exact tl_Qry_isBy_2 hx hb hml hown hT hK hN hA hRc hRs hRf hRl hNN hE hret  n o l1 0 x H locs ls fo hw hW hS (lv_sub hl [1, 2, 0] rfl)
set_option maxHeartbeats 4000000 in
set_option maxRecDepth 100000 in
theorem k_Qry_isBy (l : Launch) (dC : Nat → ClassId) (dI : Nat → Nat → Nat) (cI cB cJ cZ : ClassId) (ad : Nat → Nat) (NN : Nat) (E : Heap) (tM tC : Nat) (kK kV : Nat → Nat) (hNN : 152 ≤ NN) (sz : Nat) (o : Nat) (l1 : Int32) (x : St) (fo : o < NN ∧ kcC o = 9) {post : Int32 → St → Prop} (hw : wp_Qry_isBy post o l1 x) : Met l y_Qry_isBy (wsOf y_Qry_isBy b_Qry_isBy 3 (some (.boolean))) ({ frames := 0, cells := 0, slots := 0, locals := 0 }) (va_Pc [.ref (ad o), .int l1] (PV dC dI cI cB cJ cZ ad stC kcC NN E tM tC kK kV sz x)) (va_Qi (fun (r : Int32) (y : St) => post r y) (fun y t => Wd dC dI cI cB cJ cZ ad stC kcC NN (va_A (pic ad stC kcC NN cI cB cJ cZ x) sz) y t.heap) (va_A (pic ad stC kcC NN cI cB cJ cZ x) sz)) 0 0 (va_A (pic ad stC kcC NN cI cB cJ cZ x) sz) := by
  refine Met.ofW (cc := b_Qry_isBy) (maxL := 3) (ret := some (.boolean)) (by decide) rfl ?_
  intro p e s m args below meth c s₁ B hml hv
  obtain ⟨rfl, ⟨hsz, hW0, hK, hN⟩, hE⟩ := hv
  have hx := B.exec
  have hb := B.bytes
  have hr := B.returns
  have hts := atoms_spec B.pre
  have hT : ∀ w ∈ TG, w.before _ s = true := fun w h => hts w (List.mem_cons_of_mem _ h)
  have hown : s.vm.findClass R_Qry = some m.cls := findClass_of_methodNamed B.named
  have hlocks := B.notSynchronized
  subst hsz
  have hW : Wd dC dI cI cB cJ cZ ad stC kcC NN (va_A (pic ad stC kcC NN cI cB cJ cZ x) s.heap.size) x s.heap := ⟨hW0.1, hW0.2.1.self (sz := s.heap.size), hW0.2.2⟩
  generalize hAe : va_A (pic ad stC kcC NN cI cB cJ cZ x) s.heap.size = A at hW hE ⊢
  have hA : ∀ q : Nat, s.heap.size ≤ q → A q := fun q h => by rw [← hAe]; exact Or.inr h
  have hS : va_S A s.heap s.heap [] := va_S.rf
  have hl := lv_entry ([.ref (ad o), .int l1]) (n := 3) (Nat.le_of_ble_eq_true rfl)
  rw [lg_entry_eq]
  generalize (lg_sl ([.ref (ad o), .int l1]) ++ List.replicate (3 - (lg_sl ([.ref (ad o), .int l1])).length) Slot.unset).toArray = ls at hl ⊢
  have hl : lv_has ls 3 [(0, .ref (ad o)), (1, .int l1)] := hl
  exact t_Qry_isBy_e hx hb hml hown hT hK hN hA (Nat.le_refl 0) (Nat.le_refl 0) (Nat.le_refl 0) (Nat.le_refl 0) hNN hE (fun r x H locs pc ls hd hz hp hW hS => W.zret (v := r) (ty := .boolean) hx hb hr hz (fun t ht hM => ⟨⟨r, x, rfl, hp, Wd.back hW ht.symm (fun _ z => z)⟩, hS.F ht⟩) hS.2.2 hd hlocks)  o l1 x _ _ ls fo hw hW hS hl
set_option maxRecDepth 100000 in
def j_Qry_readBys_138 (post : St → Prop) (rec15 : Nat → Int32 → Int32 → St → Prop) (o : Nat) (l1 : Int32) (l2 : Int32) (l3 : Int32) (s0 : Int32) (x : St) : Prop := rec15 o s0 (l2 + 1) x
set_option maxHeartbeats 4000000 in
set_option maxRecDepth 100000 in
theorem t_Qry_readBys_138 {p : Program} {l : Launch} {e : Env} {R : Room} {s : State} {m : MethodId} {args : Array Value} {below : List Frame} {meth : Method} {c : Code} {cells slots : Nat} {Q : State → Prop} {dC : Nat → ClassId} {dI : Nat → Nat → Nat} {cI cB cJ cZ : ClassId} {A : Nat → Prop} {ad : Nat → Nat} {NN : Nat} {E : Heap} {tM tC : Nat} {kK kV : Nat → Nat} {post : St → Prop} {rec15 : Nat → Int32 → Int32 → St → Prop} (hx : p.tables.exec = Jvm.exec) (hb : c.code = b_Qry_readBys) (hml : c.maxLocals = 4) (hown : s.vm.findClass R_Qry = some m.cls) (hT : ∀ w ∈ TG, w.before args s = true) (hK : va_K (dC, dI) CL (TY cI cB cJ cZ) s) (hN : NW s) (hA : ∀ q : Nat, s.heap.size ≤ q → A q) (hRc : cells ≤ R.cells) (hRs : slots ≤ R.slots) (hRf : 8 ≤ R.frames) (hRl : 287 ≤ R.locals) (hNN : 152 ≤ NN) (hE : CE E tM tC kK kV A s) (hret : ∀ (x : St) (H : Heap) (locs : List Loc) (pc : Nat) (ls : Array Slot), decode b_Qry_readBys pc = .ok (.return_, 1) → post x → Wd dC dI cI cB cJ cZ ad stC kcC NN A x H → va_S A s.heap H locs → W p l e R s m args below meth c H locs cells slots Q (F0 m pc ls [])) (hrec15 : ∀ (o : Nat) (l1 : Int32) (l2 : Int32) (x : St) (H : Heap) (locs : List Loc) (ls : Array Slot), (o < NN ∧ kcC o = 9) → rec15 o l1 l2 x → Wd dC dI cI cB cJ cZ ad stC kcC NN A x H → va_S A s.heap H locs → lv_has ls 4 [(0, .ref (ad o)), (1, .int l1), (2, .int l2)] → W p l e R s m args below meth c H locs cells slots Q (F0 m 15 ls [])) : ∀ (o : Nat) (l1 : Int32) (l2 : Int32) (l3 : Int32) (s0 : Int32) (x : St) (H : Heap) (locs : List Loc) (ls : Array Slot), (o < NN ∧ kcC o = 9) → j_Qry_readBys_138 post rec15 o l1 l2 l3 s0 x → Wd dC dI cI cB cJ cZ ad stC kcC NN A x H → va_S A s.heap H locs → lv_has ls 4 [(0, .ref (ad o)), (1, .int l1), (2, .int l2), (3, .int l3)] → W p l e R s m args below meth c H locs cells slots Q (F0 m 138 ls [.int s0]) := by
  intro o l1 l2 l3 s0 x H locs ls fo hw hW hS hl
  unfold j_Qry_readBys_138 at hw
  refine lv_istore_n (lv' := [(1, .int s0), (0, .ref (ad o)), (2, .int l2), (3, .int l3)]) hx hb d_Qry_readBys_138 rfl hl (by decide) rfl (fun ls hl => ?_)
  refine lv_iinc (v := (l2 + 1)) (lv' := [(2, .int (l2 + 1)), (1, .int s0), (0, .ref (ad o)), (3, .int l3)]) hx hb d_Qry_readBys_139 hl (k := 2) rfl rfl (by decide) rfl (fun ls hl => ?_)
  refine lv_goto (tgt := 15) hx hb d_Qry_readBys_142 (by decide) ?_
  exact hrec15 o s0 (l2 + 1) x H locs ls fo hw hW hS (lv_sub hl [2, 1, 0] rfl)
set_option maxRecDepth 100000 in
def j_Qry_readBys_137 (post : St → Prop) (rec15 : Nat → Int32 → Int32 → St → Prop) (o : Nat) (l1 : Int32) (l2 : Int32) (l3 : Int32) (x : St) : Prop := j_Qry_readBys_138 post rec15 o l1 l2 l3 0 x
set_option maxHeartbeats 4000000 in
set_option maxRecDepth 100000 in
theorem t_Qry_readBys_137 {p : Program} {l : Launch} {e : Env} {R : Room} {s : State} {m : MethodId} {args : Array Value} {below : List Frame} {meth : Method} {c : Code} {cells slots : Nat} {Q : State → Prop} {dC : Nat → ClassId} {dI : Nat → Nat → Nat} {cI cB cJ cZ : ClassId} {A : Nat → Prop} {ad : Nat → Nat} {NN : Nat} {E : Heap} {tM tC : Nat} {kK kV : Nat → Nat} {post : St → Prop} {rec15 : Nat → Int32 → Int32 → St → Prop} (hx : p.tables.exec = Jvm.exec) (hb : c.code = b_Qry_readBys) (hml : c.maxLocals = 4) (hown : s.vm.findClass R_Qry = some m.cls) (hT : ∀ w ∈ TG, w.before args s = true) (hK : va_K (dC, dI) CL (TY cI cB cJ cZ) s) (hN : NW s) (hA : ∀ q : Nat, s.heap.size ≤ q → A q) (hRc : cells ≤ R.cells) (hRs : slots ≤ R.slots) (hRf : 8 ≤ R.frames) (hRl : 287 ≤ R.locals) (hNN : 152 ≤ NN) (hE : CE E tM tC kK kV A s) (hret : ∀ (x : St) (H : Heap) (locs : List Loc) (pc : Nat) (ls : Array Slot), decode b_Qry_readBys pc = .ok (.return_, 1) → post x → Wd dC dI cI cB cJ cZ ad stC kcC NN A x H → va_S A s.heap H locs → W p l e R s m args below meth c H locs cells slots Q (F0 m pc ls [])) (hrec15 : ∀ (o : Nat) (l1 : Int32) (l2 : Int32) (x : St) (H : Heap) (locs : List Loc) (ls : Array Slot), (o < NN ∧ kcC o = 9) → rec15 o l1 l2 x → Wd dC dI cI cB cJ cZ ad stC kcC NN A x H → va_S A s.heap H locs → lv_has ls 4 [(0, .ref (ad o)), (1, .int l1), (2, .int l2)] → W p l e R s m args below meth c H locs cells slots Q (F0 m 15 ls [])) : ∀ (o : Nat) (l1 : Int32) (l2 : Int32) (l3 : Int32) (x : St) (H : Heap) (locs : List Loc) (ls : Array Slot), (o < NN ∧ kcC o = 9) → j_Qry_readBys_137 post rec15 o l1 l2 l3 x → Wd dC dI cI cB cJ cZ ad stC kcC NN A x H → va_S A s.heap H locs → lv_has ls 4 [(0, .ref (ad o)), (1, .int l1), (2, .int l2), (3, .int l3)] → W p l e R s m args below meth c H locs cells slots Q (F0 m 137 ls []) := by
  intro o l1 l2 l3 x H locs ls fo hw hW hS hl
  unfold j_Qry_readBys_137 at hw
  refine lv_iconst (v := 0) hx hb d_Qry_readBys_137 (by decide) ?_
  exact t_Qry_readBys_138 hx hb hml hown hT hK hN hA hRc hRs hRf hRl hNN hE hret hrec15 o l1 l2 l3 0 x H locs ls fo hw hW hS (lv_sub hl [0, 1, 2, 3] rfl)
set_option maxRecDepth 100000 in
def j_Qry_readBys_91 (post : St → Prop) (rec15 : Nat → Int32 → Int32 → St → Prop) (o : Nat) (l1 : Int32) (l2 : Int32) (l3 : Int32) (x : St) : Prop := (vp_in (fI x o 5) (fN x (stC o 6)) ∧ ∀ x4579 : St, x4579 = setA x (stC o 6) (fI x o 5) l3 → (∀ x4580 : St, x4580 = setI x4579 o 5 ((fI x4579 o 5) + 1) → (∃ q4581 : Nat, fR x4580 o 17 = some q4581 ∧ wp_Scn_good (fun (r4583 : Int32) (x4582 : St) => ((r4583 = 0 → j_Qry_readBys_137 post rec15 o l1 l2 l3 x4582) ∧ (¬ r4583 = 0 → (∃ q4585 : Nat, fR x4582 o 17 = some q4585 ∧ wp_Scn_takeSign (fun (r4587 : Int32) (x4586 : St) => ((r4587 = 0 → j_Qry_readBys_137 post rec15 o l1 l2 l3 x4586) ∧ (¬ r4587 = 0 → j_Qry_readBys_138 post rec15 o l1 l2 l3 1 x4586))) q4585 44 x4582)))) q4581 x4580)))
set_option maxHeartbeats 4000000 in
set_option maxRecDepth 100000 in
theorem t_Qry_readBys_91 {p : Program} {l : Launch} {e : Env} {R : Room} {s : State} {m : MethodId} {args : Array Value} {below : List Frame} {meth : Method} {c : Code} {cells slots : Nat} {Q : State → Prop} {dC : Nat → ClassId} {dI : Nat → Nat → Nat} {cI cB cJ cZ : ClassId} {A : Nat → Prop} {ad : Nat → Nat} {NN : Nat} {E : Heap} {tM tC : Nat} {kK kV : Nat → Nat} {post : St → Prop} {rec15 : Nat → Int32 → Int32 → St → Prop} (hx : p.tables.exec = Jvm.exec) (hb : c.code = b_Qry_readBys) (hml : c.maxLocals = 4) (hown : s.vm.findClass R_Qry = some m.cls) (hT : ∀ w ∈ TG, w.before args s = true) (hK : va_K (dC, dI) CL (TY cI cB cJ cZ) s) (hN : NW s) (hA : ∀ q : Nat, s.heap.size ≤ q → A q) (hRc : cells ≤ R.cells) (hRs : slots ≤ R.slots) (hRf : 8 ≤ R.frames) (hRl : 287 ≤ R.locals) (hNN : 152 ≤ NN) (hE : CE E tM tC kK kV A s) (hret : ∀ (x : St) (H : Heap) (locs : List Loc) (pc : Nat) (ls : Array Slot), decode b_Qry_readBys pc = .ok (.return_, 1) → post x → Wd dC dI cI cB cJ cZ ad stC kcC NN A x H → va_S A s.heap H locs → W p l e R s m args below meth c H locs cells slots Q (F0 m pc ls [])) (hrec15 : ∀ (o : Nat) (l1 : Int32) (l2 : Int32) (x : St) (H : Heap) (locs : List Loc) (ls : Array Slot), (o < NN ∧ kcC o = 9) → rec15 o l1 l2 x → Wd dC dI cI cB cJ cZ ad stC kcC NN A x H → va_S A s.heap H locs → lv_has ls 4 [(0, .ref (ad o)), (1, .int l1), (2, .int l2)] → W p l e R s m args below meth c H locs cells slots Q (F0 m 15 ls [])) : ∀ (o : Nat) (l1 : Int32) (l2 : Int32) (l3 : Int32) (x : St) (H : Heap) (locs : List Loc) (ls : Array Slot), (o < NN ∧ kcC o = 9) → j_Qry_readBys_91 post rec15 o l1 l2 l3 x → Wd dC dI cI cB cJ cZ ad stC kcC NN A x H → va_S A s.heap H locs → lv_has ls 4 [(0, .ref (ad o)), (1, .int l1), (2, .int l2), (3, .int l3)] → W p l e R s m args below meth c H locs cells slots Q (F0 m 91 ls []) := by
  intro o l1 l2 l3 x H locs ls fo hw hW hS hl
  unfold j_Qry_readBys_91 at hw
  refine lv_aload_n hx hb d_Qry_readBys_91 rfl (lv_at hl 0 rfl) ?_
  refine w_getf (q := (stC o 6)) (k := 6) (t := 9) (C := R_Qry) (T := F_Qry) (N := 20) hx hb hT hown hK hW fo.1 fo.2 (by decide) in_Qry rfl rfl (by decide) rfl fr_Qry_6 w_3_85 d_Qry_readBys_92 rfl ?_
  refine lv_aload_n hx hb d_Qry_readBys_95 rfl (lv_at hl 0 rfl) ?_
  refine w_geti (k := 5) (t := 9) (C := R_Qry) (T := F_Qry) (N := 20) hx hb hT hown hK hW fo.1 fo.2 (by decide) in_Qry rfl rfl (by decide) rfl fr_Qry_5 w_3_83 d_Qry_readBys_96 ?_
  refine lv_iload_n hx hb d_Qry_readBys_99 rfl (lv_at hl 3 rfl) ?_
  obtain ⟨hi, hw⟩ := hw
  refine w_iast (o := (stC o 6)) hx hb hK hW hS (st_ty hNN fo.1 fo.2 rfl).1 (st_ty hNN fo.1 fo.2 rfl).2 hi d_Qry_readBys_100 (fun H locs hW hS => ?_)
  obtain ⟨x4579, ex4579⟩ : ∃ y : St, y = setA x (stC o 6) (fI x o 5) l3 := ⟨_, rfl⟩
  rw [← ex4579] at hW
  have hw := hw x4579 ex4579
  refine lv_aload_n hx hb d_Qry_readBys_101 rfl (lv_at hl 0 rfl) ?_
  refine lv_dup hx hb d_Qry_readBys_102 rfl ?_
  refine w_geti (k := 5) (t := 9) (C := R_Qry) (T := F_Qry) (N := 20) hx hb hT hown hK hW fo.1 fo.2 (by decide) in_Qry rfl rfl (by decide) rfl fr_Qry_5 w_3_83 d_Qry_readBys_103 ?_
  refine lv_iconst (v := 1) hx hb d_Qry_readBys_106 (by decide) ?_
  refine lv_iadd hx hb d_Qry_readBys_107 ?_
  refine w_puti (ty := .int) (k := 5) (t := 9) (C := R_Qry) (T := F_Qry) (N := 20) hx hb hT hown hK hW hS fo.1 fo.2 (by decide) in_Qry t_Qry t_Qry_ok n_Qry rfl rfl (by decide) rfl fr_Qry_5 w_3_83 (by decide +kernel) rfl rfl d_Qry_readBys_108 (fun H locs hW hS => ?_)
  obtain ⟨x4580, ex4580⟩ : ∃ y : St, y = setI x4579 o 5 ((fI x4579 o 5) + 1) := ⟨_, rfl⟩
  rw [← ex4580] at hW
  have hw := hw x4580 ex4580
  refine lv_aload_n hx hb d_Qry_readBys_111 rfl (lv_at hl 0 rfl) ?_
  obtain ⟨q4581, hq4581, hw⟩ := hw
  refine w_getr (q := q4581) (k := 17) (t := 9) (C := R_Qry) (T := F_Qry) (N := 20) hx hb hT hown hK hW fo.1 fo.2 (by decide) in_Qry rfl rfl (by decide) rfl fr_Qry_17 w_3_105 d_Qry_readBys_112 hq4581 (fun aq4581 bq4581 => ?_)
  have fq4581 : q4581 < NN ∧ kcC q4581 = 2 := ⟨aq4581, bq4581⟩
  have hF := hW.free hS hA
  refine va_calli (va_runV (C := R_Scn) (As := []) (rest := []) ⟨hx, hb, hml, hown, hT⟩ (k_Scn_good l dC dI cI cB cJ cZ ad NN E tM tC kK kV hNN H.size q4581 x4580 fq4581 hw) ⟨callB_of 0 hT (gw_in w_4_106) rfl rfl rfl (hT _ w_1_4) (hT _ w_7_147) (by decide +kernel) ⟨Nat.le_trans (by decide) hRf, Nat.le_trans (by decide) hRl⟩, hT _ w_4_104, hT _ w_4_105⟩ ⟨PV.blind, va_recv hK hW.1 (ci := 2) (q0 := q4581) rfl (pic_obj fq4581.1 fq4581.2 (by decide)), PV.at _ hW hK hN hE hS hF⟩ rfl rfl hl.1 rfl (lv_room (Nat.le_of_ble_eq_true rfl)) d_Qry_readBys_115 ⟨hRc, hRs⟩) hS (fun q _ h => hF q h) hF (fun r4583 x4582 t H locs ht hvm hw hB hz1 hk1 hS => ?_)
  have hW := Wd.back hB ht hF
  clear hB ht hF hz1 hk1 hvm
  refine lv_if_eq (tgt := 137) hx hb d_Qry_readBys_118 (by decide) (fun c4584 => ?_) (fun c4584 => ?_)
  · have hw := hw.1 c4584
    exact t_Qry_readBys_137 hx hb hml hown hT hK hN hA hRc hRs hRf hRl hNN hE hret hrec15 o l1 l2 l3 x4582 H locs ls fo hw hW hS (lv_sub hl [0, 1, 2, 3] rfl)
  · have hw := hw.2 c4584
    refine lv_aload_n hx hb d_Qry_readBys_121 rfl (lv_at hl 0 rfl) ?_
    obtain ⟨q4585, hq4585, hw⟩ := hw
    refine w_getr (q := q4585) (k := 17) (t := 9) (C := R_Qry) (T := F_Qry) (N := 20) hx hb hT hown hK hW fo.1 fo.2 (by decide) in_Qry rfl rfl (by decide) rfl fr_Qry_17 w_3_105 d_Qry_readBys_122 hq4585 (fun aq4585 bq4585 => ?_)
    have fq4585 : q4585 < NN ∧ kcC q4585 = 2 := ⟨aq4585, bq4585⟩
    refine lv_bipush (v := 44) hx hb d_Qry_readBys_125 (by decide) ?_
    have hF := hW.free hS hA
    refine va_calli (va_runV (C := R_Scn) (As := [.int 44]) (rest := []) ⟨hx, hb, hml, hown, hT⟩ (k_Scn_takeSign l dC dI cI cB cJ cZ ad NN E tM tC kK kV hNN H.size q4585 44 x4582 fq4585 hw) ⟨callB_of 1 hT (gw_in w_4_123) rfl rfl rfl (hT _ w_1_4) (hT _ w_7_199) (by decide +kernel) ⟨Nat.le_trans (by decide) hRf, Nat.le_trans (by decide) hRl⟩, hT _ w_4_121, hT _ w_4_122⟩ ⟨PV.blind, va_recv hK hW.1 (ci := 2) (q0 := q4585) rfl (pic_obj fq4585.1 fq4585.2 (by decide)), PV.at _ hW hK hN hE hS hF⟩ rfl rfl hl.1 rfl (lv_room (Nat.le_of_ble_eq_true rfl)) d_Qry_readBys_127 ⟨hRc, hRs⟩) hS (fun q _ h => hF q h) hF (fun r4587 x4586 t H locs ht hvm hw hB hz1 hk1 hS => ?_)
    have hW := Wd.back hB ht hF
    clear hB ht hF hz1 hk1 hvm
    refine lv_if_eq (tgt := 137) hx hb d_Qry_readBys_130 (by decide) (fun c4588 => ?_) (fun c4588 => ?_)
    · have hw := hw.1 c4588
      exact t_Qry_readBys_137 hx hb hml hown hT hK hN hA hRc hRs hRf hRl hNN hE hret hrec15 o l1 l2 l3 x4586 H locs ls fo hw hW hS (lv_sub hl [0, 1, 2, 3] rfl)
    · have hw := hw.2 c4588
      refine lv_iconst (v := 1) hx hb d_Qry_readBys_133 (by decide) ?_
      refine lv_goto (tgt := 138) hx hb d_Qry_readBys_134 (by decide) ?_
      exact t_Qry_readBys_138 hx hb hml hown hT hK hN hA hRc hRs hRf hRl hNN hE hret hrec15 o l1 l2 l3 1 x4586 H locs ls fo hw hW hS (lv_sub hl [0, 1, 2, 3] rfl)
set_option maxRecDepth 100000 in
def j_Qry_readBys_15 (post : St → Prop) (rec15 : Nat → Int32 → Int32 → St → Prop) (o : Nat) (l1 : Int32) (l2 : Int32) (x : St) : Prop := ((8 < l2 → post x) ∧ (¬ 8 < l2 → ((l1 = 0 → post x) ∧ (¬ l1 = 0 → (∃ q4591 : Nat, fR x o 17 = some q4591 ∧ wp_Scn_next (fun (r4593 : Int32) (x4592 : St) => (((fI x4592 o 5) < 8 → wp_Qry_readColumn (fun (r4596 : Int32) (x4595 : St) => (∃ q4597 : Nat, fR x4595 o 17 = some q4597 ∧ wp_Scn_good (fun (r4599 : Int32) (x4598 : St) => ((r4599 = 0 → j_Qry_readBys_91 post rec15 o l1 l2 r4596 x4598) ∧ (¬ r4599 = 0 → wp_Qry_isBy (fun (r4602 : Int32) (x4601 : St) => ((r4602 = 0 → j_Qry_readBys_91 post rec15 o l1 l2 r4596 x4601) ∧ (¬ r4602 = 0 → (∃ q4604 : Nat, fR x4601 o 17 = some q4604 ∧ wp_Scn_refuse (fun (x4605 : St) => j_Qry_readBys_91 post rec15 o l1 l2 r4596 x4605) q4604 (fI x4601 o 19) x4601)))) o r4596 x4598))) q4597 x4595)) o x4592) ∧ (¬ (fI x4592 o 5) < 8 → (∃ q4606 : Nat, fR x4592 o 17 = some q4606 ∧ (∃ q4607 : Nat, fR x4592 o 17 = some q4607 ∧ wp_Scn_refuse (fun (x4608 : St) => post x4608) q4606 (fI x4592 q4607 2) x4592))))) q4591 x)))))
set_option maxHeartbeats 4000000 in
set_option maxRecDepth 100000 in
theorem t_Qry_readBys_15 {p : Program} {l : Launch} {e : Env} {R : Room} {s : State} {m : MethodId} {args : Array Value} {below : List Frame} {meth : Method} {c : Code} {cells slots : Nat} {Q : State → Prop} {dC : Nat → ClassId} {dI : Nat → Nat → Nat} {cI cB cJ cZ : ClassId} {A : Nat → Prop} {ad : Nat → Nat} {NN : Nat} {E : Heap} {tM tC : Nat} {kK kV : Nat → Nat} {post : St → Prop} {rec15 : Nat → Int32 → Int32 → St → Prop} (hx : p.tables.exec = Jvm.exec) (hb : c.code = b_Qry_readBys) (hml : c.maxLocals = 4) (hown : s.vm.findClass R_Qry = some m.cls) (hT : ∀ w ∈ TG, w.before args s = true) (hK : va_K (dC, dI) CL (TY cI cB cJ cZ) s) (hN : NW s) (hA : ∀ q : Nat, s.heap.size ≤ q → A q) (hRc : cells ≤ R.cells) (hRs : slots ≤ R.slots) (hRf : 8 ≤ R.frames) (hRl : 287 ≤ R.locals) (hNN : 152 ≤ NN) (hE : CE E tM tC kK kV A s) (hret : ∀ (x : St) (H : Heap) (locs : List Loc) (pc : Nat) (ls : Array Slot), decode b_Qry_readBys pc = .ok (.return_, 1) → post x → Wd dC dI cI cB cJ cZ ad stC kcC NN A x H → va_S A s.heap H locs → W p l e R s m args below meth c H locs cells slots Q (F0 m pc ls [])) (hrec15 : ∀ (o : Nat) (l1 : Int32) (l2 : Int32) (x : St) (H : Heap) (locs : List Loc) (ls : Array Slot), (o < NN ∧ kcC o = 9) → rec15 o l1 l2 x → Wd dC dI cI cB cJ cZ ad stC kcC NN A x H → va_S A s.heap H locs → lv_has ls 4 [(0, .ref (ad o)), (1, .int l1), (2, .int l2)] → W p l e R s m args below meth c H locs cells slots Q (F0 m 15 ls [])) : ∀ (o : Nat) (l1 : Int32) (l2 : Int32) (x : St) (H : Heap) (locs : List Loc) (ls : Array Slot), (o < NN ∧ kcC o = 9) → j_Qry_readBys_15 post rec15 o l1 l2 x → Wd dC dI cI cB cJ cZ ad stC kcC NN A x H → va_S A s.heap H locs → lv_has ls 4 [(0, .ref (ad o)), (1, .int l1), (2, .int l2)] → W p l e R s m args below meth c H locs cells slots Q (F0 m 15 ls []) := by
  intro o l1 l2 x H locs ls fo hw hW hS hl
  unfold j_Qry_readBys_15 at hw
  refine lv_iload_n hx hb d_Qry_readBys_15 rfl (lv_at hl 2 rfl) ?_
  refine lv_bipush (v := 8) hx hb d_Qry_readBys_16 (by decide) ?_
  refine lv_icmp_gt (tgt := 145) hx hb d_Qry_readBys_18 (by decide) (fun c4589 => ?_) (fun c4589 => ?_)
  · have hw := hw.1 c4589
    exact hret x H locs 145 ls d_Qry_readBys_145 hw hW hS
  · have hw := hw.2 c4589
    refine lv_iload_n hx hb d_Qry_readBys_21 rfl (lv_at hl 1 rfl) ?_
    refine lv_if_eq (tgt := 145) hx hb d_Qry_readBys_22 (by decide) (fun c4590 => ?_) (fun c4590 => ?_)
    · have hw := hw.1 c4590
      exact hret x H locs 145 ls d_Qry_readBys_145 hw hW hS
    · have hw := hw.2 c4590
      refine lv_aload_n hx hb d_Qry_readBys_25 rfl (lv_at hl 0 rfl) ?_
      obtain ⟨q4591, hq4591, hw⟩ := hw
      refine w_getr (q := q4591) (k := 17) (t := 9) (C := R_Qry) (T := F_Qry) (N := 20) hx hb hT hown hK hW fo.1 fo.2 (by decide) in_Qry rfl rfl (by decide) rfl fr_Qry_17 w_3_105 d_Qry_readBys_26 hq4591 (fun aq4591 bq4591 => ?_)
      have fq4591 : q4591 < NN ∧ kcC q4591 = 2 := ⟨aq4591, bq4591⟩
      have hF := hW.free hS hA
      refine va_calli (va_runV (C := R_Scn) (As := []) (rest := []) ⟨hx, hb, hml, hown, hT⟩ (k_Scn_next l dC dI cI cB cJ cZ ad NN E tM tC kK kV hNN H.size q4591 x fq4591 hw) ⟨callB_of 0 hT (gw_in w_4_110) rfl rfl rfl (hT _ w_1_4) (hT _ w_7_148) (by decide +kernel) ⟨Nat.le_trans (by decide) hRf, Nat.le_trans (by decide) hRl⟩, hT _ w_4_108, hT _ w_4_109⟩ ⟨PV.blind, va_recv hK hW.1 (ci := 2) (q0 := q4591) rfl (pic_obj fq4591.1 fq4591.2 (by decide)), PV.at _ hW hK hN hE hS hF⟩ rfl rfl hl.1 rfl (lv_room (Nat.le_of_ble_eq_true rfl)) d_Qry_readBys_29 ⟨hRc, hRs⟩) hS (fun q _ h => hF q h) hF (fun r4593 x4592 t H locs ht hvm hw hB hz1 hk1 hS => ?_)
      have hW := Wd.back hB ht hF
      clear hB ht hF hz1 hk1 hvm
      refine lv_pop hx hb d_Qry_readBys_32 rfl ?_
      refine lv_aload_n hx hb d_Qry_readBys_33 rfl (lv_at hl 0 rfl) ?_
      refine w_geti (k := 5) (t := 9) (C := R_Qry) (T := F_Qry) (N := 20) hx hb hT hown hK hW fo.1 fo.2 (by decide) in_Qry rfl rfl (by decide) rfl fr_Qry_5 w_3_83 d_Qry_readBys_34 ?_
      refine lv_bipush (v := 8) hx hb d_Qry_readBys_37 (by decide) ?_
      refine lv_icmp_lt (tgt := 57) hx hb d_Qry_readBys_39 (by decide) (fun c4594 => ?_) (fun c4594 => ?_)
      · have hw := hw.1 c4594
        refine lv_aload_n hx hb d_Qry_readBys_57 rfl (lv_at hl 0 rfl) ?_
        have hF := hW.free hS hA
        refine va_calli (va_runV (C := R_Qry) (As := []) (rest := []) ⟨hx, hb, hml, hown, hT⟩ (k_Qry_readColumn l dC dI cI cB cJ cZ ad NN E tM tC kK kV hNN H.size o x4592 fo hw) ⟨callB_of 0 hT (gw_in w_7_191) rfl rfl rfl (hT _ w_1_12) (hT _ w_7_188) (by decide +kernel) ⟨Nat.le_trans (by decide) hRf, Nat.le_trans (by decide) hRl⟩, hT _ w_7_190, hT _ ws_73⟩ ⟨PV.blind, va_recv hK hW.1 (ci := 9) (q0 := o) rfl (pic_obj fo.1 fo.2 (by decide)), PV.at _ hW hK hN hE hS hF⟩ rfl rfl hl.1 rfl (lv_room (Nat.le_of_ble_eq_true rfl)) d_Qry_readBys_58 ⟨hRc, hRs⟩) hS (fun q _ h => hF q h) hF (fun r4596 x4595 t H locs ht hvm hw hB hz1 hk1 hS => ?_)
        have hW := Wd.back hB ht hF
        clear hB ht hF hz1 hk1 hvm
        refine lv_istore_n (lv' := [(3, .int r4596), (0, .ref (ad o)), (1, .int l1), (2, .int l2)]) hx hb d_Qry_readBys_61 rfl hl (by decide) rfl (fun ls hl => ?_)
        refine lv_aload_n hx hb d_Qry_readBys_62 rfl (lv_at hl 1 rfl) ?_
        obtain ⟨q4597, hq4597, hw⟩ := hw
        refine w_getr (q := q4597) (k := 17) (t := 9) (C := R_Qry) (T := F_Qry) (N := 20) hx hb hT hown hK hW fo.1 fo.2 (by decide) in_Qry rfl rfl (by decide) rfl fr_Qry_17 w_3_105 d_Qry_readBys_63 hq4597 (fun aq4597 bq4597 => ?_)
        have fq4597 : q4597 < NN ∧ kcC q4597 = 2 := ⟨aq4597, bq4597⟩
        have hF := hW.free hS hA
        refine va_calli (va_runV (C := R_Scn) (As := []) (rest := []) ⟨hx, hb, hml, hown, hT⟩ (k_Scn_good l dC dI cI cB cJ cZ ad NN E tM tC kK kV hNN H.size q4597 x4595 fq4597 hw) ⟨callB_of 0 hT (gw_in w_4_106) rfl rfl rfl (hT _ w_1_4) (hT _ w_7_147) (by decide +kernel) ⟨Nat.le_trans (by decide) hRf, Nat.le_trans (by decide) hRl⟩, hT _ w_4_104, hT _ w_4_105⟩ ⟨PV.blind, va_recv hK hW.1 (ci := 2) (q0 := q4597) rfl (pic_obj fq4597.1 fq4597.2 (by decide)), PV.at _ hW hK hN hE hS hF⟩ rfl rfl hl.1 rfl (lv_room (Nat.le_of_ble_eq_true rfl)) d_Qry_readBys_66 ⟨hRc, hRs⟩) hS (fun q _ h => hF q h) hF (fun r4599 x4598 t H locs ht hvm hw hB hz1 hk1 hS => ?_)
        have hW := Wd.back hB ht hF
        clear hB ht hF hz1 hk1 hvm
        refine lv_if_eq (tgt := 91) hx hb d_Qry_readBys_69 (by decide) (fun c4600 => ?_) (fun c4600 => ?_)
        · have hw := hw.1 c4600
          exact t_Qry_readBys_91 hx hb hml hown hT hK hN hA hRc hRs hRf hRl hNN hE hret hrec15 o l1 l2 r4596 x4598 H locs ls fo hw hW hS (lv_sub hl [1, 2, 3, 0] rfl)
        · have hw := hw.2 c4600
          refine lv_aload_n hx hb d_Qry_readBys_72 rfl (lv_at hl 1 rfl) ?_
          refine lv_iload_n hx hb d_Qry_readBys_73 rfl (lv_at hl 0 rfl) ?_
          have hF := hW.free hS hA
          refine va_calli (va_runV (C := R_Qry) (As := [.int r4596]) (rest := []) ⟨hx, hb, hml, hown, hT⟩ (k_Qry_isBy l dC dI cI cB cJ cZ ad NN E tM tC kK kV hNN H.size o r4596 x4598 fo hw) ⟨callB_of 1 hT (gw_in w_8_11) rfl rfl rfl (hT _ w_1_12) (hT _ w_8_8) (by decide +kernel) ⟨Nat.le_trans (by decide) hRf, Nat.le_trans (by decide) hRl⟩, hT _ w_8_10, hT _ ws_85⟩ ⟨PV.blind, va_recv hK hW.1 (ci := 9) (q0 := o) rfl (pic_obj fo.1 fo.2 (by decide)), PV.at _ hW hK hN hE hS hF⟩ rfl rfl hl.1 rfl (lv_room (Nat.le_of_ble_eq_true rfl)) d_Qry_readBys_74 ⟨hRc, hRs⟩) hS (fun q _ h => hF q h) hF (fun r4602 x4601 t H locs ht hvm hw hB hz1 hk1 hS => ?_)
          have hW := Wd.back hB ht hF
          clear hB ht hF hz1 hk1 hvm
          refine lv_if_eq (tgt := 91) hx hb d_Qry_readBys_77 (by decide) (fun c4603 => ?_) (fun c4603 => ?_)
          · have hw := hw.1 c4603
            exact t_Qry_readBys_91 hx hb hml hown hT hK hN hA hRc hRs hRf hRl hNN hE hret hrec15 o l1 l2 r4596 x4601 H locs ls fo hw hW hS (lv_sub hl [1, 2, 3, 0] rfl)
          · have hw := hw.2 c4603
            refine lv_aload_n hx hb d_Qry_readBys_80 rfl (lv_at hl 1 rfl) ?_
            obtain ⟨q4604, hq4604, hw⟩ := hw
            refine w_getr (q := q4604) (k := 17) (t := 9) (C := R_Qry) (T := F_Qry) (N := 20) hx hb hT hown hK hW fo.1 fo.2 (by decide) in_Qry rfl rfl (by decide) rfl fr_Qry_17 w_3_105 d_Qry_readBys_81 hq4604 (fun aq4604 bq4604 => ?_)
            have fq4604 : q4604 < NN ∧ kcC q4604 = 2 := ⟨aq4604, bq4604⟩
            refine lv_aload_n hx hb d_Qry_readBys_84 rfl (lv_at hl 1 rfl) ?_
            refine w_geti (k := 19) (t := 9) (C := R_Qry) (T := F_Qry) (N := 20) hx hb hT hown hK hW fo.1 fo.2 (by decide) in_Qry rfl rfl (by decide) rfl fr_Qry_19 w_3_107 d_Qry_readBys_85 ?_
            have hF := hW.free hS hA
            refine va_callv (va_runV (C := R_Scn) (As := [.int (fI x4601 o 19)]) (rest := []) ⟨hx, hb, hml, hown, hT⟩ (k_Scn_refuse l dC dI cI cB cJ cZ ad NN E tM tC kK kV hNN H.size q4604 (fI x4601 o 19) x4601 fq4604 hw) ⟨callB_of 1 hT (gw_in w_4_128) rfl rfl rfl (hT _ w_1_4) (hT _ w_7_149) (by decide +kernel) ⟨Nat.le_trans (by decide) hRf, Nat.le_trans (by decide) hRl⟩, hT _ w_4_126, hT _ w_4_127⟩ ⟨PV.blind, va_recv hK hW.1 (ci := 2) (q0 := q4604) rfl (pic_obj fq4604.1 fq4604.2 (by decide)), PV.at _ hW hK hN hE hS hF⟩ rfl rfl hl.1 rfl (lv_room (Nat.le_of_ble_eq_true rfl)) d_Qry_readBys_88 ⟨hRc, hRs⟩) hS (fun q _ h => hF q h) hF (fun  x4605 t H locs ht hvm hw hB hz1 hk1 hS => ?_)
            have hW := Wd.back hB ht hF
            clear hB ht hF hz1 hk1 hvm
            exact t_Qry_readBys_91 hx hb hml hown hT hK hN hA hRc hRs hRf hRl hNN hE hret hrec15 o l1 l2 r4596 x4605 H locs ls fo hw hW hS (lv_sub hl [1, 2, 3, 0] rfl)
      · have hw := hw.2 c4594
        refine lv_aload_n hx hb d_Qry_readBys_42 rfl (lv_at hl 0 rfl) ?_
        obtain ⟨q4606, hq4606, hw⟩ := hw
        refine w_getr (q := q4606) (k := 17) (t := 9) (C := R_Qry) (T := F_Qry) (N := 20) hx hb hT hown hK hW fo.1 fo.2 (by decide) in_Qry rfl rfl (by decide) rfl fr_Qry_17 w_3_105 d_Qry_readBys_43 hq4606 (fun aq4606 bq4606 => ?_)
        have fq4606 : q4606 < NN ∧ kcC q4606 = 2 := ⟨aq4606, bq4606⟩
        refine lv_aload_n hx hb d_Qry_readBys_46 rfl (lv_at hl 0 rfl) ?_
        obtain ⟨q4607, hq4607, hw⟩ := hw
        refine w_getr (q := q4607) (k := 17) (t := 9) (C := R_Qry) (T := F_Qry) (N := 20) hx hb hT hown hK hW fo.1 fo.2 (by decide) in_Qry rfl rfl (by decide) rfl fr_Qry_17 w_3_105 d_Qry_readBys_47 hq4607 (fun aq4607 bq4607 => ?_)
        have fq4607 : q4607 < NN ∧ kcC q4607 = 2 := ⟨aq4607, bq4607⟩
        refine w_geti (k := 2) (t := 2) (C := R_Scn) (T := F_Scn) (N := 8) hx hb hT hown hK hW fq4607.1 fq4607.2 (by decide) in_Scn rfl rfl (by decide) rfl fr_Scn_2 w_1_86 d_Qry_readBys_50 ?_
        have hF := hW.free hS hA
        refine va_callv (va_runV (C := R_Scn) (As := [.int (fI x4592 q4607 2)]) (rest := []) ⟨hx, hb, hml, hown, hT⟩ (k_Scn_refuse l dC dI cI cB cJ cZ ad NN E tM tC kK kV hNN H.size q4606 (fI x4592 q4607 2) x4592 fq4606 hw) ⟨callB_of 1 hT (gw_in w_4_128) rfl rfl rfl (hT _ w_1_4) (hT _ w_7_149) (by decide +kernel) ⟨Nat.le_trans (by decide) hRf, Nat.le_trans (by decide) hRl⟩, hT _ w_4_126, hT _ w_4_127⟩ ⟨PV.blind, va_recv hK hW.1 (ci := 2) (q0 := q4606) rfl (pic_obj fq4606.1 fq4606.2 (by decide)), PV.at _ hW hK hN hE hS hF⟩ rfl rfl hl.1 rfl (lv_room (Nat.le_of_ble_eq_true rfl)) d_Qry_readBys_53 ⟨hRc, hRs⟩) hS (fun q _ h => hF q h) hF (fun  x4608 t H locs ht hvm hw hB hz1 hk1 hS => ?_)
        have hW := Wd.back hB ht hF
        clear hB ht hF hz1 hk1 hvm
        exact hret x4608 H locs 56 ls d_Qry_readBys_56 hw hW hS
def wl_Qry_readBys_15 (post : St → Prop) : Nat → Nat → Int32 → Int32 → St → Prop
  | 0 => fun _ _ _ _ => False
  | n + 1 => j_Qry_readBys_15 post (wl_Qry_readBys_15 post n)
set_option maxHeartbeats 4000000 in
set_option maxRecDepth 100000 in
theorem tl_Qry_readBys_15 {p : Program} {l : Launch} {e : Env} {R : Room} {s : State} {m : MethodId} {args : Array Value} {below : List Frame} {meth : Method} {c : Code} {cells slots : Nat} {Q : State → Prop} {dC : Nat → ClassId} {dI : Nat → Nat → Nat} {cI cB cJ cZ : ClassId} {A : Nat → Prop} {ad : Nat → Nat} {NN : Nat} {E : Heap} {tM tC : Nat} {kK kV : Nat → Nat} {post : St → Prop} (hx : p.tables.exec = Jvm.exec) (hb : c.code = b_Qry_readBys) (hml : c.maxLocals = 4) (hown : s.vm.findClass R_Qry = some m.cls) (hT : ∀ w ∈ TG, w.before args s = true) (hK : va_K (dC, dI) CL (TY cI cB cJ cZ) s) (hN : NW s) (hA : ∀ q : Nat, s.heap.size ≤ q → A q) (hRc : cells ≤ R.cells) (hRs : slots ≤ R.slots) (hRf : 8 ≤ R.frames) (hRl : 287 ≤ R.locals) (hNN : 152 ≤ NN) (hE : CE E tM tC kK kV A s) (hret : ∀ (x : St) (H : Heap) (locs : List Loc) (pc : Nat) (ls : Array Slot), decode b_Qry_readBys pc = .ok (.return_, 1) → post x → Wd dC dI cI cB cJ cZ ad stC kcC NN A x H → va_S A s.heap H locs → W p l e R s m args below meth c H locs cells slots Q (F0 m pc ls []))  : ∀ n : Nat, ∀ (o : Nat) (l1 : Int32) (l2 : Int32) (x : St) (H : Heap) (locs : List Loc) (ls : Array Slot), (o < NN ∧ kcC o = 9) → wl_Qry_readBys_15 post n o l1 l2 x → Wd dC dI cI cB cJ cZ ad stC kcC NN A x H → va_S A s.heap H locs → lv_has ls 4 [(0, .ref (ad o)), (1, .int l1), (2, .int l2)] → W p l e R s m args below meth c H locs cells slots Q (F0 m 15 ls []) := by
  intro n
  induction n with
  | zero => intro o l1 l2 x H locs ls fo hw; exact hw.elim
  | succ n ih => intro o l1 l2 x H locs ls fo hw hW hS hl; exact t_Qry_readBys_15 hx hb hml hown hT hK hN hA hRc hRs hRf hRl hNN hE hret  ih o l1 l2 x H locs ls fo hw hW hS hl
set_option maxRecDepth 100000 in
def wp_Qry_readBys (post : St → Prop) (o : Nat) (x : St) : Prop := (∀ x4609 : St, x4609 = setI x o 7 1 → (∃ q4610 : Nat, fR x4609 o 17 = some q4610 ∧ wp_Scn_good (fun (r4612 : Int32) (x4611 : St) => ∃ n : Nat, wl_Qry_readBys_15 post n o r4612 0 x4611) q4610 x4609))
set_option maxHeartbeats 4000000 in
set_option maxRecDepth 100000 in
theorem t_Qry_readBys_e {p : Program} {l : Launch} {e : Env} {R : Room} {s : State} {m : MethodId} {args : Array Value} {below : List Frame} {meth : Method} {c : Code} {cells slots : Nat} {Q : State → Prop} {dC : Nat → ClassId} {dI : Nat → Nat → Nat} {cI cB cJ cZ : ClassId} {A : Nat → Prop} {ad : Nat → Nat} {NN : Nat} {E : Heap} {tM tC : Nat} {kK kV : Nat → Nat} {post : St → Prop} (hx : p.tables.exec = Jvm.exec) (hb : c.code = b_Qry_readBys) (hml : c.maxLocals = 4) (hown : s.vm.findClass R_Qry = some m.cls) (hT : ∀ w ∈ TG, w.before args s = true) (hK : va_K (dC, dI) CL (TY cI cB cJ cZ) s) (hN : NW s) (hA : ∀ q : Nat, s.heap.size ≤ q → A q) (hRc : cells ≤ R.cells) (hRs : slots ≤ R.slots) (hRf : 8 ≤ R.frames) (hRl : 287 ≤ R.locals) (hNN : 152 ≤ NN) (hE : CE E tM tC kK kV A s) (hret : ∀ (x : St) (H : Heap) (locs : List Loc) (pc : Nat) (ls : Array Slot), decode b_Qry_readBys pc = .ok (.return_, 1) → post x → Wd dC dI cI cB cJ cZ ad stC kcC NN A x H → va_S A s.heap H locs → W p l e R s m args below meth c H locs cells slots Q (F0 m pc ls [])) : ∀ (o : Nat) (x : St) (H : Heap) (locs : List Loc) (ls : Array Slot), (o < NN ∧ kcC o = 9) → wp_Qry_readBys post o x → Wd dC dI cI cB cJ cZ ad stC kcC NN A x H → va_S A s.heap H locs → lv_has ls 4 [(0, .ref (ad o))] → W p l e R s m args below meth c H locs cells slots Q (F0 m 0 ls []) := by
  intro o x H locs ls fo hw hW hS hl
  unfold wp_Qry_readBys at hw
  refine lv_aload_n hx hb d_Qry_readBys_0 rfl (lv_at hl 0 rfl) ?_
  refine lv_iconst (v := 1) hx hb d_Qry_readBys_1 (by decide) ?_
  refine w_puti (ty := .boolean) (k := 7) (t := 9) (C := R_Qry) (T := F_Qry) (N := 20) hx hb hT hown hK hW hS fo.1 fo.2 (by decide) in_Qry t_Qry t_Qry_ok n_Qry rfl rfl (by decide) rfl fr_Qry_7 w_3_87 (by decide +kernel) rfl rfl d_Qry_readBys_2 (fun H locs hW hS => ?_)
  obtain ⟨x4609, ex4609⟩ : ∃ y : St, y = setI x o 7 1 := ⟨_, rfl⟩
  rw [← ex4609] at hW
  have hw := hw x4609 ex4609
  refine lv_aload_n hx hb d_Qry_readBys_5 rfl (lv_at hl 0 rfl) ?_
  obtain ⟨q4610, hq4610, hw⟩ := hw
  refine w_getr (q := q4610) (k := 17) (t := 9) (C := R_Qry) (T := F_Qry) (N := 20) hx hb hT hown hK hW fo.1 fo.2 (by decide) in_Qry rfl rfl (by decide) rfl fr_Qry_17 w_3_105 d_Qry_readBys_6 hq4610 (fun aq4610 bq4610 => ?_)
  have fq4610 : q4610 < NN ∧ kcC q4610 = 2 := ⟨aq4610, bq4610⟩
  have hF := hW.free hS hA
  refine va_calli (va_runV (C := R_Scn) (As := []) (rest := []) ⟨hx, hb, hml, hown, hT⟩ (k_Scn_good l dC dI cI cB cJ cZ ad NN E tM tC kK kV hNN H.size q4610 x4609 fq4610 hw) ⟨callB_of 0 hT (gw_in w_4_106) rfl rfl rfl (hT _ w_1_4) (hT _ w_7_147) (by decide +kernel) ⟨Nat.le_trans (by decide) hRf, Nat.le_trans (by decide) hRl⟩, hT _ w_4_104, hT _ w_4_105⟩ ⟨PV.blind, va_recv hK hW.1 (ci := 2) (q0 := q4610) rfl (pic_obj fq4610.1 fq4610.2 (by decide)), PV.at _ hW hK hN hE hS hF⟩ rfl rfl hl.1 rfl (lv_room (Nat.le_of_ble_eq_true rfl)) d_Qry_readBys_9 ⟨hRc, hRs⟩) hS (fun q _ h => hF q h) hF (fun r4612 x4611 t H locs ht hvm hw hB hz1 hk1 hS => ?_)
  have hW := Wd.back hB ht hF
  clear hB ht hF hz1 hk1 hvm
  refine lv_istore_n (lv' := [(1, .int r4612), (0, .ref (ad o))]) hx hb d_Qry_readBys_12 rfl hl (by decide) rfl (fun ls hl => ?_)
  refine lv_iconst (v := 0) hx hb d_Qry_readBys_13 (by decide) ?_
  refine lv_istore_n (lv' := [(2, .int 0), (1, .int r4612), (0, .ref (ad o))]) hx hb d_Qry_readBys_14 rfl hl (by decide) rfl (fun ls hl => ?_)
  obtain ⟨n, hw⟩ := hw
  exact tl_Qry_readBys_15 hx hb hml hown hT hK hN hA hRc hRs hRf hRl hNN hE hret  n o r4612 0 x4611 H locs ls fo hw hW hS (lv_sub hl [2, 1, 0] rfl)
set_option maxHeartbeats 4000000 in
set_option maxRecDepth 100000 in
theorem k_Qry_readBys (l : Launch) (dC : Nat → ClassId) (dI : Nat → Nat → Nat) (cI cB cJ cZ : ClassId) (ad : Nat → Nat) (NN : Nat) (E : Heap) (tM tC : Nat) (kK kV : Nat → Nat) (hNN : 152 ≤ NN) (sz : Nat) (o : Nat) (x : St) (fo : o < NN ∧ kcC o = 9) {post : St → Prop} (hw : wp_Qry_readBys post o x) : Met l y_Qry_readBys (wsOf y_Qry_readBys b_Qry_readBys 4 (none)) ({ frames := 8, cells := 0, slots := 0, locals := 287 }) (va_Pc [.ref (ad o)] (PV dC dI cI cB cJ cZ ad stC kcC NN E tM tC kK kV sz x)) (va_Qv (fun (y : St) => post y) (fun y t => Wd dC dI cI cB cJ cZ ad stC kcC NN (va_A (pic ad stC kcC NN cI cB cJ cZ x) sz) y t.heap) (va_A (pic ad stC kcC NN cI cB cJ cZ x) sz)) 0 0 (va_A (pic ad stC kcC NN cI cB cJ cZ x) sz) := by
  refine Met.ofW (cc := b_Qry_readBys) (maxL := 4) (ret := none) (by decide) rfl ?_
  intro p e s m args below meth c s₁ B hml hv
  obtain ⟨rfl, ⟨hsz, hW0, hK, hN⟩, hE⟩ := hv
  have hx := B.exec
  have hb := B.bytes
  have hr := B.returns
  have hts := atoms_spec B.pre
  have hT : ∀ w ∈ TG, w.before _ s = true := fun w h => hts w (List.mem_cons_of_mem _ h)
  have hown : s.vm.findClass R_Qry = some m.cls := findClass_of_methodNamed B.named
  have hlocks := B.notSynchronized
  subst hsz
  have hW : Wd dC dI cI cB cJ cZ ad stC kcC NN (va_A (pic ad stC kcC NN cI cB cJ cZ x) s.heap.size) x s.heap := ⟨hW0.1, hW0.2.1.self (sz := s.heap.size), hW0.2.2⟩
  generalize hAe : va_A (pic ad stC kcC NN cI cB cJ cZ x) s.heap.size = A at hW hE ⊢
  have hA : ∀ q : Nat, s.heap.size ≤ q → A q := fun q h => by rw [← hAe]; exact Or.inr h
  have hS : va_S A s.heap s.heap [] := va_S.rf
  have hl := lv_entry ([.ref (ad o)]) (n := 4) (Nat.le_of_ble_eq_true rfl)
  rw [lg_entry_eq]
  generalize (lg_sl ([.ref (ad o)]) ++ List.replicate (4 - (lg_sl ([.ref (ad o)])).length) Slot.unset).toArray = ls at hl ⊢
  have hl : lv_has ls 4 [(0, .ref (ad o))] := hl
  exact t_Qry_readBys_e hx hb hml hown hT hK hN hA (Nat.le_refl 0) (Nat.le_refl 0) (Nat.le_refl 8) (Nat.le_refl 287) hNN hE (fun x H locs pc ls hd hp hW hS => W.vret hx hb hr (fun t ht hM => ⟨⟨x, rfl, hp, Wd.back hW ht.symm (fun _ z => z)⟩, hS.F ht⟩) hS.2.2 hd hlocks)  o x _ _ ls fo hw hW hS hl
set_option maxRecDepth 100000 in
def j_Qry_checkItems_45 (post : St → Prop) (rec2 : Nat → Int32 → St → Prop) (o : Nat) (l1 : Int32) (x : St) : Prop := rec2 o (l1 + 1) x
set_option maxHeartbeats 4000000 in
set_option maxRecDepth 100000 in
theorem t_Qry_checkItems_45 {p : Program} {l : Launch} {e : Env} {R : Room} {s : State} {m : MethodId} {args : Array Value} {below : List Frame} {meth : Method} {c : Code} {cells slots : Nat} {Q : State → Prop} {dC : Nat → ClassId} {dI : Nat → Nat → Nat} {cI cB cJ cZ : ClassId} {A : Nat → Prop} {ad : Nat → Nat} {NN : Nat} {E : Heap} {tM tC : Nat} {kK kV : Nat → Nat} {post : St → Prop} {rec2 : Nat → Int32 → St → Prop} (hx : p.tables.exec = Jvm.exec) (hb : c.code = b_Qry_checkItems) (hml : c.maxLocals = 2) (hown : s.vm.findClass R_Qry = some m.cls) (hT : ∀ w ∈ TG, w.before args s = true) (hK : va_K (dC, dI) CL (TY cI cB cJ cZ) s) (hN : NW s) (hA : ∀ q : Nat, s.heap.size ≤ q → A q) (hRc : cells ≤ R.cells) (hRs : slots ≤ R.slots) (hRf : 1 ≤ R.frames) (hRl : 22 ≤ R.locals) (hNN : 152 ≤ NN) (hE : CE E tM tC kK kV A s) (hret : ∀ (x : St) (H : Heap) (locs : List Loc) (pc : Nat) (ls : Array Slot), decode b_Qry_checkItems pc = .ok (.return_, 1) → post x → Wd dC dI cI cB cJ cZ ad stC kcC NN A x H → va_S A s.heap H locs → W p l e R s m args below meth c H locs cells slots Q (F0 m pc ls [])) (hrec2 : ∀ (o : Nat) (l1 : Int32) (x : St) (H : Heap) (locs : List Loc) (ls : Array Slot), (o < NN ∧ kcC o = 9) → rec2 o l1 x → Wd dC dI cI cB cJ cZ ad stC kcC NN A x H → va_S A s.heap H locs → lv_has ls 2 [(0, .ref (ad o)), (1, .int l1)] → W p l e R s m args below meth c H locs cells slots Q (F0 m 2 ls [])) : ∀ (o : Nat) (l1 : Int32) (x : St) (H : Heap) (locs : List Loc) (ls : Array Slot), (o < NN ∧ kcC o = 9) → j_Qry_checkItems_45 post rec2 o l1 x → Wd dC dI cI cB cJ cZ ad stC kcC NN A x H → va_S A s.heap H locs → lv_has ls 2 [(0, .ref (ad o)), (1, .int l1)] → W p l e R s m args below meth c H locs cells slots Q (F0 m 45 ls []) := by
  intro o l1 x H locs ls fo hw hW hS hl
  unfold j_Qry_checkItems_45 at hw
  refine lv_iinc (v := (l1 + 1)) (lv' := [(1, .int (l1 + 1)), (0, .ref (ad o))]) hx hb d_Qry_checkItems_45 hl (k := 1) rfl rfl (by decide) rfl (fun ls hl => ?_)
  refine lv_goto (tgt := 2) hx hb d_Qry_checkItems_48 (by decide) ?_
  exact hrec2 o (l1 + 1) x H locs ls fo hw hW hS (lv_sub hl [1, 0] rfl)
set_option maxRecDepth 100000 in
def j_Qry_checkItems_2 (post : St → Prop) (rec2 : Nat → Int32 → St → Prop) (o : Nat) (l1 : Int32) (x : St) : Prop := (((fI x o 1) ≤ l1 → post x) ∧ (¬ (fI x o 1) ≤ l1 → (vp_in l1 (fN x (stC o 2)) ∧ ((¬ (rA x (stC o 2) l1) = 0 → j_Qry_checkItems_45 post rec2 o l1 x) ∧ ((rA x (stC o 2) l1) = 0 → (vp_in l1 (fN x (stC o 3)) ∧ wp_Qry_isBy (fun (r4616 : Int32) (x4615 : St) => ((¬ r4616 = 0 → j_Qry_checkItems_45 post rec2 o l1 x4615) ∧ (r4616 = 0 → (∃ q4618 : Nat, fR x4615 o 17 = some q4618 ∧ (vp_in l1 (fN x4615 (stC o 4)) ∧ wp_Scn_refuse (fun (x4619 : St) => j_Qry_checkItems_45 post rec2 o l1 x4619) q4618 (rA x4615 (stC o 4) l1) x4615))))) o (rA x (stC o 3) l1) x))))))
set_option maxHeartbeats 4000000 in
set_option maxRecDepth 100000 in
theorem t_Qry_checkItems_2 {p : Program} {l : Launch} {e : Env} {R : Room} {s : State} {m : MethodId} {args : Array Value} {below : List Frame} {meth : Method} {c : Code} {cells slots : Nat} {Q : State → Prop} {dC : Nat → ClassId} {dI : Nat → Nat → Nat} {cI cB cJ cZ : ClassId} {A : Nat → Prop} {ad : Nat → Nat} {NN : Nat} {E : Heap} {tM tC : Nat} {kK kV : Nat → Nat} {post : St → Prop} {rec2 : Nat → Int32 → St → Prop} (hx : p.tables.exec = Jvm.exec) (hb : c.code = b_Qry_checkItems) (hml : c.maxLocals = 2) (hown : s.vm.findClass R_Qry = some m.cls) (hT : ∀ w ∈ TG, w.before args s = true) (hK : va_K (dC, dI) CL (TY cI cB cJ cZ) s) (hN : NW s) (hA : ∀ q : Nat, s.heap.size ≤ q → A q) (hRc : cells ≤ R.cells) (hRs : slots ≤ R.slots) (hRf : 1 ≤ R.frames) (hRl : 22 ≤ R.locals) (hNN : 152 ≤ NN) (hE : CE E tM tC kK kV A s) (hret : ∀ (x : St) (H : Heap) (locs : List Loc) (pc : Nat) (ls : Array Slot), decode b_Qry_checkItems pc = .ok (.return_, 1) → post x → Wd dC dI cI cB cJ cZ ad stC kcC NN A x H → va_S A s.heap H locs → W p l e R s m args below meth c H locs cells slots Q (F0 m pc ls [])) (hrec2 : ∀ (o : Nat) (l1 : Int32) (x : St) (H : Heap) (locs : List Loc) (ls : Array Slot), (o < NN ∧ kcC o = 9) → rec2 o l1 x → Wd dC dI cI cB cJ cZ ad stC kcC NN A x H → va_S A s.heap H locs → lv_has ls 2 [(0, .ref (ad o)), (1, .int l1)] → W p l e R s m args below meth c H locs cells slots Q (F0 m 2 ls [])) : ∀ (o : Nat) (l1 : Int32) (x : St) (H : Heap) (locs : List Loc) (ls : Array Slot), (o < NN ∧ kcC o = 9) → j_Qry_checkItems_2 post rec2 o l1 x → Wd dC dI cI cB cJ cZ ad stC kcC NN A x H → va_S A s.heap H locs → lv_has ls 2 [(0, .ref (ad o)), (1, .int l1)] → W p l e R s m args below meth c H locs cells slots Q (F0 m 2 ls []) := by
  intro o l1 x H locs ls fo hw hW hS hl
  unfold j_Qry_checkItems_2 at hw
  refine lv_iload_n hx hb d_Qry_checkItems_2 rfl (lv_at hl 1 rfl) ?_
  refine lv_aload_n hx hb d_Qry_checkItems_3 rfl (lv_at hl 0 rfl) ?_
  refine w_geti (k := 1) (t := 9) (C := R_Qry) (T := F_Qry) (N := 20) hx hb hT hown hK hW fo.1 fo.2 (by decide) in_Qry rfl rfl (by decide) rfl fr_Qry_1 w_3_76 d_Qry_checkItems_4 ?_
  refine lv_icmp_ge (tgt := 51) hx hb d_Qry_checkItems_7 (by decide) (fun c4613 => ?_) (fun c4613 => ?_)
  · have hw := hw.1 c4613
    exact hret x H locs 51 ls d_Qry_checkItems_51 hw hW hS
  · have hw := hw.2 c4613
    refine lv_aload_n hx hb d_Qry_checkItems_10 rfl (lv_at hl 0 rfl) ?_
    refine w_getf (q := (stC o 2)) (k := 2) (t := 9) (C := R_Qry) (T := F_Qry) (N := 20) hx hb hT hown hK hW fo.1 fo.2 (by decide) in_Qry rfl rfl (by decide) rfl fr_Qry_2 w_3_78 d_Qry_checkItems_11 rfl ?_
    refine lv_iload_n hx hb d_Qry_checkItems_14 rfl (lv_at hl 1 rfl) ?_
    obtain ⟨hi, hw⟩ := hw
    refine w_iald (o := (stC o 2)) hx hb hK hW (st_ty hNN fo.1 fo.2 rfl).1 (st_ty hNN fo.1 fo.2 rfl).2 hi d_Qry_checkItems_15 ?_
    refine lv_if_ne (tgt := 45) hx hb d_Qry_checkItems_16 (by decide) (fun c4614 => ?_) (fun c4614 => ?_)
    · have hw := hw.1 c4614
      exact t_Qry_checkItems_45 hx hb hml hown hT hK hN hA hRc hRs hRf hRl hNN hE hret hrec2 o l1 x H locs ls fo hw hW hS (lv_sub hl [0, 1] rfl)
    · have hw := hw.2 c4614
      refine lv_aload_n hx hb d_Qry_checkItems_19 rfl (lv_at hl 0 rfl) ?_
      refine lv_aload_n hx hb d_Qry_checkItems_20 rfl (lv_at hl 0 rfl) ?_
      refine w_getf (q := (stC o 3)) (k := 3) (t := 9) (C := R_Qry) (T := F_Qry) (N := 20) hx hb hT hown hK hW fo.1 fo.2 (by decide) in_Qry rfl rfl (by decide) rfl fr_Qry_3 w_3_80 d_Qry_checkItems_21 rfl ?_
      refine lv_iload_n hx hb d_Qry_checkItems_24 rfl (lv_at hl 1 rfl) ?_
      obtain ⟨hi, hw⟩ := hw
      refine w_iald (o := (stC o 3)) hx hb hK hW (st_ty hNN fo.1 fo.2 rfl).1 (st_ty hNN fo.1 fo.2 rfl).2 hi d_Qry_checkItems_25 ?_
      have hF := hW.free hS hA
      refine va_calli (va_runV (C := R_Qry) (As := [.int (rA x (stC o 3) l1)]) (rest := []) ⟨hx, hb, hml, hown, hT⟩ (k_Qry_isBy l dC dI cI cB cJ cZ ad NN E tM tC kK kV hNN H.size o (rA x (stC o 3) l1) x fo hw) ⟨callB_of 1 hT (gw_in w_8_11) rfl rfl rfl (hT _ w_1_12) (hT _ w_8_8) (by decide +kernel) ⟨Nat.le_trans (by decide) hRf, Nat.le_trans (by decide) hRl⟩, hT _ w_8_10, hT _ ws_85⟩ ⟨PV.blind, va_recv hK hW.1 (ci := 9) (q0 := o) rfl (pic_obj fo.1 fo.2 (by decide)), PV.at _ hW hK hN hE hS hF⟩ rfl rfl hl.1 rfl (lv_room (Nat.le_of_ble_eq_true rfl)) d_Qry_checkItems_26 ⟨hRc, hRs⟩) hS (fun q _ h => hF q h) hF (fun r4616 x4615 t H locs ht hvm hw hB hz1 hk1 hS => ?_)
      have hW := Wd.back hB ht hF
      clear hB ht hF hz1 hk1 hvm
      refine lv_if_ne (tgt := 45) hx hb d_Qry_checkItems_29 (by decide) (fun c4617 => ?_) (fun c4617 => ?_)
      · have hw := hw.1 c4617
        exact t_Qry_checkItems_45 hx hb hml hown hT hK hN hA hRc hRs hRf hRl hNN hE hret hrec2 o l1 x4615 H locs ls fo hw hW hS (lv_sub hl [0, 1] rfl)
      · have hw := hw.2 c4617
        refine lv_aload_n hx hb d_Qry_checkItems_32 rfl (lv_at hl 0 rfl) ?_
        obtain ⟨q4618, hq4618, hw⟩ := hw
        refine w_getr (q := q4618) (k := 17) (t := 9) (C := R_Qry) (T := F_Qry) (N := 20) hx hb hT hown hK hW fo.1 fo.2 (by decide) in_Qry rfl rfl (by decide) rfl fr_Qry_17 w_3_105 d_Qry_checkItems_33 hq4618 (fun aq4618 bq4618 => ?_)
        have fq4618 : q4618 < NN ∧ kcC q4618 = 2 := ⟨aq4618, bq4618⟩
        refine lv_aload_n hx hb d_Qry_checkItems_36 rfl (lv_at hl 0 rfl) ?_
        refine w_getf (q := (stC o 4)) (k := 4) (t := 9) (C := R_Qry) (T := F_Qry) (N := 20) hx hb hT hown hK hW fo.1 fo.2 (by decide) in_Qry rfl rfl (by decide) rfl fr_Qry_4 w_3_82 d_Qry_checkItems_37 rfl ?_
        refine lv_iload_n hx hb d_Qry_checkItems_40 rfl (lv_at hl 1 rfl) ?_
        obtain ⟨hi, hw⟩ := hw
        refine w_iald (o := (stC o 4)) hx hb hK hW (st_ty hNN fo.1 fo.2 rfl).1 (st_ty hNN fo.1 fo.2 rfl).2 hi d_Qry_checkItems_41 ?_
        have hF := hW.free hS hA
        refine va_callv (va_runV (C := R_Scn) (As := [.int (rA x4615 (stC o 4) l1)]) (rest := []) ⟨hx, hb, hml, hown, hT⟩ (k_Scn_refuse l dC dI cI cB cJ cZ ad NN E tM tC kK kV hNN H.size q4618 (rA x4615 (stC o 4) l1) x4615 fq4618 hw) ⟨callB_of 1 hT (gw_in w_4_128) rfl rfl rfl (hT _ w_1_4) (hT _ w_7_149) (by decide +kernel) ⟨Nat.le_trans (by decide) hRf, Nat.le_trans (by decide) hRl⟩, hT _ w_4_126, hT _ w_4_127⟩ ⟨PV.blind, va_recv hK hW.1 (ci := 2) (q0 := q4618) rfl (pic_obj fq4618.1 fq4618.2 (by decide)), PV.at _ hW hK hN hE hS hF⟩ rfl rfl hl.1 rfl (lv_room (Nat.le_of_ble_eq_true rfl)) d_Qry_checkItems_42 ⟨hRc, hRs⟩) hS (fun q _ h => hF q h) hF (fun  x4619 t H locs ht hvm hw hB hz1 hk1 hS => ?_)
        have hW := Wd.back hB ht hF
        clear hB ht hF hz1 hk1 hvm
        exact t_Qry_checkItems_45 hx hb hml hown hT hK hN hA hRc hRs hRf hRl hNN hE hret hrec2 o l1 x4619 H locs ls fo hw hW hS (lv_sub hl [0, 1] rfl)
def wl_Qry_checkItems_2 (post : St → Prop) : Nat → Nat → Int32 → St → Prop
  | 0 => fun _ _ _ => False
  | n + 1 => j_Qry_checkItems_2 post (wl_Qry_checkItems_2 post n)
set_option maxHeartbeats 4000000 in
set_option maxRecDepth 100000 in
theorem tl_Qry_checkItems_2 {p : Program} {l : Launch} {e : Env} {R : Room} {s : State} {m : MethodId} {args : Array Value} {below : List Frame} {meth : Method} {c : Code} {cells slots : Nat} {Q : State → Prop} {dC : Nat → ClassId} {dI : Nat → Nat → Nat} {cI cB cJ cZ : ClassId} {A : Nat → Prop} {ad : Nat → Nat} {NN : Nat} {E : Heap} {tM tC : Nat} {kK kV : Nat → Nat} {post : St → Prop} (hx : p.tables.exec = Jvm.exec) (hb : c.code = b_Qry_checkItems) (hml : c.maxLocals = 2) (hown : s.vm.findClass R_Qry = some m.cls) (hT : ∀ w ∈ TG, w.before args s = true) (hK : va_K (dC, dI) CL (TY cI cB cJ cZ) s) (hN : NW s) (hA : ∀ q : Nat, s.heap.size ≤ q → A q) (hRc : cells ≤ R.cells) (hRs : slots ≤ R.slots) (hRf : 1 ≤ R.frames) (hRl : 22 ≤ R.locals) (hNN : 152 ≤ NN) (hE : CE E tM tC kK kV A s) (hret : ∀ (x : St) (H : Heap) (locs : List Loc) (pc : Nat) (ls : Array Slot), decode b_Qry_checkItems pc = .ok (.return_, 1) → post x → Wd dC dI cI cB cJ cZ ad stC kcC NN A x H → va_S A s.heap H locs → W p l e R s m args below meth c H locs cells slots Q (F0 m pc ls []))  : ∀ n : Nat, ∀ (o : Nat) (l1 : Int32) (x : St) (H : Heap) (locs : List Loc) (ls : Array Slot), (o < NN ∧ kcC o = 9) → wl_Qry_checkItems_2 post n o l1 x → Wd dC dI cI cB cJ cZ ad stC kcC NN A x H → va_S A s.heap H locs → lv_has ls 2 [(0, .ref (ad o)), (1, .int l1)] → W p l e R s m args below meth c H locs cells slots Q (F0 m 2 ls []) := by
  intro n
  induction n with
  | zero => intro o l1 x H locs ls fo hw; exact hw.elim
  | succ n ih => intro o l1 x H locs ls fo hw hW hS hl; exact t_Qry_checkItems_2 hx hb hml hown hT hK hN hA hRc hRs hRf hRl hNN hE hret  ih o l1 x H locs ls fo hw hW hS hl
set_option maxRecDepth 100000 in
def wp_Qry_checkItems (post : St → Prop) (o : Nat) (x : St) : Prop := ∃ n : Nat, wl_Qry_checkItems_2 post n o 0 x
set_option maxHeartbeats 4000000 in
set_option maxRecDepth 100000 in
theorem t_Qry_checkItems_e {p : Program} {l : Launch} {e : Env} {R : Room} {s : State} {m : MethodId} {args : Array Value} {below : List Frame} {meth : Method} {c : Code} {cells slots : Nat} {Q : State → Prop} {dC : Nat → ClassId} {dI : Nat → Nat → Nat} {cI cB cJ cZ : ClassId} {A : Nat → Prop} {ad : Nat → Nat} {NN : Nat} {E : Heap} {tM tC : Nat} {kK kV : Nat → Nat} {post : St → Prop} (hx : p.tables.exec = Jvm.exec) (hb : c.code = b_Qry_checkItems) (hml : c.maxLocals = 2) (hown : s.vm.findClass R_Qry = some m.cls) (hT : ∀ w ∈ TG, w.before args s = true) (hK : va_K (dC, dI) CL (TY cI cB cJ cZ) s) (hN : NW s) (hA : ∀ q : Nat, s.heap.size ≤ q → A q) (hRc : cells ≤ R.cells) (hRs : slots ≤ R.slots) (hRf : 1 ≤ R.frames) (hRl : 22 ≤ R.locals) (hNN : 152 ≤ NN) (hE : CE E tM tC kK kV A s) (hret : ∀ (x : St) (H : Heap) (locs : List Loc) (pc : Nat) (ls : Array Slot), decode b_Qry_checkItems pc = .ok (.return_, 1) → post x → Wd dC dI cI cB cJ cZ ad stC kcC NN A x H → va_S A s.heap H locs → W p l e R s m args below meth c H locs cells slots Q (F0 m pc ls [])) : ∀ (o : Nat) (x : St) (H : Heap) (locs : List Loc) (ls : Array Slot), (o < NN ∧ kcC o = 9) → wp_Qry_checkItems post o x → Wd dC dI cI cB cJ cZ ad stC kcC NN A x H → va_S A s.heap H locs → lv_has ls 2 [(0, .ref (ad o))] → W p l e R s m args below meth c H locs cells slots Q (F0 m 0 ls []) := by
  intro o x H locs ls fo hw hW hS hl
  unfold wp_Qry_checkItems at hw
  refine lv_iconst (v := 0) hx hb d_Qry_checkItems_0 (by decide) ?_
  refine lv_istore_n (lv' := [(1, .int 0), (0, .ref (ad o))]) hx hb d_Qry_checkItems_1 rfl hl (by decide) rfl (fun ls hl => ?_)
  obtain ⟨n, hw⟩ := hw
  exact tl_Qry_checkItems_2 hx hb hml hown hT hK hN hA hRc hRs hRf hRl hNN hE hret  n o 0 x H locs ls fo hw hW hS (lv_sub hl [1, 0] rfl)
set_option maxHeartbeats 4000000 in
set_option maxRecDepth 100000 in
theorem k_Qry_checkItems (l : Launch) (dC : Nat → ClassId) (dI : Nat → Nat → Nat) (cI cB cJ cZ : ClassId) (ad : Nat → Nat) (NN : Nat) (E : Heap) (tM tC : Nat) (kK kV : Nat → Nat) (hNN : 152 ≤ NN) (sz : Nat) (o : Nat) (x : St) (fo : o < NN ∧ kcC o = 9) {post : St → Prop} (hw : wp_Qry_checkItems post o x) : Met l y_Qry_checkItems (wsOf y_Qry_checkItems b_Qry_checkItems 2 (none)) ({ frames := 1, cells := 0, slots := 0, locals := 22 }) (va_Pc [.ref (ad o)] (PV dC dI cI cB cJ cZ ad stC kcC NN E tM tC kK kV sz x)) (va_Qv (fun (y : St) => post y) (fun y t => Wd dC dI cI cB cJ cZ ad stC kcC NN (va_A (pic ad stC kcC NN cI cB cJ cZ x) sz) y t.heap) (va_A (pic ad stC kcC NN cI cB cJ cZ x) sz)) 0 0 (va_A (pic ad stC kcC NN cI cB cJ cZ x) sz) := by
  refine Met.ofW (cc := b_Qry_checkItems) (maxL := 2) (ret := none) (by decide) rfl ?_
  intro p e s m args below meth c s₁ B hml hv
  obtain ⟨rfl, ⟨hsz, hW0, hK, hN⟩, hE⟩ := hv
  have hx := B.exec
  have hb := B.bytes
  have hr := B.returns
  have hts := atoms_spec B.pre
  have hT : ∀ w ∈ TG, w.before _ s = true := fun w h => hts w (List.mem_cons_of_mem _ h)
  have hown : s.vm.findClass R_Qry = some m.cls := findClass_of_methodNamed B.named
  have hlocks := B.notSynchronized
  subst hsz
  have hW : Wd dC dI cI cB cJ cZ ad stC kcC NN (va_A (pic ad stC kcC NN cI cB cJ cZ x) s.heap.size) x s.heap := ⟨hW0.1, hW0.2.1.self (sz := s.heap.size), hW0.2.2⟩
  generalize hAe : va_A (pic ad stC kcC NN cI cB cJ cZ x) s.heap.size = A at hW hE ⊢
  have hA : ∀ q : Nat, s.heap.size ≤ q → A q := fun q h => by rw [← hAe]; exact Or.inr h
  have hS : va_S A s.heap s.heap [] := va_S.rf
  have hl := lv_entry ([.ref (ad o)]) (n := 2) (Nat.le_of_ble_eq_true rfl)
  rw [lg_entry_eq]
  generalize (lg_sl ([.ref (ad o)]) ++ List.replicate (2 - (lg_sl ([.ref (ad o)])).length) Slot.unset).toArray = ls at hl ⊢
  have hl : lv_has ls 2 [(0, .ref (ad o))] := hl
  exact t_Qry_checkItems_e hx hb hml hown hT hK hN hA (Nat.le_refl 0) (Nat.le_refl 0) (Nat.le_refl 1) (Nat.le_refl 22) hNN hE (fun x H locs pc ls hd hp hW hS => W.vret hx hb hr (fun t ht hM => ⟨⟨x, rfl, hp, Wd.back hW ht.symm (fun _ z => z)⟩, hS.F ht⟩) hS.2.2 hd hlocks)  o x _ _ ls fo hw hW hS hl
set_option maxRecDepth 100000 in
def j_Qry_readText_176 (post : Int32 → St → Prop) (o : Nat) (l1 : Nat) (l2 : Nat) (x : St) : Prop := (∃ q4620 : Nat, fR x o 17 = some q4620 ∧ post (fI x q4620 3) x)
set_option maxHeartbeats 4000000 in
set_option maxRecDepth 100000 in
theorem t_Qry_readText_176 {p : Program} {l : Launch} {e : Env} {R : Room} {s : State} {m : MethodId} {args : Array Value} {below : List Frame} {meth : Method} {c : Code} {cells slots : Nat} {Q : State → Prop} {dC : Nat → ClassId} {dI : Nat → Nat → Nat} {cI cB cJ cZ : ClassId} {A : Nat → Prop} {ad : Nat → Nat} {NN : Nat} {E : Heap} {tM tC : Nat} {kK kV : Nat → Nat} {post : Int32 → St → Prop} (hx : p.tables.exec = Jvm.exec) (hb : c.code = b_Qry_readText) (hml : c.maxLocals = 3) (hown : s.vm.findClass R_Qry = some m.cls) (hT : ∀ w ∈ TG, w.before args s = true) (hK : va_K (dC, dI) CL (TY cI cB cJ cZ) s) (hN : NW s) (hA : ∀ q : Nat, s.heap.size ≤ q → A q) (hRc : cells ≤ R.cells) (hRs : slots ≤ R.slots) (hRf : 211 ≤ R.frames) (hRl : 5363 ≤ R.locals) (hNN : 152 ≤ NN) (hE : CE E tM tC kK kV A s) (hret : ∀ (r : Int32) (x : St) (H : Heap) (locs : List Loc) (pc : Nat) (ls : Array Slot), decode b_Qry_readText pc = .ok (.ireturn, 1) → post r x → Wd dC dI cI cB cJ cZ ad stC kcC NN A x H → va_S A s.heap H locs → W p l e R s m args below meth c H locs cells slots Q (F0 m pc ls [.int r]))  : ∀ (o : Nat) (l1 : Nat) (l2 : Nat) (x : St) (H : Heap) (locs : List Loc) (ls : Array Slot), (o < NN ∧ kcC o = 9) → (l1 < NN ∧ kcC l1 = 2) → (l2 < NN ∧ kcC l2 = 3) → j_Qry_readText_176 post o l1 l2 x → Wd dC dI cI cB cJ cZ ad stC kcC NN A x H → va_S A s.heap H locs → lv_has ls 3 [(0, .ref (ad o)), (1, .ref (ad l1)), (2, .ref (ad l2))] → W p l e R s m args below meth c H locs cells slots Q (F0 m 176 ls []) := by
  intro o l1 l2 x H locs ls fo fl1 fl2 hw hW hS hl
  unfold j_Qry_readText_176 at hw
  refine lv_aload_n hx hb d_Qry_readText_176 rfl (lv_at hl 0 rfl) ?_
  obtain ⟨q4620, hq4620, hw⟩ := hw
  refine w_getr (q := q4620) (k := 17) (t := 9) (C := R_Qry) (T := F_Qry) (N := 20) hx hb hT hown hK hW fo.1 fo.2 (by decide) in_Qry rfl rfl (by decide) rfl fr_Qry_17 w_3_105 d_Qry_readText_177 hq4620 (fun aq4620 bq4620 => ?_)
  have fq4620 : q4620 < NN ∧ kcC q4620 = 2 := ⟨aq4620, bq4620⟩
  refine w_geti (k := 3) (t := 2) (C := R_Scn) (T := F_Scn) (N := 8) hx hb hT hown hK hW fq4620.1 fq4620.2 (by decide) in_Scn rfl rfl (by decide) rfl fr_Scn_3 w_1_90 d_Qry_readText_180 ?_
  exact hret (fI x q4620 3) x H locs 183 ls d_Qry_readText_183 hw hW hS
set_option maxRecDepth 100000 in
def j_Qry_readText_155 (post : Int32 → St → Prop) (o : Nat) (l1 : Nat) (l2 : Nat) (x : St) : Prop := (∃ q4621 : Nat, fR x o 17 = some q4621 ∧ wp_Scn_good (fun (r4623 : Int32) (x4622 : St) => ((r4623 = 0 → j_Qry_readText_176 post o l1 l2 x4622) ∧ (¬ r4623 = 0 → (((fI x4622 o 7) = 0 → j_Qry_readText_176 post o l1 l2 x4622) ∧ (¬ (fI x4622 o 7) = 0 → wp_Qry_checkItems (fun (x4626 : St) => j_Qry_readText_176 post o l1 l2 x4626) o x4622))))) q4621 x)
set_option maxHeartbeats 4000000 in
set_option maxRecDepth 100000 in
theorem t_Qry_readText_155 {p : Program} {l : Launch} {e : Env} {R : Room} {s : State} {m : MethodId} {args : Array Value} {below : List Frame} {meth : Method} {c : Code} {cells slots : Nat} {Q : State → Prop} {dC : Nat → ClassId} {dI : Nat → Nat → Nat} {cI cB cJ cZ : ClassId} {A : Nat → Prop} {ad : Nat → Nat} {NN : Nat} {E : Heap} {tM tC : Nat} {kK kV : Nat → Nat} {post : Int32 → St → Prop} (hx : p.tables.exec = Jvm.exec) (hb : c.code = b_Qry_readText) (hml : c.maxLocals = 3) (hown : s.vm.findClass R_Qry = some m.cls) (hT : ∀ w ∈ TG, w.before args s = true) (hK : va_K (dC, dI) CL (TY cI cB cJ cZ) s) (hN : NW s) (hA : ∀ q : Nat, s.heap.size ≤ q → A q) (hRc : cells ≤ R.cells) (hRs : slots ≤ R.slots) (hRf : 211 ≤ R.frames) (hRl : 5363 ≤ R.locals) (hNN : 152 ≤ NN) (hE : CE E tM tC kK kV A s) (hret : ∀ (r : Int32) (x : St) (H : Heap) (locs : List Loc) (pc : Nat) (ls : Array Slot), decode b_Qry_readText pc = .ok (.ireturn, 1) → post r x → Wd dC dI cI cB cJ cZ ad stC kcC NN A x H → va_S A s.heap H locs → W p l e R s m args below meth c H locs cells slots Q (F0 m pc ls [.int r]))  : ∀ (o : Nat) (l1 : Nat) (l2 : Nat) (x : St) (H : Heap) (locs : List Loc) (ls : Array Slot), (o < NN ∧ kcC o = 9) → (l1 < NN ∧ kcC l1 = 2) → (l2 < NN ∧ kcC l2 = 3) → j_Qry_readText_155 post o l1 l2 x → Wd dC dI cI cB cJ cZ ad stC kcC NN A x H → va_S A s.heap H locs → lv_has ls 3 [(0, .ref (ad o)), (1, .ref (ad l1)), (2, .ref (ad l2))] → W p l e R s m args below meth c H locs cells slots Q (F0 m 155 ls []) := by
  intro o l1 l2 x H locs ls fo fl1 fl2 hw hW hS hl
  unfold j_Qry_readText_155 at hw
  refine lv_aload_n hx hb d_Qry_readText_155 rfl (lv_at hl 0 rfl) ?_
  obtain ⟨q4621, hq4621, hw⟩ := hw
  refine w_getr (q := q4621) (k := 17) (t := 9) (C := R_Qry) (T := F_Qry) (N := 20) hx hb hT hown hK hW fo.1 fo.2 (by decide) in_Qry rfl rfl (by decide) rfl fr_Qry_17 w_3_105 d_Qry_readText_156 hq4621 (fun aq4621 bq4621 => ?_)
  have fq4621 : q4621 < NN ∧ kcC q4621 = 2 := ⟨aq4621, bq4621⟩
  have hF := hW.free hS hA
  refine va_calli (va_runV (C := R_Scn) (As := []) (rest := []) ⟨hx, hb, hml, hown, hT⟩ (k_Scn_good l dC dI cI cB cJ cZ ad NN E tM tC kK kV hNN H.size q4621 x fq4621 hw) ⟨callB_of 0 hT (gw_in w_4_106) rfl rfl rfl (hT _ w_1_4) (hT _ w_7_147) (by decide +kernel) ⟨Nat.le_trans (by decide) hRf, Nat.le_trans (by decide) hRl⟩, hT _ w_4_104, hT _ w_4_105⟩ ⟨PV.blind, va_recv hK hW.1 (ci := 2) (q0 := q4621) rfl (pic_obj fq4621.1 fq4621.2 (by decide)), PV.at _ hW hK hN hE hS hF⟩ rfl rfl hl.1 rfl (lv_room (Nat.le_of_ble_eq_true rfl)) d_Qry_readText_159 ⟨hRc, hRs⟩) hS (fun q _ h => hF q h) hF (fun r4623 x4622 t H locs ht hvm hw hB hz1 hk1 hS => ?_)
  have hW := Wd.back hB ht hF
  clear hB ht hF hz1 hk1 hvm
  refine lv_if_eq (tgt := 176) hx hb d_Qry_readText_162 (by decide) (fun c4624 => ?_) (fun c4624 => ?_)
  · have hw := hw.1 c4624
    exact t_Qry_readText_176 hx hb hml hown hT hK hN hA hRc hRs hRf hRl hNN hE hret  o l1 l2 x4622 H locs ls fo fl1 fl2 hw hW hS (lv_sub hl [0, 1, 2] rfl)
  · have hw := hw.2 c4624
    refine lv_aload_n hx hb d_Qry_readText_165 rfl (lv_at hl 0 rfl) ?_
    refine w_geti (k := 7) (t := 9) (C := R_Qry) (T := F_Qry) (N := 20) hx hb hT hown hK hW fo.1 fo.2 (by decide) in_Qry rfl rfl (by decide) rfl fr_Qry_7 w_3_87 d_Qry_readText_166 ?_
    refine lv_if_eq (tgt := 176) hx hb d_Qry_readText_169 (by decide) (fun c4625 => ?_) (fun c4625 => ?_)
    · have hw := hw.1 c4625
      exact t_Qry_readText_176 hx hb hml hown hT hK hN hA hRc hRs hRf hRl hNN hE hret  o l1 l2 x4622 H locs ls fo fl1 fl2 hw hW hS (lv_sub hl [0, 1, 2] rfl)
    · have hw := hw.2 c4625
      refine lv_aload_n hx hb d_Qry_readText_172 rfl (lv_at hl 0 rfl) ?_
      have hF := hW.free hS hA
      refine va_callv (va_runV (C := R_Qry) (As := []) (rest := []) ⟨hx, hb, hml, hown, hT⟩ (k_Qry_checkItems l dC dI cI cB cJ cZ ad NN E tM tC kK kV hNN H.size o x4622 fo hw) ⟨callB_of 0 hT (gw_in w_8_15) rfl rfl rfl (hT _ w_1_12) (hT _ w_8_12) (by decide +kernel) ⟨Nat.le_trans (by decide) hRf, Nat.le_trans (by decide) hRl⟩, hT _ w_8_14, hT _ ws_86⟩ ⟨PV.blind, va_recv hK hW.1 (ci := 9) (q0 := o) rfl (pic_obj fo.1 fo.2 (by decide)), PV.at _ hW hK hN hE hS hF⟩ rfl rfl hl.1 rfl (lv_room (Nat.le_of_ble_eq_true rfl)) d_Qry_readText_173 ⟨hRc, hRs⟩) hS (fun q _ h => hF q h) hF (fun  x4626 t H locs ht hvm hw hB hz1 hk1 hS => ?_)
      have hW := Wd.back hB ht hF
      clear hB ht hF hz1 hk1 hvm
      exact t_Qry_readText_176 hx hb hml hown hT hK hN hA hRc hRs hRf hRl hNN hE hret  o l1 l2 x4626 H locs ls fo fl1 fl2 hw hW hS (lv_sub hl [0, 1, 2] rfl)
set_option maxRecDepth 100000 in
def j_Qry_readText_120 (post : Int32 → St → Prop) (o : Nat) (l1 : Nat) (l2 : Nat) (x : St) : Prop := (∃ q4627 : Nat, fR x o 17 = some q4627 ∧ wp_Scn_good (fun (r4629 : Int32) (x4628 : St) => ((r4629 = 0 → j_Qry_readText_155 post o l1 l2 x4628) ∧ (¬ r4629 = 0 → (∃ q4631 : Nat, fR x4628 o 17 = some q4631 ∧ wp_Scn_next (fun (r4633 : Int32) (x4632 : St) => ((r4633 = (-1) → j_Qry_readText_155 post o l1 l2 x4632) ∧ (¬ r4633 = (-1) → (∃ q4635 : Nat, fR x4632 o 17 = some q4635 ∧ (∃ q4636 : Nat, fR x4632 o 17 = some q4636 ∧ wp_Scn_refuse (fun (x4637 : St) => j_Qry_readText_155 post o l1 l2 x4637) q4635 (fI x4632 q4636 2) x4632))))) q4631 x4628)))) q4627 x)
set_option maxHeartbeats 4000000 in
set_option maxRecDepth 100000 in
theorem t_Qry_readText_120 {p : Program} {l : Launch} {e : Env} {R : Room} {s : State} {m : MethodId} {args : Array Value} {below : List Frame} {meth : Method} {c : Code} {cells slots : Nat} {Q : State → Prop} {dC : Nat → ClassId} {dI : Nat → Nat → Nat} {cI cB cJ cZ : ClassId} {A : Nat → Prop} {ad : Nat → Nat} {NN : Nat} {E : Heap} {tM tC : Nat} {kK kV : Nat → Nat} {post : Int32 → St → Prop} (hx : p.tables.exec = Jvm.exec) (hb : c.code = b_Qry_readText) (hml : c.maxLocals = 3) (hown : s.vm.findClass R_Qry = some m.cls) (hT : ∀ w ∈ TG, w.before args s = true) (hK : va_K (dC, dI) CL (TY cI cB cJ cZ) s) (hN : NW s) (hA : ∀ q : Nat, s.heap.size ≤ q → A q) (hRc : cells ≤ R.cells) (hRs : slots ≤ R.slots) (hRf : 211 ≤ R.frames) (hRl : 5363 ≤ R.locals) (hNN : 152 ≤ NN) (hE : CE E tM tC kK kV A s) (hret : ∀ (r : Int32) (x : St) (H : Heap) (locs : List Loc) (pc : Nat) (ls : Array Slot), decode b_Qry_readText pc = .ok (.ireturn, 1) → post r x → Wd dC dI cI cB cJ cZ ad stC kcC NN A x H → va_S A s.heap H locs → W p l e R s m args below meth c H locs cells slots Q (F0 m pc ls [.int r]))  : ∀ (o : Nat) (l1 : Nat) (l2 : Nat) (x : St) (H : Heap) (locs : List Loc) (ls : Array Slot), (o < NN ∧ kcC o = 9) → (l1 < NN ∧ kcC l1 = 2) → (l2 < NN ∧ kcC l2 = 3) → j_Qry_readText_120 post o l1 l2 x → Wd dC dI cI cB cJ cZ ad stC kcC NN A x H → va_S A s.heap H locs → lv_has ls 3 [(0, .ref (ad o)), (1, .ref (ad l1)), (2, .ref (ad l2))] → W p l e R s m args below meth c H locs cells slots Q (F0 m 120 ls []) := by
  intro o l1 l2 x H locs ls fo fl1 fl2 hw hW hS hl
  unfold j_Qry_readText_120 at hw
  refine lv_aload_n hx hb d_Qry_readText_120 rfl (lv_at hl 0 rfl) ?_
  obtain ⟨q4627, hq4627, hw⟩ := hw
  refine w_getr (q := q4627) (k := 17) (t := 9) (C := R_Qry) (T := F_Qry) (N := 20) hx hb hT hown hK hW fo.1 fo.2 (by decide) in_Qry rfl rfl (by decide) rfl fr_Qry_17 w_3_105 d_Qry_readText_121 hq4627 (fun aq4627 bq4627 => ?_)
  have fq4627 : q4627 < NN ∧ kcC q4627 = 2 := ⟨aq4627, bq4627⟩
  have hF := hW.free hS hA
  refine va_calli (va_runV (C := R_Scn) (As := []) (rest := []) ⟨hx, hb, hml, hown, hT⟩ (k_Scn_good l dC dI cI cB cJ cZ ad NN E tM tC kK kV hNN H.size q4627 x fq4627 hw) ⟨callB_of 0 hT (gw_in w_4_106) rfl rfl rfl (hT _ w_1_4) (hT _ w_7_147) (by decide +kernel) ⟨Nat.le_trans (by decide) hRf, Nat.le_trans (by decide) hRl⟩, hT _ w_4_104, hT _ w_4_105⟩ ⟨PV.blind, va_recv hK hW.1 (ci := 2) (q0 := q4627) rfl (pic_obj fq4627.1 fq4627.2 (by decide)), PV.at _ hW hK hN hE hS hF⟩ rfl rfl hl.1 rfl (lv_room (Nat.le_of_ble_eq_true rfl)) d_Qry_readText_124 ⟨hRc, hRs⟩) hS (fun q _ h => hF q h) hF (fun r4629 x4628 t H locs ht hvm hw hB hz1 hk1 hS => ?_)
  have hW := Wd.back hB ht hF
  clear hB ht hF hz1 hk1 hvm
  refine lv_if_eq (tgt := 155) hx hb d_Qry_readText_127 (by decide) (fun c4630 => ?_) (fun c4630 => ?_)
  · have hw := hw.1 c4630
    exact t_Qry_readText_155 hx hb hml hown hT hK hN hA hRc hRs hRf hRl hNN hE hret  o l1 l2 x4628 H locs ls fo fl1 fl2 hw hW hS (lv_sub hl [0, 1, 2] rfl)
  · have hw := hw.2 c4630
    refine lv_aload_n hx hb d_Qry_readText_130 rfl (lv_at hl 0 rfl) ?_
    obtain ⟨q4631, hq4631, hw⟩ := hw
    refine w_getr (q := q4631) (k := 17) (t := 9) (C := R_Qry) (T := F_Qry) (N := 20) hx hb hT hown hK hW fo.1 fo.2 (by decide) in_Qry rfl rfl (by decide) rfl fr_Qry_17 w_3_105 d_Qry_readText_131 hq4631 (fun aq4631 bq4631 => ?_)
    have fq4631 : q4631 < NN ∧ kcC q4631 = 2 := ⟨aq4631, bq4631⟩
    have hF := hW.free hS hA
    refine va_calli (va_runV (C := R_Scn) (As := []) (rest := []) ⟨hx, hb, hml, hown, hT⟩ (k_Scn_next l dC dI cI cB cJ cZ ad NN E tM tC kK kV hNN H.size q4631 x4628 fq4631 hw) ⟨callB_of 0 hT (gw_in w_4_110) rfl rfl rfl (hT _ w_1_4) (hT _ w_7_148) (by decide +kernel) ⟨Nat.le_trans (by decide) hRf, Nat.le_trans (by decide) hRl⟩, hT _ w_4_108, hT _ w_4_109⟩ ⟨PV.blind, va_recv hK hW.1 (ci := 2) (q0 := q4631) rfl (pic_obj fq4631.1 fq4631.2 (by decide)), PV.at _ hW hK hN hE hS hF⟩ rfl rfl hl.1 rfl (lv_room (Nat.le_of_ble_eq_true rfl)) d_Qry_readText_134 ⟨hRc, hRs⟩) hS (fun q _ h => hF q h) hF (fun r4633 x4632 t H locs ht hvm hw hB hz1 hk1 hS => ?_)
    have hW := Wd.back hB ht hF
    clear hB ht hF hz1 hk1 hvm
    refine lv_iconst (v := (-1)) hx hb d_Qry_readText_137 (by decide) ?_
    refine lv_icmp_eq (tgt := 155) hx hb d_Qry_readText_138 (by decide) (fun c4634 => ?_) (fun c4634 => ?_)
    · have hw := hw.1 c4634
      exact t_Qry_readText_155 hx hb hml hown hT hK hN hA hRc hRs hRf hRl hNN hE hret  o l1 l2 x4632 H locs ls fo fl1 fl2 hw hW hS (lv_sub hl [0, 1, 2] rfl)
    · have hw := hw.2 c4634
      refine lv_aload_n hx hb d_Qry_readText_141 rfl (lv_at hl 0 rfl) ?_
      obtain ⟨q4635, hq4635, hw⟩ := hw
      refine w_getr (q := q4635) (k := 17) (t := 9) (C := R_Qry) (T := F_Qry) (N := 20) hx hb hT hown hK hW fo.1 fo.2 (by decide) in_Qry rfl rfl (by decide) rfl fr_Qry_17 w_3_105 d_Qry_readText_142 hq4635 (fun aq4635 bq4635 => ?_)
      have fq4635 : q4635 < NN ∧ kcC q4635 = 2 := ⟨aq4635, bq4635⟩
      refine lv_aload_n hx hb d_Qry_readText_145 rfl (lv_at hl 0 rfl) ?_
      obtain ⟨q4636, hq4636, hw⟩ := hw
      refine w_getr (q := q4636) (k := 17) (t := 9) (C := R_Qry) (T := F_Qry) (N := 20) hx hb hT hown hK hW fo.1 fo.2 (by decide) in_Qry rfl rfl (by decide) rfl fr_Qry_17 w_3_105 d_Qry_readText_146 hq4636 (fun aq4636 bq4636 => ?_)
      have fq4636 : q4636 < NN ∧ kcC q4636 = 2 := ⟨aq4636, bq4636⟩
      refine w_geti (k := 2) (t := 2) (C := R_Scn) (T := F_Scn) (N := 8) hx hb hT hown hK hW fq4636.1 fq4636.2 (by decide) in_Scn rfl rfl (by decide) rfl fr_Scn_2 w_1_86 d_Qry_readText_149 ?_
      have hF := hW.free hS hA
      refine va_callv (va_runV (C := R_Scn) (As := [.int (fI x4632 q4636 2)]) (rest := []) ⟨hx, hb, hml, hown, hT⟩ (k_Scn_refuse l dC dI cI cB cJ cZ ad NN E tM tC kK kV hNN H.size q4635 (fI x4632 q4636 2) x4632 fq4635 hw) ⟨callB_of 1 hT (gw_in w_4_128) rfl rfl rfl (hT _ w_1_4) (hT _ w_7_149) (by decide +kernel) ⟨Nat.le_trans (by decide) hRf, Nat.le_trans (by decide) hRl⟩, hT _ w_4_126, hT _ w_4_127⟩ ⟨PV.blind, va_recv hK hW.1 (ci := 2) (q0 := q4635) rfl (pic_obj fq4635.1 fq4635.2 (by decide)), PV.at _ hW hK hN hE hS hF⟩ rfl rfl hl.1 rfl (lv_room (Nat.le_of_ble_eq_true rfl)) d_Qry_readText_152 ⟨hRc, hRs⟩) hS (fun q _ h => hF q h) hF (fun  x4637 t H locs ht hvm hw hB hz1 hk1 hS => ?_)
      have hW := Wd.back hB ht hF
      clear hB ht hF hz1 hk1 hvm
      exact t_Qry_readText_155 hx hb hml hown hT hK hN hA hRc hRs hRf hRl hNN hE hret  o l1 l2 x4637 H locs ls fo fl1 fl2 hw hW hS (lv_sub hl [0, 1, 2] rfl)
set_option maxRecDepth 100000 in
def j_Qry_readText_85 (post : Int32 → St → Prop) (o : Nat) (l1 : Nat) (l2 : Nat) (x : St) : Prop := (∃ q4638 : Nat, fR x o 17 = some q4638 ∧ wp_Scn_good (fun (r4640 : Int32) (x4639 : St) => ((r4640 = 0 → j_Qry_readText_120 post o l1 l2 x4639) ∧ (¬ r4640 = 0 → (∃ q4642 : Nat, fR x4639 o 17 = some q4642 ∧ wp_Scn_takeWord (fun (r4644 : Int32) (x4643 : St) => ((r4644 = 0 → j_Qry_readText_120 post o l1 l2 x4643) ∧ (¬ r4644 = 0 → (∃ q4646 : Nat, fR x4643 o 17 = some q4646 ∧ wp_Scn_needWord (fun (x4647 : St) => wp_Qry_readBys (fun (x4648 : St) => j_Qry_readText_120 post o l1 l2 x4648) o x4647) q4646 17 x4643)))) q4642 7 x4639)))) q4638 x)
set_option maxHeartbeats 4000000 in
set_option maxRecDepth 100000 in
theorem t_Qry_readText_85 {p : Program} {l : Launch} {e : Env} {R : Room} {s : State} {m : MethodId} {args : Array Value} {below : List Frame} {meth : Method} {c : Code} {cells slots : Nat} {Q : State → Prop} {dC : Nat → ClassId} {dI : Nat → Nat → Nat} {cI cB cJ cZ : ClassId} {A : Nat → Prop} {ad : Nat → Nat} {NN : Nat} {E : Heap} {tM tC : Nat} {kK kV : Nat → Nat} {post : Int32 → St → Prop} (hx : p.tables.exec = Jvm.exec) (hb : c.code = b_Qry_readText) (hml : c.maxLocals = 3) (hown : s.vm.findClass R_Qry = some m.cls) (hT : ∀ w ∈ TG, w.before args s = true) (hK : va_K (dC, dI) CL (TY cI cB cJ cZ) s) (hN : NW s) (hA : ∀ q : Nat, s.heap.size ≤ q → A q) (hRc : cells ≤ R.cells) (hRs : slots ≤ R.slots) (hRf : 211 ≤ R.frames) (hRl : 5363 ≤ R.locals) (hNN : 152 ≤ NN) (hE : CE E tM tC kK kV A s) (hret : ∀ (r : Int32) (x : St) (H : Heap) (locs : List Loc) (pc : Nat) (ls : Array Slot), decode b_Qry_readText pc = .ok (.ireturn, 1) → post r x → Wd dC dI cI cB cJ cZ ad stC kcC NN A x H → va_S A s.heap H locs → W p l e R s m args below meth c H locs cells slots Q (F0 m pc ls [.int r]))  : ∀ (o : Nat) (l1 : Nat) (l2 : Nat) (x : St) (H : Heap) (locs : List Loc) (ls : Array Slot), (o < NN ∧ kcC o = 9) → (l1 < NN ∧ kcC l1 = 2) → (l2 < NN ∧ kcC l2 = 3) → j_Qry_readText_85 post o l1 l2 x → Wd dC dI cI cB cJ cZ ad stC kcC NN A x H → va_S A s.heap H locs → lv_has ls 3 [(0, .ref (ad o)), (1, .ref (ad l1)), (2, .ref (ad l2))] → W p l e R s m args below meth c H locs cells slots Q (F0 m 85 ls []) := by
  intro o l1 l2 x H locs ls fo fl1 fl2 hw hW hS hl
  unfold j_Qry_readText_85 at hw
  refine lv_aload_n hx hb d_Qry_readText_85 rfl (lv_at hl 0 rfl) ?_
  obtain ⟨q4638, hq4638, hw⟩ := hw
  refine w_getr (q := q4638) (k := 17) (t := 9) (C := R_Qry) (T := F_Qry) (N := 20) hx hb hT hown hK hW fo.1 fo.2 (by decide) in_Qry rfl rfl (by decide) rfl fr_Qry_17 w_3_105 d_Qry_readText_86 hq4638 (fun aq4638 bq4638 => ?_)
  have fq4638 : q4638 < NN ∧ kcC q4638 = 2 := ⟨aq4638, bq4638⟩
  have hF := hW.free hS hA
  refine va_calli (va_runV (C := R_Scn) (As := []) (rest := []) ⟨hx, hb, hml, hown, hT⟩ (k_Scn_good l dC dI cI cB cJ cZ ad NN E tM tC kK kV hNN H.size q4638 x fq4638 hw) ⟨callB_of 0 hT (gw_in w_4_106) rfl rfl rfl (hT _ w_1_4) (hT _ w_7_147) (by decide +kernel) ⟨Nat.le_trans (by decide) hRf, Nat.le_trans (by decide) hRl⟩, hT _ w_4_104, hT _ w_4_105⟩ ⟨PV.blind, va_recv hK hW.1 (ci := 2) (q0 := q4638) rfl (pic_obj fq4638.1 fq4638.2 (by decide)), PV.at _ hW hK hN hE hS hF⟩ rfl rfl hl.1 rfl (lv_room (Nat.le_of_ble_eq_true rfl)) d_Qry_readText_89 ⟨hRc, hRs⟩) hS (fun q _ h => hF q h) hF (fun r4640 x4639 t H locs ht hvm hw hB hz1 hk1 hS => ?_)
  have hW := Wd.back hB ht hF
  clear hB ht hF hz1 hk1 hvm
  refine lv_if_eq (tgt := 120) hx hb d_Qry_readText_92 (by decide) (fun c4641 => ?_) (fun c4641 => ?_)
  · have hw := hw.1 c4641
    exact t_Qry_readText_120 hx hb hml hown hT hK hN hA hRc hRs hRf hRl hNN hE hret  o l1 l2 x4639 H locs ls fo fl1 fl2 hw hW hS (lv_sub hl [0, 1, 2] rfl)
  · have hw := hw.2 c4641
    refine lv_aload_n hx hb d_Qry_readText_95 rfl (lv_at hl 0 rfl) ?_
    obtain ⟨q4642, hq4642, hw⟩ := hw
    refine w_getr (q := q4642) (k := 17) (t := 9) (C := R_Qry) (T := F_Qry) (N := 20) hx hb hT hown hK hW fo.1 fo.2 (by decide) in_Qry rfl rfl (by decide) rfl fr_Qry_17 w_3_105 d_Qry_readText_96 hq4642 (fun aq4642 bq4642 => ?_)
    have fq4642 : q4642 < NN ∧ kcC q4642 = 2 := ⟨aq4642, bq4642⟩
    refine va_ldcS hx hb hown (hE.str 19 (by decide)) d_Qry_readText_99 ?_
    have hF := hW.free hS hA
    refine va_calli (va_runV (C := R_Scn) (As := [.ref (kK 7)]) (rest := []) ⟨hx, hb, hml, hown, hT⟩ (k_Scn_takeWord l dC dI cI cB cJ cZ ad NN E tM tC kK kV hNN H.size q4642 7 x4639 fq4642 (by decide) hw) ⟨callB_of 1 hT (gw_in w_4_141) rfl rfl rfl (hT _ w_1_4) (hT _ w_7_159) (by decide +kernel) ⟨Nat.le_trans (by decide) hRf, Nat.le_trans (by decide) hRl⟩, hT _ w_4_139, hT _ w_4_140⟩ ⟨PV.blind, va_recv hK hW.1 (ci := 2) (q0 := q4642) rfl (pic_obj fq4642.1 fq4642.2 (by decide)), PV.at _ hW hK hN hE hS hF⟩ rfl rfl hl.1 rfl (lv_room (Nat.le_of_ble_eq_true rfl)) d_Qry_readText_101 ⟨hRc, hRs⟩) hS (fun q _ h => hF q h) hF (fun r4644 x4643 t H locs ht hvm hw hB hz1 hk1 hS => ?_)
    have hW := Wd.back hB ht hF
    clear hB ht hF hz1 hk1 hvm
    refine lv_if_eq (tgt := 120) hx hb d_Qry_readText_104 (by decide) (fun c4645 => ?_) (fun c4645 => ?_)
    · have hw := hw.1 c4645
      exact t_Qry_readText_120 hx hb hml hown hT hK hN hA hRc hRs hRf hRl hNN hE hret  o l1 l2 x4643 H locs ls fo fl1 fl2 hw hW hS (lv_sub hl [0, 1, 2] rfl)
    · have hw := hw.2 c4645
      refine lv_aload_n hx hb d_Qry_readText_107 rfl (lv_at hl 0 rfl) ?_
      obtain ⟨q4646, hq4646, hw⟩ := hw
      refine w_getr (q := q4646) (k := 17) (t := 9) (C := R_Qry) (T := F_Qry) (N := 20) hx hb hT hown hK hW fo.1 fo.2 (by decide) in_Qry rfl rfl (by decide) rfl fr_Qry_17 w_3_105 d_Qry_readText_108 hq4646 (fun aq4646 bq4646 => ?_)
      have fq4646 : q4646 < NN ∧ kcC q4646 = 2 := ⟨aq4646, bq4646⟩
      refine va_ldcS hx hb hown (hE.str 20 (by decide)) d_Qry_readText_111 ?_
      have hF := hW.free hS hA
      refine va_callv (va_runV (C := R_Scn) (As := [.ref (kK 17)]) (rest := []) ⟨hx, hb, hml, hown, hT⟩ (k_Scn_needWord l dC dI cI cB cJ cZ ad NN E tM tC kK kV hNN H.size q4646 17 x4643 fq4646 (by decide) hw) ⟨callB_of 1 hT (gw_in w_4_209) rfl rfl rfl (hT _ w_1_4) (hT _ w_7_142) (by decide +kernel) ⟨Nat.le_trans (by decide) hRf, Nat.le_trans (by decide) hRl⟩, hT _ w_4_207, hT _ w_4_208⟩ ⟨PV.blind, va_recv hK hW.1 (ci := 2) (q0 := q4646) rfl (pic_obj fq4646.1 fq4646.2 (by decide)), PV.at _ hW hK hN hE hS hF⟩ rfl rfl hl.1 rfl (lv_room (Nat.le_of_ble_eq_true rfl)) d_Qry_readText_113 ⟨hRc, hRs⟩) hS (fun q _ h => hF q h) hF (fun  x4647 t H locs ht hvm hw hB hz1 hk1 hS => ?_)
      have hW := Wd.back hB ht hF
      clear hB ht hF hz1 hk1 hvm
      refine lv_aload_n hx hb d_Qry_readText_116 rfl (lv_at hl 0 rfl) ?_
      have hF := hW.free hS hA
      refine va_callv (va_runV (C := R_Qry) (As := []) (rest := []) ⟨hx, hb, hml, hown, hT⟩ (k_Qry_readBys l dC dI cI cB cJ cZ ad NN E tM tC kK kV hNN H.size o x4647 fo hw) ⟨callB_of 0 hT (gw_in w_8_7) rfl rfl rfl (hT _ w_1_12) (hT _ w_8_4) (by decide +kernel) ⟨Nat.le_trans (by decide) hRf, Nat.le_trans (by decide) hRl⟩, hT _ w_8_6, hT _ ws_84⟩ ⟨PV.blind, va_recv hK hW.1 (ci := 9) (q0 := o) rfl (pic_obj fo.1 fo.2 (by decide)), PV.at _ hW hK hN hE hS hF⟩ rfl rfl hl.1 rfl (lv_room (Nat.le_of_ble_eq_true rfl)) d_Qry_readText_117 ⟨hRc, hRs⟩) hS (fun q _ h => hF q h) hF (fun  x4648 t H locs ht hvm hw hB hz1 hk1 hS => ?_)
      have hW := Wd.back hB ht hF
      clear hB ht hF hz1 hk1 hvm
      exact t_Qry_readText_120 hx hb hml hown hT hK hN hA hRc hRs hRf hRl hNN hE hret  o l1 l2 x4648 H locs ls fo fl1 fl2 hw hW hS (lv_sub hl [0, 1, 2] rfl)
set_option maxRecDepth 100000 in
def wp_Qry_readText (post : Int32 → St → Prop) (o : Nat) (l1 : Nat) (l2 : Nat) (x : St) : Prop := (∀ x4649 : St, x4649 = setR x o 17 (some l1) → (∀ x4650 : St, x4650 = setR x4649 o 18 (some l2) → (∀ x4651 : St, x4651 = setI x4650 o 0 0 → (∀ x4652 : St, x4652 = setI x4651 o 1 0 → (∀ x4653 : St, x4653 = setI x4652 o 5 0 → (∀ x4654 : St, x4654 = setI x4653 o 7 0 → (∀ x4655 : St, x4655 = setI x4654 o 8 0 → (∀ x4656 : St, x4656 = setI x4655 o 13 0 → (∀ x4657 : St, x4657 = setI x4656 o 15 0 → (∃ q4658 : Nat, fR x4657 o 17 = some q4658 ∧ wp_Scn_needWord (fun (x4659 : St) => wp_Qry_readItems (fun (x4660 : St) => (∃ q4661 : Nat, fR x4660 o 17 = some q4661 ∧ wp_Scn_good (fun (r4663 : Int32) (x4662 : St) => ((r4663 = 0 → j_Qry_readText_85 post o l1 l2 x4662) ∧ (¬ r4663 = 0 → (∃ q4665 : Nat, fR x4662 o 17 = some q4665 ∧ wp_Scn_takeWord (fun (r4667 : Int32) (x4666 : St) => ((r4667 = 0 → j_Qry_readText_85 post o l1 l2 x4666) ∧ (¬ r4667 = 0 → wp_Qry_readCondition (fun (x4669 : St) => j_Qry_readText_85 post o l1 l2 x4669) o 0 x4666))) q4665 16 x4662)))) q4661 x4660)) o x4659) q4658 11 x4657))))))))))
set_option maxHeartbeats 4000000 in
set_option maxRecDepth 100000 in
theorem t_Qry_readText_e {p : Program} {l : Launch} {e : Env} {R : Room} {s : State} {m : MethodId} {args : Array Value} {below : List Frame} {meth : Method} {c : Code} {cells slots : Nat} {Q : State → Prop} {dC : Nat → ClassId} {dI : Nat → Nat → Nat} {cI cB cJ cZ : ClassId} {A : Nat → Prop} {ad : Nat → Nat} {NN : Nat} {E : Heap} {tM tC : Nat} {kK kV : Nat → Nat} {post : Int32 → St → Prop} (hx : p.tables.exec = Jvm.exec) (hb : c.code = b_Qry_readText) (hml : c.maxLocals = 3) (hown : s.vm.findClass R_Qry = some m.cls) (hT : ∀ w ∈ TG, w.before args s = true) (hK : va_K (dC, dI) CL (TY cI cB cJ cZ) s) (hN : NW s) (hA : ∀ q : Nat, s.heap.size ≤ q → A q) (hRc : cells ≤ R.cells) (hRs : slots ≤ R.slots) (hRf : 211 ≤ R.frames) (hRl : 5363 ≤ R.locals) (hNN : 152 ≤ NN) (hE : CE E tM tC kK kV A s) (hret : ∀ (r : Int32) (x : St) (H : Heap) (locs : List Loc) (pc : Nat) (ls : Array Slot), decode b_Qry_readText pc = .ok (.ireturn, 1) → post r x → Wd dC dI cI cB cJ cZ ad stC kcC NN A x H → va_S A s.heap H locs → W p l e R s m args below meth c H locs cells slots Q (F0 m pc ls [.int r])) : ∀ (o : Nat) (l1 : Nat) (l2 : Nat) (x : St) (H : Heap) (locs : List Loc) (ls : Array Slot), (o < NN ∧ kcC o = 9) → (l1 < NN ∧ kcC l1 = 2) → (l2 < NN ∧ kcC l2 = 3) → wp_Qry_readText post o l1 l2 x → Wd dC dI cI cB cJ cZ ad stC kcC NN A x H → va_S A s.heap H locs → lv_has ls 3 [(0, .ref (ad o)), (1, .ref (ad l1)), (2, .ref (ad l2))] → W p l e R s m args below meth c H locs cells slots Q (F0 m 0 ls []) := by
  intro o l1 l2 x H locs ls fo fl1 fl2 hw hW hS hl
  unfold wp_Qry_readText at hw
  refine lv_aload_n hx hb d_Qry_readText_0 rfl (lv_at hl 0 rfl) ?_
  refine lv_aload_n hx hb d_Qry_readText_1 rfl (lv_at hl 1 rfl) ?_
  refine w_putr (q := l1) (ty := .object "StripedVault$Scan") (k := 17) (t := 9) (C := R_Qry) (T := F_Qry) (N := 20) hx hb hT hown hK hW hS fo.1 fo.2 (by decide) in_Qry t_Qry t_Qry_ok n_Qry rfl rfl (by decide) rfl fr_Qry_17 w_3_105 (by decide +kernel) rfl rfl fl1.1 fl1.2 d_Qry_readText_2 (fun H locs hW hS => ?_)
  obtain ⟨x4649, ex4649⟩ : ∃ y : St, y = setR x o 17 (some l1) := ⟨_, rfl⟩
  rw [← ex4649] at hW
  have hw := hw x4649 ex4649
  refine lv_aload_n hx hb d_Qry_readText_5 rfl (lv_at hl 0 rfl) ?_
  refine lv_aload_n hx hb d_Qry_readText_6 rfl (lv_at hl 2 rfl) ?_
  refine w_putr (q := l2) (ty := .object "StripedVault$Schema") (k := 18) (t := 9) (C := R_Qry) (T := F_Qry) (N := 20) hx hb hT hown hK hW hS fo.1 fo.2 (by decide) in_Qry t_Qry t_Qry_ok n_Qry rfl rfl (by decide) rfl fr_Qry_18 w_3_106 (by decide +kernel) rfl rfl fl2.1 fl2.2 d_Qry_readText_7 (fun H locs hW hS => ?_)
  obtain ⟨x4650, ex4650⟩ : ∃ y : St, y = setR x4649 o 18 (some l2) := ⟨_, rfl⟩
  rw [← ex4650] at hW
  have hw := hw x4650 ex4650
  refine lv_aload_n hx hb d_Qry_readText_10 rfl (lv_at hl 0 rfl) ?_
  refine lv_iconst (v := 0) hx hb d_Qry_readText_11 (by decide) ?_
  refine w_puti (ty := .boolean) (k := 0) (t := 9) (C := R_Qry) (T := F_Qry) (N := 20) hx hb hT hown hK hW hS fo.1 fo.2 (by decide) in_Qry t_Qry t_Qry_ok n_Qry rfl rfl (by decide) rfl fr_Qry_0 w_3_74 (by decide +kernel) rfl rfl d_Qry_readText_12 (fun H locs hW hS => ?_)
  obtain ⟨x4651, ex4651⟩ : ∃ y : St, y = setI x4650 o 0 0 := ⟨_, rfl⟩
  rw [← ex4651] at hW
  have hw := hw x4651 ex4651
  refine lv_aload_n hx hb d_Qry_readText_15 rfl (lv_at hl 0 rfl) ?_
  refine lv_iconst (v := 0) hx hb d_Qry_readText_16 (by decide) ?_
  refine w_puti (ty := .int) (k := 1) (t := 9) (C := R_Qry) (T := F_Qry) (N := 20) hx hb hT hown hK hW hS fo.1 fo.2 (by decide) in_Qry t_Qry t_Qry_ok n_Qry rfl rfl (by decide) rfl fr_Qry_1 w_3_76 (by decide +kernel) rfl rfl d_Qry_readText_17 (fun H locs hW hS => ?_)
  obtain ⟨x4652, ex4652⟩ : ∃ y : St, y = setI x4651 o 1 0 := ⟨_, rfl⟩
  rw [← ex4652] at hW
  have hw := hw x4652 ex4652
  refine lv_aload_n hx hb d_Qry_readText_20 rfl (lv_at hl 0 rfl) ?_
  refine lv_iconst (v := 0) hx hb d_Qry_readText_21 (by decide) ?_
  refine w_puti (ty := .int) (k := 5) (t := 9) (C := R_Qry) (T := F_Qry) (N := 20) hx hb hT hown hK hW hS fo.1 fo.2 (by decide) in_Qry t_Qry t_Qry_ok n_Qry rfl rfl (by decide) rfl fr_Qry_5 w_3_83 (by decide +kernel) rfl rfl d_Qry_readText_22 (fun H locs hW hS => ?_)
  obtain ⟨x4653, ex4653⟩ : ∃ y : St, y = setI x4652 o 5 0 := ⟨_, rfl⟩
  rw [← ex4653] at hW
  have hw := hw x4653 ex4653
  refine lv_aload_n hx hb d_Qry_readText_25 rfl (lv_at hl 0 rfl) ?_
  refine lv_iconst (v := 0) hx hb d_Qry_readText_26 (by decide) ?_
  refine w_puti (ty := .boolean) (k := 7) (t := 9) (C := R_Qry) (T := F_Qry) (N := 20) hx hb hT hown hK hW hS fo.1 fo.2 (by decide) in_Qry t_Qry t_Qry_ok n_Qry rfl rfl (by decide) rfl fr_Qry_7 w_3_87 (by decide +kernel) rfl rfl d_Qry_readText_27 (fun H locs hW hS => ?_)
  obtain ⟨x4654, ex4654⟩ : ∃ y : St, y = setI x4653 o 7 0 := ⟨_, rfl⟩
  rw [← ex4654] at hW
  have hw := hw x4654 ex4654
  refine lv_aload_n hx hb d_Qry_readText_30 rfl (lv_at hl 0 rfl) ?_
  refine lv_iconst (v := 0) hx hb d_Qry_readText_31 (by decide) ?_
  refine w_puti (ty := .int) (k := 8) (t := 9) (C := R_Qry) (T := F_Qry) (N := 20) hx hb hT hown hK hW hS fo.1 fo.2 (by decide) in_Qry t_Qry t_Qry_ok n_Qry rfl rfl (by decide) rfl fr_Qry_8 w_3_89 (by decide +kernel) rfl rfl d_Qry_readText_32 (fun H locs hW hS => ?_)
  obtain ⟨x4655, ex4655⟩ : ∃ y : St, y = setI x4654 o 8 0 := ⟨_, rfl⟩
  rw [← ex4655] at hW
  have hw := hw x4655 ex4655
  refine lv_aload_n hx hb d_Qry_readText_35 rfl (lv_at hl 0 rfl) ?_
  refine lv_iconst (v := 0) hx hb d_Qry_readText_36 (by decide) ?_
  refine w_puti (ty := .int) (k := 13) (t := 9) (C := R_Qry) (T := F_Qry) (N := 20) hx hb hT hown hK hW hS fo.1 fo.2 (by decide) in_Qry t_Qry t_Qry_ok n_Qry rfl rfl (by decide) rfl fr_Qry_13 w_3_99 (by decide +kernel) rfl rfl d_Qry_readText_37 (fun H locs hW hS => ?_)
  obtain ⟨x4656, ex4656⟩ : ∃ y : St, y = setI x4655 o 13 0 := ⟨_, rfl⟩
  rw [← ex4656] at hW
  have hw := hw x4656 ex4656
  refine lv_aload_n hx hb d_Qry_readText_40 rfl (lv_at hl 0 rfl) ?_
  refine lv_iconst (v := 0) hx hb d_Qry_readText_41 (by decide) ?_
  refine w_puti (ty := .int) (k := 15) (t := 9) (C := R_Qry) (T := F_Qry) (N := 20) hx hb hT hown hK hW hS fo.1 fo.2 (by decide) in_Qry t_Qry t_Qry_ok n_Qry rfl rfl (by decide) rfl fr_Qry_15 w_3_102 (by decide +kernel) rfl rfl d_Qry_readText_42 (fun H locs hW hS => ?_)
  obtain ⟨x4657, ex4657⟩ : ∃ y : St, y = setI x4656 o 15 0 := ⟨_, rfl⟩
  rw [← ex4657] at hW
  have hw := hw x4657 ex4657
  refine lv_aload_n hx hb d_Qry_readText_45 rfl (lv_at hl 0 rfl) ?_
  obtain ⟨q4658, hq4658, hw⟩ := hw
  refine w_getr (q := q4658) (k := 17) (t := 9) (C := R_Qry) (T := F_Qry) (N := 20) hx hb hT hown hK hW fo.1 fo.2 (by decide) in_Qry rfl rfl (by decide) rfl fr_Qry_17 w_3_105 d_Qry_readText_46 hq4658 (fun aq4658 bq4658 => ?_)
  have fq4658 : q4658 < NN ∧ kcC q4658 = 2 := ⟨aq4658, bq4658⟩
  refine va_ldcS hx hb hown (hE.str 13 (by decide)) d_Qry_readText_49 ?_
  have hF := hW.free hS hA
  refine va_callv (va_runV (C := R_Scn) (As := [.ref (kK 11)]) (rest := []) ⟨hx, hb, hml, hown, hT⟩ (k_Scn_needWord l dC dI cI cB cJ cZ ad NN E tM tC kK kV hNN H.size q4658 11 x4657 fq4658 (by decide) hw) ⟨callB_of 1 hT (gw_in w_4_209) rfl rfl rfl (hT _ w_1_4) (hT _ w_7_142) (by decide +kernel) ⟨Nat.le_trans (by decide) hRf, Nat.le_trans (by decide) hRl⟩, hT _ w_4_207, hT _ w_4_208⟩ ⟨PV.blind, va_recv hK hW.1 (ci := 2) (q0 := q4658) rfl (pic_obj fq4658.1 fq4658.2 (by decide)), PV.at _ hW hK hN hE hS hF⟩ rfl rfl hl.1 rfl (lv_room (Nat.le_of_ble_eq_true rfl)) d_Qry_readText_51 ⟨hRc, hRs⟩) hS (fun q _ h => hF q h) hF (fun  x4659 t H locs ht hvm hw hB hz1 hk1 hS => ?_)
  have hW := Wd.back hB ht hF
  clear hB ht hF hz1 hk1 hvm
  refine lv_aload_n hx hb d_Qry_readText_54 rfl (lv_at hl 0 rfl) ?_
  have hF := hW.free hS hA
  refine va_callv (va_runV (C := R_Qry) (As := []) (rest := []) ⟨hx, hb, hml, hown, hT⟩ (k_Qry_readItems l dC dI cI cB cJ cZ ad NN E tM tC kK kV hNN H.size o x4659 fo hw) ⟨callB_of 0 hT (gw_in w_7_146) rfl rfl rfl (hT _ w_1_12) (hT _ w_7_143) (by decide +kernel) ⟨Nat.le_trans (by decide) hRf, Nat.le_trans (by decide) hRl⟩, hT _ w_7_145, hT _ ws_68⟩ ⟨PV.blind, va_recv hK hW.1 (ci := 9) (q0 := o) rfl (pic_obj fo.1 fo.2 (by decide)), PV.at _ hW hK hN hE hS hF⟩ rfl rfl hl.1 rfl (lv_room (Nat.le_of_ble_eq_true rfl)) d_Qry_readText_55 ⟨hRc, hRs⟩) hS (fun q _ h => hF q h) hF (fun  x4660 t H locs ht hvm hw hB hz1 hk1 hS => ?_)
  have hW := Wd.back hB ht hF
  clear hB ht hF hz1 hk1 hvm
  refine lv_aload_n hx hb d_Qry_readText_58 rfl (lv_at hl 0 rfl) ?_
  obtain ⟨q4661, hq4661, hw⟩ := hw
  refine w_getr (q := q4661) (k := 17) (t := 9) (C := R_Qry) (T := F_Qry) (N := 20) hx hb hT hown hK hW fo.1 fo.2 (by decide) in_Qry rfl rfl (by decide) rfl fr_Qry_17 w_3_105 d_Qry_readText_59 hq4661 (fun aq4661 bq4661 => ?_)
  have fq4661 : q4661 < NN ∧ kcC q4661 = 2 := ⟨aq4661, bq4661⟩
  have hF := hW.free hS hA
  refine va_calli (va_runV (C := R_Scn) (As := []) (rest := []) ⟨hx, hb, hml, hown, hT⟩ (k_Scn_good l dC dI cI cB cJ cZ ad NN E tM tC kK kV hNN H.size q4661 x4660 fq4661 hw) ⟨callB_of 0 hT (gw_in w_4_106) rfl rfl rfl (hT _ w_1_4) (hT _ w_7_147) (by decide +kernel) ⟨Nat.le_trans (by decide) hRf, Nat.le_trans (by decide) hRl⟩, hT _ w_4_104, hT _ w_4_105⟩ ⟨PV.blind, va_recv hK hW.1 (ci := 2) (q0 := q4661) rfl (pic_obj fq4661.1 fq4661.2 (by decide)), PV.at _ hW hK hN hE hS hF⟩ rfl rfl hl.1 rfl (lv_room (Nat.le_of_ble_eq_true rfl)) d_Qry_readText_62 ⟨hRc, hRs⟩) hS (fun q _ h => hF q h) hF (fun r4663 x4662 t H locs ht hvm hw hB hz1 hk1 hS => ?_)
  have hW := Wd.back hB ht hF
  clear hB ht hF hz1 hk1 hvm
  refine lv_if_eq (tgt := 85) hx hb d_Qry_readText_65 (by decide) (fun c4664 => ?_) (fun c4664 => ?_)
  · have hw := hw.1 c4664
    exact t_Qry_readText_85 hx hb hml hown hT hK hN hA hRc hRs hRf hRl hNN hE hret  o l1 l2 x4662 H locs ls fo fl1 fl2 hw hW hS (lv_sub hl [0, 1, 2] rfl)
  · have hw := hw.2 c4664
    refine lv_aload_n hx hb d_Qry_readText_68 rfl (lv_at hl 0 rfl) ?_
    obtain ⟨q4665, hq4665, hw⟩ := hw
    refine w_getr (q := q4665) (k := 17) (t := 9) (C := R_Qry) (T := F_Qry) (N := 20) hx hb hT hown hK hW fo.1 fo.2 (by decide) in_Qry rfl rfl (by decide) rfl fr_Qry_17 w_3_105 d_Qry_readText_69 hq4665 (fun aq4665 bq4665 => ?_)
    have fq4665 : q4665 < NN ∧ kcC q4665 = 2 := ⟨aq4665, bq4665⟩
    refine va_ldcS hx hb hown (hE.str 18 (by decide)) d_Qry_readText_72 ?_
    have hF := hW.free hS hA
    refine va_calli (va_runV (C := R_Scn) (As := [.ref (kK 16)]) (rest := []) ⟨hx, hb, hml, hown, hT⟩ (k_Scn_takeWord l dC dI cI cB cJ cZ ad NN E tM tC kK kV hNN H.size q4665 16 x4662 fq4665 (by decide) hw) ⟨callB_of 1 hT (gw_in w_4_141) rfl rfl rfl (hT _ w_1_4) (hT _ w_7_159) (by decide +kernel) ⟨Nat.le_trans (by decide) hRf, Nat.le_trans (by decide) hRl⟩, hT _ w_4_139, hT _ w_4_140⟩ ⟨PV.blind, va_recv hK hW.1 (ci := 2) (q0 := q4665) rfl (pic_obj fq4665.1 fq4665.2 (by decide)), PV.at _ hW hK hN hE hS hF⟩ rfl rfl hl.1 rfl (lv_room (Nat.le_of_ble_eq_true rfl)) d_Qry_readText_74 ⟨hRc, hRs⟩) hS (fun q _ h => hF q h) hF (fun r4667 x4666 t H locs ht hvm hw hB hz1 hk1 hS => ?_)
    have hW := Wd.back hB ht hF
    clear hB ht hF hz1 hk1 hvm
    refine lv_if_eq (tgt := 85) hx hb d_Qry_readText_77 (by decide) (fun c4668 => ?_) (fun c4668 => ?_)
    · have hw := hw.1 c4668
      exact t_Qry_readText_85 hx hb hml hown hT hK hN hA hRc hRs hRf hRl hNN hE hret  o l1 l2 x4666 H locs ls fo fl1 fl2 hw hW hS (lv_sub hl [0, 1, 2] rfl)
    · have hw := hw.2 c4668
      refine lv_aload_n hx hb d_Qry_readText_80 rfl (lv_at hl 0 rfl) ?_
      refine lv_iconst (v := 0) hx hb d_Qry_readText_81 (by decide) ?_
      have hF := hW.free hS hA
      refine va_callv (va_runV (C := R_Qry) (As := [.int 0]) (rest := []) ⟨hx, hb, hml, hown, hT⟩ (k_Qry_readCondition l dC dI cI cB cJ cZ ad NN E tM tC kK kV hNN H.size o 0 x4666 fo hw) ⟨callB_of 1 hT (gw_in w_7_203) rfl rfl rfl (hT _ w_1_12) (hT _ w_7_200) (by decide +kernel) ⟨Nat.le_trans (by decide) hRf, Nat.le_trans (by decide) hRl⟩, hT _ w_7_202, hT _ ws_74⟩ ⟨PV.blind, va_recv hK hW.1 (ci := 9) (q0 := o) rfl (pic_obj fo.1 fo.2 (by decide)), PV.at _ hW hK hN hE hS hF⟩ rfl rfl hl.1 rfl (lv_room (Nat.le_of_ble_eq_true rfl)) d_Qry_readText_82 ⟨hRc, hRs⟩) hS (fun q _ h => hF q h) hF (fun  x4669 t H locs ht hvm hw hB hz1 hk1 hS => ?_)
      have hW := Wd.back hB ht hF
      clear hB ht hF hz1 hk1 hvm
      exact t_Qry_readText_85 hx hb hml hown hT hK hN hA hRc hRs hRf hRl hNN hE hret  o l1 l2 x4669 H locs ls fo fl1 fl2 hw hW hS (lv_sub hl [0, 1, 2] rfl)
set_option maxHeartbeats 4000000 in
set_option maxRecDepth 100000 in
theorem k_Qry_readText (l : Launch) (dC : Nat → ClassId) (dI : Nat → Nat → Nat) (cI cB cJ cZ : ClassId) (ad : Nat → Nat) (NN : Nat) (E : Heap) (tM tC : Nat) (kK kV : Nat → Nat) (hNN : 152 ≤ NN) (sz : Nat) (o : Nat) (l1 : Nat) (l2 : Nat) (x : St) (fo : o < NN ∧ kcC o = 9) (fl1 : l1 < NN ∧ kcC l1 = 2) (fl2 : l2 < NN ∧ kcC l2 = 3) {post : Int32 → St → Prop} (hw : wp_Qry_readText post o l1 l2 x) : Met l y_Qry_readText (wsOf y_Qry_readText b_Qry_readText 3 (some (.int))) ({ frames := 211, cells := 0, slots := 0, locals := 5363 }) (va_Pc [.ref (ad o), .ref (ad l1), .ref (ad l2)] (PV dC dI cI cB cJ cZ ad stC kcC NN E tM tC kK kV sz x)) (va_Qi (fun (r : Int32) (y : St) => post r y) (fun y t => Wd dC dI cI cB cJ cZ ad stC kcC NN (va_A (pic ad stC kcC NN cI cB cJ cZ x) sz) y t.heap) (va_A (pic ad stC kcC NN cI cB cJ cZ x) sz)) 0 0 (va_A (pic ad stC kcC NN cI cB cJ cZ x) sz) := by
  refine Met.ofW (cc := b_Qry_readText) (maxL := 3) (ret := some (.int)) (by decide) rfl ?_
  intro p e s m args below meth c s₁ B hml hv
  obtain ⟨rfl, ⟨hsz, hW0, hK, hN⟩, hE⟩ := hv
  have hx := B.exec
  have hb := B.bytes
  have hr := B.returns
  have hts := atoms_spec B.pre
  have hT : ∀ w ∈ TG, w.before _ s = true := fun w h => hts w (List.mem_cons_of_mem _ h)
  have hown : s.vm.findClass R_Qry = some m.cls := findClass_of_methodNamed B.named
  have hlocks := B.notSynchronized
  subst hsz
  have hW : Wd dC dI cI cB cJ cZ ad stC kcC NN (va_A (pic ad stC kcC NN cI cB cJ cZ x) s.heap.size) x s.heap := ⟨hW0.1, hW0.2.1.self (sz := s.heap.size), hW0.2.2⟩
  generalize hAe : va_A (pic ad stC kcC NN cI cB cJ cZ x) s.heap.size = A at hW hE ⊢
  have hA : ∀ q : Nat, s.heap.size ≤ q → A q := fun q h => by rw [← hAe]; exact Or.inr h
  have hS : va_S A s.heap s.heap [] := va_S.rf
  have hl := lv_entry ([.ref (ad o), .ref (ad l1), .ref (ad l2)]) (n := 3) (Nat.le_of_ble_eq_true rfl)
  rw [lg_entry_eq]
  generalize (lg_sl ([.ref (ad o), .ref (ad l1), .ref (ad l2)]) ++ List.replicate (3 - (lg_sl ([.ref (ad o), .ref (ad l1), .ref (ad l2)])).length) Slot.unset).toArray = ls at hl ⊢
  have hl : lv_has ls 3 [(0, .ref (ad o)), (1, .ref (ad l1)), (2, .ref (ad l2))] := hl
  exact t_Qry_readText_e hx hb hml hown hT hK hN hA (Nat.le_refl 0) (Nat.le_refl 0) (Nat.le_refl 211) (Nat.le_refl 5363) hNN hE (fun r x H locs pc ls hd hp hW hS => W.iret (v := r) hx hb hr (fun t ht hM => ⟨⟨r, x, rfl, hp, Wd.back hW ht.symm (fun _ z => z)⟩, hS.F ht⟩) hS.2.2 hd hlocks)  o l1 l2 x _ _ ls fo fl1 fl2 hw hW hS hl
set_option maxRecDepth 100000 in
def wp_V_query (post : Int32 → St → Prop) (o : Nat) (x : St) : Prop := wp_V_useInput (fun (r4671 : Int32) (x4670 : St) => ((¬ (fI x4670 (stC o 8) 0) = 0 → ((r4671 ≤ 2000 → (∃ q4674 : Nat, fR x4670 o 1 = some q4674 ∧ (∃ q4675 : Nat, fR x4670 q4674 0 = some q4675 ∧ wp_Scn_begin (fun (x4676 : St) => (∃ q4677 : Nat, fR x4676 o 11 = some q4677 ∧ wp_Qry_readText (fun (r4679 : Int32) (x4678 : St) => ((r4679 = (-1) → (∃ q4681 : Nat, fR x4678 o 10 = some q4681 ∧ (∃ q4682 : Nat, fR x4678 o 11 = some q4682 ∧ (∀ x4683 : St, x4683 = setR x4678 o 10 (some q4682) → (∀ x4684 : St, x4684 = setR x4683 o 11 (some q4681) → (∃ q4685 : Nat, fR x4684 o 10 = some q4685 ∧ (∀ x4686 : St, x4686 = setI x4684 q4685 0 1 → post (-1) x4686))))))) ∧ (¬ r4679 = (-1) → post r4679 x4678))) q4677 (stC o 3) (stC (stC o 8) 5) x4676)) (stC o 3) q4675 r4671 x4670))) ∧ (¬ r4671 ≤ 2000 → post 2000 x4670))) ∧ ((fI x4670 (stC o 8) 0) = 0 → post (-2) x4670))) o x
set_option maxHeartbeats 4000000 in
set_option maxRecDepth 100000 in
theorem t_V_query_e {p : Program} {l : Launch} {e : Env} {R : Room} {s : State} {m : MethodId} {args : Array Value} {below : List Frame} {meth : Method} {c : Code} {cells slots : Nat} {Q : State → Prop} {dC : Nat → ClassId} {dI : Nat → Nat → Nat} {cI cB cJ cZ : ClassId} {A : Nat → Prop} {ad : Nat → Nat} {NN : Nat} {E : Heap} {tM tC : Nat} {kK kV : Nat → Nat} {post : Int32 → St → Prop} (hx : p.tables.exec = Jvm.exec) (hb : c.code = b_V_query) (hml : c.maxLocals = 4) (hown : s.vm.findClass R_V = some m.cls) (hT : ∀ w ∈ TG, w.before args s = true) (hK : va_K (dC, dI) CL (TY cI cB cJ cZ) s) (hN : NW s) (hA : ∀ q : Nat, s.heap.size ≤ q → A q) (hRc : cells ≤ R.cells) (hRs : slots ≤ R.slots) (hRf : 212 ≤ R.frames) (hRl : 5385 ≤ R.locals) (hNN : 152 ≤ NN) (hE : CE E tM tC kK kV A s) (hret : ∀ (r : Int32) (x : St) (H : Heap) (locs : List Loc) (pc : Nat) (ls : Array Slot), decode b_V_query pc = .ok (.ireturn, 1) → post r x → Wd dC dI cI cB cJ cZ ad stC kcC NN A x H → va_S A s.heap H locs → W p l e R s m args below meth c H locs cells slots Q (F0 m pc ls [.int r])) : ∀ (o : Nat) (x : St) (H : Heap) (locs : List Loc) (ls : Array Slot), (o < NN ∧ kcC o = 0) → wp_V_query post o x → Wd dC dI cI cB cJ cZ ad stC kcC NN A x H → va_S A s.heap H locs → lv_has ls 4 [(0, .ref (ad o))] → W p l e R s m args below meth c H locs cells slots Q (F0 m 0 ls []) := by
  intro o x H locs ls fo hw hW hS hl
  unfold wp_V_query at hw
  refine lv_aload_n hx hb d_V_query_0 rfl (lv_at hl 0 rfl) ?_
  have hF := hW.free hS hA
  refine va_calli (va_runV (C := R_V) (As := []) (rest := []) ⟨hx, hb, hml, hown, hT⟩ (k_V_useInput l dC dI cI cB cJ cZ ad NN E tM tC kK kV hNN H.size o x fo hw) ⟨callB_of 0 hT (gw_in w_4_89) rfl rfl rfl (hT _ w_1_1) (hT _ w_4_86) (by decide +kernel) ⟨Nat.le_trans (by decide) hRf, Nat.le_trans (by decide) hRl⟩, hT _ w_4_88, hT _ ws_2⟩ ⟨PV.blind, va_recv hK hW.1 (ci := 0) (q0 := o) rfl (pic_obj fo.1 fo.2 (by decide)), PV.at _ hW hK hN hE hS hF⟩ rfl rfl hl.1 rfl (lv_room (Nat.le_of_ble_eq_true rfl)) d_V_query_1 ⟨hRc, hRs⟩) hS (fun q _ h => hF q h) hF (fun r4671 x4670 t H locs ht hvm hw hB hz1 hk1 hS => ?_)
  have hW := Wd.back hB ht hF
  clear hB ht hF hz1 hk1 hvm
  refine lv_istore_n (lv' := [(1, .int r4671), (0, .ref (ad o))]) hx hb d_V_query_4 rfl hl (by decide) rfl (fun ls hl => ?_)
  refine lv_aload_n hx hb d_V_query_5 rfl (lv_at hl 1 rfl) ?_
  refine w_getf (q := (stC o 8)) (k := 8) (t := 0) (C := R_V) (T := F_V) (N := 15) hx hb hT hown hK hW fo.1 fo.2 (by decide) in_V rfl rfl (by decide) rfl fr_V_8 w_4_3 d_V_query_6 rfl ?_
  refine w_geti (k := 0) (t := 6) (C := R_Vlt) (T := F_Vlt) (N := 20) hx hb hT hown hK hW (st_ty hNN fo.1 fo.2 rfl).1 (st_ty hNN fo.1 fo.2 rfl).2 (by decide) in_Vlt rfl rfl (by decide) rfl fr_Vlt_0 w_2_122 d_V_query_9 ?_
  refine lv_if_ne (tgt := 18) hx hb d_V_query_12 (by decide) (fun c4672 => ?_) (fun c4672 => ?_)
  · have hw := hw.1 c4672
    refine lv_iload_n hx hb d_V_query_18 rfl (lv_at hl 0 rfl) ?_
    refine lv_sipush (v := 2000) hx hb d_V_query_19 (by decide) ?_
    refine lv_icmp_le (tgt := 29) hx hb d_V_query_22 (by decide) (fun c4673 => ?_) (fun c4673 => ?_)
    · have hw := hw.1 c4673
      refine lv_aload_n hx hb d_V_query_29 rfl (lv_at hl 1 rfl) ?_
      refine w_getf (q := (stC o 3)) (k := 3) (t := 0) (C := R_V) (T := F_V) (N := 15) hx hb hT hown hK hW fo.1 fo.2 (by decide) in_V rfl rfl (by decide) rfl fr_V_3 w_3_238 d_V_query_30 rfl ?_
      refine lv_aload_n hx hb d_V_query_33 rfl (lv_at hl 1 rfl) ?_
      obtain ⟨q4674, hq4674, hw⟩ := hw
      refine w_getr (q := q4674) (k := 1) (t := 0) (C := R_V) (T := F_V) (N := 15) hx hb hT hown hK hW fo.1 fo.2 (by decide) in_V rfl rfl (by decide) rfl fr_V_1 w_3_236 d_V_query_34 hq4674 (fun aq4674 bq4674 => ?_)
      have fq4674 : q4674 < NN ∧ kcC q4674 = 1 := ⟨aq4674, bq4674⟩
      obtain ⟨q4675, hq4675, hw⟩ := hw
      refine w_getr (q := q4675) (k := 0) (t := 1) (C := R_Snk) (T := F_Snk) (N := 7) hx hb hT hown hK hW fq4674.1 fq4674.2 (by decide) in_Snk rfl rfl (by decide) rfl fr_Snk_0 w_1_42 d_V_query_37 hq4675 (fun aq4675 bq4675 => ?_)
      have fq4675 : q4675 < NN ∧ kcC q4675 = 21 := ⟨aq4675, bq4675⟩
      refine lv_iload_n hx hb d_V_query_40 rfl (lv_at hl 0 rfl) ?_
      have hF := hW.free hS hA
      refine va_callv (va_runV (C := R_Scn) (As := [.ref (ad q4675), .int r4671]) (rest := []) ⟨hx, hb, hml, hown, hT⟩ (k_Scn_begin l dC dI cI cB cJ cZ ad NN E tM tC kK kV hNN H.size (stC o 3) q4675 r4671 x4670 (st_ty hNN fo.1 fo.2 rfl) fq4675 hw) ⟨callB_of 2 hT (gw_in w_4_93) rfl rfl rfl (hT _ w_1_4) (hT _ w_4_90) (by decide +kernel) ⟨Nat.le_trans (by decide) hRf, Nat.le_trans (by decide) hRl⟩, hT _ w_4_91, hT _ w_4_92⟩ ⟨PV.blind, va_recv hK hW.1 (ci := 2) (q0 := (stC o 3)) rfl (pic_obj (st_ty hNN fo.1 fo.2 rfl).1 (st_ty hNN fo.1 fo.2 rfl).2 (by decide)), PV.at _ hW hK hN hE hS hF⟩ rfl rfl hl.1 rfl (lv_room (Nat.le_of_ble_eq_true rfl)) d_V_query_41 ⟨hRc, hRs⟩) hS (fun q _ h => hF q h) hF (fun  x4676 t H locs ht hvm hw hB hz1 hk1 hS => ?_)
      have hW := Wd.back hB ht hF
      clear hB ht hF hz1 hk1 hvm
      refine lv_aload_n hx hb d_V_query_44 rfl (lv_at hl 1 rfl) ?_
      obtain ⟨q4677, hq4677, hw⟩ := hw
      refine w_getr (q := q4677) (k := 11) (t := 0) (C := R_V) (T := F_V) (N := 15) hx hb hT hown hK hW fo.1 fo.2 (by decide) in_V rfl rfl (by decide) rfl fr_V_11 w_4_6 d_V_query_45 hq4677 (fun aq4677 bq4677 => ?_)
      have fq4677 : q4677 < NN ∧ kcC q4677 = 9 := ⟨aq4677, bq4677⟩
      refine lv_aload_n hx hb d_V_query_48 rfl (lv_at hl 1 rfl) ?_
      refine w_getf (q := (stC o 3)) (k := 3) (t := 0) (C := R_V) (T := F_V) (N := 15) hx hb hT hown hK hW fo.1 fo.2 (by decide) in_V rfl rfl (by decide) rfl fr_V_3 w_3_238 d_V_query_49 rfl ?_
      refine lv_aload_n hx hb d_V_query_52 rfl (lv_at hl 1 rfl) ?_
      refine w_getf (q := (stC o 8)) (k := 8) (t := 0) (C := R_V) (T := F_V) (N := 15) hx hb hT hown hK hW fo.1 fo.2 (by decide) in_V rfl rfl (by decide) rfl fr_V_8 w_4_3 d_V_query_53 rfl ?_
      refine w_getf (q := (stC (stC o 8) 5)) (k := 5) (t := 6) (C := R_Vlt) (T := F_Vlt) (N := 20) hx hb hT hown hK hW (st_ty hNN fo.1 fo.2 rfl).1 (st_ty hNN fo.1 fo.2 rfl).2 (by decide) in_Vlt rfl rfl (by decide) rfl fr_Vlt_5 w_2_138 d_V_query_56 rfl ?_
      have hF := hW.free hS hA
      refine va_calli (va_runV (C := R_Qry) (As := [.ref (ad (stC o 3)), .ref (ad (stC (stC o 8) 5))]) (rest := []) ⟨hx, hb, hml, hown, hT⟩ (k_Qry_readText l dC dI cI cB cJ cZ ad NN E tM tC kK kV hNN H.size q4677 (stC o 3) (stC (stC o 8) 5) x4676 fq4677 (st_ty hNN fo.1 fo.2 rfl) (st_ty hNN (st_ty hNN fo.1 fo.2 rfl).1 (st_ty hNN fo.1 fo.2 rfl).2 rfl) hw) ⟨callB_of 2 hT (gw_in w_7_140) rfl rfl rfl (hT _ w_1_12) (hT _ w_7_137) (by decide +kernel) ⟨Nat.le_trans (by decide) hRf, Nat.le_trans (by decide) hRl⟩, hT _ w_7_138, hT _ w_7_139⟩ ⟨PV.blind, va_recv hK hW.1 (ci := 9) (q0 := q4677) rfl (pic_obj fq4677.1 fq4677.2 (by decide)), PV.at _ hW hK hN hE hS hF⟩ rfl rfl hl.1 rfl (lv_room (Nat.le_of_ble_eq_true rfl)) d_V_query_59 ⟨hRc, hRs⟩) hS (fun q _ h => hF q h) hF (fun r4679 x4678 t H locs ht hvm hw hB hz1 hk1 hS => ?_)
      have hW := Wd.back hB ht hF
      clear hB ht hF hz1 hk1 hvm
      refine lv_istore_n (lv' := [(2, .int r4679), (1, .int r4671), (0, .ref (ad o))]) hx hb d_V_query_62 rfl hl (by decide) rfl (fun ls hl => ?_)
      refine lv_iload_n hx hb d_V_query_63 rfl (lv_at hl 0 rfl) ?_
      refine lv_iconst (v := (-1)) hx hb d_V_query_64 (by decide) ?_
      refine lv_icmp_eq (tgt := 70) hx hb d_V_query_65 (by decide) (fun c4680 => ?_) (fun c4680 => ?_)
      · have hw := hw.1 c4680
        refine lv_aload_n hx hb d_V_query_70 rfl (lv_at hl 2 rfl) ?_
        obtain ⟨q4681, hq4681, hw⟩ := hw
        refine w_getr (q := q4681) (k := 10) (t := 0) (C := R_V) (T := F_V) (N := 15) hx hb hT hown hK hW fo.1 fo.2 (by decide) in_V rfl rfl (by decide) rfl fr_V_10 w_4_5 d_V_query_71 hq4681 (fun aq4681 bq4681 => ?_)
        have fq4681 : q4681 < NN ∧ kcC q4681 = 9 := ⟨aq4681, bq4681⟩
        refine lv_astore_n (lv' := [(3, .ref (ad q4681)), (2, .int r4679), (1, .int r4671), (0, .ref (ad o))]) hx hb d_V_query_74 rfl hl (by decide) rfl (fun ls hl => ?_)
        refine lv_aload_n hx hb d_V_query_75 rfl (lv_at hl 3 rfl) ?_
        refine lv_aload_n hx hb d_V_query_76 rfl (lv_at hl 3 rfl) ?_
        obtain ⟨q4682, hq4682, hw⟩ := hw
        refine w_getr (q := q4682) (k := 11) (t := 0) (C := R_V) (T := F_V) (N := 15) hx hb hT hown hK hW fo.1 fo.2 (by decide) in_V rfl rfl (by decide) rfl fr_V_11 w_4_6 d_V_query_77 hq4682 (fun aq4682 bq4682 => ?_)
        have fq4682 : q4682 < NN ∧ kcC q4682 = 9 := ⟨aq4682, bq4682⟩
        refine w_putr (q := q4682) (ty := .object "StripedVault$Query") (k := 10) (t := 0) (C := R_V) (T := F_V) (N := 15) hx hb hT hown hK hW hS fo.1 fo.2 (by decide) in_V t_V t_V_ok n_V rfl rfl (by decide) rfl fr_V_10 w_4_5 (by decide +kernel) rfl rfl fq4682.1 fq4682.2 d_V_query_80 (fun H locs hW hS => ?_)
        obtain ⟨x4683, ex4683⟩ : ∃ y : St, y = setR x4678 o 10 (some q4682) := ⟨_, rfl⟩
        rw [← ex4683] at hW
        have hw := hw x4683 ex4683
        refine lv_aload_n hx hb d_V_query_83 rfl (lv_at hl 3 rfl) ?_
        refine lv_aload_n hx hb d_V_query_84 rfl (lv_at hl 0 rfl) ?_
        refine w_putr (q := q4681) (ty := .object "StripedVault$Query") (k := 11) (t := 0) (C := R_V) (T := F_V) (N := 15) hx hb hT hown hK hW hS fo.1 fo.2 (by decide) in_V t_V t_V_ok n_V rfl rfl (by decide) rfl fr_V_11 w_4_6 (by decide +kernel) rfl rfl fq4681.1 fq4681.2 d_V_query_85 (fun H locs hW hS => ?_)
        obtain ⟨x4684, ex4684⟩ : ∃ y : St, y = setR x4683 o 11 (some q4681) := ⟨_, rfl⟩
        rw [← ex4684] at hW
        have hw := hw x4684 ex4684
        refine lv_aload_n hx hb d_V_query_88 rfl (lv_at hl 3 rfl) ?_
        obtain ⟨q4685, hq4685, hw⟩ := hw
        refine w_getr (q := q4685) (k := 10) (t := 0) (C := R_V) (T := F_V) (N := 15) hx hb hT hown hK hW fo.1 fo.2 (by decide) in_V rfl rfl (by decide) rfl fr_V_10 w_4_5 d_V_query_89 hq4685 (fun aq4685 bq4685 => ?_)
        have fq4685 : q4685 < NN ∧ kcC q4685 = 9 := ⟨aq4685, bq4685⟩
        refine lv_iconst (v := 1) hx hb d_V_query_92 (by decide) ?_
        refine w_puti (ty := .boolean) (k := 0) (t := 9) (C := R_Qry) (T := F_Qry) (N := 20) hx hb hT hown hK hW hS fq4685.1 fq4685.2 (by decide) in_Qry t_Qry t_Qry_ok n_Qry rfl rfl (by decide) rfl fr_Qry_0 w_3_75 (by decide +kernel) rfl rfl d_V_query_93 (fun H locs hW hS => ?_)
        obtain ⟨x4686, ex4686⟩ : ∃ y : St, y = setI x4684 q4685 0 1 := ⟨_, rfl⟩
        rw [← ex4686] at hW
        have hw := hw x4686 ex4686
        refine lv_iconst (v := (-1)) hx hb d_V_query_96 (by decide) ?_
        exact hret (-1) x4686 H locs 97 ls d_V_query_97 hw hW hS
      · have hw := hw.2 c4680
        refine lv_iload_n hx hb d_V_query_68 rfl (lv_at hl 0 rfl) ?_
        exact hret r4679 x4678 H locs 69 ls d_V_query_69 hw hW hS
    · have hw := hw.2 c4673
      refine lv_sipush (v := 2000) hx hb d_V_query_25 (by decide) ?_
      exact hret 2000 x4670 H locs 28 ls d_V_query_28 hw hW hS
  · have hw := hw.2 c4672
    refine lv_bipush (v := (-2)) hx hb d_V_query_15 (by decide) ?_
    exact hret (-2) x4670 H locs 17 ls d_V_query_17 hw hW hS
set_option maxHeartbeats 4000000 in
set_option maxRecDepth 100000 in
theorem k_V_query (l : Launch) (dC : Nat → ClassId) (dI : Nat → Nat → Nat) (cI cB cJ cZ : ClassId) (ad : Nat → Nat) (NN : Nat) (E : Heap) (tM tC : Nat) (kK kV : Nat → Nat) (hNN : 152 ≤ NN) (sz : Nat) (o : Nat) (x : St) (fo : o < NN ∧ kcC o = 0) {post : Int32 → St → Prop} (hw : wp_V_query post o x) : Met l y_V_query (wsOf y_V_query b_V_query 4 (some (.int))) ({ frames := 212, cells := 0, slots := 0, locals := 5385 }) (va_Pc [.ref (ad o)] (PV dC dI cI cB cJ cZ ad stC kcC NN E tM tC kK kV sz x)) (va_Qi (fun (r : Int32) (y : St) => post r y) (fun y t => Wd dC dI cI cB cJ cZ ad stC kcC NN (va_A (pic ad stC kcC NN cI cB cJ cZ x) sz) y t.heap) (va_A (pic ad stC kcC NN cI cB cJ cZ x) sz)) 0 0 (va_A (pic ad stC kcC NN cI cB cJ cZ x) sz) := by
  refine Met.ofW (cc := b_V_query) (maxL := 4) (ret := some (.int)) (by decide) rfl ?_
  intro p e s m args below meth c s₁ B hml hv
  obtain ⟨rfl, ⟨hsz, hW0, hK, hN⟩, hE⟩ := hv
  have hx := B.exec
  have hb := B.bytes
  have hr := B.returns
  have hts := atoms_spec B.pre
  have hT : ∀ w ∈ TG, w.before _ s = true := fun w h => hts w (List.mem_cons_of_mem _ h)
  have hown : s.vm.findClass R_V = some m.cls := findClass_of_methodNamed B.named
  have hlocks := B.notSynchronized
  subst hsz
  have hW : Wd dC dI cI cB cJ cZ ad stC kcC NN (va_A (pic ad stC kcC NN cI cB cJ cZ x) s.heap.size) x s.heap := ⟨hW0.1, hW0.2.1.self (sz := s.heap.size), hW0.2.2⟩
  generalize hAe : va_A (pic ad stC kcC NN cI cB cJ cZ x) s.heap.size = A at hW hE ⊢
  have hA : ∀ q : Nat, s.heap.size ≤ q → A q := fun q h => by rw [← hAe]; exact Or.inr h
  have hS : va_S A s.heap s.heap [] := va_S.rf
  have hl := lv_entry ([.ref (ad o)]) (n := 4) (Nat.le_of_ble_eq_true rfl)
  rw [lg_entry_eq]
  generalize (lg_sl ([.ref (ad o)]) ++ List.replicate (4 - (lg_sl ([.ref (ad o)])).length) Slot.unset).toArray = ls at hl ⊢
  have hl : lv_has ls 4 [(0, .ref (ad o))] := hl
  exact t_V_query_e hx hb hml hown hT hK hN hA (Nat.le_refl 0) (Nat.le_refl 0) (Nat.le_refl 212) (Nat.le_refl 5385) hNN hE (fun r x H locs pc ls hd hp hW hS => W.iret (v := r) hx hb hr (fun t ht hM => ⟨⟨r, x, rfl, hp, Wd.back hW ht.symm (fun _ z => z)⟩, hS.F ht⟩) hS.2.2 hd hlocks)  o x _ _ ls fo hw hW hS hl
end
