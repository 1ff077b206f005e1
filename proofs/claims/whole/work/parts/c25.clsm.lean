theorem fr_Qry_5 : F_Qry 5 = (R_Qry, "bys", "I", false) := rfl
theorem w_1_90 : (Jvm.Cond.fieldLink "StripedVault$Query" (119 : Nat) "StripedVault$Scan" "place" "I") ∈ TG := tw_1 90 (by decide +kernel) (by decide +kernel)
theorem w_3_74 : (Jvm.Cond.fieldLink "StripedVault$Query" (52 : Nat) "StripedVault$Query" "ready" "Z") ∈ TG := tw_3 74 (by decide +kernel) (by decide +kernel)
theorem w_3_83 : (Jvm.Cond.fieldLink "StripedVault$Query" (60 : Nat) "StripedVault$Query" "bys" "I") ∈ TG := tw_3 83 (by decide +kernel) (by decide +kernel)
theorem w_7_137 : (Jvm.Cond.methodLink "StripedVault" (197 : Nat) ({ cls := "StripedVault$Query", name := "readText", desc := "(LStripedVault$Scan;LStripedVault$Schema;)I" } : Jvm.MethodName)) ∈ TG := tw_7 137 (by decide +kernel) (by decide +kernel)
theorem w_7_138 : (Jvm.Cond.instanceMethod ({ cls := "StripedVault$Query", name := "readText", desc := "(LStripedVault$Scan;LStripedVault$Schema;)I" } : Jvm.MethodName)) ∈ TG := tw_7 138 (by decide +kernel) (by decide +kernel)
theorem w_7_139 : (Jvm.Cond.selects "StripedVault$Query" ({ cls := "StripedVault$Query", name := "readText", desc := "(LStripedVault$Scan;LStripedVault$Schema;)I" } : Jvm.MethodName) ({ cls := "StripedVault$Query", name := "readText", desc := "(LStripedVault$Scan;LStripedVault$Schema;)I" } : Jvm.MethodName)) ∈ TG := tw_7 139 (by decide +kernel) (by decide +kernel)
theorem w_7_140 : (Jvm.Cond.code ({ cls := "StripedVault$Query", name := "readText", desc := "(LStripedVault$Scan;LStripedVault$Schema;)I" } : Jvm.MethodName) prog_5_method_2_code (3 : Nat) (Option.some Jvm.ClassFile.FieldType.int)) ∈ TG := tw_7 140 (by decide +kernel) (by decide +kernel)
theorem w_7_143 : (Jvm.Cond.methodLink "StripedVault$Query" (83 : Nat) ({ cls := "StripedVault$Query", name := "readItems", desc := "()V" } : Jvm.MethodName)) ∈ TG := tw_7 143 (by decide +kernel) (by decide +kernel)
theorem w_7_145 : (Jvm.Cond.instanceMethod ({ cls := "StripedVault$Query", name := "readItems", desc := "()V" } : Jvm.MethodName)) ∈ TG := tw_7 145 (by decide +kernel) (by decide +kernel)
theorem w_7_146 : (Jvm.Cond.code ({ cls := "StripedVault$Query", name := "readItems", desc := "()V" } : Jvm.MethodName) prog_5_method_5_code (3 : Nat) (Option.none : Option Jvm.ClassFile.FieldType)) ∈ TG := tw_7 146 (by decide +kernel) (by decide +kernel)
theorem w_8_0 : (Jvm.Cond.methodLink "StripedVault$Query" (103 : Nat) ({ cls := "StripedVault$Query", name := "readBys", desc := "()V" } : Jvm.MethodName)) ∈ TG := tw_8 0 (by decide +kernel) (by decide +kernel)
theorem w_8_10 : (Jvm.Cond.instanceMethod ({ cls := "StripedVault$Query", name := "checkItems", desc := "()V" } : Jvm.MethodName)) ∈ TG := tw_8 10 (by decide +kernel) (by decide +kernel)
theorem w_8_11 : (Jvm.Cond.code ({ cls := "StripedVault$Query", name := "checkItems", desc := "()V" } : Jvm.MethodName) prog_5_method_3_code (2 : Nat) (Option.none : Option Jvm.ClassFile.FieldType)) ∈ TG := tw_8 11 (by decide +kernel) (by decide +kernel)
theorem w_8_2 : (Jvm.Cond.instanceMethod ({ cls := "StripedVault$Query", name := "readBys", desc := "()V" } : Jvm.MethodName)) ∈ TG := tw_8 2 (by decide +kernel) (by decide +kernel)
theorem w_8_3 : (Jvm.Cond.code ({ cls := "StripedVault$Query", name := "readBys", desc := "()V" } : Jvm.MethodName) prog_5_method_9_code (4 : Nat) (Option.none : Option Jvm.ClassFile.FieldType)) ∈ TG := tw_8 3 (by decide +kernel) (by decide +kernel)
theorem w_8_4 : (Jvm.Cond.methodLink "StripedVault$Query" (122 : Nat) ({ cls := "StripedVault$Query", name := "isBy", desc := "(I)Z" } : Jvm.MethodName)) ∈ TG := tw_8 4 (by decide +kernel) (by decide +kernel)
theorem w_8_6 : (Jvm.Cond.instanceMethod ({ cls := "StripedVault$Query", name := "isBy", desc := "(I)Z" } : Jvm.MethodName)) ∈ TG := tw_8 6 (by decide +kernel) (by decide +kernel)
theorem w_8_7 : (Jvm.Cond.code ({ cls := "StripedVault$Query", name := "isBy", desc := "(I)Z" } : Jvm.MethodName) prog_5_method_4_code (3 : Nat) (Option.some Jvm.ClassFile.FieldType.boolean)) ∈ TG := tw_8 7 (by decide +kernel) (by decide +kernel)
theorem w_8_8 : (Jvm.Cond.methodLink "StripedVault$Query" (116 : Nat) ({ cls := "StripedVault$Query", name := "checkItems", desc := "()V" } : Jvm.MethodName)) ∈ TG := tw_8 8 (by decide +kernel) (by decide +kernel)
theorem ws_68 : Cond.selects R_Qry y_Qry_readItems y_Qry_readItems ∈ TG := tw_s 68 (by decide +kernel) (by decide +kernel)
theorem ws_83 : Cond.selects R_Qry y_Qry_readBys y_Qry_readBys ∈ TG := tw_s 83 (by decide +kernel) (by decide +kernel)
theorem ws_84 : Cond.selects R_Qry y_Qry_isBy y_Qry_isBy ∈ TG := tw_s 84 (by decide +kernel) (by decide +kernel)
theorem ws_85 : Cond.selects R_Qry y_Qry_checkItems y_Qry_checkItems ∈ TG := tw_s 85 (by decide +kernel) (by decide +kernel)
theorem d_Qry_isBy_2 : decode b_Qry_isBy 2 = .ok (.iload_n 2, 1) := by decide +kernel
theorem d_Qry_isBy_3 : decode b_Qry_isBy 3 = .ok (.aload_n 0, 1) := by decide +kernel
theorem d_Qry_isBy_4 : decode b_Qry_isBy 4 = .ok (.getfield 60, 3) := by decide +kernel
theorem d_Qry_isBy_7 : decode b_Qry_isBy 7 = .ok (.if_icmp .ge 21, 3) := by decide +kernel
theorem d_Qry_isBy_28 : decode b_Qry_isBy 28 = .ok (.iconst 0, 1) := by decide +kernel
theorem d_Qry_isBy_29 : decode b_Qry_isBy 29 = .ok (.ireturn, 1) := by decide +kernel
theorem d_Qry_isBy_10 : decode b_Qry_isBy 10 = .ok (.aload_n 0, 1) := by decide +kernel
theorem d_Qry_isBy_11 : decode b_Qry_isBy 11 = .ok (.getfield 21, 3) := by decide +kernel
theorem d_Qry_isBy_14 : decode b_Qry_isBy 14 = .ok (.iload_n 2, 1) := by decide +kernel
theorem d_Qry_isBy_15 : decode b_Qry_isBy 15 = .ok (.iaload, 1) := by decide +kernel
theorem d_Qry_isBy_16 : decode b_Qry_isBy 16 = .ok (.iload_n 1, 1) := by decide +kernel
theorem d_Qry_isBy_17 : decode b_Qry_isBy 17 = .ok (.if_icmp .ne 5, 3) := by decide +kernel
theorem d_Qry_isBy_22 : decode b_Qry_isBy 22 = .ok (.iinc 2 1, 3) := by decide +kernel
theorem d_Qry_isBy_25 : decode b_Qry_isBy 25 = .ok (.goto (-23), 3) := by decide +kernel
theorem d_Qry_isBy_20 : decode b_Qry_isBy 20 = .ok (.iconst 1, 1) := by decide +kernel
theorem d_Qry_isBy_21 : decode b_Qry_isBy 21 = .ok (.ireturn, 1) := by decide +kernel
theorem d_Qry_isBy_0 : decode b_Qry_isBy 0 = .ok (.iconst 0, 1) := by decide +kernel
theorem d_Qry_isBy_1 : decode b_Qry_isBy 1 = .ok (.istore_n 2, 1) := by decide +kernel
theorem d_Qry_readBys_138 : decode b_Qry_readBys 138 = .ok (.istore_n 1, 1) := by decide +kernel
theorem d_Qry_readBys_139 : decode b_Qry_readBys 139 = .ok (.iinc 2 1, 3) := by decide +kernel
theorem d_Qry_readBys_142 : decode b_Qry_readBys 142 = .ok (.goto (-127), 3) := by decide +kernel
theorem d_Qry_readBys_137 : decode b_Qry_readBys 137 = .ok (.iconst 0, 1) := by decide +kernel
theorem d_Qry_readBys_91 : decode b_Qry_readBys 91 = .ok (.aload_n 0, 1) := by decide +kernel
theorem d_Qry_readBys_92 : decode b_Qry_readBys 92 = .ok (.getfield 21, 3) := by decide +kernel
theorem d_Qry_readBys_95 : decode b_Qry_readBys 95 = .ok (.aload_n 0, 1) := by decide +kernel
theorem d_Qry_readBys_96 : decode b_Qry_readBys 96 = .ok (.getfield 60, 3) := by decide +kernel
theorem d_Qry_readBys_99 : decode b_Qry_readBys 99 = .ok (.iload_n 3, 1) := by decide +kernel
theorem d_Qry_readBys_100 : decode b_Qry_readBys 100 = .ok (.iastore, 1) := by decide +kernel
theorem d_Qry_readBys_101 : decode b_Qry_readBys 101 = .ok (.aload_n 0, 1) := by decide +kernel
theorem d_Qry_readBys_102 : decode b_Qry_readBys 102 = .ok (.dup, 1) := by decide +kernel
theorem d_Qry_readBys_103 : decode b_Qry_readBys 103 = .ok (.getfield 60, 3) := by decide +kernel
theorem d_Qry_readBys_106 : decode b_Qry_readBys 106 = .ok (.iconst 1, 1) := by decide +kernel
theorem d_Qry_readBys_107 : decode b_Qry_readBys 107 = .ok (.iadd, 1) := by decide +kernel
theorem d_Qry_readBys_108 : decode b_Qry_readBys 108 = .ok (.putfield 60, 3) := by decide +kernel
theorem d_Qry_readBys_111 : decode b_Qry_readBys 111 = .ok (.aload_n 0, 1) := by decide +kernel
theorem d_Qry_readBys_112 : decode b_Qry_readBys 112 = .ok (.getfield 44, 3) := by decide +kernel
theorem d_Qry_readBys_115 : decode b_Qry_readBys 115 = .ok (.invokevirtual 86, 3) := by decide +kernel
theorem d_Qry_readBys_118 : decode b_Qry_readBys 118 = .ok (.ifCond .eq 19, 3) := by decide +kernel
theorem d_Qry_readBys_121 : decode b_Qry_readBys 121 = .ok (.aload_n 0, 1) := by decide +kernel
theorem d_Qry_readBys_122 : decode b_Qry_readBys 122 = .ok (.getfield 44, 3) := by decide +kernel
theorem d_Qry_readBys_125 : decode b_Qry_readBys 125 = .ok (.bipush 44, 2) := by decide +kernel
theorem d_Qry_readBys_127 : decode b_Qry_readBys 127 = .ok (.invokevirtual 129, 3) := by decide +kernel
theorem d_Qry_readBys_130 : decode b_Qry_readBys 130 = .ok (.ifCond .eq 7, 3) := by decide +kernel
theorem d_Qry_readBys_133 : decode b_Qry_readBys 133 = .ok (.iconst 1, 1) := by decide +kernel
theorem d_Qry_readBys_134 : decode b_Qry_readBys 134 = .ok (.goto 4, 3) := by decide +kernel
theorem d_Qry_readBys_15 : decode b_Qry_readBys 15 = .ok (.iload_n 2, 1) := by decide +kernel
theorem d_Qry_readBys_16 : decode b_Qry_readBys 16 = .ok (.bipush 8, 2) := by decide +kernel
theorem d_Qry_readBys_18 : decode b_Qry_readBys 18 = .ok (.if_icmp .gt 127, 3) := by decide +kernel
theorem d_Qry_readBys_145 : decode b_Qry_readBys 145 = .ok (.return_, 1) := by decide +kernel
theorem d_Qry_readBys_21 : decode b_Qry_readBys 21 = .ok (.iload_n 1, 1) := by decide +kernel
theorem d_Qry_readBys_22 : decode b_Qry_readBys 22 = .ok (.ifCond .eq 123, 3) := by decide +kernel
theorem d_Qry_readBys_25 : decode b_Qry_readBys 25 = .ok (.aload_n 0, 1) := by decide +kernel
theorem d_Qry_readBys_26 : decode b_Qry_readBys 26 = .ok (.getfield 44, 3) := by decide +kernel
theorem d_Qry_readBys_29 : decode b_Qry_readBys 29 = .ok (.invokevirtual 106, 3) := by decide +kernel
theorem d_Qry_readBys_32 : decode b_Qry_readBys 32 = .ok (.pop, 1) := by decide +kernel
theorem d_Qry_readBys_33 : decode b_Qry_readBys 33 = .ok (.aload_n 0, 1) := by decide +kernel
theorem d_Qry_readBys_34 : decode b_Qry_readBys 34 = .ok (.getfield 60, 3) := by decide +kernel
theorem d_Qry_readBys_37 : decode b_Qry_readBys 37 = .ok (.bipush 8, 2) := by decide +kernel
theorem d_Qry_readBys_39 : decode b_Qry_readBys 39 = .ok (.if_icmp .lt 18, 3) := by decide +kernel
theorem d_Qry_readBys_57 : decode b_Qry_readBys 57 = .ok (.aload_n 0, 1) := by decide +kernel
theorem d_Qry_readBys_58 : decode b_Qry_readBys 58 = .ok (.invokevirtual 143, 3) := by decide +kernel
theorem d_Qry_readBys_61 : decode b_Qry_readBys 61 = .ok (.istore_n 3, 1) := by decide +kernel
theorem d_Qry_readBys_62 : decode b_Qry_readBys 62 = .ok (.aload_n 0, 1) := by decide +kernel
theorem d_Qry_readBys_63 : decode b_Qry_readBys 63 = .ok (.getfield 44, 3) := by decide +kernel
theorem d_Qry_readBys_66 : decode b_Qry_readBys 66 = .ok (.invokevirtual 86, 3) := by decide +kernel
theorem d_Qry_readBys_69 : decode b_Qry_readBys 69 = .ok (.ifCond .eq 22, 3) := by decide +kernel
theorem d_Qry_readBys_72 : decode b_Qry_readBys 72 = .ok (.aload_n 0, 1) := by decide +kernel
theorem d_Qry_readBys_73 : decode b_Qry_readBys 73 = .ok (.iload_n 3, 1) := by decide +kernel
theorem d_Qry_readBys_74 : decode b_Qry_readBys 74 = .ok (.invokevirtual 122, 3) := by decide +kernel
theorem d_Qry_readBys_77 : decode b_Qry_readBys 77 = .ok (.ifCond .eq 14, 3) := by decide +kernel
theorem d_Qry_readBys_80 : decode b_Qry_readBys 80 = .ok (.aload_n 0, 1) := by decide +kernel
theorem d_Qry_readBys_81 : decode b_Qry_readBys 81 = .ok (.getfield 44, 3) := by decide +kernel
theorem d_Qry_readBys_84 : decode b_Qry_readBys 84 = .ok (.aload_n 0, 1) := by decide +kernel
theorem d_Qry_readBys_85 : decode b_Qry_readBys 85 = .ok (.getfield 154, 3) := by decide +kernel
theorem d_Qry_readBys_88 : decode b_Qry_readBys 88 = .ok (.invokevirtual 113, 3) := by decide +kernel
theorem d_Qry_readBys_42 : decode b_Qry_readBys 42 = .ok (.aload_n 0, 1) := by decide +kernel
theorem d_Qry_readBys_43 : decode b_Qry_readBys 43 = .ok (.getfield 44, 3) := by decide +kernel
theorem d_Qry_readBys_46 : decode b_Qry_readBys 46 = .ok (.aload_n 0, 1) := by decide +kernel
theorem d_Qry_readBys_47 : decode b_Qry_readBys 47 = .ok (.getfield 44, 3) := by decide +kernel
theorem d_Qry_readBys_50 : decode b_Qry_readBys 50 = .ok (.getfield 110, 3) := by decide +kernel
theorem d_Qry_readBys_53 : decode b_Qry_readBys 53 = .ok (.invokevirtual 113, 3) := by decide +kernel
theorem d_Qry_readBys_56 : decode b_Qry_readBys 56 = .ok (.return_, 1) := by decide +kernel
theorem d_Qry_readBys_0 : decode b_Qry_readBys 0 = .ok (.aload_n 0, 1) := by decide +kernel
theorem d_Qry_readBys_1 : decode b_Qry_readBys 1 = .ok (.iconst 1, 1) := by decide +kernel
theorem d_Qry_readBys_2 : decode b_Qry_readBys 2 = .ok (.putfield 63, 3) := by decide +kernel
theorem d_Qry_readBys_5 : decode b_Qry_readBys 5 = .ok (.aload_n 0, 1) := by decide +kernel
theorem d_Qry_readBys_6 : decode b_Qry_readBys 6 = .ok (.getfield 44, 3) := by decide +kernel
theorem d_Qry_readBys_9 : decode b_Qry_readBys 9 = .ok (.invokevirtual 86, 3) := by decide +kernel
theorem d_Qry_readBys_12 : decode b_Qry_readBys 12 = .ok (.istore_n 1, 1) := by decide +kernel
theorem d_Qry_readBys_13 : decode b_Qry_readBys 13 = .ok (.iconst 0, 1) := by decide +kernel
theorem d_Qry_readBys_14 : decode b_Qry_readBys 14 = .ok (.istore_n 2, 1) := by decide +kernel
theorem d_Qry_checkItems_45 : decode b_Qry_checkItems 45 = .ok (.iinc 1 1, 3) := by decide +kernel
theorem d_Qry_checkItems_48 : decode b_Qry_checkItems 48 = .ok (.goto (-46), 3) := by decide +kernel
theorem d_Qry_checkItems_2 : decode b_Qry_checkItems 2 = .ok (.iload_n 1, 1) := by decide +kernel
theorem d_Qry_checkItems_3 : decode b_Qry_checkItems 3 = .ok (.aload_n 0, 1) := by decide +kernel
theorem d_Qry_checkItems_4 : decode b_Qry_checkItems 4 = .ok (.getfield 56, 3) := by decide +kernel
theorem d_Qry_checkItems_7 : decode b_Qry_checkItems 7 = .ok (.if_icmp .ge 44, 3) := by decide +kernel
theorem d_Qry_checkItems_51 : decode b_Qry_checkItems 51 = .ok (.return_, 1) := by decide +kernel
theorem d_Qry_checkItems_10 : decode b_Qry_checkItems 10 = .ok (.aload_n 0, 1) := by decide +kernel
theorem d_Qry_checkItems_11 : decode b_Qry_checkItems 11 = .ok (.getfield 9, 3) := by decide +kernel
theorem d_Qry_checkItems_14 : decode b_Qry_checkItems 14 = .ok (.iload_n 1, 1) := by decide +kernel
theorem d_Qry_checkItems_15 : decode b_Qry_checkItems 15 = .ok (.iaload, 1) := by decide +kernel
theorem d_Qry_checkItems_16 : decode b_Qry_checkItems 16 = .ok (.ifCond .ne 29, 3) := by decide +kernel
theorem d_Qry_checkItems_19 : decode b_Qry_checkItems 19 = .ok (.aload_n 0, 1) := by decide +kernel
theorem d_Qry_checkItems_20 : decode b_Qry_checkItems 20 = .ok (.aload_n 0, 1) := by decide +kernel
theorem d_Qry_checkItems_21 : decode b_Qry_checkItems 21 = .ok (.getfield 15, 3) := by decide +kernel
theorem d_Qry_checkItems_24 : decode b_Qry_checkItems 24 = .ok (.iload_n 1, 1) := by decide +kernel
theorem d_Qry_checkItems_25 : decode b_Qry_checkItems 25 = .ok (.iaload, 1) := by decide +kernel
theorem d_Qry_checkItems_26 : decode b_Qry_checkItems 26 = .ok (.invokevirtual 122, 3) := by decide +kernel
theorem d_Qry_checkItems_29 : decode b_Qry_checkItems 29 = .ok (.ifCond .ne 16, 3) := by decide +kernel
theorem d_Qry_checkItems_32 : decode b_Qry_checkItems 32 = .ok (.aload_n 0, 1) := by decide +kernel
theorem d_Qry_checkItems_33 : decode b_Qry_checkItems 33 = .ok (.getfield 44, 3) := by decide +kernel
theorem d_Qry_checkItems_36 : decode b_Qry_checkItems 36 = .ok (.aload_n 0, 1) := by decide +kernel
theorem d_Qry_checkItems_37 : decode b_Qry_checkItems 37 = .ok (.getfield 18, 3) := by decide +kernel
theorem d_Qry_checkItems_40 : decode b_Qry_checkItems 40 = .ok (.iload_n 1, 1) := by decide +kernel
theorem d_Qry_checkItems_41 : decode b_Qry_checkItems 41 = .ok (.iaload, 1) := by decide +kernel
theorem d_Qry_checkItems_42 : decode b_Qry_checkItems 42 = .ok (.invokevirtual 113, 3) := by decide +kernel
theorem d_Qry_checkItems_0 : decode b_Qry_checkItems 0 = .ok (.iconst 0, 1) := by decide +kernel
theorem d_Qry_checkItems_1 : decode b_Qry_checkItems 1 = .ok (.istore_n 1, 1) := by decide +kernel
theorem d_Qry_readText_176 : decode b_Qry_readText 176 = .ok (.aload_n 0, 1) := by decide +kernel
theorem d_Qry_readText_177 : decode b_Qry_readText 177 = .ok (.getfield 44, 3) := by decide +kernel
theorem d_Qry_readText_180 : decode b_Qry_readText 180 = .ok (.getfield 119, 3) := by decide +kernel
theorem d_Qry_readText_183 : decode b_Qry_readText 183 = .ok (.ireturn, 1) := by decide +kernel
theorem d_Qry_readText_155 : decode b_Qry_readText 155 = .ok (.aload_n 0, 1) := by decide +kernel
theorem d_Qry_readText_156 : decode b_Qry_readText 156 = .ok (.getfield 44, 3) := by decide +kernel
theorem d_Qry_readText_159 : decode b_Qry_readText 159 = .ok (.invokevirtual 86, 3) := by decide +kernel
theorem d_Qry_readText_162 : decode b_Qry_readText 162 = .ok (.ifCond .eq 14, 3) := by decide +kernel
theorem d_Qry_readText_165 : decode b_Qry_readText 165 = .ok (.aload_n 0, 1) := by decide +kernel
theorem d_Qry_readText_166 : decode b_Qry_readText 166 = .ok (.getfield 63, 3) := by decide +kernel
theorem d_Qry_readText_169 : decode b_Qry_readText 169 = .ok (.ifCond .eq 7, 3) := by decide +kernel
theorem d_Qry_readText_172 : decode b_Qry_readText 172 = .ok (.aload_n 0, 1) := by decide +kernel
theorem d_Qry_readText_173 : decode b_Qry_readText 173 = .ok (.invokevirtual 116, 3) := by decide +kernel
theorem d_Qry_readText_120 : decode b_Qry_readText 120 = .ok (.aload_n 0, 1) := by decide +kernel
theorem d_Qry_readText_121 : decode b_Qry_readText 121 = .ok (.getfield 44, 3) := by decide +kernel
theorem d_Qry_readText_124 : decode b_Qry_readText 124 = .ok (.invokevirtual 86, 3) := by decide +kernel
theorem d_Qry_readText_127 : decode b_Qry_readText 127 = .ok (.ifCond .eq 28, 3) := by decide +kernel
theorem d_Qry_readText_130 : decode b_Qry_readText 130 = .ok (.aload_n 0, 1) := by decide +kernel
theorem d_Qry_readText_131 : decode b_Qry_readText 131 = .ok (.getfield 44, 3) := by decide +kernel
theorem d_Qry_readText_134 : decode b_Qry_readText 134 = .ok (.invokevirtual 106, 3) := by decide +kernel
theorem d_Qry_readText_137 : decode b_Qry_readText 137 = .ok (.iconst (-1), 1) := by decide +kernel
theorem d_Qry_readText_138 : decode b_Qry_readText 138 = .ok (.if_icmp .eq 17, 3) := by decide +kernel
theorem d_Qry_readText_141 : decode b_Qry_readText 141 = .ok (.aload_n 0, 1) := by decide +kernel
theorem d_Qry_readText_142 : decode b_Qry_readText 142 = .ok (.getfield 44, 3) := by decide +kernel
theorem d_Qry_readText_145 : decode b_Qry_readText 145 = .ok (.aload_n 0, 1) := by decide +kernel
theorem d_Qry_readText_146 : decode b_Qry_readText 146 = .ok (.getfield 44, 3) := by decide +kernel
theorem d_Qry_readText_149 : decode b_Qry_readText 149 = .ok (.getfield 110, 3) := by decide +kernel
theorem d_Qry_readText_152 : decode b_Qry_readText 152 = .ok (.invokevirtual 113, 3) := by decide +kernel
theorem d_Qry_readText_85 : decode b_Qry_readText 85 = .ok (.aload_n 0, 1) := by decide +kernel
theorem d_Qry_readText_86 : decode b_Qry_readText 86 = .ok (.getfield 44, 3) := by decide +kernel
theorem d_Qry_readText_89 : decode b_Qry_readText 89 = .ok (.invokevirtual 86, 3) := by decide +kernel
theorem d_Qry_readText_92 : decode b_Qry_readText 92 = .ok (.ifCond .eq 28, 3) := by decide +kernel
theorem d_Qry_readText_95 : decode b_Qry_readText 95 = .ok (.aload_n 0, 1) := by decide +kernel
theorem d_Qry_readText_96 : decode b_Qry_readText 96 = .ok (.getfield 44, 3) := by decide +kernel
theorem d_Qry_readText_99 : decode b_Qry_readText 99 = .ok (.ldc 100, 2) := by decide +kernel
theorem d_Qry_readText_101 : decode b_Qry_readText 101 = .ok (.invokevirtual 92, 3) := by decide +kernel
theorem d_Qry_readText_104 : decode b_Qry_readText 104 = .ok (.ifCond .eq 16, 3) := by decide +kernel
theorem d_Qry_readText_107 : decode b_Qry_readText 107 = .ok (.aload_n 0, 1) := by decide +kernel
theorem d_Qry_readText_108 : decode b_Qry_readText 108 = .ok (.getfield 44, 3) := by decide +kernel
theorem d_Qry_readText_111 : decode b_Qry_readText 111 = .ok (.ldc 102, 2) := by decide +kernel
theorem d_Qry_readText_113 : decode b_Qry_readText 113 = .ok (.invokevirtual 77, 3) := by decide +kernel
theorem d_Qry_readText_116 : decode b_Qry_readText 116 = .ok (.aload_n 0, 1) := by decide +kernel
theorem d_Qry_readText_117 : decode b_Qry_readText 117 = .ok (.invokevirtual 103, 3) := by decide +kernel
theorem d_Qry_readText_0 : decode b_Qry_readText 0 = .ok (.aload_n 0, 1) := by decide +kernel
theorem d_Qry_readText_1 : decode b_Qry_readText 1 = .ok (.aload_n 1, 1) := by decide +kernel
theorem d_Qry_readText_2 : decode b_Qry_readText 2 = .ok (.putfield 44, 3) := by decide +kernel
theorem d_Qry_readText_5 : decode b_Qry_readText 5 = .ok (.aload_n 0, 1) := by decide +kernel
theorem d_Qry_readText_6 : decode b_Qry_readText 6 = .ok (.aload_n 2, 1) := by decide +kernel
theorem d_Qry_readText_7 : decode b_Qry_readText 7 = .ok (.putfield 48, 3) := by decide +kernel
theorem d_Qry_readText_10 : decode b_Qry_readText 10 = .ok (.aload_n 0, 1) := by decide +kernel
theorem d_Qry_readText_11 : decode b_Qry_readText 11 = .ok (.iconst 0, 1) := by decide +kernel
theorem d_Qry_readText_12 : decode b_Qry_readText 12 = .ok (.putfield 52, 3) := by decide +kernel
theorem d_Qry_readText_15 : decode b_Qry_readText 15 = .ok (.aload_n 0, 1) := by decide +kernel
theorem d_Qry_readText_16 : decode b_Qry_readText 16 = .ok (.iconst 0, 1) := by decide +kernel
theorem d_Qry_readText_17 : decode b_Qry_readText 17 = .ok (.putfield 56, 3) := by decide +kernel
theorem d_Qry_readText_20 : decode b_Qry_readText 20 = .ok (.aload_n 0, 1) := by decide +kernel
theorem d_Qry_readText_21 : decode b_Qry_readText 21 = .ok (.iconst 0, 1) := by decide +kernel
theorem d_Qry_readText_22 : decode b_Qry_readText 22 = .ok (.putfield 60, 3) := by decide +kernel
theorem d_Qry_readText_25 : decode b_Qry_readText 25 = .ok (.aload_n 0, 1) := by decide +kernel
theorem d_Qry_readText_26 : decode b_Qry_readText 26 = .ok (.iconst 0, 1) := by decide +kernel
theorem d_Qry_readText_27 : decode b_Qry_readText 27 = .ok (.putfield 63, 3) := by decide +kernel
theorem d_Qry_readText_30 : decode b_Qry_readText 30 = .ok (.aload_n 0, 1) := by decide +kernel
theorem d_Qry_readText_31 : decode b_Qry_readText 31 = .ok (.iconst 0, 1) := by decide +kernel
theorem d_Qry_readText_32 : decode b_Qry_readText 32 = .ok (.putfield 66, 3) := by decide +kernel
theorem d_Qry_readText_35 : decode b_Qry_readText 35 = .ok (.aload_n 0, 1) := by decide +kernel
theorem d_Qry_readText_36 : decode b_Qry_readText 36 = .ok (.iconst 0, 1) := by decide +kernel
theorem d_Qry_readText_37 : decode b_Qry_readText 37 = .ok (.putfield 69, 3) := by decide +kernel
theorem d_Qry_readText_40 : decode b_Qry_readText 40 = .ok (.aload_n 0, 1) := by decide +kernel
theorem d_Qry_readText_41 : decode b_Qry_readText 41 = .ok (.iconst 0, 1) := by decide +kernel
theorem d_Qry_readText_42 : decode b_Qry_readText 42 = .ok (.putfield 72, 3) := by decide +kernel
theorem d_Qry_readText_45 : decode b_Qry_readText 45 = .ok (.aload_n 0, 1) := by decide +kernel
theorem d_Qry_readText_46 : decode b_Qry_readText 46 = .ok (.getfield 44, 3) := by decide +kernel
theorem d_Qry_readText_49 : decode b_Qry_readText 49 = .ok (.ldc 75, 2) := by decide +kernel
theorem d_Qry_readText_51 : decode b_Qry_readText 51 = .ok (.invokevirtual 77, 3) := by decide +kernel
theorem d_Qry_readText_54 : decode b_Qry_readText 54 = .ok (.aload_n 0, 1) := by decide +kernel
theorem d_Qry_readText_55 : decode b_Qry_readText 55 = .ok (.invokevirtual 83, 3) := by decide +kernel
theorem d_Qry_readText_58 : decode b_Qry_readText 58 = .ok (.aload_n 0, 1) := by decide +kernel
theorem d_Qry_readText_59 : decode b_Qry_readText 59 = .ok (.getfield 44, 3) := by decide +kernel
theorem d_Qry_readText_62 : decode b_Qry_readText 62 = .ok (.invokevirtual 86, 3) := by decide +kernel
theorem d_Qry_readText_65 : decode b_Qry_readText 65 = .ok (.ifCond .eq 20, 3) := by decide +kernel
theorem d_Qry_readText_68 : decode b_Qry_readText 68 = .ok (.aload_n 0, 1) := by decide +kernel
theorem d_Qry_readText_69 : decode b_Qry_readText 69 = .ok (.getfield 44, 3) := by decide +kernel
theorem d_Qry_readText_72 : decode b_Qry_readText 72 = .ok (.ldc 90, 2) := by decide +kernel
theorem d_Qry_readText_74 : decode b_Qry_readText 74 = .ok (.invokevirtual 92, 3) := by decide +kernel
theorem d_Qry_readText_77 : decode b_Qry_readText 77 = .ok (.ifCond .eq 8, 3) := by decide +kernel
theorem d_Qry_readText_80 : decode b_Qry_readText 80 = .ok (.aload_n 0, 1) := by decide +kernel
theorem d_Qry_readText_81 : decode b_Qry_readText 81 = .ok (.iconst 0, 1) := by decide +kernel
theorem d_Qry_readText_82 : decode b_Qry_readText 82 = .ok (.invokevirtual 96, 3) := by decide +kernel
theorem d_V_query_0 : decode b_V_query 0 = .ok (.aload_n 0, 1) := by decide +kernel
theorem d_V_query_1 : decode b_V_query 1 = .ok (.invokevirtual 112, 3) := by decide +kernel
theorem d_V_query_4 : decode b_V_query 4 = .ok (.istore_n 1, 1) := by decide +kernel
theorem d_V_query_5 : decode b_V_query 5 = .ok (.aload_n 0, 1) := by decide +kernel
theorem d_V_query_6 : decode b_V_query 6 = .ok (.getfield 59, 3) := by decide +kernel
theorem d_V_query_9 : decode b_V_query 9 = .ok (.getfield 163, 3) := by decide +kernel
theorem d_V_query_12 : decode b_V_query 12 = .ok (.ifCond .ne 6, 3) := by decide +kernel
theorem d_V_query_18 : decode b_V_query 18 = .ok (.iload_n 1, 1) := by decide +kernel
theorem d_V_query_19 : decode b_V_query 19 = .ok (.sipush 2000, 3) := by decide +kernel
theorem d_V_query_22 : decode b_V_query 22 = .ok (.if_icmp .le 7, 3) := by decide +kernel
theorem d_V_query_29 : decode b_V_query 29 = .ok (.aload_n 0, 1) := by decide +kernel
theorem d_V_query_30 : decode b_V_query 30 = .ok (.getfield 28, 3) := by decide +kernel
theorem d_V_query_33 : decode b_V_query 33 = .ok (.aload_n 0, 1) := by decide +kernel
theorem d_V_query_34 : decode b_V_query 34 = .ok (.getfield 19, 3) := by decide +kernel
theorem d_V_query_37 : decode b_V_query 37 = .ok (.getfield 116, 3) := by decide +kernel
theorem d_V_query_40 : decode b_V_query 40 = .ok (.iload_n 1, 1) := by decide +kernel
theorem d_V_query_41 : decode b_V_query 41 = .ok (.invokevirtual 120, 3) := by decide +kernel
theorem d_V_query_44 : decode b_V_query 44 = .ok (.aload_n 0, 1) := by decide +kernel
theorem d_V_query_45 : decode b_V_query 45 = .ok (.getfield 79, 3) := by decide +kernel
theorem d_V_query_48 : decode b_V_query 48 = .ok (.aload_n 0, 1) := by decide +kernel
theorem d_V_query_49 : decode b_V_query 49 = .ok (.getfield 28, 3) := by decide +kernel
theorem d_V_query_52 : decode b_V_query 52 = .ok (.aload_n 0, 1) := by decide +kernel
theorem d_V_query_53 : decode b_V_query 53 = .ok (.getfield 59, 3) := by decide +kernel
theorem d_V_query_56 : decode b_V_query 56 = .ok (.getfield 189, 3) := by decide +kernel
theorem d_V_query_59 : decode b_V_query 59 = .ok (.invokevirtual 197, 3) := by decide +kernel
theorem d_V_query_62 : decode b_V_query 62 = .ok (.istore_n 2, 1) := by decide +kernel
theorem d_V_query_63 : decode b_V_query 63 = .ok (.iload_n 2, 1) := by decide +kernel
theorem d_V_query_64 : decode b_V_query 64 = .ok (.iconst (-1), 1) := by decide +kernel
theorem d_V_query_65 : decode b_V_query 65 = .ok (.if_icmp .eq 5, 3) := by decide +kernel
theorem d_V_query_70 : decode b_V_query 70 = .ok (.aload_n 0, 1) := by decide +kernel
theorem d_V_query_71 : decode b_V_query 71 = .ok (.getfield 75, 3) := by decide +kernel
theorem d_V_query_74 : decode b_V_query 74 = .ok (.astore_n 3, 1) := by decide +kernel
theorem d_V_query_75 : decode b_V_query 75 = .ok (.aload_n 0, 1) := by decide +kernel
theorem d_V_query_76 : decode b_V_query 76 = .ok (.aload_n 0, 1) := by decide +kernel
theorem d_V_query_77 : decode b_V_query 77 = .ok (.getfield 79, 3) := by decide +kernel
theorem d_V_query_80 : decode b_V_query 80 = .ok (.putfield 75, 3) := by decide +kernel
theorem d_V_query_83 : decode b_V_query 83 = .ok (.aload_n 0, 1) := by decide +kernel
theorem d_V_query_84 : decode b_V_query 84 = .ok (.aload_n 3, 1) := by decide +kernel
theorem d_V_query_85 : decode b_V_query 85 = .ok (.putfield 79, 3) := by decide +kernel
theorem d_V_query_88 : decode b_V_query 88 = .ok (.aload_n 0, 1) := by decide +kernel
theorem d_V_query_89 : decode b_V_query 89 = .ok (.getfield 75, 3) := by decide +kernel
theorem d_V_query_92 : decode b_V_query 92 = .ok (.iconst 1, 1) := by decide +kernel
theorem d_V_query_93 : decode b_V_query 93 = .ok (.putfield 167, 3) := by decide +kernel
theorem d_V_query_96 : decode b_V_query 96 = .ok (.iconst (-1), 1) := by decide +kernel
theorem d_V_query_97 : decode b_V_query 97 = .ok (.ireturn, 1) := by decide +kernel
theorem d_V_query_68 : decode b_V_query 68 = .ok (.iload_n 2, 1) := by decide +kernel
theorem d_V_query_69 : decode b_V_query 69 = .ok (.ireturn, 1) := by decide +kernel
theorem d_V_query_25 : decode b_V_query 25 = .ok (.sipush 2000, 3) := by decide +kernel
theorem d_V_query_28 : decode b_V_query 28 = .ok (.ireturn, 1) := by decide +kernel
theorem d_V_query_15 : decode b_V_query 15 = .ok (.bipush (-2), 2) := by decide +kernel
theorem d_V_query_17 : decode b_V_query 17 = .ok (.ireturn, 1) := by decide +kernel
section
variable (l : Launch) (dC : Nat → ClassId) (dI : Nat → Nat → Nat) (cI cB cJ cZ : ClassId)
set_option maxRecDepth 100000 in
set_option maxHeartbeats 4000000 in
set_option maxRecDepth 100000 in
theorem t_Qry_isBy_2 {p : Program} {l : Launch} {e : Env} {R : Room} {s : State} {m : MethodId} {args : Array Value} {below : List Frame} {meth : Method} {c : Code} {cells slots : Nat} {Q : State → Prop} {dC : Nat → ClassId} {dI : Nat → Nat → Nat} {cI cB cJ cZ : ClassId} {A : Nat → Prop} {ad : Nat → Nat} {NN : Nat} {E : Heap} {tM tC : Nat} {kK kV : Nat → Nat} {post : Int32 → St → Prop} {rec2 : Nat → Int32 → Int32 → St → Prop} (hx : p.tables.exec = Jvm.exec) (hb : c.code = b_Qry_isBy) (hml : c.maxLocals = 3) (hown : s.vm.findClass R_Qry = some m.cls) (hT : ∀ w ∈ TG, w.before args s = true) (hK : va_K (dC, dI) CL (TY cI cB cJ cZ) s) (hN : NW s) (hA : ∀ q : Nat, s.heap.size ≤ q → A q) (hRc : cells ≤ R.cells) (hRs : slots ≤ R.slots) (hRf : 0 ≤ R.frames) (hRl : 0 ≤ R.locals) (hNN : 152 ≤ NN) (hE : CE E tM tC kK kV A s) (hret : ∀ (r : Int32) (x : St) (H : Heap) (locs : List Loc) (pc : Nat) (ls : Array Slot), decode b_Qry_isBy pc = .ok (.ireturn, 1) → narrow .boolean (.int r) = .int r → post r x → Wd dC dI cI cB cJ cZ ad stC kcC NN A x H → va_S A s.heap H locs → W p l e R s m args below meth c H locs cells slots Q (F0 m pc ls [.int r])) (hrec2 : ∀ (o : Nat) (l1 : Int32) (l2 : Int32) (x : St) (H : Heap) (locs : List Loc) (ls : Array Slot), (o < NN ∧ kcC o = 9) → rec2 o l1 l2 x → Wd dC dI cI cB cJ cZ ad stC kcC NN A x H → va_S A s.heap H locs → lv_has ls 3 [(0, .ref (ad o)), (1, .int l1), (2, .int l2)] → W p l e R s m args below meth c H locs cells slots Q (F0 m 2 ls [])) : ∀ (o : Nat) (l1 : Int32) (l2 : Int32) (x : St) (H : Heap) (locs : List Loc) (ls : Array Slot), (o < NN ∧ kcC o = 9) → j_Qry_isBy_2 post rec2 o l1 l2 x → Wd dC dI cI cB cJ cZ ad stC kcC NN A x H → va_S A s.heap H locs → lv_has ls 3 [(0, .ref (ad o)), (1, .int l1), (2, .int l2)] → W p l e R s m args below meth c H locs cells slots Q (F0 m 2 ls []) := by
  intro o l1 l2 x H locs ls fo hw hW hS hl
  unfold j_Qry_isBy_2 at hw
  refine lv_iload_n hx hb d_Qry_isBy_2 rfl (lv_at hl 2 rfl) ?_
  refine lv_aload_n hx hb d_Qry_isBy_3 rfl (lv_at hl 0 rfl) ?_
  refine w_geti (k := 5) (t := 9) (C := R_Qry) (T := F_Qry) (N := 20) hx hb hT hown hK hW fo.1 fo.2 (by decide) in_Qry rfl rfl (by decide) rfl fr_Qry_5 w_3_83 d_Qry_isBy_4 ?_
  refine lv_icmp_ge (tgt := 28) hx hb d_Qry_isBy_7 (by decide) (fun c1 => ?_) (fun c1 => ?_)
  · have hw := hw.1 c1
    refine lv_iconst (v := 0) hx hb d_Qry_isBy_28 (by decide) ?_
    exact hret 0 x H locs 29 ls d_Qry_isBy_29 rfl hw hW hS
  · have hw := hw.2 c1
    refine lv_aload_n hx hb d_Qry_isBy_10 rfl (lv_at hl 0 rfl) ?_
    refine w_getf (q := (stC o 6)) (k := 6) (t := 9) (C := R_Qry) (T := F_Qry) (N := 20) hx hb hT hown hK hW fo.1 fo.2 (by decide) in_Qry rfl rfl (by decide) rfl fr_Qry_6 w_3_85 d_Qry_isBy_11 rfl ?_
    refine lv_iload_n hx hb d_Qry_isBy_14 rfl (lv_at hl 2 rfl) ?_
    obtain ⟨hi, hw⟩ := hw
    refine w_iald (o := (stC o 6)) hx hb hK hW (st_ty hNN fo.1 fo.2 rfl).1 (st_ty hNN fo.1 fo.2 rfl).2 hi d_Qry_isBy_15 ?_
    refine lv_iload_n hx hb d_Qry_isBy_16 rfl (lv_at hl 1 rfl) ?_
    refine lv_icmp_ne (tgt := 22) hx hb d_Qry_isBy_17 (by decide) (fun c2 => ?_) (fun c2 => ?_)
    · have hw := hw.1 c2
      refine lv_iinc (v := (l2 + 1)) (lv' := [(2, .int (l2 + 1)), (0, .ref (ad o)), (1, .int l1)]) hx hb d_Qry_isBy_22 hl (k := 2) rfl rfl (by decide) rfl (fun ls hl => ?_)
      refine lv_goto (tgt := 2) hx hb d_Qry_isBy_25 (by decide) ?_
      exact hrec2 o l1 (l2 + 1) x H locs ls fo hw hW hS (lv_sub hl [1, 2, 0] rfl)
    · have hw := hw.2 c2
      refine lv_iconst (v := 1) hx hb d_Qry_isBy_20 (by decide) ?_
      exact hret 1 x H locs 21 ls d_Qry_isBy_21 rfl hw hW hS
set_option maxHeartbeats 4000000 in
set_option maxRecDepth 100000 in
theorem tl_Qry_isBy_2 {p : Program} {l : Launch} {e : Env} {R : Room} {s : State} {m : MethodId} {args : Array Value} {below : List Frame} {meth : Method} {c : Code} {cells slots : Nat} {Q : State → Prop} {dC : Nat → ClassId} {dI : Nat → Nat → Nat} {cI cB cJ cZ : ClassId} {A : Nat → Prop} {ad : Nat → Nat} {NN : Nat} {E : Heap} {tM tC : Nat} {kK kV : Nat → Nat} {post : Int32 → St → Prop} (hx : p.tables.exec = Jvm.exec) (hb : c.code = b_Qry_isBy) (hml : c.maxLocals = 3) (hown : s.vm.findClass R_Qry = some m.cls) (hT : ∀ w ∈ TG, w.before args s = true) (hK : va_K (dC, dI) CL (TY cI cB cJ cZ) s) (hN : NW s) (hA : ∀ q : Nat, s.heap.size ≤ q → A q) (hRc : cells ≤ R.cells) (hRs : slots ≤ R.slots) (hRf : 0 ≤ R.frames) (hRl : 0 ≤ R.locals) (hNN : 152 ≤ NN) (hE : CE E tM tC kK kV A s) (hret : ∀ (r : Int32) (x : St) (H : Heap) (locs : List Loc) (pc : Nat) (ls : Array Slot), decode b_Qry_isBy pc = .ok (.ireturn, 1) → narrow .boolean (.int r) = .int r → post r x → Wd dC dI cI cB cJ cZ ad stC kcC NN A x H → va_S A s.heap H locs → W p l e R s m args below meth c H locs cells slots Q (F0 m pc ls [.int r]))  : ∀ n : Nat, ∀ (o : Nat) (l1 : Int32) (l2 : Int32) (x : St) (H : Heap) (locs : List Loc) (ls : Array Slot), (o < NN ∧ kcC o = 9) → wl_Qry_isBy_2 post n o l1 l2 x → Wd dC dI cI cB cJ cZ ad stC kcC NN A x H → va_S A s.heap H locs → lv_has ls 3 [(0, .ref (ad o)), (1, .int l1), (2, .int l2)] → W p l e R s m args below meth c H locs cells slots Q (F0 m 2 ls []) := by
  intro n
  induction n with
  | zero => intro o l1 l2 x H locs ls fo hw; exact hw.elim
  | succ n ih => intro o l1 l2 x H locs ls fo hw hW hS hl; exact t_Qry_isBy_2 hx hb hml hown hT hK hN hA hRc hRs hRf hRl hNN hE hret  ih o l1 l2 x H locs ls fo hw hW hS hl
set_option maxRecDepth 100000 in
set_option maxHeartbeats 4000000 in
set_option maxRecDepth 100000 in
theorem t_Qry_isBy_e {p : Program} {l : Launch} {e : Env} {R : Room} {s : State} {m : MethodId} {args : Array Value} {below : List Frame} {meth : Method} {c : Code} {cells slots : Nat} {Q : State → Prop} {dC : Nat → ClassId} {dI : Nat → Nat → Nat} {cI cB cJ cZ : ClassId} {A : Nat → Prop} {ad : Nat → Nat} {NN : Nat} {E : Heap} {tM tC : Nat} {kK kV : Nat → Nat} {post : Int32 → St → Prop} (hx : p.tables.exec = Jvm.exec) (hb : c.code = b_Qry_isBy) (hml : c.maxLocals = 3) (hown : s.vm.findClass R_Qry = some m.cls) (hT : ∀ w ∈ TG, w.before args s = true) (hK : va_K (dC, dI) CL (TY cI cB cJ cZ) s) (hN : NW s) (hA : ∀ q : Nat, s.heap.size ≤ q → A q) (hRc : cells ≤ R.cells) (hRs : slots ≤ R.slots) (hRf : 0 ≤ R.frames) (hRl : 0 ≤ R.locals) (hNN : 152 ≤ NN) (hE : CE E tM tC kK kV A s) (hret : ∀ (r : Int32) (x : St) (H : Heap) (locs : List Loc) (pc : Nat) (ls : Array Slot), decode b_Qry_isBy pc = .ok (.ireturn, 1) → narrow .boolean (.int r) = .int r → post r x → Wd dC dI cI cB cJ cZ ad stC kcC NN A x H → va_S A s.heap H locs → W p l e R s m args below meth c H locs cells slots Q (F0 m pc ls [.int r])) : ∀ (o : Nat) (l1 : Int32) (x : St) (H : Heap) (locs : List Loc) (ls : Array Slot), (o < NN ∧ kcC o = 9) → wp_Qry_isBy post o l1 x → Wd dC dI cI cB cJ cZ ad stC kcC NN A x H → va_S A s.heap H locs → lv_has ls 3 [(0, .ref (ad o)), (1, .int l1)] → W p l e R s m args below meth c H locs cells slots Q (F0 m 0 ls []) := by
  intro o l1 x H locs ls fo hw hW hS hl
  unfold wp_Qry_isBy at hw
  refine lv_iconst (v := 0) hx hb d_Qry_isBy_0 (by decide) ?_
  refine lv_istore_n (lv' := [(2, .int 0), (0, .ref (ad o)), (1, .int l1)]) hx hb d_Qry_isBy_1 rfl hl (by decide) rfl (fun ls hl => ?_)
  obtain ⟨n, hw⟩ := hw
  exact tl_Qry_isBy_2 hx hb hml hown hT hK hN hA hRc hRs hRf hRl hNN hE hret  n o l1 0 x H locs ls fo hw hW hS (lv_sub hl [1, 2, 0] rfl)
set_option maxHeartbeats 4000000 in
set_option maxRecDepth 100000 in
theorem k_Qry_isBy (l : Launch) (dC : Nat → ClassId) (dI : Nat → Nat → Nat) (cI cB cJ cZ : ClassId) (ad : Nat → Nat) (NN : Nat) (E : Heap) (tM tC : Nat) (kK kV : Nat → Nat) (hNN : 152 ≤ NN) (sz : Nat) (o : Nat) (l1 : Int32) (x : St) (fo : o < NN ∧ kcC o = 9) {post : Int32 → St → Prop} (hw : wp_Qry_isBy post o l1 x) : Met l y_Qry_isBy (wsOf y_Qry_isBy b_Qry_isBy 3 (some (.boolean))) ({ frames := 0, cells := 0, slots := 0, locals := 0 }) (va_Pc [.ref (ad o), .int l1] (PVc dC dI cI cB cJ cZ ad stC kcC NN E tM tC kK kV sz x)) (va_Qi (fun (r : Int32) (y : St) => post r y) (fun y t => Wd dC dI cI cB cJ cZ ad stC kcC NN (va_A (pic ad stC kcC NN cI cB cJ cZ x) sz) y t.heap) (va_A (pic ad stC kcC NN cI cB cJ cZ x) sz)) 0 0 (va_A (pic ad stC kcC NN cI cB cJ cZ x) sz) := by
  refine Met.ofW (cc := b_Qry_isBy) (maxL := 3) (ret := some (.boolean)) (by decide) rfl ?_
  intro p e s m args below meth c s₁ B hml hv
  obtain ⟨rfl, ⟨hsz, hW0, hK, hN⟩, hE⟩ := hv
  have hx := B.exec
  have hb := B.bytes
  have hr := B.returns
  have hts := atoms_spec B.pre
  have hT : ∀ w ∈ TG, w.before _ s = true := fun w h => hts w (List.mem_cons_of_mem _ h)
  have hown : s.vm.findClass R_Qry = some m.cls := findClass_of_methodNamed B.named
  have hlocks := B.notSynchronized
  subst hsz
  have hW : Wd dC dI cI cB cJ cZ ad stC kcC NN (va_A (pic ad stC kcC NN cI cB cJ cZ x) s.heap.size) x s.heap := ⟨hW0.1, hW0.2.1.self (sz := s.heap.size), hW0.2.2⟩
  generalize hAe : va_A (pic ad stC kcC NN cI cB cJ cZ x) s.heap.size = A at hW hE ⊢
  have hA : ∀ q : Nat, s.heap.size ≤ q → A q := fun q h => by rw [← hAe]; exact Or.inr h
  have hS : va_S A s.heap s.heap [] := va_S.rf
  have hl := lv_entry ([.ref (ad o), .int l1]) (n := 3) (Nat.le_of_ble_eq_true rfl)
  rw [lg_entry_eq]
  generalize (lg_sl ([.ref (ad o), .int l1]) ++ List.replicate (3 - (lg_sl ([.ref (ad o), .int l1])).length) Slot.unset).toArray = ls at hl ⊢
  have hl : lv_has ls 3 [(0, .ref (ad o)), (1, .int l1)] := hl
  exact t_Qry_isBy_e hx hb hml hown hT hK hN hA (Nat.le_refl 0) (Nat.le_refl 0) (Nat.le_refl 0) (Nat.le_refl 0) hNN hE (fun r x H locs pc ls hd hz hp hW hS => W.zret (v := r) (ty := .boolean) hx hb hr hz (fun t ht hM => ⟨⟨r, x, rfl, hp, Wd.back hW ht.symm (fun _ z => z)⟩, hS.F ht⟩) hS.2.2 hd hlocks)  o l1 x _ _ ls fo hw hW hS hl
set_option maxRecDepth 100000 in
set_option maxHeartbeats 4000000 in
set_option maxRecDepth 100000 in
theorem t_Qry_readBys_138 {p : Program} {l : Launch} {e : Env} {R : Room} {s : State} {m : MethodId} {args : Array Value} {below : List Frame} {meth : Method} {c : Code} {cells slots : Nat} {Q : State → Prop} {dC : Nat → ClassId} {dI : Nat → Nat → Nat} {cI cB cJ cZ : ClassId} {A : Nat → Prop} {ad : Nat → Nat} {NN : Nat} {E : Heap} {tM tC : Nat} {kK kV : Nat → Nat} {post : St → Prop} {rec15 : Nat → Int32 → Int32 → St → Prop} (hx : p.tables.exec = Jvm.exec) (hb : c.code = b_Qry_readBys) (hml : c.maxLocals = 4) (hown : s.vm.findClass R_Qry = some m.cls) (hT : ∀ w ∈ TG, w.before args s = true) (hK : va_K (dC, dI) CL (TY cI cB cJ cZ) s) (hN : NW s) (hA : ∀ q : Nat, s.heap.size ≤ q → A q) (hRc : cells ≤ R.cells) (hRs : slots ≤ R.slots) (hRf : 8 ≤ R.frames) (hRl : 287 ≤ R.locals) (hNN : 152 ≤ NN) (hE : CE E tM tC kK kV A s) (hret : ∀ (x : St) (H : Heap) (locs : List Loc) (pc : Nat) (ls : Array Slot), decode b_Qry_readBys pc = .ok (.return_, 1) → post x → Wd dC dI cI cB cJ cZ ad stC kcC NN A x H → va_S A s.heap H locs → W p l e R s m args below meth c H locs cells slots Q (F0 m pc ls [])) (hrec15 : ∀ (o : Nat) (l1 : Int32) (l2 : Int32) (x : St) (H : Heap) (locs : List Loc) (ls : Array Slot), (o < NN ∧ kcC o = 9) → rec15 o l1 l2 x → Wd dC dI cI cB cJ cZ ad stC kcC NN A x H → va_S A s.heap H locs → lv_has ls 4 [(0, .ref (ad o)), (1, .int l1), (2, .int l2)] → W p l e R s m args below meth c H locs cells slots Q (F0 m 15 ls [])) : ∀ (o : Nat) (l1 : Int32) (l2 : Int32) (l3 : Int32) (s0 : Int32) (x : St) (H : Heap) (locs : List Loc) (ls : Array Slot), (o < NN ∧ kcC o = 9) → j_Qry_readBys_138 post rec15 o l1 l2 l3 s0 x → Wd dC dI cI cB cJ cZ ad stC kcC NN A x H → va_S A s.heap H locs → lv_has ls 4 [(0, .ref (ad o)), (1, .int l1), (2, .int l2), (3, .int l3)] → W p l e R s m args below meth c H locs cells slots Q (F0 m 138 ls [.int s0]) := by
  intro o l1 l2 l3 s0 x H locs ls fo hw hW hS hl
  unfold j_Qry_readBys_138 at hw
  refine lv_istore_n (lv' := [(1, .int s0), (0, .ref (ad o)), (2, .int l2), (3, .int l3)]) hx hb d_Qry_readBys_138 rfl hl (by decide) rfl (fun ls hl => ?_)
  refine lv_iinc (v := (l2 + 1)) (lv' := [(2, .int (l2 + 1)), (1, .int s0), (0, .ref (ad o)), (3, .int l3)]) hx hb d_Qry_readBys_139 hl (k := 2) rfl rfl (by decide) rfl (fun ls hl => ?_)
  refine lv_goto (tgt := 15) hx hb d_Qry_readBys_142 (by decide) ?_
  exact hrec15 o s0 (l2 + 1) x H locs ls fo hw hW hS (lv_sub hl [2, 1, 0] rfl)
set_option maxRecDepth 100000 in
set_option maxHeartbeats 4000000 in
set_option maxRecDepth 100000 in
theorem t_Qry_readBys_137 {p : Program} {l : Launch} {e : Env} {R : Room} {s : State} {m : MethodId} {args : Array Value} {below : List Frame} {meth : Method} {c : Code} {cells slots : Nat} {Q : State → Prop} {dC : Nat → ClassId} {dI : Nat → Nat → Nat} {cI cB cJ cZ : ClassId} {A : Nat → Prop} {ad : Nat → Nat} {NN : Nat} {E : Heap} {tM tC : Nat} {kK kV : Nat → Nat} {post : St → Prop} {rec15 : Nat → Int32 → Int32 → St → Prop} (hx : p.tables.exec = Jvm.exec) (hb : c.code = b_Qry_readBys) (hml : c.maxLocals = 4) (hown : s.vm.findClass R_Qry = some m.cls) (hT : ∀ w ∈ TG, w.before args s = true) (hK : va_K (dC, dI) CL (TY cI cB cJ cZ) s) (hN : NW s) (hA : ∀ q : Nat, s.heap.size ≤ q → A q) (hRc : cells ≤ R.cells) (hRs : slots ≤ R.slots) (hRf : 8 ≤ R.frames) (hRl : 287 ≤ R.locals) (hNN : 152 ≤ NN) (hE : CE E tM tC kK kV A s) (hret : ∀ (x : St) (H : Heap) (locs : List Loc) (pc : Nat) (ls : Array Slot), decode b_Qry_readBys pc = .ok (.return_, 1) → post x → Wd dC dI cI cB cJ cZ ad stC kcC NN A x H → va_S A s.heap H locs → W p l e R s m args below meth c H locs cells slots Q (F0 m pc ls [])) (hrec15 : ∀ (o : Nat) (l1 : Int32) (l2 : Int32) (x : St) (H : Heap) (locs : List Loc) (ls : Array Slot), (o < NN ∧ kcC o = 9) → rec15 o l1 l2 x → Wd dC dI cI cB cJ cZ ad stC kcC NN A x H → va_S A s.heap H locs → lv_has ls 4 [(0, .ref (ad o)), (1, .int l1), (2, .int l2)] → W p l e R s m args below meth c H locs cells slots Q (F0 m 15 ls [])) : ∀ (o : Nat) (l1 : Int32) (l2 : Int32) (l3 : Int32) (x : St) (H : Heap) (locs : List Loc) (ls : Array Slot), (o < NN ∧ kcC o = 9) → j_Qry_readBys_137 post rec15 o l1 l2 l3 x → Wd dC dI cI cB cJ cZ ad stC kcC NN A x H → va_S A s.heap H locs → lv_has ls 4 [(0, .ref (ad o)), (1, .int l1), (2, .int l2), (3, .int l3)] → W p l e R s m args below meth c H locs cells slots Q (F0 m 137 ls []) := by
  intro o l1 l2 l3 x H locs ls fo hw hW hS hl
  unfold j_Qry_readBys_137 at hw
  refine lv_iconst (v := 0) hx hb d_Qry_readBys_137 (by decide) ?_
  exact t_Qry_readBys_138 hx hb hml hown hT hK hN hA hRc hRs hRf hRl hNN hE hret hrec15 o l1 l2 l3 0 x H locs ls fo hw hW hS (lv_sub hl [0, 1, 2, 3] rfl)
set_option maxRecDepth 100000 in
set_option maxHeartbeats 4000000 in
set_option maxRecDepth 100000 in
theorem t_Qry_readBys_91 {p : Program} {l : Launch} {e : Env} {R : Room} {s : State} {m : MethodId} {args : Array Value} {below : List Frame} {meth : Method} {c : Code} {cells slots : Nat} {Q : State → Prop} {dC : Nat → ClassId} {dI : Nat → Nat → Nat} {cI cB cJ cZ : ClassId} {A : Nat → Prop} {ad : Nat → Nat} {NN : Nat} {E : Heap} {tM tC : Nat} {kK kV : Nat → Nat} {post : St → Prop} {rec15 : Nat → Int32 → Int32 → St → Prop} (hx : p.tables.exec = Jvm.exec) (hb : c.code = b_Qry_readBys) (hml : c.maxLocals = 4) (hown : s.vm.findClass R_Qry = some m.cls) (hT : ∀ w ∈ TG, w.before args s = true) (hK : va_K (dC, dI) CL (TY cI cB cJ cZ) s) (hN : NW s) (hA : ∀ q : Nat, s.heap.size ≤ q → A q) (hRc : cells ≤ R.cells) (hRs : slots ≤ R.slots) (hRf : 8 ≤ R.frames) (hRl : 287 ≤ R.locals) (hNN : 152 ≤ NN) (hE : CE E tM tC kK kV A s) (hret : ∀ (x : St) (H : Heap) (locs : List Loc) (pc : Nat) (ls : Array Slot), decode b_Qry_readBys pc = .ok (.return_, 1) → post x → Wd dC dI cI cB cJ cZ ad stC kcC NN A x H → va_S A s.heap H locs → W p l e R s m args below meth c H locs cells slots Q (F0 m pc ls [])) (hrec15 : ∀ (o : Nat) (l1 : Int32) (l2 : Int32) (x : St) (H : Heap) (locs : List Loc) (ls : Array Slot), (o < NN ∧ kcC o = 9) → rec15 o l1 l2 x → Wd dC dI cI cB cJ cZ ad stC kcC NN A x H → va_S A s.heap H locs → lv_has ls 4 [(0, .ref (ad o)), (1, .int l1), (2, .int l2)] → W p l e R s m args below meth c H locs cells slots Q (F0 m 15 ls [])) : ∀ (o : Nat) (l1 : Int32) (l2 : Int32) (l3 : Int32) (x : St) (H : Heap) (locs : List Loc) (ls : Array Slot), (o < NN ∧ kcC o = 9) → j_Qry_readBys_91 post rec15 o l1 l2 l3 x → Wd dC dI cI cB cJ cZ ad stC kcC NN A x H → va_S A s.heap H locs → lv_has ls 4 [(0, .ref (ad o)), (1, .int l1), (2, .int l2), (3, .int l3)] → W p l e R s m args below meth c H locs cells slots Q (F0 m 91 ls []) := by
  intro o l1 l2 l3 x H locs ls fo hw hW hS hl
  unfold j_Qry_readBys_91 at hw
  refine lv_aload_n hx hb d_Qry_readBys_91 rfl (lv_at hl 0 rfl) ?_
  refine w_getf (q := (stC o 6)) (k := 6) (t := 9) (C := R_Qry) (T := F_Qry) (N := 20) hx hb hT hown hK hW fo.1 fo.2 (by decide) in_Qry rfl rfl (by decide) rfl fr_Qry_6 w_3_85 d_Qry_readBys_92 rfl ?_
  refine lv_aload_n hx hb d_Qry_readBys_95 rfl (lv_at hl 0 rfl) ?_
  refine w_geti (k := 5) (t := 9) (C := R_Qry) (T := F_Qry) (N := 20) hx hb hT hown hK hW fo.1 fo.2 (by decide) in_Qry rfl rfl (by decide) rfl fr_Qry_5 w_3_83 d_Qry_readBys_96 ?_
  refine lv_iload_n hx hb d_Qry_readBys_99 rfl (lv_at hl 3 rfl) ?_
  obtain ⟨hi, hw⟩ := hw
  refine w_iast (o := (stC o 6)) hx hb hK hW hS (st_ty hNN fo.1 fo.2 rfl).1 (st_ty hNN fo.1 fo.2 rfl).2 hi d_Qry_readBys_100 (fun H locs hW hS => ?_)
  obtain ⟨x1, ex1⟩ : ∃ y : St, y = setA x (stC o 6) (fI x o 5) l3 := ⟨_, rfl⟩
  rw [← ex1] at hW
  have hw := hw x1 ex1
  refine lv_aload_n hx hb d_Qry_readBys_101 rfl (lv_at hl 0 rfl) ?_
  refine lv_dup hx hb d_Qry_readBys_102 rfl ?_
  refine w_geti (k := 5) (t := 9) (C := R_Qry) (T := F_Qry) (N := 20) hx hb hT hown hK hW fo.1 fo.2 (by decide) in_Qry rfl rfl (by decide) rfl fr_Qry_5 w_3_83 d_Qry_readBys_103 ?_
  refine lv_iconst (v := 1) hx hb d_Qry_readBys_106 (by decide) ?_
  refine lv_iadd hx hb d_Qry_readBys_107 ?_
  refine w_puti (ty := .int) (k := 5) (t := 9) (C := R_Qry) (T := F_Qry) (N := 20) hx hb hT hown hK hW hS fo.1 fo.2 (by decide) in_Qry t_Qry t_Qry_ok n_Qry rfl rfl (by decide) rfl fr_Qry_5 w_3_83 (by decide +kernel) rfl rfl d_Qry_readBys_108 (fun H locs hW hS => ?_)
  obtain ⟨x2, ex2⟩ : ∃ y : St, y = setI x1 o 5 ((fI x1 o 5) + 1) := ⟨_, rfl⟩
  rw [← ex2] at hW
  have hw := hw x2 ex2
  refine lv_aload_n hx hb d_Qry_readBys_111 rfl (lv_at hl 0 rfl) ?_
  obtain ⟨q3, hq3, hw⟩ := hw
  refine w_getr (q := q3) (k := 17) (t := 9) (C := R_Qry) (T := F_Qry) (N := 20) hx hb hT hown hK hW fo.1 fo.2 (by decide) in_Qry rfl rfl (by decide) rfl fr_Qry_17 w_3_105 d_Qry_readBys_112 hq3 (fun aq3 bq3 => ?_)
  have fq3 : q3 < NN ∧ kcC q3 = 2 := ⟨aq3, bq3⟩
  have hF := hW.free hS hA
  refine va_calli (va_runV (C := R_Scn) (As := []) (rest := []) ⟨hx, hb, hml, hown, hT⟩ (k_Scn_good l dC dI cI cB cJ cZ ad NN E tM tC kK kV hNN H.size q3 x2 fq3 hw) ⟨callB_of 0 hT (gwt_in w_4_106) rfl rfl rfl (hT _ w_1_4) (hT _ w_7_147) (by decide +kernel) ⟨Nat.le_trans (Nat.le_of_ble_eq_true rfl) hRf, Nat.le_trans (Nat.le_of_ble_eq_true rfl) hRl⟩, hT _ w_4_104, hT _ w_4_105⟩ ⟨PVc.blind, va_recv hK hW.1 (ci := 2) (q0 := q3) rfl (pic_obj fq3.1 fq3.2 (by decide)), PVc.at _ hW hK hN hE hS hF⟩ rfl rfl hl.1 rfl (lv_room (Nat.le_of_ble_eq_true rfl)) d_Qry_readBys_115 ⟨hRc, hRs⟩) hS (fun q _ h => hF q h) hF (fun r5 x4 t H locs ht hvm hw hB hz1 hk1 hS => ?_)
  have hW := Wd.back hB ht hF
  clear hB ht hF hz1 hk1 hvm
  refine lv_if_eq (tgt := 137) hx hb d_Qry_readBys_118 (by decide) (fun c6 => ?_) (fun c6 => ?_)
  · have hw := hw.1 c6
    exact t_Qry_readBys_137 hx hb hml hown hT hK hN hA hRc hRs hRf hRl hNN hE hret hrec15 o l1 l2 l3 x4 H locs ls fo hw hW hS (lv_sub hl [0, 1, 2, 3] rfl)
  · have hw := hw.2 c6
    refine lv_aload_n hx hb d_Qry_readBys_121 rfl (lv_at hl 0 rfl) ?_
    obtain ⟨q7, hq7, hw⟩ := hw
    refine w_getr (q := q7) (k := 17) (t := 9) (C := R_Qry) (T := F_Qry) (N := 20) hx hb hT hown hK hW fo.1 fo.2 (by decide) in_Qry rfl rfl (by decide) rfl fr_Qry_17 w_3_105 d_Qry_readBys_122 hq7 (fun aq7 bq7 => ?_)
    have fq7 : q7 < NN ∧ kcC q7 = 2 := ⟨aq7, bq7⟩
    refine lv_bipush (v := 44) hx hb d_Qry_readBys_125 (by decide) ?_
    have hF := hW.free hS hA
    refine va_calli (va_runV (C := R_Scn) (As := [.int 44]) (rest := []) ⟨hx, hb, hml, hown, hT⟩ (k_Scn_takeSign l dC dI cI cB cJ cZ ad NN E tM tC kK kV hNN H.size q7 44 x4 fq7 hw) ⟨callB_of 1 hT (gwt_in w_4_123) rfl rfl rfl (hT _ w_1_4) (hT _ w_7_199) (by decide +kernel) ⟨Nat.le_trans (Nat.le_of_ble_eq_true rfl) hRf, Nat.le_trans (Nat.le_of_ble_eq_true rfl) hRl⟩, hT _ w_4_121, hT _ w_4_122⟩ ⟨PVc.blind, va_recv hK hW.1 (ci := 2) (q0 := q7) rfl (pic_obj fq7.1 fq7.2 (by decide)), PVc.at _ hW hK hN hE hS hF⟩ rfl rfl hl.1 rfl (lv_room (Nat.le_of_ble_eq_true rfl)) d_Qry_readBys_127 ⟨hRc, hRs⟩) hS (fun q _ h => hF q h) hF (fun r9 x8 t H locs ht hvm hw hB hz1 hk1 hS => ?_)
    have hW := Wd.back hB ht hF
    clear hB ht hF hz1 hk1 hvm
    refine lv_if_eq (tgt := 137) hx hb d_Qry_readBys_130 (by decide) (fun c10 => ?_) (fun c10 => ?_)
    · have hw := hw.1 c10
      exact t_Qry_readBys_137 hx hb hml hown hT hK hN hA hRc hRs hRf hRl hNN hE hret hrec15 o l1 l2 l3 x8 H locs ls fo hw hW hS (lv_sub hl [0, 1, 2, 3] rfl)
    · have hw := hw.2 c10
      refine lv_iconst (v := 1) hx hb d_Qry_readBys_133 (by decide) ?_
      refine lv_goto (tgt := 138) hx hb d_Qry_readBys_134 (by decide) ?_
      exact t_Qry_readBys_138 hx hb hml hown hT hK hN hA hRc hRs hRf hRl hNN hE hret hrec15 o l1 l2 l3 1 x8 H locs ls fo hw hW hS (lv_sub hl [0, 1, 2, 3] rfl)
set_option maxRecDepth 100000 in
set_option maxHeartbeats 4000000 in
set_option maxRecDepth 100000 in
theorem t_Qry_readBys_15 {p : Program} {l : Launch} {e : Env} {R : Room} {s : State} {m : MethodId} {args : Array Value} {below : List Frame} {meth : Method} {c : Code} {cells slots : Nat} {Q : State → Prop} {dC : Nat → ClassId} {dI : Nat → Nat → Nat} {cI cB cJ cZ : ClassId} {A : Nat → Prop} {ad : Nat → Nat} {NN : Nat} {E : Heap} {tM tC : Nat} {kK kV : Nat → Nat} {post : St → Prop} {rec15 : Nat → Int32 → Int32 → St → Prop} (hx : p.tables.exec = Jvm.exec) (hb : c.code = b_Qry_readBys) (hml : c.maxLocals = 4) (hown : s.vm.findClass R_Qry = some m.cls) (hT : ∀ w ∈ TG, w.before args s = true) (hK : va_K (dC, dI) CL (TY cI cB cJ cZ) s) (hN : NW s) (hA : ∀ q : Nat, s.heap.size ≤ q → A q) (hRc : cells ≤ R.cells) (hRs : slots ≤ R.slots) (hRf : 8 ≤ R.frames) (hRl : 287 ≤ R.locals) (hNN : 152 ≤ NN) (hE : CE E tM tC kK kV A s) (hret : ∀ (x : St) (H : Heap) (locs : List Loc) (pc : Nat) (ls : Array Slot), decode b_Qry_readBys pc = .ok (.return_, 1) → post x → Wd dC dI cI cB cJ cZ ad stC kcC NN A x H → va_S A s.heap H locs → W p l e R s m args below meth c H locs cells slots Q (F0 m pc ls [])) (hrec15 : ∀ (o : Nat) (l1 : Int32) (l2 : Int32) (x : St) (H : Heap) (locs : List Loc) (ls : Array Slot), (o < NN ∧ kcC o = 9) → rec15 o l1 l2 x → Wd dC dI cI cB cJ cZ ad stC kcC NN A x H → va_S A s.heap H locs → lv_has ls 4 [(0, .ref (ad o)), (1, .int l1), (2, .int l2)] → W p l e R s m args below meth c H locs cells slots Q (F0 m 15 ls [])) : ∀ (o : Nat) (l1 : Int32) (l2 : Int32) (x : St) (H : Heap) (locs : List Loc) (ls : Array Slot), (o < NN ∧ kcC o = 9) → j_Qry_readBys_15 post rec15 o l1 l2 x → Wd dC dI cI cB cJ cZ ad stC kcC NN A x H → va_S A s.heap H locs → lv_has ls 4 [(0, .ref (ad o)), (1, .int l1), (2, .int l2)] → W p l e R s m args below meth c H locs cells slots Q (F0 m 15 ls []) := by
  intro o l1 l2 x H locs ls fo hw hW hS hl
  unfold j_Qry_readBys_15 at hw
  refine lv_iload_n hx hb d_Qry_readBys_15 rfl (lv_at hl 2 rfl) ?_
  refine lv_bipush (v := 8) hx hb d_Qry_readBys_16 (by decide) ?_
  refine lv_icmp_gt (tgt := 145) hx hb d_Qry_readBys_18 (by decide) (fun c11 => ?_) (fun c11 => ?_)
  · have hw := hw.1 c11
    exact hret x H locs 145 ls d_Qry_readBys_145 hw hW hS
  · have hw := hw.2 c11
    refine lv_iload_n hx hb d_Qry_readBys_21 rfl (lv_at hl 1 rfl) ?_
    refine lv_if_eq (tgt := 145) hx hb d_Qry_readBys_22 (by decide) (fun c12 => ?_) (fun c12 => ?_)
    · have hw := hw.1 c12
      exact hret x H locs 145 ls d_Qry_readBys_145 hw hW hS
    · have hw := hw.2 c12
      refine lv_aload_n hx hb d_Qry_readBys_25 rfl (lv_at hl 0 rfl) ?_
      obtain ⟨q13, hq13, hw⟩ := hw
      refine w_getr (q := q13) (k := 17) (t := 9) (C := R_Qry) (T := F_Qry) (N := 20) hx hb hT hown hK hW fo.1 fo.2 (by decide) in_Qry rfl rfl (by decide) rfl fr_Qry_17 w_3_105 d_Qry_readBys_26 hq13 (fun aq13 bq13 => ?_)
      have fq13 : q13 < NN ∧ kcC q13 = 2 := ⟨aq13, bq13⟩
      have hF := hW.free hS hA
      refine va_calli (va_runV (C := R_Scn) (As := []) (rest := []) ⟨hx, hb, hml, hown, hT⟩ (k_Scn_next l dC dI cI cB cJ cZ ad NN E tM tC kK kV hNN H.size q13 x fq13 hw) ⟨callB_of 0 hT (gwt_in w_4_110) rfl rfl rfl (hT _ w_1_4) (hT _ w_7_148) (by decide +kernel) ⟨Nat.le_trans (Nat.le_of_ble_eq_true rfl) hRf, Nat.le_trans (Nat.le_of_ble_eq_true rfl) hRl⟩, hT _ w_4_108, hT _ w_4_109⟩ ⟨PVc.blind, va_recv hK hW.1 (ci := 2) (q0 := q13) rfl (pic_obj fq13.1 fq13.2 (by decide)), PVc.at _ hW hK hN hE hS hF⟩ rfl rfl hl.1 rfl (lv_room (Nat.le_of_ble_eq_true rfl)) d_Qry_readBys_29 ⟨hRc, hRs⟩) hS (fun q _ h => hF q h) hF (fun r15 x14 t H locs ht hvm hw hB hz1 hk1 hS => ?_)
      have hW := Wd.back hB ht hF
      clear hB ht hF hz1 hk1 hvm
      refine lv_pop hx hb d_Qry_readBys_32 rfl ?_
      refine lv_aload_n hx hb d_Qry_readBys_33 rfl (lv_at hl 0 rfl) ?_
      refine w_geti (k := 5) (t := 9) (C := R_Qry) (T := F_Qry) (N := 20) hx hb hT hown hK hW fo.1 fo.2 (by decide) in_Qry rfl rfl (by decide) rfl fr_Qry_5 w_3_83 d_Qry_readBys_34 ?_
      refine lv_bipush (v := 8) hx hb d_Qry_readBys_37 (by decide) ?_
      refine lv_icmp_lt (tgt := 57) hx hb d_Qry_readBys_39 (by decide) (fun c16 => ?_) (fun c16 => ?_)
      · have hw := hw.1 c16
        refine lv_aload_n hx hb d_Qry_readBys_57 rfl (lv_at hl 0 rfl) ?_
        have hF := hW.free hS hA
        refine va_calli (va_runV (C := R_Qry) (As := []) (rest := []) ⟨hx, hb, hml, hown, hT⟩ (k_Qry_readColumn l dC dI cI cB cJ cZ ad NN E tM tC kK kV hNN H.size o x14 fo hw) ⟨callB_of 0 hT (gwt_in w_7_191) rfl rfl rfl (hT _ w_1_12) (hT _ w_7_188) (by decide +kernel) ⟨Nat.le_trans (Nat.le_of_ble_eq_true rfl) hRf, Nat.le_trans (Nat.le_of_ble_eq_true rfl) hRl⟩, hT _ w_7_190, hT _ ws_73⟩ ⟨PVc.blind, va_recv hK hW.1 (ci := 9) (q0 := o) rfl (pic_obj fo.1 fo.2 (by decide)), PVc.at _ hW hK hN hE hS hF⟩ rfl rfl hl.1 rfl (lv_room (Nat.le_of_ble_eq_true rfl)) d_Qry_readBys_58 ⟨hRc, hRs⟩) hS (fun q _ h => hF q h) hF (fun r18 x17 t H locs ht hvm hw hB hz1 hk1 hS => ?_)
        have hW := Wd.back hB ht hF
        clear hB ht hF hz1 hk1 hvm
        refine lv_istore_n (lv' := [(3, .int r18), (0, .ref (ad o)), (1, .int l1), (2, .int l2)]) hx hb d_Qry_readBys_61 rfl hl (by decide) rfl (fun ls hl => ?_)
        refine lv_aload_n hx hb d_Qry_readBys_62 rfl (lv_at hl 1 rfl) ?_
        obtain ⟨q19, hq19, hw⟩ := hw
        refine w_getr (q := q19) (k := 17) (t := 9) (C := R_Qry) (T := F_Qry) (N := 20) hx hb hT hown hK hW fo.1 fo.2 (by decide) in_Qry rfl rfl (by decide) rfl fr_Qry_17 w_3_105 d_Qry_readBys_63 hq19 (fun aq19 bq19 => ?_)
        have fq19 : q19 < NN ∧ kcC q19 = 2 := ⟨aq19, bq19⟩
        have hF := hW.free hS hA
        refine va_calli (va_runV (C := R_Scn) (As := []) (rest := []) ⟨hx, hb, hml, hown, hT⟩ (k_Scn_good l dC dI cI cB cJ cZ ad NN E tM tC kK kV hNN H.size q19 x17 fq19 hw) ⟨callB_of 0 hT (gwt_in w_4_106) rfl rfl rfl (hT _ w_1_4) (hT _ w_7_147) (by decide +kernel) ⟨Nat.le_trans (Nat.le_of_ble_eq_true rfl) hRf, Nat.le_trans (Nat.le_of_ble_eq_true rfl) hRl⟩, hT _ w_4_104, hT _ w_4_105⟩ ⟨PVc.blind, va_recv hK hW.1 (ci := 2) (q0 := q19) rfl (pic_obj fq19.1 fq19.2 (by decide)), PVc.at _ hW hK hN hE hS hF⟩ rfl rfl hl.1 rfl (lv_room (Nat.le_of_ble_eq_true rfl)) d_Qry_readBys_66 ⟨hRc, hRs⟩) hS (fun q _ h => hF q h) hF (fun r21 x20 t H locs ht hvm hw hB hz1 hk1 hS => ?_)
        have hW := Wd.back hB ht hF
        clear hB ht hF hz1 hk1 hvm
        refine lv_if_eq (tgt := 91) hx hb d_Qry_readBys_69 (by decide) (fun c22 => ?_) (fun c22 => ?_)
        · have hw := hw.1 c22
          exact t_Qry_readBys_91 hx hb hml hown hT hK hN hA hRc hRs hRf hRl hNN hE hret hrec15 o l1 l2 r18 x20 H locs ls fo hw hW hS (lv_sub hl [1, 2, 3, 0] rfl)
        · have hw := hw.2 c22
          refine lv_aload_n hx hb d_Qry_readBys_72 rfl (lv_at hl 1 rfl) ?_
          refine lv_iload_n hx hb d_Qry_readBys_73 rfl (lv_at hl 0 rfl) ?_
          have hF := hW.free hS hA
          refine va_calli (va_runV (C := R_Qry) (As := [.int r18]) (rest := []) ⟨hx, hb, hml, hown, hT⟩ (k_Qry_isBy l dC dI cI cB cJ cZ ad NN E tM tC kK kV hNN H.size o r18 x20 fo hw) ⟨callB_of 1 hT (gwt_in w_8_7) rfl rfl rfl (hT _ w_1_12) (hT _ w_8_4) (by decide +kernel) ⟨Nat.le_trans (Nat.le_of_ble_eq_true rfl) hRf, Nat.le_trans (Nat.le_of_ble_eq_true rfl) hRl⟩, hT _ w_8_6, hT _ ws_84⟩ ⟨PVc.blind, va_recv hK hW.1 (ci := 9) (q0 := o) rfl (pic_obj fo.1 fo.2 (by decide)), PVc.at _ hW hK hN hE hS hF⟩ rfl rfl hl.1 rfl (lv_room (Nat.le_of_ble_eq_true rfl)) d_Qry_readBys_74 ⟨hRc, hRs⟩) hS (fun q _ h => hF q h) hF (fun r24 x23 t H locs ht hvm hw hB hz1 hk1 hS => ?_)
          have hW := Wd.back hB ht hF
          clear hB ht hF hz1 hk1 hvm
          refine lv_if_eq (tgt := 91) hx hb d_Qry_readBys_77 (by decide) (fun c25 => ?_) (fun c25 => ?_)
          · have hw := hw.1 c25
            exact t_Qry_readBys_91 hx hb hml hown hT hK hN hA hRc hRs hRf hRl hNN hE hret hrec15 o l1 l2 r18 x23 H locs ls fo hw hW hS (lv_sub hl [1, 2, 3, 0] rfl)
          · have hw := hw.2 c25
            refine lv_aload_n hx hb d_Qry_readBys_80 rfl (lv_at hl 1 rfl) ?_
            obtain ⟨q26, hq26, hw⟩ := hw
            refine w_getr (q := q26) (k := 17) (t := 9) (C := R_Qry) (T := F_Qry) (N := 20) hx hb hT hown hK hW fo.1 fo.2 (by decide) in_Qry rfl rfl (by decide) rfl fr_Qry_17 w_3_105 d_Qry_readBys_81 hq26 (fun aq26 bq26 => ?_)
            have fq26 : q26 < NN ∧ kcC q26 = 2 := ⟨aq26, bq26⟩
            refine lv_aload_n hx hb d_Qry_readBys_84 rfl (lv_at hl 1 rfl) ?_
            refine w_geti (k := 19) (t := 9) (C := R_Qry) (T := F_Qry) (N := 20) hx hb hT hown hK hW fo.1 fo.2 (by decide) in_Qry rfl rfl (by decide) rfl fr_Qry_19 w_3_107 d_Qry_readBys_85 ?_
            have hF := hW.free hS hA
            refine va_callv (va_runV (C := R_Scn) (As := [.int (fI x23 o 19)]) (rest := []) ⟨hx, hb, hml, hown, hT⟩ (k_Scn_refuse l dC dI cI cB cJ cZ ad NN E tM tC kK kV hNN H.size q26 (fI x23 o 19) x23 fq26 hw) ⟨callB_of 1 hT (gwt_in w_4_128) rfl rfl rfl (hT _ w_1_4) (hT _ w_7_149) (by decide +kernel) ⟨Nat.le_trans (Nat.le_of_ble_eq_true rfl) hRf, Nat.le_trans (Nat.le_of_ble_eq_true rfl) hRl⟩, hT _ w_4_126, hT _ w_4_127⟩ ⟨PVc.blind, va_recv hK hW.1 (ci := 2) (q0 := q26) rfl (pic_obj fq26.1 fq26.2 (by decide)), PVc.at _ hW hK hN hE hS hF⟩ rfl rfl hl.1 rfl (lv_room (Nat.le_of_ble_eq_true rfl)) d_Qry_readBys_88 ⟨hRc, hRs⟩) hS (fun q _ h => hF q h) hF (fun  x27 t H locs ht hvm hw hB hz1 hk1 hS => ?_)
            have hW := Wd.back hB ht hF
            clear hB ht hF hz1 hk1 hvm
            exact t_Qry_readBys_91 hx hb hml hown hT hK hN hA hRc hRs hRf hRl hNN hE hret hrec15 o l1 l2 r18 x27 H locs ls fo hw hW hS (lv_sub hl [1, 2, 3, 0] rfl)
      · have hw := hw.2 c16
        refine lv_aload_n hx hb d_Qry_readBys_42 rfl (lv_at hl 0 rfl) ?_
        obtain ⟨q28, hq28, hw⟩ := hw
        refine w_getr (q := q28) (k := 17) (t := 9) (C := R_Qry) (T := F_Qry) (N := 20) hx hb hT hown hK hW fo.1 fo.2 (by decide) in_Qry rfl rfl (by decide) rfl fr_Qry_17 w_3_105 d_Qry_readBys_43 hq28 (fun aq28 bq28 => ?_)
        have fq28 : q28 < NN ∧ kcC q28 = 2 := ⟨aq28, bq28⟩
        refine lv_aload_n hx hb d_Qry_readBys_46 rfl (lv_at hl 0 rfl) ?_
        obtain ⟨q29, hq29, hw⟩ := hw
        refine w_getr (q := q29) (k := 17) (t := 9) (C := R_Qry) (T := F_Qry) (N := 20) hx hb hT hown hK hW fo.1 fo.2 (by decide) in_Qry rfl rfl (by decide) rfl fr_Qry_17 w_3_105 d_Qry_readBys_47 hq29 (fun aq29 bq29 => ?_)
        have fq29 : q29 < NN ∧ kcC q29 = 2 := ⟨aq29, bq29⟩
        refine w_geti (k := 2) (t := 2) (C := R_Scn) (T := F_Scn) (N := 8) hx hb hT hown hK hW fq29.1 fq29.2 (by decide) in_Scn rfl rfl (by decide) rfl fr_Scn_2 w_1_86 d_Qry_readBys_50 ?_
        have hF := hW.free hS hA
        refine va_callv (va_runV (C := R_Scn) (As := [.int (fI x14 q29 2)]) (rest := []) ⟨hx, hb, hml, hown, hT⟩ (k_Scn_refuse l dC dI cI cB cJ cZ ad NN E tM tC kK kV hNN H.size q28 (fI x14 q29 2) x14 fq28 hw) ⟨callB_of 1 hT (gwt_in w_4_128) rfl rfl rfl (hT _ w_1_4) (hT _ w_7_149) (by decide +kernel) ⟨Nat.le_trans (Nat.le_of_ble_eq_true rfl) hRf, Nat.le_trans (Nat.le_of_ble_eq_true rfl) hRl⟩, hT _ w_4_126, hT _ w_4_127⟩ ⟨PVc.blind, va_recv hK hW.1 (ci := 2) (q0 := q28) rfl (pic_obj fq28.1 fq28.2 (by decide)), PVc.at _ hW hK hN hE hS hF⟩ rfl rfl hl.1 rfl (lv_room (Nat.le_of_ble_eq_true rfl)) d_Qry_readBys_53 ⟨hRc, hRs⟩) hS (fun q _ h => hF q h) hF (fun  x30 t H locs ht hvm hw hB hz1 hk1 hS => ?_)
        have hW := Wd.back hB ht hF
        clear hB ht hF hz1 hk1 hvm
        exact hret x30 H locs 56 ls d_Qry_readBys_56 hw hW hS
set_option maxHeartbeats 4000000 in
set_option maxRecDepth 100000 in
theorem tl_Qry_readBys_15 {p : Program} {l : Launch} {e : Env} {R : Room} {s : State} {m : MethodId} {args : Array Value} {below : List Frame} {meth : Method} {c : Code} {cells slots : Nat} {Q : State → Prop} {dC : Nat → ClassId} {dI : Nat → Nat → Nat} {cI cB cJ cZ : ClassId} {A : Nat → Prop} {ad : Nat → Nat} {NN : Nat} {E : Heap} {tM tC : Nat} {kK kV : Nat → Nat} {post : St → Prop} (hx : p.tables.exec = Jvm.exec) (hb : c.code = b_Qry_readBys) (hml : c.maxLocals = 4) (hown : s.vm.findClass R_Qry = some m.cls) (hT : ∀ w ∈ TG, w.before args s = true) (hK : va_K (dC, dI) CL (TY cI cB cJ cZ) s) (hN : NW s) (hA : ∀ q : Nat, s.heap.size ≤ q → A q) (hRc : cells ≤ R.cells) (hRs : slots ≤ R.slots) (hRf : 8 ≤ R.frames) (hRl : 287 ≤ R.locals) (hNN : 152 ≤ NN) (hE : CE E tM tC kK kV A s) (hret : ∀ (x : St) (H : Heap) (locs : List Loc) (pc : Nat) (ls : Array Slot), decode b_Qry_readBys pc = .ok (.return_, 1) → post x → Wd dC dI cI cB cJ cZ ad stC kcC NN A x H → va_S A s.heap H locs → W p l e R s m args below meth c H locs cells slots Q (F0 m pc ls []))  : ∀ n : Nat, ∀ (o : Nat) (l1 : Int32) (l2 : Int32) (x : St) (H : Heap) (locs : List Loc) (ls : Array Slot), (o < NN ∧ kcC o = 9) → wl_Qry_readBys_15 post n o l1 l2 x → Wd dC dI cI cB cJ cZ ad stC kcC NN A x H → va_S A s.heap H locs → lv_has ls 4 [(0, .ref (ad o)), (1, .int l1), (2, .int l2)] → W p l e R s m args below meth c H locs cells slots Q (F0 m 15 ls []) := by
  intro n
  induction n with
  | zero => intro o l1 l2 x H locs ls fo hw; exact hw.elim
  | succ n ih => intro o l1 l2 x H locs ls fo hw hW hS hl; exact t_Qry_readBys_15 hx hb hml hown hT hK hN hA hRc hRs hRf hRl hNN hE hret  ih o l1 l2 x H locs ls fo hw hW hS hl
set_option maxRecDepth 100000 in
set_option maxHeartbeats 4000000 in
set_option maxRecDepth 100000 in
theorem t_Qry_readBys_e {p : Program} {l : Launch} {e : Env} {R : Room} {s : State} {m : MethodId} {args : Array Value} {below : List Frame} {meth : Method} {c : Code} {cells slots : Nat} {Q : State → Prop} {dC : Nat → ClassId} {dI : Nat → Nat → Nat} {cI cB cJ cZ : ClassId} {A : Nat → Prop} {ad : Nat → Nat} {NN : Nat} {E : Heap} {tM tC : Nat} {kK kV : Nat → Nat} {post : St → Prop} (hx : p.tables.exec = Jvm.exec) (hb : c.code = b_Qry_readBys) (hml : c.maxLocals = 4) (hown : s.vm.findClass R_Qry = some m.cls) (hT : ∀ w ∈ TG, w.before args s = true) (hK : va_K (dC, dI) CL (TY cI cB cJ cZ) s) (hN : NW s) (hA : ∀ q : Nat, s.heap.size ≤ q → A q) (hRc : cells ≤ R.cells) (hRs : slots ≤ R.slots) (hRf : 8 ≤ R.frames) (hRl : 287 ≤ R.locals) (hNN : 152 ≤ NN) (hE : CE E tM tC kK kV A s) (hret : ∀ (x : St) (H : Heap) (locs : List Loc) (pc : Nat) (ls : Array Slot), decode b_Qry_readBys pc = .ok (.return_, 1) → post x → Wd dC dI cI cB cJ cZ ad stC kcC NN A x H → va_S A s.heap H locs → W p l e R s m args below meth c H locs cells slots Q (F0 m pc ls [])) : ∀ (o : Nat) (x : St) (H : Heap) (locs : List Loc) (ls : Array Slot), (o < NN ∧ kcC o = 9) → wp_Qry_readBys post o x → Wd dC dI cI cB cJ cZ ad stC kcC NN A x H → va_S A s.heap H locs → lv_has ls 4 [(0, .ref (ad o))] → W p l e R s m args below meth c H locs cells slots Q (F0 m 0 ls []) := by
  intro o x H locs ls fo hw hW hS hl
  unfold wp_Qry_readBys at hw
  refine lv_aload_n hx hb d_Qry_readBys_0 rfl (lv_at hl 0 rfl) ?_
  refine lv_iconst (v := 1) hx hb d_Qry_readBys_1 (by decide) ?_
  refine w_puti (ty := .boolean) (k := 7) (t := 9) (C := R_Qry) (T := F_Qry) (N := 20) hx hb hT hown hK hW hS fo.1 fo.2 (by decide) in_Qry t_Qry t_Qry_ok n_Qry rfl rfl (by decide) rfl fr_Qry_7 w_3_87 (by decide +kernel) rfl rfl d_Qry_readBys_2 (fun H locs hW hS => ?_)
  obtain ⟨x31, ex31⟩ : ∃ y : St, y = setI x o 7 1 := ⟨_, rfl⟩
  rw [← ex31] at hW
  have hw := hw x31 ex31
  refine lv_aload_n hx hb d_Qry_readBys_5 rfl (lv_at hl 0 rfl) ?_
  obtain ⟨q32, hq32, hw⟩ := hw
  refine w_getr (q := q32) (k := 17) (t := 9) (C := R_Qry) (T := F_Qry) (N := 20) hx hb hT hown hK hW fo.1 fo.2 (by decide) in_Qry rfl rfl (by decide) rfl fr_Qry_17 w_3_105 d_Qry_readBys_6 hq32 (fun aq32 bq32 => ?_)
  have fq32 : q32 < NN ∧ kcC q32 = 2 := ⟨aq32, bq32⟩
  have hF := hW.free hS hA
  refine va_calli (va_runV (C := R_Scn) (As := []) (rest := []) ⟨hx, hb, hml, hown, hT⟩ (k_Scn_good l dC dI cI cB cJ cZ ad NN E tM tC kK kV hNN H.size q32 x31 fq32 hw) ⟨callB_of 0 hT (gwt_in w_4_106) rfl rfl rfl (hT _ w_1_4) (hT _ w_7_147) (by decide +kernel) ⟨Nat.le_trans (Nat.le_of_ble_eq_true rfl) hRf, Nat.le_trans (Nat.le_of_ble_eq_true rfl) hRl⟩, hT _ w_4_104, hT _ w_4_105⟩ ⟨PVc.blind, va_recv hK hW.1 (ci := 2) (q0 := q32) rfl (pic_obj fq32.1 fq32.2 (by decide)), PVc.at _ hW hK hN hE hS hF⟩ rfl rfl hl.1 rfl (lv_room (Nat.le_of_ble_eq_true rfl)) d_Qry_readBys_9 ⟨hRc, hRs⟩) hS (fun q _ h => hF q h) hF (fun r34 x33 t H locs ht hvm hw hB hz1 hk1 hS => ?_)
  have hW := Wd.back hB ht hF
  clear hB ht hF hz1 hk1 hvm
  refine lv_istore_n (lv' := [(1, .int r34), (0, .ref (ad o))]) hx hb d_Qry_readBys_12 rfl hl (by decide) rfl (fun ls hl => ?_)
  refine lv_iconst (v := 0) hx hb d_Qry_readBys_13 (by decide) ?_
  refine lv_istore_n (lv' := [(2, .int 0), (1, .int r34), (0, .ref (ad o))]) hx hb d_Qry_readBys_14 rfl hl (by decide) rfl (fun ls hl => ?_)
  obtain ⟨n, hw⟩ := hw
  exact tl_Qry_readBys_15 hx hb hml hown hT hK hN hA hRc hRs hRf hRl hNN hE hret  n o r34 0 x33 H locs ls fo hw hW hS (lv_sub hl [2, 1, 0] rfl)
set_option maxHeartbeats 4000000 in
set_option maxRecDepth 100000 in
theorem k_Qry_readBys (l : Launch) (dC : Nat → ClassId) (dI : Nat → Nat → Nat) (cI cB cJ cZ : ClassId) (ad : Nat → Nat) (NN : Nat) (E : Heap) (tM tC : Nat) (kK kV : Nat → Nat) (hNN : 152 ≤ NN) (sz : Nat) (o : Nat) (x : St) (fo : o < NN ∧ kcC o = 9) {post : St → Prop} (hw : wp_Qry_readBys post o x) : Met l y_Qry_readBys (wsOf y_Qry_readBys b_Qry_readBys 4 (none)) ({ frames := 8, cells := 0, slots := 0, locals := 287 }) (va_Pc [.ref (ad o)] (PVc dC dI cI cB cJ cZ ad stC kcC NN E tM tC kK kV sz x)) (va_Qv (fun (y : St) => post y) (fun y t => Wd dC dI cI cB cJ cZ ad stC kcC NN (va_A (pic ad stC kcC NN cI cB cJ cZ x) sz) y t.heap) (va_A (pic ad stC kcC NN cI cB cJ cZ x) sz)) 0 0 (va_A (pic ad stC kcC NN cI cB cJ cZ x) sz) := by
  refine Met.ofW (cc := b_Qry_readBys) (maxL := 4) (ret := none) (by decide) rfl ?_
  intro p e s m args below meth c s₁ B hml hv
  obtain ⟨rfl, ⟨hsz, hW0, hK, hN⟩, hE⟩ := hv
  have hx := B.exec
  have hb := B.bytes
  have hr := B.returns
  have hts := atoms_spec B.pre
  have hT : ∀ w ∈ TG, w.before _ s = true := fun w h => hts w (List.mem_cons_of_mem _ h)
  have hown : s.vm.findClass R_Qry = some m.cls := findClass_of_methodNamed B.named
  have hlocks := B.notSynchronized
  subst hsz
  have hW : Wd dC dI cI cB cJ cZ ad stC kcC NN (va_A (pic ad stC kcC NN cI cB cJ cZ x) s.heap.size) x s.heap := ⟨hW0.1, hW0.2.1.self (sz := s.heap.size), hW0.2.2⟩
  generalize hAe : va_A (pic ad stC kcC NN cI cB cJ cZ x) s.heap.size = A at hW hE ⊢
  have hA : ∀ q : Nat, s.heap.size ≤ q → A q := fun q h => by rw [← hAe]; exact Or.inr h
  have hS : va_S A s.heap s.heap [] := va_S.rf
  have hl := lv_entry ([.ref (ad o)]) (n := 4) (Nat.le_of_ble_eq_true rfl)
  rw [lg_entry_eq]
  generalize (lg_sl ([.ref (ad o)]) ++ List.replicate (4 - (lg_sl ([.ref (ad o)])).length) Slot.unset).toArray = ls at hl ⊢
  have hl : lv_has ls 4 [(0, .ref (ad o))] := hl
  exact t_Qry_readBys_e hx hb hml hown hT hK hN hA (Nat.le_refl 0) (Nat.le_refl 0) (Nat.le_refl 8) (Nat.le_refl 287) hNN hE (fun x H locs pc ls hd hp hW hS => W.vret hx hb hr (fun t ht hM => ⟨⟨x, rfl, hp, Wd.back hW ht.symm (fun _ z => z)⟩, hS.F ht⟩) hS.2.2 hd hlocks)  o x _ _ ls fo hw hW hS hl
set_option maxRecDepth 100000 in
set_option maxHeartbeats 4000000 in
set_option maxRecDepth 100000 in
theorem t_Qry_checkItems_45 {p : Program} {l : Launch} {e : Env} {R : Room} {s : State} {m : MethodId} {args : Array Value} {below : List Frame} {meth : Method} {c : Code} {cells slots : Nat} {Q : State → Prop} {dC : Nat → ClassId} {dI : Nat → Nat → Nat} {cI cB cJ cZ : ClassId} {A : Nat → Prop} {ad : Nat → Nat} {NN : Nat} {E : Heap} {tM tC : Nat} {kK kV : Nat → Nat} {post : St → Prop} {rec2 : Nat → Int32 → St → Prop} (hx : p.tables.exec = Jvm.exec) (hb : c.code = b_Qry_checkItems) (hml : c.maxLocals = 2) (hown : s.vm.findClass R_Qry = some m.cls) (hT : ∀ w ∈ TG, w.before args s = true) (hK : va_K (dC, dI) CL (TY cI cB cJ cZ) s) (hN : NW s) (hA : ∀ q : Nat, s.heap.size ≤ q → A q) (hRc : cells ≤ R.cells) (hRs : slots ≤ R.slots) (hRf : 1 ≤ R.frames) (hRl : 22 ≤ R.locals) (hNN : 152 ≤ NN) (hE : CE E tM tC kK kV A s) (hret : ∀ (x : St) (H : Heap) (locs : List Loc) (pc : Nat) (ls : Array Slot), decode b_Qry_checkItems pc = .ok (.return_, 1) → post x → Wd dC dI cI cB cJ cZ ad stC kcC NN A x H → va_S A s.heap H locs → W p l e R s m args below meth c H locs cells slots Q (F0 m pc ls [])) (hrec2 : ∀ (o : Nat) (l1 : Int32) (x : St) (H : Heap) (locs : List Loc) (ls : Array Slot), (o < NN ∧ kcC o = 9) → rec2 o l1 x → Wd dC dI cI cB cJ cZ ad stC kcC NN A x H → va_S A s.heap H locs → lv_has ls 2 [(0, .ref (ad o)), (1, .int l1)] → W p l e R s m args below meth c H locs cells slots Q (F0 m 2 ls [])) : ∀ (o : Nat) (l1 : Int32) (x : St) (H : Heap) (locs : List Loc) (ls : Array Slot), (o < NN ∧ kcC o = 9) → j_Qry_checkItems_45 post rec2 o l1 x → Wd dC dI cI cB cJ cZ ad stC kcC NN A x H → va_S A s.heap H locs → lv_has ls 2 [(0, .ref (ad o)), (1, .int l1)] → W p l e R s m args below meth c H locs cells slots Q (F0 m 45 ls []) := by
  intro o l1 x H locs ls fo hw hW hS hl
  unfold j_Qry_checkItems_45 at hw
  refine lv_iinc (v := (l1 + 1)) (lv' := [(1, .int (l1 + 1)), (0, .ref (ad o))]) hx hb d_Qry_checkItems_45 hl (k := 1) rfl rfl (by decide) rfl (fun ls hl => ?_)
  refine lv_goto (tgt := 2) hx hb d_Qry_checkItems_48 (by decide) ?_
  exact hrec2 o (l1 + 1) x H locs ls fo hw hW hS (lv_sub hl [1, 0] rfl)
set_option maxRecDepth 100000 in
set_option maxHeartbeats 4000000 in
set_option maxRecDepth 100000 in
theorem t_Qry_checkItems_2 {p : Program} {l : Launch} {e : Env} {R : Room} {s : State} {m : MethodId} {args : Array Value} {below : List Frame} {meth : Method} {c : Code} {cells slots : Nat} {Q : State → Prop} {dC : Nat → ClassId} {dI : Nat → Nat → Nat} {cI cB cJ cZ : ClassId} {A : Nat → Prop} {ad : Nat → Nat} {NN : Nat} {E : Heap} {tM tC : Nat} {kK kV : Nat → Nat} {post : St → Prop} {rec2 : Nat → Int32 → St → Prop} (hx : p.tables.exec = Jvm.exec) (hb : c.code = b_Qry_checkItems) (hml : c.maxLocals = 2) (hown : s.vm.findClass R_Qry = some m.cls) (hT : ∀ w ∈ TG, w.before args s = true) (hK : va_K (dC, dI) CL (TY cI cB cJ cZ) s) (hN : NW s) (hA : ∀ q : Nat, s.heap.size ≤ q → A q) (hRc : cells ≤ R.cells) (hRs : slots ≤ R.slots) (hRf : 1 ≤ R.frames) (hRl : 22 ≤ R.locals) (hNN : 152 ≤ NN) (hE : CE E tM tC kK kV A s) (hret : ∀ (x : St) (H : Heap) (locs : List Loc) (pc : Nat) (ls : Array Slot), decode b_Qry_checkItems pc = .ok (.return_, 1) → post x → Wd dC dI cI cB cJ cZ ad stC kcC NN A x H → va_S A s.heap H locs → W p l e R s m args below meth c H locs cells slots Q (F0 m pc ls [])) (hrec2 : ∀ (o : Nat) (l1 : Int32) (x : St) (H : Heap) (locs : List Loc) (ls : Array Slot), (o < NN ∧ kcC o = 9) → rec2 o l1 x → Wd dC dI cI cB cJ cZ ad stC kcC NN A x H → va_S A s.heap H locs → lv_has ls 2 [(0, .ref (ad o)), (1, .int l1)] → W p l e R s m args below meth c H locs cells slots Q (F0 m 2 ls [])) : ∀ (o : Nat) (l1 : Int32) (x : St) (H : Heap) (locs : List Loc) (ls : Array Slot), (o < NN ∧ kcC o = 9) → j_Qry_checkItems_2 post rec2 o l1 x → Wd dC dI cI cB cJ cZ ad stC kcC NN A x H → va_S A s.heap H locs → lv_has ls 2 [(0, .ref (ad o)), (1, .int l1)] → W p l e R s m args below meth c H locs cells slots Q (F0 m 2 ls []) := by
  intro o l1 x H locs ls fo hw hW hS hl
  unfold j_Qry_checkItems_2 at hw
  refine lv_iload_n hx hb d_Qry_checkItems_2 rfl (lv_at hl 1 rfl) ?_
  refine lv_aload_n hx hb d_Qry_checkItems_3 rfl (lv_at hl 0 rfl) ?_
  refine w_geti (k := 1) (t := 9) (C := R_Qry) (T := F_Qry) (N := 20) hx hb hT hown hK hW fo.1 fo.2 (by decide) in_Qry rfl rfl (by decide) rfl fr_Qry_1 w_3_76 d_Qry_checkItems_4 ?_
  refine lv_icmp_ge (tgt := 51) hx hb d_Qry_checkItems_7 (by decide) (fun c1 => ?_) (fun c1 => ?_)
  · have hw := hw.1 c1
    exact hret x H locs 51 ls d_Qry_checkItems_51 hw hW hS
  · have hw := hw.2 c1
    refine lv_aload_n hx hb d_Qry_checkItems_10 rfl (lv_at hl 0 rfl) ?_
    refine w_getf (q := (stC o 2)) (k := 2) (t := 9) (C := R_Qry) (T := F_Qry) (N := 20) hx hb hT hown hK hW fo.1 fo.2 (by decide) in_Qry rfl rfl (by decide) rfl fr_Qry_2 w_3_78 d_Qry_checkItems_11 rfl ?_
    refine lv_iload_n hx hb d_Qry_checkItems_14 rfl (lv_at hl 1 rfl) ?_
    obtain ⟨hi, hw⟩ := hw
    refine w_iald (o := (stC o 2)) hx hb hK hW (st_ty hNN fo.1 fo.2 rfl).1 (st_ty hNN fo.1 fo.2 rfl).2 hi d_Qry_checkItems_15 ?_
    refine lv_if_ne (tgt := 45) hx hb d_Qry_checkItems_16 (by decide) (fun c2 => ?_) (fun c2 => ?_)
    · have hw := hw.1 c2
      exact t_Qry_checkItems_45 hx hb hml hown hT hK hN hA hRc hRs hRf hRl hNN hE hret hrec2 o l1 x H locs ls fo hw hW hS (lv_sub hl [0, 1] rfl)
    · have hw := hw.2 c2
      refine lv_aload_n hx hb d_Qry_checkItems_19 rfl (lv_at hl 0 rfl) ?_
      refine lv_aload_n hx hb d_Qry_checkItems_20 rfl (lv_at hl 0 rfl) ?_
      refine w_getf (q := (stC o 3)) (k := 3) (t := 9) (C := R_Qry) (T := F_Qry) (N := 20) hx hb hT hown hK hW fo.1 fo.2 (by decide) in_Qry rfl rfl (by decide) rfl fr_Qry_3 w_3_80 d_Qry_checkItems_21 rfl ?_
      refine lv_iload_n hx hb d_Qry_checkItems_24 rfl (lv_at hl 1 rfl) ?_
      obtain ⟨hi, hw⟩ := hw
      refine w_iald (o := (stC o 3)) hx hb hK hW (st_ty hNN fo.1 fo.2 rfl).1 (st_ty hNN fo.1 fo.2 rfl).2 hi d_Qry_checkItems_25 ?_
      have hF := hW.free hS hA
      refine va_calli (va_runV (C := R_Qry) (As := [.int (rA x (stC o 3) l1)]) (rest := []) ⟨hx, hb, hml, hown, hT⟩ (k_Qry_isBy l dC dI cI cB cJ cZ ad NN E tM tC kK kV hNN H.size o (rA x (stC o 3) l1) x fo hw) ⟨callB_of 1 hT (gwt_in w_8_7) rfl rfl rfl (hT _ w_1_12) (hT _ w_8_4) (by decide +kernel) ⟨Nat.le_trans (Nat.le_of_ble_eq_true rfl) hRf, Nat.le_trans (Nat.le_of_ble_eq_true rfl) hRl⟩, hT _ w_8_6, hT _ ws_84⟩ ⟨PVc.blind, va_recv hK hW.1 (ci := 9) (q0 := o) rfl (pic_obj fo.1 fo.2 (by decide)), PVc.at _ hW hK hN hE hS hF⟩ rfl rfl hl.1 rfl (lv_room (Nat.le_of_ble_eq_true rfl)) d_Qry_checkItems_26 ⟨hRc, hRs⟩) hS (fun q _ h => hF q h) hF (fun r4 x3 t H locs ht hvm hw hB hz1 hk1 hS => ?_)
      have hW := Wd.back hB ht hF
      clear hB ht hF hz1 hk1 hvm
      refine lv_if_ne (tgt := 45) hx hb d_Qry_checkItems_29 (by decide) (fun c5 => ?_) (fun c5 => ?_)
      · have hw := hw.1 c5
        exact t_Qry_checkItems_45 hx hb hml hown hT hK hN hA hRc hRs hRf hRl hNN hE hret hrec2 o l1 x3 H locs ls fo hw hW hS (lv_sub hl [0, 1] rfl)
      · have hw := hw.2 c5
        refine lv_aload_n hx hb d_Qry_checkItems_32 rfl (lv_at hl 0 rfl) ?_
        obtain ⟨q6, hq6, hw⟩ := hw
        refine w_getr (q := q6) (k := 17) (t := 9) (C := R_Qry) (T := F_Qry) (N := 20) hx hb hT hown hK hW fo.1 fo.2 (by decide) in_Qry rfl rfl (by decide) rfl fr_Qry_17 w_3_105 d_Qry_checkItems_33 hq6 (fun aq6 bq6 => ?_)
        have fq6 : q6 < NN ∧ kcC q6 = 2 := ⟨aq6, bq6⟩
        refine lv_aload_n hx hb d_Qry_checkItems_36 rfl (lv_at hl 0 rfl) ?_
        refine w_getf (q := (stC o 4)) (k := 4) (t := 9) (C := R_Qry) (T := F_Qry) (N := 20) hx hb hT hown hK hW fo.1 fo.2 (by decide) in_Qry rfl rfl (by decide) rfl fr_Qry_4 w_3_82 d_Qry_checkItems_37 rfl ?_
        refine lv_iload_n hx hb d_Qry_checkItems_40 rfl (lv_at hl 1 rfl) ?_
        obtain ⟨hi, hw⟩ := hw
        refine w_iald (o := (stC o 4)) hx hb hK hW (st_ty hNN fo.1 fo.2 rfl).1 (st_ty hNN fo.1 fo.2 rfl).2 hi d_Qry_checkItems_41 ?_
        have hF := hW.free hS hA
        refine va_callv (va_runV (C := R_Scn) (As := [.int (rA x3 (stC o 4) l1)]) (rest := []) ⟨hx, hb, hml, hown, hT⟩ (k_Scn_refuse l dC dI cI cB cJ cZ ad NN E tM tC kK kV hNN H.size q6 (rA x3 (stC o 4) l1) x3 fq6 hw) ⟨callB_of 1 hT (gwt_in w_4_128) rfl rfl rfl (hT _ w_1_4) (hT _ w_7_149) (by decide +kernel) ⟨Nat.le_trans (Nat.le_of_ble_eq_true rfl) hRf, Nat.le_trans (Nat.le_of_ble_eq_true rfl) hRl⟩, hT _ w_4_126, hT _ w_4_127⟩ ⟨PVc.blind, va_recv hK hW.1 (ci := 2) (q0 := q6) rfl (pic_obj fq6.1 fq6.2 (by decide)), PVc.at _ hW hK hN hE hS hF⟩ rfl rfl hl.1 rfl (lv_room (Nat.le_of_ble_eq_true rfl)) d_Qry_checkItems_42 ⟨hRc, hRs⟩) hS (fun q _ h => hF q h) hF (fun  x7 t H locs ht hvm hw hB hz1 hk1 hS => ?_)
        have hW := Wd.back hB ht hF
        clear hB ht hF hz1 hk1 hvm
        exact t_Qry_checkItems_45 hx hb hml hown hT hK hN hA hRc hRs hRf hRl hNN hE hret hrec2 o l1 x7 H locs ls fo hw hW hS (lv_sub hl [0, 1] rfl)
set_option maxHeartbeats 4000000 in
set_option maxRecDepth 100000 in
theorem tl_Qry_checkItems_2 {p : Program} {l : Launch} {e : Env} {R : Room} {s : State} {m : MethodId} {args : Array Value} {below : List Frame} {meth : Method} {c : Code} {cells slots : Nat} {Q : State → Prop} {dC : Nat → ClassId} {dI : Nat → Nat → Nat} {cI cB cJ cZ : ClassId} {A : Nat → Prop} {ad : Nat → Nat} {NN : Nat} {E : Heap} {tM tC : Nat} {kK kV : Nat → Nat} {post : St → Prop} (hx : p.tables.exec = Jvm.exec) (hb : c.code = b_Qry_checkItems) (hml : c.maxLocals = 2) (hown : s.vm.findClass R_Qry = some m.cls) (hT : ∀ w ∈ TG, w.before args s = true) (hK : va_K (dC, dI) CL (TY cI cB cJ cZ) s) (hN : NW s) (hA : ∀ q : Nat, s.heap.size ≤ q → A q) (hRc : cells ≤ R.cells) (hRs : slots ≤ R.slots) (hRf : 1 ≤ R.frames) (hRl : 22 ≤ R.locals) (hNN : 152 ≤ NN) (hE : CE E tM tC kK kV A s) (hret : ∀ (x : St) (H : Heap) (locs : List Loc) (pc : Nat) (ls : Array Slot), decode b_Qry_checkItems pc = .ok (.return_, 1) → post x → Wd dC dI cI cB cJ cZ ad stC kcC NN A x H → va_S A s.heap H locs → W p l e R s m args below meth c H locs cells slots Q (F0 m pc ls []))  : ∀ n : Nat, ∀ (o : Nat) (l1 : Int32) (x : St) (H : Heap) (locs : List Loc) (ls : Array Slot), (o < NN ∧ kcC o = 9) → wl_Qry_checkItems_2 post n o l1 x → Wd dC dI cI cB cJ cZ ad stC kcC NN A x H → va_S A s.heap H locs → lv_has ls 2 [(0, .ref (ad o)), (1, .int l1)] → W p l e R s m args below meth c H locs cells slots Q (F0 m 2 ls []) := by
  intro n
  induction n with
  | zero => intro o l1 x H locs ls fo hw; exact hw.elim
  | succ n ih => intro o l1 x H locs ls fo hw hW hS hl; exact t_Qry_checkItems_2 hx hb hml hown hT hK hN hA hRc hRs hRf hRl hNN hE hret  ih o l1 x H locs ls fo hw hW hS hl
set_option maxRecDepth 100000 in
set_option maxHeartbeats 4000000 in
set_option maxRecDepth 100000 in
theorem t_Qry_checkItems_e {p : Program} {l : Launch} {e : Env} {R : Room} {s : State} {m : MethodId} {args : Array Value} {below : List Frame} {meth : Method} {c : Code} {cells slots : Nat} {Q : State → Prop} {dC : Nat → ClassId} {dI : Nat → Nat → Nat} {cI cB cJ cZ : ClassId} {A : Nat → Prop} {ad : Nat → Nat} {NN : Nat} {E : Heap} {tM tC : Nat} {kK kV : Nat → Nat} {post : St → Prop} (hx : p.tables.exec = Jvm.exec) (hb : c.code = b_Qry_checkItems) (hml : c.maxLocals = 2) (hown : s.vm.findClass R_Qry = some m.cls) (hT : ∀ w ∈ TG, w.before args s = true) (hK : va_K (dC, dI) CL (TY cI cB cJ cZ) s) (hN : NW s) (hA : ∀ q : Nat, s.heap.size ≤ q → A q) (hRc : cells ≤ R.cells) (hRs : slots ≤ R.slots) (hRf : 1 ≤ R.frames) (hRl : 22 ≤ R.locals) (hNN : 152 ≤ NN) (hE : CE E tM tC kK kV A s) (hret : ∀ (x : St) (H : Heap) (locs : List Loc) (pc : Nat) (ls : Array Slot), decode b_Qry_checkItems pc = .ok (.return_, 1) → post x → Wd dC dI cI cB cJ cZ ad stC kcC NN A x H → va_S A s.heap H locs → W p l e R s m args below meth c H locs cells slots Q (F0 m pc ls [])) : ∀ (o : Nat) (x : St) (H : Heap) (locs : List Loc) (ls : Array Slot), (o < NN ∧ kcC o = 9) → wp_Qry_checkItems post o x → Wd dC dI cI cB cJ cZ ad stC kcC NN A x H → va_S A s.heap H locs → lv_has ls 2 [(0, .ref (ad o))] → W p l e R s m args below meth c H locs cells slots Q (F0 m 0 ls []) := by
  intro o x H locs ls fo hw hW hS hl
  unfold wp_Qry_checkItems at hw
  refine lv_iconst (v := 0) hx hb d_Qry_checkItems_0 (by decide) ?_
  refine lv_istore_n (lv' := [(1, .int 0), (0, .ref (ad o))]) hx hb d_Qry_checkItems_1 rfl hl (by decide) rfl (fun ls hl => ?_)
  obtain ⟨n, hw⟩ := hw
  exact tl_Qry_checkItems_2 hx hb hml hown hT hK hN hA hRc hRs hRf hRl hNN hE hret  n o 0 x H locs ls fo hw hW hS (lv_sub hl [1, 0] rfl)
set_option maxHeartbeats 4000000 in
set_option maxRecDepth 100000 in
theorem k_Qry_checkItems (l : Launch) (dC : Nat → ClassId) (dI : Nat → Nat → Nat) (cI cB cJ cZ : ClassId) (ad : Nat → Nat) (NN : Nat) (E : Heap) (tM tC : Nat) (kK kV : Nat → Nat) (hNN : 152 ≤ NN) (sz : Nat) (o : Nat) (x : St) (fo : o < NN ∧ kcC o = 9) {post : St → Prop} (hw : wp_Qry_checkItems post o x) : Met l y_Qry_checkItems (wsOf y_Qry_checkItems b_Qry_checkItems 2 (none)) ({ frames := 1, cells := 0, slots := 0, locals := 22 }) (va_Pc [.ref (ad o)] (PVc dC dI cI cB cJ cZ ad stC kcC NN E tM tC kK kV sz x)) (va_Qv (fun (y : St) => post y) (fun y t => Wd dC dI cI cB cJ cZ ad stC kcC NN (va_A (pic ad stC kcC NN cI cB cJ cZ x) sz) y t.heap) (va_A (pic ad stC kcC NN cI cB cJ cZ x) sz)) 0 0 (va_A (pic ad stC kcC NN cI cB cJ cZ x) sz) := by
  refine Met.ofW (cc := b_Qry_checkItems) (maxL := 2) (ret := none) (by decide) rfl ?_
  intro p e s m args below meth c s₁ B hml hv
  obtain ⟨rfl, ⟨hsz, hW0, hK, hN⟩, hE⟩ := hv
  have hx := B.exec
  have hb := B.bytes
  have hr := B.returns
  have hts := atoms_spec B.pre
  have hT : ∀ w ∈ TG, w.before _ s = true := fun w h => hts w (List.mem_cons_of_mem _ h)
  have hown : s.vm.findClass R_Qry = some m.cls := findClass_of_methodNamed B.named
  have hlocks := B.notSynchronized
  subst hsz
  have hW : Wd dC dI cI cB cJ cZ ad stC kcC NN (va_A (pic ad stC kcC NN cI cB cJ cZ x) s.heap.size) x s.heap := ⟨hW0.1, hW0.2.1.self (sz := s.heap.size), hW0.2.2⟩
  generalize hAe : va_A (pic ad stC kcC NN cI cB cJ cZ x) s.heap.size = A at hW hE ⊢
  have hA : ∀ q : Nat, s.heap.size ≤ q → A q := fun q h => by rw [← hAe]; exact Or.inr h
  have hS : va_S A s.heap s.heap [] := va_S.rf
  have hl := lv_entry ([.ref (ad o)]) (n := 2) (Nat.le_of_ble_eq_true rfl)
  rw [lg_entry_eq]
  generalize (lg_sl ([.ref (ad o)]) ++ List.replicate (2 - (lg_sl ([.ref (ad o)])).length) Slot.unset).toArray = ls at hl ⊢
  have hl : lv_has ls 2 [(0, .ref (ad o))] := hl
  exact t_Qry_checkItems_e hx hb hml hown hT hK hN hA (Nat.le_refl 0) (Nat.le_refl 0) (Nat.le_refl 1) (Nat.le_refl 22) hNN hE (fun x H locs pc ls hd hp hW hS => W.vret hx hb hr (fun t ht hM => ⟨⟨x, rfl, hp, Wd.back hW ht.symm (fun _ z => z)⟩, hS.F ht⟩) hS.2.2 hd hlocks)  o x _ _ ls fo hw hW hS hl
set_option maxRecDepth 100000 in
set_option maxHeartbeats 4000000 in
set_option maxRecDepth 100000 in
theorem t_Qry_readText_176 {p : Program} {l : Launch} {e : Env} {R : Room} {s : State} {m : MethodId} {args : Array Value} {below : List Frame} {meth : Method} {c : Code} {cells slots : Nat} {Q : State → Prop} {dC : Nat → ClassId} {dI : Nat → Nat → Nat} {cI cB cJ cZ : ClassId} {A : Nat → Prop} {ad : Nat → Nat} {NN : Nat} {E : Heap} {tM tC : Nat} {kK kV : Nat → Nat} {post : Int32 → St → Prop} (hx : p.tables.exec = Jvm.exec) (hb : c.code = b_Qry_readText) (hml : c.maxLocals = 3) (hown : s.vm.findClass R_Qry = some m.cls) (hT : ∀ w ∈ TG, w.before args s = true) (hK : va_K (dC, dI) CL (TY cI cB cJ cZ) s) (hN : NW s) (hA : ∀ q : Nat, s.heap.size ≤ q → A q) (hRc : cells ≤ R.cells) (hRs : slots ≤ R.slots) (hRf : 210 ≤ R.frames) (hRl : 5539 ≤ R.locals) (hNN : 152 ≤ NN) (hE : CE E tM tC kK kV A s) (hret : ∀ (r : Int32) (x : St) (H : Heap) (locs : List Loc) (pc : Nat) (ls : Array Slot), decode b_Qry_readText pc = .ok (.ireturn, 1) → post r x → Wd dC dI cI cB cJ cZ ad stC kcC NN A x H → va_S A s.heap H locs → W p l e R s m args below meth c H locs cells slots Q (F0 m pc ls [.int r]))  : ∀ (o : Nat) (l1 : Nat) (l2 : Nat) (x : St) (H : Heap) (locs : List Loc) (ls : Array Slot), (o < NN ∧ kcC o = 9) → (l1 < NN ∧ kcC l1 = 2) → (l2 < NN ∧ kcC l2 = 3) → j_Qry_readText_176 post o l1 l2 x → Wd dC dI cI cB cJ cZ ad stC kcC NN A x H → va_S A s.heap H locs → lv_has ls 3 [(0, .ref (ad o)), (1, .ref (ad l1)), (2, .ref (ad l2))] → W p l e R s m args below meth c H locs cells slots Q (F0 m 176 ls []) := by
  intro o l1 l2 x H locs ls fo fl1 fl2 hw hW hS hl
  unfold j_Qry_readText_176 at hw
  refine lv_aload_n hx hb d_Qry_readText_176 rfl (lv_at hl 0 rfl) ?_
  obtain ⟨q1, hq1, hw⟩ := hw
  refine w_getr (q := q1) (k := 17) (t := 9) (C := R_Qry) (T := F_Qry) (N := 20) hx hb hT hown hK hW fo.1 fo.2 (by decide) in_Qry rfl rfl (by decide) rfl fr_Qry_17 w_3_105 d_Qry_readText_177 hq1 (fun aq1 bq1 => ?_)
  have fq1 : q1 < NN ∧ kcC q1 = 2 := ⟨aq1, bq1⟩
  refine w_geti (k := 3) (t := 2) (C := R_Scn) (T := F_Scn) (N := 8) hx hb hT hown hK hW fq1.1 fq1.2 (by decide) in_Scn rfl rfl (by decide) rfl fr_Scn_3 w_1_90 d_Qry_readText_180 ?_
  exact hret (fI x q1 3) x H locs 183 ls d_Qry_readText_183 hw hW hS
set_option maxRecDepth 100000 in
set_option maxHeartbeats 4000000 in
set_option maxRecDepth 100000 in
theorem t_Qry_readText_155 {p : Program} {l : Launch} {e : Env} {R : Room} {s : State} {m : MethodId} {args : Array Value} {below : List Frame} {meth : Method} {c : Code} {cells slots : Nat} {Q : State → Prop} {dC : Nat → ClassId} {dI : Nat → Nat → Nat} {cI cB cJ cZ : ClassId} {A : Nat → Prop} {ad : Nat → Nat} {NN : Nat} {E : Heap} {tM tC : Nat} {kK kV : Nat → Nat} {post : Int32 → St → Prop} (hx : p.tables.exec = Jvm.exec) (hb : c.code = b_Qry_readText) (hml : c.maxLocals = 3) (hown : s.vm.findClass R_Qry = some m.cls) (hT : ∀ w ∈ TG, w.before args s = true) (hK : va_K (dC, dI) CL (TY cI cB cJ cZ) s) (hN : NW s) (hA : ∀ q : Nat, s.heap.size ≤ q → A q) (hRc : cells ≤ R.cells) (hRs : slots ≤ R.slots) (hRf : 210 ≤ R.frames) (hRl : 5539 ≤ R.locals) (hNN : 152 ≤ NN) (hE : CE E tM tC kK kV A s) (hret : ∀ (r : Int32) (x : St) (H : Heap) (locs : List Loc) (pc : Nat) (ls : Array Slot), decode b_Qry_readText pc = .ok (.ireturn, 1) → post r x → Wd dC dI cI cB cJ cZ ad stC kcC NN A x H → va_S A s.heap H locs → W p l e R s m args below meth c H locs cells slots Q (F0 m pc ls [.int r]))  : ∀ (o : Nat) (l1 : Nat) (l2 : Nat) (x : St) (H : Heap) (locs : List Loc) (ls : Array Slot), (o < NN ∧ kcC o = 9) → (l1 < NN ∧ kcC l1 = 2) → (l2 < NN ∧ kcC l2 = 3) → j_Qry_readText_155 post o l1 l2 x → Wd dC dI cI cB cJ cZ ad stC kcC NN A x H → va_S A s.heap H locs → lv_has ls 3 [(0, .ref (ad o)), (1, .ref (ad l1)), (2, .ref (ad l2))] → W p l e R s m args below meth c H locs cells slots Q (F0 m 155 ls []) := by
  intro o l1 l2 x H locs ls fo fl1 fl2 hw hW hS hl
  unfold j_Qry_readText_155 at hw
  refine lv_aload_n hx hb d_Qry_readText_155 rfl (lv_at hl 0 rfl) ?_
  obtain ⟨q2, hq2, hw⟩ := hw
  refine w_getr (q := q2) (k := 17) (t := 9) (C := R_Qry) (T := F_Qry) (N := 20) hx hb hT hown hK hW fo.1 fo.2 (by decide) in_Qry rfl rfl (by decide) rfl fr_Qry_17 w_3_105 d_Qry_readText_156 hq2 (fun aq2 bq2 => ?_)
  have fq2 : q2 < NN ∧ kcC q2 = 2 := ⟨aq2, bq2⟩
  have hF := hW.free hS hA
  refine va_calli (va_runV (C := R_Scn) (As := []) (rest := []) ⟨hx, hb, hml, hown, hT⟩ (k_Scn_good l dC dI cI cB cJ cZ ad NN E tM tC kK kV hNN H.size q2 x fq2 hw) ⟨callB_of 0 hT (gwt_in w_4_106) rfl rfl rfl (hT _ w_1_4) (hT _ w_7_147) (by decide +kernel) ⟨Nat.le_trans (Nat.le_of_ble_eq_true rfl) hRf, Nat.le_trans (Nat.le_of_ble_eq_true rfl) hRl⟩, hT _ w_4_104, hT _ w_4_105⟩ ⟨PVc.blind, va_recv hK hW.1 (ci := 2) (q0 := q2) rfl (pic_obj fq2.1 fq2.2 (by decide)), PVc.at _ hW hK hN hE hS hF⟩ rfl rfl hl.1 rfl (lv_room (Nat.le_of_ble_eq_true rfl)) d_Qry_readText_159 ⟨hRc, hRs⟩) hS (fun q _ h => hF q h) hF (fun r4 x3 t H locs ht hvm hw hB hz1 hk1 hS => ?_)
  have hW := Wd.back hB ht hF
  clear hB ht hF hz1 hk1 hvm
  refine lv_if_eq (tgt := 176) hx hb d_Qry_readText_162 (by decide) (fun c5 => ?_) (fun c5 => ?_)
  · have hw := hw.1 c5
    exact t_Qry_readText_176 hx hb hml hown hT hK hN hA hRc hRs hRf hRl hNN hE hret  o l1 l2 x3 H locs ls fo fl1 fl2 hw hW hS (lv_sub hl [0, 1, 2] rfl)
  · have hw := hw.2 c5
    refine lv_aload_n hx hb d_Qry_readText_165 rfl (lv_at hl 0 rfl) ?_
    refine w_geti (k := 7) (t := 9) (C := R_Qry) (T := F_Qry) (N := 20) hx hb hT hown hK hW fo.1 fo.2 (by decide) in_Qry rfl rfl (by decide) rfl fr_Qry_7 w_3_87 d_Qry_readText_166 ?_
    refine lv_if_eq (tgt := 176) hx hb d_Qry_readText_169 (by decide) (fun c6 => ?_) (fun c6 => ?_)
    · have hw := hw.1 c6
      exact t_Qry_readText_176 hx hb hml hown hT hK hN hA hRc hRs hRf hRl hNN hE hret  o l1 l2 x3 H locs ls fo fl1 fl2 hw hW hS (lv_sub hl [0, 1, 2] rfl)
    · have hw := hw.2 c6
      refine lv_aload_n hx hb d_Qry_readText_172 rfl (lv_at hl 0 rfl) ?_
      have hF := hW.free hS hA
      refine va_callv (va_runV (C := R_Qry) (As := []) (rest := []) ⟨hx, hb, hml, hown, hT⟩ (k_Qry_checkItems l dC dI cI cB cJ cZ ad NN E tM tC kK kV hNN H.size o x3 fo hw) ⟨callB_of 0 hT (gwt_in w_8_11) rfl rfl rfl (hT _ w_1_12) (hT _ w_8_8) (by decide +kernel) ⟨Nat.le_trans (Nat.le_of_ble_eq_true rfl) hRf, Nat.le_trans (Nat.le_of_ble_eq_true rfl) hRl⟩, hT _ w_8_10, hT _ ws_85⟩ ⟨PVc.blind, va_recv hK hW.1 (ci := 9) (q0 := o) rfl (pic_obj fo.1 fo.2 (by decide)), PVc.at _ hW hK hN hE hS hF⟩ rfl rfl hl.1 rfl (lv_room (Nat.le_of_ble_eq_true rfl)) d_Qry_readText_173 ⟨hRc, hRs⟩) hS (fun q _ h => hF q h) hF (fun  x7 t H locs ht hvm hw hB hz1 hk1 hS => ?_)
      have hW := Wd.back hB ht hF
      clear hB ht hF hz1 hk1 hvm
      exact t_Qry_readText_176 hx hb hml hown hT hK hN hA hRc hRs hRf hRl hNN hE hret  o l1 l2 x7 H locs ls fo fl1 fl2 hw hW hS (lv_sub hl [0, 1, 2] rfl)
set_option maxRecDepth 100000 in
set_option maxHeartbeats 4000000 in
set_option maxRecDepth 100000 in
theorem t_Qry_readText_120 {p : Program} {l : Launch} {e : Env} {R : Room} {s : State} {m : MethodId} {args : Array Value} {below : List Frame} {meth : Method} {c : Code} {cells slots : Nat} {Q : State → Prop} {dC : Nat → ClassId} {dI : Nat → Nat → Nat} {cI cB cJ cZ : ClassId} {A : Nat → Prop} {ad : Nat → Nat} {NN : Nat} {E : Heap} {tM tC : Nat} {kK kV : Nat → Nat} {post : Int32 → St → Prop} (hx : p.tables.exec = Jvm.exec) (hb : c.code = b_Qry_readText) (hml : c.maxLocals = 3) (hown : s.vm.findClass R_Qry = some m.cls) (hT : ∀ w ∈ TG, w.before args s = true) (hK : va_K (dC, dI) CL (TY cI cB cJ cZ) s) (hN : NW s) (hA : ∀ q : Nat, s.heap.size ≤ q → A q) (hRc : cells ≤ R.cells) (hRs : slots ≤ R.slots) (hRf : 210 ≤ R.frames) (hRl : 5539 ≤ R.locals) (hNN : 152 ≤ NN) (hE : CE E tM tC kK kV A s) (hret : ∀ (r : Int32) (x : St) (H : Heap) (locs : List Loc) (pc : Nat) (ls : Array Slot), decode b_Qry_readText pc = .ok (.ireturn, 1) → post r x → Wd dC dI cI cB cJ cZ ad stC kcC NN A x H → va_S A s.heap H locs → W p l e R s m args below meth c H locs cells slots Q (F0 m pc ls [.int r]))  : ∀ (o : Nat) (l1 : Nat) (l2 : Nat) (x : St) (H : Heap) (locs : List Loc) (ls : Array Slot), (o < NN ∧ kcC o = 9) → (l1 < NN ∧ kcC l1 = 2) → (l2 < NN ∧ kcC l2 = 3) → j_Qry_readText_120 post o l1 l2 x → Wd dC dI cI cB cJ cZ ad stC kcC NN A x H → va_S A s.heap H locs → lv_has ls 3 [(0, .ref (ad o)), (1, .ref (ad l1)), (2, .ref (ad l2))] → W p l e R s m args below meth c H locs cells slots Q (F0 m 120 ls []) := by
  intro o l1 l2 x H locs ls fo fl1 fl2 hw hW hS hl
  unfold j_Qry_readText_120 at hw
  refine lv_aload_n hx hb d_Qry_readText_120 rfl (lv_at hl 0 rfl) ?_
  obtain ⟨q8, hq8, hw⟩ := hw
  refine w_getr (q := q8) (k := 17) (t := 9) (C := R_Qry) (T := F_Qry) (N := 20) hx hb hT hown hK hW fo.1 fo.2 (by decide) in_Qry rfl rfl (by decide) rfl fr_Qry_17 w_3_105 d_Qry_readText_121 hq8 (fun aq8 bq8 => ?_)
  have fq8 : q8 < NN ∧ kcC q8 = 2 := ⟨aq8, bq8⟩
  have hF := hW.free hS hA
  refine va_calli (va_runV (C := R_Scn) (As := []) (rest := []) ⟨hx, hb, hml, hown, hT⟩ (k_Scn_good l dC dI cI cB cJ cZ ad NN E tM tC kK kV hNN H.size q8 x fq8 hw) ⟨callB_of 0 hT (gwt_in w_4_106) rfl rfl rfl (hT _ w_1_4) (hT _ w_7_147) (by decide +kernel) ⟨Nat.le_trans (Nat.le_of_ble_eq_true rfl) hRf, Nat.le_trans (Nat.le_of_ble_eq_true rfl) hRl⟩, hT _ w_4_104, hT _ w_4_105⟩ ⟨PVc.blind, va_recv hK hW.1 (ci := 2) (q0 := q8) rfl (pic_obj fq8.1 fq8.2 (by decide)), PVc.at _ hW hK hN hE hS hF⟩ rfl rfl hl.1 rfl (lv_room (Nat.le_of_ble_eq_true rfl)) d_Qry_readText_124 ⟨hRc, hRs⟩) hS (fun q _ h => hF q h) hF (fun r10 x9 t H locs ht hvm hw hB hz1 hk1 hS => ?_)
  have hW := Wd.back hB ht hF
  clear hB ht hF hz1 hk1 hvm
  refine lv_if_eq (tgt := 155) hx hb d_Qry_readText_127 (by decide) (fun c11 => ?_) (fun c11 => ?_)
  · have hw := hw.1 c11
    exact t_Qry_readText_155 hx hb hml hown hT hK hN hA hRc hRs hRf hRl hNN hE hret  o l1 l2 x9 H locs ls fo fl1 fl2 hw hW hS (lv_sub hl [0, 1, 2] rfl)
  · have hw := hw.2 c11
    refine lv_aload_n hx hb d_Qry_readText_130 rfl (lv_at hl 0 rfl) ?_
    obtain ⟨q12, hq12, hw⟩ := hw
    refine w_getr (q := q12) (k := 17) (t := 9) (C := R_Qry) (T := F_Qry) (N := 20) hx hb hT hown hK hW fo.1 fo.2 (by decide) in_Qry rfl rfl (by decide) rfl fr_Qry_17 w_3_105 d_Qry_readText_131 hq12 (fun aq12 bq12 => ?_)
    have fq12 : q12 < NN ∧ kcC q12 = 2 := ⟨aq12, bq12⟩
    have hF := hW.free hS hA
    refine va_calli (va_runV (C := R_Scn) (As := []) (rest := []) ⟨hx, hb, hml, hown, hT⟩ (k_Scn_next l dC dI cI cB cJ cZ ad NN E tM tC kK kV hNN H.size q12 x9 fq12 hw) ⟨callB_of 0 hT (gwt_in w_4_110) rfl rfl rfl (hT _ w_1_4) (hT _ w_7_148) (by decide +kernel) ⟨Nat.le_trans (Nat.le_of_ble_eq_true rfl) hRf, Nat.le_trans (Nat.le_of_ble_eq_true rfl) hRl⟩, hT _ w_4_108, hT _ w_4_109⟩ ⟨PVc.blind, va_recv hK hW.1 (ci := 2) (q0 := q12) rfl (pic_obj fq12.1 fq12.2 (by decide)), PVc.at _ hW hK hN hE hS hF⟩ rfl rfl hl.1 rfl (lv_room (Nat.le_of_ble_eq_true rfl)) d_Qry_readText_134 ⟨hRc, hRs⟩) hS (fun q _ h => hF q h) hF (fun r14 x13 t H locs ht hvm hw hB hz1 hk1 hS => ?_)
    have hW := Wd.back hB ht hF
    clear hB ht hF hz1 hk1 hvm
    refine lv_iconst (v := (-1)) hx hb d_Qry_readText_137 (by decide) ?_
    refine lv_icmp_eq (tgt := 155) hx hb d_Qry_readText_138 (by decide) (fun c15 => ?_) (fun c15 => ?_)
    · have hw := hw.1 c15
      exact t_Qry_readText_155 hx hb hml hown hT hK hN hA hRc hRs hRf hRl hNN hE hret  o l1 l2 x13 H locs ls fo fl1 fl2 hw hW hS (lv_sub hl [0, 1, 2] rfl)
    · have hw := hw.2 c15
      refine lv_aload_n hx hb d_Qry_readText_141 rfl (lv_at hl 0 rfl) ?_
      obtain ⟨q16, hq16, hw⟩ := hw
      refine w_getr (q := q16) (k := 17) (t := 9) (C := R_Qry) (T := F_Qry) (N := 20) hx hb hT hown hK hW fo.1 fo.2 (by decide) in_Qry rfl rfl (by decide) rfl fr_Qry_17 w_3_105 d_Qry_readText_142 hq16 (fun aq16 bq16 => ?_)
      have fq16 : q16 < NN ∧ kcC q16 = 2 := ⟨aq16, bq16⟩
      refine lv_aload_n hx hb d_Qry_readText_145 rfl (lv_at hl 0 rfl) ?_
      obtain ⟨q17, hq17, hw⟩ := hw
      refine w_getr (q := q17) (k := 17) (t := 9) (C := R_Qry) (T := F_Qry) (N := 20) hx hb hT hown hK hW fo.1 fo.2 (by decide) in_Qry rfl rfl (by decide) rfl fr_Qry_17 w_3_105 d_Qry_readText_146 hq17 (fun aq17 bq17 => ?_)
      have fq17 : q17 < NN ∧ kcC q17 = 2 := ⟨aq17, bq17⟩
      refine w_geti (k := 2) (t := 2) (C := R_Scn) (T := F_Scn) (N := 8) hx hb hT hown hK hW fq17.1 fq17.2 (by decide) in_Scn rfl rfl (by decide) rfl fr_Scn_2 w_1_86 d_Qry_readText_149 ?_
      have hF := hW.free hS hA
      refine va_callv (va_runV (C := R_Scn) (As := [.int (fI x13 q17 2)]) (rest := []) ⟨hx, hb, hml, hown, hT⟩ (k_Scn_refuse l dC dI cI cB cJ cZ ad NN E tM tC kK kV hNN H.size q16 (fI x13 q17 2) x13 fq16 hw) ⟨callB_of 1 hT (gwt_in w_4_128) rfl rfl rfl (hT _ w_1_4) (hT _ w_7_149) (by decide +kernel) ⟨Nat.le_trans (Nat.le_of_ble_eq_true rfl) hRf, Nat.le_trans (Nat.le_of_ble_eq_true rfl) hRl⟩, hT _ w_4_126, hT _ w_4_127⟩ ⟨PVc.blind, va_recv hK hW.1 (ci := 2) (q0 := q16) rfl (pic_obj fq16.1 fq16.2 (by decide)), PVc.at _ hW hK hN hE hS hF⟩ rfl rfl hl.1 rfl (lv_room (Nat.le_of_ble_eq_true rfl)) d_Qry_readText_152 ⟨hRc, hRs⟩) hS (fun q _ h => hF q h) hF (fun  x18 t H locs ht hvm hw hB hz1 hk1 hS => ?_)
      have hW := Wd.back hB ht hF
      clear hB ht hF hz1 hk1 hvm
      exact t_Qry_readText_155 hx hb hml hown hT hK hN hA hRc hRs hRf hRl hNN hE hret  o l1 l2 x18 H locs ls fo fl1 fl2 hw hW hS (lv_sub hl [0, 1, 2] rfl)
set_option maxRecDepth 100000 in
set_option maxHeartbeats 4000000 in
set_option maxRecDepth 100000 in
theorem t_Qry_readText_85 {p : Program} {l : Launch} {e : Env} {R : Room} {s : State} {m : MethodId} {args : Array Value} {below : List Frame} {meth : Method} {c : Code} {cells slots : Nat} {Q : State → Prop} {dC : Nat → ClassId} {dI : Nat → Nat → Nat} {cI cB cJ cZ : ClassId} {A : Nat → Prop} {ad : Nat → Nat} {NN : Nat} {E : Heap} {tM tC : Nat} {kK kV : Nat → Nat} {post : Int32 → St → Prop} (hx : p.tables.exec = Jvm.exec) (hb : c.code = b_Qry_readText) (hml : c.maxLocals = 3) (hown : s.vm.findClass R_Qry = some m.cls) (hT : ∀ w ∈ TG, w.before args s = true) (hK : va_K (dC, dI) CL (TY cI cB cJ cZ) s) (hN : NW s) (hA : ∀ q : Nat, s.heap.size ≤ q → A q) (hRc : cells ≤ R.cells) (hRs : slots ≤ R.slots) (hRf : 210 ≤ R.frames) (hRl : 5539 ≤ R.locals) (hNN : 152 ≤ NN) (hE : CE E tM tC kK kV A s) (hret : ∀ (r : Int32) (x : St) (H : Heap) (locs : List Loc) (pc : Nat) (ls : Array Slot), decode b_Qry_readText pc = .ok (.ireturn, 1) → post r x → Wd dC dI cI cB cJ cZ ad stC kcC NN A x H → va_S A s.heap H locs → W p l e R s m args below meth c H locs cells slots Q (F0 m pc ls [.int r]))  : ∀ (o : Nat) (l1 : Nat) (l2 : Nat) (x : St) (H : Heap) (locs : List Loc) (ls : Array Slot), (o < NN ∧ kcC o = 9) → (l1 < NN ∧ kcC l1 = 2) → (l2 < NN ∧ kcC l2 = 3) → j_Qry_readText_85 post o l1 l2 x → Wd dC dI cI cB cJ cZ ad stC kcC NN A x H → va_S A s.heap H locs → lv_has ls 3 [(0, .ref (ad o)), (1, .ref (ad l1)), (2, .ref (ad l2))] → W p l e R s m args below meth c H locs cells slots Q (F0 m 85 ls []) := by
  intro o l1 l2 x H locs ls fo fl1 fl2 hw hW hS hl
  unfold j_Qry_readText_85 at hw
  refine lv_aload_n hx hb d_Qry_readText_85 rfl (lv_at hl 0 rfl) ?_
  obtain ⟨q19, hq19, hw⟩ := hw
  refine w_getr (q := q19) (k := 17) (t := 9) (C := R_Qry) (T := F_Qry) (N := 20) hx hb hT hown hK hW fo.1 fo.2 (by decide) in_Qry rfl rfl (by decide) rfl fr_Qry_17 w_3_105 d_Qry_readText_86 hq19 (fun aq19 bq19 => ?_)
  have fq19 : q19 < NN ∧ kcC q19 = 2 := ⟨aq19, bq19⟩
  have hF := hW.free hS hA
  refine va_calli (va_runV (C := R_Scn) (As := []) (rest := []) ⟨hx, hb, hml, hown, hT⟩ (k_Scn_good l dC dI cI cB cJ cZ ad NN E tM tC kK kV hNN H.size q19 x fq19 hw) ⟨callB_of 0 hT (gwt_in w_4_106) rfl rfl rfl (hT _ w_1_4) (hT _ w_7_147) (by decide +kernel) ⟨Nat.le_trans (Nat.le_of_ble_eq_true rfl) hRf, Nat.le_trans (Nat.le_of_ble_eq_true rfl) hRl⟩, hT _ w_4_104, hT _ w_4_105⟩ ⟨PVc.blind, va_recv hK hW.1 (ci := 2) (q0 := q19) rfl (pic_obj fq19.1 fq19.2 (by decide)), PVc.at _ hW hK hN hE hS hF⟩ rfl rfl hl.1 rfl (lv_room (Nat.le_of_ble_eq_true rfl)) d_Qry_readText_89 ⟨hRc, hRs⟩) hS (fun q _ h => hF q h) hF (fun r21 x20 t H locs ht hvm hw hB hz1 hk1 hS => ?_)
  have hW := Wd.back hB ht hF
  clear hB ht hF hz1 hk1 hvm
  refine lv_if_eq (tgt := 120) hx hb d_Qry_readText_92 (by decide) (fun c22 => ?_) (fun c22 => ?_)
  · have hw := hw.1 c22
    exact t_Qry_readText_120 hx hb hml hown hT hK hN hA hRc hRs hRf hRl hNN hE hret  o l1 l2 x20 H locs ls fo fl1 fl2 hw hW hS (lv_sub hl [0, 1, 2] rfl)
  · have hw := hw.2 c22
    refine lv_aload_n hx hb d_Qry_readText_95 rfl (lv_at hl 0 rfl) ?_
    obtain ⟨q23, hq23, hw⟩ := hw
    refine w_getr (q := q23) (k := 17) (t := 9) (C := R_Qry) (T := F_Qry) (N := 20) hx hb hT hown hK hW fo.1 fo.2 (by decide) in_Qry rfl rfl (by decide) rfl fr_Qry_17 w_3_105 d_Qry_readText_96 hq23 (fun aq23 bq23 => ?_)
    have fq23 : q23 < NN ∧ kcC q23 = 2 := ⟨aq23, bq23⟩
    refine va_ldcS hx hb hown (hE.str 19 (by decide)) d_Qry_readText_99 ?_
    have hF := hW.free hS hA
    refine va_calli (va_runV (C := R_Scn) (As := [.ref (kK 7)]) (rest := []) ⟨hx, hb, hml, hown, hT⟩ (k_Scn_takeWord l dC dI cI cB cJ cZ ad NN E tM tC kK kV hNN H.size q23 7 x20 fq23 (by decide) hw) ⟨callB_of 1 hT (gwt_in w_4_141) rfl rfl rfl (hT _ w_1_4) (hT _ w_7_159) (by decide +kernel) ⟨Nat.le_trans (Nat.le_of_ble_eq_true rfl) hRf, Nat.le_trans (Nat.le_of_ble_eq_true rfl) hRl⟩, hT _ w_4_139, hT _ w_4_140⟩ ⟨PVc.blind, va_recv hK hW.1 (ci := 2) (q0 := q23) rfl (pic_obj fq23.1 fq23.2 (by decide)), PVc.at _ hW hK hN hE hS hF⟩ rfl rfl hl.1 rfl (lv_room (Nat.le_of_ble_eq_true rfl)) d_Qry_readText_101 ⟨hRc, hRs⟩) hS (fun q _ h => hF q h) hF (fun r25 x24 t H locs ht hvm hw hB hz1 hk1 hS => ?_)
    have hW := Wd.back hB ht hF
    clear hB ht hF hz1 hk1 hvm
    refine lv_if_eq (tgt := 120) hx hb d_Qry_readText_104 (by decide) (fun c26 => ?_) (fun c26 => ?_)
    · have hw := hw.1 c26
      exact t_Qry_readText_120 hx hb hml hown hT hK hN hA hRc hRs hRf hRl hNN hE hret  o l1 l2 x24 H locs ls fo fl1 fl2 hw hW hS (lv_sub hl [0, 1, 2] rfl)
    · have hw := hw.2 c26
      refine lv_aload_n hx hb d_Qry_readText_107 rfl (lv_at hl 0 rfl) ?_
      obtain ⟨q27, hq27, hw⟩ := hw
      refine w_getr (q := q27) (k := 17) (t := 9) (C := R_Qry) (T := F_Qry) (N := 20) hx hb hT hown hK hW fo.1 fo.2 (by decide) in_Qry rfl rfl (by decide) rfl fr_Qry_17 w_3_105 d_Qry_readText_108 hq27 (fun aq27 bq27 => ?_)
      have fq27 : q27 < NN ∧ kcC q27 = 2 := ⟨aq27, bq27⟩
      refine va_ldcS hx hb hown (hE.str 20 (by decide)) d_Qry_readText_111 ?_
      have hF := hW.free hS hA
      refine va_callv (va_runV (C := R_Scn) (As := [.ref (kK 17)]) (rest := []) ⟨hx, hb, hml, hown, hT⟩ (k_Scn_needWord l dC dI cI cB cJ cZ ad NN E tM tC kK kV hNN H.size q27 17 x24 fq27 (by decide) hw) ⟨callB_of 1 hT (gwt_in w_4_209) rfl rfl rfl (hT _ w_1_4) (hT _ w_7_142) (by decide +kernel) ⟨Nat.le_trans (Nat.le_of_ble_eq_true rfl) hRf, Nat.le_trans (Nat.le_of_ble_eq_true rfl) hRl⟩, hT _ w_4_207, hT _ w_4_208⟩ ⟨PVc.blind, va_recv hK hW.1 (ci := 2) (q0 := q27) rfl (pic_obj fq27.1 fq27.2 (by decide)), PVc.at _ hW hK hN hE hS hF⟩ rfl rfl hl.1 rfl (lv_room (Nat.le_of_ble_eq_true rfl)) d_Qry_readText_113 ⟨hRc, hRs⟩) hS (fun q _ h => hF q h) hF (fun  x28 t H locs ht hvm hw hB hz1 hk1 hS => ?_)
      have hW := Wd.back hB ht hF
      clear hB ht hF hz1 hk1 hvm
      refine lv_aload_n hx hb d_Qry_readText_116 rfl (lv_at hl 0 rfl) ?_
      have hF := hW.free hS hA
      refine va_callv (va_runV (C := R_Qry) (As := []) (rest := []) ⟨hx, hb, hml, hown, hT⟩ (k_Qry_readBys l dC dI cI cB cJ cZ ad NN E tM tC kK kV hNN H.size o x28 fo hw) ⟨callB_of 0 hT (gwt_in w_8_3) rfl rfl rfl (hT _ w_1_12) (hT _ w_8_0) (by decide +kernel) ⟨Nat.le_trans (Nat.le_of_ble_eq_true rfl) hRf, Nat.le_trans (Nat.le_of_ble_eq_true rfl) hRl⟩, hT _ w_8_2, hT _ ws_83⟩ ⟨PVc.blind, va_recv hK hW.1 (ci := 9) (q0 := o) rfl (pic_obj fo.1 fo.2 (by decide)), PVc.at _ hW hK hN hE hS hF⟩ rfl rfl hl.1 rfl (lv_room (Nat.le_of_ble_eq_true rfl)) d_Qry_readText_117 ⟨hRc, hRs⟩) hS (fun q _ h => hF q h) hF (fun  x29 t H locs ht hvm hw hB hz1 hk1 hS => ?_)
      have hW := Wd.back hB ht hF
      clear hB ht hF hz1 hk1 hvm
      exact t_Qry_readText_120 hx hb hml hown hT hK hN hA hRc hRs hRf hRl hNN hE hret  o l1 l2 x29 H locs ls fo fl1 fl2 hw hW hS (lv_sub hl [0, 1, 2] rfl)
set_option maxRecDepth 100000 in
set_option maxHeartbeats 4000000 in
set_option maxRecDepth 100000 in
theorem t_Qry_readText_e {p : Program} {l : Launch} {e : Env} {R : Room} {s : State} {m : MethodId} {args : Array Value} {below : List Frame} {meth : Method} {c : Code} {cells slots : Nat} {Q : State → Prop} {dC : Nat → ClassId} {dI : Nat → Nat → Nat} {cI cB cJ cZ : ClassId} {A : Nat → Prop} {ad : Nat → Nat} {NN : Nat} {E : Heap} {tM tC : Nat} {kK kV : Nat → Nat} {post : Int32 → St → Prop} (hx : p.tables.exec = Jvm.exec) (hb : c.code = b_Qry_readText) (hml : c.maxLocals = 3) (hown : s.vm.findClass R_Qry = some m.cls) (hT : ∀ w ∈ TG, w.before args s = true) (hK : va_K (dC, dI) CL (TY cI cB cJ cZ) s) (hN : NW s) (hA : ∀ q : Nat, s.heap.size ≤ q → A q) (hRc : cells ≤ R.cells) (hRs : slots ≤ R.slots) (hRf : 210 ≤ R.frames) (hRl : 5539 ≤ R.locals) (hNN : 152 ≤ NN) (hE : CE E tM tC kK kV A s) (hret : ∀ (r : Int32) (x : St) (H : Heap) (locs : List Loc) (pc : Nat) (ls : Array Slot), decode b_Qry_readText pc = .ok (.ireturn, 1) → post r x → Wd dC dI cI cB cJ cZ ad stC kcC NN A x H → va_S A s.heap H locs → W p l e R s m args below meth c H locs cells slots Q (F0 m pc ls [.int r])) : ∀ (o : Nat) (l1 : Nat) (l2 : Nat) (x : St) (H : Heap) (locs : List Loc) (ls : Array Slot), (o < NN ∧ kcC o = 9) → (l1 < NN ∧ kcC l1 = 2) → (l2 < NN ∧ kcC l2 = 3) → wp_Qry_readText post o l1 l2 x → Wd dC dI cI cB cJ cZ ad stC kcC NN A x H → va_S A s.heap H locs → lv_has ls 3 [(0, .ref (ad o)), (1, .ref (ad l1)), (2, .ref (ad l2))] → W p l e R s m args below meth c H locs cells slots Q (F0 m 0 ls []) := by
  intro o l1 l2 x H locs ls fo fl1 fl2 hw hW hS hl
  unfold wp_Qry_readText at hw
  refine lv_aload_n hx hb d_Qry_readText_0 rfl (lv_at hl 0 rfl) ?_
  refine lv_aload_n hx hb d_Qry_readText_1 rfl (lv_at hl 1 rfl) ?_
  refine w_putr (q := l1) (ty := .object "StripedVault$Scan") (k := 17) (t := 9) (C := R_Qry) (T := F_Qry) (N := 20) hx hb hT hown hK hW hS fo.1 fo.2 (by decide) in_Qry t_Qry t_Qry_ok n_Qry rfl rfl (by decide) rfl fr_Qry_17 w_3_105 (by decide +kernel) rfl rfl fl1.1 fl1.2 d_Qry_readText_2 (fun H locs hW hS => ?_)
  obtain ⟨x30, ex30⟩ : ∃ y : St, y = setR x o 17 (some l1) := ⟨_, rfl⟩
  rw [← ex30] at hW
  have hw := hw x30 ex30
  refine lv_aload_n hx hb d_Qry_readText_5 rfl (lv_at hl 0 rfl) ?_
  refine lv_aload_n hx hb d_Qry_readText_6 rfl (lv_at hl 2 rfl) ?_
  refine w_putr (q := l2) (ty := .object "StripedVault$Schema") (k := 18) (t := 9) (C := R_Qry) (T := F_Qry) (N := 20) hx hb hT hown hK hW hS fo.1 fo.2 (by decide) in_Qry t_Qry t_Qry_ok n_Qry rfl rfl (by decide) rfl fr_Qry_18 w_3_106 (by decide +kernel) rfl rfl fl2.1 fl2.2 d_Qry_readText_7 (fun H locs hW hS => ?_)
  obtain ⟨x31, ex31⟩ : ∃ y : St, y = setR x30 o 18 (some l2) := ⟨_, rfl⟩
  rw [← ex31] at hW
  have hw := hw x31 ex31
  refine lv_aload_n hx hb d_Qry_readText_10 rfl (lv_at hl 0 rfl) ?_
  refine lv_iconst (v := 0) hx hb d_Qry_readText_11 (by decide) ?_
  refine w_puti (ty := .boolean) (k := 0) (t := 9) (C := R_Qry) (T := F_Qry) (N := 20) hx hb hT hown hK hW hS fo.1 fo.2 (by decide) in_Qry t_Qry t_Qry_ok n_Qry rfl rfl (by decide) rfl fr_Qry_0 w_3_74 (by decide +kernel) rfl rfl d_Qry_readText_12 (fun H locs hW hS => ?_)
  obtain ⟨x32, ex32⟩ : ∃ y : St, y = setI x31 o 0 0 := ⟨_, rfl⟩
  rw [← ex32] at hW
  have hw := hw x32 ex32
  refine lv_aload_n hx hb d_Qry_readText_15 rfl (lv_at hl 0 rfl) ?_
  refine lv_iconst (v := 0) hx hb d_Qry_readText_16 (by decide) ?_
  refine w_puti (ty := .int) (k := 1) (t := 9) (C := R_Qry) (T := F_Qry) (N := 20) hx hb hT hown hK hW hS fo.1 fo.2 (by decide) in_Qry t_Qry t_Qry_ok n_Qry rfl rfl (by decide) rfl fr_Qry_1 w_3_76 (by decide +kernel) rfl rfl d_Qry_readText_17 (fun H locs hW hS => ?_)
  obtain ⟨x33, ex33⟩ : ∃ y : St, y = setI x32 o 1 0 := ⟨_, rfl⟩
  rw [← ex33] at hW
  have hw := hw x33 ex33
  refine lv_aload_n hx hb d_Qry_readText_20 rfl (lv_at hl 0 rfl) ?_
  refine lv_iconst (v := 0) hx hb d_Qry_readText_21 (by decide) ?_
  refine w_puti (ty := .int) (k := 5) (t := 9) (C := R_Qry) (T := F_Qry) (N := 20) hx hb hT hown hK hW hS fo.1 fo.2 (by decide) in_Qry t_Qry t_Qry_ok n_Qry rfl rfl (by decide) rfl fr_Qry_5 w_3_83 (by decide +kernel) rfl rfl d_Qry_readText_22 (fun H locs hW hS => ?_)
  obtain ⟨x34, ex34⟩ : ∃ y : St, y = setI x33 o 5 0 := ⟨_, rfl⟩
  rw [← ex34] at hW
  have hw := hw x34 ex34
  refine lv_aload_n hx hb d_Qry_readText_25 rfl (lv_at hl 0 rfl) ?_
  refine lv_iconst (v := 0) hx hb d_Qry_readText_26 (by decide) ?_
  refine w_puti (ty := .boolean) (k := 7) (t := 9) (C := R_Qry) (T := F_Qry) (N := 20) hx hb hT hown hK hW hS fo.1 fo.2 (by decide) in_Qry t_Qry t_Qry_ok n_Qry rfl rfl (by decide) rfl fr_Qry_7 w_3_87 (by decide +kernel) rfl rfl d_Qry_readText_27 (fun H locs hW hS => ?_)
  obtain ⟨x35, ex35⟩ : ∃ y : St, y = setI x34 o 7 0 := ⟨_, rfl⟩
  rw [← ex35] at hW
  have hw := hw x35 ex35
  refine lv_aload_n hx hb d_Qry_readText_30 rfl (lv_at hl 0 rfl) ?_
  refine lv_iconst (v := 0) hx hb d_Qry_readText_31 (by decide) ?_
  refine w_puti (ty := .int) (k := 8) (t := 9) (C := R_Qry) (T := F_Qry) (N := 20) hx hb hT hown hK hW hS fo.1 fo.2 (by decide) in_Qry t_Qry t_Qry_ok n_Qry rfl rfl (by decide) rfl fr_Qry_8 w_3_89 (by decide +kernel) rfl rfl d_Qry_readText_32 (fun H locs hW hS => ?_)
  obtain ⟨x36, ex36⟩ : ∃ y : St, y = setI x35 o 8 0 := ⟨_, rfl⟩
  rw [← ex36] at hW
  have hw := hw x36 ex36
  refine lv_aload_n hx hb d_Qry_readText_35 rfl (lv_at hl 0 rfl) ?_
  refine lv_iconst (v := 0) hx hb d_Qry_readText_36 (by decide) ?_
  refine w_puti (ty := .int) (k := 13) (t := 9) (C := R_Qry) (T := F_Qry) (N := 20) hx hb hT hown hK hW hS fo.1 fo.2 (by decide) in_Qry t_Qry t_Qry_ok n_Qry rfl rfl (by decide) rfl fr_Qry_13 w_3_99 (by decide +kernel) rfl rfl d_Qry_readText_37 (fun H locs hW hS => ?_)
  obtain ⟨x37, ex37⟩ : ∃ y : St, y = setI x36 o 13 0 := ⟨_, rfl⟩
  rw [← ex37] at hW
  have hw := hw x37 ex37
  refine lv_aload_n hx hb d_Qry_readText_40 rfl (lv_at hl 0 rfl) ?_
  refine lv_iconst (v := 0) hx hb d_Qry_readText_41 (by decide) ?_
  refine w_puti (ty := .int) (k := 15) (t := 9) (C := R_Qry) (T := F_Qry) (N := 20) hx hb hT hown hK hW hS fo.1 fo.2 (by decide) in_Qry t_Qry t_Qry_ok n_Qry rfl rfl (by decide) rfl fr_Qry_15 w_3_102 (by decide +kernel) rfl rfl d_Qry_readText_42 (fun H locs hW hS => ?_)
  obtain ⟨x38, ex38⟩ : ∃ y : St, y = setI x37 o 15 0 := ⟨_, rfl⟩
  rw [← ex38] at hW
  have hw := hw x38 ex38
  refine lv_aload_n hx hb d_Qry_readText_45 rfl (lv_at hl 0 rfl) ?_
  obtain ⟨q39, hq39, hw⟩ := hw
  refine w_getr (q := q39) (k := 17) (t := 9) (C := R_Qry) (T := F_Qry) (N := 20) hx hb hT hown hK hW fo.1 fo.2 (by decide) in_Qry rfl rfl (by decide) rfl fr_Qry_17 w_3_105 d_Qry_readText_46 hq39 (fun aq39 bq39 => ?_)
  have fq39 : q39 < NN ∧ kcC q39 = 2 := ⟨aq39, bq39⟩
  refine va_ldcS hx hb hown (hE.str 13 (by decide)) d_Qry_readText_49 ?_
  have hF := hW.free hS hA
  refine va_callv (va_runV (C := R_Scn) (As := [.ref (kK 11)]) (rest := []) ⟨hx, hb, hml, hown, hT⟩ (k_Scn_needWord l dC dI cI cB cJ cZ ad NN E tM tC kK kV hNN H.size q39 11 x38 fq39 (by decide) hw) ⟨callB_of 1 hT (gwt_in w_4_209) rfl rfl rfl (hT _ w_1_4) (hT _ w_7_142) (by decide +kernel) ⟨Nat.le_trans (Nat.le_of_ble_eq_true rfl) hRf, Nat.le_trans (Nat.le_of_ble_eq_true rfl) hRl⟩, hT _ w_4_207, hT _ w_4_208⟩ ⟨PVc.blind, va_recv hK hW.1 (ci := 2) (q0 := q39) rfl (pic_obj fq39.1 fq39.2 (by decide)), PVc.at _ hW hK hN hE hS hF⟩ rfl rfl hl.1 rfl (lv_room (Nat.le_of_ble_eq_true rfl)) d_Qry_readText_51 ⟨hRc, hRs⟩) hS (fun q _ h => hF q h) hF (fun  x40 t H locs ht hvm hw hB hz1 hk1 hS => ?_)
  have hW := Wd.back hB ht hF
  clear hB ht hF hz1 hk1 hvm
  refine lv_aload_n hx hb d_Qry_readText_54 rfl (lv_at hl 0 rfl) ?_
  have hF := hW.free hS hA
  refine va_callv (va_runV (C := R_Qry) (As := []) (rest := []) ⟨hx, hb, hml, hown, hT⟩ (k_Qry_readItems l dC dI cI cB cJ cZ ad NN E tM tC kK kV hNN H.size o x40 fo hw) ⟨callB_of 0 hT (gwt_in w_7_146) rfl rfl rfl (hT _ w_1_12) (hT _ w_7_143) (by decide +kernel) ⟨Nat.le_trans (Nat.le_of_ble_eq_true rfl) hRf, Nat.le_trans (Nat.le_of_ble_eq_true rfl) hRl⟩, hT _ w_7_145, hT _ ws_68⟩ ⟨PVc.blind, va_recv hK hW.1 (ci := 9) (q0 := o) rfl (pic_obj fo.1 fo.2 (by decide)), PVc.at _ hW hK hN hE hS hF⟩ rfl rfl hl.1 rfl (lv_room (Nat.le_of_ble_eq_true rfl)) d_Qry_readText_55 ⟨hRc, hRs⟩) hS (fun q _ h => hF q h) hF (fun  x41 t H locs ht hvm hw hB hz1 hk1 hS => ?_)
  have hW := Wd.back hB ht hF
  clear hB ht hF hz1 hk1 hvm
  refine lv_aload_n hx hb d_Qry_readText_58 rfl (lv_at hl 0 rfl) ?_
  obtain ⟨q42, hq42, hw⟩ := hw
  refine w_getr (q := q42) (k := 17) (t := 9) (C := R_Qry) (T := F_Qry) (N := 20) hx hb hT hown hK hW fo.1 fo.2 (by decide) in_Qry rfl rfl (by decide) rfl fr_Qry_17 w_3_105 d_Qry_readText_59 hq42 (fun aq42 bq42 => ?_)
  have fq42 : q42 < NN ∧ kcC q42 = 2 := ⟨aq42, bq42⟩
  have hF := hW.free hS hA
  refine va_calli (va_runV (C := R_Scn) (As := []) (rest := []) ⟨hx, hb, hml, hown, hT⟩ (k_Scn_good l dC dI cI cB cJ cZ ad NN E tM tC kK kV hNN H.size q42 x41 fq42 hw) ⟨callB_of 0 hT (gwt_in w_4_106) rfl rfl rfl (hT _ w_1_4) (hT _ w_7_147) (by decide +kernel) ⟨Nat.le_trans (Nat.le_of_ble_eq_true rfl) hRf, Nat.le_trans (Nat.le_of_ble_eq_true rfl) hRl⟩, hT _ w_4_104, hT _ w_4_105⟩ ⟨PVc.blind, va_recv hK hW.1 (ci := 2) (q0 := q42) rfl (pic_obj fq42.1 fq42.2 (by decide)), PVc.at _ hW hK hN hE hS hF⟩ rfl rfl hl.1 rfl (lv_room (Nat.le_of_ble_eq_true rfl)) d_Qry_readText_62 ⟨hRc, hRs⟩) hS (fun q _ h => hF q h) hF (fun r44 x43 t H locs ht hvm hw hB hz1 hk1 hS => ?_)
  have hW := Wd.back hB ht hF
  clear hB ht hF hz1 hk1 hvm
  refine lv_if_eq (tgt := 85) hx hb d_Qry_readText_65 (by decide) (fun c45 => ?_) (fun c45 => ?_)
  · have hw := hw.1 c45
    exact t_Qry_readText_85 hx hb hml hown hT hK hN hA hRc hRs hRf hRl hNN hE hret  o l1 l2 x43 H locs ls fo fl1 fl2 hw hW hS (lv_sub hl [0, 1, 2] rfl)
  · have hw := hw.2 c45
    refine lv_aload_n hx hb d_Qry_readText_68 rfl (lv_at hl 0 rfl) ?_
    obtain ⟨q46, hq46, hw⟩ := hw
    refine w_getr (q := q46) (k := 17) (t := 9) (C := R_Qry) (T := F_Qry) (N := 20) hx hb hT hown hK hW fo.1 fo.2 (by decide) in_Qry rfl rfl (by decide) rfl fr_Qry_17 w_3_105 d_Qry_readText_69 hq46 (fun aq46 bq46 => ?_)
    have fq46 : q46 < NN ∧ kcC q46 = 2 := ⟨aq46, bq46⟩
    refine va_ldcS hx hb hown (hE.str 18 (by decide)) d_Qry_readText_72 ?_
    have hF := hW.free hS hA
    refine va_calli (va_runV (C := R_Scn) (As := [.ref (kK 16)]) (rest := []) ⟨hx, hb, hml, hown, hT⟩ (k_Scn_takeWord l dC dI cI cB cJ cZ ad NN E tM tC kK kV hNN H.size q46 16 x43 fq46 (by decide) hw) ⟨callB_of 1 hT (gwt_in w_4_141) rfl rfl rfl (hT _ w_1_4) (hT _ w_7_159) (by decide +kernel) ⟨Nat.le_trans (Nat.le_of_ble_eq_true rfl) hRf, Nat.le_trans (Nat.le_of_ble_eq_true rfl) hRl⟩, hT _ w_4_139, hT _ w_4_140⟩ ⟨PVc.blind, va_recv hK hW.1 (ci := 2) (q0 := q46) rfl (pic_obj fq46.1 fq46.2 (by decide)), PVc.at _ hW hK hN hE hS hF⟩ rfl rfl hl.1 rfl (lv_room (Nat.le_of_ble_eq_true rfl)) d_Qry_readText_74 ⟨hRc, hRs⟩) hS (fun q _ h => hF q h) hF (fun r48 x47 t H locs ht hvm hw hB hz1 hk1 hS => ?_)
    have hW := Wd.back hB ht hF
    clear hB ht hF hz1 hk1 hvm
    refine lv_if_eq (tgt := 85) hx hb d_Qry_readText_77 (by decide) (fun c49 => ?_) (fun c49 => ?_)
    · have hw := hw.1 c49
      exact t_Qry_readText_85 hx hb hml hown hT hK hN hA hRc hRs hRf hRl hNN hE hret  o l1 l2 x47 H locs ls fo fl1 fl2 hw hW hS (lv_sub hl [0, 1, 2] rfl)
    · have hw := hw.2 c49
      refine lv_aload_n hx hb d_Qry_readText_80 rfl (lv_at hl 0 rfl) ?_
      refine lv_iconst (v := 0) hx hb d_Qry_readText_81 (by decide) ?_
      have hF := hW.free hS hA
      refine va_callv (va_runV (C := R_Qry) (As := [.int 0]) (rest := []) ⟨hx, hb, hml, hown, hT⟩ (k_Qry_readCondition l dC dI cI cB cJ cZ ad NN E tM tC kK kV hNN H.size o 0 x47 fo hw) ⟨callB_of 1 hT (gwt_in w_7_203) rfl rfl rfl (hT _ w_1_12) (hT _ w_7_200) (by decide +kernel) ⟨Nat.le_trans (Nat.le_of_ble_eq_true rfl) hRf, Nat.le_trans (Nat.le_of_ble_eq_true rfl) hRl⟩, hT _ w_7_202, hT _ ws_74⟩ ⟨PVc.blind, va_recv hK hW.1 (ci := 9) (q0 := o) rfl (pic_obj fo.1 fo.2 (by decide)), PVc.at _ hW hK hN hE hS hF⟩ rfl rfl hl.1 rfl (lv_room (Nat.le_of_ble_eq_true rfl)) d_Qry_readText_82 ⟨hRc, hRs⟩) hS (fun q _ h => hF q h) hF (fun  x50 t H locs ht hvm hw hB hz1 hk1 hS => ?_)
      have hW := Wd.back hB ht hF
      clear hB ht hF hz1 hk1 hvm
      exact t_Qry_readText_85 hx hb hml hown hT hK hN hA hRc hRs hRf hRl hNN hE hret  o l1 l2 x50 H locs ls fo fl1 fl2 hw hW hS (lv_sub hl [0, 1, 2] rfl)
set_option maxHeartbeats 4000000 in
set_option maxRecDepth 100000 in
theorem k_Qry_readText (l : Launch) (dC : Nat → ClassId) (dI : Nat → Nat → Nat) (cI cB cJ cZ : ClassId) (ad : Nat → Nat) (NN : Nat) (E : Heap) (tM tC : Nat) (kK kV : Nat → Nat) (hNN : 152 ≤ NN) (sz : Nat) (o : Nat) (l1 : Nat) (l2 : Nat) (x : St) (fo : o < NN ∧ kcC o = 9) (fl1 : l1 < NN ∧ kcC l1 = 2) (fl2 : l2 < NN ∧ kcC l2 = 3) {post : Int32 → St → Prop} (hw : wp_Qry_readText post o l1 l2 x) : Met l y_Qry_readText (wsOf y_Qry_readText b_Qry_readText 3 (some (.int))) ({ frames := 210, cells := 0, slots := 0, locals := 5539 }) (va_Pc [.ref (ad o), .ref (ad l1), .ref (ad l2)] (PVc dC dI cI cB cJ cZ ad stC kcC NN E tM tC kK kV sz x)) (va_Qi (fun (r : Int32) (y : St) => post r y) (fun y t => Wd dC dI cI cB cJ cZ ad stC kcC NN (va_A (pic ad stC kcC NN cI cB cJ cZ x) sz) y t.heap) (va_A (pic ad stC kcC NN cI cB cJ cZ x) sz)) 0 0 (va_A (pic ad stC kcC NN cI cB cJ cZ x) sz) := by
  refine Met.ofW (cc := b_Qry_readText) (maxL := 3) (ret := some (.int)) (by decide) rfl ?_
  intro p e s m args below meth c s₁ B hml hv
  obtain ⟨rfl, ⟨hsz, hW0, hK, hN⟩, hE⟩ := hv
  have hx := B.exec
  have hb := B.bytes
  have hr := B.returns
  have hts := atoms_spec B.pre
  have hT : ∀ w ∈ TG, w.before _ s = true := fun w h => hts w (List.mem_cons_of_mem _ h)
  have hown : s.vm.findClass R_Qry = some m.cls := findClass_of_methodNamed B.named
  have hlocks := B.notSynchronized
  subst hsz
  have hW : Wd dC dI cI cB cJ cZ ad stC kcC NN (va_A (pic ad stC kcC NN cI cB cJ cZ x) s.heap.size) x s.heap := ⟨hW0.1, hW0.2.1.self (sz := s.heap.size), hW0.2.2⟩
  generalize hAe : va_A (pic ad stC kcC NN cI cB cJ cZ x) s.heap.size = A at hW hE ⊢
  have hA : ∀ q : Nat, s.heap.size ≤ q → A q := fun q h => by rw [← hAe]; exact Or.inr h
  have hS : va_S A s.heap s.heap [] := va_S.rf
  have hl := lv_entry ([.ref (ad o), .ref (ad l1), .ref (ad l2)]) (n := 3) (Nat.le_of_ble_eq_true rfl)
  rw [lg_entry_eq]
  generalize (lg_sl ([.ref (ad o), .ref (ad l1), .ref (ad l2)]) ++ List.replicate (3 - (lg_sl ([.ref (ad o), .ref (ad l1), .ref (ad l2)])).length) Slot.unset).toArray = ls at hl ⊢
  have hl : lv_has ls 3 [(0, .ref (ad o)), (1, .ref (ad l1)), (2, .ref (ad l2))] := hl
  exact t_Qry_readText_e hx hb hml hown hT hK hN hA (Nat.le_refl 0) (Nat.le_refl 0) (Nat.le_refl 210) (Nat.le_refl 5539) hNN hE (fun r x H locs pc ls hd hp hW hS => W.iret (v := r) hx hb hr (fun t ht hM => ⟨⟨r, x, rfl, hp, Wd.back hW ht.symm (fun _ z => z)⟩, hS.F ht⟩) hS.2.2 hd hlocks)  o l1 l2 x _ _ ls fo fl1 fl2 hw hW hS hl
set_option maxRecDepth 100000 in
set_option maxHeartbeats 4000000 in
set_option maxRecDepth 100000 in
theorem t_V_query_e {p : Program} {l : Launch} {e : Env} {R : Room} {s : State} {m : MethodId} {args : Array Value} {below : List Frame} {meth : Method} {c : Code} {cells slots : Nat} {Q : State → Prop} {dC : Nat → ClassId} {dI : Nat → Nat → Nat} {cI cB cJ cZ : ClassId} {A : Nat → Prop} {ad : Nat → Nat} {NN : Nat} {E : Heap} {tM tC : Nat} {kK kV : Nat → Nat} {post : Int32 → St → Prop} (hx : p.tables.exec = Jvm.exec) (hb : c.code = b_V_query) (hml : c.maxLocals = 4) (hown : s.vm.findClass R_V = some m.cls) (hT : ∀ w ∈ TG, w.before args s = true) (hK : va_K (dC, dI) CL (TY cI cB cJ cZ) s) (hN : NW s) (hA : ∀ q : Nat, s.heap.size ≤ q → A q) (hRc : cells ≤ R.cells) (hRs : slots ≤ R.slots) (hRf : 211 ≤ R.frames) (hRl : 5561 ≤ R.locals) (hNN : 152 ≤ NN) (hE : CE E tM tC kK kV A s) (hret : ∀ (r : Int32) (x : St) (H : Heap) (locs : List Loc) (pc : Nat) (ls : Array Slot), decode b_V_query pc = .ok (.ireturn, 1) → post r x → Wd dC dI cI cB cJ cZ ad stC kcC NN A x H → va_S A s.heap H locs → W p l e R s m args below meth c H locs cells slots Q (F0 m pc ls [.int r])) : ∀ (o : Nat) (x : St) (H : Heap) (locs : List Loc) (ls : Array Slot), (o < NN ∧ kcC o = 0) → wp_V_query post o x → Wd dC dI cI cB cJ cZ ad stC kcC NN A x H → va_S A s.heap H locs → lv_has ls 4 [(0, .ref (ad o))] → W p l e R s m args below meth c H locs cells slots Q (F0 m 0 ls []) := by
  intro o x H locs ls fo hw hW hS hl
  unfold wp_V_query at hw
  refine lv_aload_n hx hb d_V_query_0 rfl (lv_at hl 0 rfl) ?_
  have hF := hW.free hS hA
  refine va_calli (va_runV (C := R_V) (As := []) (rest := []) ⟨hx, hb, hml, hown, hT⟩ (k_V_useInput l dC dI cI cB cJ cZ ad NN E tM tC kK kV hNN H.size o x fo hw) ⟨callB_of 0 hT (gwt_in w_4_89) rfl rfl rfl (hT _ w_1_1) (hT _ w_4_86) (by decide +kernel) ⟨Nat.le_trans (Nat.le_of_ble_eq_true rfl) hRf, Nat.le_trans (Nat.le_of_ble_eq_true rfl) hRl⟩, hT _ w_4_88, hT _ ws_2⟩ ⟨PVc.blind, va_recv hK hW.1 (ci := 0) (q0 := o) rfl (pic_obj fo.1 fo.2 (by decide)), PVc.at _ hW hK hN hE hS hF⟩ rfl rfl hl.1 rfl (lv_room (Nat.le_of_ble_eq_true rfl)) d_V_query_1 ⟨hRc, hRs⟩) hS (fun q _ h => hF q h) hF (fun r2 x1 t H locs ht hvm hw hB hz1 hk1 hS => ?_)
  have hW := Wd.back hB ht hF
  clear hB ht hF hz1 hk1 hvm
  refine lv_istore_n (lv' := [(1, .int r2), (0, .ref (ad o))]) hx hb d_V_query_4 rfl hl (by decide) rfl (fun ls hl => ?_)
  refine lv_aload_n hx hb d_V_query_5 rfl (lv_at hl 1 rfl) ?_
  refine w_getf (q := (stC o 8)) (k := 8) (t := 0) (C := R_V) (T := F_V) (N := 15) hx hb hT hown hK hW fo.1 fo.2 (by decide) in_V rfl rfl (by decide) rfl fr_V_8 w_4_3 d_V_query_6 rfl ?_
  refine w_geti (k := 0) (t := 6) (C := R_Vlt) (T := F_Vlt) (N := 20) hx hb hT hown hK hW (st_ty hNN fo.1 fo.2 rfl).1 (st_ty hNN fo.1 fo.2 rfl).2 (by decide) in_Vlt rfl rfl (by decide) rfl fr_Vlt_0 w_2_122 d_V_query_9 ?_
  refine lv_if_ne (tgt := 18) hx hb d_V_query_12 (by decide) (fun c3 => ?_) (fun c3 => ?_)
  · have hw := hw.1 c3
    refine lv_iload_n hx hb d_V_query_18 rfl (lv_at hl 0 rfl) ?_
    refine lv_sipush (v := 2000) hx hb d_V_query_19 (by decide) ?_
    refine lv_icmp_le (tgt := 29) hx hb d_V_query_22 (by decide) (fun c4 => ?_) (fun c4 => ?_)
    · have hw := hw.1 c4
      refine lv_aload_n hx hb d_V_query_29 rfl (lv_at hl 1 rfl) ?_
      refine w_getf (q := (stC o 3)) (k := 3) (t := 0) (C := R_V) (T := F_V) (N := 15) hx hb hT hown hK hW fo.1 fo.2 (by decide) in_V rfl rfl (by decide) rfl fr_V_3 w_3_238 d_V_query_30 rfl ?_
      refine lv_aload_n hx hb d_V_query_33 rfl (lv_at hl 1 rfl) ?_
      obtain ⟨q5, hq5, hw⟩ := hw
      refine w_getr (q := q5) (k := 1) (t := 0) (C := R_V) (T := F_V) (N := 15) hx hb hT hown hK hW fo.1 fo.2 (by decide) in_V rfl rfl (by decide) rfl fr_V_1 w_3_236 d_V_query_34 hq5 (fun aq5 bq5 => ?_)
      have fq5 : q5 < NN ∧ kcC q5 = 1 := ⟨aq5, bq5⟩
      obtain ⟨q6, hq6, hw⟩ := hw
      refine w_getr (q := q6) (k := 0) (t := 1) (C := R_Snk) (T := F_Snk) (N := 7) hx hb hT hown hK hW fq5.1 fq5.2 (by decide) in_Snk rfl rfl (by decide) rfl fr_Snk_0 w_1_42 d_V_query_37 hq6 (fun aq6 bq6 => ?_)
      have fq6 : q6 < NN ∧ kcC q6 = 21 := ⟨aq6, bq6⟩
      refine lv_iload_n hx hb d_V_query_40 rfl (lv_at hl 0 rfl) ?_
      have hF := hW.free hS hA
      refine va_callv (va_runV (C := R_Scn) (As := [.ref (ad q6), .int r2]) (rest := []) ⟨hx, hb, hml, hown, hT⟩ (k_Scn_begin l dC dI cI cB cJ cZ ad NN E tM tC kK kV hNN H.size (stC o 3) q6 r2 x1 (st_ty hNN fo.1 fo.2 rfl) fq6 hw) ⟨callB_of 2 hT (gwt_in w_4_93) rfl rfl rfl (hT _ w_1_4) (hT _ w_4_90) (by decide +kernel) ⟨Nat.le_trans (Nat.le_of_ble_eq_true rfl) hRf, Nat.le_trans (Nat.le_of_ble_eq_true rfl) hRl⟩, hT _ w_4_91, hT _ w_4_92⟩ ⟨PVc.blind, va_recv hK hW.1 (ci := 2) (q0 := (stC o 3)) rfl (pic_obj (st_ty hNN fo.1 fo.2 rfl).1 (st_ty hNN fo.1 fo.2 rfl).2 (by decide)), PVc.at _ hW hK hN hE hS hF⟩ rfl rfl hl.1 rfl (lv_room (Nat.le_of_ble_eq_true rfl)) d_V_query_41 ⟨hRc, hRs⟩) hS (fun q _ h => hF q h) hF (fun  x7 t H locs ht hvm hw hB hz1 hk1 hS => ?_)
      have hW := Wd.back hB ht hF
      clear hB ht hF hz1 hk1 hvm
      refine lv_aload_n hx hb d_V_query_44 rfl (lv_at hl 1 rfl) ?_
      obtain ⟨q8, hq8, hw⟩ := hw
      refine w_getr (q := q8) (k := 11) (t := 0) (C := R_V) (T := F_V) (N := 15) hx hb hT hown hK hW fo.1 fo.2 (by decide) in_V rfl rfl (by decide) rfl fr_V_11 w_4_6 d_V_query_45 hq8 (fun aq8 bq8 => ?_)
      have fq8 : q8 < NN ∧ kcC q8 = 9 := ⟨aq8, bq8⟩
      refine lv_aload_n hx hb d_V_query_48 rfl (lv_at hl 1 rfl) ?_
      refine w_getf (q := (stC o 3)) (k := 3) (t := 0) (C := R_V) (T := F_V) (N := 15) hx hb hT hown hK hW fo.1 fo.2 (by decide) in_V rfl rfl (by decide) rfl fr_V_3 w_3_238 d_V_query_49 rfl ?_
      refine lv_aload_n hx hb d_V_query_52 rfl (lv_at hl 1 rfl) ?_
      refine w_getf (q := (stC o 8)) (k := 8) (t := 0) (C := R_V) (T := F_V) (N := 15) hx hb hT hown hK hW fo.1 fo.2 (by decide) in_V rfl rfl (by decide) rfl fr_V_8 w_4_3 d_V_query_53 rfl ?_
      refine w_getf (q := (stC (stC o 8) 5)) (k := 5) (t := 6) (C := R_Vlt) (T := F_Vlt) (N := 20) hx hb hT hown hK hW (st_ty hNN fo.1 fo.2 rfl).1 (st_ty hNN fo.1 fo.2 rfl).2 (by decide) in_Vlt rfl rfl (by decide) rfl fr_Vlt_5 w_2_138 d_V_query_56 rfl ?_
      have hF := hW.free hS hA
      refine va_calli (va_runV (C := R_Qry) (As := [.ref (ad (stC o 3)), .ref (ad (stC (stC o 8) 5))]) (rest := []) ⟨hx, hb, hml, hown, hT⟩ (k_Qry_readText l dC dI cI cB cJ cZ ad NN E tM tC kK kV hNN H.size q8 (stC o 3) (stC (stC o 8) 5) x7 fq8 (st_ty hNN fo.1 fo.2 rfl) (st_ty hNN (st_ty hNN fo.1 fo.2 rfl).1 (st_ty hNN fo.1 fo.2 rfl).2 rfl) hw) ⟨callB_of 2 hT (gwt_in w_7_140) rfl rfl rfl (hT _ w_1_12) (hT _ w_7_137) (by decide +kernel) ⟨Nat.le_trans (Nat.le_of_ble_eq_true rfl) hRf, Nat.le_trans (Nat.le_of_ble_eq_true rfl) hRl⟩, hT _ w_7_138, hT _ w_7_139⟩ ⟨PVc.blind, va_recv hK hW.1 (ci := 9) (q0 := q8) rfl (pic_obj fq8.1 fq8.2 (by decide)), PVc.at _ hW hK hN hE hS hF⟩ rfl rfl hl.1 rfl (lv_room (Nat.le_of_ble_eq_true rfl)) d_V_query_59 ⟨hRc, hRs⟩) hS (fun q _ h => hF q h) hF (fun r10 x9 t H locs ht hvm hw hB hz1 hk1 hS => ?_)
      have hW := Wd.back hB ht hF
      clear hB ht hF hz1 hk1 hvm
      refine lv_istore_n (lv' := [(2, .int r10), (1, .int r2), (0, .ref (ad o))]) hx hb d_V_query_62 rfl hl (by decide) rfl (fun ls hl => ?_)
      refine lv_iload_n hx hb d_V_query_63 rfl (lv_at hl 0 rfl) ?_
      refine lv_iconst (v := (-1)) hx hb d_V_query_64 (by decide) ?_
      refine lv_icmp_eq (tgt := 70) hx hb d_V_query_65 (by decide) (fun c11 => ?_) (fun c11 => ?_)
      · have hw := hw.1 c11
        refine lv_aload_n hx hb d_V_query_70 rfl (lv_at hl 2 rfl) ?_
        obtain ⟨q12, hq12, hw⟩ := hw
        refine w_getr (q := q12) (k := 10) (t := 0) (C := R_V) (T := F_V) (N := 15) hx hb hT hown hK hW fo.1 fo.2 (by decide) in_V rfl rfl (by decide) rfl fr_V_10 w_4_5 d_V_query_71 hq12 (fun aq12 bq12 => ?_)
        have fq12 : q12 < NN ∧ kcC q12 = 9 := ⟨aq12, bq12⟩
        refine lv_astore_n (lv' := [(3, .ref (ad q12)), (2, .int r10), (1, .int r2), (0, .ref (ad o))]) hx hb d_V_query_74 rfl hl (by decide) rfl (fun ls hl => ?_)
        refine lv_aload_n hx hb d_V_query_75 rfl (lv_at hl 3 rfl) ?_
        refine lv_aload_n hx hb d_V_query_76 rfl (lv_at hl 3 rfl) ?_
        obtain ⟨q13, hq13, hw⟩ := hw
        refine w_getr (q := q13) (k := 11) (t := 0) (C := R_V) (T := F_V) (N := 15) hx hb hT hown hK hW fo.1 fo.2 (by decide) in_V rfl rfl (by decide) rfl fr_V_11 w_4_6 d_V_query_77 hq13 (fun aq13 bq13 => ?_)
        have fq13 : q13 < NN ∧ kcC q13 = 9 := ⟨aq13, bq13⟩
        refine w_putr (q := q13) (ty := .object "StripedVault$Query") (k := 10) (t := 0) (C := R_V) (T := F_V) (N := 15) hx hb hT hown hK hW hS fo.1 fo.2 (by decide) in_V t_V t_V_ok n_V rfl rfl (by decide) rfl fr_V_10 w_4_5 (by decide +kernel) rfl rfl fq13.1 fq13.2 d_V_query_80 (fun H locs hW hS => ?_)
        obtain ⟨x14, ex14⟩ : ∃ y : St, y = setR x9 o 10 (some q13) := ⟨_, rfl⟩
        rw [← ex14] at hW
        have hw := hw x14 ex14
        refine lv_aload_n hx hb d_V_query_83 rfl (lv_at hl 3 rfl) ?_
        refine lv_aload_n hx hb d_V_query_84 rfl (lv_at hl 0 rfl) ?_
        refine w_putr (q := q12) (ty := .object "StripedVault$Query") (k := 11) (t := 0) (C := R_V) (T := F_V) (N := 15) hx hb hT hown hK hW hS fo.1 fo.2 (by decide) in_V t_V t_V_ok n_V rfl rfl (by decide) rfl fr_V_11 w_4_6 (by decide +kernel) rfl rfl fq12.1 fq12.2 d_V_query_85 (fun H locs hW hS => ?_)
        obtain ⟨x15, ex15⟩ : ∃ y : St, y = setR x14 o 11 (some q12) := ⟨_, rfl⟩
        rw [← ex15] at hW
        have hw := hw x15 ex15
        refine lv_aload_n hx hb d_V_query_88 rfl (lv_at hl 3 rfl) ?_
        obtain ⟨q16, hq16, hw⟩ := hw
        refine w_getr (q := q16) (k := 10) (t := 0) (C := R_V) (T := F_V) (N := 15) hx hb hT hown hK hW fo.1 fo.2 (by decide) in_V rfl rfl (by decide) rfl fr_V_10 w_4_5 d_V_query_89 hq16 (fun aq16 bq16 => ?_)
        have fq16 : q16 < NN ∧ kcC q16 = 9 := ⟨aq16, bq16⟩
        refine lv_iconst (v := 1) hx hb d_V_query_92 (by decide) ?_
        refine w_puti (ty := .boolean) (k := 0) (t := 9) (C := R_Qry) (T := F_Qry) (N := 20) hx hb hT hown hK hW hS fq16.1 fq16.2 (by decide) in_Qry t_Qry t_Qry_ok n_Qry rfl rfl (by decide) rfl fr_Qry_0 w_3_75 (by decide +kernel) rfl rfl d_V_query_93 (fun H locs hW hS => ?_)
        obtain ⟨x17, ex17⟩ : ∃ y : St, y = setI x15 q16 0 1 := ⟨_, rfl⟩
        rw [← ex17] at hW
        have hw := hw x17 ex17
        refine lv_iconst (v := (-1)) hx hb d_V_query_96 (by decide) ?_
        exact hret (-1) x17 H locs 97 ls d_V_query_97 hw hW hS
      · have hw := hw.2 c11
        refine lv_iload_n hx hb d_V_query_68 rfl (lv_at hl 0 rfl) ?_
        exact hret r10 x9 H locs 69 ls d_V_query_69 hw hW hS
    · have hw := hw.2 c4
      refine lv_sipush (v := 2000) hx hb d_V_query_25 (by decide) ?_
      exact hret 2000 x1 H locs 28 ls d_V_query_28 hw hW hS
  · have hw := hw.2 c3
    refine lv_bipush (v := (-2)) hx hb d_V_query_15 (by decide) ?_
    exact hret (-2) x1 H locs 17 ls d_V_query_17 hw hW hS
set_option maxHeartbeats 4000000 in
set_option maxRecDepth 100000 in
theorem k_V_query (l : Launch) (dC : Nat → ClassId) (dI : Nat → Nat → Nat) (cI cB cJ cZ : ClassId) (ad : Nat → Nat) (NN : Nat) (E : Heap) (tM tC : Nat) (kK kV : Nat → Nat) (hNN : 152 ≤ NN) (sz : Nat) (o : Nat) (x : St) (fo : o < NN ∧ kcC o = 0) {post : Int32 → St → Prop} (hw : wp_V_query post o x) : Met l y_V_query (wsOf y_V_query b_V_query 4 (some (.int))) ({ frames := 211, cells := 0, slots := 0, locals := 5561 }) (va_Pc [.ref (ad o)] (PVc dC dI cI cB cJ cZ ad stC kcC NN E tM tC kK kV sz x)) (va_Qi (fun (r : Int32) (y : St) => post r y) (fun y t => Wd dC dI cI cB cJ cZ ad stC kcC NN (va_A (pic ad stC kcC NN cI cB cJ cZ x) sz) y t.heap) (va_A (pic ad stC kcC NN cI cB cJ cZ x) sz)) 0 0 (va_A (pic ad stC kcC NN cI cB cJ cZ x) sz) := by
  refine Met.ofW (cc := b_V_query) (maxL := 4) (ret := some (.int)) (by decide) rfl ?_
  intro p e s m args below meth c s₁ B hml hv
  obtain ⟨rfl, ⟨hsz, hW0, hK, hN⟩, hE⟩ := hv
  have hx := B.exec
  have hb := B.bytes
  have hr := B.returns
  have hts := atoms_spec B.pre
  have hT : ∀ w ∈ TG, w.before _ s = true := fun w h => hts w (List.mem_cons_of_mem _ h)
  have hown : s.vm.findClass R_V = some m.cls := findClass_of_methodNamed B.named
  have hlocks := B.notSynchronized
  subst hsz
  have hW : Wd dC dI cI cB cJ cZ ad stC kcC NN (va_A (pic ad stC kcC NN cI cB cJ cZ x) s.heap.size) x s.heap := ⟨hW0.1, hW0.2.1.self (sz := s.heap.size), hW0.2.2⟩
  generalize hAe : va_A (pic ad stC kcC NN cI cB cJ cZ x) s.heap.size = A at hW hE ⊢
  have hA : ∀ q : Nat, s.heap.size ≤ q → A q := fun q h => by rw [← hAe]; exact Or.inr h
  have hS : va_S A s.heap s.heap [] := va_S.rf
  have hl := lv_entry ([.ref (ad o)]) (n := 4) (Nat.le_of_ble_eq_true rfl)
  rw [lg_entry_eq]
  generalize (lg_sl ([.ref (ad o)]) ++ List.replicate (4 - (lg_sl ([.ref (ad o)])).length) Slot.unset).toArray = ls at hl ⊢
  have hl : lv_has ls 4 [(0, .ref (ad o))] := hl
  exact t_V_query_e hx hb hml hown hT hK hN hA (Nat.le_refl 0) (Nat.le_refl 0) (Nat.le_refl 211) (Nat.le_refl 5561) hNN hE (fun r x H locs pc ls hd hp hW hS => W.iret (v := r) hx hb hr (fun t ht hM => ⟨⟨r, x, rfl, hp, Wd.back hW ht.symm (fun _ z => z)⟩, hS.F ht⟩) hS.2.2 hd hlocks)  o x _ _ ls fo hw hW hS hl
end
