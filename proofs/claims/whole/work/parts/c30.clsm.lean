theorem fr_Ans_6 : F_Ans 6 = (R_Ans, "collects", "Z", false) := rfl
theorem w_1_171 : (Jvm.Cond.fieldLink "StripedVault$Answer" (106 : Nat) "StripedVault$Schema" "past" "[I") ∈ TG := tw_1 171 (by decide +kernel) (by decide +kernel)
theorem w_2_124 : (Jvm.Cond.fieldLink "StripedVault$Answer" (78 : Nat) "StripedVault$Vault" "rows" "I") ∈ TG := tw_2 124 (by decide +kernel) (by decide +kernel)
theorem w_3_155 : (Jvm.Cond.fieldLink "StripedVault$Answer" (39 : Nat) "StripedVault$Answer" "ready" "Z") ∈ TG := tw_3 155 (by decide +kernel) (by decide +kernel)
theorem w_3_166 : (Jvm.Cond.fieldLink "StripedVault$Answer" (43 : Nat) "StripedVault$Answer" "collects" "Z") ∈ TG := tw_3 166 (by decide +kernel) (by decide +kernel)
theorem w_3_77 : (Jvm.Cond.fieldLink "StripedVault$Answer" (61 : Nat) "StripedVault$Query" "items" "I") ∈ TG := tw_3 77 (by decide +kernel) (by decide +kernel)
theorem w_3_88 : (Jvm.Cond.fieldLink "StripedVault$Answer" (64 : Nat) "StripedVault$Query" "collects" "Z") ∈ TG := tw_3 88 (by decide +kernel) (by decide +kernel)
theorem w_8_100 : (Jvm.Cond.instanceMethod ({ cls := "StripedVault$Answer", name := "gather", desc := "(II)V" } : Jvm.MethodName)) ∈ TG := tw_8 100 (by decide +kernel) (by decide +kernel)
theorem w_8_101 : (Jvm.Cond.code ({ cls := "StripedVault$Answer", name := "gather", desc := "(II)V" } : Jvm.MethodName) prog_2_method_11_code (5 : Nat) (Option.none : Option Jvm.ClassFile.FieldType)) ∈ TG := tw_8 101 (by decide +kernel) (by decide +kernel)
theorem w_8_102 : (Jvm.Cond.methodLink "StripedVault$Answer" (155 : Nat) ({ cls := "StripedVault$Answer", name := "gatherValue", desc := "(IIII)V" } : Jvm.MethodName)) ∈ TG := tw_8 102 (by decide +kernel) (by decide +kernel)
theorem w_8_104 : (Jvm.Cond.instanceMethod ({ cls := "StripedVault$Answer", name := "gatherValue", desc := "(IIII)V" } : Jvm.MethodName)) ∈ TG := tw_8 104 (by decide +kernel) (by decide +kernel)
theorem w_8_105 : (Jvm.Cond.code ({ cls := "StripedVault$Answer", name := "gatherValue", desc := "(IIII)V" } : Jvm.MethodName) prog_2_method_12_code (8 : Nat) (Option.none : Option Jvm.ClassFile.FieldType)) ∈ TG := tw_8 105 (by decide +kernel) (by decide +kernel)
theorem w_8_106 : (Jvm.Cond.methodLink "StripedVault$Answer" (96 : Nat) ({ cls := "StripedVault$Answer", name := "markWanted", desc := "()V" } : Jvm.MethodName)) ∈ TG := tw_8 106 (by decide +kernel) (by decide +kernel)
theorem w_8_108 : (Jvm.Cond.instanceMethod ({ cls := "StripedVault$Answer", name := "markWanted", desc := "()V" } : Jvm.MethodName)) ∈ TG := tw_8 108 (by decide +kernel) (by decide +kernel)
theorem w_8_109 : (Jvm.Cond.code ({ cls := "StripedVault$Answer", name := "markWanted", desc := "()V" } : Jvm.MethodName) prog_2_method_5_code (5 : Nat) (Option.none : Option Jvm.ClassFile.FieldType)) ∈ TG := tw_8 109 (by decide +kernel) (by decide +kernel)
theorem w_8_20 : (Jvm.Cond.methodLink "StripedVault$Answer" (65 : Nat) ({ cls := "java/util/Arrays", name := "fill", desc := "([II)V" } : Jvm.MethodName)) ∈ TG := tw_8 20 (by decide +kernel) (by decide +kernel)
theorem w_8_31 : (Jvm.Cond.methodLink "StripedVault$Answer" (85 : Nat) ({ cls := "StripedVault$Answer", name := "truthsOf", desc := "(I)I" } : Jvm.MethodName)) ∈ TG := tw_8 31 (by decide +kernel) (by decide +kernel)
theorem w_8_33 : (Jvm.Cond.instanceMethod ({ cls := "StripedVault$Answer", name := "truthsOf", desc := "(I)I" } : Jvm.MethodName)) ∈ TG := tw_8 33 (by decide +kernel) (by decide +kernel)
theorem w_8_34 : (Jvm.Cond.code ({ cls := "StripedVault$Answer", name := "truthsOf", desc := "(I)I" } : Jvm.MethodName) prog_2_method_13_code (5 : Nat) (Option.some Jvm.ClassFile.FieldType.int)) ∈ TG := tw_8 34 (by decide +kernel) (by decide +kernel)
theorem w_8_85 : (Jvm.Cond.methodLink "StripedVault$Answer" (89 : Nat) ({ cls := "StripedVault$Answer", name := "groupOf", desc := "(I)I" } : Jvm.MethodName)) ∈ TG := tw_8 85 (by decide +kernel) (by decide +kernel)
theorem w_8_87 : (Jvm.Cond.instanceMethod ({ cls := "StripedVault$Answer", name := "groupOf", desc := "(I)I" } : Jvm.MethodName)) ∈ TG := tw_8 87 (by decide +kernel) (by decide +kernel)
theorem w_8_88 : (Jvm.Cond.code ({ cls := "StripedVault$Answer", name := "groupOf", desc := "(I)I" } : Jvm.MethodName) prog_2_method_8_code (4 : Nat) (Option.some Jvm.ClassFile.FieldType.int)) ∈ TG := tw_8 88 (by decide +kernel) (by decide +kernel)
theorem w_8_98 : (Jvm.Cond.methodLink "StripedVault$Answer" (92 : Nat) ({ cls := "StripedVault$Answer", name := "gather", desc := "(II)V" } : Jvm.MethodName)) ∈ TG := tw_8 98 (by decide +kernel) (by decide +kernel)
theorem ws_101 : Cond.selects R_Ans y_Ans_gather y_Ans_gather ∈ TG := tw_s 101 (by decide +kernel) (by decide +kernel)
theorem ws_102 : Cond.selects R_Ans y_Ans_gatherValue y_Ans_gatherValue ∈ TG := tw_s 102 (by decide +kernel) (by decide +kernel)
theorem ws_103 : Cond.selects R_Ans y_Ans_markWanted y_Ans_markWanted ∈ TG := tw_s 103 (by decide +kernel) (by decide +kernel)
theorem ws_88 : Cond.selects R_Ans y_Ans_truthsOf y_Ans_truthsOf ∈ TG := tw_s 88 (by decide +kernel) (by decide +kernel)
theorem ws_98 : Cond.selects R_Ans y_Ans_groupOf y_Ans_groupOf ∈ TG := tw_s 98 (by decide +kernel) (by decide +kernel)
theorem d_Ans_gather_82 : decode b_Ans_gather 82 = .ok (.iinc 3 1, 3) := by decide +kernel
theorem d_Ans_gather_85 : decode b_Ans_gather 85 = .ok (.goto (-83), 3) := by decide +kernel
theorem d_Ans_gather_2 : decode b_Ans_gather 2 = .ok (.iload_n 3, 1) := by decide +kernel
theorem d_Ans_gather_3 : decode b_Ans_gather 3 = .ok (.aload_n 0, 1) := by decide +kernel
theorem d_Ans_gather_4 : decode b_Ans_gather 4 = .ok (.getfield 50, 3) := by decide +kernel
theorem d_Ans_gather_7 : decode b_Ans_gather 7 = .ok (.if_icmp .ge 81, 3) := by decide +kernel
theorem d_Ans_gather_88 : decode b_Ans_gather 88 = .ok (.return_, 1) := by decide +kernel
theorem d_Ans_gather_10 : decode b_Ans_gather 10 = .ok (.iload_n 1, 1) := by decide +kernel
theorem d_Ans_gather_11 : decode b_Ans_gather 11 = .ok (.bipush 16, 2) := by decide +kernel
theorem d_Ans_gather_13 : decode b_Ans_gather 13 = .ok (.imul, 1) := by decide +kernel
theorem d_Ans_gather_14 : decode b_Ans_gather 14 = .ok (.iload_n 3, 1) := by decide +kernel
theorem d_Ans_gather_15 : decode b_Ans_gather 15 = .ok (.iadd, 1) := by decide +kernel
theorem d_Ans_gather_16 : decode b_Ans_gather 16 = .ok (.istore 4, 2) := by decide +kernel
theorem d_Ans_gather_18 : decode b_Ans_gather 18 = .ok (.aload_n 0, 1) := by decide +kernel
theorem d_Ans_gather_19 : decode b_Ans_gather 19 = .ok (.getfield 57, 3) := by decide +kernel
theorem d_Ans_gather_22 : decode b_Ans_gather 22 = .ok (.getfield 111, 3) := by decide +kernel
theorem d_Ans_gather_25 : decode b_Ans_gather 25 = .ok (.iload_n 3, 1) := by decide +kernel
theorem d_Ans_gather_26 : decode b_Ans_gather 26 = .ok (.iaload, 1) := by decide +kernel
theorem d_Ans_gather_27 : decode b_Ans_gather 27 = .ok (.iconst 1, 1) := by decide +kernel
theorem d_Ans_gather_28 : decode b_Ans_gather 28 = .ok (.if_icmp .ne 17, 3) := by decide +kernel
theorem d_Ans_gather_45 : decode b_Ans_gather 45 = .ok (.aload_n 0, 1) := by decide +kernel
theorem d_Ans_gather_46 : decode b_Ans_gather 46 = .ok (.getfield 57, 3) := by decide +kernel
theorem d_Ans_gather_49 : decode b_Ans_gather 49 = .ok (.getfield 111, 3) := by decide +kernel
theorem d_Ans_gather_52 : decode b_Ans_gather 52 = .ok (.iload_n 3, 1) := by decide +kernel
theorem d_Ans_gather_53 : decode b_Ans_gather 53 = .ok (.iaload, 1) := by decide +kernel
theorem d_Ans_gather_54 : decode b_Ans_gather 54 = .ok (.ifCond .eq 28, 3) := by decide +kernel
theorem d_Ans_gather_57 : decode b_Ans_gather 57 = .ok (.aload_n 0, 1) := by decide +kernel
theorem d_Ans_gather_58 : decode b_Ans_gather 58 = .ok (.iload 4, 2) := by decide +kernel
theorem d_Ans_gather_60 : decode b_Ans_gather 60 = .ok (.aload_n 0, 1) := by decide +kernel
theorem d_Ans_gather_61 : decode b_Ans_gather 61 = .ok (.getfield 57, 3) := by decide +kernel
theorem d_Ans_gather_64 : decode b_Ans_gather 64 = .ok (.getfield 111, 3) := by decide +kernel
theorem d_Ans_gather_67 : decode b_Ans_gather 67 = .ok (.iload_n 3, 1) := by decide +kernel
theorem d_Ans_gather_68 : decode b_Ans_gather 68 = .ok (.iaload, 1) := by decide +kernel
theorem d_Ans_gather_69 : decode b_Ans_gather 69 = .ok (.iload_n 2, 1) := by decide +kernel
theorem d_Ans_gather_70 : decode b_Ans_gather 70 = .ok (.aload_n 0, 1) := by decide +kernel
theorem d_Ans_gather_71 : decode b_Ans_gather 71 = .ok (.getfield 57, 3) := by decide +kernel
theorem d_Ans_gather_74 : decode b_Ans_gather 74 = .ok (.getfield 103, 3) := by decide +kernel
theorem d_Ans_gather_77 : decode b_Ans_gather 77 = .ok (.iload_n 3, 1) := by decide +kernel
theorem d_Ans_gather_78 : decode b_Ans_gather 78 = .ok (.iaload, 1) := by decide +kernel
theorem d_Ans_gather_79 : decode b_Ans_gather 79 = .ok (.invokevirtual 155, 3) := by decide +kernel
theorem d_Ans_gather_31 : decode b_Ans_gather 31 = .ok (.aload_n 0, 1) := by decide +kernel
theorem d_Ans_gather_32 : decode b_Ans_gather 32 = .ok (.getfield 23, 3) := by decide +kernel
theorem d_Ans_gather_35 : decode b_Ans_gather 35 = .ok (.iload 4, 2) := by decide +kernel
theorem d_Ans_gather_37 : decode b_Ans_gather 37 = .ok (.dup2, 1) := by decide +kernel
theorem d_Ans_gather_38 : decode b_Ans_gather 38 = .ok (.laload, 1) := by decide +kernel
theorem d_Ans_gather_39 : decode b_Ans_gather 39 = .ok (.lconst 1, 1) := by decide +kernel
theorem d_Ans_gather_40 : decode b_Ans_gather 40 = .ok (.ladd, 1) := by decide +kernel
theorem d_Ans_gather_41 : decode b_Ans_gather 41 = .ok (.lastore, 1) := by decide +kernel
theorem d_Ans_gather_42 : decode b_Ans_gather 42 = .ok (.goto 40, 3) := by decide +kernel
theorem d_Ans_gather_0 : decode b_Ans_gather 0 = .ok (.iconst 0, 1) := by decide +kernel
theorem d_Ans_gather_1 : decode b_Ans_gather 1 = .ok (.istore_n 3, 1) := by decide +kernel
theorem d_Ans_markWanted_60 : decode b_Ans_markWanted 60 = .ok (.iload 4, 2) := by decide +kernel
theorem d_Ans_markWanted_62 : decode b_Ans_markWanted 62 = .ok (.aload_n 1, 1) := by decide +kernel
theorem d_Ans_markWanted_63 : decode b_Ans_markWanted 63 = .ok (.getfield 106, 3) := by decide +kernel
theorem d_Ans_markWanted_66 : decode b_Ans_markWanted 66 = .ok (.iload_n 3, 1) := by decide +kernel
theorem d_Ans_markWanted_67 : decode b_Ans_markWanted 67 = .ok (.iaload, 1) := by decide +kernel
theorem d_Ans_markWanted_68 : decode b_Ans_markWanted 68 = .ok (.if_icmp .ge 17, 3) := by decide +kernel
theorem d_Ans_markWanted_85 : decode b_Ans_markWanted 85 = .ok (.iinc 2 1, 3) := by decide +kernel
theorem d_Ans_markWanted_88 : decode b_Ans_markWanted 88 = .ok (.goto (-56), 3) := by decide +kernel
theorem d_Ans_markWanted_71 : decode b_Ans_markWanted 71 = .ok (.aload_n 0, 1) := by decide +kernel
theorem d_Ans_markWanted_72 : decode b_Ans_markWanted 72 = .ok (.getfield 9, 3) := by decide +kernel
theorem d_Ans_markWanted_75 : decode b_Ans_markWanted 75 = .ok (.iload 4, 2) := by decide +kernel
theorem d_Ans_markWanted_77 : decode b_Ans_markWanted 77 = .ok (.iconst 1, 1) := by decide +kernel
theorem d_Ans_markWanted_78 : decode b_Ans_markWanted 78 = .ok (.bastore, 1) := by decide +kernel
theorem d_Ans_markWanted_79 : decode b_Ans_markWanted 79 = .ok (.iinc 4 1, 3) := by decide +kernel
theorem d_Ans_markWanted_82 : decode b_Ans_markWanted 82 = .ok (.goto (-22), 3) := by decide +kernel
theorem d_Ans_markWanted_32 : decode b_Ans_markWanted 32 = .ok (.iload_n 2, 1) := by decide +kernel
theorem d_Ans_markWanted_33 : decode b_Ans_markWanted 33 = .ok (.aload_n 0, 1) := by decide +kernel
theorem d_Ans_markWanted_34 : decode b_Ans_markWanted 34 = .ok (.getfield 50, 3) := by decide +kernel
theorem d_Ans_markWanted_37 : decode b_Ans_markWanted 37 = .ok (.if_icmp .ge 54, 3) := by decide +kernel
theorem d_Ans_markWanted_91 : decode b_Ans_markWanted 91 = .ok (.return_, 1) := by decide +kernel
theorem d_Ans_markWanted_40 : decode b_Ans_markWanted 40 = .ok (.aload_n 0, 1) := by decide +kernel
theorem d_Ans_markWanted_41 : decode b_Ans_markWanted 41 = .ok (.getfield 43, 3) := by decide +kernel
theorem d_Ans_markWanted_44 : decode b_Ans_markWanted 44 = .ok (.ifCond .ne 47, 3) := by decide +kernel
theorem d_Ans_markWanted_47 : decode b_Ans_markWanted 47 = .ok (.aload_n 0, 1) := by decide +kernel
theorem d_Ans_markWanted_48 : decode b_Ans_markWanted 48 = .ok (.getfield 57, 3) := by decide +kernel
theorem d_Ans_markWanted_51 : decode b_Ans_markWanted 51 = .ok (.getfield 103, 3) := by decide +kernel
theorem d_Ans_markWanted_54 : decode b_Ans_markWanted 54 = .ok (.iload_n 2, 1) := by decide +kernel
theorem d_Ans_markWanted_55 : decode b_Ans_markWanted 55 = .ok (.iaload, 1) := by decide +kernel
theorem d_Ans_markWanted_56 : decode b_Ans_markWanted 56 = .ok (.istore_n 3, 1) := by decide +kernel
theorem d_Ans_markWanted_57 : decode b_Ans_markWanted 57 = .ok (.iload_n 3, 1) := by decide +kernel
theorem d_Ans_markWanted_58 : decode b_Ans_markWanted 58 = .ok (.istore 4, 2) := by decide +kernel
theorem d_Ans_markWanted_10 : decode b_Ans_markWanted 10 = .ok (.iload_n 2, 1) := by decide +kernel
theorem d_Ans_markWanted_11 : decode b_Ans_markWanted 11 = .ok (.sipush 128, 3) := by decide +kernel
theorem d_Ans_markWanted_14 : decode b_Ans_markWanted 14 = .ok (.if_icmp .ge 16, 3) := by decide +kernel
theorem d_Ans_markWanted_30 : decode b_Ans_markWanted 30 = .ok (.iconst 0, 1) := by decide +kernel
theorem d_Ans_markWanted_31 : decode b_Ans_markWanted 31 = .ok (.istore_n 2, 1) := by decide +kernel
theorem d_Ans_markWanted_17 : decode b_Ans_markWanted 17 = .ok (.aload_n 0, 1) := by decide +kernel
theorem d_Ans_markWanted_18 : decode b_Ans_markWanted 18 = .ok (.getfield 9, 3) := by decide +kernel
theorem d_Ans_markWanted_21 : decode b_Ans_markWanted 21 = .ok (.iload_n 2, 1) := by decide +kernel
theorem d_Ans_markWanted_22 : decode b_Ans_markWanted 22 = .ok (.iconst 0, 1) := by decide +kernel
theorem d_Ans_markWanted_23 : decode b_Ans_markWanted 23 = .ok (.bastore, 1) := by decide +kernel
theorem d_Ans_markWanted_24 : decode b_Ans_markWanted 24 = .ok (.iinc 2 1, 3) := by decide +kernel
theorem d_Ans_markWanted_27 : decode b_Ans_markWanted 27 = .ok (.goto (-17), 3) := by decide +kernel
theorem d_Ans_markWanted_0 : decode b_Ans_markWanted 0 = .ok (.aload_n 0, 1) := by decide +kernel
theorem d_Ans_markWanted_1 : decode b_Ans_markWanted 1 = .ok (.getfield 53, 3) := by decide +kernel
theorem d_Ans_markWanted_4 : decode b_Ans_markWanted 4 = .ok (.getfield 99, 3) := by decide +kernel
theorem d_Ans_markWanted_7 : decode b_Ans_markWanted 7 = .ok (.astore_n 1, 1) := by decide +kernel
theorem d_Ans_markWanted_8 : decode b_Ans_markWanted 8 = .ok (.iconst 0, 1) := by decide +kernel
theorem d_Ans_markWanted_9 : decode b_Ans_markWanted 9 = .ok (.istore_n 2, 1) := by decide +kernel
theorem d_Ans_fill_159 : decode b_Ans_fill 159 = .ok (.iinc 3 1, 3) := by decide +kernel
theorem d_Ans_fill_162 : decode b_Ans_fill 162 = .ok (.goto (-88), 3) := by decide +kernel
theorem d_Ans_fill_107 : decode b_Ans_fill 107 = .ok (.aload_n 0, 1) := by decide +kernel
theorem d_Ans_fill_108 : decode b_Ans_fill 108 = .ok (.getfield 43, 3) := by decide +kernel
theorem d_Ans_fill_111 : decode b_Ans_fill 111 = .ok (.ifCond .eq 28, 3) := by decide +kernel
theorem d_Ans_fill_139 : decode b_Ans_fill 139 = .ok (.aload_n 0, 1) := by decide +kernel
theorem d_Ans_fill_140 : decode b_Ans_fill 140 = .ok (.getfield 15, 3) := by decide +kernel
theorem d_Ans_fill_143 : decode b_Ans_fill 143 = .ok (.aload_n 0, 1) := by decide +kernel
theorem d_Ans_fill_144 : decode b_Ans_fill 144 = .ok (.getfield 46, 3) := by decide +kernel
theorem d_Ans_fill_147 : decode b_Ans_fill 147 = .ok (.iload_n 3, 1) := by decide +kernel
theorem d_Ans_fill_148 : decode b_Ans_fill 148 = .ok (.iastore, 1) := by decide +kernel
theorem d_Ans_fill_149 : decode b_Ans_fill 149 = .ok (.aload_n 0, 1) := by decide +kernel
theorem d_Ans_fill_150 : decode b_Ans_fill 150 = .ok (.dup, 1) := by decide +kernel
theorem d_Ans_fill_151 : decode b_Ans_fill 151 = .ok (.getfield 46, 3) := by decide +kernel
theorem d_Ans_fill_154 : decode b_Ans_fill 154 = .ok (.iconst 1, 1) := by decide +kernel
theorem d_Ans_fill_155 : decode b_Ans_fill 155 = .ok (.iadd, 1) := by decide +kernel
theorem d_Ans_fill_156 : decode b_Ans_fill 156 = .ok (.putfield 46, 3) := by decide +kernel
theorem d_Ans_fill_114 : decode b_Ans_fill 114 = .ok (.aload_n 0, 1) := by decide +kernel
theorem d_Ans_fill_115 : decode b_Ans_fill 115 = .ok (.iload_n 3, 1) := by decide +kernel
theorem d_Ans_fill_116 : decode b_Ans_fill 116 = .ok (.invokevirtual 89, 3) := by decide +kernel
theorem d_Ans_fill_119 : decode b_Ans_fill 119 = .ok (.istore 4, 2) := by decide +kernel
theorem d_Ans_fill_121 : decode b_Ans_fill 121 = .ok (.iload 4, 2) := by decide +kernel
theorem d_Ans_fill_123 : decode b_Ans_fill 123 = .ok (.iconst (-1), 1) := by decide +kernel
theorem d_Ans_fill_124 : decode b_Ans_fill 124 = .ok (.if_icmp .ne 5, 3) := by decide +kernel
theorem d_Ans_fill_129 : decode b_Ans_fill 129 = .ok (.aload_n 0, 1) := by decide +kernel
theorem d_Ans_fill_130 : decode b_Ans_fill 130 = .ok (.iload 4, 2) := by decide +kernel
theorem d_Ans_fill_132 : decode b_Ans_fill 132 = .ok (.iload_n 3, 1) := by decide +kernel
theorem d_Ans_fill_133 : decode b_Ans_fill 133 = .ok (.invokevirtual 92, 3) := by decide +kernel
theorem d_Ans_fill_136 : decode b_Ans_fill 136 = .ok (.goto 23, 3) := by decide +kernel
theorem d_Ans_fill_127 : decode b_Ans_fill 127 = .ok (.iconst 0, 1) := by decide +kernel
theorem d_Ans_fill_128 : decode b_Ans_fill 128 = .ok (.ireturn, 1) := by decide +kernel
theorem d_Ans_fill_74 : decode b_Ans_fill 74 = .ok (.iload_n 3, 1) := by decide +kernel
theorem d_Ans_fill_75 : decode b_Ans_fill 75 = .ok (.aload_n 0, 1) := by decide +kernel
theorem d_Ans_fill_76 : decode b_Ans_fill 76 = .ok (.getfield 53, 3) := by decide +kernel
theorem d_Ans_fill_79 : decode b_Ans_fill 79 = .ok (.getfield 78, 3) := by decide +kernel
theorem d_Ans_fill_82 : decode b_Ans_fill 82 = .ok (.if_icmp .ge 83, 3) := by decide +kernel
theorem d_Ans_fill_165 : decode b_Ans_fill 165 = .ok (.aload_n 0, 1) := by decide +kernel
theorem d_Ans_fill_166 : decode b_Ans_fill 166 = .ok (.invokevirtual 96, 3) := by decide +kernel
theorem d_Ans_fill_169 : decode b_Ans_fill 169 = .ok (.iconst 1, 1) := by decide +kernel
theorem d_Ans_fill_170 : decode b_Ans_fill 170 = .ok (.ireturn, 1) := by decide +kernel
theorem d_Ans_fill_85 : decode b_Ans_fill 85 = .ok (.aload_n 0, 1) := by decide +kernel
theorem d_Ans_fill_86 : decode b_Ans_fill 86 = .ok (.getfield 57, 3) := by decide +kernel
theorem d_Ans_fill_89 : decode b_Ans_fill 89 = .ok (.getfield 82, 3) := by decide +kernel
theorem d_Ans_fill_92 : decode b_Ans_fill 92 = .ok (.ifCond .le 15, 3) := by decide +kernel
theorem d_Ans_fill_95 : decode b_Ans_fill 95 = .ok (.aload_n 0, 1) := by decide +kernel
theorem d_Ans_fill_96 : decode b_Ans_fill 96 = .ok (.iload_n 3, 1) := by decide +kernel
theorem d_Ans_fill_97 : decode b_Ans_fill 97 = .ok (.invokevirtual 85, 3) := by decide +kernel
theorem d_Ans_fill_100 : decode b_Ans_fill 100 = .ok (.iconst 2, 1) := by decide +kernel
theorem d_Ans_fill_101 : decode b_Ans_fill 101 = .ok (.if_icmp .eq 6, 3) := by decide +kernel
theorem d_Ans_fill_104 : decode b_Ans_fill 104 = .ok (.goto 55, 3) := by decide +kernel
theorem d_Ans_fill_72 : decode b_Ans_fill 72 = .ok (.iconst 0, 1) := by decide +kernel
theorem d_Ans_fill_73 : decode b_Ans_fill 73 = .ok (.istore_n 3, 1) := by decide +kernel
theorem d_Ans_fill_0 : decode b_Ans_fill 0 = .ok (.aload_n 0, 1) := by decide +kernel
theorem d_Ans_fill_1 : decode b_Ans_fill 1 = .ok (.aload_n 1, 1) := by decide +kernel
theorem d_Ans_fill_2 : decode b_Ans_fill 2 = .ok (.putfield 53, 3) := by decide +kernel
theorem d_Ans_fill_5 : decode b_Ans_fill 5 = .ok (.aload_n 0, 1) := by decide +kernel
theorem d_Ans_fill_6 : decode b_Ans_fill 6 = .ok (.aload_n 2, 1) := by decide +kernel
theorem d_Ans_fill_7 : decode b_Ans_fill 7 = .ok (.putfield 57, 3) := by decide +kernel
theorem d_Ans_fill_10 : decode b_Ans_fill 10 = .ok (.aload_n 0, 1) := by decide +kernel
theorem d_Ans_fill_11 : decode b_Ans_fill 11 = .ok (.iconst 0, 1) := by decide +kernel
theorem d_Ans_fill_12 : decode b_Ans_fill 12 = .ok (.putfield 39, 3) := by decide +kernel
theorem d_Ans_fill_15 : decode b_Ans_fill 15 = .ok (.aload_n 0, 1) := by decide +kernel
theorem d_Ans_fill_16 : decode b_Ans_fill 16 = .ok (.iconst 0, 1) := by decide +kernel
theorem d_Ans_fill_17 : decode b_Ans_fill 17 = .ok (.putfield 46, 3) := by decide +kernel
theorem d_Ans_fill_20 : decode b_Ans_fill 20 = .ok (.aload_n 0, 1) := by decide +kernel
theorem d_Ans_fill_21 : decode b_Ans_fill 21 = .ok (.aload_n 0, 1) := by decide +kernel
theorem d_Ans_fill_22 : decode b_Ans_fill 22 = .ok (.getfield 57, 3) := by decide +kernel
theorem d_Ans_fill_25 : decode b_Ans_fill 25 = .ok (.getfield 61, 3) := by decide +kernel
theorem d_Ans_fill_28 : decode b_Ans_fill 28 = .ok (.putfield 50, 3) := by decide +kernel
theorem d_Ans_fill_31 : decode b_Ans_fill 31 = .ok (.aload_n 0, 1) := by decide +kernel
theorem d_Ans_fill_32 : decode b_Ans_fill 32 = .ok (.aload_n 0, 1) := by decide +kernel
theorem d_Ans_fill_33 : decode b_Ans_fill 33 = .ok (.getfield 57, 3) := by decide +kernel
theorem d_Ans_fill_36 : decode b_Ans_fill 36 = .ok (.getfield 64, 3) := by decide +kernel
theorem d_Ans_fill_39 : decode b_Ans_fill 39 = .ok (.putfield 43, 3) := by decide +kernel
theorem d_Ans_fill_42 : decode b_Ans_fill 42 = .ok (.aload_n 0, 1) := by decide +kernel
theorem d_Ans_fill_43 : decode b_Ans_fill 43 = .ok (.getfield 27, 3) := by decide +kernel
theorem d_Ans_fill_46 : decode b_Ans_fill 46 = .ok (.iconst 0, 1) := by decide +kernel
theorem d_Ans_fill_47 : decode b_Ans_fill 47 = .ok (.invokestatic 65, 3) := by decide +kernel
theorem d_Ans_fill_50 : decode b_Ans_fill 50 = .ok (.aload_n 0, 1) := by decide +kernel
theorem d_Ans_fill_51 : decode b_Ans_fill 51 = .ok (.getfield 43, 3) := by decide +kernel
theorem d_Ans_fill_54 : decode b_Ans_fill 54 = .ok (.ifCond .eq 18, 3) := by decide +kernel
theorem d_Ans_fill_57 : decode b_Ans_fill 57 = .ok (.aload_n 0, 1) := by decide +kernel
theorem d_Ans_fill_58 : decode b_Ans_fill 58 = .ok (.getfield 57, 3) := by decide +kernel
theorem d_Ans_fill_61 : decode b_Ans_fill 61 = .ok (.getfield 71, 3) := by decide +kernel
theorem d_Ans_fill_64 : decode b_Ans_fill 64 = .ok (.ifCond .ne 8, 3) := by decide +kernel
theorem d_Ans_fill_67 : decode b_Ans_fill 67 = .ok (.aload_n 0, 1) := by decide +kernel
theorem d_Ans_fill_68 : decode b_Ans_fill 68 = .ok (.iconst (-1), 1) := by decide +kernel
theorem d_Ans_fill_69 : decode b_Ans_fill 69 = .ok (.invokevirtual 74, 3) := by decide +kernel
theorem d_Ans_markAsked_88 : decode b_Ans_markAsked 88 = .ok (.iinc 1 1, 3) := by decide +kernel
theorem d_Ans_markAsked_91 : decode b_Ans_markAsked 91 = .ok (.goto (-68), 3) := by decide +kernel
theorem d_Ans_markAsked_65 : decode b_Ans_markAsked 65 = .ok (.aload_n 0, 1) := by decide +kernel
theorem d_Ans_markAsked_66 : decode b_Ans_markAsked 66 = .ok (.iload_n 1, 1) := by decide +kernel
theorem d_Ans_markAsked_67 : decode b_Ans_markAsked 67 = .ok (.invokevirtual 228, 3) := by decide +kernel
theorem d_Ans_markAsked_70 : decode b_Ans_markAsked 70 = .ok (.ifCond .eq 18, 3) := by decide +kernel
theorem d_Ans_markAsked_73 : decode b_Ans_markAsked 73 = .ok (.aload_n 0, 1) := by decide +kernel
theorem d_Ans_markAsked_74 : decode b_Ans_markAsked 74 = .ok (.getfield 36, 3) := by decide +kernel
theorem d_Ans_markAsked_77 : decode b_Ans_markAsked 77 = .ok (.aload_n 0, 1) := by decide +kernel
theorem d_Ans_markAsked_78 : decode b_Ans_markAsked 78 = .ok (.getfield 57, 3) := by decide +kernel
theorem d_Ans_markAsked_81 : decode b_Ans_markAsked 81 = .ok (.getfield 184, 3) := by decide +kernel
theorem d_Ans_markAsked_84 : decode b_Ans_markAsked 84 = .ok (.iload_n 1, 1) := by decide +kernel
theorem d_Ans_markAsked_85 : decode b_Ans_markAsked 85 = .ok (.iaload, 1) := by decide +kernel
theorem d_Ans_markAsked_86 : decode b_Ans_markAsked 86 = .ok (.iconst 1, 1) := by decide +kernel
theorem d_Ans_markAsked_87 : decode b_Ans_markAsked 87 = .ok (.bastore, 1) := by decide +kernel
theorem d_Ans_markAsked_23 : decode b_Ans_markAsked 23 = .ok (.iload_n 1, 1) := by decide +kernel
theorem d_Ans_markAsked_24 : decode b_Ans_markAsked 24 = .ok (.aload_n 0, 1) := by decide +kernel
theorem d_Ans_markAsked_25 : decode b_Ans_markAsked 25 = .ok (.getfield 57, 3) := by decide +kernel
theorem d_Ans_markAsked_28 : decode b_Ans_markAsked 28 = .ok (.getfield 82, 3) := by decide +kernel
theorem d_Ans_markAsked_31 : decode b_Ans_markAsked 31 = .ok (.if_icmp .ge 63, 3) := by decide +kernel
theorem d_Ans_markAsked_94 : decode b_Ans_markAsked 94 = .ok (.return_, 1) := by decide +kernel
theorem d_Ans_markAsked_34 : decode b_Ans_markAsked 34 = .ok (.aload_n 0, 1) := by decide +kernel
theorem d_Ans_markAsked_35 : decode b_Ans_markAsked 35 = .ok (.getfield 57, 3) := by decide +kernel
theorem d_Ans_markAsked_38 : decode b_Ans_markAsked 38 = .ok (.getfield 159, 3) := by decide +kernel
theorem d_Ans_markAsked_41 : decode b_Ans_markAsked 41 = .ok (.iload_n 1, 1) := by decide +kernel
theorem d_Ans_markAsked_42 : decode b_Ans_markAsked 42 = .ok (.iaload, 1) := by decide +kernel
theorem d_Ans_markAsked_43 : decode b_Ans_markAsked 43 = .ok (.istore_n 2, 1) := by decide +kernel
theorem d_Ans_markAsked_44 : decode b_Ans_markAsked 44 = .ok (.iload_n 2, 1) := by decide +kernel
theorem d_Ans_markAsked_45 : decode b_Ans_markAsked 45 = .ok (.bipush 9, 2) := by decide +kernel
theorem d_Ans_markAsked_47 : decode b_Ans_markAsked 47 = .ok (.if_icmp .ge 18, 3) := by decide +kernel
theorem d_Ans_markAsked_50 : decode b_Ans_markAsked 50 = .ok (.aload_n 0, 1) := by decide +kernel
theorem d_Ans_markAsked_51 : decode b_Ans_markAsked 51 = .ok (.getfield 36, 3) := by decide +kernel
theorem d_Ans_markAsked_54 : decode b_Ans_markAsked 54 = .ok (.aload_n 0, 1) := by decide +kernel
theorem d_Ans_markAsked_55 : decode b_Ans_markAsked 55 = .ok (.getfield 57, 3) := by decide +kernel
theorem d_Ans_markAsked_58 : decode b_Ans_markAsked 58 = .ok (.getfield 175, 3) := by decide +kernel
theorem d_Ans_markAsked_61 : decode b_Ans_markAsked 61 = .ok (.iload_n 1, 1) := by decide +kernel
theorem d_Ans_markAsked_62 : decode b_Ans_markAsked 62 = .ok (.iaload, 1) := by decide +kernel
theorem d_Ans_markAsked_63 : decode b_Ans_markAsked 63 = .ok (.iconst 1, 1) := by decide +kernel
theorem d_Ans_markAsked_64 : decode b_Ans_markAsked 64 = .ok (.bastore, 1) := by decide +kernel
theorem d_Ans_markAsked_2 : decode b_Ans_markAsked 2 = .ok (.iload_n 1, 1) := by decide +kernel
theorem d_Ans_markAsked_3 : decode b_Ans_markAsked 3 = .ok (.bipush 64, 2) := by decide +kernel
theorem d_Ans_markAsked_5 : decode b_Ans_markAsked 5 = .ok (.if_icmp .ge 16, 3) := by decide +kernel
theorem d_Ans_markAsked_21 : decode b_Ans_markAsked 21 = .ok (.iconst 0, 1) := by decide +kernel
theorem d_Ans_markAsked_22 : decode b_Ans_markAsked 22 = .ok (.istore_n 1, 1) := by decide +kernel
theorem d_Ans_markAsked_8 : decode b_Ans_markAsked 8 = .ok (.aload_n 0, 1) := by decide +kernel
theorem d_Ans_markAsked_9 : decode b_Ans_markAsked 9 = .ok (.getfield 36, 3) := by decide +kernel
theorem d_Ans_markAsked_12 : decode b_Ans_markAsked 12 = .ok (.iload_n 1, 1) := by decide +kernel
theorem d_Ans_markAsked_13 : decode b_Ans_markAsked 13 = .ok (.iconst 0, 1) := by decide +kernel
theorem d_Ans_markAsked_14 : decode b_Ans_markAsked 14 = .ok (.bastore, 1) := by decide +kernel
theorem d_Ans_markAsked_15 : decode b_Ans_markAsked 15 = .ok (.iinc 1 1, 3) := by decide +kernel
theorem d_Ans_markAsked_18 : decode b_Ans_markAsked 18 = .ok (.goto (-16), 3) := by decide +kernel
theorem d_Ans_markAsked_0 : decode b_Ans_markAsked 0 = .ok (.iconst 0, 1) := by decide +kernel
theorem d_Ans_markAsked_1 : decode b_Ans_markAsked 1 = .ok (.istore_n 1, 1) := by decide +kernel
section
variable (l : Launch) (dC : Nat → ClassId) (dI : Nat → Nat → Nat) (cI cB cJ cZ : ClassId)
set_option maxRecDepth 100000 in
set_option maxHeartbeats 4000000 in
set_option maxRecDepth 100000 in
theorem t_Ans_gather_82 {p : Program} {l : Launch} {e : Env} {R : Room} {s : State} {m : MethodId} {args : Array Value} {below : List Frame} {meth : Method} {c : Code} {cells slots : Nat} {Q : State → Prop} {dC : Nat → ClassId} {dI : Nat → Nat → Nat} {cI cB cJ cZ : ClassId} {A : Nat → Prop} {ad : Nat → Nat} {NN : Nat} {E : Heap} {tM tC : Nat} {kK kV : Nat → Nat} {post : St → Prop} {rec2 : Nat → Int32 → Int32 → Int32 → St → Prop} (hx : p.tables.exec = Jvm.exec) (hb : c.code = b_Ans_gather) (hml : c.maxLocals = 5) (hown : s.vm.findClass R_Ans = some m.cls) (hT : ∀ w ∈ TG, w.before args s = true) (hK : va_K (dC, dI) CL (TY cI cB cJ cZ) s) (hN : NW s) (hA : ∀ q : Nat, s.heap.size ≤ q → A q) (hRc : cells ≤ R.cells) (hRs : slots ≤ R.slots) (hRf : 4 ≤ R.frames) (hRl : 164 ≤ R.locals) (hNN : 152 ≤ NN) (hE : CE E tM tC kK kV A s) (hret : ∀ (x : St) (H : Heap) (locs : List Loc) (pc : Nat) (ls : Array Slot), decode b_Ans_gather pc = .ok (.return_, 1) → post x → Wd dC dI cI cB cJ cZ ad stC kcC NN A x H → va_S A s.heap H locs → W p l e R s m args below meth c H locs cells slots Q (F0 m pc ls [])) (hrec2 : ∀ (o : Nat) (l1 : Int32) (l2 : Int32) (l3 : Int32) (x : St) (H : Heap) (locs : List Loc) (ls : Array Slot), (o < NN ∧ kcC o = 10) → rec2 o l1 l2 l3 x → Wd dC dI cI cB cJ cZ ad stC kcC NN A x H → va_S A s.heap H locs → lv_has ls 5 [(0, .ref (ad o)), (1, .int l1), (2, .int l2), (3, .int l3)] → W p l e R s m args below meth c H locs cells slots Q (F0 m 2 ls [])) : ∀ (o : Nat) (l1 : Int32) (l2 : Int32) (l3 : Int32) (l4 : Int32) (x : St) (H : Heap) (locs : List Loc) (ls : Array Slot), (o < NN ∧ kcC o = 10) → j_Ans_gather_82 post rec2 o l1 l2 l3 l4 x → Wd dC dI cI cB cJ cZ ad stC kcC NN A x H → va_S A s.heap H locs → lv_has ls 5 [(0, .ref (ad o)), (1, .int l1), (2, .int l2), (3, .int l3), (4, .int l4)] → W p l e R s m args below meth c H locs cells slots Q (F0 m 82 ls []) := by
  intro o l1 l2 l3 l4 x H locs ls fo hw hW hS hl
  unfold j_Ans_gather_82 at hw
  refine lv_iinc (v := (l3 + 1)) (lv' := [(3, .int (l3 + 1)), (0, .ref (ad o)), (1, .int l1), (2, .int l2), (4, .int l4)]) hx hb d_Ans_gather_82 hl (k := 3) rfl rfl (by decide) rfl (fun ls hl => ?_)
  refine lv_goto (tgt := 2) hx hb d_Ans_gather_85 (by decide) ?_
  exact hrec2 o l1 l2 (l3 + 1) x H locs ls fo hw hW hS (lv_sub hl [1, 2, 3, 0] rfl)
set_option maxRecDepth 100000 in
set_option maxHeartbeats 4000000 in
set_option maxRecDepth 100000 in
theorem t_Ans_gather_2 {p : Program} {l : Launch} {e : Env} {R : Room} {s : State} {m : MethodId} {args : Array Value} {below : List Frame} {meth : Method} {c : Code} {cells slots : Nat} {Q : State → Prop} {dC : Nat → ClassId} {dI : Nat → Nat → Nat} {cI cB cJ cZ : ClassId} {A : Nat → Prop} {ad : Nat → Nat} {NN : Nat} {E : Heap} {tM tC : Nat} {kK kV : Nat → Nat} {post : St → Prop} {rec2 : Nat → Int32 → Int32 → Int32 → St → Prop} (hx : p.tables.exec = Jvm.exec) (hb : c.code = b_Ans_gather) (hml : c.maxLocals = 5) (hown : s.vm.findClass R_Ans = some m.cls) (hT : ∀ w ∈ TG, w.before args s = true) (hK : va_K (dC, dI) CL (TY cI cB cJ cZ) s) (hN : NW s) (hA : ∀ q : Nat, s.heap.size ≤ q → A q) (hRc : cells ≤ R.cells) (hRs : slots ≤ R.slots) (hRf : 4 ≤ R.frames) (hRl : 164 ≤ R.locals) (hNN : 152 ≤ NN) (hE : CE E tM tC kK kV A s) (hret : ∀ (x : St) (H : Heap) (locs : List Loc) (pc : Nat) (ls : Array Slot), decode b_Ans_gather pc = .ok (.return_, 1) → post x → Wd dC dI cI cB cJ cZ ad stC kcC NN A x H → va_S A s.heap H locs → W p l e R s m args below meth c H locs cells slots Q (F0 m pc ls [])) (hrec2 : ∀ (o : Nat) (l1 : Int32) (l2 : Int32) (l3 : Int32) (x : St) (H : Heap) (locs : List Loc) (ls : Array Slot), (o < NN ∧ kcC o = 10) → rec2 o l1 l2 l3 x → Wd dC dI cI cB cJ cZ ad stC kcC NN A x H → va_S A s.heap H locs → lv_has ls 5 [(0, .ref (ad o)), (1, .int l1), (2, .int l2), (3, .int l3)] → W p l e R s m args below meth c H locs cells slots Q (F0 m 2 ls [])) : ∀ (o : Nat) (l1 : Int32) (l2 : Int32) (l3 : Int32) (x : St) (H : Heap) (locs : List Loc) (ls : Array Slot), (o < NN ∧ kcC o = 10) → j_Ans_gather_2 post rec2 o l1 l2 l3 x → Wd dC dI cI cB cJ cZ ad stC kcC NN A x H → va_S A s.heap H locs → lv_has ls 5 [(0, .ref (ad o)), (1, .int l1), (2, .int l2), (3, .int l3)] → W p l e R s m args below meth c H locs cells slots Q (F0 m 2 ls []) := by
  intro o l1 l2 l3 x H locs ls fo hw hW hS hl
  unfold j_Ans_gather_2 at hw
  refine lv_iload_n hx hb d_Ans_gather_2 rfl (lv_at hl 3 rfl) ?_
  refine lv_aload_n hx hb d_Ans_gather_3 rfl (lv_at hl 0 rfl) ?_
  refine w_geti (k := 7) (t := 10) (C := R_Ans) (T := F_Ans) (N := 16) hx hb hT hown hK hW fo.1 fo.2 (by decide) in_Ans rfl rfl (by decide) rfl fr_Ans_7 w_3_167 d_Ans_gather_4 ?_
  refine lv_icmp_ge (tgt := 88) hx hb d_Ans_gather_7 (by decide) (fun c1 => ?_) (fun c1 => ?_)
  · have hw := hw.1 c1
    exact hret x H locs 88 ls d_Ans_gather_88 hw hW hS
  · have hw := hw.2 c1
    refine lv_iload_n hx hb d_Ans_gather_10 rfl (lv_at hl 1 rfl) ?_
    refine lv_bipush (v := 16) hx hb d_Ans_gather_11 (by decide) ?_
    refine lv_imul hx hb d_Ans_gather_13 ?_
    refine lv_iload_n hx hb d_Ans_gather_14 rfl (lv_at hl 3 rfl) ?_
    refine lv_iadd hx hb d_Ans_gather_15 ?_
    refine lv_topi (fun v2 ev2 => ?_)
    have hw := hw v2 ev2
    refine lv_istore (lv' := [(4, .int v2), (0, .ref (ad o)), (1, .int l1), (2, .int l2), (3, .int l3)]) hx hb d_Ans_gather_16 hl (by decide) rfl (fun ls hl => ?_)
    refine lv_aload_n hx hb d_Ans_gather_18 rfl (lv_at hl 1 rfl) ?_
    obtain ⟨q3, hq3, hw⟩ := hw
    refine w_getr (q := q3) (k := 15) (t := 10) (C := R_Ans) (T := F_Ans) (N := 16) hx hb hT hown hK hW fo.1 fo.2 (by decide) in_Ans rfl rfl (by decide) rfl fr_Ans_15 w_3_177 d_Ans_gather_19 hq3 (fun aq3 bq3 => ?_)
    have fq3 : q3 < NN ∧ kcC q3 = 9 := ⟨aq3, bq3⟩
    refine w_getf (q := (stC q3 2)) (k := 2) (t := 9) (C := R_Qry) (T := F_Qry) (N := 20) hx hb hT hown hK hW fq3.1 fq3.2 (by decide) in_Qry rfl rfl (by decide) rfl fr_Qry_2 w_3_79 d_Ans_gather_22 rfl ?_
    refine lv_iload_n hx hb d_Ans_gather_25 rfl (lv_at hl 4 rfl) ?_
    obtain ⟨hi, hw⟩ := hw
    refine w_iald (o := (stC q3 2)) hx hb hK hW (st_ty hNN fq3.1 fq3.2 rfl).1 (st_ty hNN fq3.1 fq3.2 rfl).2 hi d_Ans_gather_26 ?_
    refine lv_iconst (v := 1) hx hb d_Ans_gather_27 (by decide) ?_
    refine lv_icmp_ne (tgt := 45) hx hb d_Ans_gather_28 (by decide) (fun c4 => ?_) (fun c4 => ?_)
    · have hw := hw.1 c4
      refine lv_aload_n hx hb d_Ans_gather_45 rfl (lv_at hl 1 rfl) ?_
      obtain ⟨q5, hq5, hw⟩ := hw
      refine w_getr (q := q5) (k := 15) (t := 10) (C := R_Ans) (T := F_Ans) (N := 16) hx hb hT hown hK hW fo.1 fo.2 (by decide) in_Ans rfl rfl (by decide) rfl fr_Ans_15 w_3_177 d_Ans_gather_46 hq5 (fun aq5 bq5 => ?_)
      have fq5 : q5 < NN ∧ kcC q5 = 9 := ⟨aq5, bq5⟩
      refine w_getf (q := (stC q5 2)) (k := 2) (t := 9) (C := R_Qry) (T := F_Qry) (N := 20) hx hb hT hown hK hW fq5.1 fq5.2 (by decide) in_Qry rfl rfl (by decide) rfl fr_Qry_2 w_3_79 d_Ans_gather_49 rfl ?_
      refine lv_iload_n hx hb d_Ans_gather_52 rfl (lv_at hl 4 rfl) ?_
      obtain ⟨hi, hw⟩ := hw
      refine w_iald (o := (stC q5 2)) hx hb hK hW (st_ty hNN fq5.1 fq5.2 rfl).1 (st_ty hNN fq5.1 fq5.2 rfl).2 hi d_Ans_gather_53 ?_
      refine lv_if_eq (tgt := 82) hx hb d_Ans_gather_54 (by decide) (fun c6 => ?_) (fun c6 => ?_)
      · have hw := hw.1 c6
        exact t_Ans_gather_82 hx hb hml hown hT hK hN hA hRc hRs hRf hRl hNN hE hret hrec2 o l1 l2 l3 v2 x H locs ls fo hw hW hS (lv_sub hl [1, 2, 3, 4, 0] rfl)
      · have hw := hw.2 c6
        refine lv_aload_n hx hb d_Ans_gather_57 rfl (lv_at hl 1 rfl) ?_
        refine lv_iload hx hb d_Ans_gather_58 (lv_at hl 0 rfl) ?_
        refine lv_aload_n hx hb d_Ans_gather_60 rfl (lv_at hl 1 rfl) ?_
        obtain ⟨q7, hq7, hw⟩ := hw
        refine w_getr (q := q7) (k := 15) (t := 10) (C := R_Ans) (T := F_Ans) (N := 16) hx hb hT hown hK hW fo.1 fo.2 (by decide) in_Ans rfl rfl (by decide) rfl fr_Ans_15 w_3_177 d_Ans_gather_61 hq7 (fun aq7 bq7 => ?_)
        have fq7 : q7 < NN ∧ kcC q7 = 9 := ⟨aq7, bq7⟩
        refine w_getf (q := (stC q7 2)) (k := 2) (t := 9) (C := R_Qry) (T := F_Qry) (N := 20) hx hb hT hown hK hW fq7.1 fq7.2 (by decide) in_Qry rfl rfl (by decide) rfl fr_Qry_2 w_3_79 d_Ans_gather_64 rfl ?_
        refine lv_iload_n hx hb d_Ans_gather_67 rfl (lv_at hl 4 rfl) ?_
        obtain ⟨hi, hw⟩ := hw
        refine w_iald (o := (stC q7 2)) hx hb hK hW (st_ty hNN fq7.1 fq7.2 rfl).1 (st_ty hNN fq7.1 fq7.2 rfl).2 hi d_Ans_gather_68 ?_
        refine lv_iload_n hx hb d_Ans_gather_69 rfl (lv_at hl 3 rfl) ?_
        refine lv_aload_n hx hb d_Ans_gather_70 rfl (lv_at hl 1 rfl) ?_
        obtain ⟨q8, hq8, hw⟩ := hw
        refine w_getr (q := q8) (k := 15) (t := 10) (C := R_Ans) (T := F_Ans) (N := 16) hx hb hT hown hK hW fo.1 fo.2 (by decide) in_Ans rfl rfl (by decide) rfl fr_Ans_15 w_3_177 d_Ans_gather_71 hq8 (fun aq8 bq8 => ?_)
        have fq8 : q8 < NN ∧ kcC q8 = 9 := ⟨aq8, bq8⟩
        refine w_getf (q := (stC q8 3)) (k := 3) (t := 9) (C := R_Qry) (T := F_Qry) (N := 20) hx hb hT hown hK hW fq8.1 fq8.2 (by decide) in_Qry rfl rfl (by decide) rfl fr_Qry_3 w_3_81 d_Ans_gather_74 rfl ?_
        refine lv_iload_n hx hb d_Ans_gather_77 rfl (lv_at hl 4 rfl) ?_
        obtain ⟨hi, hw⟩ := hw
        refine w_iald (o := (stC q8 3)) hx hb hK hW (st_ty hNN fq8.1 fq8.2 rfl).1 (st_ty hNN fq8.1 fq8.2 rfl).2 hi d_Ans_gather_78 ?_
        have hF := hW.free hS hA
        refine va_callv (va_runV (C := R_Ans) (As := [.int v2, .int (rA x (stC q7 2) l3), .int l2, .int (rA x (stC q8 3) l3)]) (rest := []) ⟨hx, hb, hml, hown, hT⟩ (k_Ans_gatherValue l dC dI cI cB cJ cZ ad NN E tM tC kK kV hNN H.size o v2 (rA x (stC q7 2) l3) l2 (rA x (stC q8 3) l3) x fo hw) ⟨callB_of 4 hT (gwt_in w_8_105) rfl rfl rfl (hT _ w_1_13) (hT _ w_8_102) (by decide +kernel) ⟨Nat.le_trans (Nat.le_of_ble_eq_true rfl) hRf, Nat.le_trans (Nat.le_of_ble_eq_true rfl) hRl⟩, hT _ w_8_104, hT _ ws_102⟩ ⟨PVc.blind, va_recv hK hW.1 (ci := 10) (q0 := o) rfl (pic_obj fo.1 fo.2 (by decide)), PVc.at _ hW hK hN hE hS hF⟩ rfl rfl hl.1 rfl (lv_room (Nat.le_of_ble_eq_true rfl)) d_Ans_gather_79 ⟨hRc, hRs⟩) hS (fun q _ h => hF q h) hF (fun  x9 t H locs ht hvm hw hB hz1 hk1 hS => ?_)
        have hW := Wd.back hB ht hF
        clear hB ht hF hz1 hk1 hvm
        exact t_Ans_gather_82 hx hb hml hown hT hK hN hA hRc hRs hRf hRl hNN hE hret hrec2 o l1 l2 l3 v2 x9 H locs ls fo hw hW hS (lv_sub hl [1, 2, 3, 4, 0] rfl)
    · have hw := hw.2 c4
      refine lv_aload_n hx hb d_Ans_gather_31 rfl (lv_at hl 1 rfl) ?_
      refine w_getf (q := (stC o 9)) (k := 9) (t := 10) (C := R_Ans) (T := F_Ans) (N := 16) hx hb hT hown hK hW fo.1 fo.2 (by decide) in_Ans rfl rfl (by decide) rfl fr_Ans_9 w_3_170 d_Ans_gather_32 rfl ?_
      refine lv_iload hx hb d_Ans_gather_35 (lv_at hl 0 rfl) ?_
      refine lv_dup2_11 hx hb d_Ans_gather_37 rfl rfl ?_
      obtain ⟨hi, hw⟩ := hw
      refine w_lald (o := (stC o 9)) hx hb hK hW (st_ty hNN fo.1 fo.2 rfl).1 (st_ty hNN fo.1 fo.2 rfl).2 hi d_Ans_gather_38 ?_
      refine lv_lconst (v := 1) hx hb d_Ans_gather_39 (by decide) ?_
      refine lv_ladd hx hb d_Ans_gather_40 ?_
      obtain ⟨hi, hw⟩ := hw
      refine w_last (o := (stC o 9)) hx hb hK hW hS (st_ty hNN fo.1 fo.2 rfl).1 (st_ty hNN fo.1 fo.2 rfl).2 hi d_Ans_gather_41 (fun H locs hW hS => ?_)
      obtain ⟨x10, ex10⟩ : ∃ y : St, y = setL x (stC o 9) v2 ((rL x (stC o 9) v2) + 1) := ⟨_, rfl⟩
      rw [← ex10] at hW
      have hw := hw x10 ex10
      refine lv_goto (tgt := 82) hx hb d_Ans_gather_42 (by decide) ?_
      exact t_Ans_gather_82 hx hb hml hown hT hK hN hA hRc hRs hRf hRl hNN hE hret hrec2 o l1 l2 l3 v2 x10 H locs ls fo hw hW hS (lv_sub hl [1, 2, 3, 4, 0] rfl)
set_option maxHeartbeats 4000000 in
set_option maxRecDepth 100000 in
theorem tl_Ans_gather_2 {p : Program} {l : Launch} {e : Env} {R : Room} {s : State} {m : MethodId} {args : Array Value} {below : List Frame} {meth : Method} {c : Code} {cells slots : Nat} {Q : State → Prop} {dC : Nat → ClassId} {dI : Nat → Nat → Nat} {cI cB cJ cZ : ClassId} {A : Nat → Prop} {ad : Nat → Nat} {NN : Nat} {E : Heap} {tM tC : Nat} {kK kV : Nat → Nat} {post : St → Prop} (hx : p.tables.exec = Jvm.exec) (hb : c.code = b_Ans_gather) (hml : c.maxLocals = 5) (hown : s.vm.findClass R_Ans = some m.cls) (hT : ∀ w ∈ TG, w.before args s = true) (hK : va_K (dC, dI) CL (TY cI cB cJ cZ) s) (hN : NW s) (hA : ∀ q : Nat, s.heap.size ≤ q → A q) (hRc : cells ≤ R.cells) (hRs : slots ≤ R.slots) (hRf : 4 ≤ R.frames) (hRl : 164 ≤ R.locals) (hNN : 152 ≤ NN) (hE : CE E tM tC kK kV A s) (hret : ∀ (x : St) (H : Heap) (locs : List Loc) (pc : Nat) (ls : Array Slot), decode b_Ans_gather pc = .ok (.return_, 1) → post x → Wd dC dI cI cB cJ cZ ad stC kcC NN A x H → va_S A s.heap H locs → W p l e R s m args below meth c H locs cells slots Q (F0 m pc ls []))  : ∀ n : Nat, ∀ (o : Nat) (l1 : Int32) (l2 : Int32) (l3 : Int32) (x : St) (H : Heap) (locs : List Loc) (ls : Array Slot), (o < NN ∧ kcC o = 10) → wl_Ans_gather_2 post n o l1 l2 l3 x → Wd dC dI cI cB cJ cZ ad stC kcC NN A x H → va_S A s.heap H locs → lv_has ls 5 [(0, .ref (ad o)), (1, .int l1), (2, .int l2), (3, .int l3)] → W p l e R s m args below meth c H locs cells slots Q (F0 m 2 ls []) := by
  intro n
  induction n with
  | zero => intro o l1 l2 l3 x H locs ls fo hw; exact hw.elim
  | succ n ih => intro o l1 l2 l3 x H locs ls fo hw hW hS hl; exact t_Ans_gather_2 hx hb hml hown hT hK hN hA hRc hRs hRf hRl hNN hE hret  ih o l1 l2 l3 x H locs ls fo hw hW hS hl
set_option maxRecDepth 100000 in
set_option maxHeartbeats 4000000 in
set_option maxRecDepth 100000 in
theorem t_Ans_gather_e {p : Program} {l : Launch} {e : Env} {R : Room} {s : State} {m : MethodId} {args : Array Value} {below : List Frame} {meth : Method} {c : Code} {cells slots : Nat} {Q : State → Prop} {dC : Nat → ClassId} {dI : Nat → Nat → Nat} {cI cB cJ cZ : ClassId} {A : Nat → Prop} {ad : Nat → Nat} {NN : Nat} {E : Heap} {tM tC : Nat} {kK kV : Nat → Nat} {post : St → Prop} (hx : p.tables.exec = Jvm.exec) (hb : c.code = b_Ans_gather) (hml : c.maxLocals = 5) (hown : s.vm.findClass R_Ans = some m.cls) (hT : ∀ w ∈ TG, w.before args s = true) (hK : va_K (dC, dI) CL (TY cI cB cJ cZ) s) (hN : NW s) (hA : ∀ q : Nat, s.heap.size ≤ q → A q) (hRc : cells ≤ R.cells) (hRs : slots ≤ R.slots) (hRf : 4 ≤ R.frames) (hRl : 164 ≤ R.locals) (hNN : 152 ≤ NN) (hE : CE E tM tC kK kV A s) (hret : ∀ (x : St) (H : Heap) (locs : List Loc) (pc : Nat) (ls : Array Slot), decode b_Ans_gather pc = .ok (.return_, 1) → post x → Wd dC dI cI cB cJ cZ ad stC kcC NN A x H → va_S A s.heap H locs → W p l e R s m args below meth c H locs cells slots Q (F0 m pc ls [])) : ∀ (o : Nat) (l1 : Int32) (l2 : Int32) (x : St) (H : Heap) (locs : List Loc) (ls : Array Slot), (o < NN ∧ kcC o = 10) → wp_Ans_gather post o l1 l2 x → Wd dC dI cI cB cJ cZ ad stC kcC NN A x H → va_S A s.heap H locs → lv_has ls 5 [(0, .ref (ad o)), (1, .int l1), (2, .int l2)] → W p l e R s m args below meth c H locs cells slots Q (F0 m 0 ls []) := by
  intro o l1 l2 x H locs ls fo hw hW hS hl
  unfold wp_Ans_gather at hw
  refine lv_iconst (v := 0) hx hb d_Ans_gather_0 (by decide) ?_
  refine lv_istore_n (lv' := [(3, .int 0), (0, .ref (ad o)), (1, .int l1), (2, .int l2)]) hx hb d_Ans_gather_1 rfl hl (by decide) rfl (fun ls hl => ?_)
  obtain ⟨n, hw⟩ := hw
  exact tl_Ans_gather_2 hx hb hml hown hT hK hN hA hRc hRs hRf hRl hNN hE hret  n o l1 l2 0 x H locs ls fo hw hW hS (lv_sub hl [1, 2, 3, 0] rfl)
set_option maxHeartbeats 4000000 in
set_option maxRecDepth 100000 in
theorem k_Ans_gather (l : Launch) (dC : Nat → ClassId) (dI : Nat → Nat → Nat) (cI cB cJ cZ : ClassId) (ad : Nat → Nat) (NN : Nat) (E : Heap) (tM tC : Nat) (kK kV : Nat → Nat) (hNN : 152 ≤ NN) (sz : Nat) (o : Nat) (l1 : Int32) (l2 : Int32) (x : St) (fo : o < NN ∧ kcC o = 10) {post : St → Prop} (hw : wp_Ans_gather post o l1 l2 x) : Met l y_Ans_gather (wsOf y_Ans_gather b_Ans_gather 5 (none)) ({ frames := 4, cells := 0, slots := 0, locals := 164 }) (va_Pc [.ref (ad o), .int l1, .int l2] (PVc dC dI cI cB cJ cZ ad stC kcC NN E tM tC kK kV sz x)) (va_Qv (fun (y : St) => post y) (fun y t => Wd dC dI cI cB cJ cZ ad stC kcC NN (va_A (pic ad stC kcC NN cI cB cJ cZ x) sz) y t.heap) (va_A (pic ad stC kcC NN cI cB cJ cZ x) sz)) 0 0 (va_A (pic ad stC kcC NN cI cB cJ cZ x) sz) := by
  refine Met.ofW (cc := b_Ans_gather) (maxL := 5) (ret := none) (by decide) rfl ?_
  intro p e s m args below meth c s₁ B hml hv
  obtain ⟨rfl, ⟨hsz, hW0, hK, hN⟩, hE⟩ := hv
  have hx := B.exec
  have hb := B.bytes
  have hr := B.returns
  have hts := atoms_spec B.pre
  have hT : ∀ w ∈ TG, w.before _ s = true := fun w h => hts w (List.mem_cons_of_mem _ h)
  have hown : s.vm.findClass R_Ans = some m.cls := findClass_of_methodNamed B.named
  have hlocks := B.notSynchronized
  subst hsz
  have hW : Wd dC dI cI cB cJ cZ ad stC kcC NN (va_A (pic ad stC kcC NN cI cB cJ cZ x) s.heap.size) x s.heap := ⟨hW0.1, hW0.2.1.self (sz := s.heap.size), hW0.2.2⟩
  generalize hAe : va_A (pic ad stC kcC NN cI cB cJ cZ x) s.heap.size = A at hW hE ⊢
  have hA : ∀ q : Nat, s.heap.size ≤ q → A q := fun q h => by rw [← hAe]; exact Or.inr h
  have hS : va_S A s.heap s.heap [] := va_S.rf
  have hl := lv_entry ([.ref (ad o), .int l1, .int l2]) (n := 5) (Nat.le_of_ble_eq_true rfl)
  rw [lg_entry_eq]
  generalize (lg_sl ([.ref (ad o), .int l1, .int l2]) ++ List.replicate (5 - (lg_sl ([.ref (ad o), .int l1, .int l2])).length) Slot.unset).toArray = ls at hl ⊢
  have hl : lv_has ls 5 [(0, .ref (ad o)), (1, .int l1), (2, .int l2)] := hl
  exact t_Ans_gather_e hx hb hml hown hT hK hN hA (Nat.le_refl 0) (Nat.le_refl 0) (Nat.le_refl 4) (Nat.le_refl 164) hNN hE (fun x H locs pc ls hd hp hW hS => W.vret hx hb hr (fun t ht hM => ⟨⟨x, rfl, hp, Wd.back hW ht.symm (fun _ z => z)⟩, hS.F ht⟩) hS.2.2 hd hlocks)  o l1 l2 x _ _ ls fo hw hW hS hl
set_option maxRecDepth 100000 in
set_option maxHeartbeats 4000000 in
set_option maxRecDepth 100000 in
theorem t_Ans_markWanted_60 {p : Program} {l : Launch} {e : Env} {R : Room} {s : State} {m : MethodId} {args : Array Value} {below : List Frame} {meth : Method} {c : Code} {cells slots : Nat} {Q : State → Prop} {dC : Nat → ClassId} {dI : Nat → Nat → Nat} {cI cB cJ cZ : ClassId} {A : Nat → Prop} {ad : Nat → Nat} {NN : Nat} {E : Heap} {tM tC : Nat} {kK kV : Nat → Nat} {post : St → Prop} {rec32 : Nat → Nat → Int32 → St → Prop} {rec60 : Nat → Nat → Int32 → Int32 → Int32 → St → Prop} (hx : p.tables.exec = Jvm.exec) (hb : c.code = b_Ans_markWanted) (hml : c.maxLocals = 5) (hown : s.vm.findClass R_Ans = some m.cls) (hT : ∀ w ∈ TG, w.before args s = true) (hK : va_K (dC, dI) CL (TY cI cB cJ cZ) s) (hN : NW s) (hA : ∀ q : Nat, s.heap.size ≤ q → A q) (hRc : cells ≤ R.cells) (hRs : slots ≤ R.slots) (hRf : 0 ≤ R.frames) (hRl : 0 ≤ R.locals) (hNN : 152 ≤ NN) (hE : CE E tM tC kK kV A s) (hret : ∀ (x : St) (H : Heap) (locs : List Loc) (pc : Nat) (ls : Array Slot), decode b_Ans_markWanted pc = .ok (.return_, 1) → post x → Wd dC dI cI cB cJ cZ ad stC kcC NN A x H → va_S A s.heap H locs → W p l e R s m args below meth c H locs cells slots Q (F0 m pc ls [])) (hrec32 : ∀ (o : Nat) (l1 : Nat) (l2 : Int32) (x : St) (H : Heap) (locs : List Loc) (ls : Array Slot), (o < NN ∧ kcC o = 10) → (l1 < NN ∧ kcC l1 = 3) → rec32 o l1 l2 x → Wd dC dI cI cB cJ cZ ad stC kcC NN A x H → va_S A s.heap H locs → lv_has ls 5 [(0, .ref (ad o)), (1, .ref (ad l1)), (2, .int l2)] → W p l e R s m args below meth c H locs cells slots Q (F0 m 32 ls [])) (hrec60 : ∀ (o : Nat) (l1 : Nat) (l2 : Int32) (l3 : Int32) (l4 : Int32) (x : St) (H : Heap) (locs : List Loc) (ls : Array Slot), (o < NN ∧ kcC o = 10) → (l1 < NN ∧ kcC l1 = 3) → rec60 o l1 l2 l3 l4 x → Wd dC dI cI cB cJ cZ ad stC kcC NN A x H → va_S A s.heap H locs → lv_has ls 5 [(0, .ref (ad o)), (1, .ref (ad l1)), (2, .int l2), (3, .int l3), (4, .int l4)] → W p l e R s m args below meth c H locs cells slots Q (F0 m 60 ls [])) : ∀ (o : Nat) (l1 : Nat) (l2 : Int32) (l3 : Int32) (l4 : Int32) (x : St) (H : Heap) (locs : List Loc) (ls : Array Slot), (o < NN ∧ kcC o = 10) → (l1 < NN ∧ kcC l1 = 3) → j_Ans_markWanted_60 post rec32 rec60 o l1 l2 l3 l4 x → Wd dC dI cI cB cJ cZ ad stC kcC NN A x H → va_S A s.heap H locs → lv_has ls 5 [(0, .ref (ad o)), (1, .ref (ad l1)), (2, .int l2), (3, .int l3), (4, .int l4)] → W p l e R s m args below meth c H locs cells slots Q (F0 m 60 ls []) := by
  intro o l1 l2 l3 l4 x H locs ls fo fl1 hw hW hS hl
  unfold j_Ans_markWanted_60 at hw
  refine lv_iload hx hb d_Ans_markWanted_60 (lv_at hl 4 rfl) ?_
  refine lv_aload_n hx hb d_Ans_markWanted_62 rfl (lv_at hl 1 rfl) ?_
  refine w_getf (q := (stC l1 8)) (k := 8) (t := 3) (C := R_Sch) (T := F_Sch) (N := 13) hx hb hT hown hK hW fl1.1 fl1.2 (by decide) in_Sch rfl rfl (by decide) rfl fr_Sch_8 w_1_171 d_Ans_markWanted_63 rfl ?_
  refine lv_iload_n hx hb d_Ans_markWanted_66 rfl (lv_at hl 3 rfl) ?_
  obtain ⟨hi, hw⟩ := hw
  refine w_iald (o := (stC l1 8)) hx hb hK hW (st_ty hNN fl1.1 fl1.2 rfl).1 (st_ty hNN fl1.1 fl1.2 rfl).2 hi d_Ans_markWanted_67 ?_
  refine lv_icmp_ge (tgt := 85) hx hb d_Ans_markWanted_68 (by decide) (fun c1 => ?_) (fun c1 => ?_)
  · have hw := hw.1 c1
    refine lv_iinc (v := (l2 + 1)) (lv' := [(2, .int (l2 + 1)), (0, .ref (ad o)), (1, .ref (ad l1)), (3, .int l3), (4, .int l4)]) hx hb d_Ans_markWanted_85 hl (k := 2) rfl rfl (by decide) rfl (fun ls hl => ?_)
    refine lv_goto (tgt := 32) hx hb d_Ans_markWanted_88 (by decide) ?_
    exact hrec32 o l1 (l2 + 1) x H locs ls fo fl1 hw hW hS (lv_sub hl [1, 2, 0] rfl)
  · have hw := hw.2 c1
    refine lv_aload_n hx hb d_Ans_markWanted_71 rfl (lv_at hl 0 rfl) ?_
    refine w_getf (q := (stC o 4)) (k := 4) (t := 10) (C := R_Ans) (T := F_Ans) (N := 16) hx hb hT hown hK hW fo.1 fo.2 (by decide) in_Ans rfl rfl (by decide) rfl fr_Ans_4 w_3_163 d_Ans_markWanted_72 rfl ?_
    refine lv_iload hx hb d_Ans_markWanted_75 (lv_at hl 4 rfl) ?_
    refine lv_iconst (v := 1) hx hb d_Ans_markWanted_77 (by decide) ?_
    obtain ⟨hi, hw⟩ := hw
    refine w_zast (o := (stC o 4)) hx hb hK hW hS (st_ty hNN fo.1 fo.2 rfl).1 (st_ty hNN fo.1 fo.2 rfl).2 hi d_Ans_markWanted_78 (fun H locs hW hS => ?_)
    obtain ⟨x2, ex2⟩ : ∃ y : St, y = setA x (stC o 4) l4 (vp_nar .boolean 1) := ⟨_, rfl⟩
    rw [← ex2] at hW
    have hw := hw x2 ex2
    refine lv_iinc (v := (l4 + 1)) (lv' := [(4, .int (l4 + 1)), (0, .ref (ad o)), (1, .ref (ad l1)), (2, .int l2), (3, .int l3)]) hx hb d_Ans_markWanted_79 hl (k := 4) rfl rfl (by decide) rfl (fun ls hl => ?_)
    refine lv_goto (tgt := 60) hx hb d_Ans_markWanted_82 (by decide) ?_
    exact hrec60 o l1 l2 l3 (l4 + 1) x2 H locs ls fo fl1 hw hW hS (lv_sub hl [1, 2, 3, 4, 0] rfl)
set_option maxHeartbeats 4000000 in
set_option maxRecDepth 100000 in
theorem tl_Ans_markWanted_60 {p : Program} {l : Launch} {e : Env} {R : Room} {s : State} {m : MethodId} {args : Array Value} {below : List Frame} {meth : Method} {c : Code} {cells slots : Nat} {Q : State → Prop} {dC : Nat → ClassId} {dI : Nat → Nat → Nat} {cI cB cJ cZ : ClassId} {A : Nat → Prop} {ad : Nat → Nat} {NN : Nat} {E : Heap} {tM tC : Nat} {kK kV : Nat → Nat} {post : St → Prop} {rec32 : Nat → Nat → Int32 → St → Prop} (hx : p.tables.exec = Jvm.exec) (hb : c.code = b_Ans_markWanted) (hml : c.maxLocals = 5) (hown : s.vm.findClass R_Ans = some m.cls) (hT : ∀ w ∈ TG, w.before args s = true) (hK : va_K (dC, dI) CL (TY cI cB cJ cZ) s) (hN : NW s) (hA : ∀ q : Nat, s.heap.size ≤ q → A q) (hRc : cells ≤ R.cells) (hRs : slots ≤ R.slots) (hRf : 0 ≤ R.frames) (hRl : 0 ≤ R.locals) (hNN : 152 ≤ NN) (hE : CE E tM tC kK kV A s) (hret : ∀ (x : St) (H : Heap) (locs : List Loc) (pc : Nat) (ls : Array Slot), decode b_Ans_markWanted pc = .ok (.return_, 1) → post x → Wd dC dI cI cB cJ cZ ad stC kcC NN A x H → va_S A s.heap H locs → W p l e R s m args below meth c H locs cells slots Q (F0 m pc ls [])) (hrec32 : ∀ (o : Nat) (l1 : Nat) (l2 : Int32) (x : St) (H : Heap) (locs : List Loc) (ls : Array Slot), (o < NN ∧ kcC o = 10) → (l1 < NN ∧ kcC l1 = 3) → rec32 o l1 l2 x → Wd dC dI cI cB cJ cZ ad stC kcC NN A x H → va_S A s.heap H locs → lv_has ls 5 [(0, .ref (ad o)), (1, .ref (ad l1)), (2, .int l2)] → W p l e R s m args below meth c H locs cells slots Q (F0 m 32 ls [])) : ∀ n : Nat, ∀ (o : Nat) (l1 : Nat) (l2 : Int32) (l3 : Int32) (l4 : Int32) (x : St) (H : Heap) (locs : List Loc) (ls : Array Slot), (o < NN ∧ kcC o = 10) → (l1 < NN ∧ kcC l1 = 3) → wl_Ans_markWanted_60 post rec32 n o l1 l2 l3 l4 x → Wd dC dI cI cB cJ cZ ad stC kcC NN A x H → va_S A s.heap H locs → lv_has ls 5 [(0, .ref (ad o)), (1, .ref (ad l1)), (2, .int l2), (3, .int l3), (4, .int l4)] → W p l e R s m args below meth c H locs cells slots Q (F0 m 60 ls []) := by
  intro n
  induction n with
  | zero => intro o l1 l2 l3 l4 x H locs ls fo fl1 hw; exact hw.elim
  | succ n ih => intro o l1 l2 l3 l4 x H locs ls fo fl1 hw hW hS hl; exact t_Ans_markWanted_60 hx hb hml hown hT hK hN hA hRc hRs hRf hRl hNN hE hret hrec32 ih o l1 l2 l3 l4 x H locs ls fo fl1 hw hW hS hl
set_option maxRecDepth 100000 in
set_option maxHeartbeats 4000000 in
set_option maxRecDepth 100000 in
theorem t_Ans_markWanted_32 {p : Program} {l : Launch} {e : Env} {R : Room} {s : State} {m : MethodId} {args : Array Value} {below : List Frame} {meth : Method} {c : Code} {cells slots : Nat} {Q : State → Prop} {dC : Nat → ClassId} {dI : Nat → Nat → Nat} {cI cB cJ cZ : ClassId} {A : Nat → Prop} {ad : Nat → Nat} {NN : Nat} {E : Heap} {tM tC : Nat} {kK kV : Nat → Nat} {post : St → Prop} {rec32 : Nat → Nat → Int32 → St → Prop} (hx : p.tables.exec = Jvm.exec) (hb : c.code = b_Ans_markWanted) (hml : c.maxLocals = 5) (hown : s.vm.findClass R_Ans = some m.cls) (hT : ∀ w ∈ TG, w.before args s = true) (hK : va_K (dC, dI) CL (TY cI cB cJ cZ) s) (hN : NW s) (hA : ∀ q : Nat, s.heap.size ≤ q → A q) (hRc : cells ≤ R.cells) (hRs : slots ≤ R.slots) (hRf : 0 ≤ R.frames) (hRl : 0 ≤ R.locals) (hNN : 152 ≤ NN) (hE : CE E tM tC kK kV A s) (hret : ∀ (x : St) (H : Heap) (locs : List Loc) (pc : Nat) (ls : Array Slot), decode b_Ans_markWanted pc = .ok (.return_, 1) → post x → Wd dC dI cI cB cJ cZ ad stC kcC NN A x H → va_S A s.heap H locs → W p l e R s m args below meth c H locs cells slots Q (F0 m pc ls [])) (hrec32 : ∀ (o : Nat) (l1 : Nat) (l2 : Int32) (x : St) (H : Heap) (locs : List Loc) (ls : Array Slot), (o < NN ∧ kcC o = 10) → (l1 < NN ∧ kcC l1 = 3) → rec32 o l1 l2 x → Wd dC dI cI cB cJ cZ ad stC kcC NN A x H → va_S A s.heap H locs → lv_has ls 5 [(0, .ref (ad o)), (1, .ref (ad l1)), (2, .int l2)] → W p l e R s m args below meth c H locs cells slots Q (F0 m 32 ls [])) : ∀ (o : Nat) (l1 : Nat) (l2 : Int32) (x : St) (H : Heap) (locs : List Loc) (ls : Array Slot), (o < NN ∧ kcC o = 10) → (l1 < NN ∧ kcC l1 = 3) → j_Ans_markWanted_32 post rec32 o l1 l2 x → Wd dC dI cI cB cJ cZ ad stC kcC NN A x H → va_S A s.heap H locs → lv_has ls 5 [(0, .ref (ad o)), (1, .ref (ad l1)), (2, .int l2)] → W p l e R s m args below meth c H locs cells slots Q (F0 m 32 ls []) := by
  intro o l1 l2 x H locs ls fo fl1 hw hW hS hl
  unfold j_Ans_markWanted_32 at hw
  refine lv_iload_n hx hb d_Ans_markWanted_32 rfl (lv_at hl 2 rfl) ?_
  refine lv_aload_n hx hb d_Ans_markWanted_33 rfl (lv_at hl 0 rfl) ?_
  refine w_geti (k := 7) (t := 10) (C := R_Ans) (T := F_Ans) (N := 16) hx hb hT hown hK hW fo.1 fo.2 (by decide) in_Ans rfl rfl (by decide) rfl fr_Ans_7 w_3_167 d_Ans_markWanted_34 ?_
  refine lv_icmp_ge (tgt := 91) hx hb d_Ans_markWanted_37 (by decide) (fun c3 => ?_) (fun c3 => ?_)
  · have hw := hw.1 c3
    exact hret x H locs 91 ls d_Ans_markWanted_91 hw hW hS
  · have hw := hw.2 c3
    refine lv_aload_n hx hb d_Ans_markWanted_40 rfl (lv_at hl 0 rfl) ?_
    refine w_geti (k := 6) (t := 10) (C := R_Ans) (T := F_Ans) (N := 16) hx hb hT hown hK hW fo.1 fo.2 (by decide) in_Ans rfl rfl (by decide) rfl fr_Ans_6 w_3_166 d_Ans_markWanted_41 ?_
    refine lv_if_ne (tgt := 91) hx hb d_Ans_markWanted_44 (by decide) (fun c4 => ?_) (fun c4 => ?_)
    · have hw := hw.1 c4
      exact hret x H locs 91 ls d_Ans_markWanted_91 hw hW hS
    · have hw := hw.2 c4
      refine lv_aload_n hx hb d_Ans_markWanted_47 rfl (lv_at hl 0 rfl) ?_
      obtain ⟨q5, hq5, hw⟩ := hw
      refine w_getr (q := q5) (k := 15) (t := 10) (C := R_Ans) (T := F_Ans) (N := 16) hx hb hT hown hK hW fo.1 fo.2 (by decide) in_Ans rfl rfl (by decide) rfl fr_Ans_15 w_3_177 d_Ans_markWanted_48 hq5 (fun aq5 bq5 => ?_)
      have fq5 : q5 < NN ∧ kcC q5 = 9 := ⟨aq5, bq5⟩
      refine w_getf (q := (stC q5 3)) (k := 3) (t := 9) (C := R_Qry) (T := F_Qry) (N := 20) hx hb hT hown hK hW fq5.1 fq5.2 (by decide) in_Qry rfl rfl (by decide) rfl fr_Qry_3 w_3_81 d_Ans_markWanted_51 rfl ?_
      refine lv_iload_n hx hb d_Ans_markWanted_54 rfl (lv_at hl 2 rfl) ?_
      obtain ⟨hi, hw⟩ := hw
      refine w_iald (o := (stC q5 3)) hx hb hK hW (st_ty hNN fq5.1 fq5.2 rfl).1 (st_ty hNN fq5.1 fq5.2 rfl).2 hi d_Ans_markWanted_55 ?_
      refine lv_topi (fun v6 ev6 => ?_)
      have hw := hw v6 ev6
      refine lv_istore_n (lv' := [(3, .int v6), (0, .ref (ad o)), (1, .ref (ad l1)), (2, .int l2)]) hx hb d_Ans_markWanted_56 rfl hl (by decide) rfl (fun ls hl => ?_)
      refine lv_iload_n hx hb d_Ans_markWanted_57 rfl (lv_at hl 0 rfl) ?_
      refine lv_istore (lv' := [(4, .int v6), (3, .int v6), (0, .ref (ad o)), (1, .ref (ad l1)), (2, .int l2)]) hx hb d_Ans_markWanted_58 hl (by decide) rfl (fun ls hl => ?_)
      obtain ⟨n, hw⟩ := hw
      exact tl_Ans_markWanted_60 hx hb hml hown hT hK hN hA hRc hRs hRf hRl hNN hE hret hrec32 n o l1 l2 v6 v6 x H locs ls fo fl1 hw hW hS (lv_sub hl [2, 3, 4, 1, 0] rfl)
set_option maxHeartbeats 4000000 in
set_option maxRecDepth 100000 in
theorem tl_Ans_markWanted_32 {p : Program} {l : Launch} {e : Env} {R : Room} {s : State} {m : MethodId} {args : Array Value} {below : List Frame} {meth : Method} {c : Code} {cells slots : Nat} {Q : State → Prop} {dC : Nat → ClassId} {dI : Nat → Nat → Nat} {cI cB cJ cZ : ClassId} {A : Nat → Prop} {ad : Nat → Nat} {NN : Nat} {E : Heap} {tM tC : Nat} {kK kV : Nat → Nat} {post : St → Prop} (hx : p.tables.exec = Jvm.exec) (hb : c.code = b_Ans_markWanted) (hml : c.maxLocals = 5) (hown : s.vm.findClass R_Ans = some m.cls) (hT : ∀ w ∈ TG, w.before args s = true) (hK : va_K (dC, dI) CL (TY cI cB cJ cZ) s) (hN : NW s) (hA : ∀ q : Nat, s.heap.size ≤ q → A q) (hRc : cells ≤ R.cells) (hRs : slots ≤ R.slots) (hRf : 0 ≤ R.frames) (hRl : 0 ≤ R.locals) (hNN : 152 ≤ NN) (hE : CE E tM tC kK kV A s) (hret : ∀ (x : St) (H : Heap) (locs : List Loc) (pc : Nat) (ls : Array Slot), decode b_Ans_markWanted pc = .ok (.return_, 1) → post x → Wd dC dI cI cB cJ cZ ad stC kcC NN A x H → va_S A s.heap H locs → W p l e R s m args below meth c H locs cells slots Q (F0 m pc ls []))  : ∀ n : Nat, ∀ (o : Nat) (l1 : Nat) (l2 : Int32) (x : St) (H : Heap) (locs : List Loc) (ls : Array Slot), (o < NN ∧ kcC o = 10) → (l1 < NN ∧ kcC l1 = 3) → wl_Ans_markWanted_32 post n o l1 l2 x → Wd dC dI cI cB cJ cZ ad stC kcC NN A x H → va_S A s.heap H locs → lv_has ls 5 [(0, .ref (ad o)), (1, .ref (ad l1)), (2, .int l2)] → W p l e R s m args below meth c H locs cells slots Q (F0 m 32 ls []) := by
  intro n
  induction n with
  | zero => intro o l1 l2 x H locs ls fo fl1 hw; exact hw.elim
  | succ n ih => intro o l1 l2 x H locs ls fo fl1 hw hW hS hl; exact t_Ans_markWanted_32 hx hb hml hown hT hK hN hA hRc hRs hRf hRl hNN hE hret  ih o l1 l2 x H locs ls fo fl1 hw hW hS hl
set_option maxRecDepth 100000 in
set_option maxHeartbeats 4000000 in
set_option maxRecDepth 100000 in
theorem t_Ans_markWanted_10 {p : Program} {l : Launch} {e : Env} {R : Room} {s : State} {m : MethodId} {args : Array Value} {below : List Frame} {meth : Method} {c : Code} {cells slots : Nat} {Q : State → Prop} {dC : Nat → ClassId} {dI : Nat → Nat → Nat} {cI cB cJ cZ : ClassId} {A : Nat → Prop} {ad : Nat → Nat} {NN : Nat} {E : Heap} {tM tC : Nat} {kK kV : Nat → Nat} {post : St → Prop} {rec10 : Nat → Nat → Int32 → St → Prop} (hx : p.tables.exec = Jvm.exec) (hb : c.code = b_Ans_markWanted) (hml : c.maxLocals = 5) (hown : s.vm.findClass R_Ans = some m.cls) (hT : ∀ w ∈ TG, w.before args s = true) (hK : va_K (dC, dI) CL (TY cI cB cJ cZ) s) (hN : NW s) (hA : ∀ q : Nat, s.heap.size ≤ q → A q) (hRc : cells ≤ R.cells) (hRs : slots ≤ R.slots) (hRf : 0 ≤ R.frames) (hRl : 0 ≤ R.locals) (hNN : 152 ≤ NN) (hE : CE E tM tC kK kV A s) (hret : ∀ (x : St) (H : Heap) (locs : List Loc) (pc : Nat) (ls : Array Slot), decode b_Ans_markWanted pc = .ok (.return_, 1) → post x → Wd dC dI cI cB cJ cZ ad stC kcC NN A x H → va_S A s.heap H locs → W p l e R s m args below meth c H locs cells slots Q (F0 m pc ls [])) (hrec10 : ∀ (o : Nat) (l1 : Nat) (l2 : Int32) (x : St) (H : Heap) (locs : List Loc) (ls : Array Slot), (o < NN ∧ kcC o = 10) → (l1 < NN ∧ kcC l1 = 3) → rec10 o l1 l2 x → Wd dC dI cI cB cJ cZ ad stC kcC NN A x H → va_S A s.heap H locs → lv_has ls 5 [(0, .ref (ad o)), (1, .ref (ad l1)), (2, .int l2)] → W p l e R s m args below meth c H locs cells slots Q (F0 m 10 ls [])) : ∀ (o : Nat) (l1 : Nat) (l2 : Int32) (x : St) (H : Heap) (locs : List Loc) (ls : Array Slot), (o < NN ∧ kcC o = 10) → (l1 < NN ∧ kcC l1 = 3) → j_Ans_markWanted_10 post rec10 o l1 l2 x → Wd dC dI cI cB cJ cZ ad stC kcC NN A x H → va_S A s.heap H locs → lv_has ls 5 [(0, .ref (ad o)), (1, .ref (ad l1)), (2, .int l2)] → W p l e R s m args below meth c H locs cells slots Q (F0 m 10 ls []) := by
  intro o l1 l2 x H locs ls fo fl1 hw hW hS hl
  unfold j_Ans_markWanted_10 at hw
  refine lv_iload_n hx hb d_Ans_markWanted_10 rfl (lv_at hl 2 rfl) ?_
  refine lv_sipush (v := 128) hx hb d_Ans_markWanted_11 (by decide) ?_
  refine lv_icmp_ge (tgt := 30) hx hb d_Ans_markWanted_14 (by decide) (fun c7 => ?_) (fun c7 => ?_)
  · have hw := hw.1 c7
    refine lv_iconst (v := 0) hx hb d_Ans_markWanted_30 (by decide) ?_
    refine lv_istore_n (lv' := [(2, .int 0), (0, .ref (ad o)), (1, .ref (ad l1))]) hx hb d_Ans_markWanted_31 rfl hl (by decide) rfl (fun ls hl => ?_)
    obtain ⟨n, hw⟩ := hw
    exact tl_Ans_markWanted_32 hx hb hml hown hT hK hN hA hRc hRs hRf hRl hNN hE hret  n o l1 0 x H locs ls fo fl1 hw hW hS (lv_sub hl [1, 2, 0] rfl)
  · have hw := hw.2 c7
    refine lv_aload_n hx hb d_Ans_markWanted_17 rfl (lv_at hl 0 rfl) ?_
    refine w_getf (q := (stC o 4)) (k := 4) (t := 10) (C := R_Ans) (T := F_Ans) (N := 16) hx hb hT hown hK hW fo.1 fo.2 (by decide) in_Ans rfl rfl (by decide) rfl fr_Ans_4 w_3_163 d_Ans_markWanted_18 rfl ?_
    refine lv_iload_n hx hb d_Ans_markWanted_21 rfl (lv_at hl 2 rfl) ?_
    refine lv_iconst (v := 0) hx hb d_Ans_markWanted_22 (by decide) ?_
    obtain ⟨hi, hw⟩ := hw
    refine w_zast (o := (stC o 4)) hx hb hK hW hS (st_ty hNN fo.1 fo.2 rfl).1 (st_ty hNN fo.1 fo.2 rfl).2 hi d_Ans_markWanted_23 (fun H locs hW hS => ?_)
    obtain ⟨x8, ex8⟩ : ∃ y : St, y = setA x (stC o 4) l2 (vp_nar .boolean 0) := ⟨_, rfl⟩
    rw [← ex8] at hW
    have hw := hw x8 ex8
    refine lv_iinc (v := (l2 + 1)) (lv' := [(2, .int (l2 + 1)), (0, .ref (ad o)), (1, .ref (ad l1))]) hx hb d_Ans_markWanted_24 hl (k := 2) rfl rfl (by decide) rfl (fun ls hl => ?_)
    refine lv_goto (tgt := 10) hx hb d_Ans_markWanted_27 (by decide) ?_
    exact hrec10 o l1 (l2 + 1) x8 H locs ls fo fl1 hw hW hS (lv_sub hl [1, 2, 0] rfl)
set_option maxHeartbeats 4000000 in
set_option maxRecDepth 100000 in
theorem tl_Ans_markWanted_10 {p : Program} {l : Launch} {e : Env} {R : Room} {s : State} {m : MethodId} {args : Array Value} {below : List Frame} {meth : Method} {c : Code} {cells slots : Nat} {Q : State → Prop} {dC : Nat → ClassId} {dI : Nat → Nat → Nat} {cI cB cJ cZ : ClassId} {A : Nat → Prop} {ad : Nat → Nat} {NN : Nat} {E : Heap} {tM tC : Nat} {kK kV : Nat → Nat} {post : St → Prop} (hx : p.tables.exec = Jvm.exec) (hb : c.code = b_Ans_markWanted) (hml : c.maxLocals = 5) (hown : s.vm.findClass R_Ans = some m.cls) (hT : ∀ w ∈ TG, w.before args s = true) (hK : va_K (dC, dI) CL (TY cI cB cJ cZ) s) (hN : NW s) (hA : ∀ q : Nat, s.heap.size ≤ q → A q) (hRc : cells ≤ R.cells) (hRs : slots ≤ R.slots) (hRf : 0 ≤ R.frames) (hRl : 0 ≤ R.locals) (hNN : 152 ≤ NN) (hE : CE E tM tC kK kV A s) (hret : ∀ (x : St) (H : Heap) (locs : List Loc) (pc : Nat) (ls : Array Slot), decode b_Ans_markWanted pc = .ok (.return_, 1) → post x → Wd dC dI cI cB cJ cZ ad stC kcC NN A x H → va_S A s.heap H locs → W p l e R s m args below meth c H locs cells slots Q (F0 m pc ls []))  : ∀ n : Nat, ∀ (o : Nat) (l1 : Nat) (l2 : Int32) (x : St) (H : Heap) (locs : List Loc) (ls : Array Slot), (o < NN ∧ kcC o = 10) → (l1 < NN ∧ kcC l1 = 3) → wl_Ans_markWanted_10 post n o l1 l2 x → Wd dC dI cI cB cJ cZ ad stC kcC NN A x H → va_S A s.heap H locs → lv_has ls 5 [(0, .ref (ad o)), (1, .ref (ad l1)), (2, .int l2)] → W p l e R s m args below meth c H locs cells slots Q (F0 m 10 ls []) := by
  intro n
  induction n with
  | zero => intro o l1 l2 x H locs ls fo fl1 hw; exact hw.elim
  | succ n ih => intro o l1 l2 x H locs ls fo fl1 hw hW hS hl; exact t_Ans_markWanted_10 hx hb hml hown hT hK hN hA hRc hRs hRf hRl hNN hE hret  ih o l1 l2 x H locs ls fo fl1 hw hW hS hl
set_option maxRecDepth 100000 in
set_option maxHeartbeats 4000000 in
set_option maxRecDepth 100000 in
theorem t_Ans_markWanted_e {p : Program} {l : Launch} {e : Env} {R : Room} {s : State} {m : MethodId} {args : Array Value} {below : List Frame} {meth : Method} {c : Code} {cells slots : Nat} {Q : State → Prop} {dC : Nat → ClassId} {dI : Nat → Nat → Nat} {cI cB cJ cZ : ClassId} {A : Nat → Prop} {ad : Nat → Nat} {NN : Nat} {E : Heap} {tM tC : Nat} {kK kV : Nat → Nat} {post : St → Prop} (hx : p.tables.exec = Jvm.exec) (hb : c.code = b_Ans_markWanted) (hml : c.maxLocals = 5) (hown : s.vm.findClass R_Ans = some m.cls) (hT : ∀ w ∈ TG, w.before args s = true) (hK : va_K (dC, dI) CL (TY cI cB cJ cZ) s) (hN : NW s) (hA : ∀ q : Nat, s.heap.size ≤ q → A q) (hRc : cells ≤ R.cells) (hRs : slots ≤ R.slots) (hRf : 0 ≤ R.frames) (hRl : 0 ≤ R.locals) (hNN : 152 ≤ NN) (hE : CE E tM tC kK kV A s) (hret : ∀ (x : St) (H : Heap) (locs : List Loc) (pc : Nat) (ls : Array Slot), decode b_Ans_markWanted pc = .ok (.return_, 1) → post x → Wd dC dI cI cB cJ cZ ad stC kcC NN A x H → va_S A s.heap H locs → W p l e R s m args below meth c H locs cells slots Q (F0 m pc ls [])) : ∀ (o : Nat) (x : St) (H : Heap) (locs : List Loc) (ls : Array Slot), (o < NN ∧ kcC o = 10) → wp_Ans_markWanted post o x → Wd dC dI cI cB cJ cZ ad stC kcC NN A x H → va_S A s.heap H locs → lv_has ls 5 [(0, .ref (ad o))] → W p l e R s m args below meth c H locs cells slots Q (F0 m 0 ls []) := by
  intro o x H locs ls fo hw hW hS hl
  unfold wp_Ans_markWanted at hw
  refine lv_aload_n hx hb d_Ans_markWanted_0 rfl (lv_at hl 0 rfl) ?_
  obtain ⟨q9, hq9, hw⟩ := hw
  refine w_getr (q := q9) (k := 14) (t := 10) (C := R_Ans) (T := F_Ans) (N := 16) hx hb hT hown hK hW fo.1 fo.2 (by decide) in_Ans rfl rfl (by decide) rfl fr_Ans_14 w_3_176 d_Ans_markWanted_1 hq9 (fun aq9 bq9 => ?_)
  have fq9 : q9 < NN ∧ kcC q9 = 6 := ⟨aq9, bq9⟩
  refine w_getf (q := (stC q9 5)) (k := 5) (t := 6) (C := R_Vlt) (T := F_Vlt) (N := 20) hx hb hT hown hK hW fq9.1 fq9.2 (by decide) in_Vlt rfl rfl (by decide) rfl fr_Vlt_5 w_2_137 d_Ans_markWanted_4 rfl ?_
  refine lv_astore_n (lv' := [(1, .ref (ad (stC q9 5))), (0, .ref (ad o))]) hx hb d_Ans_markWanted_7 rfl hl (by decide) rfl (fun ls hl => ?_)
  refine lv_iconst (v := 0) hx hb d_Ans_markWanted_8 (by decide) ?_
  refine lv_istore_n (lv' := [(2, .int 0), (1, .ref (ad (stC q9 5))), (0, .ref (ad o))]) hx hb d_Ans_markWanted_9 rfl hl (by decide) rfl (fun ls hl => ?_)
  obtain ⟨n, hw⟩ := hw
  exact tl_Ans_markWanted_10 hx hb hml hown hT hK hN hA hRc hRs hRf hRl hNN hE hret  n o (stC q9 5) 0 x H locs ls fo (st_ty hNN fq9.1 fq9.2 rfl) hw hW hS (lv_sub hl [2, 1, 0] rfl)
set_option maxHeartbeats 4000000 in
set_option maxRecDepth 100000 in
theorem k_Ans_markWanted (l : Launch) (dC : Nat → ClassId) (dI : Nat → Nat → Nat) (cI cB cJ cZ : ClassId) (ad : Nat → Nat) (NN : Nat) (E : Heap) (tM tC : Nat) (kK kV : Nat → Nat) (hNN : 152 ≤ NN) (sz : Nat) (o : Nat) (x : St) (fo : o < NN ∧ kcC o = 10) {post : St → Prop} (hw : wp_Ans_markWanted post o x) : Met l y_Ans_markWanted (wsOf y_Ans_markWanted b_Ans_markWanted 5 (none)) ({ frames := 0, cells := 0, slots := 0, locals := 0 }) (va_Pc [.ref (ad o)] (PVc dC dI cI cB cJ cZ ad stC kcC NN E tM tC kK kV sz x)) (va_Qv (fun (y : St) => post y) (fun y t => Wd dC dI cI cB cJ cZ ad stC kcC NN (va_A (pic ad stC kcC NN cI cB cJ cZ x) sz) y t.heap) (va_A (pic ad stC kcC NN cI cB cJ cZ x) sz)) 0 0 (va_A (pic ad stC kcC NN cI cB cJ cZ x) sz) := by
  refine Met.ofW (cc := b_Ans_markWanted) (maxL := 5) (ret := none) (by decide) rfl ?_
  intro p e s m args below meth c s₁ B hml hv
  obtain ⟨rfl, ⟨hsz, hW0, hK, hN⟩, hE⟩ := hv
  have hx := B.exec
  have hb := B.bytes
  have hr := B.returns
  have hts := atoms_spec B.pre
  have hT : ∀ w ∈ TG, w.before _ s = true := fun w h => hts w (List.mem_cons_of_mem _ h)
  have hown : s.vm.findClass R_Ans = some m.cls := findClass_of_methodNamed B.named
  have hlocks := B.notSynchronized
  subst hsz
  have hW : Wd dC dI cI cB cJ cZ ad stC kcC NN (va_A (pic ad stC kcC NN cI cB cJ cZ x) s.heap.size) x s.heap := ⟨hW0.1, hW0.2.1.self (sz := s.heap.size), hW0.2.2⟩
  generalize hAe : va_A (pic ad stC kcC NN cI cB cJ cZ x) s.heap.size = A at hW hE ⊢
  have hA : ∀ q : Nat, s.heap.size ≤ q → A q := fun q h => by rw [← hAe]; exact Or.inr h
  have hS : va_S A s.heap s.heap [] := va_S.rf
  have hl := lv_entry ([.ref (ad o)]) (n := 5) (Nat.le_of_ble_eq_true rfl)
  rw [lg_entry_eq]
  generalize (lg_sl ([.ref (ad o)]) ++ List.replicate (5 - (lg_sl ([.ref (ad o)])).length) Slot.unset).toArray = ls at hl ⊢
  have hl : lv_has ls 5 [(0, .ref (ad o))] := hl
  exact t_Ans_markWanted_e hx hb hml hown hT hK hN hA (Nat.le_refl 0) (Nat.le_refl 0) (Nat.le_refl 0) (Nat.le_refl 0) hNN hE (fun x H locs pc ls hd hp hW hS => W.vret hx hb hr (fun t ht hM => ⟨⟨x, rfl, hp, Wd.back hW ht.symm (fun _ z => z)⟩, hS.F ht⟩) hS.2.2 hd hlocks)  o x _ _ ls fo hw hW hS hl
set_option maxRecDepth 100000 in
set_option maxHeartbeats 4000000 in
set_option maxRecDepth 100000 in
theorem t_Ans_fill_159 {p : Program} {l : Launch} {e : Env} {R : Room} {s : State} {m : MethodId} {args : Array Value} {below : List Frame} {meth : Method} {c : Code} {cells slots : Nat} {Q : State → Prop} {dC : Nat → ClassId} {dI : Nat → Nat → Nat} {cI cB cJ cZ : ClassId} {A : Nat → Prop} {ad : Nat → Nat} {NN : Nat} {E : Heap} {tM tC : Nat} {kK kV : Nat → Nat} {post : Int32 → St → Prop} {rec74 : Nat → Nat → Nat → Int32 → St → Prop} (hx : p.tables.exec = Jvm.exec) (hb : c.code = b_Ans_fill) (hml : c.maxLocals = 5) (hown : s.vm.findClass R_Ans = some m.cls) (hT : ∀ w ∈ TG, w.before args s = true) (hK : va_K (dC, dI) CL (TY cI cB cJ cZ) s) (hN : NW s) (hA : ∀ q : Nat, s.heap.size ≤ q → A q) (hRc : cells ≤ R.cells) (hRs : slots ≤ R.slots) (hRf : 6 ≤ R.frames) (hRl : 224 ≤ R.locals) (hNN : 152 ≤ NN) (hE : CE E tM tC kK kV A s) (hret : ∀ (r : Int32) (x : St) (H : Heap) (locs : List Loc) (pc : Nat) (ls : Array Slot), decode b_Ans_fill pc = .ok (.ireturn, 1) → narrow .boolean (.int r) = .int r → post r x → Wd dC dI cI cB cJ cZ ad stC kcC NN A x H → va_S A s.heap H locs → W p l e R s m args below meth c H locs cells slots Q (F0 m pc ls [.int r])) (hrec74 : ∀ (o : Nat) (l1 : Nat) (l2 : Nat) (l3 : Int32) (x : St) (H : Heap) (locs : List Loc) (ls : Array Slot), (o < NN ∧ kcC o = 10) → (l1 < NN ∧ kcC l1 = 6) → (l2 < NN ∧ kcC l2 = 9) → rec74 o l1 l2 l3 x → Wd dC dI cI cB cJ cZ ad stC kcC NN A x H → va_S A s.heap H locs → lv_has ls 5 [(0, .ref (ad o)), (1, .ref (ad l1)), (2, .ref (ad l2)), (3, .int l3)] → W p l e R s m args below meth c H locs cells slots Q (F0 m 74 ls [])) : ∀ (o : Nat) (l1 : Nat) (l2 : Nat) (l3 : Int32) (x : St) (H : Heap) (locs : List Loc) (ls : Array Slot), (o < NN ∧ kcC o = 10) → (l1 < NN ∧ kcC l1 = 6) → (l2 < NN ∧ kcC l2 = 9) → j_Ans_fill_159 post rec74 o l1 l2 l3 x → Wd dC dI cI cB cJ cZ ad stC kcC NN A x H → va_S A s.heap H locs → lv_has ls 5 [(0, .ref (ad o)), (1, .ref (ad l1)), (2, .ref (ad l2)), (3, .int l3)] → W p l e R s m args below meth c H locs cells slots Q (F0 m 159 ls []) := by
  intro o l1 l2 l3 x H locs ls fo fl1 fl2 hw hW hS hl
  unfold j_Ans_fill_159 at hw
  refine lv_iinc (v := (l3 + 1)) (lv' := [(3, .int (l3 + 1)), (0, .ref (ad o)), (1, .ref (ad l1)), (2, .ref (ad l2))]) hx hb d_Ans_fill_159 hl (k := 3) rfl rfl (by decide) rfl (fun ls hl => ?_)
  refine lv_goto (tgt := 74) hx hb d_Ans_fill_162 (by decide) ?_
  exact hrec74 o l1 l2 (l3 + 1) x H locs ls fo fl1 fl2 hw hW hS (lv_sub hl [1, 2, 3, 0] rfl)
set_option maxRecDepth 100000 in
set_option maxHeartbeats 4000000 in
set_option maxRecDepth 100000 in
theorem t_Ans_fill_107 {p : Program} {l : Launch} {e : Env} {R : Room} {s : State} {m : MethodId} {args : Array Value} {below : List Frame} {meth : Method} {c : Code} {cells slots : Nat} {Q : State → Prop} {dC : Nat → ClassId} {dI : Nat → Nat → Nat} {cI cB cJ cZ : ClassId} {A : Nat → Prop} {ad : Nat → Nat} {NN : Nat} {E : Heap} {tM tC : Nat} {kK kV : Nat → Nat} {post : Int32 → St → Prop} {rec74 : Nat → Nat → Nat → Int32 → St → Prop} (hx : p.tables.exec = Jvm.exec) (hb : c.code = b_Ans_fill) (hml : c.maxLocals = 5) (hown : s.vm.findClass R_Ans = some m.cls) (hT : ∀ w ∈ TG, w.before args s = true) (hK : va_K (dC, dI) CL (TY cI cB cJ cZ) s) (hN : NW s) (hA : ∀ q : Nat, s.heap.size ≤ q → A q) (hRc : cells ≤ R.cells) (hRs : slots ≤ R.slots) (hRf : 6 ≤ R.frames) (hRl : 224 ≤ R.locals) (hNN : 152 ≤ NN) (hE : CE E tM tC kK kV A s) (hret : ∀ (r : Int32) (x : St) (H : Heap) (locs : List Loc) (pc : Nat) (ls : Array Slot), decode b_Ans_fill pc = .ok (.ireturn, 1) → narrow .boolean (.int r) = .int r → post r x → Wd dC dI cI cB cJ cZ ad stC kcC NN A x H → va_S A s.heap H locs → W p l e R s m args below meth c H locs cells slots Q (F0 m pc ls [.int r])) (hrec74 : ∀ (o : Nat) (l1 : Nat) (l2 : Nat) (l3 : Int32) (x : St) (H : Heap) (locs : List Loc) (ls : Array Slot), (o < NN ∧ kcC o = 10) → (l1 < NN ∧ kcC l1 = 6) → (l2 < NN ∧ kcC l2 = 9) → rec74 o l1 l2 l3 x → Wd dC dI cI cB cJ cZ ad stC kcC NN A x H → va_S A s.heap H locs → lv_has ls 5 [(0, .ref (ad o)), (1, .ref (ad l1)), (2, .ref (ad l2)), (3, .int l3)] → W p l e R s m args below meth c H locs cells slots Q (F0 m 74 ls [])) : ∀ (o : Nat) (l1 : Nat) (l2 : Nat) (l3 : Int32) (x : St) (H : Heap) (locs : List Loc) (ls : Array Slot), (o < NN ∧ kcC o = 10) → (l1 < NN ∧ kcC l1 = 6) → (l2 < NN ∧ kcC l2 = 9) → j_Ans_fill_107 post rec74 o l1 l2 l3 x → Wd dC dI cI cB cJ cZ ad stC kcC NN A x H → va_S A s.heap H locs → lv_has ls 5 [(0, .ref (ad o)), (1, .ref (ad l1)), (2, .ref (ad l2)), (3, .int l3)] → W p l e R s m args below meth c H locs cells slots Q (F0 m 107 ls []) := by
  intro o l1 l2 l3 x H locs ls fo fl1 fl2 hw hW hS hl
  unfold j_Ans_fill_107 at hw
  refine lv_aload_n hx hb d_Ans_fill_107 rfl (lv_at hl 0 rfl) ?_
  refine w_geti (k := 6) (t := 10) (C := R_Ans) (T := F_Ans) (N := 16) hx hb hT hown hK hW fo.1 fo.2 (by decide) in_Ans rfl rfl (by decide) rfl fr_Ans_6 w_3_166 d_Ans_fill_108 ?_
  refine lv_if_eq (tgt := 139) hx hb d_Ans_fill_111 (by decide) (fun c1 => ?_) (fun c1 => ?_)
  · have hw := hw.1 c1
    refine lv_aload_n hx hb d_Ans_fill_139 rfl (lv_at hl 0 rfl) ?_
    refine w_getf (q := (stC o 5)) (k := 5) (t := 10) (C := R_Ans) (T := F_Ans) (N := 16) hx hb hT hown hK hW fo.1 fo.2 (by decide) in_Ans rfl rfl (by decide) rfl fr_Ans_5 w_3_165 d_Ans_fill_140 rfl ?_
    refine lv_aload_n hx hb d_Ans_fill_143 rfl (lv_at hl 0 rfl) ?_
    refine w_geti (k := 1) (t := 10) (C := R_Ans) (T := F_Ans) (N := 16) hx hb hT hown hK hW fo.1 fo.2 (by decide) in_Ans rfl rfl (by decide) rfl fr_Ans_1 w_3_157 d_Ans_fill_144 ?_
    refine lv_iload_n hx hb d_Ans_fill_147 rfl (lv_at hl 3 rfl) ?_
    obtain ⟨hi, hw⟩ := hw
    refine w_iast (o := (stC o 5)) hx hb hK hW hS (st_ty hNN fo.1 fo.2 rfl).1 (st_ty hNN fo.1 fo.2 rfl).2 hi d_Ans_fill_148 (fun H locs hW hS => ?_)
    obtain ⟨x2, ex2⟩ : ∃ y : St, y = setA x (stC o 5) (fI x o 1) l3 := ⟨_, rfl⟩
    rw [← ex2] at hW
    have hw := hw x2 ex2
    refine lv_aload_n hx hb d_Ans_fill_149 rfl (lv_at hl 0 rfl) ?_
    refine lv_dup hx hb d_Ans_fill_150 rfl ?_
    refine w_geti (k := 1) (t := 10) (C := R_Ans) (T := F_Ans) (N := 16) hx hb hT hown hK hW fo.1 fo.2 (by decide) in_Ans rfl rfl (by decide) rfl fr_Ans_1 w_3_157 d_Ans_fill_151 ?_
    refine lv_iconst (v := 1) hx hb d_Ans_fill_154 (by decide) ?_
    refine lv_iadd hx hb d_Ans_fill_155 ?_
    refine w_puti (ty := .int) (k := 1) (t := 10) (C := R_Ans) (T := F_Ans) (N := 16) hx hb hT hown hK hW hS fo.1 fo.2 (by decide) in_Ans t_Ans t_Ans_ok n_Ans rfl rfl (by decide) rfl fr_Ans_1 w_3_157 (by decide +kernel) rfl rfl d_Ans_fill_156 (fun H locs hW hS => ?_)
    obtain ⟨x3, ex3⟩ : ∃ y : St, y = setI x2 o 1 ((fI x2 o 1) + 1) := ⟨_, rfl⟩
    rw [← ex3] at hW
    have hw := hw x3 ex3
    exact t_Ans_fill_159 hx hb hml hown hT hK hN hA hRc hRs hRf hRl hNN hE hret hrec74 o l1 l2 l3 x3 H locs ls fo fl1 fl2 hw hW hS (lv_sub hl [0, 1, 2, 3] rfl)
  · have hw := hw.2 c1
    refine lv_aload_n hx hb d_Ans_fill_114 rfl (lv_at hl 0 rfl) ?_
    refine lv_iload_n hx hb d_Ans_fill_115 rfl (lv_at hl 3 rfl) ?_
    have hF := hW.free hS hA
    refine va_calli (va_runV (C := R_Ans) (As := [.int l3]) (rest := []) ⟨hx, hb, hml, hown, hT⟩ (k_Ans_groupOf l dC dI cI cB cJ cZ ad NN E tM tC kK kV hNN H.size o l3 x fo hw) ⟨callB_of 1 hT (gwt_in w_8_88) rfl rfl rfl (hT _ w_1_13) (hT _ w_8_85) (by decide +kernel) ⟨Nat.le_trans (Nat.le_of_ble_eq_true rfl) hRf, Nat.le_trans (Nat.le_of_ble_eq_true rfl) hRl⟩, hT _ w_8_87, hT _ ws_98⟩ ⟨PVc.blind, va_recv hK hW.1 (ci := 10) (q0 := o) rfl (pic_obj fo.1 fo.2 (by decide)), PVc.at _ hW hK hN hE hS hF⟩ rfl rfl hl.1 rfl (lv_room (Nat.le_of_ble_eq_true rfl)) d_Ans_fill_116 ⟨hRc, hRs⟩) hS (fun q _ h => hF q h) hF (fun r5 x4 t H locs ht hvm hw hB hz1 hk1 hS => ?_)
    have hW := Wd.back hB ht hF
    clear hB ht hF hz1 hk1 hvm
    refine lv_istore (lv' := [(4, .int r5), (0, .ref (ad o)), (1, .ref (ad l1)), (2, .ref (ad l2)), (3, .int l3)]) hx hb d_Ans_fill_119 hl (by decide) rfl (fun ls hl => ?_)
    refine lv_iload hx hb d_Ans_fill_121 (lv_at hl 0 rfl) ?_
    refine lv_iconst (v := (-1)) hx hb d_Ans_fill_123 (by decide) ?_
    refine lv_icmp_ne (tgt := 129) hx hb d_Ans_fill_124 (by decide) (fun c6 => ?_) (fun c6 => ?_)
    · have hw := hw.1 c6
      refine lv_aload_n hx hb d_Ans_fill_129 rfl (lv_at hl 1 rfl) ?_
      refine lv_iload hx hb d_Ans_fill_130 (lv_at hl 0 rfl) ?_
      refine lv_iload_n hx hb d_Ans_fill_132 rfl (lv_at hl 4 rfl) ?_
      have hF := hW.free hS hA
      refine va_callv (va_runV (C := R_Ans) (As := [.int r5, .int l3]) (rest := []) ⟨hx, hb, hml, hown, hT⟩ (k_Ans_gather l dC dI cI cB cJ cZ ad NN E tM tC kK kV hNN H.size o r5 l3 x4 fo hw) ⟨callB_of 2 hT (gwt_in w_8_101) rfl rfl rfl (hT _ w_1_13) (hT _ w_8_98) (by decide +kernel) ⟨Nat.le_trans (Nat.le_of_ble_eq_true rfl) hRf, Nat.le_trans (Nat.le_of_ble_eq_true rfl) hRl⟩, hT _ w_8_100, hT _ ws_101⟩ ⟨PVc.blind, va_recv hK hW.1 (ci := 10) (q0 := o) rfl (pic_obj fo.1 fo.2 (by decide)), PVc.at _ hW hK hN hE hS hF⟩ rfl rfl hl.1 rfl (lv_room (Nat.le_of_ble_eq_true rfl)) d_Ans_fill_133 ⟨hRc, hRs⟩) hS (fun q _ h => hF q h) hF (fun  x7 t H locs ht hvm hw hB hz1 hk1 hS => ?_)
      have hW := Wd.back hB ht hF
      clear hB ht hF hz1 hk1 hvm
      refine lv_goto (tgt := 159) hx hb d_Ans_fill_136 (by decide) ?_
      exact t_Ans_fill_159 hx hb hml hown hT hK hN hA hRc hRs hRf hRl hNN hE hret hrec74 o l1 l2 l3 x7 H locs ls fo fl1 fl2 hw hW hS (lv_sub hl [1, 2, 3, 4] rfl)
    · have hw := hw.2 c6
      refine lv_iconst (v := 0) hx hb d_Ans_fill_127 (by decide) ?_
      exact hret 0 x4 H locs 128 ls d_Ans_fill_128 rfl hw hW hS
set_option maxRecDepth 100000 in
set_option maxHeartbeats 4000000 in
set_option maxRecDepth 100000 in
theorem t_Ans_fill_74 {p : Program} {l : Launch} {e : Env} {R : Room} {s : State} {m : MethodId} {args : Array Value} {below : List Frame} {meth : Method} {c : Code} {cells slots : Nat} {Q : State → Prop} {dC : Nat → ClassId} {dI : Nat → Nat → Nat} {cI cB cJ cZ : ClassId} {A : Nat → Prop} {ad : Nat → Nat} {NN : Nat} {E : Heap} {tM tC : Nat} {kK kV : Nat → Nat} {post : Int32 → St → Prop} {rec74 : Nat → Nat → Nat → Int32 → St → Prop} (hx : p.tables.exec = Jvm.exec) (hb : c.code = b_Ans_fill) (hml : c.maxLocals = 5) (hown : s.vm.findClass R_Ans = some m.cls) (hT : ∀ w ∈ TG, w.before args s = true) (hK : va_K (dC, dI) CL (TY cI cB cJ cZ) s) (hN : NW s) (hA : ∀ q : Nat, s.heap.size ≤ q → A q) (hRc : cells ≤ R.cells) (hRs : slots ≤ R.slots) (hRf : 6 ≤ R.frames) (hRl : 224 ≤ R.locals) (hNN : 152 ≤ NN) (hE : CE E tM tC kK kV A s) (hret : ∀ (r : Int32) (x : St) (H : Heap) (locs : List Loc) (pc : Nat) (ls : Array Slot), decode b_Ans_fill pc = .ok (.ireturn, 1) → narrow .boolean (.int r) = .int r → post r x → Wd dC dI cI cB cJ cZ ad stC kcC NN A x H → va_S A s.heap H locs → W p l e R s m args below meth c H locs cells slots Q (F0 m pc ls [.int r])) (hrec74 : ∀ (o : Nat) (l1 : Nat) (l2 : Nat) (l3 : Int32) (x : St) (H : Heap) (locs : List Loc) (ls : Array Slot), (o < NN ∧ kcC o = 10) → (l1 < NN ∧ kcC l1 = 6) → (l2 < NN ∧ kcC l2 = 9) → rec74 o l1 l2 l3 x → Wd dC dI cI cB cJ cZ ad stC kcC NN A x H → va_S A s.heap H locs → lv_has ls 5 [(0, .ref (ad o)), (1, .ref (ad l1)), (2, .ref (ad l2)), (3, .int l3)] → W p l e R s m args below meth c H locs cells slots Q (F0 m 74 ls [])) : ∀ (o : Nat) (l1 : Nat) (l2 : Nat) (l3 : Int32) (x : St) (H : Heap) (locs : List Loc) (ls : Array Slot), (o < NN ∧ kcC o = 10) → (l1 < NN ∧ kcC l1 = 6) → (l2 < NN ∧ kcC l2 = 9) → j_Ans_fill_74 post rec74 o l1 l2 l3 x → Wd dC dI cI cB cJ cZ ad stC kcC NN A x H → va_S A s.heap H locs → lv_has ls 5 [(0, .ref (ad o)), (1, .ref (ad l1)), (2, .ref (ad l2)), (3, .int l3)] → W p l e R s m args below meth c H locs cells slots Q (F0 m 74 ls []) := by
  intro o l1 l2 l3 x H locs ls fo fl1 fl2 hw hW hS hl
  unfold j_Ans_fill_74 at hw
  refine lv_iload_n hx hb d_Ans_fill_74 rfl (lv_at hl 3 rfl) ?_
  refine lv_aload_n hx hb d_Ans_fill_75 rfl (lv_at hl 0 rfl) ?_
  obtain ⟨q8, hq8, hw⟩ := hw
  refine w_getr (q := q8) (k := 14) (t := 10) (C := R_Ans) (T := F_Ans) (N := 16) hx hb hT hown hK hW fo.1 fo.2 (by decide) in_Ans rfl rfl (by decide) rfl fr_Ans_14 w_3_176 d_Ans_fill_76 hq8 (fun aq8 bq8 => ?_)
  have fq8 : q8 < NN ∧ kcC q8 = 6 := ⟨aq8, bq8⟩
  refine w_geti (k := 1) (t := 6) (C := R_Vlt) (T := F_Vlt) (N := 20) hx hb hT hown hK hW fq8.1 fq8.2 (by decide) in_Vlt rfl rfl (by decide) rfl fr_Vlt_1 w_2_124 d_Ans_fill_79 ?_
  refine lv_icmp_ge (tgt := 165) hx hb d_Ans_fill_82 (by decide) (fun c9 => ?_) (fun c9 => ?_)
  · have hw := hw.1 c9
    refine lv_aload_n hx hb d_Ans_fill_165 rfl (lv_at hl 0 rfl) ?_
    have hF := hW.free hS hA
    refine va_callv (va_runV (C := R_Ans) (As := []) (rest := []) ⟨hx, hb, hml, hown, hT⟩ (k_Ans_markWanted l dC dI cI cB cJ cZ ad NN E tM tC kK kV hNN H.size o x fo hw) ⟨callB_of 0 hT (gwt_in w_8_109) rfl rfl rfl (hT _ w_1_13) (hT _ w_8_106) (by decide +kernel) ⟨Nat.le_trans (Nat.le_of_ble_eq_true rfl) hRf, Nat.le_trans (Nat.le_of_ble_eq_true rfl) hRl⟩, hT _ w_8_108, hT _ ws_103⟩ ⟨PVc.blind, va_recv hK hW.1 (ci := 10) (q0 := o) rfl (pic_obj fo.1 fo.2 (by decide)), PVc.at _ hW hK hN hE hS hF⟩ rfl rfl hl.1 rfl (lv_room (Nat.le_of_ble_eq_true rfl)) d_Ans_fill_166 ⟨hRc, hRs⟩) hS (fun q _ h => hF q h) hF (fun  x10 t H locs ht hvm hw hB hz1 hk1 hS => ?_)
    have hW := Wd.back hB ht hF
    clear hB ht hF hz1 hk1 hvm
    refine lv_iconst (v := 1) hx hb d_Ans_fill_169 (by decide) ?_
    exact hret 1 x10 H locs 170 ls d_Ans_fill_170 rfl hw hW hS
  · have hw := hw.2 c9
    refine lv_aload_n hx hb d_Ans_fill_85 rfl (lv_at hl 0 rfl) ?_
    obtain ⟨q11, hq11, hw⟩ := hw
    refine w_getr (q := q11) (k := 15) (t := 10) (C := R_Ans) (T := F_Ans) (N := 16) hx hb hT hown hK hW fo.1 fo.2 (by decide) in_Ans rfl rfl (by decide) rfl fr_Ans_15 w_3_177 d_Ans_fill_86 hq11 (fun aq11 bq11 => ?_)
    have fq11 : q11 < NN ∧ kcC q11 = 9 := ⟨aq11, bq11⟩
    refine w_geti (k := 8) (t := 9) (C := R_Qry) (T := F_Qry) (N := 20) hx hb hT hown hK hW fq11.1 fq11.2 (by decide) in_Qry rfl rfl (by decide) rfl fr_Qry_8 w_3_90 d_Ans_fill_89 ?_
    refine lv_if_le (tgt := 107) hx hb d_Ans_fill_92 (by decide) (fun c12 => ?_) (fun c12 => ?_)
    · have hw := hw.1 c12
      exact t_Ans_fill_107 hx hb hml hown hT hK hN hA hRc hRs hRf hRl hNN hE hret hrec74 o l1 l2 l3 x H locs ls fo fl1 fl2 hw hW hS (lv_sub hl [0, 1, 2, 3] rfl)
    · have hw := hw.2 c12
      refine lv_aload_n hx hb d_Ans_fill_95 rfl (lv_at hl 0 rfl) ?_
      refine lv_iload_n hx hb d_Ans_fill_96 rfl (lv_at hl 3 rfl) ?_
      have hF := hW.free hS hA
      refine va_calli (va_runV (C := R_Ans) (As := [.int l3]) (rest := []) ⟨hx, hb, hml, hown, hT⟩ (k_Ans_truthsOf l dC dI cI cB cJ cZ ad NN E tM tC kK kV hNN H.size o l3 x fo hw) ⟨callB_of 1 hT (gwt_in w_8_34) rfl rfl rfl (hT _ w_1_13) (hT _ w_8_31) (by decide +kernel) ⟨Nat.le_trans (Nat.le_of_ble_eq_true rfl) hRf, Nat.le_trans (Nat.le_of_ble_eq_true rfl) hRl⟩, hT _ w_8_33, hT _ ws_88⟩ ⟨PVc.blind, va_recv hK hW.1 (ci := 10) (q0 := o) rfl (pic_obj fo.1 fo.2 (by decide)), PVc.at _ hW hK hN hE hS hF⟩ rfl rfl hl.1 rfl (lv_room (Nat.le_of_ble_eq_true rfl)) d_Ans_fill_97 ⟨hRc, hRs⟩) hS (fun q _ h => hF q h) hF (fun r14 x13 t H locs ht hvm hw hB hz1 hk1 hS => ?_)
      have hW := Wd.back hB ht hF
      clear hB ht hF hz1 hk1 hvm
      refine lv_iconst (v := 2) hx hb d_Ans_fill_100 (by decide) ?_
      refine lv_icmp_eq (tgt := 107) hx hb d_Ans_fill_101 (by decide) (fun c15 => ?_) (fun c15 => ?_)
      · have hw := hw.1 c15
        exact t_Ans_fill_107 hx hb hml hown hT hK hN hA hRc hRs hRf hRl hNN hE hret hrec74 o l1 l2 l3 x13 H locs ls fo fl1 fl2 hw hW hS (lv_sub hl [0, 1, 2, 3] rfl)
      · have hw := hw.2 c15
        refine lv_goto (tgt := 159) hx hb d_Ans_fill_104 (by decide) ?_
        exact t_Ans_fill_159 hx hb hml hown hT hK hN hA hRc hRs hRf hRl hNN hE hret hrec74 o l1 l2 l3 x13 H locs ls fo fl1 fl2 hw hW hS (lv_sub hl [0, 1, 2, 3] rfl)
set_option maxHeartbeats 4000000 in
set_option maxRecDepth 100000 in
theorem tl_Ans_fill_74 {p : Program} {l : Launch} {e : Env} {R : Room} {s : State} {m : MethodId} {args : Array Value} {below : List Frame} {meth : Method} {c : Code} {cells slots : Nat} {Q : State → Prop} {dC : Nat → ClassId} {dI : Nat → Nat → Nat} {cI cB cJ cZ : ClassId} {A : Nat → Prop} {ad : Nat → Nat} {NN : Nat} {E : Heap} {tM tC : Nat} {kK kV : Nat → Nat} {post : Int32 → St → Prop} (hx : p.tables.exec = Jvm.exec) (hb : c.code = b_Ans_fill) (hml : c.maxLocals = 5) (hown : s.vm.findClass R_Ans = some m.cls) (hT : ∀ w ∈ TG, w.before args s = true) (hK : va_K (dC, dI) CL (TY cI cB cJ cZ) s) (hN : NW s) (hA : ∀ q : Nat, s.heap.size ≤ q → A q) (hRc : cells ≤ R.cells) (hRs : slots ≤ R.slots) (hRf : 6 ≤ R.frames) (hRl : 224 ≤ R.locals) (hNN : 152 ≤ NN) (hE : CE E tM tC kK kV A s) (hret : ∀ (r : Int32) (x : St) (H : Heap) (locs : List Loc) (pc : Nat) (ls : Array Slot), decode b_Ans_fill pc = .ok (.ireturn, 1) → narrow .boolean (.int r) = .int r → post r x → Wd dC dI cI cB cJ cZ ad stC kcC NN A x H → va_S A s.heap H locs → W p l e R s m args below meth c H locs cells slots Q (F0 m pc ls [.int r]))  : ∀ n : Nat, ∀ (o : Nat) (l1 : Nat) (l2 : Nat) (l3 : Int32) (x : St) (H : Heap) (locs : List Loc) (ls : Array Slot), (o < NN ∧ kcC o = 10) → (l1 < NN ∧ kcC l1 = 6) → (l2 < NN ∧ kcC l2 = 9) → wl_Ans_fill_74 post n o l1 l2 l3 x → Wd dC dI cI cB cJ cZ ad stC kcC NN A x H → va_S A s.heap H locs → lv_has ls 5 [(0, .ref (ad o)), (1, .ref (ad l1)), (2, .ref (ad l2)), (3, .int l3)] → W p l e R s m args below meth c H locs cells slots Q (F0 m 74 ls []) := by
  intro n
  induction n with
  | zero => intro o l1 l2 l3 x H locs ls fo fl1 fl2 hw; exact hw.elim
  | succ n ih => intro o l1 l2 l3 x H locs ls fo fl1 fl2 hw hW hS hl; exact t_Ans_fill_74 hx hb hml hown hT hK hN hA hRc hRs hRf hRl hNN hE hret  ih o l1 l2 l3 x H locs ls fo fl1 fl2 hw hW hS hl
set_option maxRecDepth 100000 in
set_option maxHeartbeats 4000000 in
set_option maxRecDepth 100000 in
theorem t_Ans_fill_72 {p : Program} {l : Launch} {e : Env} {R : Room} {s : State} {m : MethodId} {args : Array Value} {below : List Frame} {meth : Method} {c : Code} {cells slots : Nat} {Q : State → Prop} {dC : Nat → ClassId} {dI : Nat → Nat → Nat} {cI cB cJ cZ : ClassId} {A : Nat → Prop} {ad : Nat → Nat} {NN : Nat} {E : Heap} {tM tC : Nat} {kK kV : Nat → Nat} {post : Int32 → St → Prop} (hx : p.tables.exec = Jvm.exec) (hb : c.code = b_Ans_fill) (hml : c.maxLocals = 5) (hown : s.vm.findClass R_Ans = some m.cls) (hT : ∀ w ∈ TG, w.before args s = true) (hK : va_K (dC, dI) CL (TY cI cB cJ cZ) s) (hN : NW s) (hA : ∀ q : Nat, s.heap.size ≤ q → A q) (hRc : cells ≤ R.cells) (hRs : slots ≤ R.slots) (hRf : 6 ≤ R.frames) (hRl : 224 ≤ R.locals) (hNN : 152 ≤ NN) (hE : CE E tM tC kK kV A s) (hret : ∀ (r : Int32) (x : St) (H : Heap) (locs : List Loc) (pc : Nat) (ls : Array Slot), decode b_Ans_fill pc = .ok (.ireturn, 1) → narrow .boolean (.int r) = .int r → post r x → Wd dC dI cI cB cJ cZ ad stC kcC NN A x H → va_S A s.heap H locs → W p l e R s m args below meth c H locs cells slots Q (F0 m pc ls [.int r]))  : ∀ (o : Nat) (l1 : Nat) (l2 : Nat) (x : St) (H : Heap) (locs : List Loc) (ls : Array Slot), (o < NN ∧ kcC o = 10) → (l1 < NN ∧ kcC l1 = 6) → (l2 < NN ∧ kcC l2 = 9) → j_Ans_fill_72 post o l1 l2 x → Wd dC dI cI cB cJ cZ ad stC kcC NN A x H → va_S A s.heap H locs → lv_has ls 5 [(0, .ref (ad o)), (1, .ref (ad l1)), (2, .ref (ad l2))] → W p l e R s m args below meth c H locs cells slots Q (F0 m 72 ls []) := by
  intro o l1 l2 x H locs ls fo fl1 fl2 hw hW hS hl
  unfold j_Ans_fill_72 at hw
  refine lv_iconst (v := 0) hx hb d_Ans_fill_72 (by decide) ?_
  refine lv_istore_n (lv' := [(3, .int 0), (0, .ref (ad o)), (1, .ref (ad l1)), (2, .ref (ad l2))]) hx hb d_Ans_fill_73 rfl hl (by decide) rfl (fun ls hl => ?_)
  obtain ⟨n, hw⟩ := hw
  exact tl_Ans_fill_74 hx hb hml hown hT hK hN hA hRc hRs hRf hRl hNN hE hret  n o l1 l2 0 x H locs ls fo fl1 fl2 hw hW hS (lv_sub hl [1, 2, 3, 0] rfl)
set_option maxRecDepth 100000 in
set_option maxHeartbeats 4000000 in
set_option maxRecDepth 100000 in
theorem t_Ans_fill_e {p : Program} {l : Launch} {e : Env} {R : Room} {s : State} {m : MethodId} {args : Array Value} {below : List Frame} {meth : Method} {c : Code} {cells slots : Nat} {Q : State → Prop} {dC : Nat → ClassId} {dI : Nat → Nat → Nat} {cI cB cJ cZ : ClassId} {A : Nat → Prop} {ad : Nat → Nat} {NN : Nat} {E : Heap} {tM tC : Nat} {kK kV : Nat → Nat} {post : Int32 → St → Prop} (hx : p.tables.exec = Jvm.exec) (hb : c.code = b_Ans_fill) (hml : c.maxLocals = 5) (hown : s.vm.findClass R_Ans = some m.cls) (hT : ∀ w ∈ TG, w.before args s = true) (hK : va_K (dC, dI) CL (TY cI cB cJ cZ) s) (hN : NW s) (hA : ∀ q : Nat, s.heap.size ≤ q → A q) (hRc : cells ≤ R.cells) (hRs : slots ≤ R.slots) (hRf : 6 ≤ R.frames) (hRl : 224 ≤ R.locals) (hNN : 152 ≤ NN) (hE : CE E tM tC kK kV A s) (hret : ∀ (r : Int32) (x : St) (H : Heap) (locs : List Loc) (pc : Nat) (ls : Array Slot), decode b_Ans_fill pc = .ok (.ireturn, 1) → narrow .boolean (.int r) = .int r → post r x → Wd dC dI cI cB cJ cZ ad stC kcC NN A x H → va_S A s.heap H locs → W p l e R s m args below meth c H locs cells slots Q (F0 m pc ls [.int r])) : ∀ (o : Nat) (l1 : Nat) (l2 : Nat) (x : St) (H : Heap) (locs : List Loc) (ls : Array Slot), (o < NN ∧ kcC o = 10) → (l1 < NN ∧ kcC l1 = 6) → (l2 < NN ∧ kcC l2 = 9) → wp_Ans_fill post o l1 l2 x → Wd dC dI cI cB cJ cZ ad stC kcC NN A x H → va_S A s.heap H locs → lv_has ls 5 [(0, .ref (ad o)), (1, .ref (ad l1)), (2, .ref (ad l2))] → W p l e R s m args below meth c H locs cells slots Q (F0 m 0 ls []) := by
  intro o l1 l2 x H locs ls fo fl1 fl2 hw hW hS hl
  unfold wp_Ans_fill at hw
  refine lv_aload_n hx hb d_Ans_fill_0 rfl (lv_at hl 0 rfl) ?_
  refine lv_aload_n hx hb d_Ans_fill_1 rfl (lv_at hl 1 rfl) ?_
  refine w_putr (q := l1) (ty := .object "StripedVault$Vault") (k := 14) (t := 10) (C := R_Ans) (T := F_Ans) (N := 16) hx hb hT hown hK hW hS fo.1 fo.2 (by decide) in_Ans t_Ans t_Ans_ok n_Ans rfl rfl (by decide) rfl fr_Ans_14 w_3_176 (by decide +kernel) rfl rfl fl1.1 fl1.2 d_Ans_fill_2 (fun H locs hW hS => ?_)
  obtain ⟨x16, ex16⟩ : ∃ y : St, y = setR x o 14 (some l1) := ⟨_, rfl⟩
  rw [← ex16] at hW
  have hw := hw x16 ex16
  refine lv_aload_n hx hb d_Ans_fill_5 rfl (lv_at hl 0 rfl) ?_
  refine lv_aload_n hx hb d_Ans_fill_6 rfl (lv_at hl 2 rfl) ?_
  refine w_putr (q := l2) (ty := .object "StripedVault$Query") (k := 15) (t := 10) (C := R_Ans) (T := F_Ans) (N := 16) hx hb hT hown hK hW hS fo.1 fo.2 (by decide) in_Ans t_Ans t_Ans_ok n_Ans rfl rfl (by decide) rfl fr_Ans_15 w_3_177 (by decide +kernel) rfl rfl fl2.1 fl2.2 d_Ans_fill_7 (fun H locs hW hS => ?_)
  obtain ⟨x17, ex17⟩ : ∃ y : St, y = setR x16 o 15 (some l2) := ⟨_, rfl⟩
  rw [← ex17] at hW
  have hw := hw x17 ex17
  refine lv_aload_n hx hb d_Ans_fill_10 rfl (lv_at hl 0 rfl) ?_
  refine lv_iconst (v := 0) hx hb d_Ans_fill_11 (by decide) ?_
  refine w_puti (ty := .boolean) (k := 0) (t := 10) (C := R_Ans) (T := F_Ans) (N := 16) hx hb hT hown hK hW hS fo.1 fo.2 (by decide) in_Ans t_Ans t_Ans_ok n_Ans rfl rfl (by decide) rfl fr_Ans_0 w_3_155 (by decide +kernel) rfl rfl d_Ans_fill_12 (fun H locs hW hS => ?_)
  obtain ⟨x18, ex18⟩ : ∃ y : St, y = setI x17 o 0 0 := ⟨_, rfl⟩
  rw [← ex18] at hW
  have hw := hw x18 ex18
  refine lv_aload_n hx hb d_Ans_fill_15 rfl (lv_at hl 0 rfl) ?_
  refine lv_iconst (v := 0) hx hb d_Ans_fill_16 (by decide) ?_
  refine w_puti (ty := .int) (k := 1) (t := 10) (C := R_Ans) (T := F_Ans) (N := 16) hx hb hT hown hK hW hS fo.1 fo.2 (by decide) in_Ans t_Ans t_Ans_ok n_Ans rfl rfl (by decide) rfl fr_Ans_1 w_3_157 (by decide +kernel) rfl rfl d_Ans_fill_17 (fun H locs hW hS => ?_)
  obtain ⟨x19, ex19⟩ : ∃ y : St, y = setI x18 o 1 0 := ⟨_, rfl⟩
  rw [← ex19] at hW
  have hw := hw x19 ex19
  refine lv_aload_n hx hb d_Ans_fill_20 rfl (lv_at hl 0 rfl) ?_
  refine lv_aload_n hx hb d_Ans_fill_21 rfl (lv_at hl 0 rfl) ?_
  obtain ⟨q20, hq20, hw⟩ := hw
  refine w_getr (q := q20) (k := 15) (t := 10) (C := R_Ans) (T := F_Ans) (N := 16) hx hb hT hown hK hW fo.1 fo.2 (by decide) in_Ans rfl rfl (by decide) rfl fr_Ans_15 w_3_177 d_Ans_fill_22 hq20 (fun aq20 bq20 => ?_)
  have fq20 : q20 < NN ∧ kcC q20 = 9 := ⟨aq20, bq20⟩
  refine w_geti (k := 1) (t := 9) (C := R_Qry) (T := F_Qry) (N := 20) hx hb hT hown hK hW fq20.1 fq20.2 (by decide) in_Qry rfl rfl (by decide) rfl fr_Qry_1 w_3_77 d_Ans_fill_25 ?_
  refine w_puti (ty := .int) (k := 7) (t := 10) (C := R_Ans) (T := F_Ans) (N := 16) hx hb hT hown hK hW hS fo.1 fo.2 (by decide) in_Ans t_Ans t_Ans_ok n_Ans rfl rfl (by decide) rfl fr_Ans_7 w_3_167 (by decide +kernel) rfl rfl d_Ans_fill_28 (fun H locs hW hS => ?_)
  obtain ⟨x21, ex21⟩ : ∃ y : St, y = setI x19 o 7 (fI x19 q20 1) := ⟨_, rfl⟩
  rw [← ex21] at hW
  have hw := hw x21 ex21
  refine lv_aload_n hx hb d_Ans_fill_31 rfl (lv_at hl 0 rfl) ?_
  refine lv_aload_n hx hb d_Ans_fill_32 rfl (lv_at hl 0 rfl) ?_
  obtain ⟨q22, hq22, hw⟩ := hw
  refine w_getr (q := q22) (k := 15) (t := 10) (C := R_Ans) (T := F_Ans) (N := 16) hx hb hT hown hK hW fo.1 fo.2 (by decide) in_Ans rfl rfl (by decide) rfl fr_Ans_15 w_3_177 d_Ans_fill_33 hq22 (fun aq22 bq22 => ?_)
  have fq22 : q22 < NN ∧ kcC q22 = 9 := ⟨aq22, bq22⟩
  refine w_geti (k := 7) (t := 9) (C := R_Qry) (T := F_Qry) (N := 20) hx hb hT hown hK hW fq22.1 fq22.2 (by decide) in_Qry rfl rfl (by decide) rfl fr_Qry_7 w_3_88 d_Ans_fill_36 ?_
  obtain ⟨hz, hz2, hw⟩ := hw
  refine w_puti (ty := .boolean) (k := 6) (t := 10) (C := R_Ans) (T := F_Ans) (N := 16) hx hb hT hown hK hW hS fo.1 fo.2 (by decide) in_Ans t_Ans t_Ans_ok n_Ans rfl rfl (by decide) rfl fr_Ans_6 w_3_166 (by decide +kernel) hz hz2 d_Ans_fill_39 (fun H locs hW hS => ?_)
  obtain ⟨x23, ex23⟩ : ∃ y : St, y = setI x21 o 6 (fI x21 q22 7) := ⟨_, rfl⟩
  rw [← ex23] at hW
  have hw := hw x23 ex23
  refine lv_aload_n hx hb d_Ans_fill_42 rfl (lv_at hl 0 rfl) ?_
  refine w_getf (q := (stC o 10)) (k := 10) (t := 10) (C := R_Ans) (T := F_Ans) (N := 16) hx hb hT hown hK hW fo.1 fo.2 (by decide) in_Ans rfl rfl (by decide) rfl fr_Ans_10 w_3_172 d_Ans_fill_43 rfl ?_
  refine lv_iconst (v := 0) hx hb d_Ans_fill_46 (by decide) ?_
  have hF := hW.free hS hA
  refine va_callv (va_runS (As := [.ref (ad (stC o 10)), .int 0]) (rest := []) ⟨hx, hb, hml, hown, hT⟩ (k_JArr_fill l dC dI cI cB cJ cZ ad NN E tM tC kK kV hNN H.size (stC o 10) 0 x23 (st_ty hNN fo.1 fo.2 rfl) hw) ⟨callB_of 2 hT (gwt_in w_1_226) rfl rfl rfl (hT _ w_1_7) (hT _ w_8_20) (by decide +kernel) ⟨Nat.le_trans (Nat.le_of_ble_eq_true rfl) hRf, Nat.le_trans (Nat.le_of_ble_eq_true rfl) hRl⟩, hT _ w_1_225⟩ ⟨PVc.blind, PVc.at _ hW hK hN hE hS hF⟩ rfl rfl hl.1 rfl (lv_room (Nat.le_of_ble_eq_true rfl)) d_Ans_fill_47 ⟨hRc, hRs⟩) hS (fun q _ h => hF q h) hF (fun  x24 t H locs ht hvm hw hB hz1 hk1 hS => ?_)
  have hW := Wd.back hB ht hF
  clear hB ht hF hz1 hk1 hvm
  refine lv_aload_n hx hb d_Ans_fill_50 rfl (lv_at hl 0 rfl) ?_
  refine w_geti (k := 6) (t := 10) (C := R_Ans) (T := F_Ans) (N := 16) hx hb hT hown hK hW fo.1 fo.2 (by decide) in_Ans rfl rfl (by decide) rfl fr_Ans_6 w_3_166 d_Ans_fill_51 ?_
  refine lv_if_eq (tgt := 72) hx hb d_Ans_fill_54 (by decide) (fun c25 => ?_) (fun c25 => ?_)
  · have hw := hw.1 c25
    exact t_Ans_fill_72 hx hb hml hown hT hK hN hA hRc hRs hRf hRl hNN hE hret  o l1 l2 x24 H locs ls fo fl1 fl2 hw hW hS (lv_sub hl [0, 1, 2] rfl)
  · have hw := hw.2 c25
    refine lv_aload_n hx hb d_Ans_fill_57 rfl (lv_at hl 0 rfl) ?_
    obtain ⟨q26, hq26, hw⟩ := hw
    refine w_getr (q := q26) (k := 15) (t := 10) (C := R_Ans) (T := F_Ans) (N := 16) hx hb hT hown hK hW fo.1 fo.2 (by decide) in_Ans rfl rfl (by decide) rfl fr_Ans_15 w_3_177 d_Ans_fill_58 hq26 (fun aq26 bq26 => ?_)
    have fq26 : q26 < NN ∧ kcC q26 = 9 := ⟨aq26, bq26⟩
    refine w_geti (k := 5) (t := 9) (C := R_Qry) (T := F_Qry) (N := 20) hx hb hT hown hK hW fq26.1 fq26.2 (by decide) in_Qry rfl rfl (by decide) rfl fr_Qry_5 w_3_84 d_Ans_fill_61 ?_
    refine lv_if_ne (tgt := 72) hx hb d_Ans_fill_64 (by decide) (fun c27 => ?_) (fun c27 => ?_)
    · have hw := hw.1 c27
      exact t_Ans_fill_72 hx hb hml hown hT hK hN hA hRc hRs hRf hRl hNN hE hret  o l1 l2 x24 H locs ls fo fl1 fl2 hw hW hS (lv_sub hl [0, 1, 2] rfl)
    · have hw := hw.2 c27
      refine lv_aload_n hx hb d_Ans_fill_67 rfl (lv_at hl 0 rfl) ?_
      refine lv_iconst (v := (-1)) hx hb d_Ans_fill_68 (by decide) ?_
      have hF := hW.free hS hA
      refine va_callv (va_runV (C := R_Ans) (As := [.int (-1)]) (rest := []) ⟨hx, hb, hml, hown, hT⟩ (k_Ans_addGroup l dC dI cI cB cJ cZ ad NN E tM tC kK kV hNN H.size o (-1) x24 fo hw) ⟨callB_of 1 hT (gwt_in w_8_24) rfl rfl rfl (hT _ w_1_13) (hT _ w_8_21) (by decide +kernel) ⟨Nat.le_trans (Nat.le_of_ble_eq_true rfl) hRf, Nat.le_trans (Nat.le_of_ble_eq_true rfl) hRl⟩, hT _ w_8_23, hT _ ws_86⟩ ⟨PVc.blind, va_recv hK hW.1 (ci := 10) (q0 := o) rfl (pic_obj fo.1 fo.2 (by decide)), PVc.at _ hW hK hN hE hS hF⟩ rfl rfl hl.1 rfl (lv_room (Nat.le_of_ble_eq_true rfl)) d_Ans_fill_69 ⟨hRc, hRs⟩) hS (fun q _ h => hF q h) hF (fun  x28 t H locs ht hvm hw hB hz1 hk1 hS => ?_)
      have hW := Wd.back hB ht hF
      clear hB ht hF hz1 hk1 hvm
      exact t_Ans_fill_72 hx hb hml hown hT hK hN hA hRc hRs hRf hRl hNN hE hret  o l1 l2 x28 H locs ls fo fl1 fl2 hw hW hS (lv_sub hl [0, 1, 2] rfl)
set_option maxHeartbeats 4000000 in
set_option maxRecDepth 100000 in
theorem k_Ans_fill (l : Launch) (dC : Nat → ClassId) (dI : Nat → Nat → Nat) (cI cB cJ cZ : ClassId) (ad : Nat → Nat) (NN : Nat) (E : Heap) (tM tC : Nat) (kK kV : Nat → Nat) (hNN : 152 ≤ NN) (sz : Nat) (o : Nat) (l1 : Nat) (l2 : Nat) (x : St) (fo : o < NN ∧ kcC o = 10) (fl1 : l1 < NN ∧ kcC l1 = 6) (fl2 : l2 < NN ∧ kcC l2 = 9) {post : Int32 → St → Prop} (hw : wp_Ans_fill post o l1 l2 x) : Met l y_Ans_fill (wsOf y_Ans_fill b_Ans_fill 5 (some (.boolean))) ({ frames := 6, cells := 0, slots := 0, locals := 224 }) (va_Pc [.ref (ad o), .ref (ad l1), .ref (ad l2)] (PVc dC dI cI cB cJ cZ ad stC kcC NN E tM tC kK kV sz x)) (va_Qi (fun (r : Int32) (y : St) => post r y) (fun y t => Wd dC dI cI cB cJ cZ ad stC kcC NN (va_A (pic ad stC kcC NN cI cB cJ cZ x) sz) y t.heap) (va_A (pic ad stC kcC NN cI cB cJ cZ x) sz)) 0 0 (va_A (pic ad stC kcC NN cI cB cJ cZ x) sz) := by
  refine Met.ofW (cc := b_Ans_fill) (maxL := 5) (ret := some (.boolean)) (by decide) rfl ?_
  intro p e s m args below meth c s₁ B hml hv
  obtain ⟨rfl, ⟨hsz, hW0, hK, hN⟩, hE⟩ := hv
  have hx := B.exec
  have hb := B.bytes
  have hr := B.returns
  have hts := atoms_spec B.pre
  have hT : ∀ w ∈ TG, w.before _ s = true := fun w h => hts w (List.mem_cons_of_mem _ h)
  have hown : s.vm.findClass R_Ans = some m.cls := findClass_of_methodNamed B.named
  have hlocks := B.notSynchronized
  subst hsz
  have hW : Wd dC dI cI cB cJ cZ ad stC kcC NN (va_A (pic ad stC kcC NN cI cB cJ cZ x) s.heap.size) x s.heap := ⟨hW0.1, hW0.2.1.self (sz := s.heap.size), hW0.2.2⟩
  generalize hAe : va_A (pic ad stC kcC NN cI cB cJ cZ x) s.heap.size = A at hW hE ⊢
  have hA : ∀ q : Nat, s.heap.size ≤ q → A q := fun q h => by rw [← hAe]; exact Or.inr h
  have hS : va_S A s.heap s.heap [] := va_S.rf
  have hl := lv_entry ([.ref (ad o), .ref (ad l1), .ref (ad l2)]) (n := 5) (Nat.le_of_ble_eq_true rfl)
  rw [lg_entry_eq]
  generalize (lg_sl ([.ref (ad o), .ref (ad l1), .ref (ad l2)]) ++ List.replicate (5 - (lg_sl ([.ref (ad o), .ref (ad l1), .ref (ad l2)])).length) Slot.unset).toArray = ls at hl ⊢
  have hl : lv_has ls 5 [(0, .ref (ad o)), (1, .ref (ad l1)), (2, .ref (ad l2))] := hl
  exact t_Ans_fill_e hx hb hml hown hT hK hN hA (Nat.le_refl 0) (Nat.le_refl 0) (Nat.le_refl 6) (Nat.le_refl 224) hNN hE (fun r x H locs pc ls hd hz hp hW hS => W.zret (v := r) (ty := .boolean) hx hb hr hz (fun t ht hM => ⟨⟨r, x, rfl, hp, Wd.back hW ht.symm (fun _ z => z)⟩, hS.F ht⟩) hS.2.2 hd hlocks)  o l1 l2 x _ _ ls fo fl1 fl2 hw hW hS hl
set_option maxRecDepth 100000 in
set_option maxHeartbeats 4000000 in
set_option maxRecDepth 100000 in
theorem t_Ans_markAsked_88 {p : Program} {l : Launch} {e : Env} {R : Room} {s : State} {m : MethodId} {args : Array Value} {below : List Frame} {meth : Method} {c : Code} {cells slots : Nat} {Q : State → Prop} {dC : Nat → ClassId} {dI : Nat → Nat → Nat} {cI cB cJ cZ : ClassId} {A : Nat → Prop} {ad : Nat → Nat} {NN : Nat} {E : Heap} {tM tC : Nat} {kK kV : Nat → Nat} {post : St → Prop} {rec23 : Nat → Int32 → St → Prop} (hx : p.tables.exec = Jvm.exec) (hb : c.code = b_Ans_markAsked) (hml : c.maxLocals = 3) (hown : s.vm.findClass R_Ans = some m.cls) (hT : ∀ w ∈ TG, w.before args s = true) (hK : va_K (dC, dI) CL (TY cI cB cJ cZ) s) (hN : NW s) (hA : ∀ q : Nat, s.heap.size ≤ q → A q) (hRc : cells ≤ R.cells) (hRs : slots ≤ R.slots) (hRf : 1 ≤ R.frames) (hRl : 21 ≤ R.locals) (hNN : 152 ≤ NN) (hE : CE E tM tC kK kV A s) (hret : ∀ (x : St) (H : Heap) (locs : List Loc) (pc : Nat) (ls : Array Slot), decode b_Ans_markAsked pc = .ok (.return_, 1) → post x → Wd dC dI cI cB cJ cZ ad stC kcC NN A x H → va_S A s.heap H locs → W p l e R s m args below meth c H locs cells slots Q (F0 m pc ls [])) (hrec23 : ∀ (o : Nat) (l1 : Int32) (x : St) (H : Heap) (locs : List Loc) (ls : Array Slot), (o < NN ∧ kcC o = 10) → rec23 o l1 x → Wd dC dI cI cB cJ cZ ad stC kcC NN A x H → va_S A s.heap H locs → lv_has ls 3 [(0, .ref (ad o)), (1, .int l1)] → W p l e R s m args below meth c H locs cells slots Q (F0 m 23 ls [])) : ∀ (o : Nat) (l1 : Int32) (l2 : Int32) (x : St) (H : Heap) (locs : List Loc) (ls : Array Slot), (o < NN ∧ kcC o = 10) → j_Ans_markAsked_88 post rec23 o l1 l2 x → Wd dC dI cI cB cJ cZ ad stC kcC NN A x H → va_S A s.heap H locs → lv_has ls 3 [(0, .ref (ad o)), (1, .int l1), (2, .int l2)] → W p l e R s m args below meth c H locs cells slots Q (F0 m 88 ls []) := by
  intro o l1 l2 x H locs ls fo hw hW hS hl
  unfold j_Ans_markAsked_88 at hw
  refine lv_iinc (v := (l1 + 1)) (lv' := [(1, .int (l1 + 1)), (0, .ref (ad o)), (2, .int l2)]) hx hb d_Ans_markAsked_88 hl (k := 1) rfl rfl (by decide) rfl (fun ls hl => ?_)
  refine lv_goto (tgt := 23) hx hb d_Ans_markAsked_91 (by decide) ?_
  exact hrec23 o (l1 + 1) x H locs ls fo hw hW hS (lv_sub hl [1, 0] rfl)
set_option maxRecDepth 100000 in
set_option maxHeartbeats 4000000 in
set_option maxRecDepth 100000 in
theorem t_Ans_markAsked_65 {p : Program} {l : Launch} {e : Env} {R : Room} {s : State} {m : MethodId} {args : Array Value} {below : List Frame} {meth : Method} {c : Code} {cells slots : Nat} {Q : State → Prop} {dC : Nat → ClassId} {dI : Nat → Nat → Nat} {cI cB cJ cZ : ClassId} {A : Nat → Prop} {ad : Nat → Nat} {NN : Nat} {E : Heap} {tM tC : Nat} {kK kV : Nat → Nat} {post : St → Prop} {rec23 : Nat → Int32 → St → Prop} (hx : p.tables.exec = Jvm.exec) (hb : c.code = b_Ans_markAsked) (hml : c.maxLocals = 3) (hown : s.vm.findClass R_Ans = some m.cls) (hT : ∀ w ∈ TG, w.before args s = true) (hK : va_K (dC, dI) CL (TY cI cB cJ cZ) s) (hN : NW s) (hA : ∀ q : Nat, s.heap.size ≤ q → A q) (hRc : cells ≤ R.cells) (hRs : slots ≤ R.slots) (hRf : 1 ≤ R.frames) (hRl : 21 ≤ R.locals) (hNN : 152 ≤ NN) (hE : CE E tM tC kK kV A s) (hret : ∀ (x : St) (H : Heap) (locs : List Loc) (pc : Nat) (ls : Array Slot), decode b_Ans_markAsked pc = .ok (.return_, 1) → post x → Wd dC dI cI cB cJ cZ ad stC kcC NN A x H → va_S A s.heap H locs → W p l e R s m args below meth c H locs cells slots Q (F0 m pc ls [])) (hrec23 : ∀ (o : Nat) (l1 : Int32) (x : St) (H : Heap) (locs : List Loc) (ls : Array Slot), (o < NN ∧ kcC o = 10) → rec23 o l1 x → Wd dC dI cI cB cJ cZ ad stC kcC NN A x H → va_S A s.heap H locs → lv_has ls 3 [(0, .ref (ad o)), (1, .int l1)] → W p l e R s m args below meth c H locs cells slots Q (F0 m 23 ls [])) : ∀ (o : Nat) (l1 : Int32) (l2 : Int32) (x : St) (H : Heap) (locs : List Loc) (ls : Array Slot), (o < NN ∧ kcC o = 10) → j_Ans_markAsked_65 post rec23 o l1 l2 x → Wd dC dI cI cB cJ cZ ad stC kcC NN A x H → va_S A s.heap H locs → lv_has ls 3 [(0, .ref (ad o)), (1, .int l1), (2, .int l2)] → W p l e R s m args below meth c H locs cells slots Q (F0 m 65 ls []) := by
  intro o l1 l2 x H locs ls fo hw hW hS hl
  unfold j_Ans_markAsked_65 at hw
  refine lv_aload_n hx hb d_Ans_markAsked_65 rfl (lv_at hl 0 rfl) ?_
  refine lv_iload_n hx hb d_Ans_markAsked_66 rfl (lv_at hl 1 rfl) ?_
  have hF := hW.free hS hA
  refine va_calli (va_runV (C := R_Ans) (As := [.int l1]) (rest := []) ⟨hx, hb, hml, hown, hT⟩ (k_Ans_comparesColumns l dC dI cI cB cJ cZ ad NN E tM tC kK kV hNN H.size o l1 x fo hw) ⟨callB_of 1 hT (gwt_in w_8_42) rfl rfl rfl (hT _ w_1_13) (hT _ w_8_39) (by decide +kernel) ⟨Nat.le_trans (Nat.le_of_ble_eq_true rfl) hRf, Nat.le_trans (Nat.le_of_ble_eq_true rfl) hRl⟩, hT _ w_8_41, hT _ ws_90⟩ ⟨PVc.blind, va_recv hK hW.1 (ci := 10) (q0 := o) rfl (pic_obj fo.1 fo.2 (by decide)), PVc.at _ hW hK hN hE hS hF⟩ rfl rfl hl.1 rfl (lv_room (Nat.le_of_ble_eq_true rfl)) d_Ans_markAsked_67 ⟨hRc, hRs⟩) hS (fun q _ h => hF q h) hF (fun r2 x1 t H locs ht hvm hw hB hz1 hk1 hS => ?_)
  have hW := Wd.back hB ht hF
  clear hB ht hF hz1 hk1 hvm
  refine lv_if_eq (tgt := 88) hx hb d_Ans_markAsked_70 (by decide) (fun c3 => ?_) (fun c3 => ?_)
  · have hw := hw.1 c3
    exact t_Ans_markAsked_88 hx hb hml hown hT hK hN hA hRc hRs hRf hRl hNN hE hret hrec23 o l1 l2 x1 H locs ls fo hw hW hS (lv_sub hl [0, 1, 2] rfl)
  · have hw := hw.2 c3
    refine lv_aload_n hx hb d_Ans_markAsked_73 rfl (lv_at hl 0 rfl) ?_
    refine w_getf (q := (stC o 13)) (k := 13) (t := 10) (C := R_Ans) (T := F_Ans) (N := 16) hx hb hT hown hK hW fo.1 fo.2 (by decide) in_Ans rfl rfl (by decide) rfl fr_Ans_13 w_3_175 d_Ans_markAsked_74 rfl ?_
    refine lv_aload_n hx hb d_Ans_markAsked_77 rfl (lv_at hl 0 rfl) ?_
    obtain ⟨q4, hq4, hw⟩ := hw
    refine w_getr (q := q4) (k := 15) (t := 10) (C := R_Ans) (T := F_Ans) (N := 16) hx hb hT hown hK hW fo.1 fo.2 (by decide) in_Ans rfl rfl (by decide) rfl fr_Ans_15 w_3_177 d_Ans_markAsked_78 hq4 (fun aq4 bq4 => ?_)
    have fq4 : q4 < NN ∧ kcC q4 = 9 := ⟨aq4, bq4⟩
    refine w_getf (q := (stC q4 11)) (k := 11) (t := 9) (C := R_Qry) (T := F_Qry) (N := 20) hx hb hT hown hK hW fq4.1 fq4.2 (by decide) in_Qry rfl rfl (by decide) rfl fr_Qry_11 w_3_96 d_Ans_markAsked_81 rfl ?_
    refine lv_iload_n hx hb d_Ans_markAsked_84 rfl (lv_at hl 1 rfl) ?_
    obtain ⟨hi, hw⟩ := hw
    refine w_iald (o := (stC q4 11)) hx hb hK hW (st_ty hNN fq4.1 fq4.2 rfl).1 (st_ty hNN fq4.1 fq4.2 rfl).2 hi d_Ans_markAsked_85 ?_
    refine lv_iconst (v := 1) hx hb d_Ans_markAsked_86 (by decide) ?_
    obtain ⟨hi, hw⟩ := hw
    refine w_zast (o := (stC o 13)) hx hb hK hW hS (st_ty hNN fo.1 fo.2 rfl).1 (st_ty hNN fo.1 fo.2 rfl).2 hi d_Ans_markAsked_87 (fun H locs hW hS => ?_)
    obtain ⟨x5, ex5⟩ : ∃ y : St, y = setA x1 (stC o 13) (rA x1 (stC q4 11) l1) (vp_nar .boolean 1) := ⟨_, rfl⟩
    rw [← ex5] at hW
    have hw := hw x5 ex5
    exact t_Ans_markAsked_88 hx hb hml hown hT hK hN hA hRc hRs hRf hRl hNN hE hret hrec23 o l1 l2 x5 H locs ls fo hw hW hS (lv_sub hl [0, 1, 2] rfl)
set_option maxRecDepth 100000 in
set_option maxHeartbeats 4000000 in
set_option maxRecDepth 100000 in
theorem t_Ans_markAsked_23 {p : Program} {l : Launch} {e : Env} {R : Room} {s : State} {m : MethodId} {args : Array Value} {below : List Frame} {meth : Method} {c : Code} {cells slots : Nat} {Q : State → Prop} {dC : Nat → ClassId} {dI : Nat → Nat → Nat} {cI cB cJ cZ : ClassId} {A : Nat → Prop} {ad : Nat → Nat} {NN : Nat} {E : Heap} {tM tC : Nat} {kK kV : Nat → Nat} {post : St → Prop} {rec23 : Nat → Int32 → St → Prop} (hx : p.tables.exec = Jvm.exec) (hb : c.code = b_Ans_markAsked) (hml : c.maxLocals = 3) (hown : s.vm.findClass R_Ans = some m.cls) (hT : ∀ w ∈ TG, w.before args s = true) (hK : va_K (dC, dI) CL (TY cI cB cJ cZ) s) (hN : NW s) (hA : ∀ q : Nat, s.heap.size ≤ q → A q) (hRc : cells ≤ R.cells) (hRs : slots ≤ R.slots) (hRf : 1 ≤ R.frames) (hRl : 21 ≤ R.locals) (hNN : 152 ≤ NN) (hE : CE E tM tC kK kV A s) (hret : ∀ (x : St) (H : Heap) (locs : List Loc) (pc : Nat) (ls : Array Slot), decode b_Ans_markAsked pc = .ok (.return_, 1) → post x → Wd dC dI cI cB cJ cZ ad stC kcC NN A x H → va_S A s.heap H locs → W p l e R s m args below meth c H locs cells slots Q (F0 m pc ls [])) (hrec23 : ∀ (o : Nat) (l1 : Int32) (x : St) (H : Heap) (locs : List Loc) (ls : Array Slot), (o < NN ∧ kcC o = 10) → rec23 o l1 x → Wd dC dI cI cB cJ cZ ad stC kcC NN A x H → va_S A s.heap H locs → lv_has ls 3 [(0, .ref (ad o)), (1, .int l1)] → W p l e R s m args below meth c H locs cells slots Q (F0 m 23 ls [])) : ∀ (o : Nat) (l1 : Int32) (x : St) (H : Heap) (locs : List Loc) (ls : Array Slot), (o < NN ∧ kcC o = 10) → j_Ans_markAsked_23 post rec23 o l1 x → Wd dC dI cI cB cJ cZ ad stC kcC NN A x H → va_S A s.heap H locs → lv_has ls 3 [(0, .ref (ad o)), (1, .int l1)] → W p l e R s m args below meth c H locs cells slots Q (F0 m 23 ls []) := by
  intro o l1 x H locs ls fo hw hW hS hl
  unfold j_Ans_markAsked_23 at hw
  refine lv_iload_n hx hb d_Ans_markAsked_23 rfl (lv_at hl 1 rfl) ?_
  refine lv_aload_n hx hb d_Ans_markAsked_24 rfl (lv_at hl 0 rfl) ?_
  obtain ⟨q6, hq6, hw⟩ := hw
  refine w_getr (q := q6) (k := 15) (t := 10) (C := R_Ans) (T := F_Ans) (N := 16) hx hb hT hown hK hW fo.1 fo.2 (by decide) in_Ans rfl rfl (by decide) rfl fr_Ans_15 w_3_177 d_Ans_markAsked_25 hq6 (fun aq6 bq6 => ?_)
  have fq6 : q6 < NN ∧ kcC q6 = 9 := ⟨aq6, bq6⟩
  refine w_geti (k := 8) (t := 9) (C := R_Qry) (T := F_Qry) (N := 20) hx hb hT hown hK hW fq6.1 fq6.2 (by decide) in_Qry rfl rfl (by decide) rfl fr_Qry_8 w_3_90 d_Ans_markAsked_28 ?_
  refine lv_icmp_ge (tgt := 94) hx hb d_Ans_markAsked_31 (by decide) (fun c7 => ?_) (fun c7 => ?_)
  · have hw := hw.1 c7
    exact hret x H locs 94 ls d_Ans_markAsked_94 hw hW hS
  · have hw := hw.2 c7
    refine lv_aload_n hx hb d_Ans_markAsked_34 rfl (lv_at hl 0 rfl) ?_
    obtain ⟨q8, hq8, hw⟩ := hw
    refine w_getr (q := q8) (k := 15) (t := 10) (C := R_Ans) (T := F_Ans) (N := 16) hx hb hT hown hK hW fo.1 fo.2 (by decide) in_Ans rfl rfl (by decide) rfl fr_Ans_15 w_3_177 d_Ans_markAsked_35 hq8 (fun aq8 bq8 => ?_)
    have fq8 : q8 < NN ∧ kcC q8 = 9 := ⟨aq8, bq8⟩
    refine w_getf (q := (stC q8 9)) (k := 9) (t := 9) (C := R_Qry) (T := F_Qry) (N := 20) hx hb hT hown hK hW fq8.1 fq8.2 (by decide) in_Qry rfl rfl (by decide) rfl fr_Qry_9 w_3_92 d_Ans_markAsked_38 rfl ?_
    refine lv_iload_n hx hb d_Ans_markAsked_41 rfl (lv_at hl 1 rfl) ?_
    obtain ⟨hi, hw⟩ := hw
    refine w_iald (o := (stC q8 9)) hx hb hK hW (st_ty hNN fq8.1 fq8.2 rfl).1 (st_ty hNN fq8.1 fq8.2 rfl).2 hi d_Ans_markAsked_42 ?_
    refine lv_topi (fun v9 ev9 => ?_)
    have hw := hw v9 ev9
    refine lv_istore_n (lv' := [(2, .int v9), (0, .ref (ad o)), (1, .int l1)]) hx hb d_Ans_markAsked_43 rfl hl (by decide) rfl (fun ls hl => ?_)
    refine lv_iload_n hx hb d_Ans_markAsked_44 rfl (lv_at hl 0 rfl) ?_
    refine lv_bipush (v := 9) hx hb d_Ans_markAsked_45 (by decide) ?_
    refine lv_icmp_ge (tgt := 65) hx hb d_Ans_markAsked_47 (by decide) (fun c10 => ?_) (fun c10 => ?_)
    · have hw := hw.1 c10
      exact t_Ans_markAsked_65 hx hb hml hown hT hK hN hA hRc hRs hRf hRl hNN hE hret hrec23 o l1 v9 x H locs ls fo hw hW hS (lv_sub hl [1, 2, 0] rfl)
    · have hw := hw.2 c10
      refine lv_aload_n hx hb d_Ans_markAsked_50 rfl (lv_at hl 1 rfl) ?_
      refine w_getf (q := (stC o 13)) (k := 13) (t := 10) (C := R_Ans) (T := F_Ans) (N := 16) hx hb hT hown hK hW fo.1 fo.2 (by decide) in_Ans rfl rfl (by decide) rfl fr_Ans_13 w_3_175 d_Ans_markAsked_51 rfl ?_
      refine lv_aload_n hx hb d_Ans_markAsked_54 rfl (lv_at hl 1 rfl) ?_
      obtain ⟨q11, hq11, hw⟩ := hw
      refine w_getr (q := q11) (k := 15) (t := 10) (C := R_Ans) (T := F_Ans) (N := 16) hx hb hT hown hK hW fo.1 fo.2 (by decide) in_Ans rfl rfl (by decide) rfl fr_Ans_15 w_3_177 d_Ans_markAsked_55 hq11 (fun aq11 bq11 => ?_)
      have fq11 : q11 < NN ∧ kcC q11 = 9 := ⟨aq11, bq11⟩
      refine w_getf (q := (stC q11 10)) (k := 10) (t := 9) (C := R_Qry) (T := F_Qry) (N := 20) hx hb hT hown hK hW fq11.1 fq11.2 (by decide) in_Qry rfl rfl (by decide) rfl fr_Qry_10 w_3_94 d_Ans_markAsked_58 rfl ?_
      refine lv_iload_n hx hb d_Ans_markAsked_61 rfl (lv_at hl 2 rfl) ?_
      obtain ⟨hi, hw⟩ := hw
      refine w_iald (o := (stC q11 10)) hx hb hK hW (st_ty hNN fq11.1 fq11.2 rfl).1 (st_ty hNN fq11.1 fq11.2 rfl).2 hi d_Ans_markAsked_62 ?_
      refine lv_iconst (v := 1) hx hb d_Ans_markAsked_63 (by decide) ?_
      obtain ⟨hi, hw⟩ := hw
      refine w_zast (o := (stC o 13)) hx hb hK hW hS (st_ty hNN fo.1 fo.2 rfl).1 (st_ty hNN fo.1 fo.2 rfl).2 hi d_Ans_markAsked_64 (fun H locs hW hS => ?_)
      obtain ⟨x12, ex12⟩ : ∃ y : St, y = setA x (stC o 13) (rA x (stC q11 10) l1) (vp_nar .boolean 1) := ⟨_, rfl⟩
      rw [← ex12] at hW
      have hw := hw x12 ex12
      exact t_Ans_markAsked_65 hx hb hml hown hT hK hN hA hRc hRs hRf hRl hNN hE hret hrec23 o l1 v9 x12 H locs ls fo hw hW hS (lv_sub hl [1, 2, 0] rfl)
set_option maxHeartbeats 4000000 in
set_option maxRecDepth 100000 in
theorem tl_Ans_markAsked_23 {p : Program} {l : Launch} {e : Env} {R : Room} {s : State} {m : MethodId} {args : Array Value} {below : List Frame} {meth : Method} {c : Code} {cells slots : Nat} {Q : State → Prop} {dC : Nat → ClassId} {dI : Nat → Nat → Nat} {cI cB cJ cZ : ClassId} {A : Nat → Prop} {ad : Nat → Nat} {NN : Nat} {E : Heap} {tM tC : Nat} {kK kV : Nat → Nat} {post : St → Prop} (hx : p.tables.exec = Jvm.exec) (hb : c.code = b_Ans_markAsked) (hml : c.maxLocals = 3) (hown : s.vm.findClass R_Ans = some m.cls) (hT : ∀ w ∈ TG, w.before args s = true) (hK : va_K (dC, dI) CL (TY cI cB cJ cZ) s) (hN : NW s) (hA : ∀ q : Nat, s.heap.size ≤ q → A q) (hRc : cells ≤ R.cells) (hRs : slots ≤ R.slots) (hRf : 1 ≤ R.frames) (hRl : 21 ≤ R.locals) (hNN : 152 ≤ NN) (hE : CE E tM tC kK kV A s) (hret : ∀ (x : St) (H : Heap) (locs : List Loc) (pc : Nat) (ls : Array Slot), decode b_Ans_markAsked pc = .ok (.return_, 1) → post x → Wd dC dI cI cB cJ cZ ad stC kcC NN A x H → va_S A s.heap H locs → W p l e R s m args below meth c H locs cells slots Q (F0 m pc ls []))  : ∀ n : Nat, ∀ (o : Nat) (l1 : Int32) (x : St) (H : Heap) (locs : List Loc) (ls : Array Slot), (o < NN ∧ kcC o = 10) → wl_Ans_markAsked_23 post n o l1 x → Wd dC dI cI cB cJ cZ ad stC kcC NN A x H → va_S A s.heap H locs → lv_has ls 3 [(0, .ref (ad o)), (1, .int l1)] → W p l e R s m args below meth c H locs cells slots Q (F0 m 23 ls []) := by
  intro n
  induction n with
  | zero => intro o l1 x H locs ls fo hw; exact hw.elim
  | succ n ih => intro o l1 x H locs ls fo hw hW hS hl; exact t_Ans_markAsked_23 hx hb hml hown hT hK hN hA hRc hRs hRf hRl hNN hE hret  ih o l1 x H locs ls fo hw hW hS hl
set_option maxRecDepth 100000 in
set_option maxHeartbeats 4000000 in
set_option maxRecDepth 100000 in
theorem t_Ans_markAsked_2 {p : Program} {l : Launch} {e : Env} {R : Room} {s : State} {m : MethodId} {args : Array Value} {below : List Frame} {meth : Method} {c : Code} {cells slots : Nat} {Q : State → Prop} {dC : Nat → ClassId} {dI : Nat → Nat → Nat} {cI cB cJ cZ : ClassId} {A : Nat → Prop} {ad : Nat → Nat} {NN : Nat} {E : Heap} {tM tC : Nat} {kK kV : Nat → Nat} {post : St → Prop} {rec2 : Nat → Int32 → St → Prop} (hx : p.tables.exec = Jvm.exec) (hb : c.code = b_Ans_markAsked) (hml : c.maxLocals = 3) (hown : s.vm.findClass R_Ans = some m.cls) (hT : ∀ w ∈ TG, w.before args s = true) (hK : va_K (dC, dI) CL (TY cI cB cJ cZ) s) (hN : NW s) (hA : ∀ q : Nat, s.heap.size ≤ q → A q) (hRc : cells ≤ R.cells) (hRs : slots ≤ R.slots) (hRf : 1 ≤ R.frames) (hRl : 21 ≤ R.locals) (hNN : 152 ≤ NN) (hE : CE E tM tC kK kV A s) (hret : ∀ (x : St) (H : Heap) (locs : List Loc) (pc : Nat) (ls : Array Slot), decode b_Ans_markAsked pc = .ok (.return_, 1) → post x → Wd dC dI cI cB cJ cZ ad stC kcC NN A x H → va_S A s.heap H locs → W p l e R s m args below meth c H locs cells slots Q (F0 m pc ls [])) (hrec2 : ∀ (o : Nat) (l1 : Int32) (x : St) (H : Heap) (locs : List Loc) (ls : Array Slot), (o < NN ∧ kcC o = 10) → rec2 o l1 x → Wd dC dI cI cB cJ cZ ad stC kcC NN A x H → va_S A s.heap H locs → lv_has ls 3 [(0, .ref (ad o)), (1, .int l1)] → W p l e R s m args below meth c H locs cells slots Q (F0 m 2 ls [])) : ∀ (o : Nat) (l1 : Int32) (x : St) (H : Heap) (locs : List Loc) (ls : Array Slot), (o < NN ∧ kcC o = 10) → j_Ans_markAsked_2 post rec2 o l1 x → Wd dC dI cI cB cJ cZ ad stC kcC NN A x H → va_S A s.heap H locs → lv_has ls 3 [(0, .ref (ad o)), (1, .int l1)] → W p l e R s m args below meth c H locs cells slots Q (F0 m 2 ls []) := by
  intro o l1 x H locs ls fo hw hW hS hl
  unfold j_Ans_markAsked_2 at hw
  refine lv_iload_n hx hb d_Ans_markAsked_2 rfl (lv_at hl 1 rfl) ?_
  refine lv_bipush (v := 64) hx hb d_Ans_markAsked_3 (by decide) ?_
  refine lv_icmp_ge (tgt := 21) hx hb d_Ans_markAsked_5 (by decide) (fun c13 => ?_) (fun c13 => ?_)
  · have hw := hw.1 c13
    refine lv_iconst (v := 0) hx hb d_Ans_markAsked_21 (by decide) ?_
    refine lv_istore_n (lv' := [(1, .int 0), (0, .ref (ad o))]) hx hb d_Ans_markAsked_22 rfl hl (by decide) rfl (fun ls hl => ?_)
    obtain ⟨n, hw⟩ := hw
    exact tl_Ans_markAsked_23 hx hb hml hown hT hK hN hA hRc hRs hRf hRl hNN hE hret  n o 0 x H locs ls fo hw hW hS (lv_sub hl [1, 0] rfl)
  · have hw := hw.2 c13
    refine lv_aload_n hx hb d_Ans_markAsked_8 rfl (lv_at hl 0 rfl) ?_
    refine w_getf (q := (stC o 13)) (k := 13) (t := 10) (C := R_Ans) (T := F_Ans) (N := 16) hx hb hT hown hK hW fo.1 fo.2 (by decide) in_Ans rfl rfl (by decide) rfl fr_Ans_13 w_3_175 d_Ans_markAsked_9 rfl ?_
    refine lv_iload_n hx hb d_Ans_markAsked_12 rfl (lv_at hl 1 rfl) ?_
    refine lv_iconst (v := 0) hx hb d_Ans_markAsked_13 (by decide) ?_
    obtain ⟨hi, hw⟩ := hw
    refine w_zast (o := (stC o 13)) hx hb hK hW hS (st_ty hNN fo.1 fo.2 rfl).1 (st_ty hNN fo.1 fo.2 rfl).2 hi d_Ans_markAsked_14 (fun H locs hW hS => ?_)
    obtain ⟨x14, ex14⟩ : ∃ y : St, y = setA x (stC o 13) l1 (vp_nar .boolean 0) := ⟨_, rfl⟩
    rw [← ex14] at hW
    have hw := hw x14 ex14
    refine lv_iinc (v := (l1 + 1)) (lv' := [(1, .int (l1 + 1)), (0, .ref (ad o))]) hx hb d_Ans_markAsked_15 hl (k := 1) rfl rfl (by decide) rfl (fun ls hl => ?_)
    refine lv_goto (tgt := 2) hx hb d_Ans_markAsked_18 (by decide) ?_
    exact hrec2 o (l1 + 1) x14 H locs ls fo hw hW hS (lv_sub hl [1, 0] rfl)
set_option maxHeartbeats 4000000 in
set_option maxRecDepth 100000 in
theorem tl_Ans_markAsked_2 {p : Program} {l : Launch} {e : Env} {R : Room} {s : State} {m : MethodId} {args : Array Value} {below : List Frame} {meth : Method} {c : Code} {cells slots : Nat} {Q : State → Prop} {dC : Nat → ClassId} {dI : Nat → Nat → Nat} {cI cB cJ cZ : ClassId} {A : Nat → Prop} {ad : Nat → Nat} {NN : Nat} {E : Heap} {tM tC : Nat} {kK kV : Nat → Nat} {post : St → Prop} (hx : p.tables.exec = Jvm.exec) (hb : c.code = b_Ans_markAsked) (hml : c.maxLocals = 3) (hown : s.vm.findClass R_Ans = some m.cls) (hT : ∀ w ∈ TG, w.before args s = true) (hK : va_K (dC, dI) CL (TY cI cB cJ cZ) s) (hN : NW s) (hA : ∀ q : Nat, s.heap.size ≤ q → A q) (hRc : cells ≤ R.cells) (hRs : slots ≤ R.slots) (hRf : 1 ≤ R.frames) (hRl : 21 ≤ R.locals) (hNN : 152 ≤ NN) (hE : CE E tM tC kK kV A s) (hret : ∀ (x : St) (H : Heap) (locs : List Loc) (pc : Nat) (ls : Array Slot), decode b_Ans_markAsked pc = .ok (.return_, 1) → post x → Wd dC dI cI cB cJ cZ ad stC kcC NN A x H → va_S A s.heap H locs → W p l e R s m args below meth c H locs cells slots Q (F0 m pc ls []))  : ∀ n : Nat, ∀ (o : Nat) (l1 : Int32) (x : St) (H : Heap) (locs : List Loc) (ls : Array Slot), (o < NN ∧ kcC o = 10) → wl_Ans_markAsked_2 post n o l1 x → Wd dC dI cI cB cJ cZ ad stC kcC NN A x H → va_S A s.heap H locs → lv_has ls 3 [(0, .ref (ad o)), (1, .int l1)] → W p l e R s m args below meth c H locs cells slots Q (F0 m 2 ls []) := by
  intro n
  induction n with
  | zero => intro o l1 x H locs ls fo hw; exact hw.elim
  | succ n ih => intro o l1 x H locs ls fo hw hW hS hl; exact t_Ans_markAsked_2 hx hb hml hown hT hK hN hA hRc hRs hRf hRl hNN hE hret  ih o l1 x H locs ls fo hw hW hS hl
set_option maxRecDepth 100000 in
set_option maxHeartbeats 4000000 in
set_option maxRecDepth 100000 in
theorem t_Ans_markAsked_e {p : Program} {l : Launch} {e : Env} {R : Room} {s : State} {m : MethodId} {args : Array Value} {below : List Frame} {meth : Method} {c : Code} {cells slots : Nat} {Q : State → Prop} {dC : Nat → ClassId} {dI : Nat → Nat → Nat} {cI cB cJ cZ : ClassId} {A : Nat → Prop} {ad : Nat → Nat} {NN : Nat} {E : Heap} {tM tC : Nat} {kK kV : Nat → Nat} {post : St → Prop} (hx : p.tables.exec = Jvm.exec) (hb : c.code = b_Ans_markAsked) (hml : c.maxLocals = 3) (hown : s.vm.findClass R_Ans = some m.cls) (hT : ∀ w ∈ TG, w.before args s = true) (hK : va_K (dC, dI) CL (TY cI cB cJ cZ) s) (hN : NW s) (hA : ∀ q : Nat, s.heap.size ≤ q → A q) (hRc : cells ≤ R.cells) (hRs : slots ≤ R.slots) (hRf : 1 ≤ R.frames) (hRl : 21 ≤ R.locals) (hNN : 152 ≤ NN) (hE : CE E tM tC kK kV A s) (hret : ∀ (x : St) (H : Heap) (locs : List Loc) (pc : Nat) (ls : Array Slot), decode b_Ans_markAsked pc = .ok (.return_, 1) → post x → Wd dC dI cI cB cJ cZ ad stC kcC NN A x H → va_S A s.heap H locs → W p l e R s m args below meth c H locs cells slots Q (F0 m pc ls [])) : ∀ (o : Nat) (x : St) (H : Heap) (locs : List Loc) (ls : Array Slot), (o < NN ∧ kcC o = 10) → wp_Ans_markAsked post o x → Wd dC dI cI cB cJ cZ ad stC kcC NN A x H → va_S A s.heap H locs → lv_has ls 3 [(0, .ref (ad o))] → W p l e R s m args below meth c H locs cells slots Q (F0 m 0 ls []) := by
  intro o x H locs ls fo hw hW hS hl
  unfold wp_Ans_markAsked at hw
  refine lv_iconst (v := 0) hx hb d_Ans_markAsked_0 (by decide) ?_
  refine lv_istore_n (lv' := [(1, .int 0), (0, .ref (ad o))]) hx hb d_Ans_markAsked_1 rfl hl (by decide) rfl (fun ls hl => ?_)
  obtain ⟨n, hw⟩ := hw
  exact tl_Ans_markAsked_2 hx hb hml hown hT hK hN hA hRc hRs hRf hRl hNN hE hret  n o 0 x H locs ls fo hw hW hS (lv_sub hl [1, 0] rfl)
set_option maxHeartbeats 4000000 in
set_option maxRecDepth 100000 in
theorem k_Ans_markAsked (l : Launch) (dC : Nat → ClassId) (dI : Nat → Nat → Nat) (cI cB cJ cZ : ClassId) (ad : Nat → Nat) (NN : Nat) (E : Heap) (tM tC : Nat) (kK kV : Nat → Nat) (hNN : 152 ≤ NN) (sz : Nat) (o : Nat) (x : St) (fo : o < NN ∧ kcC o = 10) {post : St → Prop} (hw : wp_Ans_markAsked post o x) : Met l y_Ans_markAsked (wsOf y_Ans_markAsked b_Ans_markAsked 3 (none)) ({ frames := 1, cells := 0, slots := 0, locals := 21 }) (va_Pc [.ref (ad o)] (PVc dC dI cI cB cJ cZ ad stC kcC NN E tM tC kK kV sz x)) (va_Qv (fun (y : St) => post y) (fun y t => Wd dC dI cI cB cJ cZ ad stC kcC NN (va_A (pic ad stC kcC NN cI cB cJ cZ x) sz) y t.heap) (va_A (pic ad stC kcC NN cI cB cJ cZ x) sz)) 0 0 (va_A (pic ad stC kcC NN cI cB cJ cZ x) sz) := by
  refine Met.ofW (cc := b_Ans_markAsked) (maxL := 3) (ret := none) (by decide) rfl ?_
  intro p e s m args below meth c s₁ B hml hv
  obtain ⟨rfl, ⟨hsz, hW0, hK, hN⟩, hE⟩ := hv
  have hx := B.exec
  have hb := B.bytes
  have hr := B.returns
  have hts := atoms_spec B.pre
  have hT : ∀ w ∈ TG, w.before _ s = true := fun w h => hts w (List.mem_cons_of_mem _ h)
  have hown : s.vm.findClass R_Ans = some m.cls := findClass_of_methodNamed B.named
  have hlocks := B.notSynchronized
  subst hsz
  have hW : Wd dC dI cI cB cJ cZ ad stC kcC NN (va_A (pic ad stC kcC NN cI cB cJ cZ x) s.heap.size) x s.heap := ⟨hW0.1, hW0.2.1.self (sz := s.heap.size), hW0.2.2⟩
  generalize hAe : va_A (pic ad stC kcC NN cI cB cJ cZ x) s.heap.size = A at hW hE ⊢
  have hA : ∀ q : Nat, s.heap.size ≤ q → A q := fun q h => by rw [← hAe]; exact Or.inr h
  have hS : va_S A s.heap s.heap [] := va_S.rf
  have hl := lv_entry ([.ref (ad o)]) (n := 3) (Nat.le_of_ble_eq_true rfl)
  rw [lg_entry_eq]
  generalize (lg_sl ([.ref (ad o)]) ++ List.replicate (3 - (lg_sl ([.ref (ad o)])).length) Slot.unset).toArray = ls at hl ⊢
  have hl : lv_has ls 3 [(0, .ref (ad o))] := hl
  exact t_Ans_markAsked_e hx hb hml hown hT hK hN hA (Nat.le_refl 0) (Nat.le_refl 0) (Nat.le_refl 1) (Nat.le_refl 21) hNN hE (fun x H locs pc ls hd hp hW hS => W.vret hx hb hr (fun t ht hM => ⟨⟨x, rfl, hp, Wd.back hW ht.symm (fun _ z => z)⟩, hS.F ht⟩) hS.2.2 hd hlocks)  o x _ _ ls fo hw hW hS hl
end
