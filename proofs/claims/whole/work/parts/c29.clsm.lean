theorem fr_Ans_10 : F_Ans 10 = (R_Ans, "slots", "[I", true) := rfl
theorem w_3_172 : (Jvm.Cond.fieldLink "StripedVault$Answer" (27 : Nat) "StripedVault$Answer" "slots" "[I") ∈ TG := tw_3 172 (by decide +kernel) (by decide +kernel)
theorem w_3_84 : (Jvm.Cond.fieldLink "StripedVault$Answer" (71 : Nat) "StripedVault$Query" "bys" "I") ∈ TG := tw_3 84 (by decide +kernel) (by decide +kernel)
theorem w_3_86 : (Jvm.Cond.fieldLink "StripedVault$Answer" (141 : Nat) "StripedVault$Query" "by" "[I") ∈ TG := tw_3 86 (by decide +kernel) (by decide +kernel)
theorem w_8_100 : (Jvm.Cond.instanceMethod ({ cls := "StripedVault$Answer", name := "sameGroup", desc := "(II)Z" } : Jvm.MethodName)) ∈ TG := tw_8 100 (by decide +kernel) (by decide +kernel)
theorem w_8_101 : (Jvm.Cond.code ({ cls := "StripedVault$Answer", name := "sameGroup", desc := "(II)Z" } : Jvm.MethodName) prog_2_method_10_code (9 : Nat) (Option.some Jvm.ClassFile.FieldType.boolean)) ∈ TG := tw_8 101 (by decide +kernel) (by decide +kernel)
theorem w_8_25 : (Jvm.Cond.methodLink "StripedVault$Answer" (74 : Nat) ({ cls := "StripedVault$Answer", name := "addGroup", desc := "(I)V" } : Jvm.MethodName)) ∈ TG := tw_8 25 (by decide +kernel) (by decide +kernel)
theorem w_8_27 : (Jvm.Cond.instanceMethod ({ cls := "StripedVault$Answer", name := "addGroup", desc := "(I)V" } : Jvm.MethodName)) ∈ TG := tw_8 27 (by decide +kernel) (by decide +kernel)
theorem w_8_28 : (Jvm.Cond.code ({ cls := "StripedVault$Answer", name := "addGroup", desc := "(I)V" } : Jvm.MethodName) prog_2_method_6_code (6 : Nat) (Option.none : Option Jvm.ClassFile.FieldType)) ∈ TG := tw_8 28 (by decide +kernel) (by decide +kernel)
theorem w_8_93 : (Jvm.Cond.methodLink "StripedVault$Answer" (135 : Nat) ({ cls := "StripedVault$Answer", name := "hashOfRow", desc := "(I)I" } : Jvm.MethodName)) ∈ TG := tw_8 93 (by decide +kernel) (by decide +kernel)
theorem w_8_95 : (Jvm.Cond.instanceMethod ({ cls := "StripedVault$Answer", name := "hashOfRow", desc := "(I)I" } : Jvm.MethodName)) ∈ TG := tw_8 95 (by decide +kernel) (by decide +kernel)
theorem w_8_96 : (Jvm.Cond.code ({ cls := "StripedVault$Answer", name := "hashOfRow", desc := "(I)I" } : Jvm.MethodName) prog_2_method_9_code (6 : Nat) (Option.some Jvm.ClassFile.FieldType.int)) ∈ TG := tw_8 96 (by decide +kernel) (by decide +kernel)
theorem w_8_98 : (Jvm.Cond.methodLink "StripedVault$Answer" (138 : Nat) ({ cls := "StripedVault$Answer", name := "sameGroup", desc := "(II)Z" } : Jvm.MethodName)) ∈ TG := tw_8 98 (by decide +kernel) (by decide +kernel)
theorem wn_8_97 : (Jvm.Cond.methodLinkNest "StripedVault$Answer" (147 : Nat) ({ cls := "StripedVault", name := "hashOf", desc := "(I[BJ)I" } : Jvm.MethodName) "StripedVault") ∈ lw_tbl := tb_8 _ (List.mem_of_getElem? (i := 97) (by decide +kernel))
theorem ws_100 : Cond.selects R_Ans y_Ans_hashOfRow y_Ans_hashOfRow ∈ TG := tw_s 100 (by decide +kernel) (by decide +kernel)
theorem ws_101 : Cond.selects R_Ans y_Ans_sameGroup y_Ans_sameGroup ∈ TG := tw_s 101 (by decide +kernel) (by decide +kernel)
theorem ws_87 : Cond.selects R_Ans y_Ans_addGroup y_Ans_addGroup ∈ TG := tw_s 87 (by decide +kernel) (by decide +kernel)
theorem d_Ans_hashOfRow_113 : decode b_Ans_hashOfRow 113 = .ok (.iinc 3 1, 3) := by decide +kernel
theorem d_Ans_hashOfRow_116 : decode b_Ans_hashOfRow 116 = .ok (.goto (-112), 3) := by decide +kernel
theorem d_Ans_hashOfRow_4 : decode b_Ans_hashOfRow 4 = .ok (.iload_n 3, 1) := by decide +kernel
theorem d_Ans_hashOfRow_5 : decode b_Ans_hashOfRow 5 = .ok (.aload_n 0, 1) := by decide +kernel
theorem d_Ans_hashOfRow_6 : decode b_Ans_hashOfRow 6 = .ok (.getfield 57, 3) := by decide +kernel
theorem d_Ans_hashOfRow_9 : decode b_Ans_hashOfRow 9 = .ok (.getfield 71, 3) := by decide +kernel
theorem d_Ans_hashOfRow_12 : decode b_Ans_hashOfRow 12 = .ok (.if_icmp .ge 107, 3) := by decide +kernel
theorem d_Ans_hashOfRow_119 : decode b_Ans_hashOfRow 119 = .ok (.iload_n 2, 1) := by decide +kernel
theorem d_Ans_hashOfRow_120 : decode b_Ans_hashOfRow 120 = .ok (.iload_n 2, 1) := by decide +kernel
theorem d_Ans_hashOfRow_121 : decode b_Ans_hashOfRow 121 = .ok (.bipush 10, 2) := by decide +kernel
theorem d_Ans_hashOfRow_123 : decode b_Ans_hashOfRow 123 = .ok (.iushr, 1) := by decide +kernel
theorem d_Ans_hashOfRow_124 : decode b_Ans_hashOfRow 124 = .ok (.ixor, 1) := by decide +kernel
theorem d_Ans_hashOfRow_125 : decode b_Ans_hashOfRow 125 = .ok (.ireturn, 1) := by decide +kernel
theorem d_Ans_hashOfRow_15 : decode b_Ans_hashOfRow 15 = .ok (.aload_n 0, 1) := by decide +kernel
theorem d_Ans_hashOfRow_16 : decode b_Ans_hashOfRow 16 = .ok (.getfield 53, 3) := by decide +kernel
theorem d_Ans_hashOfRow_19 : decode b_Ans_hashOfRow 19 = .ok (.getfield 99, 3) := by decide +kernel
theorem d_Ans_hashOfRow_22 : decode b_Ans_hashOfRow 22 = .ok (.getfield 118, 3) := by decide +kernel
theorem d_Ans_hashOfRow_25 : decode b_Ans_hashOfRow 25 = .ok (.aload_n 0, 1) := by decide +kernel
theorem d_Ans_hashOfRow_26 : decode b_Ans_hashOfRow 26 = .ok (.getfield 57, 3) := by decide +kernel
theorem d_Ans_hashOfRow_29 : decode b_Ans_hashOfRow 29 = .ok (.getfield 141, 3) := by decide +kernel
theorem d_Ans_hashOfRow_32 : decode b_Ans_hashOfRow 32 = .ok (.iload_n 3, 1) := by decide +kernel
theorem d_Ans_hashOfRow_33 : decode b_Ans_hashOfRow 33 = .ok (.iaload, 1) := by decide +kernel
theorem d_Ans_hashOfRow_34 : decode b_Ans_hashOfRow 34 = .ok (.iaload, 1) := by decide +kernel
theorem d_Ans_hashOfRow_35 : decode b_Ans_hashOfRow 35 = .ok (.istore 4, 2) := by decide +kernel
theorem d_Ans_hashOfRow_37 : decode b_Ans_hashOfRow 37 = .ok (.aload_n 0, 1) := by decide +kernel
theorem d_Ans_hashOfRow_38 : decode b_Ans_hashOfRow 38 = .ok (.getfield 53, 3) := by decide +kernel
theorem d_Ans_hashOfRow_41 : decode b_Ans_hashOfRow 41 = .ok (.iload_n 1, 1) := by decide +kernel
theorem d_Ans_hashOfRow_42 : decode b_Ans_hashOfRow 42 = .ok (.iload 4, 2) := by decide +kernel
theorem d_Ans_hashOfRow_44 : decode b_Ans_hashOfRow 44 = .ok (.invokevirtual 121, 3) := by decide +kernel
theorem d_Ans_hashOfRow_47 : decode b_Ans_hashOfRow 47 = .ok (.istore 5, 2) := by decide +kernel
theorem d_Ans_hashOfRow_49 : decode b_Ans_hashOfRow 49 = .ok (.iload_n 2, 1) := by decide +kernel
theorem d_Ans_hashOfRow_50 : decode b_Ans_hashOfRow 50 = .ok (.bipush 31, 2) := by decide +kernel
theorem d_Ans_hashOfRow_52 : decode b_Ans_hashOfRow 52 = .ok (.imul, 1) := by decide +kernel
theorem d_Ans_hashOfRow_53 : decode b_Ans_hashOfRow 53 = .ok (.istore_n 2, 1) := by decide +kernel
theorem d_Ans_hashOfRow_54 : decode b_Ans_hashOfRow 54 = .ok (.aload_n 0, 1) := by decide +kernel
theorem d_Ans_hashOfRow_55 : decode b_Ans_hashOfRow 55 = .ok (.getfield 53, 3) := by decide +kernel
theorem d_Ans_hashOfRow_58 : decode b_Ans_hashOfRow 58 = .ok (.iload 5, 2) := by decide +kernel
theorem d_Ans_hashOfRow_60 : decode b_Ans_hashOfRow 60 = .ok (.iload 4, 2) := by decide +kernel
theorem d_Ans_hashOfRow_62 : decode b_Ans_hashOfRow 62 = .ok (.invokevirtual 125, 3) := by decide +kernel
theorem d_Ans_hashOfRow_65 : decode b_Ans_hashOfRow 65 = .ok (.ifCond .eq 48, 3) := by decide +kernel
theorem d_Ans_hashOfRow_68 : decode b_Ans_hashOfRow 68 = .ok (.iload_n 2, 1) := by decide +kernel
theorem d_Ans_hashOfRow_69 : decode b_Ans_hashOfRow 69 = .ok (.iconst 1, 1) := by decide +kernel
theorem d_Ans_hashOfRow_70 : decode b_Ans_hashOfRow 70 = .ok (.aload_n 0, 1) := by decide +kernel
theorem d_Ans_hashOfRow_71 : decode b_Ans_hashOfRow 71 = .ok (.getfield 53, 3) := by decide +kernel
theorem d_Ans_hashOfRow_74 : decode b_Ans_hashOfRow 74 = .ok (.getfield 99, 3) := by decide +kernel
theorem d_Ans_hashOfRow_77 : decode b_Ans_hashOfRow 77 = .ok (.getfield 129, 3) := by decide +kernel
theorem d_Ans_hashOfRow_80 : decode b_Ans_hashOfRow 80 = .ok (.aload_n 0, 1) := by decide +kernel
theorem d_Ans_hashOfRow_81 : decode b_Ans_hashOfRow 81 = .ok (.getfield 57, 3) := by decide +kernel
theorem d_Ans_hashOfRow_84 : decode b_Ans_hashOfRow 84 = .ok (.getfield 141, 3) := by decide +kernel
theorem d_Ans_hashOfRow_87 : decode b_Ans_hashOfRow 87 = .ok (.iload_n 3, 1) := by decide +kernel
theorem d_Ans_hashOfRow_88 : decode b_Ans_hashOfRow 88 = .ok (.iaload, 1) := by decide +kernel
theorem d_Ans_hashOfRow_89 : decode b_Ans_hashOfRow 89 = .ok (.iaload, 1) := by decide +kernel
theorem d_Ans_hashOfRow_90 : decode b_Ans_hashOfRow 90 = .ok (.aload_n 0, 1) := by decide +kernel
theorem d_Ans_hashOfRow_91 : decode b_Ans_hashOfRow 91 = .ok (.getfield 53, 3) := by decide +kernel
theorem d_Ans_hashOfRow_94 : decode b_Ans_hashOfRow 94 = .ok (.getfield 144, 3) := by decide +kernel
theorem d_Ans_hashOfRow_97 : decode b_Ans_hashOfRow 97 = .ok (.aload_n 0, 1) := by decide +kernel
theorem d_Ans_hashOfRow_98 : decode b_Ans_hashOfRow 98 = .ok (.getfield 53, 3) := by decide +kernel
theorem d_Ans_hashOfRow_101 : decode b_Ans_hashOfRow 101 = .ok (.getfield 132, 3) := by decide +kernel
theorem d_Ans_hashOfRow_104 : decode b_Ans_hashOfRow 104 = .ok (.iload 5, 2) := by decide +kernel
theorem d_Ans_hashOfRow_106 : decode b_Ans_hashOfRow 106 = .ok (.laload, 1) := by decide +kernel
theorem d_Ans_hashOfRow_107 : decode b_Ans_hashOfRow 107 = .ok (.invokestatic 147, 3) := by decide +kernel
theorem d_Ans_hashOfRow_110 : decode b_Ans_hashOfRow 110 = .ok (.iadd, 1) := by decide +kernel
theorem d_Ans_hashOfRow_111 : decode b_Ans_hashOfRow 111 = .ok (.iadd, 1) := by decide +kernel
theorem d_Ans_hashOfRow_112 : decode b_Ans_hashOfRow 112 = .ok (.istore_n 2, 1) := by decide +kernel
theorem d_Ans_hashOfRow_0 : decode b_Ans_hashOfRow 0 = .ok (.iconst 0, 1) := by decide +kernel
theorem d_Ans_hashOfRow_1 : decode b_Ans_hashOfRow 1 = .ok (.istore_n 2, 1) := by decide +kernel
theorem d_Ans_hashOfRow_2 : decode b_Ans_hashOfRow 2 = .ok (.iconst 0, 1) := by decide +kernel
theorem d_Ans_hashOfRow_3 : decode b_Ans_hashOfRow 3 = .ok (.istore_n 3, 1) := by decide +kernel
theorem d_Ans_sameGroup_149 : decode b_Ans_sameGroup 149 = .ok (.iinc 3 1, 3) := by decide +kernel
theorem d_Ans_sameGroup_152 : decode b_Ans_sameGroup 152 = .ok (.goto (-150), 3) := by decide +kernel
theorem d_Ans_sameGroup_147 : decode b_Ans_sameGroup 147 = .ok (.iconst 0, 1) := by decide +kernel
theorem d_Ans_sameGroup_148 : decode b_Ans_sameGroup 148 = .ok (.ireturn, 1) := by decide +kernel
theorem d_Ans_sameGroup_2 : decode b_Ans_sameGroup 2 = .ok (.iload_n 3, 1) := by decide +kernel
theorem d_Ans_sameGroup_3 : decode b_Ans_sameGroup 3 = .ok (.aload_n 0, 1) := by decide +kernel
theorem d_Ans_sameGroup_4 : decode b_Ans_sameGroup 4 = .ok (.getfield 57, 3) := by decide +kernel
theorem d_Ans_sameGroup_7 : decode b_Ans_sameGroup 7 = .ok (.getfield 71, 3) := by decide +kernel
theorem d_Ans_sameGroup_10 : decode b_Ans_sameGroup 10 = .ok (.if_icmp .ge 145, 3) := by decide +kernel
theorem d_Ans_sameGroup_155 : decode b_Ans_sameGroup 155 = .ok (.iconst 1, 1) := by decide +kernel
theorem d_Ans_sameGroup_156 : decode b_Ans_sameGroup 156 = .ok (.ireturn, 1) := by decide +kernel
theorem d_Ans_sameGroup_13 : decode b_Ans_sameGroup 13 = .ok (.aload_n 0, 1) := by decide +kernel
theorem d_Ans_sameGroup_14 : decode b_Ans_sameGroup 14 = .ok (.getfield 53, 3) := by decide +kernel
theorem d_Ans_sameGroup_17 : decode b_Ans_sameGroup 17 = .ok (.getfield 99, 3) := by decide +kernel
theorem d_Ans_sameGroup_20 : decode b_Ans_sameGroup 20 = .ok (.getfield 118, 3) := by decide +kernel
theorem d_Ans_sameGroup_23 : decode b_Ans_sameGroup 23 = .ok (.aload_n 0, 1) := by decide +kernel
theorem d_Ans_sameGroup_24 : decode b_Ans_sameGroup 24 = .ok (.getfield 57, 3) := by decide +kernel
theorem d_Ans_sameGroup_27 : decode b_Ans_sameGroup 27 = .ok (.getfield 141, 3) := by decide +kernel
theorem d_Ans_sameGroup_30 : decode b_Ans_sameGroup 30 = .ok (.iload_n 3, 1) := by decide +kernel
theorem d_Ans_sameGroup_31 : decode b_Ans_sameGroup 31 = .ok (.iaload, 1) := by decide +kernel
theorem d_Ans_sameGroup_32 : decode b_Ans_sameGroup 32 = .ok (.iaload, 1) := by decide +kernel
theorem d_Ans_sameGroup_33 : decode b_Ans_sameGroup 33 = .ok (.istore 4, 2) := by decide +kernel
theorem d_Ans_sameGroup_35 : decode b_Ans_sameGroup 35 = .ok (.aload_n 0, 1) := by decide +kernel
theorem d_Ans_sameGroup_36 : decode b_Ans_sameGroup 36 = .ok (.getfield 53, 3) := by decide +kernel
theorem d_Ans_sameGroup_39 : decode b_Ans_sameGroup 39 = .ok (.getfield 99, 3) := by decide +kernel
theorem d_Ans_sameGroup_42 : decode b_Ans_sameGroup 42 = .ok (.getfield 129, 3) := by decide +kernel
theorem d_Ans_sameGroup_45 : decode b_Ans_sameGroup 45 = .ok (.aload_n 0, 1) := by decide +kernel
theorem d_Ans_sameGroup_46 : decode b_Ans_sameGroup 46 = .ok (.getfield 57, 3) := by decide +kernel
theorem d_Ans_sameGroup_49 : decode b_Ans_sameGroup 49 = .ok (.getfield 141, 3) := by decide +kernel
theorem d_Ans_sameGroup_52 : decode b_Ans_sameGroup 52 = .ok (.iload_n 3, 1) := by decide +kernel
theorem d_Ans_sameGroup_53 : decode b_Ans_sameGroup 53 = .ok (.iaload, 1) := by decide +kernel
theorem d_Ans_sameGroup_54 : decode b_Ans_sameGroup 54 = .ok (.iaload, 1) := by decide +kernel
theorem d_Ans_sameGroup_55 : decode b_Ans_sameGroup 55 = .ok (.istore 5, 2) := by decide +kernel
theorem d_Ans_sameGroup_57 : decode b_Ans_sameGroup 57 = .ok (.aload_n 0, 1) := by decide +kernel
theorem d_Ans_sameGroup_58 : decode b_Ans_sameGroup 58 = .ok (.getfield 53, 3) := by decide +kernel
theorem d_Ans_sameGroup_61 : decode b_Ans_sameGroup 61 = .ok (.iload_n 1, 1) := by decide +kernel
theorem d_Ans_sameGroup_62 : decode b_Ans_sameGroup 62 = .ok (.iload 4, 2) := by decide +kernel
theorem d_Ans_sameGroup_64 : decode b_Ans_sameGroup 64 = .ok (.invokevirtual 121, 3) := by decide +kernel
theorem d_Ans_sameGroup_67 : decode b_Ans_sameGroup 67 = .ok (.istore 6, 2) := by decide +kernel
theorem d_Ans_sameGroup_69 : decode b_Ans_sameGroup 69 = .ok (.aload_n 0, 1) := by decide +kernel
theorem d_Ans_sameGroup_70 : decode b_Ans_sameGroup 70 = .ok (.getfield 53, 3) := by decide +kernel
theorem d_Ans_sameGroup_73 : decode b_Ans_sameGroup 73 = .ok (.iload_n 2, 1) := by decide +kernel
theorem d_Ans_sameGroup_74 : decode b_Ans_sameGroup 74 = .ok (.iload 4, 2) := by decide +kernel
theorem d_Ans_sameGroup_76 : decode b_Ans_sameGroup 76 = .ok (.invokevirtual 121, 3) := by decide +kernel
theorem d_Ans_sameGroup_79 : decode b_Ans_sameGroup 79 = .ok (.istore 7, 2) := by decide +kernel
theorem d_Ans_sameGroup_81 : decode b_Ans_sameGroup 81 = .ok (.aload_n 0, 1) := by decide +kernel
theorem d_Ans_sameGroup_82 : decode b_Ans_sameGroup 82 = .ok (.getfield 53, 3) := by decide +kernel
theorem d_Ans_sameGroup_85 : decode b_Ans_sameGroup 85 = .ok (.iload 6, 2) := by decide +kernel
theorem d_Ans_sameGroup_87 : decode b_Ans_sameGroup 87 = .ok (.iload 4, 2) := by decide +kernel
theorem d_Ans_sameGroup_89 : decode b_Ans_sameGroup 89 = .ok (.invokevirtual 125, 3) := by decide +kernel
theorem d_Ans_sameGroup_92 : decode b_Ans_sameGroup 92 = .ok (.istore 8, 2) := by decide +kernel
theorem d_Ans_sameGroup_94 : decode b_Ans_sameGroup 94 = .ok (.iload 8, 2) := by decide +kernel
theorem d_Ans_sameGroup_96 : decode b_Ans_sameGroup 96 = .ok (.aload_n 0, 1) := by decide +kernel
theorem d_Ans_sameGroup_97 : decode b_Ans_sameGroup 97 = .ok (.getfield 53, 3) := by decide +kernel
theorem d_Ans_sameGroup_100 : decode b_Ans_sameGroup 100 = .ok (.iload 7, 2) := by decide +kernel
theorem d_Ans_sameGroup_102 : decode b_Ans_sameGroup 102 = .ok (.iload 4, 2) := by decide +kernel
theorem d_Ans_sameGroup_104 : decode b_Ans_sameGroup 104 = .ok (.invokevirtual 125, 3) := by decide +kernel
theorem d_Ans_sameGroup_107 : decode b_Ans_sameGroup 107 = .ok (.if_icmp .ne 40, 3) := by decide +kernel
theorem d_Ans_sameGroup_110 : decode b_Ans_sameGroup 110 = .ok (.iload 8, 2) := by decide +kernel
theorem d_Ans_sameGroup_112 : decode b_Ans_sameGroup 112 = .ok (.ifCond .eq 37, 3) := by decide +kernel
theorem d_Ans_sameGroup_115 : decode b_Ans_sameGroup 115 = .ok (.aload_n 0, 1) := by decide +kernel
theorem d_Ans_sameGroup_116 : decode b_Ans_sameGroup 116 = .ok (.getfield 53, 3) := by decide +kernel
theorem d_Ans_sameGroup_119 : decode b_Ans_sameGroup 119 = .ok (.iload 5, 2) := by decide +kernel
theorem d_Ans_sameGroup_121 : decode b_Ans_sameGroup 121 = .ok (.aload_n 0, 1) := by decide +kernel
theorem d_Ans_sameGroup_122 : decode b_Ans_sameGroup 122 = .ok (.getfield 53, 3) := by decide +kernel
theorem d_Ans_sameGroup_125 : decode b_Ans_sameGroup 125 = .ok (.getfield 132, 3) := by decide +kernel
theorem d_Ans_sameGroup_128 : decode b_Ans_sameGroup 128 = .ok (.iload 6, 2) := by decide +kernel
theorem d_Ans_sameGroup_130 : decode b_Ans_sameGroup 130 = .ok (.laload, 1) := by decide +kernel
theorem d_Ans_sameGroup_131 : decode b_Ans_sameGroup 131 = .ok (.aload_n 0, 1) := by decide +kernel
theorem d_Ans_sameGroup_132 : decode b_Ans_sameGroup 132 = .ok (.getfield 53, 3) := by decide +kernel
theorem d_Ans_sameGroup_135 : decode b_Ans_sameGroup 135 = .ok (.getfield 132, 3) := by decide +kernel
theorem d_Ans_sameGroup_138 : decode b_Ans_sameGroup 138 = .ok (.iload 7, 2) := by decide +kernel
theorem d_Ans_sameGroup_140 : decode b_Ans_sameGroup 140 = .ok (.laload, 1) := by decide +kernel
theorem d_Ans_sameGroup_141 : decode b_Ans_sameGroup 141 = .ok (.invokevirtual 151, 3) := by decide +kernel
theorem d_Ans_sameGroup_144 : decode b_Ans_sameGroup 144 = .ok (.ifCond .eq 5, 3) := by decide +kernel
theorem d_Ans_sameGroup_0 : decode b_Ans_sameGroup 0 = .ok (.iconst 0, 1) := by decide +kernel
theorem d_Ans_sameGroup_1 : decode b_Ans_sameGroup 1 = .ok (.istore_n 3, 1) := by decide +kernel
theorem d_Ans_groupOf_84 : decode b_Ans_groupOf 84 = .ok (.aload_n 0, 1) := by decide +kernel
theorem d_Ans_groupOf_85 : decode b_Ans_groupOf 85 = .ok (.getfield 46, 3) := by decide +kernel
theorem d_Ans_groupOf_88 : decode b_Ans_groupOf 88 = .ok (.sipush 500, 3) := by decide +kernel
theorem d_Ans_groupOf_91 : decode b_Ans_groupOf 91 = .ok (.if_icmp .lt 5, 3) := by decide +kernel
theorem d_Ans_groupOf_96 : decode b_Ans_groupOf 96 = .ok (.aload_n 0, 1) := by decide +kernel
theorem d_Ans_groupOf_97 : decode b_Ans_groupOf 97 = .ok (.iload_n 1, 1) := by decide +kernel
theorem d_Ans_groupOf_98 : decode b_Ans_groupOf 98 = .ok (.invokevirtual 74, 3) := by decide +kernel
theorem d_Ans_groupOf_101 : decode b_Ans_groupOf 101 = .ok (.aload_n 0, 1) := by decide +kernel
theorem d_Ans_groupOf_102 : decode b_Ans_groupOf 102 = .ok (.getfield 27, 3) := by decide +kernel
theorem d_Ans_groupOf_105 : decode b_Ans_groupOf 105 = .ok (.iload_n 2, 1) := by decide +kernel
theorem d_Ans_groupOf_106 : decode b_Ans_groupOf 106 = .ok (.aload_n 0, 1) := by decide +kernel
theorem d_Ans_groupOf_107 : decode b_Ans_groupOf 107 = .ok (.getfield 46, 3) := by decide +kernel
theorem d_Ans_groupOf_110 : decode b_Ans_groupOf 110 = .ok (.iastore, 1) := by decide +kernel
theorem d_Ans_groupOf_111 : decode b_Ans_groupOf 111 = .ok (.aload_n 0, 1) := by decide +kernel
theorem d_Ans_groupOf_112 : decode b_Ans_groupOf 112 = .ok (.getfield 46, 3) := by decide +kernel
theorem d_Ans_groupOf_115 : decode b_Ans_groupOf 115 = .ok (.iconst 1, 1) := by decide +kernel
theorem d_Ans_groupOf_116 : decode b_Ans_groupOf 116 = .ok (.isub, 1) := by decide +kernel
theorem d_Ans_groupOf_117 : decode b_Ans_groupOf 117 = .ok (.ireturn, 1) := by decide +kernel
theorem d_Ans_groupOf_94 : decode b_Ans_groupOf 94 = .ok (.iconst (-1), 1) := by decide +kernel
theorem d_Ans_groupOf_95 : decode b_Ans_groupOf 95 = .ok (.ireturn, 1) := by decide +kernel
theorem d_Ans_groupOf_24 : decode b_Ans_groupOf 24 = .ok (.iload_n 3, 1) := by decide +kernel
theorem d_Ans_groupOf_25 : decode b_Ans_groupOf 25 = .ok (.sipush 1024, 3) := by decide +kernel
theorem d_Ans_groupOf_28 : decode b_Ans_groupOf 28 = .ok (.if_icmp .ge 56, 3) := by decide +kernel
theorem d_Ans_groupOf_31 : decode b_Ans_groupOf 31 = .ok (.aload_n 0, 1) := by decide +kernel
theorem d_Ans_groupOf_32 : decode b_Ans_groupOf 32 = .ok (.getfield 27, 3) := by decide +kernel
theorem d_Ans_groupOf_35 : decode b_Ans_groupOf 35 = .ok (.iload_n 2, 1) := by decide +kernel
theorem d_Ans_groupOf_36 : decode b_Ans_groupOf 36 = .ok (.iaload, 1) := by decide +kernel
theorem d_Ans_groupOf_37 : decode b_Ans_groupOf 37 = .ok (.ifCond .eq 47, 3) := by decide +kernel
theorem d_Ans_groupOf_40 : decode b_Ans_groupOf 40 = .ok (.aload_n 0, 1) := by decide +kernel
theorem d_Ans_groupOf_41 : decode b_Ans_groupOf 41 = .ok (.aload_n 0, 1) := by decide +kernel
theorem d_Ans_groupOf_42 : decode b_Ans_groupOf 42 = .ok (.getfield 15, 3) := by decide +kernel
theorem d_Ans_groupOf_45 : decode b_Ans_groupOf 45 = .ok (.aload_n 0, 1) := by decide +kernel
theorem d_Ans_groupOf_46 : decode b_Ans_groupOf 46 = .ok (.getfield 27, 3) := by decide +kernel
theorem d_Ans_groupOf_49 : decode b_Ans_groupOf 49 = .ok (.iload_n 2, 1) := by decide +kernel
theorem d_Ans_groupOf_50 : decode b_Ans_groupOf 50 = .ok (.iaload, 1) := by decide +kernel
theorem d_Ans_groupOf_51 : decode b_Ans_groupOf 51 = .ok (.iconst 1, 1) := by decide +kernel
theorem d_Ans_groupOf_52 : decode b_Ans_groupOf 52 = .ok (.isub, 1) := by decide +kernel
theorem d_Ans_groupOf_53 : decode b_Ans_groupOf 53 = .ok (.iaload, 1) := by decide +kernel
theorem d_Ans_groupOf_54 : decode b_Ans_groupOf 54 = .ok (.iload_n 1, 1) := by decide +kernel
theorem d_Ans_groupOf_55 : decode b_Ans_groupOf 55 = .ok (.invokevirtual 138, 3) := by decide +kernel
theorem d_Ans_groupOf_58 : decode b_Ans_groupOf 58 = .ok (.ifCond .eq 12, 3) := by decide +kernel
theorem d_Ans_groupOf_70 : decode b_Ans_groupOf 70 = .ok (.iload_n 2, 1) := by decide +kernel
theorem d_Ans_groupOf_71 : decode b_Ans_groupOf 71 = .ok (.iconst 1, 1) := by decide +kernel
theorem d_Ans_groupOf_72 : decode b_Ans_groupOf 72 = .ok (.iadd, 1) := by decide +kernel
theorem d_Ans_groupOf_73 : decode b_Ans_groupOf 73 = .ok (.sipush 1023, 3) := by decide +kernel
theorem d_Ans_groupOf_76 : decode b_Ans_groupOf 76 = .ok (.iand, 1) := by decide +kernel
theorem d_Ans_groupOf_77 : decode b_Ans_groupOf 77 = .ok (.istore_n 2, 1) := by decide +kernel
theorem d_Ans_groupOf_78 : decode b_Ans_groupOf 78 = .ok (.iinc 3 1, 3) := by decide +kernel
theorem d_Ans_groupOf_81 : decode b_Ans_groupOf 81 = .ok (.goto (-57), 3) := by decide +kernel
theorem d_Ans_groupOf_61 : decode b_Ans_groupOf 61 = .ok (.aload_n 0, 1) := by decide +kernel
theorem d_Ans_groupOf_62 : decode b_Ans_groupOf 62 = .ok (.getfield 27, 3) := by decide +kernel
theorem d_Ans_groupOf_65 : decode b_Ans_groupOf 65 = .ok (.iload_n 2, 1) := by decide +kernel
theorem d_Ans_groupOf_66 : decode b_Ans_groupOf 66 = .ok (.iaload, 1) := by decide +kernel
theorem d_Ans_groupOf_67 : decode b_Ans_groupOf 67 = .ok (.iconst 1, 1) := by decide +kernel
theorem d_Ans_groupOf_68 : decode b_Ans_groupOf 68 = .ok (.isub, 1) := by decide +kernel
theorem d_Ans_groupOf_69 : decode b_Ans_groupOf 69 = .ok (.ireturn, 1) := by decide +kernel
theorem d_Ans_groupOf_0 : decode b_Ans_groupOf 0 = .ok (.aload_n 0, 1) := by decide +kernel
theorem d_Ans_groupOf_1 : decode b_Ans_groupOf 1 = .ok (.getfield 57, 3) := by decide +kernel
theorem d_Ans_groupOf_4 : decode b_Ans_groupOf 4 = .ok (.getfield 71, 3) := by decide +kernel
theorem d_Ans_groupOf_7 : decode b_Ans_groupOf 7 = .ok (.ifCond .ne 5, 3) := by decide +kernel
theorem d_Ans_groupOf_12 : decode b_Ans_groupOf 12 = .ok (.aload_n 0, 1) := by decide +kernel
theorem d_Ans_groupOf_13 : decode b_Ans_groupOf 13 = .ok (.iload_n 1, 1) := by decide +kernel
theorem d_Ans_groupOf_14 : decode b_Ans_groupOf 14 = .ok (.invokevirtual 135, 3) := by decide +kernel
theorem d_Ans_groupOf_17 : decode b_Ans_groupOf 17 = .ok (.sipush 1023, 3) := by decide +kernel
theorem d_Ans_groupOf_20 : decode b_Ans_groupOf 20 = .ok (.iand, 1) := by decide +kernel
theorem d_Ans_groupOf_21 : decode b_Ans_groupOf 21 = .ok (.istore_n 2, 1) := by decide +kernel
theorem d_Ans_groupOf_22 : decode b_Ans_groupOf 22 = .ok (.iconst 0, 1) := by decide +kernel
theorem d_Ans_groupOf_23 : decode b_Ans_groupOf 23 = .ok (.istore_n 3, 1) := by decide +kernel
theorem d_Ans_groupOf_10 : decode b_Ans_groupOf 10 = .ok (.iconst 0, 1) := by decide +kernel
theorem d_Ans_groupOf_11 : decode b_Ans_groupOf 11 = .ok (.ireturn, 1) := by decide +kernel
theorem d_Ans_gatherValue_163 : decode b_Ans_gatherValue 163 = .ok (.aload_n 0, 1) := by decide +kernel
theorem d_Ans_gatherValue_164 : decode b_Ans_gatherValue 164 = .ok (.getfield 23, 3) := by decide +kernel
theorem d_Ans_gatherValue_167 : decode b_Ans_gatherValue 167 = .ok (.iload_n 1, 1) := by decide +kernel
theorem d_Ans_gatherValue_168 : decode b_Ans_gatherValue 168 = .ok (.aload_n 0, 1) := by decide +kernel
theorem d_Ans_gatherValue_169 : decode b_Ans_gatherValue 169 = .ok (.getfield 53, 3) := by decide +kernel
theorem d_Ans_gatherValue_172 : decode b_Ans_gatherValue 172 = .ok (.getfield 132, 3) := by decide +kernel
theorem d_Ans_gatherValue_175 : decode b_Ans_gatherValue 175 = .ok (.iload 6, 2) := by decide +kernel
theorem d_Ans_gatherValue_177 : decode b_Ans_gatherValue 177 = .ok (.laload, 1) := by decide +kernel
theorem d_Ans_gatherValue_178 : decode b_Ans_gatherValue 178 = .ok (.lastore, 1) := by decide +kernel
theorem d_Ans_gatherValue_179 : decode b_Ans_gatherValue 179 = .ok (.return_, 1) := by decide +kernel
theorem d_Ans_gatherValue_0 : decode b_Ans_gatherValue 0 = .ok (.aload_n 0, 1) := by decide +kernel
theorem d_Ans_gatherValue_1 : decode b_Ans_gatherValue 1 = .ok (.getfield 53, 3) := by decide +kernel
theorem d_Ans_gatherValue_4 : decode b_Ans_gatherValue 4 = .ok (.getfield 99, 3) := by decide +kernel
theorem d_Ans_gatherValue_7 : decode b_Ans_gatherValue 7 = .ok (.getfield 118, 3) := by decide +kernel
theorem d_Ans_gatherValue_10 : decode b_Ans_gatherValue 10 = .ok (.iload 4, 2) := by decide +kernel
theorem d_Ans_gatherValue_12 : decode b_Ans_gatherValue 12 = .ok (.iaload, 1) := by decide +kernel
theorem d_Ans_gatherValue_13 : decode b_Ans_gatherValue 13 = .ok (.istore 5, 2) := by decide +kernel
theorem d_Ans_gatherValue_15 : decode b_Ans_gatherValue 15 = .ok (.aload_n 0, 1) := by decide +kernel
theorem d_Ans_gatherValue_16 : decode b_Ans_gatherValue 16 = .ok (.getfield 53, 3) := by decide +kernel
theorem d_Ans_gatherValue_19 : decode b_Ans_gatherValue 19 = .ok (.iload_n 3, 1) := by decide +kernel
theorem d_Ans_gatherValue_20 : decode b_Ans_gatherValue 20 = .ok (.iload 5, 2) := by decide +kernel
theorem d_Ans_gatherValue_22 : decode b_Ans_gatherValue 22 = .ok (.invokevirtual 121, 3) := by decide +kernel
theorem d_Ans_gatherValue_25 : decode b_Ans_gatherValue 25 = .ok (.istore 6, 2) := by decide +kernel
theorem d_Ans_gatherValue_27 : decode b_Ans_gatherValue 27 = .ok (.aload_n 0, 1) := by decide +kernel
theorem d_Ans_gatherValue_28 : decode b_Ans_gatherValue 28 = .ok (.getfield 53, 3) := by decide +kernel
theorem d_Ans_gatherValue_31 : decode b_Ans_gatherValue 31 = .ok (.iload 6, 2) := by decide +kernel
theorem d_Ans_gatherValue_33 : decode b_Ans_gatherValue 33 = .ok (.iload 5, 2) := by decide +kernel
theorem d_Ans_gatherValue_35 : decode b_Ans_gatherValue 35 = .ok (.invokevirtual 125, 3) := by decide +kernel
theorem d_Ans_gatherValue_38 : decode b_Ans_gatherValue 38 = .ok (.ifCond .ne 4, 3) := by decide +kernel
theorem d_Ans_gatherValue_42 : decode b_Ans_gatherValue 42 = .ok (.iload_n 2, 1) := by decide +kernel
theorem d_Ans_gatherValue_43 : decode b_Ans_gatherValue 43 = .ok (.iconst 2, 1) := by decide +kernel
theorem d_Ans_gatherValue_44 : decode b_Ans_gatherValue 44 = .ok (.if_icmp .ne 16, 3) := by decide +kernel
theorem d_Ans_gatherValue_60 : decode b_Ans_gatherValue 60 = .ok (.aload_n 0, 1) := by decide +kernel
theorem d_Ans_gatherValue_61 : decode b_Ans_gatherValue 61 = .ok (.getfield 19, 3) := by decide +kernel
theorem d_Ans_gatherValue_64 : decode b_Ans_gatherValue 64 = .ok (.iload_n 1, 1) := by decide +kernel
theorem d_Ans_gatherValue_65 : decode b_Ans_gatherValue 65 = .ok (.baload, 1) := by decide +kernel
theorem d_Ans_gatherValue_66 : decode b_Ans_gatherValue 66 = .ok (.ifCond .ne 14, 3) := by decide +kernel
theorem d_Ans_gatherValue_80 : decode b_Ans_gatherValue 80 = .ok (.iload_n 2, 1) := by decide +kernel
theorem d_Ans_gatherValue_81 : decode b_Ans_gatherValue 81 = .ok (.iconst 3, 1) := by decide +kernel
theorem d_Ans_gatherValue_82 : decode b_Ans_gatherValue 82 = .ok (.if_icmp .ne 25, 3) := by decide +kernel
theorem d_Ans_gatherValue_107 : decode b_Ans_gatherValue 107 = .ok (.aload_n 0, 1) := by decide +kernel
theorem d_Ans_gatherValue_108 : decode b_Ans_gatherValue 108 = .ok (.getfield 53, 3) := by decide +kernel
theorem d_Ans_gatherValue_111 : decode b_Ans_gatherValue 111 = .ok (.aload_n 0, 1) := by decide +kernel
theorem d_Ans_gatherValue_112 : decode b_Ans_gatherValue 112 = .ok (.getfield 53, 3) := by decide +kernel
theorem d_Ans_gatherValue_115 : decode b_Ans_gatherValue 115 = .ok (.getfield 99, 3) := by decide +kernel
theorem d_Ans_gatherValue_118 : decode b_Ans_gatherValue 118 = .ok (.getfield 129, 3) := by decide +kernel
theorem d_Ans_gatherValue_121 : decode b_Ans_gatherValue 121 = .ok (.iload 4, 2) := by decide +kernel
theorem d_Ans_gatherValue_123 : decode b_Ans_gatherValue 123 = .ok (.iaload, 1) := by decide +kernel
theorem d_Ans_gatherValue_124 : decode b_Ans_gatherValue 124 = .ok (.aload_n 0, 1) := by decide +kernel
theorem d_Ans_gatherValue_125 : decode b_Ans_gatherValue 125 = .ok (.getfield 53, 3) := by decide +kernel
theorem d_Ans_gatherValue_128 : decode b_Ans_gatherValue 128 = .ok (.getfield 132, 3) := by decide +kernel
theorem d_Ans_gatherValue_131 : decode b_Ans_gatherValue 131 = .ok (.iload 6, 2) := by decide +kernel
theorem d_Ans_gatherValue_133 : decode b_Ans_gatherValue 133 = .ok (.laload, 1) := by decide +kernel
theorem d_Ans_gatherValue_134 : decode b_Ans_gatherValue 134 = .ok (.aload_n 0, 1) := by decide +kernel
theorem d_Ans_gatherValue_135 : decode b_Ans_gatherValue 135 = .ok (.getfield 23, 3) := by decide +kernel
theorem d_Ans_gatherValue_138 : decode b_Ans_gatherValue 138 = .ok (.iload_n 1, 1) := by decide +kernel
theorem d_Ans_gatherValue_139 : decode b_Ans_gatherValue 139 = .ok (.laload, 1) := by decide +kernel
theorem d_Ans_gatherValue_140 : decode b_Ans_gatherValue 140 = .ok (.invokevirtual 151, 3) := by decide +kernel
theorem d_Ans_gatherValue_143 : decode b_Ans_gatherValue 143 = .ok (.istore 7, 2) := by decide +kernel
theorem d_Ans_gatherValue_145 : decode b_Ans_gatherValue 145 = .ok (.iload_n 2, 1) := by decide +kernel
theorem d_Ans_gatherValue_146 : decode b_Ans_gatherValue 146 = .ok (.iconst 4, 1) := by decide +kernel
theorem d_Ans_gatherValue_147 : decode b_Ans_gatherValue 147 = .ok (.if_icmp .ne 11, 3) := by decide +kernel
theorem d_Ans_gatherValue_158 : decode b_Ans_gatherValue 158 = .ok (.iload 7, 2) := by decide +kernel
theorem d_Ans_gatherValue_160 : decode b_Ans_gatherValue 160 = .ok (.ifCond .le 19, 3) := by decide +kernel
theorem d_Ans_gatherValue_150 : decode b_Ans_gatherValue 150 = .ok (.iload 7, 2) := by decide +kernel
theorem d_Ans_gatherValue_152 : decode b_Ans_gatherValue 152 = .ok (.ifCond .ge 27, 3) := by decide +kernel
theorem d_Ans_gatherValue_155 : decode b_Ans_gatherValue 155 = .ok (.goto 8, 3) := by decide +kernel
theorem d_Ans_gatherValue_85 : decode b_Ans_gatherValue 85 = .ok (.aload_n 0, 1) := by decide +kernel
theorem d_Ans_gatherValue_86 : decode b_Ans_gatherValue 86 = .ok (.getfield 23, 3) := by decide +kernel
theorem d_Ans_gatherValue_89 : decode b_Ans_gatherValue 89 = .ok (.iload_n 1, 1) := by decide +kernel
theorem d_Ans_gatherValue_90 : decode b_Ans_gatherValue 90 = .ok (.dup2, 1) := by decide +kernel
theorem d_Ans_gatherValue_91 : decode b_Ans_gatherValue 91 = .ok (.laload, 1) := by decide +kernel
theorem d_Ans_gatherValue_92 : decode b_Ans_gatherValue 92 = .ok (.aload_n 0, 1) := by decide +kernel
theorem d_Ans_gatherValue_93 : decode b_Ans_gatherValue 93 = .ok (.getfield 53, 3) := by decide +kernel
theorem d_Ans_gatherValue_96 : decode b_Ans_gatherValue 96 = .ok (.getfield 132, 3) := by decide +kernel
theorem d_Ans_gatherValue_99 : decode b_Ans_gatherValue 99 = .ok (.iload 6, 2) := by decide +kernel
theorem d_Ans_gatherValue_101 : decode b_Ans_gatherValue 101 = .ok (.laload, 1) := by decide +kernel
theorem d_Ans_gatherValue_102 : decode b_Ans_gatherValue 102 = .ok (.ladd, 1) := by decide +kernel
theorem d_Ans_gatherValue_103 : decode b_Ans_gatherValue 103 = .ok (.lastore, 1) := by decide +kernel
theorem d_Ans_gatherValue_104 : decode b_Ans_gatherValue 104 = .ok (.goto 75, 3) := by decide +kernel
theorem d_Ans_gatherValue_69 : decode b_Ans_gatherValue 69 = .ok (.aload_n 0, 1) := by decide +kernel
theorem d_Ans_gatherValue_70 : decode b_Ans_gatherValue 70 = .ok (.iload_n 1, 1) := by decide +kernel
theorem d_Ans_gatherValue_71 : decode b_Ans_gatherValue 71 = .ok (.iload_n 3, 1) := by decide +kernel
theorem d_Ans_gatherValue_72 : decode b_Ans_gatherValue 72 = .ok (.iload 4, 2) := by decide +kernel
theorem d_Ans_gatherValue_74 : decode b_Ans_gatherValue 74 = .ok (.invokevirtual 114, 3) := by decide +kernel
theorem d_Ans_gatherValue_77 : decode b_Ans_gatherValue 77 = .ok (.goto 102, 3) := by decide +kernel
theorem d_Ans_gatherValue_47 : decode b_Ans_gatherValue 47 = .ok (.aload_n 0, 1) := by decide +kernel
theorem d_Ans_gatherValue_48 : decode b_Ans_gatherValue 48 = .ok (.getfield 23, 3) := by decide +kernel
theorem d_Ans_gatherValue_51 : decode b_Ans_gatherValue 51 = .ok (.iload_n 1, 1) := by decide +kernel
theorem d_Ans_gatherValue_52 : decode b_Ans_gatherValue 52 = .ok (.dup2, 1) := by decide +kernel
theorem d_Ans_gatherValue_53 : decode b_Ans_gatherValue 53 = .ok (.laload, 1) := by decide +kernel
theorem d_Ans_gatherValue_54 : decode b_Ans_gatherValue 54 = .ok (.lconst 1, 1) := by decide +kernel
theorem d_Ans_gatherValue_55 : decode b_Ans_gatherValue 55 = .ok (.ladd, 1) := by decide +kernel
theorem d_Ans_gatherValue_56 : decode b_Ans_gatherValue 56 = .ok (.lastore, 1) := by decide +kernel
theorem d_Ans_gatherValue_57 : decode b_Ans_gatherValue 57 = .ok (.goto 122, 3) := by decide +kernel
theorem d_Ans_gatherValue_41 : decode b_Ans_gatherValue 41 = .ok (.return_, 1) := by decide +kernel
section
variable (l : Launch) (dC : Nat → ClassId) (dI : Nat → Nat → Nat) (cI cB cJ cZ : ClassId)
set_option maxRecDepth 100000 in
def j_Ans_hashOfRow_113 (post : Int32 → St → Prop) (rec4 : Nat → Int32 → Int32 → Int32 → St → Prop) (o : Nat) (l1 : Int32) (l2 : Int32) (l3 : Int32) (l4 : Int32) (l5 : Int32) (x : St) : Prop := rec4 o l1 l2 (l3 + 1) x
set_option maxHeartbeats 4000000 in
set_option maxRecDepth 100000 in
theorem t_Ans_hashOfRow_113 {p : Program} {l : Launch} {e : Env} {R : Room} {s : State} {m : MethodId} {args : Array Value} {below : List Frame} {meth : Method} {c : Code} {cells slots : Nat} {Q : State → Prop} {dC : Nat → ClassId} {dI : Nat → Nat → Nat} {cI cB cJ cZ : ClassId} {A : Nat → Prop} {ad : Nat → Nat} {NN : Nat} {E : Heap} {tM tC : Nat} {kK kV : Nat → Nat} {post : Int32 → St → Prop} {rec4 : Nat → Int32 → Int32 → Int32 → St → Prop} (hx : p.tables.exec = Jvm.exec) (hb : c.code = b_Ans_hashOfRow) (hml : c.maxLocals = 6) (hown : s.vm.findClass R_Ans = some m.cls) (hT : ∀ w ∈ TG, w.before args s = true) (hK : va_K (dC, dI) CL (TY cI cB cJ cZ) s) (hN : NW s) (hA : ∀ q : Nat, s.heap.size ≤ q → A q) (hRc : cells ≤ R.cells) (hRs : slots ≤ R.slots) (hRf : 1 ≤ R.frames) (hRl : 27 ≤ R.locals) (hNN : 152 ≤ NN) (hE : CE E tM tC kK kV A s) (hret : ∀ (r : Int32) (x : St) (H : Heap) (locs : List Loc) (pc : Nat) (ls : Array Slot), decode b_Ans_hashOfRow pc = .ok (.ireturn, 1) → post r x → Wd dC dI cI cB cJ cZ ad stC kcC NN A x H → va_S A s.heap H locs → W p l e R s m args below meth c H locs cells slots Q (F0 m pc ls [.int r])) (hrec4 : ∀ (o : Nat) (l1 : Int32) (l2 : Int32) (l3 : Int32) (x : St) (H : Heap) (locs : List Loc) (ls : Array Slot), (o < NN ∧ kcC o = 10) → rec4 o l1 l2 l3 x → Wd dC dI cI cB cJ cZ ad stC kcC NN A x H → va_S A s.heap H locs → lv_has ls 6 [(0, .ref (ad o)), (1, .int l1), (2, .int l2), (3, .int l3)] → W p l e R s m args below meth c H locs cells slots Q (F0 m 4 ls [])) : ∀ (o : Nat) (l1 : Int32) (l2 : Int32) (l3 : Int32) (l4 : Int32) (l5 : Int32) (x : St) (H : Heap) (locs : List Loc) (ls : Array Slot), (o < NN ∧ kcC o = 10) → j_Ans_hashOfRow_113 post rec4 o l1 l2 l3 l4 l5 x → Wd dC dI cI cB cJ cZ ad stC kcC NN A x H → va_S A s.heap H locs → lv_has ls 6 [(0, .ref (ad o)), (1, .int l1), (2, .int l2), (3, .int l3), (4, .int l4), (5, .int l5)] → W p l e R s m args below meth c H locs cells slots Q (F0 m 113 ls []) := by
  intro o l1 l2 l3 l4 l5 x H locs ls fo hw hW hS hl
  unfold j_Ans_hashOfRow_113 at hw
  refine lv_iinc (v := (l3 + 1)) (lv' := [(3, .int (l3 + 1)), (0, .ref (ad o)), (1, .int l1), (2, .int l2), (4, .int l4), (5, .int l5)]) hx hb d_Ans_hashOfRow_113 hl (k := 3) rfl rfl (by decide) rfl (fun ls hl => ?_)
  refine lv_goto (tgt := 4) hx hb d_Ans_hashOfRow_116 (by decide) ?_
  exact hrec4 o l1 l2 (l3 + 1) x H locs ls fo hw hW hS (lv_sub hl [1, 2, 3, 0] rfl)
set_option maxRecDepth 100000 in
def j_Ans_hashOfRow_4 (post : Int32 → St → Prop) (rec4 : Nat → Int32 → Int32 → Int32 → St → Prop) (o : Nat) (l1 : Int32) (l2 : Int32) (l3 : Int32) (x : St) : Prop := (∃ q4938 : Nat, fR x o 15 = some q4938 ∧ (((fI x q4938 5) ≤ l3 → post (l2 ^^^ ((l2 : Int32).toUInt32 >>> ((10 : Int32).toUInt32 &&& Int32.toUInt32 31)).toInt32) x) ∧ (¬ (fI x q4938 5) ≤ l3 → (∃ q4940 : Nat, fR x o 14 = some q4940 ∧ (∃ q4941 : Nat, fR x o 15 = some q4941 ∧ (vp_in l3 (fN x (stC q4941 6)) ∧ (vp_in (rA x (stC q4941 6) l3) (fN x (stC (stC q4940 5) 9)) ∧ (∀ v4942 : Int32, v4942 = (rA x (stC (stC q4940 5) 9) (rA x (stC q4941 6) l3)) → (∃ q4943 : Nat, fR x o 14 = some q4943 ∧ wp_Vlt_entryOf (fun (r4945 : Int32) (x4944 : St) => (∀ v4946 : Int32, v4946 = (l2 * 31) → (∃ q4947 : Nat, fR x4944 o 14 = some q4947 ∧ wp_Vlt_hasValue (fun (r4949 : Int32) (x4948 : St) => ((r4949 = 0 → j_Ans_hashOfRow_113 post rec4 o l1 v4946 l3 v4942 r4945 x4948) ∧ (¬ r4949 = 0 → (∃ q4951 : Nat, fR x4948 o 14 = some q4951 ∧ (∃ q4952 : Nat, fR x4948 o 15 = some q4952 ∧ (vp_in l3 (fN x4948 (stC q4952 6)) ∧ (vp_in (rA x4948 (stC q4952 6) l3) (fN x4948 (stC (stC q4951 5) 3)) ∧ (∃ q4953 : Nat, fR x4948 o 14 = some q4953 ∧ (∃ q4954 : Nat, fR x4948 o 14 = some q4954 ∧ (vp_in r4945 (fN x4948 (stC q4954 9)) ∧ wp_V_hashOf (fun (r4956 : Int32) (x4955 : St) => (∀ v4957 : Int32, v4957 = (v4946 + (1 + r4956)) → j_Ans_hashOfRow_113 post rec4 o l1 v4957 l3 v4942 r4945 x4955)) (rA x4948 (stC (stC q4951 5) 3) (rA x4948 (stC q4952 6) l3)) (stC q4953 6) (rL x4948 (stC q4954 9) r4945) x4948)))))))))) q4947 r4945 v4942 x4944))) q4943 l1 v4942 x)))))))))
set_option maxHeartbeats 4000000 in
set_option maxRecDepth 100000 in
theorem t_Ans_hashOfRow_4 {p : Program} {l : Launch} {e : Env} {R : Room} {s : State} {m : MethodId} {args : Array Value} {below : List Frame} {meth : Method} {c : Code} {cells slots : Nat} {Q : State → Prop} {dC : Nat → ClassId} {dI : Nat → Nat → Nat} {cI cB cJ cZ : ClassId} {A : Nat → Prop} {ad : Nat → Nat} {NN : Nat} {E : Heap} {tM tC : Nat} {kK kV : Nat → Nat} {post : Int32 → St → Prop} {rec4 : Nat → Int32 → Int32 → Int32 → St → Prop} (hx : p.tables.exec = Jvm.exec) (hb : c.code = b_Ans_hashOfRow) (hml : c.maxLocals = 6) (hown : s.vm.findClass R_Ans = some m.cls) (hT : ∀ w ∈ TG, w.before args s = true) (hK : va_K (dC, dI) CL (TY cI cB cJ cZ) s) (hN : NW s) (hA : ∀ q : Nat, s.heap.size ≤ q → A q) (hRc : cells ≤ R.cells) (hRs : slots ≤ R.slots) (hRf : 1 ≤ R.frames) (hRl : 27 ≤ R.locals) (hNN : 152 ≤ NN) (hE : CE E tM tC kK kV A s) (hret : ∀ (r : Int32) (x : St) (H : Heap) (locs : List Loc) (pc : Nat) (ls : Array Slot), decode b_Ans_hashOfRow pc = .ok (.ireturn, 1) → post r x → Wd dC dI cI cB cJ cZ ad stC kcC NN A x H → va_S A s.heap H locs → W p l e R s m args below meth c H locs cells slots Q (F0 m pc ls [.int r])) (hrec4 : ∀ (o : Nat) (l1 : Int32) (l2 : Int32) (l3 : Int32) (x : St) (H : Heap) (locs : List Loc) (ls : Array Slot), (o < NN ∧ kcC o = 10) → rec4 o l1 l2 l3 x → Wd dC dI cI cB cJ cZ ad stC kcC NN A x H → va_S A s.heap H locs → lv_has ls 6 [(0, .ref (ad o)), (1, .int l1), (2, .int l2), (3, .int l3)] → W p l e R s m args below meth c H locs cells slots Q (F0 m 4 ls [])) : ∀ (o : Nat) (l1 : Int32) (l2 : Int32) (l3 : Int32) (x : St) (H : Heap) (locs : List Loc) (ls : Array Slot), (o < NN ∧ kcC o = 10) → j_Ans_hashOfRow_4 post rec4 o l1 l2 l3 x → Wd dC dI cI cB cJ cZ ad stC kcC NN A x H → va_S A s.heap H locs → lv_has ls 6 [(0, .ref (ad o)), (1, .int l1), (2, .int l2), (3, .int l3)] → W p l e R s m args below meth c H locs cells slots Q (F0 m 4 ls []) := by
  intro o l1 l2 l3 x H locs ls fo hw hW hS hl
  unfold j_Ans_hashOfRow_4 at hw
  refine lv_iload_n hx hb d_Ans_hashOfRow_4 rfl (lv_at hl 3 rfl) ?_
  refine lv_aload_n hx hb d_Ans_hashOfRow_5 rfl (lv_at hl 0 rfl) ?_
  obtain ⟨q4938, hq4938, hw⟩ := hw
  refine w_getr (q := q4938) (k := 15) (t := 10) (C := R_Ans) (T := F_Ans) (N := 16) hx hb hT hown hK hW fo.1 fo.2 (by decide) in_Ans rfl rfl (by decide) rfl fr_Ans_15 w_3_177 d_Ans_hashOfRow_6 hq4938 (fun aq4938 bq4938 => ?_)
  have fq4938 : q4938 < NN ∧ kcC q4938 = 9 := ⟨aq4938, bq4938⟩
  refine w_geti (k := 5) (t := 9) (C := R_Qry) (T := F_Qry) (N := 20) hx hb hT hown hK hW fq4938.1 fq4938.2 (by decide) in_Qry rfl rfl (by decide) rfl fr_Qry_5 w_3_84 d_Ans_hashOfRow_9 ?_
  refine lv_icmp_ge (tgt := 119) hx hb d_Ans_hashOfRow_12 (by decide) (fun c4939 => ?_) (fun c4939 => ?_)
  · have hw := hw.1 c4939
    refine lv_iload_n hx hb d_Ans_hashOfRow_119 rfl (lv_at hl 2 rfl) ?_
    refine lv_iload_n hx hb d_Ans_hashOfRow_120 rfl (lv_at hl 2 rfl) ?_
    refine lv_bipush (v := 10) hx hb d_Ans_hashOfRow_121 (by decide) ?_
    refine lv_iushr hx hb d_Ans_hashOfRow_123 rfl ?_
    refine lv_ixor hx hb d_Ans_hashOfRow_124 ?_
    exact hret (l2 ^^^ ((l2 : Int32).toUInt32 >>> ((10 : Int32).toUInt32 &&& Int32.toUInt32 31)).toInt32) x H locs 125 ls d_Ans_hashOfRow_125 hw hW hS
  · have hw := hw.2 c4939
    refine lv_aload_n hx hb d_Ans_hashOfRow_15 rfl (lv_at hl 0 rfl) ?_
    obtain ⟨q4940, hq4940, hw⟩ := hw
    refine w_getr (q := q4940) (k := 14) (t := 10) (C := R_Ans) (T := F_Ans) (N := 16) hx hb hT hown hK hW fo.1 fo.2 (by decide) in_Ans rfl rfl (by decide) rfl fr_Ans_14 w_3_176 d_Ans_hashOfRow_16 hq4940 (fun aq4940 bq4940 => ?_)
    have fq4940 : q4940 < NN ∧ kcC q4940 = 6 := ⟨aq4940, bq4940⟩
    refine w_getf (q := (stC q4940 5)) (k := 5) (t := 6) (C := R_Vlt) (T := F_Vlt) (N := 20) hx hb hT hown hK hW fq4940.1 fq4940.2 (by decide) in_Vlt rfl rfl (by decide) rfl fr_Vlt_5 w_2_137 d_Ans_hashOfRow_19 rfl ?_
    refine w_getf (q := (stC (stC q4940 5) 9)) (k := 9) (t := 3) (C := R_Sch) (T := F_Sch) (N := 13) hx hb hT hown hK hW (st_ty hNN fq4940.1 fq4940.2 rfl).1 (st_ty hNN fq4940.1 fq4940.2 rfl).2 (by decide) in_Sch rfl rfl (by decide) rfl fr_Sch_9 w_1_175 d_Ans_hashOfRow_22 rfl ?_
    refine lv_aload_n hx hb d_Ans_hashOfRow_25 rfl (lv_at hl 0 rfl) ?_
    obtain ⟨q4941, hq4941, hw⟩ := hw
    refine w_getr (q := q4941) (k := 15) (t := 10) (C := R_Ans) (T := F_Ans) (N := 16) hx hb hT hown hK hW fo.1 fo.2 (by decide) in_Ans rfl rfl (by decide) rfl fr_Ans_15 w_3_177 d_Ans_hashOfRow_26 hq4941 (fun aq4941 bq4941 => ?_)
    have fq4941 : q4941 < NN ∧ kcC q4941 = 9 := ⟨aq4941, bq4941⟩
    refine w_getf (q := (stC q4941 6)) (k := 6) (t := 9) (C := R_Qry) (T := F_Qry) (N := 20) hx hb hT hown hK hW fq4941.1 fq4941.2 (by decide) in_Qry rfl rfl (by decide) rfl fr_Qry_6 w_3_86 d_Ans_hashOfRow_29 rfl ?_
    refine lv_iload_n hx hb d_Ans_hashOfRow_32 rfl (lv_at hl 3 rfl) ?_
    obtain ⟨hi, hw⟩ := hw
    refine w_iald (o := (stC q4941 6)) hx hb hK hW (st_ty hNN fq4941.1 fq4941.2 rfl).1 (st_ty hNN fq4941.1 fq4941.2 rfl).2 hi d_Ans_hashOfRow_33 ?_
    obtain ⟨hi, hw⟩ := hw
    refine w_iald (o := (stC (stC q4940 5) 9)) hx hb hK hW (st_ty hNN (st_ty hNN fq4940.1 fq4940.2 rfl).1 (st_ty hNN fq4940.1 fq4940.2 rfl).2 rfl).1 (st_ty hNN (st_ty hNN fq4940.1 fq4940.2 rfl).1 (st_ty hNN fq4940.1 fq4940.2 rfl).2 rfl).2 hi d_Ans_hashOfRow_34 ?_
    refine lv_topi (fun v4942 ev4942 => ?_)
    have hw := hw v4942 ev4942
    refine lv_istore (lv' := [(4, .int v4942), (0, .ref (ad o)), (1, .int l1), (2, .int l2), (3, .int l3)]) hx hb d_Ans_hashOfRow_35 hl (by decide) rfl (fun ls hl => ?_)
    refine lv_aload_n hx hb d_Ans_hashOfRow_37 rfl (lv_at hl 1 rfl) ?_
    obtain ⟨q4943, hq4943, hw⟩ := hw
    refine w_getr (q := q4943) (k := 14) (t := 10) (C := R_Ans) (T := F_Ans) (N := 16) hx hb hT hown hK hW fo.1 fo.2 (by decide) in_Ans rfl rfl (by decide) rfl fr_Ans_14 w_3_176 d_Ans_hashOfRow_38 hq4943 (fun aq4943 bq4943 => ?_)
    have fq4943 : q4943 < NN ∧ kcC q4943 = 6 := ⟨aq4943, bq4943⟩
    refine lv_iload_n hx hb d_Ans_hashOfRow_41 rfl (lv_at hl 2 rfl) ?_
    refine lv_iload hx hb d_Ans_hashOfRow_42 (lv_at hl 0 rfl) ?_
    have hF := hW.free hS hA
    refine va_calli (va_runV (C := R_Vlt) (As := [.int l1, .int v4942]) (rest := []) ⟨hx, hb, hml, hown, hT⟩ (k_Vlt_entryOf l dC dI cI cB cJ cZ ad NN E tM tC kK kV hNN H.size q4943 l1 v4942 x fq4943 hw) ⟨callB_of 2 hT (gw_in w_7_85) rfl rfl rfl (hT _ w_1_9) (hT _ w_8_33) (by decide +kernel) ⟨Nat.le_trans (by decide) hRf, Nat.le_trans (by decide) hRl⟩, hT _ w_7_83, hT _ w_7_84⟩ ⟨PV.blind, va_recv hK hW.1 (ci := 6) (q0 := q4943) rfl (pic_obj fq4943.1 fq4943.2 (by decide)), PV.at _ hW hK hN hE hS hF⟩ rfl rfl hl.1 rfl (lv_room (Nat.le_of_ble_eq_true rfl)) d_Ans_hashOfRow_44 ⟨hRc, hRs⟩) hS (fun q _ h => hF q h) hF (fun r4945 x4944 t H locs ht hvm hw hB hz1 hk1 hS => ?_)
    have hW := Wd.back hB ht hF
    clear hB ht hF hz1 hk1 hvm
    refine lv_istore (lv' := [(5, .int r4945), (4, .int v4942), (0, .ref (ad o)), (1, .int l1), (2, .int l2), (3, .int l3)]) hx hb d_Ans_hashOfRow_47 hl (by decide) rfl (fun ls hl => ?_)
    refine lv_iload_n hx hb d_Ans_hashOfRow_49 rfl (lv_at hl 4 rfl) ?_
    refine lv_bipush (v := 31) hx hb d_Ans_hashOfRow_50 (by decide) ?_
    refine lv_imul hx hb d_Ans_hashOfRow_52 ?_
    refine lv_topi (fun v4946 ev4946 => ?_)
    have hw := hw v4946 ev4946
    refine lv_istore_n (lv' := [(2, .int v4946), (5, .int r4945), (4, .int v4942), (0, .ref (ad o)), (1, .int l1), (3, .int l3)]) hx hb d_Ans_hashOfRow_53 rfl hl (by decide) rfl (fun ls hl => ?_)
    refine lv_aload_n hx hb d_Ans_hashOfRow_54 rfl (lv_at hl 3 rfl) ?_
    obtain ⟨q4947, hq4947, hw⟩ := hw
    refine w_getr (q := q4947) (k := 14) (t := 10) (C := R_Ans) (T := F_Ans) (N := 16) hx hb hT hown hK hW fo.1 fo.2 (by decide) in_Ans rfl rfl (by decide) rfl fr_Ans_14 w_3_176 d_Ans_hashOfRow_55 hq4947 (fun aq4947 bq4947 => ?_)
    have fq4947 : q4947 < NN ∧ kcC q4947 = 6 := ⟨aq4947, bq4947⟩
    refine lv_iload hx hb d_Ans_hashOfRow_58 (lv_at hl 1 rfl) ?_
    refine lv_iload hx hb d_Ans_hashOfRow_60 (lv_at hl 2 rfl) ?_
    have hF := hW.free hS hA
    refine va_calli (va_runV (C := R_Vlt) (As := [.int r4945, .int v4942]) (rest := []) ⟨hx, hb, hml, hown, hT⟩ (k_Vlt_hasValue l dC dI cI cB cJ cZ ad NN E tM tC kK kV hNN H.size q4947 r4945 v4942 x4944 fq4947 hw) ⟨callB_of 2 hT (gw_in w_7_50) rfl rfl rfl (hT _ w_1_9) (hT _ w_8_34) (by decide +kernel) ⟨Nat.le_trans (by decide) hRf, Nat.le_trans (by decide) hRl⟩, hT _ w_7_48, hT _ w_7_49⟩ ⟨PV.blind, va_recv hK hW.1 (ci := 6) (q0 := q4947) rfl (pic_obj fq4947.1 fq4947.2 (by decide)), PV.at _ hW hK hN hE hS hF⟩ rfl rfl hl.1 rfl (lv_room (Nat.le_of_ble_eq_true rfl)) d_Ans_hashOfRow_62 ⟨hRc, hRs⟩) hS (fun q _ h => hF q h) hF (fun r4949 x4948 t H locs ht hvm hw hB hz1 hk1 hS => ?_)
    have hW := Wd.back hB ht hF
    clear hB ht hF hz1 hk1 hvm
    refine lv_if_eq (tgt := 113) hx hb d_Ans_hashOfRow_65 (by decide) (fun c4950 => ?_) (fun c4950 => ?_)
    · have hw := hw.1 c4950
      exact t_Ans_hashOfRow_113 hx hb hml hown hT hK hN hA hRc hRs hRf hRl hNN hE hret hrec4 o l1 v4946 l3 v4942 r4945 x4948 H locs ls fo hw hW hS (lv_sub hl [3, 4, 0, 5, 2, 1] rfl)
    · have hw := hw.2 c4950
      refine lv_iload_n hx hb d_Ans_hashOfRow_68 rfl (lv_at hl 0 rfl) ?_
      refine lv_iconst (v := 1) hx hb d_Ans_hashOfRow_69 (by decide) ?_
      refine lv_aload_n hx hb d_Ans_hashOfRow_70 rfl (lv_at hl 3 rfl) ?_
      obtain ⟨q4951, hq4951, hw⟩ := hw
      refine w_getr (q := q4951) (k := 14) (t := 10) (C := R_Ans) (T := F_Ans) (N := 16) hx hb hT hown hK hW fo.1 fo.2 (by decide) in_Ans rfl rfl (by decide) rfl fr_Ans_14 w_3_176 d_Ans_hashOfRow_71 hq4951 (fun aq4951 bq4951 => ?_)
      have fq4951 : q4951 < NN ∧ kcC q4951 = 6 := ⟨aq4951, bq4951⟩
      refine w_getf (q := (stC q4951 5)) (k := 5) (t := 6) (C := R_Vlt) (T := F_Vlt) (N := 20) hx hb hT hown hK hW fq4951.1 fq4951.2 (by decide) in_Vlt rfl rfl (by decide) rfl fr_Vlt_5 w_2_137 d_Ans_hashOfRow_74 rfl ?_
      refine w_getf (q := (stC (stC q4951 5) 3)) (k := 3) (t := 3) (C := R_Sch) (T := F_Sch) (N := 13) hx hb hT hown hK hW (st_ty hNN fq4951.1 fq4951.2 rfl).1 (st_ty hNN fq4951.1 fq4951.2 rfl).2 (by decide) in_Sch rfl rfl (by decide) rfl fr_Sch_3 w_1_150 d_Ans_hashOfRow_77 rfl ?_
      refine lv_aload_n hx hb d_Ans_hashOfRow_80 rfl (lv_at hl 3 rfl) ?_
      obtain ⟨q4952, hq4952, hw⟩ := hw
      refine w_getr (q := q4952) (k := 15) (t := 10) (C := R_Ans) (T := F_Ans) (N := 16) hx hb hT hown hK hW fo.1 fo.2 (by decide) in_Ans rfl rfl (by decide) rfl fr_Ans_15 w_3_177 d_Ans_hashOfRow_81 hq4952 (fun aq4952 bq4952 => ?_)
      have fq4952 : q4952 < NN ∧ kcC q4952 = 9 := ⟨aq4952, bq4952⟩
      refine w_getf (q := (stC q4952 6)) (k := 6) (t := 9) (C := R_Qry) (T := F_Qry) (N := 20) hx hb hT hown hK hW fq4952.1 fq4952.2 (by decide) in_Qry rfl rfl (by decide) rfl fr_Qry_6 w_3_86 d_Ans_hashOfRow_84 rfl ?_
      refine lv_iload_n hx hb d_Ans_hashOfRow_87 rfl (lv_at hl 5 rfl) ?_
      obtain ⟨hi, hw⟩ := hw
      refine w_iald (o := (stC q4952 6)) hx hb hK hW (st_ty hNN fq4952.1 fq4952.2 rfl).1 (st_ty hNN fq4952.1 fq4952.2 rfl).2 hi d_Ans_hashOfRow_88 ?_
      obtain ⟨hi, hw⟩ := hw
      refine w_iald (o := (stC (stC q4951 5) 3)) hx hb hK hW (st_ty hNN (st_ty hNN fq4951.1 fq4951.2 rfl).1 (st_ty hNN fq4951.1 fq4951.2 rfl).2 rfl).1 (st_ty hNN (st_ty hNN fq4951.1 fq4951.2 rfl).1 (st_ty hNN fq4951.1 fq4951.2 rfl).2 rfl).2 hi d_Ans_hashOfRow_89 ?_
      refine lv_aload_n hx hb d_Ans_hashOfRow_90 rfl (lv_at hl 3 rfl) ?_
      obtain ⟨q4953, hq4953, hw⟩ := hw
      refine w_getr (q := q4953) (k := 14) (t := 10) (C := R_Ans) (T := F_Ans) (N := 16) hx hb hT hown hK hW fo.1 fo.2 (by decide) in_Ans rfl rfl (by decide) rfl fr_Ans_14 w_3_176 d_Ans_hashOfRow_91 hq4953 (fun aq4953 bq4953 => ?_)
      have fq4953 : q4953 < NN ∧ kcC q4953 = 6 := ⟨aq4953, bq4953⟩
      refine w_getf (q := (stC q4953 6)) (k := 6) (t := 6) (C := R_Vlt) (T := F_Vlt) (N := 20) hx hb hT hown hK hW fq4953.1 fq4953.2 (by decide) in_Vlt rfl rfl (by decide) rfl fr_Vlt_6 w_2_142 d_Ans_hashOfRow_94 rfl ?_
      refine lv_aload_n hx hb d_Ans_hashOfRow_97 rfl (lv_at hl 3 rfl) ?_
      obtain ⟨q4954, hq4954, hw⟩ := hw
      refine w_getr (q := q4954) (k := 14) (t := 10) (C := R_Ans) (T := F_Ans) (N := 16) hx hb hT hown hK hW fo.1 fo.2 (by decide) in_Ans rfl rfl (by decide) rfl fr_Ans_14 w_3_176 d_Ans_hashOfRow_98 hq4954 (fun aq4954 bq4954 => ?_)
      have fq4954 : q4954 < NN ∧ kcC q4954 = 6 := ⟨aq4954, bq4954⟩
      refine w_getf (q := (stC q4954 9)) (k := 9) (t := 6) (C := R_Vlt) (T := F_Vlt) (N := 20) hx hb hT hown hK hW fq4954.1 fq4954.2 (by decide) in_Vlt rfl rfl (by decide) rfl fr_Vlt_9 w_2_152 d_Ans_hashOfRow_101 rfl ?_
      refine lv_iload hx hb d_Ans_hashOfRow_104 (lv_at hl 1 rfl) ?_
      obtain ⟨hi, hw⟩ := hw
      refine w_lald (o := (stC q4954 9)) hx hb hK hW (st_ty hNN fq4954.1 fq4954.2 rfl).1 (st_ty hNN fq4954.1 fq4954.2 rfl).2 hi d_Ans_hashOfRow_106 ?_
      have hF := hW.free hS hA
      refine va_calli (va_runSN (As := [.int (rA x4948 (stC (stC q4951 5) 3) (rA x4948 (stC q4952 6) l3)), .ref (ad (stC q4953 6)), .long (rL x4948 (stC q4954 9) r4945)]) (rest := [.int 1, .int v4946]) ⟨hx, hb, hml, hown, hT⟩ (k_V_hashOf l dC dI cI cB cJ cZ ad NN E tM tC kK kV hNN H.size (rA x4948 (stC (stC q4951 5) 3) (rA x4948 (stC q4952 6) l3)) (stC q4953 6) (rL x4948 (stC q4954 9) r4945) x4948 (st_ty hNN fq4953.1 fq4953.2 rfl) hw) ⟨va_cnB 3 hT (gw_in w_5_221) rfl rfl rfl (hN _ wn_8_97 rfl) (hT _ w_1_1) (by decide +kernel) ⟨Nat.le_trans (by decide) hRf, Nat.le_trans (by decide) hRl⟩, hT _ w_5_220, trivial⟩ ⟨PV.blind, PV.at _ hW hK hN hE hS hF⟩ rfl rfl hl.1 rfl (lv_room (Nat.le_of_ble_eq_true rfl)) d_Ans_hashOfRow_107 ⟨hRc, hRs⟩) hS (fun q _ h => hF q h) hF (fun r4956 x4955 t H locs ht hvm hw hB hz1 hk1 hS => ?_)
      have hW := Wd.back hB ht hF
      clear hB ht hF hz1 hk1 hvm
      refine lv_iadd hx hb d_Ans_hashOfRow_110 ?_
      refine lv_iadd hx hb d_Ans_hashOfRow_111 ?_
      refine lv_topi (fun v4957 ev4957 => ?_)
      have hw := hw v4957 ev4957
      refine lv_istore_n (lv' := [(2, .int v4957), (5, .int r4945), (4, .int v4942), (0, .ref (ad o)), (1, .int l1), (3, .int l3)]) hx hb d_Ans_hashOfRow_112 rfl hl (by decide) rfl (fun ls hl => ?_)
      exact t_Ans_hashOfRow_113 hx hb hml hown hT hK hN hA hRc hRs hRf hRl hNN hE hret hrec4 o l1 v4957 l3 v4942 r4945 x4955 H locs ls fo hw hW hS (lv_sub hl [3, 4, 0, 5, 2, 1] rfl)
def wl_Ans_hashOfRow_4 (post : Int32 → St → Prop) : Nat → Nat → Int32 → Int32 → Int32 → St → Prop
  | 0 => fun _ _ _ _ _ => False
  | n + 1 => j_Ans_hashOfRow_4 post (wl_Ans_hashOfRow_4 post n)
set_option maxHeartbeats 4000000 in
set_option maxRecDepth 100000 in
theorem tl_Ans_hashOfRow_4 {p : Program} {l : Launch} {e : Env} {R : Room} {s : State} {m : MethodId} {args : Array Value} {below : List Frame} {meth : Method} {c : Code} {cells slots : Nat} {Q : State → Prop} {dC : Nat → ClassId} {dI : Nat → Nat → Nat} {cI cB cJ cZ : ClassId} {A : Nat → Prop} {ad : Nat → Nat} {NN : Nat} {E : Heap} {tM tC : Nat} {kK kV : Nat → Nat} {post : Int32 → St → Prop} (hx : p.tables.exec = Jvm.exec) (hb : c.code = b_Ans_hashOfRow) (hml : c.maxLocals = 6) (hown : s.vm.findClass R_Ans = some m.cls) (hT : ∀ w ∈ TG, w.before args s = true) (hK : va_K (dC, dI) CL (TY cI cB cJ cZ) s) (hN : NW s) (hA : ∀ q : Nat, s.heap.size ≤ q → A q) (hRc : cells ≤ R.cells) (hRs : slots ≤ R.slots) (hRf : 1 ≤ R.frames) (hRl : 27 ≤ R.locals) (hNN : 152 ≤ NN) (hE : CE E tM tC kK kV A s) (hret : ∀ (r : Int32) (x : St) (H : Heap) (locs : List Loc) (pc : Nat) (ls : Array Slot), decode b_Ans_hashOfRow pc = .ok (.ireturn, 1) → post r x → Wd dC dI cI cB cJ cZ ad stC kcC NN A x H → va_S A s.heap H locs → W p l e R s m args below meth c H locs cells slots Q (F0 m pc ls [.int r]))  : ∀ n : Nat, ∀ (o : Nat) (l1 : Int32) (l2 : Int32) (l3 : Int32) (x : St) (H : Heap) (locs : List Loc) (ls : Array Slot), (o < NN ∧ kcC o = 10) → wl_Ans_hashOfRow_4 post n o l1 l2 l3 x → Wd dC dI cI cB cJ cZ ad stC kcC NN A x H → va_S A s.heap H locs → lv_has ls 6 [(0, .ref (ad o)), (1, .int l1), (2, .int l2), (3, .int l3)] → W p l e R s m args below meth c H locs cells slots Q (F0 m 4 ls []) := by
  intro n
  induction n with
  | zero => intro o l1 l2 l3 x H locs ls fo hw; exact hw.elim
  | succ n ih => intro o l1 l2 l3 x H locs ls fo hw hW hS hl; exact t_Ans_hashOfRow_4 hx hb hml hown hT hK hN hA hRc hRs hRf hRl hNN hE hret  ih o l1 l2 l3 x H locs ls fo hw hW hS hl
set_option maxRecDepth 100000 in
def wp_Ans_hashOfRow (post : Int32 → St → Prop) (o : Nat) (l1 : Int32) (x : St) : Prop := ∃ n : Nat, wl_Ans_hashOfRow_4 post n o l1 0 0 x
set_option maxHeartbeats 4000000 in
set_option maxRecDepth 100000 in
theorem t_Ans_hashOfRow_e {p : Program} {l : Launch} {e : Env} {R : Room} {s : State} {m : MethodId} {args : Array Value} {below : List Frame} {meth : Method} {c : Code} {cells slots : Nat} {Q : State → Prop} {dC : Nat → ClassId} {dI : Nat → Nat → Nat} {cI cB cJ cZ : ClassId} {A : Nat → Prop} {ad : Nat → Nat} {NN : Nat} {E : Heap} {tM tC : Nat} {kK kV : Nat → Nat} {post : Int32 → St → Prop} (hx : p.tables.exec = Jvm.exec) (hb : c.code = b_Ans_hashOfRow) (hml : c.maxLocals = 6) (hown : s.vm.findClass R_Ans = some m.cls) (hT : ∀ w ∈ TG, w.before args s = true) (hK : va_K (dC, dI) CL (TY cI cB cJ cZ) s) (hN : NW s) (hA : ∀ q : Nat, s.heap.size ≤ q → A q) (hRc : cells ≤ R.cells) (hRs : slots ≤ R.slots) (hRf : 1 ≤ R.frames) (hRl : 27 ≤ R.locals) (hNN : 152 ≤ NN) (hE : CE E tM tC kK kV A s) (hret : ∀ (r : Int32) (x : St) (H : Heap) (locs : List Loc) (pc : Nat) (ls : Array Slot), decode b_Ans_hashOfRow pc = .ok (.ireturn, 1) → post r x → Wd dC dI cI cB cJ cZ ad stC kcC NN A x H → va_S A s.heap H locs → W p l e R s m args below meth c H locs cells slots Q (F0 m pc ls [.int r])) : ∀ (o : Nat) (l1 : Int32) (x : St) (H : Heap) (locs : List Loc) (ls : Array Slot), (o < NN ∧ kcC o = 10) → wp_Ans_hashOfRow post o l1 x → Wd dC dI cI cB cJ cZ ad stC kcC NN A x H → va_S A s.heap H locs → lv_has ls 6 [(0, .ref (ad o)), (1, .int l1)] → W p l e R s m args below meth c H locs cells slots Q (F0 m 0 ls []) := by
  intro o l1 x H locs ls fo hw hW hS hl
  unfold wp_Ans_hashOfRow at hw
  refine lv_iconst (v := 0) hx hb d_Ans_hashOfRow_0 (by decide) ?_
  refine lv_istore_n (lv' := [(2, .int 0), (0, .ref (ad o)), (1, .int l1)]) hx hb d_Ans_hashOfRow_1 rfl hl (by decide) rfl (fun ls hl => ?_)
  refine lv_iconst (v := 0) hx hb d_Ans_hashOfRow_2 (by decide) ?_
  refine lv_istore_n (lv' := [(3, .int 0), (2, .int 0), (0, .ref (ad o)), (1, .int l1)]) hx hb d_Ans_hashOfRow_3 rfl hl (by decide) rfl (fun ls hl => ?_)
  obtain ⟨n, hw⟩ := hw
  exact tl_Ans_hashOfRow_4 hx hb hml hown hT hK hN hA hRc hRs hRf hRl hNN hE hret  n o l1 0 0 x H locs ls fo hw hW hS (lv_sub hl [2, 3, 1, 0] rfl)
set_option maxHeartbeats 4000000 in
set_option maxRecDepth 100000 in
theorem k_Ans_hashOfRow (l : Launch) (dC : Nat → ClassId) (dI : Nat → Nat → Nat) (cI cB cJ cZ : ClassId) (ad : Nat → Nat) (NN : Nat) (E : Heap) (tM tC : Nat) (kK kV : Nat → Nat) (hNN : 152 ≤ NN) (sz : Nat) (o : Nat) (l1 : Int32) (x : St) (fo : o < NN ∧ kcC o = 10) {post : Int32 → St → Prop} (hw : wp_Ans_hashOfRow post o l1 x) : Met l y_Ans_hashOfRow (wsOf y_Ans_hashOfRow b_Ans_hashOfRow 6 (some (.int))) ({ frames := 1, cells := 0, slots := 0, locals := 27 }) (va_Pc [.ref (ad o), .int l1] (PV dC dI cI cB cJ cZ ad stC kcC NN E tM tC kK kV sz x)) (va_Qi (fun (r : Int32) (y : St) => post r y) (fun y t => Wd dC dI cI cB cJ cZ ad stC kcC NN (va_A (pic ad stC kcC NN cI cB cJ cZ x) sz) y t.heap) (va_A (pic ad stC kcC NN cI cB cJ cZ x) sz)) 0 0 (va_A (pic ad stC kcC NN cI cB cJ cZ x) sz) := by
  refine Met.ofW (cc := b_Ans_hashOfRow) (maxL := 6) (ret := some (.int)) (by decide) rfl ?_
  intro p e s m args below meth c s₁ B hml hv
  obtain ⟨rfl, ⟨hsz, hW0, hK, hN⟩, hE⟩ := hv
  have hx := B.exec
  have hb := B.bytes
  have hr := B.returns
  have hts := atoms_spec B.pre
  have hT : ∀ w ∈ TG, w.before _ s = true := fun w h => hts w (List.mem_cons_of_mem _ h)
  have hown : s.vm.findClass R_Ans = some m.cls := findClass_of_methodNamed B.named
  have hlocks := B.notSynchronized
  subst hsz
  have hW : Wd dC dI cI cB cJ cZ ad stC kcC NN (va_A (pic ad stC kcC NN cI cB cJ cZ x) s.heap.size) x s.heap := ⟨hW0.1, hW0.2.1.self (sz := s.heap.size), hW0.2.2⟩
  generalize hAe : va_A (pic ad stC kcC NN cI cB cJ cZ x) s.heap.size = A at hW hE ⊢
  have hA : ∀ q : Nat, s.heap.size ≤ q → A q := fun q h => by rw [← hAe]; exact Or.inr h
  have hS : va_S A s.heap s.heap [] := va_S.rf
  have hl := lv_entry ([.ref (ad o), .int l1]) (n := 6) (Nat.le_of_ble_eq_true rfl)
  rw [lg_entry_eq]
  generalize (lg_sl ([.ref (ad o), .int l1]) ++ List.replicate (6 - (lg_sl ([.ref (ad o), .int l1])).length) Slot.unset).toArray = ls at hl ⊢
  have hl : lv_has ls 6 [(0, .ref (ad o)), (1, .int l1)] := hl
  exact t_Ans_hashOfRow_e hx hb hml hown hT hK hN hA (Nat.le_refl 0) (Nat.le_refl 0) (Nat.le_refl 1) (Nat.le_refl 27) hNN hE (fun r x H locs pc ls hd hp hW hS => W.iret (v := r) hx hb hr (fun t ht hM => ⟨⟨r, x, rfl, hp, Wd.back hW ht.symm (fun _ z => z)⟩, hS.F ht⟩) hS.2.2 hd hlocks)  o l1 x _ _ ls fo hw hW hS hl
set_option maxRecDepth 100000 in
def j_Ans_sameGroup_149 (post : Int32 → St → Prop) (rec2 : Nat → Int32 → Int32 → Int32 → St → Prop) (o : Nat) (l1 : Int32) (l2 : Int32) (l3 : Int32) (l4 : Int32) (l5 : Int32) (l6 : Int32) (l7 : Int32) (l8 : Int32) (x : St) : Prop := rec2 o l1 l2 (l3 + 1) x
set_option maxHeartbeats 4000000 in
set_option maxRecDepth 100000 in
theorem t_Ans_sameGroup_149 {p : Program} {l : Launch} {e : Env} {R : Room} {s : State} {m : MethodId} {args : Array Value} {below : List Frame} {meth : Method} {c : Code} {cells slots : Nat} {Q : State → Prop} {dC : Nat → ClassId} {dI : Nat → Nat → Nat} {cI cB cJ cZ : ClassId} {A : Nat → Prop} {ad : Nat → Nat} {NN : Nat} {E : Heap} {tM tC : Nat} {kK kV : Nat → Nat} {post : Int32 → St → Prop} {rec2 : Nat → Int32 → Int32 → Int32 → St → Prop} (hx : p.tables.exec = Jvm.exec) (hb : c.code = b_Ans_sameGroup) (hml : c.maxLocals = 9) (hown : s.vm.findClass R_Ans = some m.cls) (hT : ∀ w ∈ TG, w.before args s = true) (hK : va_K (dC, dI) CL (TY cI cB cJ cZ) s) (hN : NW s) (hA : ∀ q : Nat, s.heap.size ≤ q → A q) (hRc : cells ≤ R.cells) (hRs : slots ≤ R.slots) (hRf : 3 ≤ R.frames) (hRl : 137 ≤ R.locals) (hNN : 152 ≤ NN) (hE : CE E tM tC kK kV A s) (hret : ∀ (r : Int32) (x : St) (H : Heap) (locs : List Loc) (pc : Nat) (ls : Array Slot), decode b_Ans_sameGroup pc = .ok (.ireturn, 1) → narrow .boolean (.int r) = .int r → post r x → Wd dC dI cI cB cJ cZ ad stC kcC NN A x H → va_S A s.heap H locs → W p l e R s m args below meth c H locs cells slots Q (F0 m pc ls [.int r])) (hrec2 : ∀ (o : Nat) (l1 : Int32) (l2 : Int32) (l3 : Int32) (x : St) (H : Heap) (locs : List Loc) (ls : Array Slot), (o < NN ∧ kcC o = 10) → rec2 o l1 l2 l3 x → Wd dC dI cI cB cJ cZ ad stC kcC NN A x H → va_S A s.heap H locs → lv_has ls 9 [(0, .ref (ad o)), (1, .int l1), (2, .int l2), (3, .int l3)] → W p l e R s m args below meth c H locs cells slots Q (F0 m 2 ls [])) : ∀ (o : Nat) (l1 : Int32) (l2 : Int32) (l3 : Int32) (l4 : Int32) (l5 : Int32) (l6 : Int32) (l7 : Int32) (l8 : Int32) (x : St) (H : Heap) (locs : List Loc) (ls : Array Slot), (o < NN ∧ kcC o = 10) → j_Ans_sameGroup_149 post rec2 o l1 l2 l3 l4 l5 l6 l7 l8 x → Wd dC dI cI cB cJ cZ ad stC kcC NN A x H → va_S A s.heap H locs → lv_has ls 9 [(0, .ref (ad o)), (1, .int l1), (2, .int l2), (3, .int l3), (4, .int l4), (5, .int l5), (6, .int l6), (7, .int l7), (8, .int l8)] → W p l e R s m args below meth c H locs cells slots Q (F0 m 149 ls []) := by
  intro o l1 l2 l3 l4 l5 l6 l7 l8 x H locs ls fo hw hW hS hl
  unfold j_Ans_sameGroup_149 at hw
  refine lv_iinc (v := (l3 + 1)) (lv' := [(3, .int (l3 + 1)), (0, .ref (ad o)), (1, .int l1), (2, .int l2), (4, .int l4), (5, .int l5), (6, .int l6), (7, .int l7), (8, .int l8)]) hx hb d_Ans_sameGroup_149 hl (k := 3) rfl rfl (by decide) rfl (fun ls hl => ?_)
  refine lv_goto (tgt := 2) hx hb d_Ans_sameGroup_152 (by decide) ?_
  exact hrec2 o l1 l2 (l3 + 1) x H locs ls fo hw hW hS (lv_sub hl [1, 2, 3, 0] rfl)
set_option maxRecDepth 100000 in
def j_Ans_sameGroup_147 (post : Int32 → St → Prop) (o : Nat) (l1 : Int32) (l2 : Int32) (l3 : Int32) (l4 : Int32) (l5 : Int32) (l6 : Int32) (l7 : Int32) (l8 : Int32) (x : St) : Prop := post 0 x
set_option maxHeartbeats 4000000 in
set_option maxRecDepth 100000 in
theorem t_Ans_sameGroup_147 {p : Program} {l : Launch} {e : Env} {R : Room} {s : State} {m : MethodId} {args : Array Value} {below : List Frame} {meth : Method} {c : Code} {cells slots : Nat} {Q : State → Prop} {dC : Nat → ClassId} {dI : Nat → Nat → Nat} {cI cB cJ cZ : ClassId} {A : Nat → Prop} {ad : Nat → Nat} {NN : Nat} {E : Heap} {tM tC : Nat} {kK kV : Nat → Nat} {post : Int32 → St → Prop} (hx : p.tables.exec = Jvm.exec) (hb : c.code = b_Ans_sameGroup) (hml : c.maxLocals = 9) (hown : s.vm.findClass R_Ans = some m.cls) (hT : ∀ w ∈ TG, w.before args s = true) (hK : va_K (dC, dI) CL (TY cI cB cJ cZ) s) (hN : NW s) (hA : ∀ q : Nat, s.heap.size ≤ q → A q) (hRc : cells ≤ R.cells) (hRs : slots ≤ R.slots) (hRf : 3 ≤ R.frames) (hRl : 137 ≤ R.locals) (hNN : 152 ≤ NN) (hE : CE E tM tC kK kV A s) (hret : ∀ (r : Int32) (x : St) (H : Heap) (locs : List Loc) (pc : Nat) (ls : Array Slot), decode b_Ans_sameGroup pc = .ok (.ireturn, 1) → narrow .boolean (.int r) = .int r → post r x → Wd dC dI cI cB cJ cZ ad stC kcC NN A x H → va_S A s.heap H locs → W p l e R s m args below meth c H locs cells slots Q (F0 m pc ls [.int r]))  : ∀ (o : Nat) (l1 : Int32) (l2 : Int32) (l3 : Int32) (l4 : Int32) (l5 : Int32) (l6 : Int32) (l7 : Int32) (l8 : Int32) (x : St) (H : Heap) (locs : List Loc) (ls : Array Slot), (o < NN ∧ kcC o = 10) → j_Ans_sameGroup_147 post o l1 l2 l3 l4 l5 l6 l7 l8 x → Wd dC dI cI cB cJ cZ ad stC kcC NN A x H → va_S A s.heap H locs → lv_has ls 9 [(0, .ref (ad o)), (1, .int l1), (2, .int l2), (3, .int l3), (4, .int l4), (5, .int l5), (6, .int l6), (7, .int l7), (8, .int l8)] → W p l e R s m args below meth c H locs cells slots Q (F0 m 147 ls []) := by
  intro o l1 l2 l3 l4 l5 l6 l7 l8 x H locs ls fo hw hW hS hl
  unfold j_Ans_sameGroup_147 at hw
  refine lv_iconst (v := 0) hx hb d_Ans_sameGroup_147 (by decide) ?_
  exact hret 0 x H locs 148 ls d_Ans_sameGroup_148 rfl hw hW hS
set_option maxRecDepth 100000 in
def j_Ans_sameGroup_2 (post : Int32 → St → Prop) (rec2 : Nat → Int32 → Int32 → Int32 → St → Prop) (o : Nat) (l1 : Int32) (l2 : Int32) (l3 : Int32) (x : St) : Prop := (∃ q4958 : Nat, fR x o 15 = some q4958 ∧ (((fI x q4958 5) ≤ l3 → post 1 x) ∧ (¬ (fI x q4958 5) ≤ l3 → (∃ q4960 : Nat, fR x o 14 = some q4960 ∧ (∃ q4961 : Nat, fR x o 15 = some q4961 ∧ (vp_in l3 (fN x (stC q4961 6)) ∧ (vp_in (rA x (stC q4961 6) l3) (fN x (stC (stC q4960 5) 9)) ∧ (∀ v4962 : Int32, v4962 = (rA x (stC (stC q4960 5) 9) (rA x (stC q4961 6) l3)) → (∃ q4963 : Nat, fR x o 14 = some q4963 ∧ (∃ q4964 : Nat, fR x o 15 = some q4964 ∧ (vp_in l3 (fN x (stC q4964 6)) ∧ (vp_in (rA x (stC q4964 6) l3) (fN x (stC (stC q4963 5) 3)) ∧ (∀ v4965 : Int32, v4965 = (rA x (stC (stC q4963 5) 3) (rA x (stC q4964 6) l3)) → (∃ q4966 : Nat, fR x o 14 = some q4966 ∧ wp_Vlt_entryOf (fun (r4968 : Int32) (x4967 : St) => (∃ q4969 : Nat, fR x4967 o 14 = some q4969 ∧ wp_Vlt_entryOf (fun (r4971 : Int32) (x4970 : St) => (∃ q4972 : Nat, fR x4970 o 14 = some q4972 ∧ wp_Vlt_hasValue (fun (r4974 : Int32) (x4973 : St) => (∃ q4975 : Nat, fR x4973 o 14 = some q4975 ∧ wp_Vlt_hasValue (fun (r4977 : Int32) (x4976 : St) => ((¬ r4974 = r4977 → j_Ans_sameGroup_147 post o l1 l2 l3 v4962 v4965 r4968 r4971 r4974 x4976) ∧ (r4974 = r4977 → ((r4974 = 0 → j_Ans_sameGroup_149 post rec2 o l1 l2 l3 v4962 v4965 r4968 r4971 r4974 x4976) ∧ (¬ r4974 = 0 → (∃ q4980 : Nat, fR x4976 o 14 = some q4980 ∧ (∃ q4981 : Nat, fR x4976 o 14 = some q4981 ∧ (vp_in r4968 (fN x4976 (stC q4981 9)) ∧ (∃ q4982 : Nat, fR x4976 o 14 = some q4982 ∧ (vp_in r4971 (fN x4976 (stC q4982 9)) ∧ wp_Vlt_compare (fun (r4984 : Int32) (x4983 : St) => ((r4984 = 0 → j_Ans_sameGroup_149 post rec2 o l1 l2 l3 v4962 v4965 r4968 r4971 r4974 x4983) ∧ (¬ r4984 = 0 → j_Ans_sameGroup_147 post o l1 l2 l3 v4962 v4965 r4968 r4971 r4974 x4983))) q4980 v4965 (rL x4976 (stC q4981 9) r4968) (rL x4976 (stC q4982 9) r4971) x4976)))))))))) q4975 r4971 v4962 x4973)) q4972 r4968 v4962 x4970)) q4969 l2 v4962 x4967)) q4966 l1 v4962 x))))))))))))))
set_option maxHeartbeats 4000000 in
set_option maxRecDepth 100000 in
theorem t_Ans_sameGroup_2 {p : Program} {l : Launch} {e : Env} {R : Room} {s : State} {m : MethodId} {args : Array Value} {below : List Frame} {meth : Method} {c : Code} {cells slots : Nat} {Q : State → Prop} {dC : Nat → ClassId} {dI : Nat → Nat → Nat} {cI cB cJ cZ : ClassId} {A : Nat → Prop} {ad : Nat → Nat} {NN : Nat} {E : Heap} {tM tC : Nat} {kK kV : Nat → Nat} {post : Int32 → St → Prop} {rec2 : Nat → Int32 → Int32 → Int32 → St → Prop} (hx : p.tables.exec = Jvm.exec) (hb : c.code = b_Ans_sameGroup) (hml : c.maxLocals = 9) (hown : s.vm.findClass R_Ans = some m.cls) (hT : ∀ w ∈ TG, w.before args s = true) (hK : va_K (dC, dI) CL (TY cI cB cJ cZ) s) (hN : NW s) (hA : ∀ q : Nat, s.heap.size ≤ q → A q) (hRc : cells ≤ R.cells) (hRs : slots ≤ R.slots) (hRf : 3 ≤ R.frames) (hRl : 137 ≤ R.locals) (hNN : 152 ≤ NN) (hE : CE E tM tC kK kV A s) (hret : ∀ (r : Int32) (x : St) (H : Heap) (locs : List Loc) (pc : Nat) (ls : Array Slot), decode b_Ans_sameGroup pc = .ok (.ireturn, 1) → narrow .boolean (.int r) = .int r → post r x → Wd dC dI cI cB cJ cZ ad stC kcC NN A x H → va_S A s.heap H locs → W p l e R s m args below meth c H locs cells slots Q (F0 m pc ls [.int r])) (hrec2 : ∀ (o : Nat) (l1 : Int32) (l2 : Int32) (l3 : Int32) (x : St) (H : Heap) (locs : List Loc) (ls : Array Slot), (o < NN ∧ kcC o = 10) → rec2 o l1 l2 l3 x → Wd dC dI cI cB cJ cZ ad stC kcC NN A x H → va_S A s.heap H locs → lv_has ls 9 [(0, .ref (ad o)), (1, .int l1), (2, .int l2), (3, .int l3)] → W p l e R s m args below meth c H locs cells slots Q (F0 m 2 ls [])) : ∀ (o : Nat) (l1 : Int32) (l2 : Int32) (l3 : Int32) (x : St) (H : Heap) (locs : List Loc) (ls : Array Slot), (o < NN ∧ kcC o = 10) → j_Ans_sameGroup_2 post rec2 o l1 l2 l3 x → Wd dC dI cI cB cJ cZ ad stC kcC NN A x H → va_S A s.heap H locs → lv_has ls 9 [(0, .ref (ad o)), (1, .int l1), (2, .int l2), (3, .int l3)] → W p l e R s m args below meth c H locs cells slots Q (F0 m 2 ls []) := by
  intro o l1 l2 l3 x H locs ls fo hw hW hS hl
  unfold j_Ans_sameGroup_2 at hw
  refine lv_iload_n hx hb d_Ans_sameGroup_2 rfl (lv_at hl 3 rfl) ?_
  refine lv_aload_n hx hb d_Ans_sameGroup_3 rfl (lv_at hl 0 rfl) ?_
  obtain ⟨q4958, hq4958, hw⟩ := hw
  refine w_getr (q := q4958) (k := 15) (t := 10) (C := R_Ans) (T := F_Ans) (N := 16) hx hb hT hown hK hW fo.1 fo.2 (by decide) in_Ans rfl rfl (by decide) rfl fr_Ans_15 w_3_177 d_Ans_sameGroup_4 hq4958 (fun aq4958 bq4958 => ?_)
  have fq4958 : q4958 < NN ∧ kcC q4958 = 9 := ⟨aq4958, bq4958⟩
  refine w_geti (k := 5) (t := 9) (C := R_Qry) (T := F_Qry) (N := 20) hx hb hT hown hK hW fq4958.1 fq4958.2 (by decide) in_Qry rfl rfl (by decide) rfl fr_Qry_5 w_3_84 d_Ans_sameGroup_7 ?_
  refine lv_icmp_ge (tgt := 155) hx hb d_Ans_sameGroup_10 (by decide) (fun c4959 => ?_) (fun c4959 => ?_)
  · have hw := hw.1 c4959
    refine lv_iconst (v := 1) hx hb d_Ans_sameGroup_155 (by decide) ?_
    exact hret 1 x H locs 156 ls d_Ans_sameGroup_156 rfl hw hW hS
  · have hw := hw.2 c4959
    refine lv_aload_n hx hb d_Ans_sameGroup_13 rfl (lv_at hl 0 rfl) ?_
    obtain ⟨q4960, hq4960, hw⟩ := hw
    refine w_getr (q := q4960) (k := 14) (t := 10) (C := R_Ans) (T := F_Ans) (N := 16) hx hb hT hown hK hW fo.1 fo.2 (by decide) in_Ans rfl rfl (by decide) rfl fr_Ans_14 w_3_176 d_Ans_sameGroup_14 hq4960 (fun aq4960 bq4960 => ?_)
    have fq4960 : q4960 < NN ∧ kcC q4960 = 6 := ⟨aq4960, bq4960⟩
    refine w_getf (q := (stC q4960 5)) (k := 5) (t := 6) (C := R_Vlt) (T := F_Vlt) (N := 20) hx hb hT hown hK hW fq4960.1 fq4960.2 (by decide) in_Vlt rfl rfl (by decide) rfl fr_Vlt_5 w_2_137 d_Ans_sameGroup_17 rfl ?_
    refine w_getf (q := (stC (stC q4960 5) 9)) (k := 9) (t := 3) (C := R_Sch) (T := F_Sch) (N := 13) hx hb hT hown hK hW (st_ty hNN fq4960.1 fq4960.2 rfl).1 (st_ty hNN fq4960.1 fq4960.2 rfl).2 (by decide) in_Sch rfl rfl (by decide) rfl fr_Sch_9 w_1_175 d_Ans_sameGroup_20 rfl ?_
    refine lv_aload_n hx hb d_Ans_sameGroup_23 rfl (lv_at hl 0 rfl) ?_
    obtain ⟨q4961, hq4961, hw⟩ := hw
    refine w_getr (q := q4961) (k := 15) (t := 10) (C := R_Ans) (T := F_Ans) (N := 16) hx hb hT hown hK hW fo.1 fo.2 (by decide) in_Ans rfl rfl (by decide) rfl fr_Ans_15 w_3_177 d_Ans_sameGroup_24 hq4961 (fun aq4961 bq4961 => ?_)
    have fq4961 : q4961 < NN ∧ kcC q4961 = 9 := ⟨aq4961, bq4961⟩
    refine w_getf (q := (stC q4961 6)) (k := 6) (t := 9) (C := R_Qry) (T := F_Qry) (N := 20) hx hb hT hown hK hW fq4961.1 fq4961.2 (by decide) in_Qry rfl rfl (by decide) rfl fr_Qry_6 w_3_86 d_Ans_sameGroup_27 rfl ?_
    refine lv_iload_n hx hb d_Ans_sameGroup_30 rfl (lv_at hl 3 rfl) ?_
    obtain ⟨hi, hw⟩ := hw
    refine w_iald (o := (stC q4961 6)) hx hb hK hW (st_ty hNN fq4961.1 fq4961.2 rfl).1 (st_ty hNN fq4961.1 fq4961.2 rfl).2 hi d_Ans_sameGroup_31 ?_
    obtain ⟨hi, hw⟩ := hw
    refine w_iald (o := (stC (stC q4960 5) 9)) hx hb hK hW (st_ty hNN (st_ty hNN fq4960.1 fq4960.2 rfl).1 (st_ty hNN fq4960.1 fq4960.2 rfl).2 rfl).1 (st_ty hNN (st_ty hNN fq4960.1 fq4960.2 rfl).1 (st_ty hNN fq4960.1 fq4960.2 rfl).2 rfl).2 hi d_Ans_sameGroup_32 ?_
    refine lv_topi (fun v4962 ev4962 => ?_)
    have hw := hw v4962 ev4962
    refine lv_istore (lv' := [(4, .int v4962), (0, .ref (ad o)), (1, .int l1), (2, .int l2), (3, .int l3)]) hx hb d_Ans_sameGroup_33 hl (by decide) rfl (fun ls hl => ?_)
    refine lv_aload_n hx hb d_Ans_sameGroup_35 rfl (lv_at hl 1 rfl) ?_
    obtain ⟨q4963, hq4963, hw⟩ := hw
    refine w_getr (q := q4963) (k := 14) (t := 10) (C := R_Ans) (T := F_Ans) (N := 16) hx hb hT hown hK hW fo.1 fo.2 (by decide) in_Ans rfl rfl (by decide) rfl fr_Ans_14 w_3_176 d_Ans_sameGroup_36 hq4963 (fun aq4963 bq4963 => ?_)
    have fq4963 : q4963 < NN ∧ kcC q4963 = 6 := ⟨aq4963, bq4963⟩
    refine w_getf (q := (stC q4963 5)) (k := 5) (t := 6) (C := R_Vlt) (T := F_Vlt) (N := 20) hx hb hT hown hK hW fq4963.1 fq4963.2 (by decide) in_Vlt rfl rfl (by decide) rfl fr_Vlt_5 w_2_137 d_Ans_sameGroup_39 rfl ?_
    refine w_getf (q := (stC (stC q4963 5) 3)) (k := 3) (t := 3) (C := R_Sch) (T := F_Sch) (N := 13) hx hb hT hown hK hW (st_ty hNN fq4963.1 fq4963.2 rfl).1 (st_ty hNN fq4963.1 fq4963.2 rfl).2 (by decide) in_Sch rfl rfl (by decide) rfl fr_Sch_3 w_1_150 d_Ans_sameGroup_42 rfl ?_
    refine lv_aload_n hx hb d_Ans_sameGroup_45 rfl (lv_at hl 1 rfl) ?_
    obtain ⟨q4964, hq4964, hw⟩ := hw
    refine w_getr (q := q4964) (k := 15) (t := 10) (C := R_Ans) (T := F_Ans) (N := 16) hx hb hT hown hK hW fo.1 fo.2 (by decide) in_Ans rfl rfl (by decide) rfl fr_Ans_15 w_3_177 d_Ans_sameGroup_46 hq4964 (fun aq4964 bq4964 => ?_)
    have fq4964 : q4964 < NN ∧ kcC q4964 = 9 := ⟨aq4964, bq4964⟩
    refine w_getf (q := (stC q4964 6)) (k := 6) (t := 9) (C := R_Qry) (T := F_Qry) (N := 20) hx hb hT hown hK hW fq4964.1 fq4964.2 (by decide) in_Qry rfl rfl (by decide) rfl fr_Qry_6 w_3_86 d_Ans_sameGroup_49 rfl ?_
    refine lv_iload_n hx hb d_Ans_sameGroup_52 rfl (lv_at hl 4 rfl) ?_
    obtain ⟨hi, hw⟩ := hw
    refine w_iald (o := (stC q4964 6)) hx hb hK hW (st_ty hNN fq4964.1 fq4964.2 rfl).1 (st_ty hNN fq4964.1 fq4964.2 rfl).2 hi d_Ans_sameGroup_53 ?_
    obtain ⟨hi, hw⟩ := hw
    refine w_iald (o := (stC (stC q4963 5) 3)) hx hb hK hW (st_ty hNN (st_ty hNN fq4963.1 fq4963.2 rfl).1 (st_ty hNN fq4963.1 fq4963.2 rfl).2 rfl).1 (st_ty hNN (st_ty hNN fq4963.1 fq4963.2 rfl).1 (st_ty hNN fq4963.1 fq4963.2 rfl).2 rfl).2 hi d_Ans_sameGroup_54 ?_
    refine lv_topi (fun v4965 ev4965 => ?_)
    have hw := hw v4965 ev4965
    refine lv_istore (lv' := [(5, .int v4965), (4, .int v4962), (0, .ref (ad o)), (1, .int l1), (2, .int l2), (3, .int l3)]) hx hb d_Ans_sameGroup_55 hl (by decide) rfl (fun ls hl => ?_)
    refine lv_aload_n hx hb d_Ans_sameGroup_57 rfl (lv_at hl 2 rfl) ?_
    obtain ⟨q4966, hq4966, hw⟩ := hw
    refine w_getr (q := q4966) (k := 14) (t := 10) (C := R_Ans) (T := F_Ans) (N := 16) hx hb hT hown hK hW fo.1 fo.2 (by decide) in_Ans rfl rfl (by decide) rfl fr_Ans_14 w_3_176 d_Ans_sameGroup_58 hq4966 (fun aq4966 bq4966 => ?_)
    have fq4966 : q4966 < NN ∧ kcC q4966 = 6 := ⟨aq4966, bq4966⟩
    refine lv_iload_n hx hb d_Ans_sameGroup_61 rfl (lv_at hl 3 rfl) ?_
    refine lv_iload hx hb d_Ans_sameGroup_62 (lv_at hl 1 rfl) ?_
    have hF := hW.free hS hA
    refine va_calli (va_runV (C := R_Vlt) (As := [.int l1, .int v4962]) (rest := []) ⟨hx, hb, hml, hown, hT⟩ (k_Vlt_entryOf l dC dI cI cB cJ cZ ad NN E tM tC kK kV hNN H.size q4966 l1 v4962 x fq4966 hw) ⟨callB_of 2 hT (gw_in w_7_85) rfl rfl rfl (hT _ w_1_9) (hT _ w_8_33) (by decide +kernel) ⟨Nat.le_trans (by decide) hRf, Nat.le_trans (by decide) hRl⟩, hT _ w_7_83, hT _ w_7_84⟩ ⟨PV.blind, va_recv hK hW.1 (ci := 6) (q0 := q4966) rfl (pic_obj fq4966.1 fq4966.2 (by decide)), PV.at _ hW hK hN hE hS hF⟩ rfl rfl hl.1 rfl (lv_room (Nat.le_of_ble_eq_true rfl)) d_Ans_sameGroup_64 ⟨hRc, hRs⟩) hS (fun q _ h => hF q h) hF (fun r4968 x4967 t H locs ht hvm hw hB hz1 hk1 hS => ?_)
    have hW := Wd.back hB ht hF
    clear hB ht hF hz1 hk1 hvm
    refine lv_istore (lv' := [(6, .int r4968), (5, .int v4965), (4, .int v4962), (0, .ref (ad o)), (1, .int l1), (2, .int l2), (3, .int l3)]) hx hb d_Ans_sameGroup_67 hl (by decide) rfl (fun ls hl => ?_)
    refine lv_aload_n hx hb d_Ans_sameGroup_69 rfl (lv_at hl 3 rfl) ?_
    obtain ⟨q4969, hq4969, hw⟩ := hw
    refine w_getr (q := q4969) (k := 14) (t := 10) (C := R_Ans) (T := F_Ans) (N := 16) hx hb hT hown hK hW fo.1 fo.2 (by decide) in_Ans rfl rfl (by decide) rfl fr_Ans_14 w_3_176 d_Ans_sameGroup_70 hq4969 (fun aq4969 bq4969 => ?_)
    have fq4969 : q4969 < NN ∧ kcC q4969 = 6 := ⟨aq4969, bq4969⟩
    refine lv_iload_n hx hb d_Ans_sameGroup_73 rfl (lv_at hl 5 rfl) ?_
    refine lv_iload hx hb d_Ans_sameGroup_74 (lv_at hl 2 rfl) ?_
    have hF := hW.free hS hA
    refine va_calli (va_runV (C := R_Vlt) (As := [.int l2, .int v4962]) (rest := []) ⟨hx, hb, hml, hown, hT⟩ (k_Vlt_entryOf l dC dI cI cB cJ cZ ad NN E tM tC kK kV hNN H.size q4969 l2 v4962 x4967 fq4969 hw) ⟨callB_of 2 hT (gw_in w_7_85) rfl rfl rfl (hT _ w_1_9) (hT _ w_8_33) (by decide +kernel) ⟨Nat.le_trans (by decide) hRf, Nat.le_trans (by decide) hRl⟩, hT _ w_7_83, hT _ w_7_84⟩ ⟨PV.blind, va_recv hK hW.1 (ci := 6) (q0 := q4969) rfl (pic_obj fq4969.1 fq4969.2 (by decide)), PV.at _ hW hK hN hE hS hF⟩ rfl rfl hl.1 rfl (lv_room (Nat.le_of_ble_eq_true rfl)) d_Ans_sameGroup_76 ⟨hRc, hRs⟩) hS (fun q _ h => hF q h) hF (fun r4971 x4970 t H locs ht hvm hw hB hz1 hk1 hS => ?_)
    have hW := Wd.back hB ht hF
    clear hB ht hF hz1 hk1 hvm
    refine lv_istore (lv' := [(7, .int r4971), (6, .int r4968), (5, .int v4965), (4, .int v4962), (0, .ref (ad o)), (1, .int l1), (2, .int l2), (3, .int l3)]) hx hb d_Ans_sameGroup_79 hl (by decide) rfl (fun ls hl => ?_)
    refine lv_aload_n hx hb d_Ans_sameGroup_81 rfl (lv_at hl 4 rfl) ?_
    obtain ⟨q4972, hq4972, hw⟩ := hw
    refine w_getr (q := q4972) (k := 14) (t := 10) (C := R_Ans) (T := F_Ans) (N := 16) hx hb hT hown hK hW fo.1 fo.2 (by decide) in_Ans rfl rfl (by decide) rfl fr_Ans_14 w_3_176 d_Ans_sameGroup_82 hq4972 (fun aq4972 bq4972 => ?_)
    have fq4972 : q4972 < NN ∧ kcC q4972 = 6 := ⟨aq4972, bq4972⟩
    refine lv_iload hx hb d_Ans_sameGroup_85 (lv_at hl 1 rfl) ?_
    refine lv_iload hx hb d_Ans_sameGroup_87 (lv_at hl 3 rfl) ?_
    have hF := hW.free hS hA
    refine va_calli (va_runV (C := R_Vlt) (As := [.int r4968, .int v4962]) (rest := []) ⟨hx, hb, hml, hown, hT⟩ (k_Vlt_hasValue l dC dI cI cB cJ cZ ad NN E tM tC kK kV hNN H.size q4972 r4968 v4962 x4970 fq4972 hw) ⟨callB_of 2 hT (gw_in w_7_50) rfl rfl rfl (hT _ w_1_9) (hT _ w_8_34) (by decide +kernel) ⟨Nat.le_trans (by decide) hRf, Nat.le_trans (by decide) hRl⟩, hT _ w_7_48, hT _ w_7_49⟩ ⟨PV.blind, va_recv hK hW.1 (ci := 6) (q0 := q4972) rfl (pic_obj fq4972.1 fq4972.2 (by decide)), PV.at _ hW hK hN hE hS hF⟩ rfl rfl hl.1 rfl (lv_room (Nat.le_of_ble_eq_true rfl)) d_Ans_sameGroup_89 ⟨hRc, hRs⟩) hS (fun q _ h => hF q h) hF (fun r4974 x4973 t H locs ht hvm hw hB hz1 hk1 hS => ?_)
    have hW := Wd.back hB ht hF
    clear hB ht hF hz1 hk1 hvm
    refine lv_istore (lv' := [(8, .int r4974), (7, .int r4971), (6, .int r4968), (5, .int v4965), (4, .int v4962), (0, .ref (ad o)), (1, .int l1), (2, .int l2), (3, .int l3)]) hx hb d_Ans_sameGroup_92 hl (by decide) rfl (fun ls hl => ?_)
    refine lv_iload hx hb d_Ans_sameGroup_94 (lv_at hl 0 rfl) ?_
    refine lv_aload_n hx hb d_Ans_sameGroup_96 rfl (lv_at hl 5 rfl) ?_
    obtain ⟨q4975, hq4975, hw⟩ := hw
    refine w_getr (q := q4975) (k := 14) (t := 10) (C := R_Ans) (T := F_Ans) (N := 16) hx hb hT hown hK hW fo.1 fo.2 (by decide) in_Ans rfl rfl (by decide) rfl fr_Ans_14 w_3_176 d_Ans_sameGroup_97 hq4975 (fun aq4975 bq4975 => ?_)
    have fq4975 : q4975 < NN ∧ kcC q4975 = 6 := ⟨aq4975, bq4975⟩
    refine lv_iload hx hb d_Ans_sameGroup_100 (lv_at hl 1 rfl) ?_
    refine lv_iload hx hb d_Ans_sameGroup_102 (lv_at hl 4 rfl) ?_
    have hF := hW.free hS hA
    refine va_calli (va_runV (C := R_Vlt) (As := [.int r4971, .int v4962]) (rest := [.int r4974]) ⟨hx, hb, hml, hown, hT⟩ (k_Vlt_hasValue l dC dI cI cB cJ cZ ad NN E tM tC kK kV hNN H.size q4975 r4971 v4962 x4973 fq4975 hw) ⟨callB_of 2 hT (gw_in w_7_50) rfl rfl rfl (hT _ w_1_9) (hT _ w_8_34) (by decide +kernel) ⟨Nat.le_trans (by decide) hRf, Nat.le_trans (by decide) hRl⟩, hT _ w_7_48, hT _ w_7_49⟩ ⟨PV.blind, va_recv hK hW.1 (ci := 6) (q0 := q4975) rfl (pic_obj fq4975.1 fq4975.2 (by decide)), PV.at _ hW hK hN hE hS hF⟩ rfl rfl hl.1 rfl (lv_room (Nat.le_of_ble_eq_true rfl)) d_Ans_sameGroup_104 ⟨hRc, hRs⟩) hS (fun q _ h => hF q h) hF (fun r4977 x4976 t H locs ht hvm hw hB hz1 hk1 hS => ?_)
    have hW := Wd.back hB ht hF
    clear hB ht hF hz1 hk1 hvm
    refine lv_icmp_ne (tgt := 147) hx hb d_Ans_sameGroup_107 (by decide) (fun c4978 => ?_) (fun c4978 => ?_)
    · have hw := hw.1 c4978
      exact t_Ans_sameGroup_147 hx hb hml hown hT hK hN hA hRc hRs hRf hRl hNN hE hret  o l1 l2 l3 v4962 v4965 r4968 r4971 r4974 x4976 H locs ls fo hw hW hS (lv_sub hl [5, 6, 7, 8, 4, 3, 2, 1, 0] rfl)
    · have hw := hw.2 c4978
      refine lv_iload hx hb d_Ans_sameGroup_110 (lv_at hl 0 rfl) ?_
      refine lv_if_eq (tgt := 149) hx hb d_Ans_sameGroup_112 (by decide) (fun c4979 => ?_) (fun c4979 => ?_)
      · have hw := hw.1 c4979
        exact t_Ans_sameGroup_149 hx hb hml hown hT hK hN hA hRc hRs hRf hRl hNN hE hret hrec2 o l1 l2 l3 v4962 v4965 r4968 r4971 r4974 x4976 H locs ls fo hw hW hS (lv_sub hl [5, 6, 7, 8, 4, 3, 2, 1, 0] rfl)
      · have hw := hw.2 c4979
        refine lv_aload_n hx hb d_Ans_sameGroup_115 rfl (lv_at hl 5 rfl) ?_
        obtain ⟨q4980, hq4980, hw⟩ := hw
        refine w_getr (q := q4980) (k := 14) (t := 10) (C := R_Ans) (T := F_Ans) (N := 16) hx hb hT hown hK hW fo.1 fo.2 (by decide) in_Ans rfl rfl (by decide) rfl fr_Ans_14 w_3_176 d_Ans_sameGroup_116 hq4980 (fun aq4980 bq4980 => ?_)
        have fq4980 : q4980 < NN ∧ kcC q4980 = 6 := ⟨aq4980, bq4980⟩
        refine lv_iload hx hb d_Ans_sameGroup_119 (lv_at hl 3 rfl) ?_
        refine lv_aload_n hx hb d_Ans_sameGroup_121 rfl (lv_at hl 5 rfl) ?_
        obtain ⟨q4981, hq4981, hw⟩ := hw
        refine w_getr (q := q4981) (k := 14) (t := 10) (C := R_Ans) (T := F_Ans) (N := 16) hx hb hT hown hK hW fo.1 fo.2 (by decide) in_Ans rfl rfl (by decide) rfl fr_Ans_14 w_3_176 d_Ans_sameGroup_122 hq4981 (fun aq4981 bq4981 => ?_)
        have fq4981 : q4981 < NN ∧ kcC q4981 = 6 := ⟨aq4981, bq4981⟩
        refine w_getf (q := (stC q4981 9)) (k := 9) (t := 6) (C := R_Vlt) (T := F_Vlt) (N := 20) hx hb hT hown hK hW fq4981.1 fq4981.2 (by decide) in_Vlt rfl rfl (by decide) rfl fr_Vlt_9 w_2_152 d_Ans_sameGroup_125 rfl ?_
        refine lv_iload hx hb d_Ans_sameGroup_128 (lv_at hl 2 rfl) ?_
        obtain ⟨hi, hw⟩ := hw
        refine w_lald (o := (stC q4981 9)) hx hb hK hW (st_ty hNN fq4981.1 fq4981.2 rfl).1 (st_ty hNN fq4981.1 fq4981.2 rfl).2 hi d_Ans_sameGroup_130 ?_
        refine lv_aload_n hx hb d_Ans_sameGroup_131 rfl (lv_at hl 5 rfl) ?_
        obtain ⟨q4982, hq4982, hw⟩ := hw
        refine w_getr (q := q4982) (k := 14) (t := 10) (C := R_Ans) (T := F_Ans) (N := 16) hx hb hT hown hK hW fo.1 fo.2 (by decide) in_Ans rfl rfl (by decide) rfl fr_Ans_14 w_3_176 d_Ans_sameGroup_132 hq4982 (fun aq4982 bq4982 => ?_)
        have fq4982 : q4982 < NN ∧ kcC q4982 = 6 := ⟨aq4982, bq4982⟩
        refine w_getf (q := (stC q4982 9)) (k := 9) (t := 6) (C := R_Vlt) (T := F_Vlt) (N := 20) hx hb hT hown hK hW fq4982.1 fq4982.2 (by decide) in_Vlt rfl rfl (by decide) rfl fr_Vlt_9 w_2_152 d_Ans_sameGroup_135 rfl ?_
        refine lv_iload hx hb d_Ans_sameGroup_138 (lv_at hl 1 rfl) ?_
        obtain ⟨hi, hw⟩ := hw
        refine w_lald (o := (stC q4982 9)) hx hb hK hW (st_ty hNN fq4982.1 fq4982.2 rfl).1 (st_ty hNN fq4982.1 fq4982.2 rfl).2 hi d_Ans_sameGroup_140 ?_
        have hF := hW.free hS hA
        refine va_calli (va_runV (C := R_Vlt) (As := [.int v4965, .long (rL x4976 (stC q4981 9) r4968), .long (rL x4976 (stC q4982 9) r4971)]) (rest := []) ⟨hx, hb, hml, hown, hT⟩ (k_Vlt_compare l dC dI cI cB cJ cZ ad NN E tM tC kK kV hNN H.size q4980 v4965 (rL x4976 (stC q4981 9) r4968) (rL x4976 (stC q4982 9) r4971) x4976 fq4980 hw) ⟨callB_of 3 hT (gw_in w_7_32) rfl rfl rfl (hT _ w_1_9) (hT _ w_8_70) (by decide +kernel) ⟨Nat.le_trans (by decide) hRf, Nat.le_trans (by decide) hRl⟩, hT _ w_7_30, hT _ w_7_31⟩ ⟨PV.blind, va_recv hK hW.1 (ci := 6) (q0 := q4980) rfl (pic_obj fq4980.1 fq4980.2 (by decide)), PV.at _ hW hK hN hE hS hF⟩ rfl rfl hl.1 rfl (lv_room (Nat.le_of_ble_eq_true rfl)) d_Ans_sameGroup_141 ⟨hRc, hRs⟩) hS (fun q _ h => hF q h) hF (fun r4984 x4983 t H locs ht hvm hw hB hz1 hk1 hS => ?_)
        have hW := Wd.back hB ht hF
        clear hB ht hF hz1 hk1 hvm
        refine lv_if_eq (tgt := 149) hx hb d_Ans_sameGroup_144 (by decide) (fun c4985 => ?_) (fun c4985 => ?_)
        · have hw := hw.1 c4985
          exact t_Ans_sameGroup_149 hx hb hml hown hT hK hN hA hRc hRs hRf hRl hNN hE hret hrec2 o l1 l2 l3 v4962 v4965 r4968 r4971 r4974 x4983 H locs ls fo hw hW hS (lv_sub hl [5, 6, 7, 8, 4, 3, 2, 1, 0] rfl)
        · have hw := hw.2 c4985
          exact t_Ans_sameGroup_147 hx hb hml hown hT hK hN hA hRc hRs hRf hRl hNN hE hret  o l1 l2 l3 v4962 v4965 r4968 r4971 r4974 x4983 H locs ls fo hw hW hS (lv_sub hl [5, 6, 7, 8, 4, 3, 2, 1, 0] rfl)
def wl_Ans_sameGroup_2 (post : Int32 → St → Prop) : Nat → Nat → Int32 → Int32 → Int32 → St → Prop
  | 0 => fun _ _ _ _ _ => False
  | n + 1 => j_Ans_sameGroup_2 post (wl_Ans_sameGroup_2 post n)
set_option maxHeartbeats 4000000 in
set_option maxRecDepth 100000 in
theorem tl_Ans_sameGroup_2 {p : Program} {l : Launch} {e : Env} {R : Room} {s : State} {m : MethodId} {args : Array Value} {below : List Frame} {meth : Method} {c : Code} {cells slots : Nat} {Q : State → Prop} {dC : Nat → ClassId} {dI : Nat → Nat → Nat} {cI cB cJ cZ : ClassId} {A : Nat → Prop} {ad : Nat → Nat} {NN : Nat} {E : Heap} {tM tC : Nat} {kK kV : Nat → Nat} {post : Int32 → St → Prop} (hx : p.tables.exec = Jvm.exec) (hb : c.code = b_Ans_sameGroup) (hml : c.maxLocals = 9) (hown : s.vm.findClass R_Ans = some m.cls) (hT : ∀ w ∈ TG, w.before args s = true) (hK : va_K (dC, dI) CL (TY cI cB cJ cZ) s) (hN : NW s) (hA : ∀ q : Nat, s.heap.size ≤ q → A q) (hRc : cells ≤ R.cells) (hRs : slots ≤ R.slots) (hRf : 3 ≤ R.frames) (hRl : 137 ≤ R.locals) (hNN : 152 ≤ NN) (hE : CE E tM tC kK kV A s) (hret : ∀ (r : Int32) (x : St) (H : Heap) (locs : List Loc) (pc : Nat) (ls : Array Slot), decode b_Ans_sameGroup pc = .ok (.ireturn, 1) → narrow .boolean (.int r) = .int r → post r x → Wd dC dI cI cB cJ cZ ad stC kcC NN A x H → va_S A s.heap H locs → W p l e R s m args below meth c H locs cells slots Q (F0 m pc ls [.int r]))  : ∀ n : Nat, ∀ (o : Nat) (l1 : Int32) (l2 : Int32) (l3 : Int32) (x : St) (H : Heap) (locs : List Loc) (ls : Array Slot), (o < NN ∧ kcC o = 10) → wl_Ans_sameGroup_2 post n o l1 l2 l3 x → Wd dC dI cI cB cJ cZ ad stC kcC NN A x H → va_S A s.heap H locs → lv_has ls 9 [(0, .ref (ad o)), (1, .int l1), (2, .int l2), (3, .int l3)] → W p l e R s m args below meth c H locs cells slots Q (F0 m 2 ls []) := by
  intro n
  induction n with
  | zero => intro o l1 l2 l3 x H locs ls fo hw; exact hw.elim
  | succ n ih => intro o l1 l2 l3 x H locs ls fo hw hW hS hl; exact t_Ans_sameGroup_2 hx hb hml hown hT hK hN hA hRc hRs hRf hRl hNN hE hret  ih o l1 l2 l3 x H locs ls fo hw hW hS hl
set_option maxRecDepth 100000 in
def wp_Ans_sameGroup (post : Int32 → St → Prop) (o : Nat) (l1 : Int32) (l2 : Int32) (x : St) : Prop := ∃ n : Nat, wl_Ans_sameGroup_2 post n o l1 l2 0 x
set_option maxHeartbeats 4000000 in
set_option maxRecDepth 100000 in
theorem t_Ans_sameGroup_e {p : Program} {l : Launch} {e : Env} {R : Room} {s : State} {m : MethodId} {args : Array Value} {below : List Frame} {meth : Method} {c : Code} {cells slots : Nat} {Q : State → Prop} {dC : Nat → ClassId} {dI : Nat → Nat → Nat} {cI cB cJ cZ : ClassId} {A : Nat → Prop} {ad : Nat → Nat} {NN : Nat} {E : Heap} {tM tC : Nat} {kK kV : Nat → Nat} {post : Int32 → St → Prop} (hx : p.tables.exec = Jvm.exec) (hb : c.code = b_Ans_sameGroup) (hml : c.maxLocals = 9) (hown : s.vm.findClass R_Ans = some m.cls) (hT : ∀ w ∈ TG, w.before args s = true) (hK : va_K (dC, dI) CL (TY cI cB cJ cZ) s) (hN : NW s) (hA : ∀ q : Nat, s.heap.size ≤ q → A q) (hRc : cells ≤ R.cells) (hRs : slots ≤ R.slots) (hRf : 3 ≤ R.frames) (hRl : 137 ≤ R.locals) (hNN : 152 ≤ NN) (hE : CE E tM tC kK kV A s) (hret : ∀ (r : Int32) (x : St) (H : Heap) (locs : List Loc) (pc : Nat) (ls : Array Slot), decode b_Ans_sameGroup pc = .ok (.ireturn, 1) → narrow .boolean (.int r) = .int r → post r x → Wd dC dI cI cB cJ cZ ad stC kcC NN A x H → va_S A s.heap H locs → W p l e R s m args below meth c H locs cells slots Q (F0 m pc ls [.int r])) : ∀ (o : Nat) (l1 : Int32) (l2 : Int32) (x : St) (H : Heap) (locs : List Loc) (ls : Array Slot), (o < NN ∧ kcC o = 10) → wp_Ans_sameGroup post o l1 l2 x → Wd dC dI cI cB cJ cZ ad stC kcC NN A x H → va_S A s.heap H locs → lv_has ls 9 [(0, .ref (ad o)), (1, .int l1), (2, .int l2)] → W p l e R s m args below meth c H locs cells slots Q (F0 m 0 ls []) := by
  intro o l1 l2 x H locs ls fo hw hW hS hl
  unfold wp_Ans_sameGroup at hw
  refine lv_iconst (v := 0) hx hb d_Ans_sameGroup_0 (by decide) ?_
  refine lv_istore_n (lv' := [(3, .int 0), (0, .ref (ad o)), (1, .int l1), (2, .int l2)]) hx hb d_Ans_sameGroup_1 rfl hl (by decide) rfl (fun ls hl => ?_)
  obtain ⟨n, hw⟩ := hw
  exact tl_Ans_sameGroup_2 hx hb hml hown hT hK hN hA hRc hRs hRf hRl hNN hE hret  n o l1 l2 0 x H locs ls fo hw hW hS (lv_sub hl [1, 2, 3, 0] rfl)
set_option maxHeartbeats 4000000 in
set_option maxRecDepth 100000 in
theorem k_Ans_sameGroup (l : Launch) (dC : Nat → ClassId) (dI : Nat → Nat → Nat) (cI cB cJ cZ : ClassId) (ad : Nat → Nat) (NN : Nat) (E : Heap) (tM tC : Nat) (kK kV : Nat → Nat) (hNN : 152 ≤ NN) (sz : Nat) (o : Nat) (l1 : Int32) (l2 : Int32) (x : St) (fo : o < NN ∧ kcC o = 10) {post : Int32 → St → Prop} (hw : wp_Ans_sameGroup post o l1 l2 x) : Met l y_Ans_sameGroup (wsOf y_Ans_sameGroup b_Ans_sameGroup 9 (some (.boolean))) ({ frames := 3, cells := 0, slots := 0, locals := 137 }) (va_Pc [.ref (ad o), .int l1, .int l2] (PV dC dI cI cB cJ cZ ad stC kcC NN E tM tC kK kV sz x)) (va_Qi (fun (r : Int32) (y : St) => post r y) (fun y t => Wd dC dI cI cB cJ cZ ad stC kcC NN (va_A (pic ad stC kcC NN cI cB cJ cZ x) sz) y t.heap) (va_A (pic ad stC kcC NN cI cB cJ cZ x) sz)) 0 0 (va_A (pic ad stC kcC NN cI cB cJ cZ x) sz) := by
  refine Met.ofW (cc := b_Ans_sameGroup) (maxL := 9) (ret := some (.boolean)) (by decide) rfl ?_
  intro p e s m args below meth c s₁ B hml hv
  obtain ⟨rfl, ⟨hsz, hW0, hK, hN⟩, hE⟩ := hv
  have hx := B.exec
  have hb := B.bytes
  have hr := B.returns
  have hts := atoms_spec B.pre
  have hT : ∀ w ∈ TG, w.before _ s = true := fun w h => hts w (List.mem_cons_of_mem _ h)
  have hown : s.vm.findClass R_Ans = some m.cls := findClass_of_methodNamed B.named
  have hlocks := B.notSynchronized
  subst hsz
  have hW : Wd dC dI cI cB cJ cZ ad stC kcC NN (va_A (pic ad stC kcC NN cI cB cJ cZ x) s.heap.size) x s.heap := ⟨hW0.1, hW0.2.1.self (sz := s.heap.size), hW0.2.2⟩
  generalize hAe : va_A (pic ad stC kcC NN cI cB cJ cZ x) s.heap.size = A at hW hE ⊢
  have hA : ∀ q : Nat, s.heap.size ≤ q → A q := fun q h => by rw [← hAe]; exact Or.inr h
  have hS : va_S A s.heap s.heap [] := va_S.rf
  have hl := lv_entry ([.ref (ad o), .int l1, .int l2]) (n := 9) (Nat.le_of_ble_eq_true rfl)
  rw [lg_entry_eq]
  generalize (lg_sl ([.ref (ad o), .int l1, .int l2]) ++ List.replicate (9 - (lg_sl ([.ref (ad o), .int l1, .int l2])).length) Slot.unset).toArray = ls at hl ⊢
  have hl : lv_has ls 9 [(0, .ref (ad o)), (1, .int l1), (2, .int l2)] := hl
  exact t_Ans_sameGroup_e hx hb hml hown hT hK hN hA (Nat.le_refl 0) (Nat.le_refl 0) (Nat.le_refl 3) (Nat.le_refl 137) hNN hE (fun r x H locs pc ls hd hz hp hW hS => W.zret (v := r) (ty := .boolean) hx hb hr hz (fun t ht hM => ⟨⟨r, x, rfl, hp, Wd.back hW ht.symm (fun _ z => z)⟩, hS.F ht⟩) hS.2.2 hd hlocks)  o l1 l2 x _ _ ls fo hw hW hS hl
set_option maxRecDepth 100000 in
def j_Ans_groupOf_84 (post : Int32 → St → Prop) (o : Nat) (l1 : Int32) (l2 : Int32) (l3 : Int32) (x : St) : Prop := (((fI x o 1) < 500 → wp_Ans_addGroup (fun (x4987 : St) => (vp_in l2 (fN x4987 (stC o 10)) ∧ ∀ x4988 : St, x4988 = setA x4987 (stC o 10) l2 (fI x4987 o 1) → post ((fI x4988 o 1) - 1) x4988)) o l1 x) ∧ (¬ (fI x o 1) < 500 → post (-1) x))
set_option maxHeartbeats 4000000 in
set_option maxRecDepth 100000 in
theorem t_Ans_groupOf_84 {p : Program} {l : Launch} {e : Env} {R : Room} {s : State} {m : MethodId} {args : Array Value} {below : List Frame} {meth : Method} {c : Code} {cells slots : Nat} {Q : State → Prop} {dC : Nat → ClassId} {dI : Nat → Nat → Nat} {cI cB cJ cZ : ClassId} {A : Nat → Prop} {ad : Nat → Nat} {NN : Nat} {E : Heap} {tM tC : Nat} {kK kV : Nat → Nat} {post : Int32 → St → Prop} (hx : p.tables.exec = Jvm.exec) (hb : c.code = b_Ans_groupOf) (hml : c.maxLocals = 4) (hown : s.vm.findClass R_Ans = some m.cls) (hT : ∀ w ∈ TG, w.before args s = true) (hK : va_K (dC, dI) CL (TY cI cB cJ cZ) s) (hN : NW s) (hA : ∀ q : Nat, s.heap.size ≤ q → A q) (hRc : cells ≤ R.cells) (hRs : slots ≤ R.slots) (hRf : 4 ≤ R.frames) (hRl : 165 ≤ R.locals) (hNN : 152 ≤ NN) (hE : CE E tM tC kK kV A s) (hret : ∀ (r : Int32) (x : St) (H : Heap) (locs : List Loc) (pc : Nat) (ls : Array Slot), decode b_Ans_groupOf pc = .ok (.ireturn, 1) → post r x → Wd dC dI cI cB cJ cZ ad stC kcC NN A x H → va_S A s.heap H locs → W p l e R s m args below meth c H locs cells slots Q (F0 m pc ls [.int r]))  : ∀ (o : Nat) (l1 : Int32) (l2 : Int32) (l3 : Int32) (x : St) (H : Heap) (locs : List Loc) (ls : Array Slot), (o < NN ∧ kcC o = 10) → j_Ans_groupOf_84 post o l1 l2 l3 x → Wd dC dI cI cB cJ cZ ad stC kcC NN A x H → va_S A s.heap H locs → lv_has ls 4 [(0, .ref (ad o)), (1, .int l1), (2, .int l2), (3, .int l3)] → W p l e R s m args below meth c H locs cells slots Q (F0 m 84 ls []) := by
  intro o l1 l2 l3 x H locs ls fo hw hW hS hl
  unfold j_Ans_groupOf_84 at hw
  refine lv_aload_n hx hb d_Ans_groupOf_84 rfl (lv_at hl 0 rfl) ?_
  refine w_geti (k := 1) (t := 10) (C := R_Ans) (T := F_Ans) (N := 16) hx hb hT hown hK hW fo.1 fo.2 (by decide) in_Ans rfl rfl (by decide) rfl fr_Ans_1 w_3_157 d_Ans_groupOf_85 ?_
  refine lv_sipush (v := 500) hx hb d_Ans_groupOf_88 (by decide) ?_
  refine lv_icmp_lt (tgt := 96) hx hb d_Ans_groupOf_91 (by decide) (fun c4986 => ?_) (fun c4986 => ?_)
  · have hw := hw.1 c4986
    refine lv_aload_n hx hb d_Ans_groupOf_96 rfl (lv_at hl 0 rfl) ?_
    refine lv_iload_n hx hb d_Ans_groupOf_97 rfl (lv_at hl 1 rfl) ?_
    have hF := hW.free hS hA
    refine va_callv (va_runV (C := R_Ans) (As := [.int l1]) (rest := []) ⟨hx, hb, hml, hown, hT⟩ (k_Ans_addGroup l dC dI cI cB cJ cZ ad NN E tM tC kK kV hNN H.size o l1 x fo hw) ⟨callB_of 1 hT (gw_in w_8_28) rfl rfl rfl (hT _ w_1_13) (hT _ w_8_25) (by decide +kernel) ⟨Nat.le_trans (by decide) hRf, Nat.le_trans (by decide) hRl⟩, hT _ w_8_27, hT _ ws_87⟩ ⟨PV.blind, va_recv hK hW.1 (ci := 10) (q0 := o) rfl (pic_obj fo.1 fo.2 (by decide)), PV.at _ hW hK hN hE hS hF⟩ rfl rfl hl.1 rfl (lv_room (Nat.le_of_ble_eq_true rfl)) d_Ans_groupOf_98 ⟨hRc, hRs⟩) hS (fun q _ h => hF q h) hF (fun  x4987 t H locs ht hvm hw hB hz1 hk1 hS => ?_)
    have hW := Wd.back hB ht hF
    clear hB ht hF hz1 hk1 hvm
    refine lv_aload_n hx hb d_Ans_groupOf_101 rfl (lv_at hl 0 rfl) ?_
    refine w_getf (q := (stC o 10)) (k := 10) (t := 10) (C := R_Ans) (T := F_Ans) (N := 16) hx hb hT hown hK hW fo.1 fo.2 (by decide) in_Ans rfl rfl (by decide) rfl fr_Ans_10 w_3_172 d_Ans_groupOf_102 rfl ?_
    refine lv_iload_n hx hb d_Ans_groupOf_105 rfl (lv_at hl 2 rfl) ?_
    refine lv_aload_n hx hb d_Ans_groupOf_106 rfl (lv_at hl 0 rfl) ?_
    refine w_geti (k := 1) (t := 10) (C := R_Ans) (T := F_Ans) (N := 16) hx hb hT hown hK hW fo.1 fo.2 (by decide) in_Ans rfl rfl (by decide) rfl fr_Ans_1 w_3_157 d_Ans_groupOf_107 ?_
    obtain ⟨hi, hw⟩ := hw
    refine w_iast (o := (stC o 10)) hx hb hK hW hS (st_ty hNN fo.1 fo.2 rfl).1 (st_ty hNN fo.1 fo.2 rfl).2 hi d_Ans_groupOf_110 (fun H locs hW hS => ?_)
    obtain ⟨x4988, ex4988⟩ : ∃ y : St, y = setA x4987 (stC o 10) l2 (fI x4987 o 1) := ⟨_, rfl⟩
    rw [← ex4988] at hW
    have hw := hw x4988 ex4988
    refine lv_aload_n hx hb d_Ans_groupOf_111 rfl (lv_at hl 0 rfl) ?_
    refine w_geti (k := 1) (t := 10) (C := R_Ans) (T := F_Ans) (N := 16) hx hb hT hown hK hW fo.1 fo.2 (by decide) in_Ans rfl rfl (by decide) rfl fr_Ans_1 w_3_157 d_Ans_groupOf_112 ?_
    refine lv_iconst (v := 1) hx hb d_Ans_groupOf_115 (by decide) ?_
    refine lv_isub hx hb d_Ans_groupOf_116 ?_
    exact hret ((fI x4988 o 1) - 1) x4988 H locs 117 ls d_Ans_groupOf_117 hw hW hS
  · have hw := hw.2 c4986
    refine lv_iconst (v := (-1)) hx hb d_Ans_groupOf_94 (by decide) ?_
    exact hret (-1) x H locs 95 ls d_Ans_groupOf_95 hw hW hS
set_option maxRecDepth 100000 in
def j_Ans_groupOf_24 (post : Int32 → St → Prop) (rec24 : Nat → Int32 → Int32 → Int32 → St → Prop) (o : Nat) (l1 : Int32) (l2 : Int32) (l3 : Int32) (x : St) : Prop := ((1024 ≤ l3 → j_Ans_groupOf_84 post o l1 l2 l3 x) ∧ (¬ 1024 ≤ l3 → (vp_in l2 (fN x (stC o 10)) ∧ (((rA x (stC o 10) l2) = 0 → j_Ans_groupOf_84 post o l1 l2 l3 x) ∧ (¬ (rA x (stC o 10) l2) = 0 → (vp_in l2 (fN x (stC o 10)) ∧ (vp_in ((rA x (stC o 10) l2) - 1) (fN x (stC o 5)) ∧ wp_Ans_sameGroup (fun (r4992 : Int32) (x4991 : St) => ((r4992 = 0 → (∀ v4994 : Int32, v4994 = ((l2 + 1) &&& 1023) → rec24 o l1 v4994 (l3 + 1) x4991)) ∧ (¬ r4992 = 0 → (vp_in l2 (fN x4991 (stC o 10)) ∧ post ((rA x4991 (stC o 10) l2) - 1) x4991)))) o (rA x (stC o 5) ((rA x (stC o 10) l2) - 1)) l1 x)))))))
set_option maxHeartbeats 4000000 in
set_option maxRecDepth 100000 in
theorem t_Ans_groupOf_24 {p : Program} {l : Launch} {e : Env} {R : Room} {s : State} {m : MethodId} {args : Array Value} {below : List Frame} {meth : Method} {c : Code} {cells slots : Nat} {Q : State → Prop} {dC : Nat → ClassId} {dI : Nat → Nat → Nat} {cI cB cJ cZ : ClassId} {A : Nat → Prop} {ad : Nat → Nat} {NN : Nat} {E : Heap} {tM tC : Nat} {kK kV : Nat → Nat} {post : Int32 → St → Prop} {rec24 : Nat → Int32 → Int32 → Int32 → St → Prop} (hx : p.tables.exec = Jvm.exec) (hb : c.code = b_Ans_groupOf) (hml : c.maxLocals = 4) (hown : s.vm.findClass R_Ans = some m.cls) (hT : ∀ w ∈ TG, w.before args s = true) (hK : va_K (dC, dI) CL (TY cI cB cJ cZ) s) (hN : NW s) (hA : ∀ q : Nat, s.heap.size ≤ q → A q) (hRc : cells ≤ R.cells) (hRs : slots ≤ R.slots) (hRf : 4 ≤ R.frames) (hRl : 165 ≤ R.locals) (hNN : 152 ≤ NN) (hE : CE E tM tC kK kV A s) (hret : ∀ (r : Int32) (x : St) (H : Heap) (locs : List Loc) (pc : Nat) (ls : Array Slot), decode b_Ans_groupOf pc = .ok (.ireturn, 1) → post r x → Wd dC dI cI cB cJ cZ ad stC kcC NN A x H → va_S A s.heap H locs → W p l e R s m args below meth c H locs cells slots Q (F0 m pc ls [.int r])) (hrec24 : ∀ (o : Nat) (l1 : Int32) (l2 : Int32) (l3 : Int32) (x : St) (H : Heap) (locs : List Loc) (ls : Array Slot), (o < NN ∧ kcC o = 10) → rec24 o l1 l2 l3 x → Wd dC dI cI cB cJ cZ ad stC kcC NN A x H → va_S A s.heap H locs → lv_has ls 4 [(0, .ref (ad o)), (1, .int l1), (2, .int l2), (3, .int l3)] → W p l e R s m args below meth c H locs cells slots Q (F0 m 24 ls [])) : ∀ (o : Nat) (l1 : Int32) (l2 : Int32) (l3 : Int32) (x : St) (H : Heap) (locs : List Loc) (ls : Array Slot), (o < NN ∧ kcC o = 10) → j_Ans_groupOf_24 post rec24 o l1 l2 l3 x → Wd dC dI cI cB cJ cZ ad stC kcC NN A x H → va_S A s.heap H locs → lv_has ls 4 [(0, .ref (ad o)), (1, .int l1), (2, .int l2), (3, .int l3)] → W p l e R s m args below meth c H locs cells slots Q (F0 m 24 ls []) := by
  intro o l1 l2 l3 x H locs ls fo hw hW hS hl
  unfold j_Ans_groupOf_24 at hw
  refine lv_iload_n hx hb d_Ans_groupOf_24 rfl (lv_at hl 3 rfl) ?_
  refine lv_sipush (v := 1024) hx hb d_Ans_groupOf_25 (by decide) ?_
  refine lv_icmp_ge (tgt := 84) hx hb d_Ans_groupOf_28 (by decide) (fun c4989 => ?_) (fun c4989 => ?_)
  · have hw := hw.1 c4989
    exact t_Ans_groupOf_84 hx hb hml hown hT hK hN hA hRc hRs hRf hRl hNN hE hret  o l1 l2 l3 x H locs ls fo hw hW hS (lv_sub hl [0, 1, 2, 3] rfl)
  · have hw := hw.2 c4989
    refine lv_aload_n hx hb d_Ans_groupOf_31 rfl (lv_at hl 0 rfl) ?_
    refine w_getf (q := (stC o 10)) (k := 10) (t := 10) (C := R_Ans) (T := F_Ans) (N := 16) hx hb hT hown hK hW fo.1 fo.2 (by decide) in_Ans rfl rfl (by decide) rfl fr_Ans_10 w_3_172 d_Ans_groupOf_32 rfl ?_
    refine lv_iload_n hx hb d_Ans_groupOf_35 rfl (lv_at hl 2 rfl) ?_
    obtain ⟨hi, hw⟩ := hw
    refine w_iald (o := (stC o 10)) hx hb hK hW (st_ty hNN fo.1 fo.2 rfl).1 (st_ty hNN fo.1 fo.2 rfl).2 hi d_Ans_groupOf_36 ?_
    refine lv_if_eq (tgt := 84) hx hb d_Ans_groupOf_37 (by decide) (fun c4990 => ?_) (fun c4990 => ?_)
    · have hw := hw.1 c4990
      exact t_Ans_groupOf_84 hx hb hml hown hT hK hN hA hRc hRs hRf hRl hNN hE hret  o l1 l2 l3 x H locs ls fo hw hW hS (lv_sub hl [0, 1, 2, 3] rfl)
    · have hw := hw.2 c4990
      refine lv_aload_n hx hb d_Ans_groupOf_40 rfl (lv_at hl 0 rfl) ?_
      refine lv_aload_n hx hb d_Ans_groupOf_41 rfl (lv_at hl 0 rfl) ?_
      refine w_getf (q := (stC o 5)) (k := 5) (t := 10) (C := R_Ans) (T := F_Ans) (N := 16) hx hb hT hown hK hW fo.1 fo.2 (by decide) in_Ans rfl rfl (by decide) rfl fr_Ans_5 w_3_165 d_Ans_groupOf_42 rfl ?_
      refine lv_aload_n hx hb d_Ans_groupOf_45 rfl (lv_at hl 0 rfl) ?_
      refine w_getf (q := (stC o 10)) (k := 10) (t := 10) (C := R_Ans) (T := F_Ans) (N := 16) hx hb hT hown hK hW fo.1 fo.2 (by decide) in_Ans rfl rfl (by decide) rfl fr_Ans_10 w_3_172 d_Ans_groupOf_46 rfl ?_
      refine lv_iload_n hx hb d_Ans_groupOf_49 rfl (lv_at hl 2 rfl) ?_
      obtain ⟨hi, hw⟩ := hw
      refine w_iald (o := (stC o 10)) hx hb hK hW (st_ty hNN fo.1 fo.2 rfl).1 (st_ty hNN fo.1 fo.2 rfl).2 hi d_Ans_groupOf_50 ?_
      refine lv_iconst (v := 1) hx hb d_Ans_groupOf_51 (by decide) ?_
      refine lv_isub hx hb d_Ans_groupOf_52 ?_
      obtain ⟨hi, hw⟩ := hw
      refine w_iald (o := (stC o 5)) hx hb hK hW (st_ty hNN fo.1 fo.2 rfl).1 (st_ty hNN fo.1 fo.2 rfl).2 hi d_Ans_groupOf_53 ?_
      refine lv_iload_n hx hb d_Ans_groupOf_54 rfl (lv_at hl 1 rfl) ?_
      have hF := hW.free hS hA
      refine va_calli (va_runV (C := R_Ans) (As := [.int (rA x (stC o 5) ((rA x (stC o 10) l2) - 1)), .int l1]) (rest := []) ⟨hx, hb, hml, hown, hT⟩ (k_Ans_sameGroup l dC dI cI cB cJ cZ ad NN E tM tC kK kV hNN H.size o (rA x (stC o 5) ((rA x (stC o 10) l2) - 1)) l1 x fo hw) ⟨callB_of 2 hT (gw_in w_8_101) rfl rfl rfl (hT _ w_1_13) (hT _ w_8_98) (by decide +kernel) ⟨Nat.le_trans (by decide) hRf, Nat.le_trans (by decide) hRl⟩, hT _ w_8_100, hT _ ws_101⟩ ⟨PV.blind, va_recv hK hW.1 (ci := 10) (q0 := o) rfl (pic_obj fo.1 fo.2 (by decide)), PV.at _ hW hK hN hE hS hF⟩ rfl rfl hl.1 rfl (lv_room (Nat.le_of_ble_eq_true rfl)) d_Ans_groupOf_55 ⟨hRc, hRs⟩) hS (fun q _ h => hF q h) hF (fun r4992 x4991 t H locs ht hvm hw hB hz1 hk1 hS => ?_)
      have hW := Wd.back hB ht hF
      clear hB ht hF hz1 hk1 hvm
      refine lv_if_eq (tgt := 70) hx hb d_Ans_groupOf_58 (by decide) (fun c4993 => ?_) (fun c4993 => ?_)
      · have hw := hw.1 c4993
        refine lv_iload_n hx hb d_Ans_groupOf_70 rfl (lv_at hl 2 rfl) ?_
        refine lv_iconst (v := 1) hx hb d_Ans_groupOf_71 (by decide) ?_
        refine lv_iadd hx hb d_Ans_groupOf_72 ?_
        refine lv_sipush (v := 1023) hx hb d_Ans_groupOf_73 (by decide) ?_
        refine lv_iand hx hb d_Ans_groupOf_76 ?_
        refine lv_topi (fun v4994 ev4994 => ?_)
        have hw := hw v4994 ev4994
        refine lv_istore_n (lv' := [(2, .int v4994), (0, .ref (ad o)), (1, .int l1), (3, .int l3)]) hx hb d_Ans_groupOf_77 rfl hl (by decide) rfl (fun ls hl => ?_)
        refine lv_iinc (v := (l3 + 1)) (lv' := [(3, .int (l3 + 1)), (2, .int v4994), (0, .ref (ad o)), (1, .int l1)]) hx hb d_Ans_groupOf_78 hl (k := 3) rfl rfl (by decide) rfl (fun ls hl => ?_)
        refine lv_goto (tgt := 24) hx hb d_Ans_groupOf_81 (by decide) ?_
        exact hrec24 o l1 v4994 (l3 + 1) x4991 H locs ls fo hw hW hS (lv_sub hl [2, 3, 1, 0] rfl)
      · have hw := hw.2 c4993
        refine lv_aload_n hx hb d_Ans_groupOf_61 rfl (lv_at hl 0 rfl) ?_
        refine w_getf (q := (stC o 10)) (k := 10) (t := 10) (C := R_Ans) (T := F_Ans) (N := 16) hx hb hT hown hK hW fo.1 fo.2 (by decide) in_Ans rfl rfl (by decide) rfl fr_Ans_10 w_3_172 d_Ans_groupOf_62 rfl ?_
        refine lv_iload_n hx hb d_Ans_groupOf_65 rfl (lv_at hl 2 rfl) ?_
        obtain ⟨hi, hw⟩ := hw
        refine w_iald (o := (stC o 10)) hx hb hK hW (st_ty hNN fo.1 fo.2 rfl).1 (st_ty hNN fo.1 fo.2 rfl).2 hi d_Ans_groupOf_66 ?_
        refine lv_iconst (v := 1) hx hb d_Ans_groupOf_67 (by decide) ?_
        refine lv_isub hx hb d_Ans_groupOf_68 ?_
        exact hret ((rA x4991 (stC o 10) l2) - 1) x4991 H locs 69 ls d_Ans_groupOf_69 hw hW hS
def wl_Ans_groupOf_24 (post : Int32 → St → Prop) : Nat → Nat → Int32 → Int32 → Int32 → St → Prop
  | 0 => fun _ _ _ _ _ => False
  | n + 1 => j_Ans_groupOf_24 post (wl_Ans_groupOf_24 post n)
set_option maxHeartbeats 4000000 in
set_option maxRecDepth 100000 in
theorem tl_Ans_groupOf_24 {p : Program} {l : Launch} {e : Env} {R : Room} {s : State} {m : MethodId} {args : Array Value} {below : List Frame} {meth : Method} {c : Code} {cells slots : Nat} {Q : State → Prop} {dC : Nat → ClassId} {dI : Nat → Nat → Nat} {cI cB cJ cZ : ClassId} {A : Nat → Prop} {ad : Nat → Nat} {NN : Nat} {E : Heap} {tM tC : Nat} {kK kV : Nat → Nat} {post : Int32 → St → Prop} (hx : p.tables.exec = Jvm.exec) (hb : c.code = b_Ans_groupOf) (hml : c.maxLocals = 4) (hown : s.vm.findClass R_Ans = some m.cls) (hT : ∀ w ∈ TG, w.before args s = true) (hK : va_K (dC, dI) CL (TY cI cB cJ cZ) s) (hN : NW s) (hA : ∀ q : Nat, s.heap.size ≤ q → A q) (hRc : cells ≤ R.cells) (hRs : slots ≤ R.slots) (hRf : 4 ≤ R.frames) (hRl : 165 ≤ R.locals) (hNN : 152 ≤ NN) (hE : CE E tM tC kK kV A s) (hret : ∀ (r : Int32) (x : St) (H : Heap) (locs : List Loc) (pc : Nat) (ls : Array Slot), decode b_Ans_groupOf pc = .ok (.ireturn, 1) → post r x → Wd dC dI cI cB cJ cZ ad stC kcC NN A x H → va_S A s.heap H locs → W p l e R s m args below meth c H locs cells slots Q (F0 m pc ls [.int r]))  : ∀ n : Nat, ∀ (o : Nat) (l1 : Int32) (l2 : Int32) (l3 : Int32) (x : St) (H : Heap) (locs : List Loc) (ls : Array Slot), (o < NN ∧ kcC o = 10) → wl_Ans_groupOf_24 post n o l1 l2 l3 x → Wd dC dI cI cB cJ cZ ad stC kcC NN A x H → va_S A s.heap H locs → lv_has ls 4 [(0, .ref (ad o)), (1, .int l1), (2, .int l2), (3, .int l3)] → W p l e R s m args below meth c H locs cells slots Q (F0 m 24 ls []) := by
  intro n
  induction n with
  | zero => intro o l1 l2 l3 x H locs ls fo hw; exact hw.elim
  | succ n ih => intro o l1 l2 l3 x H locs ls fo hw hW hS hl; exact t_Ans_groupOf_24 hx hb hml hown hT hK hN hA hRc hRs hRf hRl hNN hE hret  ih o l1 l2 l3 x H locs ls fo hw hW hS hl
set_option maxRecDepth 100000 in
def wp_Ans_groupOf (post : Int32 → St → Prop) (o : Nat) (l1 : Int32) (x : St) : Prop := (∃ q4995 : Nat, fR x o 15 = some q4995 ∧ ((¬ (fI x q4995 5) = 0 → wp_Ans_hashOfRow (fun (r4998 : Int32) (x4997 : St) => (∀ v4999 : Int32, v4999 = (r4998 &&& 1023) → ∃ n : Nat, wl_Ans_groupOf_24 post n o l1 v4999 0 x4997)) o l1 x) ∧ ((fI x q4995 5) = 0 → post 0 x)))
set_option maxHeartbeats 4000000 in
set_option maxRecDepth 100000 in
theorem t_Ans_groupOf_e {p : Program} {l : Launch} {e : Env} {R : Room} {s : State} {m : MethodId} {args : Array Value} {below : List Frame} {meth : Method} {c : Code} {cells slots : Nat} {Q : State → Prop} {dC : Nat → ClassId} {dI : Nat → Nat → Nat} {cI cB cJ cZ : ClassId} {A : Nat → Prop} {ad : Nat → Nat} {NN : Nat} {E : Heap} {tM tC : Nat} {kK kV : Nat → Nat} {post : Int32 → St → Prop} (hx : p.tables.exec = Jvm.exec) (hb : c.code = b_Ans_groupOf) (hml : c.maxLocals = 4) (hown : s.vm.findClass R_Ans = some m.cls) (hT : ∀ w ∈ TG, w.before args s = true) (hK : va_K (dC, dI) CL (TY cI cB cJ cZ) s) (hN : NW s) (hA : ∀ q : Nat, s.heap.size ≤ q → A q) (hRc : cells ≤ R.cells) (hRs : slots ≤ R.slots) (hRf : 4 ≤ R.frames) (hRl : 165 ≤ R.locals) (hNN : 152 ≤ NN) (hE : CE E tM tC kK kV A s) (hret : ∀ (r : Int32) (x : St) (H : Heap) (locs : List Loc) (pc : Nat) (ls : Array Slot), decode b_Ans_groupOf pc = .ok (.ireturn, 1) → post r x → Wd dC dI cI cB cJ cZ ad stC kcC NN A x H → va_S A s.heap H locs → W p l e R s m args below meth c H locs cells slots Q (F0 m pc ls [.int r])) : ∀ (o : Nat) (l1 : Int32) (x : St) (H : Heap) (locs : List Loc) (ls : Array Slot), (o < NN ∧ kcC o = 10) → wp_Ans_groupOf post o l1 x → Wd dC dI cI cB cJ cZ ad stC kcC NN A x H → va_S A s.heap H locs → lv_has ls 4 [(0, .ref (ad o)), (1, .int l1)] → W p l e R s m args below meth c H locs cells slots Q (F0 m 0 ls []) := by
  intro o l1 x H locs ls fo hw hW hS hl
  unfold wp_Ans_groupOf at hw
  refine lv_aload_n hx hb d_Ans_groupOf_0 rfl (lv_at hl 0 rfl) ?_
  obtain ⟨q4995, hq4995, hw⟩ := hw
  refine w_getr (q := q4995) (k := 15) (t := 10) (C := R_Ans) (T := F_Ans) (N := 16) hx hb hT hown hK hW fo.1 fo.2 (by decide) in_Ans rfl rfl (by decide) rfl fr_Ans_15 w_3_177 d_Ans_groupOf_1 hq4995 (fun aq4995 bq4995 => ?_)
  have fq4995 : q4995 < NN ∧ kcC q4995 = 9 := ⟨aq4995, bq4995⟩
  refine w_geti (k := 5) (t := 9) (C := R_Qry) (T := F_Qry) (N := 20) hx hb hT hown hK hW fq4995.1 fq4995.2 (by decide) in_Qry rfl rfl (by decide) rfl fr_Qry_5 w_3_84 d_Ans_groupOf_4 ?_
  refine lv_if_ne (tgt := 12) hx hb d_Ans_groupOf_7 (by decide) (fun c4996 => ?_) (fun c4996 => ?_)
  · have hw := hw.1 c4996
    refine lv_aload_n hx hb d_Ans_groupOf_12 rfl (lv_at hl 0 rfl) ?_
    refine lv_iload_n hx hb d_Ans_groupOf_13 rfl (lv_at hl 1 rfl) ?_
    have hF := hW.free hS hA
    refine va_calli (va_runV (C := R_Ans) (As := [.int l1]) (rest := []) ⟨hx, hb, hml, hown, hT⟩ (k_Ans_hashOfRow l dC dI cI cB cJ cZ ad NN E tM tC kK kV hNN H.size o l1 x fo hw) ⟨callB_of 1 hT (gw_in w_8_96) rfl rfl rfl (hT _ w_1_13) (hT _ w_8_93) (by decide +kernel) ⟨Nat.le_trans (by decide) hRf, Nat.le_trans (by decide) hRl⟩, hT _ w_8_95, hT _ ws_100⟩ ⟨PV.blind, va_recv hK hW.1 (ci := 10) (q0 := o) rfl (pic_obj fo.1 fo.2 (by decide)), PV.at _ hW hK hN hE hS hF⟩ rfl rfl hl.1 rfl (lv_room (Nat.le_of_ble_eq_true rfl)) d_Ans_groupOf_14 ⟨hRc, hRs⟩) hS (fun q _ h => hF q h) hF (fun r4998 x4997 t H locs ht hvm hw hB hz1 hk1 hS => ?_)
    have hW := Wd.back hB ht hF
    clear hB ht hF hz1 hk1 hvm
    refine lv_sipush (v := 1023) hx hb d_Ans_groupOf_17 (by decide) ?_
    refine lv_iand hx hb d_Ans_groupOf_20 ?_
    refine lv_topi (fun v4999 ev4999 => ?_)
    have hw := hw v4999 ev4999
    refine lv_istore_n (lv' := [(2, .int v4999), (0, .ref (ad o)), (1, .int l1)]) hx hb d_Ans_groupOf_21 rfl hl (by decide) rfl (fun ls hl => ?_)
    refine lv_iconst (v := 0) hx hb d_Ans_groupOf_22 (by decide) ?_
    refine lv_istore_n (lv' := [(3, .int 0), (2, .int v4999), (0, .ref (ad o)), (1, .int l1)]) hx hb d_Ans_groupOf_23 rfl hl (by decide) rfl (fun ls hl => ?_)
    obtain ⟨n, hw⟩ := hw
    exact tl_Ans_groupOf_24 hx hb hml hown hT hK hN hA hRc hRs hRf hRl hNN hE hret  n o l1 v4999 0 x4997 H locs ls fo hw hW hS (lv_sub hl [2, 3, 1, 0] rfl)
  · have hw := hw.2 c4996
    refine lv_iconst (v := 0) hx hb d_Ans_groupOf_10 (by decide) ?_
    exact hret 0 x H locs 11 ls d_Ans_groupOf_11 hw hW hS
set_option maxHeartbeats 4000000 in
set_option maxRecDepth 100000 in
theorem k_Ans_groupOf (l : Launch) (dC : Nat → ClassId) (dI : Nat → Nat → Nat) (cI cB cJ cZ : ClassId) (ad : Nat → Nat) (NN : Nat) (E : Heap) (tM tC : Nat) (kK kV : Nat → Nat) (hNN : 152 ≤ NN) (sz : Nat) (o : Nat) (l1 : Int32) (x : St) (fo : o < NN ∧ kcC o = 10) {post : Int32 → St → Prop} (hw : wp_Ans_groupOf post o l1 x) : Met l y_Ans_groupOf (wsOf y_Ans_groupOf b_Ans_groupOf 4 (some (.int))) ({ frames := 4, cells := 0, slots := 0, locals := 165 }) (va_Pc [.ref (ad o), .int l1] (PV dC dI cI cB cJ cZ ad stC kcC NN E tM tC kK kV sz x)) (va_Qi (fun (r : Int32) (y : St) => post r y) (fun y t => Wd dC dI cI cB cJ cZ ad stC kcC NN (va_A (pic ad stC kcC NN cI cB cJ cZ x) sz) y t.heap) (va_A (pic ad stC kcC NN cI cB cJ cZ x) sz)) 0 0 (va_A (pic ad stC kcC NN cI cB cJ cZ x) sz) := by
  refine Met.ofW (cc := b_Ans_groupOf) (maxL := 4) (ret := some (.int)) (by decide) rfl ?_
  intro p e s m args below meth c s₁ B hml hv
  obtain ⟨rfl, ⟨hsz, hW0, hK, hN⟩, hE⟩ := hv
  have hx := B.exec
  have hb := B.bytes
  have hr := B.returns
  have hts := atoms_spec B.pre
  have hT : ∀ w ∈ TG, w.before _ s = true := fun w h => hts w (List.mem_cons_of_mem _ h)
  have hown : s.vm.findClass R_Ans = some m.cls := findClass_of_methodNamed B.named
  have hlocks := B.notSynchronized
  subst hsz
  have hW : Wd dC dI cI cB cJ cZ ad stC kcC NN (va_A (pic ad stC kcC NN cI cB cJ cZ x) s.heap.size) x s.heap := ⟨hW0.1, hW0.2.1.self (sz := s.heap.size), hW0.2.2⟩
  generalize hAe : va_A (pic ad stC kcC NN cI cB cJ cZ x) s.heap.size = A at hW hE ⊢
  have hA : ∀ q : Nat, s.heap.size ≤ q → A q := fun q h => by rw [← hAe]; exact Or.inr h
  have hS : va_S A s.heap s.heap [] := va_S.rf
  have hl := lv_entry ([.ref (ad o), .int l1]) (n := 4) (Nat.le_of_ble_eq_true rfl)
  rw [lg_entry_eq]
  generalize (lg_sl ([.ref (ad o), .int l1]) ++ List.replicate (4 - (lg_sl ([.ref (ad o), .int l1])).length) Slot.unset).toArray = ls at hl ⊢
  have hl : lv_has ls 4 [(0, .ref (ad o)), (1, .int l1)] := hl
  exact t_Ans_groupOf_e hx hb hml hown hT hK hN hA (Nat.le_refl 0) (Nat.le_refl 0) (Nat.le_refl 4) (Nat.le_refl 165) hNN hE (fun r x H locs pc ls hd hp hW hS => W.iret (v := r) hx hb hr (fun t ht hM => ⟨⟨r, x, rfl, hp, Wd.back hW ht.symm (fun _ z => z)⟩, hS.F ht⟩) hS.2.2 hd hlocks)  o l1 x _ _ ls fo hw hW hS hl
set_option maxRecDepth 100000 in
def j_Ans_gatherValue_163 (post : St → Prop) (o : Nat) (l1 : Int32) (l2 : Int32) (l3 : Int32) (l4 : Int32) (l5 : Int32) (l6 : Int32) (l7 : Int32) (x : St) : Prop := (∃ q5000 : Nat, fR x o 14 = some q5000 ∧ (vp_in l6 (fN x (stC q5000 9)) ∧ (vp_in l1 (fN x (stC o 9)) ∧ ∀ x5001 : St, x5001 = setL x (stC o 9) l1 (rL x (stC q5000 9) l6) → post x5001)))
set_option maxHeartbeats 4000000 in
set_option maxRecDepth 100000 in
theorem t_Ans_gatherValue_163 {p : Program} {l : Launch} {e : Env} {R : Room} {s : State} {m : MethodId} {args : Array Value} {below : List Frame} {meth : Method} {c : Code} {cells slots : Nat} {Q : State → Prop} {dC : Nat → ClassId} {dI : Nat → Nat → Nat} {cI cB cJ cZ : ClassId} {A : Nat → Prop} {ad : Nat → Nat} {NN : Nat} {E : Heap} {tM tC : Nat} {kK kV : Nat → Nat} {post : St → Prop} (hx : p.tables.exec = Jvm.exec) (hb : c.code = b_Ans_gatherValue) (hml : c.maxLocals = 8) (hown : s.vm.findClass R_Ans = some m.cls) (hT : ∀ w ∈ TG, w.before args s = true) (hK : va_K (dC, dI) CL (TY cI cB cJ cZ) s) (hN : NW s) (hA : ∀ q : Nat, s.heap.size ≤ q → A q) (hRc : cells ≤ R.cells) (hRs : slots ≤ R.slots) (hRf : 3 ≤ R.frames) (hRl : 137 ≤ R.locals) (hNN : 152 ≤ NN) (hE : CE E tM tC kK kV A s) (hret : ∀ (x : St) (H : Heap) (locs : List Loc) (pc : Nat) (ls : Array Slot), decode b_Ans_gatherValue pc = .ok (.return_, 1) → post x → Wd dC dI cI cB cJ cZ ad stC kcC NN A x H → va_S A s.heap H locs → W p l e R s m args below meth c H locs cells slots Q (F0 m pc ls []))  : ∀ (o : Nat) (l1 : Int32) (l2 : Int32) (l3 : Int32) (l4 : Int32) (l5 : Int32) (l6 : Int32) (l7 : Int32) (x : St) (H : Heap) (locs : List Loc) (ls : Array Slot), (o < NN ∧ kcC o = 10) → j_Ans_gatherValue_163 post o l1 l2 l3 l4 l5 l6 l7 x → Wd dC dI cI cB cJ cZ ad stC kcC NN A x H → va_S A s.heap H locs → lv_has ls 8 [(0, .ref (ad o)), (1, .int l1), (2, .int l2), (3, .int l3), (4, .int l4), (5, .int l5), (6, .int l6), (7, .int l7)] → W p l e R s m args below meth c H locs cells slots Q (F0 m 163 ls []) := by
  intro o l1 l2 l3 l4 l5 l6 l7 x H locs ls fo hw hW hS hl
  unfold j_Ans_gatherValue_163 at hw
  refine lv_aload_n hx hb d_Ans_gatherValue_163 rfl (lv_at hl 0 rfl) ?_
  refine w_getf (q := (stC o 9)) (k := 9) (t := 10) (C := R_Ans) (T := F_Ans) (N := 16) hx hb hT hown hK hW fo.1 fo.2 (by decide) in_Ans rfl rfl (by decide) rfl fr_Ans_9 w_3_170 d_Ans_gatherValue_164 rfl ?_
  refine lv_iload_n hx hb d_Ans_gatherValue_167 rfl (lv_at hl 1 rfl) ?_
  refine lv_aload_n hx hb d_Ans_gatherValue_168 rfl (lv_at hl 0 rfl) ?_
  obtain ⟨q5000, hq5000, hw⟩ := hw
  refine w_getr (q := q5000) (k := 14) (t := 10) (C := R_Ans) (T := F_Ans) (N := 16) hx hb hT hown hK hW fo.1 fo.2 (by decide) in_Ans rfl rfl (by decide) rfl fr_Ans_14 w_3_176 d_Ans_gatherValue_169 hq5000 (fun aq5000 bq5000 => ?_)
  have fq5000 : q5000 < NN ∧ kcC q5000 = 6 := ⟨aq5000, bq5000⟩
  refine w_getf (q := (stC q5000 9)) (k := 9) (t := 6) (C := R_Vlt) (T := F_Vlt) (N := 20) hx hb hT hown hK hW fq5000.1 fq5000.2 (by decide) in_Vlt rfl rfl (by decide) rfl fr_Vlt_9 w_2_152 d_Ans_gatherValue_172 rfl ?_
  refine lv_iload hx hb d_Ans_gatherValue_175 (lv_at hl 6 rfl) ?_
  obtain ⟨hi, hw⟩ := hw
  refine w_lald (o := (stC q5000 9)) hx hb hK hW (st_ty hNN fq5000.1 fq5000.2 rfl).1 (st_ty hNN fq5000.1 fq5000.2 rfl).2 hi d_Ans_gatherValue_177 ?_
  obtain ⟨hi, hw⟩ := hw
  refine w_last (o := (stC o 9)) hx hb hK hW hS (st_ty hNN fo.1 fo.2 rfl).1 (st_ty hNN fo.1 fo.2 rfl).2 hi d_Ans_gatherValue_178 (fun H locs hW hS => ?_)
  obtain ⟨x5001, ex5001⟩ : ∃ y : St, y = setL x (stC o 9) l1 (rL x (stC q5000 9) l6) := ⟨_, rfl⟩
  rw [← ex5001] at hW
  have hw := hw x5001 ex5001
  exact hret x5001 H locs 179 ls d_Ans_gatherValue_179 hw hW hS
set_option maxRecDepth 100000 in
def wp_Ans_gatherValue (post : St → Prop) (o : Nat) (l1 : Int32) (l2 : Int32) (l3 : Int32) (l4 : Int32) (x : St) : Prop := (∃ q5002 : Nat, fR x o 14 = some q5002 ∧ (vp_in l4 (fN x (stC (stC q5002 5) 9)) ∧ (∀ v5003 : Int32, v5003 = (rA x (stC (stC q5002 5) 9) l4) → (∃ q5004 : Nat, fR x o 14 = some q5004 ∧ wp_Vlt_entryOf (fun (r5006 : Int32) (x5005 : St) => (∃ q5007 : Nat, fR x5005 o 14 = some q5007 ∧ wp_Vlt_hasValue (fun (r5009 : Int32) (x5008 : St) => ((¬ r5009 = 0 → ((¬ l2 = 2 → (vp_in l1 (fN x5008 (stC o 8)) ∧ ((¬ (rA x5008 (stC o 8) l1) = 0 → ((¬ l2 = 3 → (∃ q5014 : Nat, fR x5008 o 14 = some q5014 ∧ (∃ q5015 : Nat, fR x5008 o 14 = some q5015 ∧ (vp_in l4 (fN x5008 (stC (stC q5015 5) 3)) ∧ (∃ q5016 : Nat, fR x5008 o 14 = some q5016 ∧ (vp_in r5006 (fN x5008 (stC q5016 9)) ∧ (vp_in l1 (fN x5008 (stC o 9)) ∧ wp_Vlt_compare (fun (r5018 : Int32) (x5017 : St) => ((¬ l2 = 4 → ((r5018 ≤ 0 → post x5017) ∧ (¬ r5018 ≤ 0 → j_Ans_gatherValue_163 post o l1 l2 l3 l4 v5003 r5006 r5018 x5017))) ∧ (l2 = 4 → ((0 ≤ r5018 → post x5017) ∧ (¬ 0 ≤ r5018 → j_Ans_gatherValue_163 post o l1 l2 l3 l4 v5003 r5006 r5018 x5017))))) q5014 (rA x5008 (stC (stC q5015 5) 3) l4) (rL x5008 (stC q5016 9) r5006) (rL x5008 (stC o 9) l1) x5008))))))) ∧ (l2 = 3 → (vp_in l1 (fN x5008 (stC o 9)) ∧ (∃ q5022 : Nat, fR x5008 o 14 = some q5022 ∧ (vp_in r5006 (fN x5008 (stC q5022 9)) ∧ (vp_in l1 (fN x5008 (stC o 9)) ∧ ∀ x5023 : St, x5023 = setL x5008 (stC o 9) l1 ((rL x5008 (stC o 9) l1) + (rL x5008 (stC q5022 9) r5006)) → post x5023))))))) ∧ ((rA x5008 (stC o 8) l1) = 0 → wp_Ans_keepValue (fun (x5024 : St) => post x5024) o l1 l3 l4 x5008)))) ∧ (l2 = 2 → (vp_in l1 (fN x5008 (stC o 9)) ∧ (vp_in l1 (fN x5008 (stC o 9)) ∧ ∀ x5025 : St, x5025 = setL x5008 (stC o 9) l1 ((rL x5008 (stC o 9) l1) + 1) → post x5025))))) ∧ (r5009 = 0 → post x5008))) q5007 r5006 v5003 x5005)) q5004 l3 v5003 x))))
set_option maxHeartbeats 4000000 in
set_option maxRecDepth 100000 in
theorem t_Ans_gatherValue_e {p : Program} {l : Launch} {e : Env} {R : Room} {s : State} {m : MethodId} {args : Array Value} {below : List Frame} {meth : Method} {c : Code} {cells slots : Nat} {Q : State → Prop} {dC : Nat → ClassId} {dI : Nat → Nat → Nat} {cI cB cJ cZ : ClassId} {A : Nat → Prop} {ad : Nat → Nat} {NN : Nat} {E : Heap} {tM tC : Nat} {kK kV : Nat → Nat} {post : St → Prop} (hx : p.tables.exec = Jvm.exec) (hb : c.code = b_Ans_gatherValue) (hml : c.maxLocals = 8) (hown : s.vm.findClass R_Ans = some m.cls) (hT : ∀ w ∈ TG, w.before args s = true) (hK : va_K (dC, dI) CL (TY cI cB cJ cZ) s) (hN : NW s) (hA : ∀ q : Nat, s.heap.size ≤ q → A q) (hRc : cells ≤ R.cells) (hRs : slots ≤ R.slots) (hRf : 3 ≤ R.frames) (hRl : 137 ≤ R.locals) (hNN : 152 ≤ NN) (hE : CE E tM tC kK kV A s) (hret : ∀ (x : St) (H : Heap) (locs : List Loc) (pc : Nat) (ls : Array Slot), decode b_Ans_gatherValue pc = .ok (.return_, 1) → post x → Wd dC dI cI cB cJ cZ ad stC kcC NN A x H → va_S A s.heap H locs → W p l e R s m args below meth c H locs cells slots Q (F0 m pc ls [])) : ∀ (o : Nat) (l1 : Int32) (l2 : Int32) (l3 : Int32) (l4 : Int32) (x : St) (H : Heap) (locs : List Loc) (ls : Array Slot), (o < NN ∧ kcC o = 10) → wp_Ans_gatherValue post o l1 l2 l3 l4 x → Wd dC dI cI cB cJ cZ ad stC kcC NN A x H → va_S A s.heap H locs → lv_has ls 8 [(0, .ref (ad o)), (1, .int l1), (2, .int l2), (3, .int l3), (4, .int l4)] → W p l e R s m args below meth c H locs cells slots Q (F0 m 0 ls []) := by
  intro o l1 l2 l3 l4 x H locs ls fo hw hW hS hl
  unfold wp_Ans_gatherValue at hw
  refine lv_aload_n hx hb d_Ans_gatherValue_0 rfl (lv_at hl 0 rfl) ?_
  obtain ⟨q5002, hq5002, hw⟩ := hw
  refine w_getr (q := q5002) (k := 14) (t := 10) (C := R_Ans) (T := F_Ans) (N := 16) hx hb hT hown hK hW fo.1 fo.2 (by decide) in_Ans rfl rfl (by decide) rfl fr_Ans_14 w_3_176 d_Ans_gatherValue_1 hq5002 (fun aq5002 bq5002 => ?_)
  have fq5002 : q5002 < NN ∧ kcC q5002 = 6 := ⟨aq5002, bq5002⟩
  refine w_getf (q := (stC q5002 5)) (k := 5) (t := 6) (C := R_Vlt) (T := F_Vlt) (N := 20) hx hb hT hown hK hW fq5002.1 fq5002.2 (by decide) in_Vlt rfl rfl (by decide) rfl fr_Vlt_5 w_2_137 d_Ans_gatherValue_4 rfl ?_
  refine w_getf (q := (stC (stC q5002 5) 9)) (k := 9) (t := 3) (C := R_Sch) (T := F_Sch) (N := 13) hx hb hT hown hK hW (st_ty hNN fq5002.1 fq5002.2 rfl).1 (st_ty hNN fq5002.1 fq5002.2 rfl).2 (by decide) in_Sch rfl rfl (by decide) rfl fr_Sch_9 w_1_175 d_Ans_gatherValue_7 rfl ?_
  refine lv_iload hx hb d_Ans_gatherValue_10 (lv_at hl 4 rfl) ?_
  obtain ⟨hi, hw⟩ := hw
  refine w_iald (o := (stC (stC q5002 5) 9)) hx hb hK hW (st_ty hNN (st_ty hNN fq5002.1 fq5002.2 rfl).1 (st_ty hNN fq5002.1 fq5002.2 rfl).2 rfl).1 (st_ty hNN (st_ty hNN fq5002.1 fq5002.2 rfl).1 (st_ty hNN fq5002.1 fq5002.2 rfl).2 rfl).2 hi d_Ans_gatherValue_12 ?_
  refine lv_topi (fun v5003 ev5003 => ?_)
  have hw := hw v5003 ev5003
  refine lv_istore (lv' := [(5, .int v5003), (0, .ref (ad o)), (1, .int l1), (2, .int l2), (3, .int l3), (4, .int l4)]) hx hb d_Ans_gatherValue_13 hl (by decide) rfl (fun ls hl => ?_)
  refine lv_aload_n hx hb d_Ans_gatherValue_15 rfl (lv_at hl 1 rfl) ?_
  obtain ⟨q5004, hq5004, hw⟩ := hw
  refine w_getr (q := q5004) (k := 14) (t := 10) (C := R_Ans) (T := F_Ans) (N := 16) hx hb hT hown hK hW fo.1 fo.2 (by decide) in_Ans rfl rfl (by decide) rfl fr_Ans_14 w_3_176 d_Ans_gatherValue_16 hq5004 (fun aq5004 bq5004 => ?_)
  have fq5004 : q5004 < NN ∧ kcC q5004 = 6 := ⟨aq5004, bq5004⟩
  refine lv_iload_n hx hb d_Ans_gatherValue_19 rfl (lv_at hl 4 rfl) ?_
  refine lv_iload hx hb d_Ans_gatherValue_20 (lv_at hl 0 rfl) ?_
  have hF := hW.free hS hA
  refine va_calli (va_runV (C := R_Vlt) (As := [.int l3, .int v5003]) (rest := []) ⟨hx, hb, hml, hown, hT⟩ (k_Vlt_entryOf l dC dI cI cB cJ cZ ad NN E tM tC kK kV hNN H.size q5004 l3 v5003 x fq5004 hw) ⟨callB_of 2 hT (gw_in w_7_85) rfl rfl rfl (hT _ w_1_9) (hT _ w_8_33) (by decide +kernel) ⟨Nat.le_trans (by decide) hRf, Nat.le_trans (by decide) hRl⟩, hT _ w_7_83, hT _ w_7_84⟩ ⟨PV.blind, va_recv hK hW.1 (ci := 6) (q0 := q5004) rfl (pic_obj fq5004.1 fq5004.2 (by decide)), PV.at _ hW hK hN hE hS hF⟩ rfl rfl hl.1 rfl (lv_room (Nat.le_of_ble_eq_true rfl)) d_Ans_gatherValue_22 ⟨hRc, hRs⟩) hS (fun q _ h => hF q h) hF (fun r5006 x5005 t H locs ht hvm hw hB hz1 hk1 hS => ?_)
  have hW := Wd.back hB ht hF
  clear hB ht hF hz1 hk1 hvm
  refine lv_istore (lv' := [(6, .int r5006), (5, .int v5003), (0, .ref (ad o)), (1, .int l1), (2, .int l2), (3, .int l3), (4, .int l4)]) hx hb d_Ans_gatherValue_25 hl (by decide) rfl (fun ls hl => ?_)
  refine lv_aload_n hx hb d_Ans_gatherValue_27 rfl (lv_at hl 2 rfl) ?_
  obtain ⟨q5007, hq5007, hw⟩ := hw
  refine w_getr (q := q5007) (k := 14) (t := 10) (C := R_Ans) (T := F_Ans) (N := 16) hx hb hT hown hK hW fo.1 fo.2 (by decide) in_Ans rfl rfl (by decide) rfl fr_Ans_14 w_3_176 d_Ans_gatherValue_28 hq5007 (fun aq5007 bq5007 => ?_)
  have fq5007 : q5007 < NN ∧ kcC q5007 = 6 := ⟨aq5007, bq5007⟩
  refine lv_iload hx hb d_Ans_gatherValue_31 (lv_at hl 0 rfl) ?_
  refine lv_iload hx hb d_Ans_gatherValue_33 (lv_at hl 1 rfl) ?_
  have hF := hW.free hS hA
  refine va_calli (va_runV (C := R_Vlt) (As := [.int r5006, .int v5003]) (rest := []) ⟨hx, hb, hml, hown, hT⟩ (k_Vlt_hasValue l dC dI cI cB cJ cZ ad NN E tM tC kK kV hNN H.size q5007 r5006 v5003 x5005 fq5007 hw) ⟨callB_of 2 hT (gw_in w_7_50) rfl rfl rfl (hT _ w_1_9) (hT _ w_8_34) (by decide +kernel) ⟨Nat.le_trans (by decide) hRf, Nat.le_trans (by decide) hRl⟩, hT _ w_7_48, hT _ w_7_49⟩ ⟨PV.blind, va_recv hK hW.1 (ci := 6) (q0 := q5007) rfl (pic_obj fq5007.1 fq5007.2 (by decide)), PV.at _ hW hK hN hE hS hF⟩ rfl rfl hl.1 rfl (lv_room (Nat.le_of_ble_eq_true rfl)) d_Ans_gatherValue_35 ⟨hRc, hRs⟩) hS (fun q _ h => hF q h) hF (fun r5009 x5008 t H locs ht hvm hw hB hz1 hk1 hS => ?_)
  have hW := Wd.back hB ht hF
  clear hB ht hF hz1 hk1 hvm
  refine lv_if_ne (tgt := 42) hx hb d_Ans_gatherValue_38 (by decide) (fun c5010 => ?_) (fun c5010 => ?_)
  · have hw := hw.1 c5010
    refine lv_iload_n hx hb d_Ans_gatherValue_42 rfl (lv_at hl 4 rfl) ?_
    refine lv_iconst (v := 2) hx hb d_Ans_gatherValue_43 (by decide) ?_
    refine lv_icmp_ne (tgt := 60) hx hb d_Ans_gatherValue_44 (by decide) (fun c5011 => ?_) (fun c5011 => ?_)
    · have hw := hw.1 c5011
      refine lv_aload_n hx hb d_Ans_gatherValue_60 rfl (lv_at hl 2 rfl) ?_
      refine w_getf (q := (stC o 8)) (k := 8) (t := 10) (C := R_Ans) (T := F_Ans) (N := 16) hx hb hT hown hK hW fo.1 fo.2 (by decide) in_Ans rfl rfl (by decide) rfl fr_Ans_8 w_3_168 d_Ans_gatherValue_61 rfl ?_
      refine lv_iload_n hx hb d_Ans_gatherValue_64 rfl (lv_at hl 3 rfl) ?_
      obtain ⟨hi, hw⟩ := hw
      refine w_bald (o := (stC o 8)) hx hb hK hW (st_ty hNN fo.1 fo.2 rfl).1 (st_ty hNN fo.1 fo.2 rfl).2 hi d_Ans_gatherValue_65 ?_
      refine lv_if_ne (tgt := 80) hx hb d_Ans_gatherValue_66 (by decide) (fun c5012 => ?_) (fun c5012 => ?_)
      · have hw := hw.1 c5012
        refine lv_iload_n hx hb d_Ans_gatherValue_80 rfl (lv_at hl 4 rfl) ?_
        refine lv_iconst (v := 3) hx hb d_Ans_gatherValue_81 (by decide) ?_
        refine lv_icmp_ne (tgt := 107) hx hb d_Ans_gatherValue_82 (by decide) (fun c5013 => ?_) (fun c5013 => ?_)
        · have hw := hw.1 c5013
          refine lv_aload_n hx hb d_Ans_gatherValue_107 rfl (lv_at hl 2 rfl) ?_
          obtain ⟨q5014, hq5014, hw⟩ := hw
          refine w_getr (q := q5014) (k := 14) (t := 10) (C := R_Ans) (T := F_Ans) (N := 16) hx hb hT hown hK hW fo.1 fo.2 (by decide) in_Ans rfl rfl (by decide) rfl fr_Ans_14 w_3_176 d_Ans_gatherValue_108 hq5014 (fun aq5014 bq5014 => ?_)
          have fq5014 : q5014 < NN ∧ kcC q5014 = 6 := ⟨aq5014, bq5014⟩
          refine lv_aload_n hx hb d_Ans_gatherValue_111 rfl (lv_at hl 2 rfl) ?_
          obtain ⟨q5015, hq5015, hw⟩ := hw
          refine w_getr (q := q5015) (k := 14) (t := 10) (C := R_Ans) (T := F_Ans) (N := 16) hx hb hT hown hK hW fo.1 fo.2 (by decide) in_Ans rfl rfl (by decide) rfl fr_Ans_14 w_3_176 d_Ans_gatherValue_112 hq5015 (fun aq5015 bq5015 => ?_)
          have fq5015 : q5015 < NN ∧ kcC q5015 = 6 := ⟨aq5015, bq5015⟩
          refine w_getf (q := (stC q5015 5)) (k := 5) (t := 6) (C := R_Vlt) (T := F_Vlt) (N := 20) hx hb hT hown hK hW fq5015.1 fq5015.2 (by decide) in_Vlt rfl rfl (by decide) rfl fr_Vlt_5 w_2_137 d_Ans_gatherValue_115 rfl ?_
          refine w_getf (q := (stC (stC q5015 5) 3)) (k := 3) (t := 3) (C := R_Sch) (T := F_Sch) (N := 13) hx hb hT hown hK hW (st_ty hNN fq5015.1 fq5015.2 rfl).1 (st_ty hNN fq5015.1 fq5015.2 rfl).2 (by decide) in_Sch rfl rfl (by decide) rfl fr_Sch_3 w_1_150 d_Ans_gatherValue_118 rfl ?_
          refine lv_iload hx hb d_Ans_gatherValue_121 (lv_at hl 6 rfl) ?_
          obtain ⟨hi, hw⟩ := hw
          refine w_iald (o := (stC (stC q5015 5) 3)) hx hb hK hW (st_ty hNN (st_ty hNN fq5015.1 fq5015.2 rfl).1 (st_ty hNN fq5015.1 fq5015.2 rfl).2 rfl).1 (st_ty hNN (st_ty hNN fq5015.1 fq5015.2 rfl).1 (st_ty hNN fq5015.1 fq5015.2 rfl).2 rfl).2 hi d_Ans_gatherValue_123 ?_
          refine lv_aload_n hx hb d_Ans_gatherValue_124 rfl (lv_at hl 2 rfl) ?_
          obtain ⟨q5016, hq5016, hw⟩ := hw
          refine w_getr (q := q5016) (k := 14) (t := 10) (C := R_Ans) (T := F_Ans) (N := 16) hx hb hT hown hK hW fo.1 fo.2 (by decide) in_Ans rfl rfl (by decide) rfl fr_Ans_14 w_3_176 d_Ans_gatherValue_125 hq5016 (fun aq5016 bq5016 => ?_)
          have fq5016 : q5016 < NN ∧ kcC q5016 = 6 := ⟨aq5016, bq5016⟩
          refine w_getf (q := (stC q5016 9)) (k := 9) (t := 6) (C := R_Vlt) (T := F_Vlt) (N := 20) hx hb hT hown hK hW fq5016.1 fq5016.2 (by decide) in_Vlt rfl rfl (by decide) rfl fr_Vlt_9 w_2_152 d_Ans_gatherValue_128 rfl ?_
          refine lv_iload hx hb d_Ans_gatherValue_131 (lv_at hl 0 rfl) ?_
          obtain ⟨hi, hw⟩ := hw
          refine w_lald (o := (stC q5016 9)) hx hb hK hW (st_ty hNN fq5016.1 fq5016.2 rfl).1 (st_ty hNN fq5016.1 fq5016.2 rfl).2 hi d_Ans_gatherValue_133 ?_
          refine lv_aload_n hx hb d_Ans_gatherValue_134 rfl (lv_at hl 2 rfl) ?_
          refine w_getf (q := (stC o 9)) (k := 9) (t := 10) (C := R_Ans) (T := F_Ans) (N := 16) hx hb hT hown hK hW fo.1 fo.2 (by decide) in_Ans rfl rfl (by decide) rfl fr_Ans_9 w_3_170 d_Ans_gatherValue_135 rfl ?_
          refine lv_iload_n hx hb d_Ans_gatherValue_138 rfl (lv_at hl 3 rfl) ?_
          obtain ⟨hi, hw⟩ := hw
          refine w_lald (o := (stC o 9)) hx hb hK hW (st_ty hNN fo.1 fo.2 rfl).1 (st_ty hNN fo.1 fo.2 rfl).2 hi d_Ans_gatherValue_139 ?_
          have hF := hW.free hS hA
          refine va_calli (va_runV (C := R_Vlt) (As := [.int (rA x5008 (stC (stC q5015 5) 3) l4), .long (rL x5008 (stC q5016 9) r5006), .long (rL x5008 (stC o 9) l1)]) (rest := []) ⟨hx, hb, hml, hown, hT⟩ (k_Vlt_compare l dC dI cI cB cJ cZ ad NN E tM tC kK kV hNN H.size q5014 (rA x5008 (stC (stC q5015 5) 3) l4) (rL x5008 (stC q5016 9) r5006) (rL x5008 (stC o 9) l1) x5008 fq5014 hw) ⟨callB_of 3 hT (gw_in w_7_32) rfl rfl rfl (hT _ w_1_9) (hT _ w_8_70) (by decide +kernel) ⟨Nat.le_trans (by decide) hRf, Nat.le_trans (by decide) hRl⟩, hT _ w_7_30, hT _ w_7_31⟩ ⟨PV.blind, va_recv hK hW.1 (ci := 6) (q0 := q5014) rfl (pic_obj fq5014.1 fq5014.2 (by decide)), PV.at _ hW hK hN hE hS hF⟩ rfl rfl hl.1 rfl (lv_room (Nat.le_of_ble_eq_true rfl)) d_Ans_gatherValue_140 ⟨hRc, hRs⟩) hS (fun q _ h => hF q h) hF (fun r5018 x5017 t H locs ht hvm hw hB hz1 hk1 hS => ?_)
          have hW := Wd.back hB ht hF
          clear hB ht hF hz1 hk1 hvm
          refine lv_istore (lv' := [(7, .int r5018), (6, .int r5006), (5, .int v5003), (0, .ref (ad o)), (1, .int l1), (2, .int l2), (3, .int l3), (4, .int l4)]) hx hb d_Ans_gatherValue_143 hl (by decide) rfl (fun ls hl => ?_)
          refine lv_iload_n hx hb d_Ans_gatherValue_145 rfl (lv_at hl 5 rfl) ?_
          refine lv_iconst (v := 4) hx hb d_Ans_gatherValue_146 (by decide) ?_
          refine lv_icmp_ne (tgt := 158) hx hb d_Ans_gatherValue_147 (by decide) (fun c5019 => ?_) (fun c5019 => ?_)
          · have hw := hw.1 c5019
            refine lv_iload hx hb d_Ans_gatherValue_158 (lv_at hl 0 rfl) ?_
            refine lv_if_le (tgt := 179) hx hb d_Ans_gatherValue_160 (by decide) (fun c5020 => ?_) (fun c5020 => ?_)
            · have hw := hw.1 c5020
              exact hret x5017 H locs 179 ls d_Ans_gatherValue_179 hw hW hS
            · have hw := hw.2 c5020
              exact t_Ans_gatherValue_163 hx hb hml hown hT hK hN hA hRc hRs hRf hRl hNN hE hret  o l1 l2 l3 l4 v5003 r5006 r5018 x5017 H locs ls fo hw hW hS (lv_sub hl [3, 4, 5, 6, 7, 2, 1, 0] rfl)
          · have hw := hw.2 c5019
            refine lv_iload hx hb d_Ans_gatherValue_150 (lv_at hl 0 rfl) ?_
            refine lv_if_ge (tgt := 179) hx hb d_Ans_gatherValue_152 (by decide) (fun c5021 => ?_) (fun c5021 => ?_)
            · have hw := hw.1 c5021
              exact hret x5017 H locs 179 ls d_Ans_gatherValue_179 hw hW hS
            · have hw := hw.2 c5021
              refine lv_goto (tgt := 163) hx hb d_Ans_gatherValue_155 (by decide) ?_
              exact t_Ans_gatherValue_163 hx hb hml hown hT hK hN hA hRc hRs hRf hRl hNN hE hret  o l1 l2 l3 l4 v5003 r5006 r5018 x5017 H locs ls fo hw hW hS (lv_sub hl [3, 4, 5, 6, 7, 2, 1, 0] rfl)
        · have hw := hw.2 c5013
          refine lv_aload_n hx hb d_Ans_gatherValue_85 rfl (lv_at hl 2 rfl) ?_
          refine w_getf (q := (stC o 9)) (k := 9) (t := 10) (C := R_Ans) (T := F_Ans) (N := 16) hx hb hT hown hK hW fo.1 fo.2 (by decide) in_Ans rfl rfl (by decide) rfl fr_Ans_9 w_3_170 d_Ans_gatherValue_86 rfl ?_
          refine lv_iload_n hx hb d_Ans_gatherValue_89 rfl (lv_at hl 3 rfl) ?_
          refine lv_dup2_11 hx hb d_Ans_gatherValue_90 rfl rfl ?_
          obtain ⟨hi, hw⟩ := hw
          refine w_lald (o := (stC o 9)) hx hb hK hW (st_ty hNN fo.1 fo.2 rfl).1 (st_ty hNN fo.1 fo.2 rfl).2 hi d_Ans_gatherValue_91 ?_
          refine lv_aload_n hx hb d_Ans_gatherValue_92 rfl (lv_at hl 2 rfl) ?_
          obtain ⟨q5022, hq5022, hw⟩ := hw
          refine w_getr (q := q5022) (k := 14) (t := 10) (C := R_Ans) (T := F_Ans) (N := 16) hx hb hT hown hK hW fo.1 fo.2 (by decide) in_Ans rfl rfl (by decide) rfl fr_Ans_14 w_3_176 d_Ans_gatherValue_93 hq5022 (fun aq5022 bq5022 => ?_)
          have fq5022 : q5022 < NN ∧ kcC q5022 = 6 := ⟨aq5022, bq5022⟩
          refine w_getf (q := (stC q5022 9)) (k := 9) (t := 6) (C := R_Vlt) (T := F_Vlt) (N := 20) hx hb hT hown hK hW fq5022.1 fq5022.2 (by decide) in_Vlt rfl rfl (by decide) rfl fr_Vlt_9 w_2_152 d_Ans_gatherValue_96 rfl ?_
          refine lv_iload hx hb d_Ans_gatherValue_99 (lv_at hl 0 rfl) ?_
          obtain ⟨hi, hw⟩ := hw
          refine w_lald (o := (stC q5022 9)) hx hb hK hW (st_ty hNN fq5022.1 fq5022.2 rfl).1 (st_ty hNN fq5022.1 fq5022.2 rfl).2 hi d_Ans_gatherValue_101 ?_
          refine lv_ladd hx hb d_Ans_gatherValue_102 ?_
          obtain ⟨hi, hw⟩ := hw
          refine w_last (o := (stC o 9)) hx hb hK hW hS (st_ty hNN fo.1 fo.2 rfl).1 (st_ty hNN fo.1 fo.2 rfl).2 hi d_Ans_gatherValue_103 (fun H locs hW hS => ?_)
          obtain ⟨x5023, ex5023⟩ : ∃ y : St, y = setL x5008 (stC o 9) l1 ((rL x5008 (stC o 9) l1) + (rL x5008 (stC q5022 9) r5006)) := ⟨_, rfl⟩
          rw [← ex5023] at hW
          have hw := hw x5023 ex5023
          refine lv_goto (tgt := 179) hx hb d_Ans_gatherValue_104 (by decide) ?_
          exact hret x5023 H locs 179 ls d_Ans_gatherValue_179 hw hW hS
      · have hw := hw.2 c5012
        refine lv_aload_n hx hb d_Ans_gatherValue_69 rfl (lv_at hl 2 rfl) ?_
        refine lv_iload_n hx hb d_Ans_gatherValue_70 rfl (lv_at hl 3 rfl) ?_
        refine lv_iload_n hx hb d_Ans_gatherValue_71 rfl (lv_at hl 5 rfl) ?_
        refine lv_iload hx hb d_Ans_gatherValue_72 (lv_at hl 6 rfl) ?_
        have hF := hW.free hS hA
        refine va_callv (va_runV (C := R_Ans) (As := [.int l1, .int l3, .int l4]) (rest := []) ⟨hx, hb, hml, hown, hT⟩ (k_Ans_keepValue l dC dI cI cB cJ cZ ad NN E tM tC kK kV hNN H.size o l1 l3 l4 x5008 fo hw) ⟨callB_of 3 hT (gw_in w_8_32) rfl rfl rfl (hT _ w_1_13) (hT _ w_8_29) (by decide +kernel) ⟨Nat.le_trans (by decide) hRf, Nat.le_trans (by decide) hRl⟩, hT _ w_8_31, hT _ ws_88⟩ ⟨PV.blind, va_recv hK hW.1 (ci := 10) (q0 := o) rfl (pic_obj fo.1 fo.2 (by decide)), PV.at _ hW hK hN hE hS hF⟩ rfl rfl hl.1 rfl (lv_room (Nat.le_of_ble_eq_true rfl)) d_Ans_gatherValue_74 ⟨hRc, hRs⟩) hS (fun q _ h => hF q h) hF (fun  x5024 t H locs ht hvm hw hB hz1 hk1 hS => ?_)
        have hW := Wd.back hB ht hF
        clear hB ht hF hz1 hk1 hvm
        refine lv_goto (tgt := 179) hx hb d_Ans_gatherValue_77 (by decide) ?_
        exact hret x5024 H locs 179 ls d_Ans_gatherValue_179 hw hW hS
    · have hw := hw.2 c5011
      refine lv_aload_n hx hb d_Ans_gatherValue_47 rfl (lv_at hl 2 rfl) ?_
      refine w_getf (q := (stC o 9)) (k := 9) (t := 10) (C := R_Ans) (T := F_Ans) (N := 16) hx hb hT hown hK hW fo.1 fo.2 (by decide) in_Ans rfl rfl (by decide) rfl fr_Ans_9 w_3_170 d_Ans_gatherValue_48 rfl ?_
      refine lv_iload_n hx hb d_Ans_gatherValue_51 rfl (lv_at hl 3 rfl) ?_
      refine lv_dup2_11 hx hb d_Ans_gatherValue_52 rfl rfl ?_
      obtain ⟨hi, hw⟩ := hw
      refine w_lald (o := (stC o 9)) hx hb hK hW (st_ty hNN fo.1 fo.2 rfl).1 (st_ty hNN fo.1 fo.2 rfl).2 hi d_Ans_gatherValue_53 ?_
      refine lv_lconst (v := 1) hx hb d_Ans_gatherValue_54 (by decide) ?_
      refine lv_ladd hx hb d_Ans_gatherValue_55 ?_
      obtain ⟨hi, hw⟩ := hw
      refine w_last (o := (stC o 9)) hx hb hK hW hS (st_ty hNN fo.1 fo.2 rfl).1 (st_ty hNN fo.1 fo.2 rfl).2 hi d_Ans_gatherValue_56 (fun H locs hW hS => ?_)
      obtain ⟨x5025, ex5025⟩ : ∃ y : St, y = setL x5008 (stC o 9) l1 ((rL x5008 (stC o 9) l1) + 1) := ⟨_, rfl⟩
      rw [← ex5025] at hW
      have hw := hw x5025 ex5025
      refine lv_goto (tgt := 179) hx hb d_Ans_gatherValue_57 (by decide) ?_
      exact hret x5025 H locs 179 ls d_Ans_gatherValue_179 hw hW hS
  · have hw := hw.2 c5010
    exact hret x5008 H locs 41 ls d_Ans_gatherValue_41 hw hW hS
set_option maxHeartbeats 4000000 in
set_option maxRecDepth 100000 in
theorem k_Ans_gatherValue (l : Launch) (dC : Nat → ClassId) (dI : Nat → Nat → Nat) (cI cB cJ cZ : ClassId) (ad : Nat → Nat) (NN : Nat) (E : Heap) (tM tC : Nat) (kK kV : Nat → Nat) (hNN : 152 ≤ NN) (sz : Nat) (o : Nat) (l1 : Int32) (l2 : Int32) (l3 : Int32) (l4 : Int32) (x : St) (fo : o < NN ∧ kcC o = 10) {post : St → Prop} (hw : wp_Ans_gatherValue post o l1 l2 l3 l4 x) : Met l y_Ans_gatherValue (wsOf y_Ans_gatherValue b_Ans_gatherValue 8 (none)) ({ frames := 3, cells := 0, slots := 0, locals := 137 }) (va_Pc [.ref (ad o), .int l1, .int l2, .int l3, .int l4] (PV dC dI cI cB cJ cZ ad stC kcC NN E tM tC kK kV sz x)) (va_Qv (fun (y : St) => post y) (fun y t => Wd dC dI cI cB cJ cZ ad stC kcC NN (va_A (pic ad stC kcC NN cI cB cJ cZ x) sz) y t.heap) (va_A (pic ad stC kcC NN cI cB cJ cZ x) sz)) 0 0 (va_A (pic ad stC kcC NN cI cB cJ cZ x) sz) := by
  refine Met.ofW (cc := b_Ans_gatherValue) (maxL := 8) (ret := none) (by decide) rfl ?_
  intro p e s m args below meth c s₁ B hml hv
  obtain ⟨rfl, ⟨hsz, hW0, hK, hN⟩, hE⟩ := hv
  have hx := B.exec
  have hb := B.bytes
  have hr := B.returns
  have hts := atoms_spec B.pre
  have hT : ∀ w ∈ TG, w.before _ s = true := fun w h => hts w (List.mem_cons_of_mem _ h)
  have hown : s.vm.findClass R_Ans = some m.cls := findClass_of_methodNamed B.named
  have hlocks := B.notSynchronized
  subst hsz
  have hW : Wd dC dI cI cB cJ cZ ad stC kcC NN (va_A (pic ad stC kcC NN cI cB cJ cZ x) s.heap.size) x s.heap := ⟨hW0.1, hW0.2.1.self (sz := s.heap.size), hW0.2.2⟩
  generalize hAe : va_A (pic ad stC kcC NN cI cB cJ cZ x) s.heap.size = A at hW hE ⊢
  have hA : ∀ q : Nat, s.heap.size ≤ q → A q := fun q h => by rw [← hAe]; exact Or.inr h
  have hS : va_S A s.heap s.heap [] := va_S.rf
  have hl := lv_entry ([.ref (ad o), .int l1, .int l2, .int l3, .int l4]) (n := 8) (Nat.le_of_ble_eq_true rfl)
  rw [lg_entry_eq]
  generalize (lg_sl ([.ref (ad o), .int l1, .int l2, .int l3, .int l4]) ++ List.replicate (8 - (lg_sl ([.ref (ad o), .int l1, .int l2, .int l3, .int l4])).length) Slot.unset).toArray = ls at hl ⊢
  have hl : lv_has ls 8 [(0, .ref (ad o)), (1, .int l1), (2, .int l2), (3, .int l3), (4, .int l4)] := hl
  exact t_Ans_gatherValue_e hx hb hml hown hT hK hN hA (Nat.le_refl 0) (Nat.le_refl 0) (Nat.le_refl 3) (Nat.le_refl 137) hNN hE (fun x H locs pc ls hd hp hW hS => W.vret hx hb hr (fun t ht hM => ⟨⟨x, rfl, hp, Wd.back hW ht.symm (fun _ z => z)⟩, hS.F ht⟩) hS.2.2 hd hlocks)  o l1 l2 l3 l4 x _ _ ls fo hw hW hS hl
end
