theorem w_3_84 : (Jvm.Cond.fieldLink "StripedVault$Answer" (71 : Nat) "StripedVault$Query" "bys" "I") ∈ TG := tw_3 84 (by decide +kernel) (by decide +kernel)
theorem w_3_86 : (Jvm.Cond.fieldLink "StripedVault$Answer" (141 : Nat) "StripedVault$Query" "by" "[I") ∈ TG := tw_3 86 (by decide +kernel) (by decide +kernel)
theorem w_8_21 : (Jvm.Cond.methodLink "StripedVault$Answer" (74 : Nat) ({ cls := "StripedVault$Answer", name := "addGroup", desc := "(I)V" } : Jvm.MethodName)) ∈ TG := tw_8 21 (by decide +kernel) (by decide +kernel)
theorem w_8_23 : (Jvm.Cond.instanceMethod ({ cls := "StripedVault$Answer", name := "addGroup", desc := "(I)V" } : Jvm.MethodName)) ∈ TG := tw_8 23 (by decide +kernel) (by decide +kernel)
theorem w_8_24 : (Jvm.Cond.code ({ cls := "StripedVault$Answer", name := "addGroup", desc := "(I)V" } : Jvm.MethodName) prog_2_method_6_code (6 : Nat) (Option.none : Option Jvm.ClassFile.FieldType)) ∈ TG := tw_8 24 (by decide +kernel) (by decide +kernel)
theorem w_8_89 : (Jvm.Cond.methodLink "StripedVault$Answer" (135 : Nat) ({ cls := "StripedVault$Answer", name := "hashOfRow", desc := "(I)I" } : Jvm.MethodName)) ∈ TG := tw_8 89 (by decide +kernel) (by decide +kernel)
theorem w_8_91 : (Jvm.Cond.instanceMethod ({ cls := "StripedVault$Answer", name := "hashOfRow", desc := "(I)I" } : Jvm.MethodName)) ∈ TG := tw_8 91 (by decide +kernel) (by decide +kernel)
theorem w_8_92 : (Jvm.Cond.code ({ cls := "StripedVault$Answer", name := "hashOfRow", desc := "(I)I" } : Jvm.MethodName) prog_2_method_9_code (6 : Nat) (Option.some Jvm.ClassFile.FieldType.int)) ∈ TG := tw_8 92 (by decide +kernel) (by decide +kernel)
theorem w_8_94 : (Jvm.Cond.methodLink "StripedVault$Answer" (138 : Nat) ({ cls := "StripedVault$Answer", name := "sameGroup", desc := "(II)Z" } : Jvm.MethodName)) ∈ TG := tw_8 94 (by decide +kernel) (by decide +kernel)
theorem w_8_96 : (Jvm.Cond.instanceMethod ({ cls := "StripedVault$Answer", name := "sameGroup", desc := "(II)Z" } : Jvm.MethodName)) ∈ TG := tw_8 96 (by decide +kernel) (by decide +kernel)
theorem w_8_97 : (Jvm.Cond.code ({ cls := "StripedVault$Answer", name := "sameGroup", desc := "(II)Z" } : Jvm.MethodName) prog_2_method_10_code (9 : Nat) (Option.some Jvm.ClassFile.FieldType.boolean)) ∈ TG := tw_8 97 (by decide +kernel) (by decide +kernel)
theorem wn_8_93 : (Jvm.Cond.methodLinkNest "StripedVault$Answer" (147 : Nat) ({ cls := "StripedVault", name := "hashOf", desc := "(I[BJ)I" } : Jvm.MethodName) "StripedVault") ∈ lw_tbl := tb_8 _ (List.mem_of_getElem? (i := 93) (by decide +kernel))
theorem ws_100 : Cond.selects R_Ans y_Ans_sameGroup y_Ans_sameGroup ∈ TG := tw_s 100 (by decide +kernel) (by decide +kernel)
theorem ws_86 : Cond.selects R_Ans y_Ans_addGroup y_Ans_addGroup ∈ TG := tw_s 86 (by decide +kernel) (by decide +kernel)
theorem ws_99 : Cond.selects R_Ans y_Ans_hashOfRow y_Ans_hashOfRow ∈ TG := tw_s 99 (by decide +kernel) (by decide +kernel)
theorem d_Ans_hashOfRow_113 : decode b_Ans_hashOfRow 113 = .ok (.iinc 3 1, 3) := by decide +kernel
theorem d_Ans_hashOfRow_116 : decode b_Ans_hashOfRow 116 = .ok (.goto (-112), 3) := by decide +kernel
theorem d_Ans_hashOfRow_4 : decode b_Ans_hashOfRow 4 = .ok (.iload_n 3, 1) := by decide +kernel
theorem d_Ans_hashOfRow_5 : decode b_Ans_hashOfRow 5 = .ok (.aload_n 0, 1) := by decide +kernel
theorem d_Ans_hashOfRow_6 : decode b_Ans_hashOfRow 6 = .ok (.getfield 57, 3) := by decide +kernel
theorem d_Ans_hashOfRow_9 : decode b_Ans_hashOfRow 9 = .ok (.getfield 71, 3) := by decide +kernel
theorem d_Ans_hashOfRow_12 : decode b_Ans_hashOfRow 12 = .ok (.if_icmp .ge 107, 3) := by decide +kernel
theorem d_Ans_hashOfRow_119 : decode b_Ans_hashOfRow 119 = .ok (.iload_n 2, 1) := by decide +kernel
theorem d_Ans_hashOfRow_120 : decode b_Ans_hashOfRow 120 = .ok (.iload_n 2, 1) := by decide +kernel
theorem d_Ans_hashOfRow_121 : decode b_Ans_hashOfRow 121 = .ok (.bipush 10, 2) := by decide +kernel
theorem d_Ans_hashOfRow_123 : decode b_Ans_hashOfRow 123 = .ok (.iushr, 1) := by decide +kernel
theorem d_Ans_hashOfRow_124 : decode b_Ans_hashOfRow 124 = .ok (.ixor, 1) := by decide +kernel
theorem d_Ans_hashOfRow_125 : decode b_Ans_hashOfRow 125 = .ok (.ireturn, 1) := by decide +kernel
theorem d_Ans_hashOfRow_15 : decode b_Ans_hashOfRow 15 = .ok (.aload_n 0, 1) := by decide +kernel
theorem d_Ans_hashOfRow_16 : decode b_Ans_hashOfRow 16 = .ok (.getfield 53, 3) := by decide +kernel
theorem d_Ans_hashOfRow_19 : decode b_Ans_hashOfRow 19 = .ok (.getfield 99, 3) := by decide +kernel
theorem d_Ans_hashOfRow_22 : decode b_Ans_hashOfRow 22 = .ok (.getfield 118, 3) := by decide +kernel
theorem d_Ans_hashOfRow_25 : decode b_Ans_hashOfRow 25 = .ok (.aload_n 0, 1) := by decide +kernel
theorem d_Ans_hashOfRow_26 : decode b_Ans_hashOfRow 26 = .ok (.getfield 57, 3) := by decide +kernel
theorem d_Ans_hashOfRow_29 : decode b_Ans_hashOfRow 29 = .ok (.getfield 141, 3) := by decide +kernel
theorem d_Ans_hashOfRow_32 : decode b_Ans_hashOfRow 32 = .ok (.iload_n 3, 1) := by decide +kernel
theorem d_Ans_hashOfRow_33 : decode b_Ans_hashOfRow 33 = .ok (.iaload, 1) := by decide +kernel
theorem d_Ans_hashOfRow_34 : decode b_Ans_hashOfRow 34 = .ok (.iaload, 1) := by decide +kernel
theorem d_Ans_hashOfRow_35 : decode b_Ans_hashOfRow 35 = .ok (.istore 4, 2) := by decide +kernel
theorem d_Ans_hashOfRow_37 : decode b_Ans_hashOfRow 37 = .ok (.aload_n 0, 1) := by decide +kernel
theorem d_Ans_hashOfRow_38 : decode b_Ans_hashOfRow 38 = .ok (.getfield 53, 3) := by decide +kernel
theorem d_Ans_hashOfRow_41 : decode b_Ans_hashOfRow 41 = .ok (.iload_n 1, 1) := by decide +kernel
theorem d_Ans_hashOfRow_42 : decode b_Ans_hashOfRow 42 = .ok (.iload 4, 2) := by decide +kernel
theorem d_Ans_hashOfRow_44 : decode b_Ans_hashOfRow 44 = .ok (.invokevirtual 121, 3) := by decide +kernel
theorem d_Ans_hashOfRow_47 : decode b_Ans_hashOfRow 47 = .ok (.istore 5, 2) := by decide +kernel
theorem d_Ans_hashOfRow_49 : decode b_Ans_hashOfRow 49 = .ok (.iload_n 2, 1) := by decide +kernel
theorem d_Ans_hashOfRow_50 : decode b_Ans_hashOfRow 50 = .ok (.bipush 31, 2) := by decide +kernel
theorem d_Ans_hashOfRow_52 : decode b_Ans_hashOfRow 52 = .ok (.imul, 1) := by decide +kernel
theorem d_Ans_hashOfRow_53 : decode b_Ans_hashOfRow 53 = .ok (.istore_n 2, 1) := by decide +kernel
theorem d_Ans_hashOfRow_54 : decode b_Ans_hashOfRow 54 = .ok (.aload_n 0, 1) := by decide +kernel
theorem d_Ans_hashOfRow_55 : decode b_Ans_hashOfRow 55 = .ok (.getfield 53, 3) := by decide +kernel
theorem d_Ans_hashOfRow_58 : decode b_Ans_hashOfRow 58 = .ok (.iload 5, 2) := by decide +kernel
theorem d_Ans_hashOfRow_60 : decode b_Ans_hashOfRow 60 = .ok (.iload 4, 2) := by decide +kernel
theorem d_Ans_hashOfRow_62 : decode b_Ans_hashOfRow 62 = .ok (.invokevirtual 125, 3) := by decide +kernel
theorem d_Ans_hashOfRow_65 : decode b_Ans_hashOfRow 65 = .ok (.ifCond .eq 48, 3) := by decide +kernel
theorem d_Ans_hashOfRow_68 : decode b_Ans_hashOfRow 68 = .ok (.iload_n 2, 1) := by decide +kernel
theorem d_Ans_hashOfRow_69 : decode b_Ans_hashOfRow 69 = .ok (.iconst 1, 1) := by decide +kernel
theorem d_Ans_hashOfRow_70 : decode b_Ans_hashOfRow 70 = .ok (.aload_n 0, 1) := by decide +kernel
theorem d_Ans_hashOfRow_71 : decode b_Ans_hashOfRow 71 = .ok (.getfield 53, 3) := by decide +kernel
theorem d_Ans_hashOfRow_74 : decode b_Ans_hashOfRow 74 = .ok (.getfield 99, 3) := by decide +kernel
theorem d_Ans_hashOfRow_77 : decode b_Ans_hashOfRow 77 = .ok (.getfield 129, 3) := by decide +kernel
theorem d_Ans_hashOfRow_80 : decode b_Ans_hashOfRow 80 = .ok (.aload_n 0, 1) := by decide +kernel
theorem d_Ans_hashOfRow_81 : decode b_Ans_hashOfRow 81 = .ok (.getfield 57, 3) := by decide +kernel
theorem d_Ans_hashOfRow_84 : decode b_Ans_hashOfRow 84 = .ok (.getfield 141, 3) := by decide +kernel
theorem d_Ans_hashOfRow_87 : decode b_Ans_hashOfRow 87 = .ok (.iload_n 3, 1) := by decide +kernel
theorem d_Ans_hashOfRow_88 : decode b_Ans_hashOfRow 88 = .ok (.iaload, 1) := by decide +kernel
theorem d_Ans_hashOfRow_89 : decode b_Ans_hashOfRow 89 = .ok (.iaload, 1) := by decide +kernel
theorem d_Ans_hashOfRow_90 : decode b_Ans_hashOfRow 90 = .ok (.aload_n 0, 1) := by decide +kernel
theorem d_Ans_hashOfRow_91 : decode b_Ans_hashOfRow 91 = .ok (.getfield 53, 3) := by decide +kernel
theorem d_Ans_hashOfRow_94 : decode b_Ans_hashOfRow 94 = .ok (.getfield 144, 3) := by decide +kernel
theorem d_Ans_hashOfRow_97 : decode b_Ans_hashOfRow 97 = .ok (.aload_n 0, 1) := by decide +kernel
theorem d_Ans_hashOfRow_98 : decode b_Ans_hashOfRow 98 = .ok (.getfield 53, 3) := by decide +kernel
theorem d_Ans_hashOfRow_101 : decode b_Ans_hashOfRow 101 = .ok (.getfield 132, 3) := by decide +kernel
theorem d_Ans_hashOfRow_104 : decode b_Ans_hashOfRow 104 = .ok (.iload 5, 2) := by decide +kernel
theorem d_Ans_hashOfRow_106 : decode b_Ans_hashOfRow 106 = .ok (.laload, 1) := by decide +kernel
theorem d_Ans_hashOfRow_107 : decode b_Ans_hashOfRow 107 = .ok (.invokestatic 147, 3) := by decide +kernel
theorem d_Ans_hashOfRow_110 : decode b_Ans_hashOfRow 110 = .ok (.iadd, 1) := by decide +kernel
theorem d_Ans_hashOfRow_111 : decode b_Ans_hashOfRow 111 = .ok (.iadd, 1) := by decide +kernel
theorem d_Ans_hashOfRow_112 : decode b_Ans_hashOfRow 112 = .ok (.istore_n 2, 1) := by decide +kernel
theorem d_Ans_hashOfRow_0 : decode b_Ans_hashOfRow 0 = .ok (.iconst 0, 1) := by decide +kernel
theorem d_Ans_hashOfRow_1 : decode b_Ans_hashOfRow 1 = .ok (.istore_n 2, 1) := by decide +kernel
theorem d_Ans_hashOfRow_2 : decode b_Ans_hashOfRow 2 = .ok (.iconst 0, 1) := by decide +kernel
theorem d_Ans_hashOfRow_3 : decode b_Ans_hashOfRow 3 = .ok (.istore_n 3, 1) := by decide +kernel
theorem d_Ans_sameGroup_149 : decode b_Ans_sameGroup 149 = .ok (.iinc 3 1, 3) := by decide +kernel
theorem d_Ans_sameGroup_152 : decode b_Ans_sameGroup 152 = .ok (.goto (-150), 3) := by decide +kernel
theorem d_Ans_sameGroup_147 : decode b_Ans_sameGroup 147 = .ok (.iconst 0, 1) := by decide +kernel
theorem d_Ans_sameGroup_148 : decode b_Ans_sameGroup 148 = .ok (.ireturn, 1) := by decide +kernel
theorem d_Ans_sameGroup_2 : decode b_Ans_sameGroup 2 = .ok (.iload_n 3, 1) := by decide +kernel
theorem d_Ans_sameGroup_3 : decode b_Ans_sameGroup 3 = .ok (.aload_n 0, 1) := by decide +kernel
theorem d_Ans_sameGroup_4 : decode b_Ans_sameGroup 4 = .ok (.getfield 57, 3) := by decide +kernel
theorem d_Ans_sameGroup_7 : decode b_Ans_sameGroup 7 = .ok (.getfield 71, 3) := by decide +kernel
theorem d_Ans_sameGroup_10 : decode b_Ans_sameGroup 10 = .ok (.if_icmp .ge 145, 3) := by decide +kernel
theorem d_Ans_sameGroup_155 : decode b_Ans_sameGroup 155 = .ok (.iconst 1, 1) := by decide +kernel
theorem d_Ans_sameGroup_156 : decode b_Ans_sameGroup 156 = .ok (.ireturn, 1) := by decide +kernel
theorem d_Ans_sameGroup_13 : decode b_Ans_sameGroup 13 = .ok (.aload_n 0, 1) := by decide +kernel
theorem d_Ans_sameGroup_14 : decode b_Ans_sameGroup 14 = .ok (.getfield 53, 3) := by decide +kernel
theorem d_Ans_sameGroup_17 : decode b_Ans_sameGroup 17 = .ok (.getfield 99, 3) := by decide +kernel
theorem d_Ans_sameGroup_20 : decode b_Ans_sameGroup 20 = .ok (.getfield 118, 3) := by decide +kernel
theorem d_Ans_sameGroup_23 : decode b_Ans_sameGroup 23 = .ok (.aload_n 0, 1) := by decide +kernel
theorem d_Ans_sameGroup_24 : decode b_Ans_sameGroup 24 = .ok (.getfield 57, 3) := by decide +kernel
theorem d_Ans_sameGroup_27 : decode b_Ans_sameGroup 27 = .ok (.getfield 141, 3) := by decide +kernel
theorem d_Ans_sameGroup_30 : decode b_Ans_sameGroup 30 = .ok (.iload_n 3, 1) := by decide +kernel
theorem d_Ans_sameGroup_31 : decode b_Ans_sameGroup 31 = .ok (.iaload, 1) := by decide +kernel
theorem d_Ans_sameGroup_32 : decode b_Ans_sameGroup 32 = .ok (.iaload, 1) := by decide +kernel
theorem d_Ans_sameGroup_33 : decode b_Ans_sameGroup 33 = .ok (.istore 4, 2) := by decide +kernel
theorem d_Ans_sameGroup_35 : decode b_Ans_sameGroup 35 = .ok (.aload_n 0, 1) := by decide +kernel
theorem d_Ans_sameGroup_36 : decode b_Ans_sameGroup 36 = .ok (.getfield 53, 3) := by decide +kernel
theorem d_Ans_sameGroup_39 : decode b_Ans_sameGroup 39 = .ok (.getfield 99, 3) := by decide +kernel
theorem d_Ans_sameGroup_42 : decode b_Ans_sameGroup 42 = .ok (.getfield 129, 3) := by decide +kernel
theorem d_Ans_sameGroup_45 : decode b_Ans_sameGroup 45 = .ok (.aload_n 0, 1) := by decide +kernel
theorem d_Ans_sameGroup_46 : decode b_Ans_sameGroup 46 = .ok (.getfield 57, 3) := by decide +kernel
theorem d_Ans_sameGroup_49 : decode b_Ans_sameGroup 49 = .ok (.getfield 141, 3) := by decide +kernel
theorem d_Ans_sameGroup_52 : decode b_Ans_sameGroup 52 = .ok (.iload_n 3, 1) := by decide +kernel
theorem d_Ans_sameGroup_53 : decode b_Ans_sameGroup 53 = .ok (.iaload, 1) := by decide +kernel
theorem d_Ans_sameGroup_54 : decode b_Ans_sameGroup 54 = .ok (.iaload, 1) := by decide +kernel
theorem d_Ans_sameGroup_55 : decode b_Ans_sameGroup 55 = .ok (.istore 5, 2) := by decide +kernel
theorem d_Ans_sameGroup_57 : decode b_Ans_sameGroup 57 = .ok (.aload_n 0, 1) := by decide +kernel
theorem d_Ans_sameGroup_58 : decode b_Ans_sameGroup 58 = .ok (.getfield 53, 3) := by decide +kernel
theorem d_Ans_sameGroup_61 : decode b_Ans_sameGroup 61 = .ok (.iload_n 1, 1) := by decide +kernel
theorem d_Ans_sameGroup_62 : decode b_Ans_sameGroup 62 = .ok (.iload 4, 2) := by decide +kernel
theorem d_Ans_sameGroup_64 : decode b_Ans_sameGroup 64 = .ok (.invokevirtual 121, 3) := by decide +kernel
theorem d_Ans_sameGroup_67 : decode b_Ans_sameGroup 67 = .ok (.istore 6, 2) := by decide +kernel
theorem d_Ans_sameGroup_69 : decode b_Ans_sameGroup 69 = .ok (.aload_n 0, 1) := by decide +kernel
theorem d_Ans_sameGroup_70 : decode b_Ans_sameGroup 70 = .ok (.getfield 53, 3) := by decide +kernel
theorem d_Ans_sameGroup_73 : decode b_Ans_sameGroup 73 = .ok (.iload_n 2, 1) := by decide +kernel
theorem d_Ans_sameGroup_74 : decode b_Ans_sameGroup 74 = .ok (.iload 4, 2) := by decide +kernel
theorem d_Ans_sameGroup_76 : decode b_Ans_sameGroup 76 = .ok (.invokevirtual 121, 3) := by decide +kernel
theorem d_Ans_sameGroup_79 : decode b_Ans_sameGroup 79 = .ok (.istore 7, 2) := by decide +kernel
theorem d_Ans_sameGroup_81 : decode b_Ans_sameGroup 81 = .ok (.aload_n 0, 1) := by decide +kernel
theorem d_Ans_sameGroup_82 : decode b_Ans_sameGroup 82 = .ok (.getfield 53, 3) := by decide +kernel
theorem d_Ans_sameGroup_85 : decode b_Ans_sameGroup 85 = .ok (.iload 6, 2) := by decide +kernel
theorem d_Ans_sameGroup_87 : decode b_Ans_sameGroup 87 = .ok (.iload 4, 2) := by decide +kernel
theorem d_Ans_sameGroup_89 : decode b_Ans_sameGroup 89 = .ok (.invokevirtual 125, 3) := by decide +kernel
theorem d_Ans_sameGroup_92 : decode b_Ans_sameGroup 92 = .ok (.istore 8, 2) := by decide +kernel
theorem d_Ans_sameGroup_94 : decode b_Ans_sameGroup 94 = .ok (.iload 8, 2) := by decide +kernel
theorem d_Ans_sameGroup_96 : decode b_Ans_sameGroup 96 = .ok (.aload_n 0, 1) := by decide +kernel
theorem d_Ans_sameGroup_97 : decode b_Ans_sameGroup 97 = .ok (.getfield 53, 3) := by decide +kernel
theorem d_Ans_sameGroup_100 : decode b_Ans_sameGroup 100 = .ok (.iload 7, 2) := by decide +kernel
theorem d_Ans_sameGroup_102 : decode b_Ans_sameGroup 102 = .ok (.iload 4, 2) := by decide +kernel
theorem d_Ans_sameGroup_104 : decode b_Ans_sameGroup 104 = .ok (.invokevirtual 125, 3) := by decide +kernel
theorem d_Ans_sameGroup_107 : decode b_Ans_sameGroup 107 = .ok (.if_icmp .ne 40, 3) := by decide +kernel
theorem d_Ans_sameGroup_110 : decode b_Ans_sameGroup 110 = .ok (.iload 8, 2) := by decide +kernel
theorem d_Ans_sameGroup_112 : decode b_Ans_sameGroup 112 = .ok (.ifCond .eq 37, 3) := by decide +kernel
theorem d_Ans_sameGroup_115 : decode b_Ans_sameGroup 115 = .ok (.aload_n 0, 1) := by decide +kernel
theorem d_Ans_sameGroup_116 : decode b_Ans_sameGroup 116 = .ok (.getfield 53, 3) := by decide +kernel
theorem d_Ans_sameGroup_119 : decode b_Ans_sameGroup 119 = .ok (.iload 5, 2) := by decide +kernel
theorem d_Ans_sameGroup_121 : decode b_Ans_sameGroup 121 = .ok (.aload_n 0, 1) := by decide +kernel
theorem d_Ans_sameGroup_122 : decode b_Ans_sameGroup 122 = .ok (.getfield 53, 3) := by decide +kernel
theorem d_Ans_sameGroup_125 : decode b_Ans_sameGroup 125 = .ok (.getfield 132, 3) := by decide +kernel
theorem d_Ans_sameGroup_128 : decode b_Ans_sameGroup 128 = .ok (.iload 6, 2) := by decide +kernel
theorem d_Ans_sameGroup_130 : decode b_Ans_sameGroup 130 = .ok (.laload, 1) := by decide +kernel
theorem d_Ans_sameGroup_131 : decode b_Ans_sameGroup 131 = .ok (.aload_n 0, 1) := by decide +kernel
theorem d_Ans_sameGroup_132 : decode b_Ans_sameGroup 132 = .ok (.getfield 53, 3) := by decide +kernel
theorem d_Ans_sameGroup_135 : decode b_Ans_sameGroup 135 = .ok (.getfield 132, 3) := by decide +kernel
theorem d_Ans_sameGroup_138 : decode b_Ans_sameGroup 138 = .ok (.iload 7, 2) := by decide +kernel
theorem d_Ans_sameGroup_140 : decode b_Ans_sameGroup 140 = .ok (.laload, 1) := by decide +kernel
theorem d_Ans_sameGroup_141 : decode b_Ans_sameGroup 141 = .ok (.invokevirtual 151, 3) := by decide +kernel
theorem d_Ans_sameGroup_144 : decode b_Ans_sameGroup 144 = .ok (.ifCond .eq 5, 3) := by decide +kernel
theorem d_Ans_sameGroup_0 : decode b_Ans_sameGroup 0 = .ok (.iconst 0, 1) := by decide +kernel
theorem d_Ans_sameGroup_1 : decode b_Ans_sameGroup 1 = .ok (.istore_n 3, 1) := by decide +kernel
theorem d_Ans_groupOf_84 : decode b_Ans_groupOf 84 = .ok (.aload_n 0, 1) := by decide +kernel
theorem d_Ans_groupOf_85 : decode b_Ans_groupOf 85 = .ok (.getfield 46, 3) := by decide +kernel
theorem d_Ans_groupOf_88 : decode b_Ans_groupOf 88 = .ok (.sipush 500, 3) := by decide +kernel
theorem d_Ans_groupOf_91 : decode b_Ans_groupOf 91 = .ok (.if_icmp .lt 5, 3) := by decide +kernel
theorem d_Ans_groupOf_96 : decode b_Ans_groupOf 96 = .ok (.aload_n 0, 1) := by decide +kernel
theorem d_Ans_groupOf_97 : decode b_Ans_groupOf 97 = .ok (.iload_n 1, 1) := by decide +kernel
theorem d_Ans_groupOf_98 : decode b_Ans_groupOf 98 = .ok (.invokevirtual 74, 3) := by decide +kernel
theorem d_Ans_groupOf_101 : decode b_Ans_groupOf 101 = .ok (.aload_n 0, 1) := by decide +kernel
theorem d_Ans_groupOf_102 : decode b_Ans_groupOf 102 = .ok (.getfield 27, 3) := by decide +kernel
theorem d_Ans_groupOf_105 : decode b_Ans_groupOf 105 = .ok (.iload_n 2, 1) := by decide +kernel
theorem d_Ans_groupOf_106 : decode b_Ans_groupOf 106 = .ok (.aload_n 0, 1) := by decide +kernel
theorem d_Ans_groupOf_107 : decode b_Ans_groupOf 107 = .ok (.getfield 46, 3) := by decide +kernel
theorem d_Ans_groupOf_110 : decode b_Ans_groupOf 110 = .ok (.iastore, 1) := by decide +kernel
theorem d_Ans_groupOf_111 : decode b_Ans_groupOf 111 = .ok (.aload_n 0, 1) := by decide +kernel
theorem d_Ans_groupOf_112 : decode b_Ans_groupOf 112 = .ok (.getfield 46, 3) := by decide +kernel
theorem d_Ans_groupOf_115 : decode b_Ans_groupOf 115 = .ok (.iconst 1, 1) := by decide +kernel
theorem d_Ans_groupOf_116 : decode b_Ans_groupOf 116 = .ok (.isub, 1) := by decide +kernel
theorem d_Ans_groupOf_117 : decode b_Ans_groupOf 117 = .ok (.ireturn, 1) := by decide +kernel
theorem d_Ans_groupOf_94 : decode b_Ans_groupOf 94 = .ok (.iconst (-1), 1) := by decide +kernel
theorem d_Ans_groupOf_95 : decode b_Ans_groupOf 95 = .ok (.ireturn, 1) := by decide +kernel
theorem d_Ans_groupOf_24 : decode b_Ans_groupOf 24 = .ok (.iload_n 3, 1) := by decide +kernel
theorem d_Ans_groupOf_25 : decode b_Ans_groupOf 25 = .ok (.sipush 1024, 3) := by decide +kernel
theorem d_Ans_groupOf_28 : decode b_Ans_groupOf 28 = .ok (.if_icmp .ge 56, 3) := by decide +kernel
theorem d_Ans_groupOf_31 : decode b_Ans_groupOf 31 = .ok (.aload_n 0, 1) := by decide +kernel
theorem d_Ans_groupOf_32 : decode b_Ans_groupOf 32 = .ok (.getfield 27, 3) := by decide +kernel
theorem d_Ans_groupOf_35 : decode b_Ans_groupOf 35 = .ok (.iload_n 2, 1) := by decide +kernel
theorem d_Ans_groupOf_36 : decode b_Ans_groupOf 36 = .ok (.iaload, 1) := by decide +kernel
theorem d_Ans_groupOf_37 : decode b_Ans_groupOf 37 = .ok (.ifCond .eq 47, 3) := by decide +kernel
theorem d_Ans_groupOf_40 : decode b_Ans_groupOf 40 = .ok (.aload_n 0, 1) := by decide +kernel
theorem d_Ans_groupOf_41 : decode b_Ans_groupOf 41 = .ok (.aload_n 0, 1) := by decide +kernel
theorem d_Ans_groupOf_42 : decode b_Ans_groupOf 42 = .ok (.getfield 15, 3) := by decide +kernel
theorem d_Ans_groupOf_45 : decode b_Ans_groupOf 45 = .ok (.aload_n 0, 1) := by decide +kernel
theorem d_Ans_groupOf_46 : decode b_Ans_groupOf 46 = .ok (.getfield 27, 3) := by decide +kernel
theorem d_Ans_groupOf_49 : decode b_Ans_groupOf 49 = .ok (.iload_n 2, 1) := by decide +kernel
theorem d_Ans_groupOf_50 : decode b_Ans_groupOf 50 = .ok (.iaload, 1) := by decide +kernel
theorem d_Ans_groupOf_51 : decode b_Ans_groupOf 51 = .ok (.iconst 1, 1) := by decide +kernel
theorem d_Ans_groupOf_52 : decode b_Ans_groupOf 52 = .ok (.isub, 1) := by decide +kernel
theorem d_Ans_groupOf_53 : decode b_Ans_groupOf 53 = .ok (.iaload, 1) := by decide +kernel
theorem d_Ans_groupOf_54 : decode b_Ans_groupOf 54 = .ok (.iload_n 1, 1) := by decide +kernel
theorem d_Ans_groupOf_55 : decode b_Ans_groupOf 55 = .ok (.invokevirtual 138, 3) := by decide +kernel
theorem d_Ans_groupOf_58 : decode b_Ans_groupOf 58 = .ok (.ifCond .eq 12, 3) := by decide +kernel
theorem d_Ans_groupOf_70 : decode b_Ans_groupOf 70 = .ok (.iload_n 2, 1) := by decide +kernel
theorem d_Ans_groupOf_71 : decode b_Ans_groupOf 71 = .ok (.iconst 1, 1) := by decide +kernel
theorem d_Ans_groupOf_72 : decode b_Ans_groupOf 72 = .ok (.iadd, 1) := by decide +kernel
theorem d_Ans_groupOf_73 : decode b_Ans_groupOf 73 = .ok (.sipush 1023, 3) := by decide +kernel
theorem d_Ans_groupOf_76 : decode b_Ans_groupOf 76 = .ok (.iand, 1) := by decide +kernel
theorem d_Ans_groupOf_77 : decode b_Ans_groupOf 77 = .ok (.istore_n 2, 1) := by decide +kernel
theorem d_Ans_groupOf_78 : decode b_Ans_groupOf 78 = .ok (.iinc 3 1, 3) := by decide +kernel
theorem d_Ans_groupOf_81 : decode b_Ans_groupOf 81 = .ok (.goto (-57), 3) := by decide +kernel
theorem d_Ans_groupOf_61 : decode b_Ans_groupOf 61 = .ok (.aload_n 0, 1) := by decide +kernel
theorem d_Ans_groupOf_62 : decode b_Ans_groupOf 62 = .ok (.getfield 27, 3) := by decide +kernel
theorem d_Ans_groupOf_65 : decode b_Ans_groupOf 65 = .ok (.iload_n 2, 1) := by decide +kernel
theorem d_Ans_groupOf_66 : decode b_Ans_groupOf 66 = .ok (.iaload, 1) := by decide +kernel
theorem d_Ans_groupOf_67 : decode b_Ans_groupOf 67 = .ok (.iconst 1, 1) := by decide +kernel
theorem d_Ans_groupOf_68 : decode b_Ans_groupOf 68 = .ok (.isub, 1) := by decide +kernel
theorem d_Ans_groupOf_69 : decode b_Ans_groupOf 69 = .ok (.ireturn, 1) := by decide +kernel
theorem d_Ans_groupOf_0 : decode b_Ans_groupOf 0 = .ok (.aload_n 0, 1) := by decide +kernel
theorem d_Ans_groupOf_1 : decode b_Ans_groupOf 1 = .ok (.getfield 57, 3) := by decide +kernel
theorem d_Ans_groupOf_4 : decode b_Ans_groupOf 4 = .ok (.getfield 71, 3) := by decide +kernel
theorem d_Ans_groupOf_7 : decode b_Ans_groupOf 7 = .ok (.ifCond .ne 5, 3) := by decide +kernel
theorem d_Ans_groupOf_12 : decode b_Ans_groupOf 12 = .ok (.aload_n 0, 1) := by decide +kernel
theorem d_Ans_groupOf_13 : decode b_Ans_groupOf 13 = .ok (.iload_n 1, 1) := by decide +kernel
theorem d_Ans_groupOf_14 : decode b_Ans_groupOf 14 = .ok (.invokevirtual 135, 3) := by decide +kernel
theorem d_Ans_groupOf_17 : decode b_Ans_groupOf 17 = .ok (.sipush 1023, 3) := by decide +kernel
theorem d_Ans_groupOf_20 : decode b_Ans_groupOf 20 = .ok (.iand, 1) := by decide +kernel
theorem d_Ans_groupOf_21 : decode b_Ans_groupOf 21 = .ok (.istore_n 2, 1) := by decide +kernel
theorem d_Ans_groupOf_22 : decode b_Ans_groupOf 22 = .ok (.iconst 0, 1) := by decide +kernel
theorem d_Ans_groupOf_23 : decode b_Ans_groupOf 23 = .ok (.istore_n 3, 1) := by decide +kernel
theorem d_Ans_groupOf_10 : decode b_Ans_groupOf 10 = .ok (.iconst 0, 1) := by decide +kernel
theorem d_Ans_groupOf_11 : decode b_Ans_groupOf 11 = .ok (.ireturn, 1) := by decide +kernel
theorem d_Ans_gatherValue_163 : decode b_Ans_gatherValue 163 = .ok (.aload_n 0, 1) := by decide +kernel
theorem d_Ans_gatherValue_164 : decode b_Ans_gatherValue 164 = .ok (.getfield 23, 3) := by decide +kernel
theorem d_Ans_gatherValue_167 : decode b_Ans_gatherValue 167 = .ok (.iload_n 1, 1) := by decide +kernel
theorem d_Ans_gatherValue_168 : decode b_Ans_gatherValue 168 = .ok (.aload_n 0, 1) := by decide +kernel
theorem d_Ans_gatherValue_169 : decode b_Ans_gatherValue 169 = .ok (.getfield 53, 3) := by decide +kernel
theorem d_Ans_gatherValue_172 : decode b_Ans_gatherValue 172 = .ok (.getfield 132, 3) := by decide +kernel
theorem d_Ans_gatherValue_175 : decode b_Ans_gatherValue 175 = .ok (.iload 6, 2) := by decide +kernel
theorem d_Ans_gatherValue_177 : decode b_Ans_gatherValue 177 = .ok (.laload, 1) := by decide +kernel
theorem d_Ans_gatherValue_178 : decode b_Ans_gatherValue 178 = .ok (.lastore, 1) := by decide +kernel
theorem d_Ans_gatherValue_179 : decode b_Ans_gatherValue 179 = .ok (.return_, 1) := by decide +kernel
theorem d_Ans_gatherValue_0 : decode b_Ans_gatherValue 0 = .ok (.aload_n 0, 1) := by decide +kernel
theorem d_Ans_gatherValue_1 : decode b_Ans_gatherValue 1 = .ok (.getfield 53, 3) := by decide +kernel
theorem d_Ans_gatherValue_4 : decode b_Ans_gatherValue 4 = .ok (.getfield 99, 3) := by decide +kernel
theorem d_Ans_gatherValue_7 : decode b_Ans_gatherValue 7 = .ok (.getfield 118, 3) := by decide +kernel
theorem d_Ans_gatherValue_10 : decode b_Ans_gatherValue 10 = .ok (.iload 4, 2) := by decide +kernel
theorem d_Ans_gatherValue_12 : decode b_Ans_gatherValue 12 = .ok (.iaload, 1) := by decide +kernel
theorem d_Ans_gatherValue_13 : decode b_Ans_gatherValue 13 = .ok (.istore 5, 2) := by decide +kernel
theorem d_Ans_gatherValue_15 : decode b_Ans_gatherValue 15 = .ok (.aload_n 0, 1) := by decide +kernel
theorem d_Ans_gatherValue_16 : decode b_Ans_gatherValue 16 = .ok (.getfield 53, 3) := by decide +kernel
theorem d_Ans_gatherValue_19 : decode b_Ans_gatherValue 19 = .ok (.iload_n 3, 1) := by decide +kernel
theorem d_Ans_gatherValue_20 : decode b_Ans_gatherValue 20 = .ok (.iload 5, 2) := by decide +kernel
theorem d_Ans_gatherValue_22 : decode b_Ans_gatherValue 22 = .ok (.invokevirtual 121, 3) := by decide +kernel
theorem d_Ans_gatherValue_25 : decode b_Ans_gatherValue 25 = .ok (.istore 6, 2) := by decide +kernel
theorem d_Ans_gatherValue_27 : decode b_Ans_gatherValue 27 = .ok (.aload_n 0, 1) := by decide +kernel
theorem d_Ans_gatherValue_28 : decode b_Ans_gatherValue 28 = .ok (.getfield 53, 3) := by decide +kernel
theorem d_Ans_gatherValue_31 : decode b_Ans_gatherValue 31 = .ok (.iload 6, 2) := by decide +kernel
theorem d_Ans_gatherValue_33 : decode b_Ans_gatherValue 33 = .ok (.iload 5, 2) := by decide +kernel
theorem d_Ans_gatherValue_35 : decode b_Ans_gatherValue 35 = .ok (.invokevirtual 125, 3) := by decide +kernel
theorem d_Ans_gatherValue_38 : decode b_Ans_gatherValue 38 = .ok (.ifCond .ne 4, 3) := by decide +kernel
theorem d_Ans_gatherValue_42 : decode b_Ans_gatherValue 42 = .ok (.iload_n 2, 1) := by decide +kernel
theorem d_Ans_gatherValue_43 : decode b_Ans_gatherValue 43 = .ok (.iconst 2, 1) := by decide +kernel
theorem d_Ans_gatherValue_44 : decode b_Ans_gatherValue 44 = .ok (.if_icmp .ne 16, 3) := by decide +kernel
theorem d_Ans_gatherValue_60 : decode b_Ans_gatherValue 60 = .ok (.aload_n 0, 1) := by decide +kernel
theorem d_Ans_gatherValue_61 : decode b_Ans_gatherValue 61 = .ok (.getfield 19, 3) := by decide +kernel
theorem d_Ans_gatherValue_64 : decode b_Ans_gatherValue 64 = .ok (.iload_n 1, 1) := by decide +kernel
theorem d_Ans_gatherValue_65 : decode b_Ans_gatherValue 65 = .ok (.baload, 1) := by decide +kernel
theorem d_Ans_gatherValue_66 : decode b_Ans_gatherValue 66 = .ok (.ifCond .ne 14, 3) := by decide +kernel
theorem d_Ans_gatherValue_80 : decode b_Ans_gatherValue 80 = .ok (.iload_n 2, 1) := by decide +kernel
theorem d_Ans_gatherValue_81 : decode b_Ans_gatherValue 81 = .ok (.iconst 3, 1) := by decide +kernel
theorem d_Ans_gatherValue_82 : decode b_Ans_gatherValue 82 = .ok (.if_icmp .ne 25, 3) := by decide +kernel
theorem d_Ans_gatherValue_107 : decode b_Ans_gatherValue 107 = .ok (.aload_n 0, 1) := by decide +kernel
theorem d_Ans_gatherValue_108 : decode b_Ans_gatherValue 108 = .ok (.getfield 53, 3) := by decide +kernel
theorem d_Ans_gatherValue_111 : decode b_Ans_gatherValue 111 = .ok (.aload_n 0, 1) := by decide +kernel
theorem d_Ans_gatherValue_112 : decode b_Ans_gatherValue 112 = .ok (.getfield 53, 3) := by decide +kernel
theorem d_Ans_gatherValue_115 : decode b_Ans_gatherValue 115 = .ok (.getfield 99, 3) := by decide +kernel
theorem d_Ans_gatherValue_118 : decode b_Ans_gatherValue 118 = .ok (.getfield 129, 3) := by decide +kernel
theorem d_Ans_gatherValue_121 : decode b_Ans_gatherValue 121 = .ok (.iload 4, 2) := by decide +kernel
theorem d_Ans_gatherValue_123 : decode b_Ans_gatherValue 123 = .ok (.iaload, 1) := by decide +kernel
theorem d_Ans_gatherValue_124 : decode b_Ans_gatherValue 124 = .ok (.aload_n 0, 1) := by decide +kernel
theorem d_Ans_gatherValue_125 : decode b_Ans_gatherValue 125 = .ok (.getfield 53, 3) := by decide +kernel
theorem d_Ans_gatherValue_128 : decode b_Ans_gatherValue 128 = .ok (.getfield 132, 3) := by decide +kernel
theorem d_Ans_gatherValue_131 : decode b_Ans_gatherValue 131 = .ok (.iload 6, 2) := by decide +kernel
theorem d_Ans_gatherValue_133 : decode b_Ans_gatherValue 133 = .ok (.laload, 1) := by decide +kernel
theorem d_Ans_gatherValue_134 : decode b_Ans_gatherValue 134 = .ok (.aload_n 0, 1) := by decide +kernel
theorem d_Ans_gatherValue_135 : decode b_Ans_gatherValue 135 = .ok (.getfield 23, 3) := by decide +kernel
theorem d_Ans_gatherValue_138 : decode b_Ans_gatherValue 138 = .ok (.iload_n 1, 1) := by decide +kernel
theorem d_Ans_gatherValue_139 : decode b_Ans_gatherValue 139 = .ok (.laload, 1) := by decide +kernel
theorem d_Ans_gatherValue_140 : decode b_Ans_gatherValue 140 = .ok (.invokevirtual 151, 3) := by decide +kernel
theorem d_Ans_gatherValue_143 : decode b_Ans_gatherValue 143 = .ok (.istore 7, 2) := by decide +kernel
theorem d_Ans_gatherValue_145 : decode b_Ans_gatherValue 145 = .ok (.iload_n 2, 1) := by decide +kernel
theorem d_Ans_gatherValue_146 : decode b_Ans_gatherValue 146 = .ok (.iconst 4, 1) := by decide +kernel
theorem d_Ans_gatherValue_147 : decode b_Ans_gatherValue 147 = .ok (.if_icmp .ne 11, 3) := by decide +kernel
theorem d_Ans_gatherValue_158 : decode b_Ans_gatherValue 158 = .ok (.iload 7, 2) := by decide +kernel
theorem d_Ans_gatherValue_160 : decode b_Ans_gatherValue 160 = .ok (.ifCond .le 19, 3) := by decide +kernel
theorem d_Ans_gatherValue_150 : decode b_Ans_gatherValue 150 = .ok (.iload 7, 2) := by decide +kernel
theorem d_Ans_gatherValue_152 : decode b_Ans_gatherValue 152 = .ok (.ifCond .ge 27, 3) := by decide +kernel
theorem d_Ans_gatherValue_155 : decode b_Ans_gatherValue 155 = .ok (.goto 8, 3) := by decide +kernel
theorem d_Ans_gatherValue_85 : decode b_Ans_gatherValue 85 = .ok (.aload_n 0, 1) := by decide +kernel
theorem d_Ans_gatherValue_86 : decode b_Ans_gatherValue 86 = .ok (.getfield 23, 3) := by decide +kernel
theorem d_Ans_gatherValue_89 : decode b_Ans_gatherValue 89 = .ok (.iload_n 1, 1) := by decide +kernel
theorem d_Ans_gatherValue_90 : decode b_Ans_gatherValue 90 = .ok (.dup2, 1) := by decide +kernel
theorem d_Ans_gatherValue_91 : decode b_Ans_gatherValue 91 = .ok (.laload, 1) := by decide +kernel
theorem d_Ans_gatherValue_92 : decode b_Ans_gatherValue 92 = .ok (.aload_n 0, 1) := by decide +kernel
theorem d_Ans_gatherValue_93 : decode b_Ans_gatherValue 93 = .ok (.getfield 53, 3) := by decide +kernel
theorem d_Ans_gatherValue_96 : decode b_Ans_gatherValue 96 = .ok (.getfield 132, 3) := by decide +kernel
theorem d_Ans_gatherValue_99 : decode b_Ans_gatherValue 99 = .ok (.iload 6, 2) := by decide +kernel
theorem d_Ans_gatherValue_101 : decode b_Ans_gatherValue 101 = .ok (.laload, 1) := by decide +kernel
theorem d_Ans_gatherValue_102 : decode b_Ans_gatherValue 102 = .ok (.ladd, 1) := by decide +kernel
theorem d_Ans_gatherValue_103 : decode b_Ans_gatherValue 103 = .ok (.lastore, 1) := by decide +kernel
theorem d_Ans_gatherValue_104 : decode b_Ans_gatherValue 104 = .ok (.goto 75, 3) := by decide +kernel
theorem d_Ans_gatherValue_69 : decode b_Ans_gatherValue 69 = .ok (.aload_n 0, 1) := by decide +kernel
theorem d_Ans_gatherValue_70 : decode b_Ans_gatherValue 70 = .ok (.iload_n 1, 1) := by decide +kernel
theorem d_Ans_gatherValue_71 : decode b_Ans_gatherValue 71 = .ok (.iload_n 3, 1) := by decide +kernel
theorem d_Ans_gatherValue_72 : decode b_Ans_gatherValue 72 = .ok (.iload 4, 2) := by decide +kernel
theorem d_Ans_gatherValue_74 : decode b_Ans_gatherValue 74 = .ok (.invokevirtual 114, 3) := by decide +kernel
theorem d_Ans_gatherValue_77 : decode b_Ans_gatherValue 77 = .ok (.goto 102, 3) := by decide +kernel
theorem d_Ans_gatherValue_47 : decode b_Ans_gatherValue 47 = .ok (.aload_n 0, 1) := by decide +kernel
theorem d_Ans_gatherValue_48 : decode b_Ans_gatherValue 48 = .ok (.getfield 23, 3) := by decide +kernel
theorem d_Ans_gatherValue_51 : decode b_Ans_gatherValue 51 = .ok (.iload_n 1, 1) := by decide +kernel
theorem d_Ans_gatherValue_52 : decode b_Ans_gatherValue 52 = .ok (.dup2, 1) := by decide +kernel
theorem d_Ans_gatherValue_53 : decode b_Ans_gatherValue 53 = .ok (.laload, 1) := by decide +kernel
theorem d_Ans_gatherValue_54 : decode b_Ans_gatherValue 54 = .ok (.lconst 1, 1) := by decide +kernel
theorem d_Ans_gatherValue_55 : decode b_Ans_gatherValue 55 = .ok (.ladd, 1) := by decide +kernel
theorem d_Ans_gatherValue_56 : decode b_Ans_gatherValue 56 = .ok (.lastore, 1) := by decide +kernel
theorem d_Ans_gatherValue_57 : decode b_Ans_gatherValue 57 = .ok (.goto 122, 3) := by decide +kernel
theorem d_Ans_gatherValue_41 : decode b_Ans_gatherValue 41 = .ok (.return_, 1) := by decide +kernel
section
variable (l : Launch) (dC : Nat → ClassId) (dI : Nat → Nat → Nat) (cI cB cJ cZ : ClassId)
set_option maxRecDepth 100000 in
set_option maxHeartbeats 4000000 in
set_option maxRecDepth 100000 in
theorem t_Ans_hashOfRow_113 {p : Program} {l : Launch} {e : Env} {R : Room} {s : State} {m : MethodId} {args : Array Value} {below : List Frame} {meth : Method} {c : Code} {cells slots : Nat} {Q : State → Prop} {dC : Nat → ClassId} {dI : Nat → Nat → Nat} {cI cB cJ cZ : ClassId} {A : Nat → Prop} {ad : Nat → Nat} {NN : Nat} {E : Heap} {tM tC : Nat} {kK kV : Nat → Nat} {post : Int32 → St → Prop} {rec4 : Nat → Int32 → Int32 → Int32 → St → Prop} (hx : p.tables.exec = Jvm.exec) (hb : c.code = b_Ans_hashOfRow) (hml : c.maxLocals = 6) (hown : s.vm.findClass R_Ans = some m.cls) (hT : ∀ w ∈ TG, w.before args s = true) (hK : va_K (dC, dI) CL (TY cI cB cJ cZ) s) (hN : NW s) (hA : ∀ q : Nat, s.heap.size ≤ q → A q) (hRc : cells ≤ R.cells) (hRs : slots ≤ R.slots) (hRf : 1 ≤ R.frames) (hRl : 27 ≤ R.locals) (hNN : 152 ≤ NN) (hE : CE E tM tC kK kV A s) (hret : ∀ (r : Int32) (x : St) (H : Heap) (locs : List Loc) (pc : Nat) (ls : Array Slot), decode b_Ans_hashOfRow pc = .ok (.ireturn, 1) → post r x → Wd dC dI cI cB cJ cZ ad stC kcC NN A x H → va_S A s.heap H locs → W p l e R s m args below meth c H locs cells slots Q (F0 m pc ls [.int r])) (hrec4 : ∀ (o : Nat) (l1 : Int32) (l2 : Int32) (l3 : Int32) (x : St) (H : Heap) (locs : List Loc) (ls : Array Slot), (o < NN ∧ kcC o = 10) → rec4 o l1 l2 l3 x → Wd dC dI cI cB cJ cZ ad stC kcC NN A x H → va_S A s.heap H locs → lv_has ls 6 [(0, .ref (ad o)), (1, .int l1), (2, .int l2), (3, .int l3)] → W p l e R s m args below meth c H locs cells slots Q (F0 m 4 ls [])) : ∀ (o : Nat) (l1 : Int32) (l2 : Int32) (l3 : Int32) (l4 : Int32) (l5 : Int32) (x : St) (H : Heap) (locs : List Loc) (ls : Array Slot), (o < NN ∧ kcC o = 10) → j_Ans_hashOfRow_113 post rec4 o l1 l2 l3 l4 l5 x → Wd dC dI cI cB cJ cZ ad stC kcC NN A x H → va_S A s.heap H locs → lv_has ls 6 [(0, .ref (ad o)), (1, .int l1), (2, .int l2), (3, .int l3), (4, .int l4), (5, .int l5)] → W p l e R s m args below meth c H locs cells slots Q (F0 m 113 ls []) := by
  intro o l1 l2 l3 l4 l5 x H locs ls fo hw hW hS hl
  unfold j_Ans_hashOfRow_113 at hw
  refine lv_iinc (v := (l3 + 1)) (lv' := [(3, .int (l3 + 1)), (0, .ref (ad o)), (1, .int l1), (2, .int l2), (4, .int l4), (5, .int l5)]) hx hb d_Ans_hashOfRow_113 hl (k := 3) rfl rfl (by decide) rfl (fun ls hl => ?_)
  refine lv_goto (tgt := 4) hx hb d_Ans_hashOfRow_116 (by decide) ?_
  exact hrec4 o l1 l2 (l3 + 1) x H locs ls fo hw hW hS (lv_sub hl [1, 2, 3, 0] rfl)
set_option maxRecDepth 100000 in
set_option maxHeartbeats 4000000 in
set_option maxRecDepth 100000 in
theorem t_Ans_hashOfRow_4 {p : Program} {l : Launch} {e : Env} {R : Room} {s : State} {m : MethodId} {args : Array Value} {below : List Frame} {meth : Method} {c : Code} {cells slots : Nat} {Q : State → Prop} {dC : Nat → ClassId} {dI : Nat → Nat → Nat} {cI cB cJ cZ : ClassId} {A : Nat → Prop} {ad : Nat → Nat} {NN : Nat} {E : Heap} {tM tC : Nat} {kK kV : Nat → Nat} {post : Int32 → St → Prop} {rec4 : Nat → Int32 → Int32 → Int32 → St → Prop} (hx : p.tables.exec = Jvm.exec) (hb : c.code = b_Ans_hashOfRow) (hml : c.maxLocals = 6) (hown : s.vm.findClass R_Ans = some m.cls) (hT : ∀ w ∈ TG, w.before args s = true) (hK : va_K (dC, dI) CL (TY cI cB cJ cZ) s) (hN : NW s) (hA : ∀ q : Nat, s.heap.size ≤ q → A q) (hRc : cells ≤ R.cells) (hRs : slots ≤ R.slots) (hRf : 1 ≤ R.frames) (hRl : 27 ≤ R.locals) (hNN : 152 ≤ NN) (hE : CE E tM tC kK kV A s) (hret : ∀ (r : Int32) (x : St) (H : Heap) (locs : List Loc) (pc : Nat) (ls : Array Slot), decode b_Ans_hashOfRow pc = .ok (.ireturn, 1) → post r x → Wd dC dI cI cB cJ cZ ad stC kcC NN A x H → va_S A s.heap H locs → W p l e R s m args below meth c H locs cells slots Q (F0 m pc ls [.int r])) (hrec4 : ∀ (o : Nat) (l1 : Int32) (l2 : Int32) (l3 : Int32) (x : St) (H : Heap) (locs : List Loc) (ls : Array Slot), (o < NN ∧ kcC o = 10) → rec4 o l1 l2 l3 x → Wd dC dI cI cB cJ cZ ad stC kcC NN A x H → va_S A s.heap H locs → lv_has ls 6 [(0, .ref (ad o)), (1, .int l1), (2, .int l2), (3, .int l3)] → W p l e R s m args below meth c H locs cells slots Q (F0 m 4 ls [])) : ∀ (o : Nat) (l1 : Int32) (l2 : Int32) (l3 : Int32) (x : St) (H : Heap) (locs : List Loc) (ls : Array Slot), (o < NN ∧ kcC o = 10) → j_Ans_hashOfRow_4 post rec4 o l1 l2 l3 x → Wd dC dI cI cB cJ cZ ad stC kcC NN A x H → va_S A s.heap H locs → lv_has ls 6 [(0, .ref (ad o)), (1, .int l1), (2, .int l2), (3, .int l3)] → W p l e R s m args below meth c H locs cells slots Q (F0 m 4 ls []) := by
  intro o l1 l2 l3 x H locs ls fo hw hW hS hl
  unfold j_Ans_hashOfRow_4 at hw
  refine lv_iload_n hx hb d_Ans_hashOfRow_4 rfl (lv_at hl 3 rfl) ?_
  refine lv_aload_n hx hb d_Ans_hashOfRow_5 rfl (lv_at hl 0 rfl) ?_
  obtain ⟨q1, hq1, hw⟩ := hw
  refine w_getr (q := q1) (k := 15) (t := 10) (C := R_Ans) (T := F_Ans) (N := 16) hx hb hT hown hK hW fo.1 fo.2 (by decide) in_Ans rfl rfl (by decide) rfl fr_Ans_15 w_3_177 d_Ans_hashOfRow_6 hq1 (fun aq1 bq1 => ?_)
  have fq1 : q1 < NN ∧ kcC q1 = 9 := ⟨aq1, bq1⟩
  refine w_geti (k := 5) (t := 9) (C := R_Qry) (T := F_Qry) (N := 20) hx hb hT hown hK hW fq1.1 fq1.2 (by decide) in_Qry rfl rfl (by decide) rfl fr_Qry_5 w_3_84 d_Ans_hashOfRow_9 ?_
  refine lv_icmp_ge (tgt := 119) hx hb d_Ans_hashOfRow_12 (by decide) (fun c2 => ?_) (fun c2 => ?_)
  · have hw := hw.1 c2
    refine lv_iload_n hx hb d_Ans_hashOfRow_119 rfl (lv_at hl 2 rfl) ?_
    refine lv_iload_n hx hb d_Ans_hashOfRow_120 rfl (lv_at hl 2 rfl) ?_
    refine lv_bipush (v := 10) hx hb d_Ans_hashOfRow_121 (by decide) ?_
    refine lv_iushr hx hb d_Ans_hashOfRow_123 rfl ?_
    refine lv_ixor hx hb d_Ans_hashOfRow_124 ?_
    exact hret (l2 ^^^ ((l2 : Int32).toUInt32 >>> ((10 : Int32).toUInt32 &&& Int32.toUInt32 31)).toInt32) x H locs 125 ls d_Ans_hashOfRow_125 hw hW hS
  · have hw := hw.2 c2
    refine lv_aload_n hx hb d_Ans_hashOfRow_15 rfl (lv_at hl 0 rfl) ?_
    obtain ⟨q3, hq3, hw⟩ := hw
    refine w_getr (q := q3) (k := 14) (t := 10) (C := R_Ans) (T := F_Ans) (N := 16) hx hb hT hown hK hW fo.1 fo.2 (by decide) in_Ans rfl rfl (by decide) rfl fr_Ans_14 w_3_176 d_Ans_hashOfRow_16 hq3 (fun aq3 bq3 => ?_)
    have fq3 : q3 < NN ∧ kcC q3 = 6 := ⟨aq3, bq3⟩
    refine w_getf (q := (stC q3 5)) (k := 5) (t := 6) (C := R_Vlt) (T := F_Vlt) (N := 20) hx hb hT hown hK hW fq3.1 fq3.2 (by decide) in_Vlt rfl rfl (by decide) rfl fr_Vlt_5 w_2_137 d_Ans_hashOfRow_19 rfl ?_
    refine w_getf (q := (stC (stC q3 5) 9)) (k := 9) (t := 3) (C := R_Sch) (T := F_Sch) (N := 13) hx hb hT hown hK hW (st_ty hNN fq3.1 fq3.2 rfl).1 (st_ty hNN fq3.1 fq3.2 rfl).2 (by decide) in_Sch rfl rfl (by decide) rfl fr_Sch_9 w_1_175 d_Ans_hashOfRow_22 rfl ?_
    refine lv_aload_n hx hb d_Ans_hashOfRow_25 rfl (lv_at hl 0 rfl) ?_
    obtain ⟨q4, hq4, hw⟩ := hw
    refine w_getr (q := q4) (k := 15) (t := 10) (C := R_Ans) (T := F_Ans) (N := 16) hx hb hT hown hK hW fo.1 fo.2 (by decide) in_Ans rfl rfl (by decide) rfl fr_Ans_15 w_3_177 d_Ans_hashOfRow_26 hq4 (fun aq4 bq4 => ?_)
    have fq4 : q4 < NN ∧ kcC q4 = 9 := ⟨aq4, bq4⟩
    refine w_getf (q := (stC q4 6)) (k := 6) (t := 9) (C := R_Qry) (T := F_Qry) (N := 20) hx hb hT hown hK hW fq4.1 fq4.2 (by decide) in_Qry rfl rfl (by decide) rfl fr_Qry_6 w_3_86 d_Ans_hashOfRow_29 rfl ?_
    refine lv_iload_n hx hb d_Ans_hashOfRow_32 rfl (lv_at hl 3 rfl) ?_
    obtain ⟨hi, hw⟩ := hw
    refine w_iald (o := (stC q4 6)) hx hb hK hW (st_ty hNN fq4.1 fq4.2 rfl).1 (st_ty hNN fq4.1 fq4.2 rfl).2 hi d_Ans_hashOfRow_33 ?_
    obtain ⟨hi, hw⟩ := hw
    refine w_iald (o := (stC (stC q3 5) 9)) hx hb hK hW (st_ty hNN (st_ty hNN fq3.1 fq3.2 rfl).1 (st_ty hNN fq3.1 fq3.2 rfl).2 rfl).1 (st_ty hNN (st_ty hNN fq3.1 fq3.2 rfl).1 (st_ty hNN fq3.1 fq3.2 rfl).2 rfl).2 hi d_Ans_hashOfRow_34 ?_
    refine lv_topi (fun v5 ev5 => ?_)
    have hw := hw v5 ev5
    refine lv_istore (lv' := [(4, .int v5), (0, .ref (ad o)), (1, .int l1), (2, .int l2), (3, .int l3)]) hx hb d_Ans_hashOfRow_35 hl (by decide) rfl (fun ls hl => ?_)
    refine lv_aload_n hx hb d_Ans_hashOfRow_37 rfl (lv_at hl 1 rfl) ?_
    obtain ⟨q6, hq6, hw⟩ := hw
    refine w_getr (q := q6) (k := 14) (t := 10) (C := R_Ans) (T := F_Ans) (N := 16) hx hb hT hown hK hW fo.1 fo.2 (by decide) in_Ans rfl rfl (by decide) rfl fr_Ans_14 w_3_176 d_Ans_hashOfRow_38 hq6 (fun aq6 bq6 => ?_)
    have fq6 : q6 < NN ∧ kcC q6 = 6 := ⟨aq6, bq6⟩
    refine lv_iload_n hx hb d_Ans_hashOfRow_41 rfl (lv_at hl 2 rfl) ?_
    refine lv_iload hx hb d_Ans_hashOfRow_42 (lv_at hl 0 rfl) ?_
    have hF := hW.free hS hA
    refine va_calli (va_runV (C := R_Vlt) (As := [.int l1, .int v5]) (rest := []) ⟨hx, hb, hml, hown, hT⟩ (k_Vlt_entryOf l dC dI cI cB cJ cZ ad NN E tM tC kK kV hNN H.size q6 l1 v5 x fq6 hw) ⟨callB_of 2 hT (gwt_in w_7_85) rfl rfl rfl (hT _ w_1_9) (hT _ w_8_29) (by decide +kernel) ⟨Nat.le_trans (Nat.le_of_ble_eq_true rfl) hRf, Nat.le_trans (Nat.le_of_ble_eq_true rfl) hRl⟩, hT _ w_7_83, hT _ w_7_84⟩ ⟨PVc.blind, va_recv hK hW.1 (ci := 6) (q0 := q6) rfl (pic_obj fq6.1 fq6.2 (by decide)), PVc.at _ hW hK hN hE hS hF⟩ rfl rfl hl.1 rfl (lv_room (Nat.le_of_ble_eq_true rfl)) d_Ans_hashOfRow_44 ⟨hRc, hRs⟩) hS (fun q _ h => hF q h) hF (fun r8 x7 t H locs ht hvm hw hB hz1 hk1 hS => ?_)
    have hW := Wd.back hB ht hF
    clear hB ht hF hz1 hk1 hvm
    refine lv_istore (lv' := [(5, .int r8), (4, .int v5), (0, .ref (ad o)), (1, .int l1), (2, .int l2), (3, .int l3)]) hx hb d_Ans_hashOfRow_47 hl (by decide) rfl (fun ls hl => ?_)
    refine lv_iload_n hx hb d_Ans_hashOfRow_49 rfl (lv_at hl 4 rfl) ?_
    refine lv_bipush (v := 31) hx hb d_Ans_hashOfRow_50 (by decide) ?_
    refine lv_imul hx hb d_Ans_hashOfRow_52 ?_
    refine lv_topi (fun v9 ev9 => ?_)
    have hw := hw v9 ev9
    refine lv_istore_n (lv' := [(2, .int v9), (5, .int r8), (4, .int v5), (0, .ref (ad o)), (1, .int l1), (3, .int l3)]) hx hb d_Ans_hashOfRow_53 rfl hl (by decide) rfl (fun ls hl => ?_)
    refine lv_aload_n hx hb d_Ans_hashOfRow_54 rfl (lv_at hl 3 rfl) ?_
    obtain ⟨q10, hq10, hw⟩ := hw
    refine w_getr (q := q10) (k := 14) (t := 10) (C := R_Ans) (T := F_Ans) (N := 16) hx hb hT hown hK hW fo.1 fo.2 (by decide) in_Ans rfl rfl (by decide) rfl fr_Ans_14 w_3_176 d_Ans_hashOfRow_55 hq10 (fun aq10 bq10 => ?_)
    have fq10 : q10 < NN ∧ kcC q10 = 6 := ⟨aq10, bq10⟩
    refine lv_iload hx hb d_Ans_hashOfRow_58 (lv_at hl 1 rfl) ?_
    refine lv_iload hx hb d_Ans_hashOfRow_60 (lv_at hl 2 rfl) ?_
    have hF := hW.free hS hA
    refine va_calli (va_runV (C := R_Vlt) (As := [.int r8, .int v5]) (rest := []) ⟨hx, hb, hml, hown, hT⟩ (k_Vlt_hasValue l dC dI cI cB cJ cZ ad NN E tM tC kK kV hNN H.size q10 r8 v5 x7 fq10 hw) ⟨callB_of 2 hT (gwt_in w_7_50) rfl rfl rfl (hT _ w_1_9) (hT _ w_8_30) (by decide +kernel) ⟨Nat.le_trans (Nat.le_of_ble_eq_true rfl) hRf, Nat.le_trans (Nat.le_of_ble_eq_true rfl) hRl⟩, hT _ w_7_48, hT _ w_7_49⟩ ⟨PVc.blind, va_recv hK hW.1 (ci := 6) (q0 := q10) rfl (pic_obj fq10.1 fq10.2 (by decide)), PVc.at _ hW hK hN hE hS hF⟩ rfl rfl hl.1 rfl (lv_room (Nat.le_of_ble_eq_true rfl)) d_Ans_hashOfRow_62 ⟨hRc, hRs⟩) hS (fun q _ h => hF q h) hF (fun r12 x11 t H locs ht hvm hw hB hz1 hk1 hS => ?_)
    have hW := Wd.back hB ht hF
    clear hB ht hF hz1 hk1 hvm
    refine lv_if_eq (tgt := 113) hx hb d_Ans_hashOfRow_65 (by decide) (fun c13 => ?_) (fun c13 => ?_)
    · have hw := hw.1 c13
      exact t_Ans_hashOfRow_113 hx hb hml hown hT hK hN hA hRc hRs hRf hRl hNN hE hret hrec4 o l1 v9 l3 v5 r8 x11 H locs ls fo hw hW hS (lv_sub hl [3, 4, 0, 5, 2, 1] rfl)
    · have hw := hw.2 c13
      refine lv_iload_n hx hb d_Ans_hashOfRow_68 rfl (lv_at hl 0 rfl) ?_
      refine lv_iconst (v := 1) hx hb d_Ans_hashOfRow_69 (by decide) ?_
      refine lv_aload_n hx hb d_Ans_hashOfRow_70 rfl (lv_at hl 3 rfl) ?_
      obtain ⟨q14, hq14, hw⟩ := hw
      refine w_getr (q := q14) (k := 14) (t := 10) (C := R_Ans) (T := F_Ans) (N := 16) hx hb hT hown hK hW fo.1 fo.2 (by decide) in_Ans rfl rfl (by decide) rfl fr_Ans_14 w_3_176 d_Ans_hashOfRow_71 hq14 (fun aq14 bq14 => ?_)
      have fq14 : q14 < NN ∧ kcC q14 = 6 := ⟨aq14, bq14⟩
      refine w_getf (q := (stC q14 5)) (k := 5) (t := 6) (C := R_Vlt) (T := F_Vlt) (N := 20) hx hb hT hown hK hW fq14.1 fq14.2 (by decide) in_Vlt rfl rfl (by decide) rfl fr_Vlt_5 w_2_137 d_Ans_hashOfRow_74 rfl ?_
      refine w_getf (q := (stC (stC q14 5) 3)) (k := 3) (t := 3) (C := R_Sch) (T := F_Sch) (N := 13) hx hb hT hown hK hW (st_ty hNN fq14.1 fq14.2 rfl).1 (st_ty hNN fq14.1 fq14.2 rfl).2 (by decide) in_Sch rfl rfl (by decide) rfl fr_Sch_3 w_1_150 d_Ans_hashOfRow_77 rfl ?_
      refine lv_aload_n hx hb d_Ans_hashOfRow_80 rfl (lv_at hl 3 rfl) ?_
      obtain ⟨q15, hq15, hw⟩ := hw
      refine w_getr (q := q15) (k := 15) (t := 10) (C := R_Ans) (T := F_Ans) (N := 16) hx hb hT hown hK hW fo.1 fo.2 (by decide) in_Ans rfl rfl (by decide) rfl fr_Ans_15 w_3_177 d_Ans_hashOfRow_81 hq15 (fun aq15 bq15 => ?_)
      have fq15 : q15 < NN ∧ kcC q15 = 9 := ⟨aq15, bq15⟩
      refine w_getf (q := (stC q15 6)) (k := 6) (t := 9) (C := R_Qry) (T := F_Qry) (N := 20) hx hb hT hown hK hW fq15.1 fq15.2 (by decide) in_Qry rfl rfl (by decide) rfl fr_Qry_6 w_3_86 d_Ans_hashOfRow_84 rfl ?_
      refine lv_iload_n hx hb d_Ans_hashOfRow_87 rfl (lv_at hl 5 rfl) ?_
      obtain ⟨hi, hw⟩ := hw
      refine w_iald (o := (stC q15 6)) hx hb hK hW (st_ty hNN fq15.1 fq15.2 rfl).1 (st_ty hNN fq15.1 fq15.2 rfl).2 hi d_Ans_hashOfRow_88 ?_
      obtain ⟨hi, hw⟩ := hw
      refine w_iald (o := (stC (stC q14 5) 3)) hx hb hK hW (st_ty hNN (st_ty hNN fq14.1 fq14.2 rfl).1 (st_ty hNN fq14.1 fq14.2 rfl).2 rfl).1 (st_ty hNN (st_ty hNN fq14.1 fq14.2 rfl).1 (st_ty hNN fq14.1 fq14.2 rfl).2 rfl).2 hi d_Ans_hashOfRow_89 ?_
      refine lv_aload_n hx hb d_Ans_hashOfRow_90 rfl (lv_at hl 3 rfl) ?_
      obtain ⟨q16, hq16, hw⟩ := hw
      refine w_getr (q := q16) (k := 14) (t := 10) (C := R_Ans) (T := F_Ans) (N := 16) hx hb hT hown hK hW fo.1 fo.2 (by decide) in_Ans rfl rfl (by decide) rfl fr_Ans_14 w_3_176 d_Ans_hashOfRow_91 hq16 (fun aq16 bq16 => ?_)
      have fq16 : q16 < NN ∧ kcC q16 = 6 := ⟨aq16, bq16⟩
      refine w_getf (q := (stC q16 6)) (k := 6) (t := 6) (C := R_Vlt) (T := F_Vlt) (N := 20) hx hb hT hown hK hW fq16.1 fq16.2 (by decide) in_Vlt rfl rfl (by decide) rfl fr_Vlt_6 w_2_142 d_Ans_hashOfRow_94 rfl ?_
      refine lv_aload_n hx hb d_Ans_hashOfRow_97 rfl (lv_at hl 3 rfl) ?_
      obtain ⟨q17, hq17, hw⟩ := hw
      refine w_getr (q := q17) (k := 14) (t := 10) (C := R_Ans) (T := F_Ans) (N := 16) hx hb hT hown hK hW fo.1 fo.2 (by decide) in_Ans rfl rfl (by decide) rfl fr_Ans_14 w_3_176 d_Ans_hashOfRow_98 hq17 (fun aq17 bq17 => ?_)
      have fq17 : q17 < NN ∧ kcC q17 = 6 := ⟨aq17, bq17⟩
      refine w_getf (q := (stC q17 9)) (k := 9) (t := 6) (C := R_Vlt) (T := F_Vlt) (N := 20) hx hb hT hown hK hW fq17.1 fq17.2 (by decide) in_Vlt rfl rfl (by decide) rfl fr_Vlt_9 w_2_152 d_Ans_hashOfRow_101 rfl ?_
      refine lv_iload hx hb d_Ans_hashOfRow_104 (lv_at hl 1 rfl) ?_
      obtain ⟨hi, hw⟩ := hw
      refine w_lald (o := (stC q17 9)) hx hb hK hW (st_ty hNN fq17.1 fq17.2 rfl).1 (st_ty hNN fq17.1 fq17.2 rfl).2 hi d_Ans_hashOfRow_106 ?_
      have hF := hW.free hS hA
      refine va_calli (va_runSN (As := [.int (rA x11 (stC (stC q14 5) 3) (rA x11 (stC q15 6) l3)), .ref (ad (stC q16 6)), .long (rL x11 (stC q17 9) r8)]) (rest := [.int 1, .int v9]) ⟨hx, hb, hml, hown, hT⟩ (k_V_hashOf l dC dI cI cB cJ cZ ad NN E tM tC kK kV hNN H.size (rA x11 (stC (stC q14 5) 3) (rA x11 (stC q15 6) l3)) (stC q16 6) (rL x11 (stC q17 9) r8) x11 (st_ty hNN fq16.1 fq16.2 rfl) hw) ⟨va_cnB 3 hT (gwt_in w_5_221) rfl rfl rfl (hN _ wn_8_93 rfl) (hT _ w_1_1) (by decide +kernel) ⟨Nat.le_trans (Nat.le_of_ble_eq_true rfl) hRf, Nat.le_trans (Nat.le_of_ble_eq_true rfl) hRl⟩, hT _ w_5_220, trivial⟩ ⟨PVc.blind, PVc.at _ hW hK hN hE hS hF⟩ rfl rfl hl.1 rfl (lv_room (Nat.le_of_ble_eq_true rfl)) d_Ans_hashOfRow_107 ⟨hRc, hRs⟩) hS (fun q _ h => hF q h) hF (fun r19 x18 t H locs ht hvm hw hB hz1 hk1 hS => ?_)
      have hW := Wd.back hB ht hF
      clear hB ht hF hz1 hk1 hvm
      refine lv_iadd hx hb d_Ans_hashOfRow_110 ?_
      refine lv_iadd hx hb d_Ans_hashOfRow_111 ?_
      refine lv_topi (fun v20 ev20 => ?_)
      have hw := hw v20 ev20
      refine lv_istore_n (lv' := [(2, .int v20), (5, .int r8), (4, .int v5), (0, .ref (ad o)), (1, .int l1), (3, .int l3)]) hx hb d_Ans_hashOfRow_112 rfl hl (by decide) rfl (fun ls hl => ?_)
      exact t_Ans_hashOfRow_113 hx hb hml hown hT hK hN hA hRc hRs hRf hRl hNN hE hret hrec4 o l1 v20 l3 v5 r8 x18 H locs ls fo hw hW hS (lv_sub hl [3, 4, 0, 5, 2, 1] rfl)
set_option maxHeartbeats 4000000 in
set_option maxRecDepth 100000 in
theorem tl_Ans_hashOfRow_4 {p : Program} {l : Launch} {e : Env} {R : Room} {s : State} {m : MethodId} {args : Array Value} {below : List Frame} {meth : Method} {c : Code} {cells slots : Nat} {Q : State → Prop} {dC : Nat → ClassId} {dI : Nat → Nat → Nat} {cI cB cJ cZ : ClassId} {A : Nat → Prop} {ad : Nat → Nat} {NN : Nat} {E : Heap} {tM tC : Nat} {kK kV : Nat → Nat} {post : Int32 → St → Prop} (hx : p.tables.exec = Jvm.exec) (hb : c.code = b_Ans_hashOfRow) (hml : c.maxLocals = 6) (hown : s.vm.findClass R_Ans = some m.cls) (hT : ∀ w ∈ TG, w.before args s = true) (hK : va_K (dC, dI) CL (TY cI cB cJ cZ) s) (hN : NW s) (hA : ∀ q : Nat, s.heap.size ≤ q → A q) (hRc : cells ≤ R.cells) (hRs : slots ≤ R.slots) (hRf : 1 ≤ R.frames) (hRl : 27 ≤ R.locals) (hNN : 152 ≤ NN) (hE : CE E tM tC kK kV A s) (hret : ∀ (r : Int32) (x : St) (H : Heap) (locs : List Loc) (pc : Nat) (ls : Array Slot), decode b_Ans_hashOfRow pc = .ok (.ireturn, 1) → post r x → Wd dC dI cI cB cJ cZ ad stC kcC NN A x H → va_S A s.heap H locs → W p l e R s m args below meth c H locs cells slots Q (F0 m pc ls [.int r]))  : ∀ n : Nat, ∀ (o : Nat) (l1 : Int32) (l2 : Int32) (l3 : Int32) (x : St) (H : Heap) (locs : List Loc) (ls : Array Slot), (o < NN ∧ kcC o = 10) → wl_Ans_hashOfRow_4 post n o l1 l2 l3 x → Wd dC dI cI cB cJ cZ ad stC kcC NN A x H → va_S A s.heap H locs → lv_has ls 6 [(0, .ref (ad o)), (1, .int l1), (2, .int l2), (3, .int l3)] → W p l e R s m args below meth c H locs cells slots Q (F0 m 4 ls []) := by
  intro n
  induction n with
  | zero => intro o l1 l2 l3 x H locs ls fo hw; exact hw.elim
  | succ n ih => intro o l1 l2 l3 x H locs ls fo hw hW hS hl; exact t_Ans_hashOfRow_4 hx hb hml hown hT hK hN hA hRc hRs hRf hRl hNN hE hret  ih o l1 l2 l3 x H locs ls fo hw hW hS hl
set_option maxRecDepth 100000 in
set_option maxHeartbeats 4000000 in
set_option maxRecDepth 100000 in
theorem t_Ans_hashOfRow_e {p : Program} {l : Launch} {e : Env} {R : Room} {s : State} {m : MethodId} {args : Array Value} {below : List Frame} {meth : Method} {c : Code} {cells slots : Nat} {Q : State → Prop} {dC : Nat → ClassId} {dI : Nat → Nat → Nat} {cI cB cJ cZ : ClassId} {A : Nat → Prop} {ad : Nat → Nat} {NN : Nat} {E : Heap} {tM tC : Nat} {kK kV : Nat → Nat} {post : Int32 → St → Prop} (hx : p.tables.exec = Jvm.exec) (hb : c.code = b_Ans_hashOfRow) (hml : c.maxLocals = 6) (hown : s.vm.findClass R_Ans = some m.cls) (hT : ∀ w ∈ TG, w.before args s = true) (hK : va_K (dC, dI) CL (TY cI cB cJ cZ) s) (hN : NW s) (hA : ∀ q : Nat, s.heap.size ≤ q → A q) (hRc : cells ≤ R.cells) (hRs : slots ≤ R.slots) (hRf : 1 ≤ R.frames) (hRl : 27 ≤ R.locals) (hNN : 152 ≤ NN) (hE : CE E tM tC kK kV A s) (hret : ∀ (r : Int32) (x : St) (H : Heap) (locs : List Loc) (pc : Nat) (ls : Array Slot), decode b_Ans_hashOfRow pc = .ok (.ireturn, 1) → post r x → Wd dC dI cI cB cJ cZ ad stC kcC NN A x H → va_S A s.heap H locs → W p l e R s m args below meth c H locs cells slots Q (F0 m pc ls [.int r])) : ∀ (o : Nat) (l1 : Int32) (x : St) (H : Heap) (locs : List Loc) (ls : Array Slot), (o < NN ∧ kcC o = 10) → wp_Ans_hashOfRow post o l1 x → Wd dC dI cI cB cJ cZ ad stC kcC NN A x H → va_S A s.heap H locs → lv_has ls 6 [(0, .ref (ad o)), (1, .int l1)] → W p l e R s m args below meth c H locs cells slots Q (F0 m 0 ls []) := by
  intro o l1 x H locs ls fo hw hW hS hl
  unfold wp_Ans_hashOfRow at hw
  refine lv_iconst (v := 0) hx hb d_Ans_hashOfRow_0 (by decide) ?_
  refine lv_istore_n (lv' := [(2, .int 0), (0, .ref (ad o)), (1, .int l1)]) hx hb d_Ans_hashOfRow_1 rfl hl (by decide) rfl (fun ls hl => ?_)
  refine lv_iconst (v := 0) hx hb d_Ans_hashOfRow_2 (by decide) ?_
  refine lv_istore_n (lv' := [(3, .int 0), (2, .int 0), (0, .ref (ad o)), (1, .int l1)]) hx hb d_Ans_hashOfRow_3 rfl hl (by decide) rfl (fun ls hl => ?_)
  obtain ⟨n, hw⟩ := hw
  exact tl_Ans_hashOfRow_4 hx hb hml hown hT hK hN hA hRc hRs hRf hRl hNN hE hret  n o l1 0 0 x H locs ls fo hw hW hS (lv_sub hl [2, 3, 1, 0] rfl)
set_option maxHeartbeats 4000000 in
set_option maxRecDepth 100000 in
theorem k_Ans_hashOfRow (l : Launch) (dC : Nat → ClassId) (dI : Nat → Nat → Nat) (cI cB cJ cZ : ClassId) (ad : Nat → Nat) (NN : Nat) (E : Heap) (tM tC : Nat) (kK kV : Nat → Nat) (hNN : 152 ≤ NN) (sz : Nat) (o : Nat) (l1 : Int32) (x : St) (fo : o < NN ∧ kcC o = 10) {post : Int32 → St → Prop} (hw : wp_Ans_hashOfRow post o l1 x) : Met l y_Ans_hashOfRow (wsOf y_Ans_hashOfRow b_Ans_hashOfRow 6 (some (.int))) ({ frames := 1, cells := 0, slots := 0, locals := 27 }) (va_Pc [.ref (ad o), .int l1] (PVc dC dI cI cB cJ cZ ad stC kcC NN E tM tC kK kV sz x)) (va_Qi (fun (r : Int32) (y : St) => post r y) (fun y t => Wd dC dI cI cB cJ cZ ad stC kcC NN (va_A (pic ad stC kcC NN cI cB cJ cZ x) sz) y t.heap) (va_A (pic ad stC kcC NN cI cB cJ cZ x) sz)) 0 0 (va_A (pic ad stC kcC NN cI cB cJ cZ x) sz) := by
  refine Met.ofW (cc := b_Ans_hashOfRow) (maxL := 6) (ret := some (.int)) (by decide) rfl ?_
  intro p e s m args below meth c s₁ B hml hv
  obtain ⟨rfl, ⟨hsz, hW0, hK, hN⟩, hE⟩ := hv
  have hx := B.exec
  have hb := B.bytes
  have hr := B.returns
  have hts := atoms_spec B.pre
  have hT : ∀ w ∈ TG, w.before _ s = true := fun w h => hts w (List.mem_cons_of_mem _ h)
  have hown : s.vm.findClass R_Ans = some m.cls := findClass_of_methodNamed B.named
  have hlocks := B.notSynchronized
  subst hsz
  have hW : Wd dC dI cI cB cJ cZ ad stC kcC NN (va_A (pic ad stC kcC NN cI cB cJ cZ x) s.heap.size) x s.heap := ⟨hW0.1, hW0.2.1.self (sz := s.heap.size), hW0.2.2⟩
  generalize hAe : va_A (pic ad stC kcC NN cI cB cJ cZ x) s.heap.size = A at hW hE ⊢
  have hA : ∀ q : Nat, s.heap.size ≤ q → A q := fun q h => by rw [← hAe]; exact Or.inr h
  have hS : va_S A s.heap s.heap [] := va_S.rf
  have hl := lv_entry ([.ref (ad o), .int l1]) (n := 6) (Nat.le_of_ble_eq_true rfl)
  rw [lg_entry_eq]
  generalize (lg_sl ([.ref (ad o), .int l1]) ++ List.replicate (6 - (lg_sl ([.ref (ad o), .int l1])).length) Slot.unset).toArray = ls at hl ⊢
  have hl : lv_has ls 6 [(0, .ref (ad o)), (1, .int l1)] := hl
  exact t_Ans_hashOfRow_e hx hb hml hown hT hK hN hA (Nat.le_refl 0) (Nat.le_refl 0) (Nat.le_refl 1) (Nat.le_refl 27) hNN hE (fun r x H locs pc ls hd hp hW hS => W.iret (v := r) hx hb hr (fun t ht hM => ⟨⟨r, x, rfl, hp, Wd.back hW ht.symm (fun _ z => z)⟩, hS.F ht⟩) hS.2.2 hd hlocks)  o l1 x _ _ ls fo hw hW hS hl
set_option maxRecDepth 100000 in
set_option maxHeartbeats 4000000 in
set_option maxRecDepth 100000 in
theorem t_Ans_sameGroup_149 {p : Program} {l : Launch} {e : Env} {R : Room} {s : State} {m : MethodId} {args : Array Value} {below : List Frame} {meth : Method} {c : Code} {cells slots : Nat} {Q : State → Prop} {dC : Nat → ClassId} {dI : Nat → Nat → Nat} {cI cB cJ cZ : ClassId} {A : Nat → Prop} {ad : Nat → Nat} {NN : Nat} {E : Heap} {tM tC : Nat} {kK kV : Nat → Nat} {post : Int32 → St → Prop} {rec2 : Nat → Int32 → Int32 → Int32 → St → Prop} (hx : p.tables.exec = Jvm.exec) (hb : c.code = b_Ans_sameGroup) (hml : c.maxLocals = 9) (hown : s.vm.findClass R_Ans = some m.cls) (hT : ∀ w ∈ TG, w.before args s = true) (hK : va_K (dC, dI) CL (TY cI cB cJ cZ) s) (hN : NW s) (hA : ∀ q : Nat, s.heap.size ≤ q → A q) (hRc : cells ≤ R.cells) (hRs : slots ≤ R.slots) (hRf : 3 ≤ R.frames) (hRl : 137 ≤ R.locals) (hNN : 152 ≤ NN) (hE : CE E tM tC kK kV A s) (hret : ∀ (r : Int32) (x : St) (H : Heap) (locs : List Loc) (pc : Nat) (ls : Array Slot), decode b_Ans_sameGroup pc = .ok (.ireturn, 1) → narrow .boolean (.int r) = .int r → post r x → Wd dC dI cI cB cJ cZ ad stC kcC NN A x H → va_S A s.heap H locs → W p l e R s m args below meth c H locs cells slots Q (F0 m pc ls [.int r])) (hrec2 : ∀ (o : Nat) (l1 : Int32) (l2 : Int32) (l3 : Int32) (x : St) (H : Heap) (locs : List Loc) (ls : Array Slot), (o < NN ∧ kcC o = 10) → rec2 o l1 l2 l3 x → Wd dC dI cI cB cJ cZ ad stC kcC NN A x H → va_S A s.heap H locs → lv_has ls 9 [(0, .ref (ad o)), (1, .int l1), (2, .int l2), (3, .int l3)] → W p l e R s m args below meth c H locs cells slots Q (F0 m 2 ls [])) : ∀ (o : Nat) (l1 : Int32) (l2 : Int32) (l3 : Int32) (l4 : Int32) (l5 : Int32) (l6 : Int32) (l7 : Int32) (l8 : Int32) (x : St) (H : Heap) (locs : List Loc) (ls : Array Slot), (o < NN ∧ kcC o = 10) → j_Ans_sameGroup_149 post rec2 o l1 l2 l3 l4 l5 l6 l7 l8 x → Wd dC dI cI cB cJ cZ ad stC kcC NN A x H → va_S A s.heap H locs → lv_has ls 9 [(0, .ref (ad o)), (1, .int l1), (2, .int l2), (3, .int l3), (4, .int l4), (5, .int l5), (6, .int l6), (7, .int l7), (8, .int l8)] → W p l e R s m args below meth c H locs cells slots Q (F0 m 149 ls []) := by
  intro o l1 l2 l3 l4 l5 l6 l7 l8 x H locs ls fo hw hW hS hl
  unfold j_Ans_sameGroup_149 at hw
  refine lv_iinc (v := (l3 + 1)) (lv' := [(3, .int (l3 + 1)), (0, .ref (ad o)), (1, .int l1), (2, .int l2), (4, .int l4), (5, .int l5), (6, .int l6), (7, .int l7), (8, .int l8)]) hx hb d_Ans_sameGroup_149 hl (k := 3) rfl rfl (by decide) rfl (fun ls hl => ?_)
  refine lv_goto (tgt := 2) hx hb d_Ans_sameGroup_152 (by decide) ?_
  exact hrec2 o l1 l2 (l3 + 1) x H locs ls fo hw hW hS (lv_sub hl [1, 2, 3, 0] rfl)
set_option maxRecDepth 100000 in
set_option maxHeartbeats 4000000 in
set_option maxRecDepth 100000 in
theorem t_Ans_sameGroup_147 {p : Program} {l : Launch} {e : Env} {R : Room} {s : State} {m : MethodId} {args : Array Value} {below : List Frame} {meth : Method} {c : Code} {cells slots : Nat} {Q : State → Prop} {dC : Nat → ClassId} {dI : Nat → Nat → Nat} {cI cB cJ cZ : ClassId} {A : Nat → Prop} {ad : Nat → Nat} {NN : Nat} {E : Heap} {tM tC : Nat} {kK kV : Nat → Nat} {post : Int32 → St → Prop} (hx : p.tables.exec = Jvm.exec) (hb : c.code = b_Ans_sameGroup) (hml : c.maxLocals = 9) (hown : s.vm.findClass R_Ans = some m.cls) (hT : ∀ w ∈ TG, w.before args s = true) (hK : va_K (dC, dI) CL (TY cI cB cJ cZ) s) (hN : NW s) (hA : ∀ q : Nat, s.heap.size ≤ q → A q) (hRc : cells ≤ R.cells) (hRs : slots ≤ R.slots) (hRf : 3 ≤ R.frames) (hRl : 137 ≤ R.locals) (hNN : 152 ≤ NN) (hE : CE E tM tC kK kV A s) (hret : ∀ (r : Int32) (x : St) (H : Heap) (locs : List Loc) (pc : Nat) (ls : Array Slot), decode b_Ans_sameGroup pc = .ok (.ireturn, 1) → narrow .boolean (.int r) = .int r → post r x → Wd dC dI cI cB cJ cZ ad stC kcC NN A x H → va_S A s.heap H locs → W p l e R s m args below meth c H locs cells slots Q (F0 m pc ls [.int r]))  : ∀ (o : Nat) (l1 : Int32) (l2 : Int32) (l3 : Int32) (l4 : Int32) (l5 : Int32) (l6 : Int32) (l7 : Int32) (l8 : Int32) (x : St) (H : Heap) (locs : List Loc) (ls : Array Slot), (o < NN ∧ kcC o = 10) → j_Ans_sameGroup_147 post o l1 l2 l3 l4 l5 l6 l7 l8 x → Wd dC dI cI cB cJ cZ ad stC kcC NN A x H → va_S A s.heap H locs → lv_has ls 9 [(0, .ref (ad o)), (1, .int l1), (2, .int l2), (3, .int l3), (4, .int l4), (5, .int l5), (6, .int l6), (7, .int l7), (8, .int l8)] → W p l e R s m args below meth c H locs cells slots Q (F0 m 147 ls []) := by
  intro o l1 l2 l3 l4 l5 l6 l7 l8 x H locs ls fo hw hW hS hl
  unfold j_Ans_sameGroup_147 at hw
  refine lv_iconst (v := 0) hx hb d_Ans_sameGroup_147 (by decide) ?_
  exact hret 0 x H locs 148 ls d_Ans_sameGroup_148 rfl hw hW hS
set_option maxRecDepth 100000 in
set_option maxHeartbeats 4000000 in
set_option maxRecDepth 100000 in
theorem t_Ans_sameGroup_2 {p : Program} {l : Launch} {e : Env} {R : Room} {s : State} {m : MethodId} {args : Array Value} {below : List Frame} {meth : Method} {c : Code} {cells slots : Nat} {Q : State → Prop} {dC : Nat → ClassId} {dI : Nat → Nat → Nat} {cI cB cJ cZ : ClassId} {A : Nat → Prop} {ad : Nat → Nat} {NN : Nat} {E : Heap} {tM tC : Nat} {kK kV : Nat → Nat} {post : Int32 → St → Prop} {rec2 : Nat → Int32 → Int32 → Int32 → St → Prop} (hx : p.tables.exec = Jvm.exec) (hb : c.code = b_Ans_sameGroup) (hml : c.maxLocals = 9) (hown : s.vm.findClass R_Ans = some m.cls) (hT : ∀ w ∈ TG, w.before args s = true) (hK : va_K (dC, dI) CL (TY cI cB cJ cZ) s) (hN : NW s) (hA : ∀ q : Nat, s.heap.size ≤ q → A q) (hRc : cells ≤ R.cells) (hRs : slots ≤ R.slots) (hRf : 3 ≤ R.frames) (hRl : 137 ≤ R.locals) (hNN : 152 ≤ NN) (hE : CE E tM tC kK kV A s) (hret : ∀ (r : Int32) (x : St) (H : Heap) (locs : List Loc) (pc : Nat) (ls : Array Slot), decode b_Ans_sameGroup pc = .ok (.ireturn, 1) → narrow .boolean (.int r) = .int r → post r x → Wd dC dI cI cB cJ cZ ad stC kcC NN A x H → va_S A s.heap H locs → W p l e R s m args below meth c H locs cells slots Q (F0 m pc ls [.int r])) (hrec2 : ∀ (o : Nat) (l1 : Int32) (l2 : Int32) (l3 : Int32) (x : St) (H : Heap) (locs : List Loc) (ls : Array Slot), (o < NN ∧ kcC o = 10) → rec2 o l1 l2 l3 x → Wd dC dI cI cB cJ cZ ad stC kcC NN A x H → va_S A s.heap H locs → lv_has ls 9 [(0, .ref (ad o)), (1, .int l1), (2, .int l2), (3, .int l3)] → W p l e R s m args below meth c H locs cells slots Q (F0 m 2 ls [])) : ∀ (o : Nat) (l1 : Int32) (l2 : Int32) (l3 : Int32) (x : St) (H : Heap) (locs : List Loc) (ls : Array Slot), (o < NN ∧ kcC o = 10) → j_Ans_sameGroup_2 post rec2 o l1 l2 l3 x → Wd dC dI cI cB cJ cZ ad stC kcC NN A x H → va_S A s.heap H locs → lv_has ls 9 [(0, .ref (ad o)), (1, .int l1), (2, .int l2), (3, .int l3)] → W p l e R s m args below meth c H locs cells slots Q (F0 m 2 ls []) := by
  intro o l1 l2 l3 x H locs ls fo hw hW hS hl
  unfold j_Ans_sameGroup_2 at hw
  refine lv_iload_n hx hb d_Ans_sameGroup_2 rfl (lv_at hl 3 rfl) ?_
  refine lv_aload_n hx hb d_Ans_sameGroup_3 rfl (lv_at hl 0 rfl) ?_
  obtain ⟨q1, hq1, hw⟩ := hw
  refine w_getr (q := q1) (k := 15) (t := 10) (C := R_Ans) (T := F_Ans) (N := 16) hx hb hT hown hK hW fo.1 fo.2 (by decide) in_Ans rfl rfl (by decide) rfl fr_Ans_15 w_3_177 d_Ans_sameGroup_4 hq1 (fun aq1 bq1 => ?_)
  have fq1 : q1 < NN ∧ kcC q1 = 9 := ⟨aq1, bq1⟩
  refine w_geti (k := 5) (t := 9) (C := R_Qry) (T := F_Qry) (N := 20) hx hb hT hown hK hW fq1.1 fq1.2 (by decide) in_Qry rfl rfl (by decide) rfl fr_Qry_5 w_3_84 d_Ans_sameGroup_7 ?_
  refine lv_icmp_ge (tgt := 155) hx hb d_Ans_sameGroup_10 (by decide) (fun c2 => ?_) (fun c2 => ?_)
  · have hw := hw.1 c2
    refine lv_iconst (v := 1) hx hb d_Ans_sameGroup_155 (by decide) ?_
    exact hret 1 x H locs 156 ls d_Ans_sameGroup_156 rfl hw hW hS
  · have hw := hw.2 c2
    refine lv_aload_n hx hb d_Ans_sameGroup_13 rfl (lv_at hl 0 rfl) ?_
    obtain ⟨q3, hq3, hw⟩ := hw
    refine w_getr (q := q3) (k := 14) (t := 10) (C := R_Ans) (T := F_Ans) (N := 16) hx hb hT hown hK hW fo.1 fo.2 (by decide) in_Ans rfl rfl (by decide) rfl fr_Ans_14 w_3_176 d_Ans_sameGroup_14 hq3 (fun aq3 bq3 => ?_)
    have fq3 : q3 < NN ∧ kcC q3 = 6 := ⟨aq3, bq3⟩
    refine w_getf (q := (stC q3 5)) (k := 5) (t := 6) (C := R_Vlt) (T := F_Vlt) (N := 20) hx hb hT hown hK hW fq3.1 fq3.2 (by decide) in_Vlt rfl rfl (by decide) rfl fr_Vlt_5 w_2_137 d_Ans_sameGroup_17 rfl ?_
    refine w_getf (q := (stC (stC q3 5) 9)) (k := 9) (t := 3) (C := R_Sch) (T := F_Sch) (N := 13) hx hb hT hown hK hW (st_ty hNN fq3.1 fq3.2 rfl).1 (st_ty hNN fq3.1 fq3.2 rfl).2 (by decide) in_Sch rfl rfl (by decide) rfl fr_Sch_9 w_1_175 d_Ans_sameGroup_20 rfl ?_
    refine lv_aload_n hx hb d_Ans_sameGroup_23 rfl (lv_at hl 0 rfl) ?_
    obtain ⟨q4, hq4, hw⟩ := hw
    refine w_getr (q := q4) (k := 15) (t := 10) (C := R_Ans) (T := F_Ans) (N := 16) hx hb hT hown hK hW fo.1 fo.2 (by decide) in_Ans rfl rfl (by decide) rfl fr_Ans_15 w_3_177 d_Ans_sameGroup_24 hq4 (fun aq4 bq4 => ?_)
    have fq4 : q4 < NN ∧ kcC q4 = 9 := ⟨aq4, bq4⟩
    refine w_getf (q := (stC q4 6)) (k := 6) (t := 9) (C := R_Qry) (T := F_Qry) (N := 20) hx hb hT hown hK hW fq4.1 fq4.2 (by decide) in_Qry rfl rfl (by decide) rfl fr_Qry_6 w_3_86 d_Ans_sameGroup_27 rfl ?_
    refine lv_iload_n hx hb d_Ans_sameGroup_30 rfl (lv_at hl 3 rfl) ?_
    obtain ⟨hi, hw⟩ := hw
    refine w_iald (o := (stC q4 6)) hx hb hK hW (st_ty hNN fq4.1 fq4.2 rfl).1 (st_ty hNN fq4.1 fq4.2 rfl).2 hi d_Ans_sameGroup_31 ?_
    obtain ⟨hi, hw⟩ := hw
    refine w_iald (o := (stC (stC q3 5) 9)) hx hb hK hW (st_ty hNN (st_ty hNN fq3.1 fq3.2 rfl).1 (st_ty hNN fq3.1 fq3.2 rfl).2 rfl).1 (st_ty hNN (st_ty hNN fq3.1 fq3.2 rfl).1 (st_ty hNN fq3.1 fq3.2 rfl).2 rfl).2 hi d_Ans_sameGroup_32 ?_
    refine lv_topi (fun v5 ev5 => ?_)
    have hw := hw v5 ev5
    refine lv_istore (lv' := [(4, .int v5), (0, .ref (ad o)), (1, .int l1), (2, .int l2), (3, .int l3)]) hx hb d_Ans_sameGroup_33 hl (by decide) rfl (fun ls hl => ?_)
    refine lv_aload_n hx hb d_Ans_sameGroup_35 rfl (lv_at hl 1 rfl) ?_
    obtain ⟨q6, hq6, hw⟩ := hw
    refine w_getr (q := q6) (k := 14) (t := 10) (C := R_Ans) (T := F_Ans) (N := 16) hx hb hT hown hK hW fo.1 fo.2 (by decide) in_Ans rfl rfl (by decide) rfl fr_Ans_14 w_3_176 d_Ans_sameGroup_36 hq6 (fun aq6 bq6 => ?_)
    have fq6 : q6 < NN ∧ kcC q6 = 6 := ⟨aq6, bq6⟩
    refine w_getf (q := (stC q6 5)) (k := 5) (t := 6) (C := R_Vlt) (T := F_Vlt) (N := 20) hx hb hT hown hK hW fq6.1 fq6.2 (by decide) in_Vlt rfl rfl (by decide) rfl fr_Vlt_5 w_2_137 d_Ans_sameGroup_39 rfl ?_
    refine w_getf (q := (stC (stC q6 5) 3)) (k := 3) (t := 3) (C := R_Sch) (T := F_Sch) (N := 13) hx hb hT hown hK hW (st_ty hNN fq6.1 fq6.2 rfl).1 (st_ty hNN fq6.1 fq6.2 rfl).2 (by decide) in_Sch rfl rfl (by decide) rfl fr_Sch_3 w_1_150 d_Ans_sameGroup_42 rfl ?_
    refine lv_aload_n hx hb d_Ans_sameGroup_45 rfl (lv_at hl 1 rfl) ?_
    obtain ⟨q7, hq7, hw⟩ := hw
    refine w_getr (q := q7) (k := 15) (t := 10) (C := R_Ans) (T := F_Ans) (N := 16) hx hb hT hown hK hW fo.1 fo.2 (by decide) in_Ans rfl rfl (by decide) rfl fr_Ans_15 w_3_177 d_Ans_sameGroup_46 hq7 (fun aq7 bq7 => ?_)
    have fq7 : q7 < NN ∧ kcC q7 = 9 := ⟨aq7, bq7⟩
    refine w_getf (q := (stC q7 6)) (k := 6) (t := 9) (C := R_Qry) (T := F_Qry) (N := 20) hx hb hT hown hK hW fq7.1 fq7.2 (by decide) in_Qry rfl rfl (by decide) rfl fr_Qry_6 w_3_86 d_Ans_sameGroup_49 rfl ?_
    refine lv_iload_n hx hb d_Ans_sameGroup_52 rfl (lv_at hl 4 rfl) ?_
    obtain ⟨hi, hw⟩ := hw
    refine w_iald (o := (stC q7 6)) hx hb hK hW (st_ty hNN fq7.1 fq7.2 rfl).1 (st_ty hNN fq7.1 fq7.2 rfl).2 hi d_Ans_sameGroup_53 ?_
    obtain ⟨hi, hw⟩ := hw
    refine w_iald (o := (stC (stC q6 5) 3)) hx hb hK hW (st_ty hNN (st_ty hNN fq6.1 fq6.2 rfl).1 (st_ty hNN fq6.1 fq6.2 rfl).2 rfl).1 (st_ty hNN (st_ty hNN fq6.1 fq6.2 rfl).1 (st_ty hNN fq6.1 fq6.2 rfl).2 rfl).2 hi d_Ans_sameGroup_54 ?_
    refine lv_topi (fun v8 ev8 => ?_)
    have hw := hw v8 ev8
    refine lv_istore (lv' := [(5, .int v8), (4, .int v5), (0, .ref (ad o)), (1, .int l1), (2, .int l2), (3, .int l3)]) hx hb d_Ans_sameGroup_55 hl (by decide) rfl (fun ls hl => ?_)
    refine lv_aload_n hx hb d_Ans_sameGroup_57 rfl (lv_at hl 2 rfl) ?_
    obtain ⟨q9, hq9, hw⟩ := hw
    refine w_getr (q := q9) (k := 14) (t := 10) (C := R_Ans) (T := F_Ans) (N := 16) hx hb hT hown hK hW fo.1 fo.2 (by decide) in_Ans rfl rfl (by decide) rfl fr_Ans_14 w_3_176 d_Ans_sameGroup_58 hq9 (fun aq9 bq9 => ?_)
    have fq9 : q9 < NN ∧ kcC q9 = 6 := ⟨aq9, bq9⟩
    refine lv_iload_n hx hb d_Ans_sameGroup_61 rfl (lv_at hl 3 rfl) ?_
    refine lv_iload hx hb d_Ans_sameGroup_62 (lv_at hl 1 rfl) ?_
    have hF := hW.free hS hA
    refine va_calli (va_runV (C := R_Vlt) (As := [.int l1, .int v5]) (rest := []) ⟨hx, hb, hml, hown, hT⟩ (k_Vlt_entryOf l dC dI cI cB cJ cZ ad NN E tM tC kK kV hNN H.size q9 l1 v5 x fq9 hw) ⟨callB_of 2 hT (gwt_in w_7_85) rfl rfl rfl (hT _ w_1_9) (hT _ w_8_29) (by decide +kernel) ⟨Nat.le_trans (Nat.le_of_ble_eq_true rfl) hRf, Nat.le_trans (Nat.le_of_ble_eq_true rfl) hRl⟩, hT _ w_7_83, hT _ w_7_84⟩ ⟨PVc.blind, va_recv hK hW.1 (ci := 6) (q0 := q9) rfl (pic_obj fq9.1 fq9.2 (by decide)), PVc.at _ hW hK hN hE hS hF⟩ rfl rfl hl.1 rfl (lv_room (Nat.le_of_ble_eq_true rfl)) d_Ans_sameGroup_64 ⟨hRc, hRs⟩) hS (fun q _ h => hF q h) hF (fun r11 x10 t H locs ht hvm hw hB hz1 hk1 hS => ?_)
    have hW := Wd.back hB ht hF
    clear hB ht hF hz1 hk1 hvm
    refine lv_istore (lv' := [(6, .int r11), (5, .int v8), (4, .int v5), (0, .ref (ad o)), (1, .int l1), (2, .int l2), (3, .int l3)]) hx hb d_Ans_sameGroup_67 hl (by decide) rfl (fun ls hl => ?_)
    refine lv_aload_n hx hb d_Ans_sameGroup_69 rfl (lv_at hl 3 rfl) ?_
    obtain ⟨q12, hq12, hw⟩ := hw
    refine w_getr (q := q12) (k := 14) (t := 10) (C := R_Ans) (T := F_Ans) (N := 16) hx hb hT hown hK hW fo.1 fo.2 (by decide) in_Ans rfl rfl (by decide) rfl fr_Ans_14 w_3_176 d_Ans_sameGroup_70 hq12 (fun aq12 bq12 => ?_)
    have fq12 : q12 < NN ∧ kcC q12 = 6 := ⟨aq12, bq12⟩
    refine lv_iload_n hx hb d_Ans_sameGroup_73 rfl (lv_at hl 5 rfl) ?_
    refine lv_iload hx hb d_Ans_sameGroup_74 (lv_at hl 2 rfl) ?_
    have hF := hW.free hS hA
    refine va_calli (va_runV (C := R_Vlt) (As := [.int l2, .int v5]) (rest := []) ⟨hx, hb, hml, hown, hT⟩ (k_Vlt_entryOf l dC dI cI cB cJ cZ ad NN E tM tC kK kV hNN H.size q12 l2 v5 x10 fq12 hw) ⟨callB_of 2 hT (gwt_in w_7_85) rfl rfl rfl (hT _ w_1_9) (hT _ w_8_29) (by decide +kernel) ⟨Nat.le_trans (Nat.le_of_ble_eq_true rfl) hRf, Nat.le_trans (Nat.le_of_ble_eq_true rfl) hRl⟩, hT _ w_7_83, hT _ w_7_84⟩ ⟨PVc.blind, va_recv hK hW.1 (ci := 6) (q0 := q12) rfl (pic_obj fq12.1 fq12.2 (by decide)), PVc.at _ hW hK hN hE hS hF⟩ rfl rfl hl.1 rfl (lv_room (Nat.le_of_ble_eq_true rfl)) d_Ans_sameGroup_76 ⟨hRc, hRs⟩) hS (fun q _ h => hF q h) hF (fun r14 x13 t H locs ht hvm hw hB hz1 hk1 hS => ?_)
    have hW := Wd.back hB ht hF
    clear hB ht hF hz1 hk1 hvm
    refine lv_istore (lv' := [(7, .int r14), (6, .int r11), (5, .int v8), (4, .int v5), (0, .ref (ad o)), (1, .int l1), (2, .int l2), (3, .int l3)]) hx hb d_Ans_sameGroup_79 hl (by decide) rfl (fun ls hl => ?_)
    refine lv_aload_n hx hb d_Ans_sameGroup_81 rfl (lv_at hl 4 rfl) ?_
    obtain ⟨q15, hq15, hw⟩ := hw
    refine w_getr (q := q15) (k := 14) (t := 10) (C := R_Ans) (T := F_Ans) (N := 16) hx hb hT hown hK hW fo.1 fo.2 (by decide) in_Ans rfl rfl (by decide) rfl fr_Ans_14 w_3_176 d_Ans_sameGroup_82 hq15 (fun aq15 bq15 => ?_)
    have fq15 : q15 < NN ∧ kcC q15 = 6 := ⟨aq15, bq15⟩
    refine lv_iload hx hb d_Ans_sameGroup_85 (lv_at hl 1 rfl) ?_
    refine lv_iload hx hb d_Ans_sameGroup_87 (lv_at hl 3 rfl) ?_
    have hF := hW.free hS hA
    refine va_calli (va_runV (C := R_Vlt) (As := [.int r11, .int v5]) (rest := []) ⟨hx, hb, hml, hown, hT⟩ (k_Vlt_hasValue l dC dI cI cB cJ cZ ad NN E tM tC kK kV hNN H.size q15 r11 v5 x13 fq15 hw) ⟨callB_of 2 hT (gwt_in w_7_50) rfl rfl rfl (hT _ w_1_9) (hT _ w_8_30) (by decide +kernel) ⟨Nat.le_trans (Nat.le_of_ble_eq_true rfl) hRf, Nat.le_trans (Nat.le_of_ble_eq_true rfl) hRl⟩, hT _ w_7_48, hT _ w_7_49⟩ ⟨PVc.blind, va_recv hK hW.1 (ci := 6) (q0 := q15) rfl (pic_obj fq15.1 fq15.2 (by decide)), PVc.at _ hW hK hN hE hS hF⟩ rfl rfl hl.1 rfl (lv_room (Nat.le_of_ble_eq_true rfl)) d_Ans_sameGroup_89 ⟨hRc, hRs⟩) hS (fun q _ h => hF q h) hF (fun r17 x16 t H locs ht hvm hw hB hz1 hk1 hS => ?_)
    have hW := Wd.back hB ht hF
    clear hB ht hF hz1 hk1 hvm
    refine lv_istore (lv' := [(8, .int r17), (7, .int r14), (6, .int r11), (5, .int v8), (4, .int v5), (0, .ref (ad o)), (1, .int l1), (2, .int l2), (3, .int l3)]) hx hb d_Ans_sameGroup_92 hl (by decide) rfl (fun ls hl => ?_)
    refine lv_iload hx hb d_Ans_sameGroup_94 (lv_at hl 0 rfl) ?_
    refine lv_aload_n hx hb d_Ans_sameGroup_96 rfl (lv_at hl 5 rfl) ?_
    obtain ⟨q18, hq18, hw⟩ := hw
    refine w_getr (q := q18) (k := 14) (t := 10) (C := R_Ans) (T := F_Ans) (N := 16) hx hb hT hown hK hW fo.1 fo.2 (by decide) in_Ans rfl rfl (by decide) rfl fr_Ans_14 w_3_176 d_Ans_sameGroup_97 hq18 (fun aq18 bq18 => ?_)
    have fq18 : q18 < NN ∧ kcC q18 = 6 := ⟨aq18, bq18⟩
    refine lv_iload hx hb d_Ans_sameGroup_100 (lv_at hl 1 rfl) ?_
    refine lv_iload hx hb d_Ans_sameGroup_102 (lv_at hl 4 rfl) ?_
    have hF := hW.free hS hA
    refine va_calli (va_runV (C := R_Vlt) (As := [.int r14, .int v5]) (rest := [.int r17]) ⟨hx, hb, hml, hown, hT⟩ (k_Vlt_hasValue l dC dI cI cB cJ cZ ad NN E tM tC kK kV hNN H.size q18 r14 v5 x16 fq18 hw) ⟨callB_of 2 hT (gwt_in w_7_50) rfl rfl rfl (hT _ w_1_9) (hT _ w_8_30) (by decide +kernel) ⟨Nat.le_trans (Nat.le_of_ble_eq_true rfl) hRf, Nat.le_trans (Nat.le_of_ble_eq_true rfl) hRl⟩, hT _ w_7_48, hT _ w_7_49⟩ ⟨PVc.blind, va_recv hK hW.1 (ci := 6) (q0 := q18) rfl (pic_obj fq18.1 fq18.2 (by decide)), PVc.at _ hW hK hN hE hS hF⟩ rfl rfl hl.1 rfl (lv_room (Nat.le_of_ble_eq_true rfl)) d_Ans_sameGroup_104 ⟨hRc, hRs⟩) hS (fun q _ h => hF q h) hF (fun r20 x19 t H locs ht hvm hw hB hz1 hk1 hS => ?_)
    have hW := Wd.back hB ht hF
    clear hB ht hF hz1 hk1 hvm
    refine lv_icmp_ne (tgt := 147) hx hb d_Ans_sameGroup_107 (by decide) (fun c21 => ?_) (fun c21 => ?_)
    · have hw := hw.1 c21
      exact t_Ans_sameGroup_147 hx hb hml hown hT hK hN hA hRc hRs hRf hRl hNN hE hret  o l1 l2 l3 v5 v8 r11 r14 r17 x19 H locs ls fo hw hW hS (lv_sub hl [5, 6, 7, 8, 4, 3, 2, 1, 0] rfl)
    · have hw := hw.2 c21
      refine lv_iload hx hb d_Ans_sameGroup_110 (lv_at hl 0 rfl) ?_
      refine lv_if_eq (tgt := 149) hx hb d_Ans_sameGroup_112 (by decide) (fun c22 => ?_) (fun c22 => ?_)
      · have hw := hw.1 c22
        exact t_Ans_sameGroup_149 hx hb hml hown hT hK hN hA hRc hRs hRf hRl hNN hE hret hrec2 o l1 l2 l3 v5 v8 r11 r14 r17 x19 H locs ls fo hw hW hS (lv_sub hl [5, 6, 7, 8, 4, 3, 2, 1, 0] rfl)
      · have hw := hw.2 c22
        refine lv_aload_n hx hb d_Ans_sameGroup_115 rfl (lv_at hl 5 rfl) ?_
        obtain ⟨q23, hq23, hw⟩ := hw
        refine w_getr (q := q23) (k := 14) (t := 10) (C := R_Ans) (T := F_Ans) (N := 16) hx hb hT hown hK hW fo.1 fo.2 (by decide) in_Ans rfl rfl (by decide) rfl fr_Ans_14 w_3_176 d_Ans_sameGroup_116 hq23 (fun aq23 bq23 => ?_)
        have fq23 : q23 < NN ∧ kcC q23 = 6 := ⟨aq23, bq23⟩
        refine lv_iload hx hb d_Ans_sameGroup_119 (lv_at hl 3 rfl) ?_
        refine lv_aload_n hx hb d_Ans_sameGroup_121 rfl (lv_at hl 5 rfl) ?_
        obtain ⟨q24, hq24, hw⟩ := hw
        refine w_getr (q := q24) (k := 14) (t := 10) (C := R_Ans) (T := F_Ans) (N := 16) hx hb hT hown hK hW fo.1 fo.2 (by decide) in_Ans rfl rfl (by decide) rfl fr_Ans_14 w_3_176 d_Ans_sameGroup_122 hq24 (fun aq24 bq24 => ?_)
        have fq24 : q24 < NN ∧ kcC q24 = 6 := ⟨aq24, bq24⟩
        refine w_getf (q := (stC q24 9)) (k := 9) (t := 6) (C := R_Vlt) (T := F_Vlt) (N := 20) hx hb hT hown hK hW fq24.1 fq24.2 (by decide) in_Vlt rfl rfl (by decide) rfl fr_Vlt_9 w_2_152 d_Ans_sameGroup_125 rfl ?_
        refine lv_iload hx hb d_Ans_sameGroup_128 (lv_at hl 2 rfl) ?_
        obtain ⟨hi, hw⟩ := hw
        refine w_lald (o := (stC q24 9)) hx hb hK hW (st_ty hNN fq24.1 fq24.2 rfl).1 (st_ty hNN fq24.1 fq24.2 rfl).2 hi d_Ans_sameGroup_130 ?_
        refine lv_aload_n hx hb d_Ans_sameGroup_131 rfl (lv_at hl 5 rfl) ?_
        obtain ⟨q25, hq25, hw⟩ := hw
        refine w_getr (q := q25) (k := 14) (t := 10) (C := R_Ans) (T := F_Ans) (N := 16) hx hb hT hown hK hW fo.1 fo.2 (by decide) in_Ans rfl rfl (by decide) rfl fr_Ans_14 w_3_176 d_Ans_sameGroup_132 hq25 (fun aq25 bq25 => ?_)
        have fq25 : q25 < NN ∧ kcC q25 = 6 := ⟨aq25, bq25⟩
        refine w_getf (q := (stC q25 9)) (k := 9) (t := 6) (C := R_Vlt) (T := F_Vlt) (N := 20) hx hb hT hown hK hW fq25.1 fq25.2 (by decide) in_Vlt rfl rfl (by decide) rfl fr_Vlt_9 w_2_152 d_Ans_sameGroup_135 rfl ?_
        refine lv_iload hx hb d_Ans_sameGroup_138 (lv_at hl 1 rfl) ?_
        obtain ⟨hi, hw⟩ := hw
        refine w_lald (o := (stC q25 9)) hx hb hK hW (st_ty hNN fq25.1 fq25.2 rfl).1 (st_ty hNN fq25.1 fq25.2 rfl).2 hi d_Ans_sameGroup_140 ?_
        have hF := hW.free hS hA
        refine va_calli (va_runV (C := R_Vlt) (As := [.int v8, .long (rL x19 (stC q24 9) r11), .long (rL x19 (stC q25 9) r14)]) (rest := []) ⟨hx, hb, hml, hown, hT⟩ (k_Vlt_compare l dC dI cI cB cJ cZ ad NN E tM tC kK kV hNN H.size q23 v8 (rL x19 (stC q24 9) r11) (rL x19 (stC q25 9) r14) x19 fq23 hw) ⟨callB_of 3 hT (gwt_in w_7_32) rfl rfl rfl (hT _ w_1_9) (hT _ w_8_66) (by decide +kernel) ⟨Nat.le_trans (Nat.le_of_ble_eq_true rfl) hRf, Nat.le_trans (Nat.le_of_ble_eq_true rfl) hRl⟩, hT _ w_7_30, hT _ w_7_31⟩ ⟨PVc.blind, va_recv hK hW.1 (ci := 6) (q0 := q23) rfl (pic_obj fq23.1 fq23.2 (by decide)), PVc.at _ hW hK hN hE hS hF⟩ rfl rfl hl.1 rfl (lv_room (Nat.le_of_ble_eq_true rfl)) d_Ans_sameGroup_141 ⟨hRc, hRs⟩) hS (fun q _ h => hF q h) hF (fun r27 x26 t H locs ht hvm hw hB hz1 hk1 hS => ?_)
        have hW := Wd.back hB ht hF
        clear hB ht hF hz1 hk1 hvm
        refine lv_if_eq (tgt := 149) hx hb d_Ans_sameGroup_144 (by decide) (fun c28 => ?_) (fun c28 => ?_)
        · have hw := hw.1 c28
          exact t_Ans_sameGroup_149 hx hb hml hown hT hK hN hA hRc hRs hRf hRl hNN hE hret hrec2 o l1 l2 l3 v5 v8 r11 r14 r17 x26 H locs ls fo hw hW hS (lv_sub hl [5, 6, 7, 8, 4, 3, 2, 1, 0] rfl)
        · have hw := hw.2 c28
          exact t_Ans_sameGroup_147 hx hb hml hown hT hK hN hA hRc hRs hRf hRl hNN hE hret  o l1 l2 l3 v5 v8 r11 r14 r17 x26 H locs ls fo hw hW hS (lv_sub hl [5, 6, 7, 8, 4, 3, 2, 1, 0] rfl)
set_option maxHeartbeats 4000000 in
set_option maxRecDepth 100000 in
theorem tl_Ans_sameGroup_2 {p : Program} {l : Launch} {e : Env} {R : Room} {s : State} {m : MethodId} {args : Array Value} {below : List Frame} {meth : Method} {c : Code} {cells slots : Nat} {Q : State → Prop} {dC : Nat → ClassId} {dI : Nat → Nat → Nat} {cI cB cJ cZ : ClassId} {A : Nat → Prop} {ad : Nat → Nat} {NN : Nat} {E : Heap} {tM tC : Nat} {kK kV : Nat → Nat} {post : Int32 → St → Prop} (hx : p.tables.exec = Jvm.exec) (hb : c.code = b_Ans_sameGroup) (hml : c.maxLocals = 9) (hown : s.vm.findClass R_Ans = some m.cls) (hT : ∀ w ∈ TG, w.before args s = true) (hK : va_K (dC, dI) CL (TY cI cB cJ cZ) s) (hN : NW s) (hA : ∀ q : Nat, s.heap.size ≤ q → A q) (hRc : cells ≤ R.cells) (hRs : slots ≤ R.slots) (hRf : 3 ≤ R.frames) (hRl : 137 ≤ R.locals) (hNN : 152 ≤ NN) (hE : CE E tM tC kK kV A s) (hret : ∀ (r : Int32) (x : St) (H : Heap) (locs : List Loc) (pc : Nat) (ls : Array Slot), decode b_Ans_sameGroup pc = .ok (.ireturn, 1) → narrow .boolean (.int r) = .int r → post r x → Wd dC dI cI cB cJ cZ ad stC kcC NN A x H → va_S A s.heap H locs → W p l e R s m args below meth c H locs cells slots Q (F0 m pc ls [.int r]))  : ∀ n : Nat, ∀ (o : Nat) (l1 : Int32) (l2 : Int32) (l3 : Int32) (x : St) (H : Heap) (locs : List Loc) (ls : Array Slot), (o < NN ∧ kcC o = 10) → wl_Ans_sameGroup_2 post n o l1 l2 l3 x → Wd dC dI cI cB cJ cZ ad stC kcC NN A x H → va_S A s.heap H locs → lv_has ls 9 [(0, .ref (ad o)), (1, .int l1), (2, .int l2), (3, .int l3)] → W p l e R s m args below meth c H locs cells slots Q (F0 m 2 ls []) := by
  intro n
  induction n with
  | zero => intro o l1 l2 l3 x H locs ls fo hw; exact hw.elim
  | succ n ih => intro o l1 l2 l3 x H locs ls fo hw hW hS hl; exact t_Ans_sameGroup_2 hx hb hml hown hT hK hN hA hRc hRs hRf hRl hNN hE hret  ih o l1 l2 l3 x H locs ls fo hw hW hS hl
set_option maxRecDepth 100000 in
set_option maxHeartbeats 4000000 in
set_option maxRecDepth 100000 in
theorem t_Ans_sameGroup_e {p : Program} {l : Launch} {e : Env} {R : Room} {s : State} {m : MethodId} {args : Array Value} {below : List Frame} {meth : Method} {c : Code} {cells slots : Nat} {Q : State → Prop} {dC : Nat → ClassId} {dI : Nat → Nat → Nat} {cI cB cJ cZ : ClassId} {A : Nat → Prop} {ad : Nat → Nat} {NN : Nat} {E : Heap} {tM tC : Nat} {kK kV : Nat → Nat} {post : Int32 → St → Prop} (hx : p.tables.exec = Jvm.exec) (hb : c.code = b_Ans_sameGroup) (hml : c.maxLocals = 9) (hown : s.vm.findClass R_Ans = some m.cls) (hT : ∀ w ∈ TG, w.before args s = true) (hK : va_K (dC, dI) CL (TY cI cB cJ cZ) s) (hN : NW s) (hA : ∀ q : Nat, s.heap.size ≤ q → A q) (hRc : cells ≤ R.cells) (hRs : slots ≤ R.slots) (hRf : 3 ≤ R.frames) (hRl : 137 ≤ R.locals) (hNN : 152 ≤ NN) (hE : CE E tM tC kK kV A s) (hret : ∀ (r : Int32) (x : St) (H : Heap) (locs : List Loc) (pc : Nat) (ls : Array Slot), decode b_Ans_sameGroup pc = .ok (.ireturn, 1) → narrow .boolean (.int r) = .int r → post r x → Wd dC dI cI cB cJ cZ ad stC kcC NN A x H → va_S A s.heap H locs → W p l e R s m args below meth c H locs cells slots Q (F0 m pc ls [.int r])) : ∀ (o : Nat) (l1 : Int32) (l2 : Int32) (x : St) (H : Heap) (locs : List Loc) (ls : Array Slot), (o < NN ∧ kcC o = 10) → wp_Ans_sameGroup post o l1 l2 x → Wd dC dI cI cB cJ cZ ad stC kcC NN A x H → va_S A s.heap H locs → lv_has ls 9 [(0, .ref (ad o)), (1, .int l1), (2, .int l2)] → W p l e R s m args below meth c H locs cells slots Q (F0 m 0 ls []) := by
  intro o l1 l2 x H locs ls fo hw hW hS hl
  unfold wp_Ans_sameGroup at hw
  refine lv_iconst (v := 0) hx hb d_Ans_sameGroup_0 (by decide) ?_
  refine lv_istore_n (lv' := [(3, .int 0), (0, .ref (ad o)), (1, .int l1), (2, .int l2)]) hx hb d_Ans_sameGroup_1 rfl hl (by decide) rfl (fun ls hl => ?_)
  obtain ⟨n, hw⟩ := hw
  exact tl_Ans_sameGroup_2 hx hb hml hown hT hK hN hA hRc hRs hRf hRl hNN hE hret  n o l1 l2 0 x H locs ls fo hw hW hS (lv_sub hl [1, 2, 3, 0] rfl)
set_option maxHeartbeats 4000000 in
set_option maxRecDepth 100000 in
theorem k_Ans_sameGroup (l : Launch) (dC : Nat → ClassId) (dI : Nat → Nat → Nat) (cI cB cJ cZ : ClassId) (ad : Nat → Nat) (NN : Nat) (E : Heap) (tM tC : Nat) (kK kV : Nat → Nat) (hNN : 152 ≤ NN) (sz : Nat) (o : Nat) (l1 : Int32) (l2 : Int32) (x : St) (fo : o < NN ∧ kcC o = 10) {post : Int32 → St → Prop} (hw : wp_Ans_sameGroup post o l1 l2 x) : Met l y_Ans_sameGroup (wsOf y_Ans_sameGroup b_Ans_sameGroup 9 (some (.boolean))) ({ frames := 3, cells := 0, slots := 0, locals := 137 }) (va_Pc [.ref (ad o), .int l1, .int l2] (PVc dC dI cI cB cJ cZ ad stC kcC NN E tM tC kK kV sz x)) (va_Qi (fun (r : Int32) (y : St) => post r y) (fun y t => Wd dC dI cI cB cJ cZ ad stC kcC NN (va_A (pic ad stC kcC NN cI cB cJ cZ x) sz) y t.heap) (va_A (pic ad stC kcC NN cI cB cJ cZ x) sz)) 0 0 (va_A (pic ad stC kcC NN cI cB cJ cZ x) sz) := by
  refine Met.ofW (cc := b_Ans_sameGroup) (maxL := 9) (ret := some (.boolean)) (by decide) rfl ?_
  intro p e s m args below meth c s₁ B hml hv
  obtain ⟨rfl, ⟨hsz, hW0, hK, hN⟩, hE⟩ := hv
  have hx := B.exec
  have hb := B.bytes
  have hr := B.returns
  have hts := atoms_spec B.pre
  have hT : ∀ w ∈ TG, w.before _ s = true := fun w h => hts w (List.mem_cons_of_mem _ h)
  have hown : s.vm.findClass R_Ans = some m.cls := findClass_of_methodNamed B.named
  have hlocks := B.notSynchronized
  subst hsz
  have hW : Wd dC dI cI cB cJ cZ ad stC kcC NN (va_A (pic ad stC kcC NN cI cB cJ cZ x) s.heap.size) x s.heap := ⟨hW0.1, hW0.2.1.self (sz := s.heap.size), hW0.2.2⟩
  generalize hAe : va_A (pic ad stC kcC NN cI cB cJ cZ x) s.heap.size = A at hW hE ⊢
  have hA : ∀ q : Nat, s.heap.size ≤ q → A q := fun q h => by rw [← hAe]; exact Or.inr h
  have hS : va_S A s.heap s.heap [] := va_S.rf
  have hl := lv_entry ([.ref (ad o), .int l1, .int l2]) (n := 9) (Nat.le_of_ble_eq_true rfl)
  rw [lg_entry_eq]
  generalize (lg_sl ([.ref (ad o), .int l1, .int l2]) ++ List.replicate (9 - (lg_sl ([.ref (ad o), .int l1, .int l2])).length) Slot.unset).toArray = ls at hl ⊢
  have hl : lv_has ls 9 [(0, .ref (ad o)), (1, .int l1), (2, .int l2)] := hl
  exact t_Ans_sameGroup_e hx hb hml hown hT hK hN hA (Nat.le_refl 0) (Nat.le_refl 0) (Nat.le_refl 3) (Nat.le_refl 137) hNN hE (fun r x H locs pc ls hd hz hp hW hS => W.zret (v := r) (ty := .boolean) hx hb hr hz (fun t ht hM => ⟨⟨r, x, rfl, hp, Wd.back hW ht.symm (fun _ z => z)⟩, hS.F ht⟩) hS.2.2 hd hlocks)  o l1 l2 x _ _ ls fo hw hW hS hl
set_option maxRecDepth 100000 in
set_option maxHeartbeats 4000000 in
set_option maxRecDepth 100000 in
theorem t_Ans_groupOf_84 {p : Program} {l : Launch} {e : Env} {R : Room} {s : State} {m : MethodId} {args : Array Value} {below : List Frame} {meth : Method} {c : Code} {cells slots : Nat} {Q : State → Prop} {dC : Nat → ClassId} {dI : Nat → Nat → Nat} {cI cB cJ cZ : ClassId} {A : Nat → Prop} {ad : Nat → Nat} {NN : Nat} {E : Heap} {tM tC : Nat} {kK kV : Nat → Nat} {post : Int32 → St → Prop} (hx : p.tables.exec = Jvm.exec) (hb : c.code = b_Ans_groupOf) (hml : c.maxLocals = 4) (hown : s.vm.findClass R_Ans = some m.cls) (hT : ∀ w ∈ TG, w.before args s = true) (hK : va_K (dC, dI) CL (TY cI cB cJ cZ) s) (hN : NW s) (hA : ∀ q : Nat, s.heap.size ≤ q → A q) (hRc : cells ≤ R.cells) (hRs : slots ≤ R.slots) (hRf : 4 ≤ R.frames) (hRl : 165 ≤ R.locals) (hNN : 152 ≤ NN) (hE : CE E tM tC kK kV A s) (hret : ∀ (r : Int32) (x : St) (H : Heap) (locs : List Loc) (pc : Nat) (ls : Array Slot), decode b_Ans_groupOf pc = .ok (.ireturn, 1) → post r x → Wd dC dI cI cB cJ cZ ad stC kcC NN A x H → va_S A s.heap H locs → W p l e R s m args below meth c H locs cells slots Q (F0 m pc ls [.int r]))  : ∀ (o : Nat) (l1 : Int32) (l2 : Int32) (l3 : Int32) (x : St) (H : Heap) (locs : List Loc) (ls : Array Slot), (o < NN ∧ kcC o = 10) → j_Ans_groupOf_84 post o l1 l2 l3 x → Wd dC dI cI cB cJ cZ ad stC kcC NN A x H → va_S A s.heap H locs → lv_has ls 4 [(0, .ref (ad o)), (1, .int l1), (2, .int l2), (3, .int l3)] → W p l e R s m args below meth c H locs cells slots Q (F0 m 84 ls []) := by
  intro o l1 l2 l3 x H locs ls fo hw hW hS hl
  unfold j_Ans_groupOf_84 at hw
  refine lv_aload_n hx hb d_Ans_groupOf_84 rfl (lv_at hl 0 rfl) ?_
  refine w_geti (k := 1) (t := 10) (C := R_Ans) (T := F_Ans) (N := 16) hx hb hT hown hK hW fo.1 fo.2 (by decide) in_Ans rfl rfl (by decide) rfl fr_Ans_1 w_3_157 d_Ans_groupOf_85 ?_
  refine lv_sipush (v := 500) hx hb d_Ans_groupOf_88 (by decide) ?_
  refine lv_icmp_lt (tgt := 96) hx hb d_Ans_groupOf_91 (by decide) (fun c1 => ?_) (fun c1 => ?_)
  · have hw := hw.1 c1
    refine lv_aload_n hx hb d_Ans_groupOf_96 rfl (lv_at hl 0 rfl) ?_
    refine lv_iload_n hx hb d_Ans_groupOf_97 rfl (lv_at hl 1 rfl) ?_
    have hF := hW.free hS hA
    refine va_callv (va_runV (C := R_Ans) (As := [.int l1]) (rest := []) ⟨hx, hb, hml, hown, hT⟩ (k_Ans_addGroup l dC dI cI cB cJ cZ ad NN E tM tC kK kV hNN H.size o l1 x fo hw) ⟨callB_of 1 hT (gwt_in w_8_24) rfl rfl rfl (hT _ w_1_13) (hT _ w_8_21) (by decide +kernel) ⟨Nat.le_trans (Nat.le_of_ble_eq_true rfl) hRf, Nat.le_trans (Nat.le_of_ble_eq_true rfl) hRl⟩, hT _ w_8_23, hT _ ws_86⟩ ⟨PVc.blind, va_recv hK hW.1 (ci := 10) (q0 := o) rfl (pic_obj fo.1 fo.2 (by decide)), PVc.at _ hW hK hN hE hS hF⟩ rfl rfl hl.1 rfl (lv_room (Nat.le_of_ble_eq_true rfl)) d_Ans_groupOf_98 ⟨hRc, hRs⟩) hS (fun q _ h => hF q h) hF (fun  x2 t H locs ht hvm hw hB hz1 hk1 hS => ?_)
    have hW := Wd.back hB ht hF
    clear hB ht hF hz1 hk1 hvm
    refine lv_aload_n hx hb d_Ans_groupOf_101 rfl (lv_at hl 0 rfl) ?_
    refine w_getf (q := (stC o 10)) (k := 10) (t := 10) (C := R_Ans) (T := F_Ans) (N := 16) hx hb hT hown hK hW fo.1 fo.2 (by decide) in_Ans rfl rfl (by decide) rfl fr_Ans_10 w_3_172 d_Ans_groupOf_102 rfl ?_
    refine lv_iload_n hx hb d_Ans_groupOf_105 rfl (lv_at hl 2 rfl) ?_
    refine lv_aload_n hx hb d_Ans_groupOf_106 rfl (lv_at hl 0 rfl) ?_
    refine w_geti (k := 1) (t := 10) (C := R_Ans) (T := F_Ans) (N := 16) hx hb hT hown hK hW fo.1 fo.2 (by decide) in_Ans rfl rfl (by decide) rfl fr_Ans_1 w_3_157 d_Ans_groupOf_107 ?_
    obtain ⟨hi, hw⟩ := hw
    refine w_iast (o := (stC o 10)) hx hb hK hW hS (st_ty hNN fo.1 fo.2 rfl).1 (st_ty hNN fo.1 fo.2 rfl).2 hi d_Ans_groupOf_110 (fun H locs hW hS => ?_)
    obtain ⟨x3, ex3⟩ : ∃ y : St, y = setA x2 (stC o 10) l2 (fI x2 o 1) := ⟨_, rfl⟩
    rw [← ex3] at hW
    have hw := hw x3 ex3
    refine lv_aload_n hx hb d_Ans_groupOf_111 rfl (lv_at hl 0 rfl) ?_
    refine w_geti (k := 1) (t := 10) (C := R_Ans) (T := F_Ans) (N := 16) hx hb hT hown hK hW fo.1 fo.2 (by decide) in_Ans rfl rfl (by decide) rfl fr_Ans_1 w_3_157 d_Ans_groupOf_112 ?_
    refine lv_iconst (v := 1) hx hb d_Ans_groupOf_115 (by decide) ?_
    refine lv_isub hx hb d_Ans_groupOf_116 ?_
    exact hret ((fI x3 o 1) - 1) x3 H locs 117 ls d_Ans_groupOf_117 hw hW hS
  · have hw := hw.2 c1
    refine lv_iconst (v := (-1)) hx hb d_Ans_groupOf_94 (by decide) ?_
    exact hret (-1) x H locs 95 ls d_Ans_groupOf_95 hw hW hS
set_option maxRecDepth 100000 in
set_option maxHeartbeats 4000000 in
set_option maxRecDepth 100000 in
theorem t_Ans_groupOf_24 {p : Program} {l : Launch} {e : Env} {R : Room} {s : State} {m : MethodId} {args : Array Value} {below : List Frame} {meth : Method} {c : Code} {cells slots : Nat} {Q : State → Prop} {dC : Nat → ClassId} {dI : Nat → Nat → Nat} {cI cB cJ cZ : ClassId} {A : Nat → Prop} {ad : Nat → Nat} {NN : Nat} {E : Heap} {tM tC : Nat} {kK kV : Nat → Nat} {post : Int32 → St → Prop} {rec24 : Nat → Int32 → Int32 → Int32 → St → Prop} (hx : p.tables.exec = Jvm.exec) (hb : c.code = b_Ans_groupOf) (hml : c.maxLocals = 4) (hown : s.vm.findClass R_Ans = some m.cls) (hT : ∀ w ∈ TG, w.before args s = true) (hK : va_K (dC, dI) CL (TY cI cB cJ cZ) s) (hN : NW s) (hA : ∀ q : Nat, s.heap.size ≤ q → A q) (hRc : cells ≤ R.cells) (hRs : slots ≤ R.slots) (hRf : 4 ≤ R.frames) (hRl : 165 ≤ R.locals) (hNN : 152 ≤ NN) (hE : CE E tM tC kK kV A s) (hret : ∀ (r : Int32) (x : St) (H : Heap) (locs : List Loc) (pc : Nat) (ls : Array Slot), decode b_Ans_groupOf pc = .ok (.ireturn, 1) → post r x → Wd dC dI cI cB cJ cZ ad stC kcC NN A x H → va_S A s.heap H locs → W p l e R s m args below meth c H locs cells slots Q (F0 m pc ls [.int r])) (hrec24 : ∀ (o : Nat) (l1 : Int32) (l2 : Int32) (l3 : Int32) (x : St) (H : Heap) (locs : List Loc) (ls : Array Slot), (o < NN ∧ kcC o = 10) → rec24 o l1 l2 l3 x → Wd dC dI cI cB cJ cZ ad stC kcC NN A x H → va_S A s.heap H locs → lv_has ls 4 [(0, .ref (ad o)), (1, .int l1), (2, .int l2), (3, .int l3)] → W p l e R s m args below meth c H locs cells slots Q (F0 m 24 ls [])) : ∀ (o : Nat) (l1 : Int32) (l2 : Int32) (l3 : Int32) (x : St) (H : Heap) (locs : List Loc) (ls : Array Slot), (o < NN ∧ kcC o = 10) → j_Ans_groupOf_24 post rec24 o l1 l2 l3 x → Wd dC dI cI cB cJ cZ ad stC kcC NN A x H → va_S A s.heap H locs → lv_has ls 4 [(0, .ref (ad o)), (1, .int l1), (2, .int l2), (3, .int l3)] → W p l e R s m args below meth c H locs cells slots Q (F0 m 24 ls []) := by
  intro o l1 l2 l3 x H locs ls fo hw hW hS hl
  unfold j_Ans_groupOf_24 at hw
  refine lv_iload_n hx hb d_Ans_groupOf_24 rfl (lv_at hl 3 rfl) ?_
  refine lv_sipush (v := 1024) hx hb d_Ans_groupOf_25 (by decide) ?_
  refine lv_icmp_ge (tgt := 84) hx hb d_Ans_groupOf_28 (by decide) (fun c4 => ?_) (fun c4 => ?_)
  · have hw := hw.1 c4
    exact t_Ans_groupOf_84 hx hb hml hown hT hK hN hA hRc hRs hRf hRl hNN hE hret  o l1 l2 l3 x H locs ls fo hw hW hS (lv_sub hl [0, 1, 2, 3] rfl)
  · have hw := hw.2 c4
    refine lv_aload_n hx hb d_Ans_groupOf_31 rfl (lv_at hl 0 rfl) ?_
    refine w_getf (q := (stC o 10)) (k := 10) (t := 10) (C := R_Ans) (T := F_Ans) (N := 16) hx hb hT hown hK hW fo.1 fo.2 (by decide) in_Ans rfl rfl (by decide) rfl fr_Ans_10 w_3_172 d_Ans_groupOf_32 rfl ?_
    refine lv_iload_n hx hb d_Ans_groupOf_35 rfl (lv_at hl 2 rfl) ?_
    obtain ⟨hi, hw⟩ := hw
    refine w_iald (o := (stC o 10)) hx hb hK hW (st_ty hNN fo.1 fo.2 rfl).1 (st_ty hNN fo.1 fo.2 rfl).2 hi d_Ans_groupOf_36 ?_
    refine lv_if_eq (tgt := 84) hx hb d_Ans_groupOf_37 (by decide) (fun c5 => ?_) (fun c5 => ?_)
    · have hw := hw.1 c5
      exact t_Ans_groupOf_84 hx hb hml hown hT hK hN hA hRc hRs hRf hRl hNN hE hret  o l1 l2 l3 x H locs ls fo hw hW hS (lv_sub hl [0, 1, 2, 3] rfl)
    · have hw := hw.2 c5
      refine lv_aload_n hx hb d_Ans_groupOf_40 rfl (lv_at hl 0 rfl) ?_
      refine lv_aload_n hx hb d_Ans_groupOf_41 rfl (lv_at hl 0 rfl) ?_
      refine w_getf (q := (stC o 5)) (k := 5) (t := 10) (C := R_Ans) (T := F_Ans) (N := 16) hx hb hT hown hK hW fo.1 fo.2 (by decide) in_Ans rfl rfl (by decide) rfl fr_Ans_5 w_3_165 d_Ans_groupOf_42 rfl ?_
      refine lv_aload_n hx hb d_Ans_groupOf_45 rfl (lv_at hl 0 rfl) ?_
      refine w_getf (q := (stC o 10)) (k := 10) (t := 10) (C := R_Ans) (T := F_Ans) (N := 16) hx hb hT hown hK hW fo.1 fo.2 (by decide) in_Ans rfl rfl (by decide) rfl fr_Ans_10 w_3_172 d_Ans_groupOf_46 rfl ?_
      refine lv_iload_n hx hb d_Ans_groupOf_49 rfl (lv_at hl 2 rfl) ?_
      obtain ⟨hi, hw⟩ := hw
      refine w_iald (o := (stC o 10)) hx hb hK hW (st_ty hNN fo.1 fo.2 rfl).1 (st_ty hNN fo.1 fo.2 rfl).2 hi d_Ans_groupOf_50 ?_
      refine lv_iconst (v := 1) hx hb d_Ans_groupOf_51 (by decide) ?_
      refine lv_isub hx hb d_Ans_groupOf_52 ?_
      obtain ⟨hi, hw⟩ := hw
      refine w_iald (o := (stC o 5)) hx hb hK hW (st_ty hNN fo.1 fo.2 rfl).1 (st_ty hNN fo.1 fo.2 rfl).2 hi d_Ans_groupOf_53 ?_
      refine lv_iload_n hx hb d_Ans_groupOf_54 rfl (lv_at hl 1 rfl) ?_
      have hF := hW.free hS hA
      refine va_calli (va_runV (C := R_Ans) (As := [.int (rA x (stC o 5) ((rA x (stC o 10) l2) - 1)), .int l1]) (rest := []) ⟨hx, hb, hml, hown, hT⟩ (k_Ans_sameGroup l dC dI cI cB cJ cZ ad NN E tM tC kK kV hNN H.size o (rA x (stC o 5) ((rA x (stC o 10) l2) - 1)) l1 x fo hw) ⟨callB_of 2 hT (gwt_in w_8_97) rfl rfl rfl (hT _ w_1_13) (hT _ w_8_94) (by decide +kernel) ⟨Nat.le_trans (Nat.le_of_ble_eq_true rfl) hRf, Nat.le_trans (Nat.le_of_ble_eq_true rfl) hRl⟩, hT _ w_8_96, hT _ ws_100⟩ ⟨PVc.blind, va_recv hK hW.1 (ci := 10) (q0 := o) rfl (pic_obj fo.1 fo.2 (by decide)), PVc.at _ hW hK hN hE hS hF⟩ rfl rfl hl.1 rfl (lv_room (Nat.le_of_ble_eq_true rfl)) d_Ans_groupOf_55 ⟨hRc, hRs⟩) hS (fun q _ h => hF q h) hF (fun r7 x6 t H locs ht hvm hw hB hz1 hk1 hS => ?_)
      have hW := Wd.back hB ht hF
      clear hB ht hF hz1 hk1 hvm
      refine lv_if_eq (tgt := 70) hx hb d_Ans_groupOf_58 (by decide) (fun c8 => ?_) (fun c8 => ?_)
      · have hw := hw.1 c8
        refine lv_iload_n hx hb d_Ans_groupOf_70 rfl (lv_at hl 2 rfl) ?_
        refine lv_iconst (v := 1) hx hb d_Ans_groupOf_71 (by decide) ?_
        refine lv_iadd hx hb d_Ans_groupOf_72 ?_
        refine lv_sipush (v := 1023) hx hb d_Ans_groupOf_73 (by decide) ?_
        refine lv_iand hx hb d_Ans_groupOf_76 ?_
        refine lv_topi (fun v9 ev9 => ?_)
        have hw := hw v9 ev9
        refine lv_istore_n (lv' := [(2, .int v9), (0, .ref (ad o)), (1, .int l1), (3, .int l3)]) hx hb d_Ans_groupOf_77 rfl hl (by decide) rfl (fun ls hl => ?_)
        refine lv_iinc (v := (l3 + 1)) (lv' := [(3, .int (l3 + 1)), (2, .int v9), (0, .ref (ad o)), (1, .int l1)]) hx hb d_Ans_groupOf_78 hl (k := 3) rfl rfl (by decide) rfl (fun ls hl => ?_)
        refine lv_goto (tgt := 24) hx hb d_Ans_groupOf_81 (by decide) ?_
        exact hrec24 o l1 v9 (l3 + 1) x6 H locs ls fo hw hW hS (lv_sub hl [2, 3, 1, 0] rfl)
      · have hw := hw.2 c8
        refine lv_aload_n hx hb d_Ans_groupOf_61 rfl (lv_at hl 0 rfl) ?_
        refine w_getf (q := (stC o 10)) (k := 10) (t := 10) (C := R_Ans) (T := F_Ans) (N := 16) hx hb hT hown hK hW fo.1 fo.2 (by decide) in_Ans rfl rfl (by decide) rfl fr_Ans_10 w_3_172 d_Ans_groupOf_62 rfl ?_
        refine lv_iload_n hx hb d_Ans_groupOf_65 rfl (lv_at hl 2 rfl) ?_
        obtain ⟨hi, hw⟩ := hw
        refine w_iald (o := (stC o 10)) hx hb hK hW (st_ty hNN fo.1 fo.2 rfl).1 (st_ty hNN fo.1 fo.2 rfl).2 hi d_Ans_groupOf_66 ?_
        refine lv_iconst (v := 1) hx hb d_Ans_groupOf_67 (by decide) ?_
        refine lv_isub hx hb d_Ans_groupOf_68 ?_
        exact hret ((rA x6 (stC o 10) l2) - 1) x6 H locs 69 ls d_Ans_groupOf_69 hw hW hS
set_option maxHeartbeats 4000000 in
set_option maxRecDepth 100000 in
theorem tl_Ans_groupOf_24 {p : Program} {l : Launch} {e : Env} {R : Room} {s : State} {m : MethodId} {args : Array Value} {below : List Frame} {meth : Method} {c : Code} {cells slots : Nat} {Q : State → Prop} {dC : Nat → ClassId} {dI : Nat → Nat → Nat} {cI cB cJ cZ : ClassId} {A : Nat → Prop} {ad : Nat → Nat} {NN : Nat} {E : Heap} {tM tC : Nat} {kK kV : Nat → Nat} {post : Int32 → St → Prop} (hx : p.tables.exec = Jvm.exec) (hb : c.code = b_Ans_groupOf) (hml : c.maxLocals = 4) (hown : s.vm.findClass R_Ans = some m.cls) (hT : ∀ w ∈ TG, w.before args s = true) (hK : va_K (dC, dI) CL (TY cI cB cJ cZ) s) (hN : NW s) (hA : ∀ q : Nat, s.heap.size ≤ q → A q) (hRc : cells ≤ R.cells) (hRs : slots ≤ R.slots) (hRf : 4 ≤ R.frames) (hRl : 165 ≤ R.locals) (hNN : 152 ≤ NN) (hE : CE E tM tC kK kV A s) (hret : ∀ (r : Int32) (x : St) (H : Heap) (locs : List Loc) (pc : Nat) (ls : Array Slot), decode b_Ans_groupOf pc = .ok (.ireturn, 1) → post r x → Wd dC dI cI cB cJ cZ ad stC kcC NN A x H → va_S A s.heap H locs → W p l e R s m args below meth c H locs cells slots Q (F0 m pc ls [.int r]))  : ∀ n : Nat, ∀ (o : Nat) (l1 : Int32) (l2 : Int32) (l3 : Int32) (x : St) (H : Heap) (locs : List Loc) (ls : Array Slot), (o < NN ∧ kcC o = 10) → wl_Ans_groupOf_24 post n o l1 l2 l3 x → Wd dC dI cI cB cJ cZ ad stC kcC NN A x H → va_S A s.heap H locs → lv_has ls 4 [(0, .ref (ad o)), (1, .int l1), (2, .int l2), (3, .int l3)] → W p l e R s m args below meth c H locs cells slots Q (F0 m 24 ls []) := by
  intro n
  induction n with
  | zero => intro o l1 l2 l3 x H locs ls fo hw; exact hw.elim
  | succ n ih => intro o l1 l2 l3 x H locs ls fo hw hW hS hl; exact t_Ans_groupOf_24 hx hb hml hown hT hK hN hA hRc hRs hRf hRl hNN hE hret  ih o l1 l2 l3 x H locs ls fo hw hW hS hl
set_option maxRecDepth 100000 in
set_option maxHeartbeats 4000000 in
set_option maxRecDepth 100000 in
theorem t_Ans_groupOf_e {p : Program} {l : Launch} {e : Env} {R : Room} {s : State} {m : MethodId} {args : Array Value} {below : List Frame} {meth : Method} {c : Code} {cells slots : Nat} {Q : State → Prop} {dC : Nat → ClassId} {dI : Nat → Nat → Nat} {cI cB cJ cZ : ClassId} {A : Nat → Prop} {ad : Nat → Nat} {NN : Nat} {E : Heap} {tM tC : Nat} {kK kV : Nat → Nat} {post : Int32 → St → Prop} (hx : p.tables.exec = Jvm.exec) (hb : c.code = b_Ans_groupOf) (hml : c.maxLocals = 4) (hown : s.vm.findClass R_Ans = some m.cls) (hT : ∀ w ∈ TG, w.before args s = true) (hK : va_K (dC, dI) CL (TY cI cB cJ cZ) s) (hN : NW s) (hA : ∀ q : Nat, s.heap.size ≤ q → A q) (hRc : cells ≤ R.cells) (hRs : slots ≤ R.slots) (hRf : 4 ≤ R.frames) (hRl : 165 ≤ R.locals) (hNN : 152 ≤ NN) (hE : CE E tM tC kK kV A s) (hret : ∀ (r : Int32) (x : St) (H : Heap) (locs : List Loc) (pc : Nat) (ls : Array Slot), decode b_Ans_groupOf pc = .ok (.ireturn, 1) → post r x → Wd dC dI cI cB cJ cZ ad stC kcC NN A x H → va_S A s.heap H locs → W p l e R s m args below meth c H locs cells slots Q (F0 m pc ls [.int r])) : ∀ (o : Nat) (l1 : Int32) (x : St) (H : Heap) (locs : List Loc) (ls : Array Slot), (o < NN ∧ kcC o = 10) → wp_Ans_groupOf post o l1 x → Wd dC dI cI cB cJ cZ ad stC kcC NN A x H → va_S A s.heap H locs → lv_has ls 4 [(0, .ref (ad o)), (1, .int l1)] → W p l e R s m args below meth c H locs cells slots Q (F0 m 0 ls []) := by
  intro o l1 x H locs ls fo hw hW hS hl
  unfold wp_Ans_groupOf at hw
  refine lv_aload_n hx hb d_Ans_groupOf_0 rfl (lv_at hl 0 rfl) ?_
  obtain ⟨q10, hq10, hw⟩ := hw
  refine w_getr (q := q10) (k := 15) (t := 10) (C := R_Ans) (T := F_Ans) (N := 16) hx hb hT hown hK hW fo.1 fo.2 (by decide) in_Ans rfl rfl (by decide) rfl fr_Ans_15 w_3_177 d_Ans_groupOf_1 hq10 (fun aq10 bq10 => ?_)
  have fq10 : q10 < NN ∧ kcC q10 = 9 := ⟨aq10, bq10⟩
  refine w_geti (k := 5) (t := 9) (C := R_Qry) (T := F_Qry) (N := 20) hx hb hT hown hK hW fq10.1 fq10.2 (by decide) in_Qry rfl rfl (by decide) rfl fr_Qry_5 w_3_84 d_Ans_groupOf_4 ?_
  refine lv_if_ne (tgt := 12) hx hb d_Ans_groupOf_7 (by decide) (fun c11 => ?_) (fun c11 => ?_)
  · have hw := hw.1 c11
    refine lv_aload_n hx hb d_Ans_groupOf_12 rfl (lv_at hl 0 rfl) ?_
    refine lv_iload_n hx hb d_Ans_groupOf_13 rfl (lv_at hl 1 rfl) ?_
    have hF := hW.free hS hA
    refine va_calli (va_runV (C := R_Ans) (As := [.int l1]) (rest := []) ⟨hx, hb, hml, hown, hT⟩ (k_Ans_hashOfRow l dC dI cI cB cJ cZ ad NN E tM tC kK kV hNN H.size o l1 x fo hw) ⟨callB_of 1 hT (gwt_in w_8_92) rfl rfl rfl (hT _ w_1_13) (hT _ w_8_89) (by decide +kernel) ⟨Nat.le_trans (Nat.le_of_ble_eq_true rfl) hRf, Nat.le_trans (Nat.le_of_ble_eq_true rfl) hRl⟩, hT _ w_8_91, hT _ ws_99⟩ ⟨PVc.blind, va_recv hK hW.1 (ci := 10) (q0 := o) rfl (pic_obj fo.1 fo.2 (by decide)), PVc.at _ hW hK hN hE hS hF⟩ rfl rfl hl.1 rfl (lv_room (Nat.le_of_ble_eq_true rfl)) d_Ans_groupOf_14 ⟨hRc, hRs⟩) hS (fun q _ h => hF q h) hF (fun r13 x12 t H locs ht hvm hw hB hz1 hk1 hS => ?_)
    have hW := Wd.back hB ht hF
    clear hB ht hF hz1 hk1 hvm
    refine lv_sipush (v := 1023) hx hb d_Ans_groupOf_17 (by decide) ?_
    refine lv_iand hx hb d_Ans_groupOf_20 ?_
    refine lv_topi (fun v14 ev14 => ?_)
    have hw := hw v14 ev14
    refine lv_istore_n (lv' := [(2, .int v14), (0, .ref (ad o)), (1, .int l1)]) hx hb d_Ans_groupOf_21 rfl hl (by decide) rfl (fun ls hl => ?_)
    refine lv_iconst (v := 0) hx hb d_Ans_groupOf_22 (by decide) ?_
    refine lv_istore_n (lv' := [(3, .int 0), (2, .int v14), (0, .ref (ad o)), (1, .int l1)]) hx hb d_Ans_groupOf_23 rfl hl (by decide) rfl (fun ls hl => ?_)
    obtain ⟨n, hw⟩ := hw
    exact tl_Ans_groupOf_24 hx hb hml hown hT hK hN hA hRc hRs hRf hRl hNN hE hret  n o l1 v14 0 x12 H locs ls fo hw hW hS (lv_sub hl [2, 3, 1, 0] rfl)
  · have hw := hw.2 c11
    refine lv_iconst (v := 0) hx hb d_Ans_groupOf_10 (by decide) ?_
    exact hret 0 x H locs 11 ls d_Ans_groupOf_11 hw hW hS
set_option maxHeartbeats 4000000 in
set_option maxRecDepth 100000 in
theorem k_Ans_groupOf (l : Launch) (dC : Nat → ClassId) (dI : Nat → Nat → Nat) (cI cB cJ cZ : ClassId) (ad : Nat → Nat) (NN : Nat) (E : Heap) (tM tC : Nat) (kK kV : Nat → Nat) (hNN : 152 ≤ NN) (sz : Nat) (o : Nat) (l1 : Int32) (x : St) (fo : o < NN ∧ kcC o = 10) {post : Int32 → St → Prop} (hw : wp_Ans_groupOf post o l1 x) : Met l y_Ans_groupOf (wsOf y_Ans_groupOf b_Ans_groupOf 4 (some (.int))) ({ frames := 4, cells := 0, slots := 0, locals := 165 }) (va_Pc [.ref (ad o), .int l1] (PVc dC dI cI cB cJ cZ ad stC kcC NN E tM tC kK kV sz x)) (va_Qi (fun (r : Int32) (y : St) => post r y) (fun y t => Wd dC dI cI cB cJ cZ ad stC kcC NN (va_A (pic ad stC kcC NN cI cB cJ cZ x) sz) y t.heap) (va_A (pic ad stC kcC NN cI cB cJ cZ x) sz)) 0 0 (va_A (pic ad stC kcC NN cI cB cJ cZ x) sz) := by
  refine Met.ofW (cc := b_Ans_groupOf) (maxL := 4) (ret := some (.int)) (by decide) rfl ?_
  intro p e s m args below meth c s₁ B hml hv
  obtain ⟨rfl, ⟨hsz, hW0, hK, hN⟩, hE⟩ := hv
  have hx := B.exec
  have hb := B.bytes
  have hr := B.returns
  have hts := atoms_spec B.pre
  have hT : ∀ w ∈ TG, w.before _ s = true := fun w h => hts w (List.mem_cons_of_mem _ h)
  have hown : s.vm.findClass R_Ans = some m.cls := findClass_of_methodNamed B.named
  have hlocks := B.notSynchronized
  subst hsz
  have hW : Wd dC dI cI cB cJ cZ ad stC kcC NN (va_A (pic ad stC kcC NN cI cB cJ cZ x) s.heap.size) x s.heap := ⟨hW0.1, hW0.2.1.self (sz := s.heap.size), hW0.2.2⟩
  generalize hAe : va_A (pic ad stC kcC NN cI cB cJ cZ x) s.heap.size = A at hW hE ⊢
  have hA : ∀ q : Nat, s.heap.size ≤ q → A q := fun q h => by rw [← hAe]; exact Or.inr h
  have hS : va_S A s.heap s.heap [] := va_S.rf
  have hl := lv_entry ([.ref (ad o), .int l1]) (n := 4) (Nat.le_of_ble_eq_true rfl)
  rw [lg_entry_eq]
  generalize (lg_sl ([.ref (ad o), .int l1]) ++ List.replicate (4 - (lg_sl ([.ref (ad o), .int l1])).length) Slot.unset).toArray = ls at hl ⊢
  have hl : lv_has ls 4 [(0, .ref (ad o)), (1, .int l1)] := hl
  exact t_Ans_groupOf_e hx hb hml hown hT hK hN hA (Nat.le_refl 0) (Nat.le_refl 0) (Nat.le_refl 4) (Nat.le_refl 165) hNN hE (fun r x H locs pc ls hd hp hW hS => W.iret (v := r) hx hb hr (fun t ht hM => ⟨⟨r, x, rfl, hp, Wd.back hW ht.symm (fun _ z => z)⟩, hS.F ht⟩) hS.2.2 hd hlocks)  o l1 x _ _ ls fo hw hW hS hl
set_option maxRecDepth 100000 in
set_option maxHeartbeats 4000000 in
set_option maxRecDepth 100000 in
theorem t_Ans_gatherValue_163 {p : Program} {l : Launch} {e : Env} {R : Room} {s : State} {m : MethodId} {args : Array Value} {below : List Frame} {meth : Method} {c : Code} {cells slots : Nat} {Q : State → Prop} {dC : Nat → ClassId} {dI : Nat → Nat → Nat} {cI cB cJ cZ : ClassId} {A : Nat → Prop} {ad : Nat → Nat} {NN : Nat} {E : Heap} {tM tC : Nat} {kK kV : Nat → Nat} {post : St → Prop} (hx : p.tables.exec = Jvm.exec) (hb : c.code = b_Ans_gatherValue) (hml : c.maxLocals = 8) (hown : s.vm.findClass R_Ans = some m.cls) (hT : ∀ w ∈ TG, w.before args s = true) (hK : va_K (dC, dI) CL (TY cI cB cJ cZ) s) (hN : NW s) (hA : ∀ q : Nat, s.heap.size ≤ q → A q) (hRc : cells ≤ R.cells) (hRs : slots ≤ R.slots) (hRf : 3 ≤ R.frames) (hRl : 137 ≤ R.locals) (hNN : 152 ≤ NN) (hE : CE E tM tC kK kV A s) (hret : ∀ (x : St) (H : Heap) (locs : List Loc) (pc : Nat) (ls : Array Slot), decode b_Ans_gatherValue pc = .ok (.return_, 1) → post x → Wd dC dI cI cB cJ cZ ad stC kcC NN A x H → va_S A s.heap H locs → W p l e R s m args below meth c H locs cells slots Q (F0 m pc ls []))  : ∀ (o : Nat) (l1 : Int32) (l2 : Int32) (l3 : Int32) (l4 : Int32) (l5 : Int32) (l6 : Int32) (l7 : Int32) (x : St) (H : Heap) (locs : List Loc) (ls : Array Slot), (o < NN ∧ kcC o = 10) → j_Ans_gatherValue_163 post o l1 l2 l3 l4 l5 l6 l7 x → Wd dC dI cI cB cJ cZ ad stC kcC NN A x H → va_S A s.heap H locs → lv_has ls 8 [(0, .ref (ad o)), (1, .int l1), (2, .int l2), (3, .int l3), (4, .int l4), (5, .int l5), (6, .int l6), (7, .int l7)] → W p l e R s m args below meth c H locs cells slots Q (F0 m 163 ls []) := by
  intro o l1 l2 l3 l4 l5 l6 l7 x H locs ls fo hw hW hS hl
  unfold j_Ans_gatherValue_163 at hw
  refine lv_aload_n hx hb d_Ans_gatherValue_163 rfl (lv_at hl 0 rfl) ?_
  refine w_getf (q := (stC o 9)) (k := 9) (t := 10) (C := R_Ans) (T := F_Ans) (N := 16) hx hb hT hown hK hW fo.1 fo.2 (by decide) in_Ans rfl rfl (by decide) rfl fr_Ans_9 w_3_170 d_Ans_gatherValue_164 rfl ?_
  refine lv_iload_n hx hb d_Ans_gatherValue_167 rfl (lv_at hl 1 rfl) ?_
  refine lv_aload_n hx hb d_Ans_gatherValue_168 rfl (lv_at hl 0 rfl) ?_
  obtain ⟨q1, hq1, hw⟩ := hw
  refine w_getr (q := q1) (k := 14) (t := 10) (C := R_Ans) (T := F_Ans) (N := 16) hx hb hT hown hK hW fo.1 fo.2 (by decide) in_Ans rfl rfl (by decide) rfl fr_Ans_14 w_3_176 d_Ans_gatherValue_169 hq1 (fun aq1 bq1 => ?_)
  have fq1 : q1 < NN ∧ kcC q1 = 6 := ⟨aq1, bq1⟩
  refine w_getf (q := (stC q1 9)) (k := 9) (t := 6) (C := R_Vlt) (T := F_Vlt) (N := 20) hx hb hT hown hK hW fq1.1 fq1.2 (by decide) in_Vlt rfl rfl (by decide) rfl fr_Vlt_9 w_2_152 d_Ans_gatherValue_172 rfl ?_
  refine lv_iload hx hb d_Ans_gatherValue_175 (lv_at hl 6 rfl) ?_
  obtain ⟨hi, hw⟩ := hw
  refine w_lald (o := (stC q1 9)) hx hb hK hW (st_ty hNN fq1.1 fq1.2 rfl).1 (st_ty hNN fq1.1 fq1.2 rfl).2 hi d_Ans_gatherValue_177 ?_
  obtain ⟨hi, hw⟩ := hw
  refine w_last (o := (stC o 9)) hx hb hK hW hS (st_ty hNN fo.1 fo.2 rfl).1 (st_ty hNN fo.1 fo.2 rfl).2 hi d_Ans_gatherValue_178 (fun H locs hW hS => ?_)
  obtain ⟨x2, ex2⟩ : ∃ y : St, y = setL x (stC o 9) l1 (rL x (stC q1 9) l6) := ⟨_, rfl⟩
  rw [← ex2] at hW
  have hw := hw x2 ex2
  exact hret x2 H locs 179 ls d_Ans_gatherValue_179 hw hW hS
set_option maxRecDepth 100000 in
set_option maxHeartbeats 4000000 in
set_option maxRecDepth 100000 in
theorem t_Ans_gatherValue_e {p : Program} {l : Launch} {e : Env} {R : Room} {s : State} {m : MethodId} {args : Array Value} {below : List Frame} {meth : Method} {c : Code} {cells slots : Nat} {Q : State → Prop} {dC : Nat → ClassId} {dI : Nat → Nat → Nat} {cI cB cJ cZ : ClassId} {A : Nat → Prop} {ad : Nat → Nat} {NN : Nat} {E : Heap} {tM tC : Nat} {kK kV : Nat → Nat} {post : St → Prop} (hx : p.tables.exec = Jvm.exec) (hb : c.code = b_Ans_gatherValue) (hml : c.maxLocals = 8) (hown : s.vm.findClass R_Ans = some m.cls) (hT : ∀ w ∈ TG, w.before args s = true) (hK : va_K (dC, dI) CL (TY cI cB cJ cZ) s) (hN : NW s) (hA : ∀ q : Nat, s.heap.size ≤ q → A q) (hRc : cells ≤ R.cells) (hRs : slots ≤ R.slots) (hRf : 3 ≤ R.frames) (hRl : 137 ≤ R.locals) (hNN : 152 ≤ NN) (hE : CE E tM tC kK kV A s) (hret : ∀ (x : St) (H : Heap) (locs : List Loc) (pc : Nat) (ls : Array Slot), decode b_Ans_gatherValue pc = .ok (.return_, 1) → post x → Wd dC dI cI cB cJ cZ ad stC kcC NN A x H → va_S A s.heap H locs → W p l e R s m args below meth c H locs cells slots Q (F0 m pc ls [])) : ∀ (o : Nat) (l1 : Int32) (l2 : Int32) (l3 : Int32) (l4 : Int32) (x : St) (H : Heap) (locs : List Loc) (ls : Array Slot), (o < NN ∧ kcC o = 10) → wp_Ans_gatherValue post o l1 l2 l3 l4 x → Wd dC dI cI cB cJ cZ ad stC kcC NN A x H → va_S A s.heap H locs → lv_has ls 8 [(0, .ref (ad o)), (1, .int l1), (2, .int l2), (3, .int l3), (4, .int l4)] → W p l e R s m args below meth c H locs cells slots Q (F0 m 0 ls []) := by
  intro o l1 l2 l3 l4 x H locs ls fo hw hW hS hl
  unfold wp_Ans_gatherValue at hw
  refine lv_aload_n hx hb d_Ans_gatherValue_0 rfl (lv_at hl 0 rfl) ?_
  obtain ⟨q3, hq3, hw⟩ := hw
  refine w_getr (q := q3) (k := 14) (t := 10) (C := R_Ans) (T := F_Ans) (N := 16) hx hb hT hown hK hW fo.1 fo.2 (by decide) in_Ans rfl rfl (by decide) rfl fr_Ans_14 w_3_176 d_Ans_gatherValue_1 hq3 (fun aq3 bq3 => ?_)
  have fq3 : q3 < NN ∧ kcC q3 = 6 := ⟨aq3, bq3⟩
  refine w_getf (q := (stC q3 5)) (k := 5) (t := 6) (C := R_Vlt) (T := F_Vlt) (N := 20) hx hb hT hown hK hW fq3.1 fq3.2 (by decide) in_Vlt rfl rfl (by decide) rfl fr_Vlt_5 w_2_137 d_Ans_gatherValue_4 rfl ?_
  refine w_getf (q := (stC (stC q3 5) 9)) (k := 9) (t := 3) (C := R_Sch) (T := F_Sch) (N := 13) hx hb hT hown hK hW (st_ty hNN fq3.1 fq3.2 rfl).1 (st_ty hNN fq3.1 fq3.2 rfl).2 (by decide) in_Sch rfl rfl (by decide) rfl fr_Sch_9 w_1_175 d_Ans_gatherValue_7 rfl ?_
  refine lv_iload hx hb d_Ans_gatherValue_10 (lv_at hl 4 rfl) ?_
  obtain ⟨hi, hw⟩ := hw
  refine w_iald (o := (stC (stC q3 5) 9)) hx hb hK hW (st_ty hNN (st_ty hNN fq3.1 fq3.2 rfl).1 (st_ty hNN fq3.1 fq3.2 rfl).2 rfl).1 (st_ty hNN (st_ty hNN fq3.1 fq3.2 rfl).1 (st_ty hNN fq3.1 fq3.2 rfl).2 rfl).2 hi d_Ans_gatherValue_12 ?_
  refine lv_topi (fun v4 ev4 => ?_)
  have hw := hw v4 ev4
  refine lv_istore (lv' := [(5, .int v4), (0, .ref (ad o)), (1, .int l1), (2, .int l2), (3, .int l3), (4, .int l4)]) hx hb d_Ans_gatherValue_13 hl (by decide) rfl (fun ls hl => ?_)
  refine lv_aload_n hx hb d_Ans_gatherValue_15 rfl (lv_at hl 1 rfl) ?_
  obtain ⟨q5, hq5, hw⟩ := hw
  refine w_getr (q := q5) (k := 14) (t := 10) (C := R_Ans) (T := F_Ans) (N := 16) hx hb hT hown hK hW fo.1 fo.2 (by decide) in_Ans rfl rfl (by decide) rfl fr_Ans_14 w_3_176 d_Ans_gatherValue_16 hq5 (fun aq5 bq5 => ?_)
  have fq5 : q5 < NN ∧ kcC q5 = 6 := ⟨aq5, bq5⟩
  refine lv_iload_n hx hb d_Ans_gatherValue_19 rfl (lv_at hl 4 rfl) ?_
  refine lv_iload hx hb d_Ans_gatherValue_20 (lv_at hl 0 rfl) ?_
  have hF := hW.free hS hA
  refine va_calli (va_runV (C := R_Vlt) (As := [.int l3, .int v4]) (rest := []) ⟨hx, hb, hml, hown, hT⟩ (k_Vlt_entryOf l dC dI cI cB cJ cZ ad NN E tM tC kK kV hNN H.size q5 l3 v4 x fq5 hw) ⟨callB_of 2 hT (gwt_in w_7_85) rfl rfl rfl (hT _ w_1_9) (hT _ w_8_29) (by decide +kernel) ⟨Nat.le_trans (Nat.le_of_ble_eq_true rfl) hRf, Nat.le_trans (Nat.le_of_ble_eq_true rfl) hRl⟩, hT _ w_7_83, hT _ w_7_84⟩ ⟨PVc.blind, va_recv hK hW.1 (ci := 6) (q0 := q5) rfl (pic_obj fq5.1 fq5.2 (by decide)), PVc.at _ hW hK hN hE hS hF⟩ rfl rfl hl.1 rfl (lv_room (Nat.le_of_ble_eq_true rfl)) d_Ans_gatherValue_22 ⟨hRc, hRs⟩) hS (fun q _ h => hF q h) hF (fun r7 x6 t H locs ht hvm hw hB hz1 hk1 hS => ?_)
  have hW := Wd.back hB ht hF
  clear hB ht hF hz1 hk1 hvm
  refine lv_istore (lv' := [(6, .int r7), (5, .int v4), (0, .ref (ad o)), (1, .int l1), (2, .int l2), (3, .int l3), (4, .int l4)]) hx hb d_Ans_gatherValue_25 hl (by decide) rfl (fun ls hl => ?_)
  refine lv_aload_n hx hb d_Ans_gatherValue_27 rfl (lv_at hl 2 rfl) ?_
  obtain ⟨q8, hq8, hw⟩ := hw
  refine w_getr (q := q8) (k := 14) (t := 10) (C := R_Ans) (T := F_Ans) (N := 16) hx hb hT hown hK hW fo.1 fo.2 (by decide) in_Ans rfl rfl (by decide) rfl fr_Ans_14 w_3_176 d_Ans_gatherValue_28 hq8 (fun aq8 bq8 => ?_)
  have fq8 : q8 < NN ∧ kcC q8 = 6 := ⟨aq8, bq8⟩
  refine lv_iload hx hb d_Ans_gatherValue_31 (lv_at hl 0 rfl) ?_
  refine lv_iload hx hb d_Ans_gatherValue_33 (lv_at hl 1 rfl) ?_
  have hF := hW.free hS hA
  refine va_calli (va_runV (C := R_Vlt) (As := [.int r7, .int v4]) (rest := []) ⟨hx, hb, hml, hown, hT⟩ (k_Vlt_hasValue l dC dI cI cB cJ cZ ad NN E tM tC kK kV hNN H.size q8 r7 v4 x6 fq8 hw) ⟨callB_of 2 hT (gwt_in w_7_50) rfl rfl rfl (hT _ w_1_9) (hT _ w_8_30) (by decide +kernel) ⟨Nat.le_trans (Nat.le_of_ble_eq_true rfl) hRf, Nat.le_trans (Nat.le_of_ble_eq_true rfl) hRl⟩, hT _ w_7_48, hT _ w_7_49⟩ ⟨PVc.blind, va_recv hK hW.1 (ci := 6) (q0 := q8) rfl (pic_obj fq8.1 fq8.2 (by decide)), PVc.at _ hW hK hN hE hS hF⟩ rfl rfl hl.1 rfl (lv_room (Nat.le_of_ble_eq_true rfl)) d_Ans_gatherValue_35 ⟨hRc, hRs⟩) hS (fun q _ h => hF q h) hF (fun r10 x9 t H locs ht hvm hw hB hz1 hk1 hS => ?_)
  have hW := Wd.back hB ht hF
  clear hB ht hF hz1 hk1 hvm
  refine lv_if_ne (tgt := 42) hx hb d_Ans_gatherValue_38 (by decide) (fun c11 => ?_) (fun c11 => ?_)
  · have hw := hw.1 c11
    refine lv_iload_n hx hb d_Ans_gatherValue_42 rfl (lv_at hl 4 rfl) ?_
    refine lv_iconst (v := 2) hx hb d_Ans_gatherValue_43 (by decide) ?_
    refine lv_icmp_ne (tgt := 60) hx hb d_Ans_gatherValue_44 (by decide) (fun c12 => ?_) (fun c12 => ?_)
    · have hw := hw.1 c12
      refine lv_aload_n hx hb d_Ans_gatherValue_60 rfl (lv_at hl 2 rfl) ?_
      refine w_getf (q := (stC o 8)) (k := 8) (t := 10) (C := R_Ans) (T := F_Ans) (N := 16) hx hb hT hown hK hW fo.1 fo.2 (by decide) in_Ans rfl rfl (by decide) rfl fr_Ans_8 w_3_168 d_Ans_gatherValue_61 rfl ?_
      refine lv_iload_n hx hb d_Ans_gatherValue_64 rfl (lv_at hl 3 rfl) ?_
      obtain ⟨hi, hw⟩ := hw
      refine w_bald (o := (stC o 8)) hx hb hK hW (st_ty hNN fo.1 fo.2 rfl).1 (st_ty hNN fo.1 fo.2 rfl).2 hi d_Ans_gatherValue_65 ?_
      refine lv_if_ne (tgt := 80) hx hb d_Ans_gatherValue_66 (by decide) (fun c13 => ?_) (fun c13 => ?_)
      · have hw := hw.1 c13
        refine lv_iload_n hx hb d_Ans_gatherValue_80 rfl (lv_at hl 4 rfl) ?_
        refine lv_iconst (v := 3) hx hb d_Ans_gatherValue_81 (by decide) ?_
        refine lv_icmp_ne (tgt := 107) hx hb d_Ans_gatherValue_82 (by decide) (fun c14 => ?_) (fun c14 => ?_)
        · have hw := hw.1 c14
          refine lv_aload_n hx hb d_Ans_gatherValue_107 rfl (lv_at hl 2 rfl) ?_
          obtain ⟨q15, hq15, hw⟩ := hw
          refine w_getr (q := q15) (k := 14) (t := 10) (C := R_Ans) (T := F_Ans) (N := 16) hx hb hT hown hK hW fo.1 fo.2 (by decide) in_Ans rfl rfl (by decide) rfl fr_Ans_14 w_3_176 d_Ans_gatherValue_108 hq15 (fun aq15 bq15 => ?_)
          have fq15 : q15 < NN ∧ kcC q15 = 6 := ⟨aq15, bq15⟩
          refine lv_aload_n hx hb d_Ans_gatherValue_111 rfl (lv_at hl 2 rfl) ?_
          obtain ⟨q16, hq16, hw⟩ := hw
          refine w_getr (q := q16) (k := 14) (t := 10) (C := R_Ans) (T := F_Ans) (N := 16) hx hb hT hown hK hW fo.1 fo.2 (by decide) in_Ans rfl rfl (by decide) rfl fr_Ans_14 w_3_176 d_Ans_gatherValue_112 hq16 (fun aq16 bq16 => ?_)
          have fq16 : q16 < NN ∧ kcC q16 = 6 := ⟨aq16, bq16⟩
          refine w_getf (q := (stC q16 5)) (k := 5) (t := 6) (C := R_Vlt) (T := F_Vlt) (N := 20) hx hb hT hown hK hW fq16.1 fq16.2 (by decide) in_Vlt rfl rfl (by decide) rfl fr_Vlt_5 w_2_137 d_Ans_gatherValue_115 rfl ?_
          refine w_getf (q := (stC (stC q16 5) 3)) (k := 3) (t := 3) (C := R_Sch) (T := F_Sch) (N := 13) hx hb hT hown hK hW (st_ty hNN fq16.1 fq16.2 rfl).1 (st_ty hNN fq16.1 fq16.2 rfl).2 (by decide) in_Sch rfl rfl (by decide) rfl fr_Sch_3 w_1_150 d_Ans_gatherValue_118 rfl ?_
          refine lv_iload hx hb d_Ans_gatherValue_121 (lv_at hl 6 rfl) ?_
          obtain ⟨hi, hw⟩ := hw
          refine w_iald (o := (stC (stC q16 5) 3)) hx hb hK hW (st_ty hNN (st_ty hNN fq16.1 fq16.2 rfl).1 (st_ty hNN fq16.1 fq16.2 rfl).2 rfl).1 (st_ty hNN (st_ty hNN fq16.1 fq16.2 rfl).1 (st_ty hNN fq16.1 fq16.2 rfl).2 rfl).2 hi d_Ans_gatherValue_123 ?_
          refine lv_aload_n hx hb d_Ans_gatherValue_124 rfl (lv_at hl 2 rfl) ?_
          obtain ⟨q17, hq17, hw⟩ := hw
          refine w_getr (q := q17) (k := 14) (t := 10) (C := R_Ans) (T := F_Ans) (N := 16) hx hb hT hown hK hW fo.1 fo.2 (by decide) in_Ans rfl rfl (by decide) rfl fr_Ans_14 w_3_176 d_Ans_gatherValue_125 hq17 (fun aq17 bq17 => ?_)
          have fq17 : q17 < NN ∧ kcC q17 = 6 := ⟨aq17, bq17⟩
          refine w_getf (q := (stC q17 9)) (k := 9) (t := 6) (C := R_Vlt) (T := F_Vlt) (N := 20) hx hb hT hown hK hW fq17.1 fq17.2 (by decide) in_Vlt rfl rfl (by decide) rfl fr_Vlt_9 w_2_152 d_Ans_gatherValue_128 rfl ?_
          refine lv_iload hx hb d_Ans_gatherValue_131 (lv_at hl 0 rfl) ?_
          obtain ⟨hi, hw⟩ := hw
          refine w_lald (o := (stC q17 9)) hx hb hK hW (st_ty hNN fq17.1 fq17.2 rfl).1 (st_ty hNN fq17.1 fq17.2 rfl).2 hi d_Ans_gatherValue_133 ?_
          refine lv_aload_n hx hb d_Ans_gatherValue_134 rfl (lv_at hl 2 rfl) ?_
          refine w_getf (q := (stC o 9)) (k := 9) (t := 10) (C := R_Ans) (T := F_Ans) (N := 16) hx hb hT hown hK hW fo.1 fo.2 (by decide) in_Ans rfl rfl (by decide) rfl fr_Ans_9 w_3_170 d_Ans_gatherValue_135 rfl ?_
          refine lv_iload_n hx hb d_Ans_gatherValue_138 rfl (lv_at hl 3 rfl) ?_
          obtain ⟨hi, hw⟩ := hw
          refine w_lald (o := (stC o 9)) hx hb hK hW (st_ty hNN fo.1 fo.2 rfl).1 (st_ty hNN fo.1 fo.2 rfl).2 hi d_Ans_gatherValue_139 ?_
          have hF := hW.free hS hA
          refine va_calli (va_runV (C := R_Vlt) (As := [.int (rA x9 (stC (stC q16 5) 3) l4), .long (rL x9 (stC q17 9) r7), .long (rL x9 (stC o 9) l1)]) (rest := []) ⟨hx, hb, hml, hown, hT⟩ (k_Vlt_compare l dC dI cI cB cJ cZ ad NN E tM tC kK kV hNN H.size q15 (rA x9 (stC (stC q16 5) 3) l4) (rL x9 (stC q17 9) r7) (rL x9 (stC o 9) l1) x9 fq15 hw) ⟨callB_of 3 hT (gwt_in w_7_32) rfl rfl rfl (hT _ w_1_9) (hT _ w_8_66) (by decide +kernel) ⟨Nat.le_trans (Nat.le_of_ble_eq_true rfl) hRf, Nat.le_trans (Nat.le_of_ble_eq_true rfl) hRl⟩, hT _ w_7_30, hT _ w_7_31⟩ ⟨PVc.blind, va_recv hK hW.1 (ci := 6) (q0 := q15) rfl (pic_obj fq15.1 fq15.2 (by decide)), PVc.at _ hW hK hN hE hS hF⟩ rfl rfl hl.1 rfl (lv_room (Nat.le_of_ble_eq_true rfl)) d_Ans_gatherValue_140 ⟨hRc, hRs⟩) hS (fun q _ h => hF q h) hF (fun r19 x18 t H locs ht hvm hw hB hz1 hk1 hS => ?_)
          have hW := Wd.back hB ht hF
          clear hB ht hF hz1 hk1 hvm
          refine lv_istore (lv' := [(7, .int r19), (6, .int r7), (5, .int v4), (0, .ref (ad o)), (1, .int l1), (2, .int l2), (3, .int l3), (4, .int l4)]) hx hb d_Ans_gatherValue_143 hl (by decide) rfl (fun ls hl => ?_)
          refine lv_iload_n hx hb d_Ans_gatherValue_145 rfl (lv_at hl 5 rfl) ?_
          refine lv_iconst (v := 4) hx hb d_Ans_gatherValue_146 (by decide) ?_
          refine lv_icmp_ne (tgt := 158) hx hb d_Ans_gatherValue_147 (by decide) (fun c20 => ?_) (fun c20 => ?_)
          · have hw := hw.1 c20
            refine lv_iload hx hb d_Ans_gatherValue_158 (lv_at hl 0 rfl) ?_
            refine lv_if_le (tgt := 179) hx hb d_Ans_gatherValue_160 (by decide) (fun c21 => ?_) (fun c21 => ?_)
            · have hw := hw.1 c21
              exact hret x18 H locs 179 ls d_Ans_gatherValue_179 hw hW hS
            · have hw := hw.2 c21
              exact t_Ans_gatherValue_163 hx hb hml hown hT hK hN hA hRc hRs hRf hRl hNN hE hret  o l1 l2 l3 l4 v4 r7 r19 x18 H locs ls fo hw hW hS (lv_sub hl [3, 4, 5, 6, 7, 2, 1, 0] rfl)
          · have hw := hw.2 c20
            refine lv_iload hx hb d_Ans_gatherValue_150 (lv_at hl 0 rfl) ?_
            refine lv_if_ge (tgt := 179) hx hb d_Ans_gatherValue_152 (by decide) (fun c22 => ?_) (fun c22 => ?_)
            · have hw := hw.1 c22
              exact hret x18 H locs 179 ls d_Ans_gatherValue_179 hw hW hS
            · have hw := hw.2 c22
              refine lv_goto (tgt := 163) hx hb d_Ans_gatherValue_155 (by decide) ?_
              exact t_Ans_gatherValue_163 hx hb hml hown hT hK hN hA hRc hRs hRf hRl hNN hE hret  o l1 l2 l3 l4 v4 r7 r19 x18 H locs ls fo hw hW hS (lv_sub hl [3, 4, 5, 6, 7, 2, 1, 0] rfl)
        · have hw := hw.2 c14
          refine lv_aload_n hx hb d_Ans_gatherValue_85 rfl (lv_at hl 2 rfl) ?_
          refine w_getf (q := (stC o 9)) (k := 9) (t := 10) (C := R_Ans) (T := F_Ans) (N := 16) hx hb hT hown hK hW fo.1 fo.2 (by decide) in_Ans rfl rfl (by decide) rfl fr_Ans_9 w_3_170 d_Ans_gatherValue_86 rfl ?_
          refine lv_iload_n hx hb d_Ans_gatherValue_89 rfl (lv_at hl 3 rfl) ?_
          refine lv_dup2_11 hx hb d_Ans_gatherValue_90 rfl rfl ?_
          obtain ⟨hi, hw⟩ := hw
          refine w_lald (o := (stC o 9)) hx hb hK hW (st_ty hNN fo.1 fo.2 rfl).1 (st_ty hNN fo.1 fo.2 rfl).2 hi d_Ans_gatherValue_91 ?_
          refine lv_aload_n hx hb d_Ans_gatherValue_92 rfl (lv_at hl 2 rfl) ?_
          obtain ⟨q23, hq23, hw⟩ := hw
          refine w_getr (q := q23) (k := 14) (t := 10) (C := R_Ans) (T := F_Ans) (N := 16) hx hb hT hown hK hW fo.1 fo.2 (by decide) in_Ans rfl rfl (by decide) rfl fr_Ans_14 w_3_176 d_Ans_gatherValue_93 hq23 (fun aq23 bq23 => ?_)
          have fq23 : q23 < NN ∧ kcC q23 = 6 := ⟨aq23, bq23⟩
          refine w_getf (q := (stC q23 9)) (k := 9) (t := 6) (C := R_Vlt) (T := F_Vlt) (N := 20) hx hb hT hown hK hW fq23.1 fq23.2 (by decide) in_Vlt rfl rfl (by decide) rfl fr_Vlt_9 w_2_152 d_Ans_gatherValue_96 rfl ?_
          refine lv_iload hx hb d_Ans_gatherValue_99 (lv_at hl 0 rfl) ?_
          obtain ⟨hi, hw⟩ := hw
          refine w_lald (o := (stC q23 9)) hx hb hK hW (st_ty hNN fq23.1 fq23.2 rfl).1 (st_ty hNN fq23.1 fq23.2 rfl).2 hi d_Ans_gatherValue_101 ?_
          refine lv_ladd hx hb d_Ans_gatherValue_102 ?_
          obtain ⟨hi, hw⟩ := hw
          refine w_last (o := (stC o 9)) hx hb hK hW hS (st_ty hNN fo.1 fo.2 rfl).1 (st_ty hNN fo.1 fo.2 rfl).2 hi d_Ans_gatherValue_103 (fun H locs hW hS => ?_)
          obtain ⟨x24, ex24⟩ : ∃ y : St, y = setL x9 (stC o 9) l1 ((rL x9 (stC o 9) l1) + (rL x9 (stC q23 9) r7)) := ⟨_, rfl⟩
          rw [← ex24] at hW
          have hw := hw x24 ex24
          refine lv_goto (tgt := 179) hx hb d_Ans_gatherValue_104 (by decide) ?_
          exact hret x24 H locs 179 ls d_Ans_gatherValue_179 hw hW hS
      · have hw := hw.2 c13
        refine lv_aload_n hx hb d_Ans_gatherValue_69 rfl (lv_at hl 2 rfl) ?_
        refine lv_iload_n hx hb d_Ans_gatherValue_70 rfl (lv_at hl 3 rfl) ?_
        refine lv_iload_n hx hb d_Ans_gatherValue_71 rfl (lv_at hl 5 rfl) ?_
        refine lv_iload hx hb d_Ans_gatherValue_72 (lv_at hl 6 rfl) ?_
        have hF := hW.free hS hA
        refine va_callv (va_runV (C := R_Ans) (As := [.int l1, .int l3, .int l4]) (rest := []) ⟨hx, hb, hml, hown, hT⟩ (k_Ans_keepValue l dC dI cI cB cJ cZ ad NN E tM tC kK kV hNN H.size o l1 l3 l4 x9 fo hw) ⟨callB_of 3 hT (gwt_in w_8_28) rfl rfl rfl (hT _ w_1_13) (hT _ w_8_25) (by decide +kernel) ⟨Nat.le_trans (Nat.le_of_ble_eq_true rfl) hRf, Nat.le_trans (Nat.le_of_ble_eq_true rfl) hRl⟩, hT _ w_8_27, hT _ ws_87⟩ ⟨PVc.blind, va_recv hK hW.1 (ci := 10) (q0 := o) rfl (pic_obj fo.1 fo.2 (by decide)), PVc.at _ hW hK hN hE hS hF⟩ rfl rfl hl.1 rfl (lv_room (Nat.le_of_ble_eq_true rfl)) d_Ans_gatherValue_74 ⟨hRc, hRs⟩) hS (fun q _ h => hF q h) hF (fun  x25 t H locs ht hvm hw hB hz1 hk1 hS => ?_)
        have hW := Wd.back hB ht hF
        clear hB ht hF hz1 hk1 hvm
        refine lv_goto (tgt := 179) hx hb d_Ans_gatherValue_77 (by decide) ?_
        exact hret x25 H locs 179 ls d_Ans_gatherValue_179 hw hW hS
    · have hw := hw.2 c12
      refine lv_aload_n hx hb d_Ans_gatherValue_47 rfl (lv_at hl 2 rfl) ?_
      refine w_getf (q := (stC o 9)) (k := 9) (t := 10) (C := R_Ans) (T := F_Ans) (N := 16) hx hb hT hown hK hW fo.1 fo.2 (by decide) in_Ans rfl rfl (by decide) rfl fr_Ans_9 w_3_170 d_Ans_gatherValue_48 rfl ?_
      refine lv_iload_n hx hb d_Ans_gatherValue_51 rfl (lv_at hl 3 rfl) ?_
      refine lv_dup2_11 hx hb d_Ans_gatherValue_52 rfl rfl ?_
      obtain ⟨hi, hw⟩ := hw
      refine w_lald (o := (stC o 9)) hx hb hK hW (st_ty hNN fo.1 fo.2 rfl).1 (st_ty hNN fo.1 fo.2 rfl).2 hi d_Ans_gatherValue_53 ?_
      refine lv_lconst (v := 1) hx hb d_Ans_gatherValue_54 (by decide) ?_
      refine lv_ladd hx hb d_Ans_gatherValue_55 ?_
      obtain ⟨hi, hw⟩ := hw
      refine w_last (o := (stC o 9)) hx hb hK hW hS (st_ty hNN fo.1 fo.2 rfl).1 (st_ty hNN fo.1 fo.2 rfl).2 hi d_Ans_gatherValue_56 (fun H locs hW hS => ?_)
      obtain ⟨x26, ex26⟩ : ∃ y : St, y = setL x9 (stC o 9) l1 ((rL x9 (stC o 9) l1) + 1) := ⟨_, rfl⟩
      rw [← ex26] at hW
      have hw := hw x26 ex26
      refine lv_goto (tgt := 179) hx hb d_Ans_gatherValue_57 (by decide) ?_
      exact hret x26 H locs 179 ls d_Ans_gatherValue_179 hw hW hS
  · have hw := hw.2 c11
    exact hret x9 H locs 41 ls d_Ans_gatherValue_41 hw hW hS
set_option maxHeartbeats 4000000 in
set_option maxRecDepth 100000 in
theorem k_Ans_gatherValue (l : Launch) (dC : Nat → ClassId) (dI : Nat → Nat → Nat) (cI cB cJ cZ : ClassId) (ad : Nat → Nat) (NN : Nat) (E : Heap) (tM tC : Nat) (kK kV : Nat → Nat) (hNN : 152 ≤ NN) (sz : Nat) (o : Nat) (l1 : Int32) (l2 : Int32) (l3 : Int32) (l4 : Int32) (x : St) (fo : o < NN ∧ kcC o = 10) {post : St → Prop} (hw : wp_Ans_gatherValue post o l1 l2 l3 l4 x) : Met l y_Ans_gatherValue (wsOf y_Ans_gatherValue b_Ans_gatherValue 8 (none)) ({ frames := 3, cells := 0, slots := 0, locals := 137 }) (va_Pc [.ref (ad o), .int l1, .int l2, .int l3, .int l4] (PVc dC dI cI cB cJ cZ ad stC kcC NN E tM tC kK kV sz x)) (va_Qv (fun (y : St) => post y) (fun y t => Wd dC dI cI cB cJ cZ ad stC kcC NN (va_A (pic ad stC kcC NN cI cB cJ cZ x) sz) y t.heap) (va_A (pic ad stC kcC NN cI cB cJ cZ x) sz)) 0 0 (va_A (pic ad stC kcC NN cI cB cJ cZ x) sz) := by
  refine Met.ofW (cc := b_Ans_gatherValue) (maxL := 8) (ret := none) (by decide) rfl ?_
  intro p e s m args below meth c s₁ B hml hv
  obtain ⟨rfl, ⟨hsz, hW0, hK, hN⟩, hE⟩ := hv
  have hx := B.exec
  have hb := B.bytes
  have hr := B.returns
  have hts := atoms_spec B.pre
  have hT : ∀ w ∈ TG, w.before _ s = true := fun w h => hts w (List.mem_cons_of_mem _ h)
  have hown : s.vm.findClass R_Ans = some m.cls := findClass_of_methodNamed B.named
  have hlocks := B.notSynchronized
  subst hsz
  have hW : Wd dC dI cI cB cJ cZ ad stC kcC NN (va_A (pic ad stC kcC NN cI cB cJ cZ x) s.heap.size) x s.heap := ⟨hW0.1, hW0.2.1.self (sz := s.heap.size), hW0.2.2⟩
  generalize hAe : va_A (pic ad stC kcC NN cI cB cJ cZ x) s.heap.size = A at hW hE ⊢
  have hA : ∀ q : Nat, s.heap.size ≤ q → A q := fun q h => by rw [← hAe]; exact Or.inr h
  have hS : va_S A s.heap s.heap [] := va_S.rf
  have hl := lv_entry ([.ref (ad o), .int l1, .int l2, .int l3, .int l4]) (n := 8) (Nat.le_of_ble_eq_true rfl)
  rw [lg_entry_eq]
  generalize (lg_sl ([.ref (ad o), .int l1, .int l2, .int l3, .int l4]) ++ List.replicate (8 - (lg_sl ([.ref (ad o), .int l1, .int l2, .int l3, .int l4])).length) Slot.unset).toArray = ls at hl ⊢
  have hl : lv_has ls 8 [(0, .ref (ad o)), (1, .int l1), (2, .int l2), (3, .int l3), (4, .int l4)] := hl
  exact t_Ans_gatherValue_e hx hb hml hown hT hK hN hA (Nat.le_refl 0) (Nat.le_refl 0) (Nat.le_refl 3) (Nat.le_refl 137) hNN hE (fun x H locs pc ls hd hp hW hS => W.vret hx hb hr (fun t ht hM => ⟨⟨x, rfl, hp, Wd.back hW ht.symm (fun _ z => z)⟩, hS.F ht⟩) hS.2.2 hd hlocks)  o l1 l2 l3 l4 x _ _ ls fo hw hW hS hl
end
