theorem fr_Mod_162 : F_Mod 162 = (R_Mod, "newGroups", "I", false) := rfl
theorem w_14_36 : (Jvm.Cond.methodLink "StripedVaultModel" (1147 : Nat) ({ cls := "StripedVaultModel", name := "newGroup", desc := "(I)V" } : Jvm.MethodName)) ∈ TG := tw_14 36 (by decide +kernel) (by decide +kernel)
theorem w_14_38 : (Jvm.Cond.instanceMethod ({ cls := "StripedVaultModel", name := "newGroup", desc := "(I)V" } : Jvm.MethodName)) ∈ TG := tw_14 38 (by decide +kernel) (by decide +kernel)
theorem w_14_39 : (Jvm.Cond.code ({ cls := "StripedVaultModel", name := "newGroup", desc := "(I)V" } : Jvm.MethodName) prog_14_method_196_code (3 : Nat) (Option.none : Option Jvm.ClassFile.FieldType)) ∈ TG := tw_14 39 (by decide +kernel) (by decide +kernel)
theorem w_14_40 : (Jvm.Cond.methodLink "StripedVaultModel" (1150 : Nat) ({ cls := "StripedVaultModel", name := "sameBy", desc := "(II)Z" } : Jvm.MethodName)) ∈ TG := tw_14 40 (by decide +kernel) (by decide +kernel)
theorem w_14_42 : (Jvm.Cond.instanceMethod ({ cls := "StripedVaultModel", name := "sameBy", desc := "(II)Z" } : Jvm.MethodName)) ∈ TG := tw_14 42 (by decide +kernel) (by decide +kernel)
theorem w_14_43 : (Jvm.Cond.code ({ cls := "StripedVaultModel", name := "sameBy", desc := "(II)Z" } : Jvm.MethodName) prog_14_method_194_code (8 : Nat) (Option.some Jvm.ClassFile.FieldType.boolean)) ∈ TG := tw_14 43 (by decide +kernel) (by decide +kernel)
theorem w_14_44 : (Jvm.Cond.methodLink "StripedVaultModel" (1153 : Nat) ({ cls := "StripedVaultModel", name := "collect", desc := "(II)V" } : Jvm.MethodName)) ∈ TG := tw_14 44 (by decide +kernel) (by decide +kernel)
theorem w_14_46 : (Jvm.Cond.instanceMethod ({ cls := "StripedVaultModel", name := "collect", desc := "(II)V" } : Jvm.MethodName)) ∈ TG := tw_14 46 (by decide +kernel) (by decide +kernel)
theorem w_14_47 : (Jvm.Cond.code ({ cls := "StripedVaultModel", name := "collect", desc := "(II)V" } : Jvm.MethodName) prog_14_method_195_code (9 : Nat) (Option.none : Option Jvm.ClassFile.FieldType)) ∈ TG := tw_14 47 (by decide +kernel) (by decide +kernel)
theorem w_9_98 : (Jvm.Cond.fieldLink "StripedVaultModel" (1144 : Nat) "StripedVaultModel" "newGroups" "I") ∈ TG := tw_9 98 (by decide +kernel) (by decide +kernel)
theorem ws_268 : Cond.selects R_Mod y_Mod_newGroup y_Mod_newGroup ∈ TG := tw_s 268 (by decide +kernel) (by decide +kernel)
theorem ws_269 : Cond.selects R_Mod y_Mod_sameBy y_Mod_sameBy ∈ TG := tw_s 269 (by decide +kernel) (by decide +kernel)
theorem ws_270 : Cond.selects R_Mod y_Mod_collect y_Mod_collect ∈ TG := tw_s 270 (by decide +kernel) (by decide +kernel)
theorem d_Mod_newGroup_22 : decode b_Mod_newGroup 22 = .ok (.iload_n 2, 1) := by decide +kernel
theorem d_Mod_newGroup_23 : decode b_Mod_newGroup 23 = .ok (.bipush 16, 2) := by decide +kernel
theorem d_Mod_newGroup_25 : decode b_Mod_newGroup 25 = .ok (.if_icmp .ge 54, 3) := by decide +kernel
theorem d_Mod_newGroup_79 : decode b_Mod_newGroup 79 = .ok (.aload_n 0, 1) := by decide +kernel
theorem d_Mod_newGroup_80 : decode b_Mod_newGroup 80 = .ok (.dup, 1) := by decide +kernel
theorem d_Mod_newGroup_81 : decode b_Mod_newGroup 81 = .ok (.getfield 1144, 3) := by decide +kernel
theorem d_Mod_newGroup_84 : decode b_Mod_newGroup 84 = .ok (.iconst 1, 1) := by decide +kernel
theorem d_Mod_newGroup_85 : decode b_Mod_newGroup 85 = .ok (.iadd, 1) := by decide +kernel
theorem d_Mod_newGroup_86 : decode b_Mod_newGroup 86 = .ok (.putfield 1144, 3) := by decide +kernel
theorem d_Mod_newGroup_89 : decode b_Mod_newGroup 89 = .ok (.return_, 1) := by decide +kernel
theorem d_Mod_newGroup_28 : decode b_Mod_newGroup 28 = .ok (.aload_n 0, 1) := by decide +kernel
theorem d_Mod_newGroup_29 : decode b_Mod_newGroup 29 = .ok (.getfield 336, 3) := by decide +kernel
theorem d_Mod_newGroup_32 : decode b_Mod_newGroup 32 = .ok (.bipush 16, 2) := by decide +kernel
theorem d_Mod_newGroup_34 : decode b_Mod_newGroup 34 = .ok (.aload_n 0, 1) := by decide +kernel
theorem d_Mod_newGroup_35 : decode b_Mod_newGroup 35 = .ok (.getfield 1144, 3) := by decide +kernel
theorem d_Mod_newGroup_38 : decode b_Mod_newGroup 38 = .ok (.imul, 1) := by decide +kernel
theorem d_Mod_newGroup_39 : decode b_Mod_newGroup 39 = .ok (.iload_n 2, 1) := by decide +kernel
theorem d_Mod_newGroup_40 : decode b_Mod_newGroup 40 = .ok (.iadd, 1) := by decide +kernel
theorem d_Mod_newGroup_41 : decode b_Mod_newGroup 41 = .ok (.iconst 0, 1) := by decide +kernel
theorem d_Mod_newGroup_42 : decode b_Mod_newGroup 42 = .ok (.iastore, 1) := by decide +kernel
theorem d_Mod_newGroup_43 : decode b_Mod_newGroup 43 = .ok (.aload_n 0, 1) := by decide +kernel
theorem d_Mod_newGroup_44 : decode b_Mod_newGroup 44 = .ok (.getfield 354, 3) := by decide +kernel
theorem d_Mod_newGroup_47 : decode b_Mod_newGroup 47 = .ok (.bipush 16, 2) := by decide +kernel
theorem d_Mod_newGroup_49 : decode b_Mod_newGroup 49 = .ok (.aload_n 0, 1) := by decide +kernel
theorem d_Mod_newGroup_50 : decode b_Mod_newGroup 50 = .ok (.getfield 1144, 3) := by decide +kernel
theorem d_Mod_newGroup_53 : decode b_Mod_newGroup 53 = .ok (.imul, 1) := by decide +kernel
theorem d_Mod_newGroup_54 : decode b_Mod_newGroup 54 = .ok (.iload_n 2, 1) := by decide +kernel
theorem d_Mod_newGroup_55 : decode b_Mod_newGroup 55 = .ok (.iadd, 1) := by decide +kernel
theorem d_Mod_newGroup_56 : decode b_Mod_newGroup 56 = .ok (.lconst 0, 1) := by decide +kernel
theorem d_Mod_newGroup_57 : decode b_Mod_newGroup 57 = .ok (.lastore, 1) := by decide +kernel
theorem d_Mod_newGroup_58 : decode b_Mod_newGroup 58 = .ok (.aload_n 0, 1) := by decide +kernel
theorem d_Mod_newGroup_59 : decode b_Mod_newGroup 59 = .ok (.getfield 339, 3) := by decide +kernel
theorem d_Mod_newGroup_62 : decode b_Mod_newGroup 62 = .ok (.bipush 16, 2) := by decide +kernel
theorem d_Mod_newGroup_64 : decode b_Mod_newGroup 64 = .ok (.aload_n 0, 1) := by decide +kernel
theorem d_Mod_newGroup_65 : decode b_Mod_newGroup 65 = .ok (.getfield 1144, 3) := by decide +kernel
theorem d_Mod_newGroup_68 : decode b_Mod_newGroup 68 = .ok (.imul, 1) := by decide +kernel
theorem d_Mod_newGroup_69 : decode b_Mod_newGroup 69 = .ok (.iload_n 2, 1) := by decide +kernel
theorem d_Mod_newGroup_70 : decode b_Mod_newGroup 70 = .ok (.iadd, 1) := by decide +kernel
theorem d_Mod_newGroup_71 : decode b_Mod_newGroup 71 = .ok (.iconst (-1), 1) := by decide +kernel
theorem d_Mod_newGroup_72 : decode b_Mod_newGroup 72 = .ok (.iastore, 1) := by decide +kernel
theorem d_Mod_newGroup_73 : decode b_Mod_newGroup 73 = .ok (.iinc 2 1, 3) := by decide +kernel
theorem d_Mod_newGroup_76 : decode b_Mod_newGroup 76 = .ok (.goto (-54), 3) := by decide +kernel
theorem d_Mod_newGroup_0 : decode b_Mod_newGroup 0 = .ok (.aload_n 0, 1) := by decide +kernel
theorem d_Mod_newGroup_1 : decode b_Mod_newGroup 1 = .ok (.getfield 330, 3) := by decide +kernel
theorem d_Mod_newGroup_4 : decode b_Mod_newGroup 4 = .ok (.aload_n 0, 1) := by decide +kernel
theorem d_Mod_newGroup_5 : decode b_Mod_newGroup 5 = .ok (.getfield 1144, 3) := by decide +kernel
theorem d_Mod_newGroup_8 : decode b_Mod_newGroup 8 = .ok (.iload_n 1, 1) := by decide +kernel
theorem d_Mod_newGroup_9 : decode b_Mod_newGroup 9 = .ok (.iastore, 1) := by decide +kernel
theorem d_Mod_newGroup_10 : decode b_Mod_newGroup 10 = .ok (.aload_n 0, 1) := by decide +kernel
theorem d_Mod_newGroup_11 : decode b_Mod_newGroup 11 = .ok (.getfield 333, 3) := by decide +kernel
theorem d_Mod_newGroup_14 : decode b_Mod_newGroup 14 = .ok (.aload_n 0, 1) := by decide +kernel
theorem d_Mod_newGroup_15 : decode b_Mod_newGroup 15 = .ok (.getfield 1144, 3) := by decide +kernel
theorem d_Mod_newGroup_18 : decode b_Mod_newGroup 18 = .ok (.iconst 0, 1) := by decide +kernel
theorem d_Mod_newGroup_19 : decode b_Mod_newGroup 19 = .ok (.iastore, 1) := by decide +kernel
theorem d_Mod_newGroup_20 : decode b_Mod_newGroup 20 = .ok (.iconst 0, 1) := by decide +kernel
theorem d_Mod_newGroup_21 : decode b_Mod_newGroup 21 = .ok (.istore_n 2, 1) := by decide +kernel
theorem d_Mod_sameBy_111 : decode b_Mod_sameBy 111 = .ok (.istore_n 3, 1) := by decide +kernel
theorem d_Mod_sameBy_112 : decode b_Mod_sameBy 112 = .ok (.iinc 4 1, 3) := by decide +kernel
theorem d_Mod_sameBy_115 : decode b_Mod_sameBy 115 = .ok (.goto (-110), 3) := by decide +kernel
theorem d_Mod_sameBy_110 : decode b_Mod_sameBy 110 = .ok (.iconst 0, 1) := by decide +kernel
theorem d_Mod_sameBy_106 : decode b_Mod_sameBy 106 = .ok (.iconst 1, 1) := by decide +kernel
theorem d_Mod_sameBy_107 : decode b_Mod_sameBy 107 = .ok (.goto 4, 3) := by decide +kernel
theorem d_Mod_sameBy_74 : decode b_Mod_sameBy 74 = .ok (.iload 6, 2) := by decide +kernel
theorem d_Mod_sameBy_76 : decode b_Mod_sameBy 76 = .ok (.iload 7, 2) := by decide +kernel
theorem d_Mod_sameBy_78 : decode b_Mod_sameBy 78 = .ok (.if_icmp .ne 32, 3) := by decide +kernel
theorem d_Mod_sameBy_81 : decode b_Mod_sameBy 81 = .ok (.goto 25, 3) := by decide +kernel
theorem d_Mod_sameBy_5 : decode b_Mod_sameBy 5 = .ok (.iload 4, 2) := by decide +kernel
theorem d_Mod_sameBy_7 : decode b_Mod_sameBy 7 = .ok (.aload_n 0, 1) := by decide +kernel
theorem d_Mod_sameBy_8 : decode b_Mod_sameBy 8 = .ok (.getfield 252, 3) := by decide +kernel
theorem d_Mod_sameBy_11 : decode b_Mod_sameBy 11 = .ok (.iconst 4, 1) := by decide +kernel
theorem d_Mod_sameBy_12 : decode b_Mod_sameBy 12 = .ok (.aload_n 0, 1) := by decide +kernel
theorem d_Mod_sameBy_13 : decode b_Mod_sameBy 13 = .ok (.getfield 1062, 3) := by decide +kernel
theorem d_Mod_sameBy_16 : decode b_Mod_sameBy 16 = .ok (.imul, 1) := by decide +kernel
theorem d_Mod_sameBy_17 : decode b_Mod_sameBy 17 = .ok (.iconst 1, 1) := by decide +kernel
theorem d_Mod_sameBy_18 : decode b_Mod_sameBy 18 = .ok (.iadd, 1) := by decide +kernel
theorem d_Mod_sameBy_19 : decode b_Mod_sameBy 19 = .ok (.iaload, 1) := by decide +kernel
theorem d_Mod_sameBy_20 : decode b_Mod_sameBy 20 = .ok (.if_icmp .ge 98, 3) := by decide +kernel
theorem d_Mod_sameBy_118 : decode b_Mod_sameBy 118 = .ok (.iload_n 3, 1) := by decide +kernel
theorem d_Mod_sameBy_119 : decode b_Mod_sameBy 119 = .ok (.ireturn, 1) := by decide +kernel
theorem d_Mod_sameBy_23 : decode b_Mod_sameBy 23 = .ok (.aload_n 0, 1) := by decide +kernel
theorem d_Mod_sameBy_24 : decode b_Mod_sameBy 24 = .ok (.getfield 264, 3) := by decide +kernel
theorem d_Mod_sameBy_27 : decode b_Mod_sameBy 27 = .ok (.bipush 8, 2) := by decide +kernel
theorem d_Mod_sameBy_29 : decode b_Mod_sameBy 29 = .ok (.aload_n 0, 1) := by decide +kernel
theorem d_Mod_sameBy_30 : decode b_Mod_sameBy 30 = .ok (.getfield 1062, 3) := by decide +kernel
theorem d_Mod_sameBy_33 : decode b_Mod_sameBy 33 = .ok (.imul, 1) := by decide +kernel
theorem d_Mod_sameBy_34 : decode b_Mod_sameBy 34 = .ok (.iload 4, 2) := by decide +kernel
theorem d_Mod_sameBy_36 : decode b_Mod_sameBy 36 = .ok (.iadd, 1) := by decide +kernel
theorem d_Mod_sameBy_37 : decode b_Mod_sameBy 37 = .ok (.iaload, 1) := by decide +kernel
theorem d_Mod_sameBy_38 : decode b_Mod_sameBy 38 = .ok (.istore 5, 2) := by decide +kernel
theorem d_Mod_sameBy_40 : decode b_Mod_sameBy 40 = .ok (.aload_n 0, 1) := by decide +kernel
theorem d_Mod_sameBy_41 : decode b_Mod_sameBy 41 = .ok (.iload 5, 2) := by decide +kernel
theorem d_Mod_sameBy_43 : decode b_Mod_sameBy 43 = .ok (.iload_n 1, 1) := by decide +kernel
theorem d_Mod_sameBy_44 : decode b_Mod_sameBy 44 = .ok (.invokevirtual 1080, 3) := by decide +kernel
theorem d_Mod_sameBy_47 : decode b_Mod_sameBy 47 = .ok (.istore 6, 2) := by decide +kernel
theorem d_Mod_sameBy_49 : decode b_Mod_sameBy 49 = .ok (.aload_n 0, 1) := by decide +kernel
theorem d_Mod_sameBy_50 : decode b_Mod_sameBy 50 = .ok (.iload 5, 2) := by decide +kernel
theorem d_Mod_sameBy_52 : decode b_Mod_sameBy 52 = .ok (.iload_n 2, 1) := by decide +kernel
theorem d_Mod_sameBy_53 : decode b_Mod_sameBy 53 = .ok (.invokevirtual 1080, 3) := by decide +kernel
theorem d_Mod_sameBy_56 : decode b_Mod_sameBy 56 = .ok (.istore 7, 2) := by decide +kernel
theorem d_Mod_sameBy_58 : decode b_Mod_sameBy 58 = .ok (.iload_n 3, 1) := by decide +kernel
theorem d_Mod_sameBy_59 : decode b_Mod_sameBy 59 = .ok (.ifCond .eq 51, 3) := by decide +kernel
theorem d_Mod_sameBy_62 : decode b_Mod_sameBy 62 = .ok (.iload 6, 2) := by decide +kernel
theorem d_Mod_sameBy_64 : decode b_Mod_sameBy 64 = .ok (.iconst (-1), 1) := by decide +kernel
theorem d_Mod_sameBy_65 : decode b_Mod_sameBy 65 = .ok (.if_icmp .eq 9, 3) := by decide +kernel
theorem d_Mod_sameBy_68 : decode b_Mod_sameBy 68 = .ok (.iload 7, 2) := by decide +kernel
theorem d_Mod_sameBy_70 : decode b_Mod_sameBy 70 = .ok (.iconst (-1), 1) := by decide +kernel
theorem d_Mod_sameBy_71 : decode b_Mod_sameBy 71 = .ok (.if_icmp .ne 13, 3) := by decide +kernel
theorem d_Mod_sameBy_84 : decode b_Mod_sameBy 84 = .ok (.aload_n 0, 1) := by decide +kernel
theorem d_Mod_sameBy_85 : decode b_Mod_sameBy 85 = .ok (.aload_n 0, 1) := by decide +kernel
theorem d_Mod_sameBy_86 : decode b_Mod_sameBy 86 = .ok (.getfield 20, 3) := by decide +kernel
theorem d_Mod_sameBy_89 : decode b_Mod_sameBy 89 = .ok (.iconst 1, 1) := by decide +kernel
theorem d_Mod_sameBy_90 : decode b_Mod_sameBy 90 = .ok (.iload 5, 2) := by decide +kernel
theorem d_Mod_sameBy_92 : decode b_Mod_sameBy 92 = .ok (.invokestatic 412, 3) := by decide +kernel
theorem d_Mod_sameBy_95 : decode b_Mod_sameBy 95 = .ok (.iaload, 1) := by decide +kernel
theorem d_Mod_sameBy_96 : decode b_Mod_sameBy 96 = .ok (.iload 6, 2) := by decide +kernel
theorem d_Mod_sameBy_98 : decode b_Mod_sameBy 98 = .ok (.iload 7, 2) := by decide +kernel
theorem d_Mod_sameBy_100 : decode b_Mod_sameBy 100 = .ok (.invokevirtual 905, 3) := by decide +kernel
theorem d_Mod_sameBy_103 : decode b_Mod_sameBy 103 = .ok (.ifCond .ne 7, 3) := by decide +kernel
theorem d_Mod_sameBy_0 : decode b_Mod_sameBy 0 = .ok (.iconst 1, 1) := by decide +kernel
theorem d_Mod_sameBy_1 : decode b_Mod_sameBy 1 = .ok (.istore_n 3, 1) := by decide +kernel
theorem d_Mod_sameBy_2 : decode b_Mod_sameBy 2 = .ok (.iconst 0, 1) := by decide +kernel
theorem d_Mod_sameBy_3 : decode b_Mod_sameBy 3 = .ok (.istore 4, 2) := by decide +kernel
theorem d_Mod_collect_203 : decode b_Mod_collect 203 = .ok (.iinc 3 1, 3) := by decide +kernel
theorem d_Mod_collect_206 : decode b_Mod_collect 206 = .ok (.goto (-194), 3) := by decide +kernel
theorem d_Mod_collect_194 : decode b_Mod_collect 194 = .ok (.aload_n 0, 1) := by decide +kernel
theorem d_Mod_collect_195 : decode b_Mod_collect 195 = .ok (.getfield 339, 3) := by decide +kernel
theorem d_Mod_collect_198 : decode b_Mod_collect 198 = .ok (.iload 7, 2) := by decide +kernel
theorem d_Mod_collect_200 : decode b_Mod_collect 200 = .ok (.iload 6, 2) := by decide +kernel
theorem d_Mod_collect_202 : decode b_Mod_collect 202 = .ok (.iastore, 1) := by decide +kernel
theorem d_Mod_collect_162 : decode b_Mod_collect 162 = .ok (.istore 8, 2) := by decide +kernel
theorem d_Mod_collect_164 : decode b_Mod_collect 164 = .ok (.aload_n 0, 1) := by decide +kernel
theorem d_Mod_collect_165 : decode b_Mod_collect 165 = .ok (.getfield 339, 3) := by decide +kernel
theorem d_Mod_collect_168 : decode b_Mod_collect 168 = .ok (.iload 7, 2) := by decide +kernel
theorem d_Mod_collect_170 : decode b_Mod_collect 170 = .ok (.iaload, 1) := by decide +kernel
theorem d_Mod_collect_171 : decode b_Mod_collect 171 = .ok (.iconst (-1), 1) := by decide +kernel
theorem d_Mod_collect_172 : decode b_Mod_collect 172 = .ok (.if_icmp .eq 22, 3) := by decide +kernel
theorem d_Mod_collect_175 : decode b_Mod_collect 175 = .ok (.iload 4, 2) := by decide +kernel
theorem d_Mod_collect_177 : decode b_Mod_collect 177 = .ok (.iconst 4, 1) := by decide +kernel
theorem d_Mod_collect_178 : decode b_Mod_collect 178 = .ok (.if_icmp .ne 11, 3) := by decide +kernel
theorem d_Mod_collect_189 : decode b_Mod_collect 189 = .ok (.iload 8, 2) := by decide +kernel
theorem d_Mod_collect_191 : decode b_Mod_collect 191 = .ok (.ifCond .le 12, 3) := by decide +kernel
theorem d_Mod_collect_181 : decode b_Mod_collect 181 = .ok (.iload 8, 2) := by decide +kernel
theorem d_Mod_collect_183 : decode b_Mod_collect 183 = .ok (.ifCond .ge 20, 3) := by decide +kernel
theorem d_Mod_collect_186 : decode b_Mod_collect 186 = .ok (.goto 8, 3) := by decide +kernel
theorem d_Mod_collect_76 : decode b_Mod_collect 76 = .ok (.istore 6, 2) := by decide +kernel
theorem d_Mod_collect_78 : decode b_Mod_collect 78 = .ok (.iload 6, 2) := by decide +kernel
theorem d_Mod_collect_80 : decode b_Mod_collect 80 = .ok (.iconst (-1), 1) := by decide +kernel
theorem d_Mod_collect_81 : decode b_Mod_collect 81 = .ok (.if_icmp .ne 6, 3) := by decide +kernel
theorem d_Mod_collect_87 : decode b_Mod_collect 87 = .ok (.bipush 16, 2) := by decide +kernel
theorem d_Mod_collect_89 : decode b_Mod_collect 89 = .ok (.iload_n 1, 1) := by decide +kernel
theorem d_Mod_collect_90 : decode b_Mod_collect 90 = .ok (.imul, 1) := by decide +kernel
theorem d_Mod_collect_91 : decode b_Mod_collect 91 = .ok (.iload_n 3, 1) := by decide +kernel
theorem d_Mod_collect_92 : decode b_Mod_collect 92 = .ok (.iadd, 1) := by decide +kernel
theorem d_Mod_collect_93 : decode b_Mod_collect 93 = .ok (.istore 7, 2) := by decide +kernel
theorem d_Mod_collect_95 : decode b_Mod_collect 95 = .ok (.aload_n 0, 1) := by decide +kernel
theorem d_Mod_collect_96 : decode b_Mod_collect 96 = .ok (.getfield 336, 3) := by decide +kernel
theorem d_Mod_collect_99 : decode b_Mod_collect 99 = .ok (.iload 7, 2) := by decide +kernel
theorem d_Mod_collect_101 : decode b_Mod_collect 101 = .ok (.dup2, 1) := by decide +kernel
theorem d_Mod_collect_102 : decode b_Mod_collect 102 = .ok (.iaload, 1) := by decide +kernel
theorem d_Mod_collect_103 : decode b_Mod_collect 103 = .ok (.iconst 1, 1) := by decide +kernel
theorem d_Mod_collect_104 : decode b_Mod_collect 104 = .ok (.iadd, 1) := by decide +kernel
theorem d_Mod_collect_105 : decode b_Mod_collect 105 = .ok (.iastore, 1) := by decide +kernel
theorem d_Mod_collect_106 : decode b_Mod_collect 106 = .ok (.aload_n 0, 1) := by decide +kernel
theorem d_Mod_collect_107 : decode b_Mod_collect 107 = .ok (.getfield 354, 3) := by decide +kernel
theorem d_Mod_collect_110 : decode b_Mod_collect 110 = .ok (.iload 7, 2) := by decide +kernel
theorem d_Mod_collect_112 : decode b_Mod_collect 112 = .ok (.dup2, 1) := by decide +kernel
theorem d_Mod_collect_113 : decode b_Mod_collect 113 = .ok (.laload, 1) := by decide +kernel
theorem d_Mod_collect_114 : decode b_Mod_collect 114 = .ok (.aload_n 0, 1) := by decide +kernel
theorem d_Mod_collect_115 : decode b_Mod_collect 115 = .ok (.getfield 173, 3) := by decide +kernel
theorem d_Mod_collect_118 : decode b_Mod_collect 118 = .ok (.iload 6, 2) := by decide +kernel
theorem d_Mod_collect_120 : decode b_Mod_collect 120 = .ok (.laload, 1) := by decide +kernel
theorem d_Mod_collect_121 : decode b_Mod_collect 121 = .ok (.ladd, 1) := by decide +kernel
theorem d_Mod_collect_122 : decode b_Mod_collect 122 = .ok (.lastore, 1) := by decide +kernel
theorem d_Mod_collect_123 : decode b_Mod_collect 123 = .ok (.aload_n 0, 1) := by decide +kernel
theorem d_Mod_collect_124 : decode b_Mod_collect 124 = .ok (.getfield 339, 3) := by decide +kernel
theorem d_Mod_collect_127 : decode b_Mod_collect 127 = .ok (.iload 7, 2) := by decide +kernel
theorem d_Mod_collect_129 : decode b_Mod_collect 129 = .ok (.iaload, 1) := by decide +kernel
theorem d_Mod_collect_130 : decode b_Mod_collect 130 = .ok (.iconst (-1), 1) := by decide +kernel
theorem d_Mod_collect_131 : decode b_Mod_collect 131 = .ok (.if_icmp .ne 7, 3) := by decide +kernel
theorem d_Mod_collect_138 : decode b_Mod_collect 138 = .ok (.aload_n 0, 1) := by decide +kernel
theorem d_Mod_collect_139 : decode b_Mod_collect 139 = .ok (.aload_n 0, 1) := by decide +kernel
theorem d_Mod_collect_140 : decode b_Mod_collect 140 = .ok (.getfield 20, 3) := by decide +kernel
theorem d_Mod_collect_143 : decode b_Mod_collect 143 = .ok (.iconst 1, 1) := by decide +kernel
theorem d_Mod_collect_144 : decode b_Mod_collect 144 = .ok (.iload 5, 2) := by decide +kernel
theorem d_Mod_collect_146 : decode b_Mod_collect 146 = .ok (.invokestatic 412, 3) := by decide +kernel
theorem d_Mod_collect_149 : decode b_Mod_collect 149 = .ok (.iaload, 1) := by decide +kernel
theorem d_Mod_collect_150 : decode b_Mod_collect 150 = .ok (.iload 6, 2) := by decide +kernel
theorem d_Mod_collect_152 : decode b_Mod_collect 152 = .ok (.aload_n 0, 1) := by decide +kernel
theorem d_Mod_collect_153 : decode b_Mod_collect 153 = .ok (.getfield 339, 3) := by decide +kernel
theorem d_Mod_collect_156 : decode b_Mod_collect 156 = .ok (.iload 7, 2) := by decide +kernel
theorem d_Mod_collect_158 : decode b_Mod_collect 158 = .ok (.iaload, 1) := by decide +kernel
theorem d_Mod_collect_159 : decode b_Mod_collect 159 = .ok (.invokevirtual 905, 3) := by decide +kernel
theorem d_Mod_collect_134 : decode b_Mod_collect 134 = .ok (.iconst 0, 1) := by decide +kernel
theorem d_Mod_collect_135 : decode b_Mod_collect 135 = .ok (.goto 27, 3) := by decide +kernel
theorem d_Mod_collect_84 : decode b_Mod_collect 84 = .ok (.goto 119, 3) := by decide +kernel
theorem d_Mod_collect_12 : decode b_Mod_collect 12 = .ok (.iload_n 3, 1) := by decide +kernel
theorem d_Mod_collect_13 : decode b_Mod_collect 13 = .ok (.aload_n 0, 1) := by decide +kernel
theorem d_Mod_collect_14 : decode b_Mod_collect 14 = .ok (.getfield 252, 3) := by decide +kernel
theorem d_Mod_collect_17 : decode b_Mod_collect 17 = .ok (.iconst 4, 1) := by decide +kernel
theorem d_Mod_collect_18 : decode b_Mod_collect 18 = .ok (.aload_n 0, 1) := by decide +kernel
theorem d_Mod_collect_19 : decode b_Mod_collect 19 = .ok (.getfield 1062, 3) := by decide +kernel
theorem d_Mod_collect_22 : decode b_Mod_collect 22 = .ok (.imul, 1) := by decide +kernel
theorem d_Mod_collect_23 : decode b_Mod_collect 23 = .ok (.iaload, 1) := by decide +kernel
theorem d_Mod_collect_24 : decode b_Mod_collect 24 = .ok (.if_icmp .ge 185, 3) := by decide +kernel
theorem d_Mod_collect_209 : decode b_Mod_collect 209 = .ok (.return_, 1) := by decide +kernel
theorem d_Mod_collect_27 : decode b_Mod_collect 27 = .ok (.aload_n 0, 1) := by decide +kernel
theorem d_Mod_collect_28 : decode b_Mod_collect 28 = .ok (.getfield 255, 3) := by decide +kernel
theorem d_Mod_collect_31 : decode b_Mod_collect 31 = .ok (.bipush 16, 2) := by decide +kernel
theorem d_Mod_collect_33 : decode b_Mod_collect 33 = .ok (.aload_n 0, 1) := by decide +kernel
theorem d_Mod_collect_34 : decode b_Mod_collect 34 = .ok (.getfield 1062, 3) := by decide +kernel
theorem d_Mod_collect_37 : decode b_Mod_collect 37 = .ok (.imul, 1) := by decide +kernel
theorem d_Mod_collect_38 : decode b_Mod_collect 38 = .ok (.iload_n 3, 1) := by decide +kernel
theorem d_Mod_collect_39 : decode b_Mod_collect 39 = .ok (.iadd, 1) := by decide +kernel
theorem d_Mod_collect_40 : decode b_Mod_collect 40 = .ok (.iaload, 1) := by decide +kernel
theorem d_Mod_collect_41 : decode b_Mod_collect 41 = .ok (.istore 4, 2) := by decide +kernel
theorem d_Mod_collect_43 : decode b_Mod_collect 43 = .ok (.aload_n 0, 1) := by decide +kernel
theorem d_Mod_collect_44 : decode b_Mod_collect 44 = .ok (.getfield 258, 3) := by decide +kernel
theorem d_Mod_collect_47 : decode b_Mod_collect 47 = .ok (.bipush 16, 2) := by decide +kernel
theorem d_Mod_collect_49 : decode b_Mod_collect 49 = .ok (.aload_n 0, 1) := by decide +kernel
theorem d_Mod_collect_50 : decode b_Mod_collect 50 = .ok (.getfield 1062, 3) := by decide +kernel
theorem d_Mod_collect_53 : decode b_Mod_collect 53 = .ok (.imul, 1) := by decide +kernel
theorem d_Mod_collect_54 : decode b_Mod_collect 54 = .ok (.iload_n 3, 1) := by decide +kernel
theorem d_Mod_collect_55 : decode b_Mod_collect 55 = .ok (.iadd, 1) := by decide +kernel
theorem d_Mod_collect_56 : decode b_Mod_collect 56 = .ok (.iaload, 1) := by decide +kernel
theorem d_Mod_collect_57 : decode b_Mod_collect 57 = .ok (.istore 5, 2) := by decide +kernel
theorem d_Mod_collect_59 : decode b_Mod_collect 59 = .ok (.iload 4, 2) := by decide +kernel
theorem d_Mod_collect_61 : decode b_Mod_collect 61 = .ok (.iconst 2, 1) := by decide +kernel
theorem d_Mod_collect_62 : decode b_Mod_collect 62 = .ok (.if_icmp .ge 7, 3) := by decide +kernel
theorem d_Mod_collect_69 : decode b_Mod_collect 69 = .ok (.aload_n 0, 1) := by decide +kernel
theorem d_Mod_collect_70 : decode b_Mod_collect 70 = .ok (.iload 5, 2) := by decide +kernel
theorem d_Mod_collect_72 : decode b_Mod_collect 72 = .ok (.iload_n 2, 1) := by decide +kernel
theorem d_Mod_collect_73 : decode b_Mod_collect 73 = .ok (.invokevirtual 1080, 3) := by decide +kernel
theorem d_Mod_collect_65 : decode b_Mod_collect 65 = .ok (.iconst (-1), 1) := by decide +kernel
theorem d_Mod_collect_66 : decode b_Mod_collect 66 = .ok (.goto 10, 3) := by decide +kernel
theorem d_Mod_collect_0 : decode b_Mod_collect 0 = .ok (.aload_n 0, 1) := by decide +kernel
theorem d_Mod_collect_1 : decode b_Mod_collect 1 = .ok (.getfield 333, 3) := by decide +kernel
theorem d_Mod_collect_4 : decode b_Mod_collect 4 = .ok (.iload_n 1, 1) := by decide +kernel
theorem d_Mod_collect_5 : decode b_Mod_collect 5 = .ok (.dup2, 1) := by decide +kernel
theorem d_Mod_collect_6 : decode b_Mod_collect 6 = .ok (.iaload, 1) := by decide +kernel
theorem d_Mod_collect_7 : decode b_Mod_collect 7 = .ok (.iconst 1, 1) := by decide +kernel
theorem d_Mod_collect_8 : decode b_Mod_collect 8 = .ok (.iadd, 1) := by decide +kernel
theorem d_Mod_collect_9 : decode b_Mod_collect 9 = .ok (.iastore, 1) := by decide +kernel
theorem d_Mod_collect_10 : decode b_Mod_collect 10 = .ok (.iconst 0, 1) := by decide +kernel
theorem d_Mod_collect_11 : decode b_Mod_collect 11 = .ok (.istore_n 3, 1) := by decide +kernel
theorem d_Mod_collectAll_112 : decode b_Mod_collectAll 112 = .ok (.aload_n 0, 1) := by decide +kernel
theorem d_Mod_collectAll_113 : decode b_Mod_collectAll 113 = .ok (.iload_n 3, 1) := by decide +kernel
theorem d_Mod_collectAll_114 : decode b_Mod_collectAll 114 = .ok (.aload_n 0, 1) := by decide +kernel
theorem d_Mod_collectAll_115 : decode b_Mod_collectAll 115 = .ok (.getfield 324, 3) := by decide +kernel
theorem d_Mod_collectAll_118 : decode b_Mod_collectAll 118 = .ok (.iload_n 2, 1) := by decide +kernel
theorem d_Mod_collectAll_119 : decode b_Mod_collectAll 119 = .ok (.iaload, 1) := by decide +kernel
theorem d_Mod_collectAll_120 : decode b_Mod_collectAll 120 = .ok (.invokevirtual 1153, 3) := by decide +kernel
theorem d_Mod_collectAll_123 : decode b_Mod_collectAll 123 = .ok (.iinc 2 1, 3) := by decide +kernel
theorem d_Mod_collectAll_126 : decode b_Mod_collectAll 126 = .ok (.goto (-88), 3) := by decide +kernel
theorem d_Mod_collectAll_85 : decode b_Mod_collectAll 85 = .ok (.iload_n 3, 1) := by decide +kernel
theorem d_Mod_collectAll_86 : decode b_Mod_collectAll 86 = .ok (.sipush 500, 3) := by decide +kernel
theorem d_Mod_collectAll_89 : decode b_Mod_collectAll 89 = .ok (.if_icmp .ne 5, 3) := by decide +kernel
theorem d_Mod_collectAll_94 : decode b_Mod_collectAll 94 = .ok (.iload_n 3, 1) := by decide +kernel
theorem d_Mod_collectAll_95 : decode b_Mod_collectAll 95 = .ok (.aload_n 0, 1) := by decide +kernel
theorem d_Mod_collectAll_96 : decode b_Mod_collectAll 96 = .ok (.getfield 1144, 3) := by decide +kernel
theorem d_Mod_collectAll_99 : decode b_Mod_collectAll 99 = .ok (.if_icmp .ne 13, 3) := by decide +kernel
theorem d_Mod_collectAll_102 : decode b_Mod_collectAll 102 = .ok (.aload_n 0, 1) := by decide +kernel
theorem d_Mod_collectAll_103 : decode b_Mod_collectAll 103 = .ok (.aload_n 0, 1) := by decide +kernel
theorem d_Mod_collectAll_104 : decode b_Mod_collectAll 104 = .ok (.getfield 324, 3) := by decide +kernel
theorem d_Mod_collectAll_107 : decode b_Mod_collectAll 107 = .ok (.iload_n 2, 1) := by decide +kernel
theorem d_Mod_collectAll_108 : decode b_Mod_collectAll 108 = .ok (.iaload, 1) := by decide +kernel
theorem d_Mod_collectAll_109 : decode b_Mod_collectAll 109 = .ok (.invokevirtual 1147, 3) := by decide +kernel
theorem d_Mod_collectAll_92 : decode b_Mod_collectAll 92 = .ok (.iconst 0, 1) := by decide +kernel
theorem d_Mod_collectAll_93 : decode b_Mod_collectAll 93 = .ok (.ireturn, 1) := by decide +kernel
theorem d_Mod_collectAll_48 : decode b_Mod_collectAll 48 = .ok (.iload_n 1, 1) := by decide +kernel
theorem d_Mod_collectAll_49 : decode b_Mod_collectAll 49 = .ok (.ifCond .ne 36, 3) := by decide +kernel
theorem d_Mod_collectAll_52 : decode b_Mod_collectAll 52 = .ok (.iload_n 3, 1) := by decide +kernel
theorem d_Mod_collectAll_53 : decode b_Mod_collectAll 53 = .ok (.aload_n 0, 1) := by decide +kernel
theorem d_Mod_collectAll_54 : decode b_Mod_collectAll 54 = .ok (.getfield 1144, 3) := by decide +kernel
theorem d_Mod_collectAll_57 : decode b_Mod_collectAll 57 = .ok (.if_icmp .ge 28, 3) := by decide +kernel
theorem d_Mod_collectAll_60 : decode b_Mod_collectAll 60 = .ok (.aload_n 0, 1) := by decide +kernel
theorem d_Mod_collectAll_61 : decode b_Mod_collectAll 61 = .ok (.aload_n 0, 1) := by decide +kernel
theorem d_Mod_collectAll_62 : decode b_Mod_collectAll 62 = .ok (.getfield 330, 3) := by decide +kernel
theorem d_Mod_collectAll_65 : decode b_Mod_collectAll 65 = .ok (.iload_n 3, 1) := by decide +kernel
theorem d_Mod_collectAll_66 : decode b_Mod_collectAll 66 = .ok (.iaload, 1) := by decide +kernel
theorem d_Mod_collectAll_67 : decode b_Mod_collectAll 67 = .ok (.aload_n 0, 1) := by decide +kernel
theorem d_Mod_collectAll_68 : decode b_Mod_collectAll 68 = .ok (.getfield 324, 3) := by decide +kernel
theorem d_Mod_collectAll_71 : decode b_Mod_collectAll 71 = .ok (.iload_n 2, 1) := by decide +kernel
theorem d_Mod_collectAll_72 : decode b_Mod_collectAll 72 = .ok (.iaload, 1) := by decide +kernel
theorem d_Mod_collectAll_73 : decode b_Mod_collectAll 73 = .ok (.invokevirtual 1150, 3) := by decide +kernel
theorem d_Mod_collectAll_76 : decode b_Mod_collectAll 76 = .ok (.ifCond .ne 9, 3) := by decide +kernel
theorem d_Mod_collectAll_79 : decode b_Mod_collectAll 79 = .ok (.iinc 3 1, 3) := by decide +kernel
theorem d_Mod_collectAll_82 : decode b_Mod_collectAll 82 = .ok (.goto (-34), 3) := by decide +kernel
theorem d_Mod_collectAll_38 : decode b_Mod_collectAll 38 = .ok (.iload_n 2, 1) := by decide +kernel
theorem d_Mod_collectAll_39 : decode b_Mod_collectAll 39 = .ok (.aload_n 0, 1) := by decide +kernel
theorem d_Mod_collectAll_40 : decode b_Mod_collectAll 40 = .ok (.getfield 1120, 3) := by decide +kernel
theorem d_Mod_collectAll_43 : decode b_Mod_collectAll 43 = .ok (.if_icmp .ge 86, 3) := by decide +kernel
theorem d_Mod_collectAll_129 : decode b_Mod_collectAll 129 = .ok (.iconst 1, 1) := by decide +kernel
theorem d_Mod_collectAll_130 : decode b_Mod_collectAll 130 = .ok (.ireturn, 1) := by decide +kernel
theorem d_Mod_collectAll_46 : decode b_Mod_collectAll 46 = .ok (.iconst 0, 1) := by decide +kernel
theorem d_Mod_collectAll_47 : decode b_Mod_collectAll 47 = .ok (.istore_n 3, 1) := by decide +kernel
theorem d_Mod_collectAll_36 : decode b_Mod_collectAll 36 = .ok (.iconst 0, 1) := by decide +kernel
theorem d_Mod_collectAll_37 : decode b_Mod_collectAll 37 = .ok (.istore_n 2, 1) := by decide +kernel
theorem d_Mod_collectAll_26 : decode b_Mod_collectAll 26 = .ok (.istore_n 1, 1) := by decide +kernel
theorem d_Mod_collectAll_27 : decode b_Mod_collectAll 27 = .ok (.iload_n 1, 1) := by decide +kernel
theorem d_Mod_collectAll_28 : decode b_Mod_collectAll 28 = .ok (.ifCond .eq 8, 3) := by decide +kernel
theorem d_Mod_collectAll_31 : decode b_Mod_collectAll 31 = .ok (.aload_n 0, 1) := by decide +kernel
theorem d_Mod_collectAll_32 : decode b_Mod_collectAll 32 = .ok (.iconst (-1), 1) := by decide +kernel
theorem d_Mod_collectAll_33 : decode b_Mod_collectAll 33 = .ok (.invokevirtual 1147, 3) := by decide +kernel
theorem d_Mod_collectAll_0 : decode b_Mod_collectAll 0 = .ok (.aload_n 0, 1) := by decide +kernel
theorem d_Mod_collectAll_1 : decode b_Mod_collectAll 1 = .ok (.iconst 0, 1) := by decide +kernel
theorem d_Mod_collectAll_2 : decode b_Mod_collectAll 2 = .ok (.putfield 1144, 3) := by decide +kernel
theorem d_Mod_collectAll_5 : decode b_Mod_collectAll 5 = .ok (.aload_n 0, 1) := by decide +kernel
theorem d_Mod_collectAll_6 : decode b_Mod_collectAll 6 = .ok (.getfield 252, 3) := by decide +kernel
theorem d_Mod_collectAll_9 : decode b_Mod_collectAll 9 = .ok (.iconst 4, 1) := by decide +kernel
theorem d_Mod_collectAll_10 : decode b_Mod_collectAll 10 = .ok (.aload_n 0, 1) := by decide +kernel
theorem d_Mod_collectAll_11 : decode b_Mod_collectAll 11 = .ok (.getfield 1062, 3) := by decide +kernel
theorem d_Mod_collectAll_14 : decode b_Mod_collectAll 14 = .ok (.imul, 1) := by decide +kernel
theorem d_Mod_collectAll_15 : decode b_Mod_collectAll 15 = .ok (.iconst 1, 1) := by decide +kernel
theorem d_Mod_collectAll_16 : decode b_Mod_collectAll 16 = .ok (.iadd, 1) := by decide +kernel
theorem d_Mod_collectAll_17 : decode b_Mod_collectAll 17 = .ok (.iaload, 1) := by decide +kernel
theorem d_Mod_collectAll_18 : decode b_Mod_collectAll 18 = .ok (.ifCond .ne 7, 3) := by decide +kernel
theorem d_Mod_collectAll_25 : decode b_Mod_collectAll 25 = .ok (.iconst 0, 1) := by decide +kernel
theorem d_Mod_collectAll_21 : decode b_Mod_collectAll 21 = .ok (.iconst 1, 1) := by decide +kernel
theorem d_Mod_collectAll_22 : decode b_Mod_collectAll 22 = .ok (.goto 4, 3) := by decide +kernel
section
variable (l : Launch) (dC : Nat → ClassId) (dI : Nat → Nat → Nat) (cI cB cJ cZ : ClassId)
set_option maxRecDepth 100000 in
set_option maxHeartbeats 4000000 in
set_option maxRecDepth 100000 in
theorem t_Mod_newGroup_22 {p : Program} {l : Launch} {e : Env} {R : Room} {s : State} {m : MethodId} {args : Array Value} {below : List Frame} {meth : Method} {c : Code} {cells slots : Nat} {Q : State → Prop} {dC : Nat → ClassId} {dI : Nat → Nat → Nat} {cI cB cJ cZ : ClassId} {A : Nat → Prop} {ad : Nat → Nat} {post : St → Prop} {rec22 : Int32 → Int32 → St → Prop} (hx : p.tables.exec = Jvm.exec) (hb : c.code = b_Mod_newGroup) (hml : c.maxLocals = 3) (hown : s.vm.findClass R_Mod = some m.cls) (hT : ∀ w ∈ TG, w.before args s = true) (hK : va_K (dC, dI) CL (TY cI cB cJ cZ) s) (hN : NW s) (hA : ∀ q : Nat, s.heap.size ≤ q → A q) (hRc : cells ≤ R.cells) (hRs : slots ≤ R.slots) (hRf : 0 ≤ R.frames) (hRl : 0 ≤ R.locals) (hret : ∀ (x : St) (H : Heap) (locs : List Loc) (pc : Nat) (ls : Array Slot), decode b_Mod_newGroup pc = .ok (.return_, 1) → post x → Wd dC dI cI cB cJ cZ ad stM kcM 115 A x H → va_S A s.heap H locs → W p l e R s m args below meth c H locs cells slots Q (F0 m pc ls [])) (hrec22 : ∀ (l1 : Int32) (l2 : Int32) (x : St) (H : Heap) (locs : List Loc) (ls : Array Slot), rec22 l1 l2 x → Wd dC dI cI cB cJ cZ ad stM kcM 115 A x H → va_S A s.heap H locs → lv_has ls 3 [(0, .ref (ad 0)), (1, .int l1), (2, .int l2)] → W p l e R s m args below meth c H locs cells slots Q (F0 m 22 ls [])) : ∀ (l1 : Int32) (l2 : Int32) (x : St) (H : Heap) (locs : List Loc) (ls : Array Slot), j_Mod_newGroup_22 post rec22 l1 l2 x → Wd dC dI cI cB cJ cZ ad stM kcM 115 A x H → va_S A s.heap H locs → lv_has ls 3 [(0, .ref (ad 0)), (1, .int l1), (2, .int l2)] → W p l e R s m args below meth c H locs cells slots Q (F0 m 22 ls []) := by
  intro l1 l2 x H locs ls  hw hW hS hl
  unfold j_Mod_newGroup_22 at hw
  refine lv_iload_n hx hb d_Mod_newGroup_22 rfl (lv_at hl 2 rfl) ?_
  refine lv_bipush (v := 16) hx hb d_Mod_newGroup_23 (by decide) ?_
  refine lv_icmp_ge (tgt := 79) hx hb d_Mod_newGroup_25 (by decide) (fun c2541 => ?_) (fun c2541 => ?_)
  · have hw := hw.1 c2541
    refine lv_aload_n hx hb d_Mod_newGroup_79 rfl (lv_at hl 0 rfl) ?_
    refine lv_dup hx hb d_Mod_newGroup_80 rfl ?_
    refine w_geti (k := 162) (t := 12) (C := R_Mod) (T := F_Mod) (N := 167) hx hb hT hown hK hW ko_0.1 ko_0.2 (by decide) in_Mod rfl rfl (by decide) rfl fr_Mod_162 w_9_98 d_Mod_newGroup_81 ?_
    refine lv_iconst (v := 1) hx hb d_Mod_newGroup_84 (by decide) ?_
    refine lv_iadd hx hb d_Mod_newGroup_85 ?_
    refine w_puti (ty := .int) (k := 162) (t := 12) (C := R_Mod) (T := F_Mod) (N := 167) hx hb hT hown hK hW hS ko_0.1 ko_0.2 (by decide) in_Mod t_Mod t_Mod_ok n_Mod rfl rfl (by decide) rfl fr_Mod_162 w_9_98 (by decide +kernel) rfl rfl d_Mod_newGroup_86 (fun H locs hW hS => ?_)
    obtain ⟨x2542, ex2542⟩ : ∃ y : St, y = setI x 0 162 ((fI x 0 162) + 1) := ⟨_, rfl⟩
    rw [← ex2542] at hW
    have hw := hw x2542 ex2542
    exact hret x2542 H locs 89 ls d_Mod_newGroup_89 hw hW hS
  · have hw := hw.2 c2541
    refine lv_aload_n hx hb d_Mod_newGroup_28 rfl (lv_at hl 0 rfl) ?_
    refine w_getf (q := 107) (k := 152) (t := 12) (C := R_Mod) (T := F_Mod) (N := 167) hx hb hT hown hK hW ko_0.1 ko_0.2 (by decide) in_Mod rfl rfl (by decide) rfl fr_Mod_152 w_9_88 d_Mod_newGroup_29 rfl ?_
    refine lv_bipush (v := 16) hx hb d_Mod_newGroup_32 (by decide) ?_
    refine lv_aload_n hx hb d_Mod_newGroup_34 rfl (lv_at hl 0 rfl) ?_
    refine w_geti (k := 162) (t := 12) (C := R_Mod) (T := F_Mod) (N := 167) hx hb hT hown hK hW ko_0.1 ko_0.2 (by decide) in_Mod rfl rfl (by decide) rfl fr_Mod_162 w_9_98 d_Mod_newGroup_35 ?_
    refine lv_imul hx hb d_Mod_newGroup_38 ?_
    refine lv_iload_n hx hb d_Mod_newGroup_39 rfl (lv_at hl 2 rfl) ?_
    refine lv_iadd hx hb d_Mod_newGroup_40 ?_
    refine lv_iconst (v := 0) hx hb d_Mod_newGroup_41 (by decide) ?_
    obtain ⟨hi, hw⟩ := hw
    refine w_iast (o := 107) hx hb hK hW hS ko_107.1 ko_107.2 hi d_Mod_newGroup_42 (fun H locs hW hS => ?_)
    obtain ⟨x2543, ex2543⟩ : ∃ y : St, y = setA x 107 ((16 * (fI x 0 162)) + l2) 0 := ⟨_, rfl⟩
    rw [← ex2543] at hW
    have hw := hw x2543 ex2543
    refine lv_aload_n hx hb d_Mod_newGroup_43 rfl (lv_at hl 0 rfl) ?_
    refine w_getf (q := 113) (k := 158) (t := 12) (C := R_Mod) (T := F_Mod) (N := 167) hx hb hT hown hK hW ko_0.1 ko_0.2 (by decide) in_Mod rfl rfl (by decide) rfl fr_Mod_158 w_9_94 d_Mod_newGroup_44 rfl ?_
    refine lv_bipush (v := 16) hx hb d_Mod_newGroup_47 (by decide) ?_
    refine lv_aload_n hx hb d_Mod_newGroup_49 rfl (lv_at hl 0 rfl) ?_
    refine w_geti (k := 162) (t := 12) (C := R_Mod) (T := F_Mod) (N := 167) hx hb hT hown hK hW ko_0.1 ko_0.2 (by decide) in_Mod rfl rfl (by decide) rfl fr_Mod_162 w_9_98 d_Mod_newGroup_50 ?_
    refine lv_imul hx hb d_Mod_newGroup_53 ?_
    refine lv_iload_n hx hb d_Mod_newGroup_54 rfl (lv_at hl 2 rfl) ?_
    refine lv_iadd hx hb d_Mod_newGroup_55 ?_
    refine lv_lconst (v := 0) hx hb d_Mod_newGroup_56 (by decide) ?_
    obtain ⟨hi, hw⟩ := hw
    refine w_last (o := 113) hx hb hK hW hS ko_113.1 ko_113.2 hi d_Mod_newGroup_57 (fun H locs hW hS => ?_)
    obtain ⟨x2544, ex2544⟩ : ∃ y : St, y = setL x2543 113 ((16 * (fI x2543 0 162)) + l2) 0 := ⟨_, rfl⟩
    rw [← ex2544] at hW
    have hw := hw x2544 ex2544
    refine lv_aload_n hx hb d_Mod_newGroup_58 rfl (lv_at hl 0 rfl) ?_
    refine w_getf (q := 108) (k := 153) (t := 12) (C := R_Mod) (T := F_Mod) (N := 167) hx hb hT hown hK hW ko_0.1 ko_0.2 (by decide) in_Mod rfl rfl (by decide) rfl fr_Mod_153 w_9_89 d_Mod_newGroup_59 rfl ?_
    refine lv_bipush (v := 16) hx hb d_Mod_newGroup_62 (by decide) ?_
    refine lv_aload_n hx hb d_Mod_newGroup_64 rfl (lv_at hl 0 rfl) ?_
    refine w_geti (k := 162) (t := 12) (C := R_Mod) (T := F_Mod) (N := 167) hx hb hT hown hK hW ko_0.1 ko_0.2 (by decide) in_Mod rfl rfl (by decide) rfl fr_Mod_162 w_9_98 d_Mod_newGroup_65 ?_
    refine lv_imul hx hb d_Mod_newGroup_68 ?_
    refine lv_iload_n hx hb d_Mod_newGroup_69 rfl (lv_at hl 2 rfl) ?_
    refine lv_iadd hx hb d_Mod_newGroup_70 ?_
    refine lv_iconst (v := (-1)) hx hb d_Mod_newGroup_71 (by decide) ?_
    obtain ⟨hi, hw⟩ := hw
    refine w_iast (o := 108) hx hb hK hW hS ko_108.1 ko_108.2 hi d_Mod_newGroup_72 (fun H locs hW hS => ?_)
    obtain ⟨x2545, ex2545⟩ : ∃ y : St, y = setA x2544 108 ((16 * (fI x2544 0 162)) + l2) (-1) := ⟨_, rfl⟩
    rw [← ex2545] at hW
    have hw := hw x2545 ex2545
    refine lv_iinc (v := (l2 + 1)) (lv' := [(2, .int (l2 + 1)), (0, .ref (ad 0)), (1, .int l1)]) hx hb d_Mod_newGroup_73 hl (k := 2) rfl rfl (by decide) rfl (fun ls hl => ?_)
    refine lv_goto (tgt := 22) hx hb d_Mod_newGroup_76 (by decide) ?_
    exact hrec22 l1 (l2 + 1) x2545 H locs ls  hw hW hS (lv_sub hl [1, 2, 0] rfl)
set_option maxHeartbeats 4000000 in
set_option maxRecDepth 100000 in
theorem tl_Mod_newGroup_22 {p : Program} {l : Launch} {e : Env} {R : Room} {s : State} {m : MethodId} {args : Array Value} {below : List Frame} {meth : Method} {c : Code} {cells slots : Nat} {Q : State → Prop} {dC : Nat → ClassId} {dI : Nat → Nat → Nat} {cI cB cJ cZ : ClassId} {A : Nat → Prop} {ad : Nat → Nat} {post : St → Prop} (hx : p.tables.exec = Jvm.exec) (hb : c.code = b_Mod_newGroup) (hml : c.maxLocals = 3) (hown : s.vm.findClass R_Mod = some m.cls) (hT : ∀ w ∈ TG, w.before args s = true) (hK : va_K (dC, dI) CL (TY cI cB cJ cZ) s) (hN : NW s) (hA : ∀ q : Nat, s.heap.size ≤ q → A q) (hRc : cells ≤ R.cells) (hRs : slots ≤ R.slots) (hRf : 0 ≤ R.frames) (hRl : 0 ≤ R.locals) (hret : ∀ (x : St) (H : Heap) (locs : List Loc) (pc : Nat) (ls : Array Slot), decode b_Mod_newGroup pc = .ok (.return_, 1) → post x → Wd dC dI cI cB cJ cZ ad stM kcM 115 A x H → va_S A s.heap H locs → W p l e R s m args below meth c H locs cells slots Q (F0 m pc ls []))  : ∀ n : Nat, ∀ (l1 : Int32) (l2 : Int32) (x : St) (H : Heap) (locs : List Loc) (ls : Array Slot), wl_Mod_newGroup_22 post n l1 l2 x → Wd dC dI cI cB cJ cZ ad stM kcM 115 A x H → va_S A s.heap H locs → lv_has ls 3 [(0, .ref (ad 0)), (1, .int l1), (2, .int l2)] → W p l e R s m args below meth c H locs cells slots Q (F0 m 22 ls []) := by
  intro n
  induction n with
  | zero => intro l1 l2 x H locs ls  hw; exact hw.elim
  | succ n ih => intro l1 l2 x H locs ls  hw hW hS hl; exact t_Mod_newGroup_22 hx hb hml hown hT hK hN hA hRc hRs hRf hRl hret  ih l1 l2 x H locs ls  hw hW hS hl
set_option maxRecDepth 100000 in
set_option maxHeartbeats 4000000 in
set_option maxRecDepth 100000 in
theorem t_Mod_newGroup_e {p : Program} {l : Launch} {e : Env} {R : Room} {s : State} {m : MethodId} {args : Array Value} {below : List Frame} {meth : Method} {c : Code} {cells slots : Nat} {Q : State → Prop} {dC : Nat → ClassId} {dI : Nat → Nat → Nat} {cI cB cJ cZ : ClassId} {A : Nat → Prop} {ad : Nat → Nat} {post : St → Prop} (hx : p.tables.exec = Jvm.exec) (hb : c.code = b_Mod_newGroup) (hml : c.maxLocals = 3) (hown : s.vm.findClass R_Mod = some m.cls) (hT : ∀ w ∈ TG, w.before args s = true) (hK : va_K (dC, dI) CL (TY cI cB cJ cZ) s) (hN : NW s) (hA : ∀ q : Nat, s.heap.size ≤ q → A q) (hRc : cells ≤ R.cells) (hRs : slots ≤ R.slots) (hRf : 0 ≤ R.frames) (hRl : 0 ≤ R.locals) (hret : ∀ (x : St) (H : Heap) (locs : List Loc) (pc : Nat) (ls : Array Slot), decode b_Mod_newGroup pc = .ok (.return_, 1) → post x → Wd dC dI cI cB cJ cZ ad stM kcM 115 A x H → va_S A s.heap H locs → W p l e R s m args below meth c H locs cells slots Q (F0 m pc ls [])) : ∀ (l1 : Int32) (x : St) (H : Heap) (locs : List Loc) (ls : Array Slot), wp_Mod_newGroup post l1 x → Wd dC dI cI cB cJ cZ ad stM kcM 115 A x H → va_S A s.heap H locs → lv_has ls 3 [(0, .ref (ad 0)), (1, .int l1)] → W p l e R s m args below meth c H locs cells slots Q (F0 m 0 ls []) := by
  intro l1 x H locs ls  hw hW hS hl
  unfold wp_Mod_newGroup at hw
  refine lv_aload_n hx hb d_Mod_newGroup_0 rfl (lv_at hl 0 rfl) ?_
  refine w_getf (q := 105) (k := 150) (t := 12) (C := R_Mod) (T := F_Mod) (N := 167) hx hb hT hown hK hW ko_0.1 ko_0.2 (by decide) in_Mod rfl rfl (by decide) rfl fr_Mod_150 w_9_86 d_Mod_newGroup_1 rfl ?_
  refine lv_aload_n hx hb d_Mod_newGroup_4 rfl (lv_at hl 0 rfl) ?_
  refine w_geti (k := 162) (t := 12) (C := R_Mod) (T := F_Mod) (N := 167) hx hb hT hown hK hW ko_0.1 ko_0.2 (by decide) in_Mod rfl rfl (by decide) rfl fr_Mod_162 w_9_98 d_Mod_newGroup_5 ?_
  refine lv_iload_n hx hb d_Mod_newGroup_8 rfl (lv_at hl 1 rfl) ?_
  obtain ⟨hi, hw⟩ := hw
  refine w_iast (o := 105) hx hb hK hW hS ko_105.1 ko_105.2 hi d_Mod_newGroup_9 (fun H locs hW hS => ?_)
  obtain ⟨x2546, ex2546⟩ : ∃ y : St, y = setA x 105 (fI x 0 162) l1 := ⟨_, rfl⟩
  rw [← ex2546] at hW
  have hw := hw x2546 ex2546
  refine lv_aload_n hx hb d_Mod_newGroup_10 rfl (lv_at hl 0 rfl) ?_
  refine w_getf (q := 106) (k := 151) (t := 12) (C := R_Mod) (T := F_Mod) (N := 167) hx hb hT hown hK hW ko_0.1 ko_0.2 (by decide) in_Mod rfl rfl (by decide) rfl fr_Mod_151 w_9_87 d_Mod_newGroup_11 rfl ?_
  refine lv_aload_n hx hb d_Mod_newGroup_14 rfl (lv_at hl 0 rfl) ?_
  refine w_geti (k := 162) (t := 12) (C := R_Mod) (T := F_Mod) (N := 167) hx hb hT hown hK hW ko_0.1 ko_0.2 (by decide) in_Mod rfl rfl (by decide) rfl fr_Mod_162 w_9_98 d_Mod_newGroup_15 ?_
  refine lv_iconst (v := 0) hx hb d_Mod_newGroup_18 (by decide) ?_
  obtain ⟨hi, hw⟩ := hw
  refine w_iast (o := 106) hx hb hK hW hS ko_106.1 ko_106.2 hi d_Mod_newGroup_19 (fun H locs hW hS => ?_)
  obtain ⟨x2547, ex2547⟩ : ∃ y : St, y = setA x2546 106 (fI x2546 0 162) 0 := ⟨_, rfl⟩
  rw [← ex2547] at hW
  have hw := hw x2547 ex2547
  refine lv_iconst (v := 0) hx hb d_Mod_newGroup_20 (by decide) ?_
  refine lv_istore_n (lv' := [(2, .int 0), (0, .ref (ad 0)), (1, .int l1)]) hx hb d_Mod_newGroup_21 rfl hl (by decide) rfl (fun ls hl => ?_)
  obtain ⟨n, hw⟩ := hw
  exact tl_Mod_newGroup_22 hx hb hml hown hT hK hN hA hRc hRs hRf hRl hret  n l1 0 x2547 H locs ls  hw hW hS (lv_sub hl [1, 2, 0] rfl)
set_option maxHeartbeats 4000000 in
set_option maxRecDepth 100000 in
theorem k_Mod_newGroup (l : Launch) (dC : Nat → ClassId) (dI : Nat → Nat → Nat) (cI cB cJ cZ : ClassId) (ad : Nat → Nat) (sz : Nat) (l1 : Int32) (x : St) {post : St → Prop} (hw : wp_Mod_newGroup post l1 x) : Met l y_Mod_newGroup (wsOf y_Mod_newGroup b_Mod_newGroup 3 (none)) ({ frames := 0, cells := 0, slots := 0, locals := 0 }) (va_Pc [.ref (ad 0), .int l1] (PW dC dI cI cB cJ cZ ad stM kcM 115 sz x)) (va_Qv (fun (y : St) => post y) (fun y t => Wd dC dI cI cB cJ cZ ad stM kcM 115 (va_A (pic ad stM kcM 115 cI cB cJ cZ x) sz) y t.heap) (va_A (pic ad stM kcM 115 cI cB cJ cZ x) sz)) 0 0 (va_A (pic ad stM kcM 115 cI cB cJ cZ x) sz) := by
  refine Met.ofW (cc := b_Mod_newGroup) (maxL := 3) (ret := none) (by decide) rfl ?_
  intro p e s m args below meth c s₁ B hml hv
  obtain ⟨rfl, hsz, hW0, hK, hN⟩ := hv
  have hx := B.exec
  have hb := B.bytes
  have hr := B.returns
  have hts := atoms_spec B.pre
  have hT : ∀ w ∈ TG, w.before _ s = true := fun w h => hts w (List.mem_cons_of_mem _ h)
  have hown : s.vm.findClass R_Mod = some m.cls := findClass_of_methodNamed B.named
  have hlocks := B.notSynchronized
  subst hsz
  have hW : Wd dC dI cI cB cJ cZ ad stM kcM 115 (va_A (pic ad stM kcM 115 cI cB cJ cZ x) s.heap.size) x s.heap := ⟨hW0.1, hW0.2.1.self (sz := s.heap.size), hW0.2.2⟩
  generalize hAe : va_A (pic ad stM kcM 115 cI cB cJ cZ x) s.heap.size = A at hW ⊢
  have hA : ∀ q : Nat, s.heap.size ≤ q → A q := fun q h => by rw [← hAe]; exact Or.inr h
  have hS : va_S A s.heap s.heap [] := va_S.rf
  have hl := lv_entry ([.ref (ad 0), .int l1]) (n := 3) (Nat.le_of_ble_eq_true rfl)
  rw [lg_entry_eq]
  generalize (lg_sl ([.ref (ad 0), .int l1]) ++ List.replicate (3 - (lg_sl ([.ref (ad 0), .int l1])).length) Slot.unset).toArray = ls at hl ⊢
  have hl : lv_has ls 3 [(0, .ref (ad 0)), (1, .int l1)] := hl
  exact t_Mod_newGroup_e hx hb hml hown hT hK hN hA (Nat.le_refl 0) (Nat.le_refl 0) (Nat.le_refl 0) (Nat.le_refl 0) (fun x H locs pc ls hd hp hW hS => W.vret hx hb hr (fun t ht hM => ⟨⟨x, rfl, hp, Wd.back hW ht.symm (fun _ z => z)⟩, hS.F ht⟩) hS.2.2 hd hlocks)  l1 x _ _ ls  hw hW hS hl
set_option maxRecDepth 100000 in
set_option maxHeartbeats 4000000 in
set_option maxRecDepth 100000 in
theorem t_Mod_sameBy_111 {p : Program} {l : Launch} {e : Env} {R : Room} {s : State} {m : MethodId} {args : Array Value} {below : List Frame} {meth : Method} {c : Code} {cells slots : Nat} {Q : State → Prop} {dC : Nat → ClassId} {dI : Nat → Nat → Nat} {cI cB cJ cZ : ClassId} {A : Nat → Prop} {ad : Nat → Nat} {post : Int32 → St → Prop} {rec5 : Int32 → Int32 → Int32 → Int32 → St → Prop} (hx : p.tables.exec = Jvm.exec) (hb : c.code = b_Mod_sameBy) (hml : c.maxLocals = 8) (hown : s.vm.findClass R_Mod = some m.cls) (hT : ∀ w ∈ TG, w.before args s = true) (hK : va_K (dC, dI) CL (TY cI cB cJ cZ) s) (hN : NW s) (hA : ∀ q : Nat, s.heap.size ≤ q → A q) (hRc : cells ≤ R.cells) (hRs : slots ≤ R.slots) (hRf : 2 ≤ R.frames) (hRl : 46 ≤ R.locals) (hret : ∀ (r : Int32) (x : St) (H : Heap) (locs : List Loc) (pc : Nat) (ls : Array Slot), decode b_Mod_sameBy pc = .ok (.ireturn, 1) → narrow .boolean (.int r) = .int r → post r x → Wd dC dI cI cB cJ cZ ad stM kcM 115 A x H → va_S A s.heap H locs → W p l e R s m args below meth c H locs cells slots Q (F0 m pc ls [.int r])) (hrec5 : ∀ (l1 : Int32) (l2 : Int32) (l3 : Int32) (l4 : Int32) (x : St) (H : Heap) (locs : List Loc) (ls : Array Slot), rec5 l1 l2 l3 l4 x → Wd dC dI cI cB cJ cZ ad stM kcM 115 A x H → va_S A s.heap H locs → lv_has ls 8 [(0, .ref (ad 0)), (1, .int l1), (2, .int l2), (3, .int l3), (4, .int l4)] → W p l e R s m args below meth c H locs cells slots Q (F0 m 5 ls [])) : ∀ (l1 : Int32) (l2 : Int32) (l3 : Int32) (l4 : Int32) (l5 : Int32) (l6 : Int32) (l7 : Int32) (s0 : Int32) (x : St) (H : Heap) (locs : List Loc) (ls : Array Slot), j_Mod_sameBy_111 post rec5 l1 l2 l3 l4 l5 l6 l7 s0 x → Wd dC dI cI cB cJ cZ ad stM kcM 115 A x H → va_S A s.heap H locs → lv_has ls 8 [(0, .ref (ad 0)), (1, .int l1), (2, .int l2), (3, .int l3), (4, .int l4), (5, .int l5), (6, .int l6), (7, .int l7)] → W p l e R s m args below meth c H locs cells slots Q (F0 m 111 ls [.int s0]) := by
  intro l1 l2 l3 l4 l5 l6 l7 s0 x H locs ls  hw hW hS hl
  unfold j_Mod_sameBy_111 at hw
  refine lv_istore_n (lv' := [(3, .int s0), (0, .ref (ad 0)), (1, .int l1), (2, .int l2), (4, .int l4), (5, .int l5), (6, .int l6), (7, .int l7)]) hx hb d_Mod_sameBy_111 rfl hl (by decide) rfl (fun ls hl => ?_)
  refine lv_iinc (v := (l4 + 1)) (lv' := [(4, .int (l4 + 1)), (3, .int s0), (0, .ref (ad 0)), (1, .int l1), (2, .int l2), (5, .int l5), (6, .int l6), (7, .int l7)]) hx hb d_Mod_sameBy_112 hl (k := 4) rfl rfl (by decide) rfl (fun ls hl => ?_)
  refine lv_goto (tgt := 5) hx hb d_Mod_sameBy_115 (by decide) ?_
  exact hrec5 l1 l2 s0 (l4 + 1) x H locs ls  hw hW hS (lv_sub hl [2, 3, 4, 1, 0] rfl)
set_option maxRecDepth 100000 in
set_option maxHeartbeats 4000000 in
set_option maxRecDepth 100000 in
theorem t_Mod_sameBy_110 {p : Program} {l : Launch} {e : Env} {R : Room} {s : State} {m : MethodId} {args : Array Value} {below : List Frame} {meth : Method} {c : Code} {cells slots : Nat} {Q : State → Prop} {dC : Nat → ClassId} {dI : Nat → Nat → Nat} {cI cB cJ cZ : ClassId} {A : Nat → Prop} {ad : Nat → Nat} {post : Int32 → St → Prop} {rec5 : Int32 → Int32 → Int32 → Int32 → St → Prop} (hx : p.tables.exec = Jvm.exec) (hb : c.code = b_Mod_sameBy) (hml : c.maxLocals = 8) (hown : s.vm.findClass R_Mod = some m.cls) (hT : ∀ w ∈ TG, w.before args s = true) (hK : va_K (dC, dI) CL (TY cI cB cJ cZ) s) (hN : NW s) (hA : ∀ q : Nat, s.heap.size ≤ q → A q) (hRc : cells ≤ R.cells) (hRs : slots ≤ R.slots) (hRf : 2 ≤ R.frames) (hRl : 46 ≤ R.locals) (hret : ∀ (r : Int32) (x : St) (H : Heap) (locs : List Loc) (pc : Nat) (ls : Array Slot), decode b_Mod_sameBy pc = .ok (.ireturn, 1) → narrow .boolean (.int r) = .int r → post r x → Wd dC dI cI cB cJ cZ ad stM kcM 115 A x H → va_S A s.heap H locs → W p l e R s m args below meth c H locs cells slots Q (F0 m pc ls [.int r])) (hrec5 : ∀ (l1 : Int32) (l2 : Int32) (l3 : Int32) (l4 : Int32) (x : St) (H : Heap) (locs : List Loc) (ls : Array Slot), rec5 l1 l2 l3 l4 x → Wd dC dI cI cB cJ cZ ad stM kcM 115 A x H → va_S A s.heap H locs → lv_has ls 8 [(0, .ref (ad 0)), (1, .int l1), (2, .int l2), (3, .int l3), (4, .int l4)] → W p l e R s m args below meth c H locs cells slots Q (F0 m 5 ls [])) : ∀ (l1 : Int32) (l2 : Int32) (l3 : Int32) (l4 : Int32) (l5 : Int32) (l6 : Int32) (l7 : Int32) (x : St) (H : Heap) (locs : List Loc) (ls : Array Slot), j_Mod_sameBy_110 post rec5 l1 l2 l3 l4 l5 l6 l7 x → Wd dC dI cI cB cJ cZ ad stM kcM 115 A x H → va_S A s.heap H locs → lv_has ls 8 [(0, .ref (ad 0)), (1, .int l1), (2, .int l2), (3, .int l3), (4, .int l4), (5, .int l5), (6, .int l6), (7, .int l7)] → W p l e R s m args below meth c H locs cells slots Q (F0 m 110 ls []) := by
  intro l1 l2 l3 l4 l5 l6 l7 x H locs ls  hw hW hS hl
  unfold j_Mod_sameBy_110 at hw
  refine lv_iconst (v := 0) hx hb d_Mod_sameBy_110 (by decide) ?_
  exact t_Mod_sameBy_111 hx hb hml hown hT hK hN hA hRc hRs hRf hRl hret hrec5 l1 l2 l3 l4 l5 l6 l7 0 x H locs ls  hw hW hS (lv_sub hl [0, 1, 2, 3, 4, 5, 6, 7] rfl)
set_option maxRecDepth 100000 in
set_option maxHeartbeats 4000000 in
set_option maxRecDepth 100000 in
theorem t_Mod_sameBy_106 {p : Program} {l : Launch} {e : Env} {R : Room} {s : State} {m : MethodId} {args : Array Value} {below : List Frame} {meth : Method} {c : Code} {cells slots : Nat} {Q : State → Prop} {dC : Nat → ClassId} {dI : Nat → Nat → Nat} {cI cB cJ cZ : ClassId} {A : Nat → Prop} {ad : Nat → Nat} {post : Int32 → St → Prop} {rec5 : Int32 → Int32 → Int32 → Int32 → St → Prop} (hx : p.tables.exec = Jvm.exec) (hb : c.code = b_Mod_sameBy) (hml : c.maxLocals = 8) (hown : s.vm.findClass R_Mod = some m.cls) (hT : ∀ w ∈ TG, w.before args s = true) (hK : va_K (dC, dI) CL (TY cI cB cJ cZ) s) (hN : NW s) (hA : ∀ q : Nat, s.heap.size ≤ q → A q) (hRc : cells ≤ R.cells) (hRs : slots ≤ R.slots) (hRf : 2 ≤ R.frames) (hRl : 46 ≤ R.locals) (hret : ∀ (r : Int32) (x : St) (H : Heap) (locs : List Loc) (pc : Nat) (ls : Array Slot), decode b_Mod_sameBy pc = .ok (.ireturn, 1) → narrow .boolean (.int r) = .int r → post r x → Wd dC dI cI cB cJ cZ ad stM kcM 115 A x H → va_S A s.heap H locs → W p l e R s m args below meth c H locs cells slots Q (F0 m pc ls [.int r])) (hrec5 : ∀ (l1 : Int32) (l2 : Int32) (l3 : Int32) (l4 : Int32) (x : St) (H : Heap) (locs : List Loc) (ls : Array Slot), rec5 l1 l2 l3 l4 x → Wd dC dI cI cB cJ cZ ad stM kcM 115 A x H → va_S A s.heap H locs → lv_has ls 8 [(0, .ref (ad 0)), (1, .int l1), (2, .int l2), (3, .int l3), (4, .int l4)] → W p l e R s m args below meth c H locs cells slots Q (F0 m 5 ls [])) : ∀ (l1 : Int32) (l2 : Int32) (l3 : Int32) (l4 : Int32) (l5 : Int32) (l6 : Int32) (l7 : Int32) (x : St) (H : Heap) (locs : List Loc) (ls : Array Slot), j_Mod_sameBy_106 post rec5 l1 l2 l3 l4 l5 l6 l7 x → Wd dC dI cI cB cJ cZ ad stM kcM 115 A x H → va_S A s.heap H locs → lv_has ls 8 [(0, .ref (ad 0)), (1, .int l1), (2, .int l2), (3, .int l3), (4, .int l4), (5, .int l5), (6, .int l6), (7, .int l7)] → W p l e R s m args below meth c H locs cells slots Q (F0 m 106 ls []) := by
  intro l1 l2 l3 l4 l5 l6 l7 x H locs ls  hw hW hS hl
  unfold j_Mod_sameBy_106 at hw
  refine lv_iconst (v := 1) hx hb d_Mod_sameBy_106 (by decide) ?_
  refine lv_goto (tgt := 111) hx hb d_Mod_sameBy_107 (by decide) ?_
  exact t_Mod_sameBy_111 hx hb hml hown hT hK hN hA hRc hRs hRf hRl hret hrec5 l1 l2 l3 l4 l5 l6 l7 1 x H locs ls  hw hW hS (lv_sub hl [0, 1, 2, 3, 4, 5, 6, 7] rfl)
set_option maxRecDepth 100000 in
set_option maxHeartbeats 4000000 in
set_option maxRecDepth 100000 in
theorem t_Mod_sameBy_74 {p : Program} {l : Launch} {e : Env} {R : Room} {s : State} {m : MethodId} {args : Array Value} {below : List Frame} {meth : Method} {c : Code} {cells slots : Nat} {Q : State → Prop} {dC : Nat → ClassId} {dI : Nat → Nat → Nat} {cI cB cJ cZ : ClassId} {A : Nat → Prop} {ad : Nat → Nat} {post : Int32 → St → Prop} {rec5 : Int32 → Int32 → Int32 → Int32 → St → Prop} (hx : p.tables.exec = Jvm.exec) (hb : c.code = b_Mod_sameBy) (hml : c.maxLocals = 8) (hown : s.vm.findClass R_Mod = some m.cls) (hT : ∀ w ∈ TG, w.before args s = true) (hK : va_K (dC, dI) CL (TY cI cB cJ cZ) s) (hN : NW s) (hA : ∀ q : Nat, s.heap.size ≤ q → A q) (hRc : cells ≤ R.cells) (hRs : slots ≤ R.slots) (hRf : 2 ≤ R.frames) (hRl : 46 ≤ R.locals) (hret : ∀ (r : Int32) (x : St) (H : Heap) (locs : List Loc) (pc : Nat) (ls : Array Slot), decode b_Mod_sameBy pc = .ok (.ireturn, 1) → narrow .boolean (.int r) = .int r → post r x → Wd dC dI cI cB cJ cZ ad stM kcM 115 A x H → va_S A s.heap H locs → W p l e R s m args below meth c H locs cells slots Q (F0 m pc ls [.int r])) (hrec5 : ∀ (l1 : Int32) (l2 : Int32) (l3 : Int32) (l4 : Int32) (x : St) (H : Heap) (locs : List Loc) (ls : Array Slot), rec5 l1 l2 l3 l4 x → Wd dC dI cI cB cJ cZ ad stM kcM 115 A x H → va_S A s.heap H locs → lv_has ls 8 [(0, .ref (ad 0)), (1, .int l1), (2, .int l2), (3, .int l3), (4, .int l4)] → W p l e R s m args below meth c H locs cells slots Q (F0 m 5 ls [])) : ∀ (l1 : Int32) (l2 : Int32) (l3 : Int32) (l4 : Int32) (l5 : Int32) (l6 : Int32) (l7 : Int32) (x : St) (H : Heap) (locs : List Loc) (ls : Array Slot), j_Mod_sameBy_74 post rec5 l1 l2 l3 l4 l5 l6 l7 x → Wd dC dI cI cB cJ cZ ad stM kcM 115 A x H → va_S A s.heap H locs → lv_has ls 8 [(0, .ref (ad 0)), (1, .int l1), (2, .int l2), (3, .int l3), (4, .int l4), (5, .int l5), (6, .int l6), (7, .int l7)] → W p l e R s m args below meth c H locs cells slots Q (F0 m 74 ls []) := by
  intro l1 l2 l3 l4 l5 l6 l7 x H locs ls  hw hW hS hl
  unfold j_Mod_sameBy_74 at hw
  refine lv_iload hx hb d_Mod_sameBy_74 (lv_at hl 6 rfl) ?_
  refine lv_iload hx hb d_Mod_sameBy_76 (lv_at hl 7 rfl) ?_
  refine lv_icmp_ne (tgt := 110) hx hb d_Mod_sameBy_78 (by decide) (fun c2548 => ?_) (fun c2548 => ?_)
  · have hw := hw.1 c2548
    exact t_Mod_sameBy_110 hx hb hml hown hT hK hN hA hRc hRs hRf hRl hret hrec5 l1 l2 l3 l4 l5 l6 l7 x H locs ls  hw hW hS (lv_sub hl [0, 1, 2, 3, 4, 5, 6, 7] rfl)
  · have hw := hw.2 c2548
    refine lv_goto (tgt := 106) hx hb d_Mod_sameBy_81 (by decide) ?_
    exact t_Mod_sameBy_106 hx hb hml hown hT hK hN hA hRc hRs hRf hRl hret hrec5 l1 l2 l3 l4 l5 l6 l7 x H locs ls  hw hW hS (lv_sub hl [0, 1, 2, 3, 4, 5, 6, 7] rfl)
set_option maxRecDepth 100000 in
set_option maxHeartbeats 4000000 in
set_option maxRecDepth 100000 in
theorem t_Mod_sameBy_5 {p : Program} {l : Launch} {e : Env} {R : Room} {s : State} {m : MethodId} {args : Array Value} {below : List Frame} {meth : Method} {c : Code} {cells slots : Nat} {Q : State → Prop} {dC : Nat → ClassId} {dI : Nat → Nat → Nat} {cI cB cJ cZ : ClassId} {A : Nat → Prop} {ad : Nat → Nat} {post : Int32 → St → Prop} {rec5 : Int32 → Int32 → Int32 → Int32 → St → Prop} (hx : p.tables.exec = Jvm.exec) (hb : c.code = b_Mod_sameBy) (hml : c.maxLocals = 8) (hown : s.vm.findClass R_Mod = some m.cls) (hT : ∀ w ∈ TG, w.before args s = true) (hK : va_K (dC, dI) CL (TY cI cB cJ cZ) s) (hN : NW s) (hA : ∀ q : Nat, s.heap.size ≤ q → A q) (hRc : cells ≤ R.cells) (hRs : slots ≤ R.slots) (hRf : 2 ≤ R.frames) (hRl : 46 ≤ R.locals) (hret : ∀ (r : Int32) (x : St) (H : Heap) (locs : List Loc) (pc : Nat) (ls : Array Slot), decode b_Mod_sameBy pc = .ok (.ireturn, 1) → narrow .boolean (.int r) = .int r → post r x → Wd dC dI cI cB cJ cZ ad stM kcM 115 A x H → va_S A s.heap H locs → W p l e R s m args below meth c H locs cells slots Q (F0 m pc ls [.int r])) (hrec5 : ∀ (l1 : Int32) (l2 : Int32) (l3 : Int32) (l4 : Int32) (x : St) (H : Heap) (locs : List Loc) (ls : Array Slot), rec5 l1 l2 l3 l4 x → Wd dC dI cI cB cJ cZ ad stM kcM 115 A x H → va_S A s.heap H locs → lv_has ls 8 [(0, .ref (ad 0)), (1, .int l1), (2, .int l2), (3, .int l3), (4, .int l4)] → W p l e R s m args below meth c H locs cells slots Q (F0 m 5 ls [])) : ∀ (l1 : Int32) (l2 : Int32) (l3 : Int32) (l4 : Int32) (x : St) (H : Heap) (locs : List Loc) (ls : Array Slot), j_Mod_sameBy_5 post rec5 l1 l2 l3 l4 x → Wd dC dI cI cB cJ cZ ad stM kcM 115 A x H → va_S A s.heap H locs → lv_has ls 8 [(0, .ref (ad 0)), (1, .int l1), (2, .int l2), (3, .int l3), (4, .int l4)] → W p l e R s m args below meth c H locs cells slots Q (F0 m 5 ls []) := by
  intro l1 l2 l3 l4 x H locs ls  hw hW hS hl
  unfold j_Mod_sameBy_5 at hw
  refine lv_iload hx hb d_Mod_sameBy_5 (lv_at hl 4 rfl) ?_
  refine lv_aload_n hx hb d_Mod_sameBy_7 rfl (lv_at hl 0 rfl) ?_
  refine w_getf (q := 79) (k := 122) (t := 12) (C := R_Mod) (T := F_Mod) (N := 167) hx hb hT hown hK hW ko_0.1 ko_0.2 (by decide) in_Mod rfl rfl (by decide) rfl fr_Mod_122 w_9_58 d_Mod_sameBy_8 rfl ?_
  refine lv_iconst (v := 4) hx hb d_Mod_sameBy_11 (by decide) ?_
  refine lv_aload_n hx hb d_Mod_sameBy_12 rfl (lv_at hl 0 rfl) ?_
  refine w_geti (k := 117) (t := 12) (C := R_Mod) (T := F_Mod) (N := 167) hx hb hT hown hK hW ko_0.1 ko_0.2 (by decide) in_Mod rfl rfl (by decide) rfl fr_Mod_117 w_9_53 d_Mod_sameBy_13 ?_
  refine lv_imul hx hb d_Mod_sameBy_16 ?_
  refine lv_iconst (v := 1) hx hb d_Mod_sameBy_17 (by decide) ?_
  refine lv_iadd hx hb d_Mod_sameBy_18 ?_
  obtain ⟨hi, hw⟩ := hw
  refine w_iald (o := 79) hx hb hK hW ko_79.1 ko_79.2 hi d_Mod_sameBy_19 ?_
  refine lv_icmp_ge (tgt := 118) hx hb d_Mod_sameBy_20 (by decide) (fun c2549 => ?_) (fun c2549 => ?_)
  · have hw := hw.1 c2549
    refine lv_iload_n hx hb d_Mod_sameBy_118 rfl (lv_at hl 3 rfl) ?_
    exact hret l3 x H locs 119 ls d_Mod_sameBy_119 hw.1 hw.2 hW hS
  · have hw := hw.2 c2549
    refine lv_aload_n hx hb d_Mod_sameBy_23 rfl (lv_at hl 0 rfl) ?_
    refine w_getf (q := 83) (k := 126) (t := 12) (C := R_Mod) (T := F_Mod) (N := 167) hx hb hT hown hK hW ko_0.1 ko_0.2 (by decide) in_Mod rfl rfl (by decide) rfl fr_Mod_126 w_9_62 d_Mod_sameBy_24 rfl ?_
    refine lv_bipush (v := 8) hx hb d_Mod_sameBy_27 (by decide) ?_
    refine lv_aload_n hx hb d_Mod_sameBy_29 rfl (lv_at hl 0 rfl) ?_
    refine w_geti (k := 117) (t := 12) (C := R_Mod) (T := F_Mod) (N := 167) hx hb hT hown hK hW ko_0.1 ko_0.2 (by decide) in_Mod rfl rfl (by decide) rfl fr_Mod_117 w_9_53 d_Mod_sameBy_30 ?_
    refine lv_imul hx hb d_Mod_sameBy_33 ?_
    refine lv_iload hx hb d_Mod_sameBy_34 (lv_at hl 4 rfl) ?_
    refine lv_iadd hx hb d_Mod_sameBy_36 ?_
    obtain ⟨hi, hw⟩ := hw
    refine w_iald (o := 83) hx hb hK hW ko_83.1 ko_83.2 hi d_Mod_sameBy_37 ?_
    refine lv_topi (fun v2550 ev2550 => ?_)
    have hw := hw v2550 ev2550
    refine lv_istore (lv' := [(5, .int v2550), (0, .ref (ad 0)), (1, .int l1), (2, .int l2), (3, .int l3), (4, .int l4)]) hx hb d_Mod_sameBy_38 hl (by decide) rfl (fun ls hl => ?_)
    refine lv_aload_n hx hb d_Mod_sameBy_40 rfl (lv_at hl 1 rfl) ?_
    refine lv_iload hx hb d_Mod_sameBy_41 (lv_at hl 0 rfl) ?_
    refine lv_iload_n hx hb d_Mod_sameBy_43 rfl (lv_at hl 2 rfl) ?_
    have hF := hW.free hS hA
    refine va_calli (va_runV (C := R_Mod) (As := [.int v2550, .int l1]) (rest := []) ⟨hx, hb, hml, hown, hT⟩ (k_Mod_valueAt l dC dI cI cB cJ cZ ad H.size v2550 l1 x  hw) ⟨callB_of 2 hT (gwt_in w_14_13) rfl rfl rfl (hT _ w_1_15) (hT _ w_14_10) (by decide +kernel) ⟨Nat.le_trans (Nat.le_of_ble_eq_true rfl) hRf, Nat.le_trans (Nat.le_of_ble_eq_true rfl) hRl⟩, hT _ w_14_12, hT _ ws_263⟩ ⟨PW.blind, va_recv hK hW.1 (ci := 12) (q0 := 0) rfl (pic_obj ko_0.1 ko_0.2 (by decide)), PW.at _ hW hK hN⟩ rfl rfl hl.1 rfl (lv_room (Nat.le_of_ble_eq_true rfl)) d_Mod_sameBy_44 ⟨hRc, hRs⟩) hS (fun q _ h => hF q h) hF (fun r2552 x2551 t H locs ht hvm hw hB hz1 hk1 hS => ?_)
    have hW := Wd.back hB ht hF
    clear hB ht hF hz1 hk1 hvm
    refine lv_istore (lv' := [(6, .int r2552), (5, .int v2550), (0, .ref (ad 0)), (1, .int l1), (2, .int l2), (3, .int l3), (4, .int l4)]) hx hb d_Mod_sameBy_47 hl (by decide) rfl (fun ls hl => ?_)
    refine lv_aload_n hx hb d_Mod_sameBy_49 rfl (lv_at hl 2 rfl) ?_
    refine lv_iload hx hb d_Mod_sameBy_50 (lv_at hl 1 rfl) ?_
    refine lv_iload_n hx hb d_Mod_sameBy_52 rfl (lv_at hl 4 rfl) ?_
    have hF := hW.free hS hA
    refine va_calli (va_runV (C := R_Mod) (As := [.int v2550, .int l2]) (rest := []) ⟨hx, hb, hml, hown, hT⟩ (k_Mod_valueAt l dC dI cI cB cJ cZ ad H.size v2550 l2 x2551  hw) ⟨callB_of 2 hT (gwt_in w_14_13) rfl rfl rfl (hT _ w_1_15) (hT _ w_14_10) (by decide +kernel) ⟨Nat.le_trans (Nat.le_of_ble_eq_true rfl) hRf, Nat.le_trans (Nat.le_of_ble_eq_true rfl) hRl⟩, hT _ w_14_12, hT _ ws_263⟩ ⟨PW.blind, va_recv hK hW.1 (ci := 12) (q0 := 0) rfl (pic_obj ko_0.1 ko_0.2 (by decide)), PW.at _ hW hK hN⟩ rfl rfl hl.1 rfl (lv_room (Nat.le_of_ble_eq_true rfl)) d_Mod_sameBy_53 ⟨hRc, hRs⟩) hS (fun q _ h => hF q h) hF (fun r2554 x2553 t H locs ht hvm hw hB hz1 hk1 hS => ?_)
    have hW := Wd.back hB ht hF
    clear hB ht hF hz1 hk1 hvm
    refine lv_istore (lv' := [(7, .int r2554), (6, .int r2552), (5, .int v2550), (0, .ref (ad 0)), (1, .int l1), (2, .int l2), (3, .int l3), (4, .int l4)]) hx hb d_Mod_sameBy_56 hl (by decide) rfl (fun ls hl => ?_)
    refine lv_iload_n hx hb d_Mod_sameBy_58 rfl (lv_at hl 6 rfl) ?_
    refine lv_if_eq (tgt := 110) hx hb d_Mod_sameBy_59 (by decide) (fun c2555 => ?_) (fun c2555 => ?_)
    · have hw := hw.1 c2555
      exact t_Mod_sameBy_110 hx hb hml hown hT hK hN hA hRc hRs hRf hRl hret hrec5 l1 l2 l3 l4 v2550 r2552 r2554 x2553 H locs ls  hw hW hS (lv_sub hl [3, 4, 5, 6, 7, 2, 1, 0] rfl)
    · have hw := hw.2 c2555
      refine lv_iload hx hb d_Mod_sameBy_62 (lv_at hl 1 rfl) ?_
      refine lv_iconst (v := (-1)) hx hb d_Mod_sameBy_64 (by decide) ?_
      refine lv_icmp_eq (tgt := 74) hx hb d_Mod_sameBy_65 (by decide) (fun c2556 => ?_) (fun c2556 => ?_)
      · have hw := hw.1 c2556
        exact t_Mod_sameBy_74 hx hb hml hown hT hK hN hA hRc hRs hRf hRl hret hrec5 l1 l2 l3 l4 v2550 r2552 r2554 x2553 H locs ls  hw hW hS (lv_sub hl [3, 4, 5, 6, 7, 2, 1, 0] rfl)
      · have hw := hw.2 c2556
        refine lv_iload hx hb d_Mod_sameBy_68 (lv_at hl 0 rfl) ?_
        refine lv_iconst (v := (-1)) hx hb d_Mod_sameBy_70 (by decide) ?_
        refine lv_icmp_ne (tgt := 84) hx hb d_Mod_sameBy_71 (by decide) (fun c2557 => ?_) (fun c2557 => ?_)
        · have hw := hw.1 c2557
          refine lv_aload_n hx hb d_Mod_sameBy_84 rfl (lv_at hl 3 rfl) ?_
          refine lv_aload_n hx hb d_Mod_sameBy_85 rfl (lv_at hl 3 rfl) ?_
          refine w_getf (q := 4) (k := 6) (t := 12) (C := R_Mod) (T := F_Mod) (N := 167) hx hb hT hown hK hW ko_0.1 ko_0.2 (by decide) in_Mod rfl rfl (by decide) rfl fr_Mod_6 w_8_182 d_Mod_sameBy_86 rfl ?_
          refine lv_iconst (v := 1) hx hb d_Mod_sameBy_89 (by decide) ?_
          refine lv_iload hx hb d_Mod_sameBy_90 (lv_at hl 2 rfl) ?_
          have hF := hW.free hS hA
          refine va_calli (va_runS (As := [.int 1, .int v2550]) (rest := [.ref (ad 4), .ref (ad 0)]) ⟨hx, hb, hml, hown, hT⟩ (k_Mod_place l dC dI cI cB cJ cZ ad H.size 1 v2550 x2553  hw) ⟨callB_of 2 hT (gwt_in w_11_30) rfl rfl rfl (hT _ w_1_15) (hT _ w_11_28) (by decide +kernel) ⟨Nat.le_trans (Nat.le_of_ble_eq_true rfl) hRf, Nat.le_trans (Nat.le_of_ble_eq_true rfl) hRl⟩, hT _ w_11_29⟩ ⟨PW.blind, PW.at _ hW hK hN⟩ rfl rfl hl.1 rfl (lv_room (Nat.le_of_ble_eq_true rfl)) d_Mod_sameBy_92 ⟨hRc, hRs⟩) hS (fun q _ h => hF q h) hF (fun r2559 x2558 t H locs ht hvm hw hB hz1 hk1 hS => ?_)
          have hW := Wd.back hB ht hF
          clear hB ht hF hz1 hk1 hvm
          obtain ⟨hi, hw⟩ := hw
          refine w_iald (o := 4) hx hb hK hW ko_4.1 ko_4.2 hi d_Mod_sameBy_95 ?_
          refine lv_iload hx hb d_Mod_sameBy_96 (lv_at hl 1 rfl) ?_
          refine lv_iload hx hb d_Mod_sameBy_98 (lv_at hl 0 rfl) ?_
          have hF := hW.free hS hA
          refine va_calli (va_runV (C := R_Mod) (As := [.int (rA x2558 4 r2559), .int r2552, .int r2554]) (rest := []) ⟨hx, hb, hml, hown, hT⟩ (k_Mod_compare l dC dI cI cB cJ cZ ad H.size (rA x2558 4 r2559) r2552 r2554 x2558  hw) ⟨callB_of 3 hT (gwt_in w_13_26) rfl rfl rfl (hT _ w_1_15) (hT _ w_13_23) (by decide +kernel) ⟨Nat.le_trans (Nat.le_of_ble_eq_true rfl) hRf, Nat.le_trans (Nat.le_of_ble_eq_true rfl) hRl⟩, hT _ w_13_25, hT _ ws_219⟩ ⟨PW.blind, va_recv hK hW.1 (ci := 12) (q0 := 0) rfl (pic_obj ko_0.1 ko_0.2 (by decide)), PW.at _ hW hK hN⟩ rfl rfl hl.1 rfl (lv_room (Nat.le_of_ble_eq_true rfl)) d_Mod_sameBy_100 ⟨hRc, hRs⟩) hS (fun q _ h => hF q h) hF (fun r2561 x2560 t H locs ht hvm hw hB hz1 hk1 hS => ?_)
          have hW := Wd.back hB ht hF
          clear hB ht hF hz1 hk1 hvm
          refine lv_if_ne (tgt := 110) hx hb d_Mod_sameBy_103 (by decide) (fun c2562 => ?_) (fun c2562 => ?_)
          · have hw := hw.1 c2562
            exact t_Mod_sameBy_110 hx hb hml hown hT hK hN hA hRc hRs hRf hRl hret hrec5 l1 l2 l3 l4 v2550 r2552 r2554 x2560 H locs ls  hw hW hS (lv_sub hl [3, 4, 5, 6, 7, 2, 1, 0] rfl)
          · have hw := hw.2 c2562
            exact t_Mod_sameBy_106 hx hb hml hown hT hK hN hA hRc hRs hRf hRl hret hrec5 l1 l2 l3 l4 v2550 r2552 r2554 x2560 H locs ls  hw hW hS (lv_sub hl [3, 4, 5, 6, 7, 2, 1, 0] rfl)
        · have hw := hw.2 c2557
          exact t_Mod_sameBy_74 hx hb hml hown hT hK hN hA hRc hRs hRf hRl hret hrec5 l1 l2 l3 l4 v2550 r2552 r2554 x2553 H locs ls  hw hW hS (lv_sub hl [3, 4, 5, 6, 7, 2, 1, 0] rfl)
set_option maxHeartbeats 4000000 in
set_option maxRecDepth 100000 in
theorem tl_Mod_sameBy_5 {p : Program} {l : Launch} {e : Env} {R : Room} {s : State} {m : MethodId} {args : Array Value} {below : List Frame} {meth : Method} {c : Code} {cells slots : Nat} {Q : State → Prop} {dC : Nat → ClassId} {dI : Nat → Nat → Nat} {cI cB cJ cZ : ClassId} {A : Nat → Prop} {ad : Nat → Nat} {post : Int32 → St → Prop} (hx : p.tables.exec = Jvm.exec) (hb : c.code = b_Mod_sameBy) (hml : c.maxLocals = 8) (hown : s.vm.findClass R_Mod = some m.cls) (hT : ∀ w ∈ TG, w.before args s = true) (hK : va_K (dC, dI) CL (TY cI cB cJ cZ) s) (hN : NW s) (hA : ∀ q : Nat, s.heap.size ≤ q → A q) (hRc : cells ≤ R.cells) (hRs : slots ≤ R.slots) (hRf : 2 ≤ R.frames) (hRl : 46 ≤ R.locals) (hret : ∀ (r : Int32) (x : St) (H : Heap) (locs : List Loc) (pc : Nat) (ls : Array Slot), decode b_Mod_sameBy pc = .ok (.ireturn, 1) → narrow .boolean (.int r) = .int r → post r x → Wd dC dI cI cB cJ cZ ad stM kcM 115 A x H → va_S A s.heap H locs → W p l e R s m args below meth c H locs cells slots Q (F0 m pc ls [.int r]))  : ∀ n : Nat, ∀ (l1 : Int32) (l2 : Int32) (l3 : Int32) (l4 : Int32) (x : St) (H : Heap) (locs : List Loc) (ls : Array Slot), wl_Mod_sameBy_5 post n l1 l2 l3 l4 x → Wd dC dI cI cB cJ cZ ad stM kcM 115 A x H → va_S A s.heap H locs → lv_has ls 8 [(0, .ref (ad 0)), (1, .int l1), (2, .int l2), (3, .int l3), (4, .int l4)] → W p l e R s m args below meth c H locs cells slots Q (F0 m 5 ls []) := by
  intro n
  induction n with
  | zero => intro l1 l2 l3 l4 x H locs ls  hw; exact hw.elim
  | succ n ih => intro l1 l2 l3 l4 x H locs ls  hw hW hS hl; exact t_Mod_sameBy_5 hx hb hml hown hT hK hN hA hRc hRs hRf hRl hret  ih l1 l2 l3 l4 x H locs ls  hw hW hS hl
set_option maxRecDepth 100000 in
set_option maxHeartbeats 4000000 in
set_option maxRecDepth 100000 in
theorem t_Mod_sameBy_e {p : Program} {l : Launch} {e : Env} {R : Room} {s : State} {m : MethodId} {args : Array Value} {below : List Frame} {meth : Method} {c : Code} {cells slots : Nat} {Q : State → Prop} {dC : Nat → ClassId} {dI : Nat → Nat → Nat} {cI cB cJ cZ : ClassId} {A : Nat → Prop} {ad : Nat → Nat} {post : Int32 → St → Prop} (hx : p.tables.exec = Jvm.exec) (hb : c.code = b_Mod_sameBy) (hml : c.maxLocals = 8) (hown : s.vm.findClass R_Mod = some m.cls) (hT : ∀ w ∈ TG, w.before args s = true) (hK : va_K (dC, dI) CL (TY cI cB cJ cZ) s) (hN : NW s) (hA : ∀ q : Nat, s.heap.size ≤ q → A q) (hRc : cells ≤ R.cells) (hRs : slots ≤ R.slots) (hRf : 2 ≤ R.frames) (hRl : 46 ≤ R.locals) (hret : ∀ (r : Int32) (x : St) (H : Heap) (locs : List Loc) (pc : Nat) (ls : Array Slot), decode b_Mod_sameBy pc = .ok (.ireturn, 1) → narrow .boolean (.int r) = .int r → post r x → Wd dC dI cI cB cJ cZ ad stM kcM 115 A x H → va_S A s.heap H locs → W p l e R s m args below meth c H locs cells slots Q (F0 m pc ls [.int r])) : ∀ (l1 : Int32) (l2 : Int32) (x : St) (H : Heap) (locs : List Loc) (ls : Array Slot), wp_Mod_sameBy post l1 l2 x → Wd dC dI cI cB cJ cZ ad stM kcM 115 A x H → va_S A s.heap H locs → lv_has ls 8 [(0, .ref (ad 0)), (1, .int l1), (2, .int l2)] → W p l e R s m args below meth c H locs cells slots Q (F0 m 0 ls []) := by
  intro l1 l2 x H locs ls  hw hW hS hl
  unfold wp_Mod_sameBy at hw
  refine lv_iconst (v := 1) hx hb d_Mod_sameBy_0 (by decide) ?_
  refine lv_istore_n (lv' := [(3, .int 1), (0, .ref (ad 0)), (1, .int l1), (2, .int l2)]) hx hb d_Mod_sameBy_1 rfl hl (by decide) rfl (fun ls hl => ?_)
  refine lv_iconst (v := 0) hx hb d_Mod_sameBy_2 (by decide) ?_
  refine lv_istore (lv' := [(4, .int 0), (3, .int 1), (0, .ref (ad 0)), (1, .int l1), (2, .int l2)]) hx hb d_Mod_sameBy_3 hl (by decide) rfl (fun ls hl => ?_)
  obtain ⟨n, hw⟩ := hw
  exact tl_Mod_sameBy_5 hx hb hml hown hT hK hN hA hRc hRs hRf hRl hret  n l1 l2 1 0 x H locs ls  hw hW hS (lv_sub hl [2, 3, 4, 1, 0] rfl)
set_option maxHeartbeats 4000000 in
set_option maxRecDepth 100000 in
theorem k_Mod_sameBy (l : Launch) (dC : Nat → ClassId) (dI : Nat → Nat → Nat) (cI cB cJ cZ : ClassId) (ad : Nat → Nat) (sz : Nat) (l1 : Int32) (l2 : Int32) (x : St) {post : Int32 → St → Prop} (hw : wp_Mod_sameBy post l1 l2 x) : Met l y_Mod_sameBy (wsOf y_Mod_sameBy b_Mod_sameBy 8 (some (.boolean))) ({ frames := 2, cells := 0, slots := 0, locals := 46 }) (va_Pc [.ref (ad 0), .int l1, .int l2] (PW dC dI cI cB cJ cZ ad stM kcM 115 sz x)) (va_Qi (fun (r : Int32) (y : St) => post r y) (fun y t => Wd dC dI cI cB cJ cZ ad stM kcM 115 (va_A (pic ad stM kcM 115 cI cB cJ cZ x) sz) y t.heap) (va_A (pic ad stM kcM 115 cI cB cJ cZ x) sz)) 0 0 (va_A (pic ad stM kcM 115 cI cB cJ cZ x) sz) := by
  refine Met.ofW (cc := b_Mod_sameBy) (maxL := 8) (ret := some (.boolean)) (by decide) rfl ?_
  intro p e s m args below meth c s₁ B hml hv
  obtain ⟨rfl, hsz, hW0, hK, hN⟩ := hv
  have hx := B.exec
  have hb := B.bytes
  have hr := B.returns
  have hts := atoms_spec B.pre
  have hT : ∀ w ∈ TG, w.before _ s = true := fun w h => hts w (List.mem_cons_of_mem _ h)
  have hown : s.vm.findClass R_Mod = some m.cls := findClass_of_methodNamed B.named
  have hlocks := B.notSynchronized
  subst hsz
  have hW : Wd dC dI cI cB cJ cZ ad stM kcM 115 (va_A (pic ad stM kcM 115 cI cB cJ cZ x) s.heap.size) x s.heap := ⟨hW0.1, hW0.2.1.self (sz := s.heap.size), hW0.2.2⟩
  generalize hAe : va_A (pic ad stM kcM 115 cI cB cJ cZ x) s.heap.size = A at hW ⊢
  have hA : ∀ q : Nat, s.heap.size ≤ q → A q := fun q h => by rw [← hAe]; exact Or.inr h
  have hS : va_S A s.heap s.heap [] := va_S.rf
  have hl := lv_entry ([.ref (ad 0), .int l1, .int l2]) (n := 8) (Nat.le_of_ble_eq_true rfl)
  rw [lg_entry_eq]
  generalize (lg_sl ([.ref (ad 0), .int l1, .int l2]) ++ List.replicate (8 - (lg_sl ([.ref (ad 0), .int l1, .int l2])).length) Slot.unset).toArray = ls at hl ⊢
  have hl : lv_has ls 8 [(0, .ref (ad 0)), (1, .int l1), (2, .int l2)] := hl
  exact t_Mod_sameBy_e hx hb hml hown hT hK hN hA (Nat.le_refl 0) (Nat.le_refl 0) (Nat.le_refl 2) (Nat.le_refl 46) (fun r x H locs pc ls hd hz hp hW hS => W.zret (v := r) (ty := .boolean) hx hb hr hz (fun t ht hM => ⟨⟨r, x, rfl, hp, Wd.back hW ht.symm (fun _ z => z)⟩, hS.F ht⟩) hS.2.2 hd hlocks)  l1 l2 x _ _ ls  hw hW hS hl
set_option maxRecDepth 100000 in
set_option maxHeartbeats 4000000 in
set_option maxRecDepth 100000 in
theorem t_Mod_collect_203 {p : Program} {l : Launch} {e : Env} {R : Room} {s : State} {m : MethodId} {args : Array Value} {below : List Frame} {meth : Method} {c : Code} {cells slots : Nat} {Q : State → Prop} {dC : Nat → ClassId} {dI : Nat → Nat → Nat} {cI cB cJ cZ : ClassId} {A : Nat → Prop} {ad : Nat → Nat} {post : St → Prop} {rec12 : Int32 → Int32 → Int32 → St → Prop} (hx : p.tables.exec = Jvm.exec) (hb : c.code = b_Mod_collect) (hml : c.maxLocals = 9) (hown : s.vm.findClass R_Mod = some m.cls) (hT : ∀ w ∈ TG, w.before args s = true) (hK : va_K (dC, dI) CL (TY cI cB cJ cZ) s) (hN : NW s) (hA : ∀ q : Nat, s.heap.size ≤ q → A q) (hRc : cells ≤ R.cells) (hRs : slots ≤ R.slots) (hRf : 2 ≤ R.frames) (hRl : 46 ≤ R.locals) (hret : ∀ (x : St) (H : Heap) (locs : List Loc) (pc : Nat) (ls : Array Slot), decode b_Mod_collect pc = .ok (.return_, 1) → post x → Wd dC dI cI cB cJ cZ ad stM kcM 115 A x H → va_S A s.heap H locs → W p l e R s m args below meth c H locs cells slots Q (F0 m pc ls [])) (hrec12 : ∀ (l1 : Int32) (l2 : Int32) (l3 : Int32) (x : St) (H : Heap) (locs : List Loc) (ls : Array Slot), rec12 l1 l2 l3 x → Wd dC dI cI cB cJ cZ ad stM kcM 115 A x H → va_S A s.heap H locs → lv_has ls 9 [(0, .ref (ad 0)), (1, .int l1), (2, .int l2), (3, .int l3)] → W p l e R s m args below meth c H locs cells slots Q (F0 m 12 ls [])) : ∀ (l1 : Int32) (l2 : Int32) (l3 : Int32) (l4 : Int32) (l5 : Int32) (l6 : Int32) (x : St) (H : Heap) (locs : List Loc) (ls : Array Slot), j_Mod_collect_203 post rec12 l1 l2 l3 l4 l5 l6 x → Wd dC dI cI cB cJ cZ ad stM kcM 115 A x H → va_S A s.heap H locs → lv_has ls 9 [(0, .ref (ad 0)), (1, .int l1), (2, .int l2), (3, .int l3), (4, .int l4), (5, .int l5), (6, .int l6)] → W p l e R s m args below meth c H locs cells slots Q (F0 m 203 ls []) := by
  intro l1 l2 l3 l4 l5 l6 x H locs ls  hw hW hS hl
  unfold j_Mod_collect_203 at hw
  refine lv_iinc (v := (l3 + 1)) (lv' := [(3, .int (l3 + 1)), (0, .ref (ad 0)), (1, .int l1), (2, .int l2), (4, .int l4), (5, .int l5), (6, .int l6)]) hx hb d_Mod_collect_203 hl (k := 3) rfl rfl (by decide) rfl (fun ls hl => ?_)
  refine lv_goto (tgt := 12) hx hb d_Mod_collect_206 (by decide) ?_
  exact hrec12 l1 l2 (l3 + 1) x H locs ls  hw hW hS (lv_sub hl [1, 2, 3, 0] rfl)
set_option maxRecDepth 100000 in
set_option maxHeartbeats 4000000 in
set_option maxRecDepth 100000 in
theorem t_Mod_collect_194 {p : Program} {l : Launch} {e : Env} {R : Room} {s : State} {m : MethodId} {args : Array Value} {below : List Frame} {meth : Method} {c : Code} {cells slots : Nat} {Q : State → Prop} {dC : Nat → ClassId} {dI : Nat → Nat → Nat} {cI cB cJ cZ : ClassId} {A : Nat → Prop} {ad : Nat → Nat} {post : St → Prop} {rec12 : Int32 → Int32 → Int32 → St → Prop} (hx : p.tables.exec = Jvm.exec) (hb : c.code = b_Mod_collect) (hml : c.maxLocals = 9) (hown : s.vm.findClass R_Mod = some m.cls) (hT : ∀ w ∈ TG, w.before args s = true) (hK : va_K (dC, dI) CL (TY cI cB cJ cZ) s) (hN : NW s) (hA : ∀ q : Nat, s.heap.size ≤ q → A q) (hRc : cells ≤ R.cells) (hRs : slots ≤ R.slots) (hRf : 2 ≤ R.frames) (hRl : 46 ≤ R.locals) (hret : ∀ (x : St) (H : Heap) (locs : List Loc) (pc : Nat) (ls : Array Slot), decode b_Mod_collect pc = .ok (.return_, 1) → post x → Wd dC dI cI cB cJ cZ ad stM kcM 115 A x H → va_S A s.heap H locs → W p l e R s m args below meth c H locs cells slots Q (F0 m pc ls [])) (hrec12 : ∀ (l1 : Int32) (l2 : Int32) (l3 : Int32) (x : St) (H : Heap) (locs : List Loc) (ls : Array Slot), rec12 l1 l2 l3 x → Wd dC dI cI cB cJ cZ ad stM kcM 115 A x H → va_S A s.heap H locs → lv_has ls 9 [(0, .ref (ad 0)), (1, .int l1), (2, .int l2), (3, .int l3)] → W p l e R s m args below meth c H locs cells slots Q (F0 m 12 ls [])) : ∀ (l1 : Int32) (l2 : Int32) (l3 : Int32) (l4 : Int32) (l5 : Int32) (l6 : Int32) (l7 : Int32) (l8 : Int32) (x : St) (H : Heap) (locs : List Loc) (ls : Array Slot), j_Mod_collect_194 post rec12 l1 l2 l3 l4 l5 l6 l7 l8 x → Wd dC dI cI cB cJ cZ ad stM kcM 115 A x H → va_S A s.heap H locs → lv_has ls 9 [(0, .ref (ad 0)), (1, .int l1), (2, .int l2), (3, .int l3), (4, .int l4), (5, .int l5), (6, .int l6), (7, .int l7), (8, .int l8)] → W p l e R s m args below meth c H locs cells slots Q (F0 m 194 ls []) := by
  intro l1 l2 l3 l4 l5 l6 l7 l8 x H locs ls  hw hW hS hl
  unfold j_Mod_collect_194 at hw
  refine lv_aload_n hx hb d_Mod_collect_194 rfl (lv_at hl 0 rfl) ?_
  refine w_getf (q := 108) (k := 153) (t := 12) (C := R_Mod) (T := F_Mod) (N := 167) hx hb hT hown hK hW ko_0.1 ko_0.2 (by decide) in_Mod rfl rfl (by decide) rfl fr_Mod_153 w_9_89 d_Mod_collect_195 rfl ?_
  refine lv_iload hx hb d_Mod_collect_198 (lv_at hl 7 rfl) ?_
  refine lv_iload hx hb d_Mod_collect_200 (lv_at hl 6 rfl) ?_
  obtain ⟨hi, hw⟩ := hw
  refine w_iast (o := 108) hx hb hK hW hS ko_108.1 ko_108.2 hi d_Mod_collect_202 (fun H locs hW hS => ?_)
  obtain ⟨x2563, ex2563⟩ : ∃ y : St, y = setA x 108 l7 l6 := ⟨_, rfl⟩
  rw [← ex2563] at hW
  have hw := hw x2563 ex2563
  exact t_Mod_collect_203 hx hb hml hown hT hK hN hA hRc hRs hRf hRl hret hrec12 l1 l2 l3 l4 l5 l6 x2563 H locs ls  hw hW hS (lv_sub hl [0, 1, 2, 3, 4, 5, 6] rfl)
set_option maxRecDepth 100000 in
set_option maxHeartbeats 4000000 in
set_option maxRecDepth 100000 in
theorem t_Mod_collect_162 {p : Program} {l : Launch} {e : Env} {R : Room} {s : State} {m : MethodId} {args : Array Value} {below : List Frame} {meth : Method} {c : Code} {cells slots : Nat} {Q : State → Prop} {dC : Nat → ClassId} {dI : Nat → Nat → Nat} {cI cB cJ cZ : ClassId} {A : Nat → Prop} {ad : Nat → Nat} {post : St → Prop} {rec12 : Int32 → Int32 → Int32 → St → Prop} (hx : p.tables.exec = Jvm.exec) (hb : c.code = b_Mod_collect) (hml : c.maxLocals = 9) (hown : s.vm.findClass R_Mod = some m.cls) (hT : ∀ w ∈ TG, w.before args s = true) (hK : va_K (dC, dI) CL (TY cI cB cJ cZ) s) (hN : NW s) (hA : ∀ q : Nat, s.heap.size ≤ q → A q) (hRc : cells ≤ R.cells) (hRs : slots ≤ R.slots) (hRf : 2 ≤ R.frames) (hRl : 46 ≤ R.locals) (hret : ∀ (x : St) (H : Heap) (locs : List Loc) (pc : Nat) (ls : Array Slot), decode b_Mod_collect pc = .ok (.return_, 1) → post x → Wd dC dI cI cB cJ cZ ad stM kcM 115 A x H → va_S A s.heap H locs → W p l e R s m args below meth c H locs cells slots Q (F0 m pc ls [])) (hrec12 : ∀ (l1 : Int32) (l2 : Int32) (l3 : Int32) (x : St) (H : Heap) (locs : List Loc) (ls : Array Slot), rec12 l1 l2 l3 x → Wd dC dI cI cB cJ cZ ad stM kcM 115 A x H → va_S A s.heap H locs → lv_has ls 9 [(0, .ref (ad 0)), (1, .int l1), (2, .int l2), (3, .int l3)] → W p l e R s m args below meth c H locs cells slots Q (F0 m 12 ls [])) : ∀ (l1 : Int32) (l2 : Int32) (l3 : Int32) (l4 : Int32) (l5 : Int32) (l6 : Int32) (l7 : Int32) (s0 : Int32) (x : St) (H : Heap) (locs : List Loc) (ls : Array Slot), j_Mod_collect_162 post rec12 l1 l2 l3 l4 l5 l6 l7 s0 x → Wd dC dI cI cB cJ cZ ad stM kcM 115 A x H → va_S A s.heap H locs → lv_has ls 9 [(0, .ref (ad 0)), (1, .int l1), (2, .int l2), (3, .int l3), (4, .int l4), (5, .int l5), (6, .int l6), (7, .int l7)] → W p l e R s m args below meth c H locs cells slots Q (F0 m 162 ls [.int s0]) := by
  intro l1 l2 l3 l4 l5 l6 l7 s0 x H locs ls  hw hW hS hl
  unfold j_Mod_collect_162 at hw
  refine lv_istore (lv' := [(8, .int s0), (0, .ref (ad 0)), (1, .int l1), (2, .int l2), (3, .int l3), (4, .int l4), (5, .int l5), (6, .int l6), (7, .int l7)]) hx hb d_Mod_collect_162 hl (by decide) rfl (fun ls hl => ?_)
  refine lv_aload_n hx hb d_Mod_collect_164 rfl (lv_at hl 1 rfl) ?_
  refine w_getf (q := 108) (k := 153) (t := 12) (C := R_Mod) (T := F_Mod) (N := 167) hx hb hT hown hK hW ko_0.1 ko_0.2 (by decide) in_Mod rfl rfl (by decide) rfl fr_Mod_153 w_9_89 d_Mod_collect_165 rfl ?_
  refine lv_iload hx hb d_Mod_collect_168 (lv_at hl 8 rfl) ?_
  obtain ⟨hi, hw⟩ := hw
  refine w_iald (o := 108) hx hb hK hW ko_108.1 ko_108.2 hi d_Mod_collect_170 ?_
  refine lv_iconst (v := (-1)) hx hb d_Mod_collect_171 (by decide) ?_
  refine lv_icmp_eq (tgt := 194) hx hb d_Mod_collect_172 (by decide) (fun c2564 => ?_) (fun c2564 => ?_)
  · have hw := hw.1 c2564
    exact t_Mod_collect_194 hx hb hml hown hT hK hN hA hRc hRs hRf hRl hret hrec12 l1 l2 l3 l4 l5 l6 l7 s0 x H locs ls  hw hW hS (lv_sub hl [1, 2, 3, 4, 5, 6, 7, 8, 0] rfl)
  · have hw := hw.2 c2564
    refine lv_iload hx hb d_Mod_collect_175 (lv_at hl 5 rfl) ?_
    refine lv_iconst (v := 4) hx hb d_Mod_collect_177 (by decide) ?_
    refine lv_icmp_ne (tgt := 189) hx hb d_Mod_collect_178 (by decide) (fun c2565 => ?_) (fun c2565 => ?_)
    · have hw := hw.1 c2565
      refine lv_iload hx hb d_Mod_collect_189 (lv_at hl 0 rfl) ?_
      refine lv_if_le (tgt := 203) hx hb d_Mod_collect_191 (by decide) (fun c2566 => ?_) (fun c2566 => ?_)
      · have hw := hw.1 c2566
        exact t_Mod_collect_203 hx hb hml hown hT hK hN hA hRc hRs hRf hRl hret hrec12 l1 l2 l3 l4 l5 l6 x H locs ls  hw hW hS (lv_sub hl [1, 2, 3, 4, 5, 6, 7] rfl)
      · have hw := hw.2 c2566
        exact t_Mod_collect_194 hx hb hml hown hT hK hN hA hRc hRs hRf hRl hret hrec12 l1 l2 l3 l4 l5 l6 l7 s0 x H locs ls  hw hW hS (lv_sub hl [1, 2, 3, 4, 5, 6, 7, 8, 0] rfl)
    · have hw := hw.2 c2565
      refine lv_iload hx hb d_Mod_collect_181 (lv_at hl 0 rfl) ?_
      refine lv_if_ge (tgt := 203) hx hb d_Mod_collect_183 (by decide) (fun c2567 => ?_) (fun c2567 => ?_)
      · have hw := hw.1 c2567
        exact t_Mod_collect_203 hx hb hml hown hT hK hN hA hRc hRs hRf hRl hret hrec12 l1 l2 l3 l4 l5 l6 x H locs ls  hw hW hS (lv_sub hl [1, 2, 3, 4, 5, 6, 7] rfl)
      · have hw := hw.2 c2567
        refine lv_goto (tgt := 194) hx hb d_Mod_collect_186 (by decide) ?_
        exact t_Mod_collect_194 hx hb hml hown hT hK hN hA hRc hRs hRf hRl hret hrec12 l1 l2 l3 l4 l5 l6 l7 s0 x H locs ls  hw hW hS (lv_sub hl [1, 2, 3, 4, 5, 6, 7, 8, 0] rfl)
set_option maxRecDepth 100000 in
set_option maxHeartbeats 4000000 in
set_option maxRecDepth 100000 in
theorem t_Mod_collect_76 {p : Program} {l : Launch} {e : Env} {R : Room} {s : State} {m : MethodId} {args : Array Value} {below : List Frame} {meth : Method} {c : Code} {cells slots : Nat} {Q : State → Prop} {dC : Nat → ClassId} {dI : Nat → Nat → Nat} {cI cB cJ cZ : ClassId} {A : Nat → Prop} {ad : Nat → Nat} {post : St → Prop} {rec12 : Int32 → Int32 → Int32 → St → Prop} (hx : p.tables.exec = Jvm.exec) (hb : c.code = b_Mod_collect) (hml : c.maxLocals = 9) (hown : s.vm.findClass R_Mod = some m.cls) (hT : ∀ w ∈ TG, w.before args s = true) (hK : va_K (dC, dI) CL (TY cI cB cJ cZ) s) (hN : NW s) (hA : ∀ q : Nat, s.heap.size ≤ q → A q) (hRc : cells ≤ R.cells) (hRs : slots ≤ R.slots) (hRf : 2 ≤ R.frames) (hRl : 46 ≤ R.locals) (hret : ∀ (x : St) (H : Heap) (locs : List Loc) (pc : Nat) (ls : Array Slot), decode b_Mod_collect pc = .ok (.return_, 1) → post x → Wd dC dI cI cB cJ cZ ad stM kcM 115 A x H → va_S A s.heap H locs → W p l e R s m args below meth c H locs cells slots Q (F0 m pc ls [])) (hrec12 : ∀ (l1 : Int32) (l2 : Int32) (l3 : Int32) (x : St) (H : Heap) (locs : List Loc) (ls : Array Slot), rec12 l1 l2 l3 x → Wd dC dI cI cB cJ cZ ad stM kcM 115 A x H → va_S A s.heap H locs → lv_has ls 9 [(0, .ref (ad 0)), (1, .int l1), (2, .int l2), (3, .int l3)] → W p l e R s m args below meth c H locs cells slots Q (F0 m 12 ls [])) : ∀ (l1 : Int32) (l2 : Int32) (l3 : Int32) (l4 : Int32) (l5 : Int32) (s0 : Int32) (x : St) (H : Heap) (locs : List Loc) (ls : Array Slot), j_Mod_collect_76 post rec12 l1 l2 l3 l4 l5 s0 x → Wd dC dI cI cB cJ cZ ad stM kcM 115 A x H → va_S A s.heap H locs → lv_has ls 9 [(0, .ref (ad 0)), (1, .int l1), (2, .int l2), (3, .int l3), (4, .int l4), (5, .int l5)] → W p l e R s m args below meth c H locs cells slots Q (F0 m 76 ls [.int s0]) := by
  intro l1 l2 l3 l4 l5 s0 x H locs ls  hw hW hS hl
  unfold j_Mod_collect_76 at hw
  refine lv_istore (lv' := [(6, .int s0), (0, .ref (ad 0)), (1, .int l1), (2, .int l2), (3, .int l3), (4, .int l4), (5, .int l5)]) hx hb d_Mod_collect_76 hl (by decide) rfl (fun ls hl => ?_)
  refine lv_iload hx hb d_Mod_collect_78 (lv_at hl 0 rfl) ?_
  refine lv_iconst (v := (-1)) hx hb d_Mod_collect_80 (by decide) ?_
  refine lv_icmp_ne (tgt := 87) hx hb d_Mod_collect_81 (by decide) (fun c2568 => ?_) (fun c2568 => ?_)
  · have hw := hw.1 c2568
    refine lv_bipush (v := 16) hx hb d_Mod_collect_87 (by decide) ?_
    refine lv_iload_n hx hb d_Mod_collect_89 rfl (lv_at hl 2 rfl) ?_
    refine lv_imul hx hb d_Mod_collect_90 ?_
    refine lv_iload_n hx hb d_Mod_collect_91 rfl (lv_at hl 4 rfl) ?_
    refine lv_iadd hx hb d_Mod_collect_92 ?_
    refine lv_topi (fun v2569 ev2569 => ?_)
    have hw := hw v2569 ev2569
    refine lv_istore (lv' := [(7, .int v2569), (6, .int s0), (0, .ref (ad 0)), (1, .int l1), (2, .int l2), (3, .int l3), (4, .int l4), (5, .int l5)]) hx hb d_Mod_collect_93 hl (by decide) rfl (fun ls hl => ?_)
    refine lv_aload_n hx hb d_Mod_collect_95 rfl (lv_at hl 2 rfl) ?_
    refine w_getf (q := 107) (k := 152) (t := 12) (C := R_Mod) (T := F_Mod) (N := 167) hx hb hT hown hK hW ko_0.1 ko_0.2 (by decide) in_Mod rfl rfl (by decide) rfl fr_Mod_152 w_9_88 d_Mod_collect_96 rfl ?_
    refine lv_iload hx hb d_Mod_collect_99 (lv_at hl 0 rfl) ?_
    refine lv_dup2_11 hx hb d_Mod_collect_101 rfl rfl ?_
    obtain ⟨hi, hw⟩ := hw
    refine w_iald (o := 107) hx hb hK hW ko_107.1 ko_107.2 hi d_Mod_collect_102 ?_
    refine lv_iconst (v := 1) hx hb d_Mod_collect_103 (by decide) ?_
    refine lv_iadd hx hb d_Mod_collect_104 ?_
    obtain ⟨hi, hw⟩ := hw
    refine w_iast (o := 107) hx hb hK hW hS ko_107.1 ko_107.2 hi d_Mod_collect_105 (fun H locs hW hS => ?_)
    obtain ⟨x2570, ex2570⟩ : ∃ y : St, y = setA x 107 v2569 ((rA x 107 v2569) + 1) := ⟨_, rfl⟩
    rw [← ex2570] at hW
    have hw := hw x2570 ex2570
    refine lv_aload_n hx hb d_Mod_collect_106 rfl (lv_at hl 2 rfl) ?_
    refine w_getf (q := 113) (k := 158) (t := 12) (C := R_Mod) (T := F_Mod) (N := 167) hx hb hT hown hK hW ko_0.1 ko_0.2 (by decide) in_Mod rfl rfl (by decide) rfl fr_Mod_158 w_9_94 d_Mod_collect_107 rfl ?_
    refine lv_iload hx hb d_Mod_collect_110 (lv_at hl 0 rfl) ?_
    refine lv_dup2_11 hx hb d_Mod_collect_112 rfl rfl ?_
    obtain ⟨hi, hw⟩ := hw
    refine w_lald (o := 113) hx hb hK hW ko_113.1 ko_113.2 hi d_Mod_collect_113 ?_
    refine lv_aload_n hx hb d_Mod_collect_114 rfl (lv_at hl 2 rfl) ?_
    refine w_getf (q := 54) (k := 89) (t := 12) (C := R_Mod) (T := F_Mod) (N := 167) hx hb hT hown hK hW ko_0.1 ko_0.2 (by decide) in_Mod rfl rfl (by decide) rfl fr_Mod_89 w_9_25 d_Mod_collect_115 rfl ?_
    refine lv_iload hx hb d_Mod_collect_118 (lv_at hl 1 rfl) ?_
    obtain ⟨hi, hw⟩ := hw
    refine w_lald (o := 54) hx hb hK hW ko_54.1 ko_54.2 hi d_Mod_collect_120 ?_
    refine lv_ladd hx hb d_Mod_collect_121 ?_
    obtain ⟨hi, hw⟩ := hw
    refine w_last (o := 113) hx hb hK hW hS ko_113.1 ko_113.2 hi d_Mod_collect_122 (fun H locs hW hS => ?_)
    obtain ⟨x2571, ex2571⟩ : ∃ y : St, y = setL x2570 113 v2569 ((rL x2570 113 v2569) + (rL x2570 54 s0)) := ⟨_, rfl⟩
    rw [← ex2571] at hW
    have hw := hw x2571 ex2571
    refine lv_aload_n hx hb d_Mod_collect_123 rfl (lv_at hl 2 rfl) ?_
    refine w_getf (q := 108) (k := 153) (t := 12) (C := R_Mod) (T := F_Mod) (N := 167) hx hb hT hown hK hW ko_0.1 ko_0.2 (by decide) in_Mod rfl rfl (by decide) rfl fr_Mod_153 w_9_89 d_Mod_collect_124 rfl ?_
    refine lv_iload hx hb d_Mod_collect_127 (lv_at hl 0 rfl) ?_
    obtain ⟨hi, hw⟩ := hw
    refine w_iald (o := 108) hx hb hK hW ko_108.1 ko_108.2 hi d_Mod_collect_129 ?_
    refine lv_iconst (v := (-1)) hx hb d_Mod_collect_130 (by decide) ?_
    refine lv_icmp_ne (tgt := 138) hx hb d_Mod_collect_131 (by decide) (fun c2572 => ?_) (fun c2572 => ?_)
    · have hw := hw.1 c2572
      refine lv_aload_n hx hb d_Mod_collect_138 rfl (lv_at hl 2 rfl) ?_
      refine lv_aload_n hx hb d_Mod_collect_139 rfl (lv_at hl 2 rfl) ?_
      refine w_getf (q := 4) (k := 6) (t := 12) (C := R_Mod) (T := F_Mod) (N := 167) hx hb hT hown hK hW ko_0.1 ko_0.2 (by decide) in_Mod rfl rfl (by decide) rfl fr_Mod_6 w_8_182 d_Mod_collect_140 rfl ?_
      refine lv_iconst (v := 1) hx hb d_Mod_collect_143 (by decide) ?_
      refine lv_iload hx hb d_Mod_collect_144 (lv_at hl 7 rfl) ?_
      have hF := hW.free hS hA
      refine va_calli (va_runS (As := [.int 1, .int l5]) (rest := [.ref (ad 4), .ref (ad 0)]) ⟨hx, hb, hml, hown, hT⟩ (k_Mod_place l dC dI cI cB cJ cZ ad H.size 1 l5 x2571  hw) ⟨callB_of 2 hT (gwt_in w_11_30) rfl rfl rfl (hT _ w_1_15) (hT _ w_11_28) (by decide +kernel) ⟨Nat.le_trans (Nat.le_of_ble_eq_true rfl) hRf, Nat.le_trans (Nat.le_of_ble_eq_true rfl) hRl⟩, hT _ w_11_29⟩ ⟨PW.blind, PW.at _ hW hK hN⟩ rfl rfl hl.1 rfl (lv_room (Nat.le_of_ble_eq_true rfl)) d_Mod_collect_146 ⟨hRc, hRs⟩) hS (fun q _ h => hF q h) hF (fun r2574 x2573 t H locs ht hvm hw hB hz1 hk1 hS => ?_)
      have hW := Wd.back hB ht hF
      clear hB ht hF hz1 hk1 hvm
      obtain ⟨hi, hw⟩ := hw
      refine w_iald (o := 4) hx hb hK hW ko_4.1 ko_4.2 hi d_Mod_collect_149 ?_
      refine lv_iload hx hb d_Mod_collect_150 (lv_at hl 1 rfl) ?_
      refine lv_aload_n hx hb d_Mod_collect_152 rfl (lv_at hl 2 rfl) ?_
      refine w_getf (q := 108) (k := 153) (t := 12) (C := R_Mod) (T := F_Mod) (N := 167) hx hb hT hown hK hW ko_0.1 ko_0.2 (by decide) in_Mod rfl rfl (by decide) rfl fr_Mod_153 w_9_89 d_Mod_collect_153 rfl ?_
      refine lv_iload hx hb d_Mod_collect_156 (lv_at hl 0 rfl) ?_
      obtain ⟨hi, hw⟩ := hw
      refine w_iald (o := 108) hx hb hK hW ko_108.1 ko_108.2 hi d_Mod_collect_158 ?_
      have hF := hW.free hS hA
      refine va_calli (va_runV (C := R_Mod) (As := [.int (rA x2573 4 r2574), .int s0, .int (rA x2573 108 v2569)]) (rest := []) ⟨hx, hb, hml, hown, hT⟩ (k_Mod_compare l dC dI cI cB cJ cZ ad H.size (rA x2573 4 r2574) s0 (rA x2573 108 v2569) x2573  hw) ⟨callB_of 3 hT (gwt_in w_13_26) rfl rfl rfl (hT _ w_1_15) (hT _ w_13_23) (by decide +kernel) ⟨Nat.le_trans (Nat.le_of_ble_eq_true rfl) hRf, Nat.le_trans (Nat.le_of_ble_eq_true rfl) hRl⟩, hT _ w_13_25, hT _ ws_219⟩ ⟨PW.blind, va_recv hK hW.1 (ci := 12) (q0 := 0) rfl (pic_obj ko_0.1 ko_0.2 (by decide)), PW.at _ hW hK hN⟩ rfl rfl hl.1 rfl (lv_room (Nat.le_of_ble_eq_true rfl)) d_Mod_collect_159 ⟨hRc, hRs⟩) hS (fun q _ h => hF q h) hF (fun r2576 x2575 t H locs ht hvm hw hB hz1 hk1 hS => ?_)
      have hW := Wd.back hB ht hF
      clear hB ht hF hz1 hk1 hvm
      exact t_Mod_collect_162 hx hb hml hown hT hK hN hA hRc hRs hRf hRl hret hrec12 l1 l2 l3 l4 l5 s0 v2569 r2576 x2575 H locs ls  hw hW hS (lv_sub hl [2, 3, 4, 5, 6, 7, 1, 0] rfl)
    · have hw := hw.2 c2572
      refine lv_iconst (v := 0) hx hb d_Mod_collect_134 (by decide) ?_
      refine lv_goto (tgt := 162) hx hb d_Mod_collect_135 (by decide) ?_
      exact t_Mod_collect_162 hx hb hml hown hT hK hN hA hRc hRs hRf hRl hret hrec12 l1 l2 l3 l4 l5 s0 v2569 0 x2571 H locs ls  hw hW hS (lv_sub hl [2, 3, 4, 5, 6, 7, 1, 0] rfl)
  · have hw := hw.2 c2568
    refine lv_goto (tgt := 203) hx hb d_Mod_collect_84 (by decide) ?_
    exact t_Mod_collect_203 hx hb hml hown hT hK hN hA hRc hRs hRf hRl hret hrec12 l1 l2 l3 l4 l5 s0 x H locs ls  hw hW hS (lv_sub hl [1, 2, 3, 4, 5, 6, 0] rfl)
set_option maxRecDepth 100000 in
set_option maxHeartbeats 4000000 in
set_option maxRecDepth 100000 in
theorem t_Mod_collect_12 {p : Program} {l : Launch} {e : Env} {R : Room} {s : State} {m : MethodId} {args : Array Value} {below : List Frame} {meth : Method} {c : Code} {cells slots : Nat} {Q : State → Prop} {dC : Nat → ClassId} {dI : Nat → Nat → Nat} {cI cB cJ cZ : ClassId} {A : Nat → Prop} {ad : Nat → Nat} {post : St → Prop} {rec12 : Int32 → Int32 → Int32 → St → Prop} (hx : p.tables.exec = Jvm.exec) (hb : c.code = b_Mod_collect) (hml : c.maxLocals = 9) (hown : s.vm.findClass R_Mod = some m.cls) (hT : ∀ w ∈ TG, w.before args s = true) (hK : va_K (dC, dI) CL (TY cI cB cJ cZ) s) (hN : NW s) (hA : ∀ q : Nat, s.heap.size ≤ q → A q) (hRc : cells ≤ R.cells) (hRs : slots ≤ R.slots) (hRf : 2 ≤ R.frames) (hRl : 46 ≤ R.locals) (hret : ∀ (x : St) (H : Heap) (locs : List Loc) (pc : Nat) (ls : Array Slot), decode b_Mod_collect pc = .ok (.return_, 1) → post x → Wd dC dI cI cB cJ cZ ad stM kcM 115 A x H → va_S A s.heap H locs → W p l e R s m args below meth c H locs cells slots Q (F0 m pc ls [])) (hrec12 : ∀ (l1 : Int32) (l2 : Int32) (l3 : Int32) (x : St) (H : Heap) (locs : List Loc) (ls : Array Slot), rec12 l1 l2 l3 x → Wd dC dI cI cB cJ cZ ad stM kcM 115 A x H → va_S A s.heap H locs → lv_has ls 9 [(0, .ref (ad 0)), (1, .int l1), (2, .int l2), (3, .int l3)] → W p l e R s m args below meth c H locs cells slots Q (F0 m 12 ls [])) : ∀ (l1 : Int32) (l2 : Int32) (l3 : Int32) (x : St) (H : Heap) (locs : List Loc) (ls : Array Slot), j_Mod_collect_12 post rec12 l1 l2 l3 x → Wd dC dI cI cB cJ cZ ad stM kcM 115 A x H → va_S A s.heap H locs → lv_has ls 9 [(0, .ref (ad 0)), (1, .int l1), (2, .int l2), (3, .int l3)] → W p l e R s m args below meth c H locs cells slots Q (F0 m 12 ls []) := by
  intro l1 l2 l3 x H locs ls  hw hW hS hl
  unfold j_Mod_collect_12 at hw
  refine lv_iload_n hx hb d_Mod_collect_12 rfl (lv_at hl 3 rfl) ?_
  refine lv_aload_n hx hb d_Mod_collect_13 rfl (lv_at hl 0 rfl) ?_
  refine w_getf (q := 79) (k := 122) (t := 12) (C := R_Mod) (T := F_Mod) (N := 167) hx hb hT hown hK hW ko_0.1 ko_0.2 (by decide) in_Mod rfl rfl (by decide) rfl fr_Mod_122 w_9_58 d_Mod_collect_14 rfl ?_
  refine lv_iconst (v := 4) hx hb d_Mod_collect_17 (by decide) ?_
  refine lv_aload_n hx hb d_Mod_collect_18 rfl (lv_at hl 0 rfl) ?_
  refine w_geti (k := 117) (t := 12) (C := R_Mod) (T := F_Mod) (N := 167) hx hb hT hown hK hW ko_0.1 ko_0.2 (by decide) in_Mod rfl rfl (by decide) rfl fr_Mod_117 w_9_53 d_Mod_collect_19 ?_
  refine lv_imul hx hb d_Mod_collect_22 ?_
  obtain ⟨hi, hw⟩ := hw
  refine w_iald (o := 79) hx hb hK hW ko_79.1 ko_79.2 hi d_Mod_collect_23 ?_
  refine lv_icmp_ge (tgt := 209) hx hb d_Mod_collect_24 (by decide) (fun c2577 => ?_) (fun c2577 => ?_)
  · have hw := hw.1 c2577
    exact hret x H locs 209 ls d_Mod_collect_209 hw hW hS
  · have hw := hw.2 c2577
    refine lv_aload_n hx hb d_Mod_collect_27 rfl (lv_at hl 0 rfl) ?_
    refine w_getf (q := 80) (k := 123) (t := 12) (C := R_Mod) (T := F_Mod) (N := 167) hx hb hT hown hK hW ko_0.1 ko_0.2 (by decide) in_Mod rfl rfl (by decide) rfl fr_Mod_123 w_9_59 d_Mod_collect_28 rfl ?_
    refine lv_bipush (v := 16) hx hb d_Mod_collect_31 (by decide) ?_
    refine lv_aload_n hx hb d_Mod_collect_33 rfl (lv_at hl 0 rfl) ?_
    refine w_geti (k := 117) (t := 12) (C := R_Mod) (T := F_Mod) (N := 167) hx hb hT hown hK hW ko_0.1 ko_0.2 (by decide) in_Mod rfl rfl (by decide) rfl fr_Mod_117 w_9_53 d_Mod_collect_34 ?_
    refine lv_imul hx hb d_Mod_collect_37 ?_
    refine lv_iload_n hx hb d_Mod_collect_38 rfl (lv_at hl 3 rfl) ?_
    refine lv_iadd hx hb d_Mod_collect_39 ?_
    obtain ⟨hi, hw⟩ := hw
    refine w_iald (o := 80) hx hb hK hW ko_80.1 ko_80.2 hi d_Mod_collect_40 ?_
    refine lv_topi (fun v2578 ev2578 => ?_)
    have hw := hw v2578 ev2578
    refine lv_istore (lv' := [(4, .int v2578), (0, .ref (ad 0)), (1, .int l1), (2, .int l2), (3, .int l3)]) hx hb d_Mod_collect_41 hl (by decide) rfl (fun ls hl => ?_)
    refine lv_aload_n hx hb d_Mod_collect_43 rfl (lv_at hl 1 rfl) ?_
    refine w_getf (q := 81) (k := 124) (t := 12) (C := R_Mod) (T := F_Mod) (N := 167) hx hb hT hown hK hW ko_0.1 ko_0.2 (by decide) in_Mod rfl rfl (by decide) rfl fr_Mod_124 w_9_60 d_Mod_collect_44 rfl ?_
    refine lv_bipush (v := 16) hx hb d_Mod_collect_47 (by decide) ?_
    refine lv_aload_n hx hb d_Mod_collect_49 rfl (lv_at hl 1 rfl) ?_
    refine w_geti (k := 117) (t := 12) (C := R_Mod) (T := F_Mod) (N := 167) hx hb hT hown hK hW ko_0.1 ko_0.2 (by decide) in_Mod rfl rfl (by decide) rfl fr_Mod_117 w_9_53 d_Mod_collect_50 ?_
    refine lv_imul hx hb d_Mod_collect_53 ?_
    refine lv_iload_n hx hb d_Mod_collect_54 rfl (lv_at hl 4 rfl) ?_
    refine lv_iadd hx hb d_Mod_collect_55 ?_
    obtain ⟨hi, hw⟩ := hw
    refine w_iald (o := 81) hx hb hK hW ko_81.1 ko_81.2 hi d_Mod_collect_56 ?_
    refine lv_topi (fun v2579 ev2579 => ?_)
    have hw := hw v2579 ev2579
    refine lv_istore (lv' := [(5, .int v2579), (4, .int v2578), (0, .ref (ad 0)), (1, .int l1), (2, .int l2), (3, .int l3)]) hx hb d_Mod_collect_57 hl (by decide) rfl (fun ls hl => ?_)
    refine lv_iload hx hb d_Mod_collect_59 (lv_at hl 1 rfl) ?_
    refine lv_iconst (v := 2) hx hb d_Mod_collect_61 (by decide) ?_
    refine lv_icmp_ge (tgt := 69) hx hb d_Mod_collect_62 (by decide) (fun c2580 => ?_) (fun c2580 => ?_)
    · have hw := hw.1 c2580
      refine lv_aload_n hx hb d_Mod_collect_69 rfl (lv_at hl 2 rfl) ?_
      refine lv_iload hx hb d_Mod_collect_70 (lv_at hl 0 rfl) ?_
      refine lv_iload_n hx hb d_Mod_collect_72 rfl (lv_at hl 4 rfl) ?_
      have hF := hW.free hS hA
      refine va_calli (va_runV (C := R_Mod) (As := [.int v2579, .int l2]) (rest := []) ⟨hx, hb, hml, hown, hT⟩ (k_Mod_valueAt l dC dI cI cB cJ cZ ad H.size v2579 l2 x  hw) ⟨callB_of 2 hT (gwt_in w_14_13) rfl rfl rfl (hT _ w_1_15) (hT _ w_14_10) (by decide +kernel) ⟨Nat.le_trans (Nat.le_of_ble_eq_true rfl) hRf, Nat.le_trans (Nat.le_of_ble_eq_true rfl) hRl⟩, hT _ w_14_12, hT _ ws_263⟩ ⟨PW.blind, va_recv hK hW.1 (ci := 12) (q0 := 0) rfl (pic_obj ko_0.1 ko_0.2 (by decide)), PW.at _ hW hK hN⟩ rfl rfl hl.1 rfl (lv_room (Nat.le_of_ble_eq_true rfl)) d_Mod_collect_73 ⟨hRc, hRs⟩) hS (fun q _ h => hF q h) hF (fun r2582 x2581 t H locs ht hvm hw hB hz1 hk1 hS => ?_)
      have hW := Wd.back hB ht hF
      clear hB ht hF hz1 hk1 hvm
      exact t_Mod_collect_76 hx hb hml hown hT hK hN hA hRc hRs hRf hRl hret hrec12 l1 l2 l3 v2578 v2579 r2582 x2581 H locs ls  hw hW hS (lv_sub hl [2, 3, 4, 5, 1, 0] rfl)
    · have hw := hw.2 c2580
      refine lv_iconst (v := (-1)) hx hb d_Mod_collect_65 (by decide) ?_
      refine lv_goto (tgt := 76) hx hb d_Mod_collect_66 (by decide) ?_
      exact t_Mod_collect_76 hx hb hml hown hT hK hN hA hRc hRs hRf hRl hret hrec12 l1 l2 l3 v2578 v2579 (-1) x H locs ls  hw hW hS (lv_sub hl [2, 3, 4, 5, 1, 0] rfl)
set_option maxHeartbeats 4000000 in
set_option maxRecDepth 100000 in
theorem tl_Mod_collect_12 {p : Program} {l : Launch} {e : Env} {R : Room} {s : State} {m : MethodId} {args : Array Value} {below : List Frame} {meth : Method} {c : Code} {cells slots : Nat} {Q : State → Prop} {dC : Nat → ClassId} {dI : Nat → Nat → Nat} {cI cB cJ cZ : ClassId} {A : Nat → Prop} {ad : Nat → Nat} {post : St → Prop} (hx : p.tables.exec = Jvm.exec) (hb : c.code = b_Mod_collect) (hml : c.maxLocals = 9) (hown : s.vm.findClass R_Mod = some m.cls) (hT : ∀ w ∈ TG, w.before args s = true) (hK : va_K (dC, dI) CL (TY cI cB cJ cZ) s) (hN : NW s) (hA : ∀ q : Nat, s.heap.size ≤ q → A q) (hRc : cells ≤ R.cells) (hRs : slots ≤ R.slots) (hRf : 2 ≤ R.frames) (hRl : 46 ≤ R.locals) (hret : ∀ (x : St) (H : Heap) (locs : List Loc) (pc : Nat) (ls : Array Slot), decode b_Mod_collect pc = .ok (.return_, 1) → post x → Wd dC dI cI cB cJ cZ ad stM kcM 115 A x H → va_S A s.heap H locs → W p l e R s m args below meth c H locs cells slots Q (F0 m pc ls []))  : ∀ n : Nat, ∀ (l1 : Int32) (l2 : Int32) (l3 : Int32) (x : St) (H : Heap) (locs : List Loc) (ls : Array Slot), wl_Mod_collect_12 post n l1 l2 l3 x → Wd dC dI cI cB cJ cZ ad stM kcM 115 A x H → va_S A s.heap H locs → lv_has ls 9 [(0, .ref (ad 0)), (1, .int l1), (2, .int l2), (3, .int l3)] → W p l e R s m args below meth c H locs cells slots Q (F0 m 12 ls []) := by
  intro n
  induction n with
  | zero => intro l1 l2 l3 x H locs ls  hw; exact hw.elim
  | succ n ih => intro l1 l2 l3 x H locs ls  hw hW hS hl; exact t_Mod_collect_12 hx hb hml hown hT hK hN hA hRc hRs hRf hRl hret  ih l1 l2 l3 x H locs ls  hw hW hS hl
set_option maxRecDepth 100000 in
set_option maxHeartbeats 4000000 in
set_option maxRecDepth 100000 in
theorem t_Mod_collect_e {p : Program} {l : Launch} {e : Env} {R : Room} {s : State} {m : MethodId} {args : Array Value} {below : List Frame} {meth : Method} {c : Code} {cells slots : Nat} {Q : State → Prop} {dC : Nat → ClassId} {dI : Nat → Nat → Nat} {cI cB cJ cZ : ClassId} {A : Nat → Prop} {ad : Nat → Nat} {post : St → Prop} (hx : p.tables.exec = Jvm.exec) (hb : c.code = b_Mod_collect) (hml : c.maxLocals = 9) (hown : s.vm.findClass R_Mod = some m.cls) (hT : ∀ w ∈ TG, w.before args s = true) (hK : va_K (dC, dI) CL (TY cI cB cJ cZ) s) (hN : NW s) (hA : ∀ q : Nat, s.heap.size ≤ q → A q) (hRc : cells ≤ R.cells) (hRs : slots ≤ R.slots) (hRf : 2 ≤ R.frames) (hRl : 46 ≤ R.locals) (hret : ∀ (x : St) (H : Heap) (locs : List Loc) (pc : Nat) (ls : Array Slot), decode b_Mod_collect pc = .ok (.return_, 1) → post x → Wd dC dI cI cB cJ cZ ad stM kcM 115 A x H → va_S A s.heap H locs → W p l e R s m args below meth c H locs cells slots Q (F0 m pc ls [])) : ∀ (l1 : Int32) (l2 : Int32) (x : St) (H : Heap) (locs : List Loc) (ls : Array Slot), wp_Mod_collect post l1 l2 x → Wd dC dI cI cB cJ cZ ad stM kcM 115 A x H → va_S A s.heap H locs → lv_has ls 9 [(0, .ref (ad 0)), (1, .int l1), (2, .int l2)] → W p l e R s m args below meth c H locs cells slots Q (F0 m 0 ls []) := by
  intro l1 l2 x H locs ls  hw hW hS hl
  unfold wp_Mod_collect at hw
  refine lv_aload_n hx hb d_Mod_collect_0 rfl (lv_at hl 0 rfl) ?_
  refine w_getf (q := 106) (k := 151) (t := 12) (C := R_Mod) (T := F_Mod) (N := 167) hx hb hT hown hK hW ko_0.1 ko_0.2 (by decide) in_Mod rfl rfl (by decide) rfl fr_Mod_151 w_9_87 d_Mod_collect_1 rfl ?_
  refine lv_iload_n hx hb d_Mod_collect_4 rfl (lv_at hl 1 rfl) ?_
  refine lv_dup2_11 hx hb d_Mod_collect_5 rfl rfl ?_
  obtain ⟨hi, hw⟩ := hw
  refine w_iald (o := 106) hx hb hK hW ko_106.1 ko_106.2 hi d_Mod_collect_6 ?_
  refine lv_iconst (v := 1) hx hb d_Mod_collect_7 (by decide) ?_
  refine lv_iadd hx hb d_Mod_collect_8 ?_
  obtain ⟨hi, hw⟩ := hw
  refine w_iast (o := 106) hx hb hK hW hS ko_106.1 ko_106.2 hi d_Mod_collect_9 (fun H locs hW hS => ?_)
  obtain ⟨x2583, ex2583⟩ : ∃ y : St, y = setA x 106 l1 ((rA x 106 l1) + 1) := ⟨_, rfl⟩
  rw [← ex2583] at hW
  have hw := hw x2583 ex2583
  refine lv_iconst (v := 0) hx hb d_Mod_collect_10 (by decide) ?_
  refine lv_istore_n (lv' := [(3, .int 0), (0, .ref (ad 0)), (1, .int l1), (2, .int l2)]) hx hb d_Mod_collect_11 rfl hl (by decide) rfl (fun ls hl => ?_)
  obtain ⟨n, hw⟩ := hw
  exact tl_Mod_collect_12 hx hb hml hown hT hK hN hA hRc hRs hRf hRl hret  n l1 l2 0 x2583 H locs ls  hw hW hS (lv_sub hl [1, 2, 3, 0] rfl)
set_option maxHeartbeats 4000000 in
set_option maxRecDepth 100000 in
theorem k_Mod_collect (l : Launch) (dC : Nat → ClassId) (dI : Nat → Nat → Nat) (cI cB cJ cZ : ClassId) (ad : Nat → Nat) (sz : Nat) (l1 : Int32) (l2 : Int32) (x : St) {post : St → Prop} (hw : wp_Mod_collect post l1 l2 x) : Met l y_Mod_collect (wsOf y_Mod_collect b_Mod_collect 9 (none)) ({ frames := 2, cells := 0, slots := 0, locals := 46 }) (va_Pc [.ref (ad 0), .int l1, .int l2] (PW dC dI cI cB cJ cZ ad stM kcM 115 sz x)) (va_Qv (fun (y : St) => post y) (fun y t => Wd dC dI cI cB cJ cZ ad stM kcM 115 (va_A (pic ad stM kcM 115 cI cB cJ cZ x) sz) y t.heap) (va_A (pic ad stM kcM 115 cI cB cJ cZ x) sz)) 0 0 (va_A (pic ad stM kcM 115 cI cB cJ cZ x) sz) := by
  refine Met.ofW (cc := b_Mod_collect) (maxL := 9) (ret := none) (by decide) rfl ?_
  intro p e s m args below meth c s₁ B hml hv
  obtain ⟨rfl, hsz, hW0, hK, hN⟩ := hv
  have hx := B.exec
  have hb := B.bytes
  have hr := B.returns
  have hts := atoms_spec B.pre
  have hT : ∀ w ∈ TG, w.before _ s = true := fun w h => hts w (List.mem_cons_of_mem _ h)
  have hown : s.vm.findClass R_Mod = some m.cls := findClass_of_methodNamed B.named
  have hlocks := B.notSynchronized
  subst hsz
  have hW : Wd dC dI cI cB cJ cZ ad stM kcM 115 (va_A (pic ad stM kcM 115 cI cB cJ cZ x) s.heap.size) x s.heap := ⟨hW0.1, hW0.2.1.self (sz := s.heap.size), hW0.2.2⟩
  generalize hAe : va_A (pic ad stM kcM 115 cI cB cJ cZ x) s.heap.size = A at hW ⊢
  have hA : ∀ q : Nat, s.heap.size ≤ q → A q := fun q h => by rw [← hAe]; exact Or.inr h
  have hS : va_S A s.heap s.heap [] := va_S.rf
  have hl := lv_entry ([.ref (ad 0), .int l1, .int l2]) (n := 9) (Nat.le_of_ble_eq_true rfl)
  rw [lg_entry_eq]
  generalize (lg_sl ([.ref (ad 0), .int l1, .int l2]) ++ List.replicate (9 - (lg_sl ([.ref (ad 0), .int l1, .int l2])).length) Slot.unset).toArray = ls at hl ⊢
  have hl : lv_has ls 9 [(0, .ref (ad 0)), (1, .int l1), (2, .int l2)] := hl
  exact t_Mod_collect_e hx hb hml hown hT hK hN hA (Nat.le_refl 0) (Nat.le_refl 0) (Nat.le_refl 2) (Nat.le_refl 46) (fun x H locs pc ls hd hp hW hS => W.vret hx hb hr (fun t ht hM => ⟨⟨x, rfl, hp, Wd.back hW ht.symm (fun _ z => z)⟩, hS.F ht⟩) hS.2.2 hd hlocks)  l1 l2 x _ _ ls  hw hW hS hl
set_option maxRecDepth 100000 in
set_option maxHeartbeats 4000000 in
set_option maxRecDepth 100000 in
theorem t_Mod_collectAll_112 {p : Program} {l : Launch} {e : Env} {R : Room} {s : State} {m : MethodId} {args : Array Value} {below : List Frame} {meth : Method} {c : Code} {cells slots : Nat} {Q : State → Prop} {dC : Nat → ClassId} {dI : Nat → Nat → Nat} {cI cB cJ cZ : ClassId} {A : Nat → Prop} {ad : Nat → Nat} {post : Int32 → St → Prop} {rec38 : Int32 → Int32 → St → Prop} (hx : p.tables.exec = Jvm.exec) (hb : c.code = b_Mod_collectAll) (hml : c.maxLocals = 4) (hown : s.vm.findClass R_Mod = some m.cls) (hT : ∀ w ∈ TG, w.before args s = true) (hK : va_K (dC, dI) CL (TY cI cB cJ cZ) s) (hN : NW s) (hA : ∀ q : Nat, s.heap.size ≤ q → A q) (hRc : cells ≤ R.cells) (hRs : slots ≤ R.slots) (hRf : 3 ≤ R.frames) (hRl : 74 ≤ R.locals) (hret : ∀ (r : Int32) (x : St) (H : Heap) (locs : List Loc) (pc : Nat) (ls : Array Slot), decode b_Mod_collectAll pc = .ok (.ireturn, 1) → narrow .boolean (.int r) = .int r → post r x → Wd dC dI cI cB cJ cZ ad stM kcM 115 A x H → va_S A s.heap H locs → W p l e R s m args below meth c H locs cells slots Q (F0 m pc ls [.int r])) (hrec38 : ∀ (l1 : Int32) (l2 : Int32) (x : St) (H : Heap) (locs : List Loc) (ls : Array Slot), rec38 l1 l2 x → Wd dC dI cI cB cJ cZ ad stM kcM 115 A x H → va_S A s.heap H locs → lv_has ls 4 [(0, .ref (ad 0)), (1, .int l1), (2, .int l2)] → W p l e R s m args below meth c H locs cells slots Q (F0 m 38 ls [])) : ∀ (l1 : Int32) (l2 : Int32) (l3 : Int32) (x : St) (H : Heap) (locs : List Loc) (ls : Array Slot), j_Mod_collectAll_112 post rec38 l1 l2 l3 x → Wd dC dI cI cB cJ cZ ad stM kcM 115 A x H → va_S A s.heap H locs → lv_has ls 4 [(0, .ref (ad 0)), (1, .int l1), (2, .int l2), (3, .int l3)] → W p l e R s m args below meth c H locs cells slots Q (F0 m 112 ls []) := by
  intro l1 l2 l3 x H locs ls  hw hW hS hl
  unfold j_Mod_collectAll_112 at hw
  refine lv_aload_n hx hb d_Mod_collectAll_112 rfl (lv_at hl 0 rfl) ?_
  refine lv_iload_n hx hb d_Mod_collectAll_113 rfl (lv_at hl 3 rfl) ?_
  refine lv_aload_n hx hb d_Mod_collectAll_114 rfl (lv_at hl 0 rfl) ?_
  refine w_getf (q := 103) (k := 148) (t := 12) (C := R_Mod) (T := F_Mod) (N := 167) hx hb hT hown hK hW ko_0.1 ko_0.2 (by decide) in_Mod rfl rfl (by decide) rfl fr_Mod_148 w_9_84 d_Mod_collectAll_115 rfl ?_
  refine lv_iload_n hx hb d_Mod_collectAll_118 rfl (lv_at hl 2 rfl) ?_
  obtain ⟨hi, hw⟩ := hw
  refine w_iald (o := 103) hx hb hK hW ko_103.1 ko_103.2 hi d_Mod_collectAll_119 ?_
  have hF := hW.free hS hA
  refine va_callv (va_runV (C := R_Mod) (As := [.int l3, .int (rA x 103 l2)]) (rest := []) ⟨hx, hb, hml, hown, hT⟩ (k_Mod_collect l dC dI cI cB cJ cZ ad H.size l3 (rA x 103 l2) x  hw) ⟨callB_of 2 hT (gwt_in w_14_47) rfl rfl rfl (hT _ w_1_15) (hT _ w_14_44) (by decide +kernel) ⟨Nat.le_trans (Nat.le_of_ble_eq_true rfl) hRf, Nat.le_trans (Nat.le_of_ble_eq_true rfl) hRl⟩, hT _ w_14_46, hT _ ws_270⟩ ⟨PW.blind, va_recv hK hW.1 (ci := 12) (q0 := 0) rfl (pic_obj ko_0.1 ko_0.2 (by decide)), PW.at _ hW hK hN⟩ rfl rfl hl.1 rfl (lv_room (Nat.le_of_ble_eq_true rfl)) d_Mod_collectAll_120 ⟨hRc, hRs⟩) hS (fun q _ h => hF q h) hF (fun  x2584 t H locs ht hvm hw hB hz1 hk1 hS => ?_)
  have hW := Wd.back hB ht hF
  clear hB ht hF hz1 hk1 hvm
  refine lv_iinc (v := (l2 + 1)) (lv' := [(2, .int (l2 + 1)), (0, .ref (ad 0)), (1, .int l1), (3, .int l3)]) hx hb d_Mod_collectAll_123 hl (k := 2) rfl rfl (by decide) rfl (fun ls hl => ?_)
  refine lv_goto (tgt := 38) hx hb d_Mod_collectAll_126 (by decide) ?_
  exact hrec38 l1 (l2 + 1) x2584 H locs ls  hw hW hS (lv_sub hl [1, 2, 0] rfl)
set_option maxRecDepth 100000 in
set_option maxHeartbeats 4000000 in
set_option maxRecDepth 100000 in
theorem t_Mod_collectAll_85 {p : Program} {l : Launch} {e : Env} {R : Room} {s : State} {m : MethodId} {args : Array Value} {below : List Frame} {meth : Method} {c : Code} {cells slots : Nat} {Q : State → Prop} {dC : Nat → ClassId} {dI : Nat → Nat → Nat} {cI cB cJ cZ : ClassId} {A : Nat → Prop} {ad : Nat → Nat} {post : Int32 → St → Prop} {rec38 : Int32 → Int32 → St → Prop} (hx : p.tables.exec = Jvm.exec) (hb : c.code = b_Mod_collectAll) (hml : c.maxLocals = 4) (hown : s.vm.findClass R_Mod = some m.cls) (hT : ∀ w ∈ TG, w.before args s = true) (hK : va_K (dC, dI) CL (TY cI cB cJ cZ) s) (hN : NW s) (hA : ∀ q : Nat, s.heap.size ≤ q → A q) (hRc : cells ≤ R.cells) (hRs : slots ≤ R.slots) (hRf : 3 ≤ R.frames) (hRl : 74 ≤ R.locals) (hret : ∀ (r : Int32) (x : St) (H : Heap) (locs : List Loc) (pc : Nat) (ls : Array Slot), decode b_Mod_collectAll pc = .ok (.ireturn, 1) → narrow .boolean (.int r) = .int r → post r x → Wd dC dI cI cB cJ cZ ad stM kcM 115 A x H → va_S A s.heap H locs → W p l e R s m args below meth c H locs cells slots Q (F0 m pc ls [.int r])) (hrec38 : ∀ (l1 : Int32) (l2 : Int32) (x : St) (H : Heap) (locs : List Loc) (ls : Array Slot), rec38 l1 l2 x → Wd dC dI cI cB cJ cZ ad stM kcM 115 A x H → va_S A s.heap H locs → lv_has ls 4 [(0, .ref (ad 0)), (1, .int l1), (2, .int l2)] → W p l e R s m args below meth c H locs cells slots Q (F0 m 38 ls [])) : ∀ (l1 : Int32) (l2 : Int32) (l3 : Int32) (x : St) (H : Heap) (locs : List Loc) (ls : Array Slot), j_Mod_collectAll_85 post rec38 l1 l2 l3 x → Wd dC dI cI cB cJ cZ ad stM kcM 115 A x H → va_S A s.heap H locs → lv_has ls 4 [(0, .ref (ad 0)), (1, .int l1), (2, .int l2), (3, .int l3)] → W p l e R s m args below meth c H locs cells slots Q (F0 m 85 ls []) := by
  intro l1 l2 l3 x H locs ls  hw hW hS hl
  unfold j_Mod_collectAll_85 at hw
  refine lv_iload_n hx hb d_Mod_collectAll_85 rfl (lv_at hl 3 rfl) ?_
  refine lv_sipush (v := 500) hx hb d_Mod_collectAll_86 (by decide) ?_
  refine lv_icmp_ne (tgt := 94) hx hb d_Mod_collectAll_89 (by decide) (fun c2585 => ?_) (fun c2585 => ?_)
  · have hw := hw.1 c2585
    refine lv_iload_n hx hb d_Mod_collectAll_94 rfl (lv_at hl 3 rfl) ?_
    refine lv_aload_n hx hb d_Mod_collectAll_95 rfl (lv_at hl 0 rfl) ?_
    refine w_geti (k := 162) (t := 12) (C := R_Mod) (T := F_Mod) (N := 167) hx hb hT hown hK hW ko_0.1 ko_0.2 (by decide) in_Mod rfl rfl (by decide) rfl fr_Mod_162 w_9_98 d_Mod_collectAll_96 ?_
    refine lv_icmp_ne (tgt := 112) hx hb d_Mod_collectAll_99 (by decide) (fun c2586 => ?_) (fun c2586 => ?_)
    · have hw := hw.1 c2586
      exact t_Mod_collectAll_112 hx hb hml hown hT hK hN hA hRc hRs hRf hRl hret hrec38 l1 l2 l3 x H locs ls  hw hW hS (lv_sub hl [0, 1, 2, 3] rfl)
    · have hw := hw.2 c2586
      refine lv_aload_n hx hb d_Mod_collectAll_102 rfl (lv_at hl 0 rfl) ?_
      refine lv_aload_n hx hb d_Mod_collectAll_103 rfl (lv_at hl 0 rfl) ?_
      refine w_getf (q := 103) (k := 148) (t := 12) (C := R_Mod) (T := F_Mod) (N := 167) hx hb hT hown hK hW ko_0.1 ko_0.2 (by decide) in_Mod rfl rfl (by decide) rfl fr_Mod_148 w_9_84 d_Mod_collectAll_104 rfl ?_
      refine lv_iload_n hx hb d_Mod_collectAll_107 rfl (lv_at hl 2 rfl) ?_
      obtain ⟨hi, hw⟩ := hw
      refine w_iald (o := 103) hx hb hK hW ko_103.1 ko_103.2 hi d_Mod_collectAll_108 ?_
      have hF := hW.free hS hA
      refine va_callv (va_runV (C := R_Mod) (As := [.int (rA x 103 l2)]) (rest := []) ⟨hx, hb, hml, hown, hT⟩ (k_Mod_newGroup l dC dI cI cB cJ cZ ad H.size (rA x 103 l2) x  hw) ⟨callB_of 1 hT (gwt_in w_14_39) rfl rfl rfl (hT _ w_1_15) (hT _ w_14_36) (by decide +kernel) ⟨Nat.le_trans (Nat.le_of_ble_eq_true rfl) hRf, Nat.le_trans (Nat.le_of_ble_eq_true rfl) hRl⟩, hT _ w_14_38, hT _ ws_268⟩ ⟨PW.blind, va_recv hK hW.1 (ci := 12) (q0 := 0) rfl (pic_obj ko_0.1 ko_0.2 (by decide)), PW.at _ hW hK hN⟩ rfl rfl hl.1 rfl (lv_room (Nat.le_of_ble_eq_true rfl)) d_Mod_collectAll_109 ⟨hRc, hRs⟩) hS (fun q _ h => hF q h) hF (fun  x2587 t H locs ht hvm hw hB hz1 hk1 hS => ?_)
      have hW := Wd.back hB ht hF
      clear hB ht hF hz1 hk1 hvm
      exact t_Mod_collectAll_112 hx hb hml hown hT hK hN hA hRc hRs hRf hRl hret hrec38 l1 l2 l3 x2587 H locs ls  hw hW hS (lv_sub hl [0, 1, 2, 3] rfl)
  · have hw := hw.2 c2585
    refine lv_iconst (v := 0) hx hb d_Mod_collectAll_92 (by decide) ?_
    exact hret 0 x H locs 93 ls d_Mod_collectAll_93 rfl hw hW hS
set_option maxRecDepth 100000 in
set_option maxHeartbeats 4000000 in
set_option maxRecDepth 100000 in
theorem t_Mod_collectAll_48 {p : Program} {l : Launch} {e : Env} {R : Room} {s : State} {m : MethodId} {args : Array Value} {below : List Frame} {meth : Method} {c : Code} {cells slots : Nat} {Q : State → Prop} {dC : Nat → ClassId} {dI : Nat → Nat → Nat} {cI cB cJ cZ : ClassId} {A : Nat → Prop} {ad : Nat → Nat} {post : Int32 → St → Prop} {rec38 : Int32 → Int32 → St → Prop} {rec48 : Int32 → Int32 → Int32 → St → Prop} (hx : p.tables.exec = Jvm.exec) (hb : c.code = b_Mod_collectAll) (hml : c.maxLocals = 4) (hown : s.vm.findClass R_Mod = some m.cls) (hT : ∀ w ∈ TG, w.before args s = true) (hK : va_K (dC, dI) CL (TY cI cB cJ cZ) s) (hN : NW s) (hA : ∀ q : Nat, s.heap.size ≤ q → A q) (hRc : cells ≤ R.cells) (hRs : slots ≤ R.slots) (hRf : 3 ≤ R.frames) (hRl : 74 ≤ R.locals) (hret : ∀ (r : Int32) (x : St) (H : Heap) (locs : List Loc) (pc : Nat) (ls : Array Slot), decode b_Mod_collectAll pc = .ok (.ireturn, 1) → narrow .boolean (.int r) = .int r → post r x → Wd dC dI cI cB cJ cZ ad stM kcM 115 A x H → va_S A s.heap H locs → W p l e R s m args below meth c H locs cells slots Q (F0 m pc ls [.int r])) (hrec38 : ∀ (l1 : Int32) (l2 : Int32) (x : St) (H : Heap) (locs : List Loc) (ls : Array Slot), rec38 l1 l2 x → Wd dC dI cI cB cJ cZ ad stM kcM 115 A x H → va_S A s.heap H locs → lv_has ls 4 [(0, .ref (ad 0)), (1, .int l1), (2, .int l2)] → W p l e R s m args below meth c H locs cells slots Q (F0 m 38 ls [])) (hrec48 : ∀ (l1 : Int32) (l2 : Int32) (l3 : Int32) (x : St) (H : Heap) (locs : List Loc) (ls : Array Slot), rec48 l1 l2 l3 x → Wd dC dI cI cB cJ cZ ad stM kcM 115 A x H → va_S A s.heap H locs → lv_has ls 4 [(0, .ref (ad 0)), (1, .int l1), (2, .int l2), (3, .int l3)] → W p l e R s m args below meth c H locs cells slots Q (F0 m 48 ls [])) : ∀ (l1 : Int32) (l2 : Int32) (l3 : Int32) (x : St) (H : Heap) (locs : List Loc) (ls : Array Slot), j_Mod_collectAll_48 post rec38 rec48 l1 l2 l3 x → Wd dC dI cI cB cJ cZ ad stM kcM 115 A x H → va_S A s.heap H locs → lv_has ls 4 [(0, .ref (ad 0)), (1, .int l1), (2, .int l2), (3, .int l3)] → W p l e R s m args below meth c H locs cells slots Q (F0 m 48 ls []) := by
  intro l1 l2 l3 x H locs ls  hw hW hS hl
  unfold j_Mod_collectAll_48 at hw
  refine lv_iload_n hx hb d_Mod_collectAll_48 rfl (lv_at hl 1 rfl) ?_
  refine lv_if_ne (tgt := 85) hx hb d_Mod_collectAll_49 (by decide) (fun c2588 => ?_) (fun c2588 => ?_)
  · have hw := hw.1 c2588
    exact t_Mod_collectAll_85 hx hb hml hown hT hK hN hA hRc hRs hRf hRl hret hrec38 l1 l2 l3 x H locs ls  hw hW hS (lv_sub hl [0, 1, 2, 3] rfl)
  · have hw := hw.2 c2588
    refine lv_iload_n hx hb d_Mod_collectAll_52 rfl (lv_at hl 3 rfl) ?_
    refine lv_aload_n hx hb d_Mod_collectAll_53 rfl (lv_at hl 0 rfl) ?_
    refine w_geti (k := 162) (t := 12) (C := R_Mod) (T := F_Mod) (N := 167) hx hb hT hown hK hW ko_0.1 ko_0.2 (by decide) in_Mod rfl rfl (by decide) rfl fr_Mod_162 w_9_98 d_Mod_collectAll_54 ?_
    refine lv_icmp_ge (tgt := 85) hx hb d_Mod_collectAll_57 (by decide) (fun c2589 => ?_) (fun c2589 => ?_)
    · have hw := hw.1 c2589
      exact t_Mod_collectAll_85 hx hb hml hown hT hK hN hA hRc hRs hRf hRl hret hrec38 l1 l2 l3 x H locs ls  hw hW hS (lv_sub hl [0, 1, 2, 3] rfl)
    · have hw := hw.2 c2589
      refine lv_aload_n hx hb d_Mod_collectAll_60 rfl (lv_at hl 0 rfl) ?_
      refine lv_aload_n hx hb d_Mod_collectAll_61 rfl (lv_at hl 0 rfl) ?_
      refine w_getf (q := 105) (k := 150) (t := 12) (C := R_Mod) (T := F_Mod) (N := 167) hx hb hT hown hK hW ko_0.1 ko_0.2 (by decide) in_Mod rfl rfl (by decide) rfl fr_Mod_150 w_9_86 d_Mod_collectAll_62 rfl ?_
      refine lv_iload_n hx hb d_Mod_collectAll_65 rfl (lv_at hl 3 rfl) ?_
      obtain ⟨hi, hw⟩ := hw
      refine w_iald (o := 105) hx hb hK hW ko_105.1 ko_105.2 hi d_Mod_collectAll_66 ?_
      refine lv_aload_n hx hb d_Mod_collectAll_67 rfl (lv_at hl 0 rfl) ?_
      refine w_getf (q := 103) (k := 148) (t := 12) (C := R_Mod) (T := F_Mod) (N := 167) hx hb hT hown hK hW ko_0.1 ko_0.2 (by decide) in_Mod rfl rfl (by decide) rfl fr_Mod_148 w_9_84 d_Mod_collectAll_68 rfl ?_
      refine lv_iload_n hx hb d_Mod_collectAll_71 rfl (lv_at hl 2 rfl) ?_
      obtain ⟨hi, hw⟩ := hw
      refine w_iald (o := 103) hx hb hK hW ko_103.1 ko_103.2 hi d_Mod_collectAll_72 ?_
      have hF := hW.free hS hA
      refine va_calli (va_runV (C := R_Mod) (As := [.int (rA x 105 l3), .int (rA x 103 l2)]) (rest := []) ⟨hx, hb, hml, hown, hT⟩ (k_Mod_sameBy l dC dI cI cB cJ cZ ad H.size (rA x 105 l3) (rA x 103 l2) x  hw) ⟨callB_of 2 hT (gwt_in w_14_43) rfl rfl rfl (hT _ w_1_15) (hT _ w_14_40) (by decide +kernel) ⟨Nat.le_trans (Nat.le_of_ble_eq_true rfl) hRf, Nat.le_trans (Nat.le_of_ble_eq_true rfl) hRl⟩, hT _ w_14_42, hT _ ws_269⟩ ⟨PW.blind, va_recv hK hW.1 (ci := 12) (q0 := 0) rfl (pic_obj ko_0.1 ko_0.2 (by decide)), PW.at _ hW hK hN⟩ rfl rfl hl.1 rfl (lv_room (Nat.le_of_ble_eq_true rfl)) d_Mod_collectAll_73 ⟨hRc, hRs⟩) hS (fun q _ h => hF q h) hF (fun r2591 x2590 t H locs ht hvm hw hB hz1 hk1 hS => ?_)
      have hW := Wd.back hB ht hF
      clear hB ht hF hz1 hk1 hvm
      refine lv_if_ne (tgt := 85) hx hb d_Mod_collectAll_76 (by decide) (fun c2592 => ?_) (fun c2592 => ?_)
      · have hw := hw.1 c2592
        exact t_Mod_collectAll_85 hx hb hml hown hT hK hN hA hRc hRs hRf hRl hret hrec38 l1 l2 l3 x2590 H locs ls  hw hW hS (lv_sub hl [0, 1, 2, 3] rfl)
      · have hw := hw.2 c2592
        refine lv_iinc (v := (l3 + 1)) (lv' := [(3, .int (l3 + 1)), (0, .ref (ad 0)), (1, .int l1), (2, .int l2)]) hx hb d_Mod_collectAll_79 hl (k := 3) rfl rfl (by decide) rfl (fun ls hl => ?_)
        refine lv_goto (tgt := 48) hx hb d_Mod_collectAll_82 (by decide) ?_
        exact hrec48 l1 l2 (l3 + 1) x2590 H locs ls  hw hW hS (lv_sub hl [1, 2, 3, 0] rfl)
set_option maxHeartbeats 4000000 in
set_option maxRecDepth 100000 in
theorem tl_Mod_collectAll_48 {p : Program} {l : Launch} {e : Env} {R : Room} {s : State} {m : MethodId} {args : Array Value} {below : List Frame} {meth : Method} {c : Code} {cells slots : Nat} {Q : State → Prop} {dC : Nat → ClassId} {dI : Nat → Nat → Nat} {cI cB cJ cZ : ClassId} {A : Nat → Prop} {ad : Nat → Nat} {post : Int32 → St → Prop} {rec38 : Int32 → Int32 → St → Prop} (hx : p.tables.exec = Jvm.exec) (hb : c.code = b_Mod_collectAll) (hml : c.maxLocals = 4) (hown : s.vm.findClass R_Mod = some m.cls) (hT : ∀ w ∈ TG, w.before args s = true) (hK : va_K (dC, dI) CL (TY cI cB cJ cZ) s) (hN : NW s) (hA : ∀ q : Nat, s.heap.size ≤ q → A q) (hRc : cells ≤ R.cells) (hRs : slots ≤ R.slots) (hRf : 3 ≤ R.frames) (hRl : 74 ≤ R.locals) (hret : ∀ (r : Int32) (x : St) (H : Heap) (locs : List Loc) (pc : Nat) (ls : Array Slot), decode b_Mod_collectAll pc = .ok (.ireturn, 1) → narrow .boolean (.int r) = .int r → post r x → Wd dC dI cI cB cJ cZ ad stM kcM 115 A x H → va_S A s.heap H locs → W p l e R s m args below meth c H locs cells slots Q (F0 m pc ls [.int r])) (hrec38 : ∀ (l1 : Int32) (l2 : Int32) (x : St) (H : Heap) (locs : List Loc) (ls : Array Slot), rec38 l1 l2 x → Wd dC dI cI cB cJ cZ ad stM kcM 115 A x H → va_S A s.heap H locs → lv_has ls 4 [(0, .ref (ad 0)), (1, .int l1), (2, .int l2)] → W p l e R s m args below meth c H locs cells slots Q (F0 m 38 ls [])) : ∀ n : Nat, ∀ (l1 : Int32) (l2 : Int32) (l3 : Int32) (x : St) (H : Heap) (locs : List Loc) (ls : Array Slot), wl_Mod_collectAll_48 post rec38 n l1 l2 l3 x → Wd dC dI cI cB cJ cZ ad stM kcM 115 A x H → va_S A s.heap H locs → lv_has ls 4 [(0, .ref (ad 0)), (1, .int l1), (2, .int l2), (3, .int l3)] → W p l e R s m args below meth c H locs cells slots Q (F0 m 48 ls []) := by
  intro n
  induction n with
  | zero => intro l1 l2 l3 x H locs ls  hw; exact hw.elim
  | succ n ih => intro l1 l2 l3 x H locs ls  hw hW hS hl; exact t_Mod_collectAll_48 hx hb hml hown hT hK hN hA hRc hRs hRf hRl hret hrec38 ih l1 l2 l3 x H locs ls  hw hW hS hl
set_option maxRecDepth 100000 in
set_option maxHeartbeats 4000000 in
set_option maxRecDepth 100000 in
theorem t_Mod_collectAll_38 {p : Program} {l : Launch} {e : Env} {R : Room} {s : State} {m : MethodId} {args : Array Value} {below : List Frame} {meth : Method} {c : Code} {cells slots : Nat} {Q : State → Prop} {dC : Nat → ClassId} {dI : Nat → Nat → Nat} {cI cB cJ cZ : ClassId} {A : Nat → Prop} {ad : Nat → Nat} {post : Int32 → St → Prop} {rec38 : Int32 → Int32 → St → Prop} (hx : p.tables.exec = Jvm.exec) (hb : c.code = b_Mod_collectAll) (hml : c.maxLocals = 4) (hown : s.vm.findClass R_Mod = some m.cls) (hT : ∀ w ∈ TG, w.before args s = true) (hK : va_K (dC, dI) CL (TY cI cB cJ cZ) s) (hN : NW s) (hA : ∀ q : Nat, s.heap.size ≤ q → A q) (hRc : cells ≤ R.cells) (hRs : slots ≤ R.slots) (hRf : 3 ≤ R.frames) (hRl : 74 ≤ R.locals) (hret : ∀ (r : Int32) (x : St) (H : Heap) (locs : List Loc) (pc : Nat) (ls : Array Slot), decode b_Mod_collectAll pc = .ok (.ireturn, 1) → narrow .boolean (.int r) = .int r → post r x → Wd dC dI cI cB cJ cZ ad stM kcM 115 A x H → va_S A s.heap H locs → W p l e R s m args below meth c H locs cells slots Q (F0 m pc ls [.int r])) (hrec38 : ∀ (l1 : Int32) (l2 : Int32) (x : St) (H : Heap) (locs : List Loc) (ls : Array Slot), rec38 l1 l2 x → Wd dC dI cI cB cJ cZ ad stM kcM 115 A x H → va_S A s.heap H locs → lv_has ls 4 [(0, .ref (ad 0)), (1, .int l1), (2, .int l2)] → W p l e R s m args below meth c H locs cells slots Q (F0 m 38 ls [])) : ∀ (l1 : Int32) (l2 : Int32) (x : St) (H : Heap) (locs : List Loc) (ls : Array Slot), j_Mod_collectAll_38 post rec38 l1 l2 x → Wd dC dI cI cB cJ cZ ad stM kcM 115 A x H → va_S A s.heap H locs → lv_has ls 4 [(0, .ref (ad 0)), (1, .int l1), (2, .int l2)] → W p l e R s m args below meth c H locs cells slots Q (F0 m 38 ls []) := by
  intro l1 l2 x H locs ls  hw hW hS hl
  unfold j_Mod_collectAll_38 at hw
  refine lv_iload_n hx hb d_Mod_collectAll_38 rfl (lv_at hl 2 rfl) ?_
  refine lv_aload_n hx hb d_Mod_collectAll_39 rfl (lv_at hl 0 rfl) ?_
  refine w_geti (k := 160) (t := 12) (C := R_Mod) (T := F_Mod) (N := 167) hx hb hT hown hK hW ko_0.1 ko_0.2 (by decide) in_Mod rfl rfl (by decide) rfl fr_Mod_160 w_9_96 d_Mod_collectAll_40 ?_
  refine lv_icmp_ge (tgt := 129) hx hb d_Mod_collectAll_43 (by decide) (fun c2593 => ?_) (fun c2593 => ?_)
  · have hw := hw.1 c2593
    refine lv_iconst (v := 1) hx hb d_Mod_collectAll_129 (by decide) ?_
    exact hret 1 x H locs 130 ls d_Mod_collectAll_130 rfl hw hW hS
  · have hw := hw.2 c2593
    refine lv_iconst (v := 0) hx hb d_Mod_collectAll_46 (by decide) ?_
    refine lv_istore_n (lv' := [(3, .int 0), (0, .ref (ad 0)), (1, .int l1), (2, .int l2)]) hx hb d_Mod_collectAll_47 rfl hl (by decide) rfl (fun ls hl => ?_)
    obtain ⟨n, hw⟩ := hw
    exact tl_Mod_collectAll_48 hx hb hml hown hT hK hN hA hRc hRs hRf hRl hret hrec38 n l1 l2 0 x H locs ls  hw hW hS (lv_sub hl [1, 2, 3, 0] rfl)
set_option maxHeartbeats 4000000 in
set_option maxRecDepth 100000 in
theorem tl_Mod_collectAll_38 {p : Program} {l : Launch} {e : Env} {R : Room} {s : State} {m : MethodId} {args : Array Value} {below : List Frame} {meth : Method} {c : Code} {cells slots : Nat} {Q : State → Prop} {dC : Nat → ClassId} {dI : Nat → Nat → Nat} {cI cB cJ cZ : ClassId} {A : Nat → Prop} {ad : Nat → Nat} {post : Int32 → St → Prop} (hx : p.tables.exec = Jvm.exec) (hb : c.code = b_Mod_collectAll) (hml : c.maxLocals = 4) (hown : s.vm.findClass R_Mod = some m.cls) (hT : ∀ w ∈ TG, w.before args s = true) (hK : va_K (dC, dI) CL (TY cI cB cJ cZ) s) (hN : NW s) (hA : ∀ q : Nat, s.heap.size ≤ q → A q) (hRc : cells ≤ R.cells) (hRs : slots ≤ R.slots) (hRf : 3 ≤ R.frames) (hRl : 74 ≤ R.locals) (hret : ∀ (r : Int32) (x : St) (H : Heap) (locs : List Loc) (pc : Nat) (ls : Array Slot), decode b_Mod_collectAll pc = .ok (.ireturn, 1) → narrow .boolean (.int r) = .int r → post r x → Wd dC dI cI cB cJ cZ ad stM kcM 115 A x H → va_S A s.heap H locs → W p l e R s m args below meth c H locs cells slots Q (F0 m pc ls [.int r]))  : ∀ n : Nat, ∀ (l1 : Int32) (l2 : Int32) (x : St) (H : Heap) (locs : List Loc) (ls : Array Slot), wl_Mod_collectAll_38 post n l1 l2 x → Wd dC dI cI cB cJ cZ ad stM kcM 115 A x H → va_S A s.heap H locs → lv_has ls 4 [(0, .ref (ad 0)), (1, .int l1), (2, .int l2)] → W p l e R s m args below meth c H locs cells slots Q (F0 m 38 ls []) := by
  intro n
  induction n with
  | zero => intro l1 l2 x H locs ls  hw; exact hw.elim
  | succ n ih => intro l1 l2 x H locs ls  hw hW hS hl; exact t_Mod_collectAll_38 hx hb hml hown hT hK hN hA hRc hRs hRf hRl hret  ih l1 l2 x H locs ls  hw hW hS hl
set_option maxRecDepth 100000 in
set_option maxHeartbeats 4000000 in
set_option maxRecDepth 100000 in
theorem t_Mod_collectAll_36 {p : Program} {l : Launch} {e : Env} {R : Room} {s : State} {m : MethodId} {args : Array Value} {below : List Frame} {meth : Method} {c : Code} {cells slots : Nat} {Q : State → Prop} {dC : Nat → ClassId} {dI : Nat → Nat → Nat} {cI cB cJ cZ : ClassId} {A : Nat → Prop} {ad : Nat → Nat} {post : Int32 → St → Prop} (hx : p.tables.exec = Jvm.exec) (hb : c.code = b_Mod_collectAll) (hml : c.maxLocals = 4) (hown : s.vm.findClass R_Mod = some m.cls) (hT : ∀ w ∈ TG, w.before args s = true) (hK : va_K (dC, dI) CL (TY cI cB cJ cZ) s) (hN : NW s) (hA : ∀ q : Nat, s.heap.size ≤ q → A q) (hRc : cells ≤ R.cells) (hRs : slots ≤ R.slots) (hRf : 3 ≤ R.frames) (hRl : 74 ≤ R.locals) (hret : ∀ (r : Int32) (x : St) (H : Heap) (locs : List Loc) (pc : Nat) (ls : Array Slot), decode b_Mod_collectAll pc = .ok (.ireturn, 1) → narrow .boolean (.int r) = .int r → post r x → Wd dC dI cI cB cJ cZ ad stM kcM 115 A x H → va_S A s.heap H locs → W p l e R s m args below meth c H locs cells slots Q (F0 m pc ls [.int r]))  : ∀ (l1 : Int32) (x : St) (H : Heap) (locs : List Loc) (ls : Array Slot), j_Mod_collectAll_36 post l1 x → Wd dC dI cI cB cJ cZ ad stM kcM 115 A x H → va_S A s.heap H locs → lv_has ls 4 [(0, .ref (ad 0)), (1, .int l1)] → W p l e R s m args below meth c H locs cells slots Q (F0 m 36 ls []) := by
  intro l1 x H locs ls  hw hW hS hl
  unfold j_Mod_collectAll_36 at hw
  refine lv_iconst (v := 0) hx hb d_Mod_collectAll_36 (by decide) ?_
  refine lv_istore_n (lv' := [(2, .int 0), (0, .ref (ad 0)), (1, .int l1)]) hx hb d_Mod_collectAll_37 rfl hl (by decide) rfl (fun ls hl => ?_)
  obtain ⟨n, hw⟩ := hw
  exact tl_Mod_collectAll_38 hx hb hml hown hT hK hN hA hRc hRs hRf hRl hret  n l1 0 x H locs ls  hw hW hS (lv_sub hl [1, 2, 0] rfl)
set_option maxRecDepth 100000 in
set_option maxHeartbeats 4000000 in
set_option maxRecDepth 100000 in
theorem t_Mod_collectAll_26 {p : Program} {l : Launch} {e : Env} {R : Room} {s : State} {m : MethodId} {args : Array Value} {below : List Frame} {meth : Method} {c : Code} {cells slots : Nat} {Q : State → Prop} {dC : Nat → ClassId} {dI : Nat → Nat → Nat} {cI cB cJ cZ : ClassId} {A : Nat → Prop} {ad : Nat → Nat} {post : Int32 → St → Prop} (hx : p.tables.exec = Jvm.exec) (hb : c.code = b_Mod_collectAll) (hml : c.maxLocals = 4) (hown : s.vm.findClass R_Mod = some m.cls) (hT : ∀ w ∈ TG, w.before args s = true) (hK : va_K (dC, dI) CL (TY cI cB cJ cZ) s) (hN : NW s) (hA : ∀ q : Nat, s.heap.size ≤ q → A q) (hRc : cells ≤ R.cells) (hRs : slots ≤ R.slots) (hRf : 3 ≤ R.frames) (hRl : 74 ≤ R.locals) (hret : ∀ (r : Int32) (x : St) (H : Heap) (locs : List Loc) (pc : Nat) (ls : Array Slot), decode b_Mod_collectAll pc = .ok (.ireturn, 1) → narrow .boolean (.int r) = .int r → post r x → Wd dC dI cI cB cJ cZ ad stM kcM 115 A x H → va_S A s.heap H locs → W p l e R s m args below meth c H locs cells slots Q (F0 m pc ls [.int r]))  : ∀ (s0 : Int32) (x : St) (H : Heap) (locs : List Loc) (ls : Array Slot), j_Mod_collectAll_26 post s0 x → Wd dC dI cI cB cJ cZ ad stM kcM 115 A x H → va_S A s.heap H locs → lv_has ls 4 [(0, .ref (ad 0))] → W p l e R s m args below meth c H locs cells slots Q (F0 m 26 ls [.int s0]) := by
  intro s0 x H locs ls  hw hW hS hl
  unfold j_Mod_collectAll_26 at hw
  refine lv_istore_n (lv' := [(1, .int s0), (0, .ref (ad 0))]) hx hb d_Mod_collectAll_26 rfl hl (by decide) rfl (fun ls hl => ?_)
  refine lv_iload_n hx hb d_Mod_collectAll_27 rfl (lv_at hl 0 rfl) ?_
  refine lv_if_eq (tgt := 36) hx hb d_Mod_collectAll_28 (by decide) (fun c2594 => ?_) (fun c2594 => ?_)
  · have hw := hw.1 c2594
    exact t_Mod_collectAll_36 hx hb hml hown hT hK hN hA hRc hRs hRf hRl hret  s0 x H locs ls  hw hW hS (lv_sub hl [1, 0] rfl)
  · have hw := hw.2 c2594
    refine lv_aload_n hx hb d_Mod_collectAll_31 rfl (lv_at hl 1 rfl) ?_
    refine lv_iconst (v := (-1)) hx hb d_Mod_collectAll_32 (by decide) ?_
    have hF := hW.free hS hA
    refine va_callv (va_runV (C := R_Mod) (As := [.int (-1)]) (rest := []) ⟨hx, hb, hml, hown, hT⟩ (k_Mod_newGroup l dC dI cI cB cJ cZ ad H.size (-1) x  hw) ⟨callB_of 1 hT (gwt_in w_14_39) rfl rfl rfl (hT _ w_1_15) (hT _ w_14_36) (by decide +kernel) ⟨Nat.le_trans (Nat.le_of_ble_eq_true rfl) hRf, Nat.le_trans (Nat.le_of_ble_eq_true rfl) hRl⟩, hT _ w_14_38, hT _ ws_268⟩ ⟨PW.blind, va_recv hK hW.1 (ci := 12) (q0 := 0) rfl (pic_obj ko_0.1 ko_0.2 (by decide)), PW.at _ hW hK hN⟩ rfl rfl hl.1 rfl (lv_room (Nat.le_of_ble_eq_true rfl)) d_Mod_collectAll_33 ⟨hRc, hRs⟩) hS (fun q _ h => hF q h) hF (fun  x2595 t H locs ht hvm hw hB hz1 hk1 hS => ?_)
    have hW := Wd.back hB ht hF
    clear hB ht hF hz1 hk1 hvm
    exact t_Mod_collectAll_36 hx hb hml hown hT hK hN hA hRc hRs hRf hRl hret  s0 x2595 H locs ls  hw hW hS (lv_sub hl [1, 0] rfl)
set_option maxRecDepth 100000 in
set_option maxHeartbeats 4000000 in
set_option maxRecDepth 100000 in
theorem t_Mod_collectAll_e {p : Program} {l : Launch} {e : Env} {R : Room} {s : State} {m : MethodId} {args : Array Value} {below : List Frame} {meth : Method} {c : Code} {cells slots : Nat} {Q : State → Prop} {dC : Nat → ClassId} {dI : Nat → Nat → Nat} {cI cB cJ cZ : ClassId} {A : Nat → Prop} {ad : Nat → Nat} {post : Int32 → St → Prop} (hx : p.tables.exec = Jvm.exec) (hb : c.code = b_Mod_collectAll) (hml : c.maxLocals = 4) (hown : s.vm.findClass R_Mod = some m.cls) (hT : ∀ w ∈ TG, w.before args s = true) (hK : va_K (dC, dI) CL (TY cI cB cJ cZ) s) (hN : NW s) (hA : ∀ q : Nat, s.heap.size ≤ q → A q) (hRc : cells ≤ R.cells) (hRs : slots ≤ R.slots) (hRf : 3 ≤ R.frames) (hRl : 74 ≤ R.locals) (hret : ∀ (r : Int32) (x : St) (H : Heap) (locs : List Loc) (pc : Nat) (ls : Array Slot), decode b_Mod_collectAll pc = .ok (.ireturn, 1) → narrow .boolean (.int r) = .int r → post r x → Wd dC dI cI cB cJ cZ ad stM kcM 115 A x H → va_S A s.heap H locs → W p l e R s m args below meth c H locs cells slots Q (F0 m pc ls [.int r])) : ∀  (x : St) (H : Heap) (locs : List Loc) (ls : Array Slot), wp_Mod_collectAll post  x → Wd dC dI cI cB cJ cZ ad stM kcM 115 A x H → va_S A s.heap H locs → lv_has ls 4 [(0, .ref (ad 0))] → W p l e R s m args below meth c H locs cells slots Q (F0 m 0 ls []) := by
  intro  x H locs ls  hw hW hS hl
  unfold wp_Mod_collectAll at hw
  refine lv_aload_n hx hb d_Mod_collectAll_0 rfl (lv_at hl 0 rfl) ?_
  refine lv_iconst (v := 0) hx hb d_Mod_collectAll_1 (by decide) ?_
  refine w_puti (ty := .int) (k := 162) (t := 12) (C := R_Mod) (T := F_Mod) (N := 167) hx hb hT hown hK hW hS ko_0.1 ko_0.2 (by decide) in_Mod t_Mod t_Mod_ok n_Mod rfl rfl (by decide) rfl fr_Mod_162 w_9_98 (by decide +kernel) rfl rfl d_Mod_collectAll_2 (fun H locs hW hS => ?_)
  obtain ⟨x2596, ex2596⟩ : ∃ y : St, y = setI x 0 162 0 := ⟨_, rfl⟩
  rw [← ex2596] at hW
  have hw := hw x2596 ex2596
  refine lv_aload_n hx hb d_Mod_collectAll_5 rfl (lv_at hl 0 rfl) ?_
  refine w_getf (q := 79) (k := 122) (t := 12) (C := R_Mod) (T := F_Mod) (N := 167) hx hb hT hown hK hW ko_0.1 ko_0.2 (by decide) in_Mod rfl rfl (by decide) rfl fr_Mod_122 w_9_58 d_Mod_collectAll_6 rfl ?_
  refine lv_iconst (v := 4) hx hb d_Mod_collectAll_9 (by decide) ?_
  refine lv_aload_n hx hb d_Mod_collectAll_10 rfl (lv_at hl 0 rfl) ?_
  refine w_geti (k := 117) (t := 12) (C := R_Mod) (T := F_Mod) (N := 167) hx hb hT hown hK hW ko_0.1 ko_0.2 (by decide) in_Mod rfl rfl (by decide) rfl fr_Mod_117 w_9_53 d_Mod_collectAll_11 ?_
  refine lv_imul hx hb d_Mod_collectAll_14 ?_
  refine lv_iconst (v := 1) hx hb d_Mod_collectAll_15 (by decide) ?_
  refine lv_iadd hx hb d_Mod_collectAll_16 ?_
  obtain ⟨hi, hw⟩ := hw
  refine w_iald (o := 79) hx hb hK hW ko_79.1 ko_79.2 hi d_Mod_collectAll_17 ?_
  refine lv_if_ne (tgt := 25) hx hb d_Mod_collectAll_18 (by decide) (fun c2597 => ?_) (fun c2597 => ?_)
  · have hw := hw.1 c2597
    refine lv_iconst (v := 0) hx hb d_Mod_collectAll_25 (by decide) ?_
    exact t_Mod_collectAll_26 hx hb hml hown hT hK hN hA hRc hRs hRf hRl hret  0 x2596 H locs ls  hw hW hS (lv_sub hl [0] rfl)
  · have hw := hw.2 c2597
    refine lv_iconst (v := 1) hx hb d_Mod_collectAll_21 (by decide) ?_
    refine lv_goto (tgt := 26) hx hb d_Mod_collectAll_22 (by decide) ?_
    exact t_Mod_collectAll_26 hx hb hml hown hT hK hN hA hRc hRs hRf hRl hret  1 x2596 H locs ls  hw hW hS (lv_sub hl [0] rfl)
set_option maxHeartbeats 4000000 in
set_option maxRecDepth 100000 in
theorem k_Mod_collectAll (l : Launch) (dC : Nat → ClassId) (dI : Nat → Nat → Nat) (cI cB cJ cZ : ClassId) (ad : Nat → Nat) (sz : Nat)  (x : St) {post : Int32 → St → Prop} (hw : wp_Mod_collectAll post  x) : Met l y_Mod_collectAll (wsOf y_Mod_collectAll b_Mod_collectAll 4 (some (.boolean))) ({ frames := 3, cells := 0, slots := 0, locals := 74 }) (va_Pc [.ref (ad 0)] (PW dC dI cI cB cJ cZ ad stM kcM 115 sz x)) (va_Qi (fun (r : Int32) (y : St) => post r y) (fun y t => Wd dC dI cI cB cJ cZ ad stM kcM 115 (va_A (pic ad stM kcM 115 cI cB cJ cZ x) sz) y t.heap) (va_A (pic ad stM kcM 115 cI cB cJ cZ x) sz)) 0 0 (va_A (pic ad stM kcM 115 cI cB cJ cZ x) sz) := by
  refine Met.ofW (cc := b_Mod_collectAll) (maxL := 4) (ret := some (.boolean)) (by decide) rfl ?_
  intro p e s m args below meth c s₁ B hml hv
  obtain ⟨rfl, hsz, hW0, hK, hN⟩ := hv
  have hx := B.exec
  have hb := B.bytes
  have hr := B.returns
  have hts := atoms_spec B.pre
  have hT : ∀ w ∈ TG, w.before _ s = true := fun w h => hts w (List.mem_cons_of_mem _ h)
  have hown : s.vm.findClass R_Mod = some m.cls := findClass_of_methodNamed B.named
  have hlocks := B.notSynchronized
  subst hsz
  have hW : Wd dC dI cI cB cJ cZ ad stM kcM 115 (va_A (pic ad stM kcM 115 cI cB cJ cZ x) s.heap.size) x s.heap := ⟨hW0.1, hW0.2.1.self (sz := s.heap.size), hW0.2.2⟩
  generalize hAe : va_A (pic ad stM kcM 115 cI cB cJ cZ x) s.heap.size = A at hW ⊢
  have hA : ∀ q : Nat, s.heap.size ≤ q → A q := fun q h => by rw [← hAe]; exact Or.inr h
  have hS : va_S A s.heap s.heap [] := va_S.rf
  have hl := lv_entry ([.ref (ad 0)]) (n := 4) (Nat.le_of_ble_eq_true rfl)
  rw [lg_entry_eq]
  generalize (lg_sl ([.ref (ad 0)]) ++ List.replicate (4 - (lg_sl ([.ref (ad 0)])).length) Slot.unset).toArray = ls at hl ⊢
  have hl : lv_has ls 4 [(0, .ref (ad 0))] := hl
  exact t_Mod_collectAll_e hx hb hml hown hT hK hN hA (Nat.le_refl 0) (Nat.le_refl 0) (Nat.le_refl 3) (Nat.le_refl 74) (fun r x H locs pc ls hd hz hp hW hS => W.zret (v := r) (ty := .boolean) hx hb hr hz (fun t ht hM => ⟨⟨r, x, rfl, hp, Wd.back hW ht.symm (fun _ z => z)⟩, hS.F ht⟩) hS.2.2 hd hlocks)   x _ _ ls  hw hW hS hl
end
