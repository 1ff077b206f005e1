theorem w_14_64 : (Jvm.Cond.methodLink "StripedVaultModel" (1181 : Nat) ({ cls := "StripedVaultModel", name := "kindOf", desc := "(II)I" } : Jvm.MethodName)) ∈ TG := tw_14 64 (by decide +kernel) (by decide +kernel)
theorem w_14_66 : (Jvm.Cond.instanceMethod ({ cls := "StripedVaultModel", name := "kindOf", desc := "(II)I" } : Jvm.MethodName)) ∈ TG := tw_14 66 (by decide +kernel) (by decide +kernel)
theorem w_14_67 : (Jvm.Cond.code ({ cls := "StripedVaultModel", name := "kindOf", desc := "(II)I" } : Jvm.MethodName) prog_14_method_204_code (5 : Nat) (Option.some Jvm.ClassFile.FieldType.int)) ∈ TG := tw_14 67 (by decide +kernel) (by decide +kernel)
theorem w_14_68 : (Jvm.Cond.methodLink "StripedVaultModel" (1175 : Nat) ({ cls := "StripedVaultModel", name := "isItem", desc := "(II)Z" } : Jvm.MethodName)) ∈ TG := tw_14 68 (by decide +kernel) (by decide +kernel)
theorem w_14_70 : (Jvm.Cond.instanceMethod ({ cls := "StripedVaultModel", name := "isItem", desc := "(II)Z" } : Jvm.MethodName)) ∈ TG := tw_14 70 (by decide +kernel) (by decide +kernel)
theorem w_14_71 : (Jvm.Cond.code ({ cls := "StripedVaultModel", name := "isItem", desc := "(II)Z" } : Jvm.MethodName) prog_14_method_202_code (3 : Nat) (Option.some Jvm.ClassFile.FieldType.boolean)) ∈ TG := tw_14 71 (by decide +kernel) (by decide +kernel)
theorem w_14_72 : (Jvm.Cond.methodLink "StripedVaultModel" (1178 : Nat) ({ cls := "StripedVaultModel", name := "bestOf", desc := "(II)I" } : Jvm.MethodName)) ∈ TG := tw_14 72 (by decide +kernel) (by decide +kernel)
theorem w_14_74 : (Jvm.Cond.instanceMethod ({ cls := "StripedVaultModel", name := "bestOf", desc := "(II)I" } : Jvm.MethodName)) ∈ TG := tw_14 74 (by decide +kernel) (by decide +kernel)
theorem w_14_75 : (Jvm.Cond.code ({ cls := "StripedVaultModel", name := "bestOf", desc := "(II)I" } : Jvm.MethodName) prog_14_method_203_code (4 : Nat) (Option.some Jvm.ClassFile.FieldType.int)) ∈ TG := tw_14 75 (by decide +kernel) (by decide +kernel)
theorem ws_272 : Cond.selects R_Mod y_Mod_kindOf y_Mod_kindOf ∈ TG := tw_s 272 (by decide +kernel) (by decide +kernel)
theorem ws_273 : Cond.selects R_Mod y_Mod_isItem y_Mod_isItem ∈ TG := tw_s 273 (by decide +kernel) (by decide +kernel)
theorem ws_274 : Cond.selects R_Mod y_Mod_bestOf y_Mod_bestOf ∈ TG := tw_s 274 (by decide +kernel) (by decide +kernel)
theorem d_Mod_kindOf_36 : decode b_Mod_kindOf 36 = .ok (.iconst 2, 1) := by decide +kernel
theorem d_Mod_kindOf_37 : decode b_Mod_kindOf 37 = .ok (.ireturn, 1) := by decide +kernel
theorem d_Mod_kindOf_0 : decode b_Mod_kindOf 0 = .ok (.aload_n 0, 1) := by decide +kernel
theorem d_Mod_kindOf_1 : decode b_Mod_kindOf 1 = .ok (.iload_n 1, 1) := by decide +kernel
theorem d_Mod_kindOf_2 : decode b_Mod_kindOf 2 = .ok (.iload_n 2, 1) := by decide +kernel
theorem d_Mod_kindOf_3 : decode b_Mod_kindOf 3 = .ok (.invokevirtual 1175, 3) := by decide +kernel
theorem d_Mod_kindOf_6 : decode b_Mod_kindOf 6 = .ok (.ifCond .ne 5, 3) := by decide +kernel
theorem d_Mod_kindOf_11 : decode b_Mod_kindOf 11 = .ok (.aload_n 0, 1) := by decide +kernel
theorem d_Mod_kindOf_12 : decode b_Mod_kindOf 12 = .ok (.getfield 255, 3) := by decide +kernel
theorem d_Mod_kindOf_15 : decode b_Mod_kindOf 15 = .ok (.bipush 16, 2) := by decide +kernel
theorem d_Mod_kindOf_17 : decode b_Mod_kindOf 17 = .ok (.aload_n 0, 1) := by decide +kernel
theorem d_Mod_kindOf_18 : decode b_Mod_kindOf 18 = .ok (.getfield 1065, 3) := by decide +kernel
theorem d_Mod_kindOf_21 : decode b_Mod_kindOf 21 = .ok (.imul, 1) := by decide +kernel
theorem d_Mod_kindOf_22 : decode b_Mod_kindOf 22 = .ok (.iload_n 2, 1) := by decide +kernel
theorem d_Mod_kindOf_23 : decode b_Mod_kindOf 23 = .ok (.iadd, 1) := by decide +kernel
theorem d_Mod_kindOf_24 : decode b_Mod_kindOf 24 = .ok (.iaload, 1) := by decide +kernel
theorem d_Mod_kindOf_25 : decode b_Mod_kindOf 25 = .ok (.istore_n 3, 1) := by decide +kernel
theorem d_Mod_kindOf_26 : decode b_Mod_kindOf 26 = .ok (.iload_n 3, 1) := by decide +kernel
theorem d_Mod_kindOf_27 : decode b_Mod_kindOf 27 = .ok (.iconst 1, 1) := by decide +kernel
theorem d_Mod_kindOf_28 : decode b_Mod_kindOf 28 = .ok (.if_icmp .eq 8, 3) := by decide +kernel
theorem d_Mod_kindOf_31 : decode b_Mod_kindOf 31 = .ok (.iload_n 3, 1) := by decide +kernel
theorem d_Mod_kindOf_32 : decode b_Mod_kindOf 32 = .ok (.iconst 2, 1) := by decide +kernel
theorem d_Mod_kindOf_33 : decode b_Mod_kindOf 33 = .ok (.if_icmp .ne 5, 3) := by decide +kernel
theorem d_Mod_kindOf_38 : decode b_Mod_kindOf 38 = .ok (.iload_n 3, 1) := by decide +kernel
theorem d_Mod_kindOf_39 : decode b_Mod_kindOf 39 = .ok (.iconst 3, 1) := by decide +kernel
theorem d_Mod_kindOf_40 : decode b_Mod_kindOf 40 = .ok (.if_icmp .ne 23, 3) := by decide +kernel
theorem d_Mod_kindOf_63 : decode b_Mod_kindOf 63 = .ok (.aload_n 0, 1) := by decide +kernel
theorem d_Mod_kindOf_64 : decode b_Mod_kindOf 64 = .ok (.getfield 20, 3) := by decide +kernel
theorem d_Mod_kindOf_67 : decode b_Mod_kindOf 67 = .ok (.iconst 1, 1) := by decide +kernel
theorem d_Mod_kindOf_68 : decode b_Mod_kindOf 68 = .ok (.aload_n 0, 1) := by decide +kernel
theorem d_Mod_kindOf_69 : decode b_Mod_kindOf 69 = .ok (.getfield 258, 3) := by decide +kernel
theorem d_Mod_kindOf_72 : decode b_Mod_kindOf 72 = .ok (.bipush 16, 2) := by decide +kernel
theorem d_Mod_kindOf_74 : decode b_Mod_kindOf 74 = .ok (.aload_n 0, 1) := by decide +kernel
theorem d_Mod_kindOf_75 : decode b_Mod_kindOf 75 = .ok (.getfield 1065, 3) := by decide +kernel
theorem d_Mod_kindOf_78 : decode b_Mod_kindOf 78 = .ok (.imul, 1) := by decide +kernel
theorem d_Mod_kindOf_79 : decode b_Mod_kindOf 79 = .ok (.iload_n 2, 1) := by decide +kernel
theorem d_Mod_kindOf_80 : decode b_Mod_kindOf 80 = .ok (.iadd, 1) := by decide +kernel
theorem d_Mod_kindOf_81 : decode b_Mod_kindOf 81 = .ok (.iaload, 1) := by decide +kernel
theorem d_Mod_kindOf_82 : decode b_Mod_kindOf 82 = .ok (.invokestatic 412, 3) := by decide +kernel
theorem d_Mod_kindOf_85 : decode b_Mod_kindOf 85 = .ok (.iaload, 1) := by decide +kernel
theorem d_Mod_kindOf_86 : decode b_Mod_kindOf 86 = .ok (.istore 4, 2) := by decide +kernel
theorem d_Mod_kindOf_88 : decode b_Mod_kindOf 88 = .ok (.aload_n 0, 1) := by decide +kernel
theorem d_Mod_kindOf_89 : decode b_Mod_kindOf 89 = .ok (.iload_n 1, 1) := by decide +kernel
theorem d_Mod_kindOf_90 : decode b_Mod_kindOf 90 = .ok (.iload_n 2, 1) := by decide +kernel
theorem d_Mod_kindOf_91 : decode b_Mod_kindOf 91 = .ok (.invokevirtual 1178, 3) := by decide +kernel
theorem d_Mod_kindOf_94 : decode b_Mod_kindOf 94 = .ok (.iconst (-1), 1) := by decide +kernel
theorem d_Mod_kindOf_95 : decode b_Mod_kindOf 95 = .ok (.if_icmp .ne 7, 3) := by decide +kernel
theorem d_Mod_kindOf_102 : decode b_Mod_kindOf 102 = .ok (.iload 4, 2) := by decide +kernel
theorem d_Mod_kindOf_104 : decode b_Mod_kindOf 104 = .ok (.ifCond .ne 7, 3) := by decide +kernel
theorem d_Mod_kindOf_111 : decode b_Mod_kindOf 111 = .ok (.iload 4, 2) := by decide +kernel
theorem d_Mod_kindOf_113 : decode b_Mod_kindOf 113 = .ok (.iconst 3, 1) := by decide +kernel
theorem d_Mod_kindOf_114 : decode b_Mod_kindOf 114 = .ok (.if_icmp .ne 7, 3) := by decide +kernel
theorem d_Mod_kindOf_121 : decode b_Mod_kindOf 121 = .ok (.iconst 2, 1) := by decide +kernel
theorem d_Mod_kindOf_122 : decode b_Mod_kindOf 122 = .ok (.ireturn, 1) := by decide +kernel
theorem d_Mod_kindOf_117 : decode b_Mod_kindOf 117 = .ok (.iconst 3, 1) := by decide +kernel
theorem d_Mod_kindOf_118 : decode b_Mod_kindOf 118 = .ok (.goto 4, 3) := by decide +kernel
theorem d_Mod_kindOf_107 : decode b_Mod_kindOf 107 = .ok (.iconst 1, 1) := by decide +kernel
theorem d_Mod_kindOf_108 : decode b_Mod_kindOf 108 = .ok (.goto 14, 3) := by decide +kernel
theorem d_Mod_kindOf_98 : decode b_Mod_kindOf 98 = .ok (.iconst 0, 1) := by decide +kernel
theorem d_Mod_kindOf_99 : decode b_Mod_kindOf 99 = .ok (.goto 23, 3) := by decide +kernel
theorem d_Mod_kindOf_43 : decode b_Mod_kindOf 43 = .ok (.aload_n 0, 1) := by decide +kernel
theorem d_Mod_kindOf_44 : decode b_Mod_kindOf 44 = .ok (.getfield 348, 3) := by decide +kernel
theorem d_Mod_kindOf_47 : decode b_Mod_kindOf 47 = .ok (.bipush 16, 2) := by decide +kernel
theorem d_Mod_kindOf_49 : decode b_Mod_kindOf 49 = .ok (.iload_n 1, 1) := by decide +kernel
theorem d_Mod_kindOf_50 : decode b_Mod_kindOf 50 = .ok (.imul, 1) := by decide +kernel
theorem d_Mod_kindOf_51 : decode b_Mod_kindOf 51 = .ok (.iload_n 2, 1) := by decide +kernel
theorem d_Mod_kindOf_52 : decode b_Mod_kindOf 52 = .ok (.iadd, 1) := by decide +kernel
theorem d_Mod_kindOf_53 : decode b_Mod_kindOf 53 = .ok (.iaload, 1) := by decide +kernel
theorem d_Mod_kindOf_54 : decode b_Mod_kindOf 54 = .ok (.ifCond .le 7, 3) := by decide +kernel
theorem d_Mod_kindOf_61 : decode b_Mod_kindOf 61 = .ok (.iconst 0, 1) := by decide +kernel
theorem d_Mod_kindOf_62 : decode b_Mod_kindOf 62 = .ok (.ireturn, 1) := by decide +kernel
theorem d_Mod_kindOf_57 : decode b_Mod_kindOf 57 = .ok (.iconst 2, 1) := by decide +kernel
theorem d_Mod_kindOf_58 : decode b_Mod_kindOf 58 = .ok (.goto 4, 3) := by decide +kernel
theorem d_Mod_kindOf_9 : decode b_Mod_kindOf 9 = .ok (.iconst (-1), 1) := by decide +kernel
theorem d_Mod_kindOf_10 : decode b_Mod_kindOf 10 = .ok (.ireturn, 1) := by decide +kernel
theorem d_Mod_kind_0 : decode b_Mod_kind 0 = .ok (.aload_n 0, 1) := by decide +kernel
theorem d_Mod_kind_1 : decode b_Mod_kind 1 = .ok (.iconst 0, 1) := by decide +kernel
theorem d_Mod_kind_2 : decode b_Mod_kind 2 = .ok (.putfield 360, 3) := by decide +kernel
theorem d_Mod_kind_5 : decode b_Mod_kind 5 = .ok (.aload_n 0, 1) := by decide +kernel
theorem d_Mod_kind_6 : decode b_Mod_kind 6 = .ok (.iload_n 1, 1) := by decide +kernel
theorem d_Mod_kind_7 : decode b_Mod_kind 7 = .ok (.iload_n 2, 1) := by decide +kernel
theorem d_Mod_kind_8 : decode b_Mod_kind 8 = .ok (.invokevirtual 1181, 3) := by decide +kernel
theorem d_Mod_kind_11 : decode b_Mod_kind 11 = .ok (.ireturn, 1) := by decide +kernel
theorem d_Mod_value_24 : decode b_Mod_value 24 = .ok (.aload_n 0, 1) := by decide +kernel
theorem d_Mod_value_25 : decode b_Mod_value 25 = .ok (.getfield 255, 3) := by decide +kernel
theorem d_Mod_value_28 : decode b_Mod_value 28 = .ok (.bipush 16, 2) := by decide +kernel
theorem d_Mod_value_30 : decode b_Mod_value 30 = .ok (.aload_n 0, 1) := by decide +kernel
theorem d_Mod_value_31 : decode b_Mod_value 31 = .ok (.getfield 1065, 3) := by decide +kernel
theorem d_Mod_value_34 : decode b_Mod_value 34 = .ok (.imul, 1) := by decide +kernel
theorem d_Mod_value_35 : decode b_Mod_value 35 = .ok (.iload_n 2, 1) := by decide +kernel
theorem d_Mod_value_36 : decode b_Mod_value 36 = .ok (.iadd, 1) := by decide +kernel
theorem d_Mod_value_37 : decode b_Mod_value 37 = .ok (.iaload, 1) := by decide +kernel
theorem d_Mod_value_38 : decode b_Mod_value 38 = .ok (.istore 4, 2) := by decide +kernel
theorem d_Mod_value_40 : decode b_Mod_value 40 = .ok (.iload 4, 2) := by decide +kernel
theorem d_Mod_value_42 : decode b_Mod_value 42 = .ok (.iconst 1, 1) := by decide +kernel
theorem d_Mod_value_43 : decode b_Mod_value 43 = .ok (.if_icmp .ne 13, 3) := by decide +kernel
theorem d_Mod_value_56 : decode b_Mod_value 56 = .ok (.iload 4, 2) := by decide +kernel
theorem d_Mod_value_58 : decode b_Mod_value 58 = .ok (.iconst 2, 1) := by decide +kernel
theorem d_Mod_value_59 : decode b_Mod_value 59 = .ok (.if_icmp .ne 18, 3) := by decide +kernel
theorem d_Mod_value_77 : decode b_Mod_value 77 = .ok (.iload 4, 2) := by decide +kernel
theorem d_Mod_value_79 : decode b_Mod_value 79 = .ok (.iconst 3, 1) := by decide +kernel
theorem d_Mod_value_80 : decode b_Mod_value 80 = .ok (.if_icmp .ne 17, 3) := by decide +kernel
theorem d_Mod_value_97 : decode b_Mod_value 97 = .ok (.aload_n 0, 1) := by decide +kernel
theorem d_Mod_value_98 : decode b_Mod_value 98 = .ok (.getfield 173, 3) := by decide +kernel
theorem d_Mod_value_101 : decode b_Mod_value 101 = .ok (.aload_n 0, 1) := by decide +kernel
theorem d_Mod_value_102 : decode b_Mod_value 102 = .ok (.iload_n 1, 1) := by decide +kernel
theorem d_Mod_value_103 : decode b_Mod_value 103 = .ok (.iload_n 2, 1) := by decide +kernel
theorem d_Mod_value_104 : decode b_Mod_value 104 = .ok (.invokevirtual 1178, 3) := by decide +kernel
theorem d_Mod_value_107 : decode b_Mod_value 107 = .ok (.laload, 1) := by decide +kernel
theorem d_Mod_value_108 : decode b_Mod_value 108 = .ok (.lreturn, 1) := by decide +kernel
theorem d_Mod_value_83 : decode b_Mod_value 83 = .ok (.aload_n 0, 1) := by decide +kernel
theorem d_Mod_value_84 : decode b_Mod_value 84 = .ok (.getfield 357, 3) := by decide +kernel
theorem d_Mod_value_87 : decode b_Mod_value 87 = .ok (.bipush 16, 2) := by decide +kernel
theorem d_Mod_value_89 : decode b_Mod_value 89 = .ok (.iload_n 1, 1) := by decide +kernel
theorem d_Mod_value_90 : decode b_Mod_value 90 = .ok (.imul, 1) := by decide +kernel
theorem d_Mod_value_91 : decode b_Mod_value 91 = .ok (.iload_n 2, 1) := by decide +kernel
theorem d_Mod_value_92 : decode b_Mod_value 92 = .ok (.iadd, 1) := by decide +kernel
theorem d_Mod_value_93 : decode b_Mod_value 93 = .ok (.laload, 1) := by decide +kernel
theorem d_Mod_value_94 : decode b_Mod_value 94 = .ok (.goto 14, 3) := by decide +kernel
theorem d_Mod_value_62 : decode b_Mod_value 62 = .ok (.aload_n 0, 1) := by decide +kernel
theorem d_Mod_value_63 : decode b_Mod_value 63 = .ok (.getfield 348, 3) := by decide +kernel
theorem d_Mod_value_66 : decode b_Mod_value 66 = .ok (.bipush 16, 2) := by decide +kernel
theorem d_Mod_value_68 : decode b_Mod_value 68 = .ok (.iload_n 1, 1) := by decide +kernel
theorem d_Mod_value_69 : decode b_Mod_value 69 = .ok (.imul, 1) := by decide +kernel
theorem d_Mod_value_70 : decode b_Mod_value 70 = .ok (.iload_n 2, 1) := by decide +kernel
theorem d_Mod_value_71 : decode b_Mod_value 71 = .ok (.iadd, 1) := by decide +kernel
theorem d_Mod_value_72 : decode b_Mod_value 72 = .ok (.iaload, 1) := by decide +kernel
theorem d_Mod_value_73 : decode b_Mod_value 73 = .ok (.i2l, 1) := by decide +kernel
theorem d_Mod_value_74 : decode b_Mod_value 74 = .ok (.goto 34, 3) := by decide +kernel
theorem d_Mod_value_46 : decode b_Mod_value 46 = .ok (.aload_n 0, 1) := by decide +kernel
theorem d_Mod_value_47 : decode b_Mod_value 47 = .ok (.getfield 345, 3) := by decide +kernel
theorem d_Mod_value_50 : decode b_Mod_value 50 = .ok (.iload_n 1, 1) := by decide +kernel
theorem d_Mod_value_51 : decode b_Mod_value 51 = .ok (.iaload, 1) := by decide +kernel
theorem d_Mod_value_52 : decode b_Mod_value 52 = .ok (.i2l, 1) := by decide +kernel
theorem d_Mod_value_53 : decode b_Mod_value 53 = .ok (.goto 55, 3) := by decide +kernel
theorem d_Mod_value_0 : decode b_Mod_value 0 = .ok (.aload_n 0, 1) := by decide +kernel
theorem d_Mod_value_1 : decode b_Mod_value 1 = .ok (.iconst 0, 1) := by decide +kernel
theorem d_Mod_value_2 : decode b_Mod_value 2 = .ok (.putfield 360, 3) := by decide +kernel
theorem d_Mod_value_5 : decode b_Mod_value 5 = .ok (.aload_n 0, 1) := by decide +kernel
theorem d_Mod_value_6 : decode b_Mod_value 6 = .ok (.iload_n 1, 1) := by decide +kernel
theorem d_Mod_value_7 : decode b_Mod_value 7 = .ok (.iload_n 2, 1) := by decide +kernel
theorem d_Mod_value_8 : decode b_Mod_value 8 = .ok (.invokevirtual 1181, 3) := by decide +kernel
theorem d_Mod_value_11 : decode b_Mod_value 11 = .ok (.istore_n 3, 1) := by decide +kernel
theorem d_Mod_value_12 : decode b_Mod_value 12 = .ok (.iload_n 3, 1) := by decide +kernel
theorem d_Mod_value_13 : decode b_Mod_value 13 = .ok (.iconst 1, 1) := by decide +kernel
theorem d_Mod_value_14 : decode b_Mod_value 14 = .ok (.if_icmp .eq 10, 3) := by decide +kernel
theorem d_Mod_value_17 : decode b_Mod_value 17 = .ok (.iload_n 3, 1) := by decide +kernel
theorem d_Mod_value_18 : decode b_Mod_value 18 = .ok (.iconst 2, 1) := by decide +kernel
theorem d_Mod_value_19 : decode b_Mod_value 19 = .ok (.if_icmp .eq 5, 3) := by decide +kernel
theorem d_Mod_value_22 : decode b_Mod_value 22 = .ok (.lconst 0, 1) := by decide +kernel
theorem d_Mod_value_23 : decode b_Mod_value 23 = .ok (.lreturn, 1) := by decide +kernel
theorem d_Mod_letter_40 : decode b_Mod_letter 40 = .ok (.iconst (-1), 1) := by decide +kernel
theorem d_Mod_letter_41 : decode b_Mod_letter 41 = .ok (.goto 17, 3) := by decide +kernel
theorem d_Mod_letter_58 : decode b_Mod_letter 58 = .ok (.ireturn, 1) := by decide +kernel
theorem d_Mod_letter_0 : decode b_Mod_letter 0 = .ok (.aload_n 0, 1) := by decide +kernel
theorem d_Mod_letter_1 : decode b_Mod_letter 1 = .ok (.iconst 0, 1) := by decide +kernel
theorem d_Mod_letter_2 : decode b_Mod_letter 2 = .ok (.putfield 360, 3) := by decide +kernel
theorem d_Mod_letter_5 : decode b_Mod_letter 5 = .ok (.aload_n 0, 1) := by decide +kernel
theorem d_Mod_letter_6 : decode b_Mod_letter 6 = .ok (.iload_n 1, 1) := by decide +kernel
theorem d_Mod_letter_7 : decode b_Mod_letter 7 = .ok (.iload_n 2, 1) := by decide +kernel
theorem d_Mod_letter_8 : decode b_Mod_letter 8 = .ok (.invokevirtual 1181, 3) := by decide +kernel
theorem d_Mod_letter_11 : decode b_Mod_letter 11 = .ok (.iconst 3, 1) := by decide +kernel
theorem d_Mod_letter_12 : decode b_Mod_letter 12 = .ok (.if_icmp .eq 5, 3) := by decide +kernel
theorem d_Mod_letter_17 : decode b_Mod_letter 17 = .ok (.aload_n 0, 1) := by decide +kernel
theorem d_Mod_letter_18 : decode b_Mod_letter 18 = .ok (.iload_n 1, 1) := by decide +kernel
theorem d_Mod_letter_19 : decode b_Mod_letter 19 = .ok (.iload_n 2, 1) := by decide +kernel
theorem d_Mod_letter_20 : decode b_Mod_letter 20 = .ok (.invokevirtual 1178, 3) := by decide +kernel
theorem d_Mod_letter_23 : decode b_Mod_letter 23 = .ok (.istore 4, 2) := by decide +kernel
theorem d_Mod_letter_25 : decode b_Mod_letter 25 = .ok (.iload_n 3, 1) := by decide +kernel
theorem d_Mod_letter_26 : decode b_Mod_letter 26 = .ok (.ifCond .lt 14, 3) := by decide +kernel
theorem d_Mod_letter_29 : decode b_Mod_letter 29 = .ok (.iload_n 3, 1) := by decide +kernel
theorem d_Mod_letter_30 : decode b_Mod_letter 30 = .ok (.aload_n 0, 1) := by decide +kernel
theorem d_Mod_letter_31 : decode b_Mod_letter 31 = .ok (.getfield 179, 3) := by decide +kernel
theorem d_Mod_letter_34 : decode b_Mod_letter 34 = .ok (.iload 4, 2) := by decide +kernel
theorem d_Mod_letter_36 : decode b_Mod_letter 36 = .ok (.iaload, 1) := by decide +kernel
theorem d_Mod_letter_37 : decode b_Mod_letter 37 = .ok (.if_icmp .lt 7, 3) := by decide +kernel
theorem d_Mod_letter_44 : decode b_Mod_letter 44 = .ok (.aload_n 0, 1) := by decide +kernel
theorem d_Mod_letter_45 : decode b_Mod_letter 45 = .ok (.getfield 183, 3) := by decide +kernel
theorem d_Mod_letter_48 : decode b_Mod_letter 48 = .ok (.aload_n 0, 1) := by decide +kernel
theorem d_Mod_letter_49 : decode b_Mod_letter 49 = .ok (.getfield 176, 3) := by decide +kernel
theorem d_Mod_letter_52 : decode b_Mod_letter 52 = .ok (.iload 4, 2) := by decide +kernel
theorem d_Mod_letter_54 : decode b_Mod_letter 54 = .ok (.iaload, 1) := by decide +kernel
theorem d_Mod_letter_55 : decode b_Mod_letter 55 = .ok (.iload_n 3, 1) := by decide +kernel
theorem d_Mod_letter_56 : decode b_Mod_letter 56 = .ok (.iadd, 1) := by decide +kernel
theorem d_Mod_letter_57 : decode b_Mod_letter 57 = .ok (.iaload, 1) := by decide +kernel
theorem d_Mod_letter_15 : decode b_Mod_letter 15 = .ok (.iconst (-1), 1) := by decide +kernel
theorem d_Mod_letter_16 : decode b_Mod_letter 16 = .ok (.ireturn, 1) := by decide +kernel
theorem d_Mod_skipped_14 : decode b_Mod_skipped 14 = .ok (.iconst (-1), 1) := by decide +kernel
theorem d_Mod_skipped_15 : decode b_Mod_skipped 15 = .ok (.goto 29, 3) := by decide +kernel
theorem d_Mod_skipped_44 : decode b_Mod_skipped 44 = .ok (.ireturn, 1) := by decide +kernel
theorem d_Mod_skipped_0 : decode b_Mod_skipped 0 = .ok (.aload_n 0, 1) := by decide +kernel
theorem d_Mod_skipped_1 : decode b_Mod_skipped 1 = .ok (.iconst 0, 1) := by decide +kernel
theorem d_Mod_skipped_2 : decode b_Mod_skipped 2 = .ok (.putfield 360, 3) := by decide +kernel
theorem d_Mod_skipped_5 : decode b_Mod_skipped 5 = .ok (.iload_n 1, 1) := by decide +kernel
theorem d_Mod_skipped_6 : decode b_Mod_skipped 6 = .ok (.ifCond .lt 8, 3) := by decide +kernel
theorem d_Mod_skipped_9 : decode b_Mod_skipped 9 = .ok (.iload_n 1, 1) := by decide +kernel
theorem d_Mod_skipped_10 : decode b_Mod_skipped 10 = .ok (.iconst 1, 1) := by decide +kernel
theorem d_Mod_skipped_11 : decode b_Mod_skipped 11 = .ok (.if_icmp .le 7, 3) := by decide +kernel
theorem d_Mod_skipped_18 : decode b_Mod_skipped 18 = .ok (.aload_n 0, 1) := by decide +kernel
theorem d_Mod_skipped_19 : decode b_Mod_skipped 19 = .ok (.getfield 923, 3) := by decide +kernel
theorem d_Mod_skipped_22 : decode b_Mod_skipped 22 = .ok (.ifCond .ne 7, 3) := by decide +kernel
theorem d_Mod_skipped_29 : decode b_Mod_skipped 29 = .ok (.iload_n 1, 1) := by decide +kernel
theorem d_Mod_skipped_30 : decode b_Mod_skipped 30 = .ok (.ifCond .ne 10, 3) := by decide +kernel
theorem d_Mod_skipped_40 : decode b_Mod_skipped 40 = .ok (.aload_n 0, 1) := by decide +kernel
theorem d_Mod_skipped_41 : decode b_Mod_skipped 41 = .ok (.getfield 1169, 3) := by decide +kernel
theorem d_Mod_skipped_33 : decode b_Mod_skipped 33 = .ok (.aload_n 0, 1) := by decide +kernel
theorem d_Mod_skipped_34 : decode b_Mod_skipped 34 = .ok (.getfield 1166, 3) := by decide +kernel
theorem d_Mod_skipped_37 : decode b_Mod_skipped 37 = .ok (.goto 7, 3) := by decide +kernel
theorem d_Mod_skipped_25 : decode b_Mod_skipped 25 = .ok (.iconst 0, 1) := by decide +kernel
theorem d_Mod_skipped_26 : decode b_Mod_skipped 26 = .ok (.goto 18, 3) := by decide +kernel
section
variable (l : Launch) (dC : Nat → ClassId) (dI : Nat → Nat → Nat) (cI cB cJ cZ : ClassId)
set_option maxRecDepth 100000 in
set_option maxHeartbeats 4000000 in
set_option maxRecDepth 100000 in
theorem t_Mod_kindOf_36 {p : Program} {l : Launch} {e : Env} {R : Room} {s : State} {m : MethodId} {args : Array Value} {below : List Frame} {meth : Method} {c : Code} {cells slots : Nat} {Q : State → Prop} {dC : Nat → ClassId} {dI : Nat → Nat → Nat} {cI cB cJ cZ : ClassId} {A : Nat → Prop} {ad : Nat → Nat} {post : Int32 → St → Prop} (hx : p.tables.exec = Jvm.exec) (hb : c.code = b_Mod_kindOf) (hml : c.maxLocals = 5) (hown : s.vm.findClass R_Mod = some m.cls) (hT : ∀ w ∈ TG, w.before args s = true) (hK : va_K (dC, dI) CL (TY cI cB cJ cZ) s) (hN : NW s) (hA : ∀ q : Nat, s.heap.size ≤ q → A q) (hRc : cells ≤ R.cells) (hRs : slots ≤ R.slots) (hRf : 3 ≤ R.frames) (hRl : 69 ≤ R.locals) (hret : ∀ (r : Int32) (x : St) (H : Heap) (locs : List Loc) (pc : Nat) (ls : Array Slot), decode b_Mod_kindOf pc = .ok (.ireturn, 1) → post r x → Wd dC dI cI cB cJ cZ ad stM kcM 115 A x H → va_S A s.heap H locs → W p l e R s m args below meth c H locs cells slots Q (F0 m pc ls [.int r]))  : ∀ (l1 : Int32) (l2 : Int32) (l3 : Int32) (x : St) (H : Heap) (locs : List Loc) (ls : Array Slot), j_Mod_kindOf_36 post l1 l2 l3 x → Wd dC dI cI cB cJ cZ ad stM kcM 115 A x H → va_S A s.heap H locs → lv_has ls 5 [(0, .ref (ad 0)), (1, .int l1), (2, .int l2), (3, .int l3)] → W p l e R s m args below meth c H locs cells slots Q (F0 m 36 ls []) := by
  intro l1 l2 l3 x H locs ls  hw hW hS hl
  unfold j_Mod_kindOf_36 at hw
  refine lv_iconst (v := 2) hx hb d_Mod_kindOf_36 (by decide) ?_
  exact hret 2 x H locs 37 ls d_Mod_kindOf_37 hw hW hS
set_option maxRecDepth 100000 in
set_option maxHeartbeats 4000000 in
set_option maxRecDepth 100000 in
theorem t_Mod_kindOf_e {p : Program} {l : Launch} {e : Env} {R : Room} {s : State} {m : MethodId} {args : Array Value} {below : List Frame} {meth : Method} {c : Code} {cells slots : Nat} {Q : State → Prop} {dC : Nat → ClassId} {dI : Nat → Nat → Nat} {cI cB cJ cZ : ClassId} {A : Nat → Prop} {ad : Nat → Nat} {post : Int32 → St → Prop} (hx : p.tables.exec = Jvm.exec) (hb : c.code = b_Mod_kindOf) (hml : c.maxLocals = 5) (hown : s.vm.findClass R_Mod = some m.cls) (hT : ∀ w ∈ TG, w.before args s = true) (hK : va_K (dC, dI) CL (TY cI cB cJ cZ) s) (hN : NW s) (hA : ∀ q : Nat, s.heap.size ≤ q → A q) (hRc : cells ≤ R.cells) (hRs : slots ≤ R.slots) (hRf : 3 ≤ R.frames) (hRl : 69 ≤ R.locals) (hret : ∀ (r : Int32) (x : St) (H : Heap) (locs : List Loc) (pc : Nat) (ls : Array Slot), decode b_Mod_kindOf pc = .ok (.ireturn, 1) → post r x → Wd dC dI cI cB cJ cZ ad stM kcM 115 A x H → va_S A s.heap H locs → W p l e R s m args below meth c H locs cells slots Q (F0 m pc ls [.int r])) : ∀ (l1 : Int32) (l2 : Int32) (x : St) (H : Heap) (locs : List Loc) (ls : Array Slot), wp_Mod_kindOf post l1 l2 x → Wd dC dI cI cB cJ cZ ad stM kcM 115 A x H → va_S A s.heap H locs → lv_has ls 5 [(0, .ref (ad 0)), (1, .int l1), (2, .int l2)] → W p l e R s m args below meth c H locs cells slots Q (F0 m 0 ls []) := by
  intro l1 l2 x H locs ls  hw hW hS hl
  unfold wp_Mod_kindOf at hw
  refine lv_aload_n hx hb d_Mod_kindOf_0 rfl (lv_at hl 0 rfl) ?_
  refine lv_iload_n hx hb d_Mod_kindOf_1 rfl (lv_at hl 1 rfl) ?_
  refine lv_iload_n hx hb d_Mod_kindOf_2 rfl (lv_at hl 2 rfl) ?_
  have hF := hW.free hS hA
  refine va_calli (va_runV (C := R_Mod) (As := [.int l1, .int l2]) (rest := []) ⟨hx, hb, hml, hown, hT⟩ (k_Mod_isItem l dC dI cI cB cJ cZ ad H.size l1 l2 x  hw) ⟨callB_of 2 hT (gwt_in w_14_71) rfl rfl rfl (hT _ w_1_15) (hT _ w_14_68) (by decide +kernel) ⟨Nat.le_trans (Nat.le_of_ble_eq_true rfl) hRf, Nat.le_trans (Nat.le_of_ble_eq_true rfl) hRl⟩, hT _ w_14_70, hT _ ws_273⟩ ⟨PW.blind, va_recv hK hW.1 (ci := 12) (q0 := 0) rfl (pic_obj ko_0.1 ko_0.2 (by decide)), PW.at _ hW hK hN⟩ rfl rfl hl.1 rfl (lv_room (Nat.le_of_ble_eq_true rfl)) d_Mod_kindOf_3 ⟨hRc, hRs⟩) hS (fun q _ h => hF q h) hF (fun r2662 x2661 t H locs ht hvm hw hB hz1 hk1 hS => ?_)
  have hW := Wd.back hB ht hF
  clear hB ht hF hz1 hk1 hvm
  refine lv_if_ne (tgt := 11) hx hb d_Mod_kindOf_6 (by decide) (fun c2663 => ?_) (fun c2663 => ?_)
  · have hw := hw.1 c2663
    refine lv_aload_n hx hb d_Mod_kindOf_11 rfl (lv_at hl 0 rfl) ?_
    refine w_getf (q := 80) (k := 123) (t := 12) (C := R_Mod) (T := F_Mod) (N := 167) hx hb hT hown hK hW ko_0.1 ko_0.2 (by decide) in_Mod rfl rfl (by decide) rfl fr_Mod_123 w_9_59 d_Mod_kindOf_12 rfl ?_
    refine lv_bipush (v := 16) hx hb d_Mod_kindOf_15 (by decide) ?_
    refine lv_aload_n hx hb d_Mod_kindOf_17 rfl (lv_at hl 0 rfl) ?_
    refine w_geti (k := 119) (t := 12) (C := R_Mod) (T := F_Mod) (N := 167) hx hb hT hown hK hW ko_0.1 ko_0.2 (by decide) in_Mod rfl rfl (by decide) rfl fr_Mod_119 w_9_55 d_Mod_kindOf_18 ?_
    refine lv_imul hx hb d_Mod_kindOf_21 ?_
    refine lv_iload_n hx hb d_Mod_kindOf_22 rfl (lv_at hl 2 rfl) ?_
    refine lv_iadd hx hb d_Mod_kindOf_23 ?_
    obtain ⟨hi, hw⟩ := hw
    refine w_iald (o := 80) hx hb hK hW ko_80.1 ko_80.2 hi d_Mod_kindOf_24 ?_
    refine lv_topi (fun v2664 ev2664 => ?_)
    have hw := hw v2664 ev2664
    refine lv_istore_n (lv' := [(3, .int v2664), (0, .ref (ad 0)), (1, .int l1), (2, .int l2)]) hx hb d_Mod_kindOf_25 rfl hl (by decide) rfl (fun ls hl => ?_)
    refine lv_iload_n hx hb d_Mod_kindOf_26 rfl (lv_at hl 0 rfl) ?_
    refine lv_iconst (v := 1) hx hb d_Mod_kindOf_27 (by decide) ?_
    refine lv_icmp_eq (tgt := 36) hx hb d_Mod_kindOf_28 (by decide) (fun c2665 => ?_) (fun c2665 => ?_)
    · have hw := hw.1 c2665
      exact t_Mod_kindOf_36 hx hb hml hown hT hK hN hA hRc hRs hRf hRl hret  l1 l2 v2664 x2661 H locs ls  hw hW hS (lv_sub hl [1, 2, 3, 0] rfl)
    · have hw := hw.2 c2665
      refine lv_iload_n hx hb d_Mod_kindOf_31 rfl (lv_at hl 0 rfl) ?_
      refine lv_iconst (v := 2) hx hb d_Mod_kindOf_32 (by decide) ?_
      refine lv_icmp_ne (tgt := 38) hx hb d_Mod_kindOf_33 (by decide) (fun c2666 => ?_) (fun c2666 => ?_)
      · have hw := hw.1 c2666
        refine lv_iload_n hx hb d_Mod_kindOf_38 rfl (lv_at hl 0 rfl) ?_
        refine lv_iconst (v := 3) hx hb d_Mod_kindOf_39 (by decide) ?_
        refine lv_icmp_ne (tgt := 63) hx hb d_Mod_kindOf_40 (by decide) (fun c2667 => ?_) (fun c2667 => ?_)
        · have hw := hw.1 c2667
          refine lv_aload_n hx hb d_Mod_kindOf_63 rfl (lv_at hl 1 rfl) ?_
          refine w_getf (q := 4) (k := 6) (t := 12) (C := R_Mod) (T := F_Mod) (N := 167) hx hb hT hown hK hW ko_0.1 ko_0.2 (by decide) in_Mod rfl rfl (by decide) rfl fr_Mod_6 w_8_182 d_Mod_kindOf_64 rfl ?_
          refine lv_iconst (v := 1) hx hb d_Mod_kindOf_67 (by decide) ?_
          refine lv_aload_n hx hb d_Mod_kindOf_68 rfl (lv_at hl 1 rfl) ?_
          refine w_getf (q := 81) (k := 124) (t := 12) (C := R_Mod) (T := F_Mod) (N := 167) hx hb hT hown hK hW ko_0.1 ko_0.2 (by decide) in_Mod rfl rfl (by decide) rfl fr_Mod_124 w_9_60 d_Mod_kindOf_69 rfl ?_
          refine lv_bipush (v := 16) hx hb d_Mod_kindOf_72 (by decide) ?_
          refine lv_aload_n hx hb d_Mod_kindOf_74 rfl (lv_at hl 1 rfl) ?_
          refine w_geti (k := 119) (t := 12) (C := R_Mod) (T := F_Mod) (N := 167) hx hb hT hown hK hW ko_0.1 ko_0.2 (by decide) in_Mod rfl rfl (by decide) rfl fr_Mod_119 w_9_55 d_Mod_kindOf_75 ?_
          refine lv_imul hx hb d_Mod_kindOf_78 ?_
          refine lv_iload_n hx hb d_Mod_kindOf_79 rfl (lv_at hl 3 rfl) ?_
          refine lv_iadd hx hb d_Mod_kindOf_80 ?_
          obtain ⟨hi, hw⟩ := hw
          refine w_iald (o := 81) hx hb hK hW ko_81.1 ko_81.2 hi d_Mod_kindOf_81 ?_
          have hF := hW.free hS hA
          refine va_calli (va_runS (As := [.int 1, .int (rA x2661 81 ((16 * (fI x2661 0 119)) + l2))]) (rest := [.ref (ad 4)]) ⟨hx, hb, hml, hown, hT⟩ (k_Mod_place l dC dI cI cB cJ cZ ad H.size 1 (rA x2661 81 ((16 * (fI x2661 0 119)) + l2)) x2661  hw) ⟨callB_of 2 hT (gwt_in w_11_30) rfl rfl rfl (hT _ w_1_15) (hT _ w_11_28) (by decide +kernel) ⟨Nat.le_trans (Nat.le_of_ble_eq_true rfl) hRf, Nat.le_trans (Nat.le_of_ble_eq_true rfl) hRl⟩, hT _ w_11_29⟩ ⟨PW.blind, PW.at _ hW hK hN⟩ rfl rfl hl.1 rfl (lv_room (Nat.le_of_ble_eq_true rfl)) d_Mod_kindOf_82 ⟨hRc, hRs⟩) hS (fun q _ h => hF q h) hF (fun r2669 x2668 t H locs ht hvm hw hB hz1 hk1 hS => ?_)
          have hW := Wd.back hB ht hF
          clear hB ht hF hz1 hk1 hvm
          obtain ⟨hi, hw⟩ := hw
          refine w_iald (o := 4) hx hb hK hW ko_4.1 ko_4.2 hi d_Mod_kindOf_85 ?_
          refine lv_topi (fun v2670 ev2670 => ?_)
          have hw := hw v2670 ev2670
          refine lv_istore (lv' := [(4, .int v2670), (3, .int v2664), (0, .ref (ad 0)), (1, .int l1), (2, .int l2)]) hx hb d_Mod_kindOf_86 hl (by decide) rfl (fun ls hl => ?_)
          refine lv_aload_n hx hb d_Mod_kindOf_88 rfl (lv_at hl 2 rfl) ?_
          refine lv_iload_n hx hb d_Mod_kindOf_89 rfl (lv_at hl 3 rfl) ?_
          refine lv_iload_n hx hb d_Mod_kindOf_90 rfl (lv_at hl 4 rfl) ?_
          have hF := hW.free hS hA
          refine va_calli (va_runV (C := R_Mod) (As := [.int l1, .int l2]) (rest := []) ⟨hx, hb, hml, hown, hT⟩ (k_Mod_bestOf l dC dI cI cB cJ cZ ad H.size l1 l2 x2668  hw) ⟨callB_of 2 hT (gwt_in w_14_75) rfl rfl rfl (hT _ w_1_15) (hT _ w_14_72) (by decide +kernel) ⟨Nat.le_trans (Nat.le_of_ble_eq_true rfl) hRf, Nat.le_trans (Nat.le_of_ble_eq_true rfl) hRl⟩, hT _ w_14_74, hT _ ws_274⟩ ⟨PW.blind, va_recv hK hW.1 (ci := 12) (q0 := 0) rfl (pic_obj ko_0.1 ko_0.2 (by decide)), PW.at _ hW hK hN⟩ rfl rfl hl.1 rfl (lv_room (Nat.le_of_ble_eq_true rfl)) d_Mod_kindOf_91 ⟨hRc, hRs⟩) hS (fun q _ h => hF q h) hF (fun r2672 x2671 t H locs ht hvm hw hB hz1 hk1 hS => ?_)
          have hW := Wd.back hB ht hF
          clear hB ht hF hz1 hk1 hvm
          refine lv_iconst (v := (-1)) hx hb d_Mod_kindOf_94 (by decide) ?_
          refine lv_icmp_ne (tgt := 102) hx hb d_Mod_kindOf_95 (by decide) (fun c2673 => ?_) (fun c2673 => ?_)
          · have hw := hw.1 c2673
            refine lv_iload hx hb d_Mod_kindOf_102 (lv_at hl 0 rfl) ?_
            refine lv_if_ne (tgt := 111) hx hb d_Mod_kindOf_104 (by decide) (fun c2674 => ?_) (fun c2674 => ?_)
            · have hw := hw.1 c2674
              refine lv_iload hx hb d_Mod_kindOf_111 (lv_at hl 0 rfl) ?_
              refine lv_iconst (v := 3) hx hb d_Mod_kindOf_113 (by decide) ?_
              refine lv_icmp_ne (tgt := 121) hx hb d_Mod_kindOf_114 (by decide) (fun c2675 => ?_) (fun c2675 => ?_)
              · have hw := hw.1 c2675
                refine lv_iconst (v := 2) hx hb d_Mod_kindOf_121 (by decide) ?_
                exact hret 2 x2671 H locs 122 ls d_Mod_kindOf_122 hw hW hS
              · have hw := hw.2 c2675
                refine lv_iconst (v := 3) hx hb d_Mod_kindOf_117 (by decide) ?_
                refine lv_goto (tgt := 122) hx hb d_Mod_kindOf_118 (by decide) ?_
                exact hret 3 x2671 H locs 122 ls d_Mod_kindOf_122 hw hW hS
            · have hw := hw.2 c2674
              refine lv_iconst (v := 1) hx hb d_Mod_kindOf_107 (by decide) ?_
              refine lv_goto (tgt := 122) hx hb d_Mod_kindOf_108 (by decide) ?_
              exact hret 1 x2671 H locs 122 ls d_Mod_kindOf_122 hw hW hS
          · have hw := hw.2 c2673
            refine lv_iconst (v := 0) hx hb d_Mod_kindOf_98 (by decide) ?_
            refine lv_goto (tgt := 122) hx hb d_Mod_kindOf_99 (by decide) ?_
            exact hret 0 x2671 H locs 122 ls d_Mod_kindOf_122 hw hW hS
        · have hw := hw.2 c2667
          refine lv_aload_n hx hb d_Mod_kindOf_43 rfl (lv_at hl 1 rfl) ?_
          refine w_getf (q := 111) (k := 156) (t := 12) (C := R_Mod) (T := F_Mod) (N := 167) hx hb hT hown hK hW ko_0.1 ko_0.2 (by decide) in_Mod rfl rfl (by decide) rfl fr_Mod_156 w_9_92 d_Mod_kindOf_44 rfl ?_
          refine lv_bipush (v := 16) hx hb d_Mod_kindOf_47 (by decide) ?_
          refine lv_iload_n hx hb d_Mod_kindOf_49 rfl (lv_at hl 2 rfl) ?_
          refine lv_imul hx hb d_Mod_kindOf_50 ?_
          refine lv_iload_n hx hb d_Mod_kindOf_51 rfl (lv_at hl 3 rfl) ?_
          refine lv_iadd hx hb d_Mod_kindOf_52 ?_
          obtain ⟨hi, hw⟩ := hw
          refine w_iald (o := 111) hx hb hK hW ko_111.1 ko_111.2 hi d_Mod_kindOf_53 ?_
          refine lv_if_le (tgt := 61) hx hb d_Mod_kindOf_54 (by decide) (fun c2676 => ?_) (fun c2676 => ?_)
          · have hw := hw.1 c2676
            refine lv_iconst (v := 0) hx hb d_Mod_kindOf_61 (by decide) ?_
            exact hret 0 x2661 H locs 62 ls d_Mod_kindOf_62 hw hW hS
          · have hw := hw.2 c2676
            refine lv_iconst (v := 2) hx hb d_Mod_kindOf_57 (by decide) ?_
            refine lv_goto (tgt := 62) hx hb d_Mod_kindOf_58 (by decide) ?_
            exact hret 2 x2661 H locs 62 ls d_Mod_kindOf_62 hw hW hS
      · have hw := hw.2 c2666
        exact t_Mod_kindOf_36 hx hb hml hown hT hK hN hA hRc hRs hRf hRl hret  l1 l2 v2664 x2661 H locs ls  hw hW hS (lv_sub hl [1, 2, 3, 0] rfl)
  · have hw := hw.2 c2663
    refine lv_iconst (v := (-1)) hx hb d_Mod_kindOf_9 (by decide) ?_
    exact hret (-1) x2661 H locs 10 ls d_Mod_kindOf_10 hw hW hS
set_option maxHeartbeats 4000000 in
set_option maxRecDepth 100000 in
theorem k_Mod_kindOf (l : Launch) (dC : Nat → ClassId) (dI : Nat → Nat → Nat) (cI cB cJ cZ : ClassId) (ad : Nat → Nat) (sz : Nat) (l1 : Int32) (l2 : Int32) (x : St) {post : Int32 → St → Prop} (hw : wp_Mod_kindOf post l1 l2 x) : Met l y_Mod_kindOf (wsOf y_Mod_kindOf b_Mod_kindOf 5 (some (.int))) ({ frames := 3, cells := 0, slots := 0, locals := 69 }) (va_Pc [.ref (ad 0), .int l1, .int l2] (PW dC dI cI cB cJ cZ ad stM kcM 115 sz x)) (va_Qi (fun (r : Int32) (y : St) => post r y) (fun y t => Wd dC dI cI cB cJ cZ ad stM kcM 115 (va_A (pic ad stM kcM 115 cI cB cJ cZ x) sz) y t.heap) (va_A (pic ad stM kcM 115 cI cB cJ cZ x) sz)) 0 0 (va_A (pic ad stM kcM 115 cI cB cJ cZ x) sz) := by
  refine Met.ofW (cc := b_Mod_kindOf) (maxL := 5) (ret := some (.int)) (by decide) rfl ?_
  intro p e s m args below meth c s₁ B hml hv
  obtain ⟨rfl, hsz, hW0, hK, hN⟩ := hv
  have hx := B.exec
  have hb := B.bytes
  have hr := B.returns
  have hts := atoms_spec B.pre
  have hT : ∀ w ∈ TG, w.before _ s = true := fun w h => hts w (List.mem_cons_of_mem _ h)
  have hown : s.vm.findClass R_Mod = some m.cls := findClass_of_methodNamed B.named
  have hlocks := B.notSynchronized
  subst hsz
  have hW : Wd dC dI cI cB cJ cZ ad stM kcM 115 (va_A (pic ad stM kcM 115 cI cB cJ cZ x) s.heap.size) x s.heap := ⟨hW0.1, hW0.2.1.self (sz := s.heap.size), hW0.2.2⟩
  generalize hAe : va_A (pic ad stM kcM 115 cI cB cJ cZ x) s.heap.size = A at hW ⊢
  have hA : ∀ q : Nat, s.heap.size ≤ q → A q := fun q h => by rw [← hAe]; exact Or.inr h
  have hS : va_S A s.heap s.heap [] := va_S.rf
  have hl := lv_entry ([.ref (ad 0), .int l1, .int l2]) (n := 5) (Nat.le_of_ble_eq_true rfl)
  rw [lg_entry_eq]
  generalize (lg_sl ([.ref (ad 0), .int l1, .int l2]) ++ List.replicate (5 - (lg_sl ([.ref (ad 0), .int l1, .int l2])).length) Slot.unset).toArray = ls at hl ⊢
  have hl : lv_has ls 5 [(0, .ref (ad 0)), (1, .int l1), (2, .int l2)] := hl
  exact t_Mod_kindOf_e hx hb hml hown hT hK hN hA (Nat.le_refl 0) (Nat.le_refl 0) (Nat.le_refl 3) (Nat.le_refl 69) (fun r x H locs pc ls hd hp hW hS => W.iret (v := r) hx hb hr (fun t ht hM => ⟨⟨r, x, rfl, hp, Wd.back hW ht.symm (fun _ z => z)⟩, hS.F ht⟩) hS.2.2 hd hlocks)  l1 l2 x _ _ ls  hw hW hS hl
set_option maxRecDepth 100000 in
set_option maxHeartbeats 4000000 in
set_option maxRecDepth 100000 in
theorem t_Mod_kind_e {p : Program} {l : Launch} {e : Env} {R : Room} {s : State} {m : MethodId} {args : Array Value} {below : List Frame} {meth : Method} {c : Code} {cells slots : Nat} {Q : State → Prop} {dC : Nat → ClassId} {dI : Nat → Nat → Nat} {cI cB cJ cZ : ClassId} {A : Nat → Prop} {ad : Nat → Nat} {post : Int32 → St → Prop} (hx : p.tables.exec = Jvm.exec) (hb : c.code = b_Mod_kind) (hml : c.maxLocals = 3) (hown : s.vm.findClass R_Mod = some m.cls) (hT : ∀ w ∈ TG, w.before args s = true) (hK : va_K (dC, dI) CL (TY cI cB cJ cZ) s) (hN : NW s) (hA : ∀ q : Nat, s.heap.size ≤ q → A q) (hRc : cells ≤ R.cells) (hRs : slots ≤ R.slots) (hRf : 4 ≤ R.frames) (hRl : 93 ≤ R.locals) (hret : ∀ (r : Int32) (x : St) (H : Heap) (locs : List Loc) (pc : Nat) (ls : Array Slot), decode b_Mod_kind pc = .ok (.ireturn, 1) → post r x → Wd dC dI cI cB cJ cZ ad stM kcM 115 A x H → va_S A s.heap H locs → W p l e R s m args below meth c H locs cells slots Q (F0 m pc ls [.int r])) : ∀ (l1 : Int32) (l2 : Int32) (x : St) (H : Heap) (locs : List Loc) (ls : Array Slot), wp_Mod_kind post l1 l2 x → Wd dC dI cI cB cJ cZ ad stM kcM 115 A x H → va_S A s.heap H locs → lv_has ls 3 [(0, .ref (ad 0)), (1, .int l1), (2, .int l2)] → W p l e R s m args below meth c H locs cells slots Q (F0 m 0 ls []) := by
  intro l1 l2 x H locs ls  hw hW hS hl
  unfold wp_Mod_kind at hw
  refine lv_aload_n hx hb d_Mod_kind_0 rfl (lv_at hl 0 rfl) ?_
  refine lv_iconst (v := 0) hx hb d_Mod_kind_1 (by decide) ?_
  refine w_puti (ty := .int) (k := 0) (t := 12) (C := R_Mod) (T := F_Mod) (N := 167) hx hb hT hown hK hW hS ko_0.1 ko_0.2 (by decide) in_Mod t_Mod t_Mod_ok n_Mod rfl rfl (by decide) rfl fr_Mod_0 w_8_176 (by decide +kernel) rfl rfl d_Mod_kind_2 (fun H locs hW hS => ?_)
  obtain ⟨x2677, ex2677⟩ : ∃ y : St, y = setI x 0 0 0 := ⟨_, rfl⟩
  rw [← ex2677] at hW
  have hw := hw x2677 ex2677
  refine lv_aload_n hx hb d_Mod_kind_5 rfl (lv_at hl 0 rfl) ?_
  refine lv_iload_n hx hb d_Mod_kind_6 rfl (lv_at hl 1 rfl) ?_
  refine lv_iload_n hx hb d_Mod_kind_7 rfl (lv_at hl 2 rfl) ?_
  have hF := hW.free hS hA
  refine va_calli (va_runV (C := R_Mod) (As := [.int l1, .int l2]) (rest := []) ⟨hx, hb, hml, hown, hT⟩ (k_Mod_kindOf l dC dI cI cB cJ cZ ad H.size l1 l2 x2677  hw) ⟨callB_of 2 hT (gwt_in w_14_67) rfl rfl rfl (hT _ w_1_15) (hT _ w_14_64) (by decide +kernel) ⟨Nat.le_trans (Nat.le_of_ble_eq_true rfl) hRf, Nat.le_trans (Nat.le_of_ble_eq_true rfl) hRl⟩, hT _ w_14_66, hT _ ws_272⟩ ⟨PW.blind, va_recv hK hW.1 (ci := 12) (q0 := 0) rfl (pic_obj ko_0.1 ko_0.2 (by decide)), PW.at _ hW hK hN⟩ rfl rfl hl.1 rfl (lv_room (Nat.le_of_ble_eq_true rfl)) d_Mod_kind_8 ⟨hRc, hRs⟩) hS (fun q _ h => hF q h) hF (fun r2679 x2678 t H locs ht hvm hw hB hz1 hk1 hS => ?_)
  have hW := Wd.back hB ht hF
  clear hB ht hF hz1 hk1 hvm
  exact hret r2679 x2678 H locs 11 ls d_Mod_kind_11 hw hW hS
set_option maxHeartbeats 4000000 in
set_option maxRecDepth 100000 in
theorem k_Mod_kind (l : Launch) (dC : Nat → ClassId) (dI : Nat → Nat → Nat) (cI cB cJ cZ : ClassId) (ad : Nat → Nat) (sz : Nat) (l1 : Int32) (l2 : Int32) (x : St) {post : Int32 → St → Prop} (hw : wp_Mod_kind post l1 l2 x) : Met l y_Mod_kind (wsOf y_Mod_kind b_Mod_kind 3 (some (.int))) ({ frames := 4, cells := 0, slots := 0, locals := 93 }) (va_Pc [.ref (ad 0), .int l1, .int l2] (PW dC dI cI cB cJ cZ ad stM kcM 115 sz x)) (va_Qi (fun (r : Int32) (y : St) => post r y) (fun y t => Wd dC dI cI cB cJ cZ ad stM kcM 115 (va_A (pic ad stM kcM 115 cI cB cJ cZ x) sz) y t.heap) (va_A (pic ad stM kcM 115 cI cB cJ cZ x) sz)) 0 0 (va_A (pic ad stM kcM 115 cI cB cJ cZ x) sz) := by
  refine Met.ofW (cc := b_Mod_kind) (maxL := 3) (ret := some (.int)) (by decide) rfl ?_
  intro p e s m args below meth c s₁ B hml hv
  obtain ⟨rfl, hsz, hW0, hK, hN⟩ := hv
  have hx := B.exec
  have hb := B.bytes
  have hr := B.returns
  have hts := atoms_spec B.pre
  have hT : ∀ w ∈ TG, w.before _ s = true := fun w h => hts w (List.mem_cons_of_mem _ h)
  have hown : s.vm.findClass R_Mod = some m.cls := findClass_of_methodNamed B.named
  have hlocks := B.notSynchronized
  subst hsz
  have hW : Wd dC dI cI cB cJ cZ ad stM kcM 115 (va_A (pic ad stM kcM 115 cI cB cJ cZ x) s.heap.size) x s.heap := ⟨hW0.1, hW0.2.1.self (sz := s.heap.size), hW0.2.2⟩
  generalize hAe : va_A (pic ad stM kcM 115 cI cB cJ cZ x) s.heap.size = A at hW ⊢
  have hA : ∀ q : Nat, s.heap.size ≤ q → A q := fun q h => by rw [← hAe]; exact Or.inr h
  have hS : va_S A s.heap s.heap [] := va_S.rf
  have hl := lv_entry ([.ref (ad 0), .int l1, .int l2]) (n := 3) (Nat.le_of_ble_eq_true rfl)
  rw [lg_entry_eq]
  generalize (lg_sl ([.ref (ad 0), .int l1, .int l2]) ++ List.replicate (3 - (lg_sl ([.ref (ad 0), .int l1, .int l2])).length) Slot.unset).toArray = ls at hl ⊢
  have hl : lv_has ls 3 [(0, .ref (ad 0)), (1, .int l1), (2, .int l2)] := hl
  exact t_Mod_kind_e hx hb hml hown hT hK hN hA (Nat.le_refl 0) (Nat.le_refl 0) (Nat.le_refl 4) (Nat.le_refl 93) (fun r x H locs pc ls hd hp hW hS => W.iret (v := r) hx hb hr (fun t ht hM => ⟨⟨r, x, rfl, hp, Wd.back hW ht.symm (fun _ z => z)⟩, hS.F ht⟩) hS.2.2 hd hlocks)  l1 l2 x _ _ ls  hw hW hS hl
set_option maxRecDepth 100000 in
set_option maxHeartbeats 4000000 in
set_option maxRecDepth 100000 in
theorem t_Mod_value_24 {p : Program} {l : Launch} {e : Env} {R : Room} {s : State} {m : MethodId} {args : Array Value} {below : List Frame} {meth : Method} {c : Code} {cells slots : Nat} {Q : State → Prop} {dC : Nat → ClassId} {dI : Nat → Nat → Nat} {cI cB cJ cZ : ClassId} {A : Nat → Prop} {ad : Nat → Nat} {post : Int64 → St → Prop} (hx : p.tables.exec = Jvm.exec) (hb : c.code = b_Mod_value) (hml : c.maxLocals = 5) (hown : s.vm.findClass R_Mod = some m.cls) (hT : ∀ w ∈ TG, w.before args s = true) (hK : va_K (dC, dI) CL (TY cI cB cJ cZ) s) (hN : NW s) (hA : ∀ q : Nat, s.heap.size ≤ q → A q) (hRc : cells ≤ R.cells) (hRs : slots ≤ R.slots) (hRf : 4 ≤ R.frames) (hRl : 93 ≤ R.locals) (hret : ∀ (r : Int64) (x : St) (H : Heap) (locs : List Loc) (pc : Nat) (ls : Array Slot), decode b_Mod_value pc = .ok (.lreturn, 1) → post r x → Wd dC dI cI cB cJ cZ ad stM kcM 115 A x H → va_S A s.heap H locs → W p l e R s m args below meth c H locs cells slots Q (F0 m pc ls [.long r]))  : ∀ (l1 : Int32) (l2 : Int32) (l3 : Int32) (x : St) (H : Heap) (locs : List Loc) (ls : Array Slot), j_Mod_value_24 post l1 l2 l3 x → Wd dC dI cI cB cJ cZ ad stM kcM 115 A x H → va_S A s.heap H locs → lv_has ls 5 [(0, .ref (ad 0)), (1, .int l1), (2, .int l2), (3, .int l3)] → W p l e R s m args below meth c H locs cells slots Q (F0 m 24 ls []) := by
  intro l1 l2 l3 x H locs ls  hw hW hS hl
  unfold j_Mod_value_24 at hw
  refine lv_aload_n hx hb d_Mod_value_24 rfl (lv_at hl 0 rfl) ?_
  refine w_getf (q := 80) (k := 123) (t := 12) (C := R_Mod) (T := F_Mod) (N := 167) hx hb hT hown hK hW ko_0.1 ko_0.2 (by decide) in_Mod rfl rfl (by decide) rfl fr_Mod_123 w_9_59 d_Mod_value_25 rfl ?_
  refine lv_bipush (v := 16) hx hb d_Mod_value_28 (by decide) ?_
  refine lv_aload_n hx hb d_Mod_value_30 rfl (lv_at hl 0 rfl) ?_
  refine w_geti (k := 119) (t := 12) (C := R_Mod) (T := F_Mod) (N := 167) hx hb hT hown hK hW ko_0.1 ko_0.2 (by decide) in_Mod rfl rfl (by decide) rfl fr_Mod_119 w_9_55 d_Mod_value_31 ?_
  refine lv_imul hx hb d_Mod_value_34 ?_
  refine lv_iload_n hx hb d_Mod_value_35 rfl (lv_at hl 2 rfl) ?_
  refine lv_iadd hx hb d_Mod_value_36 ?_
  obtain ⟨hi, hw⟩ := hw
  refine w_iald (o := 80) hx hb hK hW ko_80.1 ko_80.2 hi d_Mod_value_37 ?_
  refine lv_topi (fun v2680 ev2680 => ?_)
  have hw := hw v2680 ev2680
  refine lv_istore (lv' := [(4, .int v2680), (0, .ref (ad 0)), (1, .int l1), (2, .int l2), (3, .int l3)]) hx hb d_Mod_value_38 hl (by decide) rfl (fun ls hl => ?_)
  refine lv_iload hx hb d_Mod_value_40 (lv_at hl 0 rfl) ?_
  refine lv_iconst (v := 1) hx hb d_Mod_value_42 (by decide) ?_
  refine lv_icmp_ne (tgt := 56) hx hb d_Mod_value_43 (by decide) (fun c2681 => ?_) (fun c2681 => ?_)
  · have hw := hw.1 c2681
    refine lv_iload hx hb d_Mod_value_56 (lv_at hl 0 rfl) ?_
    refine lv_iconst (v := 2) hx hb d_Mod_value_58 (by decide) ?_
    refine lv_icmp_ne (tgt := 77) hx hb d_Mod_value_59 (by decide) (fun c2682 => ?_) (fun c2682 => ?_)
    · have hw := hw.1 c2682
      refine lv_iload hx hb d_Mod_value_77 (lv_at hl 0 rfl) ?_
      refine lv_iconst (v := 3) hx hb d_Mod_value_79 (by decide) ?_
      refine lv_icmp_ne (tgt := 97) hx hb d_Mod_value_80 (by decide) (fun c2683 => ?_) (fun c2683 => ?_)
      · have hw := hw.1 c2683
        refine lv_aload_n hx hb d_Mod_value_97 rfl (lv_at hl 1 rfl) ?_
        refine w_getf (q := 54) (k := 89) (t := 12) (C := R_Mod) (T := F_Mod) (N := 167) hx hb hT hown hK hW ko_0.1 ko_0.2 (by decide) in_Mod rfl rfl (by decide) rfl fr_Mod_89 w_9_25 d_Mod_value_98 rfl ?_
        refine lv_aload_n hx hb d_Mod_value_101 rfl (lv_at hl 1 rfl) ?_
        refine lv_iload_n hx hb d_Mod_value_102 rfl (lv_at hl 2 rfl) ?_
        refine lv_iload_n hx hb d_Mod_value_103 rfl (lv_at hl 3 rfl) ?_
        have hF := hW.free hS hA
        refine va_calli (va_runV (C := R_Mod) (As := [.int l1, .int l2]) (rest := [.ref (ad 54)]) ⟨hx, hb, hml, hown, hT⟩ (k_Mod_bestOf l dC dI cI cB cJ cZ ad H.size l1 l2 x  hw) ⟨callB_of 2 hT (gwt_in w_14_75) rfl rfl rfl (hT _ w_1_15) (hT _ w_14_72) (by decide +kernel) ⟨Nat.le_trans (Nat.le_of_ble_eq_true rfl) hRf, Nat.le_trans (Nat.le_of_ble_eq_true rfl) hRl⟩, hT _ w_14_74, hT _ ws_274⟩ ⟨PW.blind, va_recv hK hW.1 (ci := 12) (q0 := 0) rfl (pic_obj ko_0.1 ko_0.2 (by decide)), PW.at _ hW hK hN⟩ rfl rfl hl.1 rfl (lv_room (Nat.le_of_ble_eq_true rfl)) d_Mod_value_104 ⟨hRc, hRs⟩) hS (fun q _ h => hF q h) hF (fun r2685 x2684 t H locs ht hvm hw hB hz1 hk1 hS => ?_)
        have hW := Wd.back hB ht hF
        clear hB ht hF hz1 hk1 hvm
        obtain ⟨hi, hw⟩ := hw
        refine w_lald (o := 54) hx hb hK hW ko_54.1 ko_54.2 hi d_Mod_value_107 ?_
        exact hret (rL x2684 54 r2685) x2684 H locs 108 ls d_Mod_value_108 hw hW hS
      · have hw := hw.2 c2683
        refine lv_aload_n hx hb d_Mod_value_83 rfl (lv_at hl 1 rfl) ?_
        refine w_getf (q := 114) (k := 159) (t := 12) (C := R_Mod) (T := F_Mod) (N := 167) hx hb hT hown hK hW ko_0.1 ko_0.2 (by decide) in_Mod rfl rfl (by decide) rfl fr_Mod_159 w_9_95 d_Mod_value_84 rfl ?_
        refine lv_bipush (v := 16) hx hb d_Mod_value_87 (by decide) ?_
        refine lv_iload_n hx hb d_Mod_value_89 rfl (lv_at hl 2 rfl) ?_
        refine lv_imul hx hb d_Mod_value_90 ?_
        refine lv_iload_n hx hb d_Mod_value_91 rfl (lv_at hl 3 rfl) ?_
        refine lv_iadd hx hb d_Mod_value_92 ?_
        obtain ⟨hi, hw⟩ := hw
        refine w_lald (o := 114) hx hb hK hW ko_114.1 ko_114.2 hi d_Mod_value_93 ?_
        refine lv_goto (tgt := 108) hx hb d_Mod_value_94 (by decide) ?_
        exact hret (rL x 114 ((16 * l1) + l2)) x H locs 108 ls d_Mod_value_108 hw hW hS
    · have hw := hw.2 c2682
      refine lv_aload_n hx hb d_Mod_value_62 rfl (lv_at hl 1 rfl) ?_
      refine w_getf (q := 111) (k := 156) (t := 12) (C := R_Mod) (T := F_Mod) (N := 167) hx hb hT hown hK hW ko_0.1 ko_0.2 (by decide) in_Mod rfl rfl (by decide) rfl fr_Mod_156 w_9_92 d_Mod_value_63 rfl ?_
      refine lv_bipush (v := 16) hx hb d_Mod_value_66 (by decide) ?_
      refine lv_iload_n hx hb d_Mod_value_68 rfl (lv_at hl 2 rfl) ?_
      refine lv_imul hx hb d_Mod_value_69 ?_
      refine lv_iload_n hx hb d_Mod_value_70 rfl (lv_at hl 3 rfl) ?_
      refine lv_iadd hx hb d_Mod_value_71 ?_
      obtain ⟨hi, hw⟩ := hw
      refine w_iald (o := 111) hx hb hK hW ko_111.1 ko_111.2 hi d_Mod_value_72 ?_
      refine lv_i2l hx hb d_Mod_value_73 rfl ?_
      refine lv_goto (tgt := 108) hx hb d_Mod_value_74 (by decide) ?_
      exact hret ((rA x 111 ((16 * l1) + l2)) : Int32).toInt64 x H locs 108 ls d_Mod_value_108 hw hW hS
  · have hw := hw.2 c2681
    refine lv_aload_n hx hb d_Mod_value_46 rfl (lv_at hl 1 rfl) ?_
    refine w_getf (q := 110) (k := 155) (t := 12) (C := R_Mod) (T := F_Mod) (N := 167) hx hb hT hown hK hW ko_0.1 ko_0.2 (by decide) in_Mod rfl rfl (by decide) rfl fr_Mod_155 w_9_91 d_Mod_value_47 rfl ?_
    refine lv_iload_n hx hb d_Mod_value_50 rfl (lv_at hl 2 rfl) ?_
    obtain ⟨hi, hw⟩ := hw
    refine w_iald (o := 110) hx hb hK hW ko_110.1 ko_110.2 hi d_Mod_value_51 ?_
    refine lv_i2l hx hb d_Mod_value_52 rfl ?_
    refine lv_goto (tgt := 108) hx hb d_Mod_value_53 (by decide) ?_
    exact hret ((rA x 110 l1) : Int32).toInt64 x H locs 108 ls d_Mod_value_108 hw hW hS
set_option maxRecDepth 100000 in
set_option maxHeartbeats 4000000 in
set_option maxRecDepth 100000 in
theorem t_Mod_value_e {p : Program} {l : Launch} {e : Env} {R : Room} {s : State} {m : MethodId} {args : Array Value} {below : List Frame} {meth : Method} {c : Code} {cells slots : Nat} {Q : State → Prop} {dC : Nat → ClassId} {dI : Nat → Nat → Nat} {cI cB cJ cZ : ClassId} {A : Nat → Prop} {ad : Nat → Nat} {post : Int64 → St → Prop} (hx : p.tables.exec = Jvm.exec) (hb : c.code = b_Mod_value) (hml : c.maxLocals = 5) (hown : s.vm.findClass R_Mod = some m.cls) (hT : ∀ w ∈ TG, w.before args s = true) (hK : va_K (dC, dI) CL (TY cI cB cJ cZ) s) (hN : NW s) (hA : ∀ q : Nat, s.heap.size ≤ q → A q) (hRc : cells ≤ R.cells) (hRs : slots ≤ R.slots) (hRf : 4 ≤ R.frames) (hRl : 93 ≤ R.locals) (hret : ∀ (r : Int64) (x : St) (H : Heap) (locs : List Loc) (pc : Nat) (ls : Array Slot), decode b_Mod_value pc = .ok (.lreturn, 1) → post r x → Wd dC dI cI cB cJ cZ ad stM kcM 115 A x H → va_S A s.heap H locs → W p l e R s m args below meth c H locs cells slots Q (F0 m pc ls [.long r])) : ∀ (l1 : Int32) (l2 : Int32) (x : St) (H : Heap) (locs : List Loc) (ls : Array Slot), wp_Mod_value post l1 l2 x → Wd dC dI cI cB cJ cZ ad stM kcM 115 A x H → va_S A s.heap H locs → lv_has ls 5 [(0, .ref (ad 0)), (1, .int l1), (2, .int l2)] → W p l e R s m args below meth c H locs cells slots Q (F0 m 0 ls []) := by
  intro l1 l2 x H locs ls  hw hW hS hl
  unfold wp_Mod_value at hw
  refine lv_aload_n hx hb d_Mod_value_0 rfl (lv_at hl 0 rfl) ?_
  refine lv_iconst (v := 0) hx hb d_Mod_value_1 (by decide) ?_
  refine w_puti (ty := .int) (k := 0) (t := 12) (C := R_Mod) (T := F_Mod) (N := 167) hx hb hT hown hK hW hS ko_0.1 ko_0.2 (by decide) in_Mod t_Mod t_Mod_ok n_Mod rfl rfl (by decide) rfl fr_Mod_0 w_8_176 (by decide +kernel) rfl rfl d_Mod_value_2 (fun H locs hW hS => ?_)
  obtain ⟨x2686, ex2686⟩ : ∃ y : St, y = setI x 0 0 0 := ⟨_, rfl⟩
  rw [← ex2686] at hW
  have hw := hw x2686 ex2686
  refine lv_aload_n hx hb d_Mod_value_5 rfl (lv_at hl 0 rfl) ?_
  refine lv_iload_n hx hb d_Mod_value_6 rfl (lv_at hl 1 rfl) ?_
  refine lv_iload_n hx hb d_Mod_value_7 rfl (lv_at hl 2 rfl) ?_
  have hF := hW.free hS hA
  refine va_calli (va_runV (C := R_Mod) (As := [.int l1, .int l2]) (rest := []) ⟨hx, hb, hml, hown, hT⟩ (k_Mod_kindOf l dC dI cI cB cJ cZ ad H.size l1 l2 x2686  hw) ⟨callB_of 2 hT (gwt_in w_14_67) rfl rfl rfl (hT _ w_1_15) (hT _ w_14_64) (by decide +kernel) ⟨Nat.le_trans (Nat.le_of_ble_eq_true rfl) hRf, Nat.le_trans (Nat.le_of_ble_eq_true rfl) hRl⟩, hT _ w_14_66, hT _ ws_272⟩ ⟨PW.blind, va_recv hK hW.1 (ci := 12) (q0 := 0) rfl (pic_obj ko_0.1 ko_0.2 (by decide)), PW.at _ hW hK hN⟩ rfl rfl hl.1 rfl (lv_room (Nat.le_of_ble_eq_true rfl)) d_Mod_value_8 ⟨hRc, hRs⟩) hS (fun q _ h => hF q h) hF (fun r2688 x2687 t H locs ht hvm hw hB hz1 hk1 hS => ?_)
  have hW := Wd.back hB ht hF
  clear hB ht hF hz1 hk1 hvm
  refine lv_istore_n (lv' := [(3, .int r2688), (0, .ref (ad 0)), (1, .int l1), (2, .int l2)]) hx hb d_Mod_value_11 rfl hl (by decide) rfl (fun ls hl => ?_)
  refine lv_iload_n hx hb d_Mod_value_12 rfl (lv_at hl 0 rfl) ?_
  refine lv_iconst (v := 1) hx hb d_Mod_value_13 (by decide) ?_
  refine lv_icmp_eq (tgt := 24) hx hb d_Mod_value_14 (by decide) (fun c2689 => ?_) (fun c2689 => ?_)
  · have hw := hw.1 c2689
    exact t_Mod_value_24 hx hb hml hown hT hK hN hA hRc hRs hRf hRl hret  l1 l2 r2688 x2687 H locs ls  hw hW hS (lv_sub hl [1, 2, 3, 0] rfl)
  · have hw := hw.2 c2689
    refine lv_iload_n hx hb d_Mod_value_17 rfl (lv_at hl 0 rfl) ?_
    refine lv_iconst (v := 2) hx hb d_Mod_value_18 (by decide) ?_
    refine lv_icmp_eq (tgt := 24) hx hb d_Mod_value_19 (by decide) (fun c2690 => ?_) (fun c2690 => ?_)
    · have hw := hw.1 c2690
      exact t_Mod_value_24 hx hb hml hown hT hK hN hA hRc hRs hRf hRl hret  l1 l2 r2688 x2687 H locs ls  hw hW hS (lv_sub hl [1, 2, 3, 0] rfl)
    · have hw := hw.2 c2690
      refine lv_lconst (v := 0) hx hb d_Mod_value_22 (by decide) ?_
      exact hret 0 x2687 H locs 23 ls d_Mod_value_23 hw hW hS
set_option maxHeartbeats 4000000 in
set_option maxRecDepth 100000 in
theorem k_Mod_value (l : Launch) (dC : Nat → ClassId) (dI : Nat → Nat → Nat) (cI cB cJ cZ : ClassId) (ad : Nat → Nat) (sz : Nat) (l1 : Int32) (l2 : Int32) (x : St) {post : Int64 → St → Prop} (hw : wp_Mod_value post l1 l2 x) : Met l y_Mod_value (wsOf y_Mod_value b_Mod_value 5 (some (.long))) ({ frames := 4, cells := 0, slots := 0, locals := 93 }) (va_Pc [.ref (ad 0), .int l1, .int l2] (PW dC dI cI cB cJ cZ ad stM kcM 115 sz x)) (va_Ql (fun (r : Int64) (y : St) => post r y) (fun y t => Wd dC dI cI cB cJ cZ ad stM kcM 115 (va_A (pic ad stM kcM 115 cI cB cJ cZ x) sz) y t.heap) (va_A (pic ad stM kcM 115 cI cB cJ cZ x) sz)) 0 0 (va_A (pic ad stM kcM 115 cI cB cJ cZ x) sz) := by
  refine Met.ofW (cc := b_Mod_value) (maxL := 5) (ret := some (.long)) (by decide) rfl ?_
  intro p e s m args below meth c s₁ B hml hv
  obtain ⟨rfl, hsz, hW0, hK, hN⟩ := hv
  have hx := B.exec
  have hb := B.bytes
  have hr := B.returns
  have hts := atoms_spec B.pre
  have hT : ∀ w ∈ TG, w.before _ s = true := fun w h => hts w (List.mem_cons_of_mem _ h)
  have hown : s.vm.findClass R_Mod = some m.cls := findClass_of_methodNamed B.named
  have hlocks := B.notSynchronized
  subst hsz
  have hW : Wd dC dI cI cB cJ cZ ad stM kcM 115 (va_A (pic ad stM kcM 115 cI cB cJ cZ x) s.heap.size) x s.heap := ⟨hW0.1, hW0.2.1.self (sz := s.heap.size), hW0.2.2⟩
  generalize hAe : va_A (pic ad stM kcM 115 cI cB cJ cZ x) s.heap.size = A at hW ⊢
  have hA : ∀ q : Nat, s.heap.size ≤ q → A q := fun q h => by rw [← hAe]; exact Or.inr h
  have hS : va_S A s.heap s.heap [] := va_S.rf
  have hl := lv_entry ([.ref (ad 0), .int l1, .int l2]) (n := 5) (Nat.le_of_ble_eq_true rfl)
  rw [lg_entry_eq]
  generalize (lg_sl ([.ref (ad 0), .int l1, .int l2]) ++ List.replicate (5 - (lg_sl ([.ref (ad 0), .int l1, .int l2])).length) Slot.unset).toArray = ls at hl ⊢
  have hl : lv_has ls 5 [(0, .ref (ad 0)), (1, .int l1), (2, .int l2)] := hl
  exact t_Mod_value_e hx hb hml hown hT hK hN hA (Nat.le_refl 0) (Nat.le_refl 0) (Nat.le_refl 4) (Nat.le_refl 93) (fun r x H locs pc ls hd hp hW hS => W.lret (v := r) hx hb hr (fun t ht hM => ⟨⟨r, x, rfl, hp, Wd.back hW ht.symm (fun _ z => z)⟩, hS.F ht⟩) hS.2.2 hd hlocks)  l1 l2 x _ _ ls  hw hW hS hl
set_option maxRecDepth 100000 in
set_option maxHeartbeats 4000000 in
set_option maxRecDepth 100000 in
theorem t_Mod_letter_40 {p : Program} {l : Launch} {e : Env} {R : Room} {s : State} {m : MethodId} {args : Array Value} {below : List Frame} {meth : Method} {c : Code} {cells slots : Nat} {Q : State → Prop} {dC : Nat → ClassId} {dI : Nat → Nat → Nat} {cI cB cJ cZ : ClassId} {A : Nat → Prop} {ad : Nat → Nat} {post : Int32 → St → Prop} (hx : p.tables.exec = Jvm.exec) (hb : c.code = b_Mod_letter) (hml : c.maxLocals = 5) (hown : s.vm.findClass R_Mod = some m.cls) (hT : ∀ w ∈ TG, w.before args s = true) (hK : va_K (dC, dI) CL (TY cI cB cJ cZ) s) (hN : NW s) (hA : ∀ q : Nat, s.heap.size ≤ q → A q) (hRc : cells ≤ R.cells) (hRs : slots ≤ R.slots) (hRf : 4 ≤ R.frames) (hRl : 93 ≤ R.locals) (hret : ∀ (r : Int32) (x : St) (H : Heap) (locs : List Loc) (pc : Nat) (ls : Array Slot), decode b_Mod_letter pc = .ok (.ireturn, 1) → post r x → Wd dC dI cI cB cJ cZ ad stM kcM 115 A x H → va_S A s.heap H locs → W p l e R s m args below meth c H locs cells slots Q (F0 m pc ls [.int r]))  : ∀ (l1 : Int32) (l2 : Int32) (l3 : Int32) (l4 : Int32) (x : St) (H : Heap) (locs : List Loc) (ls : Array Slot), j_Mod_letter_40 post l1 l2 l3 l4 x → Wd dC dI cI cB cJ cZ ad stM kcM 115 A x H → va_S A s.heap H locs → lv_has ls 5 [(0, .ref (ad 0)), (1, .int l1), (2, .int l2), (3, .int l3), (4, .int l4)] → W p l e R s m args below meth c H locs cells slots Q (F0 m 40 ls []) := by
  intro l1 l2 l3 l4 x H locs ls  hw hW hS hl
  unfold j_Mod_letter_40 at hw
  refine lv_iconst (v := (-1)) hx hb d_Mod_letter_40 (by decide) ?_
  refine lv_goto (tgt := 58) hx hb d_Mod_letter_41 (by decide) ?_
  exact hret (-1) x H locs 58 ls d_Mod_letter_58 hw hW hS
set_option maxRecDepth 100000 in
set_option maxHeartbeats 4000000 in
set_option maxRecDepth 100000 in
theorem t_Mod_letter_e {p : Program} {l : Launch} {e : Env} {R : Room} {s : State} {m : MethodId} {args : Array Value} {below : List Frame} {meth : Method} {c : Code} {cells slots : Nat} {Q : State → Prop} {dC : Nat → ClassId} {dI : Nat → Nat → Nat} {cI cB cJ cZ : ClassId} {A : Nat → Prop} {ad : Nat → Nat} {post : Int32 → St → Prop} (hx : p.tables.exec = Jvm.exec) (hb : c.code = b_Mod_letter) (hml : c.maxLocals = 5) (hown : s.vm.findClass R_Mod = some m.cls) (hT : ∀ w ∈ TG, w.before args s = true) (hK : va_K (dC, dI) CL (TY cI cB cJ cZ) s) (hN : NW s) (hA : ∀ q : Nat, s.heap.size ≤ q → A q) (hRc : cells ≤ R.cells) (hRs : slots ≤ R.slots) (hRf : 4 ≤ R.frames) (hRl : 93 ≤ R.locals) (hret : ∀ (r : Int32) (x : St) (H : Heap) (locs : List Loc) (pc : Nat) (ls : Array Slot), decode b_Mod_letter pc = .ok (.ireturn, 1) → post r x → Wd dC dI cI cB cJ cZ ad stM kcM 115 A x H → va_S A s.heap H locs → W p l e R s m args below meth c H locs cells slots Q (F0 m pc ls [.int r])) : ∀ (l1 : Int32) (l2 : Int32) (l3 : Int32) (x : St) (H : Heap) (locs : List Loc) (ls : Array Slot), wp_Mod_letter post l1 l2 l3 x → Wd dC dI cI cB cJ cZ ad stM kcM 115 A x H → va_S A s.heap H locs → lv_has ls 5 [(0, .ref (ad 0)), (1, .int l1), (2, .int l2), (3, .int l3)] → W p l e R s m args below meth c H locs cells slots Q (F0 m 0 ls []) := by
  intro l1 l2 l3 x H locs ls  hw hW hS hl
  unfold wp_Mod_letter at hw
  refine lv_aload_n hx hb d_Mod_letter_0 rfl (lv_at hl 0 rfl) ?_
  refine lv_iconst (v := 0) hx hb d_Mod_letter_1 (by decide) ?_
  refine w_puti (ty := .int) (k := 0) (t := 12) (C := R_Mod) (T := F_Mod) (N := 167) hx hb hT hown hK hW hS ko_0.1 ko_0.2 (by decide) in_Mod t_Mod t_Mod_ok n_Mod rfl rfl (by decide) rfl fr_Mod_0 w_8_176 (by decide +kernel) rfl rfl d_Mod_letter_2 (fun H locs hW hS => ?_)
  obtain ⟨x2691, ex2691⟩ : ∃ y : St, y = setI x 0 0 0 := ⟨_, rfl⟩
  rw [← ex2691] at hW
  have hw := hw x2691 ex2691
  refine lv_aload_n hx hb d_Mod_letter_5 rfl (lv_at hl 0 rfl) ?_
  refine lv_iload_n hx hb d_Mod_letter_6 rfl (lv_at hl 1 rfl) ?_
  refine lv_iload_n hx hb d_Mod_letter_7 rfl (lv_at hl 2 rfl) ?_
  have hF := hW.free hS hA
  refine va_calli (va_runV (C := R_Mod) (As := [.int l1, .int l2]) (rest := []) ⟨hx, hb, hml, hown, hT⟩ (k_Mod_kindOf l dC dI cI cB cJ cZ ad H.size l1 l2 x2691  hw) ⟨callB_of 2 hT (gwt_in w_14_67) rfl rfl rfl (hT _ w_1_15) (hT _ w_14_64) (by decide +kernel) ⟨Nat.le_trans (Nat.le_of_ble_eq_true rfl) hRf, Nat.le_trans (Nat.le_of_ble_eq_true rfl) hRl⟩, hT _ w_14_66, hT _ ws_272⟩ ⟨PW.blind, va_recv hK hW.1 (ci := 12) (q0 := 0) rfl (pic_obj ko_0.1 ko_0.2 (by decide)), PW.at _ hW hK hN⟩ rfl rfl hl.1 rfl (lv_room (Nat.le_of_ble_eq_true rfl)) d_Mod_letter_8 ⟨hRc, hRs⟩) hS (fun q _ h => hF q h) hF (fun r2693 x2692 t H locs ht hvm hw hB hz1 hk1 hS => ?_)
  have hW := Wd.back hB ht hF
  clear hB ht hF hz1 hk1 hvm
  refine lv_iconst (v := 3) hx hb d_Mod_letter_11 (by decide) ?_
  refine lv_icmp_eq (tgt := 17) hx hb d_Mod_letter_12 (by decide) (fun c2694 => ?_) (fun c2694 => ?_)
  · have hw := hw.1 c2694
    refine lv_aload_n hx hb d_Mod_letter_17 rfl (lv_at hl 0 rfl) ?_
    refine lv_iload_n hx hb d_Mod_letter_18 rfl (lv_at hl 1 rfl) ?_
    refine lv_iload_n hx hb d_Mod_letter_19 rfl (lv_at hl 2 rfl) ?_
    have hF := hW.free hS hA
    refine va_calli (va_runV (C := R_Mod) (As := [.int l1, .int l2]) (rest := []) ⟨hx, hb, hml, hown, hT⟩ (k_Mod_bestOf l dC dI cI cB cJ cZ ad H.size l1 l2 x2692  hw) ⟨callB_of 2 hT (gwt_in w_14_75) rfl rfl rfl (hT _ w_1_15) (hT _ w_14_72) (by decide +kernel) ⟨Nat.le_trans (Nat.le_of_ble_eq_true rfl) hRf, Nat.le_trans (Nat.le_of_ble_eq_true rfl) hRl⟩, hT _ w_14_74, hT _ ws_274⟩ ⟨PW.blind, va_recv hK hW.1 (ci := 12) (q0 := 0) rfl (pic_obj ko_0.1 ko_0.2 (by decide)), PW.at _ hW hK hN⟩ rfl rfl hl.1 rfl (lv_room (Nat.le_of_ble_eq_true rfl)) d_Mod_letter_20 ⟨hRc, hRs⟩) hS (fun q _ h => hF q h) hF (fun r2696 x2695 t H locs ht hvm hw hB hz1 hk1 hS => ?_)
    have hW := Wd.back hB ht hF
    clear hB ht hF hz1 hk1 hvm
    refine lv_istore (lv' := [(4, .int r2696), (0, .ref (ad 0)), (1, .int l1), (2, .int l2), (3, .int l3)]) hx hb d_Mod_letter_23 hl (by decide) rfl (fun ls hl => ?_)
    refine lv_iload_n hx hb d_Mod_letter_25 rfl (lv_at hl 4 rfl) ?_
    refine lv_if_lt (tgt := 40) hx hb d_Mod_letter_26 (by decide) (fun c2697 => ?_) (fun c2697 => ?_)
    · have hw := hw.1 c2697
      exact t_Mod_letter_40 hx hb hml hown hT hK hN hA hRc hRs hRf hRl hret  l1 l2 l3 r2696 x2695 H locs ls  hw hW hS (lv_sub hl [1, 2, 3, 4, 0] rfl)
    · have hw := hw.2 c2697
      refine lv_iload_n hx hb d_Mod_letter_29 rfl (lv_at hl 4 rfl) ?_
      refine lv_aload_n hx hb d_Mod_letter_30 rfl (lv_at hl 1 rfl) ?_
      refine w_getf (q := 56) (k := 91) (t := 12) (C := R_Mod) (T := F_Mod) (N := 167) hx hb hT hown hK hW ko_0.1 ko_0.2 (by decide) in_Mod rfl rfl (by decide) rfl fr_Mod_91 w_9_27 d_Mod_letter_31 rfl ?_
      refine lv_iload hx hb d_Mod_letter_34 (lv_at hl 0 rfl) ?_
      obtain ⟨hi, hw⟩ := hw
      refine w_iald (o := 56) hx hb hK hW ko_56.1 ko_56.2 hi d_Mod_letter_36 ?_
      refine lv_icmp_lt (tgt := 44) hx hb d_Mod_letter_37 (by decide) (fun c2698 => ?_) (fun c2698 => ?_)
      · have hw := hw.1 c2698
        refine lv_aload_n hx hb d_Mod_letter_44 rfl (lv_at hl 1 rfl) ?_
        refine w_getf (q := 57) (k := 92) (t := 12) (C := R_Mod) (T := F_Mod) (N := 167) hx hb hT hown hK hW ko_0.1 ko_0.2 (by decide) in_Mod rfl rfl (by decide) rfl fr_Mod_92 w_9_28 d_Mod_letter_45 rfl ?_
        refine lv_aload_n hx hb d_Mod_letter_48 rfl (lv_at hl 1 rfl) ?_
        refine w_getf (q := 55) (k := 90) (t := 12) (C := R_Mod) (T := F_Mod) (N := 167) hx hb hT hown hK hW ko_0.1 ko_0.2 (by decide) in_Mod rfl rfl (by decide) rfl fr_Mod_90 w_9_26 d_Mod_letter_49 rfl ?_
        refine lv_iload hx hb d_Mod_letter_52 (lv_at hl 0 rfl) ?_
        obtain ⟨hi, hw⟩ := hw
        refine w_iald (o := 55) hx hb hK hW ko_55.1 ko_55.2 hi d_Mod_letter_54 ?_
        refine lv_iload_n hx hb d_Mod_letter_55 rfl (lv_at hl 4 rfl) ?_
        refine lv_iadd hx hb d_Mod_letter_56 ?_
        obtain ⟨hi, hw⟩ := hw
        refine w_iald (o := 57) hx hb hK hW ko_57.1 ko_57.2 hi d_Mod_letter_57 ?_
        exact hret (rA x2695 57 ((rA x2695 55 r2696) + l3)) x2695 H locs 58 ls d_Mod_letter_58 hw hW hS
      · have hw := hw.2 c2698
        exact t_Mod_letter_40 hx hb hml hown hT hK hN hA hRc hRs hRf hRl hret  l1 l2 l3 r2696 x2695 H locs ls  hw hW hS (lv_sub hl [1, 2, 3, 4, 0] rfl)
  · have hw := hw.2 c2694
    refine lv_iconst (v := (-1)) hx hb d_Mod_letter_15 (by decide) ?_
    exact hret (-1) x2692 H locs 16 ls d_Mod_letter_16 hw hW hS
set_option maxHeartbeats 4000000 in
set_option maxRecDepth 100000 in
theorem k_Mod_letter (l : Launch) (dC : Nat → ClassId) (dI : Nat → Nat → Nat) (cI cB cJ cZ : ClassId) (ad : Nat → Nat) (sz : Nat) (l1 : Int32) (l2 : Int32) (l3 : Int32) (x : St) {post : Int32 → St → Prop} (hw : wp_Mod_letter post l1 l2 l3 x) : Met l y_Mod_letter (wsOf y_Mod_letter b_Mod_letter 5 (some (.int))) ({ frames := 4, cells := 0, slots := 0, locals := 93 }) (va_Pc [.ref (ad 0), .int l1, .int l2, .int l3] (PW dC dI cI cB cJ cZ ad stM kcM 115 sz x)) (va_Qi (fun (r : Int32) (y : St) => post r y) (fun y t => Wd dC dI cI cB cJ cZ ad stM kcM 115 (va_A (pic ad stM kcM 115 cI cB cJ cZ x) sz) y t.heap) (va_A (pic ad stM kcM 115 cI cB cJ cZ x) sz)) 0 0 (va_A (pic ad stM kcM 115 cI cB cJ cZ x) sz) := by
  refine Met.ofW (cc := b_Mod_letter) (maxL := 5) (ret := some (.int)) (by decide) rfl ?_
  intro p e s m args below meth c s₁ B hml hv
  obtain ⟨rfl, hsz, hW0, hK, hN⟩ := hv
  have hx := B.exec
  have hb := B.bytes
  have hr := B.returns
  have hts := atoms_spec B.pre
  have hT : ∀ w ∈ TG, w.before _ s = true := fun w h => hts w (List.mem_cons_of_mem _ h)
  have hown : s.vm.findClass R_Mod = some m.cls := findClass_of_methodNamed B.named
  have hlocks := B.notSynchronized
  subst hsz
  have hW : Wd dC dI cI cB cJ cZ ad stM kcM 115 (va_A (pic ad stM kcM 115 cI cB cJ cZ x) s.heap.size) x s.heap := ⟨hW0.1, hW0.2.1.self (sz := s.heap.size), hW0.2.2⟩
  generalize hAe : va_A (pic ad stM kcM 115 cI cB cJ cZ x) s.heap.size = A at hW ⊢
  have hA : ∀ q : Nat, s.heap.size ≤ q → A q := fun q h => by rw [← hAe]; exact Or.inr h
  have hS : va_S A s.heap s.heap [] := va_S.rf
  have hl := lv_entry ([.ref (ad 0), .int l1, .int l2, .int l3]) (n := 5) (Nat.le_of_ble_eq_true rfl)
  rw [lg_entry_eq]
  generalize (lg_sl ([.ref (ad 0), .int l1, .int l2, .int l3]) ++ List.replicate (5 - (lg_sl ([.ref (ad 0), .int l1, .int l2, .int l3])).length) Slot.unset).toArray = ls at hl ⊢
  have hl : lv_has ls 5 [(0, .ref (ad 0)), (1, .int l1), (2, .int l2), (3, .int l3)] := hl
  exact t_Mod_letter_e hx hb hml hown hT hK hN hA (Nat.le_refl 0) (Nat.le_refl 0) (Nat.le_refl 4) (Nat.le_refl 93) (fun r x H locs pc ls hd hp hW hS => W.iret (v := r) hx hb hr (fun t ht hM => ⟨⟨r, x, rfl, hp, Wd.back hW ht.symm (fun _ z => z)⟩, hS.F ht⟩) hS.2.2 hd hlocks)  l1 l2 l3 x _ _ ls  hw hW hS hl
set_option maxRecDepth 100000 in
set_option maxHeartbeats 4000000 in
set_option maxRecDepth 100000 in
theorem t_Mod_skipped_14 {p : Program} {l : Launch} {e : Env} {R : Room} {s : State} {m : MethodId} {args : Array Value} {below : List Frame} {meth : Method} {c : Code} {cells slots : Nat} {Q : State → Prop} {dC : Nat → ClassId} {dI : Nat → Nat → Nat} {cI cB cJ cZ : ClassId} {A : Nat → Prop} {ad : Nat → Nat} {post : Int32 → St → Prop} (hx : p.tables.exec = Jvm.exec) (hb : c.code = b_Mod_skipped) (hml : c.maxLocals = 2) (hown : s.vm.findClass R_Mod = some m.cls) (hT : ∀ w ∈ TG, w.before args s = true) (hK : va_K (dC, dI) CL (TY cI cB cJ cZ) s) (hN : NW s) (hA : ∀ q : Nat, s.heap.size ≤ q → A q) (hRc : cells ≤ R.cells) (hRs : slots ≤ R.slots) (hRf : 0 ≤ R.frames) (hRl : 0 ≤ R.locals) (hret : ∀ (r : Int32) (x : St) (H : Heap) (locs : List Loc) (pc : Nat) (ls : Array Slot), decode b_Mod_skipped pc = .ok (.ireturn, 1) → post r x → Wd dC dI cI cB cJ cZ ad stM kcM 115 A x H → va_S A s.heap H locs → W p l e R s m args below meth c H locs cells slots Q (F0 m pc ls [.int r]))  : ∀ (l1 : Int32) (x : St) (H : Heap) (locs : List Loc) (ls : Array Slot), j_Mod_skipped_14 post l1 x → Wd dC dI cI cB cJ cZ ad stM kcM 115 A x H → va_S A s.heap H locs → lv_has ls 2 [(0, .ref (ad 0)), (1, .int l1)] → W p l e R s m args below meth c H locs cells slots Q (F0 m 14 ls []) := by
  intro l1 x H locs ls  hw hW hS hl
  unfold j_Mod_skipped_14 at hw
  refine lv_iconst (v := (-1)) hx hb d_Mod_skipped_14 (by decide) ?_
  refine lv_goto (tgt := 44) hx hb d_Mod_skipped_15 (by decide) ?_
  exact hret (-1) x H locs 44 ls d_Mod_skipped_44 hw hW hS
set_option maxRecDepth 100000 in
set_option maxHeartbeats 4000000 in
set_option maxRecDepth 100000 in
theorem t_Mod_skipped_e {p : Program} {l : Launch} {e : Env} {R : Room} {s : State} {m : MethodId} {args : Array Value} {below : List Frame} {meth : Method} {c : Code} {cells slots : Nat} {Q : State → Prop} {dC : Nat → ClassId} {dI : Nat → Nat → Nat} {cI cB cJ cZ : ClassId} {A : Nat → Prop} {ad : Nat → Nat} {post : Int32 → St → Prop} (hx : p.tables.exec = Jvm.exec) (hb : c.code = b_Mod_skipped) (hml : c.maxLocals = 2) (hown : s.vm.findClass R_Mod = some m.cls) (hT : ∀ w ∈ TG, w.before args s = true) (hK : va_K (dC, dI) CL (TY cI cB cJ cZ) s) (hN : NW s) (hA : ∀ q : Nat, s.heap.size ≤ q → A q) (hRc : cells ≤ R.cells) (hRs : slots ≤ R.slots) (hRf : 0 ≤ R.frames) (hRl : 0 ≤ R.locals) (hret : ∀ (r : Int32) (x : St) (H : Heap) (locs : List Loc) (pc : Nat) (ls : Array Slot), decode b_Mod_skipped pc = .ok (.ireturn, 1) → post r x → Wd dC dI cI cB cJ cZ ad stM kcM 115 A x H → va_S A s.heap H locs → W p l e R s m args below meth c H locs cells slots Q (F0 m pc ls [.int r])) : ∀ (l1 : Int32) (x : St) (H : Heap) (locs : List Loc) (ls : Array Slot), wp_Mod_skipped post l1 x → Wd dC dI cI cB cJ cZ ad stM kcM 115 A x H → va_S A s.heap H locs → lv_has ls 2 [(0, .ref (ad 0)), (1, .int l1)] → W p l e R s m args below meth c H locs cells slots Q (F0 m 0 ls []) := by
  intro l1 x H locs ls  hw hW hS hl
  unfold wp_Mod_skipped at hw
  refine lv_aload_n hx hb d_Mod_skipped_0 rfl (lv_at hl 0 rfl) ?_
  refine lv_iconst (v := 0) hx hb d_Mod_skipped_1 (by decide) ?_
  refine w_puti (ty := .int) (k := 0) (t := 12) (C := R_Mod) (T := F_Mod) (N := 167) hx hb hT hown hK hW hS ko_0.1 ko_0.2 (by decide) in_Mod t_Mod t_Mod_ok n_Mod rfl rfl (by decide) rfl fr_Mod_0 w_8_176 (by decide +kernel) rfl rfl d_Mod_skipped_2 (fun H locs hW hS => ?_)
  obtain ⟨x2699, ex2699⟩ : ∃ y : St, y = setI x 0 0 0 := ⟨_, rfl⟩
  rw [← ex2699] at hW
  have hw := hw x2699 ex2699
  refine lv_iload_n hx hb d_Mod_skipped_5 rfl (lv_at hl 1 rfl) ?_
  refine lv_if_lt (tgt := 14) hx hb d_Mod_skipped_6 (by decide) (fun c2700 => ?_) (fun c2700 => ?_)
  · have hw := hw.1 c2700
    exact t_Mod_skipped_14 hx hb hml hown hT hK hN hA hRc hRs hRf hRl hret  l1 x2699 H locs ls  hw hW hS (lv_sub hl [0, 1] rfl)
  · have hw := hw.2 c2700
    refine lv_iload_n hx hb d_Mod_skipped_9 rfl (lv_at hl 1 rfl) ?_
    refine lv_iconst (v := 1) hx hb d_Mod_skipped_10 (by decide) ?_
    refine lv_icmp_le (tgt := 18) hx hb d_Mod_skipped_11 (by decide) (fun c2701 => ?_) (fun c2701 => ?_)
    · have hw := hw.1 c2701
      refine lv_aload_n hx hb d_Mod_skipped_18 rfl (lv_at hl 0 rfl) ?_
      refine w_geti (k := 121) (t := 12) (C := R_Mod) (T := F_Mod) (N := 167) hx hb hT hown hK hW ko_0.1 ko_0.2 (by decide) in_Mod rfl rfl (by decide) rfl fr_Mod_121 w_9_57 d_Mod_skipped_19 ?_
      refine lv_if_ne (tgt := 29) hx hb d_Mod_skipped_22 (by decide) (fun c2702 => ?_) (fun c2702 => ?_)
      · have hw := hw.1 c2702
        refine lv_iload_n hx hb d_Mod_skipped_29 rfl (lv_at hl 1 rfl) ?_
        refine lv_if_ne (tgt := 40) hx hb d_Mod_skipped_30 (by decide) (fun c2703 => ?_) (fun c2703 => ?_)
        · have hw := hw.1 c2703
          refine lv_aload_n hx hb d_Mod_skipped_40 rfl (lv_at hl 0 rfl) ?_
          refine w_geti (k := 164) (t := 12) (C := R_Mod) (T := F_Mod) (N := 167) hx hb hT hown hK hW ko_0.1 ko_0.2 (by decide) in_Mod rfl rfl (by decide) rfl fr_Mod_164 w_9_100 d_Mod_skipped_41 ?_
          exact hret (fI x2699 0 164) x2699 H locs 44 ls d_Mod_skipped_44 hw hW hS
        · have hw := hw.2 c2703
          refine lv_aload_n hx hb d_Mod_skipped_33 rfl (lv_at hl 0 rfl) ?_
          refine w_geti (k := 163) (t := 12) (C := R_Mod) (T := F_Mod) (N := 167) hx hb hT hown hK hW ko_0.1 ko_0.2 (by decide) in_Mod rfl rfl (by decide) rfl fr_Mod_163 w_9_99 d_Mod_skipped_34 ?_
          refine lv_goto (tgt := 44) hx hb d_Mod_skipped_37 (by decide) ?_
          exact hret (fI x2699 0 163) x2699 H locs 44 ls d_Mod_skipped_44 hw hW hS
      · have hw := hw.2 c2702
        refine lv_iconst (v := 0) hx hb d_Mod_skipped_25 (by decide) ?_
        refine lv_goto (tgt := 44) hx hb d_Mod_skipped_26 (by decide) ?_
        exact hret 0 x2699 H locs 44 ls d_Mod_skipped_44 hw hW hS
    · have hw := hw.2 c2701
      exact t_Mod_skipped_14 hx hb hml hown hT hK hN hA hRc hRs hRf hRl hret  l1 x2699 H locs ls  hw hW hS (lv_sub hl [0, 1] rfl)
set_option maxHeartbeats 4000000 in
set_option maxRecDepth 100000 in
theorem k_Mod_skipped (l : Launch) (dC : Nat → ClassId) (dI : Nat → Nat → Nat) (cI cB cJ cZ : ClassId) (ad : Nat → Nat) (sz : Nat) (l1 : Int32) (x : St) {post : Int32 → St → Prop} (hw : wp_Mod_skipped post l1 x) : Met l y_Mod_skipped (wsOf y_Mod_skipped b_Mod_skipped 2 (some (.int))) ({ frames := 0, cells := 0, slots := 0, locals := 0 }) (va_Pc [.ref (ad 0), .int l1] (PW dC dI cI cB cJ cZ ad stM kcM 115 sz x)) (va_Qi (fun (r : Int32) (y : St) => post r y) (fun y t => Wd dC dI cI cB cJ cZ ad stM kcM 115 (va_A (pic ad stM kcM 115 cI cB cJ cZ x) sz) y t.heap) (va_A (pic ad stM kcM 115 cI cB cJ cZ x) sz)) 0 0 (va_A (pic ad stM kcM 115 cI cB cJ cZ x) sz) := by
  refine Met.ofW (cc := b_Mod_skipped) (maxL := 2) (ret := some (.int)) (by decide) rfl ?_
  intro p e s m args below meth c s₁ B hml hv
  obtain ⟨rfl, hsz, hW0, hK, hN⟩ := hv
  have hx := B.exec
  have hb := B.bytes
  have hr := B.returns
  have hts := atoms_spec B.pre
  have hT : ∀ w ∈ TG, w.before _ s = true := fun w h => hts w (List.mem_cons_of_mem _ h)
  have hown : s.vm.findClass R_Mod = some m.cls := findClass_of_methodNamed B.named
  have hlocks := B.notSynchronized
  subst hsz
  have hW : Wd dC dI cI cB cJ cZ ad stM kcM 115 (va_A (pic ad stM kcM 115 cI cB cJ cZ x) s.heap.size) x s.heap := ⟨hW0.1, hW0.2.1.self (sz := s.heap.size), hW0.2.2⟩
  generalize hAe : va_A (pic ad stM kcM 115 cI cB cJ cZ x) s.heap.size = A at hW ⊢
  have hA : ∀ q : Nat, s.heap.size ≤ q → A q := fun q h => by rw [← hAe]; exact Or.inr h
  have hS : va_S A s.heap s.heap [] := va_S.rf
  have hl := lv_entry ([.ref (ad 0), .int l1]) (n := 2) (Nat.le_of_ble_eq_true rfl)
  rw [lg_entry_eq]
  generalize (lg_sl ([.ref (ad 0), .int l1]) ++ List.replicate (2 - (lg_sl ([.ref (ad 0), .int l1])).length) Slot.unset).toArray = ls at hl ⊢
  have hl : lv_has ls 2 [(0, .ref (ad 0)), (1, .int l1)] := hl
  exact t_Mod_skipped_e hx hb hml hown hT hK hN hA (Nat.le_refl 0) (Nat.le_refl 0) (Nat.le_refl 0) (Nat.le_refl 0) (fun r x H locs pc ls hd hp hW hS => W.iret (v := r) hx hb hr (fun t ht hM => ⟨⟨r, x, rfl, hp, Wd.back hW ht.symm (fun _ z => z)⟩, hS.F ht⟩) hS.2.2 hd hlocks)  l1 x _ _ ls  hw hW hS hl
end
