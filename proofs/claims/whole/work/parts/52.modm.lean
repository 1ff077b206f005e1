theorem w_12_16 : (Jvm.Cond.methodLink "StripedVaultModel" (638 : Nat) ({ cls := "StripedVaultModel", name := "inCommon", desc := "(I)I" } : Jvm.MethodName)) ∈ TG := tw_12 16 (by decide +kernel) (by decide +kernel)
theorem w_12_18 : (Jvm.Cond.instanceMethod ({ cls := "StripedVaultModel", name := "inCommon", desc := "(I)I" } : Jvm.MethodName)) ∈ TG := tw_12 18 (by decide +kernel) (by decide +kernel)
theorem w_12_19 : (Jvm.Cond.code ({ cls := "StripedVaultModel", name := "inCommon", desc := "(I)I" } : Jvm.MethodName) prog_14_method_73_code (3 : Nat) (Option.some Jvm.ClassFile.FieldType.int)) ∈ TG := tw_12 19 (by decide +kernel) (by decide +kernel)
theorem w_12_24 : (Jvm.Cond.methodLink "StripedVaultModel" (641 : Nat) ({ cls := "StripedVaultModel", name := "firstLike", desc := "(I)I" } : Jvm.MethodName)) ∈ TG := tw_12 24 (by decide +kernel) (by decide +kernel)
theorem w_12_26 : (Jvm.Cond.instanceMethod ({ cls := "StripedVaultModel", name := "firstLike", desc := "(I)I" } : Jvm.MethodName)) ∈ TG := tw_12 26 (by decide +kernel) (by decide +kernel)
theorem w_12_27 : (Jvm.Cond.code ({ cls := "StripedVaultModel", name := "firstLike", desc := "(I)I" } : Jvm.MethodName) prog_14_method_70_code (3 : Nat) (Option.some Jvm.ClassFile.FieldType.int)) ∈ TG := tw_12 27 (by decide +kernel) (by decide +kernel)
theorem w_12_28 : (Jvm.Cond.methodLink "StripedVaultModel" (629 : Nat) ({ cls := "StripedVaultModel", name := "sameText", desc := "(II)Z" } : Jvm.MethodName)) ∈ TG := tw_12 28 (by decide +kernel) (by decide +kernel)
theorem w_12_30 : (Jvm.Cond.instanceMethod ({ cls := "StripedVaultModel", name := "sameText", desc := "(II)Z" } : Jvm.MethodName)) ∈ TG := tw_12 30 (by decide +kernel) (by decide +kernel)
theorem w_12_31 : (Jvm.Cond.code ({ cls := "StripedVaultModel", name := "sameText", desc := "(II)Z" } : Jvm.MethodName) prog_14_method_69_code (5 : Nat) (Option.some Jvm.ClassFile.FieldType.boolean)) ∈ TG := tw_12 31 (by decide +kernel) (by decide +kernel)
theorem w_12_32 : (Jvm.Cond.methodLink "StripedVaultModel" (644 : Nat) ({ cls := "StripedVaultModel", name := "putText", desc := "(I)V" } : Jvm.MethodName)) ∈ TG := tw_12 32 (by decide +kernel) (by decide +kernel)
theorem w_12_34 : (Jvm.Cond.instanceMethod ({ cls := "StripedVaultModel", name := "putText", desc := "(I)V" } : Jvm.MethodName)) ∈ TG := tw_12 34 (by decide +kernel) (by decide +kernel)
theorem w_12_35 : (Jvm.Cond.code ({ cls := "StripedVaultModel", name := "putText", desc := "(I)V" } : Jvm.MethodName) prog_14_method_71_code (3 : Nat) (Option.none : Option Jvm.ClassFile.FieldType)) ∈ TG := tw_12 35 (by decide +kernel) (by decide +kernel)
theorem ws_167 : Cond.selects R_Mod y_Mod_inCommon y_Mod_inCommon ∈ TG := tw_s 167 (by decide +kernel) (by decide +kernel)
theorem ws_169 : Cond.selects R_Mod y_Mod_firstLike y_Mod_firstLike ∈ TG := tw_s 169 (by decide +kernel) (by decide +kernel)
theorem ws_170 : Cond.selects R_Mod y_Mod_sameText y_Mod_sameText ∈ TG := tw_s 170 (by decide +kernel) (by decide +kernel)
theorem ws_171 : Cond.selects R_Mod y_Mod_putText y_Mod_putText ∈ TG := tw_s 171 (by decide +kernel) (by decide +kernel)
theorem d_Mod_writeFront_101 : decode b_Mod_writeFront 101 = .ok (.iload_n 2, 1) := by decide +kernel
theorem d_Mod_writeFront_102 : decode b_Mod_writeFront 102 = .ok (.aload_n 0, 1) := by decide +kernel
theorem d_Mod_writeFront_103 : decode b_Mod_writeFront 103 = .ok (.getfield 109, 3) := by decide +kernel
theorem d_Mod_writeFront_106 : decode b_Mod_writeFront 106 = .ok (.iload_n 1, 1) := by decide +kernel
theorem d_Mod_writeFront_107 : decode b_Mod_writeFront 107 = .ok (.iconst 1, 1) := by decide +kernel
theorem d_Mod_writeFront_108 : decode b_Mod_writeFront 108 = .ok (.iadd, 1) := by decide +kernel
theorem d_Mod_writeFront_109 : decode b_Mod_writeFront 109 = .ok (.iaload, 1) := by decide +kernel
theorem d_Mod_writeFront_110 : decode b_Mod_writeFront 110 = .ok (.if_icmp .ge 19, 3) := by decide +kernel
theorem d_Mod_writeFront_129 : decode b_Mod_writeFront 129 = .ok (.iinc 1 1, 3) := by decide +kernel
theorem d_Mod_writeFront_132 : decode b_Mod_writeFront 132 = .ok (.goto (-52), 3) := by decide +kernel
theorem d_Mod_writeFront_113 : decode b_Mod_writeFront 113 = .ok (.aload_n 0, 1) := by decide +kernel
theorem d_Mod_writeFront_114 : decode b_Mod_writeFront 114 = .ok (.aload_n 0, 1) := by decide +kernel
theorem d_Mod_writeFront_115 : decode b_Mod_writeFront 115 = .ok (.getfield 118, 3) := by decide +kernel
theorem d_Mod_writeFront_118 : decode b_Mod_writeFront 118 = .ok (.iload_n 2, 1) := by decide +kernel
theorem d_Mod_writeFront_119 : decode b_Mod_writeFront 119 = .ok (.iaload, 1) := by decide +kernel
theorem d_Mod_writeFront_120 : decode b_Mod_writeFront 120 = .ok (.invokevirtual 558, 3) := by decide +kernel
theorem d_Mod_writeFront_123 : decode b_Mod_writeFront 123 = .ok (.iinc 2 1, 3) := by decide +kernel
theorem d_Mod_writeFront_126 : decode b_Mod_writeFront 126 = .ok (.goto (-25), 3) := by decide +kernel
theorem d_Mod_writeFront_80 : decode b_Mod_writeFront 80 = .ok (.iload_n 1, 1) := by decide +kernel
theorem d_Mod_writeFront_81 : decode b_Mod_writeFront 81 = .ok (.aload_n 0, 1) := by decide +kernel
theorem d_Mod_writeFront_82 : decode b_Mod_writeFront 82 = .ok (.getfield 632, 3) := by decide +kernel
theorem d_Mod_writeFront_85 : decode b_Mod_writeFront 85 = .ok (.if_icmp .ge 50, 3) := by decide +kernel
theorem d_Mod_writeFront_135 : decode b_Mod_writeFront 135 = .ok (.return_, 1) := by decide +kernel
theorem d_Mod_writeFront_88 : decode b_Mod_writeFront 88 = .ok (.aload_n 0, 1) := by decide +kernel
theorem d_Mod_writeFront_89 : decode b_Mod_writeFront 89 = .ok (.getfield 109, 3) := by decide +kernel
theorem d_Mod_writeFront_92 : decode b_Mod_writeFront 92 = .ok (.iload_n 1, 1) := by decide +kernel
theorem d_Mod_writeFront_93 : decode b_Mod_writeFront 93 = .ok (.iaload, 1) := by decide +kernel
theorem d_Mod_writeFront_94 : decode b_Mod_writeFront 94 = .ok (.aload_n 0, 1) := by decide +kernel
theorem d_Mod_writeFront_95 : decode b_Mod_writeFront 95 = .ok (.iload_n 1, 1) := by decide +kernel
theorem d_Mod_writeFront_96 : decode b_Mod_writeFront 96 = .ok (.invokevirtual 638, 3) := by decide +kernel
theorem d_Mod_writeFront_99 : decode b_Mod_writeFront 99 = .ok (.iadd, 1) := by decide +kernel
theorem d_Mod_writeFront_100 : decode b_Mod_writeFront 100 = .ok (.istore_n 2, 1) := by decide +kernel
theorem d_Mod_writeFront_42 : decode b_Mod_writeFront 42 = .ok (.iload_n 1, 1) := by decide +kernel
theorem d_Mod_writeFront_43 : decode b_Mod_writeFront 43 = .ok (.aload_n 0, 1) := by decide +kernel
theorem d_Mod_writeFront_44 : decode b_Mod_writeFront 44 = .ok (.getfield 632, 3) := by decide +kernel
theorem d_Mod_writeFront_47 : decode b_Mod_writeFront 47 = .ok (.if_icmp .ge 27, 3) := by decide +kernel
theorem d_Mod_writeFront_74 : decode b_Mod_writeFront 74 = .ok (.aload_n 0, 1) := by decide +kernel
theorem d_Mod_writeFront_75 : decode b_Mod_writeFront 75 = .ok (.invokevirtual 635, 3) := by decide +kernel
theorem d_Mod_writeFront_78 : decode b_Mod_writeFront 78 = .ok (.iconst 0, 1) := by decide +kernel
theorem d_Mod_writeFront_79 : decode b_Mod_writeFront 79 = .ok (.istore_n 1, 1) := by decide +kernel
theorem d_Mod_writeFront_50 : decode b_Mod_writeFront 50 = .ok (.aload_n 0, 1) := by decide +kernel
theorem d_Mod_writeFront_51 : decode b_Mod_writeFront 51 = .ok (.getfield 139, 3) := by decide +kernel
theorem d_Mod_writeFront_54 : decode b_Mod_writeFront 54 = .ok (.iload_n 1, 1) := by decide +kernel
theorem d_Mod_writeFront_55 : decode b_Mod_writeFront 55 = .ok (.aload_n 0, 1) := by decide +kernel
theorem d_Mod_writeFront_56 : decode b_Mod_writeFront 56 = .ok (.iload_n 1, 1) := by decide +kernel
theorem d_Mod_writeFront_57 : decode b_Mod_writeFront 57 = .ok (.invokevirtual 626, 3) := by decide +kernel
theorem d_Mod_writeFront_60 : decode b_Mod_writeFront 60 = .ok (.aload_n 0, 1) := by decide +kernel
theorem d_Mod_writeFront_61 : decode b_Mod_writeFront 61 = .ok (.iload_n 1, 1) := by decide +kernel
theorem d_Mod_writeFront_62 : decode b_Mod_writeFront 62 = .ok (.invokevirtual 638, 3) := by decide +kernel
theorem d_Mod_writeFront_65 : decode b_Mod_writeFront 65 = .ok (.isub, 1) := by decide +kernel
theorem d_Mod_writeFront_66 : decode b_Mod_writeFront 66 = .ok (.i2l, 1) := by decide +kernel
theorem d_Mod_writeFront_67 : decode b_Mod_writeFront 67 = .ok (.lastore, 1) := by decide +kernel
theorem d_Mod_writeFront_68 : decode b_Mod_writeFront 68 = .ok (.iinc 1 1, 3) := by decide +kernel
theorem d_Mod_writeFront_71 : decode b_Mod_writeFront 71 = .ok (.goto (-29), 3) := by decide +kernel
theorem d_Mod_writeFront_10 : decode b_Mod_writeFront 10 = .ok (.iload_n 1, 1) := by decide +kernel
theorem d_Mod_writeFront_11 : decode b_Mod_writeFront 11 = .ok (.aload_n 0, 1) := by decide +kernel
theorem d_Mod_writeFront_12 : decode b_Mod_writeFront 12 = .ok (.getfield 632, 3) := by decide +kernel
theorem d_Mod_writeFront_15 : decode b_Mod_writeFront 15 = .ok (.if_icmp .ge 21, 3) := by decide +kernel
theorem d_Mod_writeFront_36 : decode b_Mod_writeFront 36 = .ok (.aload_n 0, 1) := by decide +kernel
theorem d_Mod_writeFront_37 : decode b_Mod_writeFront 37 = .ok (.invokevirtual 635, 3) := by decide +kernel
theorem d_Mod_writeFront_40 : decode b_Mod_writeFront 40 = .ok (.iconst 0, 1) := by decide +kernel
theorem d_Mod_writeFront_41 : decode b_Mod_writeFront 41 = .ok (.istore_n 1, 1) := by decide +kernel
theorem d_Mod_writeFront_18 : decode b_Mod_writeFront 18 = .ok (.aload_n 0, 1) := by decide +kernel
theorem d_Mod_writeFront_19 : decode b_Mod_writeFront 19 = .ok (.getfield 139, 3) := by decide +kernel
theorem d_Mod_writeFront_22 : decode b_Mod_writeFront 22 = .ok (.iload_n 1, 1) := by decide +kernel
theorem d_Mod_writeFront_23 : decode b_Mod_writeFront 23 = .ok (.aload_n 0, 1) := by decide +kernel
theorem d_Mod_writeFront_24 : decode b_Mod_writeFront 24 = .ok (.iload_n 1, 1) := by decide +kernel
theorem d_Mod_writeFront_25 : decode b_Mod_writeFront 25 = .ok (.invokevirtual 638, 3) := by decide +kernel
theorem d_Mod_writeFront_28 : decode b_Mod_writeFront 28 = .ok (.i2l, 1) := by decide +kernel
theorem d_Mod_writeFront_29 : decode b_Mod_writeFront 29 = .ok (.lastore, 1) := by decide +kernel
theorem d_Mod_writeFront_30 : decode b_Mod_writeFront 30 = .ok (.iinc 1 1, 3) := by decide +kernel
theorem d_Mod_writeFront_33 : decode b_Mod_writeFront 33 = .ok (.goto (-23), 3) := by decide +kernel
theorem d_Mod_writeFront_0 : decode b_Mod_writeFront 0 = .ok (.aload_n 0, 1) := by decide +kernel
theorem d_Mod_writeFront_1 : decode b_Mod_writeFront 1 = .ok (.aload_n 0, 1) := by decide +kernel
theorem d_Mod_writeFront_2 : decode b_Mod_writeFront 2 = .ok (.getfield 632, 3) := by decide +kernel
theorem d_Mod_writeFront_5 : decode b_Mod_writeFront 5 = .ok (.putfield 591, 3) := by decide +kernel
theorem d_Mod_writeFront_8 : decode b_Mod_writeFront 8 = .ok (.iconst 0, 1) := by decide +kernel
theorem d_Mod_writeFront_9 : decode b_Mod_writeFront 9 = .ok (.istore_n 1, 1) := by decide +kernel
theorem d_Mod_sameText_79 : decode b_Mod_sameText 79 = .ok (.iload_n 3, 1) := by decide +kernel
theorem d_Mod_sameText_80 : decode b_Mod_sameText 80 = .ok (.ireturn, 1) := by decide +kernel
theorem d_Mod_sameText_72 : decode b_Mod_sameText 72 = .ok (.istore_n 3, 1) := by decide +kernel
theorem d_Mod_sameText_73 : decode b_Mod_sameText 73 = .ok (.iinc 4 1, 3) := by decide +kernel
theorem d_Mod_sameText_76 : decode b_Mod_sameText 76 = .ok (.goto (-54), 3) := by decide +kernel
theorem d_Mod_sameText_22 : decode b_Mod_sameText 22 = .ok (.iload_n 3, 1) := by decide +kernel
theorem d_Mod_sameText_23 : decode b_Mod_sameText 23 = .ok (.ifCond .eq 56, 3) := by decide +kernel
theorem d_Mod_sameText_26 : decode b_Mod_sameText 26 = .ok (.iload 4, 2) := by decide +kernel
theorem d_Mod_sameText_28 : decode b_Mod_sameText 28 = .ok (.aload_n 0, 1) := by decide +kernel
theorem d_Mod_sameText_29 : decode b_Mod_sameText 29 = .ok (.iload_n 2, 1) := by decide +kernel
theorem d_Mod_sameText_30 : decode b_Mod_sameText 30 = .ok (.invokevirtual 626, 3) := by decide +kernel
theorem d_Mod_sameText_33 : decode b_Mod_sameText 33 = .ok (.if_icmp .ge 46, 3) := by decide +kernel
theorem d_Mod_sameText_36 : decode b_Mod_sameText 36 = .ok (.aload_n 0, 1) := by decide +kernel
theorem d_Mod_sameText_37 : decode b_Mod_sameText 37 = .ok (.getfield 118, 3) := by decide +kernel
theorem d_Mod_sameText_40 : decode b_Mod_sameText 40 = .ok (.aload_n 0, 1) := by decide +kernel
theorem d_Mod_sameText_41 : decode b_Mod_sameText 41 = .ok (.getfield 109, 3) := by decide +kernel
theorem d_Mod_sameText_44 : decode b_Mod_sameText 44 = .ok (.iload_n 1, 1) := by decide +kernel
theorem d_Mod_sameText_45 : decode b_Mod_sameText 45 = .ok (.iaload, 1) := by decide +kernel
theorem d_Mod_sameText_46 : decode b_Mod_sameText 46 = .ok (.iload 4, 2) := by decide +kernel
theorem d_Mod_sameText_48 : decode b_Mod_sameText 48 = .ok (.iadd, 1) := by decide +kernel
theorem d_Mod_sameText_49 : decode b_Mod_sameText 49 = .ok (.iaload, 1) := by decide +kernel
theorem d_Mod_sameText_50 : decode b_Mod_sameText 50 = .ok (.aload_n 0, 1) := by decide +kernel
theorem d_Mod_sameText_51 : decode b_Mod_sameText 51 = .ok (.getfield 118, 3) := by decide +kernel
theorem d_Mod_sameText_54 : decode b_Mod_sameText 54 = .ok (.aload_n 0, 1) := by decide +kernel
theorem d_Mod_sameText_55 : decode b_Mod_sameText 55 = .ok (.getfield 109, 3) := by decide +kernel
theorem d_Mod_sameText_58 : decode b_Mod_sameText 58 = .ok (.iload_n 2, 1) := by decide +kernel
theorem d_Mod_sameText_59 : decode b_Mod_sameText 59 = .ok (.iaload, 1) := by decide +kernel
theorem d_Mod_sameText_60 : decode b_Mod_sameText 60 = .ok (.iload 4, 2) := by decide +kernel
theorem d_Mod_sameText_62 : decode b_Mod_sameText 62 = .ok (.iadd, 1) := by decide +kernel
theorem d_Mod_sameText_63 : decode b_Mod_sameText 63 = .ok (.iaload, 1) := by decide +kernel
theorem d_Mod_sameText_64 : decode b_Mod_sameText 64 = .ok (.if_icmp .ne 7, 3) := by decide +kernel
theorem d_Mod_sameText_71 : decode b_Mod_sameText 71 = .ok (.iconst 0, 1) := by decide +kernel
theorem d_Mod_sameText_67 : decode b_Mod_sameText 67 = .ok (.iconst 1, 1) := by decide +kernel
theorem d_Mod_sameText_68 : decode b_Mod_sameText 68 = .ok (.goto 4, 3) := by decide +kernel
theorem d_Mod_sameText_18 : decode b_Mod_sameText 18 = .ok (.istore_n 3, 1) := by decide +kernel
theorem d_Mod_sameText_19 : decode b_Mod_sameText 19 = .ok (.iconst 0, 1) := by decide +kernel
theorem d_Mod_sameText_20 : decode b_Mod_sameText 20 = .ok (.istore 4, 2) := by decide +kernel
theorem d_Mod_sameText_0 : decode b_Mod_sameText 0 = .ok (.aload_n 0, 1) := by decide +kernel
theorem d_Mod_sameText_1 : decode b_Mod_sameText 1 = .ok (.iload_n 1, 1) := by decide +kernel
theorem d_Mod_sameText_2 : decode b_Mod_sameText 2 = .ok (.invokevirtual 626, 3) := by decide +kernel
theorem d_Mod_sameText_5 : decode b_Mod_sameText 5 = .ok (.aload_n 0, 1) := by decide +kernel
theorem d_Mod_sameText_6 : decode b_Mod_sameText 6 = .ok (.iload_n 2, 1) := by decide +kernel
theorem d_Mod_sameText_7 : decode b_Mod_sameText 7 = .ok (.invokevirtual 626, 3) := by decide +kernel
theorem d_Mod_sameText_10 : decode b_Mod_sameText 10 = .ok (.if_icmp .ne 7, 3) := by decide +kernel
theorem d_Mod_sameText_17 : decode b_Mod_sameText 17 = .ok (.iconst 0, 1) := by decide +kernel
theorem d_Mod_sameText_13 : decode b_Mod_sameText 13 = .ok (.iconst 1, 1) := by decide +kernel
theorem d_Mod_sameText_14 : decode b_Mod_sameText 14 = .ok (.goto 4, 3) := by decide +kernel
theorem d_Mod_firstLike_2 : decode b_Mod_firstLike 2 = .ok (.aload_n 0, 1) := by decide +kernel
theorem d_Mod_firstLike_3 : decode b_Mod_firstLike 3 = .ok (.iload_n 2, 1) := by decide +kernel
theorem d_Mod_firstLike_4 : decode b_Mod_firstLike 4 = .ok (.iload_n 1, 1) := by decide +kernel
theorem d_Mod_firstLike_5 : decode b_Mod_firstLike 5 = .ok (.invokevirtual 629, 3) := by decide +kernel
theorem d_Mod_firstLike_8 : decode b_Mod_firstLike 8 = .ok (.ifCond .ne 9, 3) := by decide +kernel
theorem d_Mod_firstLike_17 : decode b_Mod_firstLike 17 = .ok (.iload_n 2, 1) := by decide +kernel
theorem d_Mod_firstLike_18 : decode b_Mod_firstLike 18 = .ok (.ireturn, 1) := by decide +kernel
theorem d_Mod_firstLike_11 : decode b_Mod_firstLike 11 = .ok (.iinc 2 1, 3) := by decide +kernel
theorem d_Mod_firstLike_14 : decode b_Mod_firstLike 14 = .ok (.goto (-12), 3) := by decide +kernel
theorem d_Mod_firstLike_0 : decode b_Mod_firstLike 0 = .ok (.iconst 0, 1) := by decide +kernel
theorem d_Mod_firstLike_1 : decode b_Mod_firstLike 1 = .ok (.istore_n 2, 1) := by decide +kernel
theorem d_Mod_putText_17 : decode b_Mod_putText 17 = .ok (.iload_n 2, 1) := by decide +kernel
theorem d_Mod_putText_18 : decode b_Mod_putText 18 = .ok (.aload_n 0, 1) := by decide +kernel
theorem d_Mod_putText_19 : decode b_Mod_putText 19 = .ok (.getfield 109, 3) := by decide +kernel
theorem d_Mod_putText_22 : decode b_Mod_putText 22 = .ok (.iload_n 1, 1) := by decide +kernel
theorem d_Mod_putText_23 : decode b_Mod_putText 23 = .ok (.iconst 1, 1) := by decide +kernel
theorem d_Mod_putText_24 : decode b_Mod_putText 24 = .ok (.iadd, 1) := by decide +kernel
theorem d_Mod_putText_25 : decode b_Mod_putText 25 = .ok (.iaload, 1) := by decide +kernel
theorem d_Mod_putText_26 : decode b_Mod_putText 26 = .ok (.if_icmp .ge 19, 3) := by decide +kernel
theorem d_Mod_putText_45 : decode b_Mod_putText 45 = .ok (.return_, 1) := by decide +kernel
theorem d_Mod_putText_29 : decode b_Mod_putText 29 = .ok (.aload_n 0, 1) := by decide +kernel
theorem d_Mod_putText_30 : decode b_Mod_putText 30 = .ok (.aload_n 0, 1) := by decide +kernel
theorem d_Mod_putText_31 : decode b_Mod_putText 31 = .ok (.getfield 118, 3) := by decide +kernel
theorem d_Mod_putText_34 : decode b_Mod_putText 34 = .ok (.iload_n 2, 1) := by decide +kernel
theorem d_Mod_putText_35 : decode b_Mod_putText 35 = .ok (.iaload, 1) := by decide +kernel
theorem d_Mod_putText_36 : decode b_Mod_putText 36 = .ok (.invokevirtual 558, 3) := by decide +kernel
theorem d_Mod_putText_39 : decode b_Mod_putText 39 = .ok (.iinc 2 1, 3) := by decide +kernel
theorem d_Mod_putText_42 : decode b_Mod_putText 42 = .ok (.goto (-25), 3) := by decide +kernel
theorem d_Mod_putText_0 : decode b_Mod_putText 0 = .ok (.aload_n 0, 1) := by decide +kernel
theorem d_Mod_putText_1 : decode b_Mod_putText 1 = .ok (.aload_n 0, 1) := by decide +kernel
theorem d_Mod_putText_2 : decode b_Mod_putText 2 = .ok (.iload_n 1, 1) := by decide +kernel
theorem d_Mod_putText_3 : decode b_Mod_putText 3 = .ok (.invokevirtual 626, 3) := by decide +kernel
theorem d_Mod_putText_6 : decode b_Mod_putText 6 = .ok (.i2l, 1) := by decide +kernel
theorem d_Mod_putText_7 : decode b_Mod_putText 7 = .ok (.invokevirtual 567, 3) := by decide +kernel
theorem d_Mod_putText_10 : decode b_Mod_putText 10 = .ok (.aload_n 0, 1) := by decide +kernel
theorem d_Mod_putText_11 : decode b_Mod_putText 11 = .ok (.getfield 109, 3) := by decide +kernel
theorem d_Mod_putText_14 : decode b_Mod_putText 14 = .ok (.iload_n 1, 1) := by decide +kernel
theorem d_Mod_putText_15 : decode b_Mod_putText 15 = .ok (.iaload, 1) := by decide +kernel
theorem d_Mod_putText_16 : decode b_Mod_putText 16 = .ok (.istore_n 2, 1) := by decide +kernel
theorem d_Mod_writeDictionary_96 : decode b_Mod_writeDictionary 96 = .ok (.iload_n 1, 1) := by decide +kernel
theorem d_Mod_writeDictionary_97 : decode b_Mod_writeDictionary 97 = .ok (.iconst 1, 1) := by decide +kernel
theorem d_Mod_writeDictionary_98 : decode b_Mod_writeDictionary 98 = .ok (.isub, 1) := by decide +kernel
theorem d_Mod_writeDictionary_99 : decode b_Mod_writeDictionary 99 = .ok (.iload_n 2, 1) := by decide +kernel
theorem d_Mod_writeDictionary_100 : decode b_Mod_writeDictionary 100 = .ok (.ishr, 1) := by decide +kernel
theorem d_Mod_writeDictionary_101 : decode b_Mod_writeDictionary 101 = .ok (.ifCond .le 9, 3) := by decide +kernel
theorem d_Mod_writeDictionary_110 : decode b_Mod_writeDictionary 110 = .ok (.aload_n 0, 1) := by decide +kernel
theorem d_Mod_writeDictionary_111 : decode b_Mod_writeDictionary 111 = .ok (.iload_n 2, 1) := by decide +kernel
theorem d_Mod_writeDictionary_112 : decode b_Mod_writeDictionary 112 = .ok (.invokevirtual 558, 3) := by decide +kernel
theorem d_Mod_writeDictionary_115 : decode b_Mod_writeDictionary 115 = .ok (.aload_n 0, 1) := by decide +kernel
theorem d_Mod_writeDictionary_116 : decode b_Mod_writeDictionary 116 = .ok (.aload_n 0, 1) := by decide +kernel
theorem d_Mod_writeDictionary_117 : decode b_Mod_writeDictionary 117 = .ok (.getfield 142, 3) := by decide +kernel
theorem d_Mod_writeDictionary_120 : decode b_Mod_writeDictionary 120 = .ok (.aload_n 0, 1) := by decide +kernel
theorem d_Mod_writeDictionary_121 : decode b_Mod_writeDictionary 121 = .ok (.getfield 632, 3) := by decide +kernel
theorem d_Mod_writeDictionary_124 : decode b_Mod_writeDictionary 124 = .ok (.iload_n 2, 1) := by decide +kernel
theorem d_Mod_writeDictionary_125 : decode b_Mod_writeDictionary 125 = .ok (.invokevirtual 647, 3) := by decide +kernel
theorem d_Mod_writeDictionary_128 : decode b_Mod_writeDictionary 128 = .ok (.return_, 1) := by decide +kernel
theorem d_Mod_writeDictionary_104 : decode b_Mod_writeDictionary 104 = .ok (.iinc 2 1, 3) := by decide +kernel
theorem d_Mod_writeDictionary_107 : decode b_Mod_writeDictionary 107 = .ok (.goto (-11), 3) := by decide +kernel
theorem d_Mod_writeDictionary_88 : decode b_Mod_writeDictionary 88 = .ok (.iinc 2 1, 3) := by decide +kernel
theorem d_Mod_writeDictionary_91 : decode b_Mod_writeDictionary 91 = .ok (.goto (-25), 3) := by decide +kernel
theorem d_Mod_writeDictionary_66 : decode b_Mod_writeDictionary 66 = .ok (.iload_n 2, 1) := by decide +kernel
theorem d_Mod_writeDictionary_67 : decode b_Mod_writeDictionary 67 = .ok (.aload_n 0, 1) := by decide +kernel
theorem d_Mod_writeDictionary_68 : decode b_Mod_writeDictionary 68 = .ok (.getfield 632, 3) := by decide +kernel
theorem d_Mod_writeDictionary_71 : decode b_Mod_writeDictionary 71 = .ok (.if_icmp .ge 23, 3) := by decide +kernel
theorem d_Mod_writeDictionary_94 : decode b_Mod_writeDictionary 94 = .ok (.iconst 0, 1) := by decide +kernel
theorem d_Mod_writeDictionary_95 : decode b_Mod_writeDictionary 95 = .ok (.istore_n 2, 1) := by decide +kernel
theorem d_Mod_writeDictionary_74 : decode b_Mod_writeDictionary 74 = .ok (.aload_n 0, 1) := by decide +kernel
theorem d_Mod_writeDictionary_75 : decode b_Mod_writeDictionary 75 = .ok (.iload_n 2, 1) := by decide +kernel
theorem d_Mod_writeDictionary_76 : decode b_Mod_writeDictionary 76 = .ok (.invokevirtual 641, 3) := by decide +kernel
theorem d_Mod_writeDictionary_79 : decode b_Mod_writeDictionary 79 = .ok (.iload_n 2, 1) := by decide +kernel
theorem d_Mod_writeDictionary_80 : decode b_Mod_writeDictionary 80 = .ok (.if_icmp .ne 8, 3) := by decide +kernel
theorem d_Mod_writeDictionary_83 : decode b_Mod_writeDictionary 83 = .ok (.aload_n 0, 1) := by decide +kernel
theorem d_Mod_writeDictionary_84 : decode b_Mod_writeDictionary 84 = .ok (.iload_n 2, 1) := by decide +kernel
theorem d_Mod_writeDictionary_85 : decode b_Mod_writeDictionary 85 = .ok (.invokevirtual 644, 3) := by decide +kernel
theorem d_Mod_writeDictionary_50 : decode b_Mod_writeDictionary 50 = .ok (.iadd, 1) := by decide +kernel
theorem d_Mod_writeDictionary_51 : decode b_Mod_writeDictionary 51 = .ok (.istore_n 1, 1) := by decide +kernel
theorem d_Mod_writeDictionary_52 : decode b_Mod_writeDictionary 52 = .ok (.iinc 2 1, 3) := by decide +kernel
theorem d_Mod_writeDictionary_55 : decode b_Mod_writeDictionary 55 = .ok (.goto (-51), 3) := by decide +kernel
theorem d_Mod_writeDictionary_38 : decode b_Mod_writeDictionary 38 = .ok (.iastore, 1) := by decide +kernel
theorem d_Mod_writeDictionary_39 : decode b_Mod_writeDictionary 39 = .ok (.iload_n 1, 1) := by decide +kernel
theorem d_Mod_writeDictionary_40 : decode b_Mod_writeDictionary 40 = .ok (.iload_n 3, 1) := by decide +kernel
theorem d_Mod_writeDictionary_41 : decode b_Mod_writeDictionary 41 = .ok (.iload_n 2, 1) := by decide +kernel
theorem d_Mod_writeDictionary_42 : decode b_Mod_writeDictionary 42 = .ok (.if_icmp .ne 7, 3) := by decide +kernel
theorem d_Mod_writeDictionary_49 : decode b_Mod_writeDictionary 49 = .ok (.iconst 0, 1) := by decide +kernel
theorem d_Mod_writeDictionary_45 : decode b_Mod_writeDictionary 45 = .ok (.iconst 1, 1) := by decide +kernel
theorem d_Mod_writeDictionary_46 : decode b_Mod_writeDictionary 46 = .ok (.goto 4, 3) := by decide +kernel
theorem d_Mod_writeDictionary_4 : decode b_Mod_writeDictionary 4 = .ok (.iload_n 2, 1) := by decide +kernel
theorem d_Mod_writeDictionary_5 : decode b_Mod_writeDictionary 5 = .ok (.aload_n 0, 1) := by decide +kernel
theorem d_Mod_writeDictionary_6 : decode b_Mod_writeDictionary 6 = .ok (.getfield 632, 3) := by decide +kernel
theorem d_Mod_writeDictionary_9 : decode b_Mod_writeDictionary 9 = .ok (.if_icmp .ge 49, 3) := by decide +kernel
theorem d_Mod_writeDictionary_58 : decode b_Mod_writeDictionary 58 = .ok (.aload_n 0, 1) := by decide +kernel
theorem d_Mod_writeDictionary_59 : decode b_Mod_writeDictionary 59 = .ok (.iload_n 1, 1) := by decide +kernel
theorem d_Mod_writeDictionary_60 : decode b_Mod_writeDictionary 60 = .ok (.i2l, 1) := by decide +kernel
theorem d_Mod_writeDictionary_61 : decode b_Mod_writeDictionary 61 = .ok (.invokevirtual 567, 3) := by decide +kernel
theorem d_Mod_writeDictionary_64 : decode b_Mod_writeDictionary 64 = .ok (.iconst 0, 1) := by decide +kernel
theorem d_Mod_writeDictionary_65 : decode b_Mod_writeDictionary 65 = .ok (.istore_n 2, 1) := by decide +kernel
theorem d_Mod_writeDictionary_12 : decode b_Mod_writeDictionary 12 = .ok (.aload_n 0, 1) := by decide +kernel
theorem d_Mod_writeDictionary_13 : decode b_Mod_writeDictionary 13 = .ok (.iload_n 2, 1) := by decide +kernel
theorem d_Mod_writeDictionary_14 : decode b_Mod_writeDictionary 14 = .ok (.invokevirtual 641, 3) := by decide +kernel
theorem d_Mod_writeDictionary_17 : decode b_Mod_writeDictionary 17 = .ok (.istore_n 3, 1) := by decide +kernel
theorem d_Mod_writeDictionary_18 : decode b_Mod_writeDictionary 18 = .ok (.aload_n 0, 1) := by decide +kernel
theorem d_Mod_writeDictionary_19 : decode b_Mod_writeDictionary 19 = .ok (.getfield 142, 3) := by decide +kernel
theorem d_Mod_writeDictionary_22 : decode b_Mod_writeDictionary 22 = .ok (.iload_n 2, 1) := by decide +kernel
theorem d_Mod_writeDictionary_23 : decode b_Mod_writeDictionary 23 = .ok (.iload_n 3, 1) := by decide +kernel
theorem d_Mod_writeDictionary_24 : decode b_Mod_writeDictionary 24 = .ok (.iload_n 2, 1) := by decide +kernel
theorem d_Mod_writeDictionary_25 : decode b_Mod_writeDictionary 25 = .ok (.if_icmp .ne 7, 3) := by decide +kernel
theorem d_Mod_writeDictionary_32 : decode b_Mod_writeDictionary 32 = .ok (.aload_n 0, 1) := by decide +kernel
theorem d_Mod_writeDictionary_33 : decode b_Mod_writeDictionary 33 = .ok (.getfield 142, 3) := by decide +kernel
theorem d_Mod_writeDictionary_36 : decode b_Mod_writeDictionary 36 = .ok (.iload_n 3, 1) := by decide +kernel
theorem d_Mod_writeDictionary_37 : decode b_Mod_writeDictionary 37 = .ok (.iaload, 1) := by decide +kernel
theorem d_Mod_writeDictionary_28 : decode b_Mod_writeDictionary 28 = .ok (.iload_n 1, 1) := by decide +kernel
theorem d_Mod_writeDictionary_29 : decode b_Mod_writeDictionary 29 = .ok (.goto 9, 3) := by decide +kernel
theorem d_Mod_writeDictionary_0 : decode b_Mod_writeDictionary 0 = .ok (.iconst 0, 1) := by decide +kernel
theorem d_Mod_writeDictionary_1 : decode b_Mod_writeDictionary 1 = .ok (.istore_n 1, 1) := by decide +kernel
theorem d_Mod_writeDictionary_2 : decode b_Mod_writeDictionary 2 = .ok (.iconst 0, 1) := by decide +kernel
theorem d_Mod_writeDictionary_3 : decode b_Mod_writeDictionary 3 = .ok (.istore_n 2, 1) := by decide +kernel
section
variable (l : Launch) (dC : Nat → ClassId) (dI : Nat → Nat → Nat) (cI cB cJ cZ : ClassId)
set_option maxRecDepth 100000 in
def j_Mod_writeFront_101 (post : St → Prop) (rec80 : Int32 → St → Prop) (rec101 : Int32 → Int32 → St → Prop) (l1 : Int32) (l2 : Int32) (x : St) : Prop := (vp_in (l1 + 1) (fN x 33) ∧ (((rA x 33 (l1 + 1)) ≤ l2 → rec80 (l1 + 1) x) ∧ (¬ (rA x 33 (l1 + 1)) ≤ l2 → (vp_in l2 (fN x 36) ∧ wp_Mod_put (fun (x634 : St) => rec101 l1 (l2 + 1) x634) (rA x 36 l2) x))))
set_option maxHeartbeats 4000000 in
set_option maxRecDepth 100000 in
theorem t_Mod_writeFront_101 {p : Program} {l : Launch} {e : Env} {R : Room} {s : State} {m : MethodId} {args : Array Value} {below : List Frame} {meth : Method} {c : Code} {cells slots : Nat} {Q : State → Prop} {dC : Nat → ClassId} {dI : Nat → Nat → Nat} {cI cB cJ cZ : ClassId} {A : Nat → Prop} {ad : Nat → Nat} {post : St → Prop} {rec80 : Int32 → St → Prop} {rec101 : Int32 → Int32 → St → Prop} (hx : p.tables.exec = Jvm.exec) (hb : c.code = b_Mod_writeFront) (hml : c.maxLocals = 3) (hown : s.vm.findClass R_Mod = some m.cls) (hT : ∀ w ∈ TG, w.before args s = true) (hK : va_K (dC, dI) CL (TY cI cB cJ cZ) s) (hN : NW s) (hA : ∀ q : Nat, s.heap.size ≤ q → A q) (hRc : cells ≤ R.cells) (hRs : slots ≤ R.slots) (hRf : 4 ≤ R.frames) (hRl : 97 ≤ R.locals) (hret : ∀ (x : St) (H : Heap) (locs : List Loc) (pc : Nat) (ls : Array Slot), decode b_Mod_writeFront pc = .ok (.return_, 1) → post x → Wd dC dI cI cB cJ cZ ad stM kcM 115 A x H → va_S A s.heap H locs → W p l e R s m args below meth c H locs cells slots Q (F0 m pc ls [])) (hrec80 : ∀ (l1 : Int32) (x : St) (H : Heap) (locs : List Loc) (ls : Array Slot), rec80 l1 x → Wd dC dI cI cB cJ cZ ad stM kcM 115 A x H → va_S A s.heap H locs → lv_has ls 3 [(0, .ref (ad 0)), (1, .int l1)] → W p l e R s m args below meth c H locs cells slots Q (F0 m 80 ls [])) (hrec101 : ∀ (l1 : Int32) (l2 : Int32) (x : St) (H : Heap) (locs : List Loc) (ls : Array Slot), rec101 l1 l2 x → Wd dC dI cI cB cJ cZ ad stM kcM 115 A x H → va_S A s.heap H locs → lv_has ls 3 [(0, .ref (ad 0)), (1, .int l1), (2, .int l2)] → W p l e R s m args below meth c H locs cells slots Q (F0 m 101 ls [])) : ∀ (l1 : Int32) (l2 : Int32) (x : St) (H : Heap) (locs : List Loc) (ls : Array Slot), j_Mod_writeFront_101 post rec80 rec101 l1 l2 x → Wd dC dI cI cB cJ cZ ad stM kcM 115 A x H → va_S A s.heap H locs → lv_has ls 3 [(0, .ref (ad 0)), (1, .int l1), (2, .int l2)] → W p l e R s m args below meth c H locs cells slots Q (F0 m 101 ls []) := by
  intro l1 l2 x H locs ls  hw hW hS hl
  unfold j_Mod_writeFront_101 at hw
  refine lv_iload_n hx hb d_Mod_writeFront_101 rfl (lv_at hl 2 rfl) ?_
  refine lv_aload_n hx hb d_Mod_writeFront_102 rfl (lv_at hl 0 rfl) ?_
  refine w_getf (q := 33) (k := 52) (t := 12) (C := R_Mod) (T := F_Mod) (N := 167) hx hb hT hown hK hW ko_0.1 ko_0.2 (by decide) in_Mod rfl rfl (by decide) rfl fr_Mod_52 w_8_232 d_Mod_writeFront_103 rfl ?_
  refine lv_iload_n hx hb d_Mod_writeFront_106 rfl (lv_at hl 1 rfl) ?_
  refine lv_iconst (v := 1) hx hb d_Mod_writeFront_107 (by decide) ?_
  refine lv_iadd hx hb d_Mod_writeFront_108 ?_
  obtain ⟨hi, hw⟩ := hw
  refine w_iald (o := 33) hx hb hK hW ko_33.1 ko_33.2 hi d_Mod_writeFront_109 ?_
  refine lv_icmp_ge (tgt := 129) hx hb d_Mod_writeFront_110 (by decide) (fun c633 => ?_) (fun c633 => ?_)
  · have hw := hw.1 c633
    refine lv_iinc (v := (l1 + 1)) (lv' := [(1, .int (l1 + 1)), (0, .ref (ad 0)), (2, .int l2)]) hx hb d_Mod_writeFront_129 hl (k := 1) rfl rfl (by decide) rfl (fun ls hl => ?_)
    refine lv_goto (tgt := 80) hx hb d_Mod_writeFront_132 (by decide) ?_
    exact hrec80 (l1 + 1) x H locs ls  hw hW hS (lv_sub hl [1, 0] rfl)
  · have hw := hw.2 c633
    refine lv_aload_n hx hb d_Mod_writeFront_113 rfl (lv_at hl 0 rfl) ?_
    refine lv_aload_n hx hb d_Mod_writeFront_114 rfl (lv_at hl 0 rfl) ?_
    refine w_getf (q := 36) (k := 55) (t := 12) (C := R_Mod) (T := F_Mod) (N := 167) hx hb hT hown hK hW ko_0.1 ko_0.2 (by decide) in_Mod rfl rfl (by decide) rfl fr_Mod_55 w_8_235 d_Mod_writeFront_115 rfl ?_
    refine lv_iload_n hx hb d_Mod_writeFront_118 rfl (lv_at hl 2 rfl) ?_
    obtain ⟨hi, hw⟩ := hw
    refine w_iald (o := 36) hx hb hK hW ko_36.1 ko_36.2 hi d_Mod_writeFront_119 ?_
    have hF := hW.free hS hA
    refine va_callv (va_runV (C := R_Mod) (As := [.int (rA x 36 l2)]) (rest := []) ⟨hx, hb, hml, hown, hT⟩ (k_Mod_put l dC dI cI cB cJ cZ ad H.size (rA x 36 l2) x  hw) ⟨callB_of 1 hT (gw_in w_11_203) rfl rfl rfl (hT _ w_1_15) (hT _ w_11_200) (by decide +kernel) ⟨Nat.le_trans (by decide) hRf, Nat.le_trans (by decide) hRl⟩, hT _ w_11_202, hT _ ws_154⟩ ⟨PW.blind, va_recv hK hW.1 (ci := 12) (q0 := 0) rfl (pic_obj ko_0.1 ko_0.2 (by decide)), PW.at _ hW hK hN⟩ rfl rfl hl.1 rfl (lv_room (Nat.le_of_ble_eq_true rfl)) d_Mod_writeFront_120 ⟨hRc, hRs⟩) hS (fun q _ h => hF q h) hF (fun  x634 t H locs ht hvm hw hB hz1 hk1 hS => ?_)
    have hW := Wd.back hB ht hF
    clear hB ht hF hz1 hk1 hvm
    refine lv_iinc (v := (l2 + 1)) (lv' := [(2, .int (l2 + 1)), (0, .ref (ad 0)), (1, .int l1)]) hx hb d_Mod_writeFront_123 hl (k := 2) rfl rfl (by decide) rfl (fun ls hl => ?_)
    refine lv_goto (tgt := 101) hx hb d_Mod_writeFront_126 (by decide) ?_
    exact hrec101 l1 (l2 + 1) x634 H locs ls  hw hW hS (lv_sub hl [1, 2, 0] rfl)
def wl_Mod_writeFront_101 (post : St → Prop) (rec80 : Int32 → St → Prop) : Nat → Int32 → Int32 → St → Prop
  | 0 => fun _ _ _ => False
  | n + 1 => j_Mod_writeFront_101 post rec80 (wl_Mod_writeFront_101 post rec80 n)
set_option maxHeartbeats 4000000 in
set_option maxRecDepth 100000 in
theorem tl_Mod_writeFront_101 {p : Program} {l : Launch} {e : Env} {R : Room} {s : State} {m : MethodId} {args : Array Value} {below : List Frame} {meth : Method} {c : Code} {cells slots : Nat} {Q : State → Prop} {dC : Nat → ClassId} {dI : Nat → Nat → Nat} {cI cB cJ cZ : ClassId} {A : Nat → Prop} {ad : Nat → Nat} {post : St → Prop} {rec80 : Int32 → St → Prop} (hx : p.tables.exec = Jvm.exec) (hb : c.code = b_Mod_writeFront) (hml : c.maxLocals = 3) (hown : s.vm.findClass R_Mod = some m.cls) (hT : ∀ w ∈ TG, w.before args s = true) (hK : va_K (dC, dI) CL (TY cI cB cJ cZ) s) (hN : NW s) (hA : ∀ q : Nat, s.heap.size ≤ q → A q) (hRc : cells ≤ R.cells) (hRs : slots ≤ R.slots) (hRf : 4 ≤ R.frames) (hRl : 97 ≤ R.locals) (hret : ∀ (x : St) (H : Heap) (locs : List Loc) (pc : Nat) (ls : Array Slot), decode b_Mod_writeFront pc = .ok (.return_, 1) → post x → Wd dC dI cI cB cJ cZ ad stM kcM 115 A x H → va_S A s.heap H locs → W p l e R s m args below meth c H locs cells slots Q (F0 m pc ls [])) (hrec80 : ∀ (l1 : Int32) (x : St) (H : Heap) (locs : List Loc) (ls : Array Slot), rec80 l1 x → Wd dC dI cI cB cJ cZ ad stM kcM 115 A x H → va_S A s.heap H locs → lv_has ls 3 [(0, .ref (ad 0)), (1, .int l1)] → W p l e R s m args below meth c H locs cells slots Q (F0 m 80 ls [])) : ∀ n : Nat, ∀ (l1 : Int32) (l2 : Int32) (x : St) (H : Heap) (locs : List Loc) (ls : Array Slot), wl_Mod_writeFront_101 post rec80 n l1 l2 x → Wd dC dI cI cB cJ cZ ad stM kcM 115 A x H → va_S A s.heap H locs → lv_has ls 3 [(0, .ref (ad 0)), (1, .int l1), (2, .int l2)] → W p l e R s m args below meth c H locs cells slots Q (F0 m 101 ls []) := by
  intro n
  induction n with
  | zero => intro l1 l2 x H locs ls  hw; exact hw.elim
  | succ n ih => intro l1 l2 x H locs ls  hw hW hS hl; exact t_Mod_writeFront_101 hx hb hml hown hT hK hN hA hRc hRs hRf hRl hret hrec80 ih l1 l2 x H locs ls  hw hW hS hl
set_option maxRecDepth 100000 in
def j_Mod_writeFront_80 (post : St → Prop) (rec80 : Int32 → St → Prop) (l1 : Int32) (x : St) : Prop := (((fI x 0 42) ≤ l1 → post x) ∧ (¬ (fI x 0 42) ≤ l1 → (vp_in l1 (fN x 33) ∧ wp_Mod_inCommon (fun (r637 : Int32) (x636 : St) => (∀ v638 : Int32, v638 = ((rA x 33 l1) + r637) → ∃ n : Nat, wl_Mod_writeFront_101 post rec80 n l1 v638 x636)) l1 x)))
set_option maxHeartbeats 4000000 in
set_option maxRecDepth 100000 in
theorem t_Mod_writeFront_80 {p : Program} {l : Launch} {e : Env} {R : Room} {s : State} {m : MethodId} {args : Array Value} {below : List Frame} {meth : Method} {c : Code} {cells slots : Nat} {Q : State → Prop} {dC : Nat → ClassId} {dI : Nat → Nat → Nat} {cI cB cJ cZ : ClassId} {A : Nat → Prop} {ad : Nat → Nat} {post : St → Prop} {rec80 : Int32 → St → Prop} (hx : p.tables.exec = Jvm.exec) (hb : c.code = b_Mod_writeFront) (hml : c.maxLocals = 3) (hown : s.vm.findClass R_Mod = some m.cls) (hT : ∀ w ∈ TG, w.before args s = true) (hK : va_K (dC, dI) CL (TY cI cB cJ cZ) s) (hN : NW s) (hA : ∀ q : Nat, s.heap.size ≤ q → A q) (hRc : cells ≤ R.cells) (hRs : slots ≤ R.slots) (hRf : 4 ≤ R.frames) (hRl : 97 ≤ R.locals) (hret : ∀ (x : St) (H : Heap) (locs : List Loc) (pc : Nat) (ls : Array Slot), decode b_Mod_writeFront pc = .ok (.return_, 1) → post x → Wd dC dI cI cB cJ cZ ad stM kcM 115 A x H → va_S A s.heap H locs → W p l e R s m args below meth c H locs cells slots Q (F0 m pc ls [])) (hrec80 : ∀ (l1 : Int32) (x : St) (H : Heap) (locs : List Loc) (ls : Array Slot), rec80 l1 x → Wd dC dI cI cB cJ cZ ad stM kcM 115 A x H → va_S A s.heap H locs → lv_has ls 3 [(0, .ref (ad 0)), (1, .int l1)] → W p l e R s m args below meth c H locs cells slots Q (F0 m 80 ls [])) : ∀ (l1 : Int32) (x : St) (H : Heap) (locs : List Loc) (ls : Array Slot), j_Mod_writeFront_80 post rec80 l1 x → Wd dC dI cI cB cJ cZ ad stM kcM 115 A x H → va_S A s.heap H locs → lv_has ls 3 [(0, .ref (ad 0)), (1, .int l1)] → W p l e R s m args below meth c H locs cells slots Q (F0 m 80 ls []) := by
  intro l1 x H locs ls  hw hW hS hl
  unfold j_Mod_writeFront_80 at hw
  refine lv_iload_n hx hb d_Mod_writeFront_80 rfl (lv_at hl 1 rfl) ?_
  refine lv_aload_n hx hb d_Mod_writeFront_81 rfl (lv_at hl 0 rfl) ?_
  refine w_geti (k := 42) (t := 12) (C := R_Mod) (T := F_Mod) (N := 167) hx hb hT hown hK hW ko_0.1 ko_0.2 (by decide) in_Mod rfl rfl (by decide) rfl fr_Mod_42 w_8_222 d_Mod_writeFront_82 ?_
  refine lv_icmp_ge (tgt := 135) hx hb d_Mod_writeFront_85 (by decide) (fun c635 => ?_) (fun c635 => ?_)
  · have hw := hw.1 c635
    exact hret x H locs 135 ls d_Mod_writeFront_135 hw hW hS
  · have hw := hw.2 c635
    refine lv_aload_n hx hb d_Mod_writeFront_88 rfl (lv_at hl 0 rfl) ?_
    refine w_getf (q := 33) (k := 52) (t := 12) (C := R_Mod) (T := F_Mod) (N := 167) hx hb hT hown hK hW ko_0.1 ko_0.2 (by decide) in_Mod rfl rfl (by decide) rfl fr_Mod_52 w_8_232 d_Mod_writeFront_89 rfl ?_
    refine lv_iload_n hx hb d_Mod_writeFront_92 rfl (lv_at hl 1 rfl) ?_
    obtain ⟨hi, hw⟩ := hw
    refine w_iald (o := 33) hx hb hK hW ko_33.1 ko_33.2 hi d_Mod_writeFront_93 ?_
    refine lv_aload_n hx hb d_Mod_writeFront_94 rfl (lv_at hl 0 rfl) ?_
    refine lv_iload_n hx hb d_Mod_writeFront_95 rfl (lv_at hl 1 rfl) ?_
    have hF := hW.free hS hA
    refine va_calli (va_runV (C := R_Mod) (As := [.int l1]) (rest := [.int (rA x 33 l1)]) ⟨hx, hb, hml, hown, hT⟩ (k_Mod_inCommon l dC dI cI cB cJ cZ ad H.size l1 x  hw) ⟨callB_of 1 hT (gw_in w_12_19) rfl rfl rfl (hT _ w_1_15) (hT _ w_12_16) (by decide +kernel) ⟨Nat.le_trans (by decide) hRf, Nat.le_trans (by decide) hRl⟩, hT _ w_12_18, hT _ ws_167⟩ ⟨PW.blind, va_recv hK hW.1 (ci := 12) (q0 := 0) rfl (pic_obj ko_0.1 ko_0.2 (by decide)), PW.at _ hW hK hN⟩ rfl rfl hl.1 rfl (lv_room (Nat.le_of_ble_eq_true rfl)) d_Mod_writeFront_96 ⟨hRc, hRs⟩) hS (fun q _ h => hF q h) hF (fun r637 x636 t H locs ht hvm hw hB hz1 hk1 hS => ?_)
    have hW := Wd.back hB ht hF
    clear hB ht hF hz1 hk1 hvm
    refine lv_iadd hx hb d_Mod_writeFront_99 ?_
    refine lv_topi (fun v638 ev638 => ?_)
    have hw := hw v638 ev638
    refine lv_istore_n (lv' := [(2, .int v638), (0, .ref (ad 0)), (1, .int l1)]) hx hb d_Mod_writeFront_100 rfl hl (by decide) rfl (fun ls hl => ?_)
    obtain ⟨n, hw⟩ := hw
    exact tl_Mod_writeFront_101 hx hb hml hown hT hK hN hA hRc hRs hRf hRl hret hrec80 n l1 v638 x636 H locs ls  hw hW hS (lv_sub hl [1, 2, 0] rfl)
def wl_Mod_writeFront_80 (post : St → Prop) : Nat → Int32 → St → Prop
  | 0 => fun _ _ => False
  | n + 1 => j_Mod_writeFront_80 post (wl_Mod_writeFront_80 post n)
set_option maxHeartbeats 4000000 in
set_option maxRecDepth 100000 in
theorem tl_Mod_writeFront_80 {p : Program} {l : Launch} {e : Env} {R : Room} {s : State} {m : MethodId} {args : Array Value} {below : List Frame} {meth : Method} {c : Code} {cells slots : Nat} {Q : State → Prop} {dC : Nat → ClassId} {dI : Nat → Nat → Nat} {cI cB cJ cZ : ClassId} {A : Nat → Prop} {ad : Nat → Nat} {post : St → Prop} (hx : p.tables.exec = Jvm.exec) (hb : c.code = b_Mod_writeFront) (hml : c.maxLocals = 3) (hown : s.vm.findClass R_Mod = some m.cls) (hT : ∀ w ∈ TG, w.before args s = true) (hK : va_K (dC, dI) CL (TY cI cB cJ cZ) s) (hN : NW s) (hA : ∀ q : Nat, s.heap.size ≤ q → A q) (hRc : cells ≤ R.cells) (hRs : slots ≤ R.slots) (hRf : 4 ≤ R.frames) (hRl : 97 ≤ R.locals) (hret : ∀ (x : St) (H : Heap) (locs : List Loc) (pc : Nat) (ls : Array Slot), decode b_Mod_writeFront pc = .ok (.return_, 1) → post x → Wd dC dI cI cB cJ cZ ad stM kcM 115 A x H → va_S A s.heap H locs → W p l e R s m args below meth c H locs cells slots Q (F0 m pc ls []))  : ∀ n : Nat, ∀ (l1 : Int32) (x : St) (H : Heap) (locs : List Loc) (ls : Array Slot), wl_Mod_writeFront_80 post n l1 x → Wd dC dI cI cB cJ cZ ad stM kcM 115 A x H → va_S A s.heap H locs → lv_has ls 3 [(0, .ref (ad 0)), (1, .int l1)] → W p l e R s m args below meth c H locs cells slots Q (F0 m 80 ls []) := by
  intro n
  induction n with
  | zero => intro l1 x H locs ls  hw; exact hw.elim
  | succ n ih => intro l1 x H locs ls  hw hW hS hl; exact t_Mod_writeFront_80 hx hb hml hown hT hK hN hA hRc hRs hRf hRl hret  ih l1 x H locs ls  hw hW hS hl
set_option maxRecDepth 100000 in
def j_Mod_writeFront_42 (post : St → Prop) (rec42 : Int32 → St → Prop) (l1 : Int32) (x : St) : Prop := (((fI x 0 42) ≤ l1 → wp_Mod_writeCode (fun (x640 : St) => ∃ n : Nat, wl_Mod_writeFront_80 post n 0 x640)  x) ∧ (¬ (fI x 0 42) ≤ l1 → wp_Mod_lengthOf (fun (r642 : Int32) (x641 : St) => wp_Mod_inCommon (fun (r644 : Int32) (x643 : St) => (vp_in l1 (fN x643 43) ∧ ∀ x645 : St, x645 = setL x643 43 l1 ((r642 - r644) : Int32).toInt64 → rec42 (l1 + 1) x645)) l1 x641) l1 x))
set_option maxHeartbeats 4000000 in
set_option maxRecDepth 100000 in
theorem t_Mod_writeFront_42 {p : Program} {l : Launch} {e : Env} {R : Room} {s : State} {m : MethodId} {args : Array Value} {below : List Frame} {meth : Method} {c : Code} {cells slots : Nat} {Q : State → Prop} {dC : Nat → ClassId} {dI : Nat → Nat → Nat} {cI cB cJ cZ : ClassId} {A : Nat → Prop} {ad : Nat → Nat} {post : St → Prop} {rec42 : Int32 → St → Prop} (hx : p.tables.exec = Jvm.exec) (hb : c.code = b_Mod_writeFront) (hml : c.maxLocals = 3) (hown : s.vm.findClass R_Mod = some m.cls) (hT : ∀ w ∈ TG, w.before args s = true) (hK : va_K (dC, dI) CL (TY cI cB cJ cZ) s) (hN : NW s) (hA : ∀ q : Nat, s.heap.size ≤ q → A q) (hRc : cells ≤ R.cells) (hRs : slots ≤ R.slots) (hRf : 4 ≤ R.frames) (hRl : 97 ≤ R.locals) (hret : ∀ (x : St) (H : Heap) (locs : List Loc) (pc : Nat) (ls : Array Slot), decode b_Mod_writeFront pc = .ok (.return_, 1) → post x → Wd dC dI cI cB cJ cZ ad stM kcM 115 A x H → va_S A s.heap H locs → W p l e R s m args below meth c H locs cells slots Q (F0 m pc ls [])) (hrec42 : ∀ (l1 : Int32) (x : St) (H : Heap) (locs : List Loc) (ls : Array Slot), rec42 l1 x → Wd dC dI cI cB cJ cZ ad stM kcM 115 A x H → va_S A s.heap H locs → lv_has ls 3 [(0, .ref (ad 0)), (1, .int l1)] → W p l e R s m args below meth c H locs cells slots Q (F0 m 42 ls [])) : ∀ (l1 : Int32) (x : St) (H : Heap) (locs : List Loc) (ls : Array Slot), j_Mod_writeFront_42 post rec42 l1 x → Wd dC dI cI cB cJ cZ ad stM kcM 115 A x H → va_S A s.heap H locs → lv_has ls 3 [(0, .ref (ad 0)), (1, .int l1)] → W p l e R s m args below meth c H locs cells slots Q (F0 m 42 ls []) := by
  intro l1 x H locs ls  hw hW hS hl
  unfold j_Mod_writeFront_42 at hw
  refine lv_iload_n hx hb d_Mod_writeFront_42 rfl (lv_at hl 1 rfl) ?_
  refine lv_aload_n hx hb d_Mod_writeFront_43 rfl (lv_at hl 0 rfl) ?_
  refine w_geti (k := 42) (t := 12) (C := R_Mod) (T := F_Mod) (N := 167) hx hb hT hown hK hW ko_0.1 ko_0.2 (by decide) in_Mod rfl rfl (by decide) rfl fr_Mod_42 w_8_222 d_Mod_writeFront_44 ?_
  refine lv_icmp_ge (tgt := 74) hx hb d_Mod_writeFront_47 (by decide) (fun c639 => ?_) (fun c639 => ?_)
  · have hw := hw.1 c639
    refine lv_aload_n hx hb d_Mod_writeFront_74 rfl (lv_at hl 0 rfl) ?_
    have hF := hW.free hS hA
    refine va_callv (va_runV (C := R_Mod) (As := []) (rest := []) ⟨hx, hb, hml, hown, hT⟩ (k_Mod_writeCode l dC dI cI cB cJ cZ ad H.size  x  hw) ⟨callB_of 0 hT (gw_in w_12_11) rfl rfl rfl (hT _ w_1_15) (hT _ w_12_8) (by decide +kernel) ⟨Nat.le_trans (by decide) hRf, Nat.le_trans (by decide) hRl⟩, hT _ w_12_10, hT _ ws_165⟩ ⟨PW.blind, va_recv hK hW.1 (ci := 12) (q0 := 0) rfl (pic_obj ko_0.1 ko_0.2 (by decide)), PW.at _ hW hK hN⟩ rfl rfl hl.1 rfl (lv_room (Nat.le_of_ble_eq_true rfl)) d_Mod_writeFront_75 ⟨hRc, hRs⟩) hS (fun q _ h => hF q h) hF (fun  x640 t H locs ht hvm hw hB hz1 hk1 hS => ?_)
    have hW := Wd.back hB ht hF
    clear hB ht hF hz1 hk1 hvm
    refine lv_iconst (v := 0) hx hb d_Mod_writeFront_78 (by decide) ?_
    refine lv_istore_n (lv' := [(1, .int 0), (0, .ref (ad 0))]) hx hb d_Mod_writeFront_79 rfl hl (by decide) rfl (fun ls hl => ?_)
    obtain ⟨n, hw⟩ := hw
    exact tl_Mod_writeFront_80 hx hb hml hown hT hK hN hA hRc hRs hRf hRl hret  n 0 x640 H locs ls  hw hW hS (lv_sub hl [1, 0] rfl)
  · have hw := hw.2 c639
    refine lv_aload_n hx hb d_Mod_writeFront_50 rfl (lv_at hl 0 rfl) ?_
    refine w_getf (q := 43) (k := 70) (t := 12) (C := R_Mod) (T := F_Mod) (N := 167) hx hb hT hown hK hW ko_0.1 ko_0.2 (by decide) in_Mod rfl rfl (by decide) rfl fr_Mod_70 w_9_10 d_Mod_writeFront_51 rfl ?_
    refine lv_iload_n hx hb d_Mod_writeFront_54 rfl (lv_at hl 1 rfl) ?_
    refine lv_aload_n hx hb d_Mod_writeFront_55 rfl (lv_at hl 0 rfl) ?_
    refine lv_iload_n hx hb d_Mod_writeFront_56 rfl (lv_at hl 1 rfl) ?_
    have hF := hW.free hS hA
    refine va_calli (va_runV (C := R_Mod) (As := [.int l1]) (rest := [.int l1, .ref (ad 43)]) ⟨hx, hb, hml, hown, hT⟩ (k_Mod_lengthOf l dC dI cI cB cJ cZ ad H.size l1 x  hw) ⟨callB_of 1 hT (gw_in w_12_7) rfl rfl rfl (hT _ w_1_15) (hT _ w_12_4) (by decide +kernel) ⟨Nat.le_trans (by decide) hRf, Nat.le_trans (by decide) hRl⟩, hT _ w_12_6, hT _ ws_164⟩ ⟨PW.blind, va_recv hK hW.1 (ci := 12) (q0 := 0) rfl (pic_obj ko_0.1 ko_0.2 (by decide)), PW.at _ hW hK hN⟩ rfl rfl hl.1 rfl (lv_room (Nat.le_of_ble_eq_true rfl)) d_Mod_writeFront_57 ⟨hRc, hRs⟩) hS (fun q _ h => hF q h) hF (fun r642 x641 t H locs ht hvm hw hB hz1 hk1 hS => ?_)
    have hW := Wd.back hB ht hF
    clear hB ht hF hz1 hk1 hvm
    refine lv_aload_n hx hb d_Mod_writeFront_60 rfl (lv_at hl 0 rfl) ?_
    refine lv_iload_n hx hb d_Mod_writeFront_61 rfl (lv_at hl 1 rfl) ?_
    have hF := hW.free hS hA
    refine va_calli (va_runV (C := R_Mod) (As := [.int l1]) (rest := [.int r642, .int l1, .ref (ad 43)]) ⟨hx, hb, hml, hown, hT⟩ (k_Mod_inCommon l dC dI cI cB cJ cZ ad H.size l1 x641  hw) ⟨callB_of 1 hT (gw_in w_12_19) rfl rfl rfl (hT _ w_1_15) (hT _ w_12_16) (by decide +kernel) ⟨Nat.le_trans (by decide) hRf, Nat.le_trans (by decide) hRl⟩, hT _ w_12_18, hT _ ws_167⟩ ⟨PW.blind, va_recv hK hW.1 (ci := 12) (q0 := 0) rfl (pic_obj ko_0.1 ko_0.2 (by decide)), PW.at _ hW hK hN⟩ rfl rfl hl.1 rfl (lv_room (Nat.le_of_ble_eq_true rfl)) d_Mod_writeFront_62 ⟨hRc, hRs⟩) hS (fun q _ h => hF q h) hF (fun r644 x643 t H locs ht hvm hw hB hz1 hk1 hS => ?_)
    have hW := Wd.back hB ht hF
    clear hB ht hF hz1 hk1 hvm
    refine lv_isub hx hb d_Mod_writeFront_65 ?_
    refine lv_i2l hx hb d_Mod_writeFront_66 rfl ?_
    obtain ⟨hi, hw⟩ := hw
    refine w_last (o := 43) hx hb hK hW hS ko_43.1 ko_43.2 hi d_Mod_writeFront_67 (fun H locs hW hS => ?_)
    obtain ⟨x645, ex645⟩ : ∃ y : St, y = setL x643 43 l1 ((r642 - r644) : Int32).toInt64 := ⟨_, rfl⟩
    rw [← ex645] at hW
    have hw := hw x645 ex645
    refine lv_iinc (v := (l1 + 1)) (lv' := [(1, .int (l1 + 1)), (0, .ref (ad 0))]) hx hb d_Mod_writeFront_68 hl (k := 1) rfl rfl (by decide) rfl (fun ls hl => ?_)
    refine lv_goto (tgt := 42) hx hb d_Mod_writeFront_71 (by decide) ?_
    exact hrec42 (l1 + 1) x645 H locs ls  hw hW hS (lv_sub hl [1, 0] rfl)
def wl_Mod_writeFront_42 (post : St → Prop) : Nat → Int32 → St → Prop
  | 0 => fun _ _ => False
  | n + 1 => j_Mod_writeFront_42 post (wl_Mod_writeFront_42 post n)
set_option maxHeartbeats 4000000 in
set_option maxRecDepth 100000 in
theorem tl_Mod_writeFront_42 {p : Program} {l : Launch} {e : Env} {R : Room} {s : State} {m : MethodId} {args : Array Value} {below : List Frame} {meth : Method} {c : Code} {cells slots : Nat} {Q : State → Prop} {dC : Nat → ClassId} {dI : Nat → Nat → Nat} {cI cB cJ cZ : ClassId} {A : Nat → Prop} {ad : Nat → Nat} {post : St → Prop} (hx : p.tables.exec = Jvm.exec) (hb : c.code = b_Mod_writeFront) (hml : c.maxLocals = 3) (hown : s.vm.findClass R_Mod = some m.cls) (hT : ∀ w ∈ TG, w.before args s = true) (hK : va_K (dC, dI) CL (TY cI cB cJ cZ) s) (hN : NW s) (hA : ∀ q : Nat, s.heap.size ≤ q → A q) (hRc : cells ≤ R.cells) (hRs : slots ≤ R.slots) (hRf : 4 ≤ R.frames) (hRl : 97 ≤ R.locals) (hret : ∀ (x : St) (H : Heap) (locs : List Loc) (pc : Nat) (ls : Array Slot), decode b_Mod_writeFront pc = .ok (.return_, 1) → post x → Wd dC dI cI cB cJ cZ ad stM kcM 115 A x H → va_S A s.heap H locs → W p l e R s m args below meth c H locs cells slots Q (F0 m pc ls []))  : ∀ n : Nat, ∀ (l1 : Int32) (x : St) (H : Heap) (locs : List Loc) (ls : Array Slot), wl_Mod_writeFront_42 post n l1 x → Wd dC dI cI cB cJ cZ ad stM kcM 115 A x H → va_S A s.heap H locs → lv_has ls 3 [(0, .ref (ad 0)), (1, .int l1)] → W p l e R s m args below meth c H locs cells slots Q (F0 m 42 ls []) := by
  intro n
  induction n with
  | zero => intro l1 x H locs ls  hw; exact hw.elim
  | succ n ih => intro l1 x H locs ls  hw hW hS hl; exact t_Mod_writeFront_42 hx hb hml hown hT hK hN hA hRc hRs hRf hRl hret  ih l1 x H locs ls  hw hW hS hl
set_option maxRecDepth 100000 in
def j_Mod_writeFront_10 (post : St → Prop) (rec10 : Int32 → St → Prop) (l1 : Int32) (x : St) : Prop := (((fI x 0 42) ≤ l1 → wp_Mod_writeCode (fun (x647 : St) => ∃ n : Nat, wl_Mod_writeFront_42 post n 0 x647)  x) ∧ (¬ (fI x 0 42) ≤ l1 → wp_Mod_inCommon (fun (r649 : Int32) (x648 : St) => (vp_in l1 (fN x648 43) ∧ ∀ x650 : St, x650 = setL x648 43 l1 (r649 : Int32).toInt64 → rec10 (l1 + 1) x650)) l1 x))
set_option maxHeartbeats 4000000 in
set_option maxRecDepth 100000 in
theorem t_Mod_writeFront_10 {p : Program} {l : Launch} {e : Env} {R : Room} {s : State} {m : MethodId} {args : Array Value} {below : List Frame} {meth : Method} {c : Code} {cells slots : Nat} {Q : State → Prop} {dC : Nat → ClassId} {dI : Nat → Nat → Nat} {cI cB cJ cZ : ClassId} {A : Nat → Prop} {ad : Nat → Nat} {post : St → Prop} {rec10 : Int32 → St → Prop} (hx : p.tables.exec = Jvm.exec) (hb : c.code = b_Mod_writeFront) (hml : c.maxLocals = 3) (hown : s.vm.findClass R_Mod = some m.cls) (hT : ∀ w ∈ TG, w.before args s = true) (hK : va_K (dC, dI) CL (TY cI cB cJ cZ) s) (hN : NW s) (hA : ∀ q : Nat, s.heap.size ≤ q → A q) (hRc : cells ≤ R.cells) (hRs : slots ≤ R.slots) (hRf : 4 ≤ R.frames) (hRl : 97 ≤ R.locals) (hret : ∀ (x : St) (H : Heap) (locs : List Loc) (pc : Nat) (ls : Array Slot), decode b_Mod_writeFront pc = .ok (.return_, 1) → post x → Wd dC dI cI cB cJ cZ ad stM kcM 115 A x H → va_S A s.heap H locs → W p l e R s m args below meth c H locs cells slots Q (F0 m pc ls [])) (hrec10 : ∀ (l1 : Int32) (x : St) (H : Heap) (locs : List Loc) (ls : Array Slot), rec10 l1 x → Wd dC dI cI cB cJ cZ ad stM kcM 115 A x H → va_S A s.heap H locs → lv_has ls 3 [(0, .ref (ad 0)), (1, .int l1)] → W p l e R s m args below meth c H locs cells slots Q (F0 m 10 ls [])) : ∀ (l1 : Int32) (x : St) (H : Heap) (locs : List Loc) (ls : Array Slot), j_Mod_writeFront_10 post rec10 l1 x → Wd dC dI cI cB cJ cZ ad stM kcM 115 A x H → va_S A s.heap H locs → lv_has ls 3 [(0, .ref (ad 0)), (1, .int l1)] → W p l e R s m args below meth c H locs cells slots Q (F0 m 10 ls []) := by
  intro l1 x H locs ls  hw hW hS hl
  unfold j_Mod_writeFront_10 at hw
  refine lv_iload_n hx hb d_Mod_writeFront_10 rfl (lv_at hl 1 rfl) ?_
  refine lv_aload_n hx hb d_Mod_writeFront_11 rfl (lv_at hl 0 rfl) ?_
  refine w_geti (k := 42) (t := 12) (C := R_Mod) (T := F_Mod) (N := 167) hx hb hT hown hK hW ko_0.1 ko_0.2 (by decide) in_Mod rfl rfl (by decide) rfl fr_Mod_42 w_8_222 d_Mod_writeFront_12 ?_
  refine lv_icmp_ge (tgt := 36) hx hb d_Mod_writeFront_15 (by decide) (fun c646 => ?_) (fun c646 => ?_)
  · have hw := hw.1 c646
    refine lv_aload_n hx hb d_Mod_writeFront_36 rfl (lv_at hl 0 rfl) ?_
    have hF := hW.free hS hA
    refine va_callv (va_runV (C := R_Mod) (As := []) (rest := []) ⟨hx, hb, hml, hown, hT⟩ (k_Mod_writeCode l dC dI cI cB cJ cZ ad H.size  x  hw) ⟨callB_of 0 hT (gw_in w_12_11) rfl rfl rfl (hT _ w_1_15) (hT _ w_12_8) (by decide +kernel) ⟨Nat.le_trans (by decide) hRf, Nat.le_trans (by decide) hRl⟩, hT _ w_12_10, hT _ ws_165⟩ ⟨PW.blind, va_recv hK hW.1 (ci := 12) (q0 := 0) rfl (pic_obj ko_0.1 ko_0.2 (by decide)), PW.at _ hW hK hN⟩ rfl rfl hl.1 rfl (lv_room (Nat.le_of_ble_eq_true rfl)) d_Mod_writeFront_37 ⟨hRc, hRs⟩) hS (fun q _ h => hF q h) hF (fun  x647 t H locs ht hvm hw hB hz1 hk1 hS => ?_)
    have hW := Wd.back hB ht hF
    clear hB ht hF hz1 hk1 hvm
    refine lv_iconst (v := 0) hx hb d_Mod_writeFront_40 (by decide) ?_
    refine lv_istore_n (lv' := [(1, .int 0), (0, .ref (ad 0))]) hx hb d_Mod_writeFront_41 rfl hl (by decide) rfl (fun ls hl => ?_)
    obtain ⟨n, hw⟩ := hw
    exact tl_Mod_writeFront_42 hx hb hml hown hT hK hN hA hRc hRs hRf hRl hret  n 0 x647 H locs ls  hw hW hS (lv_sub hl [1, 0] rfl)
  · have hw := hw.2 c646
    refine lv_aload_n hx hb d_Mod_writeFront_18 rfl (lv_at hl 0 rfl) ?_
    refine w_getf (q := 43) (k := 70) (t := 12) (C := R_Mod) (T := F_Mod) (N := 167) hx hb hT hown hK hW ko_0.1 ko_0.2 (by decide) in_Mod rfl rfl (by decide) rfl fr_Mod_70 w_9_10 d_Mod_writeFront_19 rfl ?_
    refine lv_iload_n hx hb d_Mod_writeFront_22 rfl (lv_at hl 1 rfl) ?_
    refine lv_aload_n hx hb d_Mod_writeFront_23 rfl (lv_at hl 0 rfl) ?_
    refine lv_iload_n hx hb d_Mod_writeFront_24 rfl (lv_at hl 1 rfl) ?_
    have hF := hW.free hS hA
    refine va_calli (va_runV (C := R_Mod) (As := [.int l1]) (rest := [.int l1, .ref (ad 43)]) ⟨hx, hb, hml, hown, hT⟩ (k_Mod_inCommon l dC dI cI cB cJ cZ ad H.size l1 x  hw) ⟨callB_of 1 hT (gw_in w_12_19) rfl rfl rfl (hT _ w_1_15) (hT _ w_12_16) (by decide +kernel) ⟨Nat.le_trans (by decide) hRf, Nat.le_trans (by decide) hRl⟩, hT _ w_12_18, hT _ ws_167⟩ ⟨PW.blind, va_recv hK hW.1 (ci := 12) (q0 := 0) rfl (pic_obj ko_0.1 ko_0.2 (by decide)), PW.at _ hW hK hN⟩ rfl rfl hl.1 rfl (lv_room (Nat.le_of_ble_eq_true rfl)) d_Mod_writeFront_25 ⟨hRc, hRs⟩) hS (fun q _ h => hF q h) hF (fun r649 x648 t H locs ht hvm hw hB hz1 hk1 hS => ?_)
    have hW := Wd.back hB ht hF
    clear hB ht hF hz1 hk1 hvm
    refine lv_i2l hx hb d_Mod_writeFront_28 rfl ?_
    obtain ⟨hi, hw⟩ := hw
    refine w_last (o := 43) hx hb hK hW hS ko_43.1 ko_43.2 hi d_Mod_writeFront_29 (fun H locs hW hS => ?_)
    obtain ⟨x650, ex650⟩ : ∃ y : St, y = setL x648 43 l1 (r649 : Int32).toInt64 := ⟨_, rfl⟩
    rw [← ex650] at hW
    have hw := hw x650 ex650
    refine lv_iinc (v := (l1 + 1)) (lv' := [(1, .int (l1 + 1)), (0, .ref (ad 0))]) hx hb d_Mod_writeFront_30 hl (k := 1) rfl rfl (by decide) rfl (fun ls hl => ?_)
    refine lv_goto (tgt := 10) hx hb d_Mod_writeFront_33 (by decide) ?_
    exact hrec10 (l1 + 1) x650 H locs ls  hw hW hS (lv_sub hl [1, 0] rfl)
def wl_Mod_writeFront_10 (post : St → Prop) : Nat → Int32 → St → Prop
  | 0 => fun _ _ => False
  | n + 1 => j_Mod_writeFront_10 post (wl_Mod_writeFront_10 post n)
set_option maxHeartbeats 4000000 in
set_option maxRecDepth 100000 in
theorem tl_Mod_writeFront_10 {p : Program} {l : Launch} {e : Env} {R : Room} {s : State} {m : MethodId} {args : Array Value} {below : List Frame} {meth : Method} {c : Code} {cells slots : Nat} {Q : State → Prop} {dC : Nat → ClassId} {dI : Nat → Nat → Nat} {cI cB cJ cZ : ClassId} {A : Nat → Prop} {ad : Nat → Nat} {post : St → Prop} (hx : p.tables.exec = Jvm.exec) (hb : c.code = b_Mod_writeFront) (hml : c.maxLocals = 3) (hown : s.vm.findClass R_Mod = some m.cls) (hT : ∀ w ∈ TG, w.before args s = true) (hK : va_K (dC, dI) CL (TY cI cB cJ cZ) s) (hN : NW s) (hA : ∀ q : Nat, s.heap.size ≤ q → A q) (hRc : cells ≤ R.cells) (hRs : slots ≤ R.slots) (hRf : 4 ≤ R.frames) (hRl : 97 ≤ R.locals) (hret : ∀ (x : St) (H : Heap) (locs : List Loc) (pc : Nat) (ls : Array Slot), decode b_Mod_writeFront pc = .ok (.return_, 1) → post x → Wd dC dI cI cB cJ cZ ad stM kcM 115 A x H → va_S A s.heap H locs → W p l e R s m args below meth c H locs cells slots Q (F0 m pc ls []))  : ∀ n : Nat, ∀ (l1 : Int32) (x : St) (H : Heap) (locs : List Loc) (ls : Array Slot), wl_Mod_writeFront_10 post n l1 x → Wd dC dI cI cB cJ cZ ad stM kcM 115 A x H → va_S A s.heap H locs → lv_has ls 3 [(0, .ref (ad 0)), (1, .int l1)] → W p l e R s m args below meth c H locs cells slots Q (F0 m 10 ls []) := by
  intro n
  induction n with
  | zero => intro l1 x H locs ls  hw; exact hw.elim
  | succ n ih => intro l1 x H locs ls  hw hW hS hl; exact t_Mod_writeFront_10 hx hb hml hown hT hK hN hA hRc hRs hRf hRl hret  ih l1 x H locs ls  hw hW hS hl
set_option maxRecDepth 100000 in
def wp_Mod_writeFront (post : St → Prop)  (x : St) : Prop := (∀ x651 : St, x651 = setI x 0 71 (fI x 0 42) → ∃ n : Nat, wl_Mod_writeFront_10 post n 0 x651)
set_option maxHeartbeats 4000000 in
set_option maxRecDepth 100000 in
theorem t_Mod_writeFront_e {p : Program} {l : Launch} {e : Env} {R : Room} {s : State} {m : MethodId} {args : Array Value} {below : List Frame} {meth : Method} {c : Code} {cells slots : Nat} {Q : State → Prop} {dC : Nat → ClassId} {dI : Nat → Nat → Nat} {cI cB cJ cZ : ClassId} {A : Nat → Prop} {ad : Nat → Nat} {post : St → Prop} (hx : p.tables.exec = Jvm.exec) (hb : c.code = b_Mod_writeFront) (hml : c.maxLocals = 3) (hown : s.vm.findClass R_Mod = some m.cls) (hT : ∀ w ∈ TG, w.before args s = true) (hK : va_K (dC, dI) CL (TY cI cB cJ cZ) s) (hN : NW s) (hA : ∀ q : Nat, s.heap.size ≤ q → A q) (hRc : cells ≤ R.cells) (hRs : slots ≤ R.slots) (hRf : 4 ≤ R.frames) (hRl : 97 ≤ R.locals) (hret : ∀ (x : St) (H : Heap) (locs : List Loc) (pc : Nat) (ls : Array Slot), decode b_Mod_writeFront pc = .ok (.return_, 1) → post x → Wd dC dI cI cB cJ cZ ad stM kcM 115 A x H → va_S A s.heap H locs → W p l e R s m args below meth c H locs cells slots Q (F0 m pc ls [])) : ∀  (x : St) (H : Heap) (locs : List Loc) (ls : Array Slot), wp_Mod_writeFront post  x → Wd dC dI cI cB cJ cZ ad stM kcM 115 A x H → va_S A s.heap H locs → lv_has ls 3 [(0, .ref (ad 0))] → W p l e R s m args below meth c H locs cells slots Q (F0 m 0 ls []) := by
  intro  x H locs ls  hw hW hS hl
  unfold wp_Mod_writeFront at hw
  refine lv_aload_n hx hb d_Mod_writeFront_0 rfl (lv_at hl 0 rfl) ?_
  refine lv_aload_n hx hb d_Mod_writeFront_1 rfl (lv_at hl 0 rfl) ?_
  refine w_geti (k := 42) (t := 12) (C := R_Mod) (T := F_Mod) (N := 167) hx hb hT hown hK hW ko_0.1 ko_0.2 (by decide) in_Mod rfl rfl (by decide) rfl fr_Mod_42 w_8_222 d_Mod_writeFront_2 ?_
  refine w_puti (ty := .int) (k := 71) (t := 12) (C := R_Mod) (T := F_Mod) (N := 167) hx hb hT hown hK hW hS ko_0.1 ko_0.2 (by decide) in_Mod t_Mod t_Mod_ok n_Mod rfl rfl (by decide) rfl fr_Mod_71 w_9_11 (by decide +kernel) rfl rfl d_Mod_writeFront_5 (fun H locs hW hS => ?_)
  obtain ⟨x651, ex651⟩ : ∃ y : St, y = setI x 0 71 (fI x 0 42) := ⟨_, rfl⟩
  rw [← ex651] at hW
  have hw := hw x651 ex651
  refine lv_iconst (v := 0) hx hb d_Mod_writeFront_8 (by decide) ?_
  refine lv_istore_n (lv' := [(1, .int 0), (0, .ref (ad 0))]) hx hb d_Mod_writeFront_9 rfl hl (by decide) rfl (fun ls hl => ?_)
  obtain ⟨n, hw⟩ := hw
  exact tl_Mod_writeFront_10 hx hb hml hown hT hK hN hA hRc hRs hRf hRl hret  n 0 x651 H locs ls  hw hW hS (lv_sub hl [1, 0] rfl)
set_option maxHeartbeats 4000000 in
set_option maxRecDepth 100000 in
theorem k_Mod_writeFront (l : Launch) (dC : Nat → ClassId) (dI : Nat → Nat → Nat) (cI cB cJ cZ : ClassId) (ad : Nat → Nat) (sz : Nat)  (x : St) {post : St → Prop} (hw : wp_Mod_writeFront post  x) : Met l y_Mod_writeFront (wsOf y_Mod_writeFront b_Mod_writeFront 3 (none)) ({ frames := 4, cells := 0, slots := 0, locals := 97 }) (va_Pc [.ref (ad 0)] (PW dC dI cI cB cJ cZ ad stM kcM 115 sz x)) (va_Qv (fun (y : St) => post y) (fun y t => Wd dC dI cI cB cJ cZ ad stM kcM 115 (va_A (pic ad stM kcM 115 cI cB cJ cZ x) sz) y t.heap) (va_A (pic ad stM kcM 115 cI cB cJ cZ x) sz)) 0 0 (va_A (pic ad stM kcM 115 cI cB cJ cZ x) sz) := by
  refine Met.ofW (cc := b_Mod_writeFront) (maxL := 3) (ret := none) (by decide) rfl ?_
  intro p e s m args below meth c s₁ B hml hv
  obtain ⟨rfl, hsz, hW0, hK, hN⟩ := hv
  have hx := B.exec
  have hb := B.bytes
  have hr := B.returns
  have hts := atoms_spec B.pre
  have hT : ∀ w ∈ TG, w.before _ s = true := fun w h => hts w (List.mem_cons_of_mem _ h)
  have hown : s.vm.findClass R_Mod = some m.cls := findClass_of_methodNamed B.named
  have hlocks := B.notSynchronized
  subst hsz
  have hW : Wd dC dI cI cB cJ cZ ad stM kcM 115 (va_A (pic ad stM kcM 115 cI cB cJ cZ x) s.heap.size) x s.heap := ⟨hW0.1, hW0.2.1.self (sz := s.heap.size), hW0.2.2⟩
  generalize hAe : va_A (pic ad stM kcM 115 cI cB cJ cZ x) s.heap.size = A at hW ⊢
  have hA : ∀ q : Nat, s.heap.size ≤ q → A q := fun q h => by rw [← hAe]; exact Or.inr h
  have hS : va_S A s.heap s.heap [] := va_S.rf
  have hl := lv_entry ([.ref (ad 0)]) (n := 3) (Nat.le_of_ble_eq_true rfl)
  rw [lg_entry_eq]
  generalize (lg_sl ([.ref (ad 0)]) ++ List.replicate (3 - (lg_sl ([.ref (ad 0)])).length) Slot.unset).toArray = ls at hl ⊢
  have hl : lv_has ls 3 [(0, .ref (ad 0))] := hl
  exact t_Mod_writeFront_e hx hb hml hown hT hK hN hA (Nat.le_refl 0) (Nat.le_refl 0) (Nat.le_refl 4) (Nat.le_refl 97) (fun x H locs pc ls hd hp hW hS => W.vret hx hb hr (fun t ht hM => ⟨⟨x, rfl, hp, Wd.back hW ht.symm (fun _ z => z)⟩, hS.F ht⟩) hS.2.2 hd hlocks)   x _ _ ls  hw hW hS hl
set_option maxRecDepth 100000 in
def j_Mod_sameText_79 (post : Int32 → St → Prop) (l1 : Int32) (l2 : Int32) (l3 : Int32) (l4 : Int32) (x : St) : Prop := (narrow .boolean (.int l3) = .int l3 ∧ post l3 x)
set_option maxHeartbeats 4000000 in
set_option maxRecDepth 100000 in
theorem t_Mod_sameText_79 {p : Program} {l : Launch} {e : Env} {R : Room} {s : State} {m : MethodId} {args : Array Value} {below : List Frame} {meth : Method} {c : Code} {cells slots : Nat} {Q : State → Prop} {dC : Nat → ClassId} {dI : Nat → Nat → Nat} {cI cB cJ cZ : ClassId} {A : Nat → Prop} {ad : Nat → Nat} {post : Int32 → St → Prop} (hx : p.tables.exec = Jvm.exec) (hb : c.code = b_Mod_sameText) (hml : c.maxLocals = 5) (hown : s.vm.findClass R_Mod = some m.cls) (hT : ∀ w ∈ TG, w.before args s = true) (hK : va_K (dC, dI) CL (TY cI cB cJ cZ) s) (hN : NW s) (hA : ∀ q : Nat, s.heap.size ≤ q → A q) (hRc : cells ≤ R.cells) (hRs : slots ≤ R.slots) (hRf : 1 ≤ R.frames) (hRl : 21 ≤ R.locals) (hret : ∀ (r : Int32) (x : St) (H : Heap) (locs : List Loc) (pc : Nat) (ls : Array Slot), decode b_Mod_sameText pc = .ok (.ireturn, 1) → narrow .boolean (.int r) = .int r → post r x → Wd dC dI cI cB cJ cZ ad stM kcM 115 A x H → va_S A s.heap H locs → W p l e R s m args below meth c H locs cells slots Q (F0 m pc ls [.int r]))  : ∀ (l1 : Int32) (l2 : Int32) (l3 : Int32) (l4 : Int32) (x : St) (H : Heap) (locs : List Loc) (ls : Array Slot), j_Mod_sameText_79 post l1 l2 l3 l4 x → Wd dC dI cI cB cJ cZ ad stM kcM 115 A x H → va_S A s.heap H locs → lv_has ls 5 [(0, .ref (ad 0)), (1, .int l1), (2, .int l2), (3, .int l3), (4, .int l4)] → W p l e R s m args below meth c H locs cells slots Q (F0 m 79 ls []) := by
  intro l1 l2 l3 l4 x H locs ls  hw hW hS hl
  unfold j_Mod_sameText_79 at hw
  refine lv_iload_n hx hb d_Mod_sameText_79 rfl (lv_at hl 3 rfl) ?_
  exact hret l3 x H locs 80 ls d_Mod_sameText_80 hw.1 hw.2 hW hS
set_option maxRecDepth 100000 in
def j_Mod_sameText_72 (post : Int32 → St → Prop) (rec22 : Int32 → Int32 → Int32 → Int32 → St → Prop) (l1 : Int32) (l2 : Int32) (l3 : Int32) (l4 : Int32) (s0 : Int32) (x : St) : Prop := rec22 l1 l2 s0 (l4 + 1) x
set_option maxHeartbeats 4000000 in
set_option maxRecDepth 100000 in
theorem t_Mod_sameText_72 {p : Program} {l : Launch} {e : Env} {R : Room} {s : State} {m : MethodId} {args : Array Value} {below : List Frame} {meth : Method} {c : Code} {cells slots : Nat} {Q : State → Prop} {dC : Nat → ClassId} {dI : Nat → Nat → Nat} {cI cB cJ cZ : ClassId} {A : Nat → Prop} {ad : Nat → Nat} {post : Int32 → St → Prop} {rec22 : Int32 → Int32 → Int32 → Int32 → St → Prop} (hx : p.tables.exec = Jvm.exec) (hb : c.code = b_Mod_sameText) (hml : c.maxLocals = 5) (hown : s.vm.findClass R_Mod = some m.cls) (hT : ∀ w ∈ TG, w.before args s = true) (hK : va_K (dC, dI) CL (TY cI cB cJ cZ) s) (hN : NW s) (hA : ∀ q : Nat, s.heap.size ≤ q → A q) (hRc : cells ≤ R.cells) (hRs : slots ≤ R.slots) (hRf : 1 ≤ R.frames) (hRl : 21 ≤ R.locals) (hret : ∀ (r : Int32) (x : St) (H : Heap) (locs : List Loc) (pc : Nat) (ls : Array Slot), decode b_Mod_sameText pc = .ok (.ireturn, 1) → narrow .boolean (.int r) = .int r → post r x → Wd dC dI cI cB cJ cZ ad stM kcM 115 A x H → va_S A s.heap H locs → W p l e R s m args below meth c H locs cells slots Q (F0 m pc ls [.int r])) (hrec22 : ∀ (l1 : Int32) (l2 : Int32) (l3 : Int32) (l4 : Int32) (x : St) (H : Heap) (locs : List Loc) (ls : Array Slot), rec22 l1 l2 l3 l4 x → Wd dC dI cI cB cJ cZ ad stM kcM 115 A x H → va_S A s.heap H locs → lv_has ls 5 [(0, .ref (ad 0)), (1, .int l1), (2, .int l2), (3, .int l3), (4, .int l4)] → W p l e R s m args below meth c H locs cells slots Q (F0 m 22 ls [])) : ∀ (l1 : Int32) (l2 : Int32) (l3 : Int32) (l4 : Int32) (s0 : Int32) (x : St) (H : Heap) (locs : List Loc) (ls : Array Slot), j_Mod_sameText_72 post rec22 l1 l2 l3 l4 s0 x → Wd dC dI cI cB cJ cZ ad stM kcM 115 A x H → va_S A s.heap H locs → lv_has ls 5 [(0, .ref (ad 0)), (1, .int l1), (2, .int l2), (3, .int l3), (4, .int l4)] → W p l e R s m args below meth c H locs cells slots Q (F0 m 72 ls [.int s0]) := by
  intro l1 l2 l3 l4 s0 x H locs ls  hw hW hS hl
  unfold j_Mod_sameText_72 at hw
  refine lv_istore_n (lv' := [(3, .int s0), (0, .ref (ad 0)), (1, .int l1), (2, .int l2), (4, .int l4)]) hx hb d_Mod_sameText_72 rfl hl (by decide) rfl (fun ls hl => ?_)
  refine lv_iinc (v := (l4 + 1)) (lv' := [(4, .int (l4 + 1)), (3, .int s0), (0, .ref (ad 0)), (1, .int l1), (2, .int l2)]) hx hb d_Mod_sameText_73 hl (k := 4) rfl rfl (by decide) rfl (fun ls hl => ?_)
  refine lv_goto (tgt := 22) hx hb d_Mod_sameText_76 (by decide) ?_
  exact hrec22 l1 l2 s0 (l4 + 1) x H locs ls  hw hW hS (lv_sub hl [2, 3, 4, 1, 0] rfl)
set_option maxRecDepth 100000 in
def j_Mod_sameText_22 (post : Int32 → St → Prop) (rec22 : Int32 → Int32 → Int32 → Int32 → St → Prop) (l1 : Int32) (l2 : Int32) (l3 : Int32) (l4 : Int32) (x : St) : Prop := ((l3 = 0 → j_Mod_sameText_79 post l1 l2 l3 l4 x) ∧ (¬ l3 = 0 → wp_Mod_lengthOf (fun (r654 : Int32) (x653 : St) => ((r654 ≤ l4 → j_Mod_sameText_79 post l1 l2 l3 l4 x653) ∧ (¬ r654 ≤ l4 → (vp_in l1 (fN x653 33) ∧ (vp_in ((rA x653 33 l1) + l4) (fN x653 36) ∧ (vp_in l2 (fN x653 33) ∧ (vp_in ((rA x653 33 l2) + l4) (fN x653 36) ∧ ((¬ (rA x653 36 ((rA x653 33 l1) + l4)) = (rA x653 36 ((rA x653 33 l2) + l4)) → j_Mod_sameText_72 post rec22 l1 l2 l3 l4 0 x653) ∧ ((rA x653 36 ((rA x653 33 l1) + l4)) = (rA x653 36 ((rA x653 33 l2) + l4)) → j_Mod_sameText_72 post rec22 l1 l2 l3 l4 1 x653))))))))) l2 x))
set_option maxHeartbeats 4000000 in
set_option maxRecDepth 100000 in
theorem t_Mod_sameText_22 {p : Program} {l : Launch} {e : Env} {R : Room} {s : State} {m : MethodId} {args : Array Value} {below : List Frame} {meth : Method} {c : Code} {cells slots : Nat} {Q : State → Prop} {dC : Nat → ClassId} {dI : Nat → Nat → Nat} {cI cB cJ cZ : ClassId} {A : Nat → Prop} {ad : Nat → Nat} {post : Int32 → St → Prop} {rec22 : Int32 → Int32 → Int32 → Int32 → St → Prop} (hx : p.tables.exec = Jvm.exec) (hb : c.code = b_Mod_sameText) (hml : c.maxLocals = 5) (hown : s.vm.findClass R_Mod = some m.cls) (hT : ∀ w ∈ TG, w.before args s = true) (hK : va_K (dC, dI) CL (TY cI cB cJ cZ) s) (hN : NW s) (hA : ∀ q : Nat, s.heap.size ≤ q → A q) (hRc : cells ≤ R.cells) (hRs : slots ≤ R.slots) (hRf : 1 ≤ R.frames) (hRl : 21 ≤ R.locals) (hret : ∀ (r : Int32) (x : St) (H : Heap) (locs : List Loc) (pc : Nat) (ls : Array Slot), decode b_Mod_sameText pc = .ok (.ireturn, 1) → narrow .boolean (.int r) = .int r → post r x → Wd dC dI cI cB cJ cZ ad stM kcM 115 A x H → va_S A s.heap H locs → W p l e R s m args below meth c H locs cells slots Q (F0 m pc ls [.int r])) (hrec22 : ∀ (l1 : Int32) (l2 : Int32) (l3 : Int32) (l4 : Int32) (x : St) (H : Heap) (locs : List Loc) (ls : Array Slot), rec22 l1 l2 l3 l4 x → Wd dC dI cI cB cJ cZ ad stM kcM 115 A x H → va_S A s.heap H locs → lv_has ls 5 [(0, .ref (ad 0)), (1, .int l1), (2, .int l2), (3, .int l3), (4, .int l4)] → W p l e R s m args below meth c H locs cells slots Q (F0 m 22 ls [])) : ∀ (l1 : Int32) (l2 : Int32) (l3 : Int32) (l4 : Int32) (x : St) (H : Heap) (locs : List Loc) (ls : Array Slot), j_Mod_sameText_22 post rec22 l1 l2 l3 l4 x → Wd dC dI cI cB cJ cZ ad stM kcM 115 A x H → va_S A s.heap H locs → lv_has ls 5 [(0, .ref (ad 0)), (1, .int l1), (2, .int l2), (3, .int l3), (4, .int l4)] → W p l e R s m args below meth c H locs cells slots Q (F0 m 22 ls []) := by
  intro l1 l2 l3 l4 x H locs ls  hw hW hS hl
  unfold j_Mod_sameText_22 at hw
  refine lv_iload_n hx hb d_Mod_sameText_22 rfl (lv_at hl 3 rfl) ?_
  refine lv_if_eq (tgt := 79) hx hb d_Mod_sameText_23 (by decide) (fun c652 => ?_) (fun c652 => ?_)
  · have hw := hw.1 c652
    exact t_Mod_sameText_79 hx hb hml hown hT hK hN hA hRc hRs hRf hRl hret  l1 l2 l3 l4 x H locs ls  hw hW hS (lv_sub hl [0, 1, 2, 3, 4] rfl)
  · have hw := hw.2 c652
    refine lv_iload hx hb d_Mod_sameText_26 (lv_at hl 4 rfl) ?_
    refine lv_aload_n hx hb d_Mod_sameText_28 rfl (lv_at hl 0 rfl) ?_
    refine lv_iload_n hx hb d_Mod_sameText_29 rfl (lv_at hl 2 rfl) ?_
    have hF := hW.free hS hA
    refine va_calli (va_runV (C := R_Mod) (As := [.int l2]) (rest := [.int l4]) ⟨hx, hb, hml, hown, hT⟩ (k_Mod_lengthOf l dC dI cI cB cJ cZ ad H.size l2 x  hw) ⟨callB_of 1 hT (gw_in w_12_7) rfl rfl rfl (hT _ w_1_15) (hT _ w_12_4) (by decide +kernel) ⟨Nat.le_trans (by decide) hRf, Nat.le_trans (by decide) hRl⟩, hT _ w_12_6, hT _ ws_164⟩ ⟨PW.blind, va_recv hK hW.1 (ci := 12) (q0 := 0) rfl (pic_obj ko_0.1 ko_0.2 (by decide)), PW.at _ hW hK hN⟩ rfl rfl hl.1 rfl (lv_room (Nat.le_of_ble_eq_true rfl)) d_Mod_sameText_30 ⟨hRc, hRs⟩) hS (fun q _ h => hF q h) hF (fun r654 x653 t H locs ht hvm hw hB hz1 hk1 hS => ?_)
    have hW := Wd.back hB ht hF
    clear hB ht hF hz1 hk1 hvm
    refine lv_icmp_ge (tgt := 79) hx hb d_Mod_sameText_33 (by decide) (fun c655 => ?_) (fun c655 => ?_)
    · have hw := hw.1 c655
      exact t_Mod_sameText_79 hx hb hml hown hT hK hN hA hRc hRs hRf hRl hret  l1 l2 l3 l4 x653 H locs ls  hw hW hS (lv_sub hl [0, 1, 2, 3, 4] rfl)
    · have hw := hw.2 c655
      refine lv_aload_n hx hb d_Mod_sameText_36 rfl (lv_at hl 0 rfl) ?_
      refine w_getf (q := 36) (k := 55) (t := 12) (C := R_Mod) (T := F_Mod) (N := 167) hx hb hT hown hK hW ko_0.1 ko_0.2 (by decide) in_Mod rfl rfl (by decide) rfl fr_Mod_55 w_8_235 d_Mod_sameText_37 rfl ?_
      refine lv_aload_n hx hb d_Mod_sameText_40 rfl (lv_at hl 0 rfl) ?_
      refine w_getf (q := 33) (k := 52) (t := 12) (C := R_Mod) (T := F_Mod) (N := 167) hx hb hT hown hK hW ko_0.1 ko_0.2 (by decide) in_Mod rfl rfl (by decide) rfl fr_Mod_52 w_8_232 d_Mod_sameText_41 rfl ?_
      refine lv_iload_n hx hb d_Mod_sameText_44 rfl (lv_at hl 1 rfl) ?_
      obtain ⟨hi, hw⟩ := hw
      refine w_iald (o := 33) hx hb hK hW ko_33.1 ko_33.2 hi d_Mod_sameText_45 ?_
      refine lv_iload hx hb d_Mod_sameText_46 (lv_at hl 4 rfl) ?_
      refine lv_iadd hx hb d_Mod_sameText_48 ?_
      obtain ⟨hi, hw⟩ := hw
      refine w_iald (o := 36) hx hb hK hW ko_36.1 ko_36.2 hi d_Mod_sameText_49 ?_
      refine lv_aload_n hx hb d_Mod_sameText_50 rfl (lv_at hl 0 rfl) ?_
      refine w_getf (q := 36) (k := 55) (t := 12) (C := R_Mod) (T := F_Mod) (N := 167) hx hb hT hown hK hW ko_0.1 ko_0.2 (by decide) in_Mod rfl rfl (by decide) rfl fr_Mod_55 w_8_235 d_Mod_sameText_51 rfl ?_
      refine lv_aload_n hx hb d_Mod_sameText_54 rfl (lv_at hl 0 rfl) ?_
      refine w_getf (q := 33) (k := 52) (t := 12) (C := R_Mod) (T := F_Mod) (N := 167) hx hb hT hown hK hW ko_0.1 ko_0.2 (by decide) in_Mod rfl rfl (by decide) rfl fr_Mod_52 w_8_232 d_Mod_sameText_55 rfl ?_
      refine lv_iload_n hx hb d_Mod_sameText_58 rfl (lv_at hl 2 rfl) ?_
      obtain ⟨hi, hw⟩ := hw
      refine w_iald (o := 33) hx hb hK hW ko_33.1 ko_33.2 hi d_Mod_sameText_59 ?_
      refine lv_iload hx hb d_Mod_sameText_60 (lv_at hl 4 rfl) ?_
      refine lv_iadd hx hb d_Mod_sameText_62 ?_
      obtain ⟨hi, hw⟩ := hw
      refine w_iald (o := 36) hx hb hK hW ko_36.1 ko_36.2 hi d_Mod_sameText_63 ?_
      refine lv_icmp_ne (tgt := 71) hx hb d_Mod_sameText_64 (by decide) (fun c656 => ?_) (fun c656 => ?_)
      · have hw := hw.1 c656
        refine lv_iconst (v := 0) hx hb d_Mod_sameText_71 (by decide) ?_
        exact t_Mod_sameText_72 hx hb hml hown hT hK hN hA hRc hRs hRf hRl hret hrec22 l1 l2 l3 l4 0 x653 H locs ls  hw hW hS (lv_sub hl [0, 1, 2, 3, 4] rfl)
      · have hw := hw.2 c656
        refine lv_iconst (v := 1) hx hb d_Mod_sameText_67 (by decide) ?_
        refine lv_goto (tgt := 72) hx hb d_Mod_sameText_68 (by decide) ?_
        exact t_Mod_sameText_72 hx hb hml hown hT hK hN hA hRc hRs hRf hRl hret hrec22 l1 l2 l3 l4 1 x653 H locs ls  hw hW hS (lv_sub hl [0, 1, 2, 3, 4] rfl)
def wl_Mod_sameText_22 (post : Int32 → St → Prop) : Nat → Int32 → Int32 → Int32 → Int32 → St → Prop
  | 0 => fun _ _ _ _ _ => False
  | n + 1 => j_Mod_sameText_22 post (wl_Mod_sameText_22 post n)
set_option maxHeartbeats 4000000 in
set_option maxRecDepth 100000 in
theorem tl_Mod_sameText_22 {p : Program} {l : Launch} {e : Env} {R : Room} {s : State} {m : MethodId} {args : Array Value} {below : List Frame} {meth : Method} {c : Code} {cells slots : Nat} {Q : State → Prop} {dC : Nat → ClassId} {dI : Nat → Nat → Nat} {cI cB cJ cZ : ClassId} {A : Nat → Prop} {ad : Nat → Nat} {post : Int32 → St → Prop} (hx : p.tables.exec = Jvm.exec) (hb : c.code = b_Mod_sameText) (hml : c.maxLocals = 5) (hown : s.vm.findClass R_Mod = some m.cls) (hT : ∀ w ∈ TG, w.before args s = true) (hK : va_K (dC, dI) CL (TY cI cB cJ cZ) s) (hN : NW s) (hA : ∀ q : Nat, s.heap.size ≤ q → A q) (hRc : cells ≤ R.cells) (hRs : slots ≤ R.slots) (hRf : 1 ≤ R.frames) (hRl : 21 ≤ R.locals) (hret : ∀ (r : Int32) (x : St) (H : Heap) (locs : List Loc) (pc : Nat) (ls : Array Slot), decode b_Mod_sameText pc = .ok (.ireturn, 1) → narrow .boolean (.int r) = .int r → post r x → Wd dC dI cI cB cJ cZ ad stM kcM 115 A x H → va_S A s.heap H locs → W p l e R s m args below meth c H locs cells slots Q (F0 m pc ls [.int r]))  : ∀ n : Nat, ∀ (l1 : Int32) (l2 : Int32) (l3 : Int32) (l4 : Int32) (x : St) (H : Heap) (locs : List Loc) (ls : Array Slot), wl_Mod_sameText_22 post n l1 l2 l3 l4 x → Wd dC dI cI cB cJ cZ ad stM kcM 115 A x H → va_S A s.heap H locs → lv_has ls 5 [(0, .ref (ad 0)), (1, .int l1), (2, .int l2), (3, .int l3), (4, .int l4)] → W p l e R s m args below meth c H locs cells slots Q (F0 m 22 ls []) := by
  intro n
  induction n with
  | zero => intro l1 l2 l3 l4 x H locs ls  hw; exact hw.elim
  | succ n ih => intro l1 l2 l3 l4 x H locs ls  hw hW hS hl; exact t_Mod_sameText_22 hx hb hml hown hT hK hN hA hRc hRs hRf hRl hret  ih l1 l2 l3 l4 x H locs ls  hw hW hS hl
set_option maxRecDepth 100000 in
def j_Mod_sameText_18 (post : Int32 → St → Prop) (l1 : Int32) (l2 : Int32) (s0 : Int32) (x : St) : Prop := ∃ n : Nat, wl_Mod_sameText_22 post n l1 l2 s0 0 x
set_option maxHeartbeats 4000000 in
set_option maxRecDepth 100000 in
theorem t_Mod_sameText_18 {p : Program} {l : Launch} {e : Env} {R : Room} {s : State} {m : MethodId} {args : Array Value} {below : List Frame} {meth : Method} {c : Code} {cells slots : Nat} {Q : State → Prop} {dC : Nat → ClassId} {dI : Nat → Nat → Nat} {cI cB cJ cZ : ClassId} {A : Nat → Prop} {ad : Nat → Nat} {post : Int32 → St → Prop} (hx : p.tables.exec = Jvm.exec) (hb : c.code = b_Mod_sameText) (hml : c.maxLocals = 5) (hown : s.vm.findClass R_Mod = some m.cls) (hT : ∀ w ∈ TG, w.before args s = true) (hK : va_K (dC, dI) CL (TY cI cB cJ cZ) s) (hN : NW s) (hA : ∀ q : Nat, s.heap.size ≤ q → A q) (hRc : cells ≤ R.cells) (hRs : slots ≤ R.slots) (hRf : 1 ≤ R.frames) (hRl : 21 ≤ R.locals) (hret : ∀ (r : Int32) (x : St) (H : Heap) (locs : List Loc) (pc : Nat) (ls : Array Slot), decode b_Mod_sameText pc = .ok (.ireturn, 1) → narrow .boolean (.int r) = .int r → post r x → Wd dC dI cI cB cJ cZ ad stM kcM 115 A x H → va_S A s.heap H locs → W p l e R s m args below meth c H locs cells slots Q (F0 m pc ls [.int r]))  : ∀ (l1 : Int32) (l2 : Int32) (s0 : Int32) (x : St) (H : Heap) (locs : List Loc) (ls : Array Slot), j_Mod_sameText_18 post l1 l2 s0 x → Wd dC dI cI cB cJ cZ ad stM kcM 115 A x H → va_S A s.heap H locs → lv_has ls 5 [(0, .ref (ad 0)), (1, .int l1), (2, .int l2)] → W p l e R s m args below meth c H locs cells slots Q (F0 m 18 ls [.int s0]) := by
  intro l1 l2 s0 x H locs ls  hw hW hS hl
  unfold j_Mod_sameText_18 at hw
  refine lv_istore_n (lv' := [(3, .int s0), (0, .ref (ad 0)), (1, .int l1), (2, .int l2)]) hx hb d_Mod_sameText_18 rfl hl (by decide) rfl (fun ls hl => ?_)
  refine lv_iconst (v := 0) hx hb d_Mod_sameText_19 (by decide) ?_
  refine lv_istore (lv' := [(4, .int 0), (3, .int s0), (0, .ref (ad 0)), (1, .int l1), (2, .int l2)]) hx hb d_Mod_sameText_20 hl (by decide) rfl (fun ls hl => ?_)
  obtain ⟨n, hw⟩ := hw
  exact tl_Mod_sameText_22 hx hb hml hown hT hK hN hA hRc hRs hRf hRl hret  n l1 l2 s0 0 x H locs ls  hw hW hS (lv_sub hl [2, 3, 4, 1, 0] rfl)
set_option maxRecDepth 100000 in
def wp_Mod_sameText (post : Int32 → St → Prop) (l1 : Int32) (l2 : Int32) (x : St) : Prop := wp_Mod_lengthOf (fun (r658 : Int32) (x657 : St) => wp_Mod_lengthOf (fun (r660 : Int32) (x659 : St) => ((¬ r658 = r660 → j_Mod_sameText_18 post l1 l2 0 x659) ∧ (r658 = r660 → j_Mod_sameText_18 post l1 l2 1 x659))) l2 x657) l1 x
set_option maxHeartbeats 4000000 in
set_option maxRecDepth 100000 in
theorem t_Mod_sameText_e {p : Program} {l : Launch} {e : Env} {R : Room} {s : State} {m : MethodId} {args : Array Value} {below : List Frame} {meth : Method} {c : Code} {cells slots : Nat} {Q : State → Prop} {dC : Nat → ClassId} {dI : Nat → Nat → Nat} {cI cB cJ cZ : ClassId} {A : Nat → Prop} {ad : Nat → Nat} {post : Int32 → St → Prop} (hx : p.tables.exec = Jvm.exec) (hb : c.code = b_Mod_sameText) (hml : c.maxLocals = 5) (hown : s.vm.findClass R_Mod = some m.cls) (hT : ∀ w ∈ TG, w.before args s = true) (hK : va_K (dC, dI) CL (TY cI cB cJ cZ) s) (hN : NW s) (hA : ∀ q : Nat, s.heap.size ≤ q → A q) (hRc : cells ≤ R.cells) (hRs : slots ≤ R.slots) (hRf : 1 ≤ R.frames) (hRl : 21 ≤ R.locals) (hret : ∀ (r : Int32) (x : St) (H : Heap) (locs : List Loc) (pc : Nat) (ls : Array Slot), decode b_Mod_sameText pc = .ok (.ireturn, 1) → narrow .boolean (.int r) = .int r → post r x → Wd dC dI cI cB cJ cZ ad stM kcM 115 A x H → va_S A s.heap H locs → W p l e R s m args below meth c H locs cells slots Q (F0 m pc ls [.int r])) : ∀ (l1 : Int32) (l2 : Int32) (x : St) (H : Heap) (locs : List Loc) (ls : Array Slot), wp_Mod_sameText post l1 l2 x → Wd dC dI cI cB cJ cZ ad stM kcM 115 A x H → va_S A s.heap H locs → lv_has ls 5 [(0, .ref (ad 0)), (1, .int l1), (2, .int l2)] → W p l e R s m args below meth c H locs cells slots Q (F0 m 0 ls []) := by
  intro l1 l2 x H locs ls  hw hW hS hl
  unfold wp_Mod_sameText at hw
  refine lv_aload_n hx hb d_Mod_sameText_0 rfl (lv_at hl 0 rfl) ?_
  refine lv_iload_n hx hb d_Mod_sameText_1 rfl (lv_at hl 1 rfl) ?_
  have hF := hW.free hS hA
  refine va_calli (va_runV (C := R_Mod) (As := [.int l1]) (rest := []) ⟨hx, hb, hml, hown, hT⟩ (k_Mod_lengthOf l dC dI cI cB cJ cZ ad H.size l1 x  hw) ⟨callB_of 1 hT (gw_in w_12_7) rfl rfl rfl (hT _ w_1_15) (hT _ w_12_4) (by decide +kernel) ⟨Nat.le_trans (by decide) hRf, Nat.le_trans (by decide) hRl⟩, hT _ w_12_6, hT _ ws_164⟩ ⟨PW.blind, va_recv hK hW.1 (ci := 12) (q0 := 0) rfl (pic_obj ko_0.1 ko_0.2 (by decide)), PW.at _ hW hK hN⟩ rfl rfl hl.1 rfl (lv_room (Nat.le_of_ble_eq_true rfl)) d_Mod_sameText_2 ⟨hRc, hRs⟩) hS (fun q _ h => hF q h) hF (fun r658 x657 t H locs ht hvm hw hB hz1 hk1 hS => ?_)
  have hW := Wd.back hB ht hF
  clear hB ht hF hz1 hk1 hvm
  refine lv_aload_n hx hb d_Mod_sameText_5 rfl (lv_at hl 0 rfl) ?_
  refine lv_iload_n hx hb d_Mod_sameText_6 rfl (lv_at hl 2 rfl) ?_
  have hF := hW.free hS hA
  refine va_calli (va_runV (C := R_Mod) (As := [.int l2]) (rest := [.int r658]) ⟨hx, hb, hml, hown, hT⟩ (k_Mod_lengthOf l dC dI cI cB cJ cZ ad H.size l2 x657  hw) ⟨callB_of 1 hT (gw_in w_12_7) rfl rfl rfl (hT _ w_1_15) (hT _ w_12_4) (by decide +kernel) ⟨Nat.le_trans (by decide) hRf, Nat.le_trans (by decide) hRl⟩, hT _ w_12_6, hT _ ws_164⟩ ⟨PW.blind, va_recv hK hW.1 (ci := 12) (q0 := 0) rfl (pic_obj ko_0.1 ko_0.2 (by decide)), PW.at _ hW hK hN⟩ rfl rfl hl.1 rfl (lv_room (Nat.le_of_ble_eq_true rfl)) d_Mod_sameText_7 ⟨hRc, hRs⟩) hS (fun q _ h => hF q h) hF (fun r660 x659 t H locs ht hvm hw hB hz1 hk1 hS => ?_)
  have hW := Wd.back hB ht hF
  clear hB ht hF hz1 hk1 hvm
  refine lv_icmp_ne (tgt := 17) hx hb d_Mod_sameText_10 (by decide) (fun c661 => ?_) (fun c661 => ?_)
  · have hw := hw.1 c661
    refine lv_iconst (v := 0) hx hb d_Mod_sameText_17 (by decide) ?_
    exact t_Mod_sameText_18 hx hb hml hown hT hK hN hA hRc hRs hRf hRl hret  l1 l2 0 x659 H locs ls  hw hW hS (lv_sub hl [0, 1, 2] rfl)
  · have hw := hw.2 c661
    refine lv_iconst (v := 1) hx hb d_Mod_sameText_13 (by decide) ?_
    refine lv_goto (tgt := 18) hx hb d_Mod_sameText_14 (by decide) ?_
    exact t_Mod_sameText_18 hx hb hml hown hT hK hN hA hRc hRs hRf hRl hret  l1 l2 1 x659 H locs ls  hw hW hS (lv_sub hl [0, 1, 2] rfl)
set_option maxHeartbeats 4000000 in
set_option maxRecDepth 100000 in
theorem k_Mod_sameText (l : Launch) (dC : Nat → ClassId) (dI : Nat → Nat → Nat) (cI cB cJ cZ : ClassId) (ad : Nat → Nat) (sz : Nat) (l1 : Int32) (l2 : Int32) (x : St) {post : Int32 → St → Prop} (hw : wp_Mod_sameText post l1 l2 x) : Met l y_Mod_sameText (wsOf y_Mod_sameText b_Mod_sameText 5 (some (.boolean))) ({ frames := 1, cells := 0, slots := 0, locals := 21 }) (va_Pc [.ref (ad 0), .int l1, .int l2] (PW dC dI cI cB cJ cZ ad stM kcM 115 sz x)) (va_Qi (fun (r : Int32) (y : St) => post r y) (fun y t => Wd dC dI cI cB cJ cZ ad stM kcM 115 (va_A (pic ad stM kcM 115 cI cB cJ cZ x) sz) y t.heap) (va_A (pic ad stM kcM 115 cI cB cJ cZ x) sz)) 0 0 (va_A (pic ad stM kcM 115 cI cB cJ cZ x) sz) := by
  refine Met.ofW (cc := b_Mod_sameText) (maxL := 5) (ret := some (.boolean)) (by decide) rfl ?_
  intro p e s m args below meth c s₁ B hml hv
  obtain ⟨rfl, hsz, hW0, hK, hN⟩ := hv
  have hx := B.exec
  have hb := B.bytes
  have hr := B.returns
  have hts := atoms_spec B.pre
  have hT : ∀ w ∈ TG, w.before _ s = true := fun w h => hts w (List.mem_cons_of_mem _ h)
  have hown : s.vm.findClass R_Mod = some m.cls := findClass_of_methodNamed B.named
  have hlocks := B.notSynchronized
  subst hsz
  have hW : Wd dC dI cI cB cJ cZ ad stM kcM 115 (va_A (pic ad stM kcM 115 cI cB cJ cZ x) s.heap.size) x s.heap := ⟨hW0.1, hW0.2.1.self (sz := s.heap.size), hW0.2.2⟩
  generalize hAe : va_A (pic ad stM kcM 115 cI cB cJ cZ x) s.heap.size = A at hW ⊢
  have hA : ∀ q : Nat, s.heap.size ≤ q → A q := fun q h => by rw [← hAe]; exact Or.inr h
  have hS : va_S A s.heap s.heap [] := va_S.rf
  have hl := lv_entry ([.ref (ad 0), .int l1, .int l2]) (n := 5) (Nat.le_of_ble_eq_true rfl)
  rw [lg_entry_eq]
  generalize (lg_sl ([.ref (ad 0), .int l1, .int l2]) ++ List.replicate (5 - (lg_sl ([.ref (ad 0), .int l1, .int l2])).length) Slot.unset).toArray = ls at hl ⊢
  have hl : lv_has ls 5 [(0, .ref (ad 0)), (1, .int l1), (2, .int l2)] := hl
  exact t_Mod_sameText_e hx hb hml hown hT hK hN hA (Nat.le_refl 0) (Nat.le_refl 0) (Nat.le_refl 1) (Nat.le_refl 21) (fun r x H locs pc ls hd hz hp hW hS => W.zret (v := r) (ty := .boolean) hx hb hr hz (fun t ht hM => ⟨⟨r, x, rfl, hp, Wd.back hW ht.symm (fun _ z => z)⟩, hS.F ht⟩) hS.2.2 hd hlocks)  l1 l2 x _ _ ls  hw hW hS hl
set_option maxRecDepth 100000 in
def j_Mod_firstLike_2 (post : Int32 → St → Prop) (rec2 : Int32 → Int32 → St → Prop) (l1 : Int32) (l2 : Int32) (x : St) : Prop := wp_Mod_sameText (fun (r663 : Int32) (x662 : St) => ((¬ r663 = 0 → post l2 x662) ∧ (r663 = 0 → rec2 l1 (l2 + 1) x662))) l2 l1 x
set_option maxHeartbeats 4000000 in
set_option maxRecDepth 100000 in
theorem t_Mod_firstLike_2 {p : Program} {l : Launch} {e : Env} {R : Room} {s : State} {m : MethodId} {args : Array Value} {below : List Frame} {meth : Method} {c : Code} {cells slots : Nat} {Q : State → Prop} {dC : Nat → ClassId} {dI : Nat → Nat → Nat} {cI cB cJ cZ : ClassId} {A : Nat → Prop} {ad : Nat → Nat} {post : Int32 → St → Prop} {rec2 : Int32 → Int32 → St → Prop} (hx : p.tables.exec = Jvm.exec) (hb : c.code = b_Mod_firstLike) (hml : c.maxLocals = 3) (hown : s.vm.findClass R_Mod = some m.cls) (hT : ∀ w ∈ TG, w.before args s = true) (hK : va_K (dC, dI) CL (TY cI cB cJ cZ) s) (hN : NW s) (hA : ∀ q : Nat, s.heap.size ≤ q → A q) (hRc : cells ≤ R.cells) (hRs : slots ≤ R.slots) (hRf : 2 ≤ R.frames) (hRl : 45 ≤ R.locals) (hret : ∀ (r : Int32) (x : St) (H : Heap) (locs : List Loc) (pc : Nat) (ls : Array Slot), decode b_Mod_firstLike pc = .ok (.ireturn, 1) → post r x → Wd dC dI cI cB cJ cZ ad stM kcM 115 A x H → va_S A s.heap H locs → W p l e R s m args below meth c H locs cells slots Q (F0 m pc ls [.int r])) (hrec2 : ∀ (l1 : Int32) (l2 : Int32) (x : St) (H : Heap) (locs : List Loc) (ls : Array Slot), rec2 l1 l2 x → Wd dC dI cI cB cJ cZ ad stM kcM 115 A x H → va_S A s.heap H locs → lv_has ls 3 [(0, .ref (ad 0)), (1, .int l1), (2, .int l2)] → W p l e R s m args below meth c H locs cells slots Q (F0 m 2 ls [])) : ∀ (l1 : Int32) (l2 : Int32) (x : St) (H : Heap) (locs : List Loc) (ls : Array Slot), j_Mod_firstLike_2 post rec2 l1 l2 x → Wd dC dI cI cB cJ cZ ad stM kcM 115 A x H → va_S A s.heap H locs → lv_has ls 3 [(0, .ref (ad 0)), (1, .int l1), (2, .int l2)] → W p l e R s m args below meth c H locs cells slots Q (F0 m 2 ls []) := by
  intro l1 l2 x H locs ls  hw hW hS hl
  unfold j_Mod_firstLike_2 at hw
  refine lv_aload_n hx hb d_Mod_firstLike_2 rfl (lv_at hl 0 rfl) ?_
  refine lv_iload_n hx hb d_Mod_firstLike_3 rfl (lv_at hl 2 rfl) ?_
  refine lv_iload_n hx hb d_Mod_firstLike_4 rfl (lv_at hl 1 rfl) ?_
  have hF := hW.free hS hA
  refine va_calli (va_runV (C := R_Mod) (As := [.int l2, .int l1]) (rest := []) ⟨hx, hb, hml, hown, hT⟩ (k_Mod_sameText l dC dI cI cB cJ cZ ad H.size l2 l1 x  hw) ⟨callB_of 2 hT (gw_in w_12_31) rfl rfl rfl (hT _ w_1_15) (hT _ w_12_28) (by decide +kernel) ⟨Nat.le_trans (by decide) hRf, Nat.le_trans (by decide) hRl⟩, hT _ w_12_30, hT _ ws_170⟩ ⟨PW.blind, va_recv hK hW.1 (ci := 12) (q0 := 0) rfl (pic_obj ko_0.1 ko_0.2 (by decide)), PW.at _ hW hK hN⟩ rfl rfl hl.1 rfl (lv_room (Nat.le_of_ble_eq_true rfl)) d_Mod_firstLike_5 ⟨hRc, hRs⟩) hS (fun q _ h => hF q h) hF (fun r663 x662 t H locs ht hvm hw hB hz1 hk1 hS => ?_)
  have hW := Wd.back hB ht hF
  clear hB ht hF hz1 hk1 hvm
  refine lv_if_ne (tgt := 17) hx hb d_Mod_firstLike_8 (by decide) (fun c664 => ?_) (fun c664 => ?_)
  · have hw := hw.1 c664
    refine lv_iload_n hx hb d_Mod_firstLike_17 rfl (lv_at hl 2 rfl) ?_
    exact hret l2 x662 H locs 18 ls d_Mod_firstLike_18 hw hW hS
  · have hw := hw.2 c664
    refine lv_iinc (v := (l2 + 1)) (lv' := [(2, .int (l2 + 1)), (0, .ref (ad 0)), (1, .int l1)]) hx hb d_Mod_firstLike_11 hl (k := 2) rfl rfl (by decide) rfl (fun ls hl => ?_)
    refine lv_goto (tgt := 2) hx hb d_Mod_firstLike_14 (by decide) ?_
    exact hrec2 l1 (l2 + 1) x662 H locs ls  hw hW hS (lv_sub hl [1, 2, 0] rfl)
def wl_Mod_firstLike_2 (post : Int32 → St → Prop) : Nat → Int32 → Int32 → St → Prop
  | 0 => fun _ _ _ => False
  | n + 1 => j_Mod_firstLike_2 post (wl_Mod_firstLike_2 post n)
set_option maxHeartbeats 4000000 in
set_option maxRecDepth 100000 in
theorem tl_Mod_firstLike_2 {p : Program} {l : Launch} {e : Env} {R : Room} {s : State} {m : MethodId} {args : Array Value} {below : List Frame} {meth : Method} {c : Code} {cells slots : Nat} {Q : State → Prop} {dC : Nat → ClassId} {dI : Nat → Nat → Nat} {cI cB cJ cZ : ClassId} {A : Nat → Prop} {ad : Nat → Nat} {post : Int32 → St → Prop} (hx : p.tables.exec = Jvm.exec) (hb : c.code = b_Mod_firstLike) (hml : c.maxLocals = 3) (hown : s.vm.findClass R_Mod = some m.cls) (hT : ∀ w ∈ TG, w.before args s = true) (hK : va_K (dC, dI) CL (TY cI cB cJ cZ) s) (hN : NW s) (hA : ∀ q : Nat, s.heap.size ≤ q → A q) (hRc : cells ≤ R.cells) (hRs : slots ≤ R.slots) (hRf : 2 ≤ R.frames) (hRl : 45 ≤ R.locals) (hret : ∀ (r : Int32) (x : St) (H : Heap) (locs : List Loc) (pc : Nat) (ls : Array Slot), decode b_Mod_firstLike pc = .ok (.ireturn, 1) → post r x → Wd dC dI cI cB cJ cZ ad stM kcM 115 A x H → va_S A s.heap H locs → W p l e R s m args below meth c H locs cells slots Q (F0 m pc ls [.int r]))  : ∀ n : Nat, ∀ (l1 : Int32) (l2 : Int32) (x : St) (H : Heap) (locs : List Loc) (ls : Array Slot), wl_Mod_firstLike_2 post n l1 l2 x → Wd dC dI cI cB cJ cZ ad stM kcM 115 A x H → va_S A s.heap H locs → lv_has ls 3 [(0, .ref (ad 0)), (1, .int l1), (2, .int l2)] → W p l e R s m args below meth c H locs cells slots Q (F0 m 2 ls []) := by
  intro n
  induction n with
  | zero => intro l1 l2 x H locs ls  hw; exact hw.elim
  | succ n ih => intro l1 l2 x H locs ls  hw hW hS hl; exact t_Mod_firstLike_2 hx hb hml hown hT hK hN hA hRc hRs hRf hRl hret  ih l1 l2 x H locs ls  hw hW hS hl
set_option maxRecDepth 100000 in
def wp_Mod_firstLike (post : Int32 → St → Prop) (l1 : Int32) (x : St) : Prop := ∃ n : Nat, wl_Mod_firstLike_2 post n l1 0 x
set_option maxHeartbeats 4000000 in
set_option maxRecDepth 100000 in
theorem t_Mod_firstLike_e {p : Program} {l : Launch} {e : Env} {R : Room} {s : State} {m : MethodId} {args : Array Value} {below : List Frame} {meth : Method} {c : Code} {cells slots : Nat} {Q : State → Prop} {dC : Nat → ClassId} {dI : Nat → Nat → Nat} {cI cB cJ cZ : ClassId} {A : Nat → Prop} {ad : Nat → Nat} {post : Int32 → St → Prop} (hx : p.tables.exec = Jvm.exec) (hb : c.code = b_Mod_firstLike) (hml : c.maxLocals = 3) (hown : s.vm.findClass R_Mod = some m.cls) (hT : ∀ w ∈ TG, w.before args s = true) (hK : va_K (dC, dI) CL (TY cI cB cJ cZ) s) (hN : NW s) (hA : ∀ q : Nat, s.heap.size ≤ q → A q) (hRc : cells ≤ R.cells) (hRs : slots ≤ R.slots) (hRf : 2 ≤ R.frames) (hRl : 45 ≤ R.locals) (hret : ∀ (r : Int32) (x : St) (H : Heap) (locs : List Loc) (pc : Nat) (ls : Array Slot), decode b_Mod_firstLike pc = .ok (.ireturn, 1) → post r x → Wd dC dI cI cB cJ cZ ad stM kcM 115 A x H → va_S A s.heap H locs → W p l e R s m args below meth c H locs cells slots Q (F0 m pc ls [.int r])) : ∀ (l1 : Int32) (x : St) (H : Heap) (locs : List Loc) (ls : Array Slot), wp_Mod_firstLike post l1 x → Wd dC dI cI cB cJ cZ ad stM kcM 115 A x H → va_S A s.heap H locs → lv_has ls 3 [(0, .ref (ad 0)), (1, .int l1)] → W p l e R s m args below meth c H locs cells slots Q (F0 m 0 ls []) := by
  intro l1 x H locs ls  hw hW hS hl
  unfold wp_Mod_firstLike at hw
  refine lv_iconst (v := 0) hx hb d_Mod_firstLike_0 (by decide) ?_
  refine lv_istore_n (lv' := [(2, .int 0), (0, .ref (ad 0)), (1, .int l1)]) hx hb d_Mod_firstLike_1 rfl hl (by decide) rfl (fun ls hl => ?_)
  obtain ⟨n, hw⟩ := hw
  exact tl_Mod_firstLike_2 hx hb hml hown hT hK hN hA hRc hRs hRf hRl hret  n l1 0 x H locs ls  hw hW hS (lv_sub hl [1, 2, 0] rfl)
set_option maxHeartbeats 4000000 in
set_option maxRecDepth 100000 in
theorem k_Mod_firstLike (l : Launch) (dC : Nat → ClassId) (dI : Nat → Nat → Nat) (cI cB cJ cZ : ClassId) (ad : Nat → Nat) (sz : Nat) (l1 : Int32) (x : St) {post : Int32 → St → Prop} (hw : wp_Mod_firstLike post l1 x) : Met l y_Mod_firstLike (wsOf y_Mod_firstLike b_Mod_firstLike 3 (some (.int))) ({ frames := 2, cells := 0, slots := 0, locals := 45 }) (va_Pc [.ref (ad 0), .int l1] (PW dC dI cI cB cJ cZ ad stM kcM 115 sz x)) (va_Qi (fun (r : Int32) (y : St) => post r y) (fun y t => Wd dC dI cI cB cJ cZ ad stM kcM 115 (va_A (pic ad stM kcM 115 cI cB cJ cZ x) sz) y t.heap) (va_A (pic ad stM kcM 115 cI cB cJ cZ x) sz)) 0 0 (va_A (pic ad stM kcM 115 cI cB cJ cZ x) sz) := by
  refine Met.ofW (cc := b_Mod_firstLike) (maxL := 3) (ret := some (.int)) (by decide) rfl ?_
  intro p e s m args below meth c s₁ B hml hv
  obtain ⟨rfl, hsz, hW0, hK, hN⟩ := hv
  have hx := B.exec
  have hb := B.bytes
  have hr := B.returns
  have hts := atoms_spec B.pre
  have hT : ∀ w ∈ TG, w.before _ s = true := fun w h => hts w (List.mem_cons_of_mem _ h)
  have hown : s.vm.findClass R_Mod = some m.cls := findClass_of_methodNamed B.named
  have hlocks := B.notSynchronized
  subst hsz
  have hW : Wd dC dI cI cB cJ cZ ad stM kcM 115 (va_A (pic ad stM kcM 115 cI cB cJ cZ x) s.heap.size) x s.heap := ⟨hW0.1, hW0.2.1.self (sz := s.heap.size), hW0.2.2⟩
  generalize hAe : va_A (pic ad stM kcM 115 cI cB cJ cZ x) s.heap.size = A at hW ⊢
  have hA : ∀ q : Nat, s.heap.size ≤ q → A q := fun q h => by rw [← hAe]; exact Or.inr h
  have hS : va_S A s.heap s.heap [] := va_S.rf
  have hl := lv_entry ([.ref (ad 0), .int l1]) (n := 3) (Nat.le_of_ble_eq_true rfl)
  rw [lg_entry_eq]
  generalize (lg_sl ([.ref (ad 0), .int l1]) ++ List.replicate (3 - (lg_sl ([.ref (ad 0), .int l1])).length) Slot.unset).toArray = ls at hl ⊢
  have hl : lv_has ls 3 [(0, .ref (ad 0)), (1, .int l1)] := hl
  exact t_Mod_firstLike_e hx hb hml hown hT hK hN hA (Nat.le_refl 0) (Nat.le_refl 0) (Nat.le_refl 2) (Nat.le_refl 45) (fun r x H locs pc ls hd hp hW hS => W.iret (v := r) hx hb hr (fun t ht hM => ⟨⟨r, x, rfl, hp, Wd.back hW ht.symm (fun _ z => z)⟩, hS.F ht⟩) hS.2.2 hd hlocks)  l1 x _ _ ls  hw hW hS hl
set_option maxRecDepth 100000 in
def j_Mod_putText_17 (post : St → Prop) (rec17 : Int32 → Int32 → St → Prop) (l1 : Int32) (l2 : Int32) (x : St) : Prop := (vp_in (l1 + 1) (fN x 33) ∧ (((rA x 33 (l1 + 1)) ≤ l2 → post x) ∧ (¬ (rA x 33 (l1 + 1)) ≤ l2 → (vp_in l2 (fN x 36) ∧ wp_Mod_put (fun (x666 : St) => rec17 l1 (l2 + 1) x666) (rA x 36 l2) x))))
set_option maxHeartbeats 4000000 in
set_option maxRecDepth 100000 in
theorem t_Mod_putText_17 {p : Program} {l : Launch} {e : Env} {R : Room} {s : State} {m : MethodId} {args : Array Value} {below : List Frame} {meth : Method} {c : Code} {cells slots : Nat} {Q : State → Prop} {dC : Nat → ClassId} {dI : Nat → Nat → Nat} {cI cB cJ cZ : ClassId} {A : Nat → Prop} {ad : Nat → Nat} {post : St → Prop} {rec17 : Int32 → Int32 → St → Prop} (hx : p.tables.exec = Jvm.exec) (hb : c.code = b_Mod_putText) (hml : c.maxLocals = 3) (hown : s.vm.findClass R_Mod = some m.cls) (hT : ∀ w ∈ TG, w.before args s = true) (hK : va_K (dC, dI) CL (TY cI cB cJ cZ) s) (hN : NW s) (hA : ∀ q : Nat, s.heap.size ≤ q → A q) (hRc : cells ≤ R.cells) (hRs : slots ≤ R.slots) (hRf : 2 ≤ R.frames) (hRl : 45 ≤ R.locals) (hret : ∀ (x : St) (H : Heap) (locs : List Loc) (pc : Nat) (ls : Array Slot), decode b_Mod_putText pc = .ok (.return_, 1) → post x → Wd dC dI cI cB cJ cZ ad stM kcM 115 A x H → va_S A s.heap H locs → W p l e R s m args below meth c H locs cells slots Q (F0 m pc ls [])) (hrec17 : ∀ (l1 : Int32) (l2 : Int32) (x : St) (H : Heap) (locs : List Loc) (ls : Array Slot), rec17 l1 l2 x → Wd dC dI cI cB cJ cZ ad stM kcM 115 A x H → va_S A s.heap H locs → lv_has ls 3 [(0, .ref (ad 0)), (1, .int l1), (2, .int l2)] → W p l e R s m args below meth c H locs cells slots Q (F0 m 17 ls [])) : ∀ (l1 : Int32) (l2 : Int32) (x : St) (H : Heap) (locs : List Loc) (ls : Array Slot), j_Mod_putText_17 post rec17 l1 l2 x → Wd dC dI cI cB cJ cZ ad stM kcM 115 A x H → va_S A s.heap H locs → lv_has ls 3 [(0, .ref (ad 0)), (1, .int l1), (2, .int l2)] → W p l e R s m args below meth c H locs cells slots Q (F0 m 17 ls []) := by
  intro l1 l2 x H locs ls  hw hW hS hl
  unfold j_Mod_putText_17 at hw
  refine lv_iload_n hx hb d_Mod_putText_17 rfl (lv_at hl 2 rfl) ?_
  refine lv_aload_n hx hb d_Mod_putText_18 rfl (lv_at hl 0 rfl) ?_
  refine w_getf (q := 33) (k := 52) (t := 12) (C := R_Mod) (T := F_Mod) (N := 167) hx hb hT hown hK hW ko_0.1 ko_0.2 (by decide) in_Mod rfl rfl (by decide) rfl fr_Mod_52 w_8_232 d_Mod_putText_19 rfl ?_
  refine lv_iload_n hx hb d_Mod_putText_22 rfl (lv_at hl 1 rfl) ?_
  refine lv_iconst (v := 1) hx hb d_Mod_putText_23 (by decide) ?_
  refine lv_iadd hx hb d_Mod_putText_24 ?_
  obtain ⟨hi, hw⟩ := hw
  refine w_iald (o := 33) hx hb hK hW ko_33.1 ko_33.2 hi d_Mod_putText_25 ?_
  refine lv_icmp_ge (tgt := 45) hx hb d_Mod_putText_26 (by decide) (fun c665 => ?_) (fun c665 => ?_)
  · have hw := hw.1 c665
    exact hret x H locs 45 ls d_Mod_putText_45 hw hW hS
  · have hw := hw.2 c665
    refine lv_aload_n hx hb d_Mod_putText_29 rfl (lv_at hl 0 rfl) ?_
    refine lv_aload_n hx hb d_Mod_putText_30 rfl (lv_at hl 0 rfl) ?_
    refine w_getf (q := 36) (k := 55) (t := 12) (C := R_Mod) (T := F_Mod) (N := 167) hx hb hT hown hK hW ko_0.1 ko_0.2 (by decide) in_Mod rfl rfl (by decide) rfl fr_Mod_55 w_8_235 d_Mod_putText_31 rfl ?_
    refine lv_iload_n hx hb d_Mod_putText_34 rfl (lv_at hl 2 rfl) ?_
    obtain ⟨hi, hw⟩ := hw
    refine w_iald (o := 36) hx hb hK hW ko_36.1 ko_36.2 hi d_Mod_putText_35 ?_
    have hF := hW.free hS hA
    refine va_callv (va_runV (C := R_Mod) (As := [.int (rA x 36 l2)]) (rest := []) ⟨hx, hb, hml, hown, hT⟩ (k_Mod_put l dC dI cI cB cJ cZ ad H.size (rA x 36 l2) x  hw) ⟨callB_of 1 hT (gw_in w_11_203) rfl rfl rfl (hT _ w_1_15) (hT _ w_11_200) (by decide +kernel) ⟨Nat.le_trans (by decide) hRf, Nat.le_trans (by decide) hRl⟩, hT _ w_11_202, hT _ ws_154⟩ ⟨PW.blind, va_recv hK hW.1 (ci := 12) (q0 := 0) rfl (pic_obj ko_0.1 ko_0.2 (by decide)), PW.at _ hW hK hN⟩ rfl rfl hl.1 rfl (lv_room (Nat.le_of_ble_eq_true rfl)) d_Mod_putText_36 ⟨hRc, hRs⟩) hS (fun q _ h => hF q h) hF (fun  x666 t H locs ht hvm hw hB hz1 hk1 hS => ?_)
    have hW := Wd.back hB ht hF
    clear hB ht hF hz1 hk1 hvm
    refine lv_iinc (v := (l2 + 1)) (lv' := [(2, .int (l2 + 1)), (0, .ref (ad 0)), (1, .int l1)]) hx hb d_Mod_putText_39 hl (k := 2) rfl rfl (by decide) rfl (fun ls hl => ?_)
    refine lv_goto (tgt := 17) hx hb d_Mod_putText_42 (by decide) ?_
    exact hrec17 l1 (l2 + 1) x666 H locs ls  hw hW hS (lv_sub hl [1, 2, 0] rfl)
def wl_Mod_putText_17 (post : St → Prop) : Nat → Int32 → Int32 → St → Prop
  | 0 => fun _ _ _ => False
  | n + 1 => j_Mod_putText_17 post (wl_Mod_putText_17 post n)
set_option maxHeartbeats 4000000 in
set_option maxRecDepth 100000 in
theorem tl_Mod_putText_17 {p : Program} {l : Launch} {e : Env} {R : Room} {s : State} {m : MethodId} {args : Array Value} {below : List Frame} {meth : Method} {c : Code} {cells slots : Nat} {Q : State → Prop} {dC : Nat → ClassId} {dI : Nat → Nat → Nat} {cI cB cJ cZ : ClassId} {A : Nat → Prop} {ad : Nat → Nat} {post : St → Prop} (hx : p.tables.exec = Jvm.exec) (hb : c.code = b_Mod_putText) (hml : c.maxLocals = 3) (hown : s.vm.findClass R_Mod = some m.cls) (hT : ∀ w ∈ TG, w.before args s = true) (hK : va_K (dC, dI) CL (TY cI cB cJ cZ) s) (hN : NW s) (hA : ∀ q : Nat, s.heap.size ≤ q → A q) (hRc : cells ≤ R.cells) (hRs : slots ≤ R.slots) (hRf : 2 ≤ R.frames) (hRl : 45 ≤ R.locals) (hret : ∀ (x : St) (H : Heap) (locs : List Loc) (pc : Nat) (ls : Array Slot), decode b_Mod_putText pc = .ok (.return_, 1) → post x → Wd dC dI cI cB cJ cZ ad stM kcM 115 A x H → va_S A s.heap H locs → W p l e R s m args below meth c H locs cells slots Q (F0 m pc ls []))  : ∀ n : Nat, ∀ (l1 : Int32) (l2 : Int32) (x : St) (H : Heap) (locs : List Loc) (ls : Array Slot), wl_Mod_putText_17 post n l1 l2 x → Wd dC dI cI cB cJ cZ ad stM kcM 115 A x H → va_S A s.heap H locs → lv_has ls 3 [(0, .ref (ad 0)), (1, .int l1), (2, .int l2)] → W p l e R s m args below meth c H locs cells slots Q (F0 m 17 ls []) := by
  intro n
  induction n with
  | zero => intro l1 l2 x H locs ls  hw; exact hw.elim
  | succ n ih => intro l1 l2 x H locs ls  hw hW hS hl; exact t_Mod_putText_17 hx hb hml hown hT hK hN hA hRc hRs hRf hRl hret  ih l1 l2 x H locs ls  hw hW hS hl
set_option maxRecDepth 100000 in
def wp_Mod_putText (post : St → Prop) (l1 : Int32) (x : St) : Prop := wp_Mod_lengthOf (fun (r668 : Int32) (x667 : St) => wp_Mod_putVarint (fun (x669 : St) => (vp_in l1 (fN x669 33) ∧ (∀ v670 : Int32, v670 = (rA x669 33 l1) → ∃ n : Nat, wl_Mod_putText_17 post n l1 v670 x669))) (r668 : Int32).toInt64 x667) l1 x
set_option maxHeartbeats 4000000 in
set_option maxRecDepth 100000 in
theorem t_Mod_putText_e {p : Program} {l : Launch} {e : Env} {R : Room} {s : State} {m : MethodId} {args : Array Value} {below : List Frame} {meth : Method} {c : Code} {cells slots : Nat} {Q : State → Prop} {dC : Nat → ClassId} {dI : Nat → Nat → Nat} {cI cB cJ cZ : ClassId} {A : Nat → Prop} {ad : Nat → Nat} {post : St → Prop} (hx : p.tables.exec = Jvm.exec) (hb : c.code = b_Mod_putText) (hml : c.maxLocals = 3) (hown : s.vm.findClass R_Mod = some m.cls) (hT : ∀ w ∈ TG, w.before args s = true) (hK : va_K (dC, dI) CL (TY cI cB cJ cZ) s) (hN : NW s) (hA : ∀ q : Nat, s.heap.size ≤ q → A q) (hRc : cells ≤ R.cells) (hRs : slots ≤ R.slots) (hRf : 2 ≤ R.frames) (hRl : 45 ≤ R.locals) (hret : ∀ (x : St) (H : Heap) (locs : List Loc) (pc : Nat) (ls : Array Slot), decode b_Mod_putText pc = .ok (.return_, 1) → post x → Wd dC dI cI cB cJ cZ ad stM kcM 115 A x H → va_S A s.heap H locs → W p l e R s m args below meth c H locs cells slots Q (F0 m pc ls [])) : ∀ (l1 : Int32) (x : St) (H : Heap) (locs : List Loc) (ls : Array Slot), wp_Mod_putText post l1 x → Wd dC dI cI cB cJ cZ ad stM kcM 115 A x H → va_S A s.heap H locs → lv_has ls 3 [(0, .ref (ad 0)), (1, .int l1)] → W p l e R s m args below meth c H locs cells slots Q (F0 m 0 ls []) := by
  intro l1 x H locs ls  hw hW hS hl
  unfold wp_Mod_putText at hw
  refine lv_aload_n hx hb d_Mod_putText_0 rfl (lv_at hl 0 rfl) ?_
  refine lv_aload_n hx hb d_Mod_putText_1 rfl (lv_at hl 0 rfl) ?_
  refine lv_iload_n hx hb d_Mod_putText_2 rfl (lv_at hl 1 rfl) ?_
  have hF := hW.free hS hA
  refine va_calli (va_runV (C := R_Mod) (As := [.int l1]) (rest := [.ref (ad 0)]) ⟨hx, hb, hml, hown, hT⟩ (k_Mod_lengthOf l dC dI cI cB cJ cZ ad H.size l1 x  hw) ⟨callB_of 1 hT (gw_in w_12_7) rfl rfl rfl (hT _ w_1_15) (hT _ w_12_4) (by decide +kernel) ⟨Nat.le_trans (by decide) hRf, Nat.le_trans (by decide) hRl⟩, hT _ w_12_6, hT _ ws_164⟩ ⟨PW.blind, va_recv hK hW.1 (ci := 12) (q0 := 0) rfl (pic_obj ko_0.1 ko_0.2 (by decide)), PW.at _ hW hK hN⟩ rfl rfl hl.1 rfl (lv_room (Nat.le_of_ble_eq_true rfl)) d_Mod_putText_3 ⟨hRc, hRs⟩) hS (fun q _ h => hF q h) hF (fun r668 x667 t H locs ht hvm hw hB hz1 hk1 hS => ?_)
  have hW := Wd.back hB ht hF
  clear hB ht hF hz1 hk1 hvm
  refine lv_i2l hx hb d_Mod_putText_6 rfl ?_
  have hF := hW.free hS hA
  refine va_callv (va_runV (C := R_Mod) (As := [.long (r668 : Int32).toInt64]) (rest := []) ⟨hx, hb, hml, hown, hT⟩ (k_Mod_putVarint l dC dI cI cB cJ cZ ad H.size (r668 : Int32).toInt64 x667  hw) ⟨callB_of 1 hT (gw_in w_11_198) rfl rfl rfl (hT _ w_1_15) (hT _ w_11_195) (by decide +kernel) ⟨Nat.le_trans (by decide) hRf, Nat.le_trans (by decide) hRl⟩, hT _ w_11_197, hT _ ws_153⟩ ⟨PW.blind, va_recv hK hW.1 (ci := 12) (q0 := 0) rfl (pic_obj ko_0.1 ko_0.2 (by decide)), PW.at _ hW hK hN⟩ rfl rfl hl.1 rfl (lv_room (Nat.le_of_ble_eq_true rfl)) d_Mod_putText_7 ⟨hRc, hRs⟩) hS (fun q _ h => hF q h) hF (fun  x669 t H locs ht hvm hw hB hz1 hk1 hS => ?_)
  have hW := Wd.back hB ht hF
  clear hB ht hF hz1 hk1 hvm
  refine lv_aload_n hx hb d_Mod_putText_10 rfl (lv_at hl 0 rfl) ?_
  refine w_getf (q := 33) (k := 52) (t := 12) (C := R_Mod) (T := F_Mod) (N := 167) hx hb hT hown hK hW ko_0.1 ko_0.2 (by decide) in_Mod rfl rfl (by decide) rfl fr_Mod_52 w_8_232 d_Mod_putText_11 rfl ?_
  refine lv_iload_n hx hb d_Mod_putText_14 rfl (lv_at hl 1 rfl) ?_
  obtain ⟨hi, hw⟩ := hw
  refine w_iald (o := 33) hx hb hK hW ko_33.1 ko_33.2 hi d_Mod_putText_15 ?_
  refine lv_topi (fun v670 ev670 => ?_)
  have hw := hw v670 ev670
  refine lv_istore_n (lv' := [(2, .int v670), (0, .ref (ad 0)), (1, .int l1)]) hx hb d_Mod_putText_16 rfl hl (by decide) rfl (fun ls hl => ?_)
  obtain ⟨n, hw⟩ := hw
  exact tl_Mod_putText_17 hx hb hml hown hT hK hN hA hRc hRs hRf hRl hret  n l1 v670 x669 H locs ls  hw hW hS (lv_sub hl [1, 2, 0] rfl)
set_option maxHeartbeats 4000000 in
set_option maxRecDepth 100000 in
theorem k_Mod_putText (l : Launch) (dC : Nat → ClassId) (dI : Nat → Nat → Nat) (cI cB cJ cZ : ClassId) (ad : Nat → Nat) (sz : Nat) (l1 : Int32) (x : St) {post : St → Prop} (hw : wp_Mod_putText post l1 x) : Met l y_Mod_putText (wsOf y_Mod_putText b_Mod_putText 3 (none)) ({ frames := 2, cells := 0, slots := 0, locals := 45 }) (va_Pc [.ref (ad 0), .int l1] (PW dC dI cI cB cJ cZ ad stM kcM 115 sz x)) (va_Qv (fun (y : St) => post y) (fun y t => Wd dC dI cI cB cJ cZ ad stM kcM 115 (va_A (pic ad stM kcM 115 cI cB cJ cZ x) sz) y t.heap) (va_A (pic ad stM kcM 115 cI cB cJ cZ x) sz)) 0 0 (va_A (pic ad stM kcM 115 cI cB cJ cZ x) sz) := by
  refine Met.ofW (cc := b_Mod_putText) (maxL := 3) (ret := none) (by decide) rfl ?_
  intro p e s m args below meth c s₁ B hml hv
  obtain ⟨rfl, hsz, hW0, hK, hN⟩ := hv
  have hx := B.exec
  have hb := B.bytes
  have hr := B.returns
  have hts := atoms_spec B.pre
  have hT : ∀ w ∈ TG, w.before _ s = true := fun w h => hts w (List.mem_cons_of_mem _ h)
  have hown : s.vm.findClass R_Mod = some m.cls := findClass_of_methodNamed B.named
  have hlocks := B.notSynchronized
  subst hsz
  have hW : Wd dC dI cI cB cJ cZ ad stM kcM 115 (va_A (pic ad stM kcM 115 cI cB cJ cZ x) s.heap.size) x s.heap := ⟨hW0.1, hW0.2.1.self (sz := s.heap.size), hW0.2.2⟩
  generalize hAe : va_A (pic ad stM kcM 115 cI cB cJ cZ x) s.heap.size = A at hW ⊢
  have hA : ∀ q : Nat, s.heap.size ≤ q → A q := fun q h => by rw [← hAe]; exact Or.inr h
  have hS : va_S A s.heap s.heap [] := va_S.rf
  have hl := lv_entry ([.ref (ad 0), .int l1]) (n := 3) (Nat.le_of_ble_eq_true rfl)
  rw [lg_entry_eq]
  generalize (lg_sl ([.ref (ad 0), .int l1]) ++ List.replicate (3 - (lg_sl ([.ref (ad 0), .int l1])).length) Slot.unset).toArray = ls at hl ⊢
  have hl : lv_has ls 3 [(0, .ref (ad 0)), (1, .int l1)] := hl
  exact t_Mod_putText_e hx hb hml hown hT hK hN hA (Nat.le_refl 0) (Nat.le_refl 0) (Nat.le_refl 2) (Nat.le_refl 45) (fun x H locs pc ls hd hp hW hS => W.vret hx hb hr (fun t ht hM => ⟨⟨x, rfl, hp, Wd.back hW ht.symm (fun _ z => z)⟩, hS.F ht⟩) hS.2.2 hd hlocks)  l1 x _ _ ls  hw hW hS hl
set_option maxRecDepth 100000 in
def j_Mod_writeDictionary_96 (post : St → Prop) (rec96 : Int32 → Int32 → St → Prop) (l1 : Int32) (l2 : Int32) (x : St) : Prop := ((((l1 - 1) >>> (l2 &&& 31)) ≤ 0 → wp_Mod_put (fun (x672 : St) => wp_Mod_writeRuns (fun (x673 : St) => post x673) 44 (fI x672 0 42) l2 x672) l2 x) ∧ (¬ ((l1 - 1) >>> (l2 &&& 31)) ≤ 0 → rec96 l1 (l2 + 1) x))
set_option maxHeartbeats 4000000 in
set_option maxRecDepth 100000 in
theorem t_Mod_writeDictionary_96 {p : Program} {l : Launch} {e : Env} {R : Room} {s : State} {m : MethodId} {args : Array Value} {below : List Frame} {meth : Method} {c : Code} {cells slots : Nat} {Q : State → Prop} {dC : Nat → ClassId} {dI : Nat → Nat → Nat} {cI cB cJ cZ : ClassId} {A : Nat → Prop} {ad : Nat → Nat} {post : St → Prop} {rec96 : Int32 → Int32 → St → Prop} (hx : p.tables.exec = Jvm.exec) (hb : c.code = b_Mod_writeDictionary) (hml : c.maxLocals = 4) (hown : s.vm.findClass R_Mod = some m.cls) (hT : ∀ w ∈ TG, w.before args s = true) (hK : va_K (dC, dI) CL (TY cI cB cJ cZ) s) (hN : NW s) (hA : ∀ q : Nat, s.heap.size ≤ q → A q) (hRc : cells ≤ R.cells) (hRs : slots ≤ R.slots) (hRf : 3 ≤ R.frames) (hRl : 75 ≤ R.locals) (hret : ∀ (x : St) (H : Heap) (locs : List Loc) (pc : Nat) (ls : Array Slot), decode b_Mod_writeDictionary pc = .ok (.return_, 1) → post x → Wd dC dI cI cB cJ cZ ad stM kcM 115 A x H → va_S A s.heap H locs → W p l e R s m args below meth c H locs cells slots Q (F0 m pc ls [])) (hrec96 : ∀ (l1 : Int32) (l2 : Int32) (x : St) (H : Heap) (locs : List Loc) (ls : Array Slot), rec96 l1 l2 x → Wd dC dI cI cB cJ cZ ad stM kcM 115 A x H → va_S A s.heap H locs → lv_has ls 4 [(0, .ref (ad 0)), (1, .int l1), (2, .int l2)] → W p l e R s m args below meth c H locs cells slots Q (F0 m 96 ls [])) : ∀ (l1 : Int32) (l2 : Int32) (x : St) (H : Heap) (locs : List Loc) (ls : Array Slot), j_Mod_writeDictionary_96 post rec96 l1 l2 x → Wd dC dI cI cB cJ cZ ad stM kcM 115 A x H → va_S A s.heap H locs → lv_has ls 4 [(0, .ref (ad 0)), (1, .int l1), (2, .int l2)] → W p l e R s m args below meth c H locs cells slots Q (F0 m 96 ls []) := by
  intro l1 l2 x H locs ls  hw hW hS hl
  unfold j_Mod_writeDictionary_96 at hw
  refine lv_iload_n hx hb d_Mod_writeDictionary_96 rfl (lv_at hl 1 rfl) ?_
  refine lv_iconst (v := 1) hx hb d_Mod_writeDictionary_97 (by decide) ?_
  refine lv_isub hx hb d_Mod_writeDictionary_98 ?_
  refine lv_iload_n hx hb d_Mod_writeDictionary_99 rfl (lv_at hl 2 rfl) ?_
  refine lv_ishr hx hb d_Mod_writeDictionary_100 ?_
  refine lv_if_le (tgt := 110) hx hb d_Mod_writeDictionary_101 (by decide) (fun c671 => ?_) (fun c671 => ?_)
  · have hw := hw.1 c671
    refine lv_aload_n hx hb d_Mod_writeDictionary_110 rfl (lv_at hl 0 rfl) ?_
    refine lv_iload_n hx hb d_Mod_writeDictionary_111 rfl (lv_at hl 2 rfl) ?_
    have hF := hW.free hS hA
    refine va_callv (va_runV (C := R_Mod) (As := [.int l2]) (rest := []) ⟨hx, hb, hml, hown, hT⟩ (k_Mod_put l dC dI cI cB cJ cZ ad H.size l2 x  hw) ⟨callB_of 1 hT (gw_in w_11_203) rfl rfl rfl (hT _ w_1_15) (hT _ w_11_200) (by decide +kernel) ⟨Nat.le_trans (by decide) hRf, Nat.le_trans (by decide) hRl⟩, hT _ w_11_202, hT _ ws_154⟩ ⟨PW.blind, va_recv hK hW.1 (ci := 12) (q0 := 0) rfl (pic_obj ko_0.1 ko_0.2 (by decide)), PW.at _ hW hK hN⟩ rfl rfl hl.1 rfl (lv_room (Nat.le_of_ble_eq_true rfl)) d_Mod_writeDictionary_112 ⟨hRc, hRs⟩) hS (fun q _ h => hF q h) hF (fun  x672 t H locs ht hvm hw hB hz1 hk1 hS => ?_)
    have hW := Wd.back hB ht hF
    clear hB ht hF hz1 hk1 hvm
    refine lv_aload_n hx hb d_Mod_writeDictionary_115 rfl (lv_at hl 0 rfl) ?_
    refine lv_aload_n hx hb d_Mod_writeDictionary_116 rfl (lv_at hl 0 rfl) ?_
    refine w_getf (q := 44) (k := 72) (t := 12) (C := R_Mod) (T := F_Mod) (N := 167) hx hb hT hown hK hW ko_0.1 ko_0.2 (by decide) in_Mod rfl rfl (by decide) rfl fr_Mod_72 w_9_12 d_Mod_writeDictionary_117 rfl ?_
    refine lv_aload_n hx hb d_Mod_writeDictionary_120 rfl (lv_at hl 0 rfl) ?_
    refine w_geti (k := 42) (t := 12) (C := R_Mod) (T := F_Mod) (N := 167) hx hb hT hown hK hW ko_0.1 ko_0.2 (by decide) in_Mod rfl rfl (by decide) rfl fr_Mod_42 w_8_222 d_Mod_writeDictionary_121 ?_
    refine lv_iload_n hx hb d_Mod_writeDictionary_124 rfl (lv_at hl 2 rfl) ?_
    have hF := hW.free hS hA
    refine va_callv (va_runV (C := R_Mod) (As := [.ref (ad 44), .int (fI x672 0 42), .int l2]) (rest := []) ⟨hx, hb, hml, hown, hT⟩ (k_Mod_writeRuns l dC dI cI cB cJ cZ ad H.size 44 (fI x672 0 42) l2 x672 ko_44 hw) ⟨callB_of 3 hT (gw_in w_11_190) rfl rfl rfl (hT _ w_1_15) (hT _ w_11_187) (by decide +kernel) ⟨Nat.le_trans (by decide) hRf, Nat.le_trans (by decide) hRl⟩, hT _ w_11_189, hT _ ws_152⟩ ⟨PW.blind, va_recv hK hW.1 (ci := 12) (q0 := 0) rfl (pic_obj ko_0.1 ko_0.2 (by decide)), PW.at _ hW hK hN⟩ rfl rfl hl.1 rfl (lv_room (Nat.le_of_ble_eq_true rfl)) d_Mod_writeDictionary_125 ⟨hRc, hRs⟩) hS (fun q _ h => hF q h) hF (fun  x673 t H locs ht hvm hw hB hz1 hk1 hS => ?_)
    have hW := Wd.back hB ht hF
    clear hB ht hF hz1 hk1 hvm
    exact hret x673 H locs 128 ls d_Mod_writeDictionary_128 hw hW hS
  · have hw := hw.2 c671
    refine lv_iinc (v := (l2 + 1)) (lv' := [(2, .int (l2 + 1)), (0, .ref (ad 0)), (1, .int l1)]) hx hb d_Mod_writeDictionary_104 hl (k := 2) rfl rfl (by decide) rfl (fun ls hl => ?_)
    refine lv_goto (tgt := 96) hx hb d_Mod_writeDictionary_107 (by decide) ?_
    exact hrec96 l1 (l2 + 1) x H locs ls  hw hW hS (lv_sub hl [1, 2, 0] rfl)
def wl_Mod_writeDictionary_96 (post : St → Prop) : Nat → Int32 → Int32 → St → Prop
  | 0 => fun _ _ _ => False
  | n + 1 => j_Mod_writeDictionary_96 post (wl_Mod_writeDictionary_96 post n)
set_option maxHeartbeats 4000000 in
set_option maxRecDepth 100000 in
theorem tl_Mod_writeDictionary_96 {p : Program} {l : Launch} {e : Env} {R : Room} {s : State} {m : MethodId} {args : Array Value} {below : List Frame} {meth : Method} {c : Code} {cells slots : Nat} {Q : State → Prop} {dC : Nat → ClassId} {dI : Nat → Nat → Nat} {cI cB cJ cZ : ClassId} {A : Nat → Prop} {ad : Nat → Nat} {post : St → Prop} (hx : p.tables.exec = Jvm.exec) (hb : c.code = b_Mod_writeDictionary) (hml : c.maxLocals = 4) (hown : s.vm.findClass R_Mod = some m.cls) (hT : ∀ w ∈ TG, w.before args s = true) (hK : va_K (dC, dI) CL (TY cI cB cJ cZ) s) (hN : NW s) (hA : ∀ q : Nat, s.heap.size ≤ q → A q) (hRc : cells ≤ R.cells) (hRs : slots ≤ R.slots) (hRf : 3 ≤ R.frames) (hRl : 75 ≤ R.locals) (hret : ∀ (x : St) (H : Heap) (locs : List Loc) (pc : Nat) (ls : Array Slot), decode b_Mod_writeDictionary pc = .ok (.return_, 1) → post x → Wd dC dI cI cB cJ cZ ad stM kcM 115 A x H → va_S A s.heap H locs → W p l e R s m args below meth c H locs cells slots Q (F0 m pc ls []))  : ∀ n : Nat, ∀ (l1 : Int32) (l2 : Int32) (x : St) (H : Heap) (locs : List Loc) (ls : Array Slot), wl_Mod_writeDictionary_96 post n l1 l2 x → Wd dC dI cI cB cJ cZ ad stM kcM 115 A x H → va_S A s.heap H locs → lv_has ls 4 [(0, .ref (ad 0)), (1, .int l1), (2, .int l2)] → W p l e R s m args below meth c H locs cells slots Q (F0 m 96 ls []) := by
  intro n
  induction n with
  | zero => intro l1 l2 x H locs ls  hw; exact hw.elim
  | succ n ih => intro l1 l2 x H locs ls  hw hW hS hl; exact t_Mod_writeDictionary_96 hx hb hml hown hT hK hN hA hRc hRs hRf hRl hret  ih l1 l2 x H locs ls  hw hW hS hl
set_option maxRecDepth 100000 in
def j_Mod_writeDictionary_88 (post : St → Prop) (rec66 : Int32 → Int32 → St → Prop) (l1 : Int32) (l2 : Int32) (x : St) : Prop := rec66 l1 (l2 + 1) x
set_option maxHeartbeats 4000000 in
set_option maxRecDepth 100000 in
theorem t_Mod_writeDictionary_88 {p : Program} {l : Launch} {e : Env} {R : Room} {s : State} {m : MethodId} {args : Array Value} {below : List Frame} {meth : Method} {c : Code} {cells slots : Nat} {Q : State → Prop} {dC : Nat → ClassId} {dI : Nat → Nat → Nat} {cI cB cJ cZ : ClassId} {A : Nat → Prop} {ad : Nat → Nat} {post : St → Prop} {rec66 : Int32 → Int32 → St → Prop} (hx : p.tables.exec = Jvm.exec) (hb : c.code = b_Mod_writeDictionary) (hml : c.maxLocals = 4) (hown : s.vm.findClass R_Mod = some m.cls) (hT : ∀ w ∈ TG, w.before args s = true) (hK : va_K (dC, dI) CL (TY cI cB cJ cZ) s) (hN : NW s) (hA : ∀ q : Nat, s.heap.size ≤ q → A q) (hRc : cells ≤ R.cells) (hRs : slots ≤ R.slots) (hRf : 3 ≤ R.frames) (hRl : 75 ≤ R.locals) (hret : ∀ (x : St) (H : Heap) (locs : List Loc) (pc : Nat) (ls : Array Slot), decode b_Mod_writeDictionary pc = .ok (.return_, 1) → post x → Wd dC dI cI cB cJ cZ ad stM kcM 115 A x H → va_S A s.heap H locs → W p l e R s m args below meth c H locs cells slots Q (F0 m pc ls [])) (hrec66 : ∀ (l1 : Int32) (l2 : Int32) (x : St) (H : Heap) (locs : List Loc) (ls : Array Slot), rec66 l1 l2 x → Wd dC dI cI cB cJ cZ ad stM kcM 115 A x H → va_S A s.heap H locs → lv_has ls 4 [(0, .ref (ad 0)), (1, .int l1), (2, .int l2)] → W p l e R s m args below meth c H locs cells slots Q (F0 m 66 ls [])) : ∀ (l1 : Int32) (l2 : Int32) (x : St) (H : Heap) (locs : List Loc) (ls : Array Slot), j_Mod_writeDictionary_88 post rec66 l1 l2 x → Wd dC dI cI cB cJ cZ ad stM kcM 115 A x H → va_S A s.heap H locs → lv_has ls 4 [(0, .ref (ad 0)), (1, .int l1), (2, .int l2)] → W p l e R s m args below meth c H locs cells slots Q (F0 m 88 ls []) := by
  intro l1 l2 x H locs ls  hw hW hS hl
  unfold j_Mod_writeDictionary_88 at hw
  refine lv_iinc (v := (l2 + 1)) (lv' := [(2, .int (l2 + 1)), (0, .ref (ad 0)), (1, .int l1)]) hx hb d_Mod_writeDictionary_88 hl (k := 2) rfl rfl (by decide) rfl (fun ls hl => ?_)
  refine lv_goto (tgt := 66) hx hb d_Mod_writeDictionary_91 (by decide) ?_
  exact hrec66 l1 (l2 + 1) x H locs ls  hw hW hS (lv_sub hl [1, 2, 0] rfl)
set_option maxRecDepth 100000 in
def j_Mod_writeDictionary_66 (post : St → Prop) (rec66 : Int32 → Int32 → St → Prop) (l1 : Int32) (l2 : Int32) (x : St) : Prop := (((fI x 0 42) ≤ l2 → ∃ n : Nat, wl_Mod_writeDictionary_96 post n l1 0 x) ∧ (¬ (fI x 0 42) ≤ l2 → wp_Mod_firstLike (fun (r676 : Int32) (x675 : St) => ((¬ r676 = l2 → j_Mod_writeDictionary_88 post rec66 l1 l2 x675) ∧ (r676 = l2 → wp_Mod_putText (fun (x678 : St) => j_Mod_writeDictionary_88 post rec66 l1 l2 x678) l2 x675))) l2 x))
set_option maxHeartbeats 4000000 in
set_option maxRecDepth 100000 in
theorem t_Mod_writeDictionary_66 {p : Program} {l : Launch} {e : Env} {R : Room} {s : State} {m : MethodId} {args : Array Value} {below : List Frame} {meth : Method} {c : Code} {cells slots : Nat} {Q : State → Prop} {dC : Nat → ClassId} {dI : Nat → Nat → Nat} {cI cB cJ cZ : ClassId} {A : Nat → Prop} {ad : Nat → Nat} {post : St → Prop} {rec66 : Int32 → Int32 → St → Prop} (hx : p.tables.exec = Jvm.exec) (hb : c.code = b_Mod_writeDictionary) (hml : c.maxLocals = 4) (hown : s.vm.findClass R_Mod = some m.cls) (hT : ∀ w ∈ TG, w.before args s = true) (hK : va_K (dC, dI) CL (TY cI cB cJ cZ) s) (hN : NW s) (hA : ∀ q : Nat, s.heap.size ≤ q → A q) (hRc : cells ≤ R.cells) (hRs : slots ≤ R.slots) (hRf : 3 ≤ R.frames) (hRl : 75 ≤ R.locals) (hret : ∀ (x : St) (H : Heap) (locs : List Loc) (pc : Nat) (ls : Array Slot), decode b_Mod_writeDictionary pc = .ok (.return_, 1) → post x → Wd dC dI cI cB cJ cZ ad stM kcM 115 A x H → va_S A s.heap H locs → W p l e R s m args below meth c H locs cells slots Q (F0 m pc ls [])) (hrec66 : ∀ (l1 : Int32) (l2 : Int32) (x : St) (H : Heap) (locs : List Loc) (ls : Array Slot), rec66 l1 l2 x → Wd dC dI cI cB cJ cZ ad stM kcM 115 A x H → va_S A s.heap H locs → lv_has ls 4 [(0, .ref (ad 0)), (1, .int l1), (2, .int l2)] → W p l e R s m args below meth c H locs cells slots Q (F0 m 66 ls [])) : ∀ (l1 : Int32) (l2 : Int32) (x : St) (H : Heap) (locs : List Loc) (ls : Array Slot), j_Mod_writeDictionary_66 post rec66 l1 l2 x → Wd dC dI cI cB cJ cZ ad stM kcM 115 A x H → va_S A s.heap H locs → lv_has ls 4 [(0, .ref (ad 0)), (1, .int l1), (2, .int l2)] → W p l e R s m args below meth c H locs cells slots Q (F0 m 66 ls []) := by
  intro l1 l2 x H locs ls  hw hW hS hl
  unfold j_Mod_writeDictionary_66 at hw
  refine lv_iload_n hx hb d_Mod_writeDictionary_66 rfl (lv_at hl 2 rfl) ?_
  refine lv_aload_n hx hb d_Mod_writeDictionary_67 rfl (lv_at hl 0 rfl) ?_
  refine w_geti (k := 42) (t := 12) (C := R_Mod) (T := F_Mod) (N := 167) hx hb hT hown hK hW ko_0.1 ko_0.2 (by decide) in_Mod rfl rfl (by decide) rfl fr_Mod_42 w_8_222 d_Mod_writeDictionary_68 ?_
  refine lv_icmp_ge (tgt := 94) hx hb d_Mod_writeDictionary_71 (by decide) (fun c674 => ?_) (fun c674 => ?_)
  · have hw := hw.1 c674
    refine lv_iconst (v := 0) hx hb d_Mod_writeDictionary_94 (by decide) ?_
    refine lv_istore_n (lv' := [(2, .int 0), (0, .ref (ad 0)), (1, .int l1)]) hx hb d_Mod_writeDictionary_95 rfl hl (by decide) rfl (fun ls hl => ?_)
    obtain ⟨n, hw⟩ := hw
    exact tl_Mod_writeDictionary_96 hx hb hml hown hT hK hN hA hRc hRs hRf hRl hret  n l1 0 x H locs ls  hw hW hS (lv_sub hl [1, 2, 0] rfl)
  · have hw := hw.2 c674
    refine lv_aload_n hx hb d_Mod_writeDictionary_74 rfl (lv_at hl 0 rfl) ?_
    refine lv_iload_n hx hb d_Mod_writeDictionary_75 rfl (lv_at hl 2 rfl) ?_
    have hF := hW.free hS hA
    refine va_calli (va_runV (C := R_Mod) (As := [.int l2]) (rest := []) ⟨hx, hb, hml, hown, hT⟩ (k_Mod_firstLike l dC dI cI cB cJ cZ ad H.size l2 x  hw) ⟨callB_of 1 hT (gw_in w_12_27) rfl rfl rfl (hT _ w_1_15) (hT _ w_12_24) (by decide +kernel) ⟨Nat.le_trans (by decide) hRf, Nat.le_trans (by decide) hRl⟩, hT _ w_12_26, hT _ ws_169⟩ ⟨PW.blind, va_recv hK hW.1 (ci := 12) (q0 := 0) rfl (pic_obj ko_0.1 ko_0.2 (by decide)), PW.at _ hW hK hN⟩ rfl rfl hl.1 rfl (lv_room (Nat.le_of_ble_eq_true rfl)) d_Mod_writeDictionary_76 ⟨hRc, hRs⟩) hS (fun q _ h => hF q h) hF (fun r676 x675 t H locs ht hvm hw hB hz1 hk1 hS => ?_)
    have hW := Wd.back hB ht hF
    clear hB ht hF hz1 hk1 hvm
    refine lv_iload_n hx hb d_Mod_writeDictionary_79 rfl (lv_at hl 2 rfl) ?_
    refine lv_icmp_ne (tgt := 88) hx hb d_Mod_writeDictionary_80 (by decide) (fun c677 => ?_) (fun c677 => ?_)
    · have hw := hw.1 c677
      exact t_Mod_writeDictionary_88 hx hb hml hown hT hK hN hA hRc hRs hRf hRl hret hrec66 l1 l2 x675 H locs ls  hw hW hS (lv_sub hl [0, 1, 2] rfl)
    · have hw := hw.2 c677
      refine lv_aload_n hx hb d_Mod_writeDictionary_83 rfl (lv_at hl 0 rfl) ?_
      refine lv_iload_n hx hb d_Mod_writeDictionary_84 rfl (lv_at hl 2 rfl) ?_
      have hF := hW.free hS hA
      refine va_callv (va_runV (C := R_Mod) (As := [.int l2]) (rest := []) ⟨hx, hb, hml, hown, hT⟩ (k_Mod_putText l dC dI cI cB cJ cZ ad H.size l2 x675  hw) ⟨callB_of 1 hT (gw_in w_12_35) rfl rfl rfl (hT _ w_1_15) (hT _ w_12_32) (by decide +kernel) ⟨Nat.le_trans (by decide) hRf, Nat.le_trans (by decide) hRl⟩, hT _ w_12_34, hT _ ws_171⟩ ⟨PW.blind, va_recv hK hW.1 (ci := 12) (q0 := 0) rfl (pic_obj ko_0.1 ko_0.2 (by decide)), PW.at _ hW hK hN⟩ rfl rfl hl.1 rfl (lv_room (Nat.le_of_ble_eq_true rfl)) d_Mod_writeDictionary_85 ⟨hRc, hRs⟩) hS (fun q _ h => hF q h) hF (fun  x678 t H locs ht hvm hw hB hz1 hk1 hS => ?_)
      have hW := Wd.back hB ht hF
      clear hB ht hF hz1 hk1 hvm
      exact t_Mod_writeDictionary_88 hx hb hml hown hT hK hN hA hRc hRs hRf hRl hret hrec66 l1 l2 x678 H locs ls  hw hW hS (lv_sub hl [0, 1, 2] rfl)
def wl_Mod_writeDictionary_66 (post : St → Prop) : Nat → Int32 → Int32 → St → Prop
  | 0 => fun _ _ _ => False
  | n + 1 => j_Mod_writeDictionary_66 post (wl_Mod_writeDictionary_66 post n)
set_option maxHeartbeats 4000000 in
set_option maxRecDepth 100000 in
theorem tl_Mod_writeDictionary_66 {p : Program} {l : Launch} {e : Env} {R : Room} {s : State} {m : MethodId} {args : Array Value} {below : List Frame} {meth : Method} {c : Code} {cells slots : Nat} {Q : State → Prop} {dC : Nat → ClassId} {dI : Nat → Nat → Nat} {cI cB cJ cZ : ClassId} {A : Nat → Prop} {ad : Nat → Nat} {post : St → Prop} (hx : p.tables.exec = Jvm.exec) (hb : c.code = b_Mod_writeDictionary) (hml : c.maxLocals = 4) (hown : s.vm.findClass R_Mod = some m.cls) (hT : ∀ w ∈ TG, w.before args s = true) (hK : va_K (dC, dI) CL (TY cI cB cJ cZ) s) (hN : NW s) (hA : ∀ q : Nat, s.heap.size ≤ q → A q) (hRc : cells ≤ R.cells) (hRs : slots ≤ R.slots) (hRf : 3 ≤ R.frames) (hRl : 75 ≤ R.locals) (hret : ∀ (x : St) (H : Heap) (locs : List Loc) (pc : Nat) (ls : Array Slot), decode b_Mod_writeDictionary pc = .ok (.return_, 1) → post x → Wd dC dI cI cB cJ cZ ad stM kcM 115 A x H → va_S A s.heap H locs → W p l e R s m args below meth c H locs cells slots Q (F0 m pc ls []))  : ∀ n : Nat, ∀ (l1 : Int32) (l2 : Int32) (x : St) (H : Heap) (locs : List Loc) (ls : Array Slot), wl_Mod_writeDictionary_66 post n l1 l2 x → Wd dC dI cI cB cJ cZ ad stM kcM 115 A x H → va_S A s.heap H locs → lv_has ls 4 [(0, .ref (ad 0)), (1, .int l1), (2, .int l2)] → W p l e R s m args below meth c H locs cells slots Q (F0 m 66 ls []) := by
  intro n
  induction n with
  | zero => intro l1 l2 x H locs ls  hw; exact hw.elim
  | succ n ih => intro l1 l2 x H locs ls  hw hW hS hl; exact t_Mod_writeDictionary_66 hx hb hml hown hT hK hN hA hRc hRs hRf hRl hret  ih l1 l2 x H locs ls  hw hW hS hl
set_option maxRecDepth 100000 in
def j_Mod_writeDictionary_50 (post : St → Prop) (rec4 : Int32 → Int32 → St → Prop) (l1 : Int32) (l2 : Int32) (l3 : Int32) (s0 : Int32) (s1 : Int32) (x : St) : Prop := (∀ v679 : Int32, v679 = (s1 + s0) → rec4 v679 (l2 + 1) x)
set_option maxHeartbeats 4000000 in
set_option maxRecDepth 100000 in
theorem t_Mod_writeDictionary_50 {p : Program} {l : Launch} {e : Env} {R : Room} {s : State} {m : MethodId} {args : Array Value} {below : List Frame} {meth : Method} {c : Code} {cells slots : Nat} {Q : State → Prop} {dC : Nat → ClassId} {dI : Nat → Nat → Nat} {cI cB cJ cZ : ClassId} {A : Nat → Prop} {ad : Nat → Nat} {post : St → Prop} {rec4 : Int32 → Int32 → St → Prop} (hx : p.tables.exec = Jvm.exec) (hb : c.code = b_Mod_writeDictionary) (hml : c.maxLocals = 4) (hown : s.vm.findClass R_Mod = some m.cls) (hT : ∀ w ∈ TG, w.before args s = true) (hK : va_K (dC, dI) CL (TY cI cB cJ cZ) s) (hN : NW s) (hA : ∀ q : Nat, s.heap.size ≤ q → A q) (hRc : cells ≤ R.cells) (hRs : slots ≤ R.slots) (hRf : 3 ≤ R.frames) (hRl : 75 ≤ R.locals) (hret : ∀ (x : St) (H : Heap) (locs : List Loc) (pc : Nat) (ls : Array Slot), decode b_Mod_writeDictionary pc = .ok (.return_, 1) → post x → Wd dC dI cI cB cJ cZ ad stM kcM 115 A x H → va_S A s.heap H locs → W p l e R s m args below meth c H locs cells slots Q (F0 m pc ls [])) (hrec4 : ∀ (l1 : Int32) (l2 : Int32) (x : St) (H : Heap) (locs : List Loc) (ls : Array Slot), rec4 l1 l2 x → Wd dC dI cI cB cJ cZ ad stM kcM 115 A x H → va_S A s.heap H locs → lv_has ls 4 [(0, .ref (ad 0)), (1, .int l1), (2, .int l2)] → W p l e R s m args below meth c H locs cells slots Q (F0 m 4 ls [])) : ∀ (l1 : Int32) (l2 : Int32) (l3 : Int32) (s0 : Int32) (s1 : Int32) (x : St) (H : Heap) (locs : List Loc) (ls : Array Slot), j_Mod_writeDictionary_50 post rec4 l1 l2 l3 s0 s1 x → Wd dC dI cI cB cJ cZ ad stM kcM 115 A x H → va_S A s.heap H locs → lv_has ls 4 [(0, .ref (ad 0)), (1, .int l1), (2, .int l2), (3, .int l3)] → W p l e R s m args below meth c H locs cells slots Q (F0 m 50 ls [.int s0, .int s1]) := by
  intro l1 l2 l3 s0 s1 x H locs ls  hw hW hS hl
  unfold j_Mod_writeDictionary_50 at hw
  refine lv_iadd hx hb d_Mod_writeDictionary_50 ?_
  refine lv_topi (fun v679 ev679 => ?_)
  have hw := hw v679 ev679
  refine lv_istore_n (lv' := [(1, .int v679), (0, .ref (ad 0)), (2, .int l2), (3, .int l3)]) hx hb d_Mod_writeDictionary_51 rfl hl (by decide) rfl (fun ls hl => ?_)
  refine lv_iinc (v := (l2 + 1)) (lv' := [(2, .int (l2 + 1)), (1, .int v679), (0, .ref (ad 0)), (3, .int l3)]) hx hb d_Mod_writeDictionary_52 hl (k := 2) rfl rfl (by decide) rfl (fun ls hl => ?_)
  refine lv_goto (tgt := 4) hx hb d_Mod_writeDictionary_55 (by decide) ?_
  exact hrec4 v679 (l2 + 1) x H locs ls  hw hW hS (lv_sub hl [2, 1, 0] rfl)
set_option maxRecDepth 100000 in
def j_Mod_writeDictionary_38 (post : St → Prop) (rec4 : Int32 → Int32 → St → Prop) (l1 : Int32) (l2 : Int32) (l3 : Int32) (s0 : Int32) (s1 : Int32) (s2 : Nat) (x : St) : Prop := (vp_in s1 (fN x s2) ∧ ∀ x680 : St, x680 = setA x s2 s1 s0 → ((¬ l3 = l2 → j_Mod_writeDictionary_50 post rec4 l1 l2 l3 0 l1 x680) ∧ (l3 = l2 → j_Mod_writeDictionary_50 post rec4 l1 l2 l3 1 l1 x680)))
set_option maxHeartbeats 4000000 in
set_option maxRecDepth 100000 in
theorem t_Mod_writeDictionary_38 {p : Program} {l : Launch} {e : Env} {R : Room} {s : State} {m : MethodId} {args : Array Value} {below : List Frame} {meth : Method} {c : Code} {cells slots : Nat} {Q : State → Prop} {dC : Nat → ClassId} {dI : Nat → Nat → Nat} {cI cB cJ cZ : ClassId} {A : Nat → Prop} {ad : Nat → Nat} {post : St → Prop} {rec4 : Int32 → Int32 → St → Prop} (hx : p.tables.exec = Jvm.exec) (hb : c.code = b_Mod_writeDictionary) (hml : c.maxLocals = 4) (hown : s.vm.findClass R_Mod = some m.cls) (hT : ∀ w ∈ TG, w.before args s = true) (hK : va_K (dC, dI) CL (TY cI cB cJ cZ) s) (hN : NW s) (hA : ∀ q : Nat, s.heap.size ≤ q → A q) (hRc : cells ≤ R.cells) (hRs : slots ≤ R.slots) (hRf : 3 ≤ R.frames) (hRl : 75 ≤ R.locals) (hret : ∀ (x : St) (H : Heap) (locs : List Loc) (pc : Nat) (ls : Array Slot), decode b_Mod_writeDictionary pc = .ok (.return_, 1) → post x → Wd dC dI cI cB cJ cZ ad stM kcM 115 A x H → va_S A s.heap H locs → W p l e R s m args below meth c H locs cells slots Q (F0 m pc ls [])) (hrec4 : ∀ (l1 : Int32) (l2 : Int32) (x : St) (H : Heap) (locs : List Loc) (ls : Array Slot), rec4 l1 l2 x → Wd dC dI cI cB cJ cZ ad stM kcM 115 A x H → va_S A s.heap H locs → lv_has ls 4 [(0, .ref (ad 0)), (1, .int l1), (2, .int l2)] → W p l e R s m args below meth c H locs cells slots Q (F0 m 4 ls [])) : ∀ (l1 : Int32) (l2 : Int32) (l3 : Int32) (s0 : Int32) (s1 : Int32) (s2 : Nat) (x : St) (H : Heap) (locs : List Loc) (ls : Array Slot), (s2 < 115 ∧ kcM s2 = 20) → j_Mod_writeDictionary_38 post rec4 l1 l2 l3 s0 s1 s2 x → Wd dC dI cI cB cJ cZ ad stM kcM 115 A x H → va_S A s.heap H locs → lv_has ls 4 [(0, .ref (ad 0)), (1, .int l1), (2, .int l2), (3, .int l3)] → W p l e R s m args below meth c H locs cells slots Q (F0 m 38 ls [.int s0, .int s1, .ref (ad s2)]) := by
  intro l1 l2 l3 s0 s1 s2 x H locs ls fs2 hw hW hS hl
  unfold j_Mod_writeDictionary_38 at hw
  obtain ⟨hi, hw⟩ := hw
  refine w_iast (o := s2) hx hb hK hW hS fs2.1 fs2.2 hi d_Mod_writeDictionary_38 (fun H locs hW hS => ?_)
  obtain ⟨x680, ex680⟩ : ∃ y : St, y = setA x s2 s1 s0 := ⟨_, rfl⟩
  rw [← ex680] at hW
  have hw := hw x680 ex680
  refine lv_iload_n hx hb d_Mod_writeDictionary_39 rfl (lv_at hl 1 rfl) ?_
  refine lv_iload_n hx hb d_Mod_writeDictionary_40 rfl (lv_at hl 3 rfl) ?_
  refine lv_iload_n hx hb d_Mod_writeDictionary_41 rfl (lv_at hl 2 rfl) ?_
  refine lv_icmp_ne (tgt := 49) hx hb d_Mod_writeDictionary_42 (by decide) (fun c681 => ?_) (fun c681 => ?_)
  · have hw := hw.1 c681
    refine lv_iconst (v := 0) hx hb d_Mod_writeDictionary_49 (by decide) ?_
    exact t_Mod_writeDictionary_50 hx hb hml hown hT hK hN hA hRc hRs hRf hRl hret hrec4 l1 l2 l3 0 l1 x680 H locs ls  hw hW hS (lv_sub hl [0, 1, 2, 3] rfl)
  · have hw := hw.2 c681
    refine lv_iconst (v := 1) hx hb d_Mod_writeDictionary_45 (by decide) ?_
    refine lv_goto (tgt := 50) hx hb d_Mod_writeDictionary_46 (by decide) ?_
    exact t_Mod_writeDictionary_50 hx hb hml hown hT hK hN hA hRc hRs hRf hRl hret hrec4 l1 l2 l3 1 l1 x680 H locs ls  hw hW hS (lv_sub hl [0, 1, 2, 3] rfl)
set_option maxRecDepth 100000 in
def j_Mod_writeDictionary_4 (post : St → Prop) (rec4 : Int32 → Int32 → St → Prop) (l1 : Int32) (l2 : Int32) (x : St) : Prop := (((fI x 0 42) ≤ l2 → wp_Mod_putVarint (fun (x683 : St) => ∃ n : Nat, wl_Mod_writeDictionary_66 post n l1 0 x683) (l1 : Int32).toInt64 x) ∧ (¬ (fI x 0 42) ≤ l2 → wp_Mod_firstLike (fun (r685 : Int32) (x684 : St) => ((¬ r685 = l2 → (vp_in r685 (fN x684 44) ∧ j_Mod_writeDictionary_38 post rec4 l1 l2 r685 (rA x684 44 r685) l2 44 x684)) ∧ (r685 = l2 → j_Mod_writeDictionary_38 post rec4 l1 l2 r685 l1 l2 44 x684))) l2 x))
set_option maxHeartbeats 4000000 in
set_option maxRecDepth 100000 in
theorem t_Mod_writeDictionary_4 {p : Program} {l : Launch} {e : Env} {R : Room} {s : State} {m : MethodId} {args : Array Value} {below : List Frame} {meth : Method} {c : Code} {cells slots : Nat} {Q : State → Prop} {dC : Nat → ClassId} {dI : Nat → Nat → Nat} {cI cB cJ cZ : ClassId} {A : Nat → Prop} {ad : Nat → Nat} {post : St → Prop} {rec4 : Int32 → Int32 → St → Prop} (hx : p.tables.exec = Jvm.exec) (hb : c.code = b_Mod_writeDictionary) (hml : c.maxLocals = 4) (hown : s.vm.findClass R_Mod = some m.cls) (hT : ∀ w ∈ TG, w.before args s = true) (hK : va_K (dC, dI) CL (TY cI cB cJ cZ) s) (hN : NW s) (hA : ∀ q : Nat, s.heap.size ≤ q → A q) (hRc : cells ≤ R.cells) (hRs : slots ≤ R.slots) (hRf : 3 ≤ R.frames) (hRl : 75 ≤ R.locals) (hret : ∀ (x : St) (H : Heap) (locs : List Loc) (pc : Nat) (ls : Array Slot), decode b_Mod_writeDictionary pc = .ok (.return_, 1) → post x → Wd dC dI cI cB cJ cZ ad stM kcM 115 A x H → va_S A s.heap H locs → W p l e R s m args below meth c H locs cells slots Q (F0 m pc ls [])) (hrec4 : ∀ (l1 : Int32) (l2 : Int32) (x : St) (H : Heap) (locs : List Loc) (ls : Array Slot), rec4 l1 l2 x → Wd dC dI cI cB cJ cZ ad stM kcM 115 A x H → va_S A s.heap H locs → lv_has ls 4 [(0, .ref (ad 0)), (1, .int l1), (2, .int l2)] → W p l e R s m args below meth c H locs cells slots Q (F0 m 4 ls [])) : ∀ (l1 : Int32) (l2 : Int32) (x : St) (H : Heap) (locs : List Loc) (ls : Array Slot), j_Mod_writeDictionary_4 post rec4 l1 l2 x → Wd dC dI cI cB cJ cZ ad stM kcM 115 A x H → va_S A s.heap H locs → lv_has ls 4 [(0, .ref (ad 0)), (1, .int l1), (2, .int l2)] → W p l e R s m args below meth c H locs cells slots Q (F0 m 4 ls []) := by
  intro l1 l2 x H locs ls  hw hW hS hl
  unfold j_Mod_writeDictionary_4 at hw
  refine lv_iload_n hx hb d_Mod_writeDictionary_4 rfl (lv_at hl 2 rfl) ?_
  refine lv_aload_n hx hb d_Mod_writeDictionary_5 rfl (lv_at hl 0 rfl) ?_
  refine w_geti (k := 42) (t := 12) (C := R_Mod) (T := F_Mod) (N := 167) hx hb hT hown hK hW ko_0.1 ko_0.2 (by decide) in_Mod rfl rfl (by decide) rfl fr_Mod_42 w_8_222 d_Mod_writeDictionary_6 ?_
  refine lv_icmp_ge (tgt := 58) hx hb d_Mod_writeDictionary_9 (by decide) (fun c682 => ?_) (fun c682 => ?_)
  · have hw := hw.1 c682
    refine lv_aload_n hx hb d_Mod_writeDictionary_58 rfl (lv_at hl 0 rfl) ?_
    refine lv_iload_n hx hb d_Mod_writeDictionary_59 rfl (lv_at hl 1 rfl) ?_
    refine lv_i2l hx hb d_Mod_writeDictionary_60 rfl ?_
    have hF := hW.free hS hA
    refine va_callv (va_runV (C := R_Mod) (As := [.long (l1 : Int32).toInt64]) (rest := []) ⟨hx, hb, hml, hown, hT⟩ (k_Mod_putVarint l dC dI cI cB cJ cZ ad H.size (l1 : Int32).toInt64 x  hw) ⟨callB_of 1 hT (gw_in w_11_198) rfl rfl rfl (hT _ w_1_15) (hT _ w_11_195) (by decide +kernel) ⟨Nat.le_trans (by decide) hRf, Nat.le_trans (by decide) hRl⟩, hT _ w_11_197, hT _ ws_153⟩ ⟨PW.blind, va_recv hK hW.1 (ci := 12) (q0 := 0) rfl (pic_obj ko_0.1 ko_0.2 (by decide)), PW.at _ hW hK hN⟩ rfl rfl hl.1 rfl (lv_room (Nat.le_of_ble_eq_true rfl)) d_Mod_writeDictionary_61 ⟨hRc, hRs⟩) hS (fun q _ h => hF q h) hF (fun  x683 t H locs ht hvm hw hB hz1 hk1 hS => ?_)
    have hW := Wd.back hB ht hF
    clear hB ht hF hz1 hk1 hvm
    refine lv_iconst (v := 0) hx hb d_Mod_writeDictionary_64 (by decide) ?_
    refine lv_istore_n (lv' := [(2, .int 0), (0, .ref (ad 0)), (1, .int l1)]) hx hb d_Mod_writeDictionary_65 rfl hl (by decide) rfl (fun ls hl => ?_)
    obtain ⟨n, hw⟩ := hw
    exact tl_Mod_writeDictionary_66 hx hb hml hown hT hK hN hA hRc hRs hRf hRl hret  n l1 0 x683 H locs ls  hw hW hS (lv_sub hl [1, 2, 0] rfl)
  · have hw := hw.2 c682
    refine lv_aload_n hx hb d_Mod_writeDictionary_12 rfl (lv_at hl 0 rfl) ?_
    refine lv_iload_n hx hb d_Mod_writeDictionary_13 rfl (lv_at hl 2 rfl) ?_
    have hF := hW.free hS hA
    refine va_calli (va_runV (C := R_Mod) (As := [.int l2]) (rest := []) ⟨hx, hb, hml, hown, hT⟩ (k_Mod_firstLike l dC dI cI cB cJ cZ ad H.size l2 x  hw) ⟨callB_of 1 hT (gw_in w_12_27) rfl rfl rfl (hT _ w_1_15) (hT _ w_12_24) (by decide +kernel) ⟨Nat.le_trans (by decide) hRf, Nat.le_trans (by decide) hRl⟩, hT _ w_12_26, hT _ ws_169⟩ ⟨PW.blind, va_recv hK hW.1 (ci := 12) (q0 := 0) rfl (pic_obj ko_0.1 ko_0.2 (by decide)), PW.at _ hW hK hN⟩ rfl rfl hl.1 rfl (lv_room (Nat.le_of_ble_eq_true rfl)) d_Mod_writeDictionary_14 ⟨hRc, hRs⟩) hS (fun q _ h => hF q h) hF (fun r685 x684 t H locs ht hvm hw hB hz1 hk1 hS => ?_)
    have hW := Wd.back hB ht hF
    clear hB ht hF hz1 hk1 hvm
    refine lv_istore_n (lv' := [(3, .int r685), (0, .ref (ad 0)), (1, .int l1), (2, .int l2)]) hx hb d_Mod_writeDictionary_17 rfl hl (by decide) rfl (fun ls hl => ?_)
    refine lv_aload_n hx hb d_Mod_writeDictionary_18 rfl (lv_at hl 1 rfl) ?_
    refine w_getf (q := 44) (k := 72) (t := 12) (C := R_Mod) (T := F_Mod) (N := 167) hx hb hT hown hK hW ko_0.1 ko_0.2 (by decide) in_Mod rfl rfl (by decide) rfl fr_Mod_72 w_9_12 d_Mod_writeDictionary_19 rfl ?_
    refine lv_iload_n hx hb d_Mod_writeDictionary_22 rfl (lv_at hl 3 rfl) ?_
    refine lv_iload_n hx hb d_Mod_writeDictionary_23 rfl (lv_at hl 0 rfl) ?_
    refine lv_iload_n hx hb d_Mod_writeDictionary_24 rfl (lv_at hl 3 rfl) ?_
    refine lv_icmp_ne (tgt := 32) hx hb d_Mod_writeDictionary_25 (by decide) (fun c686 => ?_) (fun c686 => ?_)
    · have hw := hw.1 c686
      refine lv_aload_n hx hb d_Mod_writeDictionary_32 rfl (lv_at hl 1 rfl) ?_
      refine w_getf (q := 44) (k := 72) (t := 12) (C := R_Mod) (T := F_Mod) (N := 167) hx hb hT hown hK hW ko_0.1 ko_0.2 (by decide) in_Mod rfl rfl (by decide) rfl fr_Mod_72 w_9_12 d_Mod_writeDictionary_33 rfl ?_
      refine lv_iload_n hx hb d_Mod_writeDictionary_36 rfl (lv_at hl 0 rfl) ?_
      obtain ⟨hi, hw⟩ := hw
      refine w_iald (o := 44) hx hb hK hW ko_44.1 ko_44.2 hi d_Mod_writeDictionary_37 ?_
      exact t_Mod_writeDictionary_38 hx hb hml hown hT hK hN hA hRc hRs hRf hRl hret hrec4 l1 l2 r685 (rA x684 44 r685) l2 44 x684 H locs ls ko_44 hw hW hS (lv_sub hl [1, 2, 3, 0] rfl)
    · have hw := hw.2 c686
      refine lv_iload_n hx hb d_Mod_writeDictionary_28 rfl (lv_at hl 2 rfl) ?_
      refine lv_goto (tgt := 38) hx hb d_Mod_writeDictionary_29 (by decide) ?_
      exact t_Mod_writeDictionary_38 hx hb hml hown hT hK hN hA hRc hRs hRf hRl hret hrec4 l1 l2 r685 l1 l2 44 x684 H locs ls ko_44 hw hW hS (lv_sub hl [1, 2, 3, 0] rfl)
def wl_Mod_writeDictionary_4 (post : St → Prop) : Nat → Int32 → Int32 → St → Prop
  | 0 => fun _ _ _ => False
  | n + 1 => j_Mod_writeDictionary_4 post (wl_Mod_writeDictionary_4 post n)
set_option maxHeartbeats 4000000 in
set_option maxRecDepth 100000 in
theorem tl_Mod_writeDictionary_4 {p : Program} {l : Launch} {e : Env} {R : Room} {s : State} {m : MethodId} {args : Array Value} {below : List Frame} {meth : Method} {c : Code} {cells slots : Nat} {Q : State → Prop} {dC : Nat → ClassId} {dI : Nat → Nat → Nat} {cI cB cJ cZ : ClassId} {A : Nat → Prop} {ad : Nat → Nat} {post : St → Prop} (hx : p.tables.exec = Jvm.exec) (hb : c.code = b_Mod_writeDictionary) (hml : c.maxLocals = 4) (hown : s.vm.findClass R_Mod = some m.cls) (hT : ∀ w ∈ TG, w.before args s = true) (hK : va_K (dC, dI) CL (TY cI cB cJ cZ) s) (hN : NW s) (hA : ∀ q : Nat, s.heap.size ≤ q → A q) (hRc : cells ≤ R.cells) (hRs : slots ≤ R.slots) (hRf : 3 ≤ R.frames) (hRl : 75 ≤ R.locals) (hret : ∀ (x : St) (H : Heap) (locs : List Loc) (pc : Nat) (ls : Array Slot), decode b_Mod_writeDictionary pc = .ok (.return_, 1) → post x → Wd dC dI cI cB cJ cZ ad stM kcM 115 A x H → va_S A s.heap H locs → W p l e R s m args below meth c H locs cells slots Q (F0 m pc ls []))  : ∀ n : Nat, ∀ (l1 : Int32) (l2 : Int32) (x : St) (H : Heap) (locs : List Loc) (ls : Array Slot), wl_Mod_writeDictionary_4 post n l1 l2 x → Wd dC dI cI cB cJ cZ ad stM kcM 115 A x H → va_S A s.heap H locs → lv_has ls 4 [(0, .ref (ad 0)), (1, .int l1), (2, .int l2)] → W p l e R s m args below meth c H locs cells slots Q (F0 m 4 ls []) := by
  intro n
  induction n with
  | zero => intro l1 l2 x H locs ls  hw; exact hw.elim
  | succ n ih => intro l1 l2 x H locs ls  hw hW hS hl; exact t_Mod_writeDictionary_4 hx hb hml hown hT hK hN hA hRc hRs hRf hRl hret  ih l1 l2 x H locs ls  hw hW hS hl
set_option maxRecDepth 100000 in
def wp_Mod_writeDictionary (post : St → Prop)  (x : St) : Prop := ∃ n : Nat, wl_Mod_writeDictionary_4 post n 0 0 x
set_option maxHeartbeats 4000000 in
set_option maxRecDepth 100000 in
theorem t_Mod_writeDictionary_e {p : Program} {l : Launch} {e : Env} {R : Room} {s : State} {m : MethodId} {args : Array Value} {below : List Frame} {meth : Method} {c : Code} {cells slots : Nat} {Q : State → Prop} {dC : Nat → ClassId} {dI : Nat → Nat → Nat} {cI cB cJ cZ : ClassId} {A : Nat → Prop} {ad : Nat → Nat} {post : St → Prop} (hx : p.tables.exec = Jvm.exec) (hb : c.code = b_Mod_writeDictionary) (hml : c.maxLocals = 4) (hown : s.vm.findClass R_Mod = some m.cls) (hT : ∀ w ∈ TG, w.before args s = true) (hK : va_K (dC, dI) CL (TY cI cB cJ cZ) s) (hN : NW s) (hA : ∀ q : Nat, s.heap.size ≤ q → A q) (hRc : cells ≤ R.cells) (hRs : slots ≤ R.slots) (hRf : 3 ≤ R.frames) (hRl : 75 ≤ R.locals) (hret : ∀ (x : St) (H : Heap) (locs : List Loc) (pc : Nat) (ls : Array Slot), decode b_Mod_writeDictionary pc = .ok (.return_, 1) → post x → Wd dC dI cI cB cJ cZ ad stM kcM 115 A x H → va_S A s.heap H locs → W p l e R s m args below meth c H locs cells slots Q (F0 m pc ls [])) : ∀  (x : St) (H : Heap) (locs : List Loc) (ls : Array Slot), wp_Mod_writeDictionary post  x → Wd dC dI cI cB cJ cZ ad stM kcM 115 A x H → va_S A s.heap H locs → lv_has ls 4 [(0, .ref (ad 0))] → W p l e R s m args below meth c H locs cells slots Q (F0 m 0 ls []) := by
  intro  x H locs ls  hw hW hS hl
  unfold wp_Mod_writeDictionary at hw
  refine lv_iconst (v := 0) hx hb d_Mod_writeDictionary_0 (by decide) ?_
  refine lv_istore_n (lv' := [(1, .int 0), (0, .ref (ad 0))]) hx hb d_Mod_writeDictionary_1 rfl hl (by decide) rfl (fun ls hl => ?_)
  refine lv_iconst (v := 0) hx hb d_Mod_writeDictionary_2 (by decide) ?_
  refine lv_istore_n (lv' := [(2, .int 0), (1, .int 0), (0, .ref (ad 0))]) hx hb d_Mod_writeDictionary_3 rfl hl (by decide) rfl (fun ls hl => ?_)
  obtain ⟨n, hw⟩ := hw
  exact tl_Mod_writeDictionary_4 hx hb hml hown hT hK hN hA hRc hRs hRf hRl hret  n 0 0 x H locs ls  hw hW hS (lv_sub hl [2, 1, 0] rfl)
set_option maxHeartbeats 4000000 in
set_option maxRecDepth 100000 in
theorem k_Mod_writeDictionary (l : Launch) (dC : Nat → ClassId) (dI : Nat → Nat → Nat) (cI cB cJ cZ : ClassId) (ad : Nat → Nat) (sz : Nat)  (x : St) {post : St → Prop} (hw : wp_Mod_writeDictionary post  x) : Met l y_Mod_writeDictionary (wsOf y_Mod_writeDictionary b_Mod_writeDictionary 4 (none)) ({ frames := 3, cells := 0, slots := 0, locals := 75 }) (va_Pc [.ref (ad 0)] (PW dC dI cI cB cJ cZ ad stM kcM 115 sz x)) (va_Qv (fun (y : St) => post y) (fun y t => Wd dC dI cI cB cJ cZ ad stM kcM 115 (va_A (pic ad stM kcM 115 cI cB cJ cZ x) sz) y t.heap) (va_A (pic ad stM kcM 115 cI cB cJ cZ x) sz)) 0 0 (va_A (pic ad stM kcM 115 cI cB cJ cZ x) sz) := by
  refine Met.ofW (cc := b_Mod_writeDictionary) (maxL := 4) (ret := none) (by decide) rfl ?_
  intro p e s m args below meth c s₁ B hml hv
  obtain ⟨rfl, hsz, hW0, hK, hN⟩ := hv
  have hx := B.exec
  have hb := B.bytes
  have hr := B.returns
  have hts := atoms_spec B.pre
  have hT : ∀ w ∈ TG, w.before _ s = true := fun w h => hts w (List.mem_cons_of_mem _ h)
  have hown : s.vm.findClass R_Mod = some m.cls := findClass_of_methodNamed B.named
  have hlocks := B.notSynchronized
  subst hsz
  have hW : Wd dC dI cI cB cJ cZ ad stM kcM 115 (va_A (pic ad stM kcM 115 cI cB cJ cZ x) s.heap.size) x s.heap := ⟨hW0.1, hW0.2.1.self (sz := s.heap.size), hW0.2.2⟩
  generalize hAe : va_A (pic ad stM kcM 115 cI cB cJ cZ x) s.heap.size = A at hW ⊢
  have hA : ∀ q : Nat, s.heap.size ≤ q → A q := fun q h => by rw [← hAe]; exact Or.inr h
  have hS : va_S A s.heap s.heap [] := va_S.rf
  have hl := lv_entry ([.ref (ad 0)]) (n := 4) (Nat.le_of_ble_eq_true rfl)
  rw [lg_entry_eq]
  generalize (lg_sl ([.ref (ad 0)]) ++ List.replicate (4 - (lg_sl ([.ref (ad 0)])).length) Slot.unset).toArray = ls at hl ⊢
  have hl : lv_has ls 4 [(0, .ref (ad 0))] := hl
  exact t_Mod_writeDictionary_e hx hb hml hown hT hK hN hA (Nat.le_refl 0) (Nat.le_refl 0) (Nat.le_refl 3) (Nat.le_refl 75) (fun x H locs pc ls hd hp hW hS => W.vret hx hb hr (fun t ht hM => ⟨⟨x, rfl, hp, Wd.back hW ht.symm (fun _ z => z)⟩, hS.F ht⟩) hS.2.2 hd hlocks)   x _ _ ls  hw hW hS hl
end
