theorem w_12_0 : (Jvm.Cond.methodLink "StripedVaultModel" (626 : Nat) ({ cls := "StripedVaultModel", name := "lengthOf", desc := "(I)I" } : Jvm.MethodName)) ∈ TG := tw_12 0 (by decide +kernel) (by decide +kernel)
theorem w_12_12 : (Jvm.Cond.methodLink "StripedVaultModel" (638 : Nat) ({ cls := "StripedVaultModel", name := "inCommon", desc := "(I)I" } : Jvm.MethodName)) ∈ TG := tw_12 12 (by decide +kernel) (by decide +kernel)
theorem w_12_14 : (Jvm.Cond.instanceMethod ({ cls := "StripedVaultModel", name := "inCommon", desc := "(I)I" } : Jvm.MethodName)) ∈ TG := tw_12 14 (by decide +kernel) (by decide +kernel)
theorem w_12_15 : (Jvm.Cond.code ({ cls := "StripedVaultModel", name := "inCommon", desc := "(I)I" } : Jvm.MethodName) prog_14_method_73_code (3 : Nat) (Option.some Jvm.ClassFile.FieldType.int)) ∈ TG := tw_12 15 (by decide +kernel) (by decide +kernel)
theorem w_12_2 : (Jvm.Cond.instanceMethod ({ cls := "StripedVaultModel", name := "lengthOf", desc := "(I)I" } : Jvm.MethodName)) ∈ TG := tw_12 2 (by decide +kernel) (by decide +kernel)
theorem w_12_3 : (Jvm.Cond.code ({ cls := "StripedVaultModel", name := "lengthOf", desc := "(I)I" } : Jvm.MethodName) prog_14_method_68_code (2 : Nat) (Option.some Jvm.ClassFile.FieldType.int)) ∈ TG := tw_12 3 (by decide +kernel) (by decide +kernel)
theorem w_12_4 : (Jvm.Cond.methodLink "StripedVaultModel" (635 : Nat) ({ cls := "StripedVaultModel", name := "writeCode", desc := "()V" } : Jvm.MethodName)) ∈ TG := tw_12 4 (by decide +kernel) (by decide +kernel)
theorem w_12_6 : (Jvm.Cond.instanceMethod ({ cls := "StripedVaultModel", name := "writeCode", desc := "()V" } : Jvm.MethodName)) ∈ TG := tw_12 6 (by decide +kernel) (by decide +kernel)
theorem w_12_7 : (Jvm.Cond.code ({ cls := "StripedVaultModel", name := "writeCode", desc := "()V" } : Jvm.MethodName) prog_14_method_59_code (3 : Nat) (Option.none : Option Jvm.ClassFile.FieldType)) ∈ TG := tw_12 7 (by decide +kernel) (by decide +kernel)
theorem ws_163 : Cond.selects R_Mod y_Mod_lengthOf y_Mod_lengthOf ∈ TG := tw_s 163 (by decide +kernel) (by decide +kernel)
theorem ws_164 : Cond.selects R_Mod y_Mod_writeCode y_Mod_writeCode ∈ TG := tw_s 164 (by decide +kernel) (by decide +kernel)
theorem ws_166 : Cond.selects R_Mod y_Mod_inCommon y_Mod_inCommon ∈ TG := tw_s 166 (by decide +kernel) (by decide +kernel)
theorem d_Mod_lengthOf_0 : decode b_Mod_lengthOf 0 = .ok (.aload_n 0, 1) := by decide +kernel
theorem d_Mod_lengthOf_1 : decode b_Mod_lengthOf 1 = .ok (.getfield 109, 3) := by decide +kernel
theorem d_Mod_lengthOf_4 : decode b_Mod_lengthOf 4 = .ok (.iload_n 1, 1) := by decide +kernel
theorem d_Mod_lengthOf_5 : decode b_Mod_lengthOf 5 = .ok (.iconst 1, 1) := by decide +kernel
theorem d_Mod_lengthOf_6 : decode b_Mod_lengthOf 6 = .ok (.iadd, 1) := by decide +kernel
theorem d_Mod_lengthOf_7 : decode b_Mod_lengthOf 7 = .ok (.iaload, 1) := by decide +kernel
theorem d_Mod_lengthOf_8 : decode b_Mod_lengthOf 8 = .ok (.aload_n 0, 1) := by decide +kernel
theorem d_Mod_lengthOf_9 : decode b_Mod_lengthOf 9 = .ok (.getfield 109, 3) := by decide +kernel
theorem d_Mod_lengthOf_12 : decode b_Mod_lengthOf 12 = .ok (.iload_n 1, 1) := by decide +kernel
theorem d_Mod_lengthOf_13 : decode b_Mod_lengthOf 13 = .ok (.iaload, 1) := by decide +kernel
theorem d_Mod_lengthOf_14 : decode b_Mod_lengthOf 14 = .ok (.isub, 1) := by decide +kernel
theorem d_Mod_lengthOf_15 : decode b_Mod_lengthOf 15 = .ok (.ireturn, 1) := by decide +kernel
theorem d_Mod_writeCode_0 : decode b_Mod_writeCode 0 = .ok (.aload_n 0, 1) := by decide +kernel
theorem d_Mod_writeCode_1 : decode b_Mod_writeCode 1 = .ok (.getfield 547, 3) := by decide +kernel
theorem d_Mod_writeCode_4 : decode b_Mod_writeCode 4 = .ok (.istore_n 1, 1) := by decide +kernel
theorem d_Mod_writeCode_5 : decode b_Mod_writeCode 5 = .ok (.aload_n 0, 1) := by decide +kernel
theorem d_Mod_writeCode_6 : decode b_Mod_writeCode 6 = .ok (.invokevirtual 588, 3) := by decide +kernel
theorem d_Mod_writeCode_9 : decode b_Mod_writeCode 9 = .ok (.aload_n 0, 1) := by decide +kernel
theorem d_Mod_writeCode_10 : decode b_Mod_writeCode 10 = .ok (.getfield 547, 3) := by decide +kernel
theorem d_Mod_writeCode_13 : decode b_Mod_writeCode 13 = .ok (.iload_n 1, 1) := by decide +kernel
theorem d_Mod_writeCode_14 : decode b_Mod_writeCode 14 = .ok (.isub, 1) := by decide +kernel
theorem d_Mod_writeCode_15 : decode b_Mod_writeCode 15 = .ok (.istore_n 2, 1) := by decide +kernel
theorem d_Mod_writeCode_16 : decode b_Mod_writeCode 16 = .ok (.aload_n 0, 1) := by decide +kernel
theorem d_Mod_writeCode_17 : decode b_Mod_writeCode 17 = .ok (.iload_n 1, 1) := by decide +kernel
theorem d_Mod_writeCode_18 : decode b_Mod_writeCode 18 = .ok (.putfield 547, 3) := by decide +kernel
theorem d_Mod_writeCode_21 : decode b_Mod_writeCode 21 = .ok (.aload_n 0, 1) := by decide +kernel
theorem d_Mod_writeCode_22 : decode b_Mod_writeCode 22 = .ok (.iload_n 2, 1) := by decide +kernel
theorem d_Mod_writeCode_23 : decode b_Mod_writeCode 23 = .ok (.i2l, 1) := by decide +kernel
theorem d_Mod_writeCode_24 : decode b_Mod_writeCode 24 = .ok (.invokevirtual 567, 3) := by decide +kernel
theorem d_Mod_writeCode_27 : decode b_Mod_writeCode 27 = .ok (.aload_n 0, 1) := by decide +kernel
theorem d_Mod_writeCode_28 : decode b_Mod_writeCode 28 = .ok (.invokevirtual 588, 3) := by decide +kernel
theorem d_Mod_writeCode_31 : decode b_Mod_writeCode 31 = .ok (.return_, 1) := by decide +kernel
theorem d_Mod_writeLengths_42 : decode b_Mod_writeLengths 42 = .ok (.iload_n 1, 1) := by decide +kernel
theorem d_Mod_writeLengths_43 : decode b_Mod_writeLengths 43 = .ok (.aload_n 0, 1) := by decide +kernel
theorem d_Mod_writeLengths_44 : decode b_Mod_writeLengths 44 = .ok (.getfield 109, 3) := by decide +kernel
theorem d_Mod_writeLengths_47 : decode b_Mod_writeLengths 47 = .ok (.aload_n 0, 1) := by decide +kernel
theorem d_Mod_writeLengths_48 : decode b_Mod_writeLengths 48 = .ok (.getfield 632, 3) := by decide +kernel
theorem d_Mod_writeLengths_51 : decode b_Mod_writeLengths 51 = .ok (.iaload, 1) := by decide +kernel
theorem d_Mod_writeLengths_52 : decode b_Mod_writeLengths 52 = .ok (.if_icmp .ge 19, 3) := by decide +kernel
theorem d_Mod_writeLengths_71 : decode b_Mod_writeLengths 71 = .ok (.return_, 1) := by decide +kernel
theorem d_Mod_writeLengths_55 : decode b_Mod_writeLengths 55 = .ok (.aload_n 0, 1) := by decide +kernel
theorem d_Mod_writeLengths_56 : decode b_Mod_writeLengths 56 = .ok (.aload_n 0, 1) := by decide +kernel
theorem d_Mod_writeLengths_57 : decode b_Mod_writeLengths 57 = .ok (.getfield 118, 3) := by decide +kernel
theorem d_Mod_writeLengths_60 : decode b_Mod_writeLengths 60 = .ok (.iload_n 1, 1) := by decide +kernel
theorem d_Mod_writeLengths_61 : decode b_Mod_writeLengths 61 = .ok (.iaload, 1) := by decide +kernel
theorem d_Mod_writeLengths_62 : decode b_Mod_writeLengths 62 = .ok (.invokevirtual 558, 3) := by decide +kernel
theorem d_Mod_writeLengths_65 : decode b_Mod_writeLengths 65 = .ok (.iinc 1 1, 3) := by decide +kernel
theorem d_Mod_writeLengths_68 : decode b_Mod_writeLengths 68 = .ok (.goto (-26), 3) := by decide +kernel
theorem d_Mod_writeLengths_10 : decode b_Mod_writeLengths 10 = .ok (.iload_n 1, 1) := by decide +kernel
theorem d_Mod_writeLengths_11 : decode b_Mod_writeLengths 11 = .ok (.aload_n 0, 1) := by decide +kernel
theorem d_Mod_writeLengths_12 : decode b_Mod_writeLengths 12 = .ok (.getfield 632, 3) := by decide +kernel
theorem d_Mod_writeLengths_15 : decode b_Mod_writeLengths 15 = .ok (.if_icmp .ge 21, 3) := by decide +kernel
theorem d_Mod_writeLengths_36 : decode b_Mod_writeLengths 36 = .ok (.aload_n 0, 1) := by decide +kernel
theorem d_Mod_writeLengths_37 : decode b_Mod_writeLengths 37 = .ok (.invokevirtual 635, 3) := by decide +kernel
theorem d_Mod_writeLengths_40 : decode b_Mod_writeLengths 40 = .ok (.iconst 0, 1) := by decide +kernel
theorem d_Mod_writeLengths_41 : decode b_Mod_writeLengths 41 = .ok (.istore_n 1, 1) := by decide +kernel
theorem d_Mod_writeLengths_18 : decode b_Mod_writeLengths 18 = .ok (.aload_n 0, 1) := by decide +kernel
theorem d_Mod_writeLengths_19 : decode b_Mod_writeLengths 19 = .ok (.getfield 139, 3) := by decide +kernel
theorem d_Mod_writeLengths_22 : decode b_Mod_writeLengths 22 = .ok (.iload_n 1, 1) := by decide +kernel
theorem d_Mod_writeLengths_23 : decode b_Mod_writeLengths 23 = .ok (.aload_n 0, 1) := by decide +kernel
theorem d_Mod_writeLengths_24 : decode b_Mod_writeLengths 24 = .ok (.iload_n 1, 1) := by decide +kernel
theorem d_Mod_writeLengths_25 : decode b_Mod_writeLengths 25 = .ok (.invokevirtual 626, 3) := by decide +kernel
theorem d_Mod_writeLengths_28 : decode b_Mod_writeLengths 28 = .ok (.i2l, 1) := by decide +kernel
theorem d_Mod_writeLengths_29 : decode b_Mod_writeLengths 29 = .ok (.lastore, 1) := by decide +kernel
theorem d_Mod_writeLengths_30 : decode b_Mod_writeLengths 30 = .ok (.iinc 1 1, 3) := by decide +kernel
theorem d_Mod_writeLengths_33 : decode b_Mod_writeLengths 33 = .ok (.goto (-23), 3) := by decide +kernel
theorem d_Mod_writeLengths_0 : decode b_Mod_writeLengths 0 = .ok (.aload_n 0, 1) := by decide +kernel
theorem d_Mod_writeLengths_1 : decode b_Mod_writeLengths 1 = .ok (.aload_n 0, 1) := by decide +kernel
theorem d_Mod_writeLengths_2 : decode b_Mod_writeLengths 2 = .ok (.getfield 632, 3) := by decide +kernel
theorem d_Mod_writeLengths_5 : decode b_Mod_writeLengths 5 = .ok (.putfield 591, 3) := by decide +kernel
theorem d_Mod_writeLengths_8 : decode b_Mod_writeLengths 8 = .ok (.iconst 0, 1) := by decide +kernel
theorem d_Mod_writeLengths_9 : decode b_Mod_writeLengths 9 = .ok (.istore_n 1, 1) := by decide +kernel
theorem d_Mod_inCommon_63 : decode b_Mod_inCommon 63 = .ok (.iload_n 2, 1) := by decide +kernel
theorem d_Mod_inCommon_64 : decode b_Mod_inCommon 64 = .ok (.ireturn, 1) := by decide +kernel
theorem d_Mod_inCommon_2 : decode b_Mod_inCommon 2 = .ok (.iload_n 1, 1) := by decide +kernel
theorem d_Mod_inCommon_3 : decode b_Mod_inCommon 3 = .ok (.ifCond .le 60, 3) := by decide +kernel
theorem d_Mod_inCommon_6 : decode b_Mod_inCommon 6 = .ok (.iload_n 2, 1) := by decide +kernel
theorem d_Mod_inCommon_7 : decode b_Mod_inCommon 7 = .ok (.aload_n 0, 1) := by decide +kernel
theorem d_Mod_inCommon_8 : decode b_Mod_inCommon 8 = .ok (.iload_n 1, 1) := by decide +kernel
theorem d_Mod_inCommon_9 : decode b_Mod_inCommon 9 = .ok (.invokevirtual 626, 3) := by decide +kernel
theorem d_Mod_inCommon_12 : decode b_Mod_inCommon 12 = .ok (.if_icmp .ge 51, 3) := by decide +kernel
theorem d_Mod_inCommon_15 : decode b_Mod_inCommon 15 = .ok (.iload_n 2, 1) := by decide +kernel
theorem d_Mod_inCommon_16 : decode b_Mod_inCommon 16 = .ok (.aload_n 0, 1) := by decide +kernel
theorem d_Mod_inCommon_17 : decode b_Mod_inCommon 17 = .ok (.iload_n 1, 1) := by decide +kernel
theorem d_Mod_inCommon_18 : decode b_Mod_inCommon 18 = .ok (.iconst 1, 1) := by decide +kernel
theorem d_Mod_inCommon_19 : decode b_Mod_inCommon 19 = .ok (.isub, 1) := by decide +kernel
theorem d_Mod_inCommon_20 : decode b_Mod_inCommon 20 = .ok (.invokevirtual 626, 3) := by decide +kernel
theorem d_Mod_inCommon_23 : decode b_Mod_inCommon 23 = .ok (.if_icmp .ge 40, 3) := by decide +kernel
theorem d_Mod_inCommon_26 : decode b_Mod_inCommon 26 = .ok (.aload_n 0, 1) := by decide +kernel
theorem d_Mod_inCommon_27 : decode b_Mod_inCommon 27 = .ok (.getfield 118, 3) := by decide +kernel
theorem d_Mod_inCommon_30 : decode b_Mod_inCommon 30 = .ok (.aload_n 0, 1) := by decide +kernel
theorem d_Mod_inCommon_31 : decode b_Mod_inCommon 31 = .ok (.getfield 109, 3) := by decide +kernel
theorem d_Mod_inCommon_34 : decode b_Mod_inCommon 34 = .ok (.iload_n 1, 1) := by decide +kernel
theorem d_Mod_inCommon_35 : decode b_Mod_inCommon 35 = .ok (.iaload, 1) := by decide +kernel
theorem d_Mod_inCommon_36 : decode b_Mod_inCommon 36 = .ok (.iload_n 2, 1) := by decide +kernel
theorem d_Mod_inCommon_37 : decode b_Mod_inCommon 37 = .ok (.iadd, 1) := by decide +kernel
theorem d_Mod_inCommon_38 : decode b_Mod_inCommon 38 = .ok (.iaload, 1) := by decide +kernel
theorem d_Mod_inCommon_39 : decode b_Mod_inCommon 39 = .ok (.aload_n 0, 1) := by decide +kernel
theorem d_Mod_inCommon_40 : decode b_Mod_inCommon 40 = .ok (.getfield 118, 3) := by decide +kernel
theorem d_Mod_inCommon_43 : decode b_Mod_inCommon 43 = .ok (.aload_n 0, 1) := by decide +kernel
theorem d_Mod_inCommon_44 : decode b_Mod_inCommon 44 = .ok (.getfield 109, 3) := by decide +kernel
theorem d_Mod_inCommon_47 : decode b_Mod_inCommon 47 = .ok (.iload_n 1, 1) := by decide +kernel
theorem d_Mod_inCommon_48 : decode b_Mod_inCommon 48 = .ok (.iconst 1, 1) := by decide +kernel
theorem d_Mod_inCommon_49 : decode b_Mod_inCommon 49 = .ok (.isub, 1) := by decide +kernel
theorem d_Mod_inCommon_50 : decode b_Mod_inCommon 50 = .ok (.iaload, 1) := by decide +kernel
theorem d_Mod_inCommon_51 : decode b_Mod_inCommon 51 = .ok (.iload_n 2, 1) := by decide +kernel
theorem d_Mod_inCommon_52 : decode b_Mod_inCommon 52 = .ok (.iadd, 1) := by decide +kernel
theorem d_Mod_inCommon_53 : decode b_Mod_inCommon 53 = .ok (.iaload, 1) := by decide +kernel
theorem d_Mod_inCommon_54 : decode b_Mod_inCommon 54 = .ok (.if_icmp .ne 9, 3) := by decide +kernel
theorem d_Mod_inCommon_57 : decode b_Mod_inCommon 57 = .ok (.iinc 2 1, 3) := by decide +kernel
theorem d_Mod_inCommon_60 : decode b_Mod_inCommon 60 = .ok (.goto (-58), 3) := by decide +kernel
theorem d_Mod_inCommon_0 : decode b_Mod_inCommon 0 = .ok (.iconst 0, 1) := by decide +kernel
theorem d_Mod_inCommon_1 : decode b_Mod_inCommon 1 = .ok (.istore_n 2, 1) := by decide +kernel
theorem d_Mod_writeFront_101 : decode b_Mod_writeFront 101 = .ok (.iload_n 2, 1) := by decide +kernel
theorem d_Mod_writeFront_102 : decode b_Mod_writeFront 102 = .ok (.aload_n 0, 1) := by decide +kernel
theorem d_Mod_writeFront_103 : decode b_Mod_writeFront 103 = .ok (.getfield 109, 3) := by decide +kernel
theorem d_Mod_writeFront_106 : decode b_Mod_writeFront 106 = .ok (.iload_n 1, 1) := by decide +kernel
theorem d_Mod_writeFront_107 : decode b_Mod_writeFront 107 = .ok (.iconst 1, 1) := by decide +kernel
theorem d_Mod_writeFront_108 : decode b_Mod_writeFront 108 = .ok (.iadd, 1) := by decide +kernel
theorem d_Mod_writeFront_109 : decode b_Mod_writeFront 109 = .ok (.iaload, 1) := by decide +kernel
theorem d_Mod_writeFront_110 : decode b_Mod_writeFront 110 = .ok (.if_icmp .ge 19, 3) := by decide +kernel
theorem d_Mod_writeFront_129 : decode b_Mod_writeFront 129 = .ok (.iinc 1 1, 3) := by decide +kernel
theorem d_Mod_writeFront_132 : decode b_Mod_writeFront 132 = .ok (.goto (-52), 3) := by decide +kernel
theorem d_Mod_writeFront_113 : decode b_Mod_writeFront 113 = .ok (.aload_n 0, 1) := by decide +kernel
theorem d_Mod_writeFront_114 : decode b_Mod_writeFront 114 = .ok (.aload_n 0, 1) := by decide +kernel
theorem d_Mod_writeFront_115 : decode b_Mod_writeFront 115 = .ok (.getfield 118, 3) := by decide +kernel
theorem d_Mod_writeFront_118 : decode b_Mod_writeFront 118 = .ok (.iload_n 2, 1) := by decide +kernel
theorem d_Mod_writeFront_119 : decode b_Mod_writeFront 119 = .ok (.iaload, 1) := by decide +kernel
theorem d_Mod_writeFront_120 : decode b_Mod_writeFront 120 = .ok (.invokevirtual 558, 3) := by decide +kernel
theorem d_Mod_writeFront_123 : decode b_Mod_writeFront 123 = .ok (.iinc 2 1, 3) := by decide +kernel
theorem d_Mod_writeFront_126 : decode b_Mod_writeFront 126 = .ok (.goto (-25), 3) := by decide +kernel
theorem d_Mod_writeFront_80 : decode b_Mod_writeFront 80 = .ok (.iload_n 1, 1) := by decide +kernel
theorem d_Mod_writeFront_81 : decode b_Mod_writeFront 81 = .ok (.aload_n 0, 1) := by decide +kernel
theorem d_Mod_writeFront_82 : decode b_Mod_writeFront 82 = .ok (.getfield 632, 3) := by decide +kernel
theorem d_Mod_writeFront_85 : decode b_Mod_writeFront 85 = .ok (.if_icmp .ge 50, 3) := by decide +kernel
theorem d_Mod_writeFront_135 : decode b_Mod_writeFront 135 = .ok (.return_, 1) := by decide +kernel
theorem d_Mod_writeFront_88 : decode b_Mod_writeFront 88 = .ok (.aload_n 0, 1) := by decide +kernel
theorem d_Mod_writeFront_89 : decode b_Mod_writeFront 89 = .ok (.getfield 109, 3) := by decide +kernel
theorem d_Mod_writeFront_92 : decode b_Mod_writeFront 92 = .ok (.iload_n 1, 1) := by decide +kernel
theorem d_Mod_writeFront_93 : decode b_Mod_writeFront 93 = .ok (.iaload, 1) := by decide +kernel
theorem d_Mod_writeFront_94 : decode b_Mod_writeFront 94 = .ok (.aload_n 0, 1) := by decide +kernel
theorem d_Mod_writeFront_95 : decode b_Mod_writeFront 95 = .ok (.iload_n 1, 1) := by decide +kernel
theorem d_Mod_writeFront_96 : decode b_Mod_writeFront 96 = .ok (.invokevirtual 638, 3) := by decide +kernel
theorem d_Mod_writeFront_99 : decode b_Mod_writeFront 99 = .ok (.iadd, 1) := by decide +kernel
theorem d_Mod_writeFront_100 : decode b_Mod_writeFront 100 = .ok (.istore_n 2, 1) := by decide +kernel
theorem d_Mod_writeFront_42 : decode b_Mod_writeFront 42 = .ok (.iload_n 1, 1) := by decide +kernel
theorem d_Mod_writeFront_43 : decode b_Mod_writeFront 43 = .ok (.aload_n 0, 1) := by decide +kernel
theorem d_Mod_writeFront_44 : decode b_Mod_writeFront 44 = .ok (.getfield 632, 3) := by decide +kernel
theorem d_Mod_writeFront_47 : decode b_Mod_writeFront 47 = .ok (.if_icmp .ge 27, 3) := by decide +kernel
theorem d_Mod_writeFront_74 : decode b_Mod_writeFront 74 = .ok (.aload_n 0, 1) := by decide +kernel
theorem d_Mod_writeFront_75 : decode b_Mod_writeFront 75 = .ok (.invokevirtual 635, 3) := by decide +kernel
theorem d_Mod_writeFront_78 : decode b_Mod_writeFront 78 = .ok (.iconst 0, 1) := by decide +kernel
theorem d_Mod_writeFront_79 : decode b_Mod_writeFront 79 = .ok (.istore_n 1, 1) := by decide +kernel
theorem d_Mod_writeFront_50 : decode b_Mod_writeFront 50 = .ok (.aload_n 0, 1) := by decide +kernel
theorem d_Mod_writeFront_51 : decode b_Mod_writeFront 51 = .ok (.getfield 139, 3) := by decide +kernel
theorem d_Mod_writeFront_54 : decode b_Mod_writeFront 54 = .ok (.iload_n 1, 1) := by decide +kernel
theorem d_Mod_writeFront_55 : decode b_Mod_writeFront 55 = .ok (.aload_n 0, 1) := by decide +kernel
theorem d_Mod_writeFront_56 : decode b_Mod_writeFront 56 = .ok (.iload_n 1, 1) := by decide +kernel
theorem d_Mod_writeFront_57 : decode b_Mod_writeFront 57 = .ok (.invokevirtual 626, 3) := by decide +kernel
theorem d_Mod_writeFront_60 : decode b_Mod_writeFront 60 = .ok (.aload_n 0, 1) := by decide +kernel
theorem d_Mod_writeFront_61 : decode b_Mod_writeFront 61 = .ok (.iload_n 1, 1) := by decide +kernel
theorem d_Mod_writeFront_62 : decode b_Mod_writeFront 62 = .ok (.invokevirtual 638, 3) := by decide +kernel
theorem d_Mod_writeFront_65 : decode b_Mod_writeFront 65 = .ok (.isub, 1) := by decide +kernel
theorem d_Mod_writeFront_66 : decode b_Mod_writeFront 66 = .ok (.i2l, 1) := by decide +kernel
theorem d_Mod_writeFront_67 : decode b_Mod_writeFront 67 = .ok (.lastore, 1) := by decide +kernel
theorem d_Mod_writeFront_68 : decode b_Mod_writeFront 68 = .ok (.iinc 1 1, 3) := by decide +kernel
theorem d_Mod_writeFront_71 : decode b_Mod_writeFront 71 = .ok (.goto (-29), 3) := by decide +kernel
theorem d_Mod_writeFront_10 : decode b_Mod_writeFront 10 = .ok (.iload_n 1, 1) := by decide +kernel
theorem d_Mod_writeFront_11 : decode b_Mod_writeFront 11 = .ok (.aload_n 0, 1) := by decide +kernel
theorem d_Mod_writeFront_12 : decode b_Mod_writeFront 12 = .ok (.getfield 632, 3) := by decide +kernel
theorem d_Mod_writeFront_15 : decode b_Mod_writeFront 15 = .ok (.if_icmp .ge 21, 3) := by decide +kernel
theorem d_Mod_writeFront_36 : decode b_Mod_writeFront 36 = .ok (.aload_n 0, 1) := by decide +kernel
theorem d_Mod_writeFront_37 : decode b_Mod_writeFront 37 = .ok (.invokevirtual 635, 3) := by decide +kernel
theorem d_Mod_writeFront_40 : decode b_Mod_writeFront 40 = .ok (.iconst 0, 1) := by decide +kernel
theorem d_Mod_writeFront_41 : decode b_Mod_writeFront 41 = .ok (.istore_n 1, 1) := by decide +kernel
theorem d_Mod_writeFront_18 : decode b_Mod_writeFront 18 = .ok (.aload_n 0, 1) := by decide +kernel
theorem d_Mod_writeFront_19 : decode b_Mod_writeFront 19 = .ok (.getfield 139, 3) := by decide +kernel
theorem d_Mod_writeFront_22 : decode b_Mod_writeFront 22 = .ok (.iload_n 1, 1) := by decide +kernel
theorem d_Mod_writeFront_23 : decode b_Mod_writeFront 23 = .ok (.aload_n 0, 1) := by decide +kernel
theorem d_Mod_writeFront_24 : decode b_Mod_writeFront 24 = .ok (.iload_n 1, 1) := by decide +kernel
theorem d_Mod_writeFront_25 : decode b_Mod_writeFront 25 = .ok (.invokevirtual 638, 3) := by decide +kernel
theorem d_Mod_writeFront_28 : decode b_Mod_writeFront 28 = .ok (.i2l, 1) := by decide +kernel
theorem d_Mod_writeFront_29 : decode b_Mod_writeFront 29 = .ok (.lastore, 1) := by decide +kernel
theorem d_Mod_writeFront_30 : decode b_Mod_writeFront 30 = .ok (.iinc 1 1, 3) := by decide +kernel
theorem d_Mod_writeFront_33 : decode b_Mod_writeFront 33 = .ok (.goto (-23), 3) := by decide +kernel
theorem d_Mod_writeFront_0 : decode b_Mod_writeFront 0 = .ok (.aload_n 0, 1) := by decide +kernel
theorem d_Mod_writeFront_1 : decode b_Mod_writeFront 1 = .ok (.aload_n 0, 1) := by decide +kernel
theorem d_Mod_writeFront_2 : decode b_Mod_writeFront 2 = .ok (.getfield 632, 3) := by decide +kernel
theorem d_Mod_writeFront_5 : decode b_Mod_writeFront 5 = .ok (.putfield 591, 3) := by decide +kernel
theorem d_Mod_writeFront_8 : decode b_Mod_writeFront 8 = .ok (.iconst 0, 1) := by decide +kernel
theorem d_Mod_writeFront_9 : decode b_Mod_writeFront 9 = .ok (.istore_n 1, 1) := by decide +kernel
theorem d_Mod_sameText_79 : decode b_Mod_sameText 79 = .ok (.iload_n 3, 1) := by decide +kernel
theorem d_Mod_sameText_80 : decode b_Mod_sameText 80 = .ok (.ireturn, 1) := by decide +kernel
theorem d_Mod_sameText_72 : decode b_Mod_sameText 72 = .ok (.istore_n 3, 1) := by decide +kernel
theorem d_Mod_sameText_73 : decode b_Mod_sameText 73 = .ok (.iinc 4 1, 3) := by decide +kernel
theorem d_Mod_sameText_76 : decode b_Mod_sameText 76 = .ok (.goto (-54), 3) := by decide +kernel
theorem d_Mod_sameText_22 : decode b_Mod_sameText 22 = .ok (.iload_n 3, 1) := by decide +kernel
theorem d_Mod_sameText_23 : decode b_Mod_sameText 23 = .ok (.ifCond .eq 56, 3) := by decide +kernel
theorem d_Mod_sameText_26 : decode b_Mod_sameText 26 = .ok (.iload 4, 2) := by decide +kernel
theorem d_Mod_sameText_28 : decode b_Mod_sameText 28 = .ok (.aload_n 0, 1) := by decide +kernel
theorem d_Mod_sameText_29 : decode b_Mod_sameText 29 = .ok (.iload_n 2, 1) := by decide +kernel
theorem d_Mod_sameText_30 : decode b_Mod_sameText 30 = .ok (.invokevirtual 626, 3) := by decide +kernel
theorem d_Mod_sameText_33 : decode b_Mod_sameText 33 = .ok (.if_icmp .ge 46, 3) := by decide +kernel
theorem d_Mod_sameText_36 : decode b_Mod_sameText 36 = .ok (.aload_n 0, 1) := by decide +kernel
theorem d_Mod_sameText_37 : decode b_Mod_sameText 37 = .ok (.getfield 118, 3) := by decide +kernel
theorem d_Mod_sameText_40 : decode b_Mod_sameText 40 = .ok (.aload_n 0, 1) := by decide +kernel
theorem d_Mod_sameText_41 : decode b_Mod_sameText 41 = .ok (.getfield 109, 3) := by decide +kernel
theorem d_Mod_sameText_44 : decode b_Mod_sameText 44 = .ok (.iload_n 1, 1) := by decide +kernel
theorem d_Mod_sameText_45 : decode b_Mod_sameText 45 = .ok (.iaload, 1) := by decide +kernel
theorem d_Mod_sameText_46 : decode b_Mod_sameText 46 = .ok (.iload 4, 2) := by decide +kernel
theorem d_Mod_sameText_48 : decode b_Mod_sameText 48 = .ok (.iadd, 1) := by decide +kernel
theorem d_Mod_sameText_49 : decode b_Mod_sameText 49 = .ok (.iaload, 1) := by decide +kernel
theorem d_Mod_sameText_50 : decode b_Mod_sameText 50 = .ok (.aload_n 0, 1) := by decide +kernel
theorem d_Mod_sameText_51 : decode b_Mod_sameText 51 = .ok (.getfield 118, 3) := by decide +kernel
theorem d_Mod_sameText_54 : decode b_Mod_sameText 54 = .ok (.aload_n 0, 1) := by decide +kernel
theorem d_Mod_sameText_55 : decode b_Mod_sameText 55 = .ok (.getfield 109, 3) := by decide +kernel
theorem d_Mod_sameText_58 : decode b_Mod_sameText 58 = .ok (.iload_n 2, 1) := by decide +kernel
theorem d_Mod_sameText_59 : decode b_Mod_sameText 59 = .ok (.iaload, 1) := by decide +kernel
theorem d_Mod_sameText_60 : decode b_Mod_sameText 60 = .ok (.iload 4, 2) := by decide +kernel
theorem d_Mod_sameText_62 : decode b_Mod_sameText 62 = .ok (.iadd, 1) := by decide +kernel
theorem d_Mod_sameText_63 : decode b_Mod_sameText 63 = .ok (.iaload, 1) := by decide +kernel
theorem d_Mod_sameText_64 : decode b_Mod_sameText 64 = .ok (.if_icmp .ne 7, 3) := by decide +kernel
theorem d_Mod_sameText_71 : decode b_Mod_sameText 71 = .ok (.iconst 0, 1) := by decide +kernel
theorem d_Mod_sameText_67 : decode b_Mod_sameText 67 = .ok (.iconst 1, 1) := by decide +kernel
theorem d_Mod_sameText_68 : decode b_Mod_sameText 68 = .ok (.goto 4, 3) := by decide +kernel
theorem d_Mod_sameText_18 : decode b_Mod_sameText 18 = .ok (.istore_n 3, 1) := by decide +kernel
theorem d_Mod_sameText_19 : decode b_Mod_sameText 19 = .ok (.iconst 0, 1) := by decide +kernel
theorem d_Mod_sameText_20 : decode b_Mod_sameText 20 = .ok (.istore 4, 2) := by decide +kernel
theorem d_Mod_sameText_0 : decode b_Mod_sameText 0 = .ok (.aload_n 0, 1) := by decide +kernel
theorem d_Mod_sameText_1 : decode b_Mod_sameText 1 = .ok (.iload_n 1, 1) := by decide +kernel
theorem d_Mod_sameText_2 : decode b_Mod_sameText 2 = .ok (.invokevirtual 626, 3) := by decide +kernel
theorem d_Mod_sameText_5 : decode b_Mod_sameText 5 = .ok (.aload_n 0, 1) := by decide +kernel
theorem d_Mod_sameText_6 : decode b_Mod_sameText 6 = .ok (.iload_n 2, 1) := by decide +kernel
theorem d_Mod_sameText_7 : decode b_Mod_sameText 7 = .ok (.invokevirtual 626, 3) := by decide +kernel
theorem d_Mod_sameText_10 : decode b_Mod_sameText 10 = .ok (.if_icmp .ne 7, 3) := by decide +kernel
theorem d_Mod_sameText_17 : decode b_Mod_sameText 17 = .ok (.iconst 0, 1) := by decide +kernel
theorem d_Mod_sameText_13 : decode b_Mod_sameText 13 = .ok (.iconst 1, 1) := by decide +kernel
theorem d_Mod_sameText_14 : decode b_Mod_sameText 14 = .ok (.goto 4, 3) := by decide +kernel
section
variable (l : Launch) (dC : Nat → ClassId) (dI : Nat → Nat → Nat) (cI cB cJ cZ : ClassId)
set_option maxRecDepth 100000 in
set_option maxHeartbeats 4000000 in
set_option maxRecDepth 100000 in
theorem t_Mod_lengthOf_e {p : Program} {l : Launch} {e : Env} {R : Room} {s : State} {m : MethodId} {args : Array Value} {below : List Frame} {meth : Method} {c : Code} {cells slots : Nat} {Q : State → Prop} {dC : Nat → ClassId} {dI : Nat → Nat → Nat} {cI cB cJ cZ : ClassId} {A : Nat → Prop} {ad : Nat → Nat} {post : Int32 → St → Prop} (hx : p.tables.exec = Jvm.exec) (hb : c.code = b_Mod_lengthOf) (hml : c.maxLocals = 2) (hown : s.vm.findClass R_Mod = some m.cls) (hT : ∀ w ∈ TG, w.before args s = true) (hK : va_K (dC, dI) CL (TY cI cB cJ cZ) s) (hN : NW s) (hA : ∀ q : Nat, s.heap.size ≤ q → A q) (hRc : cells ≤ R.cells) (hRs : slots ≤ R.slots) (hRf : 0 ≤ R.frames) (hRl : 0 ≤ R.locals) (hret : ∀ (r : Int32) (x : St) (H : Heap) (locs : List Loc) (pc : Nat) (ls : Array Slot), decode b_Mod_lengthOf pc = .ok (.ireturn, 1) → post r x → Wd dC dI cI cB cJ cZ ad stM kcM 115 A x H → va_S A s.heap H locs → W p l e R s m args below meth c H locs cells slots Q (F0 m pc ls [.int r])) : ∀ (l1 : Int32) (x : St) (H : Heap) (locs : List Loc) (ls : Array Slot), wp_Mod_lengthOf post l1 x → Wd dC dI cI cB cJ cZ ad stM kcM 115 A x H → va_S A s.heap H locs → lv_has ls 2 [(0, .ref (ad 0)), (1, .int l1)] → W p l e R s m args below meth c H locs cells slots Q (F0 m 0 ls []) := by
  intro l1 x H locs ls  hw hW hS hl
  unfold wp_Mod_lengthOf at hw
  refine lv_aload_n hx hb d_Mod_lengthOf_0 rfl (lv_at hl 0 rfl) ?_
  refine w_getf (q := 33) (k := 52) (t := 12) (C := R_Mod) (T := F_Mod) (N := 167) hx hb hT hown hK hW ko_0.1 ko_0.2 (by decide) in_Mod rfl rfl (by decide) rfl fr_Mod_52 w_8_228 d_Mod_lengthOf_1 rfl ?_
  refine lv_iload_n hx hb d_Mod_lengthOf_4 rfl (lv_at hl 1 rfl) ?_
  refine lv_iconst (v := 1) hx hb d_Mod_lengthOf_5 (by decide) ?_
  refine lv_iadd hx hb d_Mod_lengthOf_6 ?_
  obtain ⟨hi, hw⟩ := hw
  refine w_iald (o := 33) hx hb hK hW ko_33.1 ko_33.2 hi d_Mod_lengthOf_7 ?_
  refine lv_aload_n hx hb d_Mod_lengthOf_8 rfl (lv_at hl 0 rfl) ?_
  refine w_getf (q := 33) (k := 52) (t := 12) (C := R_Mod) (T := F_Mod) (N := 167) hx hb hT hown hK hW ko_0.1 ko_0.2 (by decide) in_Mod rfl rfl (by decide) rfl fr_Mod_52 w_8_228 d_Mod_lengthOf_9 rfl ?_
  refine lv_iload_n hx hb d_Mod_lengthOf_12 rfl (lv_at hl 1 rfl) ?_
  obtain ⟨hi, hw⟩ := hw
  refine w_iald (o := 33) hx hb hK hW ko_33.1 ko_33.2 hi d_Mod_lengthOf_13 ?_
  refine lv_isub hx hb d_Mod_lengthOf_14 ?_
  exact hret ((rA x 33 (l1 + 1)) - (rA x 33 l1)) x H locs 15 ls d_Mod_lengthOf_15 hw hW hS
set_option maxHeartbeats 4000000 in
set_option maxRecDepth 100000 in
theorem k_Mod_lengthOf (l : Launch) (dC : Nat → ClassId) (dI : Nat → Nat → Nat) (cI cB cJ cZ : ClassId) (ad : Nat → Nat) (sz : Nat) (l1 : Int32) (x : St) {post : Int32 → St → Prop} (hw : wp_Mod_lengthOf post l1 x) : Met l y_Mod_lengthOf (wsOf y_Mod_lengthOf b_Mod_lengthOf 2 (some (.int))) ({ frames := 0, cells := 0, slots := 0, locals := 0 }) (va_Pc [.ref (ad 0), .int l1] (PW dC dI cI cB cJ cZ ad stM kcM 115 sz x)) (va_Qi (fun (r : Int32) (y : St) => post r y) (fun y t => Wd dC dI cI cB cJ cZ ad stM kcM 115 (va_A (pic ad stM kcM 115 cI cB cJ cZ x) sz) y t.heap) (va_A (pic ad stM kcM 115 cI cB cJ cZ x) sz)) 0 0 (va_A (pic ad stM kcM 115 cI cB cJ cZ x) sz) := by
  refine Met.ofW (cc := b_Mod_lengthOf) (maxL := 2) (ret := some (.int)) (by decide) rfl ?_
  intro p e s m args below meth c s₁ B hml hv
  obtain ⟨rfl, hsz, hW0, hK, hN⟩ := hv
  have hx := B.exec
  have hb := B.bytes
  have hr := B.returns
  have hts := atoms_spec B.pre
  have hT : ∀ w ∈ TG, w.before _ s = true := fun w h => hts w (List.mem_cons_of_mem _ h)
  have hown : s.vm.findClass R_Mod = some m.cls := findClass_of_methodNamed B.named
  have hlocks := B.notSynchronized
  subst hsz
  have hW : Wd dC dI cI cB cJ cZ ad stM kcM 115 (va_A (pic ad stM kcM 115 cI cB cJ cZ x) s.heap.size) x s.heap := ⟨hW0.1, hW0.2.1.self (sz := s.heap.size), hW0.2.2⟩
  generalize hAe : va_A (pic ad stM kcM 115 cI cB cJ cZ x) s.heap.size = A at hW ⊢
  have hA : ∀ q : Nat, s.heap.size ≤ q → A q := fun q h => by rw [← hAe]; exact Or.inr h
  have hS : va_S A s.heap s.heap [] := va_S.rf
  have hl := lv_entry ([.ref (ad 0), .int l1]) (n := 2) (Nat.le_of_ble_eq_true rfl)
  rw [lg_entry_eq]
  generalize (lg_sl ([.ref (ad 0), .int l1]) ++ List.replicate (2 - (lg_sl ([.ref (ad 0), .int l1])).length) Slot.unset).toArray = ls at hl ⊢
  have hl : lv_has ls 2 [(0, .ref (ad 0)), (1, .int l1)] := hl
  exact t_Mod_lengthOf_e hx hb hml hown hT hK hN hA (Nat.le_refl 0) (Nat.le_refl 0) (Nat.le_refl 0) (Nat.le_refl 0) (fun r x H locs pc ls hd hp hW hS => W.iret (v := r) hx hb hr (fun t ht hM => ⟨⟨r, x, rfl, hp, Wd.back hW ht.symm (fun _ z => z)⟩, hS.F ht⟩) hS.2.2 hd hlocks)  l1 x _ _ ls  hw hW hS hl
set_option maxRecDepth 100000 in
set_option maxHeartbeats 4000000 in
set_option maxRecDepth 100000 in
theorem t_Mod_writeCode_e {p : Program} {l : Launch} {e : Env} {R : Room} {s : State} {m : MethodId} {args : Array Value} {below : List Frame} {meth : Method} {c : Code} {cells slots : Nat} {Q : State → Prop} {dC : Nat → ClassId} {dI : Nat → Nat → Nat} {cI cB cJ cZ : ClassId} {A : Nat → Prop} {ad : Nat → Nat} {post : St → Prop} (hx : p.tables.exec = Jvm.exec) (hb : c.code = b_Mod_writeCode) (hml : c.maxLocals = 3) (hown : s.vm.findClass R_Mod = some m.cls) (hT : ∀ w ∈ TG, w.before args s = true) (hK : va_K (dC, dI) CL (TY cI cB cJ cZ) s) (hN : NW s) (hA : ∀ q : Nat, s.heap.size ≤ q → A q) (hRc : cells ≤ R.cells) (hRs : slots ≤ R.slots) (hRf : 3 ≤ R.frames) (hRl : 75 ≤ R.locals) (hret : ∀ (x : St) (H : Heap) (locs : List Loc) (pc : Nat) (ls : Array Slot), decode b_Mod_writeCode pc = .ok (.return_, 1) → post x → Wd dC dI cI cB cJ cZ ad stM kcM 115 A x H → va_S A s.heap H locs → W p l e R s m args below meth c H locs cells slots Q (F0 m pc ls [])) : ∀  (x : St) (H : Heap) (locs : List Loc) (ls : Array Slot), wp_Mod_writeCode post  x → Wd dC dI cI cB cJ cZ ad stM kcM 115 A x H → va_S A s.heap H locs → lv_has ls 3 [(0, .ref (ad 0))] → W p l e R s m args below meth c H locs cells slots Q (F0 m 0 ls []) := by
  intro  x H locs ls  hw hW hS hl
  unfold wp_Mod_writeCode at hw
  refine lv_aload_n hx hb d_Mod_writeCode_0 rfl (lv_at hl 0 rfl) ?_
  refine w_geti (k := 64) (t := 12) (C := R_Mod) (T := F_Mod) (N := 167) hx hb hT hown hK hW ko_0.1 ko_0.2 (by decide) in_Mod rfl rfl (by decide) rfl fr_Mod_64 w_9_0 d_Mod_writeCode_1 ?_
  refine lv_topi (fun v611 ev611 => ?_)
  have hw := hw v611 ev611
  refine lv_istore_n (lv' := [(1, .int v611), (0, .ref (ad 0))]) hx hb d_Mod_writeCode_4 rfl hl (by decide) rfl (fun ls hl => ?_)
  refine lv_aload_n hx hb d_Mod_writeCode_5 rfl (lv_at hl 1 rfl) ?_
  have hF := hW.free hS hA
  refine va_callv (va_runV (C := R_Mod) (As := []) (rest := []) ⟨hx, hb, hml, hown, hT⟩ (k_Mod_writeLongs l dC dI cI cB cJ cZ ad H.size  x  hw) ⟨callB_of 0 hT (gwt_in w_11_215) rfl rfl rfl (hT _ w_1_15) (hT _ w_11_212) (by decide +kernel) ⟨Nat.le_trans (Nat.le_of_ble_eq_true rfl) hRf, Nat.le_trans (Nat.le_of_ble_eq_true rfl) hRl⟩, hT _ w_11_214, hT _ ws_157⟩ ⟨PW.blind, va_recv hK hW.1 (ci := 12) (q0 := 0) rfl (pic_obj ko_0.1 ko_0.2 (by decide)), PW.at _ hW hK hN⟩ rfl rfl hl.1 rfl (lv_room (Nat.le_of_ble_eq_true rfl)) d_Mod_writeCode_6 ⟨hRc, hRs⟩) hS (fun q _ h => hF q h) hF (fun  x612 t H locs ht hvm hw hB hz1 hk1 hS => ?_)
  have hW := Wd.back hB ht hF
  clear hB ht hF hz1 hk1 hvm
  refine lv_aload_n hx hb d_Mod_writeCode_9 rfl (lv_at hl 1 rfl) ?_
  refine w_geti (k := 64) (t := 12) (C := R_Mod) (T := F_Mod) (N := 167) hx hb hT hown hK hW ko_0.1 ko_0.2 (by decide) in_Mod rfl rfl (by decide) rfl fr_Mod_64 w_9_0 d_Mod_writeCode_10 ?_
  refine lv_iload_n hx hb d_Mod_writeCode_13 rfl (lv_at hl 0 rfl) ?_
  refine lv_isub hx hb d_Mod_writeCode_14 ?_
  refine lv_topi (fun v613 ev613 => ?_)
  have hw := hw v613 ev613
  refine lv_istore_n (lv' := [(2, .int v613), (1, .int v611), (0, .ref (ad 0))]) hx hb d_Mod_writeCode_15 rfl hl (by decide) rfl (fun ls hl => ?_)
  refine lv_aload_n hx hb d_Mod_writeCode_16 rfl (lv_at hl 2 rfl) ?_
  refine lv_iload_n hx hb d_Mod_writeCode_17 rfl (lv_at hl 1 rfl) ?_
  refine w_puti (ty := .int) (k := 64) (t := 12) (C := R_Mod) (T := F_Mod) (N := 167) hx hb hT hown hK hW hS ko_0.1 ko_0.2 (by decide) in_Mod t_Mod t_Mod_ok n_Mod rfl rfl (by decide) rfl fr_Mod_64 w_9_0 (by decide +kernel) rfl rfl d_Mod_writeCode_18 (fun H locs hW hS => ?_)
  obtain ⟨x614, ex614⟩ : ∃ y : St, y = setI x612 0 64 v611 := ⟨_, rfl⟩
  rw [← ex614] at hW
  have hw := hw x614 ex614
  refine lv_aload_n hx hb d_Mod_writeCode_21 rfl (lv_at hl 2 rfl) ?_
  refine lv_iload_n hx hb d_Mod_writeCode_22 rfl (lv_at hl 0 rfl) ?_
  refine lv_i2l hx hb d_Mod_writeCode_23 rfl ?_
  have hF := hW.free hS hA
  refine va_callv (va_runV (C := R_Mod) (As := [.long (v613 : Int32).toInt64]) (rest := []) ⟨hx, hb, hml, hown, hT⟩ (k_Mod_putVarint l dC dI cI cB cJ cZ ad H.size (v613 : Int32).toInt64 x614  hw) ⟨callB_of 1 hT (gwt_in w_11_194) rfl rfl rfl (hT _ w_1_15) (hT _ w_11_191) (by decide +kernel) ⟨Nat.le_trans (Nat.le_of_ble_eq_true rfl) hRf, Nat.le_trans (Nat.le_of_ble_eq_true rfl) hRl⟩, hT _ w_11_193, hT _ ws_152⟩ ⟨PW.blind, va_recv hK hW.1 (ci := 12) (q0 := 0) rfl (pic_obj ko_0.1 ko_0.2 (by decide)), PW.at _ hW hK hN⟩ rfl rfl hl.1 rfl (lv_room (Nat.le_of_ble_eq_true rfl)) d_Mod_writeCode_24 ⟨hRc, hRs⟩) hS (fun q _ h => hF q h) hF (fun  x615 t H locs ht hvm hw hB hz1 hk1 hS => ?_)
  have hW := Wd.back hB ht hF
  clear hB ht hF hz1 hk1 hvm
  refine lv_aload_n hx hb d_Mod_writeCode_27 rfl (lv_at hl 2 rfl) ?_
  have hF := hW.free hS hA
  refine va_callv (va_runV (C := R_Mod) (As := []) (rest := []) ⟨hx, hb, hml, hown, hT⟩ (k_Mod_writeLongs l dC dI cI cB cJ cZ ad H.size  x615  hw) ⟨callB_of 0 hT (gwt_in w_11_215) rfl rfl rfl (hT _ w_1_15) (hT _ w_11_212) (by decide +kernel) ⟨Nat.le_trans (Nat.le_of_ble_eq_true rfl) hRf, Nat.le_trans (Nat.le_of_ble_eq_true rfl) hRl⟩, hT _ w_11_214, hT _ ws_157⟩ ⟨PW.blind, va_recv hK hW.1 (ci := 12) (q0 := 0) rfl (pic_obj ko_0.1 ko_0.2 (by decide)), PW.at _ hW hK hN⟩ rfl rfl hl.1 rfl (lv_room (Nat.le_of_ble_eq_true rfl)) d_Mod_writeCode_28 ⟨hRc, hRs⟩) hS (fun q _ h => hF q h) hF (fun  x616 t H locs ht hvm hw hB hz1 hk1 hS => ?_)
  have hW := Wd.back hB ht hF
  clear hB ht hF hz1 hk1 hvm
  exact hret x616 H locs 31 ls d_Mod_writeCode_31 hw hW hS
set_option maxHeartbeats 4000000 in
set_option maxRecDepth 100000 in
theorem k_Mod_writeCode (l : Launch) (dC : Nat → ClassId) (dI : Nat → Nat → Nat) (cI cB cJ cZ : ClassId) (ad : Nat → Nat) (sz : Nat)  (x : St) {post : St → Prop} (hw : wp_Mod_writeCode post  x) : Met l y_Mod_writeCode (wsOf y_Mod_writeCode b_Mod_writeCode 3 (none)) ({ frames := 3, cells := 0, slots := 0, locals := 75 }) (va_Pc [.ref (ad 0)] (PW dC dI cI cB cJ cZ ad stM kcM 115 sz x)) (va_Qv (fun (y : St) => post y) (fun y t => Wd dC dI cI cB cJ cZ ad stM kcM 115 (va_A (pic ad stM kcM 115 cI cB cJ cZ x) sz) y t.heap) (va_A (pic ad stM kcM 115 cI cB cJ cZ x) sz)) 0 0 (va_A (pic ad stM kcM 115 cI cB cJ cZ x) sz) := by
  refine Met.ofW (cc := b_Mod_writeCode) (maxL := 3) (ret := none) (by decide) rfl ?_
  intro p e s m args below meth c s₁ B hml hv
  obtain ⟨rfl, hsz, hW0, hK, hN⟩ := hv
  have hx := B.exec
  have hb := B.bytes
  have hr := B.returns
  have hts := atoms_spec B.pre
  have hT : ∀ w ∈ TG, w.before _ s = true := fun w h => hts w (List.mem_cons_of_mem _ h)
  have hown : s.vm.findClass R_Mod = some m.cls := findClass_of_methodNamed B.named
  have hlocks := B.notSynchronized
  subst hsz
  have hW : Wd dC dI cI cB cJ cZ ad stM kcM 115 (va_A (pic ad stM kcM 115 cI cB cJ cZ x) s.heap.size) x s.heap := ⟨hW0.1, hW0.2.1.self (sz := s.heap.size), hW0.2.2⟩
  generalize hAe : va_A (pic ad stM kcM 115 cI cB cJ cZ x) s.heap.size = A at hW ⊢
  have hA : ∀ q : Nat, s.heap.size ≤ q → A q := fun q h => by rw [← hAe]; exact Or.inr h
  have hS : va_S A s.heap s.heap [] := va_S.rf
  have hl := lv_entry ([.ref (ad 0)]) (n := 3) (Nat.le_of_ble_eq_true rfl)
  rw [lg_entry_eq]
  generalize (lg_sl ([.ref (ad 0)]) ++ List.replicate (3 - (lg_sl ([.ref (ad 0)])).length) Slot.unset).toArray = ls at hl ⊢
  have hl : lv_has ls 3 [(0, .ref (ad 0))] := hl
  exact t_Mod_writeCode_e hx hb hml hown hT hK hN hA (Nat.le_refl 0) (Nat.le_refl 0) (Nat.le_refl 3) (Nat.le_refl 75) (fun x H locs pc ls hd hp hW hS => W.vret hx hb hr (fun t ht hM => ⟨⟨x, rfl, hp, Wd.back hW ht.symm (fun _ z => z)⟩, hS.F ht⟩) hS.2.2 hd hlocks)   x _ _ ls  hw hW hS hl
set_option maxRecDepth 100000 in
set_option maxHeartbeats 4000000 in
set_option maxRecDepth 100000 in
theorem t_Mod_writeLengths_42 {p : Program} {l : Launch} {e : Env} {R : Room} {s : State} {m : MethodId} {args : Array Value} {below : List Frame} {meth : Method} {c : Code} {cells slots : Nat} {Q : State → Prop} {dC : Nat → ClassId} {dI : Nat → Nat → Nat} {cI cB cJ cZ : ClassId} {A : Nat → Prop} {ad : Nat → Nat} {post : St → Prop} {rec42 : Int32 → St → Prop} (hx : p.tables.exec = Jvm.exec) (hb : c.code = b_Mod_writeLengths) (hml : c.maxLocals = 2) (hown : s.vm.findClass R_Mod = some m.cls) (hT : ∀ w ∈ TG, w.before args s = true) (hK : va_K (dC, dI) CL (TY cI cB cJ cZ) s) (hN : NW s) (hA : ∀ q : Nat, s.heap.size ≤ q → A q) (hRc : cells ≤ R.cells) (hRs : slots ≤ R.slots) (hRf : 4 ≤ R.frames) (hRl : 97 ≤ R.locals) (hret : ∀ (x : St) (H : Heap) (locs : List Loc) (pc : Nat) (ls : Array Slot), decode b_Mod_writeLengths pc = .ok (.return_, 1) → post x → Wd dC dI cI cB cJ cZ ad stM kcM 115 A x H → va_S A s.heap H locs → W p l e R s m args below meth c H locs cells slots Q (F0 m pc ls [])) (hrec42 : ∀ (l1 : Int32) (x : St) (H : Heap) (locs : List Loc) (ls : Array Slot), rec42 l1 x → Wd dC dI cI cB cJ cZ ad stM kcM 115 A x H → va_S A s.heap H locs → lv_has ls 2 [(0, .ref (ad 0)), (1, .int l1)] → W p l e R s m args below meth c H locs cells slots Q (F0 m 42 ls [])) : ∀ (l1 : Int32) (x : St) (H : Heap) (locs : List Loc) (ls : Array Slot), j_Mod_writeLengths_42 post rec42 l1 x → Wd dC dI cI cB cJ cZ ad stM kcM 115 A x H → va_S A s.heap H locs → lv_has ls 2 [(0, .ref (ad 0)), (1, .int l1)] → W p l e R s m args below meth c H locs cells slots Q (F0 m 42 ls []) := by
  intro l1 x H locs ls  hw hW hS hl
  unfold j_Mod_writeLengths_42 at hw
  refine lv_iload_n hx hb d_Mod_writeLengths_42 rfl (lv_at hl 1 rfl) ?_
  refine lv_aload_n hx hb d_Mod_writeLengths_43 rfl (lv_at hl 0 rfl) ?_
  refine w_getf (q := 33) (k := 52) (t := 12) (C := R_Mod) (T := F_Mod) (N := 167) hx hb hT hown hK hW ko_0.1 ko_0.2 (by decide) in_Mod rfl rfl (by decide) rfl fr_Mod_52 w_8_228 d_Mod_writeLengths_44 rfl ?_
  refine lv_aload_n hx hb d_Mod_writeLengths_47 rfl (lv_at hl 0 rfl) ?_
  refine w_geti (k := 42) (t := 12) (C := R_Mod) (T := F_Mod) (N := 167) hx hb hT hown hK hW ko_0.1 ko_0.2 (by decide) in_Mod rfl rfl (by decide) rfl fr_Mod_42 w_8_218 d_Mod_writeLengths_48 ?_
  obtain ⟨hi, hw⟩ := hw
  refine w_iald (o := 33) hx hb hK hW ko_33.1 ko_33.2 hi d_Mod_writeLengths_51 ?_
  refine lv_icmp_ge (tgt := 71) hx hb d_Mod_writeLengths_52 (by decide) (fun c617 => ?_) (fun c617 => ?_)
  · have hw := hw.1 c617
    exact hret x H locs 71 ls d_Mod_writeLengths_71 hw hW hS
  · have hw := hw.2 c617
    refine lv_aload_n hx hb d_Mod_writeLengths_55 rfl (lv_at hl 0 rfl) ?_
    refine lv_aload_n hx hb d_Mod_writeLengths_56 rfl (lv_at hl 0 rfl) ?_
    refine w_getf (q := 36) (k := 55) (t := 12) (C := R_Mod) (T := F_Mod) (N := 167) hx hb hT hown hK hW ko_0.1 ko_0.2 (by decide) in_Mod rfl rfl (by decide) rfl fr_Mod_55 w_8_231 d_Mod_writeLengths_57 rfl ?_
    refine lv_iload_n hx hb d_Mod_writeLengths_60 rfl (lv_at hl 1 rfl) ?_
    obtain ⟨hi, hw⟩ := hw
    refine w_iald (o := 36) hx hb hK hW ko_36.1 ko_36.2 hi d_Mod_writeLengths_61 ?_
    have hF := hW.free hS hA
    refine va_callv (va_runV (C := R_Mod) (As := [.int (rA x 36 l1)]) (rest := []) ⟨hx, hb, hml, hown, hT⟩ (k_Mod_put l dC dI cI cB cJ cZ ad H.size (rA x 36 l1) x  hw) ⟨callB_of 1 hT (gwt_in w_11_199) rfl rfl rfl (hT _ w_1_15) (hT _ w_11_196) (by decide +kernel) ⟨Nat.le_trans (Nat.le_of_ble_eq_true rfl) hRf, Nat.le_trans (Nat.le_of_ble_eq_true rfl) hRl⟩, hT _ w_11_198, hT _ ws_153⟩ ⟨PW.blind, va_recv hK hW.1 (ci := 12) (q0 := 0) rfl (pic_obj ko_0.1 ko_0.2 (by decide)), PW.at _ hW hK hN⟩ rfl rfl hl.1 rfl (lv_room (Nat.le_of_ble_eq_true rfl)) d_Mod_writeLengths_62 ⟨hRc, hRs⟩) hS (fun q _ h => hF q h) hF (fun  x618 t H locs ht hvm hw hB hz1 hk1 hS => ?_)
    have hW := Wd.back hB ht hF
    clear hB ht hF hz1 hk1 hvm
    refine lv_iinc (v := (l1 + 1)) (lv' := [(1, .int (l1 + 1)), (0, .ref (ad 0))]) hx hb d_Mod_writeLengths_65 hl (k := 1) rfl rfl (by decide) rfl (fun ls hl => ?_)
    refine lv_goto (tgt := 42) hx hb d_Mod_writeLengths_68 (by decide) ?_
    exact hrec42 (l1 + 1) x618 H locs ls  hw hW hS (lv_sub hl [1, 0] rfl)
set_option maxHeartbeats 4000000 in
set_option maxRecDepth 100000 in
theorem tl_Mod_writeLengths_42 {p : Program} {l : Launch} {e : Env} {R : Room} {s : State} {m : MethodId} {args : Array Value} {below : List Frame} {meth : Method} {c : Code} {cells slots : Nat} {Q : State → Prop} {dC : Nat → ClassId} {dI : Nat → Nat → Nat} {cI cB cJ cZ : ClassId} {A : Nat → Prop} {ad : Nat → Nat} {post : St → Prop} (hx : p.tables.exec = Jvm.exec) (hb : c.code = b_Mod_writeLengths) (hml : c.maxLocals = 2) (hown : s.vm.findClass R_Mod = some m.cls) (hT : ∀ w ∈ TG, w.before args s = true) (hK : va_K (dC, dI) CL (TY cI cB cJ cZ) s) (hN : NW s) (hA : ∀ q : Nat, s.heap.size ≤ q → A q) (hRc : cells ≤ R.cells) (hRs : slots ≤ R.slots) (hRf : 4 ≤ R.frames) (hRl : 97 ≤ R.locals) (hret : ∀ (x : St) (H : Heap) (locs : List Loc) (pc : Nat) (ls : Array Slot), decode b_Mod_writeLengths pc = .ok (.return_, 1) → post x → Wd dC dI cI cB cJ cZ ad stM kcM 115 A x H → va_S A s.heap H locs → W p l e R s m args below meth c H locs cells slots Q (F0 m pc ls []))  : ∀ n : Nat, ∀ (l1 : Int32) (x : St) (H : Heap) (locs : List Loc) (ls : Array Slot), wl_Mod_writeLengths_42 post n l1 x → Wd dC dI cI cB cJ cZ ad stM kcM 115 A x H → va_S A s.heap H locs → lv_has ls 2 [(0, .ref (ad 0)), (1, .int l1)] → W p l e R s m args below meth c H locs cells slots Q (F0 m 42 ls []) := by
  intro n
  induction n with
  | zero => intro l1 x H locs ls  hw; exact hw.elim
  | succ n ih => intro l1 x H locs ls  hw hW hS hl; exact t_Mod_writeLengths_42 hx hb hml hown hT hK hN hA hRc hRs hRf hRl hret  ih l1 x H locs ls  hw hW hS hl
set_option maxRecDepth 100000 in
set_option maxHeartbeats 4000000 in
set_option maxRecDepth 100000 in
theorem t_Mod_writeLengths_10 {p : Program} {l : Launch} {e : Env} {R : Room} {s : State} {m : MethodId} {args : Array Value} {below : List Frame} {meth : Method} {c : Code} {cells slots : Nat} {Q : State → Prop} {dC : Nat → ClassId} {dI : Nat → Nat → Nat} {cI cB cJ cZ : ClassId} {A : Nat → Prop} {ad : Nat → Nat} {post : St → Prop} {rec10 : Int32 → St → Prop} (hx : p.tables.exec = Jvm.exec) (hb : c.code = b_Mod_writeLengths) (hml : c.maxLocals = 2) (hown : s.vm.findClass R_Mod = some m.cls) (hT : ∀ w ∈ TG, w.before args s = true) (hK : va_K (dC, dI) CL (TY cI cB cJ cZ) s) (hN : NW s) (hA : ∀ q : Nat, s.heap.size ≤ q → A q) (hRc : cells ≤ R.cells) (hRs : slots ≤ R.slots) (hRf : 4 ≤ R.frames) (hRl : 97 ≤ R.locals) (hret : ∀ (x : St) (H : Heap) (locs : List Loc) (pc : Nat) (ls : Array Slot), decode b_Mod_writeLengths pc = .ok (.return_, 1) → post x → Wd dC dI cI cB cJ cZ ad stM kcM 115 A x H → va_S A s.heap H locs → W p l e R s m args below meth c H locs cells slots Q (F0 m pc ls [])) (hrec10 : ∀ (l1 : Int32) (x : St) (H : Heap) (locs : List Loc) (ls : Array Slot), rec10 l1 x → Wd dC dI cI cB cJ cZ ad stM kcM 115 A x H → va_S A s.heap H locs → lv_has ls 2 [(0, .ref (ad 0)), (1, .int l1)] → W p l e R s m args below meth c H locs cells slots Q (F0 m 10 ls [])) : ∀ (l1 : Int32) (x : St) (H : Heap) (locs : List Loc) (ls : Array Slot), j_Mod_writeLengths_10 post rec10 l1 x → Wd dC dI cI cB cJ cZ ad stM kcM 115 A x H → va_S A s.heap H locs → lv_has ls 2 [(0, .ref (ad 0)), (1, .int l1)] → W p l e R s m args below meth c H locs cells slots Q (F0 m 10 ls []) := by
  intro l1 x H locs ls  hw hW hS hl
  unfold j_Mod_writeLengths_10 at hw
  refine lv_iload_n hx hb d_Mod_writeLengths_10 rfl (lv_at hl 1 rfl) ?_
  refine lv_aload_n hx hb d_Mod_writeLengths_11 rfl (lv_at hl 0 rfl) ?_
  refine w_geti (k := 42) (t := 12) (C := R_Mod) (T := F_Mod) (N := 167) hx hb hT hown hK hW ko_0.1 ko_0.2 (by decide) in_Mod rfl rfl (by decide) rfl fr_Mod_42 w_8_218 d_Mod_writeLengths_12 ?_
  refine lv_icmp_ge (tgt := 36) hx hb d_Mod_writeLengths_15 (by decide) (fun c619 => ?_) (fun c619 => ?_)
  · have hw := hw.1 c619
    refine lv_aload_n hx hb d_Mod_writeLengths_36 rfl (lv_at hl 0 rfl) ?_
    have hF := hW.free hS hA
    refine va_callv (va_runV (C := R_Mod) (As := []) (rest := []) ⟨hx, hb, hml, hown, hT⟩ (k_Mod_writeCode l dC dI cI cB cJ cZ ad H.size  x  hw) ⟨callB_of 0 hT (gwt_in w_12_7) rfl rfl rfl (hT _ w_1_15) (hT _ w_12_4) (by decide +kernel) ⟨Nat.le_trans (Nat.le_of_ble_eq_true rfl) hRf, Nat.le_trans (Nat.le_of_ble_eq_true rfl) hRl⟩, hT _ w_12_6, hT _ ws_164⟩ ⟨PW.blind, va_recv hK hW.1 (ci := 12) (q0 := 0) rfl (pic_obj ko_0.1 ko_0.2 (by decide)), PW.at _ hW hK hN⟩ rfl rfl hl.1 rfl (lv_room (Nat.le_of_ble_eq_true rfl)) d_Mod_writeLengths_37 ⟨hRc, hRs⟩) hS (fun q _ h => hF q h) hF (fun  x620 t H locs ht hvm hw hB hz1 hk1 hS => ?_)
    have hW := Wd.back hB ht hF
    clear hB ht hF hz1 hk1 hvm
    refine lv_iconst (v := 0) hx hb d_Mod_writeLengths_40 (by decide) ?_
    refine lv_istore_n (lv' := [(1, .int 0), (0, .ref (ad 0))]) hx hb d_Mod_writeLengths_41 rfl hl (by decide) rfl (fun ls hl => ?_)
    obtain ⟨n, hw⟩ := hw
    exact tl_Mod_writeLengths_42 hx hb hml hown hT hK hN hA hRc hRs hRf hRl hret  n 0 x620 H locs ls  hw hW hS (lv_sub hl [1, 0] rfl)
  · have hw := hw.2 c619
    refine lv_aload_n hx hb d_Mod_writeLengths_18 rfl (lv_at hl 0 rfl) ?_
    refine w_getf (q := 43) (k := 70) (t := 12) (C := R_Mod) (T := F_Mod) (N := 167) hx hb hT hown hK hW ko_0.1 ko_0.2 (by decide) in_Mod rfl rfl (by decide) rfl fr_Mod_70 w_9_6 d_Mod_writeLengths_19 rfl ?_
    refine lv_iload_n hx hb d_Mod_writeLengths_22 rfl (lv_at hl 1 rfl) ?_
    refine lv_aload_n hx hb d_Mod_writeLengths_23 rfl (lv_at hl 0 rfl) ?_
    refine lv_iload_n hx hb d_Mod_writeLengths_24 rfl (lv_at hl 1 rfl) ?_
    have hF := hW.free hS hA
    refine va_calli (va_runV (C := R_Mod) (As := [.int l1]) (rest := [.int l1, .ref (ad 43)]) ⟨hx, hb, hml, hown, hT⟩ (k_Mod_lengthOf l dC dI cI cB cJ cZ ad H.size l1 x  hw) ⟨callB_of 1 hT (gwt_in w_12_3) rfl rfl rfl (hT _ w_1_15) (hT _ w_12_0) (by decide +kernel) ⟨Nat.le_trans (Nat.le_of_ble_eq_true rfl) hRf, Nat.le_trans (Nat.le_of_ble_eq_true rfl) hRl⟩, hT _ w_12_2, hT _ ws_163⟩ ⟨PW.blind, va_recv hK hW.1 (ci := 12) (q0 := 0) rfl (pic_obj ko_0.1 ko_0.2 (by decide)), PW.at _ hW hK hN⟩ rfl rfl hl.1 rfl (lv_room (Nat.le_of_ble_eq_true rfl)) d_Mod_writeLengths_25 ⟨hRc, hRs⟩) hS (fun q _ h => hF q h) hF (fun r622 x621 t H locs ht hvm hw hB hz1 hk1 hS => ?_)
    have hW := Wd.back hB ht hF
    clear hB ht hF hz1 hk1 hvm
    refine lv_i2l hx hb d_Mod_writeLengths_28 rfl ?_
    obtain ⟨hi, hw⟩ := hw
    refine w_last (o := 43) hx hb hK hW hS ko_43.1 ko_43.2 hi d_Mod_writeLengths_29 (fun H locs hW hS => ?_)
    obtain ⟨x623, ex623⟩ : ∃ y : St, y = setL x621 43 l1 (r622 : Int32).toInt64 := ⟨_, rfl⟩
    rw [← ex623] at hW
    have hw := hw x623 ex623
    refine lv_iinc (v := (l1 + 1)) (lv' := [(1, .int (l1 + 1)), (0, .ref (ad 0))]) hx hb d_Mod_writeLengths_30 hl (k := 1) rfl rfl (by decide) rfl (fun ls hl => ?_)
    refine lv_goto (tgt := 10) hx hb d_Mod_writeLengths_33 (by decide) ?_
    exact hrec10 (l1 + 1) x623 H locs ls  hw hW hS (lv_sub hl [1, 0] rfl)
set_option maxHeartbeats 4000000 in
set_option maxRecDepth 100000 in
theorem tl_Mod_writeLengths_10 {p : Program} {l : Launch} {e : Env} {R : Room} {s : State} {m : MethodId} {args : Array Value} {below : List Frame} {meth : Method} {c : Code} {cells slots : Nat} {Q : State → Prop} {dC : Nat → ClassId} {dI : Nat → Nat → Nat} {cI cB cJ cZ : ClassId} {A : Nat → Prop} {ad : Nat → Nat} {post : St → Prop} (hx : p.tables.exec = Jvm.exec) (hb : c.code = b_Mod_writeLengths) (hml : c.maxLocals = 2) (hown : s.vm.findClass R_Mod = some m.cls) (hT : ∀ w ∈ TG, w.before args s = true) (hK : va_K (dC, dI) CL (TY cI cB cJ cZ) s) (hN : NW s) (hA : ∀ q : Nat, s.heap.size ≤ q → A q) (hRc : cells ≤ R.cells) (hRs : slots ≤ R.slots) (hRf : 4 ≤ R.frames) (hRl : 97 ≤ R.locals) (hret : ∀ (x : St) (H : Heap) (locs : List Loc) (pc : Nat) (ls : Array Slot), decode b_Mod_writeLengths pc = .ok (.return_, 1) → post x → Wd dC dI cI cB cJ cZ ad stM kcM 115 A x H → va_S A s.heap H locs → W p l e R s m args below meth c H locs cells slots Q (F0 m pc ls []))  : ∀ n : Nat, ∀ (l1 : Int32) (x : St) (H : Heap) (locs : List Loc) (ls : Array Slot), wl_Mod_writeLengths_10 post n l1 x → Wd dC dI cI cB cJ cZ ad stM kcM 115 A x H → va_S A s.heap H locs → lv_has ls 2 [(0, .ref (ad 0)), (1, .int l1)] → W p l e R s m args below meth c H locs cells slots Q (F0 m 10 ls []) := by
  intro n
  induction n with
  | zero => intro l1 x H locs ls  hw; exact hw.elim
  | succ n ih => intro l1 x H locs ls  hw hW hS hl; exact t_Mod_writeLengths_10 hx hb hml hown hT hK hN hA hRc hRs hRf hRl hret  ih l1 x H locs ls  hw hW hS hl
set_option maxRecDepth 100000 in
set_option maxHeartbeats 4000000 in
set_option maxRecDepth 100000 in
theorem t_Mod_writeLengths_e {p : Program} {l : Launch} {e : Env} {R : Room} {s : State} {m : MethodId} {args : Array Value} {below : List Frame} {meth : Method} {c : Code} {cells slots : Nat} {Q : State → Prop} {dC : Nat → ClassId} {dI : Nat → Nat → Nat} {cI cB cJ cZ : ClassId} {A : Nat → Prop} {ad : Nat → Nat} {post : St → Prop} (hx : p.tables.exec = Jvm.exec) (hb : c.code = b_Mod_writeLengths) (hml : c.maxLocals = 2) (hown : s.vm.findClass R_Mod = some m.cls) (hT : ∀ w ∈ TG, w.before args s = true) (hK : va_K (dC, dI) CL (TY cI cB cJ cZ) s) (hN : NW s) (hA : ∀ q : Nat, s.heap.size ≤ q → A q) (hRc : cells ≤ R.cells) (hRs : slots ≤ R.slots) (hRf : 4 ≤ R.frames) (hRl : 97 ≤ R.locals) (hret : ∀ (x : St) (H : Heap) (locs : List Loc) (pc : Nat) (ls : Array Slot), decode b_Mod_writeLengths pc = .ok (.return_, 1) → post x → Wd dC dI cI cB cJ cZ ad stM kcM 115 A x H → va_S A s.heap H locs → W p l e R s m args below meth c H locs cells slots Q (F0 m pc ls [])) : ∀  (x : St) (H : Heap) (locs : List Loc) (ls : Array Slot), wp_Mod_writeLengths post  x → Wd dC dI cI cB cJ cZ ad stM kcM 115 A x H → va_S A s.heap H locs → lv_has ls 2 [(0, .ref (ad 0))] → W p l e R s m args below meth c H locs cells slots Q (F0 m 0 ls []) := by
  intro  x H locs ls  hw hW hS hl
  unfold wp_Mod_writeLengths at hw
  refine lv_aload_n hx hb d_Mod_writeLengths_0 rfl (lv_at hl 0 rfl) ?_
  refine lv_aload_n hx hb d_Mod_writeLengths_1 rfl (lv_at hl 0 rfl) ?_
  refine w_geti (k := 42) (t := 12) (C := R_Mod) (T := F_Mod) (N := 167) hx hb hT hown hK hW ko_0.1 ko_0.2 (by decide) in_Mod rfl rfl (by decide) rfl fr_Mod_42 w_8_218 d_Mod_writeLengths_2 ?_
  refine w_puti (ty := .int) (k := 71) (t := 12) (C := R_Mod) (T := F_Mod) (N := 167) hx hb hT hown hK hW hS ko_0.1 ko_0.2 (by decide) in_Mod t_Mod t_Mod_ok n_Mod rfl rfl (by decide) rfl fr_Mod_71 w_9_7 (by decide +kernel) rfl rfl d_Mod_writeLengths_5 (fun H locs hW hS => ?_)
  obtain ⟨x624, ex624⟩ : ∃ y : St, y = setI x 0 71 (fI x 0 42) := ⟨_, rfl⟩
  rw [← ex624] at hW
  have hw := hw x624 ex624
  refine lv_iconst (v := 0) hx hb d_Mod_writeLengths_8 (by decide) ?_
  refine lv_istore_n (lv' := [(1, .int 0), (0, .ref (ad 0))]) hx hb d_Mod_writeLengths_9 rfl hl (by decide) rfl (fun ls hl => ?_)
  obtain ⟨n, hw⟩ := hw
  exact tl_Mod_writeLengths_10 hx hb hml hown hT hK hN hA hRc hRs hRf hRl hret  n 0 x624 H locs ls  hw hW hS (lv_sub hl [1, 0] rfl)
set_option maxHeartbeats 4000000 in
set_option maxRecDepth 100000 in
theorem k_Mod_writeLengths (l : Launch) (dC : Nat → ClassId) (dI : Nat → Nat → Nat) (cI cB cJ cZ : ClassId) (ad : Nat → Nat) (sz : Nat)  (x : St) {post : St → Prop} (hw : wp_Mod_writeLengths post  x) : Met l y_Mod_writeLengths (wsOf y_Mod_writeLengths b_Mod_writeLengths 2 (none)) ({ frames := 4, cells := 0, slots := 0, locals := 97 }) (va_Pc [.ref (ad 0)] (PW dC dI cI cB cJ cZ ad stM kcM 115 sz x)) (va_Qv (fun (y : St) => post y) (fun y t => Wd dC dI cI cB cJ cZ ad stM kcM 115 (va_A (pic ad stM kcM 115 cI cB cJ cZ x) sz) y t.heap) (va_A (pic ad stM kcM 115 cI cB cJ cZ x) sz)) 0 0 (va_A (pic ad stM kcM 115 cI cB cJ cZ x) sz) := by
  refine Met.ofW (cc := b_Mod_writeLengths) (maxL := 2) (ret := none) (by decide) rfl ?_
  intro p e s m args below meth c s₁ B hml hv
  obtain ⟨rfl, hsz, hW0, hK, hN⟩ := hv
  have hx := B.exec
  have hb := B.bytes
  have hr := B.returns
  have hts := atoms_spec B.pre
  have hT : ∀ w ∈ TG, w.before _ s = true := fun w h => hts w (List.mem_cons_of_mem _ h)
  have hown : s.vm.findClass R_Mod = some m.cls := findClass_of_methodNamed B.named
  have hlocks := B.notSynchronized
  subst hsz
  have hW : Wd dC dI cI cB cJ cZ ad stM kcM 115 (va_A (pic ad stM kcM 115 cI cB cJ cZ x) s.heap.size) x s.heap := ⟨hW0.1, hW0.2.1.self (sz := s.heap.size), hW0.2.2⟩
  generalize hAe : va_A (pic ad stM kcM 115 cI cB cJ cZ x) s.heap.size = A at hW ⊢
  have hA : ∀ q : Nat, s.heap.size ≤ q → A q := fun q h => by rw [← hAe]; exact Or.inr h
  have hS : va_S A s.heap s.heap [] := va_S.rf
  have hl := lv_entry ([.ref (ad 0)]) (n := 2) (Nat.le_of_ble_eq_true rfl)
  rw [lg_entry_eq]
  generalize (lg_sl ([.ref (ad 0)]) ++ List.replicate (2 - (lg_sl ([.ref (ad 0)])).length) Slot.unset).toArray = ls at hl ⊢
  have hl : lv_has ls 2 [(0, .ref (ad 0))] := hl
  exact t_Mod_writeLengths_e hx hb hml hown hT hK hN hA (Nat.le_refl 0) (Nat.le_refl 0) (Nat.le_refl 4) (Nat.le_refl 97) (fun x H locs pc ls hd hp hW hS => W.vret hx hb hr (fun t ht hM => ⟨⟨x, rfl, hp, Wd.back hW ht.symm (fun _ z => z)⟩, hS.F ht⟩) hS.2.2 hd hlocks)   x _ _ ls  hw hW hS hl
set_option maxRecDepth 100000 in
set_option maxHeartbeats 4000000 in
set_option maxRecDepth 100000 in
theorem t_Mod_inCommon_63 {p : Program} {l : Launch} {e : Env} {R : Room} {s : State} {m : MethodId} {args : Array Value} {below : List Frame} {meth : Method} {c : Code} {cells slots : Nat} {Q : State → Prop} {dC : Nat → ClassId} {dI : Nat → Nat → Nat} {cI cB cJ cZ : ClassId} {A : Nat → Prop} {ad : Nat → Nat} {post : Int32 → St → Prop} (hx : p.tables.exec = Jvm.exec) (hb : c.code = b_Mod_inCommon) (hml : c.maxLocals = 3) (hown : s.vm.findClass R_Mod = some m.cls) (hT : ∀ w ∈ TG, w.before args s = true) (hK : va_K (dC, dI) CL (TY cI cB cJ cZ) s) (hN : NW s) (hA : ∀ q : Nat, s.heap.size ≤ q → A q) (hRc : cells ≤ R.cells) (hRs : slots ≤ R.slots) (hRf : 1 ≤ R.frames) (hRl : 21 ≤ R.locals) (hret : ∀ (r : Int32) (x : St) (H : Heap) (locs : List Loc) (pc : Nat) (ls : Array Slot), decode b_Mod_inCommon pc = .ok (.ireturn, 1) → post r x → Wd dC dI cI cB cJ cZ ad stM kcM 115 A x H → va_S A s.heap H locs → W p l e R s m args below meth c H locs cells slots Q (F0 m pc ls [.int r]))  : ∀ (l1 : Int32) (l2 : Int32) (x : St) (H : Heap) (locs : List Loc) (ls : Array Slot), j_Mod_inCommon_63 post l1 l2 x → Wd dC dI cI cB cJ cZ ad stM kcM 115 A x H → va_S A s.heap H locs → lv_has ls 3 [(0, .ref (ad 0)), (1, .int l1), (2, .int l2)] → W p l e R s m args below meth c H locs cells slots Q (F0 m 63 ls []) := by
  intro l1 l2 x H locs ls  hw hW hS hl
  unfold j_Mod_inCommon_63 at hw
  refine lv_iload_n hx hb d_Mod_inCommon_63 rfl (lv_at hl 2 rfl) ?_
  exact hret l2 x H locs 64 ls d_Mod_inCommon_64 hw hW hS
set_option maxRecDepth 100000 in
set_option maxHeartbeats 4000000 in
set_option maxRecDepth 100000 in
theorem t_Mod_inCommon_2 {p : Program} {l : Launch} {e : Env} {R : Room} {s : State} {m : MethodId} {args : Array Value} {below : List Frame} {meth : Method} {c : Code} {cells slots : Nat} {Q : State → Prop} {dC : Nat → ClassId} {dI : Nat → Nat → Nat} {cI cB cJ cZ : ClassId} {A : Nat → Prop} {ad : Nat → Nat} {post : Int32 → St → Prop} {rec2 : Int32 → Int32 → St → Prop} (hx : p.tables.exec = Jvm.exec) (hb : c.code = b_Mod_inCommon) (hml : c.maxLocals = 3) (hown : s.vm.findClass R_Mod = some m.cls) (hT : ∀ w ∈ TG, w.before args s = true) (hK : va_K (dC, dI) CL (TY cI cB cJ cZ) s) (hN : NW s) (hA : ∀ q : Nat, s.heap.size ≤ q → A q) (hRc : cells ≤ R.cells) (hRs : slots ≤ R.slots) (hRf : 1 ≤ R.frames) (hRl : 21 ≤ R.locals) (hret : ∀ (r : Int32) (x : St) (H : Heap) (locs : List Loc) (pc : Nat) (ls : Array Slot), decode b_Mod_inCommon pc = .ok (.ireturn, 1) → post r x → Wd dC dI cI cB cJ cZ ad stM kcM 115 A x H → va_S A s.heap H locs → W p l e R s m args below meth c H locs cells slots Q (F0 m pc ls [.int r])) (hrec2 : ∀ (l1 : Int32) (l2 : Int32) (x : St) (H : Heap) (locs : List Loc) (ls : Array Slot), rec2 l1 l2 x → Wd dC dI cI cB cJ cZ ad stM kcM 115 A x H → va_S A s.heap H locs → lv_has ls 3 [(0, .ref (ad 0)), (1, .int l1), (2, .int l2)] → W p l e R s m args below meth c H locs cells slots Q (F0 m 2 ls [])) : ∀ (l1 : Int32) (l2 : Int32) (x : St) (H : Heap) (locs : List Loc) (ls : Array Slot), j_Mod_inCommon_2 post rec2 l1 l2 x → Wd dC dI cI cB cJ cZ ad stM kcM 115 A x H → va_S A s.heap H locs → lv_has ls 3 [(0, .ref (ad 0)), (1, .int l1), (2, .int l2)] → W p l e R s m args below meth c H locs cells slots Q (F0 m 2 ls []) := by
  intro l1 l2 x H locs ls  hw hW hS hl
  unfold j_Mod_inCommon_2 at hw
  refine lv_iload_n hx hb d_Mod_inCommon_2 rfl (lv_at hl 1 rfl) ?_
  refine lv_if_le (tgt := 63) hx hb d_Mod_inCommon_3 (by decide) (fun c625 => ?_) (fun c625 => ?_)
  · have hw := hw.1 c625
    exact t_Mod_inCommon_63 hx hb hml hown hT hK hN hA hRc hRs hRf hRl hret  l1 l2 x H locs ls  hw hW hS (lv_sub hl [0, 1, 2] rfl)
  · have hw := hw.2 c625
    refine lv_iload_n hx hb d_Mod_inCommon_6 rfl (lv_at hl 2 rfl) ?_
    refine lv_aload_n hx hb d_Mod_inCommon_7 rfl (lv_at hl 0 rfl) ?_
    refine lv_iload_n hx hb d_Mod_inCommon_8 rfl (lv_at hl 1 rfl) ?_
    have hF := hW.free hS hA
    refine va_calli (va_runV (C := R_Mod) (As := [.int l1]) (rest := [.int l2]) ⟨hx, hb, hml, hown, hT⟩ (k_Mod_lengthOf l dC dI cI cB cJ cZ ad H.size l1 x  hw) ⟨callB_of 1 hT (gwt_in w_12_3) rfl rfl rfl (hT _ w_1_15) (hT _ w_12_0) (by decide +kernel) ⟨Nat.le_trans (Nat.le_of_ble_eq_true rfl) hRf, Nat.le_trans (Nat.le_of_ble_eq_true rfl) hRl⟩, hT _ w_12_2, hT _ ws_163⟩ ⟨PW.blind, va_recv hK hW.1 (ci := 12) (q0 := 0) rfl (pic_obj ko_0.1 ko_0.2 (by decide)), PW.at _ hW hK hN⟩ rfl rfl hl.1 rfl (lv_room (Nat.le_of_ble_eq_true rfl)) d_Mod_inCommon_9 ⟨hRc, hRs⟩) hS (fun q _ h => hF q h) hF (fun r627 x626 t H locs ht hvm hw hB hz1 hk1 hS => ?_)
    have hW := Wd.back hB ht hF
    clear hB ht hF hz1 hk1 hvm
    refine lv_icmp_ge (tgt := 63) hx hb d_Mod_inCommon_12 (by decide) (fun c628 => ?_) (fun c628 => ?_)
    · have hw := hw.1 c628
      exact t_Mod_inCommon_63 hx hb hml hown hT hK hN hA hRc hRs hRf hRl hret  l1 l2 x626 H locs ls  hw hW hS (lv_sub hl [0, 1, 2] rfl)
    · have hw := hw.2 c628
      refine lv_iload_n hx hb d_Mod_inCommon_15 rfl (lv_at hl 2 rfl) ?_
      refine lv_aload_n hx hb d_Mod_inCommon_16 rfl (lv_at hl 0 rfl) ?_
      refine lv_iload_n hx hb d_Mod_inCommon_17 rfl (lv_at hl 1 rfl) ?_
      refine lv_iconst (v := 1) hx hb d_Mod_inCommon_18 (by decide) ?_
      refine lv_isub hx hb d_Mod_inCommon_19 ?_
      have hF := hW.free hS hA
      refine va_calli (va_runV (C := R_Mod) (As := [.int (l1 - 1)]) (rest := [.int l2]) ⟨hx, hb, hml, hown, hT⟩ (k_Mod_lengthOf l dC dI cI cB cJ cZ ad H.size (l1 - 1) x626  hw) ⟨callB_of 1 hT (gwt_in w_12_3) rfl rfl rfl (hT _ w_1_15) (hT _ w_12_0) (by decide +kernel) ⟨Nat.le_trans (Nat.le_of_ble_eq_true rfl) hRf, Nat.le_trans (Nat.le_of_ble_eq_true rfl) hRl⟩, hT _ w_12_2, hT _ ws_163⟩ ⟨PW.blind, va_recv hK hW.1 (ci := 12) (q0 := 0) rfl (pic_obj ko_0.1 ko_0.2 (by decide)), PW.at _ hW hK hN⟩ rfl rfl hl.1 rfl (lv_room (Nat.le_of_ble_eq_true rfl)) d_Mod_inCommon_20 ⟨hRc, hRs⟩) hS (fun q _ h => hF q h) hF (fun r630 x629 t H locs ht hvm hw hB hz1 hk1 hS => ?_)
      have hW := Wd.back hB ht hF
      clear hB ht hF hz1 hk1 hvm
      refine lv_icmp_ge (tgt := 63) hx hb d_Mod_inCommon_23 (by decide) (fun c631 => ?_) (fun c631 => ?_)
      · have hw := hw.1 c631
        exact t_Mod_inCommon_63 hx hb hml hown hT hK hN hA hRc hRs hRf hRl hret  l1 l2 x629 H locs ls  hw hW hS (lv_sub hl [0, 1, 2] rfl)
      · have hw := hw.2 c631
        refine lv_aload_n hx hb d_Mod_inCommon_26 rfl (lv_at hl 0 rfl) ?_
        refine w_getf (q := 36) (k := 55) (t := 12) (C := R_Mod) (T := F_Mod) (N := 167) hx hb hT hown hK hW ko_0.1 ko_0.2 (by decide) in_Mod rfl rfl (by decide) rfl fr_Mod_55 w_8_231 d_Mod_inCommon_27 rfl ?_
        refine lv_aload_n hx hb d_Mod_inCommon_30 rfl (lv_at hl 0 rfl) ?_
        refine w_getf (q := 33) (k := 52) (t := 12) (C := R_Mod) (T := F_Mod) (N := 167) hx hb hT hown hK hW ko_0.1 ko_0.2 (by decide) in_Mod rfl rfl (by decide) rfl fr_Mod_52 w_8_228 d_Mod_inCommon_31 rfl ?_
        refine lv_iload_n hx hb d_Mod_inCommon_34 rfl (lv_at hl 1 rfl) ?_
        obtain ⟨hi, hw⟩ := hw
        refine w_iald (o := 33) hx hb hK hW ko_33.1 ko_33.2 hi d_Mod_inCommon_35 ?_
        refine lv_iload_n hx hb d_Mod_inCommon_36 rfl (lv_at hl 2 rfl) ?_
        refine lv_iadd hx hb d_Mod_inCommon_37 ?_
        obtain ⟨hi, hw⟩ := hw
        refine w_iald (o := 36) hx hb hK hW ko_36.1 ko_36.2 hi d_Mod_inCommon_38 ?_
        refine lv_aload_n hx hb d_Mod_inCommon_39 rfl (lv_at hl 0 rfl) ?_
        refine w_getf (q := 36) (k := 55) (t := 12) (C := R_Mod) (T := F_Mod) (N := 167) hx hb hT hown hK hW ko_0.1 ko_0.2 (by decide) in_Mod rfl rfl (by decide) rfl fr_Mod_55 w_8_231 d_Mod_inCommon_40 rfl ?_
        refine lv_aload_n hx hb d_Mod_inCommon_43 rfl (lv_at hl 0 rfl) ?_
        refine w_getf (q := 33) (k := 52) (t := 12) (C := R_Mod) (T := F_Mod) (N := 167) hx hb hT hown hK hW ko_0.1 ko_0.2 (by decide) in_Mod rfl rfl (by decide) rfl fr_Mod_52 w_8_228 d_Mod_inCommon_44 rfl ?_
        refine lv_iload_n hx hb d_Mod_inCommon_47 rfl (lv_at hl 1 rfl) ?_
        refine lv_iconst (v := 1) hx hb d_Mod_inCommon_48 (by decide) ?_
        refine lv_isub hx hb d_Mod_inCommon_49 ?_
        obtain ⟨hi, hw⟩ := hw
        refine w_iald (o := 33) hx hb hK hW ko_33.1 ko_33.2 hi d_Mod_inCommon_50 ?_
        refine lv_iload_n hx hb d_Mod_inCommon_51 rfl (lv_at hl 2 rfl) ?_
        refine lv_iadd hx hb d_Mod_inCommon_52 ?_
        obtain ⟨hi, hw⟩ := hw
        refine w_iald (o := 36) hx hb hK hW ko_36.1 ko_36.2 hi d_Mod_inCommon_53 ?_
        refine lv_icmp_ne (tgt := 63) hx hb d_Mod_inCommon_54 (by decide) (fun c632 => ?_) (fun c632 => ?_)
        · have hw := hw.1 c632
          exact t_Mod_inCommon_63 hx hb hml hown hT hK hN hA hRc hRs hRf hRl hret  l1 l2 x629 H locs ls  hw hW hS (lv_sub hl [0, 1, 2] rfl)
        · have hw := hw.2 c632
          refine lv_iinc (v := (l2 + 1)) (lv' := [(2, .int (l2 + 1)), (0, .ref (ad 0)), (1, .int l1)]) hx hb d_Mod_inCommon_57 hl (k := 2) rfl rfl (by decide) rfl (fun ls hl => ?_)
          refine lv_goto (tgt := 2) hx hb d_Mod_inCommon_60 (by decide) ?_
          exact hrec2 l1 (l2 + 1) x629 H locs ls  hw hW hS (lv_sub hl [1, 2, 0] rfl)
set_option maxHeartbeats 4000000 in
set_option maxRecDepth 100000 in
theorem tl_Mod_inCommon_2 {p : Program} {l : Launch} {e : Env} {R : Room} {s : State} {m : MethodId} {args : Array Value} {below : List Frame} {meth : Method} {c : Code} {cells slots : Nat} {Q : State → Prop} {dC : Nat → ClassId} {dI : Nat → Nat → Nat} {cI cB cJ cZ : ClassId} {A : Nat → Prop} {ad : Nat → Nat} {post : Int32 → St → Prop} (hx : p.tables.exec = Jvm.exec) (hb : c.code = b_Mod_inCommon) (hml : c.maxLocals = 3) (hown : s.vm.findClass R_Mod = some m.cls) (hT : ∀ w ∈ TG, w.before args s = true) (hK : va_K (dC, dI) CL (TY cI cB cJ cZ) s) (hN : NW s) (hA : ∀ q : Nat, s.heap.size ≤ q → A q) (hRc : cells ≤ R.cells) (hRs : slots ≤ R.slots) (hRf : 1 ≤ R.frames) (hRl : 21 ≤ R.locals) (hret : ∀ (r : Int32) (x : St) (H : Heap) (locs : List Loc) (pc : Nat) (ls : Array Slot), decode b_Mod_inCommon pc = .ok (.ireturn, 1) → post r x → Wd dC dI cI cB cJ cZ ad stM kcM 115 A x H → va_S A s.heap H locs → W p l e R s m args below meth c H locs cells slots Q (F0 m pc ls [.int r]))  : ∀ n : Nat, ∀ (l1 : Int32) (l2 : Int32) (x : St) (H : Heap) (locs : List Loc) (ls : Array Slot), wl_Mod_inCommon_2 post n l1 l2 x → Wd dC dI cI cB cJ cZ ad stM kcM 115 A x H → va_S A s.heap H locs → lv_has ls 3 [(0, .ref (ad 0)), (1, .int l1), (2, .int l2)] → W p l e R s m args below meth c H locs cells slots Q (F0 m 2 ls []) := by
  intro n
  induction n with
  | zero => intro l1 l2 x H locs ls  hw; exact hw.elim
  | succ n ih => intro l1 l2 x H locs ls  hw hW hS hl; exact t_Mod_inCommon_2 hx hb hml hown hT hK hN hA hRc hRs hRf hRl hret  ih l1 l2 x H locs ls  hw hW hS hl
set_option maxRecDepth 100000 in
set_option maxHeartbeats 4000000 in
set_option maxRecDepth 100000 in
theorem t_Mod_inCommon_e {p : Program} {l : Launch} {e : Env} {R : Room} {s : State} {m : MethodId} {args : Array Value} {below : List Frame} {meth : Method} {c : Code} {cells slots : Nat} {Q : State → Prop} {dC : Nat → ClassId} {dI : Nat → Nat → Nat} {cI cB cJ cZ : ClassId} {A : Nat → Prop} {ad : Nat → Nat} {post : Int32 → St → Prop} (hx : p.tables.exec = Jvm.exec) (hb : c.code = b_Mod_inCommon) (hml : c.maxLocals = 3) (hown : s.vm.findClass R_Mod = some m.cls) (hT : ∀ w ∈ TG, w.before args s = true) (hK : va_K (dC, dI) CL (TY cI cB cJ cZ) s) (hN : NW s) (hA : ∀ q : Nat, s.heap.size ≤ q → A q) (hRc : cells ≤ R.cells) (hRs : slots ≤ R.slots) (hRf : 1 ≤ R.frames) (hRl : 21 ≤ R.locals) (hret : ∀ (r : Int32) (x : St) (H : Heap) (locs : List Loc) (pc : Nat) (ls : Array Slot), decode b_Mod_inCommon pc = .ok (.ireturn, 1) → post r x → Wd dC dI cI cB cJ cZ ad stM kcM 115 A x H → va_S A s.heap H locs → W p l e R s m args below meth c H locs cells slots Q (F0 m pc ls [.int r])) : ∀ (l1 : Int32) (x : St) (H : Heap) (locs : List Loc) (ls : Array Slot), wp_Mod_inCommon post l1 x → Wd dC dI cI cB cJ cZ ad stM kcM 115 A x H → va_S A s.heap H locs → lv_has ls 3 [(0, .ref (ad 0)), (1, .int l1)] → W p l e R s m args below meth c H locs cells slots Q (F0 m 0 ls []) := by
  intro l1 x H locs ls  hw hW hS hl
  unfold wp_Mod_inCommon at hw
  refine lv_iconst (v := 0) hx hb d_Mod_inCommon_0 (by decide) ?_
  refine lv_istore_n (lv' := [(2, .int 0), (0, .ref (ad 0)), (1, .int l1)]) hx hb d_Mod_inCommon_1 rfl hl (by decide) rfl (fun ls hl => ?_)
  obtain ⟨n, hw⟩ := hw
  exact tl_Mod_inCommon_2 hx hb hml hown hT hK hN hA hRc hRs hRf hRl hret  n l1 0 x H locs ls  hw hW hS (lv_sub hl [1, 2, 0] rfl)
set_option maxHeartbeats 4000000 in
set_option maxRecDepth 100000 in
theorem k_Mod_inCommon (l : Launch) (dC : Nat → ClassId) (dI : Nat → Nat → Nat) (cI cB cJ cZ : ClassId) (ad : Nat → Nat) (sz : Nat) (l1 : Int32) (x : St) {post : Int32 → St → Prop} (hw : wp_Mod_inCommon post l1 x) : Met l y_Mod_inCommon (wsOf y_Mod_inCommon b_Mod_inCommon 3 (some (.int))) ({ frames := 1, cells := 0, slots := 0, locals := 21 }) (va_Pc [.ref (ad 0), .int l1] (PW dC dI cI cB cJ cZ ad stM kcM 115 sz x)) (va_Qi (fun (r : Int32) (y : St) => post r y) (fun y t => Wd dC dI cI cB cJ cZ ad stM kcM 115 (va_A (pic ad stM kcM 115 cI cB cJ cZ x) sz) y t.heap) (va_A (pic ad stM kcM 115 cI cB cJ cZ x) sz)) 0 0 (va_A (pic ad stM kcM 115 cI cB cJ cZ x) sz) := by
  refine Met.ofW (cc := b_Mod_inCommon) (maxL := 3) (ret := some (.int)) (by decide) rfl ?_
  intro p e s m args below meth c s₁ B hml hv
  obtain ⟨rfl, hsz, hW0, hK, hN⟩ := hv
  have hx := B.exec
  have hb := B.bytes
  have hr := B.returns
  have hts := atoms_spec B.pre
  have hT : ∀ w ∈ TG, w.before _ s = true := fun w h => hts w (List.mem_cons_of_mem _ h)
  have hown : s.vm.findClass R_Mod = some m.cls := findClass_of_methodNamed B.named
  have hlocks := B.notSynchronized
  subst hsz
  have hW : Wd dC dI cI cB cJ cZ ad stM kcM 115 (va_A (pic ad stM kcM 115 cI cB cJ cZ x) s.heap.size) x s.heap := ⟨hW0.1, hW0.2.1.self (sz := s.heap.size), hW0.2.2⟩
  generalize hAe : va_A (pic ad stM kcM 115 cI cB cJ cZ x) s.heap.size = A at hW ⊢
  have hA : ∀ q : Nat, s.heap.size ≤ q → A q := fun q h => by rw [← hAe]; exact Or.inr h
  have hS : va_S A s.heap s.heap [] := va_S.rf
  have hl := lv_entry ([.ref (ad 0), .int l1]) (n := 3) (Nat.le_of_ble_eq_true rfl)
  rw [lg_entry_eq]
  generalize (lg_sl ([.ref (ad 0), .int l1]) ++ List.replicate (3 - (lg_sl ([.ref (ad 0), .int l1])).length) Slot.unset).toArray = ls at hl ⊢
  have hl : lv_has ls 3 [(0, .ref (ad 0)), (1, .int l1)] := hl
  exact t_Mod_inCommon_e hx hb hml hown hT hK hN hA (Nat.le_refl 0) (Nat.le_refl 0) (Nat.le_refl 1) (Nat.le_refl 21) (fun r x H locs pc ls hd hp hW hS => W.iret (v := r) hx hb hr (fun t ht hM => ⟨⟨r, x, rfl, hp, Wd.back hW ht.symm (fun _ z => z)⟩, hS.F ht⟩) hS.2.2 hd hlocks)  l1 x _ _ ls  hw hW hS hl
set_option maxRecDepth 100000 in
set_option maxHeartbeats 4000000 in
set_option maxRecDepth 100000 in
theorem t_Mod_writeFront_101 {p : Program} {l : Launch} {e : Env} {R : Room} {s : State} {m : MethodId} {args : Array Value} {below : List Frame} {meth : Method} {c : Code} {cells slots : Nat} {Q : State → Prop} {dC : Nat → ClassId} {dI : Nat → Nat → Nat} {cI cB cJ cZ : ClassId} {A : Nat → Prop} {ad : Nat → Nat} {post : St → Prop} {rec80 : Int32 → St → Prop} {rec101 : Int32 → Int32 → St → Prop} (hx : p.tables.exec = Jvm.exec) (hb : c.code = b_Mod_writeFront) (hml : c.maxLocals = 3) (hown : s.vm.findClass R_Mod = some m.cls) (hT : ∀ w ∈ TG, w.before args s = true) (hK : va_K (dC, dI) CL (TY cI cB cJ cZ) s) (hN : NW s) (hA : ∀ q : Nat, s.heap.size ≤ q → A q) (hRc : cells ≤ R.cells) (hRs : slots ≤ R.slots) (hRf : 4 ≤ R.frames) (hRl : 97 ≤ R.locals) (hret : ∀ (x : St) (H : Heap) (locs : List Loc) (pc : Nat) (ls : Array Slot), decode b_Mod_writeFront pc = .ok (.return_, 1) → post x → Wd dC dI cI cB cJ cZ ad stM kcM 115 A x H → va_S A s.heap H locs → W p l e R s m args below meth c H locs cells slots Q (F0 m pc ls [])) (hrec80 : ∀ (l1 : Int32) (x : St) (H : Heap) (locs : List Loc) (ls : Array Slot), rec80 l1 x → Wd dC dI cI cB cJ cZ ad stM kcM 115 A x H → va_S A s.heap H locs → lv_has ls 3 [(0, .ref (ad 0)), (1, .int l1)] → W p l e R s m args below meth c H locs cells slots Q (F0 m 80 ls [])) (hrec101 : ∀ (l1 : Int32) (l2 : Int32) (x : St) (H : Heap) (locs : List Loc) (ls : Array Slot), rec101 l1 l2 x → Wd dC dI cI cB cJ cZ ad stM kcM 115 A x H → va_S A s.heap H locs → lv_has ls 3 [(0, .ref (ad 0)), (1, .int l1), (2, .int l2)] → W p l e R s m args below meth c H locs cells slots Q (F0 m 101 ls [])) : ∀ (l1 : Int32) (l2 : Int32) (x : St) (H : Heap) (locs : List Loc) (ls : Array Slot), j_Mod_writeFront_101 post rec80 rec101 l1 l2 x → Wd dC dI cI cB cJ cZ ad stM kcM 115 A x H → va_S A s.heap H locs → lv_has ls 3 [(0, .ref (ad 0)), (1, .int l1), (2, .int l2)] → W p l e R s m args below meth c H locs cells slots Q (F0 m 101 ls []) := by
  intro l1 l2 x H locs ls  hw hW hS hl
  unfold j_Mod_writeFront_101 at hw
  refine lv_iload_n hx hb d_Mod_writeFront_101 rfl (lv_at hl 2 rfl) ?_
  refine lv_aload_n hx hb d_Mod_writeFront_102 rfl (lv_at hl 0 rfl) ?_
  refine w_getf (q := 33) (k := 52) (t := 12) (C := R_Mod) (T := F_Mod) (N := 167) hx hb hT hown hK hW ko_0.1 ko_0.2 (by decide) in_Mod rfl rfl (by decide) rfl fr_Mod_52 w_8_228 d_Mod_writeFront_103 rfl ?_
  refine lv_iload_n hx hb d_Mod_writeFront_106 rfl (lv_at hl 1 rfl) ?_
  refine lv_iconst (v := 1) hx hb d_Mod_writeFront_107 (by decide) ?_
  refine lv_iadd hx hb d_Mod_writeFront_108 ?_
  obtain ⟨hi, hw⟩ := hw
  refine w_iald (o := 33) hx hb hK hW ko_33.1 ko_33.2 hi d_Mod_writeFront_109 ?_
  refine lv_icmp_ge (tgt := 129) hx hb d_Mod_writeFront_110 (by decide) (fun c633 => ?_) (fun c633 => ?_)
  · have hw := hw.1 c633
    refine lv_iinc (v := (l1 + 1)) (lv' := [(1, .int (l1 + 1)), (0, .ref (ad 0)), (2, .int l2)]) hx hb d_Mod_writeFront_129 hl (k := 1) rfl rfl (by decide) rfl (fun ls hl => ?_)
    refine lv_goto (tgt := 80) hx hb d_Mod_writeFront_132 (by decide) ?_
    exact hrec80 (l1 + 1) x H locs ls  hw hW hS (lv_sub hl [1, 0] rfl)
  · have hw := hw.2 c633
    refine lv_aload_n hx hb d_Mod_writeFront_113 rfl (lv_at hl 0 rfl) ?_
    refine lv_aload_n hx hb d_Mod_writeFront_114 rfl (lv_at hl 0 rfl) ?_
    refine w_getf (q := 36) (k := 55) (t := 12) (C := R_Mod) (T := F_Mod) (N := 167) hx hb hT hown hK hW ko_0.1 ko_0.2 (by decide) in_Mod rfl rfl (by decide) rfl fr_Mod_55 w_8_231 d_Mod_writeFront_115 rfl ?_
    refine lv_iload_n hx hb d_Mod_writeFront_118 rfl (lv_at hl 2 rfl) ?_
    obtain ⟨hi, hw⟩ := hw
    refine w_iald (o := 36) hx hb hK hW ko_36.1 ko_36.2 hi d_Mod_writeFront_119 ?_
    have hF := hW.free hS hA
    refine va_callv (va_runV (C := R_Mod) (As := [.int (rA x 36 l2)]) (rest := []) ⟨hx, hb, hml, hown, hT⟩ (k_Mod_put l dC dI cI cB cJ cZ ad H.size (rA x 36 l2) x  hw) ⟨callB_of 1 hT (gwt_in w_11_199) rfl rfl rfl (hT _ w_1_15) (hT _ w_11_196) (by decide +kernel) ⟨Nat.le_trans (Nat.le_of_ble_eq_true rfl) hRf, Nat.le_trans (Nat.le_of_ble_eq_true rfl) hRl⟩, hT _ w_11_198, hT _ ws_153⟩ ⟨PW.blind, va_recv hK hW.1 (ci := 12) (q0 := 0) rfl (pic_obj ko_0.1 ko_0.2 (by decide)), PW.at _ hW hK hN⟩ rfl rfl hl.1 rfl (lv_room (Nat.le_of_ble_eq_true rfl)) d_Mod_writeFront_120 ⟨hRc, hRs⟩) hS (fun q _ h => hF q h) hF (fun  x634 t H locs ht hvm hw hB hz1 hk1 hS => ?_)
    have hW := Wd.back hB ht hF
    clear hB ht hF hz1 hk1 hvm
    refine lv_iinc (v := (l2 + 1)) (lv' := [(2, .int (l2 + 1)), (0, .ref (ad 0)), (1, .int l1)]) hx hb d_Mod_writeFront_123 hl (k := 2) rfl rfl (by decide) rfl (fun ls hl => ?_)
    refine lv_goto (tgt := 101) hx hb d_Mod_writeFront_126 (by decide) ?_
    exact hrec101 l1 (l2 + 1) x634 H locs ls  hw hW hS (lv_sub hl [1, 2, 0] rfl)
set_option maxHeartbeats 4000000 in
set_option maxRecDepth 100000 in
theorem tl_Mod_writeFront_101 {p : Program} {l : Launch} {e : Env} {R : Room} {s : State} {m : MethodId} {args : Array Value} {below : List Frame} {meth : Method} {c : Code} {cells slots : Nat} {Q : State → Prop} {dC : Nat → ClassId} {dI : Nat → Nat → Nat} {cI cB cJ cZ : ClassId} {A : Nat → Prop} {ad : Nat → Nat} {post : St → Prop} {rec80 : Int32 → St → Prop} (hx : p.tables.exec = Jvm.exec) (hb : c.code = b_Mod_writeFront) (hml : c.maxLocals = 3) (hown : s.vm.findClass R_Mod = some m.cls) (hT : ∀ w ∈ TG, w.before args s = true) (hK : va_K (dC, dI) CL (TY cI cB cJ cZ) s) (hN : NW s) (hA : ∀ q : Nat, s.heap.size ≤ q → A q) (hRc : cells ≤ R.cells) (hRs : slots ≤ R.slots) (hRf : 4 ≤ R.frames) (hRl : 97 ≤ R.locals) (hret : ∀ (x : St) (H : Heap) (locs : List Loc) (pc : Nat) (ls : Array Slot), decode b_Mod_writeFront pc = .ok (.return_, 1) → post x → Wd dC dI cI cB cJ cZ ad stM kcM 115 A x H → va_S A s.heap H locs → W p l e R s m args below meth c H locs cells slots Q (F0 m pc ls [])) (hrec80 : ∀ (l1 : Int32) (x : St) (H : Heap) (locs : List Loc) (ls : Array Slot), rec80 l1 x → Wd dC dI cI cB cJ cZ ad stM kcM 115 A x H → va_S A s.heap H locs → lv_has ls 3 [(0, .ref (ad 0)), (1, .int l1)] → W p l e R s m args below meth c H locs cells slots Q (F0 m 80 ls [])) : ∀ n : Nat, ∀ (l1 : Int32) (l2 : Int32) (x : St) (H : Heap) (locs : List Loc) (ls : Array Slot), wl_Mod_writeFront_101 post rec80 n l1 l2 x → Wd dC dI cI cB cJ cZ ad stM kcM 115 A x H → va_S A s.heap H locs → lv_has ls 3 [(0, .ref (ad 0)), (1, .int l1), (2, .int l2)] → W p l e R s m args below meth c H locs cells slots Q (F0 m 101 ls []) := by
  intro n
  induction n with
  | zero => intro l1 l2 x H locs ls  hw; exact hw.elim
  | succ n ih => intro l1 l2 x H locs ls  hw hW hS hl; exact t_Mod_writeFront_101 hx hb hml hown hT hK hN hA hRc hRs hRf hRl hret hrec80 ih l1 l2 x H locs ls  hw hW hS hl
set_option maxRecDepth 100000 in
set_option maxHeartbeats 4000000 in
set_option maxRecDepth 100000 in
theorem t_Mod_writeFront_80 {p : Program} {l : Launch} {e : Env} {R : Room} {s : State} {m : MethodId} {args : Array Value} {below : List Frame} {meth : Method} {c : Code} {cells slots : Nat} {Q : State → Prop} {dC : Nat → ClassId} {dI : Nat → Nat → Nat} {cI cB cJ cZ : ClassId} {A : Nat → Prop} {ad : Nat → Nat} {post : St → Prop} {rec80 : Int32 → St → Prop} (hx : p.tables.exec = Jvm.exec) (hb : c.code = b_Mod_writeFront) (hml : c.maxLocals = 3) (hown : s.vm.findClass R_Mod = some m.cls) (hT : ∀ w ∈ TG, w.before args s = true) (hK : va_K (dC, dI) CL (TY cI cB cJ cZ) s) (hN : NW s) (hA : ∀ q : Nat, s.heap.size ≤ q → A q) (hRc : cells ≤ R.cells) (hRs : slots ≤ R.slots) (hRf : 4 ≤ R.frames) (hRl : 97 ≤ R.locals) (hret : ∀ (x : St) (H : Heap) (locs : List Loc) (pc : Nat) (ls : Array Slot), decode b_Mod_writeFront pc = .ok (.return_, 1) → post x → Wd dC dI cI cB cJ cZ ad stM kcM 115 A x H → va_S A s.heap H locs → W p l e R s m args below meth c H locs cells slots Q (F0 m pc ls [])) (hrec80 : ∀ (l1 : Int32) (x : St) (H : Heap) (locs : List Loc) (ls : Array Slot), rec80 l1 x → Wd dC dI cI cB cJ cZ ad stM kcM 115 A x H → va_S A s.heap H locs → lv_has ls 3 [(0, .ref (ad 0)), (1, .int l1)] → W p l e R s m args below meth c H locs cells slots Q (F0 m 80 ls [])) : ∀ (l1 : Int32) (x : St) (H : Heap) (locs : List Loc) (ls : Array Slot), j_Mod_writeFront_80 post rec80 l1 x → Wd dC dI cI cB cJ cZ ad stM kcM 115 A x H → va_S A s.heap H locs → lv_has ls 3 [(0, .ref (ad 0)), (1, .int l1)] → W p l e R s m args below meth c H locs cells slots Q (F0 m 80 ls []) := by
  intro l1 x H locs ls  hw hW hS hl
  unfold j_Mod_writeFront_80 at hw
  refine lv_iload_n hx hb d_Mod_writeFront_80 rfl (lv_at hl 1 rfl) ?_
  refine lv_aload_n hx hb d_Mod_writeFront_81 rfl (lv_at hl 0 rfl) ?_
  refine w_geti (k := 42) (t := 12) (C := R_Mod) (T := F_Mod) (N := 167) hx hb hT hown hK hW ko_0.1 ko_0.2 (by decide) in_Mod rfl rfl (by decide) rfl fr_Mod_42 w_8_218 d_Mod_writeFront_82 ?_
  refine lv_icmp_ge (tgt := 135) hx hb d_Mod_writeFront_85 (by decide) (fun c635 => ?_) (fun c635 => ?_)
  · have hw := hw.1 c635
    exact hret x H locs 135 ls d_Mod_writeFront_135 hw hW hS
  · have hw := hw.2 c635
    refine lv_aload_n hx hb d_Mod_writeFront_88 rfl (lv_at hl 0 rfl) ?_
    refine w_getf (q := 33) (k := 52) (t := 12) (C := R_Mod) (T := F_Mod) (N := 167) hx hb hT hown hK hW ko_0.1 ko_0.2 (by decide) in_Mod rfl rfl (by decide) rfl fr_Mod_52 w_8_228 d_Mod_writeFront_89 rfl ?_
    refine lv_iload_n hx hb d_Mod_writeFront_92 rfl (lv_at hl 1 rfl) ?_
    obtain ⟨hi, hw⟩ := hw
    refine w_iald (o := 33) hx hb hK hW ko_33.1 ko_33.2 hi d_Mod_writeFront_93 ?_
    refine lv_aload_n hx hb d_Mod_writeFront_94 rfl (lv_at hl 0 rfl) ?_
    refine lv_iload_n hx hb d_Mod_writeFront_95 rfl (lv_at hl 1 rfl) ?_
    have hF := hW.free hS hA
    refine va_calli (va_runV (C := R_Mod) (As := [.int l1]) (rest := [.int (rA x 33 l1)]) ⟨hx, hb, hml, hown, hT⟩ (k_Mod_inCommon l dC dI cI cB cJ cZ ad H.size l1 x  hw) ⟨callB_of 1 hT (gwt_in w_12_15) rfl rfl rfl (hT _ w_1_15) (hT _ w_12_12) (by decide +kernel) ⟨Nat.le_trans (Nat.le_of_ble_eq_true rfl) hRf, Nat.le_trans (Nat.le_of_ble_eq_true rfl) hRl⟩, hT _ w_12_14, hT _ ws_166⟩ ⟨PW.blind, va_recv hK hW.1 (ci := 12) (q0 := 0) rfl (pic_obj ko_0.1 ko_0.2 (by decide)), PW.at _ hW hK hN⟩ rfl rfl hl.1 rfl (lv_room (Nat.le_of_ble_eq_true rfl)) d_Mod_writeFront_96 ⟨hRc, hRs⟩) hS (fun q _ h => hF q h) hF (fun r637 x636 t H locs ht hvm hw hB hz1 hk1 hS => ?_)
    have hW := Wd.back hB ht hF
    clear hB ht hF hz1 hk1 hvm
    refine lv_iadd hx hb d_Mod_writeFront_99 ?_
    refine lv_topi (fun v638 ev638 => ?_)
    have hw := hw v638 ev638
    refine lv_istore_n (lv' := [(2, .int v638), (0, .ref (ad 0)), (1, .int l1)]) hx hb d_Mod_writeFront_100 rfl hl (by decide) rfl (fun ls hl => ?_)
    obtain ⟨n, hw⟩ := hw
    exact tl_Mod_writeFront_101 hx hb hml hown hT hK hN hA hRc hRs hRf hRl hret hrec80 n l1 v638 x636 H locs ls  hw hW hS (lv_sub hl [1, 2, 0] rfl)
set_option maxHeartbeats 4000000 in
set_option maxRecDepth 100000 in
theorem tl_Mod_writeFront_80 {p : Program} {l : Launch} {e : Env} {R : Room} {s : State} {m : MethodId} {args : Array Value} {below : List Frame} {meth : Method} {c : Code} {cells slots : Nat} {Q : State → Prop} {dC : Nat → ClassId} {dI : Nat → Nat → Nat} {cI cB cJ cZ : ClassId} {A : Nat → Prop} {ad : Nat → Nat} {post : St → Prop} (hx : p.tables.exec = Jvm.exec) (hb : c.code = b_Mod_writeFront) (hml : c.maxLocals = 3) (hown : s.vm.findClass R_Mod = some m.cls) (hT : ∀ w ∈ TG, w.before args s = true) (hK : va_K (dC, dI) CL (TY cI cB cJ cZ) s) (hN : NW s) (hA : ∀ q : Nat, s.heap.size ≤ q → A q) (hRc : cells ≤ R.cells) (hRs : slots ≤ R.slots) (hRf : 4 ≤ R.frames) (hRl : 97 ≤ R.locals) (hret : ∀ (x : St) (H : Heap) (locs : List Loc) (pc : Nat) (ls : Array Slot), decode b_Mod_writeFront pc = .ok (.return_, 1) → post x → Wd dC dI cI cB cJ cZ ad stM kcM 115 A x H → va_S A s.heap H locs → W p l e R s m args below meth c H locs cells slots Q (F0 m pc ls []))  : ∀ n : Nat, ∀ (l1 : Int32) (x : St) (H : Heap) (locs : List Loc) (ls : Array Slot), wl_Mod_writeFront_80 post n l1 x → Wd dC dI cI cB cJ cZ ad stM kcM 115 A x H → va_S A s.heap H locs → lv_has ls 3 [(0, .ref (ad 0)), (1, .int l1)] → W p l e R s m args below meth c H locs cells slots Q (F0 m 80 ls []) := by
  intro n
  induction n with
  | zero => intro l1 x H locs ls  hw; exact hw.elim
  | succ n ih => intro l1 x H locs ls  hw hW hS hl; exact t_Mod_writeFront_80 hx hb hml hown hT hK hN hA hRc hRs hRf hRl hret  ih l1 x H locs ls  hw hW hS hl
set_option maxRecDepth 100000 in
set_option maxHeartbeats 4000000 in
set_option maxRecDepth 100000 in
theorem t_Mod_writeFront_42 {p : Program} {l : Launch} {e : Env} {R : Room} {s : State} {m : MethodId} {args : Array Value} {below : List Frame} {meth : Method} {c : Code} {cells slots : Nat} {Q : State → Prop} {dC : Nat → ClassId} {dI : Nat → Nat → Nat} {cI cB cJ cZ : ClassId} {A : Nat → Prop} {ad : Nat → Nat} {post : St → Prop} {rec42 : Int32 → St → Prop} (hx : p.tables.exec = Jvm.exec) (hb : c.code = b_Mod_writeFront) (hml : c.maxLocals = 3) (hown : s.vm.findClass R_Mod = some m.cls) (hT : ∀ w ∈ TG, w.before args s = true) (hK : va_K (dC, dI) CL (TY cI cB cJ cZ) s) (hN : NW s) (hA : ∀ q : Nat, s.heap.size ≤ q → A q) (hRc : cells ≤ R.cells) (hRs : slots ≤ R.slots) (hRf : 4 ≤ R.frames) (hRl : 97 ≤ R.locals) (hret : ∀ (x : St) (H : Heap) (locs : List Loc) (pc : Nat) (ls : Array Slot), decode b_Mod_writeFront pc = .ok (.return_, 1) → post x → Wd dC dI cI cB cJ cZ ad stM kcM 115 A x H → va_S A s.heap H locs → W p l e R s m args below meth c H locs cells slots Q (F0 m pc ls [])) (hrec42 : ∀ (l1 : Int32) (x : St) (H : Heap) (locs : List Loc) (ls : Array Slot), rec42 l1 x → Wd dC dI cI cB cJ cZ ad stM kcM 115 A x H → va_S A s.heap H locs → lv_has ls 3 [(0, .ref (ad 0)), (1, .int l1)] → W p l e R s m args below meth c H locs cells slots Q (F0 m 42 ls [])) : ∀ (l1 : Int32) (x : St) (H : Heap) (locs : List Loc) (ls : Array Slot), j_Mod_writeFront_42 post rec42 l1 x → Wd dC dI cI cB cJ cZ ad stM kcM 115 A x H → va_S A s.heap H locs → lv_has ls 3 [(0, .ref (ad 0)), (1, .int l1)] → W p l e R s m args below meth c H locs cells slots Q (F0 m 42 ls []) := by
  intro l1 x H locs ls  hw hW hS hl
  unfold j_Mod_writeFront_42 at hw
  refine lv_iload_n hx hb d_Mod_writeFront_42 rfl (lv_at hl 1 rfl) ?_
  refine lv_aload_n hx hb d_Mod_writeFront_43 rfl (lv_at hl 0 rfl) ?_
  refine w_geti (k := 42) (t := 12) (C := R_Mod) (T := F_Mod) (N := 167) hx hb hT hown hK hW ko_0.1 ko_0.2 (by decide) in_Mod rfl rfl (by decide) rfl fr_Mod_42 w_8_218 d_Mod_writeFront_44 ?_
  refine lv_icmp_ge (tgt := 74) hx hb d_Mod_writeFront_47 (by decide) (fun c639 => ?_) (fun c639 => ?_)
  · have hw := hw.1 c639
    refine lv_aload_n hx hb d_Mod_writeFront_74 rfl (lv_at hl 0 rfl) ?_
    have hF := hW.free hS hA
    refine va_callv (va_runV (C := R_Mod) (As := []) (rest := []) ⟨hx, hb, hml, hown, hT⟩ (k_Mod_writeCode l dC dI cI cB cJ cZ ad H.size  x  hw) ⟨callB_of 0 hT (gwt_in w_12_7) rfl rfl rfl (hT _ w_1_15) (hT _ w_12_4) (by decide +kernel) ⟨Nat.le_trans (Nat.le_of_ble_eq_true rfl) hRf, Nat.le_trans (Nat.le_of_ble_eq_true rfl) hRl⟩, hT _ w_12_6, hT _ ws_164⟩ ⟨PW.blind, va_recv hK hW.1 (ci := 12) (q0 := 0) rfl (pic_obj ko_0.1 ko_0.2 (by decide)), PW.at _ hW hK hN⟩ rfl rfl hl.1 rfl (lv_room (Nat.le_of_ble_eq_true rfl)) d_Mod_writeFront_75 ⟨hRc, hRs⟩) hS (fun q _ h => hF q h) hF (fun  x640 t H locs ht hvm hw hB hz1 hk1 hS => ?_)
    have hW := Wd.back hB ht hF
    clear hB ht hF hz1 hk1 hvm
    refine lv_iconst (v := 0) hx hb d_Mod_writeFront_78 (by decide) ?_
    refine lv_istore_n (lv' := [(1, .int 0), (0, .ref (ad 0))]) hx hb d_Mod_writeFront_79 rfl hl (by decide) rfl (fun ls hl => ?_)
    obtain ⟨n, hw⟩ := hw
    exact tl_Mod_writeFront_80 hx hb hml hown hT hK hN hA hRc hRs hRf hRl hret  n 0 x640 H locs ls  hw hW hS (lv_sub hl [1, 0] rfl)
  · have hw := hw.2 c639
    refine lv_aload_n hx hb d_Mod_writeFront_50 rfl (lv_at hl 0 rfl) ?_
    refine w_getf (q := 43) (k := 70) (t := 12) (C := R_Mod) (T := F_Mod) (N := 167) hx hb hT hown hK hW ko_0.1 ko_0.2 (by decide) in_Mod rfl rfl (by decide) rfl fr_Mod_70 w_9_6 d_Mod_writeFront_51 rfl ?_
    refine lv_iload_n hx hb d_Mod_writeFront_54 rfl (lv_at hl 1 rfl) ?_
    refine lv_aload_n hx hb d_Mod_writeFront_55 rfl (lv_at hl 0 rfl) ?_
    refine lv_iload_n hx hb d_Mod_writeFront_56 rfl (lv_at hl 1 rfl) ?_
    have hF := hW.free hS hA
    refine va_calli (va_runV (C := R_Mod) (As := [.int l1]) (rest := [.int l1, .ref (ad 43)]) ⟨hx, hb, hml, hown, hT⟩ (k_Mod_lengthOf l dC dI cI cB cJ cZ ad H.size l1 x  hw) ⟨callB_of 1 hT (gwt_in w_12_3) rfl rfl rfl (hT _ w_1_15) (hT _ w_12_0) (by decide +kernel) ⟨Nat.le_trans (Nat.le_of_ble_eq_true rfl) hRf, Nat.le_trans (Nat.le_of_ble_eq_true rfl) hRl⟩, hT _ w_12_2, hT _ ws_163⟩ ⟨PW.blind, va_recv hK hW.1 (ci := 12) (q0 := 0) rfl (pic_obj ko_0.1 ko_0.2 (by decide)), PW.at _ hW hK hN⟩ rfl rfl hl.1 rfl (lv_room (Nat.le_of_ble_eq_true rfl)) d_Mod_writeFront_57 ⟨hRc, hRs⟩) hS (fun q _ h => hF q h) hF (fun r642 x641 t H locs ht hvm hw hB hz1 hk1 hS => ?_)
    have hW := Wd.back hB ht hF
    clear hB ht hF hz1 hk1 hvm
    refine lv_aload_n hx hb d_Mod_writeFront_60 rfl (lv_at hl 0 rfl) ?_
    refine lv_iload_n hx hb d_Mod_writeFront_61 rfl (lv_at hl 1 rfl) ?_
    have hF := hW.free hS hA
    refine va_calli (va_runV (C := R_Mod) (As := [.int l1]) (rest := [.int r642, .int l1, .ref (ad 43)]) ⟨hx, hb, hml, hown, hT⟩ (k_Mod_inCommon l dC dI cI cB cJ cZ ad H.size l1 x641  hw) ⟨callB_of 1 hT (gwt_in w_12_15) rfl rfl rfl (hT _ w_1_15) (hT _ w_12_12) (by decide +kernel) ⟨Nat.le_trans (Nat.le_of_ble_eq_true rfl) hRf, Nat.le_trans (Nat.le_of_ble_eq_true rfl) hRl⟩, hT _ w_12_14, hT _ ws_166⟩ ⟨PW.blind, va_recv hK hW.1 (ci := 12) (q0 := 0) rfl (pic_obj ko_0.1 ko_0.2 (by decide)), PW.at _ hW hK hN⟩ rfl rfl hl.1 rfl (lv_room (Nat.le_of_ble_eq_true rfl)) d_Mod_writeFront_62 ⟨hRc, hRs⟩) hS (fun q _ h => hF q h) hF (fun r644 x643 t H locs ht hvm hw hB hz1 hk1 hS => ?_)
    have hW := Wd.back hB ht hF
    clear hB ht hF hz1 hk1 hvm
    refine lv_isub hx hb d_Mod_writeFront_65 ?_
    refine lv_i2l hx hb d_Mod_writeFront_66 rfl ?_
    obtain ⟨hi, hw⟩ := hw
    refine w_last (o := 43) hx hb hK hW hS ko_43.1 ko_43.2 hi d_Mod_writeFront_67 (fun H locs hW hS => ?_)
    obtain ⟨x645, ex645⟩ : ∃ y : St, y = setL x643 43 l1 ((r642 - r644) : Int32).toInt64 := ⟨_, rfl⟩
    rw [← ex645] at hW
    have hw := hw x645 ex645
    refine lv_iinc (v := (l1 + 1)) (lv' := [(1, .int (l1 + 1)), (0, .ref (ad 0))]) hx hb d_Mod_writeFront_68 hl (k := 1) rfl rfl (by decide) rfl (fun ls hl => ?_)
    refine lv_goto (tgt := 42) hx hb d_Mod_writeFront_71 (by decide) ?_
    exact hrec42 (l1 + 1) x645 H locs ls  hw hW hS (lv_sub hl [1, 0] rfl)
set_option maxHeartbeats 4000000 in
set_option maxRecDepth 100000 in
theorem tl_Mod_writeFront_42 {p : Program} {l : Launch} {e : Env} {R : Room} {s : State} {m : MethodId} {args : Array Value} {below : List Frame} {meth : Method} {c : Code} {cells slots : Nat} {Q : State → Prop} {dC : Nat → ClassId} {dI : Nat → Nat → Nat} {cI cB cJ cZ : ClassId} {A : Nat → Prop} {ad : Nat → Nat} {post : St → Prop} (hx : p.tables.exec = Jvm.exec) (hb : c.code = b_Mod_writeFront) (hml : c.maxLocals = 3) (hown : s.vm.findClass R_Mod = some m.cls) (hT : ∀ w ∈ TG, w.before args s = true) (hK : va_K (dC, dI) CL (TY cI cB cJ cZ) s) (hN : NW s) (hA : ∀ q : Nat, s.heap.size ≤ q → A q) (hRc : cells ≤ R.cells) (hRs : slots ≤ R.slots) (hRf : 4 ≤ R.frames) (hRl : 97 ≤ R.locals) (hret : ∀ (x : St) (H : Heap) (locs : List Loc) (pc : Nat) (ls : Array Slot), decode b_Mod_writeFront pc = .ok (.return_, 1) → post x → Wd dC dI cI cB cJ cZ ad stM kcM 115 A x H → va_S A s.heap H locs → W p l e R s m args below meth c H locs cells slots Q (F0 m pc ls []))  : ∀ n : Nat, ∀ (l1 : Int32) (x : St) (H : Heap) (locs : List Loc) (ls : Array Slot), wl_Mod_writeFront_42 post n l1 x → Wd dC dI cI cB cJ cZ ad stM kcM 115 A x H → va_S A s.heap H locs → lv_has ls 3 [(0, .ref (ad 0)), (1, .int l1)] → W p l e R s m args below meth c H locs cells slots Q (F0 m 42 ls []) := by
  intro n
  induction n with
  | zero => intro l1 x H locs ls  hw; exact hw.elim
  | succ n ih => intro l1 x H locs ls  hw hW hS hl; exact t_Mod_writeFront_42 hx hb hml hown hT hK hN hA hRc hRs hRf hRl hret  ih l1 x H locs ls  hw hW hS hl
set_option maxRecDepth 100000 in
set_option maxHeartbeats 4000000 in
set_option maxRecDepth 100000 in
theorem t_Mod_writeFront_10 {p : Program} {l : Launch} {e : Env} {R : Room} {s : State} {m : MethodId} {args : Array Value} {below : List Frame} {meth : Method} {c : Code} {cells slots : Nat} {Q : State → Prop} {dC : Nat → ClassId} {dI : Nat → Nat → Nat} {cI cB cJ cZ : ClassId} {A : Nat → Prop} {ad : Nat → Nat} {post : St → Prop} {rec10 : Int32 → St → Prop} (hx : p.tables.exec = Jvm.exec) (hb : c.code = b_Mod_writeFront) (hml : c.maxLocals = 3) (hown : s.vm.findClass R_Mod = some m.cls) (hT : ∀ w ∈ TG, w.before args s = true) (hK : va_K (dC, dI) CL (TY cI cB cJ cZ) s) (hN : NW s) (hA : ∀ q : Nat, s.heap.size ≤ q → A q) (hRc : cells ≤ R.cells) (hRs : slots ≤ R.slots) (hRf : 4 ≤ R.frames) (hRl : 97 ≤ R.locals) (hret : ∀ (x : St) (H : Heap) (locs : List Loc) (pc : Nat) (ls : Array Slot), decode b_Mod_writeFront pc = .ok (.return_, 1) → post x → Wd dC dI cI cB cJ cZ ad stM kcM 115 A x H → va_S A s.heap H locs → W p l e R s m args below meth c H locs cells slots Q (F0 m pc ls [])) (hrec10 : ∀ (l1 : Int32) (x : St) (H : Heap) (locs : List Loc) (ls : Array Slot), rec10 l1 x → Wd dC dI cI cB cJ cZ ad stM kcM 115 A x H → va_S A s.heap H locs → lv_has ls 3 [(0, .ref (ad 0)), (1, .int l1)] → W p l e R s m args below meth c H locs cells slots Q (F0 m 10 ls [])) : ∀ (l1 : Int32) (x : St) (H : Heap) (locs : List Loc) (ls : Array Slot), j_Mod_writeFront_10 post rec10 l1 x → Wd dC dI cI cB cJ cZ ad stM kcM 115 A x H → va_S A s.heap H locs → lv_has ls 3 [(0, .ref (ad 0)), (1, .int l1)] → W p l e R s m args below meth c H locs cells slots Q (F0 m 10 ls []) := by
  intro l1 x H locs ls  hw hW hS hl
  unfold j_Mod_writeFront_10 at hw
  refine lv_iload_n hx hb d_Mod_writeFront_10 rfl (lv_at hl 1 rfl) ?_
  refine lv_aload_n hx hb d_Mod_writeFront_11 rfl (lv_at hl 0 rfl) ?_
  refine w_geti (k := 42) (t := 12) (C := R_Mod) (T := F_Mod) (N := 167) hx hb hT hown hK hW ko_0.1 ko_0.2 (by decide) in_Mod rfl rfl (by decide) rfl fr_Mod_42 w_8_218 d_Mod_writeFront_12 ?_
  refine lv_icmp_ge (tgt := 36) hx hb d_Mod_writeFront_15 (by decide) (fun c646 => ?_) (fun c646 => ?_)
  · have hw := hw.1 c646
    refine lv_aload_n hx hb d_Mod_writeFront_36 rfl (lv_at hl 0 rfl) ?_
    have hF := hW.free hS hA
    refine va_callv (va_runV (C := R_Mod) (As := []) (rest := []) ⟨hx, hb, hml, hown, hT⟩ (k_Mod_writeCode l dC dI cI cB cJ cZ ad H.size  x  hw) ⟨callB_of 0 hT (gwt_in w_12_7) rfl rfl rfl (hT _ w_1_15) (hT _ w_12_4) (by decide +kernel) ⟨Nat.le_trans (Nat.le_of_ble_eq_true rfl) hRf, Nat.le_trans (Nat.le_of_ble_eq_true rfl) hRl⟩, hT _ w_12_6, hT _ ws_164⟩ ⟨PW.blind, va_recv hK hW.1 (ci := 12) (q0 := 0) rfl (pic_obj ko_0.1 ko_0.2 (by decide)), PW.at _ hW hK hN⟩ rfl rfl hl.1 rfl (lv_room (Nat.le_of_ble_eq_true rfl)) d_Mod_writeFront_37 ⟨hRc, hRs⟩) hS (fun q _ h => hF q h) hF (fun  x647 t H locs ht hvm hw hB hz1 hk1 hS => ?_)
    have hW := Wd.back hB ht hF
    clear hB ht hF hz1 hk1 hvm
    refine lv_iconst (v := 0) hx hb d_Mod_writeFront_40 (by decide) ?_
    refine lv_istore_n (lv' := [(1, .int 0), (0, .ref (ad 0))]) hx hb d_Mod_writeFront_41 rfl hl (by decide) rfl (fun ls hl => ?_)
    obtain ⟨n, hw⟩ := hw
    exact tl_Mod_writeFront_42 hx hb hml hown hT hK hN hA hRc hRs hRf hRl hret  n 0 x647 H locs ls  hw hW hS (lv_sub hl [1, 0] rfl)
  · have hw := hw.2 c646
    refine lv_aload_n hx hb d_Mod_writeFront_18 rfl (lv_at hl 0 rfl) ?_
    refine w_getf (q := 43) (k := 70) (t := 12) (C := R_Mod) (T := F_Mod) (N := 167) hx hb hT hown hK hW ko_0.1 ko_0.2 (by decide) in_Mod rfl rfl (by decide) rfl fr_Mod_70 w_9_6 d_Mod_writeFront_19 rfl ?_
    refine lv_iload_n hx hb d_Mod_writeFront_22 rfl (lv_at hl 1 rfl) ?_
    refine lv_aload_n hx hb d_Mod_writeFront_23 rfl (lv_at hl 0 rfl) ?_
    refine lv_iload_n hx hb d_Mod_writeFront_24 rfl (lv_at hl 1 rfl) ?_
    have hF := hW.free hS hA
    refine va_calli (va_runV (C := R_Mod) (As := [.int l1]) (rest := [.int l1, .ref (ad 43)]) ⟨hx, hb, hml, hown, hT⟩ (k_Mod_inCommon l dC dI cI cB cJ cZ ad H.size l1 x  hw) ⟨callB_of 1 hT (gwt_in w_12_15) rfl rfl rfl (hT _ w_1_15) (hT _ w_12_12) (by decide +kernel) ⟨Nat.le_trans (Nat.le_of_ble_eq_true rfl) hRf, Nat.le_trans (Nat.le_of_ble_eq_true rfl) hRl⟩, hT _ w_12_14, hT _ ws_166⟩ ⟨PW.blind, va_recv hK hW.1 (ci := 12) (q0 := 0) rfl (pic_obj ko_0.1 ko_0.2 (by decide)), PW.at _ hW hK hN⟩ rfl rfl hl.1 rfl (lv_room (Nat.le_of_ble_eq_true rfl)) d_Mod_writeFront_25 ⟨hRc, hRs⟩) hS (fun q _ h => hF q h) hF (fun r649 x648 t H locs ht hvm hw hB hz1 hk1 hS => ?_)
    have hW := Wd.back hB ht hF
    clear hB ht hF hz1 hk1 hvm
    refine lv_i2l hx hb d_Mod_writeFront_28 rfl ?_
    obtain ⟨hi, hw⟩ := hw
    refine w_last (o := 43) hx hb hK hW hS ko_43.1 ko_43.2 hi d_Mod_writeFront_29 (fun H locs hW hS => ?_)
    obtain ⟨x650, ex650⟩ : ∃ y : St, y = setL x648 43 l1 (r649 : Int32).toInt64 := ⟨_, rfl⟩
    rw [← ex650] at hW
    have hw := hw x650 ex650
    refine lv_iinc (v := (l1 + 1)) (lv' := [(1, .int (l1 + 1)), (0, .ref (ad 0))]) hx hb d_Mod_writeFront_30 hl (k := 1) rfl rfl (by decide) rfl (fun ls hl => ?_)
    refine lv_goto (tgt := 10) hx hb d_Mod_writeFront_33 (by decide) ?_
    exact hrec10 (l1 + 1) x650 H locs ls  hw hW hS (lv_sub hl [1, 0] rfl)
set_option maxHeartbeats 4000000 in
set_option maxRecDepth 100000 in
theorem tl_Mod_writeFront_10 {p : Program} {l : Launch} {e : Env} {R : Room} {s : State} {m : MethodId} {args : Array Value} {below : List Frame} {meth : Method} {c : Code} {cells slots : Nat} {Q : State → Prop} {dC : Nat → ClassId} {dI : Nat → Nat → Nat} {cI cB cJ cZ : ClassId} {A : Nat → Prop} {ad : Nat → Nat} {post : St → Prop} (hx : p.tables.exec = Jvm.exec) (hb : c.code = b_Mod_writeFront) (hml : c.maxLocals = 3) (hown : s.vm.findClass R_Mod = some m.cls) (hT : ∀ w ∈ TG, w.before args s = true) (hK : va_K (dC, dI) CL (TY cI cB cJ cZ) s) (hN : NW s) (hA : ∀ q : Nat, s.heap.size ≤ q → A q) (hRc : cells ≤ R.cells) (hRs : slots ≤ R.slots) (hRf : 4 ≤ R.frames) (hRl : 97 ≤ R.locals) (hret : ∀ (x : St) (H : Heap) (locs : List Loc) (pc : Nat) (ls : Array Slot), decode b_Mod_writeFront pc = .ok (.return_, 1) → post x → Wd dC dI cI cB cJ cZ ad stM kcM 115 A x H → va_S A s.heap H locs → W p l e R s m args below meth c H locs cells slots Q (F0 m pc ls []))  : ∀ n : Nat, ∀ (l1 : Int32) (x : St) (H : Heap) (locs : List Loc) (ls : Array Slot), wl_Mod_writeFront_10 post n l1 x → Wd dC dI cI cB cJ cZ ad stM kcM 115 A x H → va_S A s.heap H locs → lv_has ls 3 [(0, .ref (ad 0)), (1, .int l1)] → W p l e R s m args below meth c H locs cells slots Q (F0 m 10 ls []) := by
  intro n
  induction n with
  | zero => intro l1 x H locs ls  hw; exact hw.elim
  | succ n ih => intro l1 x H locs ls  hw hW hS hl; exact t_Mod_writeFront_10 hx hb hml hown hT hK hN hA hRc hRs hRf hRl hret  ih l1 x H locs ls  hw hW hS hl
set_option maxRecDepth 100000 in
set_option maxHeartbeats 4000000 in
set_option maxRecDepth 100000 in
theorem t_Mod_writeFront_e {p : Program} {l : Launch} {e : Env} {R : Room} {s : State} {m : MethodId} {args : Array Value} {below : List Frame} {meth : Method} {c : Code} {cells slots : Nat} {Q : State → Prop} {dC : Nat → ClassId} {dI : Nat → Nat → Nat} {cI cB cJ cZ : ClassId} {A : Nat → Prop} {ad : Nat → Nat} {post : St → Prop} (hx : p.tables.exec = Jvm.exec) (hb : c.code = b_Mod_writeFront) (hml : c.maxLocals = 3) (hown : s.vm.findClass R_Mod = some m.cls) (hT : ∀ w ∈ TG, w.before args s = true) (hK : va_K (dC, dI) CL (TY cI cB cJ cZ) s) (hN : NW s) (hA : ∀ q : Nat, s.heap.size ≤ q → A q) (hRc : cells ≤ R.cells) (hRs : slots ≤ R.slots) (hRf : 4 ≤ R.frames) (hRl : 97 ≤ R.locals) (hret : ∀ (x : St) (H : Heap) (locs : List Loc) (pc : Nat) (ls : Array Slot), decode b_Mod_writeFront pc = .ok (.return_, 1) → post x → Wd dC dI cI cB cJ cZ ad stM kcM 115 A x H → va_S A s.heap H locs → W p l e R s m args below meth c H locs cells slots Q (F0 m pc ls [])) : ∀  (x : St) (H : Heap) (locs : List Loc) (ls : Array Slot), wp_Mod_writeFront post  x → Wd dC dI cI cB cJ cZ ad stM kcM 115 A x H → va_S A s.heap H locs → lv_has ls 3 [(0, .ref (ad 0))] → W p l e R s m args below meth c H locs cells slots Q (F0 m 0 ls []) := by
  intro  x H locs ls  hw hW hS hl
  unfold wp_Mod_writeFront at hw
  refine lv_aload_n hx hb d_Mod_writeFront_0 rfl (lv_at hl 0 rfl) ?_
  refine lv_aload_n hx hb d_Mod_writeFront_1 rfl (lv_at hl 0 rfl) ?_
  refine w_geti (k := 42) (t := 12) (C := R_Mod) (T := F_Mod) (N := 167) hx hb hT hown hK hW ko_0.1 ko_0.2 (by decide) in_Mod rfl rfl (by decide) rfl fr_Mod_42 w_8_218 d_Mod_writeFront_2 ?_
  refine w_puti (ty := .int) (k := 71) (t := 12) (C := R_Mod) (T := F_Mod) (N := 167) hx hb hT hown hK hW hS ko_0.1 ko_0.2 (by decide) in_Mod t_Mod t_Mod_ok n_Mod rfl rfl (by decide) rfl fr_Mod_71 w_9_7 (by decide +kernel) rfl rfl d_Mod_writeFront_5 (fun H locs hW hS => ?_)
  obtain ⟨x651, ex651⟩ : ∃ y : St, y = setI x 0 71 (fI x 0 42) := ⟨_, rfl⟩
  rw [← ex651] at hW
  have hw := hw x651 ex651
  refine lv_iconst (v := 0) hx hb d_Mod_writeFront_8 (by decide) ?_
  refine lv_istore_n (lv' := [(1, .int 0), (0, .ref (ad 0))]) hx hb d_Mod_writeFront_9 rfl hl (by decide) rfl (fun ls hl => ?_)
  obtain ⟨n, hw⟩ := hw
  exact tl_Mod_writeFront_10 hx hb hml hown hT hK hN hA hRc hRs hRf hRl hret  n 0 x651 H locs ls  hw hW hS (lv_sub hl [1, 0] rfl)
set_option maxHeartbeats 4000000 in
set_option maxRecDepth 100000 in
theorem k_Mod_writeFront (l : Launch) (dC : Nat → ClassId) (dI : Nat → Nat → Nat) (cI cB cJ cZ : ClassId) (ad : Nat → Nat) (sz : Nat)  (x : St) {post : St → Prop} (hw : wp_Mod_writeFront post  x) : Met l y_Mod_writeFront (wsOf y_Mod_writeFront b_Mod_writeFront 3 (none)) ({ frames := 4, cells := 0, slots := 0, locals := 97 }) (va_Pc [.ref (ad 0)] (PW dC dI cI cB cJ cZ ad stM kcM 115 sz x)) (va_Qv (fun (y : St) => post y) (fun y t => Wd dC dI cI cB cJ cZ ad stM kcM 115 (va_A (pic ad stM kcM 115 cI cB cJ cZ x) sz) y t.heap) (va_A (pic ad stM kcM 115 cI cB cJ cZ x) sz)) 0 0 (va_A (pic ad stM kcM 115 cI cB cJ cZ x) sz) := by
  refine Met.ofW (cc := b_Mod_writeFront) (maxL := 3) (ret := none) (by decide) rfl ?_
  intro p e s m args below meth c s₁ B hml hv
  obtain ⟨rfl, hsz, hW0, hK, hN⟩ := hv
  have hx := B.exec
  have hb := B.bytes
  have hr := B.returns
  have hts := atoms_spec B.pre
  have hT : ∀ w ∈ TG, w.before _ s = true := fun w h => hts w (List.mem_cons_of_mem _ h)
  have hown : s.vm.findClass R_Mod = some m.cls := findClass_of_methodNamed B.named
  have hlocks := B.notSynchronized
  subst hsz
  have hW : Wd dC dI cI cB cJ cZ ad stM kcM 115 (va_A (pic ad stM kcM 115 cI cB cJ cZ x) s.heap.size) x s.heap := ⟨hW0.1, hW0.2.1.self (sz := s.heap.size), hW0.2.2⟩
  generalize hAe : va_A (pic ad stM kcM 115 cI cB cJ cZ x) s.heap.size = A at hW ⊢
  have hA : ∀ q : Nat, s.heap.size ≤ q → A q := fun q h => by rw [← hAe]; exact Or.inr h
  have hS : va_S A s.heap s.heap [] := va_S.rf
  have hl := lv_entry ([.ref (ad 0)]) (n := 3) (Nat.le_of_ble_eq_true rfl)
  rw [lg_entry_eq]
  generalize (lg_sl ([.ref (ad 0)]) ++ List.replicate (3 - (lg_sl ([.ref (ad 0)])).length) Slot.unset).toArray = ls at hl ⊢
  have hl : lv_has ls 3 [(0, .ref (ad 0))] := hl
  exact t_Mod_writeFront_e hx hb hml hown hT hK hN hA (Nat.le_refl 0) (Nat.le_refl 0) (Nat.le_refl 4) (Nat.le_refl 97) (fun x H locs pc ls hd hp hW hS => W.vret hx hb hr (fun t ht hM => ⟨⟨x, rfl, hp, Wd.back hW ht.symm (fun _ z => z)⟩, hS.F ht⟩) hS.2.2 hd hlocks)   x _ _ ls  hw hW hS hl
set_option maxRecDepth 100000 in
set_option maxHeartbeats 4000000 in
set_option maxRecDepth 100000 in
theorem t_Mod_sameText_79 {p : Program} {l : Launch} {e : Env} {R : Room} {s : State} {m : MethodId} {args : Array Value} {below : List Frame} {meth : Method} {c : Code} {cells slots : Nat} {Q : State → Prop} {dC : Nat → ClassId} {dI : Nat → Nat → Nat} {cI cB cJ cZ : ClassId} {A : Nat → Prop} {ad : Nat → Nat} {post : Int32 → St → Prop} (hx : p.tables.exec = Jvm.exec) (hb : c.code = b_Mod_sameText) (hml : c.maxLocals = 5) (hown : s.vm.findClass R_Mod = some m.cls) (hT : ∀ w ∈ TG, w.before args s = true) (hK : va_K (dC, dI) CL (TY cI cB cJ cZ) s) (hN : NW s) (hA : ∀ q : Nat, s.heap.size ≤ q → A q) (hRc : cells ≤ R.cells) (hRs : slots ≤ R.slots) (hRf : 1 ≤ R.frames) (hRl : 21 ≤ R.locals) (hret : ∀ (r : Int32) (x : St) (H : Heap) (locs : List Loc) (pc : Nat) (ls : Array Slot), decode b_Mod_sameText pc = .ok (.ireturn, 1) → narrow .boolean (.int r) = .int r → post r x → Wd dC dI cI cB cJ cZ ad stM kcM 115 A x H → va_S A s.heap H locs → W p l e R s m args below meth c H locs cells slots Q (F0 m pc ls [.int r]))  : ∀ (l1 : Int32) (l2 : Int32) (l3 : Int32) (l4 : Int32) (x : St) (H : Heap) (locs : List Loc) (ls : Array Slot), j_Mod_sameText_79 post l1 l2 l3 l4 x → Wd dC dI cI cB cJ cZ ad stM kcM 115 A x H → va_S A s.heap H locs → lv_has ls 5 [(0, .ref (ad 0)), (1, .int l1), (2, .int l2), (3, .int l3), (4, .int l4)] → W p l e R s m args below meth c H locs cells slots Q (F0 m 79 ls []) := by
  intro l1 l2 l3 l4 x H locs ls  hw hW hS hl
  unfold j_Mod_sameText_79 at hw
  refine lv_iload_n hx hb d_Mod_sameText_79 rfl (lv_at hl 3 rfl) ?_
  exact hret l3 x H locs 80 ls d_Mod_sameText_80 hw.1 hw.2 hW hS
set_option maxRecDepth 100000 in
set_option maxHeartbeats 4000000 in
set_option maxRecDepth 100000 in
theorem t_Mod_sameText_72 {p : Program} {l : Launch} {e : Env} {R : Room} {s : State} {m : MethodId} {args : Array Value} {below : List Frame} {meth : Method} {c : Code} {cells slots : Nat} {Q : State → Prop} {dC : Nat → ClassId} {dI : Nat → Nat → Nat} {cI cB cJ cZ : ClassId} {A : Nat → Prop} {ad : Nat → Nat} {post : Int32 → St → Prop} {rec22 : Int32 → Int32 → Int32 → Int32 → St → Prop} (hx : p.tables.exec = Jvm.exec) (hb : c.code = b_Mod_sameText) (hml : c.maxLocals = 5) (hown : s.vm.findClass R_Mod = some m.cls) (hT : ∀ w ∈ TG, w.before args s = true) (hK : va_K (dC, dI) CL (TY cI cB cJ cZ) s) (hN : NW s) (hA : ∀ q : Nat, s.heap.size ≤ q → A q) (hRc : cells ≤ R.cells) (hRs : slots ≤ R.slots) (hRf : 1 ≤ R.frames) (hRl : 21 ≤ R.locals) (hret : ∀ (r : Int32) (x : St) (H : Heap) (locs : List Loc) (pc : Nat) (ls : Array Slot), decode b_Mod_sameText pc = .ok (.ireturn, 1) → narrow .boolean (.int r) = .int r → post r x → Wd dC dI cI cB cJ cZ ad stM kcM 115 A x H → va_S A s.heap H locs → W p l e R s m args below meth c H locs cells slots Q (F0 m pc ls [.int r])) (hrec22 : ∀ (l1 : Int32) (l2 : Int32) (l3 : Int32) (l4 : Int32) (x : St) (H : Heap) (locs : List Loc) (ls : Array Slot), rec22 l1 l2 l3 l4 x → Wd dC dI cI cB cJ cZ ad stM kcM 115 A x H → va_S A s.heap H locs → lv_has ls 5 [(0, .ref (ad 0)), (1, .int l1), (2, .int l2), (3, .int l3), (4, .int l4)] → W p l e R s m args below meth c H locs cells slots Q (F0 m 22 ls [])) : ∀ (l1 : Int32) (l2 : Int32) (l3 : Int32) (l4 : Int32) (s0 : Int32) (x : St) (H : Heap) (locs : List Loc) (ls : Array Slot), j_Mod_sameText_72 post rec22 l1 l2 l3 l4 s0 x → Wd dC dI cI cB cJ cZ ad stM kcM 115 A x H → va_S A s.heap H locs → lv_has ls 5 [(0, .ref (ad 0)), (1, .int l1), (2, .int l2), (3, .int l3), (4, .int l4)] → W p l e R s m args below meth c H locs cells slots Q (F0 m 72 ls [.int s0]) := by
  intro l1 l2 l3 l4 s0 x H locs ls  hw hW hS hl
  unfold j_Mod_sameText_72 at hw
  refine lv_istore_n (lv' := [(3, .int s0), (0, .ref (ad 0)), (1, .int l1), (2, .int l2), (4, .int l4)]) hx hb d_Mod_sameText_72 rfl hl (by decide) rfl (fun ls hl => ?_)
  refine lv_iinc (v := (l4 + 1)) (lv' := [(4, .int (l4 + 1)), (3, .int s0), (0, .ref (ad 0)), (1, .int l1), (2, .int l2)]) hx hb d_Mod_sameText_73 hl (k := 4) rfl rfl (by decide) rfl (fun ls hl => ?_)
  refine lv_goto (tgt := 22) hx hb d_Mod_sameText_76 (by decide) ?_
  exact hrec22 l1 l2 s0 (l4 + 1) x H locs ls  hw hW hS (lv_sub hl [2, 3, 4, 1, 0] rfl)
set_option maxRecDepth 100000 in
set_option maxHeartbeats 4000000 in
set_option maxRecDepth 100000 in
theorem t_Mod_sameText_22 {p : Program} {l : Launch} {e : Env} {R : Room} {s : State} {m : MethodId} {args : Array Value} {below : List Frame} {meth : Method} {c : Code} {cells slots : Nat} {Q : State → Prop} {dC : Nat → ClassId} {dI : Nat → Nat → Nat} {cI cB cJ cZ : ClassId} {A : Nat → Prop} {ad : Nat → Nat} {post : Int32 → St → Prop} {rec22 : Int32 → Int32 → Int32 → Int32 → St → Prop} (hx : p.tables.exec = Jvm.exec) (hb : c.code = b_Mod_sameText) (hml : c.maxLocals = 5) (hown : s.vm.findClass R_Mod = some m.cls) (hT : ∀ w ∈ TG, w.before args s = true) (hK : va_K (dC, dI) CL (TY cI cB cJ cZ) s) (hN : NW s) (hA : ∀ q : Nat, s.heap.size ≤ q → A q) (hRc : cells ≤ R.cells) (hRs : slots ≤ R.slots) (hRf : 1 ≤ R.frames) (hRl : 21 ≤ R.locals) (hret : ∀ (r : Int32) (x : St) (H : Heap) (locs : List Loc) (pc : Nat) (ls : Array Slot), decode b_Mod_sameText pc = .ok (.ireturn, 1) → narrow .boolean (.int r) = .int r → post r x → Wd dC dI cI cB cJ cZ ad stM kcM 115 A x H → va_S A s.heap H locs → W p l e R s m args below meth c H locs cells slots Q (F0 m pc ls [.int r])) (hrec22 : ∀ (l1 : Int32) (l2 : Int32) (l3 : Int32) (l4 : Int32) (x : St) (H : Heap) (locs : List Loc) (ls : Array Slot), rec22 l1 l2 l3 l4 x → Wd dC dI cI cB cJ cZ ad stM kcM 115 A x H → va_S A s.heap H locs → lv_has ls 5 [(0, .ref (ad 0)), (1, .int l1), (2, .int l2), (3, .int l3), (4, .int l4)] → W p l e R s m args below meth c H locs cells slots Q (F0 m 22 ls [])) : ∀ (l1 : Int32) (l2 : Int32) (l3 : Int32) (l4 : Int32) (x : St) (H : Heap) (locs : List Loc) (ls : Array Slot), j_Mod_sameText_22 post rec22 l1 l2 l3 l4 x → Wd dC dI cI cB cJ cZ ad stM kcM 115 A x H → va_S A s.heap H locs → lv_has ls 5 [(0, .ref (ad 0)), (1, .int l1), (2, .int l2), (3, .int l3), (4, .int l4)] → W p l e R s m args below meth c H locs cells slots Q (F0 m 22 ls []) := by
  intro l1 l2 l3 l4 x H locs ls  hw hW hS hl
  unfold j_Mod_sameText_22 at hw
  refine lv_iload_n hx hb d_Mod_sameText_22 rfl (lv_at hl 3 rfl) ?_
  refine lv_if_eq (tgt := 79) hx hb d_Mod_sameText_23 (by decide) (fun c652 => ?_) (fun c652 => ?_)
  · have hw := hw.1 c652
    exact t_Mod_sameText_79 hx hb hml hown hT hK hN hA hRc hRs hRf hRl hret  l1 l2 l3 l4 x H locs ls  hw hW hS (lv_sub hl [0, 1, 2, 3, 4] rfl)
  · have hw := hw.2 c652
    refine lv_iload hx hb d_Mod_sameText_26 (lv_at hl 4 rfl) ?_
    refine lv_aload_n hx hb d_Mod_sameText_28 rfl (lv_at hl 0 rfl) ?_
    refine lv_iload_n hx hb d_Mod_sameText_29 rfl (lv_at hl 2 rfl) ?_
    have hF := hW.free hS hA
    refine va_calli (va_runV (C := R_Mod) (As := [.int l2]) (rest := [.int l4]) ⟨hx, hb, hml, hown, hT⟩ (k_Mod_lengthOf l dC dI cI cB cJ cZ ad H.size l2 x  hw) ⟨callB_of 1 hT (gwt_in w_12_3) rfl rfl rfl (hT _ w_1_15) (hT _ w_12_0) (by decide +kernel) ⟨Nat.le_trans (Nat.le_of_ble_eq_true rfl) hRf, Nat.le_trans (Nat.le_of_ble_eq_true rfl) hRl⟩, hT _ w_12_2, hT _ ws_163⟩ ⟨PW.blind, va_recv hK hW.1 (ci := 12) (q0 := 0) rfl (pic_obj ko_0.1 ko_0.2 (by decide)), PW.at _ hW hK hN⟩ rfl rfl hl.1 rfl (lv_room (Nat.le_of_ble_eq_true rfl)) d_Mod_sameText_30 ⟨hRc, hRs⟩) hS (fun q _ h => hF q h) hF (fun r654 x653 t H locs ht hvm hw hB hz1 hk1 hS => ?_)
    have hW := Wd.back hB ht hF
    clear hB ht hF hz1 hk1 hvm
    refine lv_icmp_ge (tgt := 79) hx hb d_Mod_sameText_33 (by decide) (fun c655 => ?_) (fun c655 => ?_)
    · have hw := hw.1 c655
      exact t_Mod_sameText_79 hx hb hml hown hT hK hN hA hRc hRs hRf hRl hret  l1 l2 l3 l4 x653 H locs ls  hw hW hS (lv_sub hl [0, 1, 2, 3, 4] rfl)
    · have hw := hw.2 c655
      refine lv_aload_n hx hb d_Mod_sameText_36 rfl (lv_at hl 0 rfl) ?_
      refine w_getf (q := 36) (k := 55) (t := 12) (C := R_Mod) (T := F_Mod) (N := 167) hx hb hT hown hK hW ko_0.1 ko_0.2 (by decide) in_Mod rfl rfl (by decide) rfl fr_Mod_55 w_8_231 d_Mod_sameText_37 rfl ?_
      refine lv_aload_n hx hb d_Mod_sameText_40 rfl (lv_at hl 0 rfl) ?_
      refine w_getf (q := 33) (k := 52) (t := 12) (C := R_Mod) (T := F_Mod) (N := 167) hx hb hT hown hK hW ko_0.1 ko_0.2 (by decide) in_Mod rfl rfl (by decide) rfl fr_Mod_52 w_8_228 d_Mod_sameText_41 rfl ?_
      refine lv_iload_n hx hb d_Mod_sameText_44 rfl (lv_at hl 1 rfl) ?_
      obtain ⟨hi, hw⟩ := hw
      refine w_iald (o := 33) hx hb hK hW ko_33.1 ko_33.2 hi d_Mod_sameText_45 ?_
      refine lv_iload hx hb d_Mod_sameText_46 (lv_at hl 4 rfl) ?_
      refine lv_iadd hx hb d_Mod_sameText_48 ?_
      obtain ⟨hi, hw⟩ := hw
      refine w_iald (o := 36) hx hb hK hW ko_36.1 ko_36.2 hi d_Mod_sameText_49 ?_
      refine lv_aload_n hx hb d_Mod_sameText_50 rfl (lv_at hl 0 rfl) ?_
      refine w_getf (q := 36) (k := 55) (t := 12) (C := R_Mod) (T := F_Mod) (N := 167) hx hb hT hown hK hW ko_0.1 ko_0.2 (by decide) in_Mod rfl rfl (by decide) rfl fr_Mod_55 w_8_231 d_Mod_sameText_51 rfl ?_
      refine lv_aload_n hx hb d_Mod_sameText_54 rfl (lv_at hl 0 rfl) ?_
      refine w_getf (q := 33) (k := 52) (t := 12) (C := R_Mod) (T := F_Mod) (N := 167) hx hb hT hown hK hW ko_0.1 ko_0.2 (by decide) in_Mod rfl rfl (by decide) rfl fr_Mod_52 w_8_228 d_Mod_sameText_55 rfl ?_
      refine lv_iload_n hx hb d_Mod_sameText_58 rfl (lv_at hl 2 rfl) ?_
      obtain ⟨hi, hw⟩ := hw
      refine w_iald (o := 33) hx hb hK hW ko_33.1 ko_33.2 hi d_Mod_sameText_59 ?_
      refine lv_iload hx hb d_Mod_sameText_60 (lv_at hl 4 rfl) ?_
      refine lv_iadd hx hb d_Mod_sameText_62 ?_
      obtain ⟨hi, hw⟩ := hw
      refine w_iald (o := 36) hx hb hK hW ko_36.1 ko_36.2 hi d_Mod_sameText_63 ?_
      refine lv_icmp_ne (tgt := 71) hx hb d_Mod_sameText_64 (by decide) (fun c656 => ?_) (fun c656 => ?_)
      · have hw := hw.1 c656
        refine lv_iconst (v := 0) hx hb d_Mod_sameText_71 (by decide) ?_
        exact t_Mod_sameText_72 hx hb hml hown hT hK hN hA hRc hRs hRf hRl hret hrec22 l1 l2 l3 l4 0 x653 H locs ls  hw hW hS (lv_sub hl [0, 1, 2, 3, 4] rfl)
      · have hw := hw.2 c656
        refine lv_iconst (v := 1) hx hb d_Mod_sameText_67 (by decide) ?_
        refine lv_goto (tgt := 72) hx hb d_Mod_sameText_68 (by decide) ?_
        exact t_Mod_sameText_72 hx hb hml hown hT hK hN hA hRc hRs hRf hRl hret hrec22 l1 l2 l3 l4 1 x653 H locs ls  hw hW hS (lv_sub hl [0, 1, 2, 3, 4] rfl)
set_option maxHeartbeats 4000000 in
set_option maxRecDepth 100000 in
theorem tl_Mod_sameText_22 {p : Program} {l : Launch} {e : Env} {R : Room} {s : State} {m : MethodId} {args : Array Value} {below : List Frame} {meth : Method} {c : Code} {cells slots : Nat} {Q : State → Prop} {dC : Nat → ClassId} {dI : Nat → Nat → Nat} {cI cB cJ cZ : ClassId} {A : Nat → Prop} {ad : Nat → Nat} {post : Int32 → St → Prop} (hx : p.tables.exec = Jvm.exec) (hb : c.code = b_Mod_sameText) (hml : c.maxLocals = 5) (hown : s.vm.findClass R_Mod = some m.cls) (hT : ∀ w ∈ TG, w.before args s = true) (hK : va_K (dC, dI) CL (TY cI cB cJ cZ) s) (hN : NW s) (hA : ∀ q : Nat, s.heap.size ≤ q → A q) (hRc : cells ≤ R.cells) (hRs : slots ≤ R.slots) (hRf : 1 ≤ R.frames) (hRl : 21 ≤ R.locals) (hret : ∀ (r : Int32) (x : St) (H : Heap) (locs : List Loc) (pc : Nat) (ls : Array Slot), decode b_Mod_sameText pc = .ok (.ireturn, 1) → narrow .boolean (.int r) = .int r → post r x → Wd dC dI cI cB cJ cZ ad stM kcM 115 A x H → va_S A s.heap H locs → W p l e R s m args below meth c H locs cells slots Q (F0 m pc ls [.int r]))  : ∀ n : Nat, ∀ (l1 : Int32) (l2 : Int32) (l3 : Int32) (l4 : Int32) (x : St) (H : Heap) (locs : List Loc) (ls : Array Slot), wl_Mod_sameText_22 post n l1 l2 l3 l4 x → Wd dC dI cI cB cJ cZ ad stM kcM 115 A x H → va_S A s.heap H locs → lv_has ls 5 [(0, .ref (ad 0)), (1, .int l1), (2, .int l2), (3, .int l3), (4, .int l4)] → W p l e R s m args below meth c H locs cells slots Q (F0 m 22 ls []) := by
  intro n
  induction n with
  | zero => intro l1 l2 l3 l4 x H locs ls  hw; exact hw.elim
  | succ n ih => intro l1 l2 l3 l4 x H locs ls  hw hW hS hl; exact t_Mod_sameText_22 hx hb hml hown hT hK hN hA hRc hRs hRf hRl hret  ih l1 l2 l3 l4 x H locs ls  hw hW hS hl
set_option maxRecDepth 100000 in
set_option maxHeartbeats 4000000 in
set_option maxRecDepth 100000 in
theorem t_Mod_sameText_18 {p : Program} {l : Launch} {e : Env} {R : Room} {s : State} {m : MethodId} {args : Array Value} {below : List Frame} {meth : Method} {c : Code} {cells slots : Nat} {Q : State → Prop} {dC : Nat → ClassId} {dI : Nat → Nat → Nat} {cI cB cJ cZ : ClassId} {A : Nat → Prop} {ad : Nat → Nat} {post : Int32 → St → Prop} (hx : p.tables.exec = Jvm.exec) (hb : c.code = b_Mod_sameText) (hml : c.maxLocals = 5) (hown : s.vm.findClass R_Mod = some m.cls) (hT : ∀ w ∈ TG, w.before args s = true) (hK : va_K (dC, dI) CL (TY cI cB cJ cZ) s) (hN : NW s) (hA : ∀ q : Nat, s.heap.size ≤ q → A q) (hRc : cells ≤ R.cells) (hRs : slots ≤ R.slots) (hRf : 1 ≤ R.frames) (hRl : 21 ≤ R.locals) (hret : ∀ (r : Int32) (x : St) (H : Heap) (locs : List Loc) (pc : Nat) (ls : Array Slot), decode b_Mod_sameText pc = .ok (.ireturn, 1) → narrow .boolean (.int r) = .int r → post r x → Wd dC dI cI cB cJ cZ ad stM kcM 115 A x H → va_S A s.heap H locs → W p l e R s m args below meth c H locs cells slots Q (F0 m pc ls [.int r]))  : ∀ (l1 : Int32) (l2 : Int32) (s0 : Int32) (x : St) (H : Heap) (locs : List Loc) (ls : Array Slot), j_Mod_sameText_18 post l1 l2 s0 x → Wd dC dI cI cB cJ cZ ad stM kcM 115 A x H → va_S A s.heap H locs → lv_has ls 5 [(0, .ref (ad 0)), (1, .int l1), (2, .int l2)] → W p l e R s m args below meth c H locs cells slots Q (F0 m 18 ls [.int s0]) := by
  intro l1 l2 s0 x H locs ls  hw hW hS hl
  unfold j_Mod_sameText_18 at hw
  refine lv_istore_n (lv' := [(3, .int s0), (0, .ref (ad 0)), (1, .int l1), (2, .int l2)]) hx hb d_Mod_sameText_18 rfl hl (by decide) rfl (fun ls hl => ?_)
  refine lv_iconst (v := 0) hx hb d_Mod_sameText_19 (by decide) ?_
  refine lv_istore (lv' := [(4, .int 0), (3, .int s0), (0, .ref (ad 0)), (1, .int l1), (2, .int l2)]) hx hb d_Mod_sameText_20 hl (by decide) rfl (fun ls hl => ?_)
  obtain ⟨n, hw⟩ := hw
  exact tl_Mod_sameText_22 hx hb hml hown hT hK hN hA hRc hRs hRf hRl hret  n l1 l2 s0 0 x H locs ls  hw hW hS (lv_sub hl [2, 3, 4, 1, 0] rfl)
set_option maxRecDepth 100000 in
set_option maxHeartbeats 4000000 in
set_option maxRecDepth 100000 in
theorem t_Mod_sameText_e {p : Program} {l : Launch} {e : Env} {R : Room} {s : State} {m : MethodId} {args : Array Value} {below : List Frame} {meth : Method} {c : Code} {cells slots : Nat} {Q : State → Prop} {dC : Nat → ClassId} {dI : Nat → Nat → Nat} {cI cB cJ cZ : ClassId} {A : Nat → Prop} {ad : Nat → Nat} {post : Int32 → St → Prop} (hx : p.tables.exec = Jvm.exec) (hb : c.code = b_Mod_sameText) (hml : c.maxLocals = 5) (hown : s.vm.findClass R_Mod = some m.cls) (hT : ∀ w ∈ TG, w.before args s = true) (hK : va_K (dC, dI) CL (TY cI cB cJ cZ) s) (hN : NW s) (hA : ∀ q : Nat, s.heap.size ≤ q → A q) (hRc : cells ≤ R.cells) (hRs : slots ≤ R.slots) (hRf : 1 ≤ R.frames) (hRl : 21 ≤ R.locals) (hret : ∀ (r : Int32) (x : St) (H : Heap) (locs : List Loc) (pc : Nat) (ls : Array Slot), decode b_Mod_sameText pc = .ok (.ireturn, 1) → narrow .boolean (.int r) = .int r → post r x → Wd dC dI cI cB cJ cZ ad stM kcM 115 A x H → va_S A s.heap H locs → W p l e R s m args below meth c H locs cells slots Q (F0 m pc ls [.int r])) : ∀ (l1 : Int32) (l2 : Int32) (x : St) (H : Heap) (locs : List Loc) (ls : Array Slot), wp_Mod_sameText post l1 l2 x → Wd dC dI cI cB cJ cZ ad stM kcM 115 A x H → va_S A s.heap H locs → lv_has ls 5 [(0, .ref (ad 0)), (1, .int l1), (2, .int l2)] → W p l e R s m args below meth c H locs cells slots Q (F0 m 0 ls []) := by
  intro l1 l2 x H locs ls  hw hW hS hl
  unfold wp_Mod_sameText at hw
  refine lv_aload_n hx hb d_Mod_sameText_0 rfl (lv_at hl 0 rfl) ?_
  refine lv_iload_n hx hb d_Mod_sameText_1 rfl (lv_at hl 1 rfl) ?_
  have hF := hW.free hS hA
  refine va_calli (va_runV (C := R_Mod) (As := [.int l1]) (rest := []) ⟨hx, hb, hml, hown, hT⟩ (k_Mod_lengthOf l dC dI cI cB cJ cZ ad H.size l1 x  hw) ⟨callB_of 1 hT (gwt_in w_12_3) rfl rfl rfl (hT _ w_1_15) (hT _ w_12_0) (by decide +kernel) ⟨Nat.le_trans (Nat.le_of_ble_eq_true rfl) hRf, Nat.le_trans (Nat.le_of_ble_eq_true rfl) hRl⟩, hT _ w_12_2, hT _ ws_163⟩ ⟨PW.blind, va_recv hK hW.1 (ci := 12) (q0 := 0) rfl (pic_obj ko_0.1 ko_0.2 (by decide)), PW.at _ hW hK hN⟩ rfl rfl hl.1 rfl (lv_room (Nat.le_of_ble_eq_true rfl)) d_Mod_sameText_2 ⟨hRc, hRs⟩) hS (fun q _ h => hF q h) hF (fun r658 x657 t H locs ht hvm hw hB hz1 hk1 hS => ?_)
  have hW := Wd.back hB ht hF
  clear hB ht hF hz1 hk1 hvm
  refine lv_aload_n hx hb d_Mod_sameText_5 rfl (lv_at hl 0 rfl) ?_
  refine lv_iload_n hx hb d_Mod_sameText_6 rfl (lv_at hl 2 rfl) ?_
  have hF := hW.free hS hA
  refine va_calli (va_runV (C := R_Mod) (As := [.int l2]) (rest := [.int r658]) ⟨hx, hb, hml, hown, hT⟩ (k_Mod_lengthOf l dC dI cI cB cJ cZ ad H.size l2 x657  hw) ⟨callB_of 1 hT (gwt_in w_12_3) rfl rfl rfl (hT _ w_1_15) (hT _ w_12_0) (by decide +kernel) ⟨Nat.le_trans (Nat.le_of_ble_eq_true rfl) hRf, Nat.le_trans (Nat.le_of_ble_eq_true rfl) hRl⟩, hT _ w_12_2, hT _ ws_163⟩ ⟨PW.blind, va_recv hK hW.1 (ci := 12) (q0 := 0) rfl (pic_obj ko_0.1 ko_0.2 (by decide)), PW.at _ hW hK hN⟩ rfl rfl hl.1 rfl (lv_room (Nat.le_of_ble_eq_true rfl)) d_Mod_sameText_7 ⟨hRc, hRs⟩) hS (fun q _ h => hF q h) hF (fun r660 x659 t H locs ht hvm hw hB hz1 hk1 hS => ?_)
  have hW := Wd.back hB ht hF
  clear hB ht hF hz1 hk1 hvm
  refine lv_icmp_ne (tgt := 17) hx hb d_Mod_sameText_10 (by decide) (fun c661 => ?_) (fun c661 => ?_)
  · have hw := hw.1 c661
    refine lv_iconst (v := 0) hx hb d_Mod_sameText_17 (by decide) ?_
    exact t_Mod_sameText_18 hx hb hml hown hT hK hN hA hRc hRs hRf hRl hret  l1 l2 0 x659 H locs ls  hw hW hS (lv_sub hl [0, 1, 2] rfl)
  · have hw := hw.2 c661
    refine lv_iconst (v := 1) hx hb d_Mod_sameText_13 (by decide) ?_
    refine lv_goto (tgt := 18) hx hb d_Mod_sameText_14 (by decide) ?_
    exact t_Mod_sameText_18 hx hb hml hown hT hK hN hA hRc hRs hRf hRl hret  l1 l2 1 x659 H locs ls  hw hW hS (lv_sub hl [0, 1, 2] rfl)
set_option maxHeartbeats 4000000 in
set_option maxRecDepth 100000 in
theorem k_Mod_sameText (l : Launch) (dC : Nat → ClassId) (dI : Nat → Nat → Nat) (cI cB cJ cZ : ClassId) (ad : Nat → Nat) (sz : Nat) (l1 : Int32) (l2 : Int32) (x : St) {post : Int32 → St → Prop} (hw : wp_Mod_sameText post l1 l2 x) : Met l y_Mod_sameText (wsOf y_Mod_sameText b_Mod_sameText 5 (some (.boolean))) ({ frames := 1, cells := 0, slots := 0, locals := 21 }) (va_Pc [.ref (ad 0), .int l1, .int l2] (PW dC dI cI cB cJ cZ ad stM kcM 115 sz x)) (va_Qi (fun (r : Int32) (y : St) => post r y) (fun y t => Wd dC dI cI cB cJ cZ ad stM kcM 115 (va_A (pic ad stM kcM 115 cI cB cJ cZ x) sz) y t.heap) (va_A (pic ad stM kcM 115 cI cB cJ cZ x) sz)) 0 0 (va_A (pic ad stM kcM 115 cI cB cJ cZ x) sz) := by
  refine Met.ofW (cc := b_Mod_sameText) (maxL := 5) (ret := some (.boolean)) (by decide) rfl ?_
  intro p e s m args below meth c s₁ B hml hv
  obtain ⟨rfl, hsz, hW0, hK, hN⟩ := hv
  have hx := B.exec
  have hb := B.bytes
  have hr := B.returns
  have hts := atoms_spec B.pre
  have hT : ∀ w ∈ TG, w.before _ s = true := fun w h => hts w (List.mem_cons_of_mem _ h)
  have hown : s.vm.findClass R_Mod = some m.cls := findClass_of_methodNamed B.named
  have hlocks := B.notSynchronized
  subst hsz
  have hW : Wd dC dI cI cB cJ cZ ad stM kcM 115 (va_A (pic ad stM kcM 115 cI cB cJ cZ x) s.heap.size) x s.heap := ⟨hW0.1, hW0.2.1.self (sz := s.heap.size), hW0.2.2⟩
  generalize hAe : va_A (pic ad stM kcM 115 cI cB cJ cZ x) s.heap.size = A at hW ⊢
  have hA : ∀ q : Nat, s.heap.size ≤ q → A q := fun q h => by rw [← hAe]; exact Or.inr h
  have hS : va_S A s.heap s.heap [] := va_S.rf
  have hl := lv_entry ([.ref (ad 0), .int l1, .int l2]) (n := 5) (Nat.le_of_ble_eq_true rfl)
  rw [lg_entry_eq]
  generalize (lg_sl ([.ref (ad 0), .int l1, .int l2]) ++ List.replicate (5 - (lg_sl ([.ref (ad 0), .int l1, .int l2])).length) Slot.unset).toArray = ls at hl ⊢
  have hl : lv_has ls 5 [(0, .ref (ad 0)), (1, .int l1), (2, .int l2)] := hl
  exact t_Mod_sameText_e hx hb hml hown hT hK hN hA (Nat.le_refl 0) (Nat.le_refl 0) (Nat.le_refl 1) (Nat.le_refl 21) (fun r x H locs pc ls hd hz hp hW hS => W.zret (v := r) (ty := .boolean) hx hb hr hz (fun t ht hM => ⟨⟨r, x, rfl, hp, Wd.back hW ht.symm (fun _ z => z)⟩, hS.F ht⟩) hS.2.2 hd hlocks)  l1 l2 x _ _ ls  hw hW hS hl
end
