theorem w_11_183 : (Jvm.Cond.methodLink "StripedVaultModel" (661 : Nat) ({ cls := "StripedVaultModel", name := "writeBools", desc := "(I)V" } : Jvm.MethodName)) ∈ TG := tw_11 183 (by decide +kernel) (by decide +kernel)
theorem w_11_185 : (Jvm.Cond.instanceMethod ({ cls := "StripedVaultModel", name := "writeBools", desc := "(I)V" } : Jvm.MethodName)) ∈ TG := tw_11 185 (by decide +kernel) (by decide +kernel)
theorem w_11_186 : (Jvm.Cond.code ({ cls := "StripedVaultModel", name := "writeBools", desc := "(I)V" } : Jvm.MethodName) prog_14_method_78_code (5 : Nat) (Option.none : Option Jvm.ClassFile.FieldType)) ∈ TG := tw_11 186 (by decide +kernel) (by decide +kernel)
theorem w_11_204 : (Jvm.Cond.methodLink "StripedVaultModel" (664 : Nat) ({ cls := "StripedVaultModel", name := "writeWholes", desc := "(I)V" } : Jvm.MethodName)) ∈ TG := tw_11 204 (by decide +kernel) (by decide +kernel)
theorem w_11_206 : (Jvm.Cond.instanceMethod ({ cls := "StripedVaultModel", name := "writeWholes", desc := "(I)V" } : Jvm.MethodName)) ∈ TG := tw_11 206 (by decide +kernel) (by decide +kernel)
theorem w_11_207 : (Jvm.Cond.code ({ cls := "StripedVaultModel", name := "writeWholes", desc := "(I)V" } : Jvm.MethodName) prog_14_method_80_code (5 : Nat) (Option.none : Option Jvm.ClassFile.FieldType)) ∈ TG := tw_11 207 (by decide +kernel) (by decide +kernel)
theorem w_12_0 : (Jvm.Cond.methodLink "StripedVaultModel" (667 : Nat) ({ cls := "StripedVaultModel", name := "writeLengths", desc := "()V" } : Jvm.MethodName)) ∈ TG := tw_12 0 (by decide +kernel) (by decide +kernel)
theorem w_12_12 : (Jvm.Cond.methodLink "StripedVaultModel" (670 : Nat) ({ cls := "StripedVaultModel", name := "writeFront", desc := "()V" } : Jvm.MethodName)) ∈ TG := tw_12 12 (by decide +kernel) (by decide +kernel)
theorem w_12_14 : (Jvm.Cond.instanceMethod ({ cls := "StripedVaultModel", name := "writeFront", desc := "()V" } : Jvm.MethodName)) ∈ TG := tw_12 14 (by decide +kernel) (by decide +kernel)
theorem w_12_15 : (Jvm.Cond.code ({ cls := "StripedVaultModel", name := "writeFront", desc := "()V" } : Jvm.MethodName) prog_14_method_74_code (3 : Nat) (Option.none : Option Jvm.ClassFile.FieldType)) ∈ TG := tw_12 15 (by decide +kernel) (by decide +kernel)
theorem w_12_2 : (Jvm.Cond.instanceMethod ({ cls := "StripedVaultModel", name := "writeLengths", desc := "()V" } : Jvm.MethodName)) ∈ TG := tw_12 2 (by decide +kernel) (by decide +kernel)
theorem w_12_20 : (Jvm.Cond.methodLink "StripedVaultModel" (673 : Nat) ({ cls := "StripedVaultModel", name := "writeDictionary", desc := "()V" } : Jvm.MethodName)) ∈ TG := tw_12 20 (by decide +kernel) (by decide +kernel)
theorem w_12_22 : (Jvm.Cond.instanceMethod ({ cls := "StripedVaultModel", name := "writeDictionary", desc := "()V" } : Jvm.MethodName)) ∈ TG := tw_12 22 (by decide +kernel) (by decide +kernel)
theorem w_12_23 : (Jvm.Cond.code ({ cls := "StripedVaultModel", name := "writeDictionary", desc := "()V" } : Jvm.MethodName) prog_14_method_75_code (4 : Nat) (Option.none : Option Jvm.ClassFile.FieldType)) ∈ TG := tw_12 23 (by decide +kernel) (by decide +kernel)
theorem w_12_3 : (Jvm.Cond.code ({ cls := "StripedVaultModel", name := "writeLengths", desc := "()V" } : Jvm.MethodName) prog_14_method_72_code (2 : Nat) (Option.none : Option Jvm.ClassFile.FieldType)) ∈ TG := tw_12 3 (by decide +kernel) (by decide +kernel)
theorem w_12_44 : (Jvm.Cond.methodLink "StripedVaultModel" (679 : Nat) ({ cls := "StripedVaultModel", name := "compareValues", desc := "(II)I" } : Jvm.MethodName)) ∈ TG := tw_12 44 (by decide +kernel) (by decide +kernel)
theorem w_12_46 : (Jvm.Cond.instanceMethod ({ cls := "StripedVaultModel", name := "compareValues", desc := "(II)I" } : Jvm.MethodName)) ∈ TG := tw_12 46 (by decide +kernel) (by decide +kernel)
theorem w_12_47 : (Jvm.Cond.code ({ cls := "StripedVaultModel", name := "compareValues", desc := "(II)I" } : Jvm.MethodName) prog_14_method_83_code (4 : Nat) (Option.some Jvm.ClassFile.FieldType.int)) ∈ TG := tw_12 47 (by decide +kernel) (by decide +kernel)
theorem w_12_55 : (Jvm.Cond.constant "StripedVaultModel" (682 : Nat) (-306674912 : Int32)) ∈ TG := tw_12 55 (by decide +kernel) (by decide +kernel)
theorem ws_151 : Cond.selects R_Mod y_Mod_writeBools y_Mod_writeBools ∈ TG := tw_s 151 (by decide +kernel) (by decide +kernel)
theorem ws_155 : Cond.selects R_Mod y_Mod_writeWholes y_Mod_writeWholes ∈ TG := tw_s 155 (by decide +kernel) (by decide +kernel)
theorem ws_163 : Cond.selects R_Mod y_Mod_writeLengths y_Mod_writeLengths ∈ TG := tw_s 163 (by decide +kernel) (by decide +kernel)
theorem ws_166 : Cond.selects R_Mod y_Mod_writeFront y_Mod_writeFront ∈ TG := tw_s 166 (by decide +kernel) (by decide +kernel)
theorem ws_168 : Cond.selects R_Mod y_Mod_writeDictionary y_Mod_writeDictionary ∈ TG := tw_s 168 (by decide +kernel) (by decide +kernel)
theorem ws_174 : Cond.selects R_Mod y_Mod_compareValues y_Mod_compareValues ∈ TG := tw_s 174 (by decide +kernel) (by decide +kernel)
theorem d_Mod_writeValues_66 : decode b_Mod_writeValues 66 = .ok (.iload_n 2, 1) := by decide +kernel
theorem d_Mod_writeValues_67 : decode b_Mod_writeValues 67 = .ok (.aload_n 0, 1) := by decide +kernel
theorem d_Mod_writeValues_68 : decode b_Mod_writeValues 68 = .ok (.getfield 632, 3) := by decide +kernel
theorem d_Mod_writeValues_71 : decode b_Mod_writeValues 71 = .ok (.if_icmp .ge 26, 3) := by decide +kernel
theorem d_Mod_writeValues_97 : decode b_Mod_writeValues 97 = .ok (.return_, 1) := by decide +kernel
theorem d_Mod_writeValues_74 : decode b_Mod_writeValues 74 = .ok (.aload_n 0, 1) := by decide +kernel
theorem d_Mod_writeValues_75 : decode b_Mod_writeValues 75 = .ok (.getfield 623, 3) := by decide +kernel
theorem d_Mod_writeValues_78 : decode b_Mod_writeValues 78 = .ok (.iconst 3, 1) := by decide +kernel
theorem d_Mod_writeValues_79 : decode b_Mod_writeValues 79 = .ok (.if_icmp .ne 18, 3) := by decide +kernel
theorem d_Mod_writeValues_82 : decode b_Mod_writeValues 82 = .ok (.iload_n 1, 1) := by decide +kernel
theorem d_Mod_writeValues_83 : decode b_Mod_writeValues 83 = .ok (.ifCond .ne 14, 3) := by decide +kernel
theorem d_Mod_writeValues_86 : decode b_Mod_writeValues 86 = .ok (.aload_n 0, 1) := by decide +kernel
theorem d_Mod_writeValues_87 : decode b_Mod_writeValues 87 = .ok (.iload_n 2, 1) := by decide +kernel
theorem d_Mod_writeValues_88 : decode b_Mod_writeValues 88 = .ok (.invokevirtual 644, 3) := by decide +kernel
theorem d_Mod_writeValues_91 : decode b_Mod_writeValues 91 = .ok (.iinc 2 1, 3) := by decide +kernel
theorem d_Mod_writeValues_94 : decode b_Mod_writeValues 94 = .ok (.goto (-28), 3) := by decide +kernel
theorem d_Mod_writeValues_64 : decode b_Mod_writeValues 64 = .ok (.iconst 0, 1) := by decide +kernel
theorem d_Mod_writeValues_65 : decode b_Mod_writeValues 65 = .ok (.istore_n 2, 1) := by decide +kernel
theorem d_Mod_writeValues_0 : decode b_Mod_writeValues 0 = .ok (.aload_n 0, 1) := by decide +kernel
theorem d_Mod_writeValues_1 : decode b_Mod_writeValues 1 = .ok (.getfield 623, 3) := by decide +kernel
theorem d_Mod_writeValues_4 : decode b_Mod_writeValues 4 = .ok (.ifCond .ne 11, 3) := by decide +kernel
theorem d_Mod_writeValues_15 : decode b_Mod_writeValues 15 = .ok (.aload_n 0, 1) := by decide +kernel
theorem d_Mod_writeValues_16 : decode b_Mod_writeValues 16 = .ok (.getfield 623, 3) := by decide +kernel
theorem d_Mod_writeValues_19 : decode b_Mod_writeValues 19 = .ok (.iconst 3, 1) := by decide +kernel
theorem d_Mod_writeValues_20 : decode b_Mod_writeValues 20 = .ok (.if_icmp .eq 11, 3) := by decide +kernel
theorem d_Mod_writeValues_31 : decode b_Mod_writeValues 31 = .ok (.iload_n 1, 1) := by decide +kernel
theorem d_Mod_writeValues_32 : decode b_Mod_writeValues 32 = .ok (.iconst 1, 1) := by decide +kernel
theorem d_Mod_writeValues_33 : decode b_Mod_writeValues 33 = .ok (.if_icmp .ne 10, 3) := by decide +kernel
theorem d_Mod_writeValues_43 : decode b_Mod_writeValues 43 = .ok (.iload_n 1, 1) := by decide +kernel
theorem d_Mod_writeValues_44 : decode b_Mod_writeValues 44 = .ok (.iconst 2, 1) := by decide +kernel
theorem d_Mod_writeValues_45 : decode b_Mod_writeValues 45 = .ok (.if_icmp .ne 10, 3) := by decide +kernel
theorem d_Mod_writeValues_55 : decode b_Mod_writeValues 55 = .ok (.iload_n 1, 1) := by decide +kernel
theorem d_Mod_writeValues_56 : decode b_Mod_writeValues 56 = .ok (.iconst 3, 1) := by decide +kernel
theorem d_Mod_writeValues_57 : decode b_Mod_writeValues 57 = .ok (.if_icmp .ne 7, 3) := by decide +kernel
theorem d_Mod_writeValues_60 : decode b_Mod_writeValues 60 = .ok (.aload_n 0, 1) := by decide +kernel
theorem d_Mod_writeValues_61 : decode b_Mod_writeValues 61 = .ok (.invokevirtual 673, 3) := by decide +kernel
theorem d_Mod_writeValues_48 : decode b_Mod_writeValues 48 = .ok (.aload_n 0, 1) := by decide +kernel
theorem d_Mod_writeValues_49 : decode b_Mod_writeValues 49 = .ok (.invokevirtual 670, 3) := by decide +kernel
theorem d_Mod_writeValues_52 : decode b_Mod_writeValues 52 = .ok (.goto 12, 3) := by decide +kernel
theorem d_Mod_writeValues_36 : decode b_Mod_writeValues 36 = .ok (.aload_n 0, 1) := by decide +kernel
theorem d_Mod_writeValues_37 : decode b_Mod_writeValues 37 = .ok (.invokevirtual 667, 3) := by decide +kernel
theorem d_Mod_writeValues_40 : decode b_Mod_writeValues 40 = .ok (.goto 24, 3) := by decide +kernel
theorem d_Mod_writeValues_23 : decode b_Mod_writeValues 23 = .ok (.aload_n 0, 1) := by decide +kernel
theorem d_Mod_writeValues_24 : decode b_Mod_writeValues 24 = .ok (.iload_n 1, 1) := by decide +kernel
theorem d_Mod_writeValues_25 : decode b_Mod_writeValues 25 = .ok (.invokevirtual 664, 3) := by decide +kernel
theorem d_Mod_writeValues_28 : decode b_Mod_writeValues 28 = .ok (.goto 36, 3) := by decide +kernel
theorem d_Mod_writeValues_7 : decode b_Mod_writeValues 7 = .ok (.aload_n 0, 1) := by decide +kernel
theorem d_Mod_writeValues_8 : decode b_Mod_writeValues 8 = .ok (.iload_n 1, 1) := by decide +kernel
theorem d_Mod_writeValues_9 : decode b_Mod_writeValues 9 = .ok (.invokevirtual 661, 3) := by decide +kernel
theorem d_Mod_writeValues_12 : decode b_Mod_writeValues 12 = .ok (.goto 52, 3) := by decide +kernel
theorem d_Mod_putLevels_7 : decode b_Mod_putLevels 7 = .ok (.iload_n 2, 1) := by decide +kernel
theorem d_Mod_putLevels_8 : decode b_Mod_putLevels 8 = .ok (.iload_n 3, 1) := by decide +kernel
theorem d_Mod_putLevels_9 : decode b_Mod_putLevels 9 = .ok (.ishr, 1) := by decide +kernel
theorem d_Mod_putLevels_10 : decode b_Mod_putLevels 10 = .ok (.ifCond .le 9, 3) := by decide +kernel
theorem d_Mod_putLevels_19 : decode b_Mod_putLevels 19 = .ok (.aload_n 0, 1) := by decide +kernel
theorem d_Mod_putLevels_20 : decode b_Mod_putLevels 20 = .ok (.getfield 547, 3) := by decide +kernel
theorem d_Mod_putLevels_23 : decode b_Mod_putLevels 23 = .ok (.istore 4, 2) := by decide +kernel
theorem d_Mod_putLevels_25 : decode b_Mod_putLevels 25 = .ok (.aload_n 0, 1) := by decide +kernel
theorem d_Mod_putLevels_26 : decode b_Mod_putLevels 26 = .ok (.aload_n 1, 1) := by decide +kernel
theorem d_Mod_putLevels_27 : decode b_Mod_putLevels 27 = .ok (.aload_n 0, 1) := by decide +kernel
theorem d_Mod_putLevels_28 : decode b_Mod_putLevels 28 = .ok (.getfield 676, 3) := by decide +kernel
theorem d_Mod_putLevels_31 : decode b_Mod_putLevels 31 = .ok (.iload_n 3, 1) := by decide +kernel
theorem d_Mod_putLevels_32 : decode b_Mod_putLevels 32 = .ok (.invokevirtual 647, 3) := by decide +kernel
theorem d_Mod_putLevels_35 : decode b_Mod_putLevels 35 = .ok (.aload_n 0, 1) := by decide +kernel
theorem d_Mod_putLevels_36 : decode b_Mod_putLevels 36 = .ok (.getfield 547, 3) := by decide +kernel
theorem d_Mod_putLevels_39 : decode b_Mod_putLevels 39 = .ok (.iload 4, 2) := by decide +kernel
theorem d_Mod_putLevels_41 : decode b_Mod_putLevels 41 = .ok (.isub, 1) := by decide +kernel
theorem d_Mod_putLevels_42 : decode b_Mod_putLevels 42 = .ok (.istore 5, 2) := by decide +kernel
theorem d_Mod_putLevels_44 : decode b_Mod_putLevels 44 = .ok (.aload_n 0, 1) := by decide +kernel
theorem d_Mod_putLevels_45 : decode b_Mod_putLevels 45 = .ok (.iload 4, 2) := by decide +kernel
theorem d_Mod_putLevels_47 : decode b_Mod_putLevels 47 = .ok (.putfield 547, 3) := by decide +kernel
theorem d_Mod_putLevels_50 : decode b_Mod_putLevels 50 = .ok (.aload_n 0, 1) := by decide +kernel
theorem d_Mod_putLevels_51 : decode b_Mod_putLevels 51 = .ok (.iload 5, 2) := by decide +kernel
theorem d_Mod_putLevels_53 : decode b_Mod_putLevels 53 = .ok (.i2l, 1) := by decide +kernel
theorem d_Mod_putLevels_54 : decode b_Mod_putLevels 54 = .ok (.invokevirtual 567, 3) := by decide +kernel
theorem d_Mod_putLevels_57 : decode b_Mod_putLevels 57 = .ok (.aload_n 0, 1) := by decide +kernel
theorem d_Mod_putLevels_58 : decode b_Mod_putLevels 58 = .ok (.aload_n 1, 1) := by decide +kernel
theorem d_Mod_putLevels_59 : decode b_Mod_putLevels 59 = .ok (.aload_n 0, 1) := by decide +kernel
theorem d_Mod_putLevels_60 : decode b_Mod_putLevels 60 = .ok (.getfield 676, 3) := by decide +kernel
theorem d_Mod_putLevels_63 : decode b_Mod_putLevels 63 = .ok (.iload_n 3, 1) := by decide +kernel
theorem d_Mod_putLevels_64 : decode b_Mod_putLevels 64 = .ok (.invokevirtual 647, 3) := by decide +kernel
theorem d_Mod_putLevels_67 : decode b_Mod_putLevels 67 = .ok (.return_, 1) := by decide +kernel
theorem d_Mod_putLevels_13 : decode b_Mod_putLevels 13 = .ok (.iinc 3 1, 3) := by decide +kernel
theorem d_Mod_putLevels_16 : decode b_Mod_putLevels 16 = .ok (.goto (-9), 3) := by decide +kernel
theorem d_Mod_putLevels_0 : decode b_Mod_putLevels 0 = .ok (.iload_n 2, 1) := by decide +kernel
theorem d_Mod_putLevels_1 : decode b_Mod_putLevels 1 = .ok (.ifCond .ne 4, 3) := by decide +kernel
theorem d_Mod_putLevels_5 : decode b_Mod_putLevels 5 = .ok (.iconst 0, 1) := by decide +kernel
theorem d_Mod_putLevels_6 : decode b_Mod_putLevels 6 = .ok (.istore_n 3, 1) := by decide +kernel
theorem d_Mod_putLevels_4 : decode b_Mod_putLevels 4 = .ok (.return_, 1) := by decide +kernel
theorem d_Mod_compareValues_133 : decode b_Mod_compareValues 133 = .ok (.aload_n 0, 1) := by decide +kernel
theorem d_Mod_compareValues_134 : decode b_Mod_compareValues 134 = .ok (.iload_n 1, 1) := by decide +kernel
theorem d_Mod_compareValues_135 : decode b_Mod_compareValues 135 = .ok (.invokevirtual 626, 3) := by decide +kernel
theorem d_Mod_compareValues_138 : decode b_Mod_compareValues 138 = .ok (.aload_n 0, 1) := by decide +kernel
theorem d_Mod_compareValues_139 : decode b_Mod_compareValues 139 = .ok (.iload_n 2, 1) := by decide +kernel
theorem d_Mod_compareValues_140 : decode b_Mod_compareValues 140 = .ok (.invokevirtual 626, 3) := by decide +kernel
theorem d_Mod_compareValues_143 : decode b_Mod_compareValues 143 = .ok (.isub, 1) := by decide +kernel
theorem d_Mod_compareValues_144 : decode b_Mod_compareValues 144 = .ok (.ireturn, 1) := by decide +kernel
theorem d_Mod_compareValues_52 : decode b_Mod_compareValues 52 = .ok (.iload_n 3, 1) := by decide +kernel
theorem d_Mod_compareValues_53 : decode b_Mod_compareValues 53 = .ok (.aload_n 0, 1) := by decide +kernel
theorem d_Mod_compareValues_54 : decode b_Mod_compareValues 54 = .ok (.iload_n 1, 1) := by decide +kernel
theorem d_Mod_compareValues_55 : decode b_Mod_compareValues 55 = .ok (.invokevirtual 626, 3) := by decide +kernel
theorem d_Mod_compareValues_58 : decode b_Mod_compareValues 58 = .ok (.if_icmp .ge 75, 3) := by decide +kernel
theorem d_Mod_compareValues_61 : decode b_Mod_compareValues 61 = .ok (.iload_n 3, 1) := by decide +kernel
theorem d_Mod_compareValues_62 : decode b_Mod_compareValues 62 = .ok (.aload_n 0, 1) := by decide +kernel
theorem d_Mod_compareValues_63 : decode b_Mod_compareValues 63 = .ok (.iload_n 2, 1) := by decide +kernel
theorem d_Mod_compareValues_64 : decode b_Mod_compareValues 64 = .ok (.invokevirtual 626, 3) := by decide +kernel
theorem d_Mod_compareValues_67 : decode b_Mod_compareValues 67 = .ok (.if_icmp .ge 66, 3) := by decide +kernel
theorem d_Mod_compareValues_70 : decode b_Mod_compareValues 70 = .ok (.aload_n 0, 1) := by decide +kernel
theorem d_Mod_compareValues_71 : decode b_Mod_compareValues 71 = .ok (.getfield 118, 3) := by decide +kernel
theorem d_Mod_compareValues_74 : decode b_Mod_compareValues 74 = .ok (.aload_n 0, 1) := by decide +kernel
theorem d_Mod_compareValues_75 : decode b_Mod_compareValues 75 = .ok (.getfield 109, 3) := by decide +kernel
theorem d_Mod_compareValues_78 : decode b_Mod_compareValues 78 = .ok (.iload_n 1, 1) := by decide +kernel
theorem d_Mod_compareValues_79 : decode b_Mod_compareValues 79 = .ok (.iaload, 1) := by decide +kernel
theorem d_Mod_compareValues_80 : decode b_Mod_compareValues 80 = .ok (.iload_n 3, 1) := by decide +kernel
theorem d_Mod_compareValues_81 : decode b_Mod_compareValues 81 = .ok (.iadd, 1) := by decide +kernel
theorem d_Mod_compareValues_82 : decode b_Mod_compareValues 82 = .ok (.iaload, 1) := by decide +kernel
theorem d_Mod_compareValues_83 : decode b_Mod_compareValues 83 = .ok (.aload_n 0, 1) := by decide +kernel
theorem d_Mod_compareValues_84 : decode b_Mod_compareValues 84 = .ok (.getfield 118, 3) := by decide +kernel
theorem d_Mod_compareValues_87 : decode b_Mod_compareValues 87 = .ok (.aload_n 0, 1) := by decide +kernel
theorem d_Mod_compareValues_88 : decode b_Mod_compareValues 88 = .ok (.getfield 109, 3) := by decide +kernel
theorem d_Mod_compareValues_91 : decode b_Mod_compareValues 91 = .ok (.iload_n 2, 1) := by decide +kernel
theorem d_Mod_compareValues_92 : decode b_Mod_compareValues 92 = .ok (.iaload, 1) := by decide +kernel
theorem d_Mod_compareValues_93 : decode b_Mod_compareValues 93 = .ok (.iload_n 3, 1) := by decide +kernel
theorem d_Mod_compareValues_94 : decode b_Mod_compareValues 94 = .ok (.iadd, 1) := by decide +kernel
theorem d_Mod_compareValues_95 : decode b_Mod_compareValues 95 = .ok (.iaload, 1) := by decide +kernel
theorem d_Mod_compareValues_96 : decode b_Mod_compareValues 96 = .ok (.if_icmp .eq 31, 3) := by decide +kernel
theorem d_Mod_compareValues_127 : decode b_Mod_compareValues 127 = .ok (.iinc 3 1, 3) := by decide +kernel
theorem d_Mod_compareValues_130 : decode b_Mod_compareValues 130 = .ok (.goto (-78), 3) := by decide +kernel
theorem d_Mod_compareValues_99 : decode b_Mod_compareValues 99 = .ok (.aload_n 0, 1) := by decide +kernel
theorem d_Mod_compareValues_100 : decode b_Mod_compareValues 100 = .ok (.getfield 118, 3) := by decide +kernel
theorem d_Mod_compareValues_103 : decode b_Mod_compareValues 103 = .ok (.aload_n 0, 1) := by decide +kernel
theorem d_Mod_compareValues_104 : decode b_Mod_compareValues 104 = .ok (.getfield 109, 3) := by decide +kernel
theorem d_Mod_compareValues_107 : decode b_Mod_compareValues 107 = .ok (.iload_n 1, 1) := by decide +kernel
theorem d_Mod_compareValues_108 : decode b_Mod_compareValues 108 = .ok (.iaload, 1) := by decide +kernel
theorem d_Mod_compareValues_109 : decode b_Mod_compareValues 109 = .ok (.iload_n 3, 1) := by decide +kernel
theorem d_Mod_compareValues_110 : decode b_Mod_compareValues 110 = .ok (.iadd, 1) := by decide +kernel
theorem d_Mod_compareValues_111 : decode b_Mod_compareValues 111 = .ok (.iaload, 1) := by decide +kernel
theorem d_Mod_compareValues_112 : decode b_Mod_compareValues 112 = .ok (.aload_n 0, 1) := by decide +kernel
theorem d_Mod_compareValues_113 : decode b_Mod_compareValues 113 = .ok (.getfield 118, 3) := by decide +kernel
theorem d_Mod_compareValues_116 : decode b_Mod_compareValues 116 = .ok (.aload_n 0, 1) := by decide +kernel
theorem d_Mod_compareValues_117 : decode b_Mod_compareValues 117 = .ok (.getfield 109, 3) := by decide +kernel
theorem d_Mod_compareValues_120 : decode b_Mod_compareValues 120 = .ok (.iload_n 2, 1) := by decide +kernel
theorem d_Mod_compareValues_121 : decode b_Mod_compareValues 121 = .ok (.iaload, 1) := by decide +kernel
theorem d_Mod_compareValues_122 : decode b_Mod_compareValues 122 = .ok (.iload_n 3, 1) := by decide +kernel
theorem d_Mod_compareValues_123 : decode b_Mod_compareValues 123 = .ok (.iadd, 1) := by decide +kernel
theorem d_Mod_compareValues_124 : decode b_Mod_compareValues 124 = .ok (.iaload, 1) := by decide +kernel
theorem d_Mod_compareValues_125 : decode b_Mod_compareValues 125 = .ok (.isub, 1) := by decide +kernel
theorem d_Mod_compareValues_126 : decode b_Mod_compareValues 126 = .ok (.ireturn, 1) := by decide +kernel
theorem d_Mod_compareValues_0 : decode b_Mod_compareValues 0 = .ok (.aload_n 0, 1) := by decide +kernel
theorem d_Mod_compareValues_1 : decode b_Mod_compareValues 1 = .ok (.getfield 623, 3) := by decide +kernel
theorem d_Mod_compareValues_4 : decode b_Mod_compareValues 4 = .ok (.iconst 3, 1) := by decide +kernel
theorem d_Mod_compareValues_5 : decode b_Mod_compareValues 5 = .ok (.if_icmp .eq 45, 3) := by decide +kernel
theorem d_Mod_compareValues_50 : decode b_Mod_compareValues 50 = .ok (.iconst 0, 1) := by decide +kernel
theorem d_Mod_compareValues_51 : decode b_Mod_compareValues 51 = .ok (.istore_n 3, 1) := by decide +kernel
theorem d_Mod_compareValues_8 : decode b_Mod_compareValues 8 = .ok (.aload_n 0, 1) := by decide +kernel
theorem d_Mod_compareValues_9 : decode b_Mod_compareValues 9 = .ok (.getfield 100, 3) := by decide +kernel
theorem d_Mod_compareValues_12 : decode b_Mod_compareValues 12 = .ok (.iload_n 1, 1) := by decide +kernel
theorem d_Mod_compareValues_13 : decode b_Mod_compareValues 13 = .ok (.laload, 1) := by decide +kernel
theorem d_Mod_compareValues_14 : decode b_Mod_compareValues 14 = .ok (.aload_n 0, 1) := by decide +kernel
theorem d_Mod_compareValues_15 : decode b_Mod_compareValues 15 = .ok (.getfield 100, 3) := by decide +kernel
theorem d_Mod_compareValues_18 : decode b_Mod_compareValues 18 = .ok (.iload_n 2, 1) := by decide +kernel
theorem d_Mod_compareValues_19 : decode b_Mod_compareValues 19 = .ok (.laload, 1) := by decide +kernel
theorem d_Mod_compareValues_20 : decode b_Mod_compareValues 20 = .ok (.lcmp, 1) := by decide +kernel
theorem d_Mod_compareValues_21 : decode b_Mod_compareValues 21 = .ok (.ifCond .ge 7, 3) := by decide +kernel
theorem d_Mod_compareValues_28 : decode b_Mod_compareValues 28 = .ok (.aload_n 0, 1) := by decide +kernel
theorem d_Mod_compareValues_29 : decode b_Mod_compareValues 29 = .ok (.getfield 100, 3) := by decide +kernel
theorem d_Mod_compareValues_32 : decode b_Mod_compareValues 32 = .ok (.iload_n 1, 1) := by decide +kernel
theorem d_Mod_compareValues_33 : decode b_Mod_compareValues 33 = .ok (.laload, 1) := by decide +kernel
theorem d_Mod_compareValues_34 : decode b_Mod_compareValues 34 = .ok (.aload_n 0, 1) := by decide +kernel
theorem d_Mod_compareValues_35 : decode b_Mod_compareValues 35 = .ok (.getfield 100, 3) := by decide +kernel
theorem d_Mod_compareValues_38 : decode b_Mod_compareValues 38 = .ok (.iload_n 2, 1) := by decide +kernel
theorem d_Mod_compareValues_39 : decode b_Mod_compareValues 39 = .ok (.laload, 1) := by decide +kernel
theorem d_Mod_compareValues_40 : decode b_Mod_compareValues 40 = .ok (.lcmp, 1) := by decide +kernel
theorem d_Mod_compareValues_41 : decode b_Mod_compareValues 41 = .ok (.ifCond .le 7, 3) := by decide +kernel
theorem d_Mod_compareValues_48 : decode b_Mod_compareValues 48 = .ok (.iconst 0, 1) := by decide +kernel
theorem d_Mod_compareValues_49 : decode b_Mod_compareValues 49 = .ok (.ireturn, 1) := by decide +kernel
theorem d_Mod_compareValues_44 : decode b_Mod_compareValues 44 = .ok (.iconst 1, 1) := by decide +kernel
theorem d_Mod_compareValues_45 : decode b_Mod_compareValues 45 = .ok (.goto 4, 3) := by decide +kernel
theorem d_Mod_compareValues_24 : decode b_Mod_compareValues 24 = .ok (.iconst (-1), 1) := by decide +kernel
theorem d_Mod_compareValues_25 : decode b_Mod_compareValues 25 = .ok (.goto 24, 3) := by decide +kernel
theorem d_Mod_mostOf_58 : decode b_Mod_mostOf 58 = .ok (.istore_n 2, 1) := by decide +kernel
theorem d_Mod_mostOf_59 : decode b_Mod_mostOf 59 = .ok (.iinc 3 1, 3) := by decide +kernel
theorem d_Mod_mostOf_62 : decode b_Mod_mostOf 62 = .ok (.goto (-47), 3) := by decide +kernel
theorem d_Mod_mostOf_15 : decode b_Mod_mostOf 15 = .ok (.iload_n 3, 1) := by decide +kernel
theorem d_Mod_mostOf_16 : decode b_Mod_mostOf 16 = .ok (.aload_n 0, 1) := by decide +kernel
theorem d_Mod_mostOf_17 : decode b_Mod_mostOf 17 = .ok (.getfield 632, 3) := by decide +kernel
theorem d_Mod_mostOf_20 : decode b_Mod_mostOf 20 = .ok (.if_icmp .ge 45, 3) := by decide +kernel
theorem d_Mod_mostOf_65 : decode b_Mod_mostOf 65 = .ok (.iload_n 2, 1) := by decide +kernel
theorem d_Mod_mostOf_66 : decode b_Mod_mostOf 66 = .ok (.ireturn, 1) := by decide +kernel
theorem d_Mod_mostOf_23 : decode b_Mod_mostOf 23 = .ok (.aload_n 0, 1) := by decide +kernel
theorem d_Mod_mostOf_24 : decode b_Mod_mostOf 24 = .ok (.iload_n 3, 1) := by decide +kernel
theorem d_Mod_mostOf_25 : decode b_Mod_mostOf 25 = .ok (.iload_n 2, 1) := by decide +kernel
theorem d_Mod_mostOf_26 : decode b_Mod_mostOf 26 = .ok (.invokevirtual 679, 3) := by decide +kernel
theorem d_Mod_mostOf_29 : decode b_Mod_mostOf 29 = .ok (.istore 4, 2) := by decide +kernel
theorem d_Mod_mostOf_31 : decode b_Mod_mostOf 31 = .ok (.iload_n 1, 1) := by decide +kernel
theorem d_Mod_mostOf_32 : decode b_Mod_mostOf 32 = .ok (.ifCond .eq 16, 3) := by decide +kernel
theorem d_Mod_mostOf_48 : decode b_Mod_mostOf 48 = .ok (.iload 4, 2) := by decide +kernel
theorem d_Mod_mostOf_50 : decode b_Mod_mostOf 50 = .ok (.ifCond .ge 7, 3) := by decide +kernel
theorem d_Mod_mostOf_57 : decode b_Mod_mostOf 57 = .ok (.iload_n 2, 1) := by decide +kernel
theorem d_Mod_mostOf_53 : decode b_Mod_mostOf 53 = .ok (.iload_n 3, 1) := by decide +kernel
theorem d_Mod_mostOf_54 : decode b_Mod_mostOf 54 = .ok (.goto 4, 3) := by decide +kernel
theorem d_Mod_mostOf_35 : decode b_Mod_mostOf 35 = .ok (.iload 4, 2) := by decide +kernel
theorem d_Mod_mostOf_37 : decode b_Mod_mostOf 37 = .ok (.ifCond .le 7, 3) := by decide +kernel
theorem d_Mod_mostOf_44 : decode b_Mod_mostOf 44 = .ok (.iload_n 2, 1) := by decide +kernel
theorem d_Mod_mostOf_45 : decode b_Mod_mostOf 45 = .ok (.goto 13, 3) := by decide +kernel
theorem d_Mod_mostOf_40 : decode b_Mod_mostOf 40 = .ok (.iload_n 3, 1) := by decide +kernel
theorem d_Mod_mostOf_41 : decode b_Mod_mostOf 41 = .ok (.goto 17, 3) := by decide +kernel
theorem d_Mod_mostOf_12 : decode b_Mod_mostOf 12 = .ok (.istore_n 2, 1) := by decide +kernel
theorem d_Mod_mostOf_13 : decode b_Mod_mostOf 13 = .ok (.iconst 1, 1) := by decide +kernel
theorem d_Mod_mostOf_14 : decode b_Mod_mostOf 14 = .ok (.istore_n 3, 1) := by decide +kernel
theorem d_Mod_mostOf_0 : decode b_Mod_mostOf 0 = .ok (.aload_n 0, 1) := by decide +kernel
theorem d_Mod_mostOf_1 : decode b_Mod_mostOf 1 = .ok (.getfield 632, 3) := by decide +kernel
theorem d_Mod_mostOf_4 : decode b_Mod_mostOf 4 = .ok (.ifCond .ne 7, 3) := by decide +kernel
theorem d_Mod_mostOf_11 : decode b_Mod_mostOf 11 = .ok (.iconst 0, 1) := by decide +kernel
theorem d_Mod_mostOf_7 : decode b_Mod_mostOf 7 = .ok (.iconst (-1), 1) := by decide +kernel
theorem d_Mod_mostOf_8 : decode b_Mod_mostOf 8 = .ok (.goto 4, 3) := by decide +kernel
theorem d_Mod_putOne_0 : decode b_Mod_putOne 0 = .ok (.aload_n 0, 1) := by decide +kernel
theorem d_Mod_putOne_1 : decode b_Mod_putOne 1 = .ok (.getfield 623, 3) := by decide +kernel
theorem d_Mod_putOne_4 : decode b_Mod_putOne 4 = .ok (.ifCond .ne 17, 3) := by decide +kernel
theorem d_Mod_putOne_21 : decode b_Mod_putOne 21 = .ok (.aload_n 0, 1) := by decide +kernel
theorem d_Mod_putOne_22 : decode b_Mod_putOne 22 = .ok (.getfield 623, 3) := by decide +kernel
theorem d_Mod_putOne_25 : decode b_Mod_putOne 25 = .ok (.iconst 3, 1) := by decide +kernel
theorem d_Mod_putOne_26 : decode b_Mod_putOne 26 = .ok (.if_icmp .ne 11, 3) := by decide +kernel
theorem d_Mod_putOne_37 : decode b_Mod_putOne 37 = .ok (.aload_n 0, 1) := by decide +kernel
theorem d_Mod_putOne_38 : decode b_Mod_putOne 38 = .ok (.aload_n 0, 1) := by decide +kernel
theorem d_Mod_putOne_39 : decode b_Mod_putOne 39 = .ok (.getfield 100, 3) := by decide +kernel
theorem d_Mod_putOne_42 : decode b_Mod_putOne 42 = .ok (.iload_n 1, 1) := by decide +kernel
theorem d_Mod_putOne_43 : decode b_Mod_putOne 43 = .ok (.laload, 1) := by decide +kernel
theorem d_Mod_putOne_44 : decode b_Mod_putOne 44 = .ok (.invokestatic 594, 3) := by decide +kernel
theorem d_Mod_putOne_47 : decode b_Mod_putOne 47 = .ok (.invokevirtual 567, 3) := by decide +kernel
theorem d_Mod_putOne_50 : decode b_Mod_putOne 50 = .ok (.return_, 1) := by decide +kernel
theorem d_Mod_putOne_29 : decode b_Mod_putOne 29 = .ok (.aload_n 0, 1) := by decide +kernel
theorem d_Mod_putOne_30 : decode b_Mod_putOne 30 = .ok (.iload_n 1, 1) := by decide +kernel
theorem d_Mod_putOne_31 : decode b_Mod_putOne 31 = .ok (.invokevirtual 644, 3) := by decide +kernel
theorem d_Mod_putOne_34 : decode b_Mod_putOne 34 = .ok (.goto 16, 3) := by decide +kernel
theorem d_Mod_putOne_7 : decode b_Mod_putOne 7 = .ok (.aload_n 0, 1) := by decide +kernel
theorem d_Mod_putOne_8 : decode b_Mod_putOne 8 = .ok (.aload_n 0, 1) := by decide +kernel
theorem d_Mod_putOne_9 : decode b_Mod_putOne 9 = .ok (.getfield 100, 3) := by decide +kernel
theorem d_Mod_putOne_12 : decode b_Mod_putOne 12 = .ok (.iload_n 1, 1) := by decide +kernel
theorem d_Mod_putOne_13 : decode b_Mod_putOne 13 = .ok (.laload, 1) := by decide +kernel
theorem d_Mod_putOne_14 : decode b_Mod_putOne 14 = .ok (.l2i, 1) := by decide +kernel
theorem d_Mod_putOne_15 : decode b_Mod_putOne 15 = .ok (.invokevirtual 558, 3) := by decide +kernel
theorem d_Mod_putOne_18 : decode b_Mod_putOne 18 = .ok (.goto 32, 3) := by decide +kernel
theorem d_Mod_check_58 : decode b_Mod_check 58 = .ok (.iinc 5 1, 3) := by decide +kernel
theorem d_Mod_check_61 : decode b_Mod_check 61 = .ok (.goto (-47), 3) := by decide +kernel
theorem d_Mod_check_41 : decode b_Mod_check 41 = .ok (.istore 6, 2) := by decide +kernel
theorem d_Mod_check_43 : decode b_Mod_check 43 = .ok (.iload_n 3, 1) := by decide +kernel
theorem d_Mod_check_44 : decode b_Mod_check 44 = .ok (.iconst 1, 1) := by decide +kernel
theorem d_Mod_check_45 : decode b_Mod_check 45 = .ok (.iushr, 1) := by decide +kernel
theorem d_Mod_check_46 : decode b_Mod_check 46 = .ok (.istore_n 3, 1) := by decide +kernel
theorem d_Mod_check_47 : decode b_Mod_check 47 = .ok (.iload 6, 2) := by decide +kernel
theorem d_Mod_check_49 : decode b_Mod_check 49 = .ok (.ifCond .eq 9, 3) := by decide +kernel
theorem d_Mod_check_52 : decode b_Mod_check 52 = .ok (.iload_n 3, 1) := by decide +kernel
theorem d_Mod_check_53 : decode b_Mod_check 53 = .ok (.ldc_w 682, 3) := by decide +kernel
theorem d_Mod_check_56 : decode b_Mod_check 56 = .ok (.ixor, 1) := by decide +kernel
theorem d_Mod_check_57 : decode b_Mod_check 57 = .ok (.istore_n 3, 1) := by decide +kernel
theorem d_Mod_check_14 : decode b_Mod_check 14 = .ok (.iload 5, 2) := by decide +kernel
theorem d_Mod_check_16 : decode b_Mod_check 16 = .ok (.bipush 8, 2) := by decide +kernel
theorem d_Mod_check_18 : decode b_Mod_check 18 = .ok (.if_icmp .ge 46, 3) := by decide +kernel
theorem d_Mod_check_64 : decode b_Mod_check 64 = .ok (.iinc 4 1, 3) := by decide +kernel
theorem d_Mod_check_67 : decode b_Mod_check 67 = .ok (.goto (-62), 3) := by decide +kernel
theorem d_Mod_check_21 : decode b_Mod_check 21 = .ok (.aload_n 0, 1) := by decide +kernel
theorem d_Mod_check_22 : decode b_Mod_check 22 = .ok (.iload 4, 2) := by decide +kernel
theorem d_Mod_check_24 : decode b_Mod_check 24 = .ok (.iaload, 1) := by decide +kernel
theorem d_Mod_check_25 : decode b_Mod_check 25 = .ok (.iload 5, 2) := by decide +kernel
theorem d_Mod_check_27 : decode b_Mod_check 27 = .ok (.ishr, 1) := by decide +kernel
theorem d_Mod_check_28 : decode b_Mod_check 28 = .ok (.iload_n 3, 1) := by decide +kernel
theorem d_Mod_check_29 : decode b_Mod_check 29 = .ok (.ixor, 1) := by decide +kernel
theorem d_Mod_check_30 : decode b_Mod_check 30 = .ok (.iconst 1, 1) := by decide +kernel
theorem d_Mod_check_31 : decode b_Mod_check 31 = .ok (.iand, 1) := by decide +kernel
theorem d_Mod_check_32 : decode b_Mod_check 32 = .ok (.iconst 1, 1) := by decide +kernel
theorem d_Mod_check_33 : decode b_Mod_check 33 = .ok (.if_icmp .ne 7, 3) := by decide +kernel
theorem d_Mod_check_40 : decode b_Mod_check 40 = .ok (.iconst 0, 1) := by decide +kernel
theorem d_Mod_check_36 : decode b_Mod_check 36 = .ok (.iconst 1, 1) := by decide +kernel
theorem d_Mod_check_37 : decode b_Mod_check 37 = .ok (.goto 4, 3) := by decide +kernel
theorem d_Mod_check_5 : decode b_Mod_check 5 = .ok (.iload 4, 2) := by decide +kernel
theorem d_Mod_check_7 : decode b_Mod_check 7 = .ok (.iload_n 2, 1) := by decide +kernel
theorem d_Mod_check_8 : decode b_Mod_check 8 = .ok (.if_icmp .ge 62, 3) := by decide +kernel
theorem d_Mod_check_70 : decode b_Mod_check 70 = .ok (.iload_n 3, 1) := by decide +kernel
theorem d_Mod_check_71 : decode b_Mod_check 71 = .ok (.iconst (-1), 1) := by decide +kernel
theorem d_Mod_check_72 : decode b_Mod_check 72 = .ok (.ixor, 1) := by decide +kernel
theorem d_Mod_check_73 : decode b_Mod_check 73 = .ok (.ireturn, 1) := by decide +kernel
theorem d_Mod_check_11 : decode b_Mod_check 11 = .ok (.iconst 0, 1) := by decide +kernel
theorem d_Mod_check_12 : decode b_Mod_check 12 = .ok (.istore 5, 2) := by decide +kernel
theorem d_Mod_check_0 : decode b_Mod_check 0 = .ok (.iconst (-1), 1) := by decide +kernel
theorem d_Mod_check_1 : decode b_Mod_check 1 = .ok (.istore_n 3, 1) := by decide +kernel
theorem d_Mod_check_2 : decode b_Mod_check 2 = .ok (.iload_n 1, 1) := by decide +kernel
theorem d_Mod_check_3 : decode b_Mod_check 3 = .ok (.istore 4, 2) := by decide +kernel
section
variable (l : Launch) (dC : Nat → ClassId) (dI : Nat → Nat → Nat) (cI cB cJ cZ : ClassId)
set_option maxRecDepth 100000 in
def j_Mod_writeValues_66 (post : St → Prop) (rec66 : Int32 → Int32 → St → Prop) (l1 : Int32) (l2 : Int32) (x : St) : Prop := (((fI x 0 42) ≤ l2 → post x) ∧ (¬ (fI x 0 42) ≤ l2 → ((¬ (fI x 0 38) = 3 → post x) ∧ ((fI x 0 38) = 3 → ((¬ l1 = 0 → post x) ∧ (l1 = 0 → wp_Mod_putText (fun (x690 : St) => rec66 l1 (l2 + 1) x690) l2 x))))))
set_option maxHeartbeats 4000000 in
set_option maxRecDepth 100000 in
theorem t_Mod_writeValues_66 {p : Program} {l : Launch} {e : Env} {R : Room} {s : State} {m : MethodId} {args : Array Value} {below : List Frame} {meth : Method} {c : Code} {cells slots : Nat} {Q : State → Prop} {dC : Nat → ClassId} {dI : Nat → Nat → Nat} {cI cB cJ cZ : ClassId} {A : Nat → Prop} {ad : Nat → Nat} {post : St → Prop} {rec66 : Int32 → Int32 → St → Prop} (hx : p.tables.exec = Jvm.exec) (hb : c.code = b_Mod_writeValues) (hml : c.maxLocals = 3) (hown : s.vm.findClass R_Mod = some m.cls) (hT : ∀ w ∈ TG, w.before args s = true) (hK : va_K (dC, dI) CL (TY cI cB cJ cZ) s) (hN : NW s) (hA : ∀ q : Nat, s.heap.size ≤ q → A q) (hRc : cells ≤ R.cells) (hRs : slots ≤ R.slots) (hRf : 5 ≤ R.frames) (hRl : 119 ≤ R.locals) (hret : ∀ (x : St) (H : Heap) (locs : List Loc) (pc : Nat) (ls : Array Slot), decode b_Mod_writeValues pc = .ok (.return_, 1) → post x → Wd dC dI cI cB cJ cZ ad stM kcM 115 A x H → va_S A s.heap H locs → W p l e R s m args below meth c H locs cells slots Q (F0 m pc ls [])) (hrec66 : ∀ (l1 : Int32) (l2 : Int32) (x : St) (H : Heap) (locs : List Loc) (ls : Array Slot), rec66 l1 l2 x → Wd dC dI cI cB cJ cZ ad stM kcM 115 A x H → va_S A s.heap H locs → lv_has ls 3 [(0, .ref (ad 0)), (1, .int l1), (2, .int l2)] → W p l e R s m args below meth c H locs cells slots Q (F0 m 66 ls [])) : ∀ (l1 : Int32) (l2 : Int32) (x : St) (H : Heap) (locs : List Loc) (ls : Array Slot), j_Mod_writeValues_66 post rec66 l1 l2 x → Wd dC dI cI cB cJ cZ ad stM kcM 115 A x H → va_S A s.heap H locs → lv_has ls 3 [(0, .ref (ad 0)), (1, .int l1), (2, .int l2)] → W p l e R s m args below meth c H locs cells slots Q (F0 m 66 ls []) := by
  intro l1 l2 x H locs ls  hw hW hS hl
  unfold j_Mod_writeValues_66 at hw
  refine lv_iload_n hx hb d_Mod_writeValues_66 rfl (lv_at hl 2 rfl) ?_
  refine lv_aload_n hx hb d_Mod_writeValues_67 rfl (lv_at hl 0 rfl) ?_
  refine w_geti (k := 42) (t := 12) (C := R_Mod) (T := F_Mod) (N := 167) hx hb hT hown hK hW ko_0.1 ko_0.2 (by decide) in_Mod rfl rfl (by decide) rfl fr_Mod_42 w_8_222 d_Mod_writeValues_68 ?_
  refine lv_icmp_ge (tgt := 97) hx hb d_Mod_writeValues_71 (by decide) (fun c687 => ?_) (fun c687 => ?_)
  · have hw := hw.1 c687
    exact hret x H locs 97 ls d_Mod_writeValues_97 hw hW hS
  · have hw := hw.2 c687
    refine lv_aload_n hx hb d_Mod_writeValues_74 rfl (lv_at hl 0 rfl) ?_
    refine w_geti (k := 38) (t := 12) (C := R_Mod) (T := F_Mod) (N := 167) hx hb hT hown hK hW ko_0.1 ko_0.2 (by decide) in_Mod rfl rfl (by decide) rfl fr_Mod_38 w_8_218 d_Mod_writeValues_75 ?_
    refine lv_iconst (v := 3) hx hb d_Mod_writeValues_78 (by decide) ?_
    refine lv_icmp_ne (tgt := 97) hx hb d_Mod_writeValues_79 (by decide) (fun c688 => ?_) (fun c688 => ?_)
    · have hw := hw.1 c688
      exact hret x H locs 97 ls d_Mod_writeValues_97 hw hW hS
    · have hw := hw.2 c688
      refine lv_iload_n hx hb d_Mod_writeValues_82 rfl (lv_at hl 1 rfl) ?_
      refine lv_if_ne (tgt := 97) hx hb d_Mod_writeValues_83 (by decide) (fun c689 => ?_) (fun c689 => ?_)
      · have hw := hw.1 c689
        exact hret x H locs 97 ls d_Mod_writeValues_97 hw hW hS
      · have hw := hw.2 c689
        refine lv_aload_n hx hb d_Mod_writeValues_86 rfl (lv_at hl 0 rfl) ?_
        refine lv_iload_n hx hb d_Mod_writeValues_87 rfl (lv_at hl 2 rfl) ?_
        have hF := hW.free hS hA
        refine va_callv (va_runV (C := R_Mod) (As := [.int l2]) (rest := []) ⟨hx, hb, hml, hown, hT⟩ (k_Mod_putText l dC dI cI cB cJ cZ ad H.size l2 x  hw) ⟨callB_of 1 hT (gw_in w_12_35) rfl rfl rfl (hT _ w_1_15) (hT _ w_12_32) (by decide +kernel) ⟨Nat.le_trans (by decide) hRf, Nat.le_trans (by decide) hRl⟩, hT _ w_12_34, hT _ ws_171⟩ ⟨PW.blind, va_recv hK hW.1 (ci := 12) (q0 := 0) rfl (pic_obj ko_0.1 ko_0.2 (by decide)), PW.at _ hW hK hN⟩ rfl rfl hl.1 rfl (lv_room (Nat.le_of_ble_eq_true rfl)) d_Mod_writeValues_88 ⟨hRc, hRs⟩) hS (fun q _ h => hF q h) hF (fun  x690 t H locs ht hvm hw hB hz1 hk1 hS => ?_)
        have hW := Wd.back hB ht hF
        clear hB ht hF hz1 hk1 hvm
        refine lv_iinc (v := (l2 + 1)) (lv' := [(2, .int (l2 + 1)), (0, .ref (ad 0)), (1, .int l1)]) hx hb d_Mod_writeValues_91 hl (k := 2) rfl rfl (by decide) rfl (fun ls hl => ?_)
        refine lv_goto (tgt := 66) hx hb d_Mod_writeValues_94 (by decide) ?_
        exact hrec66 l1 (l2 + 1) x690 H locs ls  hw hW hS (lv_sub hl [1, 2, 0] rfl)
def wl_Mod_writeValues_66 (post : St → Prop) : Nat → Int32 → Int32 → St → Prop
  | 0 => fun _ _ _ => False
  | n + 1 => j_Mod_writeValues_66 post (wl_Mod_writeValues_66 post n)
set_option maxHeartbeats 4000000 in
set_option maxRecDepth 100000 in
theorem tl_Mod_writeValues_66 {p : Program} {l : Launch} {e : Env} {R : Room} {s : State} {m : MethodId} {args : Array Value} {below : List Frame} {meth : Method} {c : Code} {cells slots : Nat} {Q : State → Prop} {dC : Nat → ClassId} {dI : Nat → Nat → Nat} {cI cB cJ cZ : ClassId} {A : Nat → Prop} {ad : Nat → Nat} {post : St → Prop} (hx : p.tables.exec = Jvm.exec) (hb : c.code = b_Mod_writeValues) (hml : c.maxLocals = 3) (hown : s.vm.findClass R_Mod = some m.cls) (hT : ∀ w ∈ TG, w.before args s = true) (hK : va_K (dC, dI) CL (TY cI cB cJ cZ) s) (hN : NW s) (hA : ∀ q : Nat, s.heap.size ≤ q → A q) (hRc : cells ≤ R.cells) (hRs : slots ≤ R.slots) (hRf : 5 ≤ R.frames) (hRl : 119 ≤ R.locals) (hret : ∀ (x : St) (H : Heap) (locs : List Loc) (pc : Nat) (ls : Array Slot), decode b_Mod_writeValues pc = .ok (.return_, 1) → post x → Wd dC dI cI cB cJ cZ ad stM kcM 115 A x H → va_S A s.heap H locs → W p l e R s m args below meth c H locs cells slots Q (F0 m pc ls []))  : ∀ n : Nat, ∀ (l1 : Int32) (l2 : Int32) (x : St) (H : Heap) (locs : List Loc) (ls : Array Slot), wl_Mod_writeValues_66 post n l1 l2 x → Wd dC dI cI cB cJ cZ ad stM kcM 115 A x H → va_S A s.heap H locs → lv_has ls 3 [(0, .ref (ad 0)), (1, .int l1), (2, .int l2)] → W p l e R s m args below meth c H locs cells slots Q (F0 m 66 ls []) := by
  intro n
  induction n with
  | zero => intro l1 l2 x H locs ls  hw; exact hw.elim
  | succ n ih => intro l1 l2 x H locs ls  hw hW hS hl; exact t_Mod_writeValues_66 hx hb hml hown hT hK hN hA hRc hRs hRf hRl hret  ih l1 l2 x H locs ls  hw hW hS hl
set_option maxRecDepth 100000 in
def j_Mod_writeValues_64 (post : St → Prop) (l1 : Int32) (x : St) : Prop := ∃ n : Nat, wl_Mod_writeValues_66 post n l1 0 x
set_option maxHeartbeats 4000000 in
set_option maxRecDepth 100000 in
theorem t_Mod_writeValues_64 {p : Program} {l : Launch} {e : Env} {R : Room} {s : State} {m : MethodId} {args : Array Value} {below : List Frame} {meth : Method} {c : Code} {cells slots : Nat} {Q : State → Prop} {dC : Nat → ClassId} {dI : Nat → Nat → Nat} {cI cB cJ cZ : ClassId} {A : Nat → Prop} {ad : Nat → Nat} {post : St → Prop} (hx : p.tables.exec = Jvm.exec) (hb : c.code = b_Mod_writeValues) (hml : c.maxLocals = 3) (hown : s.vm.findClass R_Mod = some m.cls) (hT : ∀ w ∈ TG, w.before args s = true) (hK : va_K (dC, dI) CL (TY cI cB cJ cZ) s) (hN : NW s) (hA : ∀ q : Nat, s.heap.size ≤ q → A q) (hRc : cells ≤ R.cells) (hRs : slots ≤ R.slots) (hRf : 5 ≤ R.frames) (hRl : 119 ≤ R.locals) (hret : ∀ (x : St) (H : Heap) (locs : List Loc) (pc : Nat) (ls : Array Slot), decode b_Mod_writeValues pc = .ok (.return_, 1) → post x → Wd dC dI cI cB cJ cZ ad stM kcM 115 A x H → va_S A s.heap H locs → W p l e R s m args below meth c H locs cells slots Q (F0 m pc ls []))  : ∀ (l1 : Int32) (x : St) (H : Heap) (locs : List Loc) (ls : Array Slot), j_Mod_writeValues_64 post l1 x → Wd dC dI cI cB cJ cZ ad stM kcM 115 A x H → va_S A s.heap H locs → lv_has ls 3 [(0, .ref (ad 0)), (1, .int l1)] → W p l e R s m args below meth c H locs cells slots Q (F0 m 64 ls []) := by
  intro l1 x H locs ls  hw hW hS hl
  unfold j_Mod_writeValues_64 at hw
  refine lv_iconst (v := 0) hx hb d_Mod_writeValues_64 (by decide) ?_
  refine lv_istore_n (lv' := [(2, .int 0), (0, .ref (ad 0)), (1, .int l1)]) hx hb d_Mod_writeValues_65 rfl hl (by decide) rfl (fun ls hl => ?_)
  obtain ⟨n, hw⟩ := hw
  exact tl_Mod_writeValues_66 hx hb hml hown hT hK hN hA hRc hRs hRf hRl hret  n l1 0 x H locs ls  hw hW hS (lv_sub hl [1, 2, 0] rfl)
set_option maxRecDepth 100000 in
def wp_Mod_writeValues (post : St → Prop) (l1 : Int32) (x : St) : Prop := ((¬ (fI x 0 38) = 0 → (((fI x 0 38) = 3 → ((¬ l1 = 1 → ((¬ l1 = 2 → ((¬ l1 = 3 → j_Mod_writeValues_64 post l1 x) ∧ (l1 = 3 → wp_Mod_writeDictionary (fun (x696 : St) => j_Mod_writeValues_64 post l1 x696)  x))) ∧ (l1 = 2 → wp_Mod_writeFront (fun (x697 : St) => j_Mod_writeValues_64 post l1 x697)  x))) ∧ (l1 = 1 → wp_Mod_writeLengths (fun (x698 : St) => j_Mod_writeValues_64 post l1 x698)  x))) ∧ (¬ (fI x 0 38) = 3 → wp_Mod_writeWholes (fun (x699 : St) => j_Mod_writeValues_64 post l1 x699) l1 x))) ∧ ((fI x 0 38) = 0 → wp_Mod_writeBools (fun (x700 : St) => j_Mod_writeValues_64 post l1 x700) l1 x))
set_option maxHeartbeats 4000000 in
set_option maxRecDepth 100000 in
theorem t_Mod_writeValues_e {p : Program} {l : Launch} {e : Env} {R : Room} {s : State} {m : MethodId} {args : Array Value} {below : List Frame} {meth : Method} {c : Code} {cells slots : Nat} {Q : State → Prop} {dC : Nat → ClassId} {dI : Nat → Nat → Nat} {cI cB cJ cZ : ClassId} {A : Nat → Prop} {ad : Nat → Nat} {post : St → Prop} (hx : p.tables.exec = Jvm.exec) (hb : c.code = b_Mod_writeValues) (hml : c.maxLocals = 3) (hown : s.vm.findClass R_Mod = some m.cls) (hT : ∀ w ∈ TG, w.before args s = true) (hK : va_K (dC, dI) CL (TY cI cB cJ cZ) s) (hN : NW s) (hA : ∀ q : Nat, s.heap.size ≤ q → A q) (hRc : cells ≤ R.cells) (hRs : slots ≤ R.slots) (hRf : 5 ≤ R.frames) (hRl : 119 ≤ R.locals) (hret : ∀ (x : St) (H : Heap) (locs : List Loc) (pc : Nat) (ls : Array Slot), decode b_Mod_writeValues pc = .ok (.return_, 1) → post x → Wd dC dI cI cB cJ cZ ad stM kcM 115 A x H → va_S A s.heap H locs → W p l e R s m args below meth c H locs cells slots Q (F0 m pc ls [])) : ∀ (l1 : Int32) (x : St) (H : Heap) (locs : List Loc) (ls : Array Slot), wp_Mod_writeValues post l1 x → Wd dC dI cI cB cJ cZ ad stM kcM 115 A x H → va_S A s.heap H locs → lv_has ls 3 [(0, .ref (ad 0)), (1, .int l1)] → W p l e R s m args below meth c H locs cells slots Q (F0 m 0 ls []) := by
  intro l1 x H locs ls  hw hW hS hl
  unfold wp_Mod_writeValues at hw
  refine lv_aload_n hx hb d_Mod_writeValues_0 rfl (lv_at hl 0 rfl) ?_
  refine w_geti (k := 38) (t := 12) (C := R_Mod) (T := F_Mod) (N := 167) hx hb hT hown hK hW ko_0.1 ko_0.2 (by decide) in_Mod rfl rfl (by decide) rfl fr_Mod_38 w_8_218 d_Mod_writeValues_1 ?_
  refine lv_if_ne (tgt := 15) hx hb d_Mod_writeValues_4 (by decide) (fun c691 => ?_) (fun c691 => ?_)
  · have hw := hw.1 c691
    refine lv_aload_n hx hb d_Mod_writeValues_15 rfl (lv_at hl 0 rfl) ?_
    refine w_geti (k := 38) (t := 12) (C := R_Mod) (T := F_Mod) (N := 167) hx hb hT hown hK hW ko_0.1 ko_0.2 (by decide) in_Mod rfl rfl (by decide) rfl fr_Mod_38 w_8_218 d_Mod_writeValues_16 ?_
    refine lv_iconst (v := 3) hx hb d_Mod_writeValues_19 (by decide) ?_
    refine lv_icmp_eq (tgt := 31) hx hb d_Mod_writeValues_20 (by decide) (fun c692 => ?_) (fun c692 => ?_)
    · have hw := hw.1 c692
      refine lv_iload_n hx hb d_Mod_writeValues_31 rfl (lv_at hl 1 rfl) ?_
      refine lv_iconst (v := 1) hx hb d_Mod_writeValues_32 (by decide) ?_
      refine lv_icmp_ne (tgt := 43) hx hb d_Mod_writeValues_33 (by decide) (fun c693 => ?_) (fun c693 => ?_)
      · have hw := hw.1 c693
        refine lv_iload_n hx hb d_Mod_writeValues_43 rfl (lv_at hl 1 rfl) ?_
        refine lv_iconst (v := 2) hx hb d_Mod_writeValues_44 (by decide) ?_
        refine lv_icmp_ne (tgt := 55) hx hb d_Mod_writeValues_45 (by decide) (fun c694 => ?_) (fun c694 => ?_)
        · have hw := hw.1 c694
          refine lv_iload_n hx hb d_Mod_writeValues_55 rfl (lv_at hl 1 rfl) ?_
          refine lv_iconst (v := 3) hx hb d_Mod_writeValues_56 (by decide) ?_
          refine lv_icmp_ne (tgt := 64) hx hb d_Mod_writeValues_57 (by decide) (fun c695 => ?_) (fun c695 => ?_)
          · have hw := hw.1 c695
            exact t_Mod_writeValues_64 hx hb hml hown hT hK hN hA hRc hRs hRf hRl hret  l1 x H locs ls  hw hW hS (lv_sub hl [0, 1] rfl)
          · have hw := hw.2 c695
            refine lv_aload_n hx hb d_Mod_writeValues_60 rfl (lv_at hl 0 rfl) ?_
            have hF := hW.free hS hA
            refine va_callv (va_runV (C := R_Mod) (As := []) (rest := []) ⟨hx, hb, hml, hown, hT⟩ (k_Mod_writeDictionary l dC dI cI cB cJ cZ ad H.size  x  hw) ⟨callB_of 0 hT (gw_in w_12_23) rfl rfl rfl (hT _ w_1_15) (hT _ w_12_20) (by decide +kernel) ⟨Nat.le_trans (by decide) hRf, Nat.le_trans (by decide) hRl⟩, hT _ w_12_22, hT _ ws_168⟩ ⟨PW.blind, va_recv hK hW.1 (ci := 12) (q0 := 0) rfl (pic_obj ko_0.1 ko_0.2 (by decide)), PW.at _ hW hK hN⟩ rfl rfl hl.1 rfl (lv_room (Nat.le_of_ble_eq_true rfl)) d_Mod_writeValues_61 ⟨hRc, hRs⟩) hS (fun q _ h => hF q h) hF (fun  x696 t H locs ht hvm hw hB hz1 hk1 hS => ?_)
            have hW := Wd.back hB ht hF
            clear hB ht hF hz1 hk1 hvm
            exact t_Mod_writeValues_64 hx hb hml hown hT hK hN hA hRc hRs hRf hRl hret  l1 x696 H locs ls  hw hW hS (lv_sub hl [0, 1] rfl)
        · have hw := hw.2 c694
          refine lv_aload_n hx hb d_Mod_writeValues_48 rfl (lv_at hl 0 rfl) ?_
          have hF := hW.free hS hA
          refine va_callv (va_runV (C := R_Mod) (As := []) (rest := []) ⟨hx, hb, hml, hown, hT⟩ (k_Mod_writeFront l dC dI cI cB cJ cZ ad H.size  x  hw) ⟨callB_of 0 hT (gw_in w_12_15) rfl rfl rfl (hT _ w_1_15) (hT _ w_12_12) (by decide +kernel) ⟨Nat.le_trans (by decide) hRf, Nat.le_trans (by decide) hRl⟩, hT _ w_12_14, hT _ ws_166⟩ ⟨PW.blind, va_recv hK hW.1 (ci := 12) (q0 := 0) rfl (pic_obj ko_0.1 ko_0.2 (by decide)), PW.at _ hW hK hN⟩ rfl rfl hl.1 rfl (lv_room (Nat.le_of_ble_eq_true rfl)) d_Mod_writeValues_49 ⟨hRc, hRs⟩) hS (fun q _ h => hF q h) hF (fun  x697 t H locs ht hvm hw hB hz1 hk1 hS => ?_)
          have hW := Wd.back hB ht hF
          clear hB ht hF hz1 hk1 hvm
          refine lv_goto (tgt := 64) hx hb d_Mod_writeValues_52 (by decide) ?_
          exact t_Mod_writeValues_64 hx hb hml hown hT hK hN hA hRc hRs hRf hRl hret  l1 x697 H locs ls  hw hW hS (lv_sub hl [0, 1] rfl)
      · have hw := hw.2 c693
        refine lv_aload_n hx hb d_Mod_writeValues_36 rfl (lv_at hl 0 rfl) ?_
        have hF := hW.free hS hA
        refine va_callv (va_runV (C := R_Mod) (As := []) (rest := []) ⟨hx, hb, hml, hown, hT⟩ (k_Mod_writeLengths l dC dI cI cB cJ cZ ad H.size  x  hw) ⟨callB_of 0 hT (gw_in w_12_3) rfl rfl rfl (hT _ w_1_15) (hT _ w_12_0) (by decide +kernel) ⟨Nat.le_trans (by decide) hRf, Nat.le_trans (by decide) hRl⟩, hT _ w_12_2, hT _ ws_163⟩ ⟨PW.blind, va_recv hK hW.1 (ci := 12) (q0 := 0) rfl (pic_obj ko_0.1 ko_0.2 (by decide)), PW.at _ hW hK hN⟩ rfl rfl hl.1 rfl (lv_room (Nat.le_of_ble_eq_true rfl)) d_Mod_writeValues_37 ⟨hRc, hRs⟩) hS (fun q _ h => hF q h) hF (fun  x698 t H locs ht hvm hw hB hz1 hk1 hS => ?_)
        have hW := Wd.back hB ht hF
        clear hB ht hF hz1 hk1 hvm
        refine lv_goto (tgt := 64) hx hb d_Mod_writeValues_40 (by decide) ?_
        exact t_Mod_writeValues_64 hx hb hml hown hT hK hN hA hRc hRs hRf hRl hret  l1 x698 H locs ls  hw hW hS (lv_sub hl [0, 1] rfl)
    · have hw := hw.2 c692
      refine lv_aload_n hx hb d_Mod_writeValues_23 rfl (lv_at hl 0 rfl) ?_
      refine lv_iload_n hx hb d_Mod_writeValues_24 rfl (lv_at hl 1 rfl) ?_
      have hF := hW.free hS hA
      refine va_callv (va_runV (C := R_Mod) (As := [.int l1]) (rest := []) ⟨hx, hb, hml, hown, hT⟩ (k_Mod_writeWholes l dC dI cI cB cJ cZ ad H.size l1 x  hw) ⟨callB_of 1 hT (gw_in w_11_207) rfl rfl rfl (hT _ w_1_15) (hT _ w_11_204) (by decide +kernel) ⟨Nat.le_trans (by decide) hRf, Nat.le_trans (by decide) hRl⟩, hT _ w_11_206, hT _ ws_155⟩ ⟨PW.blind, va_recv hK hW.1 (ci := 12) (q0 := 0) rfl (pic_obj ko_0.1 ko_0.2 (by decide)), PW.at _ hW hK hN⟩ rfl rfl hl.1 rfl (lv_room (Nat.le_of_ble_eq_true rfl)) d_Mod_writeValues_25 ⟨hRc, hRs⟩) hS (fun q _ h => hF q h) hF (fun  x699 t H locs ht hvm hw hB hz1 hk1 hS => ?_)
      have hW := Wd.back hB ht hF
      clear hB ht hF hz1 hk1 hvm
      refine lv_goto (tgt := 64) hx hb d_Mod_writeValues_28 (by decide) ?_
      exact t_Mod_writeValues_64 hx hb hml hown hT hK hN hA hRc hRs hRf hRl hret  l1 x699 H locs ls  hw hW hS (lv_sub hl [0, 1] rfl)
  · have hw := hw.2 c691
    refine lv_aload_n hx hb d_Mod_writeValues_7 rfl (lv_at hl 0 rfl) ?_
    refine lv_iload_n hx hb d_Mod_writeValues_8 rfl (lv_at hl 1 rfl) ?_
    have hF := hW.free hS hA
    refine va_callv (va_runV (C := R_Mod) (As := [.int l1]) (rest := []) ⟨hx, hb, hml, hown, hT⟩ (k_Mod_writeBools l dC dI cI cB cJ cZ ad H.size l1 x  hw) ⟨callB_of 1 hT (gw_in w_11_186) rfl rfl rfl (hT _ w_1_15) (hT _ w_11_183) (by decide +kernel) ⟨Nat.le_trans (by decide) hRf, Nat.le_trans (by decide) hRl⟩, hT _ w_11_185, hT _ ws_151⟩ ⟨PW.blind, va_recv hK hW.1 (ci := 12) (q0 := 0) rfl (pic_obj ko_0.1 ko_0.2 (by decide)), PW.at _ hW hK hN⟩ rfl rfl hl.1 rfl (lv_room (Nat.le_of_ble_eq_true rfl)) d_Mod_writeValues_9 ⟨hRc, hRs⟩) hS (fun q _ h => hF q h) hF (fun  x700 t H locs ht hvm hw hB hz1 hk1 hS => ?_)
    have hW := Wd.back hB ht hF
    clear hB ht hF hz1 hk1 hvm
    refine lv_goto (tgt := 64) hx hb d_Mod_writeValues_12 (by decide) ?_
    exact t_Mod_writeValues_64 hx hb hml hown hT hK hN hA hRc hRs hRf hRl hret  l1 x700 H locs ls  hw hW hS (lv_sub hl [0, 1] rfl)
set_option maxHeartbeats 4000000 in
set_option maxRecDepth 100000 in
theorem k_Mod_writeValues (l : Launch) (dC : Nat → ClassId) (dI : Nat → Nat → Nat) (cI cB cJ cZ : ClassId) (ad : Nat → Nat) (sz : Nat) (l1 : Int32) (x : St) {post : St → Prop} (hw : wp_Mod_writeValues post l1 x) : Met l y_Mod_writeValues (wsOf y_Mod_writeValues b_Mod_writeValues 3 (none)) ({ frames := 5, cells := 0, slots := 0, locals := 119 }) (va_Pc [.ref (ad 0), .int l1] (PW dC dI cI cB cJ cZ ad stM kcM 115 sz x)) (va_Qv (fun (y : St) => post y) (fun y t => Wd dC dI cI cB cJ cZ ad stM kcM 115 (va_A (pic ad stM kcM 115 cI cB cJ cZ x) sz) y t.heap) (va_A (pic ad stM kcM 115 cI cB cJ cZ x) sz)) 0 0 (va_A (pic ad stM kcM 115 cI cB cJ cZ x) sz) := by
  refine Met.ofW (cc := b_Mod_writeValues) (maxL := 3) (ret := none) (by decide) rfl ?_
  intro p e s m args below meth c s₁ B hml hv
  obtain ⟨rfl, hsz, hW0, hK, hN⟩ := hv
  have hx := B.exec
  have hb := B.bytes
  have hr := B.returns
  have hts := atoms_spec B.pre
  have hT : ∀ w ∈ TG, w.before _ s = true := fun w h => hts w (List.mem_cons_of_mem _ h)
  have hown : s.vm.findClass R_Mod = some m.cls := findClass_of_methodNamed B.named
  have hlocks := B.notSynchronized
  subst hsz
  have hW : Wd dC dI cI cB cJ cZ ad stM kcM 115 (va_A (pic ad stM kcM 115 cI cB cJ cZ x) s.heap.size) x s.heap := ⟨hW0.1, hW0.2.1.self (sz := s.heap.size), hW0.2.2⟩
  generalize hAe : va_A (pic ad stM kcM 115 cI cB cJ cZ x) s.heap.size = A at hW ⊢
  have hA : ∀ q : Nat, s.heap.size ≤ q → A q := fun q h => by rw [← hAe]; exact Or.inr h
  have hS : va_S A s.heap s.heap [] := va_S.rf
  have hl := lv_entry ([.ref (ad 0), .int l1]) (n := 3) (Nat.le_of_ble_eq_true rfl)
  rw [lg_entry_eq]
  generalize (lg_sl ([.ref (ad 0), .int l1]) ++ List.replicate (3 - (lg_sl ([.ref (ad 0), .int l1])).length) Slot.unset).toArray = ls at hl ⊢
  have hl : lv_has ls 3 [(0, .ref (ad 0)), (1, .int l1)] := hl
  exact t_Mod_writeValues_e hx hb hml hown hT hK hN hA (Nat.le_refl 0) (Nat.le_refl 0) (Nat.le_refl 5) (Nat.le_refl 119) (fun x H locs pc ls hd hp hW hS => W.vret hx hb hr (fun t ht hM => ⟨⟨x, rfl, hp, Wd.back hW ht.symm (fun _ z => z)⟩, hS.F ht⟩) hS.2.2 hd hlocks)  l1 x _ _ ls  hw hW hS hl
set_option maxRecDepth 100000 in
def j_Mod_putLevels_7 (post : St → Prop) (rec7 : Nat → Int32 → Int32 → St → Prop) (l1 : Nat) (l2 : Int32) (l3 : Int32) (x : St) : Prop := (((l2 >>> (l3 &&& 31)) ≤ 0 → (∀ v702 : Int32, v702 = (fI x 0 64) → wp_Mod_writeRuns (fun (x703 : St) => (∀ v704 : Int32, v704 = ((fI x703 0 64) - v702) → (∀ x705 : St, x705 = setI x703 0 64 v702 → wp_Mod_putVarint (fun (x706 : St) => wp_Mod_writeRuns (fun (x707 : St) => post x707) l1 (fI x706 0 41) l3 x706) (v704 : Int32).toInt64 x705))) l1 (fI x 0 41) l3 x)) ∧ (¬ (l2 >>> (l3 &&& 31)) ≤ 0 → rec7 l1 l2 (l3 + 1) x))
set_option maxHeartbeats 4000000 in
set_option maxRecDepth 100000 in
theorem t_Mod_putLevels_7 {p : Program} {l : Launch} {e : Env} {R : Room} {s : State} {m : MethodId} {args : Array Value} {below : List Frame} {meth : Method} {c : Code} {cells slots : Nat} {Q : State → Prop} {dC : Nat → ClassId} {dI : Nat → Nat → Nat} {cI cB cJ cZ : ClassId} {A : Nat → Prop} {ad : Nat → Nat} {post : St → Prop} {rec7 : Nat → Int32 → Int32 → St → Prop} (hx : p.tables.exec = Jvm.exec) (hb : c.code = b_Mod_putLevels) (hml : c.maxLocals = 6) (hown : s.vm.findClass R_Mod = some m.cls) (hT : ∀ w ∈ TG, w.before args s = true) (hK : va_K (dC, dI) CL (TY cI cB cJ cZ) s) (hN : NW s) (hA : ∀ q : Nat, s.heap.size ≤ q → A q) (hRc : cells ≤ R.cells) (hRs : slots ≤ R.slots) (hRf : 3 ≤ R.frames) (hRl : 75 ≤ R.locals) (hret : ∀ (x : St) (H : Heap) (locs : List Loc) (pc : Nat) (ls : Array Slot), decode b_Mod_putLevels pc = .ok (.return_, 1) → post x → Wd dC dI cI cB cJ cZ ad stM kcM 115 A x H → va_S A s.heap H locs → W p l e R s m args below meth c H locs cells slots Q (F0 m pc ls [])) (hrec7 : ∀ (l1 : Nat) (l2 : Int32) (l3 : Int32) (x : St) (H : Heap) (locs : List Loc) (ls : Array Slot), (l1 < 115 ∧ kcM l1 = 20) → rec7 l1 l2 l3 x → Wd dC dI cI cB cJ cZ ad stM kcM 115 A x H → va_S A s.heap H locs → lv_has ls 6 [(0, .ref (ad 0)), (1, .ref (ad l1)), (2, .int l2), (3, .int l3)] → W p l e R s m args below meth c H locs cells slots Q (F0 m 7 ls [])) : ∀ (l1 : Nat) (l2 : Int32) (l3 : Int32) (x : St) (H : Heap) (locs : List Loc) (ls : Array Slot), (l1 < 115 ∧ kcM l1 = 20) → j_Mod_putLevels_7 post rec7 l1 l2 l3 x → Wd dC dI cI cB cJ cZ ad stM kcM 115 A x H → va_S A s.heap H locs → lv_has ls 6 [(0, .ref (ad 0)), (1, .ref (ad l1)), (2, .int l2), (3, .int l3)] → W p l e R s m args below meth c H locs cells slots Q (F0 m 7 ls []) := by
  intro l1 l2 l3 x H locs ls fl1 hw hW hS hl
  unfold j_Mod_putLevels_7 at hw
  refine lv_iload_n hx hb d_Mod_putLevels_7 rfl (lv_at hl 2 rfl) ?_
  refine lv_iload_n hx hb d_Mod_putLevels_8 rfl (lv_at hl 3 rfl) ?_
  refine lv_ishr hx hb d_Mod_putLevels_9 ?_
  refine lv_if_le (tgt := 19) hx hb d_Mod_putLevels_10 (by decide) (fun c701 => ?_) (fun c701 => ?_)
  · have hw := hw.1 c701
    refine lv_aload_n hx hb d_Mod_putLevels_19 rfl (lv_at hl 0 rfl) ?_
    refine w_geti (k := 64) (t := 12) (C := R_Mod) (T := F_Mod) (N := 167) hx hb hT hown hK hW ko_0.1 ko_0.2 (by decide) in_Mod rfl rfl (by decide) rfl fr_Mod_64 w_9_4 d_Mod_putLevels_20 ?_
    refine lv_topi (fun v702 ev702 => ?_)
    have hw := hw v702 ev702
    refine lv_istore (lv' := [(4, .int v702), (0, .ref (ad 0)), (1, .ref (ad l1)), (2, .int l2), (3, .int l3)]) hx hb d_Mod_putLevels_23 hl (by decide) rfl (fun ls hl => ?_)
    refine lv_aload_n hx hb d_Mod_putLevels_25 rfl (lv_at hl 1 rfl) ?_
    refine lv_aload_n hx hb d_Mod_putLevels_26 rfl (lv_at hl 2 rfl) ?_
    refine lv_aload_n hx hb d_Mod_putLevels_27 rfl (lv_at hl 1 rfl) ?_
    refine w_geti (k := 41) (t := 12) (C := R_Mod) (T := F_Mod) (N := 167) hx hb hT hown hK hW ko_0.1 ko_0.2 (by decide) in_Mod rfl rfl (by decide) rfl fr_Mod_41 w_8_221 d_Mod_putLevels_28 ?_
    refine lv_iload_n hx hb d_Mod_putLevels_31 rfl (lv_at hl 4 rfl) ?_
    have hF := hW.free hS hA
    refine va_callv (va_runV (C := R_Mod) (As := [.ref (ad l1), .int (fI x 0 41), .int l3]) (rest := []) ⟨hx, hb, hml, hown, hT⟩ (k_Mod_writeRuns l dC dI cI cB cJ cZ ad H.size l1 (fI x 0 41) l3 x fl1 hw) ⟨callB_of 3 hT (gw_in w_11_190) rfl rfl rfl (hT _ w_1_15) (hT _ w_11_187) (by decide +kernel) ⟨Nat.le_trans (by decide) hRf, Nat.le_trans (by decide) hRl⟩, hT _ w_11_189, hT _ ws_152⟩ ⟨PW.blind, va_recv hK hW.1 (ci := 12) (q0 := 0) rfl (pic_obj ko_0.1 ko_0.2 (by decide)), PW.at _ hW hK hN⟩ rfl rfl hl.1 rfl (lv_room (Nat.le_of_ble_eq_true rfl)) d_Mod_putLevels_32 ⟨hRc, hRs⟩) hS (fun q _ h => hF q h) hF (fun  x703 t H locs ht hvm hw hB hz1 hk1 hS => ?_)
    have hW := Wd.back hB ht hF
    clear hB ht hF hz1 hk1 hvm
    refine lv_aload_n hx hb d_Mod_putLevels_35 rfl (lv_at hl 1 rfl) ?_
    refine w_geti (k := 64) (t := 12) (C := R_Mod) (T := F_Mod) (N := 167) hx hb hT hown hK hW ko_0.1 ko_0.2 (by decide) in_Mod rfl rfl (by decide) rfl fr_Mod_64 w_9_4 d_Mod_putLevels_36 ?_
    refine lv_iload hx hb d_Mod_putLevels_39 (lv_at hl 0 rfl) ?_
    refine lv_isub hx hb d_Mod_putLevels_41 ?_
    refine lv_topi (fun v704 ev704 => ?_)
    have hw := hw v704 ev704
    refine lv_istore (lv' := [(5, .int v704), (4, .int v702), (0, .ref (ad 0)), (1, .ref (ad l1)), (2, .int l2), (3, .int l3)]) hx hb d_Mod_putLevels_42 hl (by decide) rfl (fun ls hl => ?_)
    refine lv_aload_n hx hb d_Mod_putLevels_44 rfl (lv_at hl 2 rfl) ?_
    refine lv_iload hx hb d_Mod_putLevels_45 (lv_at hl 1 rfl) ?_
    refine w_puti (ty := .int) (k := 64) (t := 12) (C := R_Mod) (T := F_Mod) (N := 167) hx hb hT hown hK hW hS ko_0.1 ko_0.2 (by decide) in_Mod t_Mod t_Mod_ok n_Mod rfl rfl (by decide) rfl fr_Mod_64 w_9_4 (by decide +kernel) rfl rfl d_Mod_putLevels_47 (fun H locs hW hS => ?_)
    obtain ⟨x705, ex705⟩ : ∃ y : St, y = setI x703 0 64 v702 := ⟨_, rfl⟩
    rw [← ex705] at hW
    have hw := hw x705 ex705
    refine lv_aload_n hx hb d_Mod_putLevels_50 rfl (lv_at hl 2 rfl) ?_
    refine lv_iload hx hb d_Mod_putLevels_51 (lv_at hl 0 rfl) ?_
    refine lv_i2l hx hb d_Mod_putLevels_53 rfl ?_
    have hF := hW.free hS hA
    refine va_callv (va_runV (C := R_Mod) (As := [.long (v704 : Int32).toInt64]) (rest := []) ⟨hx, hb, hml, hown, hT⟩ (k_Mod_putVarint l dC dI cI cB cJ cZ ad H.size (v704 : Int32).toInt64 x705  hw) ⟨callB_of 1 hT (gw_in w_11_198) rfl rfl rfl (hT _ w_1_15) (hT _ w_11_195) (by decide +kernel) ⟨Nat.le_trans (by decide) hRf, Nat.le_trans (by decide) hRl⟩, hT _ w_11_197, hT _ ws_153⟩ ⟨PW.blind, va_recv hK hW.1 (ci := 12) (q0 := 0) rfl (pic_obj ko_0.1 ko_0.2 (by decide)), PW.at _ hW hK hN⟩ rfl rfl hl.1 rfl (lv_room (Nat.le_of_ble_eq_true rfl)) d_Mod_putLevels_54 ⟨hRc, hRs⟩) hS (fun q _ h => hF q h) hF (fun  x706 t H locs ht hvm hw hB hz1 hk1 hS => ?_)
    have hW := Wd.back hB ht hF
    clear hB ht hF hz1 hk1 hvm
    refine lv_aload_n hx hb d_Mod_putLevels_57 rfl (lv_at hl 2 rfl) ?_
    refine lv_aload_n hx hb d_Mod_putLevels_58 rfl (lv_at hl 3 rfl) ?_
    refine lv_aload_n hx hb d_Mod_putLevels_59 rfl (lv_at hl 2 rfl) ?_
    refine w_geti (k := 41) (t := 12) (C := R_Mod) (T := F_Mod) (N := 167) hx hb hT hown hK hW ko_0.1 ko_0.2 (by decide) in_Mod rfl rfl (by decide) rfl fr_Mod_41 w_8_221 d_Mod_putLevels_60 ?_
    refine lv_iload_n hx hb d_Mod_putLevels_63 rfl (lv_at hl 5 rfl) ?_
    have hF := hW.free hS hA
    refine va_callv (va_runV (C := R_Mod) (As := [.ref (ad l1), .int (fI x706 0 41), .int l3]) (rest := []) ⟨hx, hb, hml, hown, hT⟩ (k_Mod_writeRuns l dC dI cI cB cJ cZ ad H.size l1 (fI x706 0 41) l3 x706 fl1 hw) ⟨callB_of 3 hT (gw_in w_11_190) rfl rfl rfl (hT _ w_1_15) (hT _ w_11_187) (by decide +kernel) ⟨Nat.le_trans (by decide) hRf, Nat.le_trans (by decide) hRl⟩, hT _ w_11_189, hT _ ws_152⟩ ⟨PW.blind, va_recv hK hW.1 (ci := 12) (q0 := 0) rfl (pic_obj ko_0.1 ko_0.2 (by decide)), PW.at _ hW hK hN⟩ rfl rfl hl.1 rfl (lv_room (Nat.le_of_ble_eq_true rfl)) d_Mod_putLevels_64 ⟨hRc, hRs⟩) hS (fun q _ h => hF q h) hF (fun  x707 t H locs ht hvm hw hB hz1 hk1 hS => ?_)
    have hW := Wd.back hB ht hF
    clear hB ht hF hz1 hk1 hvm
    exact hret x707 H locs 67 ls d_Mod_putLevels_67 hw hW hS
  · have hw := hw.2 c701
    refine lv_iinc (v := (l3 + 1)) (lv' := [(3, .int (l3 + 1)), (0, .ref (ad 0)), (1, .ref (ad l1)), (2, .int l2)]) hx hb d_Mod_putLevels_13 hl (k := 3) rfl rfl (by decide) rfl (fun ls hl => ?_)
    refine lv_goto (tgt := 7) hx hb d_Mod_putLevels_16 (by decide) ?_
    exact hrec7 l1 l2 (l3 + 1) x H locs ls fl1 hw hW hS (lv_sub hl [1, 2, 3, 0] rfl)
def wl_Mod_putLevels_7 (post : St → Prop) : Nat → Nat → Int32 → Int32 → St → Prop
  | 0 => fun _ _ _ _ => False
  | n + 1 => j_Mod_putLevels_7 post (wl_Mod_putLevels_7 post n)
set_option maxHeartbeats 4000000 in
set_option maxRecDepth 100000 in
theorem tl_Mod_putLevels_7 {p : Program} {l : Launch} {e : Env} {R : Room} {s : State} {m : MethodId} {args : Array Value} {below : List Frame} {meth : Method} {c : Code} {cells slots : Nat} {Q : State → Prop} {dC : Nat → ClassId} {dI : Nat → Nat → Nat} {cI cB cJ cZ : ClassId} {A : Nat → Prop} {ad : Nat → Nat} {post : St → Prop} (hx : p.tables.exec = Jvm.exec) (hb : c.code = b_Mod_putLevels) (hml : c.maxLocals = 6) (hown : s.vm.findClass R_Mod = some m.cls) (hT : ∀ w ∈ TG, w.before args s = true) (hK : va_K (dC, dI) CL (TY cI cB cJ cZ) s) (hN : NW s) (hA : ∀ q : Nat, s.heap.size ≤ q → A q) (hRc : cells ≤ R.cells) (hRs : slots ≤ R.slots) (hRf : 3 ≤ R.frames) (hRl : 75 ≤ R.locals) (hret : ∀ (x : St) (H : Heap) (locs : List Loc) (pc : Nat) (ls : Array Slot), decode b_Mod_putLevels pc = .ok (.return_, 1) → post x → Wd dC dI cI cB cJ cZ ad stM kcM 115 A x H → va_S A s.heap H locs → W p l e R s m args below meth c H locs cells slots Q (F0 m pc ls []))  : ∀ n : Nat, ∀ (l1 : Nat) (l2 : Int32) (l3 : Int32) (x : St) (H : Heap) (locs : List Loc) (ls : Array Slot), (l1 < 115 ∧ kcM l1 = 20) → wl_Mod_putLevels_7 post n l1 l2 l3 x → Wd dC dI cI cB cJ cZ ad stM kcM 115 A x H → va_S A s.heap H locs → lv_has ls 6 [(0, .ref (ad 0)), (1, .ref (ad l1)), (2, .int l2), (3, .int l3)] → W p l e R s m args below meth c H locs cells slots Q (F0 m 7 ls []) := by
  intro n
  induction n with
  | zero => intro l1 l2 l3 x H locs ls fl1 hw; exact hw.elim
  | succ n ih => intro l1 l2 l3 x H locs ls fl1 hw hW hS hl; exact t_Mod_putLevels_7 hx hb hml hown hT hK hN hA hRc hRs hRf hRl hret  ih l1 l2 l3 x H locs ls fl1 hw hW hS hl
set_option maxRecDepth 100000 in
def wp_Mod_putLevels (post : St → Prop) (l1 : Nat) (l2 : Int32) (x : St) : Prop := ((¬ l2 = 0 → ∃ n : Nat, wl_Mod_putLevels_7 post n l1 l2 0 x) ∧ (l2 = 0 → post x))
set_option maxHeartbeats 4000000 in
set_option maxRecDepth 100000 in
theorem t_Mod_putLevels_e {p : Program} {l : Launch} {e : Env} {R : Room} {s : State} {m : MethodId} {args : Array Value} {below : List Frame} {meth : Method} {c : Code} {cells slots : Nat} {Q : State → Prop} {dC : Nat → ClassId} {dI : Nat → Nat → Nat} {cI cB cJ cZ : ClassId} {A : Nat → Prop} {ad : Nat → Nat} {post : St → Prop} (hx : p.tables.exec = Jvm.exec) (hb : c.code = b_Mod_putLevels) (hml : c.maxLocals = 6) (hown : s.vm.findClass R_Mod = some m.cls) (hT : ∀ w ∈ TG, w.before args s = true) (hK : va_K (dC, dI) CL (TY cI cB cJ cZ) s) (hN : NW s) (hA : ∀ q : Nat, s.heap.size ≤ q → A q) (hRc : cells ≤ R.cells) (hRs : slots ≤ R.slots) (hRf : 3 ≤ R.frames) (hRl : 75 ≤ R.locals) (hret : ∀ (x : St) (H : Heap) (locs : List Loc) (pc : Nat) (ls : Array Slot), decode b_Mod_putLevels pc = .ok (.return_, 1) → post x → Wd dC dI cI cB cJ cZ ad stM kcM 115 A x H → va_S A s.heap H locs → W p l e R s m args below meth c H locs cells slots Q (F0 m pc ls [])) : ∀ (l1 : Nat) (l2 : Int32) (x : St) (H : Heap) (locs : List Loc) (ls : Array Slot), (l1 < 115 ∧ kcM l1 = 20) → wp_Mod_putLevels post l1 l2 x → Wd dC dI cI cB cJ cZ ad stM kcM 115 A x H → va_S A s.heap H locs → lv_has ls 6 [(0, .ref (ad 0)), (1, .ref (ad l1)), (2, .int l2)] → W p l e R s m args below meth c H locs cells slots Q (F0 m 0 ls []) := by
  intro l1 l2 x H locs ls fl1 hw hW hS hl
  unfold wp_Mod_putLevels at hw
  refine lv_iload_n hx hb d_Mod_putLevels_0 rfl (lv_at hl 2 rfl) ?_
  refine lv_if_ne (tgt := 5) hx hb d_Mod_putLevels_1 (by decide) (fun c708 => ?_) (fun c708 => ?_)
  · have hw := hw.1 c708
    refine lv_iconst (v := 0) hx hb d_Mod_putLevels_5 (by decide) ?_
    refine lv_istore_n (lv' := [(3, .int 0), (0, .ref (ad 0)), (1, .ref (ad l1)), (2, .int l2)]) hx hb d_Mod_putLevels_6 rfl hl (by decide) rfl (fun ls hl => ?_)
    obtain ⟨n, hw⟩ := hw
    exact tl_Mod_putLevels_7 hx hb hml hown hT hK hN hA hRc hRs hRf hRl hret  n l1 l2 0 x H locs ls fl1 hw hW hS (lv_sub hl [1, 2, 3, 0] rfl)
  · have hw := hw.2 c708
    exact hret x H locs 4 ls d_Mod_putLevels_4 hw hW hS
set_option maxHeartbeats 4000000 in
set_option maxRecDepth 100000 in
theorem k_Mod_putLevels (l : Launch) (dC : Nat → ClassId) (dI : Nat → Nat → Nat) (cI cB cJ cZ : ClassId) (ad : Nat → Nat) (sz : Nat) (l1 : Nat) (l2 : Int32) (x : St) (fl1 : l1 < 115 ∧ kcM l1 = 20) {post : St → Prop} (hw : wp_Mod_putLevels post l1 l2 x) : Met l y_Mod_putLevels (wsOf y_Mod_putLevels b_Mod_putLevels 6 (none)) ({ frames := 3, cells := 0, slots := 0, locals := 75 }) (va_Pc [.ref (ad 0), .ref (ad l1), .int l2] (PW dC dI cI cB cJ cZ ad stM kcM 115 sz x)) (va_Qv (fun (y : St) => post y) (fun y t => Wd dC dI cI cB cJ cZ ad stM kcM 115 (va_A (pic ad stM kcM 115 cI cB cJ cZ x) sz) y t.heap) (va_A (pic ad stM kcM 115 cI cB cJ cZ x) sz)) 0 0 (va_A (pic ad stM kcM 115 cI cB cJ cZ x) sz) := by
  refine Met.ofW (cc := b_Mod_putLevels) (maxL := 6) (ret := none) (by decide) rfl ?_
  intro p e s m args below meth c s₁ B hml hv
  obtain ⟨rfl, hsz, hW0, hK, hN⟩ := hv
  have hx := B.exec
  have hb := B.bytes
  have hr := B.returns
  have hts := atoms_spec B.pre
  have hT : ∀ w ∈ TG, w.before _ s = true := fun w h => hts w (List.mem_cons_of_mem _ h)
  have hown : s.vm.findClass R_Mod = some m.cls := findClass_of_methodNamed B.named
  have hlocks := B.notSynchronized
  subst hsz
  have hW : Wd dC dI cI cB cJ cZ ad stM kcM 115 (va_A (pic ad stM kcM 115 cI cB cJ cZ x) s.heap.size) x s.heap := ⟨hW0.1, hW0.2.1.self (sz := s.heap.size), hW0.2.2⟩
  generalize hAe : va_A (pic ad stM kcM 115 cI cB cJ cZ x) s.heap.size = A at hW ⊢
  have hA : ∀ q : Nat, s.heap.size ≤ q → A q := fun q h => by rw [← hAe]; exact Or.inr h
  have hS : va_S A s.heap s.heap [] := va_S.rf
  have hl := lv_entry ([.ref (ad 0), .ref (ad l1), .int l2]) (n := 6) (Nat.le_of_ble_eq_true rfl)
  rw [lg_entry_eq]
  generalize (lg_sl ([.ref (ad 0), .ref (ad l1), .int l2]) ++ List.replicate (6 - (lg_sl ([.ref (ad 0), .ref (ad l1), .int l2])).length) Slot.unset).toArray = ls at hl ⊢
  have hl : lv_has ls 6 [(0, .ref (ad 0)), (1, .ref (ad l1)), (2, .int l2)] := hl
  exact t_Mod_putLevels_e hx hb hml hown hT hK hN hA (Nat.le_refl 0) (Nat.le_refl 0) (Nat.le_refl 3) (Nat.le_refl 75) (fun x H locs pc ls hd hp hW hS => W.vret hx hb hr (fun t ht hM => ⟨⟨x, rfl, hp, Wd.back hW ht.symm (fun _ z => z)⟩, hS.F ht⟩) hS.2.2 hd hlocks)  l1 l2 x _ _ ls fl1 hw hW hS hl
set_option maxRecDepth 100000 in
def j_Mod_compareValues_133 (post : Int32 → St → Prop) (l1 : Int32) (l2 : Int32) (l3 : Int32) (x : St) : Prop := wp_Mod_lengthOf (fun (r710 : Int32) (x709 : St) => wp_Mod_lengthOf (fun (r712 : Int32) (x711 : St) => post (r710 - r712) x711) l2 x709) l1 x
set_option maxHeartbeats 4000000 in
set_option maxRecDepth 100000 in
theorem t_Mod_compareValues_133 {p : Program} {l : Launch} {e : Env} {R : Room} {s : State} {m : MethodId} {args : Array Value} {below : List Frame} {meth : Method} {c : Code} {cells slots : Nat} {Q : State → Prop} {dC : Nat → ClassId} {dI : Nat → Nat → Nat} {cI cB cJ cZ : ClassId} {A : Nat → Prop} {ad : Nat → Nat} {post : Int32 → St → Prop} (hx : p.tables.exec = Jvm.exec) (hb : c.code = b_Mod_compareValues) (hml : c.maxLocals = 4) (hown : s.vm.findClass R_Mod = some m.cls) (hT : ∀ w ∈ TG, w.before args s = true) (hK : va_K (dC, dI) CL (TY cI cB cJ cZ) s) (hN : NW s) (hA : ∀ q : Nat, s.heap.size ≤ q → A q) (hRc : cells ≤ R.cells) (hRs : slots ≤ R.slots) (hRf : 1 ≤ R.frames) (hRl : 21 ≤ R.locals) (hret : ∀ (r : Int32) (x : St) (H : Heap) (locs : List Loc) (pc : Nat) (ls : Array Slot), decode b_Mod_compareValues pc = .ok (.ireturn, 1) → post r x → Wd dC dI cI cB cJ cZ ad stM kcM 115 A x H → va_S A s.heap H locs → W p l e R s m args below meth c H locs cells slots Q (F0 m pc ls [.int r]))  : ∀ (l1 : Int32) (l2 : Int32) (l3 : Int32) (x : St) (H : Heap) (locs : List Loc) (ls : Array Slot), j_Mod_compareValues_133 post l1 l2 l3 x → Wd dC dI cI cB cJ cZ ad stM kcM 115 A x H → va_S A s.heap H locs → lv_has ls 4 [(0, .ref (ad 0)), (1, .int l1), (2, .int l2), (3, .int l3)] → W p l e R s m args below meth c H locs cells slots Q (F0 m 133 ls []) := by
  intro l1 l2 l3 x H locs ls  hw hW hS hl
  unfold j_Mod_compareValues_133 at hw
  refine lv_aload_n hx hb d_Mod_compareValues_133 rfl (lv_at hl 0 rfl) ?_
  refine lv_iload_n hx hb d_Mod_compareValues_134 rfl (lv_at hl 1 rfl) ?_
  have hF := hW.free hS hA
  refine va_calli (va_runV (C := R_Mod) (As := [.int l1]) (rest := []) ⟨hx, hb, hml, hown, hT⟩ (k_Mod_lengthOf l dC dI cI cB cJ cZ ad H.size l1 x  hw) ⟨callB_of 1 hT (gw_in w_12_7) rfl rfl rfl (hT _ w_1_15) (hT _ w_12_4) (by decide +kernel) ⟨Nat.le_trans (by decide) hRf, Nat.le_trans (by decide) hRl⟩, hT _ w_12_6, hT _ ws_164⟩ ⟨PW.blind, va_recv hK hW.1 (ci := 12) (q0 := 0) rfl (pic_obj ko_0.1 ko_0.2 (by decide)), PW.at _ hW hK hN⟩ rfl rfl hl.1 rfl (lv_room (Nat.le_of_ble_eq_true rfl)) d_Mod_compareValues_135 ⟨hRc, hRs⟩) hS (fun q _ h => hF q h) hF (fun r710 x709 t H locs ht hvm hw hB hz1 hk1 hS => ?_)
  have hW := Wd.back hB ht hF
  clear hB ht hF hz1 hk1 hvm
  refine lv_aload_n hx hb d_Mod_compareValues_138 rfl (lv_at hl 0 rfl) ?_
  refine lv_iload_n hx hb d_Mod_compareValues_139 rfl (lv_at hl 2 rfl) ?_
  have hF := hW.free hS hA
  refine va_calli (va_runV (C := R_Mod) (As := [.int l2]) (rest := [.int r710]) ⟨hx, hb, hml, hown, hT⟩ (k_Mod_lengthOf l dC dI cI cB cJ cZ ad H.size l2 x709  hw) ⟨callB_of 1 hT (gw_in w_12_7) rfl rfl rfl (hT _ w_1_15) (hT _ w_12_4) (by decide +kernel) ⟨Nat.le_trans (by decide) hRf, Nat.le_trans (by decide) hRl⟩, hT _ w_12_6, hT _ ws_164⟩ ⟨PW.blind, va_recv hK hW.1 (ci := 12) (q0 := 0) rfl (pic_obj ko_0.1 ko_0.2 (by decide)), PW.at _ hW hK hN⟩ rfl rfl hl.1 rfl (lv_room (Nat.le_of_ble_eq_true rfl)) d_Mod_compareValues_140 ⟨hRc, hRs⟩) hS (fun q _ h => hF q h) hF (fun r712 x711 t H locs ht hvm hw hB hz1 hk1 hS => ?_)
  have hW := Wd.back hB ht hF
  clear hB ht hF hz1 hk1 hvm
  refine lv_isub hx hb d_Mod_compareValues_143 ?_
  exact hret (r710 - r712) x711 H locs 144 ls d_Mod_compareValues_144 hw hW hS
set_option maxRecDepth 100000 in
def j_Mod_compareValues_52 (post : Int32 → St → Prop) (rec52 : Int32 → Int32 → Int32 → St → Prop) (l1 : Int32) (l2 : Int32) (l3 : Int32) (x : St) : Prop := wp_Mod_lengthOf (fun (r714 : Int32) (x713 : St) => ((r714 ≤ l3 → j_Mod_compareValues_133 post l1 l2 l3 x713) ∧ (¬ r714 ≤ l3 → wp_Mod_lengthOf (fun (r717 : Int32) (x716 : St) => ((r717 ≤ l3 → j_Mod_compareValues_133 post l1 l2 l3 x716) ∧ (¬ r717 ≤ l3 → (vp_in l1 (fN x716 33) ∧ (vp_in ((rA x716 33 l1) + l3) (fN x716 36) ∧ (vp_in l2 (fN x716 33) ∧ (vp_in ((rA x716 33 l2) + l3) (fN x716 36) ∧ (((rA x716 36 ((rA x716 33 l1) + l3)) = (rA x716 36 ((rA x716 33 l2) + l3)) → rec52 l1 l2 (l3 + 1) x716) ∧ (¬ (rA x716 36 ((rA x716 33 l1) + l3)) = (rA x716 36 ((rA x716 33 l2) + l3)) → (vp_in l1 (fN x716 33) ∧ (vp_in ((rA x716 33 l1) + l3) (fN x716 36) ∧ (vp_in l2 (fN x716 33) ∧ (vp_in ((rA x716 33 l2) + l3) (fN x716 36) ∧ post ((rA x716 36 ((rA x716 33 l1) + l3)) - (rA x716 36 ((rA x716 33 l2) + l3))) x716))))))))))))) l2 x713))) l1 x
set_option maxHeartbeats 4000000 in
set_option maxRecDepth 100000 in
theorem t_Mod_compareValues_52 {p : Program} {l : Launch} {e : Env} {R : Room} {s : State} {m : MethodId} {args : Array Value} {below : List Frame} {meth : Method} {c : Code} {cells slots : Nat} {Q : State → Prop} {dC : Nat → ClassId} {dI : Nat → Nat → Nat} {cI cB cJ cZ : ClassId} {A : Nat → Prop} {ad : Nat → Nat} {post : Int32 → St → Prop} {rec52 : Int32 → Int32 → Int32 → St → Prop} (hx : p.tables.exec = Jvm.exec) (hb : c.code = b_Mod_compareValues) (hml : c.maxLocals = 4) (hown : s.vm.findClass R_Mod = some m.cls) (hT : ∀ w ∈ TG, w.before args s = true) (hK : va_K (dC, dI) CL (TY cI cB cJ cZ) s) (hN : NW s) (hA : ∀ q : Nat, s.heap.size ≤ q → A q) (hRc : cells ≤ R.cells) (hRs : slots ≤ R.slots) (hRf : 1 ≤ R.frames) (hRl : 21 ≤ R.locals) (hret : ∀ (r : Int32) (x : St) (H : Heap) (locs : List Loc) (pc : Nat) (ls : Array Slot), decode b_Mod_compareValues pc = .ok (.ireturn, 1) → post r x → Wd dC dI cI cB cJ cZ ad stM kcM 115 A x H → va_S A s.heap H locs → W p l e R s m args below meth c H locs cells slots Q (F0 m pc ls [.int r])) (hrec52 : ∀ (l1 : Int32) (l2 : Int32) (l3 : Int32) (x : St) (H : Heap) (locs : List Loc) (ls : Array Slot), rec52 l1 l2 l3 x → Wd dC dI cI cB cJ cZ ad stM kcM 115 A x H → va_S A s.heap H locs → lv_has ls 4 [(0, .ref (ad 0)), (1, .int l1), (2, .int l2), (3, .int l3)] → W p l e R s m args below meth c H locs cells slots Q (F0 m 52 ls [])) : ∀ (l1 : Int32) (l2 : Int32) (l3 : Int32) (x : St) (H : Heap) (locs : List Loc) (ls : Array Slot), j_Mod_compareValues_52 post rec52 l1 l2 l3 x → Wd dC dI cI cB cJ cZ ad stM kcM 115 A x H → va_S A s.heap H locs → lv_has ls 4 [(0, .ref (ad 0)), (1, .int l1), (2, .int l2), (3, .int l3)] → W p l e R s m args below meth c H locs cells slots Q (F0 m 52 ls []) := by
  intro l1 l2 l3 x H locs ls  hw hW hS hl
  unfold j_Mod_compareValues_52 at hw
  refine lv_iload_n hx hb d_Mod_compareValues_52 rfl (lv_at hl 3 rfl) ?_
  refine lv_aload_n hx hb d_Mod_compareValues_53 rfl (lv_at hl 0 rfl) ?_
  refine lv_iload_n hx hb d_Mod_compareValues_54 rfl (lv_at hl 1 rfl) ?_
  have hF := hW.free hS hA
  refine va_calli (va_runV (C := R_Mod) (As := [.int l1]) (rest := [.int l3]) ⟨hx, hb, hml, hown, hT⟩ (k_Mod_lengthOf l dC dI cI cB cJ cZ ad H.size l1 x  hw) ⟨callB_of 1 hT (gw_in w_12_7) rfl rfl rfl (hT _ w_1_15) (hT _ w_12_4) (by decide +kernel) ⟨Nat.le_trans (by decide) hRf, Nat.le_trans (by decide) hRl⟩, hT _ w_12_6, hT _ ws_164⟩ ⟨PW.blind, va_recv hK hW.1 (ci := 12) (q0 := 0) rfl (pic_obj ko_0.1 ko_0.2 (by decide)), PW.at _ hW hK hN⟩ rfl rfl hl.1 rfl (lv_room (Nat.le_of_ble_eq_true rfl)) d_Mod_compareValues_55 ⟨hRc, hRs⟩) hS (fun q _ h => hF q h) hF (fun r714 x713 t H locs ht hvm hw hB hz1 hk1 hS => ?_)
  have hW := Wd.back hB ht hF
  clear hB ht hF hz1 hk1 hvm
  refine lv_icmp_ge (tgt := 133) hx hb d_Mod_compareValues_58 (by decide) (fun c715 => ?_) (fun c715 => ?_)
  · have hw := hw.1 c715
    exact t_Mod_compareValues_133 hx hb hml hown hT hK hN hA hRc hRs hRf hRl hret  l1 l2 l3 x713 H locs ls  hw hW hS (lv_sub hl [0, 1, 2, 3] rfl)
  · have hw := hw.2 c715
    refine lv_iload_n hx hb d_Mod_compareValues_61 rfl (lv_at hl 3 rfl) ?_
    refine lv_aload_n hx hb d_Mod_compareValues_62 rfl (lv_at hl 0 rfl) ?_
    refine lv_iload_n hx hb d_Mod_compareValues_63 rfl (lv_at hl 2 rfl) ?_
    have hF := hW.free hS hA
    refine va_calli (va_runV (C := R_Mod) (As := [.int l2]) (rest := [.int l3]) ⟨hx, hb, hml, hown, hT⟩ (k_Mod_lengthOf l dC dI cI cB cJ cZ ad H.size l2 x713  hw) ⟨callB_of 1 hT (gw_in w_12_7) rfl rfl rfl (hT _ w_1_15) (hT _ w_12_4) (by decide +kernel) ⟨Nat.le_trans (by decide) hRf, Nat.le_trans (by decide) hRl⟩, hT _ w_12_6, hT _ ws_164⟩ ⟨PW.blind, va_recv hK hW.1 (ci := 12) (q0 := 0) rfl (pic_obj ko_0.1 ko_0.2 (by decide)), PW.at _ hW hK hN⟩ rfl rfl hl.1 rfl (lv_room (Nat.le_of_ble_eq_true rfl)) d_Mod_compareValues_64 ⟨hRc, hRs⟩) hS (fun q _ h => hF q h) hF (fun r717 x716 t H locs ht hvm hw hB hz1 hk1 hS => ?_)
    have hW := Wd.back hB ht hF
    clear hB ht hF hz1 hk1 hvm
    refine lv_icmp_ge (tgt := 133) hx hb d_Mod_compareValues_67 (by decide) (fun c718 => ?_) (fun c718 => ?_)
    · have hw := hw.1 c718
      exact t_Mod_compareValues_133 hx hb hml hown hT hK hN hA hRc hRs hRf hRl hret  l1 l2 l3 x716 H locs ls  hw hW hS (lv_sub hl [0, 1, 2, 3] rfl)
    · have hw := hw.2 c718
      refine lv_aload_n hx hb d_Mod_compareValues_70 rfl (lv_at hl 0 rfl) ?_
      refine w_getf (q := 36) (k := 55) (t := 12) (C := R_Mod) (T := F_Mod) (N := 167) hx hb hT hown hK hW ko_0.1 ko_0.2 (by decide) in_Mod rfl rfl (by decide) rfl fr_Mod_55 w_8_235 d_Mod_compareValues_71 rfl ?_
      refine lv_aload_n hx hb d_Mod_compareValues_74 rfl (lv_at hl 0 rfl) ?_
      refine w_getf (q := 33) (k := 52) (t := 12) (C := R_Mod) (T := F_Mod) (N := 167) hx hb hT hown hK hW ko_0.1 ko_0.2 (by decide) in_Mod rfl rfl (by decide) rfl fr_Mod_52 w_8_232 d_Mod_compareValues_75 rfl ?_
      refine lv_iload_n hx hb d_Mod_compareValues_78 rfl (lv_at hl 1 rfl) ?_
      obtain ⟨hi, hw⟩ := hw
      refine w_iald (o := 33) hx hb hK hW ko_33.1 ko_33.2 hi d_Mod_compareValues_79 ?_
      refine lv_iload_n hx hb d_Mod_compareValues_80 rfl (lv_at hl 3 rfl) ?_
      refine lv_iadd hx hb d_Mod_compareValues_81 ?_
      obtain ⟨hi, hw⟩ := hw
      refine w_iald (o := 36) hx hb hK hW ko_36.1 ko_36.2 hi d_Mod_compareValues_82 ?_
      refine lv_aload_n hx hb d_Mod_compareValues_83 rfl (lv_at hl 0 rfl) ?_
      refine w_getf (q := 36) (k := 55) (t := 12) (C := R_Mod) (T := F_Mod) (N := 167) hx hb hT hown hK hW ko_0.1 ko_0.2 (by decide) in_Mod rfl rfl (by decide) rfl fr_Mod_55 w_8_235 d_Mod_compareValues_84 rfl ?_
      refine lv_aload_n hx hb d_Mod_compareValues_87 rfl (lv_at hl 0 rfl) ?_
      refine w_getf (q := 33) (k := 52) (t := 12) (C := R_Mod) (T := F_Mod) (N := 167) hx hb hT hown hK hW ko_0.1 ko_0.2 (by decide) in_Mod rfl rfl (by decide) rfl fr_Mod_52 w_8_232 d_Mod_compareValues_88 rfl ?_
      refine lv_iload_n hx hb d_Mod_compareValues_91 rfl (lv_at hl 2 rfl) ?_
      obtain ⟨hi, hw⟩ := hw
      refine w_iald (o := 33) hx hb hK hW ko_33.1 ko_33.2 hi d_Mod_compareValues_92 ?_
      refine lv_iload_n hx hb d_Mod_compareValues_93 rfl (lv_at hl 3 rfl) ?_
      refine lv_iadd hx hb d_Mod_compareValues_94 ?_
      obtain ⟨hi, hw⟩ := hw
      refine w_iald (o := 36) hx hb hK hW ko_36.1 ko_36.2 hi d_Mod_compareValues_95 ?_
      refine lv_icmp_eq (tgt := 127) hx hb d_Mod_compareValues_96 (by decide) (fun c719 => ?_) (fun c719 => ?_)
      · have hw := hw.1 c719
        refine lv_iinc (v := (l3 + 1)) (lv' := [(3, .int (l3 + 1)), (0, .ref (ad 0)), (1, .int l1), (2, .int l2)]) hx hb d_Mod_compareValues_127 hl (k := 3) rfl rfl (by decide) rfl (fun ls hl => ?_)
        refine lv_goto (tgt := 52) hx hb d_Mod_compareValues_130 (by decide) ?_
        exact hrec52 l1 l2 (l3 + 1) x716 H locs ls  hw hW hS (lv_sub hl [1, 2, 3, 0] rfl)
      · have hw := hw.2 c719
        refine lv_aload_n hx hb d_Mod_compareValues_99 rfl (lv_at hl 0 rfl) ?_
        refine w_getf (q := 36) (k := 55) (t := 12) (C := R_Mod) (T := F_Mod) (N := 167) hx hb hT hown hK hW ko_0.1 ko_0.2 (by decide) in_Mod rfl rfl (by decide) rfl fr_Mod_55 w_8_235 d_Mod_compareValues_100 rfl ?_
        refine lv_aload_n hx hb d_Mod_compareValues_103 rfl (lv_at hl 0 rfl) ?_
        refine w_getf (q := 33) (k := 52) (t := 12) (C := R_Mod) (T := F_Mod) (N := 167) hx hb hT hown hK hW ko_0.1 ko_0.2 (by decide) in_Mod rfl rfl (by decide) rfl fr_Mod_52 w_8_232 d_Mod_compareValues_104 rfl ?_
        refine lv_iload_n hx hb d_Mod_compareValues_107 rfl (lv_at hl 1 rfl) ?_
        obtain ⟨hi, hw⟩ := hw
        refine w_iald (o := 33) hx hb hK hW ko_33.1 ko_33.2 hi d_Mod_compareValues_108 ?_
        refine lv_iload_n hx hb d_Mod_compareValues_109 rfl (lv_at hl 3 rfl) ?_
        refine lv_iadd hx hb d_Mod_compareValues_110 ?_
        obtain ⟨hi, hw⟩ := hw
        refine w_iald (o := 36) hx hb hK hW ko_36.1 ko_36.2 hi d_Mod_compareValues_111 ?_
        refine lv_aload_n hx hb d_Mod_compareValues_112 rfl (lv_at hl 0 rfl) ?_
        refine w_getf (q := 36) (k := 55) (t := 12) (C := R_Mod) (T := F_Mod) (N := 167) hx hb hT hown hK hW ko_0.1 ko_0.2 (by decide) in_Mod rfl rfl (by decide) rfl fr_Mod_55 w_8_235 d_Mod_compareValues_113 rfl ?_
        refine lv_aload_n hx hb d_Mod_compareValues_116 rfl (lv_at hl 0 rfl) ?_
        refine w_getf (q := 33) (k := 52) (t := 12) (C := R_Mod) (T := F_Mod) (N := 167) hx hb hT hown hK hW ko_0.1 ko_0.2 (by decide) in_Mod rfl rfl (by decide) rfl fr_Mod_52 w_8_232 d_Mod_compareValues_117 rfl ?_
        refine lv_iload_n hx hb d_Mod_compareValues_120 rfl (lv_at hl 2 rfl) ?_
        obtain ⟨hi, hw⟩ := hw
        refine w_iald (o := 33) hx hb hK hW ko_33.1 ko_33.2 hi d_Mod_compareValues_121 ?_
        refine lv_iload_n hx hb d_Mod_compareValues_122 rfl (lv_at hl 3 rfl) ?_
        refine lv_iadd hx hb d_Mod_compareValues_123 ?_
        obtain ⟨hi, hw⟩ := hw
        refine w_iald (o := 36) hx hb hK hW ko_36.1 ko_36.2 hi d_Mod_compareValues_124 ?_
        refine lv_isub hx hb d_Mod_compareValues_125 ?_
        exact hret ((rA x716 36 ((rA x716 33 l1) + l3)) - (rA x716 36 ((rA x716 33 l2) + l3))) x716 H locs 126 ls d_Mod_compareValues_126 hw hW hS
def wl_Mod_compareValues_52 (post : Int32 → St → Prop) : Nat → Int32 → Int32 → Int32 → St → Prop
  | 0 => fun _ _ _ _ => False
  | n + 1 => j_Mod_compareValues_52 post (wl_Mod_compareValues_52 post n)
set_option maxHeartbeats 4000000 in
set_option maxRecDepth 100000 in
theorem tl_Mod_compareValues_52 {p : Program} {l : Launch} {e : Env} {R : Room} {s : State} {m : MethodId} {args : Array Value} {below : List Frame} {meth : Method} {c : Code} {cells slots : Nat} {Q : State → Prop} {dC : Nat → ClassId} {dI : Nat → Nat → Nat} {cI cB cJ cZ : ClassId} {A : Nat → Prop} {ad : Nat → Nat} {post : Int32 → St → Prop} (hx : p.tables.exec = Jvm.exec) (hb : c.code = b_Mod_compareValues) (hml : c.maxLocals = 4) (hown : s.vm.findClass R_Mod = some m.cls) (hT : ∀ w ∈ TG, w.before args s = true) (hK : va_K (dC, dI) CL (TY cI cB cJ cZ) s) (hN : NW s) (hA : ∀ q : Nat, s.heap.size ≤ q → A q) (hRc : cells ≤ R.cells) (hRs : slots ≤ R.slots) (hRf : 1 ≤ R.frames) (hRl : 21 ≤ R.locals) (hret : ∀ (r : Int32) (x : St) (H : Heap) (locs : List Loc) (pc : Nat) (ls : Array Slot), decode b_Mod_compareValues pc = .ok (.ireturn, 1) → post r x → Wd dC dI cI cB cJ cZ ad stM kcM 115 A x H → va_S A s.heap H locs → W p l e R s m args below meth c H locs cells slots Q (F0 m pc ls [.int r]))  : ∀ n : Nat, ∀ (l1 : Int32) (l2 : Int32) (l3 : Int32) (x : St) (H : Heap) (locs : List Loc) (ls : Array Slot), wl_Mod_compareValues_52 post n l1 l2 l3 x → Wd dC dI cI cB cJ cZ ad stM kcM 115 A x H → va_S A s.heap H locs → lv_has ls 4 [(0, .ref (ad 0)), (1, .int l1), (2, .int l2), (3, .int l3)] → W p l e R s m args below meth c H locs cells slots Q (F0 m 52 ls []) := by
  intro n
  induction n with
  | zero => intro l1 l2 l3 x H locs ls  hw; exact hw.elim
  | succ n ih => intro l1 l2 l3 x H locs ls  hw hW hS hl; exact t_Mod_compareValues_52 hx hb hml hown hT hK hN hA hRc hRs hRf hRl hret  ih l1 l2 l3 x H locs ls  hw hW hS hl
set_option maxRecDepth 100000 in
def wp_Mod_compareValues (post : Int32 → St → Prop) (l1 : Int32) (l2 : Int32) (x : St) : Prop := (((fI x 0 38) = 3 → ∃ n : Nat, wl_Mod_compareValues_52 post n l1 l2 0 x) ∧ (¬ (fI x 0 38) = 3 → (vp_in l1 (fN x 30) ∧ (vp_in l2 (fN x 30) ∧ ((0 ≤ (lg_cmp (rL x 30 l1) (rL x 30 l2)) → (vp_in l1 (fN x 30) ∧ (vp_in l2 (fN x 30) ∧ (((lg_cmp (rL x 30 l1) (rL x 30 l2)) ≤ 0 → post 0 x) ∧ (¬ (lg_cmp (rL x 30 l1) (rL x 30 l2)) ≤ 0 → post 1 x))))) ∧ (¬ 0 ≤ (lg_cmp (rL x 30 l1) (rL x 30 l2)) → post (-1) x))))))
set_option maxHeartbeats 4000000 in
set_option maxRecDepth 100000 in
theorem t_Mod_compareValues_e {p : Program} {l : Launch} {e : Env} {R : Room} {s : State} {m : MethodId} {args : Array Value} {below : List Frame} {meth : Method} {c : Code} {cells slots : Nat} {Q : State → Prop} {dC : Nat → ClassId} {dI : Nat → Nat → Nat} {cI cB cJ cZ : ClassId} {A : Nat → Prop} {ad : Nat → Nat} {post : Int32 → St → Prop} (hx : p.tables.exec = Jvm.exec) (hb : c.code = b_Mod_compareValues) (hml : c.maxLocals = 4) (hown : s.vm.findClass R_Mod = some m.cls) (hT : ∀ w ∈ TG, w.before args s = true) (hK : va_K (dC, dI) CL (TY cI cB cJ cZ) s) (hN : NW s) (hA : ∀ q : Nat, s.heap.size ≤ q → A q) (hRc : cells ≤ R.cells) (hRs : slots ≤ R.slots) (hRf : 1 ≤ R.frames) (hRl : 21 ≤ R.locals) (hret : ∀ (r : Int32) (x : St) (H : Heap) (locs : List Loc) (pc : Nat) (ls : Array Slot), decode b_Mod_compareValues pc = .ok (.ireturn, 1) → post r x → Wd dC dI cI cB cJ cZ ad stM kcM 115 A x H → va_S A s.heap H locs → W p l e R s m args below meth c H locs cells slots Q (F0 m pc ls [.int r])) : ∀ (l1 : Int32) (l2 : Int32) (x : St) (H : Heap) (locs : List Loc) (ls : Array Slot), wp_Mod_compareValues post l1 l2 x → Wd dC dI cI cB cJ cZ ad stM kcM 115 A x H → va_S A s.heap H locs → lv_has ls 4 [(0, .ref (ad 0)), (1, .int l1), (2, .int l2)] → W p l e R s m args below meth c H locs cells slots Q (F0 m 0 ls []) := by
  intro l1 l2 x H locs ls  hw hW hS hl
  unfold wp_Mod_compareValues at hw
  refine lv_aload_n hx hb d_Mod_compareValues_0 rfl (lv_at hl 0 rfl) ?_
  refine w_geti (k := 38) (t := 12) (C := R_Mod) (T := F_Mod) (N := 167) hx hb hT hown hK hW ko_0.1 ko_0.2 (by decide) in_Mod rfl rfl (by decide) rfl fr_Mod_38 w_8_218 d_Mod_compareValues_1 ?_
  refine lv_iconst (v := 3) hx hb d_Mod_compareValues_4 (by decide) ?_
  refine lv_icmp_eq (tgt := 50) hx hb d_Mod_compareValues_5 (by decide) (fun c720 => ?_) (fun c720 => ?_)
  · have hw := hw.1 c720
    refine lv_iconst (v := 0) hx hb d_Mod_compareValues_50 (by decide) ?_
    refine lv_istore_n (lv' := [(3, .int 0), (0, .ref (ad 0)), (1, .int l1), (2, .int l2)]) hx hb d_Mod_compareValues_51 rfl hl (by decide) rfl (fun ls hl => ?_)
    obtain ⟨n, hw⟩ := hw
    exact tl_Mod_compareValues_52 hx hb hml hown hT hK hN hA hRc hRs hRf hRl hret  n l1 l2 0 x H locs ls  hw hW hS (lv_sub hl [1, 2, 3, 0] rfl)
  · have hw := hw.2 c720
    refine lv_aload_n hx hb d_Mod_compareValues_8 rfl (lv_at hl 0 rfl) ?_
    refine w_getf (q := 30) (k := 49) (t := 12) (C := R_Mod) (T := F_Mod) (N := 167) hx hb hT hown hK hW ko_0.1 ko_0.2 (by decide) in_Mod rfl rfl (by decide) rfl fr_Mod_49 w_8_229 d_Mod_compareValues_9 rfl ?_
    refine lv_iload_n hx hb d_Mod_compareValues_12 rfl (lv_at hl 1 rfl) ?_
    obtain ⟨hi, hw⟩ := hw
    refine w_lald (o := 30) hx hb hK hW ko_30.1 ko_30.2 hi d_Mod_compareValues_13 ?_
    refine lv_aload_n hx hb d_Mod_compareValues_14 rfl (lv_at hl 0 rfl) ?_
    refine w_getf (q := 30) (k := 49) (t := 12) (C := R_Mod) (T := F_Mod) (N := 167) hx hb hT hown hK hW ko_0.1 ko_0.2 (by decide) in_Mod rfl rfl (by decide) rfl fr_Mod_49 w_8_229 d_Mod_compareValues_15 rfl ?_
    refine lv_iload_n hx hb d_Mod_compareValues_18 rfl (lv_at hl 2 rfl) ?_
    obtain ⟨hi, hw⟩ := hw
    refine w_lald (o := 30) hx hb hK hW ko_30.1 ko_30.2 hi d_Mod_compareValues_19 ?_
    refine W.lcmp hx hb d_Mod_compareValues_20 ?_
    refine lv_if_ge (tgt := 28) hx hb d_Mod_compareValues_21 (by decide) (fun c721 => ?_) (fun c721 => ?_)
    · have hw := hw.1 c721
      refine lv_aload_n hx hb d_Mod_compareValues_28 rfl (lv_at hl 0 rfl) ?_
      refine w_getf (q := 30) (k := 49) (t := 12) (C := R_Mod) (T := F_Mod) (N := 167) hx hb hT hown hK hW ko_0.1 ko_0.2 (by decide) in_Mod rfl rfl (by decide) rfl fr_Mod_49 w_8_229 d_Mod_compareValues_29 rfl ?_
      refine lv_iload_n hx hb d_Mod_compareValues_32 rfl (lv_at hl 1 rfl) ?_
      obtain ⟨hi, hw⟩ := hw
      refine w_lald (o := 30) hx hb hK hW ko_30.1 ko_30.2 hi d_Mod_compareValues_33 ?_
      refine lv_aload_n hx hb d_Mod_compareValues_34 rfl (lv_at hl 0 rfl) ?_
      refine w_getf (q := 30) (k := 49) (t := 12) (C := R_Mod) (T := F_Mod) (N := 167) hx hb hT hown hK hW ko_0.1 ko_0.2 (by decide) in_Mod rfl rfl (by decide) rfl fr_Mod_49 w_8_229 d_Mod_compareValues_35 rfl ?_
      refine lv_iload_n hx hb d_Mod_compareValues_38 rfl (lv_at hl 2 rfl) ?_
      obtain ⟨hi, hw⟩ := hw
      refine w_lald (o := 30) hx hb hK hW ko_30.1 ko_30.2 hi d_Mod_compareValues_39 ?_
      refine W.lcmp hx hb d_Mod_compareValues_40 ?_
      refine lv_if_le (tgt := 48) hx hb d_Mod_compareValues_41 (by decide) (fun c722 => ?_) (fun c722 => ?_)
      · have hw := hw.1 c722
        refine lv_iconst (v := 0) hx hb d_Mod_compareValues_48 (by decide) ?_
        exact hret 0 x H locs 49 ls d_Mod_compareValues_49 hw hW hS
      · have hw := hw.2 c722
        refine lv_iconst (v := 1) hx hb d_Mod_compareValues_44 (by decide) ?_
        refine lv_goto (tgt := 49) hx hb d_Mod_compareValues_45 (by decide) ?_
        exact hret 1 x H locs 49 ls d_Mod_compareValues_49 hw hW hS
    · have hw := hw.2 c721
      refine lv_iconst (v := (-1)) hx hb d_Mod_compareValues_24 (by decide) ?_
      refine lv_goto (tgt := 49) hx hb d_Mod_compareValues_25 (by decide) ?_
      exact hret (-1) x H locs 49 ls d_Mod_compareValues_49 hw hW hS
set_option maxHeartbeats 4000000 in
set_option maxRecDepth 100000 in
theorem k_Mod_compareValues (l : Launch) (dC : Nat → ClassId) (dI : Nat → Nat → Nat) (cI cB cJ cZ : ClassId) (ad : Nat → Nat) (sz : Nat) (l1 : Int32) (l2 : Int32) (x : St) {post : Int32 → St → Prop} (hw : wp_Mod_compareValues post l1 l2 x) : Met l y_Mod_compareValues (wsOf y_Mod_compareValues b_Mod_compareValues 4 (some (.int))) ({ frames := 1, cells := 0, slots := 0, locals := 21 }) (va_Pc [.ref (ad 0), .int l1, .int l2] (PW dC dI cI cB cJ cZ ad stM kcM 115 sz x)) (va_Qi (fun (r : Int32) (y : St) => post r y) (fun y t => Wd dC dI cI cB cJ cZ ad stM kcM 115 (va_A (pic ad stM kcM 115 cI cB cJ cZ x) sz) y t.heap) (va_A (pic ad stM kcM 115 cI cB cJ cZ x) sz)) 0 0 (va_A (pic ad stM kcM 115 cI cB cJ cZ x) sz) := by
  refine Met.ofW (cc := b_Mod_compareValues) (maxL := 4) (ret := some (.int)) (by decide) rfl ?_
  intro p e s m args below meth c s₁ B hml hv
  obtain ⟨rfl, hsz, hW0, hK, hN⟩ := hv
  have hx := B.exec
  have hb := B.bytes
  have hr := B.returns
  have hts := atoms_spec B.pre
  have hT : ∀ w ∈ TG, w.before _ s = true := fun w h => hts w (List.mem_cons_of_mem _ h)
  have hown : s.vm.findClass R_Mod = some m.cls := findClass_of_methodNamed B.named
  have hlocks := B.notSynchronized
  subst hsz
  have hW : Wd dC dI cI cB cJ cZ ad stM kcM 115 (va_A (pic ad stM kcM 115 cI cB cJ cZ x) s.heap.size) x s.heap := ⟨hW0.1, hW0.2.1.self (sz := s.heap.size), hW0.2.2⟩
  generalize hAe : va_A (pic ad stM kcM 115 cI cB cJ cZ x) s.heap.size = A at hW ⊢
  have hA : ∀ q : Nat, s.heap.size ≤ q → A q := fun q h => by rw [← hAe]; exact Or.inr h
  have hS : va_S A s.heap s.heap [] := va_S.rf
  have hl := lv_entry ([.ref (ad 0), .int l1, .int l2]) (n := 4) (Nat.le_of_ble_eq_true rfl)
  rw [lg_entry_eq]
  generalize (lg_sl ([.ref (ad 0), .int l1, .int l2]) ++ List.replicate (4 - (lg_sl ([.ref (ad 0), .int l1, .int l2])).length) Slot.unset).toArray = ls at hl ⊢
  have hl : lv_has ls 4 [(0, .ref (ad 0)), (1, .int l1), (2, .int l2)] := hl
  exact t_Mod_compareValues_e hx hb hml hown hT hK hN hA (Nat.le_refl 0) (Nat.le_refl 0) (Nat.le_refl 1) (Nat.le_refl 21) (fun r x H locs pc ls hd hp hW hS => W.iret (v := r) hx hb hr (fun t ht hM => ⟨⟨r, x, rfl, hp, Wd.back hW ht.symm (fun _ z => z)⟩, hS.F ht⟩) hS.2.2 hd hlocks)  l1 l2 x _ _ ls  hw hW hS hl
set_option maxRecDepth 100000 in
def j_Mod_mostOf_58 (post : Int32 → St → Prop) (rec15 : Int32 → Int32 → Int32 → St → Prop) (l1 : Int32) (l2 : Int32) (l3 : Int32) (l4 : Int32) (s0 : Int32) (x : St) : Prop := rec15 l1 s0 (l3 + 1) x
set_option maxHeartbeats 4000000 in
set_option maxRecDepth 100000 in
theorem t_Mod_mostOf_58 {p : Program} {l : Launch} {e : Env} {R : Room} {s : State} {m : MethodId} {args : Array Value} {below : List Frame} {meth : Method} {c : Code} {cells slots : Nat} {Q : State → Prop} {dC : Nat → ClassId} {dI : Nat → Nat → Nat} {cI cB cJ cZ : ClassId} {A : Nat → Prop} {ad : Nat → Nat} {post : Int32 → St → Prop} {rec15 : Int32 → Int32 → Int32 → St → Prop} (hx : p.tables.exec = Jvm.exec) (hb : c.code = b_Mod_mostOf) (hml : c.maxLocals = 5) (hown : s.vm.findClass R_Mod = some m.cls) (hT : ∀ w ∈ TG, w.before args s = true) (hK : va_K (dC, dI) CL (TY cI cB cJ cZ) s) (hN : NW s) (hA : ∀ q : Nat, s.heap.size ≤ q → A q) (hRc : cells ≤ R.cells) (hRs : slots ≤ R.slots) (hRf : 2 ≤ R.frames) (hRl : 44 ≤ R.locals) (hret : ∀ (r : Int32) (x : St) (H : Heap) (locs : List Loc) (pc : Nat) (ls : Array Slot), decode b_Mod_mostOf pc = .ok (.ireturn, 1) → post r x → Wd dC dI cI cB cJ cZ ad stM kcM 115 A x H → va_S A s.heap H locs → W p l e R s m args below meth c H locs cells slots Q (F0 m pc ls [.int r])) (hrec15 : ∀ (l1 : Int32) (l2 : Int32) (l3 : Int32) (x : St) (H : Heap) (locs : List Loc) (ls : Array Slot), rec15 l1 l2 l3 x → Wd dC dI cI cB cJ cZ ad stM kcM 115 A x H → va_S A s.heap H locs → lv_has ls 5 [(0, .ref (ad 0)), (1, .int l1), (2, .int l2), (3, .int l3)] → W p l e R s m args below meth c H locs cells slots Q (F0 m 15 ls [])) : ∀ (l1 : Int32) (l2 : Int32) (l3 : Int32) (l4 : Int32) (s0 : Int32) (x : St) (H : Heap) (locs : List Loc) (ls : Array Slot), j_Mod_mostOf_58 post rec15 l1 l2 l3 l4 s0 x → Wd dC dI cI cB cJ cZ ad stM kcM 115 A x H → va_S A s.heap H locs → lv_has ls 5 [(0, .ref (ad 0)), (1, .int l1), (2, .int l2), (3, .int l3), (4, .int l4)] → W p l e R s m args below meth c H locs cells slots Q (F0 m 58 ls [.int s0]) := by
  intro l1 l2 l3 l4 s0 x H locs ls  hw hW hS hl
  unfold j_Mod_mostOf_58 at hw
  refine lv_istore_n (lv' := [(2, .int s0), (0, .ref (ad 0)), (1, .int l1), (3, .int l3), (4, .int l4)]) hx hb d_Mod_mostOf_58 rfl hl (by decide) rfl (fun ls hl => ?_)
  refine lv_iinc (v := (l3 + 1)) (lv' := [(3, .int (l3 + 1)), (2, .int s0), (0, .ref (ad 0)), (1, .int l1), (4, .int l4)]) hx hb d_Mod_mostOf_59 hl (k := 3) rfl rfl (by decide) rfl (fun ls hl => ?_)
  refine lv_goto (tgt := 15) hx hb d_Mod_mostOf_62 (by decide) ?_
  exact hrec15 l1 s0 (l3 + 1) x H locs ls  hw hW hS (lv_sub hl [2, 3, 1, 0] rfl)
set_option maxRecDepth 100000 in
def j_Mod_mostOf_15 (post : Int32 → St → Prop) (rec15 : Int32 → Int32 → Int32 → St → Prop) (l1 : Int32) (l2 : Int32) (l3 : Int32) (x : St) : Prop := (((fI x 0 42) ≤ l3 → post l2 x) ∧ (¬ (fI x 0 42) ≤ l3 → wp_Mod_compareValues (fun (r725 : Int32) (x724 : St) => ((l1 = 0 → ((0 ≤ r725 → j_Mod_mostOf_58 post rec15 l1 l2 l3 r725 l2 x724) ∧ (¬ 0 ≤ r725 → j_Mod_mostOf_58 post rec15 l1 l2 l3 r725 l3 x724))) ∧ (¬ l1 = 0 → ((r725 ≤ 0 → j_Mod_mostOf_58 post rec15 l1 l2 l3 r725 l2 x724) ∧ (¬ r725 ≤ 0 → j_Mod_mostOf_58 post rec15 l1 l2 l3 r725 l3 x724))))) l3 l2 x))
set_option maxHeartbeats 4000000 in
set_option maxRecDepth 100000 in
theorem t_Mod_mostOf_15 {p : Program} {l : Launch} {e : Env} {R : Room} {s : State} {m : MethodId} {args : Array Value} {below : List Frame} {meth : Method} {c : Code} {cells slots : Nat} {Q : State → Prop} {dC : Nat → ClassId} {dI : Nat → Nat → Nat} {cI cB cJ cZ : ClassId} {A : Nat → Prop} {ad : Nat → Nat} {post : Int32 → St → Prop} {rec15 : Int32 → Int32 → Int32 → St → Prop} (hx : p.tables.exec = Jvm.exec) (hb : c.code = b_Mod_mostOf) (hml : c.maxLocals = 5) (hown : s.vm.findClass R_Mod = some m.cls) (hT : ∀ w ∈ TG, w.before args s = true) (hK : va_K (dC, dI) CL (TY cI cB cJ cZ) s) (hN : NW s) (hA : ∀ q : Nat, s.heap.size ≤ q → A q) (hRc : cells ≤ R.cells) (hRs : slots ≤ R.slots) (hRf : 2 ≤ R.frames) (hRl : 44 ≤ R.locals) (hret : ∀ (r : Int32) (x : St) (H : Heap) (locs : List Loc) (pc : Nat) (ls : Array Slot), decode b_Mod_mostOf pc = .ok (.ireturn, 1) → post r x → Wd dC dI cI cB cJ cZ ad stM kcM 115 A x H → va_S A s.heap H locs → W p l e R s m args below meth c H locs cells slots Q (F0 m pc ls [.int r])) (hrec15 : ∀ (l1 : Int32) (l2 : Int32) (l3 : Int32) (x : St) (H : Heap) (locs : List Loc) (ls : Array Slot), rec15 l1 l2 l3 x → Wd dC dI cI cB cJ cZ ad stM kcM 115 A x H → va_S A s.heap H locs → lv_has ls 5 [(0, .ref (ad 0)), (1, .int l1), (2, .int l2), (3, .int l3)] → W p l e R s m args below meth c H locs cells slots Q (F0 m 15 ls [])) : ∀ (l1 : Int32) (l2 : Int32) (l3 : Int32) (x : St) (H : Heap) (locs : List Loc) (ls : Array Slot), j_Mod_mostOf_15 post rec15 l1 l2 l3 x → Wd dC dI cI cB cJ cZ ad stM kcM 115 A x H → va_S A s.heap H locs → lv_has ls 5 [(0, .ref (ad 0)), (1, .int l1), (2, .int l2), (3, .int l3)] → W p l e R s m args below meth c H locs cells slots Q (F0 m 15 ls []) := by
  intro l1 l2 l3 x H locs ls  hw hW hS hl
  unfold j_Mod_mostOf_15 at hw
  refine lv_iload_n hx hb d_Mod_mostOf_15 rfl (lv_at hl 3 rfl) ?_
  refine lv_aload_n hx hb d_Mod_mostOf_16 rfl (lv_at hl 0 rfl) ?_
  refine w_geti (k := 42) (t := 12) (C := R_Mod) (T := F_Mod) (N := 167) hx hb hT hown hK hW ko_0.1 ko_0.2 (by decide) in_Mod rfl rfl (by decide) rfl fr_Mod_42 w_8_222 d_Mod_mostOf_17 ?_
  refine lv_icmp_ge (tgt := 65) hx hb d_Mod_mostOf_20 (by decide) (fun c723 => ?_) (fun c723 => ?_)
  · have hw := hw.1 c723
    refine lv_iload_n hx hb d_Mod_mostOf_65 rfl (lv_at hl 2 rfl) ?_
    exact hret l2 x H locs 66 ls d_Mod_mostOf_66 hw hW hS
  · have hw := hw.2 c723
    refine lv_aload_n hx hb d_Mod_mostOf_23 rfl (lv_at hl 0 rfl) ?_
    refine lv_iload_n hx hb d_Mod_mostOf_24 rfl (lv_at hl 3 rfl) ?_
    refine lv_iload_n hx hb d_Mod_mostOf_25 rfl (lv_at hl 2 rfl) ?_
    have hF := hW.free hS hA
    refine va_calli (va_runV (C := R_Mod) (As := [.int l3, .int l2]) (rest := []) ⟨hx, hb, hml, hown, hT⟩ (k_Mod_compareValues l dC dI cI cB cJ cZ ad H.size l3 l2 x  hw) ⟨callB_of 2 hT (gw_in w_12_47) rfl rfl rfl (hT _ w_1_15) (hT _ w_12_44) (by decide +kernel) ⟨Nat.le_trans (by decide) hRf, Nat.le_trans (by decide) hRl⟩, hT _ w_12_46, hT _ ws_174⟩ ⟨PW.blind, va_recv hK hW.1 (ci := 12) (q0 := 0) rfl (pic_obj ko_0.1 ko_0.2 (by decide)), PW.at _ hW hK hN⟩ rfl rfl hl.1 rfl (lv_room (Nat.le_of_ble_eq_true rfl)) d_Mod_mostOf_26 ⟨hRc, hRs⟩) hS (fun q _ h => hF q h) hF (fun r725 x724 t H locs ht hvm hw hB hz1 hk1 hS => ?_)
    have hW := Wd.back hB ht hF
    clear hB ht hF hz1 hk1 hvm
    refine lv_istore (lv' := [(4, .int r725), (0, .ref (ad 0)), (1, .int l1), (2, .int l2), (3, .int l3)]) hx hb d_Mod_mostOf_29 hl (by decide) rfl (fun ls hl => ?_)
    refine lv_iload_n hx hb d_Mod_mostOf_31 rfl (lv_at hl 2 rfl) ?_
    refine lv_if_eq (tgt := 48) hx hb d_Mod_mostOf_32 (by decide) (fun c726 => ?_) (fun c726 => ?_)
    · have hw := hw.1 c726
      refine lv_iload hx hb d_Mod_mostOf_48 (lv_at hl 0 rfl) ?_
      refine lv_if_ge (tgt := 57) hx hb d_Mod_mostOf_50 (by decide) (fun c727 => ?_) (fun c727 => ?_)
      · have hw := hw.1 c727
        refine lv_iload_n hx hb d_Mod_mostOf_57 rfl (lv_at hl 3 rfl) ?_
        exact t_Mod_mostOf_58 hx hb hml hown hT hK hN hA hRc hRs hRf hRl hret hrec15 l1 l2 l3 r725 l2 x724 H locs ls  hw hW hS (lv_sub hl [1, 2, 3, 4, 0] rfl)
      · have hw := hw.2 c727
        refine lv_iload_n hx hb d_Mod_mostOf_53 rfl (lv_at hl 4 rfl) ?_
        refine lv_goto (tgt := 58) hx hb d_Mod_mostOf_54 (by decide) ?_
        exact t_Mod_mostOf_58 hx hb hml hown hT hK hN hA hRc hRs hRf hRl hret hrec15 l1 l2 l3 r725 l3 x724 H locs ls  hw hW hS (lv_sub hl [1, 2, 3, 4, 0] rfl)
    · have hw := hw.2 c726
      refine lv_iload hx hb d_Mod_mostOf_35 (lv_at hl 0 rfl) ?_
      refine lv_if_le (tgt := 44) hx hb d_Mod_mostOf_37 (by decide) (fun c728 => ?_) (fun c728 => ?_)
      · have hw := hw.1 c728
        refine lv_iload_n hx hb d_Mod_mostOf_44 rfl (lv_at hl 3 rfl) ?_
        refine lv_goto (tgt := 58) hx hb d_Mod_mostOf_45 (by decide) ?_
        exact t_Mod_mostOf_58 hx hb hml hown hT hK hN hA hRc hRs hRf hRl hret hrec15 l1 l2 l3 r725 l2 x724 H locs ls  hw hW hS (lv_sub hl [1, 2, 3, 4, 0] rfl)
      · have hw := hw.2 c728
        refine lv_iload_n hx hb d_Mod_mostOf_40 rfl (lv_at hl 4 rfl) ?_
        refine lv_goto (tgt := 58) hx hb d_Mod_mostOf_41 (by decide) ?_
        exact t_Mod_mostOf_58 hx hb hml hown hT hK hN hA hRc hRs hRf hRl hret hrec15 l1 l2 l3 r725 l3 x724 H locs ls  hw hW hS (lv_sub hl [1, 2, 3, 4, 0] rfl)
def wl_Mod_mostOf_15 (post : Int32 → St → Prop) : Nat → Int32 → Int32 → Int32 → St → Prop
  | 0 => fun _ _ _ _ => False
  | n + 1 => j_Mod_mostOf_15 post (wl_Mod_mostOf_15 post n)
set_option maxHeartbeats 4000000 in
set_option maxRecDepth 100000 in
theorem tl_Mod_mostOf_15 {p : Program} {l : Launch} {e : Env} {R : Room} {s : State} {m : MethodId} {args : Array Value} {below : List Frame} {meth : Method} {c : Code} {cells slots : Nat} {Q : State → Prop} {dC : Nat → ClassId} {dI : Nat → Nat → Nat} {cI cB cJ cZ : ClassId} {A : Nat → Prop} {ad : Nat → Nat} {post : Int32 → St → Prop} (hx : p.tables.exec = Jvm.exec) (hb : c.code = b_Mod_mostOf) (hml : c.maxLocals = 5) (hown : s.vm.findClass R_Mod = some m.cls) (hT : ∀ w ∈ TG, w.before args s = true) (hK : va_K (dC, dI) CL (TY cI cB cJ cZ) s) (hN : NW s) (hA : ∀ q : Nat, s.heap.size ≤ q → A q) (hRc : cells ≤ R.cells) (hRs : slots ≤ R.slots) (hRf : 2 ≤ R.frames) (hRl : 44 ≤ R.locals) (hret : ∀ (r : Int32) (x : St) (H : Heap) (locs : List Loc) (pc : Nat) (ls : Array Slot), decode b_Mod_mostOf pc = .ok (.ireturn, 1) → post r x → Wd dC dI cI cB cJ cZ ad stM kcM 115 A x H → va_S A s.heap H locs → W p l e R s m args below meth c H locs cells slots Q (F0 m pc ls [.int r]))  : ∀ n : Nat, ∀ (l1 : Int32) (l2 : Int32) (l3 : Int32) (x : St) (H : Heap) (locs : List Loc) (ls : Array Slot), wl_Mod_mostOf_15 post n l1 l2 l3 x → Wd dC dI cI cB cJ cZ ad stM kcM 115 A x H → va_S A s.heap H locs → lv_has ls 5 [(0, .ref (ad 0)), (1, .int l1), (2, .int l2), (3, .int l3)] → W p l e R s m args below meth c H locs cells slots Q (F0 m 15 ls []) := by
  intro n
  induction n with
  | zero => intro l1 l2 l3 x H locs ls  hw; exact hw.elim
  | succ n ih => intro l1 l2 l3 x H locs ls  hw hW hS hl; exact t_Mod_mostOf_15 hx hb hml hown hT hK hN hA hRc hRs hRf hRl hret  ih l1 l2 l3 x H locs ls  hw hW hS hl
set_option maxRecDepth 100000 in
def j_Mod_mostOf_12 (post : Int32 → St → Prop) (l1 : Int32) (s0 : Int32) (x : St) : Prop := ∃ n : Nat, wl_Mod_mostOf_15 post n l1 s0 1 x
set_option maxHeartbeats 4000000 in
set_option maxRecDepth 100000 in
theorem t_Mod_mostOf_12 {p : Program} {l : Launch} {e : Env} {R : Room} {s : State} {m : MethodId} {args : Array Value} {below : List Frame} {meth : Method} {c : Code} {cells slots : Nat} {Q : State → Prop} {dC : Nat → ClassId} {dI : Nat → Nat → Nat} {cI cB cJ cZ : ClassId} {A : Nat → Prop} {ad : Nat → Nat} {post : Int32 → St → Prop} (hx : p.tables.exec = Jvm.exec) (hb : c.code = b_Mod_mostOf) (hml : c.maxLocals = 5) (hown : s.vm.findClass R_Mod = some m.cls) (hT : ∀ w ∈ TG, w.before args s = true) (hK : va_K (dC, dI) CL (TY cI cB cJ cZ) s) (hN : NW s) (hA : ∀ q : Nat, s.heap.size ≤ q → A q) (hRc : cells ≤ R.cells) (hRs : slots ≤ R.slots) (hRf : 2 ≤ R.frames) (hRl : 44 ≤ R.locals) (hret : ∀ (r : Int32) (x : St) (H : Heap) (locs : List Loc) (pc : Nat) (ls : Array Slot), decode b_Mod_mostOf pc = .ok (.ireturn, 1) → post r x → Wd dC dI cI cB cJ cZ ad stM kcM 115 A x H → va_S A s.heap H locs → W p l e R s m args below meth c H locs cells slots Q (F0 m pc ls [.int r]))  : ∀ (l1 : Int32) (s0 : Int32) (x : St) (H : Heap) (locs : List Loc) (ls : Array Slot), j_Mod_mostOf_12 post l1 s0 x → Wd dC dI cI cB cJ cZ ad stM kcM 115 A x H → va_S A s.heap H locs → lv_has ls 5 [(0, .ref (ad 0)), (1, .int l1)] → W p l e R s m args below meth c H locs cells slots Q (F0 m 12 ls [.int s0]) := by
  intro l1 s0 x H locs ls  hw hW hS hl
  unfold j_Mod_mostOf_12 at hw
  refine lv_istore_n (lv' := [(2, .int s0), (0, .ref (ad 0)), (1, .int l1)]) hx hb d_Mod_mostOf_12 rfl hl (by decide) rfl (fun ls hl => ?_)
  refine lv_iconst (v := 1) hx hb d_Mod_mostOf_13 (by decide) ?_
  refine lv_istore_n (lv' := [(3, .int 1), (2, .int s0), (0, .ref (ad 0)), (1, .int l1)]) hx hb d_Mod_mostOf_14 rfl hl (by decide) rfl (fun ls hl => ?_)
  obtain ⟨n, hw⟩ := hw
  exact tl_Mod_mostOf_15 hx hb hml hown hT hK hN hA hRc hRs hRf hRl hret  n l1 s0 1 x H locs ls  hw hW hS (lv_sub hl [2, 3, 1, 0] rfl)
set_option maxRecDepth 100000 in
def wp_Mod_mostOf (post : Int32 → St → Prop) (l1 : Int32) (x : St) : Prop := ((¬ (fI x 0 42) = 0 → j_Mod_mostOf_12 post l1 0 x) ∧ ((fI x 0 42) = 0 → j_Mod_mostOf_12 post l1 (-1) x))
set_option maxHeartbeats 4000000 in
set_option maxRecDepth 100000 in
theorem t_Mod_mostOf_e {p : Program} {l : Launch} {e : Env} {R : Room} {s : State} {m : MethodId} {args : Array Value} {below : List Frame} {meth : Method} {c : Code} {cells slots : Nat} {Q : State → Prop} {dC : Nat → ClassId} {dI : Nat → Nat → Nat} {cI cB cJ cZ : ClassId} {A : Nat → Prop} {ad : Nat → Nat} {post : Int32 → St → Prop} (hx : p.tables.exec = Jvm.exec) (hb : c.code = b_Mod_mostOf) (hml : c.maxLocals = 5) (hown : s.vm.findClass R_Mod = some m.cls) (hT : ∀ w ∈ TG, w.before args s = true) (hK : va_K (dC, dI) CL (TY cI cB cJ cZ) s) (hN : NW s) (hA : ∀ q : Nat, s.heap.size ≤ q → A q) (hRc : cells ≤ R.cells) (hRs : slots ≤ R.slots) (hRf : 2 ≤ R.frames) (hRl : 44 ≤ R.locals) (hret : ∀ (r : Int32) (x : St) (H : Heap) (locs : List Loc) (pc : Nat) (ls : Array Slot), decode b_Mod_mostOf pc = .ok (.ireturn, 1) → post r x → Wd dC dI cI cB cJ cZ ad stM kcM 115 A x H → va_S A s.heap H locs → W p l e R s m args below meth c H locs cells slots Q (F0 m pc ls [.int r])) : ∀ (l1 : Int32) (x : St) (H : Heap) (locs : List Loc) (ls : Array Slot), wp_Mod_mostOf post l1 x → Wd dC dI cI cB cJ cZ ad stM kcM 115 A x H → va_S A s.heap H locs → lv_has ls 5 [(0, .ref (ad 0)), (1, .int l1)] → W p l e R s m args below meth c H locs cells slots Q (F0 m 0 ls []) := by
  intro l1 x H locs ls  hw hW hS hl
  unfold wp_Mod_mostOf at hw
  refine lv_aload_n hx hb d_Mod_mostOf_0 rfl (lv_at hl 0 rfl) ?_
  refine w_geti (k := 42) (t := 12) (C := R_Mod) (T := F_Mod) (N := 167) hx hb hT hown hK hW ko_0.1 ko_0.2 (by decide) in_Mod rfl rfl (by decide) rfl fr_Mod_42 w_8_222 d_Mod_mostOf_1 ?_
  refine lv_if_ne (tgt := 11) hx hb d_Mod_mostOf_4 (by decide) (fun c729 => ?_) (fun c729 => ?_)
  · have hw := hw.1 c729
    refine lv_iconst (v := 0) hx hb d_Mod_mostOf_11 (by decide) ?_
    exact t_Mod_mostOf_12 hx hb hml hown hT hK hN hA hRc hRs hRf hRl hret  l1 0 x H locs ls  hw hW hS (lv_sub hl [0, 1] rfl)
  · have hw := hw.2 c729
    refine lv_iconst (v := (-1)) hx hb d_Mod_mostOf_7 (by decide) ?_
    refine lv_goto (tgt := 12) hx hb d_Mod_mostOf_8 (by decide) ?_
    exact t_Mod_mostOf_12 hx hb hml hown hT hK hN hA hRc hRs hRf hRl hret  l1 (-1) x H locs ls  hw hW hS (lv_sub hl [0, 1] rfl)
set_option maxHeartbeats 4000000 in
set_option maxRecDepth 100000 in
theorem k_Mod_mostOf (l : Launch) (dC : Nat → ClassId) (dI : Nat → Nat → Nat) (cI cB cJ cZ : ClassId) (ad : Nat → Nat) (sz : Nat) (l1 : Int32) (x : St) {post : Int32 → St → Prop} (hw : wp_Mod_mostOf post l1 x) : Met l y_Mod_mostOf (wsOf y_Mod_mostOf b_Mod_mostOf 5 (some (.int))) ({ frames := 2, cells := 0, slots := 0, locals := 44 }) (va_Pc [.ref (ad 0), .int l1] (PW dC dI cI cB cJ cZ ad stM kcM 115 sz x)) (va_Qi (fun (r : Int32) (y : St) => post r y) (fun y t => Wd dC dI cI cB cJ cZ ad stM kcM 115 (va_A (pic ad stM kcM 115 cI cB cJ cZ x) sz) y t.heap) (va_A (pic ad stM kcM 115 cI cB cJ cZ x) sz)) 0 0 (va_A (pic ad stM kcM 115 cI cB cJ cZ x) sz) := by
  refine Met.ofW (cc := b_Mod_mostOf) (maxL := 5) (ret := some (.int)) (by decide) rfl ?_
  intro p e s m args below meth c s₁ B hml hv
  obtain ⟨rfl, hsz, hW0, hK, hN⟩ := hv
  have hx := B.exec
  have hb := B.bytes
  have hr := B.returns
  have hts := atoms_spec B.pre
  have hT : ∀ w ∈ TG, w.before _ s = true := fun w h => hts w (List.mem_cons_of_mem _ h)
  have hown : s.vm.findClass R_Mod = some m.cls := findClass_of_methodNamed B.named
  have hlocks := B.notSynchronized
  subst hsz
  have hW : Wd dC dI cI cB cJ cZ ad stM kcM 115 (va_A (pic ad stM kcM 115 cI cB cJ cZ x) s.heap.size) x s.heap := ⟨hW0.1, hW0.2.1.self (sz := s.heap.size), hW0.2.2⟩
  generalize hAe : va_A (pic ad stM kcM 115 cI cB cJ cZ x) s.heap.size = A at hW ⊢
  have hA : ∀ q : Nat, s.heap.size ≤ q → A q := fun q h => by rw [← hAe]; exact Or.inr h
  have hS : va_S A s.heap s.heap [] := va_S.rf
  have hl := lv_entry ([.ref (ad 0), .int l1]) (n := 5) (Nat.le_of_ble_eq_true rfl)
  rw [lg_entry_eq]
  generalize (lg_sl ([.ref (ad 0), .int l1]) ++ List.replicate (5 - (lg_sl ([.ref (ad 0), .int l1])).length) Slot.unset).toArray = ls at hl ⊢
  have hl : lv_has ls 5 [(0, .ref (ad 0)), (1, .int l1)] := hl
  exact t_Mod_mostOf_e hx hb hml hown hT hK hN hA (Nat.le_refl 0) (Nat.le_refl 0) (Nat.le_refl 2) (Nat.le_refl 44) (fun r x H locs pc ls hd hp hW hS => W.iret (v := r) hx hb hr (fun t ht hM => ⟨⟨r, x, rfl, hp, Wd.back hW ht.symm (fun _ z => z)⟩, hS.F ht⟩) hS.2.2 hd hlocks)  l1 x _ _ ls  hw hW hS hl
set_option maxRecDepth 100000 in
def wp_Mod_putOne (post : St → Prop) (l1 : Int32) (x : St) : Prop := ((¬ (fI x 0 38) = 0 → ((¬ (fI x 0 38) = 3 → (vp_in l1 (fN x 30) ∧ wp_Mod_zigzag (fun (r733 : Int64) (x732 : St) => wp_Mod_putVarint (fun (x734 : St) => post x734) r733 x732) (rL x 30 l1) x)) ∧ ((fI x 0 38) = 3 → wp_Mod_putText (fun (x735 : St) => post x735) l1 x))) ∧ ((fI x 0 38) = 0 → (vp_in l1 (fN x 30) ∧ wp_Mod_put (fun (x736 : St) => post x736) ((rL x 30 l1) : Int64).toInt32 x)))
set_option maxHeartbeats 4000000 in
set_option maxRecDepth 100000 in
theorem t_Mod_putOne_e {p : Program} {l : Launch} {e : Env} {R : Room} {s : State} {m : MethodId} {args : Array Value} {below : List Frame} {meth : Method} {c : Code} {cells slots : Nat} {Q : State → Prop} {dC : Nat → ClassId} {dI : Nat → Nat → Nat} {cI cB cJ cZ : ClassId} {A : Nat → Prop} {ad : Nat → Nat} {post : St → Prop} (hx : p.tables.exec = Jvm.exec) (hb : c.code = b_Mod_putOne) (hml : c.maxLocals = 2) (hown : s.vm.findClass R_Mod = some m.cls) (hT : ∀ w ∈ TG, w.before args s = true) (hK : va_K (dC, dI) CL (TY cI cB cJ cZ) s) (hN : NW s) (hA : ∀ q : Nat, s.heap.size ≤ q → A q) (hRc : cells ≤ R.cells) (hRs : slots ≤ R.slots) (hRf : 3 ≤ R.frames) (hRl : 67 ≤ R.locals) (hret : ∀ (x : St) (H : Heap) (locs : List Loc) (pc : Nat) (ls : Array Slot), decode b_Mod_putOne pc = .ok (.return_, 1) → post x → Wd dC dI cI cB cJ cZ ad stM kcM 115 A x H → va_S A s.heap H locs → W p l e R s m args below meth c H locs cells slots Q (F0 m pc ls [])) : ∀ (l1 : Int32) (x : St) (H : Heap) (locs : List Loc) (ls : Array Slot), wp_Mod_putOne post l1 x → Wd dC dI cI cB cJ cZ ad stM kcM 115 A x H → va_S A s.heap H locs → lv_has ls 2 [(0, .ref (ad 0)), (1, .int l1)] → W p l e R s m args below meth c H locs cells slots Q (F0 m 0 ls []) := by
  intro l1 x H locs ls  hw hW hS hl
  unfold wp_Mod_putOne at hw
  refine lv_aload_n hx hb d_Mod_putOne_0 rfl (lv_at hl 0 rfl) ?_
  refine w_geti (k := 38) (t := 12) (C := R_Mod) (T := F_Mod) (N := 167) hx hb hT hown hK hW ko_0.1 ko_0.2 (by decide) in_Mod rfl rfl (by decide) rfl fr_Mod_38 w_8_218 d_Mod_putOne_1 ?_
  refine lv_if_ne (tgt := 21) hx hb d_Mod_putOne_4 (by decide) (fun c730 => ?_) (fun c730 => ?_)
  · have hw := hw.1 c730
    refine lv_aload_n hx hb d_Mod_putOne_21 rfl (lv_at hl 0 rfl) ?_
    refine w_geti (k := 38) (t := 12) (C := R_Mod) (T := F_Mod) (N := 167) hx hb hT hown hK hW ko_0.1 ko_0.2 (by decide) in_Mod rfl rfl (by decide) rfl fr_Mod_38 w_8_218 d_Mod_putOne_22 ?_
    refine lv_iconst (v := 3) hx hb d_Mod_putOne_25 (by decide) ?_
    refine lv_icmp_ne (tgt := 37) hx hb d_Mod_putOne_26 (by decide) (fun c731 => ?_) (fun c731 => ?_)
    · have hw := hw.1 c731
      refine lv_aload_n hx hb d_Mod_putOne_37 rfl (lv_at hl 0 rfl) ?_
      refine lv_aload_n hx hb d_Mod_putOne_38 rfl (lv_at hl 0 rfl) ?_
      refine w_getf (q := 30) (k := 49) (t := 12) (C := R_Mod) (T := F_Mod) (N := 167) hx hb hT hown hK hW ko_0.1 ko_0.2 (by decide) in_Mod rfl rfl (by decide) rfl fr_Mod_49 w_8_229 d_Mod_putOne_39 rfl ?_
      refine lv_iload_n hx hb d_Mod_putOne_42 rfl (lv_at hl 1 rfl) ?_
      obtain ⟨hi, hw⟩ := hw
      refine w_lald (o := 30) hx hb hK hW ko_30.1 ko_30.2 hi d_Mod_putOne_43 ?_
      have hF := hW.free hS hA
      refine va_calll (va_runS (As := [.long (rL x 30 l1)]) (rest := [.ref (ad 0)]) ⟨hx, hb, hml, hown, hT⟩ (k_Mod_zigzag l dC dI cI cB cJ cZ ad H.size (rL x 30 l1) x  hw) ⟨callB_of 1 hT (gw_in w_11_222) rfl rfl rfl (hT _ w_1_15) (hT _ w_11_220) (by decide +kernel) ⟨Nat.le_trans (by decide) hRf, Nat.le_trans (by decide) hRl⟩, hT _ w_11_221⟩ ⟨PW.blind, PW.at _ hW hK hN⟩ rfl rfl hl.1 rfl (lv_room (Nat.le_of_ble_eq_true rfl)) d_Mod_putOne_44 ⟨hRc, hRs⟩) hS (fun q _ h => hF q h) hF (fun r733 x732 t H locs ht hvm hw hB hz1 hk1 hS => ?_)
      have hW := Wd.back hB ht hF
      clear hB ht hF hz1 hk1 hvm
      have hF := hW.free hS hA
      refine va_callv (va_runV (C := R_Mod) (As := [.long r733]) (rest := []) ⟨hx, hb, hml, hown, hT⟩ (k_Mod_putVarint l dC dI cI cB cJ cZ ad H.size r733 x732  hw) ⟨callB_of 1 hT (gw_in w_11_198) rfl rfl rfl (hT _ w_1_15) (hT _ w_11_195) (by decide +kernel) ⟨Nat.le_trans (by decide) hRf, Nat.le_trans (by decide) hRl⟩, hT _ w_11_197, hT _ ws_153⟩ ⟨PW.blind, va_recv hK hW.1 (ci := 12) (q0 := 0) rfl (pic_obj ko_0.1 ko_0.2 (by decide)), PW.at _ hW hK hN⟩ rfl rfl hl.1 rfl (lv_room (Nat.le_of_ble_eq_true rfl)) d_Mod_putOne_47 ⟨hRc, hRs⟩) hS (fun q _ h => hF q h) hF (fun  x734 t H locs ht hvm hw hB hz1 hk1 hS => ?_)
      have hW := Wd.back hB ht hF
      clear hB ht hF hz1 hk1 hvm
      exact hret x734 H locs 50 ls d_Mod_putOne_50 hw hW hS
    · have hw := hw.2 c731
      refine lv_aload_n hx hb d_Mod_putOne_29 rfl (lv_at hl 0 rfl) ?_
      refine lv_iload_n hx hb d_Mod_putOne_30 rfl (lv_at hl 1 rfl) ?_
      have hF := hW.free hS hA
      refine va_callv (va_runV (C := R_Mod) (As := [.int l1]) (rest := []) ⟨hx, hb, hml, hown, hT⟩ (k_Mod_putText l dC dI cI cB cJ cZ ad H.size l1 x  hw) ⟨callB_of 1 hT (gw_in w_12_35) rfl rfl rfl (hT _ w_1_15) (hT _ w_12_32) (by decide +kernel) ⟨Nat.le_trans (by decide) hRf, Nat.le_trans (by decide) hRl⟩, hT _ w_12_34, hT _ ws_171⟩ ⟨PW.blind, va_recv hK hW.1 (ci := 12) (q0 := 0) rfl (pic_obj ko_0.1 ko_0.2 (by decide)), PW.at _ hW hK hN⟩ rfl rfl hl.1 rfl (lv_room (Nat.le_of_ble_eq_true rfl)) d_Mod_putOne_31 ⟨hRc, hRs⟩) hS (fun q _ h => hF q h) hF (fun  x735 t H locs ht hvm hw hB hz1 hk1 hS => ?_)
      have hW := Wd.back hB ht hF
      clear hB ht hF hz1 hk1 hvm
      refine lv_goto (tgt := 50) hx hb d_Mod_putOne_34 (by decide) ?_
      exact hret x735 H locs 50 ls d_Mod_putOne_50 hw hW hS
  · have hw := hw.2 c730
    refine lv_aload_n hx hb d_Mod_putOne_7 rfl (lv_at hl 0 rfl) ?_
    refine lv_aload_n hx hb d_Mod_putOne_8 rfl (lv_at hl 0 rfl) ?_
    refine w_getf (q := 30) (k := 49) (t := 12) (C := R_Mod) (T := F_Mod) (N := 167) hx hb hT hown hK hW ko_0.1 ko_0.2 (by decide) in_Mod rfl rfl (by decide) rfl fr_Mod_49 w_8_229 d_Mod_putOne_9 rfl ?_
    refine lv_iload_n hx hb d_Mod_putOne_12 rfl (lv_at hl 1 rfl) ?_
    obtain ⟨hi, hw⟩ := hw
    refine w_lald (o := 30) hx hb hK hW ko_30.1 ko_30.2 hi d_Mod_putOne_13 ?_
    refine lv_l2i hx hb d_Mod_putOne_14 rfl ?_
    have hF := hW.free hS hA
    refine va_callv (va_runV (C := R_Mod) (As := [.int ((rL x 30 l1) : Int64).toInt32]) (rest := []) ⟨hx, hb, hml, hown, hT⟩ (k_Mod_put l dC dI cI cB cJ cZ ad H.size ((rL x 30 l1) : Int64).toInt32 x  hw) ⟨callB_of 1 hT (gw_in w_11_203) rfl rfl rfl (hT _ w_1_15) (hT _ w_11_200) (by decide +kernel) ⟨Nat.le_trans (by decide) hRf, Nat.le_trans (by decide) hRl⟩, hT _ w_11_202, hT _ ws_154⟩ ⟨PW.blind, va_recv hK hW.1 (ci := 12) (q0 := 0) rfl (pic_obj ko_0.1 ko_0.2 (by decide)), PW.at _ hW hK hN⟩ rfl rfl hl.1 rfl (lv_room (Nat.le_of_ble_eq_true rfl)) d_Mod_putOne_15 ⟨hRc, hRs⟩) hS (fun q _ h => hF q h) hF (fun  x736 t H locs ht hvm hw hB hz1 hk1 hS => ?_)
    have hW := Wd.back hB ht hF
    clear hB ht hF hz1 hk1 hvm
    refine lv_goto (tgt := 50) hx hb d_Mod_putOne_18 (by decide) ?_
    exact hret x736 H locs 50 ls d_Mod_putOne_50 hw hW hS
set_option maxHeartbeats 4000000 in
set_option maxRecDepth 100000 in
theorem k_Mod_putOne (l : Launch) (dC : Nat → ClassId) (dI : Nat → Nat → Nat) (cI cB cJ cZ : ClassId) (ad : Nat → Nat) (sz : Nat) (l1 : Int32) (x : St) {post : St → Prop} (hw : wp_Mod_putOne post l1 x) : Met l y_Mod_putOne (wsOf y_Mod_putOne b_Mod_putOne 2 (none)) ({ frames := 3, cells := 0, slots := 0, locals := 67 }) (va_Pc [.ref (ad 0), .int l1] (PW dC dI cI cB cJ cZ ad stM kcM 115 sz x)) (va_Qv (fun (y : St) => post y) (fun y t => Wd dC dI cI cB cJ cZ ad stM kcM 115 (va_A (pic ad stM kcM 115 cI cB cJ cZ x) sz) y t.heap) (va_A (pic ad stM kcM 115 cI cB cJ cZ x) sz)) 0 0 (va_A (pic ad stM kcM 115 cI cB cJ cZ x) sz) := by
  refine Met.ofW (cc := b_Mod_putOne) (maxL := 2) (ret := none) (by decide) rfl ?_
  intro p e s m args below meth c s₁ B hml hv
  obtain ⟨rfl, hsz, hW0, hK, hN⟩ := hv
  have hx := B.exec
  have hb := B.bytes
  have hr := B.returns
  have hts := atoms_spec B.pre
  have hT : ∀ w ∈ TG, w.before _ s = true := fun w h => hts w (List.mem_cons_of_mem _ h)
  have hown : s.vm.findClass R_Mod = some m.cls := findClass_of_methodNamed B.named
  have hlocks := B.notSynchronized
  subst hsz
  have hW : Wd dC dI cI cB cJ cZ ad stM kcM 115 (va_A (pic ad stM kcM 115 cI cB cJ cZ x) s.heap.size) x s.heap := ⟨hW0.1, hW0.2.1.self (sz := s.heap.size), hW0.2.2⟩
  generalize hAe : va_A (pic ad stM kcM 115 cI cB cJ cZ x) s.heap.size = A at hW ⊢
  have hA : ∀ q : Nat, s.heap.size ≤ q → A q := fun q h => by rw [← hAe]; exact Or.inr h
  have hS : va_S A s.heap s.heap [] := va_S.rf
  have hl := lv_entry ([.ref (ad 0), .int l1]) (n := 2) (Nat.le_of_ble_eq_true rfl)
  rw [lg_entry_eq]
  generalize (lg_sl ([.ref (ad 0), .int l1]) ++ List.replicate (2 - (lg_sl ([.ref (ad 0), .int l1])).length) Slot.unset).toArray = ls at hl ⊢
  have hl : lv_has ls 2 [(0, .ref (ad 0)), (1, .int l1)] := hl
  exact t_Mod_putOne_e hx hb hml hown hT hK hN hA (Nat.le_refl 0) (Nat.le_refl 0) (Nat.le_refl 3) (Nat.le_refl 67) (fun x H locs pc ls hd hp hW hS => W.vret hx hb hr (fun t ht hM => ⟨⟨x, rfl, hp, Wd.back hW ht.symm (fun _ z => z)⟩, hS.F ht⟩) hS.2.2 hd hlocks)  l1 x _ _ ls  hw hW hS hl
set_option maxRecDepth 100000 in
def j_Mod_check_58 (post : Int32 → St → Prop) (rec5 : Nat → Int32 → Int32 → Int32 → Int32 → St → Prop) (rec14 : Nat → Int32 → Int32 → Int32 → Int32 → Int32 → St → Prop) (l0 : Nat) (l1 : Int32) (l2 : Int32) (l3 : Int32) (l4 : Int32) (l5 : Int32) (l6 : Int32) (x : St) : Prop := rec14 l0 l1 l2 l3 l4 (l5 + 1) x
set_option maxHeartbeats 4000000 in
set_option maxRecDepth 100000 in
theorem t_Mod_check_58 {p : Program} {l : Launch} {e : Env} {R : Room} {s : State} {m : MethodId} {args : Array Value} {below : List Frame} {meth : Method} {c : Code} {cells slots : Nat} {Q : State → Prop} {dC : Nat → ClassId} {dI : Nat → Nat → Nat} {cI cB cJ cZ : ClassId} {A : Nat → Prop} {ad : Nat → Nat} {post : Int32 → St → Prop} {rec5 : Nat → Int32 → Int32 → Int32 → Int32 → St → Prop} {rec14 : Nat → Int32 → Int32 → Int32 → Int32 → Int32 → St → Prop} (hx : p.tables.exec = Jvm.exec) (hb : c.code = b_Mod_check) (hml : c.maxLocals = 7) (hown : s.vm.findClass R_Mod = some m.cls) (hT : ∀ w ∈ TG, w.before args s = true) (hK : va_K (dC, dI) CL (TY cI cB cJ cZ) s) (hN : NW s) (hA : ∀ q : Nat, s.heap.size ≤ q → A q) (hRc : cells ≤ R.cells) (hRs : slots ≤ R.slots) (hRf : 0 ≤ R.frames) (hRl : 0 ≤ R.locals) (hret : ∀ (r : Int32) (x : St) (H : Heap) (locs : List Loc) (pc : Nat) (ls : Array Slot), decode b_Mod_check pc = .ok (.ireturn, 1) → post r x → Wd dC dI cI cB cJ cZ ad stM kcM 115 A x H → va_S A s.heap H locs → W p l e R s m args below meth c H locs cells slots Q (F0 m pc ls [.int r])) (hrec5 : ∀ (l0 : Nat) (l1 : Int32) (l2 : Int32) (l3 : Int32) (l4 : Int32) (x : St) (H : Heap) (locs : List Loc) (ls : Array Slot), (l0 < 115 ∧ kcM l0 = 20) → rec5 l0 l1 l2 l3 l4 x → Wd dC dI cI cB cJ cZ ad stM kcM 115 A x H → va_S A s.heap H locs → lv_has ls 7 [(0, .ref (ad l0)), (1, .int l1), (2, .int l2), (3, .int l3), (4, .int l4)] → W p l e R s m args below meth c H locs cells slots Q (F0 m 5 ls [])) (hrec14 : ∀ (l0 : Nat) (l1 : Int32) (l2 : Int32) (l3 : Int32) (l4 : Int32) (l5 : Int32) (x : St) (H : Heap) (locs : List Loc) (ls : Array Slot), (l0 < 115 ∧ kcM l0 = 20) → rec14 l0 l1 l2 l3 l4 l5 x → Wd dC dI cI cB cJ cZ ad stM kcM 115 A x H → va_S A s.heap H locs → lv_has ls 7 [(0, .ref (ad l0)), (1, .int l1), (2, .int l2), (3, .int l3), (4, .int l4), (5, .int l5)] → W p l e R s m args below meth c H locs cells slots Q (F0 m 14 ls [])) : ∀ (l0 : Nat) (l1 : Int32) (l2 : Int32) (l3 : Int32) (l4 : Int32) (l5 : Int32) (l6 : Int32) (x : St) (H : Heap) (locs : List Loc) (ls : Array Slot), (l0 < 115 ∧ kcM l0 = 20) → j_Mod_check_58 post rec5 rec14 l0 l1 l2 l3 l4 l5 l6 x → Wd dC dI cI cB cJ cZ ad stM kcM 115 A x H → va_S A s.heap H locs → lv_has ls 7 [(0, .ref (ad l0)), (1, .int l1), (2, .int l2), (3, .int l3), (4, .int l4), (5, .int l5), (6, .int l6)] → W p l e R s m args below meth c H locs cells slots Q (F0 m 58 ls []) := by
  intro l0 l1 l2 l3 l4 l5 l6 x H locs ls fl0 hw hW hS hl
  unfold j_Mod_check_58 at hw
  refine lv_iinc (v := (l5 + 1)) (lv' := [(5, .int (l5 + 1)), (0, .ref (ad l0)), (1, .int l1), (2, .int l2), (3, .int l3), (4, .int l4), (6, .int l6)]) hx hb d_Mod_check_58 hl (k := 5) rfl rfl (by decide) rfl (fun ls hl => ?_)
  refine lv_goto (tgt := 14) hx hb d_Mod_check_61 (by decide) ?_
  exact hrec14 l0 l1 l2 l3 l4 (l5 + 1) x H locs ls fl0 hw hW hS (lv_sub hl [1, 2, 3, 4, 5, 0] rfl)
set_option maxRecDepth 100000 in
def j_Mod_check_41 (post : Int32 → St → Prop) (rec5 : Nat → Int32 → Int32 → Int32 → Int32 → St → Prop) (rec14 : Nat → Int32 → Int32 → Int32 → Int32 → Int32 → St → Prop) (l0 : Nat) (l1 : Int32) (l2 : Int32) (l3 : Int32) (l4 : Int32) (l5 : Int32) (s0 : Int32) (x : St) : Prop := (∀ v737 : Int32, v737 = ((l3 : Int32).toUInt32 >>> ((1 : Int32).toUInt32 &&& Int32.toUInt32 31)).toInt32 → ((s0 = 0 → j_Mod_check_58 post rec5 rec14 l0 l1 l2 v737 l4 l5 s0 x) ∧ (¬ s0 = 0 → (∀ v739 : Int32, v739 = (v737 ^^^ (-306674912)) → j_Mod_check_58 post rec5 rec14 l0 l1 l2 v739 l4 l5 s0 x))))
set_option maxHeartbeats 4000000 in
set_option maxRecDepth 100000 in
theorem t_Mod_check_41 {p : Program} {l : Launch} {e : Env} {R : Room} {s : State} {m : MethodId} {args : Array Value} {below : List Frame} {meth : Method} {c : Code} {cells slots : Nat} {Q : State → Prop} {dC : Nat → ClassId} {dI : Nat → Nat → Nat} {cI cB cJ cZ : ClassId} {A : Nat → Prop} {ad : Nat → Nat} {post : Int32 → St → Prop} {rec5 : Nat → Int32 → Int32 → Int32 → Int32 → St → Prop} {rec14 : Nat → Int32 → Int32 → Int32 → Int32 → Int32 → St → Prop} (hx : p.tables.exec = Jvm.exec) (hb : c.code = b_Mod_check) (hml : c.maxLocals = 7) (hown : s.vm.findClass R_Mod = some m.cls) (hT : ∀ w ∈ TG, w.before args s = true) (hK : va_K (dC, dI) CL (TY cI cB cJ cZ) s) (hN : NW s) (hA : ∀ q : Nat, s.heap.size ≤ q → A q) (hRc : cells ≤ R.cells) (hRs : slots ≤ R.slots) (hRf : 0 ≤ R.frames) (hRl : 0 ≤ R.locals) (hret : ∀ (r : Int32) (x : St) (H : Heap) (locs : List Loc) (pc : Nat) (ls : Array Slot), decode b_Mod_check pc = .ok (.ireturn, 1) → post r x → Wd dC dI cI cB cJ cZ ad stM kcM 115 A x H → va_S A s.heap H locs → W p l e R s m args below meth c H locs cells slots Q (F0 m pc ls [.int r])) (hrec5 : ∀ (l0 : Nat) (l1 : Int32) (l2 : Int32) (l3 : Int32) (l4 : Int32) (x : St) (H : Heap) (locs : List Loc) (ls : Array Slot), (l0 < 115 ∧ kcM l0 = 20) → rec5 l0 l1 l2 l3 l4 x → Wd dC dI cI cB cJ cZ ad stM kcM 115 A x H → va_S A s.heap H locs → lv_has ls 7 [(0, .ref (ad l0)), (1, .int l1), (2, .int l2), (3, .int l3), (4, .int l4)] → W p l e R s m args below meth c H locs cells slots Q (F0 m 5 ls [])) (hrec14 : ∀ (l0 : Nat) (l1 : Int32) (l2 : Int32) (l3 : Int32) (l4 : Int32) (l5 : Int32) (x : St) (H : Heap) (locs : List Loc) (ls : Array Slot), (l0 < 115 ∧ kcM l0 = 20) → rec14 l0 l1 l2 l3 l4 l5 x → Wd dC dI cI cB cJ cZ ad stM kcM 115 A x H → va_S A s.heap H locs → lv_has ls 7 [(0, .ref (ad l0)), (1, .int l1), (2, .int l2), (3, .int l3), (4, .int l4), (5, .int l5)] → W p l e R s m args below meth c H locs cells slots Q (F0 m 14 ls [])) : ∀ (l0 : Nat) (l1 : Int32) (l2 : Int32) (l3 : Int32) (l4 : Int32) (l5 : Int32) (s0 : Int32) (x : St) (H : Heap) (locs : List Loc) (ls : Array Slot), (l0 < 115 ∧ kcM l0 = 20) → j_Mod_check_41 post rec5 rec14 l0 l1 l2 l3 l4 l5 s0 x → Wd dC dI cI cB cJ cZ ad stM kcM 115 A x H → va_S A s.heap H locs → lv_has ls 7 [(0, .ref (ad l0)), (1, .int l1), (2, .int l2), (3, .int l3), (4, .int l4), (5, .int l5)] → W p l e R s m args below meth c H locs cells slots Q (F0 m 41 ls [.int s0]) := by
  intro l0 l1 l2 l3 l4 l5 s0 x H locs ls fl0 hw hW hS hl
  unfold j_Mod_check_41 at hw
  refine lv_istore (lv' := [(6, .int s0), (0, .ref (ad l0)), (1, .int l1), (2, .int l2), (3, .int l3), (4, .int l4), (5, .int l5)]) hx hb d_Mod_check_41 hl (by decide) rfl (fun ls hl => ?_)
  refine lv_iload_n hx hb d_Mod_check_43 rfl (lv_at hl 4 rfl) ?_
  refine lv_iconst (v := 1) hx hb d_Mod_check_44 (by decide) ?_
  refine lv_iushr hx hb d_Mod_check_45 rfl ?_
  refine lv_topi (fun v737 ev737 => ?_)
  have hw := hw v737 ev737
  refine lv_istore_n (lv' := [(3, .int v737), (6, .int s0), (0, .ref (ad l0)), (1, .int l1), (2, .int l2), (4, .int l4), (5, .int l5)]) hx hb d_Mod_check_46 rfl hl (by decide) rfl (fun ls hl => ?_)
  refine lv_iload hx hb d_Mod_check_47 (lv_at hl 1 rfl) ?_
  refine lv_if_eq (tgt := 58) hx hb d_Mod_check_49 (by decide) (fun c738 => ?_) (fun c738 => ?_)
  · have hw := hw.1 c738
    exact t_Mod_check_58 hx hb hml hown hT hK hN hA hRc hRs hRf hRl hret hrec5 hrec14 l0 l1 l2 v737 l4 l5 s0 x H locs ls fl0 hw hW hS (lv_sub hl [2, 3, 4, 0, 5, 6, 1] rfl)
  · have hw := hw.2 c738
    refine lv_iload_n hx hb d_Mod_check_52 rfl (lv_at hl 0 rfl) ?_
    refine lv_ldcw hx hb hown (hT _ w_12_55) d_Mod_check_53 ?_
    refine lv_ixor hx hb d_Mod_check_56 ?_
    refine lv_topi (fun v739 ev739 => ?_)
    have hw := hw v739 ev739
    refine lv_istore_n (lv' := [(3, .int v739), (6, .int s0), (0, .ref (ad l0)), (1, .int l1), (2, .int l2), (4, .int l4), (5, .int l5)]) hx hb d_Mod_check_57 rfl hl (by decide) rfl (fun ls hl => ?_)
    exact t_Mod_check_58 hx hb hml hown hT hK hN hA hRc hRs hRf hRl hret hrec5 hrec14 l0 l1 l2 v739 l4 l5 s0 x H locs ls fl0 hw hW hS (lv_sub hl [2, 3, 4, 0, 5, 6, 1] rfl)
set_option maxRecDepth 100000 in
def j_Mod_check_14 (post : Int32 → St → Prop) (rec5 : Nat → Int32 → Int32 → Int32 → Int32 → St → Prop) (rec14 : Nat → Int32 → Int32 → Int32 → Int32 → Int32 → St → Prop) (l0 : Nat) (l1 : Int32) (l2 : Int32) (l3 : Int32) (l4 : Int32) (l5 : Int32) (x : St) : Prop := ((8 ≤ l5 → rec5 l0 l1 l2 l3 (l4 + 1) x) ∧ (¬ 8 ≤ l5 → (vp_in l4 (fN x l0) ∧ ((¬ ((((rA x l0 l4) >>> (l5 &&& 31)) ^^^ l3) &&& 1) = 1 → j_Mod_check_41 post rec5 rec14 l0 l1 l2 l3 l4 l5 0 x) ∧ (((((rA x l0 l4) >>> (l5 &&& 31)) ^^^ l3) &&& 1) = 1 → j_Mod_check_41 post rec5 rec14 l0 l1 l2 l3 l4 l5 1 x)))))
set_option maxHeartbeats 4000000 in
set_option maxRecDepth 100000 in
theorem t_Mod_check_14 {p : Program} {l : Launch} {e : Env} {R : Room} {s : State} {m : MethodId} {args : Array Value} {below : List Frame} {meth : Method} {c : Code} {cells slots : Nat} {Q : State → Prop} {dC : Nat → ClassId} {dI : Nat → Nat → Nat} {cI cB cJ cZ : ClassId} {A : Nat → Prop} {ad : Nat → Nat} {post : Int32 → St → Prop} {rec5 : Nat → Int32 → Int32 → Int32 → Int32 → St → Prop} {rec14 : Nat → Int32 → Int32 → Int32 → Int32 → Int32 → St → Prop} (hx : p.tables.exec = Jvm.exec) (hb : c.code = b_Mod_check) (hml : c.maxLocals = 7) (hown : s.vm.findClass R_Mod = some m.cls) (hT : ∀ w ∈ TG, w.before args s = true) (hK : va_K (dC, dI) CL (TY cI cB cJ cZ) s) (hN : NW s) (hA : ∀ q : Nat, s.heap.size ≤ q → A q) (hRc : cells ≤ R.cells) (hRs : slots ≤ R.slots) (hRf : 0 ≤ R.frames) (hRl : 0 ≤ R.locals) (hret : ∀ (r : Int32) (x : St) (H : Heap) (locs : List Loc) (pc : Nat) (ls : Array Slot), decode b_Mod_check pc = .ok (.ireturn, 1) → post r x → Wd dC dI cI cB cJ cZ ad stM kcM 115 A x H → va_S A s.heap H locs → W p l e R s m args below meth c H locs cells slots Q (F0 m pc ls [.int r])) (hrec5 : ∀ (l0 : Nat) (l1 : Int32) (l2 : Int32) (l3 : Int32) (l4 : Int32) (x : St) (H : Heap) (locs : List Loc) (ls : Array Slot), (l0 < 115 ∧ kcM l0 = 20) → rec5 l0 l1 l2 l3 l4 x → Wd dC dI cI cB cJ cZ ad stM kcM 115 A x H → va_S A s.heap H locs → lv_has ls 7 [(0, .ref (ad l0)), (1, .int l1), (2, .int l2), (3, .int l3), (4, .int l4)] → W p l e R s m args below meth c H locs cells slots Q (F0 m 5 ls [])) (hrec14 : ∀ (l0 : Nat) (l1 : Int32) (l2 : Int32) (l3 : Int32) (l4 : Int32) (l5 : Int32) (x : St) (H : Heap) (locs : List Loc) (ls : Array Slot), (l0 < 115 ∧ kcM l0 = 20) → rec14 l0 l1 l2 l3 l4 l5 x → Wd dC dI cI cB cJ cZ ad stM kcM 115 A x H → va_S A s.heap H locs → lv_has ls 7 [(0, .ref (ad l0)), (1, .int l1), (2, .int l2), (3, .int l3), (4, .int l4), (5, .int l5)] → W p l e R s m args below meth c H locs cells slots Q (F0 m 14 ls [])) : ∀ (l0 : Nat) (l1 : Int32) (l2 : Int32) (l3 : Int32) (l4 : Int32) (l5 : Int32) (x : St) (H : Heap) (locs : List Loc) (ls : Array Slot), (l0 < 115 ∧ kcM l0 = 20) → j_Mod_check_14 post rec5 rec14 l0 l1 l2 l3 l4 l5 x → Wd dC dI cI cB cJ cZ ad stM kcM 115 A x H → va_S A s.heap H locs → lv_has ls 7 [(0, .ref (ad l0)), (1, .int l1), (2, .int l2), (3, .int l3), (4, .int l4), (5, .int l5)] → W p l e R s m args below meth c H locs cells slots Q (F0 m 14 ls []) := by
  intro l0 l1 l2 l3 l4 l5 x H locs ls fl0 hw hW hS hl
  unfold j_Mod_check_14 at hw
  refine lv_iload hx hb d_Mod_check_14 (lv_at hl 5 rfl) ?_
  refine lv_bipush (v := 8) hx hb d_Mod_check_16 (by decide) ?_
  refine lv_icmp_ge (tgt := 64) hx hb d_Mod_check_18 (by decide) (fun c740 => ?_) (fun c740 => ?_)
  · have hw := hw.1 c740
    refine lv_iinc (v := (l4 + 1)) (lv' := [(4, .int (l4 + 1)), (0, .ref (ad l0)), (1, .int l1), (2, .int l2), (3, .int l3), (5, .int l5)]) hx hb d_Mod_check_64 hl (k := 4) rfl rfl (by decide) rfl (fun ls hl => ?_)
    refine lv_goto (tgt := 5) hx hb d_Mod_check_67 (by decide) ?_
    exact hrec5 l0 l1 l2 l3 (l4 + 1) x H locs ls fl0 hw hW hS (lv_sub hl [1, 2, 3, 4, 0] rfl)
  · have hw := hw.2 c740
    refine lv_aload_n hx hb d_Mod_check_21 rfl (lv_at hl 0 rfl) ?_
    refine lv_iload hx hb d_Mod_check_22 (lv_at hl 4 rfl) ?_
    obtain ⟨hi, hw⟩ := hw
    refine w_iald (o := l0) hx hb hK hW fl0.1 fl0.2 hi d_Mod_check_24 ?_
    refine lv_iload hx hb d_Mod_check_25 (lv_at hl 5 rfl) ?_
    refine lv_ishr hx hb d_Mod_check_27 ?_
    refine lv_iload_n hx hb d_Mod_check_28 rfl (lv_at hl 3 rfl) ?_
    refine lv_ixor hx hb d_Mod_check_29 ?_
    refine lv_iconst (v := 1) hx hb d_Mod_check_30 (by decide) ?_
    refine lv_iand hx hb d_Mod_check_31 ?_
    refine lv_iconst (v := 1) hx hb d_Mod_check_32 (by decide) ?_
    refine lv_icmp_ne (tgt := 40) hx hb d_Mod_check_33 (by decide) (fun c741 => ?_) (fun c741 => ?_)
    · have hw := hw.1 c741
      refine lv_iconst (v := 0) hx hb d_Mod_check_40 (by decide) ?_
      exact t_Mod_check_41 hx hb hml hown hT hK hN hA hRc hRs hRf hRl hret hrec5 hrec14 l0 l1 l2 l3 l4 l5 0 x H locs ls fl0 hw hW hS (lv_sub hl [0, 1, 2, 3, 4, 5] rfl)
    · have hw := hw.2 c741
      refine lv_iconst (v := 1) hx hb d_Mod_check_36 (by decide) ?_
      refine lv_goto (tgt := 41) hx hb d_Mod_check_37 (by decide) ?_
      exact t_Mod_check_41 hx hb hml hown hT hK hN hA hRc hRs hRf hRl hret hrec5 hrec14 l0 l1 l2 l3 l4 l5 1 x H locs ls fl0 hw hW hS (lv_sub hl [0, 1, 2, 3, 4, 5] rfl)
def wl_Mod_check_14 (post : Int32 → St → Prop) (rec5 : Nat → Int32 → Int32 → Int32 → Int32 → St → Prop) : Nat → Nat → Int32 → Int32 → Int32 → Int32 → Int32 → St → Prop
  | 0 => fun _ _ _ _ _ _ _ => False
  | n + 1 => j_Mod_check_14 post rec5 (wl_Mod_check_14 post rec5 n)
set_option maxHeartbeats 4000000 in
set_option maxRecDepth 100000 in
theorem tl_Mod_check_14 {p : Program} {l : Launch} {e : Env} {R : Room} {s : State} {m : MethodId} {args : Array Value} {below : List Frame} {meth : Method} {c : Code} {cells slots : Nat} {Q : State → Prop} {dC : Nat → ClassId} {dI : Nat → Nat → Nat} {cI cB cJ cZ : ClassId} {A : Nat → Prop} {ad : Nat → Nat} {post : Int32 → St → Prop} {rec5 : Nat → Int32 → Int32 → Int32 → Int32 → St → Prop} (hx : p.tables.exec = Jvm.exec) (hb : c.code = b_Mod_check) (hml : c.maxLocals = 7) (hown : s.vm.findClass R_Mod = some m.cls) (hT : ∀ w ∈ TG, w.before args s = true) (hK : va_K (dC, dI) CL (TY cI cB cJ cZ) s) (hN : NW s) (hA : ∀ q : Nat, s.heap.size ≤ q → A q) (hRc : cells ≤ R.cells) (hRs : slots ≤ R.slots) (hRf : 0 ≤ R.frames) (hRl : 0 ≤ R.locals) (hret : ∀ (r : Int32) (x : St) (H : Heap) (locs : List Loc) (pc : Nat) (ls : Array Slot), decode b_Mod_check pc = .ok (.ireturn, 1) → post r x → Wd dC dI cI cB cJ cZ ad stM kcM 115 A x H → va_S A s.heap H locs → W p l e R s m args below meth c H locs cells slots Q (F0 m pc ls [.int r])) (hrec5 : ∀ (l0 : Nat) (l1 : Int32) (l2 : Int32) (l3 : Int32) (l4 : Int32) (x : St) (H : Heap) (locs : List Loc) (ls : Array Slot), (l0 < 115 ∧ kcM l0 = 20) → rec5 l0 l1 l2 l3 l4 x → Wd dC dI cI cB cJ cZ ad stM kcM 115 A x H → va_S A s.heap H locs → lv_has ls 7 [(0, .ref (ad l0)), (1, .int l1), (2, .int l2), (3, .int l3), (4, .int l4)] → W p l e R s m args below meth c H locs cells slots Q (F0 m 5 ls [])) : ∀ n : Nat, ∀ (l0 : Nat) (l1 : Int32) (l2 : Int32) (l3 : Int32) (l4 : Int32) (l5 : Int32) (x : St) (H : Heap) (locs : List Loc) (ls : Array Slot), (l0 < 115 ∧ kcM l0 = 20) → wl_Mod_check_14 post rec5 n l0 l1 l2 l3 l4 l5 x → Wd dC dI cI cB cJ cZ ad stM kcM 115 A x H → va_S A s.heap H locs → lv_has ls 7 [(0, .ref (ad l0)), (1, .int l1), (2, .int l2), (3, .int l3), (4, .int l4), (5, .int l5)] → W p l e R s m args below meth c H locs cells slots Q (F0 m 14 ls []) := by
  intro n
  induction n with
  | zero => intro l0 l1 l2 l3 l4 l5 x H locs ls fl0 hw; exact hw.elim
  | succ n ih => intro l0 l1 l2 l3 l4 l5 x H locs ls fl0 hw hW hS hl; exact t_Mod_check_14 hx hb hml hown hT hK hN hA hRc hRs hRf hRl hret hrec5 ih l0 l1 l2 l3 l4 l5 x H locs ls fl0 hw hW hS hl
set_option maxRecDepth 100000 in
def j_Mod_check_5 (post : Int32 → St → Prop) (rec5 : Nat → Int32 → Int32 → Int32 → Int32 → St → Prop) (l0 : Nat) (l1 : Int32) (l2 : Int32) (l3 : Int32) (l4 : Int32) (x : St) : Prop := ((l2 ≤ l4 → post (l3 ^^^ (-1)) x) ∧ (¬ l2 ≤ l4 → ∃ n : Nat, wl_Mod_check_14 post rec5 n l0 l1 l2 l3 l4 0 x))
set_option maxHeartbeats 4000000 in
set_option maxRecDepth 100000 in
theorem t_Mod_check_5 {p : Program} {l : Launch} {e : Env} {R : Room} {s : State} {m : MethodId} {args : Array Value} {below : List Frame} {meth : Method} {c : Code} {cells slots : Nat} {Q : State → Prop} {dC : Nat → ClassId} {dI : Nat → Nat → Nat} {cI cB cJ cZ : ClassId} {A : Nat → Prop} {ad : Nat → Nat} {post : Int32 → St → Prop} {rec5 : Nat → Int32 → Int32 → Int32 → Int32 → St → Prop} (hx : p.tables.exec = Jvm.exec) (hb : c.code = b_Mod_check) (hml : c.maxLocals = 7) (hown : s.vm.findClass R_Mod = some m.cls) (hT : ∀ w ∈ TG, w.before args s = true) (hK : va_K (dC, dI) CL (TY cI cB cJ cZ) s) (hN : NW s) (hA : ∀ q : Nat, s.heap.size ≤ q → A q) (hRc : cells ≤ R.cells) (hRs : slots ≤ R.slots) (hRf : 0 ≤ R.frames) (hRl : 0 ≤ R.locals) (hret : ∀ (r : Int32) (x : St) (H : Heap) (locs : List Loc) (pc : Nat) (ls : Array Slot), decode b_Mod_check pc = .ok (.ireturn, 1) → post r x → Wd dC dI cI cB cJ cZ ad stM kcM 115 A x H → va_S A s.heap H locs → W p l e R s m args below meth c H locs cells slots Q (F0 m pc ls [.int r])) (hrec5 : ∀ (l0 : Nat) (l1 : Int32) (l2 : Int32) (l3 : Int32) (l4 : Int32) (x : St) (H : Heap) (locs : List Loc) (ls : Array Slot), (l0 < 115 ∧ kcM l0 = 20) → rec5 l0 l1 l2 l3 l4 x → Wd dC dI cI cB cJ cZ ad stM kcM 115 A x H → va_S A s.heap H locs → lv_has ls 7 [(0, .ref (ad l0)), (1, .int l1), (2, .int l2), (3, .int l3), (4, .int l4)] → W p l e R s m args below meth c H locs cells slots Q (F0 m 5 ls [])) : ∀ (l0 : Nat) (l1 : Int32) (l2 : Int32) (l3 : Int32) (l4 : Int32) (x : St) (H : Heap) (locs : List Loc) (ls : Array Slot), (l0 < 115 ∧ kcM l0 = 20) → j_Mod_check_5 post rec5 l0 l1 l2 l3 l4 x → Wd dC dI cI cB cJ cZ ad stM kcM 115 A x H → va_S A s.heap H locs → lv_has ls 7 [(0, .ref (ad l0)), (1, .int l1), (2, .int l2), (3, .int l3), (4, .int l4)] → W p l e R s m args below meth c H locs cells slots Q (F0 m 5 ls []) := by
  intro l0 l1 l2 l3 l4 x H locs ls fl0 hw hW hS hl
  unfold j_Mod_check_5 at hw
  refine lv_iload hx hb d_Mod_check_5 (lv_at hl 4 rfl) ?_
  refine lv_iload_n hx hb d_Mod_check_7 rfl (lv_at hl 2 rfl) ?_
  refine lv_icmp_ge (tgt := 70) hx hb d_Mod_check_8 (by decide) (fun c742 => ?_) (fun c742 => ?_)
  · have hw := hw.1 c742
    refine lv_iload_n hx hb d_Mod_check_70 rfl (lv_at hl 3 rfl) ?_
    refine lv_iconst (v := (-1)) hx hb d_Mod_check_71 (by decide) ?_
    refine lv_ixor hx hb d_Mod_check_72 ?_
    exact hret (l3 ^^^ (-1)) x H locs 73 ls d_Mod_check_73 hw hW hS
  · have hw := hw.2 c742
    refine lv_iconst (v := 0) hx hb d_Mod_check_11 (by decide) ?_
    refine lv_istore (lv' := [(5, .int 0), (0, .ref (ad l0)), (1, .int l1), (2, .int l2), (3, .int l3), (4, .int l4)]) hx hb d_Mod_check_12 hl (by decide) rfl (fun ls hl => ?_)
    obtain ⟨n, hw⟩ := hw
    exact tl_Mod_check_14 hx hb hml hown hT hK hN hA hRc hRs hRf hRl hret hrec5 n l0 l1 l2 l3 l4 0 x H locs ls fl0 hw hW hS (lv_sub hl [1, 2, 3, 4, 5, 0] rfl)
def wl_Mod_check_5 (post : Int32 → St → Prop) : Nat → Nat → Int32 → Int32 → Int32 → Int32 → St → Prop
  | 0 => fun _ _ _ _ _ _ => False
  | n + 1 => j_Mod_check_5 post (wl_Mod_check_5 post n)
set_option maxHeartbeats 4000000 in
set_option maxRecDepth 100000 in
theorem tl_Mod_check_5 {p : Program} {l : Launch} {e : Env} {R : Room} {s : State} {m : MethodId} {args : Array Value} {below : List Frame} {meth : Method} {c : Code} {cells slots : Nat} {Q : State → Prop} {dC : Nat → ClassId} {dI : Nat → Nat → Nat} {cI cB cJ cZ : ClassId} {A : Nat → Prop} {ad : Nat → Nat} {post : Int32 → St → Prop} (hx : p.tables.exec = Jvm.exec) (hb : c.code = b_Mod_check) (hml : c.maxLocals = 7) (hown : s.vm.findClass R_Mod = some m.cls) (hT : ∀ w ∈ TG, w.before args s = true) (hK : va_K (dC, dI) CL (TY cI cB cJ cZ) s) (hN : NW s) (hA : ∀ q : Nat, s.heap.size ≤ q → A q) (hRc : cells ≤ R.cells) (hRs : slots ≤ R.slots) (hRf : 0 ≤ R.frames) (hRl : 0 ≤ R.locals) (hret : ∀ (r : Int32) (x : St) (H : Heap) (locs : List Loc) (pc : Nat) (ls : Array Slot), decode b_Mod_check pc = .ok (.ireturn, 1) → post r x → Wd dC dI cI cB cJ cZ ad stM kcM 115 A x H → va_S A s.heap H locs → W p l e R s m args below meth c H locs cells slots Q (F0 m pc ls [.int r]))  : ∀ n : Nat, ∀ (l0 : Nat) (l1 : Int32) (l2 : Int32) (l3 : Int32) (l4 : Int32) (x : St) (H : Heap) (locs : List Loc) (ls : Array Slot), (l0 < 115 ∧ kcM l0 = 20) → wl_Mod_check_5 post n l0 l1 l2 l3 l4 x → Wd dC dI cI cB cJ cZ ad stM kcM 115 A x H → va_S A s.heap H locs → lv_has ls 7 [(0, .ref (ad l0)), (1, .int l1), (2, .int l2), (3, .int l3), (4, .int l4)] → W p l e R s m args below meth c H locs cells slots Q (F0 m 5 ls []) := by
  intro n
  induction n with
  | zero => intro l0 l1 l2 l3 l4 x H locs ls fl0 hw; exact hw.elim
  | succ n ih => intro l0 l1 l2 l3 l4 x H locs ls fl0 hw hW hS hl; exact t_Mod_check_5 hx hb hml hown hT hK hN hA hRc hRs hRf hRl hret  ih l0 l1 l2 l3 l4 x H locs ls fl0 hw hW hS hl
set_option maxRecDepth 100000 in
def wp_Mod_check (post : Int32 → St → Prop) (l0 : Nat) (l1 : Int32) (l2 : Int32) (x : St) : Prop := ∃ n : Nat, wl_Mod_check_5 post n l0 l1 l2 (-1) l1 x
set_option maxHeartbeats 4000000 in
set_option maxRecDepth 100000 in
theorem t_Mod_check_e {p : Program} {l : Launch} {e : Env} {R : Room} {s : State} {m : MethodId} {args : Array Value} {below : List Frame} {meth : Method} {c : Code} {cells slots : Nat} {Q : State → Prop} {dC : Nat → ClassId} {dI : Nat → Nat → Nat} {cI cB cJ cZ : ClassId} {A : Nat → Prop} {ad : Nat → Nat} {post : Int32 → St → Prop} (hx : p.tables.exec = Jvm.exec) (hb : c.code = b_Mod_check) (hml : c.maxLocals = 7) (hown : s.vm.findClass R_Mod = some m.cls) (hT : ∀ w ∈ TG, w.before args s = true) (hK : va_K (dC, dI) CL (TY cI cB cJ cZ) s) (hN : NW s) (hA : ∀ q : Nat, s.heap.size ≤ q → A q) (hRc : cells ≤ R.cells) (hRs : slots ≤ R.slots) (hRf : 0 ≤ R.frames) (hRl : 0 ≤ R.locals) (hret : ∀ (r : Int32) (x : St) (H : Heap) (locs : List Loc) (pc : Nat) (ls : Array Slot), decode b_Mod_check pc = .ok (.ireturn, 1) → post r x → Wd dC dI cI cB cJ cZ ad stM kcM 115 A x H → va_S A s.heap H locs → W p l e R s m args below meth c H locs cells slots Q (F0 m pc ls [.int r])) : ∀ (l0 : Nat) (l1 : Int32) (l2 : Int32) (x : St) (H : Heap) (locs : List Loc) (ls : Array Slot), (l0 < 115 ∧ kcM l0 = 20) → wp_Mod_check post l0 l1 l2 x → Wd dC dI cI cB cJ cZ ad stM kcM 115 A x H → va_S A s.heap H locs → lv_has ls 7 [(0, .ref (ad l0)), (1, .int l1), (2, .int l2)] → W p l e R s m args below meth c H locs cells slots Q (F0 m 0 ls []) := by
  intro l0 l1 l2 x H locs ls fl0 hw hW hS hl
  unfold wp_Mod_check at hw
  refine lv_iconst (v := (-1)) hx hb d_Mod_check_0 (by decide) ?_
  refine lv_istore_n (lv' := [(3, .int (-1)), (0, .ref (ad l0)), (1, .int l1), (2, .int l2)]) hx hb d_Mod_check_1 rfl hl (by decide) rfl (fun ls hl => ?_)
  refine lv_iload_n hx hb d_Mod_check_2 rfl (lv_at hl 2 rfl) ?_
  refine lv_istore (lv' := [(4, .int l1), (3, .int (-1)), (0, .ref (ad l0)), (1, .int l1), (2, .int l2)]) hx hb d_Mod_check_3 hl (by decide) rfl (fun ls hl => ?_)
  obtain ⟨n, hw⟩ := hw
  exact tl_Mod_check_5 hx hb hml hown hT hK hN hA hRc hRs hRf hRl hret  n l0 l1 l2 (-1) l1 x H locs ls fl0 hw hW hS (lv_sub hl [2, 3, 4, 1, 0] rfl)
set_option maxHeartbeats 4000000 in
set_option maxRecDepth 100000 in
theorem k_Mod_check (l : Launch) (dC : Nat → ClassId) (dI : Nat → Nat → Nat) (cI cB cJ cZ : ClassId) (ad : Nat → Nat) (sz : Nat) (l0 : Nat) (l1 : Int32) (l2 : Int32) (x : St) (fl0 : l0 < 115 ∧ kcM l0 = 20) {post : Int32 → St → Prop} (hw : wp_Mod_check post l0 l1 l2 x) : Met l y_Mod_check (wsOf y_Mod_check b_Mod_check 7 (some (.int))) ({ frames := 0, cells := 0, slots := 0, locals := 0 }) (va_Pc [.ref (ad l0), .int l1, .int l2] (PW dC dI cI cB cJ cZ ad stM kcM 115 sz x)) (va_Qi (fun (r : Int32) (y : St) => post r y) (fun y t => Wd dC dI cI cB cJ cZ ad stM kcM 115 (va_A (pic ad stM kcM 115 cI cB cJ cZ x) sz) y t.heap) (va_A (pic ad stM kcM 115 cI cB cJ cZ x) sz)) 0 0 (va_A (pic ad stM kcM 115 cI cB cJ cZ x) sz) := by
  refine Met.ofW (cc := b_Mod_check) (maxL := 7) (ret := some (.int)) (by decide) rfl ?_
  intro p e s m args below meth c s₁ B hml hv
  obtain ⟨rfl, hsz, hW0, hK, hN⟩ := hv
  have hx := B.exec
  have hb := B.bytes
  have hr := B.returns
  have hts := atoms_spec B.pre
  have hT : ∀ w ∈ TG, w.before _ s = true := fun w h => hts w (List.mem_cons_of_mem _ h)
  have hown : s.vm.findClass R_Mod = some m.cls := findClass_of_methodNamed B.named
  have hlocks := B.notSynchronized
  subst hsz
  have hW : Wd dC dI cI cB cJ cZ ad stM kcM 115 (va_A (pic ad stM kcM 115 cI cB cJ cZ x) s.heap.size) x s.heap := ⟨hW0.1, hW0.2.1.self (sz := s.heap.size), hW0.2.2⟩
  generalize hAe : va_A (pic ad stM kcM 115 cI cB cJ cZ x) s.heap.size = A at hW ⊢
  have hA : ∀ q : Nat, s.heap.size ≤ q → A q := fun q h => by rw [← hAe]; exact Or.inr h
  have hS : va_S A s.heap s.heap [] := va_S.rf
  have hl := lv_entry ([.ref (ad l0), .int l1, .int l2]) (n := 7) (Nat.le_of_ble_eq_true rfl)
  rw [lg_entry_eq]
  generalize (lg_sl ([.ref (ad l0), .int l1, .int l2]) ++ List.replicate (7 - (lg_sl ([.ref (ad l0), .int l1, .int l2])).length) Slot.unset).toArray = ls at hl ⊢
  have hl : lv_has ls 7 [(0, .ref (ad l0)), (1, .int l1), (2, .int l2)] := hl
  exact t_Mod_check_e hx hb hml hown hT hK hN hA (Nat.le_refl 0) (Nat.le_refl 0) (Nat.le_refl 0) (Nat.le_refl 0) (fun r x H locs pc ls hd hp hW hS => W.iret (v := r) hx hb hr (fun t ht hM => ⟨⟨r, x, rfl, hp, Wd.back hW ht.symm (fun _ z => z)⟩, hS.F ht⟩) hS.2.2 hd hlocks)  l0 l1 l2 x _ _ ls fl0 hw hW hS hl
end
