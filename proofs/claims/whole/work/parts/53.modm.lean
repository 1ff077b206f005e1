theorem w_11_179 : (Jvm.Cond.methodLink "StripedVaultModel" (661 : Nat) ({ cls := "StripedVaultModel", name := "writeBools", desc := "(I)V" } : Jvm.MethodName)) ∈ TG := tw_11 179 (by decide +kernel) (by decide +kernel)
theorem w_11_181 : (Jvm.Cond.instanceMethod ({ cls := "StripedVaultModel", name := "writeBools", desc := "(I)V" } : Jvm.MethodName)) ∈ TG := tw_11 181 (by decide +kernel) (by decide +kernel)
theorem w_11_182 : (Jvm.Cond.code ({ cls := "StripedVaultModel", name := "writeBools", desc := "(I)V" } : Jvm.MethodName) prog_14_method_78_code (5 : Nat) (Option.none : Option Jvm.ClassFile.FieldType)) ∈ TG := tw_11 182 (by decide +kernel) (by decide +kernel)
theorem w_11_200 : (Jvm.Cond.methodLink "StripedVaultModel" (664 : Nat) ({ cls := "StripedVaultModel", name := "writeWholes", desc := "(I)V" } : Jvm.MethodName)) ∈ TG := tw_11 200 (by decide +kernel) (by decide +kernel)
theorem w_11_202 : (Jvm.Cond.instanceMethod ({ cls := "StripedVaultModel", name := "writeWholes", desc := "(I)V" } : Jvm.MethodName)) ∈ TG := tw_11 202 (by decide +kernel) (by decide +kernel)
theorem w_11_203 : (Jvm.Cond.code ({ cls := "StripedVaultModel", name := "writeWholes", desc := "(I)V" } : Jvm.MethodName) prog_14_method_80_code (5 : Nat) (Option.none : Option Jvm.ClassFile.FieldType)) ∈ TG := tw_11 203 (by decide +kernel) (by decide +kernel)
theorem w_11_236 : (Jvm.Cond.methodLink "StripedVaultModel" (667 : Nat) ({ cls := "StripedVaultModel", name := "writeLengths", desc := "()V" } : Jvm.MethodName)) ∈ TG := tw_11 236 (by decide +kernel) (by decide +kernel)
theorem w_11_238 : (Jvm.Cond.instanceMethod ({ cls := "StripedVaultModel", name := "writeLengths", desc := "()V" } : Jvm.MethodName)) ∈ TG := tw_11 238 (by decide +kernel) (by decide +kernel)
theorem w_11_239 : (Jvm.Cond.code ({ cls := "StripedVaultModel", name := "writeLengths", desc := "()V" } : Jvm.MethodName) prog_14_method_72_code (2 : Nat) (Option.none : Option Jvm.ClassFile.FieldType)) ∈ TG := tw_11 239 (by decide +kernel) (by decide +kernel)
theorem w_12_10 : (Jvm.Cond.instanceMethod ({ cls := "StripedVaultModel", name := "writeFront", desc := "()V" } : Jvm.MethodName)) ∈ TG := tw_12 10 (by decide +kernel) (by decide +kernel)
theorem w_12_11 : (Jvm.Cond.code ({ cls := "StripedVaultModel", name := "writeFront", desc := "()V" } : Jvm.MethodName) prog_14_method_74_code (3 : Nat) (Option.none : Option Jvm.ClassFile.FieldType)) ∈ TG := tw_12 11 (by decide +kernel) (by decide +kernel)
theorem w_12_16 : (Jvm.Cond.methodLink "StripedVaultModel" (673 : Nat) ({ cls := "StripedVaultModel", name := "writeDictionary", desc := "()V" } : Jvm.MethodName)) ∈ TG := tw_12 16 (by decide +kernel) (by decide +kernel)
theorem w_12_18 : (Jvm.Cond.instanceMethod ({ cls := "StripedVaultModel", name := "writeDictionary", desc := "()V" } : Jvm.MethodName)) ∈ TG := tw_12 18 (by decide +kernel) (by decide +kernel)
theorem w_12_19 : (Jvm.Cond.code ({ cls := "StripedVaultModel", name := "writeDictionary", desc := "()V" } : Jvm.MethodName) prog_14_method_75_code (4 : Nat) (Option.none : Option Jvm.ClassFile.FieldType)) ∈ TG := tw_12 19 (by decide +kernel) (by decide +kernel)
theorem w_12_20 : (Jvm.Cond.methodLink "StripedVaultModel" (641 : Nat) ({ cls := "StripedVaultModel", name := "firstLike", desc := "(I)I" } : Jvm.MethodName)) ∈ TG := tw_12 20 (by decide +kernel) (by decide +kernel)
theorem w_12_22 : (Jvm.Cond.instanceMethod ({ cls := "StripedVaultModel", name := "firstLike", desc := "(I)I" } : Jvm.MethodName)) ∈ TG := tw_12 22 (by decide +kernel) (by decide +kernel)
theorem w_12_23 : (Jvm.Cond.code ({ cls := "StripedVaultModel", name := "firstLike", desc := "(I)I" } : Jvm.MethodName) prog_14_method_70_code (3 : Nat) (Option.some Jvm.ClassFile.FieldType.int)) ∈ TG := tw_12 23 (by decide +kernel) (by decide +kernel)
theorem w_12_24 : (Jvm.Cond.methodLink "StripedVaultModel" (629 : Nat) ({ cls := "StripedVaultModel", name := "sameText", desc := "(II)Z" } : Jvm.MethodName)) ∈ TG := tw_12 24 (by decide +kernel) (by decide +kernel)
theorem w_12_26 : (Jvm.Cond.instanceMethod ({ cls := "StripedVaultModel", name := "sameText", desc := "(II)Z" } : Jvm.MethodName)) ∈ TG := tw_12 26 (by decide +kernel) (by decide +kernel)
theorem w_12_27 : (Jvm.Cond.code ({ cls := "StripedVaultModel", name := "sameText", desc := "(II)Z" } : Jvm.MethodName) prog_14_method_69_code (5 : Nat) (Option.some Jvm.ClassFile.FieldType.boolean)) ∈ TG := tw_12 27 (by decide +kernel) (by decide +kernel)
theorem w_12_28 : (Jvm.Cond.methodLink "StripedVaultModel" (644 : Nat) ({ cls := "StripedVaultModel", name := "putText", desc := "(I)V" } : Jvm.MethodName)) ∈ TG := tw_12 28 (by decide +kernel) (by decide +kernel)
theorem w_12_30 : (Jvm.Cond.instanceMethod ({ cls := "StripedVaultModel", name := "putText", desc := "(I)V" } : Jvm.MethodName)) ∈ TG := tw_12 30 (by decide +kernel) (by decide +kernel)
theorem w_12_31 : (Jvm.Cond.code ({ cls := "StripedVaultModel", name := "putText", desc := "(I)V" } : Jvm.MethodName) prog_14_method_71_code (3 : Nat) (Option.none : Option Jvm.ClassFile.FieldType)) ∈ TG := tw_12 31 (by decide +kernel) (by decide +kernel)
theorem w_12_8 : (Jvm.Cond.methodLink "StripedVaultModel" (670 : Nat) ({ cls := "StripedVaultModel", name := "writeFront", desc := "()V" } : Jvm.MethodName)) ∈ TG := tw_12 8 (by decide +kernel) (by decide +kernel)
theorem ws_150 : Cond.selects R_Mod y_Mod_writeBools y_Mod_writeBools ∈ TG := tw_s 150 (by decide +kernel) (by decide +kernel)
theorem ws_154 : Cond.selects R_Mod y_Mod_writeWholes y_Mod_writeWholes ∈ TG := tw_s 154 (by decide +kernel) (by decide +kernel)
theorem ws_162 : Cond.selects R_Mod y_Mod_writeLengths y_Mod_writeLengths ∈ TG := tw_s 162 (by decide +kernel) (by decide +kernel)
theorem ws_165 : Cond.selects R_Mod y_Mod_writeFront y_Mod_writeFront ∈ TG := tw_s 165 (by decide +kernel) (by decide +kernel)
theorem ws_167 : Cond.selects R_Mod y_Mod_writeDictionary y_Mod_writeDictionary ∈ TG := tw_s 167 (by decide +kernel) (by decide +kernel)
theorem ws_168 : Cond.selects R_Mod y_Mod_firstLike y_Mod_firstLike ∈ TG := tw_s 168 (by decide +kernel) (by decide +kernel)
theorem ws_169 : Cond.selects R_Mod y_Mod_sameText y_Mod_sameText ∈ TG := tw_s 169 (by decide +kernel) (by decide +kernel)
theorem ws_170 : Cond.selects R_Mod y_Mod_putText y_Mod_putText ∈ TG := tw_s 170 (by decide +kernel) (by decide +kernel)
theorem d_Mod_firstLike_2 : decode b_Mod_firstLike 2 = .ok (.aload_n 0, 1) := by decide +kernel
theorem d_Mod_firstLike_3 : decode b_Mod_firstLike 3 = .ok (.iload_n 2, 1) := by decide +kernel
theorem d_Mod_firstLike_4 : decode b_Mod_firstLike 4 = .ok (.iload_n 1, 1) := by decide +kernel
theorem d_Mod_firstLike_5 : decode b_Mod_firstLike 5 = .ok (.invokevirtual 629, 3) := by decide +kernel
theorem d_Mod_firstLike_8 : decode b_Mod_firstLike 8 = .ok (.ifCond .ne 9, 3) := by decide +kernel
theorem d_Mod_firstLike_17 : decode b_Mod_firstLike 17 = .ok (.iload_n 2, 1) := by decide +kernel
theorem d_Mod_firstLike_18 : decode b_Mod_firstLike 18 = .ok (.ireturn, 1) := by decide +kernel
theorem d_Mod_firstLike_11 : decode b_Mod_firstLike 11 = .ok (.iinc 2 1, 3) := by decide +kernel
theorem d_Mod_firstLike_14 : decode b_Mod_firstLike 14 = .ok (.goto (-12), 3) := by decide +kernel
theorem d_Mod_firstLike_0 : decode b_Mod_firstLike 0 = .ok (.iconst 0, 1) := by decide +kernel
theorem d_Mod_firstLike_1 : decode b_Mod_firstLike 1 = .ok (.istore_n 2, 1) := by decide +kernel
theorem d_Mod_putText_17 : decode b_Mod_putText 17 = .ok (.iload_n 2, 1) := by decide +kernel
theorem d_Mod_putText_18 : decode b_Mod_putText 18 = .ok (.aload_n 0, 1) := by decide +kernel
theorem d_Mod_putText_19 : decode b_Mod_putText 19 = .ok (.getfield 109, 3) := by decide +kernel
theorem d_Mod_putText_22 : decode b_Mod_putText 22 = .ok (.iload_n 1, 1) := by decide +kernel
theorem d_Mod_putText_23 : decode b_Mod_putText 23 = .ok (.iconst 1, 1) := by decide +kernel
theorem d_Mod_putText_24 : decode b_Mod_putText 24 = .ok (.iadd, 1) := by decide +kernel
theorem d_Mod_putText_25 : decode b_Mod_putText 25 = .ok (.iaload, 1) := by decide +kernel
theorem d_Mod_putText_26 : decode b_Mod_putText 26 = .ok (.if_icmp .ge 19, 3) := by decide +kernel
theorem d_Mod_putText_45 : decode b_Mod_putText 45 = .ok (.return_, 1) := by decide +kernel
theorem d_Mod_putText_29 : decode b_Mod_putText 29 = .ok (.aload_n 0, 1) := by decide +kernel
theorem d_Mod_putText_30 : decode b_Mod_putText 30 = .ok (.aload_n 0, 1) := by decide +kernel
theorem d_Mod_putText_31 : decode b_Mod_putText 31 = .ok (.getfield 118, 3) := by decide +kernel
theorem d_Mod_putText_34 : decode b_Mod_putText 34 = .ok (.iload_n 2, 1) := by decide +kernel
theorem d_Mod_putText_35 : decode b_Mod_putText 35 = .ok (.iaload, 1) := by decide +kernel
theorem d_Mod_putText_36 : decode b_Mod_putText 36 = .ok (.invokevirtual 558, 3) := by decide +kernel
theorem d_Mod_putText_39 : decode b_Mod_putText 39 = .ok (.iinc 2 1, 3) := by decide +kernel
theorem d_Mod_putText_42 : decode b_Mod_putText 42 = .ok (.goto (-25), 3) := by decide +kernel
theorem d_Mod_putText_0 : decode b_Mod_putText 0 = .ok (.aload_n 0, 1) := by decide +kernel
theorem d_Mod_putText_1 : decode b_Mod_putText 1 = .ok (.aload_n 0, 1) := by decide +kernel
theorem d_Mod_putText_2 : decode b_Mod_putText 2 = .ok (.iload_n 1, 1) := by decide +kernel
theorem d_Mod_putText_3 : decode b_Mod_putText 3 = .ok (.invokevirtual 626, 3) := by decide +kernel
theorem d_Mod_putText_6 : decode b_Mod_putText 6 = .ok (.i2l, 1) := by decide +kernel
theorem d_Mod_putText_7 : decode b_Mod_putText 7 = .ok (.invokevirtual 567, 3) := by decide +kernel
theorem d_Mod_putText_10 : decode b_Mod_putText 10 = .ok (.aload_n 0, 1) := by decide +kernel
theorem d_Mod_putText_11 : decode b_Mod_putText 11 = .ok (.getfield 109, 3) := by decide +kernel
theorem d_Mod_putText_14 : decode b_Mod_putText 14 = .ok (.iload_n 1, 1) := by decide +kernel
theorem d_Mod_putText_15 : decode b_Mod_putText 15 = .ok (.iaload, 1) := by decide +kernel
theorem d_Mod_putText_16 : decode b_Mod_putText 16 = .ok (.istore_n 2, 1) := by decide +kernel
theorem d_Mod_writeDictionary_96 : decode b_Mod_writeDictionary 96 = .ok (.iload_n 1, 1) := by decide +kernel
theorem d_Mod_writeDictionary_97 : decode b_Mod_writeDictionary 97 = .ok (.iconst 1, 1) := by decide +kernel
theorem d_Mod_writeDictionary_98 : decode b_Mod_writeDictionary 98 = .ok (.isub, 1) := by decide +kernel
theorem d_Mod_writeDictionary_99 : decode b_Mod_writeDictionary 99 = .ok (.iload_n 2, 1) := by decide +kernel
theorem d_Mod_writeDictionary_100 : decode b_Mod_writeDictionary 100 = .ok (.ishr, 1) := by decide +kernel
theorem d_Mod_writeDictionary_101 : decode b_Mod_writeDictionary 101 = .ok (.ifCond .le 9, 3) := by decide +kernel
theorem d_Mod_writeDictionary_110 : decode b_Mod_writeDictionary 110 = .ok (.aload_n 0, 1) := by decide +kernel
theorem d_Mod_writeDictionary_111 : decode b_Mod_writeDictionary 111 = .ok (.iload_n 2, 1) := by decide +kernel
theorem d_Mod_writeDictionary_112 : decode b_Mod_writeDictionary 112 = .ok (.invokevirtual 558, 3) := by decide +kernel
theorem d_Mod_writeDictionary_115 : decode b_Mod_writeDictionary 115 = .ok (.aload_n 0, 1) := by decide +kernel
theorem d_Mod_writeDictionary_116 : decode b_Mod_writeDictionary 116 = .ok (.aload_n 0, 1) := by decide +kernel
theorem d_Mod_writeDictionary_117 : decode b_Mod_writeDictionary 117 = .ok (.getfield 142, 3) := by decide +kernel
theorem d_Mod_writeDictionary_120 : decode b_Mod_writeDictionary 120 = .ok (.aload_n 0, 1) := by decide +kernel
theorem d_Mod_writeDictionary_121 : decode b_Mod_writeDictionary 121 = .ok (.getfield 632, 3) := by decide +kernel
theorem d_Mod_writeDictionary_124 : decode b_Mod_writeDictionary 124 = .ok (.iload_n 2, 1) := by decide +kernel
theorem d_Mod_writeDictionary_125 : decode b_Mod_writeDictionary 125 = .ok (.invokevirtual 647, 3) := by decide +kernel
theorem d_Mod_writeDictionary_128 : decode b_Mod_writeDictionary 128 = .ok (.return_, 1) := by decide +kernel
theorem d_Mod_writeDictionary_104 : decode b_Mod_writeDictionary 104 = .ok (.iinc 2 1, 3) := by decide +kernel
theorem d_Mod_writeDictionary_107 : decode b_Mod_writeDictionary 107 = .ok (.goto (-11), 3) := by decide +kernel
theorem d_Mod_writeDictionary_88 : decode b_Mod_writeDictionary 88 = .ok (.iinc 2 1, 3) := by decide +kernel
theorem d_Mod_writeDictionary_91 : decode b_Mod_writeDictionary 91 = .ok (.goto (-25), 3) := by decide +kernel
theorem d_Mod_writeDictionary_66 : decode b_Mod_writeDictionary 66 = .ok (.iload_n 2, 1) := by decide +kernel
theorem d_Mod_writeDictionary_67 : decode b_Mod_writeDictionary 67 = .ok (.aload_n 0, 1) := by decide +kernel
theorem d_Mod_writeDictionary_68 : decode b_Mod_writeDictionary 68 = .ok (.getfield 632, 3) := by decide +kernel
theorem d_Mod_writeDictionary_71 : decode b_Mod_writeDictionary 71 = .ok (.if_icmp .ge 23, 3) := by decide +kernel
theorem d_Mod_writeDictionary_94 : decode b_Mod_writeDictionary 94 = .ok (.iconst 0, 1) := by decide +kernel
theorem d_Mod_writeDictionary_95 : decode b_Mod_writeDictionary 95 = .ok (.istore_n 2, 1) := by decide +kernel
theorem d_Mod_writeDictionary_74 : decode b_Mod_writeDictionary 74 = .ok (.aload_n 0, 1) := by decide +kernel
theorem d_Mod_writeDictionary_75 : decode b_Mod_writeDictionary 75 = .ok (.iload_n 2, 1) := by decide +kernel
theorem d_Mod_writeDictionary_76 : decode b_Mod_writeDictionary 76 = .ok (.invokevirtual 641, 3) := by decide +kernel
theorem d_Mod_writeDictionary_79 : decode b_Mod_writeDictionary 79 = .ok (.iload_n 2, 1) := by decide +kernel
theorem d_Mod_writeDictionary_80 : decode b_Mod_writeDictionary 80 = .ok (.if_icmp .ne 8, 3) := by decide +kernel
theorem d_Mod_writeDictionary_83 : decode b_Mod_writeDictionary 83 = .ok (.aload_n 0, 1) := by decide +kernel
theorem d_Mod_writeDictionary_84 : decode b_Mod_writeDictionary 84 = .ok (.iload_n 2, 1) := by decide +kernel
theorem d_Mod_writeDictionary_85 : decode b_Mod_writeDictionary 85 = .ok (.invokevirtual 644, 3) := by decide +kernel
theorem d_Mod_writeDictionary_50 : decode b_Mod_writeDictionary 50 = .ok (.iadd, 1) := by decide +kernel
theorem d_Mod_writeDictionary_51 : decode b_Mod_writeDictionary 51 = .ok (.istore_n 1, 1) := by decide +kernel
theorem d_Mod_writeDictionary_52 : decode b_Mod_writeDictionary 52 = .ok (.iinc 2 1, 3) := by decide +kernel
theorem d_Mod_writeDictionary_55 : decode b_Mod_writeDictionary 55 = .ok (.goto (-51), 3) := by decide +kernel
theorem d_Mod_writeDictionary_38 : decode b_Mod_writeDictionary 38 = .ok (.iastore, 1) := by decide +kernel
theorem d_Mod_writeDictionary_39 : decode b_Mod_writeDictionary 39 = .ok (.iload_n 1, 1) := by decide +kernel
theorem d_Mod_writeDictionary_40 : decode b_Mod_writeDictionary 40 = .ok (.iload_n 3, 1) := by decide +kernel
theorem d_Mod_writeDictionary_41 : decode b_Mod_writeDictionary 41 = .ok (.iload_n 2, 1) := by decide +kernel
theorem d_Mod_writeDictionary_42 : decode b_Mod_writeDictionary 42 = .ok (.if_icmp .ne 7, 3) := by decide +kernel
theorem d_Mod_writeDictionary_49 : decode b_Mod_writeDictionary 49 = .ok (.iconst 0, 1) := by decide +kernel
theorem d_Mod_writeDictionary_45 : decode b_Mod_writeDictionary 45 = .ok (.iconst 1, 1) := by decide +kernel
theorem d_Mod_writeDictionary_46 : decode b_Mod_writeDictionary 46 = .ok (.goto 4, 3) := by decide +kernel
theorem d_Mod_writeDictionary_4 : decode b_Mod_writeDictionary 4 = .ok (.iload_n 2, 1) := by decide +kernel
theorem d_Mod_writeDictionary_5 : decode b_Mod_writeDictionary 5 = .ok (.aload_n 0, 1) := by decide +kernel
theorem d_Mod_writeDictionary_6 : decode b_Mod_writeDictionary 6 = .ok (.getfield 632, 3) := by decide +kernel
theorem d_Mod_writeDictionary_9 : decode b_Mod_writeDictionary 9 = .ok (.if_icmp .ge 49, 3) := by decide +kernel
theorem d_Mod_writeDictionary_58 : decode b_Mod_writeDictionary 58 = .ok (.aload_n 0, 1) := by decide +kernel
theorem d_Mod_writeDictionary_59 : decode b_Mod_writeDictionary 59 = .ok (.iload_n 1, 1) := by decide +kernel
theorem d_Mod_writeDictionary_60 : decode b_Mod_writeDictionary 60 = .ok (.i2l, 1) := by decide +kernel
theorem d_Mod_writeDictionary_61 : decode b_Mod_writeDictionary 61 = .ok (.invokevirtual 567, 3) := by decide +kernel
theorem d_Mod_writeDictionary_64 : decode b_Mod_writeDictionary 64 = .ok (.iconst 0, 1) := by decide +kernel
theorem d_Mod_writeDictionary_65 : decode b_Mod_writeDictionary 65 = .ok (.istore_n 2, 1) := by decide +kernel
theorem d_Mod_writeDictionary_12 : decode b_Mod_writeDictionary 12 = .ok (.aload_n 0, 1) := by decide +kernel
theorem d_Mod_writeDictionary_13 : decode b_Mod_writeDictionary 13 = .ok (.iload_n 2, 1) := by decide +kernel
theorem d_Mod_writeDictionary_14 : decode b_Mod_writeDictionary 14 = .ok (.invokevirtual 641, 3) := by decide +kernel
theorem d_Mod_writeDictionary_17 : decode b_Mod_writeDictionary 17 = .ok (.istore_n 3, 1) := by decide +kernel
theorem d_Mod_writeDictionary_18 : decode b_Mod_writeDictionary 18 = .ok (.aload_n 0, 1) := by decide +kernel
theorem d_Mod_writeDictionary_19 : decode b_Mod_writeDictionary 19 = .ok (.getfield 142, 3) := by decide +kernel
theorem d_Mod_writeDictionary_22 : decode b_Mod_writeDictionary 22 = .ok (.iload_n 2, 1) := by decide +kernel
theorem d_Mod_writeDictionary_23 : decode b_Mod_writeDictionary 23 = .ok (.iload_n 3, 1) := by decide +kernel
theorem d_Mod_writeDictionary_24 : decode b_Mod_writeDictionary 24 = .ok (.iload_n 2, 1) := by decide +kernel
theorem d_Mod_writeDictionary_25 : decode b_Mod_writeDictionary 25 = .ok (.if_icmp .ne 7, 3) := by decide +kernel
theorem d_Mod_writeDictionary_32 : decode b_Mod_writeDictionary 32 = .ok (.aload_n 0, 1) := by decide +kernel
theorem d_Mod_writeDictionary_33 : decode b_Mod_writeDictionary 33 = .ok (.getfield 142, 3) := by decide +kernel
theorem d_Mod_writeDictionary_36 : decode b_Mod_writeDictionary 36 = .ok (.iload_n 3, 1) := by decide +kernel
theorem d_Mod_writeDictionary_37 : decode b_Mod_writeDictionary 37 = .ok (.iaload, 1) := by decide +kernel
theorem d_Mod_writeDictionary_28 : decode b_Mod_writeDictionary 28 = .ok (.iload_n 1, 1) := by decide +kernel
theorem d_Mod_writeDictionary_29 : decode b_Mod_writeDictionary 29 = .ok (.goto 9, 3) := by decide +kernel
theorem d_Mod_writeDictionary_0 : decode b_Mod_writeDictionary 0 = .ok (.iconst 0, 1) := by decide +kernel
theorem d_Mod_writeDictionary_1 : decode b_Mod_writeDictionary 1 = .ok (.istore_n 1, 1) := by decide +kernel
theorem d_Mod_writeDictionary_2 : decode b_Mod_writeDictionary 2 = .ok (.iconst 0, 1) := by decide +kernel
theorem d_Mod_writeDictionary_3 : decode b_Mod_writeDictionary 3 = .ok (.istore_n 2, 1) := by decide +kernel
theorem d_Mod_writeValues_66 : decode b_Mod_writeValues 66 = .ok (.iload_n 2, 1) := by decide +kernel
theorem d_Mod_writeValues_67 : decode b_Mod_writeValues 67 = .ok (.aload_n 0, 1) := by decide +kernel
theorem d_Mod_writeValues_68 : decode b_Mod_writeValues 68 = .ok (.getfield 632, 3) := by decide +kernel
theorem d_Mod_writeValues_71 : decode b_Mod_writeValues 71 = .ok (.if_icmp .ge 26, 3) := by decide +kernel
theorem d_Mod_writeValues_97 : decode b_Mod_writeValues 97 = .ok (.return_, 1) := by decide +kernel
theorem d_Mod_writeValues_74 : decode b_Mod_writeValues 74 = .ok (.aload_n 0, 1) := by decide +kernel
theorem d_Mod_writeValues_75 : decode b_Mod_writeValues 75 = .ok (.getfield 623, 3) := by decide +kernel
theorem d_Mod_writeValues_78 : decode b_Mod_writeValues 78 = .ok (.iconst 3, 1) := by decide +kernel
theorem d_Mod_writeValues_79 : decode b_Mod_writeValues 79 = .ok (.if_icmp .ne 18, 3) := by decide +kernel
theorem d_Mod_writeValues_82 : decode b_Mod_writeValues 82 = .ok (.iload_n 1, 1) := by decide +kernel
theorem d_Mod_writeValues_83 : decode b_Mod_writeValues 83 = .ok (.ifCond .ne 14, 3) := by decide +kernel
theorem d_Mod_writeValues_86 : decode b_Mod_writeValues 86 = .ok (.aload_n 0, 1) := by decide +kernel
theorem d_Mod_writeValues_87 : decode b_Mod_writeValues 87 = .ok (.iload_n 2, 1) := by decide +kernel
theorem d_Mod_writeValues_88 : decode b_Mod_writeValues 88 = .ok (.invokevirtual 644, 3) := by decide +kernel
theorem d_Mod_writeValues_91 : decode b_Mod_writeValues 91 = .ok (.iinc 2 1, 3) := by decide +kernel
theorem d_Mod_writeValues_94 : decode b_Mod_writeValues 94 = .ok (.goto (-28), 3) := by decide +kernel
theorem d_Mod_writeValues_64 : decode b_Mod_writeValues 64 = .ok (.iconst 0, 1) := by decide +kernel
theorem d_Mod_writeValues_65 : decode b_Mod_writeValues 65 = .ok (.istore_n 2, 1) := by decide +kernel
theorem d_Mod_writeValues_0 : decode b_Mod_writeValues 0 = .ok (.aload_n 0, 1) := by decide +kernel
theorem d_Mod_writeValues_1 : decode b_Mod_writeValues 1 = .ok (.getfield 623, 3) := by decide +kernel
theorem d_Mod_writeValues_4 : decode b_Mod_writeValues 4 = .ok (.ifCond .ne 11, 3) := by decide +kernel
theorem d_Mod_writeValues_15 : decode b_Mod_writeValues 15 = .ok (.aload_n 0, 1) := by decide +kernel
theorem d_Mod_writeValues_16 : decode b_Mod_writeValues 16 = .ok (.getfield 623, 3) := by decide +kernel
theorem d_Mod_writeValues_19 : decode b_Mod_writeValues 19 = .ok (.iconst 3, 1) := by decide +kernel
theorem d_Mod_writeValues_20 : decode b_Mod_writeValues 20 = .ok (.if_icmp .eq 11, 3) := by decide +kernel
theorem d_Mod_writeValues_31 : decode b_Mod_writeValues 31 = .ok (.iload_n 1, 1) := by decide +kernel
theorem d_Mod_writeValues_32 : decode b_Mod_writeValues 32 = .ok (.iconst 1, 1) := by decide +kernel
theorem d_Mod_writeValues_33 : decode b_Mod_writeValues 33 = .ok (.if_icmp .ne 10, 3) := by decide +kernel
theorem d_Mod_writeValues_43 : decode b_Mod_writeValues 43 = .ok (.iload_n 1, 1) := by decide +kernel
theorem d_Mod_writeValues_44 : decode b_Mod_writeValues 44 = .ok (.iconst 2, 1) := by decide +kernel
theorem d_Mod_writeValues_45 : decode b_Mod_writeValues 45 = .ok (.if_icmp .ne 10, 3) := by decide +kernel
theorem d_Mod_writeValues_55 : decode b_Mod_writeValues 55 = .ok (.iload_n 1, 1) := by decide +kernel
theorem d_Mod_writeValues_56 : decode b_Mod_writeValues 56 = .ok (.iconst 3, 1) := by decide +kernel
theorem d_Mod_writeValues_57 : decode b_Mod_writeValues 57 = .ok (.if_icmp .ne 7, 3) := by decide +kernel
theorem d_Mod_writeValues_60 : decode b_Mod_writeValues 60 = .ok (.aload_n 0, 1) := by decide +kernel
theorem d_Mod_writeValues_61 : decode b_Mod_writeValues 61 = .ok (.invokevirtual 673, 3) := by decide +kernel
theorem d_Mod_writeValues_48 : decode b_Mod_writeValues 48 = .ok (.aload_n 0, 1) := by decide +kernel
theorem d_Mod_writeValues_49 : decode b_Mod_writeValues 49 = .ok (.invokevirtual 670, 3) := by decide +kernel
theorem d_Mod_writeValues_52 : decode b_Mod_writeValues 52 = .ok (.goto 12, 3) := by decide +kernel
theorem d_Mod_writeValues_36 : decode b_Mod_writeValues 36 = .ok (.aload_n 0, 1) := by decide +kernel
theorem d_Mod_writeValues_37 : decode b_Mod_writeValues 37 = .ok (.invokevirtual 667, 3) := by decide +kernel
theorem d_Mod_writeValues_40 : decode b_Mod_writeValues 40 = .ok (.goto 24, 3) := by decide +kernel
theorem d_Mod_writeValues_23 : decode b_Mod_writeValues 23 = .ok (.aload_n 0, 1) := by decide +kernel
theorem d_Mod_writeValues_24 : decode b_Mod_writeValues 24 = .ok (.iload_n 1, 1) := by decide +kernel
theorem d_Mod_writeValues_25 : decode b_Mod_writeValues 25 = .ok (.invokevirtual 664, 3) := by decide +kernel
theorem d_Mod_writeValues_28 : decode b_Mod_writeValues 28 = .ok (.goto 36, 3) := by decide +kernel
theorem d_Mod_writeValues_7 : decode b_Mod_writeValues 7 = .ok (.aload_n 0, 1) := by decide +kernel
theorem d_Mod_writeValues_8 : decode b_Mod_writeValues 8 = .ok (.iload_n 1, 1) := by decide +kernel
theorem d_Mod_writeValues_9 : decode b_Mod_writeValues 9 = .ok (.invokevirtual 661, 3) := by decide +kernel
theorem d_Mod_writeValues_12 : decode b_Mod_writeValues 12 = .ok (.goto 52, 3) := by decide +kernel
theorem d_Mod_putLevels_7 : decode b_Mod_putLevels 7 = .ok (.iload_n 2, 1) := by decide +kernel
theorem d_Mod_putLevels_8 : decode b_Mod_putLevels 8 = .ok (.iload_n 3, 1) := by decide +kernel
theorem d_Mod_putLevels_9 : decode b_Mod_putLevels 9 = .ok (.ishr, 1) := by decide +kernel
theorem d_Mod_putLevels_10 : decode b_Mod_putLevels 10 = .ok (.ifCond .le 9, 3) := by decide +kernel
theorem d_Mod_putLevels_19 : decode b_Mod_putLevels 19 = .ok (.aload_n 0, 1) := by decide +kernel
theorem d_Mod_putLevels_20 : decode b_Mod_putLevels 20 = .ok (.getfield 547, 3) := by decide +kernel
theorem d_Mod_putLevels_23 : decode b_Mod_putLevels 23 = .ok (.istore 4, 2) := by decide +kernel
theorem d_Mod_putLevels_25 : decode b_Mod_putLevels 25 = .ok (.aload_n 0, 1) := by decide +kernel
theorem d_Mod_putLevels_26 : decode b_Mod_putLevels 26 = .ok (.aload_n 1, 1) := by decide +kernel
theorem d_Mod_putLevels_27 : decode b_Mod_putLevels 27 = .ok (.aload_n 0, 1) := by decide +kernel
theorem d_Mod_putLevels_28 : decode b_Mod_putLevels 28 = .ok (.getfield 676, 3) := by decide +kernel
theorem d_Mod_putLevels_31 : decode b_Mod_putLevels 31 = .ok (.iload_n 3, 1) := by decide +kernel
theorem d_Mod_putLevels_32 : decode b_Mod_putLevels 32 = .ok (.invokevirtual 647, 3) := by decide +kernel
theorem d_Mod_putLevels_35 : decode b_Mod_putLevels 35 = .ok (.aload_n 0, 1) := by decide +kernel
theorem d_Mod_putLevels_36 : decode b_Mod_putLevels 36 = .ok (.getfield 547, 3) := by decide +kernel
theorem d_Mod_putLevels_39 : decode b_Mod_putLevels 39 = .ok (.iload 4, 2) := by decide +kernel
theorem d_Mod_putLevels_41 : decode b_Mod_putLevels 41 = .ok (.isub, 1) := by decide +kernel
theorem d_Mod_putLevels_42 : decode b_Mod_putLevels 42 = .ok (.istore 5, 2) := by decide +kernel
theorem d_Mod_putLevels_44 : decode b_Mod_putLevels 44 = .ok (.aload_n 0, 1) := by decide +kernel
theorem d_Mod_putLevels_45 : decode b_Mod_putLevels 45 = .ok (.iload 4, 2) := by decide +kernel
theorem d_Mod_putLevels_47 : decode b_Mod_putLevels 47 = .ok (.putfield 547, 3) := by decide +kernel
theorem d_Mod_putLevels_50 : decode b_Mod_putLevels 50 = .ok (.aload_n 0, 1) := by decide +kernel
theorem d_Mod_putLevels_51 : decode b_Mod_putLevels 51 = .ok (.iload 5, 2) := by decide +kernel
theorem d_Mod_putLevels_53 : decode b_Mod_putLevels 53 = .ok (.i2l, 1) := by decide +kernel
theorem d_Mod_putLevels_54 : decode b_Mod_putLevels 54 = .ok (.invokevirtual 567, 3) := by decide +kernel
theorem d_Mod_putLevels_57 : decode b_Mod_putLevels 57 = .ok (.aload_n 0, 1) := by decide +kernel
theorem d_Mod_putLevels_58 : decode b_Mod_putLevels 58 = .ok (.aload_n 1, 1) := by decide +kernel
theorem d_Mod_putLevels_59 : decode b_Mod_putLevels 59 = .ok (.aload_n 0, 1) := by decide +kernel
theorem d_Mod_putLevels_60 : decode b_Mod_putLevels 60 = .ok (.getfield 676, 3) := by decide +kernel
theorem d_Mod_putLevels_63 : decode b_Mod_putLevels 63 = .ok (.iload_n 3, 1) := by decide +kernel
theorem d_Mod_putLevels_64 : decode b_Mod_putLevels 64 = .ok (.invokevirtual 647, 3) := by decide +kernel
theorem d_Mod_putLevels_67 : decode b_Mod_putLevels 67 = .ok (.return_, 1) := by decide +kernel
theorem d_Mod_putLevels_13 : decode b_Mod_putLevels 13 = .ok (.iinc 3 1, 3) := by decide +kernel
theorem d_Mod_putLevels_16 : decode b_Mod_putLevels 16 = .ok (.goto (-9), 3) := by decide +kernel
theorem d_Mod_putLevels_0 : decode b_Mod_putLevels 0 = .ok (.iload_n 2, 1) := by decide +kernel
theorem d_Mod_putLevels_1 : decode b_Mod_putLevels 1 = .ok (.ifCond .ne 4, 3) := by decide +kernel
theorem d_Mod_putLevels_5 : decode b_Mod_putLevels 5 = .ok (.iconst 0, 1) := by decide +kernel
theorem d_Mod_putLevels_6 : decode b_Mod_putLevels 6 = .ok (.istore_n 3, 1) := by decide +kernel
theorem d_Mod_putLevels_4 : decode b_Mod_putLevels 4 = .ok (.return_, 1) := by decide +kernel
theorem d_Mod_compareValues_133 : decode b_Mod_compareValues 133 = .ok (.aload_n 0, 1) := by decide +kernel
theorem d_Mod_compareValues_134 : decode b_Mod_compareValues 134 = .ok (.iload_n 1, 1) := by decide +kernel
theorem d_Mod_compareValues_135 : decode b_Mod_compareValues 135 = .ok (.invokevirtual 626, 3) := by decide +kernel
theorem d_Mod_compareValues_138 : decode b_Mod_compareValues 138 = .ok (.aload_n 0, 1) := by decide +kernel
theorem d_Mod_compareValues_139 : decode b_Mod_compareValues 139 = .ok (.iload_n 2, 1) := by decide +kernel
theorem d_Mod_compareValues_140 : decode b_Mod_compareValues 140 = .ok (.invokevirtual 626, 3) := by decide +kernel
theorem d_Mod_compareValues_143 : decode b_Mod_compareValues 143 = .ok (.isub, 1) := by decide +kernel
theorem d_Mod_compareValues_144 : decode b_Mod_compareValues 144 = .ok (.ireturn, 1) := by decide +kernel
theorem d_Mod_compareValues_52 : decode b_Mod_compareValues 52 = .ok (.iload_n 3, 1) := by decide +kernel
theorem d_Mod_compareValues_53 : decode b_Mod_compareValues 53 = .ok (.aload_n 0, 1) := by decide +kernel
theorem d_Mod_compareValues_54 : decode b_Mod_compareValues 54 = .ok (.iload_n 1, 1) := by decide +kernel
theorem d_Mod_compareValues_55 : decode b_Mod_compareValues 55 = .ok (.invokevirtual 626, 3) := by decide +kernel
theorem d_Mod_compareValues_58 : decode b_Mod_compareValues 58 = .ok (.if_icmp .ge 75, 3) := by decide +kernel
theorem d_Mod_compareValues_61 : decode b_Mod_compareValues 61 = .ok (.iload_n 3, 1) := by decide +kernel
theorem d_Mod_compareValues_62 : decode b_Mod_compareValues 62 = .ok (.aload_n 0, 1) := by decide +kernel
theorem d_Mod_compareValues_63 : decode b_Mod_compareValues 63 = .ok (.iload_n 2, 1) := by decide +kernel
theorem d_Mod_compareValues_64 : decode b_Mod_compareValues 64 = .ok (.invokevirtual 626, 3) := by decide +kernel
theorem d_Mod_compareValues_67 : decode b_Mod_compareValues 67 = .ok (.if_icmp .ge 66, 3) := by decide +kernel
theorem d_Mod_compareValues_70 : decode b_Mod_compareValues 70 = .ok (.aload_n 0, 1) := by decide +kernel
theorem d_Mod_compareValues_71 : decode b_Mod_compareValues 71 = .ok (.getfield 118, 3) := by decide +kernel
theorem d_Mod_compareValues_74 : decode b_Mod_compareValues 74 = .ok (.aload_n 0, 1) := by decide +kernel
theorem d_Mod_compareValues_75 : decode b_Mod_compareValues 75 = .ok (.getfield 109, 3) := by decide +kernel
theorem d_Mod_compareValues_78 : decode b_Mod_compareValues 78 = .ok (.iload_n 1, 1) := by decide +kernel
theorem d_Mod_compareValues_79 : decode b_Mod_compareValues 79 = .ok (.iaload, 1) := by decide +kernel
theorem d_Mod_compareValues_80 : decode b_Mod_compareValues 80 = .ok (.iload_n 3, 1) := by decide +kernel
theorem d_Mod_compareValues_81 : decode b_Mod_compareValues 81 = .ok (.iadd, 1) := by decide +kernel
theorem d_Mod_compareValues_82 : decode b_Mod_compareValues 82 = .ok (.iaload, 1) := by decide +kernel
theorem d_Mod_compareValues_83 : decode b_Mod_compareValues 83 = .ok (.aload_n 0, 1) := by decide +kernel
theorem d_Mod_compareValues_84 : decode b_Mod_compareValues 84 = .ok (.getfield 118, 3) := by decide +kernel
theorem d_Mod_compareValues_87 : decode b_Mod_compareValues 87 = .ok (.aload_n 0, 1) := by decide +kernel
theorem d_Mod_compareValues_88 : decode b_Mod_compareValues 88 = .ok (.getfield 109, 3) := by decide +kernel
theorem d_Mod_compareValues_91 : decode b_Mod_compareValues 91 = .ok (.iload_n 2, 1) := by decide +kernel
theorem d_Mod_compareValues_92 : decode b_Mod_compareValues 92 = .ok (.iaload, 1) := by decide +kernel
theorem d_Mod_compareValues_93 : decode b_Mod_compareValues 93 = .ok (.iload_n 3, 1) := by decide +kernel
theorem d_Mod_compareValues_94 : decode b_Mod_compareValues 94 = .ok (.iadd, 1) := by decide +kernel
theorem d_Mod_compareValues_95 : decode b_Mod_compareValues 95 = .ok (.iaload, 1) := by decide +kernel
theorem d_Mod_compareValues_96 : decode b_Mod_compareValues 96 = .ok (.if_icmp .eq 31, 3) := by decide +kernel
theorem d_Mod_compareValues_127 : decode b_Mod_compareValues 127 = .ok (.iinc 3 1, 3) := by decide +kernel
theorem d_Mod_compareValues_130 : decode b_Mod_compareValues 130 = .ok (.goto (-78), 3) := by decide +kernel
theorem d_Mod_compareValues_99 : decode b_Mod_compareValues 99 = .ok (.aload_n 0, 1) := by decide +kernel
theorem d_Mod_compareValues_100 : decode b_Mod_compareValues 100 = .ok (.getfield 118, 3) := by decide +kernel
theorem d_Mod_compareValues_103 : decode b_Mod_compareValues 103 = .ok (.aload_n 0, 1) := by decide +kernel
theorem d_Mod_compareValues_104 : decode b_Mod_compareValues 104 = .ok (.getfield 109, 3) := by decide +kernel
theorem d_Mod_compareValues_107 : decode b_Mod_compareValues 107 = .ok (.iload_n 1, 1) := by decide +kernel
theorem d_Mod_compareValues_108 : decode b_Mod_compareValues 108 = .ok (.iaload, 1) := by decide +kernel
theorem d_Mod_compareValues_109 : decode b_Mod_compareValues 109 = .ok (.iload_n 3, 1) := by decide +kernel
theorem d_Mod_compareValues_110 : decode b_Mod_compareValues 110 = .ok (.iadd, 1) := by decide +kernel
theorem d_Mod_compareValues_111 : decode b_Mod_compareValues 111 = .ok (.iaload, 1) := by decide +kernel
theorem d_Mod_compareValues_112 : decode b_Mod_compareValues 112 = .ok (.aload_n 0, 1) := by decide +kernel
theorem d_Mod_compareValues_113 : decode b_Mod_compareValues 113 = .ok (.getfield 118, 3) := by decide +kernel
theorem d_Mod_compareValues_116 : decode b_Mod_compareValues 116 = .ok (.aload_n 0, 1) := by decide +kernel
theorem d_Mod_compareValues_117 : decode b_Mod_compareValues 117 = .ok (.getfield 109, 3) := by decide +kernel
theorem d_Mod_compareValues_120 : decode b_Mod_compareValues 120 = .ok (.iload_n 2, 1) := by decide +kernel
theorem d_Mod_compareValues_121 : decode b_Mod_compareValues 121 = .ok (.iaload, 1) := by decide +kernel
theorem d_Mod_compareValues_122 : decode b_Mod_compareValues 122 = .ok (.iload_n 3, 1) := by decide +kernel
theorem d_Mod_compareValues_123 : decode b_Mod_compareValues 123 = .ok (.iadd, 1) := by decide +kernel
theorem d_Mod_compareValues_124 : decode b_Mod_compareValues 124 = .ok (.iaload, 1) := by decide +kernel
theorem d_Mod_compareValues_125 : decode b_Mod_compareValues 125 = .ok (.isub, 1) := by decide +kernel
theorem d_Mod_compareValues_126 : decode b_Mod_compareValues 126 = .ok (.ireturn, 1) := by decide +kernel
theorem d_Mod_compareValues_0 : decode b_Mod_compareValues 0 = .ok (.aload_n 0, 1) := by decide +kernel
theorem d_Mod_compareValues_1 : decode b_Mod_compareValues 1 = .ok (.getfield 623, 3) := by decide +kernel
theorem d_Mod_compareValues_4 : decode b_Mod_compareValues 4 = .ok (.iconst 3, 1) := by decide +kernel
theorem d_Mod_compareValues_5 : decode b_Mod_compareValues 5 = .ok (.if_icmp .eq 45, 3) := by decide +kernel
theorem d_Mod_compareValues_50 : decode b_Mod_compareValues 50 = .ok (.iconst 0, 1) := by decide +kernel
theorem d_Mod_compareValues_51 : decode b_Mod_compareValues 51 = .ok (.istore_n 3, 1) := by decide +kernel
theorem d_Mod_compareValues_8 : decode b_Mod_compareValues 8 = .ok (.aload_n 0, 1) := by decide +kernel
theorem d_Mod_compareValues_9 : decode b_Mod_compareValues 9 = .ok (.getfield 100, 3) := by decide +kernel
theorem d_Mod_compareValues_12 : decode b_Mod_compareValues 12 = .ok (.iload_n 1, 1) := by decide +kernel
theorem d_Mod_compareValues_13 : decode b_Mod_compareValues 13 = .ok (.laload, 1) := by decide +kernel
theorem d_Mod_compareValues_14 : decode b_Mod_compareValues 14 = .ok (.aload_n 0, 1) := by decide +kernel
theorem d_Mod_compareValues_15 : decode b_Mod_compareValues 15 = .ok (.getfield 100, 3) := by decide +kernel
theorem d_Mod_compareValues_18 : decode b_Mod_compareValues 18 = .ok (.iload_n 2, 1) := by decide +kernel
theorem d_Mod_compareValues_19 : decode b_Mod_compareValues 19 = .ok (.laload, 1) := by decide +kernel
theorem d_Mod_compareValues_20 : decode b_Mod_compareValues 20 = .ok (.lcmp, 1) := by decide +kernel
theorem d_Mod_compareValues_21 : decode b_Mod_compareValues 21 = .ok (.ifCond .ge 7, 3) := by decide +kernel
theorem d_Mod_compareValues_28 : decode b_Mod_compareValues 28 = .ok (.aload_n 0, 1) := by decide +kernel
theorem d_Mod_compareValues_29 : decode b_Mod_compareValues 29 = .ok (.getfield 100, 3) := by decide +kernel
theorem d_Mod_compareValues_32 : decode b_Mod_compareValues 32 = .ok (.iload_n 1, 1) := by decide +kernel
theorem d_Mod_compareValues_33 : decode b_Mod_compareValues 33 = .ok (.laload, 1) := by decide +kernel
theorem d_Mod_compareValues_34 : decode b_Mod_compareValues 34 = .ok (.aload_n 0, 1) := by decide +kernel
theorem d_Mod_compareValues_35 : decode b_Mod_compareValues 35 = .ok (.getfield 100, 3) := by decide +kernel
theorem d_Mod_compareValues_38 : decode b_Mod_compareValues 38 = .ok (.iload_n 2, 1) := by decide +kernel
theorem d_Mod_compareValues_39 : decode b_Mod_compareValues 39 = .ok (.laload, 1) := by decide +kernel
theorem d_Mod_compareValues_40 : decode b_Mod_compareValues 40 = .ok (.lcmp, 1) := by decide +kernel
theorem d_Mod_compareValues_41 : decode b_Mod_compareValues 41 = .ok (.ifCond .le 7, 3) := by decide +kernel
theorem d_Mod_compareValues_48 : decode b_Mod_compareValues 48 = .ok (.iconst 0, 1) := by decide +kernel
theorem d_Mod_compareValues_49 : decode b_Mod_compareValues 49 = .ok (.ireturn, 1) := by decide +kernel
theorem d_Mod_compareValues_44 : decode b_Mod_compareValues 44 = .ok (.iconst 1, 1) := by decide +kernel
theorem d_Mod_compareValues_45 : decode b_Mod_compareValues 45 = .ok (.goto 4, 3) := by decide +kernel
theorem d_Mod_compareValues_24 : decode b_Mod_compareValues 24 = .ok (.iconst (-1), 1) := by decide +kernel
theorem d_Mod_compareValues_25 : decode b_Mod_compareValues 25 = .ok (.goto 24, 3) := by decide +kernel
section
variable (l : Launch) (dC : Nat → ClassId) (dI : Nat → Nat → Nat) (cI cB cJ cZ : ClassId)
set_option maxRecDepth 100000 in
set_option maxHeartbeats 4000000 in
set_option maxRecDepth 100000 in
theorem t_Mod_firstLike_2 {p : Program} {l : Launch} {e : Env} {R : Room} {s : State} {m : MethodId} {args : Array Value} {below : List Frame} {meth : Method} {c : Code} {cells slots : Nat} {Q : State → Prop} {dC : Nat → ClassId} {dI : Nat → Nat → Nat} {cI cB cJ cZ : ClassId} {A : Nat → Prop} {ad : Nat → Nat} {post : Int32 → St → Prop} {rec2 : Int32 → Int32 → St → Prop} (hx : p.tables.exec = Jvm.exec) (hb : c.code = b_Mod_firstLike) (hml : c.maxLocals = 3) (hown : s.vm.findClass R_Mod = some m.cls) (hT : ∀ w ∈ TG, w.before args s = true) (hK : va_K (dC, dI) CL (TY cI cB cJ cZ) s) (hN : NW s) (hA : ∀ q : Nat, s.heap.size ≤ q → A q) (hRc : cells ≤ R.cells) (hRs : slots ≤ R.slots) (hRf : 2 ≤ R.frames) (hRl : 45 ≤ R.locals) (hret : ∀ (r : Int32) (x : St) (H : Heap) (locs : List Loc) (pc : Nat) (ls : Array Slot), decode b_Mod_firstLike pc = .ok (.ireturn, 1) → post r x → Wd dC dI cI cB cJ cZ ad stM kcM 115 A x H → va_S A s.heap H locs → W p l e R s m args below meth c H locs cells slots Q (F0 m pc ls [.int r])) (hrec2 : ∀ (l1 : Int32) (l2 : Int32) (x : St) (H : Heap) (locs : List Loc) (ls : Array Slot), rec2 l1 l2 x → Wd dC dI cI cB cJ cZ ad stM kcM 115 A x H → va_S A s.heap H locs → lv_has ls 3 [(0, .ref (ad 0)), (1, .int l1), (2, .int l2)] → W p l e R s m args below meth c H locs cells slots Q (F0 m 2 ls [])) : ∀ (l1 : Int32) (l2 : Int32) (x : St) (H : Heap) (locs : List Loc) (ls : Array Slot), j_Mod_firstLike_2 post rec2 l1 l2 x → Wd dC dI cI cB cJ cZ ad stM kcM 115 A x H → va_S A s.heap H locs → lv_has ls 3 [(0, .ref (ad 0)), (1, .int l1), (2, .int l2)] → W p l e R s m args below meth c H locs cells slots Q (F0 m 2 ls []) := by
  intro l1 l2 x H locs ls  hw hW hS hl
  unfold j_Mod_firstLike_2 at hw
  refine lv_aload_n hx hb d_Mod_firstLike_2 rfl (lv_at hl 0 rfl) ?_
  refine lv_iload_n hx hb d_Mod_firstLike_3 rfl (lv_at hl 2 rfl) ?_
  refine lv_iload_n hx hb d_Mod_firstLike_4 rfl (lv_at hl 1 rfl) ?_
  have hF := hW.free hS hA
  refine va_calli (va_runV (C := R_Mod) (As := [.int l2, .int l1]) (rest := []) ⟨hx, hb, hml, hown, hT⟩ (k_Mod_sameText l dC dI cI cB cJ cZ ad H.size l2 l1 x  hw) ⟨callB_of 2 hT (gwt_in w_12_27) rfl rfl rfl (hT _ w_1_15) (hT _ w_12_24) (by decide +kernel) ⟨Nat.le_trans (Nat.le_of_ble_eq_true rfl) hRf, Nat.le_trans (Nat.le_of_ble_eq_true rfl) hRl⟩, hT _ w_12_26, hT _ ws_169⟩ ⟨PW.blind, va_recv hK hW.1 (ci := 12) (q0 := 0) rfl (pic_obj ko_0.1 ko_0.2 (by decide)), PW.at _ hW hK hN⟩ rfl rfl hl.1 rfl (lv_room (Nat.le_of_ble_eq_true rfl)) d_Mod_firstLike_5 ⟨hRc, hRs⟩) hS (fun q _ h => hF q h) hF (fun r663 x662 t H locs ht hvm hw hB hz1 hk1 hS => ?_)
  have hW := Wd.back hB ht hF
  clear hB ht hF hz1 hk1 hvm
  refine lv_if_ne (tgt := 17) hx hb d_Mod_firstLike_8 (by decide) (fun c664 => ?_) (fun c664 => ?_)
  · have hw := hw.1 c664
    refine lv_iload_n hx hb d_Mod_firstLike_17 rfl (lv_at hl 2 rfl) ?_
    exact hret l2 x662 H locs 18 ls d_Mod_firstLike_18 hw hW hS
  · have hw := hw.2 c664
    refine lv_iinc (v := (l2 + 1)) (lv' := [(2, .int (l2 + 1)), (0, .ref (ad 0)), (1, .int l1)]) hx hb d_Mod_firstLike_11 hl (k := 2) rfl rfl (by decide) rfl (fun ls hl => ?_)
    refine lv_goto (tgt := 2) hx hb d_Mod_firstLike_14 (by decide) ?_
    exact hrec2 l1 (l2 + 1) x662 H locs ls  hw hW hS (lv_sub hl [1, 2, 0] rfl)
set_option maxHeartbeats 4000000 in
set_option maxRecDepth 100000 in
theorem tl_Mod_firstLike_2 {p : Program} {l : Launch} {e : Env} {R : Room} {s : State} {m : MethodId} {args : Array Value} {below : List Frame} {meth : Method} {c : Code} {cells slots : Nat} {Q : State → Prop} {dC : Nat → ClassId} {dI : Nat → Nat → Nat} {cI cB cJ cZ : ClassId} {A : Nat → Prop} {ad : Nat → Nat} {post : Int32 → St → Prop} (hx : p.tables.exec = Jvm.exec) (hb : c.code = b_Mod_firstLike) (hml : c.maxLocals = 3) (hown : s.vm.findClass R_Mod = some m.cls) (hT : ∀ w ∈ TG, w.before args s = true) (hK : va_K (dC, dI) CL (TY cI cB cJ cZ) s) (hN : NW s) (hA : ∀ q : Nat, s.heap.size ≤ q → A q) (hRc : cells ≤ R.cells) (hRs : slots ≤ R.slots) (hRf : 2 ≤ R.frames) (hRl : 45 ≤ R.locals) (hret : ∀ (r : Int32) (x : St) (H : Heap) (locs : List Loc) (pc : Nat) (ls : Array Slot), decode b_Mod_firstLike pc = .ok (.ireturn, 1) → post r x → Wd dC dI cI cB cJ cZ ad stM kcM 115 A x H → va_S A s.heap H locs → W p l e R s m args below meth c H locs cells slots Q (F0 m pc ls [.int r]))  : ∀ n : Nat, ∀ (l1 : Int32) (l2 : Int32) (x : St) (H : Heap) (locs : List Loc) (ls : Array Slot), wl_Mod_firstLike_2 post n l1 l2 x → Wd dC dI cI cB cJ cZ ad stM kcM 115 A x H → va_S A s.heap H locs → lv_has ls 3 [(0, .ref (ad 0)), (1, .int l1), (2, .int l2)] → W p l e R s m args below meth c H locs cells slots Q (F0 m 2 ls []) := by
  intro n
  induction n with
  | zero => intro l1 l2 x H locs ls  hw; exact hw.elim
  | succ n ih => intro l1 l2 x H locs ls  hw hW hS hl; exact t_Mod_firstLike_2 hx hb hml hown hT hK hN hA hRc hRs hRf hRl hret  ih l1 l2 x H locs ls  hw hW hS hl
set_option maxRecDepth 100000 in
set_option maxHeartbeats 4000000 in
set_option maxRecDepth 100000 in
theorem t_Mod_firstLike_e {p : Program} {l : Launch} {e : Env} {R : Room} {s : State} {m : MethodId} {args : Array Value} {below : List Frame} {meth : Method} {c : Code} {cells slots : Nat} {Q : State → Prop} {dC : Nat → ClassId} {dI : Nat → Nat → Nat} {cI cB cJ cZ : ClassId} {A : Nat → Prop} {ad : Nat → Nat} {post : Int32 → St → Prop} (hx : p.tables.exec = Jvm.exec) (hb : c.code = b_Mod_firstLike) (hml : c.maxLocals = 3) (hown : s.vm.findClass R_Mod = some m.cls) (hT : ∀ w ∈ TG, w.before args s = true) (hK : va_K (dC, dI) CL (TY cI cB cJ cZ) s) (hN : NW s) (hA : ∀ q : Nat, s.heap.size ≤ q → A q) (hRc : cells ≤ R.cells) (hRs : slots ≤ R.slots) (hRf : 2 ≤ R.frames) (hRl : 45 ≤ R.locals) (hret : ∀ (r : Int32) (x : St) (H : Heap) (locs : List Loc) (pc : Nat) (ls : Array Slot), decode b_Mod_firstLike pc = .ok (.ireturn, 1) → post r x → Wd dC dI cI cB cJ cZ ad stM kcM 115 A x H → va_S A s.heap H locs → W p l e R s m args below meth c H locs cells slots Q (F0 m pc ls [.int r])) : ∀ (l1 : Int32) (x : St) (H : Heap) (locs : List Loc) (ls : Array Slot), wp_Mod_firstLike post l1 x → Wd dC dI cI cB cJ cZ ad stM kcM 115 A x H → va_S A s.heap H locs → lv_has ls 3 [(0, .ref (ad 0)), (1, .int l1)] → W p l e R s m args below meth c H locs cells slots Q (F0 m 0 ls []) := by
  intro l1 x H locs ls  hw hW hS hl
  unfold wp_Mod_firstLike at hw
  refine lv_iconst (v := 0) hx hb d_Mod_firstLike_0 (by decide) ?_
  refine lv_istore_n (lv' := [(2, .int 0), (0, .ref (ad 0)), (1, .int l1)]) hx hb d_Mod_firstLike_1 rfl hl (by decide) rfl (fun ls hl => ?_)
  obtain ⟨n, hw⟩ := hw
  exact tl_Mod_firstLike_2 hx hb hml hown hT hK hN hA hRc hRs hRf hRl hret  n l1 0 x H locs ls  hw hW hS (lv_sub hl [1, 2, 0] rfl)
set_option maxHeartbeats 4000000 in
set_option maxRecDepth 100000 in
theorem k_Mod_firstLike (l : Launch) (dC : Nat → ClassId) (dI : Nat → Nat → Nat) (cI cB cJ cZ : ClassId) (ad : Nat → Nat) (sz : Nat) (l1 : Int32) (x : St) {post : Int32 → St → Prop} (hw : wp_Mod_firstLike post l1 x) : Met l y_Mod_firstLike (wsOf y_Mod_firstLike b_Mod_firstLike 3 (some (.int))) ({ frames := 2, cells := 0, slots := 0, locals := 45 }) (va_Pc [.ref (ad 0), .int l1] (PW dC dI cI cB cJ cZ ad stM kcM 115 sz x)) (va_Qi (fun (r : Int32) (y : St) => post r y) (fun y t => Wd dC dI cI cB cJ cZ ad stM kcM 115 (va_A (pic ad stM kcM 115 cI cB cJ cZ x) sz) y t.heap) (va_A (pic ad stM kcM 115 cI cB cJ cZ x) sz)) 0 0 (va_A (pic ad stM kcM 115 cI cB cJ cZ x) sz) := by
  refine Met.ofW (cc := b_Mod_firstLike) (maxL := 3) (ret := some (.int)) (by decide) rfl ?_
  intro p e s m args below meth c s₁ B hml hv
  obtain ⟨rfl, hsz, hW0, hK, hN⟩ := hv
  have hx := B.exec
  have hb := B.bytes
  have hr := B.returns
  have hts := atoms_spec B.pre
  have hT : ∀ w ∈ TG, w.before _ s = true := fun w h => hts w (List.mem_cons_of_mem _ h)
  have hown : s.vm.findClass R_Mod = some m.cls := findClass_of_methodNamed B.named
  have hlocks := B.notSynchronized
  subst hsz
  have hW : Wd dC dI cI cB cJ cZ ad stM kcM 115 (va_A (pic ad stM kcM 115 cI cB cJ cZ x) s.heap.size) x s.heap := ⟨hW0.1, hW0.2.1.self (sz := s.heap.size), hW0.2.2⟩
  generalize hAe : va_A (pic ad stM kcM 115 cI cB cJ cZ x) s.heap.size = A at hW ⊢
  have hA : ∀ q : Nat, s.heap.size ≤ q → A q := fun q h => by rw [← hAe]; exact Or.inr h
  have hS : va_S A s.heap s.heap [] := va_S.rf
  have hl := lv_entry ([.ref (ad 0), .int l1]) (n := 3) (Nat.le_of_ble_eq_true rfl)
  rw [lg_entry_eq]
  generalize (lg_sl ([.ref (ad 0), .int l1]) ++ List.replicate (3 - (lg_sl ([.ref (ad 0), .int l1])).length) Slot.unset).toArray = ls at hl ⊢
  have hl : lv_has ls 3 [(0, .ref (ad 0)), (1, .int l1)] := hl
  exact t_Mod_firstLike_e hx hb hml hown hT hK hN hA (Nat.le_refl 0) (Nat.le_refl 0) (Nat.le_refl 2) (Nat.le_refl 45) (fun r x H locs pc ls hd hp hW hS => W.iret (v := r) hx hb hr (fun t ht hM => ⟨⟨r, x, rfl, hp, Wd.back hW ht.symm (fun _ z => z)⟩, hS.F ht⟩) hS.2.2 hd hlocks)  l1 x _ _ ls  hw hW hS hl
set_option maxRecDepth 100000 in
set_option maxHeartbeats 4000000 in
set_option maxRecDepth 100000 in
theorem t_Mod_putText_17 {p : Program} {l : Launch} {e : Env} {R : Room} {s : State} {m : MethodId} {args : Array Value} {below : List Frame} {meth : Method} {c : Code} {cells slots : Nat} {Q : State → Prop} {dC : Nat → ClassId} {dI : Nat → Nat → Nat} {cI cB cJ cZ : ClassId} {A : Nat → Prop} {ad : Nat → Nat} {post : St → Prop} {rec17 : Int32 → Int32 → St → Prop} (hx : p.tables.exec = Jvm.exec) (hb : c.code = b_Mod_putText) (hml : c.maxLocals = 3) (hown : s.vm.findClass R_Mod = some m.cls) (hT : ∀ w ∈ TG, w.before args s = true) (hK : va_K (dC, dI) CL (TY cI cB cJ cZ) s) (hN : NW s) (hA : ∀ q : Nat, s.heap.size ≤ q → A q) (hRc : cells ≤ R.cells) (hRs : slots ≤ R.slots) (hRf : 2 ≤ R.frames) (hRl : 45 ≤ R.locals) (hret : ∀ (x : St) (H : Heap) (locs : List Loc) (pc : Nat) (ls : Array Slot), decode b_Mod_putText pc = .ok (.return_, 1) → post x → Wd dC dI cI cB cJ cZ ad stM kcM 115 A x H → va_S A s.heap H locs → W p l e R s m args below meth c H locs cells slots Q (F0 m pc ls [])) (hrec17 : ∀ (l1 : Int32) (l2 : Int32) (x : St) (H : Heap) (locs : List Loc) (ls : Array Slot), rec17 l1 l2 x → Wd dC dI cI cB cJ cZ ad stM kcM 115 A x H → va_S A s.heap H locs → lv_has ls 3 [(0, .ref (ad 0)), (1, .int l1), (2, .int l2)] → W p l e R s m args below meth c H locs cells slots Q (F0 m 17 ls [])) : ∀ (l1 : Int32) (l2 : Int32) (x : St) (H : Heap) (locs : List Loc) (ls : Array Slot), j_Mod_putText_17 post rec17 l1 l2 x → Wd dC dI cI cB cJ cZ ad stM kcM 115 A x H → va_S A s.heap H locs → lv_has ls 3 [(0, .ref (ad 0)), (1, .int l1), (2, .int l2)] → W p l e R s m args below meth c H locs cells slots Q (F0 m 17 ls []) := by
  intro l1 l2 x H locs ls  hw hW hS hl
  unfold j_Mod_putText_17 at hw
  refine lv_iload_n hx hb d_Mod_putText_17 rfl (lv_at hl 2 rfl) ?_
  refine lv_aload_n hx hb d_Mod_putText_18 rfl (lv_at hl 0 rfl) ?_
  refine w_getf (q := 33) (k := 52) (t := 12) (C := R_Mod) (T := F_Mod) (N := 167) hx hb hT hown hK hW ko_0.1 ko_0.2 (by decide) in_Mod rfl rfl (by decide) rfl fr_Mod_52 w_8_228 d_Mod_putText_19 rfl ?_
  refine lv_iload_n hx hb d_Mod_putText_22 rfl (lv_at hl 1 rfl) ?_
  refine lv_iconst (v := 1) hx hb d_Mod_putText_23 (by decide) ?_
  refine lv_iadd hx hb d_Mod_putText_24 ?_
  obtain ⟨hi, hw⟩ := hw
  refine w_iald (o := 33) hx hb hK hW ko_33.1 ko_33.2 hi d_Mod_putText_25 ?_
  refine lv_icmp_ge (tgt := 45) hx hb d_Mod_putText_26 (by decide) (fun c665 => ?_) (fun c665 => ?_)
  · have hw := hw.1 c665
    exact hret x H locs 45 ls d_Mod_putText_45 hw hW hS
  · have hw := hw.2 c665
    refine lv_aload_n hx hb d_Mod_putText_29 rfl (lv_at hl 0 rfl) ?_
    refine lv_aload_n hx hb d_Mod_putText_30 rfl (lv_at hl 0 rfl) ?_
    refine w_getf (q := 36) (k := 55) (t := 12) (C := R_Mod) (T := F_Mod) (N := 167) hx hb hT hown hK hW ko_0.1 ko_0.2 (by decide) in_Mod rfl rfl (by decide) rfl fr_Mod_55 w_8_231 d_Mod_putText_31 rfl ?_
    refine lv_iload_n hx hb d_Mod_putText_34 rfl (lv_at hl 2 rfl) ?_
    obtain ⟨hi, hw⟩ := hw
    refine w_iald (o := 36) hx hb hK hW ko_36.1 ko_36.2 hi d_Mod_putText_35 ?_
    have hF := hW.free hS hA
    refine va_callv (va_runV (C := R_Mod) (As := [.int (rA x 36 l2)]) (rest := []) ⟨hx, hb, hml, hown, hT⟩ (k_Mod_put l dC dI cI cB cJ cZ ad H.size (rA x 36 l2) x  hw) ⟨callB_of 1 hT (gwt_in w_11_199) rfl rfl rfl (hT _ w_1_15) (hT _ w_11_196) (by decide +kernel) ⟨Nat.le_trans (Nat.le_of_ble_eq_true rfl) hRf, Nat.le_trans (Nat.le_of_ble_eq_true rfl) hRl⟩, hT _ w_11_198, hT _ ws_153⟩ ⟨PW.blind, va_recv hK hW.1 (ci := 12) (q0 := 0) rfl (pic_obj ko_0.1 ko_0.2 (by decide)), PW.at _ hW hK hN⟩ rfl rfl hl.1 rfl (lv_room (Nat.le_of_ble_eq_true rfl)) d_Mod_putText_36 ⟨hRc, hRs⟩) hS (fun q _ h => hF q h) hF (fun  x666 t H locs ht hvm hw hB hz1 hk1 hS => ?_)
    have hW := Wd.back hB ht hF
    clear hB ht hF hz1 hk1 hvm
    refine lv_iinc (v := (l2 + 1)) (lv' := [(2, .int (l2 + 1)), (0, .ref (ad 0)), (1, .int l1)]) hx hb d_Mod_putText_39 hl (k := 2) rfl rfl (by decide) rfl (fun ls hl => ?_)
    refine lv_goto (tgt := 17) hx hb d_Mod_putText_42 (by decide) ?_
    exact hrec17 l1 (l2 + 1) x666 H locs ls  hw hW hS (lv_sub hl [1, 2, 0] rfl)
set_option maxHeartbeats 4000000 in
set_option maxRecDepth 100000 in
theorem tl_Mod_putText_17 {p : Program} {l : Launch} {e : Env} {R : Room} {s : State} {m : MethodId} {args : Array Value} {below : List Frame} {meth : Method} {c : Code} {cells slots : Nat} {Q : State → Prop} {dC : Nat → ClassId} {dI : Nat → Nat → Nat} {cI cB cJ cZ : ClassId} {A : Nat → Prop} {ad : Nat → Nat} {post : St → Prop} (hx : p.tables.exec = Jvm.exec) (hb : c.code = b_Mod_putText) (hml : c.maxLocals = 3) (hown : s.vm.findClass R_Mod = some m.cls) (hT : ∀ w ∈ TG, w.before args s = true) (hK : va_K (dC, dI) CL (TY cI cB cJ cZ) s) (hN : NW s) (hA : ∀ q : Nat, s.heap.size ≤ q → A q) (hRc : cells ≤ R.cells) (hRs : slots ≤ R.slots) (hRf : 2 ≤ R.frames) (hRl : 45 ≤ R.locals) (hret : ∀ (x : St) (H : Heap) (locs : List Loc) (pc : Nat) (ls : Array Slot), decode b_Mod_putText pc = .ok (.return_, 1) → post x → Wd dC dI cI cB cJ cZ ad stM kcM 115 A x H → va_S A s.heap H locs → W p l e R s m args below meth c H locs cells slots Q (F0 m pc ls []))  : ∀ n : Nat, ∀ (l1 : Int32) (l2 : Int32) (x : St) (H : Heap) (locs : List Loc) (ls : Array Slot), wl_Mod_putText_17 post n l1 l2 x → Wd dC dI cI cB cJ cZ ad stM kcM 115 A x H → va_S A s.heap H locs → lv_has ls 3 [(0, .ref (ad 0)), (1, .int l1), (2, .int l2)] → W p l e R s m args below meth c H locs cells slots Q (F0 m 17 ls []) := by
  intro n
  induction n with
  | zero => intro l1 l2 x H locs ls  hw; exact hw.elim
  | succ n ih => intro l1 l2 x H locs ls  hw hW hS hl; exact t_Mod_putText_17 hx hb hml hown hT hK hN hA hRc hRs hRf hRl hret  ih l1 l2 x H locs ls  hw hW hS hl
set_option maxRecDepth 100000 in
set_option maxHeartbeats 4000000 in
set_option maxRecDepth 100000 in
theorem t_Mod_putText_e {p : Program} {l : Launch} {e : Env} {R : Room} {s : State} {m : MethodId} {args : Array Value} {below : List Frame} {meth : Method} {c : Code} {cells slots : Nat} {Q : State → Prop} {dC : Nat → ClassId} {dI : Nat → Nat → Nat} {cI cB cJ cZ : ClassId} {A : Nat → Prop} {ad : Nat → Nat} {post : St → Prop} (hx : p.tables.exec = Jvm.exec) (hb : c.code = b_Mod_putText) (hml : c.maxLocals = 3) (hown : s.vm.findClass R_Mod = some m.cls) (hT : ∀ w ∈ TG, w.before args s = true) (hK : va_K (dC, dI) CL (TY cI cB cJ cZ) s) (hN : NW s) (hA : ∀ q : Nat, s.heap.size ≤ q → A q) (hRc : cells ≤ R.cells) (hRs : slots ≤ R.slots) (hRf : 2 ≤ R.frames) (hRl : 45 ≤ R.locals) (hret : ∀ (x : St) (H : Heap) (locs : List Loc) (pc : Nat) (ls : Array Slot), decode b_Mod_putText pc = .ok (.return_, 1) → post x → Wd dC dI cI cB cJ cZ ad stM kcM 115 A x H → va_S A s.heap H locs → W p l e R s m args below meth c H locs cells slots Q (F0 m pc ls [])) : ∀ (l1 : Int32) (x : St) (H : Heap) (locs : List Loc) (ls : Array Slot), wp_Mod_putText post l1 x → Wd dC dI cI cB cJ cZ ad stM kcM 115 A x H → va_S A s.heap H locs → lv_has ls 3 [(0, .ref (ad 0)), (1, .int l1)] → W p l e R s m args below meth c H locs cells slots Q (F0 m 0 ls []) := by
  intro l1 x H locs ls  hw hW hS hl
  unfold wp_Mod_putText at hw
  refine lv_aload_n hx hb d_Mod_putText_0 rfl (lv_at hl 0 rfl) ?_
  refine lv_aload_n hx hb d_Mod_putText_1 rfl (lv_at hl 0 rfl) ?_
  refine lv_iload_n hx hb d_Mod_putText_2 rfl (lv_at hl 1 rfl) ?_
  have hF := hW.free hS hA
  refine va_calli (va_runV (C := R_Mod) (As := [.int l1]) (rest := [.ref (ad 0)]) ⟨hx, hb, hml, hown, hT⟩ (k_Mod_lengthOf l dC dI cI cB cJ cZ ad H.size l1 x  hw) ⟨callB_of 1 hT (gwt_in w_12_3) rfl rfl rfl (hT _ w_1_15) (hT _ w_12_0) (by decide +kernel) ⟨Nat.le_trans (Nat.le_of_ble_eq_true rfl) hRf, Nat.le_trans (Nat.le_of_ble_eq_true rfl) hRl⟩, hT _ w_12_2, hT _ ws_163⟩ ⟨PW.blind, va_recv hK hW.1 (ci := 12) (q0 := 0) rfl (pic_obj ko_0.1 ko_0.2 (by decide)), PW.at _ hW hK hN⟩ rfl rfl hl.1 rfl (lv_room (Nat.le_of_ble_eq_true rfl)) d_Mod_putText_3 ⟨hRc, hRs⟩) hS (fun q _ h => hF q h) hF (fun r668 x667 t H locs ht hvm hw hB hz1 hk1 hS => ?_)
  have hW := Wd.back hB ht hF
  clear hB ht hF hz1 hk1 hvm
  refine lv_i2l hx hb d_Mod_putText_6 rfl ?_
  have hF := hW.free hS hA
  refine va_callv (va_runV (C := R_Mod) (As := [.long (r668 : Int32).toInt64]) (rest := []) ⟨hx, hb, hml, hown, hT⟩ (k_Mod_putVarint l dC dI cI cB cJ cZ ad H.size (r668 : Int32).toInt64 x667  hw) ⟨callB_of 1 hT (gwt_in w_11_194) rfl rfl rfl (hT _ w_1_15) (hT _ w_11_191) (by decide +kernel) ⟨Nat.le_trans (Nat.le_of_ble_eq_true rfl) hRf, Nat.le_trans (Nat.le_of_ble_eq_true rfl) hRl⟩, hT _ w_11_193, hT _ ws_152⟩ ⟨PW.blind, va_recv hK hW.1 (ci := 12) (q0 := 0) rfl (pic_obj ko_0.1 ko_0.2 (by decide)), PW.at _ hW hK hN⟩ rfl rfl hl.1 rfl (lv_room (Nat.le_of_ble_eq_true rfl)) d_Mod_putText_7 ⟨hRc, hRs⟩) hS (fun q _ h => hF q h) hF (fun  x669 t H locs ht hvm hw hB hz1 hk1 hS => ?_)
  have hW := Wd.back hB ht hF
  clear hB ht hF hz1 hk1 hvm
  refine lv_aload_n hx hb d_Mod_putText_10 rfl (lv_at hl 0 rfl) ?_
  refine w_getf (q := 33) (k := 52) (t := 12) (C := R_Mod) (T := F_Mod) (N := 167) hx hb hT hown hK hW ko_0.1 ko_0.2 (by decide) in_Mod rfl rfl (by decide) rfl fr_Mod_52 w_8_228 d_Mod_putText_11 rfl ?_
  refine lv_iload_n hx hb d_Mod_putText_14 rfl (lv_at hl 1 rfl) ?_
  obtain ⟨hi, hw⟩ := hw
  refine w_iald (o := 33) hx hb hK hW ko_33.1 ko_33.2 hi d_Mod_putText_15 ?_
  refine lv_topi (fun v670 ev670 => ?_)
  have hw := hw v670 ev670
  refine lv_istore_n (lv' := [(2, .int v670), (0, .ref (ad 0)), (1, .int l1)]) hx hb d_Mod_putText_16 rfl hl (by decide) rfl (fun ls hl => ?_)
  obtain ⟨n, hw⟩ := hw
  exact tl_Mod_putText_17 hx hb hml hown hT hK hN hA hRc hRs hRf hRl hret  n l1 v670 x669 H locs ls  hw hW hS (lv_sub hl [1, 2, 0] rfl)
set_option maxHeartbeats 4000000 in
set_option maxRecDepth 100000 in
theorem k_Mod_putText (l : Launch) (dC : Nat → ClassId) (dI : Nat → Nat → Nat) (cI cB cJ cZ : ClassId) (ad : Nat → Nat) (sz : Nat) (l1 : Int32) (x : St) {post : St → Prop} (hw : wp_Mod_putText post l1 x) : Met l y_Mod_putText (wsOf y_Mod_putText b_Mod_putText 3 (none)) ({ frames := 2, cells := 0, slots := 0, locals := 45 }) (va_Pc [.ref (ad 0), .int l1] (PW dC dI cI cB cJ cZ ad stM kcM 115 sz x)) (va_Qv (fun (y : St) => post y) (fun y t => Wd dC dI cI cB cJ cZ ad stM kcM 115 (va_A (pic ad stM kcM 115 cI cB cJ cZ x) sz) y t.heap) (va_A (pic ad stM kcM 115 cI cB cJ cZ x) sz)) 0 0 (va_A (pic ad stM kcM 115 cI cB cJ cZ x) sz) := by
  refine Met.ofW (cc := b_Mod_putText) (maxL := 3) (ret := none) (by decide) rfl ?_
  intro p e s m args below meth c s₁ B hml hv
  obtain ⟨rfl, hsz, hW0, hK, hN⟩ := hv
  have hx := B.exec
  have hb := B.bytes
  have hr := B.returns
  have hts := atoms_spec B.pre
  have hT : ∀ w ∈ TG, w.before _ s = true := fun w h => hts w (List.mem_cons_of_mem _ h)
  have hown : s.vm.findClass R_Mod = some m.cls := findClass_of_methodNamed B.named
  have hlocks := B.notSynchronized
  subst hsz
  have hW : Wd dC dI cI cB cJ cZ ad stM kcM 115 (va_A (pic ad stM kcM 115 cI cB cJ cZ x) s.heap.size) x s.heap := ⟨hW0.1, hW0.2.1.self (sz := s.heap.size), hW0.2.2⟩
  generalize hAe : va_A (pic ad stM kcM 115 cI cB cJ cZ x) s.heap.size = A at hW ⊢
  have hA : ∀ q : Nat, s.heap.size ≤ q → A q := fun q h => by rw [← hAe]; exact Or.inr h
  have hS : va_S A s.heap s.heap [] := va_S.rf
  have hl := lv_entry ([.ref (ad 0), .int l1]) (n := 3) (Nat.le_of_ble_eq_true rfl)
  rw [lg_entry_eq]
  generalize (lg_sl ([.ref (ad 0), .int l1]) ++ List.replicate (3 - (lg_sl ([.ref (ad 0), .int l1])).length) Slot.unset).toArray = ls at hl ⊢
  have hl : lv_has ls 3 [(0, .ref (ad 0)), (1, .int l1)] := hl
  exact t_Mod_putText_e hx hb hml hown hT hK hN hA (Nat.le_refl 0) (Nat.le_refl 0) (Nat.le_refl 2) (Nat.le_refl 45) (fun x H locs pc ls hd hp hW hS => W.vret hx hb hr (fun t ht hM => ⟨⟨x, rfl, hp, Wd.back hW ht.symm (fun _ z => z)⟩, hS.F ht⟩) hS.2.2 hd hlocks)  l1 x _ _ ls  hw hW hS hl
set_option maxRecDepth 100000 in
set_option maxHeartbeats 4000000 in
set_option maxRecDepth 100000 in
theorem t_Mod_writeDictionary_96 {p : Program} {l : Launch} {e : Env} {R : Room} {s : State} {m : MethodId} {args : Array Value} {below : List Frame} {meth : Method} {c : Code} {cells slots : Nat} {Q : State → Prop} {dC : Nat → ClassId} {dI : Nat → Nat → Nat} {cI cB cJ cZ : ClassId} {A : Nat → Prop} {ad : Nat → Nat} {post : St → Prop} {rec96 : Int32 → Int32 → St → Prop} (hx : p.tables.exec = Jvm.exec) (hb : c.code = b_Mod_writeDictionary) (hml : c.maxLocals = 4) (hown : s.vm.findClass R_Mod = some m.cls) (hT : ∀ w ∈ TG, w.before args s = true) (hK : va_K (dC, dI) CL (TY cI cB cJ cZ) s) (hN : NW s) (hA : ∀ q : Nat, s.heap.size ≤ q → A q) (hRc : cells ≤ R.cells) (hRs : slots ≤ R.slots) (hRf : 3 ≤ R.frames) (hRl : 75 ≤ R.locals) (hret : ∀ (x : St) (H : Heap) (locs : List Loc) (pc : Nat) (ls : Array Slot), decode b_Mod_writeDictionary pc = .ok (.return_, 1) → post x → Wd dC dI cI cB cJ cZ ad stM kcM 115 A x H → va_S A s.heap H locs → W p l e R s m args below meth c H locs cells slots Q (F0 m pc ls [])) (hrec96 : ∀ (l1 : Int32) (l2 : Int32) (x : St) (H : Heap) (locs : List Loc) (ls : Array Slot), rec96 l1 l2 x → Wd dC dI cI cB cJ cZ ad stM kcM 115 A x H → va_S A s.heap H locs → lv_has ls 4 [(0, .ref (ad 0)), (1, .int l1), (2, .int l2)] → W p l e R s m args below meth c H locs cells slots Q (F0 m 96 ls [])) : ∀ (l1 : Int32) (l2 : Int32) (x : St) (H : Heap) (locs : List Loc) (ls : Array Slot), j_Mod_writeDictionary_96 post rec96 l1 l2 x → Wd dC dI cI cB cJ cZ ad stM kcM 115 A x H → va_S A s.heap H locs → lv_has ls 4 [(0, .ref (ad 0)), (1, .int l1), (2, .int l2)] → W p l e R s m args below meth c H locs cells slots Q (F0 m 96 ls []) := by
  intro l1 l2 x H locs ls  hw hW hS hl
  unfold j_Mod_writeDictionary_96 at hw
  refine lv_iload_n hx hb d_Mod_writeDictionary_96 rfl (lv_at hl 1 rfl) ?_
  refine lv_iconst (v := 1) hx hb d_Mod_writeDictionary_97 (by decide) ?_
  refine lv_isub hx hb d_Mod_writeDictionary_98 ?_
  refine lv_iload_n hx hb d_Mod_writeDictionary_99 rfl (lv_at hl 2 rfl) ?_
  refine lv_ishr hx hb d_Mod_writeDictionary_100 ?_
  refine lv_if_le (tgt := 110) hx hb d_Mod_writeDictionary_101 (by decide) (fun c671 => ?_) (fun c671 => ?_)
  · have hw := hw.1 c671
    refine lv_aload_n hx hb d_Mod_writeDictionary_110 rfl (lv_at hl 0 rfl) ?_
    refine lv_iload_n hx hb d_Mod_writeDictionary_111 rfl (lv_at hl 2 rfl) ?_
    have hF := hW.free hS hA
    refine va_callv (va_runV (C := R_Mod) (As := [.int l2]) (rest := []) ⟨hx, hb, hml, hown, hT⟩ (k_Mod_put l dC dI cI cB cJ cZ ad H.size l2 x  hw) ⟨callB_of 1 hT (gwt_in w_11_199) rfl rfl rfl (hT _ w_1_15) (hT _ w_11_196) (by decide +kernel) ⟨Nat.le_trans (Nat.le_of_ble_eq_true rfl) hRf, Nat.le_trans (Nat.le_of_ble_eq_true rfl) hRl⟩, hT _ w_11_198, hT _ ws_153⟩ ⟨PW.blind, va_recv hK hW.1 (ci := 12) (q0 := 0) rfl (pic_obj ko_0.1 ko_0.2 (by decide)), PW.at _ hW hK hN⟩ rfl rfl hl.1 rfl (lv_room (Nat.le_of_ble_eq_true rfl)) d_Mod_writeDictionary_112 ⟨hRc, hRs⟩) hS (fun q _ h => hF q h) hF (fun  x672 t H locs ht hvm hw hB hz1 hk1 hS => ?_)
    have hW := Wd.back hB ht hF
    clear hB ht hF hz1 hk1 hvm
    refine lv_aload_n hx hb d_Mod_writeDictionary_115 rfl (lv_at hl 0 rfl) ?_
    refine lv_aload_n hx hb d_Mod_writeDictionary_116 rfl (lv_at hl 0 rfl) ?_
    refine w_getf (q := 44) (k := 72) (t := 12) (C := R_Mod) (T := F_Mod) (N := 167) hx hb hT hown hK hW ko_0.1 ko_0.2 (by decide) in_Mod rfl rfl (by decide) rfl fr_Mod_72 w_9_8 d_Mod_writeDictionary_117 rfl ?_
    refine lv_aload_n hx hb d_Mod_writeDictionary_120 rfl (lv_at hl 0 rfl) ?_
    refine w_geti (k := 42) (t := 12) (C := R_Mod) (T := F_Mod) (N := 167) hx hb hT hown hK hW ko_0.1 ko_0.2 (by decide) in_Mod rfl rfl (by decide) rfl fr_Mod_42 w_8_218 d_Mod_writeDictionary_121 ?_
    refine lv_iload_n hx hb d_Mod_writeDictionary_124 rfl (lv_at hl 2 rfl) ?_
    have hF := hW.free hS hA
    refine va_callv (va_runV (C := R_Mod) (As := [.ref (ad 44), .int (fI x672 0 42), .int l2]) (rest := []) ⟨hx, hb, hml, hown, hT⟩ (k_Mod_writeRuns l dC dI cI cB cJ cZ ad H.size 44 (fI x672 0 42) l2 x672 ko_44 hw) ⟨callB_of 3 hT (gwt_in w_11_186) rfl rfl rfl (hT _ w_1_15) (hT _ w_11_183) (by decide +kernel) ⟨Nat.le_trans (Nat.le_of_ble_eq_true rfl) hRf, Nat.le_trans (Nat.le_of_ble_eq_true rfl) hRl⟩, hT _ w_11_185, hT _ ws_151⟩ ⟨PW.blind, va_recv hK hW.1 (ci := 12) (q0 := 0) rfl (pic_obj ko_0.1 ko_0.2 (by decide)), PW.at _ hW hK hN⟩ rfl rfl hl.1 rfl (lv_room (Nat.le_of_ble_eq_true rfl)) d_Mod_writeDictionary_125 ⟨hRc, hRs⟩) hS (fun q _ h => hF q h) hF (fun  x673 t H locs ht hvm hw hB hz1 hk1 hS => ?_)
    have hW := Wd.back hB ht hF
    clear hB ht hF hz1 hk1 hvm
    exact hret x673 H locs 128 ls d_Mod_writeDictionary_128 hw hW hS
  · have hw := hw.2 c671
    refine lv_iinc (v := (l2 + 1)) (lv' := [(2, .int (l2 + 1)), (0, .ref (ad 0)), (1, .int l1)]) hx hb d_Mod_writeDictionary_104 hl (k := 2) rfl rfl (by decide) rfl (fun ls hl => ?_)
    refine lv_goto (tgt := 96) hx hb d_Mod_writeDictionary_107 (by decide) ?_
    exact hrec96 l1 (l2 + 1) x H locs ls  hw hW hS (lv_sub hl [1, 2, 0] rfl)
set_option maxHeartbeats 4000000 in
set_option maxRecDepth 100000 in
theorem tl_Mod_writeDictionary_96 {p : Program} {l : Launch} {e : Env} {R : Room} {s : State} {m : MethodId} {args : Array Value} {below : List Frame} {meth : Method} {c : Code} {cells slots : Nat} {Q : State → Prop} {dC : Nat → ClassId} {dI : Nat → Nat → Nat} {cI cB cJ cZ : ClassId} {A : Nat → Prop} {ad : Nat → Nat} {post : St → Prop} (hx : p.tables.exec = Jvm.exec) (hb : c.code = b_Mod_writeDictionary) (hml : c.maxLocals = 4) (hown : s.vm.findClass R_Mod = some m.cls) (hT : ∀ w ∈ TG, w.before args s = true) (hK : va_K (dC, dI) CL (TY cI cB cJ cZ) s) (hN : NW s) (hA : ∀ q : Nat, s.heap.size ≤ q → A q) (hRc : cells ≤ R.cells) (hRs : slots ≤ R.slots) (hRf : 3 ≤ R.frames) (hRl : 75 ≤ R.locals) (hret : ∀ (x : St) (H : Heap) (locs : List Loc) (pc : Nat) (ls : Array Slot), decode b_Mod_writeDictionary pc = .ok (.return_, 1) → post x → Wd dC dI cI cB cJ cZ ad stM kcM 115 A x H → va_S A s.heap H locs → W p l e R s m args below meth c H locs cells slots Q (F0 m pc ls []))  : ∀ n : Nat, ∀ (l1 : Int32) (l2 : Int32) (x : St) (H : Heap) (locs : List Loc) (ls : Array Slot), wl_Mod_writeDictionary_96 post n l1 l2 x → Wd dC dI cI cB cJ cZ ad stM kcM 115 A x H → va_S A s.heap H locs → lv_has ls 4 [(0, .ref (ad 0)), (1, .int l1), (2, .int l2)] → W p l e R s m args below meth c H locs cells slots Q (F0 m 96 ls []) := by
  intro n
  induction n with
  | zero => intro l1 l2 x H locs ls  hw; exact hw.elim
  | succ n ih => intro l1 l2 x H locs ls  hw hW hS hl; exact t_Mod_writeDictionary_96 hx hb hml hown hT hK hN hA hRc hRs hRf hRl hret  ih l1 l2 x H locs ls  hw hW hS hl
set_option maxRecDepth 100000 in
set_option maxHeartbeats 4000000 in
set_option maxRecDepth 100000 in
theorem t_Mod_writeDictionary_88 {p : Program} {l : Launch} {e : Env} {R : Room} {s : State} {m : MethodId} {args : Array Value} {below : List Frame} {meth : Method} {c : Code} {cells slots : Nat} {Q : State → Prop} {dC : Nat → ClassId} {dI : Nat → Nat → Nat} {cI cB cJ cZ : ClassId} {A : Nat → Prop} {ad : Nat → Nat} {post : St → Prop} {rec66 : Int32 → Int32 → St → Prop} (hx : p.tables.exec = Jvm.exec) (hb : c.code = b_Mod_writeDictionary) (hml : c.maxLocals = 4) (hown : s.vm.findClass R_Mod = some m.cls) (hT : ∀ w ∈ TG, w.before args s = true) (hK : va_K (dC, dI) CL (TY cI cB cJ cZ) s) (hN : NW s) (hA : ∀ q : Nat, s.heap.size ≤ q → A q) (hRc : cells ≤ R.cells) (hRs : slots ≤ R.slots) (hRf : 3 ≤ R.frames) (hRl : 75 ≤ R.locals) (hret : ∀ (x : St) (H : Heap) (locs : List Loc) (pc : Nat) (ls : Array Slot), decode b_Mod_writeDictionary pc = .ok (.return_, 1) → post x → Wd dC dI cI cB cJ cZ ad stM kcM 115 A x H → va_S A s.heap H locs → W p l e R s m args below meth c H locs cells slots Q (F0 m pc ls [])) (hrec66 : ∀ (l1 : Int32) (l2 : Int32) (x : St) (H : Heap) (locs : List Loc) (ls : Array Slot), rec66 l1 l2 x → Wd dC dI cI cB cJ cZ ad stM kcM 115 A x H → va_S A s.heap H locs → lv_has ls 4 [(0, .ref (ad 0)), (1, .int l1), (2, .int l2)] → W p l e R s m args below meth c H locs cells slots Q (F0 m 66 ls [])) : ∀ (l1 : Int32) (l2 : Int32) (x : St) (H : Heap) (locs : List Loc) (ls : Array Slot), j_Mod_writeDictionary_88 post rec66 l1 l2 x → Wd dC dI cI cB cJ cZ ad stM kcM 115 A x H → va_S A s.heap H locs → lv_has ls 4 [(0, .ref (ad 0)), (1, .int l1), (2, .int l2)] → W p l e R s m args below meth c H locs cells slots Q (F0 m 88 ls []) := by
  intro l1 l2 x H locs ls  hw hW hS hl
  unfold j_Mod_writeDictionary_88 at hw
  refine lv_iinc (v := (l2 + 1)) (lv' := [(2, .int (l2 + 1)), (0, .ref (ad 0)), (1, .int l1)]) hx hb d_Mod_writeDictionary_88 hl (k := 2) rfl rfl (by decide) rfl (fun ls hl => ?_)
  refine lv_goto (tgt := 66) hx hb d_Mod_writeDictionary_91 (by decide) ?_
  exact hrec66 l1 (l2 + 1) x H locs ls  hw hW hS (lv_sub hl [1, 2, 0] rfl)
set_option maxRecDepth 100000 in
set_option maxHeartbeats 4000000 in
set_option maxRecDepth 100000 in
theorem t_Mod_writeDictionary_66 {p : Program} {l : Launch} {e : Env} {R : Room} {s : State} {m : MethodId} {args : Array Value} {below : List Frame} {meth : Method} {c : Code} {cells slots : Nat} {Q : State → Prop} {dC : Nat → ClassId} {dI : Nat → Nat → Nat} {cI cB cJ cZ : ClassId} {A : Nat → Prop} {ad : Nat → Nat} {post : St → Prop} {rec66 : Int32 → Int32 → St → Prop} (hx : p.tables.exec = Jvm.exec) (hb : c.code = b_Mod_writeDictionary) (hml : c.maxLocals = 4) (hown : s.vm.findClass R_Mod = some m.cls) (hT : ∀ w ∈ TG, w.before args s = true) (hK : va_K (dC, dI) CL (TY cI cB cJ cZ) s) (hN : NW s) (hA : ∀ q : Nat, s.heap.size ≤ q → A q) (hRc : cells ≤ R.cells) (hRs : slots ≤ R.slots) (hRf : 3 ≤ R.frames) (hRl : 75 ≤ R.locals) (hret : ∀ (x : St) (H : Heap) (locs : List Loc) (pc : Nat) (ls : Array Slot), decode b_Mod_writeDictionary pc = .ok (.return_, 1) → post x → Wd dC dI cI cB cJ cZ ad stM kcM 115 A x H → va_S A s.heap H locs → W p l e R s m args below meth c H locs cells slots Q (F0 m pc ls [])) (hrec66 : ∀ (l1 : Int32) (l2 : Int32) (x : St) (H : Heap) (locs : List Loc) (ls : Array Slot), rec66 l1 l2 x → Wd dC dI cI cB cJ cZ ad stM kcM 115 A x H → va_S A s.heap H locs → lv_has ls 4 [(0, .ref (ad 0)), (1, .int l1), (2, .int l2)] → W p l e R s m args below meth c H locs cells slots Q (F0 m 66 ls [])) : ∀ (l1 : Int32) (l2 : Int32) (x : St) (H : Heap) (locs : List Loc) (ls : Array Slot), j_Mod_writeDictionary_66 post rec66 l1 l2 x → Wd dC dI cI cB cJ cZ ad stM kcM 115 A x H → va_S A s.heap H locs → lv_has ls 4 [(0, .ref (ad 0)), (1, .int l1), (2, .int l2)] → W p l e R s m args below meth c H locs cells slots Q (F0 m 66 ls []) := by
  intro l1 l2 x H locs ls  hw hW hS hl
  unfold j_Mod_writeDictionary_66 at hw
  refine lv_iload_n hx hb d_Mod_writeDictionary_66 rfl (lv_at hl 2 rfl) ?_
  refine lv_aload_n hx hb d_Mod_writeDictionary_67 rfl (lv_at hl 0 rfl) ?_
  refine w_geti (k := 42) (t := 12) (C := R_Mod) (T := F_Mod) (N := 167) hx hb hT hown hK hW ko_0.1 ko_0.2 (by decide) in_Mod rfl rfl (by decide) rfl fr_Mod_42 w_8_218 d_Mod_writeDictionary_68 ?_
  refine lv_icmp_ge (tgt := 94) hx hb d_Mod_writeDictionary_71 (by decide) (fun c674 => ?_) (fun c674 => ?_)
  · have hw := hw.1 c674
    refine lv_iconst (v := 0) hx hb d_Mod_writeDictionary_94 (by decide) ?_
    refine lv_istore_n (lv' := [(2, .int 0), (0, .ref (ad 0)), (1, .int l1)]) hx hb d_Mod_writeDictionary_95 rfl hl (by decide) rfl (fun ls hl => ?_)
    obtain ⟨n, hw⟩ := hw
    exact tl_Mod_writeDictionary_96 hx hb hml hown hT hK hN hA hRc hRs hRf hRl hret  n l1 0 x H locs ls  hw hW hS (lv_sub hl [1, 2, 0] rfl)
  · have hw := hw.2 c674
    refine lv_aload_n hx hb d_Mod_writeDictionary_74 rfl (lv_at hl 0 rfl) ?_
    refine lv_iload_n hx hb d_Mod_writeDictionary_75 rfl (lv_at hl 2 rfl) ?_
    have hF := hW.free hS hA
    refine va_calli (va_runV (C := R_Mod) (As := [.int l2]) (rest := []) ⟨hx, hb, hml, hown, hT⟩ (k_Mod_firstLike l dC dI cI cB cJ cZ ad H.size l2 x  hw) ⟨callB_of 1 hT (gwt_in w_12_23) rfl rfl rfl (hT _ w_1_15) (hT _ w_12_20) (by decide +kernel) ⟨Nat.le_trans (Nat.le_of_ble_eq_true rfl) hRf, Nat.le_trans (Nat.le_of_ble_eq_true rfl) hRl⟩, hT _ w_12_22, hT _ ws_168⟩ ⟨PW.blind, va_recv hK hW.1 (ci := 12) (q0 := 0) rfl (pic_obj ko_0.1 ko_0.2 (by decide)), PW.at _ hW hK hN⟩ rfl rfl hl.1 rfl (lv_room (Nat.le_of_ble_eq_true rfl)) d_Mod_writeDictionary_76 ⟨hRc, hRs⟩) hS (fun q _ h => hF q h) hF (fun r676 x675 t H locs ht hvm hw hB hz1 hk1 hS => ?_)
    have hW := Wd.back hB ht hF
    clear hB ht hF hz1 hk1 hvm
    refine lv_iload_n hx hb d_Mod_writeDictionary_79 rfl (lv_at hl 2 rfl) ?_
    refine lv_icmp_ne (tgt := 88) hx hb d_Mod_writeDictionary_80 (by decide) (fun c677 => ?_) (fun c677 => ?_)
    · have hw := hw.1 c677
      exact t_Mod_writeDictionary_88 hx hb hml hown hT hK hN hA hRc hRs hRf hRl hret hrec66 l1 l2 x675 H locs ls  hw hW hS (lv_sub hl [0, 1, 2] rfl)
    · have hw := hw.2 c677
      refine lv_aload_n hx hb d_Mod_writeDictionary_83 rfl (lv_at hl 0 rfl) ?_
      refine lv_iload_n hx hb d_Mod_writeDictionary_84 rfl (lv_at hl 2 rfl) ?_
      have hF := hW.free hS hA
      refine va_callv (va_runV (C := R_Mod) (As := [.int l2]) (rest := []) ⟨hx, hb, hml, hown, hT⟩ (k_Mod_putText l dC dI cI cB cJ cZ ad H.size l2 x675  hw) ⟨callB_of 1 hT (gwt_in w_12_31) rfl rfl rfl (hT _ w_1_15) (hT _ w_12_28) (by decide +kernel) ⟨Nat.le_trans (Nat.le_of_ble_eq_true rfl) hRf, Nat.le_trans (Nat.le_of_ble_eq_true rfl) hRl⟩, hT _ w_12_30, hT _ ws_170⟩ ⟨PW.blind, va_recv hK hW.1 (ci := 12) (q0 := 0) rfl (pic_obj ko_0.1 ko_0.2 (by decide)), PW.at _ hW hK hN⟩ rfl rfl hl.1 rfl (lv_room (Nat.le_of_ble_eq_true rfl)) d_Mod_writeDictionary_85 ⟨hRc, hRs⟩) hS (fun q _ h => hF q h) hF (fun  x678 t H locs ht hvm hw hB hz1 hk1 hS => ?_)
      have hW := Wd.back hB ht hF
      clear hB ht hF hz1 hk1 hvm
      exact t_Mod_writeDictionary_88 hx hb hml hown hT hK hN hA hRc hRs hRf hRl hret hrec66 l1 l2 x678 H locs ls  hw hW hS (lv_sub hl [0, 1, 2] rfl)
set_option maxHeartbeats 4000000 in
set_option maxRecDepth 100000 in
theorem tl_Mod_writeDictionary_66 {p : Program} {l : Launch} {e : Env} {R : Room} {s : State} {m : MethodId} {args : Array Value} {below : List Frame} {meth : Method} {c : Code} {cells slots : Nat} {Q : State → Prop} {dC : Nat → ClassId} {dI : Nat → Nat → Nat} {cI cB cJ cZ : ClassId} {A : Nat → Prop} {ad : Nat → Nat} {post : St → Prop} (hx : p.tables.exec = Jvm.exec) (hb : c.code = b_Mod_writeDictionary) (hml : c.maxLocals = 4) (hown : s.vm.findClass R_Mod = some m.cls) (hT : ∀ w ∈ TG, w.before args s = true) (hK : va_K (dC, dI) CL (TY cI cB cJ cZ) s) (hN : NW s) (hA : ∀ q : Nat, s.heap.size ≤ q → A q) (hRc : cells ≤ R.cells) (hRs : slots ≤ R.slots) (hRf : 3 ≤ R.frames) (hRl : 75 ≤ R.locals) (hret : ∀ (x : St) (H : Heap) (locs : List Loc) (pc : Nat) (ls : Array Slot), decode b_Mod_writeDictionary pc = .ok (.return_, 1) → post x → Wd dC dI cI cB cJ cZ ad stM kcM 115 A x H → va_S A s.heap H locs → W p l e R s m args below meth c H locs cells slots Q (F0 m pc ls []))  : ∀ n : Nat, ∀ (l1 : Int32) (l2 : Int32) (x : St) (H : Heap) (locs : List Loc) (ls : Array Slot), wl_Mod_writeDictionary_66 post n l1 l2 x → Wd dC dI cI cB cJ cZ ad stM kcM 115 A x H → va_S A s.heap H locs → lv_has ls 4 [(0, .ref (ad 0)), (1, .int l1), (2, .int l2)] → W p l e R s m args below meth c H locs cells slots Q (F0 m 66 ls []) := by
  intro n
  induction n with
  | zero => intro l1 l2 x H locs ls  hw; exact hw.elim
  | succ n ih => intro l1 l2 x H locs ls  hw hW hS hl; exact t_Mod_writeDictionary_66 hx hb hml hown hT hK hN hA hRc hRs hRf hRl hret  ih l1 l2 x H locs ls  hw hW hS hl
set_option maxRecDepth 100000 in
set_option maxHeartbeats 4000000 in
set_option maxRecDepth 100000 in
theorem t_Mod_writeDictionary_50 {p : Program} {l : Launch} {e : Env} {R : Room} {s : State} {m : MethodId} {args : Array Value} {below : List Frame} {meth : Method} {c : Code} {cells slots : Nat} {Q : State → Prop} {dC : Nat → ClassId} {dI : Nat → Nat → Nat} {cI cB cJ cZ : ClassId} {A : Nat → Prop} {ad : Nat → Nat} {post : St → Prop} {rec4 : Int32 → Int32 → St → Prop} (hx : p.tables.exec = Jvm.exec) (hb : c.code = b_Mod_writeDictionary) (hml : c.maxLocals = 4) (hown : s.vm.findClass R_Mod = some m.cls) (hT : ∀ w ∈ TG, w.before args s = true) (hK : va_K (dC, dI) CL (TY cI cB cJ cZ) s) (hN : NW s) (hA : ∀ q : Nat, s.heap.size ≤ q → A q) (hRc : cells ≤ R.cells) (hRs : slots ≤ R.slots) (hRf : 3 ≤ R.frames) (hRl : 75 ≤ R.locals) (hret : ∀ (x : St) (H : Heap) (locs : List Loc) (pc : Nat) (ls : Array Slot), decode b_Mod_writeDictionary pc = .ok (.return_, 1) → post x → Wd dC dI cI cB cJ cZ ad stM kcM 115 A x H → va_S A s.heap H locs → W p l e R s m args below meth c H locs cells slots Q (F0 m pc ls [])) (hrec4 : ∀ (l1 : Int32) (l2 : Int32) (x : St) (H : Heap) (locs : List Loc) (ls : Array Slot), rec4 l1 l2 x → Wd dC dI cI cB cJ cZ ad stM kcM 115 A x H → va_S A s.heap H locs → lv_has ls 4 [(0, .ref (ad 0)), (1, .int l1), (2, .int l2)] → W p l e R s m args below meth c H locs cells slots Q (F0 m 4 ls [])) : ∀ (l1 : Int32) (l2 : Int32) (l3 : Int32) (s0 : Int32) (s1 : Int32) (x : St) (H : Heap) (locs : List Loc) (ls : Array Slot), j_Mod_writeDictionary_50 post rec4 l1 l2 l3 s0 s1 x → Wd dC dI cI cB cJ cZ ad stM kcM 115 A x H → va_S A s.heap H locs → lv_has ls 4 [(0, .ref (ad 0)), (1, .int l1), (2, .int l2), (3, .int l3)] → W p l e R s m args below meth c H locs cells slots Q (F0 m 50 ls [.int s0, .int s1]) := by
  intro l1 l2 l3 s0 s1 x H locs ls  hw hW hS hl
  unfold j_Mod_writeDictionary_50 at hw
  refine lv_iadd hx hb d_Mod_writeDictionary_50 ?_
  refine lv_topi (fun v679 ev679 => ?_)
  have hw := hw v679 ev679
  refine lv_istore_n (lv' := [(1, .int v679), (0, .ref (ad 0)), (2, .int l2), (3, .int l3)]) hx hb d_Mod_writeDictionary_51 rfl hl (by decide) rfl (fun ls hl => ?_)
  refine lv_iinc (v := (l2 + 1)) (lv' := [(2, .int (l2 + 1)), (1, .int v679), (0, .ref (ad 0)), (3, .int l3)]) hx hb d_Mod_writeDictionary_52 hl (k := 2) rfl rfl (by decide) rfl (fun ls hl => ?_)
  refine lv_goto (tgt := 4) hx hb d_Mod_writeDictionary_55 (by decide) ?_
  exact hrec4 v679 (l2 + 1) x H locs ls  hw hW hS (lv_sub hl [2, 1, 0] rfl)
set_option maxRecDepth 100000 in
set_option maxHeartbeats 4000000 in
set_option maxRecDepth 100000 in
theorem t_Mod_writeDictionary_38 {p : Program} {l : Launch} {e : Env} {R : Room} {s : State} {m : MethodId} {args : Array Value} {below : List Frame} {meth : Method} {c : Code} {cells slots : Nat} {Q : State → Prop} {dC : Nat → ClassId} {dI : Nat → Nat → Nat} {cI cB cJ cZ : ClassId} {A : Nat → Prop} {ad : Nat → Nat} {post : St → Prop} {rec4 : Int32 → Int32 → St → Prop} (hx : p.tables.exec = Jvm.exec) (hb : c.code = b_Mod_writeDictionary) (hml : c.maxLocals = 4) (hown : s.vm.findClass R_Mod = some m.cls) (hT : ∀ w ∈ TG, w.before args s = true) (hK : va_K (dC, dI) CL (TY cI cB cJ cZ) s) (hN : NW s) (hA : ∀ q : Nat, s.heap.size ≤ q → A q) (hRc : cells ≤ R.cells) (hRs : slots ≤ R.slots) (hRf : 3 ≤ R.frames) (hRl : 75 ≤ R.locals) (hret : ∀ (x : St) (H : Heap) (locs : List Loc) (pc : Nat) (ls : Array Slot), decode b_Mod_writeDictionary pc = .ok (.return_, 1) → post x → Wd dC dI cI cB cJ cZ ad stM kcM 115 A x H → va_S A s.heap H locs → W p l e R s m args below meth c H locs cells slots Q (F0 m pc ls [])) (hrec4 : ∀ (l1 : Int32) (l2 : Int32) (x : St) (H : Heap) (locs : List Loc) (ls : Array Slot), rec4 l1 l2 x → Wd dC dI cI cB cJ cZ ad stM kcM 115 A x H → va_S A s.heap H locs → lv_has ls 4 [(0, .ref (ad 0)), (1, .int l1), (2, .int l2)] → W p l e R s m args below meth c H locs cells slots Q (F0 m 4 ls [])) : ∀ (l1 : Int32) (l2 : Int32) (l3 : Int32) (s0 : Int32) (s1 : Int32) (s2 : Nat) (x : St) (H : Heap) (locs : List Loc) (ls : Array Slot), (s2 < 115 ∧ kcM s2 = 20) → j_Mod_writeDictionary_38 post rec4 l1 l2 l3 s0 s1 s2 x → Wd dC dI cI cB cJ cZ ad stM kcM 115 A x H → va_S A s.heap H locs → lv_has ls 4 [(0, .ref (ad 0)), (1, .int l1), (2, .int l2), (3, .int l3)] → W p l e R s m args below meth c H locs cells slots Q (F0 m 38 ls [.int s0, .int s1, .ref (ad s2)]) := by
  intro l1 l2 l3 s0 s1 s2 x H locs ls fs2 hw hW hS hl
  unfold j_Mod_writeDictionary_38 at hw
  obtain ⟨hi, hw⟩ := hw
  refine w_iast (o := s2) hx hb hK hW hS fs2.1 fs2.2 hi d_Mod_writeDictionary_38 (fun H locs hW hS => ?_)
  obtain ⟨x680, ex680⟩ : ∃ y : St, y = setA x s2 s1 s0 := ⟨_, rfl⟩
  rw [← ex680] at hW
  have hw := hw x680 ex680
  refine lv_iload_n hx hb d_Mod_writeDictionary_39 rfl (lv_at hl 1 rfl) ?_
  refine lv_iload_n hx hb d_Mod_writeDictionary_40 rfl (lv_at hl 3 rfl) ?_
  refine lv_iload_n hx hb d_Mod_writeDictionary_41 rfl (lv_at hl 2 rfl) ?_
  refine lv_icmp_ne (tgt := 49) hx hb d_Mod_writeDictionary_42 (by decide) (fun c681 => ?_) (fun c681 => ?_)
  · have hw := hw.1 c681
    refine lv_iconst (v := 0) hx hb d_Mod_writeDictionary_49 (by decide) ?_
    exact t_Mod_writeDictionary_50 hx hb hml hown hT hK hN hA hRc hRs hRf hRl hret hrec4 l1 l2 l3 0 l1 x680 H locs ls  hw hW hS (lv_sub hl [0, 1, 2, 3] rfl)
  · have hw := hw.2 c681
    refine lv_iconst (v := 1) hx hb d_Mod_writeDictionary_45 (by decide) ?_
    refine lv_goto (tgt := 50) hx hb d_Mod_writeDictionary_46 (by decide) ?_
    exact t_Mod_writeDictionary_50 hx hb hml hown hT hK hN hA hRc hRs hRf hRl hret hrec4 l1 l2 l3 1 l1 x680 H locs ls  hw hW hS (lv_sub hl [0, 1, 2, 3] rfl)
set_option maxRecDepth 100000 in
set_option maxHeartbeats 4000000 in
set_option maxRecDepth 100000 in
theorem t_Mod_writeDictionary_4 {p : Program} {l : Launch} {e : Env} {R : Room} {s : State} {m : MethodId} {args : Array Value} {below : List Frame} {meth : Method} {c : Code} {cells slots : Nat} {Q : State → Prop} {dC : Nat → ClassId} {dI : Nat → Nat → Nat} {cI cB cJ cZ : ClassId} {A : Nat → Prop} {ad : Nat → Nat} {post : St → Prop} {rec4 : Int32 → Int32 → St → Prop} (hx : p.tables.exec = Jvm.exec) (hb : c.code = b_Mod_writeDictionary) (hml : c.maxLocals = 4) (hown : s.vm.findClass R_Mod = some m.cls) (hT : ∀ w ∈ TG, w.before args s = true) (hK : va_K (dC, dI) CL (TY cI cB cJ cZ) s) (hN : NW s) (hA : ∀ q : Nat, s.heap.size ≤ q → A q) (hRc : cells ≤ R.cells) (hRs : slots ≤ R.slots) (hRf : 3 ≤ R.frames) (hRl : 75 ≤ R.locals) (hret : ∀ (x : St) (H : Heap) (locs : List Loc) (pc : Nat) (ls : Array Slot), decode b_Mod_writeDictionary pc = .ok (.return_, 1) → post x → Wd dC dI cI cB cJ cZ ad stM kcM 115 A x H → va_S A s.heap H locs → W p l e R s m args below meth c H locs cells slots Q (F0 m pc ls [])) (hrec4 : ∀ (l1 : Int32) (l2 : Int32) (x : St) (H : Heap) (locs : List Loc) (ls : Array Slot), rec4 l1 l2 x → Wd dC dI cI cB cJ cZ ad stM kcM 115 A x H → va_S A s.heap H locs → lv_has ls 4 [(0, .ref (ad 0)), (1, .int l1), (2, .int l2)] → W p l e R s m args below meth c H locs cells slots Q (F0 m 4 ls [])) : ∀ (l1 : Int32) (l2 : Int32) (x : St) (H : Heap) (locs : List Loc) (ls : Array Slot), j_Mod_writeDictionary_4 post rec4 l1 l2 x → Wd dC dI cI cB cJ cZ ad stM kcM 115 A x H → va_S A s.heap H locs → lv_has ls 4 [(0, .ref (ad 0)), (1, .int l1), (2, .int l2)] → W p l e R s m args below meth c H locs cells slots Q (F0 m 4 ls []) := by
  intro l1 l2 x H locs ls  hw hW hS hl
  unfold j_Mod_writeDictionary_4 at hw
  refine lv_iload_n hx hb d_Mod_writeDictionary_4 rfl (lv_at hl 2 rfl) ?_
  refine lv_aload_n hx hb d_Mod_writeDictionary_5 rfl (lv_at hl 0 rfl) ?_
  refine w_geti (k := 42) (t := 12) (C := R_Mod) (T := F_Mod) (N := 167) hx hb hT hown hK hW ko_0.1 ko_0.2 (by decide) in_Mod rfl rfl (by decide) rfl fr_Mod_42 w_8_218 d_Mod_writeDictionary_6 ?_
  refine lv_icmp_ge (tgt := 58) hx hb d_Mod_writeDictionary_9 (by decide) (fun c682 => ?_) (fun c682 => ?_)
  · have hw := hw.1 c682
    refine lv_aload_n hx hb d_Mod_writeDictionary_58 rfl (lv_at hl 0 rfl) ?_
    refine lv_iload_n hx hb d_Mod_writeDictionary_59 rfl (lv_at hl 1 rfl) ?_
    refine lv_i2l hx hb d_Mod_writeDictionary_60 rfl ?_
    have hF := hW.free hS hA
    refine va_callv (va_runV (C := R_Mod) (As := [.long (l1 : Int32).toInt64]) (rest := []) ⟨hx, hb, hml, hown, hT⟩ (k_Mod_putVarint l dC dI cI cB cJ cZ ad H.size (l1 : Int32).toInt64 x  hw) ⟨callB_of 1 hT (gwt_in w_11_194) rfl rfl rfl (hT _ w_1_15) (hT _ w_11_191) (by decide +kernel) ⟨Nat.le_trans (Nat.le_of_ble_eq_true rfl) hRf, Nat.le_trans (Nat.le_of_ble_eq_true rfl) hRl⟩, hT _ w_11_193, hT _ ws_152⟩ ⟨PW.blind, va_recv hK hW.1 (ci := 12) (q0 := 0) rfl (pic_obj ko_0.1 ko_0.2 (by decide)), PW.at _ hW hK hN⟩ rfl rfl hl.1 rfl (lv_room (Nat.le_of_ble_eq_true rfl)) d_Mod_writeDictionary_61 ⟨hRc, hRs⟩) hS (fun q _ h => hF q h) hF (fun  x683 t H locs ht hvm hw hB hz1 hk1 hS => ?_)
    have hW := Wd.back hB ht hF
    clear hB ht hF hz1 hk1 hvm
    refine lv_iconst (v := 0) hx hb d_Mod_writeDictionary_64 (by decide) ?_
    refine lv_istore_n (lv' := [(2, .int 0), (0, .ref (ad 0)), (1, .int l1)]) hx hb d_Mod_writeDictionary_65 rfl hl (by decide) rfl (fun ls hl => ?_)
    obtain ⟨n, hw⟩ := hw
    exact tl_Mod_writeDictionary_66 hx hb hml hown hT hK hN hA hRc hRs hRf hRl hret  n l1 0 x683 H locs ls  hw hW hS (lv_sub hl [1, 2, 0] rfl)
  · have hw := hw.2 c682
    refine lv_aload_n hx hb d_Mod_writeDictionary_12 rfl (lv_at hl 0 rfl) ?_
    refine lv_iload_n hx hb d_Mod_writeDictionary_13 rfl (lv_at hl 2 rfl) ?_
    have hF := hW.free hS hA
    refine va_calli (va_runV (C := R_Mod) (As := [.int l2]) (rest := []) ⟨hx, hb, hml, hown, hT⟩ (k_Mod_firstLike l dC dI cI cB cJ cZ ad H.size l2 x  hw) ⟨callB_of 1 hT (gwt_in w_12_23) rfl rfl rfl (hT _ w_1_15) (hT _ w_12_20) (by decide +kernel) ⟨Nat.le_trans (Nat.le_of_ble_eq_true rfl) hRf, Nat.le_trans (Nat.le_of_ble_eq_true rfl) hRl⟩, hT _ w_12_22, hT _ ws_168⟩ ⟨PW.blind, va_recv hK hW.1 (ci := 12) (q0 := 0) rfl (pic_obj ko_0.1 ko_0.2 (by decide)), PW.at _ hW hK hN⟩ rfl rfl hl.1 rfl (lv_room (Nat.le_of_ble_eq_true rfl)) d_Mod_writeDictionary_14 ⟨hRc, hRs⟩) hS (fun q _ h => hF q h) hF (fun r685 x684 t H locs ht hvm hw hB hz1 hk1 hS => ?_)
    have hW := Wd.back hB ht hF
    clear hB ht hF hz1 hk1 hvm
    refine lv_istore_n (lv' := [(3, .int r685), (0, .ref (ad 0)), (1, .int l1), (2, .int l2)]) hx hb d_Mod_writeDictionary_17 rfl hl (by decide) rfl (fun ls hl => ?_)
    refine lv_aload_n hx hb d_Mod_writeDictionary_18 rfl (lv_at hl 1 rfl) ?_
    refine w_getf (q := 44) (k := 72) (t := 12) (C := R_Mod) (T := F_Mod) (N := 167) hx hb hT hown hK hW ko_0.1 ko_0.2 (by decide) in_Mod rfl rfl (by decide) rfl fr_Mod_72 w_9_8 d_Mod_writeDictionary_19 rfl ?_
    refine lv_iload_n hx hb d_Mod_writeDictionary_22 rfl (lv_at hl 3 rfl) ?_
    refine lv_iload_n hx hb d_Mod_writeDictionary_23 rfl (lv_at hl 0 rfl) ?_
    refine lv_iload_n hx hb d_Mod_writeDictionary_24 rfl (lv_at hl 3 rfl) ?_
    refine lv_icmp_ne (tgt := 32) hx hb d_Mod_writeDictionary_25 (by decide) (fun c686 => ?_) (fun c686 => ?_)
    · have hw := hw.1 c686
      refine lv_aload_n hx hb d_Mod_writeDictionary_32 rfl (lv_at hl 1 rfl) ?_
      refine w_getf (q := 44) (k := 72) (t := 12) (C := R_Mod) (T := F_Mod) (N := 167) hx hb hT hown hK hW ko_0.1 ko_0.2 (by decide) in_Mod rfl rfl (by decide) rfl fr_Mod_72 w_9_8 d_Mod_writeDictionary_33 rfl ?_
      refine lv_iload_n hx hb d_Mod_writeDictionary_36 rfl (lv_at hl 0 rfl) ?_
      obtain ⟨hi, hw⟩ := hw
      refine w_iald (o := 44) hx hb hK hW ko_44.1 ko_44.2 hi d_Mod_writeDictionary_37 ?_
      exact t_Mod_writeDictionary_38 hx hb hml hown hT hK hN hA hRc hRs hRf hRl hret hrec4 l1 l2 r685 (rA x684 44 r685) l2 44 x684 H locs ls ko_44 hw hW hS (lv_sub hl [1, 2, 3, 0] rfl)
    · have hw := hw.2 c686
      refine lv_iload_n hx hb d_Mod_writeDictionary_28 rfl (lv_at hl 2 rfl) ?_
      refine lv_goto (tgt := 38) hx hb d_Mod_writeDictionary_29 (by decide) ?_
      exact t_Mod_writeDictionary_38 hx hb hml hown hT hK hN hA hRc hRs hRf hRl hret hrec4 l1 l2 r685 l1 l2 44 x684 H locs ls ko_44 hw hW hS (lv_sub hl [1, 2, 3, 0] rfl)
set_option maxHeartbeats 4000000 in
set_option maxRecDepth 100000 in
theorem tl_Mod_writeDictionary_4 {p : Program} {l : Launch} {e : Env} {R : Room} {s : State} {m : MethodId} {args : Array Value} {below : List Frame} {meth : Method} {c : Code} {cells slots : Nat} {Q : State → Prop} {dC : Nat → ClassId} {dI : Nat → Nat → Nat} {cI cB cJ cZ : ClassId} {A : Nat → Prop} {ad : Nat → Nat} {post : St → Prop} (hx : p.tables.exec = Jvm.exec) (hb : c.code = b_Mod_writeDictionary) (hml : c.maxLocals = 4) (hown : s.vm.findClass R_Mod = some m.cls) (hT : ∀ w ∈ TG, w.before args s = true) (hK : va_K (dC, dI) CL (TY cI cB cJ cZ) s) (hN : NW s) (hA : ∀ q : Nat, s.heap.size ≤ q → A q) (hRc : cells ≤ R.cells) (hRs : slots ≤ R.slots) (hRf : 3 ≤ R.frames) (hRl : 75 ≤ R.locals) (hret : ∀ (x : St) (H : Heap) (locs : List Loc) (pc : Nat) (ls : Array Slot), decode b_Mod_writeDictionary pc = .ok (.return_, 1) → post x → Wd dC dI cI cB cJ cZ ad stM kcM 115 A x H → va_S A s.heap H locs → W p l e R s m args below meth c H locs cells slots Q (F0 m pc ls []))  : ∀ n : Nat, ∀ (l1 : Int32) (l2 : Int32) (x : St) (H : Heap) (locs : List Loc) (ls : Array Slot), wl_Mod_writeDictionary_4 post n l1 l2 x → Wd dC dI cI cB cJ cZ ad stM kcM 115 A x H → va_S A s.heap H locs → lv_has ls 4 [(0, .ref (ad 0)), (1, .int l1), (2, .int l2)] → W p l e R s m args below meth c H locs cells slots Q (F0 m 4 ls []) := by
  intro n
  induction n with
  | zero => intro l1 l2 x H locs ls  hw; exact hw.elim
  | succ n ih => intro l1 l2 x H locs ls  hw hW hS hl; exact t_Mod_writeDictionary_4 hx hb hml hown hT hK hN hA hRc hRs hRf hRl hret  ih l1 l2 x H locs ls  hw hW hS hl
set_option maxRecDepth 100000 in
set_option maxHeartbeats 4000000 in
set_option maxRecDepth 100000 in
theorem t_Mod_writeDictionary_e {p : Program} {l : Launch} {e : Env} {R : Room} {s : State} {m : MethodId} {args : Array Value} {below : List Frame} {meth : Method} {c : Code} {cells slots : Nat} {Q : State → Prop} {dC : Nat → ClassId} {dI : Nat → Nat → Nat} {cI cB cJ cZ : ClassId} {A : Nat → Prop} {ad : Nat → Nat} {post : St → Prop} (hx : p.tables.exec = Jvm.exec) (hb : c.code = b_Mod_writeDictionary) (hml : c.maxLocals = 4) (hown : s.vm.findClass R_Mod = some m.cls) (hT : ∀ w ∈ TG, w.before args s = true) (hK : va_K (dC, dI) CL (TY cI cB cJ cZ) s) (hN : NW s) (hA : ∀ q : Nat, s.heap.size ≤ q → A q) (hRc : cells ≤ R.cells) (hRs : slots ≤ R.slots) (hRf : 3 ≤ R.frames) (hRl : 75 ≤ R.locals) (hret : ∀ (x : St) (H : Heap) (locs : List Loc) (pc : Nat) (ls : Array Slot), decode b_Mod_writeDictionary pc = .ok (.return_, 1) → post x → Wd dC dI cI cB cJ cZ ad stM kcM 115 A x H → va_S A s.heap H locs → W p l e R s m args below meth c H locs cells slots Q (F0 m pc ls [])) : ∀  (x : St) (H : Heap) (locs : List Loc) (ls : Array Slot), wp_Mod_writeDictionary post  x → Wd dC dI cI cB cJ cZ ad stM kcM 115 A x H → va_S A s.heap H locs → lv_has ls 4 [(0, .ref (ad 0))] → W p l e R s m args below meth c H locs cells slots Q (F0 m 0 ls []) := by
  intro  x H locs ls  hw hW hS hl
  unfold wp_Mod_writeDictionary at hw
  refine lv_iconst (v := 0) hx hb d_Mod_writeDictionary_0 (by decide) ?_
  refine lv_istore_n (lv' := [(1, .int 0), (0, .ref (ad 0))]) hx hb d_Mod_writeDictionary_1 rfl hl (by decide) rfl (fun ls hl => ?_)
  refine lv_iconst (v := 0) hx hb d_Mod_writeDictionary_2 (by decide) ?_
  refine lv_istore_n (lv' := [(2, .int 0), (1, .int 0), (0, .ref (ad 0))]) hx hb d_Mod_writeDictionary_3 rfl hl (by decide) rfl (fun ls hl => ?_)
  obtain ⟨n, hw⟩ := hw
  exact tl_Mod_writeDictionary_4 hx hb hml hown hT hK hN hA hRc hRs hRf hRl hret  n 0 0 x H locs ls  hw hW hS (lv_sub hl [2, 1, 0] rfl)
set_option maxHeartbeats 4000000 in
set_option maxRecDepth 100000 in
theorem k_Mod_writeDictionary (l : Launch) (dC : Nat → ClassId) (dI : Nat → Nat → Nat) (cI cB cJ cZ : ClassId) (ad : Nat → Nat) (sz : Nat)  (x : St) {post : St → Prop} (hw : wp_Mod_writeDictionary post  x) : Met l y_Mod_writeDictionary (wsOf y_Mod_writeDictionary b_Mod_writeDictionary 4 (none)) ({ frames := 3, cells := 0, slots := 0, locals := 75 }) (va_Pc [.ref (ad 0)] (PW dC dI cI cB cJ cZ ad stM kcM 115 sz x)) (va_Qv (fun (y : St) => post y) (fun y t => Wd dC dI cI cB cJ cZ ad stM kcM 115 (va_A (pic ad stM kcM 115 cI cB cJ cZ x) sz) y t.heap) (va_A (pic ad stM kcM 115 cI cB cJ cZ x) sz)) 0 0 (va_A (pic ad stM kcM 115 cI cB cJ cZ x) sz) := by
  refine Met.ofW (cc := b_Mod_writeDictionary) (maxL := 4) (ret := none) (by decide) rfl ?_
  intro p e s m args below meth c s₁ B hml hv
  obtain ⟨rfl, hsz, hW0, hK, hN⟩ := hv
  have hx := B.exec
  have hb := B.bytes
  have hr := B.returns
  have hts := atoms_spec B.pre
  have hT : ∀ w ∈ TG, w.before _ s = true := fun w h => hts w (List.mem_cons_of_mem _ h)
  have hown : s.vm.findClass R_Mod = some m.cls := findClass_of_methodNamed B.named
  have hlocks := B.notSynchronized
  subst hsz
  have hW : Wd dC dI cI cB cJ cZ ad stM kcM 115 (va_A (pic ad stM kcM 115 cI cB cJ cZ x) s.heap.size) x s.heap := ⟨hW0.1, hW0.2.1.self (sz := s.heap.size), hW0.2.2⟩
  generalize hAe : va_A (pic ad stM kcM 115 cI cB cJ cZ x) s.heap.size = A at hW ⊢
  have hA : ∀ q : Nat, s.heap.size ≤ q → A q := fun q h => by rw [← hAe]; exact Or.inr h
  have hS : va_S A s.heap s.heap [] := va_S.rf
  have hl := lv_entry ([.ref (ad 0)]) (n := 4) (Nat.le_of_ble_eq_true rfl)
  rw [lg_entry_eq]
  generalize (lg_sl ([.ref (ad 0)]) ++ List.replicate (4 - (lg_sl ([.ref (ad 0)])).length) Slot.unset).toArray = ls at hl ⊢
  have hl : lv_has ls 4 [(0, .ref (ad 0))] := hl
  exact t_Mod_writeDictionary_e hx hb hml hown hT hK hN hA (Nat.le_refl 0) (Nat.le_refl 0) (Nat.le_refl 3) (Nat.le_refl 75) (fun x H locs pc ls hd hp hW hS => W.vret hx hb hr (fun t ht hM => ⟨⟨x, rfl, hp, Wd.back hW ht.symm (fun _ z => z)⟩, hS.F ht⟩) hS.2.2 hd hlocks)   x _ _ ls  hw hW hS hl
set_option maxRecDepth 100000 in
set_option maxHeartbeats 4000000 in
set_option maxRecDepth 100000 in
theorem t_Mod_writeValues_66 {p : Program} {l : Launch} {e : Env} {R : Room} {s : State} {m : MethodId} {args : Array Value} {below : List Frame} {meth : Method} {c : Code} {cells slots : Nat} {Q : State → Prop} {dC : Nat → ClassId} {dI : Nat → Nat → Nat} {cI cB cJ cZ : ClassId} {A : Nat → Prop} {ad : Nat → Nat} {post : St → Prop} {rec66 : Int32 → Int32 → St → Prop} (hx : p.tables.exec = Jvm.exec) (hb : c.code = b_Mod_writeValues) (hml : c.maxLocals = 3) (hown : s.vm.findClass R_Mod = some m.cls) (hT : ∀ w ∈ TG, w.before args s = true) (hK : va_K (dC, dI) CL (TY cI cB cJ cZ) s) (hN : NW s) (hA : ∀ q : Nat, s.heap.size ≤ q → A q) (hRc : cells ≤ R.cells) (hRs : slots ≤ R.slots) (hRf : 5 ≤ R.frames) (hRl : 119 ≤ R.locals) (hret : ∀ (x : St) (H : Heap) (locs : List Loc) (pc : Nat) (ls : Array Slot), decode b_Mod_writeValues pc = .ok (.return_, 1) → post x → Wd dC dI cI cB cJ cZ ad stM kcM 115 A x H → va_S A s.heap H locs → W p l e R s m args below meth c H locs cells slots Q (F0 m pc ls [])) (hrec66 : ∀ (l1 : Int32) (l2 : Int32) (x : St) (H : Heap) (locs : List Loc) (ls : Array Slot), rec66 l1 l2 x → Wd dC dI cI cB cJ cZ ad stM kcM 115 A x H → va_S A s.heap H locs → lv_has ls 3 [(0, .ref (ad 0)), (1, .int l1), (2, .int l2)] → W p l e R s m args below meth c H locs cells slots Q (F0 m 66 ls [])) : ∀ (l1 : Int32) (l2 : Int32) (x : St) (H : Heap) (locs : List Loc) (ls : Array Slot), j_Mod_writeValues_66 post rec66 l1 l2 x → Wd dC dI cI cB cJ cZ ad stM kcM 115 A x H → va_S A s.heap H locs → lv_has ls 3 [(0, .ref (ad 0)), (1, .int l1), (2, .int l2)] → W p l e R s m args below meth c H locs cells slots Q (F0 m 66 ls []) := by
  intro l1 l2 x H locs ls  hw hW hS hl
  unfold j_Mod_writeValues_66 at hw
  refine lv_iload_n hx hb d_Mod_writeValues_66 rfl (lv_at hl 2 rfl) ?_
  refine lv_aload_n hx hb d_Mod_writeValues_67 rfl (lv_at hl 0 rfl) ?_
  refine w_geti (k := 42) (t := 12) (C := R_Mod) (T := F_Mod) (N := 167) hx hb hT hown hK hW ko_0.1 ko_0.2 (by decide) in_Mod rfl rfl (by decide) rfl fr_Mod_42 w_8_218 d_Mod_writeValues_68 ?_
  refine lv_icmp_ge (tgt := 97) hx hb d_Mod_writeValues_71 (by decide) (fun c687 => ?_) (fun c687 => ?_)
  · have hw := hw.1 c687
    exact hret x H locs 97 ls d_Mod_writeValues_97 hw hW hS
  · have hw := hw.2 c687
    refine lv_aload_n hx hb d_Mod_writeValues_74 rfl (lv_at hl 0 rfl) ?_
    refine w_geti (k := 38) (t := 12) (C := R_Mod) (T := F_Mod) (N := 167) hx hb hT hown hK hW ko_0.1 ko_0.2 (by decide) in_Mod rfl rfl (by decide) rfl fr_Mod_38 w_8_214 d_Mod_writeValues_75 ?_
    refine lv_iconst (v := 3) hx hb d_Mod_writeValues_78 (by decide) ?_
    refine lv_icmp_ne (tgt := 97) hx hb d_Mod_writeValues_79 (by decide) (fun c688 => ?_) (fun c688 => ?_)
    · have hw := hw.1 c688
      exact hret x H locs 97 ls d_Mod_writeValues_97 hw hW hS
    · have hw := hw.2 c688
      refine lv_iload_n hx hb d_Mod_writeValues_82 rfl (lv_at hl 1 rfl) ?_
      refine lv_if_ne (tgt := 97) hx hb d_Mod_writeValues_83 (by decide) (fun c689 => ?_) (fun c689 => ?_)
      · have hw := hw.1 c689
        exact hret x H locs 97 ls d_Mod_writeValues_97 hw hW hS
      · have hw := hw.2 c689
        refine lv_aload_n hx hb d_Mod_writeValues_86 rfl (lv_at hl 0 rfl) ?_
        refine lv_iload_n hx hb d_Mod_writeValues_87 rfl (lv_at hl 2 rfl) ?_
        have hF := hW.free hS hA
        refine va_callv (va_runV (C := R_Mod) (As := [.int l2]) (rest := []) ⟨hx, hb, hml, hown, hT⟩ (k_Mod_putText l dC dI cI cB cJ cZ ad H.size l2 x  hw) ⟨callB_of 1 hT (gwt_in w_12_31) rfl rfl rfl (hT _ w_1_15) (hT _ w_12_28) (by decide +kernel) ⟨Nat.le_trans (Nat.le_of_ble_eq_true rfl) hRf, Nat.le_trans (Nat.le_of_ble_eq_true rfl) hRl⟩, hT _ w_12_30, hT _ ws_170⟩ ⟨PW.blind, va_recv hK hW.1 (ci := 12) (q0 := 0) rfl (pic_obj ko_0.1 ko_0.2 (by decide)), PW.at _ hW hK hN⟩ rfl rfl hl.1 rfl (lv_room (Nat.le_of_ble_eq_true rfl)) d_Mod_writeValues_88 ⟨hRc, hRs⟩) hS (fun q _ h => hF q h) hF (fun  x690 t H locs ht hvm hw hB hz1 hk1 hS => ?_)
        have hW := Wd.back hB ht hF
        clear hB ht hF hz1 hk1 hvm
        refine lv_iinc (v := (l2 + 1)) (lv' := [(2, .int (l2 + 1)), (0, .ref (ad 0)), (1, .int l1)]) hx hb d_Mod_writeValues_91 hl (k := 2) rfl rfl (by decide) rfl (fun ls hl => ?_)
        refine lv_goto (tgt := 66) hx hb d_Mod_writeValues_94 (by decide) ?_
        exact hrec66 l1 (l2 + 1) x690 H locs ls  hw hW hS (lv_sub hl [1, 2, 0] rfl)
set_option maxHeartbeats 4000000 in
set_option maxRecDepth 100000 in
theorem tl_Mod_writeValues_66 {p : Program} {l : Launch} {e : Env} {R : Room} {s : State} {m : MethodId} {args : Array Value} {below : List Frame} {meth : Method} {c : Code} {cells slots : Nat} {Q : State → Prop} {dC : Nat → ClassId} {dI : Nat → Nat → Nat} {cI cB cJ cZ : ClassId} {A : Nat → Prop} {ad : Nat → Nat} {post : St → Prop} (hx : p.tables.exec = Jvm.exec) (hb : c.code = b_Mod_writeValues) (hml : c.maxLocals = 3) (hown : s.vm.findClass R_Mod = some m.cls) (hT : ∀ w ∈ TG, w.before args s = true) (hK : va_K (dC, dI) CL (TY cI cB cJ cZ) s) (hN : NW s) (hA : ∀ q : Nat, s.heap.size ≤ q → A q) (hRc : cells ≤ R.cells) (hRs : slots ≤ R.slots) (hRf : 5 ≤ R.frames) (hRl : 119 ≤ R.locals) (hret : ∀ (x : St) (H : Heap) (locs : List Loc) (pc : Nat) (ls : Array Slot), decode b_Mod_writeValues pc = .ok (.return_, 1) → post x → Wd dC dI cI cB cJ cZ ad stM kcM 115 A x H → va_S A s.heap H locs → W p l e R s m args below meth c H locs cells slots Q (F0 m pc ls []))  : ∀ n : Nat, ∀ (l1 : Int32) (l2 : Int32) (x : St) (H : Heap) (locs : List Loc) (ls : Array Slot), wl_Mod_writeValues_66 post n l1 l2 x → Wd dC dI cI cB cJ cZ ad stM kcM 115 A x H → va_S A s.heap H locs → lv_has ls 3 [(0, .ref (ad 0)), (1, .int l1), (2, .int l2)] → W p l e R s m args below meth c H locs cells slots Q (F0 m 66 ls []) := by
  intro n
  induction n with
  | zero => intro l1 l2 x H locs ls  hw; exact hw.elim
  | succ n ih => intro l1 l2 x H locs ls  hw hW hS hl; exact t_Mod_writeValues_66 hx hb hml hown hT hK hN hA hRc hRs hRf hRl hret  ih l1 l2 x H locs ls  hw hW hS hl
set_option maxRecDepth 100000 in
set_option maxHeartbeats 4000000 in
set_option maxRecDepth 100000 in
theorem t_Mod_writeValues_64 {p : Program} {l : Launch} {e : Env} {R : Room} {s : State} {m : MethodId} {args : Array Value} {below : List Frame} {meth : Method} {c : Code} {cells slots : Nat} {Q : State → Prop} {dC : Nat → ClassId} {dI : Nat → Nat → Nat} {cI cB cJ cZ : ClassId} {A : Nat → Prop} {ad : Nat → Nat} {post : St → Prop} (hx : p.tables.exec = Jvm.exec) (hb : c.code = b_Mod_writeValues) (hml : c.maxLocals = 3) (hown : s.vm.findClass R_Mod = some m.cls) (hT : ∀ w ∈ TG, w.before args s = true) (hK : va_K (dC, dI) CL (TY cI cB cJ cZ) s) (hN : NW s) (hA : ∀ q : Nat, s.heap.size ≤ q → A q) (hRc : cells ≤ R.cells) (hRs : slots ≤ R.slots) (hRf : 5 ≤ R.frames) (hRl : 119 ≤ R.locals) (hret : ∀ (x : St) (H : Heap) (locs : List Loc) (pc : Nat) (ls : Array Slot), decode b_Mod_writeValues pc = .ok (.return_, 1) → post x → Wd dC dI cI cB cJ cZ ad stM kcM 115 A x H → va_S A s.heap H locs → W p l e R s m args below meth c H locs cells slots Q (F0 m pc ls []))  : ∀ (l1 : Int32) (x : St) (H : Heap) (locs : List Loc) (ls : Array Slot), j_Mod_writeValues_64 post l1 x → Wd dC dI cI cB cJ cZ ad stM kcM 115 A x H → va_S A s.heap H locs → lv_has ls 3 [(0, .ref (ad 0)), (1, .int l1)] → W p l e R s m args below meth c H locs cells slots Q (F0 m 64 ls []) := by
  intro l1 x H locs ls  hw hW hS hl
  unfold j_Mod_writeValues_64 at hw
  refine lv_iconst (v := 0) hx hb d_Mod_writeValues_64 (by decide) ?_
  refine lv_istore_n (lv' := [(2, .int 0), (0, .ref (ad 0)), (1, .int l1)]) hx hb d_Mod_writeValues_65 rfl hl (by decide) rfl (fun ls hl => ?_)
  obtain ⟨n, hw⟩ := hw
  exact tl_Mod_writeValues_66 hx hb hml hown hT hK hN hA hRc hRs hRf hRl hret  n l1 0 x H locs ls  hw hW hS (lv_sub hl [1, 2, 0] rfl)
set_option maxRecDepth 100000 in
set_option maxHeartbeats 4000000 in
set_option maxRecDepth 100000 in
theorem t_Mod_writeValues_e {p : Program} {l : Launch} {e : Env} {R : Room} {s : State} {m : MethodId} {args : Array Value} {below : List Frame} {meth : Method} {c : Code} {cells slots : Nat} {Q : State → Prop} {dC : Nat → ClassId} {dI : Nat → Nat → Nat} {cI cB cJ cZ : ClassId} {A : Nat → Prop} {ad : Nat → Nat} {post : St → Prop} (hx : p.tables.exec = Jvm.exec) (hb : c.code = b_Mod_writeValues) (hml : c.maxLocals = 3) (hown : s.vm.findClass R_Mod = some m.cls) (hT : ∀ w ∈ TG, w.before args s = true) (hK : va_K (dC, dI) CL (TY cI cB cJ cZ) s) (hN : NW s) (hA : ∀ q : Nat, s.heap.size ≤ q → A q) (hRc : cells ≤ R.cells) (hRs : slots ≤ R.slots) (hRf : 5 ≤ R.frames) (hRl : 119 ≤ R.locals) (hret : ∀ (x : St) (H : Heap) (locs : List Loc) (pc : Nat) (ls : Array Slot), decode b_Mod_writeValues pc = .ok (.return_, 1) → post x → Wd dC dI cI cB cJ cZ ad stM kcM 115 A x H → va_S A s.heap H locs → W p l e R s m args below meth c H locs cells slots Q (F0 m pc ls [])) : ∀ (l1 : Int32) (x : St) (H : Heap) (locs : List Loc) (ls : Array Slot), wp_Mod_writeValues post l1 x → Wd dC dI cI cB cJ cZ ad stM kcM 115 A x H → va_S A s.heap H locs → lv_has ls 3 [(0, .ref (ad 0)), (1, .int l1)] → W p l e R s m args below meth c H locs cells slots Q (F0 m 0 ls []) := by
  intro l1 x H locs ls  hw hW hS hl
  unfold wp_Mod_writeValues at hw
  refine lv_aload_n hx hb d_Mod_writeValues_0 rfl (lv_at hl 0 rfl) ?_
  refine w_geti (k := 38) (t := 12) (C := R_Mod) (T := F_Mod) (N := 167) hx hb hT hown hK hW ko_0.1 ko_0.2 (by decide) in_Mod rfl rfl (by decide) rfl fr_Mod_38 w_8_214 d_Mod_writeValues_1 ?_
  refine lv_if_ne (tgt := 15) hx hb d_Mod_writeValues_4 (by decide) (fun c691 => ?_) (fun c691 => ?_)
  · have hw := hw.1 c691
    refine lv_aload_n hx hb d_Mod_writeValues_15 rfl (lv_at hl 0 rfl) ?_
    refine w_geti (k := 38) (t := 12) (C := R_Mod) (T := F_Mod) (N := 167) hx hb hT hown hK hW ko_0.1 ko_0.2 (by decide) in_Mod rfl rfl (by decide) rfl fr_Mod_38 w_8_214 d_Mod_writeValues_16 ?_
    refine lv_iconst (v := 3) hx hb d_Mod_writeValues_19 (by decide) ?_
    refine lv_icmp_eq (tgt := 31) hx hb d_Mod_writeValues_20 (by decide) (fun c692 => ?_) (fun c692 => ?_)
    · have hw := hw.1 c692
      refine lv_iload_n hx hb d_Mod_writeValues_31 rfl (lv_at hl 1 rfl) ?_
      refine lv_iconst (v := 1) hx hb d_Mod_writeValues_32 (by decide) ?_
      refine lv_icmp_ne (tgt := 43) hx hb d_Mod_writeValues_33 (by decide) (fun c693 => ?_) (fun c693 => ?_)
      · have hw := hw.1 c693
        refine lv_iload_n hx hb d_Mod_writeValues_43 rfl (lv_at hl 1 rfl) ?_
        refine lv_iconst (v := 2) hx hb d_Mod_writeValues_44 (by decide) ?_
        refine lv_icmp_ne (tgt := 55) hx hb d_Mod_writeValues_45 (by decide) (fun c694 => ?_) (fun c694 => ?_)
        · have hw := hw.1 c694
          refine lv_iload_n hx hb d_Mod_writeValues_55 rfl (lv_at hl 1 rfl) ?_
          refine lv_iconst (v := 3) hx hb d_Mod_writeValues_56 (by decide) ?_
          refine lv_icmp_ne (tgt := 64) hx hb d_Mod_writeValues_57 (by decide) (fun c695 => ?_) (fun c695 => ?_)
          · have hw := hw.1 c695
            exact t_Mod_writeValues_64 hx hb hml hown hT hK hN hA hRc hRs hRf hRl hret  l1 x H locs ls  hw hW hS (lv_sub hl [0, 1] rfl)
          · have hw := hw.2 c695
            refine lv_aload_n hx hb d_Mod_writeValues_60 rfl (lv_at hl 0 rfl) ?_
            have hF := hW.free hS hA
            refine va_callv (va_runV (C := R_Mod) (As := []) (rest := []) ⟨hx, hb, hml, hown, hT⟩ (k_Mod_writeDictionary l dC dI cI cB cJ cZ ad H.size  x  hw) ⟨callB_of 0 hT (gwt_in w_12_19) rfl rfl rfl (hT _ w_1_15) (hT _ w_12_16) (by decide +kernel) ⟨Nat.le_trans (Nat.le_of_ble_eq_true rfl) hRf, Nat.le_trans (Nat.le_of_ble_eq_true rfl) hRl⟩, hT _ w_12_18, hT _ ws_167⟩ ⟨PW.blind, va_recv hK hW.1 (ci := 12) (q0 := 0) rfl (pic_obj ko_0.1 ko_0.2 (by decide)), PW.at _ hW hK hN⟩ rfl rfl hl.1 rfl (lv_room (Nat.le_of_ble_eq_true rfl)) d_Mod_writeValues_61 ⟨hRc, hRs⟩) hS (fun q _ h => hF q h) hF (fun  x696 t H locs ht hvm hw hB hz1 hk1 hS => ?_)
            have hW := Wd.back hB ht hF
            clear hB ht hF hz1 hk1 hvm
            exact t_Mod_writeValues_64 hx hb hml hown hT hK hN hA hRc hRs hRf hRl hret  l1 x696 H locs ls  hw hW hS (lv_sub hl [0, 1] rfl)
        · have hw := hw.2 c694
          refine lv_aload_n hx hb d_Mod_writeValues_48 rfl (lv_at hl 0 rfl) ?_
          have hF := hW.free hS hA
          refine va_callv (va_runV (C := R_Mod) (As := []) (rest := []) ⟨hx, hb, hml, hown, hT⟩ (k_Mod_writeFront l dC dI cI cB cJ cZ ad H.size  x  hw) ⟨callB_of 0 hT (gwt_in w_12_11) rfl rfl rfl (hT _ w_1_15) (hT _ w_12_8) (by decide +kernel) ⟨Nat.le_trans (Nat.le_of_ble_eq_true rfl) hRf, Nat.le_trans (Nat.le_of_ble_eq_true rfl) hRl⟩, hT _ w_12_10, hT _ ws_165⟩ ⟨PW.blind, va_recv hK hW.1 (ci := 12) (q0 := 0) rfl (pic_obj ko_0.1 ko_0.2 (by decide)), PW.at _ hW hK hN⟩ rfl rfl hl.1 rfl (lv_room (Nat.le_of_ble_eq_true rfl)) d_Mod_writeValues_49 ⟨hRc, hRs⟩) hS (fun q _ h => hF q h) hF (fun  x697 t H locs ht hvm hw hB hz1 hk1 hS => ?_)
          have hW := Wd.back hB ht hF
          clear hB ht hF hz1 hk1 hvm
          refine lv_goto (tgt := 64) hx hb d_Mod_writeValues_52 (by decide) ?_
          exact t_Mod_writeValues_64 hx hb hml hown hT hK hN hA hRc hRs hRf hRl hret  l1 x697 H locs ls  hw hW hS (lv_sub hl [0, 1] rfl)
      · have hw := hw.2 c693
        refine lv_aload_n hx hb d_Mod_writeValues_36 rfl (lv_at hl 0 rfl) ?_
        have hF := hW.free hS hA
        refine va_callv (va_runV (C := R_Mod) (As := []) (rest := []) ⟨hx, hb, hml, hown, hT⟩ (k_Mod_writeLengths l dC dI cI cB cJ cZ ad H.size  x  hw) ⟨callB_of 0 hT (gwt_in w_11_239) rfl rfl rfl (hT _ w_1_15) (hT _ w_11_236) (by decide +kernel) ⟨Nat.le_trans (Nat.le_of_ble_eq_true rfl) hRf, Nat.le_trans (Nat.le_of_ble_eq_true rfl) hRl⟩, hT _ w_11_238, hT _ ws_162⟩ ⟨PW.blind, va_recv hK hW.1 (ci := 12) (q0 := 0) rfl (pic_obj ko_0.1 ko_0.2 (by decide)), PW.at _ hW hK hN⟩ rfl rfl hl.1 rfl (lv_room (Nat.le_of_ble_eq_true rfl)) d_Mod_writeValues_37 ⟨hRc, hRs⟩) hS (fun q _ h => hF q h) hF (fun  x698 t H locs ht hvm hw hB hz1 hk1 hS => ?_)
        have hW := Wd.back hB ht hF
        clear hB ht hF hz1 hk1 hvm
        refine lv_goto (tgt := 64) hx hb d_Mod_writeValues_40 (by decide) ?_
        exact t_Mod_writeValues_64 hx hb hml hown hT hK hN hA hRc hRs hRf hRl hret  l1 x698 H locs ls  hw hW hS (lv_sub hl [0, 1] rfl)
    · have hw := hw.2 c692
      refine lv_aload_n hx hb d_Mod_writeValues_23 rfl (lv_at hl 0 rfl) ?_
      refine lv_iload_n hx hb d_Mod_writeValues_24 rfl (lv_at hl 1 rfl) ?_
      have hF := hW.free hS hA
      refine va_callv (va_runV (C := R_Mod) (As := [.int l1]) (rest := []) ⟨hx, hb, hml, hown, hT⟩ (k_Mod_writeWholes l dC dI cI cB cJ cZ ad H.size l1 x  hw) ⟨callB_of 1 hT (gwt_in w_11_203) rfl rfl rfl (hT _ w_1_15) (hT _ w_11_200) (by decide +kernel) ⟨Nat.le_trans (Nat.le_of_ble_eq_true rfl) hRf, Nat.le_trans (Nat.le_of_ble_eq_true rfl) hRl⟩, hT _ w_11_202, hT _ ws_154⟩ ⟨PW.blind, va_recv hK hW.1 (ci := 12) (q0 := 0) rfl (pic_obj ko_0.1 ko_0.2 (by decide)), PW.at _ hW hK hN⟩ rfl rfl hl.1 rfl (lv_room (Nat.le_of_ble_eq_true rfl)) d_Mod_writeValues_25 ⟨hRc, hRs⟩) hS (fun q _ h => hF q h) hF (fun  x699 t H locs ht hvm hw hB hz1 hk1 hS => ?_)
      have hW := Wd.back hB ht hF
      clear hB ht hF hz1 hk1 hvm
      refine lv_goto (tgt := 64) hx hb d_Mod_writeValues_28 (by decide) ?_
      exact t_Mod_writeValues_64 hx hb hml hown hT hK hN hA hRc hRs hRf hRl hret  l1 x699 H locs ls  hw hW hS (lv_sub hl [0, 1] rfl)
  · have hw := hw.2 c691
    refine lv_aload_n hx hb d_Mod_writeValues_7 rfl (lv_at hl 0 rfl) ?_
    refine lv_iload_n hx hb d_Mod_writeValues_8 rfl (lv_at hl 1 rfl) ?_
    have hF := hW.free hS hA
    refine va_callv (va_runV (C := R_Mod) (As := [.int l1]) (rest := []) ⟨hx, hb, hml, hown, hT⟩ (k_Mod_writeBools l dC dI cI cB cJ cZ ad H.size l1 x  hw) ⟨callB_of 1 hT (gwt_in w_11_182) rfl rfl rfl (hT _ w_1_15) (hT _ w_11_179) (by decide +kernel) ⟨Nat.le_trans (Nat.le_of_ble_eq_true rfl) hRf, Nat.le_trans (Nat.le_of_ble_eq_true rfl) hRl⟩, hT _ w_11_181, hT _ ws_150⟩ ⟨PW.blind, va_recv hK hW.1 (ci := 12) (q0 := 0) rfl (pic_obj ko_0.1 ko_0.2 (by decide)), PW.at _ hW hK hN⟩ rfl rfl hl.1 rfl (lv_room (Nat.le_of_ble_eq_true rfl)) d_Mod_writeValues_9 ⟨hRc, hRs⟩) hS (fun q _ h => hF q h) hF (fun  x700 t H locs ht hvm hw hB hz1 hk1 hS => ?_)
    have hW := Wd.back hB ht hF
    clear hB ht hF hz1 hk1 hvm
    refine lv_goto (tgt := 64) hx hb d_Mod_writeValues_12 (by decide) ?_
    exact t_Mod_writeValues_64 hx hb hml hown hT hK hN hA hRc hRs hRf hRl hret  l1 x700 H locs ls  hw hW hS (lv_sub hl [0, 1] rfl)
set_option maxHeartbeats 4000000 in
set_option maxRecDepth 100000 in
theorem k_Mod_writeValues (l : Launch) (dC : Nat → ClassId) (dI : Nat → Nat → Nat) (cI cB cJ cZ : ClassId) (ad : Nat → Nat) (sz : Nat) (l1 : Int32) (x : St) {post : St → Prop} (hw : wp_Mod_writeValues post l1 x) : Met l y_Mod_writeValues (wsOf y_Mod_writeValues b_Mod_writeValues 3 (none)) ({ frames := 5, cells := 0, slots := 0, locals := 119 }) (va_Pc [.ref (ad 0), .int l1] (PW dC dI cI cB cJ cZ ad stM kcM 115 sz x)) (va_Qv (fun (y : St) => post y) (fun y t => Wd dC dI cI cB cJ cZ ad stM kcM 115 (va_A (pic ad stM kcM 115 cI cB cJ cZ x) sz) y t.heap) (va_A (pic ad stM kcM 115 cI cB cJ cZ x) sz)) 0 0 (va_A (pic ad stM kcM 115 cI cB cJ cZ x) sz) := by
  refine Met.ofW (cc := b_Mod_writeValues) (maxL := 3) (ret := none) (by decide) rfl ?_
  intro p e s m args below meth c s₁ B hml hv
  obtain ⟨rfl, hsz, hW0, hK, hN⟩ := hv
  have hx := B.exec
  have hb := B.bytes
  have hr := B.returns
  have hts := atoms_spec B.pre
  have hT : ∀ w ∈ TG, w.before _ s = true := fun w h => hts w (List.mem_cons_of_mem _ h)
  have hown : s.vm.findClass R_Mod = some m.cls := findClass_of_methodNamed B.named
  have hlocks := B.notSynchronized
  subst hsz
  have hW : Wd dC dI cI cB cJ cZ ad stM kcM 115 (va_A (pic ad stM kcM 115 cI cB cJ cZ x) s.heap.size) x s.heap := ⟨hW0.1, hW0.2.1.self (sz := s.heap.size), hW0.2.2⟩
  generalize hAe : va_A (pic ad stM kcM 115 cI cB cJ cZ x) s.heap.size = A at hW ⊢
  have hA : ∀ q : Nat, s.heap.size ≤ q → A q := fun q h => by rw [← hAe]; exact Or.inr h
  have hS : va_S A s.heap s.heap [] := va_S.rf
  have hl := lv_entry ([.ref (ad 0), .int l1]) (n := 3) (Nat.le_of_ble_eq_true rfl)
  rw [lg_entry_eq]
  generalize (lg_sl ([.ref (ad 0), .int l1]) ++ List.replicate (3 - (lg_sl ([.ref (ad 0), .int l1])).length) Slot.unset).toArray = ls at hl ⊢
  have hl : lv_has ls 3 [(0, .ref (ad 0)), (1, .int l1)] := hl
  exact t_Mod_writeValues_e hx hb hml hown hT hK hN hA (Nat.le_refl 0) (Nat.le_refl 0) (Nat.le_refl 5) (Nat.le_refl 119) (fun x H locs pc ls hd hp hW hS => W.vret hx hb hr (fun t ht hM => ⟨⟨x, rfl, hp, Wd.back hW ht.symm (fun _ z => z)⟩, hS.F ht⟩) hS.2.2 hd hlocks)  l1 x _ _ ls  hw hW hS hl
set_option maxRecDepth 100000 in
set_option maxHeartbeats 4000000 in
set_option maxRecDepth 100000 in
theorem t_Mod_putLevels_7 {p : Program} {l : Launch} {e : Env} {R : Room} {s : State} {m : MethodId} {args : Array Value} {below : List Frame} {meth : Method} {c : Code} {cells slots : Nat} {Q : State → Prop} {dC : Nat → ClassId} {dI : Nat → Nat → Nat} {cI cB cJ cZ : ClassId} {A : Nat → Prop} {ad : Nat → Nat} {post : St → Prop} {rec7 : Nat → Int32 → Int32 → St → Prop} (hx : p.tables.exec = Jvm.exec) (hb : c.code = b_Mod_putLevels) (hml : c.maxLocals = 6) (hown : s.vm.findClass R_Mod = some m.cls) (hT : ∀ w ∈ TG, w.before args s = true) (hK : va_K (dC, dI) CL (TY cI cB cJ cZ) s) (hN : NW s) (hA : ∀ q : Nat, s.heap.size ≤ q → A q) (hRc : cells ≤ R.cells) (hRs : slots ≤ R.slots) (hRf : 3 ≤ R.frames) (hRl : 75 ≤ R.locals) (hret : ∀ (x : St) (H : Heap) (locs : List Loc) (pc : Nat) (ls : Array Slot), decode b_Mod_putLevels pc = .ok (.return_, 1) → post x → Wd dC dI cI cB cJ cZ ad stM kcM 115 A x H → va_S A s.heap H locs → W p l e R s m args below meth c H locs cells slots Q (F0 m pc ls [])) (hrec7 : ∀ (l1 : Nat) (l2 : Int32) (l3 : Int32) (x : St) (H : Heap) (locs : List Loc) (ls : Array Slot), (l1 < 115 ∧ kcM l1 = 20) → rec7 l1 l2 l3 x → Wd dC dI cI cB cJ cZ ad stM kcM 115 A x H → va_S A s.heap H locs → lv_has ls 6 [(0, .ref (ad 0)), (1, .ref (ad l1)), (2, .int l2), (3, .int l3)] → W p l e R s m args below meth c H locs cells slots Q (F0 m 7 ls [])) : ∀ (l1 : Nat) (l2 : Int32) (l3 : Int32) (x : St) (H : Heap) (locs : List Loc) (ls : Array Slot), (l1 < 115 ∧ kcM l1 = 20) → j_Mod_putLevels_7 post rec7 l1 l2 l3 x → Wd dC dI cI cB cJ cZ ad stM kcM 115 A x H → va_S A s.heap H locs → lv_has ls 6 [(0, .ref (ad 0)), (1, .ref (ad l1)), (2, .int l2), (3, .int l3)] → W p l e R s m args below meth c H locs cells slots Q (F0 m 7 ls []) := by
  intro l1 l2 l3 x H locs ls fl1 hw hW hS hl
  unfold j_Mod_putLevels_7 at hw
  refine lv_iload_n hx hb d_Mod_putLevels_7 rfl (lv_at hl 2 rfl) ?_
  refine lv_iload_n hx hb d_Mod_putLevels_8 rfl (lv_at hl 3 rfl) ?_
  refine lv_ishr hx hb d_Mod_putLevels_9 ?_
  refine lv_if_le (tgt := 19) hx hb d_Mod_putLevels_10 (by decide) (fun c701 => ?_) (fun c701 => ?_)
  · have hw := hw.1 c701
    refine lv_aload_n hx hb d_Mod_putLevels_19 rfl (lv_at hl 0 rfl) ?_
    refine w_geti (k := 64) (t := 12) (C := R_Mod) (T := F_Mod) (N := 167) hx hb hT hown hK hW ko_0.1 ko_0.2 (by decide) in_Mod rfl rfl (by decide) rfl fr_Mod_64 w_9_0 d_Mod_putLevels_20 ?_
    refine lv_topi (fun v702 ev702 => ?_)
    have hw := hw v702 ev702
    refine lv_istore (lv' := [(4, .int v702), (0, .ref (ad 0)), (1, .ref (ad l1)), (2, .int l2), (3, .int l3)]) hx hb d_Mod_putLevels_23 hl (by decide) rfl (fun ls hl => ?_)
    refine lv_aload_n hx hb d_Mod_putLevels_25 rfl (lv_at hl 1 rfl) ?_
    refine lv_aload_n hx hb d_Mod_putLevels_26 rfl (lv_at hl 2 rfl) ?_
    refine lv_aload_n hx hb d_Mod_putLevels_27 rfl (lv_at hl 1 rfl) ?_
    refine w_geti (k := 41) (t := 12) (C := R_Mod) (T := F_Mod) (N := 167) hx hb hT hown hK hW ko_0.1 ko_0.2 (by decide) in_Mod rfl rfl (by decide) rfl fr_Mod_41 w_8_217 d_Mod_putLevels_28 ?_
    refine lv_iload_n hx hb d_Mod_putLevels_31 rfl (lv_at hl 4 rfl) ?_
    have hF := hW.free hS hA
    refine va_callv (va_runV (C := R_Mod) (As := [.ref (ad l1), .int (fI x 0 41), .int l3]) (rest := []) ⟨hx, hb, hml, hown, hT⟩ (k_Mod_writeRuns l dC dI cI cB cJ cZ ad H.size l1 (fI x 0 41) l3 x fl1 hw) ⟨callB_of 3 hT (gwt_in w_11_186) rfl rfl rfl (hT _ w_1_15) (hT _ w_11_183) (by decide +kernel) ⟨Nat.le_trans (Nat.le_of_ble_eq_true rfl) hRf, Nat.le_trans (Nat.le_of_ble_eq_true rfl) hRl⟩, hT _ w_11_185, hT _ ws_151⟩ ⟨PW.blind, va_recv hK hW.1 (ci := 12) (q0 := 0) rfl (pic_obj ko_0.1 ko_0.2 (by decide)), PW.at _ hW hK hN⟩ rfl rfl hl.1 rfl (lv_room (Nat.le_of_ble_eq_true rfl)) d_Mod_putLevels_32 ⟨hRc, hRs⟩) hS (fun q _ h => hF q h) hF (fun  x703 t H locs ht hvm hw hB hz1 hk1 hS => ?_)
    have hW := Wd.back hB ht hF
    clear hB ht hF hz1 hk1 hvm
    refine lv_aload_n hx hb d_Mod_putLevels_35 rfl (lv_at hl 1 rfl) ?_
    refine w_geti (k := 64) (t := 12) (C := R_Mod) (T := F_Mod) (N := 167) hx hb hT hown hK hW ko_0.1 ko_0.2 (by decide) in_Mod rfl rfl (by decide) rfl fr_Mod_64 w_9_0 d_Mod_putLevels_36 ?_
    refine lv_iload hx hb d_Mod_putLevels_39 (lv_at hl 0 rfl) ?_
    refine lv_isub hx hb d_Mod_putLevels_41 ?_
    refine lv_topi (fun v704 ev704 => ?_)
    have hw := hw v704 ev704
    refine lv_istore (lv' := [(5, .int v704), (4, .int v702), (0, .ref (ad 0)), (1, .ref (ad l1)), (2, .int l2), (3, .int l3)]) hx hb d_Mod_putLevels_42 hl (by decide) rfl (fun ls hl => ?_)
    refine lv_aload_n hx hb d_Mod_putLevels_44 rfl (lv_at hl 2 rfl) ?_
    refine lv_iload hx hb d_Mod_putLevels_45 (lv_at hl 1 rfl) ?_
    refine w_puti (ty := .int) (k := 64) (t := 12) (C := R_Mod) (T := F_Mod) (N := 167) hx hb hT hown hK hW hS ko_0.1 ko_0.2 (by decide) in_Mod t_Mod t_Mod_ok n_Mod rfl rfl (by decide) rfl fr_Mod_64 w_9_0 (by decide +kernel) rfl rfl d_Mod_putLevels_47 (fun H locs hW hS => ?_)
    obtain ⟨x705, ex705⟩ : ∃ y : St, y = setI x703 0 64 v702 := ⟨_, rfl⟩
    rw [← ex705] at hW
    have hw := hw x705 ex705
    refine lv_aload_n hx hb d_Mod_putLevels_50 rfl (lv_at hl 2 rfl) ?_
    refine lv_iload hx hb d_Mod_putLevels_51 (lv_at hl 0 rfl) ?_
    refine lv_i2l hx hb d_Mod_putLevels_53 rfl ?_
    have hF := hW.free hS hA
    refine va_callv (va_runV (C := R_Mod) (As := [.long (v704 : Int32).toInt64]) (rest := []) ⟨hx, hb, hml, hown, hT⟩ (k_Mod_putVarint l dC dI cI cB cJ cZ ad H.size (v704 : Int32).toInt64 x705  hw) ⟨callB_of 1 hT (gwt_in w_11_194) rfl rfl rfl (hT _ w_1_15) (hT _ w_11_191) (by decide +kernel) ⟨Nat.le_trans (Nat.le_of_ble_eq_true rfl) hRf, Nat.le_trans (Nat.le_of_ble_eq_true rfl) hRl⟩, hT _ w_11_193, hT _ ws_152⟩ ⟨PW.blind, va_recv hK hW.1 (ci := 12) (q0 := 0) rfl (pic_obj ko_0.1 ko_0.2 (by decide)), PW.at _ hW hK hN⟩ rfl rfl hl.1 rfl (lv_room (Nat.le_of_ble_eq_true rfl)) d_Mod_putLevels_54 ⟨hRc, hRs⟩) hS (fun q _ h => hF q h) hF (fun  x706 t H locs ht hvm hw hB hz1 hk1 hS => ?_)
    have hW := Wd.back hB ht hF
    clear hB ht hF hz1 hk1 hvm
    refine lv_aload_n hx hb d_Mod_putLevels_57 rfl (lv_at hl 2 rfl) ?_
    refine lv_aload_n hx hb d_Mod_putLevels_58 rfl (lv_at hl 3 rfl) ?_
    refine lv_aload_n hx hb d_Mod_putLevels_59 rfl (lv_at hl 2 rfl) ?_
    refine w_geti (k := 41) (t := 12) (C := R_Mod) (T := F_Mod) (N := 167) hx hb hT hown hK hW ko_0.1 ko_0.2 (by decide) in_Mod rfl rfl (by decide) rfl fr_Mod_41 w_8_217 d_Mod_putLevels_60 ?_
    refine lv_iload_n hx hb d_Mod_putLevels_63 rfl (lv_at hl 5 rfl) ?_
    have hF := hW.free hS hA
    refine va_callv (va_runV (C := R_Mod) (As := [.ref (ad l1), .int (fI x706 0 41), .int l3]) (rest := []) ⟨hx, hb, hml, hown, hT⟩ (k_Mod_writeRuns l dC dI cI cB cJ cZ ad H.size l1 (fI x706 0 41) l3 x706 fl1 hw) ⟨callB_of 3 hT (gwt_in w_11_186) rfl rfl rfl (hT _ w_1_15) (hT _ w_11_183) (by decide +kernel) ⟨Nat.le_trans (Nat.le_of_ble_eq_true rfl) hRf, Nat.le_trans (Nat.le_of_ble_eq_true rfl) hRl⟩, hT _ w_11_185, hT _ ws_151⟩ ⟨PW.blind, va_recv hK hW.1 (ci := 12) (q0 := 0) rfl (pic_obj ko_0.1 ko_0.2 (by decide)), PW.at _ hW hK hN⟩ rfl rfl hl.1 rfl (lv_room (Nat.le_of_ble_eq_true rfl)) d_Mod_putLevels_64 ⟨hRc, hRs⟩) hS (fun q _ h => hF q h) hF (fun  x707 t H locs ht hvm hw hB hz1 hk1 hS => ?_)
    have hW := Wd.back hB ht hF
    clear hB ht hF hz1 hk1 hvm
    exact hret x707 H locs 67 ls d_Mod_putLevels_67 hw hW hS
  · have hw := hw.2 c701
    refine lv_iinc (v := (l3 + 1)) (lv' := [(3, .int (l3 + 1)), (0, .ref (ad 0)), (1, .ref (ad l1)), (2, .int l2)]) hx hb d_Mod_putLevels_13 hl (k := 3) rfl rfl (by decide) rfl (fun ls hl => ?_)
    refine lv_goto (tgt := 7) hx hb d_Mod_putLevels_16 (by decide) ?_
    exact hrec7 l1 l2 (l3 + 1) x H locs ls fl1 hw hW hS (lv_sub hl [1, 2, 3, 0] rfl)
set_option maxHeartbeats 4000000 in
set_option maxRecDepth 100000 in
theorem tl_Mod_putLevels_7 {p : Program} {l : Launch} {e : Env} {R : Room} {s : State} {m : MethodId} {args : Array Value} {below : List Frame} {meth : Method} {c : Code} {cells slots : Nat} {Q : State → Prop} {dC : Nat → ClassId} {dI : Nat → Nat → Nat} {cI cB cJ cZ : ClassId} {A : Nat → Prop} {ad : Nat → Nat} {post : St → Prop} (hx : p.tables.exec = Jvm.exec) (hb : c.code = b_Mod_putLevels) (hml : c.maxLocals = 6) (hown : s.vm.findClass R_Mod = some m.cls) (hT : ∀ w ∈ TG, w.before args s = true) (hK : va_K (dC, dI) CL (TY cI cB cJ cZ) s) (hN : NW s) (hA : ∀ q : Nat, s.heap.size ≤ q → A q) (hRc : cells ≤ R.cells) (hRs : slots ≤ R.slots) (hRf : 3 ≤ R.frames) (hRl : 75 ≤ R.locals) (hret : ∀ (x : St) (H : Heap) (locs : List Loc) (pc : Nat) (ls : Array Slot), decode b_Mod_putLevels pc = .ok (.return_, 1) → post x → Wd dC dI cI cB cJ cZ ad stM kcM 115 A x H → va_S A s.heap H locs → W p l e R s m args below meth c H locs cells slots Q (F0 m pc ls []))  : ∀ n : Nat, ∀ (l1 : Nat) (l2 : Int32) (l3 : Int32) (x : St) (H : Heap) (locs : List Loc) (ls : Array Slot), (l1 < 115 ∧ kcM l1 = 20) → wl_Mod_putLevels_7 post n l1 l2 l3 x → Wd dC dI cI cB cJ cZ ad stM kcM 115 A x H → va_S A s.heap H locs → lv_has ls 6 [(0, .ref (ad 0)), (1, .ref (ad l1)), (2, .int l2), (3, .int l3)] → W p l e R s m args below meth c H locs cells slots Q (F0 m 7 ls []) := by
  intro n
  induction n with
  | zero => intro l1 l2 l3 x H locs ls fl1 hw; exact hw.elim
  | succ n ih => intro l1 l2 l3 x H locs ls fl1 hw hW hS hl; exact t_Mod_putLevels_7 hx hb hml hown hT hK hN hA hRc hRs hRf hRl hret  ih l1 l2 l3 x H locs ls fl1 hw hW hS hl
set_option maxRecDepth 100000 in
set_option maxHeartbeats 4000000 in
set_option maxRecDepth 100000 in
theorem t_Mod_putLevels_e {p : Program} {l : Launch} {e : Env} {R : Room} {s : State} {m : MethodId} {args : Array Value} {below : List Frame} {meth : Method} {c : Code} {cells slots : Nat} {Q : State → Prop} {dC : Nat → ClassId} {dI : Nat → Nat → Nat} {cI cB cJ cZ : ClassId} {A : Nat → Prop} {ad : Nat → Nat} {post : St → Prop} (hx : p.tables.exec = Jvm.exec) (hb : c.code = b_Mod_putLevels) (hml : c.maxLocals = 6) (hown : s.vm.findClass R_Mod = some m.cls) (hT : ∀ w ∈ TG, w.before args s = true) (hK : va_K (dC, dI) CL (TY cI cB cJ cZ) s) (hN : NW s) (hA : ∀ q : Nat, s.heap.size ≤ q → A q) (hRc : cells ≤ R.cells) (hRs : slots ≤ R.slots) (hRf : 3 ≤ R.frames) (hRl : 75 ≤ R.locals) (hret : ∀ (x : St) (H : Heap) (locs : List Loc) (pc : Nat) (ls : Array Slot), decode b_Mod_putLevels pc = .ok (.return_, 1) → post x → Wd dC dI cI cB cJ cZ ad stM kcM 115 A x H → va_S A s.heap H locs → W p l e R s m args below meth c H locs cells slots Q (F0 m pc ls [])) : ∀ (l1 : Nat) (l2 : Int32) (x : St) (H : Heap) (locs : List Loc) (ls : Array Slot), (l1 < 115 ∧ kcM l1 = 20) → wp_Mod_putLevels post l1 l2 x → Wd dC dI cI cB cJ cZ ad stM kcM 115 A x H → va_S A s.heap H locs → lv_has ls 6 [(0, .ref (ad 0)), (1, .ref (ad l1)), (2, .int l2)] → W p l e R s m args below meth c H locs cells slots Q (F0 m 0 ls []) := by
  intro l1 l2 x H locs ls fl1 hw hW hS hl
  unfold wp_Mod_putLevels at hw
  refine lv_iload_n hx hb d_Mod_putLevels_0 rfl (lv_at hl 2 rfl) ?_
  refine lv_if_ne (tgt := 5) hx hb d_Mod_putLevels_1 (by decide) (fun c708 => ?_) (fun c708 => ?_)
  · have hw := hw.1 c708
    refine lv_iconst (v := 0) hx hb d_Mod_putLevels_5 (by decide) ?_
    refine lv_istore_n (lv' := [(3, .int 0), (0, .ref (ad 0)), (1, .ref (ad l1)), (2, .int l2)]) hx hb d_Mod_putLevels_6 rfl hl (by decide) rfl (fun ls hl => ?_)
    obtain ⟨n, hw⟩ := hw
    exact tl_Mod_putLevels_7 hx hb hml hown hT hK hN hA hRc hRs hRf hRl hret  n l1 l2 0 x H locs ls fl1 hw hW hS (lv_sub hl [1, 2, 3, 0] rfl)
  · have hw := hw.2 c708
    exact hret x H locs 4 ls d_Mod_putLevels_4 hw hW hS
set_option maxHeartbeats 4000000 in
set_option maxRecDepth 100000 in
theorem k_Mod_putLevels (l : Launch) (dC : Nat → ClassId) (dI : Nat → Nat → Nat) (cI cB cJ cZ : ClassId) (ad : Nat → Nat) (sz : Nat) (l1 : Nat) (l2 : Int32) (x : St) (fl1 : l1 < 115 ∧ kcM l1 = 20) {post : St → Prop} (hw : wp_Mod_putLevels post l1 l2 x) : Met l y_Mod_putLevels (wsOf y_Mod_putLevels b_Mod_putLevels 6 (none)) ({ frames := 3, cells := 0, slots := 0, locals := 75 }) (va_Pc [.ref (ad 0), .ref (ad l1), .int l2] (PW dC dI cI cB cJ cZ ad stM kcM 115 sz x)) (va_Qv (fun (y : St) => post y) (fun y t => Wd dC dI cI cB cJ cZ ad stM kcM 115 (va_A (pic ad stM kcM 115 cI cB cJ cZ x) sz) y t.heap) (va_A (pic ad stM kcM 115 cI cB cJ cZ x) sz)) 0 0 (va_A (pic ad stM kcM 115 cI cB cJ cZ x) sz) := by
  refine Met.ofW (cc := b_Mod_putLevels) (maxL := 6) (ret := none) (by decide) rfl ?_
  intro p e s m args below meth c s₁ B hml hv
  obtain ⟨rfl, hsz, hW0, hK, hN⟩ := hv
  have hx := B.exec
  have hb := B.bytes
  have hr := B.returns
  have hts := atoms_spec B.pre
  have hT : ∀ w ∈ TG, w.before _ s = true := fun w h => hts w (List.mem_cons_of_mem _ h)
  have hown : s.vm.findClass R_Mod = some m.cls := findClass_of_methodNamed B.named
  have hlocks := B.notSynchronized
  subst hsz
  have hW : Wd dC dI cI cB cJ cZ ad stM kcM 115 (va_A (pic ad stM kcM 115 cI cB cJ cZ x) s.heap.size) x s.heap := ⟨hW0.1, hW0.2.1.self (sz := s.heap.size), hW0.2.2⟩
  generalize hAe : va_A (pic ad stM kcM 115 cI cB cJ cZ x) s.heap.size = A at hW ⊢
  have hA : ∀ q : Nat, s.heap.size ≤ q → A q := fun q h => by rw [← hAe]; exact Or.inr h
  have hS : va_S A s.heap s.heap [] := va_S.rf
  have hl := lv_entry ([.ref (ad 0), .ref (ad l1), .int l2]) (n := 6) (Nat.le_of_ble_eq_true rfl)
  rw [lg_entry_eq]
  generalize (lg_sl ([.ref (ad 0), .ref (ad l1), .int l2]) ++ List.replicate (6 - (lg_sl ([.ref (ad 0), .ref (ad l1), .int l2])).length) Slot.unset).toArray = ls at hl ⊢
  have hl : lv_has ls 6 [(0, .ref (ad 0)), (1, .ref (ad l1)), (2, .int l2)] := hl
  exact t_Mod_putLevels_e hx hb hml hown hT hK hN hA (Nat.le_refl 0) (Nat.le_refl 0) (Nat.le_refl 3) (Nat.le_refl 75) (fun x H locs pc ls hd hp hW hS => W.vret hx hb hr (fun t ht hM => ⟨⟨x, rfl, hp, Wd.back hW ht.symm (fun _ z => z)⟩, hS.F ht⟩) hS.2.2 hd hlocks)  l1 l2 x _ _ ls fl1 hw hW hS hl
set_option maxRecDepth 100000 in
set_option maxHeartbeats 4000000 in
set_option maxRecDepth 100000 in
theorem t_Mod_compareValues_133 {p : Program} {l : Launch} {e : Env} {R : Room} {s : State} {m : MethodId} {args : Array Value} {below : List Frame} {meth : Method} {c : Code} {cells slots : Nat} {Q : State → Prop} {dC : Nat → ClassId} {dI : Nat → Nat → Nat} {cI cB cJ cZ : ClassId} {A : Nat → Prop} {ad : Nat → Nat} {post : Int32 → St → Prop} (hx : p.tables.exec = Jvm.exec) (hb : c.code = b_Mod_compareValues) (hml : c.maxLocals = 4) (hown : s.vm.findClass R_Mod = some m.cls) (hT : ∀ w ∈ TG, w.before args s = true) (hK : va_K (dC, dI) CL (TY cI cB cJ cZ) s) (hN : NW s) (hA : ∀ q : Nat, s.heap.size ≤ q → A q) (hRc : cells ≤ R.cells) (hRs : slots ≤ R.slots) (hRf : 1 ≤ R.frames) (hRl : 21 ≤ R.locals) (hret : ∀ (r : Int32) (x : St) (H : Heap) (locs : List Loc) (pc : Nat) (ls : Array Slot), decode b_Mod_compareValues pc = .ok (.ireturn, 1) → post r x → Wd dC dI cI cB cJ cZ ad stM kcM 115 A x H → va_S A s.heap H locs → W p l e R s m args below meth c H locs cells slots Q (F0 m pc ls [.int r]))  : ∀ (l1 : Int32) (l2 : Int32) (l3 : Int32) (x : St) (H : Heap) (locs : List Loc) (ls : Array Slot), j_Mod_compareValues_133 post l1 l2 l3 x → Wd dC dI cI cB cJ cZ ad stM kcM 115 A x H → va_S A s.heap H locs → lv_has ls 4 [(0, .ref (ad 0)), (1, .int l1), (2, .int l2), (3, .int l3)] → W p l e R s m args below meth c H locs cells slots Q (F0 m 133 ls []) := by
  intro l1 l2 l3 x H locs ls  hw hW hS hl
  unfold j_Mod_compareValues_133 at hw
  refine lv_aload_n hx hb d_Mod_compareValues_133 rfl (lv_at hl 0 rfl) ?_
  refine lv_iload_n hx hb d_Mod_compareValues_134 rfl (lv_at hl 1 rfl) ?_
  have hF := hW.free hS hA
  refine va_calli (va_runV (C := R_Mod) (As := [.int l1]) (rest := []) ⟨hx, hb, hml, hown, hT⟩ (k_Mod_lengthOf l dC dI cI cB cJ cZ ad H.size l1 x  hw) ⟨callB_of 1 hT (gwt_in w_12_3) rfl rfl rfl (hT _ w_1_15) (hT _ w_12_0) (by decide +kernel) ⟨Nat.le_trans (Nat.le_of_ble_eq_true rfl) hRf, Nat.le_trans (Nat.le_of_ble_eq_true rfl) hRl⟩, hT _ w_12_2, hT _ ws_163⟩ ⟨PW.blind, va_recv hK hW.1 (ci := 12) (q0 := 0) rfl (pic_obj ko_0.1 ko_0.2 (by decide)), PW.at _ hW hK hN⟩ rfl rfl hl.1 rfl (lv_room (Nat.le_of_ble_eq_true rfl)) d_Mod_compareValues_135 ⟨hRc, hRs⟩) hS (fun q _ h => hF q h) hF (fun r710 x709 t H locs ht hvm hw hB hz1 hk1 hS => ?_)
  have hW := Wd.back hB ht hF
  clear hB ht hF hz1 hk1 hvm
  refine lv_aload_n hx hb d_Mod_compareValues_138 rfl (lv_at hl 0 rfl) ?_
  refine lv_iload_n hx hb d_Mod_compareValues_139 rfl (lv_at hl 2 rfl) ?_
  have hF := hW.free hS hA
  refine va_calli (va_runV (C := R_Mod) (As := [.int l2]) (rest := [.int r710]) ⟨hx, hb, hml, hown, hT⟩ (k_Mod_lengthOf l dC dI cI cB cJ cZ ad H.size l2 x709  hw) ⟨callB_of 1 hT (gwt_in w_12_3) rfl rfl rfl (hT _ w_1_15) (hT _ w_12_0) (by decide +kernel) ⟨Nat.le_trans (Nat.le_of_ble_eq_true rfl) hRf, Nat.le_trans (Nat.le_of_ble_eq_true rfl) hRl⟩, hT _ w_12_2, hT _ ws_163⟩ ⟨PW.blind, va_recv hK hW.1 (ci := 12) (q0 := 0) rfl (pic_obj ko_0.1 ko_0.2 (by decide)), PW.at _ hW hK hN⟩ rfl rfl hl.1 rfl (lv_room (Nat.le_of_ble_eq_true rfl)) d_Mod_compareValues_140 ⟨hRc, hRs⟩) hS (fun q _ h => hF q h) hF (fun r712 x711 t H locs ht hvm hw hB hz1 hk1 hS => ?_)
  have hW := Wd.back hB ht hF
  clear hB ht hF hz1 hk1 hvm
  refine lv_isub hx hb d_Mod_compareValues_143 ?_
  exact hret (r710 - r712) x711 H locs 144 ls d_Mod_compareValues_144 hw hW hS
set_option maxRecDepth 100000 in
set_option maxHeartbeats 4000000 in
set_option maxRecDepth 100000 in
theorem t_Mod_compareValues_52 {p : Program} {l : Launch} {e : Env} {R : Room} {s : State} {m : MethodId} {args : Array Value} {below : List Frame} {meth : Method} {c : Code} {cells slots : Nat} {Q : State → Prop} {dC : Nat → ClassId} {dI : Nat → Nat → Nat} {cI cB cJ cZ : ClassId} {A : Nat → Prop} {ad : Nat → Nat} {post : Int32 → St → Prop} {rec52 : Int32 → Int32 → Int32 → St → Prop} (hx : p.tables.exec = Jvm.exec) (hb : c.code = b_Mod_compareValues) (hml : c.maxLocals = 4) (hown : s.vm.findClass R_Mod = some m.cls) (hT : ∀ w ∈ TG, w.before args s = true) (hK : va_K (dC, dI) CL (TY cI cB cJ cZ) s) (hN : NW s) (hA : ∀ q : Nat, s.heap.size ≤ q → A q) (hRc : cells ≤ R.cells) (hRs : slots ≤ R.slots) (hRf : 1 ≤ R.frames) (hRl : 21 ≤ R.locals) (hret : ∀ (r : Int32) (x : St) (H : Heap) (locs : List Loc) (pc : Nat) (ls : Array Slot), decode b_Mod_compareValues pc = .ok (.ireturn, 1) → post r x → Wd dC dI cI cB cJ cZ ad stM kcM 115 A x H → va_S A s.heap H locs → W p l e R s m args below meth c H locs cells slots Q (F0 m pc ls [.int r])) (hrec52 : ∀ (l1 : Int32) (l2 : Int32) (l3 : Int32) (x : St) (H : Heap) (locs : List Loc) (ls : Array Slot), rec52 l1 l2 l3 x → Wd dC dI cI cB cJ cZ ad stM kcM 115 A x H → va_S A s.heap H locs → lv_has ls 4 [(0, .ref (ad 0)), (1, .int l1), (2, .int l2), (3, .int l3)] → W p l e R s m args below meth c H locs cells slots Q (F0 m 52 ls [])) : ∀ (l1 : Int32) (l2 : Int32) (l3 : Int32) (x : St) (H : Heap) (locs : List Loc) (ls : Array Slot), j_Mod_compareValues_52 post rec52 l1 l2 l3 x → Wd dC dI cI cB cJ cZ ad stM kcM 115 A x H → va_S A s.heap H locs → lv_has ls 4 [(0, .ref (ad 0)), (1, .int l1), (2, .int l2), (3, .int l3)] → W p l e R s m args below meth c H locs cells slots Q (F0 m 52 ls []) := by
  intro l1 l2 l3 x H locs ls  hw hW hS hl
  unfold j_Mod_compareValues_52 at hw
  refine lv_iload_n hx hb d_Mod_compareValues_52 rfl (lv_at hl 3 rfl) ?_
  refine lv_aload_n hx hb d_Mod_compareValues_53 rfl (lv_at hl 0 rfl) ?_
  refine lv_iload_n hx hb d_Mod_compareValues_54 rfl (lv_at hl 1 rfl) ?_
  have hF := hW.free hS hA
  refine va_calli (va_runV (C := R_Mod) (As := [.int l1]) (rest := [.int l3]) ⟨hx, hb, hml, hown, hT⟩ (k_Mod_lengthOf l dC dI cI cB cJ cZ ad H.size l1 x  hw) ⟨callB_of 1 hT (gwt_in w_12_3) rfl rfl rfl (hT _ w_1_15) (hT _ w_12_0) (by decide +kernel) ⟨Nat.le_trans (Nat.le_of_ble_eq_true rfl) hRf, Nat.le_trans (Nat.le_of_ble_eq_true rfl) hRl⟩, hT _ w_12_2, hT _ ws_163⟩ ⟨PW.blind, va_recv hK hW.1 (ci := 12) (q0 := 0) rfl (pic_obj ko_0.1 ko_0.2 (by decide)), PW.at _ hW hK hN⟩ rfl rfl hl.1 rfl (lv_room (Nat.le_of_ble_eq_true rfl)) d_Mod_compareValues_55 ⟨hRc, hRs⟩) hS (fun q _ h => hF q h) hF (fun r714 x713 t H locs ht hvm hw hB hz1 hk1 hS => ?_)
  have hW := Wd.back hB ht hF
  clear hB ht hF hz1 hk1 hvm
  refine lv_icmp_ge (tgt := 133) hx hb d_Mod_compareValues_58 (by decide) (fun c715 => ?_) (fun c715 => ?_)
  · have hw := hw.1 c715
    exact t_Mod_compareValues_133 hx hb hml hown hT hK hN hA hRc hRs hRf hRl hret  l1 l2 l3 x713 H locs ls  hw hW hS (lv_sub hl [0, 1, 2, 3] rfl)
  · have hw := hw.2 c715
    refine lv_iload_n hx hb d_Mod_compareValues_61 rfl (lv_at hl 3 rfl) ?_
    refine lv_aload_n hx hb d_Mod_compareValues_62 rfl (lv_at hl 0 rfl) ?_
    refine lv_iload_n hx hb d_Mod_compareValues_63 rfl (lv_at hl 2 rfl) ?_
    have hF := hW.free hS hA
    refine va_calli (va_runV (C := R_Mod) (As := [.int l2]) (rest := [.int l3]) ⟨hx, hb, hml, hown, hT⟩ (k_Mod_lengthOf l dC dI cI cB cJ cZ ad H.size l2 x713  hw) ⟨callB_of 1 hT (gwt_in w_12_3) rfl rfl rfl (hT _ w_1_15) (hT _ w_12_0) (by decide +kernel) ⟨Nat.le_trans (Nat.le_of_ble_eq_true rfl) hRf, Nat.le_trans (Nat.le_of_ble_eq_true rfl) hRl⟩, hT _ w_12_2, hT _ ws_163⟩ ⟨PW.blind, va_recv hK hW.1 (ci := 12) (q0 := 0) rfl (pic_obj ko_0.1 ko_0.2 (by decide)), PW.at _ hW hK hN⟩ rfl rfl hl.1 rfl (lv_room (Nat.le_of_ble_eq_true rfl)) d_Mod_compareValues_64 ⟨hRc, hRs⟩) hS (fun q _ h => hF q h) hF (fun r717 x716 t H locs ht hvm hw hB hz1 hk1 hS => ?_)
    have hW := Wd.back hB ht hF
    clear hB ht hF hz1 hk1 hvm
    refine lv_icmp_ge (tgt := 133) hx hb d_Mod_compareValues_67 (by decide) (fun c718 => ?_) (fun c718 => ?_)
    · have hw := hw.1 c718
      exact t_Mod_compareValues_133 hx hb hml hown hT hK hN hA hRc hRs hRf hRl hret  l1 l2 l3 x716 H locs ls  hw hW hS (lv_sub hl [0, 1, 2, 3] rfl)
    · have hw := hw.2 c718
      refine lv_aload_n hx hb d_Mod_compareValues_70 rfl (lv_at hl 0 rfl) ?_
      refine w_getf (q := 36) (k := 55) (t := 12) (C := R_Mod) (T := F_Mod) (N := 167) hx hb hT hown hK hW ko_0.1 ko_0.2 (by decide) in_Mod rfl rfl (by decide) rfl fr_Mod_55 w_8_231 d_Mod_compareValues_71 rfl ?_
      refine lv_aload_n hx hb d_Mod_compareValues_74 rfl (lv_at hl 0 rfl) ?_
      refine w_getf (q := 33) (k := 52) (t := 12) (C := R_Mod) (T := F_Mod) (N := 167) hx hb hT hown hK hW ko_0.1 ko_0.2 (by decide) in_Mod rfl rfl (by decide) rfl fr_Mod_52 w_8_228 d_Mod_compareValues_75 rfl ?_
      refine lv_iload_n hx hb d_Mod_compareValues_78 rfl (lv_at hl 1 rfl) ?_
      obtain ⟨hi, hw⟩ := hw
      refine w_iald (o := 33) hx hb hK hW ko_33.1 ko_33.2 hi d_Mod_compareValues_79 ?_
      refine lv_iload_n hx hb d_Mod_compareValues_80 rfl (lv_at hl 3 rfl) ?_
      refine lv_iadd hx hb d_Mod_compareValues_81 ?_
      obtain ⟨hi, hw⟩ := hw
      refine w_iald (o := 36) hx hb hK hW ko_36.1 ko_36.2 hi d_Mod_compareValues_82 ?_
      refine lv_aload_n hx hb d_Mod_compareValues_83 rfl (lv_at hl 0 rfl) ?_
      refine w_getf (q := 36) (k := 55) (t := 12) (C := R_Mod) (T := F_Mod) (N := 167) hx hb hT hown hK hW ko_0.1 ko_0.2 (by decide) in_Mod rfl rfl (by decide) rfl fr_Mod_55 w_8_231 d_Mod_compareValues_84 rfl ?_
      refine lv_aload_n hx hb d_Mod_compareValues_87 rfl (lv_at hl 0 rfl) ?_
      refine w_getf (q := 33) (k := 52) (t := 12) (C := R_Mod) (T := F_Mod) (N := 167) hx hb hT hown hK hW ko_0.1 ko_0.2 (by decide) in_Mod rfl rfl (by decide) rfl fr_Mod_52 w_8_228 d_Mod_compareValues_88 rfl ?_
      refine lv_iload_n hx hb d_Mod_compareValues_91 rfl (lv_at hl 2 rfl) ?_
      obtain ⟨hi, hw⟩ := hw
      refine w_iald (o := 33) hx hb hK hW ko_33.1 ko_33.2 hi d_Mod_compareValues_92 ?_
      refine lv_iload_n hx hb d_Mod_compareValues_93 rfl (lv_at hl 3 rfl) ?_
      refine lv_iadd hx hb d_Mod_compareValues_94 ?_
      obtain ⟨hi, hw⟩ := hw
      refine w_iald (o := 36) hx hb hK hW ko_36.1 ko_36.2 hi d_Mod_compareValues_95 ?_
      refine lv_icmp_eq (tgt := 127) hx hb d_Mod_compareValues_96 (by decide) (fun c719 => ?_) (fun c719 => ?_)
      · have hw := hw.1 c719
        refine lv_iinc (v := (l3 + 1)) (lv' := [(3, .int (l3 + 1)), (0, .ref (ad 0)), (1, .int l1), (2, .int l2)]) hx hb d_Mod_compareValues_127 hl (k := 3) rfl rfl (by decide) rfl (fun ls hl => ?_)
        refine lv_goto (tgt := 52) hx hb d_Mod_compareValues_130 (by decide) ?_
        exact hrec52 l1 l2 (l3 + 1) x716 H locs ls  hw hW hS (lv_sub hl [1, 2, 3, 0] rfl)
      · have hw := hw.2 c719
        refine lv_aload_n hx hb d_Mod_compareValues_99 rfl (lv_at hl 0 rfl) ?_
        refine w_getf (q := 36) (k := 55) (t := 12) (C := R_Mod) (T := F_Mod) (N := 167) hx hb hT hown hK hW ko_0.1 ko_0.2 (by decide) in_Mod rfl rfl (by decide) rfl fr_Mod_55 w_8_231 d_Mod_compareValues_100 rfl ?_
        refine lv_aload_n hx hb d_Mod_compareValues_103 rfl (lv_at hl 0 rfl) ?_
        refine w_getf (q := 33) (k := 52) (t := 12) (C := R_Mod) (T := F_Mod) (N := 167) hx hb hT hown hK hW ko_0.1 ko_0.2 (by decide) in_Mod rfl rfl (by decide) rfl fr_Mod_52 w_8_228 d_Mod_compareValues_104 rfl ?_
        refine lv_iload_n hx hb d_Mod_compareValues_107 rfl (lv_at hl 1 rfl) ?_
        obtain ⟨hi, hw⟩ := hw
        refine w_iald (o := 33) hx hb hK hW ko_33.1 ko_33.2 hi d_Mod_compareValues_108 ?_
        refine lv_iload_n hx hb d_Mod_compareValues_109 rfl (lv_at hl 3 rfl) ?_
        refine lv_iadd hx hb d_Mod_compareValues_110 ?_
        obtain ⟨hi, hw⟩ := hw
        refine w_iald (o := 36) hx hb hK hW ko_36.1 ko_36.2 hi d_Mod_compareValues_111 ?_
        refine lv_aload_n hx hb d_Mod_compareValues_112 rfl (lv_at hl 0 rfl) ?_
        refine w_getf (q := 36) (k := 55) (t := 12) (C := R_Mod) (T := F_Mod) (N := 167) hx hb hT hown hK hW ko_0.1 ko_0.2 (by decide) in_Mod rfl rfl (by decide) rfl fr_Mod_55 w_8_231 d_Mod_compareValues_113 rfl ?_
        refine lv_aload_n hx hb d_Mod_compareValues_116 rfl (lv_at hl 0 rfl) ?_
        refine w_getf (q := 33) (k := 52) (t := 12) (C := R_Mod) (T := F_Mod) (N := 167) hx hb hT hown hK hW ko_0.1 ko_0.2 (by decide) in_Mod rfl rfl (by decide) rfl fr_Mod_52 w_8_228 d_Mod_compareValues_117 rfl ?_
        refine lv_iload_n hx hb d_Mod_compareValues_120 rfl (lv_at hl 2 rfl) ?_
        obtain ⟨hi, hw⟩ := hw
        refine w_iald (o := 33) hx hb hK hW ko_33.1 ko_33.2 hi d_Mod_compareValues_121 ?_
        refine lv_iload_n hx hb d_Mod_compareValues_122 rfl (lv_at hl 3 rfl) ?_
        refine lv_iadd hx hb d_Mod_compareValues_123 ?_
        obtain ⟨hi, hw⟩ := hw
        refine w_iald (o := 36) hx hb hK hW ko_36.1 ko_36.2 hi d_Mod_compareValues_124 ?_
        refine lv_isub hx hb d_Mod_compareValues_125 ?_
        exact hret ((rA x716 36 ((rA x716 33 l1) + l3)) - (rA x716 36 ((rA x716 33 l2) + l3))) x716 H locs 126 ls d_Mod_compareValues_126 hw hW hS
set_option maxHeartbeats 4000000 in
set_option maxRecDepth 100000 in
theorem tl_Mod_compareValues_52 {p : Program} {l : Launch} {e : Env} {R : Room} {s : State} {m : MethodId} {args : Array Value} {below : List Frame} {meth : Method} {c : Code} {cells slots : Nat} {Q : State → Prop} {dC : Nat → ClassId} {dI : Nat → Nat → Nat} {cI cB cJ cZ : ClassId} {A : Nat → Prop} {ad : Nat → Nat} {post : Int32 → St → Prop} (hx : p.tables.exec = Jvm.exec) (hb : c.code = b_Mod_compareValues) (hml : c.maxLocals = 4) (hown : s.vm.findClass R_Mod = some m.cls) (hT : ∀ w ∈ TG, w.before args s = true) (hK : va_K (dC, dI) CL (TY cI cB cJ cZ) s) (hN : NW s) (hA : ∀ q : Nat, s.heap.size ≤ q → A q) (hRc : cells ≤ R.cells) (hRs : slots ≤ R.slots) (hRf : 1 ≤ R.frames) (hRl : 21 ≤ R.locals) (hret : ∀ (r : Int32) (x : St) (H : Heap) (locs : List Loc) (pc : Nat) (ls : Array Slot), decode b_Mod_compareValues pc = .ok (.ireturn, 1) → post r x → Wd dC dI cI cB cJ cZ ad stM kcM 115 A x H → va_S A s.heap H locs → W p l e R s m args below meth c H locs cells slots Q (F0 m pc ls [.int r]))  : ∀ n : Nat, ∀ (l1 : Int32) (l2 : Int32) (l3 : Int32) (x : St) (H : Heap) (locs : List Loc) (ls : Array Slot), wl_Mod_compareValues_52 post n l1 l2 l3 x → Wd dC dI cI cB cJ cZ ad stM kcM 115 A x H → va_S A s.heap H locs → lv_has ls 4 [(0, .ref (ad 0)), (1, .int l1), (2, .int l2), (3, .int l3)] → W p l e R s m args below meth c H locs cells slots Q (F0 m 52 ls []) := by
  intro n
  induction n with
  | zero => intro l1 l2 l3 x H locs ls  hw; exact hw.elim
  | succ n ih => intro l1 l2 l3 x H locs ls  hw hW hS hl; exact t_Mod_compareValues_52 hx hb hml hown hT hK hN hA hRc hRs hRf hRl hret  ih l1 l2 l3 x H locs ls  hw hW hS hl
set_option maxRecDepth 100000 in
set_option maxHeartbeats 4000000 in
set_option maxRecDepth 100000 in
theorem t_Mod_compareValues_e {p : Program} {l : Launch} {e : Env} {R : Room} {s : State} {m : MethodId} {args : Array Value} {below : List Frame} {meth : Method} {c : Code} {cells slots : Nat} {Q : State → Prop} {dC : Nat → ClassId} {dI : Nat → Nat → Nat} {cI cB cJ cZ : ClassId} {A : Nat → Prop} {ad : Nat → Nat} {post : Int32 → St → Prop} (hx : p.tables.exec = Jvm.exec) (hb : c.code = b_Mod_compareValues) (hml : c.maxLocals = 4) (hown : s.vm.findClass R_Mod = some m.cls) (hT : ∀ w ∈ TG, w.before args s = true) (hK : va_K (dC, dI) CL (TY cI cB cJ cZ) s) (hN : NW s) (hA : ∀ q : Nat, s.heap.size ≤ q → A q) (hRc : cells ≤ R.cells) (hRs : slots ≤ R.slots) (hRf : 1 ≤ R.frames) (hRl : 21 ≤ R.locals) (hret : ∀ (r : Int32) (x : St) (H : Heap) (locs : List Loc) (pc : Nat) (ls : Array Slot), decode b_Mod_compareValues pc = .ok (.ireturn, 1) → post r x → Wd dC dI cI cB cJ cZ ad stM kcM 115 A x H → va_S A s.heap H locs → W p l e R s m args below meth c H locs cells slots Q (F0 m pc ls [.int r])) : ∀ (l1 : Int32) (l2 : Int32) (x : St) (H : Heap) (locs : List Loc) (ls : Array Slot), wp_Mod_compareValues post l1 l2 x → Wd dC dI cI cB cJ cZ ad stM kcM 115 A x H → va_S A s.heap H locs → lv_has ls 4 [(0, .ref (ad 0)), (1, .int l1), (2, .int l2)] → W p l e R s m args below meth c H locs cells slots Q (F0 m 0 ls []) := by
  intro l1 l2 x H locs ls  hw hW hS hl
  unfold wp_Mod_compareValues at hw
  refine lv_aload_n hx hb d_Mod_compareValues_0 rfl (lv_at hl 0 rfl) ?_
  refine w_geti (k := 38) (t := 12) (C := R_Mod) (T := F_Mod) (N := 167) hx hb hT hown hK hW ko_0.1 ko_0.2 (by decide) in_Mod rfl rfl (by decide) rfl fr_Mod_38 w_8_214 d_Mod_compareValues_1 ?_
  refine lv_iconst (v := 3) hx hb d_Mod_compareValues_4 (by decide) ?_
  refine lv_icmp_eq (tgt := 50) hx hb d_Mod_compareValues_5 (by decide) (fun c720 => ?_) (fun c720 => ?_)
  · have hw := hw.1 c720
    refine lv_iconst (v := 0) hx hb d_Mod_compareValues_50 (by decide) ?_
    refine lv_istore_n (lv' := [(3, .int 0), (0, .ref (ad 0)), (1, .int l1), (2, .int l2)]) hx hb d_Mod_compareValues_51 rfl hl (by decide) rfl (fun ls hl => ?_)
    obtain ⟨n, hw⟩ := hw
    exact tl_Mod_compareValues_52 hx hb hml hown hT hK hN hA hRc hRs hRf hRl hret  n l1 l2 0 x H locs ls  hw hW hS (lv_sub hl [1, 2, 3, 0] rfl)
  · have hw := hw.2 c720
    refine lv_aload_n hx hb d_Mod_compareValues_8 rfl (lv_at hl 0 rfl) ?_
    refine w_getf (q := 30) (k := 49) (t := 12) (C := R_Mod) (T := F_Mod) (N := 167) hx hb hT hown hK hW ko_0.1 ko_0.2 (by decide) in_Mod rfl rfl (by decide) rfl fr_Mod_49 w_8_225 d_Mod_compareValues_9 rfl ?_
    refine lv_iload_n hx hb d_Mod_compareValues_12 rfl (lv_at hl 1 rfl) ?_
    obtain ⟨hi, hw⟩ := hw
    refine w_lald (o := 30) hx hb hK hW ko_30.1 ko_30.2 hi d_Mod_compareValues_13 ?_
    refine lv_aload_n hx hb d_Mod_compareValues_14 rfl (lv_at hl 0 rfl) ?_
    refine w_getf (q := 30) (k := 49) (t := 12) (C := R_Mod) (T := F_Mod) (N := 167) hx hb hT hown hK hW ko_0.1 ko_0.2 (by decide) in_Mod rfl rfl (by decide) rfl fr_Mod_49 w_8_225 d_Mod_compareValues_15 rfl ?_
    refine lv_iload_n hx hb d_Mod_compareValues_18 rfl (lv_at hl 2 rfl) ?_
    obtain ⟨hi, hw⟩ := hw
    refine w_lald (o := 30) hx hb hK hW ko_30.1 ko_30.2 hi d_Mod_compareValues_19 ?_
    refine W.lcmp hx hb d_Mod_compareValues_20 ?_
    refine lv_if_ge (tgt := 28) hx hb d_Mod_compareValues_21 (by decide) (fun c721 => ?_) (fun c721 => ?_)
    · have hw := hw.1 c721
      refine lv_aload_n hx hb d_Mod_compareValues_28 rfl (lv_at hl 0 rfl) ?_
      refine w_getf (q := 30) (k := 49) (t := 12) (C := R_Mod) (T := F_Mod) (N := 167) hx hb hT hown hK hW ko_0.1 ko_0.2 (by decide) in_Mod rfl rfl (by decide) rfl fr_Mod_49 w_8_225 d_Mod_compareValues_29 rfl ?_
      refine lv_iload_n hx hb d_Mod_compareValues_32 rfl (lv_at hl 1 rfl) ?_
      obtain ⟨hi, hw⟩ := hw
      refine w_lald (o := 30) hx hb hK hW ko_30.1 ko_30.2 hi d_Mod_compareValues_33 ?_
      refine lv_aload_n hx hb d_Mod_compareValues_34 rfl (lv_at hl 0 rfl) ?_
      refine w_getf (q := 30) (k := 49) (t := 12) (C := R_Mod) (T := F_Mod) (N := 167) hx hb hT hown hK hW ko_0.1 ko_0.2 (by decide) in_Mod rfl rfl (by decide) rfl fr_Mod_49 w_8_225 d_Mod_compareValues_35 rfl ?_
      refine lv_iload_n hx hb d_Mod_compareValues_38 rfl (lv_at hl 2 rfl) ?_
      obtain ⟨hi, hw⟩ := hw
      refine w_lald (o := 30) hx hb hK hW ko_30.1 ko_30.2 hi d_Mod_compareValues_39 ?_
      refine W.lcmp hx hb d_Mod_compareValues_40 ?_
      refine lv_if_le (tgt := 48) hx hb d_Mod_compareValues_41 (by decide) (fun c722 => ?_) (fun c722 => ?_)
      · have hw := hw.1 c722
        refine lv_iconst (v := 0) hx hb d_Mod_compareValues_48 (by decide) ?_
        exact hret 0 x H locs 49 ls d_Mod_compareValues_49 hw hW hS
      · have hw := hw.2 c722
        refine lv_iconst (v := 1) hx hb d_Mod_compareValues_44 (by decide) ?_
        refine lv_goto (tgt := 49) hx hb d_Mod_compareValues_45 (by decide) ?_
        exact hret 1 x H locs 49 ls d_Mod_compareValues_49 hw hW hS
    · have hw := hw.2 c721
      refine lv_iconst (v := (-1)) hx hb d_Mod_compareValues_24 (by decide) ?_
      refine lv_goto (tgt := 49) hx hb d_Mod_compareValues_25 (by decide) ?_
      exact hret (-1) x H locs 49 ls d_Mod_compareValues_49 hw hW hS
set_option maxHeartbeats 4000000 in
set_option maxRecDepth 100000 in
theorem k_Mod_compareValues (l : Launch) (dC : Nat → ClassId) (dI : Nat → Nat → Nat) (cI cB cJ cZ : ClassId) (ad : Nat → Nat) (sz : Nat) (l1 : Int32) (l2 : Int32) (x : St) {post : Int32 → St → Prop} (hw : wp_Mod_compareValues post l1 l2 x) : Met l y_Mod_compareValues (wsOf y_Mod_compareValues b_Mod_compareValues 4 (some (.int))) ({ frames := 1, cells := 0, slots := 0, locals := 21 }) (va_Pc [.ref (ad 0), .int l1, .int l2] (PW dC dI cI cB cJ cZ ad stM kcM 115 sz x)) (va_Qi (fun (r : Int32) (y : St) => post r y) (fun y t => Wd dC dI cI cB cJ cZ ad stM kcM 115 (va_A (pic ad stM kcM 115 cI cB cJ cZ x) sz) y t.heap) (va_A (pic ad stM kcM 115 cI cB cJ cZ x) sz)) 0 0 (va_A (pic ad stM kcM 115 cI cB cJ cZ x) sz) := by
  refine Met.ofW (cc := b_Mod_compareValues) (maxL := 4) (ret := some (.int)) (by decide) rfl ?_
  intro p e s m args below meth c s₁ B hml hv
  obtain ⟨rfl, hsz, hW0, hK, hN⟩ := hv
  have hx := B.exec
  have hb := B.bytes
  have hr := B.returns
  have hts := atoms_spec B.pre
  have hT : ∀ w ∈ TG, w.before _ s = true := fun w h => hts w (List.mem_cons_of_mem _ h)
  have hown : s.vm.findClass R_Mod = some m.cls := findClass_of_methodNamed B.named
  have hlocks := B.notSynchronized
  subst hsz
  have hW : Wd dC dI cI cB cJ cZ ad stM kcM 115 (va_A (pic ad stM kcM 115 cI cB cJ cZ x) s.heap.size) x s.heap := ⟨hW0.1, hW0.2.1.self (sz := s.heap.size), hW0.2.2⟩
  generalize hAe : va_A (pic ad stM kcM 115 cI cB cJ cZ x) s.heap.size = A at hW ⊢
  have hA : ∀ q : Nat, s.heap.size ≤ q → A q := fun q h => by rw [← hAe]; exact Or.inr h
  have hS : va_S A s.heap s.heap [] := va_S.rf
  have hl := lv_entry ([.ref (ad 0), .int l1, .int l2]) (n := 4) (Nat.le_of_ble_eq_true rfl)
  rw [lg_entry_eq]
  generalize (lg_sl ([.ref (ad 0), .int l1, .int l2]) ++ List.replicate (4 - (lg_sl ([.ref (ad 0), .int l1, .int l2])).length) Slot.unset).toArray = ls at hl ⊢
  have hl : lv_has ls 4 [(0, .ref (ad 0)), (1, .int l1), (2, .int l2)] := hl
  exact t_Mod_compareValues_e hx hb hml hown hT hK hN hA (Nat.le_refl 0) (Nat.le_refl 0) (Nat.le_refl 1) (Nat.le_refl 21) (fun r x H locs pc ls hd hp hW hS => W.iret (v := r) hx hb hr (fun t ht hM => ⟨⟨r, x, rfl, hp, Wd.back hW ht.symm (fun _ z => z)⟩, hS.F ht⟩) hS.2.2 hd hlocks)  l1 l2 x _ _ ls  hw hW hS hl
end
