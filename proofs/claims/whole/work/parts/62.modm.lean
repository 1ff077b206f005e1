theorem w_12_215 : (Jvm.Cond.methodLink "StripedVaultModel" (691 : Nat) ({ cls := "StripedVaultModel", name := "readCode", desc := "(I)V" } : Jvm.MethodName)) ∈ TG := tw_12 215 (by decide +kernel) (by decide +kernel)
theorem w_12_217 : (Jvm.Cond.instanceMethod ({ cls := "StripedVaultModel", name := "readCode", desc := "(I)V" } : Jvm.MethodName)) ∈ TG := tw_12 217 (by decide +kernel) (by decide +kernel)
theorem w_12_218 : (Jvm.Cond.code ({ cls := "StripedVaultModel", name := "readCode", desc := "(I)V" } : Jvm.MethodName) prog_14_method_64_code (4 : Nat) (Option.none : Option Jvm.ClassFile.FieldType)) ∈ TG := tw_12 218 (by decide +kernel) (by decide +kernel)
theorem w_12_219 : (Jvm.Cond.methodLink "StripedVaultModel" (611 : Nat) ({ cls := "StripedVaultModel", name := "readLongs", desc := "(II)V" } : Jvm.MethodName)) ∈ TG := tw_12 219 (by decide +kernel) (by decide +kernel)
theorem w_12_221 : (Jvm.Cond.instanceMethod ({ cls := "StripedVaultModel", name := "readLongs", desc := "(II)V" } : Jvm.MethodName)) ∈ TG := tw_12 221 (by decide +kernel) (by decide +kernel)
theorem w_12_222 : (Jvm.Cond.code ({ cls := "StripedVaultModel", name := "readLongs", desc := "(II)V" } : Jvm.MethodName) prog_14_method_65_code (6 : Nat) (Option.none : Option Jvm.ClassFile.FieldType)) ∈ TG := tw_12 222 (by decide +kernel) (by decide +kernel)
theorem w_12_223 : (Jvm.Cond.constantLong "StripedVaultModel" (614 : Nat) (2000 : Int64)) ∈ TG := tw_12 223 (by decide +kernel) (by decide +kernel)
theorem w_12_224 : (Jvm.Cond.methodLink "StripedVaultModel" (619 : Nat) ({ cls := "StripedVaultModel", name := "readBlock", desc := "(III)V" } : Jvm.MethodName)) ∈ TG := tw_12 224 (by decide +kernel) (by decide +kernel)
theorem w_12_226 : (Jvm.Cond.instanceMethod ({ cls := "StripedVaultModel", name := "readBlock", desc := "(III)V" } : Jvm.MethodName)) ∈ TG := tw_12 226 (by decide +kernel) (by decide +kernel)
theorem w_12_227 : (Jvm.Cond.code ({ cls := "StripedVaultModel", name := "readBlock", desc := "(III)V" } : Jvm.MethodName) prog_14_method_66_code (13 : Nat) (Option.none : Option Jvm.ClassFile.FieldType)) ∈ TG := tw_12 227 (by decide +kernel) (by decide +kernel)
theorem w_12_232 : (Jvm.Cond.methodLink "StripedVaultModel" (694 : Nat) ({ cls := "StripedVaultModel", name := "toldLength", desc := "(J)I" } : Jvm.MethodName)) ∈ TG := tw_12 232 (by decide +kernel) (by decide +kernel)
theorem w_12_233 : (Jvm.Cond.static ({ cls := "StripedVaultModel", name := "toldLength", desc := "(J)I" } : Jvm.MethodName)) ∈ TG := tw_12 233 (by decide +kernel) (by decide +kernel)
theorem w_12_234 : (Jvm.Cond.code ({ cls := "StripedVaultModel", name := "toldLength", desc := "(J)I" } : Jvm.MethodName) prog_14_method_90_code (2 : Nat) (Option.some Jvm.ClassFile.FieldType.int)) ∈ TG := tw_12 234 (by decide +kernel) (by decide +kernel)
theorem ws_208 : Cond.selects R_Mod y_Mod_readCode y_Mod_readCode ∈ TG := tw_s 208 (by decide +kernel) (by decide +kernel)
theorem ws_209 : Cond.selects R_Mod y_Mod_readLongs y_Mod_readLongs ∈ TG := tw_s 209 (by decide +kernel) (by decide +kernel)
theorem ws_210 : Cond.selects R_Mod y_Mod_readBlock y_Mod_readBlock ∈ TG := tw_s 210 (by decide +kernel) (by decide +kernel)
theorem d_Mod_readLongs_150 : decode b_Mod_readLongs 150 = .ok (.aload_n 0, 1) := by decide +kernel
theorem d_Mod_readLongs_151 : decode b_Mod_readLongs 151 = .ok (.getfield 550, 3) := by decide +kernel
theorem d_Mod_readLongs_154 : decode b_Mod_readLongs 154 = .ok (.ifCond .ne 16, 3) := by decide +kernel
theorem d_Mod_readLongs_170 : decode b_Mod_readLongs 170 = .ok (.return_, 1) := by decide +kernel
theorem d_Mod_readLongs_157 : decode b_Mod_readLongs 157 = .ok (.aload_n 0, 1) := by decide +kernel
theorem d_Mod_readLongs_158 : decode b_Mod_readLongs 158 = .ok (.getfield 591, 3) := by decide +kernel
theorem d_Mod_readLongs_161 : decode b_Mod_readLongs 161 = .ok (.iload_n 1, 1) := by decide +kernel
theorem d_Mod_readLongs_162 : decode b_Mod_readLongs 162 = .ok (.if_icmp .eq 8, 3) := by decide +kernel
theorem d_Mod_readLongs_165 : decode b_Mod_readLongs 165 = .ok (.aload_n 0, 1) := by decide +kernel
theorem d_Mod_readLongs_166 : decode b_Mod_readLongs 166 = .ok (.iconst 4, 1) := by decide +kernel
theorem d_Mod_readLongs_167 : decode b_Mod_readLongs 167 = .ok (.putfield 550, 3) := by decide +kernel
theorem d_Mod_readLongs_129 : decode b_Mod_readLongs 129 = .ok (.aload_n 0, 1) := by decide +kernel
theorem d_Mod_readLongs_130 : decode b_Mod_readLongs 130 = .ok (.getfield 550, 3) := by decide +kernel
theorem d_Mod_readLongs_133 : decode b_Mod_readLongs 133 = .ok (.ifCond .ne 17, 3) := by decide +kernel
theorem d_Mod_readLongs_136 : decode b_Mod_readLongs 136 = .ok (.aload_n 0, 1) := by decide +kernel
theorem d_Mod_readLongs_137 : decode b_Mod_readLongs 137 = .ok (.getfield 553, 3) := by decide +kernel
theorem d_Mod_readLongs_140 : decode b_Mod_readLongs 140 = .ok (.iload_n 2, 1) := by decide +kernel
theorem d_Mod_readLongs_141 : decode b_Mod_readLongs 141 = .ok (.if_icmp .ge 9, 3) := by decide +kernel
theorem d_Mod_readLongs_144 : decode b_Mod_readLongs 144 = .ok (.aload_n 0, 1) := by decide +kernel
theorem d_Mod_readLongs_145 : decode b_Mod_readLongs 145 = .ok (.bipush 6, 2) := by decide +kernel
theorem d_Mod_readLongs_147 : decode b_Mod_readLongs 147 = .ok (.putfield 550, 3) := by decide +kernel
theorem d_Mod_readLongs_119 : decode b_Mod_readLongs 119 = .ok (.iload_n 2, 1) := by decide +kernel
theorem d_Mod_readLongs_120 : decode b_Mod_readLongs 120 = .ok (.invokevirtual 619, 3) := by decide +kernel
theorem d_Mod_readLongs_123 : decode b_Mod_readLongs 123 = .ok (.iinc 5 64, 3) := by decide +kernel
theorem d_Mod_readLongs_126 : decode b_Mod_readLongs 126 = .ok (.goto (-56), 3) := by decide +kernel
theorem d_Mod_readLongs_70 : decode b_Mod_readLongs 70 = .ok (.iload 5, 2) := by decide +kernel
theorem d_Mod_readLongs_72 : decode b_Mod_readLongs 72 = .ok (.aload_n 0, 1) := by decide +kernel
theorem d_Mod_readLongs_73 : decode b_Mod_readLongs 73 = .ok (.getfield 591, 3) := by decide +kernel
theorem d_Mod_readLongs_76 : decode b_Mod_readLongs 76 = .ok (.iconst 1, 1) := by decide +kernel
theorem d_Mod_readLongs_77 : decode b_Mod_readLongs 77 = .ok (.isub, 1) := by decide +kernel
theorem d_Mod_readLongs_78 : decode b_Mod_readLongs 78 = .ok (.if_icmp .ge 51, 3) := by decide +kernel
theorem d_Mod_readLongs_81 : decode b_Mod_readLongs 81 = .ok (.aload_n 0, 1) := by decide +kernel
theorem d_Mod_readLongs_82 : decode b_Mod_readLongs 82 = .ok (.getfield 550, 3) := by decide +kernel
theorem d_Mod_readLongs_85 : decode b_Mod_readLongs 85 = .ok (.ifCond .ne 44, 3) := by decide +kernel
theorem d_Mod_readLongs_88 : decode b_Mod_readLongs 88 = .ok (.aload_n 0, 1) := by decide +kernel
theorem d_Mod_readLongs_89 : decode b_Mod_readLongs 89 = .ok (.iload 5, 2) := by decide +kernel
theorem d_Mod_readLongs_91 : decode b_Mod_readLongs 91 = .ok (.iload 5, 2) := by decide +kernel
theorem d_Mod_readLongs_93 : decode b_Mod_readLongs 93 = .ok (.bipush 64, 2) := by decide +kernel
theorem d_Mod_readLongs_95 : decode b_Mod_readLongs 95 = .ok (.iadd, 1) := by decide +kernel
theorem d_Mod_readLongs_96 : decode b_Mod_readLongs 96 = .ok (.aload_n 0, 1) := by decide +kernel
theorem d_Mod_readLongs_97 : decode b_Mod_readLongs 97 = .ok (.getfield 591, 3) := by decide +kernel
theorem d_Mod_readLongs_100 : decode b_Mod_readLongs 100 = .ok (.iconst 1, 1) := by decide +kernel
theorem d_Mod_readLongs_101 : decode b_Mod_readLongs 101 = .ok (.isub, 1) := by decide +kernel
theorem d_Mod_readLongs_102 : decode b_Mod_readLongs 102 = .ok (.if_icmp .ge 11, 3) := by decide +kernel
theorem d_Mod_readLongs_113 : decode b_Mod_readLongs 113 = .ok (.aload_n 0, 1) := by decide +kernel
theorem d_Mod_readLongs_114 : decode b_Mod_readLongs 114 = .ok (.getfield 591, 3) := by decide +kernel
theorem d_Mod_readLongs_117 : decode b_Mod_readLongs 117 = .ok (.iconst 1, 1) := by decide +kernel
theorem d_Mod_readLongs_118 : decode b_Mod_readLongs 118 = .ok (.isub, 1) := by decide +kernel
theorem d_Mod_readLongs_105 : decode b_Mod_readLongs 105 = .ok (.iload 5, 2) := by decide +kernel
theorem d_Mod_readLongs_107 : decode b_Mod_readLongs 107 = .ok (.bipush 64, 2) := by decide +kernel
theorem d_Mod_readLongs_109 : decode b_Mod_readLongs 109 = .ok (.iadd, 1) := by decide +kernel
theorem d_Mod_readLongs_110 : decode b_Mod_readLongs 110 = .ok (.goto 9, 3) := by decide +kernel
theorem d_Mod_readLongs_67 : decode b_Mod_readLongs 67 = .ok (.iconst 0, 1) := by decide +kernel
theorem d_Mod_readLongs_68 : decode b_Mod_readLongs 68 = .ok (.istore 5, 2) := by decide +kernel
theorem d_Mod_readLongs_32 : decode b_Mod_readLongs 32 = .ok (.aload_n 0, 1) := by decide +kernel
theorem d_Mod_readLongs_33 : decode b_Mod_readLongs 33 = .ok (.getfield 550, 3) := by decide +kernel
theorem d_Mod_readLongs_36 : decode b_Mod_readLongs 36 = .ok (.ifCond .eq 4, 3) := by decide +kernel
theorem d_Mod_readLongs_40 : decode b_Mod_readLongs 40 = .ok (.aload_n 0, 1) := by decide +kernel
theorem d_Mod_readLongs_41 : decode b_Mod_readLongs 41 = .ok (.lload_n 3, 1) := by decide +kernel
theorem d_Mod_readLongs_42 : decode b_Mod_readLongs 42 = .ok (.l2i, 1) := by decide +kernel
theorem d_Mod_readLongs_43 : decode b_Mod_readLongs 43 = .ok (.putfield 591, 3) := by decide +kernel
theorem d_Mod_readLongs_46 : decode b_Mod_readLongs 46 = .ok (.aload_n 0, 1) := by decide +kernel
theorem d_Mod_readLongs_47 : decode b_Mod_readLongs 47 = .ok (.getfield 591, 3) := by decide +kernel
theorem d_Mod_readLongs_50 : decode b_Mod_readLongs 50 = .ok (.ifCond .le 17, 3) := by decide +kernel
theorem d_Mod_readLongs_53 : decode b_Mod_readLongs 53 = .ok (.aload_n 0, 1) := by decide +kernel
theorem d_Mod_readLongs_54 : decode b_Mod_readLongs 54 = .ok (.getfield 139, 3) := by decide +kernel
theorem d_Mod_readLongs_57 : decode b_Mod_readLongs 57 = .ok (.iconst 0, 1) := by decide +kernel
theorem d_Mod_readLongs_58 : decode b_Mod_readLongs 58 = .ok (.aload_n 0, 1) := by decide +kernel
theorem d_Mod_readLongs_59 : decode b_Mod_readLongs 59 = .ok (.iload_n 2, 1) := by decide +kernel
theorem d_Mod_readLongs_60 : decode b_Mod_readLongs 60 = .ok (.invokevirtual 571, 3) := by decide +kernel
theorem d_Mod_readLongs_63 : decode b_Mod_readLongs 63 = .ok (.invokestatic 616, 3) := by decide +kernel
theorem d_Mod_readLongs_66 : decode b_Mod_readLongs 66 = .ok (.lastore, 1) := by decide +kernel
theorem d_Mod_readLongs_39 : decode b_Mod_readLongs 39 = .ok (.return_, 1) := by decide +kernel
theorem d_Mod_readLongs_27 : decode b_Mod_readLongs 27 = .ok (.aload_n 0, 1) := by decide +kernel
theorem d_Mod_readLongs_28 : decode b_Mod_readLongs 28 = .ok (.iconst 4, 1) := by decide +kernel
theorem d_Mod_readLongs_29 : decode b_Mod_readLongs 29 = .ok (.putfield 550, 3) := by decide +kernel
theorem d_Mod_readLongs_0 : decode b_Mod_readLongs 0 = .ok (.aload_n 0, 1) := by decide +kernel
theorem d_Mod_readLongs_1 : decode b_Mod_readLongs 1 = .ok (.iload_n 2, 1) := by decide +kernel
theorem d_Mod_readLongs_2 : decode b_Mod_readLongs 2 = .ok (.invokevirtual 571, 3) := by decide +kernel
theorem d_Mod_readLongs_5 : decode b_Mod_readLongs 5 = .ok (.lstore_n 3, 1) := by decide +kernel
theorem d_Mod_readLongs_6 : decode b_Mod_readLongs 6 = .ok (.aload_n 0, 1) := by decide +kernel
theorem d_Mod_readLongs_7 : decode b_Mod_readLongs 7 = .ok (.getfield 550, 3) := by decide +kernel
theorem d_Mod_readLongs_10 : decode b_Mod_readLongs 10 = .ok (.ifCond .ne 22, 3) := by decide +kernel
theorem d_Mod_readLongs_13 : decode b_Mod_readLongs 13 = .ok (.lload_n 3, 1) := by decide +kernel
theorem d_Mod_readLongs_14 : decode b_Mod_readLongs 14 = .ok (.lconst 0, 1) := by decide +kernel
theorem d_Mod_readLongs_15 : decode b_Mod_readLongs 15 = .ok (.lcmp, 1) := by decide +kernel
theorem d_Mod_readLongs_16 : decode b_Mod_readLongs 16 = .ok (.ifCond .lt 11, 3) := by decide +kernel
theorem d_Mod_readLongs_19 : decode b_Mod_readLongs 19 = .ok (.lload_n 3, 1) := by decide +kernel
theorem d_Mod_readLongs_20 : decode b_Mod_readLongs 20 = .ok (.ldc2_w 614, 3) := by decide +kernel
theorem d_Mod_readLongs_23 : decode b_Mod_readLongs 23 = .ok (.lcmp, 1) := by decide +kernel
theorem d_Mod_readLongs_24 : decode b_Mod_readLongs 24 = .ok (.ifCond .le 8, 3) := by decide +kernel
theorem d_Mod_readCode_42 : decode b_Mod_readCode 42 = .ok (.aload_n 0, 1) := by decide +kernel
theorem d_Mod_readCode_43 : decode b_Mod_readCode 43 = .ok (.getfield 550, 3) := by decide +kernel
theorem d_Mod_readCode_46 : decode b_Mod_readCode 46 = .ok (.ifCond .ne 15, 3) := by decide +kernel
theorem d_Mod_readCode_61 : decode b_Mod_readCode 61 = .ok (.return_, 1) := by decide +kernel
theorem d_Mod_readCode_49 : decode b_Mod_readCode 49 = .ok (.aload_n 0, 1) := by decide +kernel
theorem d_Mod_readCode_50 : decode b_Mod_readCode 50 = .ok (.iload_n 1, 1) := by decide +kernel
theorem d_Mod_readCode_51 : decode b_Mod_readCode 51 = .ok (.aload_n 0, 1) := by decide +kernel
theorem d_Mod_readCode_52 : decode b_Mod_readCode 52 = .ok (.getfield 553, 3) := by decide +kernel
theorem d_Mod_readCode_55 : decode b_Mod_readCode 55 = .ok (.lload_n 2, 1) := by decide +kernel
theorem d_Mod_readCode_56 : decode b_Mod_readCode 56 = .ok (.l2i, 1) := by decide +kernel
theorem d_Mod_readCode_57 : decode b_Mod_readCode 57 = .ok (.iadd, 1) := by decide +kernel
theorem d_Mod_readCode_58 : decode b_Mod_readCode 58 = .ok (.invokevirtual 611, 3) := by decide +kernel
theorem d_Mod_readCode_37 : decode b_Mod_readCode 37 = .ok (.aload_n 0, 1) := by decide +kernel
theorem d_Mod_readCode_38 : decode b_Mod_readCode 38 = .ok (.iconst 1, 1) := by decide +kernel
theorem d_Mod_readCode_39 : decode b_Mod_readCode 39 = .ok (.putfield 550, 3) := by decide +kernel
theorem d_Mod_readCode_0 : decode b_Mod_readCode 0 = .ok (.aload_n 0, 1) := by decide +kernel
theorem d_Mod_readCode_1 : decode b_Mod_readCode 1 = .ok (.aload_n 0, 1) := by decide +kernel
theorem d_Mod_readCode_2 : decode b_Mod_readCode 2 = .ok (.getfield 608, 3) := by decide +kernel
theorem d_Mod_readCode_5 : decode b_Mod_readCode 5 = .ok (.invokevirtual 571, 3) := by decide +kernel
theorem d_Mod_readCode_8 : decode b_Mod_readCode 8 = .ok (.lstore_n 2, 1) := by decide +kernel
theorem d_Mod_readCode_9 : decode b_Mod_readCode 9 = .ok (.aload_n 0, 1) := by decide +kernel
theorem d_Mod_readCode_10 : decode b_Mod_readCode 10 = .ok (.getfield 550, 3) := by decide +kernel
theorem d_Mod_readCode_13 : decode b_Mod_readCode 13 = .ok (.ifCond .ne 29, 3) := by decide +kernel
theorem d_Mod_readCode_16 : decode b_Mod_readCode 16 = .ok (.lload_n 2, 1) := by decide +kernel
theorem d_Mod_readCode_17 : decode b_Mod_readCode 17 = .ok (.lconst 0, 1) := by decide +kernel
theorem d_Mod_readCode_18 : decode b_Mod_readCode 18 = .ok (.lcmp, 1) := by decide +kernel
theorem d_Mod_readCode_19 : decode b_Mod_readCode 19 = .ok (.ifCond .lt 18, 3) := by decide +kernel
theorem d_Mod_readCode_22 : decode b_Mod_readCode 22 = .ok (.lload_n 2, 1) := by decide +kernel
theorem d_Mod_readCode_23 : decode b_Mod_readCode 23 = .ok (.aload_n 0, 1) := by decide +kernel
theorem d_Mod_readCode_24 : decode b_Mod_readCode 24 = .ok (.getfield 608, 3) := by decide +kernel
theorem d_Mod_readCode_27 : decode b_Mod_readCode 27 = .ok (.aload_n 0, 1) := by decide +kernel
theorem d_Mod_readCode_28 : decode b_Mod_readCode 28 = .ok (.getfield 553, 3) := by decide +kernel
theorem d_Mod_readCode_31 : decode b_Mod_readCode 31 = .ok (.isub, 1) := by decide +kernel
theorem d_Mod_readCode_32 : decode b_Mod_readCode 32 = .ok (.i2l, 1) := by decide +kernel
theorem d_Mod_readCode_33 : decode b_Mod_readCode 33 = .ok (.lcmp, 1) := by decide +kernel
theorem d_Mod_readCode_34 : decode b_Mod_readCode 34 = .ok (.ifCond .le 8, 3) := by decide +kernel
theorem d_Mod_readLengths_57 : decode b_Mod_readLengths 57 = .ok (.iload_n 2, 1) := by decide +kernel
theorem d_Mod_readLengths_58 : decode b_Mod_readLengths 58 = .ok (.iload_n 1, 1) := by decide +kernel
theorem d_Mod_readLengths_59 : decode b_Mod_readLengths 59 = .ok (.if_icmp .ge 28, 3) := by decide +kernel
theorem d_Mod_readLengths_87 : decode b_Mod_readLengths 87 = .ok (.return_, 1) := by decide +kernel
theorem d_Mod_readLengths_62 : decode b_Mod_readLengths 62 = .ok (.aload_n 0, 1) := by decide +kernel
theorem d_Mod_readLengths_63 : decode b_Mod_readLengths 63 = .ok (.getfield 550, 3) := by decide +kernel
theorem d_Mod_readLengths_66 : decode b_Mod_readLengths 66 = .ok (.ifCond .ne 21, 3) := by decide +kernel
theorem d_Mod_readLengths_69 : decode b_Mod_readLengths 69 = .ok (.aload_n 0, 1) := by decide +kernel
theorem d_Mod_readLengths_70 : decode b_Mod_readLengths 70 = .ok (.aload_n 0, 1) := by decide +kernel
theorem d_Mod_readLengths_71 : decode b_Mod_readLengths 71 = .ok (.getfield 139, 3) := by decide +kernel
theorem d_Mod_readLengths_74 : decode b_Mod_readLengths 74 = .ok (.iload_n 2, 1) := by decide +kernel
theorem d_Mod_readLengths_75 : decode b_Mod_readLengths 75 = .ok (.laload, 1) := by decide +kernel
theorem d_Mod_readLengths_76 : decode b_Mod_readLengths 76 = .ok (.l2i, 1) := by decide +kernel
theorem d_Mod_readLengths_77 : decode b_Mod_readLengths 77 = .ok (.iconst 0, 1) := by decide +kernel
theorem d_Mod_readLengths_78 : decode b_Mod_readLengths 78 = .ok (.invokevirtual 688, 3) := by decide +kernel
theorem d_Mod_readLengths_81 : decode b_Mod_readLengths 81 = .ok (.iinc 2 1, 3) := by decide +kernel
theorem d_Mod_readLengths_84 : decode b_Mod_readLengths 84 = .ok (.goto (-27), 3) := by decide +kernel
theorem d_Mod_readLengths_55 : decode b_Mod_readLengths 55 = .ok (.iconst 0, 1) := by decide +kernel
theorem d_Mod_readLengths_56 : decode b_Mod_readLengths 56 = .ok (.istore_n 2, 1) := by decide +kernel
theorem d_Mod_readLengths_49 : decode b_Mod_readLengths 49 = .ok (.iinc 2 1, 3) := by decide +kernel
theorem d_Mod_readLengths_52 : decode b_Mod_readLengths 52 = .ok (.goto (-45), 3) := by decide +kernel
theorem d_Mod_readLengths_43 : decode b_Mod_readLengths 43 = .ok (.aload_n 0, 1) := by decide +kernel
theorem d_Mod_readLengths_44 : decode b_Mod_readLengths 44 = .ok (.bipush 7, 2) := by decide +kernel
theorem d_Mod_readLengths_46 : decode b_Mod_readLengths 46 = .ok (.putfield 550, 3) := by decide +kernel
theorem d_Mod_readLengths_7 : decode b_Mod_readLengths 7 = .ok (.iload_n 2, 1) := by decide +kernel
theorem d_Mod_readLengths_8 : decode b_Mod_readLengths 8 = .ok (.iload_n 1, 1) := by decide +kernel
theorem d_Mod_readLengths_9 : decode b_Mod_readLengths 9 = .ok (.if_icmp .ge 46, 3) := by decide +kernel
theorem d_Mod_readLengths_12 : decode b_Mod_readLengths 12 = .ok (.aload_n 0, 1) := by decide +kernel
theorem d_Mod_readLengths_13 : decode b_Mod_readLengths 13 = .ok (.getfield 550, 3) := by decide +kernel
theorem d_Mod_readLengths_16 : decode b_Mod_readLengths 16 = .ok (.ifCond .ne 39, 3) := by decide +kernel
theorem d_Mod_readLengths_19 : decode b_Mod_readLengths 19 = .ok (.aload_n 0, 1) := by decide +kernel
theorem d_Mod_readLengths_20 : decode b_Mod_readLengths 20 = .ok (.getfield 139, 3) := by decide +kernel
theorem d_Mod_readLengths_23 : decode b_Mod_readLengths 23 = .ok (.iload_n 2, 1) := by decide +kernel
theorem d_Mod_readLengths_24 : decode b_Mod_readLengths 24 = .ok (.laload, 1) := by decide +kernel
theorem d_Mod_readLengths_25 : decode b_Mod_readLengths 25 = .ok (.lconst 0, 1) := by decide +kernel
theorem d_Mod_readLengths_26 : decode b_Mod_readLengths 26 = .ok (.lcmp, 1) := by decide +kernel
theorem d_Mod_readLengths_27 : decode b_Mod_readLengths 27 = .ok (.ifCond .lt 16, 3) := by decide +kernel
theorem d_Mod_readLengths_30 : decode b_Mod_readLengths 30 = .ok (.aload_n 0, 1) := by decide +kernel
theorem d_Mod_readLengths_31 : decode b_Mod_readLengths 31 = .ok (.getfield 139, 3) := by decide +kernel
theorem d_Mod_readLengths_34 : decode b_Mod_readLengths 34 = .ok (.iload_n 2, 1) := by decide +kernel
theorem d_Mod_readLengths_35 : decode b_Mod_readLengths 35 = .ok (.laload, 1) := by decide +kernel
theorem d_Mod_readLengths_36 : decode b_Mod_readLengths 36 = .ok (.ldc2_w 686, 3) := by decide +kernel
theorem d_Mod_readLengths_39 : decode b_Mod_readLengths 39 = .ok (.lcmp, 1) := by decide +kernel
theorem d_Mod_readLengths_40 : decode b_Mod_readLengths 40 = .ok (.ifCond .le 9, 3) := by decide +kernel
theorem d_Mod_readLengths_0 : decode b_Mod_readLengths 0 = .ok (.aload_n 0, 1) := by decide +kernel
theorem d_Mod_readLengths_1 : decode b_Mod_readLengths 1 = .ok (.iload_n 1, 1) := by decide +kernel
theorem d_Mod_readLengths_2 : decode b_Mod_readLengths 2 = .ok (.invokevirtual 691, 3) := by decide +kernel
theorem d_Mod_readLengths_5 : decode b_Mod_readLengths 5 = .ok (.iconst 0, 1) := by decide +kernel
theorem d_Mod_readLengths_6 : decode b_Mod_readLengths 6 = .ok (.istore_n 2, 1) := by decide +kernel
theorem d_Mod_toldLength_0 : decode b_Mod_toldLength 0 = .ok (.lload_n 0, 1) := by decide +kernel
theorem d_Mod_toldLength_1 : decode b_Mod_toldLength 1 = .ok (.lconst 0, 1) := by decide +kernel
theorem d_Mod_toldLength_2 : decode b_Mod_toldLength 2 = .ok (.lcmp, 1) := by decide +kernel
theorem d_Mod_toldLength_3 : decode b_Mod_toldLength 3 = .ok (.ifCond .ge 7, 3) := by decide +kernel
theorem d_Mod_toldLength_10 : decode b_Mod_toldLength 10 = .ok (.lload_n 0, 1) := by decide +kernel
theorem d_Mod_toldLength_11 : decode b_Mod_toldLength 11 = .ok (.ldc2_w 686, 3) := by decide +kernel
theorem d_Mod_toldLength_14 : decode b_Mod_toldLength 14 = .ok (.lcmp, 1) := by decide +kernel
theorem d_Mod_toldLength_15 : decode b_Mod_toldLength 15 = .ok (.ifCond .le 9, 3) := by decide +kernel
theorem d_Mod_toldLength_24 : decode b_Mod_toldLength 24 = .ok (.lload_n 0, 1) := by decide +kernel
theorem d_Mod_toldLength_25 : decode b_Mod_toldLength 25 = .ok (.l2i, 1) := by decide +kernel
theorem d_Mod_toldLength_26 : decode b_Mod_toldLength 26 = .ok (.ireturn, 1) := by decide +kernel
theorem d_Mod_toldLength_18 : decode b_Mod_toldLength 18 = .ok (.sipush 256, 3) := by decide +kernel
theorem d_Mod_toldLength_21 : decode b_Mod_toldLength 21 = .ok (.goto 5, 3) := by decide +kernel
theorem d_Mod_toldLength_6 : decode b_Mod_toldLength 6 = .ok (.iconst (-1), 1) := by decide +kernel
theorem d_Mod_toldLength_7 : decode b_Mod_toldLength 7 = .ok (.goto 19, 3) := by decide +kernel
theorem d_Mod_readFront_197 : decode b_Mod_readFront 197 = .ok (.iinc 2 1, 3) := by decide +kernel
theorem d_Mod_readFront_200 : decode b_Mod_readFront 200 = .ok (.goto (-111), 3) := by decide +kernel
theorem d_Mod_readFront_172 : decode b_Mod_readFront 172 = .ok (.aload_n 0, 1) := by decide +kernel
theorem d_Mod_readFront_173 : decode b_Mod_readFront 173 = .ok (.bipush 7, 2) := by decide +kernel
theorem d_Mod_readFront_175 : decode b_Mod_readFront 175 = .ok (.putfield 550, 3) := by decide +kernel
theorem d_Mod_readFront_178 : decode b_Mod_readFront 178 = .ok (.goto 19, 3) := by decide +kernel
theorem d_Mod_readFront_124 : decode b_Mod_readFront 124 = .ok (.istore_n 3, 1) := by decide +kernel
theorem d_Mod_readFront_125 : decode b_Mod_readFront 125 = .ok (.aload_n 0, 1) := by decide +kernel
theorem d_Mod_readFront_126 : decode b_Mod_readFront 126 = .ok (.getfield 145, 3) := by decide +kernel
theorem d_Mod_readFront_129 : decode b_Mod_readFront 129 = .ok (.iload_n 2, 1) := by decide +kernel
theorem d_Mod_readFront_130 : decode b_Mod_readFront 130 = .ok (.iaload, 1) := by decide +kernel
theorem d_Mod_readFront_131 : decode b_Mod_readFront 131 = .ok (.ifCond .lt 41, 3) := by decide +kernel
theorem d_Mod_readFront_134 : decode b_Mod_readFront 134 = .ok (.aload_n 0, 1) := by decide +kernel
theorem d_Mod_readFront_135 : decode b_Mod_readFront 135 = .ok (.getfield 148, 3) := by decide +kernel
theorem d_Mod_readFront_138 : decode b_Mod_readFront 138 = .ok (.iload_n 2, 1) := by decide +kernel
theorem d_Mod_readFront_139 : decode b_Mod_readFront 139 = .ok (.iaload, 1) := by decide +kernel
theorem d_Mod_readFront_140 : decode b_Mod_readFront 140 = .ok (.ifCond .lt 32, 3) := by decide +kernel
theorem d_Mod_readFront_143 : decode b_Mod_readFront 143 = .ok (.aload_n 0, 1) := by decide +kernel
theorem d_Mod_readFront_144 : decode b_Mod_readFront 144 = .ok (.getfield 145, 3) := by decide +kernel
theorem d_Mod_readFront_147 : decode b_Mod_readFront 147 = .ok (.iload_n 2, 1) := by decide +kernel
theorem d_Mod_readFront_148 : decode b_Mod_readFront 148 = .ok (.iaload, 1) := by decide +kernel
theorem d_Mod_readFront_149 : decode b_Mod_readFront 149 = .ok (.aload_n 0, 1) := by decide +kernel
theorem d_Mod_readFront_150 : decode b_Mod_readFront 150 = .ok (.getfield 148, 3) := by decide +kernel
theorem d_Mod_readFront_153 : decode b_Mod_readFront 153 = .ok (.iload_n 2, 1) := by decide +kernel
theorem d_Mod_readFront_154 : decode b_Mod_readFront 154 = .ok (.iaload, 1) := by decide +kernel
theorem d_Mod_readFront_155 : decode b_Mod_readFront 155 = .ok (.iadd, 1) := by decide +kernel
theorem d_Mod_readFront_156 : decode b_Mod_readFront 156 = .ok (.sipush 255, 3) := by decide +kernel
theorem d_Mod_readFront_159 : decode b_Mod_readFront 159 = .ok (.if_icmp .gt 13, 3) := by decide +kernel
theorem d_Mod_readFront_162 : decode b_Mod_readFront 162 = .ok (.aload_n 0, 1) := by decide +kernel
theorem d_Mod_readFront_163 : decode b_Mod_readFront 163 = .ok (.getfield 145, 3) := by decide +kernel
theorem d_Mod_readFront_166 : decode b_Mod_readFront 166 = .ok (.iload_n 2, 1) := by decide +kernel
theorem d_Mod_readFront_167 : decode b_Mod_readFront 167 = .ok (.iaload, 1) := by decide +kernel
theorem d_Mod_readFront_168 : decode b_Mod_readFront 168 = .ok (.iload_n 3, 1) := by decide +kernel
theorem d_Mod_readFront_169 : decode b_Mod_readFront 169 = .ok (.if_icmp .le 12, 3) := by decide +kernel
theorem d_Mod_readFront_181 : decode b_Mod_readFront 181 = .ok (.aload_n 0, 1) := by decide +kernel
theorem d_Mod_readFront_182 : decode b_Mod_readFront 182 = .ok (.aload_n 0, 1) := by decide +kernel
theorem d_Mod_readFront_183 : decode b_Mod_readFront 183 = .ok (.getfield 148, 3) := by decide +kernel
theorem d_Mod_readFront_186 : decode b_Mod_readFront 186 = .ok (.iload_n 2, 1) := by decide +kernel
theorem d_Mod_readFront_187 : decode b_Mod_readFront 187 = .ok (.iaload, 1) := by decide +kernel
theorem d_Mod_readFront_188 : decode b_Mod_readFront 188 = .ok (.aload_n 0, 1) := by decide +kernel
theorem d_Mod_readFront_189 : decode b_Mod_readFront 189 = .ok (.getfield 145, 3) := by decide +kernel
theorem d_Mod_readFront_192 : decode b_Mod_readFront 192 = .ok (.iload_n 2, 1) := by decide +kernel
theorem d_Mod_readFront_193 : decode b_Mod_readFront 193 = .ok (.iaload, 1) := by decide +kernel
theorem d_Mod_readFront_194 : decode b_Mod_readFront 194 = .ok (.invokevirtual 688, 3) := by decide +kernel
theorem d_Mod_readFront_89 : decode b_Mod_readFront 89 = .ok (.iload_n 2, 1) := by decide +kernel
theorem d_Mod_readFront_90 : decode b_Mod_readFront 90 = .ok (.iload_n 1, 1) := by decide +kernel
theorem d_Mod_readFront_91 : decode b_Mod_readFront 91 = .ok (.if_icmp .ge 112, 3) := by decide +kernel
theorem d_Mod_readFront_203 : decode b_Mod_readFront 203 = .ok (.return_, 1) := by decide +kernel
theorem d_Mod_readFront_94 : decode b_Mod_readFront 94 = .ok (.aload_n 0, 1) := by decide +kernel
theorem d_Mod_readFront_95 : decode b_Mod_readFront 95 = .ok (.getfield 550, 3) := by decide +kernel
theorem d_Mod_readFront_98 : decode b_Mod_readFront 98 = .ok (.ifCond .ne 105, 3) := by decide +kernel
theorem d_Mod_readFront_101 : decode b_Mod_readFront 101 = .ok (.iload_n 2, 1) := by decide +kernel
theorem d_Mod_readFront_102 : decode b_Mod_readFront 102 = .ok (.ifCond .ne 7, 3) := by decide +kernel
theorem d_Mod_readFront_109 : decode b_Mod_readFront 109 = .ok (.aload_n 0, 1) := by decide +kernel
theorem d_Mod_readFront_110 : decode b_Mod_readFront 110 = .ok (.getfield 112, 3) := by decide +kernel
theorem d_Mod_readFront_113 : decode b_Mod_readFront 113 = .ok (.iload_n 2, 1) := by decide +kernel
theorem d_Mod_readFront_114 : decode b_Mod_readFront 114 = .ok (.iaload, 1) := by decide +kernel
theorem d_Mod_readFront_115 : decode b_Mod_readFront 115 = .ok (.aload_n 0, 1) := by decide +kernel
theorem d_Mod_readFront_116 : decode b_Mod_readFront 116 = .ok (.getfield 112, 3) := by decide +kernel
theorem d_Mod_readFront_119 : decode b_Mod_readFront 119 = .ok (.iload_n 2, 1) := by decide +kernel
theorem d_Mod_readFront_120 : decode b_Mod_readFront 120 = .ok (.iconst 1, 1) := by decide +kernel
theorem d_Mod_readFront_121 : decode b_Mod_readFront 121 = .ok (.isub, 1) := by decide +kernel
theorem d_Mod_readFront_122 : decode b_Mod_readFront 122 = .ok (.iaload, 1) := by decide +kernel
theorem d_Mod_readFront_123 : decode b_Mod_readFront 123 = .ok (.isub, 1) := by decide +kernel
theorem d_Mod_readFront_105 : decode b_Mod_readFront 105 = .ok (.iconst 0, 1) := by decide +kernel
theorem d_Mod_readFront_106 : decode b_Mod_readFront 106 = .ok (.goto 18, 3) := by decide +kernel
theorem d_Mod_readFront_87 : decode b_Mod_readFront 87 = .ok (.iconst 0, 1) := by decide +kernel
theorem d_Mod_readFront_88 : decode b_Mod_readFront 88 = .ok (.istore_n 2, 1) := by decide +kernel
theorem d_Mod_readFront_54 : decode b_Mod_readFront 54 = .ok (.iload_n 2, 1) := by decide +kernel
theorem d_Mod_readFront_55 : decode b_Mod_readFront 55 = .ok (.iload_n 1, 1) := by decide +kernel
theorem d_Mod_readFront_56 : decode b_Mod_readFront 56 = .ok (.if_icmp .ge 31, 3) := by decide +kernel
theorem d_Mod_readFront_59 : decode b_Mod_readFront 59 = .ok (.aload_n 0, 1) := by decide +kernel
theorem d_Mod_readFront_60 : decode b_Mod_readFront 60 = .ok (.getfield 550, 3) := by decide +kernel
theorem d_Mod_readFront_63 : decode b_Mod_readFront 63 = .ok (.ifCond .ne 24, 3) := by decide +kernel
theorem d_Mod_readFront_66 : decode b_Mod_readFront 66 = .ok (.aload_n 0, 1) := by decide +kernel
theorem d_Mod_readFront_67 : decode b_Mod_readFront 67 = .ok (.getfield 148, 3) := by decide +kernel
theorem d_Mod_readFront_70 : decode b_Mod_readFront 70 = .ok (.iload_n 2, 1) := by decide +kernel
theorem d_Mod_readFront_71 : decode b_Mod_readFront 71 = .ok (.aload_n 0, 1) := by decide +kernel
theorem d_Mod_readFront_72 : decode b_Mod_readFront 72 = .ok (.getfield 139, 3) := by decide +kernel
theorem d_Mod_readFront_75 : decode b_Mod_readFront 75 = .ok (.iload_n 2, 1) := by decide +kernel
theorem d_Mod_readFront_76 : decode b_Mod_readFront 76 = .ok (.laload, 1) := by decide +kernel
theorem d_Mod_readFront_77 : decode b_Mod_readFront 77 = .ok (.invokestatic 694, 3) := by decide +kernel
theorem d_Mod_readFront_80 : decode b_Mod_readFront 80 = .ok (.iastore, 1) := by decide +kernel
theorem d_Mod_readFront_81 : decode b_Mod_readFront 81 = .ok (.iinc 2 1, 3) := by decide +kernel
theorem d_Mod_readFront_84 : decode b_Mod_readFront 84 = .ok (.goto (-30), 3) := by decide +kernel
theorem d_Mod_readFront_52 : decode b_Mod_readFront 52 = .ok (.iconst 0, 1) := by decide +kernel
theorem d_Mod_readFront_53 : decode b_Mod_readFront 53 = .ok (.istore_n 2, 1) := by decide +kernel
theorem d_Mod_readFront_40 : decode b_Mod_readFront 40 = .ok (.aload_n 0, 1) := by decide +kernel
theorem d_Mod_readFront_41 : decode b_Mod_readFront 41 = .ok (.getfield 550, 3) := by decide +kernel
theorem d_Mod_readFront_44 : decode b_Mod_readFront 44 = .ok (.ifCond .ne 8, 3) := by decide +kernel
theorem d_Mod_readFront_47 : decode b_Mod_readFront 47 = .ok (.aload_n 0, 1) := by decide +kernel
theorem d_Mod_readFront_48 : decode b_Mod_readFront 48 = .ok (.iload_n 1, 1) := by decide +kernel
theorem d_Mod_readFront_49 : decode b_Mod_readFront 49 = .ok (.invokevirtual 691, 3) := by decide +kernel
theorem d_Mod_readFront_7 : decode b_Mod_readFront 7 = .ok (.iload_n 2, 1) := by decide +kernel
theorem d_Mod_readFront_8 : decode b_Mod_readFront 8 = .ok (.iload_n 1, 1) := by decide +kernel
theorem d_Mod_readFront_9 : decode b_Mod_readFront 9 = .ok (.if_icmp .ge 31, 3) := by decide +kernel
theorem d_Mod_readFront_12 : decode b_Mod_readFront 12 = .ok (.aload_n 0, 1) := by decide +kernel
theorem d_Mod_readFront_13 : decode b_Mod_readFront 13 = .ok (.getfield 550, 3) := by decide +kernel
theorem d_Mod_readFront_16 : decode b_Mod_readFront 16 = .ok (.ifCond .ne 24, 3) := by decide +kernel
theorem d_Mod_readFront_19 : decode b_Mod_readFront 19 = .ok (.aload_n 0, 1) := by decide +kernel
theorem d_Mod_readFront_20 : decode b_Mod_readFront 20 = .ok (.getfield 145, 3) := by decide +kernel
theorem d_Mod_readFront_23 : decode b_Mod_readFront 23 = .ok (.iload_n 2, 1) := by decide +kernel
theorem d_Mod_readFront_24 : decode b_Mod_readFront 24 = .ok (.aload_n 0, 1) := by decide +kernel
theorem d_Mod_readFront_25 : decode b_Mod_readFront 25 = .ok (.getfield 139, 3) := by decide +kernel
theorem d_Mod_readFront_28 : decode b_Mod_readFront 28 = .ok (.iload_n 2, 1) := by decide +kernel
theorem d_Mod_readFront_29 : decode b_Mod_readFront 29 = .ok (.laload, 1) := by decide +kernel
theorem d_Mod_readFront_30 : decode b_Mod_readFront 30 = .ok (.invokestatic 694, 3) := by decide +kernel
theorem d_Mod_readFront_33 : decode b_Mod_readFront 33 = .ok (.iastore, 1) := by decide +kernel
theorem d_Mod_readFront_34 : decode b_Mod_readFront 34 = .ok (.iinc 2 1, 3) := by decide +kernel
theorem d_Mod_readFront_37 : decode b_Mod_readFront 37 = .ok (.goto (-30), 3) := by decide +kernel
theorem d_Mod_readFront_0 : decode b_Mod_readFront 0 = .ok (.aload_n 0, 1) := by decide +kernel
theorem d_Mod_readFront_1 : decode b_Mod_readFront 1 = .ok (.iload_n 1, 1) := by decide +kernel
theorem d_Mod_readFront_2 : decode b_Mod_readFront 2 = .ok (.invokevirtual 691, 3) := by decide +kernel
theorem d_Mod_readFront_5 : decode b_Mod_readFront 5 = .ok (.iconst 0, 1) := by decide +kernel
theorem d_Mod_readFront_6 : decode b_Mod_readFront 6 = .ok (.istore_n 2, 1) := by decide +kernel
section
variable (l : Launch) (dC : Nat → ClassId) (dI : Nat → Nat → Nat) (cI cB cJ cZ : ClassId)
set_option maxRecDepth 100000 in
set_option maxHeartbeats 4000000 in
set_option maxRecDepth 100000 in
theorem t_Mod_readLongs_150 {p : Program} {l : Launch} {e : Env} {R : Room} {s : State} {m : MethodId} {args : Array Value} {below : List Frame} {meth : Method} {c : Code} {cells slots : Nat} {Q : State → Prop} {dC : Nat → ClassId} {dI : Nat → Nat → Nat} {cI cB cJ cZ : ClassId} {A : Nat → Prop} {ad : Nat → Nat} {post : St → Prop} (hx : p.tables.exec = Jvm.exec) (hb : c.code = b_Mod_readLongs) (hml : c.maxLocals = 6) (hown : s.vm.findClass R_Mod = some m.cls) (hT : ∀ w ∈ TG, w.before args s = true) (hK : va_K (dC, dI) CL (TY cI cB cJ cZ) s) (hN : NW s) (hA : ∀ q : Nat, s.heap.size ≤ q → A q) (hRc : cells ≤ R.cells) (hRs : slots ≤ R.slots) (hRf : 2 ≤ R.frames) (hRl : 57 ≤ R.locals) (hret : ∀ (x : St) (H : Heap) (locs : List Loc) (pc : Nat) (ls : Array Slot), decode b_Mod_readLongs pc = .ok (.return_, 1) → post x → Wd dC dI cI cB cJ cZ ad stM kcM 115 A x H → va_S A s.heap H locs → W p l e R s m args below meth c H locs cells slots Q (F0 m pc ls []))  : ∀ (l1 : Int32) (l2 : Int32) (l3 : Int64) (l5 : Int32) (x : St) (H : Heap) (locs : List Loc) (ls : Array Slot), j_Mod_readLongs_150 post l1 l2 l3 l5 x → Wd dC dI cI cB cJ cZ ad stM kcM 115 A x H → va_S A s.heap H locs → lv_has ls 6 [(0, .ref (ad 0)), (1, .int l1), (2, .int l2), (3, .long l3), (5, .int l5)] → W p l e R s m args below meth c H locs cells slots Q (F0 m 150 ls []) := by
  intro l1 l2 l3 l5 x H locs ls  hw hW hS hl
  unfold j_Mod_readLongs_150 at hw
  refine lv_aload_n hx hb d_Mod_readLongs_150 rfl (lv_at hl 0 rfl) ?_
  refine w_geti (k := 69) (t := 12) (C := R_Mod) (T := F_Mod) (N := 167) hx hb hT hown hK hW ko_0.1 ko_0.2 (by decide) in_Mod rfl rfl (by decide) rfl fr_Mod_69 w_9_5 d_Mod_readLongs_151 ?_
  refine lv_if_ne (tgt := 170) hx hb d_Mod_readLongs_154 (by decide) (fun c1290 => ?_) (fun c1290 => ?_)
  · have hw := hw.1 c1290
    exact hret x H locs 170 ls d_Mod_readLongs_170 hw hW hS
  · have hw := hw.2 c1290
    refine lv_aload_n hx hb d_Mod_readLongs_157 rfl (lv_at hl 0 rfl) ?_
    refine w_geti (k := 71) (t := 12) (C := R_Mod) (T := F_Mod) (N := 167) hx hb hT hown hK hW ko_0.1 ko_0.2 (by decide) in_Mod rfl rfl (by decide) rfl fr_Mod_71 w_9_7 d_Mod_readLongs_158 ?_
    refine lv_iload_n hx hb d_Mod_readLongs_161 rfl (lv_at hl 1 rfl) ?_
    refine lv_icmp_eq (tgt := 170) hx hb d_Mod_readLongs_162 (by decide) (fun c1291 => ?_) (fun c1291 => ?_)
    · have hw := hw.1 c1291
      exact hret x H locs 170 ls d_Mod_readLongs_170 hw hW hS
    · have hw := hw.2 c1291
      refine lv_aload_n hx hb d_Mod_readLongs_165 rfl (lv_at hl 0 rfl) ?_
      refine lv_iconst (v := 4) hx hb d_Mod_readLongs_166 (by decide) ?_
      refine w_puti (ty := .int) (k := 69) (t := 12) (C := R_Mod) (T := F_Mod) (N := 167) hx hb hT hown hK hW hS ko_0.1 ko_0.2 (by decide) in_Mod t_Mod t_Mod_ok n_Mod rfl rfl (by decide) rfl fr_Mod_69 w_9_5 (by decide +kernel) rfl rfl d_Mod_readLongs_167 (fun H locs hW hS => ?_)
      obtain ⟨x1292, ex1292⟩ : ∃ y : St, y = setI x 0 69 4 := ⟨_, rfl⟩
      rw [← ex1292] at hW
      have hw := hw x1292 ex1292
      exact hret x1292 H locs 170 ls d_Mod_readLongs_170 hw hW hS
set_option maxRecDepth 100000 in
set_option maxHeartbeats 4000000 in
set_option maxRecDepth 100000 in
theorem t_Mod_readLongs_129 {p : Program} {l : Launch} {e : Env} {R : Room} {s : State} {m : MethodId} {args : Array Value} {below : List Frame} {meth : Method} {c : Code} {cells slots : Nat} {Q : State → Prop} {dC : Nat → ClassId} {dI : Nat → Nat → Nat} {cI cB cJ cZ : ClassId} {A : Nat → Prop} {ad : Nat → Nat} {post : St → Prop} (hx : p.tables.exec = Jvm.exec) (hb : c.code = b_Mod_readLongs) (hml : c.maxLocals = 6) (hown : s.vm.findClass R_Mod = some m.cls) (hT : ∀ w ∈ TG, w.before args s = true) (hK : va_K (dC, dI) CL (TY cI cB cJ cZ) s) (hN : NW s) (hA : ∀ q : Nat, s.heap.size ≤ q → A q) (hRc : cells ≤ R.cells) (hRs : slots ≤ R.slots) (hRf : 2 ≤ R.frames) (hRl : 57 ≤ R.locals) (hret : ∀ (x : St) (H : Heap) (locs : List Loc) (pc : Nat) (ls : Array Slot), decode b_Mod_readLongs pc = .ok (.return_, 1) → post x → Wd dC dI cI cB cJ cZ ad stM kcM 115 A x H → va_S A s.heap H locs → W p l e R s m args below meth c H locs cells slots Q (F0 m pc ls []))  : ∀ (l1 : Int32) (l2 : Int32) (l3 : Int64) (l5 : Int32) (x : St) (H : Heap) (locs : List Loc) (ls : Array Slot), j_Mod_readLongs_129 post l1 l2 l3 l5 x → Wd dC dI cI cB cJ cZ ad stM kcM 115 A x H → va_S A s.heap H locs → lv_has ls 6 [(0, .ref (ad 0)), (1, .int l1), (2, .int l2), (3, .long l3), (5, .int l5)] → W p l e R s m args below meth c H locs cells slots Q (F0 m 129 ls []) := by
  intro l1 l2 l3 l5 x H locs ls  hw hW hS hl
  unfold j_Mod_readLongs_129 at hw
  refine lv_aload_n hx hb d_Mod_readLongs_129 rfl (lv_at hl 0 rfl) ?_
  refine w_geti (k := 69) (t := 12) (C := R_Mod) (T := F_Mod) (N := 167) hx hb hT hown hK hW ko_0.1 ko_0.2 (by decide) in_Mod rfl rfl (by decide) rfl fr_Mod_69 w_9_5 d_Mod_readLongs_130 ?_
  refine lv_if_ne (tgt := 150) hx hb d_Mod_readLongs_133 (by decide) (fun c1293 => ?_) (fun c1293 => ?_)
  · have hw := hw.1 c1293
    exact t_Mod_readLongs_150 hx hb hml hown hT hK hN hA hRc hRs hRf hRl hret  l1 l2 l3 l5 x H locs ls  hw hW hS (lv_sub hl [0, 1, 2, 3, 4] rfl)
  · have hw := hw.2 c1293
    refine lv_aload_n hx hb d_Mod_readLongs_136 rfl (lv_at hl 0 rfl) ?_
    refine w_geti (k := 67) (t := 12) (C := R_Mod) (T := F_Mod) (N := 167) hx hb hT hown hK hW ko_0.1 ko_0.2 (by decide) in_Mod rfl rfl (by decide) rfl fr_Mod_67 w_9_3 d_Mod_readLongs_137 ?_
    refine lv_iload_n hx hb d_Mod_readLongs_140 rfl (lv_at hl 2 rfl) ?_
    refine lv_icmp_ge (tgt := 150) hx hb d_Mod_readLongs_141 (by decide) (fun c1294 => ?_) (fun c1294 => ?_)
    · have hw := hw.1 c1294
      exact t_Mod_readLongs_150 hx hb hml hown hT hK hN hA hRc hRs hRf hRl hret  l1 l2 l3 l5 x H locs ls  hw hW hS (lv_sub hl [0, 1, 2, 3, 4] rfl)
    · have hw := hw.2 c1294
      refine lv_aload_n hx hb d_Mod_readLongs_144 rfl (lv_at hl 0 rfl) ?_
      refine lv_bipush (v := 6) hx hb d_Mod_readLongs_145 (by decide) ?_
      refine w_puti (ty := .int) (k := 69) (t := 12) (C := R_Mod) (T := F_Mod) (N := 167) hx hb hT hown hK hW hS ko_0.1 ko_0.2 (by decide) in_Mod t_Mod t_Mod_ok n_Mod rfl rfl (by decide) rfl fr_Mod_69 w_9_5 (by decide +kernel) rfl rfl d_Mod_readLongs_147 (fun H locs hW hS => ?_)
      obtain ⟨x1295, ex1295⟩ : ∃ y : St, y = setI x 0 69 6 := ⟨_, rfl⟩
      rw [← ex1295] at hW
      have hw := hw x1295 ex1295
      exact t_Mod_readLongs_150 hx hb hml hown hT hK hN hA hRc hRs hRf hRl hret  l1 l2 l3 l5 x1295 H locs ls  hw hW hS (lv_sub hl [0, 1, 2, 3, 4] rfl)
set_option maxRecDepth 100000 in
set_option maxHeartbeats 4000000 in
set_option maxRecDepth 100000 in
theorem t_Mod_readLongs_119 {p : Program} {l : Launch} {e : Env} {R : Room} {s : State} {m : MethodId} {args : Array Value} {below : List Frame} {meth : Method} {c : Code} {cells slots : Nat} {Q : State → Prop} {dC : Nat → ClassId} {dI : Nat → Nat → Nat} {cI cB cJ cZ : ClassId} {A : Nat → Prop} {ad : Nat → Nat} {post : St → Prop} {rec70 : Int32 → Int32 → Int64 → Int32 → St → Prop} (hx : p.tables.exec = Jvm.exec) (hb : c.code = b_Mod_readLongs) (hml : c.maxLocals = 6) (hown : s.vm.findClass R_Mod = some m.cls) (hT : ∀ w ∈ TG, w.before args s = true) (hK : va_K (dC, dI) CL (TY cI cB cJ cZ) s) (hN : NW s) (hA : ∀ q : Nat, s.heap.size ≤ q → A q) (hRc : cells ≤ R.cells) (hRs : slots ≤ R.slots) (hRf : 2 ≤ R.frames) (hRl : 57 ≤ R.locals) (hret : ∀ (x : St) (H : Heap) (locs : List Loc) (pc : Nat) (ls : Array Slot), decode b_Mod_readLongs pc = .ok (.return_, 1) → post x → Wd dC dI cI cB cJ cZ ad stM kcM 115 A x H → va_S A s.heap H locs → W p l e R s m args below meth c H locs cells slots Q (F0 m pc ls [])) (hrec70 : ∀ (l1 : Int32) (l2 : Int32) (l3 : Int64) (l5 : Int32) (x : St) (H : Heap) (locs : List Loc) (ls : Array Slot), rec70 l1 l2 l3 l5 x → Wd dC dI cI cB cJ cZ ad stM kcM 115 A x H → va_S A s.heap H locs → lv_has ls 6 [(0, .ref (ad 0)), (1, .int l1), (2, .int l2), (3, .long l3), (5, .int l5)] → W p l e R s m args below meth c H locs cells slots Q (F0 m 70 ls [])) : ∀ (l1 : Int32) (l2 : Int32) (l3 : Int64) (l5 : Int32) (s0 : Int32) (s1 : Int32) (x : St) (H : Heap) (locs : List Loc) (ls : Array Slot), j_Mod_readLongs_119 post rec70 l1 l2 l3 l5 s0 s1 x → Wd dC dI cI cB cJ cZ ad stM kcM 115 A x H → va_S A s.heap H locs → lv_has ls 6 [(0, .ref (ad 0)), (1, .int l1), (2, .int l2), (3, .long l3), (5, .int l5)] → W p l e R s m args below meth c H locs cells slots Q (F0 m 119 ls [.int s0, .int s1, .ref (ad 0)]) := by
  intro l1 l2 l3 l5 s0 s1 x H locs ls  hw hW hS hl
  unfold j_Mod_readLongs_119 at hw
  refine lv_iload_n hx hb d_Mod_readLongs_119 rfl (lv_at hl 2 rfl) ?_
  have hF := hW.free hS hA
  refine va_callv (va_runV (C := R_Mod) (As := [.int s1, .int s0, .int l2]) (rest := []) ⟨hx, hb, hml, hown, hT⟩ (k_Mod_readBlock l dC dI cI cB cJ cZ ad H.size s1 s0 l2 x  hw) ⟨callB_of 3 hT (gwt_in w_12_227) rfl rfl rfl (hT _ w_1_15) (hT _ w_12_224) (by decide +kernel) ⟨Nat.le_trans (Nat.le_of_ble_eq_true rfl) hRf, Nat.le_trans (Nat.le_of_ble_eq_true rfl) hRl⟩, hT _ w_12_226, hT _ ws_210⟩ ⟨PW.blind, va_recv hK hW.1 (ci := 12) (q0 := 0) rfl (pic_obj ko_0.1 ko_0.2 (by decide)), PW.at _ hW hK hN⟩ rfl rfl hl.1 rfl (lv_room (Nat.le_of_ble_eq_true rfl)) d_Mod_readLongs_120 ⟨hRc, hRs⟩) hS (fun q _ h => hF q h) hF (fun  x1296 t H locs ht hvm hw hB hz1 hk1 hS => ?_)
  have hW := Wd.back hB ht hF
  clear hB ht hF hz1 hk1 hvm
  refine lv_iinc (v := (l5 + 64)) (lv' := [(5, .int (l5 + 64)), (0, .ref (ad 0)), (1, .int l1), (2, .int l2), (3, .long l3)]) hx hb d_Mod_readLongs_123 hl (k := 4) rfl rfl (by decide) rfl (fun ls hl => ?_)
  refine lv_goto (tgt := 70) hx hb d_Mod_readLongs_126 (by decide) ?_
  exact hrec70 l1 l2 l3 (l5 + 64) x1296 H locs ls  hw hW hS (lv_sub hl [1, 2, 3, 4, 0] rfl)
set_option maxRecDepth 100000 in
set_option maxHeartbeats 4000000 in
set_option maxRecDepth 100000 in
theorem t_Mod_readLongs_70 {p : Program} {l : Launch} {e : Env} {R : Room} {s : State} {m : MethodId} {args : Array Value} {below : List Frame} {meth : Method} {c : Code} {cells slots : Nat} {Q : State → Prop} {dC : Nat → ClassId} {dI : Nat → Nat → Nat} {cI cB cJ cZ : ClassId} {A : Nat → Prop} {ad : Nat → Nat} {post : St → Prop} {rec70 : Int32 → Int32 → Int64 → Int32 → St → Prop} (hx : p.tables.exec = Jvm.exec) (hb : c.code = b_Mod_readLongs) (hml : c.maxLocals = 6) (hown : s.vm.findClass R_Mod = some m.cls) (hT : ∀ w ∈ TG, w.before args s = true) (hK : va_K (dC, dI) CL (TY cI cB cJ cZ) s) (hN : NW s) (hA : ∀ q : Nat, s.heap.size ≤ q → A q) (hRc : cells ≤ R.cells) (hRs : slots ≤ R.slots) (hRf : 2 ≤ R.frames) (hRl : 57 ≤ R.locals) (hret : ∀ (x : St) (H : Heap) (locs : List Loc) (pc : Nat) (ls : Array Slot), decode b_Mod_readLongs pc = .ok (.return_, 1) → post x → Wd dC dI cI cB cJ cZ ad stM kcM 115 A x H → va_S A s.heap H locs → W p l e R s m args below meth c H locs cells slots Q (F0 m pc ls [])) (hrec70 : ∀ (l1 : Int32) (l2 : Int32) (l3 : Int64) (l5 : Int32) (x : St) (H : Heap) (locs : List Loc) (ls : Array Slot), rec70 l1 l2 l3 l5 x → Wd dC dI cI cB cJ cZ ad stM kcM 115 A x H → va_S A s.heap H locs → lv_has ls 6 [(0, .ref (ad 0)), (1, .int l1), (2, .int l2), (3, .long l3), (5, .int l5)] → W p l e R s m args below meth c H locs cells slots Q (F0 m 70 ls [])) : ∀ (l1 : Int32) (l2 : Int32) (l3 : Int64) (l5 : Int32) (x : St) (H : Heap) (locs : List Loc) (ls : Array Slot), j_Mod_readLongs_70 post rec70 l1 l2 l3 l5 x → Wd dC dI cI cB cJ cZ ad stM kcM 115 A x H → va_S A s.heap H locs → lv_has ls 6 [(0, .ref (ad 0)), (1, .int l1), (2, .int l2), (3, .long l3), (5, .int l5)] → W p l e R s m args below meth c H locs cells slots Q (F0 m 70 ls []) := by
  intro l1 l2 l3 l5 x H locs ls  hw hW hS hl
  unfold j_Mod_readLongs_70 at hw
  refine lv_iload hx hb d_Mod_readLongs_70 (lv_at hl 4 rfl) ?_
  refine lv_aload_n hx hb d_Mod_readLongs_72 rfl (lv_at hl 0 rfl) ?_
  refine w_geti (k := 71) (t := 12) (C := R_Mod) (T := F_Mod) (N := 167) hx hb hT hown hK hW ko_0.1 ko_0.2 (by decide) in_Mod rfl rfl (by decide) rfl fr_Mod_71 w_9_7 d_Mod_readLongs_73 ?_
  refine lv_iconst (v := 1) hx hb d_Mod_readLongs_76 (by decide) ?_
  refine lv_isub hx hb d_Mod_readLongs_77 ?_
  refine lv_icmp_ge (tgt := 129) hx hb d_Mod_readLongs_78 (by decide) (fun c1297 => ?_) (fun c1297 => ?_)
  · have hw := hw.1 c1297
    exact t_Mod_readLongs_129 hx hb hml hown hT hK hN hA hRc hRs hRf hRl hret  l1 l2 l3 l5 x H locs ls  hw hW hS (lv_sub hl [0, 1, 2, 3, 4] rfl)
  · have hw := hw.2 c1297
    refine lv_aload_n hx hb d_Mod_readLongs_81 rfl (lv_at hl 0 rfl) ?_
    refine w_geti (k := 69) (t := 12) (C := R_Mod) (T := F_Mod) (N := 167) hx hb hT hown hK hW ko_0.1 ko_0.2 (by decide) in_Mod rfl rfl (by decide) rfl fr_Mod_69 w_9_5 d_Mod_readLongs_82 ?_
    refine lv_if_ne (tgt := 129) hx hb d_Mod_readLongs_85 (by decide) (fun c1298 => ?_) (fun c1298 => ?_)
    · have hw := hw.1 c1298
      exact t_Mod_readLongs_129 hx hb hml hown hT hK hN hA hRc hRs hRf hRl hret  l1 l2 l3 l5 x H locs ls  hw hW hS (lv_sub hl [0, 1, 2, 3, 4] rfl)
    · have hw := hw.2 c1298
      refine lv_aload_n hx hb d_Mod_readLongs_88 rfl (lv_at hl 0 rfl) ?_
      refine lv_iload hx hb d_Mod_readLongs_89 (lv_at hl 4 rfl) ?_
      refine lv_iload hx hb d_Mod_readLongs_91 (lv_at hl 4 rfl) ?_
      refine lv_bipush (v := 64) hx hb d_Mod_readLongs_93 (by decide) ?_
      refine lv_iadd hx hb d_Mod_readLongs_95 ?_
      refine lv_aload_n hx hb d_Mod_readLongs_96 rfl (lv_at hl 0 rfl) ?_
      refine w_geti (k := 71) (t := 12) (C := R_Mod) (T := F_Mod) (N := 167) hx hb hT hown hK hW ko_0.1 ko_0.2 (by decide) in_Mod rfl rfl (by decide) rfl fr_Mod_71 w_9_7 d_Mod_readLongs_97 ?_
      refine lv_iconst (v := 1) hx hb d_Mod_readLongs_100 (by decide) ?_
      refine lv_isub hx hb d_Mod_readLongs_101 ?_
      refine lv_icmp_ge (tgt := 113) hx hb d_Mod_readLongs_102 (by decide) (fun c1299 => ?_) (fun c1299 => ?_)
      · have hw := hw.1 c1299
        refine lv_aload_n hx hb d_Mod_readLongs_113 rfl (lv_at hl 0 rfl) ?_
        refine w_geti (k := 71) (t := 12) (C := R_Mod) (T := F_Mod) (N := 167) hx hb hT hown hK hW ko_0.1 ko_0.2 (by decide) in_Mod rfl rfl (by decide) rfl fr_Mod_71 w_9_7 d_Mod_readLongs_114 ?_
        refine lv_iconst (v := 1) hx hb d_Mod_readLongs_117 (by decide) ?_
        refine lv_isub hx hb d_Mod_readLongs_118 ?_
        exact t_Mod_readLongs_119 hx hb hml hown hT hK hN hA hRc hRs hRf hRl hret hrec70 l1 l2 l3 l5 ((fI x 0 71) - 1) l5 x H locs ls  hw hW hS (lv_sub hl [0, 1, 2, 3, 4] rfl)
      · have hw := hw.2 c1299
        refine lv_iload hx hb d_Mod_readLongs_105 (lv_at hl 4 rfl) ?_
        refine lv_bipush (v := 64) hx hb d_Mod_readLongs_107 (by decide) ?_
        refine lv_iadd hx hb d_Mod_readLongs_109 ?_
        refine lv_goto (tgt := 119) hx hb d_Mod_readLongs_110 (by decide) ?_
        exact t_Mod_readLongs_119 hx hb hml hown hT hK hN hA hRc hRs hRf hRl hret hrec70 l1 l2 l3 l5 (l5 + 64) l5 x H locs ls  hw hW hS (lv_sub hl [0, 1, 2, 3, 4] rfl)
set_option maxHeartbeats 4000000 in
set_option maxRecDepth 100000 in
theorem tl_Mod_readLongs_70 {p : Program} {l : Launch} {e : Env} {R : Room} {s : State} {m : MethodId} {args : Array Value} {below : List Frame} {meth : Method} {c : Code} {cells slots : Nat} {Q : State → Prop} {dC : Nat → ClassId} {dI : Nat → Nat → Nat} {cI cB cJ cZ : ClassId} {A : Nat → Prop} {ad : Nat → Nat} {post : St → Prop} (hx : p.tables.exec = Jvm.exec) (hb : c.code = b_Mod_readLongs) (hml : c.maxLocals = 6) (hown : s.vm.findClass R_Mod = some m.cls) (hT : ∀ w ∈ TG, w.before args s = true) (hK : va_K (dC, dI) CL (TY cI cB cJ cZ) s) (hN : NW s) (hA : ∀ q : Nat, s.heap.size ≤ q → A q) (hRc : cells ≤ R.cells) (hRs : slots ≤ R.slots) (hRf : 2 ≤ R.frames) (hRl : 57 ≤ R.locals) (hret : ∀ (x : St) (H : Heap) (locs : List Loc) (pc : Nat) (ls : Array Slot), decode b_Mod_readLongs pc = .ok (.return_, 1) → post x → Wd dC dI cI cB cJ cZ ad stM kcM 115 A x H → va_S A s.heap H locs → W p l e R s m args below meth c H locs cells slots Q (F0 m pc ls []))  : ∀ n : Nat, ∀ (l1 : Int32) (l2 : Int32) (l3 : Int64) (l5 : Int32) (x : St) (H : Heap) (locs : List Loc) (ls : Array Slot), wl_Mod_readLongs_70 post n l1 l2 l3 l5 x → Wd dC dI cI cB cJ cZ ad stM kcM 115 A x H → va_S A s.heap H locs → lv_has ls 6 [(0, .ref (ad 0)), (1, .int l1), (2, .int l2), (3, .long l3), (5, .int l5)] → W p l e R s m args below meth c H locs cells slots Q (F0 m 70 ls []) := by
  intro n
  induction n with
  | zero => intro l1 l2 l3 l5 x H locs ls  hw; exact hw.elim
  | succ n ih => intro l1 l2 l3 l5 x H locs ls  hw hW hS hl; exact t_Mod_readLongs_70 hx hb hml hown hT hK hN hA hRc hRs hRf hRl hret  ih l1 l2 l3 l5 x H locs ls  hw hW hS hl
set_option maxRecDepth 100000 in
set_option maxHeartbeats 4000000 in
set_option maxRecDepth 100000 in
theorem t_Mod_readLongs_67 {p : Program} {l : Launch} {e : Env} {R : Room} {s : State} {m : MethodId} {args : Array Value} {below : List Frame} {meth : Method} {c : Code} {cells slots : Nat} {Q : State → Prop} {dC : Nat → ClassId} {dI : Nat → Nat → Nat} {cI cB cJ cZ : ClassId} {A : Nat → Prop} {ad : Nat → Nat} {post : St → Prop} (hx : p.tables.exec = Jvm.exec) (hb : c.code = b_Mod_readLongs) (hml : c.maxLocals = 6) (hown : s.vm.findClass R_Mod = some m.cls) (hT : ∀ w ∈ TG, w.before args s = true) (hK : va_K (dC, dI) CL (TY cI cB cJ cZ) s) (hN : NW s) (hA : ∀ q : Nat, s.heap.size ≤ q → A q) (hRc : cells ≤ R.cells) (hRs : slots ≤ R.slots) (hRf : 2 ≤ R.frames) (hRl : 57 ≤ R.locals) (hret : ∀ (x : St) (H : Heap) (locs : List Loc) (pc : Nat) (ls : Array Slot), decode b_Mod_readLongs pc = .ok (.return_, 1) → post x → Wd dC dI cI cB cJ cZ ad stM kcM 115 A x H → va_S A s.heap H locs → W p l e R s m args below meth c H locs cells slots Q (F0 m pc ls []))  : ∀ (l1 : Int32) (l2 : Int32) (l3 : Int64) (x : St) (H : Heap) (locs : List Loc) (ls : Array Slot), j_Mod_readLongs_67 post l1 l2 l3 x → Wd dC dI cI cB cJ cZ ad stM kcM 115 A x H → va_S A s.heap H locs → lv_has ls 6 [(0, .ref (ad 0)), (1, .int l1), (2, .int l2), (3, .long l3)] → W p l e R s m args below meth c H locs cells slots Q (F0 m 67 ls []) := by
  intro l1 l2 l3 x H locs ls  hw hW hS hl
  unfold j_Mod_readLongs_67 at hw
  refine lv_iconst (v := 0) hx hb d_Mod_readLongs_67 (by decide) ?_
  refine lv_istore (lv' := [(5, .int 0), (0, .ref (ad 0)), (1, .int l1), (2, .int l2), (3, .long l3)]) hx hb d_Mod_readLongs_68 hl (by decide) rfl (fun ls hl => ?_)
  obtain ⟨n, hw⟩ := hw
  exact tl_Mod_readLongs_70 hx hb hml hown hT hK hN hA hRc hRs hRf hRl hret  n l1 l2 l3 0 x H locs ls  hw hW hS (lv_sub hl [1, 2, 3, 4, 0] rfl)
set_option maxRecDepth 100000 in
set_option maxHeartbeats 4000000 in
set_option maxRecDepth 100000 in
theorem t_Mod_readLongs_32 {p : Program} {l : Launch} {e : Env} {R : Room} {s : State} {m : MethodId} {args : Array Value} {below : List Frame} {meth : Method} {c : Code} {cells slots : Nat} {Q : State → Prop} {dC : Nat → ClassId} {dI : Nat → Nat → Nat} {cI cB cJ cZ : ClassId} {A : Nat → Prop} {ad : Nat → Nat} {post : St → Prop} (hx : p.tables.exec = Jvm.exec) (hb : c.code = b_Mod_readLongs) (hml : c.maxLocals = 6) (hown : s.vm.findClass R_Mod = some m.cls) (hT : ∀ w ∈ TG, w.before args s = true) (hK : va_K (dC, dI) CL (TY cI cB cJ cZ) s) (hN : NW s) (hA : ∀ q : Nat, s.heap.size ≤ q → A q) (hRc : cells ≤ R.cells) (hRs : slots ≤ R.slots) (hRf : 2 ≤ R.frames) (hRl : 57 ≤ R.locals) (hret : ∀ (x : St) (H : Heap) (locs : List Loc) (pc : Nat) (ls : Array Slot), decode b_Mod_readLongs pc = .ok (.return_, 1) → post x → Wd dC dI cI cB cJ cZ ad stM kcM 115 A x H → va_S A s.heap H locs → W p l e R s m args below meth c H locs cells slots Q (F0 m pc ls []))  : ∀ (l1 : Int32) (l2 : Int32) (l3 : Int64) (x : St) (H : Heap) (locs : List Loc) (ls : Array Slot), j_Mod_readLongs_32 post l1 l2 l3 x → Wd dC dI cI cB cJ cZ ad stM kcM 115 A x H → va_S A s.heap H locs → lv_has ls 6 [(0, .ref (ad 0)), (1, .int l1), (2, .int l2), (3, .long l3)] → W p l e R s m args below meth c H locs cells slots Q (F0 m 32 ls []) := by
  intro l1 l2 l3 x H locs ls  hw hW hS hl
  unfold j_Mod_readLongs_32 at hw
  refine lv_aload_n hx hb d_Mod_readLongs_32 rfl (lv_at hl 0 rfl) ?_
  refine w_geti (k := 69) (t := 12) (C := R_Mod) (T := F_Mod) (N := 167) hx hb hT hown hK hW ko_0.1 ko_0.2 (by decide) in_Mod rfl rfl (by decide) rfl fr_Mod_69 w_9_5 d_Mod_readLongs_33 ?_
  refine lv_if_eq (tgt := 40) hx hb d_Mod_readLongs_36 (by decide) (fun c1300 => ?_) (fun c1300 => ?_)
  · have hw := hw.1 c1300
    refine lv_aload_n hx hb d_Mod_readLongs_40 rfl (lv_at hl 0 rfl) ?_
    refine lv_lload_n hx hb d_Mod_readLongs_41 rfl (lv_at hl 3 rfl) ?_
    refine lv_l2i hx hb d_Mod_readLongs_42 rfl ?_
    refine w_puti (ty := .int) (k := 71) (t := 12) (C := R_Mod) (T := F_Mod) (N := 167) hx hb hT hown hK hW hS ko_0.1 ko_0.2 (by decide) in_Mod t_Mod t_Mod_ok n_Mod rfl rfl (by decide) rfl fr_Mod_71 w_9_7 (by decide +kernel) rfl rfl d_Mod_readLongs_43 (fun H locs hW hS => ?_)
    obtain ⟨x1301, ex1301⟩ : ∃ y : St, y = setI x 0 71 (l3 : Int64).toInt32 := ⟨_, rfl⟩
    rw [← ex1301] at hW
    have hw := hw x1301 ex1301
    refine lv_aload_n hx hb d_Mod_readLongs_46 rfl (lv_at hl 0 rfl) ?_
    refine w_geti (k := 71) (t := 12) (C := R_Mod) (T := F_Mod) (N := 167) hx hb hT hown hK hW ko_0.1 ko_0.2 (by decide) in_Mod rfl rfl (by decide) rfl fr_Mod_71 w_9_7 d_Mod_readLongs_47 ?_
    refine lv_if_le (tgt := 67) hx hb d_Mod_readLongs_50 (by decide) (fun c1302 => ?_) (fun c1302 => ?_)
    · have hw := hw.1 c1302
      exact t_Mod_readLongs_67 hx hb hml hown hT hK hN hA hRc hRs hRf hRl hret  l1 l2 l3 x1301 H locs ls  hw hW hS (lv_sub hl [0, 1, 2, 3] rfl)
    · have hw := hw.2 c1302
      refine lv_aload_n hx hb d_Mod_readLongs_53 rfl (lv_at hl 0 rfl) ?_
      refine w_getf (q := 43) (k := 70) (t := 12) (C := R_Mod) (T := F_Mod) (N := 167) hx hb hT hown hK hW ko_0.1 ko_0.2 (by decide) in_Mod rfl rfl (by decide) rfl fr_Mod_70 w_9_6 d_Mod_readLongs_54 rfl ?_
      refine lv_iconst (v := 0) hx hb d_Mod_readLongs_57 (by decide) ?_
      refine lv_aload_n hx hb d_Mod_readLongs_58 rfl (lv_at hl 0 rfl) ?_
      refine lv_iload_n hx hb d_Mod_readLongs_59 rfl (lv_at hl 2 rfl) ?_
      have hF := hW.free hS hA
      refine va_calll (va_runV (C := R_Mod) (As := [.int l2]) (rest := [.int 0, .ref (ad 43)]) ⟨hx, hb, hml, hown, hT⟩ (k_Mod_varint l dC dI cI cB cJ cZ ad H.size l2 x1301  hw) ⟨callB_of 1 hT (gwt_in w_12_124) rfl rfl rfl (hT _ w_1_15) (hT _ w_12_121) (by decide +kernel) ⟨Nat.le_trans (Nat.le_of_ble_eq_true rfl) hRf, Nat.le_trans (Nat.le_of_ble_eq_true rfl) hRl⟩, hT _ w_12_123, hT _ ws_187⟩ ⟨PW.blind, va_recv hK hW.1 (ci := 12) (q0 := 0) rfl (pic_obj ko_0.1 ko_0.2 (by decide)), PW.at _ hW hK hN⟩ rfl rfl hl.1 rfl (lv_room (Nat.le_of_ble_eq_true rfl)) d_Mod_readLongs_60 ⟨hRc, hRs⟩) hS (fun q _ h => hF q h) hF (fun r1304 x1303 t H locs ht hvm hw hB hz1 hk1 hS => ?_)
      have hW := Wd.back hB ht hF
      clear hB ht hF hz1 hk1 hvm
      have hF := hW.free hS hA
      refine va_calll (va_runS (As := [.long r1304]) (rest := [.int 0, .ref (ad 43)]) ⟨hx, hb, hml, hown, hT⟩ (k_Mod_unzigzag l dC dI cI cB cJ cZ ad H.size r1304 x1303  hw) ⟨callB_of 1 hT (gwt_in w_12_147) rfl rfl rfl (hT _ w_1_15) (hT _ w_12_145) (by decide +kernel) ⟨Nat.le_trans (Nat.le_of_ble_eq_true rfl) hRf, Nat.le_trans (Nat.le_of_ble_eq_true rfl) hRl⟩, hT _ w_12_146⟩ ⟨PW.blind, PW.at _ hW hK hN⟩ rfl rfl hl.1 rfl (lv_room (Nat.le_of_ble_eq_true rfl)) d_Mod_readLongs_63 ⟨hRc, hRs⟩) hS (fun q _ h => hF q h) hF (fun r1306 x1305 t H locs ht hvm hw hB hz1 hk1 hS => ?_)
      have hW := Wd.back hB ht hF
      clear hB ht hF hz1 hk1 hvm
      obtain ⟨hi, hw⟩ := hw
      refine w_last (o := 43) hx hb hK hW hS ko_43.1 ko_43.2 hi d_Mod_readLongs_66 (fun H locs hW hS => ?_)
      obtain ⟨x1307, ex1307⟩ : ∃ y : St, y = setL x1305 43 0 r1306 := ⟨_, rfl⟩
      rw [← ex1307] at hW
      have hw := hw x1307 ex1307
      exact t_Mod_readLongs_67 hx hb hml hown hT hK hN hA hRc hRs hRf hRl hret  l1 l2 l3 x1307 H locs ls  hw hW hS (lv_sub hl [0, 1, 2, 3] rfl)
  · have hw := hw.2 c1300
    exact hret x H locs 39 ls d_Mod_readLongs_39 hw hW hS
set_option maxRecDepth 100000 in
set_option maxHeartbeats 4000000 in
set_option maxRecDepth 100000 in
theorem t_Mod_readLongs_27 {p : Program} {l : Launch} {e : Env} {R : Room} {s : State} {m : MethodId} {args : Array Value} {below : List Frame} {meth : Method} {c : Code} {cells slots : Nat} {Q : State → Prop} {dC : Nat → ClassId} {dI : Nat → Nat → Nat} {cI cB cJ cZ : ClassId} {A : Nat → Prop} {ad : Nat → Nat} {post : St → Prop} (hx : p.tables.exec = Jvm.exec) (hb : c.code = b_Mod_readLongs) (hml : c.maxLocals = 6) (hown : s.vm.findClass R_Mod = some m.cls) (hT : ∀ w ∈ TG, w.before args s = true) (hK : va_K (dC, dI) CL (TY cI cB cJ cZ) s) (hN : NW s) (hA : ∀ q : Nat, s.heap.size ≤ q → A q) (hRc : cells ≤ R.cells) (hRs : slots ≤ R.slots) (hRf : 2 ≤ R.frames) (hRl : 57 ≤ R.locals) (hret : ∀ (x : St) (H : Heap) (locs : List Loc) (pc : Nat) (ls : Array Slot), decode b_Mod_readLongs pc = .ok (.return_, 1) → post x → Wd dC dI cI cB cJ cZ ad stM kcM 115 A x H → va_S A s.heap H locs → W p l e R s m args below meth c H locs cells slots Q (F0 m pc ls []))  : ∀ (l1 : Int32) (l2 : Int32) (l3 : Int64) (x : St) (H : Heap) (locs : List Loc) (ls : Array Slot), j_Mod_readLongs_27 post l1 l2 l3 x → Wd dC dI cI cB cJ cZ ad stM kcM 115 A x H → va_S A s.heap H locs → lv_has ls 6 [(0, .ref (ad 0)), (1, .int l1), (2, .int l2), (3, .long l3)] → W p l e R s m args below meth c H locs cells slots Q (F0 m 27 ls []) := by
  intro l1 l2 l3 x H locs ls  hw hW hS hl
  unfold j_Mod_readLongs_27 at hw
  refine lv_aload_n hx hb d_Mod_readLongs_27 rfl (lv_at hl 0 rfl) ?_
  refine lv_iconst (v := 4) hx hb d_Mod_readLongs_28 (by decide) ?_
  refine w_puti (ty := .int) (k := 69) (t := 12) (C := R_Mod) (T := F_Mod) (N := 167) hx hb hT hown hK hW hS ko_0.1 ko_0.2 (by decide) in_Mod t_Mod t_Mod_ok n_Mod rfl rfl (by decide) rfl fr_Mod_69 w_9_5 (by decide +kernel) rfl rfl d_Mod_readLongs_29 (fun H locs hW hS => ?_)
  obtain ⟨x1308, ex1308⟩ : ∃ y : St, y = setI x 0 69 4 := ⟨_, rfl⟩
  rw [← ex1308] at hW
  have hw := hw x1308 ex1308
  exact t_Mod_readLongs_32 hx hb hml hown hT hK hN hA hRc hRs hRf hRl hret  l1 l2 l3 x1308 H locs ls  hw hW hS (lv_sub hl [0, 1, 2, 3] rfl)
set_option maxRecDepth 100000 in
set_option maxHeartbeats 4000000 in
set_option maxRecDepth 100000 in
theorem t_Mod_readLongs_e {p : Program} {l : Launch} {e : Env} {R : Room} {s : State} {m : MethodId} {args : Array Value} {below : List Frame} {meth : Method} {c : Code} {cells slots : Nat} {Q : State → Prop} {dC : Nat → ClassId} {dI : Nat → Nat → Nat} {cI cB cJ cZ : ClassId} {A : Nat → Prop} {ad : Nat → Nat} {post : St → Prop} (hx : p.tables.exec = Jvm.exec) (hb : c.code = b_Mod_readLongs) (hml : c.maxLocals = 6) (hown : s.vm.findClass R_Mod = some m.cls) (hT : ∀ w ∈ TG, w.before args s = true) (hK : va_K (dC, dI) CL (TY cI cB cJ cZ) s) (hN : NW s) (hA : ∀ q : Nat, s.heap.size ≤ q → A q) (hRc : cells ≤ R.cells) (hRs : slots ≤ R.slots) (hRf : 2 ≤ R.frames) (hRl : 57 ≤ R.locals) (hret : ∀ (x : St) (H : Heap) (locs : List Loc) (pc : Nat) (ls : Array Slot), decode b_Mod_readLongs pc = .ok (.return_, 1) → post x → Wd dC dI cI cB cJ cZ ad stM kcM 115 A x H → va_S A s.heap H locs → W p l e R s m args below meth c H locs cells slots Q (F0 m pc ls [])) : ∀ (l1 : Int32) (l2 : Int32) (x : St) (H : Heap) (locs : List Loc) (ls : Array Slot), wp_Mod_readLongs post l1 l2 x → Wd dC dI cI cB cJ cZ ad stM kcM 115 A x H → va_S A s.heap H locs → lv_has ls 6 [(0, .ref (ad 0)), (1, .int l1), (2, .int l2)] → W p l e R s m args below meth c H locs cells slots Q (F0 m 0 ls []) := by
  intro l1 l2 x H locs ls  hw hW hS hl
  unfold wp_Mod_readLongs at hw
  refine lv_aload_n hx hb d_Mod_readLongs_0 rfl (lv_at hl 0 rfl) ?_
  refine lv_iload_n hx hb d_Mod_readLongs_1 rfl (lv_at hl 2 rfl) ?_
  have hF := hW.free hS hA
  refine va_calll (va_runV (C := R_Mod) (As := [.int l2]) (rest := []) ⟨hx, hb, hml, hown, hT⟩ (k_Mod_varint l dC dI cI cB cJ cZ ad H.size l2 x  hw) ⟨callB_of 1 hT (gwt_in w_12_124) rfl rfl rfl (hT _ w_1_15) (hT _ w_12_121) (by decide +kernel) ⟨Nat.le_trans (Nat.le_of_ble_eq_true rfl) hRf, Nat.le_trans (Nat.le_of_ble_eq_true rfl) hRl⟩, hT _ w_12_123, hT _ ws_187⟩ ⟨PW.blind, va_recv hK hW.1 (ci := 12) (q0 := 0) rfl (pic_obj ko_0.1 ko_0.2 (by decide)), PW.at _ hW hK hN⟩ rfl rfl hl.1 rfl (lv_room (Nat.le_of_ble_eq_true rfl)) d_Mod_readLongs_2 ⟨hRc, hRs⟩) hS (fun q _ h => hF q h) hF (fun r1310 x1309 t H locs ht hvm hw hB hz1 hk1 hS => ?_)
  have hW := Wd.back hB ht hF
  clear hB ht hF hz1 hk1 hvm
  refine lv_lstore_n (lv' := [(3, .long r1310), (0, .ref (ad 0)), (1, .int l1), (2, .int l2)]) hx hb d_Mod_readLongs_5 rfl hl (by decide) rfl (fun ls hl => ?_)
  refine lv_aload_n hx hb d_Mod_readLongs_6 rfl (lv_at hl 1 rfl) ?_
  refine w_geti (k := 69) (t := 12) (C := R_Mod) (T := F_Mod) (N := 167) hx hb hT hown hK hW ko_0.1 ko_0.2 (by decide) in_Mod rfl rfl (by decide) rfl fr_Mod_69 w_9_5 d_Mod_readLongs_7 ?_
  refine lv_if_ne (tgt := 32) hx hb d_Mod_readLongs_10 (by decide) (fun c1311 => ?_) (fun c1311 => ?_)
  · have hw := hw.1 c1311
    exact t_Mod_readLongs_32 hx hb hml hown hT hK hN hA hRc hRs hRf hRl hret  l1 l2 r1310 x1309 H locs ls  hw hW hS (lv_sub hl [1, 2, 3, 0] rfl)
  · have hw := hw.2 c1311
    refine lv_lload_n hx hb d_Mod_readLongs_13 rfl (lv_at hl 0 rfl) ?_
    refine lv_lconst (v := 0) hx hb d_Mod_readLongs_14 (by decide) ?_
    refine W.lcmp hx hb d_Mod_readLongs_15 ?_
    refine lv_if_lt (tgt := 27) hx hb d_Mod_readLongs_16 (by decide) (fun c1312 => ?_) (fun c1312 => ?_)
    · have hw := hw.1 c1312
      exact t_Mod_readLongs_27 hx hb hml hown hT hK hN hA hRc hRs hRf hRl hret  l1 l2 r1310 x1309 H locs ls  hw hW hS (lv_sub hl [1, 2, 3, 0] rfl)
    · have hw := hw.2 c1312
      refine lv_lload_n hx hb d_Mod_readLongs_19 rfl (lv_at hl 0 rfl) ?_
      refine lv_ldc2 hx hb hown (hT _ w_12_223) d_Mod_readLongs_20 ?_
      refine W.lcmp hx hb d_Mod_readLongs_23 ?_
      refine lv_if_le (tgt := 32) hx hb d_Mod_readLongs_24 (by decide) (fun c1313 => ?_) (fun c1313 => ?_)
      · have hw := hw.1 c1313
        exact t_Mod_readLongs_32 hx hb hml hown hT hK hN hA hRc hRs hRf hRl hret  l1 l2 r1310 x1309 H locs ls  hw hW hS (lv_sub hl [1, 2, 3, 0] rfl)
      · have hw := hw.2 c1313
        exact t_Mod_readLongs_27 hx hb hml hown hT hK hN hA hRc hRs hRf hRl hret  l1 l2 r1310 x1309 H locs ls  hw hW hS (lv_sub hl [1, 2, 3, 0] rfl)
set_option maxHeartbeats 4000000 in
set_option maxRecDepth 100000 in
theorem k_Mod_readLongs (l : Launch) (dC : Nat → ClassId) (dI : Nat → Nat → Nat) (cI cB cJ cZ : ClassId) (ad : Nat → Nat) (sz : Nat) (l1 : Int32) (l2 : Int32) (x : St) {post : St → Prop} (hw : wp_Mod_readLongs post l1 l2 x) : Met l y_Mod_readLongs (wsOf y_Mod_readLongs b_Mod_readLongs 6 (none)) ({ frames := 2, cells := 0, slots := 0, locals := 57 }) (va_Pc [.ref (ad 0), .int l1, .int l2] (PW dC dI cI cB cJ cZ ad stM kcM 115 sz x)) (va_Qv (fun (y : St) => post y) (fun y t => Wd dC dI cI cB cJ cZ ad stM kcM 115 (va_A (pic ad stM kcM 115 cI cB cJ cZ x) sz) y t.heap) (va_A (pic ad stM kcM 115 cI cB cJ cZ x) sz)) 0 0 (va_A (pic ad stM kcM 115 cI cB cJ cZ x) sz) := by
  refine Met.ofW (cc := b_Mod_readLongs) (maxL := 6) (ret := none) (by decide) rfl ?_
  intro p e s m args below meth c s₁ B hml hv
  obtain ⟨rfl, hsz, hW0, hK, hN⟩ := hv
  have hx := B.exec
  have hb := B.bytes
  have hr := B.returns
  have hts := atoms_spec B.pre
  have hT : ∀ w ∈ TG, w.before _ s = true := fun w h => hts w (List.mem_cons_of_mem _ h)
  have hown : s.vm.findClass R_Mod = some m.cls := findClass_of_methodNamed B.named
  have hlocks := B.notSynchronized
  subst hsz
  have hW : Wd dC dI cI cB cJ cZ ad stM kcM 115 (va_A (pic ad stM kcM 115 cI cB cJ cZ x) s.heap.size) x s.heap := ⟨hW0.1, hW0.2.1.self (sz := s.heap.size), hW0.2.2⟩
  generalize hAe : va_A (pic ad stM kcM 115 cI cB cJ cZ x) s.heap.size = A at hW ⊢
  have hA : ∀ q : Nat, s.heap.size ≤ q → A q := fun q h => by rw [← hAe]; exact Or.inr h
  have hS : va_S A s.heap s.heap [] := va_S.rf
  have hl := lv_entry ([.ref (ad 0), .int l1, .int l2]) (n := 6) (Nat.le_of_ble_eq_true rfl)
  rw [lg_entry_eq]
  generalize (lg_sl ([.ref (ad 0), .int l1, .int l2]) ++ List.replicate (6 - (lg_sl ([.ref (ad 0), .int l1, .int l2])).length) Slot.unset).toArray = ls at hl ⊢
  have hl : lv_has ls 6 [(0, .ref (ad 0)), (1, .int l1), (2, .int l2)] := hl
  exact t_Mod_readLongs_e hx hb hml hown hT hK hN hA (Nat.le_refl 0) (Nat.le_refl 0) (Nat.le_refl 2) (Nat.le_refl 57) (fun x H locs pc ls hd hp hW hS => W.vret hx hb hr (fun t ht hM => ⟨⟨x, rfl, hp, Wd.back hW ht.symm (fun _ z => z)⟩, hS.F ht⟩) hS.2.2 hd hlocks)  l1 l2 x _ _ ls  hw hW hS hl
set_option maxRecDepth 100000 in
set_option maxHeartbeats 4000000 in
set_option maxRecDepth 100000 in
theorem t_Mod_readCode_42 {p : Program} {l : Launch} {e : Env} {R : Room} {s : State} {m : MethodId} {args : Array Value} {below : List Frame} {meth : Method} {c : Code} {cells slots : Nat} {Q : State → Prop} {dC : Nat → ClassId} {dI : Nat → Nat → Nat} {cI cB cJ cZ : ClassId} {A : Nat → Prop} {ad : Nat → Nat} {post : St → Prop} (hx : p.tables.exec = Jvm.exec) (hb : c.code = b_Mod_readCode) (hml : c.maxLocals = 4) (hown : s.vm.findClass R_Mod = some m.cls) (hT : ∀ w ∈ TG, w.before args s = true) (hK : va_K (dC, dI) CL (TY cI cB cJ cZ) s) (hN : NW s) (hA : ∀ q : Nat, s.heap.size ≤ q → A q) (hRc : cells ≤ R.cells) (hRs : slots ≤ R.slots) (hRf : 3 ≤ R.frames) (hRl : 82 ≤ R.locals) (hret : ∀ (x : St) (H : Heap) (locs : List Loc) (pc : Nat) (ls : Array Slot), decode b_Mod_readCode pc = .ok (.return_, 1) → post x → Wd dC dI cI cB cJ cZ ad stM kcM 115 A x H → va_S A s.heap H locs → W p l e R s m args below meth c H locs cells slots Q (F0 m pc ls []))  : ∀ (l1 : Int32) (l2 : Int64) (x : St) (H : Heap) (locs : List Loc) (ls : Array Slot), j_Mod_readCode_42 post l1 l2 x → Wd dC dI cI cB cJ cZ ad stM kcM 115 A x H → va_S A s.heap H locs → lv_has ls 4 [(0, .ref (ad 0)), (1, .int l1), (2, .long l2)] → W p l e R s m args below meth c H locs cells slots Q (F0 m 42 ls []) := by
  intro l1 l2 x H locs ls  hw hW hS hl
  unfold j_Mod_readCode_42 at hw
  refine lv_aload_n hx hb d_Mod_readCode_42 rfl (lv_at hl 0 rfl) ?_
  refine w_geti (k := 69) (t := 12) (C := R_Mod) (T := F_Mod) (N := 167) hx hb hT hown hK hW ko_0.1 ko_0.2 (by decide) in_Mod rfl rfl (by decide) rfl fr_Mod_69 w_9_5 d_Mod_readCode_43 ?_
  refine lv_if_ne (tgt := 61) hx hb d_Mod_readCode_46 (by decide) (fun c1314 => ?_) (fun c1314 => ?_)
  · have hw := hw.1 c1314
    exact hret x H locs 61 ls d_Mod_readCode_61 hw hW hS
  · have hw := hw.2 c1314
    refine lv_aload_n hx hb d_Mod_readCode_49 rfl (lv_at hl 0 rfl) ?_
    refine lv_iload_n hx hb d_Mod_readCode_50 rfl (lv_at hl 1 rfl) ?_
    refine lv_aload_n hx hb d_Mod_readCode_51 rfl (lv_at hl 0 rfl) ?_
    refine w_geti (k := 67) (t := 12) (C := R_Mod) (T := F_Mod) (N := 167) hx hb hT hown hK hW ko_0.1 ko_0.2 (by decide) in_Mod rfl rfl (by decide) rfl fr_Mod_67 w_9_3 d_Mod_readCode_52 ?_
    refine lv_lload_n hx hb d_Mod_readCode_55 rfl (lv_at hl 2 rfl) ?_
    refine lv_l2i hx hb d_Mod_readCode_56 rfl ?_
    refine lv_iadd hx hb d_Mod_readCode_57 ?_
    have hF := hW.free hS hA
    refine va_callv (va_runV (C := R_Mod) (As := [.int l1, .int ((fI x 0 67) + (l2 : Int64).toInt32)]) (rest := []) ⟨hx, hb, hml, hown, hT⟩ (k_Mod_readLongs l dC dI cI cB cJ cZ ad H.size l1 ((fI x 0 67) + (l2 : Int64).toInt32) x  hw) ⟨callB_of 2 hT (gwt_in w_12_222) rfl rfl rfl (hT _ w_1_15) (hT _ w_12_219) (by decide +kernel) ⟨Nat.le_trans (Nat.le_of_ble_eq_true rfl) hRf, Nat.le_trans (Nat.le_of_ble_eq_true rfl) hRl⟩, hT _ w_12_221, hT _ ws_209⟩ ⟨PW.blind, va_recv hK hW.1 (ci := 12) (q0 := 0) rfl (pic_obj ko_0.1 ko_0.2 (by decide)), PW.at _ hW hK hN⟩ rfl rfl hl.1 rfl (lv_room (Nat.le_of_ble_eq_true rfl)) d_Mod_readCode_58 ⟨hRc, hRs⟩) hS (fun q _ h => hF q h) hF (fun  x1315 t H locs ht hvm hw hB hz1 hk1 hS => ?_)
    have hW := Wd.back hB ht hF
    clear hB ht hF hz1 hk1 hvm
    exact hret x1315 H locs 61 ls d_Mod_readCode_61 hw hW hS
set_option maxRecDepth 100000 in
set_option maxHeartbeats 4000000 in
set_option maxRecDepth 100000 in
theorem t_Mod_readCode_37 {p : Program} {l : Launch} {e : Env} {R : Room} {s : State} {m : MethodId} {args : Array Value} {below : List Frame} {meth : Method} {c : Code} {cells slots : Nat} {Q : State → Prop} {dC : Nat → ClassId} {dI : Nat → Nat → Nat} {cI cB cJ cZ : ClassId} {A : Nat → Prop} {ad : Nat → Nat} {post : St → Prop} (hx : p.tables.exec = Jvm.exec) (hb : c.code = b_Mod_readCode) (hml : c.maxLocals = 4) (hown : s.vm.findClass R_Mod = some m.cls) (hT : ∀ w ∈ TG, w.before args s = true) (hK : va_K (dC, dI) CL (TY cI cB cJ cZ) s) (hN : NW s) (hA : ∀ q : Nat, s.heap.size ≤ q → A q) (hRc : cells ≤ R.cells) (hRs : slots ≤ R.slots) (hRf : 3 ≤ R.frames) (hRl : 82 ≤ R.locals) (hret : ∀ (x : St) (H : Heap) (locs : List Loc) (pc : Nat) (ls : Array Slot), decode b_Mod_readCode pc = .ok (.return_, 1) → post x → Wd dC dI cI cB cJ cZ ad stM kcM 115 A x H → va_S A s.heap H locs → W p l e R s m args below meth c H locs cells slots Q (F0 m pc ls []))  : ∀ (l1 : Int32) (l2 : Int64) (x : St) (H : Heap) (locs : List Loc) (ls : Array Slot), j_Mod_readCode_37 post l1 l2 x → Wd dC dI cI cB cJ cZ ad stM kcM 115 A x H → va_S A s.heap H locs → lv_has ls 4 [(0, .ref (ad 0)), (1, .int l1), (2, .long l2)] → W p l e R s m args below meth c H locs cells slots Q (F0 m 37 ls []) := by
  intro l1 l2 x H locs ls  hw hW hS hl
  unfold j_Mod_readCode_37 at hw
  refine lv_aload_n hx hb d_Mod_readCode_37 rfl (lv_at hl 0 rfl) ?_
  refine lv_iconst (v := 1) hx hb d_Mod_readCode_38 (by decide) ?_
  refine w_puti (ty := .int) (k := 69) (t := 12) (C := R_Mod) (T := F_Mod) (N := 167) hx hb hT hown hK hW hS ko_0.1 ko_0.2 (by decide) in_Mod t_Mod t_Mod_ok n_Mod rfl rfl (by decide) rfl fr_Mod_69 w_9_5 (by decide +kernel) rfl rfl d_Mod_readCode_39 (fun H locs hW hS => ?_)
  obtain ⟨x1316, ex1316⟩ : ∃ y : St, y = setI x 0 69 1 := ⟨_, rfl⟩
  rw [← ex1316] at hW
  have hw := hw x1316 ex1316
  exact t_Mod_readCode_42 hx hb hml hown hT hK hN hA hRc hRs hRf hRl hret  l1 l2 x1316 H locs ls  hw hW hS (lv_sub hl [0, 1, 2] rfl)
set_option maxRecDepth 100000 in
set_option maxHeartbeats 4000000 in
set_option maxRecDepth 100000 in
theorem t_Mod_readCode_e {p : Program} {l : Launch} {e : Env} {R : Room} {s : State} {m : MethodId} {args : Array Value} {below : List Frame} {meth : Method} {c : Code} {cells slots : Nat} {Q : State → Prop} {dC : Nat → ClassId} {dI : Nat → Nat → Nat} {cI cB cJ cZ : ClassId} {A : Nat → Prop} {ad : Nat → Nat} {post : St → Prop} (hx : p.tables.exec = Jvm.exec) (hb : c.code = b_Mod_readCode) (hml : c.maxLocals = 4) (hown : s.vm.findClass R_Mod = some m.cls) (hT : ∀ w ∈ TG, w.before args s = true) (hK : va_K (dC, dI) CL (TY cI cB cJ cZ) s) (hN : NW s) (hA : ∀ q : Nat, s.heap.size ≤ q → A q) (hRc : cells ≤ R.cells) (hRs : slots ≤ R.slots) (hRf : 3 ≤ R.frames) (hRl : 82 ≤ R.locals) (hret : ∀ (x : St) (H : Heap) (locs : List Loc) (pc : Nat) (ls : Array Slot), decode b_Mod_readCode pc = .ok (.return_, 1) → post x → Wd dC dI cI cB cJ cZ ad stM kcM 115 A x H → va_S A s.heap H locs → W p l e R s m args below meth c H locs cells slots Q (F0 m pc ls [])) : ∀ (l1 : Int32) (x : St) (H : Heap) (locs : List Loc) (ls : Array Slot), wp_Mod_readCode post l1 x → Wd dC dI cI cB cJ cZ ad stM kcM 115 A x H → va_S A s.heap H locs → lv_has ls 4 [(0, .ref (ad 0)), (1, .int l1)] → W p l e R s m args below meth c H locs cells slots Q (F0 m 0 ls []) := by
  intro l1 x H locs ls  hw hW hS hl
  unfold wp_Mod_readCode at hw
  refine lv_aload_n hx hb d_Mod_readCode_0 rfl (lv_at hl 0 rfl) ?_
  refine lv_aload_n hx hb d_Mod_readCode_1 rfl (lv_at hl 0 rfl) ?_
  refine w_geti (k := 68) (t := 12) (C := R_Mod) (T := F_Mod) (N := 167) hx hb hT hown hK hW ko_0.1 ko_0.2 (by decide) in_Mod rfl rfl (by decide) rfl fr_Mod_68 w_9_4 d_Mod_readCode_2 ?_
  have hF := hW.free hS hA
  refine va_calll (va_runV (C := R_Mod) (As := [.int (fI x 0 68)]) (rest := []) ⟨hx, hb, hml, hown, hT⟩ (k_Mod_varint l dC dI cI cB cJ cZ ad H.size (fI x 0 68) x  hw) ⟨callB_of 1 hT (gwt_in w_12_124) rfl rfl rfl (hT _ w_1_15) (hT _ w_12_121) (by decide +kernel) ⟨Nat.le_trans (Nat.le_of_ble_eq_true rfl) hRf, Nat.le_trans (Nat.le_of_ble_eq_true rfl) hRl⟩, hT _ w_12_123, hT _ ws_187⟩ ⟨PW.blind, va_recv hK hW.1 (ci := 12) (q0 := 0) rfl (pic_obj ko_0.1 ko_0.2 (by decide)), PW.at _ hW hK hN⟩ rfl rfl hl.1 rfl (lv_room (Nat.le_of_ble_eq_true rfl)) d_Mod_readCode_5 ⟨hRc, hRs⟩) hS (fun q _ h => hF q h) hF (fun r1318 x1317 t H locs ht hvm hw hB hz1 hk1 hS => ?_)
  have hW := Wd.back hB ht hF
  clear hB ht hF hz1 hk1 hvm
  refine lv_lstore_n (lv' := [(2, .long r1318), (0, .ref (ad 0)), (1, .int l1)]) hx hb d_Mod_readCode_8 rfl hl (by decide) rfl (fun ls hl => ?_)
  refine lv_aload_n hx hb d_Mod_readCode_9 rfl (lv_at hl 1 rfl) ?_
  refine w_geti (k := 69) (t := 12) (C := R_Mod) (T := F_Mod) (N := 167) hx hb hT hown hK hW ko_0.1 ko_0.2 (by decide) in_Mod rfl rfl (by decide) rfl fr_Mod_69 w_9_5 d_Mod_readCode_10 ?_
  refine lv_if_ne (tgt := 42) hx hb d_Mod_readCode_13 (by decide) (fun c1319 => ?_) (fun c1319 => ?_)
  · have hw := hw.1 c1319
    exact t_Mod_readCode_42 hx hb hml hown hT hK hN hA hRc hRs hRf hRl hret  l1 r1318 x1317 H locs ls  hw hW hS (lv_sub hl [1, 2, 0] rfl)
  · have hw := hw.2 c1319
    refine lv_lload_n hx hb d_Mod_readCode_16 rfl (lv_at hl 0 rfl) ?_
    refine lv_lconst (v := 0) hx hb d_Mod_readCode_17 (by decide) ?_
    refine W.lcmp hx hb d_Mod_readCode_18 ?_
    refine lv_if_lt (tgt := 37) hx hb d_Mod_readCode_19 (by decide) (fun c1320 => ?_) (fun c1320 => ?_)
    · have hw := hw.1 c1320
      exact t_Mod_readCode_37 hx hb hml hown hT hK hN hA hRc hRs hRf hRl hret  l1 r1318 x1317 H locs ls  hw hW hS (lv_sub hl [1, 2, 0] rfl)
    · have hw := hw.2 c1320
      refine lv_lload_n hx hb d_Mod_readCode_22 rfl (lv_at hl 0 rfl) ?_
      refine lv_aload_n hx hb d_Mod_readCode_23 rfl (lv_at hl 1 rfl) ?_
      refine w_geti (k := 68) (t := 12) (C := R_Mod) (T := F_Mod) (N := 167) hx hb hT hown hK hW ko_0.1 ko_0.2 (by decide) in_Mod rfl rfl (by decide) rfl fr_Mod_68 w_9_4 d_Mod_readCode_24 ?_
      refine lv_aload_n hx hb d_Mod_readCode_27 rfl (lv_at hl 1 rfl) ?_
      refine w_geti (k := 67) (t := 12) (C := R_Mod) (T := F_Mod) (N := 167) hx hb hT hown hK hW ko_0.1 ko_0.2 (by decide) in_Mod rfl rfl (by decide) rfl fr_Mod_67 w_9_3 d_Mod_readCode_28 ?_
      refine lv_isub hx hb d_Mod_readCode_31 ?_
      refine lv_i2l hx hb d_Mod_readCode_32 rfl ?_
      refine W.lcmp hx hb d_Mod_readCode_33 ?_
      refine lv_if_le (tgt := 42) hx hb d_Mod_readCode_34 (by decide) (fun c1321 => ?_) (fun c1321 => ?_)
      · have hw := hw.1 c1321
        exact t_Mod_readCode_42 hx hb hml hown hT hK hN hA hRc hRs hRf hRl hret  l1 r1318 x1317 H locs ls  hw hW hS (lv_sub hl [1, 2, 0] rfl)
      · have hw := hw.2 c1321
        exact t_Mod_readCode_37 hx hb hml hown hT hK hN hA hRc hRs hRf hRl hret  l1 r1318 x1317 H locs ls  hw hW hS (lv_sub hl [1, 2, 0] rfl)
set_option maxHeartbeats 4000000 in
set_option maxRecDepth 100000 in
theorem k_Mod_readCode (l : Launch) (dC : Nat → ClassId) (dI : Nat → Nat → Nat) (cI cB cJ cZ : ClassId) (ad : Nat → Nat) (sz : Nat) (l1 : Int32) (x : St) {post : St → Prop} (hw : wp_Mod_readCode post l1 x) : Met l y_Mod_readCode (wsOf y_Mod_readCode b_Mod_readCode 4 (none)) ({ frames := 3, cells := 0, slots := 0, locals := 82 }) (va_Pc [.ref (ad 0), .int l1] (PW dC dI cI cB cJ cZ ad stM kcM 115 sz x)) (va_Qv (fun (y : St) => post y) (fun y t => Wd dC dI cI cB cJ cZ ad stM kcM 115 (va_A (pic ad stM kcM 115 cI cB cJ cZ x) sz) y t.heap) (va_A (pic ad stM kcM 115 cI cB cJ cZ x) sz)) 0 0 (va_A (pic ad stM kcM 115 cI cB cJ cZ x) sz) := by
  refine Met.ofW (cc := b_Mod_readCode) (maxL := 4) (ret := none) (by decide) rfl ?_
  intro p e s m args below meth c s₁ B hml hv
  obtain ⟨rfl, hsz, hW0, hK, hN⟩ := hv
  have hx := B.exec
  have hb := B.bytes
  have hr := B.returns
  have hts := atoms_spec B.pre
  have hT : ∀ w ∈ TG, w.before _ s = true := fun w h => hts w (List.mem_cons_of_mem _ h)
  have hown : s.vm.findClass R_Mod = some m.cls := findClass_of_methodNamed B.named
  have hlocks := B.notSynchronized
  subst hsz
  have hW : Wd dC dI cI cB cJ cZ ad stM kcM 115 (va_A (pic ad stM kcM 115 cI cB cJ cZ x) s.heap.size) x s.heap := ⟨hW0.1, hW0.2.1.self (sz := s.heap.size), hW0.2.2⟩
  generalize hAe : va_A (pic ad stM kcM 115 cI cB cJ cZ x) s.heap.size = A at hW ⊢
  have hA : ∀ q : Nat, s.heap.size ≤ q → A q := fun q h => by rw [← hAe]; exact Or.inr h
  have hS : va_S A s.heap s.heap [] := va_S.rf
  have hl := lv_entry ([.ref (ad 0), .int l1]) (n := 4) (Nat.le_of_ble_eq_true rfl)
  rw [lg_entry_eq]
  generalize (lg_sl ([.ref (ad 0), .int l1]) ++ List.replicate (4 - (lg_sl ([.ref (ad 0), .int l1])).length) Slot.unset).toArray = ls at hl ⊢
  have hl : lv_has ls 4 [(0, .ref (ad 0)), (1, .int l1)] := hl
  exact t_Mod_readCode_e hx hb hml hown hT hK hN hA (Nat.le_refl 0) (Nat.le_refl 0) (Nat.le_refl 3) (Nat.le_refl 82) (fun x H locs pc ls hd hp hW hS => W.vret hx hb hr (fun t ht hM => ⟨⟨x, rfl, hp, Wd.back hW ht.symm (fun _ z => z)⟩, hS.F ht⟩) hS.2.2 hd hlocks)  l1 x _ _ ls  hw hW hS hl
set_option maxRecDepth 100000 in
set_option maxHeartbeats 4000000 in
set_option maxRecDepth 100000 in
theorem t_Mod_readLengths_57 {p : Program} {l : Launch} {e : Env} {R : Room} {s : State} {m : MethodId} {args : Array Value} {below : List Frame} {meth : Method} {c : Code} {cells slots : Nat} {Q : State → Prop} {dC : Nat → ClassId} {dI : Nat → Nat → Nat} {cI cB cJ cZ : ClassId} {A : Nat → Prop} {ad : Nat → Nat} {post : St → Prop} {rec57 : Int32 → Int32 → St → Prop} (hx : p.tables.exec = Jvm.exec) (hb : c.code = b_Mod_readLengths) (hml : c.maxLocals = 3) (hown : s.vm.findClass R_Mod = some m.cls) (hT : ∀ w ∈ TG, w.before args s = true) (hK : va_K (dC, dI) CL (TY cI cB cJ cZ) s) (hN : NW s) (hA : ∀ q : Nat, s.heap.size ≤ q → A q) (hRc : cells ≤ R.cells) (hRs : slots ≤ R.slots) (hRf : 4 ≤ R.frames) (hRl : 105 ≤ R.locals) (hret : ∀ (x : St) (H : Heap) (locs : List Loc) (pc : Nat) (ls : Array Slot), decode b_Mod_readLengths pc = .ok (.return_, 1) → post x → Wd dC dI cI cB cJ cZ ad stM kcM 115 A x H → va_S A s.heap H locs → W p l e R s m args below meth c H locs cells slots Q (F0 m pc ls [])) (hrec57 : ∀ (l1 : Int32) (l2 : Int32) (x : St) (H : Heap) (locs : List Loc) (ls : Array Slot), rec57 l1 l2 x → Wd dC dI cI cB cJ cZ ad stM kcM 115 A x H → va_S A s.heap H locs → lv_has ls 3 [(0, .ref (ad 0)), (1, .int l1), (2, .int l2)] → W p l e R s m args below meth c H locs cells slots Q (F0 m 57 ls [])) : ∀ (l1 : Int32) (l2 : Int32) (x : St) (H : Heap) (locs : List Loc) (ls : Array Slot), j_Mod_readLengths_57 post rec57 l1 l2 x → Wd dC dI cI cB cJ cZ ad stM kcM 115 A x H → va_S A s.heap H locs → lv_has ls 3 [(0, .ref (ad 0)), (1, .int l1), (2, .int l2)] → W p l e R s m args below meth c H locs cells slots Q (F0 m 57 ls []) := by
  intro l1 l2 x H locs ls  hw hW hS hl
  unfold j_Mod_readLengths_57 at hw
  refine lv_iload_n hx hb d_Mod_readLengths_57 rfl (lv_at hl 2 rfl) ?_
  refine lv_iload_n hx hb d_Mod_readLengths_58 rfl (lv_at hl 1 rfl) ?_
  refine lv_icmp_ge (tgt := 87) hx hb d_Mod_readLengths_59 (by decide) (fun c1322 => ?_) (fun c1322 => ?_)
  · have hw := hw.1 c1322
    exact hret x H locs 87 ls d_Mod_readLengths_87 hw hW hS
  · have hw := hw.2 c1322
    refine lv_aload_n hx hb d_Mod_readLengths_62 rfl (lv_at hl 0 rfl) ?_
    refine w_geti (k := 69) (t := 12) (C := R_Mod) (T := F_Mod) (N := 167) hx hb hT hown hK hW ko_0.1 ko_0.2 (by decide) in_Mod rfl rfl (by decide) rfl fr_Mod_69 w_9_5 d_Mod_readLengths_63 ?_
    refine lv_if_ne (tgt := 87) hx hb d_Mod_readLengths_66 (by decide) (fun c1323 => ?_) (fun c1323 => ?_)
    · have hw := hw.1 c1323
      exact hret x H locs 87 ls d_Mod_readLengths_87 hw hW hS
    · have hw := hw.2 c1323
      refine lv_aload_n hx hb d_Mod_readLengths_69 rfl (lv_at hl 0 rfl) ?_
      refine lv_aload_n hx hb d_Mod_readLengths_70 rfl (lv_at hl 0 rfl) ?_
      refine w_getf (q := 43) (k := 70) (t := 12) (C := R_Mod) (T := F_Mod) (N := 167) hx hb hT hown hK hW ko_0.1 ko_0.2 (by decide) in_Mod rfl rfl (by decide) rfl fr_Mod_70 w_9_6 d_Mod_readLengths_71 rfl ?_
      refine lv_iload_n hx hb d_Mod_readLengths_74 rfl (lv_at hl 2 rfl) ?_
      obtain ⟨hi, hw⟩ := hw
      refine w_lald (o := 43) hx hb hK hW ko_43.1 ko_43.2 hi d_Mod_readLengths_75 ?_
      refine lv_l2i hx hb d_Mod_readLengths_76 rfl ?_
      refine lv_iconst (v := 0) hx hb d_Mod_readLengths_77 (by decide) ?_
      have hF := hW.free hS hA
      refine va_callv (va_runV (C := R_Mod) (As := [.int ((rL x 43 l2) : Int64).toInt32, .int 0]) (rest := []) ⟨hx, hb, hml, hown, hT⟩ (k_Mod_takeText l dC dI cI cB cJ cZ ad H.size ((rL x 43 l2) : Int64).toInt32 0 x  hw) ⟨callB_of 2 hT (gwt_in w_12_210) rfl rfl rfl (hT _ w_1_15) (hT _ w_12_207) (by decide +kernel) ⟨Nat.le_trans (Nat.le_of_ble_eq_true rfl) hRf, Nat.le_trans (Nat.le_of_ble_eq_true rfl) hRl⟩, hT _ w_12_209, hT _ ws_206⟩ ⟨PW.blind, va_recv hK hW.1 (ci := 12) (q0 := 0) rfl (pic_obj ko_0.1 ko_0.2 (by decide)), PW.at _ hW hK hN⟩ rfl rfl hl.1 rfl (lv_room (Nat.le_of_ble_eq_true rfl)) d_Mod_readLengths_78 ⟨hRc, hRs⟩) hS (fun q _ h => hF q h) hF (fun  x1324 t H locs ht hvm hw hB hz1 hk1 hS => ?_)
      have hW := Wd.back hB ht hF
      clear hB ht hF hz1 hk1 hvm
      refine lv_iinc (v := (l2 + 1)) (lv' := [(2, .int (l2 + 1)), (0, .ref (ad 0)), (1, .int l1)]) hx hb d_Mod_readLengths_81 hl (k := 2) rfl rfl (by decide) rfl (fun ls hl => ?_)
      refine lv_goto (tgt := 57) hx hb d_Mod_readLengths_84 (by decide) ?_
      exact hrec57 l1 (l2 + 1) x1324 H locs ls  hw hW hS (lv_sub hl [1, 2, 0] rfl)
set_option maxHeartbeats 4000000 in
set_option maxRecDepth 100000 in
theorem tl_Mod_readLengths_57 {p : Program} {l : Launch} {e : Env} {R : Room} {s : State} {m : MethodId} {args : Array Value} {below : List Frame} {meth : Method} {c : Code} {cells slots : Nat} {Q : State → Prop} {dC : Nat → ClassId} {dI : Nat → Nat → Nat} {cI cB cJ cZ : ClassId} {A : Nat → Prop} {ad : Nat → Nat} {post : St → Prop} (hx : p.tables.exec = Jvm.exec) (hb : c.code = b_Mod_readLengths) (hml : c.maxLocals = 3) (hown : s.vm.findClass R_Mod = some m.cls) (hT : ∀ w ∈ TG, w.before args s = true) (hK : va_K (dC, dI) CL (TY cI cB cJ cZ) s) (hN : NW s) (hA : ∀ q : Nat, s.heap.size ≤ q → A q) (hRc : cells ≤ R.cells) (hRs : slots ≤ R.slots) (hRf : 4 ≤ R.frames) (hRl : 105 ≤ R.locals) (hret : ∀ (x : St) (H : Heap) (locs : List Loc) (pc : Nat) (ls : Array Slot), decode b_Mod_readLengths pc = .ok (.return_, 1) → post x → Wd dC dI cI cB cJ cZ ad stM kcM 115 A x H → va_S A s.heap H locs → W p l e R s m args below meth c H locs cells slots Q (F0 m pc ls []))  : ∀ n : Nat, ∀ (l1 : Int32) (l2 : Int32) (x : St) (H : Heap) (locs : List Loc) (ls : Array Slot), wl_Mod_readLengths_57 post n l1 l2 x → Wd dC dI cI cB cJ cZ ad stM kcM 115 A x H → va_S A s.heap H locs → lv_has ls 3 [(0, .ref (ad 0)), (1, .int l1), (2, .int l2)] → W p l e R s m args below meth c H locs cells slots Q (F0 m 57 ls []) := by
  intro n
  induction n with
  | zero => intro l1 l2 x H locs ls  hw; exact hw.elim
  | succ n ih => intro l1 l2 x H locs ls  hw hW hS hl; exact t_Mod_readLengths_57 hx hb hml hown hT hK hN hA hRc hRs hRf hRl hret  ih l1 l2 x H locs ls  hw hW hS hl
set_option maxRecDepth 100000 in
set_option maxHeartbeats 4000000 in
set_option maxRecDepth 100000 in
theorem t_Mod_readLengths_55 {p : Program} {l : Launch} {e : Env} {R : Room} {s : State} {m : MethodId} {args : Array Value} {below : List Frame} {meth : Method} {c : Code} {cells slots : Nat} {Q : State → Prop} {dC : Nat → ClassId} {dI : Nat → Nat → Nat} {cI cB cJ cZ : ClassId} {A : Nat → Prop} {ad : Nat → Nat} {post : St → Prop} (hx : p.tables.exec = Jvm.exec) (hb : c.code = b_Mod_readLengths) (hml : c.maxLocals = 3) (hown : s.vm.findClass R_Mod = some m.cls) (hT : ∀ w ∈ TG, w.before args s = true) (hK : va_K (dC, dI) CL (TY cI cB cJ cZ) s) (hN : NW s) (hA : ∀ q : Nat, s.heap.size ≤ q → A q) (hRc : cells ≤ R.cells) (hRs : slots ≤ R.slots) (hRf : 4 ≤ R.frames) (hRl : 105 ≤ R.locals) (hret : ∀ (x : St) (H : Heap) (locs : List Loc) (pc : Nat) (ls : Array Slot), decode b_Mod_readLengths pc = .ok (.return_, 1) → post x → Wd dC dI cI cB cJ cZ ad stM kcM 115 A x H → va_S A s.heap H locs → W p l e R s m args below meth c H locs cells slots Q (F0 m pc ls []))  : ∀ (l1 : Int32) (l2 : Int32) (x : St) (H : Heap) (locs : List Loc) (ls : Array Slot), j_Mod_readLengths_55 post l1 l2 x → Wd dC dI cI cB cJ cZ ad stM kcM 115 A x H → va_S A s.heap H locs → lv_has ls 3 [(0, .ref (ad 0)), (1, .int l1), (2, .int l2)] → W p l e R s m args below meth c H locs cells slots Q (F0 m 55 ls []) := by
  intro l1 l2 x H locs ls  hw hW hS hl
  unfold j_Mod_readLengths_55 at hw
  refine lv_iconst (v := 0) hx hb d_Mod_readLengths_55 (by decide) ?_
  refine lv_istore_n (lv' := [(2, .int 0), (0, .ref (ad 0)), (1, .int l1)]) hx hb d_Mod_readLengths_56 rfl hl (by decide) rfl (fun ls hl => ?_)
  obtain ⟨n, hw⟩ := hw
  exact tl_Mod_readLengths_57 hx hb hml hown hT hK hN hA hRc hRs hRf hRl hret  n l1 0 x H locs ls  hw hW hS (lv_sub hl [1, 2, 0] rfl)
set_option maxRecDepth 100000 in
set_option maxHeartbeats 4000000 in
set_option maxRecDepth 100000 in
theorem t_Mod_readLengths_49 {p : Program} {l : Launch} {e : Env} {R : Room} {s : State} {m : MethodId} {args : Array Value} {below : List Frame} {meth : Method} {c : Code} {cells slots : Nat} {Q : State → Prop} {dC : Nat → ClassId} {dI : Nat → Nat → Nat} {cI cB cJ cZ : ClassId} {A : Nat → Prop} {ad : Nat → Nat} {post : St → Prop} {rec7 : Int32 → Int32 → St → Prop} (hx : p.tables.exec = Jvm.exec) (hb : c.code = b_Mod_readLengths) (hml : c.maxLocals = 3) (hown : s.vm.findClass R_Mod = some m.cls) (hT : ∀ w ∈ TG, w.before args s = true) (hK : va_K (dC, dI) CL (TY cI cB cJ cZ) s) (hN : NW s) (hA : ∀ q : Nat, s.heap.size ≤ q → A q) (hRc : cells ≤ R.cells) (hRs : slots ≤ R.slots) (hRf : 4 ≤ R.frames) (hRl : 105 ≤ R.locals) (hret : ∀ (x : St) (H : Heap) (locs : List Loc) (pc : Nat) (ls : Array Slot), decode b_Mod_readLengths pc = .ok (.return_, 1) → post x → Wd dC dI cI cB cJ cZ ad stM kcM 115 A x H → va_S A s.heap H locs → W p l e R s m args below meth c H locs cells slots Q (F0 m pc ls [])) (hrec7 : ∀ (l1 : Int32) (l2 : Int32) (x : St) (H : Heap) (locs : List Loc) (ls : Array Slot), rec7 l1 l2 x → Wd dC dI cI cB cJ cZ ad stM kcM 115 A x H → va_S A s.heap H locs → lv_has ls 3 [(0, .ref (ad 0)), (1, .int l1), (2, .int l2)] → W p l e R s m args below meth c H locs cells slots Q (F0 m 7 ls [])) : ∀ (l1 : Int32) (l2 : Int32) (x : St) (H : Heap) (locs : List Loc) (ls : Array Slot), j_Mod_readLengths_49 post rec7 l1 l2 x → Wd dC dI cI cB cJ cZ ad stM kcM 115 A x H → va_S A s.heap H locs → lv_has ls 3 [(0, .ref (ad 0)), (1, .int l1), (2, .int l2)] → W p l e R s m args below meth c H locs cells slots Q (F0 m 49 ls []) := by
  intro l1 l2 x H locs ls  hw hW hS hl
  unfold j_Mod_readLengths_49 at hw
  refine lv_iinc (v := (l2 + 1)) (lv' := [(2, .int (l2 + 1)), (0, .ref (ad 0)), (1, .int l1)]) hx hb d_Mod_readLengths_49 hl (k := 2) rfl rfl (by decide) rfl (fun ls hl => ?_)
  refine lv_goto (tgt := 7) hx hb d_Mod_readLengths_52 (by decide) ?_
  exact hrec7 l1 (l2 + 1) x H locs ls  hw hW hS (lv_sub hl [1, 2, 0] rfl)
set_option maxRecDepth 100000 in
set_option maxHeartbeats 4000000 in
set_option maxRecDepth 100000 in
theorem t_Mod_readLengths_43 {p : Program} {l : Launch} {e : Env} {R : Room} {s : State} {m : MethodId} {args : Array Value} {below : List Frame} {meth : Method} {c : Code} {cells slots : Nat} {Q : State → Prop} {dC : Nat → ClassId} {dI : Nat → Nat → Nat} {cI cB cJ cZ : ClassId} {A : Nat → Prop} {ad : Nat → Nat} {post : St → Prop} {rec7 : Int32 → Int32 → St → Prop} (hx : p.tables.exec = Jvm.exec) (hb : c.code = b_Mod_readLengths) (hml : c.maxLocals = 3) (hown : s.vm.findClass R_Mod = some m.cls) (hT : ∀ w ∈ TG, w.before args s = true) (hK : va_K (dC, dI) CL (TY cI cB cJ cZ) s) (hN : NW s) (hA : ∀ q : Nat, s.heap.size ≤ q → A q) (hRc : cells ≤ R.cells) (hRs : slots ≤ R.slots) (hRf : 4 ≤ R.frames) (hRl : 105 ≤ R.locals) (hret : ∀ (x : St) (H : Heap) (locs : List Loc) (pc : Nat) (ls : Array Slot), decode b_Mod_readLengths pc = .ok (.return_, 1) → post x → Wd dC dI cI cB cJ cZ ad stM kcM 115 A x H → va_S A s.heap H locs → W p l e R s m args below meth c H locs cells slots Q (F0 m pc ls [])) (hrec7 : ∀ (l1 : Int32) (l2 : Int32) (x : St) (H : Heap) (locs : List Loc) (ls : Array Slot), rec7 l1 l2 x → Wd dC dI cI cB cJ cZ ad stM kcM 115 A x H → va_S A s.heap H locs → lv_has ls 3 [(0, .ref (ad 0)), (1, .int l1), (2, .int l2)] → W p l e R s m args below meth c H locs cells slots Q (F0 m 7 ls [])) : ∀ (l1 : Int32) (l2 : Int32) (x : St) (H : Heap) (locs : List Loc) (ls : Array Slot), j_Mod_readLengths_43 post rec7 l1 l2 x → Wd dC dI cI cB cJ cZ ad stM kcM 115 A x H → va_S A s.heap H locs → lv_has ls 3 [(0, .ref (ad 0)), (1, .int l1), (2, .int l2)] → W p l e R s m args below meth c H locs cells slots Q (F0 m 43 ls []) := by
  intro l1 l2 x H locs ls  hw hW hS hl
  unfold j_Mod_readLengths_43 at hw
  refine lv_aload_n hx hb d_Mod_readLengths_43 rfl (lv_at hl 0 rfl) ?_
  refine lv_bipush (v := 7) hx hb d_Mod_readLengths_44 (by decide) ?_
  refine w_puti (ty := .int) (k := 69) (t := 12) (C := R_Mod) (T := F_Mod) (N := 167) hx hb hT hown hK hW hS ko_0.1 ko_0.2 (by decide) in_Mod t_Mod t_Mod_ok n_Mod rfl rfl (by decide) rfl fr_Mod_69 w_9_5 (by decide +kernel) rfl rfl d_Mod_readLengths_46 (fun H locs hW hS => ?_)
  obtain ⟨x1325, ex1325⟩ : ∃ y : St, y = setI x 0 69 7 := ⟨_, rfl⟩
  rw [← ex1325] at hW
  have hw := hw x1325 ex1325
  exact t_Mod_readLengths_49 hx hb hml hown hT hK hN hA hRc hRs hRf hRl hret hrec7 l1 l2 x1325 H locs ls  hw hW hS (lv_sub hl [0, 1, 2] rfl)
set_option maxRecDepth 100000 in
set_option maxHeartbeats 4000000 in
set_option maxRecDepth 100000 in
theorem t_Mod_readLengths_7 {p : Program} {l : Launch} {e : Env} {R : Room} {s : State} {m : MethodId} {args : Array Value} {below : List Frame} {meth : Method} {c : Code} {cells slots : Nat} {Q : State → Prop} {dC : Nat → ClassId} {dI : Nat → Nat → Nat} {cI cB cJ cZ : ClassId} {A : Nat → Prop} {ad : Nat → Nat} {post : St → Prop} {rec7 : Int32 → Int32 → St → Prop} (hx : p.tables.exec = Jvm.exec) (hb : c.code = b_Mod_readLengths) (hml : c.maxLocals = 3) (hown : s.vm.findClass R_Mod = some m.cls) (hT : ∀ w ∈ TG, w.before args s = true) (hK : va_K (dC, dI) CL (TY cI cB cJ cZ) s) (hN : NW s) (hA : ∀ q : Nat, s.heap.size ≤ q → A q) (hRc : cells ≤ R.cells) (hRs : slots ≤ R.slots) (hRf : 4 ≤ R.frames) (hRl : 105 ≤ R.locals) (hret : ∀ (x : St) (H : Heap) (locs : List Loc) (pc : Nat) (ls : Array Slot), decode b_Mod_readLengths pc = .ok (.return_, 1) → post x → Wd dC dI cI cB cJ cZ ad stM kcM 115 A x H → va_S A s.heap H locs → W p l e R s m args below meth c H locs cells slots Q (F0 m pc ls [])) (hrec7 : ∀ (l1 : Int32) (l2 : Int32) (x : St) (H : Heap) (locs : List Loc) (ls : Array Slot), rec7 l1 l2 x → Wd dC dI cI cB cJ cZ ad stM kcM 115 A x H → va_S A s.heap H locs → lv_has ls 3 [(0, .ref (ad 0)), (1, .int l1), (2, .int l2)] → W p l e R s m args below meth c H locs cells slots Q (F0 m 7 ls [])) : ∀ (l1 : Int32) (l2 : Int32) (x : St) (H : Heap) (locs : List Loc) (ls : Array Slot), j_Mod_readLengths_7 post rec7 l1 l2 x → Wd dC dI cI cB cJ cZ ad stM kcM 115 A x H → va_S A s.heap H locs → lv_has ls 3 [(0, .ref (ad 0)), (1, .int l1), (2, .int l2)] → W p l e R s m args below meth c H locs cells slots Q (F0 m 7 ls []) := by
  intro l1 l2 x H locs ls  hw hW hS hl
  unfold j_Mod_readLengths_7 at hw
  refine lv_iload_n hx hb d_Mod_readLengths_7 rfl (lv_at hl 2 rfl) ?_
  refine lv_iload_n hx hb d_Mod_readLengths_8 rfl (lv_at hl 1 rfl) ?_
  refine lv_icmp_ge (tgt := 55) hx hb d_Mod_readLengths_9 (by decide) (fun c1326 => ?_) (fun c1326 => ?_)
  · have hw := hw.1 c1326
    exact t_Mod_readLengths_55 hx hb hml hown hT hK hN hA hRc hRs hRf hRl hret  l1 l2 x H locs ls  hw hW hS (lv_sub hl [0, 1, 2] rfl)
  · have hw := hw.2 c1326
    refine lv_aload_n hx hb d_Mod_readLengths_12 rfl (lv_at hl 0 rfl) ?_
    refine w_geti (k := 69) (t := 12) (C := R_Mod) (T := F_Mod) (N := 167) hx hb hT hown hK hW ko_0.1 ko_0.2 (by decide) in_Mod rfl rfl (by decide) rfl fr_Mod_69 w_9_5 d_Mod_readLengths_13 ?_
    refine lv_if_ne (tgt := 55) hx hb d_Mod_readLengths_16 (by decide) (fun c1327 => ?_) (fun c1327 => ?_)
    · have hw := hw.1 c1327
      exact t_Mod_readLengths_55 hx hb hml hown hT hK hN hA hRc hRs hRf hRl hret  l1 l2 x H locs ls  hw hW hS (lv_sub hl [0, 1, 2] rfl)
    · have hw := hw.2 c1327
      refine lv_aload_n hx hb d_Mod_readLengths_19 rfl (lv_at hl 0 rfl) ?_
      refine w_getf (q := 43) (k := 70) (t := 12) (C := R_Mod) (T := F_Mod) (N := 167) hx hb hT hown hK hW ko_0.1 ko_0.2 (by decide) in_Mod rfl rfl (by decide) rfl fr_Mod_70 w_9_6 d_Mod_readLengths_20 rfl ?_
      refine lv_iload_n hx hb d_Mod_readLengths_23 rfl (lv_at hl 2 rfl) ?_
      obtain ⟨hi, hw⟩ := hw
      refine w_lald (o := 43) hx hb hK hW ko_43.1 ko_43.2 hi d_Mod_readLengths_24 ?_
      refine lv_lconst (v := 0) hx hb d_Mod_readLengths_25 (by decide) ?_
      refine W.lcmp hx hb d_Mod_readLengths_26 ?_
      refine lv_if_lt (tgt := 43) hx hb d_Mod_readLengths_27 (by decide) (fun c1328 => ?_) (fun c1328 => ?_)
      · have hw := hw.1 c1328
        exact t_Mod_readLengths_43 hx hb hml hown hT hK hN hA hRc hRs hRf hRl hret hrec7 l1 l2 x H locs ls  hw hW hS (lv_sub hl [0, 1, 2] rfl)
      · have hw := hw.2 c1328
        refine lv_aload_n hx hb d_Mod_readLengths_30 rfl (lv_at hl 0 rfl) ?_
        refine w_getf (q := 43) (k := 70) (t := 12) (C := R_Mod) (T := F_Mod) (N := 167) hx hb hT hown hK hW ko_0.1 ko_0.2 (by decide) in_Mod rfl rfl (by decide) rfl fr_Mod_70 w_9_6 d_Mod_readLengths_31 rfl ?_
        refine lv_iload_n hx hb d_Mod_readLengths_34 rfl (lv_at hl 2 rfl) ?_
        obtain ⟨hi, hw⟩ := hw
        refine w_lald (o := 43) hx hb hK hW ko_43.1 ko_43.2 hi d_Mod_readLengths_35 ?_
        refine lv_ldc2 hx hb hown (hT _ w_12_152) d_Mod_readLengths_36 ?_
        refine W.lcmp hx hb d_Mod_readLengths_39 ?_
        refine lv_if_le (tgt := 49) hx hb d_Mod_readLengths_40 (by decide) (fun c1329 => ?_) (fun c1329 => ?_)
        · have hw := hw.1 c1329
          exact t_Mod_readLengths_49 hx hb hml hown hT hK hN hA hRc hRs hRf hRl hret hrec7 l1 l2 x H locs ls  hw hW hS (lv_sub hl [0, 1, 2] rfl)
        · have hw := hw.2 c1329
          exact t_Mod_readLengths_43 hx hb hml hown hT hK hN hA hRc hRs hRf hRl hret hrec7 l1 l2 x H locs ls  hw hW hS (lv_sub hl [0, 1, 2] rfl)
set_option maxHeartbeats 4000000 in
set_option maxRecDepth 100000 in
theorem tl_Mod_readLengths_7 {p : Program} {l : Launch} {e : Env} {R : Room} {s : State} {m : MethodId} {args : Array Value} {below : List Frame} {meth : Method} {c : Code} {cells slots : Nat} {Q : State → Prop} {dC : Nat → ClassId} {dI : Nat → Nat → Nat} {cI cB cJ cZ : ClassId} {A : Nat → Prop} {ad : Nat → Nat} {post : St → Prop} (hx : p.tables.exec = Jvm.exec) (hb : c.code = b_Mod_readLengths) (hml : c.maxLocals = 3) (hown : s.vm.findClass R_Mod = some m.cls) (hT : ∀ w ∈ TG, w.before args s = true) (hK : va_K (dC, dI) CL (TY cI cB cJ cZ) s) (hN : NW s) (hA : ∀ q : Nat, s.heap.size ≤ q → A q) (hRc : cells ≤ R.cells) (hRs : slots ≤ R.slots) (hRf : 4 ≤ R.frames) (hRl : 105 ≤ R.locals) (hret : ∀ (x : St) (H : Heap) (locs : List Loc) (pc : Nat) (ls : Array Slot), decode b_Mod_readLengths pc = .ok (.return_, 1) → post x → Wd dC dI cI cB cJ cZ ad stM kcM 115 A x H → va_S A s.heap H locs → W p l e R s m args below meth c H locs cells slots Q (F0 m pc ls []))  : ∀ n : Nat, ∀ (l1 : Int32) (l2 : Int32) (x : St) (H : Heap) (locs : List Loc) (ls : Array Slot), wl_Mod_readLengths_7 post n l1 l2 x → Wd dC dI cI cB cJ cZ ad stM kcM 115 A x H → va_S A s.heap H locs → lv_has ls 3 [(0, .ref (ad 0)), (1, .int l1), (2, .int l2)] → W p l e R s m args below meth c H locs cells slots Q (F0 m 7 ls []) := by
  intro n
  induction n with
  | zero => intro l1 l2 x H locs ls  hw; exact hw.elim
  | succ n ih => intro l1 l2 x H locs ls  hw hW hS hl; exact t_Mod_readLengths_7 hx hb hml hown hT hK hN hA hRc hRs hRf hRl hret  ih l1 l2 x H locs ls  hw hW hS hl
set_option maxRecDepth 100000 in
set_option maxHeartbeats 4000000 in
set_option maxRecDepth 100000 in
theorem t_Mod_readLengths_e {p : Program} {l : Launch} {e : Env} {R : Room} {s : State} {m : MethodId} {args : Array Value} {below : List Frame} {meth : Method} {c : Code} {cells slots : Nat} {Q : State → Prop} {dC : Nat → ClassId} {dI : Nat → Nat → Nat} {cI cB cJ cZ : ClassId} {A : Nat → Prop} {ad : Nat → Nat} {post : St → Prop} (hx : p.tables.exec = Jvm.exec) (hb : c.code = b_Mod_readLengths) (hml : c.maxLocals = 3) (hown : s.vm.findClass R_Mod = some m.cls) (hT : ∀ w ∈ TG, w.before args s = true) (hK : va_K (dC, dI) CL (TY cI cB cJ cZ) s) (hN : NW s) (hA : ∀ q : Nat, s.heap.size ≤ q → A q) (hRc : cells ≤ R.cells) (hRs : slots ≤ R.slots) (hRf : 4 ≤ R.frames) (hRl : 105 ≤ R.locals) (hret : ∀ (x : St) (H : Heap) (locs : List Loc) (pc : Nat) (ls : Array Slot), decode b_Mod_readLengths pc = .ok (.return_, 1) → post x → Wd dC dI cI cB cJ cZ ad stM kcM 115 A x H → va_S A s.heap H locs → W p l e R s m args below meth c H locs cells slots Q (F0 m pc ls [])) : ∀ (l1 : Int32) (x : St) (H : Heap) (locs : List Loc) (ls : Array Slot), wp_Mod_readLengths post l1 x → Wd dC dI cI cB cJ cZ ad stM kcM 115 A x H → va_S A s.heap H locs → lv_has ls 3 [(0, .ref (ad 0)), (1, .int l1)] → W p l e R s m args below meth c H locs cells slots Q (F0 m 0 ls []) := by
  intro l1 x H locs ls  hw hW hS hl
  unfold wp_Mod_readLengths at hw
  refine lv_aload_n hx hb d_Mod_readLengths_0 rfl (lv_at hl 0 rfl) ?_
  refine lv_iload_n hx hb d_Mod_readLengths_1 rfl (lv_at hl 1 rfl) ?_
  have hF := hW.free hS hA
  refine va_callv (va_runV (C := R_Mod) (As := [.int l1]) (rest := []) ⟨hx, hb, hml, hown, hT⟩ (k_Mod_readCode l dC dI cI cB cJ cZ ad H.size l1 x  hw) ⟨callB_of 1 hT (gwt_in w_12_218) rfl rfl rfl (hT _ w_1_15) (hT _ w_12_215) (by decide +kernel) ⟨Nat.le_trans (Nat.le_of_ble_eq_true rfl) hRf, Nat.le_trans (Nat.le_of_ble_eq_true rfl) hRl⟩, hT _ w_12_217, hT _ ws_208⟩ ⟨PW.blind, va_recv hK hW.1 (ci := 12) (q0 := 0) rfl (pic_obj ko_0.1 ko_0.2 (by decide)), PW.at _ hW hK hN⟩ rfl rfl hl.1 rfl (lv_room (Nat.le_of_ble_eq_true rfl)) d_Mod_readLengths_2 ⟨hRc, hRs⟩) hS (fun q _ h => hF q h) hF (fun  x1330 t H locs ht hvm hw hB hz1 hk1 hS => ?_)
  have hW := Wd.back hB ht hF
  clear hB ht hF hz1 hk1 hvm
  refine lv_iconst (v := 0) hx hb d_Mod_readLengths_5 (by decide) ?_
  refine lv_istore_n (lv' := [(2, .int 0), (0, .ref (ad 0)), (1, .int l1)]) hx hb d_Mod_readLengths_6 rfl hl (by decide) rfl (fun ls hl => ?_)
  obtain ⟨n, hw⟩ := hw
  exact tl_Mod_readLengths_7 hx hb hml hown hT hK hN hA hRc hRs hRf hRl hret  n l1 0 x1330 H locs ls  hw hW hS (lv_sub hl [1, 2, 0] rfl)
set_option maxHeartbeats 4000000 in
set_option maxRecDepth 100000 in
theorem k_Mod_readLengths (l : Launch) (dC : Nat → ClassId) (dI : Nat → Nat → Nat) (cI cB cJ cZ : ClassId) (ad : Nat → Nat) (sz : Nat) (l1 : Int32) (x : St) {post : St → Prop} (hw : wp_Mod_readLengths post l1 x) : Met l y_Mod_readLengths (wsOf y_Mod_readLengths b_Mod_readLengths 3 (none)) ({ frames := 4, cells := 0, slots := 0, locals := 105 }) (va_Pc [.ref (ad 0), .int l1] (PW dC dI cI cB cJ cZ ad stM kcM 115 sz x)) (va_Qv (fun (y : St) => post y) (fun y t => Wd dC dI cI cB cJ cZ ad stM kcM 115 (va_A (pic ad stM kcM 115 cI cB cJ cZ x) sz) y t.heap) (va_A (pic ad stM kcM 115 cI cB cJ cZ x) sz)) 0 0 (va_A (pic ad stM kcM 115 cI cB cJ cZ x) sz) := by
  refine Met.ofW (cc := b_Mod_readLengths) (maxL := 3) (ret := none) (by decide) rfl ?_
  intro p e s m args below meth c s₁ B hml hv
  obtain ⟨rfl, hsz, hW0, hK, hN⟩ := hv
  have hx := B.exec
  have hb := B.bytes
  have hr := B.returns
  have hts := atoms_spec B.pre
  have hT : ∀ w ∈ TG, w.before _ s = true := fun w h => hts w (List.mem_cons_of_mem _ h)
  have hown : s.vm.findClass R_Mod = some m.cls := findClass_of_methodNamed B.named
  have hlocks := B.notSynchronized
  subst hsz
  have hW : Wd dC dI cI cB cJ cZ ad stM kcM 115 (va_A (pic ad stM kcM 115 cI cB cJ cZ x) s.heap.size) x s.heap := ⟨hW0.1, hW0.2.1.self (sz := s.heap.size), hW0.2.2⟩
  generalize hAe : va_A (pic ad stM kcM 115 cI cB cJ cZ x) s.heap.size = A at hW ⊢
  have hA : ∀ q : Nat, s.heap.size ≤ q → A q := fun q h => by rw [← hAe]; exact Or.inr h
  have hS : va_S A s.heap s.heap [] := va_S.rf
  have hl := lv_entry ([.ref (ad 0), .int l1]) (n := 3) (Nat.le_of_ble_eq_true rfl)
  rw [lg_entry_eq]
  generalize (lg_sl ([.ref (ad 0), .int l1]) ++ List.replicate (3 - (lg_sl ([.ref (ad 0), .int l1])).length) Slot.unset).toArray = ls at hl ⊢
  have hl : lv_has ls 3 [(0, .ref (ad 0)), (1, .int l1)] := hl
  exact t_Mod_readLengths_e hx hb hml hown hT hK hN hA (Nat.le_refl 0) (Nat.le_refl 0) (Nat.le_refl 4) (Nat.le_refl 105) (fun x H locs pc ls hd hp hW hS => W.vret hx hb hr (fun t ht hM => ⟨⟨x, rfl, hp, Wd.back hW ht.symm (fun _ z => z)⟩, hS.F ht⟩) hS.2.2 hd hlocks)  l1 x _ _ ls  hw hW hS hl
set_option maxRecDepth 100000 in
set_option maxHeartbeats 4000000 in
set_option maxRecDepth 100000 in
theorem t_Mod_toldLength_e {p : Program} {l : Launch} {e : Env} {R : Room} {s : State} {m : MethodId} {args : Array Value} {below : List Frame} {meth : Method} {c : Code} {cells slots : Nat} {Q : State → Prop} {dC : Nat → ClassId} {dI : Nat → Nat → Nat} {cI cB cJ cZ : ClassId} {A : Nat → Prop} {ad : Nat → Nat} {post : Int32 → St → Prop} (hx : p.tables.exec = Jvm.exec) (hb : c.code = b_Mod_toldLength) (hml : c.maxLocals = 2) (hown : s.vm.findClass R_Mod = some m.cls) (hT : ∀ w ∈ TG, w.before args s = true) (hK : va_K (dC, dI) CL (TY cI cB cJ cZ) s) (hN : NW s) (hA : ∀ q : Nat, s.heap.size ≤ q → A q) (hRc : cells ≤ R.cells) (hRs : slots ≤ R.slots) (hRf : 0 ≤ R.frames) (hRl : 0 ≤ R.locals) (hret : ∀ (r : Int32) (x : St) (H : Heap) (locs : List Loc) (pc : Nat) (ls : Array Slot), decode b_Mod_toldLength pc = .ok (.ireturn, 1) → post r x → Wd dC dI cI cB cJ cZ ad stM kcM 115 A x H → va_S A s.heap H locs → W p l e R s m args below meth c H locs cells slots Q (F0 m pc ls [.int r])) : ∀ (l0 : Int64) (x : St) (H : Heap) (locs : List Loc) (ls : Array Slot), wp_Mod_toldLength post l0 x → Wd dC dI cI cB cJ cZ ad stM kcM 115 A x H → va_S A s.heap H locs → lv_has ls 2 [(0, .long l0)] → W p l e R s m args below meth c H locs cells slots Q (F0 m 0 ls []) := by
  intro l0 x H locs ls  hw hW hS hl
  unfold wp_Mod_toldLength at hw
  refine lv_lload_n hx hb d_Mod_toldLength_0 rfl (lv_at hl 0 rfl) ?_
  refine lv_lconst (v := 0) hx hb d_Mod_toldLength_1 (by decide) ?_
  refine W.lcmp hx hb d_Mod_toldLength_2 ?_
  refine lv_if_ge (tgt := 10) hx hb d_Mod_toldLength_3 (by decide) (fun c1331 => ?_) (fun c1331 => ?_)
  · have hw := hw.1 c1331
    refine lv_lload_n hx hb d_Mod_toldLength_10 rfl (lv_at hl 0 rfl) ?_
    refine lv_ldc2 hx hb hown (hT _ w_12_152) d_Mod_toldLength_11 ?_
    refine W.lcmp hx hb d_Mod_toldLength_14 ?_
    refine lv_if_le (tgt := 24) hx hb d_Mod_toldLength_15 (by decide) (fun c1332 => ?_) (fun c1332 => ?_)
    · have hw := hw.1 c1332
      refine lv_lload_n hx hb d_Mod_toldLength_24 rfl (lv_at hl 0 rfl) ?_
      refine lv_l2i hx hb d_Mod_toldLength_25 rfl ?_
      exact hret (l0 : Int64).toInt32 x H locs 26 ls d_Mod_toldLength_26 hw hW hS
    · have hw := hw.2 c1332
      refine lv_sipush (v := 256) hx hb d_Mod_toldLength_18 (by decide) ?_
      refine lv_goto (tgt := 26) hx hb d_Mod_toldLength_21 (by decide) ?_
      exact hret 256 x H locs 26 ls d_Mod_toldLength_26 hw hW hS
  · have hw := hw.2 c1331
    refine lv_iconst (v := (-1)) hx hb d_Mod_toldLength_6 (by decide) ?_
    refine lv_goto (tgt := 26) hx hb d_Mod_toldLength_7 (by decide) ?_
    exact hret (-1) x H locs 26 ls d_Mod_toldLength_26 hw hW hS
set_option maxHeartbeats 4000000 in
set_option maxRecDepth 100000 in
theorem k_Mod_toldLength (l : Launch) (dC : Nat → ClassId) (dI : Nat → Nat → Nat) (cI cB cJ cZ : ClassId) (ad : Nat → Nat) (sz : Nat) (l0 : Int64) (x : St) {post : Int32 → St → Prop} (hw : wp_Mod_toldLength post l0 x) : Met l y_Mod_toldLength (wsOf y_Mod_toldLength b_Mod_toldLength 2 (some (.int))) ({ frames := 0, cells := 0, slots := 0, locals := 0 }) (va_Pc [.long l0] (PW dC dI cI cB cJ cZ ad stM kcM 115 sz x)) (va_Qi (fun (r : Int32) (y : St) => post r y) (fun y t => Wd dC dI cI cB cJ cZ ad stM kcM 115 (va_A (pic ad stM kcM 115 cI cB cJ cZ x) sz) y t.heap) (va_A (pic ad stM kcM 115 cI cB cJ cZ x) sz)) 0 0 (va_A (pic ad stM kcM 115 cI cB cJ cZ x) sz) := by
  refine Met.ofW (cc := b_Mod_toldLength) (maxL := 2) (ret := some (.int)) (by decide) rfl ?_
  intro p e s m args below meth c s₁ B hml hv
  obtain ⟨rfl, hsz, hW0, hK, hN⟩ := hv
  have hx := B.exec
  have hb := B.bytes
  have hr := B.returns
  have hts := atoms_spec B.pre
  have hT : ∀ w ∈ TG, w.before _ s = true := fun w h => hts w (List.mem_cons_of_mem _ h)
  have hown : s.vm.findClass R_Mod = some m.cls := findClass_of_methodNamed B.named
  have hlocks := B.notSynchronized
  subst hsz
  have hW : Wd dC dI cI cB cJ cZ ad stM kcM 115 (va_A (pic ad stM kcM 115 cI cB cJ cZ x) s.heap.size) x s.heap := ⟨hW0.1, hW0.2.1.self (sz := s.heap.size), hW0.2.2⟩
  generalize hAe : va_A (pic ad stM kcM 115 cI cB cJ cZ x) s.heap.size = A at hW ⊢
  have hA : ∀ q : Nat, s.heap.size ≤ q → A q := fun q h => by rw [← hAe]; exact Or.inr h
  have hS : va_S A s.heap s.heap [] := va_S.rf
  have hl := lv_entry ([.long l0]) (n := 2) (Nat.le_of_ble_eq_true rfl)
  rw [lg_entry_eq]
  generalize (lg_sl ([.long l0]) ++ List.replicate (2 - (lg_sl ([.long l0])).length) Slot.unset).toArray = ls at hl ⊢
  have hl : lv_has ls 2 [(0, .long l0)] := hl
  exact t_Mod_toldLength_e hx hb hml hown hT hK hN hA (Nat.le_refl 0) (Nat.le_refl 0) (Nat.le_refl 0) (Nat.le_refl 0) (fun r x H locs pc ls hd hp hW hS => W.iret (v := r) hx hb hr (fun t ht hM => ⟨⟨r, x, rfl, hp, Wd.back hW ht.symm (fun _ z => z)⟩, hS.F ht⟩) hS.2.2 hd hlocks)  l0 x _ _ ls  hw hW hS hl
set_option maxRecDepth 100000 in
set_option maxHeartbeats 4000000 in
set_option maxRecDepth 100000 in
theorem t_Mod_readFront_197 {p : Program} {l : Launch} {e : Env} {R : Room} {s : State} {m : MethodId} {args : Array Value} {below : List Frame} {meth : Method} {c : Code} {cells slots : Nat} {Q : State → Prop} {dC : Nat → ClassId} {dI : Nat → Nat → Nat} {cI cB cJ cZ : ClassId} {A : Nat → Prop} {ad : Nat → Nat} {post : St → Prop} {rec89 : Int32 → Int32 → St → Prop} (hx : p.tables.exec = Jvm.exec) (hb : c.code = b_Mod_readFront) (hml : c.maxLocals = 4) (hown : s.vm.findClass R_Mod = some m.cls) (hT : ∀ w ∈ TG, w.before args s = true) (hK : va_K (dC, dI) CL (TY cI cB cJ cZ) s) (hN : NW s) (hA : ∀ q : Nat, s.heap.size ≤ q → A q) (hRc : cells ≤ R.cells) (hRs : slots ≤ R.slots) (hRf : 4 ≤ R.frames) (hRl : 105 ≤ R.locals) (hret : ∀ (x : St) (H : Heap) (locs : List Loc) (pc : Nat) (ls : Array Slot), decode b_Mod_readFront pc = .ok (.return_, 1) → post x → Wd dC dI cI cB cJ cZ ad stM kcM 115 A x H → va_S A s.heap H locs → W p l e R s m args below meth c H locs cells slots Q (F0 m pc ls [])) (hrec89 : ∀ (l1 : Int32) (l2 : Int32) (x : St) (H : Heap) (locs : List Loc) (ls : Array Slot), rec89 l1 l2 x → Wd dC dI cI cB cJ cZ ad stM kcM 115 A x H → va_S A s.heap H locs → lv_has ls 4 [(0, .ref (ad 0)), (1, .int l1), (2, .int l2)] → W p l e R s m args below meth c H locs cells slots Q (F0 m 89 ls [])) : ∀ (l1 : Int32) (l2 : Int32) (l3 : Int32) (x : St) (H : Heap) (locs : List Loc) (ls : Array Slot), j_Mod_readFront_197 post rec89 l1 l2 l3 x → Wd dC dI cI cB cJ cZ ad stM kcM 115 A x H → va_S A s.heap H locs → lv_has ls 4 [(0, .ref (ad 0)), (1, .int l1), (2, .int l2), (3, .int l3)] → W p l e R s m args below meth c H locs cells slots Q (F0 m 197 ls []) := by
  intro l1 l2 l3 x H locs ls  hw hW hS hl
  unfold j_Mod_readFront_197 at hw
  refine lv_iinc (v := (l2 + 1)) (lv' := [(2, .int (l2 + 1)), (0, .ref (ad 0)), (1, .int l1), (3, .int l3)]) hx hb d_Mod_readFront_197 hl (k := 2) rfl rfl (by decide) rfl (fun ls hl => ?_)
  refine lv_goto (tgt := 89) hx hb d_Mod_readFront_200 (by decide) ?_
  exact hrec89 l1 (l2 + 1) x H locs ls  hw hW hS (lv_sub hl [1, 2, 0] rfl)
set_option maxRecDepth 100000 in
set_option maxHeartbeats 4000000 in
set_option maxRecDepth 100000 in
theorem t_Mod_readFront_172 {p : Program} {l : Launch} {e : Env} {R : Room} {s : State} {m : MethodId} {args : Array Value} {below : List Frame} {meth : Method} {c : Code} {cells slots : Nat} {Q : State → Prop} {dC : Nat → ClassId} {dI : Nat → Nat → Nat} {cI cB cJ cZ : ClassId} {A : Nat → Prop} {ad : Nat → Nat} {post : St → Prop} {rec89 : Int32 → Int32 → St → Prop} (hx : p.tables.exec = Jvm.exec) (hb : c.code = b_Mod_readFront) (hml : c.maxLocals = 4) (hown : s.vm.findClass R_Mod = some m.cls) (hT : ∀ w ∈ TG, w.before args s = true) (hK : va_K (dC, dI) CL (TY cI cB cJ cZ) s) (hN : NW s) (hA : ∀ q : Nat, s.heap.size ≤ q → A q) (hRc : cells ≤ R.cells) (hRs : slots ≤ R.slots) (hRf : 4 ≤ R.frames) (hRl : 105 ≤ R.locals) (hret : ∀ (x : St) (H : Heap) (locs : List Loc) (pc : Nat) (ls : Array Slot), decode b_Mod_readFront pc = .ok (.return_, 1) → post x → Wd dC dI cI cB cJ cZ ad stM kcM 115 A x H → va_S A s.heap H locs → W p l e R s m args below meth c H locs cells slots Q (F0 m pc ls [])) (hrec89 : ∀ (l1 : Int32) (l2 : Int32) (x : St) (H : Heap) (locs : List Loc) (ls : Array Slot), rec89 l1 l2 x → Wd dC dI cI cB cJ cZ ad stM kcM 115 A x H → va_S A s.heap H locs → lv_has ls 4 [(0, .ref (ad 0)), (1, .int l1), (2, .int l2)] → W p l e R s m args below meth c H locs cells slots Q (F0 m 89 ls [])) : ∀ (l1 : Int32) (l2 : Int32) (l3 : Int32) (x : St) (H : Heap) (locs : List Loc) (ls : Array Slot), j_Mod_readFront_172 post rec89 l1 l2 l3 x → Wd dC dI cI cB cJ cZ ad stM kcM 115 A x H → va_S A s.heap H locs → lv_has ls 4 [(0, .ref (ad 0)), (1, .int l1), (2, .int l2), (3, .int l3)] → W p l e R s m args below meth c H locs cells slots Q (F0 m 172 ls []) := by
  intro l1 l2 l3 x H locs ls  hw hW hS hl
  unfold j_Mod_readFront_172 at hw
  refine lv_aload_n hx hb d_Mod_readFront_172 rfl (lv_at hl 0 rfl) ?_
  refine lv_bipush (v := 7) hx hb d_Mod_readFront_173 (by decide) ?_
  refine w_puti (ty := .int) (k := 69) (t := 12) (C := R_Mod) (T := F_Mod) (N := 167) hx hb hT hown hK hW hS ko_0.1 ko_0.2 (by decide) in_Mod t_Mod t_Mod_ok n_Mod rfl rfl (by decide) rfl fr_Mod_69 w_9_5 (by decide +kernel) rfl rfl d_Mod_readFront_175 (fun H locs hW hS => ?_)
  obtain ⟨x1333, ex1333⟩ : ∃ y : St, y = setI x 0 69 7 := ⟨_, rfl⟩
  rw [← ex1333] at hW
  have hw := hw x1333 ex1333
  refine lv_goto (tgt := 197) hx hb d_Mod_readFront_178 (by decide) ?_
  exact t_Mod_readFront_197 hx hb hml hown hT hK hN hA hRc hRs hRf hRl hret hrec89 l1 l2 l3 x1333 H locs ls  hw hW hS (lv_sub hl [0, 1, 2, 3] rfl)
set_option maxRecDepth 100000 in
set_option maxHeartbeats 4000000 in
set_option maxRecDepth 100000 in
theorem t_Mod_readFront_124 {p : Program} {l : Launch} {e : Env} {R : Room} {s : State} {m : MethodId} {args : Array Value} {below : List Frame} {meth : Method} {c : Code} {cells slots : Nat} {Q : State → Prop} {dC : Nat → ClassId} {dI : Nat → Nat → Nat} {cI cB cJ cZ : ClassId} {A : Nat → Prop} {ad : Nat → Nat} {post : St → Prop} {rec89 : Int32 → Int32 → St → Prop} (hx : p.tables.exec = Jvm.exec) (hb : c.code = b_Mod_readFront) (hml : c.maxLocals = 4) (hown : s.vm.findClass R_Mod = some m.cls) (hT : ∀ w ∈ TG, w.before args s = true) (hK : va_K (dC, dI) CL (TY cI cB cJ cZ) s) (hN : NW s) (hA : ∀ q : Nat, s.heap.size ≤ q → A q) (hRc : cells ≤ R.cells) (hRs : slots ≤ R.slots) (hRf : 4 ≤ R.frames) (hRl : 105 ≤ R.locals) (hret : ∀ (x : St) (H : Heap) (locs : List Loc) (pc : Nat) (ls : Array Slot), decode b_Mod_readFront pc = .ok (.return_, 1) → post x → Wd dC dI cI cB cJ cZ ad stM kcM 115 A x H → va_S A s.heap H locs → W p l e R s m args below meth c H locs cells slots Q (F0 m pc ls [])) (hrec89 : ∀ (l1 : Int32) (l2 : Int32) (x : St) (H : Heap) (locs : List Loc) (ls : Array Slot), rec89 l1 l2 x → Wd dC dI cI cB cJ cZ ad stM kcM 115 A x H → va_S A s.heap H locs → lv_has ls 4 [(0, .ref (ad 0)), (1, .int l1), (2, .int l2)] → W p l e R s m args below meth c H locs cells slots Q (F0 m 89 ls [])) : ∀ (l1 : Int32) (l2 : Int32) (s0 : Int32) (x : St) (H : Heap) (locs : List Loc) (ls : Array Slot), j_Mod_readFront_124 post rec89 l1 l2 s0 x → Wd dC dI cI cB cJ cZ ad stM kcM 115 A x H → va_S A s.heap H locs → lv_has ls 4 [(0, .ref (ad 0)), (1, .int l1), (2, .int l2)] → W p l e R s m args below meth c H locs cells slots Q (F0 m 124 ls [.int s0]) := by
  intro l1 l2 s0 x H locs ls  hw hW hS hl
  unfold j_Mod_readFront_124 at hw
  refine lv_istore_n (lv' := [(3, .int s0), (0, .ref (ad 0)), (1, .int l1), (2, .int l2)]) hx hb d_Mod_readFront_124 rfl hl (by decide) rfl (fun ls hl => ?_)
  refine lv_aload_n hx hb d_Mod_readFront_125 rfl (lv_at hl 1 rfl) ?_
  refine w_getf (q := 45) (k := 73) (t := 12) (C := R_Mod) (T := F_Mod) (N := 167) hx hb hT hown hK hW ko_0.1 ko_0.2 (by decide) in_Mod rfl rfl (by decide) rfl fr_Mod_73 w_9_9 d_Mod_readFront_126 rfl ?_
  refine lv_iload_n hx hb d_Mod_readFront_129 rfl (lv_at hl 3 rfl) ?_
  obtain ⟨hi, hw⟩ := hw
  refine w_iald (o := 45) hx hb hK hW ko_45.1 ko_45.2 hi d_Mod_readFront_130 ?_
  refine lv_if_lt (tgt := 172) hx hb d_Mod_readFront_131 (by decide) (fun c1334 => ?_) (fun c1334 => ?_)
  · have hw := hw.1 c1334
    exact t_Mod_readFront_172 hx hb hml hown hT hK hN hA hRc hRs hRf hRl hret hrec89 l1 l2 s0 x H locs ls  hw hW hS (lv_sub hl [1, 2, 3, 0] rfl)
  · have hw := hw.2 c1334
    refine lv_aload_n hx hb d_Mod_readFront_134 rfl (lv_at hl 1 rfl) ?_
    refine w_getf (q := 46) (k := 74) (t := 12) (C := R_Mod) (T := F_Mod) (N := 167) hx hb hT hown hK hW ko_0.1 ko_0.2 (by decide) in_Mod rfl rfl (by decide) rfl fr_Mod_74 w_9_10 d_Mod_readFront_135 rfl ?_
    refine lv_iload_n hx hb d_Mod_readFront_138 rfl (lv_at hl 3 rfl) ?_
    obtain ⟨hi, hw⟩ := hw
    refine w_iald (o := 46) hx hb hK hW ko_46.1 ko_46.2 hi d_Mod_readFront_139 ?_
    refine lv_if_lt (tgt := 172) hx hb d_Mod_readFront_140 (by decide) (fun c1335 => ?_) (fun c1335 => ?_)
    · have hw := hw.1 c1335
      exact t_Mod_readFront_172 hx hb hml hown hT hK hN hA hRc hRs hRf hRl hret hrec89 l1 l2 s0 x H locs ls  hw hW hS (lv_sub hl [1, 2, 3, 0] rfl)
    · have hw := hw.2 c1335
      refine lv_aload_n hx hb d_Mod_readFront_143 rfl (lv_at hl 1 rfl) ?_
      refine w_getf (q := 45) (k := 73) (t := 12) (C := R_Mod) (T := F_Mod) (N := 167) hx hb hT hown hK hW ko_0.1 ko_0.2 (by decide) in_Mod rfl rfl (by decide) rfl fr_Mod_73 w_9_9 d_Mod_readFront_144 rfl ?_
      refine lv_iload_n hx hb d_Mod_readFront_147 rfl (lv_at hl 3 rfl) ?_
      obtain ⟨hi, hw⟩ := hw
      refine w_iald (o := 45) hx hb hK hW ko_45.1 ko_45.2 hi d_Mod_readFront_148 ?_
      refine lv_aload_n hx hb d_Mod_readFront_149 rfl (lv_at hl 1 rfl) ?_
      refine w_getf (q := 46) (k := 74) (t := 12) (C := R_Mod) (T := F_Mod) (N := 167) hx hb hT hown hK hW ko_0.1 ko_0.2 (by decide) in_Mod rfl rfl (by decide) rfl fr_Mod_74 w_9_10 d_Mod_readFront_150 rfl ?_
      refine lv_iload_n hx hb d_Mod_readFront_153 rfl (lv_at hl 3 rfl) ?_
      obtain ⟨hi, hw⟩ := hw
      refine w_iald (o := 46) hx hb hK hW ko_46.1 ko_46.2 hi d_Mod_readFront_154 ?_
      refine lv_iadd hx hb d_Mod_readFront_155 ?_
      refine lv_sipush (v := 255) hx hb d_Mod_readFront_156 (by decide) ?_
      refine lv_icmp_gt (tgt := 172) hx hb d_Mod_readFront_159 (by decide) (fun c1336 => ?_) (fun c1336 => ?_)
      · have hw := hw.1 c1336
        exact t_Mod_readFront_172 hx hb hml hown hT hK hN hA hRc hRs hRf hRl hret hrec89 l1 l2 s0 x H locs ls  hw hW hS (lv_sub hl [1, 2, 3, 0] rfl)
      · have hw := hw.2 c1336
        refine lv_aload_n hx hb d_Mod_readFront_162 rfl (lv_at hl 1 rfl) ?_
        refine w_getf (q := 45) (k := 73) (t := 12) (C := R_Mod) (T := F_Mod) (N := 167) hx hb hT hown hK hW ko_0.1 ko_0.2 (by decide) in_Mod rfl rfl (by decide) rfl fr_Mod_73 w_9_9 d_Mod_readFront_163 rfl ?_
        refine lv_iload_n hx hb d_Mod_readFront_166 rfl (lv_at hl 3 rfl) ?_
        obtain ⟨hi, hw⟩ := hw
        refine w_iald (o := 45) hx hb hK hW ko_45.1 ko_45.2 hi d_Mod_readFront_167 ?_
        refine lv_iload_n hx hb d_Mod_readFront_168 rfl (lv_at hl 0 rfl) ?_
        refine lv_icmp_le (tgt := 181) hx hb d_Mod_readFront_169 (by decide) (fun c1337 => ?_) (fun c1337 => ?_)
        · have hw := hw.1 c1337
          refine lv_aload_n hx hb d_Mod_readFront_181 rfl (lv_at hl 1 rfl) ?_
          refine lv_aload_n hx hb d_Mod_readFront_182 rfl (lv_at hl 1 rfl) ?_
          refine w_getf (q := 46) (k := 74) (t := 12) (C := R_Mod) (T := F_Mod) (N := 167) hx hb hT hown hK hW ko_0.1 ko_0.2 (by decide) in_Mod rfl rfl (by decide) rfl fr_Mod_74 w_9_10 d_Mod_readFront_183 rfl ?_
          refine lv_iload_n hx hb d_Mod_readFront_186 rfl (lv_at hl 3 rfl) ?_
          obtain ⟨hi, hw⟩ := hw
          refine w_iald (o := 46) hx hb hK hW ko_46.1 ko_46.2 hi d_Mod_readFront_187 ?_
          refine lv_aload_n hx hb d_Mod_readFront_188 rfl (lv_at hl 1 rfl) ?_
          refine w_getf (q := 45) (k := 73) (t := 12) (C := R_Mod) (T := F_Mod) (N := 167) hx hb hT hown hK hW ko_0.1 ko_0.2 (by decide) in_Mod rfl rfl (by decide) rfl fr_Mod_73 w_9_9 d_Mod_readFront_189 rfl ?_
          refine lv_iload_n hx hb d_Mod_readFront_192 rfl (lv_at hl 3 rfl) ?_
          obtain ⟨hi, hw⟩ := hw
          refine w_iald (o := 45) hx hb hK hW ko_45.1 ko_45.2 hi d_Mod_readFront_193 ?_
          have hF := hW.free hS hA
          refine va_callv (va_runV (C := R_Mod) (As := [.int (rA x 46 l2), .int (rA x 45 l2)]) (rest := []) ⟨hx, hb, hml, hown, hT⟩ (k_Mod_takeText l dC dI cI cB cJ cZ ad H.size (rA x 46 l2) (rA x 45 l2) x  hw) ⟨callB_of 2 hT (gwt_in w_12_210) rfl rfl rfl (hT _ w_1_15) (hT _ w_12_207) (by decide +kernel) ⟨Nat.le_trans (Nat.le_of_ble_eq_true rfl) hRf, Nat.le_trans (Nat.le_of_ble_eq_true rfl) hRl⟩, hT _ w_12_209, hT _ ws_206⟩ ⟨PW.blind, va_recv hK hW.1 (ci := 12) (q0 := 0) rfl (pic_obj ko_0.1 ko_0.2 (by decide)), PW.at _ hW hK hN⟩ rfl rfl hl.1 rfl (lv_room (Nat.le_of_ble_eq_true rfl)) d_Mod_readFront_194 ⟨hRc, hRs⟩) hS (fun q _ h => hF q h) hF (fun  x1338 t H locs ht hvm hw hB hz1 hk1 hS => ?_)
          have hW := Wd.back hB ht hF
          clear hB ht hF hz1 hk1 hvm
          exact t_Mod_readFront_197 hx hb hml hown hT hK hN hA hRc hRs hRf hRl hret hrec89 l1 l2 s0 x1338 H locs ls  hw hW hS (lv_sub hl [1, 2, 3, 0] rfl)
        · have hw := hw.2 c1337
          exact t_Mod_readFront_172 hx hb hml hown hT hK hN hA hRc hRs hRf hRl hret hrec89 l1 l2 s0 x H locs ls  hw hW hS (lv_sub hl [1, 2, 3, 0] rfl)
set_option maxRecDepth 100000 in
set_option maxHeartbeats 4000000 in
set_option maxRecDepth 100000 in
theorem t_Mod_readFront_89 {p : Program} {l : Launch} {e : Env} {R : Room} {s : State} {m : MethodId} {args : Array Value} {below : List Frame} {meth : Method} {c : Code} {cells slots : Nat} {Q : State → Prop} {dC : Nat → ClassId} {dI : Nat → Nat → Nat} {cI cB cJ cZ : ClassId} {A : Nat → Prop} {ad : Nat → Nat} {post : St → Prop} {rec89 : Int32 → Int32 → St → Prop} (hx : p.tables.exec = Jvm.exec) (hb : c.code = b_Mod_readFront) (hml : c.maxLocals = 4) (hown : s.vm.findClass R_Mod = some m.cls) (hT : ∀ w ∈ TG, w.before args s = true) (hK : va_K (dC, dI) CL (TY cI cB cJ cZ) s) (hN : NW s) (hA : ∀ q : Nat, s.heap.size ≤ q → A q) (hRc : cells ≤ R.cells) (hRs : slots ≤ R.slots) (hRf : 4 ≤ R.frames) (hRl : 105 ≤ R.locals) (hret : ∀ (x : St) (H : Heap) (locs : List Loc) (pc : Nat) (ls : Array Slot), decode b_Mod_readFront pc = .ok (.return_, 1) → post x → Wd dC dI cI cB cJ cZ ad stM kcM 115 A x H → va_S A s.heap H locs → W p l e R s m args below meth c H locs cells slots Q (F0 m pc ls [])) (hrec89 : ∀ (l1 : Int32) (l2 : Int32) (x : St) (H : Heap) (locs : List Loc) (ls : Array Slot), rec89 l1 l2 x → Wd dC dI cI cB cJ cZ ad stM kcM 115 A x H → va_S A s.heap H locs → lv_has ls 4 [(0, .ref (ad 0)), (1, .int l1), (2, .int l2)] → W p l e R s m args below meth c H locs cells slots Q (F0 m 89 ls [])) : ∀ (l1 : Int32) (l2 : Int32) (x : St) (H : Heap) (locs : List Loc) (ls : Array Slot), j_Mod_readFront_89 post rec89 l1 l2 x → Wd dC dI cI cB cJ cZ ad stM kcM 115 A x H → va_S A s.heap H locs → lv_has ls 4 [(0, .ref (ad 0)), (1, .int l1), (2, .int l2)] → W p l e R s m args below meth c H locs cells slots Q (F0 m 89 ls []) := by
  intro l1 l2 x H locs ls  hw hW hS hl
  unfold j_Mod_readFront_89 at hw
  refine lv_iload_n hx hb d_Mod_readFront_89 rfl (lv_at hl 2 rfl) ?_
  refine lv_iload_n hx hb d_Mod_readFront_90 rfl (lv_at hl 1 rfl) ?_
  refine lv_icmp_ge (tgt := 203) hx hb d_Mod_readFront_91 (by decide) (fun c1339 => ?_) (fun c1339 => ?_)
  · have hw := hw.1 c1339
    exact hret x H locs 203 ls d_Mod_readFront_203 hw hW hS
  · have hw := hw.2 c1339
    refine lv_aload_n hx hb d_Mod_readFront_94 rfl (lv_at hl 0 rfl) ?_
    refine w_geti (k := 69) (t := 12) (C := R_Mod) (T := F_Mod) (N := 167) hx hb hT hown hK hW ko_0.1 ko_0.2 (by decide) in_Mod rfl rfl (by decide) rfl fr_Mod_69 w_9_5 d_Mod_readFront_95 ?_
    refine lv_if_ne (tgt := 203) hx hb d_Mod_readFront_98 (by decide) (fun c1340 => ?_) (fun c1340 => ?_)
    · have hw := hw.1 c1340
      exact hret x H locs 203 ls d_Mod_readFront_203 hw hW hS
    · have hw := hw.2 c1340
      refine lv_iload_n hx hb d_Mod_readFront_101 rfl (lv_at hl 2 rfl) ?_
      refine lv_if_ne (tgt := 109) hx hb d_Mod_readFront_102 (by decide) (fun c1341 => ?_) (fun c1341 => ?_)
      · have hw := hw.1 c1341
        refine lv_aload_n hx hb d_Mod_readFront_109 rfl (lv_at hl 0 rfl) ?_
        refine w_getf (q := 34) (k := 53) (t := 12) (C := R_Mod) (T := F_Mod) (N := 167) hx hb hT hown hK hW ko_0.1 ko_0.2 (by decide) in_Mod rfl rfl (by decide) rfl fr_Mod_53 w_8_229 d_Mod_readFront_110 rfl ?_
        refine lv_iload_n hx hb d_Mod_readFront_113 rfl (lv_at hl 2 rfl) ?_
        obtain ⟨hi, hw⟩ := hw
        refine w_iald (o := 34) hx hb hK hW ko_34.1 ko_34.2 hi d_Mod_readFront_114 ?_
        refine lv_aload_n hx hb d_Mod_readFront_115 rfl (lv_at hl 0 rfl) ?_
        refine w_getf (q := 34) (k := 53) (t := 12) (C := R_Mod) (T := F_Mod) (N := 167) hx hb hT hown hK hW ko_0.1 ko_0.2 (by decide) in_Mod rfl rfl (by decide) rfl fr_Mod_53 w_8_229 d_Mod_readFront_116 rfl ?_
        refine lv_iload_n hx hb d_Mod_readFront_119 rfl (lv_at hl 2 rfl) ?_
        refine lv_iconst (v := 1) hx hb d_Mod_readFront_120 (by decide) ?_
        refine lv_isub hx hb d_Mod_readFront_121 ?_
        obtain ⟨hi, hw⟩ := hw
        refine w_iald (o := 34) hx hb hK hW ko_34.1 ko_34.2 hi d_Mod_readFront_122 ?_
        refine lv_isub hx hb d_Mod_readFront_123 ?_
        exact t_Mod_readFront_124 hx hb hml hown hT hK hN hA hRc hRs hRf hRl hret hrec89 l1 l2 ((rA x 34 l2) - (rA x 34 (l2 - 1))) x H locs ls  hw hW hS (lv_sub hl [0, 1, 2] rfl)
      · have hw := hw.2 c1341
        refine lv_iconst (v := 0) hx hb d_Mod_readFront_105 (by decide) ?_
        refine lv_goto (tgt := 124) hx hb d_Mod_readFront_106 (by decide) ?_
        exact t_Mod_readFront_124 hx hb hml hown hT hK hN hA hRc hRs hRf hRl hret hrec89 l1 l2 0 x H locs ls  hw hW hS (lv_sub hl [0, 1, 2] rfl)
set_option maxHeartbeats 4000000 in
set_option maxRecDepth 100000 in
theorem tl_Mod_readFront_89 {p : Program} {l : Launch} {e : Env} {R : Room} {s : State} {m : MethodId} {args : Array Value} {below : List Frame} {meth : Method} {c : Code} {cells slots : Nat} {Q : State → Prop} {dC : Nat → ClassId} {dI : Nat → Nat → Nat} {cI cB cJ cZ : ClassId} {A : Nat → Prop} {ad : Nat → Nat} {post : St → Prop} (hx : p.tables.exec = Jvm.exec) (hb : c.code = b_Mod_readFront) (hml : c.maxLocals = 4) (hown : s.vm.findClass R_Mod = some m.cls) (hT : ∀ w ∈ TG, w.before args s = true) (hK : va_K (dC, dI) CL (TY cI cB cJ cZ) s) (hN : NW s) (hA : ∀ q : Nat, s.heap.size ≤ q → A q) (hRc : cells ≤ R.cells) (hRs : slots ≤ R.slots) (hRf : 4 ≤ R.frames) (hRl : 105 ≤ R.locals) (hret : ∀ (x : St) (H : Heap) (locs : List Loc) (pc : Nat) (ls : Array Slot), decode b_Mod_readFront pc = .ok (.return_, 1) → post x → Wd dC dI cI cB cJ cZ ad stM kcM 115 A x H → va_S A s.heap H locs → W p l e R s m args below meth c H locs cells slots Q (F0 m pc ls []))  : ∀ n : Nat, ∀ (l1 : Int32) (l2 : Int32) (x : St) (H : Heap) (locs : List Loc) (ls : Array Slot), wl_Mod_readFront_89 post n l1 l2 x → Wd dC dI cI cB cJ cZ ad stM kcM 115 A x H → va_S A s.heap H locs → lv_has ls 4 [(0, .ref (ad 0)), (1, .int l1), (2, .int l2)] → W p l e R s m args below meth c H locs cells slots Q (F0 m 89 ls []) := by
  intro n
  induction n with
  | zero => intro l1 l2 x H locs ls  hw; exact hw.elim
  | succ n ih => intro l1 l2 x H locs ls  hw hW hS hl; exact t_Mod_readFront_89 hx hb hml hown hT hK hN hA hRc hRs hRf hRl hret  ih l1 l2 x H locs ls  hw hW hS hl
set_option maxRecDepth 100000 in
set_option maxHeartbeats 4000000 in
set_option maxRecDepth 100000 in
theorem t_Mod_readFront_87 {p : Program} {l : Launch} {e : Env} {R : Room} {s : State} {m : MethodId} {args : Array Value} {below : List Frame} {meth : Method} {c : Code} {cells slots : Nat} {Q : State → Prop} {dC : Nat → ClassId} {dI : Nat → Nat → Nat} {cI cB cJ cZ : ClassId} {A : Nat → Prop} {ad : Nat → Nat} {post : St → Prop} (hx : p.tables.exec = Jvm.exec) (hb : c.code = b_Mod_readFront) (hml : c.maxLocals = 4) (hown : s.vm.findClass R_Mod = some m.cls) (hT : ∀ w ∈ TG, w.before args s = true) (hK : va_K (dC, dI) CL (TY cI cB cJ cZ) s) (hN : NW s) (hA : ∀ q : Nat, s.heap.size ≤ q → A q) (hRc : cells ≤ R.cells) (hRs : slots ≤ R.slots) (hRf : 4 ≤ R.frames) (hRl : 105 ≤ R.locals) (hret : ∀ (x : St) (H : Heap) (locs : List Loc) (pc : Nat) (ls : Array Slot), decode b_Mod_readFront pc = .ok (.return_, 1) → post x → Wd dC dI cI cB cJ cZ ad stM kcM 115 A x H → va_S A s.heap H locs → W p l e R s m args below meth c H locs cells slots Q (F0 m pc ls []))  : ∀ (l1 : Int32) (l2 : Int32) (x : St) (H : Heap) (locs : List Loc) (ls : Array Slot), j_Mod_readFront_87 post l1 l2 x → Wd dC dI cI cB cJ cZ ad stM kcM 115 A x H → va_S A s.heap H locs → lv_has ls 4 [(0, .ref (ad 0)), (1, .int l1), (2, .int l2)] → W p l e R s m args below meth c H locs cells slots Q (F0 m 87 ls []) := by
  intro l1 l2 x H locs ls  hw hW hS hl
  unfold j_Mod_readFront_87 at hw
  refine lv_iconst (v := 0) hx hb d_Mod_readFront_87 (by decide) ?_
  refine lv_istore_n (lv' := [(2, .int 0), (0, .ref (ad 0)), (1, .int l1)]) hx hb d_Mod_readFront_88 rfl hl (by decide) rfl (fun ls hl => ?_)
  obtain ⟨n, hw⟩ := hw
  exact tl_Mod_readFront_89 hx hb hml hown hT hK hN hA hRc hRs hRf hRl hret  n l1 0 x H locs ls  hw hW hS (lv_sub hl [1, 2, 0] rfl)
set_option maxRecDepth 100000 in
set_option maxHeartbeats 4000000 in
set_option maxRecDepth 100000 in
theorem t_Mod_readFront_54 {p : Program} {l : Launch} {e : Env} {R : Room} {s : State} {m : MethodId} {args : Array Value} {below : List Frame} {meth : Method} {c : Code} {cells slots : Nat} {Q : State → Prop} {dC : Nat → ClassId} {dI : Nat → Nat → Nat} {cI cB cJ cZ : ClassId} {A : Nat → Prop} {ad : Nat → Nat} {post : St → Prop} {rec54 : Int32 → Int32 → St → Prop} (hx : p.tables.exec = Jvm.exec) (hb : c.code = b_Mod_readFront) (hml : c.maxLocals = 4) (hown : s.vm.findClass R_Mod = some m.cls) (hT : ∀ w ∈ TG, w.before args s = true) (hK : va_K (dC, dI) CL (TY cI cB cJ cZ) s) (hN : NW s) (hA : ∀ q : Nat, s.heap.size ≤ q → A q) (hRc : cells ≤ R.cells) (hRs : slots ≤ R.slots) (hRf : 4 ≤ R.frames) (hRl : 105 ≤ R.locals) (hret : ∀ (x : St) (H : Heap) (locs : List Loc) (pc : Nat) (ls : Array Slot), decode b_Mod_readFront pc = .ok (.return_, 1) → post x → Wd dC dI cI cB cJ cZ ad stM kcM 115 A x H → va_S A s.heap H locs → W p l e R s m args below meth c H locs cells slots Q (F0 m pc ls [])) (hrec54 : ∀ (l1 : Int32) (l2 : Int32) (x : St) (H : Heap) (locs : List Loc) (ls : Array Slot), rec54 l1 l2 x → Wd dC dI cI cB cJ cZ ad stM kcM 115 A x H → va_S A s.heap H locs → lv_has ls 4 [(0, .ref (ad 0)), (1, .int l1), (2, .int l2)] → W p l e R s m args below meth c H locs cells slots Q (F0 m 54 ls [])) : ∀ (l1 : Int32) (l2 : Int32) (x : St) (H : Heap) (locs : List Loc) (ls : Array Slot), j_Mod_readFront_54 post rec54 l1 l2 x → Wd dC dI cI cB cJ cZ ad stM kcM 115 A x H → va_S A s.heap H locs → lv_has ls 4 [(0, .ref (ad 0)), (1, .int l1), (2, .int l2)] → W p l e R s m args below meth c H locs cells slots Q (F0 m 54 ls []) := by
  intro l1 l2 x H locs ls  hw hW hS hl
  unfold j_Mod_readFront_54 at hw
  refine lv_iload_n hx hb d_Mod_readFront_54 rfl (lv_at hl 2 rfl) ?_
  refine lv_iload_n hx hb d_Mod_readFront_55 rfl (lv_at hl 1 rfl) ?_
  refine lv_icmp_ge (tgt := 87) hx hb d_Mod_readFront_56 (by decide) (fun c1342 => ?_) (fun c1342 => ?_)
  · have hw := hw.1 c1342
    exact t_Mod_readFront_87 hx hb hml hown hT hK hN hA hRc hRs hRf hRl hret  l1 l2 x H locs ls  hw hW hS (lv_sub hl [0, 1, 2] rfl)
  · have hw := hw.2 c1342
    refine lv_aload_n hx hb d_Mod_readFront_59 rfl (lv_at hl 0 rfl) ?_
    refine w_geti (k := 69) (t := 12) (C := R_Mod) (T := F_Mod) (N := 167) hx hb hT hown hK hW ko_0.1 ko_0.2 (by decide) in_Mod rfl rfl (by decide) rfl fr_Mod_69 w_9_5 d_Mod_readFront_60 ?_
    refine lv_if_ne (tgt := 87) hx hb d_Mod_readFront_63 (by decide) (fun c1343 => ?_) (fun c1343 => ?_)
    · have hw := hw.1 c1343
      exact t_Mod_readFront_87 hx hb hml hown hT hK hN hA hRc hRs hRf hRl hret  l1 l2 x H locs ls  hw hW hS (lv_sub hl [0, 1, 2] rfl)
    · have hw := hw.2 c1343
      refine lv_aload_n hx hb d_Mod_readFront_66 rfl (lv_at hl 0 rfl) ?_
      refine w_getf (q := 46) (k := 74) (t := 12) (C := R_Mod) (T := F_Mod) (N := 167) hx hb hT hown hK hW ko_0.1 ko_0.2 (by decide) in_Mod rfl rfl (by decide) rfl fr_Mod_74 w_9_10 d_Mod_readFront_67 rfl ?_
      refine lv_iload_n hx hb d_Mod_readFront_70 rfl (lv_at hl 2 rfl) ?_
      refine lv_aload_n hx hb d_Mod_readFront_71 rfl (lv_at hl 0 rfl) ?_
      refine w_getf (q := 43) (k := 70) (t := 12) (C := R_Mod) (T := F_Mod) (N := 167) hx hb hT hown hK hW ko_0.1 ko_0.2 (by decide) in_Mod rfl rfl (by decide) rfl fr_Mod_70 w_9_6 d_Mod_readFront_72 rfl ?_
      refine lv_iload_n hx hb d_Mod_readFront_75 rfl (lv_at hl 2 rfl) ?_
      obtain ⟨hi, hw⟩ := hw
      refine w_lald (o := 43) hx hb hK hW ko_43.1 ko_43.2 hi d_Mod_readFront_76 ?_
      have hF := hW.free hS hA
      refine va_calli (va_runS (As := [.long (rL x 43 l2)]) (rest := [.int l2, .ref (ad 46)]) ⟨hx, hb, hml, hown, hT⟩ (k_Mod_toldLength l dC dI cI cB cJ cZ ad H.size (rL x 43 l2) x  hw) ⟨callB_of 1 hT (gwt_in w_12_234) rfl rfl rfl (hT _ w_1_15) (hT _ w_12_232) (by decide +kernel) ⟨Nat.le_trans (Nat.le_of_ble_eq_true rfl) hRf, Nat.le_trans (Nat.le_of_ble_eq_true rfl) hRl⟩, hT _ w_12_233⟩ ⟨PW.blind, PW.at _ hW hK hN⟩ rfl rfl hl.1 rfl (lv_room (Nat.le_of_ble_eq_true rfl)) d_Mod_readFront_77 ⟨hRc, hRs⟩) hS (fun q _ h => hF q h) hF (fun r1345 x1344 t H locs ht hvm hw hB hz1 hk1 hS => ?_)
      have hW := Wd.back hB ht hF
      clear hB ht hF hz1 hk1 hvm
      obtain ⟨hi, hw⟩ := hw
      refine w_iast (o := 46) hx hb hK hW hS ko_46.1 ko_46.2 hi d_Mod_readFront_80 (fun H locs hW hS => ?_)
      obtain ⟨x1346, ex1346⟩ : ∃ y : St, y = setA x1344 46 l2 r1345 := ⟨_, rfl⟩
      rw [← ex1346] at hW
      have hw := hw x1346 ex1346
      refine lv_iinc (v := (l2 + 1)) (lv' := [(2, .int (l2 + 1)), (0, .ref (ad 0)), (1, .int l1)]) hx hb d_Mod_readFront_81 hl (k := 2) rfl rfl (by decide) rfl (fun ls hl => ?_)
      refine lv_goto (tgt := 54) hx hb d_Mod_readFront_84 (by decide) ?_
      exact hrec54 l1 (l2 + 1) x1346 H locs ls  hw hW hS (lv_sub hl [1, 2, 0] rfl)
set_option maxHeartbeats 4000000 in
set_option maxRecDepth 100000 in
theorem tl_Mod_readFront_54 {p : Program} {l : Launch} {e : Env} {R : Room} {s : State} {m : MethodId} {args : Array Value} {below : List Frame} {meth : Method} {c : Code} {cells slots : Nat} {Q : State → Prop} {dC : Nat → ClassId} {dI : Nat → Nat → Nat} {cI cB cJ cZ : ClassId} {A : Nat → Prop} {ad : Nat → Nat} {post : St → Prop} (hx : p.tables.exec = Jvm.exec) (hb : c.code = b_Mod_readFront) (hml : c.maxLocals = 4) (hown : s.vm.findClass R_Mod = some m.cls) (hT : ∀ w ∈ TG, w.before args s = true) (hK : va_K (dC, dI) CL (TY cI cB cJ cZ) s) (hN : NW s) (hA : ∀ q : Nat, s.heap.size ≤ q → A q) (hRc : cells ≤ R.cells) (hRs : slots ≤ R.slots) (hRf : 4 ≤ R.frames) (hRl : 105 ≤ R.locals) (hret : ∀ (x : St) (H : Heap) (locs : List Loc) (pc : Nat) (ls : Array Slot), decode b_Mod_readFront pc = .ok (.return_, 1) → post x → Wd dC dI cI cB cJ cZ ad stM kcM 115 A x H → va_S A s.heap H locs → W p l e R s m args below meth c H locs cells slots Q (F0 m pc ls []))  : ∀ n : Nat, ∀ (l1 : Int32) (l2 : Int32) (x : St) (H : Heap) (locs : List Loc) (ls : Array Slot), wl_Mod_readFront_54 post n l1 l2 x → Wd dC dI cI cB cJ cZ ad stM kcM 115 A x H → va_S A s.heap H locs → lv_has ls 4 [(0, .ref (ad 0)), (1, .int l1), (2, .int l2)] → W p l e R s m args below meth c H locs cells slots Q (F0 m 54 ls []) := by
  intro n
  induction n with
  | zero => intro l1 l2 x H locs ls  hw; exact hw.elim
  | succ n ih => intro l1 l2 x H locs ls  hw hW hS hl; exact t_Mod_readFront_54 hx hb hml hown hT hK hN hA hRc hRs hRf hRl hret  ih l1 l2 x H locs ls  hw hW hS hl
set_option maxRecDepth 100000 in
set_option maxHeartbeats 4000000 in
set_option maxRecDepth 100000 in
theorem t_Mod_readFront_52 {p : Program} {l : Launch} {e : Env} {R : Room} {s : State} {m : MethodId} {args : Array Value} {below : List Frame} {meth : Method} {c : Code} {cells slots : Nat} {Q : State → Prop} {dC : Nat → ClassId} {dI : Nat → Nat → Nat} {cI cB cJ cZ : ClassId} {A : Nat → Prop} {ad : Nat → Nat} {post : St → Prop} (hx : p.tables.exec = Jvm.exec) (hb : c.code = b_Mod_readFront) (hml : c.maxLocals = 4) (hown : s.vm.findClass R_Mod = some m.cls) (hT : ∀ w ∈ TG, w.before args s = true) (hK : va_K (dC, dI) CL (TY cI cB cJ cZ) s) (hN : NW s) (hA : ∀ q : Nat, s.heap.size ≤ q → A q) (hRc : cells ≤ R.cells) (hRs : slots ≤ R.slots) (hRf : 4 ≤ R.frames) (hRl : 105 ≤ R.locals) (hret : ∀ (x : St) (H : Heap) (locs : List Loc) (pc : Nat) (ls : Array Slot), decode b_Mod_readFront pc = .ok (.return_, 1) → post x → Wd dC dI cI cB cJ cZ ad stM kcM 115 A x H → va_S A s.heap H locs → W p l e R s m args below meth c H locs cells slots Q (F0 m pc ls []))  : ∀ (l1 : Int32) (l2 : Int32) (x : St) (H : Heap) (locs : List Loc) (ls : Array Slot), j_Mod_readFront_52 post l1 l2 x → Wd dC dI cI cB cJ cZ ad stM kcM 115 A x H → va_S A s.heap H locs → lv_has ls 4 [(0, .ref (ad 0)), (1, .int l1), (2, .int l2)] → W p l e R s m args below meth c H locs cells slots Q (F0 m 52 ls []) := by
  intro l1 l2 x H locs ls  hw hW hS hl
  unfold j_Mod_readFront_52 at hw
  refine lv_iconst (v := 0) hx hb d_Mod_readFront_52 (by decide) ?_
  refine lv_istore_n (lv' := [(2, .int 0), (0, .ref (ad 0)), (1, .int l1)]) hx hb d_Mod_readFront_53 rfl hl (by decide) rfl (fun ls hl => ?_)
  obtain ⟨n, hw⟩ := hw
  exact tl_Mod_readFront_54 hx hb hml hown hT hK hN hA hRc hRs hRf hRl hret  n l1 0 x H locs ls  hw hW hS (lv_sub hl [1, 2, 0] rfl)
set_option maxRecDepth 100000 in
set_option maxHeartbeats 4000000 in
set_option maxRecDepth 100000 in
theorem t_Mod_readFront_40 {p : Program} {l : Launch} {e : Env} {R : Room} {s : State} {m : MethodId} {args : Array Value} {below : List Frame} {meth : Method} {c : Code} {cells slots : Nat} {Q : State → Prop} {dC : Nat → ClassId} {dI : Nat → Nat → Nat} {cI cB cJ cZ : ClassId} {A : Nat → Prop} {ad : Nat → Nat} {post : St → Prop} (hx : p.tables.exec = Jvm.exec) (hb : c.code = b_Mod_readFront) (hml : c.maxLocals = 4) (hown : s.vm.findClass R_Mod = some m.cls) (hT : ∀ w ∈ TG, w.before args s = true) (hK : va_K (dC, dI) CL (TY cI cB cJ cZ) s) (hN : NW s) (hA : ∀ q : Nat, s.heap.size ≤ q → A q) (hRc : cells ≤ R.cells) (hRs : slots ≤ R.slots) (hRf : 4 ≤ R.frames) (hRl : 105 ≤ R.locals) (hret : ∀ (x : St) (H : Heap) (locs : List Loc) (pc : Nat) (ls : Array Slot), decode b_Mod_readFront pc = .ok (.return_, 1) → post x → Wd dC dI cI cB cJ cZ ad stM kcM 115 A x H → va_S A s.heap H locs → W p l e R s m args below meth c H locs cells slots Q (F0 m pc ls []))  : ∀ (l1 : Int32) (l2 : Int32) (x : St) (H : Heap) (locs : List Loc) (ls : Array Slot), j_Mod_readFront_40 post l1 l2 x → Wd dC dI cI cB cJ cZ ad stM kcM 115 A x H → va_S A s.heap H locs → lv_has ls 4 [(0, .ref (ad 0)), (1, .int l1), (2, .int l2)] → W p l e R s m args below meth c H locs cells slots Q (F0 m 40 ls []) := by
  intro l1 l2 x H locs ls  hw hW hS hl
  unfold j_Mod_readFront_40 at hw
  refine lv_aload_n hx hb d_Mod_readFront_40 rfl (lv_at hl 0 rfl) ?_
  refine w_geti (k := 69) (t := 12) (C := R_Mod) (T := F_Mod) (N := 167) hx hb hT hown hK hW ko_0.1 ko_0.2 (by decide) in_Mod rfl rfl (by decide) rfl fr_Mod_69 w_9_5 d_Mod_readFront_41 ?_
  refine lv_if_ne (tgt := 52) hx hb d_Mod_readFront_44 (by decide) (fun c1347 => ?_) (fun c1347 => ?_)
  · have hw := hw.1 c1347
    exact t_Mod_readFront_52 hx hb hml hown hT hK hN hA hRc hRs hRf hRl hret  l1 l2 x H locs ls  hw hW hS (lv_sub hl [0, 1, 2] rfl)
  · have hw := hw.2 c1347
    refine lv_aload_n hx hb d_Mod_readFront_47 rfl (lv_at hl 0 rfl) ?_
    refine lv_iload_n hx hb d_Mod_readFront_48 rfl (lv_at hl 1 rfl) ?_
    have hF := hW.free hS hA
    refine va_callv (va_runV (C := R_Mod) (As := [.int l1]) (rest := []) ⟨hx, hb, hml, hown, hT⟩ (k_Mod_readCode l dC dI cI cB cJ cZ ad H.size l1 x  hw) ⟨callB_of 1 hT (gwt_in w_12_218) rfl rfl rfl (hT _ w_1_15) (hT _ w_12_215) (by decide +kernel) ⟨Nat.le_trans (Nat.le_of_ble_eq_true rfl) hRf, Nat.le_trans (Nat.le_of_ble_eq_true rfl) hRl⟩, hT _ w_12_217, hT _ ws_208⟩ ⟨PW.blind, va_recv hK hW.1 (ci := 12) (q0 := 0) rfl (pic_obj ko_0.1 ko_0.2 (by decide)), PW.at _ hW hK hN⟩ rfl rfl hl.1 rfl (lv_room (Nat.le_of_ble_eq_true rfl)) d_Mod_readFront_49 ⟨hRc, hRs⟩) hS (fun q _ h => hF q h) hF (fun  x1348 t H locs ht hvm hw hB hz1 hk1 hS => ?_)
    have hW := Wd.back hB ht hF
    clear hB ht hF hz1 hk1 hvm
    exact t_Mod_readFront_52 hx hb hml hown hT hK hN hA hRc hRs hRf hRl hret  l1 l2 x1348 H locs ls  hw hW hS (lv_sub hl [0, 1, 2] rfl)
set_option maxRecDepth 100000 in
set_option maxHeartbeats 4000000 in
set_option maxRecDepth 100000 in
theorem t_Mod_readFront_7 {p : Program} {l : Launch} {e : Env} {R : Room} {s : State} {m : MethodId} {args : Array Value} {below : List Frame} {meth : Method} {c : Code} {cells slots : Nat} {Q : State → Prop} {dC : Nat → ClassId} {dI : Nat → Nat → Nat} {cI cB cJ cZ : ClassId} {A : Nat → Prop} {ad : Nat → Nat} {post : St → Prop} {rec7 : Int32 → Int32 → St → Prop} (hx : p.tables.exec = Jvm.exec) (hb : c.code = b_Mod_readFront) (hml : c.maxLocals = 4) (hown : s.vm.findClass R_Mod = some m.cls) (hT : ∀ w ∈ TG, w.before args s = true) (hK : va_K (dC, dI) CL (TY cI cB cJ cZ) s) (hN : NW s) (hA : ∀ q : Nat, s.heap.size ≤ q → A q) (hRc : cells ≤ R.cells) (hRs : slots ≤ R.slots) (hRf : 4 ≤ R.frames) (hRl : 105 ≤ R.locals) (hret : ∀ (x : St) (H : Heap) (locs : List Loc) (pc : Nat) (ls : Array Slot), decode b_Mod_readFront pc = .ok (.return_, 1) → post x → Wd dC dI cI cB cJ cZ ad stM kcM 115 A x H → va_S A s.heap H locs → W p l e R s m args below meth c H locs cells slots Q (F0 m pc ls [])) (hrec7 : ∀ (l1 : Int32) (l2 : Int32) (x : St) (H : Heap) (locs : List Loc) (ls : Array Slot), rec7 l1 l2 x → Wd dC dI cI cB cJ cZ ad stM kcM 115 A x H → va_S A s.heap H locs → lv_has ls 4 [(0, .ref (ad 0)), (1, .int l1), (2, .int l2)] → W p l e R s m args below meth c H locs cells slots Q (F0 m 7 ls [])) : ∀ (l1 : Int32) (l2 : Int32) (x : St) (H : Heap) (locs : List Loc) (ls : Array Slot), j_Mod_readFront_7 post rec7 l1 l2 x → Wd dC dI cI cB cJ cZ ad stM kcM 115 A x H → va_S A s.heap H locs → lv_has ls 4 [(0, .ref (ad 0)), (1, .int l1), (2, .int l2)] → W p l e R s m args below meth c H locs cells slots Q (F0 m 7 ls []) := by
  intro l1 l2 x H locs ls  hw hW hS hl
  unfold j_Mod_readFront_7 at hw
  refine lv_iload_n hx hb d_Mod_readFront_7 rfl (lv_at hl 2 rfl) ?_
  refine lv_iload_n hx hb d_Mod_readFront_8 rfl (lv_at hl 1 rfl) ?_
  refine lv_icmp_ge (tgt := 40) hx hb d_Mod_readFront_9 (by decide) (fun c1349 => ?_) (fun c1349 => ?_)
  · have hw := hw.1 c1349
    exact t_Mod_readFront_40 hx hb hml hown hT hK hN hA hRc hRs hRf hRl hret  l1 l2 x H locs ls  hw hW hS (lv_sub hl [0, 1, 2] rfl)
  · have hw := hw.2 c1349
    refine lv_aload_n hx hb d_Mod_readFront_12 rfl (lv_at hl 0 rfl) ?_
    refine w_geti (k := 69) (t := 12) (C := R_Mod) (T := F_Mod) (N := 167) hx hb hT hown hK hW ko_0.1 ko_0.2 (by decide) in_Mod rfl rfl (by decide) rfl fr_Mod_69 w_9_5 d_Mod_readFront_13 ?_
    refine lv_if_ne (tgt := 40) hx hb d_Mod_readFront_16 (by decide) (fun c1350 => ?_) (fun c1350 => ?_)
    · have hw := hw.1 c1350
      exact t_Mod_readFront_40 hx hb hml hown hT hK hN hA hRc hRs hRf hRl hret  l1 l2 x H locs ls  hw hW hS (lv_sub hl [0, 1, 2] rfl)
    · have hw := hw.2 c1350
      refine lv_aload_n hx hb d_Mod_readFront_19 rfl (lv_at hl 0 rfl) ?_
      refine w_getf (q := 45) (k := 73) (t := 12) (C := R_Mod) (T := F_Mod) (N := 167) hx hb hT hown hK hW ko_0.1 ko_0.2 (by decide) in_Mod rfl rfl (by decide) rfl fr_Mod_73 w_9_9 d_Mod_readFront_20 rfl ?_
      refine lv_iload_n hx hb d_Mod_readFront_23 rfl (lv_at hl 2 rfl) ?_
      refine lv_aload_n hx hb d_Mod_readFront_24 rfl (lv_at hl 0 rfl) ?_
      refine w_getf (q := 43) (k := 70) (t := 12) (C := R_Mod) (T := F_Mod) (N := 167) hx hb hT hown hK hW ko_0.1 ko_0.2 (by decide) in_Mod rfl rfl (by decide) rfl fr_Mod_70 w_9_6 d_Mod_readFront_25 rfl ?_
      refine lv_iload_n hx hb d_Mod_readFront_28 rfl (lv_at hl 2 rfl) ?_
      obtain ⟨hi, hw⟩ := hw
      refine w_lald (o := 43) hx hb hK hW ko_43.1 ko_43.2 hi d_Mod_readFront_29 ?_
      have hF := hW.free hS hA
      refine va_calli (va_runS (As := [.long (rL x 43 l2)]) (rest := [.int l2, .ref (ad 45)]) ⟨hx, hb, hml, hown, hT⟩ (k_Mod_toldLength l dC dI cI cB cJ cZ ad H.size (rL x 43 l2) x  hw) ⟨callB_of 1 hT (gwt_in w_12_234) rfl rfl rfl (hT _ w_1_15) (hT _ w_12_232) (by decide +kernel) ⟨Nat.le_trans (Nat.le_of_ble_eq_true rfl) hRf, Nat.le_trans (Nat.le_of_ble_eq_true rfl) hRl⟩, hT _ w_12_233⟩ ⟨PW.blind, PW.at _ hW hK hN⟩ rfl rfl hl.1 rfl (lv_room (Nat.le_of_ble_eq_true rfl)) d_Mod_readFront_30 ⟨hRc, hRs⟩) hS (fun q _ h => hF q h) hF (fun r1352 x1351 t H locs ht hvm hw hB hz1 hk1 hS => ?_)
      have hW := Wd.back hB ht hF
      clear hB ht hF hz1 hk1 hvm
      obtain ⟨hi, hw⟩ := hw
      refine w_iast (o := 45) hx hb hK hW hS ko_45.1 ko_45.2 hi d_Mod_readFront_33 (fun H locs hW hS => ?_)
      obtain ⟨x1353, ex1353⟩ : ∃ y : St, y = setA x1351 45 l2 r1352 := ⟨_, rfl⟩
      rw [← ex1353] at hW
      have hw := hw x1353 ex1353
      refine lv_iinc (v := (l2 + 1)) (lv' := [(2, .int (l2 + 1)), (0, .ref (ad 0)), (1, .int l1)]) hx hb d_Mod_readFront_34 hl (k := 2) rfl rfl (by decide) rfl (fun ls hl => ?_)
      refine lv_goto (tgt := 7) hx hb d_Mod_readFront_37 (by decide) ?_
      exact hrec7 l1 (l2 + 1) x1353 H locs ls  hw hW hS (lv_sub hl [1, 2, 0] rfl)
set_option maxHeartbeats 4000000 in
set_option maxRecDepth 100000 in
theorem tl_Mod_readFront_7 {p : Program} {l : Launch} {e : Env} {R : Room} {s : State} {m : MethodId} {args : Array Value} {below : List Frame} {meth : Method} {c : Code} {cells slots : Nat} {Q : State → Prop} {dC : Nat → ClassId} {dI : Nat → Nat → Nat} {cI cB cJ cZ : ClassId} {A : Nat → Prop} {ad : Nat → Nat} {post : St → Prop} (hx : p.tables.exec = Jvm.exec) (hb : c.code = b_Mod_readFront) (hml : c.maxLocals = 4) (hown : s.vm.findClass R_Mod = some m.cls) (hT : ∀ w ∈ TG, w.before args s = true) (hK : va_K (dC, dI) CL (TY cI cB cJ cZ) s) (hN : NW s) (hA : ∀ q : Nat, s.heap.size ≤ q → A q) (hRc : cells ≤ R.cells) (hRs : slots ≤ R.slots) (hRf : 4 ≤ R.frames) (hRl : 105 ≤ R.locals) (hret : ∀ (x : St) (H : Heap) (locs : List Loc) (pc : Nat) (ls : Array Slot), decode b_Mod_readFront pc = .ok (.return_, 1) → post x → Wd dC dI cI cB cJ cZ ad stM kcM 115 A x H → va_S A s.heap H locs → W p l e R s m args below meth c H locs cells slots Q (F0 m pc ls []))  : ∀ n : Nat, ∀ (l1 : Int32) (l2 : Int32) (x : St) (H : Heap) (locs : List Loc) (ls : Array Slot), wl_Mod_readFront_7 post n l1 l2 x → Wd dC dI cI cB cJ cZ ad stM kcM 115 A x H → va_S A s.heap H locs → lv_has ls 4 [(0, .ref (ad 0)), (1, .int l1), (2, .int l2)] → W p l e R s m args below meth c H locs cells slots Q (F0 m 7 ls []) := by
  intro n
  induction n with
  | zero => intro l1 l2 x H locs ls  hw; exact hw.elim
  | succ n ih => intro l1 l2 x H locs ls  hw hW hS hl; exact t_Mod_readFront_7 hx hb hml hown hT hK hN hA hRc hRs hRf hRl hret  ih l1 l2 x H locs ls  hw hW hS hl
set_option maxRecDepth 100000 in
set_option maxHeartbeats 4000000 in
set_option maxRecDepth 100000 in
theorem t_Mod_readFront_e {p : Program} {l : Launch} {e : Env} {R : Room} {s : State} {m : MethodId} {args : Array Value} {below : List Frame} {meth : Method} {c : Code} {cells slots : Nat} {Q : State → Prop} {dC : Nat → ClassId} {dI : Nat → Nat → Nat} {cI cB cJ cZ : ClassId} {A : Nat → Prop} {ad : Nat → Nat} {post : St → Prop} (hx : p.tables.exec = Jvm.exec) (hb : c.code = b_Mod_readFront) (hml : c.maxLocals = 4) (hown : s.vm.findClass R_Mod = some m.cls) (hT : ∀ w ∈ TG, w.before args s = true) (hK : va_K (dC, dI) CL (TY cI cB cJ cZ) s) (hN : NW s) (hA : ∀ q : Nat, s.heap.size ≤ q → A q) (hRc : cells ≤ R.cells) (hRs : slots ≤ R.slots) (hRf : 4 ≤ R.frames) (hRl : 105 ≤ R.locals) (hret : ∀ (x : St) (H : Heap) (locs : List Loc) (pc : Nat) (ls : Array Slot), decode b_Mod_readFront pc = .ok (.return_, 1) → post x → Wd dC dI cI cB cJ cZ ad stM kcM 115 A x H → va_S A s.heap H locs → W p l e R s m args below meth c H locs cells slots Q (F0 m pc ls [])) : ∀ (l1 : Int32) (x : St) (H : Heap) (locs : List Loc) (ls : Array Slot), wp_Mod_readFront post l1 x → Wd dC dI cI cB cJ cZ ad stM kcM 115 A x H → va_S A s.heap H locs → lv_has ls 4 [(0, .ref (ad 0)), (1, .int l1)] → W p l e R s m args below meth c H locs cells slots Q (F0 m 0 ls []) := by
  intro l1 x H locs ls  hw hW hS hl
  unfold wp_Mod_readFront at hw
  refine lv_aload_n hx hb d_Mod_readFront_0 rfl (lv_at hl 0 rfl) ?_
  refine lv_iload_n hx hb d_Mod_readFront_1 rfl (lv_at hl 1 rfl) ?_
  have hF := hW.free hS hA
  refine va_callv (va_runV (C := R_Mod) (As := [.int l1]) (rest := []) ⟨hx, hb, hml, hown, hT⟩ (k_Mod_readCode l dC dI cI cB cJ cZ ad H.size l1 x  hw) ⟨callB_of 1 hT (gwt_in w_12_218) rfl rfl rfl (hT _ w_1_15) (hT _ w_12_215) (by decide +kernel) ⟨Nat.le_trans (Nat.le_of_ble_eq_true rfl) hRf, Nat.le_trans (Nat.le_of_ble_eq_true rfl) hRl⟩, hT _ w_12_217, hT _ ws_208⟩ ⟨PW.blind, va_recv hK hW.1 (ci := 12) (q0 := 0) rfl (pic_obj ko_0.1 ko_0.2 (by decide)), PW.at _ hW hK hN⟩ rfl rfl hl.1 rfl (lv_room (Nat.le_of_ble_eq_true rfl)) d_Mod_readFront_2 ⟨hRc, hRs⟩) hS (fun q _ h => hF q h) hF (fun  x1354 t H locs ht hvm hw hB hz1 hk1 hS => ?_)
  have hW := Wd.back hB ht hF
  clear hB ht hF hz1 hk1 hvm
  refine lv_iconst (v := 0) hx hb d_Mod_readFront_5 (by decide) ?_
  refine lv_istore_n (lv' := [(2, .int 0), (0, .ref (ad 0)), (1, .int l1)]) hx hb d_Mod_readFront_6 rfl hl (by decide) rfl (fun ls hl => ?_)
  obtain ⟨n, hw⟩ := hw
  exact tl_Mod_readFront_7 hx hb hml hown hT hK hN hA hRc hRs hRf hRl hret  n l1 0 x1354 H locs ls  hw hW hS (lv_sub hl [1, 2, 0] rfl)
set_option maxHeartbeats 4000000 in
set_option maxRecDepth 100000 in
theorem k_Mod_readFront (l : Launch) (dC : Nat → ClassId) (dI : Nat → Nat → Nat) (cI cB cJ cZ : ClassId) (ad : Nat → Nat) (sz : Nat) (l1 : Int32) (x : St) {post : St → Prop} (hw : wp_Mod_readFront post l1 x) : Met l y_Mod_readFront (wsOf y_Mod_readFront b_Mod_readFront 4 (none)) ({ frames := 4, cells := 0, slots := 0, locals := 105 }) (va_Pc [.ref (ad 0), .int l1] (PW dC dI cI cB cJ cZ ad stM kcM 115 sz x)) (va_Qv (fun (y : St) => post y) (fun y t => Wd dC dI cI cB cJ cZ ad stM kcM 115 (va_A (pic ad stM kcM 115 cI cB cJ cZ x) sz) y t.heap) (va_A (pic ad stM kcM 115 cI cB cJ cZ x) sz)) 0 0 (va_A (pic ad stM kcM 115 cI cB cJ cZ x) sz) := by
  refine Met.ofW (cc := b_Mod_readFront) (maxL := 4) (ret := none) (by decide) rfl ?_
  intro p e s m args below meth c s₁ B hml hv
  obtain ⟨rfl, hsz, hW0, hK, hN⟩ := hv
  have hx := B.exec
  have hb := B.bytes
  have hr := B.returns
  have hts := atoms_spec B.pre
  have hT : ∀ w ∈ TG, w.before _ s = true := fun w h => hts w (List.mem_cons_of_mem _ h)
  have hown : s.vm.findClass R_Mod = some m.cls := findClass_of_methodNamed B.named
  have hlocks := B.notSynchronized
  subst hsz
  have hW : Wd dC dI cI cB cJ cZ ad stM kcM 115 (va_A (pic ad stM kcM 115 cI cB cJ cZ x) s.heap.size) x s.heap := ⟨hW0.1, hW0.2.1.self (sz := s.heap.size), hW0.2.2⟩
  generalize hAe : va_A (pic ad stM kcM 115 cI cB cJ cZ x) s.heap.size = A at hW ⊢
  have hA : ∀ q : Nat, s.heap.size ≤ q → A q := fun q h => by rw [← hAe]; exact Or.inr h
  have hS : va_S A s.heap s.heap [] := va_S.rf
  have hl := lv_entry ([.ref (ad 0), .int l1]) (n := 4) (Nat.le_of_ble_eq_true rfl)
  rw [lg_entry_eq]
  generalize (lg_sl ([.ref (ad 0), .int l1]) ++ List.replicate (4 - (lg_sl ([.ref (ad 0), .int l1])).length) Slot.unset).toArray = ls at hl ⊢
  have hl : lv_has ls 4 [(0, .ref (ad 0)), (1, .int l1)] := hl
  exact t_Mod_readFront_e hx hb hml hown hT hK hN hA (Nat.le_refl 0) (Nat.le_refl 0) (Nat.le_refl 4) (Nat.le_refl 105) (fun x H locs pc ls hd hp hW hS => W.vret hx hb hr (fun t ht hM => ⟨⟨x, rfl, hp, Wd.back hW ht.symm (fun _ z => z)⟩, hS.F ht⟩) hS.2.2 hd hlocks)  l1 x _ _ ls  hw hW hS hl
end
