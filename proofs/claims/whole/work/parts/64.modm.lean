theorem w_12_174 : (Jvm.Cond.methodLink "StripedVaultModel" (736 : Nat) ({ cls := "StripedVaultModel", name := "readLevels", desc := "([III)V" } : Jvm.MethodName)) ∈ TG := tw_12 174 (by decide +kernel) (by decide +kernel)
theorem w_12_176 : (Jvm.Cond.instanceMethod ({ cls := "StripedVaultModel", name := "readLevels", desc := "([III)V" } : Jvm.MethodName)) ∈ TG := tw_12 176 (by decide +kernel) (by decide +kernel)
theorem w_12_177 : (Jvm.Cond.code ({ cls := "StripedVaultModel", name := "readLevels", desc := "([III)V" } : Jvm.MethodName) prog_14_method_98_code (9 : Nat) (Option.none : Option Jvm.ClassFile.FieldType)) ∈ TG := tw_12 177 (by decide +kernel) (by decide +kernel)
theorem w_12_195 : (Jvm.Cond.methodLink "StripedVaultModel" (742 : Nat) ({ cls := "StripedVaultModel", name := "readBools", desc := "(II)V" } : Jvm.MethodName)) ∈ TG := tw_12 195 (by decide +kernel) (by decide +kernel)
theorem w_12_197 : (Jvm.Cond.instanceMethod ({ cls := "StripedVaultModel", name := "readBools", desc := "(II)V" } : Jvm.MethodName)) ∈ TG := tw_12 197 (by decide +kernel) (by decide +kernel)
theorem w_12_198 : (Jvm.Cond.code ({ cls := "StripedVaultModel", name := "readBools", desc := "(II)V" } : Jvm.MethodName) prog_14_method_94_code (5 : Nat) (Option.none : Option Jvm.ClassFile.FieldType)) ∈ TG := tw_12 198 (by decide +kernel) (by decide +kernel)
theorem w_12_199 : (Jvm.Cond.methodLink "StripedVaultModel" (745 : Nat) ({ cls := "StripedVaultModel", name := "readTexts", desc := "(II)V" } : Jvm.MethodName)) ∈ TG := tw_12 199 (by decide +kernel) (by decide +kernel)
theorem w_12_201 : (Jvm.Cond.instanceMethod ({ cls := "StripedVaultModel", name := "readTexts", desc := "(II)V" } : Jvm.MethodName)) ∈ TG := tw_12 201 (by decide +kernel) (by decide +kernel)
theorem w_12_202 : (Jvm.Cond.code ({ cls := "StripedVaultModel", name := "readTexts", desc := "(II)V" } : Jvm.MethodName) prog_14_method_93_code (3 : Nat) (Option.none : Option Jvm.ClassFile.FieldType)) ∈ TG := tw_12 202 (by decide +kernel) (by decide +kernel)
theorem w_12_239 : (Jvm.Cond.methodLink "StripedVaultModel" (748 : Nat) ({ cls := "StripedVaultModel", name := "readWholes", desc := "(II)V" } : Jvm.MethodName)) ∈ TG := tw_12 239 (by decide +kernel) (by decide +kernel)
theorem w_13_1 : (Jvm.Cond.instanceMethod ({ cls := "StripedVaultModel", name := "readWholes", desc := "(II)V" } : Jvm.MethodName)) ∈ TG := tw_13 1 (by decide +kernel) (by decide +kernel)
theorem w_13_10 : (Jvm.Cond.code ({ cls := "StripedVaultModel", name := "readWords", desc := "(I)V" } : Jvm.MethodName) prog_14_method_97_code (6 : Nat) (Option.none : Option Jvm.ClassFile.FieldType)) ∈ TG := tw_13 10 (by decide +kernel) (by decide +kernel)
theorem w_13_11 : (Jvm.Cond.methodLink "StripedVaultModel" (751 : Nat) ({ cls := "StripedVaultModel", name := "isMost", desc := "(II)Z" } : Jvm.MethodName)) ∈ TG := tw_13 11 (by decide +kernel) (by decide +kernel)
theorem w_13_13 : (Jvm.Cond.instanceMethod ({ cls := "StripedVaultModel", name := "isMost", desc := "(II)Z" } : Jvm.MethodName)) ∈ TG := tw_13 13 (by decide +kernel) (by decide +kernel)
theorem w_13_14 : (Jvm.Cond.code ({ cls := "StripedVaultModel", name := "isMost", desc := "(II)Z" } : Jvm.MethodName) prog_14_method_101_code (7 : Nat) (Option.some Jvm.ClassFile.FieldType.boolean)) ∈ TG := tw_13 14 (by decide +kernel) (by decide +kernel)
theorem w_13_15 : (Jvm.Cond.methodLink "StripedVaultModel" (730 : Nat) ({ cls := "StripedVaultModel", name := "against", desc := "(II)I" } : Jvm.MethodName)) ∈ TG := tw_13 15 (by decide +kernel) (by decide +kernel)
theorem w_13_17 : (Jvm.Cond.instanceMethod ({ cls := "StripedVaultModel", name := "against", desc := "(II)I" } : Jvm.MethodName)) ∈ TG := tw_13 17 (by decide +kernel) (by decide +kernel)
theorem w_13_18 : (Jvm.Cond.code ({ cls := "StripedVaultModel", name := "against", desc := "(II)I" } : Jvm.MethodName) prog_14_method_100_code (5 : Nat) (Option.some Jvm.ClassFile.FieldType.int)) ∈ TG := tw_13 18 (by decide +kernel) (by decide +kernel)
theorem w_13_2 : (Jvm.Cond.code ({ cls := "StripedVaultModel", name := "readWholes", desc := "(II)V" } : Jvm.MethodName) prog_14_method_96_code (4 : Nat) (Option.none : Option Jvm.ClassFile.FieldType)) ∈ TG := tw_13 2 (by decide +kernel) (by decide +kernel)
theorem w_13_7 : (Jvm.Cond.methodLink "StripedVaultModel" (727 : Nat) ({ cls := "StripedVaultModel", name := "readWords", desc := "(I)V" } : Jvm.MethodName)) ∈ TG := tw_13 7 (by decide +kernel) (by decide +kernel)
theorem w_13_9 : (Jvm.Cond.instanceMethod ({ cls := "StripedVaultModel", name := "readWords", desc := "(I)V" } : Jvm.MethodName)) ∈ TG := tw_13 9 (by decide +kernel) (by decide +kernel)
theorem ws_198 : Cond.selects R_Mod y_Mod_readLevels y_Mod_readLevels ∈ TG := tw_s 198 (by decide +kernel) (by decide +kernel)
theorem ws_203 : Cond.selects R_Mod y_Mod_readBools y_Mod_readBools ∈ TG := tw_s 203 (by decide +kernel) (by decide +kernel)
theorem ws_204 : Cond.selects R_Mod y_Mod_readTexts y_Mod_readTexts ∈ TG := tw_s 204 (by decide +kernel) (by decide +kernel)
theorem ws_213 : Cond.selects R_Mod y_Mod_readWholes y_Mod_readWholes ∈ TG := tw_s 213 (by decide +kernel) (by decide +kernel)
theorem ws_215 : Cond.selects R_Mod y_Mod_readWords y_Mod_readWords ∈ TG := tw_s 215 (by decide +kernel) (by decide +kernel)
theorem ws_216 : Cond.selects R_Mod y_Mod_isMost y_Mod_isMost ∈ TG := tw_s 216 (by decide +kernel) (by decide +kernel)
theorem ws_217 : Cond.selects R_Mod y_Mod_against y_Mod_against ∈ TG := tw_s 217 (by decide +kernel) (by decide +kernel)
theorem d_Mod_readWholes_102 : decode b_Mod_readWholes 102 = .ok (.goto 8, 3) := by decide +kernel
theorem d_Mod_readWholes_110 : decode b_Mod_readWholes 110 = .ok (.return_, 1) := by decide +kernel
theorem d_Mod_readWholes_96 : decode b_Mod_readWholes 96 = .ok (.iinc 3 1, 3) := by decide +kernel
theorem d_Mod_readWholes_99 : decode b_Mod_readWholes 99 = .ok (.goto (-46), 3) := by decide +kernel
theorem d_Mod_readWholes_53 : decode b_Mod_readWholes 53 = .ok (.iload_n 3, 1) := by decide +kernel
theorem d_Mod_readWholes_54 : decode b_Mod_readWholes 54 = .ok (.iload_n 2, 1) := by decide +kernel
theorem d_Mod_readWholes_55 : decode b_Mod_readWholes 55 = .ok (.if_icmp .ge 47, 3) := by decide +kernel
theorem d_Mod_readWholes_58 : decode b_Mod_readWholes 58 = .ok (.aload_n 0, 1) := by decide +kernel
theorem d_Mod_readWholes_59 : decode b_Mod_readWholes 59 = .ok (.getfield 550, 3) := by decide +kernel
theorem d_Mod_readWholes_62 : decode b_Mod_readWholes 62 = .ok (.ifCond .ne 40, 3) := by decide +kernel
theorem d_Mod_readWholes_65 : decode b_Mod_readWholes 65 = .ok (.aload_n 0, 1) := by decide +kernel
theorem d_Mod_readWholes_66 : decode b_Mod_readWholes 66 = .ok (.getfield 103, 3) := by decide +kernel
theorem d_Mod_readWholes_69 : decode b_Mod_readWholes 69 = .ok (.iload_n 3, 1) := by decide +kernel
theorem d_Mod_readWholes_70 : decode b_Mod_readWholes 70 = .ok (.aload_n 0, 1) := by decide +kernel
theorem d_Mod_readWholes_71 : decode b_Mod_readWholes 71 = .ok (.getfield 139, 3) := by decide +kernel
theorem d_Mod_readWholes_74 : decode b_Mod_readWholes 74 = .ok (.iload_n 3, 1) := by decide +kernel
theorem d_Mod_readWholes_75 : decode b_Mod_readWholes 75 = .ok (.laload, 1) := by decide +kernel
theorem d_Mod_readWholes_76 : decode b_Mod_readWholes 76 = .ok (.lastore, 1) := by decide +kernel
theorem d_Mod_readWholes_77 : decode b_Mod_readWholes 77 = .ok (.aload_n 0, 1) := by decide +kernel
theorem d_Mod_readWholes_78 : decode b_Mod_readWholes 78 = .ok (.aload_n 0, 1) := by decide +kernel
theorem d_Mod_readWholes_79 : decode b_Mod_readWholes 79 = .ok (.getfield 139, 3) := by decide +kernel
theorem d_Mod_readWholes_82 : decode b_Mod_readWholes 82 = .ok (.iload_n 3, 1) := by decide +kernel
theorem d_Mod_readWholes_83 : decode b_Mod_readWholes 83 = .ok (.laload, 1) := by decide +kernel
theorem d_Mod_readWholes_84 : decode b_Mod_readWholes 84 = .ok (.invokevirtual 724, 3) := by decide +kernel
theorem d_Mod_readWholes_87 : decode b_Mod_readWholes 87 = .ok (.ifCond .ne 9, 3) := by decide +kernel
theorem d_Mod_readWholes_90 : decode b_Mod_readWholes 90 = .ok (.aload_n 0, 1) := by decide +kernel
theorem d_Mod_readWholes_91 : decode b_Mod_readWholes 91 = .ok (.bipush 7, 2) := by decide +kernel
theorem d_Mod_readWholes_93 : decode b_Mod_readWholes 93 = .ok (.putfield 550, 3) := by decide +kernel
theorem d_Mod_readWholes_34 : decode b_Mod_readWholes 34 = .ok (.goto 76, 3) := by decide +kernel
theorem d_Mod_readWholes_6 : decode b_Mod_readWholes 6 = .ok (.iload_n 3, 1) := by decide +kernel
theorem d_Mod_readWholes_7 : decode b_Mod_readWholes 7 = .ok (.iload_n 2, 1) := by decide +kernel
theorem d_Mod_readWholes_8 : decode b_Mod_readWholes 8 = .ok (.if_icmp .ge 26, 3) := by decide +kernel
theorem d_Mod_readWholes_11 : decode b_Mod_readWholes 11 = .ok (.aload_n 0, 1) := by decide +kernel
theorem d_Mod_readWholes_12 : decode b_Mod_readWholes 12 = .ok (.getfield 550, 3) := by decide +kernel
theorem d_Mod_readWholes_15 : decode b_Mod_readWholes 15 = .ok (.ifCond .ne 19, 3) := by decide +kernel
theorem d_Mod_readWholes_18 : decode b_Mod_readWholes 18 = .ok (.aload_n 0, 1) := by decide +kernel
theorem d_Mod_readWholes_19 : decode b_Mod_readWholes 19 = .ok (.getfield 103, 3) := by decide +kernel
theorem d_Mod_readWholes_22 : decode b_Mod_readWholes 22 = .ok (.iload_n 3, 1) := by decide +kernel
theorem d_Mod_readWholes_23 : decode b_Mod_readWholes 23 = .ok (.aload_n 0, 1) := by decide +kernel
theorem d_Mod_readWholes_24 : decode b_Mod_readWholes 24 = .ok (.invokevirtual 721, 3) := by decide +kernel
theorem d_Mod_readWholes_27 : decode b_Mod_readWholes 27 = .ok (.lastore, 1) := by decide +kernel
theorem d_Mod_readWholes_28 : decode b_Mod_readWholes 28 = .ok (.iinc 3 1, 3) := by decide +kernel
theorem d_Mod_readWholes_31 : decode b_Mod_readWholes 31 = .ok (.goto (-25), 3) := by decide +kernel
theorem d_Mod_readWholes_0 : decode b_Mod_readWholes 0 = .ok (.iload_n 1, 1) := by decide +kernel
theorem d_Mod_readWholes_1 : decode b_Mod_readWholes 1 = .ok (.ifCond .ne 36, 3) := by decide +kernel
theorem d_Mod_readWholes_37 : decode b_Mod_readWholes 37 = .ok (.iload_n 1, 1) := by decide +kernel
theorem d_Mod_readWholes_38 : decode b_Mod_readWholes 38 = .ok (.iconst 1, 1) := by decide +kernel
theorem d_Mod_readWholes_39 : decode b_Mod_readWholes 39 = .ok (.if_icmp .ne 66, 3) := by decide +kernel
theorem d_Mod_readWholes_105 : decode b_Mod_readWholes 105 = .ok (.aload_n 0, 1) := by decide +kernel
theorem d_Mod_readWholes_106 : decode b_Mod_readWholes 106 = .ok (.iload_n 2, 1) := by decide +kernel
theorem d_Mod_readWholes_107 : decode b_Mod_readWholes 107 = .ok (.invokevirtual 727, 3) := by decide +kernel
theorem d_Mod_readWholes_42 : decode b_Mod_readWholes 42 = .ok (.aload_n 0, 1) := by decide +kernel
theorem d_Mod_readWholes_43 : decode b_Mod_readWholes 43 = .ok (.iload_n 2, 1) := by decide +kernel
theorem d_Mod_readWholes_44 : decode b_Mod_readWholes 44 = .ok (.aload_n 0, 1) := by decide +kernel
theorem d_Mod_readWholes_45 : decode b_Mod_readWholes 45 = .ok (.getfield 608, 3) := by decide +kernel
theorem d_Mod_readWholes_48 : decode b_Mod_readWholes 48 = .ok (.invokevirtual 611, 3) := by decide +kernel
theorem d_Mod_readWholes_51 : decode b_Mod_readWholes 51 = .ok (.iconst 0, 1) := by decide +kernel
theorem d_Mod_readWholes_52 : decode b_Mod_readWholes 52 = .ok (.istore_n 3, 1) := by decide +kernel
theorem d_Mod_readWholes_4 : decode b_Mod_readWholes 4 = .ok (.iconst 0, 1) := by decide +kernel
theorem d_Mod_readWholes_5 : decode b_Mod_readWholes 5 = .ok (.istore_n 3, 1) := by decide +kernel
theorem d_Mod_against_151 : decode b_Mod_against 151 = .ok (.iload_n 3, 1) := by decide +kernel
theorem d_Mod_against_152 : decode b_Mod_against 152 = .ok (.aload_n 0, 1) := by decide +kernel
theorem d_Mod_against_153 : decode b_Mod_against 153 = .ok (.getfield 154, 3) := by decide +kernel
theorem d_Mod_against_156 : decode b_Mod_against 156 = .ok (.iload_n 2, 1) := by decide +kernel
theorem d_Mod_against_157 : decode b_Mod_against 157 = .ok (.iaload, 1) := by decide +kernel
theorem d_Mod_against_158 : decode b_Mod_against 158 = .ok (.isub, 1) := by decide +kernel
theorem d_Mod_against_159 : decode b_Mod_against 159 = .ok (.ireturn, 1) := by decide +kernel
theorem d_Mod_against_69 : decode b_Mod_against 69 = .ok (.iload 4, 2) := by decide +kernel
theorem d_Mod_against_71 : decode b_Mod_against 71 = .ok (.iload_n 3, 1) := by decide +kernel
theorem d_Mod_against_72 : decode b_Mod_against 72 = .ok (.if_icmp .ge 79, 3) := by decide +kernel
theorem d_Mod_against_75 : decode b_Mod_against 75 = .ok (.iload 4, 2) := by decide +kernel
theorem d_Mod_against_77 : decode b_Mod_against 77 = .ok (.aload_n 0, 1) := by decide +kernel
theorem d_Mod_against_78 : decode b_Mod_against 78 = .ok (.getfield 154, 3) := by decide +kernel
theorem d_Mod_against_81 : decode b_Mod_against 81 = .ok (.iload_n 2, 1) := by decide +kernel
theorem d_Mod_against_82 : decode b_Mod_against 82 = .ok (.iaload, 1) := by decide +kernel
theorem d_Mod_against_83 : decode b_Mod_against 83 = .ok (.if_icmp .ge 68, 3) := by decide +kernel
theorem d_Mod_against_86 : decode b_Mod_against 86 = .ok (.aload_n 0, 1) := by decide +kernel
theorem d_Mod_against_87 : decode b_Mod_against 87 = .ok (.getfield 121, 3) := by decide +kernel
theorem d_Mod_against_90 : decode b_Mod_against 90 = .ok (.aload_n 0, 1) := by decide +kernel
theorem d_Mod_against_91 : decode b_Mod_against 91 = .ok (.getfield 112, 3) := by decide +kernel
theorem d_Mod_against_94 : decode b_Mod_against 94 = .ok (.iload_n 1, 1) := by decide +kernel
theorem d_Mod_against_95 : decode b_Mod_against 95 = .ok (.iaload, 1) := by decide +kernel
theorem d_Mod_against_96 : decode b_Mod_against 96 = .ok (.iload 4, 2) := by decide +kernel
theorem d_Mod_against_98 : decode b_Mod_against 98 = .ok (.iadd, 1) := by decide +kernel
theorem d_Mod_against_99 : decode b_Mod_against 99 = .ok (.iaload, 1) := by decide +kernel
theorem d_Mod_against_100 : decode b_Mod_against 100 = .ok (.aload_n 0, 1) := by decide +kernel
theorem d_Mod_against_101 : decode b_Mod_against 101 = .ok (.getfield 157, 3) := by decide +kernel
theorem d_Mod_against_104 : decode b_Mod_against 104 = .ok (.sipush 256, 3) := by decide +kernel
theorem d_Mod_against_107 : decode b_Mod_against 107 = .ok (.iload_n 2, 1) := by decide +kernel
theorem d_Mod_against_108 : decode b_Mod_against 108 = .ok (.imul, 1) := by decide +kernel
theorem d_Mod_against_109 : decode b_Mod_against 109 = .ok (.iload 4, 2) := by decide +kernel
theorem d_Mod_against_111 : decode b_Mod_against 111 = .ok (.iadd, 1) := by decide +kernel
theorem d_Mod_against_112 : decode b_Mod_against 112 = .ok (.iaload, 1) := by decide +kernel
theorem d_Mod_against_113 : decode b_Mod_against 113 = .ok (.if_icmp .eq 32, 3) := by decide +kernel
theorem d_Mod_against_145 : decode b_Mod_against 145 = .ok (.iinc 4 1, 3) := by decide +kernel
theorem d_Mod_against_148 : decode b_Mod_against 148 = .ok (.goto (-79), 3) := by decide +kernel
theorem d_Mod_against_116 : decode b_Mod_against 116 = .ok (.aload_n 0, 1) := by decide +kernel
theorem d_Mod_against_117 : decode b_Mod_against 117 = .ok (.getfield 121, 3) := by decide +kernel
theorem d_Mod_against_120 : decode b_Mod_against 120 = .ok (.aload_n 0, 1) := by decide +kernel
theorem d_Mod_against_121 : decode b_Mod_against 121 = .ok (.getfield 112, 3) := by decide +kernel
theorem d_Mod_against_124 : decode b_Mod_against 124 = .ok (.iload_n 1, 1) := by decide +kernel
theorem d_Mod_against_125 : decode b_Mod_against 125 = .ok (.iaload, 1) := by decide +kernel
theorem d_Mod_against_126 : decode b_Mod_against 126 = .ok (.iload 4, 2) := by decide +kernel
theorem d_Mod_against_128 : decode b_Mod_against 128 = .ok (.iadd, 1) := by decide +kernel
theorem d_Mod_against_129 : decode b_Mod_against 129 = .ok (.iaload, 1) := by decide +kernel
theorem d_Mod_against_130 : decode b_Mod_against 130 = .ok (.aload_n 0, 1) := by decide +kernel
theorem d_Mod_against_131 : decode b_Mod_against 131 = .ok (.getfield 157, 3) := by decide +kernel
theorem d_Mod_against_134 : decode b_Mod_against 134 = .ok (.sipush 256, 3) := by decide +kernel
theorem d_Mod_against_137 : decode b_Mod_against 137 = .ok (.iload_n 2, 1) := by decide +kernel
theorem d_Mod_against_138 : decode b_Mod_against 138 = .ok (.imul, 1) := by decide +kernel
theorem d_Mod_against_139 : decode b_Mod_against 139 = .ok (.iload 4, 2) := by decide +kernel
theorem d_Mod_against_141 : decode b_Mod_against 141 = .ok (.iadd, 1) := by decide +kernel
theorem d_Mod_against_142 : decode b_Mod_against 142 = .ok (.iaload, 1) := by decide +kernel
theorem d_Mod_against_143 : decode b_Mod_against 143 = .ok (.isub, 1) := by decide +kernel
theorem d_Mod_against_144 : decode b_Mod_against 144 = .ok (.ireturn, 1) := by decide +kernel
theorem d_Mod_against_0 : decode b_Mod_against 0 = .ok (.aload_n 0, 1) := by decide +kernel
theorem d_Mod_against_1 : decode b_Mod_against 1 = .ok (.getfield 623, 3) := by decide +kernel
theorem d_Mod_against_4 : decode b_Mod_against 4 = .ok (.iconst 3, 1) := by decide +kernel
theorem d_Mod_against_5 : decode b_Mod_against 5 = .ok (.if_icmp .eq 45, 3) := by decide +kernel
theorem d_Mod_against_50 : decode b_Mod_against 50 = .ok (.aload_n 0, 1) := by decide +kernel
theorem d_Mod_against_51 : decode b_Mod_against 51 = .ok (.getfield 112, 3) := by decide +kernel
theorem d_Mod_against_54 : decode b_Mod_against 54 = .ok (.iload_n 1, 1) := by decide +kernel
theorem d_Mod_against_55 : decode b_Mod_against 55 = .ok (.iconst 1, 1) := by decide +kernel
theorem d_Mod_against_56 : decode b_Mod_against 56 = .ok (.iadd, 1) := by decide +kernel
theorem d_Mod_against_57 : decode b_Mod_against 57 = .ok (.iaload, 1) := by decide +kernel
theorem d_Mod_against_58 : decode b_Mod_against 58 = .ok (.aload_n 0, 1) := by decide +kernel
theorem d_Mod_against_59 : decode b_Mod_against 59 = .ok (.getfield 112, 3) := by decide +kernel
theorem d_Mod_against_62 : decode b_Mod_against 62 = .ok (.iload_n 1, 1) := by decide +kernel
theorem d_Mod_against_63 : decode b_Mod_against 63 = .ok (.iaload, 1) := by decide +kernel
theorem d_Mod_against_64 : decode b_Mod_against 64 = .ok (.isub, 1) := by decide +kernel
theorem d_Mod_against_65 : decode b_Mod_against 65 = .ok (.istore_n 3, 1) := by decide +kernel
theorem d_Mod_against_66 : decode b_Mod_against 66 = .ok (.iconst 0, 1) := by decide +kernel
theorem d_Mod_against_67 : decode b_Mod_against 67 = .ok (.istore 4, 2) := by decide +kernel
theorem d_Mod_against_8 : decode b_Mod_against 8 = .ok (.aload_n 0, 1) := by decide +kernel
theorem d_Mod_against_9 : decode b_Mod_against 9 = .ok (.getfield 103, 3) := by decide +kernel
theorem d_Mod_against_12 : decode b_Mod_against 12 = .ok (.iload_n 1, 1) := by decide +kernel
theorem d_Mod_against_13 : decode b_Mod_against 13 = .ok (.laload, 1) := by decide +kernel
theorem d_Mod_against_14 : decode b_Mod_against 14 = .ok (.aload_n 0, 1) := by decide +kernel
theorem d_Mod_against_15 : decode b_Mod_against 15 = .ok (.getfield 151, 3) := by decide +kernel
theorem d_Mod_against_18 : decode b_Mod_against 18 = .ok (.iload_n 2, 1) := by decide +kernel
theorem d_Mod_against_19 : decode b_Mod_against 19 = .ok (.laload, 1) := by decide +kernel
theorem d_Mod_against_20 : decode b_Mod_against 20 = .ok (.lcmp, 1) := by decide +kernel
theorem d_Mod_against_21 : decode b_Mod_against 21 = .ok (.ifCond .ge 7, 3) := by decide +kernel
theorem d_Mod_against_28 : decode b_Mod_against 28 = .ok (.aload_n 0, 1) := by decide +kernel
theorem d_Mod_against_29 : decode b_Mod_against 29 = .ok (.getfield 103, 3) := by decide +kernel
theorem d_Mod_against_32 : decode b_Mod_against 32 = .ok (.iload_n 1, 1) := by decide +kernel
theorem d_Mod_against_33 : decode b_Mod_against 33 = .ok (.laload, 1) := by decide +kernel
theorem d_Mod_against_34 : decode b_Mod_against 34 = .ok (.aload_n 0, 1) := by decide +kernel
theorem d_Mod_against_35 : decode b_Mod_against 35 = .ok (.getfield 151, 3) := by decide +kernel
theorem d_Mod_against_38 : decode b_Mod_against 38 = .ok (.iload_n 2, 1) := by decide +kernel
theorem d_Mod_against_39 : decode b_Mod_against 39 = .ok (.laload, 1) := by decide +kernel
theorem d_Mod_against_40 : decode b_Mod_against 40 = .ok (.lcmp, 1) := by decide +kernel
theorem d_Mod_against_41 : decode b_Mod_against 41 = .ok (.ifCond .le 7, 3) := by decide +kernel
theorem d_Mod_against_48 : decode b_Mod_against 48 = .ok (.iconst 0, 1) := by decide +kernel
theorem d_Mod_against_49 : decode b_Mod_against 49 = .ok (.ireturn, 1) := by decide +kernel
theorem d_Mod_against_44 : decode b_Mod_against 44 = .ok (.iconst 1, 1) := by decide +kernel
theorem d_Mod_against_45 : decode b_Mod_against 45 = .ok (.goto 4, 3) := by decide +kernel
theorem d_Mod_against_24 : decode b_Mod_against 24 = .ok (.iconst (-1), 1) := by decide +kernel
theorem d_Mod_against_25 : decode b_Mod_against 25 = .ok (.goto 24, 3) := by decide +kernel
theorem d_Mod_isMost_86 : decode b_Mod_isMost 86 = .ok (.iconst 0, 1) := by decide +kernel
theorem d_Mod_isMost_87 : decode b_Mod_isMost 87 = .ok (.ireturn, 1) := by decide +kernel
theorem d_Mod_isMost_65 : decode b_Mod_isMost 65 = .ok (.istore 4, 2) := by decide +kernel
theorem d_Mod_isMost_67 : decode b_Mod_isMost 67 = .ok (.iinc 5 1, 3) := by decide +kernel
theorem d_Mod_isMost_70 : decode b_Mod_isMost 70 = .ok (.goto (-62), 3) := by decide +kernel
theorem d_Mod_isMost_64 : decode b_Mod_isMost 64 = .ok (.iconst 0, 1) := by decide +kernel
theorem d_Mod_isMost_60 : decode b_Mod_isMost 60 = .ok (.iconst 1, 1) := by decide +kernel
theorem d_Mod_isMost_61 : decode b_Mod_isMost 61 = .ok (.goto 4, 3) := by decide +kernel
theorem d_Mod_isMost_37 : decode b_Mod_isMost 37 = .ok (.istore_n 3, 1) := by decide +kernel
theorem d_Mod_isMost_38 : decode b_Mod_isMost 38 = .ok (.iload 4, 2) := by decide +kernel
theorem d_Mod_isMost_40 : decode b_Mod_isMost 40 = .ok (.ifCond .ne 20, 3) := by decide +kernel
theorem d_Mod_isMost_43 : decode b_Mod_isMost 43 = .ok (.iload_n 2, 1) := by decide +kernel
theorem d_Mod_isMost_44 : decode b_Mod_isMost 44 = .ok (.ifCond .ne 11, 3) := by decide +kernel
theorem d_Mod_isMost_55 : decode b_Mod_isMost 55 = .ok (.iload 6, 2) := by decide +kernel
theorem d_Mod_isMost_57 : decode b_Mod_isMost 57 = .ok (.ifCond .le 7, 3) := by decide +kernel
theorem d_Mod_isMost_47 : decode b_Mod_isMost 47 = .ok (.iload 6, 2) := by decide +kernel
theorem d_Mod_isMost_49 : decode b_Mod_isMost 49 = .ok (.ifCond .ge 15, 3) := by decide +kernel
theorem d_Mod_isMost_52 : decode b_Mod_isMost 52 = .ok (.goto 8, 3) := by decide +kernel
theorem d_Mod_isMost_32 : decode b_Mod_isMost 32 = .ok (.iconst 1, 1) := by decide +kernel
theorem d_Mod_isMost_33 : decode b_Mod_isMost 33 = .ok (.goto 4, 3) := by decide +kernel
theorem d_Mod_isMost_8 : decode b_Mod_isMost 8 = .ok (.iload 5, 2) := by decide +kernel
theorem d_Mod_isMost_10 : decode b_Mod_isMost 10 = .ok (.iload_n 1, 1) := by decide +kernel
theorem d_Mod_isMost_11 : decode b_Mod_isMost 11 = .ok (.if_icmp .ge 62, 3) := by decide +kernel
theorem d_Mod_isMost_73 : decode b_Mod_isMost 73 = .ok (.iload_n 3, 1) := by decide +kernel
theorem d_Mod_isMost_74 : decode b_Mod_isMost 74 = .ok (.ifCond .eq 12, 3) := by decide +kernel
theorem d_Mod_isMost_77 : decode b_Mod_isMost 77 = .ok (.iload 4, 2) := by decide +kernel
theorem d_Mod_isMost_79 : decode b_Mod_isMost 79 = .ok (.ifCond .ne 7, 3) := by decide +kernel
theorem d_Mod_isMost_82 : decode b_Mod_isMost 82 = .ok (.iconst 1, 1) := by decide +kernel
theorem d_Mod_isMost_83 : decode b_Mod_isMost 83 = .ok (.goto 4, 3) := by decide +kernel
theorem d_Mod_isMost_14 : decode b_Mod_isMost 14 = .ok (.aload_n 0, 1) := by decide +kernel
theorem d_Mod_isMost_15 : decode b_Mod_isMost 15 = .ok (.iload 5, 2) := by decide +kernel
theorem d_Mod_isMost_17 : decode b_Mod_isMost 17 = .ok (.iload_n 2, 1) := by decide +kernel
theorem d_Mod_isMost_18 : decode b_Mod_isMost 18 = .ok (.invokevirtual 730, 3) := by decide +kernel
theorem d_Mod_isMost_21 : decode b_Mod_isMost 21 = .ok (.istore 6, 2) := by decide +kernel
theorem d_Mod_isMost_23 : decode b_Mod_isMost 23 = .ok (.iload_n 3, 1) := by decide +kernel
theorem d_Mod_isMost_24 : decode b_Mod_isMost 24 = .ok (.ifCond .ne 8, 3) := by decide +kernel
theorem d_Mod_isMost_27 : decode b_Mod_isMost 27 = .ok (.iload 6, 2) := by decide +kernel
theorem d_Mod_isMost_29 : decode b_Mod_isMost 29 = .ok (.ifCond .ne 7, 3) := by decide +kernel
theorem d_Mod_isMost_36 : decode b_Mod_isMost 36 = .ok (.iconst 0, 1) := by decide +kernel
theorem d_Mod_isMost_0 : decode b_Mod_isMost 0 = .ok (.iconst 0, 1) := by decide +kernel
theorem d_Mod_isMost_1 : decode b_Mod_isMost 1 = .ok (.istore_n 3, 1) := by decide +kernel
theorem d_Mod_isMost_2 : decode b_Mod_isMost 2 = .ok (.iconst 0, 1) := by decide +kernel
theorem d_Mod_isMost_3 : decode b_Mod_isMost 3 = .ok (.istore 4, 2) := by decide +kernel
theorem d_Mod_isMost_5 : decode b_Mod_isMost 5 = .ok (.iconst 0, 1) := by decide +kernel
theorem d_Mod_isMost_6 : decode b_Mod_isMost 6 = .ok (.istore 5, 2) := by decide +kernel
theorem d_Mod_readBody_184 : decode b_Mod_readBody 184 = .ok (.aload_n 0, 1) := by decide +kernel
theorem d_Mod_readBody_185 : decode b_Mod_readBody 185 = .ok (.getfield 550, 3) := by decide +kernel
theorem d_Mod_readBody_188 : decode b_Mod_readBody 188 = .ok (.ifCond .ne 22, 3) := by decide +kernel
theorem d_Mod_readBody_210 : decode b_Mod_readBody 210 = .ok (.return_, 1) := by decide +kernel
theorem d_Mod_readBody_191 : decode b_Mod_readBody 191 = .ok (.iload_n 2, 1) := by decide +kernel
theorem d_Mod_readBody_192 : decode b_Mod_readBody 192 = .ok (.ifCond .le 18, 3) := by decide +kernel
theorem d_Mod_readBody_195 : decode b_Mod_readBody 195 = .ok (.aload_n 0, 1) := by decide +kernel
theorem d_Mod_readBody_196 : decode b_Mod_readBody 196 = .ok (.iload_n 2, 1) := by decide +kernel
theorem d_Mod_readBody_197 : decode b_Mod_readBody 197 = .ok (.iconst 1, 1) := by decide +kernel
theorem d_Mod_readBody_198 : decode b_Mod_readBody 198 = .ok (.invokevirtual 751, 3) := by decide +kernel
theorem d_Mod_readBody_201 : decode b_Mod_readBody 201 = .ok (.ifCond .ne 9, 3) := by decide +kernel
theorem d_Mod_readBody_204 : decode b_Mod_readBody 204 = .ok (.aload_n 0, 1) := by decide +kernel
theorem d_Mod_readBody_205 : decode b_Mod_readBody 205 = .ok (.bipush 12, 2) := by decide +kernel
theorem d_Mod_readBody_207 : decode b_Mod_readBody 207 = .ok (.putfield 550, 3) := by decide +kernel
theorem d_Mod_readBody_158 : decode b_Mod_readBody 158 = .ok (.aload_n 0, 1) := by decide +kernel
theorem d_Mod_readBody_159 : decode b_Mod_readBody 159 = .ok (.getfield 550, 3) := by decide +kernel
theorem d_Mod_readBody_162 : decode b_Mod_readBody 162 = .ok (.ifCond .ne 22, 3) := by decide +kernel
theorem d_Mod_readBody_165 : decode b_Mod_readBody 165 = .ok (.iload_n 2, 1) := by decide +kernel
theorem d_Mod_readBody_166 : decode b_Mod_readBody 166 = .ok (.ifCond .le 18, 3) := by decide +kernel
theorem d_Mod_readBody_169 : decode b_Mod_readBody 169 = .ok (.aload_n 0, 1) := by decide +kernel
theorem d_Mod_readBody_170 : decode b_Mod_readBody 170 = .ok (.iload_n 2, 1) := by decide +kernel
theorem d_Mod_readBody_171 : decode b_Mod_readBody 171 = .ok (.iconst 0, 1) := by decide +kernel
theorem d_Mod_readBody_172 : decode b_Mod_readBody 172 = .ok (.invokevirtual 751, 3) := by decide +kernel
theorem d_Mod_readBody_175 : decode b_Mod_readBody 175 = .ok (.ifCond .ne 9, 3) := by decide +kernel
theorem d_Mod_readBody_178 : decode b_Mod_readBody 178 = .ok (.aload_n 0, 1) := by decide +kernel
theorem d_Mod_readBody_179 : decode b_Mod_readBody 179 = .ok (.bipush 11, 2) := by decide +kernel
theorem d_Mod_readBody_181 : decode b_Mod_readBody 181 = .ok (.putfield 550, 3) := by decide +kernel
theorem d_Mod_readBody_134 : decode b_Mod_readBody 134 = .ok (.aload_n 0, 1) := by decide +kernel
theorem d_Mod_readBody_135 : decode b_Mod_readBody 135 = .ok (.getfield 550, 3) := by decide +kernel
theorem d_Mod_readBody_138 : decode b_Mod_readBody 138 = .ok (.ifCond .ne 20, 3) := by decide +kernel
theorem d_Mod_readBody_141 : decode b_Mod_readBody 141 = .ok (.aload_n 0, 1) := by decide +kernel
theorem d_Mod_readBody_142 : decode b_Mod_readBody 142 = .ok (.getfield 553, 3) := by decide +kernel
theorem d_Mod_readBody_145 : decode b_Mod_readBody 145 = .ok (.aload_n 0, 1) := by decide +kernel
theorem d_Mod_readBody_146 : decode b_Mod_readBody 146 = .ok (.getfield 608, 3) := by decide +kernel
theorem d_Mod_readBody_149 : decode b_Mod_readBody 149 = .ok (.if_icmp .ge 9, 3) := by decide +kernel
theorem d_Mod_readBody_152 : decode b_Mod_readBody 152 = .ok (.aload_n 0, 1) := by decide +kernel
theorem d_Mod_readBody_153 : decode b_Mod_readBody 153 = .ok (.bipush 6, 2) := by decide +kernel
theorem d_Mod_readBody_155 : decode b_Mod_readBody 155 = .ok (.putfield 550, 3) := by decide +kernel
theorem d_Mod_readBody_87 : decode b_Mod_readBody 87 = .ok (.aload_n 0, 1) := by decide +kernel
theorem d_Mod_readBody_88 : decode b_Mod_readBody 88 = .ok (.getfield 550, 3) := by decide +kernel
theorem d_Mod_readBody_91 : decode b_Mod_readBody 91 = .ok (.ifCond .eq 4, 3) := by decide +kernel
theorem d_Mod_readBody_95 : decode b_Mod_readBody 95 = .ok (.aload_n 0, 1) := by decide +kernel
theorem d_Mod_readBody_96 : decode b_Mod_readBody 96 = .ok (.getfield 623, 3) := by decide +kernel
theorem d_Mod_readBody_99 : decode b_Mod_readBody 99 = .ok (.ifCond .ne 12, 3) := by decide +kernel
theorem d_Mod_readBody_111 : decode b_Mod_readBody 111 = .ok (.aload_n 0, 1) := by decide +kernel
theorem d_Mod_readBody_112 : decode b_Mod_readBody 112 = .ok (.getfield 623, 3) := by decide +kernel
theorem d_Mod_readBody_115 : decode b_Mod_readBody 115 = .ok (.iconst 3, 1) := by decide +kernel
theorem d_Mod_readBody_116 : decode b_Mod_readBody 116 = .ok (.if_icmp .ne 12, 3) := by decide +kernel
theorem d_Mod_readBody_128 : decode b_Mod_readBody 128 = .ok (.aload_n 0, 1) := by decide +kernel
theorem d_Mod_readBody_129 : decode b_Mod_readBody 129 = .ok (.iload_n 3, 1) := by decide +kernel
theorem d_Mod_readBody_130 : decode b_Mod_readBody 130 = .ok (.iload_n 2, 1) := by decide +kernel
theorem d_Mod_readBody_131 : decode b_Mod_readBody 131 = .ok (.invokevirtual 748, 3) := by decide +kernel
theorem d_Mod_readBody_119 : decode b_Mod_readBody 119 = .ok (.aload_n 0, 1) := by decide +kernel
theorem d_Mod_readBody_120 : decode b_Mod_readBody 120 = .ok (.iload_n 3, 1) := by decide +kernel
theorem d_Mod_readBody_121 : decode b_Mod_readBody 121 = .ok (.iload_n 2, 1) := by decide +kernel
theorem d_Mod_readBody_122 : decode b_Mod_readBody 122 = .ok (.invokevirtual 745, 3) := by decide +kernel
theorem d_Mod_readBody_125 : decode b_Mod_readBody 125 = .ok (.goto 9, 3) := by decide +kernel
theorem d_Mod_readBody_102 : decode b_Mod_readBody 102 = .ok (.aload_n 0, 1) := by decide +kernel
theorem d_Mod_readBody_103 : decode b_Mod_readBody 103 = .ok (.iload_n 3, 1) := by decide +kernel
theorem d_Mod_readBody_104 : decode b_Mod_readBody 104 = .ok (.iload_n 2, 1) := by decide +kernel
theorem d_Mod_readBody_105 : decode b_Mod_readBody 105 = .ok (.invokevirtual 742, 3) := by decide +kernel
theorem d_Mod_readBody_108 : decode b_Mod_readBody 108 = .ok (.goto 26, 3) := by decide +kernel
theorem d_Mod_readBody_94 : decode b_Mod_readBody 94 = .ok (.return_, 1) := by decide +kernel
theorem d_Mod_readBody_59 : decode b_Mod_readBody 59 = .ok (.iadd, 1) := by decide +kernel
theorem d_Mod_readBody_60 : decode b_Mod_readBody 60 = .ok (.istore 4, 2) := by decide +kernel
theorem d_Mod_readBody_62 : decode b_Mod_readBody 62 = .ok (.iinc 5 1, 3) := by decide +kernel
theorem d_Mod_readBody_65 : decode b_Mod_readBody 65 = .ok (.goto (-33), 3) := by decide +kernel
theorem d_Mod_readBody_32 : decode b_Mod_readBody 32 = .ok (.iload 5, 2) := by decide +kernel
theorem d_Mod_readBody_34 : decode b_Mod_readBody 34 = .ok (.iload_n 1, 1) := by decide +kernel
theorem d_Mod_readBody_35 : decode b_Mod_readBody 35 = .ok (.if_icmp .ge 33, 3) := by decide +kernel
theorem d_Mod_readBody_68 : decode b_Mod_readBody 68 = .ok (.aload_n 0, 1) := by decide +kernel
theorem d_Mod_readBody_69 : decode b_Mod_readBody 69 = .ok (.getfield 550, 3) := by decide +kernel
theorem d_Mod_readBody_72 : decode b_Mod_readBody 72 = .ok (.ifCond .ne 15, 3) := by decide +kernel
theorem d_Mod_readBody_75 : decode b_Mod_readBody 75 = .ok (.iload 4, 2) := by decide +kernel
theorem d_Mod_readBody_77 : decode b_Mod_readBody 77 = .ok (.iload_n 2, 1) := by decide +kernel
theorem d_Mod_readBody_78 : decode b_Mod_readBody 78 = .ok (.if_icmp .eq 9, 3) := by decide +kernel
theorem d_Mod_readBody_81 : decode b_Mod_readBody 81 = .ok (.aload_n 0, 1) := by decide +kernel
theorem d_Mod_readBody_82 : decode b_Mod_readBody 82 = .ok (.bipush 10, 2) := by decide +kernel
theorem d_Mod_readBody_84 : decode b_Mod_readBody 84 = .ok (.putfield 550, 3) := by decide +kernel
theorem d_Mod_readBody_38 : decode b_Mod_readBody 38 = .ok (.iload 4, 2) := by decide +kernel
theorem d_Mod_readBody_40 : decode b_Mod_readBody 40 = .ok (.aload_n 0, 1) := by decide +kernel
theorem d_Mod_readBody_41 : decode b_Mod_readBody 41 = .ok (.getfield 97, 3) := by decide +kernel
theorem d_Mod_readBody_44 : decode b_Mod_readBody 44 = .ok (.iload 5, 2) := by decide +kernel
theorem d_Mod_readBody_46 : decode b_Mod_readBody 46 = .ok (.iaload, 1) := by decide +kernel
theorem d_Mod_readBody_47 : decode b_Mod_readBody 47 = .ok (.aload_n 0, 1) := by decide +kernel
theorem d_Mod_readBody_48 : decode b_Mod_readBody 48 = .ok (.getfield 739, 3) := by decide +kernel
theorem d_Mod_readBody_51 : decode b_Mod_readBody 51 = .ok (.if_icmp .ne 7, 3) := by decide +kernel
theorem d_Mod_readBody_58 : decode b_Mod_readBody 58 = .ok (.iconst 0, 1) := by decide +kernel
theorem d_Mod_readBody_54 : decode b_Mod_readBody 54 = .ok (.iconst 1, 1) := by decide +kernel
theorem d_Mod_readBody_55 : decode b_Mod_readBody 55 = .ok (.goto 4, 3) := by decide +kernel
theorem d_Mod_readBody_0 : decode b_Mod_readBody 0 = .ok (.aload_n 0, 1) := by decide +kernel
theorem d_Mod_readBody_1 : decode b_Mod_readBody 1 = .ok (.aload_n 0, 1) := by decide +kernel
theorem d_Mod_readBody_2 : decode b_Mod_readBody 2 = .ok (.getfield 94, 3) := by decide +kernel
theorem d_Mod_readBody_5 : decode b_Mod_readBody 5 = .ok (.iload_n 1, 1) := by decide +kernel
theorem d_Mod_readBody_6 : decode b_Mod_readBody 6 = .ok (.aload_n 0, 1) := by decide +kernel
theorem d_Mod_readBody_7 : decode b_Mod_readBody 7 = .ok (.getfield 733, 3) := by decide +kernel
theorem d_Mod_readBody_10 : decode b_Mod_readBody 10 = .ok (.invokevirtual 736, 3) := by decide +kernel
theorem d_Mod_readBody_13 : decode b_Mod_readBody 13 = .ok (.aload_n 0, 1) := by decide +kernel
theorem d_Mod_readBody_14 : decode b_Mod_readBody 14 = .ok (.aload_n 0, 1) := by decide +kernel
theorem d_Mod_readBody_15 : decode b_Mod_readBody 15 = .ok (.getfield 97, 3) := by decide +kernel
theorem d_Mod_readBody_18 : decode b_Mod_readBody 18 = .ok (.iload_n 1, 1) := by decide +kernel
theorem d_Mod_readBody_19 : decode b_Mod_readBody 19 = .ok (.aload_n 0, 1) := by decide +kernel
theorem d_Mod_readBody_20 : decode b_Mod_readBody 20 = .ok (.getfield 739, 3) := by decide +kernel
theorem d_Mod_readBody_23 : decode b_Mod_readBody 23 = .ok (.invokevirtual 736, 3) := by decide +kernel
theorem d_Mod_readBody_26 : decode b_Mod_readBody 26 = .ok (.iconst 0, 1) := by decide +kernel
theorem d_Mod_readBody_27 : decode b_Mod_readBody 27 = .ok (.istore 4, 2) := by decide +kernel
theorem d_Mod_readBody_29 : decode b_Mod_readBody 29 = .ok (.iconst 0, 1) := by decide +kernel
theorem d_Mod_readBody_30 : decode b_Mod_readBody 30 = .ok (.istore 5, 2) := by decide +kernel
section
variable (l : Launch) (dC : Nat → ClassId) (dI : Nat → Nat → Nat) (cI cB cJ cZ : ClassId)
set_option maxRecDepth 100000 in
set_option maxHeartbeats 4000000 in
set_option maxRecDepth 100000 in
theorem t_Mod_readWholes_102 {p : Program} {l : Launch} {e : Env} {R : Room} {s : State} {m : MethodId} {args : Array Value} {below : List Frame} {meth : Method} {c : Code} {cells slots : Nat} {Q : State → Prop} {dC : Nat → ClassId} {dI : Nat → Nat → Nat} {cI cB cJ cZ : ClassId} {A : Nat → Prop} {ad : Nat → Nat} {post : St → Prop} (hx : p.tables.exec = Jvm.exec) (hb : c.code = b_Mod_readWholes) (hml : c.maxLocals = 4) (hown : s.vm.findClass R_Mod = some m.cls) (hT : ∀ w ∈ TG, w.before args s = true) (hK : va_K (dC, dI) CL (TY cI cB cJ cZ) s) (hN : NW s) (hA : ∀ q : Nat, s.heap.size ≤ q → A q) (hRc : cells ≤ R.cells) (hRs : slots ≤ R.slots) (hRf : 4 ≤ R.frames) (hRl : 109 ≤ R.locals) (hret : ∀ (x : St) (H : Heap) (locs : List Loc) (pc : Nat) (ls : Array Slot), decode b_Mod_readWholes pc = .ok (.return_, 1) → post x → Wd dC dI cI cB cJ cZ ad stM kcM 115 A x H → va_S A s.heap H locs → W p l e R s m args below meth c H locs cells slots Q (F0 m pc ls []))  : ∀ (l1 : Int32) (l2 : Int32) (l3 : Int32) (x : St) (H : Heap) (locs : List Loc) (ls : Array Slot), j_Mod_readWholes_102 post l1 l2 l3 x → Wd dC dI cI cB cJ cZ ad stM kcM 115 A x H → va_S A s.heap H locs → lv_has ls 4 [(0, .ref (ad 0)), (1, .int l1), (2, .int l2), (3, .int l3)] → W p l e R s m args below meth c H locs cells slots Q (F0 m 102 ls []) := by
  intro l1 l2 l3 x H locs ls  hw hW hS hl
  unfold j_Mod_readWholes_102 at hw
  refine lv_goto (tgt := 110) hx hb d_Mod_readWholes_102 (by decide) ?_
  exact hret x H locs 110 ls d_Mod_readWholes_110 hw hW hS
set_option maxRecDepth 100000 in
set_option maxHeartbeats 4000000 in
set_option maxRecDepth 100000 in
theorem t_Mod_readWholes_96 {p : Program} {l : Launch} {e : Env} {R : Room} {s : State} {m : MethodId} {args : Array Value} {below : List Frame} {meth : Method} {c : Code} {cells slots : Nat} {Q : State → Prop} {dC : Nat → ClassId} {dI : Nat → Nat → Nat} {cI cB cJ cZ : ClassId} {A : Nat → Prop} {ad : Nat → Nat} {post : St → Prop} {rec53 : Int32 → Int32 → Int32 → St → Prop} (hx : p.tables.exec = Jvm.exec) (hb : c.code = b_Mod_readWholes) (hml : c.maxLocals = 4) (hown : s.vm.findClass R_Mod = some m.cls) (hT : ∀ w ∈ TG, w.before args s = true) (hK : va_K (dC, dI) CL (TY cI cB cJ cZ) s) (hN : NW s) (hA : ∀ q : Nat, s.heap.size ≤ q → A q) (hRc : cells ≤ R.cells) (hRs : slots ≤ R.slots) (hRf : 4 ≤ R.frames) (hRl : 109 ≤ R.locals) (hret : ∀ (x : St) (H : Heap) (locs : List Loc) (pc : Nat) (ls : Array Slot), decode b_Mod_readWholes pc = .ok (.return_, 1) → post x → Wd dC dI cI cB cJ cZ ad stM kcM 115 A x H → va_S A s.heap H locs → W p l e R s m args below meth c H locs cells slots Q (F0 m pc ls [])) (hrec53 : ∀ (l1 : Int32) (l2 : Int32) (l3 : Int32) (x : St) (H : Heap) (locs : List Loc) (ls : Array Slot), rec53 l1 l2 l3 x → Wd dC dI cI cB cJ cZ ad stM kcM 115 A x H → va_S A s.heap H locs → lv_has ls 4 [(0, .ref (ad 0)), (1, .int l1), (2, .int l2), (3, .int l3)] → W p l e R s m args below meth c H locs cells slots Q (F0 m 53 ls [])) : ∀ (l1 : Int32) (l2 : Int32) (l3 : Int32) (x : St) (H : Heap) (locs : List Loc) (ls : Array Slot), j_Mod_readWholes_96 post rec53 l1 l2 l3 x → Wd dC dI cI cB cJ cZ ad stM kcM 115 A x H → va_S A s.heap H locs → lv_has ls 4 [(0, .ref (ad 0)), (1, .int l1), (2, .int l2), (3, .int l3)] → W p l e R s m args below meth c H locs cells slots Q (F0 m 96 ls []) := by
  intro l1 l2 l3 x H locs ls  hw hW hS hl
  unfold j_Mod_readWholes_96 at hw
  refine lv_iinc (v := (l3 + 1)) (lv' := [(3, .int (l3 + 1)), (0, .ref (ad 0)), (1, .int l1), (2, .int l2)]) hx hb d_Mod_readWholes_96 hl (k := 3) rfl rfl (by decide) rfl (fun ls hl => ?_)
  refine lv_goto (tgt := 53) hx hb d_Mod_readWholes_99 (by decide) ?_
  exact hrec53 l1 l2 (l3 + 1) x H locs ls  hw hW hS (lv_sub hl [1, 2, 3, 0] rfl)
set_option maxRecDepth 100000 in
set_option maxHeartbeats 4000000 in
set_option maxRecDepth 100000 in
theorem t_Mod_readWholes_53 {p : Program} {l : Launch} {e : Env} {R : Room} {s : State} {m : MethodId} {args : Array Value} {below : List Frame} {meth : Method} {c : Code} {cells slots : Nat} {Q : State → Prop} {dC : Nat → ClassId} {dI : Nat → Nat → Nat} {cI cB cJ cZ : ClassId} {A : Nat → Prop} {ad : Nat → Nat} {post : St → Prop} {rec53 : Int32 → Int32 → Int32 → St → Prop} (hx : p.tables.exec = Jvm.exec) (hb : c.code = b_Mod_readWholes) (hml : c.maxLocals = 4) (hown : s.vm.findClass R_Mod = some m.cls) (hT : ∀ w ∈ TG, w.before args s = true) (hK : va_K (dC, dI) CL (TY cI cB cJ cZ) s) (hN : NW s) (hA : ∀ q : Nat, s.heap.size ≤ q → A q) (hRc : cells ≤ R.cells) (hRs : slots ≤ R.slots) (hRf : 4 ≤ R.frames) (hRl : 109 ≤ R.locals) (hret : ∀ (x : St) (H : Heap) (locs : List Loc) (pc : Nat) (ls : Array Slot), decode b_Mod_readWholes pc = .ok (.return_, 1) → post x → Wd dC dI cI cB cJ cZ ad stM kcM 115 A x H → va_S A s.heap H locs → W p l e R s m args below meth c H locs cells slots Q (F0 m pc ls [])) (hrec53 : ∀ (l1 : Int32) (l2 : Int32) (l3 : Int32) (x : St) (H : Heap) (locs : List Loc) (ls : Array Slot), rec53 l1 l2 l3 x → Wd dC dI cI cB cJ cZ ad stM kcM 115 A x H → va_S A s.heap H locs → lv_has ls 4 [(0, .ref (ad 0)), (1, .int l1), (2, .int l2), (3, .int l3)] → W p l e R s m args below meth c H locs cells slots Q (F0 m 53 ls [])) : ∀ (l1 : Int32) (l2 : Int32) (l3 : Int32) (x : St) (H : Heap) (locs : List Loc) (ls : Array Slot), j_Mod_readWholes_53 post rec53 l1 l2 l3 x → Wd dC dI cI cB cJ cZ ad stM kcM 115 A x H → va_S A s.heap H locs → lv_has ls 4 [(0, .ref (ad 0)), (1, .int l1), (2, .int l2), (3, .int l3)] → W p l e R s m args below meth c H locs cells slots Q (F0 m 53 ls []) := by
  intro l1 l2 l3 x H locs ls  hw hW hS hl
  unfold j_Mod_readWholes_53 at hw
  refine lv_iload_n hx hb d_Mod_readWholes_53 rfl (lv_at hl 3 rfl) ?_
  refine lv_iload_n hx hb d_Mod_readWholes_54 rfl (lv_at hl 2 rfl) ?_
  refine lv_icmp_ge (tgt := 102) hx hb d_Mod_readWholes_55 (by decide) (fun c1437 => ?_) (fun c1437 => ?_)
  · have hw := hw.1 c1437
    exact t_Mod_readWholes_102 hx hb hml hown hT hK hN hA hRc hRs hRf hRl hret  l1 l2 l3 x H locs ls  hw hW hS (lv_sub hl [0, 1, 2, 3] rfl)
  · have hw := hw.2 c1437
    refine lv_aload_n hx hb d_Mod_readWholes_58 rfl (lv_at hl 0 rfl) ?_
    refine w_geti (k := 69) (t := 12) (C := R_Mod) (T := F_Mod) (N := 167) hx hb hT hown hK hW ko_0.1 ko_0.2 (by decide) in_Mod rfl rfl (by decide) rfl fr_Mod_69 w_9_5 d_Mod_readWholes_59 ?_
    refine lv_if_ne (tgt := 102) hx hb d_Mod_readWholes_62 (by decide) (fun c1438 => ?_) (fun c1438 => ?_)
    · have hw := hw.1 c1438
      exact t_Mod_readWholes_102 hx hb hml hown hT hK hN hA hRc hRs hRf hRl hret  l1 l2 l3 x H locs ls  hw hW hS (lv_sub hl [0, 1, 2, 3] rfl)
    · have hw := hw.2 c1438
      refine lv_aload_n hx hb d_Mod_readWholes_65 rfl (lv_at hl 0 rfl) ?_
      refine w_getf (q := 31) (k := 50) (t := 12) (C := R_Mod) (T := F_Mod) (N := 167) hx hb hT hown hK hW ko_0.1 ko_0.2 (by decide) in_Mod rfl rfl (by decide) rfl fr_Mod_50 w_8_226 d_Mod_readWholes_66 rfl ?_
      refine lv_iload_n hx hb d_Mod_readWholes_69 rfl (lv_at hl 3 rfl) ?_
      refine lv_aload_n hx hb d_Mod_readWholes_70 rfl (lv_at hl 0 rfl) ?_
      refine w_getf (q := 43) (k := 70) (t := 12) (C := R_Mod) (T := F_Mod) (N := 167) hx hb hT hown hK hW ko_0.1 ko_0.2 (by decide) in_Mod rfl rfl (by decide) rfl fr_Mod_70 w_9_6 d_Mod_readWholes_71 rfl ?_
      refine lv_iload_n hx hb d_Mod_readWholes_74 rfl (lv_at hl 3 rfl) ?_
      obtain ⟨hi, hw⟩ := hw
      refine w_lald (o := 43) hx hb hK hW ko_43.1 ko_43.2 hi d_Mod_readWholes_75 ?_
      obtain ⟨hi, hw⟩ := hw
      refine w_last (o := 31) hx hb hK hW hS ko_31.1 ko_31.2 hi d_Mod_readWholes_76 (fun H locs hW hS => ?_)
      obtain ⟨x1439, ex1439⟩ : ∃ y : St, y = setL x 31 l3 (rL x 43 l3) := ⟨_, rfl⟩
      rw [← ex1439] at hW
      have hw := hw x1439 ex1439
      refine lv_aload_n hx hb d_Mod_readWholes_77 rfl (lv_at hl 0 rfl) ?_
      refine lv_aload_n hx hb d_Mod_readWholes_78 rfl (lv_at hl 0 rfl) ?_
      refine w_getf (q := 43) (k := 70) (t := 12) (C := R_Mod) (T := F_Mod) (N := 167) hx hb hT hown hK hW ko_0.1 ko_0.2 (by decide) in_Mod rfl rfl (by decide) rfl fr_Mod_70 w_9_6 d_Mod_readWholes_79 rfl ?_
      refine lv_iload_n hx hb d_Mod_readWholes_82 rfl (lv_at hl 3 rfl) ?_
      obtain ⟨hi, hw⟩ := hw
      refine w_lald (o := 43) hx hb hK hW ko_43.1 ko_43.2 hi d_Mod_readWholes_83 ?_
      have hF := hW.free hS hA
      refine va_calli (va_runV (C := R_Mod) (As := [.long (rL x1439 43 l3)]) (rest := []) ⟨hx, hb, hml, hown, hT⟩ (k_Mod_isOne l dC dI cI cB cJ cZ ad H.size (rL x1439 43 l3) x1439  hw) ⟨callB_of 1 hT (gwt_in w_12_151) rfl rfl rfl (hT _ w_1_15) (hT _ w_12_148) (by decide +kernel) ⟨Nat.le_trans (Nat.le_of_ble_eq_true rfl) hRf, Nat.le_trans (Nat.le_of_ble_eq_true rfl) hRl⟩, hT _ w_12_150, hT _ ws_192⟩ ⟨PW.blind, va_recv hK hW.1 (ci := 12) (q0 := 0) rfl (pic_obj ko_0.1 ko_0.2 (by decide)), PW.at _ hW hK hN⟩ rfl rfl hl.1 rfl (lv_room (Nat.le_of_ble_eq_true rfl)) d_Mod_readWholes_84 ⟨hRc, hRs⟩) hS (fun q _ h => hF q h) hF (fun r1441 x1440 t H locs ht hvm hw hB hz1 hk1 hS => ?_)
      have hW := Wd.back hB ht hF
      clear hB ht hF hz1 hk1 hvm
      refine lv_if_ne (tgt := 96) hx hb d_Mod_readWholes_87 (by decide) (fun c1442 => ?_) (fun c1442 => ?_)
      · have hw := hw.1 c1442
        exact t_Mod_readWholes_96 hx hb hml hown hT hK hN hA hRc hRs hRf hRl hret hrec53 l1 l2 l3 x1440 H locs ls  hw hW hS (lv_sub hl [0, 1, 2, 3] rfl)
      · have hw := hw.2 c1442
        refine lv_aload_n hx hb d_Mod_readWholes_90 rfl (lv_at hl 0 rfl) ?_
        refine lv_bipush (v := 7) hx hb d_Mod_readWholes_91 (by decide) ?_
        refine w_puti (ty := .int) (k := 69) (t := 12) (C := R_Mod) (T := F_Mod) (N := 167) hx hb hT hown hK hW hS ko_0.1 ko_0.2 (by decide) in_Mod t_Mod t_Mod_ok n_Mod rfl rfl (by decide) rfl fr_Mod_69 w_9_5 (by decide +kernel) rfl rfl d_Mod_readWholes_93 (fun H locs hW hS => ?_)
        obtain ⟨x1443, ex1443⟩ : ∃ y : St, y = setI x1440 0 69 7 := ⟨_, rfl⟩
        rw [← ex1443] at hW
        have hw := hw x1443 ex1443
        exact t_Mod_readWholes_96 hx hb hml hown hT hK hN hA hRc hRs hRf hRl hret hrec53 l1 l2 l3 x1443 H locs ls  hw hW hS (lv_sub hl [0, 1, 2, 3] rfl)
set_option maxHeartbeats 4000000 in
set_option maxRecDepth 100000 in
theorem tl_Mod_readWholes_53 {p : Program} {l : Launch} {e : Env} {R : Room} {s : State} {m : MethodId} {args : Array Value} {below : List Frame} {meth : Method} {c : Code} {cells slots : Nat} {Q : State → Prop} {dC : Nat → ClassId} {dI : Nat → Nat → Nat} {cI cB cJ cZ : ClassId} {A : Nat → Prop} {ad : Nat → Nat} {post : St → Prop} (hx : p.tables.exec = Jvm.exec) (hb : c.code = b_Mod_readWholes) (hml : c.maxLocals = 4) (hown : s.vm.findClass R_Mod = some m.cls) (hT : ∀ w ∈ TG, w.before args s = true) (hK : va_K (dC, dI) CL (TY cI cB cJ cZ) s) (hN : NW s) (hA : ∀ q : Nat, s.heap.size ≤ q → A q) (hRc : cells ≤ R.cells) (hRs : slots ≤ R.slots) (hRf : 4 ≤ R.frames) (hRl : 109 ≤ R.locals) (hret : ∀ (x : St) (H : Heap) (locs : List Loc) (pc : Nat) (ls : Array Slot), decode b_Mod_readWholes pc = .ok (.return_, 1) → post x → Wd dC dI cI cB cJ cZ ad stM kcM 115 A x H → va_S A s.heap H locs → W p l e R s m args below meth c H locs cells slots Q (F0 m pc ls []))  : ∀ n : Nat, ∀ (l1 : Int32) (l2 : Int32) (l3 : Int32) (x : St) (H : Heap) (locs : List Loc) (ls : Array Slot), wl_Mod_readWholes_53 post n l1 l2 l3 x → Wd dC dI cI cB cJ cZ ad stM kcM 115 A x H → va_S A s.heap H locs → lv_has ls 4 [(0, .ref (ad 0)), (1, .int l1), (2, .int l2), (3, .int l3)] → W p l e R s m args below meth c H locs cells slots Q (F0 m 53 ls []) := by
  intro n
  induction n with
  | zero => intro l1 l2 l3 x H locs ls  hw; exact hw.elim
  | succ n ih => intro l1 l2 l3 x H locs ls  hw hW hS hl; exact t_Mod_readWholes_53 hx hb hml hown hT hK hN hA hRc hRs hRf hRl hret  ih l1 l2 l3 x H locs ls  hw hW hS hl
set_option maxRecDepth 100000 in
set_option maxHeartbeats 4000000 in
set_option maxRecDepth 100000 in
theorem t_Mod_readWholes_34 {p : Program} {l : Launch} {e : Env} {R : Room} {s : State} {m : MethodId} {args : Array Value} {below : List Frame} {meth : Method} {c : Code} {cells slots : Nat} {Q : State → Prop} {dC : Nat → ClassId} {dI : Nat → Nat → Nat} {cI cB cJ cZ : ClassId} {A : Nat → Prop} {ad : Nat → Nat} {post : St → Prop} (hx : p.tables.exec = Jvm.exec) (hb : c.code = b_Mod_readWholes) (hml : c.maxLocals = 4) (hown : s.vm.findClass R_Mod = some m.cls) (hT : ∀ w ∈ TG, w.before args s = true) (hK : va_K (dC, dI) CL (TY cI cB cJ cZ) s) (hN : NW s) (hA : ∀ q : Nat, s.heap.size ≤ q → A q) (hRc : cells ≤ R.cells) (hRs : slots ≤ R.slots) (hRf : 4 ≤ R.frames) (hRl : 109 ≤ R.locals) (hret : ∀ (x : St) (H : Heap) (locs : List Loc) (pc : Nat) (ls : Array Slot), decode b_Mod_readWholes pc = .ok (.return_, 1) → post x → Wd dC dI cI cB cJ cZ ad stM kcM 115 A x H → va_S A s.heap H locs → W p l e R s m args below meth c H locs cells slots Q (F0 m pc ls []))  : ∀ (l1 : Int32) (l2 : Int32) (l3 : Int32) (x : St) (H : Heap) (locs : List Loc) (ls : Array Slot), j_Mod_readWholes_34 post l1 l2 l3 x → Wd dC dI cI cB cJ cZ ad stM kcM 115 A x H → va_S A s.heap H locs → lv_has ls 4 [(0, .ref (ad 0)), (1, .int l1), (2, .int l2), (3, .int l3)] → W p l e R s m args below meth c H locs cells slots Q (F0 m 34 ls []) := by
  intro l1 l2 l3 x H locs ls  hw hW hS hl
  unfold j_Mod_readWholes_34 at hw
  refine lv_goto (tgt := 110) hx hb d_Mod_readWholes_34 (by decide) ?_
  exact hret x H locs 110 ls d_Mod_readWholes_110 hw hW hS
set_option maxRecDepth 100000 in
set_option maxHeartbeats 4000000 in
set_option maxRecDepth 100000 in
theorem t_Mod_readWholes_6 {p : Program} {l : Launch} {e : Env} {R : Room} {s : State} {m : MethodId} {args : Array Value} {below : List Frame} {meth : Method} {c : Code} {cells slots : Nat} {Q : State → Prop} {dC : Nat → ClassId} {dI : Nat → Nat → Nat} {cI cB cJ cZ : ClassId} {A : Nat → Prop} {ad : Nat → Nat} {post : St → Prop} {rec6 : Int32 → Int32 → Int32 → St → Prop} (hx : p.tables.exec = Jvm.exec) (hb : c.code = b_Mod_readWholes) (hml : c.maxLocals = 4) (hown : s.vm.findClass R_Mod = some m.cls) (hT : ∀ w ∈ TG, w.before args s = true) (hK : va_K (dC, dI) CL (TY cI cB cJ cZ) s) (hN : NW s) (hA : ∀ q : Nat, s.heap.size ≤ q → A q) (hRc : cells ≤ R.cells) (hRs : slots ≤ R.slots) (hRf : 4 ≤ R.frames) (hRl : 109 ≤ R.locals) (hret : ∀ (x : St) (H : Heap) (locs : List Loc) (pc : Nat) (ls : Array Slot), decode b_Mod_readWholes pc = .ok (.return_, 1) → post x → Wd dC dI cI cB cJ cZ ad stM kcM 115 A x H → va_S A s.heap H locs → W p l e R s m args below meth c H locs cells slots Q (F0 m pc ls [])) (hrec6 : ∀ (l1 : Int32) (l2 : Int32) (l3 : Int32) (x : St) (H : Heap) (locs : List Loc) (ls : Array Slot), rec6 l1 l2 l3 x → Wd dC dI cI cB cJ cZ ad stM kcM 115 A x H → va_S A s.heap H locs → lv_has ls 4 [(0, .ref (ad 0)), (1, .int l1), (2, .int l2), (3, .int l3)] → W p l e R s m args below meth c H locs cells slots Q (F0 m 6 ls [])) : ∀ (l1 : Int32) (l2 : Int32) (l3 : Int32) (x : St) (H : Heap) (locs : List Loc) (ls : Array Slot), j_Mod_readWholes_6 post rec6 l1 l2 l3 x → Wd dC dI cI cB cJ cZ ad stM kcM 115 A x H → va_S A s.heap H locs → lv_has ls 4 [(0, .ref (ad 0)), (1, .int l1), (2, .int l2), (3, .int l3)] → W p l e R s m args below meth c H locs cells slots Q (F0 m 6 ls []) := by
  intro l1 l2 l3 x H locs ls  hw hW hS hl
  unfold j_Mod_readWholes_6 at hw
  refine lv_iload_n hx hb d_Mod_readWholes_6 rfl (lv_at hl 3 rfl) ?_
  refine lv_iload_n hx hb d_Mod_readWholes_7 rfl (lv_at hl 2 rfl) ?_
  refine lv_icmp_ge (tgt := 34) hx hb d_Mod_readWholes_8 (by decide) (fun c1444 => ?_) (fun c1444 => ?_)
  · have hw := hw.1 c1444
    exact t_Mod_readWholes_34 hx hb hml hown hT hK hN hA hRc hRs hRf hRl hret  l1 l2 l3 x H locs ls  hw hW hS (lv_sub hl [0, 1, 2, 3] rfl)
  · have hw := hw.2 c1444
    refine lv_aload_n hx hb d_Mod_readWholes_11 rfl (lv_at hl 0 rfl) ?_
    refine w_geti (k := 69) (t := 12) (C := R_Mod) (T := F_Mod) (N := 167) hx hb hT hown hK hW ko_0.1 ko_0.2 (by decide) in_Mod rfl rfl (by decide) rfl fr_Mod_69 w_9_5 d_Mod_readWholes_12 ?_
    refine lv_if_ne (tgt := 34) hx hb d_Mod_readWholes_15 (by decide) (fun c1445 => ?_) (fun c1445 => ?_)
    · have hw := hw.1 c1445
      exact t_Mod_readWholes_34 hx hb hml hown hT hK hN hA hRc hRs hRf hRl hret  l1 l2 l3 x H locs ls  hw hW hS (lv_sub hl [0, 1, 2, 3] rfl)
    · have hw := hw.2 c1445
      refine lv_aload_n hx hb d_Mod_readWholes_18 rfl (lv_at hl 0 rfl) ?_
      refine w_getf (q := 31) (k := 50) (t := 12) (C := R_Mod) (T := F_Mod) (N := 167) hx hb hT hown hK hW ko_0.1 ko_0.2 (by decide) in_Mod rfl rfl (by decide) rfl fr_Mod_50 w_8_226 d_Mod_readWholes_19 rfl ?_
      refine lv_iload_n hx hb d_Mod_readWholes_22 rfl (lv_at hl 3 rfl) ?_
      refine lv_aload_n hx hb d_Mod_readWholes_23 rfl (lv_at hl 0 rfl) ?_
      have hF := hW.free hS hA
      refine va_calll (va_runV (C := R_Mod) (As := []) (rest := [.int l3, .ref (ad 31)]) ⟨hx, hb, hml, hown, hT⟩ (k_Mod_whole l dC dI cI cB cJ cZ ad H.size  x  hw) ⟨callB_of 0 hT (gwt_in w_13_6) rfl rfl rfl (hT _ w_1_15) (hT _ w_13_3) (by decide +kernel) ⟨Nat.le_trans (Nat.le_of_ble_eq_true rfl) hRf, Nat.le_trans (Nat.le_of_ble_eq_true rfl) hRl⟩, hT _ w_13_5, hT _ ws_214⟩ ⟨PW.blind, va_recv hK hW.1 (ci := 12) (q0 := 0) rfl (pic_obj ko_0.1 ko_0.2 (by decide)), PW.at _ hW hK hN⟩ rfl rfl hl.1 rfl (lv_room (Nat.le_of_ble_eq_true rfl)) d_Mod_readWholes_24 ⟨hRc, hRs⟩) hS (fun q _ h => hF q h) hF (fun r1447 x1446 t H locs ht hvm hw hB hz1 hk1 hS => ?_)
      have hW := Wd.back hB ht hF
      clear hB ht hF hz1 hk1 hvm
      obtain ⟨hi, hw⟩ := hw
      refine w_last (o := 31) hx hb hK hW hS ko_31.1 ko_31.2 hi d_Mod_readWholes_27 (fun H locs hW hS => ?_)
      obtain ⟨x1448, ex1448⟩ : ∃ y : St, y = setL x1446 31 l3 r1447 := ⟨_, rfl⟩
      rw [← ex1448] at hW
      have hw := hw x1448 ex1448
      refine lv_iinc (v := (l3 + 1)) (lv' := [(3, .int (l3 + 1)), (0, .ref (ad 0)), (1, .int l1), (2, .int l2)]) hx hb d_Mod_readWholes_28 hl (k := 3) rfl rfl (by decide) rfl (fun ls hl => ?_)
      refine lv_goto (tgt := 6) hx hb d_Mod_readWholes_31 (by decide) ?_
      exact hrec6 l1 l2 (l3 + 1) x1448 H locs ls  hw hW hS (lv_sub hl [1, 2, 3, 0] rfl)
set_option maxHeartbeats 4000000 in
set_option maxRecDepth 100000 in
theorem tl_Mod_readWholes_6 {p : Program} {l : Launch} {e : Env} {R : Room} {s : State} {m : MethodId} {args : Array Value} {below : List Frame} {meth : Method} {c : Code} {cells slots : Nat} {Q : State → Prop} {dC : Nat → ClassId} {dI : Nat → Nat → Nat} {cI cB cJ cZ : ClassId} {A : Nat → Prop} {ad : Nat → Nat} {post : St → Prop} (hx : p.tables.exec = Jvm.exec) (hb : c.code = b_Mod_readWholes) (hml : c.maxLocals = 4) (hown : s.vm.findClass R_Mod = some m.cls) (hT : ∀ w ∈ TG, w.before args s = true) (hK : va_K (dC, dI) CL (TY cI cB cJ cZ) s) (hN : NW s) (hA : ∀ q : Nat, s.heap.size ≤ q → A q) (hRc : cells ≤ R.cells) (hRs : slots ≤ R.slots) (hRf : 4 ≤ R.frames) (hRl : 109 ≤ R.locals) (hret : ∀ (x : St) (H : Heap) (locs : List Loc) (pc : Nat) (ls : Array Slot), decode b_Mod_readWholes pc = .ok (.return_, 1) → post x → Wd dC dI cI cB cJ cZ ad stM kcM 115 A x H → va_S A s.heap H locs → W p l e R s m args below meth c H locs cells slots Q (F0 m pc ls []))  : ∀ n : Nat, ∀ (l1 : Int32) (l2 : Int32) (l3 : Int32) (x : St) (H : Heap) (locs : List Loc) (ls : Array Slot), wl_Mod_readWholes_6 post n l1 l2 l3 x → Wd dC dI cI cB cJ cZ ad stM kcM 115 A x H → va_S A s.heap H locs → lv_has ls 4 [(0, .ref (ad 0)), (1, .int l1), (2, .int l2), (3, .int l3)] → W p l e R s m args below meth c H locs cells slots Q (F0 m 6 ls []) := by
  intro n
  induction n with
  | zero => intro l1 l2 l3 x H locs ls  hw; exact hw.elim
  | succ n ih => intro l1 l2 l3 x H locs ls  hw hW hS hl; exact t_Mod_readWholes_6 hx hb hml hown hT hK hN hA hRc hRs hRf hRl hret  ih l1 l2 l3 x H locs ls  hw hW hS hl
set_option maxRecDepth 100000 in
set_option maxHeartbeats 4000000 in
set_option maxRecDepth 100000 in
theorem t_Mod_readWholes_e {p : Program} {l : Launch} {e : Env} {R : Room} {s : State} {m : MethodId} {args : Array Value} {below : List Frame} {meth : Method} {c : Code} {cells slots : Nat} {Q : State → Prop} {dC : Nat → ClassId} {dI : Nat → Nat → Nat} {cI cB cJ cZ : ClassId} {A : Nat → Prop} {ad : Nat → Nat} {post : St → Prop} (hx : p.tables.exec = Jvm.exec) (hb : c.code = b_Mod_readWholes) (hml : c.maxLocals = 4) (hown : s.vm.findClass R_Mod = some m.cls) (hT : ∀ w ∈ TG, w.before args s = true) (hK : va_K (dC, dI) CL (TY cI cB cJ cZ) s) (hN : NW s) (hA : ∀ q : Nat, s.heap.size ≤ q → A q) (hRc : cells ≤ R.cells) (hRs : slots ≤ R.slots) (hRf : 4 ≤ R.frames) (hRl : 109 ≤ R.locals) (hret : ∀ (x : St) (H : Heap) (locs : List Loc) (pc : Nat) (ls : Array Slot), decode b_Mod_readWholes pc = .ok (.return_, 1) → post x → Wd dC dI cI cB cJ cZ ad stM kcM 115 A x H → va_S A s.heap H locs → W p l e R s m args below meth c H locs cells slots Q (F0 m pc ls [])) : ∀ (l1 : Int32) (l2 : Int32) (x : St) (H : Heap) (locs : List Loc) (ls : Array Slot), wp_Mod_readWholes post l1 l2 x → Wd dC dI cI cB cJ cZ ad stM kcM 115 A x H → va_S A s.heap H locs → lv_has ls 4 [(0, .ref (ad 0)), (1, .int l1), (2, .int l2)] → W p l e R s m args below meth c H locs cells slots Q (F0 m 0 ls []) := by
  intro l1 l2 x H locs ls  hw hW hS hl
  unfold wp_Mod_readWholes at hw
  refine lv_iload_n hx hb d_Mod_readWholes_0 rfl (lv_at hl 1 rfl) ?_
  refine lv_if_ne (tgt := 37) hx hb d_Mod_readWholes_1 (by decide) (fun c1449 => ?_) (fun c1449 => ?_)
  · have hw := hw.1 c1449
    refine lv_iload_n hx hb d_Mod_readWholes_37 rfl (lv_at hl 1 rfl) ?_
    refine lv_iconst (v := 1) hx hb d_Mod_readWholes_38 (by decide) ?_
    refine lv_icmp_ne (tgt := 105) hx hb d_Mod_readWholes_39 (by decide) (fun c1450 => ?_) (fun c1450 => ?_)
    · have hw := hw.1 c1450
      refine lv_aload_n hx hb d_Mod_readWholes_105 rfl (lv_at hl 0 rfl) ?_
      refine lv_iload_n hx hb d_Mod_readWholes_106 rfl (lv_at hl 2 rfl) ?_
      have hF := hW.free hS hA
      refine va_callv (va_runV (C := R_Mod) (As := [.int l2]) (rest := []) ⟨hx, hb, hml, hown, hT⟩ (k_Mod_readWords l dC dI cI cB cJ cZ ad H.size l2 x  hw) ⟨callB_of 1 hT (gwt_in w_13_10) rfl rfl rfl (hT _ w_1_15) (hT _ w_13_7) (by decide +kernel) ⟨Nat.le_trans (Nat.le_of_ble_eq_true rfl) hRf, Nat.le_trans (Nat.le_of_ble_eq_true rfl) hRl⟩, hT _ w_13_9, hT _ ws_215⟩ ⟨PW.blind, va_recv hK hW.1 (ci := 12) (q0 := 0) rfl (pic_obj ko_0.1 ko_0.2 (by decide)), PW.at _ hW hK hN⟩ rfl rfl hl.1 rfl (lv_room (Nat.le_of_ble_eq_true rfl)) d_Mod_readWholes_107 ⟨hRc, hRs⟩) hS (fun q _ h => hF q h) hF (fun  x1451 t H locs ht hvm hw hB hz1 hk1 hS => ?_)
      have hW := Wd.back hB ht hF
      clear hB ht hF hz1 hk1 hvm
      exact hret x1451 H locs 110 ls d_Mod_readWholes_110 hw hW hS
    · have hw := hw.2 c1450
      refine lv_aload_n hx hb d_Mod_readWholes_42 rfl (lv_at hl 0 rfl) ?_
      refine lv_iload_n hx hb d_Mod_readWholes_43 rfl (lv_at hl 2 rfl) ?_
      refine lv_aload_n hx hb d_Mod_readWholes_44 rfl (lv_at hl 0 rfl) ?_
      refine w_geti (k := 68) (t := 12) (C := R_Mod) (T := F_Mod) (N := 167) hx hb hT hown hK hW ko_0.1 ko_0.2 (by decide) in_Mod rfl rfl (by decide) rfl fr_Mod_68 w_9_4 d_Mod_readWholes_45 ?_
      have hF := hW.free hS hA
      refine va_callv (va_runV (C := R_Mod) (As := [.int l2, .int (fI x 0 68)]) (rest := []) ⟨hx, hb, hml, hown, hT⟩ (k_Mod_readLongs l dC dI cI cB cJ cZ ad H.size l2 (fI x 0 68) x  hw) ⟨callB_of 2 hT (gwt_in w_12_222) rfl rfl rfl (hT _ w_1_15) (hT _ w_12_219) (by decide +kernel) ⟨Nat.le_trans (Nat.le_of_ble_eq_true rfl) hRf, Nat.le_trans (Nat.le_of_ble_eq_true rfl) hRl⟩, hT _ w_12_221, hT _ ws_209⟩ ⟨PW.blind, va_recv hK hW.1 (ci := 12) (q0 := 0) rfl (pic_obj ko_0.1 ko_0.2 (by decide)), PW.at _ hW hK hN⟩ rfl rfl hl.1 rfl (lv_room (Nat.le_of_ble_eq_true rfl)) d_Mod_readWholes_48 ⟨hRc, hRs⟩) hS (fun q _ h => hF q h) hF (fun  x1452 t H locs ht hvm hw hB hz1 hk1 hS => ?_)
      have hW := Wd.back hB ht hF
      clear hB ht hF hz1 hk1 hvm
      refine lv_iconst (v := 0) hx hb d_Mod_readWholes_51 (by decide) ?_
      refine lv_istore_n (lv' := [(3, .int 0), (0, .ref (ad 0)), (1, .int l1), (2, .int l2)]) hx hb d_Mod_readWholes_52 rfl hl (by decide) rfl (fun ls hl => ?_)
      obtain ⟨n, hw⟩ := hw
      exact tl_Mod_readWholes_53 hx hb hml hown hT hK hN hA hRc hRs hRf hRl hret  n l1 l2 0 x1452 H locs ls  hw hW hS (lv_sub hl [1, 2, 3, 0] rfl)
  · have hw := hw.2 c1449
    refine lv_iconst (v := 0) hx hb d_Mod_readWholes_4 (by decide) ?_
    refine lv_istore_n (lv' := [(3, .int 0), (0, .ref (ad 0)), (1, .int l1), (2, .int l2)]) hx hb d_Mod_readWholes_5 rfl hl (by decide) rfl (fun ls hl => ?_)
    obtain ⟨n, hw⟩ := hw
    exact tl_Mod_readWholes_6 hx hb hml hown hT hK hN hA hRc hRs hRf hRl hret  n l1 l2 0 x H locs ls  hw hW hS (lv_sub hl [1, 2, 3, 0] rfl)
set_option maxHeartbeats 4000000 in
set_option maxRecDepth 100000 in
theorem k_Mod_readWholes (l : Launch) (dC : Nat → ClassId) (dI : Nat → Nat → Nat) (cI cB cJ cZ : ClassId) (ad : Nat → Nat) (sz : Nat) (l1 : Int32) (l2 : Int32) (x : St) {post : St → Prop} (hw : wp_Mod_readWholes post l1 l2 x) : Met l y_Mod_readWholes (wsOf y_Mod_readWholes b_Mod_readWholes 4 (none)) ({ frames := 4, cells := 0, slots := 0, locals := 109 }) (va_Pc [.ref (ad 0), .int l1, .int l2] (PW dC dI cI cB cJ cZ ad stM kcM 115 sz x)) (va_Qv (fun (y : St) => post y) (fun y t => Wd dC dI cI cB cJ cZ ad stM kcM 115 (va_A (pic ad stM kcM 115 cI cB cJ cZ x) sz) y t.heap) (va_A (pic ad stM kcM 115 cI cB cJ cZ x) sz)) 0 0 (va_A (pic ad stM kcM 115 cI cB cJ cZ x) sz) := by
  refine Met.ofW (cc := b_Mod_readWholes) (maxL := 4) (ret := none) (by decide) rfl ?_
  intro p e s m args below meth c s₁ B hml hv
  obtain ⟨rfl, hsz, hW0, hK, hN⟩ := hv
  have hx := B.exec
  have hb := B.bytes
  have hr := B.returns
  have hts := atoms_spec B.pre
  have hT : ∀ w ∈ TG, w.before _ s = true := fun w h => hts w (List.mem_cons_of_mem _ h)
  have hown : s.vm.findClass R_Mod = some m.cls := findClass_of_methodNamed B.named
  have hlocks := B.notSynchronized
  subst hsz
  have hW : Wd dC dI cI cB cJ cZ ad stM kcM 115 (va_A (pic ad stM kcM 115 cI cB cJ cZ x) s.heap.size) x s.heap := ⟨hW0.1, hW0.2.1.self (sz := s.heap.size), hW0.2.2⟩
  generalize hAe : va_A (pic ad stM kcM 115 cI cB cJ cZ x) s.heap.size = A at hW ⊢
  have hA : ∀ q : Nat, s.heap.size ≤ q → A q := fun q h => by rw [← hAe]; exact Or.inr h
  have hS : va_S A s.heap s.heap [] := va_S.rf
  have hl := lv_entry ([.ref (ad 0), .int l1, .int l2]) (n := 4) (Nat.le_of_ble_eq_true rfl)
  rw [lg_entry_eq]
  generalize (lg_sl ([.ref (ad 0), .int l1, .int l2]) ++ List.replicate (4 - (lg_sl ([.ref (ad 0), .int l1, .int l2])).length) Slot.unset).toArray = ls at hl ⊢
  have hl : lv_has ls 4 [(0, .ref (ad 0)), (1, .int l1), (2, .int l2)] := hl
  exact t_Mod_readWholes_e hx hb hml hown hT hK hN hA (Nat.le_refl 0) (Nat.le_refl 0) (Nat.le_refl 4) (Nat.le_refl 109) (fun x H locs pc ls hd hp hW hS => W.vret hx hb hr (fun t ht hM => ⟨⟨x, rfl, hp, Wd.back hW ht.symm (fun _ z => z)⟩, hS.F ht⟩) hS.2.2 hd hlocks)  l1 l2 x _ _ ls  hw hW hS hl
set_option maxRecDepth 100000 in
set_option maxHeartbeats 4000000 in
set_option maxRecDepth 100000 in
theorem t_Mod_against_151 {p : Program} {l : Launch} {e : Env} {R : Room} {s : State} {m : MethodId} {args : Array Value} {below : List Frame} {meth : Method} {c : Code} {cells slots : Nat} {Q : State → Prop} {dC : Nat → ClassId} {dI : Nat → Nat → Nat} {cI cB cJ cZ : ClassId} {A : Nat → Prop} {ad : Nat → Nat} {post : Int32 → St → Prop} (hx : p.tables.exec = Jvm.exec) (hb : c.code = b_Mod_against) (hml : c.maxLocals = 5) (hown : s.vm.findClass R_Mod = some m.cls) (hT : ∀ w ∈ TG, w.before args s = true) (hK : va_K (dC, dI) CL (TY cI cB cJ cZ) s) (hN : NW s) (hA : ∀ q : Nat, s.heap.size ≤ q → A q) (hRc : cells ≤ R.cells) (hRs : slots ≤ R.slots) (hRf : 0 ≤ R.frames) (hRl : 0 ≤ R.locals) (hret : ∀ (r : Int32) (x : St) (H : Heap) (locs : List Loc) (pc : Nat) (ls : Array Slot), decode b_Mod_against pc = .ok (.ireturn, 1) → post r x → Wd dC dI cI cB cJ cZ ad stM kcM 115 A x H → va_S A s.heap H locs → W p l e R s m args below meth c H locs cells slots Q (F0 m pc ls [.int r]))  : ∀ (l1 : Int32) (l2 : Int32) (l3 : Int32) (l4 : Int32) (x : St) (H : Heap) (locs : List Loc) (ls : Array Slot), j_Mod_against_151 post l1 l2 l3 l4 x → Wd dC dI cI cB cJ cZ ad stM kcM 115 A x H → va_S A s.heap H locs → lv_has ls 5 [(0, .ref (ad 0)), (1, .int l1), (2, .int l2), (3, .int l3), (4, .int l4)] → W p l e R s m args below meth c H locs cells slots Q (F0 m 151 ls []) := by
  intro l1 l2 l3 l4 x H locs ls  hw hW hS hl
  unfold j_Mod_against_151 at hw
  refine lv_iload_n hx hb d_Mod_against_151 rfl (lv_at hl 3 rfl) ?_
  refine lv_aload_n hx hb d_Mod_against_152 rfl (lv_at hl 0 rfl) ?_
  refine w_getf (q := 48) (k := 76) (t := 12) (C := R_Mod) (T := F_Mod) (N := 167) hx hb hT hown hK hW ko_0.1 ko_0.2 (by decide) in_Mod rfl rfl (by decide) rfl fr_Mod_76 w_9_12 d_Mod_against_153 rfl ?_
  refine lv_iload_n hx hb d_Mod_against_156 rfl (lv_at hl 2 rfl) ?_
  obtain ⟨hi, hw⟩ := hw
  refine w_iald (o := 48) hx hb hK hW ko_48.1 ko_48.2 hi d_Mod_against_157 ?_
  refine lv_isub hx hb d_Mod_against_158 ?_
  exact hret (l3 - (rA x 48 l2)) x H locs 159 ls d_Mod_against_159 hw hW hS
set_option maxRecDepth 100000 in
set_option maxHeartbeats 4000000 in
set_option maxRecDepth 100000 in
theorem t_Mod_against_69 {p : Program} {l : Launch} {e : Env} {R : Room} {s : State} {m : MethodId} {args : Array Value} {below : List Frame} {meth : Method} {c : Code} {cells slots : Nat} {Q : State → Prop} {dC : Nat → ClassId} {dI : Nat → Nat → Nat} {cI cB cJ cZ : ClassId} {A : Nat → Prop} {ad : Nat → Nat} {post : Int32 → St → Prop} {rec69 : Int32 → Int32 → Int32 → Int32 → St → Prop} (hx : p.tables.exec = Jvm.exec) (hb : c.code = b_Mod_against) (hml : c.maxLocals = 5) (hown : s.vm.findClass R_Mod = some m.cls) (hT : ∀ w ∈ TG, w.before args s = true) (hK : va_K (dC, dI) CL (TY cI cB cJ cZ) s) (hN : NW s) (hA : ∀ q : Nat, s.heap.size ≤ q → A q) (hRc : cells ≤ R.cells) (hRs : slots ≤ R.slots) (hRf : 0 ≤ R.frames) (hRl : 0 ≤ R.locals) (hret : ∀ (r : Int32) (x : St) (H : Heap) (locs : List Loc) (pc : Nat) (ls : Array Slot), decode b_Mod_against pc = .ok (.ireturn, 1) → post r x → Wd dC dI cI cB cJ cZ ad stM kcM 115 A x H → va_S A s.heap H locs → W p l e R s m args below meth c H locs cells slots Q (F0 m pc ls [.int r])) (hrec69 : ∀ (l1 : Int32) (l2 : Int32) (l3 : Int32) (l4 : Int32) (x : St) (H : Heap) (locs : List Loc) (ls : Array Slot), rec69 l1 l2 l3 l4 x → Wd dC dI cI cB cJ cZ ad stM kcM 115 A x H → va_S A s.heap H locs → lv_has ls 5 [(0, .ref (ad 0)), (1, .int l1), (2, .int l2), (3, .int l3), (4, .int l4)] → W p l e R s m args below meth c H locs cells slots Q (F0 m 69 ls [])) : ∀ (l1 : Int32) (l2 : Int32) (l3 : Int32) (l4 : Int32) (x : St) (H : Heap) (locs : List Loc) (ls : Array Slot), j_Mod_against_69 post rec69 l1 l2 l3 l4 x → Wd dC dI cI cB cJ cZ ad stM kcM 115 A x H → va_S A s.heap H locs → lv_has ls 5 [(0, .ref (ad 0)), (1, .int l1), (2, .int l2), (3, .int l3), (4, .int l4)] → W p l e R s m args below meth c H locs cells slots Q (F0 m 69 ls []) := by
  intro l1 l2 l3 l4 x H locs ls  hw hW hS hl
  unfold j_Mod_against_69 at hw
  refine lv_iload hx hb d_Mod_against_69 (lv_at hl 4 rfl) ?_
  refine lv_iload_n hx hb d_Mod_against_71 rfl (lv_at hl 3 rfl) ?_
  refine lv_icmp_ge (tgt := 151) hx hb d_Mod_against_72 (by decide) (fun c1453 => ?_) (fun c1453 => ?_)
  · have hw := hw.1 c1453
    exact t_Mod_against_151 hx hb hml hown hT hK hN hA hRc hRs hRf hRl hret  l1 l2 l3 l4 x H locs ls  hw hW hS (lv_sub hl [0, 1, 2, 3, 4] rfl)
  · have hw := hw.2 c1453
    refine lv_iload hx hb d_Mod_against_75 (lv_at hl 4 rfl) ?_
    refine lv_aload_n hx hb d_Mod_against_77 rfl (lv_at hl 0 rfl) ?_
    refine w_getf (q := 48) (k := 76) (t := 12) (C := R_Mod) (T := F_Mod) (N := 167) hx hb hT hown hK hW ko_0.1 ko_0.2 (by decide) in_Mod rfl rfl (by decide) rfl fr_Mod_76 w_9_12 d_Mod_against_78 rfl ?_
    refine lv_iload_n hx hb d_Mod_against_81 rfl (lv_at hl 2 rfl) ?_
    obtain ⟨hi, hw⟩ := hw
    refine w_iald (o := 48) hx hb hK hW ko_48.1 ko_48.2 hi d_Mod_against_82 ?_
    refine lv_icmp_ge (tgt := 151) hx hb d_Mod_against_83 (by decide) (fun c1454 => ?_) (fun c1454 => ?_)
    · have hw := hw.1 c1454
      exact t_Mod_against_151 hx hb hml hown hT hK hN hA hRc hRs hRf hRl hret  l1 l2 l3 l4 x H locs ls  hw hW hS (lv_sub hl [0, 1, 2, 3, 4] rfl)
    · have hw := hw.2 c1454
      refine lv_aload_n hx hb d_Mod_against_86 rfl (lv_at hl 0 rfl) ?_
      refine w_getf (q := 37) (k := 56) (t := 12) (C := R_Mod) (T := F_Mod) (N := 167) hx hb hT hown hK hW ko_0.1 ko_0.2 (by decide) in_Mod rfl rfl (by decide) rfl fr_Mod_56 w_8_232 d_Mod_against_87 rfl ?_
      refine lv_aload_n hx hb d_Mod_against_90 rfl (lv_at hl 0 rfl) ?_
      refine w_getf (q := 34) (k := 53) (t := 12) (C := R_Mod) (T := F_Mod) (N := 167) hx hb hT hown hK hW ko_0.1 ko_0.2 (by decide) in_Mod rfl rfl (by decide) rfl fr_Mod_53 w_8_229 d_Mod_against_91 rfl ?_
      refine lv_iload_n hx hb d_Mod_against_94 rfl (lv_at hl 1 rfl) ?_
      obtain ⟨hi, hw⟩ := hw
      refine w_iald (o := 34) hx hb hK hW ko_34.1 ko_34.2 hi d_Mod_against_95 ?_
      refine lv_iload hx hb d_Mod_against_96 (lv_at hl 4 rfl) ?_
      refine lv_iadd hx hb d_Mod_against_98 ?_
      obtain ⟨hi, hw⟩ := hw
      refine w_iald (o := 37) hx hb hK hW ko_37.1 ko_37.2 hi d_Mod_against_99 ?_
      refine lv_aload_n hx hb d_Mod_against_100 rfl (lv_at hl 0 rfl) ?_
      refine w_getf (q := 49) (k := 77) (t := 12) (C := R_Mod) (T := F_Mod) (N := 167) hx hb hT hown hK hW ko_0.1 ko_0.2 (by decide) in_Mod rfl rfl (by decide) rfl fr_Mod_77 w_9_13 d_Mod_against_101 rfl ?_
      refine lv_sipush (v := 256) hx hb d_Mod_against_104 (by decide) ?_
      refine lv_iload_n hx hb d_Mod_against_107 rfl (lv_at hl 2 rfl) ?_
      refine lv_imul hx hb d_Mod_against_108 ?_
      refine lv_iload hx hb d_Mod_against_109 (lv_at hl 4 rfl) ?_
      refine lv_iadd hx hb d_Mod_against_111 ?_
      obtain ⟨hi, hw⟩ := hw
      refine w_iald (o := 49) hx hb hK hW ko_49.1 ko_49.2 hi d_Mod_against_112 ?_
      refine lv_icmp_eq (tgt := 145) hx hb d_Mod_against_113 (by decide) (fun c1455 => ?_) (fun c1455 => ?_)
      · have hw := hw.1 c1455
        refine lv_iinc (v := (l4 + 1)) (lv' := [(4, .int (l4 + 1)), (0, .ref (ad 0)), (1, .int l1), (2, .int l2), (3, .int l3)]) hx hb d_Mod_against_145 hl (k := 4) rfl rfl (by decide) rfl (fun ls hl => ?_)
        refine lv_goto (tgt := 69) hx hb d_Mod_against_148 (by decide) ?_
        exact hrec69 l1 l2 l3 (l4 + 1) x H locs ls  hw hW hS (lv_sub hl [1, 2, 3, 4, 0] rfl)
      · have hw := hw.2 c1455
        refine lv_aload_n hx hb d_Mod_against_116 rfl (lv_at hl 0 rfl) ?_
        refine w_getf (q := 37) (k := 56) (t := 12) (C := R_Mod) (T := F_Mod) (N := 167) hx hb hT hown hK hW ko_0.1 ko_0.2 (by decide) in_Mod rfl rfl (by decide) rfl fr_Mod_56 w_8_232 d_Mod_against_117 rfl ?_
        refine lv_aload_n hx hb d_Mod_against_120 rfl (lv_at hl 0 rfl) ?_
        refine w_getf (q := 34) (k := 53) (t := 12) (C := R_Mod) (T := F_Mod) (N := 167) hx hb hT hown hK hW ko_0.1 ko_0.2 (by decide) in_Mod rfl rfl (by decide) rfl fr_Mod_53 w_8_229 d_Mod_against_121 rfl ?_
        refine lv_iload_n hx hb d_Mod_against_124 rfl (lv_at hl 1 rfl) ?_
        obtain ⟨hi, hw⟩ := hw
        refine w_iald (o := 34) hx hb hK hW ko_34.1 ko_34.2 hi d_Mod_against_125 ?_
        refine lv_iload hx hb d_Mod_against_126 (lv_at hl 4 rfl) ?_
        refine lv_iadd hx hb d_Mod_against_128 ?_
        obtain ⟨hi, hw⟩ := hw
        refine w_iald (o := 37) hx hb hK hW ko_37.1 ko_37.2 hi d_Mod_against_129 ?_
        refine lv_aload_n hx hb d_Mod_against_130 rfl (lv_at hl 0 rfl) ?_
        refine w_getf (q := 49) (k := 77) (t := 12) (C := R_Mod) (T := F_Mod) (N := 167) hx hb hT hown hK hW ko_0.1 ko_0.2 (by decide) in_Mod rfl rfl (by decide) rfl fr_Mod_77 w_9_13 d_Mod_against_131 rfl ?_
        refine lv_sipush (v := 256) hx hb d_Mod_against_134 (by decide) ?_
        refine lv_iload_n hx hb d_Mod_against_137 rfl (lv_at hl 2 rfl) ?_
        refine lv_imul hx hb d_Mod_against_138 ?_
        refine lv_iload hx hb d_Mod_against_139 (lv_at hl 4 rfl) ?_
        refine lv_iadd hx hb d_Mod_against_141 ?_
        obtain ⟨hi, hw⟩ := hw
        refine w_iald (o := 49) hx hb hK hW ko_49.1 ko_49.2 hi d_Mod_against_142 ?_
        refine lv_isub hx hb d_Mod_against_143 ?_
        exact hret ((rA x 37 ((rA x 34 l1) + l4)) - (rA x 49 ((256 * l2) + l4))) x H locs 144 ls d_Mod_against_144 hw hW hS
set_option maxHeartbeats 4000000 in
set_option maxRecDepth 100000 in
theorem tl_Mod_against_69 {p : Program} {l : Launch} {e : Env} {R : Room} {s : State} {m : MethodId} {args : Array Value} {below : List Frame} {meth : Method} {c : Code} {cells slots : Nat} {Q : State → Prop} {dC : Nat → ClassId} {dI : Nat → Nat → Nat} {cI cB cJ cZ : ClassId} {A : Nat → Prop} {ad : Nat → Nat} {post : Int32 → St → Prop} (hx : p.tables.exec = Jvm.exec) (hb : c.code = b_Mod_against) (hml : c.maxLocals = 5) (hown : s.vm.findClass R_Mod = some m.cls) (hT : ∀ w ∈ TG, w.before args s = true) (hK : va_K (dC, dI) CL (TY cI cB cJ cZ) s) (hN : NW s) (hA : ∀ q : Nat, s.heap.size ≤ q → A q) (hRc : cells ≤ R.cells) (hRs : slots ≤ R.slots) (hRf : 0 ≤ R.frames) (hRl : 0 ≤ R.locals) (hret : ∀ (r : Int32) (x : St) (H : Heap) (locs : List Loc) (pc : Nat) (ls : Array Slot), decode b_Mod_against pc = .ok (.ireturn, 1) → post r x → Wd dC dI cI cB cJ cZ ad stM kcM 115 A x H → va_S A s.heap H locs → W p l e R s m args below meth c H locs cells slots Q (F0 m pc ls [.int r]))  : ∀ n : Nat, ∀ (l1 : Int32) (l2 : Int32) (l3 : Int32) (l4 : Int32) (x : St) (H : Heap) (locs : List Loc) (ls : Array Slot), wl_Mod_against_69 post n l1 l2 l3 l4 x → Wd dC dI cI cB cJ cZ ad stM kcM 115 A x H → va_S A s.heap H locs → lv_has ls 5 [(0, .ref (ad 0)), (1, .int l1), (2, .int l2), (3, .int l3), (4, .int l4)] → W p l e R s m args below meth c H locs cells slots Q (F0 m 69 ls []) := by
  intro n
  induction n with
  | zero => intro l1 l2 l3 l4 x H locs ls  hw; exact hw.elim
  | succ n ih => intro l1 l2 l3 l4 x H locs ls  hw hW hS hl; exact t_Mod_against_69 hx hb hml hown hT hK hN hA hRc hRs hRf hRl hret  ih l1 l2 l3 l4 x H locs ls  hw hW hS hl
set_option maxRecDepth 100000 in
set_option maxHeartbeats 4000000 in
set_option maxRecDepth 100000 in
theorem t_Mod_against_e {p : Program} {l : Launch} {e : Env} {R : Room} {s : State} {m : MethodId} {args : Array Value} {below : List Frame} {meth : Method} {c : Code} {cells slots : Nat} {Q : State → Prop} {dC : Nat → ClassId} {dI : Nat → Nat → Nat} {cI cB cJ cZ : ClassId} {A : Nat → Prop} {ad : Nat → Nat} {post : Int32 → St → Prop} (hx : p.tables.exec = Jvm.exec) (hb : c.code = b_Mod_against) (hml : c.maxLocals = 5) (hown : s.vm.findClass R_Mod = some m.cls) (hT : ∀ w ∈ TG, w.before args s = true) (hK : va_K (dC, dI) CL (TY cI cB cJ cZ) s) (hN : NW s) (hA : ∀ q : Nat, s.heap.size ≤ q → A q) (hRc : cells ≤ R.cells) (hRs : slots ≤ R.slots) (hRf : 0 ≤ R.frames) (hRl : 0 ≤ R.locals) (hret : ∀ (r : Int32) (x : St) (H : Heap) (locs : List Loc) (pc : Nat) (ls : Array Slot), decode b_Mod_against pc = .ok (.ireturn, 1) → post r x → Wd dC dI cI cB cJ cZ ad stM kcM 115 A x H → va_S A s.heap H locs → W p l e R s m args below meth c H locs cells slots Q (F0 m pc ls [.int r])) : ∀ (l1 : Int32) (l2 : Int32) (x : St) (H : Heap) (locs : List Loc) (ls : Array Slot), wp_Mod_against post l1 l2 x → Wd dC dI cI cB cJ cZ ad stM kcM 115 A x H → va_S A s.heap H locs → lv_has ls 5 [(0, .ref (ad 0)), (1, .int l1), (2, .int l2)] → W p l e R s m args below meth c H locs cells slots Q (F0 m 0 ls []) := by
  intro l1 l2 x H locs ls  hw hW hS hl
  unfold wp_Mod_against at hw
  refine lv_aload_n hx hb d_Mod_against_0 rfl (lv_at hl 0 rfl) ?_
  refine w_geti (k := 38) (t := 12) (C := R_Mod) (T := F_Mod) (N := 167) hx hb hT hown hK hW ko_0.1 ko_0.2 (by decide) in_Mod rfl rfl (by decide) rfl fr_Mod_38 w_8_214 d_Mod_against_1 ?_
  refine lv_iconst (v := 3) hx hb d_Mod_against_4 (by decide) ?_
  refine lv_icmp_eq (tgt := 50) hx hb d_Mod_against_5 (by decide) (fun c1456 => ?_) (fun c1456 => ?_)
  · have hw := hw.1 c1456
    refine lv_aload_n hx hb d_Mod_against_50 rfl (lv_at hl 0 rfl) ?_
    refine w_getf (q := 34) (k := 53) (t := 12) (C := R_Mod) (T := F_Mod) (N := 167) hx hb hT hown hK hW ko_0.1 ko_0.2 (by decide) in_Mod rfl rfl (by decide) rfl fr_Mod_53 w_8_229 d_Mod_against_51 rfl ?_
    refine lv_iload_n hx hb d_Mod_against_54 rfl (lv_at hl 1 rfl) ?_
    refine lv_iconst (v := 1) hx hb d_Mod_against_55 (by decide) ?_
    refine lv_iadd hx hb d_Mod_against_56 ?_
    obtain ⟨hi, hw⟩ := hw
    refine w_iald (o := 34) hx hb hK hW ko_34.1 ko_34.2 hi d_Mod_against_57 ?_
    refine lv_aload_n hx hb d_Mod_against_58 rfl (lv_at hl 0 rfl) ?_
    refine w_getf (q := 34) (k := 53) (t := 12) (C := R_Mod) (T := F_Mod) (N := 167) hx hb hT hown hK hW ko_0.1 ko_0.2 (by decide) in_Mod rfl rfl (by decide) rfl fr_Mod_53 w_8_229 d_Mod_against_59 rfl ?_
    refine lv_iload_n hx hb d_Mod_against_62 rfl (lv_at hl 1 rfl) ?_
    obtain ⟨hi, hw⟩ := hw
    refine w_iald (o := 34) hx hb hK hW ko_34.1 ko_34.2 hi d_Mod_against_63 ?_
    refine lv_isub hx hb d_Mod_against_64 ?_
    refine lv_topi (fun v1457 ev1457 => ?_)
    have hw := hw v1457 ev1457
    refine lv_istore_n (lv' := [(3, .int v1457), (0, .ref (ad 0)), (1, .int l1), (2, .int l2)]) hx hb d_Mod_against_65 rfl hl (by decide) rfl (fun ls hl => ?_)
    refine lv_iconst (v := 0) hx hb d_Mod_against_66 (by decide) ?_
    refine lv_istore (lv' := [(4, .int 0), (3, .int v1457), (0, .ref (ad 0)), (1, .int l1), (2, .int l2)]) hx hb d_Mod_against_67 hl (by decide) rfl (fun ls hl => ?_)
    obtain ⟨n, hw⟩ := hw
    exact tl_Mod_against_69 hx hb hml hown hT hK hN hA hRc hRs hRf hRl hret  n l1 l2 v1457 0 x H locs ls  hw hW hS (lv_sub hl [2, 3, 4, 1, 0] rfl)
  · have hw := hw.2 c1456
    refine lv_aload_n hx hb d_Mod_against_8 rfl (lv_at hl 0 rfl) ?_
    refine w_getf (q := 31) (k := 50) (t := 12) (C := R_Mod) (T := F_Mod) (N := 167) hx hb hT hown hK hW ko_0.1 ko_0.2 (by decide) in_Mod rfl rfl (by decide) rfl fr_Mod_50 w_8_226 d_Mod_against_9 rfl ?_
    refine lv_iload_n hx hb d_Mod_against_12 rfl (lv_at hl 1 rfl) ?_
    obtain ⟨hi, hw⟩ := hw
    refine w_lald (o := 31) hx hb hK hW ko_31.1 ko_31.2 hi d_Mod_against_13 ?_
    refine lv_aload_n hx hb d_Mod_against_14 rfl (lv_at hl 0 rfl) ?_
    refine w_getf (q := 47) (k := 75) (t := 12) (C := R_Mod) (T := F_Mod) (N := 167) hx hb hT hown hK hW ko_0.1 ko_0.2 (by decide) in_Mod rfl rfl (by decide) rfl fr_Mod_75 w_9_11 d_Mod_against_15 rfl ?_
    refine lv_iload_n hx hb d_Mod_against_18 rfl (lv_at hl 2 rfl) ?_
    obtain ⟨hi, hw⟩ := hw
    refine w_lald (o := 47) hx hb hK hW ko_47.1 ko_47.2 hi d_Mod_against_19 ?_
    refine W.lcmp hx hb d_Mod_against_20 ?_
    refine lv_if_ge (tgt := 28) hx hb d_Mod_against_21 (by decide) (fun c1458 => ?_) (fun c1458 => ?_)
    · have hw := hw.1 c1458
      refine lv_aload_n hx hb d_Mod_against_28 rfl (lv_at hl 0 rfl) ?_
      refine w_getf (q := 31) (k := 50) (t := 12) (C := R_Mod) (T := F_Mod) (N := 167) hx hb hT hown hK hW ko_0.1 ko_0.2 (by decide) in_Mod rfl rfl (by decide) rfl fr_Mod_50 w_8_226 d_Mod_against_29 rfl ?_
      refine lv_iload_n hx hb d_Mod_against_32 rfl (lv_at hl 1 rfl) ?_
      obtain ⟨hi, hw⟩ := hw
      refine w_lald (o := 31) hx hb hK hW ko_31.1 ko_31.2 hi d_Mod_against_33 ?_
      refine lv_aload_n hx hb d_Mod_against_34 rfl (lv_at hl 0 rfl) ?_
      refine w_getf (q := 47) (k := 75) (t := 12) (C := R_Mod) (T := F_Mod) (N := 167) hx hb hT hown hK hW ko_0.1 ko_0.2 (by decide) in_Mod rfl rfl (by decide) rfl fr_Mod_75 w_9_11 d_Mod_against_35 rfl ?_
      refine lv_iload_n hx hb d_Mod_against_38 rfl (lv_at hl 2 rfl) ?_
      obtain ⟨hi, hw⟩ := hw
      refine w_lald (o := 47) hx hb hK hW ko_47.1 ko_47.2 hi d_Mod_against_39 ?_
      refine W.lcmp hx hb d_Mod_against_40 ?_
      refine lv_if_le (tgt := 48) hx hb d_Mod_against_41 (by decide) (fun c1459 => ?_) (fun c1459 => ?_)
      · have hw := hw.1 c1459
        refine lv_iconst (v := 0) hx hb d_Mod_against_48 (by decide) ?_
        exact hret 0 x H locs 49 ls d_Mod_against_49 hw hW hS
      · have hw := hw.2 c1459
        refine lv_iconst (v := 1) hx hb d_Mod_against_44 (by decide) ?_
        refine lv_goto (tgt := 49) hx hb d_Mod_against_45 (by decide) ?_
        exact hret 1 x H locs 49 ls d_Mod_against_49 hw hW hS
    · have hw := hw.2 c1458
      refine lv_iconst (v := (-1)) hx hb d_Mod_against_24 (by decide) ?_
      refine lv_goto (tgt := 49) hx hb d_Mod_against_25 (by decide) ?_
      exact hret (-1) x H locs 49 ls d_Mod_against_49 hw hW hS
set_option maxHeartbeats 4000000 in
set_option maxRecDepth 100000 in
theorem k_Mod_against (l : Launch) (dC : Nat → ClassId) (dI : Nat → Nat → Nat) (cI cB cJ cZ : ClassId) (ad : Nat → Nat) (sz : Nat) (l1 : Int32) (l2 : Int32) (x : St) {post : Int32 → St → Prop} (hw : wp_Mod_against post l1 l2 x) : Met l y_Mod_against (wsOf y_Mod_against b_Mod_against 5 (some (.int))) ({ frames := 0, cells := 0, slots := 0, locals := 0 }) (va_Pc [.ref (ad 0), .int l1, .int l2] (PW dC dI cI cB cJ cZ ad stM kcM 115 sz x)) (va_Qi (fun (r : Int32) (y : St) => post r y) (fun y t => Wd dC dI cI cB cJ cZ ad stM kcM 115 (va_A (pic ad stM kcM 115 cI cB cJ cZ x) sz) y t.heap) (va_A (pic ad stM kcM 115 cI cB cJ cZ x) sz)) 0 0 (va_A (pic ad stM kcM 115 cI cB cJ cZ x) sz) := by
  refine Met.ofW (cc := b_Mod_against) (maxL := 5) (ret := some (.int)) (by decide) rfl ?_
  intro p e s m args below meth c s₁ B hml hv
  obtain ⟨rfl, hsz, hW0, hK, hN⟩ := hv
  have hx := B.exec
  have hb := B.bytes
  have hr := B.returns
  have hts := atoms_spec B.pre
  have hT : ∀ w ∈ TG, w.before _ s = true := fun w h => hts w (List.mem_cons_of_mem _ h)
  have hown : s.vm.findClass R_Mod = some m.cls := findClass_of_methodNamed B.named
  have hlocks := B.notSynchronized
  subst hsz
  have hW : Wd dC dI cI cB cJ cZ ad stM kcM 115 (va_A (pic ad stM kcM 115 cI cB cJ cZ x) s.heap.size) x s.heap := ⟨hW0.1, hW0.2.1.self (sz := s.heap.size), hW0.2.2⟩
  generalize hAe : va_A (pic ad stM kcM 115 cI cB cJ cZ x) s.heap.size = A at hW ⊢
  have hA : ∀ q : Nat, s.heap.size ≤ q → A q := fun q h => by rw [← hAe]; exact Or.inr h
  have hS : va_S A s.heap s.heap [] := va_S.rf
  have hl := lv_entry ([.ref (ad 0), .int l1, .int l2]) (n := 5) (Nat.le_of_ble_eq_true rfl)
  rw [lg_entry_eq]
  generalize (lg_sl ([.ref (ad 0), .int l1, .int l2]) ++ List.replicate (5 - (lg_sl ([.ref (ad 0), .int l1, .int l2])).length) Slot.unset).toArray = ls at hl ⊢
  have hl : lv_has ls 5 [(0, .ref (ad 0)), (1, .int l1), (2, .int l2)] := hl
  exact t_Mod_against_e hx hb hml hown hT hK hN hA (Nat.le_refl 0) (Nat.le_refl 0) (Nat.le_refl 0) (Nat.le_refl 0) (fun r x H locs pc ls hd hp hW hS => W.iret (v := r) hx hb hr (fun t ht hM => ⟨⟨r, x, rfl, hp, Wd.back hW ht.symm (fun _ z => z)⟩, hS.F ht⟩) hS.2.2 hd hlocks)  l1 l2 x _ _ ls  hw hW hS hl
set_option maxRecDepth 100000 in
set_option maxHeartbeats 4000000 in
set_option maxRecDepth 100000 in
theorem t_Mod_isMost_86 {p : Program} {l : Launch} {e : Env} {R : Room} {s : State} {m : MethodId} {args : Array Value} {below : List Frame} {meth : Method} {c : Code} {cells slots : Nat} {Q : State → Prop} {dC : Nat → ClassId} {dI : Nat → Nat → Nat} {cI cB cJ cZ : ClassId} {A : Nat → Prop} {ad : Nat → Nat} {post : Int32 → St → Prop} (hx : p.tables.exec = Jvm.exec) (hb : c.code = b_Mod_isMost) (hml : c.maxLocals = 7) (hown : s.vm.findClass R_Mod = some m.cls) (hT : ∀ w ∈ TG, w.before args s = true) (hK : va_K (dC, dI) CL (TY cI cB cJ cZ) s) (hN : NW s) (hA : ∀ q : Nat, s.heap.size ≤ q → A q) (hRc : cells ≤ R.cells) (hRs : slots ≤ R.slots) (hRf : 1 ≤ R.frames) (hRl : 24 ≤ R.locals) (hret : ∀ (r : Int32) (x : St) (H : Heap) (locs : List Loc) (pc : Nat) (ls : Array Slot), decode b_Mod_isMost pc = .ok (.ireturn, 1) → narrow .boolean (.int r) = .int r → post r x → Wd dC dI cI cB cJ cZ ad stM kcM 115 A x H → va_S A s.heap H locs → W p l e R s m args below meth c H locs cells slots Q (F0 m pc ls [.int r]))  : ∀ (l1 : Int32) (l2 : Int32) (l3 : Int32) (l4 : Int32) (l5 : Int32) (x : St) (H : Heap) (locs : List Loc) (ls : Array Slot), j_Mod_isMost_86 post l1 l2 l3 l4 l5 x → Wd dC dI cI cB cJ cZ ad stM kcM 115 A x H → va_S A s.heap H locs → lv_has ls 7 [(0, .ref (ad 0)), (1, .int l1), (2, .int l2), (3, .int l3), (4, .int l4), (5, .int l5)] → W p l e R s m args below meth c H locs cells slots Q (F0 m 86 ls []) := by
  intro l1 l2 l3 l4 l5 x H locs ls  hw hW hS hl
  unfold j_Mod_isMost_86 at hw
  refine lv_iconst (v := 0) hx hb d_Mod_isMost_86 (by decide) ?_
  exact hret 0 x H locs 87 ls d_Mod_isMost_87 rfl hw hW hS
set_option maxRecDepth 100000 in
set_option maxHeartbeats 4000000 in
set_option maxRecDepth 100000 in
theorem t_Mod_isMost_65 {p : Program} {l : Launch} {e : Env} {R : Room} {s : State} {m : MethodId} {args : Array Value} {below : List Frame} {meth : Method} {c : Code} {cells slots : Nat} {Q : State → Prop} {dC : Nat → ClassId} {dI : Nat → Nat → Nat} {cI cB cJ cZ : ClassId} {A : Nat → Prop} {ad : Nat → Nat} {post : Int32 → St → Prop} {rec8 : Int32 → Int32 → Int32 → Int32 → Int32 → St → Prop} (hx : p.tables.exec = Jvm.exec) (hb : c.code = b_Mod_isMost) (hml : c.maxLocals = 7) (hown : s.vm.findClass R_Mod = some m.cls) (hT : ∀ w ∈ TG, w.before args s = true) (hK : va_K (dC, dI) CL (TY cI cB cJ cZ) s) (hN : NW s) (hA : ∀ q : Nat, s.heap.size ≤ q → A q) (hRc : cells ≤ R.cells) (hRs : slots ≤ R.slots) (hRf : 1 ≤ R.frames) (hRl : 24 ≤ R.locals) (hret : ∀ (r : Int32) (x : St) (H : Heap) (locs : List Loc) (pc : Nat) (ls : Array Slot), decode b_Mod_isMost pc = .ok (.ireturn, 1) → narrow .boolean (.int r) = .int r → post r x → Wd dC dI cI cB cJ cZ ad stM kcM 115 A x H → va_S A s.heap H locs → W p l e R s m args below meth c H locs cells slots Q (F0 m pc ls [.int r])) (hrec8 : ∀ (l1 : Int32) (l2 : Int32) (l3 : Int32) (l4 : Int32) (l5 : Int32) (x : St) (H : Heap) (locs : List Loc) (ls : Array Slot), rec8 l1 l2 l3 l4 l5 x → Wd dC dI cI cB cJ cZ ad stM kcM 115 A x H → va_S A s.heap H locs → lv_has ls 7 [(0, .ref (ad 0)), (1, .int l1), (2, .int l2), (3, .int l3), (4, .int l4), (5, .int l5)] → W p l e R s m args below meth c H locs cells slots Q (F0 m 8 ls [])) : ∀ (l1 : Int32) (l2 : Int32) (l3 : Int32) (l4 : Int32) (l5 : Int32) (l6 : Int32) (s0 : Int32) (x : St) (H : Heap) (locs : List Loc) (ls : Array Slot), j_Mod_isMost_65 post rec8 l1 l2 l3 l4 l5 l6 s0 x → Wd dC dI cI cB cJ cZ ad stM kcM 115 A x H → va_S A s.heap H locs → lv_has ls 7 [(0, .ref (ad 0)), (1, .int l1), (2, .int l2), (3, .int l3), (4, .int l4), (5, .int l5), (6, .int l6)] → W p l e R s m args below meth c H locs cells slots Q (F0 m 65 ls [.int s0]) := by
  intro l1 l2 l3 l4 l5 l6 s0 x H locs ls  hw hW hS hl
  unfold j_Mod_isMost_65 at hw
  refine lv_istore (lv' := [(4, .int s0), (0, .ref (ad 0)), (1, .int l1), (2, .int l2), (3, .int l3), (5, .int l5), (6, .int l6)]) hx hb d_Mod_isMost_65 hl (by decide) rfl (fun ls hl => ?_)
  refine lv_iinc (v := (l5 + 1)) (lv' := [(5, .int (l5 + 1)), (4, .int s0), (0, .ref (ad 0)), (1, .int l1), (2, .int l2), (3, .int l3), (6, .int l6)]) hx hb d_Mod_isMost_67 hl (k := 5) rfl rfl (by decide) rfl (fun ls hl => ?_)
  refine lv_goto (tgt := 8) hx hb d_Mod_isMost_70 (by decide) ?_
  exact hrec8 l1 l2 l3 s0 (l5 + 1) x H locs ls  hw hW hS (lv_sub hl [2, 3, 4, 5, 1, 0] rfl)
set_option maxRecDepth 100000 in
set_option maxHeartbeats 4000000 in
set_option maxRecDepth 100000 in
theorem t_Mod_isMost_64 {p : Program} {l : Launch} {e : Env} {R : Room} {s : State} {m : MethodId} {args : Array Value} {below : List Frame} {meth : Method} {c : Code} {cells slots : Nat} {Q : State → Prop} {dC : Nat → ClassId} {dI : Nat → Nat → Nat} {cI cB cJ cZ : ClassId} {A : Nat → Prop} {ad : Nat → Nat} {post : Int32 → St → Prop} {rec8 : Int32 → Int32 → Int32 → Int32 → Int32 → St → Prop} (hx : p.tables.exec = Jvm.exec) (hb : c.code = b_Mod_isMost) (hml : c.maxLocals = 7) (hown : s.vm.findClass R_Mod = some m.cls) (hT : ∀ w ∈ TG, w.before args s = true) (hK : va_K (dC, dI) CL (TY cI cB cJ cZ) s) (hN : NW s) (hA : ∀ q : Nat, s.heap.size ≤ q → A q) (hRc : cells ≤ R.cells) (hRs : slots ≤ R.slots) (hRf : 1 ≤ R.frames) (hRl : 24 ≤ R.locals) (hret : ∀ (r : Int32) (x : St) (H : Heap) (locs : List Loc) (pc : Nat) (ls : Array Slot), decode b_Mod_isMost pc = .ok (.ireturn, 1) → narrow .boolean (.int r) = .int r → post r x → Wd dC dI cI cB cJ cZ ad stM kcM 115 A x H → va_S A s.heap H locs → W p l e R s m args below meth c H locs cells slots Q (F0 m pc ls [.int r])) (hrec8 : ∀ (l1 : Int32) (l2 : Int32) (l3 : Int32) (l4 : Int32) (l5 : Int32) (x : St) (H : Heap) (locs : List Loc) (ls : Array Slot), rec8 l1 l2 l3 l4 l5 x → Wd dC dI cI cB cJ cZ ad stM kcM 115 A x H → va_S A s.heap H locs → lv_has ls 7 [(0, .ref (ad 0)), (1, .int l1), (2, .int l2), (3, .int l3), (4, .int l4), (5, .int l5)] → W p l e R s m args below meth c H locs cells slots Q (F0 m 8 ls [])) : ∀ (l1 : Int32) (l2 : Int32) (l3 : Int32) (l4 : Int32) (l5 : Int32) (l6 : Int32) (x : St) (H : Heap) (locs : List Loc) (ls : Array Slot), j_Mod_isMost_64 post rec8 l1 l2 l3 l4 l5 l6 x → Wd dC dI cI cB cJ cZ ad stM kcM 115 A x H → va_S A s.heap H locs → lv_has ls 7 [(0, .ref (ad 0)), (1, .int l1), (2, .int l2), (3, .int l3), (4, .int l4), (5, .int l5), (6, .int l6)] → W p l e R s m args below meth c H locs cells slots Q (F0 m 64 ls []) := by
  intro l1 l2 l3 l4 l5 l6 x H locs ls  hw hW hS hl
  unfold j_Mod_isMost_64 at hw
  refine lv_iconst (v := 0) hx hb d_Mod_isMost_64 (by decide) ?_
  exact t_Mod_isMost_65 hx hb hml hown hT hK hN hA hRc hRs hRf hRl hret hrec8 l1 l2 l3 l4 l5 l6 0 x H locs ls  hw hW hS (lv_sub hl [0, 1, 2, 3, 4, 5, 6] rfl)
set_option maxRecDepth 100000 in
set_option maxHeartbeats 4000000 in
set_option maxRecDepth 100000 in
theorem t_Mod_isMost_60 {p : Program} {l : Launch} {e : Env} {R : Room} {s : State} {m : MethodId} {args : Array Value} {below : List Frame} {meth : Method} {c : Code} {cells slots : Nat} {Q : State → Prop} {dC : Nat → ClassId} {dI : Nat → Nat → Nat} {cI cB cJ cZ : ClassId} {A : Nat → Prop} {ad : Nat → Nat} {post : Int32 → St → Prop} {rec8 : Int32 → Int32 → Int32 → Int32 → Int32 → St → Prop} (hx : p.tables.exec = Jvm.exec) (hb : c.code = b_Mod_isMost) (hml : c.maxLocals = 7) (hown : s.vm.findClass R_Mod = some m.cls) (hT : ∀ w ∈ TG, w.before args s = true) (hK : va_K (dC, dI) CL (TY cI cB cJ cZ) s) (hN : NW s) (hA : ∀ q : Nat, s.heap.size ≤ q → A q) (hRc : cells ≤ R.cells) (hRs : slots ≤ R.slots) (hRf : 1 ≤ R.frames) (hRl : 24 ≤ R.locals) (hret : ∀ (r : Int32) (x : St) (H : Heap) (locs : List Loc) (pc : Nat) (ls : Array Slot), decode b_Mod_isMost pc = .ok (.ireturn, 1) → narrow .boolean (.int r) = .int r → post r x → Wd dC dI cI cB cJ cZ ad stM kcM 115 A x H → va_S A s.heap H locs → W p l e R s m args below meth c H locs cells slots Q (F0 m pc ls [.int r])) (hrec8 : ∀ (l1 : Int32) (l2 : Int32) (l3 : Int32) (l4 : Int32) (l5 : Int32) (x : St) (H : Heap) (locs : List Loc) (ls : Array Slot), rec8 l1 l2 l3 l4 l5 x → Wd dC dI cI cB cJ cZ ad stM kcM 115 A x H → va_S A s.heap H locs → lv_has ls 7 [(0, .ref (ad 0)), (1, .int l1), (2, .int l2), (3, .int l3), (4, .int l4), (5, .int l5)] → W p l e R s m args below meth c H locs cells slots Q (F0 m 8 ls [])) : ∀ (l1 : Int32) (l2 : Int32) (l3 : Int32) (l4 : Int32) (l5 : Int32) (l6 : Int32) (x : St) (H : Heap) (locs : List Loc) (ls : Array Slot), j_Mod_isMost_60 post rec8 l1 l2 l3 l4 l5 l6 x → Wd dC dI cI cB cJ cZ ad stM kcM 115 A x H → va_S A s.heap H locs → lv_has ls 7 [(0, .ref (ad 0)), (1, .int l1), (2, .int l2), (3, .int l3), (4, .int l4), (5, .int l5), (6, .int l6)] → W p l e R s m args below meth c H locs cells slots Q (F0 m 60 ls []) := by
  intro l1 l2 l3 l4 l5 l6 x H locs ls  hw hW hS hl
  unfold j_Mod_isMost_60 at hw
  refine lv_iconst (v := 1) hx hb d_Mod_isMost_60 (by decide) ?_
  refine lv_goto (tgt := 65) hx hb d_Mod_isMost_61 (by decide) ?_
  exact t_Mod_isMost_65 hx hb hml hown hT hK hN hA hRc hRs hRf hRl hret hrec8 l1 l2 l3 l4 l5 l6 1 x H locs ls  hw hW hS (lv_sub hl [0, 1, 2, 3, 4, 5, 6] rfl)
set_option maxRecDepth 100000 in
set_option maxHeartbeats 4000000 in
set_option maxRecDepth 100000 in
theorem t_Mod_isMost_37 {p : Program} {l : Launch} {e : Env} {R : Room} {s : State} {m : MethodId} {args : Array Value} {below : List Frame} {meth : Method} {c : Code} {cells slots : Nat} {Q : State → Prop} {dC : Nat → ClassId} {dI : Nat → Nat → Nat} {cI cB cJ cZ : ClassId} {A : Nat → Prop} {ad : Nat → Nat} {post : Int32 → St → Prop} {rec8 : Int32 → Int32 → Int32 → Int32 → Int32 → St → Prop} (hx : p.tables.exec = Jvm.exec) (hb : c.code = b_Mod_isMost) (hml : c.maxLocals = 7) (hown : s.vm.findClass R_Mod = some m.cls) (hT : ∀ w ∈ TG, w.before args s = true) (hK : va_K (dC, dI) CL (TY cI cB cJ cZ) s) (hN : NW s) (hA : ∀ q : Nat, s.heap.size ≤ q → A q) (hRc : cells ≤ R.cells) (hRs : slots ≤ R.slots) (hRf : 1 ≤ R.frames) (hRl : 24 ≤ R.locals) (hret : ∀ (r : Int32) (x : St) (H : Heap) (locs : List Loc) (pc : Nat) (ls : Array Slot), decode b_Mod_isMost pc = .ok (.ireturn, 1) → narrow .boolean (.int r) = .int r → post r x → Wd dC dI cI cB cJ cZ ad stM kcM 115 A x H → va_S A s.heap H locs → W p l e R s m args below meth c H locs cells slots Q (F0 m pc ls [.int r])) (hrec8 : ∀ (l1 : Int32) (l2 : Int32) (l3 : Int32) (l4 : Int32) (l5 : Int32) (x : St) (H : Heap) (locs : List Loc) (ls : Array Slot), rec8 l1 l2 l3 l4 l5 x → Wd dC dI cI cB cJ cZ ad stM kcM 115 A x H → va_S A s.heap H locs → lv_has ls 7 [(0, .ref (ad 0)), (1, .int l1), (2, .int l2), (3, .int l3), (4, .int l4), (5, .int l5)] → W p l e R s m args below meth c H locs cells slots Q (F0 m 8 ls [])) : ∀ (l1 : Int32) (l2 : Int32) (l3 : Int32) (l4 : Int32) (l5 : Int32) (l6 : Int32) (s0 : Int32) (x : St) (H : Heap) (locs : List Loc) (ls : Array Slot), j_Mod_isMost_37 post rec8 l1 l2 l3 l4 l5 l6 s0 x → Wd dC dI cI cB cJ cZ ad stM kcM 115 A x H → va_S A s.heap H locs → lv_has ls 7 [(0, .ref (ad 0)), (1, .int l1), (2, .int l2), (3, .int l3), (4, .int l4), (5, .int l5), (6, .int l6)] → W p l e R s m args below meth c H locs cells slots Q (F0 m 37 ls [.int s0]) := by
  intro l1 l2 l3 l4 l5 l6 s0 x H locs ls  hw hW hS hl
  unfold j_Mod_isMost_37 at hw
  refine lv_istore_n (lv' := [(3, .int s0), (0, .ref (ad 0)), (1, .int l1), (2, .int l2), (4, .int l4), (5, .int l5), (6, .int l6)]) hx hb d_Mod_isMost_37 rfl hl (by decide) rfl (fun ls hl => ?_)
  refine lv_iload hx hb d_Mod_isMost_38 (lv_at hl 4 rfl) ?_
  refine lv_if_ne (tgt := 60) hx hb d_Mod_isMost_40 (by decide) (fun c1460 => ?_) (fun c1460 => ?_)
  · have hw := hw.1 c1460
    exact t_Mod_isMost_60 hx hb hml hown hT hK hN hA hRc hRs hRf hRl hret hrec8 l1 l2 s0 l4 l5 l6 x H locs ls  hw hW hS (lv_sub hl [1, 2, 3, 0, 4, 5, 6] rfl)
  · have hw := hw.2 c1460
    refine lv_iload_n hx hb d_Mod_isMost_43 rfl (lv_at hl 3 rfl) ?_
    refine lv_if_ne (tgt := 55) hx hb d_Mod_isMost_44 (by decide) (fun c1461 => ?_) (fun c1461 => ?_)
    · have hw := hw.1 c1461
      refine lv_iload hx hb d_Mod_isMost_55 (lv_at hl 6 rfl) ?_
      refine lv_if_le (tgt := 64) hx hb d_Mod_isMost_57 (by decide) (fun c1462 => ?_) (fun c1462 => ?_)
      · have hw := hw.1 c1462
        exact t_Mod_isMost_64 hx hb hml hown hT hK hN hA hRc hRs hRf hRl hret hrec8 l1 l2 s0 l4 l5 l6 x H locs ls  hw hW hS (lv_sub hl [1, 2, 3, 0, 4, 5, 6] rfl)
      · have hw := hw.2 c1462
        exact t_Mod_isMost_60 hx hb hml hown hT hK hN hA hRc hRs hRf hRl hret hrec8 l1 l2 s0 l4 l5 l6 x H locs ls  hw hW hS (lv_sub hl [1, 2, 3, 0, 4, 5, 6] rfl)
    · have hw := hw.2 c1461
      refine lv_iload hx hb d_Mod_isMost_47 (lv_at hl 6 rfl) ?_
      refine lv_if_ge (tgt := 64) hx hb d_Mod_isMost_49 (by decide) (fun c1463 => ?_) (fun c1463 => ?_)
      · have hw := hw.1 c1463
        exact t_Mod_isMost_64 hx hb hml hown hT hK hN hA hRc hRs hRf hRl hret hrec8 l1 l2 s0 l4 l5 l6 x H locs ls  hw hW hS (lv_sub hl [1, 2, 3, 0, 4, 5, 6] rfl)
      · have hw := hw.2 c1463
        refine lv_goto (tgt := 60) hx hb d_Mod_isMost_52 (by decide) ?_
        exact t_Mod_isMost_60 hx hb hml hown hT hK hN hA hRc hRs hRf hRl hret hrec8 l1 l2 s0 l4 l5 l6 x H locs ls  hw hW hS (lv_sub hl [1, 2, 3, 0, 4, 5, 6] rfl)
set_option maxRecDepth 100000 in
set_option maxHeartbeats 4000000 in
set_option maxRecDepth 100000 in
theorem t_Mod_isMost_32 {p : Program} {l : Launch} {e : Env} {R : Room} {s : State} {m : MethodId} {args : Array Value} {below : List Frame} {meth : Method} {c : Code} {cells slots : Nat} {Q : State → Prop} {dC : Nat → ClassId} {dI : Nat → Nat → Nat} {cI cB cJ cZ : ClassId} {A : Nat → Prop} {ad : Nat → Nat} {post : Int32 → St → Prop} {rec8 : Int32 → Int32 → Int32 → Int32 → Int32 → St → Prop} (hx : p.tables.exec = Jvm.exec) (hb : c.code = b_Mod_isMost) (hml : c.maxLocals = 7) (hown : s.vm.findClass R_Mod = some m.cls) (hT : ∀ w ∈ TG, w.before args s = true) (hK : va_K (dC, dI) CL (TY cI cB cJ cZ) s) (hN : NW s) (hA : ∀ q : Nat, s.heap.size ≤ q → A q) (hRc : cells ≤ R.cells) (hRs : slots ≤ R.slots) (hRf : 1 ≤ R.frames) (hRl : 24 ≤ R.locals) (hret : ∀ (r : Int32) (x : St) (H : Heap) (locs : List Loc) (pc : Nat) (ls : Array Slot), decode b_Mod_isMost pc = .ok (.ireturn, 1) → narrow .boolean (.int r) = .int r → post r x → Wd dC dI cI cB cJ cZ ad stM kcM 115 A x H → va_S A s.heap H locs → W p l e R s m args below meth c H locs cells slots Q (F0 m pc ls [.int r])) (hrec8 : ∀ (l1 : Int32) (l2 : Int32) (l3 : Int32) (l4 : Int32) (l5 : Int32) (x : St) (H : Heap) (locs : List Loc) (ls : Array Slot), rec8 l1 l2 l3 l4 l5 x → Wd dC dI cI cB cJ cZ ad stM kcM 115 A x H → va_S A s.heap H locs → lv_has ls 7 [(0, .ref (ad 0)), (1, .int l1), (2, .int l2), (3, .int l3), (4, .int l4), (5, .int l5)] → W p l e R s m args below meth c H locs cells slots Q (F0 m 8 ls [])) : ∀ (l1 : Int32) (l2 : Int32) (l3 : Int32) (l4 : Int32) (l5 : Int32) (l6 : Int32) (x : St) (H : Heap) (locs : List Loc) (ls : Array Slot), j_Mod_isMost_32 post rec8 l1 l2 l3 l4 l5 l6 x → Wd dC dI cI cB cJ cZ ad stM kcM 115 A x H → va_S A s.heap H locs → lv_has ls 7 [(0, .ref (ad 0)), (1, .int l1), (2, .int l2), (3, .int l3), (4, .int l4), (5, .int l5), (6, .int l6)] → W p l e R s m args below meth c H locs cells slots Q (F0 m 32 ls []) := by
  intro l1 l2 l3 l4 l5 l6 x H locs ls  hw hW hS hl
  unfold j_Mod_isMost_32 at hw
  refine lv_iconst (v := 1) hx hb d_Mod_isMost_32 (by decide) ?_
  refine lv_goto (tgt := 37) hx hb d_Mod_isMost_33 (by decide) ?_
  exact t_Mod_isMost_37 hx hb hml hown hT hK hN hA hRc hRs hRf hRl hret hrec8 l1 l2 l3 l4 l5 l6 1 x H locs ls  hw hW hS (lv_sub hl [0, 1, 2, 3, 4, 5, 6] rfl)
set_option maxRecDepth 100000 in
set_option maxHeartbeats 4000000 in
set_option maxRecDepth 100000 in
theorem t_Mod_isMost_8 {p : Program} {l : Launch} {e : Env} {R : Room} {s : State} {m : MethodId} {args : Array Value} {below : List Frame} {meth : Method} {c : Code} {cells slots : Nat} {Q : State → Prop} {dC : Nat → ClassId} {dI : Nat → Nat → Nat} {cI cB cJ cZ : ClassId} {A : Nat → Prop} {ad : Nat → Nat} {post : Int32 → St → Prop} {rec8 : Int32 → Int32 → Int32 → Int32 → Int32 → St → Prop} (hx : p.tables.exec = Jvm.exec) (hb : c.code = b_Mod_isMost) (hml : c.maxLocals = 7) (hown : s.vm.findClass R_Mod = some m.cls) (hT : ∀ w ∈ TG, w.before args s = true) (hK : va_K (dC, dI) CL (TY cI cB cJ cZ) s) (hN : NW s) (hA : ∀ q : Nat, s.heap.size ≤ q → A q) (hRc : cells ≤ R.cells) (hRs : slots ≤ R.slots) (hRf : 1 ≤ R.frames) (hRl : 24 ≤ R.locals) (hret : ∀ (r : Int32) (x : St) (H : Heap) (locs : List Loc) (pc : Nat) (ls : Array Slot), decode b_Mod_isMost pc = .ok (.ireturn, 1) → narrow .boolean (.int r) = .int r → post r x → Wd dC dI cI cB cJ cZ ad stM kcM 115 A x H → va_S A s.heap H locs → W p l e R s m args below meth c H locs cells slots Q (F0 m pc ls [.int r])) (hrec8 : ∀ (l1 : Int32) (l2 : Int32) (l3 : Int32) (l4 : Int32) (l5 : Int32) (x : St) (H : Heap) (locs : List Loc) (ls : Array Slot), rec8 l1 l2 l3 l4 l5 x → Wd dC dI cI cB cJ cZ ad stM kcM 115 A x H → va_S A s.heap H locs → lv_has ls 7 [(0, .ref (ad 0)), (1, .int l1), (2, .int l2), (3, .int l3), (4, .int l4), (5, .int l5)] → W p l e R s m args below meth c H locs cells slots Q (F0 m 8 ls [])) : ∀ (l1 : Int32) (l2 : Int32) (l3 : Int32) (l4 : Int32) (l5 : Int32) (x : St) (H : Heap) (locs : List Loc) (ls : Array Slot), j_Mod_isMost_8 post rec8 l1 l2 l3 l4 l5 x → Wd dC dI cI cB cJ cZ ad stM kcM 115 A x H → va_S A s.heap H locs → lv_has ls 7 [(0, .ref (ad 0)), (1, .int l1), (2, .int l2), (3, .int l3), (4, .int l4), (5, .int l5)] → W p l e R s m args below meth c H locs cells slots Q (F0 m 8 ls []) := by
  intro l1 l2 l3 l4 l5 x H locs ls  hw hW hS hl
  unfold j_Mod_isMost_8 at hw
  refine lv_iload hx hb d_Mod_isMost_8 (lv_at hl 5 rfl) ?_
  refine lv_iload_n hx hb d_Mod_isMost_10 rfl (lv_at hl 1 rfl) ?_
  refine lv_icmp_ge (tgt := 73) hx hb d_Mod_isMost_11 (by decide) (fun c1464 => ?_) (fun c1464 => ?_)
  · have hw := hw.1 c1464
    refine lv_iload_n hx hb d_Mod_isMost_73 rfl (lv_at hl 3 rfl) ?_
    refine lv_if_eq (tgt := 86) hx hb d_Mod_isMost_74 (by decide) (fun c1465 => ?_) (fun c1465 => ?_)
    · have hw := hw.1 c1465
      exact t_Mod_isMost_86 hx hb hml hown hT hK hN hA hRc hRs hRf hRl hret  l1 l2 l3 l4 l5 x H locs ls  hw hW hS (lv_sub hl [0, 1, 2, 3, 4, 5] rfl)
    · have hw := hw.2 c1465
      refine lv_iload hx hb d_Mod_isMost_77 (lv_at hl 4 rfl) ?_
      refine lv_if_ne (tgt := 86) hx hb d_Mod_isMost_79 (by decide) (fun c1466 => ?_) (fun c1466 => ?_)
      · have hw := hw.1 c1466
        exact t_Mod_isMost_86 hx hb hml hown hT hK hN hA hRc hRs hRf hRl hret  l1 l2 l3 l4 l5 x H locs ls  hw hW hS (lv_sub hl [0, 1, 2, 3, 4, 5] rfl)
      · have hw := hw.2 c1466
        refine lv_iconst (v := 1) hx hb d_Mod_isMost_82 (by decide) ?_
        refine lv_goto (tgt := 87) hx hb d_Mod_isMost_83 (by decide) ?_
        exact hret 1 x H locs 87 ls d_Mod_isMost_87 rfl hw hW hS
  · have hw := hw.2 c1464
    refine lv_aload_n hx hb d_Mod_isMost_14 rfl (lv_at hl 0 rfl) ?_
    refine lv_iload hx hb d_Mod_isMost_15 (lv_at hl 5 rfl) ?_
    refine lv_iload_n hx hb d_Mod_isMost_17 rfl (lv_at hl 2 rfl) ?_
    have hF := hW.free hS hA
    refine va_calli (va_runV (C := R_Mod) (As := [.int l5, .int l2]) (rest := []) ⟨hx, hb, hml, hown, hT⟩ (k_Mod_against l dC dI cI cB cJ cZ ad H.size l5 l2 x  hw) ⟨callB_of 2 hT (gwt_in w_13_18) rfl rfl rfl (hT _ w_1_15) (hT _ w_13_15) (by decide +kernel) ⟨Nat.le_trans (Nat.le_of_ble_eq_true rfl) hRf, Nat.le_trans (Nat.le_of_ble_eq_true rfl) hRl⟩, hT _ w_13_17, hT _ ws_217⟩ ⟨PW.blind, va_recv hK hW.1 (ci := 12) (q0 := 0) rfl (pic_obj ko_0.1 ko_0.2 (by decide)), PW.at _ hW hK hN⟩ rfl rfl hl.1 rfl (lv_room (Nat.le_of_ble_eq_true rfl)) d_Mod_isMost_18 ⟨hRc, hRs⟩) hS (fun q _ h => hF q h) hF (fun r1468 x1467 t H locs ht hvm hw hB hz1 hk1 hS => ?_)
    have hW := Wd.back hB ht hF
    clear hB ht hF hz1 hk1 hvm
    refine lv_istore (lv' := [(6, .int r1468), (0, .ref (ad 0)), (1, .int l1), (2, .int l2), (3, .int l3), (4, .int l4), (5, .int l5)]) hx hb d_Mod_isMost_21 hl (by decide) rfl (fun ls hl => ?_)
    refine lv_iload_n hx hb d_Mod_isMost_23 rfl (lv_at hl 4 rfl) ?_
    refine lv_if_ne (tgt := 32) hx hb d_Mod_isMost_24 (by decide) (fun c1469 => ?_) (fun c1469 => ?_)
    · have hw := hw.1 c1469
      exact t_Mod_isMost_32 hx hb hml hown hT hK hN hA hRc hRs hRf hRl hret hrec8 l1 l2 l3 l4 l5 r1468 x1467 H locs ls  hw hW hS (lv_sub hl [1, 2, 3, 4, 5, 6, 0] rfl)
    · have hw := hw.2 c1469
      refine lv_iload hx hb d_Mod_isMost_27 (lv_at hl 0 rfl) ?_
      refine lv_if_ne (tgt := 36) hx hb d_Mod_isMost_29 (by decide) (fun c1470 => ?_) (fun c1470 => ?_)
      · have hw := hw.1 c1470
        refine lv_iconst (v := 0) hx hb d_Mod_isMost_36 (by decide) ?_
        exact t_Mod_isMost_37 hx hb hml hown hT hK hN hA hRc hRs hRf hRl hret hrec8 l1 l2 l3 l4 l5 r1468 0 x1467 H locs ls  hw hW hS (lv_sub hl [1, 2, 3, 4, 5, 6, 0] rfl)
      · have hw := hw.2 c1470
        exact t_Mod_isMost_32 hx hb hml hown hT hK hN hA hRc hRs hRf hRl hret hrec8 l1 l2 l3 l4 l5 r1468 x1467 H locs ls  hw hW hS (lv_sub hl [1, 2, 3, 4, 5, 6, 0] rfl)
set_option maxHeartbeats 4000000 in
set_option maxRecDepth 100000 in
theorem tl_Mod_isMost_8 {p : Program} {l : Launch} {e : Env} {R : Room} {s : State} {m : MethodId} {args : Array Value} {below : List Frame} {meth : Method} {c : Code} {cells slots : Nat} {Q : State → Prop} {dC : Nat → ClassId} {dI : Nat → Nat → Nat} {cI cB cJ cZ : ClassId} {A : Nat → Prop} {ad : Nat → Nat} {post : Int32 → St → Prop} (hx : p.tables.exec = Jvm.exec) (hb : c.code = b_Mod_isMost) (hml : c.maxLocals = 7) (hown : s.vm.findClass R_Mod = some m.cls) (hT : ∀ w ∈ TG, w.before args s = true) (hK : va_K (dC, dI) CL (TY cI cB cJ cZ) s) (hN : NW s) (hA : ∀ q : Nat, s.heap.size ≤ q → A q) (hRc : cells ≤ R.cells) (hRs : slots ≤ R.slots) (hRf : 1 ≤ R.frames) (hRl : 24 ≤ R.locals) (hret : ∀ (r : Int32) (x : St) (H : Heap) (locs : List Loc) (pc : Nat) (ls : Array Slot), decode b_Mod_isMost pc = .ok (.ireturn, 1) → narrow .boolean (.int r) = .int r → post r x → Wd dC dI cI cB cJ cZ ad stM kcM 115 A x H → va_S A s.heap H locs → W p l e R s m args below meth c H locs cells slots Q (F0 m pc ls [.int r]))  : ∀ n : Nat, ∀ (l1 : Int32) (l2 : Int32) (l3 : Int32) (l4 : Int32) (l5 : Int32) (x : St) (H : Heap) (locs : List Loc) (ls : Array Slot), wl_Mod_isMost_8 post n l1 l2 l3 l4 l5 x → Wd dC dI cI cB cJ cZ ad stM kcM 115 A x H → va_S A s.heap H locs → lv_has ls 7 [(0, .ref (ad 0)), (1, .int l1), (2, .int l2), (3, .int l3), (4, .int l4), (5, .int l5)] → W p l e R s m args below meth c H locs cells slots Q (F0 m 8 ls []) := by
  intro n
  induction n with
  | zero => intro l1 l2 l3 l4 l5 x H locs ls  hw; exact hw.elim
  | succ n ih => intro l1 l2 l3 l4 l5 x H locs ls  hw hW hS hl; exact t_Mod_isMost_8 hx hb hml hown hT hK hN hA hRc hRs hRf hRl hret  ih l1 l2 l3 l4 l5 x H locs ls  hw hW hS hl
set_option maxRecDepth 100000 in
set_option maxHeartbeats 4000000 in
set_option maxRecDepth 100000 in
theorem t_Mod_isMost_e {p : Program} {l : Launch} {e : Env} {R : Room} {s : State} {m : MethodId} {args : Array Value} {below : List Frame} {meth : Method} {c : Code} {cells slots : Nat} {Q : State → Prop} {dC : Nat → ClassId} {dI : Nat → Nat → Nat} {cI cB cJ cZ : ClassId} {A : Nat → Prop} {ad : Nat → Nat} {post : Int32 → St → Prop} (hx : p.tables.exec = Jvm.exec) (hb : c.code = b_Mod_isMost) (hml : c.maxLocals = 7) (hown : s.vm.findClass R_Mod = some m.cls) (hT : ∀ w ∈ TG, w.before args s = true) (hK : va_K (dC, dI) CL (TY cI cB cJ cZ) s) (hN : NW s) (hA : ∀ q : Nat, s.heap.size ≤ q → A q) (hRc : cells ≤ R.cells) (hRs : slots ≤ R.slots) (hRf : 1 ≤ R.frames) (hRl : 24 ≤ R.locals) (hret : ∀ (r : Int32) (x : St) (H : Heap) (locs : List Loc) (pc : Nat) (ls : Array Slot), decode b_Mod_isMost pc = .ok (.ireturn, 1) → narrow .boolean (.int r) = .int r → post r x → Wd dC dI cI cB cJ cZ ad stM kcM 115 A x H → va_S A s.heap H locs → W p l e R s m args below meth c H locs cells slots Q (F0 m pc ls [.int r])) : ∀ (l1 : Int32) (l2 : Int32) (x : St) (H : Heap) (locs : List Loc) (ls : Array Slot), wp_Mod_isMost post l1 l2 x → Wd dC dI cI cB cJ cZ ad stM kcM 115 A x H → va_S A s.heap H locs → lv_has ls 7 [(0, .ref (ad 0)), (1, .int l1), (2, .int l2)] → W p l e R s m args below meth c H locs cells slots Q (F0 m 0 ls []) := by
  intro l1 l2 x H locs ls  hw hW hS hl
  unfold wp_Mod_isMost at hw
  refine lv_iconst (v := 0) hx hb d_Mod_isMost_0 (by decide) ?_
  refine lv_istore_n (lv' := [(3, .int 0), (0, .ref (ad 0)), (1, .int l1), (2, .int l2)]) hx hb d_Mod_isMost_1 rfl hl (by decide) rfl (fun ls hl => ?_)
  refine lv_iconst (v := 0) hx hb d_Mod_isMost_2 (by decide) ?_
  refine lv_istore (lv' := [(4, .int 0), (3, .int 0), (0, .ref (ad 0)), (1, .int l1), (2, .int l2)]) hx hb d_Mod_isMost_3 hl (by decide) rfl (fun ls hl => ?_)
  refine lv_iconst (v := 0) hx hb d_Mod_isMost_5 (by decide) ?_
  refine lv_istore (lv' := [(5, .int 0), (4, .int 0), (3, .int 0), (0, .ref (ad 0)), (1, .int l1), (2, .int l2)]) hx hb d_Mod_isMost_6 hl (by decide) rfl (fun ls hl => ?_)
  obtain ⟨n, hw⟩ := hw
  exact tl_Mod_isMost_8 hx hb hml hown hT hK hN hA hRc hRs hRf hRl hret  n l1 l2 0 0 0 x H locs ls  hw hW hS (lv_sub hl [3, 4, 5, 2, 1, 0] rfl)
set_option maxHeartbeats 4000000 in
set_option maxRecDepth 100000 in
theorem k_Mod_isMost (l : Launch) (dC : Nat → ClassId) (dI : Nat → Nat → Nat) (cI cB cJ cZ : ClassId) (ad : Nat → Nat) (sz : Nat) (l1 : Int32) (l2 : Int32) (x : St) {post : Int32 → St → Prop} (hw : wp_Mod_isMost post l1 l2 x) : Met l y_Mod_isMost (wsOf y_Mod_isMost b_Mod_isMost 7 (some (.boolean))) ({ frames := 1, cells := 0, slots := 0, locals := 24 }) (va_Pc [.ref (ad 0), .int l1, .int l2] (PW dC dI cI cB cJ cZ ad stM kcM 115 sz x)) (va_Qi (fun (r : Int32) (y : St) => post r y) (fun y t => Wd dC dI cI cB cJ cZ ad stM kcM 115 (va_A (pic ad stM kcM 115 cI cB cJ cZ x) sz) y t.heap) (va_A (pic ad stM kcM 115 cI cB cJ cZ x) sz)) 0 0 (va_A (pic ad stM kcM 115 cI cB cJ cZ x) sz) := by
  refine Met.ofW (cc := b_Mod_isMost) (maxL := 7) (ret := some (.boolean)) (by decide) rfl ?_
  intro p e s m args below meth c s₁ B hml hv
  obtain ⟨rfl, hsz, hW0, hK, hN⟩ := hv
  have hx := B.exec
  have hb := B.bytes
  have hr := B.returns
  have hts := atoms_spec B.pre
  have hT : ∀ w ∈ TG, w.before _ s = true := fun w h => hts w (List.mem_cons_of_mem _ h)
  have hown : s.vm.findClass R_Mod = some m.cls := findClass_of_methodNamed B.named
  have hlocks := B.notSynchronized
  subst hsz
  have hW : Wd dC dI cI cB cJ cZ ad stM kcM 115 (va_A (pic ad stM kcM 115 cI cB cJ cZ x) s.heap.size) x s.heap := ⟨hW0.1, hW0.2.1.self (sz := s.heap.size), hW0.2.2⟩
  generalize hAe : va_A (pic ad stM kcM 115 cI cB cJ cZ x) s.heap.size = A at hW ⊢
  have hA : ∀ q : Nat, s.heap.size ≤ q → A q := fun q h => by rw [← hAe]; exact Or.inr h
  have hS : va_S A s.heap s.heap [] := va_S.rf
  have hl := lv_entry ([.ref (ad 0), .int l1, .int l2]) (n := 7) (Nat.le_of_ble_eq_true rfl)
  rw [lg_entry_eq]
  generalize (lg_sl ([.ref (ad 0), .int l1, .int l2]) ++ List.replicate (7 - (lg_sl ([.ref (ad 0), .int l1, .int l2])).length) Slot.unset).toArray = ls at hl ⊢
  have hl : lv_has ls 7 [(0, .ref (ad 0)), (1, .int l1), (2, .int l2)] := hl
  exact t_Mod_isMost_e hx hb hml hown hT hK hN hA (Nat.le_refl 0) (Nat.le_refl 0) (Nat.le_refl 1) (Nat.le_refl 24) (fun r x H locs pc ls hd hz hp hW hS => W.zret (v := r) (ty := .boolean) hx hb hr hz (fun t ht hM => ⟨⟨r, x, rfl, hp, Wd.back hW ht.symm (fun _ z => z)⟩, hS.F ht⟩) hS.2.2 hd hlocks)  l1 l2 x _ _ ls  hw hW hS hl
set_option maxRecDepth 100000 in
set_option maxHeartbeats 4000000 in
set_option maxRecDepth 100000 in
theorem t_Mod_readBody_184 {p : Program} {l : Launch} {e : Env} {R : Room} {s : State} {m : MethodId} {args : Array Value} {below : List Frame} {meth : Method} {c : Code} {cells slots : Nat} {Q : State → Prop} {dC : Nat → ClassId} {dI : Nat → Nat → Nat} {cI cB cJ cZ : ClassId} {A : Nat → Prop} {ad : Nat → Nat} {post : St → Prop} (hx : p.tables.exec = Jvm.exec) (hb : c.code = b_Mod_readBody) (hml : c.maxLocals = 6) (hown : s.vm.findClass R_Mod = some m.cls) (hT : ∀ w ∈ TG, w.before args s = true) (hK : va_K (dC, dI) CL (TY cI cB cJ cZ) s) (hN : NW s) (hA : ∀ q : Nat, s.heap.size ≤ q → A q) (hRc : cells ≤ R.cells) (hRs : slots ≤ R.slots) (hRf : 6 ≤ R.frames) (hRl : 150 ≤ R.locals) (hret : ∀ (x : St) (H : Heap) (locs : List Loc) (pc : Nat) (ls : Array Slot), decode b_Mod_readBody pc = .ok (.return_, 1) → post x → Wd dC dI cI cB cJ cZ ad stM kcM 115 A x H → va_S A s.heap H locs → W p l e R s m args below meth c H locs cells slots Q (F0 m pc ls []))  : ∀ (l1 : Int32) (l2 : Int32) (l3 : Int32) (l4 : Int32) (l5 : Int32) (x : St) (H : Heap) (locs : List Loc) (ls : Array Slot), j_Mod_readBody_184 post l1 l2 l3 l4 l5 x → Wd dC dI cI cB cJ cZ ad stM kcM 115 A x H → va_S A s.heap H locs → lv_has ls 6 [(0, .ref (ad 0)), (1, .int l1), (2, .int l2), (3, .int l3), (4, .int l4), (5, .int l5)] → W p l e R s m args below meth c H locs cells slots Q (F0 m 184 ls []) := by
  intro l1 l2 l3 l4 l5 x H locs ls  hw hW hS hl
  unfold j_Mod_readBody_184 at hw
  refine lv_aload_n hx hb d_Mod_readBody_184 rfl (lv_at hl 0 rfl) ?_
  refine w_geti (k := 69) (t := 12) (C := R_Mod) (T := F_Mod) (N := 167) hx hb hT hown hK hW ko_0.1 ko_0.2 (by decide) in_Mod rfl rfl (by decide) rfl fr_Mod_69 w_9_5 d_Mod_readBody_185 ?_
  refine lv_if_ne (tgt := 210) hx hb d_Mod_readBody_188 (by decide) (fun c1471 => ?_) (fun c1471 => ?_)
  · have hw := hw.1 c1471
    exact hret x H locs 210 ls d_Mod_readBody_210 hw hW hS
  · have hw := hw.2 c1471
    refine lv_iload_n hx hb d_Mod_readBody_191 rfl (lv_at hl 2 rfl) ?_
    refine lv_if_le (tgt := 210) hx hb d_Mod_readBody_192 (by decide) (fun c1472 => ?_) (fun c1472 => ?_)
    · have hw := hw.1 c1472
      exact hret x H locs 210 ls d_Mod_readBody_210 hw hW hS
    · have hw := hw.2 c1472
      refine lv_aload_n hx hb d_Mod_readBody_195 rfl (lv_at hl 0 rfl) ?_
      refine lv_iload_n hx hb d_Mod_readBody_196 rfl (lv_at hl 2 rfl) ?_
      refine lv_iconst (v := 1) hx hb d_Mod_readBody_197 (by decide) ?_
      have hF := hW.free hS hA
      refine va_calli (va_runV (C := R_Mod) (As := [.int l2, .int 1]) (rest := []) ⟨hx, hb, hml, hown, hT⟩ (k_Mod_isMost l dC dI cI cB cJ cZ ad H.size l2 1 x  hw) ⟨callB_of 2 hT (gwt_in w_13_14) rfl rfl rfl (hT _ w_1_15) (hT _ w_13_11) (by decide +kernel) ⟨Nat.le_trans (Nat.le_of_ble_eq_true rfl) hRf, Nat.le_trans (Nat.le_of_ble_eq_true rfl) hRl⟩, hT _ w_13_13, hT _ ws_216⟩ ⟨PW.blind, va_recv hK hW.1 (ci := 12) (q0 := 0) rfl (pic_obj ko_0.1 ko_0.2 (by decide)), PW.at _ hW hK hN⟩ rfl rfl hl.1 rfl (lv_room (Nat.le_of_ble_eq_true rfl)) d_Mod_readBody_198 ⟨hRc, hRs⟩) hS (fun q _ h => hF q h) hF (fun r1474 x1473 t H locs ht hvm hw hB hz1 hk1 hS => ?_)
      have hW := Wd.back hB ht hF
      clear hB ht hF hz1 hk1 hvm
      refine lv_if_ne (tgt := 210) hx hb d_Mod_readBody_201 (by decide) (fun c1475 => ?_) (fun c1475 => ?_)
      · have hw := hw.1 c1475
        exact hret x1473 H locs 210 ls d_Mod_readBody_210 hw hW hS
      · have hw := hw.2 c1475
        refine lv_aload_n hx hb d_Mod_readBody_204 rfl (lv_at hl 0 rfl) ?_
        refine lv_bipush (v := 12) hx hb d_Mod_readBody_205 (by decide) ?_
        refine w_puti (ty := .int) (k := 69) (t := 12) (C := R_Mod) (T := F_Mod) (N := 167) hx hb hT hown hK hW hS ko_0.1 ko_0.2 (by decide) in_Mod t_Mod t_Mod_ok n_Mod rfl rfl (by decide) rfl fr_Mod_69 w_9_5 (by decide +kernel) rfl rfl d_Mod_readBody_207 (fun H locs hW hS => ?_)
        obtain ⟨x1476, ex1476⟩ : ∃ y : St, y = setI x1473 0 69 12 := ⟨_, rfl⟩
        rw [← ex1476] at hW
        have hw := hw x1476 ex1476
        exact hret x1476 H locs 210 ls d_Mod_readBody_210 hw hW hS
set_option maxRecDepth 100000 in
set_option maxHeartbeats 4000000 in
set_option maxRecDepth 100000 in
theorem t_Mod_readBody_158 {p : Program} {l : Launch} {e : Env} {R : Room} {s : State} {m : MethodId} {args : Array Value} {below : List Frame} {meth : Method} {c : Code} {cells slots : Nat} {Q : State → Prop} {dC : Nat → ClassId} {dI : Nat → Nat → Nat} {cI cB cJ cZ : ClassId} {A : Nat → Prop} {ad : Nat → Nat} {post : St → Prop} (hx : p.tables.exec = Jvm.exec) (hb : c.code = b_Mod_readBody) (hml : c.maxLocals = 6) (hown : s.vm.findClass R_Mod = some m.cls) (hT : ∀ w ∈ TG, w.before args s = true) (hK : va_K (dC, dI) CL (TY cI cB cJ cZ) s) (hN : NW s) (hA : ∀ q : Nat, s.heap.size ≤ q → A q) (hRc : cells ≤ R.cells) (hRs : slots ≤ R.slots) (hRf : 6 ≤ R.frames) (hRl : 150 ≤ R.locals) (hret : ∀ (x : St) (H : Heap) (locs : List Loc) (pc : Nat) (ls : Array Slot), decode b_Mod_readBody pc = .ok (.return_, 1) → post x → Wd dC dI cI cB cJ cZ ad stM kcM 115 A x H → va_S A s.heap H locs → W p l e R s m args below meth c H locs cells slots Q (F0 m pc ls []))  : ∀ (l1 : Int32) (l2 : Int32) (l3 : Int32) (l4 : Int32) (l5 : Int32) (x : St) (H : Heap) (locs : List Loc) (ls : Array Slot), j_Mod_readBody_158 post l1 l2 l3 l4 l5 x → Wd dC dI cI cB cJ cZ ad stM kcM 115 A x H → va_S A s.heap H locs → lv_has ls 6 [(0, .ref (ad 0)), (1, .int l1), (2, .int l2), (3, .int l3), (4, .int l4), (5, .int l5)] → W p l e R s m args below meth c H locs cells slots Q (F0 m 158 ls []) := by
  intro l1 l2 l3 l4 l5 x H locs ls  hw hW hS hl
  unfold j_Mod_readBody_158 at hw
  refine lv_aload_n hx hb d_Mod_readBody_158 rfl (lv_at hl 0 rfl) ?_
  refine w_geti (k := 69) (t := 12) (C := R_Mod) (T := F_Mod) (N := 167) hx hb hT hown hK hW ko_0.1 ko_0.2 (by decide) in_Mod rfl rfl (by decide) rfl fr_Mod_69 w_9_5 d_Mod_readBody_159 ?_
  refine lv_if_ne (tgt := 184) hx hb d_Mod_readBody_162 (by decide) (fun c1477 => ?_) (fun c1477 => ?_)
  · have hw := hw.1 c1477
    exact t_Mod_readBody_184 hx hb hml hown hT hK hN hA hRc hRs hRf hRl hret  l1 l2 l3 l4 l5 x H locs ls  hw hW hS (lv_sub hl [0, 1, 2, 3, 4, 5] rfl)
  · have hw := hw.2 c1477
    refine lv_iload_n hx hb d_Mod_readBody_165 rfl (lv_at hl 2 rfl) ?_
    refine lv_if_le (tgt := 184) hx hb d_Mod_readBody_166 (by decide) (fun c1478 => ?_) (fun c1478 => ?_)
    · have hw := hw.1 c1478
      exact t_Mod_readBody_184 hx hb hml hown hT hK hN hA hRc hRs hRf hRl hret  l1 l2 l3 l4 l5 x H locs ls  hw hW hS (lv_sub hl [0, 1, 2, 3, 4, 5] rfl)
    · have hw := hw.2 c1478
      refine lv_aload_n hx hb d_Mod_readBody_169 rfl (lv_at hl 0 rfl) ?_
      refine lv_iload_n hx hb d_Mod_readBody_170 rfl (lv_at hl 2 rfl) ?_
      refine lv_iconst (v := 0) hx hb d_Mod_readBody_171 (by decide) ?_
      have hF := hW.free hS hA
      refine va_calli (va_runV (C := R_Mod) (As := [.int l2, .int 0]) (rest := []) ⟨hx, hb, hml, hown, hT⟩ (k_Mod_isMost l dC dI cI cB cJ cZ ad H.size l2 0 x  hw) ⟨callB_of 2 hT (gwt_in w_13_14) rfl rfl rfl (hT _ w_1_15) (hT _ w_13_11) (by decide +kernel) ⟨Nat.le_trans (Nat.le_of_ble_eq_true rfl) hRf, Nat.le_trans (Nat.le_of_ble_eq_true rfl) hRl⟩, hT _ w_13_13, hT _ ws_216⟩ ⟨PW.blind, va_recv hK hW.1 (ci := 12) (q0 := 0) rfl (pic_obj ko_0.1 ko_0.2 (by decide)), PW.at _ hW hK hN⟩ rfl rfl hl.1 rfl (lv_room (Nat.le_of_ble_eq_true rfl)) d_Mod_readBody_172 ⟨hRc, hRs⟩) hS (fun q _ h => hF q h) hF (fun r1480 x1479 t H locs ht hvm hw hB hz1 hk1 hS => ?_)
      have hW := Wd.back hB ht hF
      clear hB ht hF hz1 hk1 hvm
      refine lv_if_ne (tgt := 184) hx hb d_Mod_readBody_175 (by decide) (fun c1481 => ?_) (fun c1481 => ?_)
      · have hw := hw.1 c1481
        exact t_Mod_readBody_184 hx hb hml hown hT hK hN hA hRc hRs hRf hRl hret  l1 l2 l3 l4 l5 x1479 H locs ls  hw hW hS (lv_sub hl [0, 1, 2, 3, 4, 5] rfl)
      · have hw := hw.2 c1481
        refine lv_aload_n hx hb d_Mod_readBody_178 rfl (lv_at hl 0 rfl) ?_
        refine lv_bipush (v := 11) hx hb d_Mod_readBody_179 (by decide) ?_
        refine w_puti (ty := .int) (k := 69) (t := 12) (C := R_Mod) (T := F_Mod) (N := 167) hx hb hT hown hK hW hS ko_0.1 ko_0.2 (by decide) in_Mod t_Mod t_Mod_ok n_Mod rfl rfl (by decide) rfl fr_Mod_69 w_9_5 (by decide +kernel) rfl rfl d_Mod_readBody_181 (fun H locs hW hS => ?_)
        obtain ⟨x1482, ex1482⟩ : ∃ y : St, y = setI x1479 0 69 11 := ⟨_, rfl⟩
        rw [← ex1482] at hW
        have hw := hw x1482 ex1482
        exact t_Mod_readBody_184 hx hb hml hown hT hK hN hA hRc hRs hRf hRl hret  l1 l2 l3 l4 l5 x1482 H locs ls  hw hW hS (lv_sub hl [0, 1, 2, 3, 4, 5] rfl)
set_option maxRecDepth 100000 in
set_option maxHeartbeats 4000000 in
set_option maxRecDepth 100000 in
theorem t_Mod_readBody_134 {p : Program} {l : Launch} {e : Env} {R : Room} {s : State} {m : MethodId} {args : Array Value} {below : List Frame} {meth : Method} {c : Code} {cells slots : Nat} {Q : State → Prop} {dC : Nat → ClassId} {dI : Nat → Nat → Nat} {cI cB cJ cZ : ClassId} {A : Nat → Prop} {ad : Nat → Nat} {post : St → Prop} (hx : p.tables.exec = Jvm.exec) (hb : c.code = b_Mod_readBody) (hml : c.maxLocals = 6) (hown : s.vm.findClass R_Mod = some m.cls) (hT : ∀ w ∈ TG, w.before args s = true) (hK : va_K (dC, dI) CL (TY cI cB cJ cZ) s) (hN : NW s) (hA : ∀ q : Nat, s.heap.size ≤ q → A q) (hRc : cells ≤ R.cells) (hRs : slots ≤ R.slots) (hRf : 6 ≤ R.frames) (hRl : 150 ≤ R.locals) (hret : ∀ (x : St) (H : Heap) (locs : List Loc) (pc : Nat) (ls : Array Slot), decode b_Mod_readBody pc = .ok (.return_, 1) → post x → Wd dC dI cI cB cJ cZ ad stM kcM 115 A x H → va_S A s.heap H locs → W p l e R s m args below meth c H locs cells slots Q (F0 m pc ls []))  : ∀ (l1 : Int32) (l2 : Int32) (l3 : Int32) (l4 : Int32) (l5 : Int32) (x : St) (H : Heap) (locs : List Loc) (ls : Array Slot), j_Mod_readBody_134 post l1 l2 l3 l4 l5 x → Wd dC dI cI cB cJ cZ ad stM kcM 115 A x H → va_S A s.heap H locs → lv_has ls 6 [(0, .ref (ad 0)), (1, .int l1), (2, .int l2), (3, .int l3), (4, .int l4), (5, .int l5)] → W p l e R s m args below meth c H locs cells slots Q (F0 m 134 ls []) := by
  intro l1 l2 l3 l4 l5 x H locs ls  hw hW hS hl
  unfold j_Mod_readBody_134 at hw
  refine lv_aload_n hx hb d_Mod_readBody_134 rfl (lv_at hl 0 rfl) ?_
  refine w_geti (k := 69) (t := 12) (C := R_Mod) (T := F_Mod) (N := 167) hx hb hT hown hK hW ko_0.1 ko_0.2 (by decide) in_Mod rfl rfl (by decide) rfl fr_Mod_69 w_9_5 d_Mod_readBody_135 ?_
  refine lv_if_ne (tgt := 158) hx hb d_Mod_readBody_138 (by decide) (fun c1483 => ?_) (fun c1483 => ?_)
  · have hw := hw.1 c1483
    exact t_Mod_readBody_158 hx hb hml hown hT hK hN hA hRc hRs hRf hRl hret  l1 l2 l3 l4 l5 x H locs ls  hw hW hS (lv_sub hl [0, 1, 2, 3, 4, 5] rfl)
  · have hw := hw.2 c1483
    refine lv_aload_n hx hb d_Mod_readBody_141 rfl (lv_at hl 0 rfl) ?_
    refine w_geti (k := 67) (t := 12) (C := R_Mod) (T := F_Mod) (N := 167) hx hb hT hown hK hW ko_0.1 ko_0.2 (by decide) in_Mod rfl rfl (by decide) rfl fr_Mod_67 w_9_3 d_Mod_readBody_142 ?_
    refine lv_aload_n hx hb d_Mod_readBody_145 rfl (lv_at hl 0 rfl) ?_
    refine w_geti (k := 68) (t := 12) (C := R_Mod) (T := F_Mod) (N := 167) hx hb hT hown hK hW ko_0.1 ko_0.2 (by decide) in_Mod rfl rfl (by decide) rfl fr_Mod_68 w_9_4 d_Mod_readBody_146 ?_
    refine lv_icmp_ge (tgt := 158) hx hb d_Mod_readBody_149 (by decide) (fun c1484 => ?_) (fun c1484 => ?_)
    · have hw := hw.1 c1484
      exact t_Mod_readBody_158 hx hb hml hown hT hK hN hA hRc hRs hRf hRl hret  l1 l2 l3 l4 l5 x H locs ls  hw hW hS (lv_sub hl [0, 1, 2, 3, 4, 5] rfl)
    · have hw := hw.2 c1484
      refine lv_aload_n hx hb d_Mod_readBody_152 rfl (lv_at hl 0 rfl) ?_
      refine lv_bipush (v := 6) hx hb d_Mod_readBody_153 (by decide) ?_
      refine w_puti (ty := .int) (k := 69) (t := 12) (C := R_Mod) (T := F_Mod) (N := 167) hx hb hT hown hK hW hS ko_0.1 ko_0.2 (by decide) in_Mod t_Mod t_Mod_ok n_Mod rfl rfl (by decide) rfl fr_Mod_69 w_9_5 (by decide +kernel) rfl rfl d_Mod_readBody_155 (fun H locs hW hS => ?_)
      obtain ⟨x1485, ex1485⟩ : ∃ y : St, y = setI x 0 69 6 := ⟨_, rfl⟩
      rw [← ex1485] at hW
      have hw := hw x1485 ex1485
      exact t_Mod_readBody_158 hx hb hml hown hT hK hN hA hRc hRs hRf hRl hret  l1 l2 l3 l4 l5 x1485 H locs ls  hw hW hS (lv_sub hl [0, 1, 2, 3, 4, 5] rfl)
set_option maxRecDepth 100000 in
set_option maxHeartbeats 4000000 in
set_option maxRecDepth 100000 in
theorem t_Mod_readBody_87 {p : Program} {l : Launch} {e : Env} {R : Room} {s : State} {m : MethodId} {args : Array Value} {below : List Frame} {meth : Method} {c : Code} {cells slots : Nat} {Q : State → Prop} {dC : Nat → ClassId} {dI : Nat → Nat → Nat} {cI cB cJ cZ : ClassId} {A : Nat → Prop} {ad : Nat → Nat} {post : St → Prop} (hx : p.tables.exec = Jvm.exec) (hb : c.code = b_Mod_readBody) (hml : c.maxLocals = 6) (hown : s.vm.findClass R_Mod = some m.cls) (hT : ∀ w ∈ TG, w.before args s = true) (hK : va_K (dC, dI) CL (TY cI cB cJ cZ) s) (hN : NW s) (hA : ∀ q : Nat, s.heap.size ≤ q → A q) (hRc : cells ≤ R.cells) (hRs : slots ≤ R.slots) (hRf : 6 ≤ R.frames) (hRl : 150 ≤ R.locals) (hret : ∀ (x : St) (H : Heap) (locs : List Loc) (pc : Nat) (ls : Array Slot), decode b_Mod_readBody pc = .ok (.return_, 1) → post x → Wd dC dI cI cB cJ cZ ad stM kcM 115 A x H → va_S A s.heap H locs → W p l e R s m args below meth c H locs cells slots Q (F0 m pc ls []))  : ∀ (l1 : Int32) (l2 : Int32) (l3 : Int32) (l4 : Int32) (l5 : Int32) (x : St) (H : Heap) (locs : List Loc) (ls : Array Slot), j_Mod_readBody_87 post l1 l2 l3 l4 l5 x → Wd dC dI cI cB cJ cZ ad stM kcM 115 A x H → va_S A s.heap H locs → lv_has ls 6 [(0, .ref (ad 0)), (1, .int l1), (2, .int l2), (3, .int l3), (4, .int l4), (5, .int l5)] → W p l e R s m args below meth c H locs cells slots Q (F0 m 87 ls []) := by
  intro l1 l2 l3 l4 l5 x H locs ls  hw hW hS hl
  unfold j_Mod_readBody_87 at hw
  refine lv_aload_n hx hb d_Mod_readBody_87 rfl (lv_at hl 0 rfl) ?_
  refine w_geti (k := 69) (t := 12) (C := R_Mod) (T := F_Mod) (N := 167) hx hb hT hown hK hW ko_0.1 ko_0.2 (by decide) in_Mod rfl rfl (by decide) rfl fr_Mod_69 w_9_5 d_Mod_readBody_88 ?_
  refine lv_if_eq (tgt := 95) hx hb d_Mod_readBody_91 (by decide) (fun c1486 => ?_) (fun c1486 => ?_)
  · have hw := hw.1 c1486
    refine lv_aload_n hx hb d_Mod_readBody_95 rfl (lv_at hl 0 rfl) ?_
    refine w_geti (k := 38) (t := 12) (C := R_Mod) (T := F_Mod) (N := 167) hx hb hT hown hK hW ko_0.1 ko_0.2 (by decide) in_Mod rfl rfl (by decide) rfl fr_Mod_38 w_8_214 d_Mod_readBody_96 ?_
    refine lv_if_ne (tgt := 111) hx hb d_Mod_readBody_99 (by decide) (fun c1487 => ?_) (fun c1487 => ?_)
    · have hw := hw.1 c1487
      refine lv_aload_n hx hb d_Mod_readBody_111 rfl (lv_at hl 0 rfl) ?_
      refine w_geti (k := 38) (t := 12) (C := R_Mod) (T := F_Mod) (N := 167) hx hb hT hown hK hW ko_0.1 ko_0.2 (by decide) in_Mod rfl rfl (by decide) rfl fr_Mod_38 w_8_214 d_Mod_readBody_112 ?_
      refine lv_iconst (v := 3) hx hb d_Mod_readBody_115 (by decide) ?_
      refine lv_icmp_ne (tgt := 128) hx hb d_Mod_readBody_116 (by decide) (fun c1488 => ?_) (fun c1488 => ?_)
      · have hw := hw.1 c1488
        refine lv_aload_n hx hb d_Mod_readBody_128 rfl (lv_at hl 0 rfl) ?_
        refine lv_iload_n hx hb d_Mod_readBody_129 rfl (lv_at hl 3 rfl) ?_
        refine lv_iload_n hx hb d_Mod_readBody_130 rfl (lv_at hl 2 rfl) ?_
        have hF := hW.free hS hA
        refine va_callv (va_runV (C := R_Mod) (As := [.int l3, .int l2]) (rest := []) ⟨hx, hb, hml, hown, hT⟩ (k_Mod_readWholes l dC dI cI cB cJ cZ ad H.size l3 l2 x  hw) ⟨callB_of 2 hT (gwt_in w_13_2) rfl rfl rfl (hT _ w_1_15) (hT _ w_12_239) (by decide +kernel) ⟨Nat.le_trans (Nat.le_of_ble_eq_true rfl) hRf, Nat.le_trans (Nat.le_of_ble_eq_true rfl) hRl⟩, hT _ w_13_1, hT _ ws_213⟩ ⟨PW.blind, va_recv hK hW.1 (ci := 12) (q0 := 0) rfl (pic_obj ko_0.1 ko_0.2 (by decide)), PW.at _ hW hK hN⟩ rfl rfl hl.1 rfl (lv_room (Nat.le_of_ble_eq_true rfl)) d_Mod_readBody_131 ⟨hRc, hRs⟩) hS (fun q _ h => hF q h) hF (fun  x1489 t H locs ht hvm hw hB hz1 hk1 hS => ?_)
        have hW := Wd.back hB ht hF
        clear hB ht hF hz1 hk1 hvm
        exact t_Mod_readBody_134 hx hb hml hown hT hK hN hA hRc hRs hRf hRl hret  l1 l2 l3 l4 l5 x1489 H locs ls  hw hW hS (lv_sub hl [0, 1, 2, 3, 4, 5] rfl)
      · have hw := hw.2 c1488
        refine lv_aload_n hx hb d_Mod_readBody_119 rfl (lv_at hl 0 rfl) ?_
        refine lv_iload_n hx hb d_Mod_readBody_120 rfl (lv_at hl 3 rfl) ?_
        refine lv_iload_n hx hb d_Mod_readBody_121 rfl (lv_at hl 2 rfl) ?_
        have hF := hW.free hS hA
        refine va_callv (va_runV (C := R_Mod) (As := [.int l3, .int l2]) (rest := []) ⟨hx, hb, hml, hown, hT⟩ (k_Mod_readTexts l dC dI cI cB cJ cZ ad H.size l3 l2 x  hw) ⟨callB_of 2 hT (gwt_in w_12_202) rfl rfl rfl (hT _ w_1_15) (hT _ w_12_199) (by decide +kernel) ⟨Nat.le_trans (Nat.le_of_ble_eq_true rfl) hRf, Nat.le_trans (Nat.le_of_ble_eq_true rfl) hRl⟩, hT _ w_12_201, hT _ ws_204⟩ ⟨PW.blind, va_recv hK hW.1 (ci := 12) (q0 := 0) rfl (pic_obj ko_0.1 ko_0.2 (by decide)), PW.at _ hW hK hN⟩ rfl rfl hl.1 rfl (lv_room (Nat.le_of_ble_eq_true rfl)) d_Mod_readBody_122 ⟨hRc, hRs⟩) hS (fun q _ h => hF q h) hF (fun  x1490 t H locs ht hvm hw hB hz1 hk1 hS => ?_)
        have hW := Wd.back hB ht hF
        clear hB ht hF hz1 hk1 hvm
        refine lv_goto (tgt := 134) hx hb d_Mod_readBody_125 (by decide) ?_
        exact t_Mod_readBody_134 hx hb hml hown hT hK hN hA hRc hRs hRf hRl hret  l1 l2 l3 l4 l5 x1490 H locs ls  hw hW hS (lv_sub hl [0, 1, 2, 3, 4, 5] rfl)
    · have hw := hw.2 c1487
      refine lv_aload_n hx hb d_Mod_readBody_102 rfl (lv_at hl 0 rfl) ?_
      refine lv_iload_n hx hb d_Mod_readBody_103 rfl (lv_at hl 3 rfl) ?_
      refine lv_iload_n hx hb d_Mod_readBody_104 rfl (lv_at hl 2 rfl) ?_
      have hF := hW.free hS hA
      refine va_callv (va_runV (C := R_Mod) (As := [.int l3, .int l2]) (rest := []) ⟨hx, hb, hml, hown, hT⟩ (k_Mod_readBools l dC dI cI cB cJ cZ ad H.size l3 l2 x  hw) ⟨callB_of 2 hT (gwt_in w_12_198) rfl rfl rfl (hT _ w_1_15) (hT _ w_12_195) (by decide +kernel) ⟨Nat.le_trans (Nat.le_of_ble_eq_true rfl) hRf, Nat.le_trans (Nat.le_of_ble_eq_true rfl) hRl⟩, hT _ w_12_197, hT _ ws_203⟩ ⟨PW.blind, va_recv hK hW.1 (ci := 12) (q0 := 0) rfl (pic_obj ko_0.1 ko_0.2 (by decide)), PW.at _ hW hK hN⟩ rfl rfl hl.1 rfl (lv_room (Nat.le_of_ble_eq_true rfl)) d_Mod_readBody_105 ⟨hRc, hRs⟩) hS (fun q _ h => hF q h) hF (fun  x1491 t H locs ht hvm hw hB hz1 hk1 hS => ?_)
      have hW := Wd.back hB ht hF
      clear hB ht hF hz1 hk1 hvm
      refine lv_goto (tgt := 134) hx hb d_Mod_readBody_108 (by decide) ?_
      exact t_Mod_readBody_134 hx hb hml hown hT hK hN hA hRc hRs hRf hRl hret  l1 l2 l3 l4 l5 x1491 H locs ls  hw hW hS (lv_sub hl [0, 1, 2, 3, 4, 5] rfl)
  · have hw := hw.2 c1486
    exact hret x H locs 94 ls d_Mod_readBody_94 hw hW hS
set_option maxRecDepth 100000 in
set_option maxHeartbeats 4000000 in
set_option maxRecDepth 100000 in
theorem t_Mod_readBody_59 {p : Program} {l : Launch} {e : Env} {R : Room} {s : State} {m : MethodId} {args : Array Value} {below : List Frame} {meth : Method} {c : Code} {cells slots : Nat} {Q : State → Prop} {dC : Nat → ClassId} {dI : Nat → Nat → Nat} {cI cB cJ cZ : ClassId} {A : Nat → Prop} {ad : Nat → Nat} {post : St → Prop} {rec32 : Int32 → Int32 → Int32 → Int32 → Int32 → St → Prop} (hx : p.tables.exec = Jvm.exec) (hb : c.code = b_Mod_readBody) (hml : c.maxLocals = 6) (hown : s.vm.findClass R_Mod = some m.cls) (hT : ∀ w ∈ TG, w.before args s = true) (hK : va_K (dC, dI) CL (TY cI cB cJ cZ) s) (hN : NW s) (hA : ∀ q : Nat, s.heap.size ≤ q → A q) (hRc : cells ≤ R.cells) (hRs : slots ≤ R.slots) (hRf : 6 ≤ R.frames) (hRl : 150 ≤ R.locals) (hret : ∀ (x : St) (H : Heap) (locs : List Loc) (pc : Nat) (ls : Array Slot), decode b_Mod_readBody pc = .ok (.return_, 1) → post x → Wd dC dI cI cB cJ cZ ad stM kcM 115 A x H → va_S A s.heap H locs → W p l e R s m args below meth c H locs cells slots Q (F0 m pc ls [])) (hrec32 : ∀ (l1 : Int32) (l2 : Int32) (l3 : Int32) (l4 : Int32) (l5 : Int32) (x : St) (H : Heap) (locs : List Loc) (ls : Array Slot), rec32 l1 l2 l3 l4 l5 x → Wd dC dI cI cB cJ cZ ad stM kcM 115 A x H → va_S A s.heap H locs → lv_has ls 6 [(0, .ref (ad 0)), (1, .int l1), (2, .int l2), (3, .int l3), (4, .int l4), (5, .int l5)] → W p l e R s m args below meth c H locs cells slots Q (F0 m 32 ls [])) : ∀ (l1 : Int32) (l2 : Int32) (l3 : Int32) (l4 : Int32) (l5 : Int32) (s0 : Int32) (s1 : Int32) (x : St) (H : Heap) (locs : List Loc) (ls : Array Slot), j_Mod_readBody_59 post rec32 l1 l2 l3 l4 l5 s0 s1 x → Wd dC dI cI cB cJ cZ ad stM kcM 115 A x H → va_S A s.heap H locs → lv_has ls 6 [(0, .ref (ad 0)), (1, .int l1), (2, .int l2), (3, .int l3), (4, .int l4), (5, .int l5)] → W p l e R s m args below meth c H locs cells slots Q (F0 m 59 ls [.int s0, .int s1]) := by
  intro l1 l2 l3 l4 l5 s0 s1 x H locs ls  hw hW hS hl
  unfold j_Mod_readBody_59 at hw
  refine lv_iadd hx hb d_Mod_readBody_59 ?_
  refine lv_topi (fun v1492 ev1492 => ?_)
  have hw := hw v1492 ev1492
  refine lv_istore (lv' := [(4, .int v1492), (0, .ref (ad 0)), (1, .int l1), (2, .int l2), (3, .int l3), (5, .int l5)]) hx hb d_Mod_readBody_60 hl (by decide) rfl (fun ls hl => ?_)
  refine lv_iinc (v := (l5 + 1)) (lv' := [(5, .int (l5 + 1)), (4, .int v1492), (0, .ref (ad 0)), (1, .int l1), (2, .int l2), (3, .int l3)]) hx hb d_Mod_readBody_62 hl (k := 5) rfl rfl (by decide) rfl (fun ls hl => ?_)
  refine lv_goto (tgt := 32) hx hb d_Mod_readBody_65 (by decide) ?_
  exact hrec32 l1 l2 l3 v1492 (l5 + 1) x H locs ls  hw hW hS (lv_sub hl [2, 3, 4, 5, 1, 0] rfl)
set_option maxRecDepth 100000 in
set_option maxHeartbeats 4000000 in
set_option maxRecDepth 100000 in
theorem t_Mod_readBody_32 {p : Program} {l : Launch} {e : Env} {R : Room} {s : State} {m : MethodId} {args : Array Value} {below : List Frame} {meth : Method} {c : Code} {cells slots : Nat} {Q : State → Prop} {dC : Nat → ClassId} {dI : Nat → Nat → Nat} {cI cB cJ cZ : ClassId} {A : Nat → Prop} {ad : Nat → Nat} {post : St → Prop} {rec32 : Int32 → Int32 → Int32 → Int32 → Int32 → St → Prop} (hx : p.tables.exec = Jvm.exec) (hb : c.code = b_Mod_readBody) (hml : c.maxLocals = 6) (hown : s.vm.findClass R_Mod = some m.cls) (hT : ∀ w ∈ TG, w.before args s = true) (hK : va_K (dC, dI) CL (TY cI cB cJ cZ) s) (hN : NW s) (hA : ∀ q : Nat, s.heap.size ≤ q → A q) (hRc : cells ≤ R.cells) (hRs : slots ≤ R.slots) (hRf : 6 ≤ R.frames) (hRl : 150 ≤ R.locals) (hret : ∀ (x : St) (H : Heap) (locs : List Loc) (pc : Nat) (ls : Array Slot), decode b_Mod_readBody pc = .ok (.return_, 1) → post x → Wd dC dI cI cB cJ cZ ad stM kcM 115 A x H → va_S A s.heap H locs → W p l e R s m args below meth c H locs cells slots Q (F0 m pc ls [])) (hrec32 : ∀ (l1 : Int32) (l2 : Int32) (l3 : Int32) (l4 : Int32) (l5 : Int32) (x : St) (H : Heap) (locs : List Loc) (ls : Array Slot), rec32 l1 l2 l3 l4 l5 x → Wd dC dI cI cB cJ cZ ad stM kcM 115 A x H → va_S A s.heap H locs → lv_has ls 6 [(0, .ref (ad 0)), (1, .int l1), (2, .int l2), (3, .int l3), (4, .int l4), (5, .int l5)] → W p l e R s m args below meth c H locs cells slots Q (F0 m 32 ls [])) : ∀ (l1 : Int32) (l2 : Int32) (l3 : Int32) (l4 : Int32) (l5 : Int32) (x : St) (H : Heap) (locs : List Loc) (ls : Array Slot), j_Mod_readBody_32 post rec32 l1 l2 l3 l4 l5 x → Wd dC dI cI cB cJ cZ ad stM kcM 115 A x H → va_S A s.heap H locs → lv_has ls 6 [(0, .ref (ad 0)), (1, .int l1), (2, .int l2), (3, .int l3), (4, .int l4), (5, .int l5)] → W p l e R s m args below meth c H locs cells slots Q (F0 m 32 ls []) := by
  intro l1 l2 l3 l4 l5 x H locs ls  hw hW hS hl
  unfold j_Mod_readBody_32 at hw
  refine lv_iload hx hb d_Mod_readBody_32 (lv_at hl 5 rfl) ?_
  refine lv_iload_n hx hb d_Mod_readBody_34 rfl (lv_at hl 1 rfl) ?_
  refine lv_icmp_ge (tgt := 68) hx hb d_Mod_readBody_35 (by decide) (fun c1493 => ?_) (fun c1493 => ?_)
  · have hw := hw.1 c1493
    refine lv_aload_n hx hb d_Mod_readBody_68 rfl (lv_at hl 0 rfl) ?_
    refine w_geti (k := 69) (t := 12) (C := R_Mod) (T := F_Mod) (N := 167) hx hb hT hown hK hW ko_0.1 ko_0.2 (by decide) in_Mod rfl rfl (by decide) rfl fr_Mod_69 w_9_5 d_Mod_readBody_69 ?_
    refine lv_if_ne (tgt := 87) hx hb d_Mod_readBody_72 (by decide) (fun c1494 => ?_) (fun c1494 => ?_)
    · have hw := hw.1 c1494
      exact t_Mod_readBody_87 hx hb hml hown hT hK hN hA hRc hRs hRf hRl hret  l1 l2 l3 l4 l5 x H locs ls  hw hW hS (lv_sub hl [0, 1, 2, 3, 4, 5] rfl)
    · have hw := hw.2 c1494
      refine lv_iload hx hb d_Mod_readBody_75 (lv_at hl 4 rfl) ?_
      refine lv_iload_n hx hb d_Mod_readBody_77 rfl (lv_at hl 2 rfl) ?_
      refine lv_icmp_eq (tgt := 87) hx hb d_Mod_readBody_78 (by decide) (fun c1495 => ?_) (fun c1495 => ?_)
      · have hw := hw.1 c1495
        exact t_Mod_readBody_87 hx hb hml hown hT hK hN hA hRc hRs hRf hRl hret  l1 l2 l3 l4 l5 x H locs ls  hw hW hS (lv_sub hl [0, 1, 2, 3, 4, 5] rfl)
      · have hw := hw.2 c1495
        refine lv_aload_n hx hb d_Mod_readBody_81 rfl (lv_at hl 0 rfl) ?_
        refine lv_bipush (v := 10) hx hb d_Mod_readBody_82 (by decide) ?_
        refine w_puti (ty := .int) (k := 69) (t := 12) (C := R_Mod) (T := F_Mod) (N := 167) hx hb hT hown hK hW hS ko_0.1 ko_0.2 (by decide) in_Mod t_Mod t_Mod_ok n_Mod rfl rfl (by decide) rfl fr_Mod_69 w_9_5 (by decide +kernel) rfl rfl d_Mod_readBody_84 (fun H locs hW hS => ?_)
        obtain ⟨x1496, ex1496⟩ : ∃ y : St, y = setI x 0 69 10 := ⟨_, rfl⟩
        rw [← ex1496] at hW
        have hw := hw x1496 ex1496
        exact t_Mod_readBody_87 hx hb hml hown hT hK hN hA hRc hRs hRf hRl hret  l1 l2 l3 l4 l5 x1496 H locs ls  hw hW hS (lv_sub hl [0, 1, 2, 3, 4, 5] rfl)
  · have hw := hw.2 c1493
    refine lv_iload hx hb d_Mod_readBody_38 (lv_at hl 4 rfl) ?_
    refine lv_aload_n hx hb d_Mod_readBody_40 rfl (lv_at hl 0 rfl) ?_
    refine w_getf (q := 29) (k := 48) (t := 12) (C := R_Mod) (T := F_Mod) (N := 167) hx hb hT hown hK hW ko_0.1 ko_0.2 (by decide) in_Mod rfl rfl (by decide) rfl fr_Mod_48 w_8_224 d_Mod_readBody_41 rfl ?_
    refine lv_iload hx hb d_Mod_readBody_44 (lv_at hl 5 rfl) ?_
    obtain ⟨hi, hw⟩ := hw
    refine w_iald (o := 29) hx hb hK hW ko_29.1 ko_29.2 hi d_Mod_readBody_46 ?_
    refine lv_aload_n hx hb d_Mod_readBody_47 rfl (lv_at hl 0 rfl) ?_
    refine w_geti (k := 40) (t := 12) (C := R_Mod) (T := F_Mod) (N := 167) hx hb hT hown hK hW ko_0.1 ko_0.2 (by decide) in_Mod rfl rfl (by decide) rfl fr_Mod_40 w_8_216 d_Mod_readBody_48 ?_
    refine lv_icmp_ne (tgt := 58) hx hb d_Mod_readBody_51 (by decide) (fun c1497 => ?_) (fun c1497 => ?_)
    · have hw := hw.1 c1497
      refine lv_iconst (v := 0) hx hb d_Mod_readBody_58 (by decide) ?_
      exact t_Mod_readBody_59 hx hb hml hown hT hK hN hA hRc hRs hRf hRl hret hrec32 l1 l2 l3 l4 l5 0 l4 x H locs ls  hw hW hS (lv_sub hl [0, 1, 2, 3, 4, 5] rfl)
    · have hw := hw.2 c1497
      refine lv_iconst (v := 1) hx hb d_Mod_readBody_54 (by decide) ?_
      refine lv_goto (tgt := 59) hx hb d_Mod_readBody_55 (by decide) ?_
      exact t_Mod_readBody_59 hx hb hml hown hT hK hN hA hRc hRs hRf hRl hret hrec32 l1 l2 l3 l4 l5 1 l4 x H locs ls  hw hW hS (lv_sub hl [0, 1, 2, 3, 4, 5] rfl)
set_option maxHeartbeats 4000000 in
set_option maxRecDepth 100000 in
theorem tl_Mod_readBody_32 {p : Program} {l : Launch} {e : Env} {R : Room} {s : State} {m : MethodId} {args : Array Value} {below : List Frame} {meth : Method} {c : Code} {cells slots : Nat} {Q : State → Prop} {dC : Nat → ClassId} {dI : Nat → Nat → Nat} {cI cB cJ cZ : ClassId} {A : Nat → Prop} {ad : Nat → Nat} {post : St → Prop} (hx : p.tables.exec = Jvm.exec) (hb : c.code = b_Mod_readBody) (hml : c.maxLocals = 6) (hown : s.vm.findClass R_Mod = some m.cls) (hT : ∀ w ∈ TG, w.before args s = true) (hK : va_K (dC, dI) CL (TY cI cB cJ cZ) s) (hN : NW s) (hA : ∀ q : Nat, s.heap.size ≤ q → A q) (hRc : cells ≤ R.cells) (hRs : slots ≤ R.slots) (hRf : 6 ≤ R.frames) (hRl : 150 ≤ R.locals) (hret : ∀ (x : St) (H : Heap) (locs : List Loc) (pc : Nat) (ls : Array Slot), decode b_Mod_readBody pc = .ok (.return_, 1) → post x → Wd dC dI cI cB cJ cZ ad stM kcM 115 A x H → va_S A s.heap H locs → W p l e R s m args below meth c H locs cells slots Q (F0 m pc ls []))  : ∀ n : Nat, ∀ (l1 : Int32) (l2 : Int32) (l3 : Int32) (l4 : Int32) (l5 : Int32) (x : St) (H : Heap) (locs : List Loc) (ls : Array Slot), wl_Mod_readBody_32 post n l1 l2 l3 l4 l5 x → Wd dC dI cI cB cJ cZ ad stM kcM 115 A x H → va_S A s.heap H locs → lv_has ls 6 [(0, .ref (ad 0)), (1, .int l1), (2, .int l2), (3, .int l3), (4, .int l4), (5, .int l5)] → W p l e R s m args below meth c H locs cells slots Q (F0 m 32 ls []) := by
  intro n
  induction n with
  | zero => intro l1 l2 l3 l4 l5 x H locs ls  hw; exact hw.elim
  | succ n ih => intro l1 l2 l3 l4 l5 x H locs ls  hw hW hS hl; exact t_Mod_readBody_32 hx hb hml hown hT hK hN hA hRc hRs hRf hRl hret  ih l1 l2 l3 l4 l5 x H locs ls  hw hW hS hl
set_option maxRecDepth 100000 in
set_option maxHeartbeats 4000000 in
set_option maxRecDepth 100000 in
theorem t_Mod_readBody_e {p : Program} {l : Launch} {e : Env} {R : Room} {s : State} {m : MethodId} {args : Array Value} {below : List Frame} {meth : Method} {c : Code} {cells slots : Nat} {Q : State → Prop} {dC : Nat → ClassId} {dI : Nat → Nat → Nat} {cI cB cJ cZ : ClassId} {A : Nat → Prop} {ad : Nat → Nat} {post : St → Prop} (hx : p.tables.exec = Jvm.exec) (hb : c.code = b_Mod_readBody) (hml : c.maxLocals = 6) (hown : s.vm.findClass R_Mod = some m.cls) (hT : ∀ w ∈ TG, w.before args s = true) (hK : va_K (dC, dI) CL (TY cI cB cJ cZ) s) (hN : NW s) (hA : ∀ q : Nat, s.heap.size ≤ q → A q) (hRc : cells ≤ R.cells) (hRs : slots ≤ R.slots) (hRf : 6 ≤ R.frames) (hRl : 150 ≤ R.locals) (hret : ∀ (x : St) (H : Heap) (locs : List Loc) (pc : Nat) (ls : Array Slot), decode b_Mod_readBody pc = .ok (.return_, 1) → post x → Wd dC dI cI cB cJ cZ ad stM kcM 115 A x H → va_S A s.heap H locs → W p l e R s m args below meth c H locs cells slots Q (F0 m pc ls [])) : ∀ (l1 : Int32) (l2 : Int32) (l3 : Int32) (x : St) (H : Heap) (locs : List Loc) (ls : Array Slot), wp_Mod_readBody post l1 l2 l3 x → Wd dC dI cI cB cJ cZ ad stM kcM 115 A x H → va_S A s.heap H locs → lv_has ls 6 [(0, .ref (ad 0)), (1, .int l1), (2, .int l2), (3, .int l3)] → W p l e R s m args below meth c H locs cells slots Q (F0 m 0 ls []) := by
  intro l1 l2 l3 x H locs ls  hw hW hS hl
  unfold wp_Mod_readBody at hw
  refine lv_aload_n hx hb d_Mod_readBody_0 rfl (lv_at hl 0 rfl) ?_
  refine lv_aload_n hx hb d_Mod_readBody_1 rfl (lv_at hl 0 rfl) ?_
  refine w_getf (q := 28) (k := 47) (t := 12) (C := R_Mod) (T := F_Mod) (N := 167) hx hb hT hown hK hW ko_0.1 ko_0.2 (by decide) in_Mod rfl rfl (by decide) rfl fr_Mod_47 w_8_223 d_Mod_readBody_2 rfl ?_
  refine lv_iload_n hx hb d_Mod_readBody_5 rfl (lv_at hl 1 rfl) ?_
  refine lv_aload_n hx hb d_Mod_readBody_6 rfl (lv_at hl 0 rfl) ?_
  refine w_geti (k := 39) (t := 12) (C := R_Mod) (T := F_Mod) (N := 167) hx hb hT hown hK hW ko_0.1 ko_0.2 (by decide) in_Mod rfl rfl (by decide) rfl fr_Mod_39 w_8_215 d_Mod_readBody_7 ?_
  have hF := hW.free hS hA
  refine va_callv (va_runV (C := R_Mod) (As := [.ref (ad 28), .int l1, .int (fI x 0 39)]) (rest := []) ⟨hx, hb, hml, hown, hT⟩ (k_Mod_readLevels l dC dI cI cB cJ cZ ad H.size 28 l1 (fI x 0 39) x ko_28 hw) ⟨callB_of 3 hT (gwt_in w_12_177) rfl rfl rfl (hT _ w_1_15) (hT _ w_12_174) (by decide +kernel) ⟨Nat.le_trans (Nat.le_of_ble_eq_true rfl) hRf, Nat.le_trans (Nat.le_of_ble_eq_true rfl) hRl⟩, hT _ w_12_176, hT _ ws_198⟩ ⟨PW.blind, va_recv hK hW.1 (ci := 12) (q0 := 0) rfl (pic_obj ko_0.1 ko_0.2 (by decide)), PW.at _ hW hK hN⟩ rfl rfl hl.1 rfl (lv_room (Nat.le_of_ble_eq_true rfl)) d_Mod_readBody_10 ⟨hRc, hRs⟩) hS (fun q _ h => hF q h) hF (fun  x1498 t H locs ht hvm hw hB hz1 hk1 hS => ?_)
  have hW := Wd.back hB ht hF
  clear hB ht hF hz1 hk1 hvm
  refine lv_aload_n hx hb d_Mod_readBody_13 rfl (lv_at hl 0 rfl) ?_
  refine lv_aload_n hx hb d_Mod_readBody_14 rfl (lv_at hl 0 rfl) ?_
  refine w_getf (q := 29) (k := 48) (t := 12) (C := R_Mod) (T := F_Mod) (N := 167) hx hb hT hown hK hW ko_0.1 ko_0.2 (by decide) in_Mod rfl rfl (by decide) rfl fr_Mod_48 w_8_224 d_Mod_readBody_15 rfl ?_
  refine lv_iload_n hx hb d_Mod_readBody_18 rfl (lv_at hl 1 rfl) ?_
  refine lv_aload_n hx hb d_Mod_readBody_19 rfl (lv_at hl 0 rfl) ?_
  refine w_geti (k := 40) (t := 12) (C := R_Mod) (T := F_Mod) (N := 167) hx hb hT hown hK hW ko_0.1 ko_0.2 (by decide) in_Mod rfl rfl (by decide) rfl fr_Mod_40 w_8_216 d_Mod_readBody_20 ?_
  have hF := hW.free hS hA
  refine va_callv (va_runV (C := R_Mod) (As := [.ref (ad 29), .int l1, .int (fI x1498 0 40)]) (rest := []) ⟨hx, hb, hml, hown, hT⟩ (k_Mod_readLevels l dC dI cI cB cJ cZ ad H.size 29 l1 (fI x1498 0 40) x1498 ko_29 hw) ⟨callB_of 3 hT (gwt_in w_12_177) rfl rfl rfl (hT _ w_1_15) (hT _ w_12_174) (by decide +kernel) ⟨Nat.le_trans (Nat.le_of_ble_eq_true rfl) hRf, Nat.le_trans (Nat.le_of_ble_eq_true rfl) hRl⟩, hT _ w_12_176, hT _ ws_198⟩ ⟨PW.blind, va_recv hK hW.1 (ci := 12) (q0 := 0) rfl (pic_obj ko_0.1 ko_0.2 (by decide)), PW.at _ hW hK hN⟩ rfl rfl hl.1 rfl (lv_room (Nat.le_of_ble_eq_true rfl)) d_Mod_readBody_23 ⟨hRc, hRs⟩) hS (fun q _ h => hF q h) hF (fun  x1499 t H locs ht hvm hw hB hz1 hk1 hS => ?_)
  have hW := Wd.back hB ht hF
  clear hB ht hF hz1 hk1 hvm
  refine lv_iconst (v := 0) hx hb d_Mod_readBody_26 (by decide) ?_
  refine lv_istore (lv' := [(4, .int 0), (0, .ref (ad 0)), (1, .int l1), (2, .int l2), (3, .int l3)]) hx hb d_Mod_readBody_27 hl (by decide) rfl (fun ls hl => ?_)
  refine lv_iconst (v := 0) hx hb d_Mod_readBody_29 (by decide) ?_
  refine lv_istore (lv' := [(5, .int 0), (4, .int 0), (0, .ref (ad 0)), (1, .int l1), (2, .int l2), (3, .int l3)]) hx hb d_Mod_readBody_30 hl (by decide) rfl (fun ls hl => ?_)
  obtain ⟨n, hw⟩ := hw
  exact tl_Mod_readBody_32 hx hb hml hown hT hK hN hA hRc hRs hRf hRl hret  n l1 l2 l3 0 0 x1499 H locs ls  hw hW hS (lv_sub hl [2, 3, 4, 5, 1, 0] rfl)
set_option maxHeartbeats 4000000 in
set_option maxRecDepth 100000 in
theorem k_Mod_readBody (l : Launch) (dC : Nat → ClassId) (dI : Nat → Nat → Nat) (cI cB cJ cZ : ClassId) (ad : Nat → Nat) (sz : Nat) (l1 : Int32) (l2 : Int32) (l3 : Int32) (x : St) {post : St → Prop} (hw : wp_Mod_readBody post l1 l2 l3 x) : Met l y_Mod_readBody (wsOf y_Mod_readBody b_Mod_readBody 6 (none)) ({ frames := 6, cells := 0, slots := 0, locals := 150 }) (va_Pc [.ref (ad 0), .int l1, .int l2, .int l3] (PW dC dI cI cB cJ cZ ad stM kcM 115 sz x)) (va_Qv (fun (y : St) => post y) (fun y t => Wd dC dI cI cB cJ cZ ad stM kcM 115 (va_A (pic ad stM kcM 115 cI cB cJ cZ x) sz) y t.heap) (va_A (pic ad stM kcM 115 cI cB cJ cZ x) sz)) 0 0 (va_A (pic ad stM kcM 115 cI cB cJ cZ x) sz) := by
  refine Met.ofW (cc := b_Mod_readBody) (maxL := 6) (ret := none) (by decide) rfl ?_
  intro p e s m args below meth c s₁ B hml hv
  obtain ⟨rfl, hsz, hW0, hK, hN⟩ := hv
  have hx := B.exec
  have hb := B.bytes
  have hr := B.returns
  have hts := atoms_spec B.pre
  have hT : ∀ w ∈ TG, w.before _ s = true := fun w h => hts w (List.mem_cons_of_mem _ h)
  have hown : s.vm.findClass R_Mod = some m.cls := findClass_of_methodNamed B.named
  have hlocks := B.notSynchronized
  subst hsz
  have hW : Wd dC dI cI cB cJ cZ ad stM kcM 115 (va_A (pic ad stM kcM 115 cI cB cJ cZ x) s.heap.size) x s.heap := ⟨hW0.1, hW0.2.1.self (sz := s.heap.size), hW0.2.2⟩
  generalize hAe : va_A (pic ad stM kcM 115 cI cB cJ cZ x) s.heap.size = A at hW ⊢
  have hA : ∀ q : Nat, s.heap.size ≤ q → A q := fun q h => by rw [← hAe]; exact Or.inr h
  have hS : va_S A s.heap s.heap [] := va_S.rf
  have hl := lv_entry ([.ref (ad 0), .int l1, .int l2, .int l3]) (n := 6) (Nat.le_of_ble_eq_true rfl)
  rw [lg_entry_eq]
  generalize (lg_sl ([.ref (ad 0), .int l1, .int l2, .int l3]) ++ List.replicate (6 - (lg_sl ([.ref (ad 0), .int l1, .int l2, .int l3])).length) Slot.unset).toArray = ls at hl ⊢
  have hl : lv_has ls 6 [(0, .ref (ad 0)), (1, .int l1), (2, .int l2), (3, .int l3)] := hl
  exact t_Mod_readBody_e hx hb hml hown hT hK hN hA (Nat.le_refl 0) (Nat.le_refl 0) (Nat.le_refl 6) (Nat.le_refl 150) (fun x H locs pc ls hd hp hW hS => W.vret hx hb hr (fun t ht hM => ⟨⟨x, rfl, hp, Wd.back hW ht.symm (fun _ z => z)⟩, hS.F ht⟩) hS.2.2 hd hlocks)  l1 l2 l3 x _ _ ls  hw hW hS hl
end
