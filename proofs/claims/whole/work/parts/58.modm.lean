theorem fr_Mod_68 : F_Mod 68 = (R_Mod, "stop", "I", false) := rfl
theorem w_12_117 : (Jvm.Cond.methodLink "StripedVaultModel" (847 : Nat) ({ cls := "StripedVaultModel", name := "number4", desc := "(III)I" } : Jvm.MethodName)) ∈ TG := tw_12 117 (by decide +kernel) (by decide +kernel)
theorem w_12_119 : (Jvm.Cond.instanceMethod ({ cls := "StripedVaultModel", name := "number4", desc := "(III)I" } : Jvm.MethodName)) ∈ TG := tw_12 119 (by decide +kernel) (by decide +kernel)
theorem w_12_120 : (Jvm.Cond.code ({ cls := "StripedVaultModel", name := "number4", desc := "(III)I" } : Jvm.MethodName) prog_14_method_125_code (6 : Nat) (Option.some Jvm.ClassFile.FieldType.int)) ∈ TG := tw_12 120 (by decide +kernel) (by decide +kernel)
theorem w_12_125 : (Jvm.Cond.methodLink "StripedVaultModel" (850 : Nat) ({ cls := "StripedVaultModel", name := "openField", desc := "(I)V" } : Jvm.MethodName)) ∈ TG := tw_12 125 (by decide +kernel) (by decide +kernel)
theorem w_12_127 : (Jvm.Cond.instanceMethod ({ cls := "StripedVaultModel", name := "openField", desc := "(I)V" } : Jvm.MethodName)) ∈ TG := tw_12 127 (by decide +kernel) (by decide +kernel)
theorem w_12_128 : (Jvm.Cond.code ({ cls := "StripedVaultModel", name := "openField", desc := "(I)V" } : Jvm.MethodName) prog_14_method_126_code (11 : Nat) (Option.none : Option Jvm.ClassFile.FieldType)) ∈ TG := tw_12 128 (by decide +kernel) (by decide +kernel)
theorem w_12_145 : (Jvm.Cond.methodLink "StripedVaultModel" (616 : Nat) ({ cls := "StripedVaultModel", name := "unzigzag", desc := "(J)J" } : Jvm.MethodName)) ∈ TG := tw_12 145 (by decide +kernel) (by decide +kernel)
theorem w_12_146 : (Jvm.Cond.static ({ cls := "StripedVaultModel", name := "unzigzag", desc := "(J)J" } : Jvm.MethodName)) ∈ TG := tw_12 146 (by decide +kernel) (by decide +kernel)
theorem w_12_147 : (Jvm.Cond.code ({ cls := "StripedVaultModel", name := "unzigzag", desc := "(J)J" } : Jvm.MethodName) prog_14_method_58_code (2 : Nat) (Option.some Jvm.ClassFile.FieldType.long)) ∈ TG := tw_12 147 (by decide +kernel) (by decide +kernel)
theorem w_12_148 : (Jvm.Cond.methodLink "StripedVaultModel" (724 : Nat) ({ cls := "StripedVaultModel", name := "isOne", desc := "(J)Z" } : Jvm.MethodName)) ∈ TG := tw_12 148 (by decide +kernel) (by decide +kernel)
theorem w_12_150 : (Jvm.Cond.instanceMethod ({ cls := "StripedVaultModel", name := "isOne", desc := "(J)Z" } : Jvm.MethodName)) ∈ TG := tw_12 150 (by decide +kernel) (by decide +kernel)
theorem w_12_151 : (Jvm.Cond.code ({ cls := "StripedVaultModel", name := "isOne", desc := "(J)Z" } : Jvm.MethodName) prog_14_method_67_code (3 : Nat) (Option.some Jvm.ClassFile.FieldType.boolean)) ∈ TG := tw_12 151 (by decide +kernel) (by decide +kernel)
theorem w_12_152 : (Jvm.Cond.constantLong "StripedVaultModel" (686 : Nat) (255 : Int64)) ∈ TG := tw_12 152 (by decide +kernel) (by decide +kernel)
theorem w_9_4 : (Jvm.Cond.fieldLink "StripedVaultModel" (608 : Nat) "StripedVaultModel" "stop" "I") ∈ TG := tw_9 4 (by decide +kernel) (by decide +kernel)
theorem ws_186 : Cond.selects R_Mod y_Mod_number4 y_Mod_number4 ∈ TG := tw_s 186 (by decide +kernel) (by decide +kernel)
theorem ws_188 : Cond.selects R_Mod y_Mod_openField y_Mod_openField ∈ TG := tw_s 188 (by decide +kernel) (by decide +kernel)
theorem ws_192 : Cond.selects R_Mod y_Mod_isOne y_Mod_isOne ∈ TG := tw_s 192 (by decide +kernel) (by decide +kernel)
theorem d_Mod_openSchema_158 : decode b_Mod_openSchema 158 = .ok (.bipush 15, 2) := by decide +kernel
theorem d_Mod_openSchema_160 : decode b_Mod_openSchema 160 = .ok (.invokevirtual 841, 3) := by decide +kernel
theorem d_Mod_openSchema_163 : decode b_Mod_openSchema 163 = .ok (.iinc 3 1, 3) := by decide +kernel
theorem d_Mod_openSchema_166 : decode b_Mod_openSchema 166 = .ok (.goto (-99), 3) := by decide +kernel
theorem d_Mod_openSchema_139 : decode b_Mod_openSchema 139 = .ok (.istore 4, 2) := by decide +kernel
theorem d_Mod_openSchema_141 : decode b_Mod_openSchema 141 = .ok (.iinc 5 1, 3) := by decide +kernel
theorem d_Mod_openSchema_144 : decode b_Mod_openSchema 144 = .ok (.goto (-41), 3) := by decide +kernel
theorem d_Mod_openSchema_134 : decode b_Mod_openSchema 134 = .ok (.iconst 1, 1) := by decide +kernel
theorem d_Mod_openSchema_135 : decode b_Mod_openSchema 135 = .ok (.goto 4, 3) := by decide +kernel
theorem d_Mod_openSchema_103 : decode b_Mod_openSchema 103 = .ok (.iload 5, 2) := by decide +kernel
theorem d_Mod_openSchema_105 : decode b_Mod_openSchema 105 = .ok (.aload_n 0, 1) := by decide +kernel
theorem d_Mod_openSchema_106 : decode b_Mod_openSchema 106 = .ok (.getfield 35, 3) := by decide +kernel
theorem d_Mod_openSchema_109 : decode b_Mod_openSchema 109 = .ok (.iconst 2, 1) := by decide +kernel
theorem d_Mod_openSchema_110 : decode b_Mod_openSchema 110 = .ok (.iaload, 1) := by decide +kernel
theorem d_Mod_openSchema_111 : decode b_Mod_openSchema 111 = .ok (.if_icmp .ge 36, 3) := by decide +kernel
theorem d_Mod_openSchema_147 : decode b_Mod_openSchema 147 = .ok (.aload_n 0, 1) := by decide +kernel
theorem d_Mod_openSchema_148 : decode b_Mod_openSchema 148 = .ok (.iload 4, 2) := by decide +kernel
theorem d_Mod_openSchema_150 : decode b_Mod_openSchema 150 = .ok (.ifCond .ne 7, 3) := by decide +kernel
theorem d_Mod_openSchema_157 : decode b_Mod_openSchema 157 = .ok (.iconst 0, 1) := by decide +kernel
theorem d_Mod_openSchema_153 : decode b_Mod_openSchema 153 = .ok (.iconst 1, 1) := by decide +kernel
theorem d_Mod_openSchema_154 : decode b_Mod_openSchema 154 = .ok (.goto 4, 3) := by decide +kernel
theorem d_Mod_openSchema_114 : decode b_Mod_openSchema 114 = .ok (.iload 4, 2) := by decide +kernel
theorem d_Mod_openSchema_116 : decode b_Mod_openSchema 116 = .ok (.ifCond .ne 18, 3) := by decide +kernel
theorem d_Mod_openSchema_119 : decode b_Mod_openSchema 119 = .ok (.aload_n 0, 1) := by decide +kernel
theorem d_Mod_openSchema_120 : decode b_Mod_openSchema 120 = .ok (.getfield 23, 3) := by decide +kernel
theorem d_Mod_openSchema_123 : decode b_Mod_openSchema 123 = .ok (.iconst 2, 1) := by decide +kernel
theorem d_Mod_openSchema_124 : decode b_Mod_openSchema 124 = .ok (.iload 5, 2) := by decide +kernel
theorem d_Mod_openSchema_126 : decode b_Mod_openSchema 126 = .ok (.invokestatic 412, 3) := by decide +kernel
theorem d_Mod_openSchema_129 : decode b_Mod_openSchema 129 = .ok (.iaload, 1) := by decide +kernel
theorem d_Mod_openSchema_130 : decode b_Mod_openSchema 130 = .ok (.iload_n 3, 1) := by decide +kernel
theorem d_Mod_openSchema_131 : decode b_Mod_openSchema 131 = .ok (.if_icmp .ne 7, 3) := by decide +kernel
theorem d_Mod_openSchema_138 : decode b_Mod_openSchema 138 = .ok (.iconst 0, 1) := by decide +kernel
theorem d_Mod_openSchema_96 : decode b_Mod_openSchema 96 = .ok (.istore 4, 2) := by decide +kernel
theorem d_Mod_openSchema_98 : decode b_Mod_openSchema 98 = .ok (.iload_n 3, 1) := by decide +kernel
theorem d_Mod_openSchema_99 : decode b_Mod_openSchema 99 = .ok (.iconst 1, 1) := by decide +kernel
theorem d_Mod_openSchema_100 : decode b_Mod_openSchema 100 = .ok (.iadd, 1) := by decide +kernel
theorem d_Mod_openSchema_101 : decode b_Mod_openSchema 101 = .ok (.istore 5, 2) := by decide +kernel
theorem d_Mod_openSchema_67 : decode b_Mod_openSchema 67 = .ok (.iload_n 3, 1) := by decide +kernel
theorem d_Mod_openSchema_68 : decode b_Mod_openSchema 68 = .ok (.aload_n 0, 1) := by decide +kernel
theorem d_Mod_openSchema_69 : decode b_Mod_openSchema 69 = .ok (.getfield 35, 3) := by decide +kernel
theorem d_Mod_openSchema_72 : decode b_Mod_openSchema 72 = .ok (.iconst 2, 1) := by decide +kernel
theorem d_Mod_openSchema_73 : decode b_Mod_openSchema 73 = .ok (.iaload, 1) := by decide +kernel
theorem d_Mod_openSchema_74 : decode b_Mod_openSchema 74 = .ok (.if_icmp .ge 95, 3) := by decide +kernel
theorem d_Mod_openSchema_169 : decode b_Mod_openSchema 169 = .ok (.aload_n 0, 1) := by decide +kernel
theorem d_Mod_openSchema_170 : decode b_Mod_openSchema 170 = .ok (.getfield 550, 3) := by decide +kernel
theorem d_Mod_openSchema_173 : decode b_Mod_openSchema 173 = .ok (.ifCond .ne 8, 3) := by decide +kernel
theorem d_Mod_openSchema_181 : decode b_Mod_openSchema 181 = .ok (.return_, 1) := by decide +kernel
theorem d_Mod_openSchema_176 : decode b_Mod_openSchema 176 = .ok (.aload_n 0, 1) := by decide +kernel
theorem d_Mod_openSchema_177 : decode b_Mod_openSchema 177 = .ok (.iconst 1, 1) := by decide +kernel
theorem d_Mod_openSchema_178 : decode b_Mod_openSchema 178 = .ok (.invokevirtual 463, 3) := by decide +kernel
theorem d_Mod_openSchema_77 : decode b_Mod_openSchema 77 = .ok (.aload_n 0, 1) := by decide +kernel
theorem d_Mod_openSchema_78 : decode b_Mod_openSchema 78 = .ok (.getfield 20, 3) := by decide +kernel
theorem d_Mod_openSchema_81 : decode b_Mod_openSchema 81 = .ok (.iconst 2, 1) := by decide +kernel
theorem d_Mod_openSchema_82 : decode b_Mod_openSchema 82 = .ok (.iload_n 3, 1) := by decide +kernel
theorem d_Mod_openSchema_83 : decode b_Mod_openSchema 83 = .ok (.invokestatic 412, 3) := by decide +kernel
theorem d_Mod_openSchema_86 : decode b_Mod_openSchema 86 = .ok (.iaload, 1) := by decide +kernel
theorem d_Mod_openSchema_87 : decode b_Mod_openSchema 87 = .ok (.iconst 4, 1) := by decide +kernel
theorem d_Mod_openSchema_88 : decode b_Mod_openSchema 88 = .ok (.if_icmp .eq 7, 3) := by decide +kernel
theorem d_Mod_openSchema_95 : decode b_Mod_openSchema 95 = .ok (.iconst 0, 1) := by decide +kernel
theorem d_Mod_openSchema_91 : decode b_Mod_openSchema 91 = .ok (.iconst 1, 1) := by decide +kernel
theorem d_Mod_openSchema_92 : decode b_Mod_openSchema 92 = .ok (.goto 4, 3) := by decide +kernel
theorem d_Mod_openSchema_65 : decode b_Mod_openSchema 65 = .ok (.iconst 0, 1) := by decide +kernel
theorem d_Mod_openSchema_66 : decode b_Mod_openSchema 66 = .ok (.istore_n 3, 1) := by decide +kernel
theorem d_Mod_openSchema_42 : decode b_Mod_openSchema 42 = .ok (.iload_n 3, 1) := by decide +kernel
theorem d_Mod_openSchema_43 : decode b_Mod_openSchema 43 = .ok (.iload_n 2, 1) := by decide +kernel
theorem d_Mod_openSchema_44 : decode b_Mod_openSchema 44 = .ok (.if_icmp .ge 21, 3) := by decide +kernel
theorem d_Mod_openSchema_47 : decode b_Mod_openSchema 47 = .ok (.aload_n 0, 1) := by decide +kernel
theorem d_Mod_openSchema_48 : decode b_Mod_openSchema 48 = .ok (.getfield 550, 3) := by decide +kernel
theorem d_Mod_openSchema_51 : decode b_Mod_openSchema 51 = .ok (.ifCond .ne 14, 3) := by decide +kernel
theorem d_Mod_openSchema_54 : decode b_Mod_openSchema 54 = .ok (.aload_n 0, 1) := by decide +kernel
theorem d_Mod_openSchema_55 : decode b_Mod_openSchema 55 = .ok (.iload_n 1, 1) := by decide +kernel
theorem d_Mod_openSchema_56 : decode b_Mod_openSchema 56 = .ok (.invokevirtual 850, 3) := by decide +kernel
theorem d_Mod_openSchema_59 : decode b_Mod_openSchema 59 = .ok (.iinc 3 1, 3) := by decide +kernel
theorem d_Mod_openSchema_62 : decode b_Mod_openSchema 62 = .ok (.goto (-20), 3) := by decide +kernel
theorem d_Mod_openSchema_35 : decode b_Mod_openSchema 35 = .ok (.bipush 15, 2) := by decide +kernel
theorem d_Mod_openSchema_37 : decode b_Mod_openSchema 37 = .ok (.invokevirtual 841, 3) := by decide +kernel
theorem d_Mod_openSchema_40 : decode b_Mod_openSchema 40 = .ok (.iconst 0, 1) := by decide +kernel
theorem d_Mod_openSchema_41 : decode b_Mod_openSchema 41 = .ok (.istore_n 3, 1) := by decide +kernel
theorem d_Mod_openSchema_0 : decode b_Mod_openSchema 0 = .ok (.aload_n 0, 1) := by decide +kernel
theorem d_Mod_openSchema_1 : decode b_Mod_openSchema 1 = .ok (.getfield 35, 3) := by decide +kernel
theorem d_Mod_openSchema_4 : decode b_Mod_openSchema 4 = .ok (.iconst 2, 1) := by decide +kernel
theorem d_Mod_openSchema_5 : decode b_Mod_openSchema 5 = .ok (.iconst 0, 1) := by decide +kernel
theorem d_Mod_openSchema_6 : decode b_Mod_openSchema 6 = .ok (.iastore, 1) := by decide +kernel
theorem d_Mod_openSchema_7 : decode b_Mod_openSchema 7 = .ok (.aload_n 0, 1) := by decide +kernel
theorem d_Mod_openSchema_8 : decode b_Mod_openSchema 8 = .ok (.getfield 38, 3) := by decide +kernel
theorem d_Mod_openSchema_11 : decode b_Mod_openSchema 11 = .ok (.iconst 2, 1) := by decide +kernel
theorem d_Mod_openSchema_12 : decode b_Mod_openSchema 12 = .ok (.iconst 0, 1) := by decide +kernel
theorem d_Mod_openSchema_13 : decode b_Mod_openSchema 13 = .ok (.iastore, 1) := by decide +kernel
theorem d_Mod_openSchema_14 : decode b_Mod_openSchema 14 = .ok (.aload_n 0, 1) := by decide +kernel
theorem d_Mod_openSchema_15 : decode b_Mod_openSchema 15 = .ok (.iload_n 1, 1) := by decide +kernel
theorem d_Mod_openSchema_16 : decode b_Mod_openSchema 16 = .ok (.sipush 128, 3) := by decide +kernel
theorem d_Mod_openSchema_19 : decode b_Mod_openSchema 19 = .ok (.bipush 15, 2) := by decide +kernel
theorem d_Mod_openSchema_21 : decode b_Mod_openSchema 21 = .ok (.invokevirtual 847, 3) := by decide +kernel
theorem d_Mod_openSchema_24 : decode b_Mod_openSchema 24 = .ok (.istore_n 2, 1) := by decide +kernel
theorem d_Mod_openSchema_25 : decode b_Mod_openSchema 25 = .ok (.aload_n 0, 1) := by decide +kernel
theorem d_Mod_openSchema_26 : decode b_Mod_openSchema 26 = .ok (.iload_n 2, 1) := by decide +kernel
theorem d_Mod_openSchema_27 : decode b_Mod_openSchema 27 = .ok (.ifCond .ne 7, 3) := by decide +kernel
theorem d_Mod_openSchema_34 : decode b_Mod_openSchema 34 = .ok (.iconst 0, 1) := by decide +kernel
theorem d_Mod_openSchema_30 : decode b_Mod_openSchema 30 = .ok (.iconst 1, 1) := by decide +kernel
theorem d_Mod_openSchema_31 : decode b_Mod_openSchema 31 = .ok (.goto 4, 3) := by decide +kernel
theorem d_Mod_unzigzag_0 : decode b_Mod_unzigzag 0 = .ok (.lload_n 0, 1) := by decide +kernel
theorem d_Mod_unzigzag_1 : decode b_Mod_unzigzag 1 = .ok (.lconst 1, 1) := by decide +kernel
theorem d_Mod_unzigzag_2 : decode b_Mod_unzigzag 2 = .ok (.land, 1) := by decide +kernel
theorem d_Mod_unzigzag_3 : decode b_Mod_unzigzag 3 = .ok (.lconst 0, 1) := by decide +kernel
theorem d_Mod_unzigzag_4 : decode b_Mod_unzigzag 4 = .ok (.lcmp, 1) := by decide +kernel
theorem d_Mod_unzigzag_5 : decode b_Mod_unzigzag 5 = .ok (.ifCond .ne 9, 3) := by decide +kernel
theorem d_Mod_unzigzag_14 : decode b_Mod_unzigzag 14 = .ok (.lload_n 0, 1) := by decide +kernel
theorem d_Mod_unzigzag_15 : decode b_Mod_unzigzag 15 = .ok (.iconst 1, 1) := by decide +kernel
theorem d_Mod_unzigzag_16 : decode b_Mod_unzigzag 16 = .ok (.lushr, 1) := by decide +kernel
theorem d_Mod_unzigzag_17 : decode b_Mod_unzigzag 17 = .ok (.lneg, 1) := by decide +kernel
theorem d_Mod_unzigzag_18 : decode b_Mod_unzigzag 18 = .ok (.lconst 1, 1) := by decide +kernel
theorem d_Mod_unzigzag_19 : decode b_Mod_unzigzag 19 = .ok (.lsub, 1) := by decide +kernel
theorem d_Mod_unzigzag_20 : decode b_Mod_unzigzag 20 = .ok (.lreturn, 1) := by decide +kernel
theorem d_Mod_unzigzag_8 : decode b_Mod_unzigzag 8 = .ok (.lload_n 0, 1) := by decide +kernel
theorem d_Mod_unzigzag_9 : decode b_Mod_unzigzag 9 = .ok (.iconst 1, 1) := by decide +kernel
theorem d_Mod_unzigzag_10 : decode b_Mod_unzigzag 10 = .ok (.lushr, 1) := by decide +kernel
theorem d_Mod_unzigzag_11 : decode b_Mod_unzigzag 11 = .ok (.goto 9, 3) := by decide +kernel
theorem d_Mod_isOne_43 : decode b_Mod_isOne 43 = .ok (.iconst 1, 1) := by decide +kernel
theorem d_Mod_isOne_44 : decode b_Mod_isOne 44 = .ok (.goto 4, 3) := by decide +kernel
theorem d_Mod_isOne_48 : decode b_Mod_isOne 48 = .ok (.ireturn, 1) := by decide +kernel
theorem d_Mod_isOne_19 : decode b_Mod_isOne 19 = .ok (.iconst 1, 1) := by decide +kernel
theorem d_Mod_isOne_20 : decode b_Mod_isOne 20 = .ok (.goto 28, 3) := by decide +kernel
theorem d_Mod_isOne_0 : decode b_Mod_isOne 0 = .ok (.aload_n 0, 1) := by decide +kernel
theorem d_Mod_isOne_1 : decode b_Mod_isOne 1 = .ok (.getfield 623, 3) := by decide +kernel
theorem d_Mod_isOne_4 : decode b_Mod_isOne 4 = .ok (.ifCond .ne 23, 3) := by decide +kernel
theorem d_Mod_isOne_27 : decode b_Mod_isOne 27 = .ok (.aload_n 0, 1) := by decide +kernel
theorem d_Mod_isOne_28 : decode b_Mod_isOne 28 = .ok (.getfield 623, 3) := by decide +kernel
theorem d_Mod_isOne_31 : decode b_Mod_isOne 31 = .ok (.iconst 1, 1) := by decide +kernel
theorem d_Mod_isOne_32 : decode b_Mod_isOne 32 = .ok (.if_icmp .ne 11, 3) := by decide +kernel
theorem d_Mod_isOne_35 : decode b_Mod_isOne 35 = .ok (.lload_n 1, 1) := by decide +kernel
theorem d_Mod_isOne_36 : decode b_Mod_isOne 36 = .ok (.lload_n 1, 1) := by decide +kernel
theorem d_Mod_isOne_37 : decode b_Mod_isOne 37 = .ok (.l2i, 1) := by decide +kernel
theorem d_Mod_isOne_38 : decode b_Mod_isOne 38 = .ok (.i2l, 1) := by decide +kernel
theorem d_Mod_isOne_39 : decode b_Mod_isOne 39 = .ok (.lcmp, 1) := by decide +kernel
theorem d_Mod_isOne_40 : decode b_Mod_isOne 40 = .ok (.ifCond .ne 7, 3) := by decide +kernel
theorem d_Mod_isOne_47 : decode b_Mod_isOne 47 = .ok (.iconst 0, 1) := by decide +kernel
theorem d_Mod_isOne_7 : decode b_Mod_isOne 7 = .ok (.lload_n 1, 1) := by decide +kernel
theorem d_Mod_isOne_8 : decode b_Mod_isOne 8 = .ok (.lconst 0, 1) := by decide +kernel
theorem d_Mod_isOne_9 : decode b_Mod_isOne 9 = .ok (.lcmp, 1) := by decide +kernel
theorem d_Mod_isOne_10 : decode b_Mod_isOne 10 = .ok (.ifCond .eq 9, 3) := by decide +kernel
theorem d_Mod_isOne_13 : decode b_Mod_isOne 13 = .ok (.lload_n 1, 1) := by decide +kernel
theorem d_Mod_isOne_14 : decode b_Mod_isOne 14 = .ok (.lconst 1, 1) := by decide +kernel
theorem d_Mod_isOne_15 : decode b_Mod_isOne 15 = .ok (.lcmp, 1) := by decide +kernel
theorem d_Mod_isOne_16 : decode b_Mod_isOne 16 = .ok (.ifCond .ne 7, 3) := by decide +kernel
theorem d_Mod_isOne_23 : decode b_Mod_isOne 23 = .ok (.iconst 0, 1) := by decide +kernel
theorem d_Mod_isOne_24 : decode b_Mod_isOne 24 = .ok (.goto 24, 3) := by decide +kernel
theorem d_Mod_readTold_185 : decode b_Mod_readTold 185 = .ok (.iload 4, 2) := by decide +kernel
theorem d_Mod_readTold_187 : decode b_Mod_readTold 187 = .ok (.i2l, 1) := by decide +kernel
theorem d_Mod_readTold_188 : decode b_Mod_readTold 188 = .ok (.lload_n 2, 1) := by decide +kernel
theorem d_Mod_readTold_189 : decode b_Mod_readTold 189 = .ok (.lcmp, 1) := by decide +kernel
theorem d_Mod_readTold_190 : decode b_Mod_readTold 190 = .ok (.ifCond .ge 34, 3) := by decide +kernel
theorem d_Mod_readTold_224 : decode b_Mod_readTold 224 = .ok (.aload_n 0, 1) := by decide +kernel
theorem d_Mod_readTold_225 : decode b_Mod_readTold 225 = .ok (.dup, 1) := by decide +kernel
theorem d_Mod_readTold_226 : decode b_Mod_readTold 226 = .ok (.getfield 553, 3) := by decide +kernel
theorem d_Mod_readTold_229 : decode b_Mod_readTold 229 = .ok (.lload_n 2, 1) := by decide +kernel
theorem d_Mod_readTold_230 : decode b_Mod_readTold 230 = .ok (.l2i, 1) := by decide +kernel
theorem d_Mod_readTold_231 : decode b_Mod_readTold 231 = .ok (.iadd, 1) := by decide +kernel
theorem d_Mod_readTold_232 : decode b_Mod_readTold 232 = .ok (.putfield 553, 3) := by decide +kernel
theorem d_Mod_readTold_235 : decode b_Mod_readTold 235 = .ok (.return_, 1) := by decide +kernel
theorem d_Mod_readTold_193 : decode b_Mod_readTold 193 = .ok (.aload_n 0, 1) := by decide +kernel
theorem d_Mod_readTold_194 : decode b_Mod_readTold 194 = .ok (.getfield 157, 3) := by decide +kernel
theorem d_Mod_readTold_197 : decode b_Mod_readTold 197 = .ok (.sipush 256, 3) := by decide +kernel
theorem d_Mod_readTold_200 : decode b_Mod_readTold 200 = .ok (.iload_n 1, 1) := by decide +kernel
theorem d_Mod_readTold_201 : decode b_Mod_readTold 201 = .ok (.imul, 1) := by decide +kernel
theorem d_Mod_readTold_202 : decode b_Mod_readTold 202 = .ok (.iload 4, 2) := by decide +kernel
theorem d_Mod_readTold_204 : decode b_Mod_readTold 204 = .ok (.iadd, 1) := by decide +kernel
theorem d_Mod_readTold_205 : decode b_Mod_readTold 205 = .ok (.aload_n 0, 1) := by decide +kernel
theorem d_Mod_readTold_206 : decode b_Mod_readTold 206 = .ok (.getfield 133, 3) := by decide +kernel
theorem d_Mod_readTold_209 : decode b_Mod_readTold 209 = .ok (.aload_n 0, 1) := by decide +kernel
theorem d_Mod_readTold_210 : decode b_Mod_readTold 210 = .ok (.getfield 553, 3) := by decide +kernel
theorem d_Mod_readTold_213 : decode b_Mod_readTold 213 = .ok (.iload 4, 2) := by decide +kernel
theorem d_Mod_readTold_215 : decode b_Mod_readTold 215 = .ok (.iadd, 1) := by decide +kernel
theorem d_Mod_readTold_216 : decode b_Mod_readTold 216 = .ok (.iaload, 1) := by decide +kernel
theorem d_Mod_readTold_217 : decode b_Mod_readTold 217 = .ok (.iastore, 1) := by decide +kernel
theorem d_Mod_readTold_218 : decode b_Mod_readTold 218 = .ok (.iinc 4 1, 3) := by decide +kernel
theorem d_Mod_readTold_221 : decode b_Mod_readTold 221 = .ok (.goto (-36), 3) := by decide +kernel
theorem d_Mod_readTold_166 : decode b_Mod_readTold 166 = .ok (.aload_n 0, 1) := by decide +kernel
theorem d_Mod_readTold_167 : decode b_Mod_readTold 167 = .ok (.getfield 550, 3) := by decide +kernel
theorem d_Mod_readTold_170 : decode b_Mod_readTold 170 = .ok (.ifCond .eq 4, 3) := by decide +kernel
theorem d_Mod_readTold_174 : decode b_Mod_readTold 174 = .ok (.aload_n 0, 1) := by decide +kernel
theorem d_Mod_readTold_175 : decode b_Mod_readTold 175 = .ok (.getfield 154, 3) := by decide +kernel
theorem d_Mod_readTold_178 : decode b_Mod_readTold 178 = .ok (.iload_n 1, 1) := by decide +kernel
theorem d_Mod_readTold_179 : decode b_Mod_readTold 179 = .ok (.lload_n 2, 1) := by decide +kernel
theorem d_Mod_readTold_180 : decode b_Mod_readTold 180 = .ok (.l2i, 1) := by decide +kernel
theorem d_Mod_readTold_181 : decode b_Mod_readTold 181 = .ok (.iastore, 1) := by decide +kernel
theorem d_Mod_readTold_182 : decode b_Mod_readTold 182 = .ok (.iconst 0, 1) := by decide +kernel
theorem d_Mod_readTold_183 : decode b_Mod_readTold 183 = .ok (.istore 4, 2) := by decide +kernel
theorem d_Mod_readTold_173 : decode b_Mod_readTold 173 = .ok (.return_, 1) := by decide +kernel
theorem d_Mod_readTold_139 : decode b_Mod_readTold 139 = .ok (.aload_n 0, 1) := by decide +kernel
theorem d_Mod_readTold_140 : decode b_Mod_readTold 140 = .ok (.getfield 550, 3) := by decide +kernel
theorem d_Mod_readTold_143 : decode b_Mod_readTold 143 = .ok (.ifCond .ne 23, 3) := by decide +kernel
theorem d_Mod_readTold_146 : decode b_Mod_readTold 146 = .ok (.aload_n 0, 1) := by decide +kernel
theorem d_Mod_readTold_147 : decode b_Mod_readTold 147 = .ok (.getfield 608, 3) := by decide +kernel
theorem d_Mod_readTold_150 : decode b_Mod_readTold 150 = .ok (.aload_n 0, 1) := by decide +kernel
theorem d_Mod_readTold_151 : decode b_Mod_readTold 151 = .ok (.getfield 553, 3) := by decide +kernel
theorem d_Mod_readTold_154 : decode b_Mod_readTold 154 = .ok (.isub, 1) := by decide +kernel
theorem d_Mod_readTold_155 : decode b_Mod_readTold 155 = .ok (.i2l, 1) := by decide +kernel
theorem d_Mod_readTold_156 : decode b_Mod_readTold 156 = .ok (.lload_n 2, 1) := by decide +kernel
theorem d_Mod_readTold_157 : decode b_Mod_readTold 157 = .ok (.lcmp, 1) := by decide +kernel
theorem d_Mod_readTold_158 : decode b_Mod_readTold 158 = .ok (.ifCond .ge 8, 3) := by decide +kernel
theorem d_Mod_readTold_161 : decode b_Mod_readTold 161 = .ok (.aload_n 0, 1) := by decide +kernel
theorem d_Mod_readTold_162 : decode b_Mod_readTold 162 = .ok (.iconst 1, 1) := by decide +kernel
theorem d_Mod_readTold_163 : decode b_Mod_readTold 163 = .ok (.putfield 550, 3) := by decide +kernel
theorem d_Mod_readTold_133 : decode b_Mod_readTold 133 = .ok (.aload_n 0, 1) := by decide +kernel
theorem d_Mod_readTold_134 : decode b_Mod_readTold 134 = .ok (.bipush 7, 2) := by decide +kernel
theorem d_Mod_readTold_136 : decode b_Mod_readTold 136 = .ok (.putfield 550, 3) := by decide +kernel
theorem d_Mod_readTold_0 : decode b_Mod_readTold 0 = .ok (.aload_n 0, 1) := by decide +kernel
theorem d_Mod_readTold_1 : decode b_Mod_readTold 1 = .ok (.getfield 623, 3) := by decide +kernel
theorem d_Mod_readTold_4 : decode b_Mod_readTold 4 = .ok (.ifCond .ne 45, 3) := by decide +kernel
theorem d_Mod_readTold_49 : decode b_Mod_readTold 49 = .ok (.aload_n 0, 1) := by decide +kernel
theorem d_Mod_readTold_50 : decode b_Mod_readTold 50 = .ok (.getfield 623, 3) := by decide +kernel
theorem d_Mod_readTold_53 : decode b_Mod_readTold 53 = .ok (.iconst 3, 1) := by decide +kernel
theorem d_Mod_readTold_54 : decode b_Mod_readTold 54 = .ok (.if_icmp .eq 49, 3) := by decide +kernel
theorem d_Mod_readTold_103 : decode b_Mod_readTold 103 = .ok (.aload_n 0, 1) := by decide +kernel
theorem d_Mod_readTold_104 : decode b_Mod_readTold 104 = .ok (.aload_n 0, 1) := by decide +kernel
theorem d_Mod_readTold_105 : decode b_Mod_readTold 105 = .ok (.getfield 608, 3) := by decide +kernel
theorem d_Mod_readTold_108 : decode b_Mod_readTold 108 = .ok (.invokevirtual 571, 3) := by decide +kernel
theorem d_Mod_readTold_111 : decode b_Mod_readTold 111 = .ok (.lstore_n 2, 1) := by decide +kernel
theorem d_Mod_readTold_112 : decode b_Mod_readTold 112 = .ok (.aload_n 0, 1) := by decide +kernel
theorem d_Mod_readTold_113 : decode b_Mod_readTold 113 = .ok (.getfield 550, 3) := by decide +kernel
theorem d_Mod_readTold_116 : decode b_Mod_readTold 116 = .ok (.ifCond .ne 23, 3) := by decide +kernel
theorem d_Mod_readTold_119 : decode b_Mod_readTold 119 = .ok (.lload_n 2, 1) := by decide +kernel
theorem d_Mod_readTold_120 : decode b_Mod_readTold 120 = .ok (.lconst 0, 1) := by decide +kernel
theorem d_Mod_readTold_121 : decode b_Mod_readTold 121 = .ok (.lcmp, 1) := by decide +kernel
theorem d_Mod_readTold_122 : decode b_Mod_readTold 122 = .ok (.ifCond .lt 11, 3) := by decide +kernel
theorem d_Mod_readTold_125 : decode b_Mod_readTold 125 = .ok (.lload_n 2, 1) := by decide +kernel
theorem d_Mod_readTold_126 : decode b_Mod_readTold 126 = .ok (.ldc2_w 686, 3) := by decide +kernel
theorem d_Mod_readTold_129 : decode b_Mod_readTold 129 = .ok (.lcmp, 1) := by decide +kernel
theorem d_Mod_readTold_130 : decode b_Mod_readTold 130 = .ok (.ifCond .le 9, 3) := by decide +kernel
theorem d_Mod_readTold_57 : decode b_Mod_readTold 57 = .ok (.aload_n 0, 1) := by decide +kernel
theorem d_Mod_readTold_58 : decode b_Mod_readTold 58 = .ok (.getfield 151, 3) := by decide +kernel
theorem d_Mod_readTold_61 : decode b_Mod_readTold 61 = .ok (.iload_n 1, 1) := by decide +kernel
theorem d_Mod_readTold_62 : decode b_Mod_readTold 62 = .ok (.aload_n 0, 1) := by decide +kernel
theorem d_Mod_readTold_63 : decode b_Mod_readTold 63 = .ok (.aload_n 0, 1) := by decide +kernel
theorem d_Mod_readTold_64 : decode b_Mod_readTold 64 = .ok (.getfield 608, 3) := by decide +kernel
theorem d_Mod_readTold_67 : decode b_Mod_readTold 67 = .ok (.invokevirtual 571, 3) := by decide +kernel
theorem d_Mod_readTold_70 : decode b_Mod_readTold 70 = .ok (.invokestatic 616, 3) := by decide +kernel
theorem d_Mod_readTold_73 : decode b_Mod_readTold 73 = .ok (.lastore, 1) := by decide +kernel
theorem d_Mod_readTold_74 : decode b_Mod_readTold 74 = .ok (.aload_n 0, 1) := by decide +kernel
theorem d_Mod_readTold_75 : decode b_Mod_readTold 75 = .ok (.getfield 550, 3) := by decide +kernel
theorem d_Mod_readTold_78 : decode b_Mod_readTold 78 = .ok (.ifCond .ne 157, 3) := by decide +kernel
theorem d_Mod_readTold_81 : decode b_Mod_readTold 81 = .ok (.aload_n 0, 1) := by decide +kernel
theorem d_Mod_readTold_82 : decode b_Mod_readTold 82 = .ok (.aload_n 0, 1) := by decide +kernel
theorem d_Mod_readTold_83 : decode b_Mod_readTold 83 = .ok (.getfield 151, 3) := by decide +kernel
theorem d_Mod_readTold_86 : decode b_Mod_readTold 86 = .ok (.iload_n 1, 1) := by decide +kernel
theorem d_Mod_readTold_87 : decode b_Mod_readTold 87 = .ok (.laload, 1) := by decide +kernel
theorem d_Mod_readTold_88 : decode b_Mod_readTold 88 = .ok (.invokevirtual 724, 3) := by decide +kernel
theorem d_Mod_readTold_91 : decode b_Mod_readTold 91 = .ok (.ifCond .ne 144, 3) := by decide +kernel
theorem d_Mod_readTold_94 : decode b_Mod_readTold 94 = .ok (.aload_n 0, 1) := by decide +kernel
theorem d_Mod_readTold_95 : decode b_Mod_readTold 95 = .ok (.bipush 7, 2) := by decide +kernel
theorem d_Mod_readTold_97 : decode b_Mod_readTold 97 = .ok (.putfield 550, 3) := by decide +kernel
theorem d_Mod_readTold_100 : decode b_Mod_readTold 100 = .ok (.goto 135, 3) := by decide +kernel
theorem d_Mod_readTold_7 : decode b_Mod_readTold 7 = .ok (.aload_n 0, 1) := by decide +kernel
theorem d_Mod_readTold_8 : decode b_Mod_readTold 8 = .ok (.getfield 151, 3) := by decide +kernel
theorem d_Mod_readTold_11 : decode b_Mod_readTold 11 = .ok (.iload_n 1, 1) := by decide +kernel
theorem d_Mod_readTold_12 : decode b_Mod_readTold 12 = .ok (.aload_n 0, 1) := by decide +kernel
theorem d_Mod_readTold_13 : decode b_Mod_readTold 13 = .ok (.iconst 1, 1) := by decide +kernel
theorem d_Mod_readTold_14 : decode b_Mod_readTold 14 = .ok (.aload_n 0, 1) := by decide +kernel
theorem d_Mod_readTold_15 : decode b_Mod_readTold 15 = .ok (.getfield 608, 3) := by decide +kernel
theorem d_Mod_readTold_18 : decode b_Mod_readTold 18 = .ok (.invokevirtual 717, 3) := by decide +kernel
theorem d_Mod_readTold_21 : decode b_Mod_readTold 21 = .ok (.lastore, 1) := by decide +kernel
theorem d_Mod_readTold_22 : decode b_Mod_readTold 22 = .ok (.aload_n 0, 1) := by decide +kernel
theorem d_Mod_readTold_23 : decode b_Mod_readTold 23 = .ok (.getfield 550, 3) := by decide +kernel
theorem d_Mod_readTold_26 : decode b_Mod_readTold 26 = .ok (.ifCond .ne 209, 3) := by decide +kernel
theorem d_Mod_readTold_29 : decode b_Mod_readTold 29 = .ok (.aload_n 0, 1) := by decide +kernel
theorem d_Mod_readTold_30 : decode b_Mod_readTold 30 = .ok (.getfield 151, 3) := by decide +kernel
theorem d_Mod_readTold_33 : decode b_Mod_readTold 33 = .ok (.iload_n 1, 1) := by decide +kernel
theorem d_Mod_readTold_34 : decode b_Mod_readTold 34 = .ok (.laload, 1) := by decide +kernel
theorem d_Mod_readTold_35 : decode b_Mod_readTold 35 = .ok (.lconst 1, 1) := by decide +kernel
theorem d_Mod_readTold_36 : decode b_Mod_readTold 36 = .ok (.lcmp, 1) := by decide +kernel
theorem d_Mod_readTold_37 : decode b_Mod_readTold 37 = .ok (.ifCond .le 198, 3) := by decide +kernel
theorem d_Mod_readTold_40 : decode b_Mod_readTold 40 = .ok (.aload_n 0, 1) := by decide +kernel
theorem d_Mod_readTold_41 : decode b_Mod_readTold 41 = .ok (.bipush 7, 2) := by decide +kernel
theorem d_Mod_readTold_43 : decode b_Mod_readTold 43 = .ok (.putfield 550, 3) := by decide +kernel
theorem d_Mod_readTold_46 : decode b_Mod_readTold 46 = .ok (.goto 189, 3) := by decide +kernel
section
variable (l : Launch) (dC : Nat → ClassId) (dI : Nat → Nat → Nat) (cI cB cJ cZ : ClassId)
set_option maxRecDepth 100000 in
set_option maxHeartbeats 4000000 in
set_option maxRecDepth 100000 in
theorem t_Mod_openSchema_158 {p : Program} {l : Launch} {e : Env} {R : Room} {s : State} {m : MethodId} {args : Array Value} {below : List Frame} {meth : Method} {c : Code} {cells slots : Nat} {Q : State → Prop} {dC : Nat → ClassId} {dI : Nat → Nat → Nat} {cI cB cJ cZ : ClassId} {A : Nat → Prop} {ad : Nat → Nat} {post : St → Prop} {rec67 : Int32 → Int32 → Int32 → St → Prop} (hx : p.tables.exec = Jvm.exec) (hb : c.code = b_Mod_openSchema) (hml : c.maxLocals = 6) (hown : s.vm.findClass R_Mod = some m.cls) (hT : ∀ w ∈ TG, w.before args s = true) (hK : va_K (dC, dI) CL (TY cI cB cJ cZ) s) (hN : NW s) (hA : ∀ q : Nat, s.heap.size ≤ q → A q) (hRc : cells ≤ R.cells) (hRs : slots ≤ R.slots) (hRf : 4 ≤ R.frames) (hRl : 97 ≤ R.locals) (hret : ∀ (x : St) (H : Heap) (locs : List Loc) (pc : Nat) (ls : Array Slot), decode b_Mod_openSchema pc = .ok (.return_, 1) → post x → Wd dC dI cI cB cJ cZ ad stM kcM 115 A x H → va_S A s.heap H locs → W p l e R s m args below meth c H locs cells slots Q (F0 m pc ls [])) (hrec67 : ∀ (l1 : Int32) (l2 : Int32) (l3 : Int32) (x : St) (H : Heap) (locs : List Loc) (ls : Array Slot), rec67 l1 l2 l3 x → Wd dC dI cI cB cJ cZ ad stM kcM 115 A x H → va_S A s.heap H locs → lv_has ls 6 [(0, .ref (ad 0)), (1, .int l1), (2, .int l2), (3, .int l3)] → W p l e R s m args below meth c H locs cells slots Q (F0 m 67 ls [])) : ∀ (l1 : Int32) (l2 : Int32) (l3 : Int32) (l4 : Int32) (l5 : Int32) (s0 : Int32) (x : St) (H : Heap) (locs : List Loc) (ls : Array Slot), j_Mod_openSchema_158 post rec67 l1 l2 l3 l4 l5 s0 x → Wd dC dI cI cB cJ cZ ad stM kcM 115 A x H → va_S A s.heap H locs → lv_has ls 6 [(0, .ref (ad 0)), (1, .int l1), (2, .int l2), (3, .int l3), (4, .int l4), (5, .int l5)] → W p l e R s m args below meth c H locs cells slots Q (F0 m 158 ls [.int s0, .ref (ad 0)]) := by
  intro l1 l2 l3 l4 l5 s0 x H locs ls  hw hW hS hl
  unfold j_Mod_openSchema_158 at hw
  refine lv_bipush (v := 15) hx hb d_Mod_openSchema_158 (by decide) ?_
  have hF := hW.free hS hA
  refine va_callv (va_runV (C := R_Mod) (As := [.int s0, .int 15]) (rest := []) ⟨hx, hb, hml, hown, hT⟩ (k_Mod_faults l dC dI cI cB cJ cZ ad H.size s0 15 x  hw) ⟨callB_of 2 hT (gwt_in w_12_107) rfl rfl rfl (hT _ w_1_15) (hT _ w_12_104) (by decide +kernel) ⟨Nat.le_trans (Nat.le_of_ble_eq_true rfl) hRf, Nat.le_trans (Nat.le_of_ble_eq_true rfl) hRl⟩, hT _ w_12_106, hT _ ws_183⟩ ⟨PW.blind, va_recv hK hW.1 (ci := 12) (q0 := 0) rfl (pic_obj ko_0.1 ko_0.2 (by decide)), PW.at _ hW hK hN⟩ rfl rfl hl.1 rfl (lv_room (Nat.le_of_ble_eq_true rfl)) d_Mod_openSchema_160 ⟨hRc, hRs⟩) hS (fun q _ h => hF q h) hF (fun  x989 t H locs ht hvm hw hB hz1 hk1 hS => ?_)
  have hW := Wd.back hB ht hF
  clear hB ht hF hz1 hk1 hvm
  refine lv_iinc (v := (l3 + 1)) (lv' := [(3, .int (l3 + 1)), (0, .ref (ad 0)), (1, .int l1), (2, .int l2), (4, .int l4), (5, .int l5)]) hx hb d_Mod_openSchema_163 hl (k := 3) rfl rfl (by decide) rfl (fun ls hl => ?_)
  refine lv_goto (tgt := 67) hx hb d_Mod_openSchema_166 (by decide) ?_
  exact hrec67 l1 l2 (l3 + 1) x989 H locs ls  hw hW hS (lv_sub hl [1, 2, 3, 0] rfl)
set_option maxRecDepth 100000 in
set_option maxHeartbeats 4000000 in
set_option maxRecDepth 100000 in
theorem t_Mod_openSchema_139 {p : Program} {l : Launch} {e : Env} {R : Room} {s : State} {m : MethodId} {args : Array Value} {below : List Frame} {meth : Method} {c : Code} {cells slots : Nat} {Q : State → Prop} {dC : Nat → ClassId} {dI : Nat → Nat → Nat} {cI cB cJ cZ : ClassId} {A : Nat → Prop} {ad : Nat → Nat} {post : St → Prop} {rec67 : Int32 → Int32 → Int32 → St → Prop} {rec103 : Int32 → Int32 → Int32 → Int32 → Int32 → St → Prop} (hx : p.tables.exec = Jvm.exec) (hb : c.code = b_Mod_openSchema) (hml : c.maxLocals = 6) (hown : s.vm.findClass R_Mod = some m.cls) (hT : ∀ w ∈ TG, w.before args s = true) (hK : va_K (dC, dI) CL (TY cI cB cJ cZ) s) (hN : NW s) (hA : ∀ q : Nat, s.heap.size ≤ q → A q) (hRc : cells ≤ R.cells) (hRs : slots ≤ R.slots) (hRf : 4 ≤ R.frames) (hRl : 97 ≤ R.locals) (hret : ∀ (x : St) (H : Heap) (locs : List Loc) (pc : Nat) (ls : Array Slot), decode b_Mod_openSchema pc = .ok (.return_, 1) → post x → Wd dC dI cI cB cJ cZ ad stM kcM 115 A x H → va_S A s.heap H locs → W p l e R s m args below meth c H locs cells slots Q (F0 m pc ls [])) (hrec67 : ∀ (l1 : Int32) (l2 : Int32) (l3 : Int32) (x : St) (H : Heap) (locs : List Loc) (ls : Array Slot), rec67 l1 l2 l3 x → Wd dC dI cI cB cJ cZ ad stM kcM 115 A x H → va_S A s.heap H locs → lv_has ls 6 [(0, .ref (ad 0)), (1, .int l1), (2, .int l2), (3, .int l3)] → W p l e R s m args below meth c H locs cells slots Q (F0 m 67 ls [])) (hrec103 : ∀ (l1 : Int32) (l2 : Int32) (l3 : Int32) (l4 : Int32) (l5 : Int32) (x : St) (H : Heap) (locs : List Loc) (ls : Array Slot), rec103 l1 l2 l3 l4 l5 x → Wd dC dI cI cB cJ cZ ad stM kcM 115 A x H → va_S A s.heap H locs → lv_has ls 6 [(0, .ref (ad 0)), (1, .int l1), (2, .int l2), (3, .int l3), (4, .int l4), (5, .int l5)] → W p l e R s m args below meth c H locs cells slots Q (F0 m 103 ls [])) : ∀ (l1 : Int32) (l2 : Int32) (l3 : Int32) (l4 : Int32) (l5 : Int32) (s0 : Int32) (x : St) (H : Heap) (locs : List Loc) (ls : Array Slot), j_Mod_openSchema_139 post rec67 rec103 l1 l2 l3 l4 l5 s0 x → Wd dC dI cI cB cJ cZ ad stM kcM 115 A x H → va_S A s.heap H locs → lv_has ls 6 [(0, .ref (ad 0)), (1, .int l1), (2, .int l2), (3, .int l3), (4, .int l4), (5, .int l5)] → W p l e R s m args below meth c H locs cells slots Q (F0 m 139 ls [.int s0]) := by
  intro l1 l2 l3 l4 l5 s0 x H locs ls  hw hW hS hl
  unfold j_Mod_openSchema_139 at hw
  refine lv_istore (lv' := [(4, .int s0), (0, .ref (ad 0)), (1, .int l1), (2, .int l2), (3, .int l3), (5, .int l5)]) hx hb d_Mod_openSchema_139 hl (by decide) rfl (fun ls hl => ?_)
  refine lv_iinc (v := (l5 + 1)) (lv' := [(5, .int (l5 + 1)), (4, .int s0), (0, .ref (ad 0)), (1, .int l1), (2, .int l2), (3, .int l3)]) hx hb d_Mod_openSchema_141 hl (k := 5) rfl rfl (by decide) rfl (fun ls hl => ?_)
  refine lv_goto (tgt := 103) hx hb d_Mod_openSchema_144 (by decide) ?_
  exact hrec103 l1 l2 l3 s0 (l5 + 1) x H locs ls  hw hW hS (lv_sub hl [2, 3, 4, 5, 1, 0] rfl)
set_option maxRecDepth 100000 in
set_option maxHeartbeats 4000000 in
set_option maxRecDepth 100000 in
theorem t_Mod_openSchema_134 {p : Program} {l : Launch} {e : Env} {R : Room} {s : State} {m : MethodId} {args : Array Value} {below : List Frame} {meth : Method} {c : Code} {cells slots : Nat} {Q : State → Prop} {dC : Nat → ClassId} {dI : Nat → Nat → Nat} {cI cB cJ cZ : ClassId} {A : Nat → Prop} {ad : Nat → Nat} {post : St → Prop} {rec67 : Int32 → Int32 → Int32 → St → Prop} {rec103 : Int32 → Int32 → Int32 → Int32 → Int32 → St → Prop} (hx : p.tables.exec = Jvm.exec) (hb : c.code = b_Mod_openSchema) (hml : c.maxLocals = 6) (hown : s.vm.findClass R_Mod = some m.cls) (hT : ∀ w ∈ TG, w.before args s = true) (hK : va_K (dC, dI) CL (TY cI cB cJ cZ) s) (hN : NW s) (hA : ∀ q : Nat, s.heap.size ≤ q → A q) (hRc : cells ≤ R.cells) (hRs : slots ≤ R.slots) (hRf : 4 ≤ R.frames) (hRl : 97 ≤ R.locals) (hret : ∀ (x : St) (H : Heap) (locs : List Loc) (pc : Nat) (ls : Array Slot), decode b_Mod_openSchema pc = .ok (.return_, 1) → post x → Wd dC dI cI cB cJ cZ ad stM kcM 115 A x H → va_S A s.heap H locs → W p l e R s m args below meth c H locs cells slots Q (F0 m pc ls [])) (hrec67 : ∀ (l1 : Int32) (l2 : Int32) (l3 : Int32) (x : St) (H : Heap) (locs : List Loc) (ls : Array Slot), rec67 l1 l2 l3 x → Wd dC dI cI cB cJ cZ ad stM kcM 115 A x H → va_S A s.heap H locs → lv_has ls 6 [(0, .ref (ad 0)), (1, .int l1), (2, .int l2), (3, .int l3)] → W p l e R s m args below meth c H locs cells slots Q (F0 m 67 ls [])) (hrec103 : ∀ (l1 : Int32) (l2 : Int32) (l3 : Int32) (l4 : Int32) (l5 : Int32) (x : St) (H : Heap) (locs : List Loc) (ls : Array Slot), rec103 l1 l2 l3 l4 l5 x → Wd dC dI cI cB cJ cZ ad stM kcM 115 A x H → va_S A s.heap H locs → lv_has ls 6 [(0, .ref (ad 0)), (1, .int l1), (2, .int l2), (3, .int l3), (4, .int l4), (5, .int l5)] → W p l e R s m args below meth c H locs cells slots Q (F0 m 103 ls [])) : ∀ (l1 : Int32) (l2 : Int32) (l3 : Int32) (l4 : Int32) (l5 : Int32) (x : St) (H : Heap) (locs : List Loc) (ls : Array Slot), j_Mod_openSchema_134 post rec67 rec103 l1 l2 l3 l4 l5 x → Wd dC dI cI cB cJ cZ ad stM kcM 115 A x H → va_S A s.heap H locs → lv_has ls 6 [(0, .ref (ad 0)), (1, .int l1), (2, .int l2), (3, .int l3), (4, .int l4), (5, .int l5)] → W p l e R s m args below meth c H locs cells slots Q (F0 m 134 ls []) := by
  intro l1 l2 l3 l4 l5 x H locs ls  hw hW hS hl
  unfold j_Mod_openSchema_134 at hw
  refine lv_iconst (v := 1) hx hb d_Mod_openSchema_134 (by decide) ?_
  refine lv_goto (tgt := 139) hx hb d_Mod_openSchema_135 (by decide) ?_
  exact t_Mod_openSchema_139 hx hb hml hown hT hK hN hA hRc hRs hRf hRl hret hrec67 hrec103 l1 l2 l3 l4 l5 1 x H locs ls  hw hW hS (lv_sub hl [0, 1, 2, 3, 4, 5] rfl)
set_option maxRecDepth 100000 in
set_option maxHeartbeats 4000000 in
set_option maxRecDepth 100000 in
theorem t_Mod_openSchema_103 {p : Program} {l : Launch} {e : Env} {R : Room} {s : State} {m : MethodId} {args : Array Value} {below : List Frame} {meth : Method} {c : Code} {cells slots : Nat} {Q : State → Prop} {dC : Nat → ClassId} {dI : Nat → Nat → Nat} {cI cB cJ cZ : ClassId} {A : Nat → Prop} {ad : Nat → Nat} {post : St → Prop} {rec67 : Int32 → Int32 → Int32 → St → Prop} {rec103 : Int32 → Int32 → Int32 → Int32 → Int32 → St → Prop} (hx : p.tables.exec = Jvm.exec) (hb : c.code = b_Mod_openSchema) (hml : c.maxLocals = 6) (hown : s.vm.findClass R_Mod = some m.cls) (hT : ∀ w ∈ TG, w.before args s = true) (hK : va_K (dC, dI) CL (TY cI cB cJ cZ) s) (hN : NW s) (hA : ∀ q : Nat, s.heap.size ≤ q → A q) (hRc : cells ≤ R.cells) (hRs : slots ≤ R.slots) (hRf : 4 ≤ R.frames) (hRl : 97 ≤ R.locals) (hret : ∀ (x : St) (H : Heap) (locs : List Loc) (pc : Nat) (ls : Array Slot), decode b_Mod_openSchema pc = .ok (.return_, 1) → post x → Wd dC dI cI cB cJ cZ ad stM kcM 115 A x H → va_S A s.heap H locs → W p l e R s m args below meth c H locs cells slots Q (F0 m pc ls [])) (hrec67 : ∀ (l1 : Int32) (l2 : Int32) (l3 : Int32) (x : St) (H : Heap) (locs : List Loc) (ls : Array Slot), rec67 l1 l2 l3 x → Wd dC dI cI cB cJ cZ ad stM kcM 115 A x H → va_S A s.heap H locs → lv_has ls 6 [(0, .ref (ad 0)), (1, .int l1), (2, .int l2), (3, .int l3)] → W p l e R s m args below meth c H locs cells slots Q (F0 m 67 ls [])) (hrec103 : ∀ (l1 : Int32) (l2 : Int32) (l3 : Int32) (l4 : Int32) (l5 : Int32) (x : St) (H : Heap) (locs : List Loc) (ls : Array Slot), rec103 l1 l2 l3 l4 l5 x → Wd dC dI cI cB cJ cZ ad stM kcM 115 A x H → va_S A s.heap H locs → lv_has ls 6 [(0, .ref (ad 0)), (1, .int l1), (2, .int l2), (3, .int l3), (4, .int l4), (5, .int l5)] → W p l e R s m args below meth c H locs cells slots Q (F0 m 103 ls [])) : ∀ (l1 : Int32) (l2 : Int32) (l3 : Int32) (l4 : Int32) (l5 : Int32) (x : St) (H : Heap) (locs : List Loc) (ls : Array Slot), j_Mod_openSchema_103 post rec67 rec103 l1 l2 l3 l4 l5 x → Wd dC dI cI cB cJ cZ ad stM kcM 115 A x H → va_S A s.heap H locs → lv_has ls 6 [(0, .ref (ad 0)), (1, .int l1), (2, .int l2), (3, .int l3), (4, .int l4), (5, .int l5)] → W p l e R s m args below meth c H locs cells slots Q (F0 m 103 ls []) := by
  intro l1 l2 l3 l4 l5 x H locs ls  hw hW hS hl
  unfold j_Mod_openSchema_103 at hw
  refine lv_iload hx hb d_Mod_openSchema_103 (lv_at hl 5 rfl) ?_
  refine lv_aload_n hx hb d_Mod_openSchema_105 rfl (lv_at hl 0 rfl) ?_
  refine w_getf (q := 9) (k := 11) (t := 12) (C := R_Mod) (T := F_Mod) (N := 167) hx hb hT hown hK hW ko_0.1 ko_0.2 (by decide) in_Mod rfl rfl (by decide) rfl fr_Mod_11 w_8_187 d_Mod_openSchema_106 rfl ?_
  refine lv_iconst (v := 2) hx hb d_Mod_openSchema_109 (by decide) ?_
  obtain ⟨hi, hw⟩ := hw
  refine w_iald (o := 9) hx hb hK hW ko_9.1 ko_9.2 hi d_Mod_openSchema_110 ?_
  refine lv_icmp_ge (tgt := 147) hx hb d_Mod_openSchema_111 (by decide) (fun c990 => ?_) (fun c990 => ?_)
  · have hw := hw.1 c990
    refine lv_aload_n hx hb d_Mod_openSchema_147 rfl (lv_at hl 0 rfl) ?_
    refine lv_iload hx hb d_Mod_openSchema_148 (lv_at hl 4 rfl) ?_
    refine lv_if_ne (tgt := 157) hx hb d_Mod_openSchema_150 (by decide) (fun c991 => ?_) (fun c991 => ?_)
    · have hw := hw.1 c991
      refine lv_iconst (v := 0) hx hb d_Mod_openSchema_157 (by decide) ?_
      exact t_Mod_openSchema_158 hx hb hml hown hT hK hN hA hRc hRs hRf hRl hret hrec67 l1 l2 l3 l4 l5 0 x H locs ls  hw hW hS (lv_sub hl [0, 1, 2, 3, 4, 5] rfl)
    · have hw := hw.2 c991
      refine lv_iconst (v := 1) hx hb d_Mod_openSchema_153 (by decide) ?_
      refine lv_goto (tgt := 158) hx hb d_Mod_openSchema_154 (by decide) ?_
      exact t_Mod_openSchema_158 hx hb hml hown hT hK hN hA hRc hRs hRf hRl hret hrec67 l1 l2 l3 l4 l5 1 x H locs ls  hw hW hS (lv_sub hl [0, 1, 2, 3, 4, 5] rfl)
  · have hw := hw.2 c990
    refine lv_iload hx hb d_Mod_openSchema_114 (lv_at hl 4 rfl) ?_
    refine lv_if_ne (tgt := 134) hx hb d_Mod_openSchema_116 (by decide) (fun c992 => ?_) (fun c992 => ?_)
    · have hw := hw.1 c992
      exact t_Mod_openSchema_134 hx hb hml hown hT hK hN hA hRc hRs hRf hRl hret hrec67 hrec103 l1 l2 l3 l4 l5 x H locs ls  hw hW hS (lv_sub hl [0, 1, 2, 3, 4, 5] rfl)
    · have hw := hw.2 c992
      refine lv_aload_n hx hb d_Mod_openSchema_119 rfl (lv_at hl 0 rfl) ?_
      refine w_getf (q := 5) (k := 7) (t := 12) (C := R_Mod) (T := F_Mod) (N := 167) hx hb hT hown hK hW ko_0.1 ko_0.2 (by decide) in_Mod rfl rfl (by decide) rfl fr_Mod_7 w_8_183 d_Mod_openSchema_120 rfl ?_
      refine lv_iconst (v := 2) hx hb d_Mod_openSchema_123 (by decide) ?_
      refine lv_iload hx hb d_Mod_openSchema_124 (lv_at hl 5 rfl) ?_
      have hF := hW.free hS hA
      refine va_calli (va_runS (As := [.int 2, .int l5]) (rest := [.ref (ad 5)]) ⟨hx, hb, hml, hown, hT⟩ (k_Mod_place l dC dI cI cB cJ cZ ad H.size 2 l5 x  hw) ⟨callB_of 2 hT (gwt_in w_11_30) rfl rfl rfl (hT _ w_1_15) (hT _ w_11_28) (by decide +kernel) ⟨Nat.le_trans (Nat.le_of_ble_eq_true rfl) hRf, Nat.le_trans (Nat.le_of_ble_eq_true rfl) hRl⟩, hT _ w_11_29⟩ ⟨PW.blind, PW.at _ hW hK hN⟩ rfl rfl hl.1 rfl (lv_room (Nat.le_of_ble_eq_true rfl)) d_Mod_openSchema_126 ⟨hRc, hRs⟩) hS (fun q _ h => hF q h) hF (fun r994 x993 t H locs ht hvm hw hB hz1 hk1 hS => ?_)
      have hW := Wd.back hB ht hF
      clear hB ht hF hz1 hk1 hvm
      obtain ⟨hi, hw⟩ := hw
      refine w_iald (o := 5) hx hb hK hW ko_5.1 ko_5.2 hi d_Mod_openSchema_129 ?_
      refine lv_iload_n hx hb d_Mod_openSchema_130 rfl (lv_at hl 3 rfl) ?_
      refine lv_icmp_ne (tgt := 138) hx hb d_Mod_openSchema_131 (by decide) (fun c995 => ?_) (fun c995 => ?_)
      · have hw := hw.1 c995
        refine lv_iconst (v := 0) hx hb d_Mod_openSchema_138 (by decide) ?_
        exact t_Mod_openSchema_139 hx hb hml hown hT hK hN hA hRc hRs hRf hRl hret hrec67 hrec103 l1 l2 l3 l4 l5 0 x993 H locs ls  hw hW hS (lv_sub hl [0, 1, 2, 3, 4, 5] rfl)
      · have hw := hw.2 c995
        exact t_Mod_openSchema_134 hx hb hml hown hT hK hN hA hRc hRs hRf hRl hret hrec67 hrec103 l1 l2 l3 l4 l5 x993 H locs ls  hw hW hS (lv_sub hl [0, 1, 2, 3, 4, 5] rfl)
set_option maxHeartbeats 4000000 in
set_option maxRecDepth 100000 in
theorem tl_Mod_openSchema_103 {p : Program} {l : Launch} {e : Env} {R : Room} {s : State} {m : MethodId} {args : Array Value} {below : List Frame} {meth : Method} {c : Code} {cells slots : Nat} {Q : State → Prop} {dC : Nat → ClassId} {dI : Nat → Nat → Nat} {cI cB cJ cZ : ClassId} {A : Nat → Prop} {ad : Nat → Nat} {post : St → Prop} {rec67 : Int32 → Int32 → Int32 → St → Prop} (hx : p.tables.exec = Jvm.exec) (hb : c.code = b_Mod_openSchema) (hml : c.maxLocals = 6) (hown : s.vm.findClass R_Mod = some m.cls) (hT : ∀ w ∈ TG, w.before args s = true) (hK : va_K (dC, dI) CL (TY cI cB cJ cZ) s) (hN : NW s) (hA : ∀ q : Nat, s.heap.size ≤ q → A q) (hRc : cells ≤ R.cells) (hRs : slots ≤ R.slots) (hRf : 4 ≤ R.frames) (hRl : 97 ≤ R.locals) (hret : ∀ (x : St) (H : Heap) (locs : List Loc) (pc : Nat) (ls : Array Slot), decode b_Mod_openSchema pc = .ok (.return_, 1) → post x → Wd dC dI cI cB cJ cZ ad stM kcM 115 A x H → va_S A s.heap H locs → W p l e R s m args below meth c H locs cells slots Q (F0 m pc ls [])) (hrec67 : ∀ (l1 : Int32) (l2 : Int32) (l3 : Int32) (x : St) (H : Heap) (locs : List Loc) (ls : Array Slot), rec67 l1 l2 l3 x → Wd dC dI cI cB cJ cZ ad stM kcM 115 A x H → va_S A s.heap H locs → lv_has ls 6 [(0, .ref (ad 0)), (1, .int l1), (2, .int l2), (3, .int l3)] → W p l e R s m args below meth c H locs cells slots Q (F0 m 67 ls [])) : ∀ n : Nat, ∀ (l1 : Int32) (l2 : Int32) (l3 : Int32) (l4 : Int32) (l5 : Int32) (x : St) (H : Heap) (locs : List Loc) (ls : Array Slot), wl_Mod_openSchema_103 post rec67 n l1 l2 l3 l4 l5 x → Wd dC dI cI cB cJ cZ ad stM kcM 115 A x H → va_S A s.heap H locs → lv_has ls 6 [(0, .ref (ad 0)), (1, .int l1), (2, .int l2), (3, .int l3), (4, .int l4), (5, .int l5)] → W p l e R s m args below meth c H locs cells slots Q (F0 m 103 ls []) := by
  intro n
  induction n with
  | zero => intro l1 l2 l3 l4 l5 x H locs ls  hw; exact hw.elim
  | succ n ih => intro l1 l2 l3 l4 l5 x H locs ls  hw hW hS hl; exact t_Mod_openSchema_103 hx hb hml hown hT hK hN hA hRc hRs hRf hRl hret hrec67 ih l1 l2 l3 l4 l5 x H locs ls  hw hW hS hl
set_option maxRecDepth 100000 in
set_option maxHeartbeats 4000000 in
set_option maxRecDepth 100000 in
theorem t_Mod_openSchema_96 {p : Program} {l : Launch} {e : Env} {R : Room} {s : State} {m : MethodId} {args : Array Value} {below : List Frame} {meth : Method} {c : Code} {cells slots : Nat} {Q : State → Prop} {dC : Nat → ClassId} {dI : Nat → Nat → Nat} {cI cB cJ cZ : ClassId} {A : Nat → Prop} {ad : Nat → Nat} {post : St → Prop} {rec67 : Int32 → Int32 → Int32 → St → Prop} (hx : p.tables.exec = Jvm.exec) (hb : c.code = b_Mod_openSchema) (hml : c.maxLocals = 6) (hown : s.vm.findClass R_Mod = some m.cls) (hT : ∀ w ∈ TG, w.before args s = true) (hK : va_K (dC, dI) CL (TY cI cB cJ cZ) s) (hN : NW s) (hA : ∀ q : Nat, s.heap.size ≤ q → A q) (hRc : cells ≤ R.cells) (hRs : slots ≤ R.slots) (hRf : 4 ≤ R.frames) (hRl : 97 ≤ R.locals) (hret : ∀ (x : St) (H : Heap) (locs : List Loc) (pc : Nat) (ls : Array Slot), decode b_Mod_openSchema pc = .ok (.return_, 1) → post x → Wd dC dI cI cB cJ cZ ad stM kcM 115 A x H → va_S A s.heap H locs → W p l e R s m args below meth c H locs cells slots Q (F0 m pc ls [])) (hrec67 : ∀ (l1 : Int32) (l2 : Int32) (l3 : Int32) (x : St) (H : Heap) (locs : List Loc) (ls : Array Slot), rec67 l1 l2 l3 x → Wd dC dI cI cB cJ cZ ad stM kcM 115 A x H → va_S A s.heap H locs → lv_has ls 6 [(0, .ref (ad 0)), (1, .int l1), (2, .int l2), (3, .int l3)] → W p l e R s m args below meth c H locs cells slots Q (F0 m 67 ls [])) : ∀ (l1 : Int32) (l2 : Int32) (l3 : Int32) (s0 : Int32) (x : St) (H : Heap) (locs : List Loc) (ls : Array Slot), j_Mod_openSchema_96 post rec67 l1 l2 l3 s0 x → Wd dC dI cI cB cJ cZ ad stM kcM 115 A x H → va_S A s.heap H locs → lv_has ls 6 [(0, .ref (ad 0)), (1, .int l1), (2, .int l2), (3, .int l3)] → W p l e R s m args below meth c H locs cells slots Q (F0 m 96 ls [.int s0]) := by
  intro l1 l2 l3 s0 x H locs ls  hw hW hS hl
  unfold j_Mod_openSchema_96 at hw
  refine lv_istore (lv' := [(4, .int s0), (0, .ref (ad 0)), (1, .int l1), (2, .int l2), (3, .int l3)]) hx hb d_Mod_openSchema_96 hl (by decide) rfl (fun ls hl => ?_)
  refine lv_iload_n hx hb d_Mod_openSchema_98 rfl (lv_at hl 4 rfl) ?_
  refine lv_iconst (v := 1) hx hb d_Mod_openSchema_99 (by decide) ?_
  refine lv_iadd hx hb d_Mod_openSchema_100 ?_
  refine lv_topi (fun v996 ev996 => ?_)
  have hw := hw v996 ev996
  refine lv_istore (lv' := [(5, .int v996), (4, .int s0), (0, .ref (ad 0)), (1, .int l1), (2, .int l2), (3, .int l3)]) hx hb d_Mod_openSchema_101 hl (by decide) rfl (fun ls hl => ?_)
  obtain ⟨n, hw⟩ := hw
  exact tl_Mod_openSchema_103 hx hb hml hown hT hK hN hA hRc hRs hRf hRl hret hrec67 n l1 l2 l3 s0 v996 x H locs ls  hw hW hS (lv_sub hl [2, 3, 4, 5, 1, 0] rfl)
set_option maxRecDepth 100000 in
set_option maxHeartbeats 4000000 in
set_option maxRecDepth 100000 in
theorem t_Mod_openSchema_67 {p : Program} {l : Launch} {e : Env} {R : Room} {s : State} {m : MethodId} {args : Array Value} {below : List Frame} {meth : Method} {c : Code} {cells slots : Nat} {Q : State → Prop} {dC : Nat → ClassId} {dI : Nat → Nat → Nat} {cI cB cJ cZ : ClassId} {A : Nat → Prop} {ad : Nat → Nat} {post : St → Prop} {rec67 : Int32 → Int32 → Int32 → St → Prop} (hx : p.tables.exec = Jvm.exec) (hb : c.code = b_Mod_openSchema) (hml : c.maxLocals = 6) (hown : s.vm.findClass R_Mod = some m.cls) (hT : ∀ w ∈ TG, w.before args s = true) (hK : va_K (dC, dI) CL (TY cI cB cJ cZ) s) (hN : NW s) (hA : ∀ q : Nat, s.heap.size ≤ q → A q) (hRc : cells ≤ R.cells) (hRs : slots ≤ R.slots) (hRf : 4 ≤ R.frames) (hRl : 97 ≤ R.locals) (hret : ∀ (x : St) (H : Heap) (locs : List Loc) (pc : Nat) (ls : Array Slot), decode b_Mod_openSchema pc = .ok (.return_, 1) → post x → Wd dC dI cI cB cJ cZ ad stM kcM 115 A x H → va_S A s.heap H locs → W p l e R s m args below meth c H locs cells slots Q (F0 m pc ls [])) (hrec67 : ∀ (l1 : Int32) (l2 : Int32) (l3 : Int32) (x : St) (H : Heap) (locs : List Loc) (ls : Array Slot), rec67 l1 l2 l3 x → Wd dC dI cI cB cJ cZ ad stM kcM 115 A x H → va_S A s.heap H locs → lv_has ls 6 [(0, .ref (ad 0)), (1, .int l1), (2, .int l2), (3, .int l3)] → W p l e R s m args below meth c H locs cells slots Q (F0 m 67 ls [])) : ∀ (l1 : Int32) (l2 : Int32) (l3 : Int32) (x : St) (H : Heap) (locs : List Loc) (ls : Array Slot), j_Mod_openSchema_67 post rec67 l1 l2 l3 x → Wd dC dI cI cB cJ cZ ad stM kcM 115 A x H → va_S A s.heap H locs → lv_has ls 6 [(0, .ref (ad 0)), (1, .int l1), (2, .int l2), (3, .int l3)] → W p l e R s m args below meth c H locs cells slots Q (F0 m 67 ls []) := by
  intro l1 l2 l3 x H locs ls  hw hW hS hl
  unfold j_Mod_openSchema_67 at hw
  refine lv_iload_n hx hb d_Mod_openSchema_67 rfl (lv_at hl 3 rfl) ?_
  refine lv_aload_n hx hb d_Mod_openSchema_68 rfl (lv_at hl 0 rfl) ?_
  refine w_getf (q := 9) (k := 11) (t := 12) (C := R_Mod) (T := F_Mod) (N := 167) hx hb hT hown hK hW ko_0.1 ko_0.2 (by decide) in_Mod rfl rfl (by decide) rfl fr_Mod_11 w_8_187 d_Mod_openSchema_69 rfl ?_
  refine lv_iconst (v := 2) hx hb d_Mod_openSchema_72 (by decide) ?_
  obtain ⟨hi, hw⟩ := hw
  refine w_iald (o := 9) hx hb hK hW ko_9.1 ko_9.2 hi d_Mod_openSchema_73 ?_
  refine lv_icmp_ge (tgt := 169) hx hb d_Mod_openSchema_74 (by decide) (fun c997 => ?_) (fun c997 => ?_)
  · have hw := hw.1 c997
    refine lv_aload_n hx hb d_Mod_openSchema_169 rfl (lv_at hl 0 rfl) ?_
    refine w_geti (k := 69) (t := 12) (C := R_Mod) (T := F_Mod) (N := 167) hx hb hT hown hK hW ko_0.1 ko_0.2 (by decide) in_Mod rfl rfl (by decide) rfl fr_Mod_69 w_9_5 d_Mod_openSchema_170 ?_
    refine lv_if_ne (tgt := 181) hx hb d_Mod_openSchema_173 (by decide) (fun c998 => ?_) (fun c998 => ?_)
    · have hw := hw.1 c998
      exact hret x H locs 181 ls d_Mod_openSchema_181 hw hW hS
    · have hw := hw.2 c998
      refine lv_aload_n hx hb d_Mod_openSchema_176 rfl (lv_at hl 0 rfl) ?_
      refine lv_iconst (v := 1) hx hb d_Mod_openSchema_177 (by decide) ?_
      have hF := hW.free hS hA
      refine va_callv (va_runV (C := R_Mod) (As := [.int 1]) (rest := []) ⟨hx, hb, hml, hown, hT⟩ (k_Mod_keepSchema l dC dI cI cB cJ cZ ad H.size 1 x  hw) ⟨callB_of 1 hT (gwt_in w_11_50) rfl rfl rfl (hT _ w_1_15) (hT _ w_11_47) (by decide +kernel) ⟨Nat.le_trans (Nat.le_of_ble_eq_true rfl) hRf, Nat.le_trans (Nat.le_of_ble_eq_true rfl) hRl⟩, hT _ w_11_49, hT _ ws_122⟩ ⟨PW.blind, va_recv hK hW.1 (ci := 12) (q0 := 0) rfl (pic_obj ko_0.1 ko_0.2 (by decide)), PW.at _ hW hK hN⟩ rfl rfl hl.1 rfl (lv_room (Nat.le_of_ble_eq_true rfl)) d_Mod_openSchema_178 ⟨hRc, hRs⟩) hS (fun q _ h => hF q h) hF (fun  x999 t H locs ht hvm hw hB hz1 hk1 hS => ?_)
      have hW := Wd.back hB ht hF
      clear hB ht hF hz1 hk1 hvm
      exact hret x999 H locs 181 ls d_Mod_openSchema_181 hw hW hS
  · have hw := hw.2 c997
    refine lv_aload_n hx hb d_Mod_openSchema_77 rfl (lv_at hl 0 rfl) ?_
    refine w_getf (q := 4) (k := 6) (t := 12) (C := R_Mod) (T := F_Mod) (N := 167) hx hb hT hown hK hW ko_0.1 ko_0.2 (by decide) in_Mod rfl rfl (by decide) rfl fr_Mod_6 w_8_182 d_Mod_openSchema_78 rfl ?_
    refine lv_iconst (v := 2) hx hb d_Mod_openSchema_81 (by decide) ?_
    refine lv_iload_n hx hb d_Mod_openSchema_82 rfl (lv_at hl 3 rfl) ?_
    have hF := hW.free hS hA
    refine va_calli (va_runS (As := [.int 2, .int l3]) (rest := [.ref (ad 4)]) ⟨hx, hb, hml, hown, hT⟩ (k_Mod_place l dC dI cI cB cJ cZ ad H.size 2 l3 x  hw) ⟨callB_of 2 hT (gwt_in w_11_30) rfl rfl rfl (hT _ w_1_15) (hT _ w_11_28) (by decide +kernel) ⟨Nat.le_trans (Nat.le_of_ble_eq_true rfl) hRf, Nat.le_trans (Nat.le_of_ble_eq_true rfl) hRl⟩, hT _ w_11_29⟩ ⟨PW.blind, PW.at _ hW hK hN⟩ rfl rfl hl.1 rfl (lv_room (Nat.le_of_ble_eq_true rfl)) d_Mod_openSchema_83 ⟨hRc, hRs⟩) hS (fun q _ h => hF q h) hF (fun r1001 x1000 t H locs ht hvm hw hB hz1 hk1 hS => ?_)
    have hW := Wd.back hB ht hF
    clear hB ht hF hz1 hk1 hvm
    obtain ⟨hi, hw⟩ := hw
    refine w_iald (o := 4) hx hb hK hW ko_4.1 ko_4.2 hi d_Mod_openSchema_86 ?_
    refine lv_iconst (v := 4) hx hb d_Mod_openSchema_87 (by decide) ?_
    refine lv_icmp_eq (tgt := 95) hx hb d_Mod_openSchema_88 (by decide) (fun c1002 => ?_) (fun c1002 => ?_)
    · have hw := hw.1 c1002
      refine lv_iconst (v := 0) hx hb d_Mod_openSchema_95 (by decide) ?_
      exact t_Mod_openSchema_96 hx hb hml hown hT hK hN hA hRc hRs hRf hRl hret hrec67 l1 l2 l3 0 x1000 H locs ls  hw hW hS (lv_sub hl [0, 1, 2, 3] rfl)
    · have hw := hw.2 c1002
      refine lv_iconst (v := 1) hx hb d_Mod_openSchema_91 (by decide) ?_
      refine lv_goto (tgt := 96) hx hb d_Mod_openSchema_92 (by decide) ?_
      exact t_Mod_openSchema_96 hx hb hml hown hT hK hN hA hRc hRs hRf hRl hret hrec67 l1 l2 l3 1 x1000 H locs ls  hw hW hS (lv_sub hl [0, 1, 2, 3] rfl)
set_option maxHeartbeats 4000000 in
set_option maxRecDepth 100000 in
theorem tl_Mod_openSchema_67 {p : Program} {l : Launch} {e : Env} {R : Room} {s : State} {m : MethodId} {args : Array Value} {below : List Frame} {meth : Method} {c : Code} {cells slots : Nat} {Q : State → Prop} {dC : Nat → ClassId} {dI : Nat → Nat → Nat} {cI cB cJ cZ : ClassId} {A : Nat → Prop} {ad : Nat → Nat} {post : St → Prop} (hx : p.tables.exec = Jvm.exec) (hb : c.code = b_Mod_openSchema) (hml : c.maxLocals = 6) (hown : s.vm.findClass R_Mod = some m.cls) (hT : ∀ w ∈ TG, w.before args s = true) (hK : va_K (dC, dI) CL (TY cI cB cJ cZ) s) (hN : NW s) (hA : ∀ q : Nat, s.heap.size ≤ q → A q) (hRc : cells ≤ R.cells) (hRs : slots ≤ R.slots) (hRf : 4 ≤ R.frames) (hRl : 97 ≤ R.locals) (hret : ∀ (x : St) (H : Heap) (locs : List Loc) (pc : Nat) (ls : Array Slot), decode b_Mod_openSchema pc = .ok (.return_, 1) → post x → Wd dC dI cI cB cJ cZ ad stM kcM 115 A x H → va_S A s.heap H locs → W p l e R s m args below meth c H locs cells slots Q (F0 m pc ls []))  : ∀ n : Nat, ∀ (l1 : Int32) (l2 : Int32) (l3 : Int32) (x : St) (H : Heap) (locs : List Loc) (ls : Array Slot), wl_Mod_openSchema_67 post n l1 l2 l3 x → Wd dC dI cI cB cJ cZ ad stM kcM 115 A x H → va_S A s.heap H locs → lv_has ls 6 [(0, .ref (ad 0)), (1, .int l1), (2, .int l2), (3, .int l3)] → W p l e R s m args below meth c H locs cells slots Q (F0 m 67 ls []) := by
  intro n
  induction n with
  | zero => intro l1 l2 l3 x H locs ls  hw; exact hw.elim
  | succ n ih => intro l1 l2 l3 x H locs ls  hw hW hS hl; exact t_Mod_openSchema_67 hx hb hml hown hT hK hN hA hRc hRs hRf hRl hret  ih l1 l2 l3 x H locs ls  hw hW hS hl
set_option maxRecDepth 100000 in
set_option maxHeartbeats 4000000 in
set_option maxRecDepth 100000 in
theorem t_Mod_openSchema_65 {p : Program} {l : Launch} {e : Env} {R : Room} {s : State} {m : MethodId} {args : Array Value} {below : List Frame} {meth : Method} {c : Code} {cells slots : Nat} {Q : State → Prop} {dC : Nat → ClassId} {dI : Nat → Nat → Nat} {cI cB cJ cZ : ClassId} {A : Nat → Prop} {ad : Nat → Nat} {post : St → Prop} (hx : p.tables.exec = Jvm.exec) (hb : c.code = b_Mod_openSchema) (hml : c.maxLocals = 6) (hown : s.vm.findClass R_Mod = some m.cls) (hT : ∀ w ∈ TG, w.before args s = true) (hK : va_K (dC, dI) CL (TY cI cB cJ cZ) s) (hN : NW s) (hA : ∀ q : Nat, s.heap.size ≤ q → A q) (hRc : cells ≤ R.cells) (hRs : slots ≤ R.slots) (hRf : 4 ≤ R.frames) (hRl : 97 ≤ R.locals) (hret : ∀ (x : St) (H : Heap) (locs : List Loc) (pc : Nat) (ls : Array Slot), decode b_Mod_openSchema pc = .ok (.return_, 1) → post x → Wd dC dI cI cB cJ cZ ad stM kcM 115 A x H → va_S A s.heap H locs → W p l e R s m args below meth c H locs cells slots Q (F0 m pc ls []))  : ∀ (l1 : Int32) (l2 : Int32) (l3 : Int32) (x : St) (H : Heap) (locs : List Loc) (ls : Array Slot), j_Mod_openSchema_65 post l1 l2 l3 x → Wd dC dI cI cB cJ cZ ad stM kcM 115 A x H → va_S A s.heap H locs → lv_has ls 6 [(0, .ref (ad 0)), (1, .int l1), (2, .int l2), (3, .int l3)] → W p l e R s m args below meth c H locs cells slots Q (F0 m 65 ls []) := by
  intro l1 l2 l3 x H locs ls  hw hW hS hl
  unfold j_Mod_openSchema_65 at hw
  refine lv_iconst (v := 0) hx hb d_Mod_openSchema_65 (by decide) ?_
  refine lv_istore_n (lv' := [(3, .int 0), (0, .ref (ad 0)), (1, .int l1), (2, .int l2)]) hx hb d_Mod_openSchema_66 rfl hl (by decide) rfl (fun ls hl => ?_)
  obtain ⟨n, hw⟩ := hw
  exact tl_Mod_openSchema_67 hx hb hml hown hT hK hN hA hRc hRs hRf hRl hret  n l1 l2 0 x H locs ls  hw hW hS (lv_sub hl [1, 2, 3, 0] rfl)
set_option maxRecDepth 100000 in
set_option maxHeartbeats 4000000 in
set_option maxRecDepth 100000 in
theorem t_Mod_openSchema_42 {p : Program} {l : Launch} {e : Env} {R : Room} {s : State} {m : MethodId} {args : Array Value} {below : List Frame} {meth : Method} {c : Code} {cells slots : Nat} {Q : State → Prop} {dC : Nat → ClassId} {dI : Nat → Nat → Nat} {cI cB cJ cZ : ClassId} {A : Nat → Prop} {ad : Nat → Nat} {post : St → Prop} {rec42 : Int32 → Int32 → Int32 → St → Prop} (hx : p.tables.exec = Jvm.exec) (hb : c.code = b_Mod_openSchema) (hml : c.maxLocals = 6) (hown : s.vm.findClass R_Mod = some m.cls) (hT : ∀ w ∈ TG, w.before args s = true) (hK : va_K (dC, dI) CL (TY cI cB cJ cZ) s) (hN : NW s) (hA : ∀ q : Nat, s.heap.size ≤ q → A q) (hRc : cells ≤ R.cells) (hRs : slots ≤ R.slots) (hRf : 4 ≤ R.frames) (hRl : 97 ≤ R.locals) (hret : ∀ (x : St) (H : Heap) (locs : List Loc) (pc : Nat) (ls : Array Slot), decode b_Mod_openSchema pc = .ok (.return_, 1) → post x → Wd dC dI cI cB cJ cZ ad stM kcM 115 A x H → va_S A s.heap H locs → W p l e R s m args below meth c H locs cells slots Q (F0 m pc ls [])) (hrec42 : ∀ (l1 : Int32) (l2 : Int32) (l3 : Int32) (x : St) (H : Heap) (locs : List Loc) (ls : Array Slot), rec42 l1 l2 l3 x → Wd dC dI cI cB cJ cZ ad stM kcM 115 A x H → va_S A s.heap H locs → lv_has ls 6 [(0, .ref (ad 0)), (1, .int l1), (2, .int l2), (3, .int l3)] → W p l e R s m args below meth c H locs cells slots Q (F0 m 42 ls [])) : ∀ (l1 : Int32) (l2 : Int32) (l3 : Int32) (x : St) (H : Heap) (locs : List Loc) (ls : Array Slot), j_Mod_openSchema_42 post rec42 l1 l2 l3 x → Wd dC dI cI cB cJ cZ ad stM kcM 115 A x H → va_S A s.heap H locs → lv_has ls 6 [(0, .ref (ad 0)), (1, .int l1), (2, .int l2), (3, .int l3)] → W p l e R s m args below meth c H locs cells slots Q (F0 m 42 ls []) := by
  intro l1 l2 l3 x H locs ls  hw hW hS hl
  unfold j_Mod_openSchema_42 at hw
  refine lv_iload_n hx hb d_Mod_openSchema_42 rfl (lv_at hl 3 rfl) ?_
  refine lv_iload_n hx hb d_Mod_openSchema_43 rfl (lv_at hl 2 rfl) ?_
  refine lv_icmp_ge (tgt := 65) hx hb d_Mod_openSchema_44 (by decide) (fun c1003 => ?_) (fun c1003 => ?_)
  · have hw := hw.1 c1003
    exact t_Mod_openSchema_65 hx hb hml hown hT hK hN hA hRc hRs hRf hRl hret  l1 l2 l3 x H locs ls  hw hW hS (lv_sub hl [0, 1, 2, 3] rfl)
  · have hw := hw.2 c1003
    refine lv_aload_n hx hb d_Mod_openSchema_47 rfl (lv_at hl 0 rfl) ?_
    refine w_geti (k := 69) (t := 12) (C := R_Mod) (T := F_Mod) (N := 167) hx hb hT hown hK hW ko_0.1 ko_0.2 (by decide) in_Mod rfl rfl (by decide) rfl fr_Mod_69 w_9_5 d_Mod_openSchema_48 ?_
    refine lv_if_ne (tgt := 65) hx hb d_Mod_openSchema_51 (by decide) (fun c1004 => ?_) (fun c1004 => ?_)
    · have hw := hw.1 c1004
      exact t_Mod_openSchema_65 hx hb hml hown hT hK hN hA hRc hRs hRf hRl hret  l1 l2 l3 x H locs ls  hw hW hS (lv_sub hl [0, 1, 2, 3] rfl)
    · have hw := hw.2 c1004
      refine lv_aload_n hx hb d_Mod_openSchema_54 rfl (lv_at hl 0 rfl) ?_
      refine lv_iload_n hx hb d_Mod_openSchema_55 rfl (lv_at hl 1 rfl) ?_
      have hF := hW.free hS hA
      refine va_callv (va_runV (C := R_Mod) (As := [.int l1]) (rest := []) ⟨hx, hb, hml, hown, hT⟩ (k_Mod_openField l dC dI cI cB cJ cZ ad H.size l1 x  hw) ⟨callB_of 1 hT (gwt_in w_12_128) rfl rfl rfl (hT _ w_1_15) (hT _ w_12_125) (by decide +kernel) ⟨Nat.le_trans (Nat.le_of_ble_eq_true rfl) hRf, Nat.le_trans (Nat.le_of_ble_eq_true rfl) hRl⟩, hT _ w_12_127, hT _ ws_188⟩ ⟨PW.blind, va_recv hK hW.1 (ci := 12) (q0 := 0) rfl (pic_obj ko_0.1 ko_0.2 (by decide)), PW.at _ hW hK hN⟩ rfl rfl hl.1 rfl (lv_room (Nat.le_of_ble_eq_true rfl)) d_Mod_openSchema_56 ⟨hRc, hRs⟩) hS (fun q _ h => hF q h) hF (fun  x1005 t H locs ht hvm hw hB hz1 hk1 hS => ?_)
      have hW := Wd.back hB ht hF
      clear hB ht hF hz1 hk1 hvm
      refine lv_iinc (v := (l3 + 1)) (lv' := [(3, .int (l3 + 1)), (0, .ref (ad 0)), (1, .int l1), (2, .int l2)]) hx hb d_Mod_openSchema_59 hl (k := 3) rfl rfl (by decide) rfl (fun ls hl => ?_)
      refine lv_goto (tgt := 42) hx hb d_Mod_openSchema_62 (by decide) ?_
      exact hrec42 l1 l2 (l3 + 1) x1005 H locs ls  hw hW hS (lv_sub hl [1, 2, 3, 0] rfl)
set_option maxHeartbeats 4000000 in
set_option maxRecDepth 100000 in
theorem tl_Mod_openSchema_42 {p : Program} {l : Launch} {e : Env} {R : Room} {s : State} {m : MethodId} {args : Array Value} {below : List Frame} {meth : Method} {c : Code} {cells slots : Nat} {Q : State → Prop} {dC : Nat → ClassId} {dI : Nat → Nat → Nat} {cI cB cJ cZ : ClassId} {A : Nat → Prop} {ad : Nat → Nat} {post : St → Prop} (hx : p.tables.exec = Jvm.exec) (hb : c.code = b_Mod_openSchema) (hml : c.maxLocals = 6) (hown : s.vm.findClass R_Mod = some m.cls) (hT : ∀ w ∈ TG, w.before args s = true) (hK : va_K (dC, dI) CL (TY cI cB cJ cZ) s) (hN : NW s) (hA : ∀ q : Nat, s.heap.size ≤ q → A q) (hRc : cells ≤ R.cells) (hRs : slots ≤ R.slots) (hRf : 4 ≤ R.frames) (hRl : 97 ≤ R.locals) (hret : ∀ (x : St) (H : Heap) (locs : List Loc) (pc : Nat) (ls : Array Slot), decode b_Mod_openSchema pc = .ok (.return_, 1) → post x → Wd dC dI cI cB cJ cZ ad stM kcM 115 A x H → va_S A s.heap H locs → W p l e R s m args below meth c H locs cells slots Q (F0 m pc ls []))  : ∀ n : Nat, ∀ (l1 : Int32) (l2 : Int32) (l3 : Int32) (x : St) (H : Heap) (locs : List Loc) (ls : Array Slot), wl_Mod_openSchema_42 post n l1 l2 l3 x → Wd dC dI cI cB cJ cZ ad stM kcM 115 A x H → va_S A s.heap H locs → lv_has ls 6 [(0, .ref (ad 0)), (1, .int l1), (2, .int l2), (3, .int l3)] → W p l e R s m args below meth c H locs cells slots Q (F0 m 42 ls []) := by
  intro n
  induction n with
  | zero => intro l1 l2 l3 x H locs ls  hw; exact hw.elim
  | succ n ih => intro l1 l2 l3 x H locs ls  hw hW hS hl; exact t_Mod_openSchema_42 hx hb hml hown hT hK hN hA hRc hRs hRf hRl hret  ih l1 l2 l3 x H locs ls  hw hW hS hl
set_option maxRecDepth 100000 in
set_option maxHeartbeats 4000000 in
set_option maxRecDepth 100000 in
theorem t_Mod_openSchema_35 {p : Program} {l : Launch} {e : Env} {R : Room} {s : State} {m : MethodId} {args : Array Value} {below : List Frame} {meth : Method} {c : Code} {cells slots : Nat} {Q : State → Prop} {dC : Nat → ClassId} {dI : Nat → Nat → Nat} {cI cB cJ cZ : ClassId} {A : Nat → Prop} {ad : Nat → Nat} {post : St → Prop} (hx : p.tables.exec = Jvm.exec) (hb : c.code = b_Mod_openSchema) (hml : c.maxLocals = 6) (hown : s.vm.findClass R_Mod = some m.cls) (hT : ∀ w ∈ TG, w.before args s = true) (hK : va_K (dC, dI) CL (TY cI cB cJ cZ) s) (hN : NW s) (hA : ∀ q : Nat, s.heap.size ≤ q → A q) (hRc : cells ≤ R.cells) (hRs : slots ≤ R.slots) (hRf : 4 ≤ R.frames) (hRl : 97 ≤ R.locals) (hret : ∀ (x : St) (H : Heap) (locs : List Loc) (pc : Nat) (ls : Array Slot), decode b_Mod_openSchema pc = .ok (.return_, 1) → post x → Wd dC dI cI cB cJ cZ ad stM kcM 115 A x H → va_S A s.heap H locs → W p l e R s m args below meth c H locs cells slots Q (F0 m pc ls []))  : ∀ (l1 : Int32) (l2 : Int32) (s0 : Int32) (x : St) (H : Heap) (locs : List Loc) (ls : Array Slot), j_Mod_openSchema_35 post l1 l2 s0 x → Wd dC dI cI cB cJ cZ ad stM kcM 115 A x H → va_S A s.heap H locs → lv_has ls 6 [(0, .ref (ad 0)), (1, .int l1), (2, .int l2)] → W p l e R s m args below meth c H locs cells slots Q (F0 m 35 ls [.int s0, .ref (ad 0)]) := by
  intro l1 l2 s0 x H locs ls  hw hW hS hl
  unfold j_Mod_openSchema_35 at hw
  refine lv_bipush (v := 15) hx hb d_Mod_openSchema_35 (by decide) ?_
  have hF := hW.free hS hA
  refine va_callv (va_runV (C := R_Mod) (As := [.int s0, .int 15]) (rest := []) ⟨hx, hb, hml, hown, hT⟩ (k_Mod_faults l dC dI cI cB cJ cZ ad H.size s0 15 x  hw) ⟨callB_of 2 hT (gwt_in w_12_107) rfl rfl rfl (hT _ w_1_15) (hT _ w_12_104) (by decide +kernel) ⟨Nat.le_trans (Nat.le_of_ble_eq_true rfl) hRf, Nat.le_trans (Nat.le_of_ble_eq_true rfl) hRl⟩, hT _ w_12_106, hT _ ws_183⟩ ⟨PW.blind, va_recv hK hW.1 (ci := 12) (q0 := 0) rfl (pic_obj ko_0.1 ko_0.2 (by decide)), PW.at _ hW hK hN⟩ rfl rfl hl.1 rfl (lv_room (Nat.le_of_ble_eq_true rfl)) d_Mod_openSchema_37 ⟨hRc, hRs⟩) hS (fun q _ h => hF q h) hF (fun  x1006 t H locs ht hvm hw hB hz1 hk1 hS => ?_)
  have hW := Wd.back hB ht hF
  clear hB ht hF hz1 hk1 hvm
  refine lv_iconst (v := 0) hx hb d_Mod_openSchema_40 (by decide) ?_
  refine lv_istore_n (lv' := [(3, .int 0), (0, .ref (ad 0)), (1, .int l1), (2, .int l2)]) hx hb d_Mod_openSchema_41 rfl hl (by decide) rfl (fun ls hl => ?_)
  obtain ⟨n, hw⟩ := hw
  exact tl_Mod_openSchema_42 hx hb hml hown hT hK hN hA hRc hRs hRf hRl hret  n l1 l2 0 x1006 H locs ls  hw hW hS (lv_sub hl [1, 2, 3, 0] rfl)
set_option maxRecDepth 100000 in
set_option maxHeartbeats 4000000 in
set_option maxRecDepth 100000 in
theorem t_Mod_openSchema_e {p : Program} {l : Launch} {e : Env} {R : Room} {s : State} {m : MethodId} {args : Array Value} {below : List Frame} {meth : Method} {c : Code} {cells slots : Nat} {Q : State → Prop} {dC : Nat → ClassId} {dI : Nat → Nat → Nat} {cI cB cJ cZ : ClassId} {A : Nat → Prop} {ad : Nat → Nat} {post : St → Prop} (hx : p.tables.exec = Jvm.exec) (hb : c.code = b_Mod_openSchema) (hml : c.maxLocals = 6) (hown : s.vm.findClass R_Mod = some m.cls) (hT : ∀ w ∈ TG, w.before args s = true) (hK : va_K (dC, dI) CL (TY cI cB cJ cZ) s) (hN : NW s) (hA : ∀ q : Nat, s.heap.size ≤ q → A q) (hRc : cells ≤ R.cells) (hRs : slots ≤ R.slots) (hRf : 4 ≤ R.frames) (hRl : 97 ≤ R.locals) (hret : ∀ (x : St) (H : Heap) (locs : List Loc) (pc : Nat) (ls : Array Slot), decode b_Mod_openSchema pc = .ok (.return_, 1) → post x → Wd dC dI cI cB cJ cZ ad stM kcM 115 A x H → va_S A s.heap H locs → W p l e R s m args below meth c H locs cells slots Q (F0 m pc ls [])) : ∀ (l1 : Int32) (x : St) (H : Heap) (locs : List Loc) (ls : Array Slot), wp_Mod_openSchema post l1 x → Wd dC dI cI cB cJ cZ ad stM kcM 115 A x H → va_S A s.heap H locs → lv_has ls 6 [(0, .ref (ad 0)), (1, .int l1)] → W p l e R s m args below meth c H locs cells slots Q (F0 m 0 ls []) := by
  intro l1 x H locs ls  hw hW hS hl
  unfold wp_Mod_openSchema at hw
  refine lv_aload_n hx hb d_Mod_openSchema_0 rfl (lv_at hl 0 rfl) ?_
  refine w_getf (q := 9) (k := 11) (t := 12) (C := R_Mod) (T := F_Mod) (N := 167) hx hb hT hown hK hW ko_0.1 ko_0.2 (by decide) in_Mod rfl rfl (by decide) rfl fr_Mod_11 w_8_187 d_Mod_openSchema_1 rfl ?_
  refine lv_iconst (v := 2) hx hb d_Mod_openSchema_4 (by decide) ?_
  refine lv_iconst (v := 0) hx hb d_Mod_openSchema_5 (by decide) ?_
  obtain ⟨hi, hw⟩ := hw
  refine w_iast (o := 9) hx hb hK hW hS ko_9.1 ko_9.2 hi d_Mod_openSchema_6 (fun H locs hW hS => ?_)
  obtain ⟨x1007, ex1007⟩ : ∃ y : St, y = setA x 9 2 0 := ⟨_, rfl⟩
  rw [← ex1007] at hW
  have hw := hw x1007 ex1007
  refine lv_aload_n hx hb d_Mod_openSchema_7 rfl (lv_at hl 0 rfl) ?_
  refine w_getf (q := 10) (k := 12) (t := 12) (C := R_Mod) (T := F_Mod) (N := 167) hx hb hT hown hK hW ko_0.1 ko_0.2 (by decide) in_Mod rfl rfl (by decide) rfl fr_Mod_12 w_8_188 d_Mod_openSchema_8 rfl ?_
  refine lv_iconst (v := 2) hx hb d_Mod_openSchema_11 (by decide) ?_
  refine lv_iconst (v := 0) hx hb d_Mod_openSchema_12 (by decide) ?_
  obtain ⟨hi, hw⟩ := hw
  refine w_iast (o := 10) hx hb hK hW hS ko_10.1 ko_10.2 hi d_Mod_openSchema_13 (fun H locs hW hS => ?_)
  obtain ⟨x1008, ex1008⟩ : ∃ y : St, y = setA x1007 10 2 0 := ⟨_, rfl⟩
  rw [← ex1008] at hW
  have hw := hw x1008 ex1008
  refine lv_aload_n hx hb d_Mod_openSchema_14 rfl (lv_at hl 0 rfl) ?_
  refine lv_iload_n hx hb d_Mod_openSchema_15 rfl (lv_at hl 1 rfl) ?_
  refine lv_sipush (v := 128) hx hb d_Mod_openSchema_16 (by decide) ?_
  refine lv_bipush (v := 15) hx hb d_Mod_openSchema_19 (by decide) ?_
  have hF := hW.free hS hA
  refine va_calli (va_runV (C := R_Mod) (As := [.int l1, .int 128, .int 15]) (rest := []) ⟨hx, hb, hml, hown, hT⟩ (k_Mod_number4 l dC dI cI cB cJ cZ ad H.size l1 128 15 x1008  hw) ⟨callB_of 3 hT (gwt_in w_12_120) rfl rfl rfl (hT _ w_1_15) (hT _ w_12_117) (by decide +kernel) ⟨Nat.le_trans (Nat.le_of_ble_eq_true rfl) hRf, Nat.le_trans (Nat.le_of_ble_eq_true rfl) hRl⟩, hT _ w_12_119, hT _ ws_186⟩ ⟨PW.blind, va_recv hK hW.1 (ci := 12) (q0 := 0) rfl (pic_obj ko_0.1 ko_0.2 (by decide)), PW.at _ hW hK hN⟩ rfl rfl hl.1 rfl (lv_room (Nat.le_of_ble_eq_true rfl)) d_Mod_openSchema_21 ⟨hRc, hRs⟩) hS (fun q _ h => hF q h) hF (fun r1010 x1009 t H locs ht hvm hw hB hz1 hk1 hS => ?_)
  have hW := Wd.back hB ht hF
  clear hB ht hF hz1 hk1 hvm
  refine lv_istore_n (lv' := [(2, .int r1010), (0, .ref (ad 0)), (1, .int l1)]) hx hb d_Mod_openSchema_24 rfl hl (by decide) rfl (fun ls hl => ?_)
  refine lv_aload_n hx hb d_Mod_openSchema_25 rfl (lv_at hl 1 rfl) ?_
  refine lv_iload_n hx hb d_Mod_openSchema_26 rfl (lv_at hl 0 rfl) ?_
  refine lv_if_ne (tgt := 34) hx hb d_Mod_openSchema_27 (by decide) (fun c1011 => ?_) (fun c1011 => ?_)
  · have hw := hw.1 c1011
    refine lv_iconst (v := 0) hx hb d_Mod_openSchema_34 (by decide) ?_
    exact t_Mod_openSchema_35 hx hb hml hown hT hK hN hA hRc hRs hRf hRl hret  l1 r1010 0 x1009 H locs ls  hw hW hS (lv_sub hl [1, 2, 0] rfl)
  · have hw := hw.2 c1011
    refine lv_iconst (v := 1) hx hb d_Mod_openSchema_30 (by decide) ?_
    refine lv_goto (tgt := 35) hx hb d_Mod_openSchema_31 (by decide) ?_
    exact t_Mod_openSchema_35 hx hb hml hown hT hK hN hA hRc hRs hRf hRl hret  l1 r1010 1 x1009 H locs ls  hw hW hS (lv_sub hl [1, 2, 0] rfl)
set_option maxHeartbeats 4000000 in
set_option maxRecDepth 100000 in
theorem k_Mod_openSchema (l : Launch) (dC : Nat → ClassId) (dI : Nat → Nat → Nat) (cI cB cJ cZ : ClassId) (ad : Nat → Nat) (sz : Nat) (l1 : Int32) (x : St) {post : St → Prop} (hw : wp_Mod_openSchema post l1 x) : Met l y_Mod_openSchema (wsOf y_Mod_openSchema b_Mod_openSchema 6 (none)) ({ frames := 4, cells := 0, slots := 0, locals := 97 }) (va_Pc [.ref (ad 0), .int l1] (PW dC dI cI cB cJ cZ ad stM kcM 115 sz x)) (va_Qv (fun (y : St) => post y) (fun y t => Wd dC dI cI cB cJ cZ ad stM kcM 115 (va_A (pic ad stM kcM 115 cI cB cJ cZ x) sz) y t.heap) (va_A (pic ad stM kcM 115 cI cB cJ cZ x) sz)) 0 0 (va_A (pic ad stM kcM 115 cI cB cJ cZ x) sz) := by
  refine Met.ofW (cc := b_Mod_openSchema) (maxL := 6) (ret := none) (by decide) rfl ?_
  intro p e s m args below meth c s₁ B hml hv
  obtain ⟨rfl, hsz, hW0, hK, hN⟩ := hv
  have hx := B.exec
  have hb := B.bytes
  have hr := B.returns
  have hts := atoms_spec B.pre
  have hT : ∀ w ∈ TG, w.before _ s = true := fun w h => hts w (List.mem_cons_of_mem _ h)
  have hown : s.vm.findClass R_Mod = some m.cls := findClass_of_methodNamed B.named
  have hlocks := B.notSynchronized
  subst hsz
  have hW : Wd dC dI cI cB cJ cZ ad stM kcM 115 (va_A (pic ad stM kcM 115 cI cB cJ cZ x) s.heap.size) x s.heap := ⟨hW0.1, hW0.2.1.self (sz := s.heap.size), hW0.2.2⟩
  generalize hAe : va_A (pic ad stM kcM 115 cI cB cJ cZ x) s.heap.size = A at hW ⊢
  have hA : ∀ q : Nat, s.heap.size ≤ q → A q := fun q h => by rw [← hAe]; exact Or.inr h
  have hS : va_S A s.heap s.heap [] := va_S.rf
  have hl := lv_entry ([.ref (ad 0), .int l1]) (n := 6) (Nat.le_of_ble_eq_true rfl)
  rw [lg_entry_eq]
  generalize (lg_sl ([.ref (ad 0), .int l1]) ++ List.replicate (6 - (lg_sl ([.ref (ad 0), .int l1])).length) Slot.unset).toArray = ls at hl ⊢
  have hl : lv_has ls 6 [(0, .ref (ad 0)), (1, .int l1)] := hl
  exact t_Mod_openSchema_e hx hb hml hown hT hK hN hA (Nat.le_refl 0) (Nat.le_refl 0) (Nat.le_refl 4) (Nat.le_refl 97) (fun x H locs pc ls hd hp hW hS => W.vret hx hb hr (fun t ht hM => ⟨⟨x, rfl, hp, Wd.back hW ht.symm (fun _ z => z)⟩, hS.F ht⟩) hS.2.2 hd hlocks)  l1 x _ _ ls  hw hW hS hl
set_option maxRecDepth 100000 in
set_option maxHeartbeats 4000000 in
set_option maxRecDepth 100000 in
theorem t_Mod_unzigzag_e {p : Program} {l : Launch} {e : Env} {R : Room} {s : State} {m : MethodId} {args : Array Value} {below : List Frame} {meth : Method} {c : Code} {cells slots : Nat} {Q : State → Prop} {dC : Nat → ClassId} {dI : Nat → Nat → Nat} {cI cB cJ cZ : ClassId} {A : Nat → Prop} {ad : Nat → Nat} {post : Int64 → St → Prop} (hx : p.tables.exec = Jvm.exec) (hb : c.code = b_Mod_unzigzag) (hml : c.maxLocals = 2) (hown : s.vm.findClass R_Mod = some m.cls) (hT : ∀ w ∈ TG, w.before args s = true) (hK : va_K (dC, dI) CL (TY cI cB cJ cZ) s) (hN : NW s) (hA : ∀ q : Nat, s.heap.size ≤ q → A q) (hRc : cells ≤ R.cells) (hRs : slots ≤ R.slots) (hRf : 0 ≤ R.frames) (hRl : 0 ≤ R.locals) (hret : ∀ (r : Int64) (x : St) (H : Heap) (locs : List Loc) (pc : Nat) (ls : Array Slot), decode b_Mod_unzigzag pc = .ok (.lreturn, 1) → post r x → Wd dC dI cI cB cJ cZ ad stM kcM 115 A x H → va_S A s.heap H locs → W p l e R s m args below meth c H locs cells slots Q (F0 m pc ls [.long r])) : ∀ (l0 : Int64) (x : St) (H : Heap) (locs : List Loc) (ls : Array Slot), wp_Mod_unzigzag post l0 x → Wd dC dI cI cB cJ cZ ad stM kcM 115 A x H → va_S A s.heap H locs → lv_has ls 2 [(0, .long l0)] → W p l e R s m args below meth c H locs cells slots Q (F0 m 0 ls []) := by
  intro l0 x H locs ls  hw hW hS hl
  unfold wp_Mod_unzigzag at hw
  refine lv_lload_n hx hb d_Mod_unzigzag_0 rfl (lv_at hl 0 rfl) ?_
  refine lv_lconst (v := 1) hx hb d_Mod_unzigzag_1 (by decide) ?_
  refine lv_land hx hb d_Mod_unzigzag_2 ?_
  refine lv_lconst (v := 0) hx hb d_Mod_unzigzag_3 (by decide) ?_
  refine W.lcmp hx hb d_Mod_unzigzag_4 ?_
  refine lv_if_ne (tgt := 14) hx hb d_Mod_unzigzag_5 (by decide) (fun c1012 => ?_) (fun c1012 => ?_)
  · have hw := hw.1 c1012
    refine lv_lload_n hx hb d_Mod_unzigzag_14 rfl (lv_at hl 0 rfl) ?_
    refine lv_iconst (v := 1) hx hb d_Mod_unzigzag_15 (by decide) ?_
    refine lv_lushr hx hb d_Mod_unzigzag_16 rfl ?_
    refine lv_lneg hx hb d_Mod_unzigzag_17 ?_
    refine lv_lconst (v := 1) hx hb d_Mod_unzigzag_18 (by decide) ?_
    refine lv_lsub hx hb d_Mod_unzigzag_19 ?_
    exact hret ((-((l0 : Int64).toUInt64 >>> ((1 : Int32).toInt64.toUInt64 &&& Int64.toUInt64 63)).toInt64) - 1) x H locs 20 ls d_Mod_unzigzag_20 hw hW hS
  · have hw := hw.2 c1012
    refine lv_lload_n hx hb d_Mod_unzigzag_8 rfl (lv_at hl 0 rfl) ?_
    refine lv_iconst (v := 1) hx hb d_Mod_unzigzag_9 (by decide) ?_
    refine lv_lushr hx hb d_Mod_unzigzag_10 rfl ?_
    refine lv_goto (tgt := 20) hx hb d_Mod_unzigzag_11 (by decide) ?_
    exact hret ((l0 : Int64).toUInt64 >>> ((1 : Int32).toInt64.toUInt64 &&& Int64.toUInt64 63)).toInt64 x H locs 20 ls d_Mod_unzigzag_20 hw hW hS
set_option maxHeartbeats 4000000 in
set_option maxRecDepth 100000 in
theorem k_Mod_unzigzag (l : Launch) (dC : Nat → ClassId) (dI : Nat → Nat → Nat) (cI cB cJ cZ : ClassId) (ad : Nat → Nat) (sz : Nat) (l0 : Int64) (x : St) {post : Int64 → St → Prop} (hw : wp_Mod_unzigzag post l0 x) : Met l y_Mod_unzigzag (wsOf y_Mod_unzigzag b_Mod_unzigzag 2 (some (.long))) ({ frames := 0, cells := 0, slots := 0, locals := 0 }) (va_Pc [.long l0] (PW dC dI cI cB cJ cZ ad stM kcM 115 sz x)) (va_Ql (fun (r : Int64) (y : St) => post r y) (fun y t => Wd dC dI cI cB cJ cZ ad stM kcM 115 (va_A (pic ad stM kcM 115 cI cB cJ cZ x) sz) y t.heap) (va_A (pic ad stM kcM 115 cI cB cJ cZ x) sz)) 0 0 (va_A (pic ad stM kcM 115 cI cB cJ cZ x) sz) := by
  refine Met.ofW (cc := b_Mod_unzigzag) (maxL := 2) (ret := some (.long)) (by decide) rfl ?_
  intro p e s m args below meth c s₁ B hml hv
  obtain ⟨rfl, hsz, hW0, hK, hN⟩ := hv
  have hx := B.exec
  have hb := B.bytes
  have hr := B.returns
  have hts := atoms_spec B.pre
  have hT : ∀ w ∈ TG, w.before _ s = true := fun w h => hts w (List.mem_cons_of_mem _ h)
  have hown : s.vm.findClass R_Mod = some m.cls := findClass_of_methodNamed B.named
  have hlocks := B.notSynchronized
  subst hsz
  have hW : Wd dC dI cI cB cJ cZ ad stM kcM 115 (va_A (pic ad stM kcM 115 cI cB cJ cZ x) s.heap.size) x s.heap := ⟨hW0.1, hW0.2.1.self (sz := s.heap.size), hW0.2.2⟩
  generalize hAe : va_A (pic ad stM kcM 115 cI cB cJ cZ x) s.heap.size = A at hW ⊢
  have hA : ∀ q : Nat, s.heap.size ≤ q → A q := fun q h => by rw [← hAe]; exact Or.inr h
  have hS : va_S A s.heap s.heap [] := va_S.rf
  have hl := lv_entry ([.long l0]) (n := 2) (Nat.le_of_ble_eq_true rfl)
  rw [lg_entry_eq]
  generalize (lg_sl ([.long l0]) ++ List.replicate (2 - (lg_sl ([.long l0])).length) Slot.unset).toArray = ls at hl ⊢
  have hl : lv_has ls 2 [(0, .long l0)] := hl
  exact t_Mod_unzigzag_e hx hb hml hown hT hK hN hA (Nat.le_refl 0) (Nat.le_refl 0) (Nat.le_refl 0) (Nat.le_refl 0) (fun r x H locs pc ls hd hp hW hS => W.lret (v := r) hx hb hr (fun t ht hM => ⟨⟨r, x, rfl, hp, Wd.back hW ht.symm (fun _ z => z)⟩, hS.F ht⟩) hS.2.2 hd hlocks)  l0 x _ _ ls  hw hW hS hl
set_option maxRecDepth 100000 in
set_option maxHeartbeats 4000000 in
set_option maxRecDepth 100000 in
theorem t_Mod_isOne_43 {p : Program} {l : Launch} {e : Env} {R : Room} {s : State} {m : MethodId} {args : Array Value} {below : List Frame} {meth : Method} {c : Code} {cells slots : Nat} {Q : State → Prop} {dC : Nat → ClassId} {dI : Nat → Nat → Nat} {cI cB cJ cZ : ClassId} {A : Nat → Prop} {ad : Nat → Nat} {post : Int32 → St → Prop} (hx : p.tables.exec = Jvm.exec) (hb : c.code = b_Mod_isOne) (hml : c.maxLocals = 3) (hown : s.vm.findClass R_Mod = some m.cls) (hT : ∀ w ∈ TG, w.before args s = true) (hK : va_K (dC, dI) CL (TY cI cB cJ cZ) s) (hN : NW s) (hA : ∀ q : Nat, s.heap.size ≤ q → A q) (hRc : cells ≤ R.cells) (hRs : slots ≤ R.slots) (hRf : 0 ≤ R.frames) (hRl : 0 ≤ R.locals) (hret : ∀ (r : Int32) (x : St) (H : Heap) (locs : List Loc) (pc : Nat) (ls : Array Slot), decode b_Mod_isOne pc = .ok (.ireturn, 1) → narrow .boolean (.int r) = .int r → post r x → Wd dC dI cI cB cJ cZ ad stM kcM 115 A x H → va_S A s.heap H locs → W p l e R s m args below meth c H locs cells slots Q (F0 m pc ls [.int r]))  : ∀ (l1 : Int64) (x : St) (H : Heap) (locs : List Loc) (ls : Array Slot), j_Mod_isOne_43 post l1 x → Wd dC dI cI cB cJ cZ ad stM kcM 115 A x H → va_S A s.heap H locs → lv_has ls 3 [(0, .ref (ad 0)), (1, .long l1)] → W p l e R s m args below meth c H locs cells slots Q (F0 m 43 ls []) := by
  intro l1 x H locs ls  hw hW hS hl
  unfold j_Mod_isOne_43 at hw
  refine lv_iconst (v := 1) hx hb d_Mod_isOne_43 (by decide) ?_
  refine lv_goto (tgt := 48) hx hb d_Mod_isOne_44 (by decide) ?_
  exact hret 1 x H locs 48 ls d_Mod_isOne_48 rfl hw hW hS
set_option maxRecDepth 100000 in
set_option maxHeartbeats 4000000 in
set_option maxRecDepth 100000 in
theorem t_Mod_isOne_19 {p : Program} {l : Launch} {e : Env} {R : Room} {s : State} {m : MethodId} {args : Array Value} {below : List Frame} {meth : Method} {c : Code} {cells slots : Nat} {Q : State → Prop} {dC : Nat → ClassId} {dI : Nat → Nat → Nat} {cI cB cJ cZ : ClassId} {A : Nat → Prop} {ad : Nat → Nat} {post : Int32 → St → Prop} (hx : p.tables.exec = Jvm.exec) (hb : c.code = b_Mod_isOne) (hml : c.maxLocals = 3) (hown : s.vm.findClass R_Mod = some m.cls) (hT : ∀ w ∈ TG, w.before args s = true) (hK : va_K (dC, dI) CL (TY cI cB cJ cZ) s) (hN : NW s) (hA : ∀ q : Nat, s.heap.size ≤ q → A q) (hRc : cells ≤ R.cells) (hRs : slots ≤ R.slots) (hRf : 0 ≤ R.frames) (hRl : 0 ≤ R.locals) (hret : ∀ (r : Int32) (x : St) (H : Heap) (locs : List Loc) (pc : Nat) (ls : Array Slot), decode b_Mod_isOne pc = .ok (.ireturn, 1) → narrow .boolean (.int r) = .int r → post r x → Wd dC dI cI cB cJ cZ ad stM kcM 115 A x H → va_S A s.heap H locs → W p l e R s m args below meth c H locs cells slots Q (F0 m pc ls [.int r]))  : ∀ (l1 : Int64) (x : St) (H : Heap) (locs : List Loc) (ls : Array Slot), j_Mod_isOne_19 post l1 x → Wd dC dI cI cB cJ cZ ad stM kcM 115 A x H → va_S A s.heap H locs → lv_has ls 3 [(0, .ref (ad 0)), (1, .long l1)] → W p l e R s m args below meth c H locs cells slots Q (F0 m 19 ls []) := by
  intro l1 x H locs ls  hw hW hS hl
  unfold j_Mod_isOne_19 at hw
  refine lv_iconst (v := 1) hx hb d_Mod_isOne_19 (by decide) ?_
  refine lv_goto (tgt := 48) hx hb d_Mod_isOne_20 (by decide) ?_
  exact hret 1 x H locs 48 ls d_Mod_isOne_48 rfl hw hW hS
set_option maxRecDepth 100000 in
set_option maxHeartbeats 4000000 in
set_option maxRecDepth 100000 in
theorem t_Mod_isOne_e {p : Program} {l : Launch} {e : Env} {R : Room} {s : State} {m : MethodId} {args : Array Value} {below : List Frame} {meth : Method} {c : Code} {cells slots : Nat} {Q : State → Prop} {dC : Nat → ClassId} {dI : Nat → Nat → Nat} {cI cB cJ cZ : ClassId} {A : Nat → Prop} {ad : Nat → Nat} {post : Int32 → St → Prop} (hx : p.tables.exec = Jvm.exec) (hb : c.code = b_Mod_isOne) (hml : c.maxLocals = 3) (hown : s.vm.findClass R_Mod = some m.cls) (hT : ∀ w ∈ TG, w.before args s = true) (hK : va_K (dC, dI) CL (TY cI cB cJ cZ) s) (hN : NW s) (hA : ∀ q : Nat, s.heap.size ≤ q → A q) (hRc : cells ≤ R.cells) (hRs : slots ≤ R.slots) (hRf : 0 ≤ R.frames) (hRl : 0 ≤ R.locals) (hret : ∀ (r : Int32) (x : St) (H : Heap) (locs : List Loc) (pc : Nat) (ls : Array Slot), decode b_Mod_isOne pc = .ok (.ireturn, 1) → narrow .boolean (.int r) = .int r → post r x → Wd dC dI cI cB cJ cZ ad stM kcM 115 A x H → va_S A s.heap H locs → W p l e R s m args below meth c H locs cells slots Q (F0 m pc ls [.int r])) : ∀ (l1 : Int64) (x : St) (H : Heap) (locs : List Loc) (ls : Array Slot), wp_Mod_isOne post l1 x → Wd dC dI cI cB cJ cZ ad stM kcM 115 A x H → va_S A s.heap H locs → lv_has ls 3 [(0, .ref (ad 0)), (1, .long l1)] → W p l e R s m args below meth c H locs cells slots Q (F0 m 0 ls []) := by
  intro l1 x H locs ls  hw hW hS hl
  unfold wp_Mod_isOne at hw
  refine lv_aload_n hx hb d_Mod_isOne_0 rfl (lv_at hl 0 rfl) ?_
  refine w_geti (k := 38) (t := 12) (C := R_Mod) (T := F_Mod) (N := 167) hx hb hT hown hK hW ko_0.1 ko_0.2 (by decide) in_Mod rfl rfl (by decide) rfl fr_Mod_38 w_8_214 d_Mod_isOne_1 ?_
  refine lv_if_ne (tgt := 27) hx hb d_Mod_isOne_4 (by decide) (fun c1013 => ?_) (fun c1013 => ?_)
  · have hw := hw.1 c1013
    refine lv_aload_n hx hb d_Mod_isOne_27 rfl (lv_at hl 0 rfl) ?_
    refine w_geti (k := 38) (t := 12) (C := R_Mod) (T := F_Mod) (N := 167) hx hb hT hown hK hW ko_0.1 ko_0.2 (by decide) in_Mod rfl rfl (by decide) rfl fr_Mod_38 w_8_214 d_Mod_isOne_28 ?_
    refine lv_iconst (v := 1) hx hb d_Mod_isOne_31 (by decide) ?_
    refine lv_icmp_ne (tgt := 43) hx hb d_Mod_isOne_32 (by decide) (fun c1014 => ?_) (fun c1014 => ?_)
    · have hw := hw.1 c1014
      exact t_Mod_isOne_43 hx hb hml hown hT hK hN hA hRc hRs hRf hRl hret  l1 x H locs ls  hw hW hS (lv_sub hl [0, 1] rfl)
    · have hw := hw.2 c1014
      refine lv_lload_n hx hb d_Mod_isOne_35 rfl (lv_at hl 1 rfl) ?_
      refine lv_lload_n hx hb d_Mod_isOne_36 rfl (lv_at hl 1 rfl) ?_
      refine lv_l2i hx hb d_Mod_isOne_37 rfl ?_
      refine lv_i2l hx hb d_Mod_isOne_38 rfl ?_
      refine W.lcmp hx hb d_Mod_isOne_39 ?_
      refine lv_if_ne (tgt := 47) hx hb d_Mod_isOne_40 (by decide) (fun c1015 => ?_) (fun c1015 => ?_)
      · have hw := hw.1 c1015
        refine lv_iconst (v := 0) hx hb d_Mod_isOne_47 (by decide) ?_
        exact hret 0 x H locs 48 ls d_Mod_isOne_48 rfl hw hW hS
      · have hw := hw.2 c1015
        exact t_Mod_isOne_43 hx hb hml hown hT hK hN hA hRc hRs hRf hRl hret  l1 x H locs ls  hw hW hS (lv_sub hl [0, 1] rfl)
  · have hw := hw.2 c1013
    refine lv_lload_n hx hb d_Mod_isOne_7 rfl (lv_at hl 1 rfl) ?_
    refine lv_lconst (v := 0) hx hb d_Mod_isOne_8 (by decide) ?_
    refine W.lcmp hx hb d_Mod_isOne_9 ?_
    refine lv_if_eq (tgt := 19) hx hb d_Mod_isOne_10 (by decide) (fun c1016 => ?_) (fun c1016 => ?_)
    · have hw := hw.1 c1016
      exact t_Mod_isOne_19 hx hb hml hown hT hK hN hA hRc hRs hRf hRl hret  l1 x H locs ls  hw hW hS (lv_sub hl [0, 1] rfl)
    · have hw := hw.2 c1016
      refine lv_lload_n hx hb d_Mod_isOne_13 rfl (lv_at hl 1 rfl) ?_
      refine lv_lconst (v := 1) hx hb d_Mod_isOne_14 (by decide) ?_
      refine W.lcmp hx hb d_Mod_isOne_15 ?_
      refine lv_if_ne (tgt := 23) hx hb d_Mod_isOne_16 (by decide) (fun c1017 => ?_) (fun c1017 => ?_)
      · have hw := hw.1 c1017
        refine lv_iconst (v := 0) hx hb d_Mod_isOne_23 (by decide) ?_
        refine lv_goto (tgt := 48) hx hb d_Mod_isOne_24 (by decide) ?_
        exact hret 0 x H locs 48 ls d_Mod_isOne_48 rfl hw hW hS
      · have hw := hw.2 c1017
        exact t_Mod_isOne_19 hx hb hml hown hT hK hN hA hRc hRs hRf hRl hret  l1 x H locs ls  hw hW hS (lv_sub hl [0, 1] rfl)
set_option maxHeartbeats 4000000 in
set_option maxRecDepth 100000 in
theorem k_Mod_isOne (l : Launch) (dC : Nat → ClassId) (dI : Nat → Nat → Nat) (cI cB cJ cZ : ClassId) (ad : Nat → Nat) (sz : Nat) (l1 : Int64) (x : St) {post : Int32 → St → Prop} (hw : wp_Mod_isOne post l1 x) : Met l y_Mod_isOne (wsOf y_Mod_isOne b_Mod_isOne 3 (some (.boolean))) ({ frames := 0, cells := 0, slots := 0, locals := 0 }) (va_Pc [.ref (ad 0), .long l1] (PW dC dI cI cB cJ cZ ad stM kcM 115 sz x)) (va_Qi (fun (r : Int32) (y : St) => post r y) (fun y t => Wd dC dI cI cB cJ cZ ad stM kcM 115 (va_A (pic ad stM kcM 115 cI cB cJ cZ x) sz) y t.heap) (va_A (pic ad stM kcM 115 cI cB cJ cZ x) sz)) 0 0 (va_A (pic ad stM kcM 115 cI cB cJ cZ x) sz) := by
  refine Met.ofW (cc := b_Mod_isOne) (maxL := 3) (ret := some (.boolean)) (by decide) rfl ?_
  intro p e s m args below meth c s₁ B hml hv
  obtain ⟨rfl, hsz, hW0, hK, hN⟩ := hv
  have hx := B.exec
  have hb := B.bytes
  have hr := B.returns
  have hts := atoms_spec B.pre
  have hT : ∀ w ∈ TG, w.before _ s = true := fun w h => hts w (List.mem_cons_of_mem _ h)
  have hown : s.vm.findClass R_Mod = some m.cls := findClass_of_methodNamed B.named
  have hlocks := B.notSynchronized
  subst hsz
  have hW : Wd dC dI cI cB cJ cZ ad stM kcM 115 (va_A (pic ad stM kcM 115 cI cB cJ cZ x) s.heap.size) x s.heap := ⟨hW0.1, hW0.2.1.self (sz := s.heap.size), hW0.2.2⟩
  generalize hAe : va_A (pic ad stM kcM 115 cI cB cJ cZ x) s.heap.size = A at hW ⊢
  have hA : ∀ q : Nat, s.heap.size ≤ q → A q := fun q h => by rw [← hAe]; exact Or.inr h
  have hS : va_S A s.heap s.heap [] := va_S.rf
  have hl := lv_entry ([.ref (ad 0), .long l1]) (n := 3) (Nat.le_of_ble_eq_true rfl)
  rw [lg_entry_eq]
  generalize (lg_sl ([.ref (ad 0), .long l1]) ++ List.replicate (3 - (lg_sl ([.ref (ad 0), .long l1])).length) Slot.unset).toArray = ls at hl ⊢
  have hl : lv_has ls 3 [(0, .ref (ad 0)), (1, .long l1)] := hl
  exact t_Mod_isOne_e hx hb hml hown hT hK hN hA (Nat.le_refl 0) (Nat.le_refl 0) (Nat.le_refl 0) (Nat.le_refl 0) (fun r x H locs pc ls hd hz hp hW hS => W.zret (v := r) (ty := .boolean) hx hb hr hz (fun t ht hM => ⟨⟨r, x, rfl, hp, Wd.back hW ht.symm (fun _ z => z)⟩, hS.F ht⟩) hS.2.2 hd hlocks)  l1 x _ _ ls  hw hW hS hl
set_option maxRecDepth 100000 in
set_option maxHeartbeats 4000000 in
set_option maxRecDepth 100000 in
theorem t_Mod_readTold_185 {p : Program} {l : Launch} {e : Env} {R : Room} {s : State} {m : MethodId} {args : Array Value} {below : List Frame} {meth : Method} {c : Code} {cells slots : Nat} {Q : State → Prop} {dC : Nat → ClassId} {dI : Nat → Nat → Nat} {cI cB cJ cZ : ClassId} {A : Nat → Prop} {ad : Nat → Nat} {post : St → Prop} {rec185 : Int32 → Int64 → Int32 → St → Prop} (hx : p.tables.exec = Jvm.exec) (hb : c.code = b_Mod_readTold) (hml : c.maxLocals = 5) (hown : s.vm.findClass R_Mod = some m.cls) (hT : ∀ w ∈ TG, w.before args s = true) (hK : va_K (dC, dI) CL (TY cI cB cJ cZ) s) (hN : NW s) (hA : ∀ q : Nat, s.heap.size ≤ q → A q) (hRc : cells ≤ R.cells) (hRs : slots ≤ R.slots) (hRf : 1 ≤ R.frames) (hRl : 25 ≤ R.locals) (hret : ∀ (x : St) (H : Heap) (locs : List Loc) (pc : Nat) (ls : Array Slot), decode b_Mod_readTold pc = .ok (.return_, 1) → post x → Wd dC dI cI cB cJ cZ ad stM kcM 115 A x H → va_S A s.heap H locs → W p l e R s m args below meth c H locs cells slots Q (F0 m pc ls [])) (hrec185 : ∀ (l1 : Int32) (l2 : Int64) (l4 : Int32) (x : St) (H : Heap) (locs : List Loc) (ls : Array Slot), rec185 l1 l2 l4 x → Wd dC dI cI cB cJ cZ ad stM kcM 115 A x H → va_S A s.heap H locs → lv_has ls 5 [(0, .ref (ad 0)), (1, .int l1), (2, .long l2), (4, .int l4)] → W p l e R s m args below meth c H locs cells slots Q (F0 m 185 ls [])) : ∀ (l1 : Int32) (l2 : Int64) (l4 : Int32) (x : St) (H : Heap) (locs : List Loc) (ls : Array Slot), j_Mod_readTold_185 post rec185 l1 l2 l4 x → Wd dC dI cI cB cJ cZ ad stM kcM 115 A x H → va_S A s.heap H locs → lv_has ls 5 [(0, .ref (ad 0)), (1, .int l1), (2, .long l2), (4, .int l4)] → W p l e R s m args below meth c H locs cells slots Q (F0 m 185 ls []) := by
  intro l1 l2 l4 x H locs ls  hw hW hS hl
  unfold j_Mod_readTold_185 at hw
  refine lv_iload hx hb d_Mod_readTold_185 (lv_at hl 3 rfl) ?_
  refine lv_i2l hx hb d_Mod_readTold_187 rfl ?_
  refine lv_lload_n hx hb d_Mod_readTold_188 rfl (lv_at hl 2 rfl) ?_
  refine W.lcmp hx hb d_Mod_readTold_189 ?_
  refine lv_if_ge (tgt := 224) hx hb d_Mod_readTold_190 (by decide) (fun c1018 => ?_) (fun c1018 => ?_)
  · have hw := hw.1 c1018
    refine lv_aload_n hx hb d_Mod_readTold_224 rfl (lv_at hl 0 rfl) ?_
    refine lv_dup hx hb d_Mod_readTold_225 rfl ?_
    refine w_geti (k := 67) (t := 12) (C := R_Mod) (T := F_Mod) (N := 167) hx hb hT hown hK hW ko_0.1 ko_0.2 (by decide) in_Mod rfl rfl (by decide) rfl fr_Mod_67 w_9_3 d_Mod_readTold_226 ?_
    refine lv_lload_n hx hb d_Mod_readTold_229 rfl (lv_at hl 2 rfl) ?_
    refine lv_l2i hx hb d_Mod_readTold_230 rfl ?_
    refine lv_iadd hx hb d_Mod_readTold_231 ?_
    refine w_puti (ty := .int) (k := 67) (t := 12) (C := R_Mod) (T := F_Mod) (N := 167) hx hb hT hown hK hW hS ko_0.1 ko_0.2 (by decide) in_Mod t_Mod t_Mod_ok n_Mod rfl rfl (by decide) rfl fr_Mod_67 w_9_3 (by decide +kernel) rfl rfl d_Mod_readTold_232 (fun H locs hW hS => ?_)
    obtain ⟨x1019, ex1019⟩ : ∃ y : St, y = setI x 0 67 ((fI x 0 67) + (l2 : Int64).toInt32) := ⟨_, rfl⟩
    rw [← ex1019] at hW
    have hw := hw x1019 ex1019
    exact hret x1019 H locs 235 ls d_Mod_readTold_235 hw hW hS
  · have hw := hw.2 c1018
    refine lv_aload_n hx hb d_Mod_readTold_193 rfl (lv_at hl 0 rfl) ?_
    refine w_getf (q := 49) (k := 77) (t := 12) (C := R_Mod) (T := F_Mod) (N := 167) hx hb hT hown hK hW ko_0.1 ko_0.2 (by decide) in_Mod rfl rfl (by decide) rfl fr_Mod_77 w_9_13 d_Mod_readTold_194 rfl ?_
    refine lv_sipush (v := 256) hx hb d_Mod_readTold_197 (by decide) ?_
    refine lv_iload_n hx hb d_Mod_readTold_200 rfl (lv_at hl 1 rfl) ?_
    refine lv_imul hx hb d_Mod_readTold_201 ?_
    refine lv_iload hx hb d_Mod_readTold_202 (lv_at hl 3 rfl) ?_
    refine lv_iadd hx hb d_Mod_readTold_204 ?_
    refine lv_aload_n hx hb d_Mod_readTold_205 rfl (lv_at hl 0 rfl) ?_
    refine w_getf (q := 41) (k := 62) (t := 12) (C := R_Mod) (T := F_Mod) (N := 167) hx hb hT hown hK hW ko_0.1 ko_0.2 (by decide) in_Mod rfl rfl (by decide) rfl fr_Mod_62 w_8_238 d_Mod_readTold_206 rfl ?_
    refine lv_aload_n hx hb d_Mod_readTold_209 rfl (lv_at hl 0 rfl) ?_
    refine w_geti (k := 67) (t := 12) (C := R_Mod) (T := F_Mod) (N := 167) hx hb hT hown hK hW ko_0.1 ko_0.2 (by decide) in_Mod rfl rfl (by decide) rfl fr_Mod_67 w_9_3 d_Mod_readTold_210 ?_
    refine lv_iload hx hb d_Mod_readTold_213 (lv_at hl 3 rfl) ?_
    refine lv_iadd hx hb d_Mod_readTold_215 ?_
    obtain ⟨hi, hw⟩ := hw
    refine w_iald (o := 41) hx hb hK hW ko_41.1 ko_41.2 hi d_Mod_readTold_216 ?_
    obtain ⟨hi, hw⟩ := hw
    refine w_iast (o := 49) hx hb hK hW hS ko_49.1 ko_49.2 hi d_Mod_readTold_217 (fun H locs hW hS => ?_)
    obtain ⟨x1020, ex1020⟩ : ∃ y : St, y = setA x 49 ((256 * l1) + l4) (rA x 41 ((fI x 0 67) + l4)) := ⟨_, rfl⟩
    rw [← ex1020] at hW
    have hw := hw x1020 ex1020
    refine lv_iinc (v := (l4 + 1)) (lv' := [(4, .int (l4 + 1)), (0, .ref (ad 0)), (1, .int l1), (2, .long l2)]) hx hb d_Mod_readTold_218 hl (k := 3) rfl rfl (by decide) rfl (fun ls hl => ?_)
    refine lv_goto (tgt := 185) hx hb d_Mod_readTold_221 (by decide) ?_
    exact hrec185 l1 l2 (l4 + 1) x1020 H locs ls  hw hW hS (lv_sub hl [1, 2, 3, 0] rfl)
set_option maxHeartbeats 4000000 in
set_option maxRecDepth 100000 in
theorem tl_Mod_readTold_185 {p : Program} {l : Launch} {e : Env} {R : Room} {s : State} {m : MethodId} {args : Array Value} {below : List Frame} {meth : Method} {c : Code} {cells slots : Nat} {Q : State → Prop} {dC : Nat → ClassId} {dI : Nat → Nat → Nat} {cI cB cJ cZ : ClassId} {A : Nat → Prop} {ad : Nat → Nat} {post : St → Prop} (hx : p.tables.exec = Jvm.exec) (hb : c.code = b_Mod_readTold) (hml : c.maxLocals = 5) (hown : s.vm.findClass R_Mod = some m.cls) (hT : ∀ w ∈ TG, w.before args s = true) (hK : va_K (dC, dI) CL (TY cI cB cJ cZ) s) (hN : NW s) (hA : ∀ q : Nat, s.heap.size ≤ q → A q) (hRc : cells ≤ R.cells) (hRs : slots ≤ R.slots) (hRf : 1 ≤ R.frames) (hRl : 25 ≤ R.locals) (hret : ∀ (x : St) (H : Heap) (locs : List Loc) (pc : Nat) (ls : Array Slot), decode b_Mod_readTold pc = .ok (.return_, 1) → post x → Wd dC dI cI cB cJ cZ ad stM kcM 115 A x H → va_S A s.heap H locs → W p l e R s m args below meth c H locs cells slots Q (F0 m pc ls []))  : ∀ n : Nat, ∀ (l1 : Int32) (l2 : Int64) (l4 : Int32) (x : St) (H : Heap) (locs : List Loc) (ls : Array Slot), wl_Mod_readTold_185 post n l1 l2 l4 x → Wd dC dI cI cB cJ cZ ad stM kcM 115 A x H → va_S A s.heap H locs → lv_has ls 5 [(0, .ref (ad 0)), (1, .int l1), (2, .long l2), (4, .int l4)] → W p l e R s m args below meth c H locs cells slots Q (F0 m 185 ls []) := by
  intro n
  induction n with
  | zero => intro l1 l2 l4 x H locs ls  hw; exact hw.elim
  | succ n ih => intro l1 l2 l4 x H locs ls  hw hW hS hl; exact t_Mod_readTold_185 hx hb hml hown hT hK hN hA hRc hRs hRf hRl hret  ih l1 l2 l4 x H locs ls  hw hW hS hl
set_option maxRecDepth 100000 in
set_option maxHeartbeats 4000000 in
set_option maxRecDepth 100000 in
theorem t_Mod_readTold_166 {p : Program} {l : Launch} {e : Env} {R : Room} {s : State} {m : MethodId} {args : Array Value} {below : List Frame} {meth : Method} {c : Code} {cells slots : Nat} {Q : State → Prop} {dC : Nat → ClassId} {dI : Nat → Nat → Nat} {cI cB cJ cZ : ClassId} {A : Nat → Prop} {ad : Nat → Nat} {post : St → Prop} (hx : p.tables.exec = Jvm.exec) (hb : c.code = b_Mod_readTold) (hml : c.maxLocals = 5) (hown : s.vm.findClass R_Mod = some m.cls) (hT : ∀ w ∈ TG, w.before args s = true) (hK : va_K (dC, dI) CL (TY cI cB cJ cZ) s) (hN : NW s) (hA : ∀ q : Nat, s.heap.size ≤ q → A q) (hRc : cells ≤ R.cells) (hRs : slots ≤ R.slots) (hRf : 1 ≤ R.frames) (hRl : 25 ≤ R.locals) (hret : ∀ (x : St) (H : Heap) (locs : List Loc) (pc : Nat) (ls : Array Slot), decode b_Mod_readTold pc = .ok (.return_, 1) → post x → Wd dC dI cI cB cJ cZ ad stM kcM 115 A x H → va_S A s.heap H locs → W p l e R s m args below meth c H locs cells slots Q (F0 m pc ls []))  : ∀ (l1 : Int32) (l2 : Int64) (x : St) (H : Heap) (locs : List Loc) (ls : Array Slot), j_Mod_readTold_166 post l1 l2 x → Wd dC dI cI cB cJ cZ ad stM kcM 115 A x H → va_S A s.heap H locs → lv_has ls 5 [(0, .ref (ad 0)), (1, .int l1), (2, .long l2)] → W p l e R s m args below meth c H locs cells slots Q (F0 m 166 ls []) := by
  intro l1 l2 x H locs ls  hw hW hS hl
  unfold j_Mod_readTold_166 at hw
  refine lv_aload_n hx hb d_Mod_readTold_166 rfl (lv_at hl 0 rfl) ?_
  refine w_geti (k := 69) (t := 12) (C := R_Mod) (T := F_Mod) (N := 167) hx hb hT hown hK hW ko_0.1 ko_0.2 (by decide) in_Mod rfl rfl (by decide) rfl fr_Mod_69 w_9_5 d_Mod_readTold_167 ?_
  refine lv_if_eq (tgt := 174) hx hb d_Mod_readTold_170 (by decide) (fun c1021 => ?_) (fun c1021 => ?_)
  · have hw := hw.1 c1021
    refine lv_aload_n hx hb d_Mod_readTold_174 rfl (lv_at hl 0 rfl) ?_
    refine w_getf (q := 48) (k := 76) (t := 12) (C := R_Mod) (T := F_Mod) (N := 167) hx hb hT hown hK hW ko_0.1 ko_0.2 (by decide) in_Mod rfl rfl (by decide) rfl fr_Mod_76 w_9_12 d_Mod_readTold_175 rfl ?_
    refine lv_iload_n hx hb d_Mod_readTold_178 rfl (lv_at hl 1 rfl) ?_
    refine lv_lload_n hx hb d_Mod_readTold_179 rfl (lv_at hl 2 rfl) ?_
    refine lv_l2i hx hb d_Mod_readTold_180 rfl ?_
    obtain ⟨hi, hw⟩ := hw
    refine w_iast (o := 48) hx hb hK hW hS ko_48.1 ko_48.2 hi d_Mod_readTold_181 (fun H locs hW hS => ?_)
    obtain ⟨x1022, ex1022⟩ : ∃ y : St, y = setA x 48 l1 (l2 : Int64).toInt32 := ⟨_, rfl⟩
    rw [← ex1022] at hW
    have hw := hw x1022 ex1022
    refine lv_iconst (v := 0) hx hb d_Mod_readTold_182 (by decide) ?_
    refine lv_istore (lv' := [(4, .int 0), (0, .ref (ad 0)), (1, .int l1), (2, .long l2)]) hx hb d_Mod_readTold_183 hl (by decide) rfl (fun ls hl => ?_)
    obtain ⟨n, hw⟩ := hw
    exact tl_Mod_readTold_185 hx hb hml hown hT hK hN hA hRc hRs hRf hRl hret  n l1 l2 0 x1022 H locs ls  hw hW hS (lv_sub hl [1, 2, 3, 0] rfl)
  · have hw := hw.2 c1021
    exact hret x H locs 173 ls d_Mod_readTold_173 hw hW hS
set_option maxRecDepth 100000 in
set_option maxHeartbeats 4000000 in
set_option maxRecDepth 100000 in
theorem t_Mod_readTold_139 {p : Program} {l : Launch} {e : Env} {R : Room} {s : State} {m : MethodId} {args : Array Value} {below : List Frame} {meth : Method} {c : Code} {cells slots : Nat} {Q : State → Prop} {dC : Nat → ClassId} {dI : Nat → Nat → Nat} {cI cB cJ cZ : ClassId} {A : Nat → Prop} {ad : Nat → Nat} {post : St → Prop} (hx : p.tables.exec = Jvm.exec) (hb : c.code = b_Mod_readTold) (hml : c.maxLocals = 5) (hown : s.vm.findClass R_Mod = some m.cls) (hT : ∀ w ∈ TG, w.before args s = true) (hK : va_K (dC, dI) CL (TY cI cB cJ cZ) s) (hN : NW s) (hA : ∀ q : Nat, s.heap.size ≤ q → A q) (hRc : cells ≤ R.cells) (hRs : slots ≤ R.slots) (hRf : 1 ≤ R.frames) (hRl : 25 ≤ R.locals) (hret : ∀ (x : St) (H : Heap) (locs : List Loc) (pc : Nat) (ls : Array Slot), decode b_Mod_readTold pc = .ok (.return_, 1) → post x → Wd dC dI cI cB cJ cZ ad stM kcM 115 A x H → va_S A s.heap H locs → W p l e R s m args below meth c H locs cells slots Q (F0 m pc ls []))  : ∀ (l1 : Int32) (l2 : Int64) (x : St) (H : Heap) (locs : List Loc) (ls : Array Slot), j_Mod_readTold_139 post l1 l2 x → Wd dC dI cI cB cJ cZ ad stM kcM 115 A x H → va_S A s.heap H locs → lv_has ls 5 [(0, .ref (ad 0)), (1, .int l1), (2, .long l2)] → W p l e R s m args below meth c H locs cells slots Q (F0 m 139 ls []) := by
  intro l1 l2 x H locs ls  hw hW hS hl
  unfold j_Mod_readTold_139 at hw
  refine lv_aload_n hx hb d_Mod_readTold_139 rfl (lv_at hl 0 rfl) ?_
  refine w_geti (k := 69) (t := 12) (C := R_Mod) (T := F_Mod) (N := 167) hx hb hT hown hK hW ko_0.1 ko_0.2 (by decide) in_Mod rfl rfl (by decide) rfl fr_Mod_69 w_9_5 d_Mod_readTold_140 ?_
  refine lv_if_ne (tgt := 166) hx hb d_Mod_readTold_143 (by decide) (fun c1023 => ?_) (fun c1023 => ?_)
  · have hw := hw.1 c1023
    exact t_Mod_readTold_166 hx hb hml hown hT hK hN hA hRc hRs hRf hRl hret  l1 l2 x H locs ls  hw hW hS (lv_sub hl [0, 1, 2] rfl)
  · have hw := hw.2 c1023
    refine lv_aload_n hx hb d_Mod_readTold_146 rfl (lv_at hl 0 rfl) ?_
    refine w_geti (k := 68) (t := 12) (C := R_Mod) (T := F_Mod) (N := 167) hx hb hT hown hK hW ko_0.1 ko_0.2 (by decide) in_Mod rfl rfl (by decide) rfl fr_Mod_68 w_9_4 d_Mod_readTold_147 ?_
    refine lv_aload_n hx hb d_Mod_readTold_150 rfl (lv_at hl 0 rfl) ?_
    refine w_geti (k := 67) (t := 12) (C := R_Mod) (T := F_Mod) (N := 167) hx hb hT hown hK hW ko_0.1 ko_0.2 (by decide) in_Mod rfl rfl (by decide) rfl fr_Mod_67 w_9_3 d_Mod_readTold_151 ?_
    refine lv_isub hx hb d_Mod_readTold_154 ?_
    refine lv_i2l hx hb d_Mod_readTold_155 rfl ?_
    refine lv_lload_n hx hb d_Mod_readTold_156 rfl (lv_at hl 2 rfl) ?_
    refine W.lcmp hx hb d_Mod_readTold_157 ?_
    refine lv_if_ge (tgt := 166) hx hb d_Mod_readTold_158 (by decide) (fun c1024 => ?_) (fun c1024 => ?_)
    · have hw := hw.1 c1024
      exact t_Mod_readTold_166 hx hb hml hown hT hK hN hA hRc hRs hRf hRl hret  l1 l2 x H locs ls  hw hW hS (lv_sub hl [0, 1, 2] rfl)
    · have hw := hw.2 c1024
      refine lv_aload_n hx hb d_Mod_readTold_161 rfl (lv_at hl 0 rfl) ?_
      refine lv_iconst (v := 1) hx hb d_Mod_readTold_162 (by decide) ?_
      refine w_puti (ty := .int) (k := 69) (t := 12) (C := R_Mod) (T := F_Mod) (N := 167) hx hb hT hown hK hW hS ko_0.1 ko_0.2 (by decide) in_Mod t_Mod t_Mod_ok n_Mod rfl rfl (by decide) rfl fr_Mod_69 w_9_5 (by decide +kernel) rfl rfl d_Mod_readTold_163 (fun H locs hW hS => ?_)
      obtain ⟨x1025, ex1025⟩ : ∃ y : St, y = setI x 0 69 1 := ⟨_, rfl⟩
      rw [← ex1025] at hW
      have hw := hw x1025 ex1025
      exact t_Mod_readTold_166 hx hb hml hown hT hK hN hA hRc hRs hRf hRl hret  l1 l2 x1025 H locs ls  hw hW hS (lv_sub hl [0, 1, 2] rfl)
set_option maxRecDepth 100000 in
set_option maxHeartbeats 4000000 in
set_option maxRecDepth 100000 in
theorem t_Mod_readTold_133 {p : Program} {l : Launch} {e : Env} {R : Room} {s : State} {m : MethodId} {args : Array Value} {below : List Frame} {meth : Method} {c : Code} {cells slots : Nat} {Q : State → Prop} {dC : Nat → ClassId} {dI : Nat → Nat → Nat} {cI cB cJ cZ : ClassId} {A : Nat → Prop} {ad : Nat → Nat} {post : St → Prop} (hx : p.tables.exec = Jvm.exec) (hb : c.code = b_Mod_readTold) (hml : c.maxLocals = 5) (hown : s.vm.findClass R_Mod = some m.cls) (hT : ∀ w ∈ TG, w.before args s = true) (hK : va_K (dC, dI) CL (TY cI cB cJ cZ) s) (hN : NW s) (hA : ∀ q : Nat, s.heap.size ≤ q → A q) (hRc : cells ≤ R.cells) (hRs : slots ≤ R.slots) (hRf : 1 ≤ R.frames) (hRl : 25 ≤ R.locals) (hret : ∀ (x : St) (H : Heap) (locs : List Loc) (pc : Nat) (ls : Array Slot), decode b_Mod_readTold pc = .ok (.return_, 1) → post x → Wd dC dI cI cB cJ cZ ad stM kcM 115 A x H → va_S A s.heap H locs → W p l e R s m args below meth c H locs cells slots Q (F0 m pc ls []))  : ∀ (l1 : Int32) (l2 : Int64) (x : St) (H : Heap) (locs : List Loc) (ls : Array Slot), j_Mod_readTold_133 post l1 l2 x → Wd dC dI cI cB cJ cZ ad stM kcM 115 A x H → va_S A s.heap H locs → lv_has ls 5 [(0, .ref (ad 0)), (1, .int l1), (2, .long l2)] → W p l e R s m args below meth c H locs cells slots Q (F0 m 133 ls []) := by
  intro l1 l2 x H locs ls  hw hW hS hl
  unfold j_Mod_readTold_133 at hw
  refine lv_aload_n hx hb d_Mod_readTold_133 rfl (lv_at hl 0 rfl) ?_
  refine lv_bipush (v := 7) hx hb d_Mod_readTold_134 (by decide) ?_
  refine w_puti (ty := .int) (k := 69) (t := 12) (C := R_Mod) (T := F_Mod) (N := 167) hx hb hT hown hK hW hS ko_0.1 ko_0.2 (by decide) in_Mod t_Mod t_Mod_ok n_Mod rfl rfl (by decide) rfl fr_Mod_69 w_9_5 (by decide +kernel) rfl rfl d_Mod_readTold_136 (fun H locs hW hS => ?_)
  obtain ⟨x1026, ex1026⟩ : ∃ y : St, y = setI x 0 69 7 := ⟨_, rfl⟩
  rw [← ex1026] at hW
  have hw := hw x1026 ex1026
  exact t_Mod_readTold_139 hx hb hml hown hT hK hN hA hRc hRs hRf hRl hret  l1 l2 x1026 H locs ls  hw hW hS (lv_sub hl [0, 1, 2] rfl)
set_option maxRecDepth 100000 in
set_option maxHeartbeats 4000000 in
set_option maxRecDepth 100000 in
theorem t_Mod_readTold_e {p : Program} {l : Launch} {e : Env} {R : Room} {s : State} {m : MethodId} {args : Array Value} {below : List Frame} {meth : Method} {c : Code} {cells slots : Nat} {Q : State → Prop} {dC : Nat → ClassId} {dI : Nat → Nat → Nat} {cI cB cJ cZ : ClassId} {A : Nat → Prop} {ad : Nat → Nat} {post : St → Prop} (hx : p.tables.exec = Jvm.exec) (hb : c.code = b_Mod_readTold) (hml : c.maxLocals = 5) (hown : s.vm.findClass R_Mod = some m.cls) (hT : ∀ w ∈ TG, w.before args s = true) (hK : va_K (dC, dI) CL (TY cI cB cJ cZ) s) (hN : NW s) (hA : ∀ q : Nat, s.heap.size ≤ q → A q) (hRc : cells ≤ R.cells) (hRs : slots ≤ R.slots) (hRf : 1 ≤ R.frames) (hRl : 25 ≤ R.locals) (hret : ∀ (x : St) (H : Heap) (locs : List Loc) (pc : Nat) (ls : Array Slot), decode b_Mod_readTold pc = .ok (.return_, 1) → post x → Wd dC dI cI cB cJ cZ ad stM kcM 115 A x H → va_S A s.heap H locs → W p l e R s m args below meth c H locs cells slots Q (F0 m pc ls [])) : ∀ (l1 : Int32) (x : St) (H : Heap) (locs : List Loc) (ls : Array Slot), wp_Mod_readTold post l1 x → Wd dC dI cI cB cJ cZ ad stM kcM 115 A x H → va_S A s.heap H locs → lv_has ls 5 [(0, .ref (ad 0)), (1, .int l1)] → W p l e R s m args below meth c H locs cells slots Q (F0 m 0 ls []) := by
  intro l1 x H locs ls  hw hW hS hl
  unfold wp_Mod_readTold at hw
  refine lv_aload_n hx hb d_Mod_readTold_0 rfl (lv_at hl 0 rfl) ?_
  refine w_geti (k := 38) (t := 12) (C := R_Mod) (T := F_Mod) (N := 167) hx hb hT hown hK hW ko_0.1 ko_0.2 (by decide) in_Mod rfl rfl (by decide) rfl fr_Mod_38 w_8_214 d_Mod_readTold_1 ?_
  refine lv_if_ne (tgt := 49) hx hb d_Mod_readTold_4 (by decide) (fun c1027 => ?_) (fun c1027 => ?_)
  · have hw := hw.1 c1027
    refine lv_aload_n hx hb d_Mod_readTold_49 rfl (lv_at hl 0 rfl) ?_
    refine w_geti (k := 38) (t := 12) (C := R_Mod) (T := F_Mod) (N := 167) hx hb hT hown hK hW ko_0.1 ko_0.2 (by decide) in_Mod rfl rfl (by decide) rfl fr_Mod_38 w_8_214 d_Mod_readTold_50 ?_
    refine lv_iconst (v := 3) hx hb d_Mod_readTold_53 (by decide) ?_
    refine lv_icmp_eq (tgt := 103) hx hb d_Mod_readTold_54 (by decide) (fun c1028 => ?_) (fun c1028 => ?_)
    · have hw := hw.1 c1028
      refine lv_aload_n hx hb d_Mod_readTold_103 rfl (lv_at hl 0 rfl) ?_
      refine lv_aload_n hx hb d_Mod_readTold_104 rfl (lv_at hl 0 rfl) ?_
      refine w_geti (k := 68) (t := 12) (C := R_Mod) (T := F_Mod) (N := 167) hx hb hT hown hK hW ko_0.1 ko_0.2 (by decide) in_Mod rfl rfl (by decide) rfl fr_Mod_68 w_9_4 d_Mod_readTold_105 ?_
      have hF := hW.free hS hA
      refine va_calll (va_runV (C := R_Mod) (As := [.int (fI x 0 68)]) (rest := []) ⟨hx, hb, hml, hown, hT⟩ (k_Mod_varint l dC dI cI cB cJ cZ ad H.size (fI x 0 68) x  hw) ⟨callB_of 1 hT (gwt_in w_12_124) rfl rfl rfl (hT _ w_1_15) (hT _ w_12_121) (by decide +kernel) ⟨Nat.le_trans (Nat.le_of_ble_eq_true rfl) hRf, Nat.le_trans (Nat.le_of_ble_eq_true rfl) hRl⟩, hT _ w_12_123, hT _ ws_187⟩ ⟨PW.blind, va_recv hK hW.1 (ci := 12) (q0 := 0) rfl (pic_obj ko_0.1 ko_0.2 (by decide)), PW.at _ hW hK hN⟩ rfl rfl hl.1 rfl (lv_room (Nat.le_of_ble_eq_true rfl)) d_Mod_readTold_108 ⟨hRc, hRs⟩) hS (fun q _ h => hF q h) hF (fun r1030 x1029 t H locs ht hvm hw hB hz1 hk1 hS => ?_)
      have hW := Wd.back hB ht hF
      clear hB ht hF hz1 hk1 hvm
      refine lv_lstore_n (lv' := [(2, .long r1030), (0, .ref (ad 0)), (1, .int l1)]) hx hb d_Mod_readTold_111 rfl hl (by decide) rfl (fun ls hl => ?_)
      refine lv_aload_n hx hb d_Mod_readTold_112 rfl (lv_at hl 1 rfl) ?_
      refine w_geti (k := 69) (t := 12) (C := R_Mod) (T := F_Mod) (N := 167) hx hb hT hown hK hW ko_0.1 ko_0.2 (by decide) in_Mod rfl rfl (by decide) rfl fr_Mod_69 w_9_5 d_Mod_readTold_113 ?_
      refine lv_if_ne (tgt := 139) hx hb d_Mod_readTold_116 (by decide) (fun c1031 => ?_) (fun c1031 => ?_)
      · have hw := hw.1 c1031
        exact t_Mod_readTold_139 hx hb hml hown hT hK hN hA hRc hRs hRf hRl hret  l1 r1030 x1029 H locs ls  hw hW hS (lv_sub hl [1, 2, 0] rfl)
      · have hw := hw.2 c1031
        refine lv_lload_n hx hb d_Mod_readTold_119 rfl (lv_at hl 0 rfl) ?_
        refine lv_lconst (v := 0) hx hb d_Mod_readTold_120 (by decide) ?_
        refine W.lcmp hx hb d_Mod_readTold_121 ?_
        refine lv_if_lt (tgt := 133) hx hb d_Mod_readTold_122 (by decide) (fun c1032 => ?_) (fun c1032 => ?_)
        · have hw := hw.1 c1032
          exact t_Mod_readTold_133 hx hb hml hown hT hK hN hA hRc hRs hRf hRl hret  l1 r1030 x1029 H locs ls  hw hW hS (lv_sub hl [1, 2, 0] rfl)
        · have hw := hw.2 c1032
          refine lv_lload_n hx hb d_Mod_readTold_125 rfl (lv_at hl 0 rfl) ?_
          refine lv_ldc2 hx hb hown (hT _ w_12_152) d_Mod_readTold_126 ?_
          refine W.lcmp hx hb d_Mod_readTold_129 ?_
          refine lv_if_le (tgt := 139) hx hb d_Mod_readTold_130 (by decide) (fun c1033 => ?_) (fun c1033 => ?_)
          · have hw := hw.1 c1033
            exact t_Mod_readTold_139 hx hb hml hown hT hK hN hA hRc hRs hRf hRl hret  l1 r1030 x1029 H locs ls  hw hW hS (lv_sub hl [1, 2, 0] rfl)
          · have hw := hw.2 c1033
            exact t_Mod_readTold_133 hx hb hml hown hT hK hN hA hRc hRs hRf hRl hret  l1 r1030 x1029 H locs ls  hw hW hS (lv_sub hl [1, 2, 0] rfl)
    · have hw := hw.2 c1028
      refine lv_aload_n hx hb d_Mod_readTold_57 rfl (lv_at hl 0 rfl) ?_
      refine w_getf (q := 47) (k := 75) (t := 12) (C := R_Mod) (T := F_Mod) (N := 167) hx hb hT hown hK hW ko_0.1 ko_0.2 (by decide) in_Mod rfl rfl (by decide) rfl fr_Mod_75 w_9_11 d_Mod_readTold_58 rfl ?_
      refine lv_iload_n hx hb d_Mod_readTold_61 rfl (lv_at hl 1 rfl) ?_
      refine lv_aload_n hx hb d_Mod_readTold_62 rfl (lv_at hl 0 rfl) ?_
      refine lv_aload_n hx hb d_Mod_readTold_63 rfl (lv_at hl 0 rfl) ?_
      refine w_geti (k := 68) (t := 12) (C := R_Mod) (T := F_Mod) (N := 167) hx hb hT hown hK hW ko_0.1 ko_0.2 (by decide) in_Mod rfl rfl (by decide) rfl fr_Mod_68 w_9_4 d_Mod_readTold_64 ?_
      have hF := hW.free hS hA
      refine va_calll (va_runV (C := R_Mod) (As := [.int (fI x 0 68)]) (rest := [.int l1, .ref (ad 47)]) ⟨hx, hb, hml, hown, hT⟩ (k_Mod_varint l dC dI cI cB cJ cZ ad H.size (fI x 0 68) x  hw) ⟨callB_of 1 hT (gwt_in w_12_124) rfl rfl rfl (hT _ w_1_15) (hT _ w_12_121) (by decide +kernel) ⟨Nat.le_trans (Nat.le_of_ble_eq_true rfl) hRf, Nat.le_trans (Nat.le_of_ble_eq_true rfl) hRl⟩, hT _ w_12_123, hT _ ws_187⟩ ⟨PW.blind, va_recv hK hW.1 (ci := 12) (q0 := 0) rfl (pic_obj ko_0.1 ko_0.2 (by decide)), PW.at _ hW hK hN⟩ rfl rfl hl.1 rfl (lv_room (Nat.le_of_ble_eq_true rfl)) d_Mod_readTold_67 ⟨hRc, hRs⟩) hS (fun q _ h => hF q h) hF (fun r1035 x1034 t H locs ht hvm hw hB hz1 hk1 hS => ?_)
      have hW := Wd.back hB ht hF
      clear hB ht hF hz1 hk1 hvm
      have hF := hW.free hS hA
      refine va_calll (va_runS (As := [.long r1035]) (rest := [.int l1, .ref (ad 47)]) ⟨hx, hb, hml, hown, hT⟩ (k_Mod_unzigzag l dC dI cI cB cJ cZ ad H.size r1035 x1034  hw) ⟨callB_of 1 hT (gwt_in w_12_147) rfl rfl rfl (hT _ w_1_15) (hT _ w_12_145) (by decide +kernel) ⟨Nat.le_trans (Nat.le_of_ble_eq_true rfl) hRf, Nat.le_trans (Nat.le_of_ble_eq_true rfl) hRl⟩, hT _ w_12_146⟩ ⟨PW.blind, PW.at _ hW hK hN⟩ rfl rfl hl.1 rfl (lv_room (Nat.le_of_ble_eq_true rfl)) d_Mod_readTold_70 ⟨hRc, hRs⟩) hS (fun q _ h => hF q h) hF (fun r1037 x1036 t H locs ht hvm hw hB hz1 hk1 hS => ?_)
      have hW := Wd.back hB ht hF
      clear hB ht hF hz1 hk1 hvm
      obtain ⟨hi, hw⟩ := hw
      refine w_last (o := 47) hx hb hK hW hS ko_47.1 ko_47.2 hi d_Mod_readTold_73 (fun H locs hW hS => ?_)
      obtain ⟨x1038, ex1038⟩ : ∃ y : St, y = setL x1036 47 l1 r1037 := ⟨_, rfl⟩
      rw [← ex1038] at hW
      have hw := hw x1038 ex1038
      refine lv_aload_n hx hb d_Mod_readTold_74 rfl (lv_at hl 0 rfl) ?_
      refine w_geti (k := 69) (t := 12) (C := R_Mod) (T := F_Mod) (N := 167) hx hb hT hown hK hW ko_0.1 ko_0.2 (by decide) in_Mod rfl rfl (by decide) rfl fr_Mod_69 w_9_5 d_Mod_readTold_75 ?_
      refine lv_if_ne (tgt := 235) hx hb d_Mod_readTold_78 (by decide) (fun c1039 => ?_) (fun c1039 => ?_)
      · have hw := hw.1 c1039
        exact hret x1038 H locs 235 ls d_Mod_readTold_235 hw hW hS
      · have hw := hw.2 c1039
        refine lv_aload_n hx hb d_Mod_readTold_81 rfl (lv_at hl 0 rfl) ?_
        refine lv_aload_n hx hb d_Mod_readTold_82 rfl (lv_at hl 0 rfl) ?_
        refine w_getf (q := 47) (k := 75) (t := 12) (C := R_Mod) (T := F_Mod) (N := 167) hx hb hT hown hK hW ko_0.1 ko_0.2 (by decide) in_Mod rfl rfl (by decide) rfl fr_Mod_75 w_9_11 d_Mod_readTold_83 rfl ?_
        refine lv_iload_n hx hb d_Mod_readTold_86 rfl (lv_at hl 1 rfl) ?_
        obtain ⟨hi, hw⟩ := hw
        refine w_lald (o := 47) hx hb hK hW ko_47.1 ko_47.2 hi d_Mod_readTold_87 ?_
        have hF := hW.free hS hA
        refine va_calli (va_runV (C := R_Mod) (As := [.long (rL x1038 47 l1)]) (rest := []) ⟨hx, hb, hml, hown, hT⟩ (k_Mod_isOne l dC dI cI cB cJ cZ ad H.size (rL x1038 47 l1) x1038  hw) ⟨callB_of 1 hT (gwt_in w_12_151) rfl rfl rfl (hT _ w_1_15) (hT _ w_12_148) (by decide +kernel) ⟨Nat.le_trans (Nat.le_of_ble_eq_true rfl) hRf, Nat.le_trans (Nat.le_of_ble_eq_true rfl) hRl⟩, hT _ w_12_150, hT _ ws_192⟩ ⟨PW.blind, va_recv hK hW.1 (ci := 12) (q0 := 0) rfl (pic_obj ko_0.1 ko_0.2 (by decide)), PW.at _ hW hK hN⟩ rfl rfl hl.1 rfl (lv_room (Nat.le_of_ble_eq_true rfl)) d_Mod_readTold_88 ⟨hRc, hRs⟩) hS (fun q _ h => hF q h) hF (fun r1041 x1040 t H locs ht hvm hw hB hz1 hk1 hS => ?_)
        have hW := Wd.back hB ht hF
        clear hB ht hF hz1 hk1 hvm
        refine lv_if_ne (tgt := 235) hx hb d_Mod_readTold_91 (by decide) (fun c1042 => ?_) (fun c1042 => ?_)
        · have hw := hw.1 c1042
          exact hret x1040 H locs 235 ls d_Mod_readTold_235 hw hW hS
        · have hw := hw.2 c1042
          refine lv_aload_n hx hb d_Mod_readTold_94 rfl (lv_at hl 0 rfl) ?_
          refine lv_bipush (v := 7) hx hb d_Mod_readTold_95 (by decide) ?_
          refine w_puti (ty := .int) (k := 69) (t := 12) (C := R_Mod) (T := F_Mod) (N := 167) hx hb hT hown hK hW hS ko_0.1 ko_0.2 (by decide) in_Mod t_Mod t_Mod_ok n_Mod rfl rfl (by decide) rfl fr_Mod_69 w_9_5 (by decide +kernel) rfl rfl d_Mod_readTold_97 (fun H locs hW hS => ?_)
          obtain ⟨x1043, ex1043⟩ : ∃ y : St, y = setI x1040 0 69 7 := ⟨_, rfl⟩
          rw [← ex1043] at hW
          have hw := hw x1043 ex1043
          refine lv_goto (tgt := 235) hx hb d_Mod_readTold_100 (by decide) ?_
          exact hret x1043 H locs 235 ls d_Mod_readTold_235 hw hW hS
  · have hw := hw.2 c1027
    refine lv_aload_n hx hb d_Mod_readTold_7 rfl (lv_at hl 0 rfl) ?_
    refine w_getf (q := 47) (k := 75) (t := 12) (C := R_Mod) (T := F_Mod) (N := 167) hx hb hT hown hK hW ko_0.1 ko_0.2 (by decide) in_Mod rfl rfl (by decide) rfl fr_Mod_75 w_9_11 d_Mod_readTold_8 rfl ?_
    refine lv_iload_n hx hb d_Mod_readTold_11 rfl (lv_at hl 1 rfl) ?_
    refine lv_aload_n hx hb d_Mod_readTold_12 rfl (lv_at hl 0 rfl) ?_
    refine lv_iconst (v := 1) hx hb d_Mod_readTold_13 (by decide) ?_
    refine lv_aload_n hx hb d_Mod_readTold_14 rfl (lv_at hl 0 rfl) ?_
    refine w_geti (k := 68) (t := 12) (C := R_Mod) (T := F_Mod) (N := 167) hx hb hT hown hK hW ko_0.1 ko_0.2 (by decide) in_Mod rfl rfl (by decide) rfl fr_Mod_68 w_9_4 d_Mod_readTold_15 ?_
    have hF := hW.free hS hA
    refine va_calll (va_runV (C := R_Mod) (As := [.int 1, .int (fI x 0 68)]) (rest := [.int l1, .ref (ad 47)]) ⟨hx, hb, hml, hown, hT⟩ (k_Mod_fixed l dC dI cI cB cJ cZ ad H.size 1 (fI x 0 68) x  hw) ⟨callB_of 2 hT (gwt_in w_12_111) rfl rfl rfl (hT _ w_1_15) (hT _ w_12_108) (by decide +kernel) ⟨Nat.le_trans (Nat.le_of_ble_eq_true rfl) hRf, Nat.le_trans (Nat.le_of_ble_eq_true rfl) hRl⟩, hT _ w_12_110, hT _ ws_184⟩ ⟨PW.blind, va_recv hK hW.1 (ci := 12) (q0 := 0) rfl (pic_obj ko_0.1 ko_0.2 (by decide)), PW.at _ hW hK hN⟩ rfl rfl hl.1 rfl (lv_room (Nat.le_of_ble_eq_true rfl)) d_Mod_readTold_18 ⟨hRc, hRs⟩) hS (fun q _ h => hF q h) hF (fun r1045 x1044 t H locs ht hvm hw hB hz1 hk1 hS => ?_)
    have hW := Wd.back hB ht hF
    clear hB ht hF hz1 hk1 hvm
    obtain ⟨hi, hw⟩ := hw
    refine w_last (o := 47) hx hb hK hW hS ko_47.1 ko_47.2 hi d_Mod_readTold_21 (fun H locs hW hS => ?_)
    obtain ⟨x1046, ex1046⟩ : ∃ y : St, y = setL x1044 47 l1 r1045 := ⟨_, rfl⟩
    rw [← ex1046] at hW
    have hw := hw x1046 ex1046
    refine lv_aload_n hx hb d_Mod_readTold_22 rfl (lv_at hl 0 rfl) ?_
    refine w_geti (k := 69) (t := 12) (C := R_Mod) (T := F_Mod) (N := 167) hx hb hT hown hK hW ko_0.1 ko_0.2 (by decide) in_Mod rfl rfl (by decide) rfl fr_Mod_69 w_9_5 d_Mod_readTold_23 ?_
    refine lv_if_ne (tgt := 235) hx hb d_Mod_readTold_26 (by decide) (fun c1047 => ?_) (fun c1047 => ?_)
    · have hw := hw.1 c1047
      exact hret x1046 H locs 235 ls d_Mod_readTold_235 hw hW hS
    · have hw := hw.2 c1047
      refine lv_aload_n hx hb d_Mod_readTold_29 rfl (lv_at hl 0 rfl) ?_
      refine w_getf (q := 47) (k := 75) (t := 12) (C := R_Mod) (T := F_Mod) (N := 167) hx hb hT hown hK hW ko_0.1 ko_0.2 (by decide) in_Mod rfl rfl (by decide) rfl fr_Mod_75 w_9_11 d_Mod_readTold_30 rfl ?_
      refine lv_iload_n hx hb d_Mod_readTold_33 rfl (lv_at hl 1 rfl) ?_
      obtain ⟨hi, hw⟩ := hw
      refine w_lald (o := 47) hx hb hK hW ko_47.1 ko_47.2 hi d_Mod_readTold_34 ?_
      refine lv_lconst (v := 1) hx hb d_Mod_readTold_35 (by decide) ?_
      refine W.lcmp hx hb d_Mod_readTold_36 ?_
      refine lv_if_le (tgt := 235) hx hb d_Mod_readTold_37 (by decide) (fun c1048 => ?_) (fun c1048 => ?_)
      · have hw := hw.1 c1048
        exact hret x1046 H locs 235 ls d_Mod_readTold_235 hw hW hS
      · have hw := hw.2 c1048
        refine lv_aload_n hx hb d_Mod_readTold_40 rfl (lv_at hl 0 rfl) ?_
        refine lv_bipush (v := 7) hx hb d_Mod_readTold_41 (by decide) ?_
        refine w_puti (ty := .int) (k := 69) (t := 12) (C := R_Mod) (T := F_Mod) (N := 167) hx hb hT hown hK hW hS ko_0.1 ko_0.2 (by decide) in_Mod t_Mod t_Mod_ok n_Mod rfl rfl (by decide) rfl fr_Mod_69 w_9_5 (by decide +kernel) rfl rfl d_Mod_readTold_43 (fun H locs hW hS => ?_)
        obtain ⟨x1049, ex1049⟩ : ∃ y : St, y = setI x1046 0 69 7 := ⟨_, rfl⟩
        rw [← ex1049] at hW
        have hw := hw x1049 ex1049
        refine lv_goto (tgt := 235) hx hb d_Mod_readTold_46 (by decide) ?_
        exact hret x1049 H locs 235 ls d_Mod_readTold_235 hw hW hS
set_option maxHeartbeats 4000000 in
set_option maxRecDepth 100000 in
theorem k_Mod_readTold (l : Launch) (dC : Nat → ClassId) (dI : Nat → Nat → Nat) (cI cB cJ cZ : ClassId) (ad : Nat → Nat) (sz : Nat) (l1 : Int32) (x : St) {post : St → Prop} (hw : wp_Mod_readTold post l1 x) : Met l y_Mod_readTold (wsOf y_Mod_readTold b_Mod_readTold 5 (none)) ({ frames := 1, cells := 0, slots := 0, locals := 25 }) (va_Pc [.ref (ad 0), .int l1] (PW dC dI cI cB cJ cZ ad stM kcM 115 sz x)) (va_Qv (fun (y : St) => post y) (fun y t => Wd dC dI cI cB cJ cZ ad stM kcM 115 (va_A (pic ad stM kcM 115 cI cB cJ cZ x) sz) y t.heap) (va_A (pic ad stM kcM 115 cI cB cJ cZ x) sz)) 0 0 (va_A (pic ad stM kcM 115 cI cB cJ cZ x) sz) := by
  refine Met.ofW (cc := b_Mod_readTold) (maxL := 5) (ret := none) (by decide) rfl ?_
  intro p e s m args below meth c s₁ B hml hv
  obtain ⟨rfl, hsz, hW0, hK, hN⟩ := hv
  have hx := B.exec
  have hb := B.bytes
  have hr := B.returns
  have hts := atoms_spec B.pre
  have hT : ∀ w ∈ TG, w.before _ s = true := fun w h => hts w (List.mem_cons_of_mem _ h)
  have hown : s.vm.findClass R_Mod = some m.cls := findClass_of_methodNamed B.named
  have hlocks := B.notSynchronized
  subst hsz
  have hW : Wd dC dI cI cB cJ cZ ad stM kcM 115 (va_A (pic ad stM kcM 115 cI cB cJ cZ x) s.heap.size) x s.heap := ⟨hW0.1, hW0.2.1.self (sz := s.heap.size), hW0.2.2⟩
  generalize hAe : va_A (pic ad stM kcM 115 cI cB cJ cZ x) s.heap.size = A at hW ⊢
  have hA : ∀ q : Nat, s.heap.size ≤ q → A q := fun q h => by rw [← hAe]; exact Or.inr h
  have hS : va_S A s.heap s.heap [] := va_S.rf
  have hl := lv_entry ([.ref (ad 0), .int l1]) (n := 5) (Nat.le_of_ble_eq_true rfl)
  rw [lg_entry_eq]
  generalize (lg_sl ([.ref (ad 0), .int l1]) ++ List.replicate (5 - (lg_sl ([.ref (ad 0), .int l1])).length) Slot.unset).toArray = ls at hl ⊢
  have hl : lv_has ls 5 [(0, .ref (ad 0)), (1, .int l1)] := hl
  exact t_Mod_readTold_e hx hb hml hown hT hK hN hA (Nat.le_refl 0) (Nat.le_refl 0) (Nat.le_refl 1) (Nat.le_refl 25) (fun x H locs pc ls hd hp hW hS => W.vret hx hb hr (fun t ht hM => ⟨⟨x, rfl, hp, Wd.back hW ht.symm (fun _ z => z)⟩, hS.F ht⟩) hS.2.2 hd hlocks)  l1 x _ _ ls  hw hW hS hl
end
