theorem fr_Mod_160 : F_Mod 160 = (R_Mod, "foundRows", "I", false) := rfl
theorem fr_Mod_165 : F_Mod 165 = (R_Mod, "newSkippedGroups", "I", false) := rfl
theorem fr_Mod_166 : F_Mod 166 = (R_Mod, "newSkippedStretches", "I", false) := rfl
theorem w_13_204 : (Jvm.Cond.methodLink "StripedVaultModel" (1123 : Nat) ({ cls := "StripedVaultModel", name := "asks", desc := "(I)Z" } : Jvm.MethodName)) ∈ TG := tw_13 204 (by decide +kernel) (by decide +kernel)
theorem w_13_206 : (Jvm.Cond.instanceMethod ({ cls := "StripedVaultModel", name := "asks", desc := "(I)Z" } : Jvm.MethodName)) ∈ TG := tw_13 206 (by decide +kernel) (by decide +kernel)
theorem w_13_207 : (Jvm.Cond.code ({ cls := "StripedVaultModel", name := "asks", desc := "(I)Z" } : Jvm.MethodName) prog_14_method_188_code (5 : Nat) (Option.some Jvm.ClassFile.FieldType.boolean)) ∈ TG := tw_13 207 (by decide +kernel) (by decide +kernel)
theorem w_13_208 : (Jvm.Cond.methodLink "StripedVaultModel" (1138 : Nat) ({ cls := "StripedVaultModel", name := "tellChunk", desc := "(II)V" } : Jvm.MethodName)) ∈ TG := tw_13 208 (by decide +kernel) (by decide +kernel)
theorem w_13_210 : (Jvm.Cond.instanceMethod ({ cls := "StripedVaultModel", name := "tellChunk", desc := "(II)V" } : Jvm.MethodName)) ∈ TG := tw_13 210 (by decide +kernel) (by decide +kernel)
theorem w_13_211 : (Jvm.Cond.code ({ cls := "StripedVaultModel", name := "tellChunk", desc := "(II)V" } : Jvm.MethodName) prog_14_method_189_code (4 : Nat) (Option.none : Option Jvm.ClassFile.FieldType)) ∈ TG := tw_13 211 (by decide +kernel) (by decide +kernel)
theorem w_13_212 : (Jvm.Cond.methodLink "StripedVaultModel" (1117 : Nat) ({ cls := "StripedVaultModel", name := "condition", desc := "(I)I" } : Jvm.MethodName)) ∈ TG := tw_13 212 (by decide +kernel) (by decide +kernel)
theorem w_13_214 : (Jvm.Cond.instanceMethod ({ cls := "StripedVaultModel", name := "condition", desc := "(I)I" } : Jvm.MethodName)) ∈ TG := tw_13 214 (by decide +kernel) (by decide +kernel)
theorem w_13_215 : (Jvm.Cond.code ({ cls := "StripedVaultModel", name := "condition", desc := "(I)I" } : Jvm.MethodName) prog_14_method_182_code (6 : Nat) (Option.some Jvm.ClassFile.FieldType.int)) ∈ TG := tw_13 215 (by decide +kernel) (by decide +kernel)
theorem w_14_20 : (Jvm.Cond.methodLink "StripedVaultModel" (1141 : Nat) ({ cls := "StripedVaultModel", name := "lookAtGroup", desc := "(II)V" } : Jvm.MethodName)) ∈ TG := tw_14 20 (by decide +kernel) (by decide +kernel)
theorem w_14_22 : (Jvm.Cond.instanceMethod ({ cls := "StripedVaultModel", name := "lookAtGroup", desc := "(II)V" } : Jvm.MethodName)) ∈ TG := tw_14 22 (by decide +kernel) (by decide +kernel)
theorem w_14_23 : (Jvm.Cond.code ({ cls := "StripedVaultModel", name := "lookAtGroup", desc := "(II)V" } : Jvm.MethodName) prog_14_method_192_code (7 : Nat) (Option.none : Option Jvm.ClassFile.FieldType)) ∈ TG := tw_14 23 (by decide +kernel) (by decide +kernel)
theorem w_14_24 : (Jvm.Cond.methodLink "StripedVaultModel" (1126 : Nat) ({ cls := "StripedVaultModel", name := "tellPage", desc := "(II)I" } : Jvm.MethodName)) ∈ TG := tw_14 24 (by decide +kernel) (by decide +kernel)
theorem w_14_26 : (Jvm.Cond.instanceMethod ({ cls := "StripedVaultModel", name := "tellPage", desc := "(II)I" } : Jvm.MethodName)) ∈ TG := tw_14 26 (by decide +kernel) (by decide +kernel)
theorem w_14_27 : (Jvm.Cond.code ({ cls := "StripedVaultModel", name := "tellPage", desc := "(II)I" } : Jvm.MethodName) prog_14_method_190_code (4 : Nat) (Option.some Jvm.ClassFile.FieldType.int)) ∈ TG := tw_14 27 (by decide +kernel) (by decide +kernel)
theorem w_14_28 : (Jvm.Cond.methodLink "StripedVaultModel" (1129 : Nat) ({ cls := "StripedVaultModel", name := "lookAt", desc := "(II)V" } : Jvm.MethodName)) ∈ TG := tw_14 28 (by decide +kernel) (by decide +kernel)
theorem w_14_30 : (Jvm.Cond.instanceMethod ({ cls := "StripedVaultModel", name := "lookAt", desc := "(II)V" } : Jvm.MethodName)) ∈ TG := tw_14 30 (by decide +kernel) (by decide +kernel)
theorem w_14_31 : (Jvm.Cond.code ({ cls := "StripedVaultModel", name := "lookAt", desc := "(II)V" } : Jvm.MethodName) prog_14_method_191_code (4 : Nat) (Option.none : Option Jvm.ClassFile.FieldType)) ∈ TG := tw_14 31 (by decide +kernel) (by decide +kernel)
theorem w_9_101 : (Jvm.Cond.fieldLink "StripedVaultModel" (1135 : Nat) "StripedVaultModel" "newSkippedGroups" "I") ∈ TG := tw_9 101 (by decide +kernel) (by decide +kernel)
theorem w_9_102 : (Jvm.Cond.fieldLink "StripedVaultModel" (1132 : Nat) "StripedVaultModel" "newSkippedStretches" "I") ∈ TG := tw_9 102 (by decide +kernel) (by decide +kernel)
theorem w_9_96 : (Jvm.Cond.fieldLink "StripedVaultModel" (1120 : Nat) "StripedVaultModel" "foundRows" "I") ∈ TG := tw_9 96 (by decide +kernel) (by decide +kernel)
theorem ws_253 : Cond.selects R_Mod y_Mod_asks y_Mod_asks ∈ TG := tw_s 253 (by decide +kernel) (by decide +kernel)
theorem ws_254 : Cond.selects R_Mod y_Mod_tellChunk y_Mod_tellChunk ∈ TG := tw_s 254 (by decide +kernel) (by decide +kernel)
theorem ws_255 : Cond.selects R_Mod y_Mod_condition y_Mod_condition ∈ TG := tw_s 255 (by decide +kernel) (by decide +kernel)
theorem ws_264 : Cond.selects R_Mod y_Mod_lookAtGroup y_Mod_lookAtGroup ∈ TG := tw_s 264 (by decide +kernel) (by decide +kernel)
theorem ws_265 : Cond.selects R_Mod y_Mod_tellPage y_Mod_tellPage ∈ TG := tw_s 265 (by decide +kernel) (by decide +kernel)
theorem ws_266 : Cond.selects R_Mod y_Mod_lookAt y_Mod_lookAt ∈ TG := tw_s 266 (by decide +kernel) (by decide +kernel)
theorem d_Mod_tellPage_29 : decode b_Mod_tellPage 29 = .ok (.iinc 3 1, 3) := by decide +kernel
theorem d_Mod_tellPage_32 : decode b_Mod_tellPage 32 = .ok (.goto (-30), 3) := by decide +kernel
theorem d_Mod_tellPage_2 : decode b_Mod_tellPage 2 = .ok (.aload_n 0, 1) := by decide +kernel
theorem d_Mod_tellPage_3 : decode b_Mod_tellPage 3 = .ok (.getfield 210, 3) := by decide +kernel
theorem d_Mod_tellPage_6 : decode b_Mod_tellPage 6 = .ok (.iload_n 3, 1) := by decide +kernel
theorem d_Mod_tellPage_7 : decode b_Mod_tellPage 7 = .ok (.iaload, 1) := by decide +kernel
theorem d_Mod_tellPage_8 : decode b_Mod_tellPage 8 = .ok (.iload_n 2, 1) := by decide +kernel
theorem d_Mod_tellPage_9 : decode b_Mod_tellPage 9 = .ok (.if_icmp .ne 20, 3) := by decide +kernel
theorem d_Mod_tellPage_12 : decode b_Mod_tellPage 12 = .ok (.iload_n 1, 1) := by decide +kernel
theorem d_Mod_tellPage_13 : decode b_Mod_tellPage 13 = .ok (.aload_n 0, 1) := by decide +kernel
theorem d_Mod_tellPage_14 : decode b_Mod_tellPage 14 = .ok (.getfield 213, 3) := by decide +kernel
theorem d_Mod_tellPage_17 : decode b_Mod_tellPage 17 = .ok (.iload_n 3, 1) := by decide +kernel
theorem d_Mod_tellPage_18 : decode b_Mod_tellPage 18 = .ok (.iaload, 1) := by decide +kernel
theorem d_Mod_tellPage_19 : decode b_Mod_tellPage 19 = .ok (.aload_n 0, 1) := by decide +kernel
theorem d_Mod_tellPage_20 : decode b_Mod_tellPage 20 = .ok (.getfield 216, 3) := by decide +kernel
theorem d_Mod_tellPage_23 : decode b_Mod_tellPage 23 = .ok (.iload_n 3, 1) := by decide +kernel
theorem d_Mod_tellPage_24 : decode b_Mod_tellPage 24 = .ok (.iaload, 1) := by decide +kernel
theorem d_Mod_tellPage_25 : decode b_Mod_tellPage 25 = .ok (.iadd, 1) := by decide +kernel
theorem d_Mod_tellPage_26 : decode b_Mod_tellPage 26 = .ok (.if_icmp .lt 9, 3) := by decide +kernel
theorem d_Mod_tellPage_35 : decode b_Mod_tellPage 35 = .ok (.aload_n 0, 1) := by decide +kernel
theorem d_Mod_tellPage_36 : decode b_Mod_tellPage 36 = .ok (.getfield 306, 3) := by decide +kernel
theorem d_Mod_tellPage_39 : decode b_Mod_tellPage 39 = .ok (.iload_n 2, 1) := by decide +kernel
theorem d_Mod_tellPage_40 : decode b_Mod_tellPage 40 = .ok (.aload_n 0, 1) := by decide +kernel
theorem d_Mod_tellPage_41 : decode b_Mod_tellPage 41 = .ok (.getfield 219, 3) := by decide +kernel
theorem d_Mod_tellPage_44 : decode b_Mod_tellPage 44 = .ok (.iload_n 3, 1) := by decide +kernel
theorem d_Mod_tellPage_45 : decode b_Mod_tellPage 45 = .ok (.iaload, 1) := by decide +kernel
theorem d_Mod_tellPage_46 : decode b_Mod_tellPage 46 = .ok (.iastore, 1) := by decide +kernel
theorem d_Mod_tellPage_47 : decode b_Mod_tellPage 47 = .ok (.aload_n 0, 1) := by decide +kernel
theorem d_Mod_tellPage_48 : decode b_Mod_tellPage 48 = .ok (.getfield 309, 3) := by decide +kernel
theorem d_Mod_tellPage_51 : decode b_Mod_tellPage 51 = .ok (.iload_n 2, 1) := by decide +kernel
theorem d_Mod_tellPage_52 : decode b_Mod_tellPage 52 = .ok (.aload_n 0, 1) := by decide +kernel
theorem d_Mod_tellPage_53 : decode b_Mod_tellPage 53 = .ok (.getfield 222, 3) := by decide +kernel
theorem d_Mod_tellPage_56 : decode b_Mod_tellPage 56 = .ok (.iload_n 3, 1) := by decide +kernel
theorem d_Mod_tellPage_57 : decode b_Mod_tellPage 57 = .ok (.iaload, 1) := by decide +kernel
theorem d_Mod_tellPage_58 : decode b_Mod_tellPage 58 = .ok (.iastore, 1) := by decide +kernel
theorem d_Mod_tellPage_59 : decode b_Mod_tellPage 59 = .ok (.aload_n 0, 1) := by decide +kernel
theorem d_Mod_tellPage_60 : decode b_Mod_tellPage 60 = .ok (.getfield 312, 3) := by decide +kernel
theorem d_Mod_tellPage_63 : decode b_Mod_tellPage 63 = .ok (.iload_n 2, 1) := by decide +kernel
theorem d_Mod_tellPage_64 : decode b_Mod_tellPage 64 = .ok (.aload_n 0, 1) := by decide +kernel
theorem d_Mod_tellPage_65 : decode b_Mod_tellPage 65 = .ok (.getfield 225, 3) := by decide +kernel
theorem d_Mod_tellPage_68 : decode b_Mod_tellPage 68 = .ok (.iload_n 3, 1) := by decide +kernel
theorem d_Mod_tellPage_69 : decode b_Mod_tellPage 69 = .ok (.iaload, 1) := by decide +kernel
theorem d_Mod_tellPage_70 : decode b_Mod_tellPage 70 = .ok (.iastore, 1) := by decide +kernel
theorem d_Mod_tellPage_71 : decode b_Mod_tellPage 71 = .ok (.aload_n 0, 1) := by decide +kernel
theorem d_Mod_tellPage_72 : decode b_Mod_tellPage 72 = .ok (.getfield 315, 3) := by decide +kernel
theorem d_Mod_tellPage_75 : decode b_Mod_tellPage 75 = .ok (.iload_n 2, 1) := by decide +kernel
theorem d_Mod_tellPage_76 : decode b_Mod_tellPage 76 = .ok (.aload_n 0, 1) := by decide +kernel
theorem d_Mod_tellPage_77 : decode b_Mod_tellPage 77 = .ok (.getfield 228, 3) := by decide +kernel
theorem d_Mod_tellPage_80 : decode b_Mod_tellPage 80 = .ok (.iload_n 3, 1) := by decide +kernel
theorem d_Mod_tellPage_81 : decode b_Mod_tellPage 81 = .ok (.iaload, 1) := by decide +kernel
theorem d_Mod_tellPage_82 : decode b_Mod_tellPage 82 = .ok (.iastore, 1) := by decide +kernel
theorem d_Mod_tellPage_83 : decode b_Mod_tellPage 83 = .ok (.aload_n 0, 1) := by decide +kernel
theorem d_Mod_tellPage_84 : decode b_Mod_tellPage 84 = .ok (.getfield 318, 3) := by decide +kernel
theorem d_Mod_tellPage_87 : decode b_Mod_tellPage 87 = .ok (.iload_n 2, 1) := by decide +kernel
theorem d_Mod_tellPage_88 : decode b_Mod_tellPage 88 = .ok (.aload_n 0, 1) := by decide +kernel
theorem d_Mod_tellPage_89 : decode b_Mod_tellPage 89 = .ok (.getfield 231, 3) := by decide +kernel
theorem d_Mod_tellPage_92 : decode b_Mod_tellPage 92 = .ok (.iload_n 3, 1) := by decide +kernel
theorem d_Mod_tellPage_93 : decode b_Mod_tellPage 93 = .ok (.iaload, 1) := by decide +kernel
theorem d_Mod_tellPage_94 : decode b_Mod_tellPage 94 = .ok (.iastore, 1) := by decide +kernel
theorem d_Mod_tellPage_95 : decode b_Mod_tellPage 95 = .ok (.aload_n 0, 1) := by decide +kernel
theorem d_Mod_tellPage_96 : decode b_Mod_tellPage 96 = .ok (.getfield 321, 3) := by decide +kernel
theorem d_Mod_tellPage_99 : decode b_Mod_tellPage 99 = .ok (.iload_n 2, 1) := by decide +kernel
theorem d_Mod_tellPage_100 : decode b_Mod_tellPage 100 = .ok (.aload_n 0, 1) := by decide +kernel
theorem d_Mod_tellPage_101 : decode b_Mod_tellPage 101 = .ok (.getfield 234, 3) := by decide +kernel
theorem d_Mod_tellPage_104 : decode b_Mod_tellPage 104 = .ok (.iload_n 3, 1) := by decide +kernel
theorem d_Mod_tellPage_105 : decode b_Mod_tellPage 105 = .ok (.iaload, 1) := by decide +kernel
theorem d_Mod_tellPage_106 : decode b_Mod_tellPage 106 = .ok (.iastore, 1) := by decide +kernel
theorem d_Mod_tellPage_107 : decode b_Mod_tellPage 107 = .ok (.aload_n 0, 1) := by decide +kernel
theorem d_Mod_tellPage_108 : decode b_Mod_tellPage 108 = .ok (.getfield 213, 3) := by decide +kernel
theorem d_Mod_tellPage_111 : decode b_Mod_tellPage 111 = .ok (.iload_n 3, 1) := by decide +kernel
theorem d_Mod_tellPage_112 : decode b_Mod_tellPage 112 = .ok (.iaload, 1) := by decide +kernel
theorem d_Mod_tellPage_113 : decode b_Mod_tellPage 113 = .ok (.aload_n 0, 1) := by decide +kernel
theorem d_Mod_tellPage_114 : decode b_Mod_tellPage 114 = .ok (.getfield 216, 3) := by decide +kernel
theorem d_Mod_tellPage_117 : decode b_Mod_tellPage 117 = .ok (.iload_n 3, 1) := by decide +kernel
theorem d_Mod_tellPage_118 : decode b_Mod_tellPage 118 = .ok (.iaload, 1) := by decide +kernel
theorem d_Mod_tellPage_119 : decode b_Mod_tellPage 119 = .ok (.iadd, 1) := by decide +kernel
theorem d_Mod_tellPage_120 : decode b_Mod_tellPage 120 = .ok (.ireturn, 1) := by decide +kernel
theorem d_Mod_tellPage_0 : decode b_Mod_tellPage 0 = .ok (.iconst 0, 1) := by decide +kernel
theorem d_Mod_tellPage_1 : decode b_Mod_tellPage 1 = .ok (.istore_n 3, 1) := by decide +kernel
theorem d_Mod_lookAt_39 : decode b_Mod_lookAt 39 = .ok (.iinc 3 1, 3) := by decide +kernel
theorem d_Mod_lookAt_42 : decode b_Mod_lookAt 42 = .ok (.goto (-40), 3) := by decide +kernel
theorem d_Mod_lookAt_2 : decode b_Mod_lookAt 2 = .ok (.iload_n 3, 1) := by decide +kernel
theorem d_Mod_lookAt_3 : decode b_Mod_lookAt 3 = .ok (.iload_n 2, 1) := by decide +kernel
theorem d_Mod_lookAt_4 : decode b_Mod_lookAt 4 = .ok (.if_icmp .ge 41, 3) := by decide +kernel
theorem d_Mod_lookAt_45 : decode b_Mod_lookAt 45 = .ok (.return_, 1) := by decide +kernel
theorem d_Mod_lookAt_7 : decode b_Mod_lookAt 7 = .ok (.aload_n 0, 1) := by decide +kernel
theorem d_Mod_lookAt_8 : decode b_Mod_lookAt 8 = .ok (.iload_n 3, 1) := by decide +kernel
theorem d_Mod_lookAt_9 : decode b_Mod_lookAt 9 = .ok (.invokevirtual 1117, 3) := by decide +kernel
theorem d_Mod_lookAt_12 : decode b_Mod_lookAt 12 = .ok (.iconst 2, 1) := by decide +kernel
theorem d_Mod_lookAt_13 : decode b_Mod_lookAt 13 = .ok (.if_icmp .eq 6, 3) := by decide +kernel
theorem d_Mod_lookAt_19 : decode b_Mod_lookAt 19 = .ok (.aload_n 0, 1) := by decide +kernel
theorem d_Mod_lookAt_20 : decode b_Mod_lookAt 20 = .ok (.getfield 324, 3) := by decide +kernel
theorem d_Mod_lookAt_23 : decode b_Mod_lookAt 23 = .ok (.aload_n 0, 1) := by decide +kernel
theorem d_Mod_lookAt_24 : decode b_Mod_lookAt 24 = .ok (.getfield 1120, 3) := by decide +kernel
theorem d_Mod_lookAt_27 : decode b_Mod_lookAt 27 = .ok (.iload_n 3, 1) := by decide +kernel
theorem d_Mod_lookAt_28 : decode b_Mod_lookAt 28 = .ok (.iastore, 1) := by decide +kernel
theorem d_Mod_lookAt_29 : decode b_Mod_lookAt 29 = .ok (.aload_n 0, 1) := by decide +kernel
theorem d_Mod_lookAt_30 : decode b_Mod_lookAt 30 = .ok (.dup, 1) := by decide +kernel
theorem d_Mod_lookAt_31 : decode b_Mod_lookAt 31 = .ok (.getfield 1120, 3) := by decide +kernel
theorem d_Mod_lookAt_34 : decode b_Mod_lookAt 34 = .ok (.iconst 1, 1) := by decide +kernel
theorem d_Mod_lookAt_35 : decode b_Mod_lookAt 35 = .ok (.iadd, 1) := by decide +kernel
theorem d_Mod_lookAt_36 : decode b_Mod_lookAt 36 = .ok (.putfield 1120, 3) := by decide +kernel
theorem d_Mod_lookAt_16 : decode b_Mod_lookAt 16 = .ok (.goto 23, 3) := by decide +kernel
theorem d_Mod_lookAt_0 : decode b_Mod_lookAt 0 = .ok (.iload_n 1, 1) := by decide +kernel
theorem d_Mod_lookAt_1 : decode b_Mod_lookAt 1 = .ok (.istore_n 3, 1) := by decide +kernel
theorem d_Mod_lookAtGroup_97 : decode b_Mod_lookAtGroup 97 = .ok (.iload 4, 2) := by decide +kernel
theorem d_Mod_lookAtGroup_99 : decode b_Mod_lookAtGroup 99 = .ok (.istore_n 3, 1) := by decide +kernel
theorem d_Mod_lookAtGroup_100 : decode b_Mod_lookAtGroup 100 = .ok (.goto (-98), 3) := by decide +kernel
theorem d_Mod_lookAtGroup_61 : decode b_Mod_lookAtGroup 61 = .ok (.iinc 5 1, 3) := by decide +kernel
theorem d_Mod_lookAtGroup_64 : decode b_Mod_lookAtGroup 64 = .ok (.goto (-51), 3) := by decide +kernel
theorem d_Mod_lookAtGroup_59 : decode b_Mod_lookAtGroup 59 = .ok (.istore 4, 2) := by decide +kernel
theorem d_Mod_lookAtGroup_13 : decode b_Mod_lookAtGroup 13 = .ok (.iload 5, 2) := by decide +kernel
theorem d_Mod_lookAtGroup_15 : decode b_Mod_lookAtGroup 15 = .ok (.aload_n 0, 1) := by decide +kernel
theorem d_Mod_lookAtGroup_16 : decode b_Mod_lookAtGroup 16 = .ok (.getfield 38, 3) := by decide +kernel
theorem d_Mod_lookAtGroup_19 : decode b_Mod_lookAtGroup 19 = .ok (.iconst 1, 1) := by decide +kernel
theorem d_Mod_lookAtGroup_20 : decode b_Mod_lookAtGroup 20 = .ok (.iaload, 1) := by decide +kernel
theorem d_Mod_lookAtGroup_21 : decode b_Mod_lookAtGroup 21 = .ok (.if_icmp .ge 46, 3) := by decide +kernel
theorem d_Mod_lookAtGroup_67 : decode b_Mod_lookAtGroup 67 = .ok (.aload_n 0, 1) := by decide +kernel
theorem d_Mod_lookAtGroup_68 : decode b_Mod_lookAtGroup 68 = .ok (.iconst (-1), 1) := by decide +kernel
theorem d_Mod_lookAtGroup_69 : decode b_Mod_lookAtGroup 69 = .ok (.invokevirtual 1117, 3) := by decide +kernel
theorem d_Mod_lookAtGroup_72 : decode b_Mod_lookAtGroup 72 = .ok (.iconst 2, 1) := by decide +kernel
theorem d_Mod_lookAtGroup_73 : decode b_Mod_lookAtGroup 73 = .ok (.iand, 1) := by decide +kernel
theorem d_Mod_lookAtGroup_74 : decode b_Mod_lookAtGroup 74 = .ok (.ifCond .le 13, 3) := by decide +kernel
theorem d_Mod_lookAtGroup_87 : decode b_Mod_lookAtGroup 87 = .ok (.aload_n 0, 1) := by decide +kernel
theorem d_Mod_lookAtGroup_88 : decode b_Mod_lookAtGroup 88 = .ok (.dup, 1) := by decide +kernel
theorem d_Mod_lookAtGroup_89 : decode b_Mod_lookAtGroup 89 = .ok (.getfield 1132, 3) := by decide +kernel
theorem d_Mod_lookAtGroup_92 : decode b_Mod_lookAtGroup 92 = .ok (.iconst 1, 1) := by decide +kernel
theorem d_Mod_lookAtGroup_93 : decode b_Mod_lookAtGroup 93 = .ok (.iadd, 1) := by decide +kernel
theorem d_Mod_lookAtGroup_94 : decode b_Mod_lookAtGroup 94 = .ok (.putfield 1132, 3) := by decide +kernel
theorem d_Mod_lookAtGroup_77 : decode b_Mod_lookAtGroup 77 = .ok (.aload_n 0, 1) := by decide +kernel
theorem d_Mod_lookAtGroup_78 : decode b_Mod_lookAtGroup 78 = .ok (.iload_n 3, 1) := by decide +kernel
theorem d_Mod_lookAtGroup_79 : decode b_Mod_lookAtGroup 79 = .ok (.iload 4, 2) := by decide +kernel
theorem d_Mod_lookAtGroup_81 : decode b_Mod_lookAtGroup 81 = .ok (.invokevirtual 1129, 3) := by decide +kernel
theorem d_Mod_lookAtGroup_84 : decode b_Mod_lookAtGroup 84 = .ok (.goto 13, 3) := by decide +kernel
theorem d_Mod_lookAtGroup_24 : decode b_Mod_lookAtGroup 24 = .ok (.aload_n 0, 1) := by decide +kernel
theorem d_Mod_lookAtGroup_25 : decode b_Mod_lookAtGroup 25 = .ok (.iload 5, 2) := by decide +kernel
theorem d_Mod_lookAtGroup_27 : decode b_Mod_lookAtGroup 27 = .ok (.invokevirtual 1123, 3) := by decide +kernel
theorem d_Mod_lookAtGroup_30 : decode b_Mod_lookAtGroup 30 = .ok (.ifCond .ne 6, 3) := by decide +kernel
theorem d_Mod_lookAtGroup_36 : decode b_Mod_lookAtGroup 36 = .ok (.aload_n 0, 1) := by decide +kernel
theorem d_Mod_lookAtGroup_37 : decode b_Mod_lookAtGroup 37 = .ok (.iload_n 3, 1) := by decide +kernel
theorem d_Mod_lookAtGroup_38 : decode b_Mod_lookAtGroup 38 = .ok (.iload 5, 2) := by decide +kernel
theorem d_Mod_lookAtGroup_40 : decode b_Mod_lookAtGroup 40 = .ok (.invokevirtual 1126, 3) := by decide +kernel
theorem d_Mod_lookAtGroup_43 : decode b_Mod_lookAtGroup 43 = .ok (.istore 6, 2) := by decide +kernel
theorem d_Mod_lookAtGroup_45 : decode b_Mod_lookAtGroup 45 = .ok (.iload 6, 2) := by decide +kernel
theorem d_Mod_lookAtGroup_47 : decode b_Mod_lookAtGroup 47 = .ok (.iload 4, 2) := by decide +kernel
theorem d_Mod_lookAtGroup_49 : decode b_Mod_lookAtGroup 49 = .ok (.if_icmp .ge 8, 3) := by decide +kernel
theorem d_Mod_lookAtGroup_57 : decode b_Mod_lookAtGroup 57 = .ok (.iload 4, 2) := by decide +kernel
theorem d_Mod_lookAtGroup_52 : decode b_Mod_lookAtGroup 52 = .ok (.iload 6, 2) := by decide +kernel
theorem d_Mod_lookAtGroup_54 : decode b_Mod_lookAtGroup 54 = .ok (.goto 5, 3) := by decide +kernel
theorem d_Mod_lookAtGroup_33 : decode b_Mod_lookAtGroup 33 = .ok (.goto 28, 3) := by decide +kernel
theorem d_Mod_lookAtGroup_2 : decode b_Mod_lookAtGroup 2 = .ok (.iload_n 3, 1) := by decide +kernel
theorem d_Mod_lookAtGroup_3 : decode b_Mod_lookAtGroup 3 = .ok (.iload_n 2, 1) := by decide +kernel
theorem d_Mod_lookAtGroup_4 : decode b_Mod_lookAtGroup 4 = .ok (.if_icmp .ge 99, 3) := by decide +kernel
theorem d_Mod_lookAtGroup_103 : decode b_Mod_lookAtGroup 103 = .ok (.return_, 1) := by decide +kernel
theorem d_Mod_lookAtGroup_7 : decode b_Mod_lookAtGroup 7 = .ok (.iload_n 2, 1) := by decide +kernel
theorem d_Mod_lookAtGroup_8 : decode b_Mod_lookAtGroup 8 = .ok (.istore 4, 2) := by decide +kernel
theorem d_Mod_lookAtGroup_10 : decode b_Mod_lookAtGroup 10 = .ok (.iconst 0, 1) := by decide +kernel
theorem d_Mod_lookAtGroup_11 : decode b_Mod_lookAtGroup 11 = .ok (.istore 5, 2) := by decide +kernel
theorem d_Mod_lookAtGroup_0 : decode b_Mod_lookAtGroup 0 = .ok (.iload_n 1, 1) := by decide +kernel
theorem d_Mod_lookAtGroup_1 : decode b_Mod_lookAtGroup 1 = .ok (.istore_n 3, 1) := by decide +kernel
theorem d_Mod_lookAtAll_200 : decode b_Mod_lookAtAll 200 = .ok (.iload_n 3, 1) := by decide +kernel
theorem d_Mod_lookAtAll_201 : decode b_Mod_lookAtAll 201 = .ok (.istore_n 1, 1) := by decide +kernel
theorem d_Mod_lookAtAll_202 : decode b_Mod_lookAtAll 202 = .ok (.iinc 2 1, 3) := by decide +kernel
theorem d_Mod_lookAtAll_205 : decode b_Mod_lookAtAll 205 = .ok (.goto (-186), 3) := by decide +kernel
theorem d_Mod_lookAtAll_151 : decode b_Mod_lookAtAll 151 = .ok (.iload 5, 2) := by decide +kernel
theorem d_Mod_lookAtAll_153 : decode b_Mod_lookAtAll 153 = .ok (.iload_n 3, 1) := by decide +kernel
theorem d_Mod_lookAtAll_154 : decode b_Mod_lookAtAll 154 = .ok (.if_icmp .ge 46, 3) := by decide +kernel
theorem d_Mod_lookAtAll_157 : decode b_Mod_lookAtAll 157 = .ok (.aload_n 0, 1) := by decide +kernel
theorem d_Mod_lookAtAll_158 : decode b_Mod_lookAtAll 158 = .ok (.getfield 252, 3) := by decide +kernel
theorem d_Mod_lookAtAll_161 : decode b_Mod_lookAtAll 161 = .ok (.iconst 4, 1) := by decide +kernel
theorem d_Mod_lookAtAll_162 : decode b_Mod_lookAtAll 162 = .ok (.aload_n 0, 1) := by decide +kernel
theorem d_Mod_lookAtAll_163 : decode b_Mod_lookAtAll 163 = .ok (.getfield 1062, 3) := by decide +kernel
theorem d_Mod_lookAtAll_166 : decode b_Mod_lookAtAll 166 = .ok (.imul, 1) := by decide +kernel
theorem d_Mod_lookAtAll_167 : decode b_Mod_lookAtAll 167 = .ok (.iconst 2, 1) := by decide +kernel
theorem d_Mod_lookAtAll_168 : decode b_Mod_lookAtAll 168 = .ok (.iadd, 1) := by decide +kernel
theorem d_Mod_lookAtAll_169 : decode b_Mod_lookAtAll 169 = .ok (.iaload, 1) := by decide +kernel
theorem d_Mod_lookAtAll_170 : decode b_Mod_lookAtAll 170 = .ok (.ifCond .ne 30, 3) := by decide +kernel
theorem d_Mod_lookAtAll_173 : decode b_Mod_lookAtAll 173 = .ok (.aload_n 0, 1) := by decide +kernel
theorem d_Mod_lookAtAll_174 : decode b_Mod_lookAtAll 174 = .ok (.getfield 324, 3) := by decide +kernel
theorem d_Mod_lookAtAll_177 : decode b_Mod_lookAtAll 177 = .ok (.aload_n 0, 1) := by decide +kernel
theorem d_Mod_lookAtAll_178 : decode b_Mod_lookAtAll 178 = .ok (.getfield 1120, 3) := by decide +kernel
theorem d_Mod_lookAtAll_181 : decode b_Mod_lookAtAll 181 = .ok (.iload 5, 2) := by decide +kernel
theorem d_Mod_lookAtAll_183 : decode b_Mod_lookAtAll 183 = .ok (.iastore, 1) := by decide +kernel
theorem d_Mod_lookAtAll_184 : decode b_Mod_lookAtAll 184 = .ok (.aload_n 0, 1) := by decide +kernel
theorem d_Mod_lookAtAll_185 : decode b_Mod_lookAtAll 185 = .ok (.dup, 1) := by decide +kernel
theorem d_Mod_lookAtAll_186 : decode b_Mod_lookAtAll 186 = .ok (.getfield 1120, 3) := by decide +kernel
theorem d_Mod_lookAtAll_189 : decode b_Mod_lookAtAll 189 = .ok (.iconst 1, 1) := by decide +kernel
theorem d_Mod_lookAtAll_190 : decode b_Mod_lookAtAll 190 = .ok (.iadd, 1) := by decide +kernel
theorem d_Mod_lookAtAll_191 : decode b_Mod_lookAtAll 191 = .ok (.putfield 1120, 3) := by decide +kernel
theorem d_Mod_lookAtAll_194 : decode b_Mod_lookAtAll 194 = .ok (.iinc 5 1, 3) := by decide +kernel
theorem d_Mod_lookAtAll_197 : decode b_Mod_lookAtAll 197 = .ok (.goto (-46), 3) := by decide +kernel
theorem d_Mod_lookAtAll_148 : decode b_Mod_lookAtAll 148 = .ok (.iload_n 1, 1) := by decide +kernel
theorem d_Mod_lookAtAll_149 : decode b_Mod_lookAtAll 149 = .ok (.istore 5, 2) := by decide +kernel
theorem d_Mod_lookAtAll_108 : decode b_Mod_lookAtAll 108 = .ok (.iload 4, 2) := by decide +kernel
theorem d_Mod_lookAtAll_110 : decode b_Mod_lookAtAll 110 = .ok (.ifCond .ne 16, 3) := by decide +kernel
theorem d_Mod_lookAtAll_126 : decode b_Mod_lookAtAll 126 = .ok (.aload_n 0, 1) := by decide +kernel
theorem d_Mod_lookAtAll_127 : decode b_Mod_lookAtAll 127 = .ok (.getfield 252, 3) := by decide +kernel
theorem d_Mod_lookAtAll_130 : decode b_Mod_lookAtAll 130 = .ok (.iconst 4, 1) := by decide +kernel
theorem d_Mod_lookAtAll_131 : decode b_Mod_lookAtAll 131 = .ok (.aload_n 0, 1) := by decide +kernel
theorem d_Mod_lookAtAll_132 : decode b_Mod_lookAtAll 132 = .ok (.getfield 1062, 3) := by decide +kernel
theorem d_Mod_lookAtAll_135 : decode b_Mod_lookAtAll 135 = .ok (.imul, 1) := by decide +kernel
theorem d_Mod_lookAtAll_136 : decode b_Mod_lookAtAll 136 = .ok (.iconst 2, 1) := by decide +kernel
theorem d_Mod_lookAtAll_137 : decode b_Mod_lookAtAll 137 = .ok (.iadd, 1) := by decide +kernel
theorem d_Mod_lookAtAll_138 : decode b_Mod_lookAtAll 138 = .ok (.iaload, 1) := by decide +kernel
theorem d_Mod_lookAtAll_139 : decode b_Mod_lookAtAll 139 = .ok (.ifCond .le 9, 3) := by decide +kernel
theorem d_Mod_lookAtAll_142 : decode b_Mod_lookAtAll 142 = .ok (.aload_n 0, 1) := by decide +kernel
theorem d_Mod_lookAtAll_143 : decode b_Mod_lookAtAll 143 = .ok (.iload_n 1, 1) := by decide +kernel
theorem d_Mod_lookAtAll_144 : decode b_Mod_lookAtAll 144 = .ok (.iload_n 3, 1) := by decide +kernel
theorem d_Mod_lookAtAll_145 : decode b_Mod_lookAtAll 145 = .ok (.invokevirtual 1141, 3) := by decide +kernel
theorem d_Mod_lookAtAll_113 : decode b_Mod_lookAtAll 113 = .ok (.aload_n 0, 1) := by decide +kernel
theorem d_Mod_lookAtAll_114 : decode b_Mod_lookAtAll 114 = .ok (.dup, 1) := by decide +kernel
theorem d_Mod_lookAtAll_115 : decode b_Mod_lookAtAll 115 = .ok (.getfield 1135, 3) := by decide +kernel
theorem d_Mod_lookAtAll_118 : decode b_Mod_lookAtAll 118 = .ok (.iconst 1, 1) := by decide +kernel
theorem d_Mod_lookAtAll_119 : decode b_Mod_lookAtAll 119 = .ok (.iadd, 1) := by decide +kernel
theorem d_Mod_lookAtAll_120 : decode b_Mod_lookAtAll 120 = .ok (.putfield 1135, 3) := by decide +kernel
theorem d_Mod_lookAtAll_123 : decode b_Mod_lookAtAll 123 = .ok (.goto 25, 3) := by decide +kernel
theorem d_Mod_lookAtAll_106 : decode b_Mod_lookAtAll 106 = .ok (.istore 4, 2) := by decide +kernel
theorem d_Mod_lookAtAll_85 : decode b_Mod_lookAtAll 85 = .ok (.iinc 5 1, 3) := by decide +kernel
theorem d_Mod_lookAtAll_88 : decode b_Mod_lookAtAll 88 = .ok (.goto (-30), 3) := by decide +kernel
theorem d_Mod_lookAtAll_58 : decode b_Mod_lookAtAll 58 = .ok (.iload 5, 2) := by decide +kernel
theorem d_Mod_lookAtAll_60 : decode b_Mod_lookAtAll 60 = .ok (.aload_n 0, 1) := by decide +kernel
theorem d_Mod_lookAtAll_61 : decode b_Mod_lookAtAll 61 = .ok (.getfield 38, 3) := by decide +kernel
theorem d_Mod_lookAtAll_64 : decode b_Mod_lookAtAll 64 = .ok (.iconst 1, 1) := by decide +kernel
theorem d_Mod_lookAtAll_65 : decode b_Mod_lookAtAll 65 = .ok (.iaload, 1) := by decide +kernel
theorem d_Mod_lookAtAll_66 : decode b_Mod_lookAtAll 66 = .ok (.if_icmp .ge 25, 3) := by decide +kernel
theorem d_Mod_lookAtAll_91 : decode b_Mod_lookAtAll 91 = .ok (.aload_n 0, 1) := by decide +kernel
theorem d_Mod_lookAtAll_92 : decode b_Mod_lookAtAll 92 = .ok (.iconst (-1), 1) := by decide +kernel
theorem d_Mod_lookAtAll_93 : decode b_Mod_lookAtAll 93 = .ok (.invokevirtual 1117, 3) := by decide +kernel
theorem d_Mod_lookAtAll_96 : decode b_Mod_lookAtAll 96 = .ok (.iconst 2, 1) := by decide +kernel
theorem d_Mod_lookAtAll_97 : decode b_Mod_lookAtAll 97 = .ok (.iand, 1) := by decide +kernel
theorem d_Mod_lookAtAll_98 : decode b_Mod_lookAtAll 98 = .ok (.ifCond .le 7, 3) := by decide +kernel
theorem d_Mod_lookAtAll_105 : decode b_Mod_lookAtAll 105 = .ok (.iconst 0, 1) := by decide +kernel
theorem d_Mod_lookAtAll_101 : decode b_Mod_lookAtAll 101 = .ok (.iconst 1, 1) := by decide +kernel
theorem d_Mod_lookAtAll_102 : decode b_Mod_lookAtAll 102 = .ok (.goto 4, 3) := by decide +kernel
theorem d_Mod_lookAtAll_69 : decode b_Mod_lookAtAll 69 = .ok (.aload_n 0, 1) := by decide +kernel
theorem d_Mod_lookAtAll_70 : decode b_Mod_lookAtAll 70 = .ok (.iload 5, 2) := by decide +kernel
theorem d_Mod_lookAtAll_72 : decode b_Mod_lookAtAll 72 = .ok (.invokevirtual 1123, 3) := by decide +kernel
theorem d_Mod_lookAtAll_75 : decode b_Mod_lookAtAll 75 = .ok (.ifCond .eq 10, 3) := by decide +kernel
theorem d_Mod_lookAtAll_78 : decode b_Mod_lookAtAll 78 = .ok (.aload_n 0, 1) := by decide +kernel
theorem d_Mod_lookAtAll_79 : decode b_Mod_lookAtAll 79 = .ok (.iload_n 2, 1) := by decide +kernel
theorem d_Mod_lookAtAll_80 : decode b_Mod_lookAtAll 80 = .ok (.iload 5, 2) := by decide +kernel
theorem d_Mod_lookAtAll_82 : decode b_Mod_lookAtAll 82 = .ok (.invokevirtual 1138, 3) := by decide +kernel
theorem d_Mod_lookAtAll_19 : decode b_Mod_lookAtAll 19 = .ok (.iload_n 2, 1) := by decide +kernel
theorem d_Mod_lookAtAll_20 : decode b_Mod_lookAtAll 20 = .ok (.aload_n 0, 1) := by decide +kernel
theorem d_Mod_lookAtAll_21 : decode b_Mod_lookAtAll 21 = .ok (.getfield 877, 3) := by decide +kernel
theorem d_Mod_lookAtAll_24 : decode b_Mod_lookAtAll 24 = .ok (.if_icmp .ge 184, 3) := by decide +kernel
theorem d_Mod_lookAtAll_208 : decode b_Mod_lookAtAll 208 = .ok (.return_, 1) := by decide +kernel
theorem d_Mod_lookAtAll_27 : decode b_Mod_lookAtAll 27 = .ok (.iload_n 1, 1) := by decide +kernel
theorem d_Mod_lookAtAll_28 : decode b_Mod_lookAtAll 28 = .ok (.aload_n 0, 1) := by decide +kernel
theorem d_Mod_lookAtAll_29 : decode b_Mod_lookAtAll 29 = .ok (.getfield 169, 3) := by decide +kernel
theorem d_Mod_lookAtAll_32 : decode b_Mod_lookAtAll 32 = .ok (.iload_n 2, 1) := by decide +kernel
theorem d_Mod_lookAtAll_33 : decode b_Mod_lookAtAll 33 = .ok (.iaload, 1) := by decide +kernel
theorem d_Mod_lookAtAll_34 : decode b_Mod_lookAtAll 34 = .ok (.iadd, 1) := by decide +kernel
theorem d_Mod_lookAtAll_35 : decode b_Mod_lookAtAll 35 = .ok (.istore_n 3, 1) := by decide +kernel
theorem d_Mod_lookAtAll_36 : decode b_Mod_lookAtAll 36 = .ok (.iconst 1, 1) := by decide +kernel
theorem d_Mod_lookAtAll_37 : decode b_Mod_lookAtAll 37 = .ok (.istore 4, 2) := by decide +kernel
theorem d_Mod_lookAtAll_39 : decode b_Mod_lookAtAll 39 = .ok (.aload_n 0, 1) := by decide +kernel
theorem d_Mod_lookAtAll_40 : decode b_Mod_lookAtAll 40 = .ok (.getfield 252, 3) := by decide +kernel
theorem d_Mod_lookAtAll_43 : decode b_Mod_lookAtAll 43 = .ok (.iconst 4, 1) := by decide +kernel
theorem d_Mod_lookAtAll_44 : decode b_Mod_lookAtAll 44 = .ok (.aload_n 0, 1) := by decide +kernel
theorem d_Mod_lookAtAll_45 : decode b_Mod_lookAtAll 45 = .ok (.getfield 1062, 3) := by decide +kernel
theorem d_Mod_lookAtAll_48 : decode b_Mod_lookAtAll 48 = .ok (.imul, 1) := by decide +kernel
theorem d_Mod_lookAtAll_49 : decode b_Mod_lookAtAll 49 = .ok (.iconst 2, 1) := by decide +kernel
theorem d_Mod_lookAtAll_50 : decode b_Mod_lookAtAll 50 = .ok (.iadd, 1) := by decide +kernel
theorem d_Mod_lookAtAll_51 : decode b_Mod_lookAtAll 51 = .ok (.iaload, 1) := by decide +kernel
theorem d_Mod_lookAtAll_52 : decode b_Mod_lookAtAll 52 = .ok (.ifCond .le 56, 3) := by decide +kernel
theorem d_Mod_lookAtAll_55 : decode b_Mod_lookAtAll 55 = .ok (.iconst 0, 1) := by decide +kernel
theorem d_Mod_lookAtAll_56 : decode b_Mod_lookAtAll 56 = .ok (.istore 5, 2) := by decide +kernel
theorem d_Mod_lookAtAll_0 : decode b_Mod_lookAtAll 0 = .ok (.aload_n 0, 1) := by decide +kernel
theorem d_Mod_lookAtAll_1 : decode b_Mod_lookAtAll 1 = .ok (.iconst 0, 1) := by decide +kernel
theorem d_Mod_lookAtAll_2 : decode b_Mod_lookAtAll 2 = .ok (.putfield 1120, 3) := by decide +kernel
theorem d_Mod_lookAtAll_5 : decode b_Mod_lookAtAll 5 = .ok (.aload_n 0, 1) := by decide +kernel
theorem d_Mod_lookAtAll_6 : decode b_Mod_lookAtAll 6 = .ok (.iconst 0, 1) := by decide +kernel
theorem d_Mod_lookAtAll_7 : decode b_Mod_lookAtAll 7 = .ok (.putfield 1135, 3) := by decide +kernel
theorem d_Mod_lookAtAll_10 : decode b_Mod_lookAtAll 10 = .ok (.aload_n 0, 1) := by decide +kernel
theorem d_Mod_lookAtAll_11 : decode b_Mod_lookAtAll 11 = .ok (.iconst 0, 1) := by decide +kernel
theorem d_Mod_lookAtAll_12 : decode b_Mod_lookAtAll 12 = .ok (.putfield 1132, 3) := by decide +kernel
theorem d_Mod_lookAtAll_15 : decode b_Mod_lookAtAll 15 = .ok (.iconst 0, 1) := by decide +kernel
theorem d_Mod_lookAtAll_16 : decode b_Mod_lookAtAll 16 = .ok (.istore_n 1, 1) := by decide +kernel
theorem d_Mod_lookAtAll_17 : decode b_Mod_lookAtAll 17 = .ok (.iconst 0, 1) := by decide +kernel
theorem d_Mod_lookAtAll_18 : decode b_Mod_lookAtAll 18 = .ok (.istore_n 2, 1) := by decide +kernel
section
variable (l : Launch) (dC : Nat → ClassId) (dI : Nat → Nat → Nat) (cI cB cJ cZ : ClassId)
set_option maxRecDepth 100000 in
set_option maxHeartbeats 4000000 in
set_option maxRecDepth 100000 in
theorem t_Mod_tellPage_29 {p : Program} {l : Launch} {e : Env} {R : Room} {s : State} {m : MethodId} {args : Array Value} {below : List Frame} {meth : Method} {c : Code} {cells slots : Nat} {Q : State → Prop} {dC : Nat → ClassId} {dI : Nat → Nat → Nat} {cI cB cJ cZ : ClassId} {A : Nat → Prop} {ad : Nat → Nat} {post : Int32 → St → Prop} {rec2 : Int32 → Int32 → Int32 → St → Prop} (hx : p.tables.exec = Jvm.exec) (hb : c.code = b_Mod_tellPage) (hml : c.maxLocals = 4) (hown : s.vm.findClass R_Mod = some m.cls) (hT : ∀ w ∈ TG, w.before args s = true) (hK : va_K (dC, dI) CL (TY cI cB cJ cZ) s) (hN : NW s) (hA : ∀ q : Nat, s.heap.size ≤ q → A q) (hRc : cells ≤ R.cells) (hRs : slots ≤ R.slots) (hRf : 0 ≤ R.frames) (hRl : 0 ≤ R.locals) (hret : ∀ (r : Int32) (x : St) (H : Heap) (locs : List Loc) (pc : Nat) (ls : Array Slot), decode b_Mod_tellPage pc = .ok (.ireturn, 1) → post r x → Wd dC dI cI cB cJ cZ ad stM kcM 115 A x H → va_S A s.heap H locs → W p l e R s m args below meth c H locs cells slots Q (F0 m pc ls [.int r])) (hrec2 : ∀ (l1 : Int32) (l2 : Int32) (l3 : Int32) (x : St) (H : Heap) (locs : List Loc) (ls : Array Slot), rec2 l1 l2 l3 x → Wd dC dI cI cB cJ cZ ad stM kcM 115 A x H → va_S A s.heap H locs → lv_has ls 4 [(0, .ref (ad 0)), (1, .int l1), (2, .int l2), (3, .int l3)] → W p l e R s m args below meth c H locs cells slots Q (F0 m 2 ls [])) : ∀ (l1 : Int32) (l2 : Int32) (l3 : Int32) (x : St) (H : Heap) (locs : List Loc) (ls : Array Slot), j_Mod_tellPage_29 post rec2 l1 l2 l3 x → Wd dC dI cI cB cJ cZ ad stM kcM 115 A x H → va_S A s.heap H locs → lv_has ls 4 [(0, .ref (ad 0)), (1, .int l1), (2, .int l2), (3, .int l3)] → W p l e R s m args below meth c H locs cells slots Q (F0 m 29 ls []) := by
  intro l1 l2 l3 x H locs ls  hw hW hS hl
  unfold j_Mod_tellPage_29 at hw
  refine lv_iinc (v := (l3 + 1)) (lv' := [(3, .int (l3 + 1)), (0, .ref (ad 0)), (1, .int l1), (2, .int l2)]) hx hb d_Mod_tellPage_29 hl (k := 3) rfl rfl (by decide) rfl (fun ls hl => ?_)
  refine lv_goto (tgt := 2) hx hb d_Mod_tellPage_32 (by decide) ?_
  exact hrec2 l1 l2 (l3 + 1) x H locs ls  hw hW hS (lv_sub hl [1, 2, 3, 0] rfl)
set_option maxRecDepth 100000 in
set_option maxHeartbeats 4000000 in
set_option maxRecDepth 100000 in
theorem t_Mod_tellPage_2 {p : Program} {l : Launch} {e : Env} {R : Room} {s : State} {m : MethodId} {args : Array Value} {below : List Frame} {meth : Method} {c : Code} {cells slots : Nat} {Q : State → Prop} {dC : Nat → ClassId} {dI : Nat → Nat → Nat} {cI cB cJ cZ : ClassId} {A : Nat → Prop} {ad : Nat → Nat} {post : Int32 → St → Prop} {rec2 : Int32 → Int32 → Int32 → St → Prop} (hx : p.tables.exec = Jvm.exec) (hb : c.code = b_Mod_tellPage) (hml : c.maxLocals = 4) (hown : s.vm.findClass R_Mod = some m.cls) (hT : ∀ w ∈ TG, w.before args s = true) (hK : va_K (dC, dI) CL (TY cI cB cJ cZ) s) (hN : NW s) (hA : ∀ q : Nat, s.heap.size ≤ q → A q) (hRc : cells ≤ R.cells) (hRs : slots ≤ R.slots) (hRf : 0 ≤ R.frames) (hRl : 0 ≤ R.locals) (hret : ∀ (r : Int32) (x : St) (H : Heap) (locs : List Loc) (pc : Nat) (ls : Array Slot), decode b_Mod_tellPage pc = .ok (.ireturn, 1) → post r x → Wd dC dI cI cB cJ cZ ad stM kcM 115 A x H → va_S A s.heap H locs → W p l e R s m args below meth c H locs cells slots Q (F0 m pc ls [.int r])) (hrec2 : ∀ (l1 : Int32) (l2 : Int32) (l3 : Int32) (x : St) (H : Heap) (locs : List Loc) (ls : Array Slot), rec2 l1 l2 l3 x → Wd dC dI cI cB cJ cZ ad stM kcM 115 A x H → va_S A s.heap H locs → lv_has ls 4 [(0, .ref (ad 0)), (1, .int l1), (2, .int l2), (3, .int l3)] → W p l e R s m args below meth c H locs cells slots Q (F0 m 2 ls [])) : ∀ (l1 : Int32) (l2 : Int32) (l3 : Int32) (x : St) (H : Heap) (locs : List Loc) (ls : Array Slot), j_Mod_tellPage_2 post rec2 l1 l2 l3 x → Wd dC dI cI cB cJ cZ ad stM kcM 115 A x H → va_S A s.heap H locs → lv_has ls 4 [(0, .ref (ad 0)), (1, .int l1), (2, .int l2), (3, .int l3)] → W p l e R s m args below meth c H locs cells slots Q (F0 m 2 ls []) := by
  intro l1 l2 l3 x H locs ls  hw hW hS hl
  unfold j_Mod_tellPage_2 at hw
  refine lv_aload_n hx hb d_Mod_tellPage_2 rfl (lv_at hl 0 rfl) ?_
  refine w_getf (q := 66) (k := 103) (t := 12) (C := R_Mod) (T := F_Mod) (N := 167) hx hb hT hown hK hW ko_0.1 ko_0.2 (by decide) in_Mod rfl rfl (by decide) rfl fr_Mod_103 w_9_39 d_Mod_tellPage_3 rfl ?_
  refine lv_iload_n hx hb d_Mod_tellPage_6 rfl (lv_at hl 3 rfl) ?_
  obtain ⟨hi, hw⟩ := hw
  refine w_iald (o := 66) hx hb hK hW ko_66.1 ko_66.2 hi d_Mod_tellPage_7 ?_
  refine lv_iload_n hx hb d_Mod_tellPage_8 rfl (lv_at hl 2 rfl) ?_
  refine lv_icmp_ne (tgt := 29) hx hb d_Mod_tellPage_9 (by decide) (fun c2492 => ?_) (fun c2492 => ?_)
  · have hw := hw.1 c2492
    exact t_Mod_tellPage_29 hx hb hml hown hT hK hN hA hRc hRs hRf hRl hret hrec2 l1 l2 l3 x H locs ls  hw hW hS (lv_sub hl [0, 1, 2, 3] rfl)
  · have hw := hw.2 c2492
    refine lv_iload_n hx hb d_Mod_tellPage_12 rfl (lv_at hl 1 rfl) ?_
    refine lv_aload_n hx hb d_Mod_tellPage_13 rfl (lv_at hl 0 rfl) ?_
    refine w_getf (q := 67) (k := 104) (t := 12) (C := R_Mod) (T := F_Mod) (N := 167) hx hb hT hown hK hW ko_0.1 ko_0.2 (by decide) in_Mod rfl rfl (by decide) rfl fr_Mod_104 w_9_40 d_Mod_tellPage_14 rfl ?_
    refine lv_iload_n hx hb d_Mod_tellPage_17 rfl (lv_at hl 3 rfl) ?_
    obtain ⟨hi, hw⟩ := hw
    refine w_iald (o := 67) hx hb hK hW ko_67.1 ko_67.2 hi d_Mod_tellPage_18 ?_
    refine lv_aload_n hx hb d_Mod_tellPage_19 rfl (lv_at hl 0 rfl) ?_
    refine w_getf (q := 68) (k := 105) (t := 12) (C := R_Mod) (T := F_Mod) (N := 167) hx hb hT hown hK hW ko_0.1 ko_0.2 (by decide) in_Mod rfl rfl (by decide) rfl fr_Mod_105 w_9_41 d_Mod_tellPage_20 rfl ?_
    refine lv_iload_n hx hb d_Mod_tellPage_23 rfl (lv_at hl 3 rfl) ?_
    obtain ⟨hi, hw⟩ := hw
    refine w_iald (o := 68) hx hb hK hW ko_68.1 ko_68.2 hi d_Mod_tellPage_24 ?_
    refine lv_iadd hx hb d_Mod_tellPage_25 ?_
    refine lv_icmp_lt (tgt := 35) hx hb d_Mod_tellPage_26 (by decide) (fun c2493 => ?_) (fun c2493 => ?_)
    · have hw := hw.1 c2493
      refine lv_aload_n hx hb d_Mod_tellPage_35 rfl (lv_at hl 0 rfl) ?_
      refine w_getf (q := 97) (k := 142) (t := 12) (C := R_Mod) (T := F_Mod) (N := 167) hx hb hT hown hK hW ko_0.1 ko_0.2 (by decide) in_Mod rfl rfl (by decide) rfl fr_Mod_142 w_9_78 d_Mod_tellPage_36 rfl ?_
      refine lv_iload_n hx hb d_Mod_tellPage_39 rfl (lv_at hl 2 rfl) ?_
      refine lv_aload_n hx hb d_Mod_tellPage_40 rfl (lv_at hl 0 rfl) ?_
      refine w_getf (q := 69) (k := 106) (t := 12) (C := R_Mod) (T := F_Mod) (N := 167) hx hb hT hown hK hW ko_0.1 ko_0.2 (by decide) in_Mod rfl rfl (by decide) rfl fr_Mod_106 w_9_42 d_Mod_tellPage_41 rfl ?_
      refine lv_iload_n hx hb d_Mod_tellPage_44 rfl (lv_at hl 3 rfl) ?_
      obtain ⟨hi, hw⟩ := hw
      refine w_iald (o := 69) hx hb hK hW ko_69.1 ko_69.2 hi d_Mod_tellPage_45 ?_
      obtain ⟨hi, hw⟩ := hw
      refine w_iast (o := 97) hx hb hK hW hS ko_97.1 ko_97.2 hi d_Mod_tellPage_46 (fun H locs hW hS => ?_)
      obtain ⟨x2494, ex2494⟩ : ∃ y : St, y = setA x 97 l2 (rA x 69 l3) := ⟨_, rfl⟩
      rw [← ex2494] at hW
      have hw := hw x2494 ex2494
      refine lv_aload_n hx hb d_Mod_tellPage_47 rfl (lv_at hl 0 rfl) ?_
      refine w_getf (q := 98) (k := 143) (t := 12) (C := R_Mod) (T := F_Mod) (N := 167) hx hb hT hown hK hW ko_0.1 ko_0.2 (by decide) in_Mod rfl rfl (by decide) rfl fr_Mod_143 w_9_79 d_Mod_tellPage_48 rfl ?_
      refine lv_iload_n hx hb d_Mod_tellPage_51 rfl (lv_at hl 2 rfl) ?_
      refine lv_aload_n hx hb d_Mod_tellPage_52 rfl (lv_at hl 0 rfl) ?_
      refine w_getf (q := 70) (k := 107) (t := 12) (C := R_Mod) (T := F_Mod) (N := 167) hx hb hT hown hK hW ko_0.1 ko_0.2 (by decide) in_Mod rfl rfl (by decide) rfl fr_Mod_107 w_9_43 d_Mod_tellPage_53 rfl ?_
      refine lv_iload_n hx hb d_Mod_tellPage_56 rfl (lv_at hl 3 rfl) ?_
      obtain ⟨hi, hw⟩ := hw
      refine w_iald (o := 70) hx hb hK hW ko_70.1 ko_70.2 hi d_Mod_tellPage_57 ?_
      obtain ⟨hi, hw⟩ := hw
      refine w_iast (o := 98) hx hb hK hW hS ko_98.1 ko_98.2 hi d_Mod_tellPage_58 (fun H locs hW hS => ?_)
      obtain ⟨x2495, ex2495⟩ : ∃ y : St, y = setA x2494 98 l2 (rA x2494 70 l3) := ⟨_, rfl⟩
      rw [← ex2495] at hW
      have hw := hw x2495 ex2495
      refine lv_aload_n hx hb d_Mod_tellPage_59 rfl (lv_at hl 0 rfl) ?_
      refine w_getf (q := 99) (k := 144) (t := 12) (C := R_Mod) (T := F_Mod) (N := 167) hx hb hT hown hK hW ko_0.1 ko_0.2 (by decide) in_Mod rfl rfl (by decide) rfl fr_Mod_144 w_9_80 d_Mod_tellPage_60 rfl ?_
      refine lv_iload_n hx hb d_Mod_tellPage_63 rfl (lv_at hl 2 rfl) ?_
      refine lv_aload_n hx hb d_Mod_tellPage_64 rfl (lv_at hl 0 rfl) ?_
      refine w_getf (q := 71) (k := 108) (t := 12) (C := R_Mod) (T := F_Mod) (N := 167) hx hb hT hown hK hW ko_0.1 ko_0.2 (by decide) in_Mod rfl rfl (by decide) rfl fr_Mod_108 w_9_44 d_Mod_tellPage_65 rfl ?_
      refine lv_iload_n hx hb d_Mod_tellPage_68 rfl (lv_at hl 3 rfl) ?_
      obtain ⟨hi, hw⟩ := hw
      refine w_iald (o := 71) hx hb hK hW ko_71.1 ko_71.2 hi d_Mod_tellPage_69 ?_
      obtain ⟨hi, hw⟩ := hw
      refine w_iast (o := 99) hx hb hK hW hS ko_99.1 ko_99.2 hi d_Mod_tellPage_70 (fun H locs hW hS => ?_)
      obtain ⟨x2496, ex2496⟩ : ∃ y : St, y = setA x2495 99 l2 (rA x2495 71 l3) := ⟨_, rfl⟩
      rw [← ex2496] at hW
      have hw := hw x2496 ex2496
      refine lv_aload_n hx hb d_Mod_tellPage_71 rfl (lv_at hl 0 rfl) ?_
      refine w_getf (q := 100) (k := 145) (t := 12) (C := R_Mod) (T := F_Mod) (N := 167) hx hb hT hown hK hW ko_0.1 ko_0.2 (by decide) in_Mod rfl rfl (by decide) rfl fr_Mod_145 w_9_81 d_Mod_tellPage_72 rfl ?_
      refine lv_iload_n hx hb d_Mod_tellPage_75 rfl (lv_at hl 2 rfl) ?_
      refine lv_aload_n hx hb d_Mod_tellPage_76 rfl (lv_at hl 0 rfl) ?_
      refine w_getf (q := 72) (k := 109) (t := 12) (C := R_Mod) (T := F_Mod) (N := 167) hx hb hT hown hK hW ko_0.1 ko_0.2 (by decide) in_Mod rfl rfl (by decide) rfl fr_Mod_109 w_9_45 d_Mod_tellPage_77 rfl ?_
      refine lv_iload_n hx hb d_Mod_tellPage_80 rfl (lv_at hl 3 rfl) ?_
      obtain ⟨hi, hw⟩ := hw
      refine w_iald (o := 72) hx hb hK hW ko_72.1 ko_72.2 hi d_Mod_tellPage_81 ?_
      obtain ⟨hi, hw⟩ := hw
      refine w_iast (o := 100) hx hb hK hW hS ko_100.1 ko_100.2 hi d_Mod_tellPage_82 (fun H locs hW hS => ?_)
      obtain ⟨x2497, ex2497⟩ : ∃ y : St, y = setA x2496 100 l2 (rA x2496 72 l3) := ⟨_, rfl⟩
      rw [← ex2497] at hW
      have hw := hw x2497 ex2497
      refine lv_aload_n hx hb d_Mod_tellPage_83 rfl (lv_at hl 0 rfl) ?_
      refine w_getf (q := 101) (k := 146) (t := 12) (C := R_Mod) (T := F_Mod) (N := 167) hx hb hT hown hK hW ko_0.1 ko_0.2 (by decide) in_Mod rfl rfl (by decide) rfl fr_Mod_146 w_9_82 d_Mod_tellPage_84 rfl ?_
      refine lv_iload_n hx hb d_Mod_tellPage_87 rfl (lv_at hl 2 rfl) ?_
      refine lv_aload_n hx hb d_Mod_tellPage_88 rfl (lv_at hl 0 rfl) ?_
      refine w_getf (q := 73) (k := 110) (t := 12) (C := R_Mod) (T := F_Mod) (N := 167) hx hb hT hown hK hW ko_0.1 ko_0.2 (by decide) in_Mod rfl rfl (by decide) rfl fr_Mod_110 w_9_46 d_Mod_tellPage_89 rfl ?_
      refine lv_iload_n hx hb d_Mod_tellPage_92 rfl (lv_at hl 3 rfl) ?_
      obtain ⟨hi, hw⟩ := hw
      refine w_iald (o := 73) hx hb hK hW ko_73.1 ko_73.2 hi d_Mod_tellPage_93 ?_
      obtain ⟨hi, hw⟩ := hw
      refine w_iast (o := 101) hx hb hK hW hS ko_101.1 ko_101.2 hi d_Mod_tellPage_94 (fun H locs hW hS => ?_)
      obtain ⟨x2498, ex2498⟩ : ∃ y : St, y = setA x2497 101 l2 (rA x2497 73 l3) := ⟨_, rfl⟩
      rw [← ex2498] at hW
      have hw := hw x2498 ex2498
      refine lv_aload_n hx hb d_Mod_tellPage_95 rfl (lv_at hl 0 rfl) ?_
      refine w_getf (q := 102) (k := 147) (t := 12) (C := R_Mod) (T := F_Mod) (N := 167) hx hb hT hown hK hW ko_0.1 ko_0.2 (by decide) in_Mod rfl rfl (by decide) rfl fr_Mod_147 w_9_83 d_Mod_tellPage_96 rfl ?_
      refine lv_iload_n hx hb d_Mod_tellPage_99 rfl (lv_at hl 2 rfl) ?_
      refine lv_aload_n hx hb d_Mod_tellPage_100 rfl (lv_at hl 0 rfl) ?_
      refine w_getf (q := 74) (k := 111) (t := 12) (C := R_Mod) (T := F_Mod) (N := 167) hx hb hT hown hK hW ko_0.1 ko_0.2 (by decide) in_Mod rfl rfl (by decide) rfl fr_Mod_111 w_9_47 d_Mod_tellPage_101 rfl ?_
      refine lv_iload_n hx hb d_Mod_tellPage_104 rfl (lv_at hl 3 rfl) ?_
      obtain ⟨hi, hw⟩ := hw
      refine w_iald (o := 74) hx hb hK hW ko_74.1 ko_74.2 hi d_Mod_tellPage_105 ?_
      obtain ⟨hi, hw⟩ := hw
      refine w_iast (o := 102) hx hb hK hW hS ko_102.1 ko_102.2 hi d_Mod_tellPage_106 (fun H locs hW hS => ?_)
      obtain ⟨x2499, ex2499⟩ : ∃ y : St, y = setA x2498 102 l2 (rA x2498 74 l3) := ⟨_, rfl⟩
      rw [← ex2499] at hW
      have hw := hw x2499 ex2499
      refine lv_aload_n hx hb d_Mod_tellPage_107 rfl (lv_at hl 0 rfl) ?_
      refine w_getf (q := 67) (k := 104) (t := 12) (C := R_Mod) (T := F_Mod) (N := 167) hx hb hT hown hK hW ko_0.1 ko_0.2 (by decide) in_Mod rfl rfl (by decide) rfl fr_Mod_104 w_9_40 d_Mod_tellPage_108 rfl ?_
      refine lv_iload_n hx hb d_Mod_tellPage_111 rfl (lv_at hl 3 rfl) ?_
      obtain ⟨hi, hw⟩ := hw
      refine w_iald (o := 67) hx hb hK hW ko_67.1 ko_67.2 hi d_Mod_tellPage_112 ?_
      refine lv_aload_n hx hb d_Mod_tellPage_113 rfl (lv_at hl 0 rfl) ?_
      refine w_getf (q := 68) (k := 105) (t := 12) (C := R_Mod) (T := F_Mod) (N := 167) hx hb hT hown hK hW ko_0.1 ko_0.2 (by decide) in_Mod rfl rfl (by decide) rfl fr_Mod_105 w_9_41 d_Mod_tellPage_114 rfl ?_
      refine lv_iload_n hx hb d_Mod_tellPage_117 rfl (lv_at hl 3 rfl) ?_
      obtain ⟨hi, hw⟩ := hw
      refine w_iald (o := 68) hx hb hK hW ko_68.1 ko_68.2 hi d_Mod_tellPage_118 ?_
      refine lv_iadd hx hb d_Mod_tellPage_119 ?_
      exact hret ((rA x2499 67 l3) + (rA x2499 68 l3)) x2499 H locs 120 ls d_Mod_tellPage_120 hw hW hS
    · have hw := hw.2 c2493
      exact t_Mod_tellPage_29 hx hb hml hown hT hK hN hA hRc hRs hRf hRl hret hrec2 l1 l2 l3 x H locs ls  hw hW hS (lv_sub hl [0, 1, 2, 3] rfl)
set_option maxHeartbeats 4000000 in
set_option maxRecDepth 100000 in
theorem tl_Mod_tellPage_2 {p : Program} {l : Launch} {e : Env} {R : Room} {s : State} {m : MethodId} {args : Array Value} {below : List Frame} {meth : Method} {c : Code} {cells slots : Nat} {Q : State → Prop} {dC : Nat → ClassId} {dI : Nat → Nat → Nat} {cI cB cJ cZ : ClassId} {A : Nat → Prop} {ad : Nat → Nat} {post : Int32 → St → Prop} (hx : p.tables.exec = Jvm.exec) (hb : c.code = b_Mod_tellPage) (hml : c.maxLocals = 4) (hown : s.vm.findClass R_Mod = some m.cls) (hT : ∀ w ∈ TG, w.before args s = true) (hK : va_K (dC, dI) CL (TY cI cB cJ cZ) s) (hN : NW s) (hA : ∀ q : Nat, s.heap.size ≤ q → A q) (hRc : cells ≤ R.cells) (hRs : slots ≤ R.slots) (hRf : 0 ≤ R.frames) (hRl : 0 ≤ R.locals) (hret : ∀ (r : Int32) (x : St) (H : Heap) (locs : List Loc) (pc : Nat) (ls : Array Slot), decode b_Mod_tellPage pc = .ok (.ireturn, 1) → post r x → Wd dC dI cI cB cJ cZ ad stM kcM 115 A x H → va_S A s.heap H locs → W p l e R s m args below meth c H locs cells slots Q (F0 m pc ls [.int r]))  : ∀ n : Nat, ∀ (l1 : Int32) (l2 : Int32) (l3 : Int32) (x : St) (H : Heap) (locs : List Loc) (ls : Array Slot), wl_Mod_tellPage_2 post n l1 l2 l3 x → Wd dC dI cI cB cJ cZ ad stM kcM 115 A x H → va_S A s.heap H locs → lv_has ls 4 [(0, .ref (ad 0)), (1, .int l1), (2, .int l2), (3, .int l3)] → W p l e R s m args below meth c H locs cells slots Q (F0 m 2 ls []) := by
  intro n
  induction n with
  | zero => intro l1 l2 l3 x H locs ls  hw; exact hw.elim
  | succ n ih => intro l1 l2 l3 x H locs ls  hw hW hS hl; exact t_Mod_tellPage_2 hx hb hml hown hT hK hN hA hRc hRs hRf hRl hret  ih l1 l2 l3 x H locs ls  hw hW hS hl
set_option maxRecDepth 100000 in
set_option maxHeartbeats 4000000 in
set_option maxRecDepth 100000 in
theorem t_Mod_tellPage_e {p : Program} {l : Launch} {e : Env} {R : Room} {s : State} {m : MethodId} {args : Array Value} {below : List Frame} {meth : Method} {c : Code} {cells slots : Nat} {Q : State → Prop} {dC : Nat → ClassId} {dI : Nat → Nat → Nat} {cI cB cJ cZ : ClassId} {A : Nat → Prop} {ad : Nat → Nat} {post : Int32 → St → Prop} (hx : p.tables.exec = Jvm.exec) (hb : c.code = b_Mod_tellPage) (hml : c.maxLocals = 4) (hown : s.vm.findClass R_Mod = some m.cls) (hT : ∀ w ∈ TG, w.before args s = true) (hK : va_K (dC, dI) CL (TY cI cB cJ cZ) s) (hN : NW s) (hA : ∀ q : Nat, s.heap.size ≤ q → A q) (hRc : cells ≤ R.cells) (hRs : slots ≤ R.slots) (hRf : 0 ≤ R.frames) (hRl : 0 ≤ R.locals) (hret : ∀ (r : Int32) (x : St) (H : Heap) (locs : List Loc) (pc : Nat) (ls : Array Slot), decode b_Mod_tellPage pc = .ok (.ireturn, 1) → post r x → Wd dC dI cI cB cJ cZ ad stM kcM 115 A x H → va_S A s.heap H locs → W p l e R s m args below meth c H locs cells slots Q (F0 m pc ls [.int r])) : ∀ (l1 : Int32) (l2 : Int32) (x : St) (H : Heap) (locs : List Loc) (ls : Array Slot), wp_Mod_tellPage post l1 l2 x → Wd dC dI cI cB cJ cZ ad stM kcM 115 A x H → va_S A s.heap H locs → lv_has ls 4 [(0, .ref (ad 0)), (1, .int l1), (2, .int l2)] → W p l e R s m args below meth c H locs cells slots Q (F0 m 0 ls []) := by
  intro l1 l2 x H locs ls  hw hW hS hl
  unfold wp_Mod_tellPage at hw
  refine lv_iconst (v := 0) hx hb d_Mod_tellPage_0 (by decide) ?_
  refine lv_istore_n (lv' := [(3, .int 0), (0, .ref (ad 0)), (1, .int l1), (2, .int l2)]) hx hb d_Mod_tellPage_1 rfl hl (by decide) rfl (fun ls hl => ?_)
  obtain ⟨n, hw⟩ := hw
  exact tl_Mod_tellPage_2 hx hb hml hown hT hK hN hA hRc hRs hRf hRl hret  n l1 l2 0 x H locs ls  hw hW hS (lv_sub hl [1, 2, 3, 0] rfl)
set_option maxHeartbeats 4000000 in
set_option maxRecDepth 100000 in
theorem k_Mod_tellPage (l : Launch) (dC : Nat → ClassId) (dI : Nat → Nat → Nat) (cI cB cJ cZ : ClassId) (ad : Nat → Nat) (sz : Nat) (l1 : Int32) (l2 : Int32) (x : St) {post : Int32 → St → Prop} (hw : wp_Mod_tellPage post l1 l2 x) : Met l y_Mod_tellPage (wsOf y_Mod_tellPage b_Mod_tellPage 4 (some (.int))) ({ frames := 0, cells := 0, slots := 0, locals := 0 }) (va_Pc [.ref (ad 0), .int l1, .int l2] (PW dC dI cI cB cJ cZ ad stM kcM 115 sz x)) (va_Qi (fun (r : Int32) (y : St) => post r y) (fun y t => Wd dC dI cI cB cJ cZ ad stM kcM 115 (va_A (pic ad stM kcM 115 cI cB cJ cZ x) sz) y t.heap) (va_A (pic ad stM kcM 115 cI cB cJ cZ x) sz)) 0 0 (va_A (pic ad stM kcM 115 cI cB cJ cZ x) sz) := by
  refine Met.ofW (cc := b_Mod_tellPage) (maxL := 4) (ret := some (.int)) (by decide) rfl ?_
  intro p e s m args below meth c s₁ B hml hv
  obtain ⟨rfl, hsz, hW0, hK, hN⟩ := hv
  have hx := B.exec
  have hb := B.bytes
  have hr := B.returns
  have hts := atoms_spec B.pre
  have hT : ∀ w ∈ TG, w.before _ s = true := fun w h => hts w (List.mem_cons_of_mem _ h)
  have hown : s.vm.findClass R_Mod = some m.cls := findClass_of_methodNamed B.named
  have hlocks := B.notSynchronized
  subst hsz
  have hW : Wd dC dI cI cB cJ cZ ad stM kcM 115 (va_A (pic ad stM kcM 115 cI cB cJ cZ x) s.heap.size) x s.heap := ⟨hW0.1, hW0.2.1.self (sz := s.heap.size), hW0.2.2⟩
  generalize hAe : va_A (pic ad stM kcM 115 cI cB cJ cZ x) s.heap.size = A at hW ⊢
  have hA : ∀ q : Nat, s.heap.size ≤ q → A q := fun q h => by rw [← hAe]; exact Or.inr h
  have hS : va_S A s.heap s.heap [] := va_S.rf
  have hl := lv_entry ([.ref (ad 0), .int l1, .int l2]) (n := 4) (Nat.le_of_ble_eq_true rfl)
  rw [lg_entry_eq]
  generalize (lg_sl ([.ref (ad 0), .int l1, .int l2]) ++ List.replicate (4 - (lg_sl ([.ref (ad 0), .int l1, .int l2])).length) Slot.unset).toArray = ls at hl ⊢
  have hl : lv_has ls 4 [(0, .ref (ad 0)), (1, .int l1), (2, .int l2)] := hl
  exact t_Mod_tellPage_e hx hb hml hown hT hK hN hA (Nat.le_refl 0) (Nat.le_refl 0) (Nat.le_refl 0) (Nat.le_refl 0) (fun r x H locs pc ls hd hp hW hS => W.iret (v := r) hx hb hr (fun t ht hM => ⟨⟨r, x, rfl, hp, Wd.back hW ht.symm (fun _ z => z)⟩, hS.F ht⟩) hS.2.2 hd hlocks)  l1 l2 x _ _ ls  hw hW hS hl
set_option maxRecDepth 100000 in
set_option maxHeartbeats 4000000 in
set_option maxRecDepth 100000 in
theorem t_Mod_lookAt_39 {p : Program} {l : Launch} {e : Env} {R : Room} {s : State} {m : MethodId} {args : Array Value} {below : List Frame} {meth : Method} {c : Code} {cells slots : Nat} {Q : State → Prop} {dC : Nat → ClassId} {dI : Nat → Nat → Nat} {cI cB cJ cZ : ClassId} {A : Nat → Prop} {ad : Nat → Nat} {post : St → Prop} {rec2 : Int32 → Int32 → Int32 → St → Prop} (hx : p.tables.exec = Jvm.exec) (hb : c.code = b_Mod_lookAt) (hml : c.maxLocals = 4) (hown : s.vm.findClass R_Mod = some m.cls) (hT : ∀ w ∈ TG, w.before args s = true) (hK : va_K (dC, dI) CL (TY cI cB cJ cZ) s) (hN : NW s) (hA : ∀ q : Nat, s.heap.size ≤ q → A q) (hRc : cells ≤ R.cells) (hRs : slots ≤ R.slots) (hRf : 203 ≤ R.frames) (hRl : 4668 ≤ R.locals) (hret : ∀ (x : St) (H : Heap) (locs : List Loc) (pc : Nat) (ls : Array Slot), decode b_Mod_lookAt pc = .ok (.return_, 1) → post x → Wd dC dI cI cB cJ cZ ad stM kcM 115 A x H → va_S A s.heap H locs → W p l e R s m args below meth c H locs cells slots Q (F0 m pc ls [])) (hrec2 : ∀ (l1 : Int32) (l2 : Int32) (l3 : Int32) (x : St) (H : Heap) (locs : List Loc) (ls : Array Slot), rec2 l1 l2 l3 x → Wd dC dI cI cB cJ cZ ad stM kcM 115 A x H → va_S A s.heap H locs → lv_has ls 4 [(0, .ref (ad 0)), (1, .int l1), (2, .int l2), (3, .int l3)] → W p l e R s m args below meth c H locs cells slots Q (F0 m 2 ls [])) : ∀ (l1 : Int32) (l2 : Int32) (l3 : Int32) (x : St) (H : Heap) (locs : List Loc) (ls : Array Slot), j_Mod_lookAt_39 post rec2 l1 l2 l3 x → Wd dC dI cI cB cJ cZ ad stM kcM 115 A x H → va_S A s.heap H locs → lv_has ls 4 [(0, .ref (ad 0)), (1, .int l1), (2, .int l2), (3, .int l3)] → W p l e R s m args below meth c H locs cells slots Q (F0 m 39 ls []) := by
  intro l1 l2 l3 x H locs ls  hw hW hS hl
  unfold j_Mod_lookAt_39 at hw
  refine lv_iinc (v := (l3 + 1)) (lv' := [(3, .int (l3 + 1)), (0, .ref (ad 0)), (1, .int l1), (2, .int l2)]) hx hb d_Mod_lookAt_39 hl (k := 3) rfl rfl (by decide) rfl (fun ls hl => ?_)
  refine lv_goto (tgt := 2) hx hb d_Mod_lookAt_42 (by decide) ?_
  exact hrec2 l1 l2 (l3 + 1) x H locs ls  hw hW hS (lv_sub hl [1, 2, 3, 0] rfl)
set_option maxRecDepth 100000 in
set_option maxHeartbeats 4000000 in
set_option maxRecDepth 100000 in
theorem t_Mod_lookAt_2 {p : Program} {l : Launch} {e : Env} {R : Room} {s : State} {m : MethodId} {args : Array Value} {below : List Frame} {meth : Method} {c : Code} {cells slots : Nat} {Q : State → Prop} {dC : Nat → ClassId} {dI : Nat → Nat → Nat} {cI cB cJ cZ : ClassId} {A : Nat → Prop} {ad : Nat → Nat} {post : St → Prop} {rec2 : Int32 → Int32 → Int32 → St → Prop} (hx : p.tables.exec = Jvm.exec) (hb : c.code = b_Mod_lookAt) (hml : c.maxLocals = 4) (hown : s.vm.findClass R_Mod = some m.cls) (hT : ∀ w ∈ TG, w.before args s = true) (hK : va_K (dC, dI) CL (TY cI cB cJ cZ) s) (hN : NW s) (hA : ∀ q : Nat, s.heap.size ≤ q → A q) (hRc : cells ≤ R.cells) (hRs : slots ≤ R.slots) (hRf : 203 ≤ R.frames) (hRl : 4668 ≤ R.locals) (hret : ∀ (x : St) (H : Heap) (locs : List Loc) (pc : Nat) (ls : Array Slot), decode b_Mod_lookAt pc = .ok (.return_, 1) → post x → Wd dC dI cI cB cJ cZ ad stM kcM 115 A x H → va_S A s.heap H locs → W p l e R s m args below meth c H locs cells slots Q (F0 m pc ls [])) (hrec2 : ∀ (l1 : Int32) (l2 : Int32) (l3 : Int32) (x : St) (H : Heap) (locs : List Loc) (ls : Array Slot), rec2 l1 l2 l3 x → Wd dC dI cI cB cJ cZ ad stM kcM 115 A x H → va_S A s.heap H locs → lv_has ls 4 [(0, .ref (ad 0)), (1, .int l1), (2, .int l2), (3, .int l3)] → W p l e R s m args below meth c H locs cells slots Q (F0 m 2 ls [])) : ∀ (l1 : Int32) (l2 : Int32) (l3 : Int32) (x : St) (H : Heap) (locs : List Loc) (ls : Array Slot), j_Mod_lookAt_2 post rec2 l1 l2 l3 x → Wd dC dI cI cB cJ cZ ad stM kcM 115 A x H → va_S A s.heap H locs → lv_has ls 4 [(0, .ref (ad 0)), (1, .int l1), (2, .int l2), (3, .int l3)] → W p l e R s m args below meth c H locs cells slots Q (F0 m 2 ls []) := by
  intro l1 l2 l3 x H locs ls  hw hW hS hl
  unfold j_Mod_lookAt_2 at hw
  refine lv_iload_n hx hb d_Mod_lookAt_2 rfl (lv_at hl 3 rfl) ?_
  refine lv_iload_n hx hb d_Mod_lookAt_3 rfl (lv_at hl 2 rfl) ?_
  refine lv_icmp_ge (tgt := 45) hx hb d_Mod_lookAt_4 (by decide) (fun c2500 => ?_) (fun c2500 => ?_)
  · have hw := hw.1 c2500
    exact hret x H locs 45 ls d_Mod_lookAt_45 hw hW hS
  · have hw := hw.2 c2500
    refine lv_aload_n hx hb d_Mod_lookAt_7 rfl (lv_at hl 0 rfl) ?_
    refine lv_iload_n hx hb d_Mod_lookAt_8 rfl (lv_at hl 3 rfl) ?_
    have hF := hW.free hS hA
    refine va_calli (va_runV (C := R_Mod) (As := [.int l3]) (rest := []) ⟨hx, hb, hml, hown, hT⟩ (k_Mod_condition l dC dI cI cB cJ cZ ad H.size l3 x  hw) ⟨callB_of 1 hT (gwt_in w_13_215) rfl rfl rfl (hT _ w_1_15) (hT _ w_13_212) (by decide +kernel) ⟨Nat.le_trans (Nat.le_of_ble_eq_true rfl) hRf, Nat.le_trans (Nat.le_of_ble_eq_true rfl) hRl⟩, hT _ w_13_214, hT _ ws_255⟩ ⟨PW.blind, va_recv hK hW.1 (ci := 12) (q0 := 0) rfl (pic_obj ko_0.1 ko_0.2 (by decide)), PW.at _ hW hK hN⟩ rfl rfl hl.1 rfl (lv_room (Nat.le_of_ble_eq_true rfl)) d_Mod_lookAt_9 ⟨hRc, hRs⟩) hS (fun q _ h => hF q h) hF (fun r2502 x2501 t H locs ht hvm hw hB hz1 hk1 hS => ?_)
    have hW := Wd.back hB ht hF
    clear hB ht hF hz1 hk1 hvm
    refine lv_iconst (v := 2) hx hb d_Mod_lookAt_12 (by decide) ?_
    refine lv_icmp_eq (tgt := 19) hx hb d_Mod_lookAt_13 (by decide) (fun c2503 => ?_) (fun c2503 => ?_)
    · have hw := hw.1 c2503
      refine lv_aload_n hx hb d_Mod_lookAt_19 rfl (lv_at hl 0 rfl) ?_
      refine w_getf (q := 103) (k := 148) (t := 12) (C := R_Mod) (T := F_Mod) (N := 167) hx hb hT hown hK hW ko_0.1 ko_0.2 (by decide) in_Mod rfl rfl (by decide) rfl fr_Mod_148 w_9_84 d_Mod_lookAt_20 rfl ?_
      refine lv_aload_n hx hb d_Mod_lookAt_23 rfl (lv_at hl 0 rfl) ?_
      refine w_geti (k := 160) (t := 12) (C := R_Mod) (T := F_Mod) (N := 167) hx hb hT hown hK hW ko_0.1 ko_0.2 (by decide) in_Mod rfl rfl (by decide) rfl fr_Mod_160 w_9_96 d_Mod_lookAt_24 ?_
      refine lv_iload_n hx hb d_Mod_lookAt_27 rfl (lv_at hl 3 rfl) ?_
      obtain ⟨hi, hw⟩ := hw
      refine w_iast (o := 103) hx hb hK hW hS ko_103.1 ko_103.2 hi d_Mod_lookAt_28 (fun H locs hW hS => ?_)
      obtain ⟨x2504, ex2504⟩ : ∃ y : St, y = setA x2501 103 (fI x2501 0 160) l3 := ⟨_, rfl⟩
      rw [← ex2504] at hW
      have hw := hw x2504 ex2504
      refine lv_aload_n hx hb d_Mod_lookAt_29 rfl (lv_at hl 0 rfl) ?_
      refine lv_dup hx hb d_Mod_lookAt_30 rfl ?_
      refine w_geti (k := 160) (t := 12) (C := R_Mod) (T := F_Mod) (N := 167) hx hb hT hown hK hW ko_0.1 ko_0.2 (by decide) in_Mod rfl rfl (by decide) rfl fr_Mod_160 w_9_96 d_Mod_lookAt_31 ?_
      refine lv_iconst (v := 1) hx hb d_Mod_lookAt_34 (by decide) ?_
      refine lv_iadd hx hb d_Mod_lookAt_35 ?_
      refine w_puti (ty := .int) (k := 160) (t := 12) (C := R_Mod) (T := F_Mod) (N := 167) hx hb hT hown hK hW hS ko_0.1 ko_0.2 (by decide) in_Mod t_Mod t_Mod_ok n_Mod rfl rfl (by decide) rfl fr_Mod_160 w_9_96 (by decide +kernel) rfl rfl d_Mod_lookAt_36 (fun H locs hW hS => ?_)
      obtain ⟨x2505, ex2505⟩ : ∃ y : St, y = setI x2504 0 160 ((fI x2504 0 160) + 1) := ⟨_, rfl⟩
      rw [← ex2505] at hW
      have hw := hw x2505 ex2505
      exact t_Mod_lookAt_39 hx hb hml hown hT hK hN hA hRc hRs hRf hRl hret hrec2 l1 l2 l3 x2505 H locs ls  hw hW hS (lv_sub hl [0, 1, 2, 3] rfl)
    · have hw := hw.2 c2503
      refine lv_goto (tgt := 39) hx hb d_Mod_lookAt_16 (by decide) ?_
      exact t_Mod_lookAt_39 hx hb hml hown hT hK hN hA hRc hRs hRf hRl hret hrec2 l1 l2 l3 x2501 H locs ls  hw hW hS (lv_sub hl [0, 1, 2, 3] rfl)
set_option maxHeartbeats 4000000 in
set_option maxRecDepth 100000 in
theorem tl_Mod_lookAt_2 {p : Program} {l : Launch} {e : Env} {R : Room} {s : State} {m : MethodId} {args : Array Value} {below : List Frame} {meth : Method} {c : Code} {cells slots : Nat} {Q : State → Prop} {dC : Nat → ClassId} {dI : Nat → Nat → Nat} {cI cB cJ cZ : ClassId} {A : Nat → Prop} {ad : Nat → Nat} {post : St → Prop} (hx : p.tables.exec = Jvm.exec) (hb : c.code = b_Mod_lookAt) (hml : c.maxLocals = 4) (hown : s.vm.findClass R_Mod = some m.cls) (hT : ∀ w ∈ TG, w.before args s = true) (hK : va_K (dC, dI) CL (TY cI cB cJ cZ) s) (hN : NW s) (hA : ∀ q : Nat, s.heap.size ≤ q → A q) (hRc : cells ≤ R.cells) (hRs : slots ≤ R.slots) (hRf : 203 ≤ R.frames) (hRl : 4668 ≤ R.locals) (hret : ∀ (x : St) (H : Heap) (locs : List Loc) (pc : Nat) (ls : Array Slot), decode b_Mod_lookAt pc = .ok (.return_, 1) → post x → Wd dC dI cI cB cJ cZ ad stM kcM 115 A x H → va_S A s.heap H locs → W p l e R s m args below meth c H locs cells slots Q (F0 m pc ls []))  : ∀ n : Nat, ∀ (l1 : Int32) (l2 : Int32) (l3 : Int32) (x : St) (H : Heap) (locs : List Loc) (ls : Array Slot), wl_Mod_lookAt_2 post n l1 l2 l3 x → Wd dC dI cI cB cJ cZ ad stM kcM 115 A x H → va_S A s.heap H locs → lv_has ls 4 [(0, .ref (ad 0)), (1, .int l1), (2, .int l2), (3, .int l3)] → W p l e R s m args below meth c H locs cells slots Q (F0 m 2 ls []) := by
  intro n
  induction n with
  | zero => intro l1 l2 l3 x H locs ls  hw; exact hw.elim
  | succ n ih => intro l1 l2 l3 x H locs ls  hw hW hS hl; exact t_Mod_lookAt_2 hx hb hml hown hT hK hN hA hRc hRs hRf hRl hret  ih l1 l2 l3 x H locs ls  hw hW hS hl
set_option maxRecDepth 100000 in
set_option maxHeartbeats 4000000 in
set_option maxRecDepth 100000 in
theorem t_Mod_lookAt_e {p : Program} {l : Launch} {e : Env} {R : Room} {s : State} {m : MethodId} {args : Array Value} {below : List Frame} {meth : Method} {c : Code} {cells slots : Nat} {Q : State → Prop} {dC : Nat → ClassId} {dI : Nat → Nat → Nat} {cI cB cJ cZ : ClassId} {A : Nat → Prop} {ad : Nat → Nat} {post : St → Prop} (hx : p.tables.exec = Jvm.exec) (hb : c.code = b_Mod_lookAt) (hml : c.maxLocals = 4) (hown : s.vm.findClass R_Mod = some m.cls) (hT : ∀ w ∈ TG, w.before args s = true) (hK : va_K (dC, dI) CL (TY cI cB cJ cZ) s) (hN : NW s) (hA : ∀ q : Nat, s.heap.size ≤ q → A q) (hRc : cells ≤ R.cells) (hRs : slots ≤ R.slots) (hRf : 203 ≤ R.frames) (hRl : 4668 ≤ R.locals) (hret : ∀ (x : St) (H : Heap) (locs : List Loc) (pc : Nat) (ls : Array Slot), decode b_Mod_lookAt pc = .ok (.return_, 1) → post x → Wd dC dI cI cB cJ cZ ad stM kcM 115 A x H → va_S A s.heap H locs → W p l e R s m args below meth c H locs cells slots Q (F0 m pc ls [])) : ∀ (l1 : Int32) (l2 : Int32) (x : St) (H : Heap) (locs : List Loc) (ls : Array Slot), wp_Mod_lookAt post l1 l2 x → Wd dC dI cI cB cJ cZ ad stM kcM 115 A x H → va_S A s.heap H locs → lv_has ls 4 [(0, .ref (ad 0)), (1, .int l1), (2, .int l2)] → W p l e R s m args below meth c H locs cells slots Q (F0 m 0 ls []) := by
  intro l1 l2 x H locs ls  hw hW hS hl
  unfold wp_Mod_lookAt at hw
  refine lv_iload_n hx hb d_Mod_lookAt_0 rfl (lv_at hl 1 rfl) ?_
  refine lv_istore_n (lv' := [(3, .int l1), (0, .ref (ad 0)), (1, .int l1), (2, .int l2)]) hx hb d_Mod_lookAt_1 rfl hl (by decide) rfl (fun ls hl => ?_)
  obtain ⟨n, hw⟩ := hw
  exact tl_Mod_lookAt_2 hx hb hml hown hT hK hN hA hRc hRs hRf hRl hret  n l1 l2 l1 x H locs ls  hw hW hS (lv_sub hl [1, 2, 3, 0] rfl)
set_option maxHeartbeats 4000000 in
set_option maxRecDepth 100000 in
theorem k_Mod_lookAt (l : Launch) (dC : Nat → ClassId) (dI : Nat → Nat → Nat) (cI cB cJ cZ : ClassId) (ad : Nat → Nat) (sz : Nat) (l1 : Int32) (l2 : Int32) (x : St) {post : St → Prop} (hw : wp_Mod_lookAt post l1 l2 x) : Met l y_Mod_lookAt (wsOf y_Mod_lookAt b_Mod_lookAt 4 (none)) ({ frames := 203, cells := 0, slots := 0, locals := 4668 }) (va_Pc [.ref (ad 0), .int l1, .int l2] (PW dC dI cI cB cJ cZ ad stM kcM 115 sz x)) (va_Qv (fun (y : St) => post y) (fun y t => Wd dC dI cI cB cJ cZ ad stM kcM 115 (va_A (pic ad stM kcM 115 cI cB cJ cZ x) sz) y t.heap) (va_A (pic ad stM kcM 115 cI cB cJ cZ x) sz)) 0 0 (va_A (pic ad stM kcM 115 cI cB cJ cZ x) sz) := by
  refine Met.ofW (cc := b_Mod_lookAt) (maxL := 4) (ret := none) (by decide) rfl ?_
  intro p e s m args below meth c s₁ B hml hv
  obtain ⟨rfl, hsz, hW0, hK, hN⟩ := hv
  have hx := B.exec
  have hb := B.bytes
  have hr := B.returns
  have hts := atoms_spec B.pre
  have hT : ∀ w ∈ TG, w.before _ s = true := fun w h => hts w (List.mem_cons_of_mem _ h)
  have hown : s.vm.findClass R_Mod = some m.cls := findClass_of_methodNamed B.named
  have hlocks := B.notSynchronized
  subst hsz
  have hW : Wd dC dI cI cB cJ cZ ad stM kcM 115 (va_A (pic ad stM kcM 115 cI cB cJ cZ x) s.heap.size) x s.heap := ⟨hW0.1, hW0.2.1.self (sz := s.heap.size), hW0.2.2⟩
  generalize hAe : va_A (pic ad stM kcM 115 cI cB cJ cZ x) s.heap.size = A at hW ⊢
  have hA : ∀ q : Nat, s.heap.size ≤ q → A q := fun q h => by rw [← hAe]; exact Or.inr h
  have hS : va_S A s.heap s.heap [] := va_S.rf
  have hl := lv_entry ([.ref (ad 0), .int l1, .int l2]) (n := 4) (Nat.le_of_ble_eq_true rfl)
  rw [lg_entry_eq]
  generalize (lg_sl ([.ref (ad 0), .int l1, .int l2]) ++ List.replicate (4 - (lg_sl ([.ref (ad 0), .int l1, .int l2])).length) Slot.unset).toArray = ls at hl ⊢
  have hl : lv_has ls 4 [(0, .ref (ad 0)), (1, .int l1), (2, .int l2)] := hl
  exact t_Mod_lookAt_e hx hb hml hown hT hK hN hA (Nat.le_refl 0) (Nat.le_refl 0) (Nat.le_refl 203) (Nat.le_refl 4668) (fun x H locs pc ls hd hp hW hS => W.vret hx hb hr (fun t ht hM => ⟨⟨x, rfl, hp, Wd.back hW ht.symm (fun _ z => z)⟩, hS.F ht⟩) hS.2.2 hd hlocks)  l1 l2 x _ _ ls  hw hW hS hl
set_option maxRecDepth 100000 in
set_option maxHeartbeats 4000000 in
set_option maxRecDepth 100000 in
theorem t_Mod_lookAtGroup_97 {p : Program} {l : Launch} {e : Env} {R : Room} {s : State} {m : MethodId} {args : Array Value} {below : List Frame} {meth : Method} {c : Code} {cells slots : Nat} {Q : State → Prop} {dC : Nat → ClassId} {dI : Nat → Nat → Nat} {cI cB cJ cZ : ClassId} {A : Nat → Prop} {ad : Nat → Nat} {post : St → Prop} {rec2 : Int32 → Int32 → Int32 → St → Prop} (hx : p.tables.exec = Jvm.exec) (hb : c.code = b_Mod_lookAtGroup) (hml : c.maxLocals = 7) (hown : s.vm.findClass R_Mod = some m.cls) (hT : ∀ w ∈ TG, w.before args s = true) (hK : va_K (dC, dI) CL (TY cI cB cJ cZ) s) (hN : NW s) (hA : ∀ q : Nat, s.heap.size ≤ q → A q) (hRc : cells ≤ R.cells) (hRs : slots ≤ R.slots) (hRf : 204 ≤ R.frames) (hRl : 4691 ≤ R.locals) (hret : ∀ (x : St) (H : Heap) (locs : List Loc) (pc : Nat) (ls : Array Slot), decode b_Mod_lookAtGroup pc = .ok (.return_, 1) → post x → Wd dC dI cI cB cJ cZ ad stM kcM 115 A x H → va_S A s.heap H locs → W p l e R s m args below meth c H locs cells slots Q (F0 m pc ls [])) (hrec2 : ∀ (l1 : Int32) (l2 : Int32) (l3 : Int32) (x : St) (H : Heap) (locs : List Loc) (ls : Array Slot), rec2 l1 l2 l3 x → Wd dC dI cI cB cJ cZ ad stM kcM 115 A x H → va_S A s.heap H locs → lv_has ls 7 [(0, .ref (ad 0)), (1, .int l1), (2, .int l2), (3, .int l3)] → W p l e R s m args below meth c H locs cells slots Q (F0 m 2 ls [])) : ∀ (l1 : Int32) (l2 : Int32) (l3 : Int32) (l4 : Int32) (l5 : Int32) (x : St) (H : Heap) (locs : List Loc) (ls : Array Slot), j_Mod_lookAtGroup_97 post rec2 l1 l2 l3 l4 l5 x → Wd dC dI cI cB cJ cZ ad stM kcM 115 A x H → va_S A s.heap H locs → lv_has ls 7 [(0, .ref (ad 0)), (1, .int l1), (2, .int l2), (3, .int l3), (4, .int l4), (5, .int l5)] → W p l e R s m args below meth c H locs cells slots Q (F0 m 97 ls []) := by
  intro l1 l2 l3 l4 l5 x H locs ls  hw hW hS hl
  unfold j_Mod_lookAtGroup_97 at hw
  refine lv_iload hx hb d_Mod_lookAtGroup_97 (lv_at hl 4 rfl) ?_
  refine lv_istore_n (lv' := [(3, .int l4), (0, .ref (ad 0)), (1, .int l1), (2, .int l2), (4, .int l4), (5, .int l5)]) hx hb d_Mod_lookAtGroup_99 rfl hl (by decide) rfl (fun ls hl => ?_)
  refine lv_goto (tgt := 2) hx hb d_Mod_lookAtGroup_100 (by decide) ?_
  exact hrec2 l1 l2 l4 x H locs ls  hw hW hS (lv_sub hl [1, 2, 3, 0] rfl)
set_option maxRecDepth 100000 in
set_option maxHeartbeats 4000000 in
set_option maxRecDepth 100000 in
theorem t_Mod_lookAtGroup_61 {p : Program} {l : Launch} {e : Env} {R : Room} {s : State} {m : MethodId} {args : Array Value} {below : List Frame} {meth : Method} {c : Code} {cells slots : Nat} {Q : State → Prop} {dC : Nat → ClassId} {dI : Nat → Nat → Nat} {cI cB cJ cZ : ClassId} {A : Nat → Prop} {ad : Nat → Nat} {post : St → Prop} {rec2 : Int32 → Int32 → Int32 → St → Prop} {rec13 : Int32 → Int32 → Int32 → Int32 → Int32 → St → Prop} (hx : p.tables.exec = Jvm.exec) (hb : c.code = b_Mod_lookAtGroup) (hml : c.maxLocals = 7) (hown : s.vm.findClass R_Mod = some m.cls) (hT : ∀ w ∈ TG, w.before args s = true) (hK : va_K (dC, dI) CL (TY cI cB cJ cZ) s) (hN : NW s) (hA : ∀ q : Nat, s.heap.size ≤ q → A q) (hRc : cells ≤ R.cells) (hRs : slots ≤ R.slots) (hRf : 204 ≤ R.frames) (hRl : 4691 ≤ R.locals) (hret : ∀ (x : St) (H : Heap) (locs : List Loc) (pc : Nat) (ls : Array Slot), decode b_Mod_lookAtGroup pc = .ok (.return_, 1) → post x → Wd dC dI cI cB cJ cZ ad stM kcM 115 A x H → va_S A s.heap H locs → W p l e R s m args below meth c H locs cells slots Q (F0 m pc ls [])) (hrec2 : ∀ (l1 : Int32) (l2 : Int32) (l3 : Int32) (x : St) (H : Heap) (locs : List Loc) (ls : Array Slot), rec2 l1 l2 l3 x → Wd dC dI cI cB cJ cZ ad stM kcM 115 A x H → va_S A s.heap H locs → lv_has ls 7 [(0, .ref (ad 0)), (1, .int l1), (2, .int l2), (3, .int l3)] → W p l e R s m args below meth c H locs cells slots Q (F0 m 2 ls [])) (hrec13 : ∀ (l1 : Int32) (l2 : Int32) (l3 : Int32) (l4 : Int32) (l5 : Int32) (x : St) (H : Heap) (locs : List Loc) (ls : Array Slot), rec13 l1 l2 l3 l4 l5 x → Wd dC dI cI cB cJ cZ ad stM kcM 115 A x H → va_S A s.heap H locs → lv_has ls 7 [(0, .ref (ad 0)), (1, .int l1), (2, .int l2), (3, .int l3), (4, .int l4), (5, .int l5)] → W p l e R s m args below meth c H locs cells slots Q (F0 m 13 ls [])) : ∀ (l1 : Int32) (l2 : Int32) (l3 : Int32) (l4 : Int32) (l5 : Int32) (x : St) (H : Heap) (locs : List Loc) (ls : Array Slot), j_Mod_lookAtGroup_61 post rec2 rec13 l1 l2 l3 l4 l5 x → Wd dC dI cI cB cJ cZ ad stM kcM 115 A x H → va_S A s.heap H locs → lv_has ls 7 [(0, .ref (ad 0)), (1, .int l1), (2, .int l2), (3, .int l3), (4, .int l4), (5, .int l5)] → W p l e R s m args below meth c H locs cells slots Q (F0 m 61 ls []) := by
  intro l1 l2 l3 l4 l5 x H locs ls  hw hW hS hl
  unfold j_Mod_lookAtGroup_61 at hw
  refine lv_iinc (v := (l5 + 1)) (lv' := [(5, .int (l5 + 1)), (0, .ref (ad 0)), (1, .int l1), (2, .int l2), (3, .int l3), (4, .int l4)]) hx hb d_Mod_lookAtGroup_61 hl (k := 5) rfl rfl (by decide) rfl (fun ls hl => ?_)
  refine lv_goto (tgt := 13) hx hb d_Mod_lookAtGroup_64 (by decide) ?_
  exact hrec13 l1 l2 l3 l4 (l5 + 1) x H locs ls  hw hW hS (lv_sub hl [1, 2, 3, 4, 5, 0] rfl)
set_option maxRecDepth 100000 in
set_option maxHeartbeats 4000000 in
set_option maxRecDepth 100000 in
theorem t_Mod_lookAtGroup_59 {p : Program} {l : Launch} {e : Env} {R : Room} {s : State} {m : MethodId} {args : Array Value} {below : List Frame} {meth : Method} {c : Code} {cells slots : Nat} {Q : State → Prop} {dC : Nat → ClassId} {dI : Nat → Nat → Nat} {cI cB cJ cZ : ClassId} {A : Nat → Prop} {ad : Nat → Nat} {post : St → Prop} {rec2 : Int32 → Int32 → Int32 → St → Prop} {rec13 : Int32 → Int32 → Int32 → Int32 → Int32 → St → Prop} (hx : p.tables.exec = Jvm.exec) (hb : c.code = b_Mod_lookAtGroup) (hml : c.maxLocals = 7) (hown : s.vm.findClass R_Mod = some m.cls) (hT : ∀ w ∈ TG, w.before args s = true) (hK : va_K (dC, dI) CL (TY cI cB cJ cZ) s) (hN : NW s) (hA : ∀ q : Nat, s.heap.size ≤ q → A q) (hRc : cells ≤ R.cells) (hRs : slots ≤ R.slots) (hRf : 204 ≤ R.frames) (hRl : 4691 ≤ R.locals) (hret : ∀ (x : St) (H : Heap) (locs : List Loc) (pc : Nat) (ls : Array Slot), decode b_Mod_lookAtGroup pc = .ok (.return_, 1) → post x → Wd dC dI cI cB cJ cZ ad stM kcM 115 A x H → va_S A s.heap H locs → W p l e R s m args below meth c H locs cells slots Q (F0 m pc ls [])) (hrec2 : ∀ (l1 : Int32) (l2 : Int32) (l3 : Int32) (x : St) (H : Heap) (locs : List Loc) (ls : Array Slot), rec2 l1 l2 l3 x → Wd dC dI cI cB cJ cZ ad stM kcM 115 A x H → va_S A s.heap H locs → lv_has ls 7 [(0, .ref (ad 0)), (1, .int l1), (2, .int l2), (3, .int l3)] → W p l e R s m args below meth c H locs cells slots Q (F0 m 2 ls [])) (hrec13 : ∀ (l1 : Int32) (l2 : Int32) (l3 : Int32) (l4 : Int32) (l5 : Int32) (x : St) (H : Heap) (locs : List Loc) (ls : Array Slot), rec13 l1 l2 l3 l4 l5 x → Wd dC dI cI cB cJ cZ ad stM kcM 115 A x H → va_S A s.heap H locs → lv_has ls 7 [(0, .ref (ad 0)), (1, .int l1), (2, .int l2), (3, .int l3), (4, .int l4), (5, .int l5)] → W p l e R s m args below meth c H locs cells slots Q (F0 m 13 ls [])) : ∀ (l1 : Int32) (l2 : Int32) (l3 : Int32) (l4 : Int32) (l5 : Int32) (l6 : Int32) (s0 : Int32) (x : St) (H : Heap) (locs : List Loc) (ls : Array Slot), j_Mod_lookAtGroup_59 post rec2 rec13 l1 l2 l3 l4 l5 l6 s0 x → Wd dC dI cI cB cJ cZ ad stM kcM 115 A x H → va_S A s.heap H locs → lv_has ls 7 [(0, .ref (ad 0)), (1, .int l1), (2, .int l2), (3, .int l3), (4, .int l4), (5, .int l5), (6, .int l6)] → W p l e R s m args below meth c H locs cells slots Q (F0 m 59 ls [.int s0]) := by
  intro l1 l2 l3 l4 l5 l6 s0 x H locs ls  hw hW hS hl
  unfold j_Mod_lookAtGroup_59 at hw
  refine lv_istore (lv' := [(4, .int s0), (0, .ref (ad 0)), (1, .int l1), (2, .int l2), (3, .int l3), (5, .int l5), (6, .int l6)]) hx hb d_Mod_lookAtGroup_59 hl (by decide) rfl (fun ls hl => ?_)
  exact t_Mod_lookAtGroup_61 hx hb hml hown hT hK hN hA hRc hRs hRf hRl hret hrec2 hrec13 l1 l2 l3 s0 l5 x H locs ls  hw hW hS (lv_sub hl [1, 2, 3, 4, 0, 5] rfl)
set_option maxRecDepth 100000 in
set_option maxHeartbeats 4000000 in
set_option maxRecDepth 100000 in
theorem t_Mod_lookAtGroup_13 {p : Program} {l : Launch} {e : Env} {R : Room} {s : State} {m : MethodId} {args : Array Value} {below : List Frame} {meth : Method} {c : Code} {cells slots : Nat} {Q : State → Prop} {dC : Nat → ClassId} {dI : Nat → Nat → Nat} {cI cB cJ cZ : ClassId} {A : Nat → Prop} {ad : Nat → Nat} {post : St → Prop} {rec2 : Int32 → Int32 → Int32 → St → Prop} {rec13 : Int32 → Int32 → Int32 → Int32 → Int32 → St → Prop} (hx : p.tables.exec = Jvm.exec) (hb : c.code = b_Mod_lookAtGroup) (hml : c.maxLocals = 7) (hown : s.vm.findClass R_Mod = some m.cls) (hT : ∀ w ∈ TG, w.before args s = true) (hK : va_K (dC, dI) CL (TY cI cB cJ cZ) s) (hN : NW s) (hA : ∀ q : Nat, s.heap.size ≤ q → A q) (hRc : cells ≤ R.cells) (hRs : slots ≤ R.slots) (hRf : 204 ≤ R.frames) (hRl : 4691 ≤ R.locals) (hret : ∀ (x : St) (H : Heap) (locs : List Loc) (pc : Nat) (ls : Array Slot), decode b_Mod_lookAtGroup pc = .ok (.return_, 1) → post x → Wd dC dI cI cB cJ cZ ad stM kcM 115 A x H → va_S A s.heap H locs → W p l e R s m args below meth c H locs cells slots Q (F0 m pc ls [])) (hrec2 : ∀ (l1 : Int32) (l2 : Int32) (l3 : Int32) (x : St) (H : Heap) (locs : List Loc) (ls : Array Slot), rec2 l1 l2 l3 x → Wd dC dI cI cB cJ cZ ad stM kcM 115 A x H → va_S A s.heap H locs → lv_has ls 7 [(0, .ref (ad 0)), (1, .int l1), (2, .int l2), (3, .int l3)] → W p l e R s m args below meth c H locs cells slots Q (F0 m 2 ls [])) (hrec13 : ∀ (l1 : Int32) (l2 : Int32) (l3 : Int32) (l4 : Int32) (l5 : Int32) (x : St) (H : Heap) (locs : List Loc) (ls : Array Slot), rec13 l1 l2 l3 l4 l5 x → Wd dC dI cI cB cJ cZ ad stM kcM 115 A x H → va_S A s.heap H locs → lv_has ls 7 [(0, .ref (ad 0)), (1, .int l1), (2, .int l2), (3, .int l3), (4, .int l4), (5, .int l5)] → W p l e R s m args below meth c H locs cells slots Q (F0 m 13 ls [])) : ∀ (l1 : Int32) (l2 : Int32) (l3 : Int32) (l4 : Int32) (l5 : Int32) (x : St) (H : Heap) (locs : List Loc) (ls : Array Slot), j_Mod_lookAtGroup_13 post rec2 rec13 l1 l2 l3 l4 l5 x → Wd dC dI cI cB cJ cZ ad stM kcM 115 A x H → va_S A s.heap H locs → lv_has ls 7 [(0, .ref (ad 0)), (1, .int l1), (2, .int l2), (3, .int l3), (4, .int l4), (5, .int l5)] → W p l e R s m args below meth c H locs cells slots Q (F0 m 13 ls []) := by
  intro l1 l2 l3 l4 l5 x H locs ls  hw hW hS hl
  unfold j_Mod_lookAtGroup_13 at hw
  refine lv_iload hx hb d_Mod_lookAtGroup_13 (lv_at hl 5 rfl) ?_
  refine lv_aload_n hx hb d_Mod_lookAtGroup_15 rfl (lv_at hl 0 rfl) ?_
  refine w_getf (q := 10) (k := 12) (t := 12) (C := R_Mod) (T := F_Mod) (N := 167) hx hb hT hown hK hW ko_0.1 ko_0.2 (by decide) in_Mod rfl rfl (by decide) rfl fr_Mod_12 w_8_188 d_Mod_lookAtGroup_16 rfl ?_
  refine lv_iconst (v := 1) hx hb d_Mod_lookAtGroup_19 (by decide) ?_
  obtain ⟨hi, hw⟩ := hw
  refine w_iald (o := 10) hx hb hK hW ko_10.1 ko_10.2 hi d_Mod_lookAtGroup_20 ?_
  refine lv_icmp_ge (tgt := 67) hx hb d_Mod_lookAtGroup_21 (by decide) (fun c2506 => ?_) (fun c2506 => ?_)
  · have hw := hw.1 c2506
    refine lv_aload_n hx hb d_Mod_lookAtGroup_67 rfl (lv_at hl 0 rfl) ?_
    refine lv_iconst (v := (-1)) hx hb d_Mod_lookAtGroup_68 (by decide) ?_
    have hF := hW.free hS hA
    refine va_calli (va_runV (C := R_Mod) (As := [.int (-1)]) (rest := []) ⟨hx, hb, hml, hown, hT⟩ (k_Mod_condition l dC dI cI cB cJ cZ ad H.size (-1) x  hw) ⟨callB_of 1 hT (gwt_in w_13_215) rfl rfl rfl (hT _ w_1_15) (hT _ w_13_212) (by decide +kernel) ⟨Nat.le_trans (Nat.le_of_ble_eq_true rfl) hRf, Nat.le_trans (Nat.le_of_ble_eq_true rfl) hRl⟩, hT _ w_13_214, hT _ ws_255⟩ ⟨PW.blind, va_recv hK hW.1 (ci := 12) (q0 := 0) rfl (pic_obj ko_0.1 ko_0.2 (by decide)), PW.at _ hW hK hN⟩ rfl rfl hl.1 rfl (lv_room (Nat.le_of_ble_eq_true rfl)) d_Mod_lookAtGroup_69 ⟨hRc, hRs⟩) hS (fun q _ h => hF q h) hF (fun r2508 x2507 t H locs ht hvm hw hB hz1 hk1 hS => ?_)
    have hW := Wd.back hB ht hF
    clear hB ht hF hz1 hk1 hvm
    refine lv_iconst (v := 2) hx hb d_Mod_lookAtGroup_72 (by decide) ?_
    refine lv_iand hx hb d_Mod_lookAtGroup_73 ?_
    refine lv_if_le (tgt := 87) hx hb d_Mod_lookAtGroup_74 (by decide) (fun c2509 => ?_) (fun c2509 => ?_)
    · have hw := hw.1 c2509
      refine lv_aload_n hx hb d_Mod_lookAtGroup_87 rfl (lv_at hl 0 rfl) ?_
      refine lv_dup hx hb d_Mod_lookAtGroup_88 rfl ?_
      refine w_geti (k := 166) (t := 12) (C := R_Mod) (T := F_Mod) (N := 167) hx hb hT hown hK hW ko_0.1 ko_0.2 (by decide) in_Mod rfl rfl (by decide) rfl fr_Mod_166 w_9_102 d_Mod_lookAtGroup_89 ?_
      refine lv_iconst (v := 1) hx hb d_Mod_lookAtGroup_92 (by decide) ?_
      refine lv_iadd hx hb d_Mod_lookAtGroup_93 ?_
      refine w_puti (ty := .int) (k := 166) (t := 12) (C := R_Mod) (T := F_Mod) (N := 167) hx hb hT hown hK hW hS ko_0.1 ko_0.2 (by decide) in_Mod t_Mod t_Mod_ok n_Mod rfl rfl (by decide) rfl fr_Mod_166 w_9_102 (by decide +kernel) rfl rfl d_Mod_lookAtGroup_94 (fun H locs hW hS => ?_)
      obtain ⟨x2510, ex2510⟩ : ∃ y : St, y = setI x2507 0 166 ((fI x2507 0 166) + 1) := ⟨_, rfl⟩
      rw [← ex2510] at hW
      have hw := hw x2510 ex2510
      exact t_Mod_lookAtGroup_97 hx hb hml hown hT hK hN hA hRc hRs hRf hRl hret hrec2 l1 l2 l3 l4 l5 x2510 H locs ls  hw hW hS (lv_sub hl [0, 1, 2, 3, 4, 5] rfl)
    · have hw := hw.2 c2509
      refine lv_aload_n hx hb d_Mod_lookAtGroup_77 rfl (lv_at hl 0 rfl) ?_
      refine lv_iload_n hx hb d_Mod_lookAtGroup_78 rfl (lv_at hl 3 rfl) ?_
      refine lv_iload hx hb d_Mod_lookAtGroup_79 (lv_at hl 4 rfl) ?_
      have hF := hW.free hS hA
      refine va_callv (va_runV (C := R_Mod) (As := [.int l3, .int l4]) (rest := []) ⟨hx, hb, hml, hown, hT⟩ (k_Mod_lookAt l dC dI cI cB cJ cZ ad H.size l3 l4 x2507  hw) ⟨callB_of 2 hT (gwt_in w_14_31) rfl rfl rfl (hT _ w_1_15) (hT _ w_14_28) (by decide +kernel) ⟨Nat.le_trans (Nat.le_of_ble_eq_true rfl) hRf, Nat.le_trans (Nat.le_of_ble_eq_true rfl) hRl⟩, hT _ w_14_30, hT _ ws_266⟩ ⟨PW.blind, va_recv hK hW.1 (ci := 12) (q0 := 0) rfl (pic_obj ko_0.1 ko_0.2 (by decide)), PW.at _ hW hK hN⟩ rfl rfl hl.1 rfl (lv_room (Nat.le_of_ble_eq_true rfl)) d_Mod_lookAtGroup_81 ⟨hRc, hRs⟩) hS (fun q _ h => hF q h) hF (fun  x2511 t H locs ht hvm hw hB hz1 hk1 hS => ?_)
      have hW := Wd.back hB ht hF
      clear hB ht hF hz1 hk1 hvm
      refine lv_goto (tgt := 97) hx hb d_Mod_lookAtGroup_84 (by decide) ?_
      exact t_Mod_lookAtGroup_97 hx hb hml hown hT hK hN hA hRc hRs hRf hRl hret hrec2 l1 l2 l3 l4 l5 x2511 H locs ls  hw hW hS (lv_sub hl [0, 1, 2, 3, 4, 5] rfl)
  · have hw := hw.2 c2506
    refine lv_aload_n hx hb d_Mod_lookAtGroup_24 rfl (lv_at hl 0 rfl) ?_
    refine lv_iload hx hb d_Mod_lookAtGroup_25 (lv_at hl 5 rfl) ?_
    have hF := hW.free hS hA
    refine va_calli (va_runV (C := R_Mod) (As := [.int l5]) (rest := []) ⟨hx, hb, hml, hown, hT⟩ (k_Mod_asks l dC dI cI cB cJ cZ ad H.size l5 x  hw) ⟨callB_of 1 hT (gwt_in w_13_207) rfl rfl rfl (hT _ w_1_15) (hT _ w_13_204) (by decide +kernel) ⟨Nat.le_trans (Nat.le_of_ble_eq_true rfl) hRf, Nat.le_trans (Nat.le_of_ble_eq_true rfl) hRl⟩, hT _ w_13_206, hT _ ws_253⟩ ⟨PW.blind, va_recv hK hW.1 (ci := 12) (q0 := 0) rfl (pic_obj ko_0.1 ko_0.2 (by decide)), PW.at _ hW hK hN⟩ rfl rfl hl.1 rfl (lv_room (Nat.le_of_ble_eq_true rfl)) d_Mod_lookAtGroup_27 ⟨hRc, hRs⟩) hS (fun q _ h => hF q h) hF (fun r2513 x2512 t H locs ht hvm hw hB hz1 hk1 hS => ?_)
    have hW := Wd.back hB ht hF
    clear hB ht hF hz1 hk1 hvm
    refine lv_if_ne (tgt := 36) hx hb d_Mod_lookAtGroup_30 (by decide) (fun c2514 => ?_) (fun c2514 => ?_)
    · have hw := hw.1 c2514
      refine lv_aload_n hx hb d_Mod_lookAtGroup_36 rfl (lv_at hl 0 rfl) ?_
      refine lv_iload_n hx hb d_Mod_lookAtGroup_37 rfl (lv_at hl 3 rfl) ?_
      refine lv_iload hx hb d_Mod_lookAtGroup_38 (lv_at hl 5 rfl) ?_
      have hF := hW.free hS hA
      refine va_calli (va_runV (C := R_Mod) (As := [.int l3, .int l5]) (rest := []) ⟨hx, hb, hml, hown, hT⟩ (k_Mod_tellPage l dC dI cI cB cJ cZ ad H.size l3 l5 x2512  hw) ⟨callB_of 2 hT (gwt_in w_14_27) rfl rfl rfl (hT _ w_1_15) (hT _ w_14_24) (by decide +kernel) ⟨Nat.le_trans (Nat.le_of_ble_eq_true rfl) hRf, Nat.le_trans (Nat.le_of_ble_eq_true rfl) hRl⟩, hT _ w_14_26, hT _ ws_265⟩ ⟨PW.blind, va_recv hK hW.1 (ci := 12) (q0 := 0) rfl (pic_obj ko_0.1 ko_0.2 (by decide)), PW.at _ hW hK hN⟩ rfl rfl hl.1 rfl (lv_room (Nat.le_of_ble_eq_true rfl)) d_Mod_lookAtGroup_40 ⟨hRc, hRs⟩) hS (fun q _ h => hF q h) hF (fun r2516 x2515 t H locs ht hvm hw hB hz1 hk1 hS => ?_)
      have hW := Wd.back hB ht hF
      clear hB ht hF hz1 hk1 hvm
      refine lv_istore (lv' := [(6, .int r2516), (0, .ref (ad 0)), (1, .int l1), (2, .int l2), (3, .int l3), (4, .int l4), (5, .int l5)]) hx hb d_Mod_lookAtGroup_43 hl (by decide) rfl (fun ls hl => ?_)
      refine lv_iload hx hb d_Mod_lookAtGroup_45 (lv_at hl 0 rfl) ?_
      refine lv_iload hx hb d_Mod_lookAtGroup_47 (lv_at hl 5 rfl) ?_
      refine lv_icmp_ge (tgt := 57) hx hb d_Mod_lookAtGroup_49 (by decide) (fun c2517 => ?_) (fun c2517 => ?_)
      · have hw := hw.1 c2517
        refine lv_iload hx hb d_Mod_lookAtGroup_57 (lv_at hl 5 rfl) ?_
        exact t_Mod_lookAtGroup_59 hx hb hml hown hT hK hN hA hRc hRs hRf hRl hret hrec2 hrec13 l1 l2 l3 l4 l5 r2516 l4 x2515 H locs ls  hw hW hS (lv_sub hl [1, 2, 3, 4, 5, 6, 0] rfl)
      · have hw := hw.2 c2517
        refine lv_iload hx hb d_Mod_lookAtGroup_52 (lv_at hl 0 rfl) ?_
        refine lv_goto (tgt := 59) hx hb d_Mod_lookAtGroup_54 (by decide) ?_
        exact t_Mod_lookAtGroup_59 hx hb hml hown hT hK hN hA hRc hRs hRf hRl hret hrec2 hrec13 l1 l2 l3 l4 l5 r2516 r2516 x2515 H locs ls  hw hW hS (lv_sub hl [1, 2, 3, 4, 5, 6, 0] rfl)
    · have hw := hw.2 c2514
      refine lv_goto (tgt := 61) hx hb d_Mod_lookAtGroup_33 (by decide) ?_
      exact t_Mod_lookAtGroup_61 hx hb hml hown hT hK hN hA hRc hRs hRf hRl hret hrec2 hrec13 l1 l2 l3 l4 l5 x2512 H locs ls  hw hW hS (lv_sub hl [0, 1, 2, 3, 4, 5] rfl)
set_option maxHeartbeats 4000000 in
set_option maxRecDepth 100000 in
theorem tl_Mod_lookAtGroup_13 {p : Program} {l : Launch} {e : Env} {R : Room} {s : State} {m : MethodId} {args : Array Value} {below : List Frame} {meth : Method} {c : Code} {cells slots : Nat} {Q : State → Prop} {dC : Nat → ClassId} {dI : Nat → Nat → Nat} {cI cB cJ cZ : ClassId} {A : Nat → Prop} {ad : Nat → Nat} {post : St → Prop} {rec2 : Int32 → Int32 → Int32 → St → Prop} (hx : p.tables.exec = Jvm.exec) (hb : c.code = b_Mod_lookAtGroup) (hml : c.maxLocals = 7) (hown : s.vm.findClass R_Mod = some m.cls) (hT : ∀ w ∈ TG, w.before args s = true) (hK : va_K (dC, dI) CL (TY cI cB cJ cZ) s) (hN : NW s) (hA : ∀ q : Nat, s.heap.size ≤ q → A q) (hRc : cells ≤ R.cells) (hRs : slots ≤ R.slots) (hRf : 204 ≤ R.frames) (hRl : 4691 ≤ R.locals) (hret : ∀ (x : St) (H : Heap) (locs : List Loc) (pc : Nat) (ls : Array Slot), decode b_Mod_lookAtGroup pc = .ok (.return_, 1) → post x → Wd dC dI cI cB cJ cZ ad stM kcM 115 A x H → va_S A s.heap H locs → W p l e R s m args below meth c H locs cells slots Q (F0 m pc ls [])) (hrec2 : ∀ (l1 : Int32) (l2 : Int32) (l3 : Int32) (x : St) (H : Heap) (locs : List Loc) (ls : Array Slot), rec2 l1 l2 l3 x → Wd dC dI cI cB cJ cZ ad stM kcM 115 A x H → va_S A s.heap H locs → lv_has ls 7 [(0, .ref (ad 0)), (1, .int l1), (2, .int l2), (3, .int l3)] → W p l e R s m args below meth c H locs cells slots Q (F0 m 2 ls [])) : ∀ n : Nat, ∀ (l1 : Int32) (l2 : Int32) (l3 : Int32) (l4 : Int32) (l5 : Int32) (x : St) (H : Heap) (locs : List Loc) (ls : Array Slot), wl_Mod_lookAtGroup_13 post rec2 n l1 l2 l3 l4 l5 x → Wd dC dI cI cB cJ cZ ad stM kcM 115 A x H → va_S A s.heap H locs → lv_has ls 7 [(0, .ref (ad 0)), (1, .int l1), (2, .int l2), (3, .int l3), (4, .int l4), (5, .int l5)] → W p l e R s m args below meth c H locs cells slots Q (F0 m 13 ls []) := by
  intro n
  induction n with
  | zero => intro l1 l2 l3 l4 l5 x H locs ls  hw; exact hw.elim
  | succ n ih => intro l1 l2 l3 l4 l5 x H locs ls  hw hW hS hl; exact t_Mod_lookAtGroup_13 hx hb hml hown hT hK hN hA hRc hRs hRf hRl hret hrec2 ih l1 l2 l3 l4 l5 x H locs ls  hw hW hS hl
set_option maxRecDepth 100000 in
set_option maxHeartbeats 4000000 in
set_option maxRecDepth 100000 in
theorem t_Mod_lookAtGroup_2 {p : Program} {l : Launch} {e : Env} {R : Room} {s : State} {m : MethodId} {args : Array Value} {below : List Frame} {meth : Method} {c : Code} {cells slots : Nat} {Q : State → Prop} {dC : Nat → ClassId} {dI : Nat → Nat → Nat} {cI cB cJ cZ : ClassId} {A : Nat → Prop} {ad : Nat → Nat} {post : St → Prop} {rec2 : Int32 → Int32 → Int32 → St → Prop} (hx : p.tables.exec = Jvm.exec) (hb : c.code = b_Mod_lookAtGroup) (hml : c.maxLocals = 7) (hown : s.vm.findClass R_Mod = some m.cls) (hT : ∀ w ∈ TG, w.before args s = true) (hK : va_K (dC, dI) CL (TY cI cB cJ cZ) s) (hN : NW s) (hA : ∀ q : Nat, s.heap.size ≤ q → A q) (hRc : cells ≤ R.cells) (hRs : slots ≤ R.slots) (hRf : 204 ≤ R.frames) (hRl : 4691 ≤ R.locals) (hret : ∀ (x : St) (H : Heap) (locs : List Loc) (pc : Nat) (ls : Array Slot), decode b_Mod_lookAtGroup pc = .ok (.return_, 1) → post x → Wd dC dI cI cB cJ cZ ad stM kcM 115 A x H → va_S A s.heap H locs → W p l e R s m args below meth c H locs cells slots Q (F0 m pc ls [])) (hrec2 : ∀ (l1 : Int32) (l2 : Int32) (l3 : Int32) (x : St) (H : Heap) (locs : List Loc) (ls : Array Slot), rec2 l1 l2 l3 x → Wd dC dI cI cB cJ cZ ad stM kcM 115 A x H → va_S A s.heap H locs → lv_has ls 7 [(0, .ref (ad 0)), (1, .int l1), (2, .int l2), (3, .int l3)] → W p l e R s m args below meth c H locs cells slots Q (F0 m 2 ls [])) : ∀ (l1 : Int32) (l2 : Int32) (l3 : Int32) (x : St) (H : Heap) (locs : List Loc) (ls : Array Slot), j_Mod_lookAtGroup_2 post rec2 l1 l2 l3 x → Wd dC dI cI cB cJ cZ ad stM kcM 115 A x H → va_S A s.heap H locs → lv_has ls 7 [(0, .ref (ad 0)), (1, .int l1), (2, .int l2), (3, .int l3)] → W p l e R s m args below meth c H locs cells slots Q (F0 m 2 ls []) := by
  intro l1 l2 l3 x H locs ls  hw hW hS hl
  unfold j_Mod_lookAtGroup_2 at hw
  refine lv_iload_n hx hb d_Mod_lookAtGroup_2 rfl (lv_at hl 3 rfl) ?_
  refine lv_iload_n hx hb d_Mod_lookAtGroup_3 rfl (lv_at hl 2 rfl) ?_
  refine lv_icmp_ge (tgt := 103) hx hb d_Mod_lookAtGroup_4 (by decide) (fun c2518 => ?_) (fun c2518 => ?_)
  · have hw := hw.1 c2518
    exact hret x H locs 103 ls d_Mod_lookAtGroup_103 hw hW hS
  · have hw := hw.2 c2518
    refine lv_iload_n hx hb d_Mod_lookAtGroup_7 rfl (lv_at hl 2 rfl) ?_
    refine lv_istore (lv' := [(4, .int l2), (0, .ref (ad 0)), (1, .int l1), (2, .int l2), (3, .int l3)]) hx hb d_Mod_lookAtGroup_8 hl (by decide) rfl (fun ls hl => ?_)
    refine lv_iconst (v := 0) hx hb d_Mod_lookAtGroup_10 (by decide) ?_
    refine lv_istore (lv' := [(5, .int 0), (4, .int l2), (0, .ref (ad 0)), (1, .int l1), (2, .int l2), (3, .int l3)]) hx hb d_Mod_lookAtGroup_11 hl (by decide) rfl (fun ls hl => ?_)
    obtain ⟨n, hw⟩ := hw
    exact tl_Mod_lookAtGroup_13 hx hb hml hown hT hK hN hA hRc hRs hRf hRl hret hrec2 n l1 l2 l3 l2 0 x H locs ls  hw hW hS (lv_sub hl [2, 3, 4, 5, 1, 0] rfl)
set_option maxHeartbeats 4000000 in
set_option maxRecDepth 100000 in
theorem tl_Mod_lookAtGroup_2 {p : Program} {l : Launch} {e : Env} {R : Room} {s : State} {m : MethodId} {args : Array Value} {below : List Frame} {meth : Method} {c : Code} {cells slots : Nat} {Q : State → Prop} {dC : Nat → ClassId} {dI : Nat → Nat → Nat} {cI cB cJ cZ : ClassId} {A : Nat → Prop} {ad : Nat → Nat} {post : St → Prop} (hx : p.tables.exec = Jvm.exec) (hb : c.code = b_Mod_lookAtGroup) (hml : c.maxLocals = 7) (hown : s.vm.findClass R_Mod = some m.cls) (hT : ∀ w ∈ TG, w.before args s = true) (hK : va_K (dC, dI) CL (TY cI cB cJ cZ) s) (hN : NW s) (hA : ∀ q : Nat, s.heap.size ≤ q → A q) (hRc : cells ≤ R.cells) (hRs : slots ≤ R.slots) (hRf : 204 ≤ R.frames) (hRl : 4691 ≤ R.locals) (hret : ∀ (x : St) (H : Heap) (locs : List Loc) (pc : Nat) (ls : Array Slot), decode b_Mod_lookAtGroup pc = .ok (.return_, 1) → post x → Wd dC dI cI cB cJ cZ ad stM kcM 115 A x H → va_S A s.heap H locs → W p l e R s m args below meth c H locs cells slots Q (F0 m pc ls []))  : ∀ n : Nat, ∀ (l1 : Int32) (l2 : Int32) (l3 : Int32) (x : St) (H : Heap) (locs : List Loc) (ls : Array Slot), wl_Mod_lookAtGroup_2 post n l1 l2 l3 x → Wd dC dI cI cB cJ cZ ad stM kcM 115 A x H → va_S A s.heap H locs → lv_has ls 7 [(0, .ref (ad 0)), (1, .int l1), (2, .int l2), (3, .int l3)] → W p l e R s m args below meth c H locs cells slots Q (F0 m 2 ls []) := by
  intro n
  induction n with
  | zero => intro l1 l2 l3 x H locs ls  hw; exact hw.elim
  | succ n ih => intro l1 l2 l3 x H locs ls  hw hW hS hl; exact t_Mod_lookAtGroup_2 hx hb hml hown hT hK hN hA hRc hRs hRf hRl hret  ih l1 l2 l3 x H locs ls  hw hW hS hl
set_option maxRecDepth 100000 in
set_option maxHeartbeats 4000000 in
set_option maxRecDepth 100000 in
theorem t_Mod_lookAtGroup_e {p : Program} {l : Launch} {e : Env} {R : Room} {s : State} {m : MethodId} {args : Array Value} {below : List Frame} {meth : Method} {c : Code} {cells slots : Nat} {Q : State → Prop} {dC : Nat → ClassId} {dI : Nat → Nat → Nat} {cI cB cJ cZ : ClassId} {A : Nat → Prop} {ad : Nat → Nat} {post : St → Prop} (hx : p.tables.exec = Jvm.exec) (hb : c.code = b_Mod_lookAtGroup) (hml : c.maxLocals = 7) (hown : s.vm.findClass R_Mod = some m.cls) (hT : ∀ w ∈ TG, w.before args s = true) (hK : va_K (dC, dI) CL (TY cI cB cJ cZ) s) (hN : NW s) (hA : ∀ q : Nat, s.heap.size ≤ q → A q) (hRc : cells ≤ R.cells) (hRs : slots ≤ R.slots) (hRf : 204 ≤ R.frames) (hRl : 4691 ≤ R.locals) (hret : ∀ (x : St) (H : Heap) (locs : List Loc) (pc : Nat) (ls : Array Slot), decode b_Mod_lookAtGroup pc = .ok (.return_, 1) → post x → Wd dC dI cI cB cJ cZ ad stM kcM 115 A x H → va_S A s.heap H locs → W p l e R s m args below meth c H locs cells slots Q (F0 m pc ls [])) : ∀ (l1 : Int32) (l2 : Int32) (x : St) (H : Heap) (locs : List Loc) (ls : Array Slot), wp_Mod_lookAtGroup post l1 l2 x → Wd dC dI cI cB cJ cZ ad stM kcM 115 A x H → va_S A s.heap H locs → lv_has ls 7 [(0, .ref (ad 0)), (1, .int l1), (2, .int l2)] → W p l e R s m args below meth c H locs cells slots Q (F0 m 0 ls []) := by
  intro l1 l2 x H locs ls  hw hW hS hl
  unfold wp_Mod_lookAtGroup at hw
  refine lv_iload_n hx hb d_Mod_lookAtGroup_0 rfl (lv_at hl 1 rfl) ?_
  refine lv_istore_n (lv' := [(3, .int l1), (0, .ref (ad 0)), (1, .int l1), (2, .int l2)]) hx hb d_Mod_lookAtGroup_1 rfl hl (by decide) rfl (fun ls hl => ?_)
  obtain ⟨n, hw⟩ := hw
  exact tl_Mod_lookAtGroup_2 hx hb hml hown hT hK hN hA hRc hRs hRf hRl hret  n l1 l2 l1 x H locs ls  hw hW hS (lv_sub hl [1, 2, 3, 0] rfl)
set_option maxHeartbeats 4000000 in
set_option maxRecDepth 100000 in
theorem k_Mod_lookAtGroup (l : Launch) (dC : Nat → ClassId) (dI : Nat → Nat → Nat) (cI cB cJ cZ : ClassId) (ad : Nat → Nat) (sz : Nat) (l1 : Int32) (l2 : Int32) (x : St) {post : St → Prop} (hw : wp_Mod_lookAtGroup post l1 l2 x) : Met l y_Mod_lookAtGroup (wsOf y_Mod_lookAtGroup b_Mod_lookAtGroup 7 (none)) ({ frames := 204, cells := 0, slots := 0, locals := 4691 }) (va_Pc [.ref (ad 0), .int l1, .int l2] (PW dC dI cI cB cJ cZ ad stM kcM 115 sz x)) (va_Qv (fun (y : St) => post y) (fun y t => Wd dC dI cI cB cJ cZ ad stM kcM 115 (va_A (pic ad stM kcM 115 cI cB cJ cZ x) sz) y t.heap) (va_A (pic ad stM kcM 115 cI cB cJ cZ x) sz)) 0 0 (va_A (pic ad stM kcM 115 cI cB cJ cZ x) sz) := by
  refine Met.ofW (cc := b_Mod_lookAtGroup) (maxL := 7) (ret := none) (by decide) rfl ?_
  intro p e s m args below meth c s₁ B hml hv
  obtain ⟨rfl, hsz, hW0, hK, hN⟩ := hv
  have hx := B.exec
  have hb := B.bytes
  have hr := B.returns
  have hts := atoms_spec B.pre
  have hT : ∀ w ∈ TG, w.before _ s = true := fun w h => hts w (List.mem_cons_of_mem _ h)
  have hown : s.vm.findClass R_Mod = some m.cls := findClass_of_methodNamed B.named
  have hlocks := B.notSynchronized
  subst hsz
  have hW : Wd dC dI cI cB cJ cZ ad stM kcM 115 (va_A (pic ad stM kcM 115 cI cB cJ cZ x) s.heap.size) x s.heap := ⟨hW0.1, hW0.2.1.self (sz := s.heap.size), hW0.2.2⟩
  generalize hAe : va_A (pic ad stM kcM 115 cI cB cJ cZ x) s.heap.size = A at hW ⊢
  have hA : ∀ q : Nat, s.heap.size ≤ q → A q := fun q h => by rw [← hAe]; exact Or.inr h
  have hS : va_S A s.heap s.heap [] := va_S.rf
  have hl := lv_entry ([.ref (ad 0), .int l1, .int l2]) (n := 7) (Nat.le_of_ble_eq_true rfl)
  rw [lg_entry_eq]
  generalize (lg_sl ([.ref (ad 0), .int l1, .int l2]) ++ List.replicate (7 - (lg_sl ([.ref (ad 0), .int l1, .int l2])).length) Slot.unset).toArray = ls at hl ⊢
  have hl : lv_has ls 7 [(0, .ref (ad 0)), (1, .int l1), (2, .int l2)] := hl
  exact t_Mod_lookAtGroup_e hx hb hml hown hT hK hN hA (Nat.le_refl 0) (Nat.le_refl 0) (Nat.le_refl 204) (Nat.le_refl 4691) (fun x H locs pc ls hd hp hW hS => W.vret hx hb hr (fun t ht hM => ⟨⟨x, rfl, hp, Wd.back hW ht.symm (fun _ z => z)⟩, hS.F ht⟩) hS.2.2 hd hlocks)  l1 l2 x _ _ ls  hw hW hS hl
set_option maxRecDepth 100000 in
set_option maxHeartbeats 4000000 in
set_option maxRecDepth 100000 in
theorem t_Mod_lookAtAll_200 {p : Program} {l : Launch} {e : Env} {R : Room} {s : State} {m : MethodId} {args : Array Value} {below : List Frame} {meth : Method} {c : Code} {cells slots : Nat} {Q : State → Prop} {dC : Nat → ClassId} {dI : Nat → Nat → Nat} {cI cB cJ cZ : ClassId} {A : Nat → Prop} {ad : Nat → Nat} {post : St → Prop} {rec19 : Int32 → Int32 → St → Prop} (hx : p.tables.exec = Jvm.exec) (hb : c.code = b_Mod_lookAtAll) (hml : c.maxLocals = 6) (hown : s.vm.findClass R_Mod = some m.cls) (hT : ∀ w ∈ TG, w.before args s = true) (hK : va_K (dC, dI) CL (TY cI cB cJ cZ) s) (hN : NW s) (hA : ∀ q : Nat, s.heap.size ≤ q → A q) (hRc : cells ≤ R.cells) (hRs : slots ≤ R.slots) (hRf : 205 ≤ R.frames) (hRl : 4717 ≤ R.locals) (hret : ∀ (x : St) (H : Heap) (locs : List Loc) (pc : Nat) (ls : Array Slot), decode b_Mod_lookAtAll pc = .ok (.return_, 1) → post x → Wd dC dI cI cB cJ cZ ad stM kcM 115 A x H → va_S A s.heap H locs → W p l e R s m args below meth c H locs cells slots Q (F0 m pc ls [])) (hrec19 : ∀ (l1 : Int32) (l2 : Int32) (x : St) (H : Heap) (locs : List Loc) (ls : Array Slot), rec19 l1 l2 x → Wd dC dI cI cB cJ cZ ad stM kcM 115 A x H → va_S A s.heap H locs → lv_has ls 6 [(0, .ref (ad 0)), (1, .int l1), (2, .int l2)] → W p l e R s m args below meth c H locs cells slots Q (F0 m 19 ls [])) : ∀ (l1 : Int32) (l2 : Int32) (l3 : Int32) (l4 : Int32) (l5 : Int32) (x : St) (H : Heap) (locs : List Loc) (ls : Array Slot), j_Mod_lookAtAll_200 post rec19 l1 l2 l3 l4 l5 x → Wd dC dI cI cB cJ cZ ad stM kcM 115 A x H → va_S A s.heap H locs → lv_has ls 6 [(0, .ref (ad 0)), (1, .int l1), (2, .int l2), (3, .int l3), (4, .int l4), (5, .int l5)] → W p l e R s m args below meth c H locs cells slots Q (F0 m 200 ls []) := by
  intro l1 l2 l3 l4 l5 x H locs ls  hw hW hS hl
  unfold j_Mod_lookAtAll_200 at hw
  refine lv_iload_n hx hb d_Mod_lookAtAll_200 rfl (lv_at hl 3 rfl) ?_
  refine lv_istore_n (lv' := [(1, .int l3), (0, .ref (ad 0)), (2, .int l2), (3, .int l3), (4, .int l4), (5, .int l5)]) hx hb d_Mod_lookAtAll_201 rfl hl (by decide) rfl (fun ls hl => ?_)
  refine lv_iinc (v := (l2 + 1)) (lv' := [(2, .int (l2 + 1)), (1, .int l3), (0, .ref (ad 0)), (3, .int l3), (4, .int l4), (5, .int l5)]) hx hb d_Mod_lookAtAll_202 hl (k := 2) rfl rfl (by decide) rfl (fun ls hl => ?_)
  refine lv_goto (tgt := 19) hx hb d_Mod_lookAtAll_205 (by decide) ?_
  exact hrec19 l3 (l2 + 1) x H locs ls  hw hW hS (lv_sub hl [2, 1, 0] rfl)
set_option maxRecDepth 100000 in
set_option maxHeartbeats 4000000 in
set_option maxRecDepth 100000 in
theorem t_Mod_lookAtAll_151 {p : Program} {l : Launch} {e : Env} {R : Room} {s : State} {m : MethodId} {args : Array Value} {below : List Frame} {meth : Method} {c : Code} {cells slots : Nat} {Q : State → Prop} {dC : Nat → ClassId} {dI : Nat → Nat → Nat} {cI cB cJ cZ : ClassId} {A : Nat → Prop} {ad : Nat → Nat} {post : St → Prop} {rec19 : Int32 → Int32 → St → Prop} {rec151 : Int32 → Int32 → Int32 → Int32 → Int32 → St → Prop} (hx : p.tables.exec = Jvm.exec) (hb : c.code = b_Mod_lookAtAll) (hml : c.maxLocals = 6) (hown : s.vm.findClass R_Mod = some m.cls) (hT : ∀ w ∈ TG, w.before args s = true) (hK : va_K (dC, dI) CL (TY cI cB cJ cZ) s) (hN : NW s) (hA : ∀ q : Nat, s.heap.size ≤ q → A q) (hRc : cells ≤ R.cells) (hRs : slots ≤ R.slots) (hRf : 205 ≤ R.frames) (hRl : 4717 ≤ R.locals) (hret : ∀ (x : St) (H : Heap) (locs : List Loc) (pc : Nat) (ls : Array Slot), decode b_Mod_lookAtAll pc = .ok (.return_, 1) → post x → Wd dC dI cI cB cJ cZ ad stM kcM 115 A x H → va_S A s.heap H locs → W p l e R s m args below meth c H locs cells slots Q (F0 m pc ls [])) (hrec19 : ∀ (l1 : Int32) (l2 : Int32) (x : St) (H : Heap) (locs : List Loc) (ls : Array Slot), rec19 l1 l2 x → Wd dC dI cI cB cJ cZ ad stM kcM 115 A x H → va_S A s.heap H locs → lv_has ls 6 [(0, .ref (ad 0)), (1, .int l1), (2, .int l2)] → W p l e R s m args below meth c H locs cells slots Q (F0 m 19 ls [])) (hrec151 : ∀ (l1 : Int32) (l2 : Int32) (l3 : Int32) (l4 : Int32) (l5 : Int32) (x : St) (H : Heap) (locs : List Loc) (ls : Array Slot), rec151 l1 l2 l3 l4 l5 x → Wd dC dI cI cB cJ cZ ad stM kcM 115 A x H → va_S A s.heap H locs → lv_has ls 6 [(0, .ref (ad 0)), (1, .int l1), (2, .int l2), (3, .int l3), (4, .int l4), (5, .int l5)] → W p l e R s m args below meth c H locs cells slots Q (F0 m 151 ls [])) : ∀ (l1 : Int32) (l2 : Int32) (l3 : Int32) (l4 : Int32) (l5 : Int32) (x : St) (H : Heap) (locs : List Loc) (ls : Array Slot), j_Mod_lookAtAll_151 post rec19 rec151 l1 l2 l3 l4 l5 x → Wd dC dI cI cB cJ cZ ad stM kcM 115 A x H → va_S A s.heap H locs → lv_has ls 6 [(0, .ref (ad 0)), (1, .int l1), (2, .int l2), (3, .int l3), (4, .int l4), (5, .int l5)] → W p l e R s m args below meth c H locs cells slots Q (F0 m 151 ls []) := by
  intro l1 l2 l3 l4 l5 x H locs ls  hw hW hS hl
  unfold j_Mod_lookAtAll_151 at hw
  refine lv_iload hx hb d_Mod_lookAtAll_151 (lv_at hl 5 rfl) ?_
  refine lv_iload_n hx hb d_Mod_lookAtAll_153 rfl (lv_at hl 3 rfl) ?_
  refine lv_icmp_ge (tgt := 200) hx hb d_Mod_lookAtAll_154 (by decide) (fun c2519 => ?_) (fun c2519 => ?_)
  · have hw := hw.1 c2519
    exact t_Mod_lookAtAll_200 hx hb hml hown hT hK hN hA hRc hRs hRf hRl hret hrec19 l1 l2 l3 l4 l5 x H locs ls  hw hW hS (lv_sub hl [0, 1, 2, 3, 4, 5] rfl)
  · have hw := hw.2 c2519
    refine lv_aload_n hx hb d_Mod_lookAtAll_157 rfl (lv_at hl 0 rfl) ?_
    refine w_getf (q := 79) (k := 122) (t := 12) (C := R_Mod) (T := F_Mod) (N := 167) hx hb hT hown hK hW ko_0.1 ko_0.2 (by decide) in_Mod rfl rfl (by decide) rfl fr_Mod_122 w_9_58 d_Mod_lookAtAll_158 rfl ?_
    refine lv_iconst (v := 4) hx hb d_Mod_lookAtAll_161 (by decide) ?_
    refine lv_aload_n hx hb d_Mod_lookAtAll_162 rfl (lv_at hl 0 rfl) ?_
    refine w_geti (k := 117) (t := 12) (C := R_Mod) (T := F_Mod) (N := 167) hx hb hT hown hK hW ko_0.1 ko_0.2 (by decide) in_Mod rfl rfl (by decide) rfl fr_Mod_117 w_9_53 d_Mod_lookAtAll_163 ?_
    refine lv_imul hx hb d_Mod_lookAtAll_166 ?_
    refine lv_iconst (v := 2) hx hb d_Mod_lookAtAll_167 (by decide) ?_
    refine lv_iadd hx hb d_Mod_lookAtAll_168 ?_
    obtain ⟨hi, hw⟩ := hw
    refine w_iald (o := 79) hx hb hK hW ko_79.1 ko_79.2 hi d_Mod_lookAtAll_169 ?_
    refine lv_if_ne (tgt := 200) hx hb d_Mod_lookAtAll_170 (by decide) (fun c2520 => ?_) (fun c2520 => ?_)
    · have hw := hw.1 c2520
      exact t_Mod_lookAtAll_200 hx hb hml hown hT hK hN hA hRc hRs hRf hRl hret hrec19 l1 l2 l3 l4 l5 x H locs ls  hw hW hS (lv_sub hl [0, 1, 2, 3, 4, 5] rfl)
    · have hw := hw.2 c2520
      refine lv_aload_n hx hb d_Mod_lookAtAll_173 rfl (lv_at hl 0 rfl) ?_
      refine w_getf (q := 103) (k := 148) (t := 12) (C := R_Mod) (T := F_Mod) (N := 167) hx hb hT hown hK hW ko_0.1 ko_0.2 (by decide) in_Mod rfl rfl (by decide) rfl fr_Mod_148 w_9_84 d_Mod_lookAtAll_174 rfl ?_
      refine lv_aload_n hx hb d_Mod_lookAtAll_177 rfl (lv_at hl 0 rfl) ?_
      refine w_geti (k := 160) (t := 12) (C := R_Mod) (T := F_Mod) (N := 167) hx hb hT hown hK hW ko_0.1 ko_0.2 (by decide) in_Mod rfl rfl (by decide) rfl fr_Mod_160 w_9_96 d_Mod_lookAtAll_178 ?_
      refine lv_iload hx hb d_Mod_lookAtAll_181 (lv_at hl 5 rfl) ?_
      obtain ⟨hi, hw⟩ := hw
      refine w_iast (o := 103) hx hb hK hW hS ko_103.1 ko_103.2 hi d_Mod_lookAtAll_183 (fun H locs hW hS => ?_)
      obtain ⟨x2521, ex2521⟩ : ∃ y : St, y = setA x 103 (fI x 0 160) l5 := ⟨_, rfl⟩
      rw [← ex2521] at hW
      have hw := hw x2521 ex2521
      refine lv_aload_n hx hb d_Mod_lookAtAll_184 rfl (lv_at hl 0 rfl) ?_
      refine lv_dup hx hb d_Mod_lookAtAll_185 rfl ?_
      refine w_geti (k := 160) (t := 12) (C := R_Mod) (T := F_Mod) (N := 167) hx hb hT hown hK hW ko_0.1 ko_0.2 (by decide) in_Mod rfl rfl (by decide) rfl fr_Mod_160 w_9_96 d_Mod_lookAtAll_186 ?_
      refine lv_iconst (v := 1) hx hb d_Mod_lookAtAll_189 (by decide) ?_
      refine lv_iadd hx hb d_Mod_lookAtAll_190 ?_
      refine w_puti (ty := .int) (k := 160) (t := 12) (C := R_Mod) (T := F_Mod) (N := 167) hx hb hT hown hK hW hS ko_0.1 ko_0.2 (by decide) in_Mod t_Mod t_Mod_ok n_Mod rfl rfl (by decide) rfl fr_Mod_160 w_9_96 (by decide +kernel) rfl rfl d_Mod_lookAtAll_191 (fun H locs hW hS => ?_)
      obtain ⟨x2522, ex2522⟩ : ∃ y : St, y = setI x2521 0 160 ((fI x2521 0 160) + 1) := ⟨_, rfl⟩
      rw [← ex2522] at hW
      have hw := hw x2522 ex2522
      refine lv_iinc (v := (l5 + 1)) (lv' := [(5, .int (l5 + 1)), (0, .ref (ad 0)), (1, .int l1), (2, .int l2), (3, .int l3), (4, .int l4)]) hx hb d_Mod_lookAtAll_194 hl (k := 5) rfl rfl (by decide) rfl (fun ls hl => ?_)
      refine lv_goto (tgt := 151) hx hb d_Mod_lookAtAll_197 (by decide) ?_
      exact hrec151 l1 l2 l3 l4 (l5 + 1) x2522 H locs ls  hw hW hS (lv_sub hl [1, 2, 3, 4, 5, 0] rfl)
set_option maxHeartbeats 4000000 in
set_option maxRecDepth 100000 in
theorem tl_Mod_lookAtAll_151 {p : Program} {l : Launch} {e : Env} {R : Room} {s : State} {m : MethodId} {args : Array Value} {below : List Frame} {meth : Method} {c : Code} {cells slots : Nat} {Q : State → Prop} {dC : Nat → ClassId} {dI : Nat → Nat → Nat} {cI cB cJ cZ : ClassId} {A : Nat → Prop} {ad : Nat → Nat} {post : St → Prop} {rec19 : Int32 → Int32 → St → Prop} (hx : p.tables.exec = Jvm.exec) (hb : c.code = b_Mod_lookAtAll) (hml : c.maxLocals = 6) (hown : s.vm.findClass R_Mod = some m.cls) (hT : ∀ w ∈ TG, w.before args s = true) (hK : va_K (dC, dI) CL (TY cI cB cJ cZ) s) (hN : NW s) (hA : ∀ q : Nat, s.heap.size ≤ q → A q) (hRc : cells ≤ R.cells) (hRs : slots ≤ R.slots) (hRf : 205 ≤ R.frames) (hRl : 4717 ≤ R.locals) (hret : ∀ (x : St) (H : Heap) (locs : List Loc) (pc : Nat) (ls : Array Slot), decode b_Mod_lookAtAll pc = .ok (.return_, 1) → post x → Wd dC dI cI cB cJ cZ ad stM kcM 115 A x H → va_S A s.heap H locs → W p l e R s m args below meth c H locs cells slots Q (F0 m pc ls [])) (hrec19 : ∀ (l1 : Int32) (l2 : Int32) (x : St) (H : Heap) (locs : List Loc) (ls : Array Slot), rec19 l1 l2 x → Wd dC dI cI cB cJ cZ ad stM kcM 115 A x H → va_S A s.heap H locs → lv_has ls 6 [(0, .ref (ad 0)), (1, .int l1), (2, .int l2)] → W p l e R s m args below meth c H locs cells slots Q (F0 m 19 ls [])) : ∀ n : Nat, ∀ (l1 : Int32) (l2 : Int32) (l3 : Int32) (l4 : Int32) (l5 : Int32) (x : St) (H : Heap) (locs : List Loc) (ls : Array Slot), wl_Mod_lookAtAll_151 post rec19 n l1 l2 l3 l4 l5 x → Wd dC dI cI cB cJ cZ ad stM kcM 115 A x H → va_S A s.heap H locs → lv_has ls 6 [(0, .ref (ad 0)), (1, .int l1), (2, .int l2), (3, .int l3), (4, .int l4), (5, .int l5)] → W p l e R s m args below meth c H locs cells slots Q (F0 m 151 ls []) := by
  intro n
  induction n with
  | zero => intro l1 l2 l3 l4 l5 x H locs ls  hw; exact hw.elim
  | succ n ih => intro l1 l2 l3 l4 l5 x H locs ls  hw hW hS hl; exact t_Mod_lookAtAll_151 hx hb hml hown hT hK hN hA hRc hRs hRf hRl hret hrec19 ih l1 l2 l3 l4 l5 x H locs ls  hw hW hS hl
set_option maxRecDepth 100000 in
set_option maxHeartbeats 4000000 in
set_option maxRecDepth 100000 in
theorem t_Mod_lookAtAll_148 {p : Program} {l : Launch} {e : Env} {R : Room} {s : State} {m : MethodId} {args : Array Value} {below : List Frame} {meth : Method} {c : Code} {cells slots : Nat} {Q : State → Prop} {dC : Nat → ClassId} {dI : Nat → Nat → Nat} {cI cB cJ cZ : ClassId} {A : Nat → Prop} {ad : Nat → Nat} {post : St → Prop} {rec19 : Int32 → Int32 → St → Prop} (hx : p.tables.exec = Jvm.exec) (hb : c.code = b_Mod_lookAtAll) (hml : c.maxLocals = 6) (hown : s.vm.findClass R_Mod = some m.cls) (hT : ∀ w ∈ TG, w.before args s = true) (hK : va_K (dC, dI) CL (TY cI cB cJ cZ) s) (hN : NW s) (hA : ∀ q : Nat, s.heap.size ≤ q → A q) (hRc : cells ≤ R.cells) (hRs : slots ≤ R.slots) (hRf : 205 ≤ R.frames) (hRl : 4717 ≤ R.locals) (hret : ∀ (x : St) (H : Heap) (locs : List Loc) (pc : Nat) (ls : Array Slot), decode b_Mod_lookAtAll pc = .ok (.return_, 1) → post x → Wd dC dI cI cB cJ cZ ad stM kcM 115 A x H → va_S A s.heap H locs → W p l e R s m args below meth c H locs cells slots Q (F0 m pc ls [])) (hrec19 : ∀ (l1 : Int32) (l2 : Int32) (x : St) (H : Heap) (locs : List Loc) (ls : Array Slot), rec19 l1 l2 x → Wd dC dI cI cB cJ cZ ad stM kcM 115 A x H → va_S A s.heap H locs → lv_has ls 6 [(0, .ref (ad 0)), (1, .int l1), (2, .int l2)] → W p l e R s m args below meth c H locs cells slots Q (F0 m 19 ls [])) : ∀ (l1 : Int32) (l2 : Int32) (l3 : Int32) (l4 : Int32) (x : St) (H : Heap) (locs : List Loc) (ls : Array Slot), j_Mod_lookAtAll_148 post rec19 l1 l2 l3 l4 x → Wd dC dI cI cB cJ cZ ad stM kcM 115 A x H → va_S A s.heap H locs → lv_has ls 6 [(0, .ref (ad 0)), (1, .int l1), (2, .int l2), (3, .int l3), (4, .int l4)] → W p l e R s m args below meth c H locs cells slots Q (F0 m 148 ls []) := by
  intro l1 l2 l3 l4 x H locs ls  hw hW hS hl
  unfold j_Mod_lookAtAll_148 at hw
  refine lv_iload_n hx hb d_Mod_lookAtAll_148 rfl (lv_at hl 1 rfl) ?_
  refine lv_istore (lv' := [(5, .int l1), (0, .ref (ad 0)), (1, .int l1), (2, .int l2), (3, .int l3), (4, .int l4)]) hx hb d_Mod_lookAtAll_149 hl (by decide) rfl (fun ls hl => ?_)
  obtain ⟨n, hw⟩ := hw
  exact tl_Mod_lookAtAll_151 hx hb hml hown hT hK hN hA hRc hRs hRf hRl hret hrec19 n l1 l2 l3 l4 l1 x H locs ls  hw hW hS (lv_sub hl [1, 2, 3, 4, 5, 0] rfl)
set_option maxRecDepth 100000 in
set_option maxHeartbeats 4000000 in
set_option maxRecDepth 100000 in
theorem t_Mod_lookAtAll_108 {p : Program} {l : Launch} {e : Env} {R : Room} {s : State} {m : MethodId} {args : Array Value} {below : List Frame} {meth : Method} {c : Code} {cells slots : Nat} {Q : State → Prop} {dC : Nat → ClassId} {dI : Nat → Nat → Nat} {cI cB cJ cZ : ClassId} {A : Nat → Prop} {ad : Nat → Nat} {post : St → Prop} {rec19 : Int32 → Int32 → St → Prop} (hx : p.tables.exec = Jvm.exec) (hb : c.code = b_Mod_lookAtAll) (hml : c.maxLocals = 6) (hown : s.vm.findClass R_Mod = some m.cls) (hT : ∀ w ∈ TG, w.before args s = true) (hK : va_K (dC, dI) CL (TY cI cB cJ cZ) s) (hN : NW s) (hA : ∀ q : Nat, s.heap.size ≤ q → A q) (hRc : cells ≤ R.cells) (hRs : slots ≤ R.slots) (hRf : 205 ≤ R.frames) (hRl : 4717 ≤ R.locals) (hret : ∀ (x : St) (H : Heap) (locs : List Loc) (pc : Nat) (ls : Array Slot), decode b_Mod_lookAtAll pc = .ok (.return_, 1) → post x → Wd dC dI cI cB cJ cZ ad stM kcM 115 A x H → va_S A s.heap H locs → W p l e R s m args below meth c H locs cells slots Q (F0 m pc ls [])) (hrec19 : ∀ (l1 : Int32) (l2 : Int32) (x : St) (H : Heap) (locs : List Loc) (ls : Array Slot), rec19 l1 l2 x → Wd dC dI cI cB cJ cZ ad stM kcM 115 A x H → va_S A s.heap H locs → lv_has ls 6 [(0, .ref (ad 0)), (1, .int l1), (2, .int l2)] → W p l e R s m args below meth c H locs cells slots Q (F0 m 19 ls [])) : ∀ (l1 : Int32) (l2 : Int32) (l3 : Int32) (l4 : Int32) (x : St) (H : Heap) (locs : List Loc) (ls : Array Slot), j_Mod_lookAtAll_108 post rec19 l1 l2 l3 l4 x → Wd dC dI cI cB cJ cZ ad stM kcM 115 A x H → va_S A s.heap H locs → lv_has ls 6 [(0, .ref (ad 0)), (1, .int l1), (2, .int l2), (3, .int l3), (4, .int l4)] → W p l e R s m args below meth c H locs cells slots Q (F0 m 108 ls []) := by
  intro l1 l2 l3 l4 x H locs ls  hw hW hS hl
  unfold j_Mod_lookAtAll_108 at hw
  refine lv_iload hx hb d_Mod_lookAtAll_108 (lv_at hl 4 rfl) ?_
  refine lv_if_ne (tgt := 126) hx hb d_Mod_lookAtAll_110 (by decide) (fun c2523 => ?_) (fun c2523 => ?_)
  · have hw := hw.1 c2523
    refine lv_aload_n hx hb d_Mod_lookAtAll_126 rfl (lv_at hl 0 rfl) ?_
    refine w_getf (q := 79) (k := 122) (t := 12) (C := R_Mod) (T := F_Mod) (N := 167) hx hb hT hown hK hW ko_0.1 ko_0.2 (by decide) in_Mod rfl rfl (by decide) rfl fr_Mod_122 w_9_58 d_Mod_lookAtAll_127 rfl ?_
    refine lv_iconst (v := 4) hx hb d_Mod_lookAtAll_130 (by decide) ?_
    refine lv_aload_n hx hb d_Mod_lookAtAll_131 rfl (lv_at hl 0 rfl) ?_
    refine w_geti (k := 117) (t := 12) (C := R_Mod) (T := F_Mod) (N := 167) hx hb hT hown hK hW ko_0.1 ko_0.2 (by decide) in_Mod rfl rfl (by decide) rfl fr_Mod_117 w_9_53 d_Mod_lookAtAll_132 ?_
    refine lv_imul hx hb d_Mod_lookAtAll_135 ?_
    refine lv_iconst (v := 2) hx hb d_Mod_lookAtAll_136 (by decide) ?_
    refine lv_iadd hx hb d_Mod_lookAtAll_137 ?_
    obtain ⟨hi, hw⟩ := hw
    refine w_iald (o := 79) hx hb hK hW ko_79.1 ko_79.2 hi d_Mod_lookAtAll_138 ?_
    refine lv_if_le (tgt := 148) hx hb d_Mod_lookAtAll_139 (by decide) (fun c2524 => ?_) (fun c2524 => ?_)
    · have hw := hw.1 c2524
      exact t_Mod_lookAtAll_148 hx hb hml hown hT hK hN hA hRc hRs hRf hRl hret hrec19 l1 l2 l3 l4 x H locs ls  hw hW hS (lv_sub hl [0, 1, 2, 3, 4] rfl)
    · have hw := hw.2 c2524
      refine lv_aload_n hx hb d_Mod_lookAtAll_142 rfl (lv_at hl 0 rfl) ?_
      refine lv_iload_n hx hb d_Mod_lookAtAll_143 rfl (lv_at hl 1 rfl) ?_
      refine lv_iload_n hx hb d_Mod_lookAtAll_144 rfl (lv_at hl 3 rfl) ?_
      have hF := hW.free hS hA
      refine va_callv (va_runV (C := R_Mod) (As := [.int l1, .int l3]) (rest := []) ⟨hx, hb, hml, hown, hT⟩ (k_Mod_lookAtGroup l dC dI cI cB cJ cZ ad H.size l1 l3 x  hw) ⟨callB_of 2 hT (gwt_in w_14_23) rfl rfl rfl (hT _ w_1_15) (hT _ w_14_20) (by decide +kernel) ⟨Nat.le_trans (Nat.le_of_ble_eq_true rfl) hRf, Nat.le_trans (Nat.le_of_ble_eq_true rfl) hRl⟩, hT _ w_14_22, hT _ ws_264⟩ ⟨PW.blind, va_recv hK hW.1 (ci := 12) (q0 := 0) rfl (pic_obj ko_0.1 ko_0.2 (by decide)), PW.at _ hW hK hN⟩ rfl rfl hl.1 rfl (lv_room (Nat.le_of_ble_eq_true rfl)) d_Mod_lookAtAll_145 ⟨hRc, hRs⟩) hS (fun q _ h => hF q h) hF (fun  x2525 t H locs ht hvm hw hB hz1 hk1 hS => ?_)
      have hW := Wd.back hB ht hF
      clear hB ht hF hz1 hk1 hvm
      exact t_Mod_lookAtAll_148 hx hb hml hown hT hK hN hA hRc hRs hRf hRl hret hrec19 l1 l2 l3 l4 x2525 H locs ls  hw hW hS (lv_sub hl [0, 1, 2, 3, 4] rfl)
  · have hw := hw.2 c2523
    refine lv_aload_n hx hb d_Mod_lookAtAll_113 rfl (lv_at hl 0 rfl) ?_
    refine lv_dup hx hb d_Mod_lookAtAll_114 rfl ?_
    refine w_geti (k := 165) (t := 12) (C := R_Mod) (T := F_Mod) (N := 167) hx hb hT hown hK hW ko_0.1 ko_0.2 (by decide) in_Mod rfl rfl (by decide) rfl fr_Mod_165 w_9_101 d_Mod_lookAtAll_115 ?_
    refine lv_iconst (v := 1) hx hb d_Mod_lookAtAll_118 (by decide) ?_
    refine lv_iadd hx hb d_Mod_lookAtAll_119 ?_
    refine w_puti (ty := .int) (k := 165) (t := 12) (C := R_Mod) (T := F_Mod) (N := 167) hx hb hT hown hK hW hS ko_0.1 ko_0.2 (by decide) in_Mod t_Mod t_Mod_ok n_Mod rfl rfl (by decide) rfl fr_Mod_165 w_9_101 (by decide +kernel) rfl rfl d_Mod_lookAtAll_120 (fun H locs hW hS => ?_)
    obtain ⟨x2526, ex2526⟩ : ∃ y : St, y = setI x 0 165 ((fI x 0 165) + 1) := ⟨_, rfl⟩
    rw [← ex2526] at hW
    have hw := hw x2526 ex2526
    refine lv_goto (tgt := 148) hx hb d_Mod_lookAtAll_123 (by decide) ?_
    exact t_Mod_lookAtAll_148 hx hb hml hown hT hK hN hA hRc hRs hRf hRl hret hrec19 l1 l2 l3 l4 x2526 H locs ls  hw hW hS (lv_sub hl [0, 1, 2, 3, 4] rfl)
set_option maxRecDepth 100000 in
set_option maxHeartbeats 4000000 in
set_option maxRecDepth 100000 in
theorem t_Mod_lookAtAll_106 {p : Program} {l : Launch} {e : Env} {R : Room} {s : State} {m : MethodId} {args : Array Value} {below : List Frame} {meth : Method} {c : Code} {cells slots : Nat} {Q : State → Prop} {dC : Nat → ClassId} {dI : Nat → Nat → Nat} {cI cB cJ cZ : ClassId} {A : Nat → Prop} {ad : Nat → Nat} {post : St → Prop} {rec19 : Int32 → Int32 → St → Prop} (hx : p.tables.exec = Jvm.exec) (hb : c.code = b_Mod_lookAtAll) (hml : c.maxLocals = 6) (hown : s.vm.findClass R_Mod = some m.cls) (hT : ∀ w ∈ TG, w.before args s = true) (hK : va_K (dC, dI) CL (TY cI cB cJ cZ) s) (hN : NW s) (hA : ∀ q : Nat, s.heap.size ≤ q → A q) (hRc : cells ≤ R.cells) (hRs : slots ≤ R.slots) (hRf : 205 ≤ R.frames) (hRl : 4717 ≤ R.locals) (hret : ∀ (x : St) (H : Heap) (locs : List Loc) (pc : Nat) (ls : Array Slot), decode b_Mod_lookAtAll pc = .ok (.return_, 1) → post x → Wd dC dI cI cB cJ cZ ad stM kcM 115 A x H → va_S A s.heap H locs → W p l e R s m args below meth c H locs cells slots Q (F0 m pc ls [])) (hrec19 : ∀ (l1 : Int32) (l2 : Int32) (x : St) (H : Heap) (locs : List Loc) (ls : Array Slot), rec19 l1 l2 x → Wd dC dI cI cB cJ cZ ad stM kcM 115 A x H → va_S A s.heap H locs → lv_has ls 6 [(0, .ref (ad 0)), (1, .int l1), (2, .int l2)] → W p l e R s m args below meth c H locs cells slots Q (F0 m 19 ls [])) : ∀ (l1 : Int32) (l2 : Int32) (l3 : Int32) (l4 : Int32) (l5 : Int32) (s0 : Int32) (x : St) (H : Heap) (locs : List Loc) (ls : Array Slot), j_Mod_lookAtAll_106 post rec19 l1 l2 l3 l4 l5 s0 x → Wd dC dI cI cB cJ cZ ad stM kcM 115 A x H → va_S A s.heap H locs → lv_has ls 6 [(0, .ref (ad 0)), (1, .int l1), (2, .int l2), (3, .int l3), (4, .int l4), (5, .int l5)] → W p l e R s m args below meth c H locs cells slots Q (F0 m 106 ls [.int s0]) := by
  intro l1 l2 l3 l4 l5 s0 x H locs ls  hw hW hS hl
  unfold j_Mod_lookAtAll_106 at hw
  refine lv_istore (lv' := [(4, .int s0), (0, .ref (ad 0)), (1, .int l1), (2, .int l2), (3, .int l3), (5, .int l5)]) hx hb d_Mod_lookAtAll_106 hl (by decide) rfl (fun ls hl => ?_)
  exact t_Mod_lookAtAll_108 hx hb hml hown hT hK hN hA hRc hRs hRf hRl hret hrec19 l1 l2 l3 s0 x H locs ls  hw hW hS (lv_sub hl [1, 2, 3, 4, 0] rfl)
set_option maxRecDepth 100000 in
set_option maxHeartbeats 4000000 in
set_option maxRecDepth 100000 in
theorem t_Mod_lookAtAll_85 {p : Program} {l : Launch} {e : Env} {R : Room} {s : State} {m : MethodId} {args : Array Value} {below : List Frame} {meth : Method} {c : Code} {cells slots : Nat} {Q : State → Prop} {dC : Nat → ClassId} {dI : Nat → Nat → Nat} {cI cB cJ cZ : ClassId} {A : Nat → Prop} {ad : Nat → Nat} {post : St → Prop} {rec19 : Int32 → Int32 → St → Prop} {rec58 : Int32 → Int32 → Int32 → Int32 → Int32 → St → Prop} (hx : p.tables.exec = Jvm.exec) (hb : c.code = b_Mod_lookAtAll) (hml : c.maxLocals = 6) (hown : s.vm.findClass R_Mod = some m.cls) (hT : ∀ w ∈ TG, w.before args s = true) (hK : va_K (dC, dI) CL (TY cI cB cJ cZ) s) (hN : NW s) (hA : ∀ q : Nat, s.heap.size ≤ q → A q) (hRc : cells ≤ R.cells) (hRs : slots ≤ R.slots) (hRf : 205 ≤ R.frames) (hRl : 4717 ≤ R.locals) (hret : ∀ (x : St) (H : Heap) (locs : List Loc) (pc : Nat) (ls : Array Slot), decode b_Mod_lookAtAll pc = .ok (.return_, 1) → post x → Wd dC dI cI cB cJ cZ ad stM kcM 115 A x H → va_S A s.heap H locs → W p l e R s m args below meth c H locs cells slots Q (F0 m pc ls [])) (hrec19 : ∀ (l1 : Int32) (l2 : Int32) (x : St) (H : Heap) (locs : List Loc) (ls : Array Slot), rec19 l1 l2 x → Wd dC dI cI cB cJ cZ ad stM kcM 115 A x H → va_S A s.heap H locs → lv_has ls 6 [(0, .ref (ad 0)), (1, .int l1), (2, .int l2)] → W p l e R s m args below meth c H locs cells slots Q (F0 m 19 ls [])) (hrec58 : ∀ (l1 : Int32) (l2 : Int32) (l3 : Int32) (l4 : Int32) (l5 : Int32) (x : St) (H : Heap) (locs : List Loc) (ls : Array Slot), rec58 l1 l2 l3 l4 l5 x → Wd dC dI cI cB cJ cZ ad stM kcM 115 A x H → va_S A s.heap H locs → lv_has ls 6 [(0, .ref (ad 0)), (1, .int l1), (2, .int l2), (3, .int l3), (4, .int l4), (5, .int l5)] → W p l e R s m args below meth c H locs cells slots Q (F0 m 58 ls [])) : ∀ (l1 : Int32) (l2 : Int32) (l3 : Int32) (l4 : Int32) (l5 : Int32) (x : St) (H : Heap) (locs : List Loc) (ls : Array Slot), j_Mod_lookAtAll_85 post rec19 rec58 l1 l2 l3 l4 l5 x → Wd dC dI cI cB cJ cZ ad stM kcM 115 A x H → va_S A s.heap H locs → lv_has ls 6 [(0, .ref (ad 0)), (1, .int l1), (2, .int l2), (3, .int l3), (4, .int l4), (5, .int l5)] → W p l e R s m args below meth c H locs cells slots Q (F0 m 85 ls []) := by
  intro l1 l2 l3 l4 l5 x H locs ls  hw hW hS hl
  unfold j_Mod_lookAtAll_85 at hw
  refine lv_iinc (v := (l5 + 1)) (lv' := [(5, .int (l5 + 1)), (0, .ref (ad 0)), (1, .int l1), (2, .int l2), (3, .int l3), (4, .int l4)]) hx hb d_Mod_lookAtAll_85 hl (k := 5) rfl rfl (by decide) rfl (fun ls hl => ?_)
  refine lv_goto (tgt := 58) hx hb d_Mod_lookAtAll_88 (by decide) ?_
  exact hrec58 l1 l2 l3 l4 (l5 + 1) x H locs ls  hw hW hS (lv_sub hl [1, 2, 3, 4, 5, 0] rfl)
set_option maxRecDepth 100000 in
set_option maxHeartbeats 4000000 in
set_option maxRecDepth 100000 in
theorem t_Mod_lookAtAll_58 {p : Program} {l : Launch} {e : Env} {R : Room} {s : State} {m : MethodId} {args : Array Value} {below : List Frame} {meth : Method} {c : Code} {cells slots : Nat} {Q : State → Prop} {dC : Nat → ClassId} {dI : Nat → Nat → Nat} {cI cB cJ cZ : ClassId} {A : Nat → Prop} {ad : Nat → Nat} {post : St → Prop} {rec19 : Int32 → Int32 → St → Prop} {rec58 : Int32 → Int32 → Int32 → Int32 → Int32 → St → Prop} (hx : p.tables.exec = Jvm.exec) (hb : c.code = b_Mod_lookAtAll) (hml : c.maxLocals = 6) (hown : s.vm.findClass R_Mod = some m.cls) (hT : ∀ w ∈ TG, w.before args s = true) (hK : va_K (dC, dI) CL (TY cI cB cJ cZ) s) (hN : NW s) (hA : ∀ q : Nat, s.heap.size ≤ q → A q) (hRc : cells ≤ R.cells) (hRs : slots ≤ R.slots) (hRf : 205 ≤ R.frames) (hRl : 4717 ≤ R.locals) (hret : ∀ (x : St) (H : Heap) (locs : List Loc) (pc : Nat) (ls : Array Slot), decode b_Mod_lookAtAll pc = .ok (.return_, 1) → post x → Wd dC dI cI cB cJ cZ ad stM kcM 115 A x H → va_S A s.heap H locs → W p l e R s m args below meth c H locs cells slots Q (F0 m pc ls [])) (hrec19 : ∀ (l1 : Int32) (l2 : Int32) (x : St) (H : Heap) (locs : List Loc) (ls : Array Slot), rec19 l1 l2 x → Wd dC dI cI cB cJ cZ ad stM kcM 115 A x H → va_S A s.heap H locs → lv_has ls 6 [(0, .ref (ad 0)), (1, .int l1), (2, .int l2)] → W p l e R s m args below meth c H locs cells slots Q (F0 m 19 ls [])) (hrec58 : ∀ (l1 : Int32) (l2 : Int32) (l3 : Int32) (l4 : Int32) (l5 : Int32) (x : St) (H : Heap) (locs : List Loc) (ls : Array Slot), rec58 l1 l2 l3 l4 l5 x → Wd dC dI cI cB cJ cZ ad stM kcM 115 A x H → va_S A s.heap H locs → lv_has ls 6 [(0, .ref (ad 0)), (1, .int l1), (2, .int l2), (3, .int l3), (4, .int l4), (5, .int l5)] → W p l e R s m args below meth c H locs cells slots Q (F0 m 58 ls [])) : ∀ (l1 : Int32) (l2 : Int32) (l3 : Int32) (l4 : Int32) (l5 : Int32) (x : St) (H : Heap) (locs : List Loc) (ls : Array Slot), j_Mod_lookAtAll_58 post rec19 rec58 l1 l2 l3 l4 l5 x → Wd dC dI cI cB cJ cZ ad stM kcM 115 A x H → va_S A s.heap H locs → lv_has ls 6 [(0, .ref (ad 0)), (1, .int l1), (2, .int l2), (3, .int l3), (4, .int l4), (5, .int l5)] → W p l e R s m args below meth c H locs cells slots Q (F0 m 58 ls []) := by
  intro l1 l2 l3 l4 l5 x H locs ls  hw hW hS hl
  unfold j_Mod_lookAtAll_58 at hw
  refine lv_iload hx hb d_Mod_lookAtAll_58 (lv_at hl 5 rfl) ?_
  refine lv_aload_n hx hb d_Mod_lookAtAll_60 rfl (lv_at hl 0 rfl) ?_
  refine w_getf (q := 10) (k := 12) (t := 12) (C := R_Mod) (T := F_Mod) (N := 167) hx hb hT hown hK hW ko_0.1 ko_0.2 (by decide) in_Mod rfl rfl (by decide) rfl fr_Mod_12 w_8_188 d_Mod_lookAtAll_61 rfl ?_
  refine lv_iconst (v := 1) hx hb d_Mod_lookAtAll_64 (by decide) ?_
  obtain ⟨hi, hw⟩ := hw
  refine w_iald (o := 10) hx hb hK hW ko_10.1 ko_10.2 hi d_Mod_lookAtAll_65 ?_
  refine lv_icmp_ge (tgt := 91) hx hb d_Mod_lookAtAll_66 (by decide) (fun c2527 => ?_) (fun c2527 => ?_)
  · have hw := hw.1 c2527
    refine lv_aload_n hx hb d_Mod_lookAtAll_91 rfl (lv_at hl 0 rfl) ?_
    refine lv_iconst (v := (-1)) hx hb d_Mod_lookAtAll_92 (by decide) ?_
    have hF := hW.free hS hA
    refine va_calli (va_runV (C := R_Mod) (As := [.int (-1)]) (rest := []) ⟨hx, hb, hml, hown, hT⟩ (k_Mod_condition l dC dI cI cB cJ cZ ad H.size (-1) x  hw) ⟨callB_of 1 hT (gwt_in w_13_215) rfl rfl rfl (hT _ w_1_15) (hT _ w_13_212) (by decide +kernel) ⟨Nat.le_trans (Nat.le_of_ble_eq_true rfl) hRf, Nat.le_trans (Nat.le_of_ble_eq_true rfl) hRl⟩, hT _ w_13_214, hT _ ws_255⟩ ⟨PW.blind, va_recv hK hW.1 (ci := 12) (q0 := 0) rfl (pic_obj ko_0.1 ko_0.2 (by decide)), PW.at _ hW hK hN⟩ rfl rfl hl.1 rfl (lv_room (Nat.le_of_ble_eq_true rfl)) d_Mod_lookAtAll_93 ⟨hRc, hRs⟩) hS (fun q _ h => hF q h) hF (fun r2529 x2528 t H locs ht hvm hw hB hz1 hk1 hS => ?_)
    have hW := Wd.back hB ht hF
    clear hB ht hF hz1 hk1 hvm
    refine lv_iconst (v := 2) hx hb d_Mod_lookAtAll_96 (by decide) ?_
    refine lv_iand hx hb d_Mod_lookAtAll_97 ?_
    refine lv_if_le (tgt := 105) hx hb d_Mod_lookAtAll_98 (by decide) (fun c2530 => ?_) (fun c2530 => ?_)
    · have hw := hw.1 c2530
      refine lv_iconst (v := 0) hx hb d_Mod_lookAtAll_105 (by decide) ?_
      exact t_Mod_lookAtAll_106 hx hb hml hown hT hK hN hA hRc hRs hRf hRl hret hrec19 l1 l2 l3 l4 l5 0 x2528 H locs ls  hw hW hS (lv_sub hl [0, 1, 2, 3, 4, 5] rfl)
    · have hw := hw.2 c2530
      refine lv_iconst (v := 1) hx hb d_Mod_lookAtAll_101 (by decide) ?_
      refine lv_goto (tgt := 106) hx hb d_Mod_lookAtAll_102 (by decide) ?_
      exact t_Mod_lookAtAll_106 hx hb hml hown hT hK hN hA hRc hRs hRf hRl hret hrec19 l1 l2 l3 l4 l5 1 x2528 H locs ls  hw hW hS (lv_sub hl [0, 1, 2, 3, 4, 5] rfl)
  · have hw := hw.2 c2527
    refine lv_aload_n hx hb d_Mod_lookAtAll_69 rfl (lv_at hl 0 rfl) ?_
    refine lv_iload hx hb d_Mod_lookAtAll_70 (lv_at hl 5 rfl) ?_
    have hF := hW.free hS hA
    refine va_calli (va_runV (C := R_Mod) (As := [.int l5]) (rest := []) ⟨hx, hb, hml, hown, hT⟩ (k_Mod_asks l dC dI cI cB cJ cZ ad H.size l5 x  hw) ⟨callB_of 1 hT (gwt_in w_13_207) rfl rfl rfl (hT _ w_1_15) (hT _ w_13_204) (by decide +kernel) ⟨Nat.le_trans (Nat.le_of_ble_eq_true rfl) hRf, Nat.le_trans (Nat.le_of_ble_eq_true rfl) hRl⟩, hT _ w_13_206, hT _ ws_253⟩ ⟨PW.blind, va_recv hK hW.1 (ci := 12) (q0 := 0) rfl (pic_obj ko_0.1 ko_0.2 (by decide)), PW.at _ hW hK hN⟩ rfl rfl hl.1 rfl (lv_room (Nat.le_of_ble_eq_true rfl)) d_Mod_lookAtAll_72 ⟨hRc, hRs⟩) hS (fun q _ h => hF q h) hF (fun r2532 x2531 t H locs ht hvm hw hB hz1 hk1 hS => ?_)
    have hW := Wd.back hB ht hF
    clear hB ht hF hz1 hk1 hvm
    refine lv_if_eq (tgt := 85) hx hb d_Mod_lookAtAll_75 (by decide) (fun c2533 => ?_) (fun c2533 => ?_)
    · have hw := hw.1 c2533
      exact t_Mod_lookAtAll_85 hx hb hml hown hT hK hN hA hRc hRs hRf hRl hret hrec19 hrec58 l1 l2 l3 l4 l5 x2531 H locs ls  hw hW hS (lv_sub hl [0, 1, 2, 3, 4, 5] rfl)
    · have hw := hw.2 c2533
      refine lv_aload_n hx hb d_Mod_lookAtAll_78 rfl (lv_at hl 0 rfl) ?_
      refine lv_iload_n hx hb d_Mod_lookAtAll_79 rfl (lv_at hl 2 rfl) ?_
      refine lv_iload hx hb d_Mod_lookAtAll_80 (lv_at hl 5 rfl) ?_
      have hF := hW.free hS hA
      refine va_callv (va_runV (C := R_Mod) (As := [.int l2, .int l5]) (rest := []) ⟨hx, hb, hml, hown, hT⟩ (k_Mod_tellChunk l dC dI cI cB cJ cZ ad H.size l2 l5 x2531  hw) ⟨callB_of 2 hT (gwt_in w_13_211) rfl rfl rfl (hT _ w_1_15) (hT _ w_13_208) (by decide +kernel) ⟨Nat.le_trans (Nat.le_of_ble_eq_true rfl) hRf, Nat.le_trans (Nat.le_of_ble_eq_true rfl) hRl⟩, hT _ w_13_210, hT _ ws_254⟩ ⟨PW.blind, va_recv hK hW.1 (ci := 12) (q0 := 0) rfl (pic_obj ko_0.1 ko_0.2 (by decide)), PW.at _ hW hK hN⟩ rfl rfl hl.1 rfl (lv_room (Nat.le_of_ble_eq_true rfl)) d_Mod_lookAtAll_82 ⟨hRc, hRs⟩) hS (fun q _ h => hF q h) hF (fun  x2534 t H locs ht hvm hw hB hz1 hk1 hS => ?_)
      have hW := Wd.back hB ht hF
      clear hB ht hF hz1 hk1 hvm
      exact t_Mod_lookAtAll_85 hx hb hml hown hT hK hN hA hRc hRs hRf hRl hret hrec19 hrec58 l1 l2 l3 l4 l5 x2534 H locs ls  hw hW hS (lv_sub hl [0, 1, 2, 3, 4, 5] rfl)
set_option maxHeartbeats 4000000 in
set_option maxRecDepth 100000 in
theorem tl_Mod_lookAtAll_58 {p : Program} {l : Launch} {e : Env} {R : Room} {s : State} {m : MethodId} {args : Array Value} {below : List Frame} {meth : Method} {c : Code} {cells slots : Nat} {Q : State → Prop} {dC : Nat → ClassId} {dI : Nat → Nat → Nat} {cI cB cJ cZ : ClassId} {A : Nat → Prop} {ad : Nat → Nat} {post : St → Prop} {rec19 : Int32 → Int32 → St → Prop} (hx : p.tables.exec = Jvm.exec) (hb : c.code = b_Mod_lookAtAll) (hml : c.maxLocals = 6) (hown : s.vm.findClass R_Mod = some m.cls) (hT : ∀ w ∈ TG, w.before args s = true) (hK : va_K (dC, dI) CL (TY cI cB cJ cZ) s) (hN : NW s) (hA : ∀ q : Nat, s.heap.size ≤ q → A q) (hRc : cells ≤ R.cells) (hRs : slots ≤ R.slots) (hRf : 205 ≤ R.frames) (hRl : 4717 ≤ R.locals) (hret : ∀ (x : St) (H : Heap) (locs : List Loc) (pc : Nat) (ls : Array Slot), decode b_Mod_lookAtAll pc = .ok (.return_, 1) → post x → Wd dC dI cI cB cJ cZ ad stM kcM 115 A x H → va_S A s.heap H locs → W p l e R s m args below meth c H locs cells slots Q (F0 m pc ls [])) (hrec19 : ∀ (l1 : Int32) (l2 : Int32) (x : St) (H : Heap) (locs : List Loc) (ls : Array Slot), rec19 l1 l2 x → Wd dC dI cI cB cJ cZ ad stM kcM 115 A x H → va_S A s.heap H locs → lv_has ls 6 [(0, .ref (ad 0)), (1, .int l1), (2, .int l2)] → W p l e R s m args below meth c H locs cells slots Q (F0 m 19 ls [])) : ∀ n : Nat, ∀ (l1 : Int32) (l2 : Int32) (l3 : Int32) (l4 : Int32) (l5 : Int32) (x : St) (H : Heap) (locs : List Loc) (ls : Array Slot), wl_Mod_lookAtAll_58 post rec19 n l1 l2 l3 l4 l5 x → Wd dC dI cI cB cJ cZ ad stM kcM 115 A x H → va_S A s.heap H locs → lv_has ls 6 [(0, .ref (ad 0)), (1, .int l1), (2, .int l2), (3, .int l3), (4, .int l4), (5, .int l5)] → W p l e R s m args below meth c H locs cells slots Q (F0 m 58 ls []) := by
  intro n
  induction n with
  | zero => intro l1 l2 l3 l4 l5 x H locs ls  hw; exact hw.elim
  | succ n ih => intro l1 l2 l3 l4 l5 x H locs ls  hw hW hS hl; exact t_Mod_lookAtAll_58 hx hb hml hown hT hK hN hA hRc hRs hRf hRl hret hrec19 ih l1 l2 l3 l4 l5 x H locs ls  hw hW hS hl
set_option maxRecDepth 100000 in
set_option maxHeartbeats 4000000 in
set_option maxRecDepth 100000 in
theorem t_Mod_lookAtAll_19 {p : Program} {l : Launch} {e : Env} {R : Room} {s : State} {m : MethodId} {args : Array Value} {below : List Frame} {meth : Method} {c : Code} {cells slots : Nat} {Q : State → Prop} {dC : Nat → ClassId} {dI : Nat → Nat → Nat} {cI cB cJ cZ : ClassId} {A : Nat → Prop} {ad : Nat → Nat} {post : St → Prop} {rec19 : Int32 → Int32 → St → Prop} (hx : p.tables.exec = Jvm.exec) (hb : c.code = b_Mod_lookAtAll) (hml : c.maxLocals = 6) (hown : s.vm.findClass R_Mod = some m.cls) (hT : ∀ w ∈ TG, w.before args s = true) (hK : va_K (dC, dI) CL (TY cI cB cJ cZ) s) (hN : NW s) (hA : ∀ q : Nat, s.heap.size ≤ q → A q) (hRc : cells ≤ R.cells) (hRs : slots ≤ R.slots) (hRf : 205 ≤ R.frames) (hRl : 4717 ≤ R.locals) (hret : ∀ (x : St) (H : Heap) (locs : List Loc) (pc : Nat) (ls : Array Slot), decode b_Mod_lookAtAll pc = .ok (.return_, 1) → post x → Wd dC dI cI cB cJ cZ ad stM kcM 115 A x H → va_S A s.heap H locs → W p l e R s m args below meth c H locs cells slots Q (F0 m pc ls [])) (hrec19 : ∀ (l1 : Int32) (l2 : Int32) (x : St) (H : Heap) (locs : List Loc) (ls : Array Slot), rec19 l1 l2 x → Wd dC dI cI cB cJ cZ ad stM kcM 115 A x H → va_S A s.heap H locs → lv_has ls 6 [(0, .ref (ad 0)), (1, .int l1), (2, .int l2)] → W p l e R s m args below meth c H locs cells slots Q (F0 m 19 ls [])) : ∀ (l1 : Int32) (l2 : Int32) (x : St) (H : Heap) (locs : List Loc) (ls : Array Slot), j_Mod_lookAtAll_19 post rec19 l1 l2 x → Wd dC dI cI cB cJ cZ ad stM kcM 115 A x H → va_S A s.heap H locs → lv_has ls 6 [(0, .ref (ad 0)), (1, .int l1), (2, .int l2)] → W p l e R s m args below meth c H locs cells slots Q (F0 m 19 ls []) := by
  intro l1 l2 x H locs ls  hw hW hS hl
  unfold j_Mod_lookAtAll_19 at hw
  refine lv_iload_n hx hb d_Mod_lookAtAll_19 rfl (lv_at hl 2 rfl) ?_
  refine lv_aload_n hx hb d_Mod_lookAtAll_20 rfl (lv_at hl 0 rfl) ?_
  refine w_geti (k := 85) (t := 12) (C := R_Mod) (T := F_Mod) (N := 167) hx hb hT hown hK hW ko_0.1 ko_0.2 (by decide) in_Mod rfl rfl (by decide) rfl fr_Mod_85 w_9_21 d_Mod_lookAtAll_21 ?_
  refine lv_icmp_ge (tgt := 208) hx hb d_Mod_lookAtAll_24 (by decide) (fun c2535 => ?_) (fun c2535 => ?_)
  · have hw := hw.1 c2535
    exact hret x H locs 208 ls d_Mod_lookAtAll_208 hw hW hS
  · have hw := hw.2 c2535
    refine lv_iload_n hx hb d_Mod_lookAtAll_27 rfl (lv_at hl 1 rfl) ?_
    refine lv_aload_n hx hb d_Mod_lookAtAll_28 rfl (lv_at hl 0 rfl) ?_
    refine w_getf (q := 53) (k := 81) (t := 12) (C := R_Mod) (T := F_Mod) (N := 167) hx hb hT hown hK hW ko_0.1 ko_0.2 (by decide) in_Mod rfl rfl (by decide) rfl fr_Mod_81 w_9_17 d_Mod_lookAtAll_29 rfl ?_
    refine lv_iload_n hx hb d_Mod_lookAtAll_32 rfl (lv_at hl 2 rfl) ?_
    obtain ⟨hi, hw⟩ := hw
    refine w_iald (o := 53) hx hb hK hW ko_53.1 ko_53.2 hi d_Mod_lookAtAll_33 ?_
    refine lv_iadd hx hb d_Mod_lookAtAll_34 ?_
    refine lv_topi (fun v2536 ev2536 => ?_)
    have hw := hw v2536 ev2536
    refine lv_istore_n (lv' := [(3, .int v2536), (0, .ref (ad 0)), (1, .int l1), (2, .int l2)]) hx hb d_Mod_lookAtAll_35 rfl hl (by decide) rfl (fun ls hl => ?_)
    refine lv_iconst (v := 1) hx hb d_Mod_lookAtAll_36 (by decide) ?_
    refine lv_istore (lv' := [(4, .int 1), (3, .int v2536), (0, .ref (ad 0)), (1, .int l1), (2, .int l2)]) hx hb d_Mod_lookAtAll_37 hl (by decide) rfl (fun ls hl => ?_)
    refine lv_aload_n hx hb d_Mod_lookAtAll_39 rfl (lv_at hl 2 rfl) ?_
    refine w_getf (q := 79) (k := 122) (t := 12) (C := R_Mod) (T := F_Mod) (N := 167) hx hb hT hown hK hW ko_0.1 ko_0.2 (by decide) in_Mod rfl rfl (by decide) rfl fr_Mod_122 w_9_58 d_Mod_lookAtAll_40 rfl ?_
    refine lv_iconst (v := 4) hx hb d_Mod_lookAtAll_43 (by decide) ?_
    refine lv_aload_n hx hb d_Mod_lookAtAll_44 rfl (lv_at hl 2 rfl) ?_
    refine w_geti (k := 117) (t := 12) (C := R_Mod) (T := F_Mod) (N := 167) hx hb hT hown hK hW ko_0.1 ko_0.2 (by decide) in_Mod rfl rfl (by decide) rfl fr_Mod_117 w_9_53 d_Mod_lookAtAll_45 ?_
    refine lv_imul hx hb d_Mod_lookAtAll_48 ?_
    refine lv_iconst (v := 2) hx hb d_Mod_lookAtAll_49 (by decide) ?_
    refine lv_iadd hx hb d_Mod_lookAtAll_50 ?_
    obtain ⟨hi, hw⟩ := hw
    refine w_iald (o := 79) hx hb hK hW ko_79.1 ko_79.2 hi d_Mod_lookAtAll_51 ?_
    refine lv_if_le (tgt := 108) hx hb d_Mod_lookAtAll_52 (by decide) (fun c2537 => ?_) (fun c2537 => ?_)
    · have hw := hw.1 c2537
      exact t_Mod_lookAtAll_108 hx hb hml hown hT hK hN hA hRc hRs hRf hRl hret hrec19 l1 l2 v2536 1 x H locs ls  hw hW hS (lv_sub hl [2, 3, 4, 1, 0] rfl)
    · have hw := hw.2 c2537
      refine lv_iconst (v := 0) hx hb d_Mod_lookAtAll_55 (by decide) ?_
      refine lv_istore (lv' := [(5, .int 0), (4, .int 1), (3, .int v2536), (0, .ref (ad 0)), (1, .int l1), (2, .int l2)]) hx hb d_Mod_lookAtAll_56 hl (by decide) rfl (fun ls hl => ?_)
      obtain ⟨n, hw⟩ := hw
      exact tl_Mod_lookAtAll_58 hx hb hml hown hT hK hN hA hRc hRs hRf hRl hret hrec19 n l1 l2 v2536 1 0 x H locs ls  hw hW hS (lv_sub hl [3, 4, 5, 2, 1, 0] rfl)
set_option maxHeartbeats 4000000 in
set_option maxRecDepth 100000 in
theorem tl_Mod_lookAtAll_19 {p : Program} {l : Launch} {e : Env} {R : Room} {s : State} {m : MethodId} {args : Array Value} {below : List Frame} {meth : Method} {c : Code} {cells slots : Nat} {Q : State → Prop} {dC : Nat → ClassId} {dI : Nat → Nat → Nat} {cI cB cJ cZ : ClassId} {A : Nat → Prop} {ad : Nat → Nat} {post : St → Prop} (hx : p.tables.exec = Jvm.exec) (hb : c.code = b_Mod_lookAtAll) (hml : c.maxLocals = 6) (hown : s.vm.findClass R_Mod = some m.cls) (hT : ∀ w ∈ TG, w.before args s = true) (hK : va_K (dC, dI) CL (TY cI cB cJ cZ) s) (hN : NW s) (hA : ∀ q : Nat, s.heap.size ≤ q → A q) (hRc : cells ≤ R.cells) (hRs : slots ≤ R.slots) (hRf : 205 ≤ R.frames) (hRl : 4717 ≤ R.locals) (hret : ∀ (x : St) (H : Heap) (locs : List Loc) (pc : Nat) (ls : Array Slot), decode b_Mod_lookAtAll pc = .ok (.return_, 1) → post x → Wd dC dI cI cB cJ cZ ad stM kcM 115 A x H → va_S A s.heap H locs → W p l e R s m args below meth c H locs cells slots Q (F0 m pc ls []))  : ∀ n : Nat, ∀ (l1 : Int32) (l2 : Int32) (x : St) (H : Heap) (locs : List Loc) (ls : Array Slot), wl_Mod_lookAtAll_19 post n l1 l2 x → Wd dC dI cI cB cJ cZ ad stM kcM 115 A x H → va_S A s.heap H locs → lv_has ls 6 [(0, .ref (ad 0)), (1, .int l1), (2, .int l2)] → W p l e R s m args below meth c H locs cells slots Q (F0 m 19 ls []) := by
  intro n
  induction n with
  | zero => intro l1 l2 x H locs ls  hw; exact hw.elim
  | succ n ih => intro l1 l2 x H locs ls  hw hW hS hl; exact t_Mod_lookAtAll_19 hx hb hml hown hT hK hN hA hRc hRs hRf hRl hret  ih l1 l2 x H locs ls  hw hW hS hl
set_option maxRecDepth 100000 in
set_option maxHeartbeats 4000000 in
set_option maxRecDepth 100000 in
theorem t_Mod_lookAtAll_e {p : Program} {l : Launch} {e : Env} {R : Room} {s : State} {m : MethodId} {args : Array Value} {below : List Frame} {meth : Method} {c : Code} {cells slots : Nat} {Q : State → Prop} {dC : Nat → ClassId} {dI : Nat → Nat → Nat} {cI cB cJ cZ : ClassId} {A : Nat → Prop} {ad : Nat → Nat} {post : St → Prop} (hx : p.tables.exec = Jvm.exec) (hb : c.code = b_Mod_lookAtAll) (hml : c.maxLocals = 6) (hown : s.vm.findClass R_Mod = some m.cls) (hT : ∀ w ∈ TG, w.before args s = true) (hK : va_K (dC, dI) CL (TY cI cB cJ cZ) s) (hN : NW s) (hA : ∀ q : Nat, s.heap.size ≤ q → A q) (hRc : cells ≤ R.cells) (hRs : slots ≤ R.slots) (hRf : 205 ≤ R.frames) (hRl : 4717 ≤ R.locals) (hret : ∀ (x : St) (H : Heap) (locs : List Loc) (pc : Nat) (ls : Array Slot), decode b_Mod_lookAtAll pc = .ok (.return_, 1) → post x → Wd dC dI cI cB cJ cZ ad stM kcM 115 A x H → va_S A s.heap H locs → W p l e R s m args below meth c H locs cells slots Q (F0 m pc ls [])) : ∀  (x : St) (H : Heap) (locs : List Loc) (ls : Array Slot), wp_Mod_lookAtAll post  x → Wd dC dI cI cB cJ cZ ad stM kcM 115 A x H → va_S A s.heap H locs → lv_has ls 6 [(0, .ref (ad 0))] → W p l e R s m args below meth c H locs cells slots Q (F0 m 0 ls []) := by
  intro  x H locs ls  hw hW hS hl
  unfold wp_Mod_lookAtAll at hw
  refine lv_aload_n hx hb d_Mod_lookAtAll_0 rfl (lv_at hl 0 rfl) ?_
  refine lv_iconst (v := 0) hx hb d_Mod_lookAtAll_1 (by decide) ?_
  refine w_puti (ty := .int) (k := 160) (t := 12) (C := R_Mod) (T := F_Mod) (N := 167) hx hb hT hown hK hW hS ko_0.1 ko_0.2 (by decide) in_Mod t_Mod t_Mod_ok n_Mod rfl rfl (by decide) rfl fr_Mod_160 w_9_96 (by decide +kernel) rfl rfl d_Mod_lookAtAll_2 (fun H locs hW hS => ?_)
  obtain ⟨x2538, ex2538⟩ : ∃ y : St, y = setI x 0 160 0 := ⟨_, rfl⟩
  rw [← ex2538] at hW
  have hw := hw x2538 ex2538
  refine lv_aload_n hx hb d_Mod_lookAtAll_5 rfl (lv_at hl 0 rfl) ?_
  refine lv_iconst (v := 0) hx hb d_Mod_lookAtAll_6 (by decide) ?_
  refine w_puti (ty := .int) (k := 165) (t := 12) (C := R_Mod) (T := F_Mod) (N := 167) hx hb hT hown hK hW hS ko_0.1 ko_0.2 (by decide) in_Mod t_Mod t_Mod_ok n_Mod rfl rfl (by decide) rfl fr_Mod_165 w_9_101 (by decide +kernel) rfl rfl d_Mod_lookAtAll_7 (fun H locs hW hS => ?_)
  obtain ⟨x2539, ex2539⟩ : ∃ y : St, y = setI x2538 0 165 0 := ⟨_, rfl⟩
  rw [← ex2539] at hW
  have hw := hw x2539 ex2539
  refine lv_aload_n hx hb d_Mod_lookAtAll_10 rfl (lv_at hl 0 rfl) ?_
  refine lv_iconst (v := 0) hx hb d_Mod_lookAtAll_11 (by decide) ?_
  refine w_puti (ty := .int) (k := 166) (t := 12) (C := R_Mod) (T := F_Mod) (N := 167) hx hb hT hown hK hW hS ko_0.1 ko_0.2 (by decide) in_Mod t_Mod t_Mod_ok n_Mod rfl rfl (by decide) rfl fr_Mod_166 w_9_102 (by decide +kernel) rfl rfl d_Mod_lookAtAll_12 (fun H locs hW hS => ?_)
  obtain ⟨x2540, ex2540⟩ : ∃ y : St, y = setI x2539 0 166 0 := ⟨_, rfl⟩
  rw [← ex2540] at hW
  have hw := hw x2540 ex2540
  refine lv_iconst (v := 0) hx hb d_Mod_lookAtAll_15 (by decide) ?_
  refine lv_istore_n (lv' := [(1, .int 0), (0, .ref (ad 0))]) hx hb d_Mod_lookAtAll_16 rfl hl (by decide) rfl (fun ls hl => ?_)
  refine lv_iconst (v := 0) hx hb d_Mod_lookAtAll_17 (by decide) ?_
  refine lv_istore_n (lv' := [(2, .int 0), (1, .int 0), (0, .ref (ad 0))]) hx hb d_Mod_lookAtAll_18 rfl hl (by decide) rfl (fun ls hl => ?_)
  obtain ⟨n, hw⟩ := hw
  exact tl_Mod_lookAtAll_19 hx hb hml hown hT hK hN hA hRc hRs hRf hRl hret  n 0 0 x2540 H locs ls  hw hW hS (lv_sub hl [2, 1, 0] rfl)
set_option maxHeartbeats 4000000 in
set_option maxRecDepth 100000 in
theorem k_Mod_lookAtAll (l : Launch) (dC : Nat → ClassId) (dI : Nat → Nat → Nat) (cI cB cJ cZ : ClassId) (ad : Nat → Nat) (sz : Nat)  (x : St) {post : St → Prop} (hw : wp_Mod_lookAtAll post  x) : Met l y_Mod_lookAtAll (wsOf y_Mod_lookAtAll b_Mod_lookAtAll 6 (none)) ({ frames := 205, cells := 0, slots := 0, locals := 4717 }) (va_Pc [.ref (ad 0)] (PW dC dI cI cB cJ cZ ad stM kcM 115 sz x)) (va_Qv (fun (y : St) => post y) (fun y t => Wd dC dI cI cB cJ cZ ad stM kcM 115 (va_A (pic ad stM kcM 115 cI cB cJ cZ x) sz) y t.heap) (va_A (pic ad stM kcM 115 cI cB cJ cZ x) sz)) 0 0 (va_A (pic ad stM kcM 115 cI cB cJ cZ x) sz) := by
  refine Met.ofW (cc := b_Mod_lookAtAll) (maxL := 6) (ret := none) (by decide) rfl ?_
  intro p e s m args below meth c s₁ B hml hv
  obtain ⟨rfl, hsz, hW0, hK, hN⟩ := hv
  have hx := B.exec
  have hb := B.bytes
  have hr := B.returns
  have hts := atoms_spec B.pre
  have hT : ∀ w ∈ TG, w.before _ s = true := fun w h => hts w (List.mem_cons_of_mem _ h)
  have hown : s.vm.findClass R_Mod = some m.cls := findClass_of_methodNamed B.named
  have hlocks := B.notSynchronized
  subst hsz
  have hW : Wd dC dI cI cB cJ cZ ad stM kcM 115 (va_A (pic ad stM kcM 115 cI cB cJ cZ x) s.heap.size) x s.heap := ⟨hW0.1, hW0.2.1.self (sz := s.heap.size), hW0.2.2⟩
  generalize hAe : va_A (pic ad stM kcM 115 cI cB cJ cZ x) s.heap.size = A at hW ⊢
  have hA : ∀ q : Nat, s.heap.size ≤ q → A q := fun q h => by rw [← hAe]; exact Or.inr h
  have hS : va_S A s.heap s.heap [] := va_S.rf
  have hl := lv_entry ([.ref (ad 0)]) (n := 6) (Nat.le_of_ble_eq_true rfl)
  rw [lg_entry_eq]
  generalize (lg_sl ([.ref (ad 0)]) ++ List.replicate (6 - (lg_sl ([.ref (ad 0)])).length) Slot.unset).toArray = ls at hl ⊢
  have hl : lv_has ls 6 [(0, .ref (ad 0))] := hl
  exact t_Mod_lookAtAll_e hx hb hml hown hT hK hN hA (Nat.le_refl 0) (Nat.le_refl 0) (Nat.le_refl 205) (Nat.le_refl 4717) (fun x H locs pc ls hd hp hW hS => W.vret hx hb hr (fun t ht hM => ⟨⟨x, rfl, hp, Wd.back hW ht.symm (fun _ z => z)⟩, hS.F ht⟩) hS.2.2 hd hlocks)   x _ _ ls  hw hW hS hl
end
