theorem fr_Opn_13 : F_Opn 13 = (R_Opn, "dictionaryEnd", "I", false) := rfl
theorem fr_Opn_15 : F_Opn 15 = (R_Opn, "pageTexts", "I", false) := rfl
theorem fr_Opn_9 : F_Opn 9 = (R_Opn, "values", "I", false) := rfl
theorem w_2_149 : (Jvm.Cond.fieldLink "StripedVault$Opener" (258 : Nat) "StripedVault$Vault" "def" "[B") ∈ TG := tw_2 149 (by decide +kernel) (by decide +kernel)
theorem w_2_181 : (Jvm.Cond.fieldLink "StripedVault$Opener" (343 : Nat) "StripedVault$Vault" "dictionary" "[J") ∈ TG := tw_2 181 (by decide +kernel) (by decide +kernel)
theorem w_3_25 : (Jvm.Cond.fieldLink "StripedVault$Opener" (266 : Nat) "StripedVault$Opener" "values" "I") ∈ TG := tw_3 25 (by decide +kernel) (by decide +kernel)
theorem w_3_29 : (Jvm.Cond.fieldLink "StripedVault$Opener" (201 : Nat) "StripedVault$Opener" "dictionaryEnd" "I") ∈ TG := tw_3 29 (by decide +kernel) (by decide +kernel)
theorem w_3_31 : (Jvm.Cond.fieldLink "StripedVault$Opener" (269 : Nat) "StripedVault$Opener" "pageTexts" "I") ∈ TG := tw_3 31 (by decide +kernel) (by decide +kernel)
theorem w_6_232 : (Jvm.Cond.methodLink "StripedVault$Opener" (310 : Nat) ({ cls := "StripedVault$Opener", name := "readPlain", desc := "(I[JII)V" } : Jvm.MethodName)) ∈ TG := tw_6 232 (by decide +kernel) (by decide +kernel)
theorem w_6_234 : (Jvm.Cond.instanceMethod ({ cls := "StripedVault$Opener", name := "readPlain", desc := "(I[JII)V" } : Jvm.MethodName)) ∈ TG := tw_6 234 (by decide +kernel) (by decide +kernel)
theorem w_6_235 : (Jvm.Cond.code ({ cls := "StripedVault$Opener", name := "readPlain", desc := "(I[JII)V" } : Jvm.MethodName) prog_4_method_19_code (7 : Nat) (Option.none : Option Jvm.ClassFile.FieldType)) ∈ TG := tw_6 235 (by decide +kernel) (by decide +kernel)
theorem w_6_236 : (Jvm.Cond.methodLink "StripedVault$Opener" (327 : Nat) ({ cls := "StripedVault$Source", name := "readLetters", desc := "(J)J" } : Jvm.MethodName)) ∈ TG := tw_6 236 (by decide +kernel) (by decide +kernel)
theorem wn_6_237 : (Jvm.Cond.methodLinkNest "StripedVault$Opener" (331 : Nat) ({ cls := "StripedVault", name := "sizeOf", desc := "(J)I" } : Jvm.MethodName) "StripedVault") ∈ lw_tbl := tb_6 _ (List.mem_of_getElem? (i := 237) (by decide +kernel))
theorem ws_50 : Cond.selects R_Opn y_Opn_readPlain y_Opn_readPlain ∈ TG := tw_s 50 (by decide +kernel) (by decide +kernel)
theorem d_Opn_countNulls_39 : decode b_Opn_countNulls 39 = .ok (.iadd, 1) := by decide +kernel
theorem d_Opn_countNulls_40 : decode b_Opn_countNulls 40 = .ok (.istore_n 3, 1) := by decide +kernel
theorem d_Opn_countNulls_41 : decode b_Opn_countNulls 41 = .ok (.iinc 4 1, 3) := by decide +kernel
theorem d_Opn_countNulls_44 : decode b_Opn_countNulls 44 = .ok (.goto (-39), 3) := by decide +kernel
theorem d_Opn_countNulls_5 : decode b_Opn_countNulls 5 = .ok (.iload 4, 2) := by decide +kernel
theorem d_Opn_countNulls_7 : decode b_Opn_countNulls 7 = .ok (.iload_n 1, 1) := by decide +kernel
theorem d_Opn_countNulls_8 : decode b_Opn_countNulls 8 = .ok (.if_icmp .ge 39, 3) := by decide +kernel
theorem d_Opn_countNulls_47 : decode b_Opn_countNulls 47 = .ok (.iload_n 3, 1) := by decide +kernel
theorem d_Opn_countNulls_48 : decode b_Opn_countNulls 48 = .ok (.ireturn, 1) := by decide +kernel
theorem d_Opn_countNulls_11 : decode b_Opn_countNulls 11 = .ok (.iload_n 3, 1) := by decide +kernel
theorem d_Opn_countNulls_12 : decode b_Opn_countNulls 12 = .ok (.aload_n 0, 1) := by decide +kernel
theorem d_Opn_countNulls_13 : decode b_Opn_countNulls 13 = .ok (.getfield 25, 3) := by decide +kernel
theorem d_Opn_countNulls_16 : decode b_Opn_countNulls 16 = .ok (.getfield 258, 3) := by decide +kernel
theorem d_Opn_countNulls_19 : decode b_Opn_countNulls 19 = .ok (.aload_n 0, 1) := by decide +kernel
theorem d_Opn_countNulls_20 : decode b_Opn_countNulls 20 = .ok (.getfield 25, 3) := by decide +kernel
theorem d_Opn_countNulls_23 : decode b_Opn_countNulls 23 = .ok (.getfield 189, 3) := by decide +kernel
theorem d_Opn_countNulls_26 : decode b_Opn_countNulls 26 = .ok (.iload 4, 2) := by decide +kernel
theorem d_Opn_countNulls_28 : decode b_Opn_countNulls 28 = .ok (.iadd, 1) := by decide +kernel
theorem d_Opn_countNulls_29 : decode b_Opn_countNulls 29 = .ok (.baload, 1) := by decide +kernel
theorem d_Opn_countNulls_30 : decode b_Opn_countNulls 30 = .ok (.iload_n 2, 1) := by decide +kernel
theorem d_Opn_countNulls_31 : decode b_Opn_countNulls 31 = .ok (.if_icmp .ge 7, 3) := by decide +kernel
theorem d_Opn_countNulls_38 : decode b_Opn_countNulls 38 = .ok (.iconst 0, 1) := by decide +kernel
theorem d_Opn_countNulls_34 : decode b_Opn_countNulls 34 = .ok (.iconst 1, 1) := by decide +kernel
theorem d_Opn_countNulls_35 : decode b_Opn_countNulls 35 = .ok (.goto 4, 3) := by decide +kernel
theorem d_Opn_countNulls_0 : decode b_Opn_countNulls 0 = .ok (.iconst 0, 1) := by decide +kernel
theorem d_Opn_countNulls_1 : decode b_Opn_countNulls 1 = .ok (.istore_n 3, 1) := by decide +kernel
theorem d_Opn_countNulls_2 : decode b_Opn_countNulls 2 = .ok (.iconst 0, 1) := by decide +kernel
theorem d_Opn_countNulls_3 : decode b_Opn_countNulls 3 = .ok (.istore 4, 2) := by decide +kernel
theorem d_Opn_readBools_82 : decode b_Opn_readBools 82 = .ok (.iconst 5, 1) := by decide +kernel
theorem d_Opn_readBools_83 : decode b_Opn_readBools 83 = .ok (.invokevirtual 95, 3) := by decide +kernel
theorem d_Opn_readBools_86 : decode b_Opn_readBools 86 = .ok (.return_, 1) := by decide +kernel
theorem d_Opn_readBools_49 : decode b_Opn_readBools 49 = .ok (.aload_n 0, 1) := by decide +kernel
theorem d_Opn_readBools_50 : decode b_Opn_readBools 50 = .ok (.getfield 22, 3) := by decide +kernel
theorem d_Opn_readBools_53 : decode b_Opn_readBools 53 = .ok (.iload_n 3, 1) := by decide +kernel
theorem d_Opn_readBools_54 : decode b_Opn_readBools 54 = .ok (.iload_n 2, 1) := by decide +kernel
theorem d_Opn_readBools_55 : decode b_Opn_readBools 55 = .ok (.iconst 1, 1) := by decide +kernel
theorem d_Opn_readBools_56 : decode b_Opn_readBools 56 = .ok (.iand, 1) := by decide +kernel
theorem d_Opn_readBools_57 : decode b_Opn_readBools 57 = .ok (.i2l, 1) := by decide +kernel
theorem d_Opn_readBools_58 : decode b_Opn_readBools 58 = .ok (.lastore, 1) := by decide +kernel
theorem d_Opn_readBools_59 : decode b_Opn_readBools 59 = .ok (.iload_n 2, 1) := by decide +kernel
theorem d_Opn_readBools_60 : decode b_Opn_readBools 60 = .ok (.iconst 1, 1) := by decide +kernel
theorem d_Opn_readBools_61 : decode b_Opn_readBools 61 = .ok (.ishr, 1) := by decide +kernel
theorem d_Opn_readBools_62 : decode b_Opn_readBools 62 = .ok (.istore_n 2, 1) := by decide +kernel
theorem d_Opn_readBools_63 : decode b_Opn_readBools 63 = .ok (.iinc 3 1, 3) := by decide +kernel
theorem d_Opn_readBools_66 : decode b_Opn_readBools 66 = .ok (.goto (-40), 3) := by decide +kernel
theorem d_Opn_readBools_26 : decode b_Opn_readBools 26 = .ok (.iload_n 3, 1) := by decide +kernel
theorem d_Opn_readBools_27 : decode b_Opn_readBools 27 = .ok (.aload_n 0, 1) := by decide +kernel
theorem d_Opn_readBools_28 : decode b_Opn_readBools 28 = .ok (.getfield 266, 3) := by decide +kernel
theorem d_Opn_readBools_31 : decode b_Opn_readBools 31 = .ok (.if_icmp .ge 38, 3) := by decide +kernel
theorem d_Opn_readBools_69 : decode b_Opn_readBools 69 = .ok (.aload_n 0, 1) := by decide +kernel
theorem d_Opn_readBools_70 : decode b_Opn_readBools 70 = .ok (.getfield 44, 3) := by decide +kernel
theorem d_Opn_readBools_73 : decode b_Opn_readBools 73 = .ok (.iload_n 2, 1) := by decide +kernel
theorem d_Opn_readBools_74 : decode b_Opn_readBools 74 = .ok (.ifCond .ne 7, 3) := by decide +kernel
theorem d_Opn_readBools_81 : decode b_Opn_readBools 81 = .ok (.iconst 0, 1) := by decide +kernel
theorem d_Opn_readBools_77 : decode b_Opn_readBools 77 = .ok (.iconst 1, 1) := by decide +kernel
theorem d_Opn_readBools_78 : decode b_Opn_readBools 78 = .ok (.goto 4, 3) := by decide +kernel
theorem d_Opn_readBools_34 : decode b_Opn_readBools 34 = .ok (.iload_n 3, 1) := by decide +kernel
theorem d_Opn_readBools_35 : decode b_Opn_readBools 35 = .ok (.bipush 7, 2) := by decide +kernel
theorem d_Opn_readBools_37 : decode b_Opn_readBools 37 = .ok (.iand, 1) := by decide +kernel
theorem d_Opn_readBools_38 : decode b_Opn_readBools 38 = .ok (.ifCond .ne 11, 3) := by decide +kernel
theorem d_Opn_readBools_41 : decode b_Opn_readBools 41 = .ok (.aload_n 0, 1) := by decide +kernel
theorem d_Opn_readBools_42 : decode b_Opn_readBools 42 = .ok (.getfield 44, 3) := by decide +kernel
theorem d_Opn_readBools_45 : decode b_Opn_readBools 45 = .ok (.invokevirtual 155, 3) := by decide +kernel
theorem d_Opn_readBools_48 : decode b_Opn_readBools 48 = .ok (.istore_n 2, 1) := by decide +kernel
theorem d_Opn_readBools_0 : decode b_Opn_readBools 0 = .ok (.iload_n 1, 1) := by decide +kernel
theorem d_Opn_readBools_1 : decode b_Opn_readBools 1 = .ok (.iconst 1, 1) := by decide +kernel
theorem d_Opn_readBools_2 : decode b_Opn_readBools 2 = .ok (.if_icmp .ne 20, 3) := by decide +kernel
theorem d_Opn_readBools_22 : decode b_Opn_readBools 22 = .ok (.iconst 0, 1) := by decide +kernel
theorem d_Opn_readBools_23 : decode b_Opn_readBools 23 = .ok (.istore_n 2, 1) := by decide +kernel
theorem d_Opn_readBools_24 : decode b_Opn_readBools 24 = .ok (.iconst 0, 1) := by decide +kernel
theorem d_Opn_readBools_25 : decode b_Opn_readBools 25 = .ok (.istore_n 3, 1) := by decide +kernel
theorem d_Opn_readBools_5 : decode b_Opn_readBools 5 = .ok (.aload_n 0, 1) := by decide +kernel
theorem d_Opn_readBools_6 : decode b_Opn_readBools 6 = .ok (.getfield 44, 3) := by decide +kernel
theorem d_Opn_readBools_9 : decode b_Opn_readBools 9 = .ok (.aload_n 0, 1) := by decide +kernel
theorem d_Opn_readBools_10 : decode b_Opn_readBools 10 = .ok (.getfield 22, 3) := by decide +kernel
theorem d_Opn_readBools_13 : decode b_Opn_readBools 13 = .ok (.aload_n 0, 1) := by decide +kernel
theorem d_Opn_readBools_14 : decode b_Opn_readBools 14 = .ok (.getfield 266, 3) := by decide +kernel
theorem d_Opn_readBools_17 : decode b_Opn_readBools 17 = .ok (.iconst 1, 1) := by decide +kernel
theorem d_Opn_readBools_18 : decode b_Opn_readBools 18 = .ok (.invokevirtual 300, 3) := by decide +kernel
theorem d_Opn_readBools_21 : decode b_Opn_readBools 21 = .ok (.return_, 1) := by decide +kernel
theorem d_Opn_readPlain_120 : decode b_Opn_readPlain 120 = .ok (.iinc 6 1, 3) := by decide +kernel
theorem d_Opn_readPlain_123 : decode b_Opn_readPlain 123 = .ok (.goto (-117), 3) := by decide +kernel
theorem d_Opn_readPlain_77 : decode b_Opn_readPlain 77 = .ok (.bipush 7, 2) := by decide +kernel
theorem d_Opn_readPlain_79 : decode b_Opn_readPlain 79 = .ok (.invokevirtual 95, 3) := by decide +kernel
theorem d_Opn_readPlain_82 : decode b_Opn_readPlain 82 = .ok (.goto 38, 3) := by decide +kernel
theorem d_Opn_readPlain_6 : decode b_Opn_readPlain 6 = .ok (.iload 6, 2) := by decide +kernel
theorem d_Opn_readPlain_8 : decode b_Opn_readPlain 8 = .ok (.iload_n 3, 1) := by decide +kernel
theorem d_Opn_readPlain_9 : decode b_Opn_readPlain 9 = .ok (.iload 4, 2) := by decide +kernel
theorem d_Opn_readPlain_11 : decode b_Opn_readPlain 11 = .ok (.iadd, 1) := by decide +kernel
theorem d_Opn_readPlain_12 : decode b_Opn_readPlain 12 = .ok (.if_icmp .ge 114, 3) := by decide +kernel
theorem d_Opn_readPlain_126 : decode b_Opn_readPlain 126 = .ok (.return_, 1) := by decide +kernel
theorem d_Opn_readPlain_15 : decode b_Opn_readPlain 15 = .ok (.aload_n 0, 1) := by decide +kernel
theorem d_Opn_readPlain_16 : decode b_Opn_readPlain 16 = .ok (.getfield 44, 3) := by decide +kernel
theorem d_Opn_readPlain_19 : decode b_Opn_readPlain 19 = .ok (.getfield 107, 3) := by decide +kernel
theorem d_Opn_readPlain_22 : decode b_Opn_readPlain 22 = .ok (.ifCond .ne 104, 3) := by decide +kernel
theorem d_Opn_readPlain_25 : decode b_Opn_readPlain 25 = .ok (.iload_n 1, 1) := by decide +kernel
theorem d_Opn_readPlain_26 : decode b_Opn_readPlain 26 = .ok (.iconst 3, 1) := by decide +kernel
theorem d_Opn_readPlain_27 : decode b_Opn_readPlain 27 = .ok (.if_icmp .ne 58, 3) := by decide +kernel
theorem d_Opn_readPlain_85 : decode b_Opn_readPlain 85 = .ok (.iload_n 1, 1) := by decide +kernel
theorem d_Opn_readPlain_86 : decode b_Opn_readPlain 86 = .ok (.iconst 1, 1) := by decide +kernel
theorem d_Opn_readPlain_87 : decode b_Opn_readPlain 87 = .ok (.if_icmp .ne 20, 3) := by decide +kernel
theorem d_Opn_readPlain_107 : decode b_Opn_readPlain 107 = .ok (.aload_n 2, 1) := by decide +kernel
theorem d_Opn_readPlain_108 : decode b_Opn_readPlain 108 = .ok (.iload 6, 2) := by decide +kernel
theorem d_Opn_readPlain_110 : decode b_Opn_readPlain 110 = .ok (.aload_n 0, 1) := by decide +kernel
theorem d_Opn_readPlain_111 : decode b_Opn_readPlain 111 = .ok (.getfield 44, 3) := by decide +kernel
theorem d_Opn_readPlain_114 : decode b_Opn_readPlain 114 = .ok (.bipush 8, 2) := by decide +kernel
theorem d_Opn_readPlain_116 : decode b_Opn_readPlain 116 = .ok (.invokevirtual 69, 3) := by decide +kernel
theorem d_Opn_readPlain_119 : decode b_Opn_readPlain 119 = .ok (.lastore, 1) := by decide +kernel
theorem d_Opn_readPlain_90 : decode b_Opn_readPlain 90 = .ok (.aload_n 2, 1) := by decide +kernel
theorem d_Opn_readPlain_91 : decode b_Opn_readPlain 91 = .ok (.iload 6, 2) := by decide +kernel
theorem d_Opn_readPlain_93 : decode b_Opn_readPlain 93 = .ok (.aload_n 0, 1) := by decide +kernel
theorem d_Opn_readPlain_94 : decode b_Opn_readPlain 94 = .ok (.getfield 44, 3) := by decide +kernel
theorem d_Opn_readPlain_97 : decode b_Opn_readPlain 97 = .ok (.iconst 4, 1) := by decide +kernel
theorem d_Opn_readPlain_98 : decode b_Opn_readPlain 98 = .ok (.invokevirtual 69, 3) := by decide +kernel
theorem d_Opn_readPlain_101 : decode b_Opn_readPlain 101 = .ok (.l2i, 1) := by decide +kernel
theorem d_Opn_readPlain_102 : decode b_Opn_readPlain 102 = .ok (.i2l, 1) := by decide +kernel
theorem d_Opn_readPlain_103 : decode b_Opn_readPlain 103 = .ok (.lastore, 1) := by decide +kernel
theorem d_Opn_readPlain_104 : decode b_Opn_readPlain 104 = .ok (.goto 16, 3) := by decide +kernel
theorem d_Opn_readPlain_30 : decode b_Opn_readPlain 30 = .ok (.aload_n 2, 1) := by decide +kernel
theorem d_Opn_readPlain_31 : decode b_Opn_readPlain 31 = .ok (.iload 6, 2) := by decide +kernel
theorem d_Opn_readPlain_33 : decode b_Opn_readPlain 33 = .ok (.aload_n 0, 1) := by decide +kernel
theorem d_Opn_readPlain_34 : decode b_Opn_readPlain 34 = .ok (.getfield 44, 3) := by decide +kernel
theorem d_Opn_readPlain_37 : decode b_Opn_readPlain 37 = .ok (.aload_n 0, 1) := by decide +kernel
theorem d_Opn_readPlain_38 : decode b_Opn_readPlain 38 = .ok (.getfield 44, 3) := by decide +kernel
theorem d_Opn_readPlain_41 : decode b_Opn_readPlain 41 = .ok (.invokevirtual 85, 3) := by decide +kernel
theorem d_Opn_readPlain_44 : decode b_Opn_readPlain 44 = .ok (.invokevirtual 327, 3) := by decide +kernel
theorem d_Opn_readPlain_47 : decode b_Opn_readPlain 47 = .ok (.lastore, 1) := by decide +kernel
theorem d_Opn_readPlain_48 : decode b_Opn_readPlain 48 = .ok (.iload 5, 2) := by decide +kernel
theorem d_Opn_readPlain_50 : decode b_Opn_readPlain 50 = .ok (.aload_n 2, 1) := by decide +kernel
theorem d_Opn_readPlain_51 : decode b_Opn_readPlain 51 = .ok (.iload 6, 2) := by decide +kernel
theorem d_Opn_readPlain_53 : decode b_Opn_readPlain 53 = .ok (.laload, 1) := by decide +kernel
theorem d_Opn_readPlain_54 : decode b_Opn_readPlain 54 = .ok (.invokestatic 331, 3) := by decide +kernel
theorem d_Opn_readPlain_57 : decode b_Opn_readPlain 57 = .ok (.iadd, 1) := by decide +kernel
theorem d_Opn_readPlain_58 : decode b_Opn_readPlain 58 = .ok (.istore 5, 2) := by decide +kernel
theorem d_Opn_readPlain_60 : decode b_Opn_readPlain 60 = .ok (.aload_n 0, 1) := by decide +kernel
theorem d_Opn_readPlain_61 : decode b_Opn_readPlain 61 = .ok (.getfield 44, 3) := by decide +kernel
theorem d_Opn_readPlain_64 : decode b_Opn_readPlain 64 = .ok (.iload 5, 2) := by decide +kernel
theorem d_Opn_readPlain_66 : decode b_Opn_readPlain 66 = .ok (.sipush 20000, 3) := by decide +kernel
theorem d_Opn_readPlain_69 : decode b_Opn_readPlain 69 = .ok (.if_icmp .gt 7, 3) := by decide +kernel
theorem d_Opn_readPlain_76 : decode b_Opn_readPlain 76 = .ok (.iconst 0, 1) := by decide +kernel
theorem d_Opn_readPlain_72 : decode b_Opn_readPlain 72 = .ok (.iconst 1, 1) := by decide +kernel
theorem d_Opn_readPlain_73 : decode b_Opn_readPlain 73 = .ok (.goto 4, 3) := by decide +kernel
theorem d_Opn_readPlain_0 : decode b_Opn_readPlain 0 = .ok (.iconst 0, 1) := by decide +kernel
theorem d_Opn_readPlain_1 : decode b_Opn_readPlain 1 = .ok (.istore 5, 2) := by decide +kernel
theorem d_Opn_readPlain_3 : decode b_Opn_readPlain 3 = .ok (.iload_n 3, 1) := by decide +kernel
theorem d_Opn_readPlain_4 : decode b_Opn_readPlain 4 = .ok (.istore 6, 2) := by decide +kernel
theorem d_Opn_readDictionary_257 : decode b_Opn_readDictionary 257 = .ok (.iload 5, 2) := by decide +kernel
theorem d_Opn_readDictionary_259 : decode b_Opn_readDictionary 259 = .ok (.bipush 100, 2) := by decide +kernel
theorem d_Opn_readDictionary_261 : decode b_Opn_readDictionary 261 = .ok (.if_icmp .gt 34, 3) := by decide +kernel
theorem d_Opn_readDictionary_295 : decode b_Opn_readDictionary 295 = .ok (.return_, 1) := by decide +kernel
theorem d_Opn_readDictionary_264 : decode b_Opn_readDictionary 264 = .ok (.aload_n 0, 1) := by decide +kernel
theorem d_Opn_readDictionary_265 : decode b_Opn_readDictionary 265 = .ok (.getfield 25, 3) := by decide +kernel
theorem d_Opn_readDictionary_268 : decode b_Opn_readDictionary 268 = .ok (.getfield 240, 3) := by decide +kernel
theorem d_Opn_readDictionary_271 : decode b_Opn_readDictionary 271 = .ok (.iload_n 2, 1) := by decide +kernel
theorem d_Opn_readDictionary_272 : decode b_Opn_readDictionary 272 = .ok (.aload_n 0, 1) := by decide +kernel
theorem d_Opn_readDictionary_273 : decode b_Opn_readDictionary 273 = .ok (.getfield 201, 3) := by decide +kernel
theorem d_Opn_readDictionary_276 : decode b_Opn_readDictionary 276 = .ok (.sipush 128, 3) := by decide +kernel
theorem d_Opn_readDictionary_279 : decode b_Opn_readDictionary 279 = .ok (.imul, 1) := by decide +kernel
theorem d_Opn_readDictionary_280 : decode b_Opn_readDictionary 280 = .ok (.iload 5, 2) := by decide +kernel
theorem d_Opn_readDictionary_282 : decode b_Opn_readDictionary 282 = .ok (.iadd, 1) := by decide +kernel
theorem d_Opn_readDictionary_283 : decode b_Opn_readDictionary 283 = .ok (.iastore, 1) := by decide +kernel
theorem d_Opn_readDictionary_284 : decode b_Opn_readDictionary 284 = .ok (.aload_n 0, 1) := by decide +kernel
theorem d_Opn_readDictionary_285 : decode b_Opn_readDictionary 285 = .ok (.dup, 1) := by decide +kernel
theorem d_Opn_readDictionary_286 : decode b_Opn_readDictionary 286 = .ok (.getfield 201, 3) := by decide +kernel
theorem d_Opn_readDictionary_289 : decode b_Opn_readDictionary 289 = .ok (.iload 5, 2) := by decide +kernel
theorem d_Opn_readDictionary_291 : decode b_Opn_readDictionary 291 = .ok (.iadd, 1) := by decide +kernel
theorem d_Opn_readDictionary_292 : decode b_Opn_readDictionary 292 = .ok (.putfield 201, 3) := by decide +kernel
theorem d_Opn_readDictionary_251 : decode b_Opn_readDictionary 251 = .ok (.iinc 7 1, 3) := by decide +kernel
theorem d_Opn_readDictionary_254 : decode b_Opn_readDictionary 254 = .ok (.goto (-140), 3) := by decide +kernel
theorem d_Opn_readDictionary_246 : decode b_Opn_readDictionary 246 = .ok (.bipush 7, 2) := by decide +kernel
theorem d_Opn_readDictionary_248 : decode b_Opn_readDictionary 248 = .ok (.invokevirtual 95, 3) := by decide +kernel
theorem d_Opn_readDictionary_223 : decode b_Opn_readDictionary 223 = .ok (.iadd, 1) := by decide +kernel
theorem d_Opn_readDictionary_224 : decode b_Opn_readDictionary 224 = .ok (.putfield 269, 3) := by decide +kernel
theorem d_Opn_readDictionary_227 : decode b_Opn_readDictionary 227 = .ok (.aload_n 0, 1) := by decide +kernel
theorem d_Opn_readDictionary_228 : decode b_Opn_readDictionary 228 = .ok (.getfield 44, 3) := by decide +kernel
theorem d_Opn_readDictionary_231 : decode b_Opn_readDictionary 231 = .ok (.aload_n 0, 1) := by decide +kernel
theorem d_Opn_readDictionary_232 : decode b_Opn_readDictionary 232 = .ok (.getfield 269, 3) := by decide +kernel
theorem d_Opn_readDictionary_235 : decode b_Opn_readDictionary 235 = .ok (.sipush 20000, 3) := by decide +kernel
theorem d_Opn_readDictionary_238 : decode b_Opn_readDictionary 238 = .ok (.if_icmp .gt 7, 3) := by decide +kernel
theorem d_Opn_readDictionary_245 : decode b_Opn_readDictionary 245 = .ok (.iconst 0, 1) := by decide +kernel
theorem d_Opn_readDictionary_241 : decode b_Opn_readDictionary 241 = .ok (.iconst 1, 1) := by decide +kernel
theorem d_Opn_readDictionary_242 : decode b_Opn_readDictionary 242 = .ok (.goto 4, 3) := by decide +kernel
theorem d_Opn_readDictionary_156 : decode b_Opn_readDictionary 156 = .ok (.bipush 7, 2) := by decide +kernel
theorem d_Opn_readDictionary_158 : decode b_Opn_readDictionary 158 = .ok (.invokevirtual 95, 3) := by decide +kernel
theorem d_Opn_readDictionary_161 : decode b_Opn_readDictionary 161 = .ok (.aload_n 0, 1) := by decide +kernel
theorem d_Opn_readDictionary_162 : decode b_Opn_readDictionary 162 = .ok (.getfield 44, 3) := by decide +kernel
theorem d_Opn_readDictionary_165 : decode b_Opn_readDictionary 165 = .ok (.getfield 107, 3) := by decide +kernel
theorem d_Opn_readDictionary_168 : decode b_Opn_readDictionary 168 = .ok (.ifCond .ne 83, 3) := by decide +kernel
theorem d_Opn_readDictionary_171 : decode b_Opn_readDictionary 171 = .ok (.aload_n 0, 1) := by decide +kernel
theorem d_Opn_readDictionary_172 : decode b_Opn_readDictionary 172 = .ok (.getfield 22, 3) := by decide +kernel
theorem d_Opn_readDictionary_175 : decode b_Opn_readDictionary 175 = .ok (.iload 7, 2) := by decide +kernel
theorem d_Opn_readDictionary_177 : decode b_Opn_readDictionary 177 = .ok (.aload_n 0, 1) := by decide +kernel
theorem d_Opn_readDictionary_178 : decode b_Opn_readDictionary 178 = .ok (.getfield 25, 3) := by decide +kernel
theorem d_Opn_readDictionary_181 : decode b_Opn_readDictionary 181 = .ok (.getfield 343, 3) := by decide +kernel
theorem d_Opn_readDictionary_184 : decode b_Opn_readDictionary 184 = .ok (.aload_n 0, 1) := by decide +kernel
theorem d_Opn_readDictionary_185 : decode b_Opn_readDictionary 185 = .ok (.getfield 201, 3) := by decide +kernel
theorem d_Opn_readDictionary_188 : decode b_Opn_readDictionary 188 = .ok (.aload_n 0, 1) := by decide +kernel
theorem d_Opn_readDictionary_189 : decode b_Opn_readDictionary 189 = .ok (.getfield 19, 3) := by decide +kernel
theorem d_Opn_readDictionary_192 : decode b_Opn_readDictionary 192 = .ok (.iload 7, 2) := by decide +kernel
theorem d_Opn_readDictionary_194 : decode b_Opn_readDictionary 194 = .ok (.laload, 1) := by decide +kernel
theorem d_Opn_readDictionary_195 : decode b_Opn_readDictionary 195 = .ok (.l2i, 1) := by decide +kernel
theorem d_Opn_readDictionary_196 : decode b_Opn_readDictionary 196 = .ok (.iadd, 1) := by decide +kernel
theorem d_Opn_readDictionary_197 : decode b_Opn_readDictionary 197 = .ok (.laload, 1) := by decide +kernel
theorem d_Opn_readDictionary_198 : decode b_Opn_readDictionary 198 = .ok (.lastore, 1) := by decide +kernel
theorem d_Opn_readDictionary_199 : decode b_Opn_readDictionary 199 = .ok (.aload_n 0, 1) := by decide +kernel
theorem d_Opn_readDictionary_200 : decode b_Opn_readDictionary 200 = .ok (.dup, 1) := by decide +kernel
theorem d_Opn_readDictionary_201 : decode b_Opn_readDictionary 201 = .ok (.getfield 269, 3) := by decide +kernel
theorem d_Opn_readDictionary_204 : decode b_Opn_readDictionary 204 = .ok (.iload_n 1, 1) := by decide +kernel
theorem d_Opn_readDictionary_205 : decode b_Opn_readDictionary 205 = .ok (.iconst 3, 1) := by decide +kernel
theorem d_Opn_readDictionary_206 : decode b_Opn_readDictionary 206 = .ok (.if_icmp .ne 16, 3) := by decide +kernel
theorem d_Opn_readDictionary_222 : decode b_Opn_readDictionary 222 = .ok (.iconst 0, 1) := by decide +kernel
theorem d_Opn_readDictionary_209 : decode b_Opn_readDictionary 209 = .ok (.aload_n 0, 1) := by decide +kernel
theorem d_Opn_readDictionary_210 : decode b_Opn_readDictionary 210 = .ok (.getfield 22, 3) := by decide +kernel
theorem d_Opn_readDictionary_213 : decode b_Opn_readDictionary 213 = .ok (.iload 7, 2) := by decide +kernel
theorem d_Opn_readDictionary_215 : decode b_Opn_readDictionary 215 = .ok (.laload, 1) := by decide +kernel
theorem d_Opn_readDictionary_216 : decode b_Opn_readDictionary 216 = .ok (.invokestatic 331, 3) := by decide +kernel
theorem d_Opn_readDictionary_219 : decode b_Opn_readDictionary 219 = .ok (.goto 4, 3) := by decide +kernel
theorem d_Opn_readDictionary_114 : decode b_Opn_readDictionary 114 = .ok (.iload 7, 2) := by decide +kernel
theorem d_Opn_readDictionary_116 : decode b_Opn_readDictionary 116 = .ok (.aload_n 0, 1) := by decide +kernel
theorem d_Opn_readDictionary_117 : decode b_Opn_readDictionary 117 = .ok (.getfield 266, 3) := by decide +kernel
theorem d_Opn_readDictionary_120 : decode b_Opn_readDictionary 120 = .ok (.if_icmp .ge 137, 3) := by decide +kernel
theorem d_Opn_readDictionary_123 : decode b_Opn_readDictionary 123 = .ok (.aload_n 0, 1) := by decide +kernel
theorem d_Opn_readDictionary_124 : decode b_Opn_readDictionary 124 = .ok (.getfield 44, 3) := by decide +kernel
theorem d_Opn_readDictionary_127 : decode b_Opn_readDictionary 127 = .ok (.getfield 107, 3) := by decide +kernel
theorem d_Opn_readDictionary_130 : decode b_Opn_readDictionary 130 = .ok (.ifCond .ne 127, 3) := by decide +kernel
theorem d_Opn_readDictionary_133 : decode b_Opn_readDictionary 133 = .ok (.aload_n 0, 1) := by decide +kernel
theorem d_Opn_readDictionary_134 : decode b_Opn_readDictionary 134 = .ok (.getfield 44, 3) := by decide +kernel
theorem d_Opn_readDictionary_137 : decode b_Opn_readDictionary 137 = .ok (.aload_n 0, 1) := by decide +kernel
theorem d_Opn_readDictionary_138 : decode b_Opn_readDictionary 138 = .ok (.getfield 19, 3) := by decide +kernel
theorem d_Opn_readDictionary_141 : decode b_Opn_readDictionary 141 = .ok (.iload 7, 2) := by decide +kernel
theorem d_Opn_readDictionary_143 : decode b_Opn_readDictionary 143 = .ok (.laload, 1) := by decide +kernel
theorem d_Opn_readDictionary_144 : decode b_Opn_readDictionary 144 = .ok (.iload 5, 2) := by decide +kernel
theorem d_Opn_readDictionary_146 : decode b_Opn_readDictionary 146 = .ok (.i2l, 1) := by decide +kernel
theorem d_Opn_readDictionary_147 : decode b_Opn_readDictionary 147 = .ok (.lcmp, 1) := by decide +kernel
theorem d_Opn_readDictionary_148 : decode b_Opn_readDictionary 148 = .ok (.ifCond .ge 7, 3) := by decide +kernel
theorem d_Opn_readDictionary_155 : decode b_Opn_readDictionary 155 = .ok (.iconst 0, 1) := by decide +kernel
theorem d_Opn_readDictionary_151 : decode b_Opn_readDictionary 151 = .ok (.iconst 1, 1) := by decide +kernel
theorem d_Opn_readDictionary_152 : decode b_Opn_readDictionary 152 = .ok (.goto 4, 3) := by decide +kernel
theorem d_Opn_readDictionary_83 : decode b_Opn_readDictionary 83 = .ok (.iconst 5, 1) := by decide +kernel
theorem d_Opn_readDictionary_84 : decode b_Opn_readDictionary 84 = .ok (.invokevirtual 95, 3) := by decide +kernel
theorem d_Opn_readDictionary_87 : decode b_Opn_readDictionary 87 = .ok (.aload_n 0, 1) := by decide +kernel
theorem d_Opn_readDictionary_88 : decode b_Opn_readDictionary 88 = .ok (.getfield 44, 3) := by decide +kernel
theorem d_Opn_readDictionary_91 : decode b_Opn_readDictionary 91 = .ok (.aload_n 0, 1) := by decide +kernel
theorem d_Opn_readDictionary_92 : decode b_Opn_readDictionary 92 = .ok (.getfield 19, 3) := by decide +kernel
theorem d_Opn_readDictionary_95 : decode b_Opn_readDictionary 95 = .ok (.aload_n 0, 1) := by decide +kernel
theorem d_Opn_readDictionary_96 : decode b_Opn_readDictionary 96 = .ok (.getfield 266, 3) := by decide +kernel
theorem d_Opn_readDictionary_99 : decode b_Opn_readDictionary 99 = .ok (.iload 6, 2) := by decide +kernel
theorem d_Opn_readDictionary_101 : decode b_Opn_readDictionary 101 = .ok (.invokevirtual 300, 3) := by decide +kernel
theorem d_Opn_readDictionary_104 : decode b_Opn_readDictionary 104 = .ok (.aload_n 0, 1) := by decide +kernel
theorem d_Opn_readDictionary_105 : decode b_Opn_readDictionary 105 = .ok (.getfield 44, 3) := by decide +kernel
theorem d_Opn_readDictionary_108 : decode b_Opn_readDictionary 108 = .ok (.invokevirtual 127, 3) := by decide +kernel
theorem d_Opn_readDictionary_111 : decode b_Opn_readDictionary 111 = .ok (.iconst 0, 1) := by decide +kernel
theorem d_Opn_readDictionary_112 : decode b_Opn_readDictionary 112 = .ok (.istore 7, 2) := by decide +kernel
theorem d_Opn_readDictionary_0 : decode b_Opn_readDictionary 0 = .ok (.aload_n 0, 1) := by decide +kernel
theorem d_Opn_readDictionary_1 : decode b_Opn_readDictionary 1 = .ok (.getfield 44, 3) := by decide +kernel
theorem d_Opn_readDictionary_4 : decode b_Opn_readDictionary 4 = .ok (.invokevirtual 85, 3) := by decide +kernel
theorem d_Opn_readDictionary_7 : decode b_Opn_readDictionary 7 = .ok (.lstore_n 3, 1) := by decide +kernel
theorem d_Opn_readDictionary_8 : decode b_Opn_readDictionary 8 = .ok (.aload_n 0, 1) := by decide +kernel
theorem d_Opn_readDictionary_9 : decode b_Opn_readDictionary 9 = .ok (.getfield 44, 3) := by decide +kernel
theorem d_Opn_readDictionary_12 : decode b_Opn_readDictionary 12 = .ok (.lload_n 3, 1) := by decide +kernel
theorem d_Opn_readDictionary_13 : decode b_Opn_readDictionary 13 = .ok (.aload_n 0, 1) := by decide +kernel
theorem d_Opn_readDictionary_14 : decode b_Opn_readDictionary 14 = .ok (.getfield 266, 3) := by decide +kernel
theorem d_Opn_readDictionary_17 : decode b_Opn_readDictionary 17 = .ok (.i2l, 1) := by decide +kernel
theorem d_Opn_readDictionary_18 : decode b_Opn_readDictionary 18 = .ok (.invokestatic 91, 3) := by decide +kernel
theorem d_Opn_readDictionary_21 : decode b_Opn_readDictionary 21 = .ok (.iconst 4, 1) := by decide +kernel
theorem d_Opn_readDictionary_22 : decode b_Opn_readDictionary 22 = .ok (.invokevirtual 95, 3) := by decide +kernel
theorem d_Opn_readDictionary_25 : decode b_Opn_readDictionary 25 = .ok (.aload_n 0, 1) := by decide +kernel
theorem d_Opn_readDictionary_26 : decode b_Opn_readDictionary 26 = .ok (.getfield 44, 3) := by decide +kernel
theorem d_Opn_readDictionary_29 : decode b_Opn_readDictionary 29 = .ok (.getfield 107, 3) := by decide +kernel
theorem d_Opn_readDictionary_32 : decode b_Opn_readDictionary 32 = .ok (.ifCond .eq 4, 3) := by decide +kernel
theorem d_Opn_readDictionary_36 : decode b_Opn_readDictionary 36 = .ok (.lload_n 3, 1) := by decide +kernel
theorem d_Opn_readDictionary_37 : decode b_Opn_readDictionary 37 = .ok (.l2i, 1) := by decide +kernel
theorem d_Opn_readDictionary_38 : decode b_Opn_readDictionary 38 = .ok (.istore 5, 2) := by decide +kernel
theorem d_Opn_readDictionary_40 : decode b_Opn_readDictionary 40 = .ok (.aload_n 0, 1) := by decide +kernel
theorem d_Opn_readDictionary_41 : decode b_Opn_readDictionary 41 = .ok (.iload_n 1, 1) := by decide +kernel
theorem d_Opn_readDictionary_42 : decode b_Opn_readDictionary 42 = .ok (.aload_n 0, 1) := by decide +kernel
theorem d_Opn_readDictionary_43 : decode b_Opn_readDictionary 43 = .ok (.getfield 25, 3) := by decide +kernel
theorem d_Opn_readDictionary_46 : decode b_Opn_readDictionary 46 = .ok (.getfield 343, 3) := by decide +kernel
theorem d_Opn_readDictionary_49 : decode b_Opn_readDictionary 49 = .ok (.aload_n 0, 1) := by decide +kernel
theorem d_Opn_readDictionary_50 : decode b_Opn_readDictionary 50 = .ok (.getfield 201, 3) := by decide +kernel
theorem d_Opn_readDictionary_53 : decode b_Opn_readDictionary 53 = .ok (.iload 5, 2) := by decide +kernel
theorem d_Opn_readDictionary_55 : decode b_Opn_readDictionary 55 = .ok (.invokevirtual 310, 3) := by decide +kernel
theorem d_Opn_readDictionary_58 : decode b_Opn_readDictionary 58 = .ok (.aload_n 0, 1) := by decide +kernel
theorem d_Opn_readDictionary_59 : decode b_Opn_readDictionary 59 = .ok (.getfield 44, 3) := by decide +kernel
theorem d_Opn_readDictionary_62 : decode b_Opn_readDictionary 62 = .ok (.invokevirtual 155, 3) := by decide +kernel
theorem d_Opn_readDictionary_65 : decode b_Opn_readDictionary 65 = .ok (.istore 6, 2) := by decide +kernel
theorem d_Opn_readDictionary_67 : decode b_Opn_readDictionary 67 = .ok (.aload_n 0, 1) := by decide +kernel
theorem d_Opn_readDictionary_68 : decode b_Opn_readDictionary 68 = .ok (.getfield 44, 3) := by decide +kernel
theorem d_Opn_readDictionary_71 : decode b_Opn_readDictionary 71 = .ok (.iload 6, 2) := by decide +kernel
theorem d_Opn_readDictionary_73 : decode b_Opn_readDictionary 73 = .ok (.bipush 32, 2) := by decide +kernel
theorem d_Opn_readDictionary_75 : decode b_Opn_readDictionary 75 = .ok (.if_icmp .gt 7, 3) := by decide +kernel
theorem d_Opn_readDictionary_82 : decode b_Opn_readDictionary 82 = .ok (.iconst 0, 1) := by decide +kernel
theorem d_Opn_readDictionary_78 : decode b_Opn_readDictionary 78 = .ok (.iconst 1, 1) := by decide +kernel
theorem d_Opn_readDictionary_79 : decode b_Opn_readDictionary 79 = .ok (.goto 4, 3) := by decide +kernel
theorem d_Opn_readDictionary_35 : decode b_Opn_readDictionary 35 = .ok (.return_, 1) := by decide +kernel
section
variable (l : Launch) (dC : Nat → ClassId) (dI : Nat → Nat → Nat) (cI cB cJ cZ : ClassId)
set_option maxRecDepth 100000 in
set_option maxHeartbeats 4000000 in
set_option maxRecDepth 100000 in
theorem t_Opn_countNulls_39 {p : Program} {l : Launch} {e : Env} {R : Room} {s : State} {m : MethodId} {args : Array Value} {below : List Frame} {meth : Method} {c : Code} {cells slots : Nat} {Q : State → Prop} {dC : Nat → ClassId} {dI : Nat → Nat → Nat} {cI cB cJ cZ : ClassId} {A : Nat → Prop} {ad : Nat → Nat} {NN : Nat} {E : Heap} {tM tC : Nat} {kK kV : Nat → Nat} {post : Int32 → St → Prop} {rec5 : Nat → Int32 → Int32 → Int32 → Int32 → St → Prop} (hx : p.tables.exec = Jvm.exec) (hb : c.code = b_Opn_countNulls) (hml : c.maxLocals = 5) (hown : s.vm.findClass R_Opn = some m.cls) (hT : ∀ w ∈ TG, w.before args s = true) (hK : va_K (dC, dI) CL (TY cI cB cJ cZ) s) (hN : NW s) (hA : ∀ q : Nat, s.heap.size ≤ q → A q) (hRc : cells ≤ R.cells) (hRs : slots ≤ R.slots) (hRf : 0 ≤ R.frames) (hRl : 0 ≤ R.locals) (hNN : 152 ≤ NN) (hE : CE E tM tC kK kV A s) (hret : ∀ (r : Int32) (x : St) (H : Heap) (locs : List Loc) (pc : Nat) (ls : Array Slot), decode b_Opn_countNulls pc = .ok (.ireturn, 1) → post r x → Wd dC dI cI cB cJ cZ ad stC kcC NN A x H → va_S A s.heap H locs → W p l e R s m args below meth c H locs cells slots Q (F0 m pc ls [.int r])) (hrec5 : ∀ (o : Nat) (l1 : Int32) (l2 : Int32) (l3 : Int32) (l4 : Int32) (x : St) (H : Heap) (locs : List Loc) (ls : Array Slot), (o < NN ∧ kcC o = 7) → rec5 o l1 l2 l3 l4 x → Wd dC dI cI cB cJ cZ ad stC kcC NN A x H → va_S A s.heap H locs → lv_has ls 5 [(0, .ref (ad o)), (1, .int l1), (2, .int l2), (3, .int l3), (4, .int l4)] → W p l e R s m args below meth c H locs cells slots Q (F0 m 5 ls [])) : ∀ (o : Nat) (l1 : Int32) (l2 : Int32) (l3 : Int32) (l4 : Int32) (s0 : Int32) (s1 : Int32) (x : St) (H : Heap) (locs : List Loc) (ls : Array Slot), (o < NN ∧ kcC o = 7) → j_Opn_countNulls_39 post rec5 o l1 l2 l3 l4 s0 s1 x → Wd dC dI cI cB cJ cZ ad stC kcC NN A x H → va_S A s.heap H locs → lv_has ls 5 [(0, .ref (ad o)), (1, .int l1), (2, .int l2), (3, .int l3), (4, .int l4)] → W p l e R s m args below meth c H locs cells slots Q (F0 m 39 ls [.int s0, .int s1]) := by
  intro o l1 l2 l3 l4 s0 s1 x H locs ls fo hw hW hS hl
  unfold j_Opn_countNulls_39 at hw
  refine lv_iadd hx hb d_Opn_countNulls_39 ?_
  refine lv_topi (fun v1 ev1 => ?_)
  have hw := hw v1 ev1
  refine lv_istore_n (lv' := [(3, .int v1), (0, .ref (ad o)), (1, .int l1), (2, .int l2), (4, .int l4)]) hx hb d_Opn_countNulls_40 rfl hl (by decide) rfl (fun ls hl => ?_)
  refine lv_iinc (v := (l4 + 1)) (lv' := [(4, .int (l4 + 1)), (3, .int v1), (0, .ref (ad o)), (1, .int l1), (2, .int l2)]) hx hb d_Opn_countNulls_41 hl (k := 4) rfl rfl (by decide) rfl (fun ls hl => ?_)
  refine lv_goto (tgt := 5) hx hb d_Opn_countNulls_44 (by decide) ?_
  exact hrec5 o l1 l2 v1 (l4 + 1) x H locs ls fo hw hW hS (lv_sub hl [2, 3, 4, 1, 0] rfl)
set_option maxRecDepth 100000 in
set_option maxHeartbeats 4000000 in
set_option maxRecDepth 100000 in
theorem t_Opn_countNulls_5 {p : Program} {l : Launch} {e : Env} {R : Room} {s : State} {m : MethodId} {args : Array Value} {below : List Frame} {meth : Method} {c : Code} {cells slots : Nat} {Q : State → Prop} {dC : Nat → ClassId} {dI : Nat → Nat → Nat} {cI cB cJ cZ : ClassId} {A : Nat → Prop} {ad : Nat → Nat} {NN : Nat} {E : Heap} {tM tC : Nat} {kK kV : Nat → Nat} {post : Int32 → St → Prop} {rec5 : Nat → Int32 → Int32 → Int32 → Int32 → St → Prop} (hx : p.tables.exec = Jvm.exec) (hb : c.code = b_Opn_countNulls) (hml : c.maxLocals = 5) (hown : s.vm.findClass R_Opn = some m.cls) (hT : ∀ w ∈ TG, w.before args s = true) (hK : va_K (dC, dI) CL (TY cI cB cJ cZ) s) (hN : NW s) (hA : ∀ q : Nat, s.heap.size ≤ q → A q) (hRc : cells ≤ R.cells) (hRs : slots ≤ R.slots) (hRf : 0 ≤ R.frames) (hRl : 0 ≤ R.locals) (hNN : 152 ≤ NN) (hE : CE E tM tC kK kV A s) (hret : ∀ (r : Int32) (x : St) (H : Heap) (locs : List Loc) (pc : Nat) (ls : Array Slot), decode b_Opn_countNulls pc = .ok (.ireturn, 1) → post r x → Wd dC dI cI cB cJ cZ ad stC kcC NN A x H → va_S A s.heap H locs → W p l e R s m args below meth c H locs cells slots Q (F0 m pc ls [.int r])) (hrec5 : ∀ (o : Nat) (l1 : Int32) (l2 : Int32) (l3 : Int32) (l4 : Int32) (x : St) (H : Heap) (locs : List Loc) (ls : Array Slot), (o < NN ∧ kcC o = 7) → rec5 o l1 l2 l3 l4 x → Wd dC dI cI cB cJ cZ ad stC kcC NN A x H → va_S A s.heap H locs → lv_has ls 5 [(0, .ref (ad o)), (1, .int l1), (2, .int l2), (3, .int l3), (4, .int l4)] → W p l e R s m args below meth c H locs cells slots Q (F0 m 5 ls [])) : ∀ (o : Nat) (l1 : Int32) (l2 : Int32) (l3 : Int32) (l4 : Int32) (x : St) (H : Heap) (locs : List Loc) (ls : Array Slot), (o < NN ∧ kcC o = 7) → j_Opn_countNulls_5 post rec5 o l1 l2 l3 l4 x → Wd dC dI cI cB cJ cZ ad stC kcC NN A x H → va_S A s.heap H locs → lv_has ls 5 [(0, .ref (ad o)), (1, .int l1), (2, .int l2), (3, .int l3), (4, .int l4)] → W p l e R s m args below meth c H locs cells slots Q (F0 m 5 ls []) := by
  intro o l1 l2 l3 l4 x H locs ls fo hw hW hS hl
  unfold j_Opn_countNulls_5 at hw
  refine lv_iload hx hb d_Opn_countNulls_5 (lv_at hl 4 rfl) ?_
  refine lv_iload_n hx hb d_Opn_countNulls_7 rfl (lv_at hl 1 rfl) ?_
  refine lv_icmp_ge (tgt := 47) hx hb d_Opn_countNulls_8 (by decide) (fun c2 => ?_) (fun c2 => ?_)
  · have hw := hw.1 c2
    refine lv_iload_n hx hb d_Opn_countNulls_47 rfl (lv_at hl 3 rfl) ?_
    exact hret l3 x H locs 48 ls d_Opn_countNulls_48 hw hW hS
  · have hw := hw.2 c2
    refine lv_iload_n hx hb d_Opn_countNulls_11 rfl (lv_at hl 3 rfl) ?_
    refine lv_aload_n hx hb d_Opn_countNulls_12 rfl (lv_at hl 0 rfl) ?_
    refine w_getf (q := (stC o 0)) (k := 0) (t := 7) (C := R_Opn) (T := F_Opn) (N := 17) hx hb hT hown hK hW fo.1 fo.2 (by decide) in_Opn rfl rfl (by decide) rfl fr_Opn_0 w_3_15 d_Opn_countNulls_13 rfl ?_
    refine w_getf (q := (stC (stC o 0) 8)) (k := 8) (t := 6) (C := R_Vlt) (T := F_Vlt) (N := 20) hx hb hT hown hK hW (st_ty hNN fo.1 fo.2 rfl).1 (st_ty hNN fo.1 fo.2 rfl).2 (by decide) in_Vlt rfl rfl (by decide) rfl fr_Vlt_8 w_2_149 d_Opn_countNulls_16 rfl ?_
    refine lv_aload_n hx hb d_Opn_countNulls_19 rfl (lv_at hl 0 rfl) ?_
    refine w_getf (q := (stC o 0)) (k := 0) (t := 7) (C := R_Opn) (T := F_Opn) (N := 17) hx hb hT hown hK hW fo.1 fo.2 (by decide) in_Opn rfl rfl (by decide) rfl fr_Opn_0 w_3_15 d_Opn_countNulls_20 rfl ?_
    refine w_geti (k := 4) (t := 6) (C := R_Vlt) (T := F_Vlt) (N := 20) hx hb hT hown hK hW (st_ty hNN fo.1 fo.2 rfl).1 (st_ty hNN fo.1 fo.2 rfl).2 (by decide) in_Vlt rfl rfl (by decide) rfl fr_Vlt_4 w_2_133 d_Opn_countNulls_23 ?_
    refine lv_iload hx hb d_Opn_countNulls_26 (lv_at hl 4 rfl) ?_
    refine lv_iadd hx hb d_Opn_countNulls_28 ?_
    obtain ⟨hi, hw⟩ := hw
    refine w_bald (o := (stC (stC o 0) 8)) hx hb hK hW (st_ty hNN (st_ty hNN fo.1 fo.2 rfl).1 (st_ty hNN fo.1 fo.2 rfl).2 rfl).1 (st_ty hNN (st_ty hNN fo.1 fo.2 rfl).1 (st_ty hNN fo.1 fo.2 rfl).2 rfl).2 hi d_Opn_countNulls_29 ?_
    refine lv_iload_n hx hb d_Opn_countNulls_30 rfl (lv_at hl 2 rfl) ?_
    refine lv_icmp_ge (tgt := 38) hx hb d_Opn_countNulls_31 (by decide) (fun c3 => ?_) (fun c3 => ?_)
    · have hw := hw.1 c3
      refine lv_iconst (v := 0) hx hb d_Opn_countNulls_38 (by decide) ?_
      exact t_Opn_countNulls_39 hx hb hml hown hT hK hN hA hRc hRs hRf hRl hNN hE hret hrec5 o l1 l2 l3 l4 0 l3 x H locs ls fo hw hW hS (lv_sub hl [0, 1, 2, 3, 4] rfl)
    · have hw := hw.2 c3
      refine lv_iconst (v := 1) hx hb d_Opn_countNulls_34 (by decide) ?_
      refine lv_goto (tgt := 39) hx hb d_Opn_countNulls_35 (by decide) ?_
      exact t_Opn_countNulls_39 hx hb hml hown hT hK hN hA hRc hRs hRf hRl hNN hE hret hrec5 o l1 l2 l3 l4 1 l3 x H locs ls fo hw hW hS (lv_sub hl [0, 1, 2, 3, 4] rfl)
set_option maxHeartbeats 4000000 in
set_option maxRecDepth 100000 in
theorem tl_Opn_countNulls_5 {p : Program} {l : Launch} {e : Env} {R : Room} {s : State} {m : MethodId} {args : Array Value} {below : List Frame} {meth : Method} {c : Code} {cells slots : Nat} {Q : State → Prop} {dC : Nat → ClassId} {dI : Nat → Nat → Nat} {cI cB cJ cZ : ClassId} {A : Nat → Prop} {ad : Nat → Nat} {NN : Nat} {E : Heap} {tM tC : Nat} {kK kV : Nat → Nat} {post : Int32 → St → Prop} (hx : p.tables.exec = Jvm.exec) (hb : c.code = b_Opn_countNulls) (hml : c.maxLocals = 5) (hown : s.vm.findClass R_Opn = some m.cls) (hT : ∀ w ∈ TG, w.before args s = true) (hK : va_K (dC, dI) CL (TY cI cB cJ cZ) s) (hN : NW s) (hA : ∀ q : Nat, s.heap.size ≤ q → A q) (hRc : cells ≤ R.cells) (hRs : slots ≤ R.slots) (hRf : 0 ≤ R.frames) (hRl : 0 ≤ R.locals) (hNN : 152 ≤ NN) (hE : CE E tM tC kK kV A s) (hret : ∀ (r : Int32) (x : St) (H : Heap) (locs : List Loc) (pc : Nat) (ls : Array Slot), decode b_Opn_countNulls pc = .ok (.ireturn, 1) → post r x → Wd dC dI cI cB cJ cZ ad stC kcC NN A x H → va_S A s.heap H locs → W p l e R s m args below meth c H locs cells slots Q (F0 m pc ls [.int r]))  : ∀ n : Nat, ∀ (o : Nat) (l1 : Int32) (l2 : Int32) (l3 : Int32) (l4 : Int32) (x : St) (H : Heap) (locs : List Loc) (ls : Array Slot), (o < NN ∧ kcC o = 7) → wl_Opn_countNulls_5 post n o l1 l2 l3 l4 x → Wd dC dI cI cB cJ cZ ad stC kcC NN A x H → va_S A s.heap H locs → lv_has ls 5 [(0, .ref (ad o)), (1, .int l1), (2, .int l2), (3, .int l3), (4, .int l4)] → W p l e R s m args below meth c H locs cells slots Q (F0 m 5 ls []) := by
  intro n
  induction n with
  | zero => intro o l1 l2 l3 l4 x H locs ls fo hw; exact hw.elim
  | succ n ih => intro o l1 l2 l3 l4 x H locs ls fo hw hW hS hl; exact t_Opn_countNulls_5 hx hb hml hown hT hK hN hA hRc hRs hRf hRl hNN hE hret  ih o l1 l2 l3 l4 x H locs ls fo hw hW hS hl
set_option maxRecDepth 100000 in
set_option maxHeartbeats 4000000 in
set_option maxRecDepth 100000 in
theorem t_Opn_countNulls_e {p : Program} {l : Launch} {e : Env} {R : Room} {s : State} {m : MethodId} {args : Array Value} {below : List Frame} {meth : Method} {c : Code} {cells slots : Nat} {Q : State → Prop} {dC : Nat → ClassId} {dI : Nat → Nat → Nat} {cI cB cJ cZ : ClassId} {A : Nat → Prop} {ad : Nat → Nat} {NN : Nat} {E : Heap} {tM tC : Nat} {kK kV : Nat → Nat} {post : Int32 → St → Prop} (hx : p.tables.exec = Jvm.exec) (hb : c.code = b_Opn_countNulls) (hml : c.maxLocals = 5) (hown : s.vm.findClass R_Opn = some m.cls) (hT : ∀ w ∈ TG, w.before args s = true) (hK : va_K (dC, dI) CL (TY cI cB cJ cZ) s) (hN : NW s) (hA : ∀ q : Nat, s.heap.size ≤ q → A q) (hRc : cells ≤ R.cells) (hRs : slots ≤ R.slots) (hRf : 0 ≤ R.frames) (hRl : 0 ≤ R.locals) (hNN : 152 ≤ NN) (hE : CE E tM tC kK kV A s) (hret : ∀ (r : Int32) (x : St) (H : Heap) (locs : List Loc) (pc : Nat) (ls : Array Slot), decode b_Opn_countNulls pc = .ok (.ireturn, 1) → post r x → Wd dC dI cI cB cJ cZ ad stC kcC NN A x H → va_S A s.heap H locs → W p l e R s m args below meth c H locs cells slots Q (F0 m pc ls [.int r])) : ∀ (o : Nat) (l1 : Int32) (l2 : Int32) (x : St) (H : Heap) (locs : List Loc) (ls : Array Slot), (o < NN ∧ kcC o = 7) → wp_Opn_countNulls post o l1 l2 x → Wd dC dI cI cB cJ cZ ad stC kcC NN A x H → va_S A s.heap H locs → lv_has ls 5 [(0, .ref (ad o)), (1, .int l1), (2, .int l2)] → W p l e R s m args below meth c H locs cells slots Q (F0 m 0 ls []) := by
  intro o l1 l2 x H locs ls fo hw hW hS hl
  unfold wp_Opn_countNulls at hw
  refine lv_iconst (v := 0) hx hb d_Opn_countNulls_0 (by decide) ?_
  refine lv_istore_n (lv' := [(3, .int 0), (0, .ref (ad o)), (1, .int l1), (2, .int l2)]) hx hb d_Opn_countNulls_1 rfl hl (by decide) rfl (fun ls hl => ?_)
  refine lv_iconst (v := 0) hx hb d_Opn_countNulls_2 (by decide) ?_
  refine lv_istore (lv' := [(4, .int 0), (3, .int 0), (0, .ref (ad o)), (1, .int l1), (2, .int l2)]) hx hb d_Opn_countNulls_3 hl (by decide) rfl (fun ls hl => ?_)
  obtain ⟨n, hw⟩ := hw
  exact tl_Opn_countNulls_5 hx hb hml hown hT hK hN hA hRc hRs hRf hRl hNN hE hret  n o l1 l2 0 0 x H locs ls fo hw hW hS (lv_sub hl [2, 3, 4, 1, 0] rfl)
set_option maxHeartbeats 4000000 in
set_option maxRecDepth 100000 in
theorem k_Opn_countNulls (l : Launch) (dC : Nat → ClassId) (dI : Nat → Nat → Nat) (cI cB cJ cZ : ClassId) (ad : Nat → Nat) (NN : Nat) (E : Heap) (tM tC : Nat) (kK kV : Nat → Nat) (hNN : 152 ≤ NN) (sz : Nat) (o : Nat) (l1 : Int32) (l2 : Int32) (x : St) (fo : o < NN ∧ kcC o = 7) {post : Int32 → St → Prop} (hw : wp_Opn_countNulls post o l1 l2 x) : Met l y_Opn_countNulls (wsOf y_Opn_countNulls b_Opn_countNulls 5 (some (.int))) ({ frames := 0, cells := 0, slots := 0, locals := 0 }) (va_Pc [.ref (ad o), .int l1, .int l2] (PVc dC dI cI cB cJ cZ ad stC kcC NN E tM tC kK kV sz x)) (va_Qi (fun (r : Int32) (y : St) => post r y) (fun y t => Wd dC dI cI cB cJ cZ ad stC kcC NN (va_A (pic ad stC kcC NN cI cB cJ cZ x) sz) y t.heap) (va_A (pic ad stC kcC NN cI cB cJ cZ x) sz)) 0 0 (va_A (pic ad stC kcC NN cI cB cJ cZ x) sz) := by
  refine Met.ofW (cc := b_Opn_countNulls) (maxL := 5) (ret := some (.int)) (by decide) rfl ?_
  intro p e s m args below meth c s₁ B hml hv
  obtain ⟨rfl, ⟨hsz, hW0, hK, hN⟩, hE⟩ := hv
  have hx := B.exec
  have hb := B.bytes
  have hr := B.returns
  have hts := atoms_spec B.pre
  have hT : ∀ w ∈ TG, w.before _ s = true := fun w h => hts w (List.mem_cons_of_mem _ h)
  have hown : s.vm.findClass R_Opn = some m.cls := findClass_of_methodNamed B.named
  have hlocks := B.notSynchronized
  subst hsz
  have hW : Wd dC dI cI cB cJ cZ ad stC kcC NN (va_A (pic ad stC kcC NN cI cB cJ cZ x) s.heap.size) x s.heap := ⟨hW0.1, hW0.2.1.self (sz := s.heap.size), hW0.2.2⟩
  generalize hAe : va_A (pic ad stC kcC NN cI cB cJ cZ x) s.heap.size = A at hW hE ⊢
  have hA : ∀ q : Nat, s.heap.size ≤ q → A q := fun q h => by rw [← hAe]; exact Or.inr h
  have hS : va_S A s.heap s.heap [] := va_S.rf
  have hl := lv_entry ([.ref (ad o), .int l1, .int l2]) (n := 5) (Nat.le_of_ble_eq_true rfl)
  rw [lg_entry_eq]
  generalize (lg_sl ([.ref (ad o), .int l1, .int l2]) ++ List.replicate (5 - (lg_sl ([.ref (ad o), .int l1, .int l2])).length) Slot.unset).toArray = ls at hl ⊢
  have hl : lv_has ls 5 [(0, .ref (ad o)), (1, .int l1), (2, .int l2)] := hl
  exact t_Opn_countNulls_e hx hb hml hown hT hK hN hA (Nat.le_refl 0) (Nat.le_refl 0) (Nat.le_refl 0) (Nat.le_refl 0) hNN hE (fun r x H locs pc ls hd hp hW hS => W.iret (v := r) hx hb hr (fun t ht hM => ⟨⟨r, x, rfl, hp, Wd.back hW ht.symm (fun _ z => z)⟩, hS.F ht⟩) hS.2.2 hd hlocks)  o l1 l2 x _ _ ls fo hw hW hS hl
set_option maxRecDepth 100000 in
set_option maxHeartbeats 4000000 in
set_option maxRecDepth 100000 in
theorem t_Opn_readBools_82 {p : Program} {l : Launch} {e : Env} {R : Room} {s : State} {m : MethodId} {args : Array Value} {below : List Frame} {meth : Method} {c : Code} {cells slots : Nat} {Q : State → Prop} {dC : Nat → ClassId} {dI : Nat → Nat → Nat} {cI cB cJ cZ : ClassId} {A : Nat → Prop} {ad : Nat → Nat} {NN : Nat} {E : Heap} {tM tC : Nat} {kK kV : Nat → Nat} {post : St → Prop} (hx : p.tables.exec = Jvm.exec) (hb : c.code = b_Opn_readBools) (hml : c.maxLocals = 4) (hown : s.vm.findClass R_Opn = some m.cls) (hT : ∀ w ∈ TG, w.before args s = true) (hK : va_K (dC, dI) CL (TY cI cB cJ cZ) s) (hN : NW s) (hA : ∀ q : Nat, s.heap.size ≤ q → A q) (hRc : cells ≤ R.cells) (hRs : slots ≤ R.slots) (hRf : 4 ≤ R.frames) (hRl : 168 ≤ R.locals) (hNN : 152 ≤ NN) (hE : CE E tM tC kK kV A s) (hret : ∀ (x : St) (H : Heap) (locs : List Loc) (pc : Nat) (ls : Array Slot), decode b_Opn_readBools pc = .ok (.return_, 1) → post x → Wd dC dI cI cB cJ cZ ad stC kcC NN A x H → va_S A s.heap H locs → W p l e R s m args below meth c H locs cells slots Q (F0 m pc ls []))  : ∀ (o : Nat) (l1 : Int32) (l2 : Int32) (l3 : Int32) (s0 : Int32) (s1 : Nat) (x : St) (H : Heap) (locs : List Loc) (ls : Array Slot), (o < NN ∧ kcC o = 7) → (s1 < NN ∧ kcC s1 = 8) → j_Opn_readBools_82 post o l1 l2 l3 s0 s1 x → Wd dC dI cI cB cJ cZ ad stC kcC NN A x H → va_S A s.heap H locs → lv_has ls 4 [(0, .ref (ad o)), (1, .int l1), (2, .int l2), (3, .int l3)] → W p l e R s m args below meth c H locs cells slots Q (F0 m 82 ls [.int s0, .ref (ad s1)]) := by
  intro o l1 l2 l3 s0 s1 x H locs ls fo fs1 hw hW hS hl
  unfold j_Opn_readBools_82 at hw
  refine lv_iconst (v := 5) hx hb d_Opn_readBools_82 (by decide) ?_
  have hF := hW.free hS hA
  refine va_callv (va_runV (C := R_Src) (As := [.int s0, .int 5]) (rest := []) ⟨hx, hb, hml, hown, hT⟩ (k_Src_check l dC dI cI cB cJ cZ ad NN E tM tC kK kV hNN H.size s1 s0 5 x fs1 hw) ⟨callB_of 2 hT (gwt_in w_6_116) rfl rfl rfl (hT _ w_1_11) (hT _ w_6_113) (by decide +kernel) ⟨Nat.le_trans (Nat.le_of_ble_eq_true rfl) hRf, Nat.le_trans (Nat.le_of_ble_eq_true rfl) hRl⟩, hT _ w_6_114, hT _ w_6_115⟩ ⟨PVc.blind, va_recv hK hW.1 (ci := 8) (q0 := s1) rfl (pic_obj fs1.1 fs1.2 (by decide)), PVc.at _ hW hK hN hE hS hF⟩ rfl rfl hl.1 rfl (lv_room (Nat.le_of_ble_eq_true rfl)) d_Opn_readBools_83 ⟨hRc, hRs⟩) hS (fun q _ h => hF q h) hF (fun  x1 t H locs ht hvm hw hB hz1 hk1 hS => ?_)
  have hW := Wd.back hB ht hF
  clear hB ht hF hz1 hk1 hvm
  exact hret x1 H locs 86 ls d_Opn_readBools_86 hw hW hS
set_option maxRecDepth 100000 in
set_option maxHeartbeats 4000000 in
set_option maxRecDepth 100000 in
theorem t_Opn_readBools_49 {p : Program} {l : Launch} {e : Env} {R : Room} {s : State} {m : MethodId} {args : Array Value} {below : List Frame} {meth : Method} {c : Code} {cells slots : Nat} {Q : State → Prop} {dC : Nat → ClassId} {dI : Nat → Nat → Nat} {cI cB cJ cZ : ClassId} {A : Nat → Prop} {ad : Nat → Nat} {NN : Nat} {E : Heap} {tM tC : Nat} {kK kV : Nat → Nat} {post : St → Prop} {rec26 : Nat → Int32 → Int32 → Int32 → St → Prop} (hx : p.tables.exec = Jvm.exec) (hb : c.code = b_Opn_readBools) (hml : c.maxLocals = 4) (hown : s.vm.findClass R_Opn = some m.cls) (hT : ∀ w ∈ TG, w.before args s = true) (hK : va_K (dC, dI) CL (TY cI cB cJ cZ) s) (hN : NW s) (hA : ∀ q : Nat, s.heap.size ≤ q → A q) (hRc : cells ≤ R.cells) (hRs : slots ≤ R.slots) (hRf : 4 ≤ R.frames) (hRl : 168 ≤ R.locals) (hNN : 152 ≤ NN) (hE : CE E tM tC kK kV A s) (hret : ∀ (x : St) (H : Heap) (locs : List Loc) (pc : Nat) (ls : Array Slot), decode b_Opn_readBools pc = .ok (.return_, 1) → post x → Wd dC dI cI cB cJ cZ ad stC kcC NN A x H → va_S A s.heap H locs → W p l e R s m args below meth c H locs cells slots Q (F0 m pc ls [])) (hrec26 : ∀ (o : Nat) (l1 : Int32) (l2 : Int32) (l3 : Int32) (x : St) (H : Heap) (locs : List Loc) (ls : Array Slot), (o < NN ∧ kcC o = 7) → rec26 o l1 l2 l3 x → Wd dC dI cI cB cJ cZ ad stC kcC NN A x H → va_S A s.heap H locs → lv_has ls 4 [(0, .ref (ad o)), (1, .int l1), (2, .int l2), (3, .int l3)] → W p l e R s m args below meth c H locs cells slots Q (F0 m 26 ls [])) : ∀ (o : Nat) (l1 : Int32) (l2 : Int32) (l3 : Int32) (x : St) (H : Heap) (locs : List Loc) (ls : Array Slot), (o < NN ∧ kcC o = 7) → j_Opn_readBools_49 post rec26 o l1 l2 l3 x → Wd dC dI cI cB cJ cZ ad stC kcC NN A x H → va_S A s.heap H locs → lv_has ls 4 [(0, .ref (ad o)), (1, .int l1), (2, .int l2), (3, .int l3)] → W p l e R s m args below meth c H locs cells slots Q (F0 m 49 ls []) := by
  intro o l1 l2 l3 x H locs ls fo hw hW hS hl
  unfold j_Opn_readBools_49 at hw
  refine lv_aload_n hx hb d_Opn_readBools_49 rfl (lv_at hl 0 rfl) ?_
  refine w_getf (q := (stC o 8)) (k := 8) (t := 7) (C := R_Opn) (T := F_Opn) (N := 17) hx hb hT hown hK hW fo.1 fo.2 (by decide) in_Opn rfl rfl (by decide) rfl fr_Opn_8 w_3_24 d_Opn_readBools_50 rfl ?_
  refine lv_iload_n hx hb d_Opn_readBools_53 rfl (lv_at hl 3 rfl) ?_
  refine lv_iload_n hx hb d_Opn_readBools_54 rfl (lv_at hl 2 rfl) ?_
  refine lv_iconst (v := 1) hx hb d_Opn_readBools_55 (by decide) ?_
  refine lv_iand hx hb d_Opn_readBools_56 ?_
  refine lv_i2l hx hb d_Opn_readBools_57 rfl ?_
  obtain ⟨hi, hw⟩ := hw
  refine w_last (o := (stC o 8)) hx hb hK hW hS (st_ty hNN fo.1 fo.2 rfl).1 (st_ty hNN fo.1 fo.2 rfl).2 hi d_Opn_readBools_58 (fun H locs hW hS => ?_)
  obtain ⟨x2, ex2⟩ : ∃ y : St, y = setL x (stC o 8) l3 ((l2 &&& 1) : Int32).toInt64 := ⟨_, rfl⟩
  rw [← ex2] at hW
  have hw := hw x2 ex2
  refine lv_iload_n hx hb d_Opn_readBools_59 rfl (lv_at hl 2 rfl) ?_
  refine lv_iconst (v := 1) hx hb d_Opn_readBools_60 (by decide) ?_
  refine lv_ishr hx hb d_Opn_readBools_61 ?_
  refine lv_topi (fun v3 ev3 => ?_)
  have hw := hw v3 ev3
  refine lv_istore_n (lv' := [(2, .int v3), (0, .ref (ad o)), (1, .int l1), (3, .int l3)]) hx hb d_Opn_readBools_62 rfl hl (by decide) rfl (fun ls hl => ?_)
  refine lv_iinc (v := (l3 + 1)) (lv' := [(3, .int (l3 + 1)), (2, .int v3), (0, .ref (ad o)), (1, .int l1)]) hx hb d_Opn_readBools_63 hl (k := 3) rfl rfl (by decide) rfl (fun ls hl => ?_)
  refine lv_goto (tgt := 26) hx hb d_Opn_readBools_66 (by decide) ?_
  exact hrec26 o l1 v3 (l3 + 1) x2 H locs ls fo hw hW hS (lv_sub hl [2, 3, 1, 0] rfl)
set_option maxRecDepth 100000 in
set_option maxHeartbeats 4000000 in
set_option maxRecDepth 100000 in
theorem t_Opn_readBools_26 {p : Program} {l : Launch} {e : Env} {R : Room} {s : State} {m : MethodId} {args : Array Value} {below : List Frame} {meth : Method} {c : Code} {cells slots : Nat} {Q : State → Prop} {dC : Nat → ClassId} {dI : Nat → Nat → Nat} {cI cB cJ cZ : ClassId} {A : Nat → Prop} {ad : Nat → Nat} {NN : Nat} {E : Heap} {tM tC : Nat} {kK kV : Nat → Nat} {post : St → Prop} {rec26 : Nat → Int32 → Int32 → Int32 → St → Prop} (hx : p.tables.exec = Jvm.exec) (hb : c.code = b_Opn_readBools) (hml : c.maxLocals = 4) (hown : s.vm.findClass R_Opn = some m.cls) (hT : ∀ w ∈ TG, w.before args s = true) (hK : va_K (dC, dI) CL (TY cI cB cJ cZ) s) (hN : NW s) (hA : ∀ q : Nat, s.heap.size ≤ q → A q) (hRc : cells ≤ R.cells) (hRs : slots ≤ R.slots) (hRf : 4 ≤ R.frames) (hRl : 168 ≤ R.locals) (hNN : 152 ≤ NN) (hE : CE E tM tC kK kV A s) (hret : ∀ (x : St) (H : Heap) (locs : List Loc) (pc : Nat) (ls : Array Slot), decode b_Opn_readBools pc = .ok (.return_, 1) → post x → Wd dC dI cI cB cJ cZ ad stC kcC NN A x H → va_S A s.heap H locs → W p l e R s m args below meth c H locs cells slots Q (F0 m pc ls [])) (hrec26 : ∀ (o : Nat) (l1 : Int32) (l2 : Int32) (l3 : Int32) (x : St) (H : Heap) (locs : List Loc) (ls : Array Slot), (o < NN ∧ kcC o = 7) → rec26 o l1 l2 l3 x → Wd dC dI cI cB cJ cZ ad stC kcC NN A x H → va_S A s.heap H locs → lv_has ls 4 [(0, .ref (ad o)), (1, .int l1), (2, .int l2), (3, .int l3)] → W p l e R s m args below meth c H locs cells slots Q (F0 m 26 ls [])) : ∀ (o : Nat) (l1 : Int32) (l2 : Int32) (l3 : Int32) (x : St) (H : Heap) (locs : List Loc) (ls : Array Slot), (o < NN ∧ kcC o = 7) → j_Opn_readBools_26 post rec26 o l1 l2 l3 x → Wd dC dI cI cB cJ cZ ad stC kcC NN A x H → va_S A s.heap H locs → lv_has ls 4 [(0, .ref (ad o)), (1, .int l1), (2, .int l2), (3, .int l3)] → W p l e R s m args below meth c H locs cells slots Q (F0 m 26 ls []) := by
  intro o l1 l2 l3 x H locs ls fo hw hW hS hl
  unfold j_Opn_readBools_26 at hw
  refine lv_iload_n hx hb d_Opn_readBools_26 rfl (lv_at hl 3 rfl) ?_
  refine lv_aload_n hx hb d_Opn_readBools_27 rfl (lv_at hl 0 rfl) ?_
  refine w_geti (k := 9) (t := 7) (C := R_Opn) (T := F_Opn) (N := 17) hx hb hT hown hK hW fo.1 fo.2 (by decide) in_Opn rfl rfl (by decide) rfl fr_Opn_9 w_3_25 d_Opn_readBools_28 ?_
  refine lv_icmp_ge (tgt := 69) hx hb d_Opn_readBools_31 (by decide) (fun c4 => ?_) (fun c4 => ?_)
  · have hw := hw.1 c4
    refine lv_aload_n hx hb d_Opn_readBools_69 rfl (lv_at hl 0 rfl) ?_
    refine w_getf (q := (stC o 2)) (k := 2) (t := 7) (C := R_Opn) (T := F_Opn) (N := 17) hx hb hT hown hK hW fo.1 fo.2 (by decide) in_Opn rfl rfl (by decide) rfl fr_Opn_2 w_3_17 d_Opn_readBools_70 rfl ?_
    refine lv_iload_n hx hb d_Opn_readBools_73 rfl (lv_at hl 2 rfl) ?_
    refine lv_if_ne (tgt := 81) hx hb d_Opn_readBools_74 (by decide) (fun c5 => ?_) (fun c5 => ?_)
    · have hw := hw.1 c5
      refine lv_iconst (v := 0) hx hb d_Opn_readBools_81 (by decide) ?_
      exact t_Opn_readBools_82 hx hb hml hown hT hK hN hA hRc hRs hRf hRl hNN hE hret  o l1 l2 l3 0 (stC o 2) x H locs ls fo (st_ty hNN fo.1 fo.2 rfl) hw hW hS (lv_sub hl [0, 1, 2, 3] rfl)
    · have hw := hw.2 c5
      refine lv_iconst (v := 1) hx hb d_Opn_readBools_77 (by decide) ?_
      refine lv_goto (tgt := 82) hx hb d_Opn_readBools_78 (by decide) ?_
      exact t_Opn_readBools_82 hx hb hml hown hT hK hN hA hRc hRs hRf hRl hNN hE hret  o l1 l2 l3 1 (stC o 2) x H locs ls fo (st_ty hNN fo.1 fo.2 rfl) hw hW hS (lv_sub hl [0, 1, 2, 3] rfl)
  · have hw := hw.2 c4
    refine lv_iload_n hx hb d_Opn_readBools_34 rfl (lv_at hl 3 rfl) ?_
    refine lv_bipush (v := 7) hx hb d_Opn_readBools_35 (by decide) ?_
    refine lv_iand hx hb d_Opn_readBools_37 ?_
    refine lv_if_ne (tgt := 49) hx hb d_Opn_readBools_38 (by decide) (fun c6 => ?_) (fun c6 => ?_)
    · have hw := hw.1 c6
      exact t_Opn_readBools_49 hx hb hml hown hT hK hN hA hRc hRs hRf hRl hNN hE hret hrec26 o l1 l2 l3 x H locs ls fo hw hW hS (lv_sub hl [0, 1, 2, 3] rfl)
    · have hw := hw.2 c6
      refine lv_aload_n hx hb d_Opn_readBools_41 rfl (lv_at hl 0 rfl) ?_
      refine w_getf (q := (stC o 2)) (k := 2) (t := 7) (C := R_Opn) (T := F_Opn) (N := 17) hx hb hT hown hK hW fo.1 fo.2 (by decide) in_Opn rfl rfl (by decide) rfl fr_Opn_2 w_3_17 d_Opn_readBools_42 rfl ?_
      have hF := hW.free hS hA
      refine va_calli (va_runV (C := R_Src) (As := []) (rest := []) ⟨hx, hb, hml, hown, hT⟩ (k_Src_readByte l dC dI cI cB cJ cZ ad NN E tM tC kK kV hNN H.size (stC o 2) x (st_ty hNN fo.1 fo.2 rfl) hw) ⟨callB_of 0 hT (gwt_in w_6_124) rfl rfl rfl (hT _ w_1_11) (hT _ w_6_121) (by decide +kernel) ⟨Nat.le_trans (Nat.le_of_ble_eq_true rfl) hRf, Nat.le_trans (Nat.le_of_ble_eq_true rfl) hRl⟩, hT _ w_6_122, hT _ w_6_123⟩ ⟨PVc.blind, va_recv hK hW.1 (ci := 8) (q0 := (stC o 2)) rfl (pic_obj (st_ty hNN fo.1 fo.2 rfl).1 (st_ty hNN fo.1 fo.2 rfl).2 (by decide)), PVc.at _ hW hK hN hE hS hF⟩ rfl rfl hl.1 rfl (lv_room (Nat.le_of_ble_eq_true rfl)) d_Opn_readBools_45 ⟨hRc, hRs⟩) hS (fun q _ h => hF q h) hF (fun r8 x7 t H locs ht hvm hw hB hz1 hk1 hS => ?_)
      have hW := Wd.back hB ht hF
      clear hB ht hF hz1 hk1 hvm
      refine lv_istore_n (lv' := [(2, .int r8), (0, .ref (ad o)), (1, .int l1), (3, .int l3)]) hx hb d_Opn_readBools_48 rfl hl (by decide) rfl (fun ls hl => ?_)
      exact t_Opn_readBools_49 hx hb hml hown hT hK hN hA hRc hRs hRf hRl hNN hE hret hrec26 o l1 r8 l3 x7 H locs ls fo hw hW hS (lv_sub hl [1, 2, 0, 3] rfl)
set_option maxHeartbeats 4000000 in
set_option maxRecDepth 100000 in
theorem tl_Opn_readBools_26 {p : Program} {l : Launch} {e : Env} {R : Room} {s : State} {m : MethodId} {args : Array Value} {below : List Frame} {meth : Method} {c : Code} {cells slots : Nat} {Q : State → Prop} {dC : Nat → ClassId} {dI : Nat → Nat → Nat} {cI cB cJ cZ : ClassId} {A : Nat → Prop} {ad : Nat → Nat} {NN : Nat} {E : Heap} {tM tC : Nat} {kK kV : Nat → Nat} {post : St → Prop} (hx : p.tables.exec = Jvm.exec) (hb : c.code = b_Opn_readBools) (hml : c.maxLocals = 4) (hown : s.vm.findClass R_Opn = some m.cls) (hT : ∀ w ∈ TG, w.before args s = true) (hK : va_K (dC, dI) CL (TY cI cB cJ cZ) s) (hN : NW s) (hA : ∀ q : Nat, s.heap.size ≤ q → A q) (hRc : cells ≤ R.cells) (hRs : slots ≤ R.slots) (hRf : 4 ≤ R.frames) (hRl : 168 ≤ R.locals) (hNN : 152 ≤ NN) (hE : CE E tM tC kK kV A s) (hret : ∀ (x : St) (H : Heap) (locs : List Loc) (pc : Nat) (ls : Array Slot), decode b_Opn_readBools pc = .ok (.return_, 1) → post x → Wd dC dI cI cB cJ cZ ad stC kcC NN A x H → va_S A s.heap H locs → W p l e R s m args below meth c H locs cells slots Q (F0 m pc ls []))  : ∀ n : Nat, ∀ (o : Nat) (l1 : Int32) (l2 : Int32) (l3 : Int32) (x : St) (H : Heap) (locs : List Loc) (ls : Array Slot), (o < NN ∧ kcC o = 7) → wl_Opn_readBools_26 post n o l1 l2 l3 x → Wd dC dI cI cB cJ cZ ad stC kcC NN A x H → va_S A s.heap H locs → lv_has ls 4 [(0, .ref (ad o)), (1, .int l1), (2, .int l2), (3, .int l3)] → W p l e R s m args below meth c H locs cells slots Q (F0 m 26 ls []) := by
  intro n
  induction n with
  | zero => intro o l1 l2 l3 x H locs ls fo hw; exact hw.elim
  | succ n ih => intro o l1 l2 l3 x H locs ls fo hw hW hS hl; exact t_Opn_readBools_26 hx hb hml hown hT hK hN hA hRc hRs hRf hRl hNN hE hret  ih o l1 l2 l3 x H locs ls fo hw hW hS hl
set_option maxRecDepth 100000 in
set_option maxHeartbeats 4000000 in
set_option maxRecDepth 100000 in
theorem t_Opn_readBools_e {p : Program} {l : Launch} {e : Env} {R : Room} {s : State} {m : MethodId} {args : Array Value} {below : List Frame} {meth : Method} {c : Code} {cells slots : Nat} {Q : State → Prop} {dC : Nat → ClassId} {dI : Nat → Nat → Nat} {cI cB cJ cZ : ClassId} {A : Nat → Prop} {ad : Nat → Nat} {NN : Nat} {E : Heap} {tM tC : Nat} {kK kV : Nat → Nat} {post : St → Prop} (hx : p.tables.exec = Jvm.exec) (hb : c.code = b_Opn_readBools) (hml : c.maxLocals = 4) (hown : s.vm.findClass R_Opn = some m.cls) (hT : ∀ w ∈ TG, w.before args s = true) (hK : va_K (dC, dI) CL (TY cI cB cJ cZ) s) (hN : NW s) (hA : ∀ q : Nat, s.heap.size ≤ q → A q) (hRc : cells ≤ R.cells) (hRs : slots ≤ R.slots) (hRf : 4 ≤ R.frames) (hRl : 168 ≤ R.locals) (hNN : 152 ≤ NN) (hE : CE E tM tC kK kV A s) (hret : ∀ (x : St) (H : Heap) (locs : List Loc) (pc : Nat) (ls : Array Slot), decode b_Opn_readBools pc = .ok (.return_, 1) → post x → Wd dC dI cI cB cJ cZ ad stC kcC NN A x H → va_S A s.heap H locs → W p l e R s m args below meth c H locs cells slots Q (F0 m pc ls [])) : ∀ (o : Nat) (l1 : Int32) (x : St) (H : Heap) (locs : List Loc) (ls : Array Slot), (o < NN ∧ kcC o = 7) → wp_Opn_readBools post o l1 x → Wd dC dI cI cB cJ cZ ad stC kcC NN A x H → va_S A s.heap H locs → lv_has ls 4 [(0, .ref (ad o)), (1, .int l1)] → W p l e R s m args below meth c H locs cells slots Q (F0 m 0 ls []) := by
  intro o l1 x H locs ls fo hw hW hS hl
  unfold wp_Opn_readBools at hw
  refine lv_iload_n hx hb d_Opn_readBools_0 rfl (lv_at hl 1 rfl) ?_
  refine lv_iconst (v := 1) hx hb d_Opn_readBools_1 (by decide) ?_
  refine lv_icmp_ne (tgt := 22) hx hb d_Opn_readBools_2 (by decide) (fun c9 => ?_) (fun c9 => ?_)
  · have hw := hw.1 c9
    refine lv_iconst (v := 0) hx hb d_Opn_readBools_22 (by decide) ?_
    refine lv_istore_n (lv' := [(2, .int 0), (0, .ref (ad o)), (1, .int l1)]) hx hb d_Opn_readBools_23 rfl hl (by decide) rfl (fun ls hl => ?_)
    refine lv_iconst (v := 0) hx hb d_Opn_readBools_24 (by decide) ?_
    refine lv_istore_n (lv' := [(3, .int 0), (2, .int 0), (0, .ref (ad o)), (1, .int l1)]) hx hb d_Opn_readBools_25 rfl hl (by decide) rfl (fun ls hl => ?_)
    obtain ⟨n, hw⟩ := hw
    exact tl_Opn_readBools_26 hx hb hml hown hT hK hN hA hRc hRs hRf hRl hNN hE hret  n o l1 0 0 x H locs ls fo hw hW hS (lv_sub hl [2, 3, 1, 0] rfl)
  · have hw := hw.2 c9
    refine lv_aload_n hx hb d_Opn_readBools_5 rfl (lv_at hl 0 rfl) ?_
    refine w_getf (q := (stC o 2)) (k := 2) (t := 7) (C := R_Opn) (T := F_Opn) (N := 17) hx hb hT hown hK hW fo.1 fo.2 (by decide) in_Opn rfl rfl (by decide) rfl fr_Opn_2 w_3_17 d_Opn_readBools_6 rfl ?_
    refine lv_aload_n hx hb d_Opn_readBools_9 rfl (lv_at hl 0 rfl) ?_
    refine w_getf (q := (stC o 8)) (k := 8) (t := 7) (C := R_Opn) (T := F_Opn) (N := 17) hx hb hT hown hK hW fo.1 fo.2 (by decide) in_Opn rfl rfl (by decide) rfl fr_Opn_8 w_3_24 d_Opn_readBools_10 rfl ?_
    refine lv_aload_n hx hb d_Opn_readBools_13 rfl (lv_at hl 0 rfl) ?_
    refine w_geti (k := 9) (t := 7) (C := R_Opn) (T := F_Opn) (N := 17) hx hb hT hown hK hW fo.1 fo.2 (by decide) in_Opn rfl rfl (by decide) rfl fr_Opn_9 w_3_25 d_Opn_readBools_14 ?_
    refine lv_iconst (v := 1) hx hb d_Opn_readBools_17 (by decide) ?_
    have hF := hW.free hS hA
    refine va_callv (va_runV (C := R_Src) (As := [.ref (ad (stC o 8)), .int (fI x o 9), .int 1]) (rest := []) ⟨hx, hb, hml, hown, hT⟩ (k_Src_readRuns l dC dI cI cB cJ cZ ad NN E tM tC kK kV hNN H.size (stC o 2) (stC o 8) (fI x o 9) 1 x (st_ty hNN fo.1 fo.2 rfl) (st_ty hNN fo.1 fo.2 rfl) hw) ⟨callB_of 3 hT (gwt_in w_6_202) rfl rfl rfl (hT _ w_1_11) (hT _ w_6_199) (by decide +kernel) ⟨Nat.le_trans (Nat.le_of_ble_eq_true rfl) hRf, Nat.le_trans (Nat.le_of_ble_eq_true rfl) hRl⟩, hT _ w_6_200, hT _ w_6_201⟩ ⟨PVc.blind, va_recv hK hW.1 (ci := 8) (q0 := (stC o 2)) rfl (pic_obj (st_ty hNN fo.1 fo.2 rfl).1 (st_ty hNN fo.1 fo.2 rfl).2 (by decide)), PVc.at _ hW hK hN hE hS hF⟩ rfl rfl hl.1 rfl (lv_room (Nat.le_of_ble_eq_true rfl)) d_Opn_readBools_18 ⟨hRc, hRs⟩) hS (fun q _ h => hF q h) hF (fun  x10 t H locs ht hvm hw hB hz1 hk1 hS => ?_)
    have hW := Wd.back hB ht hF
    clear hB ht hF hz1 hk1 hvm
    exact hret x10 H locs 21 ls d_Opn_readBools_21 hw hW hS
set_option maxHeartbeats 4000000 in
set_option maxRecDepth 100000 in
theorem k_Opn_readBools (l : Launch) (dC : Nat → ClassId) (dI : Nat → Nat → Nat) (cI cB cJ cZ : ClassId) (ad : Nat → Nat) (NN : Nat) (E : Heap) (tM tC : Nat) (kK kV : Nat → Nat) (hNN : 152 ≤ NN) (sz : Nat) (o : Nat) (l1 : Int32) (x : St) (fo : o < NN ∧ kcC o = 7) {post : St → Prop} (hw : wp_Opn_readBools post o l1 x) : Met l y_Opn_readBools (wsOf y_Opn_readBools b_Opn_readBools 4 (none)) ({ frames := 4, cells := 0, slots := 0, locals := 168 }) (va_Pc [.ref (ad o), .int l1] (PVc dC dI cI cB cJ cZ ad stC kcC NN E tM tC kK kV sz x)) (va_Qv (fun (y : St) => post y) (fun y t => Wd dC dI cI cB cJ cZ ad stC kcC NN (va_A (pic ad stC kcC NN cI cB cJ cZ x) sz) y t.heap) (va_A (pic ad stC kcC NN cI cB cJ cZ x) sz)) 0 0 (va_A (pic ad stC kcC NN cI cB cJ cZ x) sz) := by
  refine Met.ofW (cc := b_Opn_readBools) (maxL := 4) (ret := none) (by decide) rfl ?_
  intro p e s m args below meth c s₁ B hml hv
  obtain ⟨rfl, ⟨hsz, hW0, hK, hN⟩, hE⟩ := hv
  have hx := B.exec
  have hb := B.bytes
  have hr := B.returns
  have hts := atoms_spec B.pre
  have hT : ∀ w ∈ TG, w.before _ s = true := fun w h => hts w (List.mem_cons_of_mem _ h)
  have hown : s.vm.findClass R_Opn = some m.cls := findClass_of_methodNamed B.named
  have hlocks := B.notSynchronized
  subst hsz
  have hW : Wd dC dI cI cB cJ cZ ad stC kcC NN (va_A (pic ad stC kcC NN cI cB cJ cZ x) s.heap.size) x s.heap := ⟨hW0.1, hW0.2.1.self (sz := s.heap.size), hW0.2.2⟩
  generalize hAe : va_A (pic ad stC kcC NN cI cB cJ cZ x) s.heap.size = A at hW hE ⊢
  have hA : ∀ q : Nat, s.heap.size ≤ q → A q := fun q h => by rw [← hAe]; exact Or.inr h
  have hS : va_S A s.heap s.heap [] := va_S.rf
  have hl := lv_entry ([.ref (ad o), .int l1]) (n := 4) (Nat.le_of_ble_eq_true rfl)
  rw [lg_entry_eq]
  generalize (lg_sl ([.ref (ad o), .int l1]) ++ List.replicate (4 - (lg_sl ([.ref (ad o), .int l1])).length) Slot.unset).toArray = ls at hl ⊢
  have hl : lv_has ls 4 [(0, .ref (ad o)), (1, .int l1)] := hl
  exact t_Opn_readBools_e hx hb hml hown hT hK hN hA (Nat.le_refl 0) (Nat.le_refl 0) (Nat.le_refl 4) (Nat.le_refl 168) hNN hE (fun x H locs pc ls hd hp hW hS => W.vret hx hb hr (fun t ht hM => ⟨⟨x, rfl, hp, Wd.back hW ht.symm (fun _ z => z)⟩, hS.F ht⟩) hS.2.2 hd hlocks)  o l1 x _ _ ls fo hw hW hS hl
set_option maxRecDepth 100000 in
set_option maxHeartbeats 4000000 in
set_option maxRecDepth 100000 in
theorem t_Opn_readPlain_120 {p : Program} {l : Launch} {e : Env} {R : Room} {s : State} {m : MethodId} {args : Array Value} {below : List Frame} {meth : Method} {c : Code} {cells slots : Nat} {Q : State → Prop} {dC : Nat → ClassId} {dI : Nat → Nat → Nat} {cI cB cJ cZ : ClassId} {A : Nat → Prop} {ad : Nat → Nat} {NN : Nat} {E : Heap} {tM tC : Nat} {kK kV : Nat → Nat} {post : St → Prop} {rec6 : Nat → Int32 → Nat → Int32 → Int32 → Int32 → Int32 → St → Prop} (hx : p.tables.exec = Jvm.exec) (hb : c.code = b_Opn_readPlain) (hml : c.maxLocals = 7) (hown : s.vm.findClass R_Opn = some m.cls) (hT : ∀ w ∈ TG, w.before args s = true) (hK : va_K (dC, dI) CL (TY cI cB cJ cZ) s) (hN : NW s) (hA : ∀ q : Nat, s.heap.size ≤ q → A q) (hRc : cells ≤ R.cells) (hRs : slots ≤ R.slots) (hRf : 2 ≤ R.frames) (hRl : 46 ≤ R.locals) (hNN : 152 ≤ NN) (hE : CE E tM tC kK kV A s) (hret : ∀ (x : St) (H : Heap) (locs : List Loc) (pc : Nat) (ls : Array Slot), decode b_Opn_readPlain pc = .ok (.return_, 1) → post x → Wd dC dI cI cB cJ cZ ad stC kcC NN A x H → va_S A s.heap H locs → W p l e R s m args below meth c H locs cells slots Q (F0 m pc ls [])) (hrec6 : ∀ (o : Nat) (l1 : Int32) (l2 : Nat) (l3 : Int32) (l4 : Int32) (l5 : Int32) (l6 : Int32) (x : St) (H : Heap) (locs : List Loc) (ls : Array Slot), (o < NN ∧ kcC o = 7) → (l2 < NN ∧ kcC l2 = 22) → rec6 o l1 l2 l3 l4 l5 l6 x → Wd dC dI cI cB cJ cZ ad stC kcC NN A x H → va_S A s.heap H locs → lv_has ls 7 [(0, .ref (ad o)), (1, .int l1), (2, .ref (ad l2)), (3, .int l3), (4, .int l4), (5, .int l5), (6, .int l6)] → W p l e R s m args below meth c H locs cells slots Q (F0 m 6 ls [])) : ∀ (o : Nat) (l1 : Int32) (l2 : Nat) (l3 : Int32) (l4 : Int32) (l5 : Int32) (l6 : Int32) (x : St) (H : Heap) (locs : List Loc) (ls : Array Slot), (o < NN ∧ kcC o = 7) → (l2 < NN ∧ kcC l2 = 22) → j_Opn_readPlain_120 post rec6 o l1 l2 l3 l4 l5 l6 x → Wd dC dI cI cB cJ cZ ad stC kcC NN A x H → va_S A s.heap H locs → lv_has ls 7 [(0, .ref (ad o)), (1, .int l1), (2, .ref (ad l2)), (3, .int l3), (4, .int l4), (5, .int l5), (6, .int l6)] → W p l e R s m args below meth c H locs cells slots Q (F0 m 120 ls []) := by
  intro o l1 l2 l3 l4 l5 l6 x H locs ls fo fl2 hw hW hS hl
  unfold j_Opn_readPlain_120 at hw
  refine lv_iinc (v := (l6 + 1)) (lv' := [(6, .int (l6 + 1)), (0, .ref (ad o)), (1, .int l1), (2, .ref (ad l2)), (3, .int l3), (4, .int l4), (5, .int l5)]) hx hb d_Opn_readPlain_120 hl (k := 6) rfl rfl (by decide) rfl (fun ls hl => ?_)
  refine lv_goto (tgt := 6) hx hb d_Opn_readPlain_123 (by decide) ?_
  exact hrec6 o l1 l2 l3 l4 l5 (l6 + 1) x H locs ls fo fl2 hw hW hS (lv_sub hl [1, 2, 3, 4, 5, 6, 0] rfl)
set_option maxRecDepth 100000 in
set_option maxHeartbeats 4000000 in
set_option maxRecDepth 100000 in
theorem t_Opn_readPlain_77 {p : Program} {l : Launch} {e : Env} {R : Room} {s : State} {m : MethodId} {args : Array Value} {below : List Frame} {meth : Method} {c : Code} {cells slots : Nat} {Q : State → Prop} {dC : Nat → ClassId} {dI : Nat → Nat → Nat} {cI cB cJ cZ : ClassId} {A : Nat → Prop} {ad : Nat → Nat} {NN : Nat} {E : Heap} {tM tC : Nat} {kK kV : Nat → Nat} {post : St → Prop} {rec6 : Nat → Int32 → Nat → Int32 → Int32 → Int32 → Int32 → St → Prop} (hx : p.tables.exec = Jvm.exec) (hb : c.code = b_Opn_readPlain) (hml : c.maxLocals = 7) (hown : s.vm.findClass R_Opn = some m.cls) (hT : ∀ w ∈ TG, w.before args s = true) (hK : va_K (dC, dI) CL (TY cI cB cJ cZ) s) (hN : NW s) (hA : ∀ q : Nat, s.heap.size ≤ q → A q) (hRc : cells ≤ R.cells) (hRs : slots ≤ R.slots) (hRf : 2 ≤ R.frames) (hRl : 46 ≤ R.locals) (hNN : 152 ≤ NN) (hE : CE E tM tC kK kV A s) (hret : ∀ (x : St) (H : Heap) (locs : List Loc) (pc : Nat) (ls : Array Slot), decode b_Opn_readPlain pc = .ok (.return_, 1) → post x → Wd dC dI cI cB cJ cZ ad stC kcC NN A x H → va_S A s.heap H locs → W p l e R s m args below meth c H locs cells slots Q (F0 m pc ls [])) (hrec6 : ∀ (o : Nat) (l1 : Int32) (l2 : Nat) (l3 : Int32) (l4 : Int32) (l5 : Int32) (l6 : Int32) (x : St) (H : Heap) (locs : List Loc) (ls : Array Slot), (o < NN ∧ kcC o = 7) → (l2 < NN ∧ kcC l2 = 22) → rec6 o l1 l2 l3 l4 l5 l6 x → Wd dC dI cI cB cJ cZ ad stC kcC NN A x H → va_S A s.heap H locs → lv_has ls 7 [(0, .ref (ad o)), (1, .int l1), (2, .ref (ad l2)), (3, .int l3), (4, .int l4), (5, .int l5), (6, .int l6)] → W p l e R s m args below meth c H locs cells slots Q (F0 m 6 ls [])) : ∀ (o : Nat) (l1 : Int32) (l2 : Nat) (l3 : Int32) (l4 : Int32) (l5 : Int32) (l6 : Int32) (s0 : Int32) (s1 : Nat) (x : St) (H : Heap) (locs : List Loc) (ls : Array Slot), (o < NN ∧ kcC o = 7) → (l2 < NN ∧ kcC l2 = 22) → (s1 < NN ∧ kcC s1 = 8) → j_Opn_readPlain_77 post rec6 o l1 l2 l3 l4 l5 l6 s0 s1 x → Wd dC dI cI cB cJ cZ ad stC kcC NN A x H → va_S A s.heap H locs → lv_has ls 7 [(0, .ref (ad o)), (1, .int l1), (2, .ref (ad l2)), (3, .int l3), (4, .int l4), (5, .int l5), (6, .int l6)] → W p l e R s m args below meth c H locs cells slots Q (F0 m 77 ls [.int s0, .ref (ad s1)]) := by
  intro o l1 l2 l3 l4 l5 l6 s0 s1 x H locs ls fo fl2 fs1 hw hW hS hl
  unfold j_Opn_readPlain_77 at hw
  refine lv_bipush (v := 7) hx hb d_Opn_readPlain_77 (by decide) ?_
  have hF := hW.free hS hA
  refine va_callv (va_runV (C := R_Src) (As := [.int s0, .int 7]) (rest := []) ⟨hx, hb, hml, hown, hT⟩ (k_Src_check l dC dI cI cB cJ cZ ad NN E tM tC kK kV hNN H.size s1 s0 7 x fs1 hw) ⟨callB_of 2 hT (gwt_in w_6_116) rfl rfl rfl (hT _ w_1_11) (hT _ w_6_113) (by decide +kernel) ⟨Nat.le_trans (Nat.le_of_ble_eq_true rfl) hRf, Nat.le_trans (Nat.le_of_ble_eq_true rfl) hRl⟩, hT _ w_6_114, hT _ w_6_115⟩ ⟨PVc.blind, va_recv hK hW.1 (ci := 8) (q0 := s1) rfl (pic_obj fs1.1 fs1.2 (by decide)), PVc.at _ hW hK hN hE hS hF⟩ rfl rfl hl.1 rfl (lv_room (Nat.le_of_ble_eq_true rfl)) d_Opn_readPlain_79 ⟨hRc, hRs⟩) hS (fun q _ h => hF q h) hF (fun  x1 t H locs ht hvm hw hB hz1 hk1 hS => ?_)
  have hW := Wd.back hB ht hF
  clear hB ht hF hz1 hk1 hvm
  refine lv_goto (tgt := 120) hx hb d_Opn_readPlain_82 (by decide) ?_
  exact t_Opn_readPlain_120 hx hb hml hown hT hK hN hA hRc hRs hRf hRl hNN hE hret hrec6 o l1 l2 l3 l4 l5 l6 x1 H locs ls fo fl2 hw hW hS (lv_sub hl [0, 1, 2, 3, 4, 5, 6] rfl)
set_option maxRecDepth 100000 in
set_option maxHeartbeats 4000000 in
set_option maxRecDepth 100000 in
theorem t_Opn_readPlain_6 {p : Program} {l : Launch} {e : Env} {R : Room} {s : State} {m : MethodId} {args : Array Value} {below : List Frame} {meth : Method} {c : Code} {cells slots : Nat} {Q : State → Prop} {dC : Nat → ClassId} {dI : Nat → Nat → Nat} {cI cB cJ cZ : ClassId} {A : Nat → Prop} {ad : Nat → Nat} {NN : Nat} {E : Heap} {tM tC : Nat} {kK kV : Nat → Nat} {post : St → Prop} {rec6 : Nat → Int32 → Nat → Int32 → Int32 → Int32 → Int32 → St → Prop} (hx : p.tables.exec = Jvm.exec) (hb : c.code = b_Opn_readPlain) (hml : c.maxLocals = 7) (hown : s.vm.findClass R_Opn = some m.cls) (hT : ∀ w ∈ TG, w.before args s = true) (hK : va_K (dC, dI) CL (TY cI cB cJ cZ) s) (hN : NW s) (hA : ∀ q : Nat, s.heap.size ≤ q → A q) (hRc : cells ≤ R.cells) (hRs : slots ≤ R.slots) (hRf : 2 ≤ R.frames) (hRl : 46 ≤ R.locals) (hNN : 152 ≤ NN) (hE : CE E tM tC kK kV A s) (hret : ∀ (x : St) (H : Heap) (locs : List Loc) (pc : Nat) (ls : Array Slot), decode b_Opn_readPlain pc = .ok (.return_, 1) → post x → Wd dC dI cI cB cJ cZ ad stC kcC NN A x H → va_S A s.heap H locs → W p l e R s m args below meth c H locs cells slots Q (F0 m pc ls [])) (hrec6 : ∀ (o : Nat) (l1 : Int32) (l2 : Nat) (l3 : Int32) (l4 : Int32) (l5 : Int32) (l6 : Int32) (x : St) (H : Heap) (locs : List Loc) (ls : Array Slot), (o < NN ∧ kcC o = 7) → (l2 < NN ∧ kcC l2 = 22) → rec6 o l1 l2 l3 l4 l5 l6 x → Wd dC dI cI cB cJ cZ ad stC kcC NN A x H → va_S A s.heap H locs → lv_has ls 7 [(0, .ref (ad o)), (1, .int l1), (2, .ref (ad l2)), (3, .int l3), (4, .int l4), (5, .int l5), (6, .int l6)] → W p l e R s m args below meth c H locs cells slots Q (F0 m 6 ls [])) : ∀ (o : Nat) (l1 : Int32) (l2 : Nat) (l3 : Int32) (l4 : Int32) (l5 : Int32) (l6 : Int32) (x : St) (H : Heap) (locs : List Loc) (ls : Array Slot), (o < NN ∧ kcC o = 7) → (l2 < NN ∧ kcC l2 = 22) → j_Opn_readPlain_6 post rec6 o l1 l2 l3 l4 l5 l6 x → Wd dC dI cI cB cJ cZ ad stC kcC NN A x H → va_S A s.heap H locs → lv_has ls 7 [(0, .ref (ad o)), (1, .int l1), (2, .ref (ad l2)), (3, .int l3), (4, .int l4), (5, .int l5), (6, .int l6)] → W p l e R s m args below meth c H locs cells slots Q (F0 m 6 ls []) := by
  intro o l1 l2 l3 l4 l5 l6 x H locs ls fo fl2 hw hW hS hl
  unfold j_Opn_readPlain_6 at hw
  refine lv_iload hx hb d_Opn_readPlain_6 (lv_at hl 6 rfl) ?_
  refine lv_iload_n hx hb d_Opn_readPlain_8 rfl (lv_at hl 3 rfl) ?_
  refine lv_iload hx hb d_Opn_readPlain_9 (lv_at hl 4 rfl) ?_
  refine lv_iadd hx hb d_Opn_readPlain_11 ?_
  refine lv_icmp_ge (tgt := 126) hx hb d_Opn_readPlain_12 (by decide) (fun c2 => ?_) (fun c2 => ?_)
  · have hw := hw.1 c2
    exact hret x H locs 126 ls d_Opn_readPlain_126 hw hW hS
  · have hw := hw.2 c2
    refine lv_aload_n hx hb d_Opn_readPlain_15 rfl (lv_at hl 0 rfl) ?_
    refine w_getf (q := (stC o 2)) (k := 2) (t := 7) (C := R_Opn) (T := F_Opn) (N := 17) hx hb hT hown hK hW fo.1 fo.2 (by decide) in_Opn rfl rfl (by decide) rfl fr_Opn_2 w_3_17 d_Opn_readPlain_16 rfl ?_
    refine w_geti (k := 3) (t := 8) (C := R_Src) (T := F_Src) (N := 5) hx hb hT hown hK hW (st_ty hNN fo.1 fo.2 rfl).1 (st_ty hNN fo.1 fo.2 rfl).2 (by decide) in_Src rfl rfl (by decide) rfl fr_Src_3 w_3_2 d_Opn_readPlain_19 ?_
    refine lv_if_ne (tgt := 126) hx hb d_Opn_readPlain_22 (by decide) (fun c3 => ?_) (fun c3 => ?_)
    · have hw := hw.1 c3
      exact hret x H locs 126 ls d_Opn_readPlain_126 hw hW hS
    · have hw := hw.2 c3
      refine lv_iload_n hx hb d_Opn_readPlain_25 rfl (lv_at hl 1 rfl) ?_
      refine lv_iconst (v := 3) hx hb d_Opn_readPlain_26 (by decide) ?_
      refine lv_icmp_ne (tgt := 85) hx hb d_Opn_readPlain_27 (by decide) (fun c4 => ?_) (fun c4 => ?_)
      · have hw := hw.1 c4
        refine lv_iload_n hx hb d_Opn_readPlain_85 rfl (lv_at hl 1 rfl) ?_
        refine lv_iconst (v := 1) hx hb d_Opn_readPlain_86 (by decide) ?_
        refine lv_icmp_ne (tgt := 107) hx hb d_Opn_readPlain_87 (by decide) (fun c5 => ?_) (fun c5 => ?_)
        · have hw := hw.1 c5
          refine lv_aload_n hx hb d_Opn_readPlain_107 rfl (lv_at hl 2 rfl) ?_
          refine lv_iload hx hb d_Opn_readPlain_108 (lv_at hl 6 rfl) ?_
          refine lv_aload_n hx hb d_Opn_readPlain_110 rfl (lv_at hl 0 rfl) ?_
          refine w_getf (q := (stC o 2)) (k := 2) (t := 7) (C := R_Opn) (T := F_Opn) (N := 17) hx hb hT hown hK hW fo.1 fo.2 (by decide) in_Opn rfl rfl (by decide) rfl fr_Opn_2 w_3_17 d_Opn_readPlain_111 rfl ?_
          refine lv_bipush (v := 8) hx hb d_Opn_readPlain_114 (by decide) ?_
          have hF := hW.free hS hA
          refine va_calll (va_runV (C := R_Src) (As := [.int 8]) (rest := [.int l6, .ref (ad l2)]) ⟨hx, hb, hml, hown, hT⟩ (k_Src_readFixed l dC dI cI cB cJ cZ ad NN E tM tC kK kV hNN H.size (stC o 2) 8 x (st_ty hNN fo.1 fo.2 rfl) hw) ⟨callB_of 1 hT (gwt_in w_6_93) rfl rfl rfl (hT _ w_1_11) (hT _ w_6_90) (by decide +kernel) ⟨Nat.le_trans (Nat.le_of_ble_eq_true rfl) hRf, Nat.le_trans (Nat.le_of_ble_eq_true rfl) hRl⟩, hT _ w_6_91, hT _ w_6_92⟩ ⟨PVc.blind, va_recv hK hW.1 (ci := 8) (q0 := (stC o 2)) rfl (pic_obj (st_ty hNN fo.1 fo.2 rfl).1 (st_ty hNN fo.1 fo.2 rfl).2 (by decide)), PVc.at _ hW hK hN hE hS hF⟩ rfl rfl hl.1 rfl (lv_room (Nat.le_of_ble_eq_true rfl)) d_Opn_readPlain_116 ⟨hRc, hRs⟩) hS (fun q _ h => hF q h) hF (fun r7 x6 t H locs ht hvm hw hB hz1 hk1 hS => ?_)
          have hW := Wd.back hB ht hF
          clear hB ht hF hz1 hk1 hvm
          obtain ⟨hi, hw⟩ := hw
          refine w_last (o := l2) hx hb hK hW hS fl2.1 fl2.2 hi d_Opn_readPlain_119 (fun H locs hW hS => ?_)
          obtain ⟨x8, ex8⟩ : ∃ y : St, y = setL x6 l2 l6 r7 := ⟨_, rfl⟩
          rw [← ex8] at hW
          have hw := hw x8 ex8
          exact t_Opn_readPlain_120 hx hb hml hown hT hK hN hA hRc hRs hRf hRl hNN hE hret hrec6 o l1 l2 l3 l4 l5 l6 x8 H locs ls fo fl2 hw hW hS (lv_sub hl [0, 1, 2, 3, 4, 5, 6] rfl)
        · have hw := hw.2 c5
          refine lv_aload_n hx hb d_Opn_readPlain_90 rfl (lv_at hl 2 rfl) ?_
          refine lv_iload hx hb d_Opn_readPlain_91 (lv_at hl 6 rfl) ?_
          refine lv_aload_n hx hb d_Opn_readPlain_93 rfl (lv_at hl 0 rfl) ?_
          refine w_getf (q := (stC o 2)) (k := 2) (t := 7) (C := R_Opn) (T := F_Opn) (N := 17) hx hb hT hown hK hW fo.1 fo.2 (by decide) in_Opn rfl rfl (by decide) rfl fr_Opn_2 w_3_17 d_Opn_readPlain_94 rfl ?_
          refine lv_iconst (v := 4) hx hb d_Opn_readPlain_97 (by decide) ?_
          have hF := hW.free hS hA
          refine va_calll (va_runV (C := R_Src) (As := [.int 4]) (rest := [.int l6, .ref (ad l2)]) ⟨hx, hb, hml, hown, hT⟩ (k_Src_readFixed l dC dI cI cB cJ cZ ad NN E tM tC kK kV hNN H.size (stC o 2) 4 x (st_ty hNN fo.1 fo.2 rfl) hw) ⟨callB_of 1 hT (gwt_in w_6_93) rfl rfl rfl (hT _ w_1_11) (hT _ w_6_90) (by decide +kernel) ⟨Nat.le_trans (Nat.le_of_ble_eq_true rfl) hRf, Nat.le_trans (Nat.le_of_ble_eq_true rfl) hRl⟩, hT _ w_6_91, hT _ w_6_92⟩ ⟨PVc.blind, va_recv hK hW.1 (ci := 8) (q0 := (stC o 2)) rfl (pic_obj (st_ty hNN fo.1 fo.2 rfl).1 (st_ty hNN fo.1 fo.2 rfl).2 (by decide)), PVc.at _ hW hK hN hE hS hF⟩ rfl rfl hl.1 rfl (lv_room (Nat.le_of_ble_eq_true rfl)) d_Opn_readPlain_98 ⟨hRc, hRs⟩) hS (fun q _ h => hF q h) hF (fun r10 x9 t H locs ht hvm hw hB hz1 hk1 hS => ?_)
          have hW := Wd.back hB ht hF
          clear hB ht hF hz1 hk1 hvm
          refine lv_l2i hx hb d_Opn_readPlain_101 rfl ?_
          refine lv_i2l hx hb d_Opn_readPlain_102 rfl ?_
          obtain ⟨hi, hw⟩ := hw
          refine w_last (o := l2) hx hb hK hW hS fl2.1 fl2.2 hi d_Opn_readPlain_103 (fun H locs hW hS => ?_)
          obtain ⟨x11, ex11⟩ : ∃ y : St, y = setL x9 l2 l6 ((r10 : Int64).toInt32 : Int32).toInt64 := ⟨_, rfl⟩
          rw [← ex11] at hW
          have hw := hw x11 ex11
          refine lv_goto (tgt := 120) hx hb d_Opn_readPlain_104 (by decide) ?_
          exact t_Opn_readPlain_120 hx hb hml hown hT hK hN hA hRc hRs hRf hRl hNN hE hret hrec6 o l1 l2 l3 l4 l5 l6 x11 H locs ls fo fl2 hw hW hS (lv_sub hl [0, 1, 2, 3, 4, 5, 6] rfl)
      · have hw := hw.2 c4
        refine lv_aload_n hx hb d_Opn_readPlain_30 rfl (lv_at hl 2 rfl) ?_
        refine lv_iload hx hb d_Opn_readPlain_31 (lv_at hl 6 rfl) ?_
        refine lv_aload_n hx hb d_Opn_readPlain_33 rfl (lv_at hl 0 rfl) ?_
        refine w_getf (q := (stC o 2)) (k := 2) (t := 7) (C := R_Opn) (T := F_Opn) (N := 17) hx hb hT hown hK hW fo.1 fo.2 (by decide) in_Opn rfl rfl (by decide) rfl fr_Opn_2 w_3_17 d_Opn_readPlain_34 rfl ?_
        refine lv_aload_n hx hb d_Opn_readPlain_37 rfl (lv_at hl 0 rfl) ?_
        refine w_getf (q := (stC o 2)) (k := 2) (t := 7) (C := R_Opn) (T := F_Opn) (N := 17) hx hb hT hown hK hW fo.1 fo.2 (by decide) in_Opn rfl rfl (by decide) rfl fr_Opn_2 w_3_17 d_Opn_readPlain_38 rfl ?_
        have hF := hW.free hS hA
        refine va_calll (va_runV (C := R_Src) (As := []) (rest := [.ref (ad (stC o 2)), .int l6, .ref (ad l2)]) ⟨hx, hb, hml, hown, hT⟩ (k_Src_readVarint l dC dI cI cB cJ cZ ad NN E tM tC kK kV hNN H.size (stC o 2) x (st_ty hNN fo.1 fo.2 rfl) hw) ⟨callB_of 0 hT (gwt_in w_6_108) rfl rfl rfl (hT _ w_1_11) (hT _ w_6_105) (by decide +kernel) ⟨Nat.le_trans (Nat.le_of_ble_eq_true rfl) hRf, Nat.le_trans (Nat.le_of_ble_eq_true rfl) hRl⟩, hT _ w_6_106, hT _ w_6_107⟩ ⟨PVc.blind, va_recv hK hW.1 (ci := 8) (q0 := (stC o 2)) rfl (pic_obj (st_ty hNN fo.1 fo.2 rfl).1 (st_ty hNN fo.1 fo.2 rfl).2 (by decide)), PVc.at _ hW hK hN hE hS hF⟩ rfl rfl hl.1 rfl (lv_room (Nat.le_of_ble_eq_true rfl)) d_Opn_readPlain_41 ⟨hRc, hRs⟩) hS (fun q _ h => hF q h) hF (fun r13 x12 t H locs ht hvm hw hB hz1 hk1 hS => ?_)
        have hW := Wd.back hB ht hF
        clear hB ht hF hz1 hk1 hvm
        have hF := hW.free hS hA
        refine va_calll (va_runV (C := R_Src) (As := [.long r13]) (rest := [.int l6, .ref (ad l2)]) ⟨hx, hb, hml, hown, hT⟩ (k_Src_readLetters l dC dI cI cB cJ cZ ad NN E tM tC kK kV hNN H.size (stC o 2) r13 x12 (st_ty hNN fo.1 fo.2 rfl) hw) ⟨callB_of 1 hT (gwt_in w_6_155) rfl rfl rfl (hT _ w_1_11) (hT _ w_6_236) (by decide +kernel) ⟨Nat.le_trans (Nat.le_of_ble_eq_true rfl) hRf, Nat.le_trans (Nat.le_of_ble_eq_true rfl) hRl⟩, hT _ w_6_153, hT _ w_6_154⟩ ⟨PVc.blind, va_recv hK hW.1 (ci := 8) (q0 := (stC o 2)) rfl (pic_obj (st_ty hNN fo.1 fo.2 rfl).1 (st_ty hNN fo.1 fo.2 rfl).2 (by decide)), PVc.at _ hW hK hN hE hS hF⟩ rfl rfl hl.1 rfl (lv_room (Nat.le_of_ble_eq_true rfl)) d_Opn_readPlain_44 ⟨hRc, hRs⟩) hS (fun q _ h => hF q h) hF (fun r15 x14 t H locs ht hvm hw hB hz1 hk1 hS => ?_)
        have hW := Wd.back hB ht hF
        clear hB ht hF hz1 hk1 hvm
        obtain ⟨hi, hw⟩ := hw
        refine w_last (o := l2) hx hb hK hW hS fl2.1 fl2.2 hi d_Opn_readPlain_47 (fun H locs hW hS => ?_)
        obtain ⟨x16, ex16⟩ : ∃ y : St, y = setL x14 l2 l6 r15 := ⟨_, rfl⟩
        rw [← ex16] at hW
        have hw := hw x16 ex16
        refine lv_iload hx hb d_Opn_readPlain_48 (lv_at hl 5 rfl) ?_
        refine lv_aload_n hx hb d_Opn_readPlain_50 rfl (lv_at hl 2 rfl) ?_
        refine lv_iload hx hb d_Opn_readPlain_51 (lv_at hl 6 rfl) ?_
        obtain ⟨hi, hw⟩ := hw
        refine w_lald (o := l2) hx hb hK hW fl2.1 fl2.2 hi d_Opn_readPlain_53 ?_
        have hF := hW.free hS hA
        refine va_calli (va_runSN (As := [.long (rL x16 l2 l6)]) (rest := [.int l5]) ⟨hx, hb, hml, hown, hT⟩ (k_V_sizeOf l dC dI cI cB cJ cZ ad NN E tM tC kK kV hNN H.size (rL x16 l2 l6) x16  hw) ⟨va_cnB 1 hT (gwt_in w_5_161) rfl rfl rfl (hN _ wn_6_237 rfl) (hT _ w_1_1) (by decide +kernel) ⟨Nat.le_trans (Nat.le_of_ble_eq_true rfl) hRf, Nat.le_trans (Nat.le_of_ble_eq_true rfl) hRl⟩, hT _ w_5_160, trivial⟩ ⟨PVc.blind, PVc.at _ hW hK hN hE hS hF⟩ rfl rfl hl.1 rfl (lv_room (Nat.le_of_ble_eq_true rfl)) d_Opn_readPlain_54 ⟨hRc, hRs⟩) hS (fun q _ h => hF q h) hF (fun r18 x17 t H locs ht hvm hw hB hz1 hk1 hS => ?_)
        have hW := Wd.back hB ht hF
        clear hB ht hF hz1 hk1 hvm
        refine lv_iadd hx hb d_Opn_readPlain_57 ?_
        refine lv_topi (fun v19 ev19 => ?_)
        have hw := hw v19 ev19
        refine lv_istore (lv' := [(5, .int v19), (0, .ref (ad o)), (1, .int l1), (2, .ref (ad l2)), (3, .int l3), (4, .int l4), (6, .int l6)]) hx hb d_Opn_readPlain_58 hl (by decide) rfl (fun ls hl => ?_)
        refine lv_aload_n hx hb d_Opn_readPlain_60 rfl (lv_at hl 1 rfl) ?_
        refine w_getf (q := (stC o 2)) (k := 2) (t := 7) (C := R_Opn) (T := F_Opn) (N := 17) hx hb hT hown hK hW fo.1 fo.2 (by decide) in_Opn rfl rfl (by decide) rfl fr_Opn_2 w_3_17 d_Opn_readPlain_61 rfl ?_
        refine lv_iload hx hb d_Opn_readPlain_64 (lv_at hl 0 rfl) ?_
        refine lv_sipush (v := 20000) hx hb d_Opn_readPlain_66 (by decide) ?_
        refine lv_icmp_gt (tgt := 76) hx hb d_Opn_readPlain_69 (by decide) (fun c20 => ?_) (fun c20 => ?_)
        · have hw := hw.1 c20
          refine lv_iconst (v := 0) hx hb d_Opn_readPlain_76 (by decide) ?_
          exact t_Opn_readPlain_77 hx hb hml hown hT hK hN hA hRc hRs hRf hRl hNN hE hret hrec6 o l1 l2 l3 l4 v19 l6 0 (stC o 2) x17 H locs ls fo fl2 (st_ty hNN fo.1 fo.2 rfl) hw hW hS (lv_sub hl [1, 2, 3, 4, 5, 0, 6] rfl)
        · have hw := hw.2 c20
          refine lv_iconst (v := 1) hx hb d_Opn_readPlain_72 (by decide) ?_
          refine lv_goto (tgt := 77) hx hb d_Opn_readPlain_73 (by decide) ?_
          exact t_Opn_readPlain_77 hx hb hml hown hT hK hN hA hRc hRs hRf hRl hNN hE hret hrec6 o l1 l2 l3 l4 v19 l6 1 (stC o 2) x17 H locs ls fo fl2 (st_ty hNN fo.1 fo.2 rfl) hw hW hS (lv_sub hl [1, 2, 3, 4, 5, 0, 6] rfl)
set_option maxHeartbeats 4000000 in
set_option maxRecDepth 100000 in
theorem tl_Opn_readPlain_6 {p : Program} {l : Launch} {e : Env} {R : Room} {s : State} {m : MethodId} {args : Array Value} {below : List Frame} {meth : Method} {c : Code} {cells slots : Nat} {Q : State → Prop} {dC : Nat → ClassId} {dI : Nat → Nat → Nat} {cI cB cJ cZ : ClassId} {A : Nat → Prop} {ad : Nat → Nat} {NN : Nat} {E : Heap} {tM tC : Nat} {kK kV : Nat → Nat} {post : St → Prop} (hx : p.tables.exec = Jvm.exec) (hb : c.code = b_Opn_readPlain) (hml : c.maxLocals = 7) (hown : s.vm.findClass R_Opn = some m.cls) (hT : ∀ w ∈ TG, w.before args s = true) (hK : va_K (dC, dI) CL (TY cI cB cJ cZ) s) (hN : NW s) (hA : ∀ q : Nat, s.heap.size ≤ q → A q) (hRc : cells ≤ R.cells) (hRs : slots ≤ R.slots) (hRf : 2 ≤ R.frames) (hRl : 46 ≤ R.locals) (hNN : 152 ≤ NN) (hE : CE E tM tC kK kV A s) (hret : ∀ (x : St) (H : Heap) (locs : List Loc) (pc : Nat) (ls : Array Slot), decode b_Opn_readPlain pc = .ok (.return_, 1) → post x → Wd dC dI cI cB cJ cZ ad stC kcC NN A x H → va_S A s.heap H locs → W p l e R s m args below meth c H locs cells slots Q (F0 m pc ls []))  : ∀ n : Nat, ∀ (o : Nat) (l1 : Int32) (l2 : Nat) (l3 : Int32) (l4 : Int32) (l5 : Int32) (l6 : Int32) (x : St) (H : Heap) (locs : List Loc) (ls : Array Slot), (o < NN ∧ kcC o = 7) → (l2 < NN ∧ kcC l2 = 22) → wl_Opn_readPlain_6 post n o l1 l2 l3 l4 l5 l6 x → Wd dC dI cI cB cJ cZ ad stC kcC NN A x H → va_S A s.heap H locs → lv_has ls 7 [(0, .ref (ad o)), (1, .int l1), (2, .ref (ad l2)), (3, .int l3), (4, .int l4), (5, .int l5), (6, .int l6)] → W p l e R s m args below meth c H locs cells slots Q (F0 m 6 ls []) := by
  intro n
  induction n with
  | zero => intro o l1 l2 l3 l4 l5 l6 x H locs ls fo fl2 hw; exact hw.elim
  | succ n ih => intro o l1 l2 l3 l4 l5 l6 x H locs ls fo fl2 hw hW hS hl; exact t_Opn_readPlain_6 hx hb hml hown hT hK hN hA hRc hRs hRf hRl hNN hE hret  ih o l1 l2 l3 l4 l5 l6 x H locs ls fo fl2 hw hW hS hl
set_option maxRecDepth 100000 in
set_option maxHeartbeats 4000000 in
set_option maxRecDepth 100000 in
theorem t_Opn_readPlain_e {p : Program} {l : Launch} {e : Env} {R : Room} {s : State} {m : MethodId} {args : Array Value} {below : List Frame} {meth : Method} {c : Code} {cells slots : Nat} {Q : State → Prop} {dC : Nat → ClassId} {dI : Nat → Nat → Nat} {cI cB cJ cZ : ClassId} {A : Nat → Prop} {ad : Nat → Nat} {NN : Nat} {E : Heap} {tM tC : Nat} {kK kV : Nat → Nat} {post : St → Prop} (hx : p.tables.exec = Jvm.exec) (hb : c.code = b_Opn_readPlain) (hml : c.maxLocals = 7) (hown : s.vm.findClass R_Opn = some m.cls) (hT : ∀ w ∈ TG, w.before args s = true) (hK : va_K (dC, dI) CL (TY cI cB cJ cZ) s) (hN : NW s) (hA : ∀ q : Nat, s.heap.size ≤ q → A q) (hRc : cells ≤ R.cells) (hRs : slots ≤ R.slots) (hRf : 2 ≤ R.frames) (hRl : 46 ≤ R.locals) (hNN : 152 ≤ NN) (hE : CE E tM tC kK kV A s) (hret : ∀ (x : St) (H : Heap) (locs : List Loc) (pc : Nat) (ls : Array Slot), decode b_Opn_readPlain pc = .ok (.return_, 1) → post x → Wd dC dI cI cB cJ cZ ad stC kcC NN A x H → va_S A s.heap H locs → W p l e R s m args below meth c H locs cells slots Q (F0 m pc ls [])) : ∀ (o : Nat) (l1 : Int32) (l2 : Nat) (l3 : Int32) (l4 : Int32) (x : St) (H : Heap) (locs : List Loc) (ls : Array Slot), (o < NN ∧ kcC o = 7) → (l2 < NN ∧ kcC l2 = 22) → wp_Opn_readPlain post o l1 l2 l3 l4 x → Wd dC dI cI cB cJ cZ ad stC kcC NN A x H → va_S A s.heap H locs → lv_has ls 7 [(0, .ref (ad o)), (1, .int l1), (2, .ref (ad l2)), (3, .int l3), (4, .int l4)] → W p l e R s m args below meth c H locs cells slots Q (F0 m 0 ls []) := by
  intro o l1 l2 l3 l4 x H locs ls fo fl2 hw hW hS hl
  unfold wp_Opn_readPlain at hw
  refine lv_iconst (v := 0) hx hb d_Opn_readPlain_0 (by decide) ?_
  refine lv_istore (lv' := [(5, .int 0), (0, .ref (ad o)), (1, .int l1), (2, .ref (ad l2)), (3, .int l3), (4, .int l4)]) hx hb d_Opn_readPlain_1 hl (by decide) rfl (fun ls hl => ?_)
  refine lv_iload_n hx hb d_Opn_readPlain_3 rfl (lv_at hl 4 rfl) ?_
  refine lv_istore (lv' := [(6, .int l3), (5, .int 0), (0, .ref (ad o)), (1, .int l1), (2, .ref (ad l2)), (3, .int l3), (4, .int l4)]) hx hb d_Opn_readPlain_4 hl (by decide) rfl (fun ls hl => ?_)
  obtain ⟨n, hw⟩ := hw
  exact tl_Opn_readPlain_6 hx hb hml hown hT hK hN hA hRc hRs hRf hRl hNN hE hret  n o l1 l2 l3 l4 0 l3 x H locs ls fo fl2 hw hW hS (lv_sub hl [2, 3, 4, 5, 6, 1, 0] rfl)
set_option maxHeartbeats 4000000 in
set_option maxRecDepth 100000 in
theorem k_Opn_readPlain (l : Launch) (dC : Nat → ClassId) (dI : Nat → Nat → Nat) (cI cB cJ cZ : ClassId) (ad : Nat → Nat) (NN : Nat) (E : Heap) (tM tC : Nat) (kK kV : Nat → Nat) (hNN : 152 ≤ NN) (sz : Nat) (o : Nat) (l1 : Int32) (l2 : Nat) (l3 : Int32) (l4 : Int32) (x : St) (fo : o < NN ∧ kcC o = 7) (fl2 : l2 < NN ∧ kcC l2 = 22) {post : St → Prop} (hw : wp_Opn_readPlain post o l1 l2 l3 l4 x) : Met l y_Opn_readPlain (wsOf y_Opn_readPlain b_Opn_readPlain 7 (none)) ({ frames := 2, cells := 0, slots := 0, locals := 46 }) (va_Pc [.ref (ad o), .int l1, .ref (ad l2), .int l3, .int l4] (PVc dC dI cI cB cJ cZ ad stC kcC NN E tM tC kK kV sz x)) (va_Qv (fun (y : St) => post y) (fun y t => Wd dC dI cI cB cJ cZ ad stC kcC NN (va_A (pic ad stC kcC NN cI cB cJ cZ x) sz) y t.heap) (va_A (pic ad stC kcC NN cI cB cJ cZ x) sz)) 0 0 (va_A (pic ad stC kcC NN cI cB cJ cZ x) sz) := by
  refine Met.ofW (cc := b_Opn_readPlain) (maxL := 7) (ret := none) (by decide) rfl ?_
  intro p e s m args below meth c s₁ B hml hv
  obtain ⟨rfl, ⟨hsz, hW0, hK, hN⟩, hE⟩ := hv
  have hx := B.exec
  have hb := B.bytes
  have hr := B.returns
  have hts := atoms_spec B.pre
  have hT : ∀ w ∈ TG, w.before _ s = true := fun w h => hts w (List.mem_cons_of_mem _ h)
  have hown : s.vm.findClass R_Opn = some m.cls := findClass_of_methodNamed B.named
  have hlocks := B.notSynchronized
  subst hsz
  have hW : Wd dC dI cI cB cJ cZ ad stC kcC NN (va_A (pic ad stC kcC NN cI cB cJ cZ x) s.heap.size) x s.heap := ⟨hW0.1, hW0.2.1.self (sz := s.heap.size), hW0.2.2⟩
  generalize hAe : va_A (pic ad stC kcC NN cI cB cJ cZ x) s.heap.size = A at hW hE ⊢
  have hA : ∀ q : Nat, s.heap.size ≤ q → A q := fun q h => by rw [← hAe]; exact Or.inr h
  have hS : va_S A s.heap s.heap [] := va_S.rf
  have hl := lv_entry ([.ref (ad o), .int l1, .ref (ad l2), .int l3, .int l4]) (n := 7) (Nat.le_of_ble_eq_true rfl)
  rw [lg_entry_eq]
  generalize (lg_sl ([.ref (ad o), .int l1, .ref (ad l2), .int l3, .int l4]) ++ List.replicate (7 - (lg_sl ([.ref (ad o), .int l1, .ref (ad l2), .int l3, .int l4])).length) Slot.unset).toArray = ls at hl ⊢
  have hl : lv_has ls 7 [(0, .ref (ad o)), (1, .int l1), (2, .ref (ad l2)), (3, .int l3), (4, .int l4)] := hl
  exact t_Opn_readPlain_e hx hb hml hown hT hK hN hA (Nat.le_refl 0) (Nat.le_refl 0) (Nat.le_refl 2) (Nat.le_refl 46) hNN hE (fun x H locs pc ls hd hp hW hS => W.vret hx hb hr (fun t ht hM => ⟨⟨x, rfl, hp, Wd.back hW ht.symm (fun _ z => z)⟩, hS.F ht⟩) hS.2.2 hd hlocks)  o l1 l2 l3 l4 x _ _ ls fo fl2 hw hW hS hl
set_option maxRecDepth 100000 in
set_option maxHeartbeats 4000000 in
set_option maxRecDepth 100000 in
theorem t_Opn_readDictionary_257 {p : Program} {l : Launch} {e : Env} {R : Room} {s : State} {m : MethodId} {args : Array Value} {below : List Frame} {meth : Method} {c : Code} {cells slots : Nat} {Q : State → Prop} {dC : Nat → ClassId} {dI : Nat → Nat → Nat} {cI cB cJ cZ : ClassId} {A : Nat → Prop} {ad : Nat → Nat} {NN : Nat} {E : Heap} {tM tC : Nat} {kK kV : Nat → Nat} {post : St → Prop} (hx : p.tables.exec = Jvm.exec) (hb : c.code = b_Opn_readDictionary) (hml : c.maxLocals = 8) (hown : s.vm.findClass R_Opn = some m.cls) (hT : ∀ w ∈ TG, w.before args s = true) (hK : va_K (dC, dI) CL (TY cI cB cJ cZ) s) (hN : NW s) (hA : ∀ q : Nat, s.heap.size ≤ q → A q) (hRc : cells ≤ R.cells) (hRs : slots ≤ R.slots) (hRf : 4 ≤ R.frames) (hRl : 168 ≤ R.locals) (hNN : 152 ≤ NN) (hE : CE E tM tC kK kV A s) (hret : ∀ (x : St) (H : Heap) (locs : List Loc) (pc : Nat) (ls : Array Slot), decode b_Opn_readDictionary pc = .ok (.return_, 1) → post x → Wd dC dI cI cB cJ cZ ad stC kcC NN A x H → va_S A s.heap H locs → W p l e R s m args below meth c H locs cells slots Q (F0 m pc ls []))  : ∀ (o : Nat) (l1 : Int32) (l2 : Int32) (l3 : Int64) (l5 : Int32) (l6 : Int32) (l7 : Int32) (x : St) (H : Heap) (locs : List Loc) (ls : Array Slot), (o < NN ∧ kcC o = 7) → j_Opn_readDictionary_257 post o l1 l2 l3 l5 l6 l7 x → Wd dC dI cI cB cJ cZ ad stC kcC NN A x H → va_S A s.heap H locs → lv_has ls 8 [(0, .ref (ad o)), (1, .int l1), (2, .int l2), (3, .long l3), (5, .int l5), (6, .int l6), (7, .int l7)] → W p l e R s m args below meth c H locs cells slots Q (F0 m 257 ls []) := by
  intro o l1 l2 l3 l5 l6 l7 x H locs ls fo hw hW hS hl
  unfold j_Opn_readDictionary_257 at hw
  refine lv_iload hx hb d_Opn_readDictionary_257 (lv_at hl 4 rfl) ?_
  refine lv_bipush (v := 100) hx hb d_Opn_readDictionary_259 (by decide) ?_
  refine lv_icmp_gt (tgt := 295) hx hb d_Opn_readDictionary_261 (by decide) (fun c1 => ?_) (fun c1 => ?_)
  · have hw := hw.1 c1
    exact hret x H locs 295 ls d_Opn_readDictionary_295 hw hW hS
  · have hw := hw.2 c1
    refine lv_aload_n hx hb d_Opn_readDictionary_264 rfl (lv_at hl 0 rfl) ?_
    refine w_getf (q := (stC o 0)) (k := 0) (t := 7) (C := R_Opn) (T := F_Opn) (N := 17) hx hb hT hown hK hW fo.1 fo.2 (by decide) in_Opn rfl rfl (by decide) rfl fr_Opn_0 w_3_15 d_Opn_readDictionary_265 rfl ?_
    refine w_getf (q := (stC (stC o 0) 18)) (k := 18) (t := 6) (C := R_Vlt) (T := F_Vlt) (N := 20) hx hb hT hown hK hW (st_ty hNN fo.1 fo.2 rfl).1 (st_ty hNN fo.1 fo.2 rfl).2 (by decide) in_Vlt rfl rfl (by decide) rfl fr_Vlt_18 w_2_178 d_Opn_readDictionary_268 rfl ?_
    refine lv_iload_n hx hb d_Opn_readDictionary_271 rfl (lv_at hl 2 rfl) ?_
    refine lv_aload_n hx hb d_Opn_readDictionary_272 rfl (lv_at hl 0 rfl) ?_
    refine w_geti (k := 13) (t := 7) (C := R_Opn) (T := F_Opn) (N := 17) hx hb hT hown hK hW fo.1 fo.2 (by decide) in_Opn rfl rfl (by decide) rfl fr_Opn_13 w_3_29 d_Opn_readDictionary_273 ?_
    refine lv_sipush (v := 128) hx hb d_Opn_readDictionary_276 (by decide) ?_
    refine lv_imul hx hb d_Opn_readDictionary_279 ?_
    refine lv_iload hx hb d_Opn_readDictionary_280 (lv_at hl 4 rfl) ?_
    refine lv_iadd hx hb d_Opn_readDictionary_282 ?_
    obtain ⟨hi, hw⟩ := hw
    refine w_iast (o := (stC (stC o 0) 18)) hx hb hK hW hS (st_ty hNN (st_ty hNN fo.1 fo.2 rfl).1 (st_ty hNN fo.1 fo.2 rfl).2 rfl).1 (st_ty hNN (st_ty hNN fo.1 fo.2 rfl).1 (st_ty hNN fo.1 fo.2 rfl).2 rfl).2 hi d_Opn_readDictionary_283 (fun H locs hW hS => ?_)
    obtain ⟨x2, ex2⟩ : ∃ y : St, y = setA x (stC (stC o 0) 18) l2 (((fI x o 13) * 128) + l5) := ⟨_, rfl⟩
    rw [← ex2] at hW
    have hw := hw x2 ex2
    refine lv_aload_n hx hb d_Opn_readDictionary_284 rfl (lv_at hl 0 rfl) ?_
    refine lv_dup hx hb d_Opn_readDictionary_285 rfl ?_
    refine w_geti (k := 13) (t := 7) (C := R_Opn) (T := F_Opn) (N := 17) hx hb hT hown hK hW fo.1 fo.2 (by decide) in_Opn rfl rfl (by decide) rfl fr_Opn_13 w_3_29 d_Opn_readDictionary_286 ?_
    refine lv_iload hx hb d_Opn_readDictionary_289 (lv_at hl 4 rfl) ?_
    refine lv_iadd hx hb d_Opn_readDictionary_291 ?_
    refine w_puti (ty := .int) (k := 13) (t := 7) (C := R_Opn) (T := F_Opn) (N := 17) hx hb hT hown hK hW hS fo.1 fo.2 (by decide) in_Opn t_Opn t_Opn_ok n_Opn rfl rfl (by decide) rfl fr_Opn_13 w_3_29 (by decide +kernel) rfl rfl d_Opn_readDictionary_292 (fun H locs hW hS => ?_)
    obtain ⟨x3, ex3⟩ : ∃ y : St, y = setI x2 o 13 ((fI x2 o 13) + l5) := ⟨_, rfl⟩
    rw [← ex3] at hW
    have hw := hw x3 ex3
    exact hret x3 H locs 295 ls d_Opn_readDictionary_295 hw hW hS
set_option maxRecDepth 100000 in
set_option maxHeartbeats 4000000 in
set_option maxRecDepth 100000 in
theorem t_Opn_readDictionary_251 {p : Program} {l : Launch} {e : Env} {R : Room} {s : State} {m : MethodId} {args : Array Value} {below : List Frame} {meth : Method} {c : Code} {cells slots : Nat} {Q : State → Prop} {dC : Nat → ClassId} {dI : Nat → Nat → Nat} {cI cB cJ cZ : ClassId} {A : Nat → Prop} {ad : Nat → Nat} {NN : Nat} {E : Heap} {tM tC : Nat} {kK kV : Nat → Nat} {post : St → Prop} {rec114 : Nat → Int32 → Int32 → Int64 → Int32 → Int32 → Int32 → St → Prop} (hx : p.tables.exec = Jvm.exec) (hb : c.code = b_Opn_readDictionary) (hml : c.maxLocals = 8) (hown : s.vm.findClass R_Opn = some m.cls) (hT : ∀ w ∈ TG, w.before args s = true) (hK : va_K (dC, dI) CL (TY cI cB cJ cZ) s) (hN : NW s) (hA : ∀ q : Nat, s.heap.size ≤ q → A q) (hRc : cells ≤ R.cells) (hRs : slots ≤ R.slots) (hRf : 4 ≤ R.frames) (hRl : 168 ≤ R.locals) (hNN : 152 ≤ NN) (hE : CE E tM tC kK kV A s) (hret : ∀ (x : St) (H : Heap) (locs : List Loc) (pc : Nat) (ls : Array Slot), decode b_Opn_readDictionary pc = .ok (.return_, 1) → post x → Wd dC dI cI cB cJ cZ ad stC kcC NN A x H → va_S A s.heap H locs → W p l e R s m args below meth c H locs cells slots Q (F0 m pc ls [])) (hrec114 : ∀ (o : Nat) (l1 : Int32) (l2 : Int32) (l3 : Int64) (l5 : Int32) (l6 : Int32) (l7 : Int32) (x : St) (H : Heap) (locs : List Loc) (ls : Array Slot), (o < NN ∧ kcC o = 7) → rec114 o l1 l2 l3 l5 l6 l7 x → Wd dC dI cI cB cJ cZ ad stC kcC NN A x H → va_S A s.heap H locs → lv_has ls 8 [(0, .ref (ad o)), (1, .int l1), (2, .int l2), (3, .long l3), (5, .int l5), (6, .int l6), (7, .int l7)] → W p l e R s m args below meth c H locs cells slots Q (F0 m 114 ls [])) : ∀ (o : Nat) (l1 : Int32) (l2 : Int32) (l3 : Int64) (l5 : Int32) (l6 : Int32) (l7 : Int32) (x : St) (H : Heap) (locs : List Loc) (ls : Array Slot), (o < NN ∧ kcC o = 7) → j_Opn_readDictionary_251 post rec114 o l1 l2 l3 l5 l6 l7 x → Wd dC dI cI cB cJ cZ ad stC kcC NN A x H → va_S A s.heap H locs → lv_has ls 8 [(0, .ref (ad o)), (1, .int l1), (2, .int l2), (3, .long l3), (5, .int l5), (6, .int l6), (7, .int l7)] → W p l e R s m args below meth c H locs cells slots Q (F0 m 251 ls []) := by
  intro o l1 l2 l3 l5 l6 l7 x H locs ls fo hw hW hS hl
  unfold j_Opn_readDictionary_251 at hw
  refine lv_iinc (v := (l7 + 1)) (lv' := [(7, .int (l7 + 1)), (0, .ref (ad o)), (1, .int l1), (2, .int l2), (3, .long l3), (5, .int l5), (6, .int l6)]) hx hb d_Opn_readDictionary_251 hl (k := 6) rfl rfl (by decide) rfl (fun ls hl => ?_)
  refine lv_goto (tgt := 114) hx hb d_Opn_readDictionary_254 (by decide) ?_
  exact hrec114 o l1 l2 l3 l5 l6 (l7 + 1) x H locs ls fo hw hW hS (lv_sub hl [1, 2, 3, 4, 5, 6, 0] rfl)
set_option maxRecDepth 100000 in
set_option maxHeartbeats 4000000 in
set_option maxRecDepth 100000 in
theorem t_Opn_readDictionary_246 {p : Program} {l : Launch} {e : Env} {R : Room} {s : State} {m : MethodId} {args : Array Value} {below : List Frame} {meth : Method} {c : Code} {cells slots : Nat} {Q : State → Prop} {dC : Nat → ClassId} {dI : Nat → Nat → Nat} {cI cB cJ cZ : ClassId} {A : Nat → Prop} {ad : Nat → Nat} {NN : Nat} {E : Heap} {tM tC : Nat} {kK kV : Nat → Nat} {post : St → Prop} {rec114 : Nat → Int32 → Int32 → Int64 → Int32 → Int32 → Int32 → St → Prop} (hx : p.tables.exec = Jvm.exec) (hb : c.code = b_Opn_readDictionary) (hml : c.maxLocals = 8) (hown : s.vm.findClass R_Opn = some m.cls) (hT : ∀ w ∈ TG, w.before args s = true) (hK : va_K (dC, dI) CL (TY cI cB cJ cZ) s) (hN : NW s) (hA : ∀ q : Nat, s.heap.size ≤ q → A q) (hRc : cells ≤ R.cells) (hRs : slots ≤ R.slots) (hRf : 4 ≤ R.frames) (hRl : 168 ≤ R.locals) (hNN : 152 ≤ NN) (hE : CE E tM tC kK kV A s) (hret : ∀ (x : St) (H : Heap) (locs : List Loc) (pc : Nat) (ls : Array Slot), decode b_Opn_readDictionary pc = .ok (.return_, 1) → post x → Wd dC dI cI cB cJ cZ ad stC kcC NN A x H → va_S A s.heap H locs → W p l e R s m args below meth c H locs cells slots Q (F0 m pc ls [])) (hrec114 : ∀ (o : Nat) (l1 : Int32) (l2 : Int32) (l3 : Int64) (l5 : Int32) (l6 : Int32) (l7 : Int32) (x : St) (H : Heap) (locs : List Loc) (ls : Array Slot), (o < NN ∧ kcC o = 7) → rec114 o l1 l2 l3 l5 l6 l7 x → Wd dC dI cI cB cJ cZ ad stC kcC NN A x H → va_S A s.heap H locs → lv_has ls 8 [(0, .ref (ad o)), (1, .int l1), (2, .int l2), (3, .long l3), (5, .int l5), (6, .int l6), (7, .int l7)] → W p l e R s m args below meth c H locs cells slots Q (F0 m 114 ls [])) : ∀ (o : Nat) (l1 : Int32) (l2 : Int32) (l3 : Int64) (l5 : Int32) (l6 : Int32) (l7 : Int32) (s0 : Int32) (s1 : Nat) (x : St) (H : Heap) (locs : List Loc) (ls : Array Slot), (o < NN ∧ kcC o = 7) → (s1 < NN ∧ kcC s1 = 8) → j_Opn_readDictionary_246 post rec114 o l1 l2 l3 l5 l6 l7 s0 s1 x → Wd dC dI cI cB cJ cZ ad stC kcC NN A x H → va_S A s.heap H locs → lv_has ls 8 [(0, .ref (ad o)), (1, .int l1), (2, .int l2), (3, .long l3), (5, .int l5), (6, .int l6), (7, .int l7)] → W p l e R s m args below meth c H locs cells slots Q (F0 m 246 ls [.int s0, .ref (ad s1)]) := by
  intro o l1 l2 l3 l5 l6 l7 s0 s1 x H locs ls fo fs1 hw hW hS hl
  unfold j_Opn_readDictionary_246 at hw
  refine lv_bipush (v := 7) hx hb d_Opn_readDictionary_246 (by decide) ?_
  have hF := hW.free hS hA
  refine va_callv (va_runV (C := R_Src) (As := [.int s0, .int 7]) (rest := []) ⟨hx, hb, hml, hown, hT⟩ (k_Src_check l dC dI cI cB cJ cZ ad NN E tM tC kK kV hNN H.size s1 s0 7 x fs1 hw) ⟨callB_of 2 hT (gwt_in w_6_116) rfl rfl rfl (hT _ w_1_11) (hT _ w_6_113) (by decide +kernel) ⟨Nat.le_trans (Nat.le_of_ble_eq_true rfl) hRf, Nat.le_trans (Nat.le_of_ble_eq_true rfl) hRl⟩, hT _ w_6_114, hT _ w_6_115⟩ ⟨PVc.blind, va_recv hK hW.1 (ci := 8) (q0 := s1) rfl (pic_obj fs1.1 fs1.2 (by decide)), PVc.at _ hW hK hN hE hS hF⟩ rfl rfl hl.1 rfl (lv_room (Nat.le_of_ble_eq_true rfl)) d_Opn_readDictionary_248 ⟨hRc, hRs⟩) hS (fun q _ h => hF q h) hF (fun  x4 t H locs ht hvm hw hB hz1 hk1 hS => ?_)
  have hW := Wd.back hB ht hF
  clear hB ht hF hz1 hk1 hvm
  exact t_Opn_readDictionary_251 hx hb hml hown hT hK hN hA hRc hRs hRf hRl hNN hE hret hrec114 o l1 l2 l3 l5 l6 l7 x4 H locs ls fo hw hW hS (lv_sub hl [0, 1, 2, 3, 4, 5, 6] rfl)
set_option maxRecDepth 100000 in
set_option maxHeartbeats 4000000 in
set_option maxRecDepth 100000 in
theorem t_Opn_readDictionary_223 {p : Program} {l : Launch} {e : Env} {R : Room} {s : State} {m : MethodId} {args : Array Value} {below : List Frame} {meth : Method} {c : Code} {cells slots : Nat} {Q : State → Prop} {dC : Nat → ClassId} {dI : Nat → Nat → Nat} {cI cB cJ cZ : ClassId} {A : Nat → Prop} {ad : Nat → Nat} {NN : Nat} {E : Heap} {tM tC : Nat} {kK kV : Nat → Nat} {post : St → Prop} {rec114 : Nat → Int32 → Int32 → Int64 → Int32 → Int32 → Int32 → St → Prop} (hx : p.tables.exec = Jvm.exec) (hb : c.code = b_Opn_readDictionary) (hml : c.maxLocals = 8) (hown : s.vm.findClass R_Opn = some m.cls) (hT : ∀ w ∈ TG, w.before args s = true) (hK : va_K (dC, dI) CL (TY cI cB cJ cZ) s) (hN : NW s) (hA : ∀ q : Nat, s.heap.size ≤ q → A q) (hRc : cells ≤ R.cells) (hRs : slots ≤ R.slots) (hRf : 4 ≤ R.frames) (hRl : 168 ≤ R.locals) (hNN : 152 ≤ NN) (hE : CE E tM tC kK kV A s) (hret : ∀ (x : St) (H : Heap) (locs : List Loc) (pc : Nat) (ls : Array Slot), decode b_Opn_readDictionary pc = .ok (.return_, 1) → post x → Wd dC dI cI cB cJ cZ ad stC kcC NN A x H → va_S A s.heap H locs → W p l e R s m args below meth c H locs cells slots Q (F0 m pc ls [])) (hrec114 : ∀ (o : Nat) (l1 : Int32) (l2 : Int32) (l3 : Int64) (l5 : Int32) (l6 : Int32) (l7 : Int32) (x : St) (H : Heap) (locs : List Loc) (ls : Array Slot), (o < NN ∧ kcC o = 7) → rec114 o l1 l2 l3 l5 l6 l7 x → Wd dC dI cI cB cJ cZ ad stC kcC NN A x H → va_S A s.heap H locs → lv_has ls 8 [(0, .ref (ad o)), (1, .int l1), (2, .int l2), (3, .long l3), (5, .int l5), (6, .int l6), (7, .int l7)] → W p l e R s m args below meth c H locs cells slots Q (F0 m 114 ls [])) : ∀ (o : Nat) (l1 : Int32) (l2 : Int32) (l3 : Int64) (l5 : Int32) (l6 : Int32) (l7 : Int32) (s0 : Int32) (s1 : Int32) (s2 : Nat) (x : St) (H : Heap) (locs : List Loc) (ls : Array Slot), (o < NN ∧ kcC o = 7) → (s2 < NN ∧ kcC s2 = 7) → j_Opn_readDictionary_223 post rec114 o l1 l2 l3 l5 l6 l7 s0 s1 s2 x → Wd dC dI cI cB cJ cZ ad stC kcC NN A x H → va_S A s.heap H locs → lv_has ls 8 [(0, .ref (ad o)), (1, .int l1), (2, .int l2), (3, .long l3), (5, .int l5), (6, .int l6), (7, .int l7)] → W p l e R s m args below meth c H locs cells slots Q (F0 m 223 ls [.int s0, .int s1, .ref (ad s2)]) := by
  intro o l1 l2 l3 l5 l6 l7 s0 s1 s2 x H locs ls fo fs2 hw hW hS hl
  unfold j_Opn_readDictionary_223 at hw
  refine lv_iadd hx hb d_Opn_readDictionary_223 ?_
  refine w_puti (ty := .int) (k := 15) (t := 7) (C := R_Opn) (T := F_Opn) (N := 17) hx hb hT hown hK hW hS fs2.1 fs2.2 (by decide) in_Opn t_Opn t_Opn_ok n_Opn rfl rfl (by decide) rfl fr_Opn_15 w_3_31 (by decide +kernel) rfl rfl d_Opn_readDictionary_224 (fun H locs hW hS => ?_)
  obtain ⟨x5, ex5⟩ : ∃ y : St, y = setI x s2 15 (s1 + s0) := ⟨_, rfl⟩
  rw [← ex5] at hW
  have hw := hw x5 ex5
  refine lv_aload_n hx hb d_Opn_readDictionary_227 rfl (lv_at hl 0 rfl) ?_
  refine w_getf (q := (stC o 2)) (k := 2) (t := 7) (C := R_Opn) (T := F_Opn) (N := 17) hx hb hT hown hK hW fo.1 fo.2 (by decide) in_Opn rfl rfl (by decide) rfl fr_Opn_2 w_3_17 d_Opn_readDictionary_228 rfl ?_
  refine lv_aload_n hx hb d_Opn_readDictionary_231 rfl (lv_at hl 0 rfl) ?_
  refine w_geti (k := 15) (t := 7) (C := R_Opn) (T := F_Opn) (N := 17) hx hb hT hown hK hW fo.1 fo.2 (by decide) in_Opn rfl rfl (by decide) rfl fr_Opn_15 w_3_31 d_Opn_readDictionary_232 ?_
  refine lv_sipush (v := 20000) hx hb d_Opn_readDictionary_235 (by decide) ?_
  refine lv_icmp_gt (tgt := 245) hx hb d_Opn_readDictionary_238 (by decide) (fun c6 => ?_) (fun c6 => ?_)
  · have hw := hw.1 c6
    refine lv_iconst (v := 0) hx hb d_Opn_readDictionary_245 (by decide) ?_
    exact t_Opn_readDictionary_246 hx hb hml hown hT hK hN hA hRc hRs hRf hRl hNN hE hret hrec114 o l1 l2 l3 l5 l6 l7 0 (stC o 2) x5 H locs ls fo (st_ty hNN fo.1 fo.2 rfl) hw hW hS (lv_sub hl [0, 1, 2, 3, 4, 5, 6] rfl)
  · have hw := hw.2 c6
    refine lv_iconst (v := 1) hx hb d_Opn_readDictionary_241 (by decide) ?_
    refine lv_goto (tgt := 246) hx hb d_Opn_readDictionary_242 (by decide) ?_
    exact t_Opn_readDictionary_246 hx hb hml hown hT hK hN hA hRc hRs hRf hRl hNN hE hret hrec114 o l1 l2 l3 l5 l6 l7 1 (stC o 2) x5 H locs ls fo (st_ty hNN fo.1 fo.2 rfl) hw hW hS (lv_sub hl [0, 1, 2, 3, 4, 5, 6] rfl)
set_option maxRecDepth 100000 in
set_option maxHeartbeats 4000000 in
set_option maxRecDepth 100000 in
theorem t_Opn_readDictionary_156 {p : Program} {l : Launch} {e : Env} {R : Room} {s : State} {m : MethodId} {args : Array Value} {below : List Frame} {meth : Method} {c : Code} {cells slots : Nat} {Q : State → Prop} {dC : Nat → ClassId} {dI : Nat → Nat → Nat} {cI cB cJ cZ : ClassId} {A : Nat → Prop} {ad : Nat → Nat} {NN : Nat} {E : Heap} {tM tC : Nat} {kK kV : Nat → Nat} {post : St → Prop} {rec114 : Nat → Int32 → Int32 → Int64 → Int32 → Int32 → Int32 → St → Prop} (hx : p.tables.exec = Jvm.exec) (hb : c.code = b_Opn_readDictionary) (hml : c.maxLocals = 8) (hown : s.vm.findClass R_Opn = some m.cls) (hT : ∀ w ∈ TG, w.before args s = true) (hK : va_K (dC, dI) CL (TY cI cB cJ cZ) s) (hN : NW s) (hA : ∀ q : Nat, s.heap.size ≤ q → A q) (hRc : cells ≤ R.cells) (hRs : slots ≤ R.slots) (hRf : 4 ≤ R.frames) (hRl : 168 ≤ R.locals) (hNN : 152 ≤ NN) (hE : CE E tM tC kK kV A s) (hret : ∀ (x : St) (H : Heap) (locs : List Loc) (pc : Nat) (ls : Array Slot), decode b_Opn_readDictionary pc = .ok (.return_, 1) → post x → Wd dC dI cI cB cJ cZ ad stC kcC NN A x H → va_S A s.heap H locs → W p l e R s m args below meth c H locs cells slots Q (F0 m pc ls [])) (hrec114 : ∀ (o : Nat) (l1 : Int32) (l2 : Int32) (l3 : Int64) (l5 : Int32) (l6 : Int32) (l7 : Int32) (x : St) (H : Heap) (locs : List Loc) (ls : Array Slot), (o < NN ∧ kcC o = 7) → rec114 o l1 l2 l3 l5 l6 l7 x → Wd dC dI cI cB cJ cZ ad stC kcC NN A x H → va_S A s.heap H locs → lv_has ls 8 [(0, .ref (ad o)), (1, .int l1), (2, .int l2), (3, .long l3), (5, .int l5), (6, .int l6), (7, .int l7)] → W p l e R s m args below meth c H locs cells slots Q (F0 m 114 ls [])) : ∀ (o : Nat) (l1 : Int32) (l2 : Int32) (l3 : Int64) (l5 : Int32) (l6 : Int32) (l7 : Int32) (s0 : Int32) (s1 : Nat) (x : St) (H : Heap) (locs : List Loc) (ls : Array Slot), (o < NN ∧ kcC o = 7) → (s1 < NN ∧ kcC s1 = 8) → j_Opn_readDictionary_156 post rec114 o l1 l2 l3 l5 l6 l7 s0 s1 x → Wd dC dI cI cB cJ cZ ad stC kcC NN A x H → va_S A s.heap H locs → lv_has ls 8 [(0, .ref (ad o)), (1, .int l1), (2, .int l2), (3, .long l3), (5, .int l5), (6, .int l6), (7, .int l7)] → W p l e R s m args below meth c H locs cells slots Q (F0 m 156 ls [.int s0, .ref (ad s1)]) := by
  intro o l1 l2 l3 l5 l6 l7 s0 s1 x H locs ls fo fs1 hw hW hS hl
  unfold j_Opn_readDictionary_156 at hw
  refine lv_bipush (v := 7) hx hb d_Opn_readDictionary_156 (by decide) ?_
  have hF := hW.free hS hA
  refine va_callv (va_runV (C := R_Src) (As := [.int s0, .int 7]) (rest := []) ⟨hx, hb, hml, hown, hT⟩ (k_Src_check l dC dI cI cB cJ cZ ad NN E tM tC kK kV hNN H.size s1 s0 7 x fs1 hw) ⟨callB_of 2 hT (gwt_in w_6_116) rfl rfl rfl (hT _ w_1_11) (hT _ w_6_113) (by decide +kernel) ⟨Nat.le_trans (Nat.le_of_ble_eq_true rfl) hRf, Nat.le_trans (Nat.le_of_ble_eq_true rfl) hRl⟩, hT _ w_6_114, hT _ w_6_115⟩ ⟨PVc.blind, va_recv hK hW.1 (ci := 8) (q0 := s1) rfl (pic_obj fs1.1 fs1.2 (by decide)), PVc.at _ hW hK hN hE hS hF⟩ rfl rfl hl.1 rfl (lv_room (Nat.le_of_ble_eq_true rfl)) d_Opn_readDictionary_158 ⟨hRc, hRs⟩) hS (fun q _ h => hF q h) hF (fun  x7 t H locs ht hvm hw hB hz1 hk1 hS => ?_)
  have hW := Wd.back hB ht hF
  clear hB ht hF hz1 hk1 hvm
  refine lv_aload_n hx hb d_Opn_readDictionary_161 rfl (lv_at hl 0 rfl) ?_
  refine w_getf (q := (stC o 2)) (k := 2) (t := 7) (C := R_Opn) (T := F_Opn) (N := 17) hx hb hT hown hK hW fo.1 fo.2 (by decide) in_Opn rfl rfl (by decide) rfl fr_Opn_2 w_3_17 d_Opn_readDictionary_162 rfl ?_
  refine w_geti (k := 3) (t := 8) (C := R_Src) (T := F_Src) (N := 5) hx hb hT hown hK hW (st_ty hNN fo.1 fo.2 rfl).1 (st_ty hNN fo.1 fo.2 rfl).2 (by decide) in_Src rfl rfl (by decide) rfl fr_Src_3 w_3_2 d_Opn_readDictionary_165 ?_
  refine lv_if_ne (tgt := 251) hx hb d_Opn_readDictionary_168 (by decide) (fun c8 => ?_) (fun c8 => ?_)
  · have hw := hw.1 c8
    exact t_Opn_readDictionary_251 hx hb hml hown hT hK hN hA hRc hRs hRf hRl hNN hE hret hrec114 o l1 l2 l3 l5 l6 l7 x7 H locs ls fo hw hW hS (lv_sub hl [0, 1, 2, 3, 4, 5, 6] rfl)
  · have hw := hw.2 c8
    refine lv_aload_n hx hb d_Opn_readDictionary_171 rfl (lv_at hl 0 rfl) ?_
    refine w_getf (q := (stC o 8)) (k := 8) (t := 7) (C := R_Opn) (T := F_Opn) (N := 17) hx hb hT hown hK hW fo.1 fo.2 (by decide) in_Opn rfl rfl (by decide) rfl fr_Opn_8 w_3_24 d_Opn_readDictionary_172 rfl ?_
    refine lv_iload hx hb d_Opn_readDictionary_175 (lv_at hl 6 rfl) ?_
    refine lv_aload_n hx hb d_Opn_readDictionary_177 rfl (lv_at hl 0 rfl) ?_
    refine w_getf (q := (stC o 0)) (k := 0) (t := 7) (C := R_Opn) (T := F_Opn) (N := 17) hx hb hT hown hK hW fo.1 fo.2 (by decide) in_Opn rfl rfl (by decide) rfl fr_Opn_0 w_3_15 d_Opn_readDictionary_178 rfl ?_
    refine w_getf (q := (stC (stC o 0) 19)) (k := 19) (t := 6) (C := R_Vlt) (T := F_Vlt) (N := 20) hx hb hT hown hK hW (st_ty hNN fo.1 fo.2 rfl).1 (st_ty hNN fo.1 fo.2 rfl).2 (by decide) in_Vlt rfl rfl (by decide) rfl fr_Vlt_19 w_2_181 d_Opn_readDictionary_181 rfl ?_
    refine lv_aload_n hx hb d_Opn_readDictionary_184 rfl (lv_at hl 0 rfl) ?_
    refine w_geti (k := 13) (t := 7) (C := R_Opn) (T := F_Opn) (N := 17) hx hb hT hown hK hW fo.1 fo.2 (by decide) in_Opn rfl rfl (by decide) rfl fr_Opn_13 w_3_29 d_Opn_readDictionary_185 ?_
    refine lv_aload_n hx hb d_Opn_readDictionary_188 rfl (lv_at hl 0 rfl) ?_
    refine w_getf (q := (stC o 7)) (k := 7) (t := 7) (C := R_Opn) (T := F_Opn) (N := 17) hx hb hT hown hK hW fo.1 fo.2 (by decide) in_Opn rfl rfl (by decide) rfl fr_Opn_7 w_3_23 d_Opn_readDictionary_189 rfl ?_
    refine lv_iload hx hb d_Opn_readDictionary_192 (lv_at hl 6 rfl) ?_
    obtain ⟨hi, hw⟩ := hw
    refine w_lald (o := (stC o 7)) hx hb hK hW (st_ty hNN fo.1 fo.2 rfl).1 (st_ty hNN fo.1 fo.2 rfl).2 hi d_Opn_readDictionary_194 ?_
    refine lv_l2i hx hb d_Opn_readDictionary_195 rfl ?_
    refine lv_iadd hx hb d_Opn_readDictionary_196 ?_
    obtain ⟨hi, hw⟩ := hw
    refine w_lald (o := (stC (stC o 0) 19)) hx hb hK hW (st_ty hNN (st_ty hNN fo.1 fo.2 rfl).1 (st_ty hNN fo.1 fo.2 rfl).2 rfl).1 (st_ty hNN (st_ty hNN fo.1 fo.2 rfl).1 (st_ty hNN fo.1 fo.2 rfl).2 rfl).2 hi d_Opn_readDictionary_197 ?_
    obtain ⟨hi, hw⟩ := hw
    refine w_last (o := (stC o 8)) hx hb hK hW hS (st_ty hNN fo.1 fo.2 rfl).1 (st_ty hNN fo.1 fo.2 rfl).2 hi d_Opn_readDictionary_198 (fun H locs hW hS => ?_)
    obtain ⟨x9, ex9⟩ : ∃ y : St, y = setL x7 (stC o 8) l7 (rL x7 (stC (stC o 0) 19) ((fI x7 o 13) + ((rL x7 (stC o 7) l7) : Int64).toInt32)) := ⟨_, rfl⟩
    rw [← ex9] at hW
    have hw := hw x9 ex9
    refine lv_aload_n hx hb d_Opn_readDictionary_199 rfl (lv_at hl 0 rfl) ?_
    refine lv_dup hx hb d_Opn_readDictionary_200 rfl ?_
    refine w_geti (k := 15) (t := 7) (C := R_Opn) (T := F_Opn) (N := 17) hx hb hT hown hK hW fo.1 fo.2 (by decide) in_Opn rfl rfl (by decide) rfl fr_Opn_15 w_3_31 d_Opn_readDictionary_201 ?_
    refine lv_iload_n hx hb d_Opn_readDictionary_204 rfl (lv_at hl 1 rfl) ?_
    refine lv_iconst (v := 3) hx hb d_Opn_readDictionary_205 (by decide) ?_
    refine lv_icmp_ne (tgt := 222) hx hb d_Opn_readDictionary_206 (by decide) (fun c10 => ?_) (fun c10 => ?_)
    · have hw := hw.1 c10
      refine lv_iconst (v := 0) hx hb d_Opn_readDictionary_222 (by decide) ?_
      exact t_Opn_readDictionary_223 hx hb hml hown hT hK hN hA hRc hRs hRf hRl hNN hE hret hrec114 o l1 l2 l3 l5 l6 l7 0 (fI x9 o 15) o x9 H locs ls fo fo hw hW hS (lv_sub hl [0, 1, 2, 3, 4, 5, 6] rfl)
    · have hw := hw.2 c10
      refine lv_aload_n hx hb d_Opn_readDictionary_209 rfl (lv_at hl 0 rfl) ?_
      refine w_getf (q := (stC o 8)) (k := 8) (t := 7) (C := R_Opn) (T := F_Opn) (N := 17) hx hb hT hown hK hW fo.1 fo.2 (by decide) in_Opn rfl rfl (by decide) rfl fr_Opn_8 w_3_24 d_Opn_readDictionary_210 rfl ?_
      refine lv_iload hx hb d_Opn_readDictionary_213 (lv_at hl 6 rfl) ?_
      obtain ⟨hi, hw⟩ := hw
      refine w_lald (o := (stC o 8)) hx hb hK hW (st_ty hNN fo.1 fo.2 rfl).1 (st_ty hNN fo.1 fo.2 rfl).2 hi d_Opn_readDictionary_215 ?_
      have hF := hW.free hS hA
      refine va_calli (va_runSN (As := [.long (rL x9 (stC o 8) l7)]) (rest := [.int (fI x9 o 15), .ref (ad o)]) ⟨hx, hb, hml, hown, hT⟩ (k_V_sizeOf l dC dI cI cB cJ cZ ad NN E tM tC kK kV hNN H.size (rL x9 (stC o 8) l7) x9  hw) ⟨va_cnB 1 hT (gwt_in w_5_161) rfl rfl rfl (hN _ wn_6_237 rfl) (hT _ w_1_1) (by decide +kernel) ⟨Nat.le_trans (Nat.le_of_ble_eq_true rfl) hRf, Nat.le_trans (Nat.le_of_ble_eq_true rfl) hRl⟩, hT _ w_5_160, trivial⟩ ⟨PVc.blind, PVc.at _ hW hK hN hE hS hF⟩ rfl rfl hl.1 rfl (lv_room (Nat.le_of_ble_eq_true rfl)) d_Opn_readDictionary_216 ⟨hRc, hRs⟩) hS (fun q _ h => hF q h) hF (fun r12 x11 t H locs ht hvm hw hB hz1 hk1 hS => ?_)
      have hW := Wd.back hB ht hF
      clear hB ht hF hz1 hk1 hvm
      refine lv_goto (tgt := 223) hx hb d_Opn_readDictionary_219 (by decide) ?_
      exact t_Opn_readDictionary_223 hx hb hml hown hT hK hN hA hRc hRs hRf hRl hNN hE hret hrec114 o l1 l2 l3 l5 l6 l7 r12 (fI x9 o 15) o x11 H locs ls fo fo hw hW hS (lv_sub hl [0, 1, 2, 3, 4, 5, 6] rfl)
set_option maxRecDepth 100000 in
set_option maxHeartbeats 4000000 in
set_option maxRecDepth 100000 in
theorem t_Opn_readDictionary_114 {p : Program} {l : Launch} {e : Env} {R : Room} {s : State} {m : MethodId} {args : Array Value} {below : List Frame} {meth : Method} {c : Code} {cells slots : Nat} {Q : State → Prop} {dC : Nat → ClassId} {dI : Nat → Nat → Nat} {cI cB cJ cZ : ClassId} {A : Nat → Prop} {ad : Nat → Nat} {NN : Nat} {E : Heap} {tM tC : Nat} {kK kV : Nat → Nat} {post : St → Prop} {rec114 : Nat → Int32 → Int32 → Int64 → Int32 → Int32 → Int32 → St → Prop} (hx : p.tables.exec = Jvm.exec) (hb : c.code = b_Opn_readDictionary) (hml : c.maxLocals = 8) (hown : s.vm.findClass R_Opn = some m.cls) (hT : ∀ w ∈ TG, w.before args s = true) (hK : va_K (dC, dI) CL (TY cI cB cJ cZ) s) (hN : NW s) (hA : ∀ q : Nat, s.heap.size ≤ q → A q) (hRc : cells ≤ R.cells) (hRs : slots ≤ R.slots) (hRf : 4 ≤ R.frames) (hRl : 168 ≤ R.locals) (hNN : 152 ≤ NN) (hE : CE E tM tC kK kV A s) (hret : ∀ (x : St) (H : Heap) (locs : List Loc) (pc : Nat) (ls : Array Slot), decode b_Opn_readDictionary pc = .ok (.return_, 1) → post x → Wd dC dI cI cB cJ cZ ad stC kcC NN A x H → va_S A s.heap H locs → W p l e R s m args below meth c H locs cells slots Q (F0 m pc ls [])) (hrec114 : ∀ (o : Nat) (l1 : Int32) (l2 : Int32) (l3 : Int64) (l5 : Int32) (l6 : Int32) (l7 : Int32) (x : St) (H : Heap) (locs : List Loc) (ls : Array Slot), (o < NN ∧ kcC o = 7) → rec114 o l1 l2 l3 l5 l6 l7 x → Wd dC dI cI cB cJ cZ ad stC kcC NN A x H → va_S A s.heap H locs → lv_has ls 8 [(0, .ref (ad o)), (1, .int l1), (2, .int l2), (3, .long l3), (5, .int l5), (6, .int l6), (7, .int l7)] → W p l e R s m args below meth c H locs cells slots Q (F0 m 114 ls [])) : ∀ (o : Nat) (l1 : Int32) (l2 : Int32) (l3 : Int64) (l5 : Int32) (l6 : Int32) (l7 : Int32) (x : St) (H : Heap) (locs : List Loc) (ls : Array Slot), (o < NN ∧ kcC o = 7) → j_Opn_readDictionary_114 post rec114 o l1 l2 l3 l5 l6 l7 x → Wd dC dI cI cB cJ cZ ad stC kcC NN A x H → va_S A s.heap H locs → lv_has ls 8 [(0, .ref (ad o)), (1, .int l1), (2, .int l2), (3, .long l3), (5, .int l5), (6, .int l6), (7, .int l7)] → W p l e R s m args below meth c H locs cells slots Q (F0 m 114 ls []) := by
  intro o l1 l2 l3 l5 l6 l7 x H locs ls fo hw hW hS hl
  unfold j_Opn_readDictionary_114 at hw
  refine lv_iload hx hb d_Opn_readDictionary_114 (lv_at hl 6 rfl) ?_
  refine lv_aload_n hx hb d_Opn_readDictionary_116 rfl (lv_at hl 0 rfl) ?_
  refine w_geti (k := 9) (t := 7) (C := R_Opn) (T := F_Opn) (N := 17) hx hb hT hown hK hW fo.1 fo.2 (by decide) in_Opn rfl rfl (by decide) rfl fr_Opn_9 w_3_25 d_Opn_readDictionary_117 ?_
  refine lv_icmp_ge (tgt := 257) hx hb d_Opn_readDictionary_120 (by decide) (fun c13 => ?_) (fun c13 => ?_)
  · have hw := hw.1 c13
    exact t_Opn_readDictionary_257 hx hb hml hown hT hK hN hA hRc hRs hRf hRl hNN hE hret  o l1 l2 l3 l5 l6 l7 x H locs ls fo hw hW hS (lv_sub hl [0, 1, 2, 3, 4, 5, 6] rfl)
  · have hw := hw.2 c13
    refine lv_aload_n hx hb d_Opn_readDictionary_123 rfl (lv_at hl 0 rfl) ?_
    refine w_getf (q := (stC o 2)) (k := 2) (t := 7) (C := R_Opn) (T := F_Opn) (N := 17) hx hb hT hown hK hW fo.1 fo.2 (by decide) in_Opn rfl rfl (by decide) rfl fr_Opn_2 w_3_17 d_Opn_readDictionary_124 rfl ?_
    refine w_geti (k := 3) (t := 8) (C := R_Src) (T := F_Src) (N := 5) hx hb hT hown hK hW (st_ty hNN fo.1 fo.2 rfl).1 (st_ty hNN fo.1 fo.2 rfl).2 (by decide) in_Src rfl rfl (by decide) rfl fr_Src_3 w_3_2 d_Opn_readDictionary_127 ?_
    refine lv_if_ne (tgt := 257) hx hb d_Opn_readDictionary_130 (by decide) (fun c14 => ?_) (fun c14 => ?_)
    · have hw := hw.1 c14
      exact t_Opn_readDictionary_257 hx hb hml hown hT hK hN hA hRc hRs hRf hRl hNN hE hret  o l1 l2 l3 l5 l6 l7 x H locs ls fo hw hW hS (lv_sub hl [0, 1, 2, 3, 4, 5, 6] rfl)
    · have hw := hw.2 c14
      refine lv_aload_n hx hb d_Opn_readDictionary_133 rfl (lv_at hl 0 rfl) ?_
      refine w_getf (q := (stC o 2)) (k := 2) (t := 7) (C := R_Opn) (T := F_Opn) (N := 17) hx hb hT hown hK hW fo.1 fo.2 (by decide) in_Opn rfl rfl (by decide) rfl fr_Opn_2 w_3_17 d_Opn_readDictionary_134 rfl ?_
      refine lv_aload_n hx hb d_Opn_readDictionary_137 rfl (lv_at hl 0 rfl) ?_
      refine w_getf (q := (stC o 7)) (k := 7) (t := 7) (C := R_Opn) (T := F_Opn) (N := 17) hx hb hT hown hK hW fo.1 fo.2 (by decide) in_Opn rfl rfl (by decide) rfl fr_Opn_7 w_3_23 d_Opn_readDictionary_138 rfl ?_
      refine lv_iload hx hb d_Opn_readDictionary_141 (lv_at hl 6 rfl) ?_
      obtain ⟨hi, hw⟩ := hw
      refine w_lald (o := (stC o 7)) hx hb hK hW (st_ty hNN fo.1 fo.2 rfl).1 (st_ty hNN fo.1 fo.2 rfl).2 hi d_Opn_readDictionary_143 ?_
      refine lv_iload hx hb d_Opn_readDictionary_144 (lv_at hl 4 rfl) ?_
      refine lv_i2l hx hb d_Opn_readDictionary_146 rfl ?_
      refine W.lcmp hx hb d_Opn_readDictionary_147 ?_
      refine lv_if_ge (tgt := 155) hx hb d_Opn_readDictionary_148 (by decide) (fun c15 => ?_) (fun c15 => ?_)
      · have hw := hw.1 c15
        refine lv_iconst (v := 0) hx hb d_Opn_readDictionary_155 (by decide) ?_
        exact t_Opn_readDictionary_156 hx hb hml hown hT hK hN hA hRc hRs hRf hRl hNN hE hret hrec114 o l1 l2 l3 l5 l6 l7 0 (stC o 2) x H locs ls fo (st_ty hNN fo.1 fo.2 rfl) hw hW hS (lv_sub hl [0, 1, 2, 3, 4, 5, 6] rfl)
      · have hw := hw.2 c15
        refine lv_iconst (v := 1) hx hb d_Opn_readDictionary_151 (by decide) ?_
        refine lv_goto (tgt := 156) hx hb d_Opn_readDictionary_152 (by decide) ?_
        exact t_Opn_readDictionary_156 hx hb hml hown hT hK hN hA hRc hRs hRf hRl hNN hE hret hrec114 o l1 l2 l3 l5 l6 l7 1 (stC o 2) x H locs ls fo (st_ty hNN fo.1 fo.2 rfl) hw hW hS (lv_sub hl [0, 1, 2, 3, 4, 5, 6] rfl)
set_option maxHeartbeats 4000000 in
set_option maxRecDepth 100000 in
theorem tl_Opn_readDictionary_114 {p : Program} {l : Launch} {e : Env} {R : Room} {s : State} {m : MethodId} {args : Array Value} {below : List Frame} {meth : Method} {c : Code} {cells slots : Nat} {Q : State → Prop} {dC : Nat → ClassId} {dI : Nat → Nat → Nat} {cI cB cJ cZ : ClassId} {A : Nat → Prop} {ad : Nat → Nat} {NN : Nat} {E : Heap} {tM tC : Nat} {kK kV : Nat → Nat} {post : St → Prop} (hx : p.tables.exec = Jvm.exec) (hb : c.code = b_Opn_readDictionary) (hml : c.maxLocals = 8) (hown : s.vm.findClass R_Opn = some m.cls) (hT : ∀ w ∈ TG, w.before args s = true) (hK : va_K (dC, dI) CL (TY cI cB cJ cZ) s) (hN : NW s) (hA : ∀ q : Nat, s.heap.size ≤ q → A q) (hRc : cells ≤ R.cells) (hRs : slots ≤ R.slots) (hRf : 4 ≤ R.frames) (hRl : 168 ≤ R.locals) (hNN : 152 ≤ NN) (hE : CE E tM tC kK kV A s) (hret : ∀ (x : St) (H : Heap) (locs : List Loc) (pc : Nat) (ls : Array Slot), decode b_Opn_readDictionary pc = .ok (.return_, 1) → post x → Wd dC dI cI cB cJ cZ ad stC kcC NN A x H → va_S A s.heap H locs → W p l e R s m args below meth c H locs cells slots Q (F0 m pc ls []))  : ∀ n : Nat, ∀ (o : Nat) (l1 : Int32) (l2 : Int32) (l3 : Int64) (l5 : Int32) (l6 : Int32) (l7 : Int32) (x : St) (H : Heap) (locs : List Loc) (ls : Array Slot), (o < NN ∧ kcC o = 7) → wl_Opn_readDictionary_114 post n o l1 l2 l3 l5 l6 l7 x → Wd dC dI cI cB cJ cZ ad stC kcC NN A x H → va_S A s.heap H locs → lv_has ls 8 [(0, .ref (ad o)), (1, .int l1), (2, .int l2), (3, .long l3), (5, .int l5), (6, .int l6), (7, .int l7)] → W p l e R s m args below meth c H locs cells slots Q (F0 m 114 ls []) := by
  intro n
  induction n with
  | zero => intro o l1 l2 l3 l5 l6 l7 x H locs ls fo hw; exact hw.elim
  | succ n ih => intro o l1 l2 l3 l5 l6 l7 x H locs ls fo hw hW hS hl; exact t_Opn_readDictionary_114 hx hb hml hown hT hK hN hA hRc hRs hRf hRl hNN hE hret  ih o l1 l2 l3 l5 l6 l7 x H locs ls fo hw hW hS hl
set_option maxRecDepth 100000 in
set_option maxHeartbeats 4000000 in
set_option maxRecDepth 100000 in
theorem t_Opn_readDictionary_83 {p : Program} {l : Launch} {e : Env} {R : Room} {s : State} {m : MethodId} {args : Array Value} {below : List Frame} {meth : Method} {c : Code} {cells slots : Nat} {Q : State → Prop} {dC : Nat → ClassId} {dI : Nat → Nat → Nat} {cI cB cJ cZ : ClassId} {A : Nat → Prop} {ad : Nat → Nat} {NN : Nat} {E : Heap} {tM tC : Nat} {kK kV : Nat → Nat} {post : St → Prop} (hx : p.tables.exec = Jvm.exec) (hb : c.code = b_Opn_readDictionary) (hml : c.maxLocals = 8) (hown : s.vm.findClass R_Opn = some m.cls) (hT : ∀ w ∈ TG, w.before args s = true) (hK : va_K (dC, dI) CL (TY cI cB cJ cZ) s) (hN : NW s) (hA : ∀ q : Nat, s.heap.size ≤ q → A q) (hRc : cells ≤ R.cells) (hRs : slots ≤ R.slots) (hRf : 4 ≤ R.frames) (hRl : 168 ≤ R.locals) (hNN : 152 ≤ NN) (hE : CE E tM tC kK kV A s) (hret : ∀ (x : St) (H : Heap) (locs : List Loc) (pc : Nat) (ls : Array Slot), decode b_Opn_readDictionary pc = .ok (.return_, 1) → post x → Wd dC dI cI cB cJ cZ ad stC kcC NN A x H → va_S A s.heap H locs → W p l e R s m args below meth c H locs cells slots Q (F0 m pc ls []))  : ∀ (o : Nat) (l1 : Int32) (l2 : Int32) (l3 : Int64) (l5 : Int32) (l6 : Int32) (s0 : Int32) (s1 : Nat) (x : St) (H : Heap) (locs : List Loc) (ls : Array Slot), (o < NN ∧ kcC o = 7) → (s1 < NN ∧ kcC s1 = 8) → j_Opn_readDictionary_83 post o l1 l2 l3 l5 l6 s0 s1 x → Wd dC dI cI cB cJ cZ ad stC kcC NN A x H → va_S A s.heap H locs → lv_has ls 8 [(0, .ref (ad o)), (1, .int l1), (2, .int l2), (3, .long l3), (5, .int l5), (6, .int l6)] → W p l e R s m args below meth c H locs cells slots Q (F0 m 83 ls [.int s0, .ref (ad s1)]) := by
  intro o l1 l2 l3 l5 l6 s0 s1 x H locs ls fo fs1 hw hW hS hl
  unfold j_Opn_readDictionary_83 at hw
  refine lv_iconst (v := 5) hx hb d_Opn_readDictionary_83 (by decide) ?_
  have hF := hW.free hS hA
  refine va_callv (va_runV (C := R_Src) (As := [.int s0, .int 5]) (rest := []) ⟨hx, hb, hml, hown, hT⟩ (k_Src_check l dC dI cI cB cJ cZ ad NN E tM tC kK kV hNN H.size s1 s0 5 x fs1 hw) ⟨callB_of 2 hT (gwt_in w_6_116) rfl rfl rfl (hT _ w_1_11) (hT _ w_6_113) (by decide +kernel) ⟨Nat.le_trans (Nat.le_of_ble_eq_true rfl) hRf, Nat.le_trans (Nat.le_of_ble_eq_true rfl) hRl⟩, hT _ w_6_114, hT _ w_6_115⟩ ⟨PVc.blind, va_recv hK hW.1 (ci := 8) (q0 := s1) rfl (pic_obj fs1.1 fs1.2 (by decide)), PVc.at _ hW hK hN hE hS hF⟩ rfl rfl hl.1 rfl (lv_room (Nat.le_of_ble_eq_true rfl)) d_Opn_readDictionary_84 ⟨hRc, hRs⟩) hS (fun q _ h => hF q h) hF (fun  x16 t H locs ht hvm hw hB hz1 hk1 hS => ?_)
  have hW := Wd.back hB ht hF
  clear hB ht hF hz1 hk1 hvm
  refine lv_aload_n hx hb d_Opn_readDictionary_87 rfl (lv_at hl 0 rfl) ?_
  refine w_getf (q := (stC o 2)) (k := 2) (t := 7) (C := R_Opn) (T := F_Opn) (N := 17) hx hb hT hown hK hW fo.1 fo.2 (by decide) in_Opn rfl rfl (by decide) rfl fr_Opn_2 w_3_17 d_Opn_readDictionary_88 rfl ?_
  refine lv_aload_n hx hb d_Opn_readDictionary_91 rfl (lv_at hl 0 rfl) ?_
  refine w_getf (q := (stC o 7)) (k := 7) (t := 7) (C := R_Opn) (T := F_Opn) (N := 17) hx hb hT hown hK hW fo.1 fo.2 (by decide) in_Opn rfl rfl (by decide) rfl fr_Opn_7 w_3_23 d_Opn_readDictionary_92 rfl ?_
  refine lv_aload_n hx hb d_Opn_readDictionary_95 rfl (lv_at hl 0 rfl) ?_
  refine w_geti (k := 9) (t := 7) (C := R_Opn) (T := F_Opn) (N := 17) hx hb hT hown hK hW fo.1 fo.2 (by decide) in_Opn rfl rfl (by decide) rfl fr_Opn_9 w_3_25 d_Opn_readDictionary_96 ?_
  refine lv_iload hx hb d_Opn_readDictionary_99 (lv_at hl 5 rfl) ?_
  have hF := hW.free hS hA
  refine va_callv (va_runV (C := R_Src) (As := [.ref (ad (stC o 7)), .int (fI x16 o 9), .int l6]) (rest := []) ⟨hx, hb, hml, hown, hT⟩ (k_Src_readRuns l dC dI cI cB cJ cZ ad NN E tM tC kK kV hNN H.size (stC o 2) (stC o 7) (fI x16 o 9) l6 x16 (st_ty hNN fo.1 fo.2 rfl) (st_ty hNN fo.1 fo.2 rfl) hw) ⟨callB_of 3 hT (gwt_in w_6_202) rfl rfl rfl (hT _ w_1_11) (hT _ w_6_199) (by decide +kernel) ⟨Nat.le_trans (Nat.le_of_ble_eq_true rfl) hRf, Nat.le_trans (Nat.le_of_ble_eq_true rfl) hRl⟩, hT _ w_6_200, hT _ w_6_201⟩ ⟨PVc.blind, va_recv hK hW.1 (ci := 8) (q0 := (stC o 2)) rfl (pic_obj (st_ty hNN fo.1 fo.2 rfl).1 (st_ty hNN fo.1 fo.2 rfl).2 (by decide)), PVc.at _ hW hK hN hE hS hF⟩ rfl rfl hl.1 rfl (lv_room (Nat.le_of_ble_eq_true rfl)) d_Opn_readDictionary_101 ⟨hRc, hRs⟩) hS (fun q _ h => hF q h) hF (fun  x17 t H locs ht hvm hw hB hz1 hk1 hS => ?_)
  have hW := Wd.back hB ht hF
  clear hB ht hF hz1 hk1 hvm
  refine lv_aload_n hx hb d_Opn_readDictionary_104 rfl (lv_at hl 0 rfl) ?_
  refine w_getf (q := (stC o 2)) (k := 2) (t := 7) (C := R_Opn) (T := F_Opn) (N := 17) hx hb hT hown hK hW fo.1 fo.2 (by decide) in_Opn rfl rfl (by decide) rfl fr_Opn_2 w_3_17 d_Opn_readDictionary_105 rfl ?_
  have hF := hW.free hS hA
  refine va_callv (va_runV (C := R_Src) (As := []) (rest := []) ⟨hx, hb, hml, hown, hT⟩ (k_Src_checkEnd l dC dI cI cB cJ cZ ad NN E tM tC kK kV hNN H.size (stC o 2) x17 (st_ty hNN fo.1 fo.2 rfl) hw) ⟨callB_of 0 hT (gwt_in w_6_167) rfl rfl rfl (hT _ w_1_11) (hT _ w_6_164) (by decide +kernel) ⟨Nat.le_trans (Nat.le_of_ble_eq_true rfl) hRf, Nat.le_trans (Nat.le_of_ble_eq_true rfl) hRl⟩, hT _ w_6_165, hT _ w_6_166⟩ ⟨PVc.blind, va_recv hK hW.1 (ci := 8) (q0 := (stC o 2)) rfl (pic_obj (st_ty hNN fo.1 fo.2 rfl).1 (st_ty hNN fo.1 fo.2 rfl).2 (by decide)), PVc.at _ hW hK hN hE hS hF⟩ rfl rfl hl.1 rfl (lv_room (Nat.le_of_ble_eq_true rfl)) d_Opn_readDictionary_108 ⟨hRc, hRs⟩) hS (fun q _ h => hF q h) hF (fun  x18 t H locs ht hvm hw hB hz1 hk1 hS => ?_)
  have hW := Wd.back hB ht hF
  clear hB ht hF hz1 hk1 hvm
  refine lv_iconst (v := 0) hx hb d_Opn_readDictionary_111 (by decide) ?_
  refine lv_istore (lv' := [(7, .int 0), (0, .ref (ad o)), (1, .int l1), (2, .int l2), (3, .long l3), (5, .int l5), (6, .int l6)]) hx hb d_Opn_readDictionary_112 hl (by decide) rfl (fun ls hl => ?_)
  obtain ⟨n, hw⟩ := hw
  exact tl_Opn_readDictionary_114 hx hb hml hown hT hK hN hA hRc hRs hRf hRl hNN hE hret  n o l1 l2 l3 l5 l6 0 x18 H locs ls fo hw hW hS (lv_sub hl [1, 2, 3, 4, 5, 6, 0] rfl)
set_option maxRecDepth 100000 in
set_option maxHeartbeats 4000000 in
set_option maxRecDepth 100000 in
theorem t_Opn_readDictionary_e {p : Program} {l : Launch} {e : Env} {R : Room} {s : State} {m : MethodId} {args : Array Value} {below : List Frame} {meth : Method} {c : Code} {cells slots : Nat} {Q : State → Prop} {dC : Nat → ClassId} {dI : Nat → Nat → Nat} {cI cB cJ cZ : ClassId} {A : Nat → Prop} {ad : Nat → Nat} {NN : Nat} {E : Heap} {tM tC : Nat} {kK kV : Nat → Nat} {post : St → Prop} (hx : p.tables.exec = Jvm.exec) (hb : c.code = b_Opn_readDictionary) (hml : c.maxLocals = 8) (hown : s.vm.findClass R_Opn = some m.cls) (hT : ∀ w ∈ TG, w.before args s = true) (hK : va_K (dC, dI) CL (TY cI cB cJ cZ) s) (hN : NW s) (hA : ∀ q : Nat, s.heap.size ≤ q → A q) (hRc : cells ≤ R.cells) (hRs : slots ≤ R.slots) (hRf : 4 ≤ R.frames) (hRl : 168 ≤ R.locals) (hNN : 152 ≤ NN) (hE : CE E tM tC kK kV A s) (hret : ∀ (x : St) (H : Heap) (locs : List Loc) (pc : Nat) (ls : Array Slot), decode b_Opn_readDictionary pc = .ok (.return_, 1) → post x → Wd dC dI cI cB cJ cZ ad stC kcC NN A x H → va_S A s.heap H locs → W p l e R s m args below meth c H locs cells slots Q (F0 m pc ls [])) : ∀ (o : Nat) (l1 : Int32) (l2 : Int32) (x : St) (H : Heap) (locs : List Loc) (ls : Array Slot), (o < NN ∧ kcC o = 7) → wp_Opn_readDictionary post o l1 l2 x → Wd dC dI cI cB cJ cZ ad stC kcC NN A x H → va_S A s.heap H locs → lv_has ls 8 [(0, .ref (ad o)), (1, .int l1), (2, .int l2)] → W p l e R s m args below meth c H locs cells slots Q (F0 m 0 ls []) := by
  intro o l1 l2 x H locs ls fo hw hW hS hl
  unfold wp_Opn_readDictionary at hw
  refine lv_aload_n hx hb d_Opn_readDictionary_0 rfl (lv_at hl 0 rfl) ?_
  refine w_getf (q := (stC o 2)) (k := 2) (t := 7) (C := R_Opn) (T := F_Opn) (N := 17) hx hb hT hown hK hW fo.1 fo.2 (by decide) in_Opn rfl rfl (by decide) rfl fr_Opn_2 w_3_17 d_Opn_readDictionary_1 rfl ?_
  have hF := hW.free hS hA
  refine va_calll (va_runV (C := R_Src) (As := []) (rest := []) ⟨hx, hb, hml, hown, hT⟩ (k_Src_readVarint l dC dI cI cB cJ cZ ad NN E tM tC kK kV hNN H.size (stC o 2) x (st_ty hNN fo.1 fo.2 rfl) hw) ⟨callB_of 0 hT (gwt_in w_6_108) rfl rfl rfl (hT _ w_1_11) (hT _ w_6_105) (by decide +kernel) ⟨Nat.le_trans (Nat.le_of_ble_eq_true rfl) hRf, Nat.le_trans (Nat.le_of_ble_eq_true rfl) hRl⟩, hT _ w_6_106, hT _ w_6_107⟩ ⟨PVc.blind, va_recv hK hW.1 (ci := 8) (q0 := (stC o 2)) rfl (pic_obj (st_ty hNN fo.1 fo.2 rfl).1 (st_ty hNN fo.1 fo.2 rfl).2 (by decide)), PVc.at _ hW hK hN hE hS hF⟩ rfl rfl hl.1 rfl (lv_room (Nat.le_of_ble_eq_true rfl)) d_Opn_readDictionary_4 ⟨hRc, hRs⟩) hS (fun q _ h => hF q h) hF (fun r20 x19 t H locs ht hvm hw hB hz1 hk1 hS => ?_)
  have hW := Wd.back hB ht hF
  clear hB ht hF hz1 hk1 hvm
  refine lv_lstore_n (lv' := [(3, .long r20), (0, .ref (ad o)), (1, .int l1), (2, .int l2)]) hx hb d_Opn_readDictionary_7 rfl hl (by decide) rfl (fun ls hl => ?_)
  refine lv_aload_n hx hb d_Opn_readDictionary_8 rfl (lv_at hl 1 rfl) ?_
  refine w_getf (q := (stC o 2)) (k := 2) (t := 7) (C := R_Opn) (T := F_Opn) (N := 17) hx hb hT hown hK hW fo.1 fo.2 (by decide) in_Opn rfl rfl (by decide) rfl fr_Opn_2 w_3_17 d_Opn_readDictionary_9 rfl ?_
  refine lv_lload_n hx hb d_Opn_readDictionary_12 rfl (lv_at hl 0 rfl) ?_
  refine lv_aload_n hx hb d_Opn_readDictionary_13 rfl (lv_at hl 1 rfl) ?_
  refine w_geti (k := 9) (t := 7) (C := R_Opn) (T := F_Opn) (N := 17) hx hb hT hown hK hW fo.1 fo.2 (by decide) in_Opn rfl rfl (by decide) rfl fr_Opn_9 w_3_25 d_Opn_readDictionary_14 ?_
  refine lv_i2l hx hb d_Opn_readDictionary_17 rfl ?_
  have hF := hW.free hS hA
  refine va_calli (va_runSN (As := [.long r20, .long ((fI x19 o 9) : Int32).toInt64]) (rest := [.ref (ad (stC o 2))]) ⟨hx, hb, hml, hown, hT⟩ (k_V_within l dC dI cI cB cJ cZ ad NN E tM tC kK kV hNN H.size r20 ((fI x19 o 9) : Int32).toInt64 x19  hw) ⟨va_cnB 2 hT (gwt_in w_6_112) rfl rfl rfl (hN _ wn_6_110 rfl) (hT _ w_1_1) (by decide +kernel) ⟨Nat.le_trans (Nat.le_of_ble_eq_true rfl) hRf, Nat.le_trans (Nat.le_of_ble_eq_true rfl) hRl⟩, hT _ w_6_111, trivial⟩ ⟨PVc.blind, PVc.at _ hW hK hN hE hS hF⟩ rfl rfl hl.1 rfl (lv_room (Nat.le_of_ble_eq_true rfl)) d_Opn_readDictionary_18 ⟨hRc, hRs⟩) hS (fun q _ h => hF q h) hF (fun r22 x21 t H locs ht hvm hw hB hz1 hk1 hS => ?_)
  have hW := Wd.back hB ht hF
  clear hB ht hF hz1 hk1 hvm
  refine lv_iconst (v := 4) hx hb d_Opn_readDictionary_21 (by decide) ?_
  have hF := hW.free hS hA
  refine va_callv (va_runV (C := R_Src) (As := [.int r22, .int 4]) (rest := []) ⟨hx, hb, hml, hown, hT⟩ (k_Src_check l dC dI cI cB cJ cZ ad NN E tM tC kK kV hNN H.size (stC o 2) r22 4 x21 (st_ty hNN fo.1 fo.2 rfl) hw) ⟨callB_of 2 hT (gwt_in w_6_116) rfl rfl rfl (hT _ w_1_11) (hT _ w_6_113) (by decide +kernel) ⟨Nat.le_trans (Nat.le_of_ble_eq_true rfl) hRf, Nat.le_trans (Nat.le_of_ble_eq_true rfl) hRl⟩, hT _ w_6_114, hT _ w_6_115⟩ ⟨PVc.blind, va_recv hK hW.1 (ci := 8) (q0 := (stC o 2)) rfl (pic_obj (st_ty hNN fo.1 fo.2 rfl).1 (st_ty hNN fo.1 fo.2 rfl).2 (by decide)), PVc.at _ hW hK hN hE hS hF⟩ rfl rfl hl.1 rfl (lv_room (Nat.le_of_ble_eq_true rfl)) d_Opn_readDictionary_22 ⟨hRc, hRs⟩) hS (fun q _ h => hF q h) hF (fun  x23 t H locs ht hvm hw hB hz1 hk1 hS => ?_)
  have hW := Wd.back hB ht hF
  clear hB ht hF hz1 hk1 hvm
  refine lv_aload_n hx hb d_Opn_readDictionary_25 rfl (lv_at hl 1 rfl) ?_
  refine w_getf (q := (stC o 2)) (k := 2) (t := 7) (C := R_Opn) (T := F_Opn) (N := 17) hx hb hT hown hK hW fo.1 fo.2 (by decide) in_Opn rfl rfl (by decide) rfl fr_Opn_2 w_3_17 d_Opn_readDictionary_26 rfl ?_
  refine w_geti (k := 3) (t := 8) (C := R_Src) (T := F_Src) (N := 5) hx hb hT hown hK hW (st_ty hNN fo.1 fo.2 rfl).1 (st_ty hNN fo.1 fo.2 rfl).2 (by decide) in_Src rfl rfl (by decide) rfl fr_Src_3 w_3_2 d_Opn_readDictionary_29 ?_
  refine lv_if_eq (tgt := 36) hx hb d_Opn_readDictionary_32 (by decide) (fun c24 => ?_) (fun c24 => ?_)
  · have hw := hw.1 c24
    refine lv_lload_n hx hb d_Opn_readDictionary_36 rfl (lv_at hl 0 rfl) ?_
    refine lv_l2i hx hb d_Opn_readDictionary_37 rfl ?_
    refine lv_topi (fun v25 ev25 => ?_)
    have hw := hw v25 ev25
    refine lv_istore (lv' := [(5, .int v25), (3, .long r20), (0, .ref (ad o)), (1, .int l1), (2, .int l2)]) hx hb d_Opn_readDictionary_38 hl (by decide) rfl (fun ls hl => ?_)
    refine lv_aload_n hx hb d_Opn_readDictionary_40 rfl (lv_at hl 2 rfl) ?_
    refine lv_iload_n hx hb d_Opn_readDictionary_41 rfl (lv_at hl 3 rfl) ?_
    refine lv_aload_n hx hb d_Opn_readDictionary_42 rfl (lv_at hl 2 rfl) ?_
    refine w_getf (q := (stC o 0)) (k := 0) (t := 7) (C := R_Opn) (T := F_Opn) (N := 17) hx hb hT hown hK hW fo.1 fo.2 (by decide) in_Opn rfl rfl (by decide) rfl fr_Opn_0 w_3_15 d_Opn_readDictionary_43 rfl ?_
    refine w_getf (q := (stC (stC o 0) 19)) (k := 19) (t := 6) (C := R_Vlt) (T := F_Vlt) (N := 20) hx hb hT hown hK hW (st_ty hNN fo.1 fo.2 rfl).1 (st_ty hNN fo.1 fo.2 rfl).2 (by decide) in_Vlt rfl rfl (by decide) rfl fr_Vlt_19 w_2_181 d_Opn_readDictionary_46 rfl ?_
    refine lv_aload_n hx hb d_Opn_readDictionary_49 rfl (lv_at hl 2 rfl) ?_
    refine w_geti (k := 13) (t := 7) (C := R_Opn) (T := F_Opn) (N := 17) hx hb hT hown hK hW fo.1 fo.2 (by decide) in_Opn rfl rfl (by decide) rfl fr_Opn_13 w_3_29 d_Opn_readDictionary_50 ?_
    refine lv_iload hx hb d_Opn_readDictionary_53 (lv_at hl 0 rfl) ?_
    have hF := hW.free hS hA
    refine va_callv (va_runV (C := R_Opn) (As := [.int l1, .ref (ad (stC (stC o 0) 19)), .int (fI x23 o 13), .int v25]) (rest := []) ⟨hx, hb, hml, hown, hT⟩ (k_Opn_readPlain l dC dI cI cB cJ cZ ad NN E tM tC kK kV hNN H.size o l1 (stC (stC o 0) 19) (fI x23 o 13) v25 x23 fo (st_ty hNN (st_ty hNN fo.1 fo.2 rfl).1 (st_ty hNN fo.1 fo.2 rfl).2 rfl) hw) ⟨callB_of 4 hT (gwt_in w_6_235) rfl rfl rfl (hT _ w_1_10) (hT _ w_6_232) (by decide +kernel) ⟨Nat.le_trans (Nat.le_of_ble_eq_true rfl) hRf, Nat.le_trans (Nat.le_of_ble_eq_true rfl) hRl⟩, hT _ w_6_234, hT _ ws_50⟩ ⟨PVc.blind, va_recv hK hW.1 (ci := 7) (q0 := o) rfl (pic_obj fo.1 fo.2 (by decide)), PVc.at _ hW hK hN hE hS hF⟩ rfl rfl hl.1 rfl (lv_room (Nat.le_of_ble_eq_true rfl)) d_Opn_readDictionary_55 ⟨hRc, hRs⟩) hS (fun q _ h => hF q h) hF (fun  x26 t H locs ht hvm hw hB hz1 hk1 hS => ?_)
    have hW := Wd.back hB ht hF
    clear hB ht hF hz1 hk1 hvm
    refine lv_aload_n hx hb d_Opn_readDictionary_58 rfl (lv_at hl 2 rfl) ?_
    refine w_getf (q := (stC o 2)) (k := 2) (t := 7) (C := R_Opn) (T := F_Opn) (N := 17) hx hb hT hown hK hW fo.1 fo.2 (by decide) in_Opn rfl rfl (by decide) rfl fr_Opn_2 w_3_17 d_Opn_readDictionary_59 rfl ?_
    have hF := hW.free hS hA
    refine va_calli (va_runV (C := R_Src) (As := []) (rest := []) ⟨hx, hb, hml, hown, hT⟩ (k_Src_readByte l dC dI cI cB cJ cZ ad NN E tM tC kK kV hNN H.size (stC o 2) x26 (st_ty hNN fo.1 fo.2 rfl) hw) ⟨callB_of 0 hT (gwt_in w_6_124) rfl rfl rfl (hT _ w_1_11) (hT _ w_6_121) (by decide +kernel) ⟨Nat.le_trans (Nat.le_of_ble_eq_true rfl) hRf, Nat.le_trans (Nat.le_of_ble_eq_true rfl) hRl⟩, hT _ w_6_122, hT _ w_6_123⟩ ⟨PVc.blind, va_recv hK hW.1 (ci := 8) (q0 := (stC o 2)) rfl (pic_obj (st_ty hNN fo.1 fo.2 rfl).1 (st_ty hNN fo.1 fo.2 rfl).2 (by decide)), PVc.at _ hW hK hN hE hS hF⟩ rfl rfl hl.1 rfl (lv_room (Nat.le_of_ble_eq_true rfl)) d_Opn_readDictionary_62 ⟨hRc, hRs⟩) hS (fun q _ h => hF q h) hF (fun r28 x27 t H locs ht hvm hw hB hz1 hk1 hS => ?_)
    have hW := Wd.back hB ht hF
    clear hB ht hF hz1 hk1 hvm
    refine lv_istore (lv' := [(6, .int r28), (5, .int v25), (3, .long r20), (0, .ref (ad o)), (1, .int l1), (2, .int l2)]) hx hb d_Opn_readDictionary_65 hl (by decide) rfl (fun ls hl => ?_)
    refine lv_aload_n hx hb d_Opn_readDictionary_67 rfl (lv_at hl 3 rfl) ?_
    refine w_getf (q := (stC o 2)) (k := 2) (t := 7) (C := R_Opn) (T := F_Opn) (N := 17) hx hb hT hown hK hW fo.1 fo.2 (by decide) in_Opn rfl rfl (by decide) rfl fr_Opn_2 w_3_17 d_Opn_readDictionary_68 rfl ?_
    refine lv_iload hx hb d_Opn_readDictionary_71 (lv_at hl 0 rfl) ?_
    refine lv_bipush (v := 32) hx hb d_Opn_readDictionary_73 (by decide) ?_
    refine lv_icmp_gt (tgt := 82) hx hb d_Opn_readDictionary_75 (by decide) (fun c29 => ?_) (fun c29 => ?_)
    · have hw := hw.1 c29
      refine lv_iconst (v := 0) hx hb d_Opn_readDictionary_82 (by decide) ?_
      exact t_Opn_readDictionary_83 hx hb hml hown hT hK hN hA hRc hRs hRf hRl hNN hE hret  o l1 l2 r20 v25 r28 0 (stC o 2) x27 H locs ls fo (st_ty hNN fo.1 fo.2 rfl) hw hW hS (lv_sub hl [3, 4, 5, 2, 1, 0] rfl)
    · have hw := hw.2 c29
      refine lv_iconst (v := 1) hx hb d_Opn_readDictionary_78 (by decide) ?_
      refine lv_goto (tgt := 83) hx hb d_Opn_readDictionary_79 (by decide) ?_
      exact t_Opn_readDictionary_83 hx hb hml hown hT hK hN hA hRc hRs hRf hRl hNN hE hret  o l1 l2 r20 v25 r28 1 (stC o 2) x27 H locs ls fo (st_ty hNN fo.1 fo.2 rfl) hw hW hS (lv_sub hl [3, 4, 5, 2, 1, 0] rfl)
  · have hw := hw.2 c24
    exact hret x23 H locs 35 ls d_Opn_readDictionary_35 hw hW hS
set_option maxHeartbeats 4000000 in
set_option maxRecDepth 100000 in
theorem k_Opn_readDictionary (l : Launch) (dC : Nat → ClassId) (dI : Nat → Nat → Nat) (cI cB cJ cZ : ClassId) (ad : Nat → Nat) (NN : Nat) (E : Heap) (tM tC : Nat) (kK kV : Nat → Nat) (hNN : 152 ≤ NN) (sz : Nat) (o : Nat) (l1 : Int32) (l2 : Int32) (x : St) (fo : o < NN ∧ kcC o = 7) {post : St → Prop} (hw : wp_Opn_readDictionary post o l1 l2 x) : Met l y_Opn_readDictionary (wsOf y_Opn_readDictionary b_Opn_readDictionary 8 (none)) ({ frames := 4, cells := 0, slots := 0, locals := 168 }) (va_Pc [.ref (ad o), .int l1, .int l2] (PVc dC dI cI cB cJ cZ ad stC kcC NN E tM tC kK kV sz x)) (va_Qv (fun (y : St) => post y) (fun y t => Wd dC dI cI cB cJ cZ ad stC kcC NN (va_A (pic ad stC kcC NN cI cB cJ cZ x) sz) y t.heap) (va_A (pic ad stC kcC NN cI cB cJ cZ x) sz)) 0 0 (va_A (pic ad stC kcC NN cI cB cJ cZ x) sz) := by
  refine Met.ofW (cc := b_Opn_readDictionary) (maxL := 8) (ret := none) (by decide) rfl ?_
  intro p e s m args below meth c s₁ B hml hv
  obtain ⟨rfl, ⟨hsz, hW0, hK, hN⟩, hE⟩ := hv
  have hx := B.exec
  have hb := B.bytes
  have hr := B.returns
  have hts := atoms_spec B.pre
  have hT : ∀ w ∈ TG, w.before _ s = true := fun w h => hts w (List.mem_cons_of_mem _ h)
  have hown : s.vm.findClass R_Opn = some m.cls := findClass_of_methodNamed B.named
  have hlocks := B.notSynchronized
  subst hsz
  have hW : Wd dC dI cI cB cJ cZ ad stC kcC NN (va_A (pic ad stC kcC NN cI cB cJ cZ x) s.heap.size) x s.heap := ⟨hW0.1, hW0.2.1.self (sz := s.heap.size), hW0.2.2⟩
  generalize hAe : va_A (pic ad stC kcC NN cI cB cJ cZ x) s.heap.size = A at hW hE ⊢
  have hA : ∀ q : Nat, s.heap.size ≤ q → A q := fun q h => by rw [← hAe]; exact Or.inr h
  have hS : va_S A s.heap s.heap [] := va_S.rf
  have hl := lv_entry ([.ref (ad o), .int l1, .int l2]) (n := 8) (Nat.le_of_ble_eq_true rfl)
  rw [lg_entry_eq]
  generalize (lg_sl ([.ref (ad o), .int l1, .int l2]) ++ List.replicate (8 - (lg_sl ([.ref (ad o), .int l1, .int l2])).length) Slot.unset).toArray = ls at hl ⊢
  have hl : lv_has ls 8 [(0, .ref (ad o)), (1, .int l1), (2, .int l2)] := hl
  exact t_Opn_readDictionary_e hx hb hml hown hT hK hN hA (Nat.le_refl 0) (Nat.le_refl 0) (Nat.le_refl 4) (Nat.le_refl 168) hNN hE (fun x H locs pc ls hd hp hW hS => W.vret hx hb hr (fun t ht hM => ⟨⟨x, rfl, hp, Wd.back hW ht.symm (fun _ z => z)⟩, hS.F ht⟩) hS.2.2 hd hlocks)  o l1 l2 x _ _ ls fo hw hW hS hl
end
