theorem fr_Snk_5 : F_Snk 5 = (R_Snk, "held", "I", false) := rfl
theorem fr_Snk_6 : F_Snk 6 = (R_Snk, "heldBits", "I", false) := rfl
theorem fr_Wrt_4 : F_Wrt 4 = (R_Wrt, "trial", "LStripedVault$Sink;", false) := rfl
theorem w_1_52 : (Jvm.Cond.fieldLink "StripedVault$Sink" (92 : Nat) "StripedVault$Sink" "held" "I") ∈ TG := tw_1 52 (by decide +kernel) (by decide +kernel)
theorem w_1_53 : (Jvm.Cond.fieldLink "StripedVault$Sink" (89 : Nat) "StripedVault$Sink" "heldBits" "I") ∈ TG := tw_1 53 (by decide +kernel) (by decide +kernel)
theorem w_2_55 : (Jvm.Cond.fieldLink "StripedVault$Writer" (30 : Nat) "StripedVault$Writer" "trial" "LStripedVault$Sink;") ∈ TG := tw_2 55 (by decide +kernel) (by decide +kernel)
theorem w_5_175 : (Jvm.Cond.methodLink "StripedVault$Writer" (241 : Nat) ({ cls := "StripedVault$Sink", name := "putText", desc := "([BJ)V" } : Jvm.MethodName)) ∈ TG := tw_5 175 (by decide +kernel) (by decide +kernel)
theorem w_5_176 : (Jvm.Cond.instanceMethod ({ cls := "StripedVault$Sink", name := "putText", desc := "([BJ)V" } : Jvm.MethodName)) ∈ TG := tw_5 176 (by decide +kernel) (by decide +kernel)
theorem w_5_177 : (Jvm.Cond.selects "StripedVault$Sink" ({ cls := "StripedVault$Sink", name := "putText", desc := "([BJ)V" } : Jvm.MethodName) ({ cls := "StripedVault$Sink", name := "putText", desc := "([BJ)V" } : Jvm.MethodName)) ∈ TG := tw_5 177 (by decide +kernel) (by decide +kernel)
theorem w_5_178 : (Jvm.Cond.code ({ cls := "StripedVault$Sink", name := "putText", desc := "([BJ)V" } : Jvm.MethodName) prog_9_method_8_code (4 : Nat) (Option.none : Option Jvm.ClassFile.FieldType)) ∈ TG := tw_5 178 (by decide +kernel) (by decide +kernel)
theorem w_5_180 : (Jvm.Cond.methodLink "StripedVault$Sink" (65 : Nat) ({ cls := "StripedVault$Sink", name := "putVarint", desc := "(J)V" } : Jvm.MethodName)) ∈ TG := tw_5 180 (by decide +kernel) (by decide +kernel)
theorem w_5_184 : (Jvm.Cond.methodLink "StripedVault$Sink" (72 : Nat) ({ cls := "StripedVault$Sink", name := "putAll", desc := "([BII)V" } : Jvm.MethodName)) ∈ TG := tw_5 184 (by decide +kernel) (by decide +kernel)
theorem w_5_185 : (Jvm.Cond.methodLink "StripedVault$Writer" (127 : Nat) ({ cls := "StripedVault$Sink", name := "putFixed", desc := "(JI)V" } : Jvm.MethodName)) ∈ TG := tw_5 185 (by decide +kernel) (by decide +kernel)
theorem w_5_186 : (Jvm.Cond.instanceMethod ({ cls := "StripedVault$Sink", name := "putFixed", desc := "(JI)V" } : Jvm.MethodName)) ∈ TG := tw_5 186 (by decide +kernel) (by decide +kernel)
theorem w_5_187 : (Jvm.Cond.selects "StripedVault$Sink" ({ cls := "StripedVault$Sink", name := "putFixed", desc := "(JI)V" } : Jvm.MethodName) ({ cls := "StripedVault$Sink", name := "putFixed", desc := "(JI)V" } : Jvm.MethodName)) ∈ TG := tw_5 187 (by decide +kernel) (by decide +kernel)
theorem w_5_188 : (Jvm.Cond.code ({ cls := "StripedVault$Sink", name := "putFixed", desc := "(JI)V" } : Jvm.MethodName) prog_9_method_7_code (5 : Nat) (Option.none : Option Jvm.ClassFile.FieldType)) ∈ TG := tw_5 188 (by decide +kernel) (by decide +kernel)
theorem w_5_189 : (Jvm.Cond.methodLink "StripedVault$Sink" (57 : Nat) ({ cls := "StripedVault$Sink", name := "put", desc := "(I)V" } : Jvm.MethodName)) ∈ TG := tw_5 189 (by decide +kernel) (by decide +kernel)
theorem wn_5_179 : (Jvm.Cond.methodLinkNest "StripedVault$Sink" (61 : Nat) ({ cls := "StripedVault", name := "sizeOf", desc := "(J)I" } : Jvm.MethodName) "StripedVault") ∈ lw_tbl := tb_5 _ (List.mem_of_getElem? (i := 179) (by decide +kernel))
theorem wn_5_181 : (Jvm.Cond.methodLinkNest "StripedVault$Sink" (69 : Nat) ({ cls := "StripedVault", name := "placeOf", desc := "(J)I" } : Jvm.MethodName) "StripedVault") ∈ lw_tbl := tb_5 _ (List.mem_of_getElem? (i := 181) (by decide +kernel))
theorem d_Wrt_beginGroup_0 : decode b_Wrt_beginGroup 0 = .ok (.aload_n 0, 1) := by decide +kernel
theorem d_Wrt_beginGroup_1 : decode b_Wrt_beginGroup 1 = .ok (.getfield 21, 3) := by decide +kernel
theorem d_Wrt_beginGroup_4 : decode b_Wrt_beginGroup 4 = .ok (.iload_n 1, 1) := by decide +kernel
theorem d_Wrt_beginGroup_5 : decode b_Wrt_beginGroup 5 = .ok (.i2l, 1) := by decide +kernel
theorem d_Wrt_beginGroup_6 : decode b_Wrt_beginGroup 6 = .ok (.invokevirtual 98, 3) := by decide +kernel
theorem d_Wrt_beginGroup_9 : decode b_Wrt_beginGroup 9 = .ok (.return_, 1) := by decide +kernel
theorem d_Snk_putText_0 : decode b_Snk_putText 0 = .ok (.aload_n 0, 1) := by decide +kernel
theorem d_Snk_putText_1 : decode b_Snk_putText 1 = .ok (.lload_n 2, 1) := by decide +kernel
theorem d_Snk_putText_2 : decode b_Snk_putText 2 = .ok (.invokestatic 61, 3) := by decide +kernel
theorem d_Snk_putText_5 : decode b_Snk_putText 5 = .ok (.i2l, 1) := by decide +kernel
theorem d_Snk_putText_6 : decode b_Snk_putText 6 = .ok (.invokevirtual 65, 3) := by decide +kernel
theorem d_Snk_putText_9 : decode b_Snk_putText 9 = .ok (.aload_n 0, 1) := by decide +kernel
theorem d_Snk_putText_10 : decode b_Snk_putText 10 = .ok (.aload_n 1, 1) := by decide +kernel
theorem d_Snk_putText_11 : decode b_Snk_putText 11 = .ok (.lload_n 2, 1) := by decide +kernel
theorem d_Snk_putText_12 : decode b_Snk_putText 12 = .ok (.invokestatic 69, 3) := by decide +kernel
theorem d_Snk_putText_15 : decode b_Snk_putText 15 = .ok (.lload_n 2, 1) := by decide +kernel
theorem d_Snk_putText_16 : decode b_Snk_putText 16 = .ok (.invokestatic 61, 3) := by decide +kernel
theorem d_Snk_putText_19 : decode b_Snk_putText 19 = .ok (.invokevirtual 72, 3) := by decide +kernel
theorem d_Snk_putText_22 : decode b_Snk_putText 22 = .ok (.return_, 1) := by decide +kernel
theorem d_Snk_putFixed_3 : decode b_Snk_putFixed 3 = .ok (.iload 4, 2) := by decide +kernel
theorem d_Snk_putFixed_5 : decode b_Snk_putFixed 5 = .ok (.iload_n 3, 1) := by decide +kernel
theorem d_Snk_putFixed_6 : decode b_Snk_putFixed 6 = .ok (.if_icmp .ge 21, 3) := by decide +kernel
theorem d_Snk_putFixed_27 : decode b_Snk_putFixed 27 = .ok (.return_, 1) := by decide +kernel
theorem d_Snk_putFixed_9 : decode b_Snk_putFixed 9 = .ok (.aload_n 0, 1) := by decide +kernel
theorem d_Snk_putFixed_10 : decode b_Snk_putFixed 10 = .ok (.lload_n 1, 1) := by decide +kernel
theorem d_Snk_putFixed_11 : decode b_Snk_putFixed 11 = .ok (.bipush 8, 2) := by decide +kernel
theorem d_Snk_putFixed_13 : decode b_Snk_putFixed 13 = .ok (.iload 4, 2) := by decide +kernel
theorem d_Snk_putFixed_15 : decode b_Snk_putFixed 15 = .ok (.imul, 1) := by decide +kernel
theorem d_Snk_putFixed_16 : decode b_Snk_putFixed 16 = .ok (.lushr, 1) := by decide +kernel
theorem d_Snk_putFixed_17 : decode b_Snk_putFixed 17 = .ok (.l2i, 1) := by decide +kernel
theorem d_Snk_putFixed_18 : decode b_Snk_putFixed 18 = .ok (.invokevirtual 57, 3) := by decide +kernel
theorem d_Snk_putFixed_21 : decode b_Snk_putFixed 21 = .ok (.iinc 4 1, 3) := by decide +kernel
theorem d_Snk_putFixed_24 : decode b_Snk_putFixed 24 = .ok (.goto (-21), 3) := by decide +kernel
theorem d_Snk_putFixed_0 : decode b_Snk_putFixed 0 = .ok (.iconst 0, 1) := by decide +kernel
theorem d_Snk_putFixed_1 : decode b_Snk_putFixed 1 = .ok (.istore 4, 2) := by decide +kernel
theorem d_Wrt_putPlain_131 : decode b_Wrt_putPlain 131 = .ok (.iinc 4 1, 3) := by decide +kernel
theorem d_Wrt_putPlain_134 : decode b_Wrt_putPlain 134 = .ok (.goto (-57), 3) := by decide +kernel
theorem d_Wrt_putPlain_128 : decode b_Wrt_putPlain 128 = .ok (.invokevirtual 127, 3) := by decide +kernel
theorem d_Wrt_putPlain_77 : decode b_Wrt_putPlain 77 = .ok (.iload 4, 2) := by decide +kernel
theorem d_Wrt_putPlain_79 : decode b_Wrt_putPlain 79 = .ok (.iload_n 3, 1) := by decide +kernel
theorem d_Wrt_putPlain_80 : decode b_Wrt_putPlain 80 = .ok (.if_icmp .ge 57, 3) := by decide +kernel
theorem d_Wrt_putPlain_137 : decode b_Wrt_putPlain 137 = .ok (.return_, 1) := by decide +kernel
theorem d_Wrt_putPlain_83 : decode b_Wrt_putPlain 83 = .ok (.iload_n 1, 1) := by decide +kernel
theorem d_Wrt_putPlain_84 : decode b_Wrt_putPlain 84 = .ok (.iconst 3, 1) := by decide +kernel
theorem d_Wrt_putPlain_85 : decode b_Wrt_putPlain 85 = .ok (.if_icmp .ne 24, 3) := by decide +kernel
theorem d_Wrt_putPlain_109 : decode b_Wrt_putPlain 109 = .ok (.aload_n 0, 1) := by decide +kernel
theorem d_Wrt_putPlain_110 : decode b_Wrt_putPlain 110 = .ok (.getfield 30, 3) := by decide +kernel
theorem d_Wrt_putPlain_113 : decode b_Wrt_putPlain 113 = .ok (.aload_n 2, 1) := by decide +kernel
theorem d_Wrt_putPlain_114 : decode b_Wrt_putPlain 114 = .ok (.iload 4, 2) := by decide +kernel
theorem d_Wrt_putPlain_116 : decode b_Wrt_putPlain 116 = .ok (.laload, 1) := by decide +kernel
theorem d_Wrt_putPlain_117 : decode b_Wrt_putPlain 117 = .ok (.iload_n 1, 1) := by decide +kernel
theorem d_Wrt_putPlain_118 : decode b_Wrt_putPlain 118 = .ok (.iconst 1, 1) := by decide +kernel
theorem d_Wrt_putPlain_119 : decode b_Wrt_putPlain 119 = .ok (.if_icmp .ne 7, 3) := by decide +kernel
theorem d_Wrt_putPlain_126 : decode b_Wrt_putPlain 126 = .ok (.bipush 8, 2) := by decide +kernel
theorem d_Wrt_putPlain_122 : decode b_Wrt_putPlain 122 = .ok (.iconst 4, 1) := by decide +kernel
theorem d_Wrt_putPlain_123 : decode b_Wrt_putPlain 123 = .ok (.goto 5, 3) := by decide +kernel
theorem d_Wrt_putPlain_88 : decode b_Wrt_putPlain 88 = .ok (.aload_n 0, 1) := by decide +kernel
theorem d_Wrt_putPlain_89 : decode b_Wrt_putPlain 89 = .ok (.getfield 30, 3) := by decide +kernel
theorem d_Wrt_putPlain_92 : decode b_Wrt_putPlain 92 = .ok (.aload_n 0, 1) := by decide +kernel
theorem d_Wrt_putPlain_93 : decode b_Wrt_putPlain 93 = .ok (.getfield 66, 3) := by decide +kernel
theorem d_Wrt_putPlain_96 : decode b_Wrt_putPlain 96 = .ok (.getfield 171, 3) := by decide +kernel
theorem d_Wrt_putPlain_99 : decode b_Wrt_putPlain 99 = .ok (.aload_n 2, 1) := by decide +kernel
theorem d_Wrt_putPlain_100 : decode b_Wrt_putPlain 100 = .ok (.iload 4, 2) := by decide +kernel
theorem d_Wrt_putPlain_102 : decode b_Wrt_putPlain 102 = .ok (.laload, 1) := by decide +kernel
theorem d_Wrt_putPlain_103 : decode b_Wrt_putPlain 103 = .ok (.invokevirtual 241, 3) := by decide +kernel
theorem d_Wrt_putPlain_106 : decode b_Wrt_putPlain 106 = .ok (.goto 25, 3) := by decide +kernel
theorem d_Wrt_putPlain_58 : decode b_Wrt_putPlain 58 = .ok (.aload_n 0, 1) := by decide +kernel
theorem d_Wrt_putPlain_59 : decode b_Wrt_putPlain 59 = .ok (.getfield 30, 3) := by decide +kernel
theorem d_Wrt_putPlain_62 : decode b_Wrt_putPlain 62 = .ok (.iload 5, 2) := by decide +kernel
theorem d_Wrt_putPlain_64 : decode b_Wrt_putPlain 64 = .ok (.invokevirtual 108, 3) := by decide +kernel
theorem d_Wrt_putPlain_67 : decode b_Wrt_putPlain 67 = .ok (.iinc 4 8, 3) := by decide +kernel
theorem d_Wrt_putPlain_70 : decode b_Wrt_putPlain 70 = .ok (.goto (-63), 3) := by decide +kernel
theorem d_Wrt_putPlain_20 : decode b_Wrt_putPlain 20 = .ok (.iload 6, 2) := by decide +kernel
theorem d_Wrt_putPlain_22 : decode b_Wrt_putPlain 22 = .ok (.iload 4, 2) := by decide +kernel
theorem d_Wrt_putPlain_24 : decode b_Wrt_putPlain 24 = .ok (.bipush 8, 2) := by decide +kernel
theorem d_Wrt_putPlain_26 : decode b_Wrt_putPlain 26 = .ok (.iadd, 1) := by decide +kernel
theorem d_Wrt_putPlain_27 : decode b_Wrt_putPlain 27 = .ok (.if_icmp .ge 31, 3) := by decide +kernel
theorem d_Wrt_putPlain_30 : decode b_Wrt_putPlain 30 = .ok (.iload 6, 2) := by decide +kernel
theorem d_Wrt_putPlain_32 : decode b_Wrt_putPlain 32 = .ok (.iload_n 3, 1) := by decide +kernel
theorem d_Wrt_putPlain_33 : decode b_Wrt_putPlain 33 = .ok (.if_icmp .ge 25, 3) := by decide +kernel
theorem d_Wrt_putPlain_36 : decode b_Wrt_putPlain 36 = .ok (.iload 5, 2) := by decide +kernel
theorem d_Wrt_putPlain_38 : decode b_Wrt_putPlain 38 = .ok (.aload_n 2, 1) := by decide +kernel
theorem d_Wrt_putPlain_39 : decode b_Wrt_putPlain 39 = .ok (.iload 6, 2) := by decide +kernel
theorem d_Wrt_putPlain_41 : decode b_Wrt_putPlain 41 = .ok (.laload, 1) := by decide +kernel
theorem d_Wrt_putPlain_42 : decode b_Wrt_putPlain 42 = .ok (.l2i, 1) := by decide +kernel
theorem d_Wrt_putPlain_43 : decode b_Wrt_putPlain 43 = .ok (.iload 6, 2) := by decide +kernel
theorem d_Wrt_putPlain_45 : decode b_Wrt_putPlain 45 = .ok (.iload 4, 2) := by decide +kernel
theorem d_Wrt_putPlain_47 : decode b_Wrt_putPlain 47 = .ok (.isub, 1) := by decide +kernel
theorem d_Wrt_putPlain_48 : decode b_Wrt_putPlain 48 = .ok (.ishl, 1) := by decide +kernel
theorem d_Wrt_putPlain_49 : decode b_Wrt_putPlain 49 = .ok (.ior, 1) := by decide +kernel
theorem d_Wrt_putPlain_50 : decode b_Wrt_putPlain 50 = .ok (.istore 5, 2) := by decide +kernel
theorem d_Wrt_putPlain_52 : decode b_Wrt_putPlain 52 = .ok (.iinc 6 1, 3) := by decide +kernel
theorem d_Wrt_putPlain_55 : decode b_Wrt_putPlain 55 = .ok (.goto (-35), 3) := by decide +kernel
theorem d_Wrt_putPlain_7 : decode b_Wrt_putPlain 7 = .ok (.iload 4, 2) := by decide +kernel
theorem d_Wrt_putPlain_9 : decode b_Wrt_putPlain 9 = .ok (.iload_n 3, 1) := by decide +kernel
theorem d_Wrt_putPlain_10 : decode b_Wrt_putPlain 10 = .ok (.if_icmp .ge 63, 3) := by decide +kernel
theorem d_Wrt_putPlain_73 : decode b_Wrt_putPlain 73 = .ok (.return_, 1) := by decide +kernel
theorem d_Wrt_putPlain_13 : decode b_Wrt_putPlain 13 = .ok (.iconst 0, 1) := by decide +kernel
theorem d_Wrt_putPlain_14 : decode b_Wrt_putPlain 14 = .ok (.istore 5, 2) := by decide +kernel
theorem d_Wrt_putPlain_16 : decode b_Wrt_putPlain 16 = .ok (.iload 4, 2) := by decide +kernel
theorem d_Wrt_putPlain_18 : decode b_Wrt_putPlain 18 = .ok (.istore 6, 2) := by decide +kernel
theorem d_Wrt_putPlain_0 : decode b_Wrt_putPlain 0 = .ok (.iload_n 1, 1) := by decide +kernel
theorem d_Wrt_putPlain_1 : decode b_Wrt_putPlain 1 = .ok (.ifCond .ne 73, 3) := by decide +kernel
theorem d_Wrt_putPlain_74 : decode b_Wrt_putPlain 74 = .ok (.iconst 0, 1) := by decide +kernel
theorem d_Wrt_putPlain_75 : decode b_Wrt_putPlain 75 = .ok (.istore 4, 2) := by decide +kernel
theorem d_Wrt_putPlain_4 : decode b_Wrt_putPlain 4 = .ok (.iconst 0, 1) := by decide +kernel
theorem d_Wrt_putPlain_5 : decode b_Wrt_putPlain 5 = .ok (.istore 4, 2) := by decide +kernel
theorem d_Snk_putBits_131 : decode b_Snk_putBits 131 = .ok (.iinc 5 1, 3) := by decide +kernel
theorem d_Snk_putBits_134 : decode b_Snk_putBits 134 = .ok (.goto (-128), 3) := by decide +kernel
theorem d_Snk_putBits_121 : decode b_Snk_putBits 121 = .ok (.aload_n 0, 1) := by decide +kernel
theorem d_Snk_putBits_122 : decode b_Snk_putBits 122 = .ok (.iconst 0, 1) := by decide +kernel
theorem d_Snk_putBits_123 : decode b_Snk_putBits 123 = .ok (.putfield 92, 3) := by decide +kernel
theorem d_Snk_putBits_126 : decode b_Snk_putBits 126 = .ok (.aload_n 0, 1) := by decide +kernel
theorem d_Snk_putBits_127 : decode b_Snk_putBits 127 = .ok (.iconst 0, 1) := by decide +kernel
theorem d_Snk_putBits_128 : decode b_Snk_putBits 128 = .ok (.putfield 89, 3) := by decide +kernel
theorem d_Snk_putBits_6 : decode b_Snk_putBits 6 = .ok (.iload 5, 2) := by decide +kernel
theorem d_Snk_putBits_8 : decode b_Snk_putBits 8 = .ok (.bipush 10, 2) := by decide +kernel
theorem d_Snk_putBits_10 : decode b_Snk_putBits 10 = .ok (.if_icmp .ge 127, 3) := by decide +kernel
theorem d_Snk_putBits_137 : decode b_Snk_putBits 137 = .ok (.return_, 1) := by decide +kernel
theorem d_Snk_putBits_13 : decode b_Snk_putBits 13 = .ok (.iload 4, 2) := by decide +kernel
theorem d_Snk_putBits_15 : decode b_Snk_putBits 15 = .ok (.iload_n 3, 1) := by decide +kernel
theorem d_Snk_putBits_16 : decode b_Snk_putBits 16 = .ok (.if_icmp .ge 121, 3) := by decide +kernel
theorem d_Snk_putBits_19 : decode b_Snk_putBits 19 = .ok (.bipush 8, 2) := by decide +kernel
theorem d_Snk_putBits_21 : decode b_Snk_putBits 21 = .ok (.aload_n 0, 1) := by decide +kernel
theorem d_Snk_putBits_22 : decode b_Snk_putBits 22 = .ok (.getfield 89, 3) := by decide +kernel
theorem d_Snk_putBits_25 : decode b_Snk_putBits 25 = .ok (.isub, 1) := by decide +kernel
theorem d_Snk_putBits_26 : decode b_Snk_putBits 26 = .ok (.iload_n 3, 1) := by decide +kernel
theorem d_Snk_putBits_27 : decode b_Snk_putBits 27 = .ok (.iload 4, 2) := by decide +kernel
theorem d_Snk_putBits_29 : decode b_Snk_putBits 29 = .ok (.isub, 1) := by decide +kernel
theorem d_Snk_putBits_30 : decode b_Snk_putBits 30 = .ok (.invokestatic 19, 3) := by decide +kernel
theorem d_Snk_putBits_33 : decode b_Snk_putBits 33 = .ok (.istore 6, 2) := by decide +kernel
theorem d_Snk_putBits_35 : decode b_Snk_putBits 35 = .ok (.aload_n 0, 1) := by decide +kernel
theorem d_Snk_putBits_36 : decode b_Snk_putBits 36 = .ok (.dup, 1) := by decide +kernel
theorem d_Snk_putBits_37 : decode b_Snk_putBits 37 = .ok (.getfield 92, 3) := by decide +kernel
theorem d_Snk_putBits_40 : decode b_Snk_putBits 40 = .ok (.lload_n 1, 1) := by decide +kernel
theorem d_Snk_putBits_41 : decode b_Snk_putBits 41 = .ok (.iload 4, 2) := by decide +kernel
theorem d_Snk_putBits_43 : decode b_Snk_putBits 43 = .ok (.lushr, 1) := by decide +kernel
theorem d_Snk_putBits_44 : decode b_Snk_putBits 44 = .ok (.iconst 1, 1) := by decide +kernel
theorem d_Snk_putBits_45 : decode b_Snk_putBits 45 = .ok (.iload 6, 2) := by decide +kernel
theorem d_Snk_putBits_47 : decode b_Snk_putBits 47 = .ok (.ishl, 1) := by decide +kernel
theorem d_Snk_putBits_48 : decode b_Snk_putBits 48 = .ok (.iconst 1, 1) := by decide +kernel
theorem d_Snk_putBits_49 : decode b_Snk_putBits 49 = .ok (.isub, 1) := by decide +kernel
theorem d_Snk_putBits_50 : decode b_Snk_putBits 50 = .ok (.i2l, 1) := by decide +kernel
theorem d_Snk_putBits_51 : decode b_Snk_putBits 51 = .ok (.land, 1) := by decide +kernel
theorem d_Snk_putBits_52 : decode b_Snk_putBits 52 = .ok (.l2i, 1) := by decide +kernel
theorem d_Snk_putBits_53 : decode b_Snk_putBits 53 = .ok (.aload_n 0, 1) := by decide +kernel
theorem d_Snk_putBits_54 : decode b_Snk_putBits 54 = .ok (.getfield 89, 3) := by decide +kernel
theorem d_Snk_putBits_57 : decode b_Snk_putBits 57 = .ok (.ishl, 1) := by decide +kernel
theorem d_Snk_putBits_58 : decode b_Snk_putBits 58 = .ok (.ior, 1) := by decide +kernel
theorem d_Snk_putBits_59 : decode b_Snk_putBits 59 = .ok (.putfield 92, 3) := by decide +kernel
theorem d_Snk_putBits_62 : decode b_Snk_putBits 62 = .ok (.aload_n 0, 1) := by decide +kernel
theorem d_Snk_putBits_63 : decode b_Snk_putBits 63 = .ok (.dup, 1) := by decide +kernel
theorem d_Snk_putBits_64 : decode b_Snk_putBits 64 = .ok (.getfield 89, 3) := by decide +kernel
theorem d_Snk_putBits_67 : decode b_Snk_putBits 67 = .ok (.iload 6, 2) := by decide +kernel
theorem d_Snk_putBits_69 : decode b_Snk_putBits 69 = .ok (.iadd, 1) := by decide +kernel
theorem d_Snk_putBits_70 : decode b_Snk_putBits 70 = .ok (.putfield 89, 3) := by decide +kernel
theorem d_Snk_putBits_73 : decode b_Snk_putBits 73 = .ok (.iload 4, 2) := by decide +kernel
theorem d_Snk_putBits_75 : decode b_Snk_putBits 75 = .ok (.iload 6, 2) := by decide +kernel
theorem d_Snk_putBits_77 : decode b_Snk_putBits 77 = .ok (.iadd, 1) := by decide +kernel
theorem d_Snk_putBits_78 : decode b_Snk_putBits 78 = .ok (.istore 4, 2) := by decide +kernel
theorem d_Snk_putBits_80 : decode b_Snk_putBits 80 = .ok (.aload_n 0, 1) := by decide +kernel
theorem d_Snk_putBits_81 : decode b_Snk_putBits 81 = .ok (.getfield 89, 3) := by decide +kernel
theorem d_Snk_putBits_84 : decode b_Snk_putBits 84 = .ok (.bipush 8, 2) := by decide +kernel
theorem d_Snk_putBits_86 : decode b_Snk_putBits 86 = .ok (.if_icmp .ne 45, 3) := by decide +kernel
theorem d_Snk_putBits_89 : decode b_Snk_putBits 89 = .ok (.aload_n 0, 1) := by decide +kernel
theorem d_Snk_putBits_90 : decode b_Snk_putBits 90 = .ok (.iconst 1, 1) := by decide +kernel
theorem d_Snk_putBits_91 : decode b_Snk_putBits 91 = .ok (.invokevirtual 45, 3) := by decide +kernel
theorem d_Snk_putBits_94 : decode b_Snk_putBits 94 = .ok (.ifCond .eq 27, 3) := by decide +kernel
theorem d_Snk_putBits_97 : decode b_Snk_putBits 97 = .ok (.aload_n 0, 1) := by decide +kernel
theorem d_Snk_putBits_98 : decode b_Snk_putBits 98 = .ok (.getfield 25, 3) := by decide +kernel
theorem d_Snk_putBits_101 : decode b_Snk_putBits 101 = .ok (.aload_n 0, 1) := by decide +kernel
theorem d_Snk_putBits_102 : decode b_Snk_putBits 102 = .ok (.getfield 29, 3) := by decide +kernel
theorem d_Snk_putBits_105 : decode b_Snk_putBits 105 = .ok (.aload_n 0, 1) := by decide +kernel
theorem d_Snk_putBits_106 : decode b_Snk_putBits 106 = .ok (.getfield 92, 3) := by decide +kernel
theorem d_Snk_putBits_109 : decode b_Snk_putBits 109 = .ok (.i2b, 1) := by decide +kernel
theorem d_Snk_putBits_110 : decode b_Snk_putBits 110 = .ok (.bastore, 1) := by decide +kernel
theorem d_Snk_putBits_111 : decode b_Snk_putBits 111 = .ok (.aload_n 0, 1) := by decide +kernel
theorem d_Snk_putBits_112 : decode b_Snk_putBits 112 = .ok (.dup, 1) := by decide +kernel
theorem d_Snk_putBits_113 : decode b_Snk_putBits 113 = .ok (.getfield 29, 3) := by decide +kernel
theorem d_Snk_putBits_116 : decode b_Snk_putBits 116 = .ok (.iconst 1, 1) := by decide +kernel
theorem d_Snk_putBits_117 : decode b_Snk_putBits 117 = .ok (.iadd, 1) := by decide +kernel
theorem d_Snk_putBits_118 : decode b_Snk_putBits 118 = .ok (.putfield 29, 3) := by decide +kernel
theorem d_Snk_putBits_0 : decode b_Snk_putBits 0 = .ok (.iconst 0, 1) := by decide +kernel
theorem d_Snk_putBits_1 : decode b_Snk_putBits 1 = .ok (.istore 4, 2) := by decide +kernel
theorem d_Snk_putBits_3 : decode b_Snk_putBits 3 = .ok (.iconst 0, 1) := by decide +kernel
theorem d_Snk_putBits_4 : decode b_Snk_putBits 4 = .ok (.istore 5, 2) := by decide +kernel
section
variable (l : Launch) (dC : Nat → ClassId) (dI : Nat → Nat → Nat) (cI cB cJ cZ : ClassId)
set_option maxRecDepth 100000 in
def wp_Wrt_beginGroup (post : St → Prop) (o : Nat) (l1 : Int32) (kb : Nat) (nb : Nat) (x : St) : Prop := (∃ k1 n2 k3 n4 : Nat, k1 + k3 = kb ∧ n2 + n4 = nb ∧ wp_Snk_putVarint (fun (x5 : St) => post x5) (stC o 1) (l1 : Int32).toInt64 k1 n2 x)
set_option maxHeartbeats 4000000 in
set_option maxRecDepth 100000 in
theorem t_Wrt_beginGroup_e {p : Program} {l : Launch} {e : Env} {R : Room} {s : State} {m : MethodId} {args : Array Value} {below : List Frame} {meth : Method} {c : Code} {Q : State → Prop} {dC : Nat → ClassId} {dI : Nat → Nat → Nat} {cI cB cJ cZ : ClassId} {A : Nat → Prop} {E : Heap} {tM tC : Nat} {kK kV : Nat → Nat} {ad0 : Nat → Nat} {NN0 : Nat} {post : St → Prop} (hx : p.tables.exec = Jvm.exec) (hb : c.code = b_Wrt_beginGroup) (hml : c.maxLocals = 2) (hown : s.vm.findClass R_Wrt = some m.cls) (hT : ∀ w ∈ TG, w.before args s = true) (hK : va_K (dC, dI) CL (TY cI cB cJ cZ) s) (hN : NW s) (hA : ∀ q : Nat, s.heap.size ≤ q → A q) (hRf : 4 ≤ R.frames) (hRl : 247 ≤ R.locals) (hE : CE E tM tC kK kV A s) (hret : ∀ (ad : Nat → Nat) (NN cells slots : Nat) (x : St) (H : Heap) (locs : List Loc) (pc : Nat) (ls : Array Slot), decode b_Wrt_beginGroup pc = .ok (.return_, 1) → (NN0 ≤ NN ∧ ∀ o : Nat, o < NN0 → ad o = ad0 o) → cells ≤ R.cells → slots ≤ R.slots → post x → Wd dC dI cI cB cJ cZ ad stC kcC NN A x H → va_S A s.heap H locs → W p l e R s m args below meth c H locs cells slots Q (F0 m pc ls [])) : ∀ (ad : Nat → Nat) (NN cells slots : Nat) (o : Nat) (l1 : Int32) (kb : Nat) (nb : Nat) (x : St) (H : Heap) (locs : List Loc) (ls : Array Slot), (152 ≤ NN) → (NN0 ≤ NN ∧ ∀ o : Nat, o < NN0 → ad o = ad0 o) → (cells + kb ≤ R.cells) → (slots + nb ≤ R.slots) → (o < NN ∧ kcC o = 5) → wp_Wrt_beginGroup post o l1 kb nb x → Wd dC dI cI cB cJ cZ ad stC kcC NN A x H → va_S A s.heap H locs → lv_has ls 2 [(0, .ref (ad o)), (1, .int l1)] → W p l e R s m args below meth c H locs cells slots Q (F0 m 0 ls []) := by
  intro ad NN cells slots o l1 kb nb x H locs ls hNN hag hRc hRs fo hw hW hS hl
  unfold wp_Wrt_beginGroup at hw
  refine lv_aload_n hx hb d_Wrt_beginGroup_0 rfl (lv_at hl 0 rfl) ?_
  refine w_getf (q := (stC o 1)) (k := 1) (t := 5) (C := R_Wrt) (T := F_Wrt) (N := 20) hx hb hT hown hK hW fo.1 fo.2 (by decide) in_Wrt rfl rfl (by decide) rfl fr_Wrt_1 w_2_52 d_Wrt_beginGroup_1 rfl ?_
  refine lv_iload_n hx hb d_Wrt_beginGroup_4 rfl (lv_at hl 1 rfl) ?_
  refine lv_i2l hx hb d_Wrt_beginGroup_5 rfl ?_
  obtain ⟨k1, n2, k3, n4, ek1, en2, hw⟩ := hw
  have hF := hW.free hS hA
  refine va_callv (va_runV (C := R_Snk) (As := [.long (l1 : Int32).toInt64]) (rest := []) ⟨hx, hb, hml, hown, hT⟩ (k_Snk_putVarint l dC dI cI cB cJ cZ ad NN E tM tC kK kV hNN H.size (stC o 1) (l1 : Int32).toInt64 k1 n2 x (st_ty hNN fo.1 fo.2 rfl) hw) ⟨callB_of 1 hT (gw_in w_5_143) rfl rfl rfl (hT _ w_1_2) (hT _ w_5_140) (by decide +kernel) ⟨Nat.le_trans (by decide) hRf, Nat.le_trans (by decide) hRl⟩, hT _ w_5_141, hT _ w_5_142⟩ ⟨PV.blind, va_recv hK hW.1 (ci := 1) (q0 := (stC o 1)) rfl (pic_obj (st_ty hNN fo.1 fo.2 rfl).1 (st_ty hNN fo.1 fo.2 rfl).2 (by decide)), PV.at _ hW hK hN hE hS hF⟩ rfl rfl hl.1 rfl (lv_room (Nat.le_of_ble_eq_true rfl)) d_Wrt_beginGroup_6 ⟨show cells + k1 ≤ R.cells by omega, show slots + n2 ≤ R.slots by omega⟩) hS (fun q _ h => hF q h) hF (fun  x5 t H locs ht hvm hw hB hz1 hk1 hS => ?_)
  obtain ⟨x5, ad, NN⟩ := x5
  obtain ⟨hB, hle, hg⟩ := hB
  try dsimp only at hw hB hle hg
  have hW := Wd.back hB ht hF
  rw [← hg o fo.1] at hl
  have fo : o < NN ∧ kcC o = 5 := ⟨Nat.lt_of_lt_of_le fo.1 hle, fo.2⟩
  have hag : NN0 ≤ NN ∧ ∀ o : Nat, o < NN0 → ad o = ad0 o := ⟨Nat.le_trans hag.1 hle, fun o h => (hg o (Nat.lt_of_lt_of_le h hag.1)).trans (hag.2 o h)⟩
  have hNN : 152 ≤ NN := Nat.le_trans hNN hle
  clear hg hle
  obtain ⟨cells, ec⟩ : ∃ z, z = cells + k1 := ⟨_, rfl⟩
  obtain ⟨slots, es⟩ : ∃ z, z = slots + n2 := ⟨_, rfl⟩
  rw [← ec, ← es]
  have hRc : cells + k3 ≤ R.cells := by omega
  have hRs : slots + n4 ≤ R.slots := by omega
  clear ec es hB ht hF hz1 hk1 hvm ek1 en2
  exact hret ad NN cells slots x5 H locs 9 ls d_Wrt_beginGroup_9 hag (Nat.le_trans (Nat.le_add_right _ _) hRc) (Nat.le_trans (Nat.le_add_right _ _) hRs) hw hW hS
set_option maxHeartbeats 4000000 in
set_option maxRecDepth 100000 in
theorem k_Wrt_beginGroup (l : Launch) (dC : Nat → ClassId) (dI : Nat → Nat → Nat) (cI cB cJ cZ : ClassId) (ad : Nat → Nat) (NN : Nat) (E : Heap) (tM tC : Nat) (kK kV : Nat → Nat) (hNN : 152 ≤ NN) (sz : Nat) (o : Nat) (l1 : Int32) (kb : Nat) (nb : Nat) (x : St) (fo : o < NN ∧ kcC o = 5) {post : St → Prop} (hw : wp_Wrt_beginGroup post o l1 kb nb x) : Met l y_Wrt_beginGroup (wsOf y_Wrt_beginGroup b_Wrt_beginGroup 2 (none)) ({ frames := 4, cells := kb, slots := nb, locals := 247 }) (va_Pc [.ref (ad o), .int l1] (PV dC dI cI cB cJ cZ ad stC kcC NN E tM tC kK kV sz x)) (va_Qv (fun (u : St × (Nat → Nat) × Nat) => post u.1) (fun u t => Wd dC dI cI cB cJ cZ u.2.1 stC kcC u.2.2 (va_A (pic ad stC kcC NN cI cB cJ cZ x) sz) u.1 t.heap ∧ NN ≤ u.2.2 ∧ ∀ o : Nat, o < NN → u.2.1 o = ad o) (va_A (pic ad stC kcC NN cI cB cJ cZ x) sz)) kb nb (va_A (pic ad stC kcC NN cI cB cJ cZ x) sz) := by
  refine Met.ofW (cc := b_Wrt_beginGroup) (maxL := 2) (ret := none) (by decide) rfl ?_
  intro p e s m args below meth c s₁ B hml hv
  obtain ⟨rfl, ⟨hsz, hW0, hK, hN⟩, hE⟩ := hv
  have hx := B.exec
  have hb := B.bytes
  have hr := B.returns
  have hts := atoms_spec B.pre
  have hT : ∀ w ∈ TG, w.before _ s = true := fun w h => hts w (List.mem_cons_of_mem _ h)
  have hown : s.vm.findClass R_Wrt = some m.cls := findClass_of_methodNamed B.named
  have hlocks := B.notSynchronized
  subst hsz
  have hW : Wd dC dI cI cB cJ cZ ad stC kcC NN (va_A (pic ad stC kcC NN cI cB cJ cZ x) s.heap.size) x s.heap := ⟨hW0.1, hW0.2.1.self (sz := s.heap.size), hW0.2.2⟩
  generalize hAe : va_A (pic ad stC kcC NN cI cB cJ cZ x) s.heap.size = A at hW hE ⊢
  have hA : ∀ q : Nat, s.heap.size ≤ q → A q := fun q h => by rw [← hAe]; exact Or.inr h
  have hS : va_S A s.heap s.heap [] := va_S.rf
  have hl := lv_entry ([.ref (ad o), .int l1]) (n := 2) (Nat.le_of_ble_eq_true rfl)
  rw [lg_entry_eq]
  generalize (lg_sl ([.ref (ad o), .int l1]) ++ List.replicate (2 - (lg_sl ([.ref (ad o), .int l1])).length) Slot.unset).toArray = ls at hl ⊢
  have hl : lv_has ls 2 [(0, .ref (ad o)), (1, .int l1)] := hl
  exact t_Wrt_beginGroup_e hx hb hml hown hT hK hN hA (Nat.le_refl 4) (Nat.le_refl 247) hE (fun ad1 NN1 cells slots x1 H locs pc ls hd hag hc hs hp hW hS => W.widen (k := kb) (n := nb) hc hs (W.vret hx hb hr (fun t ht hM => ⟨⟨(x1, ad1, NN1), rfl, hp, Wd.back hW ht.symm (fun _ z => z), hag.1, hag.2⟩, hS.F ht⟩) hS.2.2 hd hlocks))  ad NN 0 0 o l1 kb nb x _ _ ls hNN ⟨Nat.le_refl _, fun _ _ => rfl⟩ (Nat.le_of_eq (Nat.zero_add kb)) (Nat.le_of_eq (Nat.zero_add nb)) fo hw hW hS hl
set_option maxRecDepth 100000 in
def wp_Snk_putText (post : St → Prop) (o : Nat) (l1 : Nat) (l2 : Int64) (kb : Nat) (nb : Nat) (x : St) : Prop := wp_V_sizeOf (fun (r2 : Int32) (x1 : St) => (∃ k3 n4 k5 n6 : Nat, k3 + k5 = kb ∧ n4 + n6 = nb ∧ wp_Snk_putVarint (fun (x7 : St) => wp_V_placeOf (fun (r9 : Int32) (x8 : St) => wp_V_sizeOf (fun (r11 : Int32) (x10 : St) => (∃ k12 n13 k14 n15 : Nat, k12 + k14 = k5 ∧ n13 + n15 = n6 ∧ wp_Snk_putAll (fun (x16 : St) => post x16) o l1 r9 r11 k12 n13 x10)) l2 x8) l2 x7) o (r2 : Int32).toInt64 k3 n4 x1)) l2 x
set_option maxHeartbeats 4000000 in
set_option maxRecDepth 100000 in
theorem t_Snk_putText_e {p : Program} {l : Launch} {e : Env} {R : Room} {s : State} {m : MethodId} {args : Array Value} {below : List Frame} {meth : Method} {c : Code} {Q : State → Prop} {dC : Nat → ClassId} {dI : Nat → Nat → Nat} {cI cB cJ cZ : ClassId} {A : Nat → Prop} {E : Heap} {tM tC : Nat} {kK kV : Nat → Nat} {ad0 : Nat → Nat} {NN0 : Nat} {post : St → Prop} (hx : p.tables.exec = Jvm.exec) (hb : c.code = b_Snk_putText) (hml : c.maxLocals = 4) (hown : s.vm.findClass R_Snk = some m.cls) (hT : ∀ w ∈ TG, w.before args s = true) (hK : va_K (dC, dI) CL (TY cI cB cJ cZ) s) (hN : NW s) (hA : ∀ q : Nat, s.heap.size ≤ q → A q) (hRf : 4 ≤ R.frames) (hRl : 247 ≤ R.locals) (hE : CE E tM tC kK kV A s) (hret : ∀ (ad : Nat → Nat) (NN cells slots : Nat) (x : St) (H : Heap) (locs : List Loc) (pc : Nat) (ls : Array Slot), decode b_Snk_putText pc = .ok (.return_, 1) → (NN0 ≤ NN ∧ ∀ o : Nat, o < NN0 → ad o = ad0 o) → cells ≤ R.cells → slots ≤ R.slots → post x → Wd dC dI cI cB cJ cZ ad stC kcC NN A x H → va_S A s.heap H locs → W p l e R s m args below meth c H locs cells slots Q (F0 m pc ls [])) : ∀ (ad : Nat → Nat) (NN cells slots : Nat) (o : Nat) (l1 : Nat) (l2 : Int64) (kb : Nat) (nb : Nat) (x : St) (H : Heap) (locs : List Loc) (ls : Array Slot), (152 ≤ NN) → (NN0 ≤ NN ∧ ∀ o : Nat, o < NN0 → ad o = ad0 o) → (cells + kb ≤ R.cells) → (slots + nb ≤ R.slots) → (o < NN ∧ kcC o = 1) → (l1 < NN ∧ kcC l1 = 21) → wp_Snk_putText post o l1 l2 kb nb x → Wd dC dI cI cB cJ cZ ad stC kcC NN A x H → va_S A s.heap H locs → lv_has ls 4 [(0, .ref (ad o)), (1, .ref (ad l1)), (2, .long l2)] → W p l e R s m args below meth c H locs cells slots Q (F0 m 0 ls []) := by
  intro ad NN cells slots o l1 l2 kb nb x H locs ls hNN hag hRc hRs fo fl1 hw hW hS hl
  unfold wp_Snk_putText at hw
  refine lv_aload_n hx hb d_Snk_putText_0 rfl (lv_at hl 0 rfl) ?_
  refine lv_lload_n hx hb d_Snk_putText_1 rfl (lv_at hl 2 rfl) ?_
  have hF := hW.free hS hA
  refine va_calli (va_runSN (As := [.long l2]) (rest := [.ref (ad o)]) ⟨hx, hb, hml, hown, hT⟩ (k_V_sizeOf l dC dI cI cB cJ cZ ad NN E tM tC kK kV hNN H.size l2 x  hw) ⟨va_cnB 1 hT (gw_in w_5_161) rfl rfl rfl (hN _ wn_5_179 rfl) (hT _ w_1_1) (by decide +kernel) ⟨Nat.le_trans (by decide) hRf, Nat.le_trans (by decide) hRl⟩, hT _ w_5_160, trivial⟩ ⟨PV.blind, PV.at _ hW hK hN hE hS hF⟩ rfl rfl hl.1 rfl (lv_room (Nat.le_of_ble_eq_true rfl)) d_Snk_putText_2 ⟨(Nat.le_trans (Nat.le_add_right _ _) hRc), (Nat.le_trans (Nat.le_add_right _ _) hRs)⟩) hS (fun q _ h => hF q h) hF (fun r2 x1 t H locs ht hvm hw hB hz1 hk1 hS => ?_)
  have hW := Wd.back hB ht hF
  clear hB ht hF hz1 hk1 hvm
  refine lv_i2l hx hb d_Snk_putText_5 rfl ?_
  obtain ⟨k3, n4, k5, n6, ek3, en4, hw⟩ := hw
  have hF := hW.free hS hA
  refine va_callv (va_runV (C := R_Snk) (As := [.long (r2 : Int32).toInt64]) (rest := []) ⟨hx, hb, hml, hown, hT⟩ (k_Snk_putVarint l dC dI cI cB cJ cZ ad NN E tM tC kK kV hNN H.size o (r2 : Int32).toInt64 k3 n4 x1 fo hw) ⟨callB_of 1 hT (gw_in w_5_143) rfl rfl rfl (hT _ w_1_2) (hT _ w_5_180) (by decide +kernel) ⟨Nat.le_trans (by decide) hRf, Nat.le_trans (by decide) hRl⟩, hT _ w_5_141, hT _ w_5_142⟩ ⟨PV.blind, va_recv hK hW.1 (ci := 1) (q0 := o) rfl (pic_obj fo.1 fo.2 (by decide)), PV.at _ hW hK hN hE hS hF⟩ rfl rfl hl.1 rfl (lv_room (Nat.le_of_ble_eq_true rfl)) d_Snk_putText_6 ⟨show cells + k3 ≤ R.cells by omega, show slots + n4 ≤ R.slots by omega⟩) hS (fun q _ h => hF q h) hF (fun  x7 t H locs ht hvm hw hB hz1 hk1 hS => ?_)
  obtain ⟨x7, ad, NN⟩ := x7
  obtain ⟨hB, hle, hg⟩ := hB
  try dsimp only at hw hB hle hg
  have hW := Wd.back hB ht hF
  rw [← hg o fo.1] at hl
  rw [← hg l1 fl1.1] at hl
  have fl1 : l1 < NN ∧ kcC l1 = 21 := ⟨Nat.lt_of_lt_of_le fl1.1 hle, fl1.2⟩
  have fo : o < NN ∧ kcC o = 1 := ⟨Nat.lt_of_lt_of_le fo.1 hle, fo.2⟩
  have hag : NN0 ≤ NN ∧ ∀ o : Nat, o < NN0 → ad o = ad0 o := ⟨Nat.le_trans hag.1 hle, fun o h => (hg o (Nat.lt_of_lt_of_le h hag.1)).trans (hag.2 o h)⟩
  have hNN : 152 ≤ NN := Nat.le_trans hNN hle
  clear hg hle
  obtain ⟨cells, ec⟩ : ∃ z, z = cells + k3 := ⟨_, rfl⟩
  obtain ⟨slots, es⟩ : ∃ z, z = slots + n4 := ⟨_, rfl⟩
  rw [← ec, ← es]
  have hRc : cells + k5 ≤ R.cells := by omega
  have hRs : slots + n6 ≤ R.slots := by omega
  clear ec es hB ht hF hz1 hk1 hvm ek3 en4
  refine lv_aload_n hx hb d_Snk_putText_9 rfl (lv_at hl 0 rfl) ?_
  refine lv_aload_n hx hb d_Snk_putText_10 rfl (lv_at hl 1 rfl) ?_
  refine lv_lload_n hx hb d_Snk_putText_11 rfl (lv_at hl 2 rfl) ?_
  have hF := hW.free hS hA
  refine va_calli (va_runSN (As := [.long l2]) (rest := [.ref (ad l1), .ref (ad o)]) ⟨hx, hb, hml, hown, hT⟩ (k_V_placeOf l dC dI cI cB cJ cZ ad NN E tM tC kK kV hNN H.size l2 x7  hw) ⟨va_cnB 1 hT (gw_in w_5_183) rfl rfl rfl (hN _ wn_5_181 rfl) (hT _ w_1_1) (by decide +kernel) ⟨Nat.le_trans (by decide) hRf, Nat.le_trans (by decide) hRl⟩, hT _ w_5_182, trivial⟩ ⟨PV.blind, PV.at _ hW hK hN hE hS hF⟩ rfl rfl hl.1 rfl (lv_room (Nat.le_of_ble_eq_true rfl)) d_Snk_putText_12 ⟨(Nat.le_trans (Nat.le_add_right _ _) hRc), (Nat.le_trans (Nat.le_add_right _ _) hRs)⟩) hS (fun q _ h => hF q h) hF (fun r9 x8 t H locs ht hvm hw hB hz1 hk1 hS => ?_)
  have hW := Wd.back hB ht hF
  clear hB ht hF hz1 hk1 hvm
  refine lv_lload_n hx hb d_Snk_putText_15 rfl (lv_at hl 2 rfl) ?_
  have hF := hW.free hS hA
  refine va_calli (va_runSN (As := [.long l2]) (rest := [.int r9, .ref (ad l1), .ref (ad o)]) ⟨hx, hb, hml, hown, hT⟩ (k_V_sizeOf l dC dI cI cB cJ cZ ad NN E tM tC kK kV hNN H.size l2 x8  hw) ⟨va_cnB 1 hT (gw_in w_5_161) rfl rfl rfl (hN _ wn_5_179 rfl) (hT _ w_1_1) (by decide +kernel) ⟨Nat.le_trans (by decide) hRf, Nat.le_trans (by decide) hRl⟩, hT _ w_5_160, trivial⟩ ⟨PV.blind, PV.at _ hW hK hN hE hS hF⟩ rfl rfl hl.1 rfl (lv_room (Nat.le_of_ble_eq_true rfl)) d_Snk_putText_16 ⟨(Nat.le_trans (Nat.le_add_right _ _) hRc), (Nat.le_trans (Nat.le_add_right _ _) hRs)⟩) hS (fun q _ h => hF q h) hF (fun r11 x10 t H locs ht hvm hw hB hz1 hk1 hS => ?_)
  have hW := Wd.back hB ht hF
  clear hB ht hF hz1 hk1 hvm
  obtain ⟨k12, n13, k14, n15, ek12, en13, hw⟩ := hw
  have hF := hW.free hS hA
  refine va_callv (va_runV (C := R_Snk) (As := [.ref (ad l1), .int r9, .int r11]) (rest := []) ⟨hx, hb, hml, hown, hT⟩ (k_Snk_putAll l dC dI cI cB cJ cZ ad NN E tM tC kK kV hNN H.size o l1 r9 r11 k12 n13 x10 fo fl1 hw) ⟨callB_of 3 hT (gw_in w_5_138) rfl rfl rfl (hT _ w_1_2) (hT _ w_5_184) (by decide +kernel) ⟨Nat.le_trans (by decide) hRf, Nat.le_trans (by decide) hRl⟩, hT _ w_5_136, hT _ w_5_137⟩ ⟨PV.blind, va_recv hK hW.1 (ci := 1) (q0 := o) rfl (pic_obj fo.1 fo.2 (by decide)), PV.at _ hW hK hN hE hS hF⟩ rfl rfl hl.1 rfl (lv_room (Nat.le_of_ble_eq_true rfl)) d_Snk_putText_19 ⟨show cells + k12 ≤ R.cells by omega, show slots + n13 ≤ R.slots by omega⟩) hS (fun q _ h => hF q h) hF (fun  x16 t H locs ht hvm hw hB hz1 hk1 hS => ?_)
  obtain ⟨x16, ad, NN⟩ := x16
  obtain ⟨hB, hle, hg⟩ := hB
  try dsimp only at hw hB hle hg
  have hW := Wd.back hB ht hF
  rw [← hg o fo.1] at hl
  rw [← hg l1 fl1.1] at hl
  have fl1 : l1 < NN ∧ kcC l1 = 21 := ⟨Nat.lt_of_lt_of_le fl1.1 hle, fl1.2⟩
  have fo : o < NN ∧ kcC o = 1 := ⟨Nat.lt_of_lt_of_le fo.1 hle, fo.2⟩
  have hag : NN0 ≤ NN ∧ ∀ o : Nat, o < NN0 → ad o = ad0 o := ⟨Nat.le_trans hag.1 hle, fun o h => (hg o (Nat.lt_of_lt_of_le h hag.1)).trans (hag.2 o h)⟩
  have hNN : 152 ≤ NN := Nat.le_trans hNN hle
  clear hg hle
  obtain ⟨cells, ec⟩ : ∃ z, z = cells + k12 := ⟨_, rfl⟩
  obtain ⟨slots, es⟩ : ∃ z, z = slots + n13 := ⟨_, rfl⟩
  rw [← ec, ← es]
  have hRc : cells + k14 ≤ R.cells := by omega
  have hRs : slots + n15 ≤ R.slots := by omega
  clear ec es hB ht hF hz1 hk1 hvm ek12 en13
  exact hret ad NN cells slots x16 H locs 22 ls d_Snk_putText_22 hag (Nat.le_trans (Nat.le_add_right _ _) hRc) (Nat.le_trans (Nat.le_add_right _ _) hRs) hw hW hS
set_option maxHeartbeats 4000000 in
set_option maxRecDepth 100000 in
theorem k_Snk_putText (l : Launch) (dC : Nat → ClassId) (dI : Nat → Nat → Nat) (cI cB cJ cZ : ClassId) (ad : Nat → Nat) (NN : Nat) (E : Heap) (tM tC : Nat) (kK kV : Nat → Nat) (hNN : 152 ≤ NN) (sz : Nat) (o : Nat) (l1 : Nat) (l2 : Int64) (kb : Nat) (nb : Nat) (x : St) (fo : o < NN ∧ kcC o = 1) (fl1 : l1 < NN ∧ kcC l1 = 21) {post : St → Prop} (hw : wp_Snk_putText post o l1 l2 kb nb x) : Met l y_Snk_putText (wsOf y_Snk_putText b_Snk_putText 4 (none)) ({ frames := 4, cells := kb, slots := nb, locals := 247 }) (va_Pc [.ref (ad o), .ref (ad l1), .long l2] (PV dC dI cI cB cJ cZ ad stC kcC NN E tM tC kK kV sz x)) (va_Qv (fun (u : St × (Nat → Nat) × Nat) => post u.1) (fun u t => Wd dC dI cI cB cJ cZ u.2.1 stC kcC u.2.2 (va_A (pic ad stC kcC NN cI cB cJ cZ x) sz) u.1 t.heap ∧ NN ≤ u.2.2 ∧ ∀ o : Nat, o < NN → u.2.1 o = ad o) (va_A (pic ad stC kcC NN cI cB cJ cZ x) sz)) kb nb (va_A (pic ad stC kcC NN cI cB cJ cZ x) sz) := by
  refine Met.ofW (cc := b_Snk_putText) (maxL := 4) (ret := none) (by decide) rfl ?_
  intro p e s m args below meth c s₁ B hml hv
  obtain ⟨rfl, ⟨hsz, hW0, hK, hN⟩, hE⟩ := hv
  have hx := B.exec
  have hb := B.bytes
  have hr := B.returns
  have hts := atoms_spec B.pre
  have hT : ∀ w ∈ TG, w.before _ s = true := fun w h => hts w (List.mem_cons_of_mem _ h)
  have hown : s.vm.findClass R_Snk = some m.cls := findClass_of_methodNamed B.named
  have hlocks := B.notSynchronized
  subst hsz
  have hW : Wd dC dI cI cB cJ cZ ad stC kcC NN (va_A (pic ad stC kcC NN cI cB cJ cZ x) s.heap.size) x s.heap := ⟨hW0.1, hW0.2.1.self (sz := s.heap.size), hW0.2.2⟩
  generalize hAe : va_A (pic ad stC kcC NN cI cB cJ cZ x) s.heap.size = A at hW hE ⊢
  have hA : ∀ q : Nat, s.heap.size ≤ q → A q := fun q h => by rw [← hAe]; exact Or.inr h
  have hS : va_S A s.heap s.heap [] := va_S.rf
  have hl := lv_entry ([.ref (ad o), .ref (ad l1), .long l2]) (n := 4) (Nat.le_of_ble_eq_true rfl)
  rw [lg_entry_eq]
  generalize (lg_sl ([.ref (ad o), .ref (ad l1), .long l2]) ++ List.replicate (4 - (lg_sl ([.ref (ad o), .ref (ad l1), .long l2])).length) Slot.unset).toArray = ls at hl ⊢
  have hl : lv_has ls 4 [(0, .ref (ad o)), (1, .ref (ad l1)), (2, .long l2)] := hl
  exact t_Snk_putText_e hx hb hml hown hT hK hN hA (Nat.le_refl 4) (Nat.le_refl 247) hE (fun ad1 NN1 cells slots x1 H locs pc ls hd hag hc hs hp hW hS => W.widen (k := kb) (n := nb) hc hs (W.vret hx hb hr (fun t ht hM => ⟨⟨(x1, ad1, NN1), rfl, hp, Wd.back hW ht.symm (fun _ z => z), hag.1, hag.2⟩, hS.F ht⟩) hS.2.2 hd hlocks))  ad NN 0 0 o l1 l2 kb nb x _ _ ls hNN ⟨Nat.le_refl _, fun _ _ => rfl⟩ (Nat.le_of_eq (Nat.zero_add kb)) (Nat.le_of_eq (Nat.zero_add nb)) fo fl1 hw hW hS hl
set_option maxRecDepth 100000 in
def j_Snk_putFixed_3 (post : St → Prop) (rec3 : Nat → Int64 → Int32 → Int32 → Nat → Nat → St → Prop) (o : Nat) (l1 : Int64) (l3 : Int32) (l4 : Int32) (kb : Nat) (nb : Nat) (x : St) : Prop := ((l3 ≤ l4 → post x) ∧ (¬ l3 ≤ l4 → (∃ k2 n3 k4 n5 : Nat, k2 + k4 = kb ∧ n3 + n5 = nb ∧ wp_Snk_put (fun (x6 : St) => rec3 o l1 l3 (l4 + 1) k4 n5 x6) o (((l1 : Int64).toUInt64 >>> (((8 * l4) : Int32).toInt64.toUInt64 &&& Int64.toUInt64 63)).toInt64 : Int64).toInt32 k2 n3 x)))
set_option maxHeartbeats 4000000 in
set_option maxRecDepth 100000 in
theorem t_Snk_putFixed_3 {p : Program} {l : Launch} {e : Env} {R : Room} {s : State} {m : MethodId} {args : Array Value} {below : List Frame} {meth : Method} {c : Code} {Q : State → Prop} {dC : Nat → ClassId} {dI : Nat → Nat → Nat} {cI cB cJ cZ : ClassId} {A : Nat → Prop} {E : Heap} {tM tC : Nat} {kK kV : Nat → Nat} {ad0 : Nat → Nat} {NN0 : Nat} {post : St → Prop} {rec3 : Nat → Int64 → Int32 → Int32 → Nat → Nat → St → Prop} (hx : p.tables.exec = Jvm.exec) (hb : c.code = b_Snk_putFixed) (hml : c.maxLocals = 5) (hown : s.vm.findClass R_Snk = some m.cls) (hT : ∀ w ∈ TG, w.before args s = true) (hK : va_K (dC, dI) CL (TY cI cB cJ cZ) s) (hN : NW s) (hA : ∀ q : Nat, s.heap.size ≤ q → A q) (hRf : 4 ≤ R.frames) (hRl : 242 ≤ R.locals) (hE : CE E tM tC kK kV A s) (hret : ∀ (ad : Nat → Nat) (NN cells slots : Nat) (x : St) (H : Heap) (locs : List Loc) (pc : Nat) (ls : Array Slot), decode b_Snk_putFixed pc = .ok (.return_, 1) → (NN0 ≤ NN ∧ ∀ o : Nat, o < NN0 → ad o = ad0 o) → cells ≤ R.cells → slots ≤ R.slots → post x → Wd dC dI cI cB cJ cZ ad stC kcC NN A x H → va_S A s.heap H locs → W p l e R s m args below meth c H locs cells slots Q (F0 m pc ls [])) (hrec3 : ∀ (ad : Nat → Nat) (NN cells slots : Nat) (o : Nat) (l1 : Int64) (l3 : Int32) (l4 : Int32) (kb : Nat) (nb : Nat) (x : St) (H : Heap) (locs : List Loc) (ls : Array Slot), (152 ≤ NN) → (NN0 ≤ NN ∧ ∀ o : Nat, o < NN0 → ad o = ad0 o) → (cells + kb ≤ R.cells) → (slots + nb ≤ R.slots) → (o < NN ∧ kcC o = 1) → rec3 o l1 l3 l4 kb nb x → Wd dC dI cI cB cJ cZ ad stC kcC NN A x H → va_S A s.heap H locs → lv_has ls 5 [(0, .ref (ad o)), (1, .long l1), (3, .int l3), (4, .int l4)] → W p l e R s m args below meth c H locs cells slots Q (F0 m 3 ls [])) : ∀ (ad : Nat → Nat) (NN cells slots : Nat) (o : Nat) (l1 : Int64) (l3 : Int32) (l4 : Int32) (kb : Nat) (nb : Nat) (x : St) (H : Heap) (locs : List Loc) (ls : Array Slot), (152 ≤ NN) → (NN0 ≤ NN ∧ ∀ o : Nat, o < NN0 → ad o = ad0 o) → (cells + kb ≤ R.cells) → (slots + nb ≤ R.slots) → (o < NN ∧ kcC o = 1) → j_Snk_putFixed_3 post rec3 o l1 l3 l4 kb nb x → Wd dC dI cI cB cJ cZ ad stC kcC NN A x H → va_S A s.heap H locs → lv_has ls 5 [(0, .ref (ad o)), (1, .long l1), (3, .int l3), (4, .int l4)] → W p l e R s m args below meth c H locs cells slots Q (F0 m 3 ls []) := by
  intro ad NN cells slots o l1 l3 l4 kb nb x H locs ls hNN hag hRc hRs fo hw hW hS hl
  unfold j_Snk_putFixed_3 at hw
  refine lv_iload hx hb d_Snk_putFixed_3 (lv_at hl 3 rfl) ?_
  refine lv_iload_n hx hb d_Snk_putFixed_5 rfl (lv_at hl 2 rfl) ?_
  refine lv_icmp_ge (tgt := 27) hx hb d_Snk_putFixed_6 (by decide) (fun c1 => ?_) (fun c1 => ?_)
  · have hw := hw.1 c1
    exact hret ad NN cells slots x H locs 27 ls d_Snk_putFixed_27 hag (Nat.le_trans (Nat.le_add_right _ _) hRc) (Nat.le_trans (Nat.le_add_right _ _) hRs) hw hW hS
  · have hw := hw.2 c1
    refine lv_aload_n hx hb d_Snk_putFixed_9 rfl (lv_at hl 0 rfl) ?_
    refine lv_lload_n hx hb d_Snk_putFixed_10 rfl (lv_at hl 1 rfl) ?_
    refine lv_bipush (v := 8) hx hb d_Snk_putFixed_11 (by decide) ?_
    refine lv_iload hx hb d_Snk_putFixed_13 (lv_at hl 3 rfl) ?_
    refine lv_imul hx hb d_Snk_putFixed_15 ?_
    refine lv_lushr hx hb d_Snk_putFixed_16 rfl ?_
    refine lv_l2i hx hb d_Snk_putFixed_17 rfl ?_
    obtain ⟨k2, n3, k4, n5, ek2, en3, hw⟩ := hw
    have hF := hW.free hS hA
    refine va_callv (va_runV (C := R_Snk) (As := [.int (((l1 : Int64).toUInt64 >>> (((8 * l4) : Int32).toInt64.toUInt64 &&& Int64.toUInt64 63)).toInt64 : Int64).toInt32]) (rest := []) ⟨hx, hb, hml, hown, hT⟩ (k_Snk_put l dC dI cI cB cJ cZ ad NN E tM tC kK kV hNN H.size o (((l1 : Int64).toUInt64 >>> (((8 * l4) : Int32).toInt64.toUInt64 &&& Int64.toUInt64 63)).toInt64 : Int64).toInt32 k2 n3 x fo hw) ⟨callB_of 1 hT (gw_in w_4_52) rfl rfl rfl (hT _ w_1_2) (hT _ w_5_189) (by decide +kernel) ⟨Nat.le_trans (by decide) hRf, Nat.le_trans (by decide) hRl⟩, hT _ w_4_50, hT _ w_4_51⟩ ⟨PV.blind, va_recv hK hW.1 (ci := 1) (q0 := o) rfl (pic_obj fo.1 fo.2 (by decide)), PV.at _ hW hK hN hE hS hF⟩ rfl rfl hl.1 rfl (lv_room (Nat.le_of_ble_eq_true rfl)) d_Snk_putFixed_18 ⟨show cells + k2 ≤ R.cells by omega, show slots + n3 ≤ R.slots by omega⟩) hS (fun q _ h => hF q h) hF (fun  x6 t H locs ht hvm hw hB hz1 hk1 hS => ?_)
    obtain ⟨x6, ad, NN⟩ := x6
    obtain ⟨hB, hle, hg⟩ := hB
    try dsimp only at hw hB hle hg
    have hW := Wd.back hB ht hF
    rw [← hg o fo.1] at hl
    have fo : o < NN ∧ kcC o = 1 := ⟨Nat.lt_of_lt_of_le fo.1 hle, fo.2⟩
    have hag : NN0 ≤ NN ∧ ∀ o : Nat, o < NN0 → ad o = ad0 o := ⟨Nat.le_trans hag.1 hle, fun o h => (hg o (Nat.lt_of_lt_of_le h hag.1)).trans (hag.2 o h)⟩
    have hNN : 152 ≤ NN := Nat.le_trans hNN hle
    clear hg hle
    obtain ⟨cells, ec⟩ : ∃ z, z = cells + k2 := ⟨_, rfl⟩
    obtain ⟨slots, es⟩ : ∃ z, z = slots + n3 := ⟨_, rfl⟩
    rw [← ec, ← es]
    have hRc : cells + k4 ≤ R.cells := by omega
    have hRs : slots + n5 ≤ R.slots := by omega
    clear ec es hB ht hF hz1 hk1 hvm ek2 en3
    refine lv_iinc (v := (l4 + 1)) (lv' := [(4, .int (l4 + 1)), (0, .ref (ad o)), (1, .long l1), (3, .int l3)]) hx hb d_Snk_putFixed_21 hl (k := 3) rfl rfl (by decide) rfl (fun ls hl => ?_)
    refine lv_goto (tgt := 3) hx hb d_Snk_putFixed_24 (by decide) ?_
    exact hrec3 ad NN cells slots o l1 l3 (l4 + 1) k4 n5 x6 H locs ls hNN hag hRc hRs fo hw hW hS (lv_sub hl [1, 2, 3, 0] rfl)
def wl_Snk_putFixed_3 (post : St → Prop) : Nat → Nat → Int64 → Int32 → Int32 → Nat → Nat → St → Prop
  | 0 => fun _ _ _ _ _ _ _ => False
  | n + 1 => j_Snk_putFixed_3 post (wl_Snk_putFixed_3 post n)
set_option maxHeartbeats 4000000 in
set_option maxRecDepth 100000 in
theorem tl_Snk_putFixed_3 {p : Program} {l : Launch} {e : Env} {R : Room} {s : State} {m : MethodId} {args : Array Value} {below : List Frame} {meth : Method} {c : Code} {Q : State → Prop} {dC : Nat → ClassId} {dI : Nat → Nat → Nat} {cI cB cJ cZ : ClassId} {A : Nat → Prop} {E : Heap} {tM tC : Nat} {kK kV : Nat → Nat} {ad0 : Nat → Nat} {NN0 : Nat} {post : St → Prop} (hx : p.tables.exec = Jvm.exec) (hb : c.code = b_Snk_putFixed) (hml : c.maxLocals = 5) (hown : s.vm.findClass R_Snk = some m.cls) (hT : ∀ w ∈ TG, w.before args s = true) (hK : va_K (dC, dI) CL (TY cI cB cJ cZ) s) (hN : NW s) (hA : ∀ q : Nat, s.heap.size ≤ q → A q) (hRf : 4 ≤ R.frames) (hRl : 242 ≤ R.locals) (hE : CE E tM tC kK kV A s) (hret : ∀ (ad : Nat → Nat) (NN cells slots : Nat) (x : St) (H : Heap) (locs : List Loc) (pc : Nat) (ls : Array Slot), decode b_Snk_putFixed pc = .ok (.return_, 1) → (NN0 ≤ NN ∧ ∀ o : Nat, o < NN0 → ad o = ad0 o) → cells ≤ R.cells → slots ≤ R.slots → post x → Wd dC dI cI cB cJ cZ ad stC kcC NN A x H → va_S A s.heap H locs → W p l e R s m args below meth c H locs cells slots Q (F0 m pc ls []))  : ∀ n : Nat, ∀ (ad : Nat → Nat) (NN cells slots : Nat) (o : Nat) (l1 : Int64) (l3 : Int32) (l4 : Int32) (kb : Nat) (nb : Nat) (x : St) (H : Heap) (locs : List Loc) (ls : Array Slot), (152 ≤ NN) → (NN0 ≤ NN ∧ ∀ o : Nat, o < NN0 → ad o = ad0 o) → (cells + kb ≤ R.cells) → (slots + nb ≤ R.slots) → (o < NN ∧ kcC o = 1) → wl_Snk_putFixed_3 post n o l1 l3 l4 kb nb x → Wd dC dI cI cB cJ cZ ad stC kcC NN A x H → va_S A s.heap H locs → lv_has ls 5 [(0, .ref (ad o)), (1, .long l1), (3, .int l3), (4, .int l4)] → W p l e R s m args below meth c H locs cells slots Q (F0 m 3 ls []) := by
  intro n
  induction n with
  | zero => intro ad NN cells slots o l1 l3 l4 kb nb x H locs ls hNN hag hRc hRs fo hw; exact hw.elim
  | succ n ih => intro ad NN cells slots o l1 l3 l4 kb nb x H locs ls hNN hag hRc hRs fo hw hW hS hl; exact t_Snk_putFixed_3 hx hb hml hown hT hK hN hA hRf hRl hE hret  ih ad NN cells slots o l1 l3 l4 kb nb x H locs ls hNN hag hRc hRs fo hw hW hS hl
set_option maxRecDepth 100000 in
def wp_Snk_putFixed (post : St → Prop) (o : Nat) (l1 : Int64) (l3 : Int32) (kb : Nat) (nb : Nat) (x : St) : Prop := ∃ n : Nat, wl_Snk_putFixed_3 post n o l1 l3 0 kb nb x
set_option maxHeartbeats 4000000 in
set_option maxRecDepth 100000 in
theorem t_Snk_putFixed_e {p : Program} {l : Launch} {e : Env} {R : Room} {s : State} {m : MethodId} {args : Array Value} {below : List Frame} {meth : Method} {c : Code} {Q : State → Prop} {dC : Nat → ClassId} {dI : Nat → Nat → Nat} {cI cB cJ cZ : ClassId} {A : Nat → Prop} {E : Heap} {tM tC : Nat} {kK kV : Nat → Nat} {ad0 : Nat → Nat} {NN0 : Nat} {post : St → Prop} (hx : p.tables.exec = Jvm.exec) (hb : c.code = b_Snk_putFixed) (hml : c.maxLocals = 5) (hown : s.vm.findClass R_Snk = some m.cls) (hT : ∀ w ∈ TG, w.before args s = true) (hK : va_K (dC, dI) CL (TY cI cB cJ cZ) s) (hN : NW s) (hA : ∀ q : Nat, s.heap.size ≤ q → A q) (hRf : 4 ≤ R.frames) (hRl : 242 ≤ R.locals) (hE : CE E tM tC kK kV A s) (hret : ∀ (ad : Nat → Nat) (NN cells slots : Nat) (x : St) (H : Heap) (locs : List Loc) (pc : Nat) (ls : Array Slot), decode b_Snk_putFixed pc = .ok (.return_, 1) → (NN0 ≤ NN ∧ ∀ o : Nat, o < NN0 → ad o = ad0 o) → cells ≤ R.cells → slots ≤ R.slots → post x → Wd dC dI cI cB cJ cZ ad stC kcC NN A x H → va_S A s.heap H locs → W p l e R s m args below meth c H locs cells slots Q (F0 m pc ls [])) : ∀ (ad : Nat → Nat) (NN cells slots : Nat) (o : Nat) (l1 : Int64) (l3 : Int32) (kb : Nat) (nb : Nat) (x : St) (H : Heap) (locs : List Loc) (ls : Array Slot), (152 ≤ NN) → (NN0 ≤ NN ∧ ∀ o : Nat, o < NN0 → ad o = ad0 o) → (cells + kb ≤ R.cells) → (slots + nb ≤ R.slots) → (o < NN ∧ kcC o = 1) → wp_Snk_putFixed post o l1 l3 kb nb x → Wd dC dI cI cB cJ cZ ad stC kcC NN A x H → va_S A s.heap H locs → lv_has ls 5 [(0, .ref (ad o)), (1, .long l1), (3, .int l3)] → W p l e R s m args below meth c H locs cells slots Q (F0 m 0 ls []) := by
  intro ad NN cells slots o l1 l3 kb nb x H locs ls hNN hag hRc hRs fo hw hW hS hl
  unfold wp_Snk_putFixed at hw
  refine lv_iconst (v := 0) hx hb d_Snk_putFixed_0 (by decide) ?_
  refine lv_istore (lv' := [(4, .int 0), (0, .ref (ad o)), (1, .long l1), (3, .int l3)]) hx hb d_Snk_putFixed_1 hl (by decide) rfl (fun ls hl => ?_)
  obtain ⟨n, hw⟩ := hw
  exact tl_Snk_putFixed_3 hx hb hml hown hT hK hN hA hRf hRl hE hret  n ad NN cells slots o l1 l3 0 kb nb x H locs ls hNN hag hRc hRs fo hw hW hS (lv_sub hl [1, 2, 3, 0] rfl)
set_option maxHeartbeats 4000000 in
set_option maxRecDepth 100000 in
theorem k_Snk_putFixed (l : Launch) (dC : Nat → ClassId) (dI : Nat → Nat → Nat) (cI cB cJ cZ : ClassId) (ad : Nat → Nat) (NN : Nat) (E : Heap) (tM tC : Nat) (kK kV : Nat → Nat) (hNN : 152 ≤ NN) (sz : Nat) (o : Nat) (l1 : Int64) (l3 : Int32) (kb : Nat) (nb : Nat) (x : St) (fo : o < NN ∧ kcC o = 1) {post : St → Prop} (hw : wp_Snk_putFixed post o l1 l3 kb nb x) : Met l y_Snk_putFixed (wsOf y_Snk_putFixed b_Snk_putFixed 5 (none)) ({ frames := 4, cells := kb, slots := nb, locals := 242 }) (va_Pc [.ref (ad o), .long l1, .int l3] (PV dC dI cI cB cJ cZ ad stC kcC NN E tM tC kK kV sz x)) (va_Qv (fun (u : St × (Nat → Nat) × Nat) => post u.1) (fun u t => Wd dC dI cI cB cJ cZ u.2.1 stC kcC u.2.2 (va_A (pic ad stC kcC NN cI cB cJ cZ x) sz) u.1 t.heap ∧ NN ≤ u.2.2 ∧ ∀ o : Nat, o < NN → u.2.1 o = ad o) (va_A (pic ad stC kcC NN cI cB cJ cZ x) sz)) kb nb (va_A (pic ad stC kcC NN cI cB cJ cZ x) sz) := by
  refine Met.ofW (cc := b_Snk_putFixed) (maxL := 5) (ret := none) (by decide) rfl ?_
  intro p e s m args below meth c s₁ B hml hv
  obtain ⟨rfl, ⟨hsz, hW0, hK, hN⟩, hE⟩ := hv
  have hx := B.exec
  have hb := B.bytes
  have hr := B.returns
  have hts := atoms_spec B.pre
  have hT : ∀ w ∈ TG, w.before _ s = true := fun w h => hts w (List.mem_cons_of_mem _ h)
  have hown : s.vm.findClass R_Snk = some m.cls := findClass_of_methodNamed B.named
  have hlocks := B.notSynchronized
  subst hsz
  have hW : Wd dC dI cI cB cJ cZ ad stC kcC NN (va_A (pic ad stC kcC NN cI cB cJ cZ x) s.heap.size) x s.heap := ⟨hW0.1, hW0.2.1.self (sz := s.heap.size), hW0.2.2⟩
  generalize hAe : va_A (pic ad stC kcC NN cI cB cJ cZ x) s.heap.size = A at hW hE ⊢
  have hA : ∀ q : Nat, s.heap.size ≤ q → A q := fun q h => by rw [← hAe]; exact Or.inr h
  have hS : va_S A s.heap s.heap [] := va_S.rf
  have hl := lv_entry ([.ref (ad o), .long l1, .int l3]) (n := 5) (Nat.le_of_ble_eq_true rfl)
  rw [lg_entry_eq]
  generalize (lg_sl ([.ref (ad o), .long l1, .int l3]) ++ List.replicate (5 - (lg_sl ([.ref (ad o), .long l1, .int l3])).length) Slot.unset).toArray = ls at hl ⊢
  have hl : lv_has ls 5 [(0, .ref (ad o)), (1, .long l1), (3, .int l3)] := hl
  exact t_Snk_putFixed_e hx hb hml hown hT hK hN hA (Nat.le_refl 4) (Nat.le_refl 242) hE (fun ad1 NN1 cells slots x1 H locs pc ls hd hag hc hs hp hW hS => W.widen (k := kb) (n := nb) hc hs (W.vret hx hb hr (fun t ht hM => ⟨⟨(x1, ad1, NN1), rfl, hp, Wd.back hW ht.symm (fun _ z => z), hag.1, hag.2⟩, hS.F ht⟩) hS.2.2 hd hlocks))  ad NN 0 0 o l1 l3 kb nb x _ _ ls hNN ⟨Nat.le_refl _, fun _ _ => rfl⟩ (Nat.le_of_eq (Nat.zero_add kb)) (Nat.le_of_eq (Nat.zero_add nb)) fo hw hW hS hl
set_option maxRecDepth 100000 in
def j_Wrt_putPlain_131 (post : St → Prop) (rec77 : Nat → Int32 → Nat → Int32 → Int32 → Nat → Nat → St → Prop) (o : Nat) (l1 : Int32) (l2 : Nat) (l3 : Int32) (l4 : Int32) (kb : Nat) (nb : Nat) (x : St) : Prop := rec77 o l1 l2 l3 (l4 + 1) kb nb x
set_option maxHeartbeats 4000000 in
set_option maxRecDepth 100000 in
theorem t_Wrt_putPlain_131 {p : Program} {l : Launch} {e : Env} {R : Room} {s : State} {m : MethodId} {args : Array Value} {below : List Frame} {meth : Method} {c : Code} {Q : State → Prop} {dC : Nat → ClassId} {dI : Nat → Nat → Nat} {cI cB cJ cZ : ClassId} {A : Nat → Prop} {E : Heap} {tM tC : Nat} {kK kV : Nat → Nat} {ad0 : Nat → Nat} {NN0 : Nat} {post : St → Prop} {rec77 : Nat → Int32 → Nat → Int32 → Int32 → Nat → Nat → St → Prop} (hx : p.tables.exec = Jvm.exec) (hb : c.code = b_Wrt_putPlain) (hml : c.maxLocals = 7) (hown : s.vm.findClass R_Wrt = some m.cls) (hT : ∀ w ∈ TG, w.before args s = true) (hK : va_K (dC, dI) CL (TY cI cB cJ cZ) s) (hN : NW s) (hA : ∀ q : Nat, s.heap.size ≤ q → A q) (hRf : 5 ≤ R.frames) (hRl : 270 ≤ R.locals) (hE : CE E tM tC kK kV A s) (hret : ∀ (ad : Nat → Nat) (NN cells slots : Nat) (x : St) (H : Heap) (locs : List Loc) (pc : Nat) (ls : Array Slot), decode b_Wrt_putPlain pc = .ok (.return_, 1) → (NN0 ≤ NN ∧ ∀ o : Nat, o < NN0 → ad o = ad0 o) → cells ≤ R.cells → slots ≤ R.slots → post x → Wd dC dI cI cB cJ cZ ad stC kcC NN A x H → va_S A s.heap H locs → W p l e R s m args below meth c H locs cells slots Q (F0 m pc ls [])) (hrec77 : ∀ (ad : Nat → Nat) (NN cells slots : Nat) (o : Nat) (l1 : Int32) (l2 : Nat) (l3 : Int32) (l4 : Int32) (kb : Nat) (nb : Nat) (x : St) (H : Heap) (locs : List Loc) (ls : Array Slot), (152 ≤ NN) → (NN0 ≤ NN ∧ ∀ o : Nat, o < NN0 → ad o = ad0 o) → (cells + kb ≤ R.cells) → (slots + nb ≤ R.slots) → (o < NN ∧ kcC o = 5) → (l2 < NN ∧ kcC l2 = 22) → rec77 o l1 l2 l3 l4 kb nb x → Wd dC dI cI cB cJ cZ ad stC kcC NN A x H → va_S A s.heap H locs → lv_has ls 7 [(0, .ref (ad o)), (1, .int l1), (2, .ref (ad l2)), (3, .int l3), (4, .int l4)] → W p l e R s m args below meth c H locs cells slots Q (F0 m 77 ls [])) : ∀ (ad : Nat → Nat) (NN cells slots : Nat) (o : Nat) (l1 : Int32) (l2 : Nat) (l3 : Int32) (l4 : Int32) (kb : Nat) (nb : Nat) (x : St) (H : Heap) (locs : List Loc) (ls : Array Slot), (152 ≤ NN) → (NN0 ≤ NN ∧ ∀ o : Nat, o < NN0 → ad o = ad0 o) → (cells + kb ≤ R.cells) → (slots + nb ≤ R.slots) → (o < NN ∧ kcC o = 5) → (l2 < NN ∧ kcC l2 = 22) → j_Wrt_putPlain_131 post rec77 o l1 l2 l3 l4 kb nb x → Wd dC dI cI cB cJ cZ ad stC kcC NN A x H → va_S A s.heap H locs → lv_has ls 7 [(0, .ref (ad o)), (1, .int l1), (2, .ref (ad l2)), (3, .int l3), (4, .int l4)] → W p l e R s m args below meth c H locs cells slots Q (F0 m 131 ls []) := by
  intro ad NN cells slots o l1 l2 l3 l4 kb nb x H locs ls hNN hag hRc hRs fo fl2 hw hW hS hl
  unfold j_Wrt_putPlain_131 at hw
  refine lv_iinc (v := (l4 + 1)) (lv' := [(4, .int (l4 + 1)), (0, .ref (ad o)), (1, .int l1), (2, .ref (ad l2)), (3, .int l3)]) hx hb d_Wrt_putPlain_131 hl (k := 4) rfl rfl (by decide) rfl (fun ls hl => ?_)
  refine lv_goto (tgt := 77) hx hb d_Wrt_putPlain_134 (by decide) ?_
  exact hrec77 ad NN cells slots o l1 l2 l3 (l4 + 1) kb nb x H locs ls hNN hag hRc hRs fo fl2 hw hW hS (lv_sub hl [1, 2, 3, 4, 0] rfl)
set_option maxRecDepth 100000 in
def j_Wrt_putPlain_128 (post : St → Prop) (rec77 : Nat → Int32 → Nat → Int32 → Int32 → Nat → Nat → St → Prop) (o : Nat) (l1 : Int32) (l2 : Nat) (l3 : Int32) (l4 : Int32) (s0 : Int32) (s1 : Int64) (s2 : Nat) (kb : Nat) (nb : Nat) (x : St) : Prop := (∃ k1 n2 k3 n4 : Nat, k1 + k3 = kb ∧ n2 + n4 = nb ∧ wp_Snk_putFixed (fun (x5 : St) => j_Wrt_putPlain_131 post rec77 o l1 l2 l3 l4 k3 n4 x5) s2 s1 s0 k1 n2 x)
set_option maxHeartbeats 4000000 in
set_option maxRecDepth 100000 in
theorem t_Wrt_putPlain_128 {p : Program} {l : Launch} {e : Env} {R : Room} {s : State} {m : MethodId} {args : Array Value} {below : List Frame} {meth : Method} {c : Code} {Q : State → Prop} {dC : Nat → ClassId} {dI : Nat → Nat → Nat} {cI cB cJ cZ : ClassId} {A : Nat → Prop} {E : Heap} {tM tC : Nat} {kK kV : Nat → Nat} {ad0 : Nat → Nat} {NN0 : Nat} {post : St → Prop} {rec77 : Nat → Int32 → Nat → Int32 → Int32 → Nat → Nat → St → Prop} (hx : p.tables.exec = Jvm.exec) (hb : c.code = b_Wrt_putPlain) (hml : c.maxLocals = 7) (hown : s.vm.findClass R_Wrt = some m.cls) (hT : ∀ w ∈ TG, w.before args s = true) (hK : va_K (dC, dI) CL (TY cI cB cJ cZ) s) (hN : NW s) (hA : ∀ q : Nat, s.heap.size ≤ q → A q) (hRf : 5 ≤ R.frames) (hRl : 270 ≤ R.locals) (hE : CE E tM tC kK kV A s) (hret : ∀ (ad : Nat → Nat) (NN cells slots : Nat) (x : St) (H : Heap) (locs : List Loc) (pc : Nat) (ls : Array Slot), decode b_Wrt_putPlain pc = .ok (.return_, 1) → (NN0 ≤ NN ∧ ∀ o : Nat, o < NN0 → ad o = ad0 o) → cells ≤ R.cells → slots ≤ R.slots → post x → Wd dC dI cI cB cJ cZ ad stC kcC NN A x H → va_S A s.heap H locs → W p l e R s m args below meth c H locs cells slots Q (F0 m pc ls [])) (hrec77 : ∀ (ad : Nat → Nat) (NN cells slots : Nat) (o : Nat) (l1 : Int32) (l2 : Nat) (l3 : Int32) (l4 : Int32) (kb : Nat) (nb : Nat) (x : St) (H : Heap) (locs : List Loc) (ls : Array Slot), (152 ≤ NN) → (NN0 ≤ NN ∧ ∀ o : Nat, o < NN0 → ad o = ad0 o) → (cells + kb ≤ R.cells) → (slots + nb ≤ R.slots) → (o < NN ∧ kcC o = 5) → (l2 < NN ∧ kcC l2 = 22) → rec77 o l1 l2 l3 l4 kb nb x → Wd dC dI cI cB cJ cZ ad stC kcC NN A x H → va_S A s.heap H locs → lv_has ls 7 [(0, .ref (ad o)), (1, .int l1), (2, .ref (ad l2)), (3, .int l3), (4, .int l4)] → W p l e R s m args below meth c H locs cells slots Q (F0 m 77 ls [])) : ∀ (ad : Nat → Nat) (NN cells slots : Nat) (o : Nat) (l1 : Int32) (l2 : Nat) (l3 : Int32) (l4 : Int32) (s0 : Int32) (s1 : Int64) (s2 : Nat) (kb : Nat) (nb : Nat) (x : St) (H : Heap) (locs : List Loc) (ls : Array Slot), (152 ≤ NN) → (NN0 ≤ NN ∧ ∀ o : Nat, o < NN0 → ad o = ad0 o) → (cells + kb ≤ R.cells) → (slots + nb ≤ R.slots) → (o < NN ∧ kcC o = 5) → (l2 < NN ∧ kcC l2 = 22) → (s2 < NN ∧ kcC s2 = 1) → j_Wrt_putPlain_128 post rec77 o l1 l2 l3 l4 s0 s1 s2 kb nb x → Wd dC dI cI cB cJ cZ ad stC kcC NN A x H → va_S A s.heap H locs → lv_has ls 7 [(0, .ref (ad o)), (1, .int l1), (2, .ref (ad l2)), (3, .int l3), (4, .int l4)] → W p l e R s m args below meth c H locs cells slots Q (F0 m 128 ls [.int s0, .long s1, .ref (ad s2)]) := by
  intro ad NN cells slots o l1 l2 l3 l4 s0 s1 s2 kb nb x H locs ls hNN hag hRc hRs fo fl2 fs2 hw hW hS hl
  unfold j_Wrt_putPlain_128 at hw
  obtain ⟨k1, n2, k3, n4, ek1, en2, hw⟩ := hw
  have hF := hW.free hS hA
  refine va_callv (va_runV (C := R_Snk) (As := [.long s1, .int s0]) (rest := []) ⟨hx, hb, hml, hown, hT⟩ (k_Snk_putFixed l dC dI cI cB cJ cZ ad NN E tM tC kK kV hNN H.size s2 s1 s0 k1 n2 x fs2 hw) ⟨callB_of 2 hT (gw_in w_5_188) rfl rfl rfl (hT _ w_1_2) (hT _ w_5_185) (by decide +kernel) ⟨Nat.le_trans (by decide) hRf, Nat.le_trans (by decide) hRl⟩, hT _ w_5_186, hT _ w_5_187⟩ ⟨PV.blind, va_recv hK hW.1 (ci := 1) (q0 := s2) rfl (pic_obj fs2.1 fs2.2 (by decide)), PV.at _ hW hK hN hE hS hF⟩ rfl rfl hl.1 rfl (lv_room (Nat.le_of_ble_eq_true rfl)) d_Wrt_putPlain_128 ⟨show cells + k1 ≤ R.cells by omega, show slots + n2 ≤ R.slots by omega⟩) hS (fun q _ h => hF q h) hF (fun  x5 t H locs ht hvm hw hB hz1 hk1 hS => ?_)
  obtain ⟨x5, ad, NN⟩ := x5
  obtain ⟨hB, hle, hg⟩ := hB
  try dsimp only at hw hB hle hg
  have hW := Wd.back hB ht hF
  rw [← hg o fo.1] at hl
  rw [← hg l2 fl2.1] at hl
  have fl2 : l2 < NN ∧ kcC l2 = 22 := ⟨Nat.lt_of_lt_of_le fl2.1 hle, fl2.2⟩
  have fo : o < NN ∧ kcC o = 5 := ⟨Nat.lt_of_lt_of_le fo.1 hle, fo.2⟩
  have fs2 : s2 < NN ∧ kcC s2 = 1 := ⟨Nat.lt_of_lt_of_le fs2.1 hle, fs2.2⟩
  have hag : NN0 ≤ NN ∧ ∀ o : Nat, o < NN0 → ad o = ad0 o := ⟨Nat.le_trans hag.1 hle, fun o h => (hg o (Nat.lt_of_lt_of_le h hag.1)).trans (hag.2 o h)⟩
  have hNN : 152 ≤ NN := Nat.le_trans hNN hle
  clear hg hle
  obtain ⟨cells, ec⟩ : ∃ z, z = cells + k1 := ⟨_, rfl⟩
  obtain ⟨slots, es⟩ : ∃ z, z = slots + n2 := ⟨_, rfl⟩
  rw [← ec, ← es]
  have hRc : cells + k3 ≤ R.cells := by omega
  have hRs : slots + n4 ≤ R.slots := by omega
  clear ec es hB ht hF hz1 hk1 hvm ek1 en2
  exact t_Wrt_putPlain_131 hx hb hml hown hT hK hN hA hRf hRl hE hret hrec77 ad NN cells slots o l1 l2 l3 l4 k3 n4 x5 H locs ls hNN hag hRc hRs fo fl2 hw hW hS (lv_sub hl [0, 1, 2, 3, 4] rfl)
set_option maxRecDepth 100000 in
def j_Wrt_putPlain_77 (post : St → Prop) (rec77 : Nat → Int32 → Nat → Int32 → Int32 → Nat → Nat → St → Prop) (o : Nat) (l1 : Int32) (l2 : Nat) (l3 : Int32) (l4 : Int32) (kb : Nat) (nb : Nat) (x : St) : Prop := ((l3 ≤ l4 → post x) ∧ (¬ l3 ≤ l4 → ((¬ l1 = 3 → (∃ q8 : Nat, fR x o 4 = some q8 ∧ (vp_in l4 (fN x l2) ∧ ((¬ l1 = 1 → j_Wrt_putPlain_128 post rec77 o l1 l2 l3 l4 8 (rL x l2 l4) q8 kb nb x) ∧ (l1 = 1 → j_Wrt_putPlain_128 post rec77 o l1 l2 l3 l4 4 (rL x l2 l4) q8 kb nb x))))) ∧ (l1 = 3 → (∃ q10 : Nat, fR x o 4 = some q10 ∧ (∃ q11 : Nat, fR x o 6 = some q11 ∧ (vp_in l4 (fN x l2) ∧ (∃ k12 n13 k14 n15 : Nat, k12 + k14 = kb ∧ n13 + n15 = nb ∧ wp_Snk_putText (fun (x16 : St) => j_Wrt_putPlain_131 post rec77 o l1 l2 l3 l4 k14 n15 x16) q10 (stC q11 12) (rL x l2 l4) k12 n13 x))))))))
set_option maxHeartbeats 4000000 in
set_option maxRecDepth 100000 in
theorem t_Wrt_putPlain_77 {p : Program} {l : Launch} {e : Env} {R : Room} {s : State} {m : MethodId} {args : Array Value} {below : List Frame} {meth : Method} {c : Code} {Q : State → Prop} {dC : Nat → ClassId} {dI : Nat → Nat → Nat} {cI cB cJ cZ : ClassId} {A : Nat → Prop} {E : Heap} {tM tC : Nat} {kK kV : Nat → Nat} {ad0 : Nat → Nat} {NN0 : Nat} {post : St → Prop} {rec77 : Nat → Int32 → Nat → Int32 → Int32 → Nat → Nat → St → Prop} (hx : p.tables.exec = Jvm.exec) (hb : c.code = b_Wrt_putPlain) (hml : c.maxLocals = 7) (hown : s.vm.findClass R_Wrt = some m.cls) (hT : ∀ w ∈ TG, w.before args s = true) (hK : va_K (dC, dI) CL (TY cI cB cJ cZ) s) (hN : NW s) (hA : ∀ q : Nat, s.heap.size ≤ q → A q) (hRf : 5 ≤ R.frames) (hRl : 270 ≤ R.locals) (hE : CE E tM tC kK kV A s) (hret : ∀ (ad : Nat → Nat) (NN cells slots : Nat) (x : St) (H : Heap) (locs : List Loc) (pc : Nat) (ls : Array Slot), decode b_Wrt_putPlain pc = .ok (.return_, 1) → (NN0 ≤ NN ∧ ∀ o : Nat, o < NN0 → ad o = ad0 o) → cells ≤ R.cells → slots ≤ R.slots → post x → Wd dC dI cI cB cJ cZ ad stC kcC NN A x H → va_S A s.heap H locs → W p l e R s m args below meth c H locs cells slots Q (F0 m pc ls [])) (hrec77 : ∀ (ad : Nat → Nat) (NN cells slots : Nat) (o : Nat) (l1 : Int32) (l2 : Nat) (l3 : Int32) (l4 : Int32) (kb : Nat) (nb : Nat) (x : St) (H : Heap) (locs : List Loc) (ls : Array Slot), (152 ≤ NN) → (NN0 ≤ NN ∧ ∀ o : Nat, o < NN0 → ad o = ad0 o) → (cells + kb ≤ R.cells) → (slots + nb ≤ R.slots) → (o < NN ∧ kcC o = 5) → (l2 < NN ∧ kcC l2 = 22) → rec77 o l1 l2 l3 l4 kb nb x → Wd dC dI cI cB cJ cZ ad stC kcC NN A x H → va_S A s.heap H locs → lv_has ls 7 [(0, .ref (ad o)), (1, .int l1), (2, .ref (ad l2)), (3, .int l3), (4, .int l4)] → W p l e R s m args below meth c H locs cells slots Q (F0 m 77 ls [])) : ∀ (ad : Nat → Nat) (NN cells slots : Nat) (o : Nat) (l1 : Int32) (l2 : Nat) (l3 : Int32) (l4 : Int32) (kb : Nat) (nb : Nat) (x : St) (H : Heap) (locs : List Loc) (ls : Array Slot), (152 ≤ NN) → (NN0 ≤ NN ∧ ∀ o : Nat, o < NN0 → ad o = ad0 o) → (cells + kb ≤ R.cells) → (slots + nb ≤ R.slots) → (o < NN ∧ kcC o = 5) → (l2 < NN ∧ kcC l2 = 22) → j_Wrt_putPlain_77 post rec77 o l1 l2 l3 l4 kb nb x → Wd dC dI cI cB cJ cZ ad stC kcC NN A x H → va_S A s.heap H locs → lv_has ls 7 [(0, .ref (ad o)), (1, .int l1), (2, .ref (ad l2)), (3, .int l3), (4, .int l4)] → W p l e R s m args below meth c H locs cells slots Q (F0 m 77 ls []) := by
  intro ad NN cells slots o l1 l2 l3 l4 kb nb x H locs ls hNN hag hRc hRs fo fl2 hw hW hS hl
  unfold j_Wrt_putPlain_77 at hw
  refine lv_iload hx hb d_Wrt_putPlain_77 (lv_at hl 4 rfl) ?_
  refine lv_iload_n hx hb d_Wrt_putPlain_79 rfl (lv_at hl 3 rfl) ?_
  refine lv_icmp_ge (tgt := 137) hx hb d_Wrt_putPlain_80 (by decide) (fun c6 => ?_) (fun c6 => ?_)
  · have hw := hw.1 c6
    exact hret ad NN cells slots x H locs 137 ls d_Wrt_putPlain_137 hag (Nat.le_trans (Nat.le_add_right _ _) hRc) (Nat.le_trans (Nat.le_add_right _ _) hRs) hw hW hS
  · have hw := hw.2 c6
    refine lv_iload_n hx hb d_Wrt_putPlain_83 rfl (lv_at hl 1 rfl) ?_
    refine lv_iconst (v := 3) hx hb d_Wrt_putPlain_84 (by decide) ?_
    refine lv_icmp_ne (tgt := 109) hx hb d_Wrt_putPlain_85 (by decide) (fun c7 => ?_) (fun c7 => ?_)
    · have hw := hw.1 c7
      refine lv_aload_n hx hb d_Wrt_putPlain_109 rfl (lv_at hl 0 rfl) ?_
      obtain ⟨q8, hq8, hw⟩ := hw
      refine w_getr (q := q8) (k := 4) (t := 5) (C := R_Wrt) (T := F_Wrt) (N := 20) hx hb hT hown hK hW fo.1 fo.2 (by decide) in_Wrt rfl rfl (by decide) rfl fr_Wrt_4 w_2_55 d_Wrt_putPlain_110 hq8 (fun aq8 bq8 => ?_)
      have fq8 : q8 < NN ∧ kcC q8 = 1 := ⟨aq8, bq8⟩
      refine lv_aload_n hx hb d_Wrt_putPlain_113 rfl (lv_at hl 2 rfl) ?_
      refine lv_iload hx hb d_Wrt_putPlain_114 (lv_at hl 4 rfl) ?_
      obtain ⟨hi, hw⟩ := hw
      refine w_lald (o := l2) hx hb hK hW fl2.1 fl2.2 hi d_Wrt_putPlain_116 ?_
      refine lv_iload_n hx hb d_Wrt_putPlain_117 rfl (lv_at hl 1 rfl) ?_
      refine lv_iconst (v := 1) hx hb d_Wrt_putPlain_118 (by decide) ?_
      refine lv_icmp_ne (tgt := 126) hx hb d_Wrt_putPlain_119 (by decide) (fun c9 => ?_) (fun c9 => ?_)
      · have hw := hw.1 c9
        refine lv_bipush (v := 8) hx hb d_Wrt_putPlain_126 (by decide) ?_
        exact t_Wrt_putPlain_128 hx hb hml hown hT hK hN hA hRf hRl hE hret hrec77 ad NN cells slots o l1 l2 l3 l4 8 (rL x l2 l4) q8 kb nb x H locs ls hNN hag hRc hRs fo fl2 fq8 hw hW hS (lv_sub hl [0, 1, 2, 3, 4] rfl)
      · have hw := hw.2 c9
        refine lv_iconst (v := 4) hx hb d_Wrt_putPlain_122 (by decide) ?_
        refine lv_goto (tgt := 128) hx hb d_Wrt_putPlain_123 (by decide) ?_
        exact t_Wrt_putPlain_128 hx hb hml hown hT hK hN hA hRf hRl hE hret hrec77 ad NN cells slots o l1 l2 l3 l4 4 (rL x l2 l4) q8 kb nb x H locs ls hNN hag hRc hRs fo fl2 fq8 hw hW hS (lv_sub hl [0, 1, 2, 3, 4] rfl)
    · have hw := hw.2 c7
      refine lv_aload_n hx hb d_Wrt_putPlain_88 rfl (lv_at hl 0 rfl) ?_
      obtain ⟨q10, hq10, hw⟩ := hw
      refine w_getr (q := q10) (k := 4) (t := 5) (C := R_Wrt) (T := F_Wrt) (N := 20) hx hb hT hown hK hW fo.1 fo.2 (by decide) in_Wrt rfl rfl (by decide) rfl fr_Wrt_4 w_2_55 d_Wrt_putPlain_89 hq10 (fun aq10 bq10 => ?_)
      have fq10 : q10 < NN ∧ kcC q10 = 1 := ⟨aq10, bq10⟩
      refine lv_aload_n hx hb d_Wrt_putPlain_92 rfl (lv_at hl 0 rfl) ?_
      obtain ⟨q11, hq11, hw⟩ := hw
      refine w_getr (q := q11) (k := 6) (t := 5) (C := R_Wrt) (T := F_Wrt) (N := 20) hx hb hT hown hK hW fo.1 fo.2 (by decide) in_Wrt rfl rfl (by decide) rfl fr_Wrt_6 w_2_57 d_Wrt_putPlain_93 hq11 (fun aq11 bq11 => ?_)
      have fq11 : q11 < NN ∧ kcC q11 = 4 := ⟨aq11, bq11⟩
      refine w_getf (q := (stC q11 12)) (k := 12) (t := 4) (C := R_Rec) (T := F_Rec) (N := 15) hx hb hT hown hK hW fq11.1 fq11.2 (by decide) in_Rec rfl rfl (by decide) rfl fr_Rec_12 w_2_7 d_Wrt_putPlain_96 rfl ?_
      refine lv_aload_n hx hb d_Wrt_putPlain_99 rfl (lv_at hl 2 rfl) ?_
      refine lv_iload hx hb d_Wrt_putPlain_100 (lv_at hl 4 rfl) ?_
      obtain ⟨hi, hw⟩ := hw
      refine w_lald (o := l2) hx hb hK hW fl2.1 fl2.2 hi d_Wrt_putPlain_102 ?_
      obtain ⟨k12, n13, k14, n15, ek12, en13, hw⟩ := hw
      have hF := hW.free hS hA
      refine va_callv (va_runV (C := R_Snk) (As := [.ref (ad (stC q11 12)), .long (rL x l2 l4)]) (rest := []) ⟨hx, hb, hml, hown, hT⟩ (k_Snk_putText l dC dI cI cB cJ cZ ad NN E tM tC kK kV hNN H.size q10 (stC q11 12) (rL x l2 l4) k12 n13 x fq10 (st_ty hNN fq11.1 fq11.2 rfl) hw) ⟨callB_of 2 hT (gw_in w_5_178) rfl rfl rfl (hT _ w_1_2) (hT _ w_5_175) (by decide +kernel) ⟨Nat.le_trans (by decide) hRf, Nat.le_trans (by decide) hRl⟩, hT _ w_5_176, hT _ w_5_177⟩ ⟨PV.blind, va_recv hK hW.1 (ci := 1) (q0 := q10) rfl (pic_obj fq10.1 fq10.2 (by decide)), PV.at _ hW hK hN hE hS hF⟩ rfl rfl hl.1 rfl (lv_room (Nat.le_of_ble_eq_true rfl)) d_Wrt_putPlain_103 ⟨show cells + k12 ≤ R.cells by omega, show slots + n13 ≤ R.slots by omega⟩) hS (fun q _ h => hF q h) hF (fun  x16 t H locs ht hvm hw hB hz1 hk1 hS => ?_)
      obtain ⟨x16, ad, NN⟩ := x16
      obtain ⟨hB, hle, hg⟩ := hB
      try dsimp only at hw hB hle hg
      have hW := Wd.back hB ht hF
      rw [← hg o fo.1] at hl
      rw [← hg l2 fl2.1] at hl
      have fl2 : l2 < NN ∧ kcC l2 = 22 := ⟨Nat.lt_of_lt_of_le fl2.1 hle, fl2.2⟩
      have fo : o < NN ∧ kcC o = 5 := ⟨Nat.lt_of_lt_of_le fo.1 hle, fo.2⟩
      have fq10 : q10 < NN ∧ kcC q10 = 1 := ⟨Nat.lt_of_lt_of_le fq10.1 hle, fq10.2⟩
      have fq11 : q11 < NN ∧ kcC q11 = 4 := ⟨Nat.lt_of_lt_of_le fq11.1 hle, fq11.2⟩
      have hag : NN0 ≤ NN ∧ ∀ o : Nat, o < NN0 → ad o = ad0 o := ⟨Nat.le_trans hag.1 hle, fun o h => (hg o (Nat.lt_of_lt_of_le h hag.1)).trans (hag.2 o h)⟩
      have hNN : 152 ≤ NN := Nat.le_trans hNN hle
      clear hg hle
      obtain ⟨cells, ec⟩ : ∃ z, z = cells + k12 := ⟨_, rfl⟩
      obtain ⟨slots, es⟩ : ∃ z, z = slots + n13 := ⟨_, rfl⟩
      rw [← ec, ← es]
      have hRc : cells + k14 ≤ R.cells := by omega
      have hRs : slots + n15 ≤ R.slots := by omega
      clear ec es hB ht hF hz1 hk1 hvm ek12 en13
      refine lv_goto (tgt := 131) hx hb d_Wrt_putPlain_106 (by decide) ?_
      exact t_Wrt_putPlain_131 hx hb hml hown hT hK hN hA hRf hRl hE hret hrec77 ad NN cells slots o l1 l2 l3 l4 k14 n15 x16 H locs ls hNN hag hRc hRs fo fl2 hw hW hS (lv_sub hl [0, 1, 2, 3, 4] rfl)
def wl_Wrt_putPlain_77 (post : St → Prop) : Nat → Nat → Int32 → Nat → Int32 → Int32 → Nat → Nat → St → Prop
  | 0 => fun _ _ _ _ _ _ _ _ => False
  | n + 1 => j_Wrt_putPlain_77 post (wl_Wrt_putPlain_77 post n)
set_option maxHeartbeats 4000000 in
set_option maxRecDepth 100000 in
theorem tl_Wrt_putPlain_77 {p : Program} {l : Launch} {e : Env} {R : Room} {s : State} {m : MethodId} {args : Array Value} {below : List Frame} {meth : Method} {c : Code} {Q : State → Prop} {dC : Nat → ClassId} {dI : Nat → Nat → Nat} {cI cB cJ cZ : ClassId} {A : Nat → Prop} {E : Heap} {tM tC : Nat} {kK kV : Nat → Nat} {ad0 : Nat → Nat} {NN0 : Nat} {post : St → Prop} (hx : p.tables.exec = Jvm.exec) (hb : c.code = b_Wrt_putPlain) (hml : c.maxLocals = 7) (hown : s.vm.findClass R_Wrt = some m.cls) (hT : ∀ w ∈ TG, w.before args s = true) (hK : va_K (dC, dI) CL (TY cI cB cJ cZ) s) (hN : NW s) (hA : ∀ q : Nat, s.heap.size ≤ q → A q) (hRf : 5 ≤ R.frames) (hRl : 270 ≤ R.locals) (hE : CE E tM tC kK kV A s) (hret : ∀ (ad : Nat → Nat) (NN cells slots : Nat) (x : St) (H : Heap) (locs : List Loc) (pc : Nat) (ls : Array Slot), decode b_Wrt_putPlain pc = .ok (.return_, 1) → (NN0 ≤ NN ∧ ∀ o : Nat, o < NN0 → ad o = ad0 o) → cells ≤ R.cells → slots ≤ R.slots → post x → Wd dC dI cI cB cJ cZ ad stC kcC NN A x H → va_S A s.heap H locs → W p l e R s m args below meth c H locs cells slots Q (F0 m pc ls []))  : ∀ n : Nat, ∀ (ad : Nat → Nat) (NN cells slots : Nat) (o : Nat) (l1 : Int32) (l2 : Nat) (l3 : Int32) (l4 : Int32) (kb : Nat) (nb : Nat) (x : St) (H : Heap) (locs : List Loc) (ls : Array Slot), (152 ≤ NN) → (NN0 ≤ NN ∧ ∀ o : Nat, o < NN0 → ad o = ad0 o) → (cells + kb ≤ R.cells) → (slots + nb ≤ R.slots) → (o < NN ∧ kcC o = 5) → (l2 < NN ∧ kcC l2 = 22) → wl_Wrt_putPlain_77 post n o l1 l2 l3 l4 kb nb x → Wd dC dI cI cB cJ cZ ad stC kcC NN A x H → va_S A s.heap H locs → lv_has ls 7 [(0, .ref (ad o)), (1, .int l1), (2, .ref (ad l2)), (3, .int l3), (4, .int l4)] → W p l e R s m args below meth c H locs cells slots Q (F0 m 77 ls []) := by
  intro n
  induction n with
  | zero => intro ad NN cells slots o l1 l2 l3 l4 kb nb x H locs ls hNN hag hRc hRs fo fl2 hw; exact hw.elim
  | succ n ih => intro ad NN cells slots o l1 l2 l3 l4 kb nb x H locs ls hNN hag hRc hRs fo fl2 hw hW hS hl; exact t_Wrt_putPlain_77 hx hb hml hown hT hK hN hA hRf hRl hE hret  ih ad NN cells slots o l1 l2 l3 l4 kb nb x H locs ls hNN hag hRc hRs fo fl2 hw hW hS hl
set_option maxRecDepth 100000 in
def j_Wrt_putPlain_58 (post : St → Prop) (rec7 : Nat → Int32 → Nat → Int32 → Int32 → Nat → Nat → St → Prop) (o : Nat) (l1 : Int32) (l2 : Nat) (l3 : Int32) (l4 : Int32) (l5 : Int32) (l6 : Int32) (kb : Nat) (nb : Nat) (x : St) : Prop := (∃ q17 : Nat, fR x o 4 = some q17 ∧ (∃ k18 n19 k20 n21 : Nat, k18 + k20 = kb ∧ n19 + n21 = nb ∧ wp_Snk_put (fun (x22 : St) => rec7 o l1 l2 l3 (l4 + 8) k20 n21 x22) q17 l5 k18 n19 x))
set_option maxHeartbeats 4000000 in
set_option maxRecDepth 100000 in
theorem t_Wrt_putPlain_58 {p : Program} {l : Launch} {e : Env} {R : Room} {s : State} {m : MethodId} {args : Array Value} {below : List Frame} {meth : Method} {c : Code} {Q : State → Prop} {dC : Nat → ClassId} {dI : Nat → Nat → Nat} {cI cB cJ cZ : ClassId} {A : Nat → Prop} {E : Heap} {tM tC : Nat} {kK kV : Nat → Nat} {ad0 : Nat → Nat} {NN0 : Nat} {post : St → Prop} {rec7 : Nat → Int32 → Nat → Int32 → Int32 → Nat → Nat → St → Prop} (hx : p.tables.exec = Jvm.exec) (hb : c.code = b_Wrt_putPlain) (hml : c.maxLocals = 7) (hown : s.vm.findClass R_Wrt = some m.cls) (hT : ∀ w ∈ TG, w.before args s = true) (hK : va_K (dC, dI) CL (TY cI cB cJ cZ) s) (hN : NW s) (hA : ∀ q : Nat, s.heap.size ≤ q → A q) (hRf : 5 ≤ R.frames) (hRl : 270 ≤ R.locals) (hE : CE E tM tC kK kV A s) (hret : ∀ (ad : Nat → Nat) (NN cells slots : Nat) (x : St) (H : Heap) (locs : List Loc) (pc : Nat) (ls : Array Slot), decode b_Wrt_putPlain pc = .ok (.return_, 1) → (NN0 ≤ NN ∧ ∀ o : Nat, o < NN0 → ad o = ad0 o) → cells ≤ R.cells → slots ≤ R.slots → post x → Wd dC dI cI cB cJ cZ ad stC kcC NN A x H → va_S A s.heap H locs → W p l e R s m args below meth c H locs cells slots Q (F0 m pc ls [])) (hrec7 : ∀ (ad : Nat → Nat) (NN cells slots : Nat) (o : Nat) (l1 : Int32) (l2 : Nat) (l3 : Int32) (l4 : Int32) (kb : Nat) (nb : Nat) (x : St) (H : Heap) (locs : List Loc) (ls : Array Slot), (152 ≤ NN) → (NN0 ≤ NN ∧ ∀ o : Nat, o < NN0 → ad o = ad0 o) → (cells + kb ≤ R.cells) → (slots + nb ≤ R.slots) → (o < NN ∧ kcC o = 5) → (l2 < NN ∧ kcC l2 = 22) → rec7 o l1 l2 l3 l4 kb nb x → Wd dC dI cI cB cJ cZ ad stC kcC NN A x H → va_S A s.heap H locs → lv_has ls 7 [(0, .ref (ad o)), (1, .int l1), (2, .ref (ad l2)), (3, .int l3), (4, .int l4)] → W p l e R s m args below meth c H locs cells slots Q (F0 m 7 ls [])) : ∀ (ad : Nat → Nat) (NN cells slots : Nat) (o : Nat) (l1 : Int32) (l2 : Nat) (l3 : Int32) (l4 : Int32) (l5 : Int32) (l6 : Int32) (kb : Nat) (nb : Nat) (x : St) (H : Heap) (locs : List Loc) (ls : Array Slot), (152 ≤ NN) → (NN0 ≤ NN ∧ ∀ o : Nat, o < NN0 → ad o = ad0 o) → (cells + kb ≤ R.cells) → (slots + nb ≤ R.slots) → (o < NN ∧ kcC o = 5) → (l2 < NN ∧ kcC l2 = 22) → j_Wrt_putPlain_58 post rec7 o l1 l2 l3 l4 l5 l6 kb nb x → Wd dC dI cI cB cJ cZ ad stC kcC NN A x H → va_S A s.heap H locs → lv_has ls 7 [(0, .ref (ad o)), (1, .int l1), (2, .ref (ad l2)), (3, .int l3), (4, .int l4), (5, .int l5), (6, .int l6)] → W p l e R s m args below meth c H locs cells slots Q (F0 m 58 ls []) := by
  intro ad NN cells slots o l1 l2 l3 l4 l5 l6 kb nb x H locs ls hNN hag hRc hRs fo fl2 hw hW hS hl
  unfold j_Wrt_putPlain_58 at hw
  refine lv_aload_n hx hb d_Wrt_putPlain_58 rfl (lv_at hl 0 rfl) ?_
  obtain ⟨q17, hq17, hw⟩ := hw
  refine w_getr (q := q17) (k := 4) (t := 5) (C := R_Wrt) (T := F_Wrt) (N := 20) hx hb hT hown hK hW fo.1 fo.2 (by decide) in_Wrt rfl rfl (by decide) rfl fr_Wrt_4 w_2_55 d_Wrt_putPlain_59 hq17 (fun aq17 bq17 => ?_)
  have fq17 : q17 < NN ∧ kcC q17 = 1 := ⟨aq17, bq17⟩
  refine lv_iload hx hb d_Wrt_putPlain_62 (lv_at hl 5 rfl) ?_
  obtain ⟨k18, n19, k20, n21, ek18, en19, hw⟩ := hw
  have hF := hW.free hS hA
  refine va_callv (va_runV (C := R_Snk) (As := [.int l5]) (rest := []) ⟨hx, hb, hml, hown, hT⟩ (k_Snk_put l dC dI cI cB cJ cZ ad NN E tM tC kK kV hNN H.size q17 l5 k18 n19 x fq17 hw) ⟨callB_of 1 hT (gw_in w_4_52) rfl rfl rfl (hT _ w_1_2) (hT _ w_5_145) (by decide +kernel) ⟨Nat.le_trans (by decide) hRf, Nat.le_trans (by decide) hRl⟩, hT _ w_4_50, hT _ w_4_51⟩ ⟨PV.blind, va_recv hK hW.1 (ci := 1) (q0 := q17) rfl (pic_obj fq17.1 fq17.2 (by decide)), PV.at _ hW hK hN hE hS hF⟩ rfl rfl hl.1 rfl (lv_room (Nat.le_of_ble_eq_true rfl)) d_Wrt_putPlain_64 ⟨show cells + k18 ≤ R.cells by omega, show slots + n19 ≤ R.slots by omega⟩) hS (fun q _ h => hF q h) hF (fun  x22 t H locs ht hvm hw hB hz1 hk1 hS => ?_)
  obtain ⟨x22, ad, NN⟩ := x22
  obtain ⟨hB, hle, hg⟩ := hB
  try dsimp only at hw hB hle hg
  have hW := Wd.back hB ht hF
  rw [← hg o fo.1] at hl
  rw [← hg l2 fl2.1] at hl
  have fl2 : l2 < NN ∧ kcC l2 = 22 := ⟨Nat.lt_of_lt_of_le fl2.1 hle, fl2.2⟩
  have fo : o < NN ∧ kcC o = 5 := ⟨Nat.lt_of_lt_of_le fo.1 hle, fo.2⟩
  have fq17 : q17 < NN ∧ kcC q17 = 1 := ⟨Nat.lt_of_lt_of_le fq17.1 hle, fq17.2⟩
  have hag : NN0 ≤ NN ∧ ∀ o : Nat, o < NN0 → ad o = ad0 o := ⟨Nat.le_trans hag.1 hle, fun o h => (hg o (Nat.lt_of_lt_of_le h hag.1)).trans (hag.2 o h)⟩
  have hNN : 152 ≤ NN := Nat.le_trans hNN hle
  clear hg hle
  obtain ⟨cells, ec⟩ : ∃ z, z = cells + k18 := ⟨_, rfl⟩
  obtain ⟨slots, es⟩ : ∃ z, z = slots + n19 := ⟨_, rfl⟩
  rw [← ec, ← es]
  have hRc : cells + k20 ≤ R.cells := by omega
  have hRs : slots + n21 ≤ R.slots := by omega
  clear ec es hB ht hF hz1 hk1 hvm ek18 en19
  refine lv_iinc (v := (l4 + 8)) (lv' := [(4, .int (l4 + 8)), (0, .ref (ad o)), (1, .int l1), (2, .ref (ad l2)), (3, .int l3), (5, .int l5), (6, .int l6)]) hx hb d_Wrt_putPlain_67 hl (k := 4) rfl rfl (by decide) rfl (fun ls hl => ?_)
  refine lv_goto (tgt := 7) hx hb d_Wrt_putPlain_70 (by decide) ?_
  exact hrec7 ad NN cells slots o l1 l2 l3 (l4 + 8) k20 n21 x22 H locs ls hNN hag hRc hRs fo fl2 hw hW hS (lv_sub hl [1, 2, 3, 4, 0] rfl)
set_option maxRecDepth 100000 in
def j_Wrt_putPlain_20 (post : St → Prop) (rec7 : Nat → Int32 → Nat → Int32 → Int32 → Nat → Nat → St → Prop) (rec20 : Nat → Int32 → Nat → Int32 → Int32 → Int32 → Int32 → Nat → Nat → St → Prop) (o : Nat) (l1 : Int32) (l2 : Nat) (l3 : Int32) (l4 : Int32) (l5 : Int32) (l6 : Int32) (kb : Nat) (nb : Nat) (x : St) : Prop := (((l4 + 8) ≤ l6 → j_Wrt_putPlain_58 post rec7 o l1 l2 l3 l4 l5 l6 kb nb x) ∧ (¬ (l4 + 8) ≤ l6 → ((l3 ≤ l6 → j_Wrt_putPlain_58 post rec7 o l1 l2 l3 l4 l5 l6 kb nb x) ∧ (¬ l3 ≤ l6 → (vp_in l6 (fN x l2) ∧ (∀ v25 : Int32, v25 = (l5 ||| (((rL x l2 l6) : Int64).toInt32 <<< ((l6 - l4) &&& 31))) → rec20 o l1 l2 l3 l4 v25 (l6 + 1) kb nb x))))))
set_option maxHeartbeats 4000000 in
set_option maxRecDepth 100000 in
theorem t_Wrt_putPlain_20 {p : Program} {l : Launch} {e : Env} {R : Room} {s : State} {m : MethodId} {args : Array Value} {below : List Frame} {meth : Method} {c : Code} {Q : State → Prop} {dC : Nat → ClassId} {dI : Nat → Nat → Nat} {cI cB cJ cZ : ClassId} {A : Nat → Prop} {E : Heap} {tM tC : Nat} {kK kV : Nat → Nat} {ad0 : Nat → Nat} {NN0 : Nat} {post : St → Prop} {rec7 : Nat → Int32 → Nat → Int32 → Int32 → Nat → Nat → St → Prop} {rec20 : Nat → Int32 → Nat → Int32 → Int32 → Int32 → Int32 → Nat → Nat → St → Prop} (hx : p.tables.exec = Jvm.exec) (hb : c.code = b_Wrt_putPlain) (hml : c.maxLocals = 7) (hown : s.vm.findClass R_Wrt = some m.cls) (hT : ∀ w ∈ TG, w.before args s = true) (hK : va_K (dC, dI) CL (TY cI cB cJ cZ) s) (hN : NW s) (hA : ∀ q : Nat, s.heap.size ≤ q → A q) (hRf : 5 ≤ R.frames) (hRl : 270 ≤ R.locals) (hE : CE E tM tC kK kV A s) (hret : ∀ (ad : Nat → Nat) (NN cells slots : Nat) (x : St) (H : Heap) (locs : List Loc) (pc : Nat) (ls : Array Slot), decode b_Wrt_putPlain pc = .ok (.return_, 1) → (NN0 ≤ NN ∧ ∀ o : Nat, o < NN0 → ad o = ad0 o) → cells ≤ R.cells → slots ≤ R.slots → post x → Wd dC dI cI cB cJ cZ ad stC kcC NN A x H → va_S A s.heap H locs → W p l e R s m args below meth c H locs cells slots Q (F0 m pc ls [])) (hrec7 : ∀ (ad : Nat → Nat) (NN cells slots : Nat) (o : Nat) (l1 : Int32) (l2 : Nat) (l3 : Int32) (l4 : Int32) (kb : Nat) (nb : Nat) (x : St) (H : Heap) (locs : List Loc) (ls : Array Slot), (152 ≤ NN) → (NN0 ≤ NN ∧ ∀ o : Nat, o < NN0 → ad o = ad0 o) → (cells + kb ≤ R.cells) → (slots + nb ≤ R.slots) → (o < NN ∧ kcC o = 5) → (l2 < NN ∧ kcC l2 = 22) → rec7 o l1 l2 l3 l4 kb nb x → Wd dC dI cI cB cJ cZ ad stC kcC NN A x H → va_S A s.heap H locs → lv_has ls 7 [(0, .ref (ad o)), (1, .int l1), (2, .ref (ad l2)), (3, .int l3), (4, .int l4)] → W p l e R s m args below meth c H locs cells slots Q (F0 m 7 ls [])) (hrec20 : ∀ (ad : Nat → Nat) (NN cells slots : Nat) (o : Nat) (l1 : Int32) (l2 : Nat) (l3 : Int32) (l4 : Int32) (l5 : Int32) (l6 : Int32) (kb : Nat) (nb : Nat) (x : St) (H : Heap) (locs : List Loc) (ls : Array Slot), (152 ≤ NN) → (NN0 ≤ NN ∧ ∀ o : Nat, o < NN0 → ad o = ad0 o) → (cells + kb ≤ R.cells) → (slots + nb ≤ R.slots) → (o < NN ∧ kcC o = 5) → (l2 < NN ∧ kcC l2 = 22) → rec20 o l1 l2 l3 l4 l5 l6 kb nb x → Wd dC dI cI cB cJ cZ ad stC kcC NN A x H → va_S A s.heap H locs → lv_has ls 7 [(0, .ref (ad o)), (1, .int l1), (2, .ref (ad l2)), (3, .int l3), (4, .int l4), (5, .int l5), (6, .int l6)] → W p l e R s m args below meth c H locs cells slots Q (F0 m 20 ls [])) : ∀ (ad : Nat → Nat) (NN cells slots : Nat) (o : Nat) (l1 : Int32) (l2 : Nat) (l3 : Int32) (l4 : Int32) (l5 : Int32) (l6 : Int32) (kb : Nat) (nb : Nat) (x : St) (H : Heap) (locs : List Loc) (ls : Array Slot), (152 ≤ NN) → (NN0 ≤ NN ∧ ∀ o : Nat, o < NN0 → ad o = ad0 o) → (cells + kb ≤ R.cells) → (slots + nb ≤ R.slots) → (o < NN ∧ kcC o = 5) → (l2 < NN ∧ kcC l2 = 22) → j_Wrt_putPlain_20 post rec7 rec20 o l1 l2 l3 l4 l5 l6 kb nb x → Wd dC dI cI cB cJ cZ ad stC kcC NN A x H → va_S A s.heap H locs → lv_has ls 7 [(0, .ref (ad o)), (1, .int l1), (2, .ref (ad l2)), (3, .int l3), (4, .int l4), (5, .int l5), (6, .int l6)] → W p l e R s m args below meth c H locs cells slots Q (F0 m 20 ls []) := by
  intro ad NN cells slots o l1 l2 l3 l4 l5 l6 kb nb x H locs ls hNN hag hRc hRs fo fl2 hw hW hS hl
  unfold j_Wrt_putPlain_20 at hw
  refine lv_iload hx hb d_Wrt_putPlain_20 (lv_at hl 6 rfl) ?_
  refine lv_iload hx hb d_Wrt_putPlain_22 (lv_at hl 4 rfl) ?_
  refine lv_bipush (v := 8) hx hb d_Wrt_putPlain_24 (by decide) ?_
  refine lv_iadd hx hb d_Wrt_putPlain_26 ?_
  refine lv_icmp_ge (tgt := 58) hx hb d_Wrt_putPlain_27 (by decide) (fun c23 => ?_) (fun c23 => ?_)
  · have hw := hw.1 c23
    exact t_Wrt_putPlain_58 hx hb hml hown hT hK hN hA hRf hRl hE hret hrec7 ad NN cells slots o l1 l2 l3 l4 l5 l6 kb nb x H locs ls hNN hag hRc hRs fo fl2 hw hW hS (lv_sub hl [0, 1, 2, 3, 4, 5, 6] rfl)
  · have hw := hw.2 c23
    refine lv_iload hx hb d_Wrt_putPlain_30 (lv_at hl 6 rfl) ?_
    refine lv_iload_n hx hb d_Wrt_putPlain_32 rfl (lv_at hl 3 rfl) ?_
    refine lv_icmp_ge (tgt := 58) hx hb d_Wrt_putPlain_33 (by decide) (fun c24 => ?_) (fun c24 => ?_)
    · have hw := hw.1 c24
      exact t_Wrt_putPlain_58 hx hb hml hown hT hK hN hA hRf hRl hE hret hrec7 ad NN cells slots o l1 l2 l3 l4 l5 l6 kb nb x H locs ls hNN hag hRc hRs fo fl2 hw hW hS (lv_sub hl [0, 1, 2, 3, 4, 5, 6] rfl)
    · have hw := hw.2 c24
      refine lv_iload hx hb d_Wrt_putPlain_36 (lv_at hl 5 rfl) ?_
      refine lv_aload_n hx hb d_Wrt_putPlain_38 rfl (lv_at hl 2 rfl) ?_
      refine lv_iload hx hb d_Wrt_putPlain_39 (lv_at hl 6 rfl) ?_
      obtain ⟨hi, hw⟩ := hw
      refine w_lald (o := l2) hx hb hK hW fl2.1 fl2.2 hi d_Wrt_putPlain_41 ?_
      refine lv_l2i hx hb d_Wrt_putPlain_42 rfl ?_
      refine lv_iload hx hb d_Wrt_putPlain_43 (lv_at hl 6 rfl) ?_
      refine lv_iload hx hb d_Wrt_putPlain_45 (lv_at hl 4 rfl) ?_
      refine lv_isub hx hb d_Wrt_putPlain_47 ?_
      refine lv_ishl hx hb d_Wrt_putPlain_48 ?_
      refine lv_ior hx hb d_Wrt_putPlain_49 ?_
      refine lv_topi (fun v25 ev25 => ?_)
      have hw := hw v25 ev25
      refine lv_istore (lv' := [(5, .int v25), (0, .ref (ad o)), (1, .int l1), (2, .ref (ad l2)), (3, .int l3), (4, .int l4), (6, .int l6)]) hx hb d_Wrt_putPlain_50 hl (by decide) rfl (fun ls hl => ?_)
      refine lv_iinc (v := (l6 + 1)) (lv' := [(6, .int (l6 + 1)), (5, .int v25), (0, .ref (ad o)), (1, .int l1), (2, .ref (ad l2)), (3, .int l3), (4, .int l4)]) hx hb d_Wrt_putPlain_52 hl (k := 6) rfl rfl (by decide) rfl (fun ls hl => ?_)
      refine lv_goto (tgt := 20) hx hb d_Wrt_putPlain_55 (by decide) ?_
      exact hrec20 ad NN cells slots o l1 l2 l3 l4 v25 (l6 + 1) kb nb x H locs ls hNN hag hRc hRs fo fl2 hw hW hS (lv_sub hl [2, 3, 4, 5, 6, 1, 0] rfl)
def wl_Wrt_putPlain_20 (post : St → Prop) (rec7 : Nat → Int32 → Nat → Int32 → Int32 → Nat → Nat → St → Prop) : Nat → Nat → Int32 → Nat → Int32 → Int32 → Int32 → Int32 → Nat → Nat → St → Prop
  | 0 => fun _ _ _ _ _ _ _ _ _ _ => False
  | n + 1 => j_Wrt_putPlain_20 post rec7 (wl_Wrt_putPlain_20 post rec7 n)
set_option maxHeartbeats 4000000 in
set_option maxRecDepth 100000 in
theorem tl_Wrt_putPlain_20 {p : Program} {l : Launch} {e : Env} {R : Room} {s : State} {m : MethodId} {args : Array Value} {below : List Frame} {meth : Method} {c : Code} {Q : State → Prop} {dC : Nat → ClassId} {dI : Nat → Nat → Nat} {cI cB cJ cZ : ClassId} {A : Nat → Prop} {E : Heap} {tM tC : Nat} {kK kV : Nat → Nat} {ad0 : Nat → Nat} {NN0 : Nat} {post : St → Prop} {rec7 : Nat → Int32 → Nat → Int32 → Int32 → Nat → Nat → St → Prop} (hx : p.tables.exec = Jvm.exec) (hb : c.code = b_Wrt_putPlain) (hml : c.maxLocals = 7) (hown : s.vm.findClass R_Wrt = some m.cls) (hT : ∀ w ∈ TG, w.before args s = true) (hK : va_K (dC, dI) CL (TY cI cB cJ cZ) s) (hN : NW s) (hA : ∀ q : Nat, s.heap.size ≤ q → A q) (hRf : 5 ≤ R.frames) (hRl : 270 ≤ R.locals) (hE : CE E tM tC kK kV A s) (hret : ∀ (ad : Nat → Nat) (NN cells slots : Nat) (x : St) (H : Heap) (locs : List Loc) (pc : Nat) (ls : Array Slot), decode b_Wrt_putPlain pc = .ok (.return_, 1) → (NN0 ≤ NN ∧ ∀ o : Nat, o < NN0 → ad o = ad0 o) → cells ≤ R.cells → slots ≤ R.slots → post x → Wd dC dI cI cB cJ cZ ad stC kcC NN A x H → va_S A s.heap H locs → W p l e R s m args below meth c H locs cells slots Q (F0 m pc ls [])) (hrec7 : ∀ (ad : Nat → Nat) (NN cells slots : Nat) (o : Nat) (l1 : Int32) (l2 : Nat) (l3 : Int32) (l4 : Int32) (kb : Nat) (nb : Nat) (x : St) (H : Heap) (locs : List Loc) (ls : Array Slot), (152 ≤ NN) → (NN0 ≤ NN ∧ ∀ o : Nat, o < NN0 → ad o = ad0 o) → (cells + kb ≤ R.cells) → (slots + nb ≤ R.slots) → (o < NN ∧ kcC o = 5) → (l2 < NN ∧ kcC l2 = 22) → rec7 o l1 l2 l3 l4 kb nb x → Wd dC dI cI cB cJ cZ ad stC kcC NN A x H → va_S A s.heap H locs → lv_has ls 7 [(0, .ref (ad o)), (1, .int l1), (2, .ref (ad l2)), (3, .int l3), (4, .int l4)] → W p l e R s m args below meth c H locs cells slots Q (F0 m 7 ls [])) : ∀ n : Nat, ∀ (ad : Nat → Nat) (NN cells slots : Nat) (o : Nat) (l1 : Int32) (l2 : Nat) (l3 : Int32) (l4 : Int32) (l5 : Int32) (l6 : Int32) (kb : Nat) (nb : Nat) (x : St) (H : Heap) (locs : List Loc) (ls : Array Slot), (152 ≤ NN) → (NN0 ≤ NN ∧ ∀ o : Nat, o < NN0 → ad o = ad0 o) → (cells + kb ≤ R.cells) → (slots + nb ≤ R.slots) → (o < NN ∧ kcC o = 5) → (l2 < NN ∧ kcC l2 = 22) → wl_Wrt_putPlain_20 post rec7 n o l1 l2 l3 l4 l5 l6 kb nb x → Wd dC dI cI cB cJ cZ ad stC kcC NN A x H → va_S A s.heap H locs → lv_has ls 7 [(0, .ref (ad o)), (1, .int l1), (2, .ref (ad l2)), (3, .int l3), (4, .int l4), (5, .int l5), (6, .int l6)] → W p l e R s m args below meth c H locs cells slots Q (F0 m 20 ls []) := by
  intro n
  induction n with
  | zero => intro ad NN cells slots o l1 l2 l3 l4 l5 l6 kb nb x H locs ls hNN hag hRc hRs fo fl2 hw; exact hw.elim
  | succ n ih => intro ad NN cells slots o l1 l2 l3 l4 l5 l6 kb nb x H locs ls hNN hag hRc hRs fo fl2 hw hW hS hl; exact t_Wrt_putPlain_20 hx hb hml hown hT hK hN hA hRf hRl hE hret hrec7 ih ad NN cells slots o l1 l2 l3 l4 l5 l6 kb nb x H locs ls hNN hag hRc hRs fo fl2 hw hW hS hl
set_option maxRecDepth 100000 in
def j_Wrt_putPlain_7 (post : St → Prop) (rec7 : Nat → Int32 → Nat → Int32 → Int32 → Nat → Nat → St → Prop) (o : Nat) (l1 : Int32) (l2 : Nat) (l3 : Int32) (l4 : Int32) (kb : Nat) (nb : Nat) (x : St) : Prop := ((l3 ≤ l4 → post x) ∧ (¬ l3 ≤ l4 → ∃ n : Nat, wl_Wrt_putPlain_20 post rec7 n o l1 l2 l3 l4 0 l4 kb nb x))
set_option maxHeartbeats 4000000 in
set_option maxRecDepth 100000 in
theorem t_Wrt_putPlain_7 {p : Program} {l : Launch} {e : Env} {R : Room} {s : State} {m : MethodId} {args : Array Value} {below : List Frame} {meth : Method} {c : Code} {Q : State → Prop} {dC : Nat → ClassId} {dI : Nat → Nat → Nat} {cI cB cJ cZ : ClassId} {A : Nat → Prop} {E : Heap} {tM tC : Nat} {kK kV : Nat → Nat} {ad0 : Nat → Nat} {NN0 : Nat} {post : St → Prop} {rec7 : Nat → Int32 → Nat → Int32 → Int32 → Nat → Nat → St → Prop} (hx : p.tables.exec = Jvm.exec) (hb : c.code = b_Wrt_putPlain) (hml : c.maxLocals = 7) (hown : s.vm.findClass R_Wrt = some m.cls) (hT : ∀ w ∈ TG, w.before args s = true) (hK : va_K (dC, dI) CL (TY cI cB cJ cZ) s) (hN : NW s) (hA : ∀ q : Nat, s.heap.size ≤ q → A q) (hRf : 5 ≤ R.frames) (hRl : 270 ≤ R.locals) (hE : CE E tM tC kK kV A s) (hret : ∀ (ad : Nat → Nat) (NN cells slots : Nat) (x : St) (H : Heap) (locs : List Loc) (pc : Nat) (ls : Array Slot), decode b_Wrt_putPlain pc = .ok (.return_, 1) → (NN0 ≤ NN ∧ ∀ o : Nat, o < NN0 → ad o = ad0 o) → cells ≤ R.cells → slots ≤ R.slots → post x → Wd dC dI cI cB cJ cZ ad stC kcC NN A x H → va_S A s.heap H locs → W p l e R s m args below meth c H locs cells slots Q (F0 m pc ls [])) (hrec7 : ∀ (ad : Nat → Nat) (NN cells slots : Nat) (o : Nat) (l1 : Int32) (l2 : Nat) (l3 : Int32) (l4 : Int32) (kb : Nat) (nb : Nat) (x : St) (H : Heap) (locs : List Loc) (ls : Array Slot), (152 ≤ NN) → (NN0 ≤ NN ∧ ∀ o : Nat, o < NN0 → ad o = ad0 o) → (cells + kb ≤ R.cells) → (slots + nb ≤ R.slots) → (o < NN ∧ kcC o = 5) → (l2 < NN ∧ kcC l2 = 22) → rec7 o l1 l2 l3 l4 kb nb x → Wd dC dI cI cB cJ cZ ad stC kcC NN A x H → va_S A s.heap H locs → lv_has ls 7 [(0, .ref (ad o)), (1, .int l1), (2, .ref (ad l2)), (3, .int l3), (4, .int l4)] → W p l e R s m args below meth c H locs cells slots Q (F0 m 7 ls [])) : ∀ (ad : Nat → Nat) (NN cells slots : Nat) (o : Nat) (l1 : Int32) (l2 : Nat) (l3 : Int32) (l4 : Int32) (kb : Nat) (nb : Nat) (x : St) (H : Heap) (locs : List Loc) (ls : Array Slot), (152 ≤ NN) → (NN0 ≤ NN ∧ ∀ o : Nat, o < NN0 → ad o = ad0 o) → (cells + kb ≤ R.cells) → (slots + nb ≤ R.slots) → (o < NN ∧ kcC o = 5) → (l2 < NN ∧ kcC l2 = 22) → j_Wrt_putPlain_7 post rec7 o l1 l2 l3 l4 kb nb x → Wd dC dI cI cB cJ cZ ad stC kcC NN A x H → va_S A s.heap H locs → lv_has ls 7 [(0, .ref (ad o)), (1, .int l1), (2, .ref (ad l2)), (3, .int l3), (4, .int l4)] → W p l e R s m args below meth c H locs cells slots Q (F0 m 7 ls []) := by
  intro ad NN cells slots o l1 l2 l3 l4 kb nb x H locs ls hNN hag hRc hRs fo fl2 hw hW hS hl
  unfold j_Wrt_putPlain_7 at hw
  refine lv_iload hx hb d_Wrt_putPlain_7 (lv_at hl 4 rfl) ?_
  refine lv_iload_n hx hb d_Wrt_putPlain_9 rfl (lv_at hl 3 rfl) ?_
  refine lv_icmp_ge (tgt := 73) hx hb d_Wrt_putPlain_10 (by decide) (fun c26 => ?_) (fun c26 => ?_)
  · have hw := hw.1 c26
    exact hret ad NN cells slots x H locs 73 ls d_Wrt_putPlain_73 hag (Nat.le_trans (Nat.le_add_right _ _) hRc) (Nat.le_trans (Nat.le_add_right _ _) hRs) hw hW hS
  · have hw := hw.2 c26
    refine lv_iconst (v := 0) hx hb d_Wrt_putPlain_13 (by decide) ?_
    refine lv_istore (lv' := [(5, .int 0), (0, .ref (ad o)), (1, .int l1), (2, .ref (ad l2)), (3, .int l3), (4, .int l4)]) hx hb d_Wrt_putPlain_14 hl (by decide) rfl (fun ls hl => ?_)
    refine lv_iload hx hb d_Wrt_putPlain_16 (lv_at hl 5 rfl) ?_
    refine lv_istore (lv' := [(6, .int l4), (5, .int 0), (0, .ref (ad o)), (1, .int l1), (2, .ref (ad l2)), (3, .int l3), (4, .int l4)]) hx hb d_Wrt_putPlain_18 hl (by decide) rfl (fun ls hl => ?_)
    obtain ⟨n, hw⟩ := hw
    exact tl_Wrt_putPlain_20 hx hb hml hown hT hK hN hA hRf hRl hE hret hrec7 n ad NN cells slots o l1 l2 l3 l4 0 l4 kb nb x H locs ls hNN hag hRc hRs fo fl2 hw hW hS (lv_sub hl [2, 3, 4, 5, 6, 1, 0] rfl)
def wl_Wrt_putPlain_7 (post : St → Prop) : Nat → Nat → Int32 → Nat → Int32 → Int32 → Nat → Nat → St → Prop
  | 0 => fun _ _ _ _ _ _ _ _ => False
  | n + 1 => j_Wrt_putPlain_7 post (wl_Wrt_putPlain_7 post n)
set_option maxHeartbeats 4000000 in
set_option maxRecDepth 100000 in
theorem tl_Wrt_putPlain_7 {p : Program} {l : Launch} {e : Env} {R : Room} {s : State} {m : MethodId} {args : Array Value} {below : List Frame} {meth : Method} {c : Code} {Q : State → Prop} {dC : Nat → ClassId} {dI : Nat → Nat → Nat} {cI cB cJ cZ : ClassId} {A : Nat → Prop} {E : Heap} {tM tC : Nat} {kK kV : Nat → Nat} {ad0 : Nat → Nat} {NN0 : Nat} {post : St → Prop} (hx : p.tables.exec = Jvm.exec) (hb : c.code = b_Wrt_putPlain) (hml : c.maxLocals = 7) (hown : s.vm.findClass R_Wrt = some m.cls) (hT : ∀ w ∈ TG, w.before args s = true) (hK : va_K (dC, dI) CL (TY cI cB cJ cZ) s) (hN : NW s) (hA : ∀ q : Nat, s.heap.size ≤ q → A q) (hRf : 5 ≤ R.frames) (hRl : 270 ≤ R.locals) (hE : CE E tM tC kK kV A s) (hret : ∀ (ad : Nat → Nat) (NN cells slots : Nat) (x : St) (H : Heap) (locs : List Loc) (pc : Nat) (ls : Array Slot), decode b_Wrt_putPlain pc = .ok (.return_, 1) → (NN0 ≤ NN ∧ ∀ o : Nat, o < NN0 → ad o = ad0 o) → cells ≤ R.cells → slots ≤ R.slots → post x → Wd dC dI cI cB cJ cZ ad stC kcC NN A x H → va_S A s.heap H locs → W p l e R s m args below meth c H locs cells slots Q (F0 m pc ls []))  : ∀ n : Nat, ∀ (ad : Nat → Nat) (NN cells slots : Nat) (o : Nat) (l1 : Int32) (l2 : Nat) (l3 : Int32) (l4 : Int32) (kb : Nat) (nb : Nat) (x : St) (H : Heap) (locs : List Loc) (ls : Array Slot), (152 ≤ NN) → (NN0 ≤ NN ∧ ∀ o : Nat, o < NN0 → ad o = ad0 o) → (cells + kb ≤ R.cells) → (slots + nb ≤ R.slots) → (o < NN ∧ kcC o = 5) → (l2 < NN ∧ kcC l2 = 22) → wl_Wrt_putPlain_7 post n o l1 l2 l3 l4 kb nb x → Wd dC dI cI cB cJ cZ ad stC kcC NN A x H → va_S A s.heap H locs → lv_has ls 7 [(0, .ref (ad o)), (1, .int l1), (2, .ref (ad l2)), (3, .int l3), (4, .int l4)] → W p l e R s m args below meth c H locs cells slots Q (F0 m 7 ls []) := by
  intro n
  induction n with
  | zero => intro ad NN cells slots o l1 l2 l3 l4 kb nb x H locs ls hNN hag hRc hRs fo fl2 hw; exact hw.elim
  | succ n ih => intro ad NN cells slots o l1 l2 l3 l4 kb nb x H locs ls hNN hag hRc hRs fo fl2 hw hW hS hl; exact t_Wrt_putPlain_7 hx hb hml hown hT hK hN hA hRf hRl hE hret  ih ad NN cells slots o l1 l2 l3 l4 kb nb x H locs ls hNN hag hRc hRs fo fl2 hw hW hS hl
set_option maxRecDepth 100000 in
def wp_Wrt_putPlain (post : St → Prop) (o : Nat) (l1 : Int32) (l2 : Nat) (l3 : Int32) (kb : Nat) (nb : Nat) (x : St) : Prop := ((¬ l1 = 0 → ∃ n : Nat, wl_Wrt_putPlain_77 post n o l1 l2 l3 0 kb nb x) ∧ (l1 = 0 → ∃ n : Nat, wl_Wrt_putPlain_7 post n o l1 l2 l3 0 kb nb x))
set_option maxHeartbeats 4000000 in
set_option maxRecDepth 100000 in
theorem t_Wrt_putPlain_e {p : Program} {l : Launch} {e : Env} {R : Room} {s : State} {m : MethodId} {args : Array Value} {below : List Frame} {meth : Method} {c : Code} {Q : State → Prop} {dC : Nat → ClassId} {dI : Nat → Nat → Nat} {cI cB cJ cZ : ClassId} {A : Nat → Prop} {E : Heap} {tM tC : Nat} {kK kV : Nat → Nat} {ad0 : Nat → Nat} {NN0 : Nat} {post : St → Prop} (hx : p.tables.exec = Jvm.exec) (hb : c.code = b_Wrt_putPlain) (hml : c.maxLocals = 7) (hown : s.vm.findClass R_Wrt = some m.cls) (hT : ∀ w ∈ TG, w.before args s = true) (hK : va_K (dC, dI) CL (TY cI cB cJ cZ) s) (hN : NW s) (hA : ∀ q : Nat, s.heap.size ≤ q → A q) (hRf : 5 ≤ R.frames) (hRl : 270 ≤ R.locals) (hE : CE E tM tC kK kV A s) (hret : ∀ (ad : Nat → Nat) (NN cells slots : Nat) (x : St) (H : Heap) (locs : List Loc) (pc : Nat) (ls : Array Slot), decode b_Wrt_putPlain pc = .ok (.return_, 1) → (NN0 ≤ NN ∧ ∀ o : Nat, o < NN0 → ad o = ad0 o) → cells ≤ R.cells → slots ≤ R.slots → post x → Wd dC dI cI cB cJ cZ ad stC kcC NN A x H → va_S A s.heap H locs → W p l e R s m args below meth c H locs cells slots Q (F0 m pc ls [])) : ∀ (ad : Nat → Nat) (NN cells slots : Nat) (o : Nat) (l1 : Int32) (l2 : Nat) (l3 : Int32) (kb : Nat) (nb : Nat) (x : St) (H : Heap) (locs : List Loc) (ls : Array Slot), (152 ≤ NN) → (NN0 ≤ NN ∧ ∀ o : Nat, o < NN0 → ad o = ad0 o) → (cells + kb ≤ R.cells) → (slots + nb ≤ R.slots) → (o < NN ∧ kcC o = 5) → (l2 < NN ∧ kcC l2 = 22) → wp_Wrt_putPlain post o l1 l2 l3 kb nb x → Wd dC dI cI cB cJ cZ ad stC kcC NN A x H → va_S A s.heap H locs → lv_has ls 7 [(0, .ref (ad o)), (1, .int l1), (2, .ref (ad l2)), (3, .int l3)] → W p l e R s m args below meth c H locs cells slots Q (F0 m 0 ls []) := by
  intro ad NN cells slots o l1 l2 l3 kb nb x H locs ls hNN hag hRc hRs fo fl2 hw hW hS hl
  unfold wp_Wrt_putPlain at hw
  refine lv_iload_n hx hb d_Wrt_putPlain_0 rfl (lv_at hl 1 rfl) ?_
  refine lv_if_ne (tgt := 74) hx hb d_Wrt_putPlain_1 (by decide) (fun c27 => ?_) (fun c27 => ?_)
  · have hw := hw.1 c27
    refine lv_iconst (v := 0) hx hb d_Wrt_putPlain_74 (by decide) ?_
    refine lv_istore (lv' := [(4, .int 0), (0, .ref (ad o)), (1, .int l1), (2, .ref (ad l2)), (3, .int l3)]) hx hb d_Wrt_putPlain_75 hl (by decide) rfl (fun ls hl => ?_)
    obtain ⟨n, hw⟩ := hw
    exact tl_Wrt_putPlain_77 hx hb hml hown hT hK hN hA hRf hRl hE hret  n ad NN cells slots o l1 l2 l3 0 kb nb x H locs ls hNN hag hRc hRs fo fl2 hw hW hS (lv_sub hl [1, 2, 3, 4, 0] rfl)
  · have hw := hw.2 c27
    refine lv_iconst (v := 0) hx hb d_Wrt_putPlain_4 (by decide) ?_
    refine lv_istore (lv' := [(4, .int 0), (0, .ref (ad o)), (1, .int l1), (2, .ref (ad l2)), (3, .int l3)]) hx hb d_Wrt_putPlain_5 hl (by decide) rfl (fun ls hl => ?_)
    obtain ⟨n, hw⟩ := hw
    exact tl_Wrt_putPlain_7 hx hb hml hown hT hK hN hA hRf hRl hE hret  n ad NN cells slots o l1 l2 l3 0 kb nb x H locs ls hNN hag hRc hRs fo fl2 hw hW hS (lv_sub hl [1, 2, 3, 4, 0] rfl)
set_option maxHeartbeats 4000000 in
set_option maxRecDepth 100000 in
theorem k_Wrt_putPlain (l : Launch) (dC : Nat → ClassId) (dI : Nat → Nat → Nat) (cI cB cJ cZ : ClassId) (ad : Nat → Nat) (NN : Nat) (E : Heap) (tM tC : Nat) (kK kV : Nat → Nat) (hNN : 152 ≤ NN) (sz : Nat) (o : Nat) (l1 : Int32) (l2 : Nat) (l3 : Int32) (kb : Nat) (nb : Nat) (x : St) (fo : o < NN ∧ kcC o = 5) (fl2 : l2 < NN ∧ kcC l2 = 22) {post : St → Prop} (hw : wp_Wrt_putPlain post o l1 l2 l3 kb nb x) : Met l y_Wrt_putPlain (wsOf y_Wrt_putPlain b_Wrt_putPlain 7 (none)) ({ frames := 5, cells := kb, slots := nb, locals := 270 }) (va_Pc [.ref (ad o), .int l1, .ref (ad l2), .int l3] (PV dC dI cI cB cJ cZ ad stC kcC NN E tM tC kK kV sz x)) (va_Qv (fun (u : St × (Nat → Nat) × Nat) => post u.1) (fun u t => Wd dC dI cI cB cJ cZ u.2.1 stC kcC u.2.2 (va_A (pic ad stC kcC NN cI cB cJ cZ x) sz) u.1 t.heap ∧ NN ≤ u.2.2 ∧ ∀ o : Nat, o < NN → u.2.1 o = ad o) (va_A (pic ad stC kcC NN cI cB cJ cZ x) sz)) kb nb (va_A (pic ad stC kcC NN cI cB cJ cZ x) sz) := by
  refine Met.ofW (cc := b_Wrt_putPlain) (maxL := 7) (ret := none) (by decide) rfl ?_
  intro p e s m args below meth c s₁ B hml hv
  obtain ⟨rfl, ⟨hsz, hW0, hK, hN⟩, hE⟩ := hv
  have hx := B.exec
  have hb := B.bytes
  have hr := B.returns
  have hts := atoms_spec B.pre
  have hT : ∀ w ∈ TG, w.before _ s = true := fun w h => hts w (List.mem_cons_of_mem _ h)
  have hown : s.vm.findClass R_Wrt = some m.cls := findClass_of_methodNamed B.named
  have hlocks := B.notSynchronized
  subst hsz
  have hW : Wd dC dI cI cB cJ cZ ad stC kcC NN (va_A (pic ad stC kcC NN cI cB cJ cZ x) s.heap.size) x s.heap := ⟨hW0.1, hW0.2.1.self (sz := s.heap.size), hW0.2.2⟩
  generalize hAe : va_A (pic ad stC kcC NN cI cB cJ cZ x) s.heap.size = A at hW hE ⊢
  have hA : ∀ q : Nat, s.heap.size ≤ q → A q := fun q h => by rw [← hAe]; exact Or.inr h
  have hS : va_S A s.heap s.heap [] := va_S.rf
  have hl := lv_entry ([.ref (ad o), .int l1, .ref (ad l2), .int l3]) (n := 7) (Nat.le_of_ble_eq_true rfl)
  rw [lg_entry_eq]
  generalize (lg_sl ([.ref (ad o), .int l1, .ref (ad l2), .int l3]) ++ List.replicate (7 - (lg_sl ([.ref (ad o), .int l1, .ref (ad l2), .int l3])).length) Slot.unset).toArray = ls at hl ⊢
  have hl : lv_has ls 7 [(0, .ref (ad o)), (1, .int l1), (2, .ref (ad l2)), (3, .int l3)] := hl
  exact t_Wrt_putPlain_e hx hb hml hown hT hK hN hA (Nat.le_refl 5) (Nat.le_refl 270) hE (fun ad1 NN1 cells slots x1 H locs pc ls hd hag hc hs hp hW hS => W.widen (k := kb) (n := nb) hc hs (W.vret hx hb hr (fun t ht hM => ⟨⟨(x1, ad1, NN1), rfl, hp, Wd.back hW ht.symm (fun _ z => z), hag.1, hag.2⟩, hS.F ht⟩) hS.2.2 hd hlocks))  ad NN 0 0 o l1 l2 l3 kb nb x _ _ ls hNN ⟨Nat.le_refl _, fun _ _ => rfl⟩ (Nat.le_of_eq (Nat.zero_add kb)) (Nat.le_of_eq (Nat.zero_add nb)) fo fl2 hw hW hS hl
set_option maxRecDepth 100000 in
def j_Snk_putBits_131 (post : St → Prop) (rec6 : Nat → Int64 → Int32 → Int32 → Int32 → Nat → Nat → St → Prop) (o : Nat) (l1 : Int64) (l3 : Int32) (l4 : Int32) (l5 : Int32) (l6 : Int32) (kb : Nat) (nb : Nat) (x : St) : Prop := rec6 o l1 l3 l4 (l5 + 1) kb nb x
set_option maxHeartbeats 4000000 in
set_option maxRecDepth 100000 in
theorem t_Snk_putBits_131 {p : Program} {l : Launch} {e : Env} {R : Room} {s : State} {m : MethodId} {args : Array Value} {below : List Frame} {meth : Method} {c : Code} {Q : State → Prop} {dC : Nat → ClassId} {dI : Nat → Nat → Nat} {cI cB cJ cZ : ClassId} {A : Nat → Prop} {E : Heap} {tM tC : Nat} {kK kV : Nat → Nat} {ad0 : Nat → Nat} {NN0 : Nat} {post : St → Prop} {rec6 : Nat → Int64 → Int32 → Int32 → Int32 → Nat → Nat → St → Prop} (hx : p.tables.exec = Jvm.exec) (hb : c.code = b_Snk_putBits) (hml : c.maxLocals = 7) (hown : s.vm.findClass R_Snk = some m.cls) (hT : ∀ w ∈ TG, w.before args s = true) (hK : va_K (dC, dI) CL (TY cI cB cJ cZ) s) (hN : NW s) (hA : ∀ q : Nat, s.heap.size ≤ q → A q) (hRf : 3 ≤ R.frames) (hRl : 221 ≤ R.locals) (hE : CE E tM tC kK kV A s) (hret : ∀ (ad : Nat → Nat) (NN cells slots : Nat) (x : St) (H : Heap) (locs : List Loc) (pc : Nat) (ls : Array Slot), decode b_Snk_putBits pc = .ok (.return_, 1) → (NN0 ≤ NN ∧ ∀ o : Nat, o < NN0 → ad o = ad0 o) → cells ≤ R.cells → slots ≤ R.slots → post x → Wd dC dI cI cB cJ cZ ad stC kcC NN A x H → va_S A s.heap H locs → W p l e R s m args below meth c H locs cells slots Q (F0 m pc ls [])) (hrec6 : ∀ (ad : Nat → Nat) (NN cells slots : Nat) (o : Nat) (l1 : Int64) (l3 : Int32) (l4 : Int32) (l5 : Int32) (kb : Nat) (nb : Nat) (x : St) (H : Heap) (locs : List Loc) (ls : Array Slot), (152 ≤ NN) → (NN0 ≤ NN ∧ ∀ o : Nat, o < NN0 → ad o = ad0 o) → (cells + kb ≤ R.cells) → (slots + nb ≤ R.slots) → (o < NN ∧ kcC o = 1) → rec6 o l1 l3 l4 l5 kb nb x → Wd dC dI cI cB cJ cZ ad stC kcC NN A x H → va_S A s.heap H locs → lv_has ls 7 [(0, .ref (ad o)), (1, .long l1), (3, .int l3), (4, .int l4), (5, .int l5)] → W p l e R s m args below meth c H locs cells slots Q (F0 m 6 ls [])) : ∀ (ad : Nat → Nat) (NN cells slots : Nat) (o : Nat) (l1 : Int64) (l3 : Int32) (l4 : Int32) (l5 : Int32) (l6 : Int32) (kb : Nat) (nb : Nat) (x : St) (H : Heap) (locs : List Loc) (ls : Array Slot), (152 ≤ NN) → (NN0 ≤ NN ∧ ∀ o : Nat, o < NN0 → ad o = ad0 o) → (cells + kb ≤ R.cells) → (slots + nb ≤ R.slots) → (o < NN ∧ kcC o = 1) → j_Snk_putBits_131 post rec6 o l1 l3 l4 l5 l6 kb nb x → Wd dC dI cI cB cJ cZ ad stC kcC NN A x H → va_S A s.heap H locs → lv_has ls 7 [(0, .ref (ad o)), (1, .long l1), (3, .int l3), (4, .int l4), (5, .int l5), (6, .int l6)] → W p l e R s m args below meth c H locs cells slots Q (F0 m 131 ls []) := by
  intro ad NN cells slots o l1 l3 l4 l5 l6 kb nb x H locs ls hNN hag hRc hRs fo hw hW hS hl
  unfold j_Snk_putBits_131 at hw
  refine lv_iinc (v := (l5 + 1)) (lv' := [(5, .int (l5 + 1)), (0, .ref (ad o)), (1, .long l1), (3, .int l3), (4, .int l4), (6, .int l6)]) hx hb d_Snk_putBits_131 hl (k := 4) rfl rfl (by decide) rfl (fun ls hl => ?_)
  refine lv_goto (tgt := 6) hx hb d_Snk_putBits_134 (by decide) ?_
  exact hrec6 ad NN cells slots o l1 l3 l4 (l5 + 1) kb nb x H locs ls hNN hag hRc hRs fo hw hW hS (lv_sub hl [1, 2, 3, 4, 0] rfl)
set_option maxRecDepth 100000 in
def j_Snk_putBits_121 (post : St → Prop) (rec6 : Nat → Int64 → Int32 → Int32 → Int32 → Nat → Nat → St → Prop) (o : Nat) (l1 : Int64) (l3 : Int32) (l4 : Int32) (l5 : Int32) (l6 : Int32) (kb : Nat) (nb : Nat) (x : St) : Prop := (∀ x1 : St, x1 = setI x o 5 0 → (∀ x2 : St, x2 = setI x1 o 6 0 → j_Snk_putBits_131 post rec6 o l1 l3 l4 l5 l6 kb nb x2))
set_option maxHeartbeats 4000000 in
set_option maxRecDepth 100000 in
theorem t_Snk_putBits_121 {p : Program} {l : Launch} {e : Env} {R : Room} {s : State} {m : MethodId} {args : Array Value} {below : List Frame} {meth : Method} {c : Code} {Q : State → Prop} {dC : Nat → ClassId} {dI : Nat → Nat → Nat} {cI cB cJ cZ : ClassId} {A : Nat → Prop} {E : Heap} {tM tC : Nat} {kK kV : Nat → Nat} {ad0 : Nat → Nat} {NN0 : Nat} {post : St → Prop} {rec6 : Nat → Int64 → Int32 → Int32 → Int32 → Nat → Nat → St → Prop} (hx : p.tables.exec = Jvm.exec) (hb : c.code = b_Snk_putBits) (hml : c.maxLocals = 7) (hown : s.vm.findClass R_Snk = some m.cls) (hT : ∀ w ∈ TG, w.before args s = true) (hK : va_K (dC, dI) CL (TY cI cB cJ cZ) s) (hN : NW s) (hA : ∀ q : Nat, s.heap.size ≤ q → A q) (hRf : 3 ≤ R.frames) (hRl : 221 ≤ R.locals) (hE : CE E tM tC kK kV A s) (hret : ∀ (ad : Nat → Nat) (NN cells slots : Nat) (x : St) (H : Heap) (locs : List Loc) (pc : Nat) (ls : Array Slot), decode b_Snk_putBits pc = .ok (.return_, 1) → (NN0 ≤ NN ∧ ∀ o : Nat, o < NN0 → ad o = ad0 o) → cells ≤ R.cells → slots ≤ R.slots → post x → Wd dC dI cI cB cJ cZ ad stC kcC NN A x H → va_S A s.heap H locs → W p l e R s m args below meth c H locs cells slots Q (F0 m pc ls [])) (hrec6 : ∀ (ad : Nat → Nat) (NN cells slots : Nat) (o : Nat) (l1 : Int64) (l3 : Int32) (l4 : Int32) (l5 : Int32) (kb : Nat) (nb : Nat) (x : St) (H : Heap) (locs : List Loc) (ls : Array Slot), (152 ≤ NN) → (NN0 ≤ NN ∧ ∀ o : Nat, o < NN0 → ad o = ad0 o) → (cells + kb ≤ R.cells) → (slots + nb ≤ R.slots) → (o < NN ∧ kcC o = 1) → rec6 o l1 l3 l4 l5 kb nb x → Wd dC dI cI cB cJ cZ ad stC kcC NN A x H → va_S A s.heap H locs → lv_has ls 7 [(0, .ref (ad o)), (1, .long l1), (3, .int l3), (4, .int l4), (5, .int l5)] → W p l e R s m args below meth c H locs cells slots Q (F0 m 6 ls [])) : ∀ (ad : Nat → Nat) (NN cells slots : Nat) (o : Nat) (l1 : Int64) (l3 : Int32) (l4 : Int32) (l5 : Int32) (l6 : Int32) (kb : Nat) (nb : Nat) (x : St) (H : Heap) (locs : List Loc) (ls : Array Slot), (152 ≤ NN) → (NN0 ≤ NN ∧ ∀ o : Nat, o < NN0 → ad o = ad0 o) → (cells + kb ≤ R.cells) → (slots + nb ≤ R.slots) → (o < NN ∧ kcC o = 1) → j_Snk_putBits_121 post rec6 o l1 l3 l4 l5 l6 kb nb x → Wd dC dI cI cB cJ cZ ad stC kcC NN A x H → va_S A s.heap H locs → lv_has ls 7 [(0, .ref (ad o)), (1, .long l1), (3, .int l3), (4, .int l4), (5, .int l5), (6, .int l6)] → W p l e R s m args below meth c H locs cells slots Q (F0 m 121 ls []) := by
  intro ad NN cells slots o l1 l3 l4 l5 l6 kb nb x H locs ls hNN hag hRc hRs fo hw hW hS hl
  unfold j_Snk_putBits_121 at hw
  refine lv_aload_n hx hb d_Snk_putBits_121 rfl (lv_at hl 0 rfl) ?_
  refine lv_iconst (v := 0) hx hb d_Snk_putBits_122 (by decide) ?_
  refine w_puti (ty := .int) (k := 5) (t := 1) (C := R_Snk) (T := F_Snk) (N := 7) hx hb hT hown hK hW hS fo.1 fo.2 (by decide) in_Snk t_Snk t_Snk_ok n_Snk rfl rfl (by decide) rfl fr_Snk_5 w_1_52 (by decide +kernel) rfl rfl d_Snk_putBits_123 (fun H locs hW hS => ?_)
  obtain ⟨x1, ex1⟩ : ∃ y : St, y = setI x o 5 0 := ⟨_, rfl⟩
  rw [← ex1] at hW
  have hw := hw x1 ex1
  refine lv_aload_n hx hb d_Snk_putBits_126 rfl (lv_at hl 0 rfl) ?_
  refine lv_iconst (v := 0) hx hb d_Snk_putBits_127 (by decide) ?_
  refine w_puti (ty := .int) (k := 6) (t := 1) (C := R_Snk) (T := F_Snk) (N := 7) hx hb hT hown hK hW hS fo.1 fo.2 (by decide) in_Snk t_Snk t_Snk_ok n_Snk rfl rfl (by decide) rfl fr_Snk_6 w_1_53 (by decide +kernel) rfl rfl d_Snk_putBits_128 (fun H locs hW hS => ?_)
  obtain ⟨x2, ex2⟩ : ∃ y : St, y = setI x1 o 6 0 := ⟨_, rfl⟩
  rw [← ex2] at hW
  have hw := hw x2 ex2
  exact t_Snk_putBits_131 hx hb hml hown hT hK hN hA hRf hRl hE hret hrec6 ad NN cells slots o l1 l3 l4 l5 l6 kb nb x2 H locs ls hNN hag hRc hRs fo hw hW hS (lv_sub hl [0, 1, 2, 3, 4, 5] rfl)
set_option maxRecDepth 100000 in
def j_Snk_putBits_6 (post : St → Prop) (rec6 : Nat → Int64 → Int32 → Int32 → Int32 → Nat → Nat → St → Prop) (o : Nat) (l1 : Int64) (l3 : Int32) (l4 : Int32) (l5 : Int32) (kb : Nat) (nb : Nat) (x : St) : Prop := ((10 ≤ l5 → post x) ∧ (¬ 10 ≤ l5 → ((l3 ≤ l4 → post x) ∧ (¬ l3 ≤ l4 → (∀ v5 : Int32, v5 = (if (l3 - l4) < (8 - (fI x o 6)) then (l3 - l4) else (8 - (fI x o 6))) → (∀ x6 : St, x6 = setI x o 5 ((fI x o 5) ||| (((((l1 : Int64).toUInt64 >>> ((l4 : Int32).toInt64.toUInt64 &&& Int64.toUInt64 63)).toInt64 &&& (((1 <<< (v5 &&& 31)) - 1) : Int32).toInt64) : Int64).toInt32 <<< ((fI x o 6) &&& 31))) → (∀ x7 : St, x7 = setI x6 o 6 ((fI x6 o 6) + v5) → (∀ v8 : Int32, v8 = (l4 + v5) → ((¬ (fI x7 o 6) = 8 → j_Snk_putBits_131 post rec6 o l1 l3 v8 l5 v5 kb nb x7) ∧ ((fI x7 o 6) = 8 → (∃ k10 n11 k12 n13 : Nat, k10 + k12 = kb ∧ n11 + n13 = nb ∧ wp_Snk_hasRoom (fun (r15 : Int32) (x14 : St) => ((r15 = 0 → j_Snk_putBits_121 post rec6 o l1 l3 v8 l5 v5 k12 n13 x14) ∧ (¬ r15 = 0 → (∃ q17 : Nat, fR x14 o 0 = some q17 ∧ (vp_in (fI x14 o 1) (fN x14 q17) ∧ ∀ x18 : St, x18 = setA x14 q17 (fI x14 o 1) (vp_nar .byte ((fI x14 o 5) : Int32).toInt8.toInt32) → (∀ x19 : St, x19 = setI x18 o 1 ((fI x18 o 1) + 1) → j_Snk_putBits_121 post rec6 o l1 l3 v8 l5 v5 k12 n13 x19)))))) o 1 k10 n11 x7)))))))))))
set_option maxHeartbeats 4000000 in
set_option maxRecDepth 100000 in
theorem t_Snk_putBits_6 {p : Program} {l : Launch} {e : Env} {R : Room} {s : State} {m : MethodId} {args : Array Value} {below : List Frame} {meth : Method} {c : Code} {Q : State → Prop} {dC : Nat → ClassId} {dI : Nat → Nat → Nat} {cI cB cJ cZ : ClassId} {A : Nat → Prop} {E : Heap} {tM tC : Nat} {kK kV : Nat → Nat} {ad0 : Nat → Nat} {NN0 : Nat} {post : St → Prop} {rec6 : Nat → Int64 → Int32 → Int32 → Int32 → Nat → Nat → St → Prop} (hx : p.tables.exec = Jvm.exec) (hb : c.code = b_Snk_putBits) (hml : c.maxLocals = 7) (hown : s.vm.findClass R_Snk = some m.cls) (hT : ∀ w ∈ TG, w.before args s = true) (hK : va_K (dC, dI) CL (TY cI cB cJ cZ) s) (hN : NW s) (hA : ∀ q : Nat, s.heap.size ≤ q → A q) (hRf : 3 ≤ R.frames) (hRl : 221 ≤ R.locals) (hE : CE E tM tC kK kV A s) (hret : ∀ (ad : Nat → Nat) (NN cells slots : Nat) (x : St) (H : Heap) (locs : List Loc) (pc : Nat) (ls : Array Slot), decode b_Snk_putBits pc = .ok (.return_, 1) → (NN0 ≤ NN ∧ ∀ o : Nat, o < NN0 → ad o = ad0 o) → cells ≤ R.cells → slots ≤ R.slots → post x → Wd dC dI cI cB cJ cZ ad stC kcC NN A x H → va_S A s.heap H locs → W p l e R s m args below meth c H locs cells slots Q (F0 m pc ls [])) (hrec6 : ∀ (ad : Nat → Nat) (NN cells slots : Nat) (o : Nat) (l1 : Int64) (l3 : Int32) (l4 : Int32) (l5 : Int32) (kb : Nat) (nb : Nat) (x : St) (H : Heap) (locs : List Loc) (ls : Array Slot), (152 ≤ NN) → (NN0 ≤ NN ∧ ∀ o : Nat, o < NN0 → ad o = ad0 o) → (cells + kb ≤ R.cells) → (slots + nb ≤ R.slots) → (o < NN ∧ kcC o = 1) → rec6 o l1 l3 l4 l5 kb nb x → Wd dC dI cI cB cJ cZ ad stC kcC NN A x H → va_S A s.heap H locs → lv_has ls 7 [(0, .ref (ad o)), (1, .long l1), (3, .int l3), (4, .int l4), (5, .int l5)] → W p l e R s m args below meth c H locs cells slots Q (F0 m 6 ls [])) : ∀ (ad : Nat → Nat) (NN cells slots : Nat) (o : Nat) (l1 : Int64) (l3 : Int32) (l4 : Int32) (l5 : Int32) (kb : Nat) (nb : Nat) (x : St) (H : Heap) (locs : List Loc) (ls : Array Slot), (152 ≤ NN) → (NN0 ≤ NN ∧ ∀ o : Nat, o < NN0 → ad o = ad0 o) → (cells + kb ≤ R.cells) → (slots + nb ≤ R.slots) → (o < NN ∧ kcC o = 1) → j_Snk_putBits_6 post rec6 o l1 l3 l4 l5 kb nb x → Wd dC dI cI cB cJ cZ ad stC kcC NN A x H → va_S A s.heap H locs → lv_has ls 7 [(0, .ref (ad o)), (1, .long l1), (3, .int l3), (4, .int l4), (5, .int l5)] → W p l e R s m args below meth c H locs cells slots Q (F0 m 6 ls []) := by
  intro ad NN cells slots o l1 l3 l4 l5 kb nb x H locs ls hNN hag hRc hRs fo hw hW hS hl
  unfold j_Snk_putBits_6 at hw
  refine lv_iload hx hb d_Snk_putBits_6 (lv_at hl 4 rfl) ?_
  refine lv_bipush (v := 10) hx hb d_Snk_putBits_8 (by decide) ?_
  refine lv_icmp_ge (tgt := 137) hx hb d_Snk_putBits_10 (by decide) (fun c3 => ?_) (fun c3 => ?_)
  · have hw := hw.1 c3
    exact hret ad NN cells slots x H locs 137 ls d_Snk_putBits_137 hag (Nat.le_trans (Nat.le_add_right _ _) hRc) (Nat.le_trans (Nat.le_add_right _ _) hRs) hw hW hS
  · have hw := hw.2 c3
    refine lv_iload hx hb d_Snk_putBits_13 (lv_at hl 3 rfl) ?_
    refine lv_iload_n hx hb d_Snk_putBits_15 rfl (lv_at hl 2 rfl) ?_
    refine lv_icmp_ge (tgt := 137) hx hb d_Snk_putBits_16 (by decide) (fun c4 => ?_) (fun c4 => ?_)
    · have hw := hw.1 c4
      exact hret ad NN cells slots x H locs 137 ls d_Snk_putBits_137 hag (Nat.le_trans (Nat.le_add_right _ _) hRc) (Nat.le_trans (Nat.le_add_right _ _) hRs) hw hW hS
    · have hw := hw.2 c4
      refine lv_bipush (v := 8) hx hb d_Snk_putBits_19 (by decide) ?_
      refine lv_aload_n hx hb d_Snk_putBits_21 rfl (lv_at hl 0 rfl) ?_
      refine w_geti (k := 6) (t := 1) (C := R_Snk) (T := F_Snk) (N := 7) hx hb hT hown hK hW fo.1 fo.2 (by decide) in_Snk rfl rfl (by decide) rfl fr_Snk_6 w_1_53 d_Snk_putBits_22 ?_
      refine lv_isub hx hb d_Snk_putBits_25 ?_
      refine lv_iload_n hx hb d_Snk_putBits_26 rfl (lv_at hl 2 rfl) ?_
      refine lv_iload hx hb d_Snk_putBits_27 (lv_at hl 3 rfl) ?_
      refine lv_isub hx hb d_Snk_putBits_29 ?_
      refine va_mmin hx hb (hml.trans hl.1.symm) hown (hT _ w_1_37) (hT _ w_1_38) (hT _ w_1_3) (hT _ w_1_39) (Nat.le_trans (by decide) hRf) (Nat.le_trans (Nat.le_of_ble_eq_true rfl) hRl) (Nat.le_trans (Nat.le_add_right _ _) hRc) (Nat.le_trans (Nat.le_add_right _ _) hRs) d_Snk_putBits_30 ?_
      refine lv_topi (fun v5 ev5 => ?_)
      have hw := hw v5 ev5
      refine lv_istore (lv' := [(6, .int v5), (0, .ref (ad o)), (1, .long l1), (3, .int l3), (4, .int l4), (5, .int l5)]) hx hb d_Snk_putBits_33 hl (by decide) rfl (fun ls hl => ?_)
      refine lv_aload_n hx hb d_Snk_putBits_35 rfl (lv_at hl 1 rfl) ?_
      refine lv_dup hx hb d_Snk_putBits_36 rfl ?_
      refine w_geti (k := 5) (t := 1) (C := R_Snk) (T := F_Snk) (N := 7) hx hb hT hown hK hW fo.1 fo.2 (by decide) in_Snk rfl rfl (by decide) rfl fr_Snk_5 w_1_52 d_Snk_putBits_37 ?_
      refine lv_lload_n hx hb d_Snk_putBits_40 rfl (lv_at hl 2 rfl) ?_
      refine lv_iload hx hb d_Snk_putBits_41 (lv_at hl 4 rfl) ?_
      refine lv_lushr hx hb d_Snk_putBits_43 rfl ?_
      refine lv_iconst (v := 1) hx hb d_Snk_putBits_44 (by decide) ?_
      refine lv_iload hx hb d_Snk_putBits_45 (lv_at hl 0 rfl) ?_
      refine lv_ishl hx hb d_Snk_putBits_47 ?_
      refine lv_iconst (v := 1) hx hb d_Snk_putBits_48 (by decide) ?_
      refine lv_isub hx hb d_Snk_putBits_49 ?_
      refine lv_i2l hx hb d_Snk_putBits_50 rfl ?_
      refine lv_land hx hb d_Snk_putBits_51 ?_
      refine lv_l2i hx hb d_Snk_putBits_52 rfl ?_
      refine lv_aload_n hx hb d_Snk_putBits_53 rfl (lv_at hl 1 rfl) ?_
      refine w_geti (k := 6) (t := 1) (C := R_Snk) (T := F_Snk) (N := 7) hx hb hT hown hK hW fo.1 fo.2 (by decide) in_Snk rfl rfl (by decide) rfl fr_Snk_6 w_1_53 d_Snk_putBits_54 ?_
      refine lv_ishl hx hb d_Snk_putBits_57 ?_
      refine lv_ior hx hb d_Snk_putBits_58 ?_
      refine w_puti (ty := .int) (k := 5) (t := 1) (C := R_Snk) (T := F_Snk) (N := 7) hx hb hT hown hK hW hS fo.1 fo.2 (by decide) in_Snk t_Snk t_Snk_ok n_Snk rfl rfl (by decide) rfl fr_Snk_5 w_1_52 (by decide +kernel) rfl rfl d_Snk_putBits_59 (fun H locs hW hS => ?_)
      obtain ⟨x6, ex6⟩ : ∃ y : St, y = setI x o 5 ((fI x o 5) ||| (((((l1 : Int64).toUInt64 >>> ((l4 : Int32).toInt64.toUInt64 &&& Int64.toUInt64 63)).toInt64 &&& (((1 <<< (v5 &&& 31)) - 1) : Int32).toInt64) : Int64).toInt32 <<< ((fI x o 6) &&& 31))) := ⟨_, rfl⟩
      rw [← ex6] at hW
      have hw := hw x6 ex6
      refine lv_aload_n hx hb d_Snk_putBits_62 rfl (lv_at hl 1 rfl) ?_
      refine lv_dup hx hb d_Snk_putBits_63 rfl ?_
      refine w_geti (k := 6) (t := 1) (C := R_Snk) (T := F_Snk) (N := 7) hx hb hT hown hK hW fo.1 fo.2 (by decide) in_Snk rfl rfl (by decide) rfl fr_Snk_6 w_1_53 d_Snk_putBits_64 ?_
      refine lv_iload hx hb d_Snk_putBits_67 (lv_at hl 0 rfl) ?_
      refine lv_iadd hx hb d_Snk_putBits_69 ?_
      refine w_puti (ty := .int) (k := 6) (t := 1) (C := R_Snk) (T := F_Snk) (N := 7) hx hb hT hown hK hW hS fo.1 fo.2 (by decide) in_Snk t_Snk t_Snk_ok n_Snk rfl rfl (by decide) rfl fr_Snk_6 w_1_53 (by decide +kernel) rfl rfl d_Snk_putBits_70 (fun H locs hW hS => ?_)
      obtain ⟨x7, ex7⟩ : ∃ y : St, y = setI x6 o 6 ((fI x6 o 6) + v5) := ⟨_, rfl⟩
      rw [← ex7] at hW
      have hw := hw x7 ex7
      refine lv_iload hx hb d_Snk_putBits_73 (lv_at hl 4 rfl) ?_
      refine lv_iload hx hb d_Snk_putBits_75 (lv_at hl 0 rfl) ?_
      refine lv_iadd hx hb d_Snk_putBits_77 ?_
      refine lv_topi (fun v8 ev8 => ?_)
      have hw := hw v8 ev8
      refine lv_istore (lv' := [(4, .int v8), (6, .int v5), (0, .ref (ad o)), (1, .long l1), (3, .int l3), (5, .int l5)]) hx hb d_Snk_putBits_78 hl (by decide) rfl (fun ls hl => ?_)
      refine lv_aload_n hx hb d_Snk_putBits_80 rfl (lv_at hl 2 rfl) ?_
      refine w_geti (k := 6) (t := 1) (C := R_Snk) (T := F_Snk) (N := 7) hx hb hT hown hK hW fo.1 fo.2 (by decide) in_Snk rfl rfl (by decide) rfl fr_Snk_6 w_1_53 d_Snk_putBits_81 ?_
      refine lv_bipush (v := 8) hx hb d_Snk_putBits_84 (by decide) ?_
      refine lv_icmp_ne (tgt := 131) hx hb d_Snk_putBits_86 (by decide) (fun c9 => ?_) (fun c9 => ?_)
      · have hw := hw.1 c9
        exact t_Snk_putBits_131 hx hb hml hown hT hK hN hA hRf hRl hE hret hrec6 ad NN cells slots o l1 l3 v8 l5 v5 kb nb x7 H locs ls hNN hag hRc hRs fo hw hW hS (lv_sub hl [2, 3, 4, 0, 5, 1] rfl)
      · have hw := hw.2 c9
        refine lv_aload_n hx hb d_Snk_putBits_89 rfl (lv_at hl 2 rfl) ?_
        refine lv_iconst (v := 1) hx hb d_Snk_putBits_90 (by decide) ?_
        obtain ⟨k10, n11, k12, n13, ek10, en11, hw⟩ := hw
        have hF := hW.free hS hA
        refine va_calli (va_runV (C := R_Snk) (As := [.int 1]) (rest := []) ⟨hx, hb, hml, hown, hT⟩ (k_Snk_hasRoom l dC dI cI cB cJ cZ ad NN E tM tC kK kV hNN H.size o 1 k10 n11 x7 fo hw) ⟨callB_of 1 hT (gw_in w_4_56) rfl rfl rfl (hT _ w_1_2) (hT _ w_4_53) (by decide +kernel) ⟨Nat.le_trans (by decide) hRf, Nat.le_trans (by decide) hRl⟩, hT _ w_4_55, hT _ ws_1⟩ ⟨PV.blind, va_recv hK hW.1 (ci := 1) (q0 := o) rfl (pic_obj fo.1 fo.2 (by decide)), PV.at _ hW hK hN hE hS hF⟩ rfl rfl hl.1 rfl (lv_room (Nat.le_of_ble_eq_true rfl)) d_Snk_putBits_91 ⟨show cells + k10 ≤ R.cells by omega, show slots + n11 ≤ R.slots by omega⟩) hS (fun q _ h => hF q h) hF (fun r15 x14 t H locs ht hvm hw hB hz1 hk1 hS => ?_)
        obtain ⟨x14, ad, NN⟩ := x14
        obtain ⟨hB, hle, hg⟩ := hB
        try dsimp only at hw hB hle hg
        have hW := Wd.back hB ht hF
        rw [← hg o fo.1] at hl
        have fo : o < NN ∧ kcC o = 1 := ⟨Nat.lt_of_lt_of_le fo.1 hle, fo.2⟩
        have hag : NN0 ≤ NN ∧ ∀ o : Nat, o < NN0 → ad o = ad0 o := ⟨Nat.le_trans hag.1 hle, fun o h => (hg o (Nat.lt_of_lt_of_le h hag.1)).trans (hag.2 o h)⟩
        have hNN : 152 ≤ NN := Nat.le_trans hNN hle
        clear hg hle
        obtain ⟨cells, ec⟩ : ∃ z, z = cells + k10 := ⟨_, rfl⟩
        obtain ⟨slots, es⟩ : ∃ z, z = slots + n11 := ⟨_, rfl⟩
        rw [← ec, ← es]
        have hRc : cells + k12 ≤ R.cells := by omega
        have hRs : slots + n13 ≤ R.slots := by omega
        clear ec es hB ht hF hz1 hk1 hvm ek10 en11
        refine lv_if_eq (tgt := 121) hx hb d_Snk_putBits_94 (by decide) (fun c16 => ?_) (fun c16 => ?_)
        · have hw := hw.1 c16
          exact t_Snk_putBits_121 hx hb hml hown hT hK hN hA hRf hRl hE hret hrec6 ad NN cells slots o l1 l3 v8 l5 v5 k12 n13 x14 H locs ls hNN hag hRc hRs fo hw hW hS (lv_sub hl [2, 3, 4, 0, 5, 1] rfl)
        · have hw := hw.2 c16
          refine lv_aload_n hx hb d_Snk_putBits_97 rfl (lv_at hl 2 rfl) ?_
          obtain ⟨q17, hq17, hw⟩ := hw
          refine w_getr (q := q17) (k := 0) (t := 1) (C := R_Snk) (T := F_Snk) (N := 7) hx hb hT hown hK hW fo.1 fo.2 (by decide) in_Snk rfl rfl (by decide) rfl fr_Snk_0 w_1_40 d_Snk_putBits_98 hq17 (fun aq17 bq17 => ?_)
          have fq17 : q17 < NN ∧ kcC q17 = 21 := ⟨aq17, bq17⟩
          refine lv_aload_n hx hb d_Snk_putBits_101 rfl (lv_at hl 2 rfl) ?_
          refine w_geti (k := 1) (t := 1) (C := R_Snk) (T := F_Snk) (N := 7) hx hb hT hown hK hW fo.1 fo.2 (by decide) in_Snk rfl rfl (by decide) rfl fr_Snk_1 w_1_43 d_Snk_putBits_102 ?_
          refine lv_aload_n hx hb d_Snk_putBits_105 rfl (lv_at hl 2 rfl) ?_
          refine w_geti (k := 5) (t := 1) (C := R_Snk) (T := F_Snk) (N := 7) hx hb hT hown hK hW fo.1 fo.2 (by decide) in_Snk rfl rfl (by decide) rfl fr_Snk_5 w_1_52 d_Snk_putBits_106 ?_
          refine lv_i2b hx hb d_Snk_putBits_109 rfl ?_
          obtain ⟨hi, hw⟩ := hw
          refine w_bast (o := q17) hx hb hK hW hS fq17.1 fq17.2 hi d_Snk_putBits_110 (fun H locs hW hS => ?_)
          obtain ⟨x18, ex18⟩ : ∃ y : St, y = setA x14 q17 (fI x14 o 1) (vp_nar .byte ((fI x14 o 5) : Int32).toInt8.toInt32) := ⟨_, rfl⟩
          rw [← ex18] at hW
          have hw := hw x18 ex18
          refine lv_aload_n hx hb d_Snk_putBits_111 rfl (lv_at hl 2 rfl) ?_
          refine lv_dup hx hb d_Snk_putBits_112 rfl ?_
          refine w_geti (k := 1) (t := 1) (C := R_Snk) (T := F_Snk) (N := 7) hx hb hT hown hK hW fo.1 fo.2 (by decide) in_Snk rfl rfl (by decide) rfl fr_Snk_1 w_1_43 d_Snk_putBits_113 ?_
          refine lv_iconst (v := 1) hx hb d_Snk_putBits_116 (by decide) ?_
          refine lv_iadd hx hb d_Snk_putBits_117 ?_
          refine w_puti (ty := .int) (k := 1) (t := 1) (C := R_Snk) (T := F_Snk) (N := 7) hx hb hT hown hK hW hS fo.1 fo.2 (by decide) in_Snk t_Snk t_Snk_ok n_Snk rfl rfl (by decide) rfl fr_Snk_1 w_1_43 (by decide +kernel) rfl rfl d_Snk_putBits_118 (fun H locs hW hS => ?_)
          obtain ⟨x19, ex19⟩ : ∃ y : St, y = setI x18 o 1 ((fI x18 o 1) + 1) := ⟨_, rfl⟩
          rw [← ex19] at hW
          have hw := hw x19 ex19
          exact t_Snk_putBits_121 hx hb hml hown hT hK hN hA hRf hRl hE hret hrec6 ad NN cells slots o l1 l3 v8 l5 v5 k12 n13 x19 H locs ls hNN hag hRc hRs fo hw hW hS (lv_sub hl [2, 3, 4, 0, 5, 1] rfl)
def wl_Snk_putBits_6 (post : St → Prop) : Nat → Nat → Int64 → Int32 → Int32 → Int32 → Nat → Nat → St → Prop
  | 0 => fun _ _ _ _ _ _ _ _ => False
  | n + 1 => j_Snk_putBits_6 post (wl_Snk_putBits_6 post n)
set_option maxHeartbeats 4000000 in
set_option maxRecDepth 100000 in
theorem tl_Snk_putBits_6 {p : Program} {l : Launch} {e : Env} {R : Room} {s : State} {m : MethodId} {args : Array Value} {below : List Frame} {meth : Method} {c : Code} {Q : State → Prop} {dC : Nat → ClassId} {dI : Nat → Nat → Nat} {cI cB cJ cZ : ClassId} {A : Nat → Prop} {E : Heap} {tM tC : Nat} {kK kV : Nat → Nat} {ad0 : Nat → Nat} {NN0 : Nat} {post : St → Prop} (hx : p.tables.exec = Jvm.exec) (hb : c.code = b_Snk_putBits) (hml : c.maxLocals = 7) (hown : s.vm.findClass R_Snk = some m.cls) (hT : ∀ w ∈ TG, w.before args s = true) (hK : va_K (dC, dI) CL (TY cI cB cJ cZ) s) (hN : NW s) (hA : ∀ q : Nat, s.heap.size ≤ q → A q) (hRf : 3 ≤ R.frames) (hRl : 221 ≤ R.locals) (hE : CE E tM tC kK kV A s) (hret : ∀ (ad : Nat → Nat) (NN cells slots : Nat) (x : St) (H : Heap) (locs : List Loc) (pc : Nat) (ls : Array Slot), decode b_Snk_putBits pc = .ok (.return_, 1) → (NN0 ≤ NN ∧ ∀ o : Nat, o < NN0 → ad o = ad0 o) → cells ≤ R.cells → slots ≤ R.slots → post x → Wd dC dI cI cB cJ cZ ad stC kcC NN A x H → va_S A s.heap H locs → W p l e R s m args below meth c H locs cells slots Q (F0 m pc ls []))  : ∀ n : Nat, ∀ (ad : Nat → Nat) (NN cells slots : Nat) (o : Nat) (l1 : Int64) (l3 : Int32) (l4 : Int32) (l5 : Int32) (kb : Nat) (nb : Nat) (x : St) (H : Heap) (locs : List Loc) (ls : Array Slot), (152 ≤ NN) → (NN0 ≤ NN ∧ ∀ o : Nat, o < NN0 → ad o = ad0 o) → (cells + kb ≤ R.cells) → (slots + nb ≤ R.slots) → (o < NN ∧ kcC o = 1) → wl_Snk_putBits_6 post n o l1 l3 l4 l5 kb nb x → Wd dC dI cI cB cJ cZ ad stC kcC NN A x H → va_S A s.heap H locs → lv_has ls 7 [(0, .ref (ad o)), (1, .long l1), (3, .int l3), (4, .int l4), (5, .int l5)] → W p l e R s m args below meth c H locs cells slots Q (F0 m 6 ls []) := by
  intro n
  induction n with
  | zero => intro ad NN cells slots o l1 l3 l4 l5 kb nb x H locs ls hNN hag hRc hRs fo hw; exact hw.elim
  | succ n ih => intro ad NN cells slots o l1 l3 l4 l5 kb nb x H locs ls hNN hag hRc hRs fo hw hW hS hl; exact t_Snk_putBits_6 hx hb hml hown hT hK hN hA hRf hRl hE hret  ih ad NN cells slots o l1 l3 l4 l5 kb nb x H locs ls hNN hag hRc hRs fo hw hW hS hl
set_option maxRecDepth 100000 in
def wp_Snk_putBits (post : St → Prop) (o : Nat) (l1 : Int64) (l3 : Int32) (kb : Nat) (nb : Nat) (x : St) : Prop := ∃ n : Nat, wl_Snk_putBits_6 post n o l1 l3 0 0 kb nb x
set_option maxHeartbeats 4000000 in
set_option maxRecDepth 100000 in
theorem t_Snk_putBits_e {p : Program} {l : Launch} {e : Env} {R : Room} {s : State} {m : MethodId} {args : Array Value} {below : List Frame} {meth : Method} {c : Code} {Q : State → Prop} {dC : Nat → ClassId} {dI : Nat → Nat → Nat} {cI cB cJ cZ : ClassId} {A : Nat → Prop} {E : Heap} {tM tC : Nat} {kK kV : Nat → Nat} {ad0 : Nat → Nat} {NN0 : Nat} {post : St → Prop} (hx : p.tables.exec = Jvm.exec) (hb : c.code = b_Snk_putBits) (hml : c.maxLocals = 7) (hown : s.vm.findClass R_Snk = some m.cls) (hT : ∀ w ∈ TG, w.before args s = true) (hK : va_K (dC, dI) CL (TY cI cB cJ cZ) s) (hN : NW s) (hA : ∀ q : Nat, s.heap.size ≤ q → A q) (hRf : 3 ≤ R.frames) (hRl : 221 ≤ R.locals) (hE : CE E tM tC kK kV A s) (hret : ∀ (ad : Nat → Nat) (NN cells slots : Nat) (x : St) (H : Heap) (locs : List Loc) (pc : Nat) (ls : Array Slot), decode b_Snk_putBits pc = .ok (.return_, 1) → (NN0 ≤ NN ∧ ∀ o : Nat, o < NN0 → ad o = ad0 o) → cells ≤ R.cells → slots ≤ R.slots → post x → Wd dC dI cI cB cJ cZ ad stC kcC NN A x H → va_S A s.heap H locs → W p l e R s m args below meth c H locs cells slots Q (F0 m pc ls [])) : ∀ (ad : Nat → Nat) (NN cells slots : Nat) (o : Nat) (l1 : Int64) (l3 : Int32) (kb : Nat) (nb : Nat) (x : St) (H : Heap) (locs : List Loc) (ls : Array Slot), (152 ≤ NN) → (NN0 ≤ NN ∧ ∀ o : Nat, o < NN0 → ad o = ad0 o) → (cells + kb ≤ R.cells) → (slots + nb ≤ R.slots) → (o < NN ∧ kcC o = 1) → wp_Snk_putBits post o l1 l3 kb nb x → Wd dC dI cI cB cJ cZ ad stC kcC NN A x H → va_S A s.heap H locs → lv_has ls 7 [(0, .ref (ad o)), (1, .long l1), (3, .int l3)] → W p l e R s m args below meth c H locs cells slots Q (F0 m 0 ls []) := by
  intro ad NN cells slots o l1 l3 kb nb x H locs ls hNN hag hRc hRs fo hw hW hS hl
  unfold wp_Snk_putBits at hw
  refine lv_iconst (v := 0) hx hb d_Snk_putBits_0 (by decide) ?_
  refine lv_istore (lv' := [(4, .int 0), (0, .ref (ad o)), (1, .long l1), (3, .int l3)]) hx hb d_Snk_putBits_1 hl (by decide) rfl (fun ls hl => ?_)
  refine lv_iconst (v := 0) hx hb d_Snk_putBits_3 (by decide) ?_
  refine lv_istore (lv' := [(5, .int 0), (4, .int 0), (0, .ref (ad o)), (1, .long l1), (3, .int l3)]) hx hb d_Snk_putBits_4 hl (by decide) rfl (fun ls hl => ?_)
  obtain ⟨n, hw⟩ := hw
  exact tl_Snk_putBits_6 hx hb hml hown hT hK hN hA hRf hRl hE hret  n ad NN cells slots o l1 l3 0 0 kb nb x H locs ls hNN hag hRc hRs fo hw hW hS (lv_sub hl [2, 3, 4, 1, 0] rfl)
set_option maxHeartbeats 4000000 in
set_option maxRecDepth 100000 in
theorem k_Snk_putBits (l : Launch) (dC : Nat → ClassId) (dI : Nat → Nat → Nat) (cI cB cJ cZ : ClassId) (ad : Nat → Nat) (NN : Nat) (E : Heap) (tM tC : Nat) (kK kV : Nat → Nat) (hNN : 152 ≤ NN) (sz : Nat) (o : Nat) (l1 : Int64) (l3 : Int32) (kb : Nat) (nb : Nat) (x : St) (fo : o < NN ∧ kcC o = 1) {post : St → Prop} (hw : wp_Snk_putBits post o l1 l3 kb nb x) : Met l y_Snk_putBits (wsOf y_Snk_putBits b_Snk_putBits 7 (none)) ({ frames := 3, cells := kb, slots := nb, locals := 221 }) (va_Pc [.ref (ad o), .long l1, .int l3] (PV dC dI cI cB cJ cZ ad stC kcC NN E tM tC kK kV sz x)) (va_Qv (fun (u : St × (Nat → Nat) × Nat) => post u.1) (fun u t => Wd dC dI cI cB cJ cZ u.2.1 stC kcC u.2.2 (va_A (pic ad stC kcC NN cI cB cJ cZ x) sz) u.1 t.heap ∧ NN ≤ u.2.2 ∧ ∀ o : Nat, o < NN → u.2.1 o = ad o) (va_A (pic ad stC kcC NN cI cB cJ cZ x) sz)) kb nb (va_A (pic ad stC kcC NN cI cB cJ cZ x) sz) := by
  refine Met.ofW (cc := b_Snk_putBits) (maxL := 7) (ret := none) (by decide) rfl ?_
  intro p e s m args below meth c s₁ B hml hv
  obtain ⟨rfl, ⟨hsz, hW0, hK, hN⟩, hE⟩ := hv
  have hx := B.exec
  have hb := B.bytes
  have hr := B.returns
  have hts := atoms_spec B.pre
  have hT : ∀ w ∈ TG, w.before _ s = true := fun w h => hts w (List.mem_cons_of_mem _ h)
  have hown : s.vm.findClass R_Snk = some m.cls := findClass_of_methodNamed B.named
  have hlocks := B.notSynchronized
  subst hsz
  have hW : Wd dC dI cI cB cJ cZ ad stC kcC NN (va_A (pic ad stC kcC NN cI cB cJ cZ x) s.heap.size) x s.heap := ⟨hW0.1, hW0.2.1.self (sz := s.heap.size), hW0.2.2⟩
  generalize hAe : va_A (pic ad stC kcC NN cI cB cJ cZ x) s.heap.size = A at hW hE ⊢
  have hA : ∀ q : Nat, s.heap.size ≤ q → A q := fun q h => by rw [← hAe]; exact Or.inr h
  have hS : va_S A s.heap s.heap [] := va_S.rf
  have hl := lv_entry ([.ref (ad o), .long l1, .int l3]) (n := 7) (Nat.le_of_ble_eq_true rfl)
  rw [lg_entry_eq]
  generalize (lg_sl ([.ref (ad o), .long l1, .int l3]) ++ List.replicate (7 - (lg_sl ([.ref (ad o), .long l1, .int l3])).length) Slot.unset).toArray = ls at hl ⊢
  have hl : lv_has ls 7 [(0, .ref (ad o)), (1, .long l1), (3, .int l3)] := hl
  exact t_Snk_putBits_e hx hb hml hown hT hK hN hA (Nat.le_refl 3) (Nat.le_refl 221) hE (fun ad1 NN1 cells slots x1 H locs pc ls hd hag hc hs hp hW hS => W.widen (k := kb) (n := nb) hc hs (W.vret hx hb hr (fun t ht hM => ⟨⟨(x1, ad1, NN1), rfl, hp, Wd.back hW ht.symm (fun _ z => z), hag.1, hag.2⟩, hS.F ht⟩) hS.2.2 hd hlocks))  ad NN 0 0 o l1 l3 kb nb x _ _ ls hNN ⟨Nat.le_refl _, fun _ _ => rfl⟩ (Nat.le_of_eq (Nat.zero_add kb)) (Nat.le_of_eq (Nat.zero_add nb)) fo hw hW hS hl
end
