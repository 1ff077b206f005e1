theorem w_1_159 : (Jvm.Cond.fieldLink "StripedVault$Writer" (204 : Nat) "StripedVault$Schema" "rep" "[I") ∈ TG := tw_1 159 (by decide +kernel) (by decide +kernel)
theorem w_1_41 : (Jvm.Cond.fieldLink "StripedVault$Writer" (123 : Nat) "StripedVault$Sink" "bytes" "[B") ∈ TG := tw_1 41 (by decide +kernel) (by decide +kernel)
theorem w_5_190 : (Jvm.Cond.methodLink "StripedVault$Writer" (227 : Nat) ({ cls := "StripedVault$Writer", name := "putBoolRuns", desc := "()V" } : Jvm.MethodName)) ∈ TG := tw_5 190 (by decide +kernel) (by decide +kernel)
theorem w_5_192 : (Jvm.Cond.instanceMethod ({ cls := "StripedVault$Writer", name := "putBoolRuns", desc := "()V" } : Jvm.MethodName)) ∈ TG := tw_5 192 (by decide +kernel) (by decide +kernel)
theorem w_5_193 : (Jvm.Cond.code ({ cls := "StripedVault$Writer", name := "putBoolRuns", desc := "()V" } : Jvm.MethodName) prog_12_method_14_code (2 : Nat) (Option.none : Option Jvm.ClassFile.FieldType)) ∈ TG := tw_5 193 (by decide +kernel) (by decide +kernel)
theorem w_5_211 : (Jvm.Cond.methodLink "StripedVault$Writer" (230 : Nat) ({ cls := "StripedVault$Writer", name := "putDictionary", desc := "(I)V" } : Jvm.MethodName)) ∈ TG := tw_5 211 (by decide +kernel) (by decide +kernel)
theorem w_5_213 : (Jvm.Cond.instanceMethod ({ cls := "StripedVault$Writer", name := "putDictionary", desc := "(I)V" } : Jvm.MethodName)) ∈ TG := tw_5 213 (by decide +kernel) (by decide +kernel)
theorem w_5_214 : (Jvm.Cond.code ({ cls := "StripedVault$Writer", name := "putDictionary", desc := "(I)V" } : Jvm.MethodName) prog_12_method_17_code (5 : Nat) (Option.none : Option Jvm.ClassFile.FieldType)) ∈ TG := tw_5 214 (by decide +kernel) (by decide +kernel)
theorem w_5_232 : (Jvm.Cond.methodLink "StripedVault$Writer" (233 : Nat) ({ cls := "StripedVault$Writer", name := "putTexts", desc := "(Z)V" } : Jvm.MethodName)) ∈ TG := tw_5 232 (by decide +kernel) (by decide +kernel)
theorem w_5_234 : (Jvm.Cond.instanceMethod ({ cls := "StripedVault$Writer", name := "putTexts", desc := "(Z)V" } : Jvm.MethodName)) ∈ TG := tw_5 234 (by decide +kernel) (by decide +kernel)
theorem w_5_235 : (Jvm.Cond.code ({ cls := "StripedVault$Writer", name := "putTexts", desc := "(Z)V" } : Jvm.MethodName) prog_12_method_16_code (6 : Nat) (Option.none : Option Jvm.ClassFile.FieldType)) ∈ TG := tw_5 235 (by decide +kernel) (by decide +kernel)
theorem w_6_24 : (Jvm.Cond.methodLink "StripedVault$Writer" (206 : Nat) ({ cls := "StripedVault$Writer", name := "putLevels", desc := "([II)V" } : Jvm.MethodName)) ∈ TG := tw_6 24 (by decide +kernel) (by decide +kernel)
theorem w_6_26 : (Jvm.Cond.instanceMethod ({ cls := "StripedVault$Writer", name := "putLevels", desc := "([II)V" } : Jvm.MethodName)) ∈ TG := tw_6 26 (by decide +kernel) (by decide +kernel)
theorem w_6_27 : (Jvm.Cond.code ({ cls := "StripedVault$Writer", name := "putLevels", desc := "([II)V" } : Jvm.MethodName) prog_12_method_11_code (4 : Nat) (Option.none : Option Jvm.ClassFile.FieldType)) ∈ TG := tw_6 27 (by decide +kernel) (by decide +kernel)
theorem w_6_28 : (Jvm.Cond.methodLink "StripedVault$Writer" (210 : Nat) ({ cls := "StripedVault$Writer", name := "findBounds", desc := "(I)V" } : Jvm.MethodName)) ∈ TG := tw_6 28 (by decide +kernel) (by decide +kernel)
theorem w_6_30 : (Jvm.Cond.instanceMethod ({ cls := "StripedVault$Writer", name := "findBounds", desc := "(I)V" } : Jvm.MethodName)) ∈ TG := tw_6 30 (by decide +kernel) (by decide +kernel)
theorem w_6_31 : (Jvm.Cond.code ({ cls := "StripedVault$Writer", name := "findBounds", desc := "(I)V" } : Jvm.MethodName) prog_12_method_12_code (3 : Nat) (Option.none : Option Jvm.ClassFile.FieldType)) ∈ TG := tw_6 31 (by decide +kernel) (by decide +kernel)
theorem w_6_36 : (Jvm.Cond.methodLink "StripedVault$Writer" (174 : Nat) ({ cls := "StripedVault$Sink", name := "putTold", desc := "(I[BJ)V" } : Jvm.MethodName)) ∈ TG := tw_6 36 (by decide +kernel) (by decide +kernel)
theorem w_6_37 : (Jvm.Cond.instanceMethod ({ cls := "StripedVault$Sink", name := "putTold", desc := "(I[BJ)V" } : Jvm.MethodName)) ∈ TG := tw_6 37 (by decide +kernel) (by decide +kernel)
theorem w_6_38 : (Jvm.Cond.selects "StripedVault$Sink" ({ cls := "StripedVault$Sink", name := "putTold", desc := "(I[BJ)V" } : Jvm.MethodName) ({ cls := "StripedVault$Sink", name := "putTold", desc := "(I[BJ)V" } : Jvm.MethodName)) ∈ TG := tw_6 38 (by decide +kernel) (by decide +kernel)
theorem w_6_39 : (Jvm.Cond.code ({ cls := "StripedVault$Sink", name := "putTold", desc := "(I[BJ)V" } : Jvm.MethodName) prog_9_method_9_code (5 : Nat) (Option.none : Option Jvm.ClassFile.FieldType)) ∈ TG := tw_6 39 (by decide +kernel) (by decide +kernel)
theorem w_6_40 : (Jvm.Cond.methodLink "StripedVault$Sink" (76 : Nat) ({ cls := "StripedVault$Sink", name := "putText", desc := "([BJ)V" } : Jvm.MethodName)) ∈ TG := tw_6 40 (by decide +kernel) (by decide +kernel)
theorem wn_6_41 : (Jvm.Cond.methodLinkNest "StripedVault$Writer" (131 : Nat) ({ cls := "StripedVault", name := "checkOf", desc := "([BII)I" } : Jvm.MethodName) "StripedVault") ∈ lw_tbl := tb_6 _ (List.mem_of_getElem? (i := 41) (by decide +kernel))
theorem ws_22 : Cond.selects R_Wrt y_Wrt_putBoolRuns y_Wrt_putBoolRuns ∈ TG := tw_s 22 (by decide +kernel) (by decide +kernel)
theorem ws_25 : Cond.selects R_Wrt y_Wrt_putDictionary y_Wrt_putDictionary ∈ TG := tw_s 25 (by decide +kernel) (by decide +kernel)
theorem ws_27 : Cond.selects R_Wrt y_Wrt_putTexts y_Wrt_putTexts ∈ TG := tw_s 27 (by decide +kernel) (by decide +kernel)
theorem ws_30 : Cond.selects R_Wrt y_Wrt_putLevels y_Wrt_putLevels ∈ TG := tw_s 30 (by decide +kernel) (by decide +kernel)
theorem ws_31 : Cond.selects R_Wrt y_Wrt_findBounds y_Wrt_findBounds ∈ TG := tw_s 31 (by decide +kernel) (by decide +kernel)
theorem d_Wrt_chooseCoding_166 : decode b_Wrt_chooseCoding 166 = .ok (.iinc 4 1, 3) := by decide +kernel
theorem d_Wrt_chooseCoding_169 : decode b_Wrt_chooseCoding 169 = .ok (.goto (-145), 3) := by decide +kernel
theorem d_Wrt_chooseCoding_143 : decode b_Wrt_chooseCoding 143 = .ok (.aload_n 0, 1) := by decide +kernel
theorem d_Wrt_chooseCoding_144 : decode b_Wrt_chooseCoding 144 = .ok (.getfield 27, 3) := by decide +kernel
theorem d_Wrt_chooseCoding_147 : decode b_Wrt_chooseCoding 147 = .ok (.astore 5, 2) := by decide +kernel
theorem d_Wrt_chooseCoding_149 : decode b_Wrt_chooseCoding 149 = .ok (.aload_n 0, 1) := by decide +kernel
theorem d_Wrt_chooseCoding_150 : decode b_Wrt_chooseCoding 150 = .ok (.aload_n 0, 1) := by decide +kernel
theorem d_Wrt_chooseCoding_151 : decode b_Wrt_chooseCoding 151 = .ok (.getfield 30, 3) := by decide +kernel
theorem d_Wrt_chooseCoding_154 : decode b_Wrt_chooseCoding 154 = .ok (.putfield 27, 3) := by decide +kernel
theorem d_Wrt_chooseCoding_157 : decode b_Wrt_chooseCoding 157 = .ok (.aload_n 0, 1) := by decide +kernel
theorem d_Wrt_chooseCoding_158 : decode b_Wrt_chooseCoding 158 = .ok (.aload 5, 2) := by decide +kernel
theorem d_Wrt_chooseCoding_160 : decode b_Wrt_chooseCoding 160 = .ok (.putfield 30, 3) := by decide +kernel
theorem d_Wrt_chooseCoding_163 : decode b_Wrt_chooseCoding 163 = .ok (.iload 4, 2) := by decide +kernel
theorem d_Wrt_chooseCoding_165 : decode b_Wrt_chooseCoding 165 = .ok (.istore_n 3, 1) := by decide +kernel
theorem d_Wrt_chooseCoding_121 : decode b_Wrt_chooseCoding 121 = .ok (.iload 4, 2) := by decide +kernel
theorem d_Wrt_chooseCoding_123 : decode b_Wrt_chooseCoding 123 = .ok (.ifCond .eq 20, 3) := by decide +kernel
theorem d_Wrt_chooseCoding_126 : decode b_Wrt_chooseCoding 126 = .ok (.aload_n 0, 1) := by decide +kernel
theorem d_Wrt_chooseCoding_127 : decode b_Wrt_chooseCoding 127 = .ok (.getfield 30, 3) := by decide +kernel
theorem d_Wrt_chooseCoding_130 : decode b_Wrt_chooseCoding 130 = .ok (.getfield 126, 3) := by decide +kernel
theorem d_Wrt_chooseCoding_133 : decode b_Wrt_chooseCoding 133 = .ok (.aload_n 0, 1) := by decide +kernel
theorem d_Wrt_chooseCoding_134 : decode b_Wrt_chooseCoding 134 = .ok (.getfield 27, 3) := by decide +kernel
theorem d_Wrt_chooseCoding_137 : decode b_Wrt_chooseCoding 137 = .ok (.getfield 126, 3) := by decide +kernel
theorem d_Wrt_chooseCoding_140 : decode b_Wrt_chooseCoding 140 = .ok (.if_icmp .ge 26, 3) := by decide +kernel
theorem d_Wrt_chooseCoding_100 : decode b_Wrt_chooseCoding 100 = .ok (.invokevirtual 233, 3) := by decide +kernel
theorem d_Wrt_chooseCoding_103 : decode b_Wrt_chooseCoding 103 = .ok (.goto 18, 3) := by decide +kernel
theorem d_Wrt_chooseCoding_24 : decode b_Wrt_chooseCoding 24 = .ok (.iload 4, 2) := by decide +kernel
theorem d_Wrt_chooseCoding_26 : decode b_Wrt_chooseCoding 26 = .ok (.iload_n 2, 1) := by decide +kernel
theorem d_Wrt_chooseCoding_27 : decode b_Wrt_chooseCoding 27 = .ok (.if_icmp .gt 145, 3) := by decide +kernel
theorem d_Wrt_chooseCoding_172 : decode b_Wrt_chooseCoding 172 = .ok (.iload_n 3, 1) := by decide +kernel
theorem d_Wrt_chooseCoding_173 : decode b_Wrt_chooseCoding 173 = .ok (.ireturn, 1) := by decide +kernel
theorem d_Wrt_chooseCoding_30 : decode b_Wrt_chooseCoding 30 = .ok (.aload_n 0, 1) := by decide +kernel
theorem d_Wrt_chooseCoding_31 : decode b_Wrt_chooseCoding 31 = .ok (.getfield 30, 3) := by decide +kernel
theorem d_Wrt_chooseCoding_34 : decode b_Wrt_chooseCoding 34 = .ok (.invokevirtual 81, 3) := by decide +kernel
theorem d_Wrt_chooseCoding_37 : decode b_Wrt_chooseCoding 37 = .ok (.iload 4, 2) := by decide +kernel
theorem d_Wrt_chooseCoding_39 : decode b_Wrt_chooseCoding 39 = .ok (.ifCond .ne 19, 3) := by decide +kernel
theorem d_Wrt_chooseCoding_58 : decode b_Wrt_chooseCoding 58 = .ok (.iload_n 1, 1) := by decide +kernel
theorem d_Wrt_chooseCoding_59 : decode b_Wrt_chooseCoding 59 = .ok (.ifCond .ne 10, 3) := by decide +kernel
theorem d_Wrt_chooseCoding_69 : decode b_Wrt_chooseCoding 69 = .ok (.iload 4, 2) := by decide +kernel
theorem d_Wrt_chooseCoding_71 : decode b_Wrt_chooseCoding 71 = .ok (.iload_n 2, 1) := by decide +kernel
theorem d_Wrt_chooseCoding_72 : decode b_Wrt_chooseCoding 72 = .ok (.if_icmp .ne 11, 3) := by decide +kernel
theorem d_Wrt_chooseCoding_83 : decode b_Wrt_chooseCoding 83 = .ok (.iload_n 1, 1) := by decide +kernel
theorem d_Wrt_chooseCoding_84 : decode b_Wrt_chooseCoding 84 = .ok (.iconst 3, 1) := by decide +kernel
theorem d_Wrt_chooseCoding_85 : decode b_Wrt_chooseCoding 85 = .ok (.if_icmp .ne 21, 3) := by decide +kernel
theorem d_Wrt_chooseCoding_106 : decode b_Wrt_chooseCoding 106 = .ok (.aload_n 0, 1) := by decide +kernel
theorem d_Wrt_chooseCoding_107 : decode b_Wrt_chooseCoding 107 = .ok (.getfield 30, 3) := by decide +kernel
theorem d_Wrt_chooseCoding_110 : decode b_Wrt_chooseCoding 110 = .ok (.aload_n 0, 1) := by decide +kernel
theorem d_Wrt_chooseCoding_111 : decode b_Wrt_chooseCoding 111 = .ok (.getfield 43, 3) := by decide +kernel
theorem d_Wrt_chooseCoding_114 : decode b_Wrt_chooseCoding 114 = .ok (.aload_n 0, 1) := by decide +kernel
theorem d_Wrt_chooseCoding_115 : decode b_Wrt_chooseCoding 115 = .ok (.getfield 154, 3) := by decide +kernel
theorem d_Wrt_chooseCoding_118 : decode b_Wrt_chooseCoding 118 = .ok (.invokevirtual 237, 3) := by decide +kernel
theorem d_Wrt_chooseCoding_88 : decode b_Wrt_chooseCoding 88 = .ok (.aload_n 0, 1) := by decide +kernel
theorem d_Wrt_chooseCoding_89 : decode b_Wrt_chooseCoding 89 = .ok (.iload 4, 2) := by decide +kernel
theorem d_Wrt_chooseCoding_91 : decode b_Wrt_chooseCoding 91 = .ok (.iconst 2, 1) := by decide +kernel
theorem d_Wrt_chooseCoding_92 : decode b_Wrt_chooseCoding 92 = .ok (.if_icmp .ne 7, 3) := by decide +kernel
theorem d_Wrt_chooseCoding_99 : decode b_Wrt_chooseCoding 99 = .ok (.iconst 0, 1) := by decide +kernel
theorem d_Wrt_chooseCoding_95 : decode b_Wrt_chooseCoding 95 = .ok (.iconst 1, 1) := by decide +kernel
theorem d_Wrt_chooseCoding_96 : decode b_Wrt_chooseCoding 96 = .ok (.goto 4, 3) := by decide +kernel
theorem d_Wrt_chooseCoding_75 : decode b_Wrt_chooseCoding 75 = .ok (.aload_n 0, 1) := by decide +kernel
theorem d_Wrt_chooseCoding_76 : decode b_Wrt_chooseCoding 76 = .ok (.iload_n 1, 1) := by decide +kernel
theorem d_Wrt_chooseCoding_77 : decode b_Wrt_chooseCoding 77 = .ok (.invokevirtual 230, 3) := by decide +kernel
theorem d_Wrt_chooseCoding_80 : decode b_Wrt_chooseCoding 80 = .ok (.goto 41, 3) := by decide +kernel
theorem d_Wrt_chooseCoding_62 : decode b_Wrt_chooseCoding 62 = .ok (.aload_n 0, 1) := by decide +kernel
theorem d_Wrt_chooseCoding_63 : decode b_Wrt_chooseCoding 63 = .ok (.invokevirtual 227, 3) := by decide +kernel
theorem d_Wrt_chooseCoding_66 : decode b_Wrt_chooseCoding 66 = .ok (.goto 55, 3) := by decide +kernel
theorem d_Wrt_chooseCoding_42 : decode b_Wrt_chooseCoding 42 = .ok (.aload_n 0, 1) := by decide +kernel
theorem d_Wrt_chooseCoding_43 : decode b_Wrt_chooseCoding 43 = .ok (.iload_n 1, 1) := by decide +kernel
theorem d_Wrt_chooseCoding_44 : decode b_Wrt_chooseCoding 44 = .ok (.aload_n 0, 1) := by decide +kernel
theorem d_Wrt_chooseCoding_45 : decode b_Wrt_chooseCoding 45 = .ok (.getfield 43, 3) := by decide +kernel
theorem d_Wrt_chooseCoding_48 : decode b_Wrt_chooseCoding 48 = .ok (.aload_n 0, 1) := by decide +kernel
theorem d_Wrt_chooseCoding_49 : decode b_Wrt_chooseCoding 49 = .ok (.getfield 154, 3) := by decide +kernel
theorem d_Wrt_chooseCoding_52 : decode b_Wrt_chooseCoding 52 = .ok (.invokevirtual 223, 3) := by decide +kernel
theorem d_Wrt_chooseCoding_55 : decode b_Wrt_chooseCoding 55 = .ok (.goto 66, 3) := by decide +kernel
theorem d_Wrt_chooseCoding_18 : decode b_Wrt_chooseCoding 18 = .ok (.istore_n 2, 1) := by decide +kernel
theorem d_Wrt_chooseCoding_19 : decode b_Wrt_chooseCoding 19 = .ok (.iconst 0, 1) := by decide +kernel
theorem d_Wrt_chooseCoding_20 : decode b_Wrt_chooseCoding 20 = .ok (.istore_n 3, 1) := by decide +kernel
theorem d_Wrt_chooseCoding_21 : decode b_Wrt_chooseCoding 21 = .ok (.iconst 0, 1) := by decide +kernel
theorem d_Wrt_chooseCoding_22 : decode b_Wrt_chooseCoding 22 = .ok (.istore 4, 2) := by decide +kernel
theorem d_Wrt_chooseCoding_0 : decode b_Wrt_chooseCoding 0 = .ok (.iload_n 1, 1) := by decide +kernel
theorem d_Wrt_chooseCoding_1 : decode b_Wrt_chooseCoding 1 = .ok (.ifCond .ne 7, 3) := by decide +kernel
theorem d_Wrt_chooseCoding_8 : decode b_Wrt_chooseCoding 8 = .ok (.iload_n 1, 1) := by decide +kernel
theorem d_Wrt_chooseCoding_9 : decode b_Wrt_chooseCoding 9 = .ok (.iconst 3, 1) := by decide +kernel
theorem d_Wrt_chooseCoding_10 : decode b_Wrt_chooseCoding 10 = .ok (.if_icmp .ne 7, 3) := by decide +kernel
theorem d_Wrt_chooseCoding_17 : decode b_Wrt_chooseCoding 17 = .ok (.iconst 2, 1) := by decide +kernel
theorem d_Wrt_chooseCoding_13 : decode b_Wrt_chooseCoding 13 = .ok (.iconst 3, 1) := by decide +kernel
theorem d_Wrt_chooseCoding_14 : decode b_Wrt_chooseCoding 14 = .ok (.goto 4, 3) := by decide +kernel
theorem d_Wrt_chooseCoding_4 : decode b_Wrt_chooseCoding 4 = .ok (.iconst 1, 1) := by decide +kernel
theorem d_Wrt_chooseCoding_5 : decode b_Wrt_chooseCoding 5 = .ok (.goto 13, 3) := by decide +kernel
theorem d_Wrt_putLevels_0 : decode b_Wrt_putLevels 0 = .ok (.iload_n 2, 1) := by decide +kernel
theorem d_Wrt_putLevels_1 : decode b_Wrt_putLevels 1 = .ok (.ifCond .ne 4, 3) := by decide +kernel
theorem d_Wrt_putLevels_5 : decode b_Wrt_putLevels 5 = .ok (.aload_n 0, 1) := by decide +kernel
theorem d_Wrt_putLevels_6 : decode b_Wrt_putLevels 6 = .ok (.getfield 24, 3) := by decide +kernel
theorem d_Wrt_putLevels_9 : decode b_Wrt_putLevels 9 = .ok (.getfield 126, 3) := by decide +kernel
theorem d_Wrt_putLevels_12 : decode b_Wrt_putLevels 12 = .ok (.istore_n 3, 1) := by decide +kernel
theorem d_Wrt_putLevels_13 : decode b_Wrt_putLevels 13 = .ok (.aload_n 0, 1) := by decide +kernel
theorem d_Wrt_putLevels_14 : decode b_Wrt_putLevels 14 = .ok (.getfield 24, 3) := by decide +kernel
theorem d_Wrt_putLevels_17 : decode b_Wrt_putLevels 17 = .ok (.aload_n 1, 1) := by decide +kernel
theorem d_Wrt_putLevels_18 : decode b_Wrt_putLevels 18 = .ok (.aload_n 0, 1) := by decide +kernel
theorem d_Wrt_putLevels_19 : decode b_Wrt_putLevels 19 = .ok (.getfield 168, 3) := by decide +kernel
theorem d_Wrt_putLevels_22 : decode b_Wrt_putLevels 22 = .ok (.iload_n 2, 1) := by decide +kernel
theorem d_Wrt_putLevels_23 : decode b_Wrt_putLevels 23 = .ok (.i2l, 1) := by decide +kernel
theorem d_Wrt_putLevels_24 : decode b_Wrt_putLevels 24 = .ok (.invokestatic 213, 3) := by decide +kernel
theorem d_Wrt_putLevels_27 : decode b_Wrt_putLevels 27 = .ok (.invokevirtual 216, 3) := by decide +kernel
theorem d_Wrt_putLevels_30 : decode b_Wrt_putLevels 30 = .ok (.aload_n 0, 1) := by decide +kernel
theorem d_Wrt_putLevels_31 : decode b_Wrt_putLevels 31 = .ok (.getfield 24, 3) := by decide +kernel
theorem d_Wrt_putLevels_34 : decode b_Wrt_putLevels 34 = .ok (.iload_n 3, 1) := by decide +kernel
theorem d_Wrt_putLevels_35 : decode b_Wrt_putLevels 35 = .ok (.invokevirtual 220, 3) := by decide +kernel
theorem d_Wrt_putLevels_38 : decode b_Wrt_putLevels 38 = .ok (.return_, 1) := by decide +kernel
theorem d_Wrt_putLevels_4 : decode b_Wrt_putLevels 4 = .ok (.return_, 1) := by decide +kernel
theorem d_Snk_putTold_0 : decode b_Snk_putTold 0 = .ok (.iload_n 1, 1) := by decide +kernel
theorem d_Snk_putTold_1 : decode b_Snk_putTold 1 = .ok (.iconst 3, 1) := by decide +kernel
theorem d_Snk_putTold_2 : decode b_Snk_putTold 2 = .ok (.if_icmp .ne 12, 3) := by decide +kernel
theorem d_Snk_putTold_14 : decode b_Snk_putTold 14 = .ok (.iload_n 1, 1) := by decide +kernel
theorem d_Snk_putTold_15 : decode b_Snk_putTold 15 = .ok (.ifCond .ne 12, 3) := by decide +kernel
theorem d_Snk_putTold_27 : decode b_Snk_putTold 27 = .ok (.aload_n 0, 1) := by decide +kernel
theorem d_Snk_putTold_28 : decode b_Snk_putTold 28 = .ok (.lload_n 3, 1) := by decide +kernel
theorem d_Snk_putTold_29 : decode b_Snk_putTold 29 = .ok (.invokestatic 80, 3) := by decide +kernel
theorem d_Snk_putTold_32 : decode b_Snk_putTold 32 = .ok (.invokevirtual 65, 3) := by decide +kernel
theorem d_Snk_putTold_35 : decode b_Snk_putTold 35 = .ok (.return_, 1) := by decide +kernel
theorem d_Snk_putTold_18 : decode b_Snk_putTold 18 = .ok (.aload_n 0, 1) := by decide +kernel
theorem d_Snk_putTold_19 : decode b_Snk_putTold 19 = .ok (.lload_n 3, 1) := by decide +kernel
theorem d_Snk_putTold_20 : decode b_Snk_putTold 20 = .ok (.l2i, 1) := by decide +kernel
theorem d_Snk_putTold_21 : decode b_Snk_putTold 21 = .ok (.invokevirtual 57, 3) := by decide +kernel
theorem d_Snk_putTold_24 : decode b_Snk_putTold 24 = .ok (.goto 11, 3) := by decide +kernel
theorem d_Snk_putTold_5 : decode b_Snk_putTold 5 = .ok (.aload_n 0, 1) := by decide +kernel
theorem d_Snk_putTold_6 : decode b_Snk_putTold 6 = .ok (.aload_n 2, 1) := by decide +kernel
theorem d_Snk_putTold_7 : decode b_Snk_putTold 7 = .ok (.lload_n 3, 1) := by decide +kernel
theorem d_Snk_putTold_8 : decode b_Snk_putTold 8 = .ok (.invokevirtual 76, 3) := by decide +kernel
theorem d_Snk_putTold_11 : decode b_Snk_putTold 11 = .ok (.goto 24, 3) := by decide +kernel
theorem d_Wrt_putPage_174 : decode b_Wrt_putPage 174 = .ok (.aload_n 0, 1) := by decide +kernel
theorem d_Wrt_putPage_175 : decode b_Wrt_putPage 175 = .ok (.getfield 15, 3) := by decide +kernel
theorem d_Wrt_putPage_178 : decode b_Wrt_putPage 178 = .ok (.aload_n 0, 1) := by decide +kernel
theorem d_Wrt_putPage_179 : decode b_Wrt_putPage 179 = .ok (.getfield 24, 3) := by decide +kernel
theorem d_Wrt_putPage_182 : decode b_Wrt_putPage 182 = .ok (.getfield 126, 3) := by decide +kernel
theorem d_Wrt_putPage_185 : decode b_Wrt_putPage 185 = .ok (.i2l, 1) := by decide +kernel
theorem d_Wrt_putPage_186 : decode b_Wrt_putPage 186 = .ok (.invokevirtual 98, 3) := by decide +kernel
theorem d_Wrt_putPage_189 : decode b_Wrt_putPage 189 = .ok (.aload_n 0, 1) := by decide +kernel
theorem d_Wrt_putPage_190 : decode b_Wrt_putPage 190 = .ok (.getfield 15, 3) := by decide +kernel
theorem d_Wrt_putPage_193 : decode b_Wrt_putPage 193 = .ok (.aload_n 0, 1) := by decide +kernel
theorem d_Wrt_putPage_194 : decode b_Wrt_putPage 194 = .ok (.getfield 24, 3) := by decide +kernel
theorem d_Wrt_putPage_197 : decode b_Wrt_putPage 197 = .ok (.getfield 123, 3) := by decide +kernel
theorem d_Wrt_putPage_200 : decode b_Wrt_putPage 200 = .ok (.iconst 0, 1) := by decide +kernel
theorem d_Wrt_putPage_201 : decode b_Wrt_putPage 201 = .ok (.aload_n 0, 1) := by decide +kernel
theorem d_Wrt_putPage_202 : decode b_Wrt_putPage 202 = .ok (.getfield 24, 3) := by decide +kernel
theorem d_Wrt_putPage_205 : decode b_Wrt_putPage 205 = .ok (.getfield 126, 3) := by decide +kernel
theorem d_Wrt_putPage_208 : decode b_Wrt_putPage 208 = .ok (.invokestatic 131, 3) := by decide +kernel
theorem d_Wrt_putPage_211 : decode b_Wrt_putPage 211 = .ok (.i2l, 1) := by decide +kernel
theorem d_Wrt_putPage_212 : decode b_Wrt_putPage 212 = .ok (.iconst 4, 1) := by decide +kernel
theorem d_Wrt_putPage_213 : decode b_Wrt_putPage 213 = .ok (.invokevirtual 127, 3) := by decide +kernel
theorem d_Wrt_putPage_216 : decode b_Wrt_putPage 216 = .ok (.aload_n 0, 1) := by decide +kernel
theorem d_Wrt_putPage_217 : decode b_Wrt_putPage 217 = .ok (.getfield 15, 3) := by decide +kernel
theorem d_Wrt_putPage_220 : decode b_Wrt_putPage 220 = .ok (.aload_n 0, 1) := by decide +kernel
theorem d_Wrt_putPage_221 : decode b_Wrt_putPage 221 = .ok (.getfield 24, 3) := by decide +kernel
theorem d_Wrt_putPage_224 : decode b_Wrt_putPage 224 = .ok (.getfield 123, 3) := by decide +kernel
theorem d_Wrt_putPage_227 : decode b_Wrt_putPage 227 = .ok (.iconst 0, 1) := by decide +kernel
theorem d_Wrt_putPage_228 : decode b_Wrt_putPage 228 = .ok (.aload_n 0, 1) := by decide +kernel
theorem d_Wrt_putPage_229 : decode b_Wrt_putPage 229 = .ok (.getfield 24, 3) := by decide +kernel
theorem d_Wrt_putPage_232 : decode b_Wrt_putPage 232 = .ok (.getfield 126, 3) := by decide +kernel
theorem d_Wrt_putPage_235 : decode b_Wrt_putPage 235 = .ok (.invokevirtual 88, 3) := by decide +kernel
theorem d_Wrt_putPage_238 : decode b_Wrt_putPage 238 = .ok (.return_, 1) := by decide +kernel
theorem d_Wrt_putPage_0 : decode b_Wrt_putPage 0 = .ok (.aload_n 0, 1) := by decide +kernel
theorem d_Wrt_putPage_1 : decode b_Wrt_putPage 1 = .ok (.getfield 62, 3) := by decide +kernel
theorem d_Wrt_putPage_4 : decode b_Wrt_putPage 4 = .ok (.getfield 139, 3) := by decide +kernel
theorem d_Wrt_putPage_7 : decode b_Wrt_putPage 7 = .ok (.iload_n 1, 1) := by decide +kernel
theorem d_Wrt_putPage_8 : decode b_Wrt_putPage 8 = .ok (.iaload, 1) := by decide +kernel
theorem d_Wrt_putPage_9 : decode b_Wrt_putPage 9 = .ok (.istore_n 3, 1) := by decide +kernel
theorem d_Wrt_putPage_10 : decode b_Wrt_putPage 10 = .ok (.aload_n 0, 1) := by decide +kernel
theorem d_Wrt_putPage_11 : decode b_Wrt_putPage 11 = .ok (.getfield 62, 3) := by decide +kernel
theorem d_Wrt_putPage_14 : decode b_Wrt_putPage 14 = .ok (.getfield 105, 3) := by decide +kernel
theorem d_Wrt_putPage_17 : decode b_Wrt_putPage 17 = .ok (.iload_n 3, 1) := by decide +kernel
theorem d_Wrt_putPage_18 : decode b_Wrt_putPage 18 = .ok (.iaload, 1) := by decide +kernel
theorem d_Wrt_putPage_19 : decode b_Wrt_putPage 19 = .ok (.istore 4, 2) := by decide +kernel
theorem d_Wrt_putPage_21 : decode b_Wrt_putPage 21 = .ok (.aload_n 0, 1) := by decide +kernel
theorem d_Wrt_putPage_22 : decode b_Wrt_putPage 22 = .ok (.getfield 24, 3) := by decide +kernel
theorem d_Wrt_putPage_25 : decode b_Wrt_putPage 25 = .ok (.invokevirtual 81, 3) := by decide +kernel
theorem d_Wrt_putPage_28 : decode b_Wrt_putPage 28 = .ok (.aload_n 0, 1) := by decide +kernel
theorem d_Wrt_putPage_29 : decode b_Wrt_putPage 29 = .ok (.aload_n 0, 1) := by decide +kernel
theorem d_Wrt_putPage_30 : decode b_Wrt_putPage 30 = .ok (.getfield 37, 3) := by decide +kernel
theorem d_Wrt_putPage_33 : decode b_Wrt_putPage 33 = .ok (.aload_n 0, 1) := by decide +kernel
theorem d_Wrt_putPage_34 : decode b_Wrt_putPage 34 = .ok (.getfield 62, 3) := by decide +kernel
theorem d_Wrt_putPage_37 : decode b_Wrt_putPage 37 = .ok (.getfield 204, 3) := by decide +kernel
theorem d_Wrt_putPage_40 : decode b_Wrt_putPage 40 = .ok (.iload_n 3, 1) := by decide +kernel
theorem d_Wrt_putPage_41 : decode b_Wrt_putPage 41 = .ok (.iaload, 1) := by decide +kernel
theorem d_Wrt_putPage_42 : decode b_Wrt_putPage 42 = .ok (.invokevirtual 206, 3) := by decide +kernel
theorem d_Wrt_putPage_45 : decode b_Wrt_putPage 45 = .ok (.aload_n 0, 1) := by decide +kernel
theorem d_Wrt_putPage_46 : decode b_Wrt_putPage 46 = .ok (.aload_n 0, 1) := by decide +kernel
theorem d_Wrt_putPage_47 : decode b_Wrt_putPage 47 = .ok (.getfield 40, 3) := by decide +kernel
theorem d_Wrt_putPage_50 : decode b_Wrt_putPage 50 = .ok (.aload_n 0, 1) := by decide +kernel
theorem d_Wrt_putPage_51 : decode b_Wrt_putPage 51 = .ok (.getfield 62, 3) := by decide +kernel
theorem d_Wrt_putPage_54 : decode b_Wrt_putPage 54 = .ok (.getfield 195, 3) := by decide +kernel
theorem d_Wrt_putPage_57 : decode b_Wrt_putPage 57 = .ok (.iload_n 3, 1) := by decide +kernel
theorem d_Wrt_putPage_58 : decode b_Wrt_putPage 58 = .ok (.iaload, 1) := by decide +kernel
theorem d_Wrt_putPage_59 : decode b_Wrt_putPage 59 = .ok (.invokevirtual 206, 3) := by decide +kernel
theorem d_Wrt_putPage_62 : decode b_Wrt_putPage 62 = .ok (.aload_n 0, 1) := by decide +kernel
theorem d_Wrt_putPage_63 : decode b_Wrt_putPage 63 = .ok (.getfield 24, 3) := by decide +kernel
theorem d_Wrt_putPage_66 : decode b_Wrt_putPage 66 = .ok (.aload_n 0, 1) := by decide +kernel
theorem d_Wrt_putPage_67 : decode b_Wrt_putPage 67 = .ok (.getfield 27, 3) := by decide +kernel
theorem d_Wrt_putPage_70 : decode b_Wrt_putPage 70 = .ok (.getfield 123, 3) := by decide +kernel
theorem d_Wrt_putPage_73 : decode b_Wrt_putPage 73 = .ok (.iconst 0, 1) := by decide +kernel
theorem d_Wrt_putPage_74 : decode b_Wrt_putPage 74 = .ok (.aload_n 0, 1) := by decide +kernel
theorem d_Wrt_putPage_75 : decode b_Wrt_putPage 75 = .ok (.getfield 27, 3) := by decide +kernel
theorem d_Wrt_putPage_78 : decode b_Wrt_putPage 78 = .ok (.getfield 126, 3) := by decide +kernel
theorem d_Wrt_putPage_81 : decode b_Wrt_putPage 81 = .ok (.invokevirtual 88, 3) := by decide +kernel
theorem d_Wrt_putPage_84 : decode b_Wrt_putPage 84 = .ok (.aload_n 0, 1) := by decide +kernel
theorem d_Wrt_putPage_85 : decode b_Wrt_putPage 85 = .ok (.getfield 15, 3) := by decide +kernel
theorem d_Wrt_putPage_88 : decode b_Wrt_putPage 88 = .ok (.aload_n 0, 1) := by decide +kernel
theorem d_Wrt_putPage_89 : decode b_Wrt_putPage 89 = .ok (.getfield 168, 3) := by decide +kernel
theorem d_Wrt_putPage_92 : decode b_Wrt_putPage 92 = .ok (.i2l, 1) := by decide +kernel
theorem d_Wrt_putPage_93 : decode b_Wrt_putPage 93 = .ok (.invokevirtual 98, 3) := by decide +kernel
theorem d_Wrt_putPage_96 : decode b_Wrt_putPage 96 = .ok (.aload_n 0, 1) := by decide +kernel
theorem d_Wrt_putPage_97 : decode b_Wrt_putPage 97 = .ok (.getfield 15, 3) := by decide +kernel
theorem d_Wrt_putPage_100 : decode b_Wrt_putPage 100 = .ok (.aload_n 0, 1) := by decide +kernel
theorem d_Wrt_putPage_101 : decode b_Wrt_putPage 101 = .ok (.getfield 168, 3) := by decide +kernel
theorem d_Wrt_putPage_104 : decode b_Wrt_putPage 104 = .ok (.aload_n 0, 1) := by decide +kernel
theorem d_Wrt_putPage_105 : decode b_Wrt_putPage 105 = .ok (.getfield 154, 3) := by decide +kernel
theorem d_Wrt_putPage_108 : decode b_Wrt_putPage 108 = .ok (.isub, 1) := by decide +kernel
theorem d_Wrt_putPage_109 : decode b_Wrt_putPage 109 = .ok (.i2l, 1) := by decide +kernel
theorem d_Wrt_putPage_110 : decode b_Wrt_putPage 110 = .ok (.invokevirtual 98, 3) := by decide +kernel
theorem d_Wrt_putPage_113 : decode b_Wrt_putPage 113 = .ok (.aload_n 0, 1) := by decide +kernel
theorem d_Wrt_putPage_114 : decode b_Wrt_putPage 114 = .ok (.getfield 15, 3) := by decide +kernel
theorem d_Wrt_putPage_117 : decode b_Wrt_putPage 117 = .ok (.iload_n 2, 1) := by decide +kernel
theorem d_Wrt_putPage_118 : decode b_Wrt_putPage 118 = .ok (.invokevirtual 108, 3) := by decide +kernel
theorem d_Wrt_putPage_121 : decode b_Wrt_putPage 121 = .ok (.aload_n 0, 1) := by decide +kernel
theorem d_Wrt_putPage_122 : decode b_Wrt_putPage 122 = .ok (.getfield 154, 3) := by decide +kernel
theorem d_Wrt_putPage_125 : decode b_Wrt_putPage 125 = .ok (.ifCond .le 49, 3) := by decide +kernel
theorem d_Wrt_putPage_128 : decode b_Wrt_putPage 128 = .ok (.aload_n 0, 1) := by decide +kernel
theorem d_Wrt_putPage_129 : decode b_Wrt_putPage 129 = .ok (.iload 4, 2) := by decide +kernel
theorem d_Wrt_putPage_131 : decode b_Wrt_putPage 131 = .ok (.invokevirtual 210, 3) := by decide +kernel
theorem d_Wrt_putPage_134 : decode b_Wrt_putPage 134 = .ok (.aload_n 0, 1) := by decide +kernel
theorem d_Wrt_putPage_135 : decode b_Wrt_putPage 135 = .ok (.getfield 15, 3) := by decide +kernel
theorem d_Wrt_putPage_138 : decode b_Wrt_putPage 138 = .ok (.iload 4, 2) := by decide +kernel
theorem d_Wrt_putPage_140 : decode b_Wrt_putPage 140 = .ok (.aload_n 0, 1) := by decide +kernel
theorem d_Wrt_putPage_141 : decode b_Wrt_putPage 141 = .ok (.getfield 66, 3) := by decide +kernel
theorem d_Wrt_putPage_144 : decode b_Wrt_putPage 144 = .ok (.getfield 171, 3) := by decide +kernel
theorem d_Wrt_putPage_147 : decode b_Wrt_putPage 147 = .ok (.aload_n 0, 1) := by decide +kernel
theorem d_Wrt_putPage_148 : decode b_Wrt_putPage 148 = .ok (.getfield 157, 3) := by decide +kernel
theorem d_Wrt_putPage_151 : decode b_Wrt_putPage 151 = .ok (.invokevirtual 174, 3) := by decide +kernel
theorem d_Wrt_putPage_154 : decode b_Wrt_putPage 154 = .ok (.aload_n 0, 1) := by decide +kernel
theorem d_Wrt_putPage_155 : decode b_Wrt_putPage 155 = .ok (.getfield 15, 3) := by decide +kernel
theorem d_Wrt_putPage_158 : decode b_Wrt_putPage 158 = .ok (.iload 4, 2) := by decide +kernel
theorem d_Wrt_putPage_160 : decode b_Wrt_putPage 160 = .ok (.aload_n 0, 1) := by decide +kernel
theorem d_Wrt_putPage_161 : decode b_Wrt_putPage 161 = .ok (.getfield 66, 3) := by decide +kernel
theorem d_Wrt_putPage_164 : decode b_Wrt_putPage 164 = .ok (.getfield 171, 3) := by decide +kernel
theorem d_Wrt_putPage_167 : decode b_Wrt_putPage 167 = .ok (.aload_n 0, 1) := by decide +kernel
theorem d_Wrt_putPage_168 : decode b_Wrt_putPage 168 = .ok (.getfield 165, 3) := by decide +kernel
theorem d_Wrt_putPage_171 : decode b_Wrt_putPage 171 = .ok (.invokevirtual 174, 3) := by decide +kernel
section
variable (l : Launch) (dC : Nat → ClassId) (dI : Nat → Nat → Nat) (cI cB cJ cZ : ClassId)
set_option maxRecDepth 100000 in
set_option maxHeartbeats 4000000 in
set_option maxRecDepth 100000 in
theorem t_Wrt_chooseCoding_166 {p : Program} {l : Launch} {e : Env} {R : Room} {s : State} {m : MethodId} {args : Array Value} {below : List Frame} {meth : Method} {c : Code} {Q : State → Prop} {dC : Nat → ClassId} {dI : Nat → Nat → Nat} {cI cB cJ cZ : ClassId} {A : Nat → Prop} {E : Heap} {tM tC : Nat} {kK kV : Nat → Nat} {ad0 : Nat → Nat} {NN0 : Nat} {post : Int32 → St → Prop} {rec24 : Nat → Int32 → Int32 → Int32 → Int32 → Nat → Nat → St → Prop} (hx : p.tables.exec = Jvm.exec) (hb : c.code = b_Wrt_chooseCoding) (hml : c.maxLocals = 6) (hown : s.vm.findClass R_Wrt = some m.cls) (hT : ∀ w ∈ TG, w.before args s = true) (hK : va_K (dC, dI) CL (TY cI cB cJ cZ) s) (hN : NW s) (hA : ∀ q : Nat, s.heap.size ≤ q → A q) (hRf : 7 ≤ R.frames) (hRl : 325 ≤ R.locals) (hE : CE E tM tC kK kV A s) (hret : ∀ (r : Int32) (ad : Nat → Nat) (NN cells slots : Nat) (x : St) (H : Heap) (locs : List Loc) (pc : Nat) (ls : Array Slot), decode b_Wrt_chooseCoding pc = .ok (.ireturn, 1) → (NN0 ≤ NN ∧ ∀ o : Nat, o < NN0 → ad o = ad0 o) → cells ≤ R.cells → slots ≤ R.slots → post r x → Wd dC dI cI cB cJ cZ ad stC kcC NN A x H → va_S A s.heap H locs → W p l e R s m args below meth c H locs cells slots Q (F0 m pc ls [.int r])) (hrec24 : ∀ (ad : Nat → Nat) (NN cells slots : Nat) (o : Nat) (l1 : Int32) (l2 : Int32) (l3 : Int32) (l4 : Int32) (kb : Nat) (nb : Nat) (x : St) (H : Heap) (locs : List Loc) (ls : Array Slot), (152 ≤ NN) → (NN0 ≤ NN ∧ ∀ o : Nat, o < NN0 → ad o = ad0 o) → (cells + kb ≤ R.cells) → (slots + nb ≤ R.slots) → (o < NN ∧ kcC o = 5) → rec24 o l1 l2 l3 l4 kb nb x → Wd dC dI cI cB cJ cZ ad stC kcC NN A x H → va_S A s.heap H locs → lv_has ls 6 [(0, .ref (ad o)), (1, .int l1), (2, .int l2), (3, .int l3), (4, .int l4)] → W p l e R s m args below meth c H locs cells slots Q (F0 m 24 ls [])) : ∀ (ad : Nat → Nat) (NN cells slots : Nat) (o : Nat) (l1 : Int32) (l2 : Int32) (l3 : Int32) (l4 : Int32) (kb : Nat) (nb : Nat) (x : St) (H : Heap) (locs : List Loc) (ls : Array Slot), (152 ≤ NN) → (NN0 ≤ NN ∧ ∀ o : Nat, o < NN0 → ad o = ad0 o) → (cells + kb ≤ R.cells) → (slots + nb ≤ R.slots) → (o < NN ∧ kcC o = 5) → j_Wrt_chooseCoding_166 post rec24 o l1 l2 l3 l4 kb nb x → Wd dC dI cI cB cJ cZ ad stC kcC NN A x H → va_S A s.heap H locs → lv_has ls 6 [(0, .ref (ad o)), (1, .int l1), (2, .int l2), (3, .int l3), (4, .int l4)] → W p l e R s m args below meth c H locs cells slots Q (F0 m 166 ls []) := by
  intro ad NN cells slots o l1 l2 l3 l4 kb nb x H locs ls hNN hag hRc hRs fo hw hW hS hl
  unfold j_Wrt_chooseCoding_166 at hw
  refine lv_iinc (v := (l4 + 1)) (lv' := [(4, .int (l4 + 1)), (0, .ref (ad o)), (1, .int l1), (2, .int l2), (3, .int l3)]) hx hb d_Wrt_chooseCoding_166 hl (k := 4) rfl rfl (by decide) rfl (fun ls hl => ?_)
  refine lv_goto (tgt := 24) hx hb d_Wrt_chooseCoding_169 (by decide) ?_
  exact hrec24 ad NN cells slots o l1 l2 l3 (l4 + 1) kb nb x H locs ls hNN hag hRc hRs fo hw hW hS (lv_sub hl [1, 2, 3, 4, 0] rfl)
set_option maxRecDepth 100000 in
set_option maxHeartbeats 4000000 in
set_option maxRecDepth 100000 in
theorem t_Wrt_chooseCoding_143 {p : Program} {l : Launch} {e : Env} {R : Room} {s : State} {m : MethodId} {args : Array Value} {below : List Frame} {meth : Method} {c : Code} {Q : State → Prop} {dC : Nat → ClassId} {dI : Nat → Nat → Nat} {cI cB cJ cZ : ClassId} {A : Nat → Prop} {E : Heap} {tM tC : Nat} {kK kV : Nat → Nat} {ad0 : Nat → Nat} {NN0 : Nat} {post : Int32 → St → Prop} {rec24 : Nat → Int32 → Int32 → Int32 → Int32 → Nat → Nat → St → Prop} (hx : p.tables.exec = Jvm.exec) (hb : c.code = b_Wrt_chooseCoding) (hml : c.maxLocals = 6) (hown : s.vm.findClass R_Wrt = some m.cls) (hT : ∀ w ∈ TG, w.before args s = true) (hK : va_K (dC, dI) CL (TY cI cB cJ cZ) s) (hN : NW s) (hA : ∀ q : Nat, s.heap.size ≤ q → A q) (hRf : 7 ≤ R.frames) (hRl : 325 ≤ R.locals) (hE : CE E tM tC kK kV A s) (hret : ∀ (r : Int32) (ad : Nat → Nat) (NN cells slots : Nat) (x : St) (H : Heap) (locs : List Loc) (pc : Nat) (ls : Array Slot), decode b_Wrt_chooseCoding pc = .ok (.ireturn, 1) → (NN0 ≤ NN ∧ ∀ o : Nat, o < NN0 → ad o = ad0 o) → cells ≤ R.cells → slots ≤ R.slots → post r x → Wd dC dI cI cB cJ cZ ad stC kcC NN A x H → va_S A s.heap H locs → W p l e R s m args below meth c H locs cells slots Q (F0 m pc ls [.int r])) (hrec24 : ∀ (ad : Nat → Nat) (NN cells slots : Nat) (o : Nat) (l1 : Int32) (l2 : Int32) (l3 : Int32) (l4 : Int32) (kb : Nat) (nb : Nat) (x : St) (H : Heap) (locs : List Loc) (ls : Array Slot), (152 ≤ NN) → (NN0 ≤ NN ∧ ∀ o : Nat, o < NN0 → ad o = ad0 o) → (cells + kb ≤ R.cells) → (slots + nb ≤ R.slots) → (o < NN ∧ kcC o = 5) → rec24 o l1 l2 l3 l4 kb nb x → Wd dC dI cI cB cJ cZ ad stC kcC NN A x H → va_S A s.heap H locs → lv_has ls 6 [(0, .ref (ad o)), (1, .int l1), (2, .int l2), (3, .int l3), (4, .int l4)] → W p l e R s m args below meth c H locs cells slots Q (F0 m 24 ls [])) : ∀ (ad : Nat → Nat) (NN cells slots : Nat) (o : Nat) (l1 : Int32) (l2 : Int32) (l3 : Int32) (l4 : Int32) (kb : Nat) (nb : Nat) (x : St) (H : Heap) (locs : List Loc) (ls : Array Slot), (152 ≤ NN) → (NN0 ≤ NN ∧ ∀ o : Nat, o < NN0 → ad o = ad0 o) → (cells + kb ≤ R.cells) → (slots + nb ≤ R.slots) → (o < NN ∧ kcC o = 5) → j_Wrt_chooseCoding_143 post rec24 o l1 l2 l3 l4 kb nb x → Wd dC dI cI cB cJ cZ ad stC kcC NN A x H → va_S A s.heap H locs → lv_has ls 6 [(0, .ref (ad o)), (1, .int l1), (2, .int l2), (3, .int l3), (4, .int l4)] → W p l e R s m args below meth c H locs cells slots Q (F0 m 143 ls []) := by
  intro ad NN cells slots o l1 l2 l3 l4 kb nb x H locs ls hNN hag hRc hRs fo hw hW hS hl
  unfold j_Wrt_chooseCoding_143 at hw
  refine lv_aload_n hx hb d_Wrt_chooseCoding_143 rfl (lv_at hl 0 rfl) ?_
  obtain ⟨q1, hq1, hw⟩ := hw
  refine w_getr (q := q1) (k := 3) (t := 5) (C := R_Wrt) (T := F_Wrt) (N := 20) hx hb hT hown hK hW fo.1 fo.2 (by decide) in_Wrt rfl rfl (by decide) rfl fr_Wrt_3 w_2_54 d_Wrt_chooseCoding_144 hq1 (fun aq1 bq1 => ?_)
  have fq1 : q1 < NN ∧ kcC q1 = 1 := ⟨aq1, bq1⟩
  refine lv_astore (lv' := [(5, .ref (ad q1)), (0, .ref (ad o)), (1, .int l1), (2, .int l2), (3, .int l3), (4, .int l4)]) hx hb d_Wrt_chooseCoding_147 hl (by decide) rfl (fun ls hl => ?_)
  refine lv_aload_n hx hb d_Wrt_chooseCoding_149 rfl (lv_at hl 1 rfl) ?_
  refine lv_aload_n hx hb d_Wrt_chooseCoding_150 rfl (lv_at hl 1 rfl) ?_
  obtain ⟨q2, hq2, hw⟩ := hw
  refine w_getr (q := q2) (k := 4) (t := 5) (C := R_Wrt) (T := F_Wrt) (N := 20) hx hb hT hown hK hW fo.1 fo.2 (by decide) in_Wrt rfl rfl (by decide) rfl fr_Wrt_4 w_2_55 d_Wrt_chooseCoding_151 hq2 (fun aq2 bq2 => ?_)
  have fq2 : q2 < NN ∧ kcC q2 = 1 := ⟨aq2, bq2⟩
  refine w_putr (q := q2) (ty := .object "StripedVault$Sink") (k := 3) (t := 5) (C := R_Wrt) (T := F_Wrt) (N := 20) hx hb hT hown hK hW hS fo.1 fo.2 (by decide) in_Wrt t_Wrt t_Wrt_ok n_Wrt rfl rfl (by decide) rfl fr_Wrt_3 w_2_54 (by decide +kernel) rfl rfl fq2.1 fq2.2 d_Wrt_chooseCoding_154 (fun H locs hW hS => ?_)
  obtain ⟨x3, ex3⟩ : ∃ y : St, y = setR x o 3 (some q2) := ⟨_, rfl⟩
  rw [← ex3] at hW
  have hw := hw x3 ex3
  refine lv_aload_n hx hb d_Wrt_chooseCoding_157 rfl (lv_at hl 1 rfl) ?_
  refine lv_aload hx hb d_Wrt_chooseCoding_158 (lv_at hl 0 rfl) ?_
  refine w_putr (q := q1) (ty := .object "StripedVault$Sink") (k := 4) (t := 5) (C := R_Wrt) (T := F_Wrt) (N := 20) hx hb hT hown hK hW hS fo.1 fo.2 (by decide) in_Wrt t_Wrt t_Wrt_ok n_Wrt rfl rfl (by decide) rfl fr_Wrt_4 w_2_55 (by decide +kernel) rfl rfl fq1.1 fq1.2 d_Wrt_chooseCoding_160 (fun H locs hW hS => ?_)
  obtain ⟨x4, ex4⟩ : ∃ y : St, y = setR x3 o 4 (some q1) := ⟨_, rfl⟩
  rw [← ex4] at hW
  have hw := hw x4 ex4
  refine lv_iload hx hb d_Wrt_chooseCoding_163 (lv_at hl 5 rfl) ?_
  refine lv_istore_n (lv' := [(3, .int l4), (5, .ref (ad q1)), (0, .ref (ad o)), (1, .int l1), (2, .int l2), (4, .int l4)]) hx hb d_Wrt_chooseCoding_165 rfl hl (by decide) rfl (fun ls hl => ?_)
  exact t_Wrt_chooseCoding_166 hx hb hml hown hT hK hN hA hRf hRl hE hret hrec24 ad NN cells slots o l1 l2 l4 l4 kb nb x4 H locs ls hNN hag hRc hRs fo hw hW hS (lv_sub hl [2, 3, 4, 0, 5] rfl)
set_option maxRecDepth 100000 in
set_option maxHeartbeats 4000000 in
set_option maxRecDepth 100000 in
theorem t_Wrt_chooseCoding_121 {p : Program} {l : Launch} {e : Env} {R : Room} {s : State} {m : MethodId} {args : Array Value} {below : List Frame} {meth : Method} {c : Code} {Q : State → Prop} {dC : Nat → ClassId} {dI : Nat → Nat → Nat} {cI cB cJ cZ : ClassId} {A : Nat → Prop} {E : Heap} {tM tC : Nat} {kK kV : Nat → Nat} {ad0 : Nat → Nat} {NN0 : Nat} {post : Int32 → St → Prop} {rec24 : Nat → Int32 → Int32 → Int32 → Int32 → Nat → Nat → St → Prop} (hx : p.tables.exec = Jvm.exec) (hb : c.code = b_Wrt_chooseCoding) (hml : c.maxLocals = 6) (hown : s.vm.findClass R_Wrt = some m.cls) (hT : ∀ w ∈ TG, w.before args s = true) (hK : va_K (dC, dI) CL (TY cI cB cJ cZ) s) (hN : NW s) (hA : ∀ q : Nat, s.heap.size ≤ q → A q) (hRf : 7 ≤ R.frames) (hRl : 325 ≤ R.locals) (hE : CE E tM tC kK kV A s) (hret : ∀ (r : Int32) (ad : Nat → Nat) (NN cells slots : Nat) (x : St) (H : Heap) (locs : List Loc) (pc : Nat) (ls : Array Slot), decode b_Wrt_chooseCoding pc = .ok (.ireturn, 1) → (NN0 ≤ NN ∧ ∀ o : Nat, o < NN0 → ad o = ad0 o) → cells ≤ R.cells → slots ≤ R.slots → post r x → Wd dC dI cI cB cJ cZ ad stC kcC NN A x H → va_S A s.heap H locs → W p l e R s m args below meth c H locs cells slots Q (F0 m pc ls [.int r])) (hrec24 : ∀ (ad : Nat → Nat) (NN cells slots : Nat) (o : Nat) (l1 : Int32) (l2 : Int32) (l3 : Int32) (l4 : Int32) (kb : Nat) (nb : Nat) (x : St) (H : Heap) (locs : List Loc) (ls : Array Slot), (152 ≤ NN) → (NN0 ≤ NN ∧ ∀ o : Nat, o < NN0 → ad o = ad0 o) → (cells + kb ≤ R.cells) → (slots + nb ≤ R.slots) → (o < NN ∧ kcC o = 5) → rec24 o l1 l2 l3 l4 kb nb x → Wd dC dI cI cB cJ cZ ad stC kcC NN A x H → va_S A s.heap H locs → lv_has ls 6 [(0, .ref (ad o)), (1, .int l1), (2, .int l2), (3, .int l3), (4, .int l4)] → W p l e R s m args below meth c H locs cells slots Q (F0 m 24 ls [])) : ∀ (ad : Nat → Nat) (NN cells slots : Nat) (o : Nat) (l1 : Int32) (l2 : Int32) (l3 : Int32) (l4 : Int32) (kb : Nat) (nb : Nat) (x : St) (H : Heap) (locs : List Loc) (ls : Array Slot), (152 ≤ NN) → (NN0 ≤ NN ∧ ∀ o : Nat, o < NN0 → ad o = ad0 o) → (cells + kb ≤ R.cells) → (slots + nb ≤ R.slots) → (o < NN ∧ kcC o = 5) → j_Wrt_chooseCoding_121 post rec24 o l1 l2 l3 l4 kb nb x → Wd dC dI cI cB cJ cZ ad stC kcC NN A x H → va_S A s.heap H locs → lv_has ls 6 [(0, .ref (ad o)), (1, .int l1), (2, .int l2), (3, .int l3), (4, .int l4)] → W p l e R s m args below meth c H locs cells slots Q (F0 m 121 ls []) := by
  intro ad NN cells slots o l1 l2 l3 l4 kb nb x H locs ls hNN hag hRc hRs fo hw hW hS hl
  unfold j_Wrt_chooseCoding_121 at hw
  refine lv_iload hx hb d_Wrt_chooseCoding_121 (lv_at hl 4 rfl) ?_
  refine lv_if_eq (tgt := 143) hx hb d_Wrt_chooseCoding_123 (by decide) (fun c5 => ?_) (fun c5 => ?_)
  · have hw := hw.1 c5
    exact t_Wrt_chooseCoding_143 hx hb hml hown hT hK hN hA hRf hRl hE hret hrec24 ad NN cells slots o l1 l2 l3 l4 kb nb x H locs ls hNN hag hRc hRs fo hw hW hS (lv_sub hl [0, 1, 2, 3, 4] rfl)
  · have hw := hw.2 c5
    refine lv_aload_n hx hb d_Wrt_chooseCoding_126 rfl (lv_at hl 0 rfl) ?_
    obtain ⟨q6, hq6, hw⟩ := hw
    refine w_getr (q := q6) (k := 4) (t := 5) (C := R_Wrt) (T := F_Wrt) (N := 20) hx hb hT hown hK hW fo.1 fo.2 (by decide) in_Wrt rfl rfl (by decide) rfl fr_Wrt_4 w_2_55 d_Wrt_chooseCoding_127 hq6 (fun aq6 bq6 => ?_)
    have fq6 : q6 < NN ∧ kcC q6 = 1 := ⟨aq6, bq6⟩
    refine w_geti (k := 1) (t := 1) (C := R_Snk) (T := F_Snk) (N := 7) hx hb hT hown hK hW fq6.1 fq6.2 (by decide) in_Snk rfl rfl (by decide) rfl fr_Snk_1 w_1_46 d_Wrt_chooseCoding_130 ?_
    refine lv_aload_n hx hb d_Wrt_chooseCoding_133 rfl (lv_at hl 0 rfl) ?_
    obtain ⟨q7, hq7, hw⟩ := hw
    refine w_getr (q := q7) (k := 3) (t := 5) (C := R_Wrt) (T := F_Wrt) (N := 20) hx hb hT hown hK hW fo.1 fo.2 (by decide) in_Wrt rfl rfl (by decide) rfl fr_Wrt_3 w_2_54 d_Wrt_chooseCoding_134 hq7 (fun aq7 bq7 => ?_)
    have fq7 : q7 < NN ∧ kcC q7 = 1 := ⟨aq7, bq7⟩
    refine w_geti (k := 1) (t := 1) (C := R_Snk) (T := F_Snk) (N := 7) hx hb hT hown hK hW fq7.1 fq7.2 (by decide) in_Snk rfl rfl (by decide) rfl fr_Snk_1 w_1_46 d_Wrt_chooseCoding_137 ?_
    refine lv_icmp_ge (tgt := 166) hx hb d_Wrt_chooseCoding_140 (by decide) (fun c8 => ?_) (fun c8 => ?_)
    · have hw := hw.1 c8
      exact t_Wrt_chooseCoding_166 hx hb hml hown hT hK hN hA hRf hRl hE hret hrec24 ad NN cells slots o l1 l2 l3 l4 kb nb x H locs ls hNN hag hRc hRs fo hw hW hS (lv_sub hl [0, 1, 2, 3, 4] rfl)
    · have hw := hw.2 c8
      exact t_Wrt_chooseCoding_143 hx hb hml hown hT hK hN hA hRf hRl hE hret hrec24 ad NN cells slots o l1 l2 l3 l4 kb nb x H locs ls hNN hag hRc hRs fo hw hW hS (lv_sub hl [0, 1, 2, 3, 4] rfl)
set_option maxRecDepth 100000 in
set_option maxHeartbeats 4000000 in
set_option maxRecDepth 100000 in
theorem t_Wrt_chooseCoding_100 {p : Program} {l : Launch} {e : Env} {R : Room} {s : State} {m : MethodId} {args : Array Value} {below : List Frame} {meth : Method} {c : Code} {Q : State → Prop} {dC : Nat → ClassId} {dI : Nat → Nat → Nat} {cI cB cJ cZ : ClassId} {A : Nat → Prop} {E : Heap} {tM tC : Nat} {kK kV : Nat → Nat} {ad0 : Nat → Nat} {NN0 : Nat} {post : Int32 → St → Prop} {rec24 : Nat → Int32 → Int32 → Int32 → Int32 → Nat → Nat → St → Prop} (hx : p.tables.exec = Jvm.exec) (hb : c.code = b_Wrt_chooseCoding) (hml : c.maxLocals = 6) (hown : s.vm.findClass R_Wrt = some m.cls) (hT : ∀ w ∈ TG, w.before args s = true) (hK : va_K (dC, dI) CL (TY cI cB cJ cZ) s) (hN : NW s) (hA : ∀ q : Nat, s.heap.size ≤ q → A q) (hRf : 7 ≤ R.frames) (hRl : 325 ≤ R.locals) (hE : CE E tM tC kK kV A s) (hret : ∀ (r : Int32) (ad : Nat → Nat) (NN cells slots : Nat) (x : St) (H : Heap) (locs : List Loc) (pc : Nat) (ls : Array Slot), decode b_Wrt_chooseCoding pc = .ok (.ireturn, 1) → (NN0 ≤ NN ∧ ∀ o : Nat, o < NN0 → ad o = ad0 o) → cells ≤ R.cells → slots ≤ R.slots → post r x → Wd dC dI cI cB cJ cZ ad stC kcC NN A x H → va_S A s.heap H locs → W p l e R s m args below meth c H locs cells slots Q (F0 m pc ls [.int r])) (hrec24 : ∀ (ad : Nat → Nat) (NN cells slots : Nat) (o : Nat) (l1 : Int32) (l2 : Int32) (l3 : Int32) (l4 : Int32) (kb : Nat) (nb : Nat) (x : St) (H : Heap) (locs : List Loc) (ls : Array Slot), (152 ≤ NN) → (NN0 ≤ NN ∧ ∀ o : Nat, o < NN0 → ad o = ad0 o) → (cells + kb ≤ R.cells) → (slots + nb ≤ R.slots) → (o < NN ∧ kcC o = 5) → rec24 o l1 l2 l3 l4 kb nb x → Wd dC dI cI cB cJ cZ ad stC kcC NN A x H → va_S A s.heap H locs → lv_has ls 6 [(0, .ref (ad o)), (1, .int l1), (2, .int l2), (3, .int l3), (4, .int l4)] → W p l e R s m args below meth c H locs cells slots Q (F0 m 24 ls [])) : ∀ (ad : Nat → Nat) (NN cells slots : Nat) (o : Nat) (l1 : Int32) (l2 : Int32) (l3 : Int32) (l4 : Int32) (s0 : Int32) (s1 : Nat) (kb : Nat) (nb : Nat) (x : St) (H : Heap) (locs : List Loc) (ls : Array Slot), (152 ≤ NN) → (NN0 ≤ NN ∧ ∀ o : Nat, o < NN0 → ad o = ad0 o) → (cells + kb ≤ R.cells) → (slots + nb ≤ R.slots) → (o < NN ∧ kcC o = 5) → (s1 < NN ∧ kcC s1 = 5) → j_Wrt_chooseCoding_100 post rec24 o l1 l2 l3 l4 s0 s1 kb nb x → Wd dC dI cI cB cJ cZ ad stC kcC NN A x H → va_S A s.heap H locs → lv_has ls 6 [(0, .ref (ad o)), (1, .int l1), (2, .int l2), (3, .int l3), (4, .int l4)] → W p l e R s m args below meth c H locs cells slots Q (F0 m 100 ls [.int s0, .ref (ad s1)]) := by
  intro ad NN cells slots o l1 l2 l3 l4 s0 s1 kb nb x H locs ls hNN hag hRc hRs fo fs1 hw hW hS hl
  unfold j_Wrt_chooseCoding_100 at hw
  obtain ⟨k9, n10, k11, n12, ek9, en10, hw⟩ := hw
  have hF := hW.free hS hA
  refine va_callv (va_runV (C := R_Wrt) (As := [.int s0]) (rest := []) ⟨hx, hb, hml, hown, hT⟩ (k_Wrt_putTexts l dC dI cI cB cJ cZ ad NN E tM tC kK kV hNN H.size s1 s0 k9 n10 x fs1 hw) ⟨callB_of 1 hT (gwt_in w_5_235) rfl rfl rfl (hT _ w_1_8) (hT _ w_5_232) (by decide +kernel) ⟨Nat.le_trans (Nat.le_of_ble_eq_true rfl) hRf, Nat.le_trans (Nat.le_of_ble_eq_true rfl) hRl⟩, hT _ w_5_234, hT _ ws_27⟩ ⟨PVc.blind, va_recv hK hW.1 (ci := 5) (q0 := s1) rfl (pic_obj fs1.1 fs1.2 (by decide)), PVc.at _ hW hK hN hE hS hF⟩ rfl rfl hl.1 rfl (lv_room (Nat.le_of_ble_eq_true rfl)) d_Wrt_chooseCoding_100 ⟨show cells + k9 ≤ R.cells by omega, show slots + n10 ≤ R.slots by omega⟩) hS (fun q _ h => hF q h) hF (fun  x13 t H locs ht hvm hw hB hz1 hk1 hS => ?_)
  obtain ⟨x13, ad, NN⟩ := x13
  obtain ⟨hB, hle, hg⟩ := hB
  try dsimp only at hw hB hle hg
  have hW := Wd.back hB ht hF
  rw [← hg o fo.1] at hl
  have fo : o < NN ∧ kcC o = 5 := ⟨Nat.lt_of_lt_of_le fo.1 hle, fo.2⟩
  have fs1 : s1 < NN ∧ kcC s1 = 5 := ⟨Nat.lt_of_lt_of_le fs1.1 hle, fs1.2⟩
  have hag : NN0 ≤ NN ∧ ∀ o : Nat, o < NN0 → ad o = ad0 o := ⟨Nat.le_trans hag.1 hle, fun o h => (hg o (Nat.lt_of_lt_of_le h hag.1)).trans (hag.2 o h)⟩
  have hNN : 152 ≤ NN := Nat.le_trans hNN hle
  clear hg hle
  obtain ⟨cells, ec⟩ : ∃ z, z = cells + k9 := ⟨_, rfl⟩
  obtain ⟨slots, es⟩ : ∃ z, z = slots + n10 := ⟨_, rfl⟩
  first | rw [← ec, ← es] | rw [Nat.add_zero, Nat.add_zero, ← ec, ← es]
  have hRc : cells + k11 ≤ R.cells := by omega
  have hRs : slots + n12 ≤ R.slots := by omega
  clear ec es hB ht hF hz1 hk1 hvm ek9 en10
  refine lv_goto (tgt := 121) hx hb d_Wrt_chooseCoding_103 (by decide) ?_
  exact t_Wrt_chooseCoding_121 hx hb hml hown hT hK hN hA hRf hRl hE hret hrec24 ad NN cells slots o l1 l2 l3 l4 k11 n12 x13 H locs ls hNN hag hRc hRs fo hw hW hS (lv_sub hl [0, 1, 2, 3, 4] rfl)
set_option maxRecDepth 100000 in
set_option maxHeartbeats 4000000 in
set_option maxRecDepth 100000 in
theorem t_Wrt_chooseCoding_24 {p : Program} {l : Launch} {e : Env} {R : Room} {s : State} {m : MethodId} {args : Array Value} {below : List Frame} {meth : Method} {c : Code} {Q : State → Prop} {dC : Nat → ClassId} {dI : Nat → Nat → Nat} {cI cB cJ cZ : ClassId} {A : Nat → Prop} {E : Heap} {tM tC : Nat} {kK kV : Nat → Nat} {ad0 : Nat → Nat} {NN0 : Nat} {post : Int32 → St → Prop} {rec24 : Nat → Int32 → Int32 → Int32 → Int32 → Nat → Nat → St → Prop} (hx : p.tables.exec = Jvm.exec) (hb : c.code = b_Wrt_chooseCoding) (hml : c.maxLocals = 6) (hown : s.vm.findClass R_Wrt = some m.cls) (hT : ∀ w ∈ TG, w.before args s = true) (hK : va_K (dC, dI) CL (TY cI cB cJ cZ) s) (hN : NW s) (hA : ∀ q : Nat, s.heap.size ≤ q → A q) (hRf : 7 ≤ R.frames) (hRl : 325 ≤ R.locals) (hE : CE E tM tC kK kV A s) (hret : ∀ (r : Int32) (ad : Nat → Nat) (NN cells slots : Nat) (x : St) (H : Heap) (locs : List Loc) (pc : Nat) (ls : Array Slot), decode b_Wrt_chooseCoding pc = .ok (.ireturn, 1) → (NN0 ≤ NN ∧ ∀ o : Nat, o < NN0 → ad o = ad0 o) → cells ≤ R.cells → slots ≤ R.slots → post r x → Wd dC dI cI cB cJ cZ ad stC kcC NN A x H → va_S A s.heap H locs → W p l e R s m args below meth c H locs cells slots Q (F0 m pc ls [.int r])) (hrec24 : ∀ (ad : Nat → Nat) (NN cells slots : Nat) (o : Nat) (l1 : Int32) (l2 : Int32) (l3 : Int32) (l4 : Int32) (kb : Nat) (nb : Nat) (x : St) (H : Heap) (locs : List Loc) (ls : Array Slot), (152 ≤ NN) → (NN0 ≤ NN ∧ ∀ o : Nat, o < NN0 → ad o = ad0 o) → (cells + kb ≤ R.cells) → (slots + nb ≤ R.slots) → (o < NN ∧ kcC o = 5) → rec24 o l1 l2 l3 l4 kb nb x → Wd dC dI cI cB cJ cZ ad stC kcC NN A x H → va_S A s.heap H locs → lv_has ls 6 [(0, .ref (ad o)), (1, .int l1), (2, .int l2), (3, .int l3), (4, .int l4)] → W p l e R s m args below meth c H locs cells slots Q (F0 m 24 ls [])) : ∀ (ad : Nat → Nat) (NN cells slots : Nat) (o : Nat) (l1 : Int32) (l2 : Int32) (l3 : Int32) (l4 : Int32) (kb : Nat) (nb : Nat) (x : St) (H : Heap) (locs : List Loc) (ls : Array Slot), (152 ≤ NN) → (NN0 ≤ NN ∧ ∀ o : Nat, o < NN0 → ad o = ad0 o) → (cells + kb ≤ R.cells) → (slots + nb ≤ R.slots) → (o < NN ∧ kcC o = 5) → j_Wrt_chooseCoding_24 post rec24 o l1 l2 l3 l4 kb nb x → Wd dC dI cI cB cJ cZ ad stC kcC NN A x H → va_S A s.heap H locs → lv_has ls 6 [(0, .ref (ad o)), (1, .int l1), (2, .int l2), (3, .int l3), (4, .int l4)] → W p l e R s m args below meth c H locs cells slots Q (F0 m 24 ls []) := by
  intro ad NN cells slots o l1 l2 l3 l4 kb nb x H locs ls hNN hag hRc hRs fo hw hW hS hl
  unfold j_Wrt_chooseCoding_24 at hw
  refine lv_iload hx hb d_Wrt_chooseCoding_24 (lv_at hl 4 rfl) ?_
  refine lv_iload_n hx hb d_Wrt_chooseCoding_26 rfl (lv_at hl 2 rfl) ?_
  refine lv_icmp_gt (tgt := 172) hx hb d_Wrt_chooseCoding_27 (by decide) (fun c14 => ?_) (fun c14 => ?_)
  · have hw := hw.1 c14
    refine lv_iload_n hx hb d_Wrt_chooseCoding_172 rfl (lv_at hl 3 rfl) ?_
    exact hret l3 ad NN cells slots x H locs 173 ls d_Wrt_chooseCoding_173 hag (Nat.le_trans (Nat.le_add_right _ _) hRc) (Nat.le_trans (Nat.le_add_right _ _) hRs) hw hW hS
  · have hw := hw.2 c14
    refine lv_aload_n hx hb d_Wrt_chooseCoding_30 rfl (lv_at hl 0 rfl) ?_
    obtain ⟨q15, hq15, hw⟩ := hw
    refine w_getr (q := q15) (k := 4) (t := 5) (C := R_Wrt) (T := F_Wrt) (N := 20) hx hb hT hown hK hW fo.1 fo.2 (by decide) in_Wrt rfl rfl (by decide) rfl fr_Wrt_4 w_2_55 d_Wrt_chooseCoding_31 hq15 (fun aq15 bq15 => ?_)
    have fq15 : q15 < NN ∧ kcC q15 = 1 := ⟨aq15, bq15⟩
    have hF := hW.free hS hA
    refine va_callv (va_runV (C := R_Snk) (As := []) (rest := []) ⟨hx, hb, hml, hown, hT⟩ (k_Snk_forget l dC dI cI cB cJ cZ ad NN E tM tC kK kV hNN H.size q15 x fq15 hw) ⟨callB_of 0 hT (gwt_in w_4_81) rfl rfl rfl (hT _ w_1_2) (hT _ w_5_132) (by decide +kernel) ⟨Nat.le_trans (Nat.le_of_ble_eq_true rfl) hRf, Nat.le_trans (Nat.le_of_ble_eq_true rfl) hRl⟩, hT _ w_4_79, hT _ w_4_80⟩ ⟨PVc.blind, va_recv hK hW.1 (ci := 1) (q0 := q15) rfl (pic_obj fq15.1 fq15.2 (by decide)), PVc.at _ hW hK hN hE hS hF⟩ rfl rfl hl.1 rfl (lv_room (Nat.le_of_ble_eq_true rfl)) d_Wrt_chooseCoding_34 ⟨(Nat.le_trans (Nat.le_add_right _ _) hRc), (Nat.le_trans (Nat.le_add_right _ _) hRs)⟩) hS (fun q _ h => hF q h) hF (fun  x16 t H locs ht hvm hw hB hz1 hk1 hS => ?_)
    have hW := Wd.back hB ht hF
    clear hB ht hF hz1 hk1 hvm
    refine lv_iload hx hb d_Wrt_chooseCoding_37 (lv_at hl 4 rfl) ?_
    refine lv_if_ne (tgt := 58) hx hb d_Wrt_chooseCoding_39 (by decide) (fun c17 => ?_) (fun c17 => ?_)
    · have hw := hw.1 c17
      refine lv_iload_n hx hb d_Wrt_chooseCoding_58 rfl (lv_at hl 1 rfl) ?_
      refine lv_if_ne (tgt := 69) hx hb d_Wrt_chooseCoding_59 (by decide) (fun c18 => ?_) (fun c18 => ?_)
      · have hw := hw.1 c18
        refine lv_iload hx hb d_Wrt_chooseCoding_69 (lv_at hl 4 rfl) ?_
        refine lv_iload_n hx hb d_Wrt_chooseCoding_71 rfl (lv_at hl 2 rfl) ?_
        refine lv_icmp_ne (tgt := 83) hx hb d_Wrt_chooseCoding_72 (by decide) (fun c19 => ?_) (fun c19 => ?_)
        · have hw := hw.1 c19
          refine lv_iload_n hx hb d_Wrt_chooseCoding_83 rfl (lv_at hl 1 rfl) ?_
          refine lv_iconst (v := 3) hx hb d_Wrt_chooseCoding_84 (by decide) ?_
          refine lv_icmp_ne (tgt := 106) hx hb d_Wrt_chooseCoding_85 (by decide) (fun c20 => ?_) (fun c20 => ?_)
          · have hw := hw.1 c20
            refine lv_aload_n hx hb d_Wrt_chooseCoding_106 rfl (lv_at hl 0 rfl) ?_
            obtain ⟨q21, hq21, hw⟩ := hw
            refine w_getr (q := q21) (k := 4) (t := 5) (C := R_Wrt) (T := F_Wrt) (N := 20) hx hb hT hown hK hW fo.1 fo.2 (by decide) in_Wrt rfl rfl (by decide) rfl fr_Wrt_4 w_2_55 d_Wrt_chooseCoding_107 hq21 (fun aq21 bq21 => ?_)
            have fq21 : q21 < NN ∧ kcC q21 = 1 := ⟨aq21, bq21⟩
            refine lv_aload_n hx hb d_Wrt_chooseCoding_110 rfl (lv_at hl 0 rfl) ?_
            refine w_getf (q := (stC o 10)) (k := 10) (t := 5) (C := R_Wrt) (T := F_Wrt) (N := 20) hx hb hT hown hK hW fo.1 fo.2 (by decide) in_Wrt rfl rfl (by decide) rfl fr_Wrt_10 w_2_61 d_Wrt_chooseCoding_111 rfl ?_
            refine lv_aload_n hx hb d_Wrt_chooseCoding_114 rfl (lv_at hl 0 rfl) ?_
            refine w_geti (k := 12) (t := 5) (C := R_Wrt) (T := F_Wrt) (N := 20) hx hb hT hown hK hW fo.1 fo.2 (by decide) in_Wrt rfl rfl (by decide) rfl fr_Wrt_12 w_2_63 d_Wrt_chooseCoding_115 ?_
            obtain ⟨k22, n23, k24, n25, ek22, en23, hw⟩ := hw
            have hF := hW.free hS hA
            refine va_callv (va_runV (C := R_Snk) (As := [.ref (ad (stC o 10)), .int (fI x16 o 12)]) (rest := []) ⟨hx, hb, hml, hown, hT⟩ (k_Snk_putCode l dC dI cI cB cJ cZ ad NN E tM tC kK kV hNN H.size q21 (stC o 10) (fI x16 o 12) k22 n23 x16 fq21 (st_ty hNN fo.1 fo.2 rfl) hw) ⟨callB_of 2 hT (gwt_in w_6_5) rfl rfl rfl (hT _ w_1_2) (hT _ w_6_2) (by decide +kernel) ⟨Nat.le_trans (Nat.le_of_ble_eq_true rfl) hRf, Nat.le_trans (Nat.le_of_ble_eq_true rfl) hRl⟩, hT _ w_6_3, hT _ w_6_4⟩ ⟨PVc.blind, va_recv hK hW.1 (ci := 1) (q0 := q21) rfl (pic_obj fq21.1 fq21.2 (by decide)), PVc.at _ hW hK hN hE hS hF⟩ rfl rfl hl.1 rfl (lv_room (Nat.le_of_ble_eq_true rfl)) d_Wrt_chooseCoding_118 ⟨show cells + k22 ≤ R.cells by omega, show slots + n23 ≤ R.slots by omega⟩) hS (fun q _ h => hF q h) hF (fun  x26 t H locs ht hvm hw hB hz1 hk1 hS => ?_)
            obtain ⟨x26, ad, NN⟩ := x26
            obtain ⟨hB, hle, hg⟩ := hB
            try dsimp only at hw hB hle hg
            have hW := Wd.back hB ht hF
            rw [← hg o fo.1] at hl
            have fo : o < NN ∧ kcC o = 5 := ⟨Nat.lt_of_lt_of_le fo.1 hle, fo.2⟩
            have fq15 : q15 < NN ∧ kcC q15 = 1 := ⟨Nat.lt_of_lt_of_le fq15.1 hle, fq15.2⟩
            have fq21 : q21 < NN ∧ kcC q21 = 1 := ⟨Nat.lt_of_lt_of_le fq21.1 hle, fq21.2⟩
            have hag : NN0 ≤ NN ∧ ∀ o : Nat, o < NN0 → ad o = ad0 o := ⟨Nat.le_trans hag.1 hle, fun o h => (hg o (Nat.lt_of_lt_of_le h hag.1)).trans (hag.2 o h)⟩
            have hNN : 152 ≤ NN := Nat.le_trans hNN hle
            clear hg hle
            obtain ⟨cells, ec⟩ : ∃ z, z = cells + k22 := ⟨_, rfl⟩
            obtain ⟨slots, es⟩ : ∃ z, z = slots + n23 := ⟨_, rfl⟩
            first | rw [← ec, ← es] | rw [Nat.add_zero, Nat.add_zero, ← ec, ← es]
            have hRc : cells + k24 ≤ R.cells := by omega
            have hRs : slots + n25 ≤ R.slots := by omega
            clear ec es hB ht hF hz1 hk1 hvm ek22 en23
            exact t_Wrt_chooseCoding_121 hx hb hml hown hT hK hN hA hRf hRl hE hret hrec24 ad NN cells slots o l1 l2 l3 l4 k24 n25 x26 H locs ls hNN hag hRc hRs fo hw hW hS (lv_sub hl [0, 1, 2, 3, 4] rfl)
          · have hw := hw.2 c20
            refine lv_aload_n hx hb d_Wrt_chooseCoding_88 rfl (lv_at hl 0 rfl) ?_
            refine lv_iload hx hb d_Wrt_chooseCoding_89 (lv_at hl 4 rfl) ?_
            refine lv_iconst (v := 2) hx hb d_Wrt_chooseCoding_91 (by decide) ?_
            refine lv_icmp_ne (tgt := 99) hx hb d_Wrt_chooseCoding_92 (by decide) (fun c27 => ?_) (fun c27 => ?_)
            · have hw := hw.1 c27
              refine lv_iconst (v := 0) hx hb d_Wrt_chooseCoding_99 (by decide) ?_
              exact t_Wrt_chooseCoding_100 hx hb hml hown hT hK hN hA hRf hRl hE hret hrec24 ad NN cells slots o l1 l2 l3 l4 0 o kb nb x16 H locs ls hNN hag hRc hRs fo fo hw hW hS (lv_sub hl [0, 1, 2, 3, 4] rfl)
            · have hw := hw.2 c27
              refine lv_iconst (v := 1) hx hb d_Wrt_chooseCoding_95 (by decide) ?_
              refine lv_goto (tgt := 100) hx hb d_Wrt_chooseCoding_96 (by decide) ?_
              exact t_Wrt_chooseCoding_100 hx hb hml hown hT hK hN hA hRf hRl hE hret hrec24 ad NN cells slots o l1 l2 l3 l4 1 o kb nb x16 H locs ls hNN hag hRc hRs fo fo hw hW hS (lv_sub hl [0, 1, 2, 3, 4] rfl)
        · have hw := hw.2 c19
          refine lv_aload_n hx hb d_Wrt_chooseCoding_75 rfl (lv_at hl 0 rfl) ?_
          refine lv_iload_n hx hb d_Wrt_chooseCoding_76 rfl (lv_at hl 1 rfl) ?_
          obtain ⟨k28, n29, k30, n31, ek28, en29, hw⟩ := hw
          have hF := hW.free hS hA
          refine va_callv (va_runV (C := R_Wrt) (As := [.int l1]) (rest := []) ⟨hx, hb, hml, hown, hT⟩ (k_Wrt_putDictionary l dC dI cI cB cJ cZ ad NN E tM tC kK kV hNN H.size o l1 k28 n29 x16 fo hw) ⟨callB_of 1 hT (gwt_in w_5_214) rfl rfl rfl (hT _ w_1_8) (hT _ w_5_211) (by decide +kernel) ⟨Nat.le_trans (Nat.le_of_ble_eq_true rfl) hRf, Nat.le_trans (Nat.le_of_ble_eq_true rfl) hRl⟩, hT _ w_5_213, hT _ ws_25⟩ ⟨PVc.blind, va_recv hK hW.1 (ci := 5) (q0 := o) rfl (pic_obj fo.1 fo.2 (by decide)), PVc.at _ hW hK hN hE hS hF⟩ rfl rfl hl.1 rfl (lv_room (Nat.le_of_ble_eq_true rfl)) d_Wrt_chooseCoding_77 ⟨show cells + k28 ≤ R.cells by omega, show slots + n29 ≤ R.slots by omega⟩) hS (fun q _ h => hF q h) hF (fun  x32 t H locs ht hvm hw hB hz1 hk1 hS => ?_)
          obtain ⟨x32, ad, NN⟩ := x32
          obtain ⟨hB, hle, hg⟩ := hB
          try dsimp only at hw hB hle hg
          have hW := Wd.back hB ht hF
          rw [← hg o fo.1] at hl
          have fo : o < NN ∧ kcC o = 5 := ⟨Nat.lt_of_lt_of_le fo.1 hle, fo.2⟩
          have fq15 : q15 < NN ∧ kcC q15 = 1 := ⟨Nat.lt_of_lt_of_le fq15.1 hle, fq15.2⟩
          have hag : NN0 ≤ NN ∧ ∀ o : Nat, o < NN0 → ad o = ad0 o := ⟨Nat.le_trans hag.1 hle, fun o h => (hg o (Nat.lt_of_lt_of_le h hag.1)).trans (hag.2 o h)⟩
          have hNN : 152 ≤ NN := Nat.le_trans hNN hle
          clear hg hle
          obtain ⟨cells, ec⟩ : ∃ z, z = cells + k28 := ⟨_, rfl⟩
          obtain ⟨slots, es⟩ : ∃ z, z = slots + n29 := ⟨_, rfl⟩
          first | rw [← ec, ← es] | rw [Nat.add_zero, Nat.add_zero, ← ec, ← es]
          have hRc : cells + k30 ≤ R.cells := by omega
          have hRs : slots + n31 ≤ R.slots := by omega
          clear ec es hB ht hF hz1 hk1 hvm ek28 en29
          refine lv_goto (tgt := 121) hx hb d_Wrt_chooseCoding_80 (by decide) ?_
          exact t_Wrt_chooseCoding_121 hx hb hml hown hT hK hN hA hRf hRl hE hret hrec24 ad NN cells slots o l1 l2 l3 l4 k30 n31 x32 H locs ls hNN hag hRc hRs fo hw hW hS (lv_sub hl [0, 1, 2, 3, 4] rfl)
      · have hw := hw.2 c18
        refine lv_aload_n hx hb d_Wrt_chooseCoding_62 rfl (lv_at hl 0 rfl) ?_
        obtain ⟨k33, n34, k35, n36, ek33, en34, hw⟩ := hw
        have hF := hW.free hS hA
        refine va_callv (va_runV (C := R_Wrt) (As := []) (rest := []) ⟨hx, hb, hml, hown, hT⟩ (k_Wrt_putBoolRuns l dC dI cI cB cJ cZ ad NN E tM tC kK kV hNN H.size o k33 n34 x16 fo hw) ⟨callB_of 0 hT (gwt_in w_5_193) rfl rfl rfl (hT _ w_1_8) (hT _ w_5_190) (by decide +kernel) ⟨Nat.le_trans (Nat.le_of_ble_eq_true rfl) hRf, Nat.le_trans (Nat.le_of_ble_eq_true rfl) hRl⟩, hT _ w_5_192, hT _ ws_22⟩ ⟨PVc.blind, va_recv hK hW.1 (ci := 5) (q0 := o) rfl (pic_obj fo.1 fo.2 (by decide)), PVc.at _ hW hK hN hE hS hF⟩ rfl rfl hl.1 rfl (lv_room (Nat.le_of_ble_eq_true rfl)) d_Wrt_chooseCoding_63 ⟨show cells + k33 ≤ R.cells by omega, show slots + n34 ≤ R.slots by omega⟩) hS (fun q _ h => hF q h) hF (fun  x37 t H locs ht hvm hw hB hz1 hk1 hS => ?_)
        obtain ⟨x37, ad, NN⟩ := x37
        obtain ⟨hB, hle, hg⟩ := hB
        try dsimp only at hw hB hle hg
        have hW := Wd.back hB ht hF
        rw [← hg o fo.1] at hl
        have fo : o < NN ∧ kcC o = 5 := ⟨Nat.lt_of_lt_of_le fo.1 hle, fo.2⟩
        have fq15 : q15 < NN ∧ kcC q15 = 1 := ⟨Nat.lt_of_lt_of_le fq15.1 hle, fq15.2⟩
        have hag : NN0 ≤ NN ∧ ∀ o : Nat, o < NN0 → ad o = ad0 o := ⟨Nat.le_trans hag.1 hle, fun o h => (hg o (Nat.lt_of_lt_of_le h hag.1)).trans (hag.2 o h)⟩
        have hNN : 152 ≤ NN := Nat.le_trans hNN hle
        clear hg hle
        obtain ⟨cells, ec⟩ : ∃ z, z = cells + k33 := ⟨_, rfl⟩
        obtain ⟨slots, es⟩ : ∃ z, z = slots + n34 := ⟨_, rfl⟩
        first | rw [← ec, ← es] | rw [Nat.add_zero, Nat.add_zero, ← ec, ← es]
        have hRc : cells + k35 ≤ R.cells := by omega
        have hRs : slots + n36 ≤ R.slots := by omega
        clear ec es hB ht hF hz1 hk1 hvm ek33 en34
        refine lv_goto (tgt := 121) hx hb d_Wrt_chooseCoding_66 (by decide) ?_
        exact t_Wrt_chooseCoding_121 hx hb hml hown hT hK hN hA hRf hRl hE hret hrec24 ad NN cells slots o l1 l2 l3 l4 k35 n36 x37 H locs ls hNN hag hRc hRs fo hw hW hS (lv_sub hl [0, 1, 2, 3, 4] rfl)
    · have hw := hw.2 c17
      refine lv_aload_n hx hb d_Wrt_chooseCoding_42 rfl (lv_at hl 0 rfl) ?_
      refine lv_iload_n hx hb d_Wrt_chooseCoding_43 rfl (lv_at hl 1 rfl) ?_
      refine lv_aload_n hx hb d_Wrt_chooseCoding_44 rfl (lv_at hl 0 rfl) ?_
      refine w_getf (q := (stC o 10)) (k := 10) (t := 5) (C := R_Wrt) (T := F_Wrt) (N := 20) hx hb hT hown hK hW fo.1 fo.2 (by decide) in_Wrt rfl rfl (by decide) rfl fr_Wrt_10 w_2_61 d_Wrt_chooseCoding_45 rfl ?_
      refine lv_aload_n hx hb d_Wrt_chooseCoding_48 rfl (lv_at hl 0 rfl) ?_
      refine w_geti (k := 12) (t := 5) (C := R_Wrt) (T := F_Wrt) (N := 20) hx hb hT hown hK hW fo.1 fo.2 (by decide) in_Wrt rfl rfl (by decide) rfl fr_Wrt_12 w_2_63 d_Wrt_chooseCoding_49 ?_
      obtain ⟨k38, n39, k40, n41, ek38, en39, hw⟩ := hw
      have hF := hW.free hS hA
      refine va_callv (va_runV (C := R_Wrt) (As := [.int l1, .ref (ad (stC o 10)), .int (fI x16 o 12)]) (rest := []) ⟨hx, hb, hml, hown, hT⟩ (k_Wrt_putPlain l dC dI cI cB cJ cZ ad NN E tM tC kK kV hNN H.size o l1 (stC o 10) (fI x16 o 12) k38 n39 x16 fo (st_ty hNN fo.1 fo.2 rfl) hw) ⟨callB_of 3 hT (gwt_in w_5_174) rfl rfl rfl (hT _ w_1_8) (hT _ w_5_171) (by decide +kernel) ⟨Nat.le_trans (Nat.le_of_ble_eq_true rfl) hRf, Nat.le_trans (Nat.le_of_ble_eq_true rfl) hRl⟩, hT _ w_5_173, hT _ ws_21⟩ ⟨PVc.blind, va_recv hK hW.1 (ci := 5) (q0 := o) rfl (pic_obj fo.1 fo.2 (by decide)), PVc.at _ hW hK hN hE hS hF⟩ rfl rfl hl.1 rfl (lv_room (Nat.le_of_ble_eq_true rfl)) d_Wrt_chooseCoding_52 ⟨show cells + k38 ≤ R.cells by omega, show slots + n39 ≤ R.slots by omega⟩) hS (fun q _ h => hF q h) hF (fun  x42 t H locs ht hvm hw hB hz1 hk1 hS => ?_)
      obtain ⟨x42, ad, NN⟩ := x42
      obtain ⟨hB, hle, hg⟩ := hB
      try dsimp only at hw hB hle hg
      have hW := Wd.back hB ht hF
      rw [← hg o fo.1] at hl
      have fo : o < NN ∧ kcC o = 5 := ⟨Nat.lt_of_lt_of_le fo.1 hle, fo.2⟩
      have fq15 : q15 < NN ∧ kcC q15 = 1 := ⟨Nat.lt_of_lt_of_le fq15.1 hle, fq15.2⟩
      have hag : NN0 ≤ NN ∧ ∀ o : Nat, o < NN0 → ad o = ad0 o := ⟨Nat.le_trans hag.1 hle, fun o h => (hg o (Nat.lt_of_lt_of_le h hag.1)).trans (hag.2 o h)⟩
      have hNN : 152 ≤ NN := Nat.le_trans hNN hle
      clear hg hle
      obtain ⟨cells, ec⟩ : ∃ z, z = cells + k38 := ⟨_, rfl⟩
      obtain ⟨slots, es⟩ : ∃ z, z = slots + n39 := ⟨_, rfl⟩
      first | rw [← ec, ← es] | rw [Nat.add_zero, Nat.add_zero, ← ec, ← es]
      have hRc : cells + k40 ≤ R.cells := by omega
      have hRs : slots + n41 ≤ R.slots := by omega
      clear ec es hB ht hF hz1 hk1 hvm ek38 en39
      refine lv_goto (tgt := 121) hx hb d_Wrt_chooseCoding_55 (by decide) ?_
      exact t_Wrt_chooseCoding_121 hx hb hml hown hT hK hN hA hRf hRl hE hret hrec24 ad NN cells slots o l1 l2 l3 l4 k40 n41 x42 H locs ls hNN hag hRc hRs fo hw hW hS (lv_sub hl [0, 1, 2, 3, 4] rfl)
set_option maxHeartbeats 4000000 in
set_option maxRecDepth 100000 in
theorem tl_Wrt_chooseCoding_24 {p : Program} {l : Launch} {e : Env} {R : Room} {s : State} {m : MethodId} {args : Array Value} {below : List Frame} {meth : Method} {c : Code} {Q : State → Prop} {dC : Nat → ClassId} {dI : Nat → Nat → Nat} {cI cB cJ cZ : ClassId} {A : Nat → Prop} {E : Heap} {tM tC : Nat} {kK kV : Nat → Nat} {ad0 : Nat → Nat} {NN0 : Nat} {post : Int32 → St → Prop} (hx : p.tables.exec = Jvm.exec) (hb : c.code = b_Wrt_chooseCoding) (hml : c.maxLocals = 6) (hown : s.vm.findClass R_Wrt = some m.cls) (hT : ∀ w ∈ TG, w.before args s = true) (hK : va_K (dC, dI) CL (TY cI cB cJ cZ) s) (hN : NW s) (hA : ∀ q : Nat, s.heap.size ≤ q → A q) (hRf : 7 ≤ R.frames) (hRl : 325 ≤ R.locals) (hE : CE E tM tC kK kV A s) (hret : ∀ (r : Int32) (ad : Nat → Nat) (NN cells slots : Nat) (x : St) (H : Heap) (locs : List Loc) (pc : Nat) (ls : Array Slot), decode b_Wrt_chooseCoding pc = .ok (.ireturn, 1) → (NN0 ≤ NN ∧ ∀ o : Nat, o < NN0 → ad o = ad0 o) → cells ≤ R.cells → slots ≤ R.slots → post r x → Wd dC dI cI cB cJ cZ ad stC kcC NN A x H → va_S A s.heap H locs → W p l e R s m args below meth c H locs cells slots Q (F0 m pc ls [.int r]))  : ∀ n : Nat, ∀ (ad : Nat → Nat) (NN cells slots : Nat) (o : Nat) (l1 : Int32) (l2 : Int32) (l3 : Int32) (l4 : Int32) (kb : Nat) (nb : Nat) (x : St) (H : Heap) (locs : List Loc) (ls : Array Slot), (152 ≤ NN) → (NN0 ≤ NN ∧ ∀ o : Nat, o < NN0 → ad o = ad0 o) → (cells + kb ≤ R.cells) → (slots + nb ≤ R.slots) → (o < NN ∧ kcC o = 5) → wl_Wrt_chooseCoding_24 post n o l1 l2 l3 l4 kb nb x → Wd dC dI cI cB cJ cZ ad stC kcC NN A x H → va_S A s.heap H locs → lv_has ls 6 [(0, .ref (ad o)), (1, .int l1), (2, .int l2), (3, .int l3), (4, .int l4)] → W p l e R s m args below meth c H locs cells slots Q (F0 m 24 ls []) := by
  intro n
  induction n with
  | zero => intro ad NN cells slots o l1 l2 l3 l4 kb nb x H locs ls hNN hag hRc hRs fo hw; exact hw.elim
  | succ n ih => intro ad NN cells slots o l1 l2 l3 l4 kb nb x H locs ls hNN hag hRc hRs fo hw hW hS hl; exact t_Wrt_chooseCoding_24 hx hb hml hown hT hK hN hA hRf hRl hE hret  ih ad NN cells slots o l1 l2 l3 l4 kb nb x H locs ls hNN hag hRc hRs fo hw hW hS hl
set_option maxRecDepth 100000 in
set_option maxHeartbeats 4000000 in
set_option maxRecDepth 100000 in
theorem t_Wrt_chooseCoding_18 {p : Program} {l : Launch} {e : Env} {R : Room} {s : State} {m : MethodId} {args : Array Value} {below : List Frame} {meth : Method} {c : Code} {Q : State → Prop} {dC : Nat → ClassId} {dI : Nat → Nat → Nat} {cI cB cJ cZ : ClassId} {A : Nat → Prop} {E : Heap} {tM tC : Nat} {kK kV : Nat → Nat} {ad0 : Nat → Nat} {NN0 : Nat} {post : Int32 → St → Prop} (hx : p.tables.exec = Jvm.exec) (hb : c.code = b_Wrt_chooseCoding) (hml : c.maxLocals = 6) (hown : s.vm.findClass R_Wrt = some m.cls) (hT : ∀ w ∈ TG, w.before args s = true) (hK : va_K (dC, dI) CL (TY cI cB cJ cZ) s) (hN : NW s) (hA : ∀ q : Nat, s.heap.size ≤ q → A q) (hRf : 7 ≤ R.frames) (hRl : 325 ≤ R.locals) (hE : CE E tM tC kK kV A s) (hret : ∀ (r : Int32) (ad : Nat → Nat) (NN cells slots : Nat) (x : St) (H : Heap) (locs : List Loc) (pc : Nat) (ls : Array Slot), decode b_Wrt_chooseCoding pc = .ok (.ireturn, 1) → (NN0 ≤ NN ∧ ∀ o : Nat, o < NN0 → ad o = ad0 o) → cells ≤ R.cells → slots ≤ R.slots → post r x → Wd dC dI cI cB cJ cZ ad stC kcC NN A x H → va_S A s.heap H locs → W p l e R s m args below meth c H locs cells slots Q (F0 m pc ls [.int r]))  : ∀ (ad : Nat → Nat) (NN cells slots : Nat) (o : Nat) (l1 : Int32) (s0 : Int32) (kb : Nat) (nb : Nat) (x : St) (H : Heap) (locs : List Loc) (ls : Array Slot), (152 ≤ NN) → (NN0 ≤ NN ∧ ∀ o : Nat, o < NN0 → ad o = ad0 o) → (cells + kb ≤ R.cells) → (slots + nb ≤ R.slots) → (o < NN ∧ kcC o = 5) → j_Wrt_chooseCoding_18 post o l1 s0 kb nb x → Wd dC dI cI cB cJ cZ ad stC kcC NN A x H → va_S A s.heap H locs → lv_has ls 6 [(0, .ref (ad o)), (1, .int l1)] → W p l e R s m args below meth c H locs cells slots Q (F0 m 18 ls [.int s0]) := by
  intro ad NN cells slots o l1 s0 kb nb x H locs ls hNN hag hRc hRs fo hw hW hS hl
  unfold j_Wrt_chooseCoding_18 at hw
  refine lv_istore_n (lv' := [(2, .int s0), (0, .ref (ad o)), (1, .int l1)]) hx hb d_Wrt_chooseCoding_18 rfl hl (by decide) rfl (fun ls hl => ?_)
  refine lv_iconst (v := 0) hx hb d_Wrt_chooseCoding_19 (by decide) ?_
  refine lv_istore_n (lv' := [(3, .int 0), (2, .int s0), (0, .ref (ad o)), (1, .int l1)]) hx hb d_Wrt_chooseCoding_20 rfl hl (by decide) rfl (fun ls hl => ?_)
  refine lv_iconst (v := 0) hx hb d_Wrt_chooseCoding_21 (by decide) ?_
  refine lv_istore (lv' := [(4, .int 0), (3, .int 0), (2, .int s0), (0, .ref (ad o)), (1, .int l1)]) hx hb d_Wrt_chooseCoding_22 hl (by decide) rfl (fun ls hl => ?_)
  obtain ⟨n, hw⟩ := hw
  exact tl_Wrt_chooseCoding_24 hx hb hml hown hT hK hN hA hRf hRl hE hret  n ad NN cells slots o l1 s0 0 0 kb nb x H locs ls hNN hag hRc hRs fo hw hW hS (lv_sub hl [3, 4, 2, 1, 0] rfl)
set_option maxRecDepth 100000 in
set_option maxHeartbeats 4000000 in
set_option maxRecDepth 100000 in
theorem t_Wrt_chooseCoding_e {p : Program} {l : Launch} {e : Env} {R : Room} {s : State} {m : MethodId} {args : Array Value} {below : List Frame} {meth : Method} {c : Code} {Q : State → Prop} {dC : Nat → ClassId} {dI : Nat → Nat → Nat} {cI cB cJ cZ : ClassId} {A : Nat → Prop} {E : Heap} {tM tC : Nat} {kK kV : Nat → Nat} {ad0 : Nat → Nat} {NN0 : Nat} {post : Int32 → St → Prop} (hx : p.tables.exec = Jvm.exec) (hb : c.code = b_Wrt_chooseCoding) (hml : c.maxLocals = 6) (hown : s.vm.findClass R_Wrt = some m.cls) (hT : ∀ w ∈ TG, w.before args s = true) (hK : va_K (dC, dI) CL (TY cI cB cJ cZ) s) (hN : NW s) (hA : ∀ q : Nat, s.heap.size ≤ q → A q) (hRf : 7 ≤ R.frames) (hRl : 325 ≤ R.locals) (hE : CE E tM tC kK kV A s) (hret : ∀ (r : Int32) (ad : Nat → Nat) (NN cells slots : Nat) (x : St) (H : Heap) (locs : List Loc) (pc : Nat) (ls : Array Slot), decode b_Wrt_chooseCoding pc = .ok (.ireturn, 1) → (NN0 ≤ NN ∧ ∀ o : Nat, o < NN0 → ad o = ad0 o) → cells ≤ R.cells → slots ≤ R.slots → post r x → Wd dC dI cI cB cJ cZ ad stC kcC NN A x H → va_S A s.heap H locs → W p l e R s m args below meth c H locs cells slots Q (F0 m pc ls [.int r])) : ∀ (ad : Nat → Nat) (NN cells slots : Nat) (o : Nat) (l1 : Int32) (kb : Nat) (nb : Nat) (x : St) (H : Heap) (locs : List Loc) (ls : Array Slot), (152 ≤ NN) → (NN0 ≤ NN ∧ ∀ o : Nat, o < NN0 → ad o = ad0 o) → (cells + kb ≤ R.cells) → (slots + nb ≤ R.slots) → (o < NN ∧ kcC o = 5) → wp_Wrt_chooseCoding post o l1 kb nb x → Wd dC dI cI cB cJ cZ ad stC kcC NN A x H → va_S A s.heap H locs → lv_has ls 6 [(0, .ref (ad o)), (1, .int l1)] → W p l e R s m args below meth c H locs cells slots Q (F0 m 0 ls []) := by
  intro ad NN cells slots o l1 kb nb x H locs ls hNN hag hRc hRs fo hw hW hS hl
  unfold wp_Wrt_chooseCoding at hw
  refine lv_iload_n hx hb d_Wrt_chooseCoding_0 rfl (lv_at hl 1 rfl) ?_
  refine lv_if_ne (tgt := 8) hx hb d_Wrt_chooseCoding_1 (by decide) (fun c43 => ?_) (fun c43 => ?_)
  · have hw := hw.1 c43
    refine lv_iload_n hx hb d_Wrt_chooseCoding_8 rfl (lv_at hl 1 rfl) ?_
    refine lv_iconst (v := 3) hx hb d_Wrt_chooseCoding_9 (by decide) ?_
    refine lv_icmp_ne (tgt := 17) hx hb d_Wrt_chooseCoding_10 (by decide) (fun c44 => ?_) (fun c44 => ?_)
    · have hw := hw.1 c44
      refine lv_iconst (v := 2) hx hb d_Wrt_chooseCoding_17 (by decide) ?_
      exact t_Wrt_chooseCoding_18 hx hb hml hown hT hK hN hA hRf hRl hE hret  ad NN cells slots o l1 2 kb nb x H locs ls hNN hag hRc hRs fo hw hW hS (lv_sub hl [0, 1] rfl)
    · have hw := hw.2 c44
      refine lv_iconst (v := 3) hx hb d_Wrt_chooseCoding_13 (by decide) ?_
      refine lv_goto (tgt := 18) hx hb d_Wrt_chooseCoding_14 (by decide) ?_
      exact t_Wrt_chooseCoding_18 hx hb hml hown hT hK hN hA hRf hRl hE hret  ad NN cells slots o l1 3 kb nb x H locs ls hNN hag hRc hRs fo hw hW hS (lv_sub hl [0, 1] rfl)
  · have hw := hw.2 c43
    refine lv_iconst (v := 1) hx hb d_Wrt_chooseCoding_4 (by decide) ?_
    refine lv_goto (tgt := 18) hx hb d_Wrt_chooseCoding_5 (by decide) ?_
    exact t_Wrt_chooseCoding_18 hx hb hml hown hT hK hN hA hRf hRl hE hret  ad NN cells slots o l1 1 kb nb x H locs ls hNN hag hRc hRs fo hw hW hS (lv_sub hl [0, 1] rfl)
set_option maxHeartbeats 4000000 in
set_option maxRecDepth 100000 in
theorem k_Wrt_chooseCoding (l : Launch) (dC : Nat → ClassId) (dI : Nat → Nat → Nat) (cI cB cJ cZ : ClassId) (ad : Nat → Nat) (NN : Nat) (E : Heap) (tM tC : Nat) (kK kV : Nat → Nat) (hNN : 152 ≤ NN) (sz : Nat) (o : Nat) (l1 : Int32) (kb : Nat) (nb : Nat) (x : St) (fo : o < NN ∧ kcC o = 5) {post : Int32 → St → Prop} (hw : wp_Wrt_chooseCoding post o l1 kb nb x) : Met l y_Wrt_chooseCoding (wsOf y_Wrt_chooseCoding b_Wrt_chooseCoding 6 (some (.int))) ({ frames := 7, cells := kb, slots := nb, locals := 325 }) (va_Pc [.ref (ad o), .int l1] (PVc dC dI cI cB cJ cZ ad stC kcC NN E tM tC kK kV sz x)) (va_Qi (fun (r : Int32) (u : St × (Nat → Nat) × Nat) => post r u.1) (fun u t => Wd dC dI cI cB cJ cZ u.2.1 stC kcC u.2.2 (va_A (pic ad stC kcC NN cI cB cJ cZ x) sz) u.1 t.heap ∧ NN ≤ u.2.2 ∧ ∀ o : Nat, o < NN → u.2.1 o = ad o) (va_A (pic ad stC kcC NN cI cB cJ cZ x) sz)) kb nb (va_A (pic ad stC kcC NN cI cB cJ cZ x) sz) := by
  refine Met.ofW (cc := b_Wrt_chooseCoding) (maxL := 6) (ret := some (.int)) (by decide) rfl ?_
  intro p e s m args below meth c s₁ B hml hv
  obtain ⟨rfl, ⟨hsz, hW0, hK, hN⟩, hE⟩ := hv
  have hx := B.exec
  have hb := B.bytes
  have hr := B.returns
  have hts := atoms_spec B.pre
  have hT : ∀ w ∈ TG, w.before _ s = true := fun w h => hts w (List.mem_cons_of_mem _ h)
  have hown : s.vm.findClass R_Wrt = some m.cls := findClass_of_methodNamed B.named
  have hlocks := B.notSynchronized
  subst hsz
  have hW : Wd dC dI cI cB cJ cZ ad stC kcC NN (va_A (pic ad stC kcC NN cI cB cJ cZ x) s.heap.size) x s.heap := ⟨hW0.1, hW0.2.1.self (sz := s.heap.size), hW0.2.2⟩
  generalize hAe : va_A (pic ad stC kcC NN cI cB cJ cZ x) s.heap.size = A at hW hE ⊢
  have hA : ∀ q : Nat, s.heap.size ≤ q → A q := fun q h => by rw [← hAe]; exact Or.inr h
  have hS : va_S A s.heap s.heap [] := va_S.rf
  have hl := lv_entry ([.ref (ad o), .int l1]) (n := 6) (Nat.le_of_ble_eq_true rfl)
  rw [lg_entry_eq]
  generalize (lg_sl ([.ref (ad o), .int l1]) ++ List.replicate (6 - (lg_sl ([.ref (ad o), .int l1])).length) Slot.unset).toArray = ls at hl ⊢
  have hl : lv_has ls 6 [(0, .ref (ad o)), (1, .int l1)] := hl
  exact t_Wrt_chooseCoding_e hx hb hml hown hT hK hN hA (Nat.le_refl 7) (Nat.le_refl 325) hE (fun r ad1 NN1 cells slots x1 H locs pc ls hd hag hc hs hp hW hS => W.widen (k := kb) (n := nb) hc hs (W.iret (v := r) hx hb hr (fun t ht hM => ⟨⟨r, (x1, ad1, NN1), rfl, hp, Wd.back hW ht.symm (fun _ z => z), hag.1, hag.2⟩, hS.F ht⟩) hS.2.2 hd hlocks))  ad NN 0 0 o l1 kb nb x _ _ ls hNN ⟨Nat.le_refl _, fun _ _ => rfl⟩ (Nat.le_of_eq (Nat.zero_add kb)) (Nat.le_of_eq (Nat.zero_add nb)) fo hw hW hS hl
set_option maxRecDepth 100000 in
set_option maxHeartbeats 4000000 in
set_option maxRecDepth 100000 in
theorem t_Wrt_putLevels_e {p : Program} {l : Launch} {e : Env} {R : Room} {s : State} {m : MethodId} {args : Array Value} {below : List Frame} {meth : Method} {c : Code} {Q : State → Prop} {dC : Nat → ClassId} {dI : Nat → Nat → Nat} {cI cB cJ cZ : ClassId} {A : Nat → Prop} {E : Heap} {tM tC : Nat} {kK kV : Nat → Nat} {ad0 : Nat → Nat} {NN0 : Nat} {post : St → Prop} (hx : p.tables.exec = Jvm.exec) (hb : c.code = b_Wrt_putLevels) (hml : c.maxLocals = 4) (hown : s.vm.findClass R_Wrt = some m.cls) (hT : ∀ w ∈ TG, w.before args s = true) (hK : va_K (dC, dI) CL (TY cI cB cJ cZ) s) (hN : NW s) (hA : ∀ q : Nat, s.heap.size ≤ q → A q) (hRf : 6 ≤ R.frames) (hRl : 299 ≤ R.locals) (hE : CE E tM tC kK kV A s) (hret : ∀ (ad : Nat → Nat) (NN cells slots : Nat) (x : St) (H : Heap) (locs : List Loc) (pc : Nat) (ls : Array Slot), decode b_Wrt_putLevels pc = .ok (.return_, 1) → (NN0 ≤ NN ∧ ∀ o : Nat, o < NN0 → ad o = ad0 o) → cells ≤ R.cells → slots ≤ R.slots → post x → Wd dC dI cI cB cJ cZ ad stC kcC NN A x H → va_S A s.heap H locs → W p l e R s m args below meth c H locs cells slots Q (F0 m pc ls [])) : ∀ (ad : Nat → Nat) (NN cells slots : Nat) (o : Nat) (l1 : Nat) (l2 : Int32) (kb : Nat) (nb : Nat) (x : St) (H : Heap) (locs : List Loc) (ls : Array Slot), (152 ≤ NN) → (NN0 ≤ NN ∧ ∀ o : Nat, o < NN0 → ad o = ad0 o) → (cells + kb ≤ R.cells) → (slots + nb ≤ R.slots) → (o < NN ∧ kcC o = 5) → (l1 < NN ∧ kcC l1 = 20) → wp_Wrt_putLevels post o l1 l2 kb nb x → Wd dC dI cI cB cJ cZ ad stC kcC NN A x H → va_S A s.heap H locs → lv_has ls 4 [(0, .ref (ad o)), (1, .ref (ad l1)), (2, .int l2)] → W p l e R s m args below meth c H locs cells slots Q (F0 m 0 ls []) := by
  intro ad NN cells slots o l1 l2 kb nb x H locs ls hNN hag hRc hRs fo fl1 hw hW hS hl
  unfold wp_Wrt_putLevels at hw
  refine lv_iload_n hx hb d_Wrt_putLevels_0 rfl (lv_at hl 2 rfl) ?_
  refine lv_if_ne (tgt := 5) hx hb d_Wrt_putLevels_1 (by decide) (fun c1 => ?_) (fun c1 => ?_)
  · have hw := hw.1 c1
    refine lv_aload_n hx hb d_Wrt_putLevels_5 rfl (lv_at hl 0 rfl) ?_
    refine w_getf (q := (stC o 2)) (k := 2) (t := 5) (C := R_Wrt) (T := F_Wrt) (N := 20) hx hb hT hown hK hW fo.1 fo.2 (by decide) in_Wrt rfl rfl (by decide) rfl fr_Wrt_2 w_2_53 d_Wrt_putLevels_6 rfl ?_
    refine w_geti (k := 1) (t := 1) (C := R_Snk) (T := F_Snk) (N := 7) hx hb hT hown hK hW (st_ty hNN fo.1 fo.2 rfl).1 (st_ty hNN fo.1 fo.2 rfl).2 (by decide) in_Snk rfl rfl (by decide) rfl fr_Snk_1 w_1_46 d_Wrt_putLevels_9 ?_
    refine lv_topi (fun v2 ev2 => ?_)
    have hw := hw v2 ev2
    refine lv_istore_n (lv' := [(3, .int v2), (0, .ref (ad o)), (1, .ref (ad l1)), (2, .int l2)]) hx hb d_Wrt_putLevels_12 rfl hl (by decide) rfl (fun ls hl => ?_)
    refine lv_aload_n hx hb d_Wrt_putLevels_13 rfl (lv_at hl 1 rfl) ?_
    refine w_getf (q := (stC o 2)) (k := 2) (t := 5) (C := R_Wrt) (T := F_Wrt) (N := 20) hx hb hT hown hK hW fo.1 fo.2 (by decide) in_Wrt rfl rfl (by decide) rfl fr_Wrt_2 w_2_53 d_Wrt_putLevels_14 rfl ?_
    refine lv_aload_n hx hb d_Wrt_putLevels_17 rfl (lv_at hl 2 rfl) ?_
    refine lv_aload_n hx hb d_Wrt_putLevels_18 rfl (lv_at hl 1 rfl) ?_
    refine w_geti (k := 11) (t := 5) (C := R_Wrt) (T := F_Wrt) (N := 20) hx hb hT hown hK hW fo.1 fo.2 (by decide) in_Wrt rfl rfl (by decide) rfl fr_Wrt_11 w_2_62 d_Wrt_putLevels_19 ?_
    refine lv_iload_n hx hb d_Wrt_putLevels_22 rfl (lv_at hl 3 rfl) ?_
    refine lv_i2l hx hb d_Wrt_putLevels_23 rfl ?_
    have hF := hW.free hS hA
    refine va_calli (va_runSN (As := [.long (l2 : Int32).toInt64]) (rest := [.int (fI x o 11), .ref (ad l1), .ref (ad (stC o 2))]) ⟨hx, hb, hml, hown, hT⟩ (k_V_widthOf l dC dI cI cB cJ cZ ad NN E tM tC kK kV hNN H.size (l2 : Int32).toInt64 x  hw) ⟨va_cnB 1 hT (gwt_in w_5_231) rfl rfl rfl (hN _ wn_5_229 rfl) (hT _ w_1_1) (by decide +kernel) ⟨Nat.le_trans (Nat.le_of_ble_eq_true rfl) hRf, Nat.le_trans (Nat.le_of_ble_eq_true rfl) hRl⟩, hT _ w_5_230, trivial⟩ ⟨PVc.blind, PVc.at _ hW hK hN hE hS hF⟩ rfl rfl hl.1 rfl (lv_room (Nat.le_of_ble_eq_true rfl)) d_Wrt_putLevels_24 ⟨(Nat.le_trans (Nat.le_add_right _ _) hRc), (Nat.le_trans (Nat.le_add_right _ _) hRs)⟩) hS (fun q _ h => hF q h) hF (fun r4 x3 t H locs ht hvm hw hB hz1 hk1 hS => ?_)
    have hW := Wd.back hB ht hF
    clear hB ht hF hz1 hk1 hvm
    obtain ⟨k5, n6, k7, n8, ek5, en6, hw⟩ := hw
    have hF := hW.free hS hA
    refine va_callv (va_runV (C := R_Snk) (As := [.ref (ad l1), .int (fI x o 11), .int r4]) (rest := []) ⟨hx, hb, hml, hown, hT⟩ (k_Snk_putRuns l dC dI cI cB cJ cZ ad NN E tM tC kK kV hNN H.size (stC o 2) l1 (fI x o 11) r4 k5 n6 x3 (st_ty hNN fo.1 fo.2 rfl) fl1 hw) ⟨callB_of 3 hT (gwt_in w_5_197) rfl rfl rfl (hT _ w_1_2) (hT _ w_5_194) (by decide +kernel) ⟨Nat.le_trans (Nat.le_of_ble_eq_true rfl) hRf, Nat.le_trans (Nat.le_of_ble_eq_true rfl) hRl⟩, hT _ w_5_195, hT _ w_5_196⟩ ⟨PVc.blind, va_recv hK hW.1 (ci := 1) (q0 := (stC o 2)) rfl (pic_obj (st_ty hNN fo.1 fo.2 rfl).1 (st_ty hNN fo.1 fo.2 rfl).2 (by decide)), PVc.at _ hW hK hN hE hS hF⟩ rfl rfl hl.1 rfl (lv_room (Nat.le_of_ble_eq_true rfl)) d_Wrt_putLevels_27 ⟨show cells + k5 ≤ R.cells by omega, show slots + n6 ≤ R.slots by omega⟩) hS (fun q _ h => hF q h) hF (fun  x9 t H locs ht hvm hw hB hz1 hk1 hS => ?_)
    obtain ⟨x9, ad, NN⟩ := x9
    obtain ⟨hB, hle, hg⟩ := hB
    try dsimp only at hw hB hle hg
    have hW := Wd.back hB ht hF
    rw [← hg o fo.1] at hl
    rw [← hg l1 fl1.1] at hl
    have fl1 : l1 < NN ∧ kcC l1 = 20 := ⟨Nat.lt_of_lt_of_le fl1.1 hle, fl1.2⟩
    have fo : o < NN ∧ kcC o = 5 := ⟨Nat.lt_of_lt_of_le fo.1 hle, fo.2⟩
    have hag : NN0 ≤ NN ∧ ∀ o : Nat, o < NN0 → ad o = ad0 o := ⟨Nat.le_trans hag.1 hle, fun o h => (hg o (Nat.lt_of_lt_of_le h hag.1)).trans (hag.2 o h)⟩
    have hNN : 152 ≤ NN := Nat.le_trans hNN hle
    clear hg hle
    obtain ⟨cells, ec⟩ : ∃ z, z = cells + k5 := ⟨_, rfl⟩
    obtain ⟨slots, es⟩ : ∃ z, z = slots + n6 := ⟨_, rfl⟩
    first | rw [← ec, ← es] | rw [Nat.add_zero, Nat.add_zero, ← ec, ← es]
    have hRc : cells + k7 ≤ R.cells := by omega
    have hRs : slots + n8 ≤ R.slots := by omega
    clear ec es hB ht hF hz1 hk1 hvm ek5 en6
    refine lv_aload_n hx hb d_Wrt_putLevels_30 rfl (lv_at hl 1 rfl) ?_
    refine w_getf (q := (stC o 2)) (k := 2) (t := 5) (C := R_Wrt) (T := F_Wrt) (N := 20) hx hb hT hown hK hW fo.1 fo.2 (by decide) in_Wrt rfl rfl (by decide) rfl fr_Wrt_2 w_2_53 d_Wrt_putLevels_31 rfl ?_
    refine lv_iload_n hx hb d_Wrt_putLevels_34 rfl (lv_at hl 0 rfl) ?_
    obtain ⟨k10, n11, k12, n13, ek10, en11, hw⟩ := hw
    have hF := hW.free hS hA
    refine va_callv (va_runV (C := R_Snk) (As := [.int v2]) (rest := []) ⟨hx, hb, hml, hown, hT⟩ (k_Snk_tellSizeFrom l dC dI cI cB cJ cZ ad NN E tM tC kK kV hNN H.size (stC o 2) v2 k10 n11 x9 (st_ty hNN fo.1 fo.2 rfl) hw) ⟨callB_of 1 hT (gwt_in w_6_18) rfl rfl rfl (hT _ w_1_2) (hT _ w_6_15) (by decide +kernel) ⟨Nat.le_trans (Nat.le_of_ble_eq_true rfl) hRf, Nat.le_trans (Nat.le_of_ble_eq_true rfl) hRl⟩, hT _ w_6_16, hT _ w_6_17⟩ ⟨PVc.blind, va_recv hK hW.1 (ci := 1) (q0 := (stC o 2)) rfl (pic_obj (st_ty hNN fo.1 fo.2 rfl).1 (st_ty hNN fo.1 fo.2 rfl).2 (by decide)), PVc.at _ hW hK hN hE hS hF⟩ rfl rfl hl.1 rfl (lv_room (Nat.le_of_ble_eq_true rfl)) d_Wrt_putLevels_35 ⟨show cells + k10 ≤ R.cells by omega, show slots + n11 ≤ R.slots by omega⟩) hS (fun q _ h => hF q h) hF (fun  x14 t H locs ht hvm hw hB hz1 hk1 hS => ?_)
    obtain ⟨x14, ad, NN⟩ := x14
    obtain ⟨hB, hle, hg⟩ := hB
    try dsimp only at hw hB hle hg
    have hW := Wd.back hB ht hF
    rw [← hg o fo.1] at hl
    rw [← hg l1 fl1.1] at hl
    have fl1 : l1 < NN ∧ kcC l1 = 20 := ⟨Nat.lt_of_lt_of_le fl1.1 hle, fl1.2⟩
    have fo : o < NN ∧ kcC o = 5 := ⟨Nat.lt_of_lt_of_le fo.1 hle, fo.2⟩
    have hag : NN0 ≤ NN ∧ ∀ o : Nat, o < NN0 → ad o = ad0 o := ⟨Nat.le_trans hag.1 hle, fun o h => (hg o (Nat.lt_of_lt_of_le h hag.1)).trans (hag.2 o h)⟩
    have hNN : 152 ≤ NN := Nat.le_trans hNN hle
    clear hg hle
    obtain ⟨cells, ec⟩ : ∃ z, z = cells + k10 := ⟨_, rfl⟩
    obtain ⟨slots, es⟩ : ∃ z, z = slots + n11 := ⟨_, rfl⟩
    first | rw [← ec, ← es] | rw [Nat.add_zero, Nat.add_zero, ← ec, ← es]
    have hRc : cells + k12 ≤ R.cells := by omega
    have hRs : slots + n13 ≤ R.slots := by omega
    clear ec es hB ht hF hz1 hk1 hvm ek10 en11
    exact hret ad NN cells slots x14 H locs 38 ls d_Wrt_putLevels_38 hag (Nat.le_trans (Nat.le_add_right _ _) hRc) (Nat.le_trans (Nat.le_add_right _ _) hRs) hw hW hS
  · have hw := hw.2 c1
    exact hret ad NN cells slots x H locs 4 ls d_Wrt_putLevels_4 hag (Nat.le_trans (Nat.le_add_right _ _) hRc) (Nat.le_trans (Nat.le_add_right _ _) hRs) hw hW hS
set_option maxHeartbeats 4000000 in
set_option maxRecDepth 100000 in
theorem k_Wrt_putLevels (l : Launch) (dC : Nat → ClassId) (dI : Nat → Nat → Nat) (cI cB cJ cZ : ClassId) (ad : Nat → Nat) (NN : Nat) (E : Heap) (tM tC : Nat) (kK kV : Nat → Nat) (hNN : 152 ≤ NN) (sz : Nat) (o : Nat) (l1 : Nat) (l2 : Int32) (kb : Nat) (nb : Nat) (x : St) (fo : o < NN ∧ kcC o = 5) (fl1 : l1 < NN ∧ kcC l1 = 20) {post : St → Prop} (hw : wp_Wrt_putLevels post o l1 l2 kb nb x) : Met l y_Wrt_putLevels (wsOf y_Wrt_putLevels b_Wrt_putLevels 4 (none)) ({ frames := 6, cells := kb, slots := nb, locals := 299 }) (va_Pc [.ref (ad o), .ref (ad l1), .int l2] (PVc dC dI cI cB cJ cZ ad stC kcC NN E tM tC kK kV sz x)) (va_Qv (fun (u : St × (Nat → Nat) × Nat) => post u.1) (fun u t => Wd dC dI cI cB cJ cZ u.2.1 stC kcC u.2.2 (va_A (pic ad stC kcC NN cI cB cJ cZ x) sz) u.1 t.heap ∧ NN ≤ u.2.2 ∧ ∀ o : Nat, o < NN → u.2.1 o = ad o) (va_A (pic ad stC kcC NN cI cB cJ cZ x) sz)) kb nb (va_A (pic ad stC kcC NN cI cB cJ cZ x) sz) := by
  refine Met.ofW (cc := b_Wrt_putLevels) (maxL := 4) (ret := none) (by decide) rfl ?_
  intro p e s m args below meth c s₁ B hml hv
  obtain ⟨rfl, ⟨hsz, hW0, hK, hN⟩, hE⟩ := hv
  have hx := B.exec
  have hb := B.bytes
  have hr := B.returns
  have hts := atoms_spec B.pre
  have hT : ∀ w ∈ TG, w.before _ s = true := fun w h => hts w (List.mem_cons_of_mem _ h)
  have hown : s.vm.findClass R_Wrt = some m.cls := findClass_of_methodNamed B.named
  have hlocks := B.notSynchronized
  subst hsz
  have hW : Wd dC dI cI cB cJ cZ ad stC kcC NN (va_A (pic ad stC kcC NN cI cB cJ cZ x) s.heap.size) x s.heap := ⟨hW0.1, hW0.2.1.self (sz := s.heap.size), hW0.2.2⟩
  generalize hAe : va_A (pic ad stC kcC NN cI cB cJ cZ x) s.heap.size = A at hW hE ⊢
  have hA : ∀ q : Nat, s.heap.size ≤ q → A q := fun q h => by rw [← hAe]; exact Or.inr h
  have hS : va_S A s.heap s.heap [] := va_S.rf
  have hl := lv_entry ([.ref (ad o), .ref (ad l1), .int l2]) (n := 4) (Nat.le_of_ble_eq_true rfl)
  rw [lg_entry_eq]
  generalize (lg_sl ([.ref (ad o), .ref (ad l1), .int l2]) ++ List.replicate (4 - (lg_sl ([.ref (ad o), .ref (ad l1), .int l2])).length) Slot.unset).toArray = ls at hl ⊢
  have hl : lv_has ls 4 [(0, .ref (ad o)), (1, .ref (ad l1)), (2, .int l2)] := hl
  exact t_Wrt_putLevels_e hx hb hml hown hT hK hN hA (Nat.le_refl 6) (Nat.le_refl 299) hE (fun ad1 NN1 cells slots x1 H locs pc ls hd hag hc hs hp hW hS => W.widen (k := kb) (n := nb) hc hs (W.vret hx hb hr (fun t ht hM => ⟨⟨(x1, ad1, NN1), rfl, hp, Wd.back hW ht.symm (fun _ z => z), hag.1, hag.2⟩, hS.F ht⟩) hS.2.2 hd hlocks))  ad NN 0 0 o l1 l2 kb nb x _ _ ls hNN ⟨Nat.le_refl _, fun _ _ => rfl⟩ (Nat.le_of_eq (Nat.zero_add kb)) (Nat.le_of_eq (Nat.zero_add nb)) fo fl1 hw hW hS hl
set_option maxRecDepth 100000 in
set_option maxHeartbeats 4000000 in
set_option maxRecDepth 100000 in
theorem t_Snk_putTold_e {p : Program} {l : Launch} {e : Env} {R : Room} {s : State} {m : MethodId} {args : Array Value} {below : List Frame} {meth : Method} {c : Code} {Q : State → Prop} {dC : Nat → ClassId} {dI : Nat → Nat → Nat} {cI cB cJ cZ : ClassId} {A : Nat → Prop} {E : Heap} {tM tC : Nat} {kK kV : Nat → Nat} {ad0 : Nat → Nat} {NN0 : Nat} {post : St → Prop} (hx : p.tables.exec = Jvm.exec) (hb : c.code = b_Snk_putTold) (hml : c.maxLocals = 5) (hown : s.vm.findClass R_Snk = some m.cls) (hT : ∀ w ∈ TG, w.before args s = true) (hK : va_K (dC, dI) CL (TY cI cB cJ cZ) s) (hN : NW s) (hA : ∀ q : Nat, s.heap.size ≤ q → A q) (hRf : 5 ≤ R.frames) (hRl : 270 ≤ R.locals) (hE : CE E tM tC kK kV A s) (hret : ∀ (ad : Nat → Nat) (NN cells slots : Nat) (x : St) (H : Heap) (locs : List Loc) (pc : Nat) (ls : Array Slot), decode b_Snk_putTold pc = .ok (.return_, 1) → (NN0 ≤ NN ∧ ∀ o : Nat, o < NN0 → ad o = ad0 o) → cells ≤ R.cells → slots ≤ R.slots → post x → Wd dC dI cI cB cJ cZ ad stC kcC NN A x H → va_S A s.heap H locs → W p l e R s m args below meth c H locs cells slots Q (F0 m pc ls [])) : ∀ (ad : Nat → Nat) (NN cells slots : Nat) (o : Nat) (l1 : Int32) (l2 : Nat) (l3 : Int64) (kb : Nat) (nb : Nat) (x : St) (H : Heap) (locs : List Loc) (ls : Array Slot), (152 ≤ NN) → (NN0 ≤ NN ∧ ∀ o : Nat, o < NN0 → ad o = ad0 o) → (cells + kb ≤ R.cells) → (slots + nb ≤ R.slots) → (o < NN ∧ kcC o = 1) → (l2 < NN ∧ kcC l2 = 21) → wp_Snk_putTold post o l1 l2 l3 kb nb x → Wd dC dI cI cB cJ cZ ad stC kcC NN A x H → va_S A s.heap H locs → lv_has ls 5 [(0, .ref (ad o)), (1, .int l1), (2, .ref (ad l2)), (3, .long l3)] → W p l e R s m args below meth c H locs cells slots Q (F0 m 0 ls []) := by
  intro ad NN cells slots o l1 l2 l3 kb nb x H locs ls hNN hag hRc hRs fo fl2 hw hW hS hl
  unfold wp_Snk_putTold at hw
  refine lv_iload_n hx hb d_Snk_putTold_0 rfl (lv_at hl 1 rfl) ?_
  refine lv_iconst (v := 3) hx hb d_Snk_putTold_1 (by decide) ?_
  refine lv_icmp_ne (tgt := 14) hx hb d_Snk_putTold_2 (by decide) (fun c1 => ?_) (fun c1 => ?_)
  · have hw := hw.1 c1
    refine lv_iload_n hx hb d_Snk_putTold_14 rfl (lv_at hl 1 rfl) ?_
    refine lv_if_ne (tgt := 27) hx hb d_Snk_putTold_15 (by decide) (fun c2 => ?_) (fun c2 => ?_)
    · have hw := hw.1 c2
      refine lv_aload_n hx hb d_Snk_putTold_27 rfl (lv_at hl 0 rfl) ?_
      refine lv_lload_n hx hb d_Snk_putTold_28 rfl (lv_at hl 3 rfl) ?_
      have hF := hW.free hS hA
      refine va_calll (va_runSN (As := [.long l3]) (rest := [.ref (ad o)]) ⟨hx, hb, hml, hown, hT⟩ (k_V_zigzag l dC dI cI cB cJ cZ ad NN E tM tC kK kV hNN H.size l3 x  hw) ⟨va_cnB 1 hT (gwt_in w_6_8) rfl rfl rfl (hN _ wn_6_6 rfl) (hT _ w_1_1) (by decide +kernel) ⟨Nat.le_trans (Nat.le_of_ble_eq_true rfl) hRf, Nat.le_trans (Nat.le_of_ble_eq_true rfl) hRl⟩, hT _ w_6_7, trivial⟩ ⟨PVc.blind, PVc.at _ hW hK hN hE hS hF⟩ rfl rfl hl.1 rfl (lv_room (Nat.le_of_ble_eq_true rfl)) d_Snk_putTold_29 ⟨(Nat.le_trans (Nat.le_add_right _ _) hRc), (Nat.le_trans (Nat.le_add_right _ _) hRs)⟩) hS (fun q _ h => hF q h) hF (fun r4 x3 t H locs ht hvm hw hB hz1 hk1 hS => ?_)
      have hW := Wd.back hB ht hF
      clear hB ht hF hz1 hk1 hvm
      obtain ⟨k5, n6, k7, n8, ek5, en6, hw⟩ := hw
      have hF := hW.free hS hA
      refine va_callv (va_runV (C := R_Snk) (As := [.long r4]) (rest := []) ⟨hx, hb, hml, hown, hT⟩ (k_Snk_putVarint l dC dI cI cB cJ cZ ad NN E tM tC kK kV hNN H.size o r4 k5 n6 x3 fo hw) ⟨callB_of 1 hT (gwt_in w_5_143) rfl rfl rfl (hT _ w_1_2) (hT _ w_5_180) (by decide +kernel) ⟨Nat.le_trans (Nat.le_of_ble_eq_true rfl) hRf, Nat.le_trans (Nat.le_of_ble_eq_true rfl) hRl⟩, hT _ w_5_141, hT _ w_5_142⟩ ⟨PVc.blind, va_recv hK hW.1 (ci := 1) (q0 := o) rfl (pic_obj fo.1 fo.2 (by decide)), PVc.at _ hW hK hN hE hS hF⟩ rfl rfl hl.1 rfl (lv_room (Nat.le_of_ble_eq_true rfl)) d_Snk_putTold_32 ⟨show cells + k5 ≤ R.cells by omega, show slots + n6 ≤ R.slots by omega⟩) hS (fun q _ h => hF q h) hF (fun  x9 t H locs ht hvm hw hB hz1 hk1 hS => ?_)
      obtain ⟨x9, ad, NN⟩ := x9
      obtain ⟨hB, hle, hg⟩ := hB
      try dsimp only at hw hB hle hg
      have hW := Wd.back hB ht hF
      rw [← hg o fo.1] at hl
      rw [← hg l2 fl2.1] at hl
      have fl2 : l2 < NN ∧ kcC l2 = 21 := ⟨Nat.lt_of_lt_of_le fl2.1 hle, fl2.2⟩
      have fo : o < NN ∧ kcC o = 1 := ⟨Nat.lt_of_lt_of_le fo.1 hle, fo.2⟩
      have hag : NN0 ≤ NN ∧ ∀ o : Nat, o < NN0 → ad o = ad0 o := ⟨Nat.le_trans hag.1 hle, fun o h => (hg o (Nat.lt_of_lt_of_le h hag.1)).trans (hag.2 o h)⟩
      have hNN : 152 ≤ NN := Nat.le_trans hNN hle
      clear hg hle
      obtain ⟨cells, ec⟩ : ∃ z, z = cells + k5 := ⟨_, rfl⟩
      obtain ⟨slots, es⟩ : ∃ z, z = slots + n6 := ⟨_, rfl⟩
      first | rw [← ec, ← es] | rw [Nat.add_zero, Nat.add_zero, ← ec, ← es]
      have hRc : cells + k7 ≤ R.cells := by omega
      have hRs : slots + n8 ≤ R.slots := by omega
      clear ec es hB ht hF hz1 hk1 hvm ek5 en6
      exact hret ad NN cells slots x9 H locs 35 ls d_Snk_putTold_35 hag (Nat.le_trans (Nat.le_add_right _ _) hRc) (Nat.le_trans (Nat.le_add_right _ _) hRs) hw hW hS
    · have hw := hw.2 c2
      refine lv_aload_n hx hb d_Snk_putTold_18 rfl (lv_at hl 0 rfl) ?_
      refine lv_lload_n hx hb d_Snk_putTold_19 rfl (lv_at hl 3 rfl) ?_
      refine lv_l2i hx hb d_Snk_putTold_20 rfl ?_
      obtain ⟨k10, n11, k12, n13, ek10, en11, hw⟩ := hw
      have hF := hW.free hS hA
      refine va_callv (va_runV (C := R_Snk) (As := [.int (l3 : Int64).toInt32]) (rest := []) ⟨hx, hb, hml, hown, hT⟩ (k_Snk_put l dC dI cI cB cJ cZ ad NN E tM tC kK kV hNN H.size o (l3 : Int64).toInt32 k10 n11 x fo hw) ⟨callB_of 1 hT (gwt_in w_4_52) rfl rfl rfl (hT _ w_1_2) (hT _ w_5_189) (by decide +kernel) ⟨Nat.le_trans (Nat.le_of_ble_eq_true rfl) hRf, Nat.le_trans (Nat.le_of_ble_eq_true rfl) hRl⟩, hT _ w_4_50, hT _ w_4_51⟩ ⟨PVc.blind, va_recv hK hW.1 (ci := 1) (q0 := o) rfl (pic_obj fo.1 fo.2 (by decide)), PVc.at _ hW hK hN hE hS hF⟩ rfl rfl hl.1 rfl (lv_room (Nat.le_of_ble_eq_true rfl)) d_Snk_putTold_21 ⟨show cells + k10 ≤ R.cells by omega, show slots + n11 ≤ R.slots by omega⟩) hS (fun q _ h => hF q h) hF (fun  x14 t H locs ht hvm hw hB hz1 hk1 hS => ?_)
      obtain ⟨x14, ad, NN⟩ := x14
      obtain ⟨hB, hle, hg⟩ := hB
      try dsimp only at hw hB hle hg
      have hW := Wd.back hB ht hF
      rw [← hg o fo.1] at hl
      rw [← hg l2 fl2.1] at hl
      have fl2 : l2 < NN ∧ kcC l2 = 21 := ⟨Nat.lt_of_lt_of_le fl2.1 hle, fl2.2⟩
      have fo : o < NN ∧ kcC o = 1 := ⟨Nat.lt_of_lt_of_le fo.1 hle, fo.2⟩
      have hag : NN0 ≤ NN ∧ ∀ o : Nat, o < NN0 → ad o = ad0 o := ⟨Nat.le_trans hag.1 hle, fun o h => (hg o (Nat.lt_of_lt_of_le h hag.1)).trans (hag.2 o h)⟩
      have hNN : 152 ≤ NN := Nat.le_trans hNN hle
      clear hg hle
      obtain ⟨cells, ec⟩ : ∃ z, z = cells + k10 := ⟨_, rfl⟩
      obtain ⟨slots, es⟩ : ∃ z, z = slots + n11 := ⟨_, rfl⟩
      first | rw [← ec, ← es] | rw [Nat.add_zero, Nat.add_zero, ← ec, ← es]
      have hRc : cells + k12 ≤ R.cells := by omega
      have hRs : slots + n13 ≤ R.slots := by omega
      clear ec es hB ht hF hz1 hk1 hvm ek10 en11
      refine lv_goto (tgt := 35) hx hb d_Snk_putTold_24 (by decide) ?_
      exact hret ad NN cells slots x14 H locs 35 ls d_Snk_putTold_35 hag (Nat.le_trans (Nat.le_add_right _ _) hRc) (Nat.le_trans (Nat.le_add_right _ _) hRs) hw hW hS
  · have hw := hw.2 c1
    refine lv_aload_n hx hb d_Snk_putTold_5 rfl (lv_at hl 0 rfl) ?_
    refine lv_aload_n hx hb d_Snk_putTold_6 rfl (lv_at hl 2 rfl) ?_
    refine lv_lload_n hx hb d_Snk_putTold_7 rfl (lv_at hl 3 rfl) ?_
    obtain ⟨k15, n16, k17, n18, ek15, en16, hw⟩ := hw
    have hF := hW.free hS hA
    refine va_callv (va_runV (C := R_Snk) (As := [.ref (ad l2), .long l3]) (rest := []) ⟨hx, hb, hml, hown, hT⟩ (k_Snk_putText l dC dI cI cB cJ cZ ad NN E tM tC kK kV hNN H.size o l2 l3 k15 n16 x fo fl2 hw) ⟨callB_of 2 hT (gwt_in w_5_178) rfl rfl rfl (hT _ w_1_2) (hT _ w_6_40) (by decide +kernel) ⟨Nat.le_trans (Nat.le_of_ble_eq_true rfl) hRf, Nat.le_trans (Nat.le_of_ble_eq_true rfl) hRl⟩, hT _ w_5_176, hT _ w_5_177⟩ ⟨PVc.blind, va_recv hK hW.1 (ci := 1) (q0 := o) rfl (pic_obj fo.1 fo.2 (by decide)), PVc.at _ hW hK hN hE hS hF⟩ rfl rfl hl.1 rfl (lv_room (Nat.le_of_ble_eq_true rfl)) d_Snk_putTold_8 ⟨show cells + k15 ≤ R.cells by omega, show slots + n16 ≤ R.slots by omega⟩) hS (fun q _ h => hF q h) hF (fun  x19 t H locs ht hvm hw hB hz1 hk1 hS => ?_)
    obtain ⟨x19, ad, NN⟩ := x19
    obtain ⟨hB, hle, hg⟩ := hB
    try dsimp only at hw hB hle hg
    have hW := Wd.back hB ht hF
    rw [← hg o fo.1] at hl
    rw [← hg l2 fl2.1] at hl
    have fl2 : l2 < NN ∧ kcC l2 = 21 := ⟨Nat.lt_of_lt_of_le fl2.1 hle, fl2.2⟩
    have fo : o < NN ∧ kcC o = 1 := ⟨Nat.lt_of_lt_of_le fo.1 hle, fo.2⟩
    have hag : NN0 ≤ NN ∧ ∀ o : Nat, o < NN0 → ad o = ad0 o := ⟨Nat.le_trans hag.1 hle, fun o h => (hg o (Nat.lt_of_lt_of_le h hag.1)).trans (hag.2 o h)⟩
    have hNN : 152 ≤ NN := Nat.le_trans hNN hle
    clear hg hle
    obtain ⟨cells, ec⟩ : ∃ z, z = cells + k15 := ⟨_, rfl⟩
    obtain ⟨slots, es⟩ : ∃ z, z = slots + n16 := ⟨_, rfl⟩
    first | rw [← ec, ← es] | rw [Nat.add_zero, Nat.add_zero, ← ec, ← es]
    have hRc : cells + k17 ≤ R.cells := by omega
    have hRs : slots + n18 ≤ R.slots := by omega
    clear ec es hB ht hF hz1 hk1 hvm ek15 en16
    refine lv_goto (tgt := 35) hx hb d_Snk_putTold_11 (by decide) ?_
    exact hret ad NN cells slots x19 H locs 35 ls d_Snk_putTold_35 hag (Nat.le_trans (Nat.le_add_right _ _) hRc) (Nat.le_trans (Nat.le_add_right _ _) hRs) hw hW hS
set_option maxHeartbeats 4000000 in
set_option maxRecDepth 100000 in
theorem k_Snk_putTold (l : Launch) (dC : Nat → ClassId) (dI : Nat → Nat → Nat) (cI cB cJ cZ : ClassId) (ad : Nat → Nat) (NN : Nat) (E : Heap) (tM tC : Nat) (kK kV : Nat → Nat) (hNN : 152 ≤ NN) (sz : Nat) (o : Nat) (l1 : Int32) (l2 : Nat) (l3 : Int64) (kb : Nat) (nb : Nat) (x : St) (fo : o < NN ∧ kcC o = 1) (fl2 : l2 < NN ∧ kcC l2 = 21) {post : St → Prop} (hw : wp_Snk_putTold post o l1 l2 l3 kb nb x) : Met l y_Snk_putTold (wsOf y_Snk_putTold b_Snk_putTold 5 (none)) ({ frames := 5, cells := kb, slots := nb, locals := 270 }) (va_Pc [.ref (ad o), .int l1, .ref (ad l2), .long l3] (PVc dC dI cI cB cJ cZ ad stC kcC NN E tM tC kK kV sz x)) (va_Qv (fun (u : St × (Nat → Nat) × Nat) => post u.1) (fun u t => Wd dC dI cI cB cJ cZ u.2.1 stC kcC u.2.2 (va_A (pic ad stC kcC NN cI cB cJ cZ x) sz) u.1 t.heap ∧ NN ≤ u.2.2 ∧ ∀ o : Nat, o < NN → u.2.1 o = ad o) (va_A (pic ad stC kcC NN cI cB cJ cZ x) sz)) kb nb (va_A (pic ad stC kcC NN cI cB cJ cZ x) sz) := by
  refine Met.ofW (cc := b_Snk_putTold) (maxL := 5) (ret := none) (by decide) rfl ?_
  intro p e s m args below meth c s₁ B hml hv
  obtain ⟨rfl, ⟨hsz, hW0, hK, hN⟩, hE⟩ := hv
  have hx := B.exec
  have hb := B.bytes
  have hr := B.returns
  have hts := atoms_spec B.pre
  have hT : ∀ w ∈ TG, w.before _ s = true := fun w h => hts w (List.mem_cons_of_mem _ h)
  have hown : s.vm.findClass R_Snk = some m.cls := findClass_of_methodNamed B.named
  have hlocks := B.notSynchronized
  subst hsz
  have hW : Wd dC dI cI cB cJ cZ ad stC kcC NN (va_A (pic ad stC kcC NN cI cB cJ cZ x) s.heap.size) x s.heap := ⟨hW0.1, hW0.2.1.self (sz := s.heap.size), hW0.2.2⟩
  generalize hAe : va_A (pic ad stC kcC NN cI cB cJ cZ x) s.heap.size = A at hW hE ⊢
  have hA : ∀ q : Nat, s.heap.size ≤ q → A q := fun q h => by rw [← hAe]; exact Or.inr h
  have hS : va_S A s.heap s.heap [] := va_S.rf
  have hl := lv_entry ([.ref (ad o), .int l1, .ref (ad l2), .long l3]) (n := 5) (Nat.le_of_ble_eq_true rfl)
  rw [lg_entry_eq]
  generalize (lg_sl ([.ref (ad o), .int l1, .ref (ad l2), .long l3]) ++ List.replicate (5 - (lg_sl ([.ref (ad o), .int l1, .ref (ad l2), .long l3])).length) Slot.unset).toArray = ls at hl ⊢
  have hl : lv_has ls 5 [(0, .ref (ad o)), (1, .int l1), (2, .ref (ad l2)), (3, .long l3)] := hl
  exact t_Snk_putTold_e hx hb hml hown hT hK hN hA (Nat.le_refl 5) (Nat.le_refl 270) hE (fun ad1 NN1 cells slots x1 H locs pc ls hd hag hc hs hp hW hS => W.widen (k := kb) (n := nb) hc hs (W.vret hx hb hr (fun t ht hM => ⟨⟨(x1, ad1, NN1), rfl, hp, Wd.back hW ht.symm (fun _ z => z), hag.1, hag.2⟩, hS.F ht⟩) hS.2.2 hd hlocks))  ad NN 0 0 o l1 l2 l3 kb nb x _ _ ls hNN ⟨Nat.le_refl _, fun _ _ => rfl⟩ (Nat.le_of_eq (Nat.zero_add kb)) (Nat.le_of_eq (Nat.zero_add nb)) fo fl2 hw hW hS hl
set_option maxRecDepth 100000 in
set_option maxHeartbeats 4000000 in
set_option maxRecDepth 100000 in
theorem t_Wrt_putPage_174 {p : Program} {l : Launch} {e : Env} {R : Room} {s : State} {m : MethodId} {args : Array Value} {below : List Frame} {meth : Method} {c : Code} {Q : State → Prop} {dC : Nat → ClassId} {dI : Nat → Nat → Nat} {cI cB cJ cZ : ClassId} {A : Nat → Prop} {E : Heap} {tM tC : Nat} {kK kV : Nat → Nat} {ad0 : Nat → Nat} {NN0 : Nat} {post : St → Prop} (hx : p.tables.exec = Jvm.exec) (hb : c.code = b_Wrt_putPage) (hml : c.maxLocals = 5) (hown : s.vm.findClass R_Wrt = some m.cls) (hT : ∀ w ∈ TG, w.before args s = true) (hK : va_K (dC, dI) CL (TY cI cB cJ cZ) s) (hN : NW s) (hA : ∀ q : Nat, s.heap.size ≤ q → A q) (hRf : 7 ≤ R.frames) (hRl : 322 ≤ R.locals) (hE : CE E tM tC kK kV A s) (hret : ∀ (ad : Nat → Nat) (NN cells slots : Nat) (x : St) (H : Heap) (locs : List Loc) (pc : Nat) (ls : Array Slot), decode b_Wrt_putPage pc = .ok (.return_, 1) → (NN0 ≤ NN ∧ ∀ o : Nat, o < NN0 → ad o = ad0 o) → cells ≤ R.cells → slots ≤ R.slots → post x → Wd dC dI cI cB cJ cZ ad stC kcC NN A x H → va_S A s.heap H locs → W p l e R s m args below meth c H locs cells slots Q (F0 m pc ls []))  : ∀ (ad : Nat → Nat) (NN cells slots : Nat) (o : Nat) (l1 : Int32) (l2 : Int32) (l3 : Int32) (l4 : Int32) (kb : Nat) (nb : Nat) (x : St) (H : Heap) (locs : List Loc) (ls : Array Slot), (152 ≤ NN) → (NN0 ≤ NN ∧ ∀ o : Nat, o < NN0 → ad o = ad0 o) → (cells + kb ≤ R.cells) → (slots + nb ≤ R.slots) → (o < NN ∧ kcC o = 5) → j_Wrt_putPage_174 post o l1 l2 l3 l4 kb nb x → Wd dC dI cI cB cJ cZ ad stC kcC NN A x H → va_S A s.heap H locs → lv_has ls 5 [(0, .ref (ad o)), (1, .int l1), (2, .int l2), (3, .int l3), (4, .int l4)] → W p l e R s m args below meth c H locs cells slots Q (F0 m 174 ls []) := by
  intro ad NN cells slots o l1 l2 l3 l4 kb nb x H locs ls hNN hag hRc hRs fo hw hW hS hl
  unfold j_Wrt_putPage_174 at hw
  refine lv_aload_n hx hb d_Wrt_putPage_174 rfl (lv_at hl 0 rfl) ?_
  obtain ⟨q1, hq1, hw⟩ := hw
  refine w_getr (q := q1) (k := 0) (t := 5) (C := R_Wrt) (T := F_Wrt) (N := 20) hx hb hT hown hK hW fo.1 fo.2 (by decide) in_Wrt rfl rfl (by decide) rfl fr_Wrt_0 w_2_51 d_Wrt_putPage_175 hq1 (fun aq1 bq1 => ?_)
  have fq1 : q1 < NN ∧ kcC q1 = 1 := ⟨aq1, bq1⟩
  refine lv_aload_n hx hb d_Wrt_putPage_178 rfl (lv_at hl 0 rfl) ?_
  refine w_getf (q := (stC o 2)) (k := 2) (t := 5) (C := R_Wrt) (T := F_Wrt) (N := 20) hx hb hT hown hK hW fo.1 fo.2 (by decide) in_Wrt rfl rfl (by decide) rfl fr_Wrt_2 w_2_53 d_Wrt_putPage_179 rfl ?_
  refine w_geti (k := 1) (t := 1) (C := R_Snk) (T := F_Snk) (N := 7) hx hb hT hown hK hW (st_ty hNN fo.1 fo.2 rfl).1 (st_ty hNN fo.1 fo.2 rfl).2 (by decide) in_Snk rfl rfl (by decide) rfl fr_Snk_1 w_1_46 d_Wrt_putPage_182 ?_
  refine lv_i2l hx hb d_Wrt_putPage_185 rfl ?_
  obtain ⟨k2, n3, k4, n5, ek2, en3, hw⟩ := hw
  have hF := hW.free hS hA
  refine va_callv (va_runV (C := R_Snk) (As := [.long ((fI x (stC o 2) 1) : Int32).toInt64]) (rest := []) ⟨hx, hb, hml, hown, hT⟩ (k_Snk_putVarint l dC dI cI cB cJ cZ ad NN E tM tC kK kV hNN H.size q1 ((fI x (stC o 2) 1) : Int32).toInt64 k2 n3 x fq1 hw) ⟨callB_of 1 hT (gwt_in w_5_143) rfl rfl rfl (hT _ w_1_2) (hT _ w_5_140) (by decide +kernel) ⟨Nat.le_trans (Nat.le_of_ble_eq_true rfl) hRf, Nat.le_trans (Nat.le_of_ble_eq_true rfl) hRl⟩, hT _ w_5_141, hT _ w_5_142⟩ ⟨PVc.blind, va_recv hK hW.1 (ci := 1) (q0 := q1) rfl (pic_obj fq1.1 fq1.2 (by decide)), PVc.at _ hW hK hN hE hS hF⟩ rfl rfl hl.1 rfl (lv_room (Nat.le_of_ble_eq_true rfl)) d_Wrt_putPage_186 ⟨show cells + k2 ≤ R.cells by omega, show slots + n3 ≤ R.slots by omega⟩) hS (fun q _ h => hF q h) hF (fun  x6 t H locs ht hvm hw hB hz1 hk1 hS => ?_)
  obtain ⟨x6, ad, NN⟩ := x6
  obtain ⟨hB, hle, hg⟩ := hB
  try dsimp only at hw hB hle hg
  have hW := Wd.back hB ht hF
  rw [← hg o fo.1] at hl
  have fo : o < NN ∧ kcC o = 5 := ⟨Nat.lt_of_lt_of_le fo.1 hle, fo.2⟩
  have fq1 : q1 < NN ∧ kcC q1 = 1 := ⟨Nat.lt_of_lt_of_le fq1.1 hle, fq1.2⟩
  have hag : NN0 ≤ NN ∧ ∀ o : Nat, o < NN0 → ad o = ad0 o := ⟨Nat.le_trans hag.1 hle, fun o h => (hg o (Nat.lt_of_lt_of_le h hag.1)).trans (hag.2 o h)⟩
  have hNN : 152 ≤ NN := Nat.le_trans hNN hle
  clear hg hle
  obtain ⟨cells, ec⟩ : ∃ z, z = cells + k2 := ⟨_, rfl⟩
  obtain ⟨slots, es⟩ : ∃ z, z = slots + n3 := ⟨_, rfl⟩
  first | rw [← ec, ← es] | rw [Nat.add_zero, Nat.add_zero, ← ec, ← es]
  have hRc : cells + k4 ≤ R.cells := by omega
  have hRs : slots + n5 ≤ R.slots := by omega
  clear ec es hB ht hF hz1 hk1 hvm ek2 en3
  refine lv_aload_n hx hb d_Wrt_putPage_189 rfl (lv_at hl 0 rfl) ?_
  obtain ⟨q7, hq7, hw⟩ := hw
  refine w_getr (q := q7) (k := 0) (t := 5) (C := R_Wrt) (T := F_Wrt) (N := 20) hx hb hT hown hK hW fo.1 fo.2 (by decide) in_Wrt rfl rfl (by decide) rfl fr_Wrt_0 w_2_51 d_Wrt_putPage_190 hq7 (fun aq7 bq7 => ?_)
  have fq7 : q7 < NN ∧ kcC q7 = 1 := ⟨aq7, bq7⟩
  refine lv_aload_n hx hb d_Wrt_putPage_193 rfl (lv_at hl 0 rfl) ?_
  refine w_getf (q := (stC o 2)) (k := 2) (t := 5) (C := R_Wrt) (T := F_Wrt) (N := 20) hx hb hT hown hK hW fo.1 fo.2 (by decide) in_Wrt rfl rfl (by decide) rfl fr_Wrt_2 w_2_53 d_Wrt_putPage_194 rfl ?_
  obtain ⟨q8, hq8, hw⟩ := hw
  refine w_getr (q := q8) (k := 0) (t := 1) (C := R_Snk) (T := F_Snk) (N := 7) hx hb hT hown hK hW (st_ty hNN fo.1 fo.2 rfl).1 (st_ty hNN fo.1 fo.2 rfl).2 (by decide) in_Snk rfl rfl (by decide) rfl fr_Snk_0 w_1_41 d_Wrt_putPage_197 hq8 (fun aq8 bq8 => ?_)
  have fq8 : q8 < NN ∧ kcC q8 = 21 := ⟨aq8, bq8⟩
  refine lv_iconst (v := 0) hx hb d_Wrt_putPage_200 (by decide) ?_
  refine lv_aload_n hx hb d_Wrt_putPage_201 rfl (lv_at hl 0 rfl) ?_
  refine w_getf (q := (stC o 2)) (k := 2) (t := 5) (C := R_Wrt) (T := F_Wrt) (N := 20) hx hb hT hown hK hW fo.1 fo.2 (by decide) in_Wrt rfl rfl (by decide) rfl fr_Wrt_2 w_2_53 d_Wrt_putPage_202 rfl ?_
  refine w_geti (k := 1) (t := 1) (C := R_Snk) (T := F_Snk) (N := 7) hx hb hT hown hK hW (st_ty hNN fo.1 fo.2 rfl).1 (st_ty hNN fo.1 fo.2 rfl).2 (by decide) in_Snk rfl rfl (by decide) rfl fr_Snk_1 w_1_46 d_Wrt_putPage_205 ?_
  have hF := hW.free hS hA
  refine va_calli (va_runSN (As := [.ref (ad q8), .int 0, .int (fI x6 (stC o 2) 1)]) (rest := [.ref (ad q7)]) ⟨hx, hb, hml, hown, hT⟩ (k_V_checkOf l dC dI cI cB cJ cZ ad NN E tM tC kK kV hNN H.size q8 0 (fI x6 (stC o 2) 1) x6 fq8 hw) ⟨va_cnB 3 hT (gwt_in w_6_43) rfl rfl rfl (hN _ wn_6_41 rfl) (hT _ w_1_1) (by decide +kernel) ⟨Nat.le_trans (Nat.le_of_ble_eq_true rfl) hRf, Nat.le_trans (Nat.le_of_ble_eq_true rfl) hRl⟩, hT _ w_6_42, trivial⟩ ⟨PVc.blind, PVc.at _ hW hK hN hE hS hF⟩ rfl rfl hl.1 rfl (lv_room (Nat.le_of_ble_eq_true rfl)) d_Wrt_putPage_208 ⟨(Nat.le_trans (Nat.le_add_right _ _) hRc), (Nat.le_trans (Nat.le_add_right _ _) hRs)⟩) hS (fun q _ h => hF q h) hF (fun r10 x9 t H locs ht hvm hw hB hz1 hk1 hS => ?_)
  have hW := Wd.back hB ht hF
  clear hB ht hF hz1 hk1 hvm
  refine lv_i2l hx hb d_Wrt_putPage_211 rfl ?_
  refine lv_iconst (v := 4) hx hb d_Wrt_putPage_212 (by decide) ?_
  obtain ⟨k11, n12, k13, n14, ek11, en12, hw⟩ := hw
  have hF := hW.free hS hA
  refine va_callv (va_runV (C := R_Snk) (As := [.long (r10 : Int32).toInt64, .int 4]) (rest := []) ⟨hx, hb, hml, hown, hT⟩ (k_Snk_putFixed l dC dI cI cB cJ cZ ad NN E tM tC kK kV hNN H.size q7 (r10 : Int32).toInt64 4 k11 n12 x9 fq7 hw) ⟨callB_of 2 hT (gwt_in w_5_188) rfl rfl rfl (hT _ w_1_2) (hT _ w_5_185) (by decide +kernel) ⟨Nat.le_trans (Nat.le_of_ble_eq_true rfl) hRf, Nat.le_trans (Nat.le_of_ble_eq_true rfl) hRl⟩, hT _ w_5_186, hT _ w_5_187⟩ ⟨PVc.blind, va_recv hK hW.1 (ci := 1) (q0 := q7) rfl (pic_obj fq7.1 fq7.2 (by decide)), PVc.at _ hW hK hN hE hS hF⟩ rfl rfl hl.1 rfl (lv_room (Nat.le_of_ble_eq_true rfl)) d_Wrt_putPage_213 ⟨show cells + k11 ≤ R.cells by omega, show slots + n12 ≤ R.slots by omega⟩) hS (fun q _ h => hF q h) hF (fun  x15 t H locs ht hvm hw hB hz1 hk1 hS => ?_)
  obtain ⟨x15, ad, NN⟩ := x15
  obtain ⟨hB, hle, hg⟩ := hB
  try dsimp only at hw hB hle hg
  have hW := Wd.back hB ht hF
  rw [← hg o fo.1] at hl
  have fo : o < NN ∧ kcC o = 5 := ⟨Nat.lt_of_lt_of_le fo.1 hle, fo.2⟩
  have fq1 : q1 < NN ∧ kcC q1 = 1 := ⟨Nat.lt_of_lt_of_le fq1.1 hle, fq1.2⟩
  have fq7 : q7 < NN ∧ kcC q7 = 1 := ⟨Nat.lt_of_lt_of_le fq7.1 hle, fq7.2⟩
  have fq8 : q8 < NN ∧ kcC q8 = 21 := ⟨Nat.lt_of_lt_of_le fq8.1 hle, fq8.2⟩
  have hag : NN0 ≤ NN ∧ ∀ o : Nat, o < NN0 → ad o = ad0 o := ⟨Nat.le_trans hag.1 hle, fun o h => (hg o (Nat.lt_of_lt_of_le h hag.1)).trans (hag.2 o h)⟩
  have hNN : 152 ≤ NN := Nat.le_trans hNN hle
  clear hg hle
  obtain ⟨cells, ec⟩ : ∃ z, z = cells + k11 := ⟨_, rfl⟩
  obtain ⟨slots, es⟩ : ∃ z, z = slots + n12 := ⟨_, rfl⟩
  first | rw [← ec, ← es] | rw [Nat.add_zero, Nat.add_zero, ← ec, ← es]
  have hRc : cells + k13 ≤ R.cells := by omega
  have hRs : slots + n14 ≤ R.slots := by omega
  clear ec es hB ht hF hz1 hk1 hvm ek11 en12
  refine lv_aload_n hx hb d_Wrt_putPage_216 rfl (lv_at hl 0 rfl) ?_
  obtain ⟨q16, hq16, hw⟩ := hw
  refine w_getr (q := q16) (k := 0) (t := 5) (C := R_Wrt) (T := F_Wrt) (N := 20) hx hb hT hown hK hW fo.1 fo.2 (by decide) in_Wrt rfl rfl (by decide) rfl fr_Wrt_0 w_2_51 d_Wrt_putPage_217 hq16 (fun aq16 bq16 => ?_)
  have fq16 : q16 < NN ∧ kcC q16 = 1 := ⟨aq16, bq16⟩
  refine lv_aload_n hx hb d_Wrt_putPage_220 rfl (lv_at hl 0 rfl) ?_
  refine w_getf (q := (stC o 2)) (k := 2) (t := 5) (C := R_Wrt) (T := F_Wrt) (N := 20) hx hb hT hown hK hW fo.1 fo.2 (by decide) in_Wrt rfl rfl (by decide) rfl fr_Wrt_2 w_2_53 d_Wrt_putPage_221 rfl ?_
  obtain ⟨q17, hq17, hw⟩ := hw
  refine w_getr (q := q17) (k := 0) (t := 1) (C := R_Snk) (T := F_Snk) (N := 7) hx hb hT hown hK hW (st_ty hNN fo.1 fo.2 rfl).1 (st_ty hNN fo.1 fo.2 rfl).2 (by decide) in_Snk rfl rfl (by decide) rfl fr_Snk_0 w_1_41 d_Wrt_putPage_224 hq17 (fun aq17 bq17 => ?_)
  have fq17 : q17 < NN ∧ kcC q17 = 21 := ⟨aq17, bq17⟩
  refine lv_iconst (v := 0) hx hb d_Wrt_putPage_227 (by decide) ?_
  refine lv_aload_n hx hb d_Wrt_putPage_228 rfl (lv_at hl 0 rfl) ?_
  refine w_getf (q := (stC o 2)) (k := 2) (t := 5) (C := R_Wrt) (T := F_Wrt) (N := 20) hx hb hT hown hK hW fo.1 fo.2 (by decide) in_Wrt rfl rfl (by decide) rfl fr_Wrt_2 w_2_53 d_Wrt_putPage_229 rfl ?_
  refine w_geti (k := 1) (t := 1) (C := R_Snk) (T := F_Snk) (N := 7) hx hb hT hown hK hW (st_ty hNN fo.1 fo.2 rfl).1 (st_ty hNN fo.1 fo.2 rfl).2 (by decide) in_Snk rfl rfl (by decide) rfl fr_Snk_1 w_1_46 d_Wrt_putPage_232 ?_
  obtain ⟨k18, n19, k20, n21, ek18, en19, hw⟩ := hw
  have hF := hW.free hS hA
  refine va_callv (va_runV (C := R_Snk) (As := [.ref (ad q17), .int 0, .int (fI x15 (stC o 2) 1)]) (rest := []) ⟨hx, hb, hml, hown, hT⟩ (k_Snk_putAll l dC dI cI cB cJ cZ ad NN E tM tC kK kV hNN H.size q16 q17 0 (fI x15 (stC o 2) 1) k18 n19 x15 fq16 fq17 hw) ⟨callB_of 3 hT (gwt_in w_5_138) rfl rfl rfl (hT _ w_1_2) (hT _ w_5_135) (by decide +kernel) ⟨Nat.le_trans (Nat.le_of_ble_eq_true rfl) hRf, Nat.le_trans (Nat.le_of_ble_eq_true rfl) hRl⟩, hT _ w_5_136, hT _ w_5_137⟩ ⟨PVc.blind, va_recv hK hW.1 (ci := 1) (q0 := q16) rfl (pic_obj fq16.1 fq16.2 (by decide)), PVc.at _ hW hK hN hE hS hF⟩ rfl rfl hl.1 rfl (lv_room (Nat.le_of_ble_eq_true rfl)) d_Wrt_putPage_235 ⟨show cells + k18 ≤ R.cells by omega, show slots + n19 ≤ R.slots by omega⟩) hS (fun q _ h => hF q h) hF (fun  x22 t H locs ht hvm hw hB hz1 hk1 hS => ?_)
  obtain ⟨x22, ad, NN⟩ := x22
  obtain ⟨hB, hle, hg⟩ := hB
  try dsimp only at hw hB hle hg
  have hW := Wd.back hB ht hF
  rw [← hg o fo.1] at hl
  have fo : o < NN ∧ kcC o = 5 := ⟨Nat.lt_of_lt_of_le fo.1 hle, fo.2⟩
  have fq1 : q1 < NN ∧ kcC q1 = 1 := ⟨Nat.lt_of_lt_of_le fq1.1 hle, fq1.2⟩
  have fq16 : q16 < NN ∧ kcC q16 = 1 := ⟨Nat.lt_of_lt_of_le fq16.1 hle, fq16.2⟩
  have fq17 : q17 < NN ∧ kcC q17 = 21 := ⟨Nat.lt_of_lt_of_le fq17.1 hle, fq17.2⟩
  have fq7 : q7 < NN ∧ kcC q7 = 1 := ⟨Nat.lt_of_lt_of_le fq7.1 hle, fq7.2⟩
  have fq8 : q8 < NN ∧ kcC q8 = 21 := ⟨Nat.lt_of_lt_of_le fq8.1 hle, fq8.2⟩
  have hag : NN0 ≤ NN ∧ ∀ o : Nat, o < NN0 → ad o = ad0 o := ⟨Nat.le_trans hag.1 hle, fun o h => (hg o (Nat.lt_of_lt_of_le h hag.1)).trans (hag.2 o h)⟩
  have hNN : 152 ≤ NN := Nat.le_trans hNN hle
  clear hg hle
  obtain ⟨cells, ec⟩ : ∃ z, z = cells + k18 := ⟨_, rfl⟩
  obtain ⟨slots, es⟩ : ∃ z, z = slots + n19 := ⟨_, rfl⟩
  first | rw [← ec, ← es] | rw [Nat.add_zero, Nat.add_zero, ← ec, ← es]
  have hRc : cells + k20 ≤ R.cells := by omega
  have hRs : slots + n21 ≤ R.slots := by omega
  clear ec es hB ht hF hz1 hk1 hvm ek18 en19
  exact hret ad NN cells slots x22 H locs 238 ls d_Wrt_putPage_238 hag (Nat.le_trans (Nat.le_add_right _ _) hRc) (Nat.le_trans (Nat.le_add_right _ _) hRs) hw hW hS
set_option maxRecDepth 100000 in
set_option maxHeartbeats 4000000 in
set_option maxRecDepth 100000 in
theorem t_Wrt_putPage_e {p : Program} {l : Launch} {e : Env} {R : Room} {s : State} {m : MethodId} {args : Array Value} {below : List Frame} {meth : Method} {c : Code} {Q : State → Prop} {dC : Nat → ClassId} {dI : Nat → Nat → Nat} {cI cB cJ cZ : ClassId} {A : Nat → Prop} {E : Heap} {tM tC : Nat} {kK kV : Nat → Nat} {ad0 : Nat → Nat} {NN0 : Nat} {post : St → Prop} (hx : p.tables.exec = Jvm.exec) (hb : c.code = b_Wrt_putPage) (hml : c.maxLocals = 5) (hown : s.vm.findClass R_Wrt = some m.cls) (hT : ∀ w ∈ TG, w.before args s = true) (hK : va_K (dC, dI) CL (TY cI cB cJ cZ) s) (hN : NW s) (hA : ∀ q : Nat, s.heap.size ≤ q → A q) (hRf : 7 ≤ R.frames) (hRl : 322 ≤ R.locals) (hE : CE E tM tC kK kV A s) (hret : ∀ (ad : Nat → Nat) (NN cells slots : Nat) (x : St) (H : Heap) (locs : List Loc) (pc : Nat) (ls : Array Slot), decode b_Wrt_putPage pc = .ok (.return_, 1) → (NN0 ≤ NN ∧ ∀ o : Nat, o < NN0 → ad o = ad0 o) → cells ≤ R.cells → slots ≤ R.slots → post x → Wd dC dI cI cB cJ cZ ad stC kcC NN A x H → va_S A s.heap H locs → W p l e R s m args below meth c H locs cells slots Q (F0 m pc ls [])) : ∀ (ad : Nat → Nat) (NN cells slots : Nat) (o : Nat) (l1 : Int32) (l2 : Int32) (kb : Nat) (nb : Nat) (x : St) (H : Heap) (locs : List Loc) (ls : Array Slot), (152 ≤ NN) → (NN0 ≤ NN ∧ ∀ o : Nat, o < NN0 → ad o = ad0 o) → (cells + kb ≤ R.cells) → (slots + nb ≤ R.slots) → (o < NN ∧ kcC o = 5) → wp_Wrt_putPage post o l1 l2 kb nb x → Wd dC dI cI cB cJ cZ ad stC kcC NN A x H → va_S A s.heap H locs → lv_has ls 5 [(0, .ref (ad o)), (1, .int l1), (2, .int l2)] → W p l e R s m args below meth c H locs cells slots Q (F0 m 0 ls []) := by
  intro ad NN cells slots o l1 l2 kb nb x H locs ls hNN hag hRc hRs fo hw hW hS hl
  unfold wp_Wrt_putPage at hw
  refine lv_aload_n hx hb d_Wrt_putPage_0 rfl (lv_at hl 0 rfl) ?_
  obtain ⟨q23, hq23, hw⟩ := hw
  refine w_getr (q := q23) (k := 5) (t := 5) (C := R_Wrt) (T := F_Wrt) (N := 20) hx hb hT hown hK hW fo.1 fo.2 (by decide) in_Wrt rfl rfl (by decide) rfl fr_Wrt_5 w_2_56 d_Wrt_putPage_1 hq23 (fun aq23 bq23 => ?_)
  have fq23 : q23 < NN ∧ kcC q23 = 3 := ⟨aq23, bq23⟩
  refine w_getf (q := (stC q23 10)) (k := 10) (t := 3) (C := R_Sch) (T := F_Sch) (N := 13) hx hb hT hown hK hW fq23.1 fq23.2 (by decide) in_Sch rfl rfl (by decide) rfl fr_Sch_10 w_1_182 d_Wrt_putPage_4 rfl ?_
  refine lv_iload_n hx hb d_Wrt_putPage_7 rfl (lv_at hl 1 rfl) ?_
  obtain ⟨hi, hw⟩ := hw
  refine w_iald (o := (stC q23 10)) hx hb hK hW (st_ty hNN fq23.1 fq23.2 rfl).1 (st_ty hNN fq23.1 fq23.2 rfl).2 hi d_Wrt_putPage_8 ?_
  refine lv_topi (fun v24 ev24 => ?_)
  have hw := hw v24 ev24
  refine lv_istore_n (lv' := [(3, .int v24), (0, .ref (ad o)), (1, .int l1), (2, .int l2)]) hx hb d_Wrt_putPage_9 rfl hl (by decide) rfl (fun ls hl => ?_)
  refine lv_aload_n hx hb d_Wrt_putPage_10 rfl (lv_at hl 1 rfl) ?_
  obtain ⟨q25, hq25, hw⟩ := hw
  refine w_getr (q := q25) (k := 5) (t := 5) (C := R_Wrt) (T := F_Wrt) (N := 20) hx hb hT hown hK hW fo.1 fo.2 (by decide) in_Wrt rfl rfl (by decide) rfl fr_Wrt_5 w_2_56 d_Wrt_putPage_11 hq25 (fun aq25 bq25 => ?_)
  have fq25 : q25 < NN ∧ kcC q25 = 3 := ⟨aq25, bq25⟩
  refine w_getf (q := (stC q25 3)) (k := 3) (t := 3) (C := R_Sch) (T := F_Sch) (N := 13) hx hb hT hown hK hW fq25.1 fq25.2 (by decide) in_Sch rfl rfl (by decide) rfl fr_Sch_3 w_1_146 d_Wrt_putPage_14 rfl ?_
  refine lv_iload_n hx hb d_Wrt_putPage_17 rfl (lv_at hl 0 rfl) ?_
  obtain ⟨hi, hw⟩ := hw
  refine w_iald (o := (stC q25 3)) hx hb hK hW (st_ty hNN fq25.1 fq25.2 rfl).1 (st_ty hNN fq25.1 fq25.2 rfl).2 hi d_Wrt_putPage_18 ?_
  refine lv_topi (fun v26 ev26 => ?_)
  have hw := hw v26 ev26
  refine lv_istore (lv' := [(4, .int v26), (3, .int v24), (0, .ref (ad o)), (1, .int l1), (2, .int l2)]) hx hb d_Wrt_putPage_19 hl (by decide) rfl (fun ls hl => ?_)
  refine lv_aload_n hx hb d_Wrt_putPage_21 rfl (lv_at hl 2 rfl) ?_
  refine w_getf (q := (stC o 2)) (k := 2) (t := 5) (C := R_Wrt) (T := F_Wrt) (N := 20) hx hb hT hown hK hW fo.1 fo.2 (by decide) in_Wrt rfl rfl (by decide) rfl fr_Wrt_2 w_2_53 d_Wrt_putPage_22 rfl ?_
  have hF := hW.free hS hA
  refine va_callv (va_runV (C := R_Snk) (As := []) (rest := []) ⟨hx, hb, hml, hown, hT⟩ (k_Snk_forget l dC dI cI cB cJ cZ ad NN E tM tC kK kV hNN H.size (stC o 2) x (st_ty hNN fo.1 fo.2 rfl) hw) ⟨callB_of 0 hT (gwt_in w_4_81) rfl rfl rfl (hT _ w_1_2) (hT _ w_5_132) (by decide +kernel) ⟨Nat.le_trans (Nat.le_of_ble_eq_true rfl) hRf, Nat.le_trans (Nat.le_of_ble_eq_true rfl) hRl⟩, hT _ w_4_79, hT _ w_4_80⟩ ⟨PVc.blind, va_recv hK hW.1 (ci := 1) (q0 := (stC o 2)) rfl (pic_obj (st_ty hNN fo.1 fo.2 rfl).1 (st_ty hNN fo.1 fo.2 rfl).2 (by decide)), PVc.at _ hW hK hN hE hS hF⟩ rfl rfl hl.1 rfl (lv_room (Nat.le_of_ble_eq_true rfl)) d_Wrt_putPage_25 ⟨(Nat.le_trans (Nat.le_add_right _ _) hRc), (Nat.le_trans (Nat.le_add_right _ _) hRs)⟩) hS (fun q _ h => hF q h) hF (fun  x27 t H locs ht hvm hw hB hz1 hk1 hS => ?_)
  have hW := Wd.back hB ht hF
  clear hB ht hF hz1 hk1 hvm
  refine lv_aload_n hx hb d_Wrt_putPage_28 rfl (lv_at hl 2 rfl) ?_
  refine lv_aload_n hx hb d_Wrt_putPage_29 rfl (lv_at hl 2 rfl) ?_
  refine w_getf (q := (stC o 8)) (k := 8) (t := 5) (C := R_Wrt) (T := F_Wrt) (N := 20) hx hb hT hown hK hW fo.1 fo.2 (by decide) in_Wrt rfl rfl (by decide) rfl fr_Wrt_8 w_2_59 d_Wrt_putPage_30 rfl ?_
  refine lv_aload_n hx hb d_Wrt_putPage_33 rfl (lv_at hl 2 rfl) ?_
  obtain ⟨q28, hq28, hw⟩ := hw
  refine w_getr (q := q28) (k := 5) (t := 5) (C := R_Wrt) (T := F_Wrt) (N := 20) hx hb hT hown hK hW fo.1 fo.2 (by decide) in_Wrt rfl rfl (by decide) rfl fr_Wrt_5 w_2_56 d_Wrt_putPage_34 hq28 (fun aq28 bq28 => ?_)
  have fq28 : q28 < NN ∧ kcC q28 = 3 := ⟨aq28, bq28⟩
  refine w_getf (q := (stC q28 5)) (k := 5) (t := 3) (C := R_Sch) (T := F_Sch) (N := 13) hx hb hT hown hK hW fq28.1 fq28.2 (by decide) in_Sch rfl rfl (by decide) rfl fr_Sch_5 w_1_159 d_Wrt_putPage_37 rfl ?_
  refine lv_iload_n hx hb d_Wrt_putPage_40 rfl (lv_at hl 1 rfl) ?_
  obtain ⟨hi, hw⟩ := hw
  refine w_iald (o := (stC q28 5)) hx hb hK hW (st_ty hNN fq28.1 fq28.2 rfl).1 (st_ty hNN fq28.1 fq28.2 rfl).2 hi d_Wrt_putPage_41 ?_
  obtain ⟨k29, n30, k31, n32, ek29, en30, hw⟩ := hw
  have hF := hW.free hS hA
  refine va_callv (va_runV (C := R_Wrt) (As := [.ref (ad (stC o 8)), .int (rA x27 (stC q28 5) v24)]) (rest := []) ⟨hx, hb, hml, hown, hT⟩ (k_Wrt_putLevels l dC dI cI cB cJ cZ ad NN E tM tC kK kV hNN H.size o (stC o 8) (rA x27 (stC q28 5) v24) k29 n30 x27 fo (st_ty hNN fo.1 fo.2 rfl) hw) ⟨callB_of 2 hT (gwt_in w_6_27) rfl rfl rfl (hT _ w_1_8) (hT _ w_6_24) (by decide +kernel) ⟨Nat.le_trans (Nat.le_of_ble_eq_true rfl) hRf, Nat.le_trans (Nat.le_of_ble_eq_true rfl) hRl⟩, hT _ w_6_26, hT _ ws_30⟩ ⟨PVc.blind, va_recv hK hW.1 (ci := 5) (q0 := o) rfl (pic_obj fo.1 fo.2 (by decide)), PVc.at _ hW hK hN hE hS hF⟩ rfl rfl hl.1 rfl (lv_room (Nat.le_of_ble_eq_true rfl)) d_Wrt_putPage_42 ⟨show cells + k29 ≤ R.cells by omega, show slots + n30 ≤ R.slots by omega⟩) hS (fun q _ h => hF q h) hF (fun  x33 t H locs ht hvm hw hB hz1 hk1 hS => ?_)
  obtain ⟨x33, ad, NN⟩ := x33
  obtain ⟨hB, hle, hg⟩ := hB
  try dsimp only at hw hB hle hg
  have hW := Wd.back hB ht hF
  rw [← hg o fo.1] at hl
  have fo : o < NN ∧ kcC o = 5 := ⟨Nat.lt_of_lt_of_le fo.1 hle, fo.2⟩
  have fq23 : q23 < NN ∧ kcC q23 = 3 := ⟨Nat.lt_of_lt_of_le fq23.1 hle, fq23.2⟩
  have fq25 : q25 < NN ∧ kcC q25 = 3 := ⟨Nat.lt_of_lt_of_le fq25.1 hle, fq25.2⟩
  have fq28 : q28 < NN ∧ kcC q28 = 3 := ⟨Nat.lt_of_lt_of_le fq28.1 hle, fq28.2⟩
  have hag : NN0 ≤ NN ∧ ∀ o : Nat, o < NN0 → ad o = ad0 o := ⟨Nat.le_trans hag.1 hle, fun o h => (hg o (Nat.lt_of_lt_of_le h hag.1)).trans (hag.2 o h)⟩
  have hNN : 152 ≤ NN := Nat.le_trans hNN hle
  clear hg hle
  obtain ⟨cells, ec⟩ : ∃ z, z = cells + k29 := ⟨_, rfl⟩
  obtain ⟨slots, es⟩ : ∃ z, z = slots + n30 := ⟨_, rfl⟩
  first | rw [← ec, ← es] | rw [Nat.add_zero, Nat.add_zero, ← ec, ← es]
  have hRc : cells + k31 ≤ R.cells := by omega
  have hRs : slots + n32 ≤ R.slots := by omega
  clear ec es hB ht hF hz1 hk1 hvm ek29 en30
  refine lv_aload_n hx hb d_Wrt_putPage_45 rfl (lv_at hl 2 rfl) ?_
  refine lv_aload_n hx hb d_Wrt_putPage_46 rfl (lv_at hl 2 rfl) ?_
  refine w_getf (q := (stC o 9)) (k := 9) (t := 5) (C := R_Wrt) (T := F_Wrt) (N := 20) hx hb hT hown hK hW fo.1 fo.2 (by decide) in_Wrt rfl rfl (by decide) rfl fr_Wrt_9 w_2_60 d_Wrt_putPage_47 rfl ?_
  refine lv_aload_n hx hb d_Wrt_putPage_50 rfl (lv_at hl 2 rfl) ?_
  obtain ⟨q34, hq34, hw⟩ := hw
  refine w_getr (q := q34) (k := 5) (t := 5) (C := R_Wrt) (T := F_Wrt) (N := 20) hx hb hT hown hK hW fo.1 fo.2 (by decide) in_Wrt rfl rfl (by decide) rfl fr_Wrt_5 w_2_56 d_Wrt_putPage_51 hq34 (fun aq34 bq34 => ?_)
  have fq34 : q34 < NN ∧ kcC q34 = 3 := ⟨aq34, bq34⟩
  refine w_getf (q := (stC q34 6)) (k := 6) (t := 3) (C := R_Sch) (T := F_Sch) (N := 13) hx hb hT hown hK hW fq34.1 fq34.2 (by decide) in_Sch rfl rfl (by decide) rfl fr_Sch_6 w_1_165 d_Wrt_putPage_54 rfl ?_
  refine lv_iload_n hx hb d_Wrt_putPage_57 rfl (lv_at hl 1 rfl) ?_
  obtain ⟨hi, hw⟩ := hw
  refine w_iald (o := (stC q34 6)) hx hb hK hW (st_ty hNN fq34.1 fq34.2 rfl).1 (st_ty hNN fq34.1 fq34.2 rfl).2 hi d_Wrt_putPage_58 ?_
  obtain ⟨k35, n36, k37, n38, ek35, en36, hw⟩ := hw
  have hF := hW.free hS hA
  refine va_callv (va_runV (C := R_Wrt) (As := [.ref (ad (stC o 9)), .int (rA x33 (stC q34 6) v24)]) (rest := []) ⟨hx, hb, hml, hown, hT⟩ (k_Wrt_putLevels l dC dI cI cB cJ cZ ad NN E tM tC kK kV hNN H.size o (stC o 9) (rA x33 (stC q34 6) v24) k35 n36 x33 fo (st_ty hNN fo.1 fo.2 rfl) hw) ⟨callB_of 2 hT (gwt_in w_6_27) rfl rfl rfl (hT _ w_1_8) (hT _ w_6_24) (by decide +kernel) ⟨Nat.le_trans (Nat.le_of_ble_eq_true rfl) hRf, Nat.le_trans (Nat.le_of_ble_eq_true rfl) hRl⟩, hT _ w_6_26, hT _ ws_30⟩ ⟨PVc.blind, va_recv hK hW.1 (ci := 5) (q0 := o) rfl (pic_obj fo.1 fo.2 (by decide)), PVc.at _ hW hK hN hE hS hF⟩ rfl rfl hl.1 rfl (lv_room (Nat.le_of_ble_eq_true rfl)) d_Wrt_putPage_59 ⟨show cells + k35 ≤ R.cells by omega, show slots + n36 ≤ R.slots by omega⟩) hS (fun q _ h => hF q h) hF (fun  x39 t H locs ht hvm hw hB hz1 hk1 hS => ?_)
  obtain ⟨x39, ad, NN⟩ := x39
  obtain ⟨hB, hle, hg⟩ := hB
  try dsimp only at hw hB hle hg
  have hW := Wd.back hB ht hF
  rw [← hg o fo.1] at hl
  have fo : o < NN ∧ kcC o = 5 := ⟨Nat.lt_of_lt_of_le fo.1 hle, fo.2⟩
  have fq23 : q23 < NN ∧ kcC q23 = 3 := ⟨Nat.lt_of_lt_of_le fq23.1 hle, fq23.2⟩
  have fq25 : q25 < NN ∧ kcC q25 = 3 := ⟨Nat.lt_of_lt_of_le fq25.1 hle, fq25.2⟩
  have fq28 : q28 < NN ∧ kcC q28 = 3 := ⟨Nat.lt_of_lt_of_le fq28.1 hle, fq28.2⟩
  have fq34 : q34 < NN ∧ kcC q34 = 3 := ⟨Nat.lt_of_lt_of_le fq34.1 hle, fq34.2⟩
  have hag : NN0 ≤ NN ∧ ∀ o : Nat, o < NN0 → ad o = ad0 o := ⟨Nat.le_trans hag.1 hle, fun o h => (hg o (Nat.lt_of_lt_of_le h hag.1)).trans (hag.2 o h)⟩
  have hNN : 152 ≤ NN := Nat.le_trans hNN hle
  clear hg hle
  obtain ⟨cells, ec⟩ : ∃ z, z = cells + k35 := ⟨_, rfl⟩
  obtain ⟨slots, es⟩ : ∃ z, z = slots + n36 := ⟨_, rfl⟩
  first | rw [← ec, ← es] | rw [Nat.add_zero, Nat.add_zero, ← ec, ← es]
  have hRc : cells + k37 ≤ R.cells := by omega
  have hRs : slots + n38 ≤ R.slots := by omega
  clear ec es hB ht hF hz1 hk1 hvm ek35 en36
  refine lv_aload_n hx hb d_Wrt_putPage_62 rfl (lv_at hl 2 rfl) ?_
  refine w_getf (q := (stC o 2)) (k := 2) (t := 5) (C := R_Wrt) (T := F_Wrt) (N := 20) hx hb hT hown hK hW fo.1 fo.2 (by decide) in_Wrt rfl rfl (by decide) rfl fr_Wrt_2 w_2_53 d_Wrt_putPage_63 rfl ?_
  refine lv_aload_n hx hb d_Wrt_putPage_66 rfl (lv_at hl 2 rfl) ?_
  obtain ⟨q40, hq40, hw⟩ := hw
  refine w_getr (q := q40) (k := 3) (t := 5) (C := R_Wrt) (T := F_Wrt) (N := 20) hx hb hT hown hK hW fo.1 fo.2 (by decide) in_Wrt rfl rfl (by decide) rfl fr_Wrt_3 w_2_54 d_Wrt_putPage_67 hq40 (fun aq40 bq40 => ?_)
  have fq40 : q40 < NN ∧ kcC q40 = 1 := ⟨aq40, bq40⟩
  obtain ⟨q41, hq41, hw⟩ := hw
  refine w_getr (q := q41) (k := 0) (t := 1) (C := R_Snk) (T := F_Snk) (N := 7) hx hb hT hown hK hW fq40.1 fq40.2 (by decide) in_Snk rfl rfl (by decide) rfl fr_Snk_0 w_1_41 d_Wrt_putPage_70 hq41 (fun aq41 bq41 => ?_)
  have fq41 : q41 < NN ∧ kcC q41 = 21 := ⟨aq41, bq41⟩
  refine lv_iconst (v := 0) hx hb d_Wrt_putPage_73 (by decide) ?_
  refine lv_aload_n hx hb d_Wrt_putPage_74 rfl (lv_at hl 2 rfl) ?_
  obtain ⟨q42, hq42, hw⟩ := hw
  refine w_getr (q := q42) (k := 3) (t := 5) (C := R_Wrt) (T := F_Wrt) (N := 20) hx hb hT hown hK hW fo.1 fo.2 (by decide) in_Wrt rfl rfl (by decide) rfl fr_Wrt_3 w_2_54 d_Wrt_putPage_75 hq42 (fun aq42 bq42 => ?_)
  have fq42 : q42 < NN ∧ kcC q42 = 1 := ⟨aq42, bq42⟩
  refine w_geti (k := 1) (t := 1) (C := R_Snk) (T := F_Snk) (N := 7) hx hb hT hown hK hW fq42.1 fq42.2 (by decide) in_Snk rfl rfl (by decide) rfl fr_Snk_1 w_1_46 d_Wrt_putPage_78 ?_
  obtain ⟨k43, n44, k45, n46, ek43, en44, hw⟩ := hw
  have hF := hW.free hS hA
  refine va_callv (va_runV (C := R_Snk) (As := [.ref (ad q41), .int 0, .int (fI x39 q42 1)]) (rest := []) ⟨hx, hb, hml, hown, hT⟩ (k_Snk_putAll l dC dI cI cB cJ cZ ad NN E tM tC kK kV hNN H.size (stC o 2) q41 0 (fI x39 q42 1) k43 n44 x39 (st_ty hNN fo.1 fo.2 rfl) fq41 hw) ⟨callB_of 3 hT (gwt_in w_5_138) rfl rfl rfl (hT _ w_1_2) (hT _ w_5_135) (by decide +kernel) ⟨Nat.le_trans (Nat.le_of_ble_eq_true rfl) hRf, Nat.le_trans (Nat.le_of_ble_eq_true rfl) hRl⟩, hT _ w_5_136, hT _ w_5_137⟩ ⟨PVc.blind, va_recv hK hW.1 (ci := 1) (q0 := (stC o 2)) rfl (pic_obj (st_ty hNN fo.1 fo.2 rfl).1 (st_ty hNN fo.1 fo.2 rfl).2 (by decide)), PVc.at _ hW hK hN hE hS hF⟩ rfl rfl hl.1 rfl (lv_room (Nat.le_of_ble_eq_true rfl)) d_Wrt_putPage_81 ⟨show cells + k43 ≤ R.cells by omega, show slots + n44 ≤ R.slots by omega⟩) hS (fun q _ h => hF q h) hF (fun  x47 t H locs ht hvm hw hB hz1 hk1 hS => ?_)
  obtain ⟨x47, ad, NN⟩ := x47
  obtain ⟨hB, hle, hg⟩ := hB
  try dsimp only at hw hB hle hg
  have hW := Wd.back hB ht hF
  rw [← hg o fo.1] at hl
  have fo : o < NN ∧ kcC o = 5 := ⟨Nat.lt_of_lt_of_le fo.1 hle, fo.2⟩
  have fq23 : q23 < NN ∧ kcC q23 = 3 := ⟨Nat.lt_of_lt_of_le fq23.1 hle, fq23.2⟩
  have fq25 : q25 < NN ∧ kcC q25 = 3 := ⟨Nat.lt_of_lt_of_le fq25.1 hle, fq25.2⟩
  have fq28 : q28 < NN ∧ kcC q28 = 3 := ⟨Nat.lt_of_lt_of_le fq28.1 hle, fq28.2⟩
  have fq34 : q34 < NN ∧ kcC q34 = 3 := ⟨Nat.lt_of_lt_of_le fq34.1 hle, fq34.2⟩
  have fq40 : q40 < NN ∧ kcC q40 = 1 := ⟨Nat.lt_of_lt_of_le fq40.1 hle, fq40.2⟩
  have fq41 : q41 < NN ∧ kcC q41 = 21 := ⟨Nat.lt_of_lt_of_le fq41.1 hle, fq41.2⟩
  have fq42 : q42 < NN ∧ kcC q42 = 1 := ⟨Nat.lt_of_lt_of_le fq42.1 hle, fq42.2⟩
  have hag : NN0 ≤ NN ∧ ∀ o : Nat, o < NN0 → ad o = ad0 o := ⟨Nat.le_trans hag.1 hle, fun o h => (hg o (Nat.lt_of_lt_of_le h hag.1)).trans (hag.2 o h)⟩
  have hNN : 152 ≤ NN := Nat.le_trans hNN hle
  clear hg hle
  obtain ⟨cells, ec⟩ : ∃ z, z = cells + k43 := ⟨_, rfl⟩
  obtain ⟨slots, es⟩ : ∃ z, z = slots + n44 := ⟨_, rfl⟩
  first | rw [← ec, ← es] | rw [Nat.add_zero, Nat.add_zero, ← ec, ← es]
  have hRc : cells + k45 ≤ R.cells := by omega
  have hRs : slots + n46 ≤ R.slots := by omega
  clear ec es hB ht hF hz1 hk1 hvm ek43 en44
  refine lv_aload_n hx hb d_Wrt_putPage_84 rfl (lv_at hl 2 rfl) ?_
  obtain ⟨q48, hq48, hw⟩ := hw
  refine w_getr (q := q48) (k := 0) (t := 5) (C := R_Wrt) (T := F_Wrt) (N := 20) hx hb hT hown hK hW fo.1 fo.2 (by decide) in_Wrt rfl rfl (by decide) rfl fr_Wrt_0 w_2_51 d_Wrt_putPage_85 hq48 (fun aq48 bq48 => ?_)
  have fq48 : q48 < NN ∧ kcC q48 = 1 := ⟨aq48, bq48⟩
  refine lv_aload_n hx hb d_Wrt_putPage_88 rfl (lv_at hl 2 rfl) ?_
  refine w_geti (k := 11) (t := 5) (C := R_Wrt) (T := F_Wrt) (N := 20) hx hb hT hown hK hW fo.1 fo.2 (by decide) in_Wrt rfl rfl (by decide) rfl fr_Wrt_11 w_2_62 d_Wrt_putPage_89 ?_
  refine lv_i2l hx hb d_Wrt_putPage_92 rfl ?_
  obtain ⟨k49, n50, k51, n52, ek49, en50, hw⟩ := hw
  have hF := hW.free hS hA
  refine va_callv (va_runV (C := R_Snk) (As := [.long ((fI x47 o 11) : Int32).toInt64]) (rest := []) ⟨hx, hb, hml, hown, hT⟩ (k_Snk_putVarint l dC dI cI cB cJ cZ ad NN E tM tC kK kV hNN H.size q48 ((fI x47 o 11) : Int32).toInt64 k49 n50 x47 fq48 hw) ⟨callB_of 1 hT (gwt_in w_5_143) rfl rfl rfl (hT _ w_1_2) (hT _ w_5_140) (by decide +kernel) ⟨Nat.le_trans (Nat.le_of_ble_eq_true rfl) hRf, Nat.le_trans (Nat.le_of_ble_eq_true rfl) hRl⟩, hT _ w_5_141, hT _ w_5_142⟩ ⟨PVc.blind, va_recv hK hW.1 (ci := 1) (q0 := q48) rfl (pic_obj fq48.1 fq48.2 (by decide)), PVc.at _ hW hK hN hE hS hF⟩ rfl rfl hl.1 rfl (lv_room (Nat.le_of_ble_eq_true rfl)) d_Wrt_putPage_93 ⟨show cells + k49 ≤ R.cells by omega, show slots + n50 ≤ R.slots by omega⟩) hS (fun q _ h => hF q h) hF (fun  x53 t H locs ht hvm hw hB hz1 hk1 hS => ?_)
  obtain ⟨x53, ad, NN⟩ := x53
  obtain ⟨hB, hle, hg⟩ := hB
  try dsimp only at hw hB hle hg
  have hW := Wd.back hB ht hF
  rw [← hg o fo.1] at hl
  have fo : o < NN ∧ kcC o = 5 := ⟨Nat.lt_of_lt_of_le fo.1 hle, fo.2⟩
  have fq23 : q23 < NN ∧ kcC q23 = 3 := ⟨Nat.lt_of_lt_of_le fq23.1 hle, fq23.2⟩
  have fq25 : q25 < NN ∧ kcC q25 = 3 := ⟨Nat.lt_of_lt_of_le fq25.1 hle, fq25.2⟩
  have fq28 : q28 < NN ∧ kcC q28 = 3 := ⟨Nat.lt_of_lt_of_le fq28.1 hle, fq28.2⟩
  have fq34 : q34 < NN ∧ kcC q34 = 3 := ⟨Nat.lt_of_lt_of_le fq34.1 hle, fq34.2⟩
  have fq40 : q40 < NN ∧ kcC q40 = 1 := ⟨Nat.lt_of_lt_of_le fq40.1 hle, fq40.2⟩
  have fq41 : q41 < NN ∧ kcC q41 = 21 := ⟨Nat.lt_of_lt_of_le fq41.1 hle, fq41.2⟩
  have fq42 : q42 < NN ∧ kcC q42 = 1 := ⟨Nat.lt_of_lt_of_le fq42.1 hle, fq42.2⟩
  have fq48 : q48 < NN ∧ kcC q48 = 1 := ⟨Nat.lt_of_lt_of_le fq48.1 hle, fq48.2⟩
  have hag : NN0 ≤ NN ∧ ∀ o : Nat, o < NN0 → ad o = ad0 o := ⟨Nat.le_trans hag.1 hle, fun o h => (hg o (Nat.lt_of_lt_of_le h hag.1)).trans (hag.2 o h)⟩
  have hNN : 152 ≤ NN := Nat.le_trans hNN hle
  clear hg hle
  obtain ⟨cells, ec⟩ : ∃ z, z = cells + k49 := ⟨_, rfl⟩
  obtain ⟨slots, es⟩ : ∃ z, z = slots + n50 := ⟨_, rfl⟩
  first | rw [← ec, ← es] | rw [Nat.add_zero, Nat.add_zero, ← ec, ← es]
  have hRc : cells + k51 ≤ R.cells := by omega
  have hRs : slots + n52 ≤ R.slots := by omega
  clear ec es hB ht hF hz1 hk1 hvm ek49 en50
  refine lv_aload_n hx hb d_Wrt_putPage_96 rfl (lv_at hl 2 rfl) ?_
  obtain ⟨q54, hq54, hw⟩ := hw
  refine w_getr (q := q54) (k := 0) (t := 5) (C := R_Wrt) (T := F_Wrt) (N := 20) hx hb hT hown hK hW fo.1 fo.2 (by decide) in_Wrt rfl rfl (by decide) rfl fr_Wrt_0 w_2_51 d_Wrt_putPage_97 hq54 (fun aq54 bq54 => ?_)
  have fq54 : q54 < NN ∧ kcC q54 = 1 := ⟨aq54, bq54⟩
  refine lv_aload_n hx hb d_Wrt_putPage_100 rfl (lv_at hl 2 rfl) ?_
  refine w_geti (k := 11) (t := 5) (C := R_Wrt) (T := F_Wrt) (N := 20) hx hb hT hown hK hW fo.1 fo.2 (by decide) in_Wrt rfl rfl (by decide) rfl fr_Wrt_11 w_2_62 d_Wrt_putPage_101 ?_
  refine lv_aload_n hx hb d_Wrt_putPage_104 rfl (lv_at hl 2 rfl) ?_
  refine w_geti (k := 12) (t := 5) (C := R_Wrt) (T := F_Wrt) (N := 20) hx hb hT hown hK hW fo.1 fo.2 (by decide) in_Wrt rfl rfl (by decide) rfl fr_Wrt_12 w_2_63 d_Wrt_putPage_105 ?_
  refine lv_isub hx hb d_Wrt_putPage_108 ?_
  refine lv_i2l hx hb d_Wrt_putPage_109 rfl ?_
  obtain ⟨k55, n56, k57, n58, ek55, en56, hw⟩ := hw
  have hF := hW.free hS hA
  refine va_callv (va_runV (C := R_Snk) (As := [.long (((fI x53 o 11) - (fI x53 o 12)) : Int32).toInt64]) (rest := []) ⟨hx, hb, hml, hown, hT⟩ (k_Snk_putVarint l dC dI cI cB cJ cZ ad NN E tM tC kK kV hNN H.size q54 (((fI x53 o 11) - (fI x53 o 12)) : Int32).toInt64 k55 n56 x53 fq54 hw) ⟨callB_of 1 hT (gwt_in w_5_143) rfl rfl rfl (hT _ w_1_2) (hT _ w_5_140) (by decide +kernel) ⟨Nat.le_trans (Nat.le_of_ble_eq_true rfl) hRf, Nat.le_trans (Nat.le_of_ble_eq_true rfl) hRl⟩, hT _ w_5_141, hT _ w_5_142⟩ ⟨PVc.blind, va_recv hK hW.1 (ci := 1) (q0 := q54) rfl (pic_obj fq54.1 fq54.2 (by decide)), PVc.at _ hW hK hN hE hS hF⟩ rfl rfl hl.1 rfl (lv_room (Nat.le_of_ble_eq_true rfl)) d_Wrt_putPage_110 ⟨show cells + k55 ≤ R.cells by omega, show slots + n56 ≤ R.slots by omega⟩) hS (fun q _ h => hF q h) hF (fun  x59 t H locs ht hvm hw hB hz1 hk1 hS => ?_)
  obtain ⟨x59, ad, NN⟩ := x59
  obtain ⟨hB, hle, hg⟩ := hB
  try dsimp only at hw hB hle hg
  have hW := Wd.back hB ht hF
  rw [← hg o fo.1] at hl
  have fo : o < NN ∧ kcC o = 5 := ⟨Nat.lt_of_lt_of_le fo.1 hle, fo.2⟩
  have fq23 : q23 < NN ∧ kcC q23 = 3 := ⟨Nat.lt_of_lt_of_le fq23.1 hle, fq23.2⟩
  have fq25 : q25 < NN ∧ kcC q25 = 3 := ⟨Nat.lt_of_lt_of_le fq25.1 hle, fq25.2⟩
  have fq28 : q28 < NN ∧ kcC q28 = 3 := ⟨Nat.lt_of_lt_of_le fq28.1 hle, fq28.2⟩
  have fq34 : q34 < NN ∧ kcC q34 = 3 := ⟨Nat.lt_of_lt_of_le fq34.1 hle, fq34.2⟩
  have fq40 : q40 < NN ∧ kcC q40 = 1 := ⟨Nat.lt_of_lt_of_le fq40.1 hle, fq40.2⟩
  have fq41 : q41 < NN ∧ kcC q41 = 21 := ⟨Nat.lt_of_lt_of_le fq41.1 hle, fq41.2⟩
  have fq42 : q42 < NN ∧ kcC q42 = 1 := ⟨Nat.lt_of_lt_of_le fq42.1 hle, fq42.2⟩
  have fq48 : q48 < NN ∧ kcC q48 = 1 := ⟨Nat.lt_of_lt_of_le fq48.1 hle, fq48.2⟩
  have fq54 : q54 < NN ∧ kcC q54 = 1 := ⟨Nat.lt_of_lt_of_le fq54.1 hle, fq54.2⟩
  have hag : NN0 ≤ NN ∧ ∀ o : Nat, o < NN0 → ad o = ad0 o := ⟨Nat.le_trans hag.1 hle, fun o h => (hg o (Nat.lt_of_lt_of_le h hag.1)).trans (hag.2 o h)⟩
  have hNN : 152 ≤ NN := Nat.le_trans hNN hle
  clear hg hle
  obtain ⟨cells, ec⟩ : ∃ z, z = cells + k55 := ⟨_, rfl⟩
  obtain ⟨slots, es⟩ : ∃ z, z = slots + n56 := ⟨_, rfl⟩
  first | rw [← ec, ← es] | rw [Nat.add_zero, Nat.add_zero, ← ec, ← es]
  have hRc : cells + k57 ≤ R.cells := by omega
  have hRs : slots + n58 ≤ R.slots := by omega
  clear ec es hB ht hF hz1 hk1 hvm ek55 en56
  refine lv_aload_n hx hb d_Wrt_putPage_113 rfl (lv_at hl 2 rfl) ?_
  obtain ⟨q60, hq60, hw⟩ := hw
  refine w_getr (q := q60) (k := 0) (t := 5) (C := R_Wrt) (T := F_Wrt) (N := 20) hx hb hT hown hK hW fo.1 fo.2 (by decide) in_Wrt rfl rfl (by decide) rfl fr_Wrt_0 w_2_51 d_Wrt_putPage_114 hq60 (fun aq60 bq60 => ?_)
  have fq60 : q60 < NN ∧ kcC q60 = 1 := ⟨aq60, bq60⟩
  refine lv_iload_n hx hb d_Wrt_putPage_117 rfl (lv_at hl 4 rfl) ?_
  obtain ⟨k61, n62, k63, n64, ek61, en62, hw⟩ := hw
  have hF := hW.free hS hA
  refine va_callv (va_runV (C := R_Snk) (As := [.int l2]) (rest := []) ⟨hx, hb, hml, hown, hT⟩ (k_Snk_put l dC dI cI cB cJ cZ ad NN E tM tC kK kV hNN H.size q60 l2 k61 n62 x59 fq60 hw) ⟨callB_of 1 hT (gwt_in w_4_52) rfl rfl rfl (hT _ w_1_2) (hT _ w_5_145) (by decide +kernel) ⟨Nat.le_trans (Nat.le_of_ble_eq_true rfl) hRf, Nat.le_trans (Nat.le_of_ble_eq_true rfl) hRl⟩, hT _ w_4_50, hT _ w_4_51⟩ ⟨PVc.blind, va_recv hK hW.1 (ci := 1) (q0 := q60) rfl (pic_obj fq60.1 fq60.2 (by decide)), PVc.at _ hW hK hN hE hS hF⟩ rfl rfl hl.1 rfl (lv_room (Nat.le_of_ble_eq_true rfl)) d_Wrt_putPage_118 ⟨show cells + k61 ≤ R.cells by omega, show slots + n62 ≤ R.slots by omega⟩) hS (fun q _ h => hF q h) hF (fun  x65 t H locs ht hvm hw hB hz1 hk1 hS => ?_)
  obtain ⟨x65, ad, NN⟩ := x65
  obtain ⟨hB, hle, hg⟩ := hB
  try dsimp only at hw hB hle hg
  have hW := Wd.back hB ht hF
  rw [← hg o fo.1] at hl
  have fo : o < NN ∧ kcC o = 5 := ⟨Nat.lt_of_lt_of_le fo.1 hle, fo.2⟩
  have fq23 : q23 < NN ∧ kcC q23 = 3 := ⟨Nat.lt_of_lt_of_le fq23.1 hle, fq23.2⟩
  have fq25 : q25 < NN ∧ kcC q25 = 3 := ⟨Nat.lt_of_lt_of_le fq25.1 hle, fq25.2⟩
  have fq28 : q28 < NN ∧ kcC q28 = 3 := ⟨Nat.lt_of_lt_of_le fq28.1 hle, fq28.2⟩
  have fq34 : q34 < NN ∧ kcC q34 = 3 := ⟨Nat.lt_of_lt_of_le fq34.1 hle, fq34.2⟩
  have fq40 : q40 < NN ∧ kcC q40 = 1 := ⟨Nat.lt_of_lt_of_le fq40.1 hle, fq40.2⟩
  have fq41 : q41 < NN ∧ kcC q41 = 21 := ⟨Nat.lt_of_lt_of_le fq41.1 hle, fq41.2⟩
  have fq42 : q42 < NN ∧ kcC q42 = 1 := ⟨Nat.lt_of_lt_of_le fq42.1 hle, fq42.2⟩
  have fq48 : q48 < NN ∧ kcC q48 = 1 := ⟨Nat.lt_of_lt_of_le fq48.1 hle, fq48.2⟩
  have fq54 : q54 < NN ∧ kcC q54 = 1 := ⟨Nat.lt_of_lt_of_le fq54.1 hle, fq54.2⟩
  have fq60 : q60 < NN ∧ kcC q60 = 1 := ⟨Nat.lt_of_lt_of_le fq60.1 hle, fq60.2⟩
  have hag : NN0 ≤ NN ∧ ∀ o : Nat, o < NN0 → ad o = ad0 o := ⟨Nat.le_trans hag.1 hle, fun o h => (hg o (Nat.lt_of_lt_of_le h hag.1)).trans (hag.2 o h)⟩
  have hNN : 152 ≤ NN := Nat.le_trans hNN hle
  clear hg hle
  obtain ⟨cells, ec⟩ : ∃ z, z = cells + k61 := ⟨_, rfl⟩
  obtain ⟨slots, es⟩ : ∃ z, z = slots + n62 := ⟨_, rfl⟩
  first | rw [← ec, ← es] | rw [Nat.add_zero, Nat.add_zero, ← ec, ← es]
  have hRc : cells + k63 ≤ R.cells := by omega
  have hRs : slots + n64 ≤ R.slots := by omega
  clear ec es hB ht hF hz1 hk1 hvm ek61 en62
  refine lv_aload_n hx hb d_Wrt_putPage_121 rfl (lv_at hl 2 rfl) ?_
  refine w_geti (k := 12) (t := 5) (C := R_Wrt) (T := F_Wrt) (N := 20) hx hb hT hown hK hW fo.1 fo.2 (by decide) in_Wrt rfl rfl (by decide) rfl fr_Wrt_12 w_2_63 d_Wrt_putPage_122 ?_
  refine lv_if_le (tgt := 174) hx hb d_Wrt_putPage_125 (by decide) (fun c66 => ?_) (fun c66 => ?_)
  · have hw := hw.1 c66
    exact t_Wrt_putPage_174 hx hb hml hown hT hK hN hA hRf hRl hE hret  ad NN cells slots o l1 l2 v24 v26 k63 n64 x65 H locs ls hNN hag hRc hRs fo hw hW hS (lv_sub hl [2, 3, 4, 1, 0] rfl)
  · have hw := hw.2 c66
    refine lv_aload_n hx hb d_Wrt_putPage_128 rfl (lv_at hl 2 rfl) ?_
    refine lv_iload hx hb d_Wrt_putPage_129 (lv_at hl 0 rfl) ?_
    have hF := hW.free hS hA
    refine va_callv (va_runV (C := R_Wrt) (As := [.int v26]) (rest := []) ⟨hx, hb, hml, hown, hT⟩ (k_Wrt_findBounds l dC dI cI cB cJ cZ ad NN E tM tC kK kV hNN H.size o v26 x65 fo hw) ⟨callB_of 1 hT (gwt_in w_6_31) rfl rfl rfl (hT _ w_1_8) (hT _ w_6_28) (by decide +kernel) ⟨Nat.le_trans (Nat.le_of_ble_eq_true rfl) hRf, Nat.le_trans (Nat.le_of_ble_eq_true rfl) hRl⟩, hT _ w_6_30, hT _ ws_31⟩ ⟨PVc.blind, va_recv hK hW.1 (ci := 5) (q0 := o) rfl (pic_obj fo.1 fo.2 (by decide)), PVc.at _ hW hK hN hE hS hF⟩ rfl rfl hl.1 rfl (lv_room (Nat.le_of_ble_eq_true rfl)) d_Wrt_putPage_131 ⟨(Nat.le_trans (Nat.le_add_right _ _) hRc), (Nat.le_trans (Nat.le_add_right _ _) hRs)⟩) hS (fun q _ h => hF q h) hF (fun  x67 t H locs ht hvm hw hB hz1 hk1 hS => ?_)
    have hW := Wd.back hB ht hF
    clear hB ht hF hz1 hk1 hvm
    refine lv_aload_n hx hb d_Wrt_putPage_134 rfl (lv_at hl 2 rfl) ?_
    obtain ⟨q68, hq68, hw⟩ := hw
    refine w_getr (q := q68) (k := 0) (t := 5) (C := R_Wrt) (T := F_Wrt) (N := 20) hx hb hT hown hK hW fo.1 fo.2 (by decide) in_Wrt rfl rfl (by decide) rfl fr_Wrt_0 w_2_51 d_Wrt_putPage_135 hq68 (fun aq68 bq68 => ?_)
    have fq68 : q68 < NN ∧ kcC q68 = 1 := ⟨aq68, bq68⟩
    refine lv_iload hx hb d_Wrt_putPage_138 (lv_at hl 0 rfl) ?_
    refine lv_aload_n hx hb d_Wrt_putPage_140 rfl (lv_at hl 2 rfl) ?_
    obtain ⟨q69, hq69, hw⟩ := hw
    refine w_getr (q := q69) (k := 6) (t := 5) (C := R_Wrt) (T := F_Wrt) (N := 20) hx hb hT hown hK hW fo.1 fo.2 (by decide) in_Wrt rfl rfl (by decide) rfl fr_Wrt_6 w_2_57 d_Wrt_putPage_141 hq69 (fun aq69 bq69 => ?_)
    have fq69 : q69 < NN ∧ kcC q69 = 4 := ⟨aq69, bq69⟩
    refine w_getf (q := (stC q69 12)) (k := 12) (t := 4) (C := R_Rec) (T := F_Rec) (N := 15) hx hb hT hown hK hW fq69.1 fq69.2 (by decide) in_Rec rfl rfl (by decide) rfl fr_Rec_12 w_2_7 d_Wrt_putPage_144 rfl ?_
    refine lv_aload_n hx hb d_Wrt_putPage_147 rfl (lv_at hl 2 rfl) ?_
    refine w_getj (k := 13) (t := 5) (C := R_Wrt) (T := F_Wrt) (N := 20) hx hb hT hown hK hW fo.1 fo.2 (by decide) in_Wrt rfl rfl (by decide) rfl fr_Wrt_13 w_2_64 d_Wrt_putPage_148 ?_
    obtain ⟨k70, n71, k72, n73, ek70, en71, hw⟩ := hw
    have hF := hW.free hS hA
    refine va_callv (va_runV (C := R_Snk) (As := [.int v26, .ref (ad (stC q69 12)), .long (fJ x67 o 13)]) (rest := []) ⟨hx, hb, hml, hown, hT⟩ (k_Snk_putTold l dC dI cI cB cJ cZ ad NN E tM tC kK kV hNN H.size q68 v26 (stC q69 12) (fJ x67 o 13) k70 n71 x67 fq68 (st_ty hNN fq69.1 fq69.2 rfl) hw) ⟨callB_of 3 hT (gwt_in w_6_39) rfl rfl rfl (hT _ w_1_2) (hT _ w_6_36) (by decide +kernel) ⟨Nat.le_trans (Nat.le_of_ble_eq_true rfl) hRf, Nat.le_trans (Nat.le_of_ble_eq_true rfl) hRl⟩, hT _ w_6_37, hT _ w_6_38⟩ ⟨PVc.blind, va_recv hK hW.1 (ci := 1) (q0 := q68) rfl (pic_obj fq68.1 fq68.2 (by decide)), PVc.at _ hW hK hN hE hS hF⟩ rfl rfl hl.1 rfl (lv_room (Nat.le_of_ble_eq_true rfl)) d_Wrt_putPage_151 ⟨show cells + k70 ≤ R.cells by omega, show slots + n71 ≤ R.slots by omega⟩) hS (fun q _ h => hF q h) hF (fun  x74 t H locs ht hvm hw hB hz1 hk1 hS => ?_)
    obtain ⟨x74, ad, NN⟩ := x74
    obtain ⟨hB, hle, hg⟩ := hB
    try dsimp only at hw hB hle hg
    have hW := Wd.back hB ht hF
    rw [← hg o fo.1] at hl
    have fo : o < NN ∧ kcC o = 5 := ⟨Nat.lt_of_lt_of_le fo.1 hle, fo.2⟩
    have fq23 : q23 < NN ∧ kcC q23 = 3 := ⟨Nat.lt_of_lt_of_le fq23.1 hle, fq23.2⟩
    have fq25 : q25 < NN ∧ kcC q25 = 3 := ⟨Nat.lt_of_lt_of_le fq25.1 hle, fq25.2⟩
    have fq28 : q28 < NN ∧ kcC q28 = 3 := ⟨Nat.lt_of_lt_of_le fq28.1 hle, fq28.2⟩
    have fq34 : q34 < NN ∧ kcC q34 = 3 := ⟨Nat.lt_of_lt_of_le fq34.1 hle, fq34.2⟩
    have fq40 : q40 < NN ∧ kcC q40 = 1 := ⟨Nat.lt_of_lt_of_le fq40.1 hle, fq40.2⟩
    have fq41 : q41 < NN ∧ kcC q41 = 21 := ⟨Nat.lt_of_lt_of_le fq41.1 hle, fq41.2⟩
    have fq42 : q42 < NN ∧ kcC q42 = 1 := ⟨Nat.lt_of_lt_of_le fq42.1 hle, fq42.2⟩
    have fq48 : q48 < NN ∧ kcC q48 = 1 := ⟨Nat.lt_of_lt_of_le fq48.1 hle, fq48.2⟩
    have fq54 : q54 < NN ∧ kcC q54 = 1 := ⟨Nat.lt_of_lt_of_le fq54.1 hle, fq54.2⟩
    have fq60 : q60 < NN ∧ kcC q60 = 1 := ⟨Nat.lt_of_lt_of_le fq60.1 hle, fq60.2⟩
    have fq68 : q68 < NN ∧ kcC q68 = 1 := ⟨Nat.lt_of_lt_of_le fq68.1 hle, fq68.2⟩
    have fq69 : q69 < NN ∧ kcC q69 = 4 := ⟨Nat.lt_of_lt_of_le fq69.1 hle, fq69.2⟩
    have hag : NN0 ≤ NN ∧ ∀ o : Nat, o < NN0 → ad o = ad0 o := ⟨Nat.le_trans hag.1 hle, fun o h => (hg o (Nat.lt_of_lt_of_le h hag.1)).trans (hag.2 o h)⟩
    have hNN : 152 ≤ NN := Nat.le_trans hNN hle
    clear hg hle
    obtain ⟨cells, ec⟩ : ∃ z, z = cells + k70 := ⟨_, rfl⟩
    obtain ⟨slots, es⟩ : ∃ z, z = slots + n71 := ⟨_, rfl⟩
    first | rw [← ec, ← es] | rw [Nat.add_zero, Nat.add_zero, ← ec, ← es]
    have hRc : cells + k72 ≤ R.cells := by omega
    have hRs : slots + n73 ≤ R.slots := by omega
    clear ec es hB ht hF hz1 hk1 hvm ek70 en71
    refine lv_aload_n hx hb d_Wrt_putPage_154 rfl (lv_at hl 2 rfl) ?_
    obtain ⟨q75, hq75, hw⟩ := hw
    refine w_getr (q := q75) (k := 0) (t := 5) (C := R_Wrt) (T := F_Wrt) (N := 20) hx hb hT hown hK hW fo.1 fo.2 (by decide) in_Wrt rfl rfl (by decide) rfl fr_Wrt_0 w_2_51 d_Wrt_putPage_155 hq75 (fun aq75 bq75 => ?_)
    have fq75 : q75 < NN ∧ kcC q75 = 1 := ⟨aq75, bq75⟩
    refine lv_iload hx hb d_Wrt_putPage_158 (lv_at hl 0 rfl) ?_
    refine lv_aload_n hx hb d_Wrt_putPage_160 rfl (lv_at hl 2 rfl) ?_
    obtain ⟨q76, hq76, hw⟩ := hw
    refine w_getr (q := q76) (k := 6) (t := 5) (C := R_Wrt) (T := F_Wrt) (N := 20) hx hb hT hown hK hW fo.1 fo.2 (by decide) in_Wrt rfl rfl (by decide) rfl fr_Wrt_6 w_2_57 d_Wrt_putPage_161 hq76 (fun aq76 bq76 => ?_)
    have fq76 : q76 < NN ∧ kcC q76 = 4 := ⟨aq76, bq76⟩
    refine w_getf (q := (stC q76 12)) (k := 12) (t := 4) (C := R_Rec) (T := F_Rec) (N := 15) hx hb hT hown hK hW fq76.1 fq76.2 (by decide) in_Rec rfl rfl (by decide) rfl fr_Rec_12 w_2_7 d_Wrt_putPage_164 rfl ?_
    refine lv_aload_n hx hb d_Wrt_putPage_167 rfl (lv_at hl 2 rfl) ?_
    refine w_getj (k := 14) (t := 5) (C := R_Wrt) (T := F_Wrt) (N := 20) hx hb hT hown hK hW fo.1 fo.2 (by decide) in_Wrt rfl rfl (by decide) rfl fr_Wrt_14 w_2_65 d_Wrt_putPage_168 ?_
    obtain ⟨k77, n78, k79, n80, ek77, en78, hw⟩ := hw
    have hF := hW.free hS hA
    refine va_callv (va_runV (C := R_Snk) (As := [.int v26, .ref (ad (stC q76 12)), .long (fJ x74 o 14)]) (rest := []) ⟨hx, hb, hml, hown, hT⟩ (k_Snk_putTold l dC dI cI cB cJ cZ ad NN E tM tC kK kV hNN H.size q75 v26 (stC q76 12) (fJ x74 o 14) k77 n78 x74 fq75 (st_ty hNN fq76.1 fq76.2 rfl) hw) ⟨callB_of 3 hT (gwt_in w_6_39) rfl rfl rfl (hT _ w_1_2) (hT _ w_6_36) (by decide +kernel) ⟨Nat.le_trans (Nat.le_of_ble_eq_true rfl) hRf, Nat.le_trans (Nat.le_of_ble_eq_true rfl) hRl⟩, hT _ w_6_37, hT _ w_6_38⟩ ⟨PVc.blind, va_recv hK hW.1 (ci := 1) (q0 := q75) rfl (pic_obj fq75.1 fq75.2 (by decide)), PVc.at _ hW hK hN hE hS hF⟩ rfl rfl hl.1 rfl (lv_room (Nat.le_of_ble_eq_true rfl)) d_Wrt_putPage_171 ⟨show cells + k77 ≤ R.cells by omega, show slots + n78 ≤ R.slots by omega⟩) hS (fun q _ h => hF q h) hF (fun  x81 t H locs ht hvm hw hB hz1 hk1 hS => ?_)
    obtain ⟨x81, ad, NN⟩ := x81
    obtain ⟨hB, hle, hg⟩ := hB
    try dsimp only at hw hB hle hg
    have hW := Wd.back hB ht hF
    rw [← hg o fo.1] at hl
    have fo : o < NN ∧ kcC o = 5 := ⟨Nat.lt_of_lt_of_le fo.1 hle, fo.2⟩
    have fq23 : q23 < NN ∧ kcC q23 = 3 := ⟨Nat.lt_of_lt_of_le fq23.1 hle, fq23.2⟩
    have fq25 : q25 < NN ∧ kcC q25 = 3 := ⟨Nat.lt_of_lt_of_le fq25.1 hle, fq25.2⟩
    have fq28 : q28 < NN ∧ kcC q28 = 3 := ⟨Nat.lt_of_lt_of_le fq28.1 hle, fq28.2⟩
    have fq34 : q34 < NN ∧ kcC q34 = 3 := ⟨Nat.lt_of_lt_of_le fq34.1 hle, fq34.2⟩
    have fq40 : q40 < NN ∧ kcC q40 = 1 := ⟨Nat.lt_of_lt_of_le fq40.1 hle, fq40.2⟩
    have fq41 : q41 < NN ∧ kcC q41 = 21 := ⟨Nat.lt_of_lt_of_le fq41.1 hle, fq41.2⟩
    have fq42 : q42 < NN ∧ kcC q42 = 1 := ⟨Nat.lt_of_lt_of_le fq42.1 hle, fq42.2⟩
    have fq48 : q48 < NN ∧ kcC q48 = 1 := ⟨Nat.lt_of_lt_of_le fq48.1 hle, fq48.2⟩
    have fq54 : q54 < NN ∧ kcC q54 = 1 := ⟨Nat.lt_of_lt_of_le fq54.1 hle, fq54.2⟩
    have fq60 : q60 < NN ∧ kcC q60 = 1 := ⟨Nat.lt_of_lt_of_le fq60.1 hle, fq60.2⟩
    have fq68 : q68 < NN ∧ kcC q68 = 1 := ⟨Nat.lt_of_lt_of_le fq68.1 hle, fq68.2⟩
    have fq69 : q69 < NN ∧ kcC q69 = 4 := ⟨Nat.lt_of_lt_of_le fq69.1 hle, fq69.2⟩
    have fq75 : q75 < NN ∧ kcC q75 = 1 := ⟨Nat.lt_of_lt_of_le fq75.1 hle, fq75.2⟩
    have fq76 : q76 < NN ∧ kcC q76 = 4 := ⟨Nat.lt_of_lt_of_le fq76.1 hle, fq76.2⟩
    have hag : NN0 ≤ NN ∧ ∀ o : Nat, o < NN0 → ad o = ad0 o := ⟨Nat.le_trans hag.1 hle, fun o h => (hg o (Nat.lt_of_lt_of_le h hag.1)).trans (hag.2 o h)⟩
    have hNN : 152 ≤ NN := Nat.le_trans hNN hle
    clear hg hle
    obtain ⟨cells, ec⟩ : ∃ z, z = cells + k77 := ⟨_, rfl⟩
    obtain ⟨slots, es⟩ : ∃ z, z = slots + n78 := ⟨_, rfl⟩
    first | rw [← ec, ← es] | rw [Nat.add_zero, Nat.add_zero, ← ec, ← es]
    have hRc : cells + k79 ≤ R.cells := by omega
    have hRs : slots + n80 ≤ R.slots := by omega
    clear ec es hB ht hF hz1 hk1 hvm ek77 en78
    exact t_Wrt_putPage_174 hx hb hml hown hT hK hN hA hRf hRl hE hret  ad NN cells slots o l1 l2 v24 v26 k79 n80 x81 H locs ls hNN hag hRc hRs fo hw hW hS (lv_sub hl [2, 3, 4, 1, 0] rfl)
set_option maxHeartbeats 4000000 in
set_option maxRecDepth 100000 in
theorem k_Wrt_putPage (l : Launch) (dC : Nat → ClassId) (dI : Nat → Nat → Nat) (cI cB cJ cZ : ClassId) (ad : Nat → Nat) (NN : Nat) (E : Heap) (tM tC : Nat) (kK kV : Nat → Nat) (hNN : 152 ≤ NN) (sz : Nat) (o : Nat) (l1 : Int32) (l2 : Int32) (kb : Nat) (nb : Nat) (x : St) (fo : o < NN ∧ kcC o = 5) {post : St → Prop} (hw : wp_Wrt_putPage post o l1 l2 kb nb x) : Met l y_Wrt_putPage (wsOf y_Wrt_putPage b_Wrt_putPage 5 (none)) ({ frames := 7, cells := kb, slots := nb, locals := 322 }) (va_Pc [.ref (ad o), .int l1, .int l2] (PVc dC dI cI cB cJ cZ ad stC kcC NN E tM tC kK kV sz x)) (va_Qv (fun (u : St × (Nat → Nat) × Nat) => post u.1) (fun u t => Wd dC dI cI cB cJ cZ u.2.1 stC kcC u.2.2 (va_A (pic ad stC kcC NN cI cB cJ cZ x) sz) u.1 t.heap ∧ NN ≤ u.2.2 ∧ ∀ o : Nat, o < NN → u.2.1 o = ad o) (va_A (pic ad stC kcC NN cI cB cJ cZ x) sz)) kb nb (va_A (pic ad stC kcC NN cI cB cJ cZ x) sz) := by
  refine Met.ofW (cc := b_Wrt_putPage) (maxL := 5) (ret := none) (by decide) rfl ?_
  intro p e s m args below meth c s₁ B hml hv
  obtain ⟨rfl, ⟨hsz, hW0, hK, hN⟩, hE⟩ := hv
  have hx := B.exec
  have hb := B.bytes
  have hr := B.returns
  have hts := atoms_spec B.pre
  have hT : ∀ w ∈ TG, w.before _ s = true := fun w h => hts w (List.mem_cons_of_mem _ h)
  have hown : s.vm.findClass R_Wrt = some m.cls := findClass_of_methodNamed B.named
  have hlocks := B.notSynchronized
  subst hsz
  have hW : Wd dC dI cI cB cJ cZ ad stC kcC NN (va_A (pic ad stC kcC NN cI cB cJ cZ x) s.heap.size) x s.heap := ⟨hW0.1, hW0.2.1.self (sz := s.heap.size), hW0.2.2⟩
  generalize hAe : va_A (pic ad stC kcC NN cI cB cJ cZ x) s.heap.size = A at hW hE ⊢
  have hA : ∀ q : Nat, s.heap.size ≤ q → A q := fun q h => by rw [← hAe]; exact Or.inr h
  have hS : va_S A s.heap s.heap [] := va_S.rf
  have hl := lv_entry ([.ref (ad o), .int l1, .int l2]) (n := 5) (Nat.le_of_ble_eq_true rfl)
  rw [lg_entry_eq]
  generalize (lg_sl ([.ref (ad o), .int l1, .int l2]) ++ List.replicate (5 - (lg_sl ([.ref (ad o), .int l1, .int l2])).length) Slot.unset).toArray = ls at hl ⊢
  have hl : lv_has ls 5 [(0, .ref (ad o)), (1, .int l1), (2, .int l2)] := hl
  exact t_Wrt_putPage_e hx hb hml hown hT hK hN hA (Nat.le_refl 7) (Nat.le_refl 322) hE (fun ad1 NN1 cells slots x1 H locs pc ls hd hag hc hs hp hW hS => W.widen (k := kb) (n := nb) hc hs (W.vret hx hb hr (fun t ht hM => ⟨⟨(x1, ad1, NN1), rfl, hp, Wd.back hW ht.symm (fun _ z => z), hag.1, hag.2⟩, hS.F ht⟩) hS.2.2 hd hlocks))  ad NN 0 0 o l1 l2 kb nb x _ _ ls hNN ⟨Nat.le_refl _, fun _ _ => rfl⟩ (Nat.le_of_eq (Nat.zero_add kb)) (Nat.le_of_eq (Nat.zero_add nb)) fo hw hW hS hl
end
