theorem fr_Wrt_16 : F_Wrt 16 = (R_Wrt, "sizes", "[J", true) := rfl
theorem fr_Wrt_3 : F_Wrt 3 = (R_Wrt, "best", "LStripedVault$Sink;", false) := rfl
theorem w_1_46 : (Jvm.Cond.fieldLink "StripedVault$Writer" (126 : Nat) "StripedVault$Sink" "count" "I") ∈ TG := tw_1 46 (by decide +kernel) (by decide +kernel)
theorem w_2_54 : (Jvm.Cond.fieldLink "StripedVault$Writer" (27 : Nat) "StripedVault$Writer" "best" "LStripedVault$Sink;") ∈ TG := tw_2 54 (by decide +kernel) (by decide +kernel)
theorem w_2_67 : (Jvm.Cond.fieldLink "StripedVault$Writer" (50 : Nat) "StripedVault$Writer" "sizes" "[J") ∈ TG := tw_2 67 (by decide +kernel) (by decide +kernel)
theorem w_5_190 : (Jvm.Cond.methodLink "StripedVault$Writer" (227 : Nat) ({ cls := "StripedVault$Writer", name := "putBoolRuns", desc := "()V" } : Jvm.MethodName)) ∈ TG := tw_5 190 (by decide +kernel) (by decide +kernel)
theorem w_5_192 : (Jvm.Cond.instanceMethod ({ cls := "StripedVault$Writer", name := "putBoolRuns", desc := "()V" } : Jvm.MethodName)) ∈ TG := tw_5 192 (by decide +kernel) (by decide +kernel)
theorem w_5_193 : (Jvm.Cond.code ({ cls := "StripedVault$Writer", name := "putBoolRuns", desc := "()V" } : Jvm.MethodName) prog_12_method_14_code (2 : Nat) (Option.none : Option Jvm.ClassFile.FieldType)) ∈ TG := tw_5 193 (by decide +kernel) (by decide +kernel)
theorem w_5_211 : (Jvm.Cond.methodLink "StripedVault$Writer" (230 : Nat) ({ cls := "StripedVault$Writer", name := "putDictionary", desc := "(I)V" } : Jvm.MethodName)) ∈ TG := tw_5 211 (by decide +kernel) (by decide +kernel)
theorem w_5_213 : (Jvm.Cond.instanceMethod ({ cls := "StripedVault$Writer", name := "putDictionary", desc := "(I)V" } : Jvm.MethodName)) ∈ TG := tw_5 213 (by decide +kernel) (by decide +kernel)
theorem w_5_214 : (Jvm.Cond.code ({ cls := "StripedVault$Writer", name := "putDictionary", desc := "(I)V" } : Jvm.MethodName) prog_12_method_17_code (5 : Nat) (Option.none : Option Jvm.ClassFile.FieldType)) ∈ TG := tw_5 214 (by decide +kernel) (by decide +kernel)
theorem w_5_232 : (Jvm.Cond.methodLink "StripedVault$Writer" (233 : Nat) ({ cls := "StripedVault$Writer", name := "putTexts", desc := "(Z)V" } : Jvm.MethodName)) ∈ TG := tw_5 232 (by decide +kernel) (by decide +kernel)
theorem w_5_234 : (Jvm.Cond.instanceMethod ({ cls := "StripedVault$Writer", name := "putTexts", desc := "(Z)V" } : Jvm.MethodName)) ∈ TG := tw_5 234 (by decide +kernel) (by decide +kernel)
theorem w_5_235 : (Jvm.Cond.code ({ cls := "StripedVault$Writer", name := "putTexts", desc := "(Z)V" } : Jvm.MethodName) prog_12_method_16_code (6 : Nat) (Option.none : Option Jvm.ClassFile.FieldType)) ∈ TG := tw_5 235 (by decide +kernel) (by decide +kernel)
theorem w_5_237 : (Jvm.Cond.static ({ cls := "StripedVault", name := "inCommon", desc := "([BJJ)I" } : Jvm.MethodName)) ∈ TG := tw_5 237 (by decide +kernel) (by decide +kernel)
theorem w_5_238 : (Jvm.Cond.code ({ cls := "StripedVault", name := "inCommon", desc := "([BJJ)I" } : Jvm.MethodName) prog_1_method_39_code (9 : Nat) (Option.some Jvm.ClassFile.FieldType.int)) ∈ TG := tw_5 238 (by decide +kernel) (by decide +kernel)
theorem w_6_15 : (Jvm.Cond.methodLink "StripedVault$Writer" (220 : Nat) ({ cls := "StripedVault$Sink", name := "tellSizeFrom", desc := "(I)V" } : Jvm.MethodName)) ∈ TG := tw_6 15 (by decide +kernel) (by decide +kernel)
theorem w_6_16 : (Jvm.Cond.instanceMethod ({ cls := "StripedVault$Sink", name := "tellSizeFrom", desc := "(I)V" } : Jvm.MethodName)) ∈ TG := tw_6 16 (by decide +kernel) (by decide +kernel)
theorem w_6_17 : (Jvm.Cond.selects "StripedVault$Sink" ({ cls := "StripedVault$Sink", name := "tellSizeFrom", desc := "(I)V" } : Jvm.MethodName) ({ cls := "StripedVault$Sink", name := "tellSizeFrom", desc := "(I)V" } : Jvm.MethodName)) ∈ TG := tw_6 17 (by decide +kernel) (by decide +kernel)
theorem w_6_18 : (Jvm.Cond.code ({ cls := "StripedVault$Sink", name := "tellSizeFrom", desc := "(I)V" } : Jvm.MethodName) prog_9_method_11_code (4 : Nat) (Option.none : Option Jvm.ClassFile.FieldType)) ∈ TG := tw_6 18 (by decide +kernel) (by decide +kernel)
theorem w_6_2 : (Jvm.Cond.methodLink "StripedVault$Writer" (237 : Nat) ({ cls := "StripedVault$Sink", name := "putCode", desc := "([JI)V" } : Jvm.MethodName)) ∈ TG := tw_6 2 (by decide +kernel) (by decide +kernel)
theorem w_6_3 : (Jvm.Cond.instanceMethod ({ cls := "StripedVault$Sink", name := "putCode", desc := "([JI)V" } : Jvm.MethodName)) ∈ TG := tw_6 3 (by decide +kernel) (by decide +kernel)
theorem w_6_4 : (Jvm.Cond.selects "StripedVault$Sink" ({ cls := "StripedVault$Sink", name := "putCode", desc := "([JI)V" } : Jvm.MethodName) ({ cls := "StripedVault$Sink", name := "putCode", desc := "([JI)V" } : Jvm.MethodName)) ∈ TG := tw_6 4 (by decide +kernel) (by decide +kernel)
theorem w_6_5 : (Jvm.Cond.code ({ cls := "StripedVault$Sink", name := "putCode", desc := "([JI)V" } : Jvm.MethodName) prog_9_method_16_code (4 : Nat) (Option.none : Option Jvm.ClassFile.FieldType)) ∈ TG := tw_6 5 (by decide +kernel) (by decide +kernel)
theorem wn_5_236 : (Jvm.Cond.methodLinkNest "StripedVault$Writer" (245 : Nat) ({ cls := "StripedVault", name := "inCommon", desc := "([BJJ)I" } : Jvm.MethodName) "StripedVault") ∈ lw_tbl := tb_5 _ (List.mem_of_getElem? (i := 236) (by decide +kernel))
theorem wn_6_19 : (Jvm.Cond.methodLinkNest "StripedVault$Writer" (249 : Nat) ({ cls := "StripedVault", name := "placeOf", desc := "(J)I" } : Jvm.MethodName) "StripedVault") ∈ lw_tbl := tb_6 _ (List.mem_of_getElem? (i := 19) (by decide +kernel))
theorem ws_22 : Cond.selects R_Wrt y_Wrt_putBoolRuns y_Wrt_putBoolRuns ∈ TG := tw_s 22 (by decide +kernel) (by decide +kernel)
theorem ws_25 : Cond.selects R_Wrt y_Wrt_putDictionary y_Wrt_putDictionary ∈ TG := tw_s 25 (by decide +kernel) (by decide +kernel)
theorem ws_27 : Cond.selects R_Wrt y_Wrt_putTexts y_Wrt_putTexts ∈ TG := tw_s 27 (by decide +kernel) (by decide +kernel)
theorem d_Wrt_putTexts_169 : decode b_Wrt_putTexts 169 = .ok (.iload 4, 2) := by decide +kernel
theorem d_Wrt_putTexts_171 : decode b_Wrt_putTexts 171 = .ok (.aload_n 0, 1) := by decide +kernel
theorem d_Wrt_putTexts_172 : decode b_Wrt_putTexts 172 = .ok (.getfield 154, 3) := by decide +kernel
theorem d_Wrt_putTexts_175 : decode b_Wrt_putTexts 175 = .ok (.if_icmp .ge 53, 3) := by decide +kernel
theorem d_Wrt_putTexts_228 : decode b_Wrt_putTexts 228 = .ok (.return_, 1) := by decide +kernel
theorem d_Wrt_putTexts_178 : decode b_Wrt_putTexts 178 = .ok (.aload_n 0, 1) := by decide +kernel
theorem d_Wrt_putTexts_179 : decode b_Wrt_putTexts 179 = .ok (.getfield 50, 3) := by decide +kernel
theorem d_Wrt_putTexts_182 : decode b_Wrt_putTexts 182 = .ok (.iload 4, 2) := by decide +kernel
theorem d_Wrt_putTexts_184 : decode b_Wrt_putTexts 184 = .ok (.laload, 1) := by decide +kernel
theorem d_Wrt_putTexts_185 : decode b_Wrt_putTexts 185 = .ok (.l2i, 1) := by decide +kernel
theorem d_Wrt_putTexts_186 : decode b_Wrt_putTexts 186 = .ok (.istore 5, 2) := by decide +kernel
theorem d_Wrt_putTexts_188 : decode b_Wrt_putTexts 188 = .ok (.aload_n 0, 1) := by decide +kernel
theorem d_Wrt_putTexts_189 : decode b_Wrt_putTexts 189 = .ok (.getfield 30, 3) := by decide +kernel
theorem d_Wrt_putTexts_192 : decode b_Wrt_putTexts 192 = .ok (.aload_n 2, 1) := by decide +kernel
theorem d_Wrt_putTexts_193 : decode b_Wrt_putTexts 193 = .ok (.aload_n 0, 1) := by decide +kernel
theorem d_Wrt_putTexts_194 : decode b_Wrt_putTexts 194 = .ok (.getfield 43, 3) := by decide +kernel
theorem d_Wrt_putTexts_197 : decode b_Wrt_putTexts 197 = .ok (.iload 4, 2) := by decide +kernel
theorem d_Wrt_putTexts_199 : decode b_Wrt_putTexts 199 = .ok (.laload, 1) := by decide +kernel
theorem d_Wrt_putTexts_200 : decode b_Wrt_putTexts 200 = .ok (.invokestatic 249, 3) := by decide +kernel
theorem d_Wrt_putTexts_203 : decode b_Wrt_putTexts 203 = .ok (.aload_n 0, 1) := by decide +kernel
theorem d_Wrt_putTexts_204 : decode b_Wrt_putTexts 204 = .ok (.getfield 43, 3) := by decide +kernel
theorem d_Wrt_putTexts_207 : decode b_Wrt_putTexts 207 = .ok (.iload 4, 2) := by decide +kernel
theorem d_Wrt_putTexts_209 : decode b_Wrt_putTexts 209 = .ok (.laload, 1) := by decide +kernel
theorem d_Wrt_putTexts_210 : decode b_Wrt_putTexts 210 = .ok (.invokestatic 188, 3) := by decide +kernel
theorem d_Wrt_putTexts_213 : decode b_Wrt_putTexts 213 = .ok (.iadd, 1) := by decide +kernel
theorem d_Wrt_putTexts_214 : decode b_Wrt_putTexts 214 = .ok (.iload 5, 2) := by decide +kernel
theorem d_Wrt_putTexts_216 : decode b_Wrt_putTexts 216 = .ok (.isub, 1) := by decide +kernel
theorem d_Wrt_putTexts_217 : decode b_Wrt_putTexts 217 = .ok (.iload 5, 2) := by decide +kernel
theorem d_Wrt_putTexts_219 : decode b_Wrt_putTexts 219 = .ok (.invokevirtual 88, 3) := by decide +kernel
theorem d_Wrt_putTexts_222 : decode b_Wrt_putTexts 222 = .ok (.iinc 4 1, 3) := by decide +kernel
theorem d_Wrt_putTexts_225 : decode b_Wrt_putTexts 225 = .ok (.goto (-56), 3) := by decide +kernel
theorem d_Wrt_putTexts_127 : decode b_Wrt_putTexts 127 = .ok (.lsub, 1) := by decide +kernel
theorem d_Wrt_putTexts_128 : decode b_Wrt_putTexts 128 = .ok (.lastore, 1) := by decide +kernel
theorem d_Wrt_putTexts_129 : decode b_Wrt_putTexts 129 = .ok (.iinc 3 1, 3) := by decide +kernel
theorem d_Wrt_putTexts_132 : decode b_Wrt_putTexts 132 = .ok (.goto (-42), 3) := by decide +kernel
theorem d_Wrt_putTexts_90 : decode b_Wrt_putTexts 90 = .ok (.iload_n 3, 1) := by decide +kernel
theorem d_Wrt_putTexts_91 : decode b_Wrt_putTexts 91 = .ok (.aload_n 0, 1) := by decide +kernel
theorem d_Wrt_putTexts_92 : decode b_Wrt_putTexts 92 = .ok (.getfield 154, 3) := by decide +kernel
theorem d_Wrt_putTexts_95 : decode b_Wrt_putTexts 95 = .ok (.if_icmp .ge 40, 3) := by decide +kernel
theorem d_Wrt_putTexts_135 : decode b_Wrt_putTexts 135 = .ok (.aload_n 0, 1) := by decide +kernel
theorem d_Wrt_putTexts_136 : decode b_Wrt_putTexts 136 = .ok (.getfield 30, 3) := by decide +kernel
theorem d_Wrt_putTexts_139 : decode b_Wrt_putTexts 139 = .ok (.getfield 126, 3) := by decide +kernel
theorem d_Wrt_putTexts_142 : decode b_Wrt_putTexts 142 = .ok (.istore_n 3, 1) := by decide +kernel
theorem d_Wrt_putTexts_143 : decode b_Wrt_putTexts 143 = .ok (.aload_n 0, 1) := by decide +kernel
theorem d_Wrt_putTexts_144 : decode b_Wrt_putTexts 144 = .ok (.getfield 30, 3) := by decide +kernel
theorem d_Wrt_putTexts_147 : decode b_Wrt_putTexts 147 = .ok (.aload_n 0, 1) := by decide +kernel
theorem d_Wrt_putTexts_148 : decode b_Wrt_putTexts 148 = .ok (.getfield 50, 3) := by decide +kernel
theorem d_Wrt_putTexts_151 : decode b_Wrt_putTexts 151 = .ok (.aload_n 0, 1) := by decide +kernel
theorem d_Wrt_putTexts_152 : decode b_Wrt_putTexts 152 = .ok (.getfield 154, 3) := by decide +kernel
theorem d_Wrt_putTexts_155 : decode b_Wrt_putTexts 155 = .ok (.invokevirtual 237, 3) := by decide +kernel
theorem d_Wrt_putTexts_158 : decode b_Wrt_putTexts 158 = .ok (.aload_n 0, 1) := by decide +kernel
theorem d_Wrt_putTexts_159 : decode b_Wrt_putTexts 159 = .ok (.getfield 30, 3) := by decide +kernel
theorem d_Wrt_putTexts_162 : decode b_Wrt_putTexts 162 = .ok (.iload_n 3, 1) := by decide +kernel
theorem d_Wrt_putTexts_163 : decode b_Wrt_putTexts 163 = .ok (.invokevirtual 220, 3) := by decide +kernel
theorem d_Wrt_putTexts_166 : decode b_Wrt_putTexts 166 = .ok (.iconst 0, 1) := by decide +kernel
theorem d_Wrt_putTexts_167 : decode b_Wrt_putTexts 167 = .ok (.istore 4, 2) := by decide +kernel
theorem d_Wrt_putTexts_98 : decode b_Wrt_putTexts 98 = .ok (.aload_n 0, 1) := by decide +kernel
theorem d_Wrt_putTexts_99 : decode b_Wrt_putTexts 99 = .ok (.getfield 50, 3) := by decide +kernel
theorem d_Wrt_putTexts_102 : decode b_Wrt_putTexts 102 = .ok (.iload_n 3, 1) := by decide +kernel
theorem d_Wrt_putTexts_103 : decode b_Wrt_putTexts 103 = .ok (.aload_n 0, 1) := by decide +kernel
theorem d_Wrt_putTexts_104 : decode b_Wrt_putTexts 104 = .ok (.getfield 43, 3) := by decide +kernel
theorem d_Wrt_putTexts_107 : decode b_Wrt_putTexts 107 = .ok (.iload_n 3, 1) := by decide +kernel
theorem d_Wrt_putTexts_108 : decode b_Wrt_putTexts 108 = .ok (.laload, 1) := by decide +kernel
theorem d_Wrt_putTexts_109 : decode b_Wrt_putTexts 109 = .ok (.invokestatic 188, 3) := by decide +kernel
theorem d_Wrt_putTexts_112 : decode b_Wrt_putTexts 112 = .ok (.i2l, 1) := by decide +kernel
theorem d_Wrt_putTexts_113 : decode b_Wrt_putTexts 113 = .ok (.iload_n 1, 1) := by decide +kernel
theorem d_Wrt_putTexts_114 : decode b_Wrt_putTexts 114 = .ok (.ifCond .eq 12, 3) := by decide +kernel
theorem d_Wrt_putTexts_126 : decode b_Wrt_putTexts 126 = .ok (.lconst 0, 1) := by decide +kernel
theorem d_Wrt_putTexts_117 : decode b_Wrt_putTexts 117 = .ok (.aload_n 0, 1) := by decide +kernel
theorem d_Wrt_putTexts_118 : decode b_Wrt_putTexts 118 = .ok (.getfield 50, 3) := by decide +kernel
theorem d_Wrt_putTexts_121 : decode b_Wrt_putTexts 121 = .ok (.iload_n 3, 1) := by decide +kernel
theorem d_Wrt_putTexts_122 : decode b_Wrt_putTexts 122 = .ok (.laload, 1) := by decide +kernel
theorem d_Wrt_putTexts_123 : decode b_Wrt_putTexts 123 = .ok (.goto 4, 3) := by decide +kernel
theorem d_Wrt_putTexts_88 : decode b_Wrt_putTexts 88 = .ok (.iconst 0, 1) := by decide +kernel
theorem d_Wrt_putTexts_89 : decode b_Wrt_putTexts 89 = .ok (.istore_n 3, 1) := by decide +kernel
theorem d_Wrt_putTexts_61 : decode b_Wrt_putTexts 61 = .ok (.iload_n 1, 1) := by decide +kernel
theorem d_Wrt_putTexts_62 : decode b_Wrt_putTexts 62 = .ok (.ifCond .eq 26, 3) := by decide +kernel
theorem d_Wrt_putTexts_65 : decode b_Wrt_putTexts 65 = .ok (.aload_n 0, 1) := by decide +kernel
theorem d_Wrt_putTexts_66 : decode b_Wrt_putTexts 66 = .ok (.getfield 30, 3) := by decide +kernel
theorem d_Wrt_putTexts_69 : decode b_Wrt_putTexts 69 = .ok (.aload_n 0, 1) := by decide +kernel
theorem d_Wrt_putTexts_70 : decode b_Wrt_putTexts 70 = .ok (.getfield 50, 3) := by decide +kernel
theorem d_Wrt_putTexts_73 : decode b_Wrt_putTexts 73 = .ok (.aload_n 0, 1) := by decide +kernel
theorem d_Wrt_putTexts_74 : decode b_Wrt_putTexts 74 = .ok (.getfield 154, 3) := by decide +kernel
theorem d_Wrt_putTexts_77 : decode b_Wrt_putTexts 77 = .ok (.invokevirtual 237, 3) := by decide +kernel
theorem d_Wrt_putTexts_80 : decode b_Wrt_putTexts 80 = .ok (.aload_n 0, 1) := by decide +kernel
theorem d_Wrt_putTexts_81 : decode b_Wrt_putTexts 81 = .ok (.getfield 30, 3) := by decide +kernel
theorem d_Wrt_putTexts_84 : decode b_Wrt_putTexts 84 = .ok (.iconst 0, 1) := by decide +kernel
theorem d_Wrt_putTexts_85 : decode b_Wrt_putTexts 85 = .ok (.invokevirtual 220, 3) := by decide +kernel
theorem d_Wrt_putTexts_54 : decode b_Wrt_putTexts 54 = .ok (.lastore, 1) := by decide +kernel
theorem d_Wrt_putTexts_55 : decode b_Wrt_putTexts 55 = .ok (.iinc 3 1, 3) := by decide +kernel
theorem d_Wrt_putTexts_58 : decode b_Wrt_putTexts 58 = .ok (.goto (-48), 3) := by decide +kernel
theorem d_Wrt_putTexts_10 : decode b_Wrt_putTexts 10 = .ok (.iload_n 3, 1) := by decide +kernel
theorem d_Wrt_putTexts_11 : decode b_Wrt_putTexts 11 = .ok (.aload_n 0, 1) := by decide +kernel
theorem d_Wrt_putTexts_12 : decode b_Wrt_putTexts 12 = .ok (.getfield 154, 3) := by decide +kernel
theorem d_Wrt_putTexts_15 : decode b_Wrt_putTexts 15 = .ok (.if_icmp .ge 46, 3) := by decide +kernel
theorem d_Wrt_putTexts_18 : decode b_Wrt_putTexts 18 = .ok (.iload_n 1, 1) := by decide +kernel
theorem d_Wrt_putTexts_19 : decode b_Wrt_putTexts 19 = .ok (.ifCond .eq 42, 3) := by decide +kernel
theorem d_Wrt_putTexts_22 : decode b_Wrt_putTexts 22 = .ok (.aload_n 0, 1) := by decide +kernel
theorem d_Wrt_putTexts_23 : decode b_Wrt_putTexts 23 = .ok (.getfield 50, 3) := by decide +kernel
theorem d_Wrt_putTexts_26 : decode b_Wrt_putTexts 26 = .ok (.iload_n 3, 1) := by decide +kernel
theorem d_Wrt_putTexts_27 : decode b_Wrt_putTexts 27 = .ok (.iload_n 3, 1) := by decide +kernel
theorem d_Wrt_putTexts_28 : decode b_Wrt_putTexts 28 = .ok (.ifCond .ne 7, 3) := by decide +kernel
theorem d_Wrt_putTexts_35 : decode b_Wrt_putTexts 35 = .ok (.aload_n 2, 1) := by decide +kernel
theorem d_Wrt_putTexts_36 : decode b_Wrt_putTexts 36 = .ok (.aload_n 0, 1) := by decide +kernel
theorem d_Wrt_putTexts_37 : decode b_Wrt_putTexts 37 = .ok (.getfield 43, 3) := by decide +kernel
theorem d_Wrt_putTexts_40 : decode b_Wrt_putTexts 40 = .ok (.iload_n 3, 1) := by decide +kernel
theorem d_Wrt_putTexts_41 : decode b_Wrt_putTexts 41 = .ok (.iconst 1, 1) := by decide +kernel
theorem d_Wrt_putTexts_42 : decode b_Wrt_putTexts 42 = .ok (.isub, 1) := by decide +kernel
theorem d_Wrt_putTexts_43 : decode b_Wrt_putTexts 43 = .ok (.laload, 1) := by decide +kernel
theorem d_Wrt_putTexts_44 : decode b_Wrt_putTexts 44 = .ok (.aload_n 0, 1) := by decide +kernel
theorem d_Wrt_putTexts_45 : decode b_Wrt_putTexts 45 = .ok (.getfield 43, 3) := by decide +kernel
theorem d_Wrt_putTexts_48 : decode b_Wrt_putTexts 48 = .ok (.iload_n 3, 1) := by decide +kernel
theorem d_Wrt_putTexts_49 : decode b_Wrt_putTexts 49 = .ok (.laload, 1) := by decide +kernel
theorem d_Wrt_putTexts_50 : decode b_Wrt_putTexts 50 = .ok (.invokestatic 245, 3) := by decide +kernel
theorem d_Wrt_putTexts_53 : decode b_Wrt_putTexts 53 = .ok (.i2l, 1) := by decide +kernel
theorem d_Wrt_putTexts_31 : decode b_Wrt_putTexts 31 = .ok (.lconst 0, 1) := by decide +kernel
theorem d_Wrt_putTexts_32 : decode b_Wrt_putTexts 32 = .ok (.goto 22, 3) := by decide +kernel
theorem d_Wrt_putTexts_0 : decode b_Wrt_putTexts 0 = .ok (.aload_n 0, 1) := by decide +kernel
theorem d_Wrt_putTexts_1 : decode b_Wrt_putTexts 1 = .ok (.getfield 66, 3) := by decide +kernel
theorem d_Wrt_putTexts_4 : decode b_Wrt_putTexts 4 = .ok (.getfield 171, 3) := by decide +kernel
theorem d_Wrt_putTexts_7 : decode b_Wrt_putTexts 7 = .ok (.astore_n 2, 1) := by decide +kernel
theorem d_Wrt_putTexts_8 : decode b_Wrt_putTexts 8 = .ok (.iconst 0, 1) := by decide +kernel
theorem d_Wrt_putTexts_9 : decode b_Wrt_putTexts 9 = .ok (.istore_n 3, 1) := by decide +kernel
theorem d_Wrt_chooseCoding_166 : decode b_Wrt_chooseCoding 166 = .ok (.iinc 4 1, 3) := by decide +kernel
theorem d_Wrt_chooseCoding_169 : decode b_Wrt_chooseCoding 169 = .ok (.goto (-145), 3) := by decide +kernel
theorem d_Wrt_chooseCoding_143 : decode b_Wrt_chooseCoding 143 = .ok (.aload_n 0, 1) := by decide +kernel
theorem d_Wrt_chooseCoding_144 : decode b_Wrt_chooseCoding 144 = .ok (.getfield 27, 3) := by decide +kernel
theorem d_Wrt_chooseCoding_147 : decode b_Wrt_chooseCoding 147 = .ok (.astore 5, 2) := by decide +kernel
theorem d_Wrt_chooseCoding_149 : decode b_Wrt_chooseCoding 149 = .ok (.aload_n 0, 1) := by decide +kernel
theorem d_Wrt_chooseCoding_150 : decode b_Wrt_chooseCoding 150 = .ok (.aload_n 0, 1) := by decide +kernel
theorem d_Wrt_chooseCoding_151 : decode b_Wrt_chooseCoding 151 = .ok (.getfield 30, 3) := by decide +kernel
theorem d_Wrt_chooseCoding_154 : decode b_Wrt_chooseCoding 154 = .ok (.putfield 27, 3) := by decide +kernel
theorem d_Wrt_chooseCoding_157 : decode b_Wrt_chooseCoding 157 = .ok (.aload_n 0, 1) := by decide +kernel
theorem d_Wrt_chooseCoding_158 : decode b_Wrt_chooseCoding 158 = .ok (.aload 5, 2) := by decide +kernel
theorem d_Wrt_chooseCoding_160 : decode b_Wrt_chooseCoding 160 = .ok (.putfield 30, 3) := by decide +kernel
theorem d_Wrt_chooseCoding_163 : decode b_Wrt_chooseCoding 163 = .ok (.iload 4, 2) := by decide +kernel
theorem d_Wrt_chooseCoding_165 : decode b_Wrt_chooseCoding 165 = .ok (.istore_n 3, 1) := by decide +kernel
theorem d_Wrt_chooseCoding_121 : decode b_Wrt_chooseCoding 121 = .ok (.iload 4, 2) := by decide +kernel
theorem d_Wrt_chooseCoding_123 : decode b_Wrt_chooseCoding 123 = .ok (.ifCond .eq 20, 3) := by decide +kernel
theorem d_Wrt_chooseCoding_126 : decode b_Wrt_chooseCoding 126 = .ok (.aload_n 0, 1) := by decide +kernel
theorem d_Wrt_chooseCoding_127 : decode b_Wrt_chooseCoding 127 = .ok (.getfield 30, 3) := by decide +kernel
theorem d_Wrt_chooseCoding_130 : decode b_Wrt_chooseCoding 130 = .ok (.getfield 126, 3) := by decide +kernel
theorem d_Wrt_chooseCoding_133 : decode b_Wrt_chooseCoding 133 = .ok (.aload_n 0, 1) := by decide +kernel
theorem d_Wrt_chooseCoding_134 : decode b_Wrt_chooseCoding 134 = .ok (.getfield 27, 3) := by decide +kernel
theorem d_Wrt_chooseCoding_137 : decode b_Wrt_chooseCoding 137 = .ok (.getfield 126, 3) := by decide +kernel
theorem d_Wrt_chooseCoding_140 : decode b_Wrt_chooseCoding 140 = .ok (.if_icmp .ge 26, 3) := by decide +kernel
theorem d_Wrt_chooseCoding_100 : decode b_Wrt_chooseCoding 100 = .ok (.invokevirtual 233, 3) := by decide +kernel
theorem d_Wrt_chooseCoding_103 : decode b_Wrt_chooseCoding 103 = .ok (.goto 18, 3) := by decide +kernel
theorem d_Wrt_chooseCoding_24 : decode b_Wrt_chooseCoding 24 = .ok (.iload 4, 2) := by decide +kernel
theorem d_Wrt_chooseCoding_26 : decode b_Wrt_chooseCoding 26 = .ok (.iload_n 2, 1) := by decide +kernel
theorem d_Wrt_chooseCoding_27 : decode b_Wrt_chooseCoding 27 = .ok (.if_icmp .gt 145, 3) := by decide +kernel
theorem d_Wrt_chooseCoding_172 : decode b_Wrt_chooseCoding 172 = .ok (.iload_n 3, 1) := by decide +kernel
theorem d_Wrt_chooseCoding_173 : decode b_Wrt_chooseCoding 173 = .ok (.ireturn, 1) := by decide +kernel
theorem d_Wrt_chooseCoding_30 : decode b_Wrt_chooseCoding 30 = .ok (.aload_n 0, 1) := by decide +kernel
theorem d_Wrt_chooseCoding_31 : decode b_Wrt_chooseCoding 31 = .ok (.getfield 30, 3) := by decide +kernel
theorem d_Wrt_chooseCoding_34 : decode b_Wrt_chooseCoding 34 = .ok (.invokevirtual 81, 3) := by decide +kernel
theorem d_Wrt_chooseCoding_37 : decode b_Wrt_chooseCoding 37 = .ok (.iload 4, 2) := by decide +kernel
theorem d_Wrt_chooseCoding_39 : decode b_Wrt_chooseCoding 39 = .ok (.ifCond .ne 19, 3) := by decide +kernel
theorem d_Wrt_chooseCoding_58 : decode b_Wrt_chooseCoding 58 = .ok (.iload_n 1, 1) := by decide +kernel
theorem d_Wrt_chooseCoding_59 : decode b_Wrt_chooseCoding 59 = .ok (.ifCond .ne 10, 3) := by decide +kernel
theorem d_Wrt_chooseCoding_69 : decode b_Wrt_chooseCoding 69 = .ok (.iload 4, 2) := by decide +kernel
theorem d_Wrt_chooseCoding_71 : decode b_Wrt_chooseCoding 71 = .ok (.iload_n 2, 1) := by decide +kernel
theorem d_Wrt_chooseCoding_72 : decode b_Wrt_chooseCoding 72 = .ok (.if_icmp .ne 11, 3) := by decide +kernel
theorem d_Wrt_chooseCoding_83 : decode b_Wrt_chooseCoding 83 = .ok (.iload_n 1, 1) := by decide +kernel
theorem d_Wrt_chooseCoding_84 : decode b_Wrt_chooseCoding 84 = .ok (.iconst 3, 1) := by decide +kernel
theorem d_Wrt_chooseCoding_85 : decode b_Wrt_chooseCoding 85 = .ok (.if_icmp .ne 21, 3) := by decide +kernel
theorem d_Wrt_chooseCoding_106 : decode b_Wrt_chooseCoding 106 = .ok (.aload_n 0, 1) := by decide +kernel
theorem d_Wrt_chooseCoding_107 : decode b_Wrt_chooseCoding 107 = .ok (.getfield 30, 3) := by decide +kernel
theorem d_Wrt_chooseCoding_110 : decode b_Wrt_chooseCoding 110 = .ok (.aload_n 0, 1) := by decide +kernel
theorem d_Wrt_chooseCoding_111 : decode b_Wrt_chooseCoding 111 = .ok (.getfield 43, 3) := by decide +kernel
theorem d_Wrt_chooseCoding_114 : decode b_Wrt_chooseCoding 114 = .ok (.aload_n 0, 1) := by decide +kernel
theorem d_Wrt_chooseCoding_115 : decode b_Wrt_chooseCoding 115 = .ok (.getfield 154, 3) := by decide +kernel
theorem d_Wrt_chooseCoding_118 : decode b_Wrt_chooseCoding 118 = .ok (.invokevirtual 237, 3) := by decide +kernel
theorem d_Wrt_chooseCoding_88 : decode b_Wrt_chooseCoding 88 = .ok (.aload_n 0, 1) := by decide +kernel
theorem d_Wrt_chooseCoding_89 : decode b_Wrt_chooseCoding 89 = .ok (.iload 4, 2) := by decide +kernel
theorem d_Wrt_chooseCoding_91 : decode b_Wrt_chooseCoding 91 = .ok (.iconst 2, 1) := by decide +kernel
theorem d_Wrt_chooseCoding_92 : decode b_Wrt_chooseCoding 92 = .ok (.if_icmp .ne 7, 3) := by decide +kernel
theorem d_Wrt_chooseCoding_99 : decode b_Wrt_chooseCoding 99 = .ok (.iconst 0, 1) := by decide +kernel
theorem d_Wrt_chooseCoding_95 : decode b_Wrt_chooseCoding 95 = .ok (.iconst 1, 1) := by decide +kernel
theorem d_Wrt_chooseCoding_96 : decode b_Wrt_chooseCoding 96 = .ok (.goto 4, 3) := by decide +kernel
theorem d_Wrt_chooseCoding_75 : decode b_Wrt_chooseCoding 75 = .ok (.aload_n 0, 1) := by decide +kernel
theorem d_Wrt_chooseCoding_76 : decode b_Wrt_chooseCoding 76 = .ok (.iload_n 1, 1) := by decide +kernel
theorem d_Wrt_chooseCoding_77 : decode b_Wrt_chooseCoding 77 = .ok (.invokevirtual 230, 3) := by decide +kernel
theorem d_Wrt_chooseCoding_80 : decode b_Wrt_chooseCoding 80 = .ok (.goto 41, 3) := by decide +kernel
theorem d_Wrt_chooseCoding_62 : decode b_Wrt_chooseCoding 62 = .ok (.aload_n 0, 1) := by decide +kernel
theorem d_Wrt_chooseCoding_63 : decode b_Wrt_chooseCoding 63 = .ok (.invokevirtual 227, 3) := by decide +kernel
theorem d_Wrt_chooseCoding_66 : decode b_Wrt_chooseCoding 66 = .ok (.goto 55, 3) := by decide +kernel
theorem d_Wrt_chooseCoding_42 : decode b_Wrt_chooseCoding 42 = .ok (.aload_n 0, 1) := by decide +kernel
theorem d_Wrt_chooseCoding_43 : decode b_Wrt_chooseCoding 43 = .ok (.iload_n 1, 1) := by decide +kernel
theorem d_Wrt_chooseCoding_44 : decode b_Wrt_chooseCoding 44 = .ok (.aload_n 0, 1) := by decide +kernel
theorem d_Wrt_chooseCoding_45 : decode b_Wrt_chooseCoding 45 = .ok (.getfield 43, 3) := by decide +kernel
theorem d_Wrt_chooseCoding_48 : decode b_Wrt_chooseCoding 48 = .ok (.aload_n 0, 1) := by decide +kernel
theorem d_Wrt_chooseCoding_49 : decode b_Wrt_chooseCoding 49 = .ok (.getfield 154, 3) := by decide +kernel
theorem d_Wrt_chooseCoding_52 : decode b_Wrt_chooseCoding 52 = .ok (.invokevirtual 223, 3) := by decide +kernel
theorem d_Wrt_chooseCoding_55 : decode b_Wrt_chooseCoding 55 = .ok (.goto 66, 3) := by decide +kernel
theorem d_Wrt_chooseCoding_18 : decode b_Wrt_chooseCoding 18 = .ok (.istore_n 2, 1) := by decide +kernel
theorem d_Wrt_chooseCoding_19 : decode b_Wrt_chooseCoding 19 = .ok (.iconst 0, 1) := by decide +kernel
theorem d_Wrt_chooseCoding_20 : decode b_Wrt_chooseCoding 20 = .ok (.istore_n 3, 1) := by decide +kernel
theorem d_Wrt_chooseCoding_21 : decode b_Wrt_chooseCoding 21 = .ok (.iconst 0, 1) := by decide +kernel
theorem d_Wrt_chooseCoding_22 : decode b_Wrt_chooseCoding 22 = .ok (.istore 4, 2) := by decide +kernel
theorem d_Wrt_chooseCoding_0 : decode b_Wrt_chooseCoding 0 = .ok (.iload_n 1, 1) := by decide +kernel
theorem d_Wrt_chooseCoding_1 : decode b_Wrt_chooseCoding 1 = .ok (.ifCond .ne 7, 3) := by decide +kernel
theorem d_Wrt_chooseCoding_8 : decode b_Wrt_chooseCoding 8 = .ok (.iload_n 1, 1) := by decide +kernel
theorem d_Wrt_chooseCoding_9 : decode b_Wrt_chooseCoding 9 = .ok (.iconst 3, 1) := by decide +kernel
theorem d_Wrt_chooseCoding_10 : decode b_Wrt_chooseCoding 10 = .ok (.if_icmp .ne 7, 3) := by decide +kernel
theorem d_Wrt_chooseCoding_17 : decode b_Wrt_chooseCoding 17 = .ok (.iconst 2, 1) := by decide +kernel
theorem d_Wrt_chooseCoding_13 : decode b_Wrt_chooseCoding 13 = .ok (.iconst 3, 1) := by decide +kernel
theorem d_Wrt_chooseCoding_14 : decode b_Wrt_chooseCoding 14 = .ok (.goto 4, 3) := by decide +kernel
theorem d_Wrt_chooseCoding_4 : decode b_Wrt_chooseCoding 4 = .ok (.iconst 1, 1) := by decide +kernel
theorem d_Wrt_chooseCoding_5 : decode b_Wrt_chooseCoding 5 = .ok (.goto 13, 3) := by decide +kernel
section
variable (l : Launch) (dC : Nat → ClassId) (dI : Nat → Nat → Nat) (cI cB cJ cZ : ClassId)
set_option maxRecDepth 100000 in
def j_Wrt_putTexts_169 (post : St → Prop) (rec169 : Nat → Int32 → Nat → Int32 → Int32 → Nat → Nat → St → Prop) (o : Nat) (l1 : Int32) (l2 : Nat) (l3 : Int32) (l4 : Int32) (kb : Nat) (nb : Nat) (x : St) : Prop := (((fI x o 12) ≤ l4 → post x) ∧ (¬ (fI x o 12) ≤ l4 → (vp_in l4 (fN x (stC o 16)) ∧ (∀ v2 : Int32, v2 = ((rL x (stC o 16) l4) : Int64).toInt32 → (∃ q3 : Nat, fR x o 4 = some q3 ∧ (vp_in l4 (fN x (stC o 10)) ∧ wp_V_placeOf (fun (r5 : Int32) (x4 : St) => (vp_in l4 (fN x4 (stC o 10)) ∧ wp_V_sizeOf (fun (r7 : Int32) (x6 : St) => (∃ k8 n9 k10 n11 : Nat, k8 + k10 = kb ∧ n9 + n11 = nb ∧ wp_Snk_putAll (fun (x12 : St) => rec169 o l1 l2 l3 (l4 + 1) k10 n11 x12) q3 l2 ((r5 + r7) - v2) v2 k8 n9 x6)) (rL x4 (stC o 10) l4) x4)) (rL x (stC o 10) l4) x))))))
set_option maxHeartbeats 4000000 in
set_option maxRecDepth 100000 in
theorem t_Wrt_putTexts_169 {p : Program} {l : Launch} {e : Env} {R : Room} {s : State} {m : MethodId} {args : Array Value} {below : List Frame} {meth : Method} {c : Code} {Q : State → Prop} {dC : Nat → ClassId} {dI : Nat → Nat → Nat} {cI cB cJ cZ : ClassId} {A : Nat → Prop} {E : Heap} {tM tC : Nat} {kK kV : Nat → Nat} {ad0 : Nat → Nat} {NN0 : Nat} {post : St → Prop} {rec169 : Nat → Int32 → Nat → Int32 → Int32 → Nat → Nat → St → Prop} (hx : p.tables.exec = Jvm.exec) (hb : c.code = b_Wrt_putTexts) (hml : c.maxLocals = 6) (hown : s.vm.findClass R_Wrt = some m.cls) (hT : ∀ w ∈ TG, w.before args s = true) (hK : va_K (dC, dI) CL (TY cI cB cJ cZ) s) (hN : NW s) (hA : ∀ q : Nat, s.heap.size ≤ q → A q) (hRf : 6 ≤ R.frames) (hRl : 300 ≤ R.locals) (hE : CE E tM tC kK kV A s) (hret : ∀ (ad : Nat → Nat) (NN cells slots : Nat) (x : St) (H : Heap) (locs : List Loc) (pc : Nat) (ls : Array Slot), decode b_Wrt_putTexts pc = .ok (.return_, 1) → (NN0 ≤ NN ∧ ∀ o : Nat, o < NN0 → ad o = ad0 o) → cells ≤ R.cells → slots ≤ R.slots → post x → Wd dC dI cI cB cJ cZ ad stC kcC NN A x H → va_S A s.heap H locs → W p l e R s m args below meth c H locs cells slots Q (F0 m pc ls [])) (hrec169 : ∀ (ad : Nat → Nat) (NN cells slots : Nat) (o : Nat) (l1 : Int32) (l2 : Nat) (l3 : Int32) (l4 : Int32) (kb : Nat) (nb : Nat) (x : St) (H : Heap) (locs : List Loc) (ls : Array Slot), (152 ≤ NN) → (NN0 ≤ NN ∧ ∀ o : Nat, o < NN0 → ad o = ad0 o) → (cells + kb ≤ R.cells) → (slots + nb ≤ R.slots) → (o < NN ∧ kcC o = 5) → (l2 < NN ∧ kcC l2 = 21) → rec169 o l1 l2 l3 l4 kb nb x → Wd dC dI cI cB cJ cZ ad stC kcC NN A x H → va_S A s.heap H locs → lv_has ls 6 [(0, .ref (ad o)), (1, .int l1), (2, .ref (ad l2)), (3, .int l3), (4, .int l4)] → W p l e R s m args below meth c H locs cells slots Q (F0 m 169 ls [])) : ∀ (ad : Nat → Nat) (NN cells slots : Nat) (o : Nat) (l1 : Int32) (l2 : Nat) (l3 : Int32) (l4 : Int32) (kb : Nat) (nb : Nat) (x : St) (H : Heap) (locs : List Loc) (ls : Array Slot), (152 ≤ NN) → (NN0 ≤ NN ∧ ∀ o : Nat, o < NN0 → ad o = ad0 o) → (cells + kb ≤ R.cells) → (slots + nb ≤ R.slots) → (o < NN ∧ kcC o = 5) → (l2 < NN ∧ kcC l2 = 21) → j_Wrt_putTexts_169 post rec169 o l1 l2 l3 l4 kb nb x → Wd dC dI cI cB cJ cZ ad stC kcC NN A x H → va_S A s.heap H locs → lv_has ls 6 [(0, .ref (ad o)), (1, .int l1), (2, .ref (ad l2)), (3, .int l3), (4, .int l4)] → W p l e R s m args below meth c H locs cells slots Q (F0 m 169 ls []) := by
  intro ad NN cells slots o l1 l2 l3 l4 kb nb x H locs ls hNN hag hRc hRs fo fl2 hw hW hS hl
  unfold j_Wrt_putTexts_169 at hw
  refine lv_iload hx hb d_Wrt_putTexts_169 (lv_at hl 4 rfl) ?_
  refine lv_aload_n hx hb d_Wrt_putTexts_171 rfl (lv_at hl 0 rfl) ?_
  refine w_geti (k := 12) (t := 5) (C := R_Wrt) (T := F_Wrt) (N := 20) hx hb hT hown hK hW fo.1 fo.2 (by decide) in_Wrt rfl rfl (by decide) rfl fr_Wrt_12 w_2_63 d_Wrt_putTexts_172 ?_
  refine lv_icmp_ge (tgt := 228) hx hb d_Wrt_putTexts_175 (by decide) (fun c1 => ?_) (fun c1 => ?_)
  · have hw := hw.1 c1
    exact hret ad NN cells slots x H locs 228 ls d_Wrt_putTexts_228 hag (Nat.le_trans (Nat.le_add_right _ _) hRc) (Nat.le_trans (Nat.le_add_right _ _) hRs) hw hW hS
  · have hw := hw.2 c1
    refine lv_aload_n hx hb d_Wrt_putTexts_178 rfl (lv_at hl 0 rfl) ?_
    refine w_getf (q := (stC o 16)) (k := 16) (t := 5) (C := R_Wrt) (T := F_Wrt) (N := 20) hx hb hT hown hK hW fo.1 fo.2 (by decide) in_Wrt rfl rfl (by decide) rfl fr_Wrt_16 w_2_67 d_Wrt_putTexts_179 rfl ?_
    refine lv_iload hx hb d_Wrt_putTexts_182 (lv_at hl 4 rfl) ?_
    obtain ⟨hi, hw⟩ := hw
    refine w_lald (o := (stC o 16)) hx hb hK hW (st_ty hNN fo.1 fo.2 rfl).1 (st_ty hNN fo.1 fo.2 rfl).2 hi d_Wrt_putTexts_184 ?_
    refine lv_l2i hx hb d_Wrt_putTexts_185 rfl ?_
    refine lv_topi (fun v2 ev2 => ?_)
    have hw := hw v2 ev2
    refine lv_istore (lv' := [(5, .int v2), (0, .ref (ad o)), (1, .int l1), (2, .ref (ad l2)), (3, .int l3), (4, .int l4)]) hx hb d_Wrt_putTexts_186 hl (by decide) rfl (fun ls hl => ?_)
    refine lv_aload_n hx hb d_Wrt_putTexts_188 rfl (lv_at hl 1 rfl) ?_
    obtain ⟨q3, hq3, hw⟩ := hw
    refine w_getr (q := q3) (k := 4) (t := 5) (C := R_Wrt) (T := F_Wrt) (N := 20) hx hb hT hown hK hW fo.1 fo.2 (by decide) in_Wrt rfl rfl (by decide) rfl fr_Wrt_4 w_2_55 d_Wrt_putTexts_189 hq3 (fun aq3 bq3 => ?_)
    have fq3 : q3 < NN ∧ kcC q3 = 1 := ⟨aq3, bq3⟩
    refine lv_aload_n hx hb d_Wrt_putTexts_192 rfl (lv_at hl 3 rfl) ?_
    refine lv_aload_n hx hb d_Wrt_putTexts_193 rfl (lv_at hl 1 rfl) ?_
    refine w_getf (q := (stC o 10)) (k := 10) (t := 5) (C := R_Wrt) (T := F_Wrt) (N := 20) hx hb hT hown hK hW fo.1 fo.2 (by decide) in_Wrt rfl rfl (by decide) rfl fr_Wrt_10 w_2_61 d_Wrt_putTexts_194 rfl ?_
    refine lv_iload hx hb d_Wrt_putTexts_197 (lv_at hl 5 rfl) ?_
    obtain ⟨hi, hw⟩ := hw
    refine w_lald (o := (stC o 10)) hx hb hK hW (st_ty hNN fo.1 fo.2 rfl).1 (st_ty hNN fo.1 fo.2 rfl).2 hi d_Wrt_putTexts_199 ?_
    have hF := hW.free hS hA
    refine va_calli (va_runSN (As := [.long (rL x (stC o 10) l4)]) (rest := [.ref (ad l2), .ref (ad q3)]) ⟨hx, hb, hml, hown, hT⟩ (k_V_placeOf l dC dI cI cB cJ cZ ad NN E tM tC kK kV hNN H.size (rL x (stC o 10) l4) x  hw) ⟨va_cnB 1 hT (gw_in w_5_183) rfl rfl rfl (hN _ wn_6_19 rfl) (hT _ w_1_1) (by decide +kernel) ⟨Nat.le_trans (by decide) hRf, Nat.le_trans (by decide) hRl⟩, hT _ w_5_182, trivial⟩ ⟨PV.blind, PV.at _ hW hK hN hE hS hF⟩ rfl rfl hl.1 rfl (lv_room (Nat.le_of_ble_eq_true rfl)) d_Wrt_putTexts_200 ⟨(Nat.le_trans (Nat.le_add_right _ _) hRc), (Nat.le_trans (Nat.le_add_right _ _) hRs)⟩) hS (fun q _ h => hF q h) hF (fun r5 x4 t H locs ht hvm hw hB hz1 hk1 hS => ?_)
    have hW := Wd.back hB ht hF
    clear hB ht hF hz1 hk1 hvm
    refine lv_aload_n hx hb d_Wrt_putTexts_203 rfl (lv_at hl 1 rfl) ?_
    refine w_getf (q := (stC o 10)) (k := 10) (t := 5) (C := R_Wrt) (T := F_Wrt) (N := 20) hx hb hT hown hK hW fo.1 fo.2 (by decide) in_Wrt rfl rfl (by decide) rfl fr_Wrt_10 w_2_61 d_Wrt_putTexts_204 rfl ?_
    refine lv_iload hx hb d_Wrt_putTexts_207 (lv_at hl 5 rfl) ?_
    obtain ⟨hi, hw⟩ := hw
    refine w_lald (o := (stC o 10)) hx hb hK hW (st_ty hNN fo.1 fo.2 rfl).1 (st_ty hNN fo.1 fo.2 rfl).2 hi d_Wrt_putTexts_209 ?_
    have hF := hW.free hS hA
    refine va_calli (va_runSN (As := [.long (rL x4 (stC o 10) l4)]) (rest := [.int r5, .ref (ad l2), .ref (ad q3)]) ⟨hx, hb, hml, hown, hT⟩ (k_V_sizeOf l dC dI cI cB cJ cZ ad NN E tM tC kK kV hNN H.size (rL x4 (stC o 10) l4) x4  hw) ⟨va_cnB 1 hT (gw_in w_5_161) rfl rfl rfl (hN _ wn_5_159 rfl) (hT _ w_1_1) (by decide +kernel) ⟨Nat.le_trans (by decide) hRf, Nat.le_trans (by decide) hRl⟩, hT _ w_5_160, trivial⟩ ⟨PV.blind, PV.at _ hW hK hN hE hS hF⟩ rfl rfl hl.1 rfl (lv_room (Nat.le_of_ble_eq_true rfl)) d_Wrt_putTexts_210 ⟨(Nat.le_trans (Nat.le_add_right _ _) hRc), (Nat.le_trans (Nat.le_add_right _ _) hRs)⟩) hS (fun q _ h => hF q h) hF (fun r7 x6 t H locs ht hvm hw hB hz1 hk1 hS => ?_)
    have hW := Wd.back hB ht hF
    clear hB ht hF hz1 hk1 hvm
    refine lv_iadd hx hb d_Wrt_putTexts_213 ?_
    refine lv_iload hx hb d_Wrt_putTexts_214 (lv_at hl 0 rfl) ?_
    refine lv_isub hx hb d_Wrt_putTexts_216 ?_
    refine lv_iload hx hb d_Wrt_putTexts_217 (lv_at hl 0 rfl) ?_
    obtain ⟨k8, n9, k10, n11, ek8, en9, hw⟩ := hw
    have hF := hW.free hS hA
    refine va_callv (va_runV (C := R_Snk) (As := [.ref (ad l2), .int ((r5 + r7) - v2), .int v2]) (rest := []) ⟨hx, hb, hml, hown, hT⟩ (k_Snk_putAll l dC dI cI cB cJ cZ ad NN E tM tC kK kV hNN H.size q3 l2 ((r5 + r7) - v2) v2 k8 n9 x6 fq3 fl2 hw) ⟨callB_of 3 hT (gw_in w_5_138) rfl rfl rfl (hT _ w_1_2) (hT _ w_5_135) (by decide +kernel) ⟨Nat.le_trans (by decide) hRf, Nat.le_trans (by decide) hRl⟩, hT _ w_5_136, hT _ w_5_137⟩ ⟨PV.blind, va_recv hK hW.1 (ci := 1) (q0 := q3) rfl (pic_obj fq3.1 fq3.2 (by decide)), PV.at _ hW hK hN hE hS hF⟩ rfl rfl hl.1 rfl (lv_room (Nat.le_of_ble_eq_true rfl)) d_Wrt_putTexts_219 ⟨show cells + k8 ≤ R.cells by omega, show slots + n9 ≤ R.slots by omega⟩) hS (fun q _ h => hF q h) hF (fun  x12 t H locs ht hvm hw hB hz1 hk1 hS => ?_)
    obtain ⟨x12, ad, NN⟩ := x12
    obtain ⟨hB, hle, hg⟩ := hB
    try dsimp only at hw hB hle hg
    have hW := Wd.back hB ht hF
    rw [← hg o fo.1] at hl
    rw [← hg l2 fl2.1] at hl
    have fl2 : l2 < NN ∧ kcC l2 = 21 := ⟨Nat.lt_of_lt_of_le fl2.1 hle, fl2.2⟩
    have fo : o < NN ∧ kcC o = 5 := ⟨Nat.lt_of_lt_of_le fo.1 hle, fo.2⟩
    have fq3 : q3 < NN ∧ kcC q3 = 1 := ⟨Nat.lt_of_lt_of_le fq3.1 hle, fq3.2⟩
    have hag : NN0 ≤ NN ∧ ∀ o : Nat, o < NN0 → ad o = ad0 o := ⟨Nat.le_trans hag.1 hle, fun o h => (hg o (Nat.lt_of_lt_of_le h hag.1)).trans (hag.2 o h)⟩
    have hNN : 152 ≤ NN := Nat.le_trans hNN hle
    clear hg hle
    obtain ⟨cells, ec⟩ : ∃ z, z = cells + k8 := ⟨_, rfl⟩
    obtain ⟨slots, es⟩ : ∃ z, z = slots + n9 := ⟨_, rfl⟩
    rw [← ec, ← es]
    have hRc : cells + k10 ≤ R.cells := by omega
    have hRs : slots + n11 ≤ R.slots := by omega
    clear ec es hB ht hF hz1 hk1 hvm ek8 en9
    refine lv_iinc (v := (l4 + 1)) (lv' := [(4, .int (l4 + 1)), (5, .int v2), (0, .ref (ad o)), (1, .int l1), (2, .ref (ad l2)), (3, .int l3)]) hx hb d_Wrt_putTexts_222 hl (k := 5) rfl rfl (by decide) rfl (fun ls hl => ?_)
    refine lv_goto (tgt := 169) hx hb d_Wrt_putTexts_225 (by decide) ?_
    exact hrec169 ad NN cells slots o l1 l2 l3 (l4 + 1) k10 n11 x12 H locs ls hNN hag hRc hRs fo fl2 hw hW hS (lv_sub hl [2, 3, 4, 5, 0] rfl)
def wl_Wrt_putTexts_169 (post : St → Prop) : Nat → Nat → Int32 → Nat → Int32 → Int32 → Nat → Nat → St → Prop
  | 0 => fun _ _ _ _ _ _ _ _ => False
  | n + 1 => j_Wrt_putTexts_169 post (wl_Wrt_putTexts_169 post n)
set_option maxHeartbeats 4000000 in
set_option maxRecDepth 100000 in
theorem tl_Wrt_putTexts_169 {p : Program} {l : Launch} {e : Env} {R : Room} {s : State} {m : MethodId} {args : Array Value} {below : List Frame} {meth : Method} {c : Code} {Q : State → Prop} {dC : Nat → ClassId} {dI : Nat → Nat → Nat} {cI cB cJ cZ : ClassId} {A : Nat → Prop} {E : Heap} {tM tC : Nat} {kK kV : Nat → Nat} {ad0 : Nat → Nat} {NN0 : Nat} {post : St → Prop} (hx : p.tables.exec = Jvm.exec) (hb : c.code = b_Wrt_putTexts) (hml : c.maxLocals = 6) (hown : s.vm.findClass R_Wrt = some m.cls) (hT : ∀ w ∈ TG, w.before args s = true) (hK : va_K (dC, dI) CL (TY cI cB cJ cZ) s) (hN : NW s) (hA : ∀ q : Nat, s.heap.size ≤ q → A q) (hRf : 6 ≤ R.frames) (hRl : 300 ≤ R.locals) (hE : CE E tM tC kK kV A s) (hret : ∀ (ad : Nat → Nat) (NN cells slots : Nat) (x : St) (H : Heap) (locs : List Loc) (pc : Nat) (ls : Array Slot), decode b_Wrt_putTexts pc = .ok (.return_, 1) → (NN0 ≤ NN ∧ ∀ o : Nat, o < NN0 → ad o = ad0 o) → cells ≤ R.cells → slots ≤ R.slots → post x → Wd dC dI cI cB cJ cZ ad stC kcC NN A x H → va_S A s.heap H locs → W p l e R s m args below meth c H locs cells slots Q (F0 m pc ls []))  : ∀ n : Nat, ∀ (ad : Nat → Nat) (NN cells slots : Nat) (o : Nat) (l1 : Int32) (l2 : Nat) (l3 : Int32) (l4 : Int32) (kb : Nat) (nb : Nat) (x : St) (H : Heap) (locs : List Loc) (ls : Array Slot), (152 ≤ NN) → (NN0 ≤ NN ∧ ∀ o : Nat, o < NN0 → ad o = ad0 o) → (cells + kb ≤ R.cells) → (slots + nb ≤ R.slots) → (o < NN ∧ kcC o = 5) → (l2 < NN ∧ kcC l2 = 21) → wl_Wrt_putTexts_169 post n o l1 l2 l3 l4 kb nb x → Wd dC dI cI cB cJ cZ ad stC kcC NN A x H → va_S A s.heap H locs → lv_has ls 6 [(0, .ref (ad o)), (1, .int l1), (2, .ref (ad l2)), (3, .int l3), (4, .int l4)] → W p l e R s m args below meth c H locs cells slots Q (F0 m 169 ls []) := by
  intro n
  induction n with
  | zero => intro ad NN cells slots o l1 l2 l3 l4 kb nb x H locs ls hNN hag hRc hRs fo fl2 hw; exact hw.elim
  | succ n ih => intro ad NN cells slots o l1 l2 l3 l4 kb nb x H locs ls hNN hag hRc hRs fo fl2 hw hW hS hl; exact t_Wrt_putTexts_169 hx hb hml hown hT hK hN hA hRf hRl hE hret  ih ad NN cells slots o l1 l2 l3 l4 kb nb x H locs ls hNN hag hRc hRs fo fl2 hw hW hS hl
set_option maxRecDepth 100000 in
def j_Wrt_putTexts_127 (post : St → Prop) (rec90 : Nat → Int32 → Nat → Int32 → Nat → Nat → St → Prop) (o : Nat) (l1 : Int32) (l2 : Nat) (l3 : Int32) (s0 : Int64) (s1 : Int64) (s2 : Int32) (s3 : Nat) (kb : Nat) (nb : Nat) (x : St) : Prop := (vp_in s2 (fN x s3) ∧ ∀ x13 : St, x13 = setL x s3 s2 (s1 - s0) → rec90 o l1 l2 (l3 + 1) kb nb x13)
set_option maxHeartbeats 4000000 in
set_option maxRecDepth 100000 in
theorem t_Wrt_putTexts_127 {p : Program} {l : Launch} {e : Env} {R : Room} {s : State} {m : MethodId} {args : Array Value} {below : List Frame} {meth : Method} {c : Code} {Q : State → Prop} {dC : Nat → ClassId} {dI : Nat → Nat → Nat} {cI cB cJ cZ : ClassId} {A : Nat → Prop} {E : Heap} {tM tC : Nat} {kK kV : Nat → Nat} {ad0 : Nat → Nat} {NN0 : Nat} {post : St → Prop} {rec90 : Nat → Int32 → Nat → Int32 → Nat → Nat → St → Prop} (hx : p.tables.exec = Jvm.exec) (hb : c.code = b_Wrt_putTexts) (hml : c.maxLocals = 6) (hown : s.vm.findClass R_Wrt = some m.cls) (hT : ∀ w ∈ TG, w.before args s = true) (hK : va_K (dC, dI) CL (TY cI cB cJ cZ) s) (hN : NW s) (hA : ∀ q : Nat, s.heap.size ≤ q → A q) (hRf : 6 ≤ R.frames) (hRl : 300 ≤ R.locals) (hE : CE E tM tC kK kV A s) (hret : ∀ (ad : Nat → Nat) (NN cells slots : Nat) (x : St) (H : Heap) (locs : List Loc) (pc : Nat) (ls : Array Slot), decode b_Wrt_putTexts pc = .ok (.return_, 1) → (NN0 ≤ NN ∧ ∀ o : Nat, o < NN0 → ad o = ad0 o) → cells ≤ R.cells → slots ≤ R.slots → post x → Wd dC dI cI cB cJ cZ ad stC kcC NN A x H → va_S A s.heap H locs → W p l e R s m args below meth c H locs cells slots Q (F0 m pc ls [])) (hrec90 : ∀ (ad : Nat → Nat) (NN cells slots : Nat) (o : Nat) (l1 : Int32) (l2 : Nat) (l3 : Int32) (kb : Nat) (nb : Nat) (x : St) (H : Heap) (locs : List Loc) (ls : Array Slot), (152 ≤ NN) → (NN0 ≤ NN ∧ ∀ o : Nat, o < NN0 → ad o = ad0 o) → (cells + kb ≤ R.cells) → (slots + nb ≤ R.slots) → (o < NN ∧ kcC o = 5) → (l2 < NN ∧ kcC l2 = 21) → rec90 o l1 l2 l3 kb nb x → Wd dC dI cI cB cJ cZ ad stC kcC NN A x H → va_S A s.heap H locs → lv_has ls 6 [(0, .ref (ad o)), (1, .int l1), (2, .ref (ad l2)), (3, .int l3)] → W p l e R s m args below meth c H locs cells slots Q (F0 m 90 ls [])) : ∀ (ad : Nat → Nat) (NN cells slots : Nat) (o : Nat) (l1 : Int32) (l2 : Nat) (l3 : Int32) (s0 : Int64) (s1 : Int64) (s2 : Int32) (s3 : Nat) (kb : Nat) (nb : Nat) (x : St) (H : Heap) (locs : List Loc) (ls : Array Slot), (152 ≤ NN) → (NN0 ≤ NN ∧ ∀ o : Nat, o < NN0 → ad o = ad0 o) → (cells + kb ≤ R.cells) → (slots + nb ≤ R.slots) → (o < NN ∧ kcC o = 5) → (l2 < NN ∧ kcC l2 = 21) → (s3 < NN ∧ kcC s3 = 22) → j_Wrt_putTexts_127 post rec90 o l1 l2 l3 s0 s1 s2 s3 kb nb x → Wd dC dI cI cB cJ cZ ad stC kcC NN A x H → va_S A s.heap H locs → lv_has ls 6 [(0, .ref (ad o)), (1, .int l1), (2, .ref (ad l2)), (3, .int l3)] → W p l e R s m args below meth c H locs cells slots Q (F0 m 127 ls [.long s0, .long s1, .int s2, .ref (ad s3)]) := by
  intro ad NN cells slots o l1 l2 l3 s0 s1 s2 s3 kb nb x H locs ls hNN hag hRc hRs fo fl2 fs3 hw hW hS hl
  unfold j_Wrt_putTexts_127 at hw
  refine lv_lsub hx hb d_Wrt_putTexts_127 ?_
  obtain ⟨hi, hw⟩ := hw
  refine w_last (o := s3) hx hb hK hW hS fs3.1 fs3.2 hi d_Wrt_putTexts_128 (fun H locs hW hS => ?_)
  obtain ⟨x13, ex13⟩ : ∃ y : St, y = setL x s3 s2 (s1 - s0) := ⟨_, rfl⟩
  rw [← ex13] at hW
  have hw := hw x13 ex13
  refine lv_iinc (v := (l3 + 1)) (lv' := [(3, .int (l3 + 1)), (0, .ref (ad o)), (1, .int l1), (2, .ref (ad l2))]) hx hb d_Wrt_putTexts_129 hl (k := 3) rfl rfl (by decide) rfl (fun ls hl => ?_)
  refine lv_goto (tgt := 90) hx hb d_Wrt_putTexts_132 (by decide) ?_
  exact hrec90 ad NN cells slots o l1 l2 (l3 + 1) kb nb x13 H locs ls hNN hag hRc hRs fo fl2 hw hW hS (lv_sub hl [1, 2, 3, 0] rfl)
set_option maxRecDepth 100000 in
def j_Wrt_putTexts_90 (post : St → Prop) (rec90 : Nat → Int32 → Nat → Int32 → Nat → Nat → St → Prop) (o : Nat) (l1 : Int32) (l2 : Nat) (l3 : Int32) (kb : Nat) (nb : Nat) (x : St) : Prop := (((fI x o 12) ≤ l3 → (∃ q15 : Nat, fR x o 4 = some q15 ∧ (∀ v16 : Int32, v16 = (fI x q15 1) → (∃ q17 : Nat, fR x o 4 = some q17 ∧ (∃ k18 n19 k20 n21 : Nat, k18 + k20 = kb ∧ n19 + n21 = nb ∧ wp_Snk_putCode (fun (x22 : St) => (∃ q23 : Nat, fR x22 o 4 = some q23 ∧ (∃ k24 n25 k26 n27 : Nat, k24 + k26 = k20 ∧ n25 + n27 = n21 ∧ wp_Snk_tellSizeFrom (fun (x28 : St) => ∃ n : Nat, wl_Wrt_putTexts_169 post n o l1 l2 v16 0 k26 n27 x28) q23 v16 k24 n25 x22))) q17 (stC o 16) (fI x o 12) k18 n19 x))))) ∧ (¬ (fI x o 12) ≤ l3 → (vp_in l3 (fN x (stC o 10)) ∧ wp_V_sizeOf (fun (r30 : Int32) (x29 : St) => ((l1 = 0 → j_Wrt_putTexts_127 post rec90 o l1 l2 l3 0 (r30 : Int32).toInt64 l3 (stC o 16) kb nb x29) ∧ (¬ l1 = 0 → (vp_in l3 (fN x29 (stC o 16)) ∧ j_Wrt_putTexts_127 post rec90 o l1 l2 l3 (rL x29 (stC o 16) l3) (r30 : Int32).toInt64 l3 (stC o 16) kb nb x29)))) (rL x (stC o 10) l3) x)))
set_option maxHeartbeats 4000000 in
set_option maxRecDepth 100000 in
theorem t_Wrt_putTexts_90 {p : Program} {l : Launch} {e : Env} {R : Room} {s : State} {m : MethodId} {args : Array Value} {below : List Frame} {meth : Method} {c : Code} {Q : State → Prop} {dC : Nat → ClassId} {dI : Nat → Nat → Nat} {cI cB cJ cZ : ClassId} {A : Nat → Prop} {E : Heap} {tM tC : Nat} {kK kV : Nat → Nat} {ad0 : Nat → Nat} {NN0 : Nat} {post : St → Prop} {rec90 : Nat → Int32 → Nat → Int32 → Nat → Nat → St → Prop} (hx : p.tables.exec = Jvm.exec) (hb : c.code = b_Wrt_putTexts) (hml : c.maxLocals = 6) (hown : s.vm.findClass R_Wrt = some m.cls) (hT : ∀ w ∈ TG, w.before args s = true) (hK : va_K (dC, dI) CL (TY cI cB cJ cZ) s) (hN : NW s) (hA : ∀ q : Nat, s.heap.size ≤ q → A q) (hRf : 6 ≤ R.frames) (hRl : 300 ≤ R.locals) (hE : CE E tM tC kK kV A s) (hret : ∀ (ad : Nat → Nat) (NN cells slots : Nat) (x : St) (H : Heap) (locs : List Loc) (pc : Nat) (ls : Array Slot), decode b_Wrt_putTexts pc = .ok (.return_, 1) → (NN0 ≤ NN ∧ ∀ o : Nat, o < NN0 → ad o = ad0 o) → cells ≤ R.cells → slots ≤ R.slots → post x → Wd dC dI cI cB cJ cZ ad stC kcC NN A x H → va_S A s.heap H locs → W p l e R s m args below meth c H locs cells slots Q (F0 m pc ls [])) (hrec90 : ∀ (ad : Nat → Nat) (NN cells slots : Nat) (o : Nat) (l1 : Int32) (l2 : Nat) (l3 : Int32) (kb : Nat) (nb : Nat) (x : St) (H : Heap) (locs : List Loc) (ls : Array Slot), (152 ≤ NN) → (NN0 ≤ NN ∧ ∀ o : Nat, o < NN0 → ad o = ad0 o) → (cells + kb ≤ R.cells) → (slots + nb ≤ R.slots) → (o < NN ∧ kcC o = 5) → (l2 < NN ∧ kcC l2 = 21) → rec90 o l1 l2 l3 kb nb x → Wd dC dI cI cB cJ cZ ad stC kcC NN A x H → va_S A s.heap H locs → lv_has ls 6 [(0, .ref (ad o)), (1, .int l1), (2, .ref (ad l2)), (3, .int l3)] → W p l e R s m args below meth c H locs cells slots Q (F0 m 90 ls [])) : ∀ (ad : Nat → Nat) (NN cells slots : Nat) (o : Nat) (l1 : Int32) (l2 : Nat) (l3 : Int32) (kb : Nat) (nb : Nat) (x : St) (H : Heap) (locs : List Loc) (ls : Array Slot), (152 ≤ NN) → (NN0 ≤ NN ∧ ∀ o : Nat, o < NN0 → ad o = ad0 o) → (cells + kb ≤ R.cells) → (slots + nb ≤ R.slots) → (o < NN ∧ kcC o = 5) → (l2 < NN ∧ kcC l2 = 21) → j_Wrt_putTexts_90 post rec90 o l1 l2 l3 kb nb x → Wd dC dI cI cB cJ cZ ad stC kcC NN A x H → va_S A s.heap H locs → lv_has ls 6 [(0, .ref (ad o)), (1, .int l1), (2, .ref (ad l2)), (3, .int l3)] → W p l e R s m args below meth c H locs cells slots Q (F0 m 90 ls []) := by
  intro ad NN cells slots o l1 l2 l3 kb nb x H locs ls hNN hag hRc hRs fo fl2 hw hW hS hl
  unfold j_Wrt_putTexts_90 at hw
  refine lv_iload_n hx hb d_Wrt_putTexts_90 rfl (lv_at hl 3 rfl) ?_
  refine lv_aload_n hx hb d_Wrt_putTexts_91 rfl (lv_at hl 0 rfl) ?_
  refine w_geti (k := 12) (t := 5) (C := R_Wrt) (T := F_Wrt) (N := 20) hx hb hT hown hK hW fo.1 fo.2 (by decide) in_Wrt rfl rfl (by decide) rfl fr_Wrt_12 w_2_63 d_Wrt_putTexts_92 ?_
  refine lv_icmp_ge (tgt := 135) hx hb d_Wrt_putTexts_95 (by decide) (fun c14 => ?_) (fun c14 => ?_)
  · have hw := hw.1 c14
    refine lv_aload_n hx hb d_Wrt_putTexts_135 rfl (lv_at hl 0 rfl) ?_
    obtain ⟨q15, hq15, hw⟩ := hw
    refine w_getr (q := q15) (k := 4) (t := 5) (C := R_Wrt) (T := F_Wrt) (N := 20) hx hb hT hown hK hW fo.1 fo.2 (by decide) in_Wrt rfl rfl (by decide) rfl fr_Wrt_4 w_2_55 d_Wrt_putTexts_136 hq15 (fun aq15 bq15 => ?_)
    have fq15 : q15 < NN ∧ kcC q15 = 1 := ⟨aq15, bq15⟩
    refine w_geti (k := 1) (t := 1) (C := R_Snk) (T := F_Snk) (N := 7) hx hb hT hown hK hW fq15.1 fq15.2 (by decide) in_Snk rfl rfl (by decide) rfl fr_Snk_1 w_1_46 d_Wrt_putTexts_139 ?_
    refine lv_topi (fun v16 ev16 => ?_)
    have hw := hw v16 ev16
    refine lv_istore_n (lv' := [(3, .int v16), (0, .ref (ad o)), (1, .int l1), (2, .ref (ad l2))]) hx hb d_Wrt_putTexts_142 rfl hl (by decide) rfl (fun ls hl => ?_)
    refine lv_aload_n hx hb d_Wrt_putTexts_143 rfl (lv_at hl 1 rfl) ?_
    obtain ⟨q17, hq17, hw⟩ := hw
    refine w_getr (q := q17) (k := 4) (t := 5) (C := R_Wrt) (T := F_Wrt) (N := 20) hx hb hT hown hK hW fo.1 fo.2 (by decide) in_Wrt rfl rfl (by decide) rfl fr_Wrt_4 w_2_55 d_Wrt_putTexts_144 hq17 (fun aq17 bq17 => ?_)
    have fq17 : q17 < NN ∧ kcC q17 = 1 := ⟨aq17, bq17⟩
    refine lv_aload_n hx hb d_Wrt_putTexts_147 rfl (lv_at hl 1 rfl) ?_
    refine w_getf (q := (stC o 16)) (k := 16) (t := 5) (C := R_Wrt) (T := F_Wrt) (N := 20) hx hb hT hown hK hW fo.1 fo.2 (by decide) in_Wrt rfl rfl (by decide) rfl fr_Wrt_16 w_2_67 d_Wrt_putTexts_148 rfl ?_
    refine lv_aload_n hx hb d_Wrt_putTexts_151 rfl (lv_at hl 1 rfl) ?_
    refine w_geti (k := 12) (t := 5) (C := R_Wrt) (T := F_Wrt) (N := 20) hx hb hT hown hK hW fo.1 fo.2 (by decide) in_Wrt rfl rfl (by decide) rfl fr_Wrt_12 w_2_63 d_Wrt_putTexts_152 ?_
    obtain ⟨k18, n19, k20, n21, ek18, en19, hw⟩ := hw
    have hF := hW.free hS hA
    refine va_callv (va_runV (C := R_Snk) (As := [.ref (ad (stC o 16)), .int (fI x o 12)]) (rest := []) ⟨hx, hb, hml, hown, hT⟩ (k_Snk_putCode l dC dI cI cB cJ cZ ad NN E tM tC kK kV hNN H.size q17 (stC o 16) (fI x o 12) k18 n19 x fq17 (st_ty hNN fo.1 fo.2 rfl) hw) ⟨callB_of 2 hT (gw_in w_6_5) rfl rfl rfl (hT _ w_1_2) (hT _ w_6_2) (by decide +kernel) ⟨Nat.le_trans (by decide) hRf, Nat.le_trans (by decide) hRl⟩, hT _ w_6_3, hT _ w_6_4⟩ ⟨PV.blind, va_recv hK hW.1 (ci := 1) (q0 := q17) rfl (pic_obj fq17.1 fq17.2 (by decide)), PV.at _ hW hK hN hE hS hF⟩ rfl rfl hl.1 rfl (lv_room (Nat.le_of_ble_eq_true rfl)) d_Wrt_putTexts_155 ⟨show cells + k18 ≤ R.cells by omega, show slots + n19 ≤ R.slots by omega⟩) hS (fun q _ h => hF q h) hF (fun  x22 t H locs ht hvm hw hB hz1 hk1 hS => ?_)
    obtain ⟨x22, ad, NN⟩ := x22
    obtain ⟨hB, hle, hg⟩ := hB
    try dsimp only at hw hB hle hg
    have hW := Wd.back hB ht hF
    rw [← hg o fo.1] at hl
    rw [← hg l2 fl2.1] at hl
    have fl2 : l2 < NN ∧ kcC l2 = 21 := ⟨Nat.lt_of_lt_of_le fl2.1 hle, fl2.2⟩
    have fo : o < NN ∧ kcC o = 5 := ⟨Nat.lt_of_lt_of_le fo.1 hle, fo.2⟩
    have fq15 : q15 < NN ∧ kcC q15 = 1 := ⟨Nat.lt_of_lt_of_le fq15.1 hle, fq15.2⟩
    have fq17 : q17 < NN ∧ kcC q17 = 1 := ⟨Nat.lt_of_lt_of_le fq17.1 hle, fq17.2⟩
    have hag : NN0 ≤ NN ∧ ∀ o : Nat, o < NN0 → ad o = ad0 o := ⟨Nat.le_trans hag.1 hle, fun o h => (hg o (Nat.lt_of_lt_of_le h hag.1)).trans (hag.2 o h)⟩
    have hNN : 152 ≤ NN := Nat.le_trans hNN hle
    clear hg hle
    obtain ⟨cells, ec⟩ : ∃ z, z = cells + k18 := ⟨_, rfl⟩
    obtain ⟨slots, es⟩ : ∃ z, z = slots + n19 := ⟨_, rfl⟩
    rw [← ec, ← es]
    have hRc : cells + k20 ≤ R.cells := by omega
    have hRs : slots + n21 ≤ R.slots := by omega
    clear ec es hB ht hF hz1 hk1 hvm ek18 en19
    refine lv_aload_n hx hb d_Wrt_putTexts_158 rfl (lv_at hl 1 rfl) ?_
    obtain ⟨q23, hq23, hw⟩ := hw
    refine w_getr (q := q23) (k := 4) (t := 5) (C := R_Wrt) (T := F_Wrt) (N := 20) hx hb hT hown hK hW fo.1 fo.2 (by decide) in_Wrt rfl rfl (by decide) rfl fr_Wrt_4 w_2_55 d_Wrt_putTexts_159 hq23 (fun aq23 bq23 => ?_)
    have fq23 : q23 < NN ∧ kcC q23 = 1 := ⟨aq23, bq23⟩
    refine lv_iload_n hx hb d_Wrt_putTexts_162 rfl (lv_at hl 0 rfl) ?_
    obtain ⟨k24, n25, k26, n27, ek24, en25, hw⟩ := hw
    have hF := hW.free hS hA
    refine va_callv (va_runV (C := R_Snk) (As := [.int v16]) (rest := []) ⟨hx, hb, hml, hown, hT⟩ (k_Snk_tellSizeFrom l dC dI cI cB cJ cZ ad NN E tM tC kK kV hNN H.size q23 v16 k24 n25 x22 fq23 hw) ⟨callB_of 1 hT (gw_in w_6_18) rfl rfl rfl (hT _ w_1_2) (hT _ w_6_15) (by decide +kernel) ⟨Nat.le_trans (by decide) hRf, Nat.le_trans (by decide) hRl⟩, hT _ w_6_16, hT _ w_6_17⟩ ⟨PV.blind, va_recv hK hW.1 (ci := 1) (q0 := q23) rfl (pic_obj fq23.1 fq23.2 (by decide)), PV.at _ hW hK hN hE hS hF⟩ rfl rfl hl.1 rfl (lv_room (Nat.le_of_ble_eq_true rfl)) d_Wrt_putTexts_163 ⟨show cells + k24 ≤ R.cells by omega, show slots + n25 ≤ R.slots by omega⟩) hS (fun q _ h => hF q h) hF (fun  x28 t H locs ht hvm hw hB hz1 hk1 hS => ?_)
    obtain ⟨x28, ad, NN⟩ := x28
    obtain ⟨hB, hle, hg⟩ := hB
    try dsimp only at hw hB hle hg
    have hW := Wd.back hB ht hF
    rw [← hg o fo.1] at hl
    rw [← hg l2 fl2.1] at hl
    have fl2 : l2 < NN ∧ kcC l2 = 21 := ⟨Nat.lt_of_lt_of_le fl2.1 hle, fl2.2⟩
    have fo : o < NN ∧ kcC o = 5 := ⟨Nat.lt_of_lt_of_le fo.1 hle, fo.2⟩
    have fq15 : q15 < NN ∧ kcC q15 = 1 := ⟨Nat.lt_of_lt_of_le fq15.1 hle, fq15.2⟩
    have fq17 : q17 < NN ∧ kcC q17 = 1 := ⟨Nat.lt_of_lt_of_le fq17.1 hle, fq17.2⟩
    have fq23 : q23 < NN ∧ kcC q23 = 1 := ⟨Nat.lt_of_lt_of_le fq23.1 hle, fq23.2⟩
    have hag : NN0 ≤ NN ∧ ∀ o : Nat, o < NN0 → ad o = ad0 o := ⟨Nat.le_trans hag.1 hle, fun o h => (hg o (Nat.lt_of_lt_of_le h hag.1)).trans (hag.2 o h)⟩
    have hNN : 152 ≤ NN := Nat.le_trans hNN hle
    clear hg hle
    obtain ⟨cells, ec⟩ : ∃ z, z = cells + k24 := ⟨_, rfl⟩
    obtain ⟨slots, es⟩ : ∃ z, z = slots + n25 := ⟨_, rfl⟩
    rw [← ec, ← es]
    have hRc : cells + k26 ≤ R.cells := by omega
    have hRs : slots + n27 ≤ R.slots := by omega
    clear ec es hB ht hF hz1 hk1 hvm ek24 en25
    refine lv_iconst (v := 0) hx hb d_Wrt_putTexts_166 (by decide) ?_
    refine lv_istore (lv' := [(4, .int 0), (3, .int v16), (0, .ref (ad o)), (1, .int l1), (2, .ref (ad l2))]) hx hb d_Wrt_putTexts_167 hl (by decide) rfl (fun ls hl => ?_)
    obtain ⟨n, hw⟩ := hw
    exact tl_Wrt_putTexts_169 hx hb hml hown hT hK hN hA hRf hRl hE hret  n ad NN cells slots o l1 l2 v16 0 k26 n27 x28 H locs ls hNN hag hRc hRs fo fl2 hw hW hS (lv_sub hl [2, 3, 4, 1, 0] rfl)
  · have hw := hw.2 c14
    refine lv_aload_n hx hb d_Wrt_putTexts_98 rfl (lv_at hl 0 rfl) ?_
    refine w_getf (q := (stC o 16)) (k := 16) (t := 5) (C := R_Wrt) (T := F_Wrt) (N := 20) hx hb hT hown hK hW fo.1 fo.2 (by decide) in_Wrt rfl rfl (by decide) rfl fr_Wrt_16 w_2_67 d_Wrt_putTexts_99 rfl ?_
    refine lv_iload_n hx hb d_Wrt_putTexts_102 rfl (lv_at hl 3 rfl) ?_
    refine lv_aload_n hx hb d_Wrt_putTexts_103 rfl (lv_at hl 0 rfl) ?_
    refine w_getf (q := (stC o 10)) (k := 10) (t := 5) (C := R_Wrt) (T := F_Wrt) (N := 20) hx hb hT hown hK hW fo.1 fo.2 (by decide) in_Wrt rfl rfl (by decide) rfl fr_Wrt_10 w_2_61 d_Wrt_putTexts_104 rfl ?_
    refine lv_iload_n hx hb d_Wrt_putTexts_107 rfl (lv_at hl 3 rfl) ?_
    obtain ⟨hi, hw⟩ := hw
    refine w_lald (o := (stC o 10)) hx hb hK hW (st_ty hNN fo.1 fo.2 rfl).1 (st_ty hNN fo.1 fo.2 rfl).2 hi d_Wrt_putTexts_108 ?_
    have hF := hW.free hS hA
    refine va_calli (va_runSN (As := [.long (rL x (stC o 10) l3)]) (rest := [.int l3, .ref (ad (stC o 16))]) ⟨hx, hb, hml, hown, hT⟩ (k_V_sizeOf l dC dI cI cB cJ cZ ad NN E tM tC kK kV hNN H.size (rL x (stC o 10) l3) x  hw) ⟨va_cnB 1 hT (gw_in w_5_161) rfl rfl rfl (hN _ wn_5_159 rfl) (hT _ w_1_1) (by decide +kernel) ⟨Nat.le_trans (by decide) hRf, Nat.le_trans (by decide) hRl⟩, hT _ w_5_160, trivial⟩ ⟨PV.blind, PV.at _ hW hK hN hE hS hF⟩ rfl rfl hl.1 rfl (lv_room (Nat.le_of_ble_eq_true rfl)) d_Wrt_putTexts_109 ⟨(Nat.le_trans (Nat.le_add_right _ _) hRc), (Nat.le_trans (Nat.le_add_right _ _) hRs)⟩) hS (fun q _ h => hF q h) hF (fun r30 x29 t H locs ht hvm hw hB hz1 hk1 hS => ?_)
    have hW := Wd.back hB ht hF
    clear hB ht hF hz1 hk1 hvm
    refine lv_i2l hx hb d_Wrt_putTexts_112 rfl ?_
    refine lv_iload_n hx hb d_Wrt_putTexts_113 rfl (lv_at hl 1 rfl) ?_
    refine lv_if_eq (tgt := 126) hx hb d_Wrt_putTexts_114 (by decide) (fun c31 => ?_) (fun c31 => ?_)
    · have hw := hw.1 c31
      refine lv_lconst (v := 0) hx hb d_Wrt_putTexts_126 (by decide) ?_
      exact t_Wrt_putTexts_127 hx hb hml hown hT hK hN hA hRf hRl hE hret hrec90 ad NN cells slots o l1 l2 l3 0 (r30 : Int32).toInt64 l3 (stC o 16) kb nb x29 H locs ls hNN hag hRc hRs fo fl2 (st_ty hNN fo.1 fo.2 rfl) hw hW hS (lv_sub hl [0, 1, 2, 3] rfl)
    · have hw := hw.2 c31
      refine lv_aload_n hx hb d_Wrt_putTexts_117 rfl (lv_at hl 0 rfl) ?_
      refine w_getf (q := (stC o 16)) (k := 16) (t := 5) (C := R_Wrt) (T := F_Wrt) (N := 20) hx hb hT hown hK hW fo.1 fo.2 (by decide) in_Wrt rfl rfl (by decide) rfl fr_Wrt_16 w_2_67 d_Wrt_putTexts_118 rfl ?_
      refine lv_iload_n hx hb d_Wrt_putTexts_121 rfl (lv_at hl 3 rfl) ?_
      obtain ⟨hi, hw⟩ := hw
      refine w_lald (o := (stC o 16)) hx hb hK hW (st_ty hNN fo.1 fo.2 rfl).1 (st_ty hNN fo.1 fo.2 rfl).2 hi d_Wrt_putTexts_122 ?_
      refine lv_goto (tgt := 127) hx hb d_Wrt_putTexts_123 (by decide) ?_
      exact t_Wrt_putTexts_127 hx hb hml hown hT hK hN hA hRf hRl hE hret hrec90 ad NN cells slots o l1 l2 l3 (rL x29 (stC o 16) l3) (r30 : Int32).toInt64 l3 (stC o 16) kb nb x29 H locs ls hNN hag hRc hRs fo fl2 (st_ty hNN fo.1 fo.2 rfl) hw hW hS (lv_sub hl [0, 1, 2, 3] rfl)
def wl_Wrt_putTexts_90 (post : St → Prop) : Nat → Nat → Int32 → Nat → Int32 → Nat → Nat → St → Prop
  | 0 => fun _ _ _ _ _ _ _ => False
  | n + 1 => j_Wrt_putTexts_90 post (wl_Wrt_putTexts_90 post n)
set_option maxHeartbeats 4000000 in
set_option maxRecDepth 100000 in
theorem tl_Wrt_putTexts_90 {p : Program} {l : Launch} {e : Env} {R : Room} {s : State} {m : MethodId} {args : Array Value} {below : List Frame} {meth : Method} {c : Code} {Q : State → Prop} {dC : Nat → ClassId} {dI : Nat → Nat → Nat} {cI cB cJ cZ : ClassId} {A : Nat → Prop} {E : Heap} {tM tC : Nat} {kK kV : Nat → Nat} {ad0 : Nat → Nat} {NN0 : Nat} {post : St → Prop} (hx : p.tables.exec = Jvm.exec) (hb : c.code = b_Wrt_putTexts) (hml : c.maxLocals = 6) (hown : s.vm.findClass R_Wrt = some m.cls) (hT : ∀ w ∈ TG, w.before args s = true) (hK : va_K (dC, dI) CL (TY cI cB cJ cZ) s) (hN : NW s) (hA : ∀ q : Nat, s.heap.size ≤ q → A q) (hRf : 6 ≤ R.frames) (hRl : 300 ≤ R.locals) (hE : CE E tM tC kK kV A s) (hret : ∀ (ad : Nat → Nat) (NN cells slots : Nat) (x : St) (H : Heap) (locs : List Loc) (pc : Nat) (ls : Array Slot), decode b_Wrt_putTexts pc = .ok (.return_, 1) → (NN0 ≤ NN ∧ ∀ o : Nat, o < NN0 → ad o = ad0 o) → cells ≤ R.cells → slots ≤ R.slots → post x → Wd dC dI cI cB cJ cZ ad stC kcC NN A x H → va_S A s.heap H locs → W p l e R s m args below meth c H locs cells slots Q (F0 m pc ls []))  : ∀ n : Nat, ∀ (ad : Nat → Nat) (NN cells slots : Nat) (o : Nat) (l1 : Int32) (l2 : Nat) (l3 : Int32) (kb : Nat) (nb : Nat) (x : St) (H : Heap) (locs : List Loc) (ls : Array Slot), (152 ≤ NN) → (NN0 ≤ NN ∧ ∀ o : Nat, o < NN0 → ad o = ad0 o) → (cells + kb ≤ R.cells) → (slots + nb ≤ R.slots) → (o < NN ∧ kcC o = 5) → (l2 < NN ∧ kcC l2 = 21) → wl_Wrt_putTexts_90 post n o l1 l2 l3 kb nb x → Wd dC dI cI cB cJ cZ ad stC kcC NN A x H → va_S A s.heap H locs → lv_has ls 6 [(0, .ref (ad o)), (1, .int l1), (2, .ref (ad l2)), (3, .int l3)] → W p l e R s m args below meth c H locs cells slots Q (F0 m 90 ls []) := by
  intro n
  induction n with
  | zero => intro ad NN cells slots o l1 l2 l3 kb nb x H locs ls hNN hag hRc hRs fo fl2 hw; exact hw.elim
  | succ n ih => intro ad NN cells slots o l1 l2 l3 kb nb x H locs ls hNN hag hRc hRs fo fl2 hw hW hS hl; exact t_Wrt_putTexts_90 hx hb hml hown hT hK hN hA hRf hRl hE hret  ih ad NN cells slots o l1 l2 l3 kb nb x H locs ls hNN hag hRc hRs fo fl2 hw hW hS hl
set_option maxRecDepth 100000 in
def j_Wrt_putTexts_88 (post : St → Prop) (o : Nat) (l1 : Int32) (l2 : Nat) (l3 : Int32) (kb : Nat) (nb : Nat) (x : St) : Prop := ∃ n : Nat, wl_Wrt_putTexts_90 post n o l1 l2 0 kb nb x
set_option maxHeartbeats 4000000 in
set_option maxRecDepth 100000 in
theorem t_Wrt_putTexts_88 {p : Program} {l : Launch} {e : Env} {R : Room} {s : State} {m : MethodId} {args : Array Value} {below : List Frame} {meth : Method} {c : Code} {Q : State → Prop} {dC : Nat → ClassId} {dI : Nat → Nat → Nat} {cI cB cJ cZ : ClassId} {A : Nat → Prop} {E : Heap} {tM tC : Nat} {kK kV : Nat → Nat} {ad0 : Nat → Nat} {NN0 : Nat} {post : St → Prop} (hx : p.tables.exec = Jvm.exec) (hb : c.code = b_Wrt_putTexts) (hml : c.maxLocals = 6) (hown : s.vm.findClass R_Wrt = some m.cls) (hT : ∀ w ∈ TG, w.before args s = true) (hK : va_K (dC, dI) CL (TY cI cB cJ cZ) s) (hN : NW s) (hA : ∀ q : Nat, s.heap.size ≤ q → A q) (hRf : 6 ≤ R.frames) (hRl : 300 ≤ R.locals) (hE : CE E tM tC kK kV A s) (hret : ∀ (ad : Nat → Nat) (NN cells slots : Nat) (x : St) (H : Heap) (locs : List Loc) (pc : Nat) (ls : Array Slot), decode b_Wrt_putTexts pc = .ok (.return_, 1) → (NN0 ≤ NN ∧ ∀ o : Nat, o < NN0 → ad o = ad0 o) → cells ≤ R.cells → slots ≤ R.slots → post x → Wd dC dI cI cB cJ cZ ad stC kcC NN A x H → va_S A s.heap H locs → W p l e R s m args below meth c H locs cells slots Q (F0 m pc ls []))  : ∀ (ad : Nat → Nat) (NN cells slots : Nat) (o : Nat) (l1 : Int32) (l2 : Nat) (l3 : Int32) (kb : Nat) (nb : Nat) (x : St) (H : Heap) (locs : List Loc) (ls : Array Slot), (152 ≤ NN) → (NN0 ≤ NN ∧ ∀ o : Nat, o < NN0 → ad o = ad0 o) → (cells + kb ≤ R.cells) → (slots + nb ≤ R.slots) → (o < NN ∧ kcC o = 5) → (l2 < NN ∧ kcC l2 = 21) → j_Wrt_putTexts_88 post o l1 l2 l3 kb nb x → Wd dC dI cI cB cJ cZ ad stC kcC NN A x H → va_S A s.heap H locs → lv_has ls 6 [(0, .ref (ad o)), (1, .int l1), (2, .ref (ad l2)), (3, .int l3)] → W p l e R s m args below meth c H locs cells slots Q (F0 m 88 ls []) := by
  intro ad NN cells slots o l1 l2 l3 kb nb x H locs ls hNN hag hRc hRs fo fl2 hw hW hS hl
  unfold j_Wrt_putTexts_88 at hw
  refine lv_iconst (v := 0) hx hb d_Wrt_putTexts_88 (by decide) ?_
  refine lv_istore_n (lv' := [(3, .int 0), (0, .ref (ad o)), (1, .int l1), (2, .ref (ad l2))]) hx hb d_Wrt_putTexts_89 rfl hl (by decide) rfl (fun ls hl => ?_)
  obtain ⟨n, hw⟩ := hw
  exact tl_Wrt_putTexts_90 hx hb hml hown hT hK hN hA hRf hRl hE hret  n ad NN cells slots o l1 l2 0 kb nb x H locs ls hNN hag hRc hRs fo fl2 hw hW hS (lv_sub hl [1, 2, 3, 0] rfl)
set_option maxRecDepth 100000 in
def j_Wrt_putTexts_61 (post : St → Prop) (o : Nat) (l1 : Int32) (l2 : Nat) (l3 : Int32) (kb : Nat) (nb : Nat) (x : St) : Prop := ((l1 = 0 → j_Wrt_putTexts_88 post o l1 l2 l3 kb nb x) ∧ (¬ l1 = 0 → (∃ q33 : Nat, fR x o 4 = some q33 ∧ (∃ k34 n35 k36 n37 : Nat, k34 + k36 = kb ∧ n35 + n37 = nb ∧ wp_Snk_putCode (fun (x38 : St) => (∃ q39 : Nat, fR x38 o 4 = some q39 ∧ (∃ k40 n41 k42 n43 : Nat, k40 + k42 = k36 ∧ n41 + n43 = n37 ∧ wp_Snk_tellSizeFrom (fun (x44 : St) => j_Wrt_putTexts_88 post o l1 l2 l3 k42 n43 x44) q39 0 k40 n41 x38))) q33 (stC o 16) (fI x o 12) k34 n35 x))))
set_option maxHeartbeats 4000000 in
set_option maxRecDepth 100000 in
theorem t_Wrt_putTexts_61 {p : Program} {l : Launch} {e : Env} {R : Room} {s : State} {m : MethodId} {args : Array Value} {below : List Frame} {meth : Method} {c : Code} {Q : State → Prop} {dC : Nat → ClassId} {dI : Nat → Nat → Nat} {cI cB cJ cZ : ClassId} {A : Nat → Prop} {E : Heap} {tM tC : Nat} {kK kV : Nat → Nat} {ad0 : Nat → Nat} {NN0 : Nat} {post : St → Prop} (hx : p.tables.exec = Jvm.exec) (hb : c.code = b_Wrt_putTexts) (hml : c.maxLocals = 6) (hown : s.vm.findClass R_Wrt = some m.cls) (hT : ∀ w ∈ TG, w.before args s = true) (hK : va_K (dC, dI) CL (TY cI cB cJ cZ) s) (hN : NW s) (hA : ∀ q : Nat, s.heap.size ≤ q → A q) (hRf : 6 ≤ R.frames) (hRl : 300 ≤ R.locals) (hE : CE E tM tC kK kV A s) (hret : ∀ (ad : Nat → Nat) (NN cells slots : Nat) (x : St) (H : Heap) (locs : List Loc) (pc : Nat) (ls : Array Slot), decode b_Wrt_putTexts pc = .ok (.return_, 1) → (NN0 ≤ NN ∧ ∀ o : Nat, o < NN0 → ad o = ad0 o) → cells ≤ R.cells → slots ≤ R.slots → post x → Wd dC dI cI cB cJ cZ ad stC kcC NN A x H → va_S A s.heap H locs → W p l e R s m args below meth c H locs cells slots Q (F0 m pc ls []))  : ∀ (ad : Nat → Nat) (NN cells slots : Nat) (o : Nat) (l1 : Int32) (l2 : Nat) (l3 : Int32) (kb : Nat) (nb : Nat) (x : St) (H : Heap) (locs : List Loc) (ls : Array Slot), (152 ≤ NN) → (NN0 ≤ NN ∧ ∀ o : Nat, o < NN0 → ad o = ad0 o) → (cells + kb ≤ R.cells) → (slots + nb ≤ R.slots) → (o < NN ∧ kcC o = 5) → (l2 < NN ∧ kcC l2 = 21) → j_Wrt_putTexts_61 post o l1 l2 l3 kb nb x → Wd dC dI cI cB cJ cZ ad stC kcC NN A x H → va_S A s.heap H locs → lv_has ls 6 [(0, .ref (ad o)), (1, .int l1), (2, .ref (ad l2)), (3, .int l3)] → W p l e R s m args below meth c H locs cells slots Q (F0 m 61 ls []) := by
  intro ad NN cells slots o l1 l2 l3 kb nb x H locs ls hNN hag hRc hRs fo fl2 hw hW hS hl
  unfold j_Wrt_putTexts_61 at hw
  refine lv_iload_n hx hb d_Wrt_putTexts_61 rfl (lv_at hl 1 rfl) ?_
  refine lv_if_eq (tgt := 88) hx hb d_Wrt_putTexts_62 (by decide) (fun c32 => ?_) (fun c32 => ?_)
  · have hw := hw.1 c32
    exact t_Wrt_putTexts_88 hx hb hml hown hT hK hN hA hRf hRl hE hret  ad NN cells slots o l1 l2 l3 kb nb x H locs ls hNN hag hRc hRs fo fl2 hw hW hS (lv_sub hl [0, 1, 2, 3] rfl)
  · have hw := hw.2 c32
    refine lv_aload_n hx hb d_Wrt_putTexts_65 rfl (lv_at hl 0 rfl) ?_
    obtain ⟨q33, hq33, hw⟩ := hw
    refine w_getr (q := q33) (k := 4) (t := 5) (C := R_Wrt) (T := F_Wrt) (N := 20) hx hb hT hown hK hW fo.1 fo.2 (by decide) in_Wrt rfl rfl (by decide) rfl fr_Wrt_4 w_2_55 d_Wrt_putTexts_66 hq33 (fun aq33 bq33 => ?_)
    have fq33 : q33 < NN ∧ kcC q33 = 1 := ⟨aq33, bq33⟩
    refine lv_aload_n hx hb d_Wrt_putTexts_69 rfl (lv_at hl 0 rfl) ?_
    refine w_getf (q := (stC o 16)) (k := 16) (t := 5) (C := R_Wrt) (T := F_Wrt) (N := 20) hx hb hT hown hK hW fo.1 fo.2 (by decide) in_Wrt rfl rfl (by decide) rfl fr_Wrt_16 w_2_67 d_Wrt_putTexts_70 rfl ?_
    refine lv_aload_n hx hb d_Wrt_putTexts_73 rfl (lv_at hl 0 rfl) ?_
    refine w_geti (k := 12) (t := 5) (C := R_Wrt) (T := F_Wrt) (N := 20) hx hb hT hown hK hW fo.1 fo.2 (by decide) in_Wrt rfl rfl (by decide) rfl fr_Wrt_12 w_2_63 d_Wrt_putTexts_74 ?_
    obtain ⟨k34, n35, k36, n37, ek34, en35, hw⟩ := hw
    have hF := hW.free hS hA
    refine va_callv (va_runV (C := R_Snk) (As := [.ref (ad (stC o 16)), .int (fI x o 12)]) (rest := []) ⟨hx, hb, hml, hown, hT⟩ (k_Snk_putCode l dC dI cI cB cJ cZ ad NN E tM tC kK kV hNN H.size q33 (stC o 16) (fI x o 12) k34 n35 x fq33 (st_ty hNN fo.1 fo.2 rfl) hw) ⟨callB_of 2 hT (gw_in w_6_5) rfl rfl rfl (hT _ w_1_2) (hT _ w_6_2) (by decide +kernel) ⟨Nat.le_trans (by decide) hRf, Nat.le_trans (by decide) hRl⟩, hT _ w_6_3, hT _ w_6_4⟩ ⟨PV.blind, va_recv hK hW.1 (ci := 1) (q0 := q33) rfl (pic_obj fq33.1 fq33.2 (by decide)), PV.at _ hW hK hN hE hS hF⟩ rfl rfl hl.1 rfl (lv_room (Nat.le_of_ble_eq_true rfl)) d_Wrt_putTexts_77 ⟨show cells + k34 ≤ R.cells by omega, show slots + n35 ≤ R.slots by omega⟩) hS (fun q _ h => hF q h) hF (fun  x38 t H locs ht hvm hw hB hz1 hk1 hS => ?_)
    obtain ⟨x38, ad, NN⟩ := x38
    obtain ⟨hB, hle, hg⟩ := hB
    try dsimp only at hw hB hle hg
    have hW := Wd.back hB ht hF
    rw [← hg o fo.1] at hl
    rw [← hg l2 fl2.1] at hl
    have fl2 : l2 < NN ∧ kcC l2 = 21 := ⟨Nat.lt_of_lt_of_le fl2.1 hle, fl2.2⟩
    have fo : o < NN ∧ kcC o = 5 := ⟨Nat.lt_of_lt_of_le fo.1 hle, fo.2⟩
    have fq33 : q33 < NN ∧ kcC q33 = 1 := ⟨Nat.lt_of_lt_of_le fq33.1 hle, fq33.2⟩
    have hag : NN0 ≤ NN ∧ ∀ o : Nat, o < NN0 → ad o = ad0 o := ⟨Nat.le_trans hag.1 hle, fun o h => (hg o (Nat.lt_of_lt_of_le h hag.1)).trans (hag.2 o h)⟩
    have hNN : 152 ≤ NN := Nat.le_trans hNN hle
    clear hg hle
    obtain ⟨cells, ec⟩ : ∃ z, z = cells + k34 := ⟨_, rfl⟩
    obtain ⟨slots, es⟩ : ∃ z, z = slots + n35 := ⟨_, rfl⟩
    rw [← ec, ← es]
    have hRc : cells + k36 ≤ R.cells := by omega
    have hRs : slots + n37 ≤ R.slots := by omega
    clear ec es hB ht hF hz1 hk1 hvm ek34 en35
    refine lv_aload_n hx hb d_Wrt_putTexts_80 rfl (lv_at hl 0 rfl) ?_
    obtain ⟨q39, hq39, hw⟩ := hw
    refine w_getr (q := q39) (k := 4) (t := 5) (C := R_Wrt) (T := F_Wrt) (N := 20) hx hb hT hown hK hW fo.1 fo.2 (by decide) in_Wrt rfl rfl (by decide) rfl fr_Wrt_4 w_2_55 d_Wrt_putTexts_81 hq39 (fun aq39 bq39 => ?_)
    have fq39 : q39 < NN ∧ kcC q39 = 1 := ⟨aq39, bq39⟩
    refine lv_iconst (v := 0) hx hb d_Wrt_putTexts_84 (by decide) ?_
    obtain ⟨k40, n41, k42, n43, ek40, en41, hw⟩ := hw
    have hF := hW.free hS hA
    refine va_callv (va_runV (C := R_Snk) (As := [.int 0]) (rest := []) ⟨hx, hb, hml, hown, hT⟩ (k_Snk_tellSizeFrom l dC dI cI cB cJ cZ ad NN E tM tC kK kV hNN H.size q39 0 k40 n41 x38 fq39 hw) ⟨callB_of 1 hT (gw_in w_6_18) rfl rfl rfl (hT _ w_1_2) (hT _ w_6_15) (by decide +kernel) ⟨Nat.le_trans (by decide) hRf, Nat.le_trans (by decide) hRl⟩, hT _ w_6_16, hT _ w_6_17⟩ ⟨PV.blind, va_recv hK hW.1 (ci := 1) (q0 := q39) rfl (pic_obj fq39.1 fq39.2 (by decide)), PV.at _ hW hK hN hE hS hF⟩ rfl rfl hl.1 rfl (lv_room (Nat.le_of_ble_eq_true rfl)) d_Wrt_putTexts_85 ⟨show cells + k40 ≤ R.cells by omega, show slots + n41 ≤ R.slots by omega⟩) hS (fun q _ h => hF q h) hF (fun  x44 t H locs ht hvm hw hB hz1 hk1 hS => ?_)
    obtain ⟨x44, ad, NN⟩ := x44
    obtain ⟨hB, hle, hg⟩ := hB
    try dsimp only at hw hB hle hg
    have hW := Wd.back hB ht hF
    rw [← hg o fo.1] at hl
    rw [← hg l2 fl2.1] at hl
    have fl2 : l2 < NN ∧ kcC l2 = 21 := ⟨Nat.lt_of_lt_of_le fl2.1 hle, fl2.2⟩
    have fo : o < NN ∧ kcC o = 5 := ⟨Nat.lt_of_lt_of_le fo.1 hle, fo.2⟩
    have fq33 : q33 < NN ∧ kcC q33 = 1 := ⟨Nat.lt_of_lt_of_le fq33.1 hle, fq33.2⟩
    have fq39 : q39 < NN ∧ kcC q39 = 1 := ⟨Nat.lt_of_lt_of_le fq39.1 hle, fq39.2⟩
    have hag : NN0 ≤ NN ∧ ∀ o : Nat, o < NN0 → ad o = ad0 o := ⟨Nat.le_trans hag.1 hle, fun o h => (hg o (Nat.lt_of_lt_of_le h hag.1)).trans (hag.2 o h)⟩
    have hNN : 152 ≤ NN := Nat.le_trans hNN hle
    clear hg hle
    obtain ⟨cells, ec⟩ : ∃ z, z = cells + k40 := ⟨_, rfl⟩
    obtain ⟨slots, es⟩ : ∃ z, z = slots + n41 := ⟨_, rfl⟩
    rw [← ec, ← es]
    have hRc : cells + k42 ≤ R.cells := by omega
    have hRs : slots + n43 ≤ R.slots := by omega
    clear ec es hB ht hF hz1 hk1 hvm ek40 en41
    exact t_Wrt_putTexts_88 hx hb hml hown hT hK hN hA hRf hRl hE hret  ad NN cells slots o l1 l2 l3 k42 n43 x44 H locs ls hNN hag hRc hRs fo fl2 hw hW hS (lv_sub hl [0, 1, 2, 3] rfl)
set_option maxRecDepth 100000 in
def j_Wrt_putTexts_54 (post : St → Prop) (rec10 : Nat → Int32 → Nat → Int32 → Nat → Nat → St → Prop) (o : Nat) (l1 : Int32) (l2 : Nat) (l3 : Int32) (s0 : Int64) (s1 : Int32) (s2 : Nat) (kb : Nat) (nb : Nat) (x : St) : Prop := (vp_in s1 (fN x s2) ∧ ∀ x45 : St, x45 = setL x s2 s1 s0 → rec10 o l1 l2 (l3 + 1) kb nb x45)
set_option maxHeartbeats 4000000 in
set_option maxRecDepth 100000 in
theorem t_Wrt_putTexts_54 {p : Program} {l : Launch} {e : Env} {R : Room} {s : State} {m : MethodId} {args : Array Value} {below : List Frame} {meth : Method} {c : Code} {Q : State → Prop} {dC : Nat → ClassId} {dI : Nat → Nat → Nat} {cI cB cJ cZ : ClassId} {A : Nat → Prop} {E : Heap} {tM tC : Nat} {kK kV : Nat → Nat} {ad0 : Nat → Nat} {NN0 : Nat} {post : St → Prop} {rec10 : Nat → Int32 → Nat → Int32 → Nat → Nat → St → Prop} (hx : p.tables.exec = Jvm.exec) (hb : c.code = b_Wrt_putTexts) (hml : c.maxLocals = 6) (hown : s.vm.findClass R_Wrt = some m.cls) (hT : ∀ w ∈ TG, w.before args s = true) (hK : va_K (dC, dI) CL (TY cI cB cJ cZ) s) (hN : NW s) (hA : ∀ q : Nat, s.heap.size ≤ q → A q) (hRf : 6 ≤ R.frames) (hRl : 300 ≤ R.locals) (hE : CE E tM tC kK kV A s) (hret : ∀ (ad : Nat → Nat) (NN cells slots : Nat) (x : St) (H : Heap) (locs : List Loc) (pc : Nat) (ls : Array Slot), decode b_Wrt_putTexts pc = .ok (.return_, 1) → (NN0 ≤ NN ∧ ∀ o : Nat, o < NN0 → ad o = ad0 o) → cells ≤ R.cells → slots ≤ R.slots → post x → Wd dC dI cI cB cJ cZ ad stC kcC NN A x H → va_S A s.heap H locs → W p l e R s m args below meth c H locs cells slots Q (F0 m pc ls [])) (hrec10 : ∀ (ad : Nat → Nat) (NN cells slots : Nat) (o : Nat) (l1 : Int32) (l2 : Nat) (l3 : Int32) (kb : Nat) (nb : Nat) (x : St) (H : Heap) (locs : List Loc) (ls : Array Slot), (152 ≤ NN) → (NN0 ≤ NN ∧ ∀ o : Nat, o < NN0 → ad o = ad0 o) → (cells + kb ≤ R.cells) → (slots + nb ≤ R.slots) → (o < NN ∧ kcC o = 5) → (l2 < NN ∧ kcC l2 = 21) → rec10 o l1 l2 l3 kb nb x → Wd dC dI cI cB cJ cZ ad stC kcC NN A x H → va_S A s.heap H locs → lv_has ls 6 [(0, .ref (ad o)), (1, .int l1), (2, .ref (ad l2)), (3, .int l3)] → W p l e R s m args below meth c H locs cells slots Q (F0 m 10 ls [])) : ∀ (ad : Nat → Nat) (NN cells slots : Nat) (o : Nat) (l1 : Int32) (l2 : Nat) (l3 : Int32) (s0 : Int64) (s1 : Int32) (s2 : Nat) (kb : Nat) (nb : Nat) (x : St) (H : Heap) (locs : List Loc) (ls : Array Slot), (152 ≤ NN) → (NN0 ≤ NN ∧ ∀ o : Nat, o < NN0 → ad o = ad0 o) → (cells + kb ≤ R.cells) → (slots + nb ≤ R.slots) → (o < NN ∧ kcC o = 5) → (l2 < NN ∧ kcC l2 = 21) → (s2 < NN ∧ kcC s2 = 22) → j_Wrt_putTexts_54 post rec10 o l1 l2 l3 s0 s1 s2 kb nb x → Wd dC dI cI cB cJ cZ ad stC kcC NN A x H → va_S A s.heap H locs → lv_has ls 6 [(0, .ref (ad o)), (1, .int l1), (2, .ref (ad l2)), (3, .int l3)] → W p l e R s m args below meth c H locs cells slots Q (F0 m 54 ls [.long s0, .int s1, .ref (ad s2)]) := by
  intro ad NN cells slots o l1 l2 l3 s0 s1 s2 kb nb x H locs ls hNN hag hRc hRs fo fl2 fs2 hw hW hS hl
  unfold j_Wrt_putTexts_54 at hw
  obtain ⟨hi, hw⟩ := hw
  refine w_last (o := s2) hx hb hK hW hS fs2.1 fs2.2 hi d_Wrt_putTexts_54 (fun H locs hW hS => ?_)
  obtain ⟨x45, ex45⟩ : ∃ y : St, y = setL x s2 s1 s0 := ⟨_, rfl⟩
  rw [← ex45] at hW
  have hw := hw x45 ex45
  refine lv_iinc (v := (l3 + 1)) (lv' := [(3, .int (l3 + 1)), (0, .ref (ad o)), (1, .int l1), (2, .ref (ad l2))]) hx hb d_Wrt_putTexts_55 hl (k := 3) rfl rfl (by decide) rfl (fun ls hl => ?_)
  refine lv_goto (tgt := 10) hx hb d_Wrt_putTexts_58 (by decide) ?_
  exact hrec10 ad NN cells slots o l1 l2 (l3 + 1) kb nb x45 H locs ls hNN hag hRc hRs fo fl2 hw hW hS (lv_sub hl [1, 2, 3, 0] rfl)
set_option maxRecDepth 100000 in
def j_Wrt_putTexts_10 (post : St → Prop) (rec10 : Nat → Int32 → Nat → Int32 → Nat → Nat → St → Prop) (o : Nat) (l1 : Int32) (l2 : Nat) (l3 : Int32) (kb : Nat) (nb : Nat) (x : St) : Prop := (((fI x o 12) ≤ l3 → j_Wrt_putTexts_61 post o l1 l2 l3 kb nb x) ∧ (¬ (fI x o 12) ≤ l3 → ((l1 = 0 → j_Wrt_putTexts_61 post o l1 l2 l3 kb nb x) ∧ (¬ l1 = 0 → ((¬ l3 = 0 → (vp_in (l3 - 1) (fN x (stC o 10)) ∧ (vp_in l3 (fN x (stC o 10)) ∧ wp_V_inCommon (fun (r50 : Int32) (x49 : St) => j_Wrt_putTexts_54 post rec10 o l1 l2 l3 (r50 : Int32).toInt64 l3 (stC o 16) kb nb x49) l2 (rL x (stC o 10) (l3 - 1)) (rL x (stC o 10) l3) x))) ∧ (l3 = 0 → j_Wrt_putTexts_54 post rec10 o l1 l2 l3 0 l3 (stC o 16) kb nb x))))))
set_option maxHeartbeats 4000000 in
set_option maxRecDepth 100000 in
theorem t_Wrt_putTexts_10 {p : Program} {l : Launch} {e : Env} {R : Room} {s : State} {m : MethodId} {args : Array Value} {below : List Frame} {meth : Method} {c : Code} {Q : State → Prop} {dC : Nat → ClassId} {dI : Nat → Nat → Nat} {cI cB cJ cZ : ClassId} {A : Nat → Prop} {E : Heap} {tM tC : Nat} {kK kV : Nat → Nat} {ad0 : Nat → Nat} {NN0 : Nat} {post : St → Prop} {rec10 : Nat → Int32 → Nat → Int32 → Nat → Nat → St → Prop} (hx : p.tables.exec = Jvm.exec) (hb : c.code = b_Wrt_putTexts) (hml : c.maxLocals = 6) (hown : s.vm.findClass R_Wrt = some m.cls) (hT : ∀ w ∈ TG, w.before args s = true) (hK : va_K (dC, dI) CL (TY cI cB cJ cZ) s) (hN : NW s) (hA : ∀ q : Nat, s.heap.size ≤ q → A q) (hRf : 6 ≤ R.frames) (hRl : 300 ≤ R.locals) (hE : CE E tM tC kK kV A s) (hret : ∀ (ad : Nat → Nat) (NN cells slots : Nat) (x : St) (H : Heap) (locs : List Loc) (pc : Nat) (ls : Array Slot), decode b_Wrt_putTexts pc = .ok (.return_, 1) → (NN0 ≤ NN ∧ ∀ o : Nat, o < NN0 → ad o = ad0 o) → cells ≤ R.cells → slots ≤ R.slots → post x → Wd dC dI cI cB cJ cZ ad stC kcC NN A x H → va_S A s.heap H locs → W p l e R s m args below meth c H locs cells slots Q (F0 m pc ls [])) (hrec10 : ∀ (ad : Nat → Nat) (NN cells slots : Nat) (o : Nat) (l1 : Int32) (l2 : Nat) (l3 : Int32) (kb : Nat) (nb : Nat) (x : St) (H : Heap) (locs : List Loc) (ls : Array Slot), (152 ≤ NN) → (NN0 ≤ NN ∧ ∀ o : Nat, o < NN0 → ad o = ad0 o) → (cells + kb ≤ R.cells) → (slots + nb ≤ R.slots) → (o < NN ∧ kcC o = 5) → (l2 < NN ∧ kcC l2 = 21) → rec10 o l1 l2 l3 kb nb x → Wd dC dI cI cB cJ cZ ad stC kcC NN A x H → va_S A s.heap H locs → lv_has ls 6 [(0, .ref (ad o)), (1, .int l1), (2, .ref (ad l2)), (3, .int l3)] → W p l e R s m args below meth c H locs cells slots Q (F0 m 10 ls [])) : ∀ (ad : Nat → Nat) (NN cells slots : Nat) (o : Nat) (l1 : Int32) (l2 : Nat) (l3 : Int32) (kb : Nat) (nb : Nat) (x : St) (H : Heap) (locs : List Loc) (ls : Array Slot), (152 ≤ NN) → (NN0 ≤ NN ∧ ∀ o : Nat, o < NN0 → ad o = ad0 o) → (cells + kb ≤ R.cells) → (slots + nb ≤ R.slots) → (o < NN ∧ kcC o = 5) → (l2 < NN ∧ kcC l2 = 21) → j_Wrt_putTexts_10 post rec10 o l1 l2 l3 kb nb x → Wd dC dI cI cB cJ cZ ad stC kcC NN A x H → va_S A s.heap H locs → lv_has ls 6 [(0, .ref (ad o)), (1, .int l1), (2, .ref (ad l2)), (3, .int l3)] → W p l e R s m args below meth c H locs cells slots Q (F0 m 10 ls []) := by
  intro ad NN cells slots o l1 l2 l3 kb nb x H locs ls hNN hag hRc hRs fo fl2 hw hW hS hl
  unfold j_Wrt_putTexts_10 at hw
  refine lv_iload_n hx hb d_Wrt_putTexts_10 rfl (lv_at hl 3 rfl) ?_
  refine lv_aload_n hx hb d_Wrt_putTexts_11 rfl (lv_at hl 0 rfl) ?_
  refine w_geti (k := 12) (t := 5) (C := R_Wrt) (T := F_Wrt) (N := 20) hx hb hT hown hK hW fo.1 fo.2 (by decide) in_Wrt rfl rfl (by decide) rfl fr_Wrt_12 w_2_63 d_Wrt_putTexts_12 ?_
  refine lv_icmp_ge (tgt := 61) hx hb d_Wrt_putTexts_15 (by decide) (fun c46 => ?_) (fun c46 => ?_)
  · have hw := hw.1 c46
    exact t_Wrt_putTexts_61 hx hb hml hown hT hK hN hA hRf hRl hE hret  ad NN cells slots o l1 l2 l3 kb nb x H locs ls hNN hag hRc hRs fo fl2 hw hW hS (lv_sub hl [0, 1, 2, 3] rfl)
  · have hw := hw.2 c46
    refine lv_iload_n hx hb d_Wrt_putTexts_18 rfl (lv_at hl 1 rfl) ?_
    refine lv_if_eq (tgt := 61) hx hb d_Wrt_putTexts_19 (by decide) (fun c47 => ?_) (fun c47 => ?_)
    · have hw := hw.1 c47
      exact t_Wrt_putTexts_61 hx hb hml hown hT hK hN hA hRf hRl hE hret  ad NN cells slots o l1 l2 l3 kb nb x H locs ls hNN hag hRc hRs fo fl2 hw hW hS (lv_sub hl [0, 1, 2, 3] rfl)
    · have hw := hw.2 c47
      refine lv_aload_n hx hb d_Wrt_putTexts_22 rfl (lv_at hl 0 rfl) ?_
      refine w_getf (q := (stC o 16)) (k := 16) (t := 5) (C := R_Wrt) (T := F_Wrt) (N := 20) hx hb hT hown hK hW fo.1 fo.2 (by decide) in_Wrt rfl rfl (by decide) rfl fr_Wrt_16 w_2_67 d_Wrt_putTexts_23 rfl ?_
      refine lv_iload_n hx hb d_Wrt_putTexts_26 rfl (lv_at hl 3 rfl) ?_
      refine lv_iload_n hx hb d_Wrt_putTexts_27 rfl (lv_at hl 3 rfl) ?_
      refine lv_if_ne (tgt := 35) hx hb d_Wrt_putTexts_28 (by decide) (fun c48 => ?_) (fun c48 => ?_)
      · have hw := hw.1 c48
        refine lv_aload_n hx hb d_Wrt_putTexts_35 rfl (lv_at hl 2 rfl) ?_
        refine lv_aload_n hx hb d_Wrt_putTexts_36 rfl (lv_at hl 0 rfl) ?_
        refine w_getf (q := (stC o 10)) (k := 10) (t := 5) (C := R_Wrt) (T := F_Wrt) (N := 20) hx hb hT hown hK hW fo.1 fo.2 (by decide) in_Wrt rfl rfl (by decide) rfl fr_Wrt_10 w_2_61 d_Wrt_putTexts_37 rfl ?_
        refine lv_iload_n hx hb d_Wrt_putTexts_40 rfl (lv_at hl 3 rfl) ?_
        refine lv_iconst (v := 1) hx hb d_Wrt_putTexts_41 (by decide) ?_
        refine lv_isub hx hb d_Wrt_putTexts_42 ?_
        obtain ⟨hi, hw⟩ := hw
        refine w_lald (o := (stC o 10)) hx hb hK hW (st_ty hNN fo.1 fo.2 rfl).1 (st_ty hNN fo.1 fo.2 rfl).2 hi d_Wrt_putTexts_43 ?_
        refine lv_aload_n hx hb d_Wrt_putTexts_44 rfl (lv_at hl 0 rfl) ?_
        refine w_getf (q := (stC o 10)) (k := 10) (t := 5) (C := R_Wrt) (T := F_Wrt) (N := 20) hx hb hT hown hK hW fo.1 fo.2 (by decide) in_Wrt rfl rfl (by decide) rfl fr_Wrt_10 w_2_61 d_Wrt_putTexts_45 rfl ?_
        refine lv_iload_n hx hb d_Wrt_putTexts_48 rfl (lv_at hl 3 rfl) ?_
        obtain ⟨hi, hw⟩ := hw
        refine w_lald (o := (stC o 10)) hx hb hK hW (st_ty hNN fo.1 fo.2 rfl).1 (st_ty hNN fo.1 fo.2 rfl).2 hi d_Wrt_putTexts_49 ?_
        have hF := hW.free hS hA
        refine va_calli (va_runSN (As := [.ref (ad l2), .long (rL x (stC o 10) (l3 - 1)), .long (rL x (stC o 10) l3)]) (rest := [.int l3, .ref (ad (stC o 16))]) ⟨hx, hb, hml, hown, hT⟩ (k_V_inCommon l dC dI cI cB cJ cZ ad NN E tM tC kK kV hNN H.size l2 (rL x (stC o 10) (l3 - 1)) (rL x (stC o 10) l3) x fl2 hw) ⟨va_cnB 3 hT (gw_in w_5_238) rfl rfl rfl (hN _ wn_5_236 rfl) (hT _ w_1_1) (by decide +kernel) ⟨Nat.le_trans (by decide) hRf, Nat.le_trans (by decide) hRl⟩, hT _ w_5_237, trivial⟩ ⟨PV.blind, PV.at _ hW hK hN hE hS hF⟩ rfl rfl hl.1 rfl (lv_room (Nat.le_of_ble_eq_true rfl)) d_Wrt_putTexts_50 ⟨(Nat.le_trans (Nat.le_add_right _ _) hRc), (Nat.le_trans (Nat.le_add_right _ _) hRs)⟩) hS (fun q _ h => hF q h) hF (fun r50 x49 t H locs ht hvm hw hB hz1 hk1 hS => ?_)
        have hW := Wd.back hB ht hF
        clear hB ht hF hz1 hk1 hvm
        refine lv_i2l hx hb d_Wrt_putTexts_53 rfl ?_
        exact t_Wrt_putTexts_54 hx hb hml hown hT hK hN hA hRf hRl hE hret hrec10 ad NN cells slots o l1 l2 l3 (r50 : Int32).toInt64 l3 (stC o 16) kb nb x49 H locs ls hNN hag hRc hRs fo fl2 (st_ty hNN fo.1 fo.2 rfl) hw hW hS (lv_sub hl [0, 1, 2, 3] rfl)
      · have hw := hw.2 c48
        refine lv_lconst (v := 0) hx hb d_Wrt_putTexts_31 (by decide) ?_
        refine lv_goto (tgt := 54) hx hb d_Wrt_putTexts_32 (by decide) ?_
        exact t_Wrt_putTexts_54 hx hb hml hown hT hK hN hA hRf hRl hE hret hrec10 ad NN cells slots o l1 l2 l3 0 l3 (stC o 16) kb nb x H locs ls hNN hag hRc hRs fo fl2 (st_ty hNN fo.1 fo.2 rfl) hw hW hS (lv_sub hl [0, 1, 2, 3] rfl)
def wl_Wrt_putTexts_10 (post : St → Prop) : Nat → Nat → Int32 → Nat → Int32 → Nat → Nat → St → Prop
  | 0 => fun _ _ _ _ _ _ _ => False
  | n + 1 => j_Wrt_putTexts_10 post (wl_Wrt_putTexts_10 post n)
set_option maxHeartbeats 4000000 in
set_option maxRecDepth 100000 in
theorem tl_Wrt_putTexts_10 {p : Program} {l : Launch} {e : Env} {R : Room} {s : State} {m : MethodId} {args : Array Value} {below : List Frame} {meth : Method} {c : Code} {Q : State → Prop} {dC : Nat → ClassId} {dI : Nat → Nat → Nat} {cI cB cJ cZ : ClassId} {A : Nat → Prop} {E : Heap} {tM tC : Nat} {kK kV : Nat → Nat} {ad0 : Nat → Nat} {NN0 : Nat} {post : St → Prop} (hx : p.tables.exec = Jvm.exec) (hb : c.code = b_Wrt_putTexts) (hml : c.maxLocals = 6) (hown : s.vm.findClass R_Wrt = some m.cls) (hT : ∀ w ∈ TG, w.before args s = true) (hK : va_K (dC, dI) CL (TY cI cB cJ cZ) s) (hN : NW s) (hA : ∀ q : Nat, s.heap.size ≤ q → A q) (hRf : 6 ≤ R.frames) (hRl : 300 ≤ R.locals) (hE : CE E tM tC kK kV A s) (hret : ∀ (ad : Nat → Nat) (NN cells slots : Nat) (x : St) (H : Heap) (locs : List Loc) (pc : Nat) (ls : Array Slot), decode b_Wrt_putTexts pc = .ok (.return_, 1) → (NN0 ≤ NN ∧ ∀ o : Nat, o < NN0 → ad o = ad0 o) → cells ≤ R.cells → slots ≤ R.slots → post x → Wd dC dI cI cB cJ cZ ad stC kcC NN A x H → va_S A s.heap H locs → W p l e R s m args below meth c H locs cells slots Q (F0 m pc ls []))  : ∀ n : Nat, ∀ (ad : Nat → Nat) (NN cells slots : Nat) (o : Nat) (l1 : Int32) (l2 : Nat) (l3 : Int32) (kb : Nat) (nb : Nat) (x : St) (H : Heap) (locs : List Loc) (ls : Array Slot), (152 ≤ NN) → (NN0 ≤ NN ∧ ∀ o : Nat, o < NN0 → ad o = ad0 o) → (cells + kb ≤ R.cells) → (slots + nb ≤ R.slots) → (o < NN ∧ kcC o = 5) → (l2 < NN ∧ kcC l2 = 21) → wl_Wrt_putTexts_10 post n o l1 l2 l3 kb nb x → Wd dC dI cI cB cJ cZ ad stC kcC NN A x H → va_S A s.heap H locs → lv_has ls 6 [(0, .ref (ad o)), (1, .int l1), (2, .ref (ad l2)), (3, .int l3)] → W p l e R s m args below meth c H locs cells slots Q (F0 m 10 ls []) := by
  intro n
  induction n with
  | zero => intro ad NN cells slots o l1 l2 l3 kb nb x H locs ls hNN hag hRc hRs fo fl2 hw; exact hw.elim
  | succ n ih => intro ad NN cells slots o l1 l2 l3 kb nb x H locs ls hNN hag hRc hRs fo fl2 hw hW hS hl; exact t_Wrt_putTexts_10 hx hb hml hown hT hK hN hA hRf hRl hE hret  ih ad NN cells slots o l1 l2 l3 kb nb x H locs ls hNN hag hRc hRs fo fl2 hw hW hS hl
set_option maxRecDepth 100000 in
def wp_Wrt_putTexts (post : St → Prop) (o : Nat) (l1 : Int32) (kb : Nat) (nb : Nat) (x : St) : Prop := (∃ q51 : Nat, fR x o 6 = some q51 ∧ ∃ n : Nat, wl_Wrt_putTexts_10 post n o l1 (stC q51 12) 0 kb nb x)
set_option maxHeartbeats 4000000 in
set_option maxRecDepth 100000 in
theorem t_Wrt_putTexts_e {p : Program} {l : Launch} {e : Env} {R : Room} {s : State} {m : MethodId} {args : Array Value} {below : List Frame} {meth : Method} {c : Code} {Q : State → Prop} {dC : Nat → ClassId} {dI : Nat → Nat → Nat} {cI cB cJ cZ : ClassId} {A : Nat → Prop} {E : Heap} {tM tC : Nat} {kK kV : Nat → Nat} {ad0 : Nat → Nat} {NN0 : Nat} {post : St → Prop} (hx : p.tables.exec = Jvm.exec) (hb : c.code = b_Wrt_putTexts) (hml : c.maxLocals = 6) (hown : s.vm.findClass R_Wrt = some m.cls) (hT : ∀ w ∈ TG, w.before args s = true) (hK : va_K (dC, dI) CL (TY cI cB cJ cZ) s) (hN : NW s) (hA : ∀ q : Nat, s.heap.size ≤ q → A q) (hRf : 6 ≤ R.frames) (hRl : 300 ≤ R.locals) (hE : CE E tM tC kK kV A s) (hret : ∀ (ad : Nat → Nat) (NN cells slots : Nat) (x : St) (H : Heap) (locs : List Loc) (pc : Nat) (ls : Array Slot), decode b_Wrt_putTexts pc = .ok (.return_, 1) → (NN0 ≤ NN ∧ ∀ o : Nat, o < NN0 → ad o = ad0 o) → cells ≤ R.cells → slots ≤ R.slots → post x → Wd dC dI cI cB cJ cZ ad stC kcC NN A x H → va_S A s.heap H locs → W p l e R s m args below meth c H locs cells slots Q (F0 m pc ls [])) : ∀ (ad : Nat → Nat) (NN cells slots : Nat) (o : Nat) (l1 : Int32) (kb : Nat) (nb : Nat) (x : St) (H : Heap) (locs : List Loc) (ls : Array Slot), (152 ≤ NN) → (NN0 ≤ NN ∧ ∀ o : Nat, o < NN0 → ad o = ad0 o) → (cells + kb ≤ R.cells) → (slots + nb ≤ R.slots) → (o < NN ∧ kcC o = 5) → wp_Wrt_putTexts post o l1 kb nb x → Wd dC dI cI cB cJ cZ ad stC kcC NN A x H → va_S A s.heap H locs → lv_has ls 6 [(0, .ref (ad o)), (1, .int l1)] → W p l e R s m args below meth c H locs cells slots Q (F0 m 0 ls []) := by
  intro ad NN cells slots o l1 kb nb x H locs ls hNN hag hRc hRs fo hw hW hS hl
  unfold wp_Wrt_putTexts at hw
  refine lv_aload_n hx hb d_Wrt_putTexts_0 rfl (lv_at hl 0 rfl) ?_
  obtain ⟨q51, hq51, hw⟩ := hw
  refine w_getr (q := q51) (k := 6) (t := 5) (C := R_Wrt) (T := F_Wrt) (N := 20) hx hb hT hown hK hW fo.1 fo.2 (by decide) in_Wrt rfl rfl (by decide) rfl fr_Wrt_6 w_2_57 d_Wrt_putTexts_1 hq51 (fun aq51 bq51 => ?_)
  have fq51 : q51 < NN ∧ kcC q51 = 4 := ⟨aq51, bq51⟩
  refine w_getf (q := (stC q51 12)) (k := 12) (t := 4) (C := R_Rec) (T := F_Rec) (N := 15) hx hb hT hown hK hW fq51.1 fq51.2 (by decide) in_Rec rfl rfl (by decide) rfl fr_Rec_12 w_2_7 d_Wrt_putTexts_4 rfl ?_
  refine lv_astore_n (lv' := [(2, .ref (ad (stC q51 12))), (0, .ref (ad o)), (1, .int l1)]) hx hb d_Wrt_putTexts_7 rfl hl (by decide) rfl (fun ls hl => ?_)
  refine lv_iconst (v := 0) hx hb d_Wrt_putTexts_8 (by decide) ?_
  refine lv_istore_n (lv' := [(3, .int 0), (2, .ref (ad (stC q51 12))), (0, .ref (ad o)), (1, .int l1)]) hx hb d_Wrt_putTexts_9 rfl hl (by decide) rfl (fun ls hl => ?_)
  obtain ⟨n, hw⟩ := hw
  exact tl_Wrt_putTexts_10 hx hb hml hown hT hK hN hA hRf hRl hE hret  n ad NN cells slots o l1 (stC q51 12) 0 kb nb x H locs ls hNN hag hRc hRs fo (st_ty hNN fq51.1 fq51.2 rfl) hw hW hS (lv_sub hl [2, 3, 1, 0] rfl)
set_option maxHeartbeats 4000000 in
set_option maxRecDepth 100000 in
theorem k_Wrt_putTexts (l : Launch) (dC : Nat → ClassId) (dI : Nat → Nat → Nat) (cI cB cJ cZ : ClassId) (ad : Nat → Nat) (NN : Nat) (E : Heap) (tM tC : Nat) (kK kV : Nat → Nat) (hNN : 152 ≤ NN) (sz : Nat) (o : Nat) (l1 : Int32) (kb : Nat) (nb : Nat) (x : St) (fo : o < NN ∧ kcC o = 5) {post : St → Prop} (hw : wp_Wrt_putTexts post o l1 kb nb x) : Met l y_Wrt_putTexts (wsOf y_Wrt_putTexts b_Wrt_putTexts 6 (none)) ({ frames := 6, cells := kb, slots := nb, locals := 300 }) (va_Pc [.ref (ad o), .int l1] (PV dC dI cI cB cJ cZ ad stC kcC NN E tM tC kK kV sz x)) (va_Qv (fun (u : St × (Nat → Nat) × Nat) => post u.1) (fun u t => Wd dC dI cI cB cJ cZ u.2.1 stC kcC u.2.2 (va_A (pic ad stC kcC NN cI cB cJ cZ x) sz) u.1 t.heap ∧ NN ≤ u.2.2 ∧ ∀ o : Nat, o < NN → u.2.1 o = ad o) (va_A (pic ad stC kcC NN cI cB cJ cZ x) sz)) kb nb (va_A (pic ad stC kcC NN cI cB cJ cZ x) sz) := by
  refine Met.ofW (cc := b_Wrt_putTexts) (maxL := 6) (ret := none) (by decide) rfl ?_
  intro p e s m args below meth c s₁ B hml hv
  obtain ⟨rfl, ⟨hsz, hW0, hK, hN⟩, hE⟩ := hv
  have hx := B.exec
  have hb := B.bytes
  have hr := B.returns
  have hts := atoms_spec B.pre
  have hT : ∀ w ∈ TG, w.before _ s = true := fun w h => hts w (List.mem_cons_of_mem _ h)
  have hown : s.vm.findClass R_Wrt = some m.cls := findClass_of_methodNamed B.named
  have hlocks := B.notSynchronized
  subst hsz
  have hW : Wd dC dI cI cB cJ cZ ad stC kcC NN (va_A (pic ad stC kcC NN cI cB cJ cZ x) s.heap.size) x s.heap := ⟨hW0.1, hW0.2.1.self (sz := s.heap.size), hW0.2.2⟩
  generalize hAe : va_A (pic ad stC kcC NN cI cB cJ cZ x) s.heap.size = A at hW hE ⊢
  have hA : ∀ q : Nat, s.heap.size ≤ q → A q := fun q h => by rw [← hAe]; exact Or.inr h
  have hS : va_S A s.heap s.heap [] := va_S.rf
  have hl := lv_entry ([.ref (ad o), .int l1]) (n := 6) (Nat.le_of_ble_eq_true rfl)
  rw [lg_entry_eq]
  generalize (lg_sl ([.ref (ad o), .int l1]) ++ List.replicate (6 - (lg_sl ([.ref (ad o), .int l1])).length) Slot.unset).toArray = ls at hl ⊢
  have hl : lv_has ls 6 [(0, .ref (ad o)), (1, .int l1)] := hl
  exact t_Wrt_putTexts_e hx hb hml hown hT hK hN hA (Nat.le_refl 6) (Nat.le_refl 300) hE (fun ad1 NN1 cells slots x1 H locs pc ls hd hag hc hs hp hW hS => W.widen (k := kb) (n := nb) hc hs (W.vret hx hb hr (fun t ht hM => ⟨⟨(x1, ad1, NN1), rfl, hp, Wd.back hW ht.symm (fun _ z => z), hag.1, hag.2⟩, hS.F ht⟩) hS.2.2 hd hlocks))  ad NN 0 0 o l1 kb nb x _ _ ls hNN ⟨Nat.le_refl _, fun _ _ => rfl⟩ (Nat.le_of_eq (Nat.zero_add kb)) (Nat.le_of_eq (Nat.zero_add nb)) fo hw hW hS hl
set_option maxRecDepth 100000 in
def j_Wrt_chooseCoding_166 (post : Int32 → St → Prop) (rec24 : Nat → Int32 → Int32 → Int32 → Int32 → Nat → Nat → St → Prop) (o : Nat) (l1 : Int32) (l2 : Int32) (l3 : Int32) (l4 : Int32) (kb : Nat) (nb : Nat) (x : St) : Prop := rec24 o l1 l2 l3 (l4 + 1) kb nb x
set_option maxHeartbeats 4000000 in
set_option maxRecDepth 100000 in
theorem t_Wrt_chooseCoding_166 {p : Program} {l : Launch} {e : Env} {R : Room} {s : State} {m : MethodId} {args : Array Value} {below : List Frame} {meth : Method} {c : Code} {Q : State → Prop} {dC : Nat → ClassId} {dI : Nat → Nat → Nat} {cI cB cJ cZ : ClassId} {A : Nat → Prop} {E : Heap} {tM tC : Nat} {kK kV : Nat → Nat} {ad0 : Nat → Nat} {NN0 : Nat} {post : Int32 → St → Prop} {rec24 : Nat → Int32 → Int32 → Int32 → Int32 → Nat → Nat → St → Prop} (hx : p.tables.exec = Jvm.exec) (hb : c.code = b_Wrt_chooseCoding) (hml : c.maxLocals = 6) (hown : s.vm.findClass R_Wrt = some m.cls) (hT : ∀ w ∈ TG, w.before args s = true) (hK : va_K (dC, dI) CL (TY cI cB cJ cZ) s) (hN : NW s) (hA : ∀ q : Nat, s.heap.size ≤ q → A q) (hRf : 7 ≤ R.frames) (hRl : 325 ≤ R.locals) (hE : CE E tM tC kK kV A s) (hret : ∀ (r : Int32) (ad : Nat → Nat) (NN cells slots : Nat) (x : St) (H : Heap) (locs : List Loc) (pc : Nat) (ls : Array Slot), decode b_Wrt_chooseCoding pc = .ok (.ireturn, 1) → (NN0 ≤ NN ∧ ∀ o : Nat, o < NN0 → ad o = ad0 o) → cells ≤ R.cells → slots ≤ R.slots → post r x → Wd dC dI cI cB cJ cZ ad stC kcC NN A x H → va_S A s.heap H locs → W p l e R s m args below meth c H locs cells slots Q (F0 m pc ls [.int r])) (hrec24 : ∀ (ad : Nat → Nat) (NN cells slots : Nat) (o : Nat) (l1 : Int32) (l2 : Int32) (l3 : Int32) (l4 : Int32) (kb : Nat) (nb : Nat) (x : St) (H : Heap) (locs : List Loc) (ls : Array Slot), (152 ≤ NN) → (NN0 ≤ NN ∧ ∀ o : Nat, o < NN0 → ad o = ad0 o) → (cells + kb ≤ R.cells) → (slots + nb ≤ R.slots) → (o < NN ∧ kcC o = 5) → rec24 o l1 l2 l3 l4 kb nb x → Wd dC dI cI cB cJ cZ ad stC kcC NN A x H → va_S A s.heap H locs → lv_has ls 6 [(0, .ref (ad o)), (1, .int l1), (2, .int l2), (3, .int l3), (4, .int l4)] → W p l e R s m args below meth c H locs cells slots Q (F0 m 24 ls [])) : ∀ (ad : Nat → Nat) (NN cells slots : Nat) (o : Nat) (l1 : Int32) (l2 : Int32) (l3 : Int32) (l4 : Int32) (kb : Nat) (nb : Nat) (x : St) (H : Heap) (locs : List Loc) (ls : Array Slot), (152 ≤ NN) → (NN0 ≤ NN ∧ ∀ o : Nat, o < NN0 → ad o = ad0 o) → (cells + kb ≤ R.cells) → (slots + nb ≤ R.slots) → (o < NN ∧ kcC o = 5) → j_Wrt_chooseCoding_166 post rec24 o l1 l2 l3 l4 kb nb x → Wd dC dI cI cB cJ cZ ad stC kcC NN A x H → va_S A s.heap H locs → lv_has ls 6 [(0, .ref (ad o)), (1, .int l1), (2, .int l2), (3, .int l3), (4, .int l4)] → W p l e R s m args below meth c H locs cells slots Q (F0 m 166 ls []) := by
  intro ad NN cells slots o l1 l2 l3 l4 kb nb x H locs ls hNN hag hRc hRs fo hw hW hS hl
  unfold j_Wrt_chooseCoding_166 at hw
  refine lv_iinc (v := (l4 + 1)) (lv' := [(4, .int (l4 + 1)), (0, .ref (ad o)), (1, .int l1), (2, .int l2), (3, .int l3)]) hx hb d_Wrt_chooseCoding_166 hl (k := 4) rfl rfl (by decide) rfl (fun ls hl => ?_)
  refine lv_goto (tgt := 24) hx hb d_Wrt_chooseCoding_169 (by decide) ?_
  exact hrec24 ad NN cells slots o l1 l2 l3 (l4 + 1) kb nb x H locs ls hNN hag hRc hRs fo hw hW hS (lv_sub hl [1, 2, 3, 4, 0] rfl)
set_option maxRecDepth 100000 in
def j_Wrt_chooseCoding_143 (post : Int32 → St → Prop) (rec24 : Nat → Int32 → Int32 → Int32 → Int32 → Nat → Nat → St → Prop) (o : Nat) (l1 : Int32) (l2 : Int32) (l3 : Int32) (l4 : Int32) (kb : Nat) (nb : Nat) (x : St) : Prop := (∃ q1 : Nat, fR x o 3 = some q1 ∧ (∃ q2 : Nat, fR x o 4 = some q2 ∧ (∀ x3 : St, x3 = setR x o 3 (some q2) → (∀ x4 : St, x4 = setR x3 o 4 (some q1) → j_Wrt_chooseCoding_166 post rec24 o l1 l2 l4 l4 kb nb x4))))
set_option maxHeartbeats 4000000 in
set_option maxRecDepth 100000 in
theorem t_Wrt_chooseCoding_143 {p : Program} {l : Launch} {e : Env} {R : Room} {s : State} {m : MethodId} {args : Array Value} {below : List Frame} {meth : Method} {c : Code} {Q : State → Prop} {dC : Nat → ClassId} {dI : Nat → Nat → Nat} {cI cB cJ cZ : ClassId} {A : Nat → Prop} {E : Heap} {tM tC : Nat} {kK kV : Nat → Nat} {ad0 : Nat → Nat} {NN0 : Nat} {post : Int32 → St → Prop} {rec24 : Nat → Int32 → Int32 → Int32 → Int32 → Nat → Nat → St → Prop} (hx : p.tables.exec = Jvm.exec) (hb : c.code = b_Wrt_chooseCoding) (hml : c.maxLocals = 6) (hown : s.vm.findClass R_Wrt = some m.cls) (hT : ∀ w ∈ TG, w.before args s = true) (hK : va_K (dC, dI) CL (TY cI cB cJ cZ) s) (hN : NW s) (hA : ∀ q : Nat, s.heap.size ≤ q → A q) (hRf : 7 ≤ R.frames) (hRl : 325 ≤ R.locals) (hE : CE E tM tC kK kV A s) (hret : ∀ (r : Int32) (ad : Nat → Nat) (NN cells slots : Nat) (x : St) (H : Heap) (locs : List Loc) (pc : Nat) (ls : Array Slot), decode b_Wrt_chooseCoding pc = .ok (.ireturn, 1) → (NN0 ≤ NN ∧ ∀ o : Nat, o < NN0 → ad o = ad0 o) → cells ≤ R.cells → slots ≤ R.slots → post r x → Wd dC dI cI cB cJ cZ ad stC kcC NN A x H → va_S A s.heap H locs → W p l e R s m args below meth c H locs cells slots Q (F0 m pc ls [.int r])) (hrec24 : ∀ (ad : Nat → Nat) (NN cells slots : Nat) (o : Nat) (l1 : Int32) (l2 : Int32) (l3 : Int32) (l4 : Int32) (kb : Nat) (nb : Nat) (x : St) (H : Heap) (locs : List Loc) (ls : Array Slot), (152 ≤ NN) → (NN0 ≤ NN ∧ ∀ o : Nat, o < NN0 → ad o = ad0 o) → (cells + kb ≤ R.cells) → (slots + nb ≤ R.slots) → (o < NN ∧ kcC o = 5) → rec24 o l1 l2 l3 l4 kb nb x → Wd dC dI cI cB cJ cZ ad stC kcC NN A x H → va_S A s.heap H locs → lv_has ls 6 [(0, .ref (ad o)), (1, .int l1), (2, .int l2), (3, .int l3), (4, .int l4)] → W p l e R s m args below meth c H locs cells slots Q (F0 m 24 ls [])) : ∀ (ad : Nat → Nat) (NN cells slots : Nat) (o : Nat) (l1 : Int32) (l2 : Int32) (l3 : Int32) (l4 : Int32) (kb : Nat) (nb : Nat) (x : St) (H : Heap) (locs : List Loc) (ls : Array Slot), (152 ≤ NN) → (NN0 ≤ NN ∧ ∀ o : Nat, o < NN0 → ad o = ad0 o) → (cells + kb ≤ R.cells) → (slots + nb ≤ R.slots) → (o < NN ∧ kcC o = 5) → j_Wrt_chooseCoding_143 post rec24 o l1 l2 l3 l4 kb nb x → Wd dC dI cI cB cJ cZ ad stC kcC NN A x H → va_S A s.heap H locs → lv_has ls 6 [(0, .ref (ad o)), (1, .int l1), (2, .int l2), (3, .int l3), (4, .int l4)] → W p l e R s m args below meth c H locs cells slots Q (F0 m 143 ls []) := by
  intro ad NN cells slots o l1 l2 l3 l4 kb nb x H locs ls hNN hag hRc hRs fo hw hW hS hl
  unfold j_Wrt_chooseCoding_143 at hw
  refine lv_aload_n hx hb d_Wrt_chooseCoding_143 rfl (lv_at hl 0 rfl) ?_
  obtain ⟨q1, hq1, hw⟩ := hw
  refine w_getr (q := q1) (k := 3) (t := 5) (C := R_Wrt) (T := F_Wrt) (N := 20) hx hb hT hown hK hW fo.1 fo.2 (by decide) in_Wrt rfl rfl (by decide) rfl fr_Wrt_3 w_2_54 d_Wrt_chooseCoding_144 hq1 (fun aq1 bq1 => ?_)
  have fq1 : q1 < NN ∧ kcC q1 = 1 := ⟨aq1, bq1⟩
  refine lv_astore (lv' := [(5, .ref (ad q1)), (0, .ref (ad o)), (1, .int l1), (2, .int l2), (3, .int l3), (4, .int l4)]) hx hb d_Wrt_chooseCoding_147 hl (by decide) rfl (fun ls hl => ?_)
  refine lv_aload_n hx hb d_Wrt_chooseCoding_149 rfl (lv_at hl 1 rfl) ?_
  refine lv_aload_n hx hb d_Wrt_chooseCoding_150 rfl (lv_at hl 1 rfl) ?_
  obtain ⟨q2, hq2, hw⟩ := hw
  refine w_getr (q := q2) (k := 4) (t := 5) (C := R_Wrt) (T := F_Wrt) (N := 20) hx hb hT hown hK hW fo.1 fo.2 (by decide) in_Wrt rfl rfl (by decide) rfl fr_Wrt_4 w_2_55 d_Wrt_chooseCoding_151 hq2 (fun aq2 bq2 => ?_)
  have fq2 : q2 < NN ∧ kcC q2 = 1 := ⟨aq2, bq2⟩
  refine w_putr (q := q2) (ty := .object "StripedVault$Sink") (k := 3) (t := 5) (C := R_Wrt) (T := F_Wrt) (N := 20) hx hb hT hown hK hW hS fo.1 fo.2 (by decide) in_Wrt t_Wrt t_Wrt_ok n_Wrt rfl rfl (by decide) rfl fr_Wrt_3 w_2_54 (by decide +kernel) rfl rfl fq2.1 fq2.2 d_Wrt_chooseCoding_154 (fun H locs hW hS => ?_)
  obtain ⟨x3, ex3⟩ : ∃ y : St, y = setR x o 3 (some q2) := ⟨_, rfl⟩
  rw [← ex3] at hW
  have hw := hw x3 ex3
  refine lv_aload_n hx hb d_Wrt_chooseCoding_157 rfl (lv_at hl 1 rfl) ?_
  refine lv_aload hx hb d_Wrt_chooseCoding_158 (lv_at hl 0 rfl) ?_
  refine w_putr (q := q1) (ty := .object "StripedVault$Sink") (k := 4) (t := 5) (C := R_Wrt) (T := F_Wrt) (N := 20) hx hb hT hown hK hW hS fo.1 fo.2 (by decide) in_Wrt t_Wrt t_Wrt_ok n_Wrt rfl rfl (by decide) rfl fr_Wrt_4 w_2_55 (by decide +kernel) rfl rfl fq1.1 fq1.2 d_Wrt_chooseCoding_160 (fun H locs hW hS => ?_)
  obtain ⟨x4, ex4⟩ : ∃ y : St, y = setR x3 o 4 (some q1) := ⟨_, rfl⟩
  rw [← ex4] at hW
  have hw := hw x4 ex4
  refine lv_iload hx hb d_Wrt_chooseCoding_163 (lv_at hl 5 rfl) ?_
  refine lv_istore_n (lv' := [(3, .int l4), (5, .ref (ad q1)), (0, .ref (ad o)), (1, .int l1), (2, .int l2), (4, .int l4)]) hx hb d_Wrt_chooseCoding_165 rfl hl (by decide) rfl (fun ls hl => ?_)
  exact t_Wrt_chooseCoding_166 hx hb hml hown hT hK hN hA hRf hRl hE hret hrec24 ad NN cells slots o l1 l2 l4 l4 kb nb x4 H locs ls hNN hag hRc hRs fo hw hW hS (lv_sub hl [2, 3, 4, 0, 5] rfl)
set_option maxRecDepth 100000 in
def j_Wrt_chooseCoding_121 (post : Int32 → St → Prop) (rec24 : Nat → Int32 → Int32 → Int32 → Int32 → Nat → Nat → St → Prop) (o : Nat) (l1 : Int32) (l2 : Int32) (l3 : Int32) (l4 : Int32) (kb : Nat) (nb : Nat) (x : St) : Prop := ((l4 = 0 → j_Wrt_chooseCoding_143 post rec24 o l1 l2 l3 l4 kb nb x) ∧ (¬ l4 = 0 → (∃ q6 : Nat, fR x o 4 = some q6 ∧ (∃ q7 : Nat, fR x o 3 = some q7 ∧ (((fI x q7 1) ≤ (fI x q6 1) → j_Wrt_chooseCoding_166 post rec24 o l1 l2 l3 l4 kb nb x) ∧ (¬ (fI x q7 1) ≤ (fI x q6 1) → j_Wrt_chooseCoding_143 post rec24 o l1 l2 l3 l4 kb nb x))))))
set_option maxHeartbeats 4000000 in
set_option maxRecDepth 100000 in
theorem t_Wrt_chooseCoding_121 {p : Program} {l : Launch} {e : Env} {R : Room} {s : State} {m : MethodId} {args : Array Value} {below : List Frame} {meth : Method} {c : Code} {Q : State → Prop} {dC : Nat → ClassId} {dI : Nat → Nat → Nat} {cI cB cJ cZ : ClassId} {A : Nat → Prop} {E : Heap} {tM tC : Nat} {kK kV : Nat → Nat} {ad0 : Nat → Nat} {NN0 : Nat} {post : Int32 → St → Prop} {rec24 : Nat → Int32 → Int32 → Int32 → Int32 → Nat → Nat → St → Prop} (hx : p.tables.exec = Jvm.exec) (hb : c.code = b_Wrt_chooseCoding) (hml : c.maxLocals = 6) (hown : s.vm.findClass R_Wrt = some m.cls) (hT : ∀ w ∈ TG, w.before args s = true) (hK : va_K (dC, dI) CL (TY cI cB cJ cZ) s) (hN : NW s) (hA : ∀ q : Nat, s.heap.size ≤ q → A q) (hRf : 7 ≤ R.frames) (hRl : 325 ≤ R.locals) (hE : CE E tM tC kK kV A s) (hret : ∀ (r : Int32) (ad : Nat → Nat) (NN cells slots : Nat) (x : St) (H : Heap) (locs : List Loc) (pc : Nat) (ls : Array Slot), decode b_Wrt_chooseCoding pc = .ok (.ireturn, 1) → (NN0 ≤ NN ∧ ∀ o : Nat, o < NN0 → ad o = ad0 o) → cells ≤ R.cells → slots ≤ R.slots → post r x → Wd dC dI cI cB cJ cZ ad stC kcC NN A x H → va_S A s.heap H locs → W p l e R s m args below meth c H locs cells slots Q (F0 m pc ls [.int r])) (hrec24 : ∀ (ad : Nat → Nat) (NN cells slots : Nat) (o : Nat) (l1 : Int32) (l2 : Int32) (l3 : Int32) (l4 : Int32) (kb : Nat) (nb : Nat) (x : St) (H : Heap) (locs : List Loc) (ls : Array Slot), (152 ≤ NN) → (NN0 ≤ NN ∧ ∀ o : Nat, o < NN0 → ad o = ad0 o) → (cells + kb ≤ R.cells) → (slots + nb ≤ R.slots) → (o < NN ∧ kcC o = 5) → rec24 o l1 l2 l3 l4 kb nb x → Wd dC dI cI cB cJ cZ ad stC kcC NN A x H → va_S A s.heap H locs → lv_has ls 6 [(0, .ref (ad o)), (1, .int l1), (2, .int l2), (3, .int l3), (4, .int l4)] → W p l e R s m args below meth c H locs cells slots Q (F0 m 24 ls [])) : ∀ (ad : Nat → Nat) (NN cells slots : Nat) (o : Nat) (l1 : Int32) (l2 : Int32) (l3 : Int32) (l4 : Int32) (kb : Nat) (nb : Nat) (x : St) (H : Heap) (locs : List Loc) (ls : Array Slot), (152 ≤ NN) → (NN0 ≤ NN ∧ ∀ o : Nat, o < NN0 → ad o = ad0 o) → (cells + kb ≤ R.cells) → (slots + nb ≤ R.slots) → (o < NN ∧ kcC o = 5) → j_Wrt_chooseCoding_121 post rec24 o l1 l2 l3 l4 kb nb x → Wd dC dI cI cB cJ cZ ad stC kcC NN A x H → va_S A s.heap H locs → lv_has ls 6 [(0, .ref (ad o)), (1, .int l1), (2, .int l2), (3, .int l3), (4, .int l4)] → W p l e R s m args below meth c H locs cells slots Q (F0 m 121 ls []) := by
  intro ad NN cells slots o l1 l2 l3 l4 kb nb x H locs ls hNN hag hRc hRs fo hw hW hS hl
  unfold j_Wrt_chooseCoding_121 at hw
  refine lv_iload hx hb d_Wrt_chooseCoding_121 (lv_at hl 4 rfl) ?_
  refine lv_if_eq (tgt := 143) hx hb d_Wrt_chooseCoding_123 (by decide) (fun c5 => ?_) (fun c5 => ?_)
  · have hw := hw.1 c5
    exact t_Wrt_chooseCoding_143 hx hb hml hown hT hK hN hA hRf hRl hE hret hrec24 ad NN cells slots o l1 l2 l3 l4 kb nb x H locs ls hNN hag hRc hRs fo hw hW hS (lv_sub hl [0, 1, 2, 3, 4] rfl)
  · have hw := hw.2 c5
    refine lv_aload_n hx hb d_Wrt_chooseCoding_126 rfl (lv_at hl 0 rfl) ?_
    obtain ⟨q6, hq6, hw⟩ := hw
    refine w_getr (q := q6) (k := 4) (t := 5) (C := R_Wrt) (T := F_Wrt) (N := 20) hx hb hT hown hK hW fo.1 fo.2 (by decide) in_Wrt rfl rfl (by decide) rfl fr_Wrt_4 w_2_55 d_Wrt_chooseCoding_127 hq6 (fun aq6 bq6 => ?_)
    have fq6 : q6 < NN ∧ kcC q6 = 1 := ⟨aq6, bq6⟩
    refine w_geti (k := 1) (t := 1) (C := R_Snk) (T := F_Snk) (N := 7) hx hb hT hown hK hW fq6.1 fq6.2 (by decide) in_Snk rfl rfl (by decide) rfl fr_Snk_1 w_1_46 d_Wrt_chooseCoding_130 ?_
    refine lv_aload_n hx hb d_Wrt_chooseCoding_133 rfl (lv_at hl 0 rfl) ?_
    obtain ⟨q7, hq7, hw⟩ := hw
    refine w_getr (q := q7) (k := 3) (t := 5) (C := R_Wrt) (T := F_Wrt) (N := 20) hx hb hT hown hK hW fo.1 fo.2 (by decide) in_Wrt rfl rfl (by decide) rfl fr_Wrt_3 w_2_54 d_Wrt_chooseCoding_134 hq7 (fun aq7 bq7 => ?_)
    have fq7 : q7 < NN ∧ kcC q7 = 1 := ⟨aq7, bq7⟩
    refine w_geti (k := 1) (t := 1) (C := R_Snk) (T := F_Snk) (N := 7) hx hb hT hown hK hW fq7.1 fq7.2 (by decide) in_Snk rfl rfl (by decide) rfl fr_Snk_1 w_1_46 d_Wrt_chooseCoding_137 ?_
    refine lv_icmp_ge (tgt := 166) hx hb d_Wrt_chooseCoding_140 (by decide) (fun c8 => ?_) (fun c8 => ?_)
    · have hw := hw.1 c8
      exact t_Wrt_chooseCoding_166 hx hb hml hown hT hK hN hA hRf hRl hE hret hrec24 ad NN cells slots o l1 l2 l3 l4 kb nb x H locs ls hNN hag hRc hRs fo hw hW hS (lv_sub hl [0, 1, 2, 3, 4] rfl)
    · have hw := hw.2 c8
      exact t_Wrt_chooseCoding_143 hx hb hml hown hT hK hN hA hRf hRl hE hret hrec24 ad NN cells slots o l1 l2 l3 l4 kb nb x H locs ls hNN hag hRc hRs fo hw hW hS (lv_sub hl [0, 1, 2, 3, 4] rfl)
set_option maxRecDepth 100000 in
def j_Wrt_chooseCoding_100 (post : Int32 → St → Prop) (rec24 : Nat → Int32 → Int32 → Int32 → Int32 → Nat → Nat → St → Prop) (o : Nat) (l1 : Int32) (l2 : Int32) (l3 : Int32) (l4 : Int32) (s0 : Int32) (s1 : Nat) (kb : Nat) (nb : Nat) (x : St) : Prop := (∃ k9 n10 k11 n12 : Nat, k9 + k11 = kb ∧ n10 + n12 = nb ∧ wp_Wrt_putTexts (fun (x13 : St) => j_Wrt_chooseCoding_121 post rec24 o l1 l2 l3 l4 k11 n12 x13) s1 s0 k9 n10 x)
set_option maxHeartbeats 4000000 in
set_option maxRecDepth 100000 in
theorem t_Wrt_chooseCoding_100 {p : Program} {l : Launch} {e : Env} {R : Room} {s : State} {m : MethodId} {args : Array Value} {below : List Frame} {meth : Method} {c : Code} {Q : State → Prop} {dC : Nat → ClassId} {dI : Nat → Nat → Nat} {cI cB cJ cZ : ClassId} {A : Nat → Prop} {E : Heap} {tM tC : Nat} {kK kV : Nat → Nat} {ad0 : Nat → Nat} {NN0 : Nat} {post : Int32 → St → Prop} {rec24 : Nat → Int32 → Int32 → Int32 → Int32 → Nat → Nat → St → Prop} (hx : p.tables.exec = Jvm.exec) (hb : c.code = b_Wrt_chooseCoding) (hml : c.maxLocals = 6) (hown : s.vm.findClass R_Wrt = some m.cls) (hT : ∀ w ∈ TG, w.before args s = true) (hK : va_K (dC, dI) CL (TY cI cB cJ cZ) s) (hN : NW s) (hA : ∀ q : Nat, s.heap.size ≤ q → A q) (hRf : 7 ≤ R.frames) (hRl : 325 ≤ R.locals) (hE : CE E tM tC kK kV A s) (hret : ∀ (r : Int32) (ad : Nat → Nat) (NN cells slots : Nat) (x : St) (H : Heap) (locs : List Loc) (pc : Nat) (ls : Array Slot), decode b_Wrt_chooseCoding pc = .ok (.ireturn, 1) → (NN0 ≤ NN ∧ ∀ o : Nat, o < NN0 → ad o = ad0 o) → cells ≤ R.cells → slots ≤ R.slots → post r x → Wd dC dI cI cB cJ cZ ad stC kcC NN A x H → va_S A s.heap H locs → W p l e R s m args below meth c H locs cells slots Q (F0 m pc ls [.int r])) (hrec24 : ∀ (ad : Nat → Nat) (NN cells slots : Nat) (o : Nat) (l1 : Int32) (l2 : Int32) (l3 : Int32) (l4 : Int32) (kb : Nat) (nb : Nat) (x : St) (H : Heap) (locs : List Loc) (ls : Array Slot), (152 ≤ NN) → (NN0 ≤ NN ∧ ∀ o : Nat, o < NN0 → ad o = ad0 o) → (cells + kb ≤ R.cells) → (slots + nb ≤ R.slots) → (o < NN ∧ kcC o = 5) → rec24 o l1 l2 l3 l4 kb nb x → Wd dC dI cI cB cJ cZ ad stC kcC NN A x H → va_S A s.heap H locs → lv_has ls 6 [(0, .ref (ad o)), (1, .int l1), (2, .int l2), (3, .int l3), (4, .int l4)] → W p l e R s m args below meth c H locs cells slots Q (F0 m 24 ls [])) : ∀ (ad : Nat → Nat) (NN cells slots : Nat) (o : Nat) (l1 : Int32) (l2 : Int32) (l3 : Int32) (l4 : Int32) (s0 : Int32) (s1 : Nat) (kb : Nat) (nb : Nat) (x : St) (H : Heap) (locs : List Loc) (ls : Array Slot), (152 ≤ NN) → (NN0 ≤ NN ∧ ∀ o : Nat, o < NN0 → ad o = ad0 o) → (cells + kb ≤ R.cells) → (slots + nb ≤ R.slots) → (o < NN ∧ kcC o = 5) → (s1 < NN ∧ kcC s1 = 5) → j_Wrt_chooseCoding_100 post rec24 o l1 l2 l3 l4 s0 s1 kb nb x → Wd dC dI cI cB cJ cZ ad stC kcC NN A x H → va_S A s.heap H locs → lv_has ls 6 [(0, .ref (ad o)), (1, .int l1), (2, .int l2), (3, .int l3), (4, .int l4)] → W p l e R s m args below meth c H locs cells slots Q (F0 m 100 ls [.int s0, .ref (ad s1)]) := by
  intro ad NN cells slots o l1 l2 l3 l4 s0 s1 kb nb x H locs ls hNN hag hRc hRs fo fs1 hw hW hS hl
  unfold j_Wrt_chooseCoding_100 at hw
  obtain ⟨k9, n10, k11, n12, ek9, en10, hw⟩ := hw
  have hF := hW.free hS hA
  refine va_callv (va_runV (C := R_Wrt) (As := [.int s0]) (rest := []) ⟨hx, hb, hml, hown, hT⟩ (k_Wrt_putTexts l dC dI cI cB cJ cZ ad NN E tM tC kK kV hNN H.size s1 s0 k9 n10 x fs1 hw) ⟨callB_of 1 hT (gw_in w_5_235) rfl rfl rfl (hT _ w_1_8) (hT _ w_5_232) (by decide +kernel) ⟨Nat.le_trans (by decide) hRf, Nat.le_trans (by decide) hRl⟩, hT _ w_5_234, hT _ ws_27⟩ ⟨PV.blind, va_recv hK hW.1 (ci := 5) (q0 := s1) rfl (pic_obj fs1.1 fs1.2 (by decide)), PV.at _ hW hK hN hE hS hF⟩ rfl rfl hl.1 rfl (lv_room (Nat.le_of_ble_eq_true rfl)) d_Wrt_chooseCoding_100 ⟨show cells + k9 ≤ R.cells by omega, show slots + n10 ≤ R.slots by omega⟩) hS (fun q _ h => hF q h) hF (fun  x13 t H locs ht hvm hw hB hz1 hk1 hS => ?_)
  obtain ⟨x13, ad, NN⟩ := x13
  obtain ⟨hB, hle, hg⟩ := hB
  try dsimp only at hw hB hle hg
  have hW := Wd.back hB ht hF
  rw [← hg o fo.1] at hl
  have fo : o < NN ∧ kcC o = 5 := ⟨Nat.lt_of_lt_of_le fo.1 hle, fo.2⟩
  have fs1 : s1 < NN ∧ kcC s1 = 5 := ⟨Nat.lt_of_lt_of_le fs1.1 hle, fs1.2⟩
  have hag : NN0 ≤ NN ∧ ∀ o : Nat, o < NN0 → ad o = ad0 o := ⟨Nat.le_trans hag.1 hle, fun o h => (hg o (Nat.lt_of_lt_of_le h hag.1)).trans (hag.2 o h)⟩
  have hNN : 152 ≤ NN := Nat.le_trans hNN hle
  clear hg hle
  obtain ⟨cells, ec⟩ : ∃ z, z = cells + k9 := ⟨_, rfl⟩
  obtain ⟨slots, es⟩ : ∃ z, z = slots + n10 := ⟨_, rfl⟩
  rw [← ec, ← es]
  have hRc : cells + k11 ≤ R.cells := by omega
  have hRs : slots + n12 ≤ R.slots := by omega
  clear ec es hB ht hF hz1 hk1 hvm ek9 en10
  refine lv_goto (tgt := 121) hx hb d_Wrt_chooseCoding_103 (by decide) ?_
  exact t_Wrt_chooseCoding_121 hx hb hml hown hT hK hN hA hRf hRl hE hret hrec24 ad NN cells slots o l1 l2 l3 l4 k11 n12 x13 H locs ls hNN hag hRc hRs fo hw hW hS (lv_sub hl [0, 1, 2, 3, 4] rfl)
set_option maxRecDepth 100000 in
def j_Wrt_chooseCoding_24 (post : Int32 → St → Prop) (rec24 : Nat → Int32 → Int32 → Int32 → Int32 → Nat → Nat → St → Prop) (o : Nat) (l1 : Int32) (l2 : Int32) (l3 : Int32) (l4 : Int32) (kb : Nat) (nb : Nat) (x : St) : Prop := ((l2 < l4 → post l3 x) ∧ (¬ l2 < l4 → (∃ q15 : Nat, fR x o 4 = some q15 ∧ wp_Snk_forget (fun (x16 : St) => ((¬ l4 = 0 → ((¬ l1 = 0 → ((¬ l4 = l2 → ((¬ l1 = 3 → (∃ q21 : Nat, fR x16 o 4 = some q21 ∧ (∃ k22 n23 k24 n25 : Nat, k22 + k24 = kb ∧ n23 + n25 = nb ∧ wp_Snk_putCode (fun (x26 : St) => j_Wrt_chooseCoding_121 post rec24 o l1 l2 l3 l4 k24 n25 x26) q21 (stC o 10) (fI x16 o 12) k22 n23 x16))) ∧ (l1 = 3 → ((¬ l4 = 2 → j_Wrt_chooseCoding_100 post rec24 o l1 l2 l3 l4 0 o kb nb x16) ∧ (l4 = 2 → j_Wrt_chooseCoding_100 post rec24 o l1 l2 l3 l4 1 o kb nb x16))))) ∧ (l4 = l2 → (∃ k28 n29 k30 n31 : Nat, k28 + k30 = kb ∧ n29 + n31 = nb ∧ wp_Wrt_putDictionary (fun (x32 : St) => j_Wrt_chooseCoding_121 post rec24 o l1 l2 l3 l4 k30 n31 x32) o l1 k28 n29 x16)))) ∧ (l1 = 0 → (∃ k33 n34 k35 n36 : Nat, k33 + k35 = kb ∧ n34 + n36 = nb ∧ wp_Wrt_putBoolRuns (fun (x37 : St) => j_Wrt_chooseCoding_121 post rec24 o l1 l2 l3 l4 k35 n36 x37) o k33 n34 x16)))) ∧ (l4 = 0 → (∃ k38 n39 k40 n41 : Nat, k38 + k40 = kb ∧ n39 + n41 = nb ∧ wp_Wrt_putPlain (fun (x42 : St) => j_Wrt_chooseCoding_121 post rec24 o l1 l2 l3 l4 k40 n41 x42) o l1 (stC o 10) (fI x16 o 12) k38 n39 x16)))) q15 x)))
set_option maxHeartbeats 4000000 in
set_option maxRecDepth 100000 in
theorem t_Wrt_chooseCoding_24 {p : Program} {l : Launch} {e : Env} {R : Room} {s : State} {m : MethodId} {args : Array Value} {below : List Frame} {meth : Method} {c : Code} {Q : State → Prop} {dC : Nat → ClassId} {dI : Nat → Nat → Nat} {cI cB cJ cZ : ClassId} {A : Nat → Prop} {E : Heap} {tM tC : Nat} {kK kV : Nat → Nat} {ad0 : Nat → Nat} {NN0 : Nat} {post : Int32 → St → Prop} {rec24 : Nat → Int32 → Int32 → Int32 → Int32 → Nat → Nat → St → Prop} (hx : p.tables.exec = Jvm.exec) (hb : c.code = b_Wrt_chooseCoding) (hml : c.maxLocals = 6) (hown : s.vm.findClass R_Wrt = some m.cls) (hT : ∀ w ∈ TG, w.before args s = true) (hK : va_K (dC, dI) CL (TY cI cB cJ cZ) s) (hN : NW s) (hA : ∀ q : Nat, s.heap.size ≤ q → A q) (hRf : 7 ≤ R.frames) (hRl : 325 ≤ R.locals) (hE : CE E tM tC kK kV A s) (hret : ∀ (r : Int32) (ad : Nat → Nat) (NN cells slots : Nat) (x : St) (H : Heap) (locs : List Loc) (pc : Nat) (ls : Array Slot), decode b_Wrt_chooseCoding pc = .ok (.ireturn, 1) → (NN0 ≤ NN ∧ ∀ o : Nat, o < NN0 → ad o = ad0 o) → cells ≤ R.cells → slots ≤ R.slots → post r x → Wd dC dI cI cB cJ cZ ad stC kcC NN A x H → va_S A s.heap H locs → W p l e R s m args below meth c H locs cells slots Q (F0 m pc ls [.int r])) (hrec24 : ∀ (ad : Nat → Nat) (NN cells slots : Nat) (o : Nat) (l1 : Int32) (l2 : Int32) (l3 : Int32) (l4 : Int32) (kb : Nat) (nb : Nat) (x : St) (H : Heap) (locs : List Loc) (ls : Array Slot), (152 ≤ NN) → (NN0 ≤ NN ∧ ∀ o : Nat, o < NN0 → ad o = ad0 o) → (cells + kb ≤ R.cells) → (slots + nb ≤ R.slots) → (o < NN ∧ kcC o = 5) → rec24 o l1 l2 l3 l4 kb nb x → Wd dC dI cI cB cJ cZ ad stC kcC NN A x H → va_S A s.heap H locs → lv_has ls 6 [(0, .ref (ad o)), (1, .int l1), (2, .int l2), (3, .int l3), (4, .int l4)] → W p l e R s m args below meth c H locs cells slots Q (F0 m 24 ls [])) : ∀ (ad : Nat → Nat) (NN cells slots : Nat) (o : Nat) (l1 : Int32) (l2 : Int32) (l3 : Int32) (l4 : Int32) (kb : Nat) (nb : Nat) (x : St) (H : Heap) (locs : List Loc) (ls : Array Slot), (152 ≤ NN) → (NN0 ≤ NN ∧ ∀ o : Nat, o < NN0 → ad o = ad0 o) → (cells + kb ≤ R.cells) → (slots + nb ≤ R.slots) → (o < NN ∧ kcC o = 5) → j_Wrt_chooseCoding_24 post rec24 o l1 l2 l3 l4 kb nb x → Wd dC dI cI cB cJ cZ ad stC kcC NN A x H → va_S A s.heap H locs → lv_has ls 6 [(0, .ref (ad o)), (1, .int l1), (2, .int l2), (3, .int l3), (4, .int l4)] → W p l e R s m args below meth c H locs cells slots Q (F0 m 24 ls []) := by
  intro ad NN cells slots o l1 l2 l3 l4 kb nb x H locs ls hNN hag hRc hRs fo hw hW hS hl
  unfold j_Wrt_chooseCoding_24 at hw
  refine lv_iload hx hb d_Wrt_chooseCoding_24 (lv_at hl 4 rfl) ?_
  refine lv_iload_n hx hb d_Wrt_chooseCoding_26 rfl (lv_at hl 2 rfl) ?_
  refine lv_icmp_gt (tgt := 172) hx hb d_Wrt_chooseCoding_27 (by decide) (fun c14 => ?_) (fun c14 => ?_)
  · have hw := hw.1 c14
    refine lv_iload_n hx hb d_Wrt_chooseCoding_172 rfl (lv_at hl 3 rfl) ?_
    exact hret l3 ad NN cells slots x H locs 173 ls d_Wrt_chooseCoding_173 hag (Nat.le_trans (Nat.le_add_right _ _) hRc) (Nat.le_trans (Nat.le_add_right _ _) hRs) hw hW hS
  · have hw := hw.2 c14
    refine lv_aload_n hx hb d_Wrt_chooseCoding_30 rfl (lv_at hl 0 rfl) ?_
    obtain ⟨q15, hq15, hw⟩ := hw
    refine w_getr (q := q15) (k := 4) (t := 5) (C := R_Wrt) (T := F_Wrt) (N := 20) hx hb hT hown hK hW fo.1 fo.2 (by decide) in_Wrt rfl rfl (by decide) rfl fr_Wrt_4 w_2_55 d_Wrt_chooseCoding_31 hq15 (fun aq15 bq15 => ?_)
    have fq15 : q15 < NN ∧ kcC q15 = 1 := ⟨aq15, bq15⟩
    have hF := hW.free hS hA
    refine va_callv (va_runV (C := R_Snk) (As := []) (rest := []) ⟨hx, hb, hml, hown, hT⟩ (k_Snk_forget l dC dI cI cB cJ cZ ad NN E tM tC kK kV hNN H.size q15 x fq15 hw) ⟨callB_of 0 hT (gw_in w_4_81) rfl rfl rfl (hT _ w_1_2) (hT _ w_5_132) (by decide +kernel) ⟨Nat.le_trans (by decide) hRf, Nat.le_trans (by decide) hRl⟩, hT _ w_4_79, hT _ w_4_80⟩ ⟨PV.blind, va_recv hK hW.1 (ci := 1) (q0 := q15) rfl (pic_obj fq15.1 fq15.2 (by decide)), PV.at _ hW hK hN hE hS hF⟩ rfl rfl hl.1 rfl (lv_room (Nat.le_of_ble_eq_true rfl)) d_Wrt_chooseCoding_34 ⟨(Nat.le_trans (Nat.le_add_right _ _) hRc), (Nat.le_trans (Nat.le_add_right _ _) hRs)⟩) hS (fun q _ h => hF q h) hF (fun  x16 t H locs ht hvm hw hB hz1 hk1 hS => ?_)
    have hW := Wd.back hB ht hF
    clear hB ht hF hz1 hk1 hvm
    refine lv_iload hx hb d_Wrt_chooseCoding_37 (lv_at hl 4 rfl) ?_
    refine lv_if_ne (tgt := 58) hx hb d_Wrt_chooseCoding_39 (by decide) (fun c17 => ?_) (fun c17 => ?_)
    · have hw := hw.1 c17
      refine lv_iload_n hx hb d_Wrt_chooseCoding_58 rfl (lv_at hl 1 rfl) ?_
      refine lv_if_ne (tgt := 69) hx hb d_Wrt_chooseCoding_59 (by decide) (fun c18 => ?_) (fun c18 => ?_)
      · have hw := hw.1 c18
        refine lv_iload hx hb d_Wrt_chooseCoding_69 (lv_at hl 4 rfl) ?_
        refine lv_iload_n hx hb d_Wrt_chooseCoding_71 rfl (lv_at hl 2 rfl) ?_
        refine lv_icmp_ne (tgt := 83) hx hb d_Wrt_chooseCoding_72 (by decide) (fun c19 => ?_) (fun c19 => ?_)
        · have hw := hw.1 c19
          refine lv_iload_n hx hb d_Wrt_chooseCoding_83 rfl (lv_at hl 1 rfl) ?_
          refine lv_iconst (v := 3) hx hb d_Wrt_chooseCoding_84 (by decide) ?_
          refine lv_icmp_ne (tgt := 106) hx hb d_Wrt_chooseCoding_85 (by decide) (fun c20 => ?_) (fun c20 => ?_)
          · have hw := hw.1 c20
            refine lv_aload_n hx hb d_Wrt_chooseCoding_106 rfl (lv_at hl 0 rfl) ?_
            obtain ⟨q21, hq21, hw⟩ := hw
            refine w_getr (q := q21) (k := 4) (t := 5) (C := R_Wrt) (T := F_Wrt) (N := 20) hx hb hT hown hK hW fo.1 fo.2 (by decide) in_Wrt rfl rfl (by decide) rfl fr_Wrt_4 w_2_55 d_Wrt_chooseCoding_107 hq21 (fun aq21 bq21 => ?_)
            have fq21 : q21 < NN ∧ kcC q21 = 1 := ⟨aq21, bq21⟩
            refine lv_aload_n hx hb d_Wrt_chooseCoding_110 rfl (lv_at hl 0 rfl) ?_
            refine w_getf (q := (stC o 10)) (k := 10) (t := 5) (C := R_Wrt) (T := F_Wrt) (N := 20) hx hb hT hown hK hW fo.1 fo.2 (by decide) in_Wrt rfl rfl (by decide) rfl fr_Wrt_10 w_2_61 d_Wrt_chooseCoding_111 rfl ?_
            refine lv_aload_n hx hb d_Wrt_chooseCoding_114 rfl (lv_at hl 0 rfl) ?_
            refine w_geti (k := 12) (t := 5) (C := R_Wrt) (T := F_Wrt) (N := 20) hx hb hT hown hK hW fo.1 fo.2 (by decide) in_Wrt rfl rfl (by decide) rfl fr_Wrt_12 w_2_63 d_Wrt_chooseCoding_115 ?_
            obtain ⟨k22, n23, k24, n25, ek22, en23, hw⟩ := hw
            have hF := hW.free hS hA
            refine va_callv (va_runV (C := R_Snk) (As := [.ref (ad (stC o 10)), .int (fI x16 o 12)]) (rest := []) ⟨hx, hb, hml, hown, hT⟩ (k_Snk_putCode l dC dI cI cB cJ cZ ad NN E tM tC kK kV hNN H.size q21 (stC o 10) (fI x16 o 12) k22 n23 x16 fq21 (st_ty hNN fo.1 fo.2 rfl) hw) ⟨callB_of 2 hT (gw_in w_6_5) rfl rfl rfl (hT _ w_1_2) (hT _ w_6_2) (by decide +kernel) ⟨Nat.le_trans (by decide) hRf, Nat.le_trans (by decide) hRl⟩, hT _ w_6_3, hT _ w_6_4⟩ ⟨PV.blind, va_recv hK hW.1 (ci := 1) (q0 := q21) rfl (pic_obj fq21.1 fq21.2 (by decide)), PV.at _ hW hK hN hE hS hF⟩ rfl rfl hl.1 rfl (lv_room (Nat.le_of_ble_eq_true rfl)) d_Wrt_chooseCoding_118 ⟨show cells + k22 ≤ R.cells by omega, show slots + n23 ≤ R.slots by omega⟩) hS (fun q _ h => hF q h) hF (fun  x26 t H locs ht hvm hw hB hz1 hk1 hS => ?_)
            obtain ⟨x26, ad, NN⟩ := x26
            obtain ⟨hB, hle, hg⟩ := hB
            try dsimp only at hw hB hle hg
            have hW := Wd.back hB ht hF
            rw [← hg o fo.1] at hl
            have fo : o < NN ∧ kcC o = 5 := ⟨Nat.lt_of_lt_of_le fo.1 hle, fo.2⟩
            have fq15 : q15 < NN ∧ kcC q15 = 1 := ⟨Nat.lt_of_lt_of_le fq15.1 hle, fq15.2⟩
            have fq21 : q21 < NN ∧ kcC q21 = 1 := ⟨Nat.lt_of_lt_of_le fq21.1 hle, fq21.2⟩
            have hag : NN0 ≤ NN ∧ ∀ o : Nat, o < NN0 → ad o = ad0 o := ⟨Nat.le_trans hag.1 hle, fun o h => (hg o (Nat.lt_of_lt_of_le h hag.1)).trans (hag.2 o h)⟩
            have hNN : 152 ≤ NN := Nat.le_trans hNN hle
            clear hg hle
            obtain ⟨cells, ec⟩ : ∃ z, z = cells + k22 := ⟨_, rfl⟩
            obtain ⟨slots, es⟩ : ∃ z, z = slots + n23 := ⟨_, rfl⟩
            rw [← ec, ← es]
            have hRc : cells + k24 ≤ R.cells := by omega
            have hRs : slots + n25 ≤ R.slots := by omega
            clear ec es hB ht hF hz1 hk1 hvm ek22 en23
            exact t_Wrt_chooseCoding_121 hx hb hml hown hT hK hN hA hRf hRl hE hret hrec24 ad NN cells slots o l1 l2 l3 l4 k24 n25 x26 H locs ls hNN hag hRc hRs fo hw hW hS (lv_sub hl [0, 1, 2, 3, 4] rfl)
          · have hw := hw.2 c20
            refine lv_aload_n hx hb d_Wrt_chooseCoding_88 rfl (lv_at hl 0 rfl) ?_
            refine lv_iload hx hb d_Wrt_chooseCoding_89 (lv_at hl 4 rfl) ?_
            refine lv_iconst (v := 2) hx hb d_Wrt_chooseCoding_91 (by decide) ?_
            refine lv_icmp_ne (tgt := 99) hx hb d_Wrt_chooseCoding_92 (by decide) (fun c27 => ?_) (fun c27 => ?_)
            · have hw := hw.1 c27
              refine lv_iconst (v := 0) hx hb d_Wrt_chooseCoding_99 (by decide) ?_
              exact t_Wrt_chooseCoding_100 hx hb hml hown hT hK hN hA hRf hRl hE hret hrec24 ad NN cells slots o l1 l2 l3 l4 0 o kb nb x16 H locs ls hNN hag hRc hRs fo fo hw hW hS (lv_sub hl [0, 1, 2, 3, 4] rfl)
            · have hw := hw.2 c27
              refine lv_iconst (v := 1) hx hb d_Wrt_chooseCoding_95 (by decide) ?_
              refine lv_goto (tgt := 100) hx hb d_Wrt_chooseCoding_96 (by decide) ?_
              exact t_Wrt_chooseCoding_100 hx hb hml hown hT hK hN hA hRf hRl hE hret hrec24 ad NN cells slots o l1 l2 l3 l4 1 o kb nb x16 H locs ls hNN hag hRc hRs fo fo hw hW hS (lv_sub hl [0, 1, 2, 3, 4] rfl)
        · have hw := hw.2 c19
          refine lv_aload_n hx hb d_Wrt_chooseCoding_75 rfl (lv_at hl 0 rfl) ?_
          refine lv_iload_n hx hb d_Wrt_chooseCoding_76 rfl (lv_at hl 1 rfl) ?_
          obtain ⟨k28, n29, k30, n31, ek28, en29, hw⟩ := hw
          have hF := hW.free hS hA
          refine va_callv (va_runV (C := R_Wrt) (As := [.int l1]) (rest := []) ⟨hx, hb, hml, hown, hT⟩ (k_Wrt_putDictionary l dC dI cI cB cJ cZ ad NN E tM tC kK kV hNN H.size o l1 k28 n29 x16 fo hw) ⟨callB_of 1 hT (gw_in w_5_214) rfl rfl rfl (hT _ w_1_8) (hT _ w_5_211) (by decide +kernel) ⟨Nat.le_trans (by decide) hRf, Nat.le_trans (by decide) hRl⟩, hT _ w_5_213, hT _ ws_25⟩ ⟨PV.blind, va_recv hK hW.1 (ci := 5) (q0 := o) rfl (pic_obj fo.1 fo.2 (by decide)), PV.at _ hW hK hN hE hS hF⟩ rfl rfl hl.1 rfl (lv_room (Nat.le_of_ble_eq_true rfl)) d_Wrt_chooseCoding_77 ⟨show cells + k28 ≤ R.cells by omega, show slots + n29 ≤ R.slots by omega⟩) hS (fun q _ h => hF q h) hF (fun  x32 t H locs ht hvm hw hB hz1 hk1 hS => ?_)
          obtain ⟨x32, ad, NN⟩ := x32
          obtain ⟨hB, hle, hg⟩ := hB
          try dsimp only at hw hB hle hg
          have hW := Wd.back hB ht hF
          rw [← hg o fo.1] at hl
          have fo : o < NN ∧ kcC o = 5 := ⟨Nat.lt_of_lt_of_le fo.1 hle, fo.2⟩
          have fq15 : q15 < NN ∧ kcC q15 = 1 := ⟨Nat.lt_of_lt_of_le fq15.1 hle, fq15.2⟩
          have hag : NN0 ≤ NN ∧ ∀ o : Nat, o < NN0 → ad o = ad0 o := ⟨Nat.le_trans hag.1 hle, fun o h => (hg o (Nat.lt_of_lt_of_le h hag.1)).trans (hag.2 o h)⟩
          have hNN : 152 ≤ NN := Nat.le_trans hNN hle
          clear hg hle
          obtain ⟨cells, ec⟩ : ∃ z, z = cells + k28 := ⟨_, rfl⟩
          obtain ⟨slots, es⟩ : ∃ z, z = slots + n29 := ⟨_, rfl⟩
          rw [← ec, ← es]
          have hRc : cells + k30 ≤ R.cells := by omega
          have hRs : slots + n31 ≤ R.slots := by omega
          clear ec es hB ht hF hz1 hk1 hvm ek28 en29
          refine lv_goto (tgt := 121) hx hb d_Wrt_chooseCoding_80 (by decide) ?_
          exact t_Wrt_chooseCoding_121 hx hb hml hown hT hK hN hA hRf hRl hE hret hrec24 ad NN cells slots o l1 l2 l3 l4 k30 n31 x32 H locs ls hNN hag hRc hRs fo hw hW hS (lv_sub hl [0, 1, 2, 3, 4] rfl)
      · have hw := hw.2 c18
        refine lv_aload_n hx hb d_Wrt_chooseCoding_62 rfl (lv_at hl 0 rfl) ?_
        obtain ⟨k33, n34, k35, n36, ek33, en34, hw⟩ := hw
        have hF := hW.free hS hA
        refine va_callv (va_runV (C := R_Wrt) (As := []) (rest := []) ⟨hx, hb, hml, hown, hT⟩ (k_Wrt_putBoolRuns l dC dI cI cB cJ cZ ad NN E tM tC kK kV hNN H.size o k33 n34 x16 fo hw) ⟨callB_of 0 hT (gw_in w_5_193) rfl rfl rfl (hT _ w_1_8) (hT _ w_5_190) (by decide +kernel) ⟨Nat.le_trans (by decide) hRf, Nat.le_trans (by decide) hRl⟩, hT _ w_5_192, hT _ ws_22⟩ ⟨PV.blind, va_recv hK hW.1 (ci := 5) (q0 := o) rfl (pic_obj fo.1 fo.2 (by decide)), PV.at _ hW hK hN hE hS hF⟩ rfl rfl hl.1 rfl (lv_room (Nat.le_of_ble_eq_true rfl)) d_Wrt_chooseCoding_63 ⟨show cells + k33 ≤ R.cells by omega, show slots + n34 ≤ R.slots by omega⟩) hS (fun q _ h => hF q h) hF (fun  x37 t H locs ht hvm hw hB hz1 hk1 hS => ?_)
        obtain ⟨x37, ad, NN⟩ := x37
        obtain ⟨hB, hle, hg⟩ := hB
        try dsimp only at hw hB hle hg
        have hW := Wd.back hB ht hF
        rw [← hg o fo.1] at hl
        have fo : o < NN ∧ kcC o = 5 := ⟨Nat.lt_of_lt_of_le fo.1 hle, fo.2⟩
        have fq15 : q15 < NN ∧ kcC q15 = 1 := ⟨Nat.lt_of_lt_of_le fq15.1 hle, fq15.2⟩
        have hag : NN0 ≤ NN ∧ ∀ o : Nat, o < NN0 → ad o = ad0 o := ⟨Nat.le_trans hag.1 hle, fun o h => (hg o (Nat.lt_of_lt_of_le h hag.1)).trans (hag.2 o h)⟩
        have hNN : 152 ≤ NN := Nat.le_trans hNN hle
        clear hg hle
        obtain ⟨cells, ec⟩ : ∃ z, z = cells + k33 := ⟨_, rfl⟩
        obtain ⟨slots, es⟩ : ∃ z, z = slots + n34 := ⟨_, rfl⟩
        rw [← ec, ← es]
        have hRc : cells + k35 ≤ R.cells := by omega
        have hRs : slots + n36 ≤ R.slots := by omega
        clear ec es hB ht hF hz1 hk1 hvm ek33 en34
        refine lv_goto (tgt := 121) hx hb d_Wrt_chooseCoding_66 (by decide) ?_
        exact t_Wrt_chooseCoding_121 hx hb hml hown hT hK hN hA hRf hRl hE hret hrec24 ad NN cells slots o l1 l2 l3 l4 k35 n36 x37 H locs ls hNN hag hRc hRs fo hw hW hS (lv_sub hl [0, 1, 2, 3, 4] rfl)
    · have hw := hw.2 c17
      refine lv_aload_n hx hb d_Wrt_chooseCoding_42 rfl (lv_at hl 0 rfl) ?_
      refine lv_iload_n hx hb d_Wrt_chooseCoding_43 rfl (lv_at hl 1 rfl) ?_
      refine lv_aload_n hx hb d_Wrt_chooseCoding_44 rfl (lv_at hl 0 rfl) ?_
      refine w_getf (q := (stC o 10)) (k := 10) (t := 5) (C := R_Wrt) (T := F_Wrt) (N := 20) hx hb hT hown hK hW fo.1 fo.2 (by decide) in_Wrt rfl rfl (by decide) rfl fr_Wrt_10 w_2_61 d_Wrt_chooseCoding_45 rfl ?_
      refine lv_aload_n hx hb d_Wrt_chooseCoding_48 rfl (lv_at hl 0 rfl) ?_
      refine w_geti (k := 12) (t := 5) (C := R_Wrt) (T := F_Wrt) (N := 20) hx hb hT hown hK hW fo.1 fo.2 (by decide) in_Wrt rfl rfl (by decide) rfl fr_Wrt_12 w_2_63 d_Wrt_chooseCoding_49 ?_
      obtain ⟨k38, n39, k40, n41, ek38, en39, hw⟩ := hw
      have hF := hW.free hS hA
      refine va_callv (va_runV (C := R_Wrt) (As := [.int l1, .ref (ad (stC o 10)), .int (fI x16 o 12)]) (rest := []) ⟨hx, hb, hml, hown, hT⟩ (k_Wrt_putPlain l dC dI cI cB cJ cZ ad NN E tM tC kK kV hNN H.size o l1 (stC o 10) (fI x16 o 12) k38 n39 x16 fo (st_ty hNN fo.1 fo.2 rfl) hw) ⟨callB_of 3 hT (gw_in w_5_174) rfl rfl rfl (hT _ w_1_8) (hT _ w_5_171) (by decide +kernel) ⟨Nat.le_trans (by decide) hRf, Nat.le_trans (by decide) hRl⟩, hT _ w_5_173, hT _ ws_21⟩ ⟨PV.blind, va_recv hK hW.1 (ci := 5) (q0 := o) rfl (pic_obj fo.1 fo.2 (by decide)), PV.at _ hW hK hN hE hS hF⟩ rfl rfl hl.1 rfl (lv_room (Nat.le_of_ble_eq_true rfl)) d_Wrt_chooseCoding_52 ⟨show cells + k38 ≤ R.cells by omega, show slots + n39 ≤ R.slots by omega⟩) hS (fun q _ h => hF q h) hF (fun  x42 t H locs ht hvm hw hB hz1 hk1 hS => ?_)
      obtain ⟨x42, ad, NN⟩ := x42
      obtain ⟨hB, hle, hg⟩ := hB
      try dsimp only at hw hB hle hg
      have hW := Wd.back hB ht hF
      rw [← hg o fo.1] at hl
      have fo : o < NN ∧ kcC o = 5 := ⟨Nat.lt_of_lt_of_le fo.1 hle, fo.2⟩
      have fq15 : q15 < NN ∧ kcC q15 = 1 := ⟨Nat.lt_of_lt_of_le fq15.1 hle, fq15.2⟩
      have hag : NN0 ≤ NN ∧ ∀ o : Nat, o < NN0 → ad o = ad0 o := ⟨Nat.le_trans hag.1 hle, fun o h => (hg o (Nat.lt_of_lt_of_le h hag.1)).trans (hag.2 o h)⟩
      have hNN : 152 ≤ NN := Nat.le_trans hNN hle
      clear hg hle
      obtain ⟨cells, ec⟩ : ∃ z, z = cells + k38 := ⟨_, rfl⟩
      obtain ⟨slots, es⟩ : ∃ z, z = slots + n39 := ⟨_, rfl⟩
      rw [← ec, ← es]
      have hRc : cells + k40 ≤ R.cells := by omega
      have hRs : slots + n41 ≤ R.slots := by omega
      clear ec es hB ht hF hz1 hk1 hvm ek38 en39
      refine lv_goto (tgt := 121) hx hb d_Wrt_chooseCoding_55 (by decide) ?_
      exact t_Wrt_chooseCoding_121 hx hb hml hown hT hK hN hA hRf hRl hE hret hrec24 ad NN cells slots o l1 l2 l3 l4 k40 n41 x42 H locs ls hNN hag hRc hRs fo hw hW hS (lv_sub hl [0, 1, 2, 3, 4] rfl)
def wl_Wrt_chooseCoding_24 (post : Int32 → St → Prop) : Nat → Nat → Int32 → Int32 → Int32 → Int32 → Nat → Nat → St → Prop
  | 0 => fun _ _ _ _ _ _ _ _ => False
  | n + 1 => j_Wrt_chooseCoding_24 post (wl_Wrt_chooseCoding_24 post n)
set_option maxHeartbeats 4000000 in
set_option maxRecDepth 100000 in
theorem tl_Wrt_chooseCoding_24 {p : Program} {l : Launch} {e : Env} {R : Room} {s : State} {m : MethodId} {args : Array Value} {below : List Frame} {meth : Method} {c : Code} {Q : State → Prop} {dC : Nat → ClassId} {dI : Nat → Nat → Nat} {cI cB cJ cZ : ClassId} {A : Nat → Prop} {E : Heap} {tM tC : Nat} {kK kV : Nat → Nat} {ad0 : Nat → Nat} {NN0 : Nat} {post : Int32 → St → Prop} (hx : p.tables.exec = Jvm.exec) (hb : c.code = b_Wrt_chooseCoding) (hml : c.maxLocals = 6) (hown : s.vm.findClass R_Wrt = some m.cls) (hT : ∀ w ∈ TG, w.before args s = true) (hK : va_K (dC, dI) CL (TY cI cB cJ cZ) s) (hN : NW s) (hA : ∀ q : Nat, s.heap.size ≤ q → A q) (hRf : 7 ≤ R.frames) (hRl : 325 ≤ R.locals) (hE : CE E tM tC kK kV A s) (hret : ∀ (r : Int32) (ad : Nat → Nat) (NN cells slots : Nat) (x : St) (H : Heap) (locs : List Loc) (pc : Nat) (ls : Array Slot), decode b_Wrt_chooseCoding pc = .ok (.ireturn, 1) → (NN0 ≤ NN ∧ ∀ o : Nat, o < NN0 → ad o = ad0 o) → cells ≤ R.cells → slots ≤ R.slots → post r x → Wd dC dI cI cB cJ cZ ad stC kcC NN A x H → va_S A s.heap H locs → W p l e R s m args below meth c H locs cells slots Q (F0 m pc ls [.int r]))  : ∀ n : Nat, ∀ (ad : Nat → Nat) (NN cells slots : Nat) (o : Nat) (l1 : Int32) (l2 : Int32) (l3 : Int32) (l4 : Int32) (kb : Nat) (nb : Nat) (x : St) (H : Heap) (locs : List Loc) (ls : Array Slot), (152 ≤ NN) → (NN0 ≤ NN ∧ ∀ o : Nat, o < NN0 → ad o = ad0 o) → (cells + kb ≤ R.cells) → (slots + nb ≤ R.slots) → (o < NN ∧ kcC o = 5) → wl_Wrt_chooseCoding_24 post n o l1 l2 l3 l4 kb nb x → Wd dC dI cI cB cJ cZ ad stC kcC NN A x H → va_S A s.heap H locs → lv_has ls 6 [(0, .ref (ad o)), (1, .int l1), (2, .int l2), (3, .int l3), (4, .int l4)] → W p l e R s m args below meth c H locs cells slots Q (F0 m 24 ls []) := by
  intro n
  induction n with
  | zero => intro ad NN cells slots o l1 l2 l3 l4 kb nb x H locs ls hNN hag hRc hRs fo hw; exact hw.elim
  | succ n ih => intro ad NN cells slots o l1 l2 l3 l4 kb nb x H locs ls hNN hag hRc hRs fo hw hW hS hl; exact t_Wrt_chooseCoding_24 hx hb hml hown hT hK hN hA hRf hRl hE hret  ih ad NN cells slots o l1 l2 l3 l4 kb nb x H locs ls hNN hag hRc hRs fo hw hW hS hl
set_option maxRecDepth 100000 in
def j_Wrt_chooseCoding_18 (post : Int32 → St → Prop) (o : Nat) (l1 : Int32) (s0 : Int32) (kb : Nat) (nb : Nat) (x : St) : Prop := ∃ n : Nat, wl_Wrt_chooseCoding_24 post n o l1 s0 0 0 kb nb x
set_option maxHeartbeats 4000000 in
set_option maxRecDepth 100000 in
theorem t_Wrt_chooseCoding_18 {p : Program} {l : Launch} {e : Env} {R : Room} {s : State} {m : MethodId} {args : Array Value} {below : List Frame} {meth : Method} {c : Code} {Q : State → Prop} {dC : Nat → ClassId} {dI : Nat → Nat → Nat} {cI cB cJ cZ : ClassId} {A : Nat → Prop} {E : Heap} {tM tC : Nat} {kK kV : Nat → Nat} {ad0 : Nat → Nat} {NN0 : Nat} {post : Int32 → St → Prop} (hx : p.tables.exec = Jvm.exec) (hb : c.code = b_Wrt_chooseCoding) (hml : c.maxLocals = 6) (hown : s.vm.findClass R_Wrt = some m.cls) (hT : ∀ w ∈ TG, w.before args s = true) (hK : va_K (dC, dI) CL (TY cI cB cJ cZ) s) (hN : NW s) (hA : ∀ q : Nat, s.heap.size ≤ q → A q) (hRf : 7 ≤ R.frames) (hRl : 325 ≤ R.locals) (hE : CE E tM tC kK kV A s) (hret : ∀ (r : Int32) (ad : Nat → Nat) (NN cells slots : Nat) (x : St) (H : Heap) (locs : List Loc) (pc : Nat) (ls : Array Slot), decode b_Wrt_chooseCoding pc = .ok (.ireturn, 1) → (NN0 ≤ NN ∧ ∀ o : Nat, o < NN0 → ad o = ad0 o) → cells ≤ R.cells → slots ≤ R.slots → post r x → Wd dC dI cI cB cJ cZ ad stC kcC NN A x H → va_S A s.heap H locs → W p l e R s m args below meth c H locs cells slots Q (F0 m pc ls [.int r]))  : ∀ (ad : Nat → Nat) (NN cells slots : Nat) (o : Nat) (l1 : Int32) (s0 : Int32) (kb : Nat) (nb : Nat) (x : St) (H : Heap) (locs : List Loc) (ls : Array Slot), (152 ≤ NN) → (NN0 ≤ NN ∧ ∀ o : Nat, o < NN0 → ad o = ad0 o) → (cells + kb ≤ R.cells) → (slots + nb ≤ R.slots) → (o < NN ∧ kcC o = 5) → j_Wrt_chooseCoding_18 post o l1 s0 kb nb x → Wd dC dI cI cB cJ cZ ad stC kcC NN A x H → va_S A s.heap H locs → lv_has ls 6 [(0, .ref (ad o)), (1, .int l1)] → W p l e R s m args below meth c H locs cells slots Q (F0 m 18 ls [.int s0]) := by
  intro ad NN cells slots o l1 s0 kb nb x H locs ls hNN hag hRc hRs fo hw hW hS hl
  unfold j_Wrt_chooseCoding_18 at hw
  refine lv_istore_n (lv' := [(2, .int s0), (0, .ref (ad o)), (1, .int l1)]) hx hb d_Wrt_chooseCoding_18 rfl hl (by decide) rfl (fun ls hl => ?_)
  refine lv_iconst (v := 0) hx hb d_Wrt_chooseCoding_19 (by decide) ?_
  refine lv_istore_n (lv' := [(3, .int 0), (2, .int s0), (0, .ref (ad o)), (1, .int l1)]) hx hb d_Wrt_chooseCoding_20 rfl hl (by decide) rfl (fun ls hl => ?_)
  refine lv_iconst (v := 0) hx hb d_Wrt_chooseCoding_21 (by decide) ?_
  refine lv_istore (lv' := [(4, .int 0), (3, .int 0), (2, .int s0), (0, .ref (ad o)), (1, .int l1)]) hx hb d_Wrt_chooseCoding_22 hl (by decide) rfl (fun ls hl => ?_)
  obtain ⟨n, hw⟩ := hw
  exact tl_Wrt_chooseCoding_24 hx hb hml hown hT hK hN hA hRf hRl hE hret  n ad NN cells slots o l1 s0 0 0 kb nb x H locs ls hNN hag hRc hRs fo hw hW hS (lv_sub hl [3, 4, 2, 1, 0] rfl)
set_option maxRecDepth 100000 in
def wp_Wrt_chooseCoding (post : Int32 → St → Prop) (o : Nat) (l1 : Int32) (kb : Nat) (nb : Nat) (x : St) : Prop := ((¬ l1 = 0 → ((¬ l1 = 3 → j_Wrt_chooseCoding_18 post o l1 2 kb nb x) ∧ (l1 = 3 → j_Wrt_chooseCoding_18 post o l1 3 kb nb x))) ∧ (l1 = 0 → j_Wrt_chooseCoding_18 post o l1 1 kb nb x))
set_option maxHeartbeats 4000000 in
set_option maxRecDepth 100000 in
theorem t_Wrt_chooseCoding_e {p : Program} {l : Launch} {e : Env} {R : Room} {s : State} {m : MethodId} {args : Array Value} {below : List Frame} {meth : Method} {c : Code} {Q : State → Prop} {dC : Nat → ClassId} {dI : Nat → Nat → Nat} {cI cB cJ cZ : ClassId} {A : Nat → Prop} {E : Heap} {tM tC : Nat} {kK kV : Nat → Nat} {ad0 : Nat → Nat} {NN0 : Nat} {post : Int32 → St → Prop} (hx : p.tables.exec = Jvm.exec) (hb : c.code = b_Wrt_chooseCoding) (hml : c.maxLocals = 6) (hown : s.vm.findClass R_Wrt = some m.cls) (hT : ∀ w ∈ TG, w.before args s = true) (hK : va_K (dC, dI) CL (TY cI cB cJ cZ) s) (hN : NW s) (hA : ∀ q : Nat, s.heap.size ≤ q → A q) (hRf : 7 ≤ R.frames) (hRl : 325 ≤ R.locals) (hE : CE E tM tC kK kV A s) (hret : ∀ (r : Int32) (ad : Nat → Nat) (NN cells slots : Nat) (x : St) (H : Heap) (locs : List Loc) (pc : Nat) (ls : Array Slot), decode b_Wrt_chooseCoding pc = .ok (.ireturn, 1) → (NN0 ≤ NN ∧ ∀ o : Nat, o < NN0 → ad o = ad0 o) → cells ≤ R.cells → slots ≤ R.slots → post r x → Wd dC dI cI cB cJ cZ ad stC kcC NN A x H → va_S A s.heap H locs → W p l e R s m args below meth c H locs cells slots Q (F0 m pc ls [.int r])) : ∀ (ad : Nat → Nat) (NN cells slots : Nat) (o : Nat) (l1 : Int32) (kb : Nat) (nb : Nat) (x : St) (H : Heap) (locs : List Loc) (ls : Array Slot), (152 ≤ NN) → (NN0 ≤ NN ∧ ∀ o : Nat, o < NN0 → ad o = ad0 o) → (cells + kb ≤ R.cells) → (slots + nb ≤ R.slots) → (o < NN ∧ kcC o = 5) → wp_Wrt_chooseCoding post o l1 kb nb x → Wd dC dI cI cB cJ cZ ad stC kcC NN A x H → va_S A s.heap H locs → lv_has ls 6 [(0, .ref (ad o)), (1, .int l1)] → W p l e R s m args below meth c H locs cells slots Q (F0 m 0 ls []) := by
  intro ad NN cells slots o l1 kb nb x H locs ls hNN hag hRc hRs fo hw hW hS hl
  unfold wp_Wrt_chooseCoding at hw
  refine lv_iload_n hx hb d_Wrt_chooseCoding_0 rfl (lv_at hl 1 rfl) ?_
  refine lv_if_ne (tgt := 8) hx hb d_Wrt_chooseCoding_1 (by decide) (fun c43 => ?_) (fun c43 => ?_)
  · have hw := hw.1 c43
    refine lv_iload_n hx hb d_Wrt_chooseCoding_8 rfl (lv_at hl 1 rfl) ?_
    refine lv_iconst (v := 3) hx hb d_Wrt_chooseCoding_9 (by decide) ?_
    refine lv_icmp_ne (tgt := 17) hx hb d_Wrt_chooseCoding_10 (by decide) (fun c44 => ?_) (fun c44 => ?_)
    · have hw := hw.1 c44
      refine lv_iconst (v := 2) hx hb d_Wrt_chooseCoding_17 (by decide) ?_
      exact t_Wrt_chooseCoding_18 hx hb hml hown hT hK hN hA hRf hRl hE hret  ad NN cells slots o l1 2 kb nb x H locs ls hNN hag hRc hRs fo hw hW hS (lv_sub hl [0, 1] rfl)
    · have hw := hw.2 c44
      refine lv_iconst (v := 3) hx hb d_Wrt_chooseCoding_13 (by decide) ?_
      refine lv_goto (tgt := 18) hx hb d_Wrt_chooseCoding_14 (by decide) ?_
      exact t_Wrt_chooseCoding_18 hx hb hml hown hT hK hN hA hRf hRl hE hret  ad NN cells slots o l1 3 kb nb x H locs ls hNN hag hRc hRs fo hw hW hS (lv_sub hl [0, 1] rfl)
  · have hw := hw.2 c43
    refine lv_iconst (v := 1) hx hb d_Wrt_chooseCoding_4 (by decide) ?_
    refine lv_goto (tgt := 18) hx hb d_Wrt_chooseCoding_5 (by decide) ?_
    exact t_Wrt_chooseCoding_18 hx hb hml hown hT hK hN hA hRf hRl hE hret  ad NN cells slots o l1 1 kb nb x H locs ls hNN hag hRc hRs fo hw hW hS (lv_sub hl [0, 1] rfl)
set_option maxHeartbeats 4000000 in
set_option maxRecDepth 100000 in
theorem k_Wrt_chooseCoding (l : Launch) (dC : Nat → ClassId) (dI : Nat → Nat → Nat) (cI cB cJ cZ : ClassId) (ad : Nat → Nat) (NN : Nat) (E : Heap) (tM tC : Nat) (kK kV : Nat → Nat) (hNN : 152 ≤ NN) (sz : Nat) (o : Nat) (l1 : Int32) (kb : Nat) (nb : Nat) (x : St) (fo : o < NN ∧ kcC o = 5) {post : Int32 → St → Prop} (hw : wp_Wrt_chooseCoding post o l1 kb nb x) : Met l y_Wrt_chooseCoding (wsOf y_Wrt_chooseCoding b_Wrt_chooseCoding 6 (some (.int))) ({ frames := 7, cells := kb, slots := nb, locals := 325 }) (va_Pc [.ref (ad o), .int l1] (PV dC dI cI cB cJ cZ ad stC kcC NN E tM tC kK kV sz x)) (va_Qi (fun (r : Int32) (u : St × (Nat → Nat) × Nat) => post r u.1) (fun u t => Wd dC dI cI cB cJ cZ u.2.1 stC kcC u.2.2 (va_A (pic ad stC kcC NN cI cB cJ cZ x) sz) u.1 t.heap ∧ NN ≤ u.2.2 ∧ ∀ o : Nat, o < NN → u.2.1 o = ad o) (va_A (pic ad stC kcC NN cI cB cJ cZ x) sz)) kb nb (va_A (pic ad stC kcC NN cI cB cJ cZ x) sz) := by
  refine Met.ofW (cc := b_Wrt_chooseCoding) (maxL := 6) (ret := some (.int)) (by decide) rfl ?_
  intro p e s m args below meth c s₁ B hml hv
  obtain ⟨rfl, ⟨hsz, hW0, hK, hN⟩, hE⟩ := hv
  have hx := B.exec
  have hb := B.bytes
  have hr := B.returns
  have hts := atoms_spec B.pre
  have hT : ∀ w ∈ TG, w.before _ s = true := fun w h => hts w (List.mem_cons_of_mem _ h)
  have hown : s.vm.findClass R_Wrt = some m.cls := findClass_of_methodNamed B.named
  have hlocks := B.notSynchronized
  subst hsz
  have hW : Wd dC dI cI cB cJ cZ ad stC kcC NN (va_A (pic ad stC kcC NN cI cB cJ cZ x) s.heap.size) x s.heap := ⟨hW0.1, hW0.2.1.self (sz := s.heap.size), hW0.2.2⟩
  generalize hAe : va_A (pic ad stC kcC NN cI cB cJ cZ x) s.heap.size = A at hW hE ⊢
  have hA : ∀ q : Nat, s.heap.size ≤ q → A q := fun q h => by rw [← hAe]; exact Or.inr h
  have hS : va_S A s.heap s.heap [] := va_S.rf
  have hl := lv_entry ([.ref (ad o), .int l1]) (n := 6) (Nat.le_of_ble_eq_true rfl)
  rw [lg_entry_eq]
  generalize (lg_sl ([.ref (ad o), .int l1]) ++ List.replicate (6 - (lg_sl ([.ref (ad o), .int l1])).length) Slot.unset).toArray = ls at hl ⊢
  have hl : lv_has ls 6 [(0, .ref (ad o)), (1, .int l1)] := hl
  exact t_Wrt_chooseCoding_e hx hb hml hown hT hK hN hA (Nat.le_refl 7) (Nat.le_refl 325) hE (fun r ad1 NN1 cells slots x1 H locs pc ls hd hag hc hs hp hW hS => W.widen (k := kb) (n := nb) hc hs (W.iret (v := r) hx hb hr (fun t ht hM => ⟨⟨r, (x1, ad1, NN1), rfl, hp, Wd.back hW ht.symm (fun _ z => z), hag.1, hag.2⟩, hS.F ht⟩) hS.2.2 hd hlocks))  ad NN 0 0 o l1 kb nb x _ _ ls hNN ⟨Nat.le_refl _, fun _ _ => rfl⟩ (Nat.le_of_eq (Nat.zero_add kb)) (Nat.le_of_eq (Nat.zero_add nb)) fo hw hW hS hl
end
